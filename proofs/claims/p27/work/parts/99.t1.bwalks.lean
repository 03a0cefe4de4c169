/-! What is owed for rows, what is seen, books, tapes, acts of both sides. -/
theorem w_alone {X : Scr} {dp : Nat} {h : Hp} {Q : Option Value → Hp → Prop} (w : Int32) (hs : HS h)
    (vc : Ends X dp 112 0 [.ref 93, .int w] [] h (fun rv h1 => ∃ r2, rv = some (.int r2) ∧ HS h1 ∧ ((condB .ne r2 0 = true → Ends X dp 139 0 [.ref 93, .int w] [] h1 (fun rv h5 => ∃ r6, rv = some (.int r6) ∧ HS h5 ∧ ((condB .eq r6 0 = true → Ends X dp 157 0 [.ref 93, .retAddr 0, .retAddr 0, .retAddr 0, .retAddr 0, .retAddr 0] [] (hpI (hpI h5 93 32 ((h5.2.1 93 2) &&& ((1 <<< (w &&& 31)) ^^^ (-1)))) 93 2 (1 <<< (w &&& 31))) (fun rv h9 => ∃ r10, rv = some (.int r10) ∧ HS h9 ∧ Ends X dp 111 0 [.ref 93, .int r10, .retAddr 0, .retAddr 0] [] h9 (fun rv h12 => ∃ r13, rv = some (.int r13) ∧ HS h12 ∧ Q (some (.int r13)) (hpI (hpI h12 93 32 0) 93 2 (h5.2.1 93 2))))) ∧ (condB .eq r6 0 = false → Q (some (.int (-3))) h5)))) ∧ (condB .ne r2 0 = false → Q (some (.int (-1))) h1)))) :
    Ends X (dp + 1) 170 0 [.ref 93, .int w, .retAddr 0, .retAddr 0] [] h Q := by
  have ra : ∀ {a : Nat}, a < 1000 → a ≤ OLDB := fun h => by have := OLDB_eq; omega
  refine e_aload_n (show pAt 170 0 = some (0, .aload_n 0, 1, []) from by decide +kernel) rfl (ra (by decide)) ?_
  refine e_iload_n (show pAt 170 1 = some (1, .iload_n 1, 1, []) from by decide +kernel) rfl ?_
  refine Ends.call (show pAt 170 2 = some (2, .invokevirtual 210, 3, [112, 2, 0, 0, 5089, 5091, 55]) from by decide +kernel) (isRet_none rfl) rfl (call_this (show HS h from hs) rfl rfl (by decide)) (Ends.mono vc ?_)
  rintro _ h1 ⟨r2, rfl, hs_h1, vc⟩
  refine e_if (t := 10) (show pAt 170 5 = some (5, .ifCond .ne 5, 3, []) from by decide +kernel) rfl (fun c4 => ?_) (fun c4 => ?_)
  · replace vc := vc.1 c4
    refine e_aload_n (show pAt 170 10 = some (10, .aload_n 0, 1, []) from by decide +kernel) rfl (ra (by decide)) ?_
    refine e_iload_n (show pAt 170 11 = some (11, .iload_n 1, 1, []) from by decide +kernel) rfl ?_
    refine Ends.call (show pAt 170 12 = some (12, .invokevirtual 291, 3, [139, 2, 0, 0, 5169, 5171, 70]) from by decide +kernel) (isRet_none rfl) rfl (call_this (show HS h1 from hs_h1) rfl rfl (by decide)) (Ends.mono vc ?_)
    rintro _ h5 ⟨r6, rfl, hs_h5, vc⟩
    refine e_if (t := 21) (show pAt 170 15 = some (15, .ifCond .eq 6, 3, []) from by decide +kernel) rfl (fun c8 => ?_) (fun c8 => ?_)
    · replace vc := vc.1 c8
      refine e_aload_n (show pAt 170 21 = some (21, .aload_n 0, 1, []) from by decide +kernel) rfl (ra (by decide)) ?_
      refine e_gIv (v := h5.2.1 93 2) (show pAt 170 22 = some (22, .getfield 16, 3, [7, 2, 0, 4125]) from by decide +kernel) (show HS h5 from hs_h5) rfl (by decide) rfl ?_
      refine e_istore_n (show pAt 170 25 = some (25, .istore_n 2, 1, []) from by decide +kernel) ⟨Nat.le_of_ble_eq_true rfl, rfl⟩ rfl ?_
      refine e_aload_n (show pAt 170 26 = some (26, .aload_n 0, 1, []) from by decide +kernel) rfl (ra (by decide)) ?_
      refine e_aload_n (show pAt 170 27 = some (27, .aload_n 0, 1, []) from by decide +kernel) rfl (ra (by decide)) ?_
      refine e_gIv (v := h5.2.1 93 2) (show pAt 170 28 = some (28, .getfield 16, 3, [7, 2, 0, 4125]) from by decide +kernel) (show HS h5 from hs_h5) rfl (by decide) rfl ?_
      refine e_iconst (c := 1) (show pAt 170 31 = some (31, .iconst 1, 1, []) from by decide +kernel) (by decide) ?_
      refine e_iload_n (show pAt 170 32 = some (32, .iload_n 1, 1, []) from by decide +kernel) rfl ?_
      refine e_ishl (show pAt 170 33 = some (33, .ishl, 1, []) from by decide +kernel) ?_
      refine e_iconst (c := (-1)) (show pAt 170 34 = some (34, .iconst (-1), 1, []) from by decide +kernel) (by decide) ?_
      refine e_ixor (show pAt 170 35 = some (35, .ixor, 1, []) from by decide +kernel) ?_
      refine e_iand (show pAt 170 36 = some (36, .iand, 1, []) from by decide +kernel) ?_
      refine e_pI (show pAt 170 37 = some (37, .putfield 109, 3, [7, 32, 0, 4155]) from by decide +kernel) (show HS h5 from hs_h5) (by decide) (Or.inl rfl) ?_
      refine e_aload_n (show pAt 170 40 = some (40, .aload_n 0, 1, []) from by decide +kernel) rfl (ra (by decide)) ?_
      refine e_iconst (c := 1) (show pAt 170 41 = some (41, .iconst 1, 1, []) from by decide +kernel) (by decide) ?_
      refine e_iload_n (show pAt 170 42 = some (42, .iload_n 1, 1, []) from by decide +kernel) rfl ?_
      refine e_ishl (show pAt 170 43 = some (43, .ishl, 1, []) from by decide +kernel) ?_
      refine e_pI (show pAt 170 44 = some (44, .putfield 16, 3, [7, 2, 0, 4125]) from by decide +kernel) (show HS (hpI h5 93 32 ((h5.2.1 93 2) &&& ((1 <<< (w &&& 31)) ^^^ (-1)))) from hs_h5) (by decide) (Or.inl rfl) ?_
      refine e_aload_n (show pAt 170 47 = some (47, .aload_n 0, 1, []) from by decide +kernel) rfl (ra (by decide)) ?_
      refine e_aload_n (show pAt 170 48 = some (48, .aload_n 0, 1, []) from by decide +kernel) rfl (ra (by decide)) ?_
      refine Ends.call (show pAt 170 49 = some (49, .invokevirtual 333, 3, [157, 1, 0, 0, 6009, 6011, 88]) from by decide +kernel) (isRet_none rfl) rfl (call_this (show HS (hpI (hpI h5 93 32 ((h5.2.1 93 2) &&& ((1 <<< (w &&& 31)) ^^^ (-1)))) 93 2 (1 <<< (w &&& 31))) from hs_h5) rfl rfl (by decide)) (Ends.mono vc ?_)
      rintro _ h9 ⟨r10, rfl, hs_h9, vc⟩
      refine Ends.call (show pAt 170 52 = some (52, .invokevirtual 342, 3, [111, 2, 0, 0, 6045, 6047, 96]) from by decide +kernel) (isRet_none rfl) rfl (call_this (show HS h9 from hs_h9) rfl rfl (by decide)) (Ends.mono vc ?_)
      rintro _ h12 ⟨r13, rfl, hs_h12, vc⟩
      refine e_istore_n (show pAt 170 55 = some (55, .istore_n 3, 1, []) from by decide +kernel) ⟨Nat.le_of_ble_eq_true rfl, rfl⟩ rfl ?_
      refine e_aload_n (show pAt 170 56 = some (56, .aload_n 0, 1, []) from by decide +kernel) rfl (ra (by decide)) ?_
      refine e_iconst (c := 0) (show pAt 170 57 = some (57, .iconst 0, 1, []) from by decide +kernel) (by decide) ?_
      refine e_pI (show pAt 170 58 = some (58, .putfield 109, 3, [7, 32, 0, 4155]) from by decide +kernel) (show HS h12 from hs_h12) (by decide) (Or.inl rfl) ?_
      refine e_aload_n (show pAt 170 61 = some (61, .aload_n 0, 1, []) from by decide +kernel) rfl (ra (by decide)) ?_
      refine e_iload_n (show pAt 170 62 = some (62, .iload_n 2, 1, []) from by decide +kernel) rfl ?_
      refine e_pI (show pAt 170 63 = some (63, .putfield 16, 3, [7, 2, 0, 4125]) from by decide +kernel) (show HS (hpI h12 93 32 0) from hs_h12) (by decide) (Or.inl rfl) ?_
      refine e_iload_n (show pAt 170 66 = some (66, .iload_n 3, 1, []) from by decide +kernel) rfl ?_
      exact e_retI (show pAt 170 67 = some (67, .ireturn, 1, []) from by decide +kernel) rfl vc
    · replace vc := vc.2 c8
      refine e_bipush (c := (-3)) (show pAt 170 18 = some (18, .bipush (-3), 2, []) from by decide +kernel) (by decide) ?_
      exact e_retI (show pAt 170 20 = some (20, .ireturn, 1, []) from by decide +kernel) rfl vc
  · replace vc := vc.2 c4
    refine e_iconst (c := (-1)) (show pAt 170 8 = some (8, .iconst (-1), 1, []) from by decide +kernel) (by decide) ?_
    exact e_retI (show pAt 170 9 = some (9, .ireturn, 1, []) from by decide +kernel) rfl vc

theorem w_chas {X : Scr} {dp : Nat} {h : Hp} {Q : Option Value → Hp → Prop} (p : Int32) (hs : HS h)
    (vc : ((condB .lt p 0 = true → Q (some (.int 0)) h) ∧ (condB .lt p 0 = false → ((condB .ge p (h.2.1 1 0) = true → Q (some (.int 0)) h) ∧ (condB .ge p (h.2.1 1 0) = false → ((condB .ge p 7 = true → Q (some (.int 0)) h) ∧ (condB .ge p 7 = false → Q (some (.int 1)) h))))))) :
    Ends X dp 26 0 [.ref 1, .int p] [] h Q := by
  have ra : ∀ {a : Nat}, a < 1000 → a ≤ OLDB := fun h => by have := OLDB_eq; omega
  refine e_iload_n (show pAt 26 0 = some (0, .iload_n 1, 1, []) from by decide +kernel) rfl ?_
  refine e_if (t := 22) (show pAt 26 1 = some (1, .ifCond .lt 21, 3, []) from by decide +kernel) rfl (fun c1 => ?_) (fun c1 => ?_)
  · replace vc := vc.1 c1
    refine e_iconst (c := 0) (show pAt 26 22 = some (22, .iconst 0, 1, []) from by decide +kernel) (by decide) ?_
    exact e_retZ (show pAt 26 23 = some (23, .ireturn, 1, []) from by decide +kernel) rfl (by decide) vc
  · replace vc := vc.2 c1
    refine e_iload_n (show pAt 26 4 = some (4, .iload_n 1, 1, []) from by decide +kernel) rfl ?_
    refine e_aload_n (show pAt 26 5 = some (5, .aload_n 0, 1, []) from by decide +kernel) rfl (ra (by decide)) ?_
    refine e_gIv (v := h.2.1 1 0) (show pAt 26 6 = some (6, .getfield 37, 3, [2, 0, 0, 1032]) from by decide +kernel) (show HS h from hs) rfl (by decide) rfl ?_
    refine e_icmp (t := 22) (show pAt 26 9 = some (9, .if_icmp .ge 13, 3, []) from by decide +kernel) rfl (fun c2 => ?_) (fun c2 => ?_)
    · replace vc := vc.1 c2
      refine e_iconst (c := 0) (show pAt 26 22 = some (22, .iconst 0, 1, []) from by decide +kernel) (by decide) ?_
      exact e_retZ (show pAt 26 23 = some (23, .ireturn, 1, []) from by decide +kernel) rfl (by decide) vc
    · replace vc := vc.2 c2
      refine e_iload_n (show pAt 26 12 = some (12, .iload_n 1, 1, []) from by decide +kernel) rfl ?_
      refine e_bipush (c := 7) (show pAt 26 13 = some (13, .bipush 7, 2, []) from by decide +kernel) (by decide) ?_
      refine e_icmp (t := 22) (show pAt 26 15 = some (15, .if_icmp .ge 7, 3, []) from by decide +kernel) rfl (fun c3 => ?_) (fun c3 => ?_)
      · replace vc := vc.1 c3
        refine e_iconst (c := 0) (show pAt 26 22 = some (22, .iconst 0, 1, []) from by decide +kernel) (by decide) ?_
        exact e_retZ (show pAt 26 23 = some (23, .ireturn, 1, []) from by decide +kernel) rfl (by decide) vc
      · replace vc := vc.2 c3
        refine e_iconst (c := 1) (show pAt 26 18 = some (18, .iconst 1, 1, []) from by decide +kernel) (by decide) ?_
        refine e_goto (t := 23) (show pAt 26 19 = some (19, .goto 4, 3, []) from by decide +kernel) rfl ?_
        exact e_retZ (show pAt 26 23 = some (23, .ireturn, 1, []) from by decide +kernel) rfl (by decide) vc

theorem w_crow {X : Scr} {dp : Nat} {h : Hp} {Q : Option Value → Hp → Prop} (p : Int32) (a : Int32) (n : Int32) (hs : HS h)
    (vc : Ends X dp 26 0 [.ref 1, .int p] [] h (fun rv h1 => ∃ r2, rv = some (.int r2) ∧ HS h1 ∧ ((condB .eq r2 0 = true → Q (some (.int (-1))) h1) ∧ (condB .eq r2 0 = false → ((condB .lt a 0 = true → Q (some (.int (-1))) h1) ∧ (condB .lt a 0 = false → ((condB .lt a 4 = true → Ends X dp 103 0 [.int n] [] h1 (fun rv h7 => ∃ r8, rv = some (.int r8) ∧ HS h7 ∧ ((condB .ne r8 0 = true → (inB p 7 = true ∧ ((condB .eq (h7.2.1 2 p.toNatClampNeg) 6 = true → (inB ((p * 4) + a) 28 = true ∧ (inB ((p * 4) + a) 28 = true ∧ Q (some (.int (h7.2.1 7 ((p * 4) + a).toNatClampNeg))) (hpI h7 7 ((p * 4) + a).toNatClampNeg n)))) ∧ (condB .eq (h7.2.1 2 p.toNatClampNeg) 6 = false → Q (some (.int (-3))) h7)))) ∧ (condB .ne r8 0 = false → Q (some (.int (-2))) h7)))) ∧ (condB .lt a 4 = false → Q (some (.int (-1))) h1)))))))) :
    Ends X (dp + 1) 67 0 [.ref 0, .int p, .int a, .int n, .retAddr 0] [] h Q := by
  have ra : ∀ {a : Nat}, a < 1000 → a ≤ OLDB := fun h => by have := OLDB_eq; omega
  refine e_aload_n (show pAt 67 0 = some (0, .aload_n 0, 1, []) from by decide +kernel) rfl (ra (by decide)) ?_
  refine e_gR (show pAt 67 1 = some (1, .getfield 12, 3, [6, 0, 0, 2022]) from by decide +kernel) (show HS h from hs) rfl (by decide) (hs_ref (show HS h from hs) rfl) ?_
  refine e_iload_n (show pAt 67 4 = some (4, .iload_n 1, 1, []) from by decide +kernel) rfl ?_
  refine Ends.call (show pAt 67 5 = some (5, .invokevirtual 71, 3, [26, 2, 0, 1, 2071, 2073, 1]) from by decide +kernel) (isRet_none rfl) rfl (call_this (show HS h from hs) rfl rfl (by decide)) (Ends.mono vc ?_)
  rintro _ h1 ⟨r2, rfl, hs_h1, vc⟩
  refine e_if (t := 20) (show pAt 67 8 = some (8, .ifCond .eq 12, 3, []) from by decide +kernel) rfl (fun c4 => ?_) (fun c4 => ?_)
  · replace vc := vc.1 c4
    refine e_iconst (c := (-1)) (show pAt 67 20 = some (20, .iconst (-1), 1, []) from by decide +kernel) (by decide) ?_
    exact e_retI (show pAt 67 21 = some (21, .ireturn, 1, []) from by decide +kernel) rfl vc
  · replace vc := vc.2 c4
    refine e_iload_n (show pAt 67 11 = some (11, .iload_n 2, 1, []) from by decide +kernel) rfl ?_
    refine e_if (t := 20) (show pAt 67 12 = some (12, .ifCond .lt 8, 3, []) from by decide +kernel) rfl (fun c5 => ?_) (fun c5 => ?_)
    · replace vc := vc.1 c5
      refine e_iconst (c := (-1)) (show pAt 67 20 = some (20, .iconst (-1), 1, []) from by decide +kernel) (by decide) ?_
      exact e_retI (show pAt 67 21 = some (21, .ireturn, 1, []) from by decide +kernel) rfl vc
    · replace vc := vc.2 c5
      refine e_iload_n (show pAt 67 15 = some (15, .iload_n 2, 1, []) from by decide +kernel) rfl ?_
      refine e_iconst (c := 4) (show pAt 67 16 = some (16, .iconst 4, 1, []) from by decide +kernel) (by decide) ?_
      refine e_icmp (t := 22) (show pAt 67 17 = some (17, .if_icmp .lt 5, 3, []) from by decide +kernel) rfl (fun c6 => ?_) (fun c6 => ?_)
      · replace vc := vc.1 c6
        refine e_iload_n (show pAt 67 22 = some (22, .iload_n 3, 1, []) from by decide +kernel) rfl ?_
        refine Ends.call (show pAt 67 23 = some (23, .invokestatic 64, 3, [103, 1, 2, 0, 2060, 2061, 0]) from by decide +kernel) (isRet_none rfl) rfl rfl (Ends.mono vc ?_)
        rintro _ h7 ⟨r8, rfl, hs_h7, vc⟩
        refine e_if (t := 32) (show pAt 67 26 = some (26, .ifCond .ne 6, 3, []) from by decide +kernel) rfl (fun c10 => ?_) (fun c10 => ?_)
        · replace vc := vc.1 c10
          refine e_aload_n (show pAt 67 32 = some (32, .aload_n 0, 1, []) from by decide +kernel) rfl (ra (by decide)) ?_
          refine e_gR (show pAt 67 33 = some (33, .getfield 12, 3, [6, 0, 0, 2022]) from by decide +kernel) (show HS h7 from hs_h7) rfl (by decide) (hs_ref (show HS h7 from hs_h7) rfl) ?_
          refine e_gR (show pAt 67 36 = some (36, .getfield 74, 3, [2, 1, 1, 1035]) from by decide +kernel) (show HS h7 from hs_h7) rfl (by decide) (hs_ref (show HS h7 from hs_h7) rfl) ?_
          refine e_iload_n (show pAt 67 39 = some (39, .iload_n 1, 1, []) from by decide +kernel) rfl ?_
          obtain ⟨c11, vc⟩ := vc
          refine e_aldv (v := h7.2.1 2 p.toNatClampNeg) (show pAt 67 40 = some (40, .iaload, 1, []) from by decide +kernel) (show HS h7 from hs_h7) (by decide) c11 rfl ?_
          refine e_bipush (c := 6) (show pAt 67 41 = some (41, .bipush 6, 2, []) from by decide +kernel) (by decide) ?_
          refine e_icmp (t := 49) (show pAt 67 43 = some (43, .if_icmp .eq 6, 3, []) from by decide +kernel) rfl (fun c12 => ?_) (fun c12 => ?_)
          · replace vc := vc.1 c12
            refine e_aload_n (show pAt 67 49 = some (49, .aload_n 0, 1, []) from by decide +kernel) rfl (ra (by decide)) ?_
            refine e_gR (show pAt 67 50 = some (50, .getfield 12, 3, [6, 0, 0, 2022]) from by decide +kernel) (show HS h7 from hs_h7) rfl (by decide) (hs_ref (show HS h7 from hs_h7) rfl) ?_
            refine e_gR (show pAt 67 53 = some (53, .getfield 101, 3, [2, 6, 1, 1050]) from by decide +kernel) (show HS h7 from hs_h7) rfl (by decide) (hs_ref (show HS h7 from hs_h7) rfl) ?_
            refine e_iload_n (show pAt 67 56 = some (56, .iload_n 1, 1, []) from by decide +kernel) rfl ?_
            refine e_iconst (c := 4) (show pAt 67 57 = some (57, .iconst 4, 1, []) from by decide +kernel) (by decide) ?_
            refine e_imul (show pAt 67 58 = some (58, .imul, 1, []) from by decide +kernel) ?_
            refine e_iload_n (show pAt 67 59 = some (59, .iload_n 2, 1, []) from by decide +kernel) rfl ?_
            refine e_iadd (show pAt 67 60 = some (60, .iadd, 1, []) from by decide +kernel) ?_
            obtain ⟨c13, vc⟩ := vc
            refine e_aldv (v := h7.2.1 7 ((p * 4) + a).toNatClampNeg) (show pAt 67 61 = some (61, .iaload, 1, []) from by decide +kernel) (show HS h7 from hs_h7) (by decide) c13 rfl ?_
            refine e_istore (show pAt 67 62 = some (62, .istore 4, 2, []) from by decide +kernel) ⟨Nat.le_of_ble_eq_true rfl, rfl⟩ rfl ?_
            refine e_aload_n (show pAt 67 64 = some (64, .aload_n 0, 1, []) from by decide +kernel) rfl (ra (by decide)) ?_
            refine e_gR (show pAt 67 65 = some (65, .getfield 12, 3, [6, 0, 0, 2022]) from by decide +kernel) (show HS h7 from hs_h7) rfl (by decide) (hs_ref (show HS h7 from hs_h7) rfl) ?_
            refine e_gR (show pAt 67 68 = some (68, .getfield 101, 3, [2, 6, 1, 1050]) from by decide +kernel) (show HS h7 from hs_h7) rfl (by decide) (hs_ref (show HS h7 from hs_h7) rfl) ?_
            refine e_iload_n (show pAt 67 71 = some (71, .iload_n 1, 1, []) from by decide +kernel) rfl ?_
            refine e_iconst (c := 4) (show pAt 67 72 = some (72, .iconst 4, 1, []) from by decide +kernel) (by decide) ?_
            refine e_imul (show pAt 67 73 = some (73, .imul, 1, []) from by decide +kernel) ?_
            refine e_iload_n (show pAt 67 74 = some (74, .iload_n 2, 1, []) from by decide +kernel) rfl ?_
            refine e_iadd (show pAt 67 75 = some (75, .iadd, 1, []) from by decide +kernel) ?_
            refine e_iload_n (show pAt 67 76 = some (76, .iload_n 3, 1, []) from by decide +kernel) rfl ?_
            obtain ⟨c14, vc⟩ := vc
            refine e_ast (show pAt 67 77 = some (77, .iastore, 1, []) from by decide +kernel) (show HS h7 from hs_h7) (by decide) c14 ?_
            refine e_iload (show pAt 67 78 = some (78, .iload 4, 2, []) from by decide +kernel) rfl ?_
            exact e_retI (show pAt 67 80 = some (80, .ireturn, 1, []) from by decide +kernel) rfl vc
          · replace vc := vc.2 c12
            refine e_bipush (c := (-3)) (show pAt 67 46 = some (46, .bipush (-3), 2, []) from by decide +kernel) (by decide) ?_
            exact e_retI (show pAt 67 48 = some (48, .ireturn, 1, []) from by decide +kernel) rfl vc
        · replace vc := vc.2 c10
          refine e_bipush (c := (-2)) (show pAt 67 29 = some (29, .bipush (-2), 2, []) from by decide +kernel) (by decide) ?_
          exact e_retI (show pAt 67 31 = some (31, .ireturn, 1, []) from by decide +kernel) rfl vc
      · replace vc := vc.2 c6
        refine e_iconst (c := (-1)) (show pAt 67 20 = some (20, .iconst (-1), 1, []) from by decide +kernel) (by decide) ?_
        exact e_retI (show pAt 67 21 = some (21, .ireturn, 1, []) from by decide +kernel) rfl vc

theorem w_mrow {X : Scr} {dp : Nat} {h : Hp} {Q : Option Value → Hp → Prop} (p : Int32) (a : Int32) (n : Int32) (hs : HS h)
    (vc : Ends X dp 112 0 [.ref 93, .int p] [] h (fun rv h1 => ∃ r2, rv = some (.int r2) ∧ HS h1 ∧ ((condB .eq r2 0 = true → Q (some (.int (-1))) h1) ∧ (condB .eq r2 0 = false → Ends X dp 109 0 [.ref 93, .int a, .int 0, .int 3] [] h1 (fun rv h5 => ∃ r6, rv = some (.int r6) ∧ HS h5 ∧ ((condB .ne r6 0 = true → Ends X dp 109 0 [.ref 93, .int n, .int 0, .int 6] [] h5 (fun rv h9 => ∃ r10, rv = some (.int r10) ∧ HS h9 ∧ ((condB .ne r10 0 = true → (inB p 7 = true ∧ ((condB .eq (h9.2.1 94 p.toNatClampNeg) 6 = true → (inB ((4 * p) + a) 28 = true ∧ (inB ((4 * p) + a) 28 = true ∧ Q (some (.int (h9.2.1 99 ((4 * p) + a).toNatClampNeg))) (hpI h9 99 ((4 * p) + a).toNatClampNeg n)))) ∧ (condB .eq (h9.2.1 94 p.toNatClampNeg) 6 = false → Q (some (.int (-3))) h9)))) ∧ (condB .ne r10 0 = false → Q (some (.int (-2))) h9)))) ∧ (condB .ne r6 0 = false → Q (some (.int (-1))) h5))))))) :
    Ends X (dp + 1) 117 0 [.ref 93, .int p, .int a, .int n, .retAddr 0] [] h Q := by
  have ra : ∀ {a : Nat}, a < 1000 → a ≤ OLDB := fun h => by have := OLDB_eq; omega
  refine e_aload_n (show pAt 117 0 = some (0, .aload_n 0, 1, []) from by decide +kernel) rfl (ra (by decide)) ?_
  refine e_iload_n (show pAt 117 1 = some (1, .iload_n 1, 1, []) from by decide +kernel) rfl ?_
  refine Ends.call (show pAt 117 2 = some (2, .invokevirtual 210, 3, [112, 2, 0, 0, 5089, 5091, 55]) from by decide +kernel) (isRet_none rfl) rfl (call_this (show HS h from hs) rfl rfl (by decide)) (Ends.mono vc ?_)
  rintro _ h1 ⟨r2, rfl, hs_h1, vc⟩
  refine e_if (t := 18) (show pAt 117 5 = some (5, .ifCond .eq 13, 3, []) from by decide +kernel) rfl (fun c4 => ?_) (fun c4 => ?_)
  · replace vc := vc.1 c4
    refine e_iconst (c := (-1)) (show pAt 117 18 = some (18, .iconst (-1), 1, []) from by decide +kernel) (by decide) ?_
    exact e_retI (show pAt 117 19 = some (19, .ireturn, 1, []) from by decide +kernel) rfl vc
  · replace vc := vc.2 c4
    refine e_aload_n (show pAt 117 8 = some (8, .aload_n 0, 1, []) from by decide +kernel) rfl (ra (by decide)) ?_
    refine e_iload_n (show pAt 117 9 = some (9, .iload_n 2, 1, []) from by decide +kernel) rfl ?_
    refine e_iconst (c := 0) (show pAt 117 10 = some (10, .iconst 0, 1, []) from by decide +kernel) (by decide) ?_
    refine e_iconst (c := 3) (show pAt 117 11 = some (11, .iconst 3, 1, []) from by decide +kernel) (by decide) ?_
    refine Ends.call (show pAt 117 12 = some (12, .invokevirtual 206, 3, [109, 4, 0, 0, 5081, 5083, 54]) from by decide +kernel) (isRet_none rfl) rfl (call_this (show HS h1 from hs_h1) rfl rfl (by decide)) (Ends.mono vc ?_)
    rintro _ h5 ⟨r6, rfl, hs_h5, vc⟩
    refine e_if (t := 20) (show pAt 117 15 = some (15, .ifCond .ne 5, 3, []) from by decide +kernel) rfl (fun c8 => ?_) (fun c8 => ?_)
    · replace vc := vc.1 c8
      refine e_aload_n (show pAt 117 20 = some (20, .aload_n 0, 1, []) from by decide +kernel) rfl (ra (by decide)) ?_
      refine e_iload_n (show pAt 117 21 = some (21, .iload_n 3, 1, []) from by decide +kernel) rfl ?_
      refine e_iconst (c := 0) (show pAt 117 22 = some (22, .iconst 0, 1, []) from by decide +kernel) (by decide) ?_
      refine e_bipush (c := 6) (show pAt 117 23 = some (23, .bipush 6, 2, []) from by decide +kernel) (by decide) ?_
      refine Ends.call (show pAt 117 25 = some (25, .invokevirtual 206, 3, [109, 4, 0, 0, 5081, 5083, 54]) from by decide +kernel) (isRet_none rfl) rfl (call_this (show HS h5 from hs_h5) rfl rfl (by decide)) (Ends.mono vc ?_)
      rintro _ h9 ⟨r10, rfl, hs_h9, vc⟩
      refine e_if (t := 34) (show pAt 117 28 = some (28, .ifCond .ne 6, 3, []) from by decide +kernel) rfl (fun c12 => ?_) (fun c12 => ?_)
      · replace vc := vc.1 c12
        refine e_aload_n (show pAt 117 34 = some (34, .aload_n 0, 1, []) from by decide +kernel) rfl (ra (by decide)) ?_
        refine e_gR (show pAt 117 35 = some (35, .getfield 19, 3, [7, 3, 0, 4126]) from by decide +kernel) (show HS h9 from hs_h9) rfl (by decide) (hs_ref (show HS h9 from hs_h9) rfl) ?_
        refine e_iload_n (show pAt 117 38 = some (38, .iload_n 1, 1, []) from by decide +kernel) rfl ?_
        obtain ⟨c13, vc⟩ := vc
        refine e_aldv (v := h9.2.1 94 p.toNatClampNeg) (show pAt 117 39 = some (39, .iaload, 1, []) from by decide +kernel) (show HS h9 from hs_h9) (by decide) c13 rfl ?_
        refine e_bipush (c := 6) (show pAt 117 40 = some (40, .bipush 6, 2, []) from by decide +kernel) (by decide) ?_
        refine e_icmp (t := 48) (show pAt 117 42 = some (42, .if_icmp .eq 6, 3, []) from by decide +kernel) rfl (fun c14 => ?_) (fun c14 => ?_)
        · replace vc := vc.1 c14
          refine e_aload_n (show pAt 117 48 = some (48, .aload_n 0, 1, []) from by decide +kernel) rfl (ra (by decide)) ?_
          refine e_gR (show pAt 117 49 = some (49, .getfield 35, 3, [7, 8, 0, 4131]) from by decide +kernel) (show HS h9 from hs_h9) rfl (by decide) (hs_ref (show HS h9 from hs_h9) rfl) ?_
          refine e_iconst (c := 4) (show pAt 117 52 = some (52, .iconst 4, 1, []) from by decide +kernel) (by decide) ?_
          refine e_iload_n (show pAt 117 53 = some (53, .iload_n 1, 1, []) from by decide +kernel) rfl ?_
          refine e_imul (show pAt 117 54 = some (54, .imul, 1, []) from by decide +kernel) ?_
          refine e_iload_n (show pAt 117 55 = some (55, .iload_n 2, 1, []) from by decide +kernel) rfl ?_
          refine e_iadd (show pAt 117 56 = some (56, .iadd, 1, []) from by decide +kernel) ?_
          obtain ⟨c15, vc⟩ := vc
          refine e_aldv (v := h9.2.1 99 ((4 * p) + a).toNatClampNeg) (show pAt 117 57 = some (57, .iaload, 1, []) from by decide +kernel) (show HS h9 from hs_h9) (by decide) c15 rfl ?_
          refine e_istore (show pAt 117 58 = some (58, .istore 4, 2, []) from by decide +kernel) ⟨Nat.le_of_ble_eq_true rfl, rfl⟩ rfl ?_
          refine e_aload_n (show pAt 117 60 = some (60, .aload_n 0, 1, []) from by decide +kernel) rfl (ra (by decide)) ?_
          refine e_gR (show pAt 117 61 = some (61, .getfield 35, 3, [7, 8, 0, 4131]) from by decide +kernel) (show HS h9 from hs_h9) rfl (by decide) (hs_ref (show HS h9 from hs_h9) rfl) ?_
          refine e_iconst (c := 4) (show pAt 117 64 = some (64, .iconst 4, 1, []) from by decide +kernel) (by decide) ?_
          refine e_iload_n (show pAt 117 65 = some (65, .iload_n 1, 1, []) from by decide +kernel) rfl ?_
          refine e_imul (show pAt 117 66 = some (66, .imul, 1, []) from by decide +kernel) ?_
          refine e_iload_n (show pAt 117 67 = some (67, .iload_n 2, 1, []) from by decide +kernel) rfl ?_
          refine e_iadd (show pAt 117 68 = some (68, .iadd, 1, []) from by decide +kernel) ?_
          refine e_iload_n (show pAt 117 69 = some (69, .iload_n 3, 1, []) from by decide +kernel) rfl ?_
          obtain ⟨c16, vc⟩ := vc
          refine e_ast (show pAt 117 70 = some (70, .iastore, 1, []) from by decide +kernel) (show HS h9 from hs_h9) (by decide) c16 ?_
          refine e_iload (show pAt 117 71 = some (71, .iload 4, 2, []) from by decide +kernel) rfl ?_
          exact e_retI (show pAt 117 73 = some (73, .ireturn, 1, []) from by decide +kernel) rfl vc
        · replace vc := vc.2 c14
          refine e_bipush (c := (-3)) (show pAt 117 45 = some (45, .bipush (-3), 2, []) from by decide +kernel) (by decide) ?_
          exact e_retI (show pAt 117 47 = some (47, .ireturn, 1, []) from by decide +kernel) rfl vc
      · replace vc := vc.2 c12
        refine e_bipush (c := (-2)) (show pAt 117 31 = some (31, .bipush (-2), 2, []) from by decide +kernel) (by decide) ?_
        exact e_retI (show pAt 117 33 = some (33, .ireturn, 1, []) from by decide +kernel) rfl vc
    · replace vc := vc.2 c8
      refine e_iconst (c := (-1)) (show pAt 117 18 = some (18, .iconst (-1), 1, []) from by decide +kernel) (by decide) ?_
      exact e_retI (show pAt 117 19 = some (19, .ireturn, 1, []) from by decide +kernel) rfl vc

theorem w_cevr {X : Scr} {dp : Nat} {h : Hp} {Q : Option Value → Hp → Prop}  (hs : HS h)
    (vc : Q (some (.int ((1 <<< ((h.2.1 1 0) &&& 31)) - 1))) h) :
    Ends X dp 28 0 [.ref 1] [] h Q := by
  have ra : ∀ {a : Nat}, a < 1000 → a ≤ OLDB := fun h => by have := OLDB_eq; omega
  refine e_iconst (c := 1) (show pAt 28 0 = some (0, .iconst 1, 1, []) from by decide +kernel) (by decide) ?_
  refine e_aload_n (show pAt 28 1 = some (1, .aload_n 0, 1, []) from by decide +kernel) rfl (ra (by decide)) ?_
  refine e_gIv (v := h.2.1 1 0) (show pAt 28 2 = some (2, .getfield 37, 3, [2, 0, 0, 1032]) from by decide +kernel) (show HS h from hs) rfl (by decide) rfl ?_
  refine e_ishl (show pAt 28 5 = some (5, .ishl, 1, []) from by decide +kernel) ?_
  refine e_iconst (c := 1) (show pAt 28 6 = some (6, .iconst 1, 1, []) from by decide +kernel) (by decide) ?_
  refine e_isub (show pAt 28 7 = some (7, .isub, 1, []) from by decide +kernel) ?_
  exact e_retI (show pAt 28 8 = some (8, .ireturn, 1, []) from by decide +kernel) rfl vc

theorem w_call {X : Scr} {dp : Nat} {h : Hp} {Q : Option Value → Hp → Prop} (a : Int32) (hs : HS h)
    (vc : Ends X dp 28 0 [.ref 1] [] h (fun rv h1 => ∃ r2, rv = some (.int r2) ∧ HS h1 ∧ ((condB .ne (a &&& (r2 ^^^ (-1))) 0 = true → Q (some (.int 0)) h1) ∧ (condB .ne (a &&& (r2 ^^^ (-1))) 0 = false → Q (some (.int 1)) h1)))) :
    Ends X (dp + 1) 30 0 [.ref 1, .int a] [] h Q := by
  have ra : ∀ {a : Nat}, a < 1000 → a ≤ OLDB := fun h => by have := OLDB_eq; omega
  refine e_iload_n (show pAt 30 0 = some (0, .iload_n 1, 1, []) from by decide +kernel) rfl ?_
  refine e_aload_n (show pAt 30 1 = some (1, .aload_n 0, 1, []) from by decide +kernel) rfl (ra (by decide)) ?_
  refine Ends.call (show pAt 30 2 = some (2, .invokevirtual 47, 3, [28, 1, 0, 0, 2109, 2111, 9]) from by decide +kernel) (isRet_none rfl) rfl (call_this (show HS h from hs) rfl rfl (by decide)) (Ends.mono vc ?_)
  rintro _ h1 ⟨r2, rfl, hs_h1, vc⟩
  refine e_iconst (c := (-1)) (show pAt 30 5 = some (5, .iconst (-1), 1, []) from by decide +kernel) (by decide) ?_
  refine e_ixor (show pAt 30 6 = some (6, .ixor, 1, []) from by decide +kernel) ?_
  refine e_iand (show pAt 30 7 = some (7, .iand, 1, []) from by decide +kernel) ?_
  refine e_if (t := 15) (show pAt 30 8 = some (8, .ifCond .ne 7, 3, []) from by decide +kernel) rfl (fun c4 => ?_) (fun c4 => ?_)
  · replace vc := vc.1 c4
    refine e_iconst (c := 0) (show pAt 30 15 = some (15, .iconst 0, 1, []) from by decide +kernel) (by decide) ?_
    exact e_retZ (show pAt 30 16 = some (16, .ireturn, 1, []) from by decide +kernel) rfl (by decide) vc
  · replace vc := vc.2 c4
    refine e_iconst (c := 1) (show pAt 30 11 = some (11, .iconst 1, 1, []) from by decide +kernel) (by decide) ?_
    refine e_goto (t := 16) (show pAt 30 12 = some (12, .goto 4, 3, []) from by decide +kernel) rfl ?_
    exact e_retZ (show pAt 30 16 = some (16, .ireturn, 1, []) from by decide +kernel) rfl (by decide) vc

theorem w_csee {X : Scr} {dp : Nat} {h : Hp} {Q : Option Value → Hp → Prop} (a : Int32) (hs : HS h)
    (vc : Ends X dp 30 0 [.ref 1, .int a] [] h (fun rv h1 => ∃ r2, rv = some (.int r2) ∧ HS h1 ∧ ((condB .ne r2 0 = true → Q (some (.int (h1.2.1 1 9))) (hpI h1 1 9 a)) ∧ (condB .ne r2 0 = false → Q (some (.int (-2))) h1)))) :
    Ends X (dp + 1) 82 0 [.ref 0, .int a, .retAddr 0] [] h Q := by
  have ra : ∀ {a : Nat}, a < 1000 → a ≤ OLDB := fun h => by have := OLDB_eq; omega
  refine e_aload_n (show pAt 82 0 = some (0, .aload_n 0, 1, []) from by decide +kernel) rfl (ra (by decide)) ?_
  refine e_gR (show pAt 82 1 = some (1, .getfield 12, 3, [6, 0, 0, 2022]) from by decide +kernel) (show HS h from hs) rfl (by decide) (hs_ref (show HS h from hs) rfl) ?_
  refine e_iload_n (show pAt 82 4 = some (4, .iload_n 1, 1, []) from by decide +kernel) rfl ?_
  refine Ends.call (show pAt 82 5 = some (5, .invokevirtual 176, 3, [30, 2, 0, 1, 4002, 4004, 47]) from by decide +kernel) (isRet_none rfl) rfl (call_this (show HS h from hs) rfl rfl (by decide)) (Ends.mono vc ?_)
  rintro _ h1 ⟨r2, rfl, hs_h1, vc⟩
  refine e_if (t := 14) (show pAt 82 8 = some (8, .ifCond .ne 6, 3, []) from by decide +kernel) rfl (fun c4 => ?_) (fun c4 => ?_)
  · replace vc := vc.1 c4
    refine e_aload_n (show pAt 82 14 = some (14, .aload_n 0, 1, []) from by decide +kernel) rfl (ra (by decide)) ?_
    refine e_gR (show pAt 82 15 = some (15, .getfield 12, 3, [6, 0, 0, 2022]) from by decide +kernel) (show HS h1 from hs_h1) rfl (by decide) (hs_ref (show HS h1 from hs_h1) rfl) ?_
    refine e_gIv (v := h1.2.1 1 9) (show pAt 82 18 = some (18, .getfield 179, 3, [2, 9, 1, 1059]) from by decide +kernel) (show HS h1 from hs_h1) rfl (by decide) rfl ?_
    refine e_istore_n (show pAt 82 21 = some (21, .istore_n 2, 1, []) from by decide +kernel) ⟨Nat.le_of_ble_eq_true rfl, rfl⟩ rfl ?_
    refine e_aload_n (show pAt 82 22 = some (22, .aload_n 0, 1, []) from by decide +kernel) rfl (ra (by decide)) ?_
    refine e_gR (show pAt 82 23 = some (23, .getfield 12, 3, [6, 0, 0, 2022]) from by decide +kernel) (show HS h1 from hs_h1) rfl (by decide) (hs_ref (show HS h1 from hs_h1) rfl) ?_
    refine e_iload_n (show pAt 82 26 = some (26, .iload_n 1, 1, []) from by decide +kernel) rfl ?_
    refine e_pI (show pAt 82 27 = some (27, .putfield 179, 3, [2, 9, 1, 1059]) from by decide +kernel) (show HS h1 from hs_h1) (by decide) (Or.inl rfl) ?_
    refine e_iload_n (show pAt 82 30 = some (30, .iload_n 2, 1, []) from by decide +kernel) rfl ?_
    exact e_retI (show pAt 82 31 = some (31, .ireturn, 1, []) from by decide +kernel) rfl vc
  · replace vc := vc.2 c4
    refine e_bipush (c := (-2)) (show pAt 82 11 = some (11, .bipush (-2), 2, []) from by decide +kernel) (by decide) ?_
    exact e_retI (show pAt 82 13 = some (13, .ireturn, 1, []) from by decide +kernel) rfl vc

theorem w_mall {X : Scr} {dp : Nat} {h : Hp} {Q : Option Value → Hp → Prop}  (hs : HS h)
    (vc : Q (some (.int ((1 <<< ((h.2.1 93 0) &&& 31)) - 1))) h) :
    Ends X dp 113 0 [.ref 93] [] h Q := by
  have ra : ∀ {a : Nat}, a < 1000 → a ≤ OLDB := fun h => by have := OLDB_eq; omega
  refine e_iconst (c := 1) (show pAt 113 0 = some (0, .iconst 1, 1, []) from by decide +kernel) (by decide) ?_
  refine e_aload_n (show pAt 113 1 = some (1, .aload_n 0, 1, []) from by decide +kernel) rfl (ra (by decide)) ?_
  refine e_gIv (v := h.2.1 93 0) (show pAt 113 2 = some (2, .getfield 7, 3, [7, 0, 0, 4123]) from by decide +kernel) (show HS h from hs) rfl (by decide) rfl ?_
  refine e_ishl (show pAt 113 5 = some (5, .ishl, 1, []) from by decide +kernel) ?_
  refine e_iconst (c := 1) (show pAt 113 6 = some (6, .iconst 1, 1, []) from by decide +kernel) (by decide) ?_
  refine e_isub (show pAt 113 7 = some (7, .isub, 1, []) from by decide +kernel) ?_
  exact e_retI (show pAt 113 8 = some (8, .ireturn, 1, []) from by decide +kernel) rfl vc

theorem w_msee {X : Scr} {dp : Nat} {h : Hp} {Q : Option Value → Hp → Prop} (a : Int32) (hs : HS h)
    (vc : Ends X dp 113 0 [.ref 93] [] h (fun rv h1 => ∃ r2, rv = some (.int r2) ∧ HS h1 ∧ Ends X dp 109 0 [.ref 93, .int a, .int 0, .int r2] [] h1 (fun rv h4 => ∃ r5, rv = some (.int r5) ∧ HS h4 ∧ ((condB .ne r5 0 = true → Q (some (.int (h4.2.1 93 41))) (hpI h4 93 41 a)) ∧ (condB .ne r5 0 = false → Q (some (.int (-2))) h4))))) :
    Ends X (dp + 1) 175 0 [.ref 93, .int a, .retAddr 0] [] h Q := by
  have ra : ∀ {a : Nat}, a < 1000 → a ≤ OLDB := fun h => by have := OLDB_eq; omega
  refine e_aload_n (show pAt 175 0 = some (0, .aload_n 0, 1, []) from by decide +kernel) rfl (ra (by decide)) ?_
  refine e_iload_n (show pAt 175 1 = some (1, .iload_n 1, 1, []) from by decide +kernel) rfl ?_
  refine e_iconst (c := 0) (show pAt 175 2 = some (2, .iconst 0, 1, []) from by decide +kernel) (by decide) ?_
  refine e_aload_n (show pAt 175 3 = some (3, .aload_n 0, 1, []) from by decide +kernel) rfl (ra (by decide)) ?_
  refine Ends.call (show pAt 175 4 = some (4, .invokevirtual 312, 3, [113, 1, 0, 0, 5237, 5239, 86]) from by decide +kernel) (isRet_none rfl) rfl (call_this (show HS h from hs) rfl rfl (by decide)) (Ends.mono vc ?_)
  rintro _ h1 ⟨r2, rfl, hs_h1, vc⟩
  refine Ends.call (show pAt 175 7 = some (7, .invokevirtual 206, 3, [109, 4, 0, 0, 5081, 5083, 54]) from by decide +kernel) (isRet_none rfl) rfl (call_this (show HS h1 from hs_h1) rfl rfl (by decide)) (Ends.mono vc ?_)
  rintro _ h4 ⟨r5, rfl, hs_h4, vc⟩
  refine e_if (t := 16) (show pAt 175 10 = some (10, .ifCond .ne 6, 3, []) from by decide +kernel) rfl (fun c7 => ?_) (fun c7 => ?_)
  · replace vc := vc.1 c7
    refine e_aload_n (show pAt 175 16 = some (16, .aload_n 0, 1, []) from by decide +kernel) rfl (ra (by decide)) ?_
    refine e_gIv (v := h4.2.1 93 41) (show pAt 175 17 = some (17, .getfield 136, 3, [7, 41, 0, 4164]) from by decide +kernel) (show HS h4 from hs_h4) rfl (by decide) rfl ?_
    refine e_istore_n (show pAt 175 20 = some (20, .istore_n 2, 1, []) from by decide +kernel) ⟨Nat.le_of_ble_eq_true rfl, rfl⟩ rfl ?_
    refine e_aload_n (show pAt 175 21 = some (21, .aload_n 0, 1, []) from by decide +kernel) rfl (ra (by decide)) ?_
    refine e_iload_n (show pAt 175 22 = some (22, .iload_n 1, 1, []) from by decide +kernel) rfl ?_
    refine e_pI (show pAt 175 23 = some (23, .putfield 136, 3, [7, 41, 0, 4164]) from by decide +kernel) (show HS h4 from hs_h4) (by decide) (Or.inl rfl) ?_
    refine e_iload_n (show pAt 175 26 = some (26, .iload_n 2, 1, []) from by decide +kernel) rfl ?_
    exact e_retI (show pAt 175 27 = some (27, .ireturn, 1, []) from by decide +kernel) rfl vc
  · replace vc := vc.2 c7
    refine e_bipush (c := (-2)) (show pAt 175 13 = some (13, .bipush (-2), 2, []) from by decide +kernel) (by decide) ?_
    exact e_retI (show pAt 175 15 = some (15, .ireturn, 1, []) from by decide +kernel) rfl vc

theorem w_cbok {X : Scr} {dp : Nat} {h : Hp} {Q : Option Value → Hp → Prop} (a : Int32) (hs : HS h)
    (vc : ((condB .ne a (-1) = true → Ends X dp 30 0 [.ref 1, .int a] [] h (fun rv h2 => ∃ r3, rv = some (.int r3) ∧ HS h2 ∧ ((condB .ne r3 0 = true → ((condB .lt (h2.2.1 1 11) 12 = true → (inB (h2.2.1 1 11) 12 = true ∧ Q (some (.int ((h2.2.1 1 11) + 1))) (hpI (hpI h2 8 (h2.2.1 1 11).toNatClampNeg a) 1 11 ((h2.2.1 1 11) + 1)))) ∧ (condB .lt (h2.2.1 1 11) 12 = false → Q (some (.int (-4))) h2))) ∧ (condB .ne r3 0 = false → Q (some (.int (-2))) h2)))) ∧ (condB .ne a (-1) = false → Q (some (.int 0)) (hpI h 1 11 0)))) :
    Ends X (dp + 1) 86 0 [.ref 0, .int a] [] h Q := by
  have ra : ∀ {a : Nat}, a < 1000 → a ≤ OLDB := fun h => by have := OLDB_eq; omega
  refine e_iload_n (show pAt 86 0 = some (0, .iload_n 1, 1, []) from by decide +kernel) rfl ?_
  refine e_iconst (c := (-1)) (show pAt 86 1 = some (1, .iconst (-1), 1, []) from by decide +kernel) (by decide) ?_
  refine e_icmp (t := 15) (show pAt 86 2 = some (2, .if_icmp .ne 13, 3, []) from by decide +kernel) rfl (fun c1 => ?_) (fun c1 => ?_)
  · replace vc := vc.1 c1
    refine e_aload_n (show pAt 86 15 = some (15, .aload_n 0, 1, []) from by decide +kernel) rfl (ra (by decide)) ?_
    refine e_gR (show pAt 86 16 = some (16, .getfield 12, 3, [6, 0, 0, 2022]) from by decide +kernel) (show HS h from hs) rfl (by decide) (hs_ref (show HS h from hs) rfl) ?_
    refine e_iload_n (show pAt 86 19 = some (19, .iload_n 1, 1, []) from by decide +kernel) rfl ?_
    refine Ends.call (show pAt 86 20 = some (20, .invokevirtual 176, 3, [30, 2, 0, 1, 4002, 4004, 47]) from by decide +kernel) (isRet_none rfl) rfl (call_this (show HS h from hs) rfl rfl (by decide)) (Ends.mono vc ?_)
    rintro _ h2 ⟨r3, rfl, hs_h2, vc⟩
    refine e_if (t := 29) (show pAt 86 23 = some (23, .ifCond .ne 6, 3, []) from by decide +kernel) rfl (fun c5 => ?_) (fun c5 => ?_)
    · replace vc := vc.1 c5
      refine e_aload_n (show pAt 86 29 = some (29, .aload_n 0, 1, []) from by decide +kernel) rfl (ra (by decide)) ?_
      refine e_gR (show pAt 86 30 = some (30, .getfield 12, 3, [6, 0, 0, 2022]) from by decide +kernel) (show HS h2 from hs_h2) rfl (by decide) (hs_ref (show HS h2 from hs_h2) rfl) ?_
      refine e_gIv (v := h2.2.1 1 11) (show pAt 86 33 = some (33, .getfield 188, 3, [2, 11, 1, 1063]) from by decide +kernel) (show HS h2 from hs_h2) rfl (by decide) rfl ?_
      refine e_bipush (c := 12) (show pAt 86 36 = some (36, .bipush 12, 2, []) from by decide +kernel) (by decide) ?_
      refine e_icmp (t := 44) (show pAt 86 38 = some (38, .if_icmp .lt 6, 3, []) from by decide +kernel) rfl (fun c6 => ?_) (fun c6 => ?_)
      · replace vc := vc.1 c6
        refine e_aload_n (show pAt 86 44 = some (44, .aload_n 0, 1, []) from by decide +kernel) rfl (ra (by decide)) ?_
        refine e_gR (show pAt 86 45 = some (45, .getfield 12, 3, [6, 0, 0, 2022]) from by decide +kernel) (show HS h2 from hs_h2) rfl (by decide) (hs_ref (show HS h2 from hs_h2) rfl) ?_
        refine e_gR (show pAt 86 48 = some (48, .getfield 191, 3, [2, 10, 1, 1061]) from by decide +kernel) (show HS h2 from hs_h2) rfl (by decide) (hs_ref (show HS h2 from hs_h2) rfl) ?_
        refine e_aload_n (show pAt 86 51 = some (51, .aload_n 0, 1, []) from by decide +kernel) rfl (ra (by decide)) ?_
        refine e_gR (show pAt 86 52 = some (52, .getfield 12, 3, [6, 0, 0, 2022]) from by decide +kernel) (show HS h2 from hs_h2) rfl (by decide) (hs_ref (show HS h2 from hs_h2) rfl) ?_
        refine e_gIv (v := h2.2.1 1 11) (show pAt 86 55 = some (55, .getfield 188, 3, [2, 11, 1, 1063]) from by decide +kernel) (show HS h2 from hs_h2) rfl (by decide) rfl ?_
        refine e_iload_n (show pAt 86 58 = some (58, .iload_n 1, 1, []) from by decide +kernel) rfl ?_
        obtain ⟨c7, vc⟩ := vc
        refine e_ast (show pAt 86 59 = some (59, .iastore, 1, []) from by decide +kernel) (show HS h2 from hs_h2) (by decide) c7 ?_
        refine e_aload_n (show pAt 86 60 = some (60, .aload_n 0, 1, []) from by decide +kernel) rfl (ra (by decide)) ?_
        refine e_gR (show pAt 86 61 = some (61, .getfield 12, 3, [6, 0, 0, 2022]) from by decide +kernel) (show HS (hpI h2 8 (h2.2.1 1 11).toNatClampNeg a) from hs_h2) rfl (by decide) (hs_ref (show HS (hpI h2 8 (h2.2.1 1 11).toNatClampNeg a) from hs_h2) rfl) ?_
        refine e_dupR (show pAt 86 64 = some (64, .dup, 1, []) from by decide +kernel) ?_
        refine e_gIv (v := h2.2.1 1 11) (show pAt 86 65 = some (65, .getfield 188, 3, [2, 11, 1, 1063]) from by decide +kernel) (show HS (hpI h2 8 (h2.2.1 1 11).toNatClampNeg a) from hs_h2) rfl (by decide) rfl ?_
        refine e_iconst (c := 1) (show pAt 86 68 = some (68, .iconst 1, 1, []) from by decide +kernel) (by decide) ?_
        refine e_iadd (show pAt 86 69 = some (69, .iadd, 1, []) from by decide +kernel) ?_
        refine e_pI (show pAt 86 70 = some (70, .putfield 188, 3, [2, 11, 1, 1063]) from by decide +kernel) (show HS (hpI h2 8 (h2.2.1 1 11).toNatClampNeg a) from hs_h2) (by decide) (Or.inl rfl) ?_
        refine e_aload_n (show pAt 86 73 = some (73, .aload_n 0, 1, []) from by decide +kernel) rfl (ra (by decide)) ?_
        refine e_gR (show pAt 86 74 = some (74, .getfield 12, 3, [6, 0, 0, 2022]) from by decide +kernel) (show HS (hpI (hpI h2 8 (h2.2.1 1 11).toNatClampNeg a) 1 11 ((h2.2.1 1 11) + 1)) from hs_h2) rfl (by decide) (hs_ref (show HS (hpI (hpI h2 8 (h2.2.1 1 11).toNatClampNeg a) 1 11 ((h2.2.1 1 11) + 1)) from hs_h2) rfl) ?_
        refine e_gIv (v := (h2.2.1 1 11) + 1) (show pAt 86 77 = some (77, .getfield 188, 3, [2, 11, 1, 1063]) from by decide +kernel) (show HS (hpI (hpI h2 8 (h2.2.1 1 11).toNatClampNeg a) 1 11 ((h2.2.1 1 11) + 1)) from hs_h2) rfl (by decide) rfl ?_
        exact e_retI (show pAt 86 80 = some (80, .ireturn, 1, []) from by decide +kernel) rfl vc
      · replace vc := vc.2 c6
        refine e_bipush (c := (-4)) (show pAt 86 41 = some (41, .bipush (-4), 2, []) from by decide +kernel) (by decide) ?_
        exact e_retI (show pAt 86 43 = some (43, .ireturn, 1, []) from by decide +kernel) rfl vc
    · replace vc := vc.2 c5
      refine e_bipush (c := (-2)) (show pAt 86 26 = some (26, .bipush (-2), 2, []) from by decide +kernel) (by decide) ?_
      exact e_retI (show pAt 86 28 = some (28, .ireturn, 1, []) from by decide +kernel) rfl vc
  · replace vc := vc.2 c1
    refine e_aload_n (show pAt 86 5 = some (5, .aload_n 0, 1, []) from by decide +kernel) rfl (ra (by decide)) ?_
    refine e_gR (show pAt 86 6 = some (6, .getfield 12, 3, [6, 0, 0, 2022]) from by decide +kernel) (show HS h from hs) rfl (by decide) (hs_ref (show HS h from hs) rfl) ?_
    refine e_iconst (c := 0) (show pAt 86 9 = some (9, .iconst 0, 1, []) from by decide +kernel) (by decide) ?_
    refine e_pI (show pAt 86 10 = some (10, .putfield 188, 3, [2, 11, 1, 1063]) from by decide +kernel) (show HS h from hs) (by decide) (Or.inl rfl) ?_
    refine e_iconst (c := 0) (show pAt 86 13 = some (13, .iconst 0, 1, []) from by decide +kernel) (by decide) ?_
    exact e_retI (show pAt 86 14 = some (14, .ireturn, 1, []) from by decide +kernel) rfl vc

theorem w_mbok {X : Scr} {dp : Nat} {h : Hp} {Q : Option Value → Hp → Prop} (a : Int32) (hs : HS h)
    (vc : ((condB .ne a (-1) = true → Ends X dp 113 0 [.ref 93] [] h (fun rv h2 => ∃ r3, rv = some (.int r3) ∧ HS h2 ∧ Ends X dp 109 0 [.ref 93, .int a, .int 0, .int r3] [] h2 (fun rv h5 => ∃ r6, rv = some (.int r6) ∧ HS h5 ∧ ((condB .ne r6 0 = true → ((condB .ne (h5.2.1 93 42) 12 = true → (inB (h5.2.1 93 42) 12 = true ∧ Q (some (.int ((h5.2.1 93 42) + 1))) (hpI (hpI h5 114 (h5.2.1 93 42).toNatClampNeg a) 93 42 ((h5.2.1 93 42) + 1)))) ∧ (condB .ne (h5.2.1 93 42) 12 = false → Q (some (.int (-4))) h5))) ∧ (condB .ne r6 0 = false → Q (some (.int (-2))) h5))))) ∧ (condB .ne a (-1) = false → Q (some (.int 0)) (hpI h 93 42 0)))) :
    Ends X (dp + 1) 181 0 [.ref 93, .int a] [] h Q := by
  have ra : ∀ {a : Nat}, a < 1000 → a ≤ OLDB := fun h => by have := OLDB_eq; omega
  refine e_iload_n (show pAt 181 0 = some (0, .iload_n 1, 1, []) from by decide +kernel) rfl ?_
  refine e_iconst (c := (-1)) (show pAt 181 1 = some (1, .iconst (-1), 1, []) from by decide +kernel) (by decide) ?_
  refine e_icmp (t := 12) (show pAt 181 2 = some (2, .if_icmp .ne 10, 3, []) from by decide +kernel) rfl (fun c1 => ?_) (fun c1 => ?_)
  · replace vc := vc.1 c1
    refine e_aload_n (show pAt 181 12 = some (12, .aload_n 0, 1, []) from by decide +kernel) rfl (ra (by decide)) ?_
    refine e_iload_n (show pAt 181 13 = some (13, .iload_n 1, 1, []) from by decide +kernel) rfl ?_
    refine e_iconst (c := 0) (show pAt 181 14 = some (14, .iconst 0, 1, []) from by decide +kernel) (by decide) ?_
    refine e_aload_n (show pAt 181 15 = some (15, .aload_n 0, 1, []) from by decide +kernel) rfl (ra (by decide)) ?_
    refine Ends.call (show pAt 181 16 = some (16, .invokevirtual 312, 3, [113, 1, 0, 0, 5237, 5239, 86]) from by decide +kernel) (isRet_none rfl) rfl (call_this (show HS h from hs) rfl rfl (by decide)) (Ends.mono vc ?_)
    rintro _ h2 ⟨r3, rfl, hs_h2, vc⟩
    refine Ends.call (show pAt 181 19 = some (19, .invokevirtual 206, 3, [109, 4, 0, 0, 5081, 5083, 54]) from by decide +kernel) (isRet_none rfl) rfl (call_this (show HS h2 from hs_h2) rfl rfl (by decide)) (Ends.mono vc ?_)
    rintro _ h5 ⟨r6, rfl, hs_h5, vc⟩
    refine e_if (t := 28) (show pAt 181 22 = some (22, .ifCond .ne 6, 3, []) from by decide +kernel) rfl (fun c8 => ?_) (fun c8 => ?_)
    · replace vc := vc.1 c8
      refine e_aload_n (show pAt 181 28 = some (28, .aload_n 0, 1, []) from by decide +kernel) rfl (ra (by decide)) ?_
      refine e_gIv (v := h5.2.1 93 42) (show pAt 181 29 = some (29, .getfield 139, 3, [7, 42, 0, 4165]) from by decide +kernel) (show HS h5 from hs_h5) rfl (by decide) rfl ?_
      refine e_bipush (c := 12) (show pAt 181 32 = some (32, .bipush 12, 2, []) from by decide +kernel) (by decide) ?_
      refine e_icmp (t := 40) (show pAt 181 34 = some (34, .if_icmp .ne 6, 3, []) from by decide +kernel) rfl (fun c9 => ?_) (fun c9 => ?_)
      · replace vc := vc.1 c9
        refine e_aload_n (show pAt 181 40 = some (40, .aload_n 0, 1, []) from by decide +kernel) rfl (ra (by decide)) ?_
        refine e_gR (show pAt 181 41 = some (41, .getfield 142, 3, [7, 43, 0, 4166]) from by decide +kernel) (show HS h5 from hs_h5) rfl (by decide) (hs_ref (show HS h5 from hs_h5) rfl) ?_
        refine e_aload_n (show pAt 181 44 = some (44, .aload_n 0, 1, []) from by decide +kernel) rfl (ra (by decide)) ?_
        refine e_gIv (v := h5.2.1 93 42) (show pAt 181 45 = some (45, .getfield 139, 3, [7, 42, 0, 4165]) from by decide +kernel) (show HS h5 from hs_h5) rfl (by decide) rfl ?_
        refine e_iload_n (show pAt 181 48 = some (48, .iload_n 1, 1, []) from by decide +kernel) rfl ?_
        obtain ⟨c10, vc⟩ := vc
        refine e_ast (show pAt 181 49 = some (49, .iastore, 1, []) from by decide +kernel) (show HS h5 from hs_h5) (by decide) c10 ?_
        refine e_aload_n (show pAt 181 50 = some (50, .aload_n 0, 1, []) from by decide +kernel) rfl (ra (by decide)) ?_
        refine e_dupR (show pAt 181 51 = some (51, .dup, 1, []) from by decide +kernel) ?_
        refine e_gIv (v := h5.2.1 93 42) (show pAt 181 52 = some (52, .getfield 139, 3, [7, 42, 0, 4165]) from by decide +kernel) (show HS (hpI h5 114 (h5.2.1 93 42).toNatClampNeg a) from hs_h5) rfl (by decide) rfl ?_
        refine e_iconst (c := 1) (show pAt 181 55 = some (55, .iconst 1, 1, []) from by decide +kernel) (by decide) ?_
        refine e_iadd (show pAt 181 56 = some (56, .iadd, 1, []) from by decide +kernel) ?_
        refine e_pI (show pAt 181 57 = some (57, .putfield 139, 3, [7, 42, 0, 4165]) from by decide +kernel) (show HS (hpI h5 114 (h5.2.1 93 42).toNatClampNeg a) from hs_h5) (by decide) (Or.inl rfl) ?_
        refine e_aload_n (show pAt 181 60 = some (60, .aload_n 0, 1, []) from by decide +kernel) rfl (ra (by decide)) ?_
        refine e_gIv (v := (h5.2.1 93 42) + 1) (show pAt 181 61 = some (61, .getfield 139, 3, [7, 42, 0, 4165]) from by decide +kernel) (show HS (hpI (hpI h5 114 (h5.2.1 93 42).toNatClampNeg a) 93 42 ((h5.2.1 93 42) + 1)) from hs_h5) rfl (by decide) rfl ?_
        exact e_retI (show pAt 181 64 = some (64, .ireturn, 1, []) from by decide +kernel) rfl vc
      · replace vc := vc.2 c9
        refine e_bipush (c := (-4)) (show pAt 181 37 = some (37, .bipush (-4), 2, []) from by decide +kernel) (by decide) ?_
        exact e_retI (show pAt 181 39 = some (39, .ireturn, 1, []) from by decide +kernel) rfl vc
    · replace vc := vc.2 c8
      refine e_bipush (c := (-2)) (show pAt 181 25 = some (25, .bipush (-2), 2, []) from by decide +kernel) (by decide) ?_
      exact e_retI (show pAt 181 27 = some (27, .ireturn, 1, []) from by decide +kernel) rfl vc
  · replace vc := vc.2 c1
    refine e_aload_n (show pAt 181 5 = some (5, .aload_n 0, 1, []) from by decide +kernel) rfl (ra (by decide)) ?_
    refine e_iconst (c := 0) (show pAt 181 6 = some (6, .iconst 0, 1, []) from by decide +kernel) (by decide) ?_
    refine e_pI (show pAt 181 7 = some (7, .putfield 139, 3, [7, 42, 0, 4165]) from by decide +kernel) (show HS h from hs) (by decide) (Or.inl rfl) ?_
    refine e_iconst (c := 0) (show pAt 181 10 = some (10, .iconst 0, 1, []) from by decide +kernel) (by decide) ?_
    exact e_retI (show pAt 181 11 = some (11, .ireturn, 1, []) from by decide +kernel) rfl vc

theorem w_fil0 {X : Scr} {dp : Nat} {h : Hp} {Q : Option Value → Hp → Prop} (a : Nat) (hA : (decide (a < 1000) && decide (SHl[a]? = some (.inl (1, 60)))) = true) (v : Int64) (hs : HS h)
    (vc : Ends X dp 220 6 [.ref a, .long v, .retAddr 0, .int 0, .int 60] [] h Q) :
    Ends X dp 220 0 [.ref a, .long v, .retAddr 0, .retAddr 0, .retAddr 0] [] h Q := by
  have ra : ∀ {a : Nat}, a < 1000 → a ≤ OLDB := fun h => by have := OLDB_eq; omega
  have rb : a ≤ OLDB := by
    have hB := OLDB_eq
    simp only [Bool.and_eq_true, decide_eq_true_eq] at hA
    omega
  refine e_iconst (c := 0) (show pAt 220 0 = some (0, .iconst 0, 1, []) from by decide +kernel) (by decide) ?_
  refine e_istore_n (show pAt 220 1 = some (1, .istore_n 3, 1, []) from by decide +kernel) ⟨Nat.le_of_ble_eq_true rfl, rfl⟩ rfl ?_
  refine e_aload_n (show pAt 220 2 = some (2, .aload_n 0, 1, []) from by decide +kernel) rfl rb ?_
  refine e_alenL (show pAt 220 3 = some (3, .arraylength, 1, []) from by decide +kernel) (show HS h from hs) hA ?_
  refine e_istore (show pAt 220 4 = some (4, .istore 4, 2, []) from by decide +kernel) ⟨Nat.le_of_ble_eq_true rfl, rfl⟩ rfl ?_
  exact vc

theorem w_fil1 {X : Scr} {dp : Nat} {h : Hp} {Q : Option Value → Hp → Prop} (a : Nat) (hA : (decide (a < 1000) && decide (SHl[a]? = some (.inl (1, 60)))) = true) (v : Int64) (i : Int32) (e : Int32) (hs : HS h)
    (vc : ((condB .ge i e = true → Q none h) ∧ (condB .ge i e = false → (inB i 60 = true ∧ Ends X dp 220 6 [.ref a, .long v, .retAddr 0, .int (i + 1), .int e] [] (hpL h a i.toNatClampNeg v) Q)))) :
    Ends X dp 220 6 [.ref a, .long v, .retAddr 0, .int i, .int e] [] h Q := by
  have ra : ∀ {a : Nat}, a < 1000 → a ≤ OLDB := fun h => by have := OLDB_eq; omega
  have rb : a ≤ OLDB := by
    have hB := OLDB_eq
    simp only [Bool.and_eq_true, decide_eq_true_eq] at hA
    omega
  refine e_iload_n (show pAt 220 6 = some (6, .iload_n 3, 1, []) from by decide +kernel) rfl ?_
  refine e_iload (show pAt 220 7 = some (7, .iload 4, 2, []) from by decide +kernel) rfl ?_
  refine e_icmp (t := 22) (show pAt 220 9 = some (9, .if_icmp .ge 13, 3, []) from by decide +kernel) rfl (fun c1 => ?_) (fun c1 => ?_)
  · replace vc := vc.1 c1
    exact e_retV (show pAt 220 22 = some (22, .return_, 1, []) from by decide +kernel) rfl vc
  · replace vc := vc.2 c1
    refine e_aload_n (show pAt 220 12 = some (12, .aload_n 0, 1, []) from by decide +kernel) rfl rb ?_
    refine e_iload_n (show pAt 220 13 = some (13, .iload_n 3, 1, []) from by decide +kernel) rfl ?_
    refine e_lload_n (show pAt 220 14 = some (14, .lload_n 1, 1, []) from by decide +kernel) rfl ?_
    obtain ⟨c2, vc⟩ := vc
    refine e_last (show pAt 220 15 = some (15, .lastore, 1, []) from by decide +kernel) (show HS h from hs) hA c2 ?_
    refine e_iinc (c := 1) (show pAt 220 16 = some (16, .iinc 3 1, 3, []) from by decide +kernel) rfl rfl (by decide) rfl ?_
    refine e_goto (t := 6) (show pAt 220 19 = some (19, .goto (-13), 3, []) from by decide +kernel) rfl ?_
    exact vc

theorem w_cbcm {X : Scr} {dp : Nat} {h : Hp} {Q : Option Value → Hp → Prop} (t : Int32) (s : Int32) (n : Int32) (hs : HS h)
    (vc : Ends X dp 35 0 [.ref 53, .int t] [] h (fun rv h1 => ∃ r2, rv = some (.int r2) ∧ HS h1 ∧ ((condB .eq r2 0 = true → Q none h1) ∧ (condB .eq r2 0 = false → (inB t 6 = true ∧ (inB t 6 = true ∧ (∃ b7 : Nat, (inB t 6 = true ∧ ((hpI (hpI h1 54 t.toNatClampNeg s) 55 t.toNatClampNeg n).2.2.2 56 t.toNatClampNeg = some b7 ∧ (b7 < 1000 ∧ Ends X dp 220 0 [.ref b7, .long 0, .retAddr 0, .retAddr 0, .retAddr 0] [] (hpI (hpI h1 54 t.toNatClampNeg s) 55 t.toNatClampNeg n) (fun rv h11 => rv = none ∧ HS h11 ∧ Q none h11))))))))))) :
    Ends X (dp + 1) 38 0 [.ref 53, .int t, .int s, .int n] [] h Q := by
  have ra : ∀ {a : Nat}, a < 1000 → a ≤ OLDB := fun h => by have := OLDB_eq; omega
  refine e_aload_n (show pAt 38 0 = some (0, .aload_n 0, 1, []) from by decide +kernel) rfl (ra (by decide)) ?_
  refine e_iload_n (show pAt 38 1 = some (1, .iload_n 1, 1, []) from by decide +kernel) rfl ?_
  refine Ends.call (show pAt 38 2 = some (2, .invokevirtual 27, 3, [35, 2, 0, 0, 4042, 4036, 48]) from by decide +kernel) (isRet_none rfl) rfl (call_this (show HS h from hs) rfl rfl (by decide)) (Ends.mono vc ?_)
  rintro _ h1 ⟨r2, rfl, hs_h1, vc⟩
  refine e_if (t := 32) (show pAt 38 5 = some (5, .ifCond .eq 27, 3, []) from by decide +kernel) rfl (fun c4 => ?_) (fun c4 => ?_)
  · replace vc := vc.1 c4
    exact e_retV (show pAt 38 32 = some (32, .return_, 1, []) from by decide +kernel) rfl vc
  · replace vc := vc.2 c4
    refine e_aload_n (show pAt 38 8 = some (8, .aload_n 0, 1, []) from by decide +kernel) rfl (ra (by decide)) ?_
    refine e_gR (show pAt 38 9 = some (9, .getfield 9, 3, [3, 0, 0, 2009]) from by decide +kernel) (show HS h1 from hs_h1) rfl (by decide) (hs_ref (show HS h1 from hs_h1) rfl) ?_
    refine e_iload_n (show pAt 38 12 = some (12, .iload_n 1, 1, []) from by decide +kernel) rfl ?_
    refine e_iload_n (show pAt 38 13 = some (13, .iload_n 2, 1, []) from by decide +kernel) rfl ?_
    obtain ⟨c5, vc⟩ := vc
    refine e_ast (show pAt 38 14 = some (14, .iastore, 1, []) from by decide +kernel) (show HS h1 from hs_h1) (by decide) c5 ?_
    refine e_aload_n (show pAt 38 15 = some (15, .aload_n 0, 1, []) from by decide +kernel) rfl (ra (by decide)) ?_
    refine e_gR (show pAt 38 16 = some (16, .getfield 13, 3, [3, 1, 0, 2011]) from by decide +kernel) (show HS (hpI h1 54 t.toNatClampNeg s) from hs_h1) rfl (by decide) (hs_ref (show HS (hpI h1 54 t.toNatClampNeg s) from hs_h1) rfl) ?_
    refine e_iload_n (show pAt 38 19 = some (19, .iload_n 1, 1, []) from by decide +kernel) rfl ?_
    refine e_iload_n (show pAt 38 20 = some (20, .iload_n 3, 1, []) from by decide +kernel) rfl ?_
    obtain ⟨c6, vc⟩ := vc
    refine e_ast (show pAt 38 21 = some (21, .iastore, 1, []) from by decide +kernel) (show HS (hpI h1 54 t.toNatClampNeg s) from hs_h1) (by decide) c6 ?_
    refine e_aload_n (show pAt 38 22 = some (22, .aload_n 0, 1, []) from by decide +kernel) rfl (ra (by decide)) ?_
    refine e_gR (show pAt 38 23 = some (23, .getfield 18, 3, [3, 2, 0, 2012]) from by decide +kernel) (show HS (hpI (hpI h1 54 t.toNatClampNeg s) 55 t.toNatClampNeg n) from hs_h1) rfl (by decide) (hs_ref (show HS (hpI (hpI h1 54 t.toNatClampNeg s) 55 t.toNatClampNeg n) from hs_h1) rfl) ?_
    refine e_iload_n (show pAt 38 26 = some (26, .iload_n 1, 1, []) from by decide +kernel) rfl ?_
    obtain ⟨b7, c8, c9, c10, vc⟩ := vc
    refine e_aald (t := 4) (show pAt 38 27 = some (27, .aaload, 1, []) from by decide +kernel) (show HS (hpI (hpI h1 54 t.toNatClampNeg s) 55 t.toNatClampNeg n) from hs_h1) (by decide) c8 c9 c10 ?_
    refine e_lconst (c := 0) (show pAt 38 28 = some (28, .lconst 0, 1, []) from by decide +kernel) (by decide) ?_
    refine Ends.call (show pAt 38 29 = some (29, .invokestatic 33, 3, [220, 2, 2, 0, 4094, 4095, 0]) from by decide +kernel) (isRet_none rfl) rfl rfl (Ends.mono vc ?_)
    rintro _ h11 ⟨rfl, hs_h11, vc⟩
    exact e_retV (show pAt 38 32 = some (32, .return_, 1, []) from by decide +kernel) rfl vc

theorem w_ctap {X : Scr} {dp : Nat} {h : Hp} {Q : Option Value → Hp → Prop} (t : Int32) (s : Int32) (n : Int32) (hs : HS h)
    (vc : Ends X dp 35 0 [.ref 53, .int t] [] h (fun rv h1 => ∃ r2, rv = some (.int r2) ∧ HS h1 ∧ ((condB .ne r2 0 = true → ((condB .ne s (-1) = true → ((condB .lt s 0 = true → Q (some (.int (-2))) h1) ∧ (condB .lt s 0 = false → ((condB .gt s 4 = true → Q (some (.int (-2))) h1) ∧ (condB .gt s 4 = false → ((condB .le n 60 = true → ((condB .ge n 0 = true → Ends X dp 38 0 [.ref 53, .int t, .int s, .int n] [] h1 (fun rv h10 => rv = none ∧ HS h10 ∧ Q (some (.int 1)) h10)) ∧ (condB .ge n 0 = false → Q (some (.int (-14))) h1))) ∧ (condB .le n 60 = false → Q (some (.int (-2))) h1))))))) ∧ (condB .ne s (-1) = false → Ends X dp 38 0 [.ref 53, .int t, .int s, .int 0] [] h1 (fun rv h13 => rv = none ∧ HS h13 ∧ Q (some (.int 1)) h13)))) ∧ (condB .ne r2 0 = false → Q (some (.int (-1))) h1)))) :
    Ends X (dp + 1) 95 0 [.ref 0, .int t, .int s, .int n] [] h Q := by
  have ra : ∀ {a : Nat}, a < 1000 → a ≤ OLDB := fun h => by have := OLDB_eq; omega
  refine e_aload_n (show pAt 95 0 = some (0, .aload_n 0, 1, []) from by decide +kernel) rfl (ra (by decide)) ?_
  refine e_gR (show pAt 95 1 = some (1, .getfield 56, 3, [6, 9, 0, 2031]) from by decide +kernel) (show HS h from hs) rfl (by decide) (hs_ref (show HS h from hs) rfl) ?_
  refine e_iload_n (show pAt 95 4 = some (4, .iload_n 1, 1, []) from by decide +kernel) rfl ?_
  refine Ends.call (show pAt 95 5 = some (5, .invokevirtual 194, 3, [35, 2, 0, 1, 4034, 4036, 48]) from by decide +kernel) (isRet_none rfl) rfl (call_this (show HS h from hs) rfl rfl (by decide)) (Ends.mono vc ?_)
  rintro _ h1 ⟨r2, rfl, hs_h1, vc⟩
  refine e_if (t := 13) (show pAt 95 8 = some (8, .ifCond .ne 5, 3, []) from by decide +kernel) rfl (fun c4 => ?_) (fun c4 => ?_)
  · replace vc := vc.1 c4
    refine e_iload_n (show pAt 95 13 = some (13, .iload_n 2, 1, []) from by decide +kernel) rfl ?_
    refine e_iconst (c := (-1)) (show pAt 95 14 = some (14, .iconst (-1), 1, []) from by decide +kernel) (by decide) ?_
    refine e_icmp (t := 30) (show pAt 95 15 = some (15, .if_icmp .ne 15, 3, []) from by decide +kernel) rfl (fun c5 => ?_) (fun c5 => ?_)
    · replace vc := vc.1 c5
      refine e_iload_n (show pAt 95 30 = some (30, .iload_n 2, 1, []) from by decide +kernel) rfl ?_
      refine e_if (t := 45) (show pAt 95 31 = some (31, .ifCond .lt 14, 3, []) from by decide +kernel) rfl (fun c6 => ?_) (fun c6 => ?_)
      · replace vc := vc.1 c6
        refine e_bipush (c := (-2)) (show pAt 95 45 = some (45, .bipush (-2), 2, []) from by decide +kernel) (by decide) ?_
        exact e_retI (show pAt 95 47 = some (47, .ireturn, 1, []) from by decide +kernel) rfl vc
      · replace vc := vc.2 c6
        refine e_iload_n (show pAt 95 34 = some (34, .iload_n 2, 1, []) from by decide +kernel) rfl ?_
        refine e_iconst (c := 4) (show pAt 95 35 = some (35, .iconst 4, 1, []) from by decide +kernel) (by decide) ?_
        refine e_icmp (t := 45) (show pAt 95 36 = some (36, .if_icmp .gt 9, 3, []) from by decide +kernel) rfl (fun c7 => ?_) (fun c7 => ?_)
        · replace vc := vc.1 c7
          refine e_bipush (c := (-2)) (show pAt 95 45 = some (45, .bipush (-2), 2, []) from by decide +kernel) (by decide) ?_
          exact e_retI (show pAt 95 47 = some (47, .ireturn, 1, []) from by decide +kernel) rfl vc
        · replace vc := vc.2 c7
          refine e_iload_n (show pAt 95 39 = some (39, .iload_n 3, 1, []) from by decide +kernel) rfl ?_
          refine e_bipush (c := 60) (show pAt 95 40 = some (40, .bipush 60, 2, []) from by decide +kernel) (by decide) ?_
          refine e_icmp (t := 48) (show pAt 95 42 = some (42, .if_icmp .le 6, 3, []) from by decide +kernel) rfl (fun c8 => ?_) (fun c8 => ?_)
          · replace vc := vc.1 c8
            refine e_iload_n (show pAt 95 48 = some (48, .iload_n 3, 1, []) from by decide +kernel) rfl ?_
            refine e_if (t := 55) (show pAt 95 49 = some (49, .ifCond .ge 6, 3, []) from by decide +kernel) rfl (fun c9 => ?_) (fun c9 => ?_)
            · replace vc := vc.1 c9
              refine e_aload_n (show pAt 95 55 = some (55, .aload_n 0, 1, []) from by decide +kernel) rfl (ra (by decide)) ?_
              refine e_gR (show pAt 95 56 = some (56, .getfield 56, 3, [6, 9, 0, 2031]) from by decide +kernel) (show HS h1 from hs_h1) rfl (by decide) (hs_ref (show HS h1 from hs_h1) rfl) ?_
              refine e_iload_n (show pAt 95 59 = some (59, .iload_n 1, 1, []) from by decide +kernel) rfl ?_
              refine e_iload_n (show pAt 95 60 = some (60, .iload_n 2, 1, []) from by decide +kernel) rfl ?_
              refine e_iload_n (show pAt 95 61 = some (61, .iload_n 3, 1, []) from by decide +kernel) rfl ?_
              refine Ends.call (show pAt 95 62 = some (62, .invokevirtual 236, 3, [38, 4, 0, 1, 4090, 4092, 52]) from by decide +kernel) (isRet_none rfl) rfl (call_this (show HS h1 from hs_h1) rfl rfl (by decide)) (Ends.mono vc ?_)
              rintro _ h10 ⟨rfl, hs_h10, vc⟩
              refine e_iconst (c := 1) (show pAt 95 65 = some (65, .iconst 1, 1, []) from by decide +kernel) (by decide) ?_
              exact e_retI (show pAt 95 66 = some (66, .ireturn, 1, []) from by decide +kernel) rfl vc
            · replace vc := vc.2 c9
              refine e_bipush (c := (-14)) (show pAt 95 52 = some (52, .bipush (-14), 2, []) from by decide +kernel) (by decide) ?_
              exact e_retI (show pAt 95 54 = some (54, .ireturn, 1, []) from by decide +kernel) rfl vc
          · replace vc := vc.2 c8
            refine e_bipush (c := (-2)) (show pAt 95 45 = some (45, .bipush (-2), 2, []) from by decide +kernel) (by decide) ?_
            exact e_retI (show pAt 95 47 = some (47, .ireturn, 1, []) from by decide +kernel) rfl vc
    · replace vc := vc.2 c5
      refine e_aload_n (show pAt 95 18 = some (18, .aload_n 0, 1, []) from by decide +kernel) rfl (ra (by decide)) ?_
      refine e_gR (show pAt 95 19 = some (19, .getfield 56, 3, [6, 9, 0, 2031]) from by decide +kernel) (show HS h1 from hs_h1) rfl (by decide) (hs_ref (show HS h1 from hs_h1) rfl) ?_
      refine e_iload_n (show pAt 95 22 = some (22, .iload_n 1, 1, []) from by decide +kernel) rfl ?_
      refine e_iload_n (show pAt 95 23 = some (23, .iload_n 2, 1, []) from by decide +kernel) rfl ?_
      refine e_iconst (c := 0) (show pAt 95 24 = some (24, .iconst 0, 1, []) from by decide +kernel) (by decide) ?_
      refine Ends.call (show pAt 95 25 = some (25, .invokevirtual 236, 3, [38, 4, 0, 1, 4090, 4092, 52]) from by decide +kernel) (isRet_none rfl) rfl (call_this (show HS h1 from hs_h1) rfl rfl (by decide)) (Ends.mono vc ?_)
      rintro _ h13 ⟨rfl, hs_h13, vc⟩
      refine e_iconst (c := 1) (show pAt 95 28 = some (28, .iconst 1, 1, []) from by decide +kernel) (by decide) ?_
      exact e_retI (show pAt 95 29 = some (29, .ireturn, 1, []) from by decide +kernel) rfl vc
  · replace vc := vc.2 c4
    refine e_iconst (c := (-1)) (show pAt 95 11 = some (11, .iconst (-1), 1, []) from by decide +kernel) (by decide) ?_
    exact e_retI (show pAt 95 12 = some (12, .ireturn, 1, []) from by decide +kernel) rfl vc

theorem w_mtap0 {X : Scr} {dp : Nat} {h : Hp} {Q : Option Value → Hp → Prop} (t : Int32) (s : Int32) (n : Int32) (hs : HS h)
    (vc : Ends X dp 198 0 [.ref 93, .int t] [] h (fun rv h1 => ∃ r2, rv = some (.int r2) ∧ HS h1 ∧ ((condB .ne r2 0 = true → Ends X dp 109 0 [.ref 93, .int s, .int (-1), .int 4] [] h1 (fun rv h5 => ∃ r6, rv = some (.int r6) ∧ HS h5 ∧ ((condB .eq r6 0 = true → Q (some (.int (-2))) h5) ∧ (condB .eq r6 0 = false → ((condB .lt s 0 = true → ((condB .lt s 0 = true → (inB t 6 = true ∧ ((condB .ge s 0 = true → (inB t 6 = true ∧ Ends X (dp + 1) 199 69 [.ref 93, .int t, .int s, .int n, .int 0] [] (hpI (hpI h5 123 t.toNatClampNeg s) 124 t.toNatClampNeg n) Q)) ∧ (condB .ge s 0 = false → (inB t 6 = true ∧ Ends X (dp + 1) 199 69 [.ref 93, .int t, .int s, .int n, .int 0] [] (hpI (hpI h5 123 t.toNatClampNeg s) 124 t.toNatClampNeg 0) Q))))) ∧ (condB .lt s 0 = false → ((condB .ge n 0 = true → (inB t 6 = true ∧ ((condB .ge s 0 = true → (inB t 6 = true ∧ Ends X (dp + 1) 199 69 [.ref 93, .int t, .int s, .int n, .int 0] [] (hpI (hpI h5 123 t.toNatClampNeg s) 124 t.toNatClampNeg n) Q)) ∧ (condB .ge s 0 = false → (inB t 6 = true ∧ Ends X (dp + 1) 199 69 [.ref 93, .int t, .int s, .int n, .int 0] [] (hpI (hpI h5 123 t.toNatClampNeg s) 124 t.toNatClampNeg 0) Q))))) ∧ (condB .ge n 0 = false → Q (some (.int (-14))) h5))))) ∧ (condB .lt s 0 = false → ((condB .le n 60 = true → ((condB .lt s 0 = true → (inB t 6 = true ∧ ((condB .ge s 0 = true → (inB t 6 = true ∧ Ends X (dp + 1) 199 69 [.ref 93, .int t, .int s, .int n, .int 0] [] (hpI (hpI h5 123 t.toNatClampNeg s) 124 t.toNatClampNeg n) Q)) ∧ (condB .ge s 0 = false → (inB t 6 = true ∧ Ends X (dp + 1) 199 69 [.ref 93, .int t, .int s, .int n, .int 0] [] (hpI (hpI h5 123 t.toNatClampNeg s) 124 t.toNatClampNeg 0) Q))))) ∧ (condB .lt s 0 = false → ((condB .ge n 0 = true → (inB t 6 = true ∧ ((condB .ge s 0 = true → (inB t 6 = true ∧ Ends X (dp + 1) 199 69 [.ref 93, .int t, .int s, .int n, .int 0] [] (hpI (hpI h5 123 t.toNatClampNeg s) 124 t.toNatClampNeg n) Q)) ∧ (condB .ge s 0 = false → (inB t 6 = true ∧ Ends X (dp + 1) 199 69 [.ref 93, .int t, .int s, .int n, .int 0] [] (hpI (hpI h5 123 t.toNatClampNeg s) 124 t.toNatClampNeg 0) Q))))) ∧ (condB .ge n 0 = false → Q (some (.int (-14))) h5))))) ∧ (condB .le n 60 = false → Q (some (.int (-2))) h5)))))))) ∧ (condB .ne r2 0 = false → Q (some (.int (-1))) h1)))) :
    Ends X (dp + 1) 199 0 [.ref 93, .int t, .int s, .int n, .retAddr 0] [] h Q := by
  have ra : ∀ {a : Nat}, a < 1000 → a ≤ OLDB := fun h => by have := OLDB_eq; omega
  refine e_aload_n (show pAt 199 0 = some (0, .aload_n 0, 1, []) from by decide +kernel) rfl (ra (by decide)) ?_
  refine e_iload_n (show pAt 199 1 = some (1, .iload_n 1, 1, []) from by decide +kernel) rfl ?_
  refine Ends.call (show pAt 199 2 = some (2, .invokevirtual 366, 3, [198, 2, 0, 0, 6138, 6140, 103]) from by decide +kernel) (isRet_none rfl) rfl (call_this (show HS h from hs) rfl rfl (by decide)) (Ends.mono vc ?_)
  rintro _ h1 ⟨r2, rfl, hs_h1, vc⟩
  refine e_if (t := 10) (show pAt 199 5 = some (5, .ifCond .ne 5, 3, []) from by decide +kernel) rfl (fun c4 => ?_) (fun c4 => ?_)
  · replace vc := vc.1 c4
    refine e_aload_n (show pAt 199 10 = some (10, .aload_n 0, 1, []) from by decide +kernel) rfl (ra (by decide)) ?_
    refine e_iload_n (show pAt 199 11 = some (11, .iload_n 2, 1, []) from by decide +kernel) rfl ?_
    refine e_iconst (c := (-1)) (show pAt 199 12 = some (12, .iconst (-1), 1, []) from by decide +kernel) (by decide) ?_
    refine e_iconst (c := 4) (show pAt 199 13 = some (13, .iconst 4, 1, []) from by decide +kernel) (by decide) ?_
    refine Ends.call (show pAt 199 14 = some (14, .invokevirtual 206, 3, [109, 4, 0, 0, 5081, 5083, 54]) from by decide +kernel) (isRet_none rfl) rfl (call_this (show HS h1 from hs_h1) rfl rfl (by decide)) (Ends.mono vc ?_)
    rintro _ h5 ⟨r6, rfl, hs_h5, vc⟩
    refine e_if (t := 30) (show pAt 199 17 = some (17, .ifCond .eq 13, 3, []) from by decide +kernel) rfl (fun c8 => ?_) (fun c8 => ?_)
    · replace vc := vc.1 c8
      refine e_bipush (c := (-2)) (show pAt 199 30 = some (30, .bipush (-2), 2, []) from by decide +kernel) (by decide) ?_
      exact e_retI (show pAt 199 32 = some (32, .ireturn, 1, []) from by decide +kernel) rfl vc
    · replace vc := vc.2 c8
      refine e_iload_n (show pAt 199 20 = some (20, .iload_n 2, 1, []) from by decide +kernel) rfl ?_
      refine e_if (t := 33) (show pAt 199 21 = some (21, .ifCond .lt 12, 3, []) from by decide +kernel) rfl (fun c9 => ?_) (fun c9 => ?_)
      · replace vc := vc.1 c9
        refine e_iload_n (show pAt 199 33 = some (33, .iload_n 2, 1, []) from by decide +kernel) rfl ?_
        refine e_if (t := 44) (show pAt 199 34 = some (34, .ifCond .lt 10, 3, []) from by decide +kernel) rfl (fun c10 => ?_) (fun c10 => ?_)
        · replace vc := vc.1 c10
          refine e_aload_n (show pAt 199 44 = some (44, .aload_n 0, 1, []) from by decide +kernel) rfl (ra (by decide)) ?_
          refine e_gR (show pAt 199 45 = some (45, .getfield 193, 3, [7, 60, 0, 4183]) from by decide +kernel) (show HS h5 from hs_h5) rfl (by decide) (hs_ref (show HS h5 from hs_h5) rfl) ?_
          refine e_iload_n (show pAt 199 48 = some (48, .iload_n 1, 1, []) from by decide +kernel) rfl ?_
          refine e_iload_n (show pAt 199 49 = some (49, .iload_n 2, 1, []) from by decide +kernel) rfl ?_
          obtain ⟨c11, vc⟩ := vc
          refine e_ast (show pAt 199 50 = some (50, .iastore, 1, []) from by decide +kernel) (show HS h5 from hs_h5) (by decide) c11 ?_
          refine e_aload_n (show pAt 199 51 = some (51, .aload_n 0, 1, []) from by decide +kernel) rfl (ra (by decide)) ?_
          refine e_gR (show pAt 199 52 = some (52, .getfield 196, 3, [7, 61, 0, 4184]) from by decide +kernel) (show HS (hpI h5 123 t.toNatClampNeg s) from hs_h5) rfl (by decide) (hs_ref (show HS (hpI h5 123 t.toNatClampNeg s) from hs_h5) rfl) ?_
          refine e_iload_n (show pAt 199 55 = some (55, .iload_n 1, 1, []) from by decide +kernel) rfl ?_
          refine e_iload_n (show pAt 199 56 = some (56, .iload_n 2, 1, []) from by decide +kernel) rfl ?_
          refine e_if (t := 64) (show pAt 199 57 = some (57, .ifCond .ge 7, 3, []) from by decide +kernel) rfl (fun c12 => ?_) (fun c12 => ?_)
          · replace vc := vc.1 c12
            refine e_iload_n (show pAt 199 64 = some (64, .iload_n 3, 1, []) from by decide +kernel) rfl ?_
            obtain ⟨c13, vc⟩ := vc
            refine e_ast (show pAt 199 65 = some (65, .iastore, 1, []) from by decide +kernel) (show HS (hpI h5 123 t.toNatClampNeg s) from hs_h5) (by decide) c13 ?_
            refine e_iconst (c := 0) (show pAt 199 66 = some (66, .iconst 0, 1, []) from by decide +kernel) (by decide) ?_
            refine e_istore (show pAt 199 67 = some (67, .istore 4, 2, []) from by decide +kernel) ⟨Nat.le_of_ble_eq_true rfl, rfl⟩ rfl ?_
            exact vc
          · replace vc := vc.2 c12
            refine e_iconst (c := 0) (show pAt 199 60 = some (60, .iconst 0, 1, []) from by decide +kernel) (by decide) ?_
            refine e_goto (t := 65) (show pAt 199 61 = some (61, .goto 4, 3, []) from by decide +kernel) rfl ?_
            obtain ⟨c14, vc⟩ := vc
            refine e_ast (show pAt 199 65 = some (65, .iastore, 1, []) from by decide +kernel) (show HS (hpI h5 123 t.toNatClampNeg s) from hs_h5) (by decide) c14 ?_
            refine e_iconst (c := 0) (show pAt 199 66 = some (66, .iconst 0, 1, []) from by decide +kernel) (by decide) ?_
            refine e_istore (show pAt 199 67 = some (67, .istore 4, 2, []) from by decide +kernel) ⟨Nat.le_of_ble_eq_true rfl, rfl⟩ rfl ?_
            exact vc
        · replace vc := vc.2 c10
          refine e_iload_n (show pAt 199 37 = some (37, .iload_n 3, 1, []) from by decide +kernel) rfl ?_
          refine e_if (t := 44) (show pAt 199 38 = some (38, .ifCond .ge 6, 3, []) from by decide +kernel) rfl (fun c15 => ?_) (fun c15 => ?_)
          · replace vc := vc.1 c15
            refine e_aload_n (show pAt 199 44 = some (44, .aload_n 0, 1, []) from by decide +kernel) rfl (ra (by decide)) ?_
            refine e_gR (show pAt 199 45 = some (45, .getfield 193, 3, [7, 60, 0, 4183]) from by decide +kernel) (show HS h5 from hs_h5) rfl (by decide) (hs_ref (show HS h5 from hs_h5) rfl) ?_
            refine e_iload_n (show pAt 199 48 = some (48, .iload_n 1, 1, []) from by decide +kernel) rfl ?_
            refine e_iload_n (show pAt 199 49 = some (49, .iload_n 2, 1, []) from by decide +kernel) rfl ?_
            obtain ⟨c16, vc⟩ := vc
            refine e_ast (show pAt 199 50 = some (50, .iastore, 1, []) from by decide +kernel) (show HS h5 from hs_h5) (by decide) c16 ?_
            refine e_aload_n (show pAt 199 51 = some (51, .aload_n 0, 1, []) from by decide +kernel) rfl (ra (by decide)) ?_
            refine e_gR (show pAt 199 52 = some (52, .getfield 196, 3, [7, 61, 0, 4184]) from by decide +kernel) (show HS (hpI h5 123 t.toNatClampNeg s) from hs_h5) rfl (by decide) (hs_ref (show HS (hpI h5 123 t.toNatClampNeg s) from hs_h5) rfl) ?_
            refine e_iload_n (show pAt 199 55 = some (55, .iload_n 1, 1, []) from by decide +kernel) rfl ?_
            refine e_iload_n (show pAt 199 56 = some (56, .iload_n 2, 1, []) from by decide +kernel) rfl ?_
            refine e_if (t := 64) (show pAt 199 57 = some (57, .ifCond .ge 7, 3, []) from by decide +kernel) rfl (fun c17 => ?_) (fun c17 => ?_)
            · replace vc := vc.1 c17
              refine e_iload_n (show pAt 199 64 = some (64, .iload_n 3, 1, []) from by decide +kernel) rfl ?_
              obtain ⟨c18, vc⟩ := vc
              refine e_ast (show pAt 199 65 = some (65, .iastore, 1, []) from by decide +kernel) (show HS (hpI h5 123 t.toNatClampNeg s) from hs_h5) (by decide) c18 ?_
              refine e_iconst (c := 0) (show pAt 199 66 = some (66, .iconst 0, 1, []) from by decide +kernel) (by decide) ?_
              refine e_istore (show pAt 199 67 = some (67, .istore 4, 2, []) from by decide +kernel) ⟨Nat.le_of_ble_eq_true rfl, rfl⟩ rfl ?_
              exact vc
            · replace vc := vc.2 c17
              refine e_iconst (c := 0) (show pAt 199 60 = some (60, .iconst 0, 1, []) from by decide +kernel) (by decide) ?_
              refine e_goto (t := 65) (show pAt 199 61 = some (61, .goto 4, 3, []) from by decide +kernel) rfl ?_
              obtain ⟨c19, vc⟩ := vc
              refine e_ast (show pAt 199 65 = some (65, .iastore, 1, []) from by decide +kernel) (show HS (hpI h5 123 t.toNatClampNeg s) from hs_h5) (by decide) c19 ?_
              refine e_iconst (c := 0) (show pAt 199 66 = some (66, .iconst 0, 1, []) from by decide +kernel) (by decide) ?_
              refine e_istore (show pAt 199 67 = some (67, .istore 4, 2, []) from by decide +kernel) ⟨Nat.le_of_ble_eq_true rfl, rfl⟩ rfl ?_
              exact vc
          · replace vc := vc.2 c15
            refine e_bipush (c := (-14)) (show pAt 199 41 = some (41, .bipush (-14), 2, []) from by decide +kernel) (by decide) ?_
            exact e_retI (show pAt 199 43 = some (43, .ireturn, 1, []) from by decide +kernel) rfl vc
      · replace vc := vc.2 c9
        refine e_iload_n (show pAt 199 24 = some (24, .iload_n 3, 1, []) from by decide +kernel) rfl ?_
        refine e_bipush (c := 60) (show pAt 199 25 = some (25, .bipush 60, 2, []) from by decide +kernel) (by decide) ?_
        refine e_icmp (t := 33) (show pAt 199 27 = some (27, .if_icmp .le 6, 3, []) from by decide +kernel) rfl (fun c20 => ?_) (fun c20 => ?_)
        · replace vc := vc.1 c20
          refine e_iload_n (show pAt 199 33 = some (33, .iload_n 2, 1, []) from by decide +kernel) rfl ?_
          refine e_if (t := 44) (show pAt 199 34 = some (34, .ifCond .lt 10, 3, []) from by decide +kernel) rfl (fun c21 => ?_) (fun c21 => ?_)
          · replace vc := vc.1 c21
            refine e_aload_n (show pAt 199 44 = some (44, .aload_n 0, 1, []) from by decide +kernel) rfl (ra (by decide)) ?_
            refine e_gR (show pAt 199 45 = some (45, .getfield 193, 3, [7, 60, 0, 4183]) from by decide +kernel) (show HS h5 from hs_h5) rfl (by decide) (hs_ref (show HS h5 from hs_h5) rfl) ?_
            refine e_iload_n (show pAt 199 48 = some (48, .iload_n 1, 1, []) from by decide +kernel) rfl ?_
            refine e_iload_n (show pAt 199 49 = some (49, .iload_n 2, 1, []) from by decide +kernel) rfl ?_
            obtain ⟨c22, vc⟩ := vc
            refine e_ast (show pAt 199 50 = some (50, .iastore, 1, []) from by decide +kernel) (show HS h5 from hs_h5) (by decide) c22 ?_
            refine e_aload_n (show pAt 199 51 = some (51, .aload_n 0, 1, []) from by decide +kernel) rfl (ra (by decide)) ?_
            refine e_gR (show pAt 199 52 = some (52, .getfield 196, 3, [7, 61, 0, 4184]) from by decide +kernel) (show HS (hpI h5 123 t.toNatClampNeg s) from hs_h5) rfl (by decide) (hs_ref (show HS (hpI h5 123 t.toNatClampNeg s) from hs_h5) rfl) ?_
            refine e_iload_n (show pAt 199 55 = some (55, .iload_n 1, 1, []) from by decide +kernel) rfl ?_
            refine e_iload_n (show pAt 199 56 = some (56, .iload_n 2, 1, []) from by decide +kernel) rfl ?_
            refine e_if (t := 64) (show pAt 199 57 = some (57, .ifCond .ge 7, 3, []) from by decide +kernel) rfl (fun c23 => ?_) (fun c23 => ?_)
            · replace vc := vc.1 c23
              refine e_iload_n (show pAt 199 64 = some (64, .iload_n 3, 1, []) from by decide +kernel) rfl ?_
              obtain ⟨c24, vc⟩ := vc
              refine e_ast (show pAt 199 65 = some (65, .iastore, 1, []) from by decide +kernel) (show HS (hpI h5 123 t.toNatClampNeg s) from hs_h5) (by decide) c24 ?_
              refine e_iconst (c := 0) (show pAt 199 66 = some (66, .iconst 0, 1, []) from by decide +kernel) (by decide) ?_
              refine e_istore (show pAt 199 67 = some (67, .istore 4, 2, []) from by decide +kernel) ⟨Nat.le_of_ble_eq_true rfl, rfl⟩ rfl ?_
              exact vc
            · replace vc := vc.2 c23
              refine e_iconst (c := 0) (show pAt 199 60 = some (60, .iconst 0, 1, []) from by decide +kernel) (by decide) ?_
              refine e_goto (t := 65) (show pAt 199 61 = some (61, .goto 4, 3, []) from by decide +kernel) rfl ?_
              obtain ⟨c25, vc⟩ := vc
              refine e_ast (show pAt 199 65 = some (65, .iastore, 1, []) from by decide +kernel) (show HS (hpI h5 123 t.toNatClampNeg s) from hs_h5) (by decide) c25 ?_
              refine e_iconst (c := 0) (show pAt 199 66 = some (66, .iconst 0, 1, []) from by decide +kernel) (by decide) ?_
              refine e_istore (show pAt 199 67 = some (67, .istore 4, 2, []) from by decide +kernel) ⟨Nat.le_of_ble_eq_true rfl, rfl⟩ rfl ?_
              exact vc
          · replace vc := vc.2 c21
            refine e_iload_n (show pAt 199 37 = some (37, .iload_n 3, 1, []) from by decide +kernel) rfl ?_
            refine e_if (t := 44) (show pAt 199 38 = some (38, .ifCond .ge 6, 3, []) from by decide +kernel) rfl (fun c26 => ?_) (fun c26 => ?_)
            · replace vc := vc.1 c26
              refine e_aload_n (show pAt 199 44 = some (44, .aload_n 0, 1, []) from by decide +kernel) rfl (ra (by decide)) ?_
              refine e_gR (show pAt 199 45 = some (45, .getfield 193, 3, [7, 60, 0, 4183]) from by decide +kernel) (show HS h5 from hs_h5) rfl (by decide) (hs_ref (show HS h5 from hs_h5) rfl) ?_
              refine e_iload_n (show pAt 199 48 = some (48, .iload_n 1, 1, []) from by decide +kernel) rfl ?_
              refine e_iload_n (show pAt 199 49 = some (49, .iload_n 2, 1, []) from by decide +kernel) rfl ?_
              obtain ⟨c27, vc⟩ := vc
              refine e_ast (show pAt 199 50 = some (50, .iastore, 1, []) from by decide +kernel) (show HS h5 from hs_h5) (by decide) c27 ?_
              refine e_aload_n (show pAt 199 51 = some (51, .aload_n 0, 1, []) from by decide +kernel) rfl (ra (by decide)) ?_
              refine e_gR (show pAt 199 52 = some (52, .getfield 196, 3, [7, 61, 0, 4184]) from by decide +kernel) (show HS (hpI h5 123 t.toNatClampNeg s) from hs_h5) rfl (by decide) (hs_ref (show HS (hpI h5 123 t.toNatClampNeg s) from hs_h5) rfl) ?_
              refine e_iload_n (show pAt 199 55 = some (55, .iload_n 1, 1, []) from by decide +kernel) rfl ?_
              refine e_iload_n (show pAt 199 56 = some (56, .iload_n 2, 1, []) from by decide +kernel) rfl ?_
              refine e_if (t := 64) (show pAt 199 57 = some (57, .ifCond .ge 7, 3, []) from by decide +kernel) rfl (fun c28 => ?_) (fun c28 => ?_)
              · replace vc := vc.1 c28
                refine e_iload_n (show pAt 199 64 = some (64, .iload_n 3, 1, []) from by decide +kernel) rfl ?_
                obtain ⟨c29, vc⟩ := vc
                refine e_ast (show pAt 199 65 = some (65, .iastore, 1, []) from by decide +kernel) (show HS (hpI h5 123 t.toNatClampNeg s) from hs_h5) (by decide) c29 ?_
                refine e_iconst (c := 0) (show pAt 199 66 = some (66, .iconst 0, 1, []) from by decide +kernel) (by decide) ?_
                refine e_istore (show pAt 199 67 = some (67, .istore 4, 2, []) from by decide +kernel) ⟨Nat.le_of_ble_eq_true rfl, rfl⟩ rfl ?_
                exact vc
              · replace vc := vc.2 c28
                refine e_iconst (c := 0) (show pAt 199 60 = some (60, .iconst 0, 1, []) from by decide +kernel) (by decide) ?_
                refine e_goto (t := 65) (show pAt 199 61 = some (61, .goto 4, 3, []) from by decide +kernel) rfl ?_
                obtain ⟨c30, vc⟩ := vc
                refine e_ast (show pAt 199 65 = some (65, .iastore, 1, []) from by decide +kernel) (show HS (hpI h5 123 t.toNatClampNeg s) from hs_h5) (by decide) c30 ?_
                refine e_iconst (c := 0) (show pAt 199 66 = some (66, .iconst 0, 1, []) from by decide +kernel) (by decide) ?_
                refine e_istore (show pAt 199 67 = some (67, .istore 4, 2, []) from by decide +kernel) ⟨Nat.le_of_ble_eq_true rfl, rfl⟩ rfl ?_
                exact vc
            · replace vc := vc.2 c26
              refine e_bipush (c := (-14)) (show pAt 199 41 = some (41, .bipush (-14), 2, []) from by decide +kernel) (by decide) ?_
              exact e_retI (show pAt 199 43 = some (43, .ireturn, 1, []) from by decide +kernel) rfl vc
        · replace vc := vc.2 c20
          refine e_bipush (c := (-2)) (show pAt 199 30 = some (30, .bipush (-2), 2, []) from by decide +kernel) (by decide) ?_
          exact e_retI (show pAt 199 32 = some (32, .ireturn, 1, []) from by decide +kernel) rfl vc
  · replace vc := vc.2 c4
    refine e_iconst (c := (-1)) (show pAt 199 8 = some (8, .iconst (-1), 1, []) from by decide +kernel) (by decide) ?_
    exact e_retI (show pAt 199 9 = some (9, .ireturn, 1, []) from by decide +kernel) rfl vc

theorem w_mtap1 {X : Scr} {dp : Nat} {h : Hp} {Q : Option Value → Hp → Prop} (t : Int32) (s : Int32) (n : Int32) (k : Int32) (hs : HS h)
    (vc : ((condB .ge k 60 = true → Q (some (.int 1)) h) ∧ (condB .ge k 60 = false → (inB ((60 * t) + k) 360 = true ∧ Ends X dp 199 69 [.ref 93, .int t, .int s, .int n, .int (k + 1)] [] (hpL h 125 ((60 * t) + k).toNatClampNeg 0) Q)))) :
    Ends X dp 199 69 [.ref 93, .int t, .int s, .int n, .int k] [] h Q := by
  have ra : ∀ {a : Nat}, a < 1000 → a ≤ OLDB := fun h => by have := OLDB_eq; omega
  refine e_iload (show pAt 199 69 = some (69, .iload 4, 2, []) from by decide +kernel) rfl ?_
  refine e_bipush (c := 60) (show pAt 199 71 = some (71, .bipush 60, 2, []) from by decide +kernel) (by decide) ?_
  refine e_icmp (t := 95) (show pAt 199 73 = some (73, .if_icmp .ge 22, 3, []) from by decide +kernel) rfl (fun c1 => ?_) (fun c1 => ?_)
  · replace vc := vc.1 c1
    refine e_iconst (c := 1) (show pAt 199 95 = some (95, .iconst 1, 1, []) from by decide +kernel) (by decide) ?_
    exact e_retI (show pAt 199 96 = some (96, .ireturn, 1, []) from by decide +kernel) rfl vc
  · replace vc := vc.2 c1
    refine e_aload_n (show pAt 199 76 = some (76, .aload_n 0, 1, []) from by decide +kernel) rfl (ra (by decide)) ?_
    refine e_gR (show pAt 199 77 = some (77, .getfield 199, 3, [7, 62, 0, 4185]) from by decide +kernel) (show HS h from hs) rfl (by decide) (hs_ref (show HS h from hs) rfl) ?_
    refine e_bipush (c := 60) (show pAt 199 80 = some (80, .bipush 60, 2, []) from by decide +kernel) (by decide) ?_
    refine e_iload_n (show pAt 199 82 = some (82, .iload_n 1, 1, []) from by decide +kernel) rfl ?_
    refine e_imul (show pAt 199 83 = some (83, .imul, 1, []) from by decide +kernel) ?_
    refine e_iload (show pAt 199 84 = some (84, .iload 4, 2, []) from by decide +kernel) rfl ?_
    refine e_iadd (show pAt 199 86 = some (86, .iadd, 1, []) from by decide +kernel) ?_
    refine e_lconst (c := 0) (show pAt 199 87 = some (87, .lconst 0, 1, []) from by decide +kernel) (by decide) ?_
    obtain ⟨c2, vc⟩ := vc
    refine e_last (show pAt 199 88 = some (88, .lastore, 1, []) from by decide +kernel) (show HS h from hs) (by decide) c2 ?_
    refine e_iinc (c := 1) (show pAt 199 89 = some (89, .iinc 4 1, 3, []) from by decide +kernel) rfl rfl (by decide) rfl ?_
    refine e_goto (t := 69) (show pAt 199 92 = some (92, .goto (-23), 3, []) from by decide +kernel) rfl ?_
    exact vc

theorem w_chpl {X : Scr} {dp : Nat} {h : Hp} {Q : Option Value → Hp → Prop} (t : Int32) (p : Int64) (hs : HS h)
    (vc : Ends X dp 35 0 [.ref 53, .int t] [] h (fun rv h1 => ∃ r2, rv = some (.int r2) ∧ HS h1 ∧ ((condB .eq r2 0 = true → Q (some (.int 0)) h1) ∧ (condB .eq r2 0 = false → ((condB .lt (lg_cmp p 0) 0 = true → Q (some (.int 0)) h1) ∧ (condB .lt (lg_cmp p 0) 0 = false → (inB t 6 = true ∧ ((condB .ge (lg_cmp p ((h1.2.1 55 t.toNatClampNeg).toInt64)) 0 = true → Q (some (.int 0)) h1) ∧ (condB .ge (lg_cmp p ((h1.2.1 55 t.toNatClampNeg).toInt64)) 0 = false → ((condB .ge (lg_cmp p 60) 0 = true → Q (some (.int 0)) h1) ∧ (condB .ge (lg_cmp p 60) 0 = false → Q (some (.int 1)) h1))))))))))) :
    Ends X (dp + 1) 36 0 [.ref 53, .int t, .long p, .retAddr 0] [] h Q := by
  have ra : ∀ {a : Nat}, a < 1000 → a ≤ OLDB := fun h => by have := OLDB_eq; omega
  refine e_aload_n (show pAt 36 0 = some (0, .aload_n 0, 1, []) from by decide +kernel) rfl (ra (by decide)) ?_
  refine e_iload_n (show pAt 36 1 = some (1, .iload_n 1, 1, []) from by decide +kernel) rfl ?_
  refine Ends.call (show pAt 36 2 = some (2, .invokevirtual 27, 3, [35, 2, 0, 0, 4042, 4036, 48]) from by decide +kernel) (isRet_none rfl) rfl (call_this (show HS h from hs) rfl rfl (by decide)) (Ends.mono vc ?_)
  rintro _ h1 ⟨r2, rfl, hs_h1, vc⟩
  refine e_if (t := 38) (show pAt 36 5 = some (5, .ifCond .eq 33, 3, []) from by decide +kernel) rfl (fun c4 => ?_) (fun c4 => ?_)
  · replace vc := vc.1 c4
    refine e_iconst (c := 0) (show pAt 36 38 = some (38, .iconst 0, 1, []) from by decide +kernel) (by decide) ?_
    exact e_retZ (show pAt 36 39 = some (39, .ireturn, 1, []) from by decide +kernel) rfl (by decide) vc
  · replace vc := vc.2 c4
    refine e_lload_n (show pAt 36 8 = some (8, .lload_n 2, 1, []) from by decide +kernel) rfl ?_
    refine e_lconst (c := 0) (show pAt 36 9 = some (9, .lconst 0, 1, []) from by decide +kernel) (by decide) ?_
    refine e_lcmp (show pAt 36 10 = some (10, .lcmp, 1, []) from by decide +kernel) ?_
    refine e_if (t := 38) (show pAt 36 11 = some (11, .ifCond .lt 27, 3, []) from by decide +kernel) rfl (fun c5 => ?_) (fun c5 => ?_)
    · replace vc := vc.1 c5
      refine e_iconst (c := 0) (show pAt 36 38 = some (38, .iconst 0, 1, []) from by decide +kernel) (by decide) ?_
      exact e_retZ (show pAt 36 39 = some (39, .ireturn, 1, []) from by decide +kernel) rfl (by decide) vc
    · replace vc := vc.2 c5
      refine e_lload_n (show pAt 36 14 = some (14, .lload_n 2, 1, []) from by decide +kernel) rfl ?_
      refine e_aload_n (show pAt 36 15 = some (15, .aload_n 0, 1, []) from by decide +kernel) rfl (ra (by decide)) ?_
      refine e_gR (show pAt 36 16 = some (16, .getfield 13, 3, [3, 1, 0, 2011]) from by decide +kernel) (show HS h1 from hs_h1) rfl (by decide) (hs_ref (show HS h1 from hs_h1) rfl) ?_
      refine e_iload_n (show pAt 36 19 = some (19, .iload_n 1, 1, []) from by decide +kernel) rfl ?_
      obtain ⟨c6, vc⟩ := vc
      refine e_aldv (v := h1.2.1 55 t.toNatClampNeg) (show pAt 36 20 = some (20, .iaload, 1, []) from by decide +kernel) (show HS h1 from hs_h1) (by decide) c6 rfl ?_
      refine e_i2l (show pAt 36 21 = some (21, .i2l, 1, []) from by decide +kernel) ?_
      refine e_lcmp (show pAt 36 22 = some (22, .lcmp, 1, []) from by decide +kernel) ?_
      refine e_if (t := 38) (show pAt 36 23 = some (23, .ifCond .ge 15, 3, []) from by decide +kernel) rfl (fun c7 => ?_) (fun c7 => ?_)
      · replace vc := vc.1 c7
        refine e_iconst (c := 0) (show pAt 36 38 = some (38, .iconst 0, 1, []) from by decide +kernel) (by decide) ?_
        exact e_retZ (show pAt 36 39 = some (39, .ireturn, 1, []) from by decide +kernel) rfl (by decide) vc
      · replace vc := vc.2 c7
        refine e_lload_n (show pAt 36 26 = some (26, .lload_n 2, 1, []) from by decide +kernel) rfl ?_
        refine e_ldc2 (c := 60) (show pAt 36 27 = some (27, .ldc2_w 31, 3, [60, 4043]) from by decide +kernel) (by decide) ?_
        refine e_lcmp (show pAt 36 30 = some (30, .lcmp, 1, []) from by decide +kernel) ?_
        refine e_if (t := 38) (show pAt 36 31 = some (31, .ifCond .ge 7, 3, []) from by decide +kernel) rfl (fun c8 => ?_) (fun c8 => ?_)
        · replace vc := vc.1 c8
          refine e_iconst (c := 0) (show pAt 36 38 = some (38, .iconst 0, 1, []) from by decide +kernel) (by decide) ?_
          exact e_retZ (show pAt 36 39 = some (39, .ireturn, 1, []) from by decide +kernel) rfl (by decide) vc
        · replace vc := vc.2 c8
          refine e_iconst (c := 1) (show pAt 36 34 = some (34, .iconst 1, 1, []) from by decide +kernel) (by decide) ?_
          refine e_goto (t := 39) (show pAt 36 35 = some (35, .goto 4, 3, []) from by decide +kernel) rfl ?_
          exact e_retZ (show pAt 36 39 = some (39, .ireturn, 1, []) from by decide +kernel) rfl (by decide) vc

theorem w_cass {X : Scr} {dp : Nat} {h : Hp} {Q : Option Value → Hp → Prop} (s : Int32) (v : Int64) (hs : HS h)
    (vc : (((s.toInt < 0 ∨ 4 < s.toInt) → Q (some (.long v)) h) ∧ (s.toInt = 0 → Q (some (.long (((v.toInt32).toInt8.toInt32).toInt64))) h) ∧ (s.toInt = 1 → Q (some (.long (((v.toInt32).toInt16.toInt32).toInt64))) h) ∧ (s.toInt = 2 → Q (some (.long ((v.toInt32).toInt64))) h) ∧ (s.toInt = 3 → Q (some (.long v)) h) ∧ (s.toInt = 4 → ((condB .eq (lg_cmp v 0) 0 = true → Q (some (.long 0)) h) ∧ (condB .eq (lg_cmp v 0) 0 = false → Q (some (.long 1)) h))))) :
    Ends X dp 39 0 [.int s, .long v, .retAddr 0] [] h Q := by
  refine e_iload_n (show pAt 39 0 = some (0, .iload_n 0, 1, []) from by decide +kernel) rfl ?_
  rcases (show (s.toInt < 0 ∨ 4 < s.toInt) ∨ s.toInt = 0 ∨ s.toInt = 1 ∨ s.toInt = 2 ∨ s.toInt = 3 ∨ s.toInt = 4 from by omega) with c1 | c1 | c1 | c1 | c1 | c1
  · refine e_tsd (t := 62) (show pAt 39 1 = some (1, .tableswitch 61 0 4 #[35, 40, 45, 61, 49], 35, []) from by decide +kernel) c1 rfl ?_
    replace vc := vc.1 c1
    refine e_lload_n (show pAt 39 62 = some (62, .lload_n 1, 1, []) from by decide +kernel) rfl ?_
    exact e_retL (show pAt 39 63 = some (63, .lreturn, 1, []) from by decide +kernel) rfl vc
  · refine e_tsc (t := 36) 0 (show pAt 39 1 = some (1, .tableswitch 61 0 4 #[35, 40, 45, 61, 49], 35, []) from by decide +kernel) (by omega) (by omega) rfl rfl ?_
    replace vc := vc.2.1 c1
    refine e_lload_n (show pAt 39 36 = some (36, .lload_n 1, 1, []) from by decide +kernel) rfl ?_
    refine e_l2i (show pAt 39 37 = some (37, .l2i, 1, []) from by decide +kernel) ?_
    refine e_i2b (show pAt 39 38 = some (38, .i2b, 1, []) from by decide +kernel) ?_
    refine e_i2l (show pAt 39 39 = some (39, .i2l, 1, []) from by decide +kernel) ?_
    exact e_retL (show pAt 39 40 = some (40, .lreturn, 1, []) from by decide +kernel) rfl vc
  · refine e_tsc (t := 41) 1 (show pAt 39 1 = some (1, .tableswitch 61 0 4 #[35, 40, 45, 61, 49], 35, []) from by decide +kernel) (by omega) (by omega) rfl rfl ?_
    replace vc := vc.2.2.1 c1
    refine e_lload_n (show pAt 39 41 = some (41, .lload_n 1, 1, []) from by decide +kernel) rfl ?_
    refine e_l2i (show pAt 39 42 = some (42, .l2i, 1, []) from by decide +kernel) ?_
    refine e_i2s (show pAt 39 43 = some (43, .i2s, 1, []) from by decide +kernel) ?_
    refine e_i2l (show pAt 39 44 = some (44, .i2l, 1, []) from by decide +kernel) ?_
    exact e_retL (show pAt 39 45 = some (45, .lreturn, 1, []) from by decide +kernel) rfl vc
  · refine e_tsc (t := 46) 2 (show pAt 39 1 = some (1, .tableswitch 61 0 4 #[35, 40, 45, 61, 49], 35, []) from by decide +kernel) (by omega) (by omega) rfl rfl ?_
    replace vc := vc.2.2.2.1 c1
    refine e_lload_n (show pAt 39 46 = some (46, .lload_n 1, 1, []) from by decide +kernel) rfl ?_
    refine e_l2i (show pAt 39 47 = some (47, .l2i, 1, []) from by decide +kernel) ?_
    refine e_i2l (show pAt 39 48 = some (48, .i2l, 1, []) from by decide +kernel) ?_
    exact e_retL (show pAt 39 49 = some (49, .lreturn, 1, []) from by decide +kernel) rfl vc
  · refine e_tsc (t := 62) 3 (show pAt 39 1 = some (1, .tableswitch 61 0 4 #[35, 40, 45, 61, 49], 35, []) from by decide +kernel) (by omega) (by omega) rfl rfl ?_
    replace vc := vc.2.2.2.2.1 c1
    refine e_lload_n (show pAt 39 62 = some (62, .lload_n 1, 1, []) from by decide +kernel) rfl ?_
    exact e_retL (show pAt 39 63 = some (63, .lreturn, 1, []) from by decide +kernel) rfl vc
  · refine e_tsc (t := 50) 4 (show pAt 39 1 = some (1, .tableswitch 61 0 4 #[35, 40, 45, 61, 49], 35, []) from by decide +kernel) (by omega) (by omega) rfl rfl ?_
    replace vc := vc.2.2.2.2.2 c1
    refine e_lload_n (show pAt 39 50 = some (50, .lload_n 1, 1, []) from by decide +kernel) rfl ?_
    refine e_lconst (c := 0) (show pAt 39 51 = some (51, .lconst 0, 1, []) from by decide +kernel) (by decide) ?_
    refine e_lcmp (show pAt 39 52 = some (52, .lcmp, 1, []) from by decide +kernel) ?_
    refine e_if (t := 60) (show pAt 39 53 = some (53, .ifCond .eq 7, 3, []) from by decide +kernel) rfl (fun c3 => ?_) (fun c3 => ?_)
    · replace vc := vc.1 c3
      refine e_lconst (c := 0) (show pAt 39 60 = some (60, .lconst 0, 1, []) from by decide +kernel) (by decide) ?_
      exact e_retL (show pAt 39 61 = some (61, .lreturn, 1, []) from by decide +kernel) rfl vc
    · replace vc := vc.2 c3
      refine e_lconst (c := 1) (show pAt 39 56 = some (56, .lconst 1, 1, []) from by decide +kernel) (by decide) ?_
      refine e_goto (t := 61) (show pAt 39 57 = some (57, .goto 4, 3, []) from by decide +kernel) rfl ?_
      exact e_retL (show pAt 39 61 = some (61, .lreturn, 1, []) from by decide +kernel) rfl vc

theorem w_citm {X : Scr} {dp : Nat} {h : Hp} {Q : Option Value → Hp → Prop} (t : Int32) (i : Int32) (v : Int64) (hs : HS h)
    (vc : Ends X dp 35 0 [.ref 53, .int t] [] h (fun rv h1 => ∃ r2, rv = some (.int r2) ∧ HS h1 ∧ ((condB .ne r2 0 = true → (inB t 6 = true ∧ ((condB .ne (h1.2.1 54 t.toNatClampNeg) (-1) = true → Ends X dp 36 0 [.ref 53, .int t, .long (i.toInt64), .retAddr 0] [] h1 (fun rv h7 => ∃ r8, rv = some (.int r8) ∧ HS h7 ∧ ((condB .ne r8 0 = true → (∃ b11 : Nat, (inB t 6 = true ∧ (h7.2.2.2 56 t.toNatClampNeg = some b11 ∧ (b11 < 1000 ∧ (inB t 6 = true ∧ Ends X dp 39 0 [.int (h7.2.1 54 t.toNatClampNeg), .long v, .retAddr 0] [] h7 (fun rv h16 => ∃ r17, rv = some (.long r17) ∧ HS h16 ∧ ((decide (b11 < 1000) && decide (SHl[b11]? = some (.inl (1, 60)))) = true ∧ (inB i 60 = true ∧ Q (some (.int 1)) (hpL h16 b11 i.toNatClampNeg r17)))))))))) ∧ (condB .ne r8 0 = false → Q (some (.int (-13))) h7)))) ∧ (condB .ne (h1.2.1 54 t.toNatClampNeg) (-1) = false → Q (some (.int (-11))) h1)))) ∧ (condB .ne r2 0 = false → Q (some (.int (-1))) h1)))) :
    Ends X (dp + 1) 96 0 [.ref 0, .int t, .int i, .long v, .retAddr 0] [] h Q := by
  have ra : ∀ {a : Nat}, a < 1000 → a ≤ OLDB := fun h => by have := OLDB_eq; omega
  refine e_aload_n (show pAt 96 0 = some (0, .aload_n 0, 1, []) from by decide +kernel) rfl (ra (by decide)) ?_
  refine e_gR (show pAt 96 1 = some (1, .getfield 56, 3, [6, 9, 0, 2031]) from by decide +kernel) (show HS h from hs) rfl (by decide) (hs_ref (show HS h from hs) rfl) ?_
  refine e_iload_n (show pAt 96 4 = some (4, .iload_n 1, 1, []) from by decide +kernel) rfl ?_
  refine Ends.call (show pAt 96 5 = some (5, .invokevirtual 194, 3, [35, 2, 0, 1, 4034, 4036, 48]) from by decide +kernel) (isRet_none rfl) rfl (call_this (show HS h from hs) rfl rfl (by decide)) (Ends.mono vc ?_)
  rintro _ h1 ⟨r2, rfl, hs_h1, vc⟩
  refine e_if (t := 13) (show pAt 96 8 = some (8, .ifCond .ne 5, 3, []) from by decide +kernel) rfl (fun c4 => ?_) (fun c4 => ?_)
  · replace vc := vc.1 c4
    refine e_aload_n (show pAt 96 13 = some (13, .aload_n 0, 1, []) from by decide +kernel) rfl (ra (by decide)) ?_
    refine e_gR (show pAt 96 14 = some (14, .getfield 56, 3, [6, 9, 0, 2031]) from by decide +kernel) (show HS h1 from hs_h1) rfl (by decide) (hs_ref (show HS h1 from hs_h1) rfl) ?_
    refine e_gR (show pAt 96 17 = some (17, .getfield 197, 3, [3, 0, 1, 2010]) from by decide +kernel) (show HS h1 from hs_h1) rfl (by decide) (hs_ref (show HS h1 from hs_h1) rfl) ?_
    refine e_iload_n (show pAt 96 20 = some (20, .iload_n 1, 1, []) from by decide +kernel) rfl ?_
    obtain ⟨c5, vc⟩ := vc
    refine e_aldv (v := h1.2.1 54 t.toNatClampNeg) (show pAt 96 21 = some (21, .iaload, 1, []) from by decide +kernel) (show HS h1 from hs_h1) (by decide) c5 rfl ?_
    refine e_iconst (c := (-1)) (show pAt 96 22 = some (22, .iconst (-1), 1, []) from by decide +kernel) (by decide) ?_
    refine e_icmp (t := 29) (show pAt 96 23 = some (23, .if_icmp .ne 6, 3, []) from by decide +kernel) rfl (fun c6 => ?_) (fun c6 => ?_)
    · replace vc := vc.1 c6
      refine e_aload_n (show pAt 96 29 = some (29, .aload_n 0, 1, []) from by decide +kernel) rfl (ra (by decide)) ?_
      refine e_gR (show pAt 96 30 = some (30, .getfield 56, 3, [6, 9, 0, 2031]) from by decide +kernel) (show HS h1 from hs_h1) rfl (by decide) (hs_ref (show HS h1 from hs_h1) rfl) ?_
      refine e_iload_n (show pAt 96 33 = some (33, .iload_n 1, 1, []) from by decide +kernel) rfl ?_
      refine e_iload_n (show pAt 96 34 = some (34, .iload_n 2, 1, []) from by decide +kernel) rfl ?_
      refine e_i2l (show pAt 96 35 = some (35, .i2l, 1, []) from by decide +kernel) ?_
      refine Ends.call (show pAt 96 36 = some (36, .invokevirtual 201, 3, [36, 3, 0, 1, 4038, 4040, 49]) from by decide +kernel) (isRet_none rfl) rfl (call_this (show HS h1 from hs_h1) rfl rfl (by decide)) (Ends.mono vc ?_)
      rintro _ h7 ⟨r8, rfl, hs_h7, vc⟩
      refine e_if (t := 45) (show pAt 96 39 = some (39, .ifCond .ne 6, 3, []) from by decide +kernel) rfl (fun c10 => ?_) (fun c10 => ?_)
      · replace vc := vc.1 c10
        refine e_aload_n (show pAt 96 45 = some (45, .aload_n 0, 1, []) from by decide +kernel) rfl (ra (by decide)) ?_
        refine e_gR (show pAt 96 46 = some (46, .getfield 56, 3, [6, 9, 0, 2031]) from by decide +kernel) (show HS h7 from hs_h7) rfl (by decide) (hs_ref (show HS h7 from hs_h7) rfl) ?_
        refine e_gR (show pAt 96 49 = some (49, .getfield 205, 3, [3, 2, 1, 2013]) from by decide +kernel) (show HS h7 from hs_h7) rfl (by decide) (hs_ref (show HS h7 from hs_h7) rfl) ?_
        refine e_iload_n (show pAt 96 52 = some (52, .iload_n 1, 1, []) from by decide +kernel) rfl ?_
        obtain ⟨b11, c12, c13, c14, vc⟩ := vc
        refine e_aald (t := 4) (show pAt 96 53 = some (53, .aaload, 1, []) from by decide +kernel) (show HS h7 from hs_h7) (by decide) c12 c13 c14 ?_
        refine e_iload_n (show pAt 96 54 = some (54, .iload_n 2, 1, []) from by decide +kernel) rfl ?_
        refine e_aload_n (show pAt 96 55 = some (55, .aload_n 0, 1, []) from by decide +kernel) rfl (ra (by decide)) ?_
        refine e_gR (show pAt 96 56 = some (56, .getfield 56, 3, [6, 9, 0, 2031]) from by decide +kernel) (show HS h7 from hs_h7) rfl (by decide) (hs_ref (show HS h7 from hs_h7) rfl) ?_
        refine e_gR (show pAt 96 59 = some (59, .getfield 197, 3, [3, 0, 1, 2010]) from by decide +kernel) (show HS h7 from hs_h7) rfl (by decide) (hs_ref (show HS h7 from hs_h7) rfl) ?_
        refine e_iload_n (show pAt 96 62 = some (62, .iload_n 1, 1, []) from by decide +kernel) rfl ?_
        obtain ⟨c15, vc⟩ := vc
        refine e_aldv (v := h7.2.1 54 t.toNatClampNeg) (show pAt 96 63 = some (63, .iaload, 1, []) from by decide +kernel) (show HS h7 from hs_h7) (by decide) c15 rfl ?_
        refine e_lload_n (show pAt 96 64 = some (64, .lload_n 3, 1, []) from by decide +kernel) rfl ?_
        refine Ends.call (show pAt 96 65 = some (65, .invokestatic 239, 3, [39, 2, 2, 1, 4101, 4102, 0]) from by decide +kernel) (isRet_none rfl) rfl rfl (Ends.mono vc ?_)
        rintro _ h16 ⟨r17, rfl, hs_h16, vc⟩
        obtain ⟨c19, c20, vc⟩ := vc
        refine e_last (show pAt 96 68 = some (68, .lastore, 1, []) from by decide +kernel) (show HS h16 from hs_h16) c19 c20 ?_
        refine e_iconst (c := 1) (show pAt 96 69 = some (69, .iconst 1, 1, []) from by decide +kernel) (by decide) ?_
        exact e_retI (show pAt 96 70 = some (70, .ireturn, 1, []) from by decide +kernel) rfl vc
      · replace vc := vc.2 c10
        refine e_bipush (c := (-13)) (show pAt 96 42 = some (42, .bipush (-13), 2, []) from by decide +kernel) (by decide) ?_
        exact e_retI (show pAt 96 44 = some (44, .ireturn, 1, []) from by decide +kernel) rfl vc
    · replace vc := vc.2 c6
      refine e_bipush (c := (-11)) (show pAt 96 26 = some (26, .bipush (-11), 2, []) from by decide +kernel) (by decide) ?_
      exact e_retI (show pAt 96 28 = some (28, .ireturn, 1, []) from by decide +kernel) rfl vc
  · replace vc := vc.2 c4
    refine e_iconst (c := (-1)) (show pAt 96 11 = some (11, .iconst (-1), 1, []) from by decide +kernel) (by decide) ?_
    exact e_retI (show pAt 96 12 = some (12, .ireturn, 1, []) from by decide +kernel) rfl vc

theorem w_mnar {X : Scr} {dp : Nat} {h : Hp} {Q : Option Value → Hp → Prop} (s : Int32) (z : Int64) (hs : HS h)
    (vc : ((condB .ne s 0 = true → ((condB .ne s 1 = true → ((condB .ne s 2 = true → ((condB .ne s 4 = true → Q (some (.long z)) h) ∧ (condB .ne s 4 = false → ((condB .eq (lg_cmp z 0) 0 = true → Q (some (.long 0)) h) ∧ (condB .eq (lg_cmp z 0) 0 = false → Q (some (.long 1)) h))))) ∧ (condB .ne s 2 = false → Q (some (.long ((z.toInt32).toInt64))) h))) ∧ (condB .ne s 1 = false → Q (some (.long (((z.toInt32).toInt16.toInt32).toInt64))) h))) ∧ (condB .ne s 0 = false → Q (some (.long (((z.toInt32).toInt8.toInt32).toInt64))) h))) :
    Ends X dp 200 0 [.ref 93, .int s, .long z, .retAddr 0] [] h Q := by
  have ra : ∀ {a : Nat}, a < 1000 → a ≤ OLDB := fun h => by have := OLDB_eq; omega
  refine e_iload_n (show pAt 200 0 = some (0, .iload_n 1, 1, []) from by decide +kernel) rfl ?_
  refine e_if (t := 11) (show pAt 200 1 = some (1, .ifCond .ne 10, 3, []) from by decide +kernel) rfl (fun c1 => ?_) (fun c1 => ?_)
  · replace vc := vc.1 c1
    refine e_iload_n (show pAt 200 11 = some (11, .iload_n 1, 1, []) from by decide +kernel) rfl ?_
    refine e_iconst (c := 1) (show pAt 200 12 = some (12, .iconst 1, 1, []) from by decide +kernel) (by decide) ?_
    refine e_icmp (t := 23) (show pAt 200 13 = some (13, .if_icmp .ne 10, 3, []) from by decide +kernel) rfl (fun c2 => ?_) (fun c2 => ?_)
    · replace vc := vc.1 c2
      refine e_iload_n (show pAt 200 23 = some (23, .iload_n 1, 1, []) from by decide +kernel) rfl ?_
      refine e_iconst (c := 2) (show pAt 200 24 = some (24, .iconst 2, 1, []) from by decide +kernel) (by decide) ?_
      refine e_icmp (t := 34) (show pAt 200 25 = some (25, .if_icmp .ne 9, 3, []) from by decide +kernel) rfl (fun c3 => ?_) (fun c3 => ?_)
      · replace vc := vc.1 c3
        refine e_iload_n (show pAt 200 34 = some (34, .iload_n 1, 1, []) from by decide +kernel) rfl ?_
        refine e_iconst (c := 4) (show pAt 200 35 = some (35, .iconst 4, 1, []) from by decide +kernel) (by decide) ?_
        refine e_icmp (t := 53) (show pAt 200 36 = some (36, .if_icmp .ne 17, 3, []) from by decide +kernel) rfl (fun c4 => ?_) (fun c4 => ?_)
        · replace vc := vc.1 c4
          refine e_lload_n (show pAt 200 53 = some (53, .lload_n 2, 1, []) from by decide +kernel) rfl ?_
          exact e_retL (show pAt 200 54 = some (54, .lreturn, 1, []) from by decide +kernel) rfl vc
        · replace vc := vc.2 c4
          refine e_lload_n (show pAt 200 39 = some (39, .lload_n 2, 1, []) from by decide +kernel) rfl ?_
          refine e_lconst (c := 0) (show pAt 200 40 = some (40, .lconst 0, 1, []) from by decide +kernel) (by decide) ?_
          refine e_lcmp (show pAt 200 41 = some (41, .lcmp, 1, []) from by decide +kernel) ?_
          refine e_if (t := 49) (show pAt 200 42 = some (42, .ifCond .eq 7, 3, []) from by decide +kernel) rfl (fun c5 => ?_) (fun c5 => ?_)
          · replace vc := vc.1 c5
            refine e_lconst (c := 0) (show pAt 200 49 = some (49, .lconst 0, 1, []) from by decide +kernel) (by decide) ?_
            refine e_goto (t := 54) (show pAt 200 50 = some (50, .goto 4, 3, []) from by decide +kernel) rfl ?_
            exact e_retL (show pAt 200 54 = some (54, .lreturn, 1, []) from by decide +kernel) rfl vc
          · replace vc := vc.2 c5
            refine e_lconst (c := 1) (show pAt 200 45 = some (45, .lconst 1, 1, []) from by decide +kernel) (by decide) ?_
            refine e_goto (t := 54) (show pAt 200 46 = some (46, .goto 8, 3, []) from by decide +kernel) rfl ?_
            exact e_retL (show pAt 200 54 = some (54, .lreturn, 1, []) from by decide +kernel) rfl vc
      · replace vc := vc.2 c3
        refine e_lload_n (show pAt 200 28 = some (28, .lload_n 2, 1, []) from by decide +kernel) rfl ?_
        refine e_l2i (show pAt 200 29 = some (29, .l2i, 1, []) from by decide +kernel) ?_
        refine e_i2l (show pAt 200 30 = some (30, .i2l, 1, []) from by decide +kernel) ?_
        refine e_goto (t := 54) (show pAt 200 31 = some (31, .goto 23, 3, []) from by decide +kernel) rfl ?_
        exact e_retL (show pAt 200 54 = some (54, .lreturn, 1, []) from by decide +kernel) rfl vc
    · replace vc := vc.2 c2
      refine e_lload_n (show pAt 200 16 = some (16, .lload_n 2, 1, []) from by decide +kernel) rfl ?_
      refine e_l2i (show pAt 200 17 = some (17, .l2i, 1, []) from by decide +kernel) ?_
      refine e_i2s (show pAt 200 18 = some (18, .i2s, 1, []) from by decide +kernel) ?_
      refine e_i2l (show pAt 200 19 = some (19, .i2l, 1, []) from by decide +kernel) ?_
      refine e_goto (t := 54) (show pAt 200 20 = some (20, .goto 34, 3, []) from by decide +kernel) rfl ?_
      exact e_retL (show pAt 200 54 = some (54, .lreturn, 1, []) from by decide +kernel) rfl vc
  · replace vc := vc.2 c1
    refine e_lload_n (show pAt 200 4 = some (4, .lload_n 2, 1, []) from by decide +kernel) rfl ?_
    refine e_l2i (show pAt 200 5 = some (5, .l2i, 1, []) from by decide +kernel) ?_
    refine e_i2b (show pAt 200 6 = some (6, .i2b, 1, []) from by decide +kernel) ?_
    refine e_i2l (show pAt 200 7 = some (7, .i2l, 1, []) from by decide +kernel) ?_
    refine e_goto (t := 54) (show pAt 200 8 = some (8, .goto 46, 3, []) from by decide +kernel) rfl ?_
    exact e_retL (show pAt 200 54 = some (54, .lreturn, 1, []) from by decide +kernel) rfl vc

theorem w_mitm {X : Scr} {dp : Nat} {h : Hp} {Q : Option Value → Hp → Prop} (t : Int32) (i : Int32) (z : Int64) (hs : HS h)
    (vc : Ends X dp 198 0 [.ref 93, .int t] [] h (fun rv h1 => ∃ r2, rv = some (.int r2) ∧ HS h1 ∧ ((condB .ne r2 0 = true → (inB t 6 = true ∧ ((condB .ge (h1.2.1 123 t.toNatClampNeg) 0 = true → (inB t 6 = true ∧ Ends X dp 109 0 [.ref 93, .int i, .int 0, .int ((h1.2.1 124 t.toNatClampNeg) - 1)] [] h1 (fun rv h8 => ∃ r9, rv = some (.int r9) ∧ HS h8 ∧ ((condB .ne r9 0 = true → (inB t 6 = true ∧ Ends X dp 200 0 [.ref 93, .int (h8.2.1 123 t.toNatClampNeg), .long z, .retAddr 0] [] h8 (fun rv h13 => ∃ r14, rv = some (.long r14) ∧ HS h13 ∧ (inB ((60 * t) + i) 360 = true ∧ Q (some (.int 1)) (hpL h13 125 ((60 * t) + i).toNatClampNeg r14))))) ∧ (condB .ne r9 0 = false → Q (some (.int (-13))) h8))))) ∧ (condB .ge (h1.2.1 123 t.toNatClampNeg) 0 = false → Q (some (.int (-11))) h1)))) ∧ (condB .ne r2 0 = false → Q (some (.int (-1))) h1)))) :
    Ends X (dp + 1) 201 0 [.ref 93, .int t, .int i, .long z, .retAddr 0] [] h Q := by
  have ra : ∀ {a : Nat}, a < 1000 → a ≤ OLDB := fun h => by have := OLDB_eq; omega
  refine e_aload_n (show pAt 201 0 = some (0, .aload_n 0, 1, []) from by decide +kernel) rfl (ra (by decide)) ?_
  refine e_iload_n (show pAt 201 1 = some (1, .iload_n 1, 1, []) from by decide +kernel) rfl ?_
  refine Ends.call (show pAt 201 2 = some (2, .invokevirtual 366, 3, [198, 2, 0, 0, 6138, 6140, 103]) from by decide +kernel) (isRet_none rfl) rfl (call_this (show HS h from hs) rfl rfl (by decide)) (Ends.mono vc ?_)
  rintro _ h1 ⟨r2, rfl, hs_h1, vc⟩
  refine e_if (t := 10) (show pAt 201 5 = some (5, .ifCond .ne 5, 3, []) from by decide +kernel) rfl (fun c4 => ?_) (fun c4 => ?_)
  · replace vc := vc.1 c4
    refine e_aload_n (show pAt 201 10 = some (10, .aload_n 0, 1, []) from by decide +kernel) rfl (ra (by decide)) ?_
    refine e_gR (show pAt 201 11 = some (11, .getfield 193, 3, [7, 60, 0, 4183]) from by decide +kernel) (show HS h1 from hs_h1) rfl (by decide) (hs_ref (show HS h1 from hs_h1) rfl) ?_
    refine e_iload_n (show pAt 201 14 = some (14, .iload_n 1, 1, []) from by decide +kernel) rfl ?_
    obtain ⟨c5, vc⟩ := vc
    refine e_aldv (v := h1.2.1 123 t.toNatClampNeg) (show pAt 201 15 = some (15, .iaload, 1, []) from by decide +kernel) (show HS h1 from hs_h1) (by decide) c5 rfl ?_
    refine e_if (t := 22) (show pAt 201 16 = some (16, .ifCond .ge 6, 3, []) from by decide +kernel) rfl (fun c6 => ?_) (fun c6 => ?_)
    · replace vc := vc.1 c6
      refine e_aload_n (show pAt 201 22 = some (22, .aload_n 0, 1, []) from by decide +kernel) rfl (ra (by decide)) ?_
      refine e_iload_n (show pAt 201 23 = some (23, .iload_n 2, 1, []) from by decide +kernel) rfl ?_
      refine e_iconst (c := 0) (show pAt 201 24 = some (24, .iconst 0, 1, []) from by decide +kernel) (by decide) ?_
      refine e_aload_n (show pAt 201 25 = some (25, .aload_n 0, 1, []) from by decide +kernel) rfl (ra (by decide)) ?_
      refine e_gR (show pAt 201 26 = some (26, .getfield 196, 3, [7, 61, 0, 4184]) from by decide +kernel) (show HS h1 from hs_h1) rfl (by decide) (hs_ref (show HS h1 from hs_h1) rfl) ?_
      refine e_iload_n (show pAt 201 29 = some (29, .iload_n 1, 1, []) from by decide +kernel) rfl ?_
      obtain ⟨c7, vc⟩ := vc
      refine e_aldv (v := h1.2.1 124 t.toNatClampNeg) (show pAt 201 30 = some (30, .iaload, 1, []) from by decide +kernel) (show HS h1 from hs_h1) (by decide) c7 rfl ?_
      refine e_iconst (c := 1) (show pAt 201 31 = some (31, .iconst 1, 1, []) from by decide +kernel) (by decide) ?_
      refine e_isub (show pAt 201 32 = some (32, .isub, 1, []) from by decide +kernel) ?_
      refine Ends.call (show pAt 201 33 = some (33, .invokevirtual 206, 3, [109, 4, 0, 0, 5081, 5083, 54]) from by decide +kernel) (isRet_none rfl) rfl (call_this (show HS h1 from hs_h1) rfl rfl (by decide)) (Ends.mono vc ?_)
      rintro _ h8 ⟨r9, rfl, hs_h8, vc⟩
      refine e_if (t := 42) (show pAt 201 36 = some (36, .ifCond .ne 6, 3, []) from by decide +kernel) rfl (fun c11 => ?_) (fun c11 => ?_)
      · replace vc := vc.1 c11
        refine e_aload_n (show pAt 201 42 = some (42, .aload_n 0, 1, []) from by decide +kernel) rfl (ra (by decide)) ?_
        refine e_gR (show pAt 201 43 = some (43, .getfield 199, 3, [7, 62, 0, 4185]) from by decide +kernel) (show HS h8 from hs_h8) rfl (by decide) (hs_ref (show HS h8 from hs_h8) rfl) ?_
        refine e_bipush (c := 60) (show pAt 201 46 = some (46, .bipush 60, 2, []) from by decide +kernel) (by decide) ?_
        refine e_iload_n (show pAt 201 48 = some (48, .iload_n 1, 1, []) from by decide +kernel) rfl ?_
        refine e_imul (show pAt 201 49 = some (49, .imul, 1, []) from by decide +kernel) ?_
        refine e_iload_n (show pAt 201 50 = some (50, .iload_n 2, 1, []) from by decide +kernel) rfl ?_
        refine e_iadd (show pAt 201 51 = some (51, .iadd, 1, []) from by decide +kernel) ?_
        refine e_aload_n (show pAt 201 52 = some (52, .aload_n 0, 1, []) from by decide +kernel) rfl (ra (by decide)) ?_
        refine e_aload_n (show pAt 201 53 = some (53, .aload_n 0, 1, []) from by decide +kernel) rfl (ra (by decide)) ?_
        refine e_gR (show pAt 201 54 = some (54, .getfield 193, 3, [7, 60, 0, 4183]) from by decide +kernel) (show HS h8 from hs_h8) rfl (by decide) (hs_ref (show HS h8 from hs_h8) rfl) ?_
        refine e_iload_n (show pAt 201 57 = some (57, .iload_n 1, 1, []) from by decide +kernel) rfl ?_
        obtain ⟨c12, vc⟩ := vc
        refine e_aldv (v := h8.2.1 123 t.toNatClampNeg) (show pAt 201 58 = some (58, .iaload, 1, []) from by decide +kernel) (show HS h8 from hs_h8) (by decide) c12 rfl ?_
        refine e_lload_n (show pAt 201 59 = some (59, .lload_n 3, 1, []) from by decide +kernel) rfl ?_
        refine Ends.call (show pAt 201 60 = some (60, .invokevirtual 393, 3, [200, 3, 0, 0, 6206, 6208, 112]) from by decide +kernel) (isRet_none rfl) rfl (call_this (show HS h8 from hs_h8) rfl rfl (by decide)) (Ends.mono vc ?_)
        rintro _ h13 ⟨r14, rfl, hs_h13, vc⟩
        obtain ⟨c16, vc⟩ := vc
        refine e_last (show pAt 201 63 = some (63, .lastore, 1, []) from by decide +kernel) (show HS h13 from hs_h13) (by decide) c16 ?_
        refine e_iconst (c := 1) (show pAt 201 64 = some (64, .iconst 1, 1, []) from by decide +kernel) (by decide) ?_
        exact e_retI (show pAt 201 65 = some (65, .ireturn, 1, []) from by decide +kernel) rfl vc
      · replace vc := vc.2 c11
        refine e_bipush (c := (-13)) (show pAt 201 39 = some (39, .bipush (-13), 2, []) from by decide +kernel) (by decide) ?_
        exact e_retI (show pAt 201 41 = some (41, .ireturn, 1, []) from by decide +kernel) rfl vc
    · replace vc := vc.2 c6
      refine e_bipush (c := (-11)) (show pAt 201 19 = some (19, .bipush (-11), 2, []) from by decide +kernel) (by decide) ?_
      exact e_retI (show pAt 201 21 = some (21, .ireturn, 1, []) from by decide +kernel) rfl vc
  · replace vc := vc.2 c4
    refine e_iconst (c := (-1)) (show pAt 201 8 = some (8, .iconst (-1), 1, []) from by decide +kernel) (by decide) ?_
    exact e_retI (show pAt 201 9 = some (9, .ireturn, 1, []) from by decide +kernel) rfl vc

theorem w_crd {X : Scr} {dp : Nat} {h : Hp} {Q : Option Value → Hp → Prop} (t : Int32) (i : Int32) (hs : HS h)
    (vc : Ends X dp 35 0 [.ref 53, .int t] [] h (fun rv h1 => ∃ r2, rv = some (.int r2) ∧ HS h1 ∧ ((condB .eq r2 0 = true → Q (some (.long (-9223372036854775808))) h1) ∧ (condB .eq r2 0 = false → Ends X dp 36 0 [.ref 53, .int t, .long (i.toInt64), .retAddr 0] [] h1 (fun rv h5 => ∃ r6, rv = some (.int r6) ∧ HS h5 ∧ ((condB .eq r6 0 = true → Q (some (.long (-9223372036854775808))) h5) ∧ (condB .eq r6 0 = false → (∃ b9 : Nat, (inB t 6 = true ∧ (h5.2.2.2 56 t.toNatClampNeg = some b9 ∧ (b9 < 1000 ∧ ((decide (b9 < 1000) && decide (SHl[b9]? = some (.inl (1, 60)))) = true ∧ (inB i 60 = true ∧ Q (some (.long (h5.2.2.1 b9 i.toNatClampNeg))) h5))))))))))))) :
    Ends X (dp + 1) 97 0 [.ref 0, .int t, .int i] [] h Q := by
  have ra : ∀ {a : Nat}, a < 1000 → a ≤ OLDB := fun h => by have := OLDB_eq; omega
  refine e_aload_n (show pAt 97 0 = some (0, .aload_n 0, 1, []) from by decide +kernel) rfl (ra (by decide)) ?_
  refine e_gR (show pAt 97 1 = some (1, .getfield 56, 3, [6, 9, 0, 2031]) from by decide +kernel) (show HS h from hs) rfl (by decide) (hs_ref (show HS h from hs) rfl) ?_
  refine e_iload_n (show pAt 97 4 = some (4, .iload_n 1, 1, []) from by decide +kernel) rfl ?_
  refine Ends.call (show pAt 97 5 = some (5, .invokevirtual 194, 3, [35, 2, 0, 1, 4034, 4036, 48]) from by decide +kernel) (isRet_none rfl) rfl (call_this (show HS h from hs) rfl rfl (by decide)) (Ends.mono vc ?_)
  rintro _ h1 ⟨r2, rfl, hs_h1, vc⟩
  refine e_if (t := 38) (show pAt 97 8 = some (8, .ifCond .eq 30, 3, []) from by decide +kernel) rfl (fun c4 => ?_) (fun c4 => ?_)
  · replace vc := vc.1 c4
    refine e_ldc2 (c := (-9223372036854775808)) (show pAt 97 38 = some (38, .ldc2_w 182, 3, [9223372036854775808, 4014]) from by decide +kernel) (by decide) ?_
    exact e_retL (show pAt 97 41 = some (41, .lreturn, 1, []) from by decide +kernel) rfl vc
  · replace vc := vc.2 c4
    refine e_aload_n (show pAt 97 11 = some (11, .aload_n 0, 1, []) from by decide +kernel) rfl (ra (by decide)) ?_
    refine e_gR (show pAt 97 12 = some (12, .getfield 56, 3, [6, 9, 0, 2031]) from by decide +kernel) (show HS h1 from hs_h1) rfl (by decide) (hs_ref (show HS h1 from hs_h1) rfl) ?_
    refine e_iload_n (show pAt 97 15 = some (15, .iload_n 1, 1, []) from by decide +kernel) rfl ?_
    refine e_iload_n (show pAt 97 16 = some (16, .iload_n 2, 1, []) from by decide +kernel) rfl ?_
    refine e_i2l (show pAt 97 17 = some (17, .i2l, 1, []) from by decide +kernel) ?_
    refine Ends.call (show pAt 97 18 = some (18, .invokevirtual 201, 3, [36, 3, 0, 1, 4038, 4040, 49]) from by decide +kernel) (isRet_none rfl) rfl (call_this (show HS h1 from hs_h1) rfl rfl (by decide)) (Ends.mono vc ?_)
    rintro _ h5 ⟨r6, rfl, hs_h5, vc⟩
    refine e_if (t := 38) (show pAt 97 21 = some (21, .ifCond .eq 17, 3, []) from by decide +kernel) rfl (fun c8 => ?_) (fun c8 => ?_)
    · replace vc := vc.1 c8
      refine e_ldc2 (c := (-9223372036854775808)) (show pAt 97 38 = some (38, .ldc2_w 182, 3, [9223372036854775808, 4014]) from by decide +kernel) (by decide) ?_
      exact e_retL (show pAt 97 41 = some (41, .lreturn, 1, []) from by decide +kernel) rfl vc
    · replace vc := vc.2 c8
      refine e_aload_n (show pAt 97 24 = some (24, .aload_n 0, 1, []) from by decide +kernel) rfl (ra (by decide)) ?_
      refine e_gR (show pAt 97 25 = some (25, .getfield 56, 3, [6, 9, 0, 2031]) from by decide +kernel) (show HS h5 from hs_h5) rfl (by decide) (hs_ref (show HS h5 from hs_h5) rfl) ?_
      refine e_gR (show pAt 97 28 = some (28, .getfield 205, 3, [3, 2, 1, 2013]) from by decide +kernel) (show HS h5 from hs_h5) rfl (by decide) (hs_ref (show HS h5 from hs_h5) rfl) ?_
      refine e_iload_n (show pAt 97 31 = some (31, .iload_n 1, 1, []) from by decide +kernel) rfl ?_
      obtain ⟨b9, c10, c11, c12, vc⟩ := vc
      refine e_aald (t := 4) (show pAt 97 32 = some (32, .aaload, 1, []) from by decide +kernel) (show HS h5 from hs_h5) (by decide) c10 c11 c12 ?_
      refine e_iload_n (show pAt 97 33 = some (33, .iload_n 2, 1, []) from by decide +kernel) rfl ?_
      obtain ⟨c13, c14, vc⟩ := vc
      refine e_lald (show pAt 97 34 = some (34, .laload, 1, []) from by decide +kernel) (show HS h5 from hs_h5) c13 c14 ?_
      refine e_goto (t := 41) (show pAt 97 35 = some (35, .goto 6, 3, []) from by decide +kernel) rfl ?_
      exact e_retL (show pAt 97 41 = some (41, .lreturn, 1, []) from by decide +kernel) rfl vc

theorem w_mrd {X : Scr} {dp : Nat} {h : Hp} {Q : Option Value → Hp → Prop} (t : Int32) (i : Int32) (hs : HS h)
    (vc : Ends X dp 198 0 [.ref 93, .int t] [] h (fun rv h1 => ∃ r2, rv = some (.int r2) ∧ HS h1 ∧ ((condB .eq r2 0 = true → Q (some (.long (-9223372036854775808))) h1) ∧ (condB .eq r2 0 = false → (inB t 6 = true ∧ ((condB .lt (h1.2.1 123 t.toNatClampNeg) 0 = true → Q (some (.long (-9223372036854775808))) h1) ∧ (condB .lt (h1.2.1 123 t.toNatClampNeg) 0 = false → (inB t 6 = true ∧ Ends X dp 109 0 [.ref 93, .int i, .int 0, .int ((h1.2.1 124 t.toNatClampNeg) - 1)] [] h1 (fun rv h8 => ∃ r9, rv = some (.int r9) ∧ HS h8 ∧ ((condB .ne r9 0 = true → (inB ((60 * t) + i) 360 = true ∧ Q (some (.long (h8.2.2.1 125 ((60 * t) + i).toNatClampNeg))) h8)) ∧ (condB .ne r9 0 = false → Q (some (.long (-9223372036854775808))) h8))))))))))) :
    Ends X (dp + 1) 202 0 [.ref 93, .int t, .int i] [] h Q := by
  have ra : ∀ {a : Nat}, a < 1000 → a ≤ OLDB := fun h => by have := OLDB_eq; omega
  refine e_aload_n (show pAt 202 0 = some (0, .aload_n 0, 1, []) from by decide +kernel) rfl (ra (by decide)) ?_
  refine e_iload_n (show pAt 202 1 = some (1, .iload_n 1, 1, []) from by decide +kernel) rfl ?_
  refine Ends.call (show pAt 202 2 = some (2, .invokevirtual 366, 3, [198, 2, 0, 0, 6138, 6140, 103]) from by decide +kernel) (isRet_none rfl) rfl (call_this (show HS h from hs) rfl rfl (by decide)) (Ends.mono vc ?_)
  rintro _ h1 ⟨r2, rfl, hs_h1, vc⟩
  refine e_if (t := 34) (show pAt 202 5 = some (5, .ifCond .eq 29, 3, []) from by decide +kernel) rfl (fun c4 => ?_) (fun c4 => ?_)
  · replace vc := vc.1 c4
    refine e_ldc2 (c := (-9223372036854775808)) (show pAt 202 34 = some (34, .ldc2_w 360, 3, [9223372036854775808, 6113]) from by decide +kernel) (by decide) ?_
    refine e_goto (t := 51) (show pAt 202 37 = some (37, .goto 14, 3, []) from by decide +kernel) rfl ?_
    exact e_retL (show pAt 202 51 = some (51, .lreturn, 1, []) from by decide +kernel) rfl vc
  · replace vc := vc.2 c4
    refine e_aload_n (show pAt 202 8 = some (8, .aload_n 0, 1, []) from by decide +kernel) rfl (ra (by decide)) ?_
    refine e_gR (show pAt 202 9 = some (9, .getfield 193, 3, [7, 60, 0, 4183]) from by decide +kernel) (show HS h1 from hs_h1) rfl (by decide) (hs_ref (show HS h1 from hs_h1) rfl) ?_
    refine e_iload_n (show pAt 202 12 = some (12, .iload_n 1, 1, []) from by decide +kernel) rfl ?_
    obtain ⟨c5, vc⟩ := vc
    refine e_aldv (v := h1.2.1 123 t.toNatClampNeg) (show pAt 202 13 = some (13, .iaload, 1, []) from by decide +kernel) (show HS h1 from hs_h1) (by decide) c5 rfl ?_
    refine e_if (t := 34) (show pAt 202 14 = some (14, .ifCond .lt 20, 3, []) from by decide +kernel) rfl (fun c6 => ?_) (fun c6 => ?_)
    · replace vc := vc.1 c6
      refine e_ldc2 (c := (-9223372036854775808)) (show pAt 202 34 = some (34, .ldc2_w 360, 3, [9223372036854775808, 6113]) from by decide +kernel) (by decide) ?_
      refine e_goto (t := 51) (show pAt 202 37 = some (37, .goto 14, 3, []) from by decide +kernel) rfl ?_
      exact e_retL (show pAt 202 51 = some (51, .lreturn, 1, []) from by decide +kernel) rfl vc
    · replace vc := vc.2 c6
      refine e_aload_n (show pAt 202 17 = some (17, .aload_n 0, 1, []) from by decide +kernel) rfl (ra (by decide)) ?_
      refine e_iload_n (show pAt 202 18 = some (18, .iload_n 2, 1, []) from by decide +kernel) rfl ?_
      refine e_iconst (c := 0) (show pAt 202 19 = some (19, .iconst 0, 1, []) from by decide +kernel) (by decide) ?_
      refine e_aload_n (show pAt 202 20 = some (20, .aload_n 0, 1, []) from by decide +kernel) rfl (ra (by decide)) ?_
      refine e_gR (show pAt 202 21 = some (21, .getfield 196, 3, [7, 61, 0, 4184]) from by decide +kernel) (show HS h1 from hs_h1) rfl (by decide) (hs_ref (show HS h1 from hs_h1) rfl) ?_
      refine e_iload_n (show pAt 202 24 = some (24, .iload_n 1, 1, []) from by decide +kernel) rfl ?_
      obtain ⟨c7, vc⟩ := vc
      refine e_aldv (v := h1.2.1 124 t.toNatClampNeg) (show pAt 202 25 = some (25, .iaload, 1, []) from by decide +kernel) (show HS h1 from hs_h1) (by decide) c7 rfl ?_
      refine e_iconst (c := 1) (show pAt 202 26 = some (26, .iconst 1, 1, []) from by decide +kernel) (by decide) ?_
      refine e_isub (show pAt 202 27 = some (27, .isub, 1, []) from by decide +kernel) ?_
      refine Ends.call (show pAt 202 28 = some (28, .invokevirtual 206, 3, [109, 4, 0, 0, 5081, 5083, 54]) from by decide +kernel) (isRet_none rfl) rfl (call_this (show HS h1 from hs_h1) rfl rfl (by decide)) (Ends.mono vc ?_)
      rintro _ h8 ⟨r9, rfl, hs_h8, vc⟩
      refine e_if (t := 40) (show pAt 202 31 = some (31, .ifCond .ne 9, 3, []) from by decide +kernel) rfl (fun c11 => ?_) (fun c11 => ?_)
      · replace vc := vc.1 c11
        refine e_aload_n (show pAt 202 40 = some (40, .aload_n 0, 1, []) from by decide +kernel) rfl (ra (by decide)) ?_
        refine e_gR (show pAt 202 41 = some (41, .getfield 199, 3, [7, 62, 0, 4185]) from by decide +kernel) (show HS h8 from hs_h8) rfl (by decide) (hs_ref (show HS h8 from hs_h8) rfl) ?_
        refine e_bipush (c := 60) (show pAt 202 44 = some (44, .bipush 60, 2, []) from by decide +kernel) (by decide) ?_
        refine e_iload_n (show pAt 202 46 = some (46, .iload_n 1, 1, []) from by decide +kernel) rfl ?_
        refine e_imul (show pAt 202 47 = some (47, .imul, 1, []) from by decide +kernel) ?_
        refine e_iload_n (show pAt 202 48 = some (48, .iload_n 2, 1, []) from by decide +kernel) rfl ?_
        refine e_iadd (show pAt 202 49 = some (49, .iadd, 1, []) from by decide +kernel) ?_
        obtain ⟨c12, vc⟩ := vc
        refine e_lald (show pAt 202 50 = some (50, .laload, 1, []) from by decide +kernel) (show HS h8 from hs_h8) (by decide) c12 ?_
        exact e_retL (show pAt 202 51 = some (51, .lreturn, 1, []) from by decide +kernel) rfl vc
      · replace vc := vc.2 c11
        refine e_ldc2 (c := (-9223372036854775808)) (show pAt 202 34 = some (34, .ldc2_w 360, 3, [9223372036854775808, 6113]) from by decide +kernel) (by decide) ?_
        refine e_goto (t := 51) (show pAt 202 37 = some (37, .goto 14, 3, []) from by decide +kernel) rfl ?_
        exact e_retL (show pAt 202 51 = some (51, .lreturn, 1, []) from by decide +kernel) rfl vc

theorem w_ctrc {X : Scr} {dp : Nat} {h : Hp} {Q : Option Value → Hp → Prop} (i : Int32) (hs : HS h)
    (vc : ((condB .lt i 0 = true → Q (some (.int (-1))) h) ∧ (condB .lt i 0 = false → ((condB .ge i 20 = true → Q (some (.int (-1))) h) ∧ (condB .ge i 20 = false → ((condB .ge i (h.2.1 51 4) = true → Q (some (.int (-1))) h) ∧ (condB .ge i (h.2.1 51 4) = false → (inB i 20 = true ∧ Q (some (.int (h.2.1 52 i.toNatClampNeg))) h)))))))) :
    Ends X dp 92 0 [.ref 0, .int i] [] h Q := by
  have ra : ∀ {a : Nat}, a < 1000 → a ≤ OLDB := fun h => by have := OLDB_eq; omega
  refine e_iload_n (show pAt 92 0 = some (0, .iload_n 1, 1, []) from by decide +kernel) rfl ?_
  refine e_if (t := 33) (show pAt 92 1 = some (1, .ifCond .lt 32, 3, []) from by decide +kernel) rfl (fun c1 => ?_) (fun c1 => ?_)
  · replace vc := vc.1 c1
    refine e_iconst (c := (-1)) (show pAt 92 33 = some (33, .iconst (-1), 1, []) from by decide +kernel) (by decide) ?_
    exact e_retI (show pAt 92 34 = some (34, .ireturn, 1, []) from by decide +kernel) rfl vc
  · replace vc := vc.2 c1
    refine e_iload_n (show pAt 92 4 = some (4, .iload_n 1, 1, []) from by decide +kernel) rfl ?_
    refine e_bipush (c := 20) (show pAt 92 5 = some (5, .bipush 20, 2, []) from by decide +kernel) (by decide) ?_
    refine e_icmp (t := 33) (show pAt 92 7 = some (7, .if_icmp .ge 26, 3, []) from by decide +kernel) rfl (fun c2 => ?_) (fun c2 => ?_)
    · replace vc := vc.1 c2
      refine e_iconst (c := (-1)) (show pAt 92 33 = some (33, .iconst (-1), 1, []) from by decide +kernel) (by decide) ?_
      exact e_retI (show pAt 92 34 = some (34, .ireturn, 1, []) from by decide +kernel) rfl vc
    · replace vc := vc.2 c2
      refine e_iload_n (show pAt 92 10 = some (10, .iload_n 1, 1, []) from by decide +kernel) rfl ?_
      refine e_aload_n (show pAt 92 11 = some (11, .aload_n 0, 1, []) from by decide +kernel) rfl (ra (by decide)) ?_
      refine e_gR (show pAt 92 12 = some (12, .getfield 49, 3, [6, 8, 0, 2030]) from by decide +kernel) (show HS h from hs) rfl (by decide) (hs_ref (show HS h from hs) rfl) ?_
      refine e_gIv (v := h.2.1 51 4) (show pAt 92 15 = some (15, .getfield 216, 3, [0, 4, 1, 1226]) from by decide +kernel) (show HS h from hs) rfl (by decide) rfl ?_
      refine e_icmp (t := 33) (show pAt 92 18 = some (18, .if_icmp .ge 15, 3, []) from by decide +kernel) rfl (fun c3 => ?_) (fun c3 => ?_)
      · replace vc := vc.1 c3
        refine e_iconst (c := (-1)) (show pAt 92 33 = some (33, .iconst (-1), 1, []) from by decide +kernel) (by decide) ?_
        exact e_retI (show pAt 92 34 = some (34, .ireturn, 1, []) from by decide +kernel) rfl vc
      · replace vc := vc.2 c3
        refine e_aload_n (show pAt 92 21 = some (21, .aload_n 0, 1, []) from by decide +kernel) rfl (ra (by decide)) ?_
        refine e_gR (show pAt 92 22 = some (22, .getfield 49, 3, [6, 8, 0, 2030]) from by decide +kernel) (show HS h from hs) rfl (by decide) (hs_ref (show HS h from hs) rfl) ?_
        refine e_gR (show pAt 92 25 = some (25, .getfield 230, 3, [0, 3, 1, 1224]) from by decide +kernel) (show HS h from hs) rfl (by decide) (hs_ref (show HS h from hs) rfl) ?_
        refine e_iload_n (show pAt 92 28 = some (28, .iload_n 1, 1, []) from by decide +kernel) rfl ?_
        obtain ⟨c4, vc⟩ := vc
        refine e_aldv (v := h.2.1 52 i.toNatClampNeg) (show pAt 92 29 = some (29, .iaload, 1, []) from by decide +kernel) (show HS h from hs) (by decide) c4 rfl ?_
        refine e_goto (t := 34) (show pAt 92 30 = some (30, .goto 4, 3, []) from by decide +kernel) rfl ?_
        exact e_retI (show pAt 92 34 = some (34, .ireturn, 1, []) from by decide +kernel) rfl vc

theorem w_mtrc {X : Scr} {dp : Nat} {h : Hp} {Q : Option Value → Hp → Prop} (i : Int32) (hs : HS h)
    (vc : Ends X dp 109 0 [.ref 93, .int i, .int 0, .int 19] [] h (fun rv h1 => ∃ r2, rv = some (.int r2) ∧ HS h1 ∧ ((condB .eq r2 0 = true → Q (some (.int (-1))) h1) ∧ (condB .eq r2 0 = false → ((condB .ge i (h1.2.1 93 58) = true → Q (some (.int (-1))) h1) ∧ (condB .ge i (h1.2.1 93 58) = false → (inB i 20 = true ∧ Q (some (.int (h1.2.1 122 i.toNatClampNeg))) h1))))))) :
    Ends X (dp + 1) 195 0 [.ref 93, .int i] [] h Q := by
  have ra : ∀ {a : Nat}, a < 1000 → a ≤ OLDB := fun h => by have := OLDB_eq; omega
  refine e_aload_n (show pAt 195 0 = some (0, .aload_n 0, 1, []) from by decide +kernel) rfl (ra (by decide)) ?_
  refine e_iload_n (show pAt 195 1 = some (1, .iload_n 1, 1, []) from by decide +kernel) rfl ?_
  refine e_iconst (c := 0) (show pAt 195 2 = some (2, .iconst 0, 1, []) from by decide +kernel) (by decide) ?_
  refine e_bipush (c := 19) (show pAt 195 3 = some (3, .bipush 19, 2, []) from by decide +kernel) (by decide) ?_
  refine Ends.call (show pAt 195 5 = some (5, .invokevirtual 206, 3, [109, 4, 0, 0, 5081, 5083, 54]) from by decide +kernel) (isRet_none rfl) rfl (call_this (show HS h from hs) rfl rfl (by decide)) (Ends.mono vc ?_)
  rintro _ h1 ⟨r2, rfl, hs_h1, vc⟩
  refine e_if (t := 28) (show pAt 195 8 = some (8, .ifCond .eq 20, 3, []) from by decide +kernel) rfl (fun c4 => ?_) (fun c4 => ?_)
  · replace vc := vc.1 c4
    refine e_iconst (c := (-1)) (show pAt 195 28 = some (28, .iconst (-1), 1, []) from by decide +kernel) (by decide) ?_
    exact e_retI (show pAt 195 29 = some (29, .ireturn, 1, []) from by decide +kernel) rfl vc
  · replace vc := vc.2 c4
    refine e_iload_n (show pAt 195 11 = some (11, .iload_n 1, 1, []) from by decide +kernel) rfl ?_
    refine e_aload_n (show pAt 195 12 = some (12, .aload_n 0, 1, []) from by decide +kernel) rfl (ra (by decide)) ?_
    refine e_gIv (v := h1.2.1 93 58) (show pAt 195 13 = some (13, .getfield 187, 3, [7, 58, 0, 4181]) from by decide +kernel) (show HS h1 from hs_h1) rfl (by decide) rfl ?_
    refine e_icmp (t := 28) (show pAt 195 16 = some (16, .if_icmp .ge 12, 3, []) from by decide +kernel) rfl (fun c5 => ?_) (fun c5 => ?_)
    · replace vc := vc.1 c5
      refine e_iconst (c := (-1)) (show pAt 195 28 = some (28, .iconst (-1), 1, []) from by decide +kernel) (by decide) ?_
      exact e_retI (show pAt 195 29 = some (29, .ireturn, 1, []) from by decide +kernel) rfl vc
    · replace vc := vc.2 c5
      refine e_aload_n (show pAt 195 19 = some (19, .aload_n 0, 1, []) from by decide +kernel) rfl (ra (by decide)) ?_
      refine e_gR (show pAt 195 20 = some (20, .getfield 190, 3, [7, 59, 0, 4182]) from by decide +kernel) (show HS h1 from hs_h1) rfl (by decide) (hs_ref (show HS h1 from hs_h1) rfl) ?_
      refine e_iload_n (show pAt 195 23 = some (23, .iload_n 1, 1, []) from by decide +kernel) rfl ?_
      obtain ⟨c6, vc⟩ := vc
      refine e_aldv (v := h1.2.1 122 i.toNatClampNeg) (show pAt 195 24 = some (24, .iaload, 1, []) from by decide +kernel) (show HS h1 from hs_h1) (by decide) c6 rfl ?_
      refine e_goto (t := 29) (show pAt 195 25 = some (25, .goto 4, 3, []) from by decide +kernel) rfl ?_
      exact e_retI (show pAt 195 29 = some (29, .ireturn, 1, []) from by decide +kernel) rfl vc

theorem w_cbeg {X : Scr} {dp : Nat} {h : Hp} {Q : Option Value → Hp → Prop} (b : Int32) (hs : HS h)
    (vc : ((condB .lt (h.2.1 51 4) 0 = true → Q none (hpI h 51 4 ((h.2.1 51 4) + 1))) ∧ (condB .lt (h.2.1 51 4) 0 = false → ((condB .ge (h.2.1 51 4) 20 = true → Q none (hpI h 51 4 ((h.2.1 51 4) + 1))) ∧ (condB .ge (h.2.1 51 4) 20 = false → (inB (h.2.1 51 4) 20 = true ∧ Q none (hpI (hpI h 52 (h.2.1 51 4).toNatClampNeg b) 51 4 ((h.2.1 51 4) + 1)))))))) :
    Ends X dp 4 0 [.ref 51, .int b] [] h Q := by
  have ra : ∀ {a : Nat}, a < 1000 → a ≤ OLDB := fun h => by have := OLDB_eq; omega
  refine e_aload_n (show pAt 4 0 = some (0, .aload_n 0, 1, []) from by decide +kernel) rfl (ra (by decide)) ?_
  refine e_gIv (v := h.2.1 51 4) (show pAt 4 1 = some (1, .getfield 43, 3, [0, 4, 0, 1225]) from by decide +kernel) (show HS h from hs) rfl (by decide) rfl ?_
  refine e_if (t := 26) (show pAt 4 4 = some (4, .ifCond .lt 22, 3, []) from by decide +kernel) rfl (fun c1 => ?_) (fun c1 => ?_)
  · replace vc := vc.1 c1
    refine e_aload_n (show pAt 4 26 = some (26, .aload_n 0, 1, []) from by decide +kernel) rfl (ra (by decide)) ?_
    refine e_dupR (show pAt 4 27 = some (27, .dup, 1, []) from by decide +kernel) ?_
    refine e_gIv (v := h.2.1 51 4) (show pAt 4 28 = some (28, .getfield 43, 3, [0, 4, 0, 1225]) from by decide +kernel) (show HS h from hs) rfl (by decide) rfl ?_
    refine e_iconst (c := 1) (show pAt 4 31 = some (31, .iconst 1, 1, []) from by decide +kernel) (by decide) ?_
    refine e_iadd (show pAt 4 32 = some (32, .iadd, 1, []) from by decide +kernel) ?_
    refine e_pI (show pAt 4 33 = some (33, .putfield 43, 3, [0, 4, 0, 1225]) from by decide +kernel) (show HS h from hs) (by decide) (Or.inl rfl) ?_
    exact e_retV (show pAt 4 36 = some (36, .return_, 1, []) from by decide +kernel) rfl vc
  · replace vc := vc.2 c1
    refine e_aload_n (show pAt 4 7 = some (7, .aload_n 0, 1, []) from by decide +kernel) rfl (ra (by decide)) ?_
    refine e_gIv (v := h.2.1 51 4) (show pAt 4 8 = some (8, .getfield 43, 3, [0, 4, 0, 1225]) from by decide +kernel) (show HS h from hs) rfl (by decide) rfl ?_
    refine e_bipush (c := 20) (show pAt 4 11 = some (11, .bipush 20, 2, []) from by decide +kernel) (by decide) ?_
    refine e_icmp (t := 26) (show pAt 4 13 = some (13, .if_icmp .ge 13, 3, []) from by decide +kernel) rfl (fun c2 => ?_) (fun c2 => ?_)
    · replace vc := vc.1 c2
      refine e_aload_n (show pAt 4 26 = some (26, .aload_n 0, 1, []) from by decide +kernel) rfl (ra (by decide)) ?_
      refine e_dupR (show pAt 4 27 = some (27, .dup, 1, []) from by decide +kernel) ?_
      refine e_gIv (v := h.2.1 51 4) (show pAt 4 28 = some (28, .getfield 43, 3, [0, 4, 0, 1225]) from by decide +kernel) (show HS h from hs) rfl (by decide) rfl ?_
      refine e_iconst (c := 1) (show pAt 4 31 = some (31, .iconst 1, 1, []) from by decide +kernel) (by decide) ?_
      refine e_iadd (show pAt 4 32 = some (32, .iadd, 1, []) from by decide +kernel) ?_
      refine e_pI (show pAt 4 33 = some (33, .putfield 43, 3, [0, 4, 0, 1225]) from by decide +kernel) (show HS h from hs) (by decide) (Or.inl rfl) ?_
      exact e_retV (show pAt 4 36 = some (36, .return_, 1, []) from by decide +kernel) rfl vc
    · replace vc := vc.2 c2
      refine e_aload_n (show pAt 4 16 = some (16, .aload_n 0, 1, []) from by decide +kernel) rfl (ra (by decide)) ?_
      refine e_gR (show pAt 4 17 = some (17, .getfield 11, 3, [0, 3, 0, 1223]) from by decide +kernel) (show HS h from hs) rfl (by decide) (hs_ref (show HS h from hs) rfl) ?_
      refine e_aload_n (show pAt 4 20 = some (20, .aload_n 0, 1, []) from by decide +kernel) rfl (ra (by decide)) ?_
      refine e_gIv (v := h.2.1 51 4) (show pAt 4 21 = some (21, .getfield 43, 3, [0, 4, 0, 1225]) from by decide +kernel) (show HS h from hs) rfl (by decide) rfl ?_
      refine e_iload_n (show pAt 4 24 = some (24, .iload_n 1, 1, []) from by decide +kernel) rfl ?_
      obtain ⟨c3, vc⟩ := vc
      refine e_ast (show pAt 4 25 = some (25, .iastore, 1, []) from by decide +kernel) (show HS h from hs) (by decide) c3 ?_
      refine e_aload_n (show pAt 4 26 = some (26, .aload_n 0, 1, []) from by decide +kernel) rfl (ra (by decide)) ?_
      refine e_dupR (show pAt 4 27 = some (27, .dup, 1, []) from by decide +kernel) ?_
      refine e_gIv (v := h.2.1 51 4) (show pAt 4 28 = some (28, .getfield 43, 3, [0, 4, 0, 1225]) from by decide +kernel) (show HS (hpI h 52 (h.2.1 51 4).toNatClampNeg b) from hs) rfl (by decide) rfl ?_
      refine e_iconst (c := 1) (show pAt 4 31 = some (31, .iconst 1, 1, []) from by decide +kernel) (by decide) ?_
      refine e_iadd (show pAt 4 32 = some (32, .iadd, 1, []) from by decide +kernel) ?_
      refine e_pI (show pAt 4 33 = some (33, .putfield 43, 3, [0, 4, 0, 1225]) from by decide +kernel) (show HS (hpI h 52 (h.2.1 51 4).toNatClampNeg b) from hs) (by decide) (Or.inl rfl) ?_
      exact e_retV (show pAt 4 36 = some (36, .return_, 1, []) from by decide +kernel) rfl vc

theorem w_mbod {X : Scr} {dp : Nat} {h : Hp} {Q : Option Value → Hp → Prop} (b : Int32) (hs : HS h)
    (vc : ((condB .ge (h.2.1 93 58) 20 = true → Q none (hpI h 93 58 ((h.2.1 93 58) + 1))) ∧ (condB .ge (h.2.1 93 58) 20 = false → (inB (h.2.1 93 58) 20 = true ∧ Q none (hpI (hpI h 122 (h.2.1 93 58).toNatClampNeg b) 93 58 ((h.2.1 93 58) + 1)))))) :
    Ends X dp 186 0 [.ref 93, .int b] [] h Q := by
  have ra : ∀ {a : Nat}, a < 1000 → a ≤ OLDB := fun h => by have := OLDB_eq; omega
  refine e_aload_n (show pAt 186 0 = some (0, .aload_n 0, 1, []) from by decide +kernel) rfl (ra (by decide)) ?_
  refine e_gIv (v := h.2.1 93 58) (show pAt 186 1 = some (1, .getfield 187, 3, [7, 58, 0, 4181]) from by decide +kernel) (show HS h from hs) rfl (by decide) rfl ?_
  refine e_bipush (c := 20) (show pAt 186 4 = some (4, .bipush 20, 2, []) from by decide +kernel) (by decide) ?_
  refine e_icmp (t := 19) (show pAt 186 6 = some (6, .if_icmp .ge 13, 3, []) from by decide +kernel) rfl (fun c1 => ?_) (fun c1 => ?_)
  · replace vc := vc.1 c1
    refine e_aload_n (show pAt 186 19 = some (19, .aload_n 0, 1, []) from by decide +kernel) rfl (ra (by decide)) ?_
    refine e_dupR (show pAt 186 20 = some (20, .dup, 1, []) from by decide +kernel) ?_
    refine e_gIv (v := h.2.1 93 58) (show pAt 186 21 = some (21, .getfield 187, 3, [7, 58, 0, 4181]) from by decide +kernel) (show HS h from hs) rfl (by decide) rfl ?_
    refine e_iconst (c := 1) (show pAt 186 24 = some (24, .iconst 1, 1, []) from by decide +kernel) (by decide) ?_
    refine e_iadd (show pAt 186 25 = some (25, .iadd, 1, []) from by decide +kernel) ?_
    refine e_pI (show pAt 186 26 = some (26, .putfield 187, 3, [7, 58, 0, 4181]) from by decide +kernel) (show HS h from hs) (by decide) (Or.inl rfl) ?_
    exact e_retV (show pAt 186 29 = some (29, .return_, 1, []) from by decide +kernel) rfl vc
  · replace vc := vc.2 c1
    refine e_aload_n (show pAt 186 9 = some (9, .aload_n 0, 1, []) from by decide +kernel) rfl (ra (by decide)) ?_
    refine e_gR (show pAt 186 10 = some (10, .getfield 190, 3, [7, 59, 0, 4182]) from by decide +kernel) (show HS h from hs) rfl (by decide) (hs_ref (show HS h from hs) rfl) ?_
    refine e_aload_n (show pAt 186 13 = some (13, .aload_n 0, 1, []) from by decide +kernel) rfl (ra (by decide)) ?_
    refine e_gIv (v := h.2.1 93 58) (show pAt 186 14 = some (14, .getfield 187, 3, [7, 58, 0, 4181]) from by decide +kernel) (show HS h from hs) rfl (by decide) rfl ?_
    refine e_iload_n (show pAt 186 17 = some (17, .iload_n 1, 1, []) from by decide +kernel) rfl ?_
    obtain ⟨c2, vc⟩ := vc
    refine e_ast (show pAt 186 18 = some (18, .iastore, 1, []) from by decide +kernel) (show HS h from hs) (by decide) c2 ?_
    refine e_aload_n (show pAt 186 19 = some (19, .aload_n 0, 1, []) from by decide +kernel) rfl (ra (by decide)) ?_
    refine e_dupR (show pAt 186 20 = some (20, .dup, 1, []) from by decide +kernel) ?_
    refine e_gIv (v := h.2.1 93 58) (show pAt 186 21 = some (21, .getfield 187, 3, [7, 58, 0, 4181]) from by decide +kernel) (show HS (hpI h 122 (h.2.1 93 58).toNatClampNeg b) from hs) rfl (by decide) rfl ?_
    refine e_iconst (c := 1) (show pAt 186 24 = some (24, .iconst 1, 1, []) from by decide +kernel) (by decide) ?_
    refine e_iadd (show pAt 186 25 = some (25, .iadd, 1, []) from by decide +kernel) ?_
    refine e_pI (show pAt 186 26 = some (26, .putfield 187, 3, [7, 58, 0, 4181]) from by decide +kernel) (show HS (hpI h 122 (h.2.1 93 58).toNatClampNeg b) from hs) (by decide) (Or.inl rfl) ?_
    exact e_retV (show pAt 186 29 = some (29, .return_, 1, []) from by decide +kernel) rfl vc

theorem w_does {X : Scr} {dp : Nat} {h : Hp} {Q : Option Value → Hp → Prop} (a : Int32) (f : Int32) (x : Int32) (d : Int32) (hs : HS h)
    (vc : Ends X dp 3 0 [.int a, .int f, .retAddr 0, .retAddr 0] [] h (fun rv h1 => ∃ r2, rv = some (.int r2) ∧ HS h1 ∧ ((condB .lt r2 0 = true → Q (some (.int 0)) h1) ∧ (condB .lt r2 0 = false → ((condB .ge r2 7 = true → Q (some (.int 0)) h1) ∧ (condB .ge r2 7 = false → ((condB .le d 40 = true → (inB ((a * 7) + r2) 21 = true ∧ (inB r2 7 = true ∧ Ends X dp 4 0 [.ref 51, .int (bodiesL.getD ((a * 7) + r2).toNatClampNeg 0)] [] h1 (fun rv h9 => rv = none ∧ HS h9 ∧ (((¬ (10 : Int) = (bodiesL.getD ((a * 7) + r2).toNatClampNeg 0).toInt ∧ ¬ (11 : Int) = (bodiesL.getD ((a * 7) + r2).toNatClampNeg 0).toInt ∧ ¬ (12 : Int) = (bodiesL.getD ((a * 7) + r2).toNatClampNeg 0).toInt ∧ ¬ (20 : Int) = (bodiesL.getD ((a * 7) + r2).toNatClampNeg 0).toInt ∧ ¬ (30 : Int) = (bodiesL.getD ((a * 7) + r2).toNatClampNeg 0).toInt ∧ ¬ (40 : Int) = (bodiesL.getD ((a * 7) + r2).toNatClampNeg 0).toInt ∧ ¬ (50 : Int) = (bodiesL.getD ((a * 7) + r2).toNatClampNeg 0).toInt ∧ ¬ (51 : Int) = (bodiesL.getD ((a * 7) + r2).toNatClampNeg 0).toInt ∧ ¬ (60 : Int) = (bodiesL.getD ((a * 7) + r2).toNatClampNeg 0).toInt ∧ ¬ (70 : Int) = (bodiesL.getD ((a * 7) + r2).toNatClampNeg 0).toInt ∧ ¬ (71 : Int) = (bodiesL.getD ((a * 7) + r2).toNatClampNeg 0).toInt) → Q (some (.int 0)) h9) ∧ ((bodiesL.getD ((a * 7) + r2).toNatClampNeg 0).toInt = 10 → Q (some (.int (x + (h9.2.1 51 0)))) h9) ∧ ((bodiesL.getD ((a * 7) + r2).toNatClampNeg 0).toInt = 11 → Ends X dp 2 0 [.ref 51, .int 0, .int (h9.2.1 51 1), .int x, .int (d + 1), .retAddr 0, .retAddr 0, .retAddr 0, .retAddr 0] [] h9 (fun rv h13 => ∃ r14, rv = some (.int r14) ∧ HS h13 ∧ Q (some (.int (r14 - (h13.2.1 51 2)))) h13)) ∧ ((bodiesL.getD ((a * 7) + r2).toNatClampNeg 0).toInt = 12 → Ends X dp 2 0 [.ref 51, .int 1, .int (h9.2.1 51 1), .int x, .int (d + 1), .retAddr 0, .retAddr 0, .retAddr 0, .retAddr 0] [] h9 (fun rv h16 => ∃ r17, rv = some (.int r17) ∧ HS h16 ∧ Q (some (.int (r17 * 2))) h16)) ∧ ((bodiesL.getD ((a * 7) + r2).toNatClampNeg 0).toInt = 20 → Ends X dp 2 0 [.ref 51, .int 1, .int (aboveL.getD r2.toNatClampNeg 0), .int x, .int (d + 1), .retAddr 0, .retAddr 0, .retAddr 0, .retAddr 0] [] h9 (fun rv h19 => ∃ r20, rv = some (.int r20) ∧ HS h19 ∧ Q (some (.int (r20 ^^^ 6))) h19)) ∧ ((bodiesL.getD ((a * 7) + r2).toNatClampNeg 0).toInt = 30 → Ends X dp 2 0 [.ref 51, .int 0, .int (aboveL.getD r2.toNatClampNeg 0), .int (x * 3), .int (d + 1), .retAddr 0, .retAddr 0, .retAddr 0, .retAddr 0] [] h9 (fun rv h22 => ∃ r23, rv = some (.int r23) ∧ HS h22 ∧ Q (some (.int r23)) h22)) ∧ ((bodiesL.getD ((a * 7) + r2).toNatClampNeg 0).toInt = 40 → Ends X dp 2 0 [.ref 51, .int 2, .int (aboveL.getD r2.toNatClampNeg 0), .int x, .int (d + 1), .retAddr 0, .retAddr 0, .retAddr 0, .retAddr 0] [] h9 (fun rv h25 => ∃ r26, rv = some (.int r26) ∧ HS h25 ∧ Ends X dp 2 0 [.ref 51, .int 1, .int (h25.2.1 51 1), .int 1, .int (d + 1), .retAddr 0, .retAddr 0, .retAddr 0, .retAddr 0] [] h25 (fun rv h28 => ∃ r29, rv = some (.int r29) ∧ HS h28 ∧ Q (some (.int (r26 + r29))) h28))) ∧ ((bodiesL.getD ((a * 7) + r2).toNatClampNeg 0).toInt = 50 → Ends X dp 2 0 [.ref 51, .int 0, .int (aboveL.getD r2.toNatClampNeg 0), .int x, .int (d + 1), .retAddr 0, .retAddr 0, .retAddr 0, .retAddr 0] [] h9 (fun rv h31 => ∃ r32, rv = some (.int r32) ∧ HS h31 ∧ Q (some (.int (-r32))) h31)) ∧ ((bodiesL.getD ((a * 7) + r2).toNatClampNeg 0).toInt = 51 → Ends X dp 2 0 [.ref 51, .int 1, .int (aboveL.getD r2.toNatClampNeg 0), .int (x + 1), .int (d + 1), .retAddr 0, .retAddr 0, .retAddr 0, .retAddr 0] [] h9 (fun rv h34 => ∃ r35, rv = some (.int r35) ∧ HS h34 ∧ Q (some (.int r35)) h34)) ∧ ((bodiesL.getD ((a * 7) + r2).toNatClampNeg 0).toInt = 60 → Ends X dp 2 0 [.ref 51, .int 2, .int (aboveL.getD r2.toNatClampNeg 0), .int (x - (h9.2.1 51 0)), .int (d + 1), .retAddr 0, .retAddr 0, .retAddr 0, .retAddr 0] [] h9 (fun rv h37 => ∃ r38, rv = some (.int r38) ∧ HS h37 ∧ Q (some (.int r38)) h37)) ∧ ((bodiesL.getD ((a * 7) + r2).toNatClampNeg 0).toInt = 70 → Ends X dp 2 0 [.ref 51, .int 1, .int (aboveL.getD r2.toNatClampNeg 0), .int x, .int (d + 1), .retAddr 0, .retAddr 0, .retAddr 0, .retAddr 0] [] h9 (fun rv h40 => ∃ r41, rv = some (.int r41) ∧ HS h40 ∧ Ends X dp 2 0 [.ref 51, .int 0, .int (aboveL.getD r2.toNatClampNeg 0), .int 2, .int (d + 1), .retAddr 0, .retAddr 0, .retAddr 0, .retAddr 0] [] h40 (fun rv h43 => ∃ r44, rv = some (.int r44) ∧ HS h43 ∧ Q (some (.int (r41 + r44))) h43))) ∧ ((bodiesL.getD ((a * 7) + r2).toNatClampNeg 0).toInt = 71 → Ends X dp 2 0 [.ref 51, .int 0, .int (aboveL.getD r2.toNatClampNeg 0), .int x, .int (d + 1), .retAddr 0, .retAddr 0, .retAddr 0, .retAddr 0] [] h9 (fun rv h46 => ∃ r47, rv = some (.int r47) ∧ HS h46 ∧ Q (some (.int (r47 ^^^ (h46.2.1 51 2)))) h46))))))) ∧ (condB .le d 40 = false → Q (some (.int 0)) h1)))))))) :
    Ends X (dp + 1) 2 0 [.ref 51, .int a, .int f, .int x, .int d, .retAddr 0, .retAddr 0, .retAddr 0, .retAddr 0] [] h Q := by
  have ra : ∀ {a : Nat}, a < 1000 → a ≤ OLDB := fun h => by have := OLDB_eq; omega
  refine e_iload_n (show pAt 2 0 = some (0, .iload_n 1, 1, []) from by decide +kernel) rfl ?_
  refine e_iload_n (show pAt 2 1 = some (1, .iload_n 2, 1, []) from by decide +kernel) rfl ?_
  refine Ends.call (show pAt 2 2 = some (2, .invokestatic 15, 3, [3, 2, 2, 0, 4061, 4062, 0]) from by decide +kernel) (isRet_none rfl) rfl rfl (Ends.mono vc ?_)
  rintro _ h1 ⟨r2, rfl, hs_h1, vc⟩
  refine e_istore (show pAt 2 5 = some (5, .istore 5, 2, []) from by decide +kernel) ⟨Nat.le_of_ble_eq_true rfl, rfl⟩ rfl ?_
  refine e_iload (show pAt 2 7 = some (7, .iload 5, 2, []) from by decide +kernel) rfl ?_
  refine e_if (t := 26) (show pAt 2 9 = some (9, .ifCond .lt 17, 3, []) from by decide +kernel) rfl (fun c4 => ?_) (fun c4 => ?_)
  · replace vc := vc.1 c4
    refine e_iconst (c := 0) (show pAt 2 26 = some (26, .iconst 0, 1, []) from by decide +kernel) (by decide) ?_
    exact e_retI (show pAt 2 27 = some (27, .ireturn, 1, []) from by decide +kernel) rfl vc
  · replace vc := vc.2 c4
    refine e_iload (show pAt 2 12 = some (12, .iload 5, 2, []) from by decide +kernel) rfl ?_
    refine e_bipush (c := 7) (show pAt 2 14 = some (14, .bipush 7, 2, []) from by decide +kernel) (by decide) ?_
    refine e_icmp (t := 26) (show pAt 2 16 = some (16, .if_icmp .ge 10, 3, []) from by decide +kernel) rfl (fun c5 => ?_) (fun c5 => ?_)
    · replace vc := vc.1 c5
      refine e_iconst (c := 0) (show pAt 2 26 = some (26, .iconst 0, 1, []) from by decide +kernel) (by decide) ?_
      exact e_retI (show pAt 2 27 = some (27, .ireturn, 1, []) from by decide +kernel) rfl vc
    · replace vc := vc.2 c5
      refine e_iload (show pAt 2 19 = some (19, .iload 4, 2, []) from by decide +kernel) rfl ?_
      refine e_bipush (c := 40) (show pAt 2 21 = some (21, .bipush 40, 2, []) from by decide +kernel) (by decide) ?_
      refine e_icmp (t := 28) (show pAt 2 23 = some (23, .if_icmp .le 5, 3, []) from by decide +kernel) rfl (fun c6 => ?_) (fun c6 => ?_)
      · replace vc := vc.1 c6
        refine e_gs2 (show pAt 2 28 = some (28, .getstatic 19, 3, [1, 0, 4064]) from by decide +kernel) ?_
        refine e_iload_n (show pAt 2 31 = some (31, .iload_n 1, 1, []) from by decide +kernel) rfl ?_
        refine e_bipush (c := 7) (show pAt 2 32 = some (32, .bipush 7, 2, []) from by decide +kernel) (by decide) ?_
        refine e_imul (show pAt 2 34 = some (34, .imul, 1, []) from by decide +kernel) ?_
        refine e_iload (show pAt 2 35 = some (35, .iload 5, 2, []) from by decide +kernel) rfl ?_
        refine e_iadd (show pAt 2 37 = some (37, .iadd, 1, []) from by decide +kernel) ?_
        obtain ⟨c7, vc⟩ := vc
        refine e_so2 (show pAt 2 38 = some (38, .iaload, 1, []) from by decide +kernel) c7 ?_
        refine e_istore (show pAt 2 39 = some (39, .istore 6, 2, []) from by decide +kernel) ⟨Nat.le_of_ble_eq_true rfl, rfl⟩ rfl ?_
        refine e_gs1 (show pAt 2 41 = some (41, .getstatic 22, 3, [0, 1, 4066]) from by decide +kernel) ?_
        refine e_iload (show pAt 2 44 = some (44, .iload 5, 2, []) from by decide +kernel) rfl ?_
        obtain ⟨c8, vc⟩ := vc
        refine e_so1 (show pAt 2 46 = some (46, .iaload, 1, []) from by decide +kernel) c8 ?_
        refine e_istore (show pAt 2 47 = some (47, .istore 7, 2, []) from by decide +kernel) ⟨Nat.le_of_ble_eq_true rfl, rfl⟩ rfl ?_
        refine e_iload (show pAt 2 49 = some (49, .iload 4, 2, []) from by decide +kernel) rfl ?_
        refine e_iconst (c := 1) (show pAt 2 51 = some (51, .iconst 1, 1, []) from by decide +kernel) (by decide) ?_
        refine e_iadd (show pAt 2 52 = some (52, .iadd, 1, []) from by decide +kernel) ?_
        refine e_istore (show pAt 2 53 = some (53, .istore 8, 2, []) from by decide +kernel) ⟨Nat.le_of_ble_eq_true rfl, rfl⟩ rfl ?_
        refine e_aload_n (show pAt 2 55 = some (55, .aload_n 0, 1, []) from by decide +kernel) rfl (ra (by decide)) ?_
        refine e_iload (show pAt 2 56 = some (56, .iload 6, 2, []) from by decide +kernel) rfl ?_
        refine Ends.call (show pAt 2 58 = some (58, .invokevirtual 25, 3, [4, 2, 0, 0, 4068, 4070, 51]) from by decide +kernel) (isRet_none rfl) rfl (call_this (show HS h1 from hs_h1) rfl rfl (by decide)) (Ends.mono vc ?_)
        rintro _ h9 ⟨rfl, hs_h9, vc⟩
        refine e_iload (show pAt 2 61 = some (61, .iload 6, 2, []) from by decide +kernel) rfl ?_
        rcases (show (¬ (10 : Int) = (bodiesL.getD ((a * 7) + r2).toNatClampNeg 0).toInt ∧ ¬ (11 : Int) = (bodiesL.getD ((a * 7) + r2).toNatClampNeg 0).toInt ∧ ¬ (12 : Int) = (bodiesL.getD ((a * 7) + r2).toNatClampNeg 0).toInt ∧ ¬ (20 : Int) = (bodiesL.getD ((a * 7) + r2).toNatClampNeg 0).toInt ∧ ¬ (30 : Int) = (bodiesL.getD ((a * 7) + r2).toNatClampNeg 0).toInt ∧ ¬ (40 : Int) = (bodiesL.getD ((a * 7) + r2).toNatClampNeg 0).toInt ∧ ¬ (50 : Int) = (bodiesL.getD ((a * 7) + r2).toNatClampNeg 0).toInt ∧ ¬ (51 : Int) = (bodiesL.getD ((a * 7) + r2).toNatClampNeg 0).toInt ∧ ¬ (60 : Int) = (bodiesL.getD ((a * 7) + r2).toNatClampNeg 0).toInt ∧ ¬ (70 : Int) = (bodiesL.getD ((a * 7) + r2).toNatClampNeg 0).toInt ∧ ¬ (71 : Int) = (bodiesL.getD ((a * 7) + r2).toNatClampNeg 0).toInt) ∨ (bodiesL.getD ((a * 7) + r2).toNatClampNeg 0).toInt = 10 ∨ (bodiesL.getD ((a * 7) + r2).toNatClampNeg 0).toInt = 11 ∨ (bodiesL.getD ((a * 7) + r2).toNatClampNeg 0).toInt = 12 ∨ (bodiesL.getD ((a * 7) + r2).toNatClampNeg 0).toInt = 20 ∨ (bodiesL.getD ((a * 7) + r2).toNatClampNeg 0).toInt = 30 ∨ (bodiesL.getD ((a * 7) + r2).toNatClampNeg 0).toInt = 40 ∨ (bodiesL.getD ((a * 7) + r2).toNatClampNeg 0).toInt = 50 ∨ (bodiesL.getD ((a * 7) + r2).toNatClampNeg 0).toInt = 51 ∨ (bodiesL.getD ((a * 7) + r2).toNatClampNeg 0).toInt = 60 ∨ (bodiesL.getD ((a * 7) + r2).toNatClampNeg 0).toInt = 70 ∨ (bodiesL.getD ((a * 7) + r2).toNatClampNeg 0).toInt = 71 from by omega) with c12 | c12 | c12 | c12 | c12 | c12 | c12 | c12 | c12 | c12 | c12 | c12
        · refine e_ls (t := 330) (show pAt 2 63 = some (63, .lookupswitch 267 #[(10, 97), (11, 104), (12, 122), (20, 137), (30, 151), (40, 164), (50, 188), (51, 200), (60, 213), (70, 229), (71, 251)], 97, []) from by decide +kernel) (by decide) (ls_off (b := 267) (by simp [Op.lookupswitch.offset, c12, -List.getD_eq_getElem?_getD]) rfl) ?_
          replace vc := vc.1 c12
          refine e_iconst (c := 0) (show pAt 2 330 = some (330, .iconst 0, 1, []) from by decide +kernel) (by decide) ?_
          exact e_retI (show pAt 2 331 = some (331, .ireturn, 1, []) from by decide +kernel) rfl vc
        · refine e_ls (t := 160) (show pAt 2 63 = some (63, .lookupswitch 267 #[(10, 97), (11, 104), (12, 122), (20, 137), (30, 151), (40, 164), (50, 188), (51, 200), (60, 213), (70, 229), (71, 251)], 97, []) from by decide +kernel) (by decide) (ls_off (b := 97) (by simp [Op.lookupswitch.offset, c12, -List.getD_eq_getElem?_getD]) rfl) ?_
          replace vc := vc.2.1 c12
          refine e_iload_n (show pAt 2 160 = some (160, .iload_n 3, 1, []) from by decide +kernel) rfl ?_
          refine e_aload_n (show pAt 2 161 = some (161, .aload_n 0, 1, []) from by decide +kernel) rfl (ra (by decide)) ?_
          refine e_gIv (v := h9.2.1 51 0) (show pAt 2 162 = some (162, .getfield 29, 3, [0, 0, 0, 1217]) from by decide +kernel) (show HS h9 from hs_h9) rfl (by decide) rfl ?_
          refine e_iadd (show pAt 2 165 = some (165, .iadd, 1, []) from by decide +kernel) ?_
          exact e_retI (show pAt 2 166 = some (166, .ireturn, 1, []) from by decide +kernel) rfl vc
        · refine e_ls (t := 167) (show pAt 2 63 = some (63, .lookupswitch 267 #[(10, 97), (11, 104), (12, 122), (20, 137), (30, 151), (40, 164), (50, 188), (51, 200), (60, 213), (70, 229), (71, 251)], 97, []) from by decide +kernel) (by decide) (ls_off (b := 104) (by simp [Op.lookupswitch.offset, c12, -List.getD_eq_getElem?_getD]) rfl) ?_
          replace vc := vc.2.2.1 c12
          refine e_aload_n (show pAt 2 167 = some (167, .aload_n 0, 1, []) from by decide +kernel) rfl (ra (by decide)) ?_
          refine e_iconst (c := 0) (show pAt 2 168 = some (168, .iconst 0, 1, []) from by decide +kernel) (by decide) ?_
          refine e_aload_n (show pAt 2 169 = some (169, .aload_n 0, 1, []) from by decide +kernel) rfl (ra (by decide)) ?_
          refine e_gIv (v := h9.2.1 51 1) (show pAt 2 170 = some (170, .getfield 33, 3, [0, 1, 0, 1219]) from by decide +kernel) (show HS h9 from hs_h9) rfl (by decide) rfl ?_
          refine e_iload_n (show pAt 2 173 = some (173, .iload_n 3, 1, []) from by decide +kernel) rfl ?_
          refine e_iload (show pAt 2 174 = some (174, .iload 8, 2, []) from by decide +kernel) rfl ?_
          refine Ends.call (show pAt 2 176 = some (176, .invokevirtual 36, 3, [2, 5, 0, 0, 4072, 4059, 50]) from by decide +kernel) (isRet_none rfl) rfl (call_this (show HS h9 from hs_h9) rfl rfl (by decide)) (Ends.mono vc ?_)
          rintro _ h13 ⟨r14, rfl, hs_h13, vc⟩
          refine e_aload_n (show pAt 2 179 = some (179, .aload_n 0, 1, []) from by decide +kernel) rfl (ra (by decide)) ?_
          refine e_gIv (v := h13.2.1 51 2) (show pAt 2 180 = some (180, .getfield 40, 3, [0, 2, 0, 1221]) from by decide +kernel) (show HS h13 from hs_h13) rfl (by decide) rfl ?_
          refine e_isub (show pAt 2 183 = some (183, .isub, 1, []) from by decide +kernel) ?_
          exact e_retI (show pAt 2 184 = some (184, .ireturn, 1, []) from by decide +kernel) rfl vc
        · refine e_ls (t := 185) (show pAt 2 63 = some (63, .lookupswitch 267 #[(10, 97), (11, 104), (12, 122), (20, 137), (30, 151), (40, 164), (50, 188), (51, 200), (60, 213), (70, 229), (71, 251)], 97, []) from by decide +kernel) (by decide) (ls_off (b := 122) (by simp [Op.lookupswitch.offset, c12, -List.getD_eq_getElem?_getD]) rfl) ?_
          replace vc := vc.2.2.2.1 c12
          refine e_aload_n (show pAt 2 185 = some (185, .aload_n 0, 1, []) from by decide +kernel) rfl (ra (by decide)) ?_
          refine e_iconst (c := 1) (show pAt 2 186 = some (186, .iconst 1, 1, []) from by decide +kernel) (by decide) ?_
          refine e_aload_n (show pAt 2 187 = some (187, .aload_n 0, 1, []) from by decide +kernel) rfl (ra (by decide)) ?_
          refine e_gIv (v := h9.2.1 51 1) (show pAt 2 188 = some (188, .getfield 33, 3, [0, 1, 0, 1219]) from by decide +kernel) (show HS h9 from hs_h9) rfl (by decide) rfl ?_
          refine e_iload_n (show pAt 2 191 = some (191, .iload_n 3, 1, []) from by decide +kernel) rfl ?_
          refine e_iload (show pAt 2 192 = some (192, .iload 8, 2, []) from by decide +kernel) rfl ?_
          refine Ends.call (show pAt 2 194 = some (194, .invokevirtual 36, 3, [2, 5, 0, 0, 4072, 4059, 50]) from by decide +kernel) (isRet_none rfl) rfl (call_this (show HS h9 from hs_h9) rfl rfl (by decide)) (Ends.mono vc ?_)
          rintro _ h16 ⟨r17, rfl, hs_h16, vc⟩
          refine e_iconst (c := 2) (show pAt 2 197 = some (197, .iconst 2, 1, []) from by decide +kernel) (by decide) ?_
          refine e_imul (show pAt 2 198 = some (198, .imul, 1, []) from by decide +kernel) ?_
          exact e_retI (show pAt 2 199 = some (199, .ireturn, 1, []) from by decide +kernel) rfl vc
        · refine e_ls (t := 200) (show pAt 2 63 = some (63, .lookupswitch 267 #[(10, 97), (11, 104), (12, 122), (20, 137), (30, 151), (40, 164), (50, 188), (51, 200), (60, 213), (70, 229), (71, 251)], 97, []) from by decide +kernel) (by decide) (ls_off (b := 137) (by simp [Op.lookupswitch.offset, c12, -List.getD_eq_getElem?_getD]) rfl) ?_
          replace vc := vc.2.2.2.2.1 c12
          refine e_aload_n (show pAt 2 200 = some (200, .aload_n 0, 1, []) from by decide +kernel) rfl (ra (by decide)) ?_
          refine e_iconst (c := 1) (show pAt 2 201 = some (201, .iconst 1, 1, []) from by decide +kernel) (by decide) ?_
          refine e_iload (show pAt 2 202 = some (202, .iload 7, 2, []) from by decide +kernel) rfl ?_
          refine e_iload_n (show pAt 2 204 = some (204, .iload_n 3, 1, []) from by decide +kernel) rfl ?_
          refine e_iload (show pAt 2 205 = some (205, .iload 8, 2, []) from by decide +kernel) rfl ?_
          refine Ends.call (show pAt 2 207 = some (207, .invokevirtual 36, 3, [2, 5, 0, 0, 4072, 4059, 50]) from by decide +kernel) (isRet_none rfl) rfl (call_this (show HS h9 from hs_h9) rfl rfl (by decide)) (Ends.mono vc ?_)
          rintro _ h19 ⟨r20, rfl, hs_h19, vc⟩
          refine e_bipush (c := 6) (show pAt 2 210 = some (210, .bipush 6, 2, []) from by decide +kernel) (by decide) ?_
          refine e_ixor (show pAt 2 212 = some (212, .ixor, 1, []) from by decide +kernel) ?_
          exact e_retI (show pAt 2 213 = some (213, .ireturn, 1, []) from by decide +kernel) rfl vc
        · refine e_ls (t := 214) (show pAt 2 63 = some (63, .lookupswitch 267 #[(10, 97), (11, 104), (12, 122), (20, 137), (30, 151), (40, 164), (50, 188), (51, 200), (60, 213), (70, 229), (71, 251)], 97, []) from by decide +kernel) (by decide) (ls_off (b := 151) (by simp [Op.lookupswitch.offset, c12, -List.getD_eq_getElem?_getD]) rfl) ?_
          replace vc := vc.2.2.2.2.2.1 c12
          refine e_aload_n (show pAt 2 214 = some (214, .aload_n 0, 1, []) from by decide +kernel) rfl (ra (by decide)) ?_
          refine e_iconst (c := 0) (show pAt 2 215 = some (215, .iconst 0, 1, []) from by decide +kernel) (by decide) ?_
          refine e_iload (show pAt 2 216 = some (216, .iload 7, 2, []) from by decide +kernel) rfl ?_
          refine e_iload_n (show pAt 2 218 = some (218, .iload_n 3, 1, []) from by decide +kernel) rfl ?_
          refine e_iconst (c := 3) (show pAt 2 219 = some (219, .iconst 3, 1, []) from by decide +kernel) (by decide) ?_
          refine e_imul (show pAt 2 220 = some (220, .imul, 1, []) from by decide +kernel) ?_
          refine e_iload (show pAt 2 221 = some (221, .iload 8, 2, []) from by decide +kernel) rfl ?_
          refine Ends.call (show pAt 2 223 = some (223, .invokevirtual 36, 3, [2, 5, 0, 0, 4072, 4059, 50]) from by decide +kernel) (isRet_none rfl) rfl (call_this (show HS h9 from hs_h9) rfl rfl (by decide)) (Ends.mono vc ?_)
          rintro _ h22 ⟨r23, rfl, hs_h22, vc⟩
          exact e_retI (show pAt 2 226 = some (226, .ireturn, 1, []) from by decide +kernel) rfl vc
        · refine e_ls (t := 227) (show pAt 2 63 = some (63, .lookupswitch 267 #[(10, 97), (11, 104), (12, 122), (20, 137), (30, 151), (40, 164), (50, 188), (51, 200), (60, 213), (70, 229), (71, 251)], 97, []) from by decide +kernel) (by decide) (ls_off (b := 164) (by simp [Op.lookupswitch.offset, c12, -List.getD_eq_getElem?_getD]) rfl) ?_
          replace vc := vc.2.2.2.2.2.2.1 c12
          refine e_aload_n (show pAt 2 227 = some (227, .aload_n 0, 1, []) from by decide +kernel) rfl (ra (by decide)) ?_
          refine e_iconst (c := 2) (show pAt 2 228 = some (228, .iconst 2, 1, []) from by decide +kernel) (by decide) ?_
          refine e_iload (show pAt 2 229 = some (229, .iload 7, 2, []) from by decide +kernel) rfl ?_
          refine e_iload_n (show pAt 2 231 = some (231, .iload_n 3, 1, []) from by decide +kernel) rfl ?_
          refine e_iload (show pAt 2 232 = some (232, .iload 8, 2, []) from by decide +kernel) rfl ?_
          refine Ends.call (show pAt 2 234 = some (234, .invokevirtual 36, 3, [2, 5, 0, 0, 4072, 4059, 50]) from by decide +kernel) (isRet_none rfl) rfl (call_this (show HS h9 from hs_h9) rfl rfl (by decide)) (Ends.mono vc ?_)
          rintro _ h25 ⟨r26, rfl, hs_h25, vc⟩
          refine e_aload_n (show pAt 2 237 = some (237, .aload_n 0, 1, []) from by decide +kernel) rfl (ra (by decide)) ?_
          refine e_iconst (c := 1) (show pAt 2 238 = some (238, .iconst 1, 1, []) from by decide +kernel) (by decide) ?_
          refine e_aload_n (show pAt 2 239 = some (239, .aload_n 0, 1, []) from by decide +kernel) rfl (ra (by decide)) ?_
          refine e_gIv (v := h25.2.1 51 1) (show pAt 2 240 = some (240, .getfield 33, 3, [0, 1, 0, 1219]) from by decide +kernel) (show HS h25 from hs_h25) rfl (by decide) rfl ?_
          refine e_iconst (c := 1) (show pAt 2 243 = some (243, .iconst 1, 1, []) from by decide +kernel) (by decide) ?_
          refine e_iload (show pAt 2 244 = some (244, .iload 8, 2, []) from by decide +kernel) rfl ?_
          refine Ends.call (show pAt 2 246 = some (246, .invokevirtual 36, 3, [2, 5, 0, 0, 4072, 4059, 50]) from by decide +kernel) (isRet_none rfl) rfl (call_this (show HS h25 from hs_h25) rfl rfl (by decide)) (Ends.mono vc ?_)
          rintro _ h28 ⟨r29, rfl, hs_h28, vc⟩
          refine e_iadd (show pAt 2 249 = some (249, .iadd, 1, []) from by decide +kernel) ?_
          exact e_retI (show pAt 2 250 = some (250, .ireturn, 1, []) from by decide +kernel) rfl vc
        · refine e_ls (t := 251) (show pAt 2 63 = some (63, .lookupswitch 267 #[(10, 97), (11, 104), (12, 122), (20, 137), (30, 151), (40, 164), (50, 188), (51, 200), (60, 213), (70, 229), (71, 251)], 97, []) from by decide +kernel) (by decide) (ls_off (b := 188) (by simp [Op.lookupswitch.offset, c12, -List.getD_eq_getElem?_getD]) rfl) ?_
          replace vc := vc.2.2.2.2.2.2.2.1 c12
          refine e_aload_n (show pAt 2 251 = some (251, .aload_n 0, 1, []) from by decide +kernel) rfl (ra (by decide)) ?_
          refine e_iconst (c := 0) (show pAt 2 252 = some (252, .iconst 0, 1, []) from by decide +kernel) (by decide) ?_
          refine e_iload (show pAt 2 253 = some (253, .iload 7, 2, []) from by decide +kernel) rfl ?_
          refine e_iload_n (show pAt 2 255 = some (255, .iload_n 3, 1, []) from by decide +kernel) rfl ?_
          refine e_iload (show pAt 2 256 = some (256, .iload 8, 2, []) from by decide +kernel) rfl ?_
          refine Ends.call (show pAt 2 258 = some (258, .invokevirtual 36, 3, [2, 5, 0, 0, 4072, 4059, 50]) from by decide +kernel) (isRet_none rfl) rfl (call_this (show HS h9 from hs_h9) rfl rfl (by decide)) (Ends.mono vc ?_)
          rintro _ h31 ⟨r32, rfl, hs_h31, vc⟩
          refine e_ineg (show pAt 2 261 = some (261, .ineg, 1, []) from by decide +kernel) ?_
          exact e_retI (show pAt 2 262 = some (262, .ireturn, 1, []) from by decide +kernel) rfl vc
        · refine e_ls (t := 263) (show pAt 2 63 = some (63, .lookupswitch 267 #[(10, 97), (11, 104), (12, 122), (20, 137), (30, 151), (40, 164), (50, 188), (51, 200), (60, 213), (70, 229), (71, 251)], 97, []) from by decide +kernel) (by decide) (ls_off (b := 200) (by simp [Op.lookupswitch.offset, c12, -List.getD_eq_getElem?_getD]) rfl) ?_
          replace vc := vc.2.2.2.2.2.2.2.2.1 c12
          refine e_aload_n (show pAt 2 263 = some (263, .aload_n 0, 1, []) from by decide +kernel) rfl (ra (by decide)) ?_
          refine e_iconst (c := 1) (show pAt 2 264 = some (264, .iconst 1, 1, []) from by decide +kernel) (by decide) ?_
          refine e_iload (show pAt 2 265 = some (265, .iload 7, 2, []) from by decide +kernel) rfl ?_
          refine e_iload_n (show pAt 2 267 = some (267, .iload_n 3, 1, []) from by decide +kernel) rfl ?_
          refine e_iconst (c := 1) (show pAt 2 268 = some (268, .iconst 1, 1, []) from by decide +kernel) (by decide) ?_
          refine e_iadd (show pAt 2 269 = some (269, .iadd, 1, []) from by decide +kernel) ?_
          refine e_iload (show pAt 2 270 = some (270, .iload 8, 2, []) from by decide +kernel) rfl ?_
          refine Ends.call (show pAt 2 272 = some (272, .invokevirtual 36, 3, [2, 5, 0, 0, 4072, 4059, 50]) from by decide +kernel) (isRet_none rfl) rfl (call_this (show HS h9 from hs_h9) rfl rfl (by decide)) (Ends.mono vc ?_)
          rintro _ h34 ⟨r35, rfl, hs_h34, vc⟩
          exact e_retI (show pAt 2 275 = some (275, .ireturn, 1, []) from by decide +kernel) rfl vc
        · refine e_ls (t := 276) (show pAt 2 63 = some (63, .lookupswitch 267 #[(10, 97), (11, 104), (12, 122), (20, 137), (30, 151), (40, 164), (50, 188), (51, 200), (60, 213), (70, 229), (71, 251)], 97, []) from by decide +kernel) (by decide) (ls_off (b := 213) (by simp [Op.lookupswitch.offset, c12, -List.getD_eq_getElem?_getD]) rfl) ?_
          replace vc := vc.2.2.2.2.2.2.2.2.2.1 c12
          refine e_aload_n (show pAt 2 276 = some (276, .aload_n 0, 1, []) from by decide +kernel) rfl (ra (by decide)) ?_
          refine e_iconst (c := 2) (show pAt 2 277 = some (277, .iconst 2, 1, []) from by decide +kernel) (by decide) ?_
          refine e_iload (show pAt 2 278 = some (278, .iload 7, 2, []) from by decide +kernel) rfl ?_
          refine e_iload_n (show pAt 2 280 = some (280, .iload_n 3, 1, []) from by decide +kernel) rfl ?_
          refine e_aload_n (show pAt 2 281 = some (281, .aload_n 0, 1, []) from by decide +kernel) rfl (ra (by decide)) ?_
          refine e_gIv (v := h9.2.1 51 0) (show pAt 2 282 = some (282, .getfield 29, 3, [0, 0, 0, 1217]) from by decide +kernel) (show HS h9 from hs_h9) rfl (by decide) rfl ?_
          refine e_isub (show pAt 2 285 = some (285, .isub, 1, []) from by decide +kernel) ?_
          refine e_iload (show pAt 2 286 = some (286, .iload 8, 2, []) from by decide +kernel) rfl ?_
          refine Ends.call (show pAt 2 288 = some (288, .invokevirtual 36, 3, [2, 5, 0, 0, 4072, 4059, 50]) from by decide +kernel) (isRet_none rfl) rfl (call_this (show HS h9 from hs_h9) rfl rfl (by decide)) (Ends.mono vc ?_)
          rintro _ h37 ⟨r38, rfl, hs_h37, vc⟩
          exact e_retI (show pAt 2 291 = some (291, .ireturn, 1, []) from by decide +kernel) rfl vc
        · refine e_ls (t := 292) (show pAt 2 63 = some (63, .lookupswitch 267 #[(10, 97), (11, 104), (12, 122), (20, 137), (30, 151), (40, 164), (50, 188), (51, 200), (60, 213), (70, 229), (71, 251)], 97, []) from by decide +kernel) (by decide) (ls_off (b := 229) (by simp [Op.lookupswitch.offset, c12, -List.getD_eq_getElem?_getD]) rfl) ?_
          replace vc := vc.2.2.2.2.2.2.2.2.2.2.1 c12
          refine e_aload_n (show pAt 2 292 = some (292, .aload_n 0, 1, []) from by decide +kernel) rfl (ra (by decide)) ?_
          refine e_iconst (c := 1) (show pAt 2 293 = some (293, .iconst 1, 1, []) from by decide +kernel) (by decide) ?_
          refine e_iload (show pAt 2 294 = some (294, .iload 7, 2, []) from by decide +kernel) rfl ?_
          refine e_iload_n (show pAt 2 296 = some (296, .iload_n 3, 1, []) from by decide +kernel) rfl ?_
          refine e_iload (show pAt 2 297 = some (297, .iload 8, 2, []) from by decide +kernel) rfl ?_
          refine Ends.call (show pAt 2 299 = some (299, .invokevirtual 36, 3, [2, 5, 0, 0, 4072, 4059, 50]) from by decide +kernel) (isRet_none rfl) rfl (call_this (show HS h9 from hs_h9) rfl rfl (by decide)) (Ends.mono vc ?_)
          rintro _ h40 ⟨r41, rfl, hs_h40, vc⟩
          refine e_aload_n (show pAt 2 302 = some (302, .aload_n 0, 1, []) from by decide +kernel) rfl (ra (by decide)) ?_
          refine e_iconst (c := 0) (show pAt 2 303 = some (303, .iconst 0, 1, []) from by decide +kernel) (by decide) ?_
          refine e_iload (show pAt 2 304 = some (304, .iload 7, 2, []) from by decide +kernel) rfl ?_
          refine e_iconst (c := 2) (show pAt 2 306 = some (306, .iconst 2, 1, []) from by decide +kernel) (by decide) ?_
          refine e_iload (show pAt 2 307 = some (307, .iload 8, 2, []) from by decide +kernel) rfl ?_
          refine Ends.call (show pAt 2 309 = some (309, .invokevirtual 36, 3, [2, 5, 0, 0, 4072, 4059, 50]) from by decide +kernel) (isRet_none rfl) rfl (call_this (show HS h40 from hs_h40) rfl rfl (by decide)) (Ends.mono vc ?_)
          rintro _ h43 ⟨r44, rfl, hs_h43, vc⟩
          refine e_iadd (show pAt 2 312 = some (312, .iadd, 1, []) from by decide +kernel) ?_
          exact e_retI (show pAt 2 313 = some (313, .ireturn, 1, []) from by decide +kernel) rfl vc
        · refine e_ls (t := 314) (show pAt 2 63 = some (63, .lookupswitch 267 #[(10, 97), (11, 104), (12, 122), (20, 137), (30, 151), (40, 164), (50, 188), (51, 200), (60, 213), (70, 229), (71, 251)], 97, []) from by decide +kernel) (by decide) (ls_off (b := 251) (by simp [Op.lookupswitch.offset, c12, -List.getD_eq_getElem?_getD]) rfl) ?_
          replace vc := vc.2.2.2.2.2.2.2.2.2.2.2 c12
          refine e_aload_n (show pAt 2 314 = some (314, .aload_n 0, 1, []) from by decide +kernel) rfl (ra (by decide)) ?_
          refine e_iconst (c := 0) (show pAt 2 315 = some (315, .iconst 0, 1, []) from by decide +kernel) (by decide) ?_
          refine e_iload (show pAt 2 316 = some (316, .iload 7, 2, []) from by decide +kernel) rfl ?_
          refine e_iload_n (show pAt 2 318 = some (318, .iload_n 3, 1, []) from by decide +kernel) rfl ?_
          refine e_iload (show pAt 2 319 = some (319, .iload 8, 2, []) from by decide +kernel) rfl ?_
          refine Ends.call (show pAt 2 321 = some (321, .invokevirtual 36, 3, [2, 5, 0, 0, 4072, 4059, 50]) from by decide +kernel) (isRet_none rfl) rfl (call_this (show HS h9 from hs_h9) rfl rfl (by decide)) (Ends.mono vc ?_)
          rintro _ h46 ⟨r47, rfl, hs_h46, vc⟩
          refine e_aload_n (show pAt 2 324 = some (324, .aload_n 0, 1, []) from by decide +kernel) rfl (ra (by decide)) ?_
          refine e_gIv (v := h46.2.1 51 2) (show pAt 2 325 = some (325, .getfield 40, 3, [0, 2, 0, 1221]) from by decide +kernel) (show HS h46 from hs_h46) rfl (by decide) rfl ?_
          refine e_ixor (show pAt 2 328 = some (328, .ixor, 1, []) from by decide +kernel) ?_
          exact e_retI (show pAt 2 329 = some (329, .ireturn, 1, []) from by decide +kernel) rfl vc
      · replace vc := vc.2 c6
        refine e_iconst (c := 0) (show pAt 2 26 = some (26, .iconst 0, 1, []) from by decide +kernel) (by decide) ?_
        exact e_retI (show pAt 2 27 = some (27, .ireturn, 1, []) from by decide +kernel) rfl vc

theorem w_cact {X : Scr} {dp : Nat} {h : Hp} {Q : Option Value → Hp → Prop} (p : Int32) (a : Int32) (x : Int32) (hs : HS h)
    (vc : Ends X dp 26 0 [.ref 1, .int p] [] (hpI h 51 4 0) (fun rv h1 => ∃ r2, rv = some (.int r2) ∧ HS h1 ∧ ((condB .eq r2 0 = true → Q (some (.int 0)) h1) ∧ (condB .eq r2 0 = false → ((condB .lt a 0 = true → Q (some (.int 0)) h1) ∧ (condB .lt a 0 = false → ((condB .le a 2 = true → (inB p 7 = true ∧ (inB p 7 = true ∧ Ends X dp 2 0 [.ref 51, .int a, .int (h1.2.1 2 p.toNatClampNeg), .int x, .int 0, .retAddr 0, .retAddr 0, .retAddr 0, .retAddr 0] [] (hpI (hpI (hpI h1 51 0 p) 51 1 (h1.2.1 2 p.toNatClampNeg)) 51 2 (h1.2.1 3 p.toNatClampNeg)) (fun rv h9 => ∃ r10, rv = some (.int r10) ∧ HS h9 ∧ Q (some (.int r10)) h9)))) ∧ (condB .le a 2 = false → Q (some (.int 0)) h1)))))))) :
    Ends X (dp + 1) 91 0 [.ref 0, .int p, .int a, .int x] [] h Q := by
  have ra : ∀ {a : Nat}, a < 1000 → a ≤ OLDB := fun h => by have := OLDB_eq; omega
  refine e_aload_n (show pAt 91 0 = some (0, .aload_n 0, 1, []) from by decide +kernel) rfl (ra (by decide)) ?_
  refine e_gR (show pAt 91 1 = some (1, .getfield 49, 3, [6, 8, 0, 2030]) from by decide +kernel) (show HS h from hs) rfl (by decide) (hs_ref (show HS h from hs) rfl) ?_
  refine e_iconst (c := 0) (show pAt 91 4 = some (4, .iconst 0, 1, []) from by decide +kernel) (by decide) ?_
  refine e_pI (show pAt 91 5 = some (5, .putfield 216, 3, [0, 4, 1, 1226]) from by decide +kernel) (show HS h from hs) (by decide) (Or.inl rfl) ?_
  refine e_aload_n (show pAt 91 8 = some (8, .aload_n 0, 1, []) from by decide +kernel) rfl (ra (by decide)) ?_
  refine e_gR (show pAt 91 9 = some (9, .getfield 12, 3, [6, 0, 0, 2022]) from by decide +kernel) (show HS (hpI h 51 4 0) from hs) rfl (by decide) (hs_ref (show HS (hpI h 51 4 0) from hs) rfl) ?_
  refine e_iload_n (show pAt 91 12 = some (12, .iload_n 1, 1, []) from by decide +kernel) rfl ?_
  refine Ends.call (show pAt 91 13 = some (13, .invokevirtual 71, 3, [26, 2, 0, 1, 2071, 2073, 1]) from by decide +kernel) (isRet_none rfl) rfl (call_this (show HS (hpI h 51 4 0) from hs) rfl rfl (by decide)) (Ends.mono vc ?_)
  rintro _ h1 ⟨r2, rfl, hs_h1, vc⟩
  refine e_if (t := 28) (show pAt 91 16 = some (16, .ifCond .eq 12, 3, []) from by decide +kernel) rfl (fun c4 => ?_) (fun c4 => ?_)
  · replace vc := vc.1 c4
    refine e_iconst (c := 0) (show pAt 91 28 = some (28, .iconst 0, 1, []) from by decide +kernel) (by decide) ?_
    exact e_retI (show pAt 91 29 = some (29, .ireturn, 1, []) from by decide +kernel) rfl vc
  · replace vc := vc.2 c4
    refine e_iload_n (show pAt 91 19 = some (19, .iload_n 2, 1, []) from by decide +kernel) rfl ?_
    refine e_if (t := 28) (show pAt 91 20 = some (20, .ifCond .lt 8, 3, []) from by decide +kernel) rfl (fun c5 => ?_) (fun c5 => ?_)
    · replace vc := vc.1 c5
      refine e_iconst (c := 0) (show pAt 91 28 = some (28, .iconst 0, 1, []) from by decide +kernel) (by decide) ?_
      exact e_retI (show pAt 91 29 = some (29, .ireturn, 1, []) from by decide +kernel) rfl vc
    · replace vc := vc.2 c5
      refine e_iload_n (show pAt 91 23 = some (23, .iload_n 2, 1, []) from by decide +kernel) rfl ?_
      refine e_iconst (c := 2) (show pAt 91 24 = some (24, .iconst 2, 1, []) from by decide +kernel) (by decide) ?_
      refine e_icmp (t := 30) (show pAt 91 25 = some (25, .if_icmp .le 5, 3, []) from by decide +kernel) rfl (fun c6 => ?_) (fun c6 => ?_)
      · replace vc := vc.1 c6
        refine e_aload_n (show pAt 91 30 = some (30, .aload_n 0, 1, []) from by decide +kernel) rfl (ra (by decide)) ?_
        refine e_gR (show pAt 91 31 = some (31, .getfield 49, 3, [6, 8, 0, 2030]) from by decide +kernel) (show HS h1 from hs_h1) rfl (by decide) (hs_ref (show HS h1 from hs_h1) rfl) ?_
        refine e_iload_n (show pAt 91 34 = some (34, .iload_n 1, 1, []) from by decide +kernel) rfl ?_
        refine e_pI (show pAt 91 35 = some (35, .putfield 219, 3, [0, 0, 1, 1218]) from by decide +kernel) (show HS h1 from hs_h1) (by decide) (Or.inl rfl) ?_
        refine e_aload_n (show pAt 91 38 = some (38, .aload_n 0, 1, []) from by decide +kernel) rfl (ra (by decide)) ?_
        refine e_gR (show pAt 91 39 = some (39, .getfield 49, 3, [6, 8, 0, 2030]) from by decide +kernel) (show HS (hpI h1 51 0 p) from hs_h1) rfl (by decide) (hs_ref (show HS (hpI h1 51 0 p) from hs_h1) rfl) ?_
        refine e_aload_n (show pAt 91 42 = some (42, .aload_n 0, 1, []) from by decide +kernel) rfl (ra (by decide)) ?_
        refine e_gR (show pAt 91 43 = some (43, .getfield 12, 3, [6, 0, 0, 2022]) from by decide +kernel) (show HS (hpI h1 51 0 p) from hs_h1) rfl (by decide) (hs_ref (show HS (hpI h1 51 0 p) from hs_h1) rfl) ?_
        refine e_gR (show pAt 91 46 = some (46, .getfield 74, 3, [2, 1, 1, 1035]) from by decide +kernel) (show HS (hpI h1 51 0 p) from hs_h1) rfl (by decide) (hs_ref (show HS (hpI h1 51 0 p) from hs_h1) rfl) ?_
        refine e_iload_n (show pAt 91 49 = some (49, .iload_n 1, 1, []) from by decide +kernel) rfl ?_
        obtain ⟨c7, vc⟩ := vc
        refine e_aldv (v := h1.2.1 2 p.toNatClampNeg) (show pAt 91 50 = some (50, .iaload, 1, []) from by decide +kernel) (show HS (hpI h1 51 0 p) from hs_h1) (by decide) c7 rfl ?_
        refine e_pI (show pAt 91 51 = some (51, .putfield 222, 3, [0, 1, 1, 1220]) from by decide +kernel) (show HS (hpI h1 51 0 p) from hs_h1) (by decide) (Or.inl rfl) ?_
        refine e_aload_n (show pAt 91 54 = some (54, .aload_n 0, 1, []) from by decide +kernel) rfl (ra (by decide)) ?_
        refine e_gR (show pAt 91 55 = some (55, .getfield 49, 3, [6, 8, 0, 2030]) from by decide +kernel) (show HS (hpI (hpI h1 51 0 p) 51 1 (h1.2.1 2 p.toNatClampNeg)) from hs_h1) rfl (by decide) (hs_ref (show HS (hpI (hpI h1 51 0 p) 51 1 (h1.2.1 2 p.toNatClampNeg)) from hs_h1) rfl) ?_
        refine e_aload_n (show pAt 91 58 = some (58, .aload_n 0, 1, []) from by decide +kernel) rfl (ra (by decide)) ?_
        refine e_gR (show pAt 91 59 = some (59, .getfield 12, 3, [6, 0, 0, 2022]) from by decide +kernel) (show HS (hpI (hpI h1 51 0 p) 51 1 (h1.2.1 2 p.toNatClampNeg)) from hs_h1) rfl (by decide) (hs_ref (show HS (hpI (hpI h1 51 0 p) 51 1 (h1.2.1 2 p.toNatClampNeg)) from hs_h1) rfl) ?_
        refine e_gR (show pAt 91 62 = some (62, .getfield 78, 3, [2, 2, 1, 1038]) from by decide +kernel) (show HS (hpI (hpI h1 51 0 p) 51 1 (h1.2.1 2 p.toNatClampNeg)) from hs_h1) rfl (by decide) (hs_ref (show HS (hpI (hpI h1 51 0 p) 51 1 (h1.2.1 2 p.toNatClampNeg)) from hs_h1) rfl) ?_
        refine e_iload_n (show pAt 91 65 = some (65, .iload_n 1, 1, []) from by decide +kernel) rfl ?_
        obtain ⟨c8, vc⟩ := vc
        refine e_aldv (v := h1.2.1 3 p.toNatClampNeg) (show pAt 91 66 = some (66, .iaload, 1, []) from by decide +kernel) (show HS (hpI (hpI h1 51 0 p) 51 1 (h1.2.1 2 p.toNatClampNeg)) from hs_h1) (by decide) c8 rfl ?_
        refine e_pI (show pAt 91 67 = some (67, .putfield 224, 3, [0, 2, 1, 1222]) from by decide +kernel) (show HS (hpI (hpI h1 51 0 p) 51 1 (h1.2.1 2 p.toNatClampNeg)) from hs_h1) (by decide) (Or.inl rfl) ?_
        refine e_aload_n (show pAt 91 70 = some (70, .aload_n 0, 1, []) from by decide +kernel) rfl (ra (by decide)) ?_
        refine e_gR (show pAt 91 71 = some (71, .getfield 49, 3, [6, 8, 0, 2030]) from by decide +kernel) (show HS (hpI (hpI (hpI h1 51 0 p) 51 1 (h1.2.1 2 p.toNatClampNeg)) 51 2 (h1.2.1 3 p.toNatClampNeg)) from hs_h1) rfl (by decide) (hs_ref (show HS (hpI (hpI (hpI h1 51 0 p) 51 1 (h1.2.1 2 p.toNatClampNeg)) 51 2 (h1.2.1 3 p.toNatClampNeg)) from hs_h1) rfl) ?_
        refine e_iload_n (show pAt 91 74 = some (74, .iload_n 2, 1, []) from by decide +kernel) rfl ?_
        refine e_aload_n (show pAt 91 75 = some (75, .aload_n 0, 1, []) from by decide +kernel) rfl (ra (by decide)) ?_
        refine e_gR (show pAt 91 76 = some (76, .getfield 49, 3, [6, 8, 0, 2030]) from by decide +kernel) (show HS (hpI (hpI (hpI h1 51 0 p) 51 1 (h1.2.1 2 p.toNatClampNeg)) 51 2 (h1.2.1 3 p.toNatClampNeg)) from hs_h1) rfl (by decide) (hs_ref (show HS (hpI (hpI (hpI h1 51 0 p) 51 1 (h1.2.1 2 p.toNatClampNeg)) 51 2 (h1.2.1 3 p.toNatClampNeg)) from hs_h1) rfl) ?_
        refine e_gIv (v := h1.2.1 2 p.toNatClampNeg) (show pAt 91 79 = some (79, .getfield 222, 3, [0, 1, 1, 1220]) from by decide +kernel) (show HS (hpI (hpI (hpI h1 51 0 p) 51 1 (h1.2.1 2 p.toNatClampNeg)) 51 2 (h1.2.1 3 p.toNatClampNeg)) from hs_h1) rfl (by decide) rfl ?_
        refine e_iload_n (show pAt 91 82 = some (82, .iload_n 3, 1, []) from by decide +kernel) rfl ?_
        refine e_iconst (c := 0) (show pAt 91 83 = some (83, .iconst 0, 1, []) from by decide +kernel) (by decide) ?_
        refine Ends.call (show pAt 91 84 = some (84, .invokevirtual 226, 3, [2, 5, 0, 1, 4057, 4059, 50]) from by decide +kernel) (isRet_none rfl) rfl (call_this (show HS (hpI (hpI (hpI h1 51 0 p) 51 1 (h1.2.1 2 p.toNatClampNeg)) 51 2 (h1.2.1 3 p.toNatClampNeg)) from hs_h1) rfl rfl (by decide)) (Ends.mono vc ?_)
        rintro _ h9 ⟨r10, rfl, hs_h9, vc⟩
        exact e_retI (show pAt 91 87 = some (87, .ireturn, 1, []) from by decide +kernel) rfl vc
      · replace vc := vc.2 c6
        refine e_iconst (c := 0) (show pAt 91 28 = some (28, .iconst 0, 1, []) from by decide +kernel) (by decide) ?_
        exact e_retI (show pAt 91 29 = some (29, .ireturn, 1, []) from by decide +kernel) rfl vc

theorem w_mact {X : Scr} {dp : Nat} {h : Hp} {Q : Option Value → Hp → Prop} (p : Int32) (a : Int32) (x : Int32) (hs : HS h)
    (vc : Ends X dp 112 0 [.ref 93, .int p] [] (hpI h 93 58 0) (fun rv h1 => ∃ r2, rv = some (.int r2) ∧ HS h1 ∧ ((condB .eq r2 0 = true → Q (some (.int 0)) h1) ∧ (condB .eq r2 0 = false → Ends X dp 109 0 [.ref 93, .int a, .int 0, .int 2] [] h1 (fun rv h5 => ∃ r6, rv = some (.int r6) ∧ HS h5 ∧ ((condB .ne r6 0 = true → ((condB .ne a 0 = true → ((condB .ne a 1 = true → Ends X dp 193 0 [.ref 93, .int p, .int x, .retAddr 0] [] h5 (fun rv h11 => ∃ r12, rv = some (.int r12) ∧ HS h11 ∧ Q (some (.int r12)) h11)) ∧ (condB .ne a 1 = false → Ends X dp 191 0 [.ref 93, .int p, .int x, .retAddr 0] [] h5 (fun rv h14 => ∃ r15, rv = some (.int r15) ∧ HS h14 ∧ Q (some (.int r15)) h14)))) ∧ (condB .ne a 0 = false → Ends X dp 188 0 [.ref 93, .int p, .int x] [] h5 (fun rv h17 => ∃ r18, rv = some (.int r18) ∧ HS h17 ∧ Q (some (.int r18)) h17)))) ∧ (condB .ne r6 0 = false → Q (some (.int 0)) h5))))))) :
    Ends X (dp + 1) 194 0 [.ref 93, .int p, .int a, .int x] [] h Q := by
  have ra : ∀ {a : Nat}, a < 1000 → a ≤ OLDB := fun h => by have := OLDB_eq; omega
  refine e_aload_n (show pAt 194 0 = some (0, .aload_n 0, 1, []) from by decide +kernel) rfl (ra (by decide)) ?_
  refine e_iconst (c := 0) (show pAt 194 1 = some (1, .iconst 0, 1, []) from by decide +kernel) (by decide) ?_
  refine e_pI (show pAt 194 2 = some (2, .putfield 187, 3, [7, 58, 0, 4181]) from by decide +kernel) (show HS h from hs) (by decide) (Or.inl rfl) ?_
  refine e_aload_n (show pAt 194 5 = some (5, .aload_n 0, 1, []) from by decide +kernel) rfl (ra (by decide)) ?_
  refine e_iload_n (show pAt 194 6 = some (6, .iload_n 1, 1, []) from by decide +kernel) rfl ?_
  refine Ends.call (show pAt 194 7 = some (7, .invokevirtual 210, 3, [112, 2, 0, 0, 5089, 5091, 55]) from by decide +kernel) (isRet_none rfl) rfl (call_this (show HS (hpI h 93 58 0) from hs) rfl rfl (by decide)) (Ends.mono vc ?_)
  rintro _ h1 ⟨r2, rfl, hs_h1, vc⟩
  refine e_if (t := 23) (show pAt 194 10 = some (10, .ifCond .eq 13, 3, []) from by decide +kernel) rfl (fun c4 => ?_) (fun c4 => ?_)
  · replace vc := vc.1 c4
    refine e_iconst (c := 0) (show pAt 194 23 = some (23, .iconst 0, 1, []) from by decide +kernel) (by decide) ?_
    exact e_retI (show pAt 194 24 = some (24, .ireturn, 1, []) from by decide +kernel) rfl vc
  · replace vc := vc.2 c4
    refine e_aload_n (show pAt 194 13 = some (13, .aload_n 0, 1, []) from by decide +kernel) rfl (ra (by decide)) ?_
    refine e_iload_n (show pAt 194 14 = some (14, .iload_n 2, 1, []) from by decide +kernel) rfl ?_
    refine e_iconst (c := 0) (show pAt 194 15 = some (15, .iconst 0, 1, []) from by decide +kernel) (by decide) ?_
    refine e_iconst (c := 2) (show pAt 194 16 = some (16, .iconst 2, 1, []) from by decide +kernel) (by decide) ?_
    refine Ends.call (show pAt 194 17 = some (17, .invokevirtual 206, 3, [109, 4, 0, 0, 5081, 5083, 54]) from by decide +kernel) (isRet_none rfl) rfl (call_this (show HS h1 from hs_h1) rfl rfl (by decide)) (Ends.mono vc ?_)
    rintro _ h5 ⟨r6, rfl, hs_h5, vc⟩
    refine e_if (t := 25) (show pAt 194 20 = some (20, .ifCond .ne 5, 3, []) from by decide +kernel) rfl (fun c8 => ?_) (fun c8 => ?_)
    · replace vc := vc.1 c8
      refine e_iload_n (show pAt 194 25 = some (25, .iload_n 2, 1, []) from by decide +kernel) rfl ?_
      refine e_if (t := 38) (show pAt 194 26 = some (26, .ifCond .ne 12, 3, []) from by decide +kernel) rfl (fun c9 => ?_) (fun c9 => ?_)
      · replace vc := vc.1 c9
        refine e_iload_n (show pAt 194 38 = some (38, .iload_n 2, 1, []) from by decide +kernel) rfl ?_
        refine e_iconst (c := 1) (show pAt 194 39 = some (39, .iconst 1, 1, []) from by decide +kernel) (by decide) ?_
        refine e_icmp (t := 52) (show pAt 194 40 = some (40, .if_icmp .ne 12, 3, []) from by decide +kernel) rfl (fun c10 => ?_) (fun c10 => ?_)
        · replace vc := vc.1 c10
          refine e_aload_n (show pAt 194 52 = some (52, .aload_n 0, 1, []) from by decide +kernel) rfl (ra (by decide)) ?_
          refine e_iload_n (show pAt 194 53 = some (53, .iload_n 1, 1, []) from by decide +kernel) rfl ?_
          refine e_iload_n (show pAt 194 54 = some (54, .iload_n 3, 1, []) from by decide +kernel) rfl ?_
          refine Ends.call (show pAt 194 55 = some (55, .invokevirtual 390, 3, [193, 3, 0, 0, 6178, 6180, 110]) from by decide +kernel) (isRet_none rfl) rfl (call_this (show HS h5 from hs_h5) rfl rfl (by decide)) (Ends.mono vc ?_)
          rintro _ h11 ⟨r12, rfl, hs_h11, vc⟩
          exact e_retI (show pAt 194 58 = some (58, .ireturn, 1, []) from by decide +kernel) rfl vc
        · replace vc := vc.2 c10
          refine e_aload_n (show pAt 194 43 = some (43, .aload_n 0, 1, []) from by decide +kernel) rfl (ra (by decide)) ?_
          refine e_iload_n (show pAt 194 44 = some (44, .iload_n 1, 1, []) from by decide +kernel) rfl ?_
          refine e_iload_n (show pAt 194 45 = some (45, .iload_n 3, 1, []) from by decide +kernel) rfl ?_
          refine Ends.call (show pAt 194 46 = some (46, .invokevirtual 384, 3, [191, 3, 0, 0, 6166, 6168, 107]) from by decide +kernel) (isRet_none rfl) rfl (call_this (show HS h5 from hs_h5) rfl rfl (by decide)) (Ends.mono vc ?_)
          rintro _ h14 ⟨r15, rfl, hs_h14, vc⟩
          refine e_goto (t := 58) (show pAt 194 49 = some (49, .goto 9, 3, []) from by decide +kernel) rfl ?_
          exact e_retI (show pAt 194 58 = some (58, .ireturn, 1, []) from by decide +kernel) rfl vc
      · replace vc := vc.2 c9
        refine e_aload_n (show pAt 194 29 = some (29, .aload_n 0, 1, []) from by decide +kernel) rfl (ra (by decide)) ?_
        refine e_iload_n (show pAt 194 30 = some (30, .iload_n 1, 1, []) from by decide +kernel) rfl ?_
        refine e_iload_n (show pAt 194 31 = some (31, .iload_n 3, 1, []) from by decide +kernel) rfl ?_
        refine Ends.call (show pAt 194 32 = some (32, .invokevirtual 375, 3, [188, 3, 0, 0, 6154, 6156, 104]) from by decide +kernel) (isRet_none rfl) rfl (call_this (show HS h5 from hs_h5) rfl rfl (by decide)) (Ends.mono vc ?_)
        rintro _ h17 ⟨r18, rfl, hs_h17, vc⟩
        refine e_goto (t := 58) (show pAt 194 35 = some (35, .goto 23, 3, []) from by decide +kernel) rfl ?_
        exact e_retI (show pAt 194 58 = some (58, .ireturn, 1, []) from by decide +kernel) rfl vc
    · replace vc := vc.2 c8
      refine e_iconst (c := 0) (show pAt 194 23 = some (23, .iconst 0, 1, []) from by decide +kernel) (by decide) ?_
      exact e_retI (show pAt 194 24 = some (24, .ireturn, 1, []) from by decide +kernel) rfl vc

theorem w_rr {X : Scr} {dp : Nat} {h : Hp} {Q : Option Value → Hp → Prop} (p : Int32) (x : Int32) (hs : HS h)
    (vc : Ends X dp 186 0 [.ref 93, .int 10] [] h (fun rv h1 => rv = none ∧ HS h1 ∧ Q (some (.int (x + p))) h1)) :
    Ends X (dp + 1) 187 0 [.ref 93, .int p, .int x] [] h Q := by
  have ra : ∀ {a : Nat}, a < 1000 → a ≤ OLDB := fun h => by have := OLDB_eq; omega
  refine e_aload_n (show pAt 187 0 = some (0, .aload_n 0, 1, []) from by decide +kernel) rfl (ra (by decide)) ?_
  refine e_bipush (c := 10) (show pAt 187 1 = some (1, .bipush 10, 2, []) from by decide +kernel) (by decide) ?_
  refine Ends.call (show pAt 187 3 = some (3, .invokevirtual 369, 3, [186, 2, 0, 0, 6158, 6160, 105]) from by decide +kernel) (isRet_none rfl) rfl (call_this (show HS h from hs) rfl rfl (by decide)) (Ends.mono vc ?_)
  rintro _ h1 ⟨rfl, hs_h1, vc⟩
  refine e_iload_n (show pAt 187 6 = some (6, .iload_n 2, 1, []) from by decide +kernel) rfl ?_
  refine e_iload_n (show pAt 187 7 = some (7, .iload_n 1, 1, []) from by decide +kernel) rfl ?_
  refine e_iadd (show pAt 187 8 = some (8, .iadd, 1, []) from by decide +kernel) ?_
  exact e_retI (show pAt 187 9 = some (9, .ireturn, 1, []) from by decide +kernel) rfl vc

theorem w_ra {X : Scr} {dp : Nat} {h : Hp} {Q : Option Value → Hp → Prop} (p : Int32) (x : Int32) (hs : HS h)
    (vc : (inB p 7 = true ∧ ((((h.2.1 94 p.toNatClampNeg).toInt < 2 ∨ 6 < (h.2.1 94 p.toNatClampNeg).toInt) → Ends X dp 187 0 [.ref 93, .int p, .int x] [] h (fun rv h4 => ∃ r5, rv = some (.int r5) ∧ HS h4 ∧ Q (some (.int r5)) h4)) ∧ ((h.2.1 94 p.toNatClampNeg).toInt = 2 → Ends X dp 186 0 [.ref 93, .int 30] [] h (fun rv h7 => rv = none ∧ HS h7 ∧ Ends X dp 187 0 [.ref 93, .int p, .int (x * 3)] [] h7 (fun rv h10 => ∃ r11, rv = some (.int r11) ∧ HS h10 ∧ Q (some (.int r11)) h10))) ∧ ((h.2.1 94 p.toNatClampNeg).toInt = 3 → Ends X dp 187 0 [.ref 93, .int p, .int x] [] h (fun rv h13 => ∃ r14, rv = some (.int r14) ∧ HS h13 ∧ Q (some (.int r14)) h13)) ∧ ((h.2.1 94 p.toNatClampNeg).toInt = 4 → Ends X dp 186 0 [.ref 93, .int 50] [] h (fun rv h16 => rv = none ∧ HS h16 ∧ Ends X dp 187 0 [.ref 93, .int p, .int x] [] h16 (fun rv h19 => ∃ r20, rv = some (.int r20) ∧ HS h19 ∧ Q (some (.int (-r20))) h19))) ∧ ((h.2.1 94 p.toNatClampNeg).toInt = 5 → Ends X dp 186 0 [.ref 93, .int 30] [] h (fun rv h22 => rv = none ∧ HS h22 ∧ Ends X dp 187 0 [.ref 93, .int p, .int (x * 3)] [] h22 (fun rv h25 => ∃ r26, rv = some (.int r26) ∧ HS h25 ∧ Q (some (.int r26)) h25))) ∧ ((h.2.1 94 p.toNatClampNeg).toInt = 6 → Ends X dp 186 0 [.ref 93, .int 71] [] h (fun rv h28 => rv = none ∧ HS h28 ∧ Ends X dp 187 0 [.ref 93, .int p, .int x] [] h28 (fun rv h31 => ∃ r32, rv = some (.int r32) ∧ HS h31 ∧ (inB p 7 = true ∧ Q (some (.int (r32 ^^^ (h31.2.1 95 p.toNatClampNeg)))) h31))))))) :
    Ends X (dp + 1) 188 0 [.ref 93, .int p, .int x] [] h Q := by
  have ra : ∀ {a : Nat}, a < 1000 → a ≤ OLDB := fun h => by have := OLDB_eq; omega
  refine e_aload_n (show pAt 188 0 = some (0, .aload_n 0, 1, []) from by decide +kernel) rfl (ra (by decide)) ?_
  refine e_gR (show pAt 188 1 = some (1, .getfield 19, 3, [7, 3, 0, 4126]) from by decide +kernel) (show HS h from hs) rfl (by decide) (hs_ref (show HS h from hs) rfl) ?_
  refine e_iload_n (show pAt 188 4 = some (4, .iload_n 1, 1, []) from by decide +kernel) rfl ?_
  obtain ⟨c1, vc⟩ := vc
  refine e_aldv (v := h.2.1 94 p.toNatClampNeg) (show pAt 188 5 = some (5, .iaload, 1, []) from by decide +kernel) (show HS h from hs) (by decide) c1 rfl ?_
  rcases (show ((h.2.1 94 p.toNatClampNeg).toInt < 2 ∨ 6 < (h.2.1 94 p.toNatClampNeg).toInt) ∨ (h.2.1 94 p.toNatClampNeg).toInt = 2 ∨ (h.2.1 94 p.toNatClampNeg).toInt = 3 ∨ (h.2.1 94 p.toNatClampNeg).toInt = 4 ∨ (h.2.1 94 p.toNatClampNeg).toInt = 5 ∨ (h.2.1 94 p.toNatClampNeg).toInt = 6 from by omega) with c2 | c2 | c2 | c2 | c2 | c2
  · refine e_tsd (t := 89) (show pAt 188 6 = some (6, .tableswitch 83 2 6 #[34, 83, 49, 34, 63], 34, []) from by decide +kernel) c2 rfl ?_
    replace vc := vc.1 c2
    refine e_aload_n (show pAt 188 89 = some (89, .aload_n 0, 1, []) from by decide +kernel) rfl (ra (by decide)) ?_
    refine e_iload_n (show pAt 188 90 = some (90, .iload_n 1, 1, []) from by decide +kernel) rfl ?_
    refine e_iload_n (show pAt 188 91 = some (91, .iload_n 2, 1, []) from by decide +kernel) rfl ?_
    refine Ends.call (show pAt 188 92 = some (92, .invokevirtual 372, 3, [187, 3, 0, 0, 6162, 6164, 106]) from by decide +kernel) (isRet_none rfl) rfl (call_this (show HS h from hs) rfl rfl (by decide)) (Ends.mono vc ?_)
    rintro _ h4 ⟨r5, rfl, hs_h4, vc⟩
    exact e_retI (show pAt 188 95 = some (95, .ireturn, 1, []) from by decide +kernel) rfl vc
  · refine e_tsc (t := 40) 0 (show pAt 188 6 = some (6, .tableswitch 83 2 6 #[34, 83, 49, 34, 63], 34, []) from by decide +kernel) (by omega) (by omega) rfl rfl ?_
    replace vc := vc.2.1 c2
    refine e_aload_n (show pAt 188 40 = some (40, .aload_n 0, 1, []) from by decide +kernel) rfl (ra (by decide)) ?_
    refine e_bipush (c := 30) (show pAt 188 41 = some (41, .bipush 30, 2, []) from by decide +kernel) (by decide) ?_
    refine Ends.call (show pAt 188 43 = some (43, .invokevirtual 369, 3, [186, 2, 0, 0, 6158, 6160, 105]) from by decide +kernel) (isRet_none rfl) rfl (call_this (show HS h from hs) rfl rfl (by decide)) (Ends.mono vc ?_)
    rintro _ h7 ⟨rfl, hs_h7, vc⟩
    refine e_aload_n (show pAt 188 46 = some (46, .aload_n 0, 1, []) from by decide +kernel) rfl (ra (by decide)) ?_
    refine e_iload_n (show pAt 188 47 = some (47, .iload_n 1, 1, []) from by decide +kernel) rfl ?_
    refine e_iload_n (show pAt 188 48 = some (48, .iload_n 2, 1, []) from by decide +kernel) rfl ?_
    refine e_iconst (c := 3) (show pAt 188 49 = some (49, .iconst 3, 1, []) from by decide +kernel) (by decide) ?_
    refine e_imul (show pAt 188 50 = some (50, .imul, 1, []) from by decide +kernel) ?_
    refine Ends.call (show pAt 188 51 = some (51, .invokevirtual 372, 3, [187, 3, 0, 0, 6162, 6164, 106]) from by decide +kernel) (isRet_none rfl) rfl (call_this (show HS h7 from hs_h7) rfl rfl (by decide)) (Ends.mono vc ?_)
    rintro _ h10 ⟨r11, rfl, hs_h10, vc⟩
    exact e_retI (show pAt 188 54 = some (54, .ireturn, 1, []) from by decide +kernel) rfl vc
  · refine e_tsc (t := 89) 1 (show pAt 188 6 = some (6, .tableswitch 83 2 6 #[34, 83, 49, 34, 63], 34, []) from by decide +kernel) (by omega) (by omega) rfl rfl ?_
    replace vc := vc.2.2.1 c2
    refine e_aload_n (show pAt 188 89 = some (89, .aload_n 0, 1, []) from by decide +kernel) rfl (ra (by decide)) ?_
    refine e_iload_n (show pAt 188 90 = some (90, .iload_n 1, 1, []) from by decide +kernel) rfl ?_
    refine e_iload_n (show pAt 188 91 = some (91, .iload_n 2, 1, []) from by decide +kernel) rfl ?_
    refine Ends.call (show pAt 188 92 = some (92, .invokevirtual 372, 3, [187, 3, 0, 0, 6162, 6164, 106]) from by decide +kernel) (isRet_none rfl) rfl (call_this (show HS h from hs) rfl rfl (by decide)) (Ends.mono vc ?_)
    rintro _ h13 ⟨r14, rfl, hs_h13, vc⟩
    exact e_retI (show pAt 188 95 = some (95, .ireturn, 1, []) from by decide +kernel) rfl vc
  · refine e_tsc (t := 55) 2 (show pAt 188 6 = some (6, .tableswitch 83 2 6 #[34, 83, 49, 34, 63], 34, []) from by decide +kernel) (by omega) (by omega) rfl rfl ?_
    replace vc := vc.2.2.2.1 c2
    refine e_aload_n (show pAt 188 55 = some (55, .aload_n 0, 1, []) from by decide +kernel) rfl (ra (by decide)) ?_
    refine e_bipush (c := 50) (show pAt 188 56 = some (56, .bipush 50, 2, []) from by decide +kernel) (by decide) ?_
    refine Ends.call (show pAt 188 58 = some (58, .invokevirtual 369, 3, [186, 2, 0, 0, 6158, 6160, 105]) from by decide +kernel) (isRet_none rfl) rfl (call_this (show HS h from hs) rfl rfl (by decide)) (Ends.mono vc ?_)
    rintro _ h16 ⟨rfl, hs_h16, vc⟩
    refine e_aload_n (show pAt 188 61 = some (61, .aload_n 0, 1, []) from by decide +kernel) rfl (ra (by decide)) ?_
    refine e_iload_n (show pAt 188 62 = some (62, .iload_n 1, 1, []) from by decide +kernel) rfl ?_
    refine e_iload_n (show pAt 188 63 = some (63, .iload_n 2, 1, []) from by decide +kernel) rfl ?_
    refine Ends.call (show pAt 188 64 = some (64, .invokevirtual 372, 3, [187, 3, 0, 0, 6162, 6164, 106]) from by decide +kernel) (isRet_none rfl) rfl (call_this (show HS h16 from hs_h16) rfl rfl (by decide)) (Ends.mono vc ?_)
    rintro _ h19 ⟨r20, rfl, hs_h19, vc⟩
    refine e_ineg (show pAt 188 67 = some (67, .ineg, 1, []) from by decide +kernel) ?_
    exact e_retI (show pAt 188 68 = some (68, .ireturn, 1, []) from by decide +kernel) rfl vc
  · refine e_tsc (t := 40) 3 (show pAt 188 6 = some (6, .tableswitch 83 2 6 #[34, 83, 49, 34, 63], 34, []) from by decide +kernel) (by omega) (by omega) rfl rfl ?_
    replace vc := vc.2.2.2.2.1 c2
    refine e_aload_n (show pAt 188 40 = some (40, .aload_n 0, 1, []) from by decide +kernel) rfl (ra (by decide)) ?_
    refine e_bipush (c := 30) (show pAt 188 41 = some (41, .bipush 30, 2, []) from by decide +kernel) (by decide) ?_
    refine Ends.call (show pAt 188 43 = some (43, .invokevirtual 369, 3, [186, 2, 0, 0, 6158, 6160, 105]) from by decide +kernel) (isRet_none rfl) rfl (call_this (show HS h from hs) rfl rfl (by decide)) (Ends.mono vc ?_)
    rintro _ h22 ⟨rfl, hs_h22, vc⟩
    refine e_aload_n (show pAt 188 46 = some (46, .aload_n 0, 1, []) from by decide +kernel) rfl (ra (by decide)) ?_
    refine e_iload_n (show pAt 188 47 = some (47, .iload_n 1, 1, []) from by decide +kernel) rfl ?_
    refine e_iload_n (show pAt 188 48 = some (48, .iload_n 2, 1, []) from by decide +kernel) rfl ?_
    refine e_iconst (c := 3) (show pAt 188 49 = some (49, .iconst 3, 1, []) from by decide +kernel) (by decide) ?_
    refine e_imul (show pAt 188 50 = some (50, .imul, 1, []) from by decide +kernel) ?_
    refine Ends.call (show pAt 188 51 = some (51, .invokevirtual 372, 3, [187, 3, 0, 0, 6162, 6164, 106]) from by decide +kernel) (isRet_none rfl) rfl (call_this (show HS h22 from hs_h22) rfl rfl (by decide)) (Ends.mono vc ?_)
    rintro _ h25 ⟨r26, rfl, hs_h25, vc⟩
    exact e_retI (show pAt 188 54 = some (54, .ireturn, 1, []) from by decide +kernel) rfl vc
  · refine e_tsc (t := 69) 4 (show pAt 188 6 = some (6, .tableswitch 83 2 6 #[34, 83, 49, 34, 63], 34, []) from by decide +kernel) (by omega) (by omega) rfl rfl ?_
    replace vc := vc.2.2.2.2.2 c2
    refine e_aload_n (show pAt 188 69 = some (69, .aload_n 0, 1, []) from by decide +kernel) rfl (ra (by decide)) ?_
    refine e_bipush (c := 71) (show pAt 188 70 = some (70, .bipush 71, 2, []) from by decide +kernel) (by decide) ?_
    refine Ends.call (show pAt 188 72 = some (72, .invokevirtual 369, 3, [186, 2, 0, 0, 6158, 6160, 105]) from by decide +kernel) (isRet_none rfl) rfl (call_this (show HS h from hs) rfl rfl (by decide)) (Ends.mono vc ?_)
    rintro _ h28 ⟨rfl, hs_h28, vc⟩
    refine e_aload_n (show pAt 188 75 = some (75, .aload_n 0, 1, []) from by decide +kernel) rfl (ra (by decide)) ?_
    refine e_iload_n (show pAt 188 76 = some (76, .iload_n 1, 1, []) from by decide +kernel) rfl ?_
    refine e_iload_n (show pAt 188 77 = some (77, .iload_n 2, 1, []) from by decide +kernel) rfl ?_
    refine Ends.call (show pAt 188 78 = some (78, .invokevirtual 372, 3, [187, 3, 0, 0, 6162, 6164, 106]) from by decide +kernel) (isRet_none rfl) rfl (call_this (show HS h28 from hs_h28) rfl rfl (by decide)) (Ends.mono vc ?_)
    rintro _ h31 ⟨r32, rfl, hs_h31, vc⟩
    refine e_aload_n (show pAt 188 81 = some (81, .aload_n 0, 1, []) from by decide +kernel) rfl (ra (by decide)) ?_
    refine e_gR (show pAt 188 82 = some (82, .getfield 23, 3, [7, 4, 0, 4127]) from by decide +kernel) (show HS h31 from hs_h31) rfl (by decide) (hs_ref (show HS h31 from hs_h31) rfl) ?_
    refine e_iload_n (show pAt 188 85 = some (85, .iload_n 1, 1, []) from by decide +kernel) rfl ?_
    obtain ⟨c34, vc⟩ := vc
    refine e_aldv (v := h31.2.1 95 p.toNatClampNeg) (show pAt 188 86 = some (86, .iaload, 1, []) from by decide +kernel) (show HS h31 from hs_h31) (by decide) c34 rfl ?_
    refine e_ixor (show pAt 188 87 = some (87, .ixor, 1, []) from by decide +kernel) ?_
    exact e_retI (show pAt 188 88 = some (88, .ireturn, 1, []) from by decide +kernel) rfl vc

theorem w_rh {X : Scr} {dp : Nat} {h : Hp} {Q : Option Value → Hp → Prop} (p : Int32) (x : Int32) (hs : HS h)
    (vc : Ends X dp 186 0 [.ref 93, .int 11] [] h (fun rv h1 => rv = none ∧ HS h1 ∧ Ends X dp 188 0 [.ref 93, .int p, .int x] [] h1 (fun rv h4 => ∃ r5, rv = some (.int r5) ∧ HS h4 ∧ (inB p 7 = true ∧ Q (some (.int (r5 - (h4.2.1 95 p.toNatClampNeg)))) h4)))) :
    Ends X (dp + 1) 189 0 [.ref 93, .int p, .int x] [] h Q := by
  have ra : ∀ {a : Nat}, a < 1000 → a ≤ OLDB := fun h => by have := OLDB_eq; omega
  refine e_aload_n (show pAt 189 0 = some (0, .aload_n 0, 1, []) from by decide +kernel) rfl (ra (by decide)) ?_
  refine e_bipush (c := 11) (show pAt 189 1 = some (1, .bipush 11, 2, []) from by decide +kernel) (by decide) ?_
  refine Ends.call (show pAt 189 3 = some (3, .invokevirtual 369, 3, [186, 2, 0, 0, 6158, 6160, 105]) from by decide +kernel) (isRet_none rfl) rfl (call_this (show HS h from hs) rfl rfl (by decide)) (Ends.mono vc ?_)
  rintro _ h1 ⟨rfl, hs_h1, vc⟩
  refine e_aload_n (show pAt 189 6 = some (6, .aload_n 0, 1, []) from by decide +kernel) rfl (ra (by decide)) ?_
  refine e_iload_n (show pAt 189 7 = some (7, .iload_n 1, 1, []) from by decide +kernel) rfl ?_
  refine e_iload_n (show pAt 189 8 = some (8, .iload_n 2, 1, []) from by decide +kernel) rfl ?_
  refine Ends.call (show pAt 189 9 = some (9, .invokevirtual 375, 3, [188, 3, 0, 0, 6154, 6156, 104]) from by decide +kernel) (isRet_none rfl) rfl (call_this (show HS h1 from hs_h1) rfl rfl (by decide)) (Ends.mono vc ?_)
  rintro _ h4 ⟨r5, rfl, hs_h4, vc⟩
  refine e_aload_n (show pAt 189 12 = some (12, .aload_n 0, 1, []) from by decide +kernel) rfl (ra (by decide)) ?_
  refine e_gR (show pAt 189 13 = some (13, .getfield 23, 3, [7, 4, 0, 4127]) from by decide +kernel) (show HS h4 from hs_h4) rfl (by decide) (hs_ref (show HS h4 from hs_h4) rfl) ?_
  refine e_iload_n (show pAt 189 16 = some (16, .iload_n 1, 1, []) from by decide +kernel) rfl ?_
  obtain ⟨c7, vc⟩ := vc
  refine e_aldv (v := h4.2.1 95 p.toNatClampNeg) (show pAt 189 17 = some (17, .iaload, 1, []) from by decide +kernel) (show HS h4 from hs_h4) (by decide) c7 rfl ?_
  refine e_isub (show pAt 189 18 = some (18, .isub, 1, []) from by decide +kernel) ?_
  exact e_retI (show pAt 189 19 = some (19, .ireturn, 1, []) from by decide +kernel) rfl vc

theorem w_eh {X : Scr} {dp : Nat} {h : Hp} {Q : Option Value → Hp → Prop} (p : Int32) (x : Int32) (hs : HS h)
    (vc : Ends X dp 186 0 [.ref 93, .int 20] [] h (fun rv h1 => rv = none ∧ HS h1 ∧ Ends X dp 189 0 [.ref 93, .int p, .int x] [] h1 (fun rv h4 => ∃ r5, rv = some (.int r5) ∧ HS h4 ∧ Q (some (.int (r5 ^^^ 6))) h4))) :
    Ends X (dp + 1) 190 0 [.ref 93, .int p, .int x] [] h Q := by
  have ra : ∀ {a : Nat}, a < 1000 → a ≤ OLDB := fun h => by have := OLDB_eq; omega
  refine e_aload_n (show pAt 190 0 = some (0, .aload_n 0, 1, []) from by decide +kernel) rfl (ra (by decide)) ?_
  refine e_bipush (c := 20) (show pAt 190 1 = some (1, .bipush 20, 2, []) from by decide +kernel) (by decide) ?_
  refine Ends.call (show pAt 190 3 = some (3, .invokevirtual 369, 3, [186, 2, 0, 0, 6158, 6160, 105]) from by decide +kernel) (isRet_none rfl) rfl (call_this (show HS h from hs) rfl rfl (by decide)) (Ends.mono vc ?_)
  rintro _ h1 ⟨rfl, hs_h1, vc⟩
  refine e_aload_n (show pAt 190 6 = some (6, .aload_n 0, 1, []) from by decide +kernel) rfl (ra (by decide)) ?_
  refine e_iload_n (show pAt 190 7 = some (7, .iload_n 1, 1, []) from by decide +kernel) rfl ?_
  refine e_iload_n (show pAt 190 8 = some (8, .iload_n 2, 1, []) from by decide +kernel) rfl ?_
  refine Ends.call (show pAt 190 9 = some (9, .invokevirtual 378, 3, [189, 3, 0, 0, 6174, 6176, 109]) from by decide +kernel) (isRet_none rfl) rfl (call_this (show HS h1 from hs_h1) rfl rfl (by decide)) (Ends.mono vc ?_)
  rintro _ h4 ⟨r5, rfl, hs_h4, vc⟩
  refine e_bipush (c := 6) (show pAt 190 12 = some (12, .bipush 6, 2, []) from by decide +kernel) (by decide) ?_
  refine e_ixor (show pAt 190 14 = some (14, .ixor, 1, []) from by decide +kernel) ?_
  exact e_retI (show pAt 190 15 = some (15, .ireturn, 1, []) from by decide +kernel) rfl vc

theorem w_ha {X : Scr} {dp : Nat} {h : Hp} {Q : Option Value → Hp → Prop} (p : Int32) (x : Int32) (hs : HS h)
    (vc : (inB p 7 = true ∧ (((¬ (1 : Int) = (h.2.1 94 p.toNatClampNeg).toInt ∧ ¬ (4 : Int) = (h.2.1 94 p.toNatClampNeg).toInt ∧ ¬ (6 : Int) = (h.2.1 94 p.toNatClampNeg).toInt) → Ends X dp 189 0 [.ref 93, .int p, .int x] [] h (fun rv h3 => ∃ r4, rv = some (.int r4) ∧ HS h3 ∧ Q (some (.int r4)) h3)) ∧ ((h.2.1 94 p.toNatClampNeg).toInt = 1 → Ends X dp 190 0 [.ref 93, .int p, .int x] [] h (fun rv h6 => ∃ r7, rv = some (.int r7) ∧ HS h6 ∧ Q (some (.int r7)) h6)) ∧ ((h.2.1 94 p.toNatClampNeg).toInt = 4 → Ends X dp 186 0 [.ref 93, .int 51] [] h (fun rv h9 => rv = none ∧ HS h9 ∧ Ends X dp 190 0 [.ref 93, .int p, .int (x + 1)] [] h9 (fun rv h12 => ∃ r13, rv = some (.int r13) ∧ HS h12 ∧ Q (some (.int r13)) h12))) ∧ ((h.2.1 94 p.toNatClampNeg).toInt = 6 → Ends X dp 186 0 [.ref 93, .int 70] [] h (fun rv h15 => rv = none ∧ HS h15 ∧ Ends X dp 189 0 [.ref 93, .int p, .int x] [] h15 (fun rv h18 => ∃ r19, rv = some (.int r19) ∧ HS h18 ∧ Ends X dp 187 0 [.ref 93, .int p, .int 2] [] h18 (fun rv h21 => ∃ r22, rv = some (.int r22) ∧ HS h21 ∧ Q (some (.int (r19 + r22))) h21))))))) :
    Ends X (dp + 1) 191 0 [.ref 93, .int p, .int x, .retAddr 0] [] h Q := by
  have ra : ∀ {a : Nat}, a < 1000 → a ≤ OLDB := fun h => by have := OLDB_eq; omega
  refine e_aload_n (show pAt 191 0 = some (0, .aload_n 0, 1, []) from by decide +kernel) rfl (ra (by decide)) ?_
  refine e_gR (show pAt 191 1 = some (1, .getfield 19, 3, [7, 3, 0, 4126]) from by decide +kernel) (show HS h from hs) rfl (by decide) (hs_ref (show HS h from hs) rfl) ?_
  refine e_iload_n (show pAt 191 4 = some (4, .iload_n 1, 1, []) from by decide +kernel) rfl ?_
  obtain ⟨c1, vc⟩ := vc
  refine e_aldv (v := h.2.1 94 p.toNatClampNeg) (show pAt 191 5 = some (5, .iaload, 1, []) from by decide +kernel) (show HS h from hs) (by decide) c1 rfl ?_
  rcases (show (¬ (1 : Int) = (h.2.1 94 p.toNatClampNeg).toInt ∧ ¬ (4 : Int) = (h.2.1 94 p.toNatClampNeg).toInt ∧ ¬ (6 : Int) = (h.2.1 94 p.toNatClampNeg).toInt) ∨ (h.2.1 94 p.toNatClampNeg).toInt = 1 ∨ (h.2.1 94 p.toNatClampNeg).toInt = 4 ∨ (h.2.1 94 p.toNatClampNeg).toInt = 6 from by omega) with c2 | c2 | c2 | c2
  · refine e_ls (t := 84) (show pAt 191 6 = some (6, .lookupswitch 78 #[(1, 34), (4, 41), (6, 56)], 34, []) from by decide +kernel) (by decide) (ls_off (b := 78) (by simp [Op.lookupswitch.offset, c2, -List.getD_eq_getElem?_getD]) rfl) ?_
    replace vc := vc.1 c2
    refine e_aload_n (show pAt 191 84 = some (84, .aload_n 0, 1, []) from by decide +kernel) rfl (ra (by decide)) ?_
    refine e_iload_n (show pAt 191 85 = some (85, .iload_n 1, 1, []) from by decide +kernel) rfl ?_
    refine e_iload_n (show pAt 191 86 = some (86, .iload_n 2, 1, []) from by decide +kernel) rfl ?_
    refine Ends.call (show pAt 191 87 = some (87, .invokevirtual 378, 3, [189, 3, 0, 0, 6174, 6176, 109]) from by decide +kernel) (isRet_none rfl) rfl (call_this (show HS h from hs) rfl rfl (by decide)) (Ends.mono vc ?_)
    rintro _ h3 ⟨r4, rfl, hs_h3, vc⟩
    exact e_retI (show pAt 191 90 = some (90, .ireturn, 1, []) from by decide +kernel) rfl vc
  · refine e_ls (t := 40) (show pAt 191 6 = some (6, .lookupswitch 78 #[(1, 34), (4, 41), (6, 56)], 34, []) from by decide +kernel) (by decide) (ls_off (b := 34) (by simp [Op.lookupswitch.offset, c2, -List.getD_eq_getElem?_getD]) rfl) ?_
    replace vc := vc.2.1 c2
    refine e_aload_n (show pAt 191 40 = some (40, .aload_n 0, 1, []) from by decide +kernel) rfl (ra (by decide)) ?_
    refine e_iload_n (show pAt 191 41 = some (41, .iload_n 1, 1, []) from by decide +kernel) rfl ?_
    refine e_iload_n (show pAt 191 42 = some (42, .iload_n 2, 1, []) from by decide +kernel) rfl ?_
    refine Ends.call (show pAt 191 43 = some (43, .invokevirtual 381, 3, [190, 3, 0, 0, 6170, 6172, 108]) from by decide +kernel) (isRet_none rfl) rfl (call_this (show HS h from hs) rfl rfl (by decide)) (Ends.mono vc ?_)
    rintro _ h6 ⟨r7, rfl, hs_h6, vc⟩
    exact e_retI (show pAt 191 46 = some (46, .ireturn, 1, []) from by decide +kernel) rfl vc
  · refine e_ls (t := 47) (show pAt 191 6 = some (6, .lookupswitch 78 #[(1, 34), (4, 41), (6, 56)], 34, []) from by decide +kernel) (by decide) (ls_off (b := 41) (by simp [Op.lookupswitch.offset, c2, -List.getD_eq_getElem?_getD]) rfl) ?_
    replace vc := vc.2.2.1 c2
    refine e_aload_n (show pAt 191 47 = some (47, .aload_n 0, 1, []) from by decide +kernel) rfl (ra (by decide)) ?_
    refine e_bipush (c := 51) (show pAt 191 48 = some (48, .bipush 51, 2, []) from by decide +kernel) (by decide) ?_
    refine Ends.call (show pAt 191 50 = some (50, .invokevirtual 369, 3, [186, 2, 0, 0, 6158, 6160, 105]) from by decide +kernel) (isRet_none rfl) rfl (call_this (show HS h from hs) rfl rfl (by decide)) (Ends.mono vc ?_)
    rintro _ h9 ⟨rfl, hs_h9, vc⟩
    refine e_aload_n (show pAt 191 53 = some (53, .aload_n 0, 1, []) from by decide +kernel) rfl (ra (by decide)) ?_
    refine e_iload_n (show pAt 191 54 = some (54, .iload_n 1, 1, []) from by decide +kernel) rfl ?_
    refine e_iload_n (show pAt 191 55 = some (55, .iload_n 2, 1, []) from by decide +kernel) rfl ?_
    refine e_iconst (c := 1) (show pAt 191 56 = some (56, .iconst 1, 1, []) from by decide +kernel) (by decide) ?_
    refine e_iadd (show pAt 191 57 = some (57, .iadd, 1, []) from by decide +kernel) ?_
    refine Ends.call (show pAt 191 58 = some (58, .invokevirtual 381, 3, [190, 3, 0, 0, 6170, 6172, 108]) from by decide +kernel) (isRet_none rfl) rfl (call_this (show HS h9 from hs_h9) rfl rfl (by decide)) (Ends.mono vc ?_)
    rintro _ h12 ⟨r13, rfl, hs_h12, vc⟩
    exact e_retI (show pAt 191 61 = some (61, .ireturn, 1, []) from by decide +kernel) rfl vc
  · refine e_ls (t := 62) (show pAt 191 6 = some (6, .lookupswitch 78 #[(1, 34), (4, 41), (6, 56)], 34, []) from by decide +kernel) (by decide) (ls_off (b := 56) (by simp [Op.lookupswitch.offset, c2, -List.getD_eq_getElem?_getD]) rfl) ?_
    replace vc := vc.2.2.2 c2
    refine e_aload_n (show pAt 191 62 = some (62, .aload_n 0, 1, []) from by decide +kernel) rfl (ra (by decide)) ?_
    refine e_bipush (c := 70) (show pAt 191 63 = some (63, .bipush 70, 2, []) from by decide +kernel) (by decide) ?_
    refine Ends.call (show pAt 191 65 = some (65, .invokevirtual 369, 3, [186, 2, 0, 0, 6158, 6160, 105]) from by decide +kernel) (isRet_none rfl) rfl (call_this (show HS h from hs) rfl rfl (by decide)) (Ends.mono vc ?_)
    rintro _ h15 ⟨rfl, hs_h15, vc⟩
    refine e_aload_n (show pAt 191 68 = some (68, .aload_n 0, 1, []) from by decide +kernel) rfl (ra (by decide)) ?_
    refine e_iload_n (show pAt 191 69 = some (69, .iload_n 1, 1, []) from by decide +kernel) rfl ?_
    refine e_iload_n (show pAt 191 70 = some (70, .iload_n 2, 1, []) from by decide +kernel) rfl ?_
    refine Ends.call (show pAt 191 71 = some (71, .invokevirtual 378, 3, [189, 3, 0, 0, 6174, 6176, 109]) from by decide +kernel) (isRet_none rfl) rfl (call_this (show HS h15 from hs_h15) rfl rfl (by decide)) (Ends.mono vc ?_)
    rintro _ h18 ⟨r19, rfl, hs_h18, vc⟩
    refine e_istore_n (show pAt 191 74 = some (74, .istore_n 3, 1, []) from by decide +kernel) ⟨Nat.le_of_ble_eq_true rfl, rfl⟩ rfl ?_
    refine e_iload_n (show pAt 191 75 = some (75, .iload_n 3, 1, []) from by decide +kernel) rfl ?_
    refine e_aload_n (show pAt 191 76 = some (76, .aload_n 0, 1, []) from by decide +kernel) rfl (ra (by decide)) ?_
    refine e_iload_n (show pAt 191 77 = some (77, .iload_n 1, 1, []) from by decide +kernel) rfl ?_
    refine e_iconst (c := 2) (show pAt 191 78 = some (78, .iconst 2, 1, []) from by decide +kernel) (by decide) ?_
    refine Ends.call (show pAt 191 79 = some (79, .invokevirtual 372, 3, [187, 3, 0, 0, 6162, 6164, 106]) from by decide +kernel) (isRet_none rfl) rfl (call_this (show HS h18 from hs_h18) rfl rfl (by decide)) (Ends.mono vc ?_)
    rintro _ h21 ⟨r22, rfl, hs_h21, vc⟩
    refine e_iadd (show pAt 191 82 = some (82, .iadd, 1, []) from by decide +kernel) ?_
    exact e_retI (show pAt 191 83 = some (83, .ireturn, 1, []) from by decide +kernel) rfl vc

theorem w_rt {X : Scr} {dp : Nat} {h : Hp} {Q : Option Value → Hp → Prop} (p : Int32) (x : Int32) (hs : HS h)
    (vc : Ends X dp 186 0 [.ref 93, .int 12] [] h (fun rv h1 => rv = none ∧ HS h1 ∧ Ends X dp 191 0 [.ref 93, .int p, .int x, .retAddr 0] [] h1 (fun rv h4 => ∃ r5, rv = some (.int r5) ∧ HS h4 ∧ Q (some (.int (r5 * 2))) h4))) :
    Ends X (dp + 1) 192 0 [.ref 93, .int p, .int x] [] h Q := by
  have ra : ∀ {a : Nat}, a < 1000 → a ≤ OLDB := fun h => by have := OLDB_eq; omega
  refine e_aload_n (show pAt 192 0 = some (0, .aload_n 0, 1, []) from by decide +kernel) rfl (ra (by decide)) ?_
  refine e_bipush (c := 12) (show pAt 192 1 = some (1, .bipush 12, 2, []) from by decide +kernel) (by decide) ?_
  refine Ends.call (show pAt 192 3 = some (3, .invokevirtual 369, 3, [186, 2, 0, 0, 6158, 6160, 105]) from by decide +kernel) (isRet_none rfl) rfl (call_this (show HS h from hs) rfl rfl (by decide)) (Ends.mono vc ?_)
  rintro _ h1 ⟨rfl, hs_h1, vc⟩
  refine e_aload_n (show pAt 192 6 = some (6, .aload_n 0, 1, []) from by decide +kernel) rfl (ra (by decide)) ?_
  refine e_iload_n (show pAt 192 7 = some (7, .iload_n 1, 1, []) from by decide +kernel) rfl ?_
  refine e_iload_n (show pAt 192 8 = some (8, .iload_n 2, 1, []) from by decide +kernel) rfl ?_
  refine Ends.call (show pAt 192 9 = some (9, .invokevirtual 384, 3, [191, 3, 0, 0, 6166, 6168, 107]) from by decide +kernel) (isRet_none rfl) rfl (call_this (show HS h1 from hs_h1) rfl rfl (by decide)) (Ends.mono vc ?_)
  rintro _ h4 ⟨r5, rfl, hs_h4, vc⟩
  refine e_iconst (c := 2) (show pAt 192 12 = some (12, .iconst 2, 1, []) from by decide +kernel) (by decide) ?_
  refine e_imul (show pAt 192 13 = some (13, .imul, 1, []) from by decide +kernel) ?_
  exact e_retI (show pAt 192 14 = some (14, .ireturn, 1, []) from by decide +kernel) rfl vc

theorem w_ta {X : Scr} {dp : Nat} {h : Hp} {Q : Option Value → Hp → Prop} (p : Int32) (x : Int32) (hs : HS h)
    (vc : (inB p 7 = true ∧ ((((h.2.1 94 p.toNatClampNeg).toInt < 3 ∨ 6 < (h.2.1 94 p.toNatClampNeg).toInt) → Ends X dp 192 0 [.ref 93, .int p, .int x] [] h (fun rv h4 => ∃ r5, rv = some (.int r5) ∧ HS h4 ∧ Q (some (.int r5)) h4)) ∧ ((h.2.1 94 p.toNatClampNeg).toInt = 3 → Ends X dp 186 0 [.ref 93, .int 40] [] h (fun rv h7 => rv = none ∧ HS h7 ∧ Ends X dp 192 0 [.ref 93, .int p, .int x] [] h7 (fun rv h10 => ∃ r11, rv = some (.int r11) ∧ HS h10 ∧ Ends X dp 191 0 [.ref 93, .int p, .int 1, .retAddr 0] [] h10 (fun rv h13 => ∃ r14, rv = some (.int r14) ∧ HS h13 ∧ Q (some (.int (r11 + r14))) h13)))) ∧ ((h.2.1 94 p.toNatClampNeg).toInt = 4 → Ends X dp 192 0 [.ref 93, .int p, .int x] [] h (fun rv h16 => ∃ r17, rv = some (.int r17) ∧ HS h16 ∧ Q (some (.int r17)) h16)) ∧ ((h.2.1 94 p.toNatClampNeg).toInt = 5 → Ends X dp 186 0 [.ref 93, .int 60] [] h (fun rv h19 => rv = none ∧ HS h19 ∧ Ends X dp 192 0 [.ref 93, .int p, .int (x - p)] [] h19 (fun rv h22 => ∃ r23, rv = some (.int r23) ∧ HS h22 ∧ Q (some (.int r23)) h22))) ∧ ((h.2.1 94 p.toNatClampNeg).toInt = 6 → Ends X dp 186 0 [.ref 93, .int 40] [] h (fun rv h25 => rv = none ∧ HS h25 ∧ Ends X dp 192 0 [.ref 93, .int p, .int x] [] h25 (fun rv h28 => ∃ r29, rv = some (.int r29) ∧ HS h28 ∧ Ends X dp 191 0 [.ref 93, .int p, .int 1, .retAddr 0] [] h28 (fun rv h31 => ∃ r32, rv = some (.int r32) ∧ HS h31 ∧ Q (some (.int (r29 + r32))) h31))))))) :
    Ends X (dp + 1) 193 0 [.ref 93, .int p, .int x, .retAddr 0] [] h Q := by
  have ra : ∀ {a : Nat}, a < 1000 → a ≤ OLDB := fun h => by have := OLDB_eq; omega
  refine e_aload_n (show pAt 193 0 = some (0, .aload_n 0, 1, []) from by decide +kernel) rfl (ra (by decide)) ?_
  refine e_gR (show pAt 193 1 = some (1, .getfield 19, 3, [7, 3, 0, 4126]) from by decide +kernel) (show HS h from hs) rfl (by decide) (hs_ref (show HS h from hs) rfl) ?_
  refine e_iload_n (show pAt 193 4 = some (4, .iload_n 1, 1, []) from by decide +kernel) rfl ?_
  obtain ⟨c1, vc⟩ := vc
  refine e_aldv (v := h.2.1 94 p.toNatClampNeg) (show pAt 193 5 = some (5, .iaload, 1, []) from by decide +kernel) (show HS h from hs) (by decide) c1 rfl ?_
  rcases (show ((h.2.1 94 p.toNatClampNeg).toInt < 3 ∨ 6 < (h.2.1 94 p.toNatClampNeg).toInt) ∨ (h.2.1 94 p.toNatClampNeg).toInt = 3 ∨ (h.2.1 94 p.toNatClampNeg).toInt = 4 ∨ (h.2.1 94 p.toNatClampNeg).toInt = 5 ∨ (h.2.1 94 p.toNatClampNeg).toInt = 6 from by omega) with c2 | c2 | c2 | c2 | c2
  · refine e_tsd (t := 73) (show pAt 193 6 = some (6, .tableswitch 67 3 6 #[30, 67, 52, 30], 30, []) from by decide +kernel) c2 rfl ?_
    replace vc := vc.1 c2
    refine e_aload_n (show pAt 193 73 = some (73, .aload_n 0, 1, []) from by decide +kernel) rfl (ra (by decide)) ?_
    refine e_iload_n (show pAt 193 74 = some (74, .iload_n 1, 1, []) from by decide +kernel) rfl ?_
    refine e_iload_n (show pAt 193 75 = some (75, .iload_n 2, 1, []) from by decide +kernel) rfl ?_
    refine Ends.call (show pAt 193 76 = some (76, .invokevirtual 387, 3, [192, 3, 0, 0, 6182, 6184, 111]) from by decide +kernel) (isRet_none rfl) rfl (call_this (show HS h from hs) rfl rfl (by decide)) (Ends.mono vc ?_)
    rintro _ h4 ⟨r5, rfl, hs_h4, vc⟩
    exact e_retI (show pAt 193 79 = some (79, .ireturn, 1, []) from by decide +kernel) rfl vc
  · refine e_tsc (t := 36) 0 (show pAt 193 6 = some (6, .tableswitch 67 3 6 #[30, 67, 52, 30], 30, []) from by decide +kernel) (by omega) (by omega) rfl rfl ?_
    replace vc := vc.2.1 c2
    refine e_aload_n (show pAt 193 36 = some (36, .aload_n 0, 1, []) from by decide +kernel) rfl (ra (by decide)) ?_
    refine e_bipush (c := 40) (show pAt 193 37 = some (37, .bipush 40, 2, []) from by decide +kernel) (by decide) ?_
    refine Ends.call (show pAt 193 39 = some (39, .invokevirtual 369, 3, [186, 2, 0, 0, 6158, 6160, 105]) from by decide +kernel) (isRet_none rfl) rfl (call_this (show HS h from hs) rfl rfl (by decide)) (Ends.mono vc ?_)
    rintro _ h7 ⟨rfl, hs_h7, vc⟩
    refine e_aload_n (show pAt 193 42 = some (42, .aload_n 0, 1, []) from by decide +kernel) rfl (ra (by decide)) ?_
    refine e_iload_n (show pAt 193 43 = some (43, .iload_n 1, 1, []) from by decide +kernel) rfl ?_
    refine e_iload_n (show pAt 193 44 = some (44, .iload_n 2, 1, []) from by decide +kernel) rfl ?_
    refine Ends.call (show pAt 193 45 = some (45, .invokevirtual 387, 3, [192, 3, 0, 0, 6182, 6184, 111]) from by decide +kernel) (isRet_none rfl) rfl (call_this (show HS h7 from hs_h7) rfl rfl (by decide)) (Ends.mono vc ?_)
    rintro _ h10 ⟨r11, rfl, hs_h10, vc⟩
    refine e_istore_n (show pAt 193 48 = some (48, .istore_n 3, 1, []) from by decide +kernel) ⟨Nat.le_of_ble_eq_true rfl, rfl⟩ rfl ?_
    refine e_iload_n (show pAt 193 49 = some (49, .iload_n 3, 1, []) from by decide +kernel) rfl ?_
    refine e_aload_n (show pAt 193 50 = some (50, .aload_n 0, 1, []) from by decide +kernel) rfl (ra (by decide)) ?_
    refine e_iload_n (show pAt 193 51 = some (51, .iload_n 1, 1, []) from by decide +kernel) rfl ?_
    refine e_iconst (c := 1) (show pAt 193 52 = some (52, .iconst 1, 1, []) from by decide +kernel) (by decide) ?_
    refine Ends.call (show pAt 193 53 = some (53, .invokevirtual 384, 3, [191, 3, 0, 0, 6166, 6168, 107]) from by decide +kernel) (isRet_none rfl) rfl (call_this (show HS h10 from hs_h10) rfl rfl (by decide)) (Ends.mono vc ?_)
    rintro _ h13 ⟨r14, rfl, hs_h13, vc⟩
    refine e_iadd (show pAt 193 56 = some (56, .iadd, 1, []) from by decide +kernel) ?_
    exact e_retI (show pAt 193 57 = some (57, .ireturn, 1, []) from by decide +kernel) rfl vc
  · refine e_tsc (t := 73) 1 (show pAt 193 6 = some (6, .tableswitch 67 3 6 #[30, 67, 52, 30], 30, []) from by decide +kernel) (by omega) (by omega) rfl rfl ?_
    replace vc := vc.2.2.1 c2
    refine e_aload_n (show pAt 193 73 = some (73, .aload_n 0, 1, []) from by decide +kernel) rfl (ra (by decide)) ?_
    refine e_iload_n (show pAt 193 74 = some (74, .iload_n 1, 1, []) from by decide +kernel) rfl ?_
    refine e_iload_n (show pAt 193 75 = some (75, .iload_n 2, 1, []) from by decide +kernel) rfl ?_
    refine Ends.call (show pAt 193 76 = some (76, .invokevirtual 387, 3, [192, 3, 0, 0, 6182, 6184, 111]) from by decide +kernel) (isRet_none rfl) rfl (call_this (show HS h from hs) rfl rfl (by decide)) (Ends.mono vc ?_)
    rintro _ h16 ⟨r17, rfl, hs_h16, vc⟩
    exact e_retI (show pAt 193 79 = some (79, .ireturn, 1, []) from by decide +kernel) rfl vc
  · refine e_tsc (t := 58) 2 (show pAt 193 6 = some (6, .tableswitch 67 3 6 #[30, 67, 52, 30], 30, []) from by decide +kernel) (by omega) (by omega) rfl rfl ?_
    replace vc := vc.2.2.2.1 c2
    refine e_aload_n (show pAt 193 58 = some (58, .aload_n 0, 1, []) from by decide +kernel) rfl (ra (by decide)) ?_
    refine e_bipush (c := 60) (show pAt 193 59 = some (59, .bipush 60, 2, []) from by decide +kernel) (by decide) ?_
    refine Ends.call (show pAt 193 61 = some (61, .invokevirtual 369, 3, [186, 2, 0, 0, 6158, 6160, 105]) from by decide +kernel) (isRet_none rfl) rfl (call_this (show HS h from hs) rfl rfl (by decide)) (Ends.mono vc ?_)
    rintro _ h19 ⟨rfl, hs_h19, vc⟩
    refine e_aload_n (show pAt 193 64 = some (64, .aload_n 0, 1, []) from by decide +kernel) rfl (ra (by decide)) ?_
    refine e_iload_n (show pAt 193 65 = some (65, .iload_n 1, 1, []) from by decide +kernel) rfl ?_
    refine e_iload_n (show pAt 193 66 = some (66, .iload_n 2, 1, []) from by decide +kernel) rfl ?_
    refine e_iload_n (show pAt 193 67 = some (67, .iload_n 1, 1, []) from by decide +kernel) rfl ?_
    refine e_isub (show pAt 193 68 = some (68, .isub, 1, []) from by decide +kernel) ?_
    refine Ends.call (show pAt 193 69 = some (69, .invokevirtual 387, 3, [192, 3, 0, 0, 6182, 6184, 111]) from by decide +kernel) (isRet_none rfl) rfl (call_this (show HS h19 from hs_h19) rfl rfl (by decide)) (Ends.mono vc ?_)
    rintro _ h22 ⟨r23, rfl, hs_h22, vc⟩
    exact e_retI (show pAt 193 72 = some (72, .ireturn, 1, []) from by decide +kernel) rfl vc
  · refine e_tsc (t := 36) 3 (show pAt 193 6 = some (6, .tableswitch 67 3 6 #[30, 67, 52, 30], 30, []) from by decide +kernel) (by omega) (by omega) rfl rfl ?_
    replace vc := vc.2.2.2.2 c2
    refine e_aload_n (show pAt 193 36 = some (36, .aload_n 0, 1, []) from by decide +kernel) rfl (ra (by decide)) ?_
    refine e_bipush (c := 40) (show pAt 193 37 = some (37, .bipush 40, 2, []) from by decide +kernel) (by decide) ?_
    refine Ends.call (show pAt 193 39 = some (39, .invokevirtual 369, 3, [186, 2, 0, 0, 6158, 6160, 105]) from by decide +kernel) (isRet_none rfl) rfl (call_this (show HS h from hs) rfl rfl (by decide)) (Ends.mono vc ?_)
    rintro _ h25 ⟨rfl, hs_h25, vc⟩
    refine e_aload_n (show pAt 193 42 = some (42, .aload_n 0, 1, []) from by decide +kernel) rfl (ra (by decide)) ?_
    refine e_iload_n (show pAt 193 43 = some (43, .iload_n 1, 1, []) from by decide +kernel) rfl ?_
    refine e_iload_n (show pAt 193 44 = some (44, .iload_n 2, 1, []) from by decide +kernel) rfl ?_
    refine Ends.call (show pAt 193 45 = some (45, .invokevirtual 387, 3, [192, 3, 0, 0, 6182, 6184, 111]) from by decide +kernel) (isRet_none rfl) rfl (call_this (show HS h25 from hs_h25) rfl rfl (by decide)) (Ends.mono vc ?_)
    rintro _ h28 ⟨r29, rfl, hs_h28, vc⟩
    refine e_istore_n (show pAt 193 48 = some (48, .istore_n 3, 1, []) from by decide +kernel) ⟨Nat.le_of_ble_eq_true rfl, rfl⟩ rfl ?_
    refine e_iload_n (show pAt 193 49 = some (49, .iload_n 3, 1, []) from by decide +kernel) rfl ?_
    refine e_aload_n (show pAt 193 50 = some (50, .aload_n 0, 1, []) from by decide +kernel) rfl (ra (by decide)) ?_
    refine e_iload_n (show pAt 193 51 = some (51, .iload_n 1, 1, []) from by decide +kernel) rfl ?_
    refine e_iconst (c := 1) (show pAt 193 52 = some (52, .iconst 1, 1, []) from by decide +kernel) (by decide) ?_
    refine Ends.call (show pAt 193 53 = some (53, .invokevirtual 384, 3, [191, 3, 0, 0, 6166, 6168, 107]) from by decide +kernel) (isRet_none rfl) rfl (call_this (show HS h28 from hs_h28) rfl rfl (by decide)) (Ends.mono vc ?_)
    rintro _ h31 ⟨r32, rfl, hs_h31, vc⟩
    refine e_iadd (show pAt 193 56 = some (56, .iadd, 1, []) from by decide +kernel) ?_
    exact e_retI (show pAt 193 57 = some (57, .ireturn, 1, []) from by decide +kernel) rfl vc

theorem w_own00 {X : Scr} {dp : Nat} {h : Hp} {Q : Option Value → Hp → Prop}  (hs : HS h)
    (vc : Q (some (.int 0)) h) :
    Ends X dp 3 0 [.int 0, .int 0, .retAddr 0, .retAddr 0] [] h Q := by
  refine e_iload_n (show pAt 3 0 = some (0, .iload_n 0, 1, []) from by decide +kernel) rfl ?_
  refine e_if (t := 9) (show pAt 3 1 = some (1, .ifCond .lt 8, 3, []) from by decide +kernel) rfl (fun c1 => absurd c1 (by decide)) (fun c1 => ?_)
  refine e_iload_n (show pAt 3 4 = some (4, .iload_n 0, 1, []) from by decide +kernel) rfl ?_
  refine e_iconst (c := 2) (show pAt 3 5 = some (5, .iconst 2, 1, []) from by decide +kernel) (by decide) ?_
  refine e_icmp (t := 11) (show pAt 3 6 = some (6, .if_icmp .le 5, 3, []) from by decide +kernel) rfl (fun c2 => ?_) (fun c2 => absurd c2 (by decide))
  refine e_iload_n (show pAt 3 11 = some (11, .iload_n 1, 1, []) from by decide +kernel) rfl ?_
  refine e_istore_n (show pAt 3 12 = some (12, .istore_n 2, 1, []) from by decide +kernel) ⟨Nat.le_of_ble_eq_true rfl, rfl⟩ rfl ?_
  refine e_iconst (c := 0) (show pAt 3 13 = some (13, .iconst 0, 1, []) from by decide +kernel) (by decide) ?_
  refine e_istore_n (show pAt 3 14 = some (14, .istore_n 3, 1, []) from by decide +kernel) ⟨Nat.le_of_ble_eq_true rfl, rfl⟩ rfl ?_
  refine e_iload_n (show pAt 3 15 = some (15, .iload_n 3, 1, []) from by decide +kernel) rfl ?_
  refine e_bipush (c := 7) (show pAt 3 16 = some (16, .bipush 7, 2, []) from by decide +kernel) (by decide) ?_
  refine e_icmp (t := 58) (show pAt 3 18 = some (18, .if_icmp .ge 40, 3, []) from by decide +kernel) rfl (fun c3 => absurd c3 (by decide)) (fun c3 => ?_)
  refine e_iload_n (show pAt 3 21 = some (21, .iload_n 2, 1, []) from by decide +kernel) rfl ?_
  refine e_if (t := 58) (show pAt 3 22 = some (22, .ifCond .lt 36, 3, []) from by decide +kernel) rfl (fun c4 => absurd c4 (by decide)) (fun c4 => ?_)
  refine e_iload_n (show pAt 3 25 = some (25, .iload_n 2, 1, []) from by decide +kernel) rfl ?_
  refine e_bipush (c := 7) (show pAt 3 26 = some (26, .bipush 7, 2, []) from by decide +kernel) (by decide) ?_
  refine e_icmp (t := 58) (show pAt 3 28 = some (28, .if_icmp .ge 30, 3, []) from by decide +kernel) rfl (fun c5 => absurd c5 (by decide)) (fun c5 => ?_)
  refine e_gs2 (show pAt 3 31 = some (31, .getstatic 19, 3, [1, 0, 4064]) from by decide +kernel) ?_
  refine e_iload_n (show pAt 3 34 = some (34, .iload_n 0, 1, []) from by decide +kernel) rfl ?_
  refine e_bipush (c := 7) (show pAt 3 35 = some (35, .bipush 7, 2, []) from by decide +kernel) (by decide) ?_
  refine e_imul (show pAt 3 37 = some (37, .imul, 1, []) from by decide +kernel) ?_
  refine e_iload_n (show pAt 3 38 = some (38, .iload_n 2, 1, []) from by decide +kernel) rfl ?_
  refine e_iadd (show pAt 3 39 = some (39, .iadd, 1, []) from by decide +kernel) ?_
  refine e_so2 (show pAt 3 40 = some (40, .iaload, 1, []) from by decide +kernel) (by decide) ?_
  refine e_if (t := 46) (show pAt 3 41 = some (41, .ifCond .eq 5, 3, []) from by decide +kernel) rfl (fun c6 => absurd c6 (by decide)) (fun c6 => ?_)
  refine e_iload_n (show pAt 3 44 = some (44, .iload_n 2, 1, []) from by decide +kernel) rfl ?_
  exact e_retI (show pAt 3 45 = some (45, .ireturn, 1, []) from by decide +kernel) rfl vc

theorem w_own01 {X : Scr} {dp : Nat} {h : Hp} {Q : Option Value → Hp → Prop}  (hs : HS h)
    (vc : Q (some (.int (aboveL.getD (1 : Int32).toNatClampNeg 0))) h) :
    Ends X dp 3 0 [.int 0, .int 1, .retAddr 0, .retAddr 0] [] h Q := by
  refine e_iload_n (show pAt 3 0 = some (0, .iload_n 0, 1, []) from by decide +kernel) rfl ?_
  refine e_if (t := 9) (show pAt 3 1 = some (1, .ifCond .lt 8, 3, []) from by decide +kernel) rfl (fun c1 => absurd c1 (by decide)) (fun c1 => ?_)
  refine e_iload_n (show pAt 3 4 = some (4, .iload_n 0, 1, []) from by decide +kernel) rfl ?_
  refine e_iconst (c := 2) (show pAt 3 5 = some (5, .iconst 2, 1, []) from by decide +kernel) (by decide) ?_
  refine e_icmp (t := 11) (show pAt 3 6 = some (6, .if_icmp .le 5, 3, []) from by decide +kernel) rfl (fun c2 => ?_) (fun c2 => absurd c2 (by decide))
  refine e_iload_n (show pAt 3 11 = some (11, .iload_n 1, 1, []) from by decide +kernel) rfl ?_
  refine e_istore_n (show pAt 3 12 = some (12, .istore_n 2, 1, []) from by decide +kernel) ⟨Nat.le_of_ble_eq_true rfl, rfl⟩ rfl ?_
  refine e_iconst (c := 0) (show pAt 3 13 = some (13, .iconst 0, 1, []) from by decide +kernel) (by decide) ?_
  refine e_istore_n (show pAt 3 14 = some (14, .istore_n 3, 1, []) from by decide +kernel) ⟨Nat.le_of_ble_eq_true rfl, rfl⟩ rfl ?_
  refine e_iload_n (show pAt 3 15 = some (15, .iload_n 3, 1, []) from by decide +kernel) rfl ?_
  refine e_bipush (c := 7) (show pAt 3 16 = some (16, .bipush 7, 2, []) from by decide +kernel) (by decide) ?_
  refine e_icmp (t := 58) (show pAt 3 18 = some (18, .if_icmp .ge 40, 3, []) from by decide +kernel) rfl (fun c3 => absurd c3 (by decide)) (fun c3 => ?_)
  refine e_iload_n (show pAt 3 21 = some (21, .iload_n 2, 1, []) from by decide +kernel) rfl ?_
  refine e_if (t := 58) (show pAt 3 22 = some (22, .ifCond .lt 36, 3, []) from by decide +kernel) rfl (fun c4 => absurd c4 (by decide)) (fun c4 => ?_)
  refine e_iload_n (show pAt 3 25 = some (25, .iload_n 2, 1, []) from by decide +kernel) rfl ?_
  refine e_bipush (c := 7) (show pAt 3 26 = some (26, .bipush 7, 2, []) from by decide +kernel) (by decide) ?_
  refine e_icmp (t := 58) (show pAt 3 28 = some (28, .if_icmp .ge 30, 3, []) from by decide +kernel) rfl (fun c5 => absurd c5 (by decide)) (fun c5 => ?_)
  refine e_gs2 (show pAt 3 31 = some (31, .getstatic 19, 3, [1, 0, 4064]) from by decide +kernel) ?_
  refine e_iload_n (show pAt 3 34 = some (34, .iload_n 0, 1, []) from by decide +kernel) rfl ?_
  refine e_bipush (c := 7) (show pAt 3 35 = some (35, .bipush 7, 2, []) from by decide +kernel) (by decide) ?_
  refine e_imul (show pAt 3 37 = some (37, .imul, 1, []) from by decide +kernel) ?_
  refine e_iload_n (show pAt 3 38 = some (38, .iload_n 2, 1, []) from by decide +kernel) rfl ?_
  refine e_iadd (show pAt 3 39 = some (39, .iadd, 1, []) from by decide +kernel) ?_
  refine e_so2 (show pAt 3 40 = some (40, .iaload, 1, []) from by decide +kernel) (by decide) ?_
  refine e_if (t := 46) (show pAt 3 41 = some (41, .ifCond .eq 5, 3, []) from by decide +kernel) rfl (fun c6 => ?_) (fun c6 => absurd c6 (by decide))
  refine e_gs1 (show pAt 3 46 = some (46, .getstatic 22, 3, [0, 1, 4066]) from by decide +kernel) ?_
  refine e_iload_n (show pAt 3 49 = some (49, .iload_n 2, 1, []) from by decide +kernel) rfl ?_
  refine e_so1 (show pAt 3 50 = some (50, .iaload, 1, []) from by decide +kernel) (by decide) ?_
  refine e_istore_n (show pAt 3 51 = some (51, .istore_n 2, 1, []) from by decide +kernel) ⟨Nat.le_of_ble_eq_true rfl, rfl⟩ rfl ?_
  refine e_iinc (c := 1) (show pAt 3 52 = some (52, .iinc 3 1, 3, []) from by decide +kernel) rfl rfl (by decide) rfl ?_
  refine e_goto (t := 15) (show pAt 3 55 = some (55, .goto (-40), 3, []) from by decide +kernel) rfl ?_
  refine e_iload_n (show pAt 3 15 = some (15, .iload_n 3, 1, []) from by decide +kernel) rfl ?_
  refine e_bipush (c := 7) (show pAt 3 16 = some (16, .bipush 7, 2, []) from by decide +kernel) (by decide) ?_
  refine e_icmp (t := 58) (show pAt 3 18 = some (18, .if_icmp .ge 40, 3, []) from by decide +kernel) rfl (fun c7 => absurd c7 (by decide)) (fun c7 => ?_)
  refine e_iload_n (show pAt 3 21 = some (21, .iload_n 2, 1, []) from by decide +kernel) rfl ?_
  refine e_if (t := 58) (show pAt 3 22 = some (22, .ifCond .lt 36, 3, []) from by decide +kernel) rfl (fun c8 => absurd c8 (by decide)) (fun c8 => ?_)
  refine e_iload_n (show pAt 3 25 = some (25, .iload_n 2, 1, []) from by decide +kernel) rfl ?_
  refine e_bipush (c := 7) (show pAt 3 26 = some (26, .bipush 7, 2, []) from by decide +kernel) (by decide) ?_
  refine e_icmp (t := 58) (show pAt 3 28 = some (28, .if_icmp .ge 30, 3, []) from by decide +kernel) rfl (fun c9 => absurd c9 (by decide)) (fun c9 => ?_)
  refine e_gs2 (show pAt 3 31 = some (31, .getstatic 19, 3, [1, 0, 4064]) from by decide +kernel) ?_
  refine e_iload_n (show pAt 3 34 = some (34, .iload_n 0, 1, []) from by decide +kernel) rfl ?_
  refine e_bipush (c := 7) (show pAt 3 35 = some (35, .bipush 7, 2, []) from by decide +kernel) (by decide) ?_
  refine e_imul (show pAt 3 37 = some (37, .imul, 1, []) from by decide +kernel) ?_
  refine e_iload_n (show pAt 3 38 = some (38, .iload_n 2, 1, []) from by decide +kernel) rfl ?_
  refine e_iadd (show pAt 3 39 = some (39, .iadd, 1, []) from by decide +kernel) ?_
  refine e_so2 (show pAt 3 40 = some (40, .iaload, 1, []) from by decide +kernel) (by decide) ?_
  refine e_if (t := 46) (show pAt 3 41 = some (41, .ifCond .eq 5, 3, []) from by decide +kernel) rfl (fun c10 => absurd c10 (by decide)) (fun c10 => ?_)
  refine e_iload_n (show pAt 3 44 = some (44, .iload_n 2, 1, []) from by decide +kernel) rfl ?_
  exact e_retI (show pAt 3 45 = some (45, .ireturn, 1, []) from by decide +kernel) rfl vc

theorem w_own02 {X : Scr} {dp : Nat} {h : Hp} {Q : Option Value → Hp → Prop}  (hs : HS h)
    (vc : Q (some (.int 2)) h) :
    Ends X dp 3 0 [.int 0, .int 2, .retAddr 0, .retAddr 0] [] h Q := by
  refine e_iload_n (show pAt 3 0 = some (0, .iload_n 0, 1, []) from by decide +kernel) rfl ?_
  refine e_if (t := 9) (show pAt 3 1 = some (1, .ifCond .lt 8, 3, []) from by decide +kernel) rfl (fun c1 => absurd c1 (by decide)) (fun c1 => ?_)
  refine e_iload_n (show pAt 3 4 = some (4, .iload_n 0, 1, []) from by decide +kernel) rfl ?_
  refine e_iconst (c := 2) (show pAt 3 5 = some (5, .iconst 2, 1, []) from by decide +kernel) (by decide) ?_
  refine e_icmp (t := 11) (show pAt 3 6 = some (6, .if_icmp .le 5, 3, []) from by decide +kernel) rfl (fun c2 => ?_) (fun c2 => absurd c2 (by decide))
  refine e_iload_n (show pAt 3 11 = some (11, .iload_n 1, 1, []) from by decide +kernel) rfl ?_
  refine e_istore_n (show pAt 3 12 = some (12, .istore_n 2, 1, []) from by decide +kernel) ⟨Nat.le_of_ble_eq_true rfl, rfl⟩ rfl ?_
  refine e_iconst (c := 0) (show pAt 3 13 = some (13, .iconst 0, 1, []) from by decide +kernel) (by decide) ?_
  refine e_istore_n (show pAt 3 14 = some (14, .istore_n 3, 1, []) from by decide +kernel) ⟨Nat.le_of_ble_eq_true rfl, rfl⟩ rfl ?_
  refine e_iload_n (show pAt 3 15 = some (15, .iload_n 3, 1, []) from by decide +kernel) rfl ?_
  refine e_bipush (c := 7) (show pAt 3 16 = some (16, .bipush 7, 2, []) from by decide +kernel) (by decide) ?_
  refine e_icmp (t := 58) (show pAt 3 18 = some (18, .if_icmp .ge 40, 3, []) from by decide +kernel) rfl (fun c3 => absurd c3 (by decide)) (fun c3 => ?_)
  refine e_iload_n (show pAt 3 21 = some (21, .iload_n 2, 1, []) from by decide +kernel) rfl ?_
  refine e_if (t := 58) (show pAt 3 22 = some (22, .ifCond .lt 36, 3, []) from by decide +kernel) rfl (fun c4 => absurd c4 (by decide)) (fun c4 => ?_)
  refine e_iload_n (show pAt 3 25 = some (25, .iload_n 2, 1, []) from by decide +kernel) rfl ?_
  refine e_bipush (c := 7) (show pAt 3 26 = some (26, .bipush 7, 2, []) from by decide +kernel) (by decide) ?_
  refine e_icmp (t := 58) (show pAt 3 28 = some (28, .if_icmp .ge 30, 3, []) from by decide +kernel) rfl (fun c5 => absurd c5 (by decide)) (fun c5 => ?_)
  refine e_gs2 (show pAt 3 31 = some (31, .getstatic 19, 3, [1, 0, 4064]) from by decide +kernel) ?_
  refine e_iload_n (show pAt 3 34 = some (34, .iload_n 0, 1, []) from by decide +kernel) rfl ?_
  refine e_bipush (c := 7) (show pAt 3 35 = some (35, .bipush 7, 2, []) from by decide +kernel) (by decide) ?_
  refine e_imul (show pAt 3 37 = some (37, .imul, 1, []) from by decide +kernel) ?_
  refine e_iload_n (show pAt 3 38 = some (38, .iload_n 2, 1, []) from by decide +kernel) rfl ?_
  refine e_iadd (show pAt 3 39 = some (39, .iadd, 1, []) from by decide +kernel) ?_
  refine e_so2 (show pAt 3 40 = some (40, .iaload, 1, []) from by decide +kernel) (by decide) ?_
  refine e_if (t := 46) (show pAt 3 41 = some (41, .ifCond .eq 5, 3, []) from by decide +kernel) rfl (fun c6 => absurd c6 (by decide)) (fun c6 => ?_)
  refine e_iload_n (show pAt 3 44 = some (44, .iload_n 2, 1, []) from by decide +kernel) rfl ?_
  exact e_retI (show pAt 3 45 = some (45, .ireturn, 1, []) from by decide +kernel) rfl vc

theorem w_own03 {X : Scr} {dp : Nat} {h : Hp} {Q : Option Value → Hp → Prop}  (hs : HS h)
    (vc : Q (some (.int (aboveL.getD (3 : Int32).toNatClampNeg 0))) h) :
    Ends X dp 3 0 [.int 0, .int 3, .retAddr 0, .retAddr 0] [] h Q := by
  refine e_iload_n (show pAt 3 0 = some (0, .iload_n 0, 1, []) from by decide +kernel) rfl ?_
  refine e_if (t := 9) (show pAt 3 1 = some (1, .ifCond .lt 8, 3, []) from by decide +kernel) rfl (fun c1 => absurd c1 (by decide)) (fun c1 => ?_)
  refine e_iload_n (show pAt 3 4 = some (4, .iload_n 0, 1, []) from by decide +kernel) rfl ?_
  refine e_iconst (c := 2) (show pAt 3 5 = some (5, .iconst 2, 1, []) from by decide +kernel) (by decide) ?_
  refine e_icmp (t := 11) (show pAt 3 6 = some (6, .if_icmp .le 5, 3, []) from by decide +kernel) rfl (fun c2 => ?_) (fun c2 => absurd c2 (by decide))
  refine e_iload_n (show pAt 3 11 = some (11, .iload_n 1, 1, []) from by decide +kernel) rfl ?_
  refine e_istore_n (show pAt 3 12 = some (12, .istore_n 2, 1, []) from by decide +kernel) ⟨Nat.le_of_ble_eq_true rfl, rfl⟩ rfl ?_
  refine e_iconst (c := 0) (show pAt 3 13 = some (13, .iconst 0, 1, []) from by decide +kernel) (by decide) ?_
  refine e_istore_n (show pAt 3 14 = some (14, .istore_n 3, 1, []) from by decide +kernel) ⟨Nat.le_of_ble_eq_true rfl, rfl⟩ rfl ?_
  refine e_iload_n (show pAt 3 15 = some (15, .iload_n 3, 1, []) from by decide +kernel) rfl ?_
  refine e_bipush (c := 7) (show pAt 3 16 = some (16, .bipush 7, 2, []) from by decide +kernel) (by decide) ?_
  refine e_icmp (t := 58) (show pAt 3 18 = some (18, .if_icmp .ge 40, 3, []) from by decide +kernel) rfl (fun c3 => absurd c3 (by decide)) (fun c3 => ?_)
  refine e_iload_n (show pAt 3 21 = some (21, .iload_n 2, 1, []) from by decide +kernel) rfl ?_
  refine e_if (t := 58) (show pAt 3 22 = some (22, .ifCond .lt 36, 3, []) from by decide +kernel) rfl (fun c4 => absurd c4 (by decide)) (fun c4 => ?_)
  refine e_iload_n (show pAt 3 25 = some (25, .iload_n 2, 1, []) from by decide +kernel) rfl ?_
  refine e_bipush (c := 7) (show pAt 3 26 = some (26, .bipush 7, 2, []) from by decide +kernel) (by decide) ?_
  refine e_icmp (t := 58) (show pAt 3 28 = some (28, .if_icmp .ge 30, 3, []) from by decide +kernel) rfl (fun c5 => absurd c5 (by decide)) (fun c5 => ?_)
  refine e_gs2 (show pAt 3 31 = some (31, .getstatic 19, 3, [1, 0, 4064]) from by decide +kernel) ?_
  refine e_iload_n (show pAt 3 34 = some (34, .iload_n 0, 1, []) from by decide +kernel) rfl ?_
  refine e_bipush (c := 7) (show pAt 3 35 = some (35, .bipush 7, 2, []) from by decide +kernel) (by decide) ?_
  refine e_imul (show pAt 3 37 = some (37, .imul, 1, []) from by decide +kernel) ?_
  refine e_iload_n (show pAt 3 38 = some (38, .iload_n 2, 1, []) from by decide +kernel) rfl ?_
  refine e_iadd (show pAt 3 39 = some (39, .iadd, 1, []) from by decide +kernel) ?_
  refine e_so2 (show pAt 3 40 = some (40, .iaload, 1, []) from by decide +kernel) (by decide) ?_
  refine e_if (t := 46) (show pAt 3 41 = some (41, .ifCond .eq 5, 3, []) from by decide +kernel) rfl (fun c6 => ?_) (fun c6 => absurd c6 (by decide))
  refine e_gs1 (show pAt 3 46 = some (46, .getstatic 22, 3, [0, 1, 4066]) from by decide +kernel) ?_
  refine e_iload_n (show pAt 3 49 = some (49, .iload_n 2, 1, []) from by decide +kernel) rfl ?_
  refine e_so1 (show pAt 3 50 = some (50, .iaload, 1, []) from by decide +kernel) (by decide) ?_
  refine e_istore_n (show pAt 3 51 = some (51, .istore_n 2, 1, []) from by decide +kernel) ⟨Nat.le_of_ble_eq_true rfl, rfl⟩ rfl ?_
  refine e_iinc (c := 1) (show pAt 3 52 = some (52, .iinc 3 1, 3, []) from by decide +kernel) rfl rfl (by decide) rfl ?_
  refine e_goto (t := 15) (show pAt 3 55 = some (55, .goto (-40), 3, []) from by decide +kernel) rfl ?_
  refine e_iload_n (show pAt 3 15 = some (15, .iload_n 3, 1, []) from by decide +kernel) rfl ?_
  refine e_bipush (c := 7) (show pAt 3 16 = some (16, .bipush 7, 2, []) from by decide +kernel) (by decide) ?_
  refine e_icmp (t := 58) (show pAt 3 18 = some (18, .if_icmp .ge 40, 3, []) from by decide +kernel) rfl (fun c7 => absurd c7 (by decide)) (fun c7 => ?_)
  refine e_iload_n (show pAt 3 21 = some (21, .iload_n 2, 1, []) from by decide +kernel) rfl ?_
  refine e_if (t := 58) (show pAt 3 22 = some (22, .ifCond .lt 36, 3, []) from by decide +kernel) rfl (fun c8 => absurd c8 (by decide)) (fun c8 => ?_)
  refine e_iload_n (show pAt 3 25 = some (25, .iload_n 2, 1, []) from by decide +kernel) rfl ?_
  refine e_bipush (c := 7) (show pAt 3 26 = some (26, .bipush 7, 2, []) from by decide +kernel) (by decide) ?_
  refine e_icmp (t := 58) (show pAt 3 28 = some (28, .if_icmp .ge 30, 3, []) from by decide +kernel) rfl (fun c9 => absurd c9 (by decide)) (fun c9 => ?_)
  refine e_gs2 (show pAt 3 31 = some (31, .getstatic 19, 3, [1, 0, 4064]) from by decide +kernel) ?_
  refine e_iload_n (show pAt 3 34 = some (34, .iload_n 0, 1, []) from by decide +kernel) rfl ?_
  refine e_bipush (c := 7) (show pAt 3 35 = some (35, .bipush 7, 2, []) from by decide +kernel) (by decide) ?_
  refine e_imul (show pAt 3 37 = some (37, .imul, 1, []) from by decide +kernel) ?_
  refine e_iload_n (show pAt 3 38 = some (38, .iload_n 2, 1, []) from by decide +kernel) rfl ?_
  refine e_iadd (show pAt 3 39 = some (39, .iadd, 1, []) from by decide +kernel) ?_
  refine e_so2 (show pAt 3 40 = some (40, .iaload, 1, []) from by decide +kernel) (by decide) ?_
  refine e_if (t := 46) (show pAt 3 41 = some (41, .ifCond .eq 5, 3, []) from by decide +kernel) rfl (fun c10 => absurd c10 (by decide)) (fun c10 => ?_)
  refine e_iload_n (show pAt 3 44 = some (44, .iload_n 2, 1, []) from by decide +kernel) rfl ?_
  exact e_retI (show pAt 3 45 = some (45, .ireturn, 1, []) from by decide +kernel) rfl vc

theorem w_own04 {X : Scr} {dp : Nat} {h : Hp} {Q : Option Value → Hp → Prop}  (hs : HS h)
    (vc : Q (some (.int 4)) h) :
    Ends X dp 3 0 [.int 0, .int 4, .retAddr 0, .retAddr 0] [] h Q := by
  refine e_iload_n (show pAt 3 0 = some (0, .iload_n 0, 1, []) from by decide +kernel) rfl ?_
  refine e_if (t := 9) (show pAt 3 1 = some (1, .ifCond .lt 8, 3, []) from by decide +kernel) rfl (fun c1 => absurd c1 (by decide)) (fun c1 => ?_)
  refine e_iload_n (show pAt 3 4 = some (4, .iload_n 0, 1, []) from by decide +kernel) rfl ?_
  refine e_iconst (c := 2) (show pAt 3 5 = some (5, .iconst 2, 1, []) from by decide +kernel) (by decide) ?_
  refine e_icmp (t := 11) (show pAt 3 6 = some (6, .if_icmp .le 5, 3, []) from by decide +kernel) rfl (fun c2 => ?_) (fun c2 => absurd c2 (by decide))
  refine e_iload_n (show pAt 3 11 = some (11, .iload_n 1, 1, []) from by decide +kernel) rfl ?_
  refine e_istore_n (show pAt 3 12 = some (12, .istore_n 2, 1, []) from by decide +kernel) ⟨Nat.le_of_ble_eq_true rfl, rfl⟩ rfl ?_
  refine e_iconst (c := 0) (show pAt 3 13 = some (13, .iconst 0, 1, []) from by decide +kernel) (by decide) ?_
  refine e_istore_n (show pAt 3 14 = some (14, .istore_n 3, 1, []) from by decide +kernel) ⟨Nat.le_of_ble_eq_true rfl, rfl⟩ rfl ?_
  refine e_iload_n (show pAt 3 15 = some (15, .iload_n 3, 1, []) from by decide +kernel) rfl ?_
  refine e_bipush (c := 7) (show pAt 3 16 = some (16, .bipush 7, 2, []) from by decide +kernel) (by decide) ?_
  refine e_icmp (t := 58) (show pAt 3 18 = some (18, .if_icmp .ge 40, 3, []) from by decide +kernel) rfl (fun c3 => absurd c3 (by decide)) (fun c3 => ?_)
  refine e_iload_n (show pAt 3 21 = some (21, .iload_n 2, 1, []) from by decide +kernel) rfl ?_
  refine e_if (t := 58) (show pAt 3 22 = some (22, .ifCond .lt 36, 3, []) from by decide +kernel) rfl (fun c4 => absurd c4 (by decide)) (fun c4 => ?_)
  refine e_iload_n (show pAt 3 25 = some (25, .iload_n 2, 1, []) from by decide +kernel) rfl ?_
  refine e_bipush (c := 7) (show pAt 3 26 = some (26, .bipush 7, 2, []) from by decide +kernel) (by decide) ?_
  refine e_icmp (t := 58) (show pAt 3 28 = some (28, .if_icmp .ge 30, 3, []) from by decide +kernel) rfl (fun c5 => absurd c5 (by decide)) (fun c5 => ?_)
  refine e_gs2 (show pAt 3 31 = some (31, .getstatic 19, 3, [1, 0, 4064]) from by decide +kernel) ?_
  refine e_iload_n (show pAt 3 34 = some (34, .iload_n 0, 1, []) from by decide +kernel) rfl ?_
  refine e_bipush (c := 7) (show pAt 3 35 = some (35, .bipush 7, 2, []) from by decide +kernel) (by decide) ?_
  refine e_imul (show pAt 3 37 = some (37, .imul, 1, []) from by decide +kernel) ?_
  refine e_iload_n (show pAt 3 38 = some (38, .iload_n 2, 1, []) from by decide +kernel) rfl ?_
  refine e_iadd (show pAt 3 39 = some (39, .iadd, 1, []) from by decide +kernel) ?_
  refine e_so2 (show pAt 3 40 = some (40, .iaload, 1, []) from by decide +kernel) (by decide) ?_
  refine e_if (t := 46) (show pAt 3 41 = some (41, .ifCond .eq 5, 3, []) from by decide +kernel) rfl (fun c6 => absurd c6 (by decide)) (fun c6 => ?_)
  refine e_iload_n (show pAt 3 44 = some (44, .iload_n 2, 1, []) from by decide +kernel) rfl ?_
  exact e_retI (show pAt 3 45 = some (45, .ireturn, 1, []) from by decide +kernel) rfl vc

theorem w_own05 {X : Scr} {dp : Nat} {h : Hp} {Q : Option Value → Hp → Prop}  (hs : HS h)
    (vc : Q (some (.int (aboveL.getD (5 : Int32).toNatClampNeg 0))) h) :
    Ends X dp 3 0 [.int 0, .int 5, .retAddr 0, .retAddr 0] [] h Q := by
  refine e_iload_n (show pAt 3 0 = some (0, .iload_n 0, 1, []) from by decide +kernel) rfl ?_
  refine e_if (t := 9) (show pAt 3 1 = some (1, .ifCond .lt 8, 3, []) from by decide +kernel) rfl (fun c1 => absurd c1 (by decide)) (fun c1 => ?_)
  refine e_iload_n (show pAt 3 4 = some (4, .iload_n 0, 1, []) from by decide +kernel) rfl ?_
  refine e_iconst (c := 2) (show pAt 3 5 = some (5, .iconst 2, 1, []) from by decide +kernel) (by decide) ?_
  refine e_icmp (t := 11) (show pAt 3 6 = some (6, .if_icmp .le 5, 3, []) from by decide +kernel) rfl (fun c2 => ?_) (fun c2 => absurd c2 (by decide))
  refine e_iload_n (show pAt 3 11 = some (11, .iload_n 1, 1, []) from by decide +kernel) rfl ?_
  refine e_istore_n (show pAt 3 12 = some (12, .istore_n 2, 1, []) from by decide +kernel) ⟨Nat.le_of_ble_eq_true rfl, rfl⟩ rfl ?_
  refine e_iconst (c := 0) (show pAt 3 13 = some (13, .iconst 0, 1, []) from by decide +kernel) (by decide) ?_
  refine e_istore_n (show pAt 3 14 = some (14, .istore_n 3, 1, []) from by decide +kernel) ⟨Nat.le_of_ble_eq_true rfl, rfl⟩ rfl ?_
  refine e_iload_n (show pAt 3 15 = some (15, .iload_n 3, 1, []) from by decide +kernel) rfl ?_
  refine e_bipush (c := 7) (show pAt 3 16 = some (16, .bipush 7, 2, []) from by decide +kernel) (by decide) ?_
  refine e_icmp (t := 58) (show pAt 3 18 = some (18, .if_icmp .ge 40, 3, []) from by decide +kernel) rfl (fun c3 => absurd c3 (by decide)) (fun c3 => ?_)
  refine e_iload_n (show pAt 3 21 = some (21, .iload_n 2, 1, []) from by decide +kernel) rfl ?_
  refine e_if (t := 58) (show pAt 3 22 = some (22, .ifCond .lt 36, 3, []) from by decide +kernel) rfl (fun c4 => absurd c4 (by decide)) (fun c4 => ?_)
  refine e_iload_n (show pAt 3 25 = some (25, .iload_n 2, 1, []) from by decide +kernel) rfl ?_
  refine e_bipush (c := 7) (show pAt 3 26 = some (26, .bipush 7, 2, []) from by decide +kernel) (by decide) ?_
  refine e_icmp (t := 58) (show pAt 3 28 = some (28, .if_icmp .ge 30, 3, []) from by decide +kernel) rfl (fun c5 => absurd c5 (by decide)) (fun c5 => ?_)
  refine e_gs2 (show pAt 3 31 = some (31, .getstatic 19, 3, [1, 0, 4064]) from by decide +kernel) ?_
  refine e_iload_n (show pAt 3 34 = some (34, .iload_n 0, 1, []) from by decide +kernel) rfl ?_
  refine e_bipush (c := 7) (show pAt 3 35 = some (35, .bipush 7, 2, []) from by decide +kernel) (by decide) ?_
  refine e_imul (show pAt 3 37 = some (37, .imul, 1, []) from by decide +kernel) ?_
  refine e_iload_n (show pAt 3 38 = some (38, .iload_n 2, 1, []) from by decide +kernel) rfl ?_
  refine e_iadd (show pAt 3 39 = some (39, .iadd, 1, []) from by decide +kernel) ?_
  refine e_so2 (show pAt 3 40 = some (40, .iaload, 1, []) from by decide +kernel) (by decide) ?_
  refine e_if (t := 46) (show pAt 3 41 = some (41, .ifCond .eq 5, 3, []) from by decide +kernel) rfl (fun c6 => ?_) (fun c6 => absurd c6 (by decide))
  refine e_gs1 (show pAt 3 46 = some (46, .getstatic 22, 3, [0, 1, 4066]) from by decide +kernel) ?_
  refine e_iload_n (show pAt 3 49 = some (49, .iload_n 2, 1, []) from by decide +kernel) rfl ?_
  refine e_so1 (show pAt 3 50 = some (50, .iaload, 1, []) from by decide +kernel) (by decide) ?_
  refine e_istore_n (show pAt 3 51 = some (51, .istore_n 2, 1, []) from by decide +kernel) ⟨Nat.le_of_ble_eq_true rfl, rfl⟩ rfl ?_
  refine e_iinc (c := 1) (show pAt 3 52 = some (52, .iinc 3 1, 3, []) from by decide +kernel) rfl rfl (by decide) rfl ?_
  refine e_goto (t := 15) (show pAt 3 55 = some (55, .goto (-40), 3, []) from by decide +kernel) rfl ?_
  refine e_iload_n (show pAt 3 15 = some (15, .iload_n 3, 1, []) from by decide +kernel) rfl ?_
  refine e_bipush (c := 7) (show pAt 3 16 = some (16, .bipush 7, 2, []) from by decide +kernel) (by decide) ?_
  refine e_icmp (t := 58) (show pAt 3 18 = some (18, .if_icmp .ge 40, 3, []) from by decide +kernel) rfl (fun c7 => absurd c7 (by decide)) (fun c7 => ?_)
  refine e_iload_n (show pAt 3 21 = some (21, .iload_n 2, 1, []) from by decide +kernel) rfl ?_
  refine e_if (t := 58) (show pAt 3 22 = some (22, .ifCond .lt 36, 3, []) from by decide +kernel) rfl (fun c8 => absurd c8 (by decide)) (fun c8 => ?_)
  refine e_iload_n (show pAt 3 25 = some (25, .iload_n 2, 1, []) from by decide +kernel) rfl ?_
  refine e_bipush (c := 7) (show pAt 3 26 = some (26, .bipush 7, 2, []) from by decide +kernel) (by decide) ?_
  refine e_icmp (t := 58) (show pAt 3 28 = some (28, .if_icmp .ge 30, 3, []) from by decide +kernel) rfl (fun c9 => absurd c9 (by decide)) (fun c9 => ?_)
  refine e_gs2 (show pAt 3 31 = some (31, .getstatic 19, 3, [1, 0, 4064]) from by decide +kernel) ?_
  refine e_iload_n (show pAt 3 34 = some (34, .iload_n 0, 1, []) from by decide +kernel) rfl ?_
  refine e_bipush (c := 7) (show pAt 3 35 = some (35, .bipush 7, 2, []) from by decide +kernel) (by decide) ?_
  refine e_imul (show pAt 3 37 = some (37, .imul, 1, []) from by decide +kernel) ?_
  refine e_iload_n (show pAt 3 38 = some (38, .iload_n 2, 1, []) from by decide +kernel) rfl ?_
  refine e_iadd (show pAt 3 39 = some (39, .iadd, 1, []) from by decide +kernel) ?_
  refine e_so2 (show pAt 3 40 = some (40, .iaload, 1, []) from by decide +kernel) (by decide) ?_
  refine e_if (t := 46) (show pAt 3 41 = some (41, .ifCond .eq 5, 3, []) from by decide +kernel) rfl (fun c10 => absurd c10 (by decide)) (fun c10 => ?_)
  refine e_iload_n (show pAt 3 44 = some (44, .iload_n 2, 1, []) from by decide +kernel) rfl ?_
  exact e_retI (show pAt 3 45 = some (45, .ireturn, 1, []) from by decide +kernel) rfl vc

theorem w_own06 {X : Scr} {dp : Nat} {h : Hp} {Q : Option Value → Hp → Prop}  (hs : HS h)
    (vc : Q (some (.int 6)) h) :
    Ends X dp 3 0 [.int 0, .int 6, .retAddr 0, .retAddr 0] [] h Q := by
  refine e_iload_n (show pAt 3 0 = some (0, .iload_n 0, 1, []) from by decide +kernel) rfl ?_
  refine e_if (t := 9) (show pAt 3 1 = some (1, .ifCond .lt 8, 3, []) from by decide +kernel) rfl (fun c1 => absurd c1 (by decide)) (fun c1 => ?_)
  refine e_iload_n (show pAt 3 4 = some (4, .iload_n 0, 1, []) from by decide +kernel) rfl ?_
  refine e_iconst (c := 2) (show pAt 3 5 = some (5, .iconst 2, 1, []) from by decide +kernel) (by decide) ?_
  refine e_icmp (t := 11) (show pAt 3 6 = some (6, .if_icmp .le 5, 3, []) from by decide +kernel) rfl (fun c2 => ?_) (fun c2 => absurd c2 (by decide))
  refine e_iload_n (show pAt 3 11 = some (11, .iload_n 1, 1, []) from by decide +kernel) rfl ?_
  refine e_istore_n (show pAt 3 12 = some (12, .istore_n 2, 1, []) from by decide +kernel) ⟨Nat.le_of_ble_eq_true rfl, rfl⟩ rfl ?_
  refine e_iconst (c := 0) (show pAt 3 13 = some (13, .iconst 0, 1, []) from by decide +kernel) (by decide) ?_
  refine e_istore_n (show pAt 3 14 = some (14, .istore_n 3, 1, []) from by decide +kernel) ⟨Nat.le_of_ble_eq_true rfl, rfl⟩ rfl ?_
  refine e_iload_n (show pAt 3 15 = some (15, .iload_n 3, 1, []) from by decide +kernel) rfl ?_
  refine e_bipush (c := 7) (show pAt 3 16 = some (16, .bipush 7, 2, []) from by decide +kernel) (by decide) ?_
  refine e_icmp (t := 58) (show pAt 3 18 = some (18, .if_icmp .ge 40, 3, []) from by decide +kernel) rfl (fun c3 => absurd c3 (by decide)) (fun c3 => ?_)
  refine e_iload_n (show pAt 3 21 = some (21, .iload_n 2, 1, []) from by decide +kernel) rfl ?_
  refine e_if (t := 58) (show pAt 3 22 = some (22, .ifCond .lt 36, 3, []) from by decide +kernel) rfl (fun c4 => absurd c4 (by decide)) (fun c4 => ?_)
  refine e_iload_n (show pAt 3 25 = some (25, .iload_n 2, 1, []) from by decide +kernel) rfl ?_
  refine e_bipush (c := 7) (show pAt 3 26 = some (26, .bipush 7, 2, []) from by decide +kernel) (by decide) ?_
  refine e_icmp (t := 58) (show pAt 3 28 = some (28, .if_icmp .ge 30, 3, []) from by decide +kernel) rfl (fun c5 => absurd c5 (by decide)) (fun c5 => ?_)
  refine e_gs2 (show pAt 3 31 = some (31, .getstatic 19, 3, [1, 0, 4064]) from by decide +kernel) ?_
  refine e_iload_n (show pAt 3 34 = some (34, .iload_n 0, 1, []) from by decide +kernel) rfl ?_
  refine e_bipush (c := 7) (show pAt 3 35 = some (35, .bipush 7, 2, []) from by decide +kernel) (by decide) ?_
  refine e_imul (show pAt 3 37 = some (37, .imul, 1, []) from by decide +kernel) ?_
  refine e_iload_n (show pAt 3 38 = some (38, .iload_n 2, 1, []) from by decide +kernel) rfl ?_
  refine e_iadd (show pAt 3 39 = some (39, .iadd, 1, []) from by decide +kernel) ?_
  refine e_so2 (show pAt 3 40 = some (40, .iaload, 1, []) from by decide +kernel) (by decide) ?_
  refine e_if (t := 46) (show pAt 3 41 = some (41, .ifCond .eq 5, 3, []) from by decide +kernel) rfl (fun c6 => absurd c6 (by decide)) (fun c6 => ?_)
  refine e_iload_n (show pAt 3 44 = some (44, .iload_n 2, 1, []) from by decide +kernel) rfl ?_
  exact e_retI (show pAt 3 45 = some (45, .ireturn, 1, []) from by decide +kernel) rfl vc

theorem w_own10 {X : Scr} {dp : Nat} {h : Hp} {Q : Option Value → Hp → Prop}  (hs : HS h)
    (vc : Q (some (.int 0)) h) :
    Ends X dp 3 0 [.int 1, .int 0, .retAddr 0, .retAddr 0] [] h Q := by
  refine e_iload_n (show pAt 3 0 = some (0, .iload_n 0, 1, []) from by decide +kernel) rfl ?_
  refine e_if (t := 9) (show pAt 3 1 = some (1, .ifCond .lt 8, 3, []) from by decide +kernel) rfl (fun c1 => absurd c1 (by decide)) (fun c1 => ?_)
  refine e_iload_n (show pAt 3 4 = some (4, .iload_n 0, 1, []) from by decide +kernel) rfl ?_
  refine e_iconst (c := 2) (show pAt 3 5 = some (5, .iconst 2, 1, []) from by decide +kernel) (by decide) ?_
  refine e_icmp (t := 11) (show pAt 3 6 = some (6, .if_icmp .le 5, 3, []) from by decide +kernel) rfl (fun c2 => ?_) (fun c2 => absurd c2 (by decide))
  refine e_iload_n (show pAt 3 11 = some (11, .iload_n 1, 1, []) from by decide +kernel) rfl ?_
  refine e_istore_n (show pAt 3 12 = some (12, .istore_n 2, 1, []) from by decide +kernel) ⟨Nat.le_of_ble_eq_true rfl, rfl⟩ rfl ?_
  refine e_iconst (c := 0) (show pAt 3 13 = some (13, .iconst 0, 1, []) from by decide +kernel) (by decide) ?_
  refine e_istore_n (show pAt 3 14 = some (14, .istore_n 3, 1, []) from by decide +kernel) ⟨Nat.le_of_ble_eq_true rfl, rfl⟩ rfl ?_
  refine e_iload_n (show pAt 3 15 = some (15, .iload_n 3, 1, []) from by decide +kernel) rfl ?_
  refine e_bipush (c := 7) (show pAt 3 16 = some (16, .bipush 7, 2, []) from by decide +kernel) (by decide) ?_
  refine e_icmp (t := 58) (show pAt 3 18 = some (18, .if_icmp .ge 40, 3, []) from by decide +kernel) rfl (fun c3 => absurd c3 (by decide)) (fun c3 => ?_)
  refine e_iload_n (show pAt 3 21 = some (21, .iload_n 2, 1, []) from by decide +kernel) rfl ?_
  refine e_if (t := 58) (show pAt 3 22 = some (22, .ifCond .lt 36, 3, []) from by decide +kernel) rfl (fun c4 => absurd c4 (by decide)) (fun c4 => ?_)
  refine e_iload_n (show pAt 3 25 = some (25, .iload_n 2, 1, []) from by decide +kernel) rfl ?_
  refine e_bipush (c := 7) (show pAt 3 26 = some (26, .bipush 7, 2, []) from by decide +kernel) (by decide) ?_
  refine e_icmp (t := 58) (show pAt 3 28 = some (28, .if_icmp .ge 30, 3, []) from by decide +kernel) rfl (fun c5 => absurd c5 (by decide)) (fun c5 => ?_)
  refine e_gs2 (show pAt 3 31 = some (31, .getstatic 19, 3, [1, 0, 4064]) from by decide +kernel) ?_
  refine e_iload_n (show pAt 3 34 = some (34, .iload_n 0, 1, []) from by decide +kernel) rfl ?_
  refine e_bipush (c := 7) (show pAt 3 35 = some (35, .bipush 7, 2, []) from by decide +kernel) (by decide) ?_
  refine e_imul (show pAt 3 37 = some (37, .imul, 1, []) from by decide +kernel) ?_
  refine e_iload_n (show pAt 3 38 = some (38, .iload_n 2, 1, []) from by decide +kernel) rfl ?_
  refine e_iadd (show pAt 3 39 = some (39, .iadd, 1, []) from by decide +kernel) ?_
  refine e_so2 (show pAt 3 40 = some (40, .iaload, 1, []) from by decide +kernel) (by decide) ?_
  refine e_if (t := 46) (show pAt 3 41 = some (41, .ifCond .eq 5, 3, []) from by decide +kernel) rfl (fun c6 => absurd c6 (by decide)) (fun c6 => ?_)
  refine e_iload_n (show pAt 3 44 = some (44, .iload_n 2, 1, []) from by decide +kernel) rfl ?_
  exact e_retI (show pAt 3 45 = some (45, .ireturn, 1, []) from by decide +kernel) rfl vc

theorem w_own11 {X : Scr} {dp : Nat} {h : Hp} {Q : Option Value → Hp → Prop}  (hs : HS h)
    (vc : Q (some (.int 1)) h) :
    Ends X dp 3 0 [.int 1, .int 1, .retAddr 0, .retAddr 0] [] h Q := by
  refine e_iload_n (show pAt 3 0 = some (0, .iload_n 0, 1, []) from by decide +kernel) rfl ?_
  refine e_if (t := 9) (show pAt 3 1 = some (1, .ifCond .lt 8, 3, []) from by decide +kernel) rfl (fun c1 => absurd c1 (by decide)) (fun c1 => ?_)
  refine e_iload_n (show pAt 3 4 = some (4, .iload_n 0, 1, []) from by decide +kernel) rfl ?_
  refine e_iconst (c := 2) (show pAt 3 5 = some (5, .iconst 2, 1, []) from by decide +kernel) (by decide) ?_
  refine e_icmp (t := 11) (show pAt 3 6 = some (6, .if_icmp .le 5, 3, []) from by decide +kernel) rfl (fun c2 => ?_) (fun c2 => absurd c2 (by decide))
  refine e_iload_n (show pAt 3 11 = some (11, .iload_n 1, 1, []) from by decide +kernel) rfl ?_
  refine e_istore_n (show pAt 3 12 = some (12, .istore_n 2, 1, []) from by decide +kernel) ⟨Nat.le_of_ble_eq_true rfl, rfl⟩ rfl ?_
  refine e_iconst (c := 0) (show pAt 3 13 = some (13, .iconst 0, 1, []) from by decide +kernel) (by decide) ?_
  refine e_istore_n (show pAt 3 14 = some (14, .istore_n 3, 1, []) from by decide +kernel) ⟨Nat.le_of_ble_eq_true rfl, rfl⟩ rfl ?_
  refine e_iload_n (show pAt 3 15 = some (15, .iload_n 3, 1, []) from by decide +kernel) rfl ?_
  refine e_bipush (c := 7) (show pAt 3 16 = some (16, .bipush 7, 2, []) from by decide +kernel) (by decide) ?_
  refine e_icmp (t := 58) (show pAt 3 18 = some (18, .if_icmp .ge 40, 3, []) from by decide +kernel) rfl (fun c3 => absurd c3 (by decide)) (fun c3 => ?_)
  refine e_iload_n (show pAt 3 21 = some (21, .iload_n 2, 1, []) from by decide +kernel) rfl ?_
  refine e_if (t := 58) (show pAt 3 22 = some (22, .ifCond .lt 36, 3, []) from by decide +kernel) rfl (fun c4 => absurd c4 (by decide)) (fun c4 => ?_)
  refine e_iload_n (show pAt 3 25 = some (25, .iload_n 2, 1, []) from by decide +kernel) rfl ?_
  refine e_bipush (c := 7) (show pAt 3 26 = some (26, .bipush 7, 2, []) from by decide +kernel) (by decide) ?_
  refine e_icmp (t := 58) (show pAt 3 28 = some (28, .if_icmp .ge 30, 3, []) from by decide +kernel) rfl (fun c5 => absurd c5 (by decide)) (fun c5 => ?_)
  refine e_gs2 (show pAt 3 31 = some (31, .getstatic 19, 3, [1, 0, 4064]) from by decide +kernel) ?_
  refine e_iload_n (show pAt 3 34 = some (34, .iload_n 0, 1, []) from by decide +kernel) rfl ?_
  refine e_bipush (c := 7) (show pAt 3 35 = some (35, .bipush 7, 2, []) from by decide +kernel) (by decide) ?_
  refine e_imul (show pAt 3 37 = some (37, .imul, 1, []) from by decide +kernel) ?_
  refine e_iload_n (show pAt 3 38 = some (38, .iload_n 2, 1, []) from by decide +kernel) rfl ?_
  refine e_iadd (show pAt 3 39 = some (39, .iadd, 1, []) from by decide +kernel) ?_
  refine e_so2 (show pAt 3 40 = some (40, .iaload, 1, []) from by decide +kernel) (by decide) ?_
  refine e_if (t := 46) (show pAt 3 41 = some (41, .ifCond .eq 5, 3, []) from by decide +kernel) rfl (fun c6 => absurd c6 (by decide)) (fun c6 => ?_)
  refine e_iload_n (show pAt 3 44 = some (44, .iload_n 2, 1, []) from by decide +kernel) rfl ?_
  exact e_retI (show pAt 3 45 = some (45, .ireturn, 1, []) from by decide +kernel) rfl vc

theorem w_own12 {X : Scr} {dp : Nat} {h : Hp} {Q : Option Value → Hp → Prop}  (hs : HS h)
    (vc : Q (some (.int (aboveL.getD (2 : Int32).toNatClampNeg 0))) h) :
    Ends X dp 3 0 [.int 1, .int 2, .retAddr 0, .retAddr 0] [] h Q := by
  refine e_iload_n (show pAt 3 0 = some (0, .iload_n 0, 1, []) from by decide +kernel) rfl ?_
  refine e_if (t := 9) (show pAt 3 1 = some (1, .ifCond .lt 8, 3, []) from by decide +kernel) rfl (fun c1 => absurd c1 (by decide)) (fun c1 => ?_)
  refine e_iload_n (show pAt 3 4 = some (4, .iload_n 0, 1, []) from by decide +kernel) rfl ?_
  refine e_iconst (c := 2) (show pAt 3 5 = some (5, .iconst 2, 1, []) from by decide +kernel) (by decide) ?_
  refine e_icmp (t := 11) (show pAt 3 6 = some (6, .if_icmp .le 5, 3, []) from by decide +kernel) rfl (fun c2 => ?_) (fun c2 => absurd c2 (by decide))
  refine e_iload_n (show pAt 3 11 = some (11, .iload_n 1, 1, []) from by decide +kernel) rfl ?_
  refine e_istore_n (show pAt 3 12 = some (12, .istore_n 2, 1, []) from by decide +kernel) ⟨Nat.le_of_ble_eq_true rfl, rfl⟩ rfl ?_
  refine e_iconst (c := 0) (show pAt 3 13 = some (13, .iconst 0, 1, []) from by decide +kernel) (by decide) ?_
  refine e_istore_n (show pAt 3 14 = some (14, .istore_n 3, 1, []) from by decide +kernel) ⟨Nat.le_of_ble_eq_true rfl, rfl⟩ rfl ?_
  refine e_iload_n (show pAt 3 15 = some (15, .iload_n 3, 1, []) from by decide +kernel) rfl ?_
  refine e_bipush (c := 7) (show pAt 3 16 = some (16, .bipush 7, 2, []) from by decide +kernel) (by decide) ?_
  refine e_icmp (t := 58) (show pAt 3 18 = some (18, .if_icmp .ge 40, 3, []) from by decide +kernel) rfl (fun c3 => absurd c3 (by decide)) (fun c3 => ?_)
  refine e_iload_n (show pAt 3 21 = some (21, .iload_n 2, 1, []) from by decide +kernel) rfl ?_
  refine e_if (t := 58) (show pAt 3 22 = some (22, .ifCond .lt 36, 3, []) from by decide +kernel) rfl (fun c4 => absurd c4 (by decide)) (fun c4 => ?_)
  refine e_iload_n (show pAt 3 25 = some (25, .iload_n 2, 1, []) from by decide +kernel) rfl ?_
  refine e_bipush (c := 7) (show pAt 3 26 = some (26, .bipush 7, 2, []) from by decide +kernel) (by decide) ?_
  refine e_icmp (t := 58) (show pAt 3 28 = some (28, .if_icmp .ge 30, 3, []) from by decide +kernel) rfl (fun c5 => absurd c5 (by decide)) (fun c5 => ?_)
  refine e_gs2 (show pAt 3 31 = some (31, .getstatic 19, 3, [1, 0, 4064]) from by decide +kernel) ?_
  refine e_iload_n (show pAt 3 34 = some (34, .iload_n 0, 1, []) from by decide +kernel) rfl ?_
  refine e_bipush (c := 7) (show pAt 3 35 = some (35, .bipush 7, 2, []) from by decide +kernel) (by decide) ?_
  refine e_imul (show pAt 3 37 = some (37, .imul, 1, []) from by decide +kernel) ?_
  refine e_iload_n (show pAt 3 38 = some (38, .iload_n 2, 1, []) from by decide +kernel) rfl ?_
  refine e_iadd (show pAt 3 39 = some (39, .iadd, 1, []) from by decide +kernel) ?_
  refine e_so2 (show pAt 3 40 = some (40, .iaload, 1, []) from by decide +kernel) (by decide) ?_
  refine e_if (t := 46) (show pAt 3 41 = some (41, .ifCond .eq 5, 3, []) from by decide +kernel) rfl (fun c6 => ?_) (fun c6 => absurd c6 (by decide))
  refine e_gs1 (show pAt 3 46 = some (46, .getstatic 22, 3, [0, 1, 4066]) from by decide +kernel) ?_
  refine e_iload_n (show pAt 3 49 = some (49, .iload_n 2, 1, []) from by decide +kernel) rfl ?_
  refine e_so1 (show pAt 3 50 = some (50, .iaload, 1, []) from by decide +kernel) (by decide) ?_
  refine e_istore_n (show pAt 3 51 = some (51, .istore_n 2, 1, []) from by decide +kernel) ⟨Nat.le_of_ble_eq_true rfl, rfl⟩ rfl ?_
  refine e_iinc (c := 1) (show pAt 3 52 = some (52, .iinc 3 1, 3, []) from by decide +kernel) rfl rfl (by decide) rfl ?_
  refine e_goto (t := 15) (show pAt 3 55 = some (55, .goto (-40), 3, []) from by decide +kernel) rfl ?_
  refine e_iload_n (show pAt 3 15 = some (15, .iload_n 3, 1, []) from by decide +kernel) rfl ?_
  refine e_bipush (c := 7) (show pAt 3 16 = some (16, .bipush 7, 2, []) from by decide +kernel) (by decide) ?_
  refine e_icmp (t := 58) (show pAt 3 18 = some (18, .if_icmp .ge 40, 3, []) from by decide +kernel) rfl (fun c7 => absurd c7 (by decide)) (fun c7 => ?_)
  refine e_iload_n (show pAt 3 21 = some (21, .iload_n 2, 1, []) from by decide +kernel) rfl ?_
  refine e_if (t := 58) (show pAt 3 22 = some (22, .ifCond .lt 36, 3, []) from by decide +kernel) rfl (fun c8 => absurd c8 (by decide)) (fun c8 => ?_)
  refine e_iload_n (show pAt 3 25 = some (25, .iload_n 2, 1, []) from by decide +kernel) rfl ?_
  refine e_bipush (c := 7) (show pAt 3 26 = some (26, .bipush 7, 2, []) from by decide +kernel) (by decide) ?_
  refine e_icmp (t := 58) (show pAt 3 28 = some (28, .if_icmp .ge 30, 3, []) from by decide +kernel) rfl (fun c9 => absurd c9 (by decide)) (fun c9 => ?_)
  refine e_gs2 (show pAt 3 31 = some (31, .getstatic 19, 3, [1, 0, 4064]) from by decide +kernel) ?_
  refine e_iload_n (show pAt 3 34 = some (34, .iload_n 0, 1, []) from by decide +kernel) rfl ?_
  refine e_bipush (c := 7) (show pAt 3 35 = some (35, .bipush 7, 2, []) from by decide +kernel) (by decide) ?_
  refine e_imul (show pAt 3 37 = some (37, .imul, 1, []) from by decide +kernel) ?_
  refine e_iload_n (show pAt 3 38 = some (38, .iload_n 2, 1, []) from by decide +kernel) rfl ?_
  refine e_iadd (show pAt 3 39 = some (39, .iadd, 1, []) from by decide +kernel) ?_
  refine e_so2 (show pAt 3 40 = some (40, .iaload, 1, []) from by decide +kernel) (by decide) ?_
  refine e_if (t := 46) (show pAt 3 41 = some (41, .ifCond .eq 5, 3, []) from by decide +kernel) rfl (fun c10 => absurd c10 (by decide)) (fun c10 => ?_)
  refine e_iload_n (show pAt 3 44 = some (44, .iload_n 2, 1, []) from by decide +kernel) rfl ?_
  exact e_retI (show pAt 3 45 = some (45, .ireturn, 1, []) from by decide +kernel) rfl vc

theorem w_own13 {X : Scr} {dp : Nat} {h : Hp} {Q : Option Value → Hp → Prop}  (hs : HS h)
    (vc : Q (some (.int (aboveL.getD (3 : Int32).toNatClampNeg 0))) h) :
    Ends X dp 3 0 [.int 1, .int 3, .retAddr 0, .retAddr 0] [] h Q := by
  refine e_iload_n (show pAt 3 0 = some (0, .iload_n 0, 1, []) from by decide +kernel) rfl ?_
  refine e_if (t := 9) (show pAt 3 1 = some (1, .ifCond .lt 8, 3, []) from by decide +kernel) rfl (fun c1 => absurd c1 (by decide)) (fun c1 => ?_)
  refine e_iload_n (show pAt 3 4 = some (4, .iload_n 0, 1, []) from by decide +kernel) rfl ?_
  refine e_iconst (c := 2) (show pAt 3 5 = some (5, .iconst 2, 1, []) from by decide +kernel) (by decide) ?_
  refine e_icmp (t := 11) (show pAt 3 6 = some (6, .if_icmp .le 5, 3, []) from by decide +kernel) rfl (fun c2 => ?_) (fun c2 => absurd c2 (by decide))
  refine e_iload_n (show pAt 3 11 = some (11, .iload_n 1, 1, []) from by decide +kernel) rfl ?_
  refine e_istore_n (show pAt 3 12 = some (12, .istore_n 2, 1, []) from by decide +kernel) ⟨Nat.le_of_ble_eq_true rfl, rfl⟩ rfl ?_
  refine e_iconst (c := 0) (show pAt 3 13 = some (13, .iconst 0, 1, []) from by decide +kernel) (by decide) ?_
  refine e_istore_n (show pAt 3 14 = some (14, .istore_n 3, 1, []) from by decide +kernel) ⟨Nat.le_of_ble_eq_true rfl, rfl⟩ rfl ?_
  refine e_iload_n (show pAt 3 15 = some (15, .iload_n 3, 1, []) from by decide +kernel) rfl ?_
  refine e_bipush (c := 7) (show pAt 3 16 = some (16, .bipush 7, 2, []) from by decide +kernel) (by decide) ?_
  refine e_icmp (t := 58) (show pAt 3 18 = some (18, .if_icmp .ge 40, 3, []) from by decide +kernel) rfl (fun c3 => absurd c3 (by decide)) (fun c3 => ?_)
  refine e_iload_n (show pAt 3 21 = some (21, .iload_n 2, 1, []) from by decide +kernel) rfl ?_
  refine e_if (t := 58) (show pAt 3 22 = some (22, .ifCond .lt 36, 3, []) from by decide +kernel) rfl (fun c4 => absurd c4 (by decide)) (fun c4 => ?_)
  refine e_iload_n (show pAt 3 25 = some (25, .iload_n 2, 1, []) from by decide +kernel) rfl ?_
  refine e_bipush (c := 7) (show pAt 3 26 = some (26, .bipush 7, 2, []) from by decide +kernel) (by decide) ?_
  refine e_icmp (t := 58) (show pAt 3 28 = some (28, .if_icmp .ge 30, 3, []) from by decide +kernel) rfl (fun c5 => absurd c5 (by decide)) (fun c5 => ?_)
  refine e_gs2 (show pAt 3 31 = some (31, .getstatic 19, 3, [1, 0, 4064]) from by decide +kernel) ?_
  refine e_iload_n (show pAt 3 34 = some (34, .iload_n 0, 1, []) from by decide +kernel) rfl ?_
  refine e_bipush (c := 7) (show pAt 3 35 = some (35, .bipush 7, 2, []) from by decide +kernel) (by decide) ?_
  refine e_imul (show pAt 3 37 = some (37, .imul, 1, []) from by decide +kernel) ?_
  refine e_iload_n (show pAt 3 38 = some (38, .iload_n 2, 1, []) from by decide +kernel) rfl ?_
  refine e_iadd (show pAt 3 39 = some (39, .iadd, 1, []) from by decide +kernel) ?_
  refine e_so2 (show pAt 3 40 = some (40, .iaload, 1, []) from by decide +kernel) (by decide) ?_
  refine e_if (t := 46) (show pAt 3 41 = some (41, .ifCond .eq 5, 3, []) from by decide +kernel) rfl (fun c6 => ?_) (fun c6 => absurd c6 (by decide))
  refine e_gs1 (show pAt 3 46 = some (46, .getstatic 22, 3, [0, 1, 4066]) from by decide +kernel) ?_
  refine e_iload_n (show pAt 3 49 = some (49, .iload_n 2, 1, []) from by decide +kernel) rfl ?_
  refine e_so1 (show pAt 3 50 = some (50, .iaload, 1, []) from by decide +kernel) (by decide) ?_
  refine e_istore_n (show pAt 3 51 = some (51, .istore_n 2, 1, []) from by decide +kernel) ⟨Nat.le_of_ble_eq_true rfl, rfl⟩ rfl ?_
  refine e_iinc (c := 1) (show pAt 3 52 = some (52, .iinc 3 1, 3, []) from by decide +kernel) rfl rfl (by decide) rfl ?_
  refine e_goto (t := 15) (show pAt 3 55 = some (55, .goto (-40), 3, []) from by decide +kernel) rfl ?_
  refine e_iload_n (show pAt 3 15 = some (15, .iload_n 3, 1, []) from by decide +kernel) rfl ?_
  refine e_bipush (c := 7) (show pAt 3 16 = some (16, .bipush 7, 2, []) from by decide +kernel) (by decide) ?_
  refine e_icmp (t := 58) (show pAt 3 18 = some (18, .if_icmp .ge 40, 3, []) from by decide +kernel) rfl (fun c7 => absurd c7 (by decide)) (fun c7 => ?_)
  refine e_iload_n (show pAt 3 21 = some (21, .iload_n 2, 1, []) from by decide +kernel) rfl ?_
  refine e_if (t := 58) (show pAt 3 22 = some (22, .ifCond .lt 36, 3, []) from by decide +kernel) rfl (fun c8 => absurd c8 (by decide)) (fun c8 => ?_)
  refine e_iload_n (show pAt 3 25 = some (25, .iload_n 2, 1, []) from by decide +kernel) rfl ?_
  refine e_bipush (c := 7) (show pAt 3 26 = some (26, .bipush 7, 2, []) from by decide +kernel) (by decide) ?_
  refine e_icmp (t := 58) (show pAt 3 28 = some (28, .if_icmp .ge 30, 3, []) from by decide +kernel) rfl (fun c9 => absurd c9 (by decide)) (fun c9 => ?_)
  refine e_gs2 (show pAt 3 31 = some (31, .getstatic 19, 3, [1, 0, 4064]) from by decide +kernel) ?_
  refine e_iload_n (show pAt 3 34 = some (34, .iload_n 0, 1, []) from by decide +kernel) rfl ?_
  refine e_bipush (c := 7) (show pAt 3 35 = some (35, .bipush 7, 2, []) from by decide +kernel) (by decide) ?_
  refine e_imul (show pAt 3 37 = some (37, .imul, 1, []) from by decide +kernel) ?_
  refine e_iload_n (show pAt 3 38 = some (38, .iload_n 2, 1, []) from by decide +kernel) rfl ?_
  refine e_iadd (show pAt 3 39 = some (39, .iadd, 1, []) from by decide +kernel) ?_
  refine e_so2 (show pAt 3 40 = some (40, .iaload, 1, []) from by decide +kernel) (by decide) ?_
  refine e_if (t := 46) (show pAt 3 41 = some (41, .ifCond .eq 5, 3, []) from by decide +kernel) rfl (fun c10 => absurd c10 (by decide)) (fun c10 => ?_)
  refine e_iload_n (show pAt 3 44 = some (44, .iload_n 2, 1, []) from by decide +kernel) rfl ?_
  exact e_retI (show pAt 3 45 = some (45, .ireturn, 1, []) from by decide +kernel) rfl vc

theorem w_own14 {X : Scr} {dp : Nat} {h : Hp} {Q : Option Value → Hp → Prop}  (hs : HS h)
    (vc : Q (some (.int 4)) h) :
    Ends X dp 3 0 [.int 1, .int 4, .retAddr 0, .retAddr 0] [] h Q := by
  refine e_iload_n (show pAt 3 0 = some (0, .iload_n 0, 1, []) from by decide +kernel) rfl ?_
  refine e_if (t := 9) (show pAt 3 1 = some (1, .ifCond .lt 8, 3, []) from by decide +kernel) rfl (fun c1 => absurd c1 (by decide)) (fun c1 => ?_)
  refine e_iload_n (show pAt 3 4 = some (4, .iload_n 0, 1, []) from by decide +kernel) rfl ?_
  refine e_iconst (c := 2) (show pAt 3 5 = some (5, .iconst 2, 1, []) from by decide +kernel) (by decide) ?_
  refine e_icmp (t := 11) (show pAt 3 6 = some (6, .if_icmp .le 5, 3, []) from by decide +kernel) rfl (fun c2 => ?_) (fun c2 => absurd c2 (by decide))
  refine e_iload_n (show pAt 3 11 = some (11, .iload_n 1, 1, []) from by decide +kernel) rfl ?_
  refine e_istore_n (show pAt 3 12 = some (12, .istore_n 2, 1, []) from by decide +kernel) ⟨Nat.le_of_ble_eq_true rfl, rfl⟩ rfl ?_
  refine e_iconst (c := 0) (show pAt 3 13 = some (13, .iconst 0, 1, []) from by decide +kernel) (by decide) ?_
  refine e_istore_n (show pAt 3 14 = some (14, .istore_n 3, 1, []) from by decide +kernel) ⟨Nat.le_of_ble_eq_true rfl, rfl⟩ rfl ?_
  refine e_iload_n (show pAt 3 15 = some (15, .iload_n 3, 1, []) from by decide +kernel) rfl ?_
  refine e_bipush (c := 7) (show pAt 3 16 = some (16, .bipush 7, 2, []) from by decide +kernel) (by decide) ?_
  refine e_icmp (t := 58) (show pAt 3 18 = some (18, .if_icmp .ge 40, 3, []) from by decide +kernel) rfl (fun c3 => absurd c3 (by decide)) (fun c3 => ?_)
  refine e_iload_n (show pAt 3 21 = some (21, .iload_n 2, 1, []) from by decide +kernel) rfl ?_
  refine e_if (t := 58) (show pAt 3 22 = some (22, .ifCond .lt 36, 3, []) from by decide +kernel) rfl (fun c4 => absurd c4 (by decide)) (fun c4 => ?_)
  refine e_iload_n (show pAt 3 25 = some (25, .iload_n 2, 1, []) from by decide +kernel) rfl ?_
  refine e_bipush (c := 7) (show pAt 3 26 = some (26, .bipush 7, 2, []) from by decide +kernel) (by decide) ?_
  refine e_icmp (t := 58) (show pAt 3 28 = some (28, .if_icmp .ge 30, 3, []) from by decide +kernel) rfl (fun c5 => absurd c5 (by decide)) (fun c5 => ?_)
  refine e_gs2 (show pAt 3 31 = some (31, .getstatic 19, 3, [1, 0, 4064]) from by decide +kernel) ?_
  refine e_iload_n (show pAt 3 34 = some (34, .iload_n 0, 1, []) from by decide +kernel) rfl ?_
  refine e_bipush (c := 7) (show pAt 3 35 = some (35, .bipush 7, 2, []) from by decide +kernel) (by decide) ?_
  refine e_imul (show pAt 3 37 = some (37, .imul, 1, []) from by decide +kernel) ?_
  refine e_iload_n (show pAt 3 38 = some (38, .iload_n 2, 1, []) from by decide +kernel) rfl ?_
  refine e_iadd (show pAt 3 39 = some (39, .iadd, 1, []) from by decide +kernel) ?_
  refine e_so2 (show pAt 3 40 = some (40, .iaload, 1, []) from by decide +kernel) (by decide) ?_
  refine e_if (t := 46) (show pAt 3 41 = some (41, .ifCond .eq 5, 3, []) from by decide +kernel) rfl (fun c6 => absurd c6 (by decide)) (fun c6 => ?_)
  refine e_iload_n (show pAt 3 44 = some (44, .iload_n 2, 1, []) from by decide +kernel) rfl ?_
  exact e_retI (show pAt 3 45 = some (45, .ireturn, 1, []) from by decide +kernel) rfl vc

theorem w_own15 {X : Scr} {dp : Nat} {h : Hp} {Q : Option Value → Hp → Prop}  (hs : HS h)
    (vc : Q (some (.int (aboveL.getD (aboveL.getD (5 : Int32).toNatClampNeg 0).toNatClampNeg 0))) h) :
    Ends X dp 3 0 [.int 1, .int 5, .retAddr 0, .retAddr 0] [] h Q := by
  refine e_iload_n (show pAt 3 0 = some (0, .iload_n 0, 1, []) from by decide +kernel) rfl ?_
  refine e_if (t := 9) (show pAt 3 1 = some (1, .ifCond .lt 8, 3, []) from by decide +kernel) rfl (fun c1 => absurd c1 (by decide)) (fun c1 => ?_)
  refine e_iload_n (show pAt 3 4 = some (4, .iload_n 0, 1, []) from by decide +kernel) rfl ?_
  refine e_iconst (c := 2) (show pAt 3 5 = some (5, .iconst 2, 1, []) from by decide +kernel) (by decide) ?_
  refine e_icmp (t := 11) (show pAt 3 6 = some (6, .if_icmp .le 5, 3, []) from by decide +kernel) rfl (fun c2 => ?_) (fun c2 => absurd c2 (by decide))
  refine e_iload_n (show pAt 3 11 = some (11, .iload_n 1, 1, []) from by decide +kernel) rfl ?_
  refine e_istore_n (show pAt 3 12 = some (12, .istore_n 2, 1, []) from by decide +kernel) ⟨Nat.le_of_ble_eq_true rfl, rfl⟩ rfl ?_
  refine e_iconst (c := 0) (show pAt 3 13 = some (13, .iconst 0, 1, []) from by decide +kernel) (by decide) ?_
  refine e_istore_n (show pAt 3 14 = some (14, .istore_n 3, 1, []) from by decide +kernel) ⟨Nat.le_of_ble_eq_true rfl, rfl⟩ rfl ?_
  refine e_iload_n (show pAt 3 15 = some (15, .iload_n 3, 1, []) from by decide +kernel) rfl ?_
  refine e_bipush (c := 7) (show pAt 3 16 = some (16, .bipush 7, 2, []) from by decide +kernel) (by decide) ?_
  refine e_icmp (t := 58) (show pAt 3 18 = some (18, .if_icmp .ge 40, 3, []) from by decide +kernel) rfl (fun c3 => absurd c3 (by decide)) (fun c3 => ?_)
  refine e_iload_n (show pAt 3 21 = some (21, .iload_n 2, 1, []) from by decide +kernel) rfl ?_
  refine e_if (t := 58) (show pAt 3 22 = some (22, .ifCond .lt 36, 3, []) from by decide +kernel) rfl (fun c4 => absurd c4 (by decide)) (fun c4 => ?_)
  refine e_iload_n (show pAt 3 25 = some (25, .iload_n 2, 1, []) from by decide +kernel) rfl ?_
  refine e_bipush (c := 7) (show pAt 3 26 = some (26, .bipush 7, 2, []) from by decide +kernel) (by decide) ?_
  refine e_icmp (t := 58) (show pAt 3 28 = some (28, .if_icmp .ge 30, 3, []) from by decide +kernel) rfl (fun c5 => absurd c5 (by decide)) (fun c5 => ?_)
  refine e_gs2 (show pAt 3 31 = some (31, .getstatic 19, 3, [1, 0, 4064]) from by decide +kernel) ?_
  refine e_iload_n (show pAt 3 34 = some (34, .iload_n 0, 1, []) from by decide +kernel) rfl ?_
  refine e_bipush (c := 7) (show pAt 3 35 = some (35, .bipush 7, 2, []) from by decide +kernel) (by decide) ?_
  refine e_imul (show pAt 3 37 = some (37, .imul, 1, []) from by decide +kernel) ?_
  refine e_iload_n (show pAt 3 38 = some (38, .iload_n 2, 1, []) from by decide +kernel) rfl ?_
  refine e_iadd (show pAt 3 39 = some (39, .iadd, 1, []) from by decide +kernel) ?_
  refine e_so2 (show pAt 3 40 = some (40, .iaload, 1, []) from by decide +kernel) (by decide) ?_
  refine e_if (t := 46) (show pAt 3 41 = some (41, .ifCond .eq 5, 3, []) from by decide +kernel) rfl (fun c6 => ?_) (fun c6 => absurd c6 (by decide))
  refine e_gs1 (show pAt 3 46 = some (46, .getstatic 22, 3, [0, 1, 4066]) from by decide +kernel) ?_
  refine e_iload_n (show pAt 3 49 = some (49, .iload_n 2, 1, []) from by decide +kernel) rfl ?_
  refine e_so1 (show pAt 3 50 = some (50, .iaload, 1, []) from by decide +kernel) (by decide) ?_
  refine e_istore_n (show pAt 3 51 = some (51, .istore_n 2, 1, []) from by decide +kernel) ⟨Nat.le_of_ble_eq_true rfl, rfl⟩ rfl ?_
  refine e_iinc (c := 1) (show pAt 3 52 = some (52, .iinc 3 1, 3, []) from by decide +kernel) rfl rfl (by decide) rfl ?_
  refine e_goto (t := 15) (show pAt 3 55 = some (55, .goto (-40), 3, []) from by decide +kernel) rfl ?_
  refine e_iload_n (show pAt 3 15 = some (15, .iload_n 3, 1, []) from by decide +kernel) rfl ?_
  refine e_bipush (c := 7) (show pAt 3 16 = some (16, .bipush 7, 2, []) from by decide +kernel) (by decide) ?_
  refine e_icmp (t := 58) (show pAt 3 18 = some (18, .if_icmp .ge 40, 3, []) from by decide +kernel) rfl (fun c7 => absurd c7 (by decide)) (fun c7 => ?_)
  refine e_iload_n (show pAt 3 21 = some (21, .iload_n 2, 1, []) from by decide +kernel) rfl ?_
  refine e_if (t := 58) (show pAt 3 22 = some (22, .ifCond .lt 36, 3, []) from by decide +kernel) rfl (fun c8 => absurd c8 (by decide)) (fun c8 => ?_)
  refine e_iload_n (show pAt 3 25 = some (25, .iload_n 2, 1, []) from by decide +kernel) rfl ?_
  refine e_bipush (c := 7) (show pAt 3 26 = some (26, .bipush 7, 2, []) from by decide +kernel) (by decide) ?_
  refine e_icmp (t := 58) (show pAt 3 28 = some (28, .if_icmp .ge 30, 3, []) from by decide +kernel) rfl (fun c9 => absurd c9 (by decide)) (fun c9 => ?_)
  refine e_gs2 (show pAt 3 31 = some (31, .getstatic 19, 3, [1, 0, 4064]) from by decide +kernel) ?_
  refine e_iload_n (show pAt 3 34 = some (34, .iload_n 0, 1, []) from by decide +kernel) rfl ?_
  refine e_bipush (c := 7) (show pAt 3 35 = some (35, .bipush 7, 2, []) from by decide +kernel) (by decide) ?_
  refine e_imul (show pAt 3 37 = some (37, .imul, 1, []) from by decide +kernel) ?_
  refine e_iload_n (show pAt 3 38 = some (38, .iload_n 2, 1, []) from by decide +kernel) rfl ?_
  refine e_iadd (show pAt 3 39 = some (39, .iadd, 1, []) from by decide +kernel) ?_
  refine e_so2 (show pAt 3 40 = some (40, .iaload, 1, []) from by decide +kernel) (by decide) ?_
  refine e_if (t := 46) (show pAt 3 41 = some (41, .ifCond .eq 5, 3, []) from by decide +kernel) rfl (fun c10 => ?_) (fun c10 => absurd c10 (by decide))
  refine e_gs1 (show pAt 3 46 = some (46, .getstatic 22, 3, [0, 1, 4066]) from by decide +kernel) ?_
  refine e_iload_n (show pAt 3 49 = some (49, .iload_n 2, 1, []) from by decide +kernel) rfl ?_
  refine e_so1 (show pAt 3 50 = some (50, .iaload, 1, []) from by decide +kernel) (by decide) ?_
  refine e_istore_n (show pAt 3 51 = some (51, .istore_n 2, 1, []) from by decide +kernel) ⟨Nat.le_of_ble_eq_true rfl, rfl⟩ rfl ?_
  refine e_iinc (c := 1) (show pAt 3 52 = some (52, .iinc 3 1, 3, []) from by decide +kernel) rfl rfl (by decide) rfl ?_
  refine e_goto (t := 15) (show pAt 3 55 = some (55, .goto (-40), 3, []) from by decide +kernel) rfl ?_
  refine e_iload_n (show pAt 3 15 = some (15, .iload_n 3, 1, []) from by decide +kernel) rfl ?_
  refine e_bipush (c := 7) (show pAt 3 16 = some (16, .bipush 7, 2, []) from by decide +kernel) (by decide) ?_
  refine e_icmp (t := 58) (show pAt 3 18 = some (18, .if_icmp .ge 40, 3, []) from by decide +kernel) rfl (fun c11 => absurd c11 (by decide)) (fun c11 => ?_)
  refine e_iload_n (show pAt 3 21 = some (21, .iload_n 2, 1, []) from by decide +kernel) rfl ?_
  refine e_if (t := 58) (show pAt 3 22 = some (22, .ifCond .lt 36, 3, []) from by decide +kernel) rfl (fun c12 => absurd c12 (by decide)) (fun c12 => ?_)
  refine e_iload_n (show pAt 3 25 = some (25, .iload_n 2, 1, []) from by decide +kernel) rfl ?_
  refine e_bipush (c := 7) (show pAt 3 26 = some (26, .bipush 7, 2, []) from by decide +kernel) (by decide) ?_
  refine e_icmp (t := 58) (show pAt 3 28 = some (28, .if_icmp .ge 30, 3, []) from by decide +kernel) rfl (fun c13 => absurd c13 (by decide)) (fun c13 => ?_)
  refine e_gs2 (show pAt 3 31 = some (31, .getstatic 19, 3, [1, 0, 4064]) from by decide +kernel) ?_
  refine e_iload_n (show pAt 3 34 = some (34, .iload_n 0, 1, []) from by decide +kernel) rfl ?_
  refine e_bipush (c := 7) (show pAt 3 35 = some (35, .bipush 7, 2, []) from by decide +kernel) (by decide) ?_
  refine e_imul (show pAt 3 37 = some (37, .imul, 1, []) from by decide +kernel) ?_
  refine e_iload_n (show pAt 3 38 = some (38, .iload_n 2, 1, []) from by decide +kernel) rfl ?_
  refine e_iadd (show pAt 3 39 = some (39, .iadd, 1, []) from by decide +kernel) ?_
  refine e_so2 (show pAt 3 40 = some (40, .iaload, 1, []) from by decide +kernel) (by decide) ?_
  refine e_if (t := 46) (show pAt 3 41 = some (41, .ifCond .eq 5, 3, []) from by decide +kernel) rfl (fun c14 => absurd c14 (by decide)) (fun c14 => ?_)
  refine e_iload_n (show pAt 3 44 = some (44, .iload_n 2, 1, []) from by decide +kernel) rfl ?_
  exact e_retI (show pAt 3 45 = some (45, .ireturn, 1, []) from by decide +kernel) rfl vc

theorem w_own16 {X : Scr} {dp : Nat} {h : Hp} {Q : Option Value → Hp → Prop}  (hs : HS h)
    (vc : Q (some (.int 6)) h) :
    Ends X dp 3 0 [.int 1, .int 6, .retAddr 0, .retAddr 0] [] h Q := by
  refine e_iload_n (show pAt 3 0 = some (0, .iload_n 0, 1, []) from by decide +kernel) rfl ?_
  refine e_if (t := 9) (show pAt 3 1 = some (1, .ifCond .lt 8, 3, []) from by decide +kernel) rfl (fun c1 => absurd c1 (by decide)) (fun c1 => ?_)
  refine e_iload_n (show pAt 3 4 = some (4, .iload_n 0, 1, []) from by decide +kernel) rfl ?_
  refine e_iconst (c := 2) (show pAt 3 5 = some (5, .iconst 2, 1, []) from by decide +kernel) (by decide) ?_
  refine e_icmp (t := 11) (show pAt 3 6 = some (6, .if_icmp .le 5, 3, []) from by decide +kernel) rfl (fun c2 => ?_) (fun c2 => absurd c2 (by decide))
  refine e_iload_n (show pAt 3 11 = some (11, .iload_n 1, 1, []) from by decide +kernel) rfl ?_
  refine e_istore_n (show pAt 3 12 = some (12, .istore_n 2, 1, []) from by decide +kernel) ⟨Nat.le_of_ble_eq_true rfl, rfl⟩ rfl ?_
  refine e_iconst (c := 0) (show pAt 3 13 = some (13, .iconst 0, 1, []) from by decide +kernel) (by decide) ?_
  refine e_istore_n (show pAt 3 14 = some (14, .istore_n 3, 1, []) from by decide +kernel) ⟨Nat.le_of_ble_eq_true rfl, rfl⟩ rfl ?_
  refine e_iload_n (show pAt 3 15 = some (15, .iload_n 3, 1, []) from by decide +kernel) rfl ?_
  refine e_bipush (c := 7) (show pAt 3 16 = some (16, .bipush 7, 2, []) from by decide +kernel) (by decide) ?_
  refine e_icmp (t := 58) (show pAt 3 18 = some (18, .if_icmp .ge 40, 3, []) from by decide +kernel) rfl (fun c3 => absurd c3 (by decide)) (fun c3 => ?_)
  refine e_iload_n (show pAt 3 21 = some (21, .iload_n 2, 1, []) from by decide +kernel) rfl ?_
  refine e_if (t := 58) (show pAt 3 22 = some (22, .ifCond .lt 36, 3, []) from by decide +kernel) rfl (fun c4 => absurd c4 (by decide)) (fun c4 => ?_)
  refine e_iload_n (show pAt 3 25 = some (25, .iload_n 2, 1, []) from by decide +kernel) rfl ?_
  refine e_bipush (c := 7) (show pAt 3 26 = some (26, .bipush 7, 2, []) from by decide +kernel) (by decide) ?_
  refine e_icmp (t := 58) (show pAt 3 28 = some (28, .if_icmp .ge 30, 3, []) from by decide +kernel) rfl (fun c5 => absurd c5 (by decide)) (fun c5 => ?_)
  refine e_gs2 (show pAt 3 31 = some (31, .getstatic 19, 3, [1, 0, 4064]) from by decide +kernel) ?_
  refine e_iload_n (show pAt 3 34 = some (34, .iload_n 0, 1, []) from by decide +kernel) rfl ?_
  refine e_bipush (c := 7) (show pAt 3 35 = some (35, .bipush 7, 2, []) from by decide +kernel) (by decide) ?_
  refine e_imul (show pAt 3 37 = some (37, .imul, 1, []) from by decide +kernel) ?_
  refine e_iload_n (show pAt 3 38 = some (38, .iload_n 2, 1, []) from by decide +kernel) rfl ?_
  refine e_iadd (show pAt 3 39 = some (39, .iadd, 1, []) from by decide +kernel) ?_
  refine e_so2 (show pAt 3 40 = some (40, .iaload, 1, []) from by decide +kernel) (by decide) ?_
  refine e_if (t := 46) (show pAt 3 41 = some (41, .ifCond .eq 5, 3, []) from by decide +kernel) rfl (fun c6 => absurd c6 (by decide)) (fun c6 => ?_)
  refine e_iload_n (show pAt 3 44 = some (44, .iload_n 2, 1, []) from by decide +kernel) rfl ?_
  exact e_retI (show pAt 3 45 = some (45, .ireturn, 1, []) from by decide +kernel) rfl vc

theorem w_own20 {X : Scr} {dp : Nat} {h : Hp} {Q : Option Value → Hp → Prop}  (hs : HS h)
    (vc : Q (some (.int 0)) h) :
    Ends X dp 3 0 [.int 2, .int 0, .retAddr 0, .retAddr 0] [] h Q := by
  refine e_iload_n (show pAt 3 0 = some (0, .iload_n 0, 1, []) from by decide +kernel) rfl ?_
  refine e_if (t := 9) (show pAt 3 1 = some (1, .ifCond .lt 8, 3, []) from by decide +kernel) rfl (fun c1 => absurd c1 (by decide)) (fun c1 => ?_)
  refine e_iload_n (show pAt 3 4 = some (4, .iload_n 0, 1, []) from by decide +kernel) rfl ?_
  refine e_iconst (c := 2) (show pAt 3 5 = some (5, .iconst 2, 1, []) from by decide +kernel) (by decide) ?_
  refine e_icmp (t := 11) (show pAt 3 6 = some (6, .if_icmp .le 5, 3, []) from by decide +kernel) rfl (fun c2 => ?_) (fun c2 => absurd c2 (by decide))
  refine e_iload_n (show pAt 3 11 = some (11, .iload_n 1, 1, []) from by decide +kernel) rfl ?_
  refine e_istore_n (show pAt 3 12 = some (12, .istore_n 2, 1, []) from by decide +kernel) ⟨Nat.le_of_ble_eq_true rfl, rfl⟩ rfl ?_
  refine e_iconst (c := 0) (show pAt 3 13 = some (13, .iconst 0, 1, []) from by decide +kernel) (by decide) ?_
  refine e_istore_n (show pAt 3 14 = some (14, .istore_n 3, 1, []) from by decide +kernel) ⟨Nat.le_of_ble_eq_true rfl, rfl⟩ rfl ?_
  refine e_iload_n (show pAt 3 15 = some (15, .iload_n 3, 1, []) from by decide +kernel) rfl ?_
  refine e_bipush (c := 7) (show pAt 3 16 = some (16, .bipush 7, 2, []) from by decide +kernel) (by decide) ?_
  refine e_icmp (t := 58) (show pAt 3 18 = some (18, .if_icmp .ge 40, 3, []) from by decide +kernel) rfl (fun c3 => absurd c3 (by decide)) (fun c3 => ?_)
  refine e_iload_n (show pAt 3 21 = some (21, .iload_n 2, 1, []) from by decide +kernel) rfl ?_
  refine e_if (t := 58) (show pAt 3 22 = some (22, .ifCond .lt 36, 3, []) from by decide +kernel) rfl (fun c4 => absurd c4 (by decide)) (fun c4 => ?_)
  refine e_iload_n (show pAt 3 25 = some (25, .iload_n 2, 1, []) from by decide +kernel) rfl ?_
  refine e_bipush (c := 7) (show pAt 3 26 = some (26, .bipush 7, 2, []) from by decide +kernel) (by decide) ?_
  refine e_icmp (t := 58) (show pAt 3 28 = some (28, .if_icmp .ge 30, 3, []) from by decide +kernel) rfl (fun c5 => absurd c5 (by decide)) (fun c5 => ?_)
  refine e_gs2 (show pAt 3 31 = some (31, .getstatic 19, 3, [1, 0, 4064]) from by decide +kernel) ?_
  refine e_iload_n (show pAt 3 34 = some (34, .iload_n 0, 1, []) from by decide +kernel) rfl ?_
  refine e_bipush (c := 7) (show pAt 3 35 = some (35, .bipush 7, 2, []) from by decide +kernel) (by decide) ?_
  refine e_imul (show pAt 3 37 = some (37, .imul, 1, []) from by decide +kernel) ?_
  refine e_iload_n (show pAt 3 38 = some (38, .iload_n 2, 1, []) from by decide +kernel) rfl ?_
  refine e_iadd (show pAt 3 39 = some (39, .iadd, 1, []) from by decide +kernel) ?_
  refine e_so2 (show pAt 3 40 = some (40, .iaload, 1, []) from by decide +kernel) (by decide) ?_
  refine e_if (t := 46) (show pAt 3 41 = some (41, .ifCond .eq 5, 3, []) from by decide +kernel) rfl (fun c6 => absurd c6 (by decide)) (fun c6 => ?_)
  refine e_iload_n (show pAt 3 44 = some (44, .iload_n 2, 1, []) from by decide +kernel) rfl ?_
  exact e_retI (show pAt 3 45 = some (45, .ireturn, 1, []) from by decide +kernel) rfl vc

theorem w_own21 {X : Scr} {dp : Nat} {h : Hp} {Q : Option Value → Hp → Prop}  (hs : HS h)
    (vc : Q (some (.int (aboveL.getD (1 : Int32).toNatClampNeg 0))) h) :
    Ends X dp 3 0 [.int 2, .int 1, .retAddr 0, .retAddr 0] [] h Q := by
  refine e_iload_n (show pAt 3 0 = some (0, .iload_n 0, 1, []) from by decide +kernel) rfl ?_
  refine e_if (t := 9) (show pAt 3 1 = some (1, .ifCond .lt 8, 3, []) from by decide +kernel) rfl (fun c1 => absurd c1 (by decide)) (fun c1 => ?_)
  refine e_iload_n (show pAt 3 4 = some (4, .iload_n 0, 1, []) from by decide +kernel) rfl ?_
  refine e_iconst (c := 2) (show pAt 3 5 = some (5, .iconst 2, 1, []) from by decide +kernel) (by decide) ?_
  refine e_icmp (t := 11) (show pAt 3 6 = some (6, .if_icmp .le 5, 3, []) from by decide +kernel) rfl (fun c2 => ?_) (fun c2 => absurd c2 (by decide))
  refine e_iload_n (show pAt 3 11 = some (11, .iload_n 1, 1, []) from by decide +kernel) rfl ?_
  refine e_istore_n (show pAt 3 12 = some (12, .istore_n 2, 1, []) from by decide +kernel) ⟨Nat.le_of_ble_eq_true rfl, rfl⟩ rfl ?_
  refine e_iconst (c := 0) (show pAt 3 13 = some (13, .iconst 0, 1, []) from by decide +kernel) (by decide) ?_
  refine e_istore_n (show pAt 3 14 = some (14, .istore_n 3, 1, []) from by decide +kernel) ⟨Nat.le_of_ble_eq_true rfl, rfl⟩ rfl ?_
  refine e_iload_n (show pAt 3 15 = some (15, .iload_n 3, 1, []) from by decide +kernel) rfl ?_
  refine e_bipush (c := 7) (show pAt 3 16 = some (16, .bipush 7, 2, []) from by decide +kernel) (by decide) ?_
  refine e_icmp (t := 58) (show pAt 3 18 = some (18, .if_icmp .ge 40, 3, []) from by decide +kernel) rfl (fun c3 => absurd c3 (by decide)) (fun c3 => ?_)
  refine e_iload_n (show pAt 3 21 = some (21, .iload_n 2, 1, []) from by decide +kernel) rfl ?_
  refine e_if (t := 58) (show pAt 3 22 = some (22, .ifCond .lt 36, 3, []) from by decide +kernel) rfl (fun c4 => absurd c4 (by decide)) (fun c4 => ?_)
  refine e_iload_n (show pAt 3 25 = some (25, .iload_n 2, 1, []) from by decide +kernel) rfl ?_
  refine e_bipush (c := 7) (show pAt 3 26 = some (26, .bipush 7, 2, []) from by decide +kernel) (by decide) ?_
  refine e_icmp (t := 58) (show pAt 3 28 = some (28, .if_icmp .ge 30, 3, []) from by decide +kernel) rfl (fun c5 => absurd c5 (by decide)) (fun c5 => ?_)
  refine e_gs2 (show pAt 3 31 = some (31, .getstatic 19, 3, [1, 0, 4064]) from by decide +kernel) ?_
  refine e_iload_n (show pAt 3 34 = some (34, .iload_n 0, 1, []) from by decide +kernel) rfl ?_
  refine e_bipush (c := 7) (show pAt 3 35 = some (35, .bipush 7, 2, []) from by decide +kernel) (by decide) ?_
  refine e_imul (show pAt 3 37 = some (37, .imul, 1, []) from by decide +kernel) ?_
  refine e_iload_n (show pAt 3 38 = some (38, .iload_n 2, 1, []) from by decide +kernel) rfl ?_
  refine e_iadd (show pAt 3 39 = some (39, .iadd, 1, []) from by decide +kernel) ?_
  refine e_so2 (show pAt 3 40 = some (40, .iaload, 1, []) from by decide +kernel) (by decide) ?_
  refine e_if (t := 46) (show pAt 3 41 = some (41, .ifCond .eq 5, 3, []) from by decide +kernel) rfl (fun c6 => ?_) (fun c6 => absurd c6 (by decide))
  refine e_gs1 (show pAt 3 46 = some (46, .getstatic 22, 3, [0, 1, 4066]) from by decide +kernel) ?_
  refine e_iload_n (show pAt 3 49 = some (49, .iload_n 2, 1, []) from by decide +kernel) rfl ?_
  refine e_so1 (show pAt 3 50 = some (50, .iaload, 1, []) from by decide +kernel) (by decide) ?_
  refine e_istore_n (show pAt 3 51 = some (51, .istore_n 2, 1, []) from by decide +kernel) ⟨Nat.le_of_ble_eq_true rfl, rfl⟩ rfl ?_
  refine e_iinc (c := 1) (show pAt 3 52 = some (52, .iinc 3 1, 3, []) from by decide +kernel) rfl rfl (by decide) rfl ?_
  refine e_goto (t := 15) (show pAt 3 55 = some (55, .goto (-40), 3, []) from by decide +kernel) rfl ?_
  refine e_iload_n (show pAt 3 15 = some (15, .iload_n 3, 1, []) from by decide +kernel) rfl ?_
  refine e_bipush (c := 7) (show pAt 3 16 = some (16, .bipush 7, 2, []) from by decide +kernel) (by decide) ?_
  refine e_icmp (t := 58) (show pAt 3 18 = some (18, .if_icmp .ge 40, 3, []) from by decide +kernel) rfl (fun c7 => absurd c7 (by decide)) (fun c7 => ?_)
  refine e_iload_n (show pAt 3 21 = some (21, .iload_n 2, 1, []) from by decide +kernel) rfl ?_
  refine e_if (t := 58) (show pAt 3 22 = some (22, .ifCond .lt 36, 3, []) from by decide +kernel) rfl (fun c8 => absurd c8 (by decide)) (fun c8 => ?_)
  refine e_iload_n (show pAt 3 25 = some (25, .iload_n 2, 1, []) from by decide +kernel) rfl ?_
  refine e_bipush (c := 7) (show pAt 3 26 = some (26, .bipush 7, 2, []) from by decide +kernel) (by decide) ?_
  refine e_icmp (t := 58) (show pAt 3 28 = some (28, .if_icmp .ge 30, 3, []) from by decide +kernel) rfl (fun c9 => absurd c9 (by decide)) (fun c9 => ?_)
  refine e_gs2 (show pAt 3 31 = some (31, .getstatic 19, 3, [1, 0, 4064]) from by decide +kernel) ?_
  refine e_iload_n (show pAt 3 34 = some (34, .iload_n 0, 1, []) from by decide +kernel) rfl ?_
  refine e_bipush (c := 7) (show pAt 3 35 = some (35, .bipush 7, 2, []) from by decide +kernel) (by decide) ?_
  refine e_imul (show pAt 3 37 = some (37, .imul, 1, []) from by decide +kernel) ?_
  refine e_iload_n (show pAt 3 38 = some (38, .iload_n 2, 1, []) from by decide +kernel) rfl ?_
  refine e_iadd (show pAt 3 39 = some (39, .iadd, 1, []) from by decide +kernel) ?_
  refine e_so2 (show pAt 3 40 = some (40, .iaload, 1, []) from by decide +kernel) (by decide) ?_
  refine e_if (t := 46) (show pAt 3 41 = some (41, .ifCond .eq 5, 3, []) from by decide +kernel) rfl (fun c10 => absurd c10 (by decide)) (fun c10 => ?_)
  refine e_iload_n (show pAt 3 44 = some (44, .iload_n 2, 1, []) from by decide +kernel) rfl ?_
  exact e_retI (show pAt 3 45 = some (45, .ireturn, 1, []) from by decide +kernel) rfl vc

theorem w_own22 {X : Scr} {dp : Nat} {h : Hp} {Q : Option Value → Hp → Prop}  (hs : HS h)
    (vc : Q (some (.int (aboveL.getD (2 : Int32).toNatClampNeg 0))) h) :
    Ends X dp 3 0 [.int 2, .int 2, .retAddr 0, .retAddr 0] [] h Q := by
  refine e_iload_n (show pAt 3 0 = some (0, .iload_n 0, 1, []) from by decide +kernel) rfl ?_
  refine e_if (t := 9) (show pAt 3 1 = some (1, .ifCond .lt 8, 3, []) from by decide +kernel) rfl (fun c1 => absurd c1 (by decide)) (fun c1 => ?_)
  refine e_iload_n (show pAt 3 4 = some (4, .iload_n 0, 1, []) from by decide +kernel) rfl ?_
  refine e_iconst (c := 2) (show pAt 3 5 = some (5, .iconst 2, 1, []) from by decide +kernel) (by decide) ?_
  refine e_icmp (t := 11) (show pAt 3 6 = some (6, .if_icmp .le 5, 3, []) from by decide +kernel) rfl (fun c2 => ?_) (fun c2 => absurd c2 (by decide))
  refine e_iload_n (show pAt 3 11 = some (11, .iload_n 1, 1, []) from by decide +kernel) rfl ?_
  refine e_istore_n (show pAt 3 12 = some (12, .istore_n 2, 1, []) from by decide +kernel) ⟨Nat.le_of_ble_eq_true rfl, rfl⟩ rfl ?_
  refine e_iconst (c := 0) (show pAt 3 13 = some (13, .iconst 0, 1, []) from by decide +kernel) (by decide) ?_
  refine e_istore_n (show pAt 3 14 = some (14, .istore_n 3, 1, []) from by decide +kernel) ⟨Nat.le_of_ble_eq_true rfl, rfl⟩ rfl ?_
  refine e_iload_n (show pAt 3 15 = some (15, .iload_n 3, 1, []) from by decide +kernel) rfl ?_
  refine e_bipush (c := 7) (show pAt 3 16 = some (16, .bipush 7, 2, []) from by decide +kernel) (by decide) ?_
  refine e_icmp (t := 58) (show pAt 3 18 = some (18, .if_icmp .ge 40, 3, []) from by decide +kernel) rfl (fun c3 => absurd c3 (by decide)) (fun c3 => ?_)
  refine e_iload_n (show pAt 3 21 = some (21, .iload_n 2, 1, []) from by decide +kernel) rfl ?_
  refine e_if (t := 58) (show pAt 3 22 = some (22, .ifCond .lt 36, 3, []) from by decide +kernel) rfl (fun c4 => absurd c4 (by decide)) (fun c4 => ?_)
  refine e_iload_n (show pAt 3 25 = some (25, .iload_n 2, 1, []) from by decide +kernel) rfl ?_
  refine e_bipush (c := 7) (show pAt 3 26 = some (26, .bipush 7, 2, []) from by decide +kernel) (by decide) ?_
  refine e_icmp (t := 58) (show pAt 3 28 = some (28, .if_icmp .ge 30, 3, []) from by decide +kernel) rfl (fun c5 => absurd c5 (by decide)) (fun c5 => ?_)
  refine e_gs2 (show pAt 3 31 = some (31, .getstatic 19, 3, [1, 0, 4064]) from by decide +kernel) ?_
  refine e_iload_n (show pAt 3 34 = some (34, .iload_n 0, 1, []) from by decide +kernel) rfl ?_
  refine e_bipush (c := 7) (show pAt 3 35 = some (35, .bipush 7, 2, []) from by decide +kernel) (by decide) ?_
  refine e_imul (show pAt 3 37 = some (37, .imul, 1, []) from by decide +kernel) ?_
  refine e_iload_n (show pAt 3 38 = some (38, .iload_n 2, 1, []) from by decide +kernel) rfl ?_
  refine e_iadd (show pAt 3 39 = some (39, .iadd, 1, []) from by decide +kernel) ?_
  refine e_so2 (show pAt 3 40 = some (40, .iaload, 1, []) from by decide +kernel) (by decide) ?_
  refine e_if (t := 46) (show pAt 3 41 = some (41, .ifCond .eq 5, 3, []) from by decide +kernel) rfl (fun c6 => ?_) (fun c6 => absurd c6 (by decide))
  refine e_gs1 (show pAt 3 46 = some (46, .getstatic 22, 3, [0, 1, 4066]) from by decide +kernel) ?_
  refine e_iload_n (show pAt 3 49 = some (49, .iload_n 2, 1, []) from by decide +kernel) rfl ?_
  refine e_so1 (show pAt 3 50 = some (50, .iaload, 1, []) from by decide +kernel) (by decide) ?_
  refine e_istore_n (show pAt 3 51 = some (51, .istore_n 2, 1, []) from by decide +kernel) ⟨Nat.le_of_ble_eq_true rfl, rfl⟩ rfl ?_
  refine e_iinc (c := 1) (show pAt 3 52 = some (52, .iinc 3 1, 3, []) from by decide +kernel) rfl rfl (by decide) rfl ?_
  refine e_goto (t := 15) (show pAt 3 55 = some (55, .goto (-40), 3, []) from by decide +kernel) rfl ?_
  refine e_iload_n (show pAt 3 15 = some (15, .iload_n 3, 1, []) from by decide +kernel) rfl ?_
  refine e_bipush (c := 7) (show pAt 3 16 = some (16, .bipush 7, 2, []) from by decide +kernel) (by decide) ?_
  refine e_icmp (t := 58) (show pAt 3 18 = some (18, .if_icmp .ge 40, 3, []) from by decide +kernel) rfl (fun c7 => absurd c7 (by decide)) (fun c7 => ?_)
  refine e_iload_n (show pAt 3 21 = some (21, .iload_n 2, 1, []) from by decide +kernel) rfl ?_
  refine e_if (t := 58) (show pAt 3 22 = some (22, .ifCond .lt 36, 3, []) from by decide +kernel) rfl (fun c8 => absurd c8 (by decide)) (fun c8 => ?_)
  refine e_iload_n (show pAt 3 25 = some (25, .iload_n 2, 1, []) from by decide +kernel) rfl ?_
  refine e_bipush (c := 7) (show pAt 3 26 = some (26, .bipush 7, 2, []) from by decide +kernel) (by decide) ?_
  refine e_icmp (t := 58) (show pAt 3 28 = some (28, .if_icmp .ge 30, 3, []) from by decide +kernel) rfl (fun c9 => absurd c9 (by decide)) (fun c9 => ?_)
  refine e_gs2 (show pAt 3 31 = some (31, .getstatic 19, 3, [1, 0, 4064]) from by decide +kernel) ?_
  refine e_iload_n (show pAt 3 34 = some (34, .iload_n 0, 1, []) from by decide +kernel) rfl ?_
  refine e_bipush (c := 7) (show pAt 3 35 = some (35, .bipush 7, 2, []) from by decide +kernel) (by decide) ?_
  refine e_imul (show pAt 3 37 = some (37, .imul, 1, []) from by decide +kernel) ?_
  refine e_iload_n (show pAt 3 38 = some (38, .iload_n 2, 1, []) from by decide +kernel) rfl ?_
  refine e_iadd (show pAt 3 39 = some (39, .iadd, 1, []) from by decide +kernel) ?_
  refine e_so2 (show pAt 3 40 = some (40, .iaload, 1, []) from by decide +kernel) (by decide) ?_
  refine e_if (t := 46) (show pAt 3 41 = some (41, .ifCond .eq 5, 3, []) from by decide +kernel) rfl (fun c10 => absurd c10 (by decide)) (fun c10 => ?_)
  refine e_iload_n (show pAt 3 44 = some (44, .iload_n 2, 1, []) from by decide +kernel) rfl ?_
  exact e_retI (show pAt 3 45 = some (45, .ireturn, 1, []) from by decide +kernel) rfl vc

theorem w_own23 {X : Scr} {dp : Nat} {h : Hp} {Q : Option Value → Hp → Prop}  (hs : HS h)
    (vc : Q (some (.int 3)) h) :
    Ends X dp 3 0 [.int 2, .int 3, .retAddr 0, .retAddr 0] [] h Q := by
  refine e_iload_n (show pAt 3 0 = some (0, .iload_n 0, 1, []) from by decide +kernel) rfl ?_
  refine e_if (t := 9) (show pAt 3 1 = some (1, .ifCond .lt 8, 3, []) from by decide +kernel) rfl (fun c1 => absurd c1 (by decide)) (fun c1 => ?_)
  refine e_iload_n (show pAt 3 4 = some (4, .iload_n 0, 1, []) from by decide +kernel) rfl ?_
  refine e_iconst (c := 2) (show pAt 3 5 = some (5, .iconst 2, 1, []) from by decide +kernel) (by decide) ?_
  refine e_icmp (t := 11) (show pAt 3 6 = some (6, .if_icmp .le 5, 3, []) from by decide +kernel) rfl (fun c2 => ?_) (fun c2 => absurd c2 (by decide))
  refine e_iload_n (show pAt 3 11 = some (11, .iload_n 1, 1, []) from by decide +kernel) rfl ?_
  refine e_istore_n (show pAt 3 12 = some (12, .istore_n 2, 1, []) from by decide +kernel) ⟨Nat.le_of_ble_eq_true rfl, rfl⟩ rfl ?_
  refine e_iconst (c := 0) (show pAt 3 13 = some (13, .iconst 0, 1, []) from by decide +kernel) (by decide) ?_
  refine e_istore_n (show pAt 3 14 = some (14, .istore_n 3, 1, []) from by decide +kernel) ⟨Nat.le_of_ble_eq_true rfl, rfl⟩ rfl ?_
  refine e_iload_n (show pAt 3 15 = some (15, .iload_n 3, 1, []) from by decide +kernel) rfl ?_
  refine e_bipush (c := 7) (show pAt 3 16 = some (16, .bipush 7, 2, []) from by decide +kernel) (by decide) ?_
  refine e_icmp (t := 58) (show pAt 3 18 = some (18, .if_icmp .ge 40, 3, []) from by decide +kernel) rfl (fun c3 => absurd c3 (by decide)) (fun c3 => ?_)
  refine e_iload_n (show pAt 3 21 = some (21, .iload_n 2, 1, []) from by decide +kernel) rfl ?_
  refine e_if (t := 58) (show pAt 3 22 = some (22, .ifCond .lt 36, 3, []) from by decide +kernel) rfl (fun c4 => absurd c4 (by decide)) (fun c4 => ?_)
  refine e_iload_n (show pAt 3 25 = some (25, .iload_n 2, 1, []) from by decide +kernel) rfl ?_
  refine e_bipush (c := 7) (show pAt 3 26 = some (26, .bipush 7, 2, []) from by decide +kernel) (by decide) ?_
  refine e_icmp (t := 58) (show pAt 3 28 = some (28, .if_icmp .ge 30, 3, []) from by decide +kernel) rfl (fun c5 => absurd c5 (by decide)) (fun c5 => ?_)
  refine e_gs2 (show pAt 3 31 = some (31, .getstatic 19, 3, [1, 0, 4064]) from by decide +kernel) ?_
  refine e_iload_n (show pAt 3 34 = some (34, .iload_n 0, 1, []) from by decide +kernel) rfl ?_
  refine e_bipush (c := 7) (show pAt 3 35 = some (35, .bipush 7, 2, []) from by decide +kernel) (by decide) ?_
  refine e_imul (show pAt 3 37 = some (37, .imul, 1, []) from by decide +kernel) ?_
  refine e_iload_n (show pAt 3 38 = some (38, .iload_n 2, 1, []) from by decide +kernel) rfl ?_
  refine e_iadd (show pAt 3 39 = some (39, .iadd, 1, []) from by decide +kernel) ?_
  refine e_so2 (show pAt 3 40 = some (40, .iaload, 1, []) from by decide +kernel) (by decide) ?_
  refine e_if (t := 46) (show pAt 3 41 = some (41, .ifCond .eq 5, 3, []) from by decide +kernel) rfl (fun c6 => absurd c6 (by decide)) (fun c6 => ?_)
  refine e_iload_n (show pAt 3 44 = some (44, .iload_n 2, 1, []) from by decide +kernel) rfl ?_
  exact e_retI (show pAt 3 45 = some (45, .ireturn, 1, []) from by decide +kernel) rfl vc

theorem w_own24 {X : Scr} {dp : Nat} {h : Hp} {Q : Option Value → Hp → Prop}  (hs : HS h)
    (vc : Q (some (.int (aboveL.getD (aboveL.getD (4 : Int32).toNatClampNeg 0).toNatClampNeg 0))) h) :
    Ends X dp 3 0 [.int 2, .int 4, .retAddr 0, .retAddr 0] [] h Q := by
  refine e_iload_n (show pAt 3 0 = some (0, .iload_n 0, 1, []) from by decide +kernel) rfl ?_
  refine e_if (t := 9) (show pAt 3 1 = some (1, .ifCond .lt 8, 3, []) from by decide +kernel) rfl (fun c1 => absurd c1 (by decide)) (fun c1 => ?_)
  refine e_iload_n (show pAt 3 4 = some (4, .iload_n 0, 1, []) from by decide +kernel) rfl ?_
  refine e_iconst (c := 2) (show pAt 3 5 = some (5, .iconst 2, 1, []) from by decide +kernel) (by decide) ?_
  refine e_icmp (t := 11) (show pAt 3 6 = some (6, .if_icmp .le 5, 3, []) from by decide +kernel) rfl (fun c2 => ?_) (fun c2 => absurd c2 (by decide))
  refine e_iload_n (show pAt 3 11 = some (11, .iload_n 1, 1, []) from by decide +kernel) rfl ?_
  refine e_istore_n (show pAt 3 12 = some (12, .istore_n 2, 1, []) from by decide +kernel) ⟨Nat.le_of_ble_eq_true rfl, rfl⟩ rfl ?_
  refine e_iconst (c := 0) (show pAt 3 13 = some (13, .iconst 0, 1, []) from by decide +kernel) (by decide) ?_
  refine e_istore_n (show pAt 3 14 = some (14, .istore_n 3, 1, []) from by decide +kernel) ⟨Nat.le_of_ble_eq_true rfl, rfl⟩ rfl ?_
  refine e_iload_n (show pAt 3 15 = some (15, .iload_n 3, 1, []) from by decide +kernel) rfl ?_
  refine e_bipush (c := 7) (show pAt 3 16 = some (16, .bipush 7, 2, []) from by decide +kernel) (by decide) ?_
  refine e_icmp (t := 58) (show pAt 3 18 = some (18, .if_icmp .ge 40, 3, []) from by decide +kernel) rfl (fun c3 => absurd c3 (by decide)) (fun c3 => ?_)
  refine e_iload_n (show pAt 3 21 = some (21, .iload_n 2, 1, []) from by decide +kernel) rfl ?_
  refine e_if (t := 58) (show pAt 3 22 = some (22, .ifCond .lt 36, 3, []) from by decide +kernel) rfl (fun c4 => absurd c4 (by decide)) (fun c4 => ?_)
  refine e_iload_n (show pAt 3 25 = some (25, .iload_n 2, 1, []) from by decide +kernel) rfl ?_
  refine e_bipush (c := 7) (show pAt 3 26 = some (26, .bipush 7, 2, []) from by decide +kernel) (by decide) ?_
  refine e_icmp (t := 58) (show pAt 3 28 = some (28, .if_icmp .ge 30, 3, []) from by decide +kernel) rfl (fun c5 => absurd c5 (by decide)) (fun c5 => ?_)
  refine e_gs2 (show pAt 3 31 = some (31, .getstatic 19, 3, [1, 0, 4064]) from by decide +kernel) ?_
  refine e_iload_n (show pAt 3 34 = some (34, .iload_n 0, 1, []) from by decide +kernel) rfl ?_
  refine e_bipush (c := 7) (show pAt 3 35 = some (35, .bipush 7, 2, []) from by decide +kernel) (by decide) ?_
  refine e_imul (show pAt 3 37 = some (37, .imul, 1, []) from by decide +kernel) ?_
  refine e_iload_n (show pAt 3 38 = some (38, .iload_n 2, 1, []) from by decide +kernel) rfl ?_
  refine e_iadd (show pAt 3 39 = some (39, .iadd, 1, []) from by decide +kernel) ?_
  refine e_so2 (show pAt 3 40 = some (40, .iaload, 1, []) from by decide +kernel) (by decide) ?_
  refine e_if (t := 46) (show pAt 3 41 = some (41, .ifCond .eq 5, 3, []) from by decide +kernel) rfl (fun c6 => ?_) (fun c6 => absurd c6 (by decide))
  refine e_gs1 (show pAt 3 46 = some (46, .getstatic 22, 3, [0, 1, 4066]) from by decide +kernel) ?_
  refine e_iload_n (show pAt 3 49 = some (49, .iload_n 2, 1, []) from by decide +kernel) rfl ?_
  refine e_so1 (show pAt 3 50 = some (50, .iaload, 1, []) from by decide +kernel) (by decide) ?_
  refine e_istore_n (show pAt 3 51 = some (51, .istore_n 2, 1, []) from by decide +kernel) ⟨Nat.le_of_ble_eq_true rfl, rfl⟩ rfl ?_
  refine e_iinc (c := 1) (show pAt 3 52 = some (52, .iinc 3 1, 3, []) from by decide +kernel) rfl rfl (by decide) rfl ?_
  refine e_goto (t := 15) (show pAt 3 55 = some (55, .goto (-40), 3, []) from by decide +kernel) rfl ?_
  refine e_iload_n (show pAt 3 15 = some (15, .iload_n 3, 1, []) from by decide +kernel) rfl ?_
  refine e_bipush (c := 7) (show pAt 3 16 = some (16, .bipush 7, 2, []) from by decide +kernel) (by decide) ?_
  refine e_icmp (t := 58) (show pAt 3 18 = some (18, .if_icmp .ge 40, 3, []) from by decide +kernel) rfl (fun c7 => absurd c7 (by decide)) (fun c7 => ?_)
  refine e_iload_n (show pAt 3 21 = some (21, .iload_n 2, 1, []) from by decide +kernel) rfl ?_
  refine e_if (t := 58) (show pAt 3 22 = some (22, .ifCond .lt 36, 3, []) from by decide +kernel) rfl (fun c8 => absurd c8 (by decide)) (fun c8 => ?_)
  refine e_iload_n (show pAt 3 25 = some (25, .iload_n 2, 1, []) from by decide +kernel) rfl ?_
  refine e_bipush (c := 7) (show pAt 3 26 = some (26, .bipush 7, 2, []) from by decide +kernel) (by decide) ?_
  refine e_icmp (t := 58) (show pAt 3 28 = some (28, .if_icmp .ge 30, 3, []) from by decide +kernel) rfl (fun c9 => absurd c9 (by decide)) (fun c9 => ?_)
  refine e_gs2 (show pAt 3 31 = some (31, .getstatic 19, 3, [1, 0, 4064]) from by decide +kernel) ?_
  refine e_iload_n (show pAt 3 34 = some (34, .iload_n 0, 1, []) from by decide +kernel) rfl ?_
  refine e_bipush (c := 7) (show pAt 3 35 = some (35, .bipush 7, 2, []) from by decide +kernel) (by decide) ?_
  refine e_imul (show pAt 3 37 = some (37, .imul, 1, []) from by decide +kernel) ?_
  refine e_iload_n (show pAt 3 38 = some (38, .iload_n 2, 1, []) from by decide +kernel) rfl ?_
  refine e_iadd (show pAt 3 39 = some (39, .iadd, 1, []) from by decide +kernel) ?_
  refine e_so2 (show pAt 3 40 = some (40, .iaload, 1, []) from by decide +kernel) (by decide) ?_
  refine e_if (t := 46) (show pAt 3 41 = some (41, .ifCond .eq 5, 3, []) from by decide +kernel) rfl (fun c10 => ?_) (fun c10 => absurd c10 (by decide))
  refine e_gs1 (show pAt 3 46 = some (46, .getstatic 22, 3, [0, 1, 4066]) from by decide +kernel) ?_
  refine e_iload_n (show pAt 3 49 = some (49, .iload_n 2, 1, []) from by decide +kernel) rfl ?_
  refine e_so1 (show pAt 3 50 = some (50, .iaload, 1, []) from by decide +kernel) (by decide) ?_
  refine e_istore_n (show pAt 3 51 = some (51, .istore_n 2, 1, []) from by decide +kernel) ⟨Nat.le_of_ble_eq_true rfl, rfl⟩ rfl ?_
  refine e_iinc (c := 1) (show pAt 3 52 = some (52, .iinc 3 1, 3, []) from by decide +kernel) rfl rfl (by decide) rfl ?_
  refine e_goto (t := 15) (show pAt 3 55 = some (55, .goto (-40), 3, []) from by decide +kernel) rfl ?_
  refine e_iload_n (show pAt 3 15 = some (15, .iload_n 3, 1, []) from by decide +kernel) rfl ?_
  refine e_bipush (c := 7) (show pAt 3 16 = some (16, .bipush 7, 2, []) from by decide +kernel) (by decide) ?_
  refine e_icmp (t := 58) (show pAt 3 18 = some (18, .if_icmp .ge 40, 3, []) from by decide +kernel) rfl (fun c11 => absurd c11 (by decide)) (fun c11 => ?_)
  refine e_iload_n (show pAt 3 21 = some (21, .iload_n 2, 1, []) from by decide +kernel) rfl ?_
  refine e_if (t := 58) (show pAt 3 22 = some (22, .ifCond .lt 36, 3, []) from by decide +kernel) rfl (fun c12 => absurd c12 (by decide)) (fun c12 => ?_)
  refine e_iload_n (show pAt 3 25 = some (25, .iload_n 2, 1, []) from by decide +kernel) rfl ?_
  refine e_bipush (c := 7) (show pAt 3 26 = some (26, .bipush 7, 2, []) from by decide +kernel) (by decide) ?_
  refine e_icmp (t := 58) (show pAt 3 28 = some (28, .if_icmp .ge 30, 3, []) from by decide +kernel) rfl (fun c13 => absurd c13 (by decide)) (fun c13 => ?_)
  refine e_gs2 (show pAt 3 31 = some (31, .getstatic 19, 3, [1, 0, 4064]) from by decide +kernel) ?_
  refine e_iload_n (show pAt 3 34 = some (34, .iload_n 0, 1, []) from by decide +kernel) rfl ?_
  refine e_bipush (c := 7) (show pAt 3 35 = some (35, .bipush 7, 2, []) from by decide +kernel) (by decide) ?_
  refine e_imul (show pAt 3 37 = some (37, .imul, 1, []) from by decide +kernel) ?_
  refine e_iload_n (show pAt 3 38 = some (38, .iload_n 2, 1, []) from by decide +kernel) rfl ?_
  refine e_iadd (show pAt 3 39 = some (39, .iadd, 1, []) from by decide +kernel) ?_
  refine e_so2 (show pAt 3 40 = some (40, .iaload, 1, []) from by decide +kernel) (by decide) ?_
  refine e_if (t := 46) (show pAt 3 41 = some (41, .ifCond .eq 5, 3, []) from by decide +kernel) rfl (fun c14 => absurd c14 (by decide)) (fun c14 => ?_)
  refine e_iload_n (show pAt 3 44 = some (44, .iload_n 2, 1, []) from by decide +kernel) rfl ?_
  exact e_retI (show pAt 3 45 = some (45, .ireturn, 1, []) from by decide +kernel) rfl vc

theorem w_own25 {X : Scr} {dp : Nat} {h : Hp} {Q : Option Value → Hp → Prop}  (hs : HS h)
    (vc : Q (some (.int 5)) h) :
    Ends X dp 3 0 [.int 2, .int 5, .retAddr 0, .retAddr 0] [] h Q := by
  refine e_iload_n (show pAt 3 0 = some (0, .iload_n 0, 1, []) from by decide +kernel) rfl ?_
  refine e_if (t := 9) (show pAt 3 1 = some (1, .ifCond .lt 8, 3, []) from by decide +kernel) rfl (fun c1 => absurd c1 (by decide)) (fun c1 => ?_)
  refine e_iload_n (show pAt 3 4 = some (4, .iload_n 0, 1, []) from by decide +kernel) rfl ?_
  refine e_iconst (c := 2) (show pAt 3 5 = some (5, .iconst 2, 1, []) from by decide +kernel) (by decide) ?_
  refine e_icmp (t := 11) (show pAt 3 6 = some (6, .if_icmp .le 5, 3, []) from by decide +kernel) rfl (fun c2 => ?_) (fun c2 => absurd c2 (by decide))
  refine e_iload_n (show pAt 3 11 = some (11, .iload_n 1, 1, []) from by decide +kernel) rfl ?_
  refine e_istore_n (show pAt 3 12 = some (12, .istore_n 2, 1, []) from by decide +kernel) ⟨Nat.le_of_ble_eq_true rfl, rfl⟩ rfl ?_
  refine e_iconst (c := 0) (show pAt 3 13 = some (13, .iconst 0, 1, []) from by decide +kernel) (by decide) ?_
  refine e_istore_n (show pAt 3 14 = some (14, .istore_n 3, 1, []) from by decide +kernel) ⟨Nat.le_of_ble_eq_true rfl, rfl⟩ rfl ?_
  refine e_iload_n (show pAt 3 15 = some (15, .iload_n 3, 1, []) from by decide +kernel) rfl ?_
  refine e_bipush (c := 7) (show pAt 3 16 = some (16, .bipush 7, 2, []) from by decide +kernel) (by decide) ?_
  refine e_icmp (t := 58) (show pAt 3 18 = some (18, .if_icmp .ge 40, 3, []) from by decide +kernel) rfl (fun c3 => absurd c3 (by decide)) (fun c3 => ?_)
  refine e_iload_n (show pAt 3 21 = some (21, .iload_n 2, 1, []) from by decide +kernel) rfl ?_
  refine e_if (t := 58) (show pAt 3 22 = some (22, .ifCond .lt 36, 3, []) from by decide +kernel) rfl (fun c4 => absurd c4 (by decide)) (fun c4 => ?_)
  refine e_iload_n (show pAt 3 25 = some (25, .iload_n 2, 1, []) from by decide +kernel) rfl ?_
  refine e_bipush (c := 7) (show pAt 3 26 = some (26, .bipush 7, 2, []) from by decide +kernel) (by decide) ?_
  refine e_icmp (t := 58) (show pAt 3 28 = some (28, .if_icmp .ge 30, 3, []) from by decide +kernel) rfl (fun c5 => absurd c5 (by decide)) (fun c5 => ?_)
  refine e_gs2 (show pAt 3 31 = some (31, .getstatic 19, 3, [1, 0, 4064]) from by decide +kernel) ?_
  refine e_iload_n (show pAt 3 34 = some (34, .iload_n 0, 1, []) from by decide +kernel) rfl ?_
  refine e_bipush (c := 7) (show pAt 3 35 = some (35, .bipush 7, 2, []) from by decide +kernel) (by decide) ?_
  refine e_imul (show pAt 3 37 = some (37, .imul, 1, []) from by decide +kernel) ?_
  refine e_iload_n (show pAt 3 38 = some (38, .iload_n 2, 1, []) from by decide +kernel) rfl ?_
  refine e_iadd (show pAt 3 39 = some (39, .iadd, 1, []) from by decide +kernel) ?_
  refine e_so2 (show pAt 3 40 = some (40, .iaload, 1, []) from by decide +kernel) (by decide) ?_
  refine e_if (t := 46) (show pAt 3 41 = some (41, .ifCond .eq 5, 3, []) from by decide +kernel) rfl (fun c6 => absurd c6 (by decide)) (fun c6 => ?_)
  refine e_iload_n (show pAt 3 44 = some (44, .iload_n 2, 1, []) from by decide +kernel) rfl ?_
  exact e_retI (show pAt 3 45 = some (45, .ireturn, 1, []) from by decide +kernel) rfl vc

theorem w_own26 {X : Scr} {dp : Nat} {h : Hp} {Q : Option Value → Hp → Prop}  (hs : HS h)
    (vc : Q (some (.int (aboveL.getD (6 : Int32).toNatClampNeg 0))) h) :
    Ends X dp 3 0 [.int 2, .int 6, .retAddr 0, .retAddr 0] [] h Q := by
  refine e_iload_n (show pAt 3 0 = some (0, .iload_n 0, 1, []) from by decide +kernel) rfl ?_
  refine e_if (t := 9) (show pAt 3 1 = some (1, .ifCond .lt 8, 3, []) from by decide +kernel) rfl (fun c1 => absurd c1 (by decide)) (fun c1 => ?_)
  refine e_iload_n (show pAt 3 4 = some (4, .iload_n 0, 1, []) from by decide +kernel) rfl ?_
  refine e_iconst (c := 2) (show pAt 3 5 = some (5, .iconst 2, 1, []) from by decide +kernel) (by decide) ?_
  refine e_icmp (t := 11) (show pAt 3 6 = some (6, .if_icmp .le 5, 3, []) from by decide +kernel) rfl (fun c2 => ?_) (fun c2 => absurd c2 (by decide))
  refine e_iload_n (show pAt 3 11 = some (11, .iload_n 1, 1, []) from by decide +kernel) rfl ?_
  refine e_istore_n (show pAt 3 12 = some (12, .istore_n 2, 1, []) from by decide +kernel) ⟨Nat.le_of_ble_eq_true rfl, rfl⟩ rfl ?_
  refine e_iconst (c := 0) (show pAt 3 13 = some (13, .iconst 0, 1, []) from by decide +kernel) (by decide) ?_
  refine e_istore_n (show pAt 3 14 = some (14, .istore_n 3, 1, []) from by decide +kernel) ⟨Nat.le_of_ble_eq_true rfl, rfl⟩ rfl ?_
  refine e_iload_n (show pAt 3 15 = some (15, .iload_n 3, 1, []) from by decide +kernel) rfl ?_
  refine e_bipush (c := 7) (show pAt 3 16 = some (16, .bipush 7, 2, []) from by decide +kernel) (by decide) ?_
  refine e_icmp (t := 58) (show pAt 3 18 = some (18, .if_icmp .ge 40, 3, []) from by decide +kernel) rfl (fun c3 => absurd c3 (by decide)) (fun c3 => ?_)
  refine e_iload_n (show pAt 3 21 = some (21, .iload_n 2, 1, []) from by decide +kernel) rfl ?_
  refine e_if (t := 58) (show pAt 3 22 = some (22, .ifCond .lt 36, 3, []) from by decide +kernel) rfl (fun c4 => absurd c4 (by decide)) (fun c4 => ?_)
  refine e_iload_n (show pAt 3 25 = some (25, .iload_n 2, 1, []) from by decide +kernel) rfl ?_
  refine e_bipush (c := 7) (show pAt 3 26 = some (26, .bipush 7, 2, []) from by decide +kernel) (by decide) ?_
  refine e_icmp (t := 58) (show pAt 3 28 = some (28, .if_icmp .ge 30, 3, []) from by decide +kernel) rfl (fun c5 => absurd c5 (by decide)) (fun c5 => ?_)
  refine e_gs2 (show pAt 3 31 = some (31, .getstatic 19, 3, [1, 0, 4064]) from by decide +kernel) ?_
  refine e_iload_n (show pAt 3 34 = some (34, .iload_n 0, 1, []) from by decide +kernel) rfl ?_
  refine e_bipush (c := 7) (show pAt 3 35 = some (35, .bipush 7, 2, []) from by decide +kernel) (by decide) ?_
  refine e_imul (show pAt 3 37 = some (37, .imul, 1, []) from by decide +kernel) ?_
  refine e_iload_n (show pAt 3 38 = some (38, .iload_n 2, 1, []) from by decide +kernel) rfl ?_
  refine e_iadd (show pAt 3 39 = some (39, .iadd, 1, []) from by decide +kernel) ?_
  refine e_so2 (show pAt 3 40 = some (40, .iaload, 1, []) from by decide +kernel) (by decide) ?_
  refine e_if (t := 46) (show pAt 3 41 = some (41, .ifCond .eq 5, 3, []) from by decide +kernel) rfl (fun c6 => ?_) (fun c6 => absurd c6 (by decide))
  refine e_gs1 (show pAt 3 46 = some (46, .getstatic 22, 3, [0, 1, 4066]) from by decide +kernel) ?_
  refine e_iload_n (show pAt 3 49 = some (49, .iload_n 2, 1, []) from by decide +kernel) rfl ?_
  refine e_so1 (show pAt 3 50 = some (50, .iaload, 1, []) from by decide +kernel) (by decide) ?_
  refine e_istore_n (show pAt 3 51 = some (51, .istore_n 2, 1, []) from by decide +kernel) ⟨Nat.le_of_ble_eq_true rfl, rfl⟩ rfl ?_
  refine e_iinc (c := 1) (show pAt 3 52 = some (52, .iinc 3 1, 3, []) from by decide +kernel) rfl rfl (by decide) rfl ?_
  refine e_goto (t := 15) (show pAt 3 55 = some (55, .goto (-40), 3, []) from by decide +kernel) rfl ?_
  refine e_iload_n (show pAt 3 15 = some (15, .iload_n 3, 1, []) from by decide +kernel) rfl ?_
  refine e_bipush (c := 7) (show pAt 3 16 = some (16, .bipush 7, 2, []) from by decide +kernel) (by decide) ?_
  refine e_icmp (t := 58) (show pAt 3 18 = some (18, .if_icmp .ge 40, 3, []) from by decide +kernel) rfl (fun c7 => absurd c7 (by decide)) (fun c7 => ?_)
  refine e_iload_n (show pAt 3 21 = some (21, .iload_n 2, 1, []) from by decide +kernel) rfl ?_
  refine e_if (t := 58) (show pAt 3 22 = some (22, .ifCond .lt 36, 3, []) from by decide +kernel) rfl (fun c8 => absurd c8 (by decide)) (fun c8 => ?_)
  refine e_iload_n (show pAt 3 25 = some (25, .iload_n 2, 1, []) from by decide +kernel) rfl ?_
  refine e_bipush (c := 7) (show pAt 3 26 = some (26, .bipush 7, 2, []) from by decide +kernel) (by decide) ?_
  refine e_icmp (t := 58) (show pAt 3 28 = some (28, .if_icmp .ge 30, 3, []) from by decide +kernel) rfl (fun c9 => absurd c9 (by decide)) (fun c9 => ?_)
  refine e_gs2 (show pAt 3 31 = some (31, .getstatic 19, 3, [1, 0, 4064]) from by decide +kernel) ?_
  refine e_iload_n (show pAt 3 34 = some (34, .iload_n 0, 1, []) from by decide +kernel) rfl ?_
  refine e_bipush (c := 7) (show pAt 3 35 = some (35, .bipush 7, 2, []) from by decide +kernel) (by decide) ?_
  refine e_imul (show pAt 3 37 = some (37, .imul, 1, []) from by decide +kernel) ?_
  refine e_iload_n (show pAt 3 38 = some (38, .iload_n 2, 1, []) from by decide +kernel) rfl ?_
  refine e_iadd (show pAt 3 39 = some (39, .iadd, 1, []) from by decide +kernel) ?_
  refine e_so2 (show pAt 3 40 = some (40, .iaload, 1, []) from by decide +kernel) (by decide) ?_
  refine e_if (t := 46) (show pAt 3 41 = some (41, .ifCond .eq 5, 3, []) from by decide +kernel) rfl (fun c10 => absurd c10 (by decide)) (fun c10 => ?_)
  refine e_iload_n (show pAt 3 44 = some (44, .iload_n 2, 1, []) from by decide +kernel) rfl ?_
  exact e_retI (show pAt 3 45 = some (45, .ireturn, 1, []) from by decide +kernel) rfl vc

theorem w_ctk0 {X : Scr} {dp : Nat} {h : Hp} {Q : Option Value → Hp → Prop} (p : Int32) (k : Int32) (hs : HS h)
    (vc : ((condB .ne 0 k = true → Q (some (.int (-12))) h) ∧ (condB .ne 0 k = false → Q (some (.int 0)) h))) :
    Ends X dp 93 43 [.ref 0, .int p, .int k, .int 0, .int 0, .int 0] [] h Q := by
  have ra : ∀ {a : Nat}, a < 1000 → a ≤ OLDB := fun h => by have := OLDB_eq; omega
  refine e_iload (show pAt 93 43 = some (43, .iload 5, 2, []) from by decide +kernel) rfl ?_
  refine e_bipush (c := 7) (show pAt 93 45 = some (45, .bipush 7, 2, []) from by decide +kernel) (by decide) ?_
  refine e_icmp (t := 84) (show pAt 93 47 = some (47, .if_icmp .ge 37, 3, []) from by decide +kernel) rfl (fun c1 => absurd c1 (by decide)) (fun c1 => ?_)
  refine e_iload (show pAt 93 50 = some (50, .iload 4, 2, []) from by decide +kernel) rfl ?_
  refine e_if (t := 84) (show pAt 93 52 = some (52, .ifCond .lt 32, 3, []) from by decide +kernel) rfl (fun c2 => absurd c2 (by decide)) (fun c2 => ?_)
  refine e_iload (show pAt 93 55 = some (55, .iload 4, 2, []) from by decide +kernel) rfl ?_
  refine e_bipush (c := 7) (show pAt 93 57 = some (57, .bipush 7, 2, []) from by decide +kernel) (by decide) ?_
  refine e_icmp (t := 84) (show pAt 93 59 = some (59, .if_icmp .ge 25, 3, []) from by decide +kernel) rfl (fun c3 => absurd c3 (by decide)) (fun c3 => ?_)
  refine e_iload (show pAt 93 62 = some (62, .iload 4, 2, []) from by decide +kernel) rfl ?_
  refine e_iload_n (show pAt 93 64 = some (64, .iload_n 2, 1, []) from by decide +kernel) rfl ?_
  refine e_icmp (t := 70) (show pAt 93 65 = some (65, .if_icmp .ne 5, 3, []) from by decide +kernel) rfl (fun c4 => ?_) (fun c4 => ?_)
  · replace vc := vc.1 c4
    refine e_gs1 (show pAt 93 70 = some (70, .getstatic 233, 3, [0, 0, 4081]) from by decide +kernel) ?_
    refine e_iload (show pAt 93 73 = some (73, .iload 4, 2, []) from by decide +kernel) rfl ?_
    refine e_so1 (show pAt 93 75 = some (75, .iaload, 1, []) from by decide +kernel) (by decide) ?_
    refine e_istore (show pAt 93 76 = some (76, .istore 4, 2, []) from by decide +kernel) ⟨Nat.le_of_ble_eq_true rfl, rfl⟩ rfl ?_
    refine e_iinc (c := 1) (show pAt 93 78 = some (78, .iinc 5 1, 3, []) from by decide +kernel) rfl rfl (by decide) rfl ?_
    refine e_goto (t := 43) (show pAt 93 81 = some (81, .goto (-38), 3, []) from by decide +kernel) rfl ?_
    refine e_iload (show pAt 93 43 = some (43, .iload 5, 2, []) from by decide +kernel) rfl ?_
    refine e_bipush (c := 7) (show pAt 93 45 = some (45, .bipush 7, 2, []) from by decide +kernel) (by decide) ?_
    refine e_icmp (t := 84) (show pAt 93 47 = some (47, .if_icmp .ge 37, 3, []) from by decide +kernel) rfl (fun c5 => absurd c5 (by decide)) (fun c5 => ?_)
    refine e_iload (show pAt 93 50 = some (50, .iload 4, 2, []) from by decide +kernel) rfl ?_
    refine e_if (t := 84) (show pAt 93 52 = some (52, .ifCond .lt 32, 3, []) from by decide +kernel) rfl (fun c6 => ?_) (fun c6 => absurd c6 (by decide))
    refine e_bipush (c := (-12)) (show pAt 93 84 = some (84, .bipush (-12), 2, []) from by decide +kernel) (by decide) ?_
    exact e_retI (show pAt 93 86 = some (86, .ireturn, 1, []) from by decide +kernel) rfl vc
  · replace vc := vc.2 c4
    refine e_iload_n (show pAt 93 68 = some (68, .iload_n 3, 1, []) from by decide +kernel) rfl ?_
    exact e_retI (show pAt 93 69 = some (69, .ireturn, 1, []) from by decide +kernel) rfl vc

theorem w_ctk1 {X : Scr} {dp : Nat} {h : Hp} {Q : Option Value → Hp → Prop} (p : Int32) (k : Int32) (hs : HS h)
    (vc : ((condB .ne 1 k = true → ((condB .ne (aboveL.getD (1 : Int32).toNatClampNeg 0) k = true → Q (some (.int (-12))) h) ∧ (condB .ne (aboveL.getD (1 : Int32).toNatClampNeg 0) k = false → Q (some (.int 1)) h))) ∧ (condB .ne 1 k = false → Q (some (.int 1)) h))) :
    Ends X dp 93 43 [.ref 0, .int p, .int k, .int 1, .int 1, .int 0] [] h Q := by
  have ra : ∀ {a : Nat}, a < 1000 → a ≤ OLDB := fun h => by have := OLDB_eq; omega
  refine e_iload (show pAt 93 43 = some (43, .iload 5, 2, []) from by decide +kernel) rfl ?_
  refine e_bipush (c := 7) (show pAt 93 45 = some (45, .bipush 7, 2, []) from by decide +kernel) (by decide) ?_
  refine e_icmp (t := 84) (show pAt 93 47 = some (47, .if_icmp .ge 37, 3, []) from by decide +kernel) rfl (fun c1 => absurd c1 (by decide)) (fun c1 => ?_)
  refine e_iload (show pAt 93 50 = some (50, .iload 4, 2, []) from by decide +kernel) rfl ?_
  refine e_if (t := 84) (show pAt 93 52 = some (52, .ifCond .lt 32, 3, []) from by decide +kernel) rfl (fun c2 => absurd c2 (by decide)) (fun c2 => ?_)
  refine e_iload (show pAt 93 55 = some (55, .iload 4, 2, []) from by decide +kernel) rfl ?_
  refine e_bipush (c := 7) (show pAt 93 57 = some (57, .bipush 7, 2, []) from by decide +kernel) (by decide) ?_
  refine e_icmp (t := 84) (show pAt 93 59 = some (59, .if_icmp .ge 25, 3, []) from by decide +kernel) rfl (fun c3 => absurd c3 (by decide)) (fun c3 => ?_)
  refine e_iload (show pAt 93 62 = some (62, .iload 4, 2, []) from by decide +kernel) rfl ?_
  refine e_iload_n (show pAt 93 64 = some (64, .iload_n 2, 1, []) from by decide +kernel) rfl ?_
  refine e_icmp (t := 70) (show pAt 93 65 = some (65, .if_icmp .ne 5, 3, []) from by decide +kernel) rfl (fun c4 => ?_) (fun c4 => ?_)
  · replace vc := vc.1 c4
    refine e_gs1 (show pAt 93 70 = some (70, .getstatic 233, 3, [0, 0, 4081]) from by decide +kernel) ?_
    refine e_iload (show pAt 93 73 = some (73, .iload 4, 2, []) from by decide +kernel) rfl ?_
    refine e_so1 (show pAt 93 75 = some (75, .iaload, 1, []) from by decide +kernel) (by decide) ?_
    refine e_istore (show pAt 93 76 = some (76, .istore 4, 2, []) from by decide +kernel) ⟨Nat.le_of_ble_eq_true rfl, rfl⟩ rfl ?_
    refine e_iinc (c := 1) (show pAt 93 78 = some (78, .iinc 5 1, 3, []) from by decide +kernel) rfl rfl (by decide) rfl ?_
    refine e_goto (t := 43) (show pAt 93 81 = some (81, .goto (-38), 3, []) from by decide +kernel) rfl ?_
    refine e_iload (show pAt 93 43 = some (43, .iload 5, 2, []) from by decide +kernel) rfl ?_
    refine e_bipush (c := 7) (show pAt 93 45 = some (45, .bipush 7, 2, []) from by decide +kernel) (by decide) ?_
    refine e_icmp (t := 84) (show pAt 93 47 = some (47, .if_icmp .ge 37, 3, []) from by decide +kernel) rfl (fun c5 => absurd c5 (by decide)) (fun c5 => ?_)
    refine e_iload (show pAt 93 50 = some (50, .iload 4, 2, []) from by decide +kernel) rfl ?_
    refine e_if (t := 84) (show pAt 93 52 = some (52, .ifCond .lt 32, 3, []) from by decide +kernel) rfl (fun c6 => absurd c6 (by decide)) (fun c6 => ?_)
    refine e_iload (show pAt 93 55 = some (55, .iload 4, 2, []) from by decide +kernel) rfl ?_
    refine e_bipush (c := 7) (show pAt 93 57 = some (57, .bipush 7, 2, []) from by decide +kernel) (by decide) ?_
    refine e_icmp (t := 84) (show pAt 93 59 = some (59, .if_icmp .ge 25, 3, []) from by decide +kernel) rfl (fun c7 => absurd c7 (by decide)) (fun c7 => ?_)
    refine e_iload (show pAt 93 62 = some (62, .iload 4, 2, []) from by decide +kernel) rfl ?_
    refine e_iload_n (show pAt 93 64 = some (64, .iload_n 2, 1, []) from by decide +kernel) rfl ?_
    refine e_icmp (t := 70) (show pAt 93 65 = some (65, .if_icmp .ne 5, 3, []) from by decide +kernel) rfl (fun c8 => ?_) (fun c8 => ?_)
    · replace vc := vc.1 c8
      refine e_gs1 (show pAt 93 70 = some (70, .getstatic 233, 3, [0, 0, 4081]) from by decide +kernel) ?_
      refine e_iload (show pAt 93 73 = some (73, .iload 4, 2, []) from by decide +kernel) rfl ?_
      refine e_so1 (show pAt 93 75 = some (75, .iaload, 1, []) from by decide +kernel) (by decide) ?_
      refine e_istore (show pAt 93 76 = some (76, .istore 4, 2, []) from by decide +kernel) ⟨Nat.le_of_ble_eq_true rfl, rfl⟩ rfl ?_
      refine e_iinc (c := 1) (show pAt 93 78 = some (78, .iinc 5 1, 3, []) from by decide +kernel) rfl rfl (by decide) rfl ?_
      refine e_goto (t := 43) (show pAt 93 81 = some (81, .goto (-38), 3, []) from by decide +kernel) rfl ?_
      refine e_iload (show pAt 93 43 = some (43, .iload 5, 2, []) from by decide +kernel) rfl ?_
      refine e_bipush (c := 7) (show pAt 93 45 = some (45, .bipush 7, 2, []) from by decide +kernel) (by decide) ?_
      refine e_icmp (t := 84) (show pAt 93 47 = some (47, .if_icmp .ge 37, 3, []) from by decide +kernel) rfl (fun c9 => absurd c9 (by decide)) (fun c9 => ?_)
      refine e_iload (show pAt 93 50 = some (50, .iload 4, 2, []) from by decide +kernel) rfl ?_
      refine e_if (t := 84) (show pAt 93 52 = some (52, .ifCond .lt 32, 3, []) from by decide +kernel) rfl (fun c10 => ?_) (fun c10 => absurd c10 (by decide))
      refine e_bipush (c := (-12)) (show pAt 93 84 = some (84, .bipush (-12), 2, []) from by decide +kernel) (by decide) ?_
      exact e_retI (show pAt 93 86 = some (86, .ireturn, 1, []) from by decide +kernel) rfl vc
    · replace vc := vc.2 c8
      refine e_iload_n (show pAt 93 68 = some (68, .iload_n 3, 1, []) from by decide +kernel) rfl ?_
      exact e_retI (show pAt 93 69 = some (69, .ireturn, 1, []) from by decide +kernel) rfl vc
  · replace vc := vc.2 c4
    refine e_iload_n (show pAt 93 68 = some (68, .iload_n 3, 1, []) from by decide +kernel) rfl ?_
    exact e_retI (show pAt 93 69 = some (69, .ireturn, 1, []) from by decide +kernel) rfl vc

theorem w_ctk2 {X : Scr} {dp : Nat} {h : Hp} {Q : Option Value → Hp → Prop} (p : Int32) (k : Int32) (hs : HS h)
    (vc : ((condB .ne 2 k = true → ((condB .ne (aboveL.getD (2 : Int32).toNatClampNeg 0) k = true → Q (some (.int (-12))) h) ∧ (condB .ne (aboveL.getD (2 : Int32).toNatClampNeg 0) k = false → Q (some (.int 2)) h))) ∧ (condB .ne 2 k = false → Q (some (.int 2)) h))) :
    Ends X dp 93 43 [.ref 0, .int p, .int k, .int 2, .int 2, .int 0] [] h Q := by
  have ra : ∀ {a : Nat}, a < 1000 → a ≤ OLDB := fun h => by have := OLDB_eq; omega
  refine e_iload (show pAt 93 43 = some (43, .iload 5, 2, []) from by decide +kernel) rfl ?_
  refine e_bipush (c := 7) (show pAt 93 45 = some (45, .bipush 7, 2, []) from by decide +kernel) (by decide) ?_
  refine e_icmp (t := 84) (show pAt 93 47 = some (47, .if_icmp .ge 37, 3, []) from by decide +kernel) rfl (fun c1 => absurd c1 (by decide)) (fun c1 => ?_)
  refine e_iload (show pAt 93 50 = some (50, .iload 4, 2, []) from by decide +kernel) rfl ?_
  refine e_if (t := 84) (show pAt 93 52 = some (52, .ifCond .lt 32, 3, []) from by decide +kernel) rfl (fun c2 => absurd c2 (by decide)) (fun c2 => ?_)
  refine e_iload (show pAt 93 55 = some (55, .iload 4, 2, []) from by decide +kernel) rfl ?_
  refine e_bipush (c := 7) (show pAt 93 57 = some (57, .bipush 7, 2, []) from by decide +kernel) (by decide) ?_
  refine e_icmp (t := 84) (show pAt 93 59 = some (59, .if_icmp .ge 25, 3, []) from by decide +kernel) rfl (fun c3 => absurd c3 (by decide)) (fun c3 => ?_)
  refine e_iload (show pAt 93 62 = some (62, .iload 4, 2, []) from by decide +kernel) rfl ?_
  refine e_iload_n (show pAt 93 64 = some (64, .iload_n 2, 1, []) from by decide +kernel) rfl ?_
  refine e_icmp (t := 70) (show pAt 93 65 = some (65, .if_icmp .ne 5, 3, []) from by decide +kernel) rfl (fun c4 => ?_) (fun c4 => ?_)
  · replace vc := vc.1 c4
    refine e_gs1 (show pAt 93 70 = some (70, .getstatic 233, 3, [0, 0, 4081]) from by decide +kernel) ?_
    refine e_iload (show pAt 93 73 = some (73, .iload 4, 2, []) from by decide +kernel) rfl ?_
    refine e_so1 (show pAt 93 75 = some (75, .iaload, 1, []) from by decide +kernel) (by decide) ?_
    refine e_istore (show pAt 93 76 = some (76, .istore 4, 2, []) from by decide +kernel) ⟨Nat.le_of_ble_eq_true rfl, rfl⟩ rfl ?_
    refine e_iinc (c := 1) (show pAt 93 78 = some (78, .iinc 5 1, 3, []) from by decide +kernel) rfl rfl (by decide) rfl ?_
    refine e_goto (t := 43) (show pAt 93 81 = some (81, .goto (-38), 3, []) from by decide +kernel) rfl ?_
    refine e_iload (show pAt 93 43 = some (43, .iload 5, 2, []) from by decide +kernel) rfl ?_
    refine e_bipush (c := 7) (show pAt 93 45 = some (45, .bipush 7, 2, []) from by decide +kernel) (by decide) ?_
    refine e_icmp (t := 84) (show pAt 93 47 = some (47, .if_icmp .ge 37, 3, []) from by decide +kernel) rfl (fun c5 => absurd c5 (by decide)) (fun c5 => ?_)
    refine e_iload (show pAt 93 50 = some (50, .iload 4, 2, []) from by decide +kernel) rfl ?_
    refine e_if (t := 84) (show pAt 93 52 = some (52, .ifCond .lt 32, 3, []) from by decide +kernel) rfl (fun c6 => absurd c6 (by decide)) (fun c6 => ?_)
    refine e_iload (show pAt 93 55 = some (55, .iload 4, 2, []) from by decide +kernel) rfl ?_
    refine e_bipush (c := 7) (show pAt 93 57 = some (57, .bipush 7, 2, []) from by decide +kernel) (by decide) ?_
    refine e_icmp (t := 84) (show pAt 93 59 = some (59, .if_icmp .ge 25, 3, []) from by decide +kernel) rfl (fun c7 => absurd c7 (by decide)) (fun c7 => ?_)
    refine e_iload (show pAt 93 62 = some (62, .iload 4, 2, []) from by decide +kernel) rfl ?_
    refine e_iload_n (show pAt 93 64 = some (64, .iload_n 2, 1, []) from by decide +kernel) rfl ?_
    refine e_icmp (t := 70) (show pAt 93 65 = some (65, .if_icmp .ne 5, 3, []) from by decide +kernel) rfl (fun c8 => ?_) (fun c8 => ?_)
    · replace vc := vc.1 c8
      refine e_gs1 (show pAt 93 70 = some (70, .getstatic 233, 3, [0, 0, 4081]) from by decide +kernel) ?_
      refine e_iload (show pAt 93 73 = some (73, .iload 4, 2, []) from by decide +kernel) rfl ?_
      refine e_so1 (show pAt 93 75 = some (75, .iaload, 1, []) from by decide +kernel) (by decide) ?_
      refine e_istore (show pAt 93 76 = some (76, .istore 4, 2, []) from by decide +kernel) ⟨Nat.le_of_ble_eq_true rfl, rfl⟩ rfl ?_
      refine e_iinc (c := 1) (show pAt 93 78 = some (78, .iinc 5 1, 3, []) from by decide +kernel) rfl rfl (by decide) rfl ?_
      refine e_goto (t := 43) (show pAt 93 81 = some (81, .goto (-38), 3, []) from by decide +kernel) rfl ?_
      refine e_iload (show pAt 93 43 = some (43, .iload 5, 2, []) from by decide +kernel) rfl ?_
      refine e_bipush (c := 7) (show pAt 93 45 = some (45, .bipush 7, 2, []) from by decide +kernel) (by decide) ?_
      refine e_icmp (t := 84) (show pAt 93 47 = some (47, .if_icmp .ge 37, 3, []) from by decide +kernel) rfl (fun c9 => absurd c9 (by decide)) (fun c9 => ?_)
      refine e_iload (show pAt 93 50 = some (50, .iload 4, 2, []) from by decide +kernel) rfl ?_
      refine e_if (t := 84) (show pAt 93 52 = some (52, .ifCond .lt 32, 3, []) from by decide +kernel) rfl (fun c10 => ?_) (fun c10 => absurd c10 (by decide))
      refine e_bipush (c := (-12)) (show pAt 93 84 = some (84, .bipush (-12), 2, []) from by decide +kernel) (by decide) ?_
      exact e_retI (show pAt 93 86 = some (86, .ireturn, 1, []) from by decide +kernel) rfl vc
    · replace vc := vc.2 c8
      refine e_iload_n (show pAt 93 68 = some (68, .iload_n 3, 1, []) from by decide +kernel) rfl ?_
      exact e_retI (show pAt 93 69 = some (69, .ireturn, 1, []) from by decide +kernel) rfl vc
  · replace vc := vc.2 c4
    refine e_iload_n (show pAt 93 68 = some (68, .iload_n 3, 1, []) from by decide +kernel) rfl ?_
    exact e_retI (show pAt 93 69 = some (69, .ireturn, 1, []) from by decide +kernel) rfl vc

theorem w_ctk3 {X : Scr} {dp : Nat} {h : Hp} {Q : Option Value → Hp → Prop} (p : Int32) (k : Int32) (hs : HS h)
    (vc : ((condB .ne 3 k = true → ((condB .ne (aboveL.getD (3 : Int32).toNatClampNeg 0) k = true → Q (some (.int (-12))) h) ∧ (condB .ne (aboveL.getD (3 : Int32).toNatClampNeg 0) k = false → Q (some (.int 3)) h))) ∧ (condB .ne 3 k = false → Q (some (.int 3)) h))) :
    Ends X dp 93 43 [.ref 0, .int p, .int k, .int 3, .int 3, .int 0] [] h Q := by
  have ra : ∀ {a : Nat}, a < 1000 → a ≤ OLDB := fun h => by have := OLDB_eq; omega
  refine e_iload (show pAt 93 43 = some (43, .iload 5, 2, []) from by decide +kernel) rfl ?_
  refine e_bipush (c := 7) (show pAt 93 45 = some (45, .bipush 7, 2, []) from by decide +kernel) (by decide) ?_
  refine e_icmp (t := 84) (show pAt 93 47 = some (47, .if_icmp .ge 37, 3, []) from by decide +kernel) rfl (fun c1 => absurd c1 (by decide)) (fun c1 => ?_)
  refine e_iload (show pAt 93 50 = some (50, .iload 4, 2, []) from by decide +kernel) rfl ?_
  refine e_if (t := 84) (show pAt 93 52 = some (52, .ifCond .lt 32, 3, []) from by decide +kernel) rfl (fun c2 => absurd c2 (by decide)) (fun c2 => ?_)
  refine e_iload (show pAt 93 55 = some (55, .iload 4, 2, []) from by decide +kernel) rfl ?_
  refine e_bipush (c := 7) (show pAt 93 57 = some (57, .bipush 7, 2, []) from by decide +kernel) (by decide) ?_
  refine e_icmp (t := 84) (show pAt 93 59 = some (59, .if_icmp .ge 25, 3, []) from by decide +kernel) rfl (fun c3 => absurd c3 (by decide)) (fun c3 => ?_)
  refine e_iload (show pAt 93 62 = some (62, .iload 4, 2, []) from by decide +kernel) rfl ?_
  refine e_iload_n (show pAt 93 64 = some (64, .iload_n 2, 1, []) from by decide +kernel) rfl ?_
  refine e_icmp (t := 70) (show pAt 93 65 = some (65, .if_icmp .ne 5, 3, []) from by decide +kernel) rfl (fun c4 => ?_) (fun c4 => ?_)
  · replace vc := vc.1 c4
    refine e_gs1 (show pAt 93 70 = some (70, .getstatic 233, 3, [0, 0, 4081]) from by decide +kernel) ?_
    refine e_iload (show pAt 93 73 = some (73, .iload 4, 2, []) from by decide +kernel) rfl ?_
    refine e_so1 (show pAt 93 75 = some (75, .iaload, 1, []) from by decide +kernel) (by decide) ?_
    refine e_istore (show pAt 93 76 = some (76, .istore 4, 2, []) from by decide +kernel) ⟨Nat.le_of_ble_eq_true rfl, rfl⟩ rfl ?_
    refine e_iinc (c := 1) (show pAt 93 78 = some (78, .iinc 5 1, 3, []) from by decide +kernel) rfl rfl (by decide) rfl ?_
    refine e_goto (t := 43) (show pAt 93 81 = some (81, .goto (-38), 3, []) from by decide +kernel) rfl ?_
    refine e_iload (show pAt 93 43 = some (43, .iload 5, 2, []) from by decide +kernel) rfl ?_
    refine e_bipush (c := 7) (show pAt 93 45 = some (45, .bipush 7, 2, []) from by decide +kernel) (by decide) ?_
    refine e_icmp (t := 84) (show pAt 93 47 = some (47, .if_icmp .ge 37, 3, []) from by decide +kernel) rfl (fun c5 => absurd c5 (by decide)) (fun c5 => ?_)
    refine e_iload (show pAt 93 50 = some (50, .iload 4, 2, []) from by decide +kernel) rfl ?_
    refine e_if (t := 84) (show pAt 93 52 = some (52, .ifCond .lt 32, 3, []) from by decide +kernel) rfl (fun c6 => absurd c6 (by decide)) (fun c6 => ?_)
    refine e_iload (show pAt 93 55 = some (55, .iload 4, 2, []) from by decide +kernel) rfl ?_
    refine e_bipush (c := 7) (show pAt 93 57 = some (57, .bipush 7, 2, []) from by decide +kernel) (by decide) ?_
    refine e_icmp (t := 84) (show pAt 93 59 = some (59, .if_icmp .ge 25, 3, []) from by decide +kernel) rfl (fun c7 => absurd c7 (by decide)) (fun c7 => ?_)
    refine e_iload (show pAt 93 62 = some (62, .iload 4, 2, []) from by decide +kernel) rfl ?_
    refine e_iload_n (show pAt 93 64 = some (64, .iload_n 2, 1, []) from by decide +kernel) rfl ?_
    refine e_icmp (t := 70) (show pAt 93 65 = some (65, .if_icmp .ne 5, 3, []) from by decide +kernel) rfl (fun c8 => ?_) (fun c8 => ?_)
    · replace vc := vc.1 c8
      refine e_gs1 (show pAt 93 70 = some (70, .getstatic 233, 3, [0, 0, 4081]) from by decide +kernel) ?_
      refine e_iload (show pAt 93 73 = some (73, .iload 4, 2, []) from by decide +kernel) rfl ?_
      refine e_so1 (show pAt 93 75 = some (75, .iaload, 1, []) from by decide +kernel) (by decide) ?_
      refine e_istore (show pAt 93 76 = some (76, .istore 4, 2, []) from by decide +kernel) ⟨Nat.le_of_ble_eq_true rfl, rfl⟩ rfl ?_
      refine e_iinc (c := 1) (show pAt 93 78 = some (78, .iinc 5 1, 3, []) from by decide +kernel) rfl rfl (by decide) rfl ?_
      refine e_goto (t := 43) (show pAt 93 81 = some (81, .goto (-38), 3, []) from by decide +kernel) rfl ?_
      refine e_iload (show pAt 93 43 = some (43, .iload 5, 2, []) from by decide +kernel) rfl ?_
      refine e_bipush (c := 7) (show pAt 93 45 = some (45, .bipush 7, 2, []) from by decide +kernel) (by decide) ?_
      refine e_icmp (t := 84) (show pAt 93 47 = some (47, .if_icmp .ge 37, 3, []) from by decide +kernel) rfl (fun c9 => absurd c9 (by decide)) (fun c9 => ?_)
      refine e_iload (show pAt 93 50 = some (50, .iload 4, 2, []) from by decide +kernel) rfl ?_
      refine e_if (t := 84) (show pAt 93 52 = some (52, .ifCond .lt 32, 3, []) from by decide +kernel) rfl (fun c10 => ?_) (fun c10 => absurd c10 (by decide))
      refine e_bipush (c := (-12)) (show pAt 93 84 = some (84, .bipush (-12), 2, []) from by decide +kernel) (by decide) ?_
      exact e_retI (show pAt 93 86 = some (86, .ireturn, 1, []) from by decide +kernel) rfl vc
    · replace vc := vc.2 c8
      refine e_iload_n (show pAt 93 68 = some (68, .iload_n 3, 1, []) from by decide +kernel) rfl ?_
      exact e_retI (show pAt 93 69 = some (69, .ireturn, 1, []) from by decide +kernel) rfl vc
  · replace vc := vc.2 c4
    refine e_iload_n (show pAt 93 68 = some (68, .iload_n 3, 1, []) from by decide +kernel) rfl ?_
    exact e_retI (show pAt 93 69 = some (69, .ireturn, 1, []) from by decide +kernel) rfl vc

theorem w_ctk4 {X : Scr} {dp : Nat} {h : Hp} {Q : Option Value → Hp → Prop} (p : Int32) (k : Int32) (hs : HS h)
    (vc : ((condB .ne 4 k = true → ((condB .ne (aboveL.getD (4 : Int32).toNatClampNeg 0) k = true → ((condB .ne (aboveL.getD (aboveL.getD (4 : Int32).toNatClampNeg 0).toNatClampNeg 0) k = true → Q (some (.int (-12))) h) ∧ (condB .ne (aboveL.getD (aboveL.getD (4 : Int32).toNatClampNeg 0).toNatClampNeg 0) k = false → Q (some (.int 4)) h))) ∧ (condB .ne (aboveL.getD (4 : Int32).toNatClampNeg 0) k = false → Q (some (.int 4)) h))) ∧ (condB .ne 4 k = false → Q (some (.int 4)) h))) :
    Ends X dp 93 43 [.ref 0, .int p, .int k, .int 4, .int 4, .int 0] [] h Q := by
  have ra : ∀ {a : Nat}, a < 1000 → a ≤ OLDB := fun h => by have := OLDB_eq; omega
  refine e_iload (show pAt 93 43 = some (43, .iload 5, 2, []) from by decide +kernel) rfl ?_
  refine e_bipush (c := 7) (show pAt 93 45 = some (45, .bipush 7, 2, []) from by decide +kernel) (by decide) ?_
  refine e_icmp (t := 84) (show pAt 93 47 = some (47, .if_icmp .ge 37, 3, []) from by decide +kernel) rfl (fun c1 => absurd c1 (by decide)) (fun c1 => ?_)
  refine e_iload (show pAt 93 50 = some (50, .iload 4, 2, []) from by decide +kernel) rfl ?_
  refine e_if (t := 84) (show pAt 93 52 = some (52, .ifCond .lt 32, 3, []) from by decide +kernel) rfl (fun c2 => absurd c2 (by decide)) (fun c2 => ?_)
  refine e_iload (show pAt 93 55 = some (55, .iload 4, 2, []) from by decide +kernel) rfl ?_
  refine e_bipush (c := 7) (show pAt 93 57 = some (57, .bipush 7, 2, []) from by decide +kernel) (by decide) ?_
  refine e_icmp (t := 84) (show pAt 93 59 = some (59, .if_icmp .ge 25, 3, []) from by decide +kernel) rfl (fun c3 => absurd c3 (by decide)) (fun c3 => ?_)
  refine e_iload (show pAt 93 62 = some (62, .iload 4, 2, []) from by decide +kernel) rfl ?_
  refine e_iload_n (show pAt 93 64 = some (64, .iload_n 2, 1, []) from by decide +kernel) rfl ?_
  refine e_icmp (t := 70) (show pAt 93 65 = some (65, .if_icmp .ne 5, 3, []) from by decide +kernel) rfl (fun c4 => ?_) (fun c4 => ?_)
  · replace vc := vc.1 c4
    refine e_gs1 (show pAt 93 70 = some (70, .getstatic 233, 3, [0, 0, 4081]) from by decide +kernel) ?_
    refine e_iload (show pAt 93 73 = some (73, .iload 4, 2, []) from by decide +kernel) rfl ?_
    refine e_so1 (show pAt 93 75 = some (75, .iaload, 1, []) from by decide +kernel) (by decide) ?_
    refine e_istore (show pAt 93 76 = some (76, .istore 4, 2, []) from by decide +kernel) ⟨Nat.le_of_ble_eq_true rfl, rfl⟩ rfl ?_
    refine e_iinc (c := 1) (show pAt 93 78 = some (78, .iinc 5 1, 3, []) from by decide +kernel) rfl rfl (by decide) rfl ?_
    refine e_goto (t := 43) (show pAt 93 81 = some (81, .goto (-38), 3, []) from by decide +kernel) rfl ?_
    refine e_iload (show pAt 93 43 = some (43, .iload 5, 2, []) from by decide +kernel) rfl ?_
    refine e_bipush (c := 7) (show pAt 93 45 = some (45, .bipush 7, 2, []) from by decide +kernel) (by decide) ?_
    refine e_icmp (t := 84) (show pAt 93 47 = some (47, .if_icmp .ge 37, 3, []) from by decide +kernel) rfl (fun c5 => absurd c5 (by decide)) (fun c5 => ?_)
    refine e_iload (show pAt 93 50 = some (50, .iload 4, 2, []) from by decide +kernel) rfl ?_
    refine e_if (t := 84) (show pAt 93 52 = some (52, .ifCond .lt 32, 3, []) from by decide +kernel) rfl (fun c6 => absurd c6 (by decide)) (fun c6 => ?_)
    refine e_iload (show pAt 93 55 = some (55, .iload 4, 2, []) from by decide +kernel) rfl ?_
    refine e_bipush (c := 7) (show pAt 93 57 = some (57, .bipush 7, 2, []) from by decide +kernel) (by decide) ?_
    refine e_icmp (t := 84) (show pAt 93 59 = some (59, .if_icmp .ge 25, 3, []) from by decide +kernel) rfl (fun c7 => absurd c7 (by decide)) (fun c7 => ?_)
    refine e_iload (show pAt 93 62 = some (62, .iload 4, 2, []) from by decide +kernel) rfl ?_
    refine e_iload_n (show pAt 93 64 = some (64, .iload_n 2, 1, []) from by decide +kernel) rfl ?_
    refine e_icmp (t := 70) (show pAt 93 65 = some (65, .if_icmp .ne 5, 3, []) from by decide +kernel) rfl (fun c8 => ?_) (fun c8 => ?_)
    · replace vc := vc.1 c8
      refine e_gs1 (show pAt 93 70 = some (70, .getstatic 233, 3, [0, 0, 4081]) from by decide +kernel) ?_
      refine e_iload (show pAt 93 73 = some (73, .iload 4, 2, []) from by decide +kernel) rfl ?_
      refine e_so1 (show pAt 93 75 = some (75, .iaload, 1, []) from by decide +kernel) (by decide) ?_
      refine e_istore (show pAt 93 76 = some (76, .istore 4, 2, []) from by decide +kernel) ⟨Nat.le_of_ble_eq_true rfl, rfl⟩ rfl ?_
      refine e_iinc (c := 1) (show pAt 93 78 = some (78, .iinc 5 1, 3, []) from by decide +kernel) rfl rfl (by decide) rfl ?_
      refine e_goto (t := 43) (show pAt 93 81 = some (81, .goto (-38), 3, []) from by decide +kernel) rfl ?_
      refine e_iload (show pAt 93 43 = some (43, .iload 5, 2, []) from by decide +kernel) rfl ?_
      refine e_bipush (c := 7) (show pAt 93 45 = some (45, .bipush 7, 2, []) from by decide +kernel) (by decide) ?_
      refine e_icmp (t := 84) (show pAt 93 47 = some (47, .if_icmp .ge 37, 3, []) from by decide +kernel) rfl (fun c9 => absurd c9 (by decide)) (fun c9 => ?_)
      refine e_iload (show pAt 93 50 = some (50, .iload 4, 2, []) from by decide +kernel) rfl ?_
      refine e_if (t := 84) (show pAt 93 52 = some (52, .ifCond .lt 32, 3, []) from by decide +kernel) rfl (fun c10 => absurd c10 (by decide)) (fun c10 => ?_)
      refine e_iload (show pAt 93 55 = some (55, .iload 4, 2, []) from by decide +kernel) rfl ?_
      refine e_bipush (c := 7) (show pAt 93 57 = some (57, .bipush 7, 2, []) from by decide +kernel) (by decide) ?_
      refine e_icmp (t := 84) (show pAt 93 59 = some (59, .if_icmp .ge 25, 3, []) from by decide +kernel) rfl (fun c11 => absurd c11 (by decide)) (fun c11 => ?_)
      refine e_iload (show pAt 93 62 = some (62, .iload 4, 2, []) from by decide +kernel) rfl ?_
      refine e_iload_n (show pAt 93 64 = some (64, .iload_n 2, 1, []) from by decide +kernel) rfl ?_
      refine e_icmp (t := 70) (show pAt 93 65 = some (65, .if_icmp .ne 5, 3, []) from by decide +kernel) rfl (fun c12 => ?_) (fun c12 => ?_)
      · replace vc := vc.1 c12
        refine e_gs1 (show pAt 93 70 = some (70, .getstatic 233, 3, [0, 0, 4081]) from by decide +kernel) ?_
        refine e_iload (show pAt 93 73 = some (73, .iload 4, 2, []) from by decide +kernel) rfl ?_
        refine e_so1 (show pAt 93 75 = some (75, .iaload, 1, []) from by decide +kernel) (by decide) ?_
        refine e_istore (show pAt 93 76 = some (76, .istore 4, 2, []) from by decide +kernel) ⟨Nat.le_of_ble_eq_true rfl, rfl⟩ rfl ?_
        refine e_iinc (c := 1) (show pAt 93 78 = some (78, .iinc 5 1, 3, []) from by decide +kernel) rfl rfl (by decide) rfl ?_
        refine e_goto (t := 43) (show pAt 93 81 = some (81, .goto (-38), 3, []) from by decide +kernel) rfl ?_
        refine e_iload (show pAt 93 43 = some (43, .iload 5, 2, []) from by decide +kernel) rfl ?_
        refine e_bipush (c := 7) (show pAt 93 45 = some (45, .bipush 7, 2, []) from by decide +kernel) (by decide) ?_
        refine e_icmp (t := 84) (show pAt 93 47 = some (47, .if_icmp .ge 37, 3, []) from by decide +kernel) rfl (fun c13 => absurd c13 (by decide)) (fun c13 => ?_)
        refine e_iload (show pAt 93 50 = some (50, .iload 4, 2, []) from by decide +kernel) rfl ?_
        refine e_if (t := 84) (show pAt 93 52 = some (52, .ifCond .lt 32, 3, []) from by decide +kernel) rfl (fun c14 => ?_) (fun c14 => absurd c14 (by decide))
        refine e_bipush (c := (-12)) (show pAt 93 84 = some (84, .bipush (-12), 2, []) from by decide +kernel) (by decide) ?_
        exact e_retI (show pAt 93 86 = some (86, .ireturn, 1, []) from by decide +kernel) rfl vc
      · replace vc := vc.2 c12
        refine e_iload_n (show pAt 93 68 = some (68, .iload_n 3, 1, []) from by decide +kernel) rfl ?_
        exact e_retI (show pAt 93 69 = some (69, .ireturn, 1, []) from by decide +kernel) rfl vc
    · replace vc := vc.2 c8
      refine e_iload_n (show pAt 93 68 = some (68, .iload_n 3, 1, []) from by decide +kernel) rfl ?_
      exact e_retI (show pAt 93 69 = some (69, .ireturn, 1, []) from by decide +kernel) rfl vc
  · replace vc := vc.2 c4
    refine e_iload_n (show pAt 93 68 = some (68, .iload_n 3, 1, []) from by decide +kernel) rfl ?_
    exact e_retI (show pAt 93 69 = some (69, .ireturn, 1, []) from by decide +kernel) rfl vc

theorem w_ctk5 {X : Scr} {dp : Nat} {h : Hp} {Q : Option Value → Hp → Prop} (p : Int32) (k : Int32) (hs : HS h)
    (vc : ((condB .ne 5 k = true → ((condB .ne (aboveL.getD (5 : Int32).toNatClampNeg 0) k = true → ((condB .ne (aboveL.getD (aboveL.getD (5 : Int32).toNatClampNeg 0).toNatClampNeg 0) k = true → Q (some (.int (-12))) h) ∧ (condB .ne (aboveL.getD (aboveL.getD (5 : Int32).toNatClampNeg 0).toNatClampNeg 0) k = false → Q (some (.int 5)) h))) ∧ (condB .ne (aboveL.getD (5 : Int32).toNatClampNeg 0) k = false → Q (some (.int 5)) h))) ∧ (condB .ne 5 k = false → Q (some (.int 5)) h))) :
    Ends X dp 93 43 [.ref 0, .int p, .int k, .int 5, .int 5, .int 0] [] h Q := by
  have ra : ∀ {a : Nat}, a < 1000 → a ≤ OLDB := fun h => by have := OLDB_eq; omega
  refine e_iload (show pAt 93 43 = some (43, .iload 5, 2, []) from by decide +kernel) rfl ?_
  refine e_bipush (c := 7) (show pAt 93 45 = some (45, .bipush 7, 2, []) from by decide +kernel) (by decide) ?_
  refine e_icmp (t := 84) (show pAt 93 47 = some (47, .if_icmp .ge 37, 3, []) from by decide +kernel) rfl (fun c1 => absurd c1 (by decide)) (fun c1 => ?_)
  refine e_iload (show pAt 93 50 = some (50, .iload 4, 2, []) from by decide +kernel) rfl ?_
  refine e_if (t := 84) (show pAt 93 52 = some (52, .ifCond .lt 32, 3, []) from by decide +kernel) rfl (fun c2 => absurd c2 (by decide)) (fun c2 => ?_)
  refine e_iload (show pAt 93 55 = some (55, .iload 4, 2, []) from by decide +kernel) rfl ?_
  refine e_bipush (c := 7) (show pAt 93 57 = some (57, .bipush 7, 2, []) from by decide +kernel) (by decide) ?_
  refine e_icmp (t := 84) (show pAt 93 59 = some (59, .if_icmp .ge 25, 3, []) from by decide +kernel) rfl (fun c3 => absurd c3 (by decide)) (fun c3 => ?_)
  refine e_iload (show pAt 93 62 = some (62, .iload 4, 2, []) from by decide +kernel) rfl ?_
  refine e_iload_n (show pAt 93 64 = some (64, .iload_n 2, 1, []) from by decide +kernel) rfl ?_
  refine e_icmp (t := 70) (show pAt 93 65 = some (65, .if_icmp .ne 5, 3, []) from by decide +kernel) rfl (fun c4 => ?_) (fun c4 => ?_)
  · replace vc := vc.1 c4
    refine e_gs1 (show pAt 93 70 = some (70, .getstatic 233, 3, [0, 0, 4081]) from by decide +kernel) ?_
    refine e_iload (show pAt 93 73 = some (73, .iload 4, 2, []) from by decide +kernel) rfl ?_
    refine e_so1 (show pAt 93 75 = some (75, .iaload, 1, []) from by decide +kernel) (by decide) ?_
    refine e_istore (show pAt 93 76 = some (76, .istore 4, 2, []) from by decide +kernel) ⟨Nat.le_of_ble_eq_true rfl, rfl⟩ rfl ?_
    refine e_iinc (c := 1) (show pAt 93 78 = some (78, .iinc 5 1, 3, []) from by decide +kernel) rfl rfl (by decide) rfl ?_
    refine e_goto (t := 43) (show pAt 93 81 = some (81, .goto (-38), 3, []) from by decide +kernel) rfl ?_
    refine e_iload (show pAt 93 43 = some (43, .iload 5, 2, []) from by decide +kernel) rfl ?_
    refine e_bipush (c := 7) (show pAt 93 45 = some (45, .bipush 7, 2, []) from by decide +kernel) (by decide) ?_
    refine e_icmp (t := 84) (show pAt 93 47 = some (47, .if_icmp .ge 37, 3, []) from by decide +kernel) rfl (fun c5 => absurd c5 (by decide)) (fun c5 => ?_)
    refine e_iload (show pAt 93 50 = some (50, .iload 4, 2, []) from by decide +kernel) rfl ?_
    refine e_if (t := 84) (show pAt 93 52 = some (52, .ifCond .lt 32, 3, []) from by decide +kernel) rfl (fun c6 => absurd c6 (by decide)) (fun c6 => ?_)
    refine e_iload (show pAt 93 55 = some (55, .iload 4, 2, []) from by decide +kernel) rfl ?_
    refine e_bipush (c := 7) (show pAt 93 57 = some (57, .bipush 7, 2, []) from by decide +kernel) (by decide) ?_
    refine e_icmp (t := 84) (show pAt 93 59 = some (59, .if_icmp .ge 25, 3, []) from by decide +kernel) rfl (fun c7 => absurd c7 (by decide)) (fun c7 => ?_)
    refine e_iload (show pAt 93 62 = some (62, .iload 4, 2, []) from by decide +kernel) rfl ?_
    refine e_iload_n (show pAt 93 64 = some (64, .iload_n 2, 1, []) from by decide +kernel) rfl ?_
    refine e_icmp (t := 70) (show pAt 93 65 = some (65, .if_icmp .ne 5, 3, []) from by decide +kernel) rfl (fun c8 => ?_) (fun c8 => ?_)
    · replace vc := vc.1 c8
      refine e_gs1 (show pAt 93 70 = some (70, .getstatic 233, 3, [0, 0, 4081]) from by decide +kernel) ?_
      refine e_iload (show pAt 93 73 = some (73, .iload 4, 2, []) from by decide +kernel) rfl ?_
      refine e_so1 (show pAt 93 75 = some (75, .iaload, 1, []) from by decide +kernel) (by decide) ?_
      refine e_istore (show pAt 93 76 = some (76, .istore 4, 2, []) from by decide +kernel) ⟨Nat.le_of_ble_eq_true rfl, rfl⟩ rfl ?_
      refine e_iinc (c := 1) (show pAt 93 78 = some (78, .iinc 5 1, 3, []) from by decide +kernel) rfl rfl (by decide) rfl ?_
      refine e_goto (t := 43) (show pAt 93 81 = some (81, .goto (-38), 3, []) from by decide +kernel) rfl ?_
      refine e_iload (show pAt 93 43 = some (43, .iload 5, 2, []) from by decide +kernel) rfl ?_
      refine e_bipush (c := 7) (show pAt 93 45 = some (45, .bipush 7, 2, []) from by decide +kernel) (by decide) ?_
      refine e_icmp (t := 84) (show pAt 93 47 = some (47, .if_icmp .ge 37, 3, []) from by decide +kernel) rfl (fun c9 => absurd c9 (by decide)) (fun c9 => ?_)
      refine e_iload (show pAt 93 50 = some (50, .iload 4, 2, []) from by decide +kernel) rfl ?_
      refine e_if (t := 84) (show pAt 93 52 = some (52, .ifCond .lt 32, 3, []) from by decide +kernel) rfl (fun c10 => absurd c10 (by decide)) (fun c10 => ?_)
      refine e_iload (show pAt 93 55 = some (55, .iload 4, 2, []) from by decide +kernel) rfl ?_
      refine e_bipush (c := 7) (show pAt 93 57 = some (57, .bipush 7, 2, []) from by decide +kernel) (by decide) ?_
      refine e_icmp (t := 84) (show pAt 93 59 = some (59, .if_icmp .ge 25, 3, []) from by decide +kernel) rfl (fun c11 => absurd c11 (by decide)) (fun c11 => ?_)
      refine e_iload (show pAt 93 62 = some (62, .iload 4, 2, []) from by decide +kernel) rfl ?_
      refine e_iload_n (show pAt 93 64 = some (64, .iload_n 2, 1, []) from by decide +kernel) rfl ?_
      refine e_icmp (t := 70) (show pAt 93 65 = some (65, .if_icmp .ne 5, 3, []) from by decide +kernel) rfl (fun c12 => ?_) (fun c12 => ?_)
      · replace vc := vc.1 c12
        refine e_gs1 (show pAt 93 70 = some (70, .getstatic 233, 3, [0, 0, 4081]) from by decide +kernel) ?_
        refine e_iload (show pAt 93 73 = some (73, .iload 4, 2, []) from by decide +kernel) rfl ?_
        refine e_so1 (show pAt 93 75 = some (75, .iaload, 1, []) from by decide +kernel) (by decide) ?_
        refine e_istore (show pAt 93 76 = some (76, .istore 4, 2, []) from by decide +kernel) ⟨Nat.le_of_ble_eq_true rfl, rfl⟩ rfl ?_
        refine e_iinc (c := 1) (show pAt 93 78 = some (78, .iinc 5 1, 3, []) from by decide +kernel) rfl rfl (by decide) rfl ?_
        refine e_goto (t := 43) (show pAt 93 81 = some (81, .goto (-38), 3, []) from by decide +kernel) rfl ?_
        refine e_iload (show pAt 93 43 = some (43, .iload 5, 2, []) from by decide +kernel) rfl ?_
        refine e_bipush (c := 7) (show pAt 93 45 = some (45, .bipush 7, 2, []) from by decide +kernel) (by decide) ?_
        refine e_icmp (t := 84) (show pAt 93 47 = some (47, .if_icmp .ge 37, 3, []) from by decide +kernel) rfl (fun c13 => absurd c13 (by decide)) (fun c13 => ?_)
        refine e_iload (show pAt 93 50 = some (50, .iload 4, 2, []) from by decide +kernel) rfl ?_
        refine e_if (t := 84) (show pAt 93 52 = some (52, .ifCond .lt 32, 3, []) from by decide +kernel) rfl (fun c14 => ?_) (fun c14 => absurd c14 (by decide))
        refine e_bipush (c := (-12)) (show pAt 93 84 = some (84, .bipush (-12), 2, []) from by decide +kernel) (by decide) ?_
        exact e_retI (show pAt 93 86 = some (86, .ireturn, 1, []) from by decide +kernel) rfl vc
      · replace vc := vc.2 c12
        refine e_iload_n (show pAt 93 68 = some (68, .iload_n 3, 1, []) from by decide +kernel) rfl ?_
        exact e_retI (show pAt 93 69 = some (69, .ireturn, 1, []) from by decide +kernel) rfl vc
    · replace vc := vc.2 c8
      refine e_iload_n (show pAt 93 68 = some (68, .iload_n 3, 1, []) from by decide +kernel) rfl ?_
      exact e_retI (show pAt 93 69 = some (69, .ireturn, 1, []) from by decide +kernel) rfl vc
  · replace vc := vc.2 c4
    refine e_iload_n (show pAt 93 68 = some (68, .iload_n 3, 1, []) from by decide +kernel) rfl ?_
    exact e_retI (show pAt 93 69 = some (69, .ireturn, 1, []) from by decide +kernel) rfl vc

theorem w_ctk6 {X : Scr} {dp : Nat} {h : Hp} {Q : Option Value → Hp → Prop} (p : Int32) (k : Int32) (hs : HS h)
    (vc : ((condB .ne 6 k = true → ((condB .ne (aboveL.getD (6 : Int32).toNatClampNeg 0) k = true → ((condB .ne (aboveL.getD (aboveL.getD (6 : Int32).toNatClampNeg 0).toNatClampNeg 0) k = true → Q (some (.int (-12))) h) ∧ (condB .ne (aboveL.getD (aboveL.getD (6 : Int32).toNatClampNeg 0).toNatClampNeg 0) k = false → Q (some (.int 6)) h))) ∧ (condB .ne (aboveL.getD (6 : Int32).toNatClampNeg 0) k = false → Q (some (.int 6)) h))) ∧ (condB .ne 6 k = false → Q (some (.int 6)) h))) :
    Ends X dp 93 43 [.ref 0, .int p, .int k, .int 6, .int 6, .int 0] [] h Q := by
  have ra : ∀ {a : Nat}, a < 1000 → a ≤ OLDB := fun h => by have := OLDB_eq; omega
  refine e_iload (show pAt 93 43 = some (43, .iload 5, 2, []) from by decide +kernel) rfl ?_
  refine e_bipush (c := 7) (show pAt 93 45 = some (45, .bipush 7, 2, []) from by decide +kernel) (by decide) ?_
  refine e_icmp (t := 84) (show pAt 93 47 = some (47, .if_icmp .ge 37, 3, []) from by decide +kernel) rfl (fun c1 => absurd c1 (by decide)) (fun c1 => ?_)
  refine e_iload (show pAt 93 50 = some (50, .iload 4, 2, []) from by decide +kernel) rfl ?_
  refine e_if (t := 84) (show pAt 93 52 = some (52, .ifCond .lt 32, 3, []) from by decide +kernel) rfl (fun c2 => absurd c2 (by decide)) (fun c2 => ?_)
  refine e_iload (show pAt 93 55 = some (55, .iload 4, 2, []) from by decide +kernel) rfl ?_
  refine e_bipush (c := 7) (show pAt 93 57 = some (57, .bipush 7, 2, []) from by decide +kernel) (by decide) ?_
  refine e_icmp (t := 84) (show pAt 93 59 = some (59, .if_icmp .ge 25, 3, []) from by decide +kernel) rfl (fun c3 => absurd c3 (by decide)) (fun c3 => ?_)
  refine e_iload (show pAt 93 62 = some (62, .iload 4, 2, []) from by decide +kernel) rfl ?_
  refine e_iload_n (show pAt 93 64 = some (64, .iload_n 2, 1, []) from by decide +kernel) rfl ?_
  refine e_icmp (t := 70) (show pAt 93 65 = some (65, .if_icmp .ne 5, 3, []) from by decide +kernel) rfl (fun c4 => ?_) (fun c4 => ?_)
  · replace vc := vc.1 c4
    refine e_gs1 (show pAt 93 70 = some (70, .getstatic 233, 3, [0, 0, 4081]) from by decide +kernel) ?_
    refine e_iload (show pAt 93 73 = some (73, .iload 4, 2, []) from by decide +kernel) rfl ?_
    refine e_so1 (show pAt 93 75 = some (75, .iaload, 1, []) from by decide +kernel) (by decide) ?_
    refine e_istore (show pAt 93 76 = some (76, .istore 4, 2, []) from by decide +kernel) ⟨Nat.le_of_ble_eq_true rfl, rfl⟩ rfl ?_
    refine e_iinc (c := 1) (show pAt 93 78 = some (78, .iinc 5 1, 3, []) from by decide +kernel) rfl rfl (by decide) rfl ?_
    refine e_goto (t := 43) (show pAt 93 81 = some (81, .goto (-38), 3, []) from by decide +kernel) rfl ?_
    refine e_iload (show pAt 93 43 = some (43, .iload 5, 2, []) from by decide +kernel) rfl ?_
    refine e_bipush (c := 7) (show pAt 93 45 = some (45, .bipush 7, 2, []) from by decide +kernel) (by decide) ?_
    refine e_icmp (t := 84) (show pAt 93 47 = some (47, .if_icmp .ge 37, 3, []) from by decide +kernel) rfl (fun c5 => absurd c5 (by decide)) (fun c5 => ?_)
    refine e_iload (show pAt 93 50 = some (50, .iload 4, 2, []) from by decide +kernel) rfl ?_
    refine e_if (t := 84) (show pAt 93 52 = some (52, .ifCond .lt 32, 3, []) from by decide +kernel) rfl (fun c6 => absurd c6 (by decide)) (fun c6 => ?_)
    refine e_iload (show pAt 93 55 = some (55, .iload 4, 2, []) from by decide +kernel) rfl ?_
    refine e_bipush (c := 7) (show pAt 93 57 = some (57, .bipush 7, 2, []) from by decide +kernel) (by decide) ?_
    refine e_icmp (t := 84) (show pAt 93 59 = some (59, .if_icmp .ge 25, 3, []) from by decide +kernel) rfl (fun c7 => absurd c7 (by decide)) (fun c7 => ?_)
    refine e_iload (show pAt 93 62 = some (62, .iload 4, 2, []) from by decide +kernel) rfl ?_
    refine e_iload_n (show pAt 93 64 = some (64, .iload_n 2, 1, []) from by decide +kernel) rfl ?_
    refine e_icmp (t := 70) (show pAt 93 65 = some (65, .if_icmp .ne 5, 3, []) from by decide +kernel) rfl (fun c8 => ?_) (fun c8 => ?_)
    · replace vc := vc.1 c8
      refine e_gs1 (show pAt 93 70 = some (70, .getstatic 233, 3, [0, 0, 4081]) from by decide +kernel) ?_
      refine e_iload (show pAt 93 73 = some (73, .iload 4, 2, []) from by decide +kernel) rfl ?_
      refine e_so1 (show pAt 93 75 = some (75, .iaload, 1, []) from by decide +kernel) (by decide) ?_
      refine e_istore (show pAt 93 76 = some (76, .istore 4, 2, []) from by decide +kernel) ⟨Nat.le_of_ble_eq_true rfl, rfl⟩ rfl ?_
      refine e_iinc (c := 1) (show pAt 93 78 = some (78, .iinc 5 1, 3, []) from by decide +kernel) rfl rfl (by decide) rfl ?_
      refine e_goto (t := 43) (show pAt 93 81 = some (81, .goto (-38), 3, []) from by decide +kernel) rfl ?_
      refine e_iload (show pAt 93 43 = some (43, .iload 5, 2, []) from by decide +kernel) rfl ?_
      refine e_bipush (c := 7) (show pAt 93 45 = some (45, .bipush 7, 2, []) from by decide +kernel) (by decide) ?_
      refine e_icmp (t := 84) (show pAt 93 47 = some (47, .if_icmp .ge 37, 3, []) from by decide +kernel) rfl (fun c9 => absurd c9 (by decide)) (fun c9 => ?_)
      refine e_iload (show pAt 93 50 = some (50, .iload 4, 2, []) from by decide +kernel) rfl ?_
      refine e_if (t := 84) (show pAt 93 52 = some (52, .ifCond .lt 32, 3, []) from by decide +kernel) rfl (fun c10 => absurd c10 (by decide)) (fun c10 => ?_)
      refine e_iload (show pAt 93 55 = some (55, .iload 4, 2, []) from by decide +kernel) rfl ?_
      refine e_bipush (c := 7) (show pAt 93 57 = some (57, .bipush 7, 2, []) from by decide +kernel) (by decide) ?_
      refine e_icmp (t := 84) (show pAt 93 59 = some (59, .if_icmp .ge 25, 3, []) from by decide +kernel) rfl (fun c11 => absurd c11 (by decide)) (fun c11 => ?_)
      refine e_iload (show pAt 93 62 = some (62, .iload 4, 2, []) from by decide +kernel) rfl ?_
      refine e_iload_n (show pAt 93 64 = some (64, .iload_n 2, 1, []) from by decide +kernel) rfl ?_
      refine e_icmp (t := 70) (show pAt 93 65 = some (65, .if_icmp .ne 5, 3, []) from by decide +kernel) rfl (fun c12 => ?_) (fun c12 => ?_)
      · replace vc := vc.1 c12
        refine e_gs1 (show pAt 93 70 = some (70, .getstatic 233, 3, [0, 0, 4081]) from by decide +kernel) ?_
        refine e_iload (show pAt 93 73 = some (73, .iload 4, 2, []) from by decide +kernel) rfl ?_
        refine e_so1 (show pAt 93 75 = some (75, .iaload, 1, []) from by decide +kernel) (by decide) ?_
        refine e_istore (show pAt 93 76 = some (76, .istore 4, 2, []) from by decide +kernel) ⟨Nat.le_of_ble_eq_true rfl, rfl⟩ rfl ?_
        refine e_iinc (c := 1) (show pAt 93 78 = some (78, .iinc 5 1, 3, []) from by decide +kernel) rfl rfl (by decide) rfl ?_
        refine e_goto (t := 43) (show pAt 93 81 = some (81, .goto (-38), 3, []) from by decide +kernel) rfl ?_
        refine e_iload (show pAt 93 43 = some (43, .iload 5, 2, []) from by decide +kernel) rfl ?_
        refine e_bipush (c := 7) (show pAt 93 45 = some (45, .bipush 7, 2, []) from by decide +kernel) (by decide) ?_
        refine e_icmp (t := 84) (show pAt 93 47 = some (47, .if_icmp .ge 37, 3, []) from by decide +kernel) rfl (fun c13 => absurd c13 (by decide)) (fun c13 => ?_)
        refine e_iload (show pAt 93 50 = some (50, .iload 4, 2, []) from by decide +kernel) rfl ?_
        refine e_if (t := 84) (show pAt 93 52 = some (52, .ifCond .lt 32, 3, []) from by decide +kernel) rfl (fun c14 => ?_) (fun c14 => absurd c14 (by decide))
        refine e_bipush (c := (-12)) (show pAt 93 84 = some (84, .bipush (-12), 2, []) from by decide +kernel) (by decide) ?_
        exact e_retI (show pAt 93 86 = some (86, .ireturn, 1, []) from by decide +kernel) rfl vc
      · replace vc := vc.2 c12
        refine e_iload_n (show pAt 93 68 = some (68, .iload_n 3, 1, []) from by decide +kernel) rfl ?_
        exact e_retI (show pAt 93 69 = some (69, .ireturn, 1, []) from by decide +kernel) rfl vc
    · replace vc := vc.2 c8
      refine e_iload_n (show pAt 93 68 = some (68, .iload_n 3, 1, []) from by decide +kernel) rfl ?_
      exact e_retI (show pAt 93 69 = some (69, .ireturn, 1, []) from by decide +kernel) rfl vc
  · replace vc := vc.2 c4
    refine e_iload_n (show pAt 93 68 = some (68, .iload_n 3, 1, []) from by decide +kernel) rfl ?_
    exact e_retI (show pAt 93 69 = some (69, .ireturn, 1, []) from by decide +kernel) rfl vc

theorem w_ctak {X : Scr} {dp : Nat} {h : Hp} {Q : Option Value → Hp → Prop} (p : Int32) (k : Int32) (hs : HS h)
    (vc : ((condB .lt k 0 = true → Q (some (.int (-2))) h) ∧ (condB .lt k 0 = false → ((condB .lt k 7 = true → Ends X dp 26 0 [.ref 1, .int p] [] h (fun rv h3 => ∃ r4, rv = some (.int r4) ∧ HS h3 ∧ ((condB .ne r4 0 = true → (inB p 7 = true ∧ Ends X (dp + 1) 93 43 [.ref 0, .int p, .int k, .int (h3.2.1 2 p.toNatClampNeg), .int (h3.2.1 2 p.toNatClampNeg), .int 0] [] h3 Q)) ∧ (condB .ne r4 0 = false → Q (some (.int (-11))) h3)))) ∧ (condB .lt k 7 = false → Q (some (.int (-2))) h))))) :
    Ends X (dp + 1) 93 0 [.ref 0, .int p, .int k, .retAddr 0, .retAddr 0, .retAddr 0] [] h Q := by
  have ra : ∀ {a : Nat}, a < 1000 → a ≤ OLDB := fun h => by have := OLDB_eq; omega
  refine e_iload_n (show pAt 93 0 = some (0, .iload_n 2, 1, []) from by decide +kernel) rfl ?_
  refine e_if (t := 10) (show pAt 93 1 = some (1, .ifCond .lt 9, 3, []) from by decide +kernel) rfl (fun c1 => ?_) (fun c1 => ?_)
  · replace vc := vc.1 c1
    refine e_bipush (c := (-2)) (show pAt 93 10 = some (10, .bipush (-2), 2, []) from by decide +kernel) (by decide) ?_
    exact e_retI (show pAt 93 12 = some (12, .ireturn, 1, []) from by decide +kernel) rfl vc
  · replace vc := vc.2 c1
    refine e_iload_n (show pAt 93 4 = some (4, .iload_n 2, 1, []) from by decide +kernel) rfl ?_
    refine e_bipush (c := 7) (show pAt 93 5 = some (5, .bipush 7, 2, []) from by decide +kernel) (by decide) ?_
    refine e_icmp (t := 13) (show pAt 93 7 = some (7, .if_icmp .lt 6, 3, []) from by decide +kernel) rfl (fun c2 => ?_) (fun c2 => ?_)
    · replace vc := vc.1 c2
      refine e_aload_n (show pAt 93 13 = some (13, .aload_n 0, 1, []) from by decide +kernel) rfl (ra (by decide)) ?_
      refine e_gR (show pAt 93 14 = some (14, .getfield 12, 3, [6, 0, 0, 2022]) from by decide +kernel) (show HS h from hs) rfl (by decide) (hs_ref (show HS h from hs) rfl) ?_
      refine e_iload_n (show pAt 93 17 = some (17, .iload_n 1, 1, []) from by decide +kernel) rfl ?_
      refine Ends.call (show pAt 93 18 = some (18, .invokevirtual 71, 3, [26, 2, 0, 1, 2071, 2073, 1]) from by decide +kernel) (isRet_none rfl) rfl (call_this (show HS h from hs) rfl rfl (by decide)) (Ends.mono vc ?_)
      rintro _ h3 ⟨r4, rfl, hs_h3, vc⟩
      refine e_if (t := 27) (show pAt 93 21 = some (21, .ifCond .ne 6, 3, []) from by decide +kernel) rfl (fun c6 => ?_) (fun c6 => ?_)
      · replace vc := vc.1 c6
        refine e_aload_n (show pAt 93 27 = some (27, .aload_n 0, 1, []) from by decide +kernel) rfl (ra (by decide)) ?_
        refine e_gR (show pAt 93 28 = some (28, .getfield 12, 3, [6, 0, 0, 2022]) from by decide +kernel) (show HS h3 from hs_h3) rfl (by decide) (hs_ref (show HS h3 from hs_h3) rfl) ?_
        refine e_gR (show pAt 93 31 = some (31, .getfield 74, 3, [2, 1, 1, 1035]) from by decide +kernel) (show HS h3 from hs_h3) rfl (by decide) (hs_ref (show HS h3 from hs_h3) rfl) ?_
        refine e_iload_n (show pAt 93 34 = some (34, .iload_n 1, 1, []) from by decide +kernel) rfl ?_
        obtain ⟨c7, vc⟩ := vc
        refine e_aldv (v := h3.2.1 2 p.toNatClampNeg) (show pAt 93 35 = some (35, .iaload, 1, []) from by decide +kernel) (show HS h3 from hs_h3) (by decide) c7 rfl ?_
        refine e_istore_n (show pAt 93 36 = some (36, .istore_n 3, 1, []) from by decide +kernel) ⟨Nat.le_of_ble_eq_true rfl, rfl⟩ rfl ?_
        refine e_iload_n (show pAt 93 37 = some (37, .iload_n 3, 1, []) from by decide +kernel) rfl ?_
        refine e_istore (show pAt 93 38 = some (38, .istore 4, 2, []) from by decide +kernel) ⟨Nat.le_of_ble_eq_true rfl, rfl⟩ rfl ?_
        refine e_iconst (c := 0) (show pAt 93 40 = some (40, .iconst 0, 1, []) from by decide +kernel) (by decide) ?_
        refine e_istore (show pAt 93 41 = some (41, .istore 5, 2, []) from by decide +kernel) ⟨Nat.le_of_ble_eq_true rfl, rfl⟩ rfl ?_
        exact vc
      · replace vc := vc.2 c6
        refine e_bipush (c := (-11)) (show pAt 93 24 = some (24, .bipush (-11), 2, []) from by decide +kernel) (by decide) ?_
        exact e_retI (show pAt 93 26 = some (26, .ireturn, 1, []) from by decide +kernel) rfl vc
    · replace vc := vc.2 c2
      refine e_bipush (c := (-2)) (show pAt 93 10 = some (10, .bipush (-2), 2, []) from by decide +kernel) (by decide) ?_
      exact e_retI (show pAt 93 12 = some (12, .ireturn, 1, []) from by decide +kernel) rfl vc

theorem w_mtak {X : Scr} {dp : Nat} {h : Hp} {Q : Option Value → Hp → Prop} (i : Int32) (k : Int32) (hs : HS h)
    (vc : Ends X dp 109 0 [.ref 93, .int k, .int 0, .int 6] [] h (fun rv h1 => ∃ r2, rv = some (.int r2) ∧ HS h1 ∧ ((condB .ne r2 0 = true → Ends X dp 112 0 [.ref 93, .int i] [] h1 (fun rv h5 => ∃ r6, rv = some (.int r6) ∧ HS h5 ∧ ((condB .ne r6 0 = true → (inB i 7 = true ∧ ((condB .eq k 0 = true → Q (some (.int (h5.2.1 94 i.toNatClampNeg))) h5) ∧ (condB .eq k 0 = false → ((condB .eq (h5.2.1 94 i.toNatClampNeg) k = true → Q (some (.int (h5.2.1 94 i.toNatClampNeg))) h5) ∧ (condB .eq (h5.2.1 94 i.toNatClampNeg) k = false → ((condB .ne k 1 = true → ((condB .ne k 2 = true → ((condB .ne k 3 = true → Q (some (.int (-12))) h5) ∧ (condB .ne k 3 = false → ((condB .ne (h5.2.1 94 i.toNatClampNeg) 6 = true → Q (some (.int (-12))) h5) ∧ (condB .ne (h5.2.1 94 i.toNatClampNeg) 6 = false → Q (some (.int (h5.2.1 94 i.toNatClampNeg))) h5))))) ∧ (condB .ne k 2 = false → ((condB .eq (h5.2.1 94 i.toNatClampNeg) 5 = true → Q (some (.int (h5.2.1 94 i.toNatClampNeg))) h5) ∧ (condB .eq (h5.2.1 94 i.toNatClampNeg) 5 = false → ((condB .ne k 3 = true → Q (some (.int (-12))) h5) ∧ (condB .ne k 3 = false → ((condB .ne (h5.2.1 94 i.toNatClampNeg) 6 = true → Q (some (.int (-12))) h5) ∧ (condB .ne (h5.2.1 94 i.toNatClampNeg) 6 = false → Q (some (.int (h5.2.1 94 i.toNatClampNeg))) h5))))))))) ∧ (condB .ne k 1 = false → ((condB .eq (h5.2.1 94 i.toNatClampNeg) 4 = true → Q (some (.int (h5.2.1 94 i.toNatClampNeg))) h5) ∧ (condB .eq (h5.2.1 94 i.toNatClampNeg) 4 = false → ((condB .ne k 2 = true → ((condB .ne k 3 = true → Q (some (.int (-12))) h5) ∧ (condB .ne k 3 = false → ((condB .ne (h5.2.1 94 i.toNatClampNeg) 6 = true → Q (some (.int (-12))) h5) ∧ (condB .ne (h5.2.1 94 i.toNatClampNeg) 6 = false → Q (some (.int (h5.2.1 94 i.toNatClampNeg))) h5))))) ∧ (condB .ne k 2 = false → ((condB .eq (h5.2.1 94 i.toNatClampNeg) 5 = true → Q (some (.int (h5.2.1 94 i.toNatClampNeg))) h5) ∧ (condB .eq (h5.2.1 94 i.toNatClampNeg) 5 = false → ((condB .ne k 3 = true → Q (some (.int (-12))) h5) ∧ (condB .ne k 3 = false → ((condB .ne (h5.2.1 94 i.toNatClampNeg) 6 = true → Q (some (.int (-12))) h5) ∧ (condB .ne (h5.2.1 94 i.toNatClampNeg) 6 = false → Q (some (.int (h5.2.1 94 i.toNatClampNeg))) h5)))))))))))))))))) ∧ (condB .ne r6 0 = false → Q (some (.int (-11))) h5)))) ∧ (condB .ne r2 0 = false → Q (some (.int (-2))) h1)))) :
    Ends X (dp + 1) 196 0 [.ref 93, .int i, .int k, .retAddr 0] [] h Q := by
  have ra : ∀ {a : Nat}, a < 1000 → a ≤ OLDB := fun h => by have := OLDB_eq; omega
  refine e_aload_n (show pAt 196 0 = some (0, .aload_n 0, 1, []) from by decide +kernel) rfl (ra (by decide)) ?_
  refine e_iload_n (show pAt 196 1 = some (1, .iload_n 2, 1, []) from by decide +kernel) rfl ?_
  refine e_iconst (c := 0) (show pAt 196 2 = some (2, .iconst 0, 1, []) from by decide +kernel) (by decide) ?_
  refine e_bipush (c := 6) (show pAt 196 3 = some (3, .bipush 6, 2, []) from by decide +kernel) (by decide) ?_
  refine Ends.call (show pAt 196 5 = some (5, .invokevirtual 206, 3, [109, 4, 0, 0, 5081, 5083, 54]) from by decide +kernel) (isRet_none rfl) rfl (call_this (show HS h from hs) rfl rfl (by decide)) (Ends.mono vc ?_)
  rintro _ h1 ⟨r2, rfl, hs_h1, vc⟩
  refine e_if (t := 14) (show pAt 196 8 = some (8, .ifCond .ne 6, 3, []) from by decide +kernel) rfl (fun c4 => ?_) (fun c4 => ?_)
  · replace vc := vc.1 c4
    refine e_aload_n (show pAt 196 14 = some (14, .aload_n 0, 1, []) from by decide +kernel) rfl (ra (by decide)) ?_
    refine e_iload_n (show pAt 196 15 = some (15, .iload_n 1, 1, []) from by decide +kernel) rfl ?_
    refine Ends.call (show pAt 196 16 = some (16, .invokevirtual 210, 3, [112, 2, 0, 0, 5089, 5091, 55]) from by decide +kernel) (isRet_none rfl) rfl (call_this (show HS h1 from hs_h1) rfl rfl (by decide)) (Ends.mono vc ?_)
    rintro _ h5 ⟨r6, rfl, hs_h5, vc⟩
    refine e_if (t := 25) (show pAt 196 19 = some (19, .ifCond .ne 6, 3, []) from by decide +kernel) rfl (fun c8 => ?_) (fun c8 => ?_)
    · replace vc := vc.1 c8
      refine e_aload_n (show pAt 196 25 = some (25, .aload_n 0, 1, []) from by decide +kernel) rfl (ra (by decide)) ?_
      refine e_gR (show pAt 196 26 = some (26, .getfield 19, 3, [7, 3, 0, 4126]) from by decide +kernel) (show HS h5 from hs_h5) rfl (by decide) (hs_ref (show HS h5 from hs_h5) rfl) ?_
      refine e_iload_n (show pAt 196 29 = some (29, .iload_n 1, 1, []) from by decide +kernel) rfl ?_
      obtain ⟨c9, vc⟩ := vc
      refine e_aldv (v := h5.2.1 94 i.toNatClampNeg) (show pAt 196 30 = some (30, .iaload, 1, []) from by decide +kernel) (show HS h5 from hs_h5) (by decide) c9 rfl ?_
      refine e_istore_n (show pAt 196 31 = some (31, .istore_n 3, 1, []) from by decide +kernel) ⟨Nat.le_of_ble_eq_true rfl, rfl⟩ rfl ?_
      refine e_iload_n (show pAt 196 32 = some (32, .iload_n 2, 1, []) from by decide +kernel) rfl ?_
      refine e_if (t := 72) (show pAt 196 33 = some (33, .ifCond .eq 39, 3, []) from by decide +kernel) rfl (fun c10 => ?_) (fun c10 => ?_)
      · replace vc := vc.1 c10
        refine e_iload_n (show pAt 196 72 = some (72, .iload_n 3, 1, []) from by decide +kernel) rfl ?_
        refine e_goto (t := 78) (show pAt 196 73 = some (73, .goto 5, 3, []) from by decide +kernel) rfl ?_
        exact e_retI (show pAt 196 78 = some (78, .ireturn, 1, []) from by decide +kernel) rfl vc
      · replace vc := vc.2 c10
        refine e_iload_n (show pAt 196 36 = some (36, .iload_n 3, 1, []) from by decide +kernel) rfl ?_
        refine e_iload_n (show pAt 196 37 = some (37, .iload_n 2, 1, []) from by decide +kernel) rfl ?_
        refine e_icmp (t := 72) (show pAt 196 38 = some (38, .if_icmp .eq 34, 3, []) from by decide +kernel) rfl (fun c11 => ?_) (fun c11 => ?_)
        · replace vc := vc.1 c11
          refine e_iload_n (show pAt 196 72 = some (72, .iload_n 3, 1, []) from by decide +kernel) rfl ?_
          refine e_goto (t := 78) (show pAt 196 73 = some (73, .goto 5, 3, []) from by decide +kernel) rfl ?_
          exact e_retI (show pAt 196 78 = some (78, .ireturn, 1, []) from by decide +kernel) rfl vc
        · replace vc := vc.2 c11
          refine e_iload_n (show pAt 196 41 = some (41, .iload_n 2, 1, []) from by decide +kernel) rfl ?_
          refine e_iconst (c := 1) (show pAt 196 42 = some (42, .iconst 1, 1, []) from by decide +kernel) (by decide) ?_
          refine e_icmp (t := 51) (show pAt 196 43 = some (43, .if_icmp .ne 8, 3, []) from by decide +kernel) rfl (fun c12 => ?_) (fun c12 => ?_)
          · replace vc := vc.1 c12
            refine e_iload_n (show pAt 196 51 = some (51, .iload_n 2, 1, []) from by decide +kernel) rfl ?_
            refine e_iconst (c := 2) (show pAt 196 52 = some (52, .iconst 2, 1, []) from by decide +kernel) (by decide) ?_
            refine e_icmp (t := 61) (show pAt 196 53 = some (53, .if_icmp .ne 8, 3, []) from by decide +kernel) rfl (fun c13 => ?_) (fun c13 => ?_)
            · replace vc := vc.1 c13
              refine e_iload_n (show pAt 196 61 = some (61, .iload_n 2, 1, []) from by decide +kernel) rfl ?_
              refine e_iconst (c := 3) (show pAt 196 62 = some (62, .iconst 3, 1, []) from by decide +kernel) (by decide) ?_
              refine e_icmp (t := 76) (show pAt 196 63 = some (63, .if_icmp .ne 13, 3, []) from by decide +kernel) rfl (fun c14 => ?_) (fun c14 => ?_)
              · replace vc := vc.1 c14
                refine e_bipush (c := (-12)) (show pAt 196 76 = some (76, .bipush (-12), 2, []) from by decide +kernel) (by decide) ?_
                exact e_retI (show pAt 196 78 = some (78, .ireturn, 1, []) from by decide +kernel) rfl vc
              · replace vc := vc.2 c14
                refine e_iload_n (show pAt 196 66 = some (66, .iload_n 3, 1, []) from by decide +kernel) rfl ?_
                refine e_bipush (c := 6) (show pAt 196 67 = some (67, .bipush 6, 2, []) from by decide +kernel) (by decide) ?_
                refine e_icmp (t := 76) (show pAt 196 69 = some (69, .if_icmp .ne 7, 3, []) from by decide +kernel) rfl (fun c15 => ?_) (fun c15 => ?_)
                · replace vc := vc.1 c15
                  refine e_bipush (c := (-12)) (show pAt 196 76 = some (76, .bipush (-12), 2, []) from by decide +kernel) (by decide) ?_
                  exact e_retI (show pAt 196 78 = some (78, .ireturn, 1, []) from by decide +kernel) rfl vc
                · replace vc := vc.2 c15
                  refine e_iload_n (show pAt 196 72 = some (72, .iload_n 3, 1, []) from by decide +kernel) rfl ?_
                  refine e_goto (t := 78) (show pAt 196 73 = some (73, .goto 5, 3, []) from by decide +kernel) rfl ?_
                  exact e_retI (show pAt 196 78 = some (78, .ireturn, 1, []) from by decide +kernel) rfl vc
            · replace vc := vc.2 c13
              refine e_iload_n (show pAt 196 56 = some (56, .iload_n 3, 1, []) from by decide +kernel) rfl ?_
              refine e_iconst (c := 5) (show pAt 196 57 = some (57, .iconst 5, 1, []) from by decide +kernel) (by decide) ?_
              refine e_icmp (t := 72) (show pAt 196 58 = some (58, .if_icmp .eq 14, 3, []) from by decide +kernel) rfl (fun c16 => ?_) (fun c16 => ?_)
              · replace vc := vc.1 c16
                refine e_iload_n (show pAt 196 72 = some (72, .iload_n 3, 1, []) from by decide +kernel) rfl ?_
                refine e_goto (t := 78) (show pAt 196 73 = some (73, .goto 5, 3, []) from by decide +kernel) rfl ?_
                exact e_retI (show pAt 196 78 = some (78, .ireturn, 1, []) from by decide +kernel) rfl vc
              · replace vc := vc.2 c16
                refine e_iload_n (show pAt 196 61 = some (61, .iload_n 2, 1, []) from by decide +kernel) rfl ?_
                refine e_iconst (c := 3) (show pAt 196 62 = some (62, .iconst 3, 1, []) from by decide +kernel) (by decide) ?_
                refine e_icmp (t := 76) (show pAt 196 63 = some (63, .if_icmp .ne 13, 3, []) from by decide +kernel) rfl (fun c17 => ?_) (fun c17 => ?_)
                · replace vc := vc.1 c17
                  refine e_bipush (c := (-12)) (show pAt 196 76 = some (76, .bipush (-12), 2, []) from by decide +kernel) (by decide) ?_
                  exact e_retI (show pAt 196 78 = some (78, .ireturn, 1, []) from by decide +kernel) rfl vc
                · replace vc := vc.2 c17
                  refine e_iload_n (show pAt 196 66 = some (66, .iload_n 3, 1, []) from by decide +kernel) rfl ?_
                  refine e_bipush (c := 6) (show pAt 196 67 = some (67, .bipush 6, 2, []) from by decide +kernel) (by decide) ?_
                  refine e_icmp (t := 76) (show pAt 196 69 = some (69, .if_icmp .ne 7, 3, []) from by decide +kernel) rfl (fun c18 => ?_) (fun c18 => ?_)
                  · replace vc := vc.1 c18
                    refine e_bipush (c := (-12)) (show pAt 196 76 = some (76, .bipush (-12), 2, []) from by decide +kernel) (by decide) ?_
                    exact e_retI (show pAt 196 78 = some (78, .ireturn, 1, []) from by decide +kernel) rfl vc
                  · replace vc := vc.2 c18
                    refine e_iload_n (show pAt 196 72 = some (72, .iload_n 3, 1, []) from by decide +kernel) rfl ?_
                    refine e_goto (t := 78) (show pAt 196 73 = some (73, .goto 5, 3, []) from by decide +kernel) rfl ?_
                    exact e_retI (show pAt 196 78 = some (78, .ireturn, 1, []) from by decide +kernel) rfl vc
          · replace vc := vc.2 c12
            refine e_iload_n (show pAt 196 46 = some (46, .iload_n 3, 1, []) from by decide +kernel) rfl ?_
            refine e_iconst (c := 4) (show pAt 196 47 = some (47, .iconst 4, 1, []) from by decide +kernel) (by decide) ?_
            refine e_icmp (t := 72) (show pAt 196 48 = some (48, .if_icmp .eq 24, 3, []) from by decide +kernel) rfl (fun c19 => ?_) (fun c19 => ?_)
            · replace vc := vc.1 c19
              refine e_iload_n (show pAt 196 72 = some (72, .iload_n 3, 1, []) from by decide +kernel) rfl ?_
              refine e_goto (t := 78) (show pAt 196 73 = some (73, .goto 5, 3, []) from by decide +kernel) rfl ?_
              exact e_retI (show pAt 196 78 = some (78, .ireturn, 1, []) from by decide +kernel) rfl vc
            · replace vc := vc.2 c19
              refine e_iload_n (show pAt 196 51 = some (51, .iload_n 2, 1, []) from by decide +kernel) rfl ?_
              refine e_iconst (c := 2) (show pAt 196 52 = some (52, .iconst 2, 1, []) from by decide +kernel) (by decide) ?_
              refine e_icmp (t := 61) (show pAt 196 53 = some (53, .if_icmp .ne 8, 3, []) from by decide +kernel) rfl (fun c20 => ?_) (fun c20 => ?_)
              · replace vc := vc.1 c20
                refine e_iload_n (show pAt 196 61 = some (61, .iload_n 2, 1, []) from by decide +kernel) rfl ?_
                refine e_iconst (c := 3) (show pAt 196 62 = some (62, .iconst 3, 1, []) from by decide +kernel) (by decide) ?_
                refine e_icmp (t := 76) (show pAt 196 63 = some (63, .if_icmp .ne 13, 3, []) from by decide +kernel) rfl (fun c21 => ?_) (fun c21 => ?_)
                · replace vc := vc.1 c21
                  refine e_bipush (c := (-12)) (show pAt 196 76 = some (76, .bipush (-12), 2, []) from by decide +kernel) (by decide) ?_
                  exact e_retI (show pAt 196 78 = some (78, .ireturn, 1, []) from by decide +kernel) rfl vc
                · replace vc := vc.2 c21
                  refine e_iload_n (show pAt 196 66 = some (66, .iload_n 3, 1, []) from by decide +kernel) rfl ?_
                  refine e_bipush (c := 6) (show pAt 196 67 = some (67, .bipush 6, 2, []) from by decide +kernel) (by decide) ?_
                  refine e_icmp (t := 76) (show pAt 196 69 = some (69, .if_icmp .ne 7, 3, []) from by decide +kernel) rfl (fun c22 => ?_) (fun c22 => ?_)
                  · replace vc := vc.1 c22
                    refine e_bipush (c := (-12)) (show pAt 196 76 = some (76, .bipush (-12), 2, []) from by decide +kernel) (by decide) ?_
                    exact e_retI (show pAt 196 78 = some (78, .ireturn, 1, []) from by decide +kernel) rfl vc
                  · replace vc := vc.2 c22
                    refine e_iload_n (show pAt 196 72 = some (72, .iload_n 3, 1, []) from by decide +kernel) rfl ?_
                    refine e_goto (t := 78) (show pAt 196 73 = some (73, .goto 5, 3, []) from by decide +kernel) rfl ?_
                    exact e_retI (show pAt 196 78 = some (78, .ireturn, 1, []) from by decide +kernel) rfl vc
              · replace vc := vc.2 c20
                refine e_iload_n (show pAt 196 56 = some (56, .iload_n 3, 1, []) from by decide +kernel) rfl ?_
                refine e_iconst (c := 5) (show pAt 196 57 = some (57, .iconst 5, 1, []) from by decide +kernel) (by decide) ?_
                refine e_icmp (t := 72) (show pAt 196 58 = some (58, .if_icmp .eq 14, 3, []) from by decide +kernel) rfl (fun c23 => ?_) (fun c23 => ?_)
                · replace vc := vc.1 c23
                  refine e_iload_n (show pAt 196 72 = some (72, .iload_n 3, 1, []) from by decide +kernel) rfl ?_
                  refine e_goto (t := 78) (show pAt 196 73 = some (73, .goto 5, 3, []) from by decide +kernel) rfl ?_
                  exact e_retI (show pAt 196 78 = some (78, .ireturn, 1, []) from by decide +kernel) rfl vc
                · replace vc := vc.2 c23
                  refine e_iload_n (show pAt 196 61 = some (61, .iload_n 2, 1, []) from by decide +kernel) rfl ?_
                  refine e_iconst (c := 3) (show pAt 196 62 = some (62, .iconst 3, 1, []) from by decide +kernel) (by decide) ?_
                  refine e_icmp (t := 76) (show pAt 196 63 = some (63, .if_icmp .ne 13, 3, []) from by decide +kernel) rfl (fun c24 => ?_) (fun c24 => ?_)
                  · replace vc := vc.1 c24
                    refine e_bipush (c := (-12)) (show pAt 196 76 = some (76, .bipush (-12), 2, []) from by decide +kernel) (by decide) ?_
                    exact e_retI (show pAt 196 78 = some (78, .ireturn, 1, []) from by decide +kernel) rfl vc
                  · replace vc := vc.2 c24
                    refine e_iload_n (show pAt 196 66 = some (66, .iload_n 3, 1, []) from by decide +kernel) rfl ?_
                    refine e_bipush (c := 6) (show pAt 196 67 = some (67, .bipush 6, 2, []) from by decide +kernel) (by decide) ?_
                    refine e_icmp (t := 76) (show pAt 196 69 = some (69, .if_icmp .ne 7, 3, []) from by decide +kernel) rfl (fun c25 => ?_) (fun c25 => ?_)
                    · replace vc := vc.1 c25
                      refine e_bipush (c := (-12)) (show pAt 196 76 = some (76, .bipush (-12), 2, []) from by decide +kernel) (by decide) ?_
                      exact e_retI (show pAt 196 78 = some (78, .ireturn, 1, []) from by decide +kernel) rfl vc
                    · replace vc := vc.2 c25
                      refine e_iload_n (show pAt 196 72 = some (72, .iload_n 3, 1, []) from by decide +kernel) rfl ?_
                      refine e_goto (t := 78) (show pAt 196 73 = some (73, .goto 5, 3, []) from by decide +kernel) rfl ?_
                      exact e_retI (show pAt 196 78 = some (78, .ireturn, 1, []) from by decide +kernel) rfl vc
    · replace vc := vc.2 c8
      refine e_bipush (c := (-11)) (show pAt 196 22 = some (22, .bipush (-11), 2, []) from by decide +kernel) (by decide) ?_
      exact e_retI (show pAt 196 24 = some (24, .ireturn, 1, []) from by decide +kernel) rfl vc
  · replace vc := vc.2 c4
    refine e_bipush (c := (-2)) (show pAt 196 11 = some (11, .bipush (-2), 2, []) from by decide +kernel) (by decide) ?_
    exact e_retI (show pAt 196 13 = some (13, .ireturn, 1, []) from by decide +kernel) rfl vc
