section JN99t1bwalks
/-! What is owed for rows, what is seen, books, tapes, acts of both sides. -/
theorem w_alone {X : Scr} {dp : Nat} {h : Hp} {Q : Option Value → Hp → Prop} (w : Int32) (hs : HS h)
    (vc : Ends X dp 112 0 [.ref 93, .int w] [] h (fun rv h1 => ∃ r2, rv = some (.int r2) ∧ HS h1 ∧ ((condB .ne r2 0 = true → Ends X dp 139 0 [.ref 93, .int w] [] h1 (fun rv h5 => ∃ r6, rv = some (.int r6) ∧ HS h5 ∧ ((condB .eq r6 0 = true → Ends X dp 157 0 [.ref 93, .retAddr 0, .retAddr 0, .retAddr 0, .retAddr 0, .retAddr 0] [] (hpI (hpI h5 93 32 ((h5.2.1 93 2) &&& ((1 <<< (w &&& 31)) ^^^ (-1)))) 93 2 (1 <<< (w &&& 31))) (fun rv h9 => ∃ r10, rv = some (.int r10) ∧ HS h9 ∧ Ends X dp 111 0 [.ref 93, .int r10, .retAddr 0, .retAddr 0] [] h9 (fun rv h12 => ∃ r13, rv = some (.int r13) ∧ HS h12 ∧ Q (some (.int r13)) (hpI (hpI h12 93 32 0) 93 2 (h5.2.1 93 2))))) ∧ (condB .eq r6 0 = false → Q (some (.int (-3))) h5)))) ∧ (condB .ne r2 0 = false → Q (some (.int (-1))) h1)))) :
    Ends X (dp + 1) 170 0 [.ref 93, .int w, .retAddr 0, .retAddr 0] [] h Q := by
  have ra : ∀ {a : Nat}, a < 1000 → a ≤ OLDB := fun h => by have := OLDB_eq; omega
  refine e_aload_n (show pAt 170 0 = some (0, .aload_n 0, 1, []) from by decide +kernel) rfl (ra (by decide)) ?_
  refine e_iload_n (show pAt 170 1 = some (1, .iload_n 1, 1, []) from by decide +kernel) rfl ?_
  refine Ends.call (show pAt 170 2 = some (2, .invokevirtual 210, 3, [112, 2, 0, 0, 5089, 5091, 55]) from by decide +kernel) (isRet_none rfl) rfl (call_this (show HS h from hs) rfl rfl (by decide)) (Ends.mono vc ?_)
  rintro _ h1 ⟨r2, rfl, hs_h1, vc⟩
  refine e_if (t := 10) (show pAt 170 5 = some (5, .ifCond .ne 5, 3, []) from by decide +kernel) rfl (fun c4 => ?_) (fun c4 => ?_)
  · replace vc := vc.1 c4
    refine e_aload_n (show pAt 170 10 = some (10, .aload_n 0, 1, []) from by decide +kernel) rfl (ra (by decide)) ?_
    refine e_iload_n (show pAt 170 11 = some (11, .iload_n 1, 1, []) from by decide +kernel) rfl ?_
    refine Ends.call (show pAt 170 12 = some (12, .invokevirtual 291, 3, [139, 2, 0, 0, 5169, 5171, 70]) from by decide +kernel) (isRet_none rfl) rfl (call_this (show HS h1 from hs_h1) rfl rfl (by decide)) (Ends.mono vc ?_)
    rintro _ h5 ⟨r6, rfl, hs_h5, vc⟩
    refine e_if (t := 21) (show pAt 170 15 = some (15, .ifCond .eq 6, 3, []) from by decide +kernel) rfl (fun c8 => ?_) (fun c8 => ?_)
    · replace vc := vc.1 c8
      refine e_aload_n (show pAt 170 21 = some (21, .aload_n 0, 1, []) from by decide +kernel) rfl (ra (by decide)) ?_
      refine e_gIv (v := h5.2.1 93 2) (show pAt 170 22 = some (22, .getfield 16, 3, [7, 2, 0, 4125]) from by decide +kernel) (show HS h5 from hs_h5) rfl (by decide) rfl ?_
      refine e_istore_n (show pAt 170 25 = some (25, .istore_n 2, 1, []) from by decide +kernel) ⟨Nat.le_of_ble_eq_true rfl, rfl⟩ rfl ?_
      refine e_aload_n (show pAt 170 26 = some (26, .aload_n 0, 1, []) from by decide +kernel) rfl (ra (by decide)) ?_
      refine e_aload_n (show pAt 170 27 = some (27, .aload_n 0, 1, []) from by decide +kernel) rfl (ra (by decide)) ?_
      refine e_gIv (v := h5.2.1 93 2) (show pAt 170 28 = some (28, .getfield 16, 3, [7, 2, 0, 4125]) from by decide +kernel) (show HS h5 from hs_h5) rfl (by decide) rfl ?_
      refine e_iconst (c := 1) (show pAt 170 31 = some (31, .iconst 1, 1, []) from by decide +kernel) (by decide) ?_
      refine e_iload_n (show pAt 170 32 = some (32, .iload_n 1, 1, []) from by decide +kernel) rfl ?_
      refine e_ishl (show pAt 170 33 = some (33, .ishl, 1, []) from by decide +kernel) ?_
      refine e_iconst (c := (-1)) (show pAt 170 34 = some (34, .iconst (-1), 1, []) from by decide +kernel) (by decide) ?_
      refine e_ixor (show pAt 170 35 = some (35, .ixor, 1, []) from by decide +kernel) ?_
      refine e_iand (show pAt 170 36 = some (36, .iand, 1, []) from by decide +kernel) ?_
      refine e_pI (show pAt 170 37 = some (37, .putfield 109, 3, [7, 32, 0, 4155]) from by decide +kernel) (show HS h5 from hs_h5) (by decide) (Or.inl rfl) ?_
      refine e_aload_n (show pAt 170 40 = some (40, .aload_n 0, 1, []) from by decide +kernel) rfl (ra (by decide)) ?_
      refine e_iconst (c := 1) (show pAt 170 41 = some (41, .iconst 1, 1, []) from by decide +kernel) (by decide) ?_
      refine e_iload_n (show pAt 170 42 = some (42, .iload_n 1, 1, []) from by decide +kernel) rfl ?_
      refine e_ishl (show pAt 170 43 = some (43, .ishl, 1, []) from by decide +kernel) ?_
      refine e_pI (show pAt 170 44 = some (44, .putfield 16, 3, [7, 2, 0, 4125]) from by decide +kernel) (show HS (hpI h5 93 32 ((h5.2.1 93 2) &&& ((1 <<< (w &&& 31)) ^^^ (-1)))) from hs_h5) (by decide) (Or.inl rfl) ?_
      refine e_aload_n (show pAt 170 47 = some (47, .aload_n 0, 1, []) from by decide +kernel) rfl (ra (by decide)) ?_
      refine e_aload_n (show pAt 170 48 = some (48, .aload_n 0, 1, []) from by decide +kernel) rfl (ra (by decide)) ?_
      refine Ends.call (show pAt 170 49 = some (49, .invokevirtual 333, 3, [157, 1, 0, 0, 6009, 6011, 88]) from by decide +kernel) (isRet_none rfl) rfl (call_this (show HS (hpI (hpI h5 93 32 ((h5.2.1 93 2) &&& ((1 <<< (w &&& 31)) ^^^ (-1)))) 93 2 (1 <<< (w &&& 31))) from hs_h5) rfl rfl (by decide)) (Ends.mono vc ?_)
      rintro _ h9 ⟨r10, rfl, hs_h9, vc⟩
      refine Ends.call (show pAt 170 52 = some (52, .invokevirtual 342, 3, [111, 2, 0, 0, 6045, 6047, 96]) from by decide +kernel) (isRet_none rfl) rfl (call_this (show HS h9 from hs_h9) rfl rfl (by decide)) (Ends.mono vc ?_)
      rintro _ h12 ⟨r13, rfl, hs_h12, vc⟩
      refine e_istore_n (show pAt 170 55 = some (55, .istore_n 3, 1, []) from by decide +kernel) ⟨Nat.le_of_ble_eq_true rfl, rfl⟩ rfl ?_
      refine e_aload_n (show pAt 170 56 = some (56, .aload_n 0, 1, []) from by decide +kernel) rfl (ra (by decide)) ?_
      refine e_iconst (c := 0) (show pAt 170 57 = some (57, .iconst 0, 1, []) from by decide +kernel) (by decide) ?_
      refine e_pI (show pAt 170 58 = some (58, .putfield 109, 3, [7, 32, 0, 4155]) from by decide +kernel) (show HS h12 from hs_h12) (by decide) (Or.inl rfl) ?_
      refine e_aload_n (show pAt 170 61 = some (61, .aload_n 0, 1, []) from by decide +kernel) rfl (ra (by decide)) ?_
      refine e_iload_n (show pAt 170 62 = some (62, .iload_n 2, 1, []) from by decide +kernel) rfl ?_
      refine e_pI (show pAt 170 63 = some (63, .putfield 16, 3, [7, 2, 0, 4125]) from by decide +kernel) (show HS (hpI h12 93 32 0) from hs_h12) (by decide) (Or.inl rfl) ?_
      refine e_iload_n (show pAt 170 66 = some (66, .iload_n 3, 1, []) from by decide +kernel) rfl ?_
      exact e_retI (show pAt 170 67 = some (67, .ireturn, 1, []) from by decide +kernel) rfl vc
    · replace vc := vc.2 c8
      refine e_bipush (c := (-3)) (show pAt 170 18 = some (18, .bipush (-3), 2, []) from by decide +kernel) (by decide) ?_
      exact e_retI (show pAt 170 20 = some (20, .ireturn, 1, []) from by decide +kernel) rfl vc
  · replace vc := vc.2 c4
    refine e_iconst (c := (-1)) (show pAt 170 8 = some (8, .iconst (-1), 1, []) from by decide +kernel) (by decide) ?_
    exact e_retI (show pAt 170 9 = some (9, .ireturn, 1, []) from by decide +kernel) rfl vc

theorem w_chas {X : Scr} {dp : Nat} {h : Hp} {Q : Option Value → Hp → Prop} (p : Int32) (hs : HS h)
    (vc : ((condB .lt p 0 = true → Q (some (.int 0)) h) ∧ (condB .lt p 0 = false → ((condB .ge p (h.2.1 1 0) = true → Q (some (.int 0)) h) ∧ (condB .ge p (h.2.1 1 0) = false → ((condB .ge p 7 = true → Q (some (.int 0)) h) ∧ (condB .ge p 7 = false → Q (some (.int 1)) h))))))) :
    Ends X dp 26 0 [.ref 1, .int p] [] h Q := by
  have ra : ∀ {a : Nat}, a < 1000 → a ≤ OLDB := fun h => by have := OLDB_eq; omega
  refine e_iload_n (show pAt 26 0 = some (0, .iload_n 1, 1, []) from by decide +kernel) rfl ?_
  refine e_if (t := 22) (show pAt 26 1 = some (1, .ifCond .lt 21, 3, []) from by decide +kernel) rfl (fun c1 => ?_) (fun c1 => ?_)
  · replace vc := vc.1 c1
    refine e_iconst (c := 0) (show pAt 26 22 = some (22, .iconst 0, 1, []) from by decide +kernel) (by decide) ?_
    exact e_retZ (show pAt 26 23 = some (23, .ireturn, 1, []) from by decide +kernel) rfl (by decide) vc
  · replace vc := vc.2 c1
    refine e_iload_n (show pAt 26 4 = some (4, .iload_n 1, 1, []) from by decide +kernel) rfl ?_
    refine e_aload_n (show pAt 26 5 = some (5, .aload_n 0, 1, []) from by decide +kernel) rfl (ra (by decide)) ?_
    refine e_gIv (v := h.2.1 1 0) (show pAt 26 6 = some (6, .getfield 37, 3, [2, 0, 0, 1032]) from by decide +kernel) (show HS h from hs) rfl (by decide) rfl ?_
    refine e_icmp (t := 22) (show pAt 26 9 = some (9, .if_icmp .ge 13, 3, []) from by decide +kernel) rfl (fun c2 => ?_) (fun c2 => ?_)
    · replace vc := vc.1 c2
      refine e_iconst (c := 0) (show pAt 26 22 = some (22, .iconst 0, 1, []) from by decide +kernel) (by decide) ?_
      exact e_retZ (show pAt 26 23 = some (23, .ireturn, 1, []) from by decide +kernel) rfl (by decide) vc
    · replace vc := vc.2 c2
      refine e_iload_n (show pAt 26 12 = some (12, .iload_n 1, 1, []) from by decide +kernel) rfl ?_
      refine e_bipush (c := 7) (show pAt 26 13 = some (13, .bipush 7, 2, []) from by decide +kernel) (by decide) ?_
      refine e_icmp (t := 22) (show pAt 26 15 = some (15, .if_icmp .ge 7, 3, []) from by decide +kernel) rfl (fun c3 => ?_) (fun c3 => ?_)
      · replace vc := vc.1 c3
        refine e_iconst (c := 0) (show pAt 26 22 = some (22, .iconst 0, 1, []) from by decide +kernel) (by decide) ?_
        exact e_retZ (show pAt 26 23 = some (23, .ireturn, 1, []) from by decide +kernel) rfl (by decide) vc
      · replace vc := vc.2 c3
        refine e_iconst (c := 1) (show pAt 26 18 = some (18, .iconst 1, 1, []) from by decide +kernel) (by decide) ?_
        refine e_goto (t := 23) (show pAt 26 19 = some (19, .goto 4, 3, []) from by decide +kernel) rfl ?_
        exact e_retZ (show pAt 26 23 = some (23, .ireturn, 1, []) from by decide +kernel) rfl (by decide) vc

theorem w_crow {X : Scr} {dp : Nat} {h : Hp} {Q : Option Value → Hp → Prop} (p : Int32) (a : Int32) (n : Int32) (hs : HS h)
    (vc : Ends X dp 26 0 [.ref 1, .int p] [] h (fun rv h1 => ∃ r2, rv = some (.int r2) ∧ HS h1 ∧ ((condB .eq r2 0 = true → Q (some (.int (-1))) h1) ∧ (condB .eq r2 0 = false → ((condB .lt a 0 = true → Q (some (.int (-1))) h1) ∧ (condB .lt a 0 = false → ((condB .lt a 4 = true → Ends X dp 103 0 [.int n] [] h1 (fun rv h7 => ∃ r8, rv = some (.int r8) ∧ HS h7 ∧ ((condB .ne r8 0 = true → (inB p 7 = true ∧ ((condB .eq (h7.2.1 2 p.toNatClampNeg) 6 = true → (inB ((p * 4) + a) 28 = true ∧ (inB ((p * 4) + a) 28 = true ∧ Q (some (.int (h7.2.1 7 ((p * 4) + a).toNatClampNeg))) (hpI h7 7 ((p * 4) + a).toNatClampNeg n)))) ∧ (condB .eq (h7.2.1 2 p.toNatClampNeg) 6 = false → Q (some (.int (-3))) h7)))) ∧ (condB .ne r8 0 = false → Q (some (.int (-2))) h7)))) ∧ (condB .lt a 4 = false → Q (some (.int (-1))) h1)))))))) :
    Ends X (dp + 1) 67 0 [.ref 0, .int p, .int a, .int n, .retAddr 0] [] h Q := by
  have ra : ∀ {a : Nat}, a < 1000 → a ≤ OLDB := fun h => by have := OLDB_eq; omega
  refine e_aload_n (show pAt 67 0 = some (0, .aload_n 0, 1, []) from by decide +kernel) rfl (ra (by decide)) ?_
  refine e_gR (show pAt 67 1 = some (1, .getfield 12, 3, [6, 0, 0, 2022]) from by decide +kernel) (show HS h from hs) rfl (by decide) (hs_ref (show HS h from hs) rfl) ?_
  refine e_iload_n (show pAt 67 4 = some (4, .iload_n 1, 1, []) from by decide +kernel) rfl ?_
  refine Ends.call (show pAt 67 5 = some (5, .invokevirtual 71, 3, [26, 2, 0, 1, 2071, 2073, 1]) from by decide +kernel) (isRet_none rfl) rfl (call_this (show HS h from hs) rfl rfl (by decide)) (Ends.mono vc ?_)
  rintro _ h1 ⟨r2, rfl, hs_h1, vc⟩
  refine e_if (t := 20) (show pAt 67 8 = some (8, .ifCond .eq 12, 3, []) from by decide +kernel) rfl (fun c4 => ?_) (fun c4 => ?_)
  · replace vc := vc.1 c4
    refine e_iconst (c := (-1)) (show pAt 67 20 = some (20, .iconst (-1), 1, []) from by decide +kernel) (by decide) ?_
    exact e_retI (show pAt 67 21 = some (21, .ireturn, 1, []) from by decide +kernel) rfl vc
  · replace vc := vc.2 c4
    refine e_iload_n (show pAt 67 11 = some (11, .iload_n 2, 1, []) from by decide +kernel) rfl ?_
    refine e_if (t := 20) (show pAt 67 12 = some (12, .ifCond .lt 8, 3, []) from by decide +kernel) rfl (fun c5 => ?_) (fun c5 => ?_)
    · replace vc := vc.1 c5
      refine e_iconst (c := (-1)) (show pAt 67 20 = some (20, .iconst (-1), 1, []) from by decide +kernel) (by decide) ?_
      exact e_retI (show pAt 67 21 = some (21, .ireturn, 1, []) from by decide +kernel) rfl vc
    · replace vc := vc.2 c5
      refine e_iload_n (show pAt 67 15 = some (15, .iload_n 2, 1, []) from by decide +kernel) rfl ?_
      refine e_iconst (c := 4) (show pAt 67 16 = some (16, .iconst 4, 1, []) from by decide +kernel) (by decide) ?_
      refine e_icmp (t := 22) (show pAt 67 17 = some (17, .if_icmp .lt 5, 3, []) from by decide +kernel) rfl (fun c6 => ?_) (fun c6 => ?_)
      · replace vc := vc.1 c6
        refine e_iload_n (show pAt 67 22 = some (22, .iload_n 3, 1, []) from by decide +kernel) rfl ?_
        refine Ends.call (show pAt 67 23 = some (23, .invokestatic 64, 3, [103, 1, 2, 0, 2060, 2061, 0]) from by decide +kernel) (isRet_none rfl) rfl rfl (Ends.mono vc ?_)
        rintro _ h7 ⟨r8, rfl, hs_h7, vc⟩
        refine e_if (t := 32) (show pAt 67 26 = some (26, .ifCond .ne 6, 3, []) from by decide +kernel) rfl (fun c10 => ?_) (fun c10 => ?_)
        · replace vc := vc.1 c10
          refine e_aload_n (show pAt 67 32 = some (32, .aload_n 0, 1, []) from by decide +kernel) rfl (ra (by decide)) ?_
          refine e_gR (show pAt 67 33 = some (33, .getfield 12, 3, [6, 0, 0, 2022]) from by decide +kernel) (show HS h7 from hs_h7) rfl (by decide) (hs_ref (show HS h7 from hs_h7) rfl) ?_
          refine e_gR (show pAt 67 36 = some (36, .getfield 74, 3, [2, 1, 1, 1035]) from by decide +kernel) (show HS h7 from hs_h7) rfl (by decide) (hs_ref (show HS h7 from hs_h7) rfl) ?_
          refine e_iload_n (show pAt 67 39 = some (39, .iload_n 1, 1, []) from by decide +kernel) rfl ?_
          obtain ⟨c11, vc⟩ := vc
          refine e_aldv (v := h7.2.1 2 p.toNatClampNeg) (show pAt 67 40 = some (40, .iaload, 1, []) from by decide +kernel) (show HS h7 from hs_h7) (by decide) c11 rfl ?_
          refine e_bipush (c := 6) (show pAt 67 41 = some (41, .bipush 6, 2, []) from by decide +kernel) (by decide) ?_
          refine e_icmp (t := 49) (show pAt 67 43 = some (43, .if_icmp .eq 6, 3, []) from by decide +kernel) rfl (fun c12 => ?_) (fun c12 => ?_)
          · replace vc := vc.1 c12
            refine e_aload_n (show pAt 67 49 = some (49, .aload_n 0, 1, []) from by decide +kernel) rfl (ra (by decide)) ?_
            refine e_gR (show pAt 67 50 = some (50, .getfield 12, 3, [6, 0, 0, 2022]) from by decide +kernel) (show HS h7 from hs_h7) rfl (by decide) (hs_ref (show HS h7 from hs_h7) rfl) ?_
            refine e_gR (show pAt 67 53 = some (53, .getfield 101, 3, [2, 6, 1, 1050]) from by decide +kernel) (show HS h7 from hs_h7) rfl (by decide) (hs_ref (show HS h7 from hs_h7) rfl) ?_
            refine e_iload_n (show pAt 67 56 = some (56, .iload_n 1, 1, []) from by decide +kernel) rfl ?_
            refine e_iconst (c := 4) (show pAt 67 57 = some (57, .iconst 4, 1, []) from by decide +kernel) (by decide) ?_
            refine e_imul (show pAt 67 58 = some (58, .imul, 1, []) from by decide +kernel) ?_
            refine e_iload_n (show pAt 67 59 = some (59, .iload_n 2, 1, []) from by decide +kernel) rfl ?_
            refine e_iadd (show pAt 67 60 = some (60, .iadd, 1, []) from by decide +kernel) ?_
            obtain ⟨c13, vc⟩ := vc
            refine e_aldv (v := h7.2.1 7 ((p * 4) + a).toNatClampNeg) (show pAt 67 61 = some (61, .iaload, 1, []) from by decide +kernel) (show HS h7 from hs_h7) (by decide) c13 rfl ?_
            refine e_istore (show pAt 67 62 = some (62, .istore 4, 2, []) from by decide +kernel) ⟨Nat.le_of_ble_eq_true rfl, rfl⟩ rfl ?_
            refine e_aload_n (show pAt 67 64 = some (64, .aload_n 0, 1, []) from by decide +kernel) rfl (ra (by decide)) ?_
            refine e_gR (show pAt 67 65 = some (65, .getfield 12, 3, [6, 0, 0, 2022]) from by decide +kernel) (show HS h7 from hs_h7) rfl (by decide) (hs_ref (show HS h7 from hs_h7) rfl) ?_
            refine e_gR (show pAt 67 68 = some (68, .getfield 101, 3, [2, 6, 1, 1050]) from by decide +kernel) (show HS h7 from hs_h7) rfl (by decide) (hs_ref (show HS h7 from hs_h7) rfl) ?_
            refine e_iload_n (show pAt 67 71 = some (71, .iload_n 1, 1, []) from by decide +kernel) rfl ?_
            refine e_iconst (c := 4) (show pAt 67 72 = some (72, .iconst 4, 1, []) from by decide +kernel) (by decide) ?_
            refine e_imul (show pAt 67 73 = some (73, .imul, 1, []) from by decide +kernel) ?_
            refine e_iload_n (show pAt 67 74 = some (74, .iload_n 2, 1, []) from by decide +kernel) rfl ?_
            refine e_iadd (show pAt 67 75 = some (75, .iadd, 1, []) from by decide +kernel) ?_
            refine e_iload_n (show pAt 67 76 = some (76, .iload_n 3, 1, []) from by decide +kernel) rfl ?_
            obtain ⟨c14, vc⟩ := vc
            refine e_ast (show pAt 67 77 = some (77, .iastore, 1, []) from by decide +kernel) (show HS h7 from hs_h7) (by decide) c14 ?_
            refine e_iload (show pAt 67 78 = some (78, .iload 4, 2, []) from by decide +kernel) rfl ?_
            exact e_retI (show pAt 67 80 = some (80, .ireturn, 1, []) from by decide +kernel) rfl vc
          · replace vc := vc.2 c12
            refine e_bipush (c := (-3)) (show pAt 67 46 = some (46, .bipush (-3), 2, []) from by decide +kernel) (by decide) ?_
            exact e_retI (show pAt 67 48 = some (48, .ireturn, 1, []) from by decide +kernel) rfl vc
        · replace vc := vc.2 c10
          refine e_bipush (c := (-2)) (show pAt 67 29 = some (29, .bipush (-2), 2, []) from by decide +kernel) (by decide) ?_
          exact e_retI (show pAt 67 31 = some (31, .ireturn, 1, []) from by decide +kernel) rfl vc
      · replace vc := vc.2 c6
        refine e_iconst (c := (-1)) (show pAt 67 20 = some (20, .iconst (-1), 1, []) from by decide +kernel) (by decide) ?_
        exact e_retI (show pAt 67 21 = some (21, .ireturn, 1, []) from by decide +kernel) rfl vc

theorem w_mrow {X : Scr} {dp : Nat} {h : Hp} {Q : Option Value → Hp → Prop} (p : Int32) (a : Int32) (n : Int32) (hs : HS h)
    (vc : Ends X dp 112 0 [.ref 93, .int p] [] h (fun rv h1 => ∃ r2, rv = some (.int r2) ∧ HS h1 ∧ ((condB .eq r2 0 = true → Q (some (.int (-1))) h1) ∧ (condB .eq r2 0 = false → Ends X dp 109 0 [.ref 93, .int a, .int 0, .int 3] [] h1 (fun rv h5 => ∃ r6, rv = some (.int r6) ∧ HS h5 ∧ ((condB .ne r6 0 = true → Ends X dp 109 0 [.ref 93, .int n, .int 0, .int 6] [] h5 (fun rv h9 => ∃ r10, rv = some (.int r10) ∧ HS h9 ∧ ((condB .ne r10 0 = true → (inB p 7 = true ∧ ((condB .eq (h9.2.1 94 p.toNatClampNeg) 6 = true → (inB ((4 * p) + a) 28 = true ∧ (inB ((4 * p) + a) 28 = true ∧ Q (some (.int (h9.2.1 99 ((4 * p) + a).toNatClampNeg))) (hpI h9 99 ((4 * p) + a).toNatClampNeg n)))) ∧ (condB .eq (h9.2.1 94 p.toNatClampNeg) 6 = false → Q (some (.int (-3))) h9)))) ∧ (condB .ne r10 0 = false → Q (some (.int (-2))) h9)))) ∧ (condB .ne r6 0 = false → Q (some (.int (-1))) h5))))))) :
    Ends X (dp + 1) 117 0 [.ref 93, .int p, .int a, .int n, .retAddr 0] [] h Q := by
  have ra : ∀ {a : Nat}, a < 1000 → a ≤ OLDB := fun h => by have := OLDB_eq; omega
  refine e_aload_n (show pAt 117 0 = some (0, .aload_n 0, 1, []) from by decide +kernel) rfl (ra (by decide)) ?_
  refine e_iload_n (show pAt 117 1 = some (1, .iload_n 1, 1, []) from by decide +kernel) rfl ?_
  refine Ends.call (show pAt 117 2 = some (2, .invokevirtual 210, 3, [112, 2, 0, 0, 5089, 5091, 55]) from by decide +kernel) (isRet_none rfl) rfl (call_this (show HS h from hs) rfl rfl (by decide)) (Ends.mono vc ?_)
  rintro _ h1 ⟨r2, rfl, hs_h1, vc⟩
  refine e_if (t := 18) (show pAt 117 5 = some (5, .ifCond .eq 13, 3, []) from by decide +kernel) rfl (fun c4 => ?_) (fun c4 => ?_)
  · replace vc := vc.1 c4
    refine e_iconst (c := (-1)) (show pAt 117 18 = some (18, .iconst (-1), 1, []) from by decide +kernel) (by decide) ?_
    exact e_retI (show pAt 117 19 = some (19, .ireturn, 1, []) from by decide +kernel) rfl vc
  · replace vc := vc.2 c4
    refine e_aload_n (show pAt 117 8 = some (8, .aload_n 0, 1, []) from by decide +kernel) rfl (ra (by decide)) ?_
    refine e_iload_n (show pAt 117 9 = some (9, .iload_n 2, 1, []) from by decide +kernel) rfl ?_
    refine e_iconst (c := 0) (show pAt 117 10 = some (10, .iconst 0, 1, []) from by decide +kernel) (by decide) ?_
    refine e_iconst (c := 3) (show pAt 117 11 = some (11, .iconst 3, 1, []) from by decide +kernel) (by decide) ?_
    refine Ends.call (show pAt 117 12 = some (12, .invokevirtual 206, 3, [109, 4, 0, 0, 5081, 5083, 54]) from by decide +kernel) (isRet_none rfl) rfl (call_this (show HS h1 from hs_h1) rfl rfl (by decide)) (Ends.mono vc ?_)
    rintro _ h5 ⟨r6, rfl, hs_h5, vc⟩
    refine e_if (t := 20) (show pAt 117 15 = some (15, .ifCond .ne 5, 3, []) from by decide +kernel) rfl (fun c8 => ?_) (fun c8 => ?_)
    · replace vc := vc.1 c8
      refine e_aload_n (show pAt 117 20 = some (20, .aload_n 0, 1, []) from by decide +kernel) rfl (ra (by decide)) ?_
      refine e_iload_n (show pAt 117 21 = some (21, .iload_n 3, 1, []) from by decide +kernel) rfl ?_
      refine e_iconst (c := 0) (show pAt 117 22 = some (22, .iconst 0, 1, []) from by decide +kernel) (by decide) ?_
      refine e_bipush (c := 6) (show pAt 117 23 = some (23, .bipush 6, 2, []) from by decide +kernel) (by decide) ?_
      refine Ends.call (show pAt 117 25 = some (25, .invokevirtual 206, 3, [109, 4, 0, 0, 5081, 5083, 54]) from by decide +kernel) (isRet_none rfl) rfl (call_this (show HS h5 from hs_h5) rfl rfl (by decide)) (Ends.mono vc ?_)
      rintro _ h9 ⟨r10, rfl, hs_h9, vc⟩
      refine e_if (t := 34) (show pAt 117 28 = some (28, .ifCond .ne 6, 3, []) from by decide +kernel) rfl (fun c12 => ?_) (fun c12 => ?_)
      · replace vc := vc.1 c12
        refine e_aload_n (show pAt 117 34 = some (34, .aload_n 0, 1, []) from by decide +kernel) rfl (ra (by decide)) ?_
        refine e_gR (show pAt 117 35 = some (35, .getfield 19, 3, [7, 3, 0, 4126]) from by decide +kernel) (show HS h9 from hs_h9) rfl (by decide) (hs_ref (show HS h9 from hs_h9) rfl) ?_
        refine e_iload_n (show pAt 117 38 = some (38, .iload_n 1, 1, []) from by decide +kernel) rfl ?_
        obtain ⟨c13, vc⟩ := vc
        refine e_aldv (v := h9.2.1 94 p.toNatClampNeg) (show pAt 117 39 = some (39, .iaload, 1, []) from by decide +kernel) (show HS h9 from hs_h9) (by decide) c13 rfl ?_
        refine e_bipush (c := 6) (show pAt 117 40 = some (40, .bipush 6, 2, []) from by decide +kernel) (by decide) ?_
        refine e_icmp (t := 48) (show pAt 117 42 = some (42, .if_icmp .eq 6, 3, []) from by decide +kernel) rfl (fun c14 => ?_) (fun c14 => ?_)
        · replace vc := vc.1 c14
          refine e_aload_n (show pAt 117 48 = some (48, .aload_n 0, 1, []) from by decide +kernel) rfl (ra (by decide)) ?_
          refine e_gR (show pAt 117 49 = some (49, .getfield 35, 3, [7, 8, 0, 4131]) from by decide +kernel) (show HS h9 from hs_h9) rfl (by decide) (hs_ref (show HS h9 from hs_h9) rfl) ?_
          refine e_iconst (c := 4) (show pAt 117 52 = some (52, .iconst 4, 1, []) from by decide +kernel) (by decide) ?_
          refine e_iload_n (show pAt 117 53 = some (53, .iload_n 1, 1, []) from by decide +kernel) rfl ?_
          refine e_imul (show pAt 117 54 = some (54, .imul, 1, []) from by decide +kernel) ?_
          refine e_iload_n (show pAt 117 55 = some (55, .iload_n 2, 1, []) from by decide +kernel) rfl ?_
          refine e_iadd (show pAt 117 56 = some (56, .iadd, 1, []) from by decide +kernel) ?_
          obtain ⟨c15, vc⟩ := vc
          refine e_aldv (v := h9.2.1 99 ((4 * p) + a).toNatClampNeg) (show pAt 117 57 = some (57, .iaload, 1, []) from by decide +kernel) (show HS h9 from hs_h9) (by decide) c15 rfl ?_
          refine e_istore (show pAt 117 58 = some (58, .istore 4, 2, []) from by decide +kernel) ⟨Nat.le_of_ble_eq_true rfl, rfl⟩ rfl ?_
          refine e_aload_n (show pAt 117 60 = some (60, .aload_n 0, 1, []) from by decide +kernel) rfl (ra (by decide)) ?_
          refine e_gR (show pAt 117 61 = some (61, .getfield 35, 3, [7, 8, 0, 4131]) from by decide +kernel) (show HS h9 from hs_h9) rfl (by decide) (hs_ref (show HS h9 from hs_h9) rfl) ?_
          refine e_iconst (c := 4) (show pAt 117 64 = some (64, .iconst 4, 1, []) from by decide +kernel) (by decide) ?_
          refine e_iload_n (show pAt 117 65 = some (65, .iload_n 1, 1, []) from by decide +kernel) rfl ?_
          refine e_imul (show pAt 117 66 = some (66, .imul, 1, []) from by decide +kernel) ?_
          refine e_iload_n (show pAt 117 67 = some (67, .iload_n 2, 1, []) from by decide +kernel) rfl ?_
          refine e_iadd (show pAt 117 68 = some (68, .iadd, 1, []) from by decide +kernel) ?_
          refine e_iload_n (show pAt 117 69 = some (69, .iload_n 3, 1, []) from by decide +kernel) rfl ?_
          obtain ⟨c16, vc⟩ := vc
          refine e_ast (show pAt 117 70 = some (70, .iastore, 1, []) from by decide +kernel) (show HS h9 from hs_h9) (by decide) c16 ?_
          refine e_iload (show pAt 117 71 = some (71, .iload 4, 2, []) from by decide +kernel) rfl ?_
          exact e_retI (show pAt 117 73 = some (73, .ireturn, 1, []) from by decide +kernel) rfl vc
        · replace vc := vc.2 c14
          refine e_bipush (c := (-3)) (show pAt 117 45 = some (45, .bipush (-3), 2, []) from by decide +kernel) (by decide) ?_
          exact e_retI (show pAt 117 47 = some (47, .ireturn, 1, []) from by decide +kernel) rfl vc
      · replace vc := vc.2 c12
        refine e_bipush (c := (-2)) (show pAt 117 31 = some (31, .bipush (-2), 2, []) from by decide +kernel) (by decide) ?_
        exact e_retI (show pAt 117 33 = some (33, .ireturn, 1, []) from by decide +kernel) rfl vc
    · replace vc := vc.2 c8
      refine e_iconst (c := (-1)) (show pAt 117 18 = some (18, .iconst (-1), 1, []) from by decide +kernel) (by decide) ?_
      exact e_retI (show pAt 117 19 = some (19, .ireturn, 1, []) from by decide +kernel) rfl vc

theorem w_cevr {X : Scr} {dp : Nat} {h : Hp} {Q : Option Value → Hp → Prop}  (hs : HS h)
    (vc : Q (some (.int ((1 <<< ((h.2.1 1 0) &&& 31)) - 1))) h) :
    Ends X dp 28 0 [.ref 1] [] h Q := by
  have ra : ∀ {a : Nat}, a < 1000 → a ≤ OLDB := fun h => by have := OLDB_eq; omega
  refine e_iconst (c := 1) (show pAt 28 0 = some (0, .iconst 1, 1, []) from by decide +kernel) (by decide) ?_
  refine e_aload_n (show pAt 28 1 = some (1, .aload_n 0, 1, []) from by decide +kernel) rfl (ra (by decide)) ?_
  refine e_gIv (v := h.2.1 1 0) (show pAt 28 2 = some (2, .getfield 37, 3, [2, 0, 0, 1032]) from by decide +kernel) (show HS h from hs) rfl (by decide) rfl ?_
  refine e_ishl (show pAt 28 5 = some (5, .ishl, 1, []) from by decide +kernel) ?_
  refine e_iconst (c := 1) (show pAt 28 6 = some (6, .iconst 1, 1, []) from by decide +kernel) (by decide) ?_
  refine e_isub (show pAt 28 7 = some (7, .isub, 1, []) from by decide +kernel) ?_
  exact e_retI (show pAt 28 8 = some (8, .ireturn, 1, []) from by decide +kernel) rfl vc

theorem w_call {X : Scr} {dp : Nat} {h : Hp} {Q : Option Value → Hp → Prop} (a : Int32) (hs : HS h)
    (vc : Ends X dp 28 0 [.ref 1] [] h (fun rv h1 => ∃ r2, rv = some (.int r2) ∧ HS h1 ∧ ((condB .ne (a &&& (r2 ^^^ (-1))) 0 = true → Q (some (.int 0)) h1) ∧ (condB .ne (a &&& (r2 ^^^ (-1))) 0 = false → Q (some (.int 1)) h1)))) :
    Ends X (dp + 1) 30 0 [.ref 1, .int a] [] h Q := by
  have ra : ∀ {a : Nat}, a < 1000 → a ≤ OLDB := fun h => by have := OLDB_eq; omega
  refine e_iload_n (show pAt 30 0 = some (0, .iload_n 1, 1, []) from by decide +kernel) rfl ?_
  refine e_aload_n (show pAt 30 1 = some (1, .aload_n 0, 1, []) from by decide +kernel) rfl (ra (by decide)) ?_
  refine Ends.call (show pAt 30 2 = some (2, .invokevirtual 47, 3, [28, 1, 0, 0, 2109, 2111, 9]) from by decide +kernel) (isRet_none rfl) rfl (call_this (show HS h from hs) rfl rfl (by decide)) (Ends.mono vc ?_)
  rintro _ h1 ⟨r2, rfl, hs_h1, vc⟩
  refine e_iconst (c := (-1)) (show pAt 30 5 = some (5, .iconst (-1), 1, []) from by decide +kernel) (by decide) ?_
  refine e_ixor (show pAt 30 6 = some (6, .ixor, 1, []) from by decide +kernel) ?_
  refine e_iand (show pAt 30 7 = some (7, .iand, 1, []) from by decide +kernel) ?_
  refine e_if (t := 15) (show pAt 30 8 = some (8, .ifCond .ne 7, 3, []) from by decide +kernel) rfl (fun c4 => ?_) (fun c4 => ?_)
  · replace vc := vc.1 c4
    refine e_iconst (c := 0) (show pAt 30 15 = some (15, .iconst 0, 1, []) from by decide +kernel) (by decide) ?_
    exact e_retZ (show pAt 30 16 = some (16, .ireturn, 1, []) from by decide +kernel) rfl (by decide) vc
  · replace vc := vc.2 c4
    refine e_iconst (c := 1) (show pAt 30 11 = some (11, .iconst 1, 1, []) from by decide +kernel) (by decide) ?_
    refine e_goto (t := 16) (show pAt 30 12 = some (12, .goto 4, 3, []) from by decide +kernel) rfl ?_
    exact e_retZ (show pAt 30 16 = some (16, .ireturn, 1, []) from by decide +kernel) rfl (by decide) vc

theorem w_csee {X : Scr} {dp : Nat} {h : Hp} {Q : Option Value → Hp → Prop} (a : Int32) (hs : HS h)
    (vc : Ends X dp 30 0 [.ref 1, .int a] [] h (fun rv h1 => ∃ r2, rv = some (.int r2) ∧ HS h1 ∧ ((condB .ne r2 0 = true → Q (some (.int (h1.2.1 1 9))) (hpI h1 1 9 a)) ∧ (condB .ne r2 0 = false → Q (some (.int (-2))) h1)))) :
    Ends X (dp + 1) 82 0 [.ref 0, .int a, .retAddr 0] [] h Q := by
  have ra : ∀ {a : Nat}, a < 1000 → a ≤ OLDB := fun h => by have := OLDB_eq; omega
  refine e_aload_n (show pAt 82 0 = some (0, .aload_n 0, 1, []) from by decide +kernel) rfl (ra (by decide)) ?_
  refine e_gR (show pAt 82 1 = some (1, .getfield 12, 3, [6, 0, 0, 2022]) from by decide +kernel) (show HS h from hs) rfl (by decide) (hs_ref (show HS h from hs) rfl) ?_
  refine e_iload_n (show pAt 82 4 = some (4, .iload_n 1, 1, []) from by decide +kernel) rfl ?_
  refine Ends.call (show pAt 82 5 = some (5, .invokevirtual 176, 3, [30, 2, 0, 1, 4002, 4004, 47]) from by decide +kernel) (isRet_none rfl) rfl (call_this (show HS h from hs) rfl rfl (by decide)) (Ends.mono vc ?_)
  rintro _ h1 ⟨r2, rfl, hs_h1, vc⟩
  refine e_if (t := 14) (show pAt 82 8 = some (8, .ifCond .ne 6, 3, []) from by decide +kernel) rfl (fun c4 => ?_) (fun c4 => ?_)
  · replace vc := vc.1 c4
    refine e_aload_n (show pAt 82 14 = some (14, .aload_n 0, 1, []) from by decide +kernel) rfl (ra (by decide)) ?_
    refine e_gR (show pAt 82 15 = some (15, .getfield 12, 3, [6, 0, 0, 2022]) from by decide +kernel) (show HS h1 from hs_h1) rfl (by decide) (hs_ref (show HS h1 from hs_h1) rfl) ?_
    refine e_gIv (v := h1.2.1 1 9) (show pAt 82 18 = some (18, .getfield 179, 3, [2, 9, 1, 1059]) from by decide +kernel) (show HS h1 from hs_h1) rfl (by decide) rfl ?_
    refine e_istore_n (show pAt 82 21 = some (21, .istore_n 2, 1, []) from by decide +kernel) ⟨Nat.le_of_ble_eq_true rfl, rfl⟩ rfl ?_
    refine e_aload_n (show pAt 82 22 = some (22, .aload_n 0, 1, []) from by decide +kernel) rfl (ra (by decide)) ?_
    refine e_gR (show pAt 82 23 = some (23, .getfield 12, 3, [6, 0, 0, 2022]) from by decide +kernel) (show HS h1 from hs_h1) rfl (by decide) (hs_ref (show HS h1 from hs_h1) rfl) ?_
    refine e_iload_n (show pAt 82 26 = some (26, .iload_n 1, 1, []) from by decide +kernel) rfl ?_
    refine e_pI (show pAt 82 27 = some (27, .putfield 179, 3, [2, 9, 1, 1059]) from by decide +kernel) (show HS h1 from hs_h1) (by decide) (Or.inl rfl) ?_
    refine e_iload_n (show pAt 82 30 = some (30, .iload_n 2, 1, []) from by decide +kernel) rfl ?_
    exact e_retI (show pAt 82 31 = some (31, .ireturn, 1, []) from by decide +kernel) rfl vc
  · replace vc := vc.2 c4
    refine e_bipush (c := (-2)) (show pAt 82 11 = some (11, .bipush (-2), 2, []) from by decide +kernel) (by decide) ?_
    exact e_retI (show pAt 82 13 = some (13, .ireturn, 1, []) from by decide +kernel) rfl vc

theorem w_mall {X : Scr} {dp : Nat} {h : Hp} {Q : Option Value → Hp → Prop}  (hs : HS h)
    (vc : Q (some (.int ((1 <<< ((h.2.1 93 0) &&& 31)) - 1))) h) :
    Ends X dp 113 0 [.ref 93] [] h Q := by
  have ra : ∀ {a : Nat}, a < 1000 → a ≤ OLDB := fun h => by have := OLDB_eq; omega
  refine e_iconst (c := 1) (show pAt 113 0 = some (0, .iconst 1, 1, []) from by decide +kernel) (by decide) ?_
  refine e_aload_n (show pAt 113 1 = some (1, .aload_n 0, 1, []) from by decide +kernel) rfl (ra (by decide)) ?_
  refine e_gIv (v := h.2.1 93 0) (show pAt 113 2 = some (2, .getfield 7, 3, [7, 0, 0, 4123]) from by decide +kernel) (show HS h from hs) rfl (by decide) rfl ?_
  refine e_ishl (show pAt 113 5 = some (5, .ishl, 1, []) from by decide +kernel) ?_
  refine e_iconst (c := 1) (show pAt 113 6 = some (6, .iconst 1, 1, []) from by decide +kernel) (by decide) ?_
  refine e_isub (show pAt 113 7 = some (7, .isub, 1, []) from by decide +kernel) ?_
  exact e_retI (show pAt 113 8 = some (8, .ireturn, 1, []) from by decide +kernel) rfl vc

theorem w_msee {X : Scr} {dp : Nat} {h : Hp} {Q : Option Value → Hp → Prop} (a : Int32) (hs : HS h)
    (vc : Ends X dp 113 0 [.ref 93] [] h (fun rv h1 => ∃ r2, rv = some (.int r2) ∧ HS h1 ∧ Ends X dp 109 0 [.ref 93, .int a, .int 0, .int r2] [] h1 (fun rv h4 => ∃ r5, rv = some (.int r5) ∧ HS h4 ∧ ((condB .ne r5 0 = true → Q (some (.int (h4.2.1 93 41))) (hpI h4 93 41 a)) ∧ (condB .ne r5 0 = false → Q (some (.int (-2))) h4))))) :
    Ends X (dp + 1) 175 0 [.ref 93, .int a, .retAddr 0] [] h Q := by
  have ra : ∀ {a : Nat}, a < 1000 → a ≤ OLDB := fun h => by have := OLDB_eq; omega
  refine e_aload_n (show pAt 175 0 = some (0, .aload_n 0, 1, []) from by decide +kernel) rfl (ra (by decide)) ?_
  refine e_iload_n (show pAt 175 1 = some (1, .iload_n 1, 1, []) from by decide +kernel) rfl ?_
  refine e_iconst (c := 0) (show pAt 175 2 = some (2, .iconst 0, 1, []) from by decide +kernel) (by decide) ?_
  refine e_aload_n (show pAt 175 3 = some (3, .aload_n 0, 1, []) from by decide +kernel) rfl (ra (by decide)) ?_
  refine Ends.call (show pAt 175 4 = some (4, .invokevirtual 312, 3, [113, 1, 0, 0, 5237, 5239, 86]) from by decide +kernel) (isRet_none rfl) rfl (call_this (show HS h from hs) rfl rfl (by decide)) (Ends.mono vc ?_)
  rintro _ h1 ⟨r2, rfl, hs_h1, vc⟩
  refine Ends.call (show pAt 175 7 = some (7, .invokevirtual 206, 3, [109, 4, 0, 0, 5081, 5083, 54]) from by decide +kernel) (isRet_none rfl) rfl (call_this (show HS h1 from hs_h1) rfl rfl (by decide)) (Ends.mono vc ?_)
  rintro _ h4 ⟨r5, rfl, hs_h4, vc⟩
  refine e_if (t := 16) (show pAt 175 10 = some (10, .ifCond .ne 6, 3, []) from by decide +kernel) rfl (fun c7 => ?_) (fun c7 => ?_)
  · replace vc := vc.1 c7
    refine e_aload_n (show pAt 175 16 = some (16, .aload_n 0, 1, []) from by decide +kernel) rfl (ra (by decide)) ?_
    refine e_gIv (v := h4.2.1 93 41) (show pAt 175 17 = some (17, .getfield 136, 3, [7, 41, 0, 4164]) from by decide +kernel) (show HS h4 from hs_h4) rfl (by decide) rfl ?_
    refine e_istore_n (show pAt 175 20 = some (20, .istore_n 2, 1, []) from by decide +kernel) ⟨Nat.le_of_ble_eq_true rfl, rfl⟩ rfl ?_
    refine e_aload_n (show pAt 175 21 = some (21, .aload_n 0, 1, []) from by decide +kernel) rfl (ra (by decide)) ?_
    refine e_iload_n (show pAt 175 22 = some (22, .iload_n 1, 1, []) from by decide +kernel) rfl ?_
    refine e_pI (show pAt 175 23 = some (23, .putfield 136, 3, [7, 41, 0, 4164]) from by decide +kernel) (show HS h4 from hs_h4) (by decide) (Or.inl rfl) ?_
    refine e_iload_n (show pAt 175 26 = some (26, .iload_n 2, 1, []) from by decide +kernel) rfl ?_
    exact e_retI (show pAt 175 27 = some (27, .ireturn, 1, []) from by decide +kernel) rfl vc
  · replace vc := vc.2 c7
    refine e_bipush (c := (-2)) (show pAt 175 13 = some (13, .bipush (-2), 2, []) from by decide +kernel) (by decide) ?_
    exact e_retI (show pAt 175 15 = some (15, .ireturn, 1, []) from by decide +kernel) rfl vc

theorem w_cbok {X : Scr} {dp : Nat} {h : Hp} {Q : Option Value → Hp → Prop} (a : Int32) (hs : HS h)
    (vc : ((condB .ne a (-1) = true → Ends X dp 30 0 [.ref 1, .int a] [] h (fun rv h2 => ∃ r3, rv = some (.int r3) ∧ HS h2 ∧ ((condB .ne r3 0 = true → ((condB .lt (h2.2.1 1 11) 12 = true → (inB (h2.2.1 1 11) 12 = true ∧ Q (some (.int ((h2.2.1 1 11) + 1))) (hpI (hpI h2 8 (h2.2.1 1 11).toNatClampNeg a) 1 11 ((h2.2.1 1 11) + 1)))) ∧ (condB .lt (h2.2.1 1 11) 12 = false → Q (some (.int (-4))) h2))) ∧ (condB .ne r3 0 = false → Q (some (.int (-2))) h2)))) ∧ (condB .ne a (-1) = false → Q (some (.int 0)) (hpI h 1 11 0)))) :
    Ends X (dp + 1) 86 0 [.ref 0, .int a] [] h Q := by
  have ra : ∀ {a : Nat}, a < 1000 → a ≤ OLDB := fun h => by have := OLDB_eq; omega
  refine e_iload_n (show pAt 86 0 = some (0, .iload_n 1, 1, []) from by decide +kernel) rfl ?_
  refine e_iconst (c := (-1)) (show pAt 86 1 = some (1, .iconst (-1), 1, []) from by decide +kernel) (by decide) ?_
  refine e_icmp (t := 15) (show pAt 86 2 = some (2, .if_icmp .ne 13, 3, []) from by decide +kernel) rfl (fun c1 => ?_) (fun c1 => ?_)
  · replace vc := vc.1 c1
    refine e_aload_n (show pAt 86 15 = some (15, .aload_n 0, 1, []) from by decide +kernel) rfl (ra (by decide)) ?_
    refine e_gR (show pAt 86 16 = some (16, .getfield 12, 3, [6, 0, 0, 2022]) from by decide +kernel) (show HS h from hs) rfl (by decide) (hs_ref (show HS h from hs) rfl) ?_
    refine e_iload_n (show pAt 86 19 = some (19, .iload_n 1, 1, []) from by decide +kernel) rfl ?_
    refine Ends.call (show pAt 86 20 = some (20, .invokevirtual 176, 3, [30, 2, 0, 1, 4002, 4004, 47]) from by decide +kernel) (isRet_none rfl) rfl (call_this (show HS h from hs) rfl rfl (by decide)) (Ends.mono vc ?_)
    rintro _ h2 ⟨r3, rfl, hs_h2, vc⟩
    refine e_if (t := 29) (show pAt 86 23 = some (23, .ifCond .ne 6, 3, []) from by decide +kernel) rfl (fun c5 => ?_) (fun c5 => ?_)
    · replace vc := vc.1 c5
      refine e_aload_n (show pAt 86 29 = some (29, .aload_n 0, 1, []) from by decide +kernel) rfl (ra (by decide)) ?_
      refine e_gR (show pAt 86 30 = some (30, .getfield 12, 3, [6, 0, 0, 2022]) from by decide +kernel) (show HS h2 from hs_h2) rfl (by decide) (hs_ref (show HS h2 from hs_h2) rfl) ?_
      refine e_gIv (v := h2.2.1 1 11) (show pAt 86 33 = some (33, .getfield 188, 3, [2, 11, 1, 1063]) from by decide +kernel) (show HS h2 from hs_h2) rfl (by decide) rfl ?_
      refine e_bipush (c := 12) (show pAt 86 36 = some (36, .bipush 12, 2, []) from by decide +kernel) (by decide) ?_
      refine e_icmp (t := 44) (show pAt 86 38 = some (38, .if_icmp .lt 6, 3, []) from by decide +kernel) rfl (fun c6 => ?_) (fun c6 => ?_)
      · replace vc := vc.1 c6
        refine e_aload_n (show pAt 86 44 = some (44, .aload_n 0, 1, []) from by decide +kernel) rfl (ra (by decide)) ?_
        refine e_gR (show pAt 86 45 = some (45, .getfield 12, 3, [6, 0, 0, 2022]) from by decide +kernel) (show HS h2 from hs_h2) rfl (by decide) (hs_ref (show HS h2 from hs_h2) rfl) ?_
        refine e_gR (show pAt 86 48 = some (48, .getfield 191, 3, [2, 10, 1, 1061]) from by decide +kernel) (show HS h2 from hs_h2) rfl (by decide) (hs_ref (show HS h2 from hs_h2) rfl) ?_
        refine e_aload_n (show pAt 86 51 = some (51, .aload_n 0, 1, []) from by decide +kernel) rfl (ra (by decide)) ?_
        refine e_gR (show pAt 86 52 = some (52, .getfield 12, 3, [6, 0, 0, 2022]) from by decide +kernel) (show HS h2 from hs_h2) rfl (by decide) (hs_ref (show HS h2 from hs_h2) rfl) ?_
        refine e_gIv (v := h2.2.1 1 11) (show pAt 86 55 = some (55, .getfield 188, 3, [2, 11, 1, 1063]) from by decide +kernel) (show HS h2 from hs_h2) rfl (by decide) rfl ?_
        refine e_iload_n (show pAt 86 58 = some (58, .iload_n 1, 1, []) from by decide +kernel) rfl ?_
        obtain ⟨c7, vc⟩ := vc
        refine e_ast (show pAt 86 59 = some (59, .iastore, 1, []) from by decide +kernel) (show HS h2 from hs_h2) (by decide) c7 ?_
        refine e_aload_n (show pAt 86 60 = some (60, .aload_n 0, 1, []) from by decide +kernel) rfl (ra (by decide)) ?_
        refine e_gR (show pAt 86 61 = some (61, .getfield 12, 3, [6, 0, 0, 2022]) from by decide +kernel) (show HS (hpI h2 8 (h2.2.1 1 11).toNatClampNeg a) from hs_h2) rfl (by decide) (hs_ref (show HS (hpI h2 8 (h2.2.1 1 11).toNatClampNeg a) from hs_h2) rfl) ?_
        refine e_dupR (show pAt 86 64 = some (64, .dup, 1, []) from by decide +kernel) ?_
        refine e_gIv (v := h2.2.1 1 11) (show pAt 86 65 = some (65, .getfield 188, 3, [2, 11, 1, 1063]) from by decide +kernel) (show HS (hpI h2 8 (h2.2.1 1 11).toNatClampNeg a) from hs_h2) rfl (by decide) rfl ?_
        refine e_iconst (c := 1) (show pAt 86 68 = some (68, .iconst 1, 1, []) from by decide +kernel) (by decide) ?_
        refine e_iadd (show pAt 86 69 = some (69, .iadd, 1, []) from by decide +kernel) ?_
        refine e_pI (show pAt 86 70 = some (70, .putfield 188, 3, [2, 11, 1, 1063]) from by decide +kernel) (show HS (hpI h2 8 (h2.2.1 1 11).toNatClampNeg a) from hs_h2) (by decide) (Or.inl rfl) ?_
        refine e_aload_n (show pAt 86 73 = some (73, .aload_n 0, 1, []) from by decide +kernel) rfl (ra (by decide)) ?_
        refine e_gR (show pAt 86 74 = some (74, .getfield 12, 3, [6, 0, 0, 2022]) from by decide +kernel) (show HS (hpI (hpI h2 8 (h2.2.1 1 11).toNatClampNeg a) 1 11 ((h2.2.1 1 11) + 1)) from hs_h2) rfl (by decide) (hs_ref (show HS (hpI (hpI h2 8 (h2.2.1 1 11).toNatClampNeg a) 1 11 ((h2.2.1 1 11) + 1)) from hs_h2) rfl) ?_
        refine e_gIv (v := (h2.2.1 1 11) + 1) (show pAt 86 77 = some (77, .getfield 188, 3, [2, 11, 1, 1063]) from by decide +kernel) (show HS (hpI (hpI h2 8 (h2.2.1 1 11).toNatClampNeg a) 1 11 ((h2.2.1 1 11) + 1)) from hs_h2) rfl (by decide) rfl ?_
        exact e_retI (show pAt 86 80 = some (80, .ireturn, 1, []) from by decide +kernel) rfl vc
      · replace vc := vc.2 c6
        refine e_bipush (c := (-4)) (show pAt 86 41 = some (41, .bipush (-4), 2, []) from by decide +kernel) (by decide) ?_
        exact e_retI (show pAt 86 43 = some (43, .ireturn, 1, []) from by decide +kernel) rfl vc
    · replace vc := vc.2 c5
      refine e_bipush (c := (-2)) (show pAt 86 26 = some (26, .bipush (-2), 2, []) from by decide +kernel) (by decide) ?_
      exact e_retI (show pAt 86 28 = some (28, .ireturn, 1, []) from by decide +kernel) rfl vc
  · replace vc := vc.2 c1
    refine e_aload_n (show pAt 86 5 = some (5, .aload_n 0, 1, []) from by decide +kernel) rfl (ra (by decide)) ?_
    refine e_gR (show pAt 86 6 = some (6, .getfield 12, 3, [6, 0, 0, 2022]) from by decide +kernel) (show HS h from hs) rfl (by decide) (hs_ref (show HS h from hs) rfl) ?_
    refine e_iconst (c := 0) (show pAt 86 9 = some (9, .iconst 0, 1, []) from by decide +kernel) (by decide) ?_
    refine e_pI (show pAt 86 10 = some (10, .putfield 188, 3, [2, 11, 1, 1063]) from by decide +kernel) (show HS h from hs) (by decide) (Or.inl rfl) ?_
    refine e_iconst (c := 0) (show pAt 86 13 = some (13, .iconst 0, 1, []) from by decide +kernel) (by decide) ?_
    exact e_retI (show pAt 86 14 = some (14, .ireturn, 1, []) from by decide +kernel) rfl vc

theorem w_mbok {X : Scr} {dp : Nat} {h : Hp} {Q : Option Value → Hp → Prop} (a : Int32) (hs : HS h)
    (vc : ((condB .ne a (-1) = true → Ends X dp 113 0 [.ref 93] [] h (fun rv h2 => ∃ r3, rv = some (.int r3) ∧ HS h2 ∧ Ends X dp 109 0 [.ref 93, .int a, .int 0, .int r3] [] h2 (fun rv h5 => ∃ r6, rv = some (.int r6) ∧ HS h5 ∧ ((condB .ne r6 0 = true → ((condB .ne (h5.2.1 93 42) 12 = true → (inB (h5.2.1 93 42) 12 = true ∧ Q (some (.int ((h5.2.1 93 42) + 1))) (hpI (hpI h5 114 (h5.2.1 93 42).toNatClampNeg a) 93 42 ((h5.2.1 93 42) + 1)))) ∧ (condB .ne (h5.2.1 93 42) 12 = false → Q (some (.int (-4))) h5))) ∧ (condB .ne r6 0 = false → Q (some (.int (-2))) h5))))) ∧ (condB .ne a (-1) = false → Q (some (.int 0)) (hpI h 93 42 0)))) :
    Ends X (dp + 1) 181 0 [.ref 93, .int a] [] h Q := by
  have ra : ∀ {a : Nat}, a < 1000 → a ≤ OLDB := fun h => by have := OLDB_eq; omega
  refine e_iload_n (show pAt 181 0 = some (0, .iload_n 1, 1, []) from by decide +kernel) rfl ?_
  refine e_iconst (c := (-1)) (show pAt 181 1 = some (1, .iconst (-1), 1, []) from by decide +kernel) (by decide) ?_
  refine e_icmp (t := 12) (show pAt 181 2 = some (2, .if_icmp .ne 10, 3, []) from by decide +kernel) rfl (fun c1 => ?_) (fun c1 => ?_)
  · replace vc := vc.1 c1
    refine e_aload_n (show pAt 181 12 = some (12, .aload_n 0, 1, []) from by decide +kernel) rfl (ra (by decide)) ?_
    refine e_iload_n (show pAt 181 13 = some (13, .iload_n 1, 1, []) from by decide +kernel) rfl ?_
    refine e_iconst (c := 0) (show pAt 181 14 = some (14, .iconst 0, 1, []) from by decide +kernel) (by decide) ?_
    refine e_aload_n (show pAt 181 15 = some (15, .aload_n 0, 1, []) from by decide +kernel) rfl (ra (by decide)) ?_
    refine Ends.call (show pAt 181 16 = some (16, .invokevirtual 312, 3, [113, 1, 0, 0, 5237, 5239, 86]) from by decide +kernel) (isRet_none rfl) rfl (call_this (show HS h from hs) rfl rfl (by decide)) (Ends.mono vc ?_)
    rintro _ h2 ⟨r3, rfl, hs_h2, vc⟩
    refine Ends.call (show pAt 181 19 = some (19, .invokevirtual 206, 3, [109, 4, 0, 0, 5081, 5083, 54]) from by decide +kernel) (isRet_none rfl) rfl (call_this (show HS h2 from hs_h2) rfl rfl (by decide)) (Ends.mono vc ?_)
    rintro _ h5 ⟨r6, rfl, hs_h5, vc⟩
    refine e_if (t := 28) (show pAt 181 22 = some (22, .ifCond .ne 6, 3, []) from by decide +kernel) rfl (fun c8 => ?_) (fun c8 => ?_)
    · replace vc := vc.1 c8
      refine e_aload_n (show pAt 181 28 = some (28, .aload_n 0, 1, []) from by decide +kernel) rfl (ra (by decide)) ?_
      refine e_gIv (v := h5.2.1 93 42) (show pAt 181 29 = some (29, .getfield 139, 3, [7, 42, 0, 4165]) from by decide +kernel) (show HS h5 from hs_h5) rfl (by decide) rfl ?_
      refine e_bipush (c := 12) (show pAt 181 32 = some (32, .bipush 12, 2, []) from by decide +kernel) (by decide) ?_
      refine e_icmp (t := 40) (show pAt 181 34 = some (34, .if_icmp .ne 6, 3, []) from by decide +kernel) rfl (fun c9 => ?_) (fun c9 => ?_)
      · replace vc := vc.1 c9
        refine e_aload_n (show pAt 181 40 = some (40, .aload_n 0, 1, []) from by decide +kernel) rfl (ra (by decide)) ?_
        refine e_gR (show pAt 181 41 = some (41, .getfield 142, 3, [7, 43, 0, 4166]) from by decide +kernel) (show HS h5 from hs_h5) rfl (by decide) (hs_ref (show HS h5 from hs_h5) rfl) ?_
        refine e_aload_n (show pAt 181 44 = some (44, .aload_n 0, 1, []) from by decide +kernel) rfl (ra (by decide)) ?_
        refine e_gIv (v := h5.2.1 93 42) (show pAt 181 45 = some (45, .getfield 139, 3, [7, 42, 0, 4165]) from by decide +kernel) (show HS h5 from hs_h5) rfl (by decide) rfl ?_
        refine e_iload_n (show pAt 181 48 = some (48, .iload_n 1, 1, []) from by decide +kernel) rfl ?_
        obtain ⟨c10, vc⟩ := vc
        refine e_ast (show pAt 181 49 = some (49, .iastore, 1, []) from by decide +kernel) (show HS h5 from hs_h5) (by decide) c10 ?_
        refine e_aload_n (show pAt 181 50 = some (50, .aload_n 0, 1, []) from by decide +kernel) rfl (ra (by decide)) ?_
        refine e_dupR (show pAt 181 51 = some (51, .dup, 1, []) from by decide +kernel) ?_
        refine e_gIv (v := h5.2.1 93 42) (show pAt 181 52 = some (52, .getfield 139, 3, [7, 42, 0, 4165]) from by decide +kernel) (show HS (hpI h5 114 (h5.2.1 93 42).toNatClampNeg a) from hs_h5) rfl (by decide) rfl ?_
        refine e_iconst (c := 1) (show pAt 181 55 = some (55, .iconst 1, 1, []) from by decide +kernel) (by decide) ?_
        refine e_iadd (show pAt 181 56 = some (56, .iadd, 1, []) from by decide +kernel) ?_
        refine e_pI (show pAt 181 57 = some (57, .putfield 139, 3, [7, 42, 0, 4165]) from by decide +kernel) (show HS (hpI h5 114 (h5.2.1 93 42).toNatClampNeg a) from hs_h5) (by decide) (Or.inl rfl) ?_
        refine e_aload_n (show pAt 181 60 = some (60, .aload_n 0, 1, []) from by decide +kernel) rfl (ra (by decide)) ?_
        refine e_gIv (v := (h5.2.1 93 42) + 1) (show pAt 181 61 = some (61, .getfield 139, 3, [7, 42, 0, 4165]) from by decide +kernel) (show HS (hpI (hpI h5 114 (h5.2.1 93 42).toNatClampNeg a) 93 42 ((h5.2.1 93 42) + 1)) from hs_h5) rfl (by decide) rfl ?_
        exact e_retI (show pAt 181 64 = some (64, .ireturn, 1, []) from by decide +kernel) rfl vc
      · replace vc := vc.2 c9
        refine e_bipush (c := (-4)) (show pAt 181 37 = some (37, .bipush (-4), 2, []) from by decide +kernel) (by decide) ?_
        exact e_retI (show pAt 181 39 = some (39, .ireturn, 1, []) from by decide +kernel) rfl vc
    · replace vc := vc.2 c8
      refine e_bipush (c := (-2)) (show pAt 181 25 = some (25, .bipush (-2), 2, []) from by decide +kernel) (by decide) ?_
      exact e_retI (show pAt 181 27 = some (27, .ireturn, 1, []) from by decide +kernel) rfl vc
  · replace vc := vc.2 c1
    refine e_aload_n (show pAt 181 5 = some (5, .aload_n 0, 1, []) from by decide +kernel) rfl (ra (by decide)) ?_
    refine e_iconst (c := 0) (show pAt 181 6 = some (6, .iconst 0, 1, []) from by decide +kernel) (by decide) ?_
    refine e_pI (show pAt 181 7 = some (7, .putfield 139, 3, [7, 42, 0, 4165]) from by decide +kernel) (show HS h from hs) (by decide) (Or.inl rfl) ?_
    refine e_iconst (c := 0) (show pAt 181 10 = some (10, .iconst 0, 1, []) from by decide +kernel) (by decide) ?_
    exact e_retI (show pAt 181 11 = some (11, .ireturn, 1, []) from by decide +kernel) rfl vc

theorem w_fil0 {X : Scr} {dp : Nat} {h : Hp} {Q : Option Value → Hp → Prop} (a : Nat) (hA : (decide (a < 1000) && decide (SHl[a]? = some (.inl (1, 60)))) = true) (v : Int64) (hs : HS h)
    (vc : Ends X dp 220 6 [.ref a, .long v, .retAddr 0, .int 0, .int 60] [] h Q) :
    Ends X dp 220 0 [.ref a, .long v, .retAddr 0, .retAddr 0, .retAddr 0] [] h Q := by
  have ra : ∀ {a : Nat}, a < 1000 → a ≤ OLDB := fun h => by have := OLDB_eq; omega
  have rb : a ≤ OLDB := by
    have hB := OLDB_eq
    simp only [Bool.and_eq_true, decide_eq_true_eq] at hA
    omega
  refine e_iconst (c := 0) (show pAt 220 0 = some (0, .iconst 0, 1, []) from by decide +kernel) (by decide) ?_
  refine e_istore_n (show pAt 220 1 = some (1, .istore_n 3, 1, []) from by decide +kernel) ⟨Nat.le_of_ble_eq_true rfl, rfl⟩ rfl ?_
  refine e_aload_n (show pAt 220 2 = some (2, .aload_n 0, 1, []) from by decide +kernel) rfl rb ?_
  refine e_alenL (show pAt 220 3 = some (3, .arraylength, 1, []) from by decide +kernel) (show HS h from hs) hA ?_
  refine e_istore (show pAt 220 4 = some (4, .istore 4, 2, []) from by decide +kernel) ⟨Nat.le_of_ble_eq_true rfl, rfl⟩ rfl ?_
  exact vc

theorem w_fil1 {X : Scr} {dp : Nat} {h : Hp} {Q : Option Value → Hp → Prop} (a : Nat) (hA : (decide (a < 1000) && decide (SHl[a]? = some (.inl (1, 60)))) = true) (v : Int64) (i : Int32) (e : Int32) (hs : HS h)
    (vc : ((condB .ge i e = true → Q none h) ∧ (condB .ge i e = false → (inB i 60 = true ∧ Ends X dp 220 6 [.ref a, .long v, .retAddr 0, .int (i + 1), .int e] [] (hpL h a i.toNatClampNeg v) Q)))) :
    Ends X dp 220 6 [.ref a, .long v, .retAddr 0, .int i, .int e] [] h Q := by
  have ra : ∀ {a : Nat}, a < 1000 → a ≤ OLDB := fun h => by have := OLDB_eq; omega
  have rb : a ≤ OLDB := by
    have hB := OLDB_eq
    simp only [Bool.and_eq_true, decide_eq_true_eq] at hA
    omega
  refine e_iload_n (show pAt 220 6 = some (6, .iload_n 3, 1, []) from by decide +kernel) rfl ?_
  refine e_iload (show pAt 220 7 = some (7, .iload 4, 2, []) from by decide +kernel) rfl ?_
  refine e_icmp (t := 22) (show pAt 220 9 = some (9, .if_icmp .ge 13, 3, []) from by decide +kernel) rfl (fun c1 => ?_) (fun c1 => ?_)
  · replace vc := vc.1 c1
    exact e_retV (show pAt 220 22 = some (22, .return_, 1, []) from by decide +kernel) rfl vc
  · replace vc := vc.2 c1
    refine e_aload_n (show pAt 220 12 = some (12, .aload_n 0, 1, []) from by decide +kernel) rfl rb ?_
    refine e_iload_n (show pAt 220 13 = some (13, .iload_n 3, 1, []) from by decide +kernel) rfl ?_
    refine e_lload_n (show pAt 220 14 = some (14, .lload_n 1, 1, []) from by decide +kernel) rfl ?_
    obtain ⟨c2, vc⟩ := vc
    refine e_last (show pAt 220 15 = some (15, .lastore, 1, []) from by decide +kernel) (show HS h from hs) hA c2 ?_
    refine e_iinc (c := 1) (show pAt 220 16 = some (16, .iinc 3 1, 3, []) from by decide +kernel) rfl rfl (by decide) rfl ?_
    refine e_goto (t := 6) (show pAt 220 19 = some (19, .goto (-13), 3, []) from by decide +kernel) rfl ?_
    exact vc

theorem w_cbcm {X : Scr} {dp : Nat} {h : Hp} {Q : Option Value → Hp → Prop} (t : Int32) (s : Int32) (n : Int32) (hs : HS h)
    (vc : Ends X dp 35 0 [.ref 53, .int t] [] h (fun rv h1 => ∃ r2, rv = some (.int r2) ∧ HS h1 ∧ ((condB .eq r2 0 = true → Q none h1) ∧ (condB .eq r2 0 = false → (inB t 6 = true ∧ (inB t 6 = true ∧ (∃ b7 : Nat, (inB t 6 = true ∧ ((hpI (hpI h1 54 t.toNatClampNeg s) 55 t.toNatClampNeg n).2.2.2 56 t.toNatClampNeg = some b7 ∧ (b7 < 1000 ∧ Ends X dp 220 0 [.ref b7, .long 0, .retAddr 0, .retAddr 0, .retAddr 0] [] (hpI (hpI h1 54 t.toNatClampNeg s) 55 t.toNatClampNeg n) (fun rv h11 => rv = none ∧ HS h11 ∧ Q none h11))))))))))) :
    Ends X (dp + 1) 38 0 [.ref 53, .int t, .int s, .int n] [] h Q := by
  have ra : ∀ {a : Nat}, a < 1000 → a ≤ OLDB := fun h => by have := OLDB_eq; omega
  refine e_aload_n (show pAt 38 0 = some (0, .aload_n 0, 1, []) from by decide +kernel) rfl (ra (by decide)) ?_
  refine e_iload_n (show pAt 38 1 = some (1, .iload_n 1, 1, []) from by decide +kernel) rfl ?_
  refine Ends.call (show pAt 38 2 = some (2, .invokevirtual 27, 3, [35, 2, 0, 0, 4042, 4036, 48]) from by decide +kernel) (isRet_none rfl) rfl (call_this (show HS h from hs) rfl rfl (by decide)) (Ends.mono vc ?_)
  rintro _ h1 ⟨r2, rfl, hs_h1, vc⟩
  refine e_if (t := 32) (show pAt 38 5 = some (5, .ifCond .eq 27, 3, []) from by decide +kernel) rfl (fun c4 => ?_) (fun c4 => ?_)
  · replace vc := vc.1 c4
    exact e_retV (show pAt 38 32 = some (32, .return_, 1, []) from by decide +kernel) rfl vc
  · replace vc := vc.2 c4
    refine e_aload_n (show pAt 38 8 = some (8, .aload_n 0, 1, []) from by decide +kernel) rfl (ra (by decide)) ?_
    refine e_gR (show pAt 38 9 = some (9, .getfield 9, 3, [3, 0, 0, 2009]) from by decide +kernel) (show HS h1 from hs_h1) rfl (by decide) (hs_ref (show HS h1 from hs_h1) rfl) ?_
    refine e_iload_n (show pAt 38 12 = some (12, .iload_n 1, 1, []) from by decide +kernel) rfl ?_
    refine e_iload_n (show pAt 38 13 = some (13, .iload_n 2, 1, []) from by decide +kernel) rfl ?_
    obtain ⟨c5, vc⟩ := vc
    refine e_ast (show pAt 38 14 = some (14, .iastore, 1, []) from by decide +kernel) (show HS h1 from hs_h1) (by decide) c5 ?_
    refine e_aload_n (show pAt 38 15 = some (15, .aload_n 0, 1, []) from by decide +kernel) rfl (ra (by decide)) ?_
    refine e_gR (show pAt 38 16 = some (16, .getfield 13, 3, [3, 1, 0, 2011]) from by decide +kernel) (show HS (hpI h1 54 t.toNatClampNeg s) from hs_h1) rfl (by decide) (hs_ref (show HS (hpI h1 54 t.toNatClampNeg s) from hs_h1) rfl) ?_
    refine e_iload_n (show pAt 38 19 = some (19, .iload_n 1, 1, []) from by decide +kernel) rfl ?_
    refine e_iload_n (show pAt 38 20 = some (20, .iload_n 3, 1, []) from by decide +kernel) rfl ?_
    obtain ⟨c6, vc⟩ := vc
    refine e_ast (show pAt 38 21 = some (21, .iastore, 1, []) from by decide +kernel) (show HS (hpI h1 54 t.toNatClampNeg s) from hs_h1) (by decide) c6 ?_
    refine e_aload_n (show pAt 38 22 = some (22, .aload_n 0, 1, []) from by decide +kernel) rfl (ra (by decide)) ?_
    refine e_gR (show pAt 38 23 = some (23, .getfield 18, 3, [3, 2, 0, 2012]) from by decide +kernel) (show HS (hpI (hpI h1 54 t.toNatClampNeg s) 55 t.toNatClampNeg n) from hs_h1) rfl (by decide) (hs_ref (show HS (hpI (hpI h1 54 t.toNatClampNeg s) 55 t.toNatClampNeg n) from hs_h1) rfl) ?_
    refine e_iload_n (show pAt 38 26 = some (26, .iload_n 1, 1, []) from by decide +kernel) rfl ?_
    obtain ⟨b7, c8, c9, c10, vc⟩ := vc
    refine e_aald (t := 4) (show pAt 38 27 = some (27, .aaload, 1, []) from by decide +kernel) (show HS (hpI (hpI h1 54 t.toNatClampNeg s) 55 t.toNatClampNeg n) from hs_h1) (by decide) c8 c9 c10 ?_
    refine e_lconst (c := 0) (show pAt 38 28 = some (28, .lconst 0, 1, []) from by decide +kernel) (by decide) ?_
    refine Ends.call (show pAt 38 29 = some (29, .invokestatic 33, 3, [220, 2, 2, 0, 4094, 4095, 0]) from by decide +kernel) (isRet_none rfl) rfl rfl (Ends.mono vc ?_)
    rintro _ h11 ⟨rfl, hs_h11, vc⟩
    exact e_retV (show pAt 38 32 = some (32, .return_, 1, []) from by decide +kernel) rfl vc

theorem w_ctap {X : Scr} {dp : Nat} {h : Hp} {Q : Option Value → Hp → Prop} (t : Int32) (s : Int32) (n : Int32) (hs : HS h)
    (vc : Ends X dp 35 0 [.ref 53, .int t] [] h (fun rv h1 => ∃ r2, rv = some (.int r2) ∧ HS h1 ∧ ((condB .ne r2 0 = true → ((condB .ne s (-1) = true → ((condB .lt s 0 = true → Q (some (.int (-2))) h1) ∧ (condB .lt s 0 = false → ((condB .gt s 4 = true → Q (some (.int (-2))) h1) ∧ (condB .gt s 4 = false → ((condB .le n 60 = true → ((condB .ge n 0 = true → Ends X dp 38 0 [.ref 53, .int t, .int s, .int n] [] h1 (fun rv h10 => rv = none ∧ HS h10 ∧ Q (some (.int 1)) h10)) ∧ (condB .ge n 0 = false → Q (some (.int (-14))) h1))) ∧ (condB .le n 60 = false → Q (some (.int (-2))) h1))))))) ∧ (condB .ne s (-1) = false → Ends X dp 38 0 [.ref 53, .int t, .int s, .int 0] [] h1 (fun rv h13 => rv = none ∧ HS h13 ∧ Q (some (.int 1)) h13)))) ∧ (condB .ne r2 0 = false → Q (some (.int (-1))) h1)))) :
    Ends X (dp + 1) 95 0 [.ref 0, .int t, .int s, .int n] [] h Q := by
  have ra : ∀ {a : Nat}, a < 1000 → a ≤ OLDB := fun h => by have := OLDB_eq; omega
  refine e_aload_n (show pAt 95 0 = some (0, .aload_n 0, 1, []) from by decide +kernel) rfl (ra (by decide)) ?_
  refine e_gR (show pAt 95 1 = some (1, .getfield 56, 3, [6, 9, 0, 2031]) from by decide +kernel) (show HS h from hs) rfl (by decide) (hs_ref (show HS h from hs) rfl) ?_
  refine e_iload_n (show pAt 95 4 = some (4, .iload_n 1, 1, []) from by decide +kernel) rfl ?_
  refine Ends.call (show pAt 95 5 = some (5, .invokevirtual 194, 3, [35, 2, 0, 1, 4034, 4036, 48]) from by decide +kernel) (isRet_none rfl) rfl (call_this (show HS h from hs) rfl rfl (by decide)) (Ends.mono vc ?_)
  rintro _ h1 ⟨r2, rfl, hs_h1, vc⟩
  refine e_if (t := 13) (show pAt 95 8 = some (8, .ifCond .ne 5, 3, []) from by decide +kernel) rfl (fun c4 => ?_) (fun c4 => ?_)
  · replace vc := vc.1 c4
    refine e_iload_n (show pAt 95 13 = some (13, .iload_n 2, 1, []) from by decide +kernel) rfl ?_
    refine e_iconst (c := (-1)) (show pAt 95 14 = some (14, .iconst (-1), 1, []) from by decide +kernel) (by decide) ?_
    refine e_icmp (t := 30) (show pAt 95 15 = some (15, .if_icmp .ne 15, 3, []) from by decide +kernel) rfl (fun c5 => ?_) (fun c5 => ?_)
    · replace vc := vc.1 c5
      refine e_iload_n (show pAt 95 30 = some (30, .iload_n 2, 1, []) from by decide +kernel) rfl ?_
      refine e_if (t := 45) (show pAt 95 31 = some (31, .ifCond .lt 14, 3, []) from by decide +kernel) rfl (fun c6 => ?_) (fun c6 => ?_)
      · replace vc := vc.1 c6
        refine e_bipush (c := (-2)) (show pAt 95 45 = some (45, .bipush (-2), 2, []) from by decide +kernel) (by decide) ?_
        exact e_retI (show pAt 95 47 = some (47, .ireturn, 1, []) from by decide +kernel) rfl vc
      · replace vc := vc.2 c6
        refine e_iload_n (show pAt 95 34 = some (34, .iload_n 2, 1, []) from by decide +kernel) rfl ?_
        refine e_iconst (c := 4) (show pAt 95 35 = some (35, .iconst 4, 1, []) from by decide +kernel) (by decide) ?_
        refine e_icmp (t := 45) (show pAt 95 36 = some (36, .if_icmp .gt 9, 3, []) from by decide +kernel) rfl (fun c7 => ?_) (fun c7 => ?_)
        · replace vc := vc.1 c7
          refine e_bipush (c := (-2)) (show pAt 95 45 = some (45, .bipush (-2), 2, []) from by decide +kernel) (by decide) ?_
          exact e_retI (show pAt 95 47 = some (47, .ireturn, 1, []) from by decide +kernel) rfl vc
        · replace vc := vc.2 c7
          refine e_iload_n (show pAt 95 39 = some (39, .iload_n 3, 1, []) from by decide +kernel) rfl ?_
          refine e_bipush (c := 60) (show pAt 95 40 = some (40, .bipush 60, 2, []) from by decide +kernel) (by decide) ?_
          refine e_icmp (t := 48) (show pAt 95 42 = some (42, .if_icmp .le 6, 3, []) from by decide +kernel) rfl (fun c8 => ?_) (fun c8 => ?_)
          · replace vc := vc.1 c8
            refine e_iload_n (show pAt 95 48 = some (48, .iload_n 3, 1, []) from by decide +kernel) rfl ?_
            refine e_if (t := 55) (show pAt 95 49 = some (49, .ifCond .ge 6, 3, []) from by decide +kernel) rfl (fun c9 => ?_) (fun c9 => ?_)
            · replace vc := vc.1 c9
              refine e_aload_n (show pAt 95 55 = some (55, .aload_n 0, 1, []) from by decide +kernel) rfl (ra (by decide)) ?_
              refine e_gR (show pAt 95 56 = some (56, .getfield 56, 3, [6, 9, 0, 2031]) from by decide +kernel) (show HS h1 from hs_h1) rfl (by decide) (hs_ref (show HS h1 from hs_h1) rfl) ?_
              refine e_iload_n (show pAt 95 59 = some (59, .iload_n 1, 1, []) from by decide +kernel) rfl ?_
              refine e_iload_n (show pAt 95 60 = some (60, .iload_n 2, 1, []) from by decide +kernel) rfl ?_
              refine e_iload_n (show pAt 95 61 = some (61, .iload_n 3, 1, []) from by decide +kernel) rfl ?_
              refine Ends.call (show pAt 95 62 = some (62, .invokevirtual 236, 3, [38, 4, 0, 1, 4090, 4092, 52]) from by decide +kernel) (isRet_none rfl) rfl (call_this (show HS h1 from hs_h1) rfl rfl (by decide)) (Ends.mono vc ?_)
              rintro _ h10 ⟨rfl, hs_h10, vc⟩
              refine e_iconst (c := 1) (show pAt 95 65 = some (65, .iconst 1, 1, []) from by decide +kernel) (by decide) ?_
              exact e_retI (show pAt 95 66 = some (66, .ireturn, 1, []) from by decide +kernel) rfl vc
            · replace vc := vc.2 c9
              refine e_bipush (c := (-14)) (show pAt 95 52 = some (52, .bipush (-14), 2, []) from by decide +kernel) (by decide) ?_
              exact e_retI (show pAt 95 54 = some (54, .ireturn, 1, []) from by decide +kernel) rfl vc
          · replace vc := vc.2 c8
            refine e_bipush (c := (-2)) (show pAt 95 45 = some (45, .bipush (-2), 2, []) from by decide +kernel) (by decide) ?_
            exact e_retI (show pAt 95 47 = some (47, .ireturn, 1, []) from by decide +kernel) rfl vc
    · replace vc := vc.2 c5
      refine e_aload_n (show pAt 95 18 = some (18, .aload_n 0, 1, []) from by decide +kernel) rfl (ra (by decide)) ?_
      refine e_gR (show pAt 95 19 = some (19, .getfield 56, 3, [6, 9, 0, 2031]) from by decide +kernel) (show HS h1 from hs_h1) rfl (by decide) (hs_ref (show HS h1 from hs_h1) rfl) ?_
      refine e_iload_n (show pAt 95 22 = some (22, .iload_n 1, 1, []) from by decide +kernel) rfl ?_
      refine e_iload_n (show pAt 95 23 = some (23, .iload_n 2, 1, []) from by decide +kernel) rfl ?_
      refine e_iconst (c := 0) (show pAt 95 24 = some (24, .iconst 0, 1, []) from by decide +kernel) (by decide) ?_
      refine Ends.call (show pAt 95 25 = some (25, .invokevirtual 236, 3, [38, 4, 0, 1, 4090, 4092, 52]) from by decide +kernel) (isRet_none rfl) rfl (call_this (show HS h1 from hs_h1) rfl rfl (by decide)) (Ends.mono vc ?_)
      rintro _ h13 ⟨rfl, hs_h13, vc⟩
      refine e_iconst (c := 1) (show pAt 95 28 = some (28, .iconst 1, 1, []) from by decide +kernel) (by decide) ?_
      exact e_retI (show pAt 95 29 = some (29, .ireturn, 1, []) from by decide +kernel) rfl vc
  · replace vc := vc.2 c4
    refine e_iconst (c := (-1)) (show pAt 95 11 = some (11, .iconst (-1), 1, []) from by decide +kernel) (by decide) ?_
    exact e_retI (show pAt 95 12 = some (12, .ireturn, 1, []) from by decide +kernel) rfl vc

theorem w_mtap0 {X : Scr} {dp : Nat} {h : Hp} {Q : Option Value → Hp → Prop} (t : Int32) (s : Int32) (n : Int32) (hs : HS h)
    (vc : Ends X dp 198 0 [.ref 93, .int t] [] h (fun rv h1 => ∃ r2, rv = some (.int r2) ∧ HS h1 ∧ ((condB .ne r2 0 = true → Ends X dp 109 0 [.ref 93, .int s, .int (-1), .int 4] [] h1 (fun rv h5 => ∃ r6, rv = some (.int r6) ∧ HS h5 ∧ ((condB .eq r6 0 = true → Q (some (.int (-2))) h5) ∧ (condB .eq r6 0 = false → ((condB .lt s 0 = true → ((condB .lt s 0 = true → (inB t 6 = true ∧ ((condB .ge s 0 = true → (inB t 6 = true ∧ Ends X (dp + 1) 199 69 [.ref 93, .int t, .int s, .int n, .int 0] [] (hpI (hpI h5 123 t.toNatClampNeg s) 124 t.toNatClampNeg n) Q)) ∧ (condB .ge s 0 = false → (inB t 6 = true ∧ Ends X (dp + 1) 199 69 [.ref 93, .int t, .int s, .int n, .int 0] [] (hpI (hpI h5 123 t.toNatClampNeg s) 124 t.toNatClampNeg 0) Q))))) ∧ (condB .lt s 0 = false → ((condB .ge n 0 = true → (inB t 6 = true ∧ ((condB .ge s 0 = true → (inB t 6 = true ∧ Ends X (dp + 1) 199 69 [.ref 93, .int t, .int s, .int n, .int 0] [] (hpI (hpI h5 123 t.toNatClampNeg s) 124 t.toNatClampNeg n) Q)) ∧ (condB .ge s 0 = false → (inB t 6 = true ∧ Ends X (dp + 1) 199 69 [.ref 93, .int t, .int s, .int n, .int 0] [] (hpI (hpI h5 123 t.toNatClampNeg s) 124 t.toNatClampNeg 0) Q))))) ∧ (condB .ge n 0 = false → Q (some (.int (-14))) h5))))) ∧ (condB .lt s 0 = false → ((condB .le n 60 = true → ((condB .lt s 0 = true → (inB t 6 = true ∧ ((condB .ge s 0 = true → (inB t 6 = true ∧ Ends X (dp + 1) 199 69 [.ref 93, .int t, .int s, .int n, .int 0] [] (hpI (hpI h5 123 t.toNatClampNeg s) 124 t.toNatClampNeg n) Q)) ∧ (condB .ge s 0 = false → (inB t 6 = true ∧ Ends X (dp + 1) 199 69 [.ref 93, .int t, .int s, .int n, .int 0] [] (hpI (hpI h5 123 t.toNatClampNeg s) 124 t.toNatClampNeg 0) Q))))) ∧ (condB .lt s 0 = false → ((condB .ge n 0 = true → (inB t 6 = true ∧ ((condB .ge s 0 = true → (inB t 6 = true ∧ Ends X (dp + 1) 199 69 [.ref 93, .int t, .int s, .int n, .int 0] [] (hpI (hpI h5 123 t.toNatClampNeg s) 124 t.toNatClampNeg n) Q)) ∧ (condB .ge s 0 = false → (inB t 6 = true ∧ Ends X (dp + 1) 199 69 [.ref 93, .int t, .int s, .int n, .int 0] [] (hpI (hpI h5 123 t.toNatClampNeg s) 124 t.toNatClampNeg 0) Q))))) ∧ (condB .ge n 0 = false → Q (some (.int (-14))) h5))))) ∧ (condB .le n 60 = false → Q (some (.int (-2))) h5)))))))) ∧ (condB .ne r2 0 = false → Q (some (.int (-1))) h1)))) :
    Ends X (dp + 1) 199 0 [.ref 93, .int t, .int s, .int n, .retAddr 0] [] h Q := by
  have ra : ∀ {a : Nat}, a < 1000 → a ≤ OLDB := fun h => by have := OLDB_eq; omega
  refine e_aload_n (show pAt 199 0 = some (0, .aload_n 0, 1, []) from by decide +kernel) rfl (ra (by decide)) ?_
  refine e_iload_n (show pAt 199 1 = some (1, .iload_n 1, 1, []) from by decide +kernel) rfl ?_
  refine Ends.call (show pAt 199 2 = some (2, .invokevirtual 366, 3, [198, 2, 0, 0, 6138, 6140, 103]) from by decide +kernel) (isRet_none rfl) rfl (call_this (show HS h from hs) rfl rfl (by decide)) (Ends.mono vc ?_)
  rintro _ h1 ⟨r2, rfl, hs_h1, vc⟩
  refine e_if (t := 10) (show pAt 199 5 = some (5, .ifCond .ne 5, 3, []) from by decide +kernel) rfl (fun c4 => ?_) (fun c4 => ?_)
  · replace vc := vc.1 c4
    refine e_aload_n (show pAt 199 10 = some (10, .aload_n 0, 1, []) from by decide +kernel) rfl (ra (by decide)) ?_
    refine e_iload_n (show pAt 199 11 = some (11, .iload_n 2, 1, []) from by decide +kernel) rfl ?_
    refine e_iconst (c := (-1)) (show pAt 199 12 = some (12, .iconst (-1), 1, []) from by decide +kernel) (by decide) ?_
    refine e_iconst (c := 4) (show pAt 199 13 = some (13, .iconst 4, 1, []) from by decide +kernel) (by decide) ?_
    refine Ends.call (show pAt 199 14 = some (14, .invokevirtual 206, 3, [109, 4, 0, 0, 5081, 5083, 54]) from by decide +kernel) (isRet_none rfl) rfl (call_this (show HS h1 from hs_h1) rfl rfl (by decide)) (Ends.mono vc ?_)
    rintro _ h5 ⟨r6, rfl, hs_h5, vc⟩
    refine e_if (t := 30) (show pAt 199 17 = some (17, .ifCond .eq 13, 3, []) from by decide +kernel) rfl (fun c8 => ?_) (fun c8 => ?_)
    · replace vc := vc.1 c8
      refine e_bipush (c := (-2)) (show pAt 199 30 = some (30, .bipush (-2), 2, []) from by decide +kernel) (by decide) ?_
      exact e_retI (show pAt 199 32 = some (32, .ireturn, 1, []) from by decide +kernel) rfl vc
    · replace vc := vc.2 c8
      refine e_iload_n (show pAt 199 20 = some (20, .iload_n 2, 1, []) from by decide +kernel) rfl ?_
      refine e_if (t := 33) (show pAt 199 21 = some (21, .ifCond .lt 12, 3, []) from by decide +kernel) rfl (fun c9 => ?_) (fun c9 => ?_)
      · replace vc := vc.1 c9
        refine e_iload_n (show pAt 199 33 = some (33, .iload_n 2, 1, []) from by decide +kernel) rfl ?_
        refine e_if (t := 44) (show pAt 199 34 = some (34, .ifCond .lt 10, 3, []) from by decide +kernel) rfl (fun c10 => ?_) (fun c10 => ?_)
        · replace vc := vc.1 c10
          refine e_aload_n (show pAt 199 44 = some (44, .aload_n 0, 1, []) from by decide +kernel) rfl (ra (by decide)) ?_
          refine e_gR (show pAt 199 45 = some (45, .getfield 193, 3, [7, 60, 0, 4183]) from by decide +kernel) (show HS h5 from hs_h5) rfl (by decide) (hs_ref (show HS h5 from hs_h5) rfl) ?_
          refine e_iload_n (show pAt 199 48 = some (48, .iload_n 1, 1, []) from by decide +kernel) rfl ?_
          refine e_iload_n (show pAt 199 49 = some (49, .iload_n 2, 1, []) from by decide +kernel) rfl ?_
          obtain ⟨c11, vc⟩ := vc
          refine e_ast (show pAt 199 50 = some (50, .iastore, 1, []) from by decide +kernel) (show HS h5 from hs_h5) (by decide) c11 ?_
          refine e_aload_n (show pAt 199 51 = some (51, .aload_n 0, 1, []) from by decide +kernel) rfl (ra (by decide)) ?_
          refine e_gR (show pAt 199 52 = some (52, .getfield 196, 3, [7, 61, 0, 4184]) from by decide +kernel) (show HS (hpI h5 123 t.toNatClampNeg s) from hs_h5) rfl (by decide) (hs_ref (show HS (hpI h5 123 t.toNatClampNeg s) from hs_h5) rfl) ?_
          refine e_iload_n (show pAt 199 55 = some (55, .iload_n 1, 1, []) from by decide +kernel) rfl ?_
          refine e_iload_n (show pAt 199 56 = some (56, .iload_n 2, 1, []) from by decide +kernel) rfl ?_
          refine e_if (t := 64) (show pAt 199 57 = some (57, .ifCond .ge 7, 3, []) from by decide +kernel) rfl (fun c12 => ?_) (fun c12 => ?_)
          · replace vc := vc.1 c12
            refine e_iload_n (show pAt 199 64 = some (64, .iload_n 3, 1, []) from by decide +kernel) rfl ?_
            obtain ⟨c13, vc⟩ := vc
            refine e_ast (show pAt 199 65 = some (65, .iastore, 1, []) from by decide +kernel) (show HS (hpI h5 123 t.toNatClampNeg s) from hs_h5) (by decide) c13 ?_
            refine e_iconst (c := 0) (show pAt 199 66 = some (66, .iconst 0, 1, []) from by decide +kernel) (by decide) ?_
            refine e_istore (show pAt 199 67 = some (67, .istore 4, 2, []) from by decide +kernel) ⟨Nat.le_of_ble_eq_true rfl, rfl⟩ rfl ?_
            exact vc
          · replace vc := vc.2 c12
            refine e_iconst (c := 0) (show pAt 199 60 = some (60, .iconst 0, 1, []) from by decide +kernel) (by decide) ?_
            refine e_goto (t := 65) (show pAt 199 61 = some (61, .goto 4, 3, []) from by decide +kernel) rfl ?_
            obtain ⟨c14, vc⟩ := vc
            refine e_ast (show pAt 199 65 = some (65, .iastore, 1, []) from by decide +kernel) (show HS (hpI h5 123 t.toNatClampNeg s) from hs_h5) (by decide) c14 ?_
            refine e_iconst (c := 0) (show pAt 199 66 = some (66, .iconst 0, 1, []) from by decide +kernel) (by decide) ?_
            refine e_istore (show pAt 199 67 = some (67, .istore 4, 2, []) from by decide +kernel) ⟨Nat.le_of_ble_eq_true rfl, rfl⟩ rfl ?_
            exact vc
        · replace vc := vc.2 c10
          refine e_iload_n (show pAt 199 37 = some (37, .iload_n 3, 1, []) from by decide +kernel) rfl ?_
          refine e_if (t := 44) (show pAt 199 38 = some (38, .ifCond .ge 6, 3, []) from by decide +kernel) rfl (fun c15 => ?_) (fun c15 => ?_)
          · replace vc := vc.1 c15
            refine e_aload_n (show pAt 199 44 = some (44, .aload_n 0, 1, []) from by decide +kernel) rfl (ra (by decide)) ?_
            refine e_gR (show pAt 199 45 = some (45, .getfield 193, 3, [7, 60, 0, 4183]) from by decide +kernel) (show HS h5 from hs_h5) rfl (by decide) (hs_ref (show HS h5 from hs_h5) rfl) ?_
            refine e_iload_n (show pAt 199 48 = some (48, .iload_n 1, 1, []) from by decide +kernel) rfl ?_
            refine e_iload_n (show pAt 199 49 = some (49, .iload_n 2, 1, []) from by decide +kernel) rfl ?_
            obtain ⟨c16, vc⟩ := vc
            refine e_ast (show pAt 199 50 = some (50, .iastore, 1, []) from by decide +kernel) (show HS h5 from hs_h5) (by decide) c16 ?_
            refine e_aload_n (show pAt 199 51 = some (51, .aload_n 0, 1, []) from by decide +kernel) rfl (ra (by decide)) ?_
            refine e_gR (show pAt 199 52 = some (52, .getfield 196, 3, [7, 61, 0, 4184]) from by decide +kernel) (show HS (hpI h5 123 t.toNatClampNeg s) from hs_h5) rfl (by decide) (hs_ref (show HS (hpI h5 123 t.toNatClampNeg s) from hs_h5) rfl) ?_
            refine e_iload_n (show pAt 199 55 = some (55, .iload_n 1, 1, []) from by decide +kernel) rfl ?_
            refine e_iload_n (show pAt 199 56 = some (56, .iload_n 2, 1, []) from by decide +kernel) rfl ?_
            refine e_if (t := 64) (show pAt 199 57 = some (57, .ifCond .ge 7, 3, []) from by decide +kernel) rfl (fun c17 => ?_) (fun c17 => ?_)
            · replace vc := vc.1 c17
              refine e_iload_n (show pAt 199 64 = some (64, .iload_n 3, 1, []) from by decide +kernel) rfl ?_
              obtain ⟨c18, vc⟩ := vc
              refine e_ast (show pAt 199 65 = some (65, .iastore, 1, []) from by decide +kernel) (show HS (hpI h5 123 t.toNatClampNeg s) from hs_h5) (by decide) c18 ?_
              refine e_iconst (c := 0) (show pAt 199 66 = some (66, .iconst 0, 1, []) from by decide +kernel) (by decide) ?_
              refine e_istore (show pAt 199 67 = some (67, .istore 4, 2, []) from by decide +kernel) ⟨Nat.le_of_ble_eq_true rfl, rfl⟩ rfl ?_
              exact vc
            · replace vc := vc.2 c17
              refine e_iconst (c := 0) (show pAt 199 60 = some (60, .iconst 0, 1, []) from by decide +kernel) (by decide) ?_
              refine e_goto (t := 65) (show pAt 199 61 = some (61, .goto 4, 3, []) from by decide +kernel) rfl ?_
              obtain ⟨c19, vc⟩ := vc
              refine e_ast (show pAt 199 65 = some (65, .iastore, 1, []) from by decide +kernel) (show HS (hpI h5 123 t.toNatClampNeg s) from hs_h5) (by decide) c19 ?_
              refine e_iconst (c := 0) (show pAt 199 66 = some (66, .iconst 0, 1, []) from by decide +kernel) (by decide) ?_
              refine e_istore (show pAt 199 67 = some (67, .istore 4, 2, []) from by decide +kernel) ⟨Nat.le_of_ble_eq_true rfl, rfl⟩ rfl ?_
              exact vc
          · replace vc := vc.2 c15
            refine e_bipush (c := (-14)) (show pAt 199 41 = some (41, .bipush (-14), 2, []) from by decide +kernel) (by decide) ?_
            exact e_retI (show pAt 199 43 = some (43, .ireturn, 1, []) from by decide +kernel) rfl vc
      · replace vc := vc.2 c9
        refine e_iload_n (show pAt 199 24 = some (24, .iload_n 3, 1, []) from by decide +kernel) rfl ?_
        refine e_bipush (c := 60) (show pAt 199 25 = some (25, .bipush 60, 2, []) from by decide +kernel) (by decide) ?_
        refine e_icmp (t := 33) (show pAt 199 27 = some (27, .if_icmp .le 6, 3, []) from by decide +kernel) rfl (fun c20 => ?_) (fun c20 => ?_)
        · replace vc := vc.1 c20
          refine e_iload_n (show pAt 199 33 = some (33, .iload_n 2, 1, []) from by decide +kernel) rfl ?_
          refine e_if (t := 44) (show pAt 199 34 = some (34, .ifCond .lt 10, 3, []) from by decide +kernel) rfl (fun c21 => ?_) (fun c21 => ?_)
          · replace vc := vc.1 c21
            refine e_aload_n (show pAt 199 44 = some (44, .aload_n 0, 1, []) from by decide +kernel) rfl (ra (by decide)) ?_
            refine e_gR (show pAt 199 45 = some (45, .getfield 193, 3, [7, 60, 0, 4183]) from by decide +kernel) (show HS h5 from hs_h5) rfl (by decide) (hs_ref (show HS h5 from hs_h5) rfl) ?_
            refine e_iload_n (show pAt 199 48 = some (48, .iload_n 1, 1, []) from by decide +kernel) rfl ?_
            refine e_iload_n (show pAt 199 49 = some (49, .iload_n 2, 1, []) from by decide +kernel) rfl ?_
            obtain ⟨c22, vc⟩ := vc
            refine e_ast (show pAt 199 50 = some (50, .iastore, 1, []) from by decide +kernel) (show HS h5 from hs_h5) (by decide) c22 ?_
            refine e_aload_n (show pAt 199 51 = some (51, .aload_n 0, 1, []) from by decide +kernel) rfl (ra (by decide)) ?_
            refine e_gR (show pAt 199 52 = some (52, .getfield 196, 3, [7, 61, 0, 4184]) from by decide +kernel) (show HS (hpI h5 123 t.toNatClampNeg s) from hs_h5) rfl (by decide) (hs_ref (show HS (hpI h5 123 t.toNatClampNeg s) from hs_h5) rfl) ?_
            refine e_iload_n (show pAt 199 55 = some (55, .iload_n 1, 1, []) from by decide +kernel) rfl ?_
            refine e_iload_n (show pAt 199 56 = some (56, .iload_n 2, 1, []) from by decide +kernel) rfl ?_
            refine e_if (t := 64) (show pAt 199 57 = some (57, .ifCond .ge 7, 3, []) from by decide +kernel) rfl (fun c23 => ?_) (fun c23 => ?_)
            · replace vc := vc.1 c23
              refine e_iload_n (show pAt 199 64 = some (64, .iload_n 3, 1, []) from by decide +kernel) rfl ?_
              obtain ⟨c24, vc⟩ := vc
              refine e_ast (show pAt 199 65 = some (65, .iastore, 1, []) from by decide +kernel) (show HS (hpI h5 123 t.toNatClampNeg s) from hs_h5) (by decide) c24 ?_
              refine e_iconst (c := 0) (show pAt 199 66 = some (66, .iconst 0, 1, []) from by decide +kernel) (by decide) ?_
              refine e_istore (show pAt 199 67 = some (67, .istore 4, 2, []) from by decide +kernel) ⟨Nat.le_of_ble_eq_true rfl, rfl⟩ rfl ?_
              exact vc
            · replace vc := vc.2 c23
              refine e_iconst (c := 0) (show pAt 199 60 = some (60, .iconst 0, 1, []) from by decide +kernel) (by decide) ?_
              refine e_goto (t := 65) (show pAt 199 61 = some (61, .goto 4, 3, []) from by decide +kernel) rfl ?_
              obtain ⟨c25, vc⟩ := vc
              refine e_ast (show pAt 199 65 = some (65, .iastore, 1, []) from by decide +kernel) (show HS (hpI h5 123 t.toNatClampNeg s) from hs_h5) (by decide) c25 ?_
              refine e_iconst (c := 0) (show pAt 199 66 = some (66, .iconst 0, 1, []) from by decide +kernel) (by decide) ?_
              refine e_istore (show pAt 199 67 = some (67, .istore 4, 2, []) from by decide +kernel) ⟨Nat.le_of_ble_eq_true rfl, rfl⟩ rfl ?_
              exact vc
          · replace vc := vc.2 c21
            refine e_iload_n (show pAt 199 37 = some (37, .iload_n 3, 1, []) from by decide +kernel) rfl ?_
            refine e_if (t := 44) (show pAt 199 38 = some (38, .ifCond .ge 6, 3, []) from by decide +kernel) rfl (fun c26 => ?_) (fun c26 => ?_)
            · replace vc := vc.1 c26
              refine e_aload_n (show pAt 199 44 = some (44, .aload_n 0, 1, []) from by decide +kernel) rfl (ra (by decide)) ?_
              refine e_gR (show pAt 199 45 = some (45, .getfield 193, 3, [7, 60, 0, 4183]) from by decide +kernel) (show HS h5 from hs_h5) rfl (by decide) (hs_ref (show HS h5 from hs_h5) rfl) ?_
              refine e_iload_n (show pAt 199 48 = some (48, .iload_n 1, 1, []) from by decide +kernel) rfl ?_
              refine e_iload_n (show pAt 199 49 = some (49, .iload_n 2, 1, []) from by decide +kernel) rfl ?_
              obtain ⟨c27, vc⟩ := vc
              refine e_ast (show pAt 199 50 = some (50, .iastore, 1, []) from by decide +kernel) (show HS h5 from hs_h5) (by decide) c27 ?_
              refine e_aload_n (show pAt 199 51 = some (51, .aload_n 0, 1, []) from by decide +kernel) rfl (ra (by decide)) ?_
              refine e_gR (show pAt 199 52 = some (52, .getfield 196, 3, [7, 61, 0, 4184]) from by decide +kernel) (show HS (hpI h5 123 t.toNatClampNeg s) from hs_h5) rfl (by decide) (hs_ref (show HS (hpI h5 123 t.toNatClampNeg s) from hs_h5) rfl) ?_
              refine e_iload_n (show pAt 199 55 = some (55, .iload_n 1, 1, []) from by decide +kernel) rfl ?_
              refine e_iload_n (show pAt 199 56 = some (56, .iload_n 2, 1, []) from by decide +kernel) rfl ?_
              refine e_if (t := 64) (show pAt 199 57 = some (57, .ifCond .ge 7, 3, []) from by decide +kernel) rfl (fun c28 => ?_) (fun c28 => ?_)
              · replace vc := vc.1 c28
                refine e_iload_n (show pAt 199 64 = some (64, .iload_n 3, 1, []) from by decide +kernel) rfl ?_
                obtain ⟨c29, vc⟩ := vc
                refine e_ast (show pAt 199 65 = some (65, .iastore, 1, []) from by decide +kernel) (show HS (hpI h5 123 t.toNatClampNeg s) from hs_h5) (by decide) c29 ?_
                refine e_iconst (c := 0) (show pAt 199 66 = some (66, .iconst 0, 1, []) from by decide +kernel) (by decide) ?_
                refine e_istore (show pAt 199 67 = some (67, .istore 4, 2, []) from by decide +kernel) ⟨Nat.le_of_ble_eq_true rfl, rfl⟩ rfl ?_
                exact vc
              · replace vc := vc.2 c28
                refine e_iconst (c := 0) (show pAt 199 60 = some (60, .iconst 0, 1, []) from by decide +kernel) (by decide) ?_
                refine e_goto (t := 65) (show pAt 199 61 = some (61, .goto 4, 3, []) from by decide +kernel) rfl ?_
                obtain ⟨c30, vc⟩ := vc
                refine e_ast (show pAt 199 65 = some (65, .iastore, 1, []) from by decide +kernel) (show HS (hpI h5 123 t.toNatClampNeg s) from hs_h5) (by decide) c30 ?_
                refine e_iconst (c := 0) (show pAt 199 66 = some (66, .iconst 0, 1, []) from by decide +kernel) (by decide) ?_
                refine e_istore (show pAt 199 67 = some (67, .istore 4, 2, []) from by decide +kernel) ⟨Nat.le_of_ble_eq_true rfl, rfl⟩ rfl ?_
                exact vc
            · replace vc := vc.2 c26
              refine e_bipush (c := (-14)) (show pAt 199 41 = some (41, .bipush (-14), 2, []) from by decide +kernel) (by decide) ?_
              exact e_retI (show pAt 199 43 = some (43, .ireturn, 1, []) from by decide +kernel) rfl vc
        · replace vc := vc.2 c20
          refine e_bipush (c := (-2)) (show pAt 199 30 = some (30, .bipush (-2), 2, []) from by decide +kernel) (by decide) ?_
          exact e_retI (show pAt 199 32 = some (32, .ireturn, 1, []) from by decide +kernel) rfl vc
  · replace vc := vc.2 c4
    refine e_iconst (c := (-1)) (show pAt 199 8 = some (8, .iconst (-1), 1, []) from by decide +kernel) (by decide) ?_
    exact e_retI (show pAt 199 9 = some (9, .ireturn, 1, []) from by decide +kernel) rfl vc

theorem w_mtap1 {X : Scr} {dp : Nat} {h : Hp} {Q : Option Value → Hp → Prop} (t : Int32) (s : Int32) (n : Int32) (k : Int32) (hs : HS h)
    (vc : ((condB .ge k 60 = true → Q (some (.int 1)) h) ∧ (condB .ge k 60 = false → (inB ((60 * t) + k) 360 = true ∧ Ends X dp 199 69 [.ref 93, .int t, .int s, .int n, .int (k + 1)] [] (hpL h 125 ((60 * t) + k).toNatClampNeg 0) Q)))) :
    Ends X dp 199 69 [.ref 93, .int t, .int s, .int n, .int k] [] h Q := by
  have ra : ∀ {a : Nat}, a < 1000 → a ≤ OLDB := fun h => by have := OLDB_eq; omega
  refine e_iload (show pAt 199 69 = some (69, .iload 4, 2, []) from by decide +kernel) rfl ?_
  refine e_bipush (c := 60) (show pAt 199 71 = some (71, .bipush 60, 2, []) from by decide +kernel) (by decide) ?_
  refine e_icmp (t := 95) (show pAt 199 73 = some (73, .if_icmp .ge 22, 3, []) from by decide +kernel) rfl (fun c1 => ?_) (fun c1 => ?_)
  · replace vc := vc.1 c1
    refine e_iconst (c := 1) (show pAt 199 95 = some (95, .iconst 1, 1, []) from by decide +kernel) (by decide) ?_
    exact e_retI (show pAt 199 96 = some (96, .ireturn, 1, []) from by decide +kernel) rfl vc
  · replace vc := vc.2 c1
    refine e_aload_n (show pAt 199 76 = some (76, .aload_n 0, 1, []) from by decide +kernel) rfl (ra (by decide)) ?_
    refine e_gR (show pAt 199 77 = some (77, .getfield 199, 3, [7, 62, 0, 4185]) from by decide +kernel) (show HS h from hs) rfl (by decide) (hs_ref (show HS h from hs) rfl) ?_
    refine e_bipush (c := 60) (show pAt 199 80 = some (80, .bipush 60, 2, []) from by decide +kernel) (by decide) ?_
    refine e_iload_n (show pAt 199 82 = some (82, .iload_n 1, 1, []) from by decide +kernel) rfl ?_
    refine e_imul (show pAt 199 83 = some (83, .imul, 1, []) from by decide +kernel) ?_
    refine e_iload (show pAt 199 84 = some (84, .iload 4, 2, []) from by decide +kernel) rfl ?_
    refine e_iadd (show pAt 199 86 = some (86, .iadd, 1, []) from by decide +kernel) ?_
    refine e_lconst (c := 0) (show pAt 199 87 = some (87, .lconst 0, 1, []) from by decide +kernel) (by decide) ?_
    obtain ⟨c2, vc⟩ := vc
    refine e_last (show pAt 199 88 = some (88, .lastore, 1, []) from by decide +kernel) (show HS h from hs) (by decide) c2 ?_
    refine e_iinc (c := 1) (show pAt 199 89 = some (89, .iinc 4 1, 3, []) from by decide +kernel) rfl rfl (by decide) rfl ?_
    refine e_goto (t := 69) (show pAt 199 92 = some (92, .goto (-23), 3, []) from by decide +kernel) rfl ?_
    exact vc

theorem w_chpl {X : Scr} {dp : Nat} {h : Hp} {Q : Option Value → Hp → Prop} (t : Int32) (p : Int64) (hs : HS h)
    (vc : Ends X dp 35 0 [.ref 53, .int t] [] h (fun rv h1 => ∃ r2, rv = some (.int r2) ∧ HS h1 ∧ ((condB .eq r2 0 = true → Q (some (.int 0)) h1) ∧ (condB .eq r2 0 = false → ((condB .lt (lg_cmp p 0) 0 = true → Q (some (.int 0)) h1) ∧ (condB .lt (lg_cmp p 0) 0 = false → (inB t 6 = true ∧ ((condB .ge (lg_cmp p ((h1.2.1 55 t.toNatClampNeg).toInt64)) 0 = true → Q (some (.int 0)) h1) ∧ (condB .ge (lg_cmp p ((h1.2.1 55 t.toNatClampNeg).toInt64)) 0 = false → ((condB .ge (lg_cmp p 60) 0 = true → Q (some (.int 0)) h1) ∧ (condB .ge (lg_cmp p 60) 0 = false → Q (some (.int 1)) h1))))))))))) :
    Ends X (dp + 1) 36 0 [.ref 53, .int t, .long p, .retAddr 0] [] h Q := by
  have ra : ∀ {a : Nat}, a < 1000 → a ≤ OLDB := fun h => by have := OLDB_eq; omega
  refine e_aload_n (show pAt 36 0 = some (0, .aload_n 0, 1, []) from by decide +kernel) rfl (ra (by decide)) ?_
  refine e_iload_n (show pAt 36 1 = some (1, .iload_n 1, 1, []) from by decide +kernel) rfl ?_
  refine Ends.call (show pAt 36 2 = some (2, .invokevirtual 27, 3, [35, 2, 0, 0, 4042, 4036, 48]) from by decide +kernel) (isRet_none rfl) rfl (call_this (show HS h from hs) rfl rfl (by decide)) (Ends.mono vc ?_)
  rintro _ h1 ⟨r2, rfl, hs_h1, vc⟩
  refine e_if (t := 38) (show pAt 36 5 = some (5, .ifCond .eq 33, 3, []) from by decide +kernel) rfl (fun c4 => ?_) (fun c4 => ?_)
  · replace vc := vc.1 c4
    refine e_iconst (c := 0) (show pAt 36 38 = some (38, .iconst 0, 1, []) from by decide +kernel) (by decide) ?_
    exact e_retZ (show pAt 36 39 = some (39, .ireturn, 1, []) from by decide +kernel) rfl (by decide) vc
  · replace vc := vc.2 c4
    refine e_lload_n (show pAt 36 8 = some (8, .lload_n 2, 1, []) from by decide +kernel) rfl ?_
    refine e_lconst (c := 0) (show pAt 36 9 = some (9, .lconst 0, 1, []) from by decide +kernel) (by decide) ?_
    refine e_lcmp (show pAt 36 10 = some (10, .lcmp, 1, []) from by decide +kernel) ?_
    refine e_if (t := 38) (show pAt 36 11 = some (11, .ifCond .lt 27, 3, []) from by decide +kernel) rfl (fun c5 => ?_) (fun c5 => ?_)
    · replace vc := vc.1 c5
      refine e_iconst (c := 0) (show pAt 36 38 = some (38, .iconst 0, 1, []) from by decide +kernel) (by decide) ?_
      exact e_retZ (show pAt 36 39 = some (39, .ireturn, 1, []) from by decide +kernel) rfl (by decide) vc
    · replace vc := vc.2 c5
      refine e_lload_n (show pAt 36 14 = some (14, .lload_n 2, 1, []) from by decide +kernel) rfl ?_
      refine e_aload_n (show pAt 36 15 = some (15, .aload_n 0, 1, []) from by decide +kernel) rfl (ra (by decide)) ?_
      refine e_gR (show pAt 36 16 = some (16, .getfield 13, 3, [3, 1, 0, 2011]) from by decide +kernel) (show HS h1 from hs_h1) rfl (by decide) (hs_ref (show HS h1 from hs_h1) rfl) ?_
      refine e_iload_n (show pAt 36 19 = some (19, .iload_n 1, 1, []) from by decide +kernel) rfl ?_
      obtain ⟨c6, vc⟩ := vc
      refine e_aldv (v := h1.2.1 55 t.toNatClampNeg) (show pAt 36 20 = some (20, .iaload, 1, []) from by decide +kernel) (show HS h1 from hs_h1) (by decide) c6 rfl ?_
      refine e_i2l (show pAt 36 21 = some (21, .i2l, 1, []) from by decide +kernel) ?_
      refine e_lcmp (show pAt 36 22 = some (22, .lcmp, 1, []) from by decide +kernel) ?_
      refine e_if (t := 38) (show pAt 36 23 = some (23, .ifCond .ge 15, 3, []) from by decide +kernel) rfl (fun c7 => ?_) (fun c7 => ?_)
      · replace vc := vc.1 c7
        refine e_iconst (c := 0) (show pAt 36 38 = some (38, .iconst 0, 1, []) from by decide +kernel) (by decide) ?_
        exact e_retZ (show pAt 36 39 = some (39, .ireturn, 1, []) from by decide +kernel) rfl (by decide) vc
      · replace vc := vc.2 c7
        refine e_lload_n (show pAt 36 26 = some (26, .lload_n 2, 1, []) from by decide +kernel) rfl ?_
        refine e_ldc2 (c := 60) (show pAt 36 27 = some (27, .ldc2_w 31, 3, [60, 4043]) from by decide +kernel) (by decide) ?_
        refine e_lcmp (show pAt 36 30 = some (30, .lcmp, 1, []) from by decide +kernel) ?_
        refine e_if (t := 38) (show pAt 36 31 = some (31, .ifCond .ge 7, 3, []) from by decide +kernel) rfl (fun c8 => ?_) (fun c8 => ?_)
        · replace vc := vc.1 c8
          refine e_iconst (c := 0) (show pAt 36 38 = some (38, .iconst 0, 1, []) from by decide +kernel) (by decide) ?_
          exact e_retZ (show pAt 36 39 = some (39, .ireturn, 1, []) from by decide +kernel) rfl (by decide) vc
        · replace vc := vc.2 c8
          refine e_iconst (c := 1) (show pAt 36 34 = some (34, .iconst 1, 1, []) from by decide +kernel) (by decide) ?_
          refine e_goto (t := 39) (show pAt 36 35 = some (35, .goto 4, 3, []) from by decide +kernel) rfl ?_
          exact e_retZ (show pAt 36 39 = some (39, .ireturn, 1, []) from by decide +kernel) rfl (by decide) vc

theorem w_cass {X : Scr} {dp : Nat} {h : Hp} {Q : Option Value → Hp → Prop} (s : Int32) (v : Int64) (hs : HS h)
    (vc : (((s.toInt < 0 ∨ 4 < s.toInt) → Q (some (.long v)) h) ∧ (s.toInt = 0 → Q (some (.long (((v.toInt32).toInt8.toInt32).toInt64))) h) ∧ (s.toInt = 1 → Q (some (.long (((v.toInt32).toInt16.toInt32).toInt64))) h) ∧ (s.toInt = 2 → Q (some (.long ((v.toInt32).toInt64))) h) ∧ (s.toInt = 3 → Q (some (.long v)) h) ∧ (s.toInt = 4 → ((condB .eq (lg_cmp v 0) 0 = true → Q (some (.long 0)) h) ∧ (condB .eq (lg_cmp v 0) 0 = false → Q (some (.long 1)) h))))) :
    Ends X dp 39 0 [.int s, .long v, .retAddr 0] [] h Q := by
  refine e_iload_n (show pAt 39 0 = some (0, .iload_n 0, 1, []) from by decide +kernel) rfl ?_
  rcases (show (s.toInt < 0 ∨ 4 < s.toInt) ∨ s.toInt = 0 ∨ s.toInt = 1 ∨ s.toInt = 2 ∨ s.toInt = 3 ∨ s.toInt = 4 from by omega) with c1 | c1 | c1 | c1 | c1 | c1
  · refine e_tsd (t := 62) (show pAt 39 1 = some (1, .tableswitch 61 0 4 #[35, 40, 45, 61, 49], 35, []) from by decide +kernel) c1 rfl ?_
    replace vc := vc.1 c1
    refine e_lload_n (show pAt 39 62 = some (62, .lload_n 1, 1, []) from by decide +kernel) rfl ?_
    exact e_retL (show pAt 39 63 = some (63, .lreturn, 1, []) from by decide +kernel) rfl vc
  · refine e_tsc (t := 36) 0 (show pAt 39 1 = some (1, .tableswitch 61 0 4 #[35, 40, 45, 61, 49], 35, []) from by decide +kernel) (by omega) (by omega) rfl rfl ?_
    replace vc := vc.2.1 c1
    refine e_lload_n (show pAt 39 36 = some (36, .lload_n 1, 1, []) from by decide +kernel) rfl ?_
    refine e_l2i (show pAt 39 37 = some (37, .l2i, 1, []) from by decide +kernel) ?_
    refine e_i2b (show pAt 39 38 = some (38, .i2b, 1, []) from by decide +kernel) ?_
    refine e_i2l (show pAt 39 39 = some (39, .i2l, 1, []) from by decide +kernel) ?_
    exact e_retL (show pAt 39 40 = some (40, .lreturn, 1, []) from by decide +kernel) rfl vc
  · refine e_tsc (t := 41) 1 (show pAt 39 1 = some (1, .tableswitch 61 0 4 #[35, 40, 45, 61, 49], 35, []) from by decide +kernel) (by omega) (by omega) rfl rfl ?_
    replace vc := vc.2.2.1 c1
    refine e_lload_n (show pAt 39 41 = some (41, .lload_n 1, 1, []) from by decide +kernel) rfl ?_
    refine e_l2i (show pAt 39 42 = some (42, .l2i, 1, []) from by decide +kernel) ?_
    refine e_i2s (show pAt 39 43 = some (43, .i2s, 1, []) from by decide +kernel) ?_
    refine e_i2l (show pAt 39 44 = some (44, .i2l, 1, []) from by decide +kernel) ?_
    exact e_retL (show pAt 39 45 = some (45, .lreturn, 1, []) from by decide +kernel) rfl vc
  · refine e_tsc (t := 46) 2 (show pAt 39 1 = some (1, .tableswitch 61 0 4 #[35, 40, 45, 61, 49], 35, []) from by decide +kernel) (by omega) (by omega) rfl rfl ?_
    replace vc := vc.2.2.2.1 c1
    refine e_lload_n (show pAt 39 46 = some (46, .lload_n 1, 1, []) from by decide +kernel) rfl ?_
    refine e_l2i (show pAt 39 47 = some (47, .l2i, 1, []) from by decide +kernel) ?_
    refine e_i2l (show pAt 39 48 = some (48, .i2l, 1, []) from by decide +kernel) ?_
    exact e_retL (show pAt 39 49 = some (49, .lreturn, 1, []) from by decide +kernel) rfl vc
  · refine e_tsc (t := 62) 3 (show pAt 39 1 = some (1, .tableswitch 61 0 4 #[35, 40, 45, 61, 49], 35, []) from by decide +kernel) (by omega) (by omega) rfl rfl ?_
    replace vc := vc.2.2.2.2.1 c1
    refine e_lload_n (show pAt 39 62 = some (62, .lload_n 1, 1, []) from by decide +kernel) rfl ?_
    exact e_retL (show pAt 39 63 = some (63, .lreturn, 1, []) from by decide +kernel) rfl vc
  · refine e_tsc (t := 50) 4 (show pAt 39 1 = some (1, .tableswitch 61 0 4 #[35, 40, 45, 61, 49], 35, []) from by decide +kernel) (by omega) (by omega) rfl rfl ?_
    replace vc := vc.2.2.2.2.2 c1
    refine e_lload_n (show pAt 39 50 = some (50, .lload_n 1, 1, []) from by decide +kernel) rfl ?_
    refine e_lconst (c := 0) (show pAt 39 51 = some (51, .lconst 0, 1, []) from by decide +kernel) (by decide) ?_
    refine e_lcmp (show pAt 39 52 = some (52, .lcmp, 1, []) from by decide +kernel) ?_
    refine e_if (t := 60) (show pAt 39 53 = some (53, .ifCond .eq 7, 3, []) from by decide +kernel) rfl (fun c3 => ?_) (fun c3 => ?_)
    · replace vc := vc.1 c3
      refine e_lconst (c := 0) (show pAt 39 60 = some (60, .lconst 0, 1, []) from by decide +kernel) (by decide) ?_
      exact e_retL (show pAt 39 61 = some (61, .lreturn, 1, []) from by decide +kernel) rfl vc
    · replace vc := vc.2 c3
      refine e_lconst (c := 1) (show pAt 39 56 = some (56, .lconst 1, 1, []) from by decide +kernel) (by decide) ?_
      refine e_goto (t := 61) (show pAt 39 57 = some (57, .goto 4, 3, []) from by decide +kernel) rfl ?_
      exact e_retL (show pAt 39 61 = some (61, .lreturn, 1, []) from by decide +kernel) rfl vc

theorem w_citm {X : Scr} {dp : Nat} {h : Hp} {Q : Option Value → Hp → Prop} (t : Int32) (i : Int32) (v : Int64) (hs : HS h)
    (vc : Ends X dp 35 0 [.ref 53, .int t] [] h (fun rv h1 => ∃ r2, rv = some (.int r2) ∧ HS h1 ∧ ((condB .ne r2 0 = true → (inB t 6 = true ∧ ((condB .ne (h1.2.1 54 t.toNatClampNeg) (-1) = true → Ends X dp 36 0 [.ref 53, .int t, .long (i.toInt64), .retAddr 0] [] h1 (fun rv h7 => ∃ r8, rv = some (.int r8) ∧ HS h7 ∧ ((condB .ne r8 0 = true → (∃ b11 : Nat, (inB t 6 = true ∧ (h7.2.2.2 56 t.toNatClampNeg = some b11 ∧ (b11 < 1000 ∧ (inB t 6 = true ∧ Ends X dp 39 0 [.int (h7.2.1 54 t.toNatClampNeg), .long v, .retAddr 0] [] h7 (fun rv h16 => ∃ r17, rv = some (.long r17) ∧ HS h16 ∧ ((decide (b11 < 1000) && decide (SHl[b11]? = some (.inl (1, 60)))) = true ∧ (inB i 60 = true ∧ Q (some (.int 1)) (hpL h16 b11 i.toNatClampNeg r17)))))))))) ∧ (condB .ne r8 0 = false → Q (some (.int (-13))) h7)))) ∧ (condB .ne (h1.2.1 54 t.toNatClampNeg) (-1) = false → Q (some (.int (-11))) h1)))) ∧ (condB .ne r2 0 = false → Q (some (.int (-1))) h1)))) :
    Ends X (dp + 1) 96 0 [.ref 0, .int t, .int i, .long v, .retAddr 0] [] h Q := by
  have ra : ∀ {a : Nat}, a < 1000 → a ≤ OLDB := fun h => by have := OLDB_eq; omega
  refine e_aload_n (show pAt 96 0 = some (0, .aload_n 0, 1, []) from by decide +kernel) rfl (ra (by decide)) ?_
  refine e_gR (show pAt 96 1 = some (1, .getfield 56, 3, [6, 9, 0, 2031]) from by decide +kernel) (show HS h from hs) rfl (by decide) (hs_ref (show HS h from hs) rfl) ?_
  refine e_iload_n (show pAt 96 4 = some (4, .iload_n 1, 1, []) from by decide +kernel) rfl ?_
  refine Ends.call (show pAt 96 5 = some (5, .invokevirtual 194, 3, [35, 2, 0, 1, 4034, 4036, 48]) from by decide +kernel) (isRet_none rfl) rfl (call_this (show HS h from hs) rfl rfl (by decide)) (Ends.mono vc ?_)
  rintro _ h1 ⟨r2, rfl, hs_h1, vc⟩
  refine e_if (t := 13) (show pAt 96 8 = some (8, .ifCond .ne 5, 3, []) from by decide +kernel) rfl (fun c4 => ?_) (fun c4 => ?_)
  · replace vc := vc.1 c4
    refine e_aload_n (show pAt 96 13 = some (13, .aload_n 0, 1, []) from by decide +kernel) rfl (ra (by decide)) ?_
    refine e_gR (show pAt 96 14 = some (14, .getfield 56, 3, [6, 9, 0, 2031]) from by decide +kernel) (show HS h1 from hs_h1) rfl (by decide) (hs_ref (show HS h1 from hs_h1) rfl) ?_
    refine e_gR (show pAt 96 17 = some (17, .getfield 197, 3, [3, 0, 1, 2010]) from by decide +kernel) (show HS h1 from hs_h1) rfl (by decide) (hs_ref (show HS h1 from hs_h1) rfl) ?_
    refine e_iload_n (show pAt 96 20 = some (20, .iload_n 1, 1, []) from by decide +kernel) rfl ?_
    obtain ⟨c5, vc⟩ := vc
    refine e_aldv (v := h1.2.1 54 t.toNatClampNeg) (show pAt 96 21 = some (21, .iaload, 1, []) from by decide +kernel) (show HS h1 from hs_h1) (by decide) c5 rfl ?_
    refine e_iconst (c := (-1)) (show pAt 96 22 = some (22, .iconst (-1), 1, []) from by decide +kernel) (by decide) ?_
    refine e_icmp (t := 29) (show pAt 96 23 = some (23, .if_icmp .ne 6, 3, []) from by decide +kernel) rfl (fun c6 => ?_) (fun c6 => ?_)
    · replace vc := vc.1 c6
      refine e_aload_n (show pAt 96 29 = some (29, .aload_n 0, 1, []) from by decide +kernel) rfl (ra (by decide)) ?_
      refine e_gR (show pAt 96 30 = some (30, .getfield 56, 3, [6, 9, 0, 2031]) from by decide +kernel) (show HS h1 from hs_h1) rfl (by decide) (hs_ref (show HS h1 from hs_h1) rfl) ?_
      refine e_iload_n (show pAt 96 33 = some (33, .iload_n 1, 1, []) from by decide +kernel) rfl ?_
      refine e_iload_n (show pAt 96 34 = some (34, .iload_n 2, 1, []) from by decide +kernel) rfl ?_
      refine e_i2l (show pAt 96 35 = some (35, .i2l, 1, []) from by decide +kernel) ?_
      refine Ends.call (show pAt 96 36 = some (36, .invokevirtual 201, 3, [36, 3, 0, 1, 4038, 4040, 49]) from by decide +kernel) (isRet_none rfl) rfl (call_this (show HS h1 from hs_h1) rfl rfl (by decide)) (Ends.mono vc ?_)
      rintro _ h7 ⟨r8, rfl, hs_h7, vc⟩
      refine e_if (t := 45) (show pAt 96 39 = some (39, .ifCond .ne 6, 3, []) from by decide +kernel) rfl (fun c10 => ?_) (fun c10 => ?_)
      · replace vc := vc.1 c10
        refine e_aload_n (show pAt 96 45 = some (45, .aload_n 0, 1, []) from by decide +kernel) rfl (ra (by decide)) ?_
        refine e_gR (show pAt 96 46 = some (46, .getfield 56, 3, [6, 9, 0, 2031]) from by decide +kernel) (show HS h7 from hs_h7) rfl (by decide) (hs_ref (show HS h7 from hs_h7) rfl) ?_
        refine e_gR (show pAt 96 49 = some (49, .getfield 205, 3, [3, 2, 1, 2013]) from by decide +kernel) (show HS h7 from hs_h7) rfl (by decide) (hs_ref (show HS h7 from hs_h7) rfl) ?_
        refine e_iload_n (show pAt 96 52 = some (52, .iload_n 1, 1, []) from by decide +kernel) rfl ?_
        obtain ⟨b11, c12, c13, c14, vc⟩ := vc
        refine e_aald (t := 4) (show pAt 96 53 = some (53, .aaload, 1, []) from by decide +kernel) (show HS h7 from hs_h7) (by decide) c12 c13 c14 ?_
        refine e_iload_n (show pAt 96 54 = some (54, .iload_n 2, 1, []) from by decide +kernel) rfl ?_
        refine e_aload_n (show pAt 96 55 = some (55, .aload_n 0, 1, []) from by decide +kernel) rfl (ra (by decide)) ?_
        refine e_gR (show pAt 96 56 = some (56, .getfield 56, 3, [6, 9, 0, 2031]) from by decide +kernel) (show HS h7 from hs_h7) rfl (by decide) (hs_ref (show HS h7 from hs_h7) rfl) ?_
        refine e_gR (show pAt 96 59 = some (59, .getfield 197, 3, [3, 0, 1, 2010]) from by decide +kernel) (show HS h7 from hs_h7) rfl (by decide) (hs_ref (show HS h7 from hs_h7) rfl) ?_
        refine e_iload_n (show pAt 96 62 = some (62, .iload_n 1, 1, []) from by decide +kernel) rfl ?_
        obtain ⟨c15, vc⟩ := vc
        refine e_aldv (v := h7.2.1 54 t.toNatClampNeg) (show pAt 96 63 = some (63, .iaload, 1, []) from by decide +kernel) (show HS h7 from hs_h7) (by decide) c15 rfl ?_
        refine e_lload_n (show pAt 96 64 = some (64, .lload_n 3, 1, []) from by decide +kernel) rfl ?_
        refine Ends.call (show pAt 96 65 = some (65, .invokestatic 239, 3, [39, 2, 2, 1, 4101, 4102, 0]) from by decide +kernel) (isRet_none rfl) rfl rfl (Ends.mono vc ?_)
        rintro _ h16 ⟨r17, rfl, hs_h16, vc⟩
        obtain ⟨c19, c20, vc⟩ := vc
        refine e_last (show pAt 96 68 = some (68, .lastore, 1, []) from by decide +kernel) (show HS h16 from hs_h16) c19 c20 ?_
        refine e_iconst (c := 1) (show pAt 96 69 = some (69, .iconst 1, 1, []) from by decide +kernel) (by decide) ?_
        exact e_retI (show pAt 96 70 = some (70, .ireturn, 1, []) from by decide +kernel) rfl vc
      · replace vc := vc.2 c10
        refine e_bipush (c := (-13)) (show pAt 96 42 = some (42, .bipush (-13), 2, []) from by decide +kernel) (by decide) ?_
        exact e_retI (show pAt 96 44 = some (44, .ireturn, 1, []) from by decide +kernel) rfl vc
    · replace vc := vc.2 c6
      refine e_bipush (c := (-11)) (show pAt 96 26 = some (26, .bipush (-11), 2, []) from by decide +kernel) (by decide) ?_
      exact e_retI (show pAt 96 28 = some (28, .ireturn, 1, []) from by decide +kernel) rfl vc
  · replace vc := vc.2 c4
    refine e_iconst (c := (-1)) (show pAt 96 11 = some (11, .iconst (-1), 1, []) from by decide +kernel) (by decide) ?_
    exact e_retI (show pAt 96 12 = some (12, .ireturn, 1, []) from by decide +kernel) rfl vc

theorem w_mnar {X : Scr} {dp : Nat} {h : Hp} {Q : Option Value → Hp → Prop} (s : Int32) (z : Int64) (hs : HS h)
    (vc : ((condB .ne s 0 = true → ((condB .ne s 1 = true → ((condB .ne s 2 = true → ((condB .ne s 4 = true → Q (some (.long z)) h) ∧ (condB .ne s 4 = false → ((condB .eq (lg_cmp z 0) 0 = true → Q (some (.long 0)) h) ∧ (condB .eq (lg_cmp z 0) 0 = false → Q (some (.long 1)) h))))) ∧ (condB .ne s 2 = false → Q (some (.long ((z.toInt32).toInt64))) h))) ∧ (condB .ne s 1 = false → Q (some (.long (((z.toInt32).toInt16.toInt32).toInt64))) h))) ∧ (condB .ne s 0 = false → Q (some (.long (((z.toInt32).toInt8.toInt32).toInt64))) h))) :
    Ends X dp 200 0 [.ref 93, .int s, .long z, .retAddr 0] [] h Q := by
  have ra : ∀ {a : Nat}, a < 1000 → a ≤ OLDB := fun h => by have := OLDB_eq; omega
  refine e_iload_n (show pAt 200 0 = some (0, .iload_n 1, 1, []) from by decide +kernel) rfl ?_
  refine e_if (t := 11) (show pAt 200 1 = some (1, .ifCond .ne 10, 3, []) from by decide +kernel) rfl (fun c1 => ?_) (fun c1 => ?_)
  · replace vc := vc.1 c1
    refine e_iload_n (show pAt 200 11 = some (11, .iload_n 1, 1, []) from by decide +kernel) rfl ?_
    refine e_iconst (c := 1) (show pAt 200 12 = some (12, .iconst 1, 1, []) from by decide +kernel) (by decide) ?_
    refine e_icmp (t := 23) (show pAt 200 13 = some (13, .if_icmp .ne 10, 3, []) from by decide +kernel) rfl (fun c2 => ?_) (fun c2 => ?_)
    · replace vc := vc.1 c2
      refine e_iload_n (show pAt 200 23 = some (23, .iload_n 1, 1, []) from by decide +kernel) rfl ?_
      refine e_iconst (c := 2) (show pAt 200 24 = some (24, .iconst 2, 1, []) from by decide +kernel) (by decide) ?_
      refine e_icmp (t := 34) (show pAt 200 25 = some (25, .if_icmp .ne 9, 3, []) from by decide +kernel) rfl (fun c3 => ?_) (fun c3 => ?_)
      · replace vc := vc.1 c3
        refine e_iload_n (show pAt 200 34 = some (34, .iload_n 1, 1, []) from by decide +kernel) rfl ?_
        refine e_iconst (c := 4) (show pAt 200 35 = some (35, .iconst 4, 1, []) from by decide +kernel) (by decide) ?_
        refine e_icmp (t := 53) (show pAt 200 36 = some (36, .if_icmp .ne 17, 3, []) from by decide +kernel) rfl (fun c4 => ?_) (fun c4 => ?_)
        · replace vc := vc.1 c4
          refine e_lload_n (show pAt 200 53 = some (53, .lload_n 2, 1, []) from by decide +kernel) rfl ?_
          exact e_retL (show pAt 200 54 = some (54, .lreturn, 1, []) from by decide +kernel) rfl vc
        · replace vc := vc.2 c4
          refine e_lload_n (show pAt 200 39 = some (39, .lload_n 2, 1, []) from by decide +kernel) rfl ?_
          refine e_lconst (c := 0) (show pAt 200 40 = some (40, .lconst 0, 1, []) from by decide +kernel) (by decide) ?_
          refine e_lcmp (show pAt 200 41 = some (41, .lcmp, 1, []) from by decide +kernel) ?_
          refine e_if (t := 49) (show pAt 200 42 = some (42, .ifCond .eq 7, 3, []) from by decide +kernel) rfl (fun c5 => ?_) (fun c5 => ?_)
          · replace vc := vc.1 c5
            refine e_lconst (c := 0) (show pAt 200 49 = some (49, .lconst 0, 1, []) from by decide +kernel) (by decide) ?_
            refine e_goto (t := 54) (show pAt 200 50 = some (50, .goto 4, 3, []) from by decide +kernel) rfl ?_
            exact e_retL (show pAt 200 54 = some (54, .lreturn, 1, []) from by decide +kernel) rfl vc
          · replace vc := vc.2 c5
            refine e_lconst (c := 1) (show pAt 200 45 = some (45, .lconst 1, 1, []) from by decide +kernel) (by decide) ?_
            refine e_goto (t := 54) (show pAt 200 46 = some (46, .goto 8, 3, []) from by decide +kernel) rfl ?_
            exact e_retL (show pAt 200 54 = some (54, .lreturn, 1, []) from by decide +kernel) rfl vc
      · replace vc := vc.2 c3
        refine e_lload_n (show pAt 200 28 = some (28, .lload_n 2, 1, []) from by decide +kernel) rfl ?_
        refine e_l2i (show pAt 200 29 = some (29, .l2i, 1, []) from by decide +kernel) ?_
        refine e_i2l (show pAt 200 30 = some (30, .i2l, 1, []) from by decide +kernel) ?_
        refine e_goto (t := 54) (show pAt 200 31 = some (31, .goto 23, 3, []) from by decide +kernel) rfl ?_
        exact e_retL (show pAt 200 54 = some (54, .lreturn, 1, []) from by decide +kernel) rfl vc
    · replace vc := vc.2 c2
      refine e_lload_n (show pAt 200 16 = some (16, .lload_n 2, 1, []) from by decide +kernel) rfl ?_
      refine e_l2i (show pAt 200 17 = some (17, .l2i, 1, []) from by decide +kernel) ?_
      refine e_i2s (show pAt 200 18 = some (18, .i2s, 1, []) from by decide +kernel) ?_
      refine e_i2l (show pAt 200 19 = some (19, .i2l, 1, []) from by decide +kernel) ?_
      refine e_goto (t := 54) (show pAt 200 20 = some (20, .goto 34, 3, []) from by decide +kernel) rfl ?_
      exact e_retL (show pAt 200 54 = some (54, .lreturn, 1, []) from by decide +kernel) rfl vc
  · replace vc := vc.2 c1
    refine e_lload_n (show pAt 200 4 = some (4, .lload_n 2, 1, []) from by decide +kernel) rfl ?_
    refine e_l2i (show pAt 200 5 = some (5, .l2i, 1, []) from by decide +kernel) ?_
    refine e_i2b (show pAt 200 6 = some (6, .i2b, 1, []) from by decide +kernel) ?_
    refine e_i2l (show pAt 200 7 = some (7, .i2l, 1, []) from by decide +kernel) ?_
    refine e_goto (t := 54) (show pAt 200 8 = some (8, .goto 46, 3, []) from by decide +kernel) rfl ?_
    exact e_retL (show pAt 200 54 = some (54, .lreturn, 1, []) from by decide +kernel) rfl vc

theorem w_mitm {X : Scr} {dp : Nat} {h : Hp} {Q : Option Value → Hp → Prop} (t : Int32) (i : Int32) (z : Int64) (hs : HS h)
    (vc : Ends X dp 198 0 [.ref 93, .int t] [] h (fun rv h1 => ∃ r2, rv = some (.int r2) ∧ HS h1 ∧ ((condB .ne r2 0 = true → (inB t 6 = true ∧ ((condB .ge (h1.2.1 123 t.toNatClampNeg) 0 = true → (inB t 6 = true ∧ Ends X dp 109 0 [.ref 93, .int i, .int 0, .int ((h1.2.1 124 t.toNatClampNeg) - 1)] [] h1 (fun rv h8 => ∃ r9, rv = some (.int r9) ∧ HS h8 ∧ ((condB .ne r9 0 = true → (inB t 6 = true ∧ Ends X dp 200 0 [.ref 93, .int (h8.2.1 123 t.toNatClampNeg), .long z, .retAddr 0] [] h8 (fun rv h13 => ∃ r14, rv = some (.long r14) ∧ HS h13 ∧ (inB ((60 * t) + i) 360 = true ∧ Q (some (.int 1)) (hpL h13 125 ((60 * t) + i).toNatClampNeg r14))))) ∧ (condB .ne r9 0 = false → Q (some (.int (-13))) h8))))) ∧ (condB .ge (h1.2.1 123 t.toNatClampNeg) 0 = false → Q (some (.int (-11))) h1)))) ∧ (condB .ne r2 0 = false → Q (some (.int (-1))) h1)))) :
    Ends X (dp + 1) 201 0 [.ref 93, .int t, .int i, .long z, .retAddr 0] [] h Q := by
  have ra : ∀ {a : Nat}, a < 1000 → a ≤ OLDB := fun h => by have := OLDB_eq; omega
  refine e_aload_n (show pAt 201 0 = some (0, .aload_n 0, 1, []) from by decide +kernel) rfl (ra (by decide)) ?_
  refine e_iload_n (show pAt 201 1 = some (1, .iload_n 1, 1, []) from by decide +kernel) rfl ?_
  refine Ends.call (show pAt 201 2 = some (2, .invokevirtual 366, 3, [198, 2, 0, 0, 6138, 6140, 103]) from by decide +kernel) (isRet_none rfl) rfl (call_this (show HS h from hs) rfl rfl (by decide)) (Ends.mono vc ?_)
  rintro _ h1 ⟨r2, rfl, hs_h1, vc⟩
  refine e_if (t := 10) (show pAt 201 5 = some (5, .ifCond .ne 5, 3, []) from by decide +kernel) rfl (fun c4 => ?_) (fun c4 => ?_)
  · replace vc := vc.1 c4
    refine e_aload_n (show pAt 201 10 = some (10, .aload_n 0, 1, []) from by decide +kernel) rfl (ra (by decide)) ?_
    refine e_gR (show pAt 201 11 = some (11, .getfield 193, 3, [7, 60, 0, 4183]) from by decide +kernel) (show HS h1 from hs_h1) rfl (by decide) (hs_ref (show HS h1 from hs_h1) rfl) ?_
    refine e_iload_n (show pAt 201 14 = some (14, .iload_n 1, 1, []) from by decide +kernel) rfl ?_
    obtain ⟨c5, vc⟩ := vc
    refine e_aldv (v := h1.2.1 123 t.toNatClampNeg) (show pAt 201 15 = some (15, .iaload, 1, []) from by decide +kernel) (show HS h1 from hs_h1) (by decide) c5 rfl ?_
    refine e_if (t := 22) (show pAt 201 16 = some (16, .ifCond .ge 6, 3, []) from by decide +kernel) rfl (fun c6 => ?_) (fun c6 => ?_)
    · replace vc := vc.1 c6
      refine e_aload_n (show pAt 201 22 = some (22, .aload_n 0, 1, []) from by decide +kernel) rfl (ra (by decide)) ?_
      refine e_iload_n (show pAt 201 23 = some (23, .iload_n 2, 1, []) from by decide +kernel) rfl ?_
      refine e_iconst (c := 0) (show pAt 201 24 = some (24, .iconst 0, 1, []) from by decide +kernel) (by decide) ?_
      refine e_aload_n (show pAt 201 25 = some (25, .aload_n 0, 1, []) from by decide +kernel) rfl (ra (by decide)) ?_
      refine e_gR (show pAt 201 26 = some (26, .getfield 196, 3, [7, 61, 0, 4184]) from by decide +kernel) (show HS h1 from hs_h1) rfl (by decide) (hs_ref (show HS h1 from hs_h1) rfl) ?_
      refine e_iload_n (show pAt 201 29 = some (29, .iload_n 1, 1, []) from by decide +kernel) rfl ?_
      obtain ⟨c7, vc⟩ := vc
      refine e_aldv (v := h1.2.1 124 t.toNatClampNeg) (show pAt 201 30 = some (30, .iaload, 1, []) from by decide +kernel) (show HS h1 from hs_h1) (by decide) c7 rfl ?_
      refine e_iconst (c := 1) (show pAt 201 31 = some (31, .iconst 1, 1, []) from by decide +kernel) (by decide) ?_
      refine e_isub (show pAt 201 32 = some (32, .isub, 1, []) from by decide +kernel) ?_
      refine Ends.call (show pAt 201 33 = some (33, .invokevirtual 206, 3, [109, 4, 0, 0, 5081, 5083, 54]) from by decide +kernel) (isRet_none rfl) rfl (call_this (show HS h1 from hs_h1) rfl rfl (by decide)) (Ends.mono vc ?_)
      rintro _ h8 ⟨r9, rfl, hs_h8, vc⟩
      refine e_if (t := 42) (show pAt 201 36 = some (36, .ifCond .ne 6, 3, []) from by decide +kernel) rfl (fun c11 => ?_) (fun c11 => ?_)
      · replace vc := vc.1 c11
        refine e_aload_n (show pAt 201 42 = some (42, .aload_n 0, 1, []) from by decide +kernel) rfl (ra (by decide)) ?_
        refine e_gR (show pAt 201 43 = some (43, .getfield 199, 3, [7, 62, 0, 4185]) from by decide +kernel) (show HS h8 from hs_h8) rfl (by decide) (hs_ref (show HS h8 from hs_h8) rfl) ?_
        refine e_bipush (c := 60) (show pAt 201 46 = some (46, .bipush 60, 2, []) from by decide +kernel) (by decide) ?_
        refine e_iload_n (show pAt 201 48 = some (48, .iload_n 1, 1, []) from by decide +kernel) rfl ?_
        refine e_imul (show pAt 201 49 = some (49, .imul, 1, []) from by decide +kernel) ?_
        refine e_iload_n (show pAt 201 50 = some (50, .iload_n 2, 1, []) from by decide +kernel) rfl ?_
        refine e_iadd (show pAt 201 51 = some (51, .iadd, 1, []) from by decide +kernel) ?_
        refine e_aload_n (show pAt 201 52 = some (52, .aload_n 0, 1, []) from by decide +kernel) rfl (ra (by decide)) ?_
        refine e_aload_n (show pAt 201 53 = some (53, .aload_n 0, 1, []) from by decide +kernel) rfl (ra (by decide)) ?_
        refine e_gR (show pAt 201 54 = some (54, .getfield 193, 3, [7, 60, 0, 4183]) from by decide +kernel) (show HS h8 from hs_h8) rfl (by decide) (hs_ref (show HS h8 from hs_h8) rfl) ?_
        refine e_iload_n (show pAt 201 57 = some (57, .iload_n 1, 1, []) from by decide +kernel) rfl ?_
        obtain ⟨c12, vc⟩ := vc
        refine e_aldv (v := h8.2.1 123 t.toNatClampNeg) (show pAt 201 58 = some (58, .iaload, 1, []) from by decide +kernel) (show HS h8 from hs_h8) (by decide) c12 rfl ?_
        refine e_lload_n (show pAt 201 59 = some (59, .lload_n 3, 1, []) from by decide +kernel) rfl ?_
        refine Ends.call (show pAt 201 60 = some (60, .invokevirtual 393, 3, [200, 3, 0, 0, 6206, 6208, 112]) from by decide +kernel) (isRet_none rfl) rfl (call_this (show HS h8 from hs_h8) rfl rfl (by decide)) (Ends.mono vc ?_)
        rintro _ h13 ⟨r14, rfl, hs_h13, vc⟩
        obtain ⟨c16, vc⟩ := vc
        refine e_last (show pAt 201 63 = some (63, .lastore, 1, []) from by decide +kernel) (show HS h13 from hs_h13) (by decide) c16 ?_
        refine e_iconst (c := 1) (show pAt 201 64 = some (64, .iconst 1, 1, []) from by decide +kernel) (by decide) ?_
        exact e_retI (show pAt 201 65 = some (65, .ireturn, 1, []) from by decide +kernel) rfl vc
      · replace vc := vc.2 c11
        refine e_bipush (c := (-13)) (show pAt 201 39 = some (39, .bipush (-13), 2, []) from by decide +kernel) (by decide) ?_
        exact e_retI (show pAt 201 41 = some (41, .ireturn, 1, []) from by decide +kernel) rfl vc
    · replace vc := vc.2 c6
      refine e_bipush (c := (-11)) (show pAt 201 19 = some (19, .bipush (-11), 2, []) from by decide +kernel) (by decide) ?_
      exact e_retI (show pAt 201 21 = some (21, .ireturn, 1, []) from by decide +kernel) rfl vc
  · replace vc := vc.2 c4
    refine e_iconst (c := (-1)) (show pAt 201 8 = some (8, .iconst (-1), 1, []) from by decide +kernel) (by decide) ?_
    exact e_retI (show pAt 201 9 = some (9, .ireturn, 1, []) from by decide +kernel) rfl vc

theorem w_crd {X : Scr} {dp : Nat} {h : Hp} {Q : Option Value → Hp → Prop} (t : Int32) (i : Int32) (hs : HS h)
    (vc : Ends X dp 35 0 [.ref 53, .int t] [] h (fun rv h1 => ∃ r2, rv = some (.int r2) ∧ HS h1 ∧ ((condB .eq r2 0 = true → Q (some (.long (-9223372036854775808))) h1) ∧ (condB .eq r2 0 = false → Ends X dp 36 0 [.ref 53, .int t, .long (i.toInt64), .retAddr 0] [] h1 (fun rv h5 => ∃ r6, rv = some (.int r6) ∧ HS h5 ∧ ((condB .eq r6 0 = true → Q (some (.long (-9223372036854775808))) h5) ∧ (condB .eq r6 0 = false → (∃ b9 : Nat, (inB t 6 = true ∧ (h5.2.2.2 56 t.toNatClampNeg = some b9 ∧ (b9 < 1000 ∧ ((decide (b9 < 1000) && decide (SHl[b9]? = some (.inl (1, 60)))) = true ∧ (inB i 60 = true ∧ Q (some (.long (h5.2.2.1 b9 i.toNatClampNeg))) h5))))))))))))) :
    Ends X (dp + 1) 97 0 [.ref 0, .int t, .int i] [] h Q := by
  have ra : ∀ {a : Nat}, a < 1000 → a ≤ OLDB := fun h => by have := OLDB_eq; omega
  refine e_aload_n (show pAt 97 0 = some (0, .aload_n 0, 1, []) from by decide +kernel) rfl (ra (by decide)) ?_
  refine e_gR (show pAt 97 1 = some (1, .getfield 56, 3, [6, 9, 0, 2031]) from by decide +kernel) (show HS h from hs) rfl (by decide) (hs_ref (show HS h from hs) rfl) ?_
  refine e_iload_n (show pAt 97 4 = some (4, .iload_n 1, 1, []) from by decide +kernel) rfl ?_
  refine Ends.call (show pAt 97 5 = some (5, .invokevirtual 194, 3, [35, 2, 0, 1, 4034, 4036, 48]) from by decide +kernel) (isRet_none rfl) rfl (call_this (show HS h from hs) rfl rfl (by decide)) (Ends.mono vc ?_)
  rintro _ h1 ⟨r2, rfl, hs_h1, vc⟩
  refine e_if (t := 38) (show pAt 97 8 = some (8, .ifCond .eq 30, 3, []) from by decide +kernel) rfl (fun c4 => ?_) (fun c4 => ?_)
  · replace vc := vc.1 c4
    refine e_ldc2 (c := (-9223372036854775808)) (show pAt 97 38 = some (38, .ldc2_w 182, 3, [9223372036854775808, 4014]) from by decide +kernel) (by decide) ?_
    exact e_retL (show pAt 97 41 = some (41, .lreturn, 1, []) from by decide +kernel) rfl vc
  · replace vc := vc.2 c4
    refine e_aload_n (show pAt 97 11 = some (11, .aload_n 0, 1, []) from by decide +kernel) rfl (ra (by decide)) ?_
    refine e_gR (show pAt 97 12 = some (12, .getfield 56, 3, [6, 9, 0, 2031]) from by decide +kernel) (show HS h1 from hs_h1) rfl (by decide) (hs_ref (show HS h1 from hs_h1) rfl) ?_
    refine e_iload_n (show pAt 97 15 = some (15, .iload_n 1, 1, []) from by decide +kernel) rfl ?_
    refine e_iload_n (show pAt 97 16 = some (16, .iload_n 2, 1, []) from by decide +kernel) rfl ?_
    refine e_i2l (show pAt 97 17 = some (17, .i2l, 1, []) from by decide +kernel) ?_
    refine Ends.call (show pAt 97 18 = some (18, .invokevirtual 201, 3, [36, 3, 0, 1, 4038, 4040, 49]) from by decide +kernel) (isRet_none rfl) rfl (call_this (show HS h1 from hs_h1) rfl rfl (by decide)) (Ends.mono vc ?_)
    rintro _ h5 ⟨r6, rfl, hs_h5, vc⟩
    refine e_if (t := 38) (show pAt 97 21 = some (21, .ifCond .eq 17, 3, []) from by decide +kernel) rfl (fun c8 => ?_) (fun c8 => ?_)
    · replace vc := vc.1 c8
      refine e_ldc2 (c := (-9223372036854775808)) (show pAt 97 38 = some (38, .ldc2_w 182, 3, [9223372036854775808, 4014]) from by decide +kernel) (by decide) ?_
      exact e_retL (show pAt 97 41 = some (41, .lreturn, 1, []) from by decide +kernel) rfl vc
    · replace vc := vc.2 c8
      refine e_aload_n (show pAt 97 24 = some (24, .aload_n 0, 1, []) from by decide +kernel) rfl (ra (by decide)) ?_
      refine e_gR (show pAt 97 25 = some (25, .getfield 56, 3, [6, 9, 0, 2031]) from by decide +kernel) (show HS h5 from hs_h5) rfl (by decide) (hs_ref (show HS h5 from hs_h5) rfl) ?_
      refine e_gR (show pAt 97 28 = some (28, .getfield 205, 3, [3, 2, 1, 2013]) from by decide +kernel) (show HS h5 from hs_h5) rfl (by decide) (hs_ref (show HS h5 from hs_h5) rfl) ?_
      refine e_iload_n (show pAt 97 31 = some (31, .iload_n 1, 1, []) from by decide +kernel) rfl ?_
      obtain ⟨b9, c10, c11, c12, vc⟩ := vc
      refine e_aald (t := 4) (show pAt 97 32 = some (32, .aaload, 1, []) from by decide +kernel) (show HS h5 from hs_h5) (by decide) c10 c11 c12 ?_
      refine e_iload_n (show pAt 97 33 = some (33, .iload_n 2, 1, []) from by decide +kernel) rfl ?_
      obtain ⟨c13, c14, vc⟩ := vc
      refine e_lald (show pAt 97 34 = some (34, .laload, 1, []) from by decide +kernel) (show HS h5 from hs_h5) c13 c14 ?_
      refine e_goto (t := 41) (show pAt 97 35 = some (35, .goto 6, 3, []) from by decide +kernel) rfl ?_
      exact e_retL (show pAt 97 41 = some (41, .lreturn, 1, []) from by decide +kernel) rfl vc

theorem w_mrd {X : Scr} {dp : Nat} {h : Hp} {Q : Option Value → Hp → Prop} (t : Int32) (i : Int32) (hs : HS h)
    (vc : Ends X dp 198 0 [.ref 93, .int t] [] h (fun rv h1 => ∃ r2, rv = some (.int r2) ∧ HS h1 ∧ ((condB .eq r2 0 = true → Q (some (.long (-9223372036854775808))) h1) ∧ (condB .eq r2 0 = false → (inB t 6 = true ∧ ((condB .lt (h1.2.1 123 t.toNatClampNeg) 0 = true → Q (some (.long (-9223372036854775808))) h1) ∧ (condB .lt (h1.2.1 123 t.toNatClampNeg) 0 = false → (inB t 6 = true ∧ Ends X dp 109 0 [.ref 93, .int i, .int 0, .int ((h1.2.1 124 t.toNatClampNeg) - 1)] [] h1 (fun rv h8 => ∃ r9, rv = some (.int r9) ∧ HS h8 ∧ ((condB .ne r9 0 = true → (inB ((60 * t) + i) 360 = true ∧ Q (some (.long (h8.2.2.1 125 ((60 * t) + i).toNatClampNeg))) h8)) ∧ (condB .ne r9 0 = false → Q (some (.long (-9223372036854775808))) h8))))))))))) :
    Ends X (dp + 1) 202 0 [.ref 93, .int t, .int i] [] h Q := by
  have ra : ∀ {a : Nat}, a < 1000 → a ≤ OLDB := fun h => by have := OLDB_eq; omega
  refine e_aload_n (show pAt 202 0 = some (0, .aload_n 0, 1, []) from by decide +kernel) rfl (ra (by decide)) ?_
  refine e_iload_n (show pAt 202 1 = some (1, .iload_n 1, 1, []) from by decide +kernel) rfl ?_
  refine Ends.call (show pAt 202 2 = some (2, .invokevirtual 366, 3, [198, 2, 0, 0, 6138, 6140, 103]) from by decide +kernel) (isRet_none rfl) rfl (call_this (show HS h from hs) rfl rfl (by decide)) (Ends.mono vc ?_)
  rintro _ h1 ⟨r2, rfl, hs_h1, vc⟩
  refine e_if (t := 34) (show pAt 202 5 = some (5, .ifCond .eq 29, 3, []) from by decide +kernel) rfl (fun c4 => ?_) (fun c4 => ?_)
  · replace vc := vc.1 c4
    refine e_ldc2 (c := (-9223372036854775808)) (show pAt 202 34 = some (34, .ldc2_w 360, 3, [9223372036854775808, 6113]) from by decide +kernel) (by decide) ?_
    refine e_goto (t := 51) (show pAt 202 37 = some (37, .goto 14, 3, []) from by decide +kernel) rfl ?_
    exact e_retL (show pAt 202 51 = some (51, .lreturn, 1, []) from by decide +kernel) rfl vc
  · replace vc := vc.2 c4
    refine e_aload_n (show pAt 202 8 = some (8, .aload_n 0, 1, []) from by decide +kernel) rfl (ra (by decide)) ?_
    refine e_gR (show pAt 202 9 = some (9, .getfield 193, 3, [7, 60, 0, 4183]) from by decide +kernel) (show HS h1 from hs_h1) rfl (by decide) (hs_ref (show HS h1 from hs_h1) rfl) ?_
    refine e_iload_n (show pAt 202 12 = some (12, .iload_n 1, 1, []) from by decide +kernel) rfl ?_
    obtain ⟨c5, vc⟩ := vc
    refine e_aldv (v := h1.2.1 123 t.toNatClampNeg) (show pAt 202 13 = some (13, .iaload, 1, []) from by decide +kernel) (show HS h1 from hs_h1) (by decide) c5 rfl ?_
    refine e_if (t := 34) (show pAt 202 14 = some (14, .ifCond .lt 20, 3, []) from by decide +kernel) rfl (fun c6 => ?_) (fun c6 => ?_)
    · replace vc := vc.1 c6
      refine e_ldc2 (c := (-9223372036854775808)) (show pAt 202 34 = some (34, .ldc2_w 360, 3, [9223372036854775808, 6113]) from by decide +kernel) (by decide) ?_
      refine e_goto (t := 51) (show pAt 202 37 = some (37, .goto 14, 3, []) from by decide +kernel) rfl ?_
      exact e_retL (show pAt 202 51 = some (51, .lreturn, 1, []) from by decide +kernel) rfl vc
    · replace vc := vc.2 c6
      refine e_aload_n (show pAt 202 17 = some (17, .aload_n 0, 1, []) from by decide +kernel) rfl (ra (by decide)) ?_
      refine e_iload_n (show pAt 202 18 = some (18, .iload_n 2, 1, []) from by decide +kernel) rfl ?_
      refine e_iconst (c := 0) (show pAt 202 19 = some (19, .iconst 0, 1, []) from by decide +kernel) (by decide) ?_
      refine e_aload_n (show pAt 202 20 = some (20, .aload_n 0, 1, []) from by decide +kernel) rfl (ra (by decide)) ?_
      refine e_gR (show pAt 202 21 = some (21, .getfield 196, 3, [7, 61, 0, 4184]) from by decide +kernel) (show HS h1 from hs_h1) rfl (by decide) (hs_ref (show HS h1 from hs_h1) rfl) ?_
      refine e_iload_n (show pAt 202 24 = some (24, .iload_n 1, 1, []) from by decide +kernel) rfl ?_
      obtain ⟨c7, vc⟩ := vc
      refine e_aldv (v := h1.2.1 124 t.toNatClampNeg) (show pAt 202 25 = some (25, .iaload, 1, []) from by decide +kernel) (show HS h1 from hs_h1) (by decide) c7 rfl ?_
      refine e_iconst (c := 1) (show pAt 202 26 = some (26, .iconst 1, 1, []) from by decide +kernel) (by decide) ?_
      refine e_isub (show pAt 202 27 = some (27, .isub, 1, []) from by decide +kernel) ?_
      refine Ends.call (show pAt 202 28 = some (28, .invokevirtual 206, 3, [109, 4, 0, 0, 5081, 5083, 54]) from by decide +kernel) (isRet_none rfl) rfl (call_this (show HS h1 from hs_h1) rfl rfl (by decide)) (Ends.mono vc ?_)
      rintro _ h8 ⟨r9, rfl, hs_h8, vc⟩
      refine e_if (t := 40) (show pAt 202 31 = some (31, .ifCond .ne 9, 3, []) from by decide +kernel) rfl (fun c11 => ?_) (fun c11 => ?_)
      · replace vc := vc.1 c11
        refine e_aload_n (show pAt 202 40 = some (40, .aload_n 0, 1, []) from by decide +kernel) rfl (ra (by decide)) ?_
        refine e_gR (show pAt 202 41 = some (41, .getfield 199, 3, [7, 62, 0, 4185]) from by decide +kernel) (show HS h8 from hs_h8) rfl (by decide) (hs_ref (show HS h8 from hs_h8) rfl) ?_
        refine e_bipush (c := 60) (show pAt 202 44 = some (44, .bipush 60, 2, []) from by decide +kernel) (by decide) ?_
        refine e_iload_n (show pAt 202 46 = some (46, .iload_n 1, 1, []) from by decide +kernel) rfl ?_
        refine e_imul (show pAt 202 47 = some (47, .imul, 1, []) from by decide +kernel) ?_
        refine e_iload_n (show pAt 202 48 = some (48, .iload_n 2, 1, []) from by decide +kernel) rfl ?_
        refine e_iadd (show pAt 202 49 = some (49, .iadd, 1, []) from by decide +kernel) ?_
        obtain ⟨c12, vc⟩ := vc
        refine e_lald (show pAt 202 50 = some (50, .laload, 1, []) from by decide +kernel) (show HS h8 from hs_h8) (by decide) c12 ?_
        exact e_retL (show pAt 202 51 = some (51, .lreturn, 1, []) from by decide +kernel) rfl vc
      · replace vc := vc.2 c11
        refine e_ldc2 (c := (-9223372036854775808)) (show pAt 202 34 = some (34, .ldc2_w 360, 3, [9223372036854775808, 6113]) from by decide +kernel) (by decide) ?_
        refine e_goto (t := 51) (show pAt 202 37 = some (37, .goto 14, 3, []) from by decide +kernel) rfl ?_
        exact e_retL (show pAt 202 51 = some (51, .lreturn, 1, []) from by decide +kernel) rfl vc

theorem w_ctrc {X : Scr} {dp : Nat} {h : Hp} {Q : Option Value → Hp → Prop} (i : Int32) (hs : HS h)
    (vc : ((condB .lt i 0 = true → Q (some (.int (-1))) h) ∧ (condB .lt i 0 = false → ((condB .ge i 20 = true → Q (some (.int (-1))) h) ∧ (condB .ge i 20 = false → ((condB .ge i (h.2.1 51 4) = true → Q (some (.int (-1))) h) ∧ (condB .ge i (h.2.1 51 4) = false → (inB i 20 = true ∧ Q (some (.int (h.2.1 52 i.toNatClampNeg))) h)))))))) :
    Ends X dp 92 0 [.ref 0, .int i] [] h Q := by
  have ra : ∀ {a : Nat}, a < 1000 → a ≤ OLDB := fun h => by have := OLDB_eq; omega
  refine e_iload_n (show pAt 92 0 = some (0, .iload_n 1, 1, []) from by decide +kernel) rfl ?_
  refine e_if (t := 33) (show pAt 92 1 = some (1, .ifCond .lt 32, 3, []) from by decide +kernel) rfl (fun c1 => ?_) (fun c1 => ?_)
  · replace vc := vc.1 c1
    refine e_iconst (c := (-1)) (show pAt 92 33 = some (33, .iconst (-1), 1, []) from by decide +kernel) (by decide) ?_
    exact e_retI (show pAt 92 34 = some (34, .ireturn, 1, []) from by decide +kernel) rfl vc
  · replace vc := vc.2 c1
    refine e_iload_n (show pAt 92 4 = some (4, .iload_n 1, 1, []) from by decide +kernel) rfl ?_
    refine e_bipush (c := 20) (show pAt 92 5 = some (5, .bipush 20, 2, []) from by decide +kernel) (by decide) ?_
    refine e_icmp (t := 33) (show pAt 92 7 = some (7, .if_icmp .ge 26, 3, []) from by decide +kernel) rfl (fun c2 => ?_) (fun c2 => ?_)
    · replace vc := vc.1 c2
      refine e_iconst (c := (-1)) (show pAt 92 33 = some (33, .iconst (-1), 1, []) from by decide +kernel) (by decide) ?_
      exact e_retI (show pAt 92 34 = some (34, .ireturn, 1, []) from by decide +kernel) rfl vc
    · replace vc := vc.2 c2
      refine e_iload_n (show pAt 92 10 = some (10, .iload_n 1, 1, []) from by decide +kernel) rfl ?_
      refine e_aload_n (show pAt 92 11 = some (11, .aload_n 0, 1, []) from by decide +kernel) rfl (ra (by decide)) ?_
      refine e_gR (show pAt 92 12 = some (12, .getfield 49, 3, [6, 8, 0, 2030]) from by decide +kernel) (show HS h from hs) rfl (by decide) (hs_ref (show HS h from hs) rfl) ?_
      refine e_gIv (v := h.2.1 51 4) (show pAt 92 15 = some (15, .getfield 216, 3, [0, 4, 1, 1226]) from by decide +kernel) (show HS h from hs) rfl (by decide) rfl ?_
      refine e_icmp (t := 33) (show pAt 92 18 = some (18, .if_icmp .ge 15, 3, []) from by decide +kernel) rfl (fun c3 => ?_) (fun c3 => ?_)
      · replace vc := vc.1 c3
        refine e_iconst (c := (-1)) (show pAt 92 33 = some (33, .iconst (-1), 1, []) from by decide +kernel) (by decide) ?_
        exact e_retI (show pAt 92 34 = some (34, .ireturn, 1, []) from by decide +kernel) rfl vc
      · replace vc := vc.2 c3
        refine e_aload_n (show pAt 92 21 = some (21, .aload_n 0, 1, []) from by decide +kernel) rfl (ra (by decide)) ?_
        refine e_gR (show pAt 92 22 = some (22, .getfield 49, 3, [6, 8, 0, 2030]) from by decide +kernel) (show HS h from hs) rfl (by decide) (hs_ref (show HS h from hs) rfl) ?_
        refine e_gR (show pAt 92 25 = some (25, .getfield 230, 3, [0, 3, 1, 1224]) from by decide +kernel) (show HS h from hs) rfl (by decide) (hs_ref (show HS h from hs) rfl) ?_
        refine e_iload_n (show pAt 92 28 = some (28, .iload_n 1, 1, []) from by decide +kernel) rfl ?_
        obtain ⟨c4, vc⟩ := vc
        refine e_aldv (v := h.2.1 52 i.toNatClampNeg) (show pAt 92 29 = some (29, .iaload, 1, []) from by decide +kernel) (show HS h from hs) (by decide) c4 rfl ?_
        refine e_goto (t := 34) (show pAt 92 30 = some (30, .goto 4, 3, []) from by decide +kernel) rfl ?_
        exact e_retI (show pAt 92 34 = some (34, .ireturn, 1, []) from by decide +kernel) rfl vc

theorem w_mtrc {X : Scr} {dp : Nat} {h : Hp} {Q : Option Value → Hp → Prop} (i : Int32) (hs : HS h)
    (vc : Ends X dp 109 0 [.ref 93, .int i, .int 0, .int 19] [] h (fun rv h1 => ∃ r2, rv = some (.int r2) ∧ HS h1 ∧ ((condB .eq r2 0 = true → Q (some (.int (-1))) h1) ∧ (condB .eq r2 0 = false → ((condB .ge i (h1.2.1 93 58) = true → Q (some (.int (-1))) h1) ∧ (condB .ge i (h1.2.1 93 58) = false → (inB i 20 = true ∧ Q (some (.int (h1.2.1 122 i.toNatClampNeg))) h1))))))) :
    Ends X (dp + 1) 195 0 [.ref 93, .int i] [] h Q := by
  have ra : ∀ {a : Nat}, a < 1000 → a ≤ OLDB := fun h => by have := OLDB_eq; omega
  refine e_aload_n (show pAt 195 0 = some (0, .aload_n 0, 1, []) from by decide +kernel) rfl (ra (by decide)) ?_
  refine e_iload_n (show pAt 195 1 = some (1, .iload_n 1, 1, []) from by decide +kernel) rfl ?_
  refine e_iconst (c := 0) (show pAt 195 2 = some (2, .iconst 0, 1, []) from by decide +kernel) (by decide) ?_
  refine e_bipush (c := 19) (show pAt 195 3 = some (3, .bipush 19, 2, []) from by decide +kernel) (by decide) ?_
  refine Ends.call (show pAt 195 5 = some (5, .invokevirtual 206, 3, [109, 4, 0, 0, 5081, 5083, 54]) from by decide +kernel) (isRet_none rfl) rfl (call_this (show HS h from hs) rfl rfl (by decide)) (Ends.mono vc ?_)
  rintro _ h1 ⟨r2, rfl, hs_h1, vc⟩
  refine e_if (t := 28) (show pAt 195 8 = some (8, .ifCond .eq 20, 3, []) from by decide +kernel) rfl (fun c4 => ?_) (fun c4 => ?_)
  · replace vc := vc.1 c4
    refine e_iconst (c := (-1)) (show pAt 195 28 = some (28, .iconst (-1), 1, []) from by decide +kernel) (by decide) ?_
    exact e_retI (show pAt 195 29 = some (29, .ireturn, 1, []) from by decide +kernel) rfl vc
  · replace vc := vc.2 c4
    refine e_iload_n (show pAt 195 11 = some (11, .iload_n 1, 1, []) from by decide +kernel) rfl ?_
    refine e_aload_n (show pAt 195 12 = some (12, .aload_n 0, 1, []) from by decide +kernel) rfl (ra (by decide)) ?_
    refine e_gIv (v := h1.2.1 93 58) (show pAt 195 13 = some (13, .getfield 187, 3, [7, 58, 0, 4181]) from by decide +kernel) (show HS h1 from hs_h1) rfl (by decide) rfl ?_
    refine e_icmp (t := 28) (show pAt 195 16 = some (16, .if_icmp .ge 12, 3, []) from by decide +kernel) rfl (fun c5 => ?_) (fun c5 => ?_)
    · replace vc := vc.1 c5
      refine e_iconst (c := (-1)) (show pAt 195 28 = some (28, .iconst (-1), 1, []) from by decide +kernel) (by decide) ?_
      exact e_retI (show pAt 195 29 = some (29, .ireturn, 1, []) from by decide +kernel) rfl vc
    · replace vc := vc.2 c5
      refine e_aload_n (show pAt 195 19 = some (19, .aload_n 0, 1, []) from by decide +kernel) rfl (ra (by decide)) ?_
      refine e_gR (show pAt 195 20 = some (20, .getfield 190, 3, [7, 59, 0, 4182]) from by decide +kernel) (show HS h1 from hs_h1) rfl (by decide) (hs_ref (show HS h1 from hs_h1) rfl) ?_
      refine e_iload_n (show pAt 195 23 = some (23, .iload_n 1, 1, []) from by decide +kernel) rfl ?_
      obtain ⟨c6, vc⟩ := vc
      refine e_aldv (v := h1.2.1 122 i.toNatClampNeg) (show pAt 195 24 = some (24, .iaload, 1, []) from by decide +kernel) (show HS h1 from hs_h1) (by decide) c6 rfl ?_
      refine e_goto (t := 29) (show pAt 195 25 = some (25, .goto 4, 3, []) from by decide +kernel) rfl ?_
      exact e_retI (show pAt 195 29 = some (29, .ireturn, 1, []) from by decide +kernel) rfl vc

theorem w_cbeg {X : Scr} {dp : Nat} {h : Hp} {Q : Option Value → Hp → Prop} (b : Int32) (hs : HS h)
    (vc : ((condB .lt (h.2.1 51 4) 0 = true → Q none (hpI h 51 4 ((h.2.1 51 4) + 1))) ∧ (condB .lt (h.2.1 51 4) 0 = false → ((condB .ge (h.2.1 51 4) 20 = true → Q none (hpI h 51 4 ((h.2.1 51 4) + 1))) ∧ (condB .ge (h.2.1 51 4) 20 = false → (inB (h.2.1 51 4) 20 = true ∧ Q none (hpI (hpI h 52 (h.2.1 51 4).toNatClampNeg b) 51 4 ((h.2.1 51 4) + 1)))))))) :
    Ends X dp 4 0 [.ref 51, .int b] [] h Q := by
  have ra : ∀ {a : Nat}, a < 1000 → a ≤ OLDB := fun h => by have := OLDB_eq; omega
  refine e_aload_n (show pAt 4 0 = some (0, .aload_n 0, 1, []) from by decide +kernel) rfl (ra (by decide)) ?_
  refine e_gIv (v := h.2.1 51 4) (show pAt 4 1 = some (1, .getfield 43, 3, [0, 4, 0, 1225]) from by decide +kernel) (show HS h from hs) rfl (by decide) rfl ?_
  refine e_if (t := 26) (show pAt 4 4 = some (4, .ifCond .lt 22, 3, []) from by decide +kernel) rfl (fun c1 => ?_) (fun c1 => ?_)
  · replace vc := vc.1 c1
    refine e_aload_n (show pAt 4 26 = some (26, .aload_n 0, 1, []) from by decide +kernel) rfl (ra (by decide)) ?_
    refine e_dupR (show pAt 4 27 = some (27, .dup, 1, []) from by decide +kernel) ?_
    refine e_gIv (v := h.2.1 51 4) (show pAt 4 28 = some (28, .getfield 43, 3, [0, 4, 0, 1225]) from by decide +kernel) (show HS h from hs) rfl (by decide) rfl ?_
    refine e_iconst (c := 1) (show pAt 4 31 = some (31, .iconst 1, 1, []) from by decide +kernel) (by decide) ?_
    refine e_iadd (show pAt 4 32 = some (32, .iadd, 1, []) from by decide +kernel) ?_
    refine e_pI (show pAt 4 33 = some (33, .putfield 43, 3, [0, 4, 0, 1225]) from by decide +kernel) (show HS h from hs) (by decide) (Or.inl rfl) ?_
    exact e_retV (show pAt 4 36 = some (36, .return_, 1, []) from by decide +kernel) rfl vc
  · replace vc := vc.2 c1
    refine e_aload_n (show pAt 4 7 = some (7, .aload_n 0, 1, []) from by decide +kernel) rfl (ra (by decide)) ?_
    refine e_gIv (v := h.2.1 51 4) (show pAt 4 8 = some (8, .getfield 43, 3, [0, 4, 0, 1225]) from by decide +kernel) (show HS h from hs) rfl (by decide) rfl ?_
    refine e_bipush (c := 20) (show pAt 4 11 = some (11, .bipush 20, 2, []) from by decide +kernel) (by decide) ?_
    refine e_icmp (t := 26) (show pAt 4 13 = some (13, .if_icmp .ge 13, 3, []) from by decide +kernel) rfl (fun c2 => ?_) (fun c2 => ?_)
    · replace vc := vc.1 c2
      refine e_aload_n (show pAt 4 26 = some (26, .aload_n 0, 1, []) from by decide +kernel) rfl (ra (by decide)) ?_
      refine e_dupR (show pAt 4 27 = some (27, .dup, 1, []) from by decide +kernel) ?_
      refine e_gIv (v := h.2.1 51 4) (show pAt 4 28 = some (28, .getfield 43, 3, [0, 4, 0, 1225]) from by decide +kernel) (show HS h from hs) rfl (by decide) rfl ?_
      refine e_iconst (c := 1) (show pAt 4 31 = some (31, .iconst 1, 1, []) from by decide +kernel) (by decide) ?_
      refine e_iadd (show pAt 4 32 = some (32, .iadd, 1, []) from by decide +kernel) ?_
      refine e_pI (show pAt 4 33 = some (33, .putfield 43, 3, [0, 4, 0, 1225]) from by decide +kernel) (show HS h from hs) (by decide) (Or.inl rfl) ?_
      exact e_retV (show pAt 4 36 = some (36, .return_, 1, []) from by decide +kernel) rfl vc
    · replace vc := vc.2 c2
      refine e_aload_n (show pAt 4 16 = some (16, .aload_n 0, 1, []) from by decide +kernel) rfl (ra (by decide)) ?_
      refine e_gR (show pAt 4 17 = some (17, .getfield 11, 3, [0, 3, 0, 1223]) from by decide +kernel) (show HS h from hs) rfl (by decide) (hs_ref (show HS h from hs) rfl) ?_
      refine e_aload_n (show pAt 4 20 = some (20, .aload_n 0, 1, []) from by decide +kernel) rfl (ra (by decide)) ?_
      refine e_gIv (v := h.2.1 51 4) (show pAt 4 21 = some (21, .getfield 43, 3, [0, 4, 0, 1225]) from by decide +kernel) (show HS h from hs) rfl (by decide) rfl ?_
      refine e_iload_n (show pAt 4 24 = some (24, .iload_n 1, 1, []) from by decide +kernel) rfl ?_
      obtain ⟨c3, vc⟩ := vc
      refine e_ast (show pAt 4 25 = some (25, .iastore, 1, []) from by decide +kernel) (show HS h from hs) (by decide) c3 ?_
      refine e_aload_n (show pAt 4 26 = some (26, .aload_n 0, 1, []) from by decide +kernel) rfl (ra (by decide)) ?_
      refine e_dupR (show pAt 4 27 = some (27, .dup, 1, []) from by decide +kernel) ?_
      refine e_gIv (v := h.2.1 51 4) (show pAt 4 28 = some (28, .getfield 43, 3, [0, 4, 0, 1225]) from by decide +kernel) (show HS (hpI h 52 (h.2.1 51 4).toNatClampNeg b) from hs) rfl (by decide) rfl ?_
      refine e_iconst (c := 1) (show pAt 4 31 = some (31, .iconst 1, 1, []) from by decide +kernel) (by decide) ?_
      refine e_iadd (show pAt 4 32 = some (32, .iadd, 1, []) from by decide +kernel) ?_
      refine e_pI (show pAt 4 33 = some (33, .putfield 43, 3, [0, 4, 0, 1225]) from by decide +kernel) (show HS (hpI h 52 (h.2.1 51 4).toNatClampNeg b) from hs) (by decide) (Or.inl rfl) ?_
      exact e_retV (show pAt 4 36 = some (36, .return_, 1, []) from by decide +kernel) rfl vc

theorem w_mbod {X : Scr} {dp : Nat} {h : Hp} {Q : Option Value → Hp → Prop} (b : Int32) (hs : HS h)
    (vc : ((condB .ge (h.2.1 93 58) 20 = true → Q none (hpI h 93 58 ((h.2.1 93 58) + 1))) ∧ (condB .ge (h.2.1 93 58) 20 = false → (inB (h.2.1 93 58) 20 = true ∧ Q none (hpI (hpI h 122 (h.2.1 93 58).toNatClampNeg b) 93 58 ((h.2.1 93 58) + 1)))))) :
    Ends X dp 186 0 [.ref 93, .int b] [] h Q := by
  have ra : ∀ {a : Nat}, a < 1000 → a ≤ OLDB := fun h => by have := OLDB_eq; omega
  refine e_aload_n (show pAt 186 0 = some (0, .aload_n 0, 1, []) from by decide +kernel) rfl (ra (by decide)) ?_
  refine e_gIv (v := h.2.1 93 58) (show pAt 186 1 = some (1, .getfield 187, 3, [7, 58, 0, 4181]) from by decide +kernel) (show HS h from hs) rfl (by decide) rfl ?_
  refine e_bipush (c := 20) (show pAt 186 4 = some (4, .bipush 20, 2, []) from by decide +kernel) (by decide) ?_
  refine e_icmp (t := 19) (show pAt 186 6 = some (6, .if_icmp .ge 13, 3, []) from by decide +kernel) rfl (fun c1 => ?_) (fun c1 => ?_)
  · replace vc := vc.1 c1
    refine e_aload_n (show pAt 186 19 = some (19, .aload_n 0, 1, []) from by decide +kernel) rfl (ra (by decide)) ?_
    refine e_dupR (show pAt 186 20 = some (20, .dup, 1, []) from by decide +kernel) ?_
    refine e_gIv (v := h.2.1 93 58) (show pAt 186 21 = some (21, .getfield 187, 3, [7, 58, 0, 4181]) from by decide +kernel) (show HS h from hs) rfl (by decide) rfl ?_
    refine e_iconst (c := 1) (show pAt 186 24 = some (24, .iconst 1, 1, []) from by decide +kernel) (by decide) ?_
    refine e_iadd (show pAt 186 25 = some (25, .iadd, 1, []) from by decide +kernel) ?_
    refine e_pI (show pAt 186 26 = some (26, .putfield 187, 3, [7, 58, 0, 4181]) from by decide +kernel) (show HS h from hs) (by decide) (Or.inl rfl) ?_
    exact e_retV (show pAt 186 29 = some (29, .return_, 1, []) from by decide +kernel) rfl vc
  · replace vc := vc.2 c1
    refine e_aload_n (show pAt 186 9 = some (9, .aload_n 0, 1, []) from by decide +kernel) rfl (ra (by decide)) ?_
    refine e_gR (show pAt 186 10 = some (10, .getfield 190, 3, [7, 59, 0, 4182]) from by decide +kernel) (show HS h from hs) rfl (by decide) (hs_ref (show HS h from hs) rfl) ?_
    refine e_aload_n (show pAt 186 13 = some (13, .aload_n 0, 1, []) from by decide +kernel) rfl (ra (by decide)) ?_
    refine e_gIv (v := h.2.1 93 58) (show pAt 186 14 = some (14, .getfield 187, 3, [7, 58, 0, 4181]) from by decide +kernel) (show HS h from hs) rfl (by decide) rfl ?_
    refine e_iload_n (show pAt 186 17 = some (17, .iload_n 1, 1, []) from by decide +kernel) rfl ?_
    obtain ⟨c2, vc⟩ := vc
    refine e_ast (show pAt 186 18 = some (18, .iastore, 1, []) from by decide +kernel) (show HS h from hs) (by decide) c2 ?_
    refine e_aload_n (show pAt 186 19 = some (19, .aload_n 0, 1, []) from by decide +kernel) rfl (ra (by decide)) ?_
    refine e_dupR (show pAt 186 20 = some (20, .dup, 1, []) from by decide +kernel) ?_
    refine e_gIv (v := h.2.1 93 58) (show pAt 186 21 = some (21, .getfield 187, 3, [7, 58, 0, 4181]) from by decide +kernel) (show HS (hpI h 122 (h.2.1 93 58).toNatClampNeg b) from hs) rfl (by decide) rfl ?_
    refine e_iconst (c := 1) (show pAt 186 24 = some (24, .iconst 1, 1, []) from by decide +kernel) (by decide) ?_
    refine e_iadd (show pAt 186 25 = some (25, .iadd, 1, []) from by decide +kernel) ?_
    refine e_pI (show pAt 186 26 = some (26, .putfield 187, 3, [7, 58, 0, 4181]) from by decide +kernel) (show HS (hpI h 122 (h.2.1 93 58).toNatClampNeg b) from hs) (by decide) (Or.inl rfl) ?_
    exact e_retV (show pAt 186 29 = some (29, .return_, 1, []) from by decide +kernel) rfl vc

theorem w_does {X : Scr} {dp : Nat} {h : Hp} {Q : Option Value → Hp → Prop} (a : Int32) (f : Int32) (x : Int32) (d : Int32) (hs : HS h)
    (vc : Ends X dp 3 0 [.int a, .int f, .retAddr 0, .retAddr 0] [] h (fun rv h1 => ∃ r2, rv = some (.int r2) ∧ HS h1 ∧ ((condB .lt r2 0 = true → Q (some (.int 0)) h1) ∧ (condB .lt r2 0 = false → ((condB .ge r2 7 = true → Q (some (.int 0)) h1) ∧ (condB .ge r2 7 = false → ((condB .le d 40 = true → (inB ((a * 7) + r2) 21 = true ∧ (inB r2 7 = true ∧ Ends X dp 4 0 [.ref 51, .int (bodiesL.getD ((a * 7) + r2).toNatClampNeg 0)] [] h1 (fun rv h9 => rv = none ∧ HS h9 ∧ (((¬ (10 : Int) = (bodiesL.getD ((a * 7) + r2).toNatClampNeg 0).toInt ∧ ¬ (11 : Int) = (bodiesL.getD ((a * 7) + r2).toNatClampNeg 0).toInt ∧ ¬ (12 : Int) = (bodiesL.getD ((a * 7) + r2).toNatClampNeg 0).toInt ∧ ¬ (20 : Int) = (bodiesL.getD ((a * 7) + r2).toNatClampNeg 0).toInt ∧ ¬ (30 : Int) = (bodiesL.getD ((a * 7) + r2).toNatClampNeg 0).toInt ∧ ¬ (40 : Int) = (bodiesL.getD ((a * 7) + r2).toNatClampNeg 0).toInt ∧ ¬ (50 : Int) = (bodiesL.getD ((a * 7) + r2).toNatClampNeg 0).toInt ∧ ¬ (51 : Int) = (bodiesL.getD ((a * 7) + r2).toNatClampNeg 0).toInt ∧ ¬ (60 : Int) = (bodiesL.getD ((a * 7) + r2).toNatClampNeg 0).toInt ∧ ¬ (70 : Int) = (bodiesL.getD ((a * 7) + r2).toNatClampNeg 0).toInt ∧ ¬ (71 : Int) = (bodiesL.getD ((a * 7) + r2).toNatClampNeg 0).toInt) → Q (some (.int 0)) h9) ∧ ((bodiesL.getD ((a * 7) + r2).toNatClampNeg 0).toInt = 10 → Q (some (.int (x + (h9.2.1 51 0)))) h9) ∧ ((bodiesL.getD ((a * 7) + r2).toNatClampNeg 0).toInt = 11 → Ends X dp 2 0 [.ref 51, .int 0, .int (h9.2.1 51 1), .int x, .int (d + 1), .retAddr 0, .retAddr 0, .retAddr 0, .retAddr 0] [] h9 (fun rv h13 => ∃ r14, rv = some (.int r14) ∧ HS h13 ∧ Q (some (.int (r14 - (h13.2.1 51 2)))) h13)) ∧ ((bodiesL.getD ((a * 7) + r2).toNatClampNeg 0).toInt = 12 → Ends X dp 2 0 [.ref 51, .int 1, .int (h9.2.1 51 1), .int x, .int (d + 1), .retAddr 0, .retAddr 0, .retAddr 0, .retAddr 0] [] h9 (fun rv h16 => ∃ r17, rv = some (.int r17) ∧ HS h16 ∧ Q (some (.int (r17 * 2))) h16)) ∧ ((bodiesL.getD ((a * 7) + r2).toNatClampNeg 0).toInt = 20 → Ends X dp 2 0 [.ref 51, .int 1, .int (aboveL.getD r2.toNatClampNeg 0), .int x, .int (d + 1), .retAddr 0, .retAddr 0, .retAddr 0, .retAddr 0] [] h9 (fun rv h19 => ∃ r20, rv = some (.int r20) ∧ HS h19 ∧ Q (some (.int (r20 ^^^ 6))) h19)) ∧ ((bodiesL.getD ((a * 7) + r2).toNatClampNeg 0).toInt = 30 → Ends X dp 2 0 [.ref 51, .int 0, .int (aboveL.getD r2.toNatClampNeg 0), .int (x * 3), .int (d + 1), .retAddr 0, .retAddr 0, .retAddr 0, .retAddr 0] [] h9 (fun rv h22 => ∃ r23, rv = some (.int r23) ∧ HS h22 ∧ Q (some (.int r23)) h22)) ∧ ((bodiesL.getD ((a * 7) + r2).toNatClampNeg 0).toInt = 40 → Ends X dp 2 0 [.ref 51, .int 2, .int (aboveL.getD r2.toNatClampNeg 0), .int x, .int (d + 1), .retAddr 0, .retAddr 0, .retAddr 0, .retAddr 0] [] h9 (fun rv h25 => ∃ r26, rv = some (.int r26) ∧ HS h25 ∧ Ends X dp 2 0 [.ref 51, .int 1, .int (h25.2.1 51 1), .int 1, .int (d + 1), .retAddr 0, .retAddr 0, .retAddr 0, .retAddr 0] [] h25 (fun rv h28 => ∃ r29, rv = some (.int r29) ∧ HS h28 ∧ Q (some (.int (r26 + r29))) h28))) ∧ ((bodiesL.getD ((a * 7) + r2).toNatClampNeg 0).toInt = 50 → Ends X dp 2 0 [.ref 51, .int 0, .int (aboveL.getD r2.toNatClampNeg 0), .int x, .int (d + 1), .retAddr 0, .retAddr 0, .retAddr 0, .retAddr 0] [] h9 (fun rv h31 => ∃ r32, rv = some (.int r32) ∧ HS h31 ∧ Q (some (.int (-r32))) h31)) ∧ ((bodiesL.getD ((a * 7) + r2).toNatClampNeg 0).toInt = 51 → Ends X dp 2 0 [.ref 51, .int 1, .int (aboveL.getD r2.toNatClampNeg 0), .int (x + 1), .int (d + 1), .retAddr 0, .retAddr 0, .retAddr 0, .retAddr 0] [] h9 (fun rv h34 => ∃ r35, rv = some (.int r35) ∧ HS h34 ∧ Q (some (.int r35)) h34)) ∧ ((bodiesL.getD ((a * 7) + r2).toNatClampNeg 0).toInt = 60 → Ends X dp 2 0 [.ref 51, .int 2, .int (aboveL.getD r2.toNatClampNeg 0), .int (x - (h9.2.1 51 0)), .int (d + 1), .retAddr 0, .retAddr 0, .retAddr 0, .retAddr 0] [] h9 (fun rv h37 => ∃ r38, rv = some (.int r38) ∧ HS h37 ∧ Q (some (.int r38)) h37)) ∧ ((bodiesL.getD ((a * 7) + r2).toNatClampNeg 0).toInt = 70 → Ends X dp 2 0 [.ref 51, .int 1, .int (aboveL.getD r2.toNatClampNeg 0), .int x, .int (d + 1), .retAddr 0, .retAddr 0, .retAddr 0, .retAddr 0] [] h9 (fun rv h40 => ∃ r41, rv = some (.int r41) ∧ HS h40 ∧ Ends X dp 2 0 [.ref 51, .int 0, .int (aboveL.getD r2.toNatClampNeg 0), .int 2, .int (d + 1), .retAddr 0, .retAddr 0, .retAddr 0, .retAddr 0] [] h40 (fun rv h43 => ∃ r44, rv = some (.int r44) ∧ HS h43 ∧ Q (some (.int (r41 + r44))) h43))) ∧ ((bodiesL.getD ((a * 7) + r2).toNatClampNeg 0).toInt = 71 → Ends X dp 2 0 [.ref 51, .int 0, .int (aboveL.getD r2.toNatClampNeg 0), .int x, .int (d + 1), .retAddr 0, .retAddr 0, .retAddr 0, .retAddr 0] [] h9 (fun rv h46 => ∃ r47, rv = some (.int r47) ∧ HS h46 ∧ Q (some (.int (r47 ^^^ (h46.2.1 51 2)))) h46))))))) ∧ (condB .le d 40 = false → Q (some (.int 0)) h1)))))))) :
    Ends X (dp + 1) 2 0 [.ref 51, .int a, .int f, .int x, .int d, .retAddr 0, .retAddr 0, .retAddr 0, .retAddr 0] [] h Q := by
  have ra : ∀ {a : Nat}, a < 1000 → a ≤ OLDB := fun h => by have := OLDB_eq; omega
  refine e_iload_n (show pAt 2 0 = some (0, .iload_n 1, 1, []) from by decide +kernel) rfl ?_
  refine e_iload_n (show pAt 2 1 = some (1, .iload_n 2, 1, []) from by decide +kernel) rfl ?_
  refine Ends.call (show pAt 2 2 = some (2, .invokestatic 15, 3, [3, 2, 2, 0, 4061, 4062, 0]) from by decide +kernel) (isRet_none rfl) rfl rfl (Ends.mono vc ?_)
  rintro _ h1 ⟨r2, rfl, hs_h1, vc⟩
  refine e_istore (show pAt 2 5 = some (5, .istore 5, 2, []) from by decide +kernel) ⟨Nat.le_of_ble_eq_true rfl, rfl⟩ rfl ?_
  refine e_iload (show pAt 2 7 = some (7, .iload 5, 2, []) from by decide +kernel) rfl ?_
  refine e_if (t := 26) (show pAt 2 9 = some (9, .ifCond .lt 17, 3, []) from by decide +kernel) rfl (fun c4 => ?_) (fun c4 => ?_)
  · replace vc := vc.1 c4
    refine e_iconst (c := 0) (show pAt 2 26 = some (26, .iconst 0, 1, []) from by decide +kernel) (by decide) ?_
    exact e_retI (show pAt 2 27 = some (27, .ireturn, 1, []) from by decide +kernel) rfl vc
  · replace vc := vc.2 c4
    refine e_iload (show pAt 2 12 = some (12, .iload 5, 2, []) from by decide +kernel) rfl ?_
    refine e_bipush (c := 7) (show pAt 2 14 = some (14, .bipush 7, 2, []) from by decide +kernel) (by decide) ?_
    refine e_icmp (t := 26) (show pAt 2 16 = some (16, .if_icmp .ge 10, 3, []) from by decide +kernel) rfl (fun c5 => ?_) (fun c5 => ?_)
    · replace vc := vc.1 c5
      refine e_iconst (c := 0) (show pAt 2 26 = some (26, .iconst 0, 1, []) from by decide +kernel) (by decide) ?_
      exact e_retI (show pAt 2 27 = some (27, .ireturn, 1, []) from by decide +kernel) rfl vc
    · replace vc := vc.2 c5
      refine e_iload (show pAt 2 19 = some (19, .iload 4, 2, []) from by decide +kernel) rfl ?_
      refine e_bipush (c := 40) (show pAt 2 21 = some (21, .bipush 40, 2, []) from by decide +kernel) (by decide) ?_
      refine e_icmp (t := 28) (show pAt 2 23 = some (23, .if_icmp .le 5, 3, []) from by decide +kernel) rfl (fun c6 => ?_) (fun c6 => ?_)
      · replace vc := vc.1 c6
        refine e_gs2 (show pAt 2 28 = some (28, .getstatic 19, 3, [1, 0, 4064]) from by decide +kernel) ?_
        refine e_iload_n (show pAt 2 31 = some (31, .iload_n 1, 1, []) from by decide +kernel) rfl ?_
        refine e_bipush (c := 7) (show pAt 2 32 = some (32, .bipush 7, 2, []) from by decide +kernel) (by decide) ?_
        refine e_imul (show pAt 2 34 = some (34, .imul, 1, []) from by decide +kernel) ?_
        refine e_iload (show pAt 2 35 = some (35, .iload 5, 2, []) from by decide +kernel) rfl ?_
        refine e_iadd (show pAt 2 37 = some (37, .iadd, 1, []) from by decide +kernel) ?_
        obtain ⟨c7, vc⟩ := vc
        refine e_so2 (show pAt 2 38 = some (38, .iaload, 1, []) from by decide +kernel) c7 ?_
        refine e_istore (show pAt 2 39 = some (39, .istore 6, 2, []) from by decide +kernel) ⟨Nat.le_of_ble_eq_true rfl, rfl⟩ rfl ?_
        refine e_gs1 (show pAt 2 41 = some (41, .getstatic 22, 3, [0, 1, 4066]) from by decide +kernel) ?_
        refine e_iload (show pAt 2 44 = some (44, .iload 5, 2, []) from by decide +kernel) rfl ?_
        obtain ⟨c8, vc⟩ := vc
        refine e_so1 (show pAt 2 46 = some (46, .iaload, 1, []) from by decide +kernel) c8 ?_
        refine e_istore (show pAt 2 47 = some (47, .istore 7, 2, []) from by decide +kernel) ⟨Nat.le_of_ble_eq_true rfl, rfl⟩ rfl ?_
        refine e_iload (show pAt 2 49 = some (49, .iload 4, 2, []) from by decide +kernel) rfl ?_
        refine e_iconst (c := 1) (show pAt 2 51 = some (51, .iconst 1, 1, []) from by decide +kernel) (by decide) ?_
        refine e_iadd (show pAt 2 52 = some (52, .iadd, 1, []) from by decide +kernel) ?_
        refine e_istore (show pAt 2 53 = some (53, .istore 8, 2, []) from by decide +kernel) ⟨Nat.le_of_ble_eq_true rfl, rfl⟩ rfl ?_
        refine e_aload_n (show pAt 2 55 = some (55, .aload_n 0, 1, []) from by decide +kernel) rfl (ra (by decide)) ?_
        refine e_iload (show pAt 2 56 = some (56, .iload 6, 2, []) from by decide +kernel) rfl ?_
        refine Ends.call (show pAt 2 58 = some (58, .invokevirtual 25, 3, [4, 2, 0, 0, 4068, 4070, 51]) from by decide +kernel) (isRet_none rfl) rfl (call_this (show HS h1 from hs_h1) rfl rfl (by decide)) (Ends.mono vc ?_)
        rintro _ h9 ⟨rfl, hs_h9, vc⟩
        refine e_iload (show pAt 2 61 = some (61, .iload 6, 2, []) from by decide +kernel) rfl ?_
        rcases (show (¬ (10 : Int) = (bodiesL.getD ((a * 7) + r2).toNatClampNeg 0).toInt ∧ ¬ (11 : Int) = (bodiesL.getD ((a * 7) + r2).toNatClampNeg 0).toInt ∧ ¬ (12 : Int) = (bodiesL.getD ((a * 7) + r2).toNatClampNeg 0).toInt ∧ ¬ (20 : Int) = (bodiesL.getD ((a * 7) + r2).toNatClampNeg 0).toInt ∧ ¬ (30 : Int) = (bodiesL.getD ((a * 7) + r2).toNatClampNeg 0).toInt ∧ ¬ (40 : Int) = (bodiesL.getD ((a * 7) + r2).toNatClampNeg 0).toInt ∧ ¬ (50 : Int) = (bodiesL.getD ((a * 7) + r2).toNatClampNeg 0).toInt ∧ ¬ (51 : Int) = (bodiesL.getD ((a * 7) + r2).toNatClampNeg 0).toInt ∧ ¬ (60 : Int) = (bodiesL.getD ((a * 7) + r2).toNatClampNeg 0).toInt ∧ ¬ (70 : Int) = (bodiesL.getD ((a * 7) + r2).toNatClampNeg 0).toInt ∧ ¬ (71 : Int) = (bodiesL.getD ((a * 7) + r2).toNatClampNeg 0).toInt) ∨ (bodiesL.getD ((a * 7) + r2).toNatClampNeg 0).toInt = 10 ∨ (bodiesL.getD ((a * 7) + r2).toNatClampNeg 0).toInt = 11 ∨ (bodiesL.getD ((a * 7) + r2).toNatClampNeg 0).toInt = 12 ∨ (bodiesL.getD ((a * 7) + r2).toNatClampNeg 0).toInt = 20 ∨ (bodiesL.getD ((a * 7) + r2).toNatClampNeg 0).toInt = 30 ∨ (bodiesL.getD ((a * 7) + r2).toNatClampNeg 0).toInt = 40 ∨ (bodiesL.getD ((a * 7) + r2).toNatClampNeg 0).toInt = 50 ∨ (bodiesL.getD ((a * 7) + r2).toNatClampNeg 0).toInt = 51 ∨ (bodiesL.getD ((a * 7) + r2).toNatClampNeg 0).toInt = 60 ∨ (bodiesL.getD ((a * 7) + r2).toNatClampNeg 0).toInt = 70 ∨ (bodiesL.getD ((a * 7) + r2).toNatClampNeg 0).toInt = 71 from by omega) with c12 | c12 | c12 | c12 | c12 | c12 | c12 | c12 | c12 | c12 | c12 | c12
        · refine e_ls (t := 330) (show pAt 2 63 = some (63, .lookupswitch 267 #[(10, 97), (11, 104), (12, 122), (20, 137), (30, 151), (40, 164), (50, 188), (51, 200), (60, 213), (70, 229), (71, 251)], 97, []) from by decide +kernel) (by decide) (ls_off (b := 267) (by simp [Op.lookupswitch.offset, c12, -List.getD_eq_getElem?_getD]) rfl) ?_
          replace vc := vc.1 c12
          refine e_iconst (c := 0) (show pAt 2 330 = some (330, .iconst 0, 1, []) from by decide +kernel) (by decide) ?_
          exact e_retI (show pAt 2 331 = some (331, .ireturn, 1, []) from by decide +kernel) rfl vc
        · refine e_ls (t := 160) (show pAt 2 63 = some (63, .lookupswitch 267 #[(10, 97), (11, 104), (12, 122), (20, 137), (30, 151), (40, 164), (50, 188), (51, 200), (60, 213), (70, 229), (71, 251)], 97, []) from by decide +kernel) (by decide) (ls_off (b := 97) (by simp [Op.lookupswitch.offset, c12, -List.getD_eq_getElem?_getD]) rfl) ?_
          replace vc := vc.2.1 c12
          refine e_iload_n (show pAt 2 160 = some (160, .iload_n 3, 1, []) from by decide +kernel) rfl ?_
          refine e_aload_n (show pAt 2 161 = some (161, .aload_n 0, 1, []) from by decide +kernel) rfl (ra (by decide)) ?_
          refine e_gIv (v := h9.2.1 51 0) (show pAt 2 162 = some (162, .getfield 29, 3, [0, 0, 0, 1217]) from by decide +kernel) (show HS h9 from hs_h9) rfl (by decide) rfl ?_
          refine e_iadd (show pAt 2 165 = some (165, .iadd, 1, []) from by decide +kernel) ?_
          exact e_retI (show pAt 2 166 = some (166, .ireturn, 1, []) from by decide +kernel) rfl vc
        · refine e_ls (t := 167) (show pAt 2 63 = some (63, .lookupswitch 267 #[(10, 97), (11, 104), (12, 122), (20, 137), (30, 151), (40, 164), (50, 188), (51, 200), (60, 213), (70, 229), (71, 251)], 97, []) from by decide +kernel) (by decide) (ls_off (b := 104) (by simp [Op.lookupswitch.offset, c12, -List.getD_eq_getElem?_getD]) rfl) ?_
          replace vc := vc.2.2.1 c12
          refine e_aload_n (show pAt 2 167 = some (167, .aload_n 0, 1, []) from by decide +kernel) rfl (ra (by decide)) ?_
          refine e_iconst (c := 0) (show pAt 2 168 = some (168, .iconst 0, 1, []) from by decide +kernel) (by decide) ?_
          refine e_aload_n (show pAt 2 169 = some (169, .aload_n 0, 1, []) from by decide +kernel) rfl (ra (by decide)) ?_
          refine e_gIv (v := h9.2.1 51 1) (show pAt 2 170 = some (170, .getfield 33, 3, [0, 1, 0, 1219]) from by decide +kernel) (show HS h9 from hs_h9) rfl (by decide) rfl ?_
          refine e_iload_n (show pAt 2 173 = some (173, .iload_n 3, 1, []) from by decide +kernel) rfl ?_
          refine e_iload (show pAt 2 174 = some (174, .iload 8, 2, []) from by decide +kernel) rfl ?_
          refine Ends.call (show pAt 2 176 = some (176, .invokevirtual 36, 3, [2, 5, 0, 0, 4072, 4059, 50]) from by decide +kernel) (isRet_none rfl) rfl (call_this (show HS h9 from hs_h9) rfl rfl (by decide)) (Ends.mono vc ?_)
          rintro _ h13 ⟨r14, rfl, hs_h13, vc⟩
          refine e_aload_n (show pAt 2 179 = some (179, .aload_n 0, 1, []) from by decide +kernel) rfl (ra (by decide)) ?_
          refine e_gIv (v := h13.2.1 51 2) (show pAt 2 180 = some (180, .getfield 40, 3, [0, 2, 0, 1221]) from by decide +kernel) (show HS h13 from hs_h13) rfl (by decide) rfl ?_
          refine e_isub (show pAt 2 183 = some (183, .isub, 1, []) from by decide +kernel) ?_
          exact e_retI (show pAt 2 184 = some (184, .ireturn, 1, []) from by decide +kernel) rfl vc
        · refine e_ls (t := 185) (show pAt 2 63 = some (63, .lookupswitch 267 #[(10, 97), (11, 104), (12, 122), (20, 137), (30, 151), (40, 164), (50, 188), (51, 200), (60, 213), (70, 229), (71, 251)], 97, []) from by decide +kernel) (by decide) (ls_off (b := 122) (by simp [Op.lookupswitch.offset, c12, -List.getD_eq_getElem?_getD]) rfl) ?_
          replace vc := vc.2.2.2.1 c12
          refine e_aload_n (show pAt 2 185 = some (185, .aload_n 0, 1, []) from by decide +kernel) rfl (ra (by decide)) ?_
          refine e_iconst (c := 1) (show pAt 2 186 = some (186, .iconst 1, 1, []) from by decide +kernel) (by decide) ?_
          refine e_aload_n (show pAt 2 187 = some (187, .aload_n 0, 1, []) from by decide +kernel) rfl (ra (by decide)) ?_
          refine e_gIv (v := h9.2.1 51 1) (show pAt 2 188 = some (188, .getfield 33, 3, [0, 1, 0, 1219]) from by decide +kernel) (show HS h9 from hs_h9) rfl (by decide) rfl ?_
          refine e_iload_n (show pAt 2 191 = some (191, .iload_n 3, 1, []) from by decide +kernel) rfl ?_
          refine e_iload (show pAt 2 192 = some (192, .iload 8, 2, []) from by decide +kernel) rfl ?_
          refine Ends.call (show pAt 2 194 = some (194, .invokevirtual 36, 3, [2, 5, 0, 0, 4072, 4059, 50]) from by decide +kernel) (isRet_none rfl) rfl (call_this (show HS h9 from hs_h9) rfl rfl (by decide)) (Ends.mono vc ?_)
          rintro _ h16 ⟨r17, rfl, hs_h16, vc⟩
          refine e_iconst (c := 2) (show pAt 2 197 = some (197, .iconst 2, 1, []) from by decide +kernel) (by decide) ?_
          refine e_imul (show pAt 2 198 = some (198, .imul, 1, []) from by decide +kernel) ?_
          exact e_retI (show pAt 2 199 = some (199, .ireturn, 1, []) from by decide +kernel) rfl vc
        · refine e_ls (t := 200) (show pAt 2 63 = some (63, .lookupswitch 267 #[(10, 97), (11, 104), (12, 122), (20, 137), (30, 151), (40, 164), (50, 188), (51, 200), (60, 213), (70, 229), (71, 251)], 97, []) from by decide +kernel) (by decide) (ls_off (b := 137) (by simp [Op.lookupswitch.offset, c12, -List.getD_eq_getElem?_getD]) rfl) ?_
          replace vc := vc.2.2.2.2.1 c12
          refine e_aload_n (show pAt 2 200 = some (200, .aload_n 0, 1, []) from by decide +kernel) rfl (ra (by decide)) ?_
          refine e_iconst (c := 1) (show pAt 2 201 = some (201, .iconst 1, 1, []) from by decide +kernel) (by decide) ?_
          refine e_iload (show pAt 2 202 = some (202, .iload 7, 2, []) from by decide +kernel) rfl ?_
          refine e_iload_n (show pAt 2 204 = some (204, .iload_n 3, 1, []) from by decide +kernel) rfl ?_
          refine e_iload (show pAt 2 205 = some (205, .iload 8, 2, []) from by decide +kernel) rfl ?_
          refine Ends.call (show pAt 2 207 = some (207, .invokevirtual 36, 3, [2, 5, 0, 0, 4072, 4059, 50]) from by decide +kernel) (isRet_none rfl) rfl (call_this (show HS h9 from hs_h9) rfl rfl (by decide)) (Ends.mono vc ?_)
          rintro _ h19 ⟨r20, rfl, hs_h19, vc⟩
          refine e_bipush (c := 6) (show pAt 2 210 = some (210, .bipush 6, 2, []) from by decide +kernel) (by decide) ?_
          refine e_ixor (show pAt 2 212 = some (212, .ixor, 1, []) from by decide +kernel) ?_
          exact e_retI (show pAt 2 213 = some (213, .ireturn, 1, []) from by decide +kernel) rfl vc
        · refine e_ls (t := 214) (show pAt 2 63 = some (63, .lookupswitch 267 #[(10, 97), (11, 104), (12, 122), (20, 137), (30, 151), (40, 164), (50, 188), (51, 200), (60, 213), (70, 229), (71, 251)], 97, []) from by decide +kernel) (by decide) (ls_off (b := 151) (by simp [Op.lookupswitch.offset, c12, -List.getD_eq_getElem?_getD]) rfl) ?_
          replace vc := vc.2.2.2.2.2.1 c12
          refine e_aload_n (show pAt 2 214 = some (214, .aload_n 0, 1, []) from by decide +kernel) rfl (ra (by decide)) ?_
          refine e_iconst (c := 0) (show pAt 2 215 = some (215, .iconst 0, 1, []) from by decide +kernel) (by decide) ?_
          refine e_iload (show pAt 2 216 = some (216, .iload 7, 2, []) from by decide +kernel) rfl ?_
          refine e_iload_n (show pAt 2 218 = some (218, .iload_n 3, 1, []) from by decide +kernel) rfl ?_
          refine e_iconst (c := 3) (show pAt 2 219 = some (219, .iconst 3, 1, []) from by decide +kernel) (by decide) ?_
          refine e_imul (show pAt 2 220 = some (220, .imul, 1, []) from by decide +kernel) ?_
          refine e_iload (show pAt 2 221 = some (221, .iload 8, 2, []) from by decide +kernel) rfl ?_
          refine Ends.call (show pAt 2 223 = some (223, .invokevirtual 36, 3, [2, 5, 0, 0, 4072, 4059, 50]) from by decide +kernel) (isRet_none rfl) rfl (call_this (show HS h9 from hs_h9) rfl rfl (by decide)) (Ends.mono vc ?_)
          rintro _ h22 ⟨r23, rfl, hs_h22, vc⟩
          exact e_retI (show pAt 2 226 = some (226, .ireturn, 1, []) from by decide +kernel) rfl vc
        · refine e_ls (t := 227) (show pAt 2 63 = some (63, .lookupswitch 267 #[(10, 97), (11, 104), (12, 122), (20, 137), (30, 151), (40, 164), (50, 188), (51, 200), (60, 213), (70, 229), (71, 251)], 97, []) from by decide +kernel) (by decide) (ls_off (b := 164) (by simp [Op.lookupswitch.offset, c12, -List.getD_eq_getElem?_getD]) rfl) ?_
          replace vc := vc.2.2.2.2.2.2.1 c12
          refine e_aload_n (show pAt 2 227 = some (227, .aload_n 0, 1, []) from by decide +kernel) rfl (ra (by decide)) ?_
          refine e_iconst (c := 2) (show pAt 2 228 = some (228, .iconst 2, 1, []) from by decide +kernel) (by decide) ?_
          refine e_iload (show pAt 2 229 = some (229, .iload 7, 2, []) from by decide +kernel) rfl ?_
          refine e_iload_n (show pAt 2 231 = some (231, .iload_n 3, 1, []) from by decide +kernel) rfl ?_
          refine e_iload (show pAt 2 232 = some (232, .iload 8, 2, []) from by decide +kernel) rfl ?_
          refine Ends.call (show pAt 2 234 = some (234, .invokevirtual 36, 3, [2, 5, 0, 0, 4072, 4059, 50]) from by decide +kernel) (isRet_none rfl) rfl (call_this (show HS h9 from hs_h9) rfl rfl (by decide)) (Ends.mono vc ?_)
          rintro _ h25 ⟨r26, rfl, hs_h25, vc⟩
          refine e_aload_n (show pAt 2 237 = some (237, .aload_n 0, 1, []) from by decide +kernel) rfl (ra (by decide)) ?_
          refine e_iconst (c := 1) (show pAt 2 238 = some (238, .iconst 1, 1, []) from by decide +kernel) (by decide) ?_
          refine e_aload_n (show pAt 2 239 = some (239, .aload_n 0, 1, []) from by decide +kernel) rfl (ra (by decide)) ?_
          refine e_gIv (v := h25.2.1 51 1) (show pAt 2 240 = some (240, .getfield 33, 3, [0, 1, 0, 1219]) from by decide +kernel) (show HS h25 from hs_h25) rfl (by decide) rfl ?_
          refine e_iconst (c := 1) (show pAt 2 243 = some (243, .iconst 1, 1, []) from by decide +kernel) (by decide) ?_
          refine e_iload (show pAt 2 244 = some (244, .iload 8, 2, []) from by decide +kernel) rfl ?_
          refine Ends.call (show pAt 2 246 = some (246, .invokevirtual 36, 3, [2, 5, 0, 0, 4072, 4059, 50]) from by decide +kernel) (isRet_none rfl) rfl (call_this (show HS h25 from hs_h25) rfl rfl (by decide)) (Ends.mono vc ?_)
          rintro _ h28 ⟨r29, rfl, hs_h28, vc⟩
          refine e_iadd (show pAt 2 249 = some (249, .iadd, 1, []) from by decide +kernel) ?_
          exact e_retI (show pAt 2 250 = some (250, .ireturn, 1, []) from by decide +kernel) rfl vc
        · refine e_ls (t := 251) (show pAt 2 63 = some (63, .lookupswitch 267 #[(10, 97), (11, 104), (12, 122), (20, 137), (30, 151), (40, 164), (50, 188), (51, 200), (60, 213), (70, 229), (71, 251)], 97, []) from by decide +kernel) (by decide) (ls_off (b := 188) (by simp [Op.lookupswitch.offset, c12, -List.getD_eq_getElem?_getD]) rfl) ?_
          replace vc := vc.2.2.2.2.2.2.2.1 c12
          refine e_aload_n (show pAt 2 251 = some (251, .aload_n 0, 1, []) from by decide +kernel) rfl (ra (by decide)) ?_
          refine e_iconst (c := 0) (show pAt 2 252 = some (252, .iconst 0, 1, []) from by decide +kernel) (by decide) ?_
          refine e_iload (show pAt 2 253 = some (253, .iload 7, 2, []) from by decide +kernel) rfl ?_
          refine e_iload_n (show pAt 2 255 = some (255, .iload_n 3, 1, []) from by decide +kernel) rfl ?_
          refine e_iload (show pAt 2 256 = some (256, .iload 8, 2, []) from by decide +kernel) rfl ?_
          refine Ends.call (show pAt 2 258 = some (258, .invokevirtual 36, 3, [2, 5, 0, 0, 4072, 4059, 50]) from by decide +kernel) (isRet_none rfl) rfl (call_this (show HS h9 from hs_h9) rfl rfl (by decide)) (Ends.mono vc ?_)
          rintro _ h31 ⟨r32, rfl, hs_h31, vc⟩
          refine e_ineg (show pAt 2 261 = some (261, .ineg, 1, []) from by decide +kernel) ?_
          exact e_retI (show pAt 2 262 = some (262, .ireturn, 1, []) from by decide +kernel) rfl vc
        · refine e_ls (t := 263) (show pAt 2 63 = some (63, .lookupswitch 267 #[(10, 97), (11, 104), (12, 122), (20, 137), (30, 151), (40, 164), (50, 188), (51, 200), (60, 213), (70, 229), (71, 251)], 97, []) from by decide +kernel) (by decide) (ls_off (b := 200) (by simp [Op.lookupswitch.offset, c12, -List.getD_eq_getElem?_getD]) rfl) ?_
          replace vc := vc.2.2.2.2.2.2.2.2.1 c12
          refine e_aload_n (show pAt 2 263 = some (263, .aload_n 0, 1, []) from by decide +kernel) rfl (ra (by decide)) ?_
          refine e_iconst (c := 1) (show pAt 2 264 = some (264, .iconst 1, 1, []) from by decide +kernel) (by decide) ?_
          refine e_iload (show pAt 2 265 = some (265, .iload 7, 2, []) from by decide +kernel) rfl ?_
          refine e_iload_n (show pAt 2 267 = some (267, .iload_n 3, 1, []) from by decide +kernel) rfl ?_
          refine e_iconst (c := 1) (show pAt 2 268 = some (268, .iconst 1, 1, []) from by decide +kernel) (by decide) ?_
          refine e_iadd (show pAt 2 269 = some (269, .iadd, 1, []) from by decide +kernel) ?_
          refine e_iload (show pAt 2 270 = some (270, .iload 8, 2, []) from by decide +kernel) rfl ?_
          refine Ends.call (show pAt 2 272 = some (272, .invokevirtual 36, 3, [2, 5, 0, 0, 4072, 4059, 50]) from by decide +kernel) (isRet_none rfl) rfl (call_this (show HS h9 from hs_h9) rfl rfl (by decide)) (Ends.mono vc ?_)
          rintro _ h34 ⟨r35, rfl, hs_h34, vc⟩
          exact e_retI (show pAt 2 275 = some (275, .ireturn, 1, []) from by decide +kernel) rfl vc
        · refine e_ls (t := 276) (show pAt 2 63 = some (63, .lookupswitch 267 #[(10, 97), (11, 104), (12, 122), (20, 137), (30, 151), (40, 164), (50, 188), (51, 200), (60, 213), (70, 229), (71, 251)], 97, []) from by decide +kernel) (by decide) (ls_off (b := 213) (by simp [Op.lookupswitch.offset, c12, -List.getD_eq_getElem?_getD]) rfl) ?_
          replace vc := vc.2.2.2.2.2.2.2.2.2.1 c12
          refine e_aload_n (show pAt 2 276 = some (276, .aload_n 0, 1, []) from by decide +kernel) rfl (ra (by decide)) ?_
          refine e_iconst (c := 2) (show pAt 2 277 = some (277, .iconst 2, 1, []) from by decide +kernel) (by decide) ?_
          refine e_iload (show pAt 2 278 = some (278, .iload 7, 2, []) from by decide +kernel) rfl ?_
          refine e_iload_n (show pAt 2 280 = some (280, .iload_n 3, 1, []) from by decide +kernel) rfl ?_
          refine e_aload_n (show pAt 2 281 = some (281, .aload_n 0, 1, []) from by decide +kernel) rfl (ra (by decide)) ?_
          refine e_gIv (v := h9.2.1 51 0) (show pAt 2 282 = some (282, .getfield 29, 3, [0, 0, 0, 1217]) from by decide +kernel) (show HS h9 from hs_h9) rfl (by decide) rfl ?_
          refine e_isub (show pAt 2 285 = some (285, .isub, 1, []) from by decide +kernel) ?_
          refine e_iload (show pAt 2 286 = some (286, .iload 8, 2, []) from by decide +kernel) rfl ?_
          refine Ends.call (show pAt 2 288 = some (288, .invokevirtual 36, 3, [2, 5, 0, 0, 4072, 4059, 50]) from by decide +kernel) (isRet_none rfl) rfl (call_this (show HS h9 from hs_h9) rfl rfl (by decide)) (Ends.mono vc ?_)
          rintro _ h37 ⟨r38, rfl, hs_h37, vc⟩
          exact e_retI (show pAt 2 291 = some (291, .ireturn, 1, []) from by decide +kernel) rfl vc
        · refine e_ls (t := 292) (show pAt 2 63 = some (63, .lookupswitch 267 #[(10, 97), (11, 104), (12, 122), (20, 137), (30, 151), (40, 164), (50, 188), (51, 200), (60, 213), (70, 229), (71, 251)], 97, []) from by decide +kernel) (by decide) (ls_off (b := 229) (by simp [Op.lookupswitch.offset, c12, -List.getD_eq_getElem?_getD]) rfl) ?_
          replace vc := vc.2.2.2.2.2.2.2.2.2.2.1 c12
          refine e_aload_n (show pAt 2 292 = some (292, .aload_n 0, 1, []) from by decide +kernel) rfl (ra (by decide)) ?_
          refine e_iconst (c := 1) (show pAt 2 293 = some (293, .iconst 1, 1, []) from by decide +kernel) (by decide) ?_
          refine e_iload (show pAt 2 294 = some (294, .iload 7, 2, []) from by decide +kernel) rfl ?_
          refine e_iload_n (show pAt 2 296 = some (296, .iload_n 3, 1, []) from by decide +kernel) rfl ?_
          refine e_iload (show pAt 2 297 = some (297, .iload 8, 2, []) from by decide +kernel) rfl ?_
          refine Ends.call (show pAt 2 299 = some (299, .invokevirtual 36, 3, [2, 5, 0, 0, 4072, 4059, 50]) from by decide +kernel) (isRet_none rfl) rfl (call_this (show HS h9 from hs_h9) rfl rfl (by decide)) (Ends.mono vc ?_)
          rintro _ h40 ⟨r41, rfl, hs_h40, vc⟩
          refine e_aload_n (show pAt 2 302 = some (302, .aload_n 0, 1, []) from by decide +kernel) rfl (ra (by decide)) ?_
          refine e_iconst (c := 0) (show pAt 2 303 = some (303, .iconst 0, 1, []) from by decide +kernel) (by decide) ?_
          refine e_iload (show pAt 2 304 = some (304, .iload 7, 2, []) from by decide +kernel) rfl ?_
          refine e_iconst (c := 2) (show pAt 2 306 = some (306, .iconst 2, 1, []) from by decide +kernel) (by decide) ?_
          refine e_iload (show pAt 2 307 = some (307, .iload 8, 2, []) from by decide +kernel) rfl ?_
          refine Ends.call (show pAt 2 309 = some (309, .invokevirtual 36, 3, [2, 5, 0, 0, 4072, 4059, 50]) from by decide +kernel) (isRet_none rfl) rfl (call_this (show HS h40 from hs_h40) rfl rfl (by decide)) (Ends.mono vc ?_)
          rintro _ h43 ⟨r44, rfl, hs_h43, vc⟩
          refine e_iadd (show pAt 2 312 = some (312, .iadd, 1, []) from by decide +kernel) ?_
          exact e_retI (show pAt 2 313 = some (313, .ireturn, 1, []) from by decide +kernel) rfl vc
        · refine e_ls (t := 314) (show pAt 2 63 = some (63, .lookupswitch 267 #[(10, 97), (11, 104), (12, 122), (20, 137), (30, 151), (40, 164), (50, 188), (51, 200), (60, 213), (70, 229), (71, 251)], 97, []) from by decide +kernel) (by decide) (ls_off (b := 251) (by simp [Op.lookupswitch.offset, c12, -List.getD_eq_getElem?_getD]) rfl) ?_
          replace vc := vc.2.2.2.2.2.2.2.2.2.2.2 c12
          refine e_aload_n (show pAt 2 314 = some (314, .aload_n 0, 1, []) from by decide +kernel) rfl (ra (by decide)) ?_
          refine e_iconst (c := 0) (show pAt 2 315 = some (315, .iconst 0, 1, []) from by decide +kernel) (by decide) ?_
          refine e_iload (show pAt 2 316 = some (316, .iload 7, 2, []) from by decide +kernel) rfl ?_
          refine e_iload_n (show pAt 2 318 = some (318, .iload_n 3, 1, []) from by decide +kernel) rfl ?_
          refine e_iload (show pAt 2 319 = some (319, .iload 8, 2, []) from by decide +kernel) rfl ?_
          refine Ends.call (show pAt 2 321 = some (321, .invokevirtual 36, 3, [2, 5, 0, 0, 4072, 4059, 50]) from by decide +kernel) (isRet_none rfl) rfl (call_this (show HS h9 from hs_h9) rfl rfl (by decide)) (Ends.mono vc ?_)
          rintro _ h46 ⟨r47, rfl, hs_h46, vc⟩
          refine e_aload_n (show pAt 2 324 = some (324, .aload_n 0, 1, []) from by decide +kernel) rfl (ra (by decide)) ?_
          refine e_gIv (v := h46.2.1 51 2) (show pAt 2 325 = some (325, .getfield 40, 3, [0, 2, 0, 1221]) from by decide +kernel) (show HS h46 from hs_h46) rfl (by decide) rfl ?_
          refine e_ixor (show pAt 2 328 = some (328, .ixor, 1, []) from by decide +kernel) ?_
          exact e_retI (show pAt 2 329 = some (329, .ireturn, 1, []) from by decide +kernel) rfl vc
      · replace vc := vc.2 c6
        refine e_iconst (c := 0) (show pAt 2 26 = some (26, .iconst 0, 1, []) from by decide +kernel) (by decide) ?_
        exact e_retI (show pAt 2 27 = some (27, .ireturn, 1, []) from by decide +kernel) rfl vc

theorem w_cact {X : Scr} {dp : Nat} {h : Hp} {Q : Option Value → Hp → Prop} (p : Int32) (a : Int32) (x : Int32) (hs : HS h)
    (vc : Ends X dp 26 0 [.ref 1, .int p] [] (hpI h 51 4 0) (fun rv h1 => ∃ r2, rv = some (.int r2) ∧ HS h1 ∧ ((condB .eq r2 0 = true → Q (some (.int 0)) h1) ∧ (condB .eq r2 0 = false → ((condB .lt a 0 = true → Q (some (.int 0)) h1) ∧ (condB .lt a 0 = false → ((condB .le a 2 = true → (inB p 7 = true ∧ (inB p 7 = true ∧ Ends X dp 2 0 [.ref 51, .int a, .int (h1.2.1 2 p.toNatClampNeg), .int x, .int 0, .retAddr 0, .retAddr 0, .retAddr 0, .retAddr 0] [] (hpI (hpI (hpI h1 51 0 p) 51 1 (h1.2.1 2 p.toNatClampNeg)) 51 2 (h1.2.1 3 p.toNatClampNeg)) (fun rv h9 => ∃ r10, rv = some (.int r10) ∧ HS h9 ∧ Q (some (.int r10)) h9)))) ∧ (condB .le a 2 = false → Q (some (.int 0)) h1)))))))) :
    Ends X (dp + 1) 91 0 [.ref 0, .int p, .int a, .int x] [] h Q := by
  have ra : ∀ {a : Nat}, a < 1000 → a ≤ OLDB := fun h => by have := OLDB_eq; omega
  refine e_aload_n (show pAt 91 0 = some (0, .aload_n 0, 1, []) from by decide +kernel) rfl (ra (by decide)) ?_
  refine e_gR (show pAt 91 1 = some (1, .getfield 49, 3, [6, 8, 0, 2030]) from by decide +kernel) (show HS h from hs) rfl (by decide) (hs_ref (show HS h from hs) rfl) ?_
  refine e_iconst (c := 0) (show pAt 91 4 = some (4, .iconst 0, 1, []) from by decide +kernel) (by decide) ?_
  refine e_pI (show pAt 91 5 = some (5, .putfield 216, 3, [0, 4, 1, 1226]) from by decide +kernel) (show HS h from hs) (by decide) (Or.inl rfl) ?_
  refine e_aload_n (show pAt 91 8 = some (8, .aload_n 0, 1, []) from by decide +kernel) rfl (ra (by decide)) ?_
  refine e_gR (show pAt 91 9 = some (9, .getfield 12, 3, [6, 0, 0, 2022]) from by decide +kernel) (show HS (hpI h 51 4 0) from hs) rfl (by decide) (hs_ref (show HS (hpI h 51 4 0) from hs) rfl) ?_
  refine e_iload_n (show pAt 91 12 = some (12, .iload_n 1, 1, []) from by decide +kernel) rfl ?_
  refine Ends.call (show pAt 91 13 = some (13, .invokevirtual 71, 3, [26, 2, 0, 1, 2071, 2073, 1]) from by decide +kernel) (isRet_none rfl) rfl (call_this (show HS (hpI h 51 4 0) from hs) rfl rfl (by decide)) (Ends.mono vc ?_)
  rintro _ h1 ⟨r2, rfl, hs_h1, vc⟩
  refine e_if (t := 28) (show pAt 91 16 = some (16, .ifCond .eq 12, 3, []) from by decide +kernel) rfl (fun c4 => ?_) (fun c4 => ?_)
  · replace vc := vc.1 c4
    refine e_iconst (c := 0) (show pAt 91 28 = some (28, .iconst 0, 1, []) from by decide +kernel) (by decide) ?_
    exact e_retI (show pAt 91 29 = some (29, .ireturn, 1, []) from by decide +kernel) rfl vc
  · replace vc := vc.2 c4
    refine e_iload_n (show pAt 91 19 = some (19, .iload_n 2, 1, []) from by decide +kernel) rfl ?_
    refine e_if (t := 28) (show pAt 91 20 = some (20, .ifCond .lt 8, 3, []) from by decide +kernel) rfl (fun c5 => ?_) (fun c5 => ?_)
    · replace vc := vc.1 c5
      refine e_iconst (c := 0) (show pAt 91 28 = some (28, .iconst 0, 1, []) from by decide +kernel) (by decide) ?_
      exact e_retI (show pAt 91 29 = some (29, .ireturn, 1, []) from by decide +kernel) rfl vc
    · replace vc := vc.2 c5
      refine e_iload_n (show pAt 91 23 = some (23, .iload_n 2, 1, []) from by decide +kernel) rfl ?_
      refine e_iconst (c := 2) (show pAt 91 24 = some (24, .iconst 2, 1, []) from by decide +kernel) (by decide) ?_
      refine e_icmp (t := 30) (show pAt 91 25 = some (25, .if_icmp .le 5, 3, []) from by decide +kernel) rfl (fun c6 => ?_) (fun c6 => ?_)
      · replace vc := vc.1 c6
        refine e_aload_n (show pAt 91 30 = some (30, .aload_n 0, 1, []) from by decide +kernel) rfl (ra (by decide)) ?_
        refine e_gR (show pAt 91 31 = some (31, .getfield 49, 3, [6, 8, 0, 2030]) from by decide +kernel) (show HS h1 from hs_h1) rfl (by decide) (hs_ref (show HS h1 from hs_h1) rfl) ?_
        refine e_iload_n (show pAt 91 34 = some (34, .iload_n 1, 1, []) from by decide +kernel) rfl ?_
        refine e_pI (show pAt 91 35 = some (35, .putfield 219, 3, [0, 0, 1, 1218]) from by decide +kernel) (show HS h1 from hs_h1) (by decide) (Or.inl rfl) ?_
        refine e_aload_n (show pAt 91 38 = some (38, .aload_n 0, 1, []) from by decide +kernel) rfl (ra (by decide)) ?_
        refine e_gR (show pAt 91 39 = some (39, .getfield 49, 3, [6, 8, 0, 2030]) from by decide +kernel) (show HS (hpI h1 51 0 p) from hs_h1) rfl (by decide) (hs_ref (show HS (hpI h1 51 0 p) from hs_h1) rfl) ?_
        refine e_aload_n (show pAt 91 42 = some (42, .aload_n 0, 1, []) from by decide +kernel) rfl (ra (by decide)) ?_
        refine e_gR (show pAt 91 43 = some (43, .getfield 12, 3, [6, 0, 0, 2022]) from by decide +kernel) (show HS (hpI h1 51 0 p) from hs_h1) rfl (by decide) (hs_ref (show HS (hpI h1 51 0 p) from hs_h1) rfl) ?_
        refine e_gR (show pAt 91 46 = some (46, .getfield 74, 3, [2, 1, 1, 1035]) from by decide +kernel) (show HS (hpI h1 51 0 p) from hs_h1) rfl (by decide) (hs_ref (show HS (hpI h1 51 0 p) from hs_h1) rfl) ?_
        refine e_iload_n (show pAt 91 49 = some (49, .iload_n 1, 1, []) from by decide +kernel) rfl ?_
        obtain ⟨c7, vc⟩ := vc
        refine e_aldv (v := h1.2.1 2 p.toNatClampNeg) (show pAt 91 50 = some (50, .iaload, 1, []) from by decide +kernel) (show HS (hpI h1 51 0 p) from hs_h1) (by decide) c7 rfl ?_
        refine e_pI (show pAt 91 51 = some (51, .putfield 222, 3, [0, 1, 1, 1220]) from by decide +kernel) (show HS (hpI h1 51 0 p) from hs_h1) (by decide) (Or.inl rfl) ?_
        refine e_aload_n (show pAt 91 54 = some (54, .aload_n 0, 1, []) from by decide +kernel) rfl (ra (by decide)) ?_
        refine e_gR (show pAt 91 55 = some (55, .getfield 49, 3, [6, 8, 0, 2030]) from by decide +kernel) (show HS (hpI (hpI h1 51 0 p) 51 1 (h1.2.1 2 p.toNatClampNeg)) from hs_h1) rfl (by decide) (hs_ref (show HS (hpI (hpI h1 51 0 p) 51 1 (h1.2.1 2 p.toNatClampNeg)) from hs_h1) rfl) ?_
        refine e_aload_n (show pAt 91 58 = some (58, .aload_n 0, 1, []) from by decide +kernel) rfl (ra (by decide)) ?_
        refine e_gR (show pAt 91 59 = some (59, .getfield 12, 3, [6, 0, 0, 2022]) from by decide +kernel) (show HS (hpI (hpI h1 51 0 p) 51 1 (h1.2.1 2 p.toNatClampNeg)) from hs_h1) rfl (by decide) (hs_ref (show HS (hpI (hpI h1 51 0 p) 51 1 (h1.2.1 2 p.toNatClampNeg)) from hs_h1) rfl) ?_
        refine e_gR (show pAt 91 62 = some (62, .getfield 78, 3, [2, 2, 1, 1038]) from by decide +kernel) (show HS (hpI (hpI h1 51 0 p) 51 1 (h1.2.1 2 p.toNatClampNeg)) from hs_h1) rfl (by decide) (hs_ref (show HS (hpI (hpI h1 51 0 p) 51 1 (h1.2.1 2 p.toNatClampNeg)) from hs_h1) rfl) ?_
        refine e_iload_n (show pAt 91 65 = some (65, .iload_n 1, 1, []) from by decide +kernel) rfl ?_
        obtain ⟨c8, vc⟩ := vc
        refine e_aldv (v := h1.2.1 3 p.toNatClampNeg) (show pAt 91 66 = some (66, .iaload, 1, []) from by decide +kernel) (show HS (hpI (hpI h1 51 0 p) 51 1 (h1.2.1 2 p.toNatClampNeg)) from hs_h1) (by decide) c8 rfl ?_
        refine e_pI (show pAt 91 67 = some (67, .putfield 224, 3, [0, 2, 1, 1222]) from by decide +kernel) (show HS (hpI (hpI h1 51 0 p) 51 1 (h1.2.1 2 p.toNatClampNeg)) from hs_h1) (by decide) (Or.inl rfl) ?_
        refine e_aload_n (show pAt 91 70 = some (70, .aload_n 0, 1, []) from by decide +kernel) rfl (ra (by decide)) ?_
        refine e_gR (show pAt 91 71 = some (71, .getfield 49, 3, [6, 8, 0, 2030]) from by decide +kernel) (show HS (hpI (hpI (hpI h1 51 0 p) 51 1 (h1.2.1 2 p.toNatClampNeg)) 51 2 (h1.2.1 3 p.toNatClampNeg)) from hs_h1) rfl (by decide) (hs_ref (show HS (hpI (hpI (hpI h1 51 0 p) 51 1 (h1.2.1 2 p.toNatClampNeg)) 51 2 (h1.2.1 3 p.toNatClampNeg)) from hs_h1) rfl) ?_
        refine e_iload_n (show pAt 91 74 = some (74, .iload_n 2, 1, []) from by decide +kernel) rfl ?_
        refine e_aload_n (show pAt 91 75 = some (75, .aload_n 0, 1, []) from by decide +kernel) rfl (ra (by decide)) ?_
        refine e_gR (show pAt 91 76 = some (76, .getfield 49, 3, [6, 8, 0, 2030]) from by decide +kernel) (show HS (hpI (hpI (hpI h1 51 0 p) 51 1 (h1.2.1 2 p.toNatClampNeg)) 51 2 (h1.2.1 3 p.toNatClampNeg)) from hs_h1) rfl (by decide) (hs_ref (show HS (hpI (hpI (hpI h1 51 0 p) 51 1 (h1.2.1 2 p.toNatClampNeg)) 51 2 (h1.2.1 3 p.toNatClampNeg)) from hs_h1) rfl) ?_
        refine e_gIv (v := h1.2.1 2 p.toNatClampNeg) (show pAt 91 79 = some (79, .getfield 222, 3, [0, 1, 1, 1220]) from by decide +kernel) (show HS (hpI (hpI (hpI h1 51 0 p) 51 1 (h1.2.1 2 p.toNatClampNeg)) 51 2 (h1.2.1 3 p.toNatClampNeg)) from hs_h1) rfl (by decide) rfl ?_
        refine e_iload_n (show pAt 91 82 = some (82, .iload_n 3, 1, []) from by decide +kernel) rfl ?_
        refine e_iconst (c := 0) (show pAt 91 83 = some (83, .iconst 0, 1, []) from by decide +kernel) (by decide) ?_
        refine Ends.call (show pAt 91 84 = some (84, .invokevirtual 226, 3, [2, 5, 0, 1, 4057, 4059, 50]) from by decide +kernel) (isRet_none rfl) rfl (call_this (show HS (hpI (hpI (hpI h1 51 0 p) 51 1 (h1.2.1 2 p.toNatClampNeg)) 51 2 (h1.2.1 3 p.toNatClampNeg)) from hs_h1) rfl rfl (by decide)) (Ends.mono vc ?_)
        rintro _ h9 ⟨r10, rfl, hs_h9, vc⟩
        exact e_retI (show pAt 91 87 = some (87, .ireturn, 1, []) from by decide +kernel) rfl vc
      · replace vc := vc.2 c6
        refine e_iconst (c := 0) (show pAt 91 28 = some (28, .iconst 0, 1, []) from by decide +kernel) (by decide) ?_
        exact e_retI (show pAt 91 29 = some (29, .ireturn, 1, []) from by decide +kernel) rfl vc

theorem w_mact {X : Scr} {dp : Nat} {h : Hp} {Q : Option Value → Hp → Prop} (p : Int32) (a : Int32) (x : Int32) (hs : HS h)
    (vc : Ends X dp 112 0 [.ref 93, .int p] [] (hpI h 93 58 0) (fun rv h1 => ∃ r2, rv = some (.int r2) ∧ HS h1 ∧ ((condB .eq r2 0 = true → Q (some (.int 0)) h1) ∧ (condB .eq r2 0 = false → Ends X dp 109 0 [.ref 93, .int a, .int 0, .int 2] [] h1 (fun rv h5 => ∃ r6, rv = some (.int r6) ∧ HS h5 ∧ ((condB .ne r6 0 = true → ((condB .ne a 0 = true → ((condB .ne a 1 = true → Ends X dp 193 0 [.ref 93, .int p, .int x, .retAddr 0] [] h5 (fun rv h11 => ∃ r12, rv = some (.int r12) ∧ HS h11 ∧ Q (some (.int r12)) h11)) ∧ (condB .ne a 1 = false → Ends X dp 191 0 [.ref 93, .int p, .int x, .retAddr 0] [] h5 (fun rv h14 => ∃ r15, rv = some (.int r15) ∧ HS h14 ∧ Q (some (.int r15)) h14)))) ∧ (condB .ne a 0 = false → Ends X dp 188 0 [.ref 93, .int p, .int x] [] h5 (fun rv h17 => ∃ r18, rv = some (.int r18) ∧ HS h17 ∧ Q (some (.int r18)) h17)))) ∧ (condB .ne r6 0 = false → Q (some (.int 0)) h5))))))) :
    Ends X (dp + 1) 194 0 [.ref 93, .int p, .int a, .int x] [] h Q := by
  have ra : ∀ {a : Nat}, a < 1000 → a ≤ OLDB := fun h => by have := OLDB_eq; omega
  refine e_aload_n (show pAt 194 0 = some (0, .aload_n 0, 1, []) from by decide +kernel) rfl (ra (by decide)) ?_
  refine e_iconst (c := 0) (show pAt 194 1 = some (1, .iconst 0, 1, []) from by decide +kernel) (by decide) ?_
  refine e_pI (show pAt 194 2 = some (2, .putfield 187, 3, [7, 58, 0, 4181]) from by decide +kernel) (show HS h from hs) (by decide) (Or.inl rfl) ?_
  refine e_aload_n (show pAt 194 5 = some (5, .aload_n 0, 1, []) from by decide +kernel) rfl (ra (by decide)) ?_
  refine e_iload_n (show pAt 194 6 = some (6, .iload_n 1, 1, []) from by decide +kernel) rfl ?_
  refine Ends.call (show pAt 194 7 = some (7, .invokevirtual 210, 3, [112, 2, 0, 0, 5089, 5091, 55]) from by decide +kernel) (isRet_none rfl) rfl (call_this (show HS (hpI h 93 58 0) from hs) rfl rfl (by decide)) (Ends.mono vc ?_)
  rintro _ h1 ⟨r2, rfl, hs_h1, vc⟩
  refine e_if (t := 23) (show pAt 194 10 = some (10, .ifCond .eq 13, 3, []) from by decide +kernel) rfl (fun c4 => ?_) (fun c4 => ?_)
  · replace vc := vc.1 c4
    refine e_iconst (c := 0) (show pAt 194 23 = some (23, .iconst 0, 1, []) from by decide +kernel) (by decide) ?_
    exact e_retI (show pAt 194 24 = some (24, .ireturn, 1, []) from by decide +kernel) rfl vc
  · replace vc := vc.2 c4
    refine e_aload_n (show pAt 194 13 = some (13, .aload_n 0, 1, []) from by decide +kernel) rfl (ra (by decide)) ?_
    refine e_iload_n (show pAt 194 14 = some (14, .iload_n 2, 1, []) from by decide +kernel) rfl ?_
    refine e_iconst (c := 0) (show pAt 194 15 = some (15, .iconst 0, 1, []) from by decide +kernel) (by decide) ?_
    refine e_iconst (c := 2) (show pAt 194 16 = some (16, .iconst 2, 1, []) from by decide +kernel) (by decide) ?_
    refine Ends.call (show pAt 194 17 = some (17, .invokevirtual 206, 3, [109, 4, 0, 0, 5081, 5083, 54]) from by decide +kernel) (isRet_none rfl) rfl (call_this (show HS h1 from hs_h1) rfl rfl (by decide)) (Ends.mono vc ?_)
    rintro _ h5 ⟨r6, rfl, hs_h5, vc⟩
    refine e_if (t := 25) (show pAt 194 20 = some (20, .ifCond .ne 5, 3, []) from by decide +kernel) rfl (fun c8 => ?_) (fun c8 => ?_)
    · replace vc := vc.1 c8
      refine e_iload_n (show pAt 194 25 = some (25, .iload_n 2, 1, []) from by decide +kernel) rfl ?_
      refine e_if (t := 38) (show pAt 194 26 = some (26, .ifCond .ne 12, 3, []) from by decide +kernel) rfl (fun c9 => ?_) (fun c9 => ?_)
      · replace vc := vc.1 c9
        refine e_iload_n (show pAt 194 38 = some (38, .iload_n 2, 1, []) from by decide +kernel) rfl ?_
        refine e_iconst (c := 1) (show pAt 194 39 = some (39, .iconst 1, 1, []) from by decide +kernel) (by decide) ?_
        refine e_icmp (t := 52) (show pAt 194 40 = some (40, .if_icmp .ne 12, 3, []) from by decide +kernel) rfl (fun c10 => ?_) (fun c10 => ?_)
        · replace vc := vc.1 c10
          refine e_aload_n (show pAt 194 52 = some (52, .aload_n 0, 1, []) from by decide +kernel) rfl (ra (by decide)) ?_
          refine e_iload_n (show pAt 194 53 = some (53, .iload_n 1, 1, []) from by decide +kernel) rfl ?_
          refine e_iload_n (show pAt 194 54 = some (54, .iload_n 3, 1, []) from by decide +kernel) rfl ?_
          refine Ends.call (show pAt 194 55 = some (55, .invokevirtual 390, 3, [193, 3, 0, 0, 6178, 6180, 110]) from by decide +kernel) (isRet_none rfl) rfl (call_this (show HS h5 from hs_h5) rfl rfl (by decide)) (Ends.mono vc ?_)
          rintro _ h11 ⟨r12, rfl, hs_h11, vc⟩
          exact e_retI (show pAt 194 58 = some (58, .ireturn, 1, []) from by decide +kernel) rfl vc
        · replace vc := vc.2 c10
          refine e_aload_n (show pAt 194 43 = some (43, .aload_n 0, 1, []) from by decide +kernel) rfl (ra (by decide)) ?_
          refine e_iload_n (show pAt 194 44 = some (44, .iload_n 1, 1, []) from by decide +kernel) rfl ?_
          refine e_iload_n (show pAt 194 45 = some (45, .iload_n 3, 1, []) from by decide +kernel) rfl ?_
          refine Ends.call (show pAt 194 46 = some (46, .invokevirtual 384, 3, [191, 3, 0, 0, 6166, 6168, 107]) from by decide +kernel) (isRet_none rfl) rfl (call_this (show HS h5 from hs_h5) rfl rfl (by decide)) (Ends.mono vc ?_)
          rintro _ h14 ⟨r15, rfl, hs_h14, vc⟩
          refine e_goto (t := 58) (show pAt 194 49 = some (49, .goto 9, 3, []) from by decide +kernel) rfl ?_
          exact e_retI (show pAt 194 58 = some (58, .ireturn, 1, []) from by decide +kernel) rfl vc
      · replace vc := vc.2 c9
        refine e_aload_n (show pAt 194 29 = some (29, .aload_n 0, 1, []) from by decide +kernel) rfl (ra (by decide)) ?_
        refine e_iload_n (show pAt 194 30 = some (30, .iload_n 1, 1, []) from by decide +kernel) rfl ?_
        refine e_iload_n (show pAt 194 31 = some (31, .iload_n 3, 1, []) from by decide +kernel) rfl ?_
        refine Ends.call (show pAt 194 32 = some (32, .invokevirtual 375, 3, [188, 3, 0, 0, 6154, 6156, 104]) from by decide +kernel) (isRet_none rfl) rfl (call_this (show HS h5 from hs_h5) rfl rfl (by decide)) (Ends.mono vc ?_)
        rintro _ h17 ⟨r18, rfl, hs_h17, vc⟩
        refine e_goto (t := 58) (show pAt 194 35 = some (35, .goto 23, 3, []) from by decide +kernel) rfl ?_
        exact e_retI (show pAt 194 58 = some (58, .ireturn, 1, []) from by decide +kernel) rfl vc
    · replace vc := vc.2 c8
      refine e_iconst (c := 0) (show pAt 194 23 = some (23, .iconst 0, 1, []) from by decide +kernel) (by decide) ?_
      exact e_retI (show pAt 194 24 = some (24, .ireturn, 1, []) from by decide +kernel) rfl vc

theorem w_rr {X : Scr} {dp : Nat} {h : Hp} {Q : Option Value → Hp → Prop} (p : Int32) (x : Int32) (hs : HS h)
    (vc : Ends X dp 186 0 [.ref 93, .int 10] [] h (fun rv h1 => rv = none ∧ HS h1 ∧ Q (some (.int (x + p))) h1)) :
    Ends X (dp + 1) 187 0 [.ref 93, .int p, .int x] [] h Q := by
  have ra : ∀ {a : Nat}, a < 1000 → a ≤ OLDB := fun h => by have := OLDB_eq; omega
  refine e_aload_n (show pAt 187 0 = some (0, .aload_n 0, 1, []) from by decide +kernel) rfl (ra (by decide)) ?_
  refine e_bipush (c := 10) (show pAt 187 1 = some (1, .bipush 10, 2, []) from by decide +kernel) (by decide) ?_
  refine Ends.call (show pAt 187 3 = some (3, .invokevirtual 369, 3, [186, 2, 0, 0, 6158, 6160, 105]) from by decide +kernel) (isRet_none rfl) rfl (call_this (show HS h from hs) rfl rfl (by decide)) (Ends.mono vc ?_)
  rintro _ h1 ⟨rfl, hs_h1, vc⟩
  refine e_iload_n (show pAt 187 6 = some (6, .iload_n 2, 1, []) from by decide +kernel) rfl ?_
  refine e_iload_n (show pAt 187 7 = some (7, .iload_n 1, 1, []) from by decide +kernel) rfl ?_
  refine e_iadd (show pAt 187 8 = some (8, .iadd, 1, []) from by decide +kernel) ?_
  exact e_retI (show pAt 187 9 = some (9, .ireturn, 1, []) from by decide +kernel) rfl vc

theorem w_ra {X : Scr} {dp : Nat} {h : Hp} {Q : Option Value → Hp → Prop} (p : Int32) (x : Int32) (hs : HS h)
    (vc : (inB p 7 = true ∧ ((((h.2.1 94 p.toNatClampNeg).toInt < 2 ∨ 6 < (h.2.1 94 p.toNatClampNeg).toInt) → Ends X dp 187 0 [.ref 93, .int p, .int x] [] h (fun rv h4 => ∃ r5, rv = some (.int r5) ∧ HS h4 ∧ Q (some (.int r5)) h4)) ∧ ((h.2.1 94 p.toNatClampNeg).toInt = 2 → Ends X dp 186 0 [.ref 93, .int 30] [] h (fun rv h7 => rv = none ∧ HS h7 ∧ Ends X dp 187 0 [.ref 93, .int p, .int (x * 3)] [] h7 (fun rv h10 => ∃ r11, rv = some (.int r11) ∧ HS h10 ∧ Q (some (.int r11)) h10))) ∧ ((h.2.1 94 p.toNatClampNeg).toInt = 3 → Ends X dp 187 0 [.ref 93, .int p, .int x] [] h (fun rv h13 => ∃ r14, rv = some (.int r14) ∧ HS h13 ∧ Q (some (.int r14)) h13)) ∧ ((h.2.1 94 p.toNatClampNeg).toInt = 4 → Ends X dp 186 0 [.ref 93, .int 50] [] h (fun rv h16 => rv = none ∧ HS h16 ∧ Ends X dp 187 0 [.ref 93, .int p, .int x] [] h16 (fun rv h19 => ∃ r20, rv = some (.int r20) ∧ HS h19 ∧ Q (some (.int (-r20))) h19))) ∧ ((h.2.1 94 p.toNatClampNeg).toInt = 5 → Ends X dp 186 0 [.ref 93, .int 30] [] h (fun rv h22 => rv = none ∧ HS h22 ∧ Ends X dp 187 0 [.ref 93, .int p, .int (x * 3)] [] h22 (fun rv h25 => ∃ r26, rv = some (.int r26) ∧ HS h25 ∧ Q (some (.int r26)) h25))) ∧ ((h.2.1 94 p.toNatClampNeg).toInt = 6 → Ends X dp 186 0 [.ref 93, .int 71] [] h (fun rv h28 => rv = none ∧ HS h28 ∧ Ends X dp 187 0 [.ref 93, .int p, .int x] [] h28 (fun rv h31 => ∃ r32, rv = some (.int r32) ∧ HS h31 ∧ (inB p 7 = true ∧ Q (some (.int (r32 ^^^ (h31.2.1 95 p.toNatClampNeg)))) h31))))))) :
    Ends X (dp + 1) 188 0 [.ref 93, .int p, .int x] [] h Q := by
  have ra : ∀ {a : Nat}, a < 1000 → a ≤ OLDB := fun h => by have := OLDB_eq; omega
  refine e_aload_n (show pAt 188 0 = some (0, .aload_n 0, 1, []) from by decide +kernel) rfl (ra (by decide)) ?_
  refine e_gR (show pAt 188 1 = some (1, .getfield 19, 3, [7, 3, 0, 4126]) from by decide +kernel) (show HS h from hs) rfl (by decide) (hs_ref (show HS h from hs) rfl) ?_
  refine e_iload_n (show pAt 188 4 = some (4, .iload_n 1, 1, []) from by decide +kernel) rfl ?_
  obtain ⟨c1, vc⟩ := vc
  refine e_aldv (v := h.2.1 94 p.toNatClampNeg) (show pAt 188 5 = some (5, .iaload, 1, []) from by decide +kernel) (show HS h from hs) (by decide) c1 rfl ?_
  rcases (show ((h.2.1 94 p.toNatClampNeg).toInt < 2 ∨ 6 < (h.2.1 94 p.toNatClampNeg).toInt) ∨ (h.2.1 94 p.toNatClampNeg).toInt = 2 ∨ (h.2.1 94 p.toNatClampNeg).toInt = 3 ∨ (h.2.1 94 p.toNatClampNeg).toInt = 4 ∨ (h.2.1 94 p.toNatClampNeg).toInt = 5 ∨ (h.2.1 94 p.toNatClampNeg).toInt = 6 from by omega) with c2 | c2 | c2 | c2 | c2 | c2
  · refine e_tsd (t := 89) (show pAt 188 6 = some (6, .tableswitch 83 2 6 #[34, 83, 49, 34, 63], 34, []) from by decide +kernel) c2 rfl ?_
    replace vc := vc.1 c2
    refine e_aload_n (show pAt 188 89 = some (89, .aload_n 0, 1, []) from by decide +kernel) rfl (ra (by decide)) ?_
    refine e_iload_n (show pAt 188 90 = some (90, .iload_n 1, 1, []) from by decide +kernel) rfl ?_
    refine e_iload_n (show pAt 188 91 = some (91, .iload_n 2, 1, []) from by decide +kernel) rfl ?_
    refine Ends.call (show pAt 188 92 = some (92, .invokevirtual 372, 3, [187, 3, 0, 0, 6162, 6164, 106]) from by decide +kernel) (isRet_none rfl) rfl (call_this (show HS h from hs) rfl rfl (by decide)) (Ends.mono vc ?_)
    rintro _ h4 ⟨r5, rfl, hs_h4, vc⟩
    exact e_retI (show pAt 188 95 = some (95, .ireturn, 1, []) from by decide +kernel) rfl vc
  · refine e_tsc (t := 40) 0 (show pAt 188 6 = some (6, .tableswitch 83 2 6 #[34, 83, 49, 34, 63], 34, []) from by decide +kernel) (by omega) (by omega) rfl rfl ?_
    replace vc := vc.2.1 c2
    refine e_aload_n (show pAt 188 40 = some (40, .aload_n 0, 1, []) from by decide +kernel) rfl (ra (by decide)) ?_
    refine e_bipush (c := 30) (show pAt 188 41 = some (41, .bipush 30, 2, []) from by decide +kernel) (by decide) ?_
    refine Ends.call (show pAt 188 43 = some (43, .invokevirtual 369, 3, [186, 2, 0, 0, 6158, 6160, 105]) from by decide +kernel) (isRet_none rfl) rfl (call_this (show HS h from hs) rfl rfl (by decide)) (Ends.mono vc ?_)
    rintro _ h7 ⟨rfl, hs_h7, vc⟩
    refine e_aload_n (show pAt 188 46 = some (46, .aload_n 0, 1, []) from by decide +kernel) rfl (ra (by decide)) ?_
    refine e_iload_n (show pAt 188 47 = some (47, .iload_n 1, 1, []) from by decide +kernel) rfl ?_
    refine e_iload_n (show pAt 188 48 = some (48, .iload_n 2, 1, []) from by decide +kernel) rfl ?_
    refine e_iconst (c := 3) (show pAt 188 49 = some (49, .iconst 3, 1, []) from by decide +kernel) (by decide) ?_
    refine e_imul (show pAt 188 50 = some (50, .imul, 1, []) from by decide +kernel) ?_
    refine Ends.call (show pAt 188 51 = some (51, .invokevirtual 372, 3, [187, 3, 0, 0, 6162, 6164, 106]) from by decide +kernel) (isRet_none rfl) rfl (call_this (show HS h7 from hs_h7) rfl rfl (by decide)) (Ends.mono vc ?_)
    rintro _ h10 ⟨r11, rfl, hs_h10, vc⟩
    exact e_retI (show pAt 188 54 = some (54, .ireturn, 1, []) from by decide +kernel) rfl vc
  · refine e_tsc (t := 89) 1 (show pAt 188 6 = some (6, .tableswitch 83 2 6 #[34, 83, 49, 34, 63], 34, []) from by decide +kernel) (by omega) (by omega) rfl rfl ?_
    replace vc := vc.2.2.1 c2
    refine e_aload_n (show pAt 188 89 = some (89, .aload_n 0, 1, []) from by decide +kernel) rfl (ra (by decide)) ?_
    refine e_iload_n (show pAt 188 90 = some (90, .iload_n 1, 1, []) from by decide +kernel) rfl ?_
    refine e_iload_n (show pAt 188 91 = some (91, .iload_n 2, 1, []) from by decide +kernel) rfl ?_
    refine Ends.call (show pAt 188 92 = some (92, .invokevirtual 372, 3, [187, 3, 0, 0, 6162, 6164, 106]) from by decide +kernel) (isRet_none rfl) rfl (call_this (show HS h from hs) rfl rfl (by decide)) (Ends.mono vc ?_)
    rintro _ h13 ⟨r14, rfl, hs_h13, vc⟩
    exact e_retI (show pAt 188 95 = some (95, .ireturn, 1, []) from by decide +kernel) rfl vc
  · refine e_tsc (t := 55) 2 (show pAt 188 6 = some (6, .tableswitch 83 2 6 #[34, 83, 49, 34, 63], 34, []) from by decide +kernel) (by omega) (by omega) rfl rfl ?_
    replace vc := vc.2.2.2.1 c2
    refine e_aload_n (show pAt 188 55 = some (55, .aload_n 0, 1, []) from by decide +kernel) rfl (ra (by decide)) ?_
    refine e_bipush (c := 50) (show pAt 188 56 = some (56, .bipush 50, 2, []) from by decide +kernel) (by decide) ?_
    refine Ends.call (show pAt 188 58 = some (58, .invokevirtual 369, 3, [186, 2, 0, 0, 6158, 6160, 105]) from by decide +kernel) (isRet_none rfl) rfl (call_this (show HS h from hs) rfl rfl (by decide)) (Ends.mono vc ?_)
    rintro _ h16 ⟨rfl, hs_h16, vc⟩
    refine e_aload_n (show pAt 188 61 = some (61, .aload_n 0, 1, []) from by decide +kernel) rfl (ra (by decide)) ?_
    refine e_iload_n (show pAt 188 62 = some (62, .iload_n 1, 1, []) from by decide +kernel) rfl ?_
    refine e_iload_n (show pAt 188 63 = some (63, .iload_n 2, 1, []) from by decide +kernel) rfl ?_
    refine Ends.call (show pAt 188 64 = some (64, .invokevirtual 372, 3, [187, 3, 0, 0, 6162, 6164, 106]) from by decide +kernel) (isRet_none rfl) rfl (call_this (show HS h16 from hs_h16) rfl rfl (by decide)) (Ends.mono vc ?_)
    rintro _ h19 ⟨r20, rfl, hs_h19, vc⟩
    refine e_ineg (show pAt 188 67 = some (67, .ineg, 1, []) from by decide +kernel) ?_
    exact e_retI (show pAt 188 68 = some (68, .ireturn, 1, []) from by decide +kernel) rfl vc
  · refine e_tsc (t := 40) 3 (show pAt 188 6 = some (6, .tableswitch 83 2 6 #[34, 83, 49, 34, 63], 34, []) from by decide +kernel) (by omega) (by omega) rfl rfl ?_
    replace vc := vc.2.2.2.2.1 c2
    refine e_aload_n (show pAt 188 40 = some (40, .aload_n 0, 1, []) from by decide +kernel) rfl (ra (by decide)) ?_
    refine e_bipush (c := 30) (show pAt 188 41 = some (41, .bipush 30, 2, []) from by decide +kernel) (by decide) ?_
    refine Ends.call (show pAt 188 43 = some (43, .invokevirtual 369, 3, [186, 2, 0, 0, 6158, 6160, 105]) from by decide +kernel) (isRet_none rfl) rfl (call_this (show HS h from hs) rfl rfl (by decide)) (Ends.mono vc ?_)
    rintro _ h22 ⟨rfl, hs_h22, vc⟩
    refine e_aload_n (show pAt 188 46 = some (46, .aload_n 0, 1, []) from by decide +kernel) rfl (ra (by decide)) ?_
    refine e_iload_n (show pAt 188 47 = some (47, .iload_n 1, 1, []) from by decide +kernel) rfl ?_
    refine e_iload_n (show pAt 188 48 = some (48, .iload_n 2, 1, []) from by decide +kernel) rfl ?_
    refine e_iconst (c := 3) (show pAt 188 49 = some (49, .iconst 3, 1, []) from by decide +kernel) (by decide) ?_
    refine e_imul (show pAt 188 50 = some (50, .imul, 1, []) from by decide +kernel) ?_
    refine Ends.call (show pAt 188 51 = some (51, .invokevirtual 372, 3, [187, 3, 0, 0, 6162, 6164, 106]) from by decide +kernel) (isRet_none rfl) rfl (call_this (show HS h22 from hs_h22) rfl rfl (by decide)) (Ends.mono vc ?_)
    rintro _ h25 ⟨r26, rfl, hs_h25, vc⟩
    exact e_retI (show pAt 188 54 = some (54, .ireturn, 1, []) from by decide +kernel) rfl vc
  · refine e_tsc (t := 69) 4 (show pAt 188 6 = some (6, .tableswitch 83 2 6 #[34, 83, 49, 34, 63], 34, []) from by decide +kernel) (by omega) (by omega) rfl rfl ?_
    replace vc := vc.2.2.2.2.2 c2
    refine e_aload_n (show pAt 188 69 = some (69, .aload_n 0, 1, []) from by decide +kernel) rfl (ra (by decide)) ?_
    refine e_bipush (c := 71) (show pAt 188 70 = some (70, .bipush 71, 2, []) from by decide +kernel) (by decide) ?_
    refine Ends.call (show pAt 188 72 = some (72, .invokevirtual 369, 3, [186, 2, 0, 0, 6158, 6160, 105]) from by decide +kernel) (isRet_none rfl) rfl (call_this (show HS h from hs) rfl rfl (by decide)) (Ends.mono vc ?_)
    rintro _ h28 ⟨rfl, hs_h28, vc⟩
    refine e_aload_n (show pAt 188 75 = some (75, .aload_n 0, 1, []) from by decide +kernel) rfl (ra (by decide)) ?_
    refine e_iload_n (show pAt 188 76 = some (76, .iload_n 1, 1, []) from by decide +kernel) rfl ?_
    refine e_iload_n (show pAt 188 77 = some (77, .iload_n 2, 1, []) from by decide +kernel) rfl ?_
    refine Ends.call (show pAt 188 78 = some (78, .invokevirtual 372, 3, [187, 3, 0, 0, 6162, 6164, 106]) from by decide +kernel) (isRet_none rfl) rfl (call_this (show HS h28 from hs_h28) rfl rfl (by decide)) (Ends.mono vc ?_)
    rintro _ h31 ⟨r32, rfl, hs_h31, vc⟩
    refine e_aload_n (show pAt 188 81 = some (81, .aload_n 0, 1, []) from by decide +kernel) rfl (ra (by decide)) ?_
    refine e_gR (show pAt 188 82 = some (82, .getfield 23, 3, [7, 4, 0, 4127]) from by decide +kernel) (show HS h31 from hs_h31) rfl (by decide) (hs_ref (show HS h31 from hs_h31) rfl) ?_
    refine e_iload_n (show pAt 188 85 = some (85, .iload_n 1, 1, []) from by decide +kernel) rfl ?_
    obtain ⟨c34, vc⟩ := vc
    refine e_aldv (v := h31.2.1 95 p.toNatClampNeg) (show pAt 188 86 = some (86, .iaload, 1, []) from by decide +kernel) (show HS h31 from hs_h31) (by decide) c34 rfl ?_
    refine e_ixor (show pAt 188 87 = some (87, .ixor, 1, []) from by decide +kernel) ?_
    exact e_retI (show pAt 188 88 = some (88, .ireturn, 1, []) from by decide +kernel) rfl vc

theorem w_rh {X : Scr} {dp : Nat} {h : Hp} {Q : Option Value → Hp → Prop} (p : Int32) (x : Int32) (hs : HS h)
    (vc : Ends X dp 186 0 [.ref 93, .int 11] [] h (fun rv h1 => rv = none ∧ HS h1 ∧ Ends X dp 188 0 [.ref 93, .int p, .int x] [] h1 (fun rv h4 => ∃ r5, rv = some (.int r5) ∧ HS h4 ∧ (inB p 7 = true ∧ Q (some (.int (r5 - (h4.2.1 95 p.toNatClampNeg)))) h4)))) :
    Ends X (dp + 1) 189 0 [.ref 93, .int p, .int x] [] h Q := by
  have ra : ∀ {a : Nat}, a < 1000 → a ≤ OLDB := fun h => by have := OLDB_eq; omega
  refine e_aload_n (show pAt 189 0 = some (0, .aload_n 0, 1, []) from by decide +kernel) rfl (ra (by decide)) ?_
  refine e_bipush (c := 11) (show pAt 189 1 = some (1, .bipush 11, 2, []) from by decide +kernel) (by decide) ?_
  refine Ends.call (show pAt 189 3 = some (3, .invokevirtual 369, 3, [186, 2, 0, 0, 6158, 6160, 105]) from by decide +kernel) (isRet_none rfl) rfl (call_this (show HS h from hs) rfl rfl (by decide)) (Ends.mono vc ?_)
  rintro _ h1 ⟨rfl, hs_h1, vc⟩
  refine e_aload_n (show pAt 189 6 = some (6, .aload_n 0, 1, []) from by decide +kernel) rfl (ra (by decide)) ?_
  refine e_iload_n (show pAt 189 7 = some (7, .iload_n 1, 1, []) from by decide +kernel) rfl ?_
  refine e_iload_n (show pAt 189 8 = some (8, .iload_n 2, 1, []) from by decide +kernel) rfl ?_
  refine Ends.call (show pAt 189 9 = some (9, .invokevirtual 375, 3, [188, 3, 0, 0, 6154, 6156, 104]) from by decide +kernel) (isRet_none rfl) rfl (call_this (show HS h1 from hs_h1) rfl rfl (by decide)) (Ends.mono vc ?_)
  rintro _ h4 ⟨r5, rfl, hs_h4, vc⟩
  refine e_aload_n (show pAt 189 12 = some (12, .aload_n 0, 1, []) from by decide +kernel) rfl (ra (by decide)) ?_
  refine e_gR (show pAt 189 13 = some (13, .getfield 23, 3, [7, 4, 0, 4127]) from by decide +kernel) (show HS h4 from hs_h4) rfl (by decide) (hs_ref (show HS h4 from hs_h4) rfl) ?_
  refine e_iload_n (show pAt 189 16 = some (16, .iload_n 1, 1, []) from by decide +kernel) rfl ?_
  obtain ⟨c7, vc⟩ := vc
  refine e_aldv (v := h4.2.1 95 p.toNatClampNeg) (show pAt 189 17 = some (17, .iaload, 1, []) from by decide +kernel) (show HS h4 from hs_h4) (by decide) c7 rfl ?_
  refine e_isub (show pAt 189 18 = some (18, .isub, 1, []) from by decide +kernel) ?_
  exact e_retI (show pAt 189 19 = some (19, .ireturn, 1, []) from by decide +kernel) rfl vc

theorem w_eh {X : Scr} {dp : Nat} {h : Hp} {Q : Option Value → Hp → Prop} (p : Int32) (x : Int32) (hs : HS h)
    (vc : Ends X dp 186 0 [.ref 93, .int 20] [] h (fun rv h1 => rv = none ∧ HS h1 ∧ Ends X dp 189 0 [.ref 93, .int p, .int x] [] h1 (fun rv h4 => ∃ r5, rv = some (.int r5) ∧ HS h4 ∧ Q (some (.int (r5 ^^^ 6))) h4))) :
    Ends X (dp + 1) 190 0 [.ref 93, .int p, .int x] [] h Q := by
  have ra : ∀ {a : Nat}, a < 1000 → a ≤ OLDB := fun h => by have := OLDB_eq; omega
  refine e_aload_n (show pAt 190 0 = some (0, .aload_n 0, 1, []) from by decide +kernel) rfl (ra (by decide)) ?_
  refine e_bipush (c := 20) (show pAt 190 1 = some (1, .bipush 20, 2, []) from by decide +kernel) (by decide) ?_
  refine Ends.call (show pAt 190 3 = some (3, .invokevirtual 369, 3, [186, 2, 0, 0, 6158, 6160, 105]) from by decide +kernel) (isRet_none rfl) rfl (call_this (show HS h from hs) rfl rfl (by decide)) (Ends.mono vc ?_)
  rintro _ h1 ⟨rfl, hs_h1, vc⟩
  refine e_aload_n (show pAt 190 6 = some (6, .aload_n 0, 1, []) from by decide +kernel) rfl (ra (by decide)) ?_
  refine e_iload_n (show pAt 190 7 = some (7, .iload_n 1, 1, []) from by decide +kernel) rfl ?_
  refine e_iload_n (show pAt 190 8 = some (8, .iload_n 2, 1, []) from by decide +kernel) rfl ?_
  refine Ends.call (show pAt 190 9 = some (9, .invokevirtual 378, 3, [189, 3, 0, 0, 6174, 6176, 109]) from by decide +kernel) (isRet_none rfl) rfl (call_this (show HS h1 from hs_h1) rfl rfl (by decide)) (Ends.mono vc ?_)
  rintro _ h4 ⟨r5, rfl, hs_h4, vc⟩
  refine e_bipush (c := 6) (show pAt 190 12 = some (12, .bipush 6, 2, []) from by decide +kernel) (by decide) ?_
  refine e_ixor (show pAt 190 14 = some (14, .ixor, 1, []) from by decide +kernel) ?_
  exact e_retI (show pAt 190 15 = some (15, .ireturn, 1, []) from by decide +kernel) rfl vc

theorem w_ha {X : Scr} {dp : Nat} {h : Hp} {Q : Option Value → Hp → Prop} (p : Int32) (x : Int32) (hs : HS h)
    (vc : (inB p 7 = true ∧ (((¬ (1 : Int) = (h.2.1 94 p.toNatClampNeg).toInt ∧ ¬ (4 : Int) = (h.2.1 94 p.toNatClampNeg).toInt ∧ ¬ (6 : Int) = (h.2.1 94 p.toNatClampNeg).toInt) → Ends X dp 189 0 [.ref 93, .int p, .int x] [] h (fun rv h3 => ∃ r4, rv = some (.int r4) ∧ HS h3 ∧ Q (some (.int r4)) h3)) ∧ ((h.2.1 94 p.toNatClampNeg).toInt = 1 → Ends X dp 190 0 [.ref 93, .int p, .int x] [] h (fun rv h6 => ∃ r7, rv = some (.int r7) ∧ HS h6 ∧ Q (some (.int r7)) h6)) ∧ ((h.2.1 94 p.toNatClampNeg).toInt = 4 → Ends X dp 186 0 [.ref 93, .int 51] [] h (fun rv h9 => rv = none ∧ HS h9 ∧ Ends X dp 190 0 [.ref 93, .int p, .int (x + 1)] [] h9 (fun rv h12 => ∃ r13, rv = some (.int r13) ∧ HS h12 ∧ Q (some (.int r13)) h12))) ∧ ((h.2.1 94 p.toNatClampNeg).toInt = 6 → Ends X dp 186 0 [.ref 93, .int 70] [] h (fun rv h15 => rv = none ∧ HS h15 ∧ Ends X dp 189 0 [.ref 93, .int p, .int x] [] h15 (fun rv h18 => ∃ r19, rv = some (.int r19) ∧ HS h18 ∧ Ends X dp 187 0 [.ref 93, .int p, .int 2] [] h18 (fun rv h21 => ∃ r22, rv = some (.int r22) ∧ HS h21 ∧ Q (some (.int (r19 + r22))) h21))))))) :
    Ends X (dp + 1) 191 0 [.ref 93, .int p, .int x, .retAddr 0] [] h Q := by
  have ra : ∀ {a : Nat}, a < 1000 → a ≤ OLDB := fun h => by have := OLDB_eq; omega
  refine e_aload_n (show pAt 191 0 = some (0, .aload_n 0, 1, []) from by decide +kernel) rfl (ra (by decide)) ?_
  refine e_gR (show pAt 191 1 = some (1, .getfield 19, 3, [7, 3, 0, 4126]) from by decide +kernel) (show HS h from hs) rfl (by decide) (hs_ref (show HS h from hs) rfl) ?_
  refine e_iload_n (show pAt 191 4 = some (4, .iload_n 1, 1, []) from by decide +kernel) rfl ?_
  obtain ⟨c1, vc⟩ := vc
  refine e_aldv (v := h.2.1 94 p.toNatClampNeg) (show pAt 191 5 = some (5, .iaload, 1, []) from by decide +kernel) (show HS h from hs) (by decide) c1 rfl ?_
  rcases (show (¬ (1 : Int) = (h.2.1 94 p.toNatClampNeg).toInt ∧ ¬ (4 : Int) = (h.2.1 94 p.toNatClampNeg).toInt ∧ ¬ (6 : Int) = (h.2.1 94 p.toNatClampNeg).toInt) ∨ (h.2.1 94 p.toNatClampNeg).toInt = 1 ∨ (h.2.1 94 p.toNatClampNeg).toInt = 4 ∨ (h.2.1 94 p.toNatClampNeg).toInt = 6 from by omega) with c2 | c2 | c2 | c2
  · refine e_ls (t := 84) (show pAt 191 6 = some (6, .lookupswitch 78 #[(1, 34), (4, 41), (6, 56)], 34, []) from by decide +kernel) (by decide) (ls_off (b := 78) (by simp [Op.lookupswitch.offset, c2, -List.getD_eq_getElem?_getD]) rfl) ?_
    replace vc := vc.1 c2
    refine e_aload_n (show pAt 191 84 = some (84, .aload_n 0, 1, []) from by decide +kernel) rfl (ra (by decide)) ?_
    refine e_iload_n (show pAt 191 85 = some (85, .iload_n 1, 1, []) from by decide +kernel) rfl ?_
    refine e_iload_n (show pAt 191 86 = some (86, .iload_n 2, 1, []) from by decide +kernel) rfl ?_
    refine Ends.call (show pAt 191 87 = some (87, .invokevirtual 378, 3, [189, 3, 0, 0, 6174, 6176, 109]) from by decide +kernel) (isRet_none rfl) rfl (call_this (show HS h from hs) rfl rfl (by decide)) (Ends.mono vc ?_)
    rintro _ h3 ⟨r4, rfl, hs_h3, vc⟩
    exact e_retI (show pAt 191 90 = some (90, .ireturn, 1, []) from by decide +kernel) rfl vc
  · refine e_ls (t := 40) (show pAt 191 6 = some (6, .lookupswitch 78 #[(1, 34), (4, 41), (6, 56)], 34, []) from by decide +kernel) (by decide) (ls_off (b := 34) (by simp [Op.lookupswitch.offset, c2, -List.getD_eq_getElem?_getD]) rfl) ?_
    replace vc := vc.2.1 c2
    refine e_aload_n (show pAt 191 40 = some (40, .aload_n 0, 1, []) from by decide +kernel) rfl (ra (by decide)) ?_
    refine e_iload_n (show pAt 191 41 = some (41, .iload_n 1, 1, []) from by decide +kernel) rfl ?_
    refine e_iload_n (show pAt 191 42 = some (42, .iload_n 2, 1, []) from by decide +kernel) rfl ?_
    refine Ends.call (show pAt 191 43 = some (43, .invokevirtual 381, 3, [190, 3, 0, 0, 6170, 6172, 108]) from by decide +kernel) (isRet_none rfl) rfl (call_this (show HS h from hs) rfl rfl (by decide)) (Ends.mono vc ?_)
    rintro _ h6 ⟨r7, rfl, hs_h6, vc⟩
    exact e_retI (show pAt 191 46 = some (46, .ireturn, 1, []) from by decide +kernel) rfl vc
  · refine e_ls (t := 47) (show pAt 191 6 = some (6, .lookupswitch 78 #[(1, 34), (4, 41), (6, 56)], 34, []) from by decide +kernel) (by decide) (ls_off (b := 41) (by simp [Op.lookupswitch.offset, c2, -List.getD_eq_getElem?_getD]) rfl) ?_
    replace vc := vc.2.2.1 c2
    refine e_aload_n (show pAt 191 47 = some (47, .aload_n 0, 1, []) from by decide +kernel) rfl (ra (by decide)) ?_
    refine e_bipush (c := 51) (show pAt 191 48 = some (48, .bipush 51, 2, []) from by decide +kernel) (by decide) ?_
    refine Ends.call (show pAt 191 50 = some (50, .invokevirtual 369, 3, [186, 2, 0, 0, 6158, 6160, 105]) from by decide +kernel) (isRet_none rfl) rfl (call_this (show HS h from hs) rfl rfl (by decide)) (Ends.mono vc ?_)
    rintro _ h9 ⟨rfl, hs_h9, vc⟩
    refine e_aload_n (show pAt 191 53 = some (53, .aload_n 0, 1, []) from by decide +kernel) rfl (ra (by decide)) ?_
    refine e_iload_n (show pAt 191 54 = some (54, .iload_n 1, 1, []) from by decide +kernel) rfl ?_
    refine e_iload_n (show pAt 191 55 = some (55, .iload_n 2, 1, []) from by decide +kernel) rfl ?_
    refine e_iconst (c := 1) (show pAt 191 56 = some (56, .iconst 1, 1, []) from by decide +kernel) (by decide) ?_
    refine e_iadd (show pAt 191 57 = some (57, .iadd, 1, []) from by decide +kernel) ?_
    refine Ends.call (show pAt 191 58 = some (58, .invokevirtual 381, 3, [190, 3, 0, 0, 6170, 6172, 108]) from by decide +kernel) (isRet_none rfl) rfl (call_this (show HS h9 from hs_h9) rfl rfl (by decide)) (Ends.mono vc ?_)
    rintro _ h12 ⟨r13, rfl, hs_h12, vc⟩
    exact e_retI (show pAt 191 61 = some (61, .ireturn, 1, []) from by decide +kernel) rfl vc
  · refine e_ls (t := 62) (show pAt 191 6 = some (6, .lookupswitch 78 #[(1, 34), (4, 41), (6, 56)], 34, []) from by decide +kernel) (by decide) (ls_off (b := 56) (by simp [Op.lookupswitch.offset, c2, -List.getD_eq_getElem?_getD]) rfl) ?_
    replace vc := vc.2.2.2 c2
    refine e_aload_n (show pAt 191 62 = some (62, .aload_n 0, 1, []) from by decide +kernel) rfl (ra (by decide)) ?_
    refine e_bipush (c := 70) (show pAt 191 63 = some (63, .bipush 70, 2, []) from by decide +kernel) (by decide) ?_
    refine Ends.call (show pAt 191 65 = some (65, .invokevirtual 369, 3, [186, 2, 0, 0, 6158, 6160, 105]) from by decide +kernel) (isRet_none rfl) rfl (call_this (show HS h from hs) rfl rfl (by decide)) (Ends.mono vc ?_)
    rintro _ h15 ⟨rfl, hs_h15, vc⟩
    refine e_aload_n (show pAt 191 68 = some (68, .aload_n 0, 1, []) from by decide +kernel) rfl (ra (by decide)) ?_
    refine e_iload_n (show pAt 191 69 = some (69, .iload_n 1, 1, []) from by decide +kernel) rfl ?_
    refine e_iload_n (show pAt 191 70 = some (70, .iload_n 2, 1, []) from by decide +kernel) rfl ?_
    refine Ends.call (show pAt 191 71 = some (71, .invokevirtual 378, 3, [189, 3, 0, 0, 6174, 6176, 109]) from by decide +kernel) (isRet_none rfl) rfl (call_this (show HS h15 from hs_h15) rfl rfl (by decide)) (Ends.mono vc ?_)
    rintro _ h18 ⟨r19, rfl, hs_h18, vc⟩
    refine e_istore_n (show pAt 191 74 = some (74, .istore_n 3, 1, []) from by decide +kernel) ⟨Nat.le_of_ble_eq_true rfl, rfl⟩ rfl ?_
    refine e_iload_n (show pAt 191 75 = some (75, .iload_n 3, 1, []) from by decide +kernel) rfl ?_
    refine e_aload_n (show pAt 191 76 = some (76, .aload_n 0, 1, []) from by decide +kernel) rfl (ra (by decide)) ?_
    refine e_iload_n (show pAt 191 77 = some (77, .iload_n 1, 1, []) from by decide +kernel) rfl ?_
    refine e_iconst (c := 2) (show pAt 191 78 = some (78, .iconst 2, 1, []) from by decide +kernel) (by decide) ?_
    refine Ends.call (show pAt 191 79 = some (79, .invokevirtual 372, 3, [187, 3, 0, 0, 6162, 6164, 106]) from by decide +kernel) (isRet_none rfl) rfl (call_this (show HS h18 from hs_h18) rfl rfl (by decide)) (Ends.mono vc ?_)
    rintro _ h21 ⟨r22, rfl, hs_h21, vc⟩
    refine e_iadd (show pAt 191 82 = some (82, .iadd, 1, []) from by decide +kernel) ?_
    exact e_retI (show pAt 191 83 = some (83, .ireturn, 1, []) from by decide +kernel) rfl vc

theorem w_rt {X : Scr} {dp : Nat} {h : Hp} {Q : Option Value → Hp → Prop} (p : Int32) (x : Int32) (hs : HS h)
    (vc : Ends X dp 186 0 [.ref 93, .int 12] [] h (fun rv h1 => rv = none ∧ HS h1 ∧ Ends X dp 191 0 [.ref 93, .int p, .int x, .retAddr 0] [] h1 (fun rv h4 => ∃ r5, rv = some (.int r5) ∧ HS h4 ∧ Q (some (.int (r5 * 2))) h4))) :
    Ends X (dp + 1) 192 0 [.ref 93, .int p, .int x] [] h Q := by
  have ra : ∀ {a : Nat}, a < 1000 → a ≤ OLDB := fun h => by have := OLDB_eq; omega
  refine e_aload_n (show pAt 192 0 = some (0, .aload_n 0, 1, []) from by decide +kernel) rfl (ra (by decide)) ?_
  refine e_bipush (c := 12) (show pAt 192 1 = some (1, .bipush 12, 2, []) from by decide +kernel) (by decide) ?_
  refine Ends.call (show pAt 192 3 = some (3, .invokevirtual 369, 3, [186, 2, 0, 0, 6158, 6160, 105]) from by decide +kernel) (isRet_none rfl) rfl (call_this (show HS h from hs) rfl rfl (by decide)) (Ends.mono vc ?_)
  rintro _ h1 ⟨rfl, hs_h1, vc⟩
  refine e_aload_n (show pAt 192 6 = some (6, .aload_n 0, 1, []) from by decide +kernel) rfl (ra (by decide)) ?_
  refine e_iload_n (show pAt 192 7 = some (7, .iload_n 1, 1, []) from by decide +kernel) rfl ?_
  refine e_iload_n (show pAt 192 8 = some (8, .iload_n 2, 1, []) from by decide +kernel) rfl ?_
  refine Ends.call (show pAt 192 9 = some (9, .invokevirtual 384, 3, [191, 3, 0, 0, 6166, 6168, 107]) from by decide +kernel) (isRet_none rfl) rfl (call_this (show HS h1 from hs_h1) rfl rfl (by decide)) (Ends.mono vc ?_)
  rintro _ h4 ⟨r5, rfl, hs_h4, vc⟩
  refine e_iconst (c := 2) (show pAt 192 12 = some (12, .iconst 2, 1, []) from by decide +kernel) (by decide) ?_
  refine e_imul (show pAt 192 13 = some (13, .imul, 1, []) from by decide +kernel) ?_
  exact e_retI (show pAt 192 14 = some (14, .ireturn, 1, []) from by decide +kernel) rfl vc

theorem w_ta {X : Scr} {dp : Nat} {h : Hp} {Q : Option Value → Hp → Prop} (p : Int32) (x : Int32) (hs : HS h)
    (vc : (inB p 7 = true ∧ ((((h.2.1 94 p.toNatClampNeg).toInt < 3 ∨ 6 < (h.2.1 94 p.toNatClampNeg).toInt) → Ends X dp 192 0 [.ref 93, .int p, .int x] [] h (fun rv h4 => ∃ r5, rv = some (.int r5) ∧ HS h4 ∧ Q (some (.int r5)) h4)) ∧ ((h.2.1 94 p.toNatClampNeg).toInt = 3 → Ends X dp 186 0 [.ref 93, .int 40] [] h (fun rv h7 => rv = none ∧ HS h7 ∧ Ends X dp 192 0 [.ref 93, .int p, .int x] [] h7 (fun rv h10 => ∃ r11, rv = some (.int r11) ∧ HS h10 ∧ Ends X dp 191 0 [.ref 93, .int p, .int 1, .retAddr 0] [] h10 (fun rv h13 => ∃ r14, rv = some (.int r14) ∧ HS h13 ∧ Q (some (.int (r11 + r14))) h13)))) ∧ ((h.2.1 94 p.toNatClampNeg).toInt = 4 → Ends X dp 192 0 [.ref 93, .int p, .int x] [] h (fun rv h16 => ∃ r17, rv = some (.int r17) ∧ HS h16 ∧ Q (some (.int r17)) h16)) ∧ ((h.2.1 94 p.toNatClampNeg).toInt = 5 → Ends X dp 186 0 [.ref 93, .int 60] [] h (fun rv h19 => rv = none ∧ HS h19 ∧ Ends X dp 192 0 [.ref 93, .int p, .int (x - p)] [] h19 (fun rv h22 => ∃ r23, rv = some (.int r23) ∧ HS h22 ∧ Q (some (.int r23)) h22))) ∧ ((h.2.1 94 p.toNatClampNeg).toInt = 6 → Ends X dp 186 0 [.ref 93, .int 40] [] h (fun rv h25 => rv = none ∧ HS h25 ∧ Ends X dp 192 0 [.ref 93, .int p, .int x] [] h25 (fun rv h28 => ∃ r29, rv = some (.int r29) ∧ HS h28 ∧ Ends X dp 191 0 [.ref 93, .int p, .int 1, .retAddr 0] [] h28 (fun rv h31 => ∃ r32, rv = some (.int r32) ∧ HS h31 ∧ Q (some (.int (r29 + r32))) h31))))))) :
    Ends X (dp + 1) 193 0 [.ref 93, .int p, .int x, .retAddr 0] [] h Q := by
  have ra : ∀ {a : Nat}, a < 1000 → a ≤ OLDB := fun h => by have := OLDB_eq; omega
  refine e_aload_n (show pAt 193 0 = some (0, .aload_n 0, 1, []) from by decide +kernel) rfl (ra (by decide)) ?_
  refine e_gR (show pAt 193 1 = some (1, .getfield 19, 3, [7, 3, 0, 4126]) from by decide +kernel) (show HS h from hs) rfl (by decide) (hs_ref (show HS h from hs) rfl) ?_
  refine e_iload_n (show pAt 193 4 = some (4, .iload_n 1, 1, []) from by decide +kernel) rfl ?_
  obtain ⟨c1, vc⟩ := vc
  refine e_aldv (v := h.2.1 94 p.toNatClampNeg) (show pAt 193 5 = some (5, .iaload, 1, []) from by decide +kernel) (show HS h from hs) (by decide) c1 rfl ?_
  rcases (show ((h.2.1 94 p.toNatClampNeg).toInt < 3 ∨ 6 < (h.2.1 94 p.toNatClampNeg).toInt) ∨ (h.2.1 94 p.toNatClampNeg).toInt = 3 ∨ (h.2.1 94 p.toNatClampNeg).toInt = 4 ∨ (h.2.1 94 p.toNatClampNeg).toInt = 5 ∨ (h.2.1 94 p.toNatClampNeg).toInt = 6 from by omega) with c2 | c2 | c2 | c2 | c2
  · refine e_tsd (t := 73) (show pAt 193 6 = some (6, .tableswitch 67 3 6 #[30, 67, 52, 30], 30, []) from by decide +kernel) c2 rfl ?_
    replace vc := vc.1 c2
    refine e_aload_n (show pAt 193 73 = some (73, .aload_n 0, 1, []) from by decide +kernel) rfl (ra (by decide)) ?_
    refine e_iload_n (show pAt 193 74 = some (74, .iload_n 1, 1, []) from by decide +kernel) rfl ?_
    refine e_iload_n (show pAt 193 75 = some (75, .iload_n 2, 1, []) from by decide +kernel) rfl ?_
    refine Ends.call (show pAt 193 76 = some (76, .invokevirtual 387, 3, [192, 3, 0, 0, 6182, 6184, 111]) from by decide +kernel) (isRet_none rfl) rfl (call_this (show HS h from hs) rfl rfl (by decide)) (Ends.mono vc ?_)
    rintro _ h4 ⟨r5, rfl, hs_h4, vc⟩
    exact e_retI (show pAt 193 79 = some (79, .ireturn, 1, []) from by decide +kernel) rfl vc
  · refine e_tsc (t := 36) 0 (show pAt 193 6 = some (6, .tableswitch 67 3 6 #[30, 67, 52, 30], 30, []) from by decide +kernel) (by omega) (by omega) rfl rfl ?_
    replace vc := vc.2.1 c2
    refine e_aload_n (show pAt 193 36 = some (36, .aload_n 0, 1, []) from by decide +kernel) rfl (ra (by decide)) ?_
    refine e_bipush (c := 40) (show pAt 193 37 = some (37, .bipush 40, 2, []) from by decide +kernel) (by decide) ?_
    refine Ends.call (show pAt 193 39 = some (39, .invokevirtual 369, 3, [186, 2, 0, 0, 6158, 6160, 105]) from by decide +kernel) (isRet_none rfl) rfl (call_this (show HS h from hs) rfl rfl (by decide)) (Ends.mono vc ?_)
    rintro _ h7 ⟨rfl, hs_h7, vc⟩
    refine e_aload_n (show pAt 193 42 = some (42, .aload_n 0, 1, []) from by decide +kernel) rfl (ra (by decide)) ?_
    refine e_iload_n (show pAt 193 43 = some (43, .iload_n 1, 1, []) from by decide +kernel) rfl ?_
    refine e_iload_n (show pAt 193 44 = some (44, .iload_n 2, 1, []) from by decide +kernel) rfl ?_
    refine Ends.call (show pAt 193 45 = some (45, .invokevirtual 387, 3, [192, 3, 0, 0, 6182, 6184, 111]) from by decide +kernel) (isRet_none rfl) rfl (call_this (show HS h7 from hs_h7) rfl rfl (by decide)) (Ends.mono vc ?_)
    rintro _ h10 ⟨r11, rfl, hs_h10, vc⟩
    refine e_istore_n (show pAt 193 48 = some (48, .istore_n 3, 1, []) from by decide +kernel) ⟨Nat.le_of_ble_eq_true rfl, rfl⟩ rfl ?_
    refine e_iload_n (show pAt 193 49 = some (49, .iload_n 3, 1, []) from by decide +kernel) rfl ?_
    refine e_aload_n (show pAt 193 50 = some (50, .aload_n 0, 1, []) from by decide +kernel) rfl (ra (by decide)) ?_
    refine e_iload_n (show pAt 193 51 = some (51, .iload_n 1, 1, []) from by decide +kernel) rfl ?_
    refine e_iconst (c := 1) (show pAt 193 52 = some (52, .iconst 1, 1, []) from by decide +kernel) (by decide) ?_
    refine Ends.call (show pAt 193 53 = some (53, .invokevirtual 384, 3, [191, 3, 0, 0, 6166, 6168, 107]) from by decide +kernel) (isRet_none rfl) rfl (call_this (show HS h10 from hs_h10) rfl rfl (by decide)) (Ends.mono vc ?_)
    rintro _ h13 ⟨r14, rfl, hs_h13, vc⟩
    refine e_iadd (show pAt 193 56 = some (56, .iadd, 1, []) from by decide +kernel) ?_
    exact e_retI (show pAt 193 57 = some (57, .ireturn, 1, []) from by decide +kernel) rfl vc
  · refine e_tsc (t := 73) 1 (show pAt 193 6 = some (6, .tableswitch 67 3 6 #[30, 67, 52, 30], 30, []) from by decide +kernel) (by omega) (by omega) rfl rfl ?_
    replace vc := vc.2.2.1 c2
    refine e_aload_n (show pAt 193 73 = some (73, .aload_n 0, 1, []) from by decide +kernel) rfl (ra (by decide)) ?_
    refine e_iload_n (show pAt 193 74 = some (74, .iload_n 1, 1, []) from by decide +kernel) rfl ?_
    refine e_iload_n (show pAt 193 75 = some (75, .iload_n 2, 1, []) from by decide +kernel) rfl ?_
    refine Ends.call (show pAt 193 76 = some (76, .invokevirtual 387, 3, [192, 3, 0, 0, 6182, 6184, 111]) from by decide +kernel) (isRet_none rfl) rfl (call_this (show HS h from hs) rfl rfl (by decide)) (Ends.mono vc ?_)
    rintro _ h16 ⟨r17, rfl, hs_h16, vc⟩
    exact e_retI (show pAt 193 79 = some (79, .ireturn, 1, []) from by decide +kernel) rfl vc
  · refine e_tsc (t := 58) 2 (show pAt 193 6 = some (6, .tableswitch 67 3 6 #[30, 67, 52, 30], 30, []) from by decide +kernel) (by omega) (by omega) rfl rfl ?_
    replace vc := vc.2.2.2.1 c2
    refine e_aload_n (show pAt 193 58 = some (58, .aload_n 0, 1, []) from by decide +kernel) rfl (ra (by decide)) ?_
    refine e_bipush (c := 60) (show pAt 193 59 = some (59, .bipush 60, 2, []) from by decide +kernel) (by decide) ?_
    refine Ends.call (show pAt 193 61 = some (61, .invokevirtual 369, 3, [186, 2, 0, 0, 6158, 6160, 105]) from by decide +kernel) (isRet_none rfl) rfl (call_this (show HS h from hs) rfl rfl (by decide)) (Ends.mono vc ?_)
    rintro _ h19 ⟨rfl, hs_h19, vc⟩
    refine e_aload_n (show pAt 193 64 = some (64, .aload_n 0, 1, []) from by decide +kernel) rfl (ra (by decide)) ?_
    refine e_iload_n (show pAt 193 65 = some (65, .iload_n 1, 1, []) from by decide +kernel) rfl ?_
    refine e_iload_n (show pAt 193 66 = some (66, .iload_n 2, 1, []) from by decide +kernel) rfl ?_
    refine e_iload_n (show pAt 193 67 = some (67, .iload_n 1, 1, []) from by decide +kernel) rfl ?_
    refine e_isub (show pAt 193 68 = some (68, .isub, 1, []) from by decide +kernel) ?_
    refine Ends.call (show pAt 193 69 = some (69, .invokevirtual 387, 3, [192, 3, 0, 0, 6182, 6184, 111]) from by decide +kernel) (isRet_none rfl) rfl (call_this (show HS h19 from hs_h19) rfl rfl (by decide)) (Ends.mono vc ?_)
    rintro _ h22 ⟨r23, rfl, hs_h22, vc⟩
    exact e_retI (show pAt 193 72 = some (72, .ireturn, 1, []) from by decide +kernel) rfl vc
  · refine e_tsc (t := 36) 3 (show pAt 193 6 = some (6, .tableswitch 67 3 6 #[30, 67, 52, 30], 30, []) from by decide +kernel) (by omega) (by omega) rfl rfl ?_
    replace vc := vc.2.2.2.2 c2
    refine e_aload_n (show pAt 193 36 = some (36, .aload_n 0, 1, []) from by decide +kernel) rfl (ra (by decide)) ?_
    refine e_bipush (c := 40) (show pAt 193 37 = some (37, .bipush 40, 2, []) from by decide +kernel) (by decide) ?_
    refine Ends.call (show pAt 193 39 = some (39, .invokevirtual 369, 3, [186, 2, 0, 0, 6158, 6160, 105]) from by decide +kernel) (isRet_none rfl) rfl (call_this (show HS h from hs) rfl rfl (by decide)) (Ends.mono vc ?_)
    rintro _ h25 ⟨rfl, hs_h25, vc⟩
    refine e_aload_n (show pAt 193 42 = some (42, .aload_n 0, 1, []) from by decide +kernel) rfl (ra (by decide)) ?_
    refine e_iload_n (show pAt 193 43 = some (43, .iload_n 1, 1, []) from by decide +kernel) rfl ?_
    refine e_iload_n (show pAt 193 44 = some (44, .iload_n 2, 1, []) from by decide +kernel) rfl ?_
    refine Ends.call (show pAt 193 45 = some (45, .invokevirtual 387, 3, [192, 3, 0, 0, 6182, 6184, 111]) from by decide +kernel) (isRet_none rfl) rfl (call_this (show HS h25 from hs_h25) rfl rfl (by decide)) (Ends.mono vc ?_)
    rintro _ h28 ⟨r29, rfl, hs_h28, vc⟩
    refine e_istore_n (show pAt 193 48 = some (48, .istore_n 3, 1, []) from by decide +kernel) ⟨Nat.le_of_ble_eq_true rfl, rfl⟩ rfl ?_
    refine e_iload_n (show pAt 193 49 = some (49, .iload_n 3, 1, []) from by decide +kernel) rfl ?_
    refine e_aload_n (show pAt 193 50 = some (50, .aload_n 0, 1, []) from by decide +kernel) rfl (ra (by decide)) ?_
    refine e_iload_n (show pAt 193 51 = some (51, .iload_n 1, 1, []) from by decide +kernel) rfl ?_
    refine e_iconst (c := 1) (show pAt 193 52 = some (52, .iconst 1, 1, []) from by decide +kernel) (by decide) ?_
    refine Ends.call (show pAt 193 53 = some (53, .invokevirtual 384, 3, [191, 3, 0, 0, 6166, 6168, 107]) from by decide +kernel) (isRet_none rfl) rfl (call_this (show HS h28 from hs_h28) rfl rfl (by decide)) (Ends.mono vc ?_)
    rintro _ h31 ⟨r32, rfl, hs_h31, vc⟩
    refine e_iadd (show pAt 193 56 = some (56, .iadd, 1, []) from by decide +kernel) ?_
    exact e_retI (show pAt 193 57 = some (57, .ireturn, 1, []) from by decide +kernel) rfl vc

theorem w_own00 {X : Scr} {dp : Nat} {h : Hp} {Q : Option Value → Hp → Prop}  (hs : HS h)
    (vc : Q (some (.int 0)) h) :
    Ends X dp 3 0 [.int 0, .int 0, .retAddr 0, .retAddr 0] [] h Q := by
  refine e_iload_n (show pAt 3 0 = some (0, .iload_n 0, 1, []) from by decide +kernel) rfl ?_
  refine e_if (t := 9) (show pAt 3 1 = some (1, .ifCond .lt 8, 3, []) from by decide +kernel) rfl (fun c1 => absurd c1 (by decide)) (fun c1 => ?_)
  refine e_iload_n (show pAt 3 4 = some (4, .iload_n 0, 1, []) from by decide +kernel) rfl ?_
  refine e_iconst (c := 2) (show pAt 3 5 = some (5, .iconst 2, 1, []) from by decide +kernel) (by decide) ?_
  refine e_icmp (t := 11) (show pAt 3 6 = some (6, .if_icmp .le 5, 3, []) from by decide +kernel) rfl (fun c2 => ?_) (fun c2 => absurd c2 (by decide))
  refine e_iload_n (show pAt 3 11 = some (11, .iload_n 1, 1, []) from by decide +kernel) rfl ?_
  refine e_istore_n (show pAt 3 12 = some (12, .istore_n 2, 1, []) from by decide +kernel) ⟨Nat.le_of_ble_eq_true rfl, rfl⟩ rfl ?_
  refine e_iconst (c := 0) (show pAt 3 13 = some (13, .iconst 0, 1, []) from by decide +kernel) (by decide) ?_
  refine e_istore_n (show pAt 3 14 = some (14, .istore_n 3, 1, []) from by decide +kernel) ⟨Nat.le_of_ble_eq_true rfl, rfl⟩ rfl ?_
  refine e_iload_n (show pAt 3 15 = some (15, .iload_n 3, 1, []) from by decide +kernel) rfl ?_
  refine e_bipush (c := 7) (show pAt 3 16 = some (16, .bipush 7, 2, []) from by decide +kernel) (by decide) ?_
  refine e_icmp (t := 58) (show pAt 3 18 = some (18, .if_icmp .ge 40, 3, []) from by decide +kernel) rfl (fun c3 => absurd c3 (by decide)) (fun c3 => ?_)
  refine e_iload_n (show pAt 3 21 = some (21, .iload_n 2, 1, []) from by decide +kernel) rfl ?_
  refine e_if (t := 58) (show pAt 3 22 = some (22, .ifCond .lt 36, 3, []) from by decide +kernel) rfl (fun c4 => absurd c4 (by decide)) (fun c4 => ?_)
  refine e_iload_n (show pAt 3 25 = some (25, .iload_n 2, 1, []) from by decide +kernel) rfl ?_
  refine e_bipush (c := 7) (show pAt 3 26 = some (26, .bipush 7, 2, []) from by decide +kernel) (by decide) ?_
  refine e_icmp (t := 58) (show pAt 3 28 = some (28, .if_icmp .ge 30, 3, []) from by decide +kernel) rfl (fun c5 => absurd c5 (by decide)) (fun c5 => ?_)
  refine e_gs2 (show pAt 3 31 = some (31, .getstatic 19, 3, [1, 0, 4064]) from by decide +kernel) ?_
  refine e_iload_n (show pAt 3 34 = some (34, .iload_n 0, 1, []) from by decide +kernel) rfl ?_
  refine e_bipush (c := 7) (show pAt 3 35 = some (35, .bipush 7, 2, []) from by decide +kernel) (by decide) ?_
  refine e_imul (show pAt 3 37 = some (37, .imul, 1, []) from by decide +kernel) ?_
  refine e_iload_n (show pAt 3 38 = some (38, .iload_n 2, 1, []) from by decide +kernel) rfl ?_
  refine e_iadd (show pAt 3 39 = some (39, .iadd, 1, []) from by decide +kernel) ?_
  refine e_so2 (show pAt 3 40 = some (40, .iaload, 1, []) from by decide +kernel) (by decide) ?_
  refine e_if (t := 46) (show pAt 3 41 = some (41, .ifCond .eq 5, 3, []) from by decide +kernel) rfl (fun c6 => absurd c6 (by decide)) (fun c6 => ?_)
  refine e_iload_n (show pAt 3 44 = some (44, .iload_n 2, 1, []) from by decide +kernel) rfl ?_
  exact e_retI (show pAt 3 45 = some (45, .ireturn, 1, []) from by decide +kernel) rfl vc

theorem w_own01 {X : Scr} {dp : Nat} {h : Hp} {Q : Option Value → Hp → Prop}  (hs : HS h)
    (vc : Q (some (.int (aboveL.getD (1 : Int32).toNatClampNeg 0))) h) :
    Ends X dp 3 0 [.int 0, .int 1, .retAddr 0, .retAddr 0] [] h Q := by
  refine e_iload_n (show pAt 3 0 = some (0, .iload_n 0, 1, []) from by decide +kernel) rfl ?_
  refine e_if (t := 9) (show pAt 3 1 = some (1, .ifCond .lt 8, 3, []) from by decide +kernel) rfl (fun c1 => absurd c1 (by decide)) (fun c1 => ?_)
  refine e_iload_n (show pAt 3 4 = some (4, .iload_n 0, 1, []) from by decide +kernel) rfl ?_
  refine e_iconst (c := 2) (show pAt 3 5 = some (5, .iconst 2, 1, []) from by decide +kernel) (by decide) ?_
  refine e_icmp (t := 11) (show pAt 3 6 = some (6, .if_icmp .le 5, 3, []) from by decide +kernel) rfl (fun c2 => ?_) (fun c2 => absurd c2 (by decide))
  refine e_iload_n (show pAt 3 11 = some (11, .iload_n 1, 1, []) from by decide +kernel) rfl ?_
  refine e_istore_n (show pAt 3 12 = some (12, .istore_n 2, 1, []) from by decide +kernel) ⟨Nat.le_of_ble_eq_true rfl, rfl⟩ rfl ?_
  refine e_iconst (c := 0) (show pAt 3 13 = some (13, .iconst 0, 1, []) from by decide +kernel) (by decide) ?_
  refine e_istore_n (show pAt 3 14 = some (14, .istore_n 3, 1, []) from by decide +kernel) ⟨Nat.le_of_ble_eq_true rfl, rfl⟩ rfl ?_
  refine e_iload_n (show pAt 3 15 = some (15, .iload_n 3, 1, []) from by decide +kernel) rfl ?_
  refine e_bipush (c := 7) (show pAt 3 16 = some (16, .bipush 7, 2, []) from by decide +kernel) (by decide) ?_
  refine e_icmp (t := 58) (show pAt 3 18 = some (18, .if_icmp .ge 40, 3, []) from by decide +kernel) rfl (fun c3 => absurd c3 (by decide)) (fun c3 => ?_)
  refine e_iload_n (show pAt 3 21 = some (21, .iload_n 2, 1, []) from by decide +kernel) rfl ?_
  refine e_if (t := 58) (show pAt 3 22 = some (22, .ifCond .lt 36, 3, []) from by decide +kernel) rfl (fun c4 => absurd c4 (by decide)) (fun c4 => ?_)
  refine e_iload_n (show pAt 3 25 = some (25, .iload_n 2, 1, []) from by decide +kernel) rfl ?_
  refine e_bipush (c := 7) (show pAt 3 26 = some (26, .bipush 7, 2, []) from by decide +kernel) (by decide) ?_
  refine e_icmp (t := 58) (show pAt 3 28 = some (28, .if_icmp .ge 30, 3, []) from by decide +kernel) rfl (fun c5 => absurd c5 (by decide)) (fun c5 => ?_)
  refine e_gs2 (show pAt 3 31 = some (31, .getstatic 19, 3, [1, 0, 4064]) from by decide +kernel) ?_
  refine e_iload_n (show pAt 3 34 = some (34, .iload_n 0, 1, []) from by decide +kernel) rfl ?_
  refine e_bipush (c := 7) (show pAt 3 35 = some (35, .bipush 7, 2, []) from by decide +kernel) (by decide) ?_
  refine e_imul (show pAt 3 37 = some (37, .imul, 1, []) from by decide +kernel) ?_
  refine e_iload_n (show pAt 3 38 = some (38, .iload_n 2, 1, []) from by decide +kernel) rfl ?_
  refine e_iadd (show pAt 3 39 = some (39, .iadd, 1, []) from by decide +kernel) ?_
  refine e_so2 (show pAt 3 40 = some (40, .iaload, 1, []) from by decide +kernel) (by decide) ?_
  refine e_if (t := 46) (show pAt 3 41 = some (41, .ifCond .eq 5, 3, []) from by decide +kernel) rfl (fun c6 => ?_) (fun c6 => absurd c6 (by decide))
  refine e_gs1 (show pAt 3 46 = some (46, .getstatic 22, 3, [0, 1, 4066]) from by decide +kernel) ?_
  refine e_iload_n (show pAt 3 49 = some (49, .iload_n 2, 1, []) from by decide +kernel) rfl ?_
  refine e_so1 (show pAt 3 50 = some (50, .iaload, 1, []) from by decide +kernel) (by decide) ?_
  refine e_istore_n (show pAt 3 51 = some (51, .istore_n 2, 1, []) from by decide +kernel) ⟨Nat.le_of_ble_eq_true rfl, rfl⟩ rfl ?_
  refine e_iinc (c := 1) (show pAt 3 52 = some (52, .iinc 3 1, 3, []) from by decide +kernel) rfl rfl (by decide) rfl ?_
  refine e_goto (t := 15) (show pAt 3 55 = some (55, .goto (-40), 3, []) from by decide +kernel) rfl ?_
  refine e_iload_n (show pAt 3 15 = some (15, .iload_n 3, 1, []) from by decide +kernel) rfl ?_
  refine e_bipush (c := 7) (show pAt 3 16 = some (16, .bipush 7, 2, []) from by decide +kernel) (by decide) ?_
  refine e_icmp (t := 58) (show pAt 3 18 = some (18, .if_icmp .ge 40, 3, []) from by decide +kernel) rfl (fun c7 => absurd c7 (by decide)) (fun c7 => ?_)
  refine e_iload_n (show pAt 3 21 = some (21, .iload_n 2, 1, []) from by decide +kernel) rfl ?_
  refine e_if (t := 58) (show pAt 3 22 = some (22, .ifCond .lt 36, 3, []) from by decide +kernel) rfl (fun c8 => absurd c8 (by decide)) (fun c8 => ?_)
  refine e_iload_n (show pAt 3 25 = some (25, .iload_n 2, 1, []) from by decide +kernel) rfl ?_
  refine e_bipush (c := 7) (show pAt 3 26 = some (26, .bipush 7, 2, []) from by decide +kernel) (by decide) ?_
  refine e_icmp (t := 58) (show pAt 3 28 = some (28, .if_icmp .ge 30, 3, []) from by decide +kernel) rfl (fun c9 => absurd c9 (by decide)) (fun c9 => ?_)
  refine e_gs2 (show pAt 3 31 = some (31, .getstatic 19, 3, [1, 0, 4064]) from by decide +kernel) ?_
  refine e_iload_n (show pAt 3 34 = some (34, .iload_n 0, 1, []) from by decide +kernel) rfl ?_
  refine e_bipush (c := 7) (show pAt 3 35 = some (35, .bipush 7, 2, []) from by decide +kernel) (by decide) ?_
  refine e_imul (show pAt 3 37 = some (37, .imul, 1, []) from by decide +kernel) ?_
  refine e_iload_n (show pAt 3 38 = some (38, .iload_n 2, 1, []) from by decide +kernel) rfl ?_
  refine e_iadd (show pAt 3 39 = some (39, .iadd, 1, []) from by decide +kernel) ?_
  refine e_so2 (show pAt 3 40 = some (40, .iaload, 1, []) from by decide +kernel) (by decide) ?_
  refine e_if (t := 46) (show pAt 3 41 = some (41, .ifCond .eq 5, 3, []) from by decide +kernel) rfl (fun c10 => absurd c10 (by decide)) (fun c10 => ?_)
  refine e_iload_n (show pAt 3 44 = some (44, .iload_n 2, 1, []) from by decide +kernel) rfl ?_
  exact e_retI (show pAt 3 45 = some (45, .ireturn, 1, []) from by decide +kernel) rfl vc

theorem w_own02 {X : Scr} {dp : Nat} {h : Hp} {Q : Option Value → Hp → Prop}  (hs : HS h)
    (vc : Q (some (.int 2)) h) :
    Ends X dp 3 0 [.int 0, .int 2, .retAddr 0, .retAddr 0] [] h Q := by
  refine e_iload_n (show pAt 3 0 = some (0, .iload_n 0, 1, []) from by decide +kernel) rfl ?_
  refine e_if (t := 9) (show pAt 3 1 = some (1, .ifCond .lt 8, 3, []) from by decide +kernel) rfl (fun c1 => absurd c1 (by decide)) (fun c1 => ?_)
  refine e_iload_n (show pAt 3 4 = some (4, .iload_n 0, 1, []) from by decide +kernel) rfl ?_
  refine e_iconst (c := 2) (show pAt 3 5 = some (5, .iconst 2, 1, []) from by decide +kernel) (by decide) ?_
  refine e_icmp (t := 11) (show pAt 3 6 = some (6, .if_icmp .le 5, 3, []) from by decide +kernel) rfl (fun c2 => ?_) (fun c2 => absurd c2 (by decide))
  refine e_iload_n (show pAt 3 11 = some (11, .iload_n 1, 1, []) from by decide +kernel) rfl ?_
  refine e_istore_n (show pAt 3 12 = some (12, .istore_n 2, 1, []) from by decide +kernel) ⟨Nat.le_of_ble_eq_true rfl, rfl⟩ rfl ?_
  refine e_iconst (c := 0) (show pAt 3 13 = some (13, .iconst 0, 1, []) from by decide +kernel) (by decide) ?_
  refine e_istore_n (show pAt 3 14 = some (14, .istore_n 3, 1, []) from by decide +kernel) ⟨Nat.le_of_ble_eq_true rfl, rfl⟩ rfl ?_
  refine e_iload_n (show pAt 3 15 = some (15, .iload_n 3, 1, []) from by decide +kernel) rfl ?_
  refine e_bipush (c := 7) (show pAt 3 16 = some (16, .bipush 7, 2, []) from by decide +kernel) (by decide) ?_
  refine e_icmp (t := 58) (show pAt 3 18 = some (18, .if_icmp .ge 40, 3, []) from by decide +kernel) rfl (fun c3 => absurd c3 (by decide)) (fun c3 => ?_)
  refine e_iload_n (show pAt 3 21 = some (21, .iload_n 2, 1, []) from by decide +kernel) rfl ?_
  refine e_if (t := 58) (show pAt 3 22 = some (22, .ifCond .lt 36, 3, []) from by decide +kernel) rfl (fun c4 => absurd c4 (by decide)) (fun c4 => ?_)
  refine e_iload_n (show pAt 3 25 = some (25, .iload_n 2, 1, []) from by decide +kernel) rfl ?_
  refine e_bipush (c := 7) (show pAt 3 26 = some (26, .bipush 7, 2, []) from by decide +kernel) (by decide) ?_
  refine e_icmp (t := 58) (show pAt 3 28 = some (28, .if_icmp .ge 30, 3, []) from by decide +kernel) rfl (fun c5 => absurd c5 (by decide)) (fun c5 => ?_)
  refine e_gs2 (show pAt 3 31 = some (31, .getstatic 19, 3, [1, 0, 4064]) from by decide +kernel) ?_
  refine e_iload_n (show pAt 3 34 = some (34, .iload_n 0, 1, []) from by decide +kernel) rfl ?_
  refine e_bipush (c := 7) (show pAt 3 35 = some (35, .bipush 7, 2, []) from by decide +kernel) (by decide) ?_
  refine e_imul (show pAt 3 37 = some (37, .imul, 1, []) from by decide +kernel) ?_
  refine e_iload_n (show pAt 3 38 = some (38, .iload_n 2, 1, []) from by decide +kernel) rfl ?_
  refine e_iadd (show pAt 3 39 = some (39, .iadd, 1, []) from by decide +kernel) ?_
  refine e_so2 (show pAt 3 40 = some (40, .iaload, 1, []) from by decide +kernel) (by decide) ?_
  refine e_if (t := 46) (show pAt 3 41 = some (41, .ifCond .eq 5, 3, []) from by decide +kernel) rfl (fun c6 => absurd c6 (by decide)) (fun c6 => ?_)
  refine e_iload_n (show pAt 3 44 = some (44, .iload_n 2, 1, []) from by decide +kernel) rfl ?_
  exact e_retI (show pAt 3 45 = some (45, .ireturn, 1, []) from by decide +kernel) rfl vc

theorem w_own03 {X : Scr} {dp : Nat} {h : Hp} {Q : Option Value → Hp → Prop}  (hs : HS h)
    (vc : Q (some (.int (aboveL.getD (3 : Int32).toNatClampNeg 0))) h) :
    Ends X dp 3 0 [.int 0, .int 3, .retAddr 0, .retAddr 0] [] h Q := by
  refine e_iload_n (show pAt 3 0 = some (0, .iload_n 0, 1, []) from by decide +kernel) rfl ?_
  refine e_if (t := 9) (show pAt 3 1 = some (1, .ifCond .lt 8, 3, []) from by decide +kernel) rfl (fun c1 => absurd c1 (by decide)) (fun c1 => ?_)
  refine e_iload_n (show pAt 3 4 = some (4, .iload_n 0, 1, []) from by decide +kernel) rfl ?_
  refine e_iconst (c := 2) (show pAt 3 5 = some (5, .iconst 2, 1, []) from by decide +kernel) (by decide) ?_
  refine e_icmp (t := 11) (show pAt 3 6 = some (6, .if_icmp .le 5, 3, []) from by decide +kernel) rfl (fun c2 => ?_) (fun c2 => absurd c2 (by decide))
  refine e_iload_n (show pAt 3 11 = some (11, .iload_n 1, 1, []) from by decide +kernel) rfl ?_
  refine e_istore_n (show pAt 3 12 = some (12, .istore_n 2, 1, []) from by decide +kernel) ⟨Nat.le_of_ble_eq_true rfl, rfl⟩ rfl ?_
  refine e_iconst (c := 0) (show pAt 3 13 = some (13, .iconst 0, 1, []) from by decide +kernel) (by decide) ?_
  refine e_istore_n (show pAt 3 14 = some (14, .istore_n 3, 1, []) from by decide +kernel) ⟨Nat.le_of_ble_eq_true rfl, rfl⟩ rfl ?_
  refine e_iload_n (show pAt 3 15 = some (15, .iload_n 3, 1, []) from by decide +kernel) rfl ?_
  refine e_bipush (c := 7) (show pAt 3 16 = some (16, .bipush 7, 2, []) from by decide +kernel) (by decide) ?_
  refine e_icmp (t := 58) (show pAt 3 18 = some (18, .if_icmp .ge 40, 3, []) from by decide +kernel) rfl (fun c3 => absurd c3 (by decide)) (fun c3 => ?_)
  refine e_iload_n (show pAt 3 21 = some (21, .iload_n 2, 1, []) from by decide +kernel) rfl ?_
  refine e_if (t := 58) (show pAt 3 22 = some (22, .ifCond .lt 36, 3, []) from by decide +kernel) rfl (fun c4 => absurd c4 (by decide)) (fun c4 => ?_)
  refine e_iload_n (show pAt 3 25 = some (25, .iload_n 2, 1, []) from by decide +kernel) rfl ?_
  refine e_bipush (c := 7) (show pAt 3 26 = some (26, .bipush 7, 2, []) from by decide +kernel) (by decide) ?_
  refine e_icmp (t := 58) (show pAt 3 28 = some (28, .if_icmp .ge 30, 3, []) from by decide +kernel) rfl (fun c5 => absurd c5 (by decide)) (fun c5 => ?_)
  refine e_gs2 (show pAt 3 31 = some (31, .getstatic 19, 3, [1, 0, 4064]) from by decide +kernel) ?_
  refine e_iload_n (show pAt 3 34 = some (34, .iload_n 0, 1, []) from by decide +kernel) rfl ?_
  refine e_bipush (c := 7) (show pAt 3 35 = some (35, .bipush 7, 2, []) from by decide +kernel) (by decide) ?_
  refine e_imul (show pAt 3 37 = some (37, .imul, 1, []) from by decide +kernel) ?_
  refine e_iload_n (show pAt 3 38 = some (38, .iload_n 2, 1, []) from by decide +kernel) rfl ?_
  refine e_iadd (show pAt 3 39 = some (39, .iadd, 1, []) from by decide +kernel) ?_
  refine e_so2 (show pAt 3 40 = some (40, .iaload, 1, []) from by decide +kernel) (by decide) ?_
  refine e_if (t := 46) (show pAt 3 41 = some (41, .ifCond .eq 5, 3, []) from by decide +kernel) rfl (fun c6 => ?_) (fun c6 => absurd c6 (by decide))
  refine e_gs1 (show pAt 3 46 = some (46, .getstatic 22, 3, [0, 1, 4066]) from by decide +kernel) ?_
  refine e_iload_n (show pAt 3 49 = some (49, .iload_n 2, 1, []) from by decide +kernel) rfl ?_
  refine e_so1 (show pAt 3 50 = some (50, .iaload, 1, []) from by decide +kernel) (by decide) ?_
  refine e_istore_n (show pAt 3 51 = some (51, .istore_n 2, 1, []) from by decide +kernel) ⟨Nat.le_of_ble_eq_true rfl, rfl⟩ rfl ?_
  refine e_iinc (c := 1) (show pAt 3 52 = some (52, .iinc 3 1, 3, []) from by decide +kernel) rfl rfl (by decide) rfl ?_
  refine e_goto (t := 15) (show pAt 3 55 = some (55, .goto (-40), 3, []) from by decide +kernel) rfl ?_
  refine e_iload_n (show pAt 3 15 = some (15, .iload_n 3, 1, []) from by decide +kernel) rfl ?_
  refine e_bipush (c := 7) (show pAt 3 16 = some (16, .bipush 7, 2, []) from by decide +kernel) (by decide) ?_
  refine e_icmp (t := 58) (show pAt 3 18 = some (18, .if_icmp .ge 40, 3, []) from by decide +kernel) rfl (fun c7 => absurd c7 (by decide)) (fun c7 => ?_)
  refine e_iload_n (show pAt 3 21 = some (21, .iload_n 2, 1, []) from by decide +kernel) rfl ?_
  refine e_if (t := 58) (show pAt 3 22 = some (22, .ifCond .lt 36, 3, []) from by decide +kernel) rfl (fun c8 => absurd c8 (by decide)) (fun c8 => ?_)
  refine e_iload_n (show pAt 3 25 = some (25, .iload_n 2, 1, []) from by decide +kernel) rfl ?_
  refine e_bipush (c := 7) (show pAt 3 26 = some (26, .bipush 7, 2, []) from by decide +kernel) (by decide) ?_
  refine e_icmp (t := 58) (show pAt 3 28 = some (28, .if_icmp .ge 30, 3, []) from by decide +kernel) rfl (fun c9 => absurd c9 (by decide)) (fun c9 => ?_)
  refine e_gs2 (show pAt 3 31 = some (31, .getstatic 19, 3, [1, 0, 4064]) from by decide +kernel) ?_
  refine e_iload_n (show pAt 3 34 = some (34, .iload_n 0, 1, []) from by decide +kernel) rfl ?_
  refine e_bipush (c := 7) (show pAt 3 35 = some (35, .bipush 7, 2, []) from by decide +kernel) (by decide) ?_
  refine e_imul (show pAt 3 37 = some (37, .imul, 1, []) from by decide +kernel) ?_
  refine e_iload_n (show pAt 3 38 = some (38, .iload_n 2, 1, []) from by decide +kernel) rfl ?_
  refine e_iadd (show pAt 3 39 = some (39, .iadd, 1, []) from by decide +kernel) ?_
  refine e_so2 (show pAt 3 40 = some (40, .iaload, 1, []) from by decide +kernel) (by decide) ?_
  refine e_if (t := 46) (show pAt 3 41 = some (41, .ifCond .eq 5, 3, []) from by decide +kernel) rfl (fun c10 => absurd c10 (by decide)) (fun c10 => ?_)
  refine e_iload_n (show pAt 3 44 = some (44, .iload_n 2, 1, []) from by decide +kernel) rfl ?_
  exact e_retI (show pAt 3 45 = some (45, .ireturn, 1, []) from by decide +kernel) rfl vc

theorem w_own04 {X : Scr} {dp : Nat} {h : Hp} {Q : Option Value → Hp → Prop}  (hs : HS h)
    (vc : Q (some (.int 4)) h) :
    Ends X dp 3 0 [.int 0, .int 4, .retAddr 0, .retAddr 0] [] h Q := by
  refine e_iload_n (show pAt 3 0 = some (0, .iload_n 0, 1, []) from by decide +kernel) rfl ?_
  refine e_if (t := 9) (show pAt 3 1 = some (1, .ifCond .lt 8, 3, []) from by decide +kernel) rfl (fun c1 => absurd c1 (by decide)) (fun c1 => ?_)
  refine e_iload_n (show pAt 3 4 = some (4, .iload_n 0, 1, []) from by decide +kernel) rfl ?_
  refine e_iconst (c := 2) (show pAt 3 5 = some (5, .iconst 2, 1, []) from by decide +kernel) (by decide) ?_
  refine e_icmp (t := 11) (show pAt 3 6 = some (6, .if_icmp .le 5, 3, []) from by decide +kernel) rfl (fun c2 => ?_) (fun c2 => absurd c2 (by decide))
  refine e_iload_n (show pAt 3 11 = some (11, .iload_n 1, 1, []) from by decide +kernel) rfl ?_
  refine e_istore_n (show pAt 3 12 = some (12, .istore_n 2, 1, []) from by decide +kernel) ⟨Nat.le_of_ble_eq_true rfl, rfl⟩ rfl ?_
  refine e_iconst (c := 0) (show pAt 3 13 = some (13, .iconst 0, 1, []) from by decide +kernel) (by decide) ?_
  refine e_istore_n (show pAt 3 14 = some (14, .istore_n 3, 1, []) from by decide +kernel) ⟨Nat.le_of_ble_eq_true rfl, rfl⟩ rfl ?_
  refine e_iload_n (show pAt 3 15 = some (15, .iload_n 3, 1, []) from by decide +kernel) rfl ?_
  refine e_bipush (c := 7) (show pAt 3 16 = some (16, .bipush 7, 2, []) from by decide +kernel) (by decide) ?_
  refine e_icmp (t := 58) (show pAt 3 18 = some (18, .if_icmp .ge 40, 3, []) from by decide +kernel) rfl (fun c3 => absurd c3 (by decide)) (fun c3 => ?_)
  refine e_iload_n (show pAt 3 21 = some (21, .iload_n 2, 1, []) from by decide +kernel) rfl ?_
  refine e_if (t := 58) (show pAt 3 22 = some (22, .ifCond .lt 36, 3, []) from by decide +kernel) rfl (fun c4 => absurd c4 (by decide)) (fun c4 => ?_)
  refine e_iload_n (show pAt 3 25 = some (25, .iload_n 2, 1, []) from by decide +kernel) rfl ?_
  refine e_bipush (c := 7) (show pAt 3 26 = some (26, .bipush 7, 2, []) from by decide +kernel) (by decide) ?_
  refine e_icmp (t := 58) (show pAt 3 28 = some (28, .if_icmp .ge 30, 3, []) from by decide +kernel) rfl (fun c5 => absurd c5 (by decide)) (fun c5 => ?_)
  refine e_gs2 (show pAt 3 31 = some (31, .getstatic 19, 3, [1, 0, 4064]) from by decide +kernel) ?_
  refine e_iload_n (show pAt 3 34 = some (34, .iload_n 0, 1, []) from by decide +kernel) rfl ?_
  refine e_bipush (c := 7) (show pAt 3 35 = some (35, .bipush 7, 2, []) from by decide +kernel) (by decide) ?_
  refine e_imul (show pAt 3 37 = some (37, .imul, 1, []) from by decide +kernel) ?_
  refine e_iload_n (show pAt 3 38 = some (38, .iload_n 2, 1, []) from by decide +kernel) rfl ?_
  refine e_iadd (show pAt 3 39 = some (39, .iadd, 1, []) from by decide +kernel) ?_
  refine e_so2 (show pAt 3 40 = some (40, .iaload, 1, []) from by decide +kernel) (by decide) ?_
  refine e_if (t := 46) (show pAt 3 41 = some (41, .ifCond .eq 5, 3, []) from by decide +kernel) rfl (fun c6 => absurd c6 (by decide)) (fun c6 => ?_)
  refine e_iload_n (show pAt 3 44 = some (44, .iload_n 2, 1, []) from by decide +kernel) rfl ?_
  exact e_retI (show pAt 3 45 = some (45, .ireturn, 1, []) from by decide +kernel) rfl vc

theorem w_own05 {X : Scr} {dp : Nat} {h : Hp} {Q : Option Value → Hp → Prop}  (hs : HS h)
    (vc : Q (some (.int (aboveL.getD (5 : Int32).toNatClampNeg 0))) h) :
    Ends X dp 3 0 [.int 0, .int 5, .retAddr 0, .retAddr 0] [] h Q := by
  refine e_iload_n (show pAt 3 0 = some (0, .iload_n 0, 1, []) from by decide +kernel) rfl ?_
  refine e_if (t := 9) (show pAt 3 1 = some (1, .ifCond .lt 8, 3, []) from by decide +kernel) rfl (fun c1 => absurd c1 (by decide)) (fun c1 => ?_)
  refine e_iload_n (show pAt 3 4 = some (4, .iload_n 0, 1, []) from by decide +kernel) rfl ?_
  refine e_iconst (c := 2) (show pAt 3 5 = some (5, .iconst 2, 1, []) from by decide +kernel) (by decide) ?_
  refine e_icmp (t := 11) (show pAt 3 6 = some (6, .if_icmp .le 5, 3, []) from by decide +kernel) rfl (fun c2 => ?_) (fun c2 => absurd c2 (by decide))
  refine e_iload_n (show pAt 3 11 = some (11, .iload_n 1, 1, []) from by decide +kernel) rfl ?_
  refine e_istore_n (show pAt 3 12 = some (12, .istore_n 2, 1, []) from by decide +kernel) ⟨Nat.le_of_ble_eq_true rfl, rfl⟩ rfl ?_
  refine e_iconst (c := 0) (show pAt 3 13 = some (13, .iconst 0, 1, []) from by decide +kernel) (by decide) ?_
  refine e_istore_n (show pAt 3 14 = some (14, .istore_n 3, 1, []) from by decide +kernel) ⟨Nat.le_of_ble_eq_true rfl, rfl⟩ rfl ?_
  refine e_iload_n (show pAt 3 15 = some (15, .iload_n 3, 1, []) from by decide +kernel) rfl ?_
  refine e_bipush (c := 7) (show pAt 3 16 = some (16, .bipush 7, 2, []) from by decide +kernel) (by decide) ?_
  refine e_icmp (t := 58) (show pAt 3 18 = some (18, .if_icmp .ge 40, 3, []) from by decide +kernel) rfl (fun c3 => absurd c3 (by decide)) (fun c3 => ?_)
  refine e_iload_n (show pAt 3 21 = some (21, .iload_n 2, 1, []) from by decide +kernel) rfl ?_
  refine e_if (t := 58) (show pAt 3 22 = some (22, .ifCond .lt 36, 3, []) from by decide +kernel) rfl (fun c4 => absurd c4 (by decide)) (fun c4 => ?_)
  refine e_iload_n (show pAt 3 25 = some (25, .iload_n 2, 1, []) from by decide +kernel) rfl ?_
  refine e_bipush (c := 7) (show pAt 3 26 = some (26, .bipush 7, 2, []) from by decide +kernel) (by decide) ?_
  refine e_icmp (t := 58) (show pAt 3 28 = some (28, .if_icmp .ge 30, 3, []) from by decide +kernel) rfl (fun c5 => absurd c5 (by decide)) (fun c5 => ?_)
  refine e_gs2 (show pAt 3 31 = some (31, .getstatic 19, 3, [1, 0, 4064]) from by decide +kernel) ?_
  refine e_iload_n (show pAt 3 34 = some (34, .iload_n 0, 1, []) from by decide +kernel) rfl ?_
  refine e_bipush (c := 7) (show pAt 3 35 = some (35, .bipush 7, 2, []) from by decide +kernel) (by decide) ?_
  refine e_imul (show pAt 3 37 = some (37, .imul, 1, []) from by decide +kernel) ?_
  refine e_iload_n (show pAt 3 38 = some (38, .iload_n 2, 1, []) from by decide +kernel) rfl ?_
  refine e_iadd (show pAt 3 39 = some (39, .iadd, 1, []) from by decide +kernel) ?_
  refine e_so2 (show pAt 3 40 = some (40, .iaload, 1, []) from by decide +kernel) (by decide) ?_
  refine e_if (t := 46) (show pAt 3 41 = some (41, .ifCond .eq 5, 3, []) from by decide +kernel) rfl (fun c6 => ?_) (fun c6 => absurd c6 (by decide))
  refine e_gs1 (show pAt 3 46 = some (46, .getstatic 22, 3, [0, 1, 4066]) from by decide +kernel) ?_
  refine e_iload_n (show pAt 3 49 = some (49, .iload_n 2, 1, []) from by decide +kernel) rfl ?_
  refine e_so1 (show pAt 3 50 = some (50, .iaload, 1, []) from by decide +kernel) (by decide) ?_
  refine e_istore_n (show pAt 3 51 = some (51, .istore_n 2, 1, []) from by decide +kernel) ⟨Nat.le_of_ble_eq_true rfl, rfl⟩ rfl ?_
  refine e_iinc (c := 1) (show pAt 3 52 = some (52, .iinc 3 1, 3, []) from by decide +kernel) rfl rfl (by decide) rfl ?_
  refine e_goto (t := 15) (show pAt 3 55 = some (55, .goto (-40), 3, []) from by decide +kernel) rfl ?_
  refine e_iload_n (show pAt 3 15 = some (15, .iload_n 3, 1, []) from by decide +kernel) rfl ?_
  refine e_bipush (c := 7) (show pAt 3 16 = some (16, .bipush 7, 2, []) from by decide +kernel) (by decide) ?_
  refine e_icmp (t := 58) (show pAt 3 18 = some (18, .if_icmp .ge 40, 3, []) from by decide +kernel) rfl (fun c7 => absurd c7 (by decide)) (fun c7 => ?_)
  refine e_iload_n (show pAt 3 21 = some (21, .iload_n 2, 1, []) from by decide +kernel) rfl ?_
  refine e_if (t := 58) (show pAt 3 22 = some (22, .ifCond .lt 36, 3, []) from by decide +kernel) rfl (fun c8 => absurd c8 (by decide)) (fun c8 => ?_)
  refine e_iload_n (show pAt 3 25 = some (25, .iload_n 2, 1, []) from by decide +kernel) rfl ?_
  refine e_bipush (c := 7) (show pAt 3 26 = some (26, .bipush 7, 2, []) from by decide +kernel) (by decide) ?_
  refine e_icmp (t := 58) (show pAt 3 28 = some (28, .if_icmp .ge 30, 3, []) from by decide +kernel) rfl (fun c9 => absurd c9 (by decide)) (fun c9 => ?_)
  refine e_gs2 (show pAt 3 31 = some (31, .getstatic 19, 3, [1, 0, 4064]) from by decide +kernel) ?_
  refine e_iload_n (show pAt 3 34 = some (34, .iload_n 0, 1, []) from by decide +kernel) rfl ?_
  refine e_bipush (c := 7) (show pAt 3 35 = some (35, .bipush 7, 2, []) from by decide +kernel) (by decide) ?_
  refine e_imul (show pAt 3 37 = some (37, .imul, 1, []) from by decide +kernel) ?_
  refine e_iload_n (show pAt 3 38 = some (38, .iload_n 2, 1, []) from by decide +kernel) rfl ?_
  refine e_iadd (show pAt 3 39 = some (39, .iadd, 1, []) from by decide +kernel) ?_
  refine e_so2 (show pAt 3 40 = some (40, .iaload, 1, []) from by decide +kernel) (by decide) ?_
  refine e_if (t := 46) (show pAt 3 41 = some (41, .ifCond .eq 5, 3, []) from by decide +kernel) rfl (fun c10 => absurd c10 (by decide)) (fun c10 => ?_)
  refine e_iload_n (show pAt 3 44 = some (44, .iload_n 2, 1, []) from by decide +kernel) rfl ?_
  exact e_retI (show pAt 3 45 = some (45, .ireturn, 1, []) from by decide +kernel) rfl vc

theorem w_own06 {X : Scr} {dp : Nat} {h : Hp} {Q : Option Value → Hp → Prop}  (hs : HS h)
    (vc : Q (some (.int 6)) h) :
    Ends X dp 3 0 [.int 0, .int 6, .retAddr 0, .retAddr 0] [] h Q := by
  refine e_iload_n (show pAt 3 0 = some (0, .iload_n 0, 1, []) from by decide +kernel) rfl ?_
  refine e_if (t := 9) (show pAt 3 1 = some (1, .ifCond .lt 8, 3, []) from by decide +kernel) rfl (fun c1 => absurd c1 (by decide)) (fun c1 => ?_)
  refine e_iload_n (show pAt 3 4 = some (4, .iload_n 0, 1, []) from by decide +kernel) rfl ?_
  refine e_iconst (c := 2) (show pAt 3 5 = some (5, .iconst 2, 1, []) from by decide +kernel) (by decide) ?_
  refine e_icmp (t := 11) (show pAt 3 6 = some (6, .if_icmp .le 5, 3, []) from by decide +kernel) rfl (fun c2 => ?_) (fun c2 => absurd c2 (by decide))
  refine e_iload_n (show pAt 3 11 = some (11, .iload_n 1, 1, []) from by decide +kernel) rfl ?_
  refine e_istore_n (show pAt 3 12 = some (12, .istore_n 2, 1, []) from by decide +kernel) ⟨Nat.le_of_ble_eq_true rfl, rfl⟩ rfl ?_
  refine e_iconst (c := 0) (show pAt 3 13 = some (13, .iconst 0, 1, []) from by decide +kernel) (by decide) ?_
  refine e_istore_n (show pAt 3 14 = some (14, .istore_n 3, 1, []) from by decide +kernel) ⟨Nat.le_of_ble_eq_true rfl, rfl⟩ rfl ?_
  refine e_iload_n (show pAt 3 15 = some (15, .iload_n 3, 1, []) from by decide +kernel) rfl ?_
  refine e_bipush (c := 7) (show pAt 3 16 = some (16, .bipush 7, 2, []) from by decide +kernel) (by decide) ?_
  refine e_icmp (t := 58) (show pAt 3 18 = some (18, .if_icmp .ge 40, 3, []) from by decide +kernel) rfl (fun c3 => absurd c3 (by decide)) (fun c3 => ?_)
  refine e_iload_n (show pAt 3 21 = some (21, .iload_n 2, 1, []) from by decide +kernel) rfl ?_
  refine e_if (t := 58) (show pAt 3 22 = some (22, .ifCond .lt 36, 3, []) from by decide +kernel) rfl (fun c4 => absurd c4 (by decide)) (fun c4 => ?_)
  refine e_iload_n (show pAt 3 25 = some (25, .iload_n 2, 1, []) from by decide +kernel) rfl ?_
  refine e_bipush (c := 7) (show pAt 3 26 = some (26, .bipush 7, 2, []) from by decide +kernel) (by decide) ?_
  refine e_icmp (t := 58) (show pAt 3 28 = some (28, .if_icmp .ge 30, 3, []) from by decide +kernel) rfl (fun c5 => absurd c5 (by decide)) (fun c5 => ?_)
  refine e_gs2 (show pAt 3 31 = some (31, .getstatic 19, 3, [1, 0, 4064]) from by decide +kernel) ?_
  refine e_iload_n (show pAt 3 34 = some (34, .iload_n 0, 1, []) from by decide +kernel) rfl ?_
  refine e_bipush (c := 7) (show pAt 3 35 = some (35, .bipush 7, 2, []) from by decide +kernel) (by decide) ?_
  refine e_imul (show pAt 3 37 = some (37, .imul, 1, []) from by decide +kernel) ?_
  refine e_iload_n (show pAt 3 38 = some (38, .iload_n 2, 1, []) from by decide +kernel) rfl ?_
  refine e_iadd (show pAt 3 39 = some (39, .iadd, 1, []) from by decide +kernel) ?_
  refine e_so2 (show pAt 3 40 = some (40, .iaload, 1, []) from by decide +kernel) (by decide) ?_
  refine e_if (t := 46) (show pAt 3 41 = some (41, .ifCond .eq 5, 3, []) from by decide +kernel) rfl (fun c6 => absurd c6 (by decide)) (fun c6 => ?_)
  refine e_iload_n (show pAt 3 44 = some (44, .iload_n 2, 1, []) from by decide +kernel) rfl ?_
  exact e_retI (show pAt 3 45 = some (45, .ireturn, 1, []) from by decide +kernel) rfl vc

theorem w_own10 {X : Scr} {dp : Nat} {h : Hp} {Q : Option Value → Hp → Prop}  (hs : HS h)
    (vc : Q (some (.int 0)) h) :
    Ends X dp 3 0 [.int 1, .int 0, .retAddr 0, .retAddr 0] [] h Q := by
  refine e_iload_n (show pAt 3 0 = some (0, .iload_n 0, 1, []) from by decide +kernel) rfl ?_
  refine e_if (t := 9) (show pAt 3 1 = some (1, .ifCond .lt 8, 3, []) from by decide +kernel) rfl (fun c1 => absurd c1 (by decide)) (fun c1 => ?_)
  refine e_iload_n (show pAt 3 4 = some (4, .iload_n 0, 1, []) from by decide +kernel) rfl ?_
  refine e_iconst (c := 2) (show pAt 3 5 = some (5, .iconst 2, 1, []) from by decide +kernel) (by decide) ?_
  refine e_icmp (t := 11) (show pAt 3 6 = some (6, .if_icmp .le 5, 3, []) from by decide +kernel) rfl (fun c2 => ?_) (fun c2 => absurd c2 (by decide))
  refine e_iload_n (show pAt 3 11 = some (11, .iload_n 1, 1, []) from by decide +kernel) rfl ?_
  refine e_istore_n (show pAt 3 12 = some (12, .istore_n 2, 1, []) from by decide +kernel) ⟨Nat.le_of_ble_eq_true rfl, rfl⟩ rfl ?_
  refine e_iconst (c := 0) (show pAt 3 13 = some (13, .iconst 0, 1, []) from by decide +kernel) (by decide) ?_
  refine e_istore_n (show pAt 3 14 = some (14, .istore_n 3, 1, []) from by decide +kernel) ⟨Nat.le_of_ble_eq_true rfl, rfl⟩ rfl ?_
  refine e_iload_n (show pAt 3 15 = some (15, .iload_n 3, 1, []) from by decide +kernel) rfl ?_
  refine e_bipush (c := 7) (show pAt 3 16 = some (16, .bipush 7, 2, []) from by decide +kernel) (by decide) ?_
  refine e_icmp (t := 58) (show pAt 3 18 = some (18, .if_icmp .ge 40, 3, []) from by decide +kernel) rfl (fun c3 => absurd c3 (by decide)) (fun c3 => ?_)
  refine e_iload_n (show pAt 3 21 = some (21, .iload_n 2, 1, []) from by decide +kernel) rfl ?_
  refine e_if (t := 58) (show pAt 3 22 = some (22, .ifCond .lt 36, 3, []) from by decide +kernel) rfl (fun c4 => absurd c4 (by decide)) (fun c4 => ?_)
  refine e_iload_n (show pAt 3 25 = some (25, .iload_n 2, 1, []) from by decide +kernel) rfl ?_
  refine e_bipush (c := 7) (show pAt 3 26 = some (26, .bipush 7, 2, []) from by decide +kernel) (by decide) ?_
  refine e_icmp (t := 58) (show pAt 3 28 = some (28, .if_icmp .ge 30, 3, []) from by decide +kernel) rfl (fun c5 => absurd c5 (by decide)) (fun c5 => ?_)
  refine e_gs2 (show pAt 3 31 = some (31, .getstatic 19, 3, [1, 0, 4064]) from by decide +kernel) ?_
  refine e_iload_n (show pAt 3 34 = some (34, .iload_n 0, 1, []) from by decide +kernel) rfl ?_
  refine e_bipush (c := 7) (show pAt 3 35 = some (35, .bipush 7, 2, []) from by decide +kernel) (by decide) ?_
  refine e_imul (show pAt 3 37 = some (37, .imul, 1, []) from by decide +kernel) ?_
  refine e_iload_n (show pAt 3 38 = some (38, .iload_n 2, 1, []) from by decide +kernel) rfl ?_
  refine e_iadd (show pAt 3 39 = some (39, .iadd, 1, []) from by decide +kernel) ?_
  refine e_so2 (show pAt 3 40 = some (40, .iaload, 1, []) from by decide +kernel) (by decide) ?_
  refine e_if (t := 46) (show pAt 3 41 = some (41, .ifCond .eq 5, 3, []) from by decide +kernel) rfl (fun c6 => absurd c6 (by decide)) (fun c6 => ?_)
  refine e_iload_n (show pAt 3 44 = some (44, .iload_n 2, 1, []) from by decide +kernel) rfl ?_
  exact e_retI (show pAt 3 45 = some (45, .ireturn, 1, []) from by decide +kernel) rfl vc

theorem w_own11 {X : Scr} {dp : Nat} {h : Hp} {Q : Option Value → Hp → Prop}  (hs : HS h)
    (vc : Q (some (.int 1)) h) :
    Ends X dp 3 0 [.int 1, .int 1, .retAddr 0, .retAddr 0] [] h Q := by
  refine e_iload_n (show pAt 3 0 = some (0, .iload_n 0, 1, []) from by decide +kernel) rfl ?_
  refine e_if (t := 9) (show pAt 3 1 = some (1, .ifCond .lt 8, 3, []) from by decide +kernel) rfl (fun c1 => absurd c1 (by decide)) (fun c1 => ?_)
  refine e_iload_n (show pAt 3 4 = some (4, .iload_n 0, 1, []) from by decide +kernel) rfl ?_
  refine e_iconst (c := 2) (show pAt 3 5 = some (5, .iconst 2, 1, []) from by decide +kernel) (by decide) ?_
  refine e_icmp (t := 11) (show pAt 3 6 = some (6, .if_icmp .le 5, 3, []) from by decide +kernel) rfl (fun c2 => ?_) (fun c2 => absurd c2 (by decide))
  refine e_iload_n (show pAt 3 11 = some (11, .iload_n 1, 1, []) from by decide +kernel) rfl ?_
  refine e_istore_n (show pAt 3 12 = some (12, .istore_n 2, 1, []) from by decide +kernel) ⟨Nat.le_of_ble_eq_true rfl, rfl⟩ rfl ?_
  refine e_iconst (c := 0) (show pAt 3 13 = some (13, .iconst 0, 1, []) from by decide +kernel) (by decide) ?_
  refine e_istore_n (show pAt 3 14 = some (14, .istore_n 3, 1, []) from by decide +kernel) ⟨Nat.le_of_ble_eq_true rfl, rfl⟩ rfl ?_
  refine e_iload_n (show pAt 3 15 = some (15, .iload_n 3, 1, []) from by decide +kernel) rfl ?_
  refine e_bipush (c := 7) (show pAt 3 16 = some (16, .bipush 7, 2, []) from by decide +kernel) (by decide) ?_
  refine e_icmp (t := 58) (show pAt 3 18 = some (18, .if_icmp .ge 40, 3, []) from by decide +kernel) rfl (fun c3 => absurd c3 (by decide)) (fun c3 => ?_)
  refine e_iload_n (show pAt 3 21 = some (21, .iload_n 2, 1, []) from by decide +kernel) rfl ?_
  refine e_if (t := 58) (show pAt 3 22 = some (22, .ifCond .lt 36, 3, []) from by decide +kernel) rfl (fun c4 => absurd c4 (by decide)) (fun c4 => ?_)
  refine e_iload_n (show pAt 3 25 = some (25, .iload_n 2, 1, []) from by decide +kernel) rfl ?_
  refine e_bipush (c := 7) (show pAt 3 26 = some (26, .bipush 7, 2, []) from by decide +kernel) (by decide) ?_
  refine e_icmp (t := 58) (show pAt 3 28 = some (28, .if_icmp .ge 30, 3, []) from by decide +kernel) rfl (fun c5 => absurd c5 (by decide)) (fun c5 => ?_)
  refine e_gs2 (show pAt 3 31 = some (31, .getstatic 19, 3, [1, 0, 4064]) from by decide +kernel) ?_
  refine e_iload_n (show pAt 3 34 = some (34, .iload_n 0, 1, []) from by decide +kernel) rfl ?_
  refine e_bipush (c := 7) (show pAt 3 35 = some (35, .bipush 7, 2, []) from by decide +kernel) (by decide) ?_
  refine e_imul (show pAt 3 37 = some (37, .imul, 1, []) from by decide +kernel) ?_
  refine e_iload_n (show pAt 3 38 = some (38, .iload_n 2, 1, []) from by decide +kernel) rfl ?_
  refine e_iadd (show pAt 3 39 = some (39, .iadd, 1, []) from by decide +kernel) ?_
  refine e_so2 (show pAt 3 40 = some (40, .iaload, 1, []) from by decide +kernel) (by decide) ?_
  refine e_if (t := 46) (show pAt 3 41 = some (41, .ifCond .eq 5, 3, []) from by decide +kernel) rfl (fun c6 => absurd c6 (by decide)) (fun c6 => ?_)
  refine e_iload_n (show pAt 3 44 = some (44, .iload_n 2, 1, []) from by decide +kernel) rfl ?_
  exact e_retI (show pAt 3 45 = some (45, .ireturn, 1, []) from by decide +kernel) rfl vc

theorem w_own12 {X : Scr} {dp : Nat} {h : Hp} {Q : Option Value → Hp → Prop}  (hs : HS h)
    (vc : Q (some (.int (aboveL.getD (2 : Int32).toNatClampNeg 0))) h) :
    Ends X dp 3 0 [.int 1, .int 2, .retAddr 0, .retAddr 0] [] h Q := by
  refine e_iload_n (show pAt 3 0 = some (0, .iload_n 0, 1, []) from by decide +kernel) rfl ?_
  refine e_if (t := 9) (show pAt 3 1 = some (1, .ifCond .lt 8, 3, []) from by decide +kernel) rfl (fun c1 => absurd c1 (by decide)) (fun c1 => ?_)
  refine e_iload_n (show pAt 3 4 = some (4, .iload_n 0, 1, []) from by decide +kernel) rfl ?_
  refine e_iconst (c := 2) (show pAt 3 5 = some (5, .iconst 2, 1, []) from by decide +kernel) (by decide) ?_
  refine e_icmp (t := 11) (show pAt 3 6 = some (6, .if_icmp .le 5, 3, []) from by decide +kernel) rfl (fun c2 => ?_) (fun c2 => absurd c2 (by decide))
  refine e_iload_n (show pAt 3 11 = some (11, .iload_n 1, 1, []) from by decide +kernel) rfl ?_
  refine e_istore_n (show pAt 3 12 = some (12, .istore_n 2, 1, []) from by decide +kernel) ⟨Nat.le_of_ble_eq_true rfl, rfl⟩ rfl ?_
  refine e_iconst (c := 0) (show pAt 3 13 = some (13, .iconst 0, 1, []) from by decide +kernel) (by decide) ?_
  refine e_istore_n (show pAt 3 14 = some (14, .istore_n 3, 1, []) from by decide +kernel) ⟨Nat.le_of_ble_eq_true rfl, rfl⟩ rfl ?_
  refine e_iload_n (show pAt 3 15 = some (15, .iload_n 3, 1, []) from by decide +kernel) rfl ?_
  refine e_bipush (c := 7) (show pAt 3 16 = some (16, .bipush 7, 2, []) from by decide +kernel) (by decide) ?_
  refine e_icmp (t := 58) (show pAt 3 18 = some (18, .if_icmp .ge 40, 3, []) from by decide +kernel) rfl (fun c3 => absurd c3 (by decide)) (fun c3 => ?_)
  refine e_iload_n (show pAt 3 21 = some (21, .iload_n 2, 1, []) from by decide +kernel) rfl ?_
  refine e_if (t := 58) (show pAt 3 22 = some (22, .ifCond .lt 36, 3, []) from by decide +kernel) rfl (fun c4 => absurd c4 (by decide)) (fun c4 => ?_)
  refine e_iload_n (show pAt 3 25 = some (25, .iload_n 2, 1, []) from by decide +kernel) rfl ?_
  refine e_bipush (c := 7) (show pAt 3 26 = some (26, .bipush 7, 2, []) from by decide +kernel) (by decide) ?_
  refine e_icmp (t := 58) (show pAt 3 28 = some (28, .if_icmp .ge 30, 3, []) from by decide +kernel) rfl (fun c5 => absurd c5 (by decide)) (fun c5 => ?_)
  refine e_gs2 (show pAt 3 31 = some (31, .getstatic 19, 3, [1, 0, 4064]) from by decide +kernel) ?_
  refine e_iload_n (show pAt 3 34 = some (34, .iload_n 0, 1, []) from by decide +kernel) rfl ?_
  refine e_bipush (c := 7) (show pAt 3 35 = some (35, .bipush 7, 2, []) from by decide +kernel) (by decide) ?_
  refine e_imul (show pAt 3 37 = some (37, .imul, 1, []) from by decide +kernel) ?_
  refine e_iload_n (show pAt 3 38 = some (38, .iload_n 2, 1, []) from by decide +kernel) rfl ?_
  refine e_iadd (show pAt 3 39 = some (39, .iadd, 1, []) from by decide +kernel) ?_
  refine e_so2 (show pAt 3 40 = some (40, .iaload, 1, []) from by decide +kernel) (by decide) ?_
  refine e_if (t := 46) (show pAt 3 41 = some (41, .ifCond .eq 5, 3, []) from by decide +kernel) rfl (fun c6 => ?_) (fun c6 => absurd c6 (by decide))
  refine e_gs1 (show pAt 3 46 = some (46, .getstatic 22, 3, [0, 1, 4066]) from by decide +kernel) ?_
  refine e_iload_n (show pAt 3 49 = some (49, .iload_n 2, 1, []) from by decide +kernel) rfl ?_
  refine e_so1 (show pAt 3 50 = some (50, .iaload, 1, []) from by decide +kernel) (by decide) ?_
  refine e_istore_n (show pAt 3 51 = some (51, .istore_n 2, 1, []) from by decide +kernel) ⟨Nat.le_of_ble_eq_true rfl, rfl⟩ rfl ?_
  refine e_iinc (c := 1) (show pAt 3 52 = some (52, .iinc 3 1, 3, []) from by decide +kernel) rfl rfl (by decide) rfl ?_
  refine e_goto (t := 15) (show pAt 3 55 = some (55, .goto (-40), 3, []) from by decide +kernel) rfl ?_
  refine e_iload_n (show pAt 3 15 = some (15, .iload_n 3, 1, []) from by decide +kernel) rfl ?_
  refine e_bipush (c := 7) (show pAt 3 16 = some (16, .bipush 7, 2, []) from by decide +kernel) (by decide) ?_
  refine e_icmp (t := 58) (show pAt 3 18 = some (18, .if_icmp .ge 40, 3, []) from by decide +kernel) rfl (fun c7 => absurd c7 (by decide)) (fun c7 => ?_)
  refine e_iload_n (show pAt 3 21 = some (21, .iload_n 2, 1, []) from by decide +kernel) rfl ?_
  refine e_if (t := 58) (show pAt 3 22 = some (22, .ifCond .lt 36, 3, []) from by decide +kernel) rfl (fun c8 => absurd c8 (by decide)) (fun c8 => ?_)
  refine e_iload_n (show pAt 3 25 = some (25, .iload_n 2, 1, []) from by decide +kernel) rfl ?_
  refine e_bipush (c := 7) (show pAt 3 26 = some (26, .bipush 7, 2, []) from by decide +kernel) (by decide) ?_
  refine e_icmp (t := 58) (show pAt 3 28 = some (28, .if_icmp .ge 30, 3, []) from by decide +kernel) rfl (fun c9 => absurd c9 (by decide)) (fun c9 => ?_)
  refine e_gs2 (show pAt 3 31 = some (31, .getstatic 19, 3, [1, 0, 4064]) from by decide +kernel) ?_
  refine e_iload_n (show pAt 3 34 = some (34, .iload_n 0, 1, []) from by decide +kernel) rfl ?_
  refine e_bipush (c := 7) (show pAt 3 35 = some (35, .bipush 7, 2, []) from by decide +kernel) (by decide) ?_
  refine e_imul (show pAt 3 37 = some (37, .imul, 1, []) from by decide +kernel) ?_
  refine e_iload_n (show pAt 3 38 = some (38, .iload_n 2, 1, []) from by decide +kernel) rfl ?_
  refine e_iadd (show pAt 3 39 = some (39, .iadd, 1, []) from by decide +kernel) ?_
  refine e_so2 (show pAt 3 40 = some (40, .iaload, 1, []) from by decide +kernel) (by decide) ?_
  refine e_if (t := 46) (show pAt 3 41 = some (41, .ifCond .eq 5, 3, []) from by decide +kernel) rfl (fun c10 => absurd c10 (by decide)) (fun c10 => ?_)
  refine e_iload_n (show pAt 3 44 = some (44, .iload_n 2, 1, []) from by decide +kernel) rfl ?_
  exact e_retI (show pAt 3 45 = some (45, .ireturn, 1, []) from by decide +kernel) rfl vc

theorem w_own13 {X : Scr} {dp : Nat} {h : Hp} {Q : Option Value → Hp → Prop}  (hs : HS h)
    (vc : Q (some (.int (aboveL.getD (3 : Int32).toNatClampNeg 0))) h) :
    Ends X dp 3 0 [.int 1, .int 3, .retAddr 0, .retAddr 0] [] h Q := by
  refine e_iload_n (show pAt 3 0 = some (0, .iload_n 0, 1, []) from by decide +kernel) rfl ?_
  refine e_if (t := 9) (show pAt 3 1 = some (1, .ifCond .lt 8, 3, []) from by decide +kernel) rfl (fun c1 => absurd c1 (by decide)) (fun c1 => ?_)
  refine e_iload_n (show pAt 3 4 = some (4, .iload_n 0, 1, []) from by decide +kernel) rfl ?_
  refine e_iconst (c := 2) (show pAt 3 5 = some (5, .iconst 2, 1, []) from by decide +kernel) (by decide) ?_
  refine e_icmp (t := 11) (show pAt 3 6 = some (6, .if_icmp .le 5, 3, []) from by decide +kernel) rfl (fun c2 => ?_) (fun c2 => absurd c2 (by decide))
  refine e_iload_n (show pAt 3 11 = some (11, .iload_n 1, 1, []) from by decide +kernel) rfl ?_
  refine e_istore_n (show pAt 3 12 = some (12, .istore_n 2, 1, []) from by decide +kernel) ⟨Nat.le_of_ble_eq_true rfl, rfl⟩ rfl ?_
  refine e_iconst (c := 0) (show pAt 3 13 = some (13, .iconst 0, 1, []) from by decide +kernel) (by decide) ?_
  refine e_istore_n (show pAt 3 14 = some (14, .istore_n 3, 1, []) from by decide +kernel) ⟨Nat.le_of_ble_eq_true rfl, rfl⟩ rfl ?_
  refine e_iload_n (show pAt 3 15 = some (15, .iload_n 3, 1, []) from by decide +kernel) rfl ?_
  refine e_bipush (c := 7) (show pAt 3 16 = some (16, .bipush 7, 2, []) from by decide +kernel) (by decide) ?_
  refine e_icmp (t := 58) (show pAt 3 18 = some (18, .if_icmp .ge 40, 3, []) from by decide +kernel) rfl (fun c3 => absurd c3 (by decide)) (fun c3 => ?_)
  refine e_iload_n (show pAt 3 21 = some (21, .iload_n 2, 1, []) from by decide +kernel) rfl ?_
  refine e_if (t := 58) (show pAt 3 22 = some (22, .ifCond .lt 36, 3, []) from by decide +kernel) rfl (fun c4 => absurd c4 (by decide)) (fun c4 => ?_)
  refine e_iload_n (show pAt 3 25 = some (25, .iload_n 2, 1, []) from by decide +kernel) rfl ?_
  refine e_bipush (c := 7) (show pAt 3 26 = some (26, .bipush 7, 2, []) from by decide +kernel) (by decide) ?_
  refine e_icmp (t := 58) (show pAt 3 28 = some (28, .if_icmp .ge 30, 3, []) from by decide +kernel) rfl (fun c5 => absurd c5 (by decide)) (fun c5 => ?_)
  refine e_gs2 (show pAt 3 31 = some (31, .getstatic 19, 3, [1, 0, 4064]) from by decide +kernel) ?_
  refine e_iload_n (show pAt 3 34 = some (34, .iload_n 0, 1, []) from by decide +kernel) rfl ?_
  refine e_bipush (c := 7) (show pAt 3 35 = some (35, .bipush 7, 2, []) from by decide +kernel) (by decide) ?_
  refine e_imul (show pAt 3 37 = some (37, .imul, 1, []) from by decide +kernel) ?_
  refine e_iload_n (show pAt 3 38 = some (38, .iload_n 2, 1, []) from by decide +kernel) rfl ?_
  refine e_iadd (show pAt 3 39 = some (39, .iadd, 1, []) from by decide +kernel) ?_
  refine e_so2 (show pAt 3 40 = some (40, .iaload, 1, []) from by decide +kernel) (by decide) ?_
  refine e_if (t := 46) (show pAt 3 41 = some (41, .ifCond .eq 5, 3, []) from by decide +kernel) rfl (fun c6 => ?_) (fun c6 => absurd c6 (by decide))
  refine e_gs1 (show pAt 3 46 = some (46, .getstatic 22, 3, [0, 1, 4066]) from by decide +kernel) ?_
  refine e_iload_n (show pAt 3 49 = some (49, .iload_n 2, 1, []) from by decide +kernel) rfl ?_
  refine e_so1 (show pAt 3 50 = some (50, .iaload, 1, []) from by decide +kernel) (by decide) ?_
  refine e_istore_n (show pAt 3 51 = some (51, .istore_n 2, 1, []) from by decide +kernel) ⟨Nat.le_of_ble_eq_true rfl, rfl⟩ rfl ?_
  refine e_iinc (c := 1) (show pAt 3 52 = some (52, .iinc 3 1, 3, []) from by decide +kernel) rfl rfl (by decide) rfl ?_
  refine e_goto (t := 15) (show pAt 3 55 = some (55, .goto (-40), 3, []) from by decide +kernel) rfl ?_
  refine e_iload_n (show pAt 3 15 = some (15, .iload_n 3, 1, []) from by decide +kernel) rfl ?_
  refine e_bipush (c := 7) (show pAt 3 16 = some (16, .bipush 7, 2, []) from by decide +kernel) (by decide) ?_
  refine e_icmp (t := 58) (show pAt 3 18 = some (18, .if_icmp .ge 40, 3, []) from by decide +kernel) rfl (fun c7 => absurd c7 (by decide)) (fun c7 => ?_)
  refine e_iload_n (show pAt 3 21 = some (21, .iload_n 2, 1, []) from by decide +kernel) rfl ?_
  refine e_if (t := 58) (show pAt 3 22 = some (22, .ifCond .lt 36, 3, []) from by decide +kernel) rfl (fun c8 => absurd c8 (by decide)) (fun c8 => ?_)
  refine e_iload_n (show pAt 3 25 = some (25, .iload_n 2, 1, []) from by decide +kernel) rfl ?_
  refine e_bipush (c := 7) (show pAt 3 26 = some (26, .bipush 7, 2, []) from by decide +kernel) (by decide) ?_
  refine e_icmp (t := 58) (show pAt 3 28 = some (28, .if_icmp .ge 30, 3, []) from by decide +kernel) rfl (fun c9 => absurd c9 (by decide)) (fun c9 => ?_)
  refine e_gs2 (show pAt 3 31 = some (31, .getstatic 19, 3, [1, 0, 4064]) from by decide +kernel) ?_
  refine e_iload_n (show pAt 3 34 = some (34, .iload_n 0, 1, []) from by decide +kernel) rfl ?_
  refine e_bipush (c := 7) (show pAt 3 35 = some (35, .bipush 7, 2, []) from by decide +kernel) (by decide) ?_
  refine e_imul (show pAt 3 37 = some (37, .imul, 1, []) from by decide +kernel) ?_
  refine e_iload_n (show pAt 3 38 = some (38, .iload_n 2, 1, []) from by decide +kernel) rfl ?_
  refine e_iadd (show pAt 3 39 = some (39, .iadd, 1, []) from by decide +kernel) ?_
  refine e_so2 (show pAt 3 40 = some (40, .iaload, 1, []) from by decide +kernel) (by decide) ?_
  refine e_if (t := 46) (show pAt 3 41 = some (41, .ifCond .eq 5, 3, []) from by decide +kernel) rfl (fun c10 => absurd c10 (by decide)) (fun c10 => ?_)
  refine e_iload_n (show pAt 3 44 = some (44, .iload_n 2, 1, []) from by decide +kernel) rfl ?_
  exact e_retI (show pAt 3 45 = some (45, .ireturn, 1, []) from by decide +kernel) rfl vc

theorem w_own14 {X : Scr} {dp : Nat} {h : Hp} {Q : Option Value → Hp → Prop}  (hs : HS h)
    (vc : Q (some (.int 4)) h) :
    Ends X dp 3 0 [.int 1, .int 4, .retAddr 0, .retAddr 0] [] h Q := by
  refine e_iload_n (show pAt 3 0 = some (0, .iload_n 0, 1, []) from by decide +kernel) rfl ?_
  refine e_if (t := 9) (show pAt 3 1 = some (1, .ifCond .lt 8, 3, []) from by decide +kernel) rfl (fun c1 => absurd c1 (by decide)) (fun c1 => ?_)
  refine e_iload_n (show pAt 3 4 = some (4, .iload_n 0, 1, []) from by decide +kernel) rfl ?_
  refine e_iconst (c := 2) (show pAt 3 5 = some (5, .iconst 2, 1, []) from by decide +kernel) (by decide) ?_
  refine e_icmp (t := 11) (show pAt 3 6 = some (6, .if_icmp .le 5, 3, []) from by decide +kernel) rfl (fun c2 => ?_) (fun c2 => absurd c2 (by decide))
  refine e_iload_n (show pAt 3 11 = some (11, .iload_n 1, 1, []) from by decide +kernel) rfl ?_
  refine e_istore_n (show pAt 3 12 = some (12, .istore_n 2, 1, []) from by decide +kernel) ⟨Nat.le_of_ble_eq_true rfl, rfl⟩ rfl ?_
  refine e_iconst (c := 0) (show pAt 3 13 = some (13, .iconst 0, 1, []) from by decide +kernel) (by decide) ?_
  refine e_istore_n (show pAt 3 14 = some (14, .istore_n 3, 1, []) from by decide +kernel) ⟨Nat.le_of_ble_eq_true rfl, rfl⟩ rfl ?_
  refine e_iload_n (show pAt 3 15 = some (15, .iload_n 3, 1, []) from by decide +kernel) rfl ?_
  refine e_bipush (c := 7) (show pAt 3 16 = some (16, .bipush 7, 2, []) from by decide +kernel) (by decide) ?_
  refine e_icmp (t := 58) (show pAt 3 18 = some (18, .if_icmp .ge 40, 3, []) from by decide +kernel) rfl (fun c3 => absurd c3 (by decide)) (fun c3 => ?_)
  refine e_iload_n (show pAt 3 21 = some (21, .iload_n 2, 1, []) from by decide +kernel) rfl ?_
  refine e_if (t := 58) (show pAt 3 22 = some (22, .ifCond .lt 36, 3, []) from by decide +kernel) rfl (fun c4 => absurd c4 (by decide)) (fun c4 => ?_)
  refine e_iload_n (show pAt 3 25 = some (25, .iload_n 2, 1, []) from by decide +kernel) rfl ?_
  refine e_bipush (c := 7) (show pAt 3 26 = some (26, .bipush 7, 2, []) from by decide +kernel) (by decide) ?_
  refine e_icmp (t := 58) (show pAt 3 28 = some (28, .if_icmp .ge 30, 3, []) from by decide +kernel) rfl (fun c5 => absurd c5 (by decide)) (fun c5 => ?_)
  refine e_gs2 (show pAt 3 31 = some (31, .getstatic 19, 3, [1, 0, 4064]) from by decide +kernel) ?_
  refine e_iload_n (show pAt 3 34 = some (34, .iload_n 0, 1, []) from by decide +kernel) rfl ?_
  refine e_bipush (c := 7) (show pAt 3 35 = some (35, .bipush 7, 2, []) from by decide +kernel) (by decide) ?_
  refine e_imul (show pAt 3 37 = some (37, .imul, 1, []) from by decide +kernel) ?_
  refine e_iload_n (show pAt 3 38 = some (38, .iload_n 2, 1, []) from by decide +kernel) rfl ?_
  refine e_iadd (show pAt 3 39 = some (39, .iadd, 1, []) from by decide +kernel) ?_
  refine e_so2 (show pAt 3 40 = some (40, .iaload, 1, []) from by decide +kernel) (by decide) ?_
  refine e_if (t := 46) (show pAt 3 41 = some (41, .ifCond .eq 5, 3, []) from by decide +kernel) rfl (fun c6 => absurd c6 (by decide)) (fun c6 => ?_)
  refine e_iload_n (show pAt 3 44 = some (44, .iload_n 2, 1, []) from by decide +kernel) rfl ?_
  exact e_retI (show pAt 3 45 = some (45, .ireturn, 1, []) from by decide +kernel) rfl vc

theorem w_own15 {X : Scr} {dp : Nat} {h : Hp} {Q : Option Value → Hp → Prop}  (hs : HS h)
    (vc : Q (some (.int (aboveL.getD (aboveL.getD (5 : Int32).toNatClampNeg 0).toNatClampNeg 0))) h) :
    Ends X dp 3 0 [.int 1, .int 5, .retAddr 0, .retAddr 0] [] h Q := by
  refine e_iload_n (show pAt 3 0 = some (0, .iload_n 0, 1, []) from by decide +kernel) rfl ?_
  refine e_if (t := 9) (show pAt 3 1 = some (1, .ifCond .lt 8, 3, []) from by decide +kernel) rfl (fun c1 => absurd c1 (by decide)) (fun c1 => ?_)
  refine e_iload_n (show pAt 3 4 = some (4, .iload_n 0, 1, []) from by decide +kernel) rfl ?_
  refine e_iconst (c := 2) (show pAt 3 5 = some (5, .iconst 2, 1, []) from by decide +kernel) (by decide) ?_
  refine e_icmp (t := 11) (show pAt 3 6 = some (6, .if_icmp .le 5, 3, []) from by decide +kernel) rfl (fun c2 => ?_) (fun c2 => absurd c2 (by decide))
  refine e_iload_n (show pAt 3 11 = some (11, .iload_n 1, 1, []) from by decide +kernel) rfl ?_
  refine e_istore_n (show pAt 3 12 = some (12, .istore_n 2, 1, []) from by decide +kernel) ⟨Nat.le_of_ble_eq_true rfl, rfl⟩ rfl ?_
  refine e_iconst (c := 0) (show pAt 3 13 = some (13, .iconst 0, 1, []) from by decide +kernel) (by decide) ?_
  refine e_istore_n (show pAt 3 14 = some (14, .istore_n 3, 1, []) from by decide +kernel) ⟨Nat.le_of_ble_eq_true rfl, rfl⟩ rfl ?_
  refine e_iload_n (show pAt 3 15 = some (15, .iload_n 3, 1, []) from by decide +kernel) rfl ?_
  refine e_bipush (c := 7) (show pAt 3 16 = some (16, .bipush 7, 2, []) from by decide +kernel) (by decide) ?_
  refine e_icmp (t := 58) (show pAt 3 18 = some (18, .if_icmp .ge 40, 3, []) from by decide +kernel) rfl (fun c3 => absurd c3 (by decide)) (fun c3 => ?_)
  refine e_iload_n (show pAt 3 21 = some (21, .iload_n 2, 1, []) from by decide +kernel) rfl ?_
  refine e_if (t := 58) (show pAt 3 22 = some (22, .ifCond .lt 36, 3, []) from by decide +kernel) rfl (fun c4 => absurd c4 (by decide)) (fun c4 => ?_)
  refine e_iload_n (show pAt 3 25 = some (25, .iload_n 2, 1, []) from by decide +kernel) rfl ?_
  refine e_bipush (c := 7) (show pAt 3 26 = some (26, .bipush 7, 2, []) from by decide +kernel) (by decide) ?_
  refine e_icmp (t := 58) (show pAt 3 28 = some (28, .if_icmp .ge 30, 3, []) from by decide +kernel) rfl (fun c5 => absurd c5 (by decide)) (fun c5 => ?_)
  refine e_gs2 (show pAt 3 31 = some (31, .getstatic 19, 3, [1, 0, 4064]) from by decide +kernel) ?_
  refine e_iload_n (show pAt 3 34 = some (34, .iload_n 0, 1, []) from by decide +kernel) rfl ?_
  refine e_bipush (c := 7) (show pAt 3 35 = some (35, .bipush 7, 2, []) from by decide +kernel) (by decide) ?_
  refine e_imul (show pAt 3 37 = some (37, .imul, 1, []) from by decide +kernel) ?_
  refine e_iload_n (show pAt 3 38 = some (38, .iload_n 2, 1, []) from by decide +kernel) rfl ?_
  refine e_iadd (show pAt 3 39 = some (39, .iadd, 1, []) from by decide +kernel) ?_
  refine e_so2 (show pAt 3 40 = some (40, .iaload, 1, []) from by decide +kernel) (by decide) ?_
  refine e_if (t := 46) (show pAt 3 41 = some (41, .ifCond .eq 5, 3, []) from by decide +kernel) rfl (fun c6 => ?_) (fun c6 => absurd c6 (by decide))
  refine e_gs1 (show pAt 3 46 = some (46, .getstatic 22, 3, [0, 1, 4066]) from by decide +kernel) ?_
  refine e_iload_n (show pAt 3 49 = some (49, .iload_n 2, 1, []) from by decide +kernel) rfl ?_
  refine e_so1 (show pAt 3 50 = some (50, .iaload, 1, []) from by decide +kernel) (by decide) ?_
  refine e_istore_n (show pAt 3 51 = some (51, .istore_n 2, 1, []) from by decide +kernel) ⟨Nat.le_of_ble_eq_true rfl, rfl⟩ rfl ?_
  refine e_iinc (c := 1) (show pAt 3 52 = some (52, .iinc 3 1, 3, []) from by decide +kernel) rfl rfl (by decide) rfl ?_
  refine e_goto (t := 15) (show pAt 3 55 = some (55, .goto (-40), 3, []) from by decide +kernel) rfl ?_
  refine e_iload_n (show pAt 3 15 = some (15, .iload_n 3, 1, []) from by decide +kernel) rfl ?_
  refine e_bipush (c := 7) (show pAt 3 16 = some (16, .bipush 7, 2, []) from by decide +kernel) (by decide) ?_
  refine e_icmp (t := 58) (show pAt 3 18 = some (18, .if_icmp .ge 40, 3, []) from by decide +kernel) rfl (fun c7 => absurd c7 (by decide)) (fun c7 => ?_)
  refine e_iload_n (show pAt 3 21 = some (21, .iload_n 2, 1, []) from by decide +kernel) rfl ?_
  refine e_if (t := 58) (show pAt 3 22 = some (22, .ifCond .lt 36, 3, []) from by decide +kernel) rfl (fun c8 => absurd c8 (by decide)) (fun c8 => ?_)
  refine e_iload_n (show pAt 3 25 = some (25, .iload_n 2, 1, []) from by decide +kernel) rfl ?_
  refine e_bipush (c := 7) (show pAt 3 26 = some (26, .bipush 7, 2, []) from by decide +kernel) (by decide) ?_
  refine e_icmp (t := 58) (show pAt 3 28 = some (28, .if_icmp .ge 30, 3, []) from by decide +kernel) rfl (fun c9 => absurd c9 (by decide)) (fun c9 => ?_)
  refine e_gs2 (show pAt 3 31 = some (31, .getstatic 19, 3, [1, 0, 4064]) from by decide +kernel) ?_
  refine e_iload_n (show pAt 3 34 = some (34, .iload_n 0, 1, []) from by decide +kernel) rfl ?_
  refine e_bipush (c := 7) (show pAt 3 35 = some (35, .bipush 7, 2, []) from by decide +kernel) (by decide) ?_
  refine e_imul (show pAt 3 37 = some (37, .imul, 1, []) from by decide +kernel) ?_
  refine e_iload_n (show pAt 3 38 = some (38, .iload_n 2, 1, []) from by decide +kernel) rfl ?_
  refine e_iadd (show pAt 3 39 = some (39, .iadd, 1, []) from by decide +kernel) ?_
  refine e_so2 (show pAt 3 40 = some (40, .iaload, 1, []) from by decide +kernel) (by decide) ?_
  refine e_if (t := 46) (show pAt 3 41 = some (41, .ifCond .eq 5, 3, []) from by decide +kernel) rfl (fun c10 => ?_) (fun c10 => absurd c10 (by decide))
  refine e_gs1 (show pAt 3 46 = some (46, .getstatic 22, 3, [0, 1, 4066]) from by decide +kernel) ?_
  refine e_iload_n (show pAt 3 49 = some (49, .iload_n 2, 1, []) from by decide +kernel) rfl ?_
  refine e_so1 (show pAt 3 50 = some (50, .iaload, 1, []) from by decide +kernel) (by decide) ?_
  refine e_istore_n (show pAt 3 51 = some (51, .istore_n 2, 1, []) from by decide +kernel) ⟨Nat.le_of_ble_eq_true rfl, rfl⟩ rfl ?_
  refine e_iinc (c := 1) (show pAt 3 52 = some (52, .iinc 3 1, 3, []) from by decide +kernel) rfl rfl (by decide) rfl ?_
  refine e_goto (t := 15) (show pAt 3 55 = some (55, .goto (-40), 3, []) from by decide +kernel) rfl ?_
  refine e_iload_n (show pAt 3 15 = some (15, .iload_n 3, 1, []) from by decide +kernel) rfl ?_
  refine e_bipush (c := 7) (show pAt 3 16 = some (16, .bipush 7, 2, []) from by decide +kernel) (by decide) ?_
  refine e_icmp (t := 58) (show pAt 3 18 = some (18, .if_icmp .ge 40, 3, []) from by decide +kernel) rfl (fun c11 => absurd c11 (by decide)) (fun c11 => ?_)
  refine e_iload_n (show pAt 3 21 = some (21, .iload_n 2, 1, []) from by decide +kernel) rfl ?_
  refine e_if (t := 58) (show pAt 3 22 = some (22, .ifCond .lt 36, 3, []) from by decide +kernel) rfl (fun c12 => absurd c12 (by decide)) (fun c12 => ?_)
  refine e_iload_n (show pAt 3 25 = some (25, .iload_n 2, 1, []) from by decide +kernel) rfl ?_
  refine e_bipush (c := 7) (show pAt 3 26 = some (26, .bipush 7, 2, []) from by decide +kernel) (by decide) ?_
  refine e_icmp (t := 58) (show pAt 3 28 = some (28, .if_icmp .ge 30, 3, []) from by decide +kernel) rfl (fun c13 => absurd c13 (by decide)) (fun c13 => ?_)
  refine e_gs2 (show pAt 3 31 = some (31, .getstatic 19, 3, [1, 0, 4064]) from by decide +kernel) ?_
  refine e_iload_n (show pAt 3 34 = some (34, .iload_n 0, 1, []) from by decide +kernel) rfl ?_
  refine e_bipush (c := 7) (show pAt 3 35 = some (35, .bipush 7, 2, []) from by decide +kernel) (by decide) ?_
  refine e_imul (show pAt 3 37 = some (37, .imul, 1, []) from by decide +kernel) ?_
  refine e_iload_n (show pAt 3 38 = some (38, .iload_n 2, 1, []) from by decide +kernel) rfl ?_
  refine e_iadd (show pAt 3 39 = some (39, .iadd, 1, []) from by decide +kernel) ?_
  refine e_so2 (show pAt 3 40 = some (40, .iaload, 1, []) from by decide +kernel) (by decide) ?_
  refine e_if (t := 46) (show pAt 3 41 = some (41, .ifCond .eq 5, 3, []) from by decide +kernel) rfl (fun c14 => absurd c14 (by decide)) (fun c14 => ?_)
  refine e_iload_n (show pAt 3 44 = some (44, .iload_n 2, 1, []) from by decide +kernel) rfl ?_
  exact e_retI (show pAt 3 45 = some (45, .ireturn, 1, []) from by decide +kernel) rfl vc

theorem w_own16 {X : Scr} {dp : Nat} {h : Hp} {Q : Option Value → Hp → Prop}  (hs : HS h)
    (vc : Q (some (.int 6)) h) :
    Ends X dp 3 0 [.int 1, .int 6, .retAddr 0, .retAddr 0] [] h Q := by
  refine e_iload_n (show pAt 3 0 = some (0, .iload_n 0, 1, []) from by decide +kernel) rfl ?_
  refine e_if (t := 9) (show pAt 3 1 = some (1, .ifCond .lt 8, 3, []) from by decide +kernel) rfl (fun c1 => absurd c1 (by decide)) (fun c1 => ?_)
  refine e_iload_n (show pAt 3 4 = some (4, .iload_n 0, 1, []) from by decide +kernel) rfl ?_
  refine e_iconst (c := 2) (show pAt 3 5 = some (5, .iconst 2, 1, []) from by decide +kernel) (by decide) ?_
  refine e_icmp (t := 11) (show pAt 3 6 = some (6, .if_icmp .le 5, 3, []) from by decide +kernel) rfl (fun c2 => ?_) (fun c2 => absurd c2 (by decide))
  refine e_iload_n (show pAt 3 11 = some (11, .iload_n 1, 1, []) from by decide +kernel) rfl ?_
  refine e_istore_n (show pAt 3 12 = some (12, .istore_n 2, 1, []) from by decide +kernel) ⟨Nat.le_of_ble_eq_true rfl, rfl⟩ rfl ?_
  refine e_iconst (c := 0) (show pAt 3 13 = some (13, .iconst 0, 1, []) from by decide +kernel) (by decide) ?_
  refine e_istore_n (show pAt 3 14 = some (14, .istore_n 3, 1, []) from by decide +kernel) ⟨Nat.le_of_ble_eq_true rfl, rfl⟩ rfl ?_
  refine e_iload_n (show pAt 3 15 = some (15, .iload_n 3, 1, []) from by decide +kernel) rfl ?_
  refine e_bipush (c := 7) (show pAt 3 16 = some (16, .bipush 7, 2, []) from by decide +kernel) (by decide) ?_
  refine e_icmp (t := 58) (show pAt 3 18 = some (18, .if_icmp .ge 40, 3, []) from by decide +kernel) rfl (fun c3 => absurd c3 (by decide)) (fun c3 => ?_)
  refine e_iload_n (show pAt 3 21 = some (21, .iload_n 2, 1, []) from by decide +kernel) rfl ?_
  refine e_if (t := 58) (show pAt 3 22 = some (22, .ifCond .lt 36, 3, []) from by decide +kernel) rfl (fun c4 => absurd c4 (by decide)) (fun c4 => ?_)
  refine e_iload_n (show pAt 3 25 = some (25, .iload_n 2, 1, []) from by decide +kernel) rfl ?_
  refine e_bipush (c := 7) (show pAt 3 26 = some (26, .bipush 7, 2, []) from by decide +kernel) (by decide) ?_
  refine e_icmp (t := 58) (show pAt 3 28 = some (28, .if_icmp .ge 30, 3, []) from by decide +kernel) rfl (fun c5 => absurd c5 (by decide)) (fun c5 => ?_)
  refine e_gs2 (show pAt 3 31 = some (31, .getstatic 19, 3, [1, 0, 4064]) from by decide +kernel) ?_
  refine e_iload_n (show pAt 3 34 = some (34, .iload_n 0, 1, []) from by decide +kernel) rfl ?_
  refine e_bipush (c := 7) (show pAt 3 35 = some (35, .bipush 7, 2, []) from by decide +kernel) (by decide) ?_
  refine e_imul (show pAt 3 37 = some (37, .imul, 1, []) from by decide +kernel) ?_
  refine e_iload_n (show pAt 3 38 = some (38, .iload_n 2, 1, []) from by decide +kernel) rfl ?_
  refine e_iadd (show pAt 3 39 = some (39, .iadd, 1, []) from by decide +kernel) ?_
  refine e_so2 (show pAt 3 40 = some (40, .iaload, 1, []) from by decide +kernel) (by decide) ?_
  refine e_if (t := 46) (show pAt 3 41 = some (41, .ifCond .eq 5, 3, []) from by decide +kernel) rfl (fun c6 => absurd c6 (by decide)) (fun c6 => ?_)
  refine e_iload_n (show pAt 3 44 = some (44, .iload_n 2, 1, []) from by decide +kernel) rfl ?_
  exact e_retI (show pAt 3 45 = some (45, .ireturn, 1, []) from by decide +kernel) rfl vc

theorem w_own20 {X : Scr} {dp : Nat} {h : Hp} {Q : Option Value → Hp → Prop}  (hs : HS h)
    (vc : Q (some (.int 0)) h) :
    Ends X dp 3 0 [.int 2, .int 0, .retAddr 0, .retAddr 0] [] h Q := by
  refine e_iload_n (show pAt 3 0 = some (0, .iload_n 0, 1, []) from by decide +kernel) rfl ?_
  refine e_if (t := 9) (show pAt 3 1 = some (1, .ifCond .lt 8, 3, []) from by decide +kernel) rfl (fun c1 => absurd c1 (by decide)) (fun c1 => ?_)
  refine e_iload_n (show pAt 3 4 = some (4, .iload_n 0, 1, []) from by decide +kernel) rfl ?_
  refine e_iconst (c := 2) (show pAt 3 5 = some (5, .iconst 2, 1, []) from by decide +kernel) (by decide) ?_
  refine e_icmp (t := 11) (show pAt 3 6 = some (6, .if_icmp .le 5, 3, []) from by decide +kernel) rfl (fun c2 => ?_) (fun c2 => absurd c2 (by decide))
  refine e_iload_n (show pAt 3 11 = some (11, .iload_n 1, 1, []) from by decide +kernel) rfl ?_
  refine e_istore_n (show pAt 3 12 = some (12, .istore_n 2, 1, []) from by decide +kernel) ⟨Nat.le_of_ble_eq_true rfl, rfl⟩ rfl ?_
  refine e_iconst (c := 0) (show pAt 3 13 = some (13, .iconst 0, 1, []) from by decide +kernel) (by decide) ?_
  refine e_istore_n (show pAt 3 14 = some (14, .istore_n 3, 1, []) from by decide +kernel) ⟨Nat.le_of_ble_eq_true rfl, rfl⟩ rfl ?_
  refine e_iload_n (show pAt 3 15 = some (15, .iload_n 3, 1, []) from by decide +kernel) rfl ?_
  refine e_bipush (c := 7) (show pAt 3 16 = some (16, .bipush 7, 2, []) from by decide +kernel) (by decide) ?_
  refine e_icmp (t := 58) (show pAt 3 18 = some (18, .if_icmp .ge 40, 3, []) from by decide +kernel) rfl (fun c3 => absurd c3 (by decide)) (fun c3 => ?_)
  refine e_iload_n (show pAt 3 21 = some (21, .iload_n 2, 1, []) from by decide +kernel) rfl ?_
  refine e_if (t := 58) (show pAt 3 22 = some (22, .ifCond .lt 36, 3, []) from by decide +kernel) rfl (fun c4 => absurd c4 (by decide)) (fun c4 => ?_)
  refine e_iload_n (show pAt 3 25 = some (25, .iload_n 2, 1, []) from by decide +kernel) rfl ?_
  refine e_bipush (c := 7) (show pAt 3 26 = some (26, .bipush 7, 2, []) from by decide +kernel) (by decide) ?_
  refine e_icmp (t := 58) (show pAt 3 28 = some (28, .if_icmp .ge 30, 3, []) from by decide +kernel) rfl (fun c5 => absurd c5 (by decide)) (fun c5 => ?_)
  refine e_gs2 (show pAt 3 31 = some (31, .getstatic 19, 3, [1, 0, 4064]) from by decide +kernel) ?_
  refine e_iload_n (show pAt 3 34 = some (34, .iload_n 0, 1, []) from by decide +kernel) rfl ?_
  refine e_bipush (c := 7) (show pAt 3 35 = some (35, .bipush 7, 2, []) from by decide +kernel) (by decide) ?_
  refine e_imul (show pAt 3 37 = some (37, .imul, 1, []) from by decide +kernel) ?_
  refine e_iload_n (show pAt 3 38 = some (38, .iload_n 2, 1, []) from by decide +kernel) rfl ?_
  refine e_iadd (show pAt 3 39 = some (39, .iadd, 1, []) from by decide +kernel) ?_
  refine e_so2 (show pAt 3 40 = some (40, .iaload, 1, []) from by decide +kernel) (by decide) ?_
  refine e_if (t := 46) (show pAt 3 41 = some (41, .ifCond .eq 5, 3, []) from by decide +kernel) rfl (fun c6 => absurd c6 (by decide)) (fun c6 => ?_)
  refine e_iload_n (show pAt 3 44 = some (44, .iload_n 2, 1, []) from by decide +kernel) rfl ?_
  exact e_retI (show pAt 3 45 = some (45, .ireturn, 1, []) from by decide +kernel) rfl vc

theorem w_own21 {X : Scr} {dp : Nat} {h : Hp} {Q : Option Value → Hp → Prop}  (hs : HS h)
    (vc : Q (some (.int (aboveL.getD (1 : Int32).toNatClampNeg 0))) h) :
    Ends X dp 3 0 [.int 2, .int 1, .retAddr 0, .retAddr 0] [] h Q := by
  refine e_iload_n (show pAt 3 0 = some (0, .iload_n 0, 1, []) from by decide +kernel) rfl ?_
  refine e_if (t := 9) (show pAt 3 1 = some (1, .ifCond .lt 8, 3, []) from by decide +kernel) rfl (fun c1 => absurd c1 (by decide)) (fun c1 => ?_)
  refine e_iload_n (show pAt 3 4 = some (4, .iload_n 0, 1, []) from by decide +kernel) rfl ?_
  refine e_iconst (c := 2) (show pAt 3 5 = some (5, .iconst 2, 1, []) from by decide +kernel) (by decide) ?_
  refine e_icmp (t := 11) (show pAt 3 6 = some (6, .if_icmp .le 5, 3, []) from by decide +kernel) rfl (fun c2 => ?_) (fun c2 => absurd c2 (by decide))
  refine e_iload_n (show pAt 3 11 = some (11, .iload_n 1, 1, []) from by decide +kernel) rfl ?_
  refine e_istore_n (show pAt 3 12 = some (12, .istore_n 2, 1, []) from by decide +kernel) ⟨Nat.le_of_ble_eq_true rfl, rfl⟩ rfl ?_
  refine e_iconst (c := 0) (show pAt 3 13 = some (13, .iconst 0, 1, []) from by decide +kernel) (by decide) ?_
  refine e_istore_n (show pAt 3 14 = some (14, .istore_n 3, 1, []) from by decide +kernel) ⟨Nat.le_of_ble_eq_true rfl, rfl⟩ rfl ?_
  refine e_iload_n (show pAt 3 15 = some (15, .iload_n 3, 1, []) from by decide +kernel) rfl ?_
  refine e_bipush (c := 7) (show pAt 3 16 = some (16, .bipush 7, 2, []) from by decide +kernel) (by decide) ?_
  refine e_icmp (t := 58) (show pAt 3 18 = some (18, .if_icmp .ge 40, 3, []) from by decide +kernel) rfl (fun c3 => absurd c3 (by decide)) (fun c3 => ?_)
  refine e_iload_n (show pAt 3 21 = some (21, .iload_n 2, 1, []) from by decide +kernel) rfl ?_
  refine e_if (t := 58) (show pAt 3 22 = some (22, .ifCond .lt 36, 3, []) from by decide +kernel) rfl (fun c4 => absurd c4 (by decide)) (fun c4 => ?_)
  refine e_iload_n (show pAt 3 25 = some (25, .iload_n 2, 1, []) from by decide +kernel) rfl ?_
  refine e_bipush (c := 7) (show pAt 3 26 = some (26, .bipush 7, 2, []) from by decide +kernel) (by decide) ?_
  refine e_icmp (t := 58) (show pAt 3 28 = some (28, .if_icmp .ge 30, 3, []) from by decide +kernel) rfl (fun c5 => absurd c5 (by decide)) (fun c5 => ?_)
  refine e_gs2 (show pAt 3 31 = some (31, .getstatic 19, 3, [1, 0, 4064]) from by decide +kernel) ?_
  refine e_iload_n (show pAt 3 34 = some (34, .iload_n 0, 1, []) from by decide +kernel) rfl ?_
  refine e_bipush (c := 7) (show pAt 3 35 = some (35, .bipush 7, 2, []) from by decide +kernel) (by decide) ?_
  refine e_imul (show pAt 3 37 = some (37, .imul, 1, []) from by decide +kernel) ?_
  refine e_iload_n (show pAt 3 38 = some (38, .iload_n 2, 1, []) from by decide +kernel) rfl ?_
  refine e_iadd (show pAt 3 39 = some (39, .iadd, 1, []) from by decide +kernel) ?_
  refine e_so2 (show pAt 3 40 = some (40, .iaload, 1, []) from by decide +kernel) (by decide) ?_
  refine e_if (t := 46) (show pAt 3 41 = some (41, .ifCond .eq 5, 3, []) from by decide +kernel) rfl (fun c6 => ?_) (fun c6 => absurd c6 (by decide))
  refine e_gs1 (show pAt 3 46 = some (46, .getstatic 22, 3, [0, 1, 4066]) from by decide +kernel) ?_
  refine e_iload_n (show pAt 3 49 = some (49, .iload_n 2, 1, []) from by decide +kernel) rfl ?_
  refine e_so1 (show pAt 3 50 = some (50, .iaload, 1, []) from by decide +kernel) (by decide) ?_
  refine e_istore_n (show pAt 3 51 = some (51, .istore_n 2, 1, []) from by decide +kernel) ⟨Nat.le_of_ble_eq_true rfl, rfl⟩ rfl ?_
  refine e_iinc (c := 1) (show pAt 3 52 = some (52, .iinc 3 1, 3, []) from by decide +kernel) rfl rfl (by decide) rfl ?_
  refine e_goto (t := 15) (show pAt 3 55 = some (55, .goto (-40), 3, []) from by decide +kernel) rfl ?_
  refine e_iload_n (show pAt 3 15 = some (15, .iload_n 3, 1, []) from by decide +kernel) rfl ?_
  refine e_bipush (c := 7) (show pAt 3 16 = some (16, .bipush 7, 2, []) from by decide +kernel) (by decide) ?_
  refine e_icmp (t := 58) (show pAt 3 18 = some (18, .if_icmp .ge 40, 3, []) from by decide +kernel) rfl (fun c7 => absurd c7 (by decide)) (fun c7 => ?_)
  refine e_iload_n (show pAt 3 21 = some (21, .iload_n 2, 1, []) from by decide +kernel) rfl ?_
  refine e_if (t := 58) (show pAt 3 22 = some (22, .ifCond .lt 36, 3, []) from by decide +kernel) rfl (fun c8 => absurd c8 (by decide)) (fun c8 => ?_)
  refine e_iload_n (show pAt 3 25 = some (25, .iload_n 2, 1, []) from by decide +kernel) rfl ?_
  refine e_bipush (c := 7) (show pAt 3 26 = some (26, .bipush 7, 2, []) from by decide +kernel) (by decide) ?_
  refine e_icmp (t := 58) (show pAt 3 28 = some (28, .if_icmp .ge 30, 3, []) from by decide +kernel) rfl (fun c9 => absurd c9 (by decide)) (fun c9 => ?_)
  refine e_gs2 (show pAt 3 31 = some (31, .getstatic 19, 3, [1, 0, 4064]) from by decide +kernel) ?_
  refine e_iload_n (show pAt 3 34 = some (34, .iload_n 0, 1, []) from by decide +kernel) rfl ?_
  refine e_bipush (c := 7) (show pAt 3 35 = some (35, .bipush 7, 2, []) from by decide +kernel) (by decide) ?_
  refine e_imul (show pAt 3 37 = some (37, .imul, 1, []) from by decide +kernel) ?_
  refine e_iload_n (show pAt 3 38 = some (38, .iload_n 2, 1, []) from by decide +kernel) rfl ?_
  refine e_iadd (show pAt 3 39 = some (39, .iadd, 1, []) from by decide +kernel) ?_
  refine e_so2 (show pAt 3 40 = some (40, .iaload, 1, []) from by decide +kernel) (by decide) ?_
  refine e_if (t := 46) (show pAt 3 41 = some (41, .ifCond .eq 5, 3, []) from by decide +kernel) rfl (fun c10 => absurd c10 (by decide)) (fun c10 => ?_)
  refine e_iload_n (show pAt 3 44 = some (44, .iload_n 2, 1, []) from by decide +kernel) rfl ?_
  exact e_retI (show pAt 3 45 = some (45, .ireturn, 1, []) from by decide +kernel) rfl vc

theorem w_own22 {X : Scr} {dp : Nat} {h : Hp} {Q : Option Value → Hp → Prop}  (hs : HS h)
    (vc : Q (some (.int (aboveL.getD (2 : Int32).toNatClampNeg 0))) h) :
    Ends X dp 3 0 [.int 2, .int 2, .retAddr 0, .retAddr 0] [] h Q := by
  refine e_iload_n (show pAt 3 0 = some (0, .iload_n 0, 1, []) from by decide +kernel) rfl ?_
  refine e_if (t := 9) (show pAt 3 1 = some (1, .ifCond .lt 8, 3, []) from by decide +kernel) rfl (fun c1 => absurd c1 (by decide)) (fun c1 => ?_)
  refine e_iload_n (show pAt 3 4 = some (4, .iload_n 0, 1, []) from by decide +kernel) rfl ?_
  refine e_iconst (c := 2) (show pAt 3 5 = some (5, .iconst 2, 1, []) from by decide +kernel) (by decide) ?_
  refine e_icmp (t := 11) (show pAt 3 6 = some (6, .if_icmp .le 5, 3, []) from by decide +kernel) rfl (fun c2 => ?_) (fun c2 => absurd c2 (by decide))
  refine e_iload_n (show pAt 3 11 = some (11, .iload_n 1, 1, []) from by decide +kernel) rfl ?_
  refine e_istore_n (show pAt 3 12 = some (12, .istore_n 2, 1, []) from by decide +kernel) ⟨Nat.le_of_ble_eq_true rfl, rfl⟩ rfl ?_
  refine e_iconst (c := 0) (show pAt 3 13 = some (13, .iconst 0, 1, []) from by decide +kernel) (by decide) ?_
  refine e_istore_n (show pAt 3 14 = some (14, .istore_n 3, 1, []) from by decide +kernel) ⟨Nat.le_of_ble_eq_true rfl, rfl⟩ rfl ?_
  refine e_iload_n (show pAt 3 15 = some (15, .iload_n 3, 1, []) from by decide +kernel) rfl ?_
  refine e_bipush (c := 7) (show pAt 3 16 = some (16, .bipush 7, 2, []) from by decide +kernel) (by decide) ?_
  refine e_icmp (t := 58) (show pAt 3 18 = some (18, .if_icmp .ge 40, 3, []) from by decide +kernel) rfl (fun c3 => absurd c3 (by decide)) (fun c3 => ?_)
  refine e_iload_n (show pAt 3 21 = some (21, .iload_n 2, 1, []) from by decide +kernel) rfl ?_
  refine e_if (t := 58) (show pAt 3 22 = some (22, .ifCond .lt 36, 3, []) from by decide +kernel) rfl (fun c4 => absurd c4 (by decide)) (fun c4 => ?_)
  refine e_iload_n (show pAt 3 25 = some (25, .iload_n 2, 1, []) from by decide +kernel) rfl ?_
  refine e_bipush (c := 7) (show pAt 3 26 = some (26, .bipush 7, 2, []) from by decide +kernel) (by decide) ?_
  refine e_icmp (t := 58) (show pAt 3 28 = some (28, .if_icmp .ge 30, 3, []) from by decide +kernel) rfl (fun c5 => absurd c5 (by decide)) (fun c5 => ?_)
  refine e_gs2 (show pAt 3 31 = some (31, .getstatic 19, 3, [1, 0, 4064]) from by decide +kernel) ?_
  refine e_iload_n (show pAt 3 34 = some (34, .iload_n 0, 1, []) from by decide +kernel) rfl ?_
  refine e_bipush (c := 7) (show pAt 3 35 = some (35, .bipush 7, 2, []) from by decide +kernel) (by decide) ?_
  refine e_imul (show pAt 3 37 = some (37, .imul, 1, []) from by decide +kernel) ?_
  refine e_iload_n (show pAt 3 38 = some (38, .iload_n 2, 1, []) from by decide +kernel) rfl ?_
  refine e_iadd (show pAt 3 39 = some (39, .iadd, 1, []) from by decide +kernel) ?_
  refine e_so2 (show pAt 3 40 = some (40, .iaload, 1, []) from by decide +kernel) (by decide) ?_
  refine e_if (t := 46) (show pAt 3 41 = some (41, .ifCond .eq 5, 3, []) from by decide +kernel) rfl (fun c6 => ?_) (fun c6 => absurd c6 (by decide))
  refine e_gs1 (show pAt 3 46 = some (46, .getstatic 22, 3, [0, 1, 4066]) from by decide +kernel) ?_
  refine e_iload_n (show pAt 3 49 = some (49, .iload_n 2, 1, []) from by decide +kernel) rfl ?_
  refine e_so1 (show pAt 3 50 = some (50, .iaload, 1, []) from by decide +kernel) (by decide) ?_
  refine e_istore_n (show pAt 3 51 = some (51, .istore_n 2, 1, []) from by decide +kernel) ⟨Nat.le_of_ble_eq_true rfl, rfl⟩ rfl ?_
  refine e_iinc (c := 1) (show pAt 3 52 = some (52, .iinc 3 1, 3, []) from by decide +kernel) rfl rfl (by decide) rfl ?_
  refine e_goto (t := 15) (show pAt 3 55 = some (55, .goto (-40), 3, []) from by decide +kernel) rfl ?_
  refine e_iload_n (show pAt 3 15 = some (15, .iload_n 3, 1, []) from by decide +kernel) rfl ?_
  refine e_bipush (c := 7) (show pAt 3 16 = some (16, .bipush 7, 2, []) from by decide +kernel) (by decide) ?_
  refine e_icmp (t := 58) (show pAt 3 18 = some (18, .if_icmp .ge 40, 3, []) from by decide +kernel) rfl (fun c7 => absurd c7 (by decide)) (fun c7 => ?_)
  refine e_iload_n (show pAt 3 21 = some (21, .iload_n 2, 1, []) from by decide +kernel) rfl ?_
  refine e_if (t := 58) (show pAt 3 22 = some (22, .ifCond .lt 36, 3, []) from by decide +kernel) rfl (fun c8 => absurd c8 (by decide)) (fun c8 => ?_)
  refine e_iload_n (show pAt 3 25 = some (25, .iload_n 2, 1, []) from by decide +kernel) rfl ?_
  refine e_bipush (c := 7) (show pAt 3 26 = some (26, .bipush 7, 2, []) from by decide +kernel) (by decide) ?_
  refine e_icmp (t := 58) (show pAt 3 28 = some (28, .if_icmp .ge 30, 3, []) from by decide +kernel) rfl (fun c9 => absurd c9 (by decide)) (fun c9 => ?_)
  refine e_gs2 (show pAt 3 31 = some (31, .getstatic 19, 3, [1, 0, 4064]) from by decide +kernel) ?_
  refine e_iload_n (show pAt 3 34 = some (34, .iload_n 0, 1, []) from by decide +kernel) rfl ?_
  refine e_bipush (c := 7) (show pAt 3 35 = some (35, .bipush 7, 2, []) from by decide +kernel) (by decide) ?_
  refine e_imul (show pAt 3 37 = some (37, .imul, 1, []) from by decide +kernel) ?_
  refine e_iload_n (show pAt 3 38 = some (38, .iload_n 2, 1, []) from by decide +kernel) rfl ?_
  refine e_iadd (show pAt 3 39 = some (39, .iadd, 1, []) from by decide +kernel) ?_
  refine e_so2 (show pAt 3 40 = some (40, .iaload, 1, []) from by decide +kernel) (by decide) ?_
  refine e_if (t := 46) (show pAt 3 41 = some (41, .ifCond .eq 5, 3, []) from by decide +kernel) rfl (fun c10 => absurd c10 (by decide)) (fun c10 => ?_)
  refine e_iload_n (show pAt 3 44 = some (44, .iload_n 2, 1, []) from by decide +kernel) rfl ?_
  exact e_retI (show pAt 3 45 = some (45, .ireturn, 1, []) from by decide +kernel) rfl vc

theorem w_own23 {X : Scr} {dp : Nat} {h : Hp} {Q : Option Value → Hp → Prop}  (hs : HS h)
    (vc : Q (some (.int 3)) h) :
    Ends X dp 3 0 [.int 2, .int 3, .retAddr 0, .retAddr 0] [] h Q := by
  refine e_iload_n (show pAt 3 0 = some (0, .iload_n 0, 1, []) from by decide +kernel) rfl ?_
  refine e_if (t := 9) (show pAt 3 1 = some (1, .ifCond .lt 8, 3, []) from by decide +kernel) rfl (fun c1 => absurd c1 (by decide)) (fun c1 => ?_)
  refine e_iload_n (show pAt 3 4 = some (4, .iload_n 0, 1, []) from by decide +kernel) rfl ?_
  refine e_iconst (c := 2) (show pAt 3 5 = some (5, .iconst 2, 1, []) from by decide +kernel) (by decide) ?_
  refine e_icmp (t := 11) (show pAt 3 6 = some (6, .if_icmp .le 5, 3, []) from by decide +kernel) rfl (fun c2 => ?_) (fun c2 => absurd c2 (by decide))
  refine e_iload_n (show pAt 3 11 = some (11, .iload_n 1, 1, []) from by decide +kernel) rfl ?_
  refine e_istore_n (show pAt 3 12 = some (12, .istore_n 2, 1, []) from by decide +kernel) ⟨Nat.le_of_ble_eq_true rfl, rfl⟩ rfl ?_
  refine e_iconst (c := 0) (show pAt 3 13 = some (13, .iconst 0, 1, []) from by decide +kernel) (by decide) ?_
  refine e_istore_n (show pAt 3 14 = some (14, .istore_n 3, 1, []) from by decide +kernel) ⟨Nat.le_of_ble_eq_true rfl, rfl⟩ rfl ?_
  refine e_iload_n (show pAt 3 15 = some (15, .iload_n 3, 1, []) from by decide +kernel) rfl ?_
  refine e_bipush (c := 7) (show pAt 3 16 = some (16, .bipush 7, 2, []) from by decide +kernel) (by decide) ?_
  refine e_icmp (t := 58) (show pAt 3 18 = some (18, .if_icmp .ge 40, 3, []) from by decide +kernel) rfl (fun c3 => absurd c3 (by decide)) (fun c3 => ?_)
  refine e_iload_n (show pAt 3 21 = some (21, .iload_n 2, 1, []) from by decide +kernel) rfl ?_
  refine e_if (t := 58) (show pAt 3 22 = some (22, .ifCond .lt 36, 3, []) from by decide +kernel) rfl (fun c4 => absurd c4 (by decide)) (fun c4 => ?_)
  refine e_iload_n (show pAt 3 25 = some (25, .iload_n 2, 1, []) from by decide +kernel) rfl ?_
  refine e_bipush (c := 7) (show pAt 3 26 = some (26, .bipush 7, 2, []) from by decide +kernel) (by decide) ?_
  refine e_icmp (t := 58) (show pAt 3 28 = some (28, .if_icmp .ge 30, 3, []) from by decide +kernel) rfl (fun c5 => absurd c5 (by decide)) (fun c5 => ?_)
  refine e_gs2 (show pAt 3 31 = some (31, .getstatic 19, 3, [1, 0, 4064]) from by decide +kernel) ?_
  refine e_iload_n (show pAt 3 34 = some (34, .iload_n 0, 1, []) from by decide +kernel) rfl ?_
  refine e_bipush (c := 7) (show pAt 3 35 = some (35, .bipush 7, 2, []) from by decide +kernel) (by decide) ?_
  refine e_imul (show pAt 3 37 = some (37, .imul, 1, []) from by decide +kernel) ?_
  refine e_iload_n (show pAt 3 38 = some (38, .iload_n 2, 1, []) from by decide +kernel) rfl ?_
  refine e_iadd (show pAt 3 39 = some (39, .iadd, 1, []) from by decide +kernel) ?_
  refine e_so2 (show pAt 3 40 = some (40, .iaload, 1, []) from by decide +kernel) (by decide) ?_
  refine e_if (t := 46) (show pAt 3 41 = some (41, .ifCond .eq 5, 3, []) from by decide +kernel) rfl (fun c6 => absurd c6 (by decide)) (fun c6 => ?_)
  refine e_iload_n (show pAt 3 44 = some (44, .iload_n 2, 1, []) from by decide +kernel) rfl ?_
  exact e_retI (show pAt 3 45 = some (45, .ireturn, 1, []) from by decide +kernel) rfl vc

theorem w_own24 {X : Scr} {dp : Nat} {h : Hp} {Q : Option Value → Hp → Prop}  (hs : HS h)
    (vc : Q (some (.int (aboveL.getD (aboveL.getD (4 : Int32).toNatClampNeg 0).toNatClampNeg 0))) h) :
    Ends X dp 3 0 [.int 2, .int 4, .retAddr 0, .retAddr 0] [] h Q := by
  refine e_iload_n (show pAt 3 0 = some (0, .iload_n 0, 1, []) from by decide +kernel) rfl ?_
  refine e_if (t := 9) (show pAt 3 1 = some (1, .ifCond .lt 8, 3, []) from by decide +kernel) rfl (fun c1 => absurd c1 (by decide)) (fun c1 => ?_)
  refine e_iload_n (show pAt 3 4 = some (4, .iload_n 0, 1, []) from by decide +kernel) rfl ?_
  refine e_iconst (c := 2) (show pAt 3 5 = some (5, .iconst 2, 1, []) from by decide +kernel) (by decide) ?_
  refine e_icmp (t := 11) (show pAt 3 6 = some (6, .if_icmp .le 5, 3, []) from by decide +kernel) rfl (fun c2 => ?_) (fun c2 => absurd c2 (by decide))
  refine e_iload_n (show pAt 3 11 = some (11, .iload_n 1, 1, []) from by decide +kernel) rfl ?_
  refine e_istore_n (show pAt 3 12 = some (12, .istore_n 2, 1, []) from by decide +kernel) ⟨Nat.le_of_ble_eq_true rfl, rfl⟩ rfl ?_
  refine e_iconst (c := 0) (show pAt 3 13 = some (13, .iconst 0, 1, []) from by decide +kernel) (by decide) ?_
  refine e_istore_n (show pAt 3 14 = some (14, .istore_n 3, 1, []) from by decide +kernel) ⟨Nat.le_of_ble_eq_true rfl, rfl⟩ rfl ?_
  refine e_iload_n (show pAt 3 15 = some (15, .iload_n 3, 1, []) from by decide +kernel) rfl ?_
  refine e_bipush (c := 7) (show pAt 3 16 = some (16, .bipush 7, 2, []) from by decide +kernel) (by decide) ?_
  refine e_icmp (t := 58) (show pAt 3 18 = some (18, .if_icmp .ge 40, 3, []) from by decide +kernel) rfl (fun c3 => absurd c3 (by decide)) (fun c3 => ?_)
  refine e_iload_n (show pAt 3 21 = some (21, .iload_n 2, 1, []) from by decide +kernel) rfl ?_
  refine e_if (t := 58) (show pAt 3 22 = some (22, .ifCond .lt 36, 3, []) from by decide +kernel) rfl (fun c4 => absurd c4 (by decide)) (fun c4 => ?_)
  refine e_iload_n (show pAt 3 25 = some (25, .iload_n 2, 1, []) from by decide +kernel) rfl ?_
  refine e_bipush (c := 7) (show pAt 3 26 = some (26, .bipush 7, 2, []) from by decide +kernel) (by decide) ?_
  refine e_icmp (t := 58) (show pAt 3 28 = some (28, .if_icmp .ge 30, 3, []) from by decide +kernel) rfl (fun c5 => absurd c5 (by decide)) (fun c5 => ?_)
  refine e_gs2 (show pAt 3 31 = some (31, .getstatic 19, 3, [1, 0, 4064]) from by decide +kernel) ?_
  refine e_iload_n (show pAt 3 34 = some (34, .iload_n 0, 1, []) from by decide +kernel) rfl ?_
  refine e_bipush (c := 7) (show pAt 3 35 = some (35, .bipush 7, 2, []) from by decide +kernel) (by decide) ?_
  refine e_imul (show pAt 3 37 = some (37, .imul, 1, []) from by decide +kernel) ?_
  refine e_iload_n (show pAt 3 38 = some (38, .iload_n 2, 1, []) from by decide +kernel) rfl ?_
  refine e_iadd (show pAt 3 39 = some (39, .iadd, 1, []) from by decide +kernel) ?_
  refine e_so2 (show pAt 3 40 = some (40, .iaload, 1, []) from by decide +kernel) (by decide) ?_
  refine e_if (t := 46) (show pAt 3 41 = some (41, .ifCond .eq 5, 3, []) from by decide +kernel) rfl (fun c6 => ?_) (fun c6 => absurd c6 (by decide))
  refine e_gs1 (show pAt 3 46 = some (46, .getstatic 22, 3, [0, 1, 4066]) from by decide +kernel) ?_
  refine e_iload_n (show pAt 3 49 = some (49, .iload_n 2, 1, []) from by decide +kernel) rfl ?_
  refine e_so1 (show pAt 3 50 = some (50, .iaload, 1, []) from by decide +kernel) (by decide) ?_
  refine e_istore_n (show pAt 3 51 = some (51, .istore_n 2, 1, []) from by decide +kernel) ⟨Nat.le_of_ble_eq_true rfl, rfl⟩ rfl ?_
  refine e_iinc (c := 1) (show pAt 3 52 = some (52, .iinc 3 1, 3, []) from by decide +kernel) rfl rfl (by decide) rfl ?_
  refine e_goto (t := 15) (show pAt 3 55 = some (55, .goto (-40), 3, []) from by decide +kernel) rfl ?_
  refine e_iload_n (show pAt 3 15 = some (15, .iload_n 3, 1, []) from by decide +kernel) rfl ?_
  refine e_bipush (c := 7) (show pAt 3 16 = some (16, .bipush 7, 2, []) from by decide +kernel) (by decide) ?_
  refine e_icmp (t := 58) (show pAt 3 18 = some (18, .if_icmp .ge 40, 3, []) from by decide +kernel) rfl (fun c7 => absurd c7 (by decide)) (fun c7 => ?_)
  refine e_iload_n (show pAt 3 21 = some (21, .iload_n 2, 1, []) from by decide +kernel) rfl ?_
  refine e_if (t := 58) (show pAt 3 22 = some (22, .ifCond .lt 36, 3, []) from by decide +kernel) rfl (fun c8 => absurd c8 (by decide)) (fun c8 => ?_)
  refine e_iload_n (show pAt 3 25 = some (25, .iload_n 2, 1, []) from by decide +kernel) rfl ?_
  refine e_bipush (c := 7) (show pAt 3 26 = some (26, .bipush 7, 2, []) from by decide +kernel) (by decide) ?_
  refine e_icmp (t := 58) (show pAt 3 28 = some (28, .if_icmp .ge 30, 3, []) from by decide +kernel) rfl (fun c9 => absurd c9 (by decide)) (fun c9 => ?_)
  refine e_gs2 (show pAt 3 31 = some (31, .getstatic 19, 3, [1, 0, 4064]) from by decide +kernel) ?_
  refine e_iload_n (show pAt 3 34 = some (34, .iload_n 0, 1, []) from by decide +kernel) rfl ?_
  refine e_bipush (c := 7) (show pAt 3 35 = some (35, .bipush 7, 2, []) from by decide +kernel) (by decide) ?_
  refine e_imul (show pAt 3 37 = some (37, .imul, 1, []) from by decide +kernel) ?_
  refine e_iload_n (show pAt 3 38 = some (38, .iload_n 2, 1, []) from by decide +kernel) rfl ?_
  refine e_iadd (show pAt 3 39 = some (39, .iadd, 1, []) from by decide +kernel) ?_
  refine e_so2 (show pAt 3 40 = some (40, .iaload, 1, []) from by decide +kernel) (by decide) ?_
  refine e_if (t := 46) (show pAt 3 41 = some (41, .ifCond .eq 5, 3, []) from by decide +kernel) rfl (fun c10 => ?_) (fun c10 => absurd c10 (by decide))
  refine e_gs1 (show pAt 3 46 = some (46, .getstatic 22, 3, [0, 1, 4066]) from by decide +kernel) ?_
  refine e_iload_n (show pAt 3 49 = some (49, .iload_n 2, 1, []) from by decide +kernel) rfl ?_
  refine e_so1 (show pAt 3 50 = some (50, .iaload, 1, []) from by decide +kernel) (by decide) ?_
  refine e_istore_n (show pAt 3 51 = some (51, .istore_n 2, 1, []) from by decide +kernel) ⟨Nat.le_of_ble_eq_true rfl, rfl⟩ rfl ?_
  refine e_iinc (c := 1) (show pAt 3 52 = some (52, .iinc 3 1, 3, []) from by decide +kernel) rfl rfl (by decide) rfl ?_
  refine e_goto (t := 15) (show pAt 3 55 = some (55, .goto (-40), 3, []) from by decide +kernel) rfl ?_
  refine e_iload_n (show pAt 3 15 = some (15, .iload_n 3, 1, []) from by decide +kernel) rfl ?_
  refine e_bipush (c := 7) (show pAt 3 16 = some (16, .bipush 7, 2, []) from by decide +kernel) (by decide) ?_
  refine e_icmp (t := 58) (show pAt 3 18 = some (18, .if_icmp .ge 40, 3, []) from by decide +kernel) rfl (fun c11 => absurd c11 (by decide)) (fun c11 => ?_)
  refine e_iload_n (show pAt 3 21 = some (21, .iload_n 2, 1, []) from by decide +kernel) rfl ?_
  refine e_if (t := 58) (show pAt 3 22 = some (22, .ifCond .lt 36, 3, []) from by decide +kernel) rfl (fun c12 => absurd c12 (by decide)) (fun c12 => ?_)
  refine e_iload_n (show pAt 3 25 = some (25, .iload_n 2, 1, []) from by decide +kernel) rfl ?_
  refine e_bipush (c := 7) (show pAt 3 26 = some (26, .bipush 7, 2, []) from by decide +kernel) (by decide) ?_
  refine e_icmp (t := 58) (show pAt 3 28 = some (28, .if_icmp .ge 30, 3, []) from by decide +kernel) rfl (fun c13 => absurd c13 (by decide)) (fun c13 => ?_)
  refine e_gs2 (show pAt 3 31 = some (31, .getstatic 19, 3, [1, 0, 4064]) from by decide +kernel) ?_
  refine e_iload_n (show pAt 3 34 = some (34, .iload_n 0, 1, []) from by decide +kernel) rfl ?_
  refine e_bipush (c := 7) (show pAt 3 35 = some (35, .bipush 7, 2, []) from by decide +kernel) (by decide) ?_
  refine e_imul (show pAt 3 37 = some (37, .imul, 1, []) from by decide +kernel) ?_
  refine e_iload_n (show pAt 3 38 = some (38, .iload_n 2, 1, []) from by decide +kernel) rfl ?_
  refine e_iadd (show pAt 3 39 = some (39, .iadd, 1, []) from by decide +kernel) ?_
  refine e_so2 (show pAt 3 40 = some (40, .iaload, 1, []) from by decide +kernel) (by decide) ?_
  refine e_if (t := 46) (show pAt 3 41 = some (41, .ifCond .eq 5, 3, []) from by decide +kernel) rfl (fun c14 => absurd c14 (by decide)) (fun c14 => ?_)
  refine e_iload_n (show pAt 3 44 = some (44, .iload_n 2, 1, []) from by decide +kernel) rfl ?_
  exact e_retI (show pAt 3 45 = some (45, .ireturn, 1, []) from by decide +kernel) rfl vc

theorem w_own25 {X : Scr} {dp : Nat} {h : Hp} {Q : Option Value → Hp → Prop}  (hs : HS h)
    (vc : Q (some (.int 5)) h) :
    Ends X dp 3 0 [.int 2, .int 5, .retAddr 0, .retAddr 0] [] h Q := by
  refine e_iload_n (show pAt 3 0 = some (0, .iload_n 0, 1, []) from by decide +kernel) rfl ?_
  refine e_if (t := 9) (show pAt 3 1 = some (1, .ifCond .lt 8, 3, []) from by decide +kernel) rfl (fun c1 => absurd c1 (by decide)) (fun c1 => ?_)
  refine e_iload_n (show pAt 3 4 = some (4, .iload_n 0, 1, []) from by decide +kernel) rfl ?_
  refine e_iconst (c := 2) (show pAt 3 5 = some (5, .iconst 2, 1, []) from by decide +kernel) (by decide) ?_
  refine e_icmp (t := 11) (show pAt 3 6 = some (6, .if_icmp .le 5, 3, []) from by decide +kernel) rfl (fun c2 => ?_) (fun c2 => absurd c2 (by decide))
  refine e_iload_n (show pAt 3 11 = some (11, .iload_n 1, 1, []) from by decide +kernel) rfl ?_
  refine e_istore_n (show pAt 3 12 = some (12, .istore_n 2, 1, []) from by decide +kernel) ⟨Nat.le_of_ble_eq_true rfl, rfl⟩ rfl ?_
  refine e_iconst (c := 0) (show pAt 3 13 = some (13, .iconst 0, 1, []) from by decide +kernel) (by decide) ?_
  refine e_istore_n (show pAt 3 14 = some (14, .istore_n 3, 1, []) from by decide +kernel) ⟨Nat.le_of_ble_eq_true rfl, rfl⟩ rfl ?_
  refine e_iload_n (show pAt 3 15 = some (15, .iload_n 3, 1, []) from by decide +kernel) rfl ?_
  refine e_bipush (c := 7) (show pAt 3 16 = some (16, .bipush 7, 2, []) from by decide +kernel) (by decide) ?_
  refine e_icmp (t := 58) (show pAt 3 18 = some (18, .if_icmp .ge 40, 3, []) from by decide +kernel) rfl (fun c3 => absurd c3 (by decide)) (fun c3 => ?_)
  refine e_iload_n (show pAt 3 21 = some (21, .iload_n 2, 1, []) from by decide +kernel) rfl ?_
  refine e_if (t := 58) (show pAt 3 22 = some (22, .ifCond .lt 36, 3, []) from by decide +kernel) rfl (fun c4 => absurd c4 (by decide)) (fun c4 => ?_)
  refine e_iload_n (show pAt 3 25 = some (25, .iload_n 2, 1, []) from by decide +kernel) rfl ?_
  refine e_bipush (c := 7) (show pAt 3 26 = some (26, .bipush 7, 2, []) from by decide +kernel) (by decide) ?_
  refine e_icmp (t := 58) (show pAt 3 28 = some (28, .if_icmp .ge 30, 3, []) from by decide +kernel) rfl (fun c5 => absurd c5 (by decide)) (fun c5 => ?_)
  refine e_gs2 (show pAt 3 31 = some (31, .getstatic 19, 3, [1, 0, 4064]) from by decide +kernel) ?_
  refine e_iload_n (show pAt 3 34 = some (34, .iload_n 0, 1, []) from by decide +kernel) rfl ?_
  refine e_bipush (c := 7) (show pAt 3 35 = some (35, .bipush 7, 2, []) from by decide +kernel) (by decide) ?_
  refine e_imul (show pAt 3 37 = some (37, .imul, 1, []) from by decide +kernel) ?_
  refine e_iload_n (show pAt 3 38 = some (38, .iload_n 2, 1, []) from by decide +kernel) rfl ?_
  refine e_iadd (show pAt 3 39 = some (39, .iadd, 1, []) from by decide +kernel) ?_
  refine e_so2 (show pAt 3 40 = some (40, .iaload, 1, []) from by decide +kernel) (by decide) ?_
  refine e_if (t := 46) (show pAt 3 41 = some (41, .ifCond .eq 5, 3, []) from by decide +kernel) rfl (fun c6 => absurd c6 (by decide)) (fun c6 => ?_)
  refine e_iload_n (show pAt 3 44 = some (44, .iload_n 2, 1, []) from by decide +kernel) rfl ?_
  exact e_retI (show pAt 3 45 = some (45, .ireturn, 1, []) from by decide +kernel) rfl vc

theorem w_own26 {X : Scr} {dp : Nat} {h : Hp} {Q : Option Value → Hp → Prop}  (hs : HS h)
    (vc : Q (some (.int (aboveL.getD (6 : Int32).toNatClampNeg 0))) h) :
    Ends X dp 3 0 [.int 2, .int 6, .retAddr 0, .retAddr 0] [] h Q := by
  refine e_iload_n (show pAt 3 0 = some (0, .iload_n 0, 1, []) from by decide +kernel) rfl ?_
  refine e_if (t := 9) (show pAt 3 1 = some (1, .ifCond .lt 8, 3, []) from by decide +kernel) rfl (fun c1 => absurd c1 (by decide)) (fun c1 => ?_)
  refine e_iload_n (show pAt 3 4 = some (4, .iload_n 0, 1, []) from by decide +kernel) rfl ?_
  refine e_iconst (c := 2) (show pAt 3 5 = some (5, .iconst 2, 1, []) from by decide +kernel) (by decide) ?_
  refine e_icmp (t := 11) (show pAt 3 6 = some (6, .if_icmp .le 5, 3, []) from by decide +kernel) rfl (fun c2 => ?_) (fun c2 => absurd c2 (by decide))
  refine e_iload_n (show pAt 3 11 = some (11, .iload_n 1, 1, []) from by decide +kernel) rfl ?_
  refine e_istore_n (show pAt 3 12 = some (12, .istore_n 2, 1, []) from by decide +kernel) ⟨Nat.le_of_ble_eq_true rfl, rfl⟩ rfl ?_
  refine e_iconst (c := 0) (show pAt 3 13 = some (13, .iconst 0, 1, []) from by decide +kernel) (by decide) ?_
  refine e_istore_n (show pAt 3 14 = some (14, .istore_n 3, 1, []) from by decide +kernel) ⟨Nat.le_of_ble_eq_true rfl, rfl⟩ rfl ?_
  refine e_iload_n (show pAt 3 15 = some (15, .iload_n 3, 1, []) from by decide +kernel) rfl ?_
  refine e_bipush (c := 7) (show pAt 3 16 = some (16, .bipush 7, 2, []) from by decide +kernel) (by decide) ?_
  refine e_icmp (t := 58) (show pAt 3 18 = some (18, .if_icmp .ge 40, 3, []) from by decide +kernel) rfl (fun c3 => absurd c3 (by decide)) (fun c3 => ?_)
  refine e_iload_n (show pAt 3 21 = some (21, .iload_n 2, 1, []) from by decide +kernel) rfl ?_
  refine e_if (t := 58) (show pAt 3 22 = some (22, .ifCond .lt 36, 3, []) from by decide +kernel) rfl (fun c4 => absurd c4 (by decide)) (fun c4 => ?_)
  refine e_iload_n (show pAt 3 25 = some (25, .iload_n 2, 1, []) from by decide +kernel) rfl ?_
  refine e_bipush (c := 7) (show pAt 3 26 = some (26, .bipush 7, 2, []) from by decide +kernel) (by decide) ?_
  refine e_icmp (t := 58) (show pAt 3 28 = some (28, .if_icmp .ge 30, 3, []) from by decide +kernel) rfl (fun c5 => absurd c5 (by decide)) (fun c5 => ?_)
  refine e_gs2 (show pAt 3 31 = some (31, .getstatic 19, 3, [1, 0, 4064]) from by decide +kernel) ?_
  refine e_iload_n (show pAt 3 34 = some (34, .iload_n 0, 1, []) from by decide +kernel) rfl ?_
  refine e_bipush (c := 7) (show pAt 3 35 = some (35, .bipush 7, 2, []) from by decide +kernel) (by decide) ?_
  refine e_imul (show pAt 3 37 = some (37, .imul, 1, []) from by decide +kernel) ?_
  refine e_iload_n (show pAt 3 38 = some (38, .iload_n 2, 1, []) from by decide +kernel) rfl ?_
  refine e_iadd (show pAt 3 39 = some (39, .iadd, 1, []) from by decide +kernel) ?_
  refine e_so2 (show pAt 3 40 = some (40, .iaload, 1, []) from by decide +kernel) (by decide) ?_
  refine e_if (t := 46) (show pAt 3 41 = some (41, .ifCond .eq 5, 3, []) from by decide +kernel) rfl (fun c6 => ?_) (fun c6 => absurd c6 (by decide))
  refine e_gs1 (show pAt 3 46 = some (46, .getstatic 22, 3, [0, 1, 4066]) from by decide +kernel) ?_
  refine e_iload_n (show pAt 3 49 = some (49, .iload_n 2, 1, []) from by decide +kernel) rfl ?_
  refine e_so1 (show pAt 3 50 = some (50, .iaload, 1, []) from by decide +kernel) (by decide) ?_
  refine e_istore_n (show pAt 3 51 = some (51, .istore_n 2, 1, []) from by decide +kernel) ⟨Nat.le_of_ble_eq_true rfl, rfl⟩ rfl ?_
  refine e_iinc (c := 1) (show pAt 3 52 = some (52, .iinc 3 1, 3, []) from by decide +kernel) rfl rfl (by decide) rfl ?_
  refine e_goto (t := 15) (show pAt 3 55 = some (55, .goto (-40), 3, []) from by decide +kernel) rfl ?_
  refine e_iload_n (show pAt 3 15 = some (15, .iload_n 3, 1, []) from by decide +kernel) rfl ?_
  refine e_bipush (c := 7) (show pAt 3 16 = some (16, .bipush 7, 2, []) from by decide +kernel) (by decide) ?_
  refine e_icmp (t := 58) (show pAt 3 18 = some (18, .if_icmp .ge 40, 3, []) from by decide +kernel) rfl (fun c7 => absurd c7 (by decide)) (fun c7 => ?_)
  refine e_iload_n (show pAt 3 21 = some (21, .iload_n 2, 1, []) from by decide +kernel) rfl ?_
  refine e_if (t := 58) (show pAt 3 22 = some (22, .ifCond .lt 36, 3, []) from by decide +kernel) rfl (fun c8 => absurd c8 (by decide)) (fun c8 => ?_)
  refine e_iload_n (show pAt 3 25 = some (25, .iload_n 2, 1, []) from by decide +kernel) rfl ?_
  refine e_bipush (c := 7) (show pAt 3 26 = some (26, .bipush 7, 2, []) from by decide +kernel) (by decide) ?_
  refine e_icmp (t := 58) (show pAt 3 28 = some (28, .if_icmp .ge 30, 3, []) from by decide +kernel) rfl (fun c9 => absurd c9 (by decide)) (fun c9 => ?_)
  refine e_gs2 (show pAt 3 31 = some (31, .getstatic 19, 3, [1, 0, 4064]) from by decide +kernel) ?_
  refine e_iload_n (show pAt 3 34 = some (34, .iload_n 0, 1, []) from by decide +kernel) rfl ?_
  refine e_bipush (c := 7) (show pAt 3 35 = some (35, .bipush 7, 2, []) from by decide +kernel) (by decide) ?_
  refine e_imul (show pAt 3 37 = some (37, .imul, 1, []) from by decide +kernel) ?_
  refine e_iload_n (show pAt 3 38 = some (38, .iload_n 2, 1, []) from by decide +kernel) rfl ?_
  refine e_iadd (show pAt 3 39 = some (39, .iadd, 1, []) from by decide +kernel) ?_
  refine e_so2 (show pAt 3 40 = some (40, .iaload, 1, []) from by decide +kernel) (by decide) ?_
  refine e_if (t := 46) (show pAt 3 41 = some (41, .ifCond .eq 5, 3, []) from by decide +kernel) rfl (fun c10 => absurd c10 (by decide)) (fun c10 => ?_)
  refine e_iload_n (show pAt 3 44 = some (44, .iload_n 2, 1, []) from by decide +kernel) rfl ?_
  exact e_retI (show pAt 3 45 = some (45, .ireturn, 1, []) from by decide +kernel) rfl vc

theorem w_ctk0 {X : Scr} {dp : Nat} {h : Hp} {Q : Option Value → Hp → Prop} (p : Int32) (k : Int32) (hs : HS h)
    (vc : ((condB .ne 0 k = true → Q (some (.int (-12))) h) ∧ (condB .ne 0 k = false → Q (some (.int 0)) h))) :
    Ends X dp 93 43 [.ref 0, .int p, .int k, .int 0, .int 0, .int 0] [] h Q := by
  have ra : ∀ {a : Nat}, a < 1000 → a ≤ OLDB := fun h => by have := OLDB_eq; omega
  refine e_iload (show pAt 93 43 = some (43, .iload 5, 2, []) from by decide +kernel) rfl ?_
  refine e_bipush (c := 7) (show pAt 93 45 = some (45, .bipush 7, 2, []) from by decide +kernel) (by decide) ?_
  refine e_icmp (t := 84) (show pAt 93 47 = some (47, .if_icmp .ge 37, 3, []) from by decide +kernel) rfl (fun c1 => absurd c1 (by decide)) (fun c1 => ?_)
  refine e_iload (show pAt 93 50 = some (50, .iload 4, 2, []) from by decide +kernel) rfl ?_
  refine e_if (t := 84) (show pAt 93 52 = some (52, .ifCond .lt 32, 3, []) from by decide +kernel) rfl (fun c2 => absurd c2 (by decide)) (fun c2 => ?_)
  refine e_iload (show pAt 93 55 = some (55, .iload 4, 2, []) from by decide +kernel) rfl ?_
  refine e_bipush (c := 7) (show pAt 93 57 = some (57, .bipush 7, 2, []) from by decide +kernel) (by decide) ?_
  refine e_icmp (t := 84) (show pAt 93 59 = some (59, .if_icmp .ge 25, 3, []) from by decide +kernel) rfl (fun c3 => absurd c3 (by decide)) (fun c3 => ?_)
  refine e_iload (show pAt 93 62 = some (62, .iload 4, 2, []) from by decide +kernel) rfl ?_
  refine e_iload_n (show pAt 93 64 = some (64, .iload_n 2, 1, []) from by decide +kernel) rfl ?_
  refine e_icmp (t := 70) (show pAt 93 65 = some (65, .if_icmp .ne 5, 3, []) from by decide +kernel) rfl (fun c4 => ?_) (fun c4 => ?_)
  · replace vc := vc.1 c4
    refine e_gs1 (show pAt 93 70 = some (70, .getstatic 233, 3, [0, 0, 4081]) from by decide +kernel) ?_
    refine e_iload (show pAt 93 73 = some (73, .iload 4, 2, []) from by decide +kernel) rfl ?_
    refine e_so1 (show pAt 93 75 = some (75, .iaload, 1, []) from by decide +kernel) (by decide) ?_
    refine e_istore (show pAt 93 76 = some (76, .istore 4, 2, []) from by decide +kernel) ⟨Nat.le_of_ble_eq_true rfl, rfl⟩ rfl ?_
    refine e_iinc (c := 1) (show pAt 93 78 = some (78, .iinc 5 1, 3, []) from by decide +kernel) rfl rfl (by decide) rfl ?_
    refine e_goto (t := 43) (show pAt 93 81 = some (81, .goto (-38), 3, []) from by decide +kernel) rfl ?_
    refine e_iload (show pAt 93 43 = some (43, .iload 5, 2, []) from by decide +kernel) rfl ?_
    refine e_bipush (c := 7) (show pAt 93 45 = some (45, .bipush 7, 2, []) from by decide +kernel) (by decide) ?_
    refine e_icmp (t := 84) (show pAt 93 47 = some (47, .if_icmp .ge 37, 3, []) from by decide +kernel) rfl (fun c5 => absurd c5 (by decide)) (fun c5 => ?_)
    refine e_iload (show pAt 93 50 = some (50, .iload 4, 2, []) from by decide +kernel) rfl ?_
    refine e_if (t := 84) (show pAt 93 52 = some (52, .ifCond .lt 32, 3, []) from by decide +kernel) rfl (fun c6 => ?_) (fun c6 => absurd c6 (by decide))
    refine e_bipush (c := (-12)) (show pAt 93 84 = some (84, .bipush (-12), 2, []) from by decide +kernel) (by decide) ?_
    exact e_retI (show pAt 93 86 = some (86, .ireturn, 1, []) from by decide +kernel) rfl vc
  · replace vc := vc.2 c4
    refine e_iload_n (show pAt 93 68 = some (68, .iload_n 3, 1, []) from by decide +kernel) rfl ?_
    exact e_retI (show pAt 93 69 = some (69, .ireturn, 1, []) from by decide +kernel) rfl vc

theorem w_ctk1 {X : Scr} {dp : Nat} {h : Hp} {Q : Option Value → Hp → Prop} (p : Int32) (k : Int32) (hs : HS h)
    (vc : ((condB .ne 1 k = true → ((condB .ne (aboveL.getD (1 : Int32).toNatClampNeg 0) k = true → Q (some (.int (-12))) h) ∧ (condB .ne (aboveL.getD (1 : Int32).toNatClampNeg 0) k = false → Q (some (.int 1)) h))) ∧ (condB .ne 1 k = false → Q (some (.int 1)) h))) :
    Ends X dp 93 43 [.ref 0, .int p, .int k, .int 1, .int 1, .int 0] [] h Q := by
  have ra : ∀ {a : Nat}, a < 1000 → a ≤ OLDB := fun h => by have := OLDB_eq; omega
  refine e_iload (show pAt 93 43 = some (43, .iload 5, 2, []) from by decide +kernel) rfl ?_
  refine e_bipush (c := 7) (show pAt 93 45 = some (45, .bipush 7, 2, []) from by decide +kernel) (by decide) ?_
  refine e_icmp (t := 84) (show pAt 93 47 = some (47, .if_icmp .ge 37, 3, []) from by decide +kernel) rfl (fun c1 => absurd c1 (by decide)) (fun c1 => ?_)
  refine e_iload (show pAt 93 50 = some (50, .iload 4, 2, []) from by decide +kernel) rfl ?_
  refine e_if (t := 84) (show pAt 93 52 = some (52, .ifCond .lt 32, 3, []) from by decide +kernel) rfl (fun c2 => absurd c2 (by decide)) (fun c2 => ?_)
  refine e_iload (show pAt 93 55 = some (55, .iload 4, 2, []) from by decide +kernel) rfl ?_
  refine e_bipush (c := 7) (show pAt 93 57 = some (57, .bipush 7, 2, []) from by decide +kernel) (by decide) ?_
  refine e_icmp (t := 84) (show pAt 93 59 = some (59, .if_icmp .ge 25, 3, []) from by decide +kernel) rfl (fun c3 => absurd c3 (by decide)) (fun c3 => ?_)
  refine e_iload (show pAt 93 62 = some (62, .iload 4, 2, []) from by decide +kernel) rfl ?_
  refine e_iload_n (show pAt 93 64 = some (64, .iload_n 2, 1, []) from by decide +kernel) rfl ?_
  refine e_icmp (t := 70) (show pAt 93 65 = some (65, .if_icmp .ne 5, 3, []) from by decide +kernel) rfl (fun c4 => ?_) (fun c4 => ?_)
  · replace vc := vc.1 c4
    refine e_gs1 (show pAt 93 70 = some (70, .getstatic 233, 3, [0, 0, 4081]) from by decide +kernel) ?_
    refine e_iload (show pAt 93 73 = some (73, .iload 4, 2, []) from by decide +kernel) rfl ?_
    refine e_so1 (show pAt 93 75 = some (75, .iaload, 1, []) from by decide +kernel) (by decide) ?_
    refine e_istore (show pAt 93 76 = some (76, .istore 4, 2, []) from by decide +kernel) ⟨Nat.le_of_ble_eq_true rfl, rfl⟩ rfl ?_
    refine e_iinc (c := 1) (show pAt 93 78 = some (78, .iinc 5 1, 3, []) from by decide +kernel) rfl rfl (by decide) rfl ?_
    refine e_goto (t := 43) (show pAt 93 81 = some (81, .goto (-38), 3, []) from by decide +kernel) rfl ?_
    refine e_iload (show pAt 93 43 = some (43, .iload 5, 2, []) from by decide +kernel) rfl ?_
    refine e_bipush (c := 7) (show pAt 93 45 = some (45, .bipush 7, 2, []) from by decide +kernel) (by decide) ?_
    refine e_icmp (t := 84) (show pAt 93 47 = some (47, .if_icmp .ge 37, 3, []) from by decide +kernel) rfl (fun c5 => absurd c5 (by decide)) (fun c5 => ?_)
    refine e_iload (show pAt 93 50 = some (50, .iload 4, 2, []) from by decide +kernel) rfl ?_
    refine e_if (t := 84) (show pAt 93 52 = some (52, .ifCond .lt 32, 3, []) from by decide +kernel) rfl (fun c6 => absurd c6 (by decide)) (fun c6 => ?_)
    refine e_iload (show pAt 93 55 = some (55, .iload 4, 2, []) from by decide +kernel) rfl ?_
    refine e_bipush (c := 7) (show pAt 93 57 = some (57, .bipush 7, 2, []) from by decide +kernel) (by decide) ?_
    refine e_icmp (t := 84) (show pAt 93 59 = some (59, .if_icmp .ge 25, 3, []) from by decide +kernel) rfl (fun c7 => absurd c7 (by decide)) (fun c7 => ?_)
    refine e_iload (show pAt 93 62 = some (62, .iload 4, 2, []) from by decide +kernel) rfl ?_
    refine e_iload_n (show pAt 93 64 = some (64, .iload_n 2, 1, []) from by decide +kernel) rfl ?_
    refine e_icmp (t := 70) (show pAt 93 65 = some (65, .if_icmp .ne 5, 3, []) from by decide +kernel) rfl (fun c8 => ?_) (fun c8 => ?_)
    · replace vc := vc.1 c8
      refine e_gs1 (show pAt 93 70 = some (70, .getstatic 233, 3, [0, 0, 4081]) from by decide +kernel) ?_
      refine e_iload (show pAt 93 73 = some (73, .iload 4, 2, []) from by decide +kernel) rfl ?_
      refine e_so1 (show pAt 93 75 = some (75, .iaload, 1, []) from by decide +kernel) (by decide) ?_
      refine e_istore (show pAt 93 76 = some (76, .istore 4, 2, []) from by decide +kernel) ⟨Nat.le_of_ble_eq_true rfl, rfl⟩ rfl ?_
      refine e_iinc (c := 1) (show pAt 93 78 = some (78, .iinc 5 1, 3, []) from by decide +kernel) rfl rfl (by decide) rfl ?_
      refine e_goto (t := 43) (show pAt 93 81 = some (81, .goto (-38), 3, []) from by decide +kernel) rfl ?_
      refine e_iload (show pAt 93 43 = some (43, .iload 5, 2, []) from by decide +kernel) rfl ?_
      refine e_bipush (c := 7) (show pAt 93 45 = some (45, .bipush 7, 2, []) from by decide +kernel) (by decide) ?_
      refine e_icmp (t := 84) (show pAt 93 47 = some (47, .if_icmp .ge 37, 3, []) from by decide +kernel) rfl (fun c9 => absurd c9 (by decide)) (fun c9 => ?_)
      refine e_iload (show pAt 93 50 = some (50, .iload 4, 2, []) from by decide +kernel) rfl ?_
      refine e_if (t := 84) (show pAt 93 52 = some (52, .ifCond .lt 32, 3, []) from by decide +kernel) rfl (fun c10 => ?_) (fun c10 => absurd c10 (by decide))
      refine e_bipush (c := (-12)) (show pAt 93 84 = some (84, .bipush (-12), 2, []) from by decide +kernel) (by decide) ?_
      exact e_retI (show pAt 93 86 = some (86, .ireturn, 1, []) from by decide +kernel) rfl vc
    · replace vc := vc.2 c8
      refine e_iload_n (show pAt 93 68 = some (68, .iload_n 3, 1, []) from by decide +kernel) rfl ?_
      exact e_retI (show pAt 93 69 = some (69, .ireturn, 1, []) from by decide +kernel) rfl vc
  · replace vc := vc.2 c4
    refine e_iload_n (show pAt 93 68 = some (68, .iload_n 3, 1, []) from by decide +kernel) rfl ?_
    exact e_retI (show pAt 93 69 = some (69, .ireturn, 1, []) from by decide +kernel) rfl vc

theorem w_ctk2 {X : Scr} {dp : Nat} {h : Hp} {Q : Option Value → Hp → Prop} (p : Int32) (k : Int32) (hs : HS h)
    (vc : ((condB .ne 2 k = true → ((condB .ne (aboveL.getD (2 : Int32).toNatClampNeg 0) k = true → Q (some (.int (-12))) h) ∧ (condB .ne (aboveL.getD (2 : Int32).toNatClampNeg 0) k = false → Q (some (.int 2)) h))) ∧ (condB .ne 2 k = false → Q (some (.int 2)) h))) :
    Ends X dp 93 43 [.ref 0, .int p, .int k, .int 2, .int 2, .int 0] [] h Q := by
  have ra : ∀ {a : Nat}, a < 1000 → a ≤ OLDB := fun h => by have := OLDB_eq; omega
  refine e_iload (show pAt 93 43 = some (43, .iload 5, 2, []) from by decide +kernel) rfl ?_
  refine e_bipush (c := 7) (show pAt 93 45 = some (45, .bipush 7, 2, []) from by decide +kernel) (by decide) ?_
  refine e_icmp (t := 84) (show pAt 93 47 = some (47, .if_icmp .ge 37, 3, []) from by decide +kernel) rfl (fun c1 => absurd c1 (by decide)) (fun c1 => ?_)
  refine e_iload (show pAt 93 50 = some (50, .iload 4, 2, []) from by decide +kernel) rfl ?_
  refine e_if (t := 84) (show pAt 93 52 = some (52, .ifCond .lt 32, 3, []) from by decide +kernel) rfl (fun c2 => absurd c2 (by decide)) (fun c2 => ?_)
  refine e_iload (show pAt 93 55 = some (55, .iload 4, 2, []) from by decide +kernel) rfl ?_
  refine e_bipush (c := 7) (show pAt 93 57 = some (57, .bipush 7, 2, []) from by decide +kernel) (by decide) ?_
  refine e_icmp (t := 84) (show pAt 93 59 = some (59, .if_icmp .ge 25, 3, []) from by decide +kernel) rfl (fun c3 => absurd c3 (by decide)) (fun c3 => ?_)
  refine e_iload (show pAt 93 62 = some (62, .iload 4, 2, []) from by decide +kernel) rfl ?_
  refine e_iload_n (show pAt 93 64 = some (64, .iload_n 2, 1, []) from by decide +kernel) rfl ?_
  refine e_icmp (t := 70) (show pAt 93 65 = some (65, .if_icmp .ne 5, 3, []) from by decide +kernel) rfl (fun c4 => ?_) (fun c4 => ?_)
  · replace vc := vc.1 c4
    refine e_gs1 (show pAt 93 70 = some (70, .getstatic 233, 3, [0, 0, 4081]) from by decide +kernel) ?_
    refine e_iload (show pAt 93 73 = some (73, .iload 4, 2, []) from by decide +kernel) rfl ?_
    refine e_so1 (show pAt 93 75 = some (75, .iaload, 1, []) from by decide +kernel) (by decide) ?_
    refine e_istore (show pAt 93 76 = some (76, .istore 4, 2, []) from by decide +kernel) ⟨Nat.le_of_ble_eq_true rfl, rfl⟩ rfl ?_
    refine e_iinc (c := 1) (show pAt 93 78 = some (78, .iinc 5 1, 3, []) from by decide +kernel) rfl rfl (by decide) rfl ?_
    refine e_goto (t := 43) (show pAt 93 81 = some (81, .goto (-38), 3, []) from by decide +kernel) rfl ?_
    refine e_iload (show pAt 93 43 = some (43, .iload 5, 2, []) from by decide +kernel) rfl ?_
    refine e_bipush (c := 7) (show pAt 93 45 = some (45, .bipush 7, 2, []) from by decide +kernel) (by decide) ?_
    refine e_icmp (t := 84) (show pAt 93 47 = some (47, .if_icmp .ge 37, 3, []) from by decide +kernel) rfl (fun c5 => absurd c5 (by decide)) (fun c5 => ?_)
    refine e_iload (show pAt 93 50 = some (50, .iload 4, 2, []) from by decide +kernel) rfl ?_
    refine e_if (t := 84) (show pAt 93 52 = some (52, .ifCond .lt 32, 3, []) from by decide +kernel) rfl (fun c6 => absurd c6 (by decide)) (fun c6 => ?_)
    refine e_iload (show pAt 93 55 = some (55, .iload 4, 2, []) from by decide +kernel) rfl ?_
    refine e_bipush (c := 7) (show pAt 93 57 = some (57, .bipush 7, 2, []) from by decide +kernel) (by decide) ?_
    refine e_icmp (t := 84) (show pAt 93 59 = some (59, .if_icmp .ge 25, 3, []) from by decide +kernel) rfl (fun c7 => absurd c7 (by decide)) (fun c7 => ?_)
    refine e_iload (show pAt 93 62 = some (62, .iload 4, 2, []) from by decide +kernel) rfl ?_
    refine e_iload_n (show pAt 93 64 = some (64, .iload_n 2, 1, []) from by decide +kernel) rfl ?_
    refine e_icmp (t := 70) (show pAt 93 65 = some (65, .if_icmp .ne 5, 3, []) from by decide +kernel) rfl (fun c8 => ?_) (fun c8 => ?_)
    · replace vc := vc.1 c8
      refine e_gs1 (show pAt 93 70 = some (70, .getstatic 233, 3, [0, 0, 4081]) from by decide +kernel) ?_
      refine e_iload (show pAt 93 73 = some (73, .iload 4, 2, []) from by decide +kernel) rfl ?_
      refine e_so1 (show pAt 93 75 = some (75, .iaload, 1, []) from by decide +kernel) (by decide) ?_
      refine e_istore (show pAt 93 76 = some (76, .istore 4, 2, []) from by decide +kernel) ⟨Nat.le_of_ble_eq_true rfl, rfl⟩ rfl ?_
      refine e_iinc (c := 1) (show pAt 93 78 = some (78, .iinc 5 1, 3, []) from by decide +kernel) rfl rfl (by decide) rfl ?_
      refine e_goto (t := 43) (show pAt 93 81 = some (81, .goto (-38), 3, []) from by decide +kernel) rfl ?_
      refine e_iload (show pAt 93 43 = some (43, .iload 5, 2, []) from by decide +kernel) rfl ?_
      refine e_bipush (c := 7) (show pAt 93 45 = some (45, .bipush 7, 2, []) from by decide +kernel) (by decide) ?_
      refine e_icmp (t := 84) (show pAt 93 47 = some (47, .if_icmp .ge 37, 3, []) from by decide +kernel) rfl (fun c9 => absurd c9 (by decide)) (fun c9 => ?_)
      refine e_iload (show pAt 93 50 = some (50, .iload 4, 2, []) from by decide +kernel) rfl ?_
      refine e_if (t := 84) (show pAt 93 52 = some (52, .ifCond .lt 32, 3, []) from by decide +kernel) rfl (fun c10 => ?_) (fun c10 => absurd c10 (by decide))
      refine e_bipush (c := (-12)) (show pAt 93 84 = some (84, .bipush (-12), 2, []) from by decide +kernel) (by decide) ?_
      exact e_retI (show pAt 93 86 = some (86, .ireturn, 1, []) from by decide +kernel) rfl vc
    · replace vc := vc.2 c8
      refine e_iload_n (show pAt 93 68 = some (68, .iload_n 3, 1, []) from by decide +kernel) rfl ?_
      exact e_retI (show pAt 93 69 = some (69, .ireturn, 1, []) from by decide +kernel) rfl vc
  · replace vc := vc.2 c4
    refine e_iload_n (show pAt 93 68 = some (68, .iload_n 3, 1, []) from by decide +kernel) rfl ?_
    exact e_retI (show pAt 93 69 = some (69, .ireturn, 1, []) from by decide +kernel) rfl vc

theorem w_ctk3 {X : Scr} {dp : Nat} {h : Hp} {Q : Option Value → Hp → Prop} (p : Int32) (k : Int32) (hs : HS h)
    (vc : ((condB .ne 3 k = true → ((condB .ne (aboveL.getD (3 : Int32).toNatClampNeg 0) k = true → Q (some (.int (-12))) h) ∧ (condB .ne (aboveL.getD (3 : Int32).toNatClampNeg 0) k = false → Q (some (.int 3)) h))) ∧ (condB .ne 3 k = false → Q (some (.int 3)) h))) :
    Ends X dp 93 43 [.ref 0, .int p, .int k, .int 3, .int 3, .int 0] [] h Q := by
  have ra : ∀ {a : Nat}, a < 1000 → a ≤ OLDB := fun h => by have := OLDB_eq; omega
  refine e_iload (show pAt 93 43 = some (43, .iload 5, 2, []) from by decide +kernel) rfl ?_
  refine e_bipush (c := 7) (show pAt 93 45 = some (45, .bipush 7, 2, []) from by decide +kernel) (by decide) ?_
  refine e_icmp (t := 84) (show pAt 93 47 = some (47, .if_icmp .ge 37, 3, []) from by decide +kernel) rfl (fun c1 => absurd c1 (by decide)) (fun c1 => ?_)
  refine e_iload (show pAt 93 50 = some (50, .iload 4, 2, []) from by decide +kernel) rfl ?_
  refine e_if (t := 84) (show pAt 93 52 = some (52, .ifCond .lt 32, 3, []) from by decide +kernel) rfl (fun c2 => absurd c2 (by decide)) (fun c2 => ?_)
  refine e_iload (show pAt 93 55 = some (55, .iload 4, 2, []) from by decide +kernel) rfl ?_
  refine e_bipush (c := 7) (show pAt 93 57 = some (57, .bipush 7, 2, []) from by decide +kernel) (by decide) ?_
  refine e_icmp (t := 84) (show pAt 93 59 = some (59, .if_icmp .ge 25, 3, []) from by decide +kernel) rfl (fun c3 => absurd c3 (by decide)) (fun c3 => ?_)
  refine e_iload (show pAt 93 62 = some (62, .iload 4, 2, []) from by decide +kernel) rfl ?_
  refine e_iload_n (show pAt 93 64 = some (64, .iload_n 2, 1, []) from by decide +kernel) rfl ?_
  refine e_icmp (t := 70) (show pAt 93 65 = some (65, .if_icmp .ne 5, 3, []) from by decide +kernel) rfl (fun c4 => ?_) (fun c4 => ?_)
  · replace vc := vc.1 c4
    refine e_gs1 (show pAt 93 70 = some (70, .getstatic 233, 3, [0, 0, 4081]) from by decide +kernel) ?_
    refine e_iload (show pAt 93 73 = some (73, .iload 4, 2, []) from by decide +kernel) rfl ?_
    refine e_so1 (show pAt 93 75 = some (75, .iaload, 1, []) from by decide +kernel) (by decide) ?_
    refine e_istore (show pAt 93 76 = some (76, .istore 4, 2, []) from by decide +kernel) ⟨Nat.le_of_ble_eq_true rfl, rfl⟩ rfl ?_
    refine e_iinc (c := 1) (show pAt 93 78 = some (78, .iinc 5 1, 3, []) from by decide +kernel) rfl rfl (by decide) rfl ?_
    refine e_goto (t := 43) (show pAt 93 81 = some (81, .goto (-38), 3, []) from by decide +kernel) rfl ?_
    refine e_iload (show pAt 93 43 = some (43, .iload 5, 2, []) from by decide +kernel) rfl ?_
    refine e_bipush (c := 7) (show pAt 93 45 = some (45, .bipush 7, 2, []) from by decide +kernel) (by decide) ?_
    refine e_icmp (t := 84) (show pAt 93 47 = some (47, .if_icmp .ge 37, 3, []) from by decide +kernel) rfl (fun c5 => absurd c5 (by decide)) (fun c5 => ?_)
    refine e_iload (show pAt 93 50 = some (50, .iload 4, 2, []) from by decide +kernel) rfl ?_
    refine e_if (t := 84) (show pAt 93 52 = some (52, .ifCond .lt 32, 3, []) from by decide +kernel) rfl (fun c6 => absurd c6 (by decide)) (fun c6 => ?_)
    refine e_iload (show pAt 93 55 = some (55, .iload 4, 2, []) from by decide +kernel) rfl ?_
    refine e_bipush (c := 7) (show pAt 93 57 = some (57, .bipush 7, 2, []) from by decide +kernel) (by decide) ?_
    refine e_icmp (t := 84) (show pAt 93 59 = some (59, .if_icmp .ge 25, 3, []) from by decide +kernel) rfl (fun c7 => absurd c7 (by decide)) (fun c7 => ?_)
    refine e_iload (show pAt 93 62 = some (62, .iload 4, 2, []) from by decide +kernel) rfl ?_
    refine e_iload_n (show pAt 93 64 = some (64, .iload_n 2, 1, []) from by decide +kernel) rfl ?_
    refine e_icmp (t := 70) (show pAt 93 65 = some (65, .if_icmp .ne 5, 3, []) from by decide +kernel) rfl (fun c8 => ?_) (fun c8 => ?_)
    · replace vc := vc.1 c8
      refine e_gs1 (show pAt 93 70 = some (70, .getstatic 233, 3, [0, 0, 4081]) from by decide +kernel) ?_
      refine e_iload (show pAt 93 73 = some (73, .iload 4, 2, []) from by decide +kernel) rfl ?_
      refine e_so1 (show pAt 93 75 = some (75, .iaload, 1, []) from by decide +kernel) (by decide) ?_
      refine e_istore (show pAt 93 76 = some (76, .istore 4, 2, []) from by decide +kernel) ⟨Nat.le_of_ble_eq_true rfl, rfl⟩ rfl ?_
      refine e_iinc (c := 1) (show pAt 93 78 = some (78, .iinc 5 1, 3, []) from by decide +kernel) rfl rfl (by decide) rfl ?_
      refine e_goto (t := 43) (show pAt 93 81 = some (81, .goto (-38), 3, []) from by decide +kernel) rfl ?_
      refine e_iload (show pAt 93 43 = some (43, .iload 5, 2, []) from by decide +kernel) rfl ?_
      refine e_bipush (c := 7) (show pAt 93 45 = some (45, .bipush 7, 2, []) from by decide +kernel) (by decide) ?_
      refine e_icmp (t := 84) (show pAt 93 47 = some (47, .if_icmp .ge 37, 3, []) from by decide +kernel) rfl (fun c9 => absurd c9 (by decide)) (fun c9 => ?_)
      refine e_iload (show pAt 93 50 = some (50, .iload 4, 2, []) from by decide +kernel) rfl ?_
      refine e_if (t := 84) (show pAt 93 52 = some (52, .ifCond .lt 32, 3, []) from by decide +kernel) rfl (fun c10 => ?_) (fun c10 => absurd c10 (by decide))
      refine e_bipush (c := (-12)) (show pAt 93 84 = some (84, .bipush (-12), 2, []) from by decide +kernel) (by decide) ?_
      exact e_retI (show pAt 93 86 = some (86, .ireturn, 1, []) from by decide +kernel) rfl vc
    · replace vc := vc.2 c8
      refine e_iload_n (show pAt 93 68 = some (68, .iload_n 3, 1, []) from by decide +kernel) rfl ?_
      exact e_retI (show pAt 93 69 = some (69, .ireturn, 1, []) from by decide +kernel) rfl vc
  · replace vc := vc.2 c4
    refine e_iload_n (show pAt 93 68 = some (68, .iload_n 3, 1, []) from by decide +kernel) rfl ?_
    exact e_retI (show pAt 93 69 = some (69, .ireturn, 1, []) from by decide +kernel) rfl vc

theorem w_ctk4 {X : Scr} {dp : Nat} {h : Hp} {Q : Option Value → Hp → Prop} (p : Int32) (k : Int32) (hs : HS h)
    (vc : ((condB .ne 4 k = true → ((condB .ne (aboveL.getD (4 : Int32).toNatClampNeg 0) k = true → ((condB .ne (aboveL.getD (aboveL.getD (4 : Int32).toNatClampNeg 0).toNatClampNeg 0) k = true → Q (some (.int (-12))) h) ∧ (condB .ne (aboveL.getD (aboveL.getD (4 : Int32).toNatClampNeg 0).toNatClampNeg 0) k = false → Q (some (.int 4)) h))) ∧ (condB .ne (aboveL.getD (4 : Int32).toNatClampNeg 0) k = false → Q (some (.int 4)) h))) ∧ (condB .ne 4 k = false → Q (some (.int 4)) h))) :
    Ends X dp 93 43 [.ref 0, .int p, .int k, .int 4, .int 4, .int 0] [] h Q := by
  have ra : ∀ {a : Nat}, a < 1000 → a ≤ OLDB := fun h => by have := OLDB_eq; omega
  refine e_iload (show pAt 93 43 = some (43, .iload 5, 2, []) from by decide +kernel) rfl ?_
  refine e_bipush (c := 7) (show pAt 93 45 = some (45, .bipush 7, 2, []) from by decide +kernel) (by decide) ?_
  refine e_icmp (t := 84) (show pAt 93 47 = some (47, .if_icmp .ge 37, 3, []) from by decide +kernel) rfl (fun c1 => absurd c1 (by decide)) (fun c1 => ?_)
  refine e_iload (show pAt 93 50 = some (50, .iload 4, 2, []) from by decide +kernel) rfl ?_
  refine e_if (t := 84) (show pAt 93 52 = some (52, .ifCond .lt 32, 3, []) from by decide +kernel) rfl (fun c2 => absurd c2 (by decide)) (fun c2 => ?_)
  refine e_iload (show pAt 93 55 = some (55, .iload 4, 2, []) from by decide +kernel) rfl ?_
  refine e_bipush (c := 7) (show pAt 93 57 = some (57, .bipush 7, 2, []) from by decide +kernel) (by decide) ?_
  refine e_icmp (t := 84) (show pAt 93 59 = some (59, .if_icmp .ge 25, 3, []) from by decide +kernel) rfl (fun c3 => absurd c3 (by decide)) (fun c3 => ?_)
  refine e_iload (show pAt 93 62 = some (62, .iload 4, 2, []) from by decide +kernel) rfl ?_
  refine e_iload_n (show pAt 93 64 = some (64, .iload_n 2, 1, []) from by decide +kernel) rfl ?_
  refine e_icmp (t := 70) (show pAt 93 65 = some (65, .if_icmp .ne 5, 3, []) from by decide +kernel) rfl (fun c4 => ?_) (fun c4 => ?_)
  · replace vc := vc.1 c4
    refine e_gs1 (show pAt 93 70 = some (70, .getstatic 233, 3, [0, 0, 4081]) from by decide +kernel) ?_
    refine e_iload (show pAt 93 73 = some (73, .iload 4, 2, []) from by decide +kernel) rfl ?_
    refine e_so1 (show pAt 93 75 = some (75, .iaload, 1, []) from by decide +kernel) (by decide) ?_
    refine e_istore (show pAt 93 76 = some (76, .istore 4, 2, []) from by decide +kernel) ⟨Nat.le_of_ble_eq_true rfl, rfl⟩ rfl ?_
    refine e_iinc (c := 1) (show pAt 93 78 = some (78, .iinc 5 1, 3, []) from by decide +kernel) rfl rfl (by decide) rfl ?_
    refine e_goto (t := 43) (show pAt 93 81 = some (81, .goto (-38), 3, []) from by decide +kernel) rfl ?_
    refine e_iload (show pAt 93 43 = some (43, .iload 5, 2, []) from by decide +kernel) rfl ?_
    refine e_bipush (c := 7) (show pAt 93 45 = some (45, .bipush 7, 2, []) from by decide +kernel) (by decide) ?_
    refine e_icmp (t := 84) (show pAt 93 47 = some (47, .if_icmp .ge 37, 3, []) from by decide +kernel) rfl (fun c5 => absurd c5 (by decide)) (fun c5 => ?_)
    refine e_iload (show pAt 93 50 = some (50, .iload 4, 2, []) from by decide +kernel) rfl ?_
    refine e_if (t := 84) (show pAt 93 52 = some (52, .ifCond .lt 32, 3, []) from by decide +kernel) rfl (fun c6 => absurd c6 (by decide)) (fun c6 => ?_)
    refine e_iload (show pAt 93 55 = some (55, .iload 4, 2, []) from by decide +kernel) rfl ?_
    refine e_bipush (c := 7) (show pAt 93 57 = some (57, .bipush 7, 2, []) from by decide +kernel) (by decide) ?_
    refine e_icmp (t := 84) (show pAt 93 59 = some (59, .if_icmp .ge 25, 3, []) from by decide +kernel) rfl (fun c7 => absurd c7 (by decide)) (fun c7 => ?_)
    refine e_iload (show pAt 93 62 = some (62, .iload 4, 2, []) from by decide +kernel) rfl ?_
    refine e_iload_n (show pAt 93 64 = some (64, .iload_n 2, 1, []) from by decide +kernel) rfl ?_
    refine e_icmp (t := 70) (show pAt 93 65 = some (65, .if_icmp .ne 5, 3, []) from by decide +kernel) rfl (fun c8 => ?_) (fun c8 => ?_)
    · replace vc := vc.1 c8
      refine e_gs1 (show pAt 93 70 = some (70, .getstatic 233, 3, [0, 0, 4081]) from by decide +kernel) ?_
      refine e_iload (show pAt 93 73 = some (73, .iload 4, 2, []) from by decide +kernel) rfl ?_
      refine e_so1 (show pAt 93 75 = some (75, .iaload, 1, []) from by decide +kernel) (by decide) ?_
      refine e_istore (show pAt 93 76 = some (76, .istore 4, 2, []) from by decide +kernel) ⟨Nat.le_of_ble_eq_true rfl, rfl⟩ rfl ?_
      refine e_iinc (c := 1) (show pAt 93 78 = some (78, .iinc 5 1, 3, []) from by decide +kernel) rfl rfl (by decide) rfl ?_
      refine e_goto (t := 43) (show pAt 93 81 = some (81, .goto (-38), 3, []) from by decide +kernel) rfl ?_
      refine e_iload (show pAt 93 43 = some (43, .iload 5, 2, []) from by decide +kernel) rfl ?_
      refine e_bipush (c := 7) (show pAt 93 45 = some (45, .bipush 7, 2, []) from by decide +kernel) (by decide) ?_
      refine e_icmp (t := 84) (show pAt 93 47 = some (47, .if_icmp .ge 37, 3, []) from by decide +kernel) rfl (fun c9 => absurd c9 (by decide)) (fun c9 => ?_)
      refine e_iload (show pAt 93 50 = some (50, .iload 4, 2, []) from by decide +kernel) rfl ?_
      refine e_if (t := 84) (show pAt 93 52 = some (52, .ifCond .lt 32, 3, []) from by decide +kernel) rfl (fun c10 => absurd c10 (by decide)) (fun c10 => ?_)
      refine e_iload (show pAt 93 55 = some (55, .iload 4, 2, []) from by decide +kernel) rfl ?_
      refine e_bipush (c := 7) (show pAt 93 57 = some (57, .bipush 7, 2, []) from by decide +kernel) (by decide) ?_
      refine e_icmp (t := 84) (show pAt 93 59 = some (59, .if_icmp .ge 25, 3, []) from by decide +kernel) rfl (fun c11 => absurd c11 (by decide)) (fun c11 => ?_)
      refine e_iload (show pAt 93 62 = some (62, .iload 4, 2, []) from by decide +kernel) rfl ?_
      refine e_iload_n (show pAt 93 64 = some (64, .iload_n 2, 1, []) from by decide +kernel) rfl ?_
      refine e_icmp (t := 70) (show pAt 93 65 = some (65, .if_icmp .ne 5, 3, []) from by decide +kernel) rfl (fun c12 => ?_) (fun c12 => ?_)
      · replace vc := vc.1 c12
        refine e_gs1 (show pAt 93 70 = some (70, .getstatic 233, 3, [0, 0, 4081]) from by decide +kernel) ?_
        refine e_iload (show pAt 93 73 = some (73, .iload 4, 2, []) from by decide +kernel) rfl ?_
        refine e_so1 (show pAt 93 75 = some (75, .iaload, 1, []) from by decide +kernel) (by decide) ?_
        refine e_istore (show pAt 93 76 = some (76, .istore 4, 2, []) from by decide +kernel) ⟨Nat.le_of_ble_eq_true rfl, rfl⟩ rfl ?_
        refine e_iinc (c := 1) (show pAt 93 78 = some (78, .iinc 5 1, 3, []) from by decide +kernel) rfl rfl (by decide) rfl ?_
        refine e_goto (t := 43) (show pAt 93 81 = some (81, .goto (-38), 3, []) from by decide +kernel) rfl ?_
        refine e_iload (show pAt 93 43 = some (43, .iload 5, 2, []) from by decide +kernel) rfl ?_
        refine e_bipush (c := 7) (show pAt 93 45 = some (45, .bipush 7, 2, []) from by decide +kernel) (by decide) ?_
        refine e_icmp (t := 84) (show pAt 93 47 = some (47, .if_icmp .ge 37, 3, []) from by decide +kernel) rfl (fun c13 => absurd c13 (by decide)) (fun c13 => ?_)
        refine e_iload (show pAt 93 50 = some (50, .iload 4, 2, []) from by decide +kernel) rfl ?_
        refine e_if (t := 84) (show pAt 93 52 = some (52, .ifCond .lt 32, 3, []) from by decide +kernel) rfl (fun c14 => ?_) (fun c14 => absurd c14 (by decide))
        refine e_bipush (c := (-12)) (show pAt 93 84 = some (84, .bipush (-12), 2, []) from by decide +kernel) (by decide) ?_
        exact e_retI (show pAt 93 86 = some (86, .ireturn, 1, []) from by decide +kernel) rfl vc
      · replace vc := vc.2 c12
        refine e_iload_n (show pAt 93 68 = some (68, .iload_n 3, 1, []) from by decide +kernel) rfl ?_
        exact e_retI (show pAt 93 69 = some (69, .ireturn, 1, []) from by decide +kernel) rfl vc
    · replace vc := vc.2 c8
      refine e_iload_n (show pAt 93 68 = some (68, .iload_n 3, 1, []) from by decide +kernel) rfl ?_
      exact e_retI (show pAt 93 69 = some (69, .ireturn, 1, []) from by decide +kernel) rfl vc
  · replace vc := vc.2 c4
    refine e_iload_n (show pAt 93 68 = some (68, .iload_n 3, 1, []) from by decide +kernel) rfl ?_
    exact e_retI (show pAt 93 69 = some (69, .ireturn, 1, []) from by decide +kernel) rfl vc

theorem w_ctk5 {X : Scr} {dp : Nat} {h : Hp} {Q : Option Value → Hp → Prop} (p : Int32) (k : Int32) (hs : HS h)
    (vc : ((condB .ne 5 k = true → ((condB .ne (aboveL.getD (5 : Int32).toNatClampNeg 0) k = true → ((condB .ne (aboveL.getD (aboveL.getD (5 : Int32).toNatClampNeg 0).toNatClampNeg 0) k = true → Q (some (.int (-12))) h) ∧ (condB .ne (aboveL.getD (aboveL.getD (5 : Int32).toNatClampNeg 0).toNatClampNeg 0) k = false → Q (some (.int 5)) h))) ∧ (condB .ne (aboveL.getD (5 : Int32).toNatClampNeg 0) k = false → Q (some (.int 5)) h))) ∧ (condB .ne 5 k = false → Q (some (.int 5)) h))) :
    Ends X dp 93 43 [.ref 0, .int p, .int k, .int 5, .int 5, .int 0] [] h Q := by
  have ra : ∀ {a : Nat}, a < 1000 → a ≤ OLDB := fun h => by have := OLDB_eq; omega
  refine e_iload (show pAt 93 43 = some (43, .iload 5, 2, []) from by decide +kernel) rfl ?_
  refine e_bipush (c := 7) (show pAt 93 45 = some (45, .bipush 7, 2, []) from by decide +kernel) (by decide) ?_
  refine e_icmp (t := 84) (show pAt 93 47 = some (47, .if_icmp .ge 37, 3, []) from by decide +kernel) rfl (fun c1 => absurd c1 (by decide)) (fun c1 => ?_)
  refine e_iload (show pAt 93 50 = some (50, .iload 4, 2, []) from by decide +kernel) rfl ?_
  refine e_if (t := 84) (show pAt 93 52 = some (52, .ifCond .lt 32, 3, []) from by decide +kernel) rfl (fun c2 => absurd c2 (by decide)) (fun c2 => ?_)
  refine e_iload (show pAt 93 55 = some (55, .iload 4, 2, []) from by decide +kernel) rfl ?_
  refine e_bipush (c := 7) (show pAt 93 57 = some (57, .bipush 7, 2, []) from by decide +kernel) (by decide) ?_
  refine e_icmp (t := 84) (show pAt 93 59 = some (59, .if_icmp .ge 25, 3, []) from by decide +kernel) rfl (fun c3 => absurd c3 (by decide)) (fun c3 => ?_)
  refine e_iload (show pAt 93 62 = some (62, .iload 4, 2, []) from by decide +kernel) rfl ?_
  refine e_iload_n (show pAt 93 64 = some (64, .iload_n 2, 1, []) from by decide +kernel) rfl ?_
  refine e_icmp (t := 70) (show pAt 93 65 = some (65, .if_icmp .ne 5, 3, []) from by decide +kernel) rfl (fun c4 => ?_) (fun c4 => ?_)
  · replace vc := vc.1 c4
    refine e_gs1 (show pAt 93 70 = some (70, .getstatic 233, 3, [0, 0, 4081]) from by decide +kernel) ?_
    refine e_iload (show pAt 93 73 = some (73, .iload 4, 2, []) from by decide +kernel) rfl ?_
    refine e_so1 (show pAt 93 75 = some (75, .iaload, 1, []) from by decide +kernel) (by decide) ?_
    refine e_istore (show pAt 93 76 = some (76, .istore 4, 2, []) from by decide +kernel) ⟨Nat.le_of_ble_eq_true rfl, rfl⟩ rfl ?_
    refine e_iinc (c := 1) (show pAt 93 78 = some (78, .iinc 5 1, 3, []) from by decide +kernel) rfl rfl (by decide) rfl ?_
    refine e_goto (t := 43) (show pAt 93 81 = some (81, .goto (-38), 3, []) from by decide +kernel) rfl ?_
    refine e_iload (show pAt 93 43 = some (43, .iload 5, 2, []) from by decide +kernel) rfl ?_
    refine e_bipush (c := 7) (show pAt 93 45 = some (45, .bipush 7, 2, []) from by decide +kernel) (by decide) ?_
    refine e_icmp (t := 84) (show pAt 93 47 = some (47, .if_icmp .ge 37, 3, []) from by decide +kernel) rfl (fun c5 => absurd c5 (by decide)) (fun c5 => ?_)
    refine e_iload (show pAt 93 50 = some (50, .iload 4, 2, []) from by decide +kernel) rfl ?_
    refine e_if (t := 84) (show pAt 93 52 = some (52, .ifCond .lt 32, 3, []) from by decide +kernel) rfl (fun c6 => absurd c6 (by decide)) (fun c6 => ?_)
    refine e_iload (show pAt 93 55 = some (55, .iload 4, 2, []) from by decide +kernel) rfl ?_
    refine e_bipush (c := 7) (show pAt 93 57 = some (57, .bipush 7, 2, []) from by decide +kernel) (by decide) ?_
    refine e_icmp (t := 84) (show pAt 93 59 = some (59, .if_icmp .ge 25, 3, []) from by decide +kernel) rfl (fun c7 => absurd c7 (by decide)) (fun c7 => ?_)
    refine e_iload (show pAt 93 62 = some (62, .iload 4, 2, []) from by decide +kernel) rfl ?_
    refine e_iload_n (show pAt 93 64 = some (64, .iload_n 2, 1, []) from by decide +kernel) rfl ?_
    refine e_icmp (t := 70) (show pAt 93 65 = some (65, .if_icmp .ne 5, 3, []) from by decide +kernel) rfl (fun c8 => ?_) (fun c8 => ?_)
    · replace vc := vc.1 c8
      refine e_gs1 (show pAt 93 70 = some (70, .getstatic 233, 3, [0, 0, 4081]) from by decide +kernel) ?_
      refine e_iload (show pAt 93 73 = some (73, .iload 4, 2, []) from by decide +kernel) rfl ?_
      refine e_so1 (show pAt 93 75 = some (75, .iaload, 1, []) from by decide +kernel) (by decide) ?_
      refine e_istore (show pAt 93 76 = some (76, .istore 4, 2, []) from by decide +kernel) ⟨Nat.le_of_ble_eq_true rfl, rfl⟩ rfl ?_
      refine e_iinc (c := 1) (show pAt 93 78 = some (78, .iinc 5 1, 3, []) from by decide +kernel) rfl rfl (by decide) rfl ?_
      refine e_goto (t := 43) (show pAt 93 81 = some (81, .goto (-38), 3, []) from by decide +kernel) rfl ?_
      refine e_iload (show pAt 93 43 = some (43, .iload 5, 2, []) from by decide +kernel) rfl ?_
      refine e_bipush (c := 7) (show pAt 93 45 = some (45, .bipush 7, 2, []) from by decide +kernel) (by decide) ?_
      refine e_icmp (t := 84) (show pAt 93 47 = some (47, .if_icmp .ge 37, 3, []) from by decide +kernel) rfl (fun c9 => absurd c9 (by decide)) (fun c9 => ?_)
      refine e_iload (show pAt 93 50 = some (50, .iload 4, 2, []) from by decide +kernel) rfl ?_
      refine e_if (t := 84) (show pAt 93 52 = some (52, .ifCond .lt 32, 3, []) from by decide +kernel) rfl (fun c10 => absurd c10 (by decide)) (fun c10 => ?_)
      refine e_iload (show pAt 93 55 = some (55, .iload 4, 2, []) from by decide +kernel) rfl ?_
      refine e_bipush (c := 7) (show pAt 93 57 = some (57, .bipush 7, 2, []) from by decide +kernel) (by decide) ?_
      refine e_icmp (t := 84) (show pAt 93 59 = some (59, .if_icmp .ge 25, 3, []) from by decide +kernel) rfl (fun c11 => absurd c11 (by decide)) (fun c11 => ?_)
      refine e_iload (show pAt 93 62 = some (62, .iload 4, 2, []) from by decide +kernel) rfl ?_
      refine e_iload_n (show pAt 93 64 = some (64, .iload_n 2, 1, []) from by decide +kernel) rfl ?_
      refine e_icmp (t := 70) (show pAt 93 65 = some (65, .if_icmp .ne 5, 3, []) from by decide +kernel) rfl (fun c12 => ?_) (fun c12 => ?_)
      · replace vc := vc.1 c12
        refine e_gs1 (show pAt 93 70 = some (70, .getstatic 233, 3, [0, 0, 4081]) from by decide +kernel) ?_
        refine e_iload (show pAt 93 73 = some (73, .iload 4, 2, []) from by decide +kernel) rfl ?_
        refine e_so1 (show pAt 93 75 = some (75, .iaload, 1, []) from by decide +kernel) (by decide) ?_
        refine e_istore (show pAt 93 76 = some (76, .istore 4, 2, []) from by decide +kernel) ⟨Nat.le_of_ble_eq_true rfl, rfl⟩ rfl ?_
        refine e_iinc (c := 1) (show pAt 93 78 = some (78, .iinc 5 1, 3, []) from by decide +kernel) rfl rfl (by decide) rfl ?_
        refine e_goto (t := 43) (show pAt 93 81 = some (81, .goto (-38), 3, []) from by decide +kernel) rfl ?_
        refine e_iload (show pAt 93 43 = some (43, .iload 5, 2, []) from by decide +kernel) rfl ?_
        refine e_bipush (c := 7) (show pAt 93 45 = some (45, .bipush 7, 2, []) from by decide +kernel) (by decide) ?_
        refine e_icmp (t := 84) (show pAt 93 47 = some (47, .if_icmp .ge 37, 3, []) from by decide +kernel) rfl (fun c13 => absurd c13 (by decide)) (fun c13 => ?_)
        refine e_iload (show pAt 93 50 = some (50, .iload 4, 2, []) from by decide +kernel) rfl ?_
        refine e_if (t := 84) (show pAt 93 52 = some (52, .ifCond .lt 32, 3, []) from by decide +kernel) rfl (fun c14 => ?_) (fun c14 => absurd c14 (by decide))
        refine e_bipush (c := (-12)) (show pAt 93 84 = some (84, .bipush (-12), 2, []) from by decide +kernel) (by decide) ?_
        exact e_retI (show pAt 93 86 = some (86, .ireturn, 1, []) from by decide +kernel) rfl vc
      · replace vc := vc.2 c12
        refine e_iload_n (show pAt 93 68 = some (68, .iload_n 3, 1, []) from by decide +kernel) rfl ?_
        exact e_retI (show pAt 93 69 = some (69, .ireturn, 1, []) from by decide +kernel) rfl vc
    · replace vc := vc.2 c8
      refine e_iload_n (show pAt 93 68 = some (68, .iload_n 3, 1, []) from by decide +kernel) rfl ?_
      exact e_retI (show pAt 93 69 = some (69, .ireturn, 1, []) from by decide +kernel) rfl vc
  · replace vc := vc.2 c4
    refine e_iload_n (show pAt 93 68 = some (68, .iload_n 3, 1, []) from by decide +kernel) rfl ?_
    exact e_retI (show pAt 93 69 = some (69, .ireturn, 1, []) from by decide +kernel) rfl vc

theorem w_ctk6 {X : Scr} {dp : Nat} {h : Hp} {Q : Option Value → Hp → Prop} (p : Int32) (k : Int32) (hs : HS h)
    (vc : ((condB .ne 6 k = true → ((condB .ne (aboveL.getD (6 : Int32).toNatClampNeg 0) k = true → ((condB .ne (aboveL.getD (aboveL.getD (6 : Int32).toNatClampNeg 0).toNatClampNeg 0) k = true → Q (some (.int (-12))) h) ∧ (condB .ne (aboveL.getD (aboveL.getD (6 : Int32).toNatClampNeg 0).toNatClampNeg 0) k = false → Q (some (.int 6)) h))) ∧ (condB .ne (aboveL.getD (6 : Int32).toNatClampNeg 0) k = false → Q (some (.int 6)) h))) ∧ (condB .ne 6 k = false → Q (some (.int 6)) h))) :
    Ends X dp 93 43 [.ref 0, .int p, .int k, .int 6, .int 6, .int 0] [] h Q := by
  have ra : ∀ {a : Nat}, a < 1000 → a ≤ OLDB := fun h => by have := OLDB_eq; omega
  refine e_iload (show pAt 93 43 = some (43, .iload 5, 2, []) from by decide +kernel) rfl ?_
  refine e_bipush (c := 7) (show pAt 93 45 = some (45, .bipush 7, 2, []) from by decide +kernel) (by decide) ?_
  refine e_icmp (t := 84) (show pAt 93 47 = some (47, .if_icmp .ge 37, 3, []) from by decide +kernel) rfl (fun c1 => absurd c1 (by decide)) (fun c1 => ?_)
  refine e_iload (show pAt 93 50 = some (50, .iload 4, 2, []) from by decide +kernel) rfl ?_
  refine e_if (t := 84) (show pAt 93 52 = some (52, .ifCond .lt 32, 3, []) from by decide +kernel) rfl (fun c2 => absurd c2 (by decide)) (fun c2 => ?_)
  refine e_iload (show pAt 93 55 = some (55, .iload 4, 2, []) from by decide +kernel) rfl ?_
  refine e_bipush (c := 7) (show pAt 93 57 = some (57, .bipush 7, 2, []) from by decide +kernel) (by decide) ?_
  refine e_icmp (t := 84) (show pAt 93 59 = some (59, .if_icmp .ge 25, 3, []) from by decide +kernel) rfl (fun c3 => absurd c3 (by decide)) (fun c3 => ?_)
  refine e_iload (show pAt 93 62 = some (62, .iload 4, 2, []) from by decide +kernel) rfl ?_
  refine e_iload_n (show pAt 93 64 = some (64, .iload_n 2, 1, []) from by decide +kernel) rfl ?_
  refine e_icmp (t := 70) (show pAt 93 65 = some (65, .if_icmp .ne 5, 3, []) from by decide +kernel) rfl (fun c4 => ?_) (fun c4 => ?_)
  · replace vc := vc.1 c4
    refine e_gs1 (show pAt 93 70 = some (70, .getstatic 233, 3, [0, 0, 4081]) from by decide +kernel) ?_
    refine e_iload (show pAt 93 73 = some (73, .iload 4, 2, []) from by decide +kernel) rfl ?_
    refine e_so1 (show pAt 93 75 = some (75, .iaload, 1, []) from by decide +kernel) (by decide) ?_
    refine e_istore (show pAt 93 76 = some (76, .istore 4, 2, []) from by decide +kernel) ⟨Nat.le_of_ble_eq_true rfl, rfl⟩ rfl ?_
    refine e_iinc (c := 1) (show pAt 93 78 = some (78, .iinc 5 1, 3, []) from by decide +kernel) rfl rfl (by decide) rfl ?_
    refine e_goto (t := 43) (show pAt 93 81 = some (81, .goto (-38), 3, []) from by decide +kernel) rfl ?_
    refine e_iload (show pAt 93 43 = some (43, .iload 5, 2, []) from by decide +kernel) rfl ?_
    refine e_bipush (c := 7) (show pAt 93 45 = some (45, .bipush 7, 2, []) from by decide +kernel) (by decide) ?_
    refine e_icmp (t := 84) (show pAt 93 47 = some (47, .if_icmp .ge 37, 3, []) from by decide +kernel) rfl (fun c5 => absurd c5 (by decide)) (fun c5 => ?_)
    refine e_iload (show pAt 93 50 = some (50, .iload 4, 2, []) from by decide +kernel) rfl ?_
    refine e_if (t := 84) (show pAt 93 52 = some (52, .ifCond .lt 32, 3, []) from by decide +kernel) rfl (fun c6 => absurd c6 (by decide)) (fun c6 => ?_)
    refine e_iload (show pAt 93 55 = some (55, .iload 4, 2, []) from by decide +kernel) rfl ?_
    refine e_bipush (c := 7) (show pAt 93 57 = some (57, .bipush 7, 2, []) from by decide +kernel) (by decide) ?_
    refine e_icmp (t := 84) (show pAt 93 59 = some (59, .if_icmp .ge 25, 3, []) from by decide +kernel) rfl (fun c7 => absurd c7 (by decide)) (fun c7 => ?_)
    refine e_iload (show pAt 93 62 = some (62, .iload 4, 2, []) from by decide +kernel) rfl ?_
    refine e_iload_n (show pAt 93 64 = some (64, .iload_n 2, 1, []) from by decide +kernel) rfl ?_
    refine e_icmp (t := 70) (show pAt 93 65 = some (65, .if_icmp .ne 5, 3, []) from by decide +kernel) rfl (fun c8 => ?_) (fun c8 => ?_)
    · replace vc := vc.1 c8
      refine e_gs1 (show pAt 93 70 = some (70, .getstatic 233, 3, [0, 0, 4081]) from by decide +kernel) ?_
      refine e_iload (show pAt 93 73 = some (73, .iload 4, 2, []) from by decide +kernel) rfl ?_
      refine e_so1 (show pAt 93 75 = some (75, .iaload, 1, []) from by decide +kernel) (by decide) ?_
      refine e_istore (show pAt 93 76 = some (76, .istore 4, 2, []) from by decide +kernel) ⟨Nat.le_of_ble_eq_true rfl, rfl⟩ rfl ?_
      refine e_iinc (c := 1) (show pAt 93 78 = some (78, .iinc 5 1, 3, []) from by decide +kernel) rfl rfl (by decide) rfl ?_
      refine e_goto (t := 43) (show pAt 93 81 = some (81, .goto (-38), 3, []) from by decide +kernel) rfl ?_
      refine e_iload (show pAt 93 43 = some (43, .iload 5, 2, []) from by decide +kernel) rfl ?_
      refine e_bipush (c := 7) (show pAt 93 45 = some (45, .bipush 7, 2, []) from by decide +kernel) (by decide) ?_
      refine e_icmp (t := 84) (show pAt 93 47 = some (47, .if_icmp .ge 37, 3, []) from by decide +kernel) rfl (fun c9 => absurd c9 (by decide)) (fun c9 => ?_)
      refine e_iload (show pAt 93 50 = some (50, .iload 4, 2, []) from by decide +kernel) rfl ?_
      refine e_if (t := 84) (show pAt 93 52 = some (52, .ifCond .lt 32, 3, []) from by decide +kernel) rfl (fun c10 => absurd c10 (by decide)) (fun c10 => ?_)
      refine e_iload (show pAt 93 55 = some (55, .iload 4, 2, []) from by decide +kernel) rfl ?_
      refine e_bipush (c := 7) (show pAt 93 57 = some (57, .bipush 7, 2, []) from by decide +kernel) (by decide) ?_
      refine e_icmp (t := 84) (show pAt 93 59 = some (59, .if_icmp .ge 25, 3, []) from by decide +kernel) rfl (fun c11 => absurd c11 (by decide)) (fun c11 => ?_)
      refine e_iload (show pAt 93 62 = some (62, .iload 4, 2, []) from by decide +kernel) rfl ?_
      refine e_iload_n (show pAt 93 64 = some (64, .iload_n 2, 1, []) from by decide +kernel) rfl ?_
      refine e_icmp (t := 70) (show pAt 93 65 = some (65, .if_icmp .ne 5, 3, []) from by decide +kernel) rfl (fun c12 => ?_) (fun c12 => ?_)
      · replace vc := vc.1 c12
        refine e_gs1 (show pAt 93 70 = some (70, .getstatic 233, 3, [0, 0, 4081]) from by decide +kernel) ?_
        refine e_iload (show pAt 93 73 = some (73, .iload 4, 2, []) from by decide +kernel) rfl ?_
        refine e_so1 (show pAt 93 75 = some (75, .iaload, 1, []) from by decide +kernel) (by decide) ?_
        refine e_istore (show pAt 93 76 = some (76, .istore 4, 2, []) from by decide +kernel) ⟨Nat.le_of_ble_eq_true rfl, rfl⟩ rfl ?_
        refine e_iinc (c := 1) (show pAt 93 78 = some (78, .iinc 5 1, 3, []) from by decide +kernel) rfl rfl (by decide) rfl ?_
        refine e_goto (t := 43) (show pAt 93 81 = some (81, .goto (-38), 3, []) from by decide +kernel) rfl ?_
        refine e_iload (show pAt 93 43 = some (43, .iload 5, 2, []) from by decide +kernel) rfl ?_
        refine e_bipush (c := 7) (show pAt 93 45 = some (45, .bipush 7, 2, []) from by decide +kernel) (by decide) ?_
        refine e_icmp (t := 84) (show pAt 93 47 = some (47, .if_icmp .ge 37, 3, []) from by decide +kernel) rfl (fun c13 => absurd c13 (by decide)) (fun c13 => ?_)
        refine e_iload (show pAt 93 50 = some (50, .iload 4, 2, []) from by decide +kernel) rfl ?_
        refine e_if (t := 84) (show pAt 93 52 = some (52, .ifCond .lt 32, 3, []) from by decide +kernel) rfl (fun c14 => ?_) (fun c14 => absurd c14 (by decide))
        refine e_bipush (c := (-12)) (show pAt 93 84 = some (84, .bipush (-12), 2, []) from by decide +kernel) (by decide) ?_
        exact e_retI (show pAt 93 86 = some (86, .ireturn, 1, []) from by decide +kernel) rfl vc
      · replace vc := vc.2 c12
        refine e_iload_n (show pAt 93 68 = some (68, .iload_n 3, 1, []) from by decide +kernel) rfl ?_
        exact e_retI (show pAt 93 69 = some (69, .ireturn, 1, []) from by decide +kernel) rfl vc
    · replace vc := vc.2 c8
      refine e_iload_n (show pAt 93 68 = some (68, .iload_n 3, 1, []) from by decide +kernel) rfl ?_
      exact e_retI (show pAt 93 69 = some (69, .ireturn, 1, []) from by decide +kernel) rfl vc
  · replace vc := vc.2 c4
    refine e_iload_n (show pAt 93 68 = some (68, .iload_n 3, 1, []) from by decide +kernel) rfl ?_
    exact e_retI (show pAt 93 69 = some (69, .ireturn, 1, []) from by decide +kernel) rfl vc

theorem w_ctak {X : Scr} {dp : Nat} {h : Hp} {Q : Option Value → Hp → Prop} (p : Int32) (k : Int32) (hs : HS h)
    (vc : ((condB .lt k 0 = true → Q (some (.int (-2))) h) ∧ (condB .lt k 0 = false → ((condB .lt k 7 = true → Ends X dp 26 0 [.ref 1, .int p] [] h (fun rv h3 => ∃ r4, rv = some (.int r4) ∧ HS h3 ∧ ((condB .ne r4 0 = true → (inB p 7 = true ∧ Ends X (dp + 1) 93 43 [.ref 0, .int p, .int k, .int (h3.2.1 2 p.toNatClampNeg), .int (h3.2.1 2 p.toNatClampNeg), .int 0] [] h3 Q)) ∧ (condB .ne r4 0 = false → Q (some (.int (-11))) h3)))) ∧ (condB .lt k 7 = false → Q (some (.int (-2))) h))))) :
    Ends X (dp + 1) 93 0 [.ref 0, .int p, .int k, .retAddr 0, .retAddr 0, .retAddr 0] [] h Q := by
  have ra : ∀ {a : Nat}, a < 1000 → a ≤ OLDB := fun h => by have := OLDB_eq; omega
  refine e_iload_n (show pAt 93 0 = some (0, .iload_n 2, 1, []) from by decide +kernel) rfl ?_
  refine e_if (t := 10) (show pAt 93 1 = some (1, .ifCond .lt 9, 3, []) from by decide +kernel) rfl (fun c1 => ?_) (fun c1 => ?_)
  · replace vc := vc.1 c1
    refine e_bipush (c := (-2)) (show pAt 93 10 = some (10, .bipush (-2), 2, []) from by decide +kernel) (by decide) ?_
    exact e_retI (show pAt 93 12 = some (12, .ireturn, 1, []) from by decide +kernel) rfl vc
  · replace vc := vc.2 c1
    refine e_iload_n (show pAt 93 4 = some (4, .iload_n 2, 1, []) from by decide +kernel) rfl ?_
    refine e_bipush (c := 7) (show pAt 93 5 = some (5, .bipush 7, 2, []) from by decide +kernel) (by decide) ?_
    refine e_icmp (t := 13) (show pAt 93 7 = some (7, .if_icmp .lt 6, 3, []) from by decide +kernel) rfl (fun c2 => ?_) (fun c2 => ?_)
    · replace vc := vc.1 c2
      refine e_aload_n (show pAt 93 13 = some (13, .aload_n 0, 1, []) from by decide +kernel) rfl (ra (by decide)) ?_
      refine e_gR (show pAt 93 14 = some (14, .getfield 12, 3, [6, 0, 0, 2022]) from by decide +kernel) (show HS h from hs) rfl (by decide) (hs_ref (show HS h from hs) rfl) ?_
      refine e_iload_n (show pAt 93 17 = some (17, .iload_n 1, 1, []) from by decide +kernel) rfl ?_
      refine Ends.call (show pAt 93 18 = some (18, .invokevirtual 71, 3, [26, 2, 0, 1, 2071, 2073, 1]) from by decide +kernel) (isRet_none rfl) rfl (call_this (show HS h from hs) rfl rfl (by decide)) (Ends.mono vc ?_)
      rintro _ h3 ⟨r4, rfl, hs_h3, vc⟩
      refine e_if (t := 27) (show pAt 93 21 = some (21, .ifCond .ne 6, 3, []) from by decide +kernel) rfl (fun c6 => ?_) (fun c6 => ?_)
      · replace vc := vc.1 c6
        refine e_aload_n (show pAt 93 27 = some (27, .aload_n 0, 1, []) from by decide +kernel) rfl (ra (by decide)) ?_
        refine e_gR (show pAt 93 28 = some (28, .getfield 12, 3, [6, 0, 0, 2022]) from by decide +kernel) (show HS h3 from hs_h3) rfl (by decide) (hs_ref (show HS h3 from hs_h3) rfl) ?_
        refine e_gR (show pAt 93 31 = some (31, .getfield 74, 3, [2, 1, 1, 1035]) from by decide +kernel) (show HS h3 from hs_h3) rfl (by decide) (hs_ref (show HS h3 from hs_h3) rfl) ?_
        refine e_iload_n (show pAt 93 34 = some (34, .iload_n 1, 1, []) from by decide +kernel) rfl ?_
        obtain ⟨c7, vc⟩ := vc
        refine e_aldv (v := h3.2.1 2 p.toNatClampNeg) (show pAt 93 35 = some (35, .iaload, 1, []) from by decide +kernel) (show HS h3 from hs_h3) (by decide) c7 rfl ?_
        refine e_istore_n (show pAt 93 36 = some (36, .istore_n 3, 1, []) from by decide +kernel) ⟨Nat.le_of_ble_eq_true rfl, rfl⟩ rfl ?_
        refine e_iload_n (show pAt 93 37 = some (37, .iload_n 3, 1, []) from by decide +kernel) rfl ?_
        refine e_istore (show pAt 93 38 = some (38, .istore 4, 2, []) from by decide +kernel) ⟨Nat.le_of_ble_eq_true rfl, rfl⟩ rfl ?_
        refine e_iconst (c := 0) (show pAt 93 40 = some (40, .iconst 0, 1, []) from by decide +kernel) (by decide) ?_
        refine e_istore (show pAt 93 41 = some (41, .istore 5, 2, []) from by decide +kernel) ⟨Nat.le_of_ble_eq_true rfl, rfl⟩ rfl ?_
        exact vc
      · replace vc := vc.2 c6
        refine e_bipush (c := (-11)) (show pAt 93 24 = some (24, .bipush (-11), 2, []) from by decide +kernel) (by decide) ?_
        exact e_retI (show pAt 93 26 = some (26, .ireturn, 1, []) from by decide +kernel) rfl vc
    · replace vc := vc.2 c2
      refine e_bipush (c := (-2)) (show pAt 93 10 = some (10, .bipush (-2), 2, []) from by decide +kernel) (by decide) ?_
      exact e_retI (show pAt 93 12 = some (12, .ireturn, 1, []) from by decide +kernel) rfl vc

theorem w_mtak {X : Scr} {dp : Nat} {h : Hp} {Q : Option Value → Hp → Prop} (i : Int32) (k : Int32) (hs : HS h)
    (vc : Ends X dp 109 0 [.ref 93, .int k, .int 0, .int 6] [] h (fun rv h1 => ∃ r2, rv = some (.int r2) ∧ HS h1 ∧ ((condB .ne r2 0 = true → Ends X dp 112 0 [.ref 93, .int i] [] h1 (fun rv h5 => ∃ r6, rv = some (.int r6) ∧ HS h5 ∧ ((condB .ne r6 0 = true → (inB i 7 = true ∧ ((condB .eq k 0 = true → Q (some (.int (h5.2.1 94 i.toNatClampNeg))) h5) ∧ (condB .eq k 0 = false → ((condB .eq (h5.2.1 94 i.toNatClampNeg) k = true → Q (some (.int (h5.2.1 94 i.toNatClampNeg))) h5) ∧ (condB .eq (h5.2.1 94 i.toNatClampNeg) k = false → ((condB .ne k 1 = true → ((condB .ne k 2 = true → ((condB .ne k 3 = true → Q (some (.int (-12))) h5) ∧ (condB .ne k 3 = false → ((condB .ne (h5.2.1 94 i.toNatClampNeg) 6 = true → Q (some (.int (-12))) h5) ∧ (condB .ne (h5.2.1 94 i.toNatClampNeg) 6 = false → Q (some (.int (h5.2.1 94 i.toNatClampNeg))) h5))))) ∧ (condB .ne k 2 = false → ((condB .eq (h5.2.1 94 i.toNatClampNeg) 5 = true → Q (some (.int (h5.2.1 94 i.toNatClampNeg))) h5) ∧ (condB .eq (h5.2.1 94 i.toNatClampNeg) 5 = false → ((condB .ne k 3 = true → Q (some (.int (-12))) h5) ∧ (condB .ne k 3 = false → ((condB .ne (h5.2.1 94 i.toNatClampNeg) 6 = true → Q (some (.int (-12))) h5) ∧ (condB .ne (h5.2.1 94 i.toNatClampNeg) 6 = false → Q (some (.int (h5.2.1 94 i.toNatClampNeg))) h5))))))))) ∧ (condB .ne k 1 = false → ((condB .eq (h5.2.1 94 i.toNatClampNeg) 4 = true → Q (some (.int (h5.2.1 94 i.toNatClampNeg))) h5) ∧ (condB .eq (h5.2.1 94 i.toNatClampNeg) 4 = false → ((condB .ne k 2 = true → ((condB .ne k 3 = true → Q (some (.int (-12))) h5) ∧ (condB .ne k 3 = false → ((condB .ne (h5.2.1 94 i.toNatClampNeg) 6 = true → Q (some (.int (-12))) h5) ∧ (condB .ne (h5.2.1 94 i.toNatClampNeg) 6 = false → Q (some (.int (h5.2.1 94 i.toNatClampNeg))) h5))))) ∧ (condB .ne k 2 = false → ((condB .eq (h5.2.1 94 i.toNatClampNeg) 5 = true → Q (some (.int (h5.2.1 94 i.toNatClampNeg))) h5) ∧ (condB .eq (h5.2.1 94 i.toNatClampNeg) 5 = false → ((condB .ne k 3 = true → Q (some (.int (-12))) h5) ∧ (condB .ne k 3 = false → ((condB .ne (h5.2.1 94 i.toNatClampNeg) 6 = true → Q (some (.int (-12))) h5) ∧ (condB .ne (h5.2.1 94 i.toNatClampNeg) 6 = false → Q (some (.int (h5.2.1 94 i.toNatClampNeg))) h5)))))))))))))))))) ∧ (condB .ne r6 0 = false → Q (some (.int (-11))) h5)))) ∧ (condB .ne r2 0 = false → Q (some (.int (-2))) h1)))) :
    Ends X (dp + 1) 196 0 [.ref 93, .int i, .int k, .retAddr 0] [] h Q := by
  have ra : ∀ {a : Nat}, a < 1000 → a ≤ OLDB := fun h => by have := OLDB_eq; omega
  refine e_aload_n (show pAt 196 0 = some (0, .aload_n 0, 1, []) from by decide +kernel) rfl (ra (by decide)) ?_
  refine e_iload_n (show pAt 196 1 = some (1, .iload_n 2, 1, []) from by decide +kernel) rfl ?_
  refine e_iconst (c := 0) (show pAt 196 2 = some (2, .iconst 0, 1, []) from by decide +kernel) (by decide) ?_
  refine e_bipush (c := 6) (show pAt 196 3 = some (3, .bipush 6, 2, []) from by decide +kernel) (by decide) ?_
  refine Ends.call (show pAt 196 5 = some (5, .invokevirtual 206, 3, [109, 4, 0, 0, 5081, 5083, 54]) from by decide +kernel) (isRet_none rfl) rfl (call_this (show HS h from hs) rfl rfl (by decide)) (Ends.mono vc ?_)
  rintro _ h1 ⟨r2, rfl, hs_h1, vc⟩
  refine e_if (t := 14) (show pAt 196 8 = some (8, .ifCond .ne 6, 3, []) from by decide +kernel) rfl (fun c4 => ?_) (fun c4 => ?_)
  · replace vc := vc.1 c4
    refine e_aload_n (show pAt 196 14 = some (14, .aload_n 0, 1, []) from by decide +kernel) rfl (ra (by decide)) ?_
    refine e_iload_n (show pAt 196 15 = some (15, .iload_n 1, 1, []) from by decide +kernel) rfl ?_
    refine Ends.call (show pAt 196 16 = some (16, .invokevirtual 210, 3, [112, 2, 0, 0, 5089, 5091, 55]) from by decide +kernel) (isRet_none rfl) rfl (call_this (show HS h1 from hs_h1) rfl rfl (by decide)) (Ends.mono vc ?_)
    rintro _ h5 ⟨r6, rfl, hs_h5, vc⟩
    refine e_if (t := 25) (show pAt 196 19 = some (19, .ifCond .ne 6, 3, []) from by decide +kernel) rfl (fun c8 => ?_) (fun c8 => ?_)
    · replace vc := vc.1 c8
      refine e_aload_n (show pAt 196 25 = some (25, .aload_n 0, 1, []) from by decide +kernel) rfl (ra (by decide)) ?_
      refine e_gR (show pAt 196 26 = some (26, .getfield 19, 3, [7, 3, 0, 4126]) from by decide +kernel) (show HS h5 from hs_h5) rfl (by decide) (hs_ref (show HS h5 from hs_h5) rfl) ?_
      refine e_iload_n (show pAt 196 29 = some (29, .iload_n 1, 1, []) from by decide +kernel) rfl ?_
      obtain ⟨c9, vc⟩ := vc
      refine e_aldv (v := h5.2.1 94 i.toNatClampNeg) (show pAt 196 30 = some (30, .iaload, 1, []) from by decide +kernel) (show HS h5 from hs_h5) (by decide) c9 rfl ?_
      refine e_istore_n (show pAt 196 31 = some (31, .istore_n 3, 1, []) from by decide +kernel) ⟨Nat.le_of_ble_eq_true rfl, rfl⟩ rfl ?_
      refine e_iload_n (show pAt 196 32 = some (32, .iload_n 2, 1, []) from by decide +kernel) rfl ?_
      refine e_if (t := 72) (show pAt 196 33 = some (33, .ifCond .eq 39, 3, []) from by decide +kernel) rfl (fun c10 => ?_) (fun c10 => ?_)
      · replace vc := vc.1 c10
        refine e_iload_n (show pAt 196 72 = some (72, .iload_n 3, 1, []) from by decide +kernel) rfl ?_
        refine e_goto (t := 78) (show pAt 196 73 = some (73, .goto 5, 3, []) from by decide +kernel) rfl ?_
        exact e_retI (show pAt 196 78 = some (78, .ireturn, 1, []) from by decide +kernel) rfl vc
      · replace vc := vc.2 c10
        refine e_iload_n (show pAt 196 36 = some (36, .iload_n 3, 1, []) from by decide +kernel) rfl ?_
        refine e_iload_n (show pAt 196 37 = some (37, .iload_n 2, 1, []) from by decide +kernel) rfl ?_
        refine e_icmp (t := 72) (show pAt 196 38 = some (38, .if_icmp .eq 34, 3, []) from by decide +kernel) rfl (fun c11 => ?_) (fun c11 => ?_)
        · replace vc := vc.1 c11
          refine e_iload_n (show pAt 196 72 = some (72, .iload_n 3, 1, []) from by decide +kernel) rfl ?_
          refine e_goto (t := 78) (show pAt 196 73 = some (73, .goto 5, 3, []) from by decide +kernel) rfl ?_
          exact e_retI (show pAt 196 78 = some (78, .ireturn, 1, []) from by decide +kernel) rfl vc
        · replace vc := vc.2 c11
          refine e_iload_n (show pAt 196 41 = some (41, .iload_n 2, 1, []) from by decide +kernel) rfl ?_
          refine e_iconst (c := 1) (show pAt 196 42 = some (42, .iconst 1, 1, []) from by decide +kernel) (by decide) ?_
          refine e_icmp (t := 51) (show pAt 196 43 = some (43, .if_icmp .ne 8, 3, []) from by decide +kernel) rfl (fun c12 => ?_) (fun c12 => ?_)
          · replace vc := vc.1 c12
            refine e_iload_n (show pAt 196 51 = some (51, .iload_n 2, 1, []) from by decide +kernel) rfl ?_
            refine e_iconst (c := 2) (show pAt 196 52 = some (52, .iconst 2, 1, []) from by decide +kernel) (by decide) ?_
            refine e_icmp (t := 61) (show pAt 196 53 = some (53, .if_icmp .ne 8, 3, []) from by decide +kernel) rfl (fun c13 => ?_) (fun c13 => ?_)
            · replace vc := vc.1 c13
              refine e_iload_n (show pAt 196 61 = some (61, .iload_n 2, 1, []) from by decide +kernel) rfl ?_
              refine e_iconst (c := 3) (show pAt 196 62 = some (62, .iconst 3, 1, []) from by decide +kernel) (by decide) ?_
              refine e_icmp (t := 76) (show pAt 196 63 = some (63, .if_icmp .ne 13, 3, []) from by decide +kernel) rfl (fun c14 => ?_) (fun c14 => ?_)
              · replace vc := vc.1 c14
                refine e_bipush (c := (-12)) (show pAt 196 76 = some (76, .bipush (-12), 2, []) from by decide +kernel) (by decide) ?_
                exact e_retI (show pAt 196 78 = some (78, .ireturn, 1, []) from by decide +kernel) rfl vc
              · replace vc := vc.2 c14
                refine e_iload_n (show pAt 196 66 = some (66, .iload_n 3, 1, []) from by decide +kernel) rfl ?_
                refine e_bipush (c := 6) (show pAt 196 67 = some (67, .bipush 6, 2, []) from by decide +kernel) (by decide) ?_
                refine e_icmp (t := 76) (show pAt 196 69 = some (69, .if_icmp .ne 7, 3, []) from by decide +kernel) rfl (fun c15 => ?_) (fun c15 => ?_)
                · replace vc := vc.1 c15
                  refine e_bipush (c := (-12)) (show pAt 196 76 = some (76, .bipush (-12), 2, []) from by decide +kernel) (by decide) ?_
                  exact e_retI (show pAt 196 78 = some (78, .ireturn, 1, []) from by decide +kernel) rfl vc
                · replace vc := vc.2 c15
                  refine e_iload_n (show pAt 196 72 = some (72, .iload_n 3, 1, []) from by decide +kernel) rfl ?_
                  refine e_goto (t := 78) (show pAt 196 73 = some (73, .goto 5, 3, []) from by decide +kernel) rfl ?_
                  exact e_retI (show pAt 196 78 = some (78, .ireturn, 1, []) from by decide +kernel) rfl vc
            · replace vc := vc.2 c13
              refine e_iload_n (show pAt 196 56 = some (56, .iload_n 3, 1, []) from by decide +kernel) rfl ?_
              refine e_iconst (c := 5) (show pAt 196 57 = some (57, .iconst 5, 1, []) from by decide +kernel) (by decide) ?_
              refine e_icmp (t := 72) (show pAt 196 58 = some (58, .if_icmp .eq 14, 3, []) from by decide +kernel) rfl (fun c16 => ?_) (fun c16 => ?_)
              · replace vc := vc.1 c16
                refine e_iload_n (show pAt 196 72 = some (72, .iload_n 3, 1, []) from by decide +kernel) rfl ?_
                refine e_goto (t := 78) (show pAt 196 73 = some (73, .goto 5, 3, []) from by decide +kernel) rfl ?_
                exact e_retI (show pAt 196 78 = some (78, .ireturn, 1, []) from by decide +kernel) rfl vc
              · replace vc := vc.2 c16
                refine e_iload_n (show pAt 196 61 = some (61, .iload_n 2, 1, []) from by decide +kernel) rfl ?_
                refine e_iconst (c := 3) (show pAt 196 62 = some (62, .iconst 3, 1, []) from by decide +kernel) (by decide) ?_
                refine e_icmp (t := 76) (show pAt 196 63 = some (63, .if_icmp .ne 13, 3, []) from by decide +kernel) rfl (fun c17 => ?_) (fun c17 => ?_)
                · replace vc := vc.1 c17
                  refine e_bipush (c := (-12)) (show pAt 196 76 = some (76, .bipush (-12), 2, []) from by decide +kernel) (by decide) ?_
                  exact e_retI (show pAt 196 78 = some (78, .ireturn, 1, []) from by decide +kernel) rfl vc
                · replace vc := vc.2 c17
                  refine e_iload_n (show pAt 196 66 = some (66, .iload_n 3, 1, []) from by decide +kernel) rfl ?_
                  refine e_bipush (c := 6) (show pAt 196 67 = some (67, .bipush 6, 2, []) from by decide +kernel) (by decide) ?_
                  refine e_icmp (t := 76) (show pAt 196 69 = some (69, .if_icmp .ne 7, 3, []) from by decide +kernel) rfl (fun c18 => ?_) (fun c18 => ?_)
                  · replace vc := vc.1 c18
                    refine e_bipush (c := (-12)) (show pAt 196 76 = some (76, .bipush (-12), 2, []) from by decide +kernel) (by decide) ?_
                    exact e_retI (show pAt 196 78 = some (78, .ireturn, 1, []) from by decide +kernel) rfl vc
                  · replace vc := vc.2 c18
                    refine e_iload_n (show pAt 196 72 = some (72, .iload_n 3, 1, []) from by decide +kernel) rfl ?_
                    refine e_goto (t := 78) (show pAt 196 73 = some (73, .goto 5, 3, []) from by decide +kernel) rfl ?_
                    exact e_retI (show pAt 196 78 = some (78, .ireturn, 1, []) from by decide +kernel) rfl vc
          · replace vc := vc.2 c12
            refine e_iload_n (show pAt 196 46 = some (46, .iload_n 3, 1, []) from by decide +kernel) rfl ?_
            refine e_iconst (c := 4) (show pAt 196 47 = some (47, .iconst 4, 1, []) from by decide +kernel) (by decide) ?_
            refine e_icmp (t := 72) (show pAt 196 48 = some (48, .if_icmp .eq 24, 3, []) from by decide +kernel) rfl (fun c19 => ?_) (fun c19 => ?_)
            · replace vc := vc.1 c19
              refine e_iload_n (show pAt 196 72 = some (72, .iload_n 3, 1, []) from by decide +kernel) rfl ?_
              refine e_goto (t := 78) (show pAt 196 73 = some (73, .goto 5, 3, []) from by decide +kernel) rfl ?_
              exact e_retI (show pAt 196 78 = some (78, .ireturn, 1, []) from by decide +kernel) rfl vc
            · replace vc := vc.2 c19
              refine e_iload_n (show pAt 196 51 = some (51, .iload_n 2, 1, []) from by decide +kernel) rfl ?_
              refine e_iconst (c := 2) (show pAt 196 52 = some (52, .iconst 2, 1, []) from by decide +kernel) (by decide) ?_
              refine e_icmp (t := 61) (show pAt 196 53 = some (53, .if_icmp .ne 8, 3, []) from by decide +kernel) rfl (fun c20 => ?_) (fun c20 => ?_)
              · replace vc := vc.1 c20
                refine e_iload_n (show pAt 196 61 = some (61, .iload_n 2, 1, []) from by decide +kernel) rfl ?_
                refine e_iconst (c := 3) (show pAt 196 62 = some (62, .iconst 3, 1, []) from by decide +kernel) (by decide) ?_
                refine e_icmp (t := 76) (show pAt 196 63 = some (63, .if_icmp .ne 13, 3, []) from by decide +kernel) rfl (fun c21 => ?_) (fun c21 => ?_)
                · replace vc := vc.1 c21
                  refine e_bipush (c := (-12)) (show pAt 196 76 = some (76, .bipush (-12), 2, []) from by decide +kernel) (by decide) ?_
                  exact e_retI (show pAt 196 78 = some (78, .ireturn, 1, []) from by decide +kernel) rfl vc
                · replace vc := vc.2 c21
                  refine e_iload_n (show pAt 196 66 = some (66, .iload_n 3, 1, []) from by decide +kernel) rfl ?_
                  refine e_bipush (c := 6) (show pAt 196 67 = some (67, .bipush 6, 2, []) from by decide +kernel) (by decide) ?_
                  refine e_icmp (t := 76) (show pAt 196 69 = some (69, .if_icmp .ne 7, 3, []) from by decide +kernel) rfl (fun c22 => ?_) (fun c22 => ?_)
                  · replace vc := vc.1 c22
                    refine e_bipush (c := (-12)) (show pAt 196 76 = some (76, .bipush (-12), 2, []) from by decide +kernel) (by decide) ?_
                    exact e_retI (show pAt 196 78 = some (78, .ireturn, 1, []) from by decide +kernel) rfl vc
                  · replace vc := vc.2 c22
                    refine e_iload_n (show pAt 196 72 = some (72, .iload_n 3, 1, []) from by decide +kernel) rfl ?_
                    refine e_goto (t := 78) (show pAt 196 73 = some (73, .goto 5, 3, []) from by decide +kernel) rfl ?_
                    exact e_retI (show pAt 196 78 = some (78, .ireturn, 1, []) from by decide +kernel) rfl vc
              · replace vc := vc.2 c20
                refine e_iload_n (show pAt 196 56 = some (56, .iload_n 3, 1, []) from by decide +kernel) rfl ?_
                refine e_iconst (c := 5) (show pAt 196 57 = some (57, .iconst 5, 1, []) from by decide +kernel) (by decide) ?_
                refine e_icmp (t := 72) (show pAt 196 58 = some (58, .if_icmp .eq 14, 3, []) from by decide +kernel) rfl (fun c23 => ?_) (fun c23 => ?_)
                · replace vc := vc.1 c23
                  refine e_iload_n (show pAt 196 72 = some (72, .iload_n 3, 1, []) from by decide +kernel) rfl ?_
                  refine e_goto (t := 78) (show pAt 196 73 = some (73, .goto 5, 3, []) from by decide +kernel) rfl ?_
                  exact e_retI (show pAt 196 78 = some (78, .ireturn, 1, []) from by decide +kernel) rfl vc
                · replace vc := vc.2 c23
                  refine e_iload_n (show pAt 196 61 = some (61, .iload_n 2, 1, []) from by decide +kernel) rfl ?_
                  refine e_iconst (c := 3) (show pAt 196 62 = some (62, .iconst 3, 1, []) from by decide +kernel) (by decide) ?_
                  refine e_icmp (t := 76) (show pAt 196 63 = some (63, .if_icmp .ne 13, 3, []) from by decide +kernel) rfl (fun c24 => ?_) (fun c24 => ?_)
                  · replace vc := vc.1 c24
                    refine e_bipush (c := (-12)) (show pAt 196 76 = some (76, .bipush (-12), 2, []) from by decide +kernel) (by decide) ?_
                    exact e_retI (show pAt 196 78 = some (78, .ireturn, 1, []) from by decide +kernel) rfl vc
                  · replace vc := vc.2 c24
                    refine e_iload_n (show pAt 196 66 = some (66, .iload_n 3, 1, []) from by decide +kernel) rfl ?_
                    refine e_bipush (c := 6) (show pAt 196 67 = some (67, .bipush 6, 2, []) from by decide +kernel) (by decide) ?_
                    refine e_icmp (t := 76) (show pAt 196 69 = some (69, .if_icmp .ne 7, 3, []) from by decide +kernel) rfl (fun c25 => ?_) (fun c25 => ?_)
                    · replace vc := vc.1 c25
                      refine e_bipush (c := (-12)) (show pAt 196 76 = some (76, .bipush (-12), 2, []) from by decide +kernel) (by decide) ?_
                      exact e_retI (show pAt 196 78 = some (78, .ireturn, 1, []) from by decide +kernel) rfl vc
                    · replace vc := vc.2 c25
                      refine e_iload_n (show pAt 196 72 = some (72, .iload_n 3, 1, []) from by decide +kernel) rfl ?_
                      refine e_goto (t := 78) (show pAt 196 73 = some (73, .goto 5, 3, []) from by decide +kernel) rfl ?_
                      exact e_retI (show pAt 196 78 = some (78, .ireturn, 1, []) from by decide +kernel) rfl vc
    · replace vc := vc.2 c8
      refine e_bipush (c := (-11)) (show pAt 196 22 = some (22, .bipush (-11), 2, []) from by decide +kernel) (by decide) ?_
      exact e_retI (show pAt 196 24 = some (24, .ireturn, 1, []) from by decide +kernel) rfl vc
  · replace vc := vc.2 c4
    refine e_bipush (c := (-2)) (show pAt 196 11 = some (11, .bipush (-2), 2, []) from by decide +kernel) (by decide) ?_
    exact e_retI (show pAt 196 13 = some (13, .ireturn, 1, []) from by decide +kernel) rfl vc
end JN99t1bwalks
section JN99t1zpairs
/-! The calls that INV speaks of: alone, person, image, undo. -/
def SUPJ : List (Nat × Nat) := [(93, 9), (101, 999), (104, 999), (105, 999), (106, 999), (93, 30), (56, 999), (38, 999)]
theorem INV_of {W : List (Nat × Nat)} {h h' : Hp} (hd : disW SUPJ W = true) (hi : INV h) (hh : HI h') (hf : frm W h h') (t1 : (h'.2.1 93 10).toInt < (h.2.1 93 9).toInt) (t2 : (h'.2.1 93 45).toInt < (h.2.1 93 9).toInt) (g : h'.2.1 93 32 = 0) (s : (h'.2.1 93 1).toInt ≤ 999) (q : (h'.2.1 93 47).toInt ≤ 999) (r1 : h'.2.1 1 0 = h'.2.1 93 0) (r2 : h'.2.1 9 0 = h'.2.1 93 46) (r3 : h'.2.1 0 2 = h'.2.1 93 44) : INV h' := by
  obtain ⟨-, ⟨⟨-, -, t3⟩, j1⟩, -, -, -, ⟨x1, x2⟩, -, -, -⟩ := hi
  have e : ∀ a k, inW SUPJ a k = true → h'.2.1 a k = h.2.1 a k := fun a k hs => (hf a k (dis_in hd hs)).1
  have er : ∀ a k, inW SUPJ a k = true → h'.2.2.2 a k = h.2.2.2 a k := fun a k hs => (hf a k (dis_in hd hs)).2.2
  have e9 : h'.2.1 93 9 = h.2.1 93 9 := e 93 9 rfl
  have e106 : h'.2.1 106 = h.2.1 106 := by funext k; exact e _ _ (by simp [inW, SUPJ])
  have e5 : ∀ x, h'.2.1 105 x = h.2.1 105 x := fun x => e 105 _ (by simp [inW, SUPJ])
  refine ⟨hh, ⟨⟨by rw [e9]; exact t1, by rw [e9]; exact t2, fun f c hf hc => ?_⟩, by rw [e 93 30 rfl]; exact j1⟩, g, s, q, ⟨fun i hi => ?_, fun i hi => ?_⟩, r1, r2, r3⟩
  · rw [e9] at hf
    rw [e 101 f (by simp [inW, SUPJ])] at hc
    exact ⟨cl_fr (e 104 _ (by simp [inW, SUPJ])) (e5 _) e106 (t3 f c hf hc).1, by rw [e5]; exact (t3 f c hf hc).2⟩
  · rw [er 56 i (by simp [inW, SUPJ])]; exact x1 i hi
  · rw [er 38 i (by simp [inW, SUPJ])]; exact x2 i hi
theorem sh1_rng {w : Int32} (h1 : 0 ≤ w.toInt) (h2 : w.toInt ≤ 6) : 0 ≤ ((1 : Int32) <<< (w &&& 31)).toInt ∧ ((1 : Int32) <<< (w &&& 31)).toInt ≤ 127 := by
  rw [i_shl h1 (by omega)]
  have : w.toInt.toNat ≤ 6 := by omega
  generalize w.toInt.toNat = n at this
  match n, this with
  | 0, _ => decide
  | 1, _ => decide
  | 2, _ => decide
  | 3, _ => decide
  | 4, _ => decide
  | 5, _ => decide
  | 6, _ => decide
  | n + 7, h => omega
def WAL : List (Nat × Nat) := [(93, 2), (93, 32), (93, 34), (93, 35), (109, 999), (110, 999)]
theorem alone_f {X : Scr} {dp : Nat} {h : Hp} {Q : Option Value → Hp → Prop} (w : Int32) (hd : 40 ≤ dp) (hi : INV h) (hQ : ∀ (r : Int32) h', INV h' → frm WAL h h' → Q (some (.int r)) h') : Ends X (dp + 1) 170 0 [.ref 93, .int w, .retAddr 0, .retAddr 0] [] h Q := by
  obtain ⟨d, rfl⟩ : ∃ d, dp = d + 1 := ⟨dp - 1, by omega⟩
  have hh := hi.1
  have b0 := hh.iv 93 0 (r := (0, 7)) rfl
  have b2 := hh.iv 93 2 (r := (0, 127)) rfl
  simp only at b0 b2
  refine w_alone w hh.hs (person_ok w hh ⟨_, rfl, hh.hs, fun e => run_ok w hh.hs ⟨_, rfl, hh.hs, fun e2 => ?_, fun e2 => hQ _ h hi frm_refl⟩, fun e => hQ _ h hi frm_refl⟩)
  have e := cn2 e
  simp only [Bool.and_eq_true, decide_eq_true_eq] at e
  have hs := sh1_rng (w := w) (by omega) (by omega)
  generalize hu : ((1 : Int32) <<< (w &&& 31)) = u at hs
  have a1 := i_and1 (x := h.2.1 93 2) (y := u ^^^ (-1)) b2.1
  generalize hz : (h.2.1 93 2 &&& (u ^^^ (-1))) = z at a1
  have g1 : HI (hpI h 93 32 z) := HI_put hh (i32r z).1 (i32r z).2
  have g2 : HI (hpI (hpI h 93 32 z) 93 2 u) := HI_put g1 (by show (0 : Int) ≤ _; omega) (by show _ ≤ (127 : Int); omega)
  have f2 : frm WAL h (hpI (hpI h 93 32 z) 93 2 u) := frm_put (frm_put frm_refl rfl) rfl
  have j2 : J1.1 (hpI (hpI h 93 32 z) 93 2 u) := JS1 h _ (fun a k hs => by
    have : ∀ j, inW SUP1 93 j = true → j = 9 ∨ j = 10 ∨ j = 45 ∨ j = 30 := by
      intro j hj
      simp [inW, SUP1] at hj
      omega
    by_cases c : a = 93
    · have := this k (c ▸ hs)
      rw [put_ne (by omega), put_ne (by omega)]
    · rw [put_ne (by omega), put_ne (by omega)]) hi.2.1
  refine (caught_s1 (X := X) (dp := d + 1) (Nat.le_trans (by decide +kernel : cD k_285 ≤ 40) hd) g2 j2).mono ?_
  rintro v h9 ⟨r, rfl, r1, r2, g9, f9⟩
  refine ⟨r, rfl, g9.hs, ones_ok r g9.hs r1 (by omega) (fun x _ => ⟨x, rfl, g9.hs, hQ _ _ ?_ ?_⟩)⟩
  rotate_left
  · exact frm_put (frm_put (frm_trans f2 (frm_mono (by decide) f9)) rfl) rfl
  have f : frm WAL h (hpI (hpI h9 93 32 0) 93 2 (h.2.1 93 2)) := frm_put (frm_put (frm_trans f2 (frm_mono (by decide) f9)) rfl) rfl
  have g : HI (hpI (hpI h9 93 32 0) 93 2 (h.2.1 93 2)) := HI_put (HI_put g9 (i32r 0).1 (i32r 0).2) (by show (0 : Int) ≤ _; omega) (by show _ ≤ (127 : Int); omega)
  refine INV_of (W := WAL) (by decide) hi g f ?_ ?_ ?_ ?_ ?_ ?_ ?_ ?_
  · rw [frI f rfl]; exact hi.2.1.1.1
  · rw [frI f rfl]; exact hi.2.1.1.2.1
  · rw [put_ne (by omega), put_at]
  · rw [frI f rfl]; exact hi.2.2.2.1
  · rw [frI f rfl]; exact hi.2.2.2.2.1
  · rw [frI f rfl, frI f rfl]; exact hi.2.2.2.2.2.2.1
  · rw [frI f rfl, frI f rfl]; exact hi.2.2.2.2.2.2.2.1
  · rw [frI f rfl, frI f rfl]; exact hi.2.2.2.2.2.2.2.2
theorem alone_s {X : Scr} {dp : Nat} {h : Hp} {Q : Option Value → Hp → Prop} (w : Int32) (hd : 40 ≤ dp) (hi : INV h) (hQ : ∀ (r : Int32) h', INV h' → Q (some (.int r)) h') : Ends X (dp + 1) 170 0 [.ref 93, .int w, .retAddr 0, .retAddr 0] [] h Q := alone_f w hd hi (fun r h' a _ => hQ r h' a)
def WPJ : List (Nat × Nat) := [(2, 999), (3, 999), (4, 999), (5, 999), (6, 999), (1, 0), (93, 0), (93, 2), (94, 999), (95, 999), (96, 999), (97, 999), (98, 999), (99, 999)]
theorem WPJ_in {a k : Nat} (h : (a == 2 || a == 3 || a == 4 || a == 5 || a == 6) = true) : inW WPJ a k = true := by
  simp only [Bool.or_eq_true, beq_iff_eq] at h
  rcases h with (((rfl | rfl) | rfl) | rfl) | rfl <;> simp [inW, WPJ]
theorem joinH_ok {h : Hp} {k v l p s : Int32} (hh : HI h) (ok : perOK (h.2.1 1 0) k v l p s = true) : HI (joinH h k v l p s) ∧ frm WPJ h (joinH h k v l p s) ∧ (joinH h k v l p s).2.1 1 0 = h.2.1 1 0 + 1 ∧ (joinH h k v l p s).2.1 93 0 = h.2.1 93 0 := by
  have b := hh.iv 1 0 (r := (0, 7)) rfl
  simp only at b
  unfold perOK inR at ok
  simp only [Bool.and_eq_true, decide_eq_true_eq, Bool.not_eq_true', decide_eq_false_iff_not] at ok
  obtain ⟨⟨a0, ⟨⟨a1, a2⟩, a3⟩, a4⟩, a5⟩ := ok
  have g : (h.2.1 1 0 + 1).toInt = (h.2.1 1 0).toInt + 1 := by rw [i_add (by rw [i1]; omega) (by rw [i1]; omega), i1]
  have e : (joinH h k v l p s).2.1 1 0 = h.2.1 1 0 + 1 := put_at
  have e2 : (joinH h k v l p s).2.1 93 0 = h.2.1 93 0 := by unfold joinH; rw [put_ne (by omega), put_ne (by omega), put_ne (by omega), put_ne (by omega), put_ne (by omega), put_ne (by omega)]
  refine ⟨?_, ?_, e, e2⟩
  · unfold joinH
    generalize h.2.1 1 0 + 1 = u at g
    generalize (h.2.1 1 0).toInt.toNat = n
    exact HI_put (HI_put (HI_put (HI_put (HI_put (HI_put hh a0.1 a0.2) a1.1 a1.2) a2.1 a2.2) a3.1 a3.2) a4.1 a4.2) (by show (0 : Int) ≤ _; omega) (by show _ ≤ (7 : Int); omega)
  · unfold joinH
    exact frm_put (frm_put (frm_put (frm_put (frm_put (frm_put frm_refl (WPJ_in rfl)) (WPJ_in rfl)) (WPJ_in rfl)) (WPJ_in rfl)) (WPJ_in rfl)) rfl
theorem per_pair {X : Scr} {dp : Nat} {h : Hp} {Q : Option Value → Hp → Prop} (k v l p s : Int32) (hi : INV h) {K : Hp → Int32 → Int32 → Prop} (hK : ∀ r h', INV h' → K h' r r) (hQ : ∀ r h1, HI h1 → Ends X (dp + 1) 114 0 [.ref 93, .int k, .int v, .int l, .int p, .int s, .retAddr 0] [] h1 (fun w h2 => ∃ r2, w = some (.int r2) ∧ HS h2 ∧ K h2 r r2) → Q (some (.int r)) h1) : Ends X (dp + 1) 63 0 [.ref 0, .int k, .int v, .int l, .int p, .int s] [] h Q := by
  have hh := hi.1
  have r1 := hi.2.2.2.2.2.2.1
  have key : ∃ hc, hc = (if perOK (h.2.1 1 0) k v l p s = true then joinH h k v l p s else h) ∧ HI hc ∧ frm WPJ h hc ∧ hc.2.1 93 0 = h.2.1 93 0 ∧ hc.2.1 1 0 = if perOK (h.2.1 1 0) k v l p s = true then h.2.1 1 0 + 1 else h.2.1 1 0 := by
    by_cases c : perOK (h.2.1 1 0) k v l p s = true
    · have q := joinH_ok hh c
      exact ⟨_, rfl, by rw [if_pos c]; exact q.1, by rw [if_pos c]; exact q.2.1, by rw [if_pos c]; exact q.2.2.2, by rw [if_pos c, if_pos c]; exact q.2.2.1⟩
    · exact ⟨_, rfl, by rw [if_neg c]; exact hh, by rw [if_neg c]; exact frm_refl, by rw [if_neg c], by rw [if_neg c, if_neg c]⟩
  obtain ⟨hc, e, gc, fc, c0, c1⟩ := key
  refine cper_ok k v l p s hh ?_
  rw [← e]
  refine hQ _ hc gc ?_
  refine mper_ok k v l p s gc (fun h' z1 z2 z3 => ⟨_, rfl, z1.hs, ?_⟩)
  rw [c0, ← r1] at z3 ⊢
  refine hK _ h' ?_
  have f : frm WPJ h h' := frm_trans fc (frm_mono (by decide) z2)
  refine INV_of (W := WPJ) (by decide) hi z1 f ?_ ?_ ?_ ?_ ?_ ?_ ?_ ?_
  · rw [frI f rfl]; exact hi.2.1.1.1
  · rw [frI f rfl]; exact hi.2.1.1.2.1
  · rw [frI f rfl]; exact hi.2.2.1
  · rw [frI f rfl]; exact hi.2.2.2.1
  · rw [frI f rfl]; exact hi.2.2.2.2.1
  · have q : h'.2.1 1 0 = hc.2.1 1 0 := frI z2 rfl
    rw [q, c1]
    by_cases c : perOK (h.2.1 1 0) k v l p s = true
    · rw [if_pos c] at z3 ⊢
      rw [z3.1, c0, r1]
    · rw [if_neg c] at z3 ⊢
      rw [z3, c0, r1]
  · rw [frI f rfl, frI f rfl]; exact hi.2.2.2.2.2.2.2.1
  · rw [frI f rfl, frI f rfl]; exact hi.2.2.2.2.2.2.2.2
/-! image -/
theorem hpM_ne {h : Hp} {a b s d n c k : Nat} (hn : c ≠ a) : (hpM h a b s d n).2.1 c k = h.2.1 c k := by
  show (if c = a then _ else h.2.1 c) k = _
  rw [if_neg hn]
theorem bec_0 {h : Hp} {a b : Nat} : (bec h a b).2.1 a 0 = h.2.1 b 0 := by
  unfold bec
  rw [put_ne (by omega), put_ne (by omega), hpM_ne (by omega), put_ne (by omega), put_ne (by omega), put_ne (by omega), hpM_ne (by omega), hpM_ne (by omega), hpM_ne (by omega), hpM_ne (by omega), hpM_ne (by omega), hpM_ne (by omega), put_at]
def WIM : List (Nat × Nat) := cW k_161 ++ Wmig
theorem img_pair {X : Scr} {dp : Nat} {h : Hp} {Q : Option Value → Hp → Prop} (hi : INV h) {K : Hp → Int32 → Int32 → Prop} (hK : ∀ r h', INV h' → K h' r r) (hQ : ∀ r h1, HI h1 → Ends X (dp + 1) 184 0 [.ref 93, .retAddr 0] [] h1 (fun w h2 => ∃ r2, w = some (.int r2) ∧ HS h2 ∧ K h2 r r2) → Q (some (.int r)) h1) : Ends X (dp + 1) 89 0 [.ref 0] [] h Q := by
  have hh := hi.1
  have e1 := cimg_ok (X := X) (dp := dp) (h := h) (Q := fun v h' => v = some (.int (h.2.1 1 0)) ∧ h' = hpI (bec h 9 1) 0 2 1) hh.hs ⟨rfl, rfl⟩
  have e2 := gd1 161 (T := k_161) (by rfl) X (dp + 1) (fun _ => 0) h [.ref 0] (by show 1 ≤ dp + 1; omega) hh (fun q => by cases q) (fun v q hq => by cases hq) ⟨⟨0, rfl, List.mem_singleton.mpr rfl⟩, trivial⟩ (fun q hq => by cases hq)
  refine (e1.and e2).mono ?_
  rintro v hc ⟨⟨rfl, rfl⟩, gc, fc, -⟩
  have c9 : (hpI (bec h 9 1) 0 2 1).2.1 9 0 = h.2.1 1 0 := by rw [put_ne (by omega), bec_0]
  have c2 : (hpI (bec h 9 1) 0 2 1).2.1 0 2 = 1 := put_at
  generalize hpI (bec h 9 1) 0 2 1 = hc at *
  have fc : frm (cW k_161) h hc := fc
  have c0 : hc.2.1 93 0 = h.2.1 93 0 := frI fc (by rfl)
  refine hQ _ hc gc (mimg_ok gc (fun h' z1 z2 z3 _ _ _ _ _ _ _ => ⟨_, rfl, z1.hs, ?_⟩))
  rw [c0, ← hi.2.2.2.2.2.2.1]
  refine hK _ h' ?_
  have f : frm WIM h h' := frm_trans (frm_mono (by decide) fc) (frm_mono (by decide) z2)
  obtain ⟨y1, y2, y3, y4, -⟩ := z3
  refine INV_of (W := WIM) (by decide) hi z1 f ?_ ?_ ?_ ?_ ?_ ?_ ?_ ?_
  · rw [frI f rfl]; exact hi.2.1.1.1
  · rw [y2, frI fc rfl]; exact hi.2.1.1.1
  · rw [frI f rfl]; exact hi.2.2.1
  · rw [frI f rfl]; exact hi.2.2.2.1
  · rw [y4, frI fc rfl]; exact hi.2.2.2.1
  · rw [frI f rfl, frI f rfl]; exact hi.2.2.2.2.2.2.1
  · rw [frI z2 (a := 9) rfl, c9, y3, c0]; exact hi.2.2.2.2.2.2.1
  · rw [frI z2 (a := 0) rfl, c2, y1]
/-! undo -/
def WUN : List (Nat × Nat) := cW k_163 ++ Wmun
theorem und_pair {X : Scr} {dp : Nat} {h : Hp} {Q : Option Value → Hp → Prop} (hi : INV h) {K : Hp → Int32 → Int32 → Prop} (hK : ∀ r h', INV h' → K h' r r) (hQ : ∀ r h1, HI h1 → Ends X (dp + 1) 185 0 [.ref 93, .retAddr 0] [] h1 (fun w h2 => ∃ r2, w = some (.int r2) ∧ HS h2 ∧ K h2 r r2) → Q (some (.int r)) h1) : Ends X (dp + 1) 90 0 [.ref 0] [] h Q := by
  have hh := hi.1
  obtain ⟨-, ⟨⟨t1, t2, t3⟩, j1⟩, hg, hs9, hq9, hrx, r1, r2, r3⟩ := id hi
  have e1 := cund_ok (X := X) (dp := dp) (h := h) (Q := fun v h' => ((h.2.1 0 2).toInt = 0 ∧ v = some (.int (-3)) ∧ h' = h) ∨ (¬ (h.2.1 0 2).toInt = 0 ∧ v = some (.int (h.2.1 9 0)) ∧ h' = bec h 1 9)) hh.hs (fun q => Or.inl ⟨q, rfl, rfl⟩) (fun q => Or.inr ⟨q, rfl, rfl⟩)
  have e2 := gd1 163 (T := k_163) (by rfl) X (dp + 1) (fun _ => 0) h [.ref 0] (by show 1 ≤ dp + 1; omega) hh (fun q => by cases q) (fun v q hq => by cases hq) ⟨⟨0, rfl, List.mem_singleton.mpr rfl⟩, trivial⟩ (fun q hq => by cases hq)
  refine (e1.and e2).mono ?_
  rintro v hc ⟨⟨q, rfl, rfl⟩ | ⟨q, rfl, rfl⟩, gc, fc, -⟩
  · refine hQ _ _ gc (mund_ok gc (fun _ => ⟨_, rfl, gc.hs, hK _ _ hi⟩) (fun n => absurd q ?_))
    rw [r3]
    exact n
  · have c1 : (bec h 1 9).2.1 1 0 = h.2.1 9 0 := bec_0
    generalize bec h 1 9 = hc at *
    have fc : frm (cW k_163) h hc := fc
    have c44 : hc.2.1 93 44 = h.2.1 93 44 := frI fc rfl
    have c46 : hc.2.1 93 46 = h.2.1 93 46 := frI fc rfl
    refine hQ _ hc gc (mund_ok gc (fun n => absurd n (by rw [c44, ← r3]; exact q)) (fun _ h' z1 z2 z3 _ _ _ _ _ _ _ => ⟨_, rfl, z1.hs, ?_⟩))
    rw [c46, ← r2]
    refine hK _ h' ?_
    have f : frm WUN h h' := frm_trans (frm_mono (by decide) fc) (frm_mono (by decide) z2)
    obtain ⟨y1, y2, y3, -⟩ := z3
    refine INV_of (W := WUN) (by decide) hi z1 f ?_ ?_ ?_ ?_ ?_ ?_ ?_ ?_
    · rw [y1, frI fc rfl]; exact t2
    · rw [frI f rfl]; exact t2
    · rw [frI f rfl]; exact hg
    · rw [y3, frI fc rfl]; exact hq9
    · rw [frI f rfl]; exact hq9
    · rw [frI z2 (a := 1) rfl, c1, y2, c46, r2]
    · rw [frI f rfl, frI f rfl]; exact r2
    · rw [frI f rfl, frI f rfl]; exact r3
end JN99t1zpairs
section JN99t2acts
/-! Acts, exactly: the answer and the bodies that ran. -/
theorem Ends.dpl {X : Scr} {dp dq y pc : Nat} {L st : List Value} {h : Hp} {Q : Option Value → Hp → Prop} (hd : dp ≤ dq) (e : Ends X dp y pc L st h Q) : Ends X dq y pc L st h Q := by
  obtain ⟨n, v, h', hr, hq⟩ := e
  exact ⟨n, v, h', run_dpl hd hr, hq⟩
/-- since h0 just these were written down, behind n others -/
def AP (a k b : Nat) (h0 : Hp) (l : List Int32) (h : Hp) : Prop := HI h ∧ frm [(a, k), (b, 999)] h0 h ∧ (h.2.1 a k).toInt = (l.length : Int) ∧ ∀ j, h.2.1 b j = if j < l.length then l.getD j 0 else h0.2.1 b j
theorem AP_0 {a k b : Nat} {h : Hp} (hh : HI h) (h1 : (ivl a k).1 ≤ 0) (h2 : 0 ≤ (ivl a k).2) (hn : a ≠ b) : AP a k b h [] (hpI h a k 0) := by
  refine ⟨HI_put hh h1 h2, frm_put frm_refl (by simp [inW]), by rw [put_at]; rfl, fun j => ?_⟩
  have c : ¬ j < ([] : List Int32).length := Nat.not_lt_zero j
  rw [if_neg c, put_ne (by omega)]
theorem AP_snoc {a k b : Nat} {h0 h : Hp} {l : List Int32} {x y : Int32} (hn : a ≠ b) (ha : AP a k b h0 l h) (i1 : (ivl b l.length).1 ≤ x.toInt) (i2 : x.toInt ≤ (ivl b l.length).2) (i3 : (ivl a k).1 ≤ y.toInt) (i4 : y.toInt ≤ (ivl a k).2) (hy : y.toInt = ((l.length + 1 : Nat) : Int)) : AP a k b h0 (l ++ [x]) (hpI (hpI h b l.length x) a k y) := by
  obtain ⟨hh, hf, hk, hb⟩ := ha
  refine ⟨HI_put (HI_put hh i1 i2) i3 i4, frm_put (frm_put hf (by simp [inW])) (by simp [inW]), ?_, fun j => ?_⟩
  · rw [put_at, hy, List.length_append]; rfl
  · rw [put_ne (by omega), put_if, List.length_append, List.getD_eq_getElem?_getD]
    by_cases c : j = l.length
    · rw [if_pos c, if_pos (by show j < l.length + 1; omega), c, List.getElem?_append_right (Nat.le_refl _), Nat.sub_self]
      rfl
    · rw [if_neg c, hb j, List.getD_eq_getElem?_getD]
      by_cases d : j < l.length
      · rw [if_pos d, if_pos (by show j < l.length + 1; omega), List.getElem?_append_left d]
      · rw [if_neg d, if_neg (by show ¬ j < l.length + 1; omega)]
section ACTS
variable {X : Scr} {h0 h : Hp} {Q : Option Value → Hp → Prop} {l : List Int32}
theorem i20 : (20 : Int32).toInt = 20 := rfl
theorem fIr (a k : Nat) (x : Int32) (hi : ivl a k = (-2147483648, 2147483647)) : (ivl a k).1 ≤ x.toInt ∧ x.toInt ≤ (ivl a k).2 := by
  rw [hi]
  exact i32r x
theorem ivl52 : ∀ j, j < 20 → ivl 52 j = (-2147483648, 2147483647) := by decide +kernel
theorem ivl122 : ∀ j, j < 20 → ivl 122 j = (-2147483648, 2147483647) := by decide +kernel
theorem cbeg_ok {dp : Nat} {b : Int32} (c : Int32) (hc : b = c) (hp : AP 51 4 52 h0 l h) (hl : l.length < 20) (hQ : ∀ h', AP 51 4 52 h0 (l ++ [c]) h' → Q none h') : Ends X dp 4 0 [.ref 51, .int b] [] h Q := by
  subst hc
  have hk := hp.2.2.1
  refine w_cbeg b hp.1.hs ⟨fun e => ?_, fun e => ⟨fun e2 => ?_, fun e2 => ⟨inB_iff (by omega) (by omega), ?_⟩⟩⟩
  · exfalso
    have e : (h.2.1 51 4).toInt < 0 := of_decide_eq_true (cI e)
    omega
  · exfalso
    have e : 20 ≤ (h.2.1 51 4).toInt := of_decide_eq_true (cI e2)
    omega
  · have g : (h.2.1 51 4 + 1).toInt = ((l.length + 1 : Nat) : Int) := by rw [i_add (by rw [i1]; omega) (by rw [i1]; omega), i1]; omega
    have q : (h.2.1 51 4).toNatClampNeg = l.length := by show (h.2.1 51 4).toInt.toNat = _; omega
    rw [q]
    generalize h.2.1 51 4 + 1 = u at g ⊢
    have r1 := fIr 52 l.length b (ivl52 _ hl)
    have r2 := fIr 51 4 u (by decide +kernel)
    exact hQ _ (AP_snoc (by decide) hp r1.1 r1.2 r2.1 r2.2 g)
theorem mbod_ok {dp : Nat} (b : Int32) (hp : AP 93 58 122 h0 l h) (hl : l.length < 20) (hQ : ∀ h', AP 93 58 122 h0 (l ++ [b]) h' → Q none h') : Ends X dp 186 0 [.ref 93, .int b] [] h Q := by
  have hk := hp.2.2.1
  refine w_mbod b hp.1.hs ⟨fun e2 => ?_, fun e2 => ⟨inB_iff (by omega) (by omega), ?_⟩⟩
  · exfalso
    have e : 20 ≤ (h.2.1 93 58).toInt := of_decide_eq_true (cI e2)
    omega
  · have g : (h.2.1 93 58 + 1).toInt = ((l.length + 1 : Nat) : Int) := by rw [i_add (by rw [i1]; omega) (by rw [i1]; omega), i1]; omega
    have q : (h.2.1 93 58).toNatClampNeg = l.length := by show (h.2.1 93 58).toInt.toNat = _; omega
    rw [q]
    generalize h.2.1 93 58 + 1 = u at g ⊢
    have r1 := fIr 122 l.length b (ivl122 _ hl)
    exact hQ _ (AP_snoc (by decide) hp r1.1 r1.2 (by show (0 : Int) ≤ _; omega) (by show _ ≤ (100 : Int); omega) g)
/-- what runs(..) of one of kind k is, and the bodies that ran for it -/
def aRA (k p v x : Int32) : Int32 := if k = 2 then x * 3 + p else if k = 4 then -(x + p) else if k = 5 then x * 3 + p else if k = 6 then (x + p) ^^^ v else x + p
def lRL (k : Int32) : List Int32 := if k = 2 then [30, 10] else if k = 4 then [50, 10] else if k = 5 then [30, 10] else if k = 6 then [71, 10] else [10]
def aH1 (k p v x : Int32) : Int32 := aRA k p v x - v
def lH1 (k : Int32) : List Int32 := 11 :: lRL k
def aHA (f k p v x : Int32) : Int32 := if f = 1 then aH1 k p v x ^^^ 6 else if f = 4 then aH1 k p v (x + 1) ^^^ 6 else if f = 6 then aH1 k p v x + (2 + p) else aH1 k p v x
def lHL (f k : Int32) : List Int32 := if f = 1 then 20 :: lH1 k else if f = 4 then 51 :: 20 :: lH1 k else if f = 6 then 70 :: (lH1 k ++ [10]) else lH1 k
def aT1 (k p v x : Int32) : Int32 := aHA k k p v x * 2
def lT1 (k : Int32) : List Int32 := 12 :: lHL k k
def aTA (f k p v x : Int32) : Int32 := if f = 3 then aT1 k p v x + aHA k k p v 1 else if f = 5 then aT1 k p v (x - p) else if f = 6 then aT1 k p v x + aHA k k p v 1 else aT1 k p v x
def lTL (f k : Int32) : List Int32 := if f = 3 then 40 :: (lT1 k ++ lHL k k) else if f = 5 then 60 :: lT1 k else if f = 6 then 40 :: (lT1 k ++ lHL k k) else lT1 k
theorem kcases {k : Int32} (h1 : 0 ≤ k.toInt) (h2 : k.toInt ≤ 6) : k = 0 ∨ k = 1 ∨ k = 2 ∨ k = 3 ∨ k = 4 ∨ k = 5 ∨ k = 6 := by
  have e : ∀ c : Int32, k.toInt = c.toInt → k = c := fun c q => Int32.toInt_inj.mp q
  have c0 : (0 : Int32).toInt = 0 := rfl
  have c1 : (1 : Int32).toInt = 1 := rfl
  have c2 : (2 : Int32).toInt = 2 := rfl
  have c3 : (3 : Int32).toInt = 3 := rfl
  have c4 : (4 : Int32).toInt = 4 := rfl
  have c5 : (5 : Int32).toInt = 5 := rfl
  have c6 : (6 : Int32).toInt = 6 := rfl
  rcases (show k.toInt = 0 ∨ k.toInt = 1 ∨ k.toInt = 2 ∨ k.toInt = 3 ∨ k.toInt = 4 ∨ k.toInt = 5 ∨ k.toInt = 6 by omega) with q | q | q | q | q | q | q
  · exact Or.inl (e 0 (by rw [q, c0]))
  · exact Or.inr (Or.inl (e 1 (by rw [q, c1])))
  · exact Or.inr (Or.inr (Or.inl (e 2 (by rw [q, c2]))))
  · exact Or.inr (Or.inr (Or.inr (Or.inl (e 3 (by rw [q, c3])))))
  · exact Or.inr (Or.inr (Or.inr (Or.inr (Or.inl (e 4 (by rw [q, c4]))))))
  · exact Or.inr (Or.inr (Or.inr (Or.inr (Or.inr (Or.inl (e 5 (by rw [q, c5])))))))
  · exact Or.inr (Or.inr (Or.inr (Or.inr (Or.inr (Or.inr (e 6 (by rw [q, c6])))))))
theorem lRL_len {k : Int32} : (lRL k).length ≤ 2 := by
  unfold lRL
  split
  · decide
  · split
    · decide
    · split
      · decide
      · split
        · decide
        · decide
theorem lH1_len {k : Int32} : (lH1 k).length ≤ 3 := by
  have := lRL_len (k := k)
  unfold lH1
  rw [List.length_cons]
  omega
theorem lHL_len {f k : Int32} : (lHL f k).length ≤ 5 := by
  have := lH1_len (k := k)
  unfold lHL
  split
  · rw [List.length_cons]; omega
  · split
    · rw [List.length_cons, List.length_cons]; omega
    · split
      · rw [List.length_cons, List.length_append, List.length_singleton]; omega
      · omega
theorem lT1_len {k : Int32} : (lT1 k).length ≤ 6 := by
  have := lHL_len (f := k) (k := k)
  unfold lT1
  rw [List.length_cons]
  omega
/-- the class's own numbers during an act -/
def CK (h0 : Hp) (k p v : Int32) : Prop := h0.2.1 51 0 = p ∧ h0.2.1 51 1 = k ∧ h0.2.1 51 2 = v
theorem CK_at {k p v : Int32} (hc : CK h0 k p v) (ha : AP 51 4 52 h0 l h) : h.2.1 51 0 = p ∧ h.2.1 51 1 = k ∧ h.2.1 51 2 = v := ⟨by rw [frI ha.2.1 rfl]; exact hc.1, by rw [frI ha.2.1 rfl]; exact hc.2.1, by rw [frI ha.2.1 rfl]; exact hc.2.2⟩
theorem d40 {d : Int32} (h1 : d.toInt ≤ 40) : condB .le d 40 = false → False := by
  intro e
  have e : ¬ d.toInt ≤ 40 := of_decide_eq_false (cI e)
  exact e h1
theorem dsuc {d : Int32} {n : Int} (h0 : 0 ≤ d.toInt) (h1 : d.toInt ≤ n) (hn : n ≤ 100) : 0 ≤ (d + 1).toInt ∧ (d + 1).toInt ≤ n + 1 := by
  have : (d + 1).toInt = d.toInt + 1 := by rw [i_add (by rw [i1]; omega) (by rw [i1]; omega), i1]
  omega

theorem D10 {k p v : Int32} (f x d : Int32) (own : ∀ (h : Hp) (Q : Option Value → Hp → Prop), HS h → Q (some (.int 0)) h → Ends X 0 3 0 [.int 0, .int f, .retAddr 0, .retAddr 0] [] h Q) (hk : 0 ≤ k.toInt ∧ k.toInt ≤ 6) (hc : CK h0 k p v) (hd0 : 0 ≤ d.toInt) (hd : d.toInt ≤ 40) (hl : l.length + 1 ≤ 20) (hp : AP 51 4 52 h0 l h) (hQ : ∀ h', AP 51 4 52 h0 (l ++ [10]) h' → Q (some (.int (x + p))) h') : Ends X 1 2 0 [.ref 51, .int 0, .int f, .int x, .int d, .retAddr 0, .retAddr 0, .retAddr 0, .retAddr 0] [] h Q := by
  have ds := dsuc hd0 hd (by decide)
  refine w_does (dp := 0) 0 f x d hp.1.hs (own h _ hp.1.hs ⟨0, rfl, hp.1.hs, fun e => absurd e (by decide), fun _ => ⟨fun e => absurd e (by decide), fun _ => ⟨fun _ => ⟨by decide, by decide, cbeg_ok 10 (by decide) hp (by omega) (fun h9 q9 => ⟨rfl, q9.1.hs, fun e => absurd e (by decide), fun _ => (by rw [(CK_at hc q9).1]; exact hQ h9 q9), fun e => absurd e (by decide), fun e => absurd e (by decide), fun e => absurd e (by decide), fun e => absurd e (by decide), fun e => absurd e (by decide), fun e => absurd e (by decide), fun e => absurd e (by decide), fun e => absurd e (by decide), fun e => absurd e (by decide), fun e => absurd e (by decide)⟩)⟩, fun e => (d40 (by omega) e).elim⟩⟩⟩)
theorem D30 {k p v : Int32} (f x d : Int32) (own : ∀ (h : Hp) (Q : Option Value → Hp → Prop), HS h → Q (some (.int 2)) h → Ends X 1 3 0 [.int 0, .int f, .retAddr 0, .retAddr 0] [] h Q) (hk : 0 ≤ k.toInt ∧ k.toInt ≤ 6) (hc : CK h0 k p v) (hd0 : 0 ≤ d.toInt) (hd : d.toInt ≤ 39) (hl : l.length + 2 ≤ 20) (hp : AP 51 4 52 h0 l h) (hQ : ∀ h', AP 51 4 52 h0 (l ++ [30, 10]) h' → Q (some (.int (x * 3 + p))) h') : Ends X 2 2 0 [.ref 51, .int 0, .int f, .int x, .int d, .retAddr 0, .retAddr 0, .retAddr 0, .retAddr 0] [] h Q := by
  have ds := dsuc hd0 hd (by decide)
  refine w_does (dp := 1) 0 f x d hp.1.hs (own h _ hp.1.hs ⟨2, rfl, hp.1.hs, fun e => absurd e (by decide), fun _ => ⟨fun e => absurd e (by decide), fun _ => ⟨fun _ => ⟨by decide, by decide, cbeg_ok 30 (by decide) hp (by omega) (fun h9 q9 => ⟨rfl, q9.1.hs, fun e => absurd e (by decide), fun e => absurd e (by decide), fun e => absurd e (by decide), fun e => absurd e (by decide), fun e => absurd e (by decide), fun _ => (by rw [show aboveL.getD (2 : Int32).toNatClampNeg 0 = 0 from by decide]; exact D10 0 (x * 3) (d + 1) (fun h Q hs hq => w_own00 hs hq) hk hc ds.1 (by omega) (by rw [List.length_append, List.length_singleton]; omega) q9 (fun h1 q1 => ⟨_, rfl, q1.1.hs, hQ _ (by simpa using q1)⟩)), fun e => absurd e (by decide), fun e => absurd e (by decide), fun e => absurd e (by decide), fun e => absurd e (by decide), fun e => absurd e (by decide), fun e => absurd e (by decide)⟩)⟩, fun e => (d40 (by omega) e).elim⟩⟩⟩)
theorem D50 {k p v : Int32} (f x d : Int32) (own : ∀ (h : Hp) (Q : Option Value → Hp → Prop), HS h → Q (some (.int 4)) h → Ends X 1 3 0 [.int 0, .int f, .retAddr 0, .retAddr 0] [] h Q) (hk : 0 ≤ k.toInt ∧ k.toInt ≤ 6) (hc : CK h0 k p v) (hd0 : 0 ≤ d.toInt) (hd : d.toInt ≤ 39) (hl : l.length + 2 ≤ 20) (hp : AP 51 4 52 h0 l h) (hQ : ∀ h', AP 51 4 52 h0 (l ++ [50, 10]) h' → Q (some (.int (-(x + p)))) h') : Ends X 2 2 0 [.ref 51, .int 0, .int f, .int x, .int d, .retAddr 0, .retAddr 0, .retAddr 0, .retAddr 0] [] h Q := by
  have ds := dsuc hd0 hd (by decide)
  refine w_does (dp := 1) 0 f x d hp.1.hs (own h _ hp.1.hs ⟨4, rfl, hp.1.hs, fun e => absurd e (by decide), fun _ => ⟨fun e => absurd e (by decide), fun _ => ⟨fun _ => ⟨by decide, by decide, cbeg_ok 50 (by decide) hp (by omega) (fun h9 q9 => ⟨rfl, q9.1.hs, fun e => absurd e (by decide), fun e => absurd e (by decide), fun e => absurd e (by decide), fun e => absurd e (by decide), fun e => absurd e (by decide), fun e => absurd e (by decide), fun e => absurd e (by decide), fun _ => (by rw [show aboveL.getD (4 : Int32).toNatClampNeg 0 = 1 from by decide]; exact D10 1 x (d + 1) (fun h Q hs hq => w_own01 hs hq) hk hc ds.1 (by omega) (by rw [List.length_append, List.length_singleton]; omega) q9 (fun h1 q1 => ⟨_, rfl, q1.1.hs, hQ _ (by simpa using q1)⟩)), fun e => absurd e (by decide), fun e => absurd e (by decide), fun e => absurd e (by decide), fun e => absurd e (by decide)⟩)⟩, fun e => (d40 (by omega) e).elim⟩⟩⟩)
theorem D71 {k p v : Int32} (f x d : Int32) (own : ∀ (h : Hp) (Q : Option Value → Hp → Prop), HS h → Q (some (.int 6)) h → Ends X 1 3 0 [.int 0, .int f, .retAddr 0, .retAddr 0] [] h Q) (hk : 0 ≤ k.toInt ∧ k.toInt ≤ 6) (hc : CK h0 k p v) (hd0 : 0 ≤ d.toInt) (hd : d.toInt ≤ 39) (hl : l.length + 2 ≤ 20) (hp : AP 51 4 52 h0 l h) (hQ : ∀ h', AP 51 4 52 h0 (l ++ [71, 10]) h' → Q (some (.int ((x + p) ^^^ v))) h') : Ends X 2 2 0 [.ref 51, .int 0, .int f, .int x, .int d, .retAddr 0, .retAddr 0, .retAddr 0, .retAddr 0] [] h Q := by
  have ds := dsuc hd0 hd (by decide)
  refine w_does (dp := 1) 0 f x d hp.1.hs (own h _ hp.1.hs ⟨6, rfl, hp.1.hs, fun e => absurd e (by decide), fun _ => ⟨fun e => absurd e (by decide), fun _ => ⟨fun _ => ⟨by decide, by decide, cbeg_ok 71 (by decide) hp (by omega) (fun h9 q9 => ⟨rfl, q9.1.hs, fun e => absurd e (by decide), fun e => absurd e (by decide), fun e => absurd e (by decide), fun e => absurd e (by decide), fun e => absurd e (by decide), fun e => absurd e (by decide), fun e => absurd e (by decide), fun e => absurd e (by decide), fun e => absurd e (by decide), fun e => absurd e (by decide), fun e => absurd e (by decide), fun _ => (by rw [show aboveL.getD (6 : Int32).toNatClampNeg 0 = 3 from by decide]; exact D10 3 x (d + 1) (fun h Q hs hq => w_own03 hs hq) hk hc ds.1 (by omega) (by rw [List.length_append, List.length_singleton]; omega) q9 (fun h1 q1 => ⟨_, rfl, q1.1.hs, by rw [(CK_at hc q1).2.2]; exact hQ _ (by simpa using q1)⟩))⟩)⟩, fun e => (d40 (by omega) e).elim⟩⟩⟩)
theorem DR {k p v : Int32} (f x d : Int32) (hf : 0 ≤ f.toInt ∧ f.toInt ≤ 6) (hk : 0 ≤ k.toInt ∧ k.toInt ≤ 6) (hc : CK h0 k p v) (hd0 : 0 ≤ d.toInt) (hd : d.toInt ≤ 39) (hl : l.length + 2 ≤ 20) (hp : AP 51 4 52 h0 l h) (hQ : ∀ h', AP 51 4 52 h0 (l ++ lRL f) h' → Q (some (.int (aRA f p v x))) h') : Ends X 2 2 0 [.ref 51, .int 0, .int f, .int x, .int d, .retAddr 0, .retAddr 0, .retAddr 0, .retAddr 0] [] h Q := by
  rcases kcases hf.1 hf.2 with rfl | rfl | rfl | rfl | rfl | rfl | rfl
  · exact Ends.dpl (by decide) (D10 0 x d (fun h Q hs hq => w_own00 hs hq) hk hc hd0 (by omega) (by omega) hp (fun h1 q1 => hQ h1 q1))
  · exact Ends.dpl (by decide) (D10 1 x d (fun h Q hs hq => w_own01 hs hq) hk hc hd0 (by omega) (by omega) hp (fun h1 q1 => hQ h1 q1))
  · exact Ends.dpl (by decide) (D30 2 x d (fun h Q hs hq => w_own02 hs hq) hk hc hd0 (by omega) (by omega) hp (fun h1 q1 => hQ h1 q1))
  · exact Ends.dpl (by decide) (D10 3 x d (fun h Q hs hq => w_own03 hs hq) hk hc hd0 (by omega) (by omega) hp (fun h1 q1 => hQ h1 q1))
  · exact Ends.dpl (by decide) (D50 4 x d (fun h Q hs hq => w_own04 hs hq) hk hc hd0 (by omega) (by omega) hp (fun h1 q1 => hQ h1 q1))
  · exact Ends.dpl (by decide) (D30 5 x d (fun h Q hs hq => w_own05 hs hq) hk hc hd0 (by omega) (by omega) hp (fun h1 q1 => hQ h1 q1))
  · exact Ends.dpl (by decide) (D71 6 x d (fun h Q hs hq => w_own06 hs hq) hk hc hd0 (by omega) (by omega) hp (fun h1 q1 => hQ h1 q1))
theorem D11 {k p v : Int32} (f x d : Int32) (own : ∀ (h : Hp) (Q : Option Value → Hp → Prop), HS h → Q (some (.int 0)) h → Ends X 2 3 0 [.int 1, .int f, .retAddr 0, .retAddr 0] [] h Q) (hk : 0 ≤ k.toInt ∧ k.toInt ≤ 6) (hc : CK h0 k p v) (hd0 : 0 ≤ d.toInt) (hd : d.toInt ≤ 38) (hl : l.length + 3 ≤ 20) (hp : AP 51 4 52 h0 l h) (hQ : ∀ h', AP 51 4 52 h0 (l ++ lH1 k) h' → Q (some (.int (aH1 k p v x))) h') : Ends X 3 2 0 [.ref 51, .int 1, .int f, .int x, .int d, .retAddr 0, .retAddr 0, .retAddr 0, .retAddr 0] [] h Q := by
  have ds := dsuc hd0 hd (by decide)
  refine w_does (dp := 2) 1 f x d hp.1.hs (own h _ hp.1.hs ⟨0, rfl, hp.1.hs, fun e => absurd e (by decide), fun _ => ⟨fun e => absurd e (by decide), fun _ => ⟨fun _ => ⟨by decide, by decide, cbeg_ok 11 (by decide) hp (by omega) (fun h9 q9 => ⟨rfl, q9.1.hs, fun e => absurd e (by decide), fun e => absurd e (by decide), fun _ => (by rw [(CK_at hc q9).2.1]; exact DR k x (d + 1) hk hk hc ds.1 (by omega) (by rw [List.length_append, List.length_singleton]; omega) q9 (fun h1 q1 => ⟨_, rfl, q1.1.hs, by rw [(CK_at hc q1).2.2]; exact hQ _ (by unfold lH1; simpa using q1)⟩)), fun e => absurd e (by decide), fun e => absurd e (by decide), fun e => absurd e (by decide), fun e => absurd e (by decide), fun e => absurd e (by decide), fun e => absurd e (by decide), fun e => absurd e (by decide), fun e => absurd e (by decide), fun e => absurd e (by decide)⟩)⟩, fun e => (d40 (by omega) e).elim⟩⟩⟩)
theorem D20 {k p v : Int32} (f x d : Int32) (own : ∀ (h : Hp) (Q : Option Value → Hp → Prop), HS h → Q (some (.int 1)) h → Ends X 3 3 0 [.int 1, .int f, .retAddr 0, .retAddr 0] [] h Q) (hk : 0 ≤ k.toInt ∧ k.toInt ≤ 6) (hc : CK h0 k p v) (hd0 : 0 ≤ d.toInt) (hd : d.toInt ≤ 37) (hl : l.length + 4 ≤ 20) (hp : AP 51 4 52 h0 l h) (hQ : ∀ h', AP 51 4 52 h0 (l ++ (20 :: lH1 k)) h' → Q (some (.int (aH1 k p v x ^^^ 6))) h') : Ends X 4 2 0 [.ref 51, .int 1, .int f, .int x, .int d, .retAddr 0, .retAddr 0, .retAddr 0, .retAddr 0] [] h Q := by
  have ds := dsuc hd0 hd (by decide)
  refine w_does (dp := 3) 1 f x d hp.1.hs (own h _ hp.1.hs ⟨1, rfl, hp.1.hs, fun e => absurd e (by decide), fun _ => ⟨fun e => absurd e (by decide), fun _ => ⟨fun _ => ⟨by decide, by decide, cbeg_ok 20 (by decide) hp (by omega) (fun h9 q9 => ⟨rfl, q9.1.hs, fun e => absurd e (by decide), fun e => absurd e (by decide), fun e => absurd e (by decide), fun e => absurd e (by decide), fun _ => (by rw [show aboveL.getD (1 : Int32).toNatClampNeg 0 = 0 from by decide]; exact D11 0 x (d + 1) (fun h Q hs hq => w_own10 hs hq) hk hc ds.1 (by omega) (by rw [List.length_append, List.length_singleton]; omega) q9 (fun h1 q1 => ⟨_, rfl, q1.1.hs, hQ _ (by simpa using q1)⟩)), fun e => absurd e (by decide), fun e => absurd e (by decide), fun e => absurd e (by decide), fun e => absurd e (by decide), fun e => absurd e (by decide), fun e => absurd e (by decide), fun e => absurd e (by decide)⟩)⟩, fun e => (d40 (by omega) e).elim⟩⟩⟩)
theorem D51 {k p v : Int32} (f x d : Int32) (own : ∀ (h : Hp) (Q : Option Value → Hp → Prop), HS h → Q (some (.int 4)) h → Ends X 4 3 0 [.int 1, .int f, .retAddr 0, .retAddr 0] [] h Q) (hk : 0 ≤ k.toInt ∧ k.toInt ≤ 6) (hc : CK h0 k p v) (hd0 : 0 ≤ d.toInt) (hd : d.toInt ≤ 36) (hl : l.length + 5 ≤ 20) (hp : AP 51 4 52 h0 l h) (hQ : ∀ h', AP 51 4 52 h0 (l ++ (51 :: 20 :: lH1 k)) h' → Q (some (.int (aH1 k p v (x + 1) ^^^ 6))) h') : Ends X 5 2 0 [.ref 51, .int 1, .int f, .int x, .int d, .retAddr 0, .retAddr 0, .retAddr 0, .retAddr 0] [] h Q := by
  have ds := dsuc hd0 hd (by decide)
  refine w_does (dp := 4) 1 f x d hp.1.hs (own h _ hp.1.hs ⟨4, rfl, hp.1.hs, fun e => absurd e (by decide), fun _ => ⟨fun e => absurd e (by decide), fun _ => ⟨fun _ => ⟨by decide, by decide, cbeg_ok 51 (by decide) hp (by omega) (fun h9 q9 => ⟨rfl, q9.1.hs, fun e => absurd e (by decide), fun e => absurd e (by decide), fun e => absurd e (by decide), fun e => absurd e (by decide), fun e => absurd e (by decide), fun e => absurd e (by decide), fun e => absurd e (by decide), fun e => absurd e (by decide), fun _ => (by rw [show aboveL.getD (4 : Int32).toNatClampNeg 0 = 1 from by decide]; exact D20 1 (x + 1) (d + 1) (fun h Q hs hq => w_own11 hs hq) hk hc ds.1 (by omega) (by rw [List.length_append, List.length_singleton]; omega) q9 (fun h1 q1 => ⟨_, rfl, q1.1.hs, hQ _ (by simpa using q1)⟩)), fun e => absurd e (by decide), fun e => absurd e (by decide), fun e => absurd e (by decide)⟩)⟩, fun e => (d40 (by omega) e).elim⟩⟩⟩)
theorem D70 {k p v : Int32} (f x d : Int32) (own : ∀ (h : Hp) (Q : Option Value → Hp → Prop), HS h → Q (some (.int 6)) h → Ends X 3 3 0 [.int 1, .int f, .retAddr 0, .retAddr 0] [] h Q) (hk : 0 ≤ k.toInt ∧ k.toInt ≤ 6) (hc : CK h0 k p v) (hd0 : 0 ≤ d.toInt) (hd : d.toInt ≤ 37) (hl : l.length + 5 ≤ 20) (hp : AP 51 4 52 h0 l h) (hQ : ∀ h', AP 51 4 52 h0 (l ++ (70 :: (lH1 k ++ [10]))) h' → Q (some (.int (aH1 k p v x + (2 + p)))) h') : Ends X 4 2 0 [.ref 51, .int 1, .int f, .int x, .int d, .retAddr 0, .retAddr 0, .retAddr 0, .retAddr 0] [] h Q := by
  have ds := dsuc hd0 hd (by decide)
  have hl3 := lH1_len (k := k)
  refine w_does (dp := 3) 1 f x d hp.1.hs (own h _ hp.1.hs ⟨6, rfl, hp.1.hs, fun e => absurd e (by decide), fun _ => ⟨fun e => absurd e (by decide), fun _ => ⟨fun _ => ⟨by decide, by decide, cbeg_ok 70 (by decide) hp (by omega) (fun h9 q9 => ⟨rfl, q9.1.hs, fun e => absurd e (by decide), fun e => absurd e (by decide), fun e => absurd e (by decide), fun e => absurd e (by decide), fun e => absurd e (by decide), fun e => absurd e (by decide), fun e => absurd e (by decide), fun e => absurd e (by decide), fun e => absurd e (by decide), fun e => absurd e (by decide), fun _ => (by rw [show aboveL.getD (6 : Int32).toNatClampNeg 0 = 3 from by decide]; exact D11 3 x (d + 1) (fun h Q hs hq => w_own13 hs hq) hk hc ds.1 (by omega) (by rw [List.length_append, List.length_singleton]; omega) q9 (fun h1 q1 => ⟨_, rfl, q1.1.hs, Ends.dpl (by decide) (D10 3 2 (d + 1) (fun h Q hs hq => w_own03 hs hq) hk hc ds.1 (by omega) (by rw [List.length_append, List.length_append, List.length_singleton]; omega) q1 (fun h2 q2 => ⟨_, rfl, q2.1.hs, hQ _ (by simpa using q2)⟩))⟩)), fun e => absurd e (by decide)⟩)⟩, fun e => (d40 (by omega) e).elim⟩⟩⟩)
theorem DH {k p v : Int32} (f x d : Int32) (hf : 0 ≤ f.toInt ∧ f.toInt ≤ 6) (hk : 0 ≤ k.toInt ∧ k.toInt ≤ 6) (hc : CK h0 k p v) (hd0 : 0 ≤ d.toInt) (hd : d.toInt ≤ 36) (hl : l.length + 5 ≤ 20) (hp : AP 51 4 52 h0 l h) (hQ : ∀ h', AP 51 4 52 h0 (l ++ lHL f k) h' → Q (some (.int (aHA f k p v x))) h') : Ends X 5 2 0 [.ref 51, .int 1, .int f, .int x, .int d, .retAddr 0, .retAddr 0, .retAddr 0, .retAddr 0] [] h Q := by
  rcases kcases hf.1 hf.2 with rfl | rfl | rfl | rfl | rfl | rfl | rfl
  · exact Ends.dpl (by decide) (D11 0 x d (fun h Q hs hq => w_own10 hs hq) hk hc hd0 (by omega) (by omega) hp (fun h1 q1 => hQ h1 q1))
  · exact Ends.dpl (by decide) (D20 1 x d (fun h Q hs hq => w_own11 hs hq) hk hc hd0 (by omega) (by omega) hp (fun h1 q1 => hQ h1 q1))
  · exact Ends.dpl (by decide) (D11 2 x d (fun h Q hs hq => w_own12 hs hq) hk hc hd0 (by omega) (by omega) hp (fun h1 q1 => hQ h1 q1))
  · exact Ends.dpl (by decide) (D11 3 x d (fun h Q hs hq => w_own13 hs hq) hk hc hd0 (by omega) (by omega) hp (fun h1 q1 => hQ h1 q1))
  · exact Ends.dpl (by decide) (D51 4 x d (fun h Q hs hq => w_own14 hs hq) hk hc hd0 (by omega) (by omega) hp (fun h1 q1 => hQ h1 q1))
  · exact Ends.dpl (by decide) (D11 5 x d (fun h Q hs hq => w_own15 hs hq) hk hc hd0 (by omega) (by omega) hp (fun h1 q1 => hQ h1 q1))
  · exact Ends.dpl (by decide) (D70 6 x d (fun h Q hs hq => w_own16 hs hq) hk hc hd0 (by omega) (by omega) hp (fun h1 q1 => hQ h1 q1))
theorem D12 {k p v : Int32} (f x d : Int32) (own : ∀ (h : Hp) (Q : Option Value → Hp → Prop), HS h → Q (some (.int 0)) h → Ends X 5 3 0 [.int 2, .int f, .retAddr 0, .retAddr 0] [] h Q) (hk : 0 ≤ k.toInt ∧ k.toInt ≤ 6) (hc : CK h0 k p v) (hd0 : 0 ≤ d.toInt) (hd : d.toInt ≤ 35) (hl : l.length + 6 ≤ 20) (hp : AP 51 4 52 h0 l h) (hQ : ∀ h', AP 51 4 52 h0 (l ++ lT1 k) h' → Q (some (.int (aT1 k p v x))) h') : Ends X 6 2 0 [.ref 51, .int 2, .int f, .int x, .int d, .retAddr 0, .retAddr 0, .retAddr 0, .retAddr 0] [] h Q := by
  have ds := dsuc hd0 hd (by decide)
  refine w_does (dp := 5) 2 f x d hp.1.hs (own h _ hp.1.hs ⟨0, rfl, hp.1.hs, fun e => absurd e (by decide), fun _ => ⟨fun e => absurd e (by decide), fun _ => ⟨fun _ => ⟨by decide, by decide, cbeg_ok 12 (by decide) hp (by omega) (fun h9 q9 => ⟨rfl, q9.1.hs, fun e => absurd e (by decide), fun e => absurd e (by decide), fun e => absurd e (by decide), fun _ => (by rw [(CK_at hc q9).2.1]; exact DH k x (d + 1) hk hk hc ds.1 (by omega) (by rw [List.length_append, List.length_singleton]; omega) q9 (fun h1 q1 => ⟨_, rfl, q1.1.hs, hQ _ (by unfold lT1; simpa using q1)⟩)), fun e => absurd e (by decide), fun e => absurd e (by decide), fun e => absurd e (by decide), fun e => absurd e (by decide), fun e => absurd e (by decide), fun e => absurd e (by decide), fun e => absurd e (by decide), fun e => absurd e (by decide)⟩)⟩, fun e => (d40 (by omega) e).elim⟩⟩⟩)
theorem D40 {k p v : Int32} (f x d : Int32) (own : ∀ (h : Hp) (Q : Option Value → Hp → Prop), HS h → Q (some (.int 3)) h → Ends X 6 3 0 [.int 2, .int f, .retAddr 0, .retAddr 0] [] h Q) (hk : 0 ≤ k.toInt ∧ k.toInt ≤ 6) (hc : CK h0 k p v) (hd0 : 0 ≤ d.toInt) (hd : d.toInt ≤ 34) (hl : l.length + 12 ≤ 20) (hp : AP 51 4 52 h0 l h) (hQ : ∀ h', AP 51 4 52 h0 (l ++ (40 :: (lT1 k ++ lHL k k))) h' → Q (some (.int (aT1 k p v x + aHA k k p v 1))) h') : Ends X 7 2 0 [.ref 51, .int 2, .int f, .int x, .int d, .retAddr 0, .retAddr 0, .retAddr 0, .retAddr 0] [] h Q := by
  have ds := dsuc hd0 hd (by decide)
  have hl3 := lT1_len (k := k)
  refine w_does (dp := 6) 2 f x d hp.1.hs (own h _ hp.1.hs ⟨3, rfl, hp.1.hs, fun e => absurd e (by decide), fun _ => ⟨fun e => absurd e (by decide), fun _ => ⟨fun _ => ⟨by decide, by decide, cbeg_ok 40 (by decide) hp (by omega) (fun h9 q9 => ⟨rfl, q9.1.hs, fun e => absurd e (by decide), fun e => absurd e (by decide), fun e => absurd e (by decide), fun e => absurd e (by decide), fun e => absurd e (by decide), fun e => absurd e (by decide), fun _ => (by rw [show aboveL.getD (3 : Int32).toNatClampNeg 0 = 0 from by decide]; exact D12 0 x (d + 1) (fun h Q hs hq => w_own20 hs hq) hk hc ds.1 (by omega) (by rw [List.length_append, List.length_singleton]; omega) q9 (fun h1 q1 => ⟨_, rfl, q1.1.hs, by rw [(CK_at hc q1).2.1]; exact Ends.dpl (by decide) (DH k 1 (d + 1) hk hk hc ds.1 (by omega) (by rw [List.length_append, List.length_append, List.length_singleton]; omega) q1 (fun h2 q2 => ⟨_, rfl, q2.1.hs, hQ _ (by simpa using q2)⟩))⟩)), fun e => absurd e (by decide), fun e => absurd e (by decide), fun e => absurd e (by decide), fun e => absurd e (by decide), fun e => absurd e (by decide)⟩)⟩, fun e => (d40 (by omega) e).elim⟩⟩⟩)
theorem D60 {k p v : Int32} (f x d : Int32) (own : ∀ (h : Hp) (Q : Option Value → Hp → Prop), HS h → Q (some (.int 5)) h → Ends X 6 3 0 [.int 2, .int f, .retAddr 0, .retAddr 0] [] h Q) (hk : 0 ≤ k.toInt ∧ k.toInt ≤ 6) (hc : CK h0 k p v) (hd0 : 0 ≤ d.toInt) (hd : d.toInt ≤ 34) (hl : l.length + 7 ≤ 20) (hp : AP 51 4 52 h0 l h) (hQ : ∀ h', AP 51 4 52 h0 (l ++ (60 :: lT1 k)) h' → Q (some (.int (aT1 k p v (x - p)))) h') : Ends X 7 2 0 [.ref 51, .int 2, .int f, .int x, .int d, .retAddr 0, .retAddr 0, .retAddr 0, .retAddr 0] [] h Q := by
  have ds := dsuc hd0 hd (by decide)
  refine w_does (dp := 6) 2 f x d hp.1.hs (own h _ hp.1.hs ⟨5, rfl, hp.1.hs, fun e => absurd e (by decide), fun _ => ⟨fun e => absurd e (by decide), fun _ => ⟨fun _ => ⟨by decide, by decide, cbeg_ok 60 (by decide) hp (by omega) (fun h9 q9 => ⟨rfl, q9.1.hs, fun e => absurd e (by decide), fun e => absurd e (by decide), fun e => absurd e (by decide), fun e => absurd e (by decide), fun e => absurd e (by decide), fun e => absurd e (by decide), fun e => absurd e (by decide), fun e => absurd e (by decide), fun e => absurd e (by decide), fun _ => (by rw [show aboveL.getD (5 : Int32).toNatClampNeg 0 = 2 from by decide]; exact (by rw [(CK_at hc q9).1]; exact D12 2 (x - p) (d + 1) (fun h Q hs hq => w_own22 hs hq) hk hc ds.1 (by omega) (by rw [List.length_append, List.length_singleton]; omega) q9 (fun h1 q1 => ⟨_, rfl, q1.1.hs, hQ _ (by simpa using q1)⟩))), fun e => absurd e (by decide), fun e => absurd e (by decide)⟩)⟩, fun e => (d40 (by omega) e).elim⟩⟩⟩)
theorem DT {k p v : Int32} (f x d : Int32) (hf : 0 ≤ f.toInt ∧ f.toInt ≤ 6) (hk : 0 ≤ k.toInt ∧ k.toInt ≤ 6) (hc : CK h0 k p v) (hd0 : 0 ≤ d.toInt) (hd : d.toInt ≤ 34) (hl : l.length + 12 ≤ 20) (hp : AP 51 4 52 h0 l h) (hQ : ∀ h', AP 51 4 52 h0 (l ++ lTL f k) h' → Q (some (.int (aTA f k p v x))) h') : Ends X 7 2 0 [.ref 51, .int 2, .int f, .int x, .int d, .retAddr 0, .retAddr 0, .retAddr 0, .retAddr 0] [] h Q := by
  rcases kcases hf.1 hf.2 with rfl | rfl | rfl | rfl | rfl | rfl | rfl
  · exact Ends.dpl (by decide) (D12 0 x d (fun h Q hs hq => w_own20 hs hq) hk hc hd0 (by omega) (by omega) hp (fun h1 q1 => hQ h1 q1))
  · exact Ends.dpl (by decide) (D12 1 x d (fun h Q hs hq => w_own21 hs hq) hk hc hd0 (by omega) (by omega) hp (fun h1 q1 => hQ h1 q1))
  · exact Ends.dpl (by decide) (D12 2 x d (fun h Q hs hq => w_own22 hs hq) hk hc hd0 (by omega) (by omega) hp (fun h1 q1 => hQ h1 q1))
  · exact Ends.dpl (by decide) (D40 3 x d (fun h Q hs hq => w_own23 hs hq) hk hc hd0 (by omega) (by omega) hp (fun h1 q1 => hQ h1 q1))
  · exact Ends.dpl (by decide) (D12 4 x d (fun h Q hs hq => w_own24 hs hq) hk hc hd0 (by omega) (by omega) hp (fun h1 q1 => hQ h1 q1))
  · exact Ends.dpl (by decide) (D60 5 x d (fun h Q hs hq => w_own25 hs hq) hk hc hd0 (by omega) (by omega) hp (fun h1 q1 => hQ h1 q1))
  · exact Ends.dpl (by decide) (D40 6 x d (fun h Q hs hq => w_own26 hs hq) hk hc hd0 (by omega) (by omega) hp (fun h1 q1 => hQ h1 q1))
theorem MK_at {a k : Nat} (ha : AP 93 58 122 h0 l h) (hw : inW [(93, 58), (122, 999)] a k = false) : h.2.1 a k = h0.2.1 a k := frI ha.2.1 hw
theorem m94 {k : Nat} : inW [(93, 58), (122, 999)] 94 k = false := by simp [inW]
theorem m95 {k : Nat} : inW [(93, 58), (122, 999)] 95 k = false := by simp [inW]
variable (p x : Int32) (hp0 : 0 ≤ p.toInt ∧ p.toInt < 7)

theorem rr_ok {k v : Int32} (p x : Int32) (hp0 : 0 ≤ p.toInt ∧ p.toInt < 7) (hk : 0 ≤ k.toInt ∧ k.toInt ≤ 6) (ek : h0.2.1 94 p.toNatClampNeg = k) (ev : h0.2.1 95 p.toNatClampNeg = v) (hl : l.length + 1 ≤ 20) (hp : AP 93 58 122 h0 l h) (hQ : ∀ h', AP 93 58 122 h0 (l ++ [10]) h' → Q (some (.int (x + p))) h') : Ends X 1 187 0 [.ref 93, .int p, .int x] [] h Q := by
  have ib : inB p 7 = true := inB_iff (by omega) (by omega)
  exact w_rr (dp := 0) p x hp.1.hs (mbod_ok 10 hp (by omega) (fun h9 q9 => ⟨rfl, q9.1.hs, hQ h9 q9⟩))
theorem ra_ok {k v : Int32} (p x : Int32) (hp0 : 0 ≤ p.toInt ∧ p.toInt < 7) (hk : 0 ≤ k.toInt ∧ k.toInt ≤ 6) (ek : h0.2.1 94 p.toNatClampNeg = k) (ev : h0.2.1 95 p.toNatClampNeg = v) (hl : l.length + 2 ≤ 20) (hp : AP 93 58 122 h0 l h) (hQ : ∀ h', AP 93 58 122 h0 (l ++ lRL k) h' → Q (some (.int (aRA k p v x))) h') : Ends X 2 188 0 [.ref 93, .int p, .int x] [] h Q := by
  have ib : inB p 7 = true := inB_iff (by omega) (by omega)
  have e94 : h.2.1 94 p.toNatClampNeg = k := (MK_at hp m94).trans ek
  refine w_ra (dp := 1) p x hp.1.hs ⟨ib, ?_⟩
  rw [e94]
  rcases kcases hk.1 hk.2 with rfl | rfl | rfl | rfl | rfl | rfl | rfl
  · exact ⟨fun _ => rr_ok p x hp0 hk ek ev (by omega) hp (fun h1 q1 => ⟨_, rfl, q1.1.hs, hQ h1 q1⟩), fun e => absurd e (by decide), fun e => absurd e (by decide), fun e => absurd e (by decide), fun e => absurd e (by decide), fun e => absurd e (by decide)⟩
  · exact ⟨fun _ => rr_ok p x hp0 hk ek ev (by omega) hp (fun h1 q1 => ⟨_, rfl, q1.1.hs, hQ h1 q1⟩), fun e => absurd e (by decide), fun e => absurd e (by decide), fun e => absurd e (by decide), fun e => absurd e (by decide), fun e => absurd e (by decide)⟩
  · exact ⟨fun e => absurd e (by decide), fun _ => mbod_ok 30 hp (by omega) (fun h9 q9 => ⟨rfl, q9.1.hs, rr_ok p (x * 3) hp0 hk ek ev (by rw [List.length_append, List.length_singleton]; omega) q9 (fun h1 q1 => ⟨_, rfl, q1.1.hs, hQ _ (by simpa [lRL, lHL, lTL] using q1)⟩)⟩), fun e => absurd e (by decide), fun e => absurd e (by decide), fun e => absurd e (by decide), fun e => absurd e (by decide)⟩
  · exact ⟨fun e => absurd e (by decide), fun e => absurd e (by decide), fun _ => rr_ok p x hp0 hk ek ev (by omega) hp (fun h1 q1 => ⟨_, rfl, q1.1.hs, hQ h1 q1⟩), fun e => absurd e (by decide), fun e => absurd e (by decide), fun e => absurd e (by decide)⟩
  · exact ⟨fun e => absurd e (by decide), fun e => absurd e (by decide), fun e => absurd e (by decide), fun _ => mbod_ok 50 hp (by omega) (fun h9 q9 => ⟨rfl, q9.1.hs, rr_ok p x hp0 hk ek ev (by rw [List.length_append, List.length_singleton]; omega) q9 (fun h1 q1 => ⟨_, rfl, q1.1.hs, hQ _ (by simpa [lRL, lHL, lTL] using q1)⟩)⟩), fun e => absurd e (by decide), fun e => absurd e (by decide)⟩
  · exact ⟨fun e => absurd e (by decide), fun e => absurd e (by decide), fun e => absurd e (by decide), fun e => absurd e (by decide), fun _ => mbod_ok 30 hp (by omega) (fun h9 q9 => ⟨rfl, q9.1.hs, rr_ok p (x * 3) hp0 hk ek ev (by rw [List.length_append, List.length_singleton]; omega) q9 (fun h1 q1 => ⟨_, rfl, q1.1.hs, hQ _ (by simpa [lRL, lHL, lTL] using q1)⟩)⟩), fun e => absurd e (by decide)⟩
  · exact ⟨fun e => absurd e (by decide), fun e => absurd e (by decide), fun e => absurd e (by decide), fun e => absurd e (by decide), fun e => absurd e (by decide), fun _ => mbod_ok 71 hp (by omega) (fun h9 q9 => ⟨rfl, q9.1.hs, rr_ok p x hp0 hk ek ev (by rw [List.length_append, List.length_singleton]; omega) q9 (fun h1 q1 => ⟨_, rfl, q1.1.hs, ib, by rw [MK_at q1 m95, ev]; exact hQ _ (by simpa [lRL, lHL, lTL] using q1)⟩)⟩)⟩
theorem rh_ok {k v : Int32} (p x : Int32) (hp0 : 0 ≤ p.toInt ∧ p.toInt < 7) (hk : 0 ≤ k.toInt ∧ k.toInt ≤ 6) (ek : h0.2.1 94 p.toNatClampNeg = k) (ev : h0.2.1 95 p.toNatClampNeg = v) (hl : l.length + 3 ≤ 20) (hp : AP 93 58 122 h0 l h) (hQ : ∀ h', AP 93 58 122 h0 (l ++ lH1 k) h' → Q (some (.int (aH1 k p v x))) h') : Ends X 3 189 0 [.ref 93, .int p, .int x] [] h Q := by
  have ib : inB p 7 = true := inB_iff (by omega) (by omega)
  exact w_rh (dp := 2) p x hp.1.hs (mbod_ok 11 hp (by omega) (fun h9 q9 => ⟨rfl, q9.1.hs, ra_ok p x hp0 hk ek ev (by rw [List.length_append, List.length_singleton]; omega) q9 (fun h1 q1 => ⟨_, rfl, q1.1.hs, ib, by rw [MK_at q1 m95, ev]; exact hQ _ (by unfold lH1; simpa using q1)⟩)⟩))
theorem eh_ok {k v : Int32} (p x : Int32) (hp0 : 0 ≤ p.toInt ∧ p.toInt < 7) (hk : 0 ≤ k.toInt ∧ k.toInt ≤ 6) (ek : h0.2.1 94 p.toNatClampNeg = k) (ev : h0.2.1 95 p.toNatClampNeg = v) (hl : l.length + 4 ≤ 20) (hp : AP 93 58 122 h0 l h) (hQ : ∀ h', AP 93 58 122 h0 (l ++ (20 :: lH1 k)) h' → Q (some (.int (aH1 k p v x ^^^ 6))) h') : Ends X 4 190 0 [.ref 93, .int p, .int x] [] h Q := by
  have ib : inB p 7 = true := inB_iff (by omega) (by omega)
  exact w_eh (dp := 3) p x hp.1.hs (mbod_ok 20 hp (by omega) (fun h9 q9 => ⟨rfl, q9.1.hs, rh_ok p x hp0 hk ek ev (by rw [List.length_append, List.length_singleton]; omega) q9 (fun h1 q1 => ⟨_, rfl, q1.1.hs, hQ _ (by simpa [lRL, lHL, lTL] using q1)⟩)⟩))
theorem ha_ok {k v : Int32} (p x : Int32) (hp0 : 0 ≤ p.toInt ∧ p.toInt < 7) (hk : 0 ≤ k.toInt ∧ k.toInt ≤ 6) (ek : h0.2.1 94 p.toNatClampNeg = k) (ev : h0.2.1 95 p.toNatClampNeg = v) (hl : l.length + 5 ≤ 20) (hp : AP 93 58 122 h0 l h) (hQ : ∀ h', AP 93 58 122 h0 (l ++ lHL k k) h' → Q (some (.int (aHA k k p v x))) h') : Ends X 5 191 0 [.ref 93, .int p, .int x, .retAddr 0] [] h Q := by
  have ib : inB p 7 = true := inB_iff (by omega) (by omega)
  have hl3 := lH1_len (k := k)
  have e94 : h.2.1 94 p.toNatClampNeg = k := (MK_at hp m94).trans ek
  refine w_ha (dp := 4) p x hp.1.hs ⟨ib, ?_⟩
  rw [e94]
  rcases kcases hk.1 hk.2 with rfl | rfl | rfl | rfl | rfl | rfl | rfl
  · exact ⟨fun _ => Ends.dpl (by decide) (rh_ok p x hp0 hk ek ev (by omega) hp (fun h1 q1 => ⟨_, rfl, q1.1.hs, hQ h1 q1⟩)), fun e => absurd e (by decide), fun e => absurd e (by decide), fun e => absurd e (by decide)⟩
  · exact ⟨fun e => absurd e (by decide), fun _ => eh_ok p x hp0 hk ek ev (by omega) hp (fun h1 q1 => ⟨_, rfl, q1.1.hs, hQ h1 q1⟩), fun e => absurd e (by decide), fun e => absurd e (by decide)⟩
  · exact ⟨fun _ => Ends.dpl (by decide) (rh_ok p x hp0 hk ek ev (by omega) hp (fun h1 q1 => ⟨_, rfl, q1.1.hs, hQ h1 q1⟩)), fun e => absurd e (by decide), fun e => absurd e (by decide), fun e => absurd e (by decide)⟩
  · exact ⟨fun _ => Ends.dpl (by decide) (rh_ok p x hp0 hk ek ev (by omega) hp (fun h1 q1 => ⟨_, rfl, q1.1.hs, hQ h1 q1⟩)), fun e => absurd e (by decide), fun e => absurd e (by decide), fun e => absurd e (by decide)⟩
  · exact ⟨fun e => absurd e (by decide), fun e => absurd e (by decide), fun _ => mbod_ok 51 hp (by omega) (fun h9 q9 => ⟨rfl, q9.1.hs, eh_ok p (x + 1) hp0 hk ek ev (by rw [List.length_append, List.length_singleton]; omega) q9 (fun h1 q1 => ⟨_, rfl, q1.1.hs, hQ _ (by simpa [lRL, lHL, lTL] using q1)⟩)⟩), fun e => absurd e (by decide)⟩
  · exact ⟨fun _ => Ends.dpl (by decide) (rh_ok p x hp0 hk ek ev (by omega) hp (fun h1 q1 => ⟨_, rfl, q1.1.hs, hQ h1 q1⟩)), fun e => absurd e (by decide), fun e => absurd e (by decide), fun e => absurd e (by decide)⟩
  · exact ⟨fun e => absurd e (by decide), fun e => absurd e (by decide), fun e => absurd e (by decide), fun _ => mbod_ok 70 hp (by omega) (fun h9 q9 => ⟨rfl, q9.1.hs, Ends.dpl (by decide) (rh_ok p x hp0 hk ek ev (by rw [List.length_append, List.length_singleton]; omega) q9 (fun h1 q1 => ⟨_, rfl, q1.1.hs, Ends.dpl (by decide) (rr_ok p 2 hp0 hk ek ev (by rw [List.length_append, List.length_append, List.length_singleton]; omega) q1 (fun h2 q2 => ⟨_, rfl, q2.1.hs, hQ _ (by simpa [lRL, lHL, lTL] using q2)⟩))⟩))⟩)⟩
theorem rt_ok {k v : Int32} (p x : Int32) (hp0 : 0 ≤ p.toInt ∧ p.toInt < 7) (hk : 0 ≤ k.toInt ∧ k.toInt ≤ 6) (ek : h0.2.1 94 p.toNatClampNeg = k) (ev : h0.2.1 95 p.toNatClampNeg = v) (hl : l.length + 6 ≤ 20) (hp : AP 93 58 122 h0 l h) (hQ : ∀ h', AP 93 58 122 h0 (l ++ lT1 k) h' → Q (some (.int (aT1 k p v x))) h') : Ends X 6 192 0 [.ref 93, .int p, .int x] [] h Q := by
  have ib : inB p 7 = true := inB_iff (by omega) (by omega)
  exact w_rt (dp := 5) p x hp.1.hs (mbod_ok 12 hp (by omega) (fun h9 q9 => ⟨rfl, q9.1.hs, ha_ok p x hp0 hk ek ev (by rw [List.length_append, List.length_singleton]; omega) q9 (fun h1 q1 => ⟨_, rfl, q1.1.hs, hQ _ (by unfold lT1; simpa using q1)⟩)⟩))
theorem ta_ok {k v : Int32} (p x : Int32) (hp0 : 0 ≤ p.toInt ∧ p.toInt < 7) (hk : 0 ≤ k.toInt ∧ k.toInt ≤ 6) (ek : h0.2.1 94 p.toNatClampNeg = k) (ev : h0.2.1 95 p.toNatClampNeg = v) (hl : l.length + 12 ≤ 20) (hp : AP 93 58 122 h0 l h) (hQ : ∀ h', AP 93 58 122 h0 (l ++ lTL k k) h' → Q (some (.int (aTA k k p v x))) h') : Ends X 7 193 0 [.ref 93, .int p, .int x, .retAddr 0] [] h Q := by
  have ib : inB p 7 = true := inB_iff (by omega) (by omega)
  have hl3 := lT1_len (k := k)
  have e94 : h.2.1 94 p.toNatClampNeg = k := (MK_at hp m94).trans ek
  refine w_ta (dp := 6) p x hp.1.hs ⟨ib, ?_⟩
  rw [e94]
  rcases kcases hk.1 hk.2 with rfl | rfl | rfl | rfl | rfl | rfl | rfl
  · exact ⟨fun _ => rt_ok p x hp0 hk ek ev (by omega) hp (fun h1 q1 => ⟨_, rfl, q1.1.hs, hQ h1 q1⟩), fun e => absurd e (by decide), fun e => absurd e (by decide), fun e => absurd e (by decide), fun e => absurd e (by decide)⟩
  · exact ⟨fun _ => rt_ok p x hp0 hk ek ev (by omega) hp (fun h1 q1 => ⟨_, rfl, q1.1.hs, hQ h1 q1⟩), fun e => absurd e (by decide), fun e => absurd e (by decide), fun e => absurd e (by decide), fun e => absurd e (by decide)⟩
  · exact ⟨fun _ => rt_ok p x hp0 hk ek ev (by omega) hp (fun h1 q1 => ⟨_, rfl, q1.1.hs, hQ h1 q1⟩), fun e => absurd e (by decide), fun e => absurd e (by decide), fun e => absurd e (by decide), fun e => absurd e (by decide)⟩
  · exact ⟨fun e => absurd e (by decide), fun _ => mbod_ok 40 hp (by omega) (fun h9 q9 => ⟨rfl, q9.1.hs, rt_ok p x hp0 hk ek ev (by rw [List.length_append, List.length_singleton]; omega) q9 (fun h1 q1 => ⟨_, rfl, q1.1.hs, Ends.dpl (by decide) (ha_ok p 1 hp0 hk ek ev (by rw [List.length_append, List.length_append, List.length_singleton]; omega) q1 (fun h2 q2 => ⟨_, rfl, q2.1.hs, hQ _ (by simpa [lRL, lHL, lTL] using q2)⟩))⟩)⟩), fun e => absurd e (by decide), fun e => absurd e (by decide), fun e => absurd e (by decide)⟩
  · exact ⟨fun e => absurd e (by decide), fun e => absurd e (by decide), fun _ => rt_ok p x hp0 hk ek ev (by omega) hp (fun h1 q1 => ⟨_, rfl, q1.1.hs, hQ h1 q1⟩), fun e => absurd e (by decide), fun e => absurd e (by decide)⟩
  · exact ⟨fun e => absurd e (by decide), fun e => absurd e (by decide), fun e => absurd e (by decide), fun _ => mbod_ok 60 hp (by omega) (fun h9 q9 => ⟨rfl, q9.1.hs, rt_ok p (x - p) hp0 hk ek ev (by rw [List.length_append, List.length_singleton]; omega) q9 (fun h1 q1 => ⟨_, rfl, q1.1.hs, hQ _ (by simpa [lRL, lHL, lTL] using q1)⟩)⟩), fun e => absurd e (by decide)⟩
  · exact ⟨fun e => absurd e (by decide), fun e => absurd e (by decide), fun e => absurd e (by decide), fun e => absurd e (by decide), fun _ => mbod_ok 40 hp (by omega) (fun h9 q9 => ⟨rfl, q9.1.hs, rt_ok p x hp0 hk ek ev (by rw [List.length_append, List.length_singleton]; omega) q9 (fun h1 q1 => ⟨_, rfl, q1.1.hs, Ends.dpl (by decide) (ha_ok p 1 hp0 hk ek ev (by rw [List.length_append, List.length_append, List.length_singleton]; omega) q1 (fun h2 q2 => ⟨_, rfl, q2.1.hs, hQ _ (by simpa [lRL, lHL, lTL] using q2)⟩))⟩)⟩)⟩
end ACTS
end JN99t2acts
section JN99t3eqv
/-! What both sides hold alike, group by group. -/
def eqr (h : Hp) (a b n : Nat) : Prop := ∀ j, j < n → h.2.1 a j = h.2.1 b j
theorem eqr_fr {h h' : Hp} {a b n : Nat} (ha : ∀ j, h'.2.1 a j = h.2.1 a j) (hb : ∀ j, h'.2.1 b j = h.2.1 b j) (e : eqr h a b n) : eqr h' a b n := fun j hj => by rw [ha j, hb j]; exact e j hj
/-- from place 4 * s on only 0 -/
def zrr (h : Hp) (a : Nat) (s : Int32) : Prop := ∀ j, 4 * s.toInt.toNat ≤ j → j < 28 → h.2.1 a j = 0
theorem zrr_fr {h h' : Hp} {a : Nat} {s s' : Int32} (ha : ∀ j, h'.2.1 a j = h.2.1 a j) (hs : s' = s) (e : zrr h a s) : zrr h' a s' := fun j h1 h2 => by rw [ha j]; exact e j (hs ▸ h1) h2
def EK (h : Hp) : Prop := eqr h 2 94 7 ∧ eqr h 3 95 7 ∧ eqr h 5 97 7 ∧ eqr h 10 115 7 ∧ eqr h 11 116 7 ∧ eqr h 13 118 7
def SEK : List (Nat × Nat) := [(2, 999), (94, 999), (3, 999), (95, 999), (5, 999), (97, 999), (10, 999), (115, 999), (11, 999), (116, 999), (13, 999), (118, 999)]
theorem EK_f {W : List (Nat × Nat)} {h h' : Hp} (hd : disW SEK W = true) (hf : frm W h h') (e : EK h) : EK h' := by
  have g : ∀ a k, inW SEK a k = true → h'.2.1 a k = h.2.1 a k := fun a k hs => (hf a k (dis_in hd hs)).1
  obtain ⟨e0, e1, e2, e3, e4, e5⟩ := e
  exact ⟨eqr_fr (fun j => g 2 j (by simp [inW, SEK])) (fun j => g 94 j (by simp [inW, SEK])) e0, eqr_fr (fun j => g 3 j (by simp [inW, SEK])) (fun j => g 95 j (by simp [inW, SEK])) e1, eqr_fr (fun j => g 5 j (by simp [inW, SEK])) (fun j => g 97 j (by simp [inW, SEK])) e2, eqr_fr (fun j => g 10 j (by simp [inW, SEK])) (fun j => g 115 j (by simp [inW, SEK])) e3, eqr_fr (fun j => g 11 j (by simp [inW, SEK])) (fun j => g 116 j (by simp [inW, SEK])) e4, eqr_fr (fun j => g 13 j (by simp [inW, SEK])) (fun j => g 118 j (by simp [inW, SEK])) e5⟩
def ER (h : Hp) : Prop := eqr h 7 99 28 ∧ eqr h 15 120 28 ∧ zrr h 7 (h.2.1 1 0) ∧ zrr h 15 (h.2.1 9 0)
def SER : List (Nat × Nat) := [(7, 999), (99, 999), (15, 999), (120, 999), (1, 0), (9, 0)]
theorem ER_f {W : List (Nat × Nat)} {h h' : Hp} (hd : disW SER W = true) (hf : frm W h h') (e : ER h) : ER h' := by
  have g : ∀ a k, inW SER a k = true → h'.2.1 a k = h.2.1 a k := fun a k hs => (hf a k (dis_in hd hs)).1
  obtain ⟨e0, e1, e2, e3⟩ := e
  exact ⟨eqr_fr (fun j => g 7 j (by simp [inW, SER])) (fun j => g 99 j (by simp [inW, SER])) e0, eqr_fr (fun j => g 15 j (by simp [inW, SER])) (fun j => g 120 j (by simp [inW, SER])) e1, zrr_fr (fun j => g 7 j (by simp [inW, SER])) (g 1 0 (by simp [inW, SER])) e2, zrr_fr (fun j => g 15 j (by simp [inW, SER])) (g 9 0 (by simp [inW, SER])) e3⟩
def EB (h : Hp) : Prop := eqr h 8 114 12 ∧ eqr h 16 121 12 ∧ h.2.1 1 11 = h.2.1 93 42 ∧ h.2.1 9 11 = h.2.1 93 50
def SEB : List (Nat × Nat) := [(8, 999), (114, 999), (16, 999), (121, 999), (1, 11), (93, 42), (9, 11), (93, 50)]
theorem EB_f {W : List (Nat × Nat)} {h h' : Hp} (hd : disW SEB W = true) (hf : frm W h h') (e : EB h) : EB h' := by
  have g : ∀ a k, inW SEB a k = true → h'.2.1 a k = h.2.1 a k := fun a k hs => (hf a k (dis_in hd hs)).1
  obtain ⟨e0, e1, e2, e3⟩ := e
  exact ⟨eqr_fr (fun j => g 8 j (by simp [inW, SEB])) (fun j => g 114 j (by simp [inW, SEB])) e0, eqr_fr (fun j => g 16 j (by simp [inW, SEB])) (fun j => g 121 j (by simp [inW, SEB])) e1, by rw [g 1 11 (by simp [inW, SEB]), g 93 42 (by simp [inW, SEB])]; exact e2, by rw [g 9 11 (by simp [inW, SEB]), g 93 50 (by simp [inW, SEB])]; exact e3⟩
def ES (h : Hp) : Prop := h.2.1 1 9 = h.2.1 93 41 ∧ h.2.1 9 9 = h.2.1 93 49
def SES : List (Nat × Nat) := [(1, 9), (93, 41), (9, 9), (93, 49)]
theorem ES_f {W : List (Nat × Nat)} {h h' : Hp} (hd : disW SES W = true) (hf : frm W h h') (e : ES h) : ES h' := by
  have g : ∀ a k, inW SES a k = true → h'.2.1 a k = h.2.1 a k := fun a k hs => (hf a k (dis_in hd hs)).1
  obtain ⟨e0, e1⟩ := e
  exact ⟨by rw [g 1 9 (by simp [inW, SES]), g 93 41 (by simp [inW, SES])]; exact e0, by rw [g 9 9 (by simp [inW, SES]), g 93 49 (by simp [inW, SES])]; exact e1⟩
def EA (h : Hp) : Prop := eqr h 52 122 20 ∧ h.2.1 51 4 = h.2.1 93 58
def SEA : List (Nat × Nat) := [(52, 999), (122, 999), (51, 4), (93, 58)]
theorem EA_f {W : List (Nat × Nat)} {h h' : Hp} (hd : disW SEA W = true) (hf : frm W h h') (e : EA h) : EA h' := by
  have g : ∀ a k, inW SEA a k = true → h'.2.1 a k = h.2.1 a k := fun a k hs => (hf a k (dis_in hd hs)).1
  obtain ⟨e0, e1⟩ := e
  exact ⟨eqr_fr (fun j => g 52 j (by simp [inW, SEA])) (fun j => g 122 j (by simp [inW, SEA])) e0, by rw [g 51 4 (by simp [inW, SEA]), g 93 58 (by simp [inW, SEA])]; exact e1⟩
def ET (h : Hp) : Prop := eqr h 54 123 6 ∧ eqr h 55 124 6 ∧ (∀ t k, t < 6 → k < 60 → h.2.2.1 (57 + t) k = h.2.2.1 125 (60 * t + k)) ∧ (∀ t, t < 6 → (h.2.1 54 t).toInt = -1 → h.2.1 55 t = 0) ∧ ∀ t k, t < 6 → k < 60 → (h.2.1 54 t).toInt = 4 → (h.2.2.1 (57 + t) k = 0 ∨ h.2.2.1 (57 + t) k = 1)
def SET : List (Nat × Nat) := [(54, 999), (123, 999), (55, 999), (124, 999), (57, 999), (58, 999), (59, 999), (60, 999), (61, 999), (62, 999), (125, 999)]
theorem ST_row (t : Nat) (ht : t < 6) (k : Nat) : inW SET (57 + t) k = true := by
  match t, ht with
  | 0, _ => simp [inW, SET]
  | 1, _ => simp [inW, SET]
  | 2, _ => simp [inW, SET]
  | 3, _ => simp [inW, SET]
  | 4, _ => simp [inW, SET]
  | 5, _ => simp [inW, SET]
  | t + 6, h => omega
theorem ET_f {W : List (Nat × Nat)} {h h' : Hp} (hd : disW SET W = true) (hf : frm W h h') (e : ET h) : ET h' := by
  have g : ∀ a k, inW SET a k = true → h'.2.1 a k = h.2.1 a k := fun a k hs => (hf a k (dis_in hd hs)).1
  have gl : ∀ a k, inW SET a k = true → h'.2.2.1 a k = h.2.2.1 a k := fun a k hs => (hf a k (dis_in hd hs)).2.1
  obtain ⟨e0, e1, e2, e3, e4⟩ := e
  exact ⟨eqr_fr (fun j => g 54 j (by simp [inW, SET])) (fun j => g 123 j (by simp [inW, SET])) e0, eqr_fr (fun j => g 55 j (by simp [inW, SET])) (fun j => g 124 j (by simp [inW, SET])) e1, fun t k ht hk => by rw [gl (57 + t) k (ST_row t ht k), gl 125 (60 * t + k) (by simp [inW, SET])]; exact e2 t k ht hk, fun t ht c => by rw [g 54 t (by simp [inW, SET])] at c; rw [g 55 t (by simp [inW, SET])]; exact e3 t ht c, fun t k ht hk c => by rw [g 54 t (by simp [inW, SET])] at c; rw [gl (57 + t) k (ST_row t ht k)]; exact e4 t k ht hk c⟩
def EQV (h : Hp) : Prop := EK h ∧ ER h ∧ EB h ∧ ES h ∧ EA h ∧ ET h
def SUPE : List (Nat × Nat) := SEK ++ SER ++ SEB ++ SES ++ SEA ++ SET
theorem dis_app {S T W : List (Nat × Nat)} (h : disW (S ++ T) W = true) : disW S W = true ∧ disW T W = true := by
  unfold disW at h ⊢
  constructor
  · exact List.all_eq_true.mpr (fun q hq => by
      have := List.all_eq_true.mp h q hq
      rw [List.all_append, Bool.and_eq_true] at this
      exact this.1)
  · exact List.all_eq_true.mpr (fun q hq => by
      have := List.all_eq_true.mp h q hq
      rw [List.all_append, Bool.and_eq_true] at this
      exact this.2)
theorem EQV_f {W : List (Nat × Nat)} {h h' : Hp} (hd : disW SUPE W = true) (hf : frm W h h') (e : EQV h) : EQV h' := by
  obtain ⟨e1, e2, e3, e4, e5, e6⟩ := e
  have d5 := dis_app hd
  have d4 := dis_app d5.1
  have d3 := dis_app d4.1
  have d2 := dis_app d3.1
  have d1 := dis_app d2.1
  exact ⟨EK_f d1.1 hf e1, ER_f d1.2 hf e2, EB_f d2.2 hf e3, ES_f d3.2 hf e4, EA_f d4.2 hf e5, ET_f d5.2 hf e6⟩
def INVE (h : Hp) : Prop := INV h ∧ EQV h
end JN99t3eqv
section JN99t4rows
/-! Rows, what is seen, books: both sides exactly, and the pairs of calls. -/
section ROWS
variable {X : Scr} {dp : Nat} {h : Hp} {Q : Option Value → Hp → Prop}
theorem ix4 {p a : Int32} (h1 : 0 ≤ p.toInt) (h2 : p.toInt < 7) (h3 : 0 ≤ a.toInt) (h4 : a.toInt < 4) : ((p * 4) + a).toInt = 4 * p.toInt + a.toInt := by
  have j4 : (4 : Int32).toInt = 4 := rfl
  have e : (p * 4).toInt = p.toInt * 4 := by rw [i_mul (by rw [j4]; omega) (by rw [j4]; omega), j4]
  rw [i_add (by omega) (by omega)]
  omega
theorem ix4' {p a : Int32} (h1 : 0 ≤ p.toInt) (h2 : p.toInt < 7) (h3 : 0 ≤ a.toInt) (h4 : a.toInt < 4) : ((4 * p) + a).toInt = 4 * p.toInt + a.toInt := by
  have j4 : (4 : Int32).toInt = 4 := rfl
  have e : (4 * p).toInt = 4 * p.toInt := by rw [i_mul (by rw [j4]; omega) (by rw [j4]; omega), j4]
  rw [i_add (by omega) (by omega)]
  omega
theorem chas_ok (p : Int32) (hh : HI h) (hQ : Q (some (.int (b2i (decide (0 ≤ p.toInt) && decide (p.toInt < (h.2.1 1 0).toInt))))) h) : Ends X dp 26 0 [.ref 1, .int p] [] h Q := by
  have b := hh.iv 1 0 (r := (0, 7)) rfl
  simp only at b
  refine w_chas p hh.hs ⟨fun e => ?_, fun e => ⟨fun e2 => ?_, fun e2 => ⟨fun e3 => ?_, fun e3 => ?_⟩⟩⟩
  · have e : p.toInt < 0 := of_decide_eq_true (cI e)
    rwa [decide_eq_false (by omega : ¬ 0 ≤ p.toInt)] at hQ
  · have e : ¬ p.toInt < 0 := of_decide_eq_false (cI e)
    have e2 : (h.2.1 1 0).toInt ≤ p.toInt := of_decide_eq_true (cI e2)
    rwa [decide_eq_true (by omega : 0 ≤ p.toInt), decide_eq_false (by omega : ¬ p.toInt < (h.2.1 1 0).toInt)] at hQ
  · exfalso
    have e2 : ¬ (h.2.1 1 0).toInt ≤ p.toInt := of_decide_eq_false (cI e2)
    have e3 : 7 ≤ p.toInt := of_decide_eq_true (cI e3)
    omega
  · have e : ¬ p.toInt < 0 := of_decide_eq_false (cI e)
    have e2 : ¬ (h.2.1 1 0).toInt ≤ p.toInt := of_decide_eq_false (cI e2)
    rwa [decide_eq_true (by omega : 0 ≤ p.toInt), decide_eq_true (by omega : p.toInt < (h.2.1 1 0).toInt)] at hQ
theorem band {a b : Prop} [Decidable a] [Decidable b] (h : (decide a && decide b) = true) : a ∧ b := by
  rw [Bool.and_eq_true, decide_eq_true_eq, decide_eq_true_eq] at h
  exact h
theorem bnand {a b : Prop} [Decidable a] [Decidable b] (h : (decide a && decide b) = false) : ¬ (a ∧ b) := by
  intro q
  rw [decide_eq_true q.1, decide_eq_true q.2] at h
  cases h
theorem crow_ok (p a n : Int32) (hh : HI h)
    (q1 : ¬ (0 ≤ p.toInt ∧ p.toInt < (h.2.1 1 0).toInt ∧ 0 ≤ a.toInt ∧ a.toInt < 4) → Q (some (.int (-1))) h)
    (q2 : (0 ≤ p.toInt ∧ p.toInt < (h.2.1 1 0).toInt ∧ 0 ≤ a.toInt ∧ a.toInt < 4) → ¬ (0 ≤ n.toInt ∧ n.toInt ≤ 6) → Q (some (.int (-2))) h)
    (q3 : (0 ≤ p.toInt ∧ p.toInt < (h.2.1 1 0).toInt ∧ 0 ≤ a.toInt ∧ a.toInt < 4) → (0 ≤ n.toInt ∧ n.toInt ≤ 6) → ¬ h.2.1 2 p.toInt.toNat = 6 → Q (some (.int (-3))) h)
    (q4 : (0 ≤ p.toInt ∧ p.toInt < (h.2.1 1 0).toInt ∧ 0 ≤ a.toInt ∧ a.toInt < 4) → (0 ≤ n.toInt ∧ n.toInt ≤ 6) → h.2.1 2 p.toInt.toNat = 6 → Q (some (.int (h.2.1 7 (4 * p.toInt + a.toInt).toNat))) (hpI h 7 (4 * p.toInt + a.toInt).toNat n)) :
    Ends X (dp + 1) 67 0 [.ref 0, .int p, .int a, .int n, .retAddr 0] [] h Q := by
  have hs := hh.hs
  have b := hh.iv 1 0 (r := (0, 7)) rfl
  have j4 : (4 : Int32).toInt = 4 := rfl
  simp only at b
  refine w_crow p a n hs (chas_ok p hh ⟨_, rfl, hs, fun e => q1 ?_, fun e => ⟨fun e2 => q1 ?_, fun e2 => ⟨fun e3 => isLane_ok n hs ⟨_, rfl, hs, fun e4 => ?_, fun e4 => ?_⟩, fun e3 => q1 ?_⟩⟩⟩)
  · have e := bnand (cz e)
    omega
  · have e2 : a.toInt < 0 := of_decide_eq_true (cI e2)
    omega
  · have e := band (cn e)
    have e2 : ¬ a.toInt < 0 := of_decide_eq_false (cI e2)
    have e3 : a.toInt < 4 := of_decide_eq_true (cI e3)
    have e4 := band (cn2 e4)
    have ip : inB p 7 = true := inB_iff (by omega) (by omega)
    have ei := ix4 (p := p) (a := a) (by omega) (by omega) (by omega) (by omega)
    have en : ((p * 4) + a).toNatClampNeg = (4 * p.toInt + a.toInt).toNat := by show ((p * 4) + a).toInt.toNat = _; rw [ei]
    have ix : inB ((p * 4) + a) 28 = true := inB_iff (by rw [ei]; omega) (by rw [ei]; omega)
    refine ⟨ip, fun e5 => ⟨ix, ix, ?_⟩, fun e5 => ?_⟩
    · rw [en]
      exact q4 (by omega) e4 (of_decide_eq_true e5)
    · exact q3 (by omega) e4 (of_decide_eq_false e5)
  · have e := band (cn e)
    have e2 : ¬ a.toInt < 0 := of_decide_eq_false (cI e2)
    have e3 : a.toInt < 4 := of_decide_eq_true (cI e3)
    exact q2 (by omega) (bnand (cz2 e4))
  · have e3 : ¬ a.toInt < 4 := of_decide_eq_false (cI e3)
    omega
theorem mrow_ok (p a n : Int32) (hh : HI h)
    (q1 : ¬ (0 ≤ p.toInt ∧ p.toInt < (h.2.1 93 0).toInt ∧ 0 ≤ a.toInt ∧ a.toInt < 4) → Q (some (.int (-1))) h)
    (q2 : (0 ≤ p.toInt ∧ p.toInt < (h.2.1 93 0).toInt ∧ 0 ≤ a.toInt ∧ a.toInt < 4) → ¬ (0 ≤ n.toInt ∧ n.toInt ≤ 6) → Q (some (.int (-2))) h)
    (q3 : (0 ≤ p.toInt ∧ p.toInt < (h.2.1 93 0).toInt ∧ 0 ≤ a.toInt ∧ a.toInt < 4) → (0 ≤ n.toInt ∧ n.toInt ≤ 6) → ¬ h.2.1 94 p.toInt.toNat = 6 → Q (some (.int (-3))) h)
    (q4 : (0 ≤ p.toInt ∧ p.toInt < (h.2.1 93 0).toInt ∧ 0 ≤ a.toInt ∧ a.toInt < 4) → (0 ≤ n.toInt ∧ n.toInt ≤ 6) → h.2.1 94 p.toInt.toNat = 6 → Q (some (.int (h.2.1 99 (4 * p.toInt + a.toInt).toNat))) (hpI h 99 (4 * p.toInt + a.toInt).toNat n)) :
    Ends X (dp + 1 + 1) 117 0 [.ref 93, .int p, .int a, .int n, .retAddr 0] [] h Q := by
  have hs := hh.hs
  have b := hh.iv 93 0 (r := (0, 7)) rfl
  have j0 : (0 : Int32).toInt = 0 := rfl
  have j3 : (3 : Int32).toInt = 3 := rfl
  have j6 : (6 : Int32).toInt = 6 := rfl
  simp only at b
  refine w_mrow p a n hs (person_ok p hh ⟨_, rfl, hs, fun e => q1 ?_, fun e => in_ok _ _ _ hs ⟨_, rfl, hs, fun e2 => in_ok _ _ _ hs ⟨_, rfl, hs, fun e4 => ?_, fun e4 => ?_⟩, fun e2 => q1 ?_⟩⟩)
  · have e := bnand (cz e)
    omega
  · have e := band (cn e)
    have e2 := band (cn2 e2)
    have e4 := band (cn2 e4)
    rw [j0, j3] at e2
    rw [j0, j6] at e4
    have ip : inB p 7 = true := inB_iff (by omega) (by omega)
    have ei := ix4' (p := p) (a := a) (by omega) (by omega) (by omega) (by omega)
    have en : ((4 * p) + a).toNatClampNeg = (4 * p.toInt + a.toInt).toNat := by show ((4 * p) + a).toInt.toNat = _; rw [ei]
    have ix : inB ((4 * p) + a) 28 = true := inB_iff (by rw [ei]; omega) (by rw [ei]; omega)
    refine ⟨ip, fun e5 => ⟨ix, ix, ?_⟩, fun e5 => ?_⟩
    · rw [en]
      exact q4 (by omega) e4 (of_decide_eq_true e5)
    · exact q3 (by omega) e4 (of_decide_eq_false e5)
  · have e := band (cn e)
    have e2 := band (cn2 e2)
    have e4 := bnand (cz2 e4)
    rw [j0, j3] at e2
    rw [j0, j6] at e4
    exact q2 (by omega) e4
  · have e2 := bnand (cz2 e2)
    rw [j0, j3] at e2
    omega
def WRW : List (Nat × Nat) := [(7, 999), (99, 999)]
theorem WRW_7 {k : Nat} : inW WRW 7 k = true := by simp [inW, WRW]
theorem WRW_99 {k : Nat} : inW WRW 99 k = true := by simp [inW, WRW]
/-- what is owed for the reference's call of a pair -/
def REF (X : Scr) (dp y : Nat) (L : List Value) (K : Hp → Int32 → Int32 → Prop) (r : Int32) (h1 : Hp) : Prop := Ends X dp y 0 L [] h1 (fun w h2 => ∃ r2, w = some (.int r2) ∧ HS h2 ∧ K h2 r r2)
theorem row_pair (p a n : Int32) (hi : INVE h) {K : Hp → Int32 → Int32 → Prop} (hK : ∀ r h', INVE h' → frm WRW h h' → K h' r r) (hQ : ∀ r h1, HI h1 → REF X (dp + 1 + 1) 117 [.ref 93, .int p, .int a, .int n, .retAddr 0] K r h1 → Q (some (.int r)) h1) : Ends X (dp + 1 + 1) 67 0 [.ref 0, .int p, .int a, .int n, .retAddr 0] [] h Q := by
  have hh := hi.1.1
  have r1 : h.2.1 1 0 = h.2.1 93 0 := hi.1.2.2.2.2.2.2.1
  have ek : eqr h 2 94 7 := hi.2.1.1
  have b := hh.iv 1 0 (r := (0, 7)) rfl
  simp only at b
  refine crow_ok p a n hh (fun c => ?_) (fun c c2 => ?_) (fun c c2 c3 => ?_) (fun c c2 c3 => ?_)
  · rw [r1] at c
    exact hQ _ h hh (mrow_ok p a n hh (fun _ => ⟨_, rfl, hh.hs, hK _ h hi frm_refl⟩) (fun d => absurd d c) (fun d => absurd d c) (fun d => absurd d c))
  · have c' := c
    rw [r1] at c'
    exact hQ _ h hh (mrow_ok p a n hh (fun d => absurd c' d) (fun _ _ => ⟨_, rfl, hh.hs, hK _ h hi frm_refl⟩) (fun _ d => absurd d c2) (fun _ d => absurd d c2))
  · have c' := c
    rw [r1] at c'
    rw [ek p.toInt.toNat (by omega)] at c3
    exact hQ _ h hh (mrow_ok p a n hh (fun d => absurd c' d) (fun _ d => absurd c2 d) (fun _ _ _ => ⟨_, rfl, hh.hs, hK _ h hi frm_refl⟩) (fun _ _ d => absurd d c3))
  · have c' := c
    rw [r1] at c'
    have ei : (4 * p.toInt + a.toInt).toNat < 28 := by omega
    have ez : (4 * p.toInt + a.toInt).toNat < 4 * (h.2.1 1 0).toInt.toNat := by omega
    obtain ⟨ix, hx⟩ : ∃ ix, (4 * p.toInt + a.toInt).toNat = ix := ⟨_, rfl⟩
    rw [hx] at ei ez ⊢
    have g1 : HI (hpI h 7 ix n) := HI_put hh c2.1 c2.2
    have g2 : HI (hpI (hpI h 7 ix n) 99 ix n) := HI_put g1 c2.1 c2.2
    have f2 : frm WRW h (hpI (hpI h 7 ix n) 99 ix n) := frm_put (frm_put frm_refl WRW_7) WRW_99
    have c1 : 0 ≤ p.toInt ∧ p.toInt < ((hpI h 7 ix n).2.1 93 0).toInt ∧ 0 ≤ a.toInt ∧ a.toInt < 4 := by rw [put_ne (by omega)]; exact c'
    have c4 : (hpI h 7 ix n).2.1 94 p.toInt.toNat = 6 := by rw [put_ne (by omega), ← ek p.toInt.toNat (by omega)]; exact c3
    obtain ⟨q1, ⟨e1, e2, e3, e4⟩, q3, q4, q5, q6⟩ := hi.2
    have e9 : (hpI h 7 ix n).2.1 99 ix = h.2.1 7 ix := by rw [put_ne (by omega)]; exact (e1 ix ei).symm
    refine hQ _ _ g1 (mrow_ok p a n g1 (fun d => absurd c1 d) (fun _ d => absurd c2 d) (fun _ _ d => absurd c4 d) (fun _ _ _ => ⟨_, rfl, g1.hs, ?_⟩))
    rw [hx, e9]
    refine hK _ _ ⟨INV_fr (W := WRW) (by decide) g2 f2 hi.1, EK_f (W := WRW) (by decide) f2 q1, ⟨fun j hj => ?_, eqr_fr (fun j => frI f2 (by simp [inW, WRW])) (fun j => frI f2 (by simp [inW, WRW])) e2, fun j h1 h2 => ?_, zrr_fr (fun j => frI f2 (by simp [inW, WRW])) (frI f2 rfl) e4⟩, EB_f (W := WRW) (by decide) f2 q3, ES_f (W := WRW) (by decide) f2 q4, EA_f (W := WRW) (by decide) f2 q5, ET_f (W := WRW) (by decide) f2 q6⟩ f2
    · rw [put_ne (by omega), put_if, put_if, put_ne (by omega)]
      by_cases c9 : j = ix
      · rw [if_pos c9, if_pos c9]
      · rw [if_neg c9, if_neg c9]
        exact e1 j hj
    · rw [frI f2 (a := 1) (k := 0) rfl] at h1
      rw [put_ne (by omega), put_if, if_neg (by omega)]
      exact e3 j h1 h2
/-! bits of people -/
theorem msk_nat (n : Nat) (hn : n ≤ 7) (x : Nat) (hx : x < 4294967296) : x &&& (4294967296 - 2 ^ n) = 0 ↔ x < 2 ^ n := by
  have hC1 : ∀ n, n ≤ 7 → ∀ i, i < 32 → n ≤ i → (4294967296 - 2 ^ n).testBit i = true := by decide +kernel
  have hC2 : ∀ n, n ≤ 7 → ∀ i, i < 7 → i < n → (4294967296 - 2 ^ n).testBit i = false := by decide +kernel
  constructor
  · intro h0
    apply Nat.lt_of_not_le
    intro hge
    obtain ⟨i, hi, ht⟩ := Nat.exists_ge_and_testBit_of_ge_two_pow hge
    have hi32 : i < 32 := by
      apply Nat.lt_of_not_le
      intro hc
      have h9 : x < 2 ^ i := Nat.lt_of_lt_of_le hx (show 2 ^ 32 ≤ 2 ^ i from Nat.pow_le_pow_right (by decide) hc)
      rw [Nat.testBit_lt_two_pow h9] at ht
      cases ht
    have h8 := congrArg (fun y => y.testBit i) h0
    simp only [Nat.testBit_and, ht, hC1 n hn i hi32 hi, Nat.zero_testBit, Bool.and_self] at h8
    cases h8
  · intro hlt
    apply Nat.eq_of_testBit_eq
    intro i
    rw [Nat.testBit_and, Nat.zero_testBit]
    by_cases c : i < n
    · rw [hC2 n hn i (by omega) c, Bool.and_false]
    · rw [Nat.testBit_lt_two_pow (Nat.lt_of_lt_of_le hlt (Nat.pow_le_pow_right (by decide) (by omega))), Bool.false_and]
theorem msk {a e : Int32} {n : Nat} (hn : n ≤ 7) (he : e.toBitVec.toNat = 2 ^ n - 1) : a &&& (e ^^^ (-1)) = 0 ↔ 0 ≤ a.toInt ∧ a.toInt < ((2 ^ n : Nat) : Int) := by
  have hx : (e ^^^ (-1)).toBitVec.toNat = 4294967296 - 2 ^ n := by
    rw [Int32.toBitVec_xor, BitVec.toNat_xor, he]
    match n, hn with
    | 0, _ => decide
    | 1, _ => decide
    | 2, _ => decide
    | 3, _ => decide
    | 4, _ => decide
    | 5, _ => decide
    | 6, _ => decide
    | 7, _ => decide
    | n + 8, h => omega
  have hA : a &&& (e ^^^ (-1)) = 0 ↔ a.toBitVec.toNat &&& (4294967296 - 2 ^ n) = 0 := by
    rw [← hx, ← BitVec.toNat_and, ← Int32.toBitVec_and]
    constructor
    · intro h
      rw [h]
      rfl
    · intro h
      exact Int32.toBitVec_inj.mp (BitVec.eq_of_toNat_eq h)
  rw [hA, msk_nat n hn _ a.toBitVec.isLt]
  have ht : a.toInt = if 2 * a.toBitVec.toNat < 4294967296 then (a.toBitVec.toNat : Int) else (a.toBitVec.toNat : Int) - 4294967296 := BitVec.toInt_eq_toNat_cond a.toBitVec
  have hp : 2 ^ n ≤ 2 ^ 7 := Nat.pow_le_pow_right (by decide) hn
  have hl := a.toBitVec.isLt
  have h7 : (2 : Nat) ^ 7 = 128 := rfl
  rw [h7] at hp
  generalize 2 ^ n = m at hp ⊢
  generalize a.toBitVec.toNat = x at ht hl ⊢
  split at ht <;> omega
theorem ev_c {s : Int32} (h1 : 0 ≤ s.toInt) (h2 : s.toInt ≤ 7) : (((1 : Int32) <<< (s &&& 31)) - 1).toBitVec.toNat = 2 ^ s.toInt.toNat - 1 ∧ (((1 : Int32) <<< (s &&& 31)) - 1).toInt = ((2 ^ s.toInt.toNat - 1 : Nat) : Int) := by
  by_cases c : s.toInt = 7
  · have : s = 7 := Int32.toInt_inj.mp c
    subst this
    decide
  · rcases kcases h1 (by omega) with rfl | rfl | rfl | rfl | rfl | rfl | rfl <;> decide
theorem bfal {a b : Prop} [Decidable a] [Decidable b] (h : ¬ (a ∧ b)) : (decide a && decide b) = false := by
  by_cases c : a
  · rw [decide_eq_false (fun d : b => h ⟨c, d⟩), Bool.and_false]
  · rw [decide_eq_false c, Bool.false_and]
theorem btru {a b : Prop} [Decidable a] [Decidable b] (h : a ∧ b) : (decide a && decide b) = true := by
  rw [decide_eq_true h.1, decide_eq_true h.2]
  rfl
/-- bits of nobody but s people -/
def bitsOf (s a : Int32) : Prop := 0 ≤ a.toInt ∧ a.toInt < ((2 ^ s.toInt.toNat : Nat) : Int)
theorem call_all (a : Int32) (hh : HI h) (q1 : ¬ bitsOf (h.2.1 1 0) a → Q (some (.int 0)) h) (q2 : bitsOf (h.2.1 1 0) a → Q (some (.int 1)) h) : Ends X (dp + 1) 30 0 [.ref 1, .int a] [] h Q := by
  have b := hh.iv 1 0 (r := (0, 7)) rfl
  simp only at b
  have ev := (ev_c b.1 b.2).1
  exact w_call a hh.hs (w_cevr hh.hs ⟨_, rfl, hh.hs, fun e => q1 (fun c => (of_decide_eq_true e) ((msk (by omega) ev).mpr c)), fun e => q2 ((msk (by omega) ev).mp (Decidable.not_not.mp (of_decide_eq_false e)))⟩)
theorem min_ok (a : Int32) (hh : HI h) (q1 : ¬ bitsOf (h.2.1 93 0) a → Q (some (.int 0)) h) (q2 : bitsOf (h.2.1 93 0) a → Q (some (.int 1)) h) : Ends X dp 109 0 [.ref 93, .int a, .int 0, .int ((1 <<< ((h.2.1 93 0) &&& 31)) - 1)] [] h Q := by
  have b := hh.iv 93 0 (r := (0, 7)) rfl
  simp only at b
  have ev := (ev_c b.1 b.2).2
  refine in_ok _ _ _ hh.hs ?_
  have j0 : (0 : Int32).toInt = 0 := rfl
  rw [ev, j0]
  have hp : 0 < 2 ^ (h.2.1 93 0).toInt.toNat := Nat.pow_pos (by decide)
  unfold bitsOf at q1 q2
  generalize 2 ^ (h.2.1 93 0).toInt.toNat = m at hp q1 q2 ⊢
  by_cases c : 0 ≤ a.toInt ∧ a.toInt < (m : Int)
  · rw [btru ⟨c.1, by omega⟩]
    exact q2 c
  · rw [bfal (fun d => c ⟨d.1, by omega⟩)]
    exact q1 c
theorem c01 : condB .ne (0 : Int32) 0 = true → False := by decide
theorem c11 : condB .ne (1 : Int32) 0 = false → False := by decide
theorem csee_ok (a : Int32) (hh : HI h) (q1 : ¬ bitsOf (h.2.1 1 0) a → Q (some (.int (-2))) h) (q2 : bitsOf (h.2.1 1 0) a → Q (some (.int (h.2.1 1 9))) (hpI h 1 9 a)) : Ends X (dp + 1 + 1) 82 0 [.ref 0, .int a, .retAddr 0] [] h Q :=
  w_csee a hh.hs (call_all a hh (fun c => ⟨_, rfl, hh.hs, fun e => (c01 e).elim, fun _ => q1 c⟩) (fun c => ⟨_, rfl, hh.hs, fun _ => q2 c, fun e => (c11 e).elim⟩))
theorem msee_ok (a : Int32) (hh : HI h) (q1 : ¬ bitsOf (h.2.1 93 0) a → Q (some (.int (-2))) h) (q2 : bitsOf (h.2.1 93 0) a → Q (some (.int (h.2.1 93 41))) (hpI h 93 41 a)) : Ends X (dp + 1) 175 0 [.ref 93, .int a, .retAddr 0] [] h Q :=
  w_msee a hh.hs (w_mall hh.hs ⟨_, rfl, hh.hs, min_ok a hh (fun c => ⟨_, rfl, hh.hs, fun e => (c01 e).elim, fun _ => q1 c⟩) (fun c => ⟨_, rfl, hh.hs, fun _ => q2 c, fun e => (c11 e).elim⟩)⟩)
def WSE : List (Nat × Nat) := [(1, 9), (93, 41)]
theorem see_pair (a : Int32) (hi : INVE h) {K : Hp → Int32 → Int32 → Prop} (hK : ∀ r h', INVE h' → frm WSE h h' → K h' r r) (hQ : ∀ r h1, HI h1 → REF X (dp + 1 + 1) 175 [.ref 93, .int a, .retAddr 0] K r h1 → Q (some (.int r)) h1) : Ends X (dp + 1 + 1) 82 0 [.ref 0, .int a, .retAddr 0] [] h Q := by
  have hh := hi.1.1
  have r1 : h.2.1 1 0 = h.2.1 93 0 := hi.1.2.2.2.2.2.2.1
  refine csee_ok a hh (fun c => ?_) (fun c => ?_)
  · rw [r1] at c
    exact hQ _ h hh (msee_ok a hh (fun _ => ⟨_, rfl, hh.hs, hK _ h hi frm_refl⟩) (fun d => absurd d c))
  · rw [r1] at c
    obtain ⟨q1, q2, q3, ⟨s1, s2⟩, q5, q6⟩ := hi.2
    have g1 : HI (hpI h 1 9 a) := HI_put hh (fIr 1 9 a (by decide +kernel)).1 (fIr 1 9 a (by decide +kernel)).2
    have g2 : HI (hpI (hpI h 1 9 a) 93 41 a) := HI_put g1 (fIr 93 41 a (by decide +kernel)).1 (fIr 93 41 a (by decide +kernel)).2
    have f2 : frm WSE h (hpI (hpI h 1 9 a) 93 41 a) := frm_put (frm_put frm_refl rfl) rfl
    have e0 : (hpI h 1 9 a).2.1 93 0 = h.2.1 93 0 := put_ne (by omega)
    have e9 : (hpI h 1 9 a).2.1 93 41 = h.2.1 1 9 := by rw [put_ne (by omega)]; exact s1.symm
    refine hQ _ _ g1 (msee_ok a g1 (fun d => absurd (e0 ▸ c) d) (fun _ => ⟨_, rfl, g1.hs, ?_⟩))
    rw [e9]
    refine hK _ _ ⟨INV_fr (W := WSE) (by decide) g2 f2 hi.1, EK_f (W := WSE) (by decide) f2 q1, ER_f (W := WSE) (by decide) f2 q2, EB_f (W := WSE) (by decide) f2 q3, ⟨?_, ?_⟩, EA_f (W := WSE) (by decide) f2 q5, ET_f (W := WSE) (by decide) f2 q6⟩ f2
    · rw [put_ne (by omega), put_at, put_at]
    · rw [frI f2 rfl, frI f2 rfl]
      exact s2
/-! the book -/
theorem cbok_ok (a : Int32) (hh : HI h) (q0 : a = -1 → Q (some (.int 0)) (hpI h 1 11 0)) (q1 : ¬ a = -1 → ¬ bitsOf (h.2.1 1 0) a → Q (some (.int (-2))) h) (q2 : ¬ a = -1 → bitsOf (h.2.1 1 0) a → h.2.1 1 11 = 12 → Q (some (.int (-4))) h)
    (q3 : ¬ a = -1 → bitsOf (h.2.1 1 0) a → ¬ h.2.1 1 11 = 12 → Q (some (.int (h.2.1 1 11 + 1))) (hpI (hpI h 8 (h.2.1 1 11).toNatClampNeg a) 1 11 (h.2.1 1 11 + 1))) : Ends X (dp + 1 + 1) 86 0 [.ref 0, .int a] [] h Q := by
  have b := hh.iv 1 11 (r := (0, 12)) rfl
  have j12 : (12 : Int32).toInt = 12 := rfl
  simp only at b
  refine w_cbok a hh.hs ⟨fun e => call_all a hh (fun c => ⟨_, rfl, hh.hs, fun e => (c01 e).elim, fun _ => q1 (of_decide_eq_true e) c⟩) (fun c => ⟨_, rfl, hh.hs, fun _ => ⟨fun e2 => ?_, fun e2 => ?_⟩, fun e => (c11 e).elim⟩), fun e => q0 (Decidable.not_not.mp (of_decide_eq_false e))⟩
  · have e2 : (h.2.1 1 11).toInt < 12 := of_decide_eq_true (cI e2)
    exact ⟨inB_iff (by omega) (by omega), q3 (of_decide_eq_true e) c (fun d => by rw [d] at e2; omega)⟩
  · have e2 : ¬ (h.2.1 1 11).toInt < 12 := of_decide_eq_false (cI e2)
    exact q2 (of_decide_eq_true e) c (Int32.toInt_inj.mp (by rw [j12]; omega))
theorem mbok_ok (a : Int32) (hh : HI h) (q0 : a = -1 → Q (some (.int 0)) (hpI h 93 42 0)) (q1 : ¬ a = -1 → ¬ bitsOf (h.2.1 93 0) a → Q (some (.int (-2))) h) (q2 : ¬ a = -1 → bitsOf (h.2.1 93 0) a → h.2.1 93 42 = 12 → Q (some (.int (-4))) h)
    (q3 : ¬ a = -1 → bitsOf (h.2.1 93 0) a → ¬ h.2.1 93 42 = 12 → Q (some (.int (h.2.1 93 42 + 1))) (hpI (hpI h 114 (h.2.1 93 42).toNatClampNeg a) 93 42 (h.2.1 93 42 + 1))) : Ends X (dp + 1) 181 0 [.ref 93, .int a] [] h Q := by
  have b := hh.iv 93 42 (r := (0, 12)) rfl
  have j12 : (12 : Int32).toInt = 12 := rfl
  simp only at b
  refine w_mbok a hh.hs ⟨fun e => w_mall hh.hs ⟨_, rfl, hh.hs, min_ok a hh (fun c => ⟨_, rfl, hh.hs, fun e => (c01 e).elim, fun _ => q1 (of_decide_eq_true e) c⟩) (fun c => ⟨_, rfl, hh.hs, fun _ => ⟨fun e2 => ?_, fun e2 => ?_⟩, fun e => (c11 e).elim⟩)⟩, fun e => q0 (Decidable.not_not.mp (of_decide_eq_false e))⟩
  · have e2 : ¬ h.2.1 93 42 = 12 := of_decide_eq_true e2
    have e3 : ¬ (h.2.1 93 42).toInt = 12 := fun d => e2 (Int32.toInt_inj.mp (by rw [j12]; exact d))
    exact ⟨inB_iff (by omega) (by omega), q3 (of_decide_eq_true e) c e2⟩
  · exact q2 (of_decide_eq_true e) c (Decidable.not_not.mp (of_decide_eq_false e2))
def WBO : List (Nat × Nat) := [(8, 999), (1, 11), (114, 999), (93, 42)]
theorem WBO_8 {k : Nat} : inW WBO 8 k = true := by simp [inW, WBO]
theorem WBO_114 {k : Nat} : inW WBO 114 k = true := by simp [inW, WBO]
theorem ivl8 : ∀ j, j < 12 → ivl 8 j = (-2147483648, 2147483647) := by decide +kernel
theorem ivl114 : ∀ j, j < 12 → ivl 114 j = (-2147483648, 2147483647) := by decide +kernel
theorem book_pair (a : Int32) (hi : INVE h) {K : Hp → Int32 → Int32 → Prop} (hK : ∀ r h', INVE h' → frm WBO h h' → K h' r r) (hQ : ∀ r h1, HI h1 → REF X (dp + 1 + 1) 181 [.ref 93, .int a] K r h1 → Q (some (.int r)) h1) : Ends X (dp + 1 + 1) 86 0 [.ref 0, .int a] [] h Q := by
  have hh := hi.1.1
  have r1 : h.2.1 1 0 = h.2.1 93 0 := hi.1.2.2.2.2.2.2.1
  obtain ⟨q1, q2, ⟨s1, s2, s3, s4⟩, q4, q5, q6⟩ := id hi.2
  have b := hh.iv 1 11 (r := (0, 12)) rfl
  have j12 : (12 : Int32).toInt = 12 := rfl
  simp only at b
  refine cbok_ok a hh (fun c => ?_) (fun c c2 => ?_) (fun c c2 c3 => ?_) (fun c c2 c3 => ?_)
  · have g1 : HI (hpI h 1 11 0) := HI_put hh (by show (0 : Int) ≤ 0; decide) (by show (0 : Int) ≤ 12; decide)
    have g2 : HI (hpI (hpI h 1 11 0) 93 42 0) := HI_put g1 (by show (0 : Int) ≤ 0; decide) (by show (0 : Int) ≤ 12; decide)
    have f2 : frm WBO h (hpI (hpI h 1 11 0) 93 42 0) := frm_put (frm_put frm_refl rfl) rfl
    refine hQ _ _ g1 (mbok_ok a g1 (fun _ => ⟨_, rfl, g1.hs, hK _ _ ⟨INV_fr (W := WBO) (by decide) g2 f2 hi.1, EK_f (W := WBO) (by decide) f2 q1, ER_f (W := WBO) (by decide) f2 q2, ⟨?_, ?_, ?_, ?_⟩, ES_f (W := WBO) (by decide) f2 q4, EA_f (W := WBO) (by decide) f2 q5, ET_f (W := WBO) (by decide) f2 q6⟩ f2⟩) (fun d => absurd c d) (fun d => absurd c d) (fun d => absurd c d))
    · exact eqr_fr (fun j => by rw [put_ne (by omega), put_ne (by omega)]) (fun j => by rw [put_ne (by omega), put_ne (by omega)]) s1
    · exact eqr_fr (fun j => frI f2 (by simp [inW, WBO])) (fun j => frI f2 (by simp [inW, WBO])) s2
    · rw [put_ne (by omega), put_at, put_at]
    · rw [frI f2 rfl, frI f2 rfl]; exact s4
  · rw [r1] at c2
    exact hQ _ h hh (mbok_ok a hh (fun d => absurd d c) (fun _ _ => ⟨_, rfl, hh.hs, hK _ h hi frm_refl⟩) (fun _ d => absurd d c2) (fun _ d => absurd d c2))
  · rw [r1] at c2
    rw [s3] at c3
    exact hQ _ h hh (mbok_ok a hh (fun d => absurd d c) (fun _ d => absurd c2 d) (fun _ _ _ => ⟨_, rfl, hh.hs, hK _ h hi frm_refl⟩) (fun _ _ d => absurd c3 d))
  · rw [r1] at c2
    have c4 : ¬ (h.2.1 1 11).toInt = 12 := fun d => c3 (Int32.toInt_inj.mp (by rw [j12]; exact d))
    have gv : (h.2.1 1 11 + 1).toInt = (h.2.1 1 11).toInt + 1 := by rw [i_add (by rw [i1]; omega) (by rw [i1]; omega), i1]
    obtain ⟨n, hn⟩ : ∃ n, (h.2.1 1 11).toNatClampNeg = n := ⟨_, rfl⟩
    have hn2 : n < 12 := by
      have : (h.2.1 1 11).toInt.toNat = n := hn
      omega
    have e42 : h.2.1 93 42 = h.2.1 1 11 := s3.symm
    rw [hn]
    obtain ⟨u, hu⟩ : ∃ u, h.2.1 1 11 + 1 = u := ⟨_, rfl⟩
    rw [hu] at gv ⊢
    have g0 : HI (hpI h 8 n a) := HI_put hh (fIr 8 n a (ivl8 n hn2)).1 (fIr 8 n a (ivl8 n hn2)).2
    have g1 : HI (hpI (hpI h 8 n a) 1 11 u) := HI_put g0 (by show (0 : Int) ≤ _; omega) (by show _ ≤ (12 : Int); omega)
    have g2 : HI (hpI (hpI (hpI h 8 n a) 1 11 u) 114 n a) := HI_put g1 (fIr 114 n a (ivl114 n hn2)).1 (fIr 114 n a (ivl114 n hn2)).2
    have g3 : HI (hpI (hpI (hpI (hpI h 8 n a) 1 11 u) 114 n a) 93 42 u) := HI_put g2 (by show (0 : Int) ≤ _; omega) (by show _ ≤ (12 : Int); omega)
    have f2 : frm WBO h (hpI (hpI (hpI (hpI h 8 n a) 1 11 u) 114 n a) 93 42 u) := frm_put (frm_put (frm_put (frm_put frm_refl WBO_8) rfl) WBO_114) rfl
    have e0 : (hpI (hpI h 8 n a) 1 11 u).2.1 93 0 = h.2.1 93 0 := by rw [put_ne (by omega), put_ne (by omega)]
    have e1 : (hpI (hpI h 8 n a) 1 11 u).2.1 93 42 = h.2.1 1 11 := by rw [put_ne (by omega), put_ne (by omega), e42]
    refine hQ _ _ g1 (mbok_ok a g1 (fun d => absurd d c) (fun _ d => absurd (e0 ▸ c2) d) (fun _ _ d => absurd (e1 ▸ d) c3) (fun _ _ _ => ⟨_, rfl, g1.hs, ?_⟩))
    rw [e1, hn, hu]
    refine hK _ _ ⟨INV_fr (W := WBO) (by decide) g3 f2 hi.1, EK_f (W := WBO) (by decide) f2 q1, ER_f (W := WBO) (by decide) f2 q2, ⟨fun j hj => ?_, ?_, ?_, ?_⟩, ES_f (W := WBO) (by decide) f2 q4, EA_f (W := WBO) (by decide) f2 q5, ET_f (W := WBO) (by decide) f2 q6⟩ f2
    · rw [put_ne (by omega), put_ne (by omega), put_ne (by omega), put_if, put_ne (by omega), put_if, put_ne (by omega), put_ne (by omega)]
      by_cases c9 : j = n
      · rw [if_pos c9, if_pos c9]
      · rw [if_neg c9, if_neg c9]
        exact s1 j hj
    · exact eqr_fr (fun j => frI f2 (by simp [inW, WBO])) (fun j => frI f2 (by simp [inW, WBO])) s2
    · rw [put_ne (by omega), put_ne (by omega), put_at, put_at]
    · rw [frI f2 rfl, frI f2 rfl]; exact s4
end ROWS
end JN99t4rows
