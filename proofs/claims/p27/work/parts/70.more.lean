/-! What is owed for behind, spread, shift of the reference, shift of the class. -/
theorem w_bh {X : Scr} {dp : Nat} {h : Hp} {Q : Option Value → Hp → Prop} (p : Int32) (o : Int32) (hs : HS h)
    (vc : Ends X dp 112 0 [.ref 93, .int p] [] h (fun rv h1 => ∃ r2, rv = some (.int r2) ∧ HS h1 ∧ ((condB .eq r2 0 = true → Q (some (.int (-1))) h1) ∧ (condB .eq r2 0 = false → Ends X dp 112 0 [.ref 93, .int o] [] h1 (fun rv h5 => ∃ r6, rv = some (.int r6) ∧ HS h5 ∧ ((condB .ne r6 0 = true → ((condB .ne p o = true → Ends X dp 139 0 [.ref 93, .int p] [] h5 (fun rv h10 => ∃ r11, rv = some (.int r11) ∧ HS h10 ∧ ((condB .eq r11 0 = true → Q (some (.int (-3))) h10) ∧ (condB .eq r11 0 = false → Ends X dp 139 0 [.ref 93, .int o] [] h10 (fun rv h14 => ∃ r15, rv = some (.int r15) ∧ HS h14 ∧ ((condB .ne r15 0 = true → Ends X dp 147 0 [.ref 93, .int o] [] h14 (fun rv h18 => ∃ r19, rv = some (.int r19) ∧ HS h18 ∧ Ends X dp 157 0 [.ref 93, .retAddr 0, .retAddr 0, .retAddr 0, .retAddr 0, .retAddr 0] [] (hpI (hpI (hpI (hpI h18 93 28 p) 93 29 r19) 93 30 p) 93 31 o) (fun rv h21 => ∃ r22, rv = some (.int r22) ∧ HS h21 ∧ Ends X dp 110 0 [.ref 93, .int r22, .int p] [] (hpI (hpI h21 93 28 (-1)) 93 30 (-1)) (fun rv h24 => ∃ r25, rv = some (.int r25) ∧ HS h24 ∧ ((condB .eq r25 0 = true → Q (some (.int 1)) h24) ∧ (condB .eq r25 0 = false → Q (some (.int 0)) h24)))))) ∧ (condB .ne r15 0 = false → Q (some (.int (-3))) h14))))))) ∧ (condB .ne p o = false → Q (some (.int (-2))) h5))) ∧ (condB .ne r6 0 = false → Q (some (.int (-1))) h5))))))) :
    Ends X (dp + 1) 174 0 [.ref 93, .int p, .int o, .retAddr 0, .retAddr 0] [] h Q := by
  have ra : ∀ {a : Nat}, a < 1000 → a ≤ OLDB := fun h => by have := OLDB_eq; omega
  refine e_aload_n (show pAt 174 0 = some (0, .aload_n 0, 1, []) from by decide +kernel) rfl (ra (by decide)) ?_
  refine e_iload_n (show pAt 174 1 = some (1, .iload_n 1, 1, []) from by decide +kernel) rfl ?_
  refine Ends.call (show pAt 174 2 = some (2, .invokevirtual 210, 3, [112, 2, 0, 0, 5089, 5091, 55]) from by decide +kernel) (isRet_none rfl) rfl (call_this (show HS h from hs) rfl rfl (by decide)) (Ends.mono vc ?_)
  rintro _ h1 ⟨r2, rfl, hs_h1, vc⟩
  refine e_if (t := 16) (show pAt 174 5 = some (5, .ifCond .eq 11, 3, []) from by decide +kernel) rfl (fun c4 => ?_) (fun c4 => ?_)
  · replace vc := vc.1 c4
    refine e_iconst (c := (-1)) (show pAt 174 16 = some (16, .iconst (-1), 1, []) from by decide +kernel) (by decide) ?_
    exact e_retI (show pAt 174 17 = some (17, .ireturn, 1, []) from by decide +kernel) rfl vc
  · replace vc := vc.2 c4
    refine e_aload_n (show pAt 174 8 = some (8, .aload_n 0, 1, []) from by decide +kernel) rfl (ra (by decide)) ?_
    refine e_iload_n (show pAt 174 9 = some (9, .iload_n 2, 1, []) from by decide +kernel) rfl ?_
    refine Ends.call (show pAt 174 10 = some (10, .invokevirtual 210, 3, [112, 2, 0, 0, 5089, 5091, 55]) from by decide +kernel) (isRet_none rfl) rfl (call_this (show HS h1 from hs_h1) rfl rfl (by decide)) (Ends.mono vc ?_)
    rintro _ h5 ⟨r6, rfl, hs_h5, vc⟩
    refine e_if (t := 18) (show pAt 174 13 = some (13, .ifCond .ne 5, 3, []) from by decide +kernel) rfl (fun c8 => ?_) (fun c8 => ?_)
    · replace vc := vc.1 c8
      refine e_iload_n (show pAt 174 18 = some (18, .iload_n 1, 1, []) from by decide +kernel) rfl ?_
      refine e_iload_n (show pAt 174 19 = some (19, .iload_n 2, 1, []) from by decide +kernel) rfl ?_
      refine e_icmp (t := 26) (show pAt 174 20 = some (20, .if_icmp .ne 6, 3, []) from by decide +kernel) rfl (fun c9 => ?_) (fun c9 => ?_)
      · replace vc := vc.1 c9
        refine e_aload_n (show pAt 174 26 = some (26, .aload_n 0, 1, []) from by decide +kernel) rfl (ra (by decide)) ?_
        refine e_iload_n (show pAt 174 27 = some (27, .iload_n 1, 1, []) from by decide +kernel) rfl ?_
        refine Ends.call (show pAt 174 28 = some (28, .invokevirtual 291, 3, [139, 2, 0, 0, 5169, 5171, 70]) from by decide +kernel) (isRet_none rfl) rfl (call_this (show HS h5 from hs_h5) rfl rfl (by decide)) (Ends.mono vc ?_)
        rintro _ h10 ⟨r11, rfl, hs_h10, vc⟩
        refine e_if (t := 42) (show pAt 174 31 = some (31, .ifCond .eq 11, 3, []) from by decide +kernel) rfl (fun c13 => ?_) (fun c13 => ?_)
        · replace vc := vc.1 c13
          refine e_bipush (c := (-3)) (show pAt 174 42 = some (42, .bipush (-3), 2, []) from by decide +kernel) (by decide) ?_
          exact e_retI (show pAt 174 44 = some (44, .ireturn, 1, []) from by decide +kernel) rfl vc
        · replace vc := vc.2 c13
          refine e_aload_n (show pAt 174 34 = some (34, .aload_n 0, 1, []) from by decide +kernel) rfl (ra (by decide)) ?_
          refine e_iload_n (show pAt 174 35 = some (35, .iload_n 2, 1, []) from by decide +kernel) rfl ?_
          refine Ends.call (show pAt 174 36 = some (36, .invokevirtual 291, 3, [139, 2, 0, 0, 5169, 5171, 70]) from by decide +kernel) (isRet_none rfl) rfl (call_this (show HS h10 from hs_h10) rfl rfl (by decide)) (Ends.mono vc ?_)
          rintro _ h14 ⟨r15, rfl, hs_h14, vc⟩
          refine e_if (t := 45) (show pAt 174 39 = some (39, .ifCond .ne 6, 3, []) from by decide +kernel) rfl (fun c17 => ?_) (fun c17 => ?_)
          · replace vc := vc.1 c17
            refine e_aload_n (show pAt 174 45 = some (45, .aload_n 0, 1, []) from by decide +kernel) rfl (ra (by decide)) ?_
            refine e_iload_n (show pAt 174 46 = some (46, .iload_n 2, 1, []) from by decide +kernel) rfl ?_
            refine Ends.call (show pAt 174 47 = some (47, .invokevirtual 303, 3, [147, 2, 0, 0, 5177, 5179, 72]) from by decide +kernel) (isRet_none rfl) rfl (call_this (show HS h14 from hs_h14) rfl rfl (by decide)) (Ends.mono vc ?_)
            rintro _ h18 ⟨r19, rfl, hs_h18, vc⟩
            refine e_istore_n (show pAt 174 50 = some (50, .istore_n 3, 1, []) from by decide +kernel) ⟨Nat.le_of_ble_eq_true rfl, rfl⟩ rfl ?_
            refine e_aload_n (show pAt 174 51 = some (51, .aload_n 0, 1, []) from by decide +kernel) rfl (ra (by decide)) ?_
            refine e_iload_n (show pAt 174 52 = some (52, .iload_n 1, 1, []) from by decide +kernel) rfl ?_
            refine e_pI (show pAt 174 53 = some (53, .putfield 97, 3, [7, 28, 0, 4151]) from by decide +kernel) (show HS h18 from hs_h18) (by decide) (Or.inl rfl) ?_
            refine e_aload_n (show pAt 174 56 = some (56, .aload_n 0, 1, []) from by decide +kernel) rfl (ra (by decide)) ?_
            refine e_iload_n (show pAt 174 57 = some (57, .iload_n 3, 1, []) from by decide +kernel) rfl ?_
            refine e_pI (show pAt 174 58 = some (58, .putfield 100, 3, [7, 29, 0, 4152]) from by decide +kernel) (show HS (hpI h18 93 28 p) from hs_h18) (by decide) (Or.inl rfl) ?_
            refine e_aload_n (show pAt 174 61 = some (61, .aload_n 0, 1, []) from by decide +kernel) rfl (ra (by decide)) ?_
            refine e_iload_n (show pAt 174 62 = some (62, .iload_n 1, 1, []) from by decide +kernel) rfl ?_
            refine e_pI (show pAt 174 63 = some (63, .putfield 103, 3, [7, 30, 0, 4153]) from by decide +kernel) (show HS (hpI (hpI h18 93 28 p) 93 29 r19) from hs_h18) (by decide) (Or.inl rfl) ?_
            refine e_aload_n (show pAt 174 66 = some (66, .aload_n 0, 1, []) from by decide +kernel) rfl (ra (by decide)) ?_
            refine e_iload_n (show pAt 174 67 = some (67, .iload_n 2, 1, []) from by decide +kernel) rfl ?_
            refine e_pI (show pAt 174 68 = some (68, .putfield 106, 3, [7, 31, 0, 4154]) from by decide +kernel) (show HS (hpI (hpI (hpI h18 93 28 p) 93 29 r19) 93 30 p) from hs_h18) (by decide) (Or.inl rfl) ?_
            refine e_aload_n (show pAt 174 71 = some (71, .aload_n 0, 1, []) from by decide +kernel) rfl (ra (by decide)) ?_
            refine Ends.call (show pAt 174 72 = some (72, .invokevirtual 333, 3, [157, 1, 0, 0, 6009, 6011, 88]) from by decide +kernel) (isRet_none rfl) rfl (call_this (show HS (hpI (hpI (hpI (hpI h18 93 28 p) 93 29 r19) 93 30 p) 93 31 o) from hs_h18) rfl rfl (by decide)) (Ends.mono vc ?_)
            rintro _ h21 ⟨r22, rfl, hs_h21, vc⟩
            refine e_istore (show pAt 174 75 = some (75, .istore 4, 2, []) from by decide +kernel) ⟨Nat.le_of_ble_eq_true rfl, rfl⟩ rfl ?_
            refine e_aload_n (show pAt 174 77 = some (77, .aload_n 0, 1, []) from by decide +kernel) rfl (ra (by decide)) ?_
            refine e_iconst (c := (-1)) (show pAt 174 78 = some (78, .iconst (-1), 1, []) from by decide +kernel) (by decide) ?_
            refine e_pI (show pAt 174 79 = some (79, .putfield 97, 3, [7, 28, 0, 4151]) from by decide +kernel) (show HS h21 from hs_h21) (by decide) (Or.inl rfl) ?_
            refine e_aload_n (show pAt 174 82 = some (82, .aload_n 0, 1, []) from by decide +kernel) rfl (ra (by decide)) ?_
            refine e_iconst (c := (-1)) (show pAt 174 83 = some (83, .iconst (-1), 1, []) from by decide +kernel) (by decide) ?_
            refine e_pI (show pAt 174 84 = some (84, .putfield 103, 3, [7, 30, 0, 4153]) from by decide +kernel) (show HS (hpI h21 93 28 (-1)) from hs_h21) (by decide) (Or.inl rfl) ?_
            refine e_aload_n (show pAt 174 87 = some (87, .aload_n 0, 1, []) from by decide +kernel) rfl (ra (by decide)) ?_
            refine e_iload (show pAt 174 88 = some (88, .iload 4, 2, []) from by decide +kernel) rfl ?_
            refine e_iload_n (show pAt 174 90 = some (90, .iload_n 1, 1, []) from by decide +kernel) rfl ?_
            refine Ends.call (show pAt 174 91 = some (91, .invokevirtual 274, 3, [110, 3, 0, 0, 5173, 5175, 71]) from by decide +kernel) (isRet_none rfl) rfl (call_this (show HS (hpI (hpI h21 93 28 (-1)) 93 30 (-1)) from hs_h21) rfl rfl (by decide)) (Ends.mono vc ?_)
            rintro _ h24 ⟨r25, rfl, hs_h24, vc⟩
            refine e_if (t := 101) (show pAt 174 94 = some (94, .ifCond .eq 7, 3, []) from by decide +kernel) rfl (fun c27 => ?_) (fun c27 => ?_)
            · replace vc := vc.1 c27
              refine e_iconst (c := 1) (show pAt 174 101 = some (101, .iconst 1, 1, []) from by decide +kernel) (by decide) ?_
              exact e_retI (show pAt 174 102 = some (102, .ireturn, 1, []) from by decide +kernel) rfl vc
            · replace vc := vc.2 c27
              refine e_iconst (c := 0) (show pAt 174 97 = some (97, .iconst 0, 1, []) from by decide +kernel) (by decide) ?_
              refine e_goto (t := 102) (show pAt 174 98 = some (98, .goto 4, 3, []) from by decide +kernel) rfl ?_
              exact e_retI (show pAt 174 102 = some (102, .ireturn, 1, []) from by decide +kernel) rfl vc
          · replace vc := vc.2 c17
            refine e_bipush (c := (-3)) (show pAt 174 42 = some (42, .bipush (-3), 2, []) from by decide +kernel) (by decide) ?_
            exact e_retI (show pAt 174 44 = some (44, .ireturn, 1, []) from by decide +kernel) rfl vc
      · replace vc := vc.2 c9
        refine e_bipush (c := (-2)) (show pAt 174 23 = some (23, .bipush (-2), 2, []) from by decide +kernel) (by decide) ?_
        exact e_retI (show pAt 174 25 = some (25, .ireturn, 1, []) from by decide +kernel) rfl vc
    · replace vc := vc.2 c8
      refine e_iconst (c := (-1)) (show pAt 174 16 = some (16, .iconst (-1), 1, []) from by decide +kernel) (by decide) ?_
      exact e_retI (show pAt 174 17 = some (17, .ireturn, 1, []) from by decide +kernel) rfl vc

theorem w_nr0 {X : Scr} {dp : Nat} {h : Hp} {Q : Option Value → Hp → Prop} (n : Int32) (hs : HS h)
    (vc : Ends X dp 172 4 [.ref 93, .int n, .int (n - 1)] [] h Q) :
    Ends X dp 172 0 [.ref 93, .int n, .retAddr 0] [] h Q := by
  have ra : ∀ {a : Nat}, a < 1000 → a ≤ OLDB := fun h => by have := OLDB_eq; omega
  refine e_iload_n (show pAt 172 0 = some (0, .iload_n 1, 1, []) from by decide +kernel) rfl ?_
  refine e_iconst (c := 1) (show pAt 172 1 = some (1, .iconst 1, 1, []) from by decide +kernel) (by decide) ?_
  refine e_isub (show pAt 172 2 = some (2, .isub, 1, []) from by decide +kernel) ?_
  refine e_istore_n (show pAt 172 3 = some (3, .istore_n 2, 1, []) from by decide +kernel) ⟨Nat.le_of_ble_eq_true rfl, rfl⟩ rfl ?_
  exact vc

theorem w_nr1 {X : Scr} {dp : Nat} {h : Hp} {Q : Option Value → Hp → Prop} (n : Int32) (k : Int32) (hs : HS h)
    (vc : ((condB .lt k 0 = true → Q (some (.int 0)) h) ∧ (condB .lt k 0 = false → (inB k 3 = true ∧ (inB k 3 = true ∧ (inB k 3 = true ∧ ((condB .ge ((hpI h 111 k.toNatClampNeg ((h.2.1 111 k.toNatClampNeg) + 1)).2.1 111 k.toNatClampNeg) 7 = true → (inB k 3 = true ∧ Ends X dp 172 4 [.ref 93, .int n, .int (k + (-1))] [] (hpI (hpI h 111 k.toNatClampNeg ((h.2.1 111 k.toNatClampNeg) + 1)) 111 k.toNatClampNeg 0) Q)) ∧ (condB .ge ((hpI h 111 k.toNatClampNeg ((h.2.1 111 k.toNatClampNeg) + 1)).2.1 111 k.toNatClampNeg) 7 = false → Q (some (.int 1)) (hpI h 111 k.toNatClampNeg ((h.2.1 111 k.toNatClampNeg) + 1)))))))))) :
    Ends X dp 172 4 [.ref 93, .int n, .int k] [] h Q := by
  have ra : ∀ {a : Nat}, a < 1000 → a ≤ OLDB := fun h => by have := OLDB_eq; omega
  refine e_iload_n (show pAt 172 4 = some (4, .iload_n 2, 1, []) from by decide +kernel) rfl ?_
  refine e_if (t := 44) (show pAt 172 5 = some (5, .ifCond .lt 39, 3, []) from by decide +kernel) rfl (fun c1 => ?_) (fun c1 => ?_)
  · replace vc := vc.1 c1
    refine e_iconst (c := 0) (show pAt 172 44 = some (44, .iconst 0, 1, []) from by decide +kernel) (by decide) ?_
    exact e_retZ (show pAt 172 45 = some (45, .ireturn, 1, []) from by decide +kernel) rfl (by decide) vc
  · replace vc := vc.2 c1
    refine e_aload_n (show pAt 172 8 = some (8, .aload_n 0, 1, []) from by decide +kernel) rfl (ra (by decide)) ?_
    refine e_gR (show pAt 172 9 = some (9, .getfield 127, 3, [7, 38, 0, 4161]) from by decide +kernel) (show HS h from hs) rfl (by decide) (hs_ref (show HS h from hs) rfl) ?_
    refine e_iload_n (show pAt 172 12 = some (12, .iload_n 2, 1, []) from by decide +kernel) rfl ?_
    refine e_dup2 (show pAt 172 13 = some (13, .dup2, 1, []) from by decide +kernel) ?_
    obtain ⟨c2, vc⟩ := vc
    refine e_ald (show pAt 172 14 = some (14, .iaload, 1, []) from by decide +kernel) (show HS h from hs) (by decide) c2 ?_
    refine e_iconst (c := 1) (show pAt 172 15 = some (15, .iconst 1, 1, []) from by decide +kernel) (by decide) ?_
    refine e_iadd (show pAt 172 16 = some (16, .iadd, 1, []) from by decide +kernel) ?_
    obtain ⟨c3, vc⟩ := vc
    refine e_ast (show pAt 172 17 = some (17, .iastore, 1, []) from by decide +kernel) (show HS h from hs) (by decide) c3 ?_
    refine e_aload_n (show pAt 172 18 = some (18, .aload_n 0, 1, []) from by decide +kernel) rfl (ra (by decide)) ?_
    refine e_gR (show pAt 172 19 = some (19, .getfield 127, 3, [7, 38, 0, 4161]) from by decide +kernel) (show HS (hpI h 111 k.toNatClampNeg ((h.2.1 111 k.toNatClampNeg) + 1)) from hs) rfl (by decide) (hs_ref (show HS (hpI h 111 k.toNatClampNeg ((h.2.1 111 k.toNatClampNeg) + 1)) from hs) rfl) ?_
    refine e_iload_n (show pAt 172 22 = some (22, .iload_n 2, 1, []) from by decide +kernel) rfl ?_
    obtain ⟨c4, vc⟩ := vc
    refine e_ald (show pAt 172 23 = some (23, .iaload, 1, []) from by decide +kernel) (show HS (hpI h 111 k.toNatClampNeg ((h.2.1 111 k.toNatClampNeg) + 1)) from hs) (by decide) c4 ?_
    refine e_bipush (c := 7) (show pAt 172 24 = some (24, .bipush 7, 2, []) from by decide +kernel) (by decide) ?_
    refine e_icmp (t := 31) (show pAt 172 26 = some (26, .if_icmp .ge 5, 3, []) from by decide +kernel) rfl (fun c5 => ?_) (fun c5 => ?_)
    · replace vc := vc.1 c5
      refine e_aload_n (show pAt 172 31 = some (31, .aload_n 0, 1, []) from by decide +kernel) rfl (ra (by decide)) ?_
      refine e_gR (show pAt 172 32 = some (32, .getfield 127, 3, [7, 38, 0, 4161]) from by decide +kernel) (show HS (hpI h 111 k.toNatClampNeg ((h.2.1 111 k.toNatClampNeg) + 1)) from hs) rfl (by decide) (hs_ref (show HS (hpI h 111 k.toNatClampNeg ((h.2.1 111 k.toNatClampNeg) + 1)) from hs) rfl) ?_
      refine e_iload_n (show pAt 172 35 = some (35, .iload_n 2, 1, []) from by decide +kernel) rfl ?_
      refine e_iconst (c := 0) (show pAt 172 36 = some (36, .iconst 0, 1, []) from by decide +kernel) (by decide) ?_
      obtain ⟨c6, vc⟩ := vc
      refine e_ast (show pAt 172 37 = some (37, .iastore, 1, []) from by decide +kernel) (show HS (hpI h 111 k.toNatClampNeg ((h.2.1 111 k.toNatClampNeg) + 1)) from hs) (by decide) c6 ?_
      refine e_iinc (c := (-1)) (show pAt 172 38 = some (38, .iinc 2 (-1), 3, []) from by decide +kernel) rfl rfl (by decide) rfl ?_
      refine e_goto (t := 4) (show pAt 172 41 = some (41, .goto (-37), 3, []) from by decide +kernel) rfl ?_
      exact vc
    · replace vc := vc.2 c5
      refine e_iconst (c := 1) (show pAt 172 29 = some (29, .iconst 1, 1, []) from by decide +kernel) (by decide) ?_
      exact e_retZ (show pAt 172 30 = some (30, .ireturn, 1, []) from by decide +kernel) rfl (by decide) vc

theorem w_sa0 {X : Scr} {dp : Nat} {h : Hp} {Q : Option Value → Hp → Prop}  (hs : HS h)
    (vc : Ends X dp 171 4 [.ref 93, .int 0, .int 0] [] h Q) :
    Ends X dp 171 0 [.ref 93, .retAddr 0, .retAddr 0] [] h Q := by
  have ra : ∀ {a : Nat}, a < 1000 → a ≤ OLDB := fun h => by have := OLDB_eq; omega
  refine e_iconst (c := 0) (show pAt 171 0 = some (0, .iconst 0, 1, []) from by decide +kernel) (by decide) ?_
  refine e_istore_n (show pAt 171 1 = some (1, .istore_n 1, 1, []) from by decide +kernel) ⟨Nat.le_of_ble_eq_true rfl, rfl⟩ rfl ?_
  refine e_iconst (c := 0) (show pAt 171 2 = some (2, .iconst 0, 1, []) from by decide +kernel) (by decide) ?_
  refine e_istore_n (show pAt 171 3 = some (3, .istore_n 2, 1, []) from by decide +kernel) ⟨Nat.le_of_ble_eq_true rfl, rfl⟩ rfl ?_
  exact vc

theorem w_sa1 {X : Scr} {dp : Nat} {h : Hp} {Q : Option Value → Hp → Prop} (k : Int32) (c : Int32) (hs : HS h)
    (vc : ((condB .ge c (h.2.1 93 0) = true → Q none h) ∧ (condB .ge c (h.2.1 93 0) = false → Ends X dp 139 0 [.ref 93, .int c] [] h (fun rv h2 => ∃ r3, rv = some (.int r3) ∧ HS h2 ∧ ((condB .eq r3 0 = true → (inB k 3 = true ∧ (inB c 7 = true ∧ Ends X (dp + 1) 171 4 [.ref 93, .int (k + 1), .int (c + 1)] [] (hpI h2 96 c.toNatClampNeg (h2.2.1 111 k.toNatClampNeg)) Q))) ∧ (condB .eq r3 0 = false → Ends X (dp + 1) 171 4 [.ref 93, .int k, .int (c + 1)] [] h2 Q)))))) :
    Ends X (dp + 1) 171 4 [.ref 93, .int k, .int c] [] h Q := by
  have ra : ∀ {a : Nat}, a < 1000 → a ≤ OLDB := fun h => by have := OLDB_eq; omega
  refine e_iload_n (show pAt 171 4 = some (4, .iload_n 2, 1, []) from by decide +kernel) rfl ?_
  refine e_aload_n (show pAt 171 5 = some (5, .aload_n 0, 1, []) from by decide +kernel) rfl (ra (by decide)) ?_
  refine e_gI (show pAt 171 6 = some (6, .getfield 7, 3, [7, 0, 0, 4123]) from by decide +kernel) (show HS h from hs) rfl (by decide) ?_
  refine e_icmp (t := 44) (show pAt 171 9 = some (9, .if_icmp .ge 35, 3, []) from by decide +kernel) rfl (fun c1 => ?_) (fun c1 => ?_)
  · replace vc := vc.1 c1
    exact e_retV (show pAt 171 44 = some (44, .return_, 1, []) from by decide +kernel) rfl vc
  · replace vc := vc.2 c1
    refine e_aload_n (show pAt 171 12 = some (12, .aload_n 0, 1, []) from by decide +kernel) rfl (ra (by decide)) ?_
    refine e_iload_n (show pAt 171 13 = some (13, .iload_n 2, 1, []) from by decide +kernel) rfl ?_
    refine Ends.call (show pAt 171 14 = some (14, .invokevirtual 291, 3, [139, 2, 0, 0, 5169, 5171, 70]) from by decide +kernel) (isRet_none rfl) rfl (call_this (show HS h from hs) rfl rfl (by decide)) (Ends.mono vc ?_)
    rintro _ h2 ⟨r3, rfl, hs_h2, vc⟩
    refine e_if (t := 23) (show pAt 171 17 = some (17, .ifCond .eq 6, 3, []) from by decide +kernel) rfl (fun c5 => ?_) (fun c5 => ?_)
    · replace vc := vc.1 c5
      refine e_aload_n (show pAt 171 23 = some (23, .aload_n 0, 1, []) from by decide +kernel) rfl (ra (by decide)) ?_
      refine e_gR (show pAt 171 24 = some (24, .getfield 26, 3, [7, 5, 0, 4128]) from by decide +kernel) (show HS h2 from hs_h2) rfl (by decide) (hs_ref (show HS h2 from hs_h2) rfl) ?_
      refine e_iload_n (show pAt 171 27 = some (27, .iload_n 2, 1, []) from by decide +kernel) rfl ?_
      refine e_aload_n (show pAt 171 28 = some (28, .aload_n 0, 1, []) from by decide +kernel) rfl (ra (by decide)) ?_
      refine e_gR (show pAt 171 29 = some (29, .getfield 127, 3, [7, 38, 0, 4161]) from by decide +kernel) (show HS h2 from hs_h2) rfl (by decide) (hs_ref (show HS h2 from hs_h2) rfl) ?_
      refine e_iload_n (show pAt 171 32 = some (32, .iload_n 1, 1, []) from by decide +kernel) rfl ?_
      obtain ⟨c6, vc⟩ := vc
      refine e_ald (show pAt 171 33 = some (33, .iaload, 1, []) from by decide +kernel) (show HS h2 from hs_h2) (by decide) c6 ?_
      obtain ⟨c7, vc⟩ := vc
      refine e_ast (show pAt 171 34 = some (34, .iastore, 1, []) from by decide +kernel) (show HS h2 from hs_h2) (by decide) c7 ?_
      refine e_iinc (c := 1) (show pAt 171 35 = some (35, .iinc 1 1, 3, []) from by decide +kernel) rfl rfl (by decide) rfl ?_
      refine e_iinc (c := 1) (show pAt 171 38 = some (38, .iinc 2 1, 3, []) from by decide +kernel) rfl rfl (by decide) rfl ?_
      refine e_goto (t := 4) (show pAt 171 41 = some (41, .goto (-37), 3, []) from by decide +kernel) rfl ?_
      exact vc
    · replace vc := vc.2 c5
      refine e_goto (t := 38) (show pAt 171 20 = some (20, .goto 18, 3, []) from by decide +kernel) rfl ?_
      refine e_iinc (c := 1) (show pAt 171 38 = some (38, .iinc 2 1, 3, []) from by decide +kernel) rfl rfl (by decide) rfl ?_
      refine e_goto (t := 4) (show pAt 171 41 = some (41, .goto (-37), 3, []) from by decide +kernel) rfl ?_
      exact vc

theorem w_tp {X : Scr} {dp : Nat} {h : Hp} {Q : Option Value → Hp → Prop} (t : Int32) (hs : HS h)
    (vc : Ends X dp 109 0 [.ref 93, .int t, .int 0, .int 5] [] h (fun rv h1 => ∃ r2, rv = some (.int r2) ∧ HS h1 ∧ (r2 = 0 ∨ r2 = 1) ∧ Q (some (.int r2)) h1)) :
    Ends X (dp + 1) 198 0 [.ref 93, .int t] [] h Q := by
  have ra : ∀ {a : Nat}, a < 1000 → a ≤ OLDB := fun h => by have := OLDB_eq; omega
  refine e_aload_n (show pAt 198 0 = some (0, .aload_n 0, 1, []) from by decide +kernel) rfl (ra (by decide)) ?_
  refine e_iload_n (show pAt 198 1 = some (1, .iload_n 1, 1, []) from by decide +kernel) rfl ?_
  refine e_iconst (c := 0) (show pAt 198 2 = some (2, .iconst 0, 1, []) from by decide +kernel) (by decide) ?_
  refine e_iconst (c := 5) (show pAt 198 3 = some (3, .iconst 5, 1, []) from by decide +kernel) (by decide) ?_
  refine Ends.call (show pAt 198 4 = some (4, .invokevirtual 206, 3, [109, 4, 0, 0, 5081, 5083, 54]) from by decide +kernel) (isRet_none rfl) rfl (call_this (show HS h from hs) rfl rfl (by decide)) (Ends.mono vc ?_)
  rintro _ h1 ⟨r2, rfl, hs_h1, vc⟩
  exact e_retZ (show pAt 198 7 = some (7, .ireturn, 1, []) from by decide +kernel) rfl vc.1 vc.2

theorem w_sh0 {X : Scr} {dp : Nat} {h : Hp} {Q : Option Value → Hp → Prop} (t : Int32) (i : Int32) (o : Int32) (j : Int32) (n : Int32) (hs : HS h)
    (vc : Ends X dp 198 0 [.ref 93, .int t] [] h (fun rv h1 => ∃ r2, rv = some (.int r2) ∧ HS h1 ∧ ((condB .eq r2 0 = true → Q (some (.int (-1))) h1) ∧ (condB .eq r2 0 = false → Ends X dp 198 0 [.ref 93, .int o] [] h1 (fun rv h5 => ∃ r6, rv = some (.int r6) ∧ HS h5 ∧ ((condB .ne r6 0 = true → (inB t 6 = true ∧ ((condB .lt (h5.2.1 123 t.toNatClampNeg) 0 = true → Q (some (.int (-11))) h5) ∧ (condB .lt (h5.2.1 123 t.toNatClampNeg) 0 = false → (inB o 6 = true ∧ ((condB .ge (h5.2.1 123 o.toNatClampNeg) 0 = true → (inB t 6 = true ∧ (inB o 6 = true ∧ ((condB .eq (h5.2.1 123 t.toNatClampNeg) (h5.2.1 123 o.toNatClampNeg) = true → ((condB .lt n 0 = true → Q (some (.int (-13))) h5) ∧ (condB .lt n 0 = false → ((condB .lt i 0 = true → Q (some (.int (-13))) h5) ∧ (condB .lt i 0 = false → ((condB .lt j 0 = true → Q (some (.int (-13))) h5) ∧ (condB .lt j 0 = false → (inB t 6 = true ∧ ((condB .gt i ((h5.2.1 124 t.toNatClampNeg) - n) = true → Q (some (.int (-13))) h5) ∧ (condB .gt i ((h5.2.1 124 t.toNatClampNeg) - n) = false → (inB o 6 = true ∧ ((condB .le j ((h5.2.1 124 o.toNatClampNeg) - n) = true → Ends X (dp + 1) 203 104 [.ref 93, .int t, .int i, .int o, .int j, .int n, .int 0] [] h5 Q) ∧ (condB .le j ((h5.2.1 124 o.toNatClampNeg) - n) = false → Q (some (.int (-13))) h5))))))))))))) ∧ (condB .eq (h5.2.1 123 t.toNatClampNeg) (h5.2.1 123 o.toNatClampNeg) = false → Q (some (.int (-12))) h5))))) ∧ (condB .ge (h5.2.1 123 o.toNatClampNeg) 0 = false → Q (some (.int (-11))) h5))))))) ∧ (condB .ne r6 0 = false → Q (some (.int (-1))) h5))))))) :
    Ends X (dp + 1) 203 0 [.ref 93, .int t, .int i, .int o, .int j, .int n, .retAddr 0] [] h Q := by
  have ra : ∀ {a : Nat}, a < 1000 → a ≤ OLDB := fun h => by have := OLDB_eq; omega
  refine e_aload_n (show pAt 203 0 = some (0, .aload_n 0, 1, []) from by decide +kernel) rfl (ra (by decide)) ?_
  refine e_iload_n (show pAt 203 1 = some (1, .iload_n 1, 1, []) from by decide +kernel) rfl ?_
  refine Ends.call (show pAt 203 2 = some (2, .invokevirtual 366, 3, [198, 2, 0, 0, 6138, 6140, 103]) from by decide +kernel) (isRet_none rfl) rfl (call_this (show HS h from hs) rfl rfl (by decide)) (Ends.mono vc ?_)
  rintro _ h1 ⟨r2, rfl, hs_h1, vc⟩
  refine e_if (t := 16) (show pAt 203 5 = some (5, .ifCond .eq 11, 3, []) from by decide +kernel) rfl (fun c4 => ?_) (fun c4 => ?_)
  · replace vc := vc.1 c4
    refine e_iconst (c := (-1)) (show pAt 203 16 = some (16, .iconst (-1), 1, []) from by decide +kernel) (by decide) ?_
    exact e_retI (show pAt 203 17 = some (17, .ireturn, 1, []) from by decide +kernel) rfl vc
  · replace vc := vc.2 c4
    refine e_aload_n (show pAt 203 8 = some (8, .aload_n 0, 1, []) from by decide +kernel) rfl (ra (by decide)) ?_
    refine e_iload_n (show pAt 203 9 = some (9, .iload_n 3, 1, []) from by decide +kernel) rfl ?_
    refine Ends.call (show pAt 203 10 = some (10, .invokevirtual 366, 3, [198, 2, 0, 0, 6138, 6140, 103]) from by decide +kernel) (isRet_none rfl) rfl (call_this (show HS h1 from hs_h1) rfl rfl (by decide)) (Ends.mono vc ?_)
    rintro _ h5 ⟨r6, rfl, hs_h5, vc⟩
    refine e_if (t := 18) (show pAt 203 13 = some (13, .ifCond .ne 5, 3, []) from by decide +kernel) rfl (fun c8 => ?_) (fun c8 => ?_)
    · replace vc := vc.1 c8
      refine e_aload_n (show pAt 203 18 = some (18, .aload_n 0, 1, []) from by decide +kernel) rfl (ra (by decide)) ?_
      refine e_gR (show pAt 203 19 = some (19, .getfield 193, 3, [7, 60, 0, 4183]) from by decide +kernel) (show HS h5 from hs_h5) rfl (by decide) (hs_ref (show HS h5 from hs_h5) rfl) ?_
      refine e_iload_n (show pAt 203 22 = some (22, .iload_n 1, 1, []) from by decide +kernel) rfl ?_
      obtain ⟨c9, vc⟩ := vc
      refine e_ald (show pAt 203 23 = some (23, .iaload, 1, []) from by decide +kernel) (show HS h5 from hs_h5) (by decide) c9 ?_
      refine e_if (t := 36) (show pAt 203 24 = some (24, .ifCond .lt 12, 3, []) from by decide +kernel) rfl (fun c10 => ?_) (fun c10 => ?_)
      · replace vc := vc.1 c10
        refine e_bipush (c := (-11)) (show pAt 203 36 = some (36, .bipush (-11), 2, []) from by decide +kernel) (by decide) ?_
        exact e_retI (show pAt 203 38 = some (38, .ireturn, 1, []) from by decide +kernel) rfl vc
      · replace vc := vc.2 c10
        refine e_aload_n (show pAt 203 27 = some (27, .aload_n 0, 1, []) from by decide +kernel) rfl (ra (by decide)) ?_
        refine e_gR (show pAt 203 28 = some (28, .getfield 193, 3, [7, 60, 0, 4183]) from by decide +kernel) (show HS h5 from hs_h5) rfl (by decide) (hs_ref (show HS h5 from hs_h5) rfl) ?_
        refine e_iload_n (show pAt 203 31 = some (31, .iload_n 3, 1, []) from by decide +kernel) rfl ?_
        obtain ⟨c11, vc⟩ := vc
        refine e_ald (show pAt 203 32 = some (32, .iaload, 1, []) from by decide +kernel) (show HS h5 from hs_h5) (by decide) c11 ?_
        refine e_if (t := 39) (show pAt 203 33 = some (33, .ifCond .ge 6, 3, []) from by decide +kernel) rfl (fun c12 => ?_) (fun c12 => ?_)
        · replace vc := vc.1 c12
          refine e_aload_n (show pAt 203 39 = some (39, .aload_n 0, 1, []) from by decide +kernel) rfl (ra (by decide)) ?_
          refine e_gR (show pAt 203 40 = some (40, .getfield 193, 3, [7, 60, 0, 4183]) from by decide +kernel) (show HS h5 from hs_h5) rfl (by decide) (hs_ref (show HS h5 from hs_h5) rfl) ?_
          refine e_iload_n (show pAt 203 43 = some (43, .iload_n 1, 1, []) from by decide +kernel) rfl ?_
          obtain ⟨c13, vc⟩ := vc
          refine e_ald (show pAt 203 44 = some (44, .iaload, 1, []) from by decide +kernel) (show HS h5 from hs_h5) (by decide) c13 ?_
          refine e_aload_n (show pAt 203 45 = some (45, .aload_n 0, 1, []) from by decide +kernel) rfl (ra (by decide)) ?_
          refine e_gR (show pAt 203 46 = some (46, .getfield 193, 3, [7, 60, 0, 4183]) from by decide +kernel) (show HS h5 from hs_h5) rfl (by decide) (hs_ref (show HS h5 from hs_h5) rfl) ?_
          refine e_iload_n (show pAt 203 49 = some (49, .iload_n 3, 1, []) from by decide +kernel) rfl ?_
          obtain ⟨c14, vc⟩ := vc
          refine e_ald (show pAt 203 50 = some (50, .iaload, 1, []) from by decide +kernel) (show HS h5 from hs_h5) (by decide) c14 ?_
          refine e_icmp (t := 57) (show pAt 203 51 = some (51, .if_icmp .eq 6, 3, []) from by decide +kernel) rfl (fun c15 => ?_) (fun c15 => ?_)
          · replace vc := vc.1 c15
            refine e_iload (show pAt 203 57 = some (57, .iload 5, 2, []) from by decide +kernel) rfl ?_
            refine e_if (t := 98) (show pAt 203 59 = some (59, .ifCond .lt 39, 3, []) from by decide +kernel) rfl (fun c16 => ?_) (fun c16 => ?_)
            · replace vc := vc.1 c16
              refine e_bipush (c := (-13)) (show pAt 203 98 = some (98, .bipush (-13), 2, []) from by decide +kernel) (by decide) ?_
              exact e_retI (show pAt 203 100 = some (100, .ireturn, 1, []) from by decide +kernel) rfl vc
            · replace vc := vc.2 c16
              refine e_iload_n (show pAt 203 62 = some (62, .iload_n 2, 1, []) from by decide +kernel) rfl ?_
              refine e_if (t := 98) (show pAt 203 63 = some (63, .ifCond .lt 35, 3, []) from by decide +kernel) rfl (fun c17 => ?_) (fun c17 => ?_)
              · replace vc := vc.1 c17
                refine e_bipush (c := (-13)) (show pAt 203 98 = some (98, .bipush (-13), 2, []) from by decide +kernel) (by decide) ?_
                exact e_retI (show pAt 203 100 = some (100, .ireturn, 1, []) from by decide +kernel) rfl vc
              · replace vc := vc.2 c17
                refine e_iload (show pAt 203 66 = some (66, .iload 4, 2, []) from by decide +kernel) rfl ?_
                refine e_if (t := 98) (show pAt 203 68 = some (68, .ifCond .lt 30, 3, []) from by decide +kernel) rfl (fun c18 => ?_) (fun c18 => ?_)
                · replace vc := vc.1 c18
                  refine e_bipush (c := (-13)) (show pAt 203 98 = some (98, .bipush (-13), 2, []) from by decide +kernel) (by decide) ?_
                  exact e_retI (show pAt 203 100 = some (100, .ireturn, 1, []) from by decide +kernel) rfl vc
                · replace vc := vc.2 c18
                  refine e_iload_n (show pAt 203 71 = some (71, .iload_n 2, 1, []) from by decide +kernel) rfl ?_
                  refine e_aload_n (show pAt 203 72 = some (72, .aload_n 0, 1, []) from by decide +kernel) rfl (ra (by decide)) ?_
                  refine e_gR (show pAt 203 73 = some (73, .getfield 196, 3, [7, 61, 0, 4184]) from by decide +kernel) (show HS h5 from hs_h5) rfl (by decide) (hs_ref (show HS h5 from hs_h5) rfl) ?_
                  refine e_iload_n (show pAt 203 76 = some (76, .iload_n 1, 1, []) from by decide +kernel) rfl ?_
                  obtain ⟨c19, vc⟩ := vc
                  refine e_ald (show pAt 203 77 = some (77, .iaload, 1, []) from by decide +kernel) (show HS h5 from hs_h5) (by decide) c19 ?_
                  refine e_iload (show pAt 203 78 = some (78, .iload 5, 2, []) from by decide +kernel) rfl ?_
                  refine e_isub (show pAt 203 80 = some (80, .isub, 1, []) from by decide +kernel) ?_
                  refine e_icmp (t := 98) (show pAt 203 81 = some (81, .if_icmp .gt 17, 3, []) from by decide +kernel) rfl (fun c20 => ?_) (fun c20 => ?_)
                  · replace vc := vc.1 c20
                    refine e_bipush (c := (-13)) (show pAt 203 98 = some (98, .bipush (-13), 2, []) from by decide +kernel) (by decide) ?_
                    exact e_retI (show pAt 203 100 = some (100, .ireturn, 1, []) from by decide +kernel) rfl vc
                  · replace vc := vc.2 c20
                    refine e_iload (show pAt 203 84 = some (84, .iload 4, 2, []) from by decide +kernel) rfl ?_
                    refine e_aload_n (show pAt 203 86 = some (86, .aload_n 0, 1, []) from by decide +kernel) rfl (ra (by decide)) ?_
                    refine e_gR (show pAt 203 87 = some (87, .getfield 196, 3, [7, 61, 0, 4184]) from by decide +kernel) (show HS h5 from hs_h5) rfl (by decide) (hs_ref (show HS h5 from hs_h5) rfl) ?_
                    refine e_iload_n (show pAt 203 90 = some (90, .iload_n 3, 1, []) from by decide +kernel) rfl ?_
                    obtain ⟨c21, vc⟩ := vc
                    refine e_ald (show pAt 203 91 = some (91, .iaload, 1, []) from by decide +kernel) (show HS h5 from hs_h5) (by decide) c21 ?_
                    refine e_iload (show pAt 203 92 = some (92, .iload 5, 2, []) from by decide +kernel) rfl ?_
                    refine e_isub (show pAt 203 94 = some (94, .isub, 1, []) from by decide +kernel) ?_
                    refine e_icmp (t := 101) (show pAt 203 95 = some (95, .if_icmp .le 6, 3, []) from by decide +kernel) rfl (fun c22 => ?_) (fun c22 => ?_)
                    · replace vc := vc.1 c22
                      refine e_iconst (c := 0) (show pAt 203 101 = some (101, .iconst 0, 1, []) from by decide +kernel) (by decide) ?_
                      refine e_istore (show pAt 203 102 = some (102, .istore 6, 2, []) from by decide +kernel) ⟨Nat.le_of_ble_eq_true rfl, rfl⟩ rfl ?_
                      exact vc
                    · replace vc := vc.2 c22
                      refine e_bipush (c := (-13)) (show pAt 203 98 = some (98, .bipush (-13), 2, []) from by decide +kernel) (by decide) ?_
                      exact e_retI (show pAt 203 100 = some (100, .ireturn, 1, []) from by decide +kernel) rfl vc
          · replace vc := vc.2 c15
            refine e_bipush (c := (-12)) (show pAt 203 54 = some (54, .bipush (-12), 2, []) from by decide +kernel) (by decide) ?_
            exact e_retI (show pAt 203 56 = some (56, .ireturn, 1, []) from by decide +kernel) rfl vc
        · replace vc := vc.2 c12
          refine e_bipush (c := (-11)) (show pAt 203 36 = some (36, .bipush (-11), 2, []) from by decide +kernel) (by decide) ?_
          exact e_retI (show pAt 203 38 = some (38, .ireturn, 1, []) from by decide +kernel) rfl vc
    · replace vc := vc.2 c8
      refine e_iconst (c := (-1)) (show pAt 203 16 = some (16, .iconst (-1), 1, []) from by decide +kernel) (by decide) ?_
      exact e_retI (show pAt 203 17 = some (17, .ireturn, 1, []) from by decide +kernel) rfl vc

theorem w_sh1 {X : Scr} {dp : Nat} {h : Hp} {Q : Option Value → Hp → Prop} (t : Int32) (i : Int32) (o : Int32) (j : Int32) (n : Int32) (k : Int32) (hs : HS h)
    (vc : ((condB .ge k n = true → Ends X dp 203 141 [.ref 93, .int t, .int i, .int o, .int j, .int n, .int 0] [] h Q) ∧ (condB .ge k n = false → (inB (((60 * t) + i) + k) 360 = true ∧ (inB k 60 = true ∧ Ends X dp 203 104 [.ref 93, .int t, .int i, .int o, .int j, .int n, .int (k + 1)] [] (hpL h 126 k.toNatClampNeg (h.2.2.1 125 (((60 * t) + i) + k).toNatClampNeg)) Q))))) :
    Ends X dp 203 104 [.ref 93, .int t, .int i, .int o, .int j, .int n, .int k] [] h Q := by
  have ra : ∀ {a : Nat}, a < 1000 → a ≤ OLDB := fun h => by have := OLDB_eq; omega
  refine e_iload (show pAt 203 104 = some (104, .iload 6, 2, []) from by decide +kernel) rfl ?_
  refine e_iload (show pAt 203 106 = some (106, .iload 5, 2, []) from by decide +kernel) rfl ?_
  refine e_icmp (t := 138) (show pAt 203 108 = some (108, .if_icmp .ge 30, 3, []) from by decide +kernel) rfl (fun c1 => ?_) (fun c1 => ?_)
  · replace vc := vc.1 c1
    refine e_iconst (c := 0) (show pAt 203 138 = some (138, .iconst 0, 1, []) from by decide +kernel) (by decide) ?_
    refine e_istore (show pAt 203 139 = some (139, .istore 6, 2, []) from by decide +kernel) ⟨Nat.le_of_ble_eq_true rfl, rfl⟩ rfl ?_
    exact vc
  · replace vc := vc.2 c1
    refine e_aload_n (show pAt 203 111 = some (111, .aload_n 0, 1, []) from by decide +kernel) rfl (ra (by decide)) ?_
    refine e_gR (show pAt 203 112 = some (112, .getfield 203, 3, [7, 63, 0, 4186]) from by decide +kernel) (show HS h from hs) rfl (by decide) (hs_ref (show HS h from hs) rfl) ?_
    refine e_iload (show pAt 203 115 = some (115, .iload 6, 2, []) from by decide +kernel) rfl ?_
    refine e_aload_n (show pAt 203 117 = some (117, .aload_n 0, 1, []) from by decide +kernel) rfl (ra (by decide)) ?_
    refine e_gR (show pAt 203 118 = some (118, .getfield 199, 3, [7, 62, 0, 4185]) from by decide +kernel) (show HS h from hs) rfl (by decide) (hs_ref (show HS h from hs) rfl) ?_
    refine e_bipush (c := 60) (show pAt 203 121 = some (121, .bipush 60, 2, []) from by decide +kernel) (by decide) ?_
    refine e_iload_n (show pAt 203 123 = some (123, .iload_n 1, 1, []) from by decide +kernel) rfl ?_
    refine e_imul (show pAt 203 124 = some (124, .imul, 1, []) from by decide +kernel) ?_
    refine e_iload_n (show pAt 203 125 = some (125, .iload_n 2, 1, []) from by decide +kernel) rfl ?_
    refine e_iadd (show pAt 203 126 = some (126, .iadd, 1, []) from by decide +kernel) ?_
    refine e_iload (show pAt 203 127 = some (127, .iload 6, 2, []) from by decide +kernel) rfl ?_
    refine e_iadd (show pAt 203 129 = some (129, .iadd, 1, []) from by decide +kernel) ?_
    obtain ⟨c2, vc⟩ := vc
    refine e_lald (show pAt 203 130 = some (130, .laload, 1, []) from by decide +kernel) (show HS h from hs) (by decide) c2 ?_
    obtain ⟨c3, vc⟩ := vc
    refine e_last (show pAt 203 131 = some (131, .lastore, 1, []) from by decide +kernel) (show HS h from hs) (by decide) c3 ?_
    refine e_iinc (c := 1) (show pAt 203 132 = some (132, .iinc 6 1, 3, []) from by decide +kernel) rfl rfl (by decide) rfl ?_
    refine e_goto (t := 104) (show pAt 203 135 = some (135, .goto (-31), 3, []) from by decide +kernel) rfl ?_
    exact vc

theorem w_sh2 {X : Scr} {dp : Nat} {h : Hp} {Q : Option Value → Hp → Prop} (t : Int32) (i : Int32) (o : Int32) (j : Int32) (n : Int32) (k : Int32) (hs : HS h)
    (vc : ((condB .ge k n = true → Q (some (.int n)) h) ∧ (condB .ge k n = false → (inB k 60 = true ∧ (inB (((60 * o) + j) + k) 360 = true ∧ Ends X dp 203 141 [.ref 93, .int t, .int i, .int o, .int j, .int n, .int (k + 1)] [] (hpL h 125 (((60 * o) + j) + k).toNatClampNeg (h.2.2.1 126 k.toNatClampNeg)) Q))))) :
    Ends X dp 203 141 [.ref 93, .int t, .int i, .int o, .int j, .int n, .int k] [] h Q := by
  have ra : ∀ {a : Nat}, a < 1000 → a ≤ OLDB := fun h => by have := OLDB_eq; omega
  refine e_iload (show pAt 203 141 = some (141, .iload 6, 2, []) from by decide +kernel) rfl ?_
  refine e_iload (show pAt 203 143 = some (143, .iload 5, 2, []) from by decide +kernel) rfl ?_
  refine e_icmp (t := 176) (show pAt 203 145 = some (145, .if_icmp .ge 31, 3, []) from by decide +kernel) rfl (fun c1 => ?_) (fun c1 => ?_)
  · replace vc := vc.1 c1
    refine e_iload (show pAt 203 176 = some (176, .iload 5, 2, []) from by decide +kernel) rfl ?_
    exact e_retI (show pAt 203 178 = some (178, .ireturn, 1, []) from by decide +kernel) rfl vc
  · replace vc := vc.2 c1
    refine e_aload_n (show pAt 203 148 = some (148, .aload_n 0, 1, []) from by decide +kernel) rfl (ra (by decide)) ?_
    refine e_gR (show pAt 203 149 = some (149, .getfield 199, 3, [7, 62, 0, 4185]) from by decide +kernel) (show HS h from hs) rfl (by decide) (hs_ref (show HS h from hs) rfl) ?_
    refine e_bipush (c := 60) (show pAt 203 152 = some (152, .bipush 60, 2, []) from by decide +kernel) (by decide) ?_
    refine e_iload_n (show pAt 203 154 = some (154, .iload_n 3, 1, []) from by decide +kernel) rfl ?_
    refine e_imul (show pAt 203 155 = some (155, .imul, 1, []) from by decide +kernel) ?_
    refine e_iload (show pAt 203 156 = some (156, .iload 4, 2, []) from by decide +kernel) rfl ?_
    refine e_iadd (show pAt 203 158 = some (158, .iadd, 1, []) from by decide +kernel) ?_
    refine e_iload (show pAt 203 159 = some (159, .iload 6, 2, []) from by decide +kernel) rfl ?_
    refine e_iadd (show pAt 203 161 = some (161, .iadd, 1, []) from by decide +kernel) ?_
    refine e_aload_n (show pAt 203 162 = some (162, .aload_n 0, 1, []) from by decide +kernel) rfl (ra (by decide)) ?_
    refine e_gR (show pAt 203 163 = some (163, .getfield 203, 3, [7, 63, 0, 4186]) from by decide +kernel) (show HS h from hs) rfl (by decide) (hs_ref (show HS h from hs) rfl) ?_
    refine e_iload (show pAt 203 166 = some (166, .iload 6, 2, []) from by decide +kernel) rfl ?_
    obtain ⟨c2, vc⟩ := vc
    refine e_lald (show pAt 203 168 = some (168, .laload, 1, []) from by decide +kernel) (show HS h from hs) (by decide) c2 ?_
    obtain ⟨c3, vc⟩ := vc
    refine e_last (show pAt 203 169 = some (169, .lastore, 1, []) from by decide +kernel) (show HS h from hs) (by decide) c3 ?_
    refine e_iinc (c := 1) (show pAt 203 170 = some (170, .iinc 6 1, 3, []) from by decide +kernel) rfl rfl (by decide) rfl ?_
    refine e_goto (t := 141) (show pAt 203 173 = some (173, .goto (-32), 3, []) from by decide +kernel) rfl ?_
    exact vc

theorem w_cex {X : Scr} {dp : Nat} {h : Hp} {Q : Option Value → Hp → Prop} (t : Int32) (hs : HS h)
    (vc : ((condB .lt t 0 = true → Q (some (.int 0)) h) ∧ (condB .lt t 0 = false → ((condB .ge t 6 = true → Q (some (.int 0)) h) ∧ (condB .ge t 6 = false → Q (some (.int 1)) h))))) :
    Ends X dp 35 0 [.ref 53, .int t] [] h Q := by
  have ra : ∀ {a : Nat}, a < 1000 → a ≤ OLDB := fun h => by have := OLDB_eq; omega
  refine e_iload_n (show pAt 35 0 = some (0, .iload_n 1, 1, []) from by decide +kernel) rfl ?_
  refine e_if (t := 14) (show pAt 35 1 = some (1, .ifCond .lt 13, 3, []) from by decide +kernel) rfl (fun c1 => ?_) (fun c1 => ?_)
  · replace vc := vc.1 c1
    refine e_iconst (c := 0) (show pAt 35 14 = some (14, .iconst 0, 1, []) from by decide +kernel) (by decide) ?_
    exact e_retZ (show pAt 35 15 = some (15, .ireturn, 1, []) from by decide +kernel) rfl (by decide) vc
  · replace vc := vc.2 c1
    refine e_iload_n (show pAt 35 4 = some (4, .iload_n 1, 1, []) from by decide +kernel) rfl ?_
    refine e_bipush (c := 6) (show pAt 35 5 = some (5, .bipush 6, 2, []) from by decide +kernel) (by decide) ?_
    refine e_icmp (t := 14) (show pAt 35 7 = some (7, .if_icmp .ge 7, 3, []) from by decide +kernel) rfl (fun c2 => ?_) (fun c2 => ?_)
    · replace vc := vc.1 c2
      refine e_iconst (c := 0) (show pAt 35 14 = some (14, .iconst 0, 1, []) from by decide +kernel) (by decide) ?_
      exact e_retZ (show pAt 35 15 = some (15, .ireturn, 1, []) from by decide +kernel) rfl (by decide) vc
    · replace vc := vc.2 c2
      refine e_iconst (c := 1) (show pAt 35 10 = some (10, .iconst 1, 1, []) from by decide +kernel) (by decide) ?_
      refine e_goto (t := 15) (show pAt 35 11 = some (11, .goto 4, 3, []) from by decide +kernel) rfl ?_
      exact e_retZ (show pAt 35 15 = some (15, .ireturn, 1, []) from by decide +kernel) rfl (by decide) vc

theorem w_cpt {X : Scr} {dp : Nat} {h : Hp} {Q : Option Value → Hp → Prop} (t : Int32) (f : Int32) (n : Int32) (hs : HS h)
    (vc : Ends X dp 35 0 [.ref 53, .int t] [] h (fun rv h1 => ∃ r2, rv = some (.int r2) ∧ HS h1 ∧ ((condB .eq r2 0 = true → Q (some (.int 0)) h1) ∧ (condB .eq r2 0 = false → ((condB .lt f 0 = true → Q (some (.int 0)) h1) ∧ (condB .lt f 0 = false → ((condB .lt n 0 = true → Q (some (.int 0)) h1) ∧ (condB .lt n 0 = false → (inB t 6 = true ∧ ((condB .gt (lg_cmp ((f.toInt64) + (n.toInt64)) ((h1.2.1 55 t.toNatClampNeg).toInt64)) 0 = true → Q (some (.int 0)) h1) ∧ (condB .gt (lg_cmp ((f.toInt64) + (n.toInt64)) ((h1.2.1 55 t.toNatClampNeg).toInt64)) 0 = false → Q (some (.int 1)) h1))))))))))) :
    Ends X (dp + 1) 37 0 [.ref 53, .int t, .int f, .int n] [] h Q := by
  have ra : ∀ {a : Nat}, a < 1000 → a ≤ OLDB := fun h => by have := OLDB_eq; omega
  refine e_aload_n (show pAt 37 0 = some (0, .aload_n 0, 1, []) from by decide +kernel) rfl (ra (by decide)) ?_
  refine e_iload_n (show pAt 37 1 = some (1, .iload_n 1, 1, []) from by decide +kernel) rfl ?_
  refine Ends.call (show pAt 37 2 = some (2, .invokevirtual 27, 3, [35, 2, 0, 0, 4042, 4036, 48]) from by decide +kernel) (isRet_none rfl) rfl (call_this (show HS h from hs) rfl rfl (by decide)) (Ends.mono vc ?_)
  rintro _ h1 ⟨r2, rfl, hs_h1, vc⟩
  refine e_if (t := 36) (show pAt 37 5 = some (5, .ifCond .eq 31, 3, []) from by decide +kernel) rfl (fun c4 => ?_) (fun c4 => ?_)
  · replace vc := vc.1 c4
    refine e_iconst (c := 0) (show pAt 37 36 = some (36, .iconst 0, 1, []) from by decide +kernel) (by decide) ?_
    exact e_retZ (show pAt 37 37 = some (37, .ireturn, 1, []) from by decide +kernel) rfl (by decide) vc
  · replace vc := vc.2 c4
    refine e_iload_n (show pAt 37 8 = some (8, .iload_n 2, 1, []) from by decide +kernel) rfl ?_
    refine e_if (t := 36) (show pAt 37 9 = some (9, .ifCond .lt 27, 3, []) from by decide +kernel) rfl (fun c5 => ?_) (fun c5 => ?_)
    · replace vc := vc.1 c5
      refine e_iconst (c := 0) (show pAt 37 36 = some (36, .iconst 0, 1, []) from by decide +kernel) (by decide) ?_
      exact e_retZ (show pAt 37 37 = some (37, .ireturn, 1, []) from by decide +kernel) rfl (by decide) vc
    · replace vc := vc.2 c5
      refine e_iload_n (show pAt 37 12 = some (12, .iload_n 3, 1, []) from by decide +kernel) rfl ?_
      refine e_if (t := 36) (show pAt 37 13 = some (13, .ifCond .lt 23, 3, []) from by decide +kernel) rfl (fun c6 => ?_) (fun c6 => ?_)
      · replace vc := vc.1 c6
        refine e_iconst (c := 0) (show pAt 37 36 = some (36, .iconst 0, 1, []) from by decide +kernel) (by decide) ?_
        exact e_retZ (show pAt 37 37 = some (37, .ireturn, 1, []) from by decide +kernel) rfl (by decide) vc
      · replace vc := vc.2 c6
        refine e_iload_n (show pAt 37 16 = some (16, .iload_n 2, 1, []) from by decide +kernel) rfl ?_
        refine e_i2l (show pAt 37 17 = some (17, .i2l, 1, []) from by decide +kernel) ?_
        refine e_iload_n (show pAt 37 18 = some (18, .iload_n 3, 1, []) from by decide +kernel) rfl ?_
        refine e_i2l (show pAt 37 19 = some (19, .i2l, 1, []) from by decide +kernel) ?_
        refine e_ladd (show pAt 37 20 = some (20, .ladd, 1, []) from by decide +kernel) ?_
        refine e_aload_n (show pAt 37 21 = some (21, .aload_n 0, 1, []) from by decide +kernel) rfl (ra (by decide)) ?_
        refine e_gR (show pAt 37 22 = some (22, .getfield 13, 3, [3, 1, 0, 2011]) from by decide +kernel) (show HS h1 from hs_h1) rfl (by decide) (hs_ref (show HS h1 from hs_h1) rfl) ?_
        refine e_iload_n (show pAt 37 25 = some (25, .iload_n 1, 1, []) from by decide +kernel) rfl ?_
        obtain ⟨c7, vc⟩ := vc
        refine e_ald (show pAt 37 26 = some (26, .iaload, 1, []) from by decide +kernel) (show HS h1 from hs_h1) (by decide) c7 ?_
        refine e_i2l (show pAt 37 27 = some (27, .i2l, 1, []) from by decide +kernel) ?_
        refine e_lcmp (show pAt 37 28 = some (28, .lcmp, 1, []) from by decide +kernel) ?_
        refine e_if (t := 36) (show pAt 37 29 = some (29, .ifCond .gt 7, 3, []) from by decide +kernel) rfl (fun c8 => ?_) (fun c8 => ?_)
        · replace vc := vc.1 c8
          refine e_iconst (c := 0) (show pAt 37 36 = some (36, .iconst 0, 1, []) from by decide +kernel) (by decide) ?_
          exact e_retZ (show pAt 37 37 = some (37, .ireturn, 1, []) from by decide +kernel) rfl (by decide) vc
        · replace vc := vc.2 c8
          refine e_iconst (c := 1) (show pAt 37 32 = some (32, .iconst 1, 1, []) from by decide +kernel) (by decide) ?_
          refine e_goto (t := 37) (show pAt 37 33 = some (33, .goto 4, 3, []) from by decide +kernel) rfl ?_
          exact e_retZ (show pAt 37 37 = some (37, .ireturn, 1, []) from by decide +kernel) rfl (by decide) vc

theorem w_csh {X : Scr} {dp : Nat} {h : Hp} {Q : Option Value → Hp → Prop} (t : Int32) (i : Int32) (o : Int32) (j : Int32) (n : Int32) (hs : HS h)
    (vc : Ends X dp 35 0 [.ref 53, .int t] [] h (fun rv h1 => ∃ r2, rv = some (.int r2) ∧ HS h1 ∧ ((condB .eq r2 0 = true → Q (some (.int (-1))) h1) ∧ (condB .eq r2 0 = false → Ends X dp 35 0 [.ref 53, .int o] [] h1 (fun rv h5 => ∃ r6, rv = some (.int r6) ∧ HS h5 ∧ ((condB .ne r6 0 = true → (inB t 6 = true ∧ ((condB .eq (h5.2.1 54 t.toNatClampNeg) (-1) = true → Q (some (.int (-11))) h5) ∧ (condB .eq (h5.2.1 54 t.toNatClampNeg) (-1) = false → (inB o 6 = true ∧ ((condB .ne (h5.2.1 54 o.toNatClampNeg) (-1) = true → (inB t 6 = true ∧ (inB o 6 = true ∧ ((condB .eq (h5.2.1 54 t.toNatClampNeg) (h5.2.1 54 o.toNatClampNeg) = true → Ends X dp 37 0 [.ref 53, .int t, .int i, .int n] [] h5 (fun rv h16 => ∃ r17, rv = some (.int r17) ∧ HS h16 ∧ ((condB .eq r17 0 = true → Q (some (.int (-13))) h16) ∧ (condB .eq r17 0 = false → Ends X dp 37 0 [.ref 53, .int o, .int j, .int n] [] h16 (fun rv h20 => ∃ r21, rv = some (.int r21) ∧ HS h20 ∧ ((condB .ne r21 0 = true → Ends X (dp + 1) 98 109 [.ref 0, .int t, .int i, .int o, .int j, .int n] [] h20 Q) ∧ (condB .ne r21 0 = false → Q (some (.int (-13))) h20))))))) ∧ (condB .eq (h5.2.1 54 t.toNatClampNeg) (h5.2.1 54 o.toNatClampNeg) = false → Q (some (.int (-12))) h5))))) ∧ (condB .ne (h5.2.1 54 o.toNatClampNeg) (-1) = false → Q (some (.int (-11))) h5))))))) ∧ (condB .ne r6 0 = false → Q (some (.int (-1))) h5))))))) :
    Ends X (dp + 1) 98 0 [.ref 0, .int t, .int i, .int o, .int j, .int n] [] h Q := by
  have ra : ∀ {a : Nat}, a < 1000 → a ≤ OLDB := fun h => by have := OLDB_eq; omega
  refine e_aload_n (show pAt 98 0 = some (0, .aload_n 0, 1, []) from by decide +kernel) rfl (ra (by decide)) ?_
  refine e_gR (show pAt 98 1 = some (1, .getfield 56, 3, [6, 9, 0, 2031]) from by decide +kernel) (show HS h from hs) rfl (by decide) (hs_ref (show HS h from hs) rfl) ?_
  refine e_iload_n (show pAt 98 4 = some (4, .iload_n 1, 1, []) from by decide +kernel) rfl ?_
  refine Ends.call (show pAt 98 5 = some (5, .invokevirtual 194, 3, [35, 2, 0, 1, 4034, 4036, 48]) from by decide +kernel) (isRet_none rfl) rfl (call_this (show HS h from hs) rfl rfl (by decide)) (Ends.mono vc ?_)
  rintro _ h1 ⟨r2, rfl, hs_h1, vc⟩
  refine e_if (t := 22) (show pAt 98 8 = some (8, .ifCond .eq 14, 3, []) from by decide +kernel) rfl (fun c4 => ?_) (fun c4 => ?_)
  · replace vc := vc.1 c4
    refine e_iconst (c := (-1)) (show pAt 98 22 = some (22, .iconst (-1), 1, []) from by decide +kernel) (by decide) ?_
    exact e_retI (show pAt 98 23 = some (23, .ireturn, 1, []) from by decide +kernel) rfl vc
  · replace vc := vc.2 c4
    refine e_aload_n (show pAt 98 11 = some (11, .aload_n 0, 1, []) from by decide +kernel) rfl (ra (by decide)) ?_
    refine e_gR (show pAt 98 12 = some (12, .getfield 56, 3, [6, 9, 0, 2031]) from by decide +kernel) (show HS h1 from hs_h1) rfl (by decide) (hs_ref (show HS h1 from hs_h1) rfl) ?_
    refine e_iload_n (show pAt 98 15 = some (15, .iload_n 3, 1, []) from by decide +kernel) rfl ?_
    refine Ends.call (show pAt 98 16 = some (16, .invokevirtual 194, 3, [35, 2, 0, 1, 4034, 4036, 48]) from by decide +kernel) (isRet_none rfl) rfl (call_this (show HS h1 from hs_h1) rfl rfl (by decide)) (Ends.mono vc ?_)
    rintro _ h5 ⟨r6, rfl, hs_h5, vc⟩
    refine e_if (t := 24) (show pAt 98 19 = some (19, .ifCond .ne 5, 3, []) from by decide +kernel) rfl (fun c8 => ?_) (fun c8 => ?_)
    · replace vc := vc.1 c8
      refine e_aload_n (show pAt 98 24 = some (24, .aload_n 0, 1, []) from by decide +kernel) rfl (ra (by decide)) ?_
      refine e_gR (show pAt 98 25 = some (25, .getfield 56, 3, [6, 9, 0, 2031]) from by decide +kernel) (show HS h5 from hs_h5) rfl (by decide) (hs_ref (show HS h5 from hs_h5) rfl) ?_
      refine e_gR (show pAt 98 28 = some (28, .getfield 197, 3, [3, 0, 1, 2010]) from by decide +kernel) (show HS h5 from hs_h5) rfl (by decide) (hs_ref (show HS h5 from hs_h5) rfl) ?_
      refine e_iload_n (show pAt 98 31 = some (31, .iload_n 1, 1, []) from by decide +kernel) rfl ?_
      obtain ⟨c9, vc⟩ := vc
      refine e_ald (show pAt 98 32 = some (32, .iaload, 1, []) from by decide +kernel) (show HS h5 from hs_h5) (by decide) c9 ?_
      refine e_iconst (c := (-1)) (show pAt 98 33 = some (33, .iconst (-1), 1, []) from by decide +kernel) (by decide) ?_
      refine e_icmp (t := 50) (show pAt 98 34 = some (34, .if_icmp .eq 16, 3, []) from by decide +kernel) rfl (fun c10 => ?_) (fun c10 => ?_)
      · replace vc := vc.1 c10
        refine e_bipush (c := (-11)) (show pAt 98 50 = some (50, .bipush (-11), 2, []) from by decide +kernel) (by decide) ?_
        exact e_retI (show pAt 98 52 = some (52, .ireturn, 1, []) from by decide +kernel) rfl vc
      · replace vc := vc.2 c10
        refine e_aload_n (show pAt 98 37 = some (37, .aload_n 0, 1, []) from by decide +kernel) rfl (ra (by decide)) ?_
        refine e_gR (show pAt 98 38 = some (38, .getfield 56, 3, [6, 9, 0, 2031]) from by decide +kernel) (show HS h5 from hs_h5) rfl (by decide) (hs_ref (show HS h5 from hs_h5) rfl) ?_
        refine e_gR (show pAt 98 41 = some (41, .getfield 197, 3, [3, 0, 1, 2010]) from by decide +kernel) (show HS h5 from hs_h5) rfl (by decide) (hs_ref (show HS h5 from hs_h5) rfl) ?_
        refine e_iload_n (show pAt 98 44 = some (44, .iload_n 3, 1, []) from by decide +kernel) rfl ?_
        obtain ⟨c11, vc⟩ := vc
        refine e_ald (show pAt 98 45 = some (45, .iaload, 1, []) from by decide +kernel) (show HS h5 from hs_h5) (by decide) c11 ?_
        refine e_iconst (c := (-1)) (show pAt 98 46 = some (46, .iconst (-1), 1, []) from by decide +kernel) (by decide) ?_
        refine e_icmp (t := 53) (show pAt 98 47 = some (47, .if_icmp .ne 6, 3, []) from by decide +kernel) rfl (fun c12 => ?_) (fun c12 => ?_)
        · replace vc := vc.1 c12
          refine e_aload_n (show pAt 98 53 = some (53, .aload_n 0, 1, []) from by decide +kernel) rfl (ra (by decide)) ?_
          refine e_gR (show pAt 98 54 = some (54, .getfield 56, 3, [6, 9, 0, 2031]) from by decide +kernel) (show HS h5 from hs_h5) rfl (by decide) (hs_ref (show HS h5 from hs_h5) rfl) ?_
          refine e_gR (show pAt 98 57 = some (57, .getfield 197, 3, [3, 0, 1, 2010]) from by decide +kernel) (show HS h5 from hs_h5) rfl (by decide) (hs_ref (show HS h5 from hs_h5) rfl) ?_
          refine e_iload_n (show pAt 98 60 = some (60, .iload_n 1, 1, []) from by decide +kernel) rfl ?_
          obtain ⟨c13, vc⟩ := vc
          refine e_ald (show pAt 98 61 = some (61, .iaload, 1, []) from by decide +kernel) (show HS h5 from hs_h5) (by decide) c13 ?_
          refine e_aload_n (show pAt 98 62 = some (62, .aload_n 0, 1, []) from by decide +kernel) rfl (ra (by decide)) ?_
          refine e_gR (show pAt 98 63 = some (63, .getfield 56, 3, [6, 9, 0, 2031]) from by decide +kernel) (show HS h5 from hs_h5) rfl (by decide) (hs_ref (show HS h5 from hs_h5) rfl) ?_
          refine e_gR (show pAt 98 66 = some (66, .getfield 197, 3, [3, 0, 1, 2010]) from by decide +kernel) (show HS h5 from hs_h5) rfl (by decide) (hs_ref (show HS h5 from hs_h5) rfl) ?_
          refine e_iload_n (show pAt 98 69 = some (69, .iload_n 3, 1, []) from by decide +kernel) rfl ?_
          obtain ⟨c14, vc⟩ := vc
          refine e_ald (show pAt 98 70 = some (70, .iaload, 1, []) from by decide +kernel) (show HS h5 from hs_h5) (by decide) c14 ?_
          refine e_icmp (t := 77) (show pAt 98 71 = some (71, .if_icmp .eq 6, 3, []) from by decide +kernel) rfl (fun c15 => ?_) (fun c15 => ?_)
          · replace vc := vc.1 c15
            refine e_aload_n (show pAt 98 77 = some (77, .aload_n 0, 1, []) from by decide +kernel) rfl (ra (by decide)) ?_
            refine e_gR (show pAt 98 78 = some (78, .getfield 56, 3, [6, 9, 0, 2031]) from by decide +kernel) (show HS h5 from hs_h5) rfl (by decide) (hs_ref (show HS h5 from hs_h5) rfl) ?_
            refine e_iload_n (show pAt 98 81 = some (81, .iload_n 1, 1, []) from by decide +kernel) rfl ?_
            refine e_iload_n (show pAt 98 82 = some (82, .iload_n 2, 1, []) from by decide +kernel) rfl ?_
            refine e_iload (show pAt 98 83 = some (83, .iload 5, 2, []) from by decide +kernel) rfl ?_
            refine Ends.call (show pAt 98 85 = some (85, .invokevirtual 243, 3, [37, 4, 0, 1, 4112, 4114, 53]) from by decide +kernel) (isRet_none rfl) rfl (call_this (show HS h5 from hs_h5) rfl rfl (by decide)) (Ends.mono vc ?_)
            rintro _ h16 ⟨r17, rfl, hs_h16, vc⟩
            refine e_if (t := 106) (show pAt 98 88 = some (88, .ifCond .eq 18, 3, []) from by decide +kernel) rfl (fun c19 => ?_) (fun c19 => ?_)
            · replace vc := vc.1 c19
              refine e_bipush (c := (-13)) (show pAt 98 106 = some (106, .bipush (-13), 2, []) from by decide +kernel) (by decide) ?_
              exact e_retI (show pAt 98 108 = some (108, .ireturn, 1, []) from by decide +kernel) rfl vc
            · replace vc := vc.2 c19
              refine e_aload_n (show pAt 98 91 = some (91, .aload_n 0, 1, []) from by decide +kernel) rfl (ra (by decide)) ?_
              refine e_gR (show pAt 98 92 = some (92, .getfield 56, 3, [6, 9, 0, 2031]) from by decide +kernel) (show HS h16 from hs_h16) rfl (by decide) (hs_ref (show HS h16 from hs_h16) rfl) ?_
              refine e_iload_n (show pAt 98 95 = some (95, .iload_n 3, 1, []) from by decide +kernel) rfl ?_
              refine e_iload (show pAt 98 96 = some (96, .iload 4, 2, []) from by decide +kernel) rfl ?_
              refine e_iload (show pAt 98 98 = some (98, .iload 5, 2, []) from by decide +kernel) rfl ?_
              refine Ends.call (show pAt 98 100 = some (100, .invokevirtual 243, 3, [37, 4, 0, 1, 4112, 4114, 53]) from by decide +kernel) (isRet_none rfl) rfl (call_this (show HS h16 from hs_h16) rfl rfl (by decide)) (Ends.mono vc ?_)
              rintro _ h20 ⟨r21, rfl, hs_h20, vc⟩
              refine e_if (t := 109) (show pAt 98 103 = some (103, .ifCond .ne 6, 3, []) from by decide +kernel) rfl (fun c23 => ?_) (fun c23 => ?_)
              · replace vc := vc.1 c23
                exact vc
              · replace vc := vc.2 c23
                refine e_bipush (c := (-13)) (show pAt 98 106 = some (106, .bipush (-13), 2, []) from by decide +kernel) (by decide) ?_
                exact e_retI (show pAt 98 108 = some (108, .ireturn, 1, []) from by decide +kernel) rfl vc
          · replace vc := vc.2 c15
            refine e_bipush (c := (-12)) (show pAt 98 74 = some (74, .bipush (-12), 2, []) from by decide +kernel) (by decide) ?_
            exact e_retI (show pAt 98 76 = some (76, .ireturn, 1, []) from by decide +kernel) rfl vc
        · replace vc := vc.2 c12
          refine e_bipush (c := (-11)) (show pAt 98 50 = some (50, .bipush (-11), 2, []) from by decide +kernel) (by decide) ?_
          exact e_retI (show pAt 98 52 = some (52, .ireturn, 1, []) from by decide +kernel) rfl vc
    · replace vc := vc.2 c8
      refine e_iconst (c := (-1)) (show pAt 98 22 = some (22, .iconst (-1), 1, []) from by decide +kernel) (by decide) ?_
      exact e_retI (show pAt 98 23 = some (23, .ireturn, 1, []) from by decide +kernel) rfl vc
