section JN70more
/-! What is owed for behind, spread, shift of the reference, shift of the class. -/
theorem w_bh {X : Scr} {dp : Nat} {h : Hp} {Q : Option Value → Hp → Prop} (p : Int32) (o : Int32) (hs : HS h)
    (vc : Ends X dp 112 0 [.ref 93, .int p] [] h (fun rv h1 => ∃ r2, rv = some (.int r2) ∧ HS h1 ∧ ((condB .eq r2 0 = true → Q (some (.int (-1))) h1) ∧ (condB .eq r2 0 = false → Ends X dp 112 0 [.ref 93, .int o] [] h1 (fun rv h5 => ∃ r6, rv = some (.int r6) ∧ HS h5 ∧ ((condB .ne r6 0 = true → ((condB .ne p o = true → Ends X dp 139 0 [.ref 93, .int p] [] h5 (fun rv h10 => ∃ r11, rv = some (.int r11) ∧ HS h10 ∧ ((condB .eq r11 0 = true → Q (some (.int (-3))) h10) ∧ (condB .eq r11 0 = false → Ends X dp 139 0 [.ref 93, .int o] [] h10 (fun rv h14 => ∃ r15, rv = some (.int r15) ∧ HS h14 ∧ ((condB .ne r15 0 = true → Ends X dp 147 0 [.ref 93, .int o] [] h14 (fun rv h18 => ∃ r19, rv = some (.int r19) ∧ HS h18 ∧ Ends X dp 157 0 [.ref 93, .retAddr 0, .retAddr 0, .retAddr 0, .retAddr 0, .retAddr 0] [] (hpI (hpI (hpI (hpI h18 93 28 p) 93 29 r19) 93 30 p) 93 31 o) (fun rv h21 => ∃ r22, rv = some (.int r22) ∧ HS h21 ∧ Ends X dp 110 0 [.ref 93, .int r22, .int p] [] (hpI (hpI h21 93 28 (-1)) 93 30 (-1)) (fun rv h24 => ∃ r25, rv = some (.int r25) ∧ HS h24 ∧ ((condB .eq r25 0 = true → Q (some (.int 1)) h24) ∧ (condB .eq r25 0 = false → Q (some (.int 0)) h24)))))) ∧ (condB .ne r15 0 = false → Q (some (.int (-3))) h14))))))) ∧ (condB .ne p o = false → Q (some (.int (-2))) h5))) ∧ (condB .ne r6 0 = false → Q (some (.int (-1))) h5))))))) :
    Ends X (dp + 1) 174 0 [.ref 93, .int p, .int o, .retAddr 0, .retAddr 0] [] h Q := by
  have ra : ∀ {a : Nat}, a < 1000 → a ≤ OLDB := fun h => by have := OLDB_eq; omega
  refine e_aload_n (show pAt 174 0 = some (0, .aload_n 0, 1, []) from by decide +kernel) rfl (ra (by decide)) ?_
  refine e_iload_n (show pAt 174 1 = some (1, .iload_n 1, 1, []) from by decide +kernel) rfl ?_
  refine Ends.call (show pAt 174 2 = some (2, .invokevirtual 210, 3, [112, 2, 0, 0, 5089, 5091, 55]) from by decide +kernel) (isRet_none rfl) rfl (call_this (show HS h from hs) rfl rfl (by decide)) (Ends.mono vc ?_)
  rintro _ h1 ⟨r2, rfl, hs_h1, vc⟩
  refine e_if (t := 16) (show pAt 174 5 = some (5, .ifCond .eq 11, 3, []) from by decide +kernel) rfl (fun c4 => ?_) (fun c4 => ?_)
  · replace vc := vc.1 c4
    refine e_iconst (c := (-1)) (show pAt 174 16 = some (16, .iconst (-1), 1, []) from by decide +kernel) (by decide) ?_
    exact e_retI (show pAt 174 17 = some (17, .ireturn, 1, []) from by decide +kernel) rfl vc
  · replace vc := vc.2 c4
    refine e_aload_n (show pAt 174 8 = some (8, .aload_n 0, 1, []) from by decide +kernel) rfl (ra (by decide)) ?_
    refine e_iload_n (show pAt 174 9 = some (9, .iload_n 2, 1, []) from by decide +kernel) rfl ?_
    refine Ends.call (show pAt 174 10 = some (10, .invokevirtual 210, 3, [112, 2, 0, 0, 5089, 5091, 55]) from by decide +kernel) (isRet_none rfl) rfl (call_this (show HS h1 from hs_h1) rfl rfl (by decide)) (Ends.mono vc ?_)
    rintro _ h5 ⟨r6, rfl, hs_h5, vc⟩
    refine e_if (t := 18) (show pAt 174 13 = some (13, .ifCond .ne 5, 3, []) from by decide +kernel) rfl (fun c8 => ?_) (fun c8 => ?_)
    · replace vc := vc.1 c8
      refine e_iload_n (show pAt 174 18 = some (18, .iload_n 1, 1, []) from by decide +kernel) rfl ?_
      refine e_iload_n (show pAt 174 19 = some (19, .iload_n 2, 1, []) from by decide +kernel) rfl ?_
      refine e_icmp (t := 26) (show pAt 174 20 = some (20, .if_icmp .ne 6, 3, []) from by decide +kernel) rfl (fun c9 => ?_) (fun c9 => ?_)
      · replace vc := vc.1 c9
        refine e_aload_n (show pAt 174 26 = some (26, .aload_n 0, 1, []) from by decide +kernel) rfl (ra (by decide)) ?_
        refine e_iload_n (show pAt 174 27 = some (27, .iload_n 1, 1, []) from by decide +kernel) rfl ?_
        refine Ends.call (show pAt 174 28 = some (28, .invokevirtual 291, 3, [139, 2, 0, 0, 5169, 5171, 70]) from by decide +kernel) (isRet_none rfl) rfl (call_this (show HS h5 from hs_h5) rfl rfl (by decide)) (Ends.mono vc ?_)
        rintro _ h10 ⟨r11, rfl, hs_h10, vc⟩
        refine e_if (t := 42) (show pAt 174 31 = some (31, .ifCond .eq 11, 3, []) from by decide +kernel) rfl (fun c13 => ?_) (fun c13 => ?_)
        · replace vc := vc.1 c13
          refine e_bipush (c := (-3)) (show pAt 174 42 = some (42, .bipush (-3), 2, []) from by decide +kernel) (by decide) ?_
          exact e_retI (show pAt 174 44 = some (44, .ireturn, 1, []) from by decide +kernel) rfl vc
        · replace vc := vc.2 c13
          refine e_aload_n (show pAt 174 34 = some (34, .aload_n 0, 1, []) from by decide +kernel) rfl (ra (by decide)) ?_
          refine e_iload_n (show pAt 174 35 = some (35, .iload_n 2, 1, []) from by decide +kernel) rfl ?_
          refine Ends.call (show pAt 174 36 = some (36, .invokevirtual 291, 3, [139, 2, 0, 0, 5169, 5171, 70]) from by decide +kernel) (isRet_none rfl) rfl (call_this (show HS h10 from hs_h10) rfl rfl (by decide)) (Ends.mono vc ?_)
          rintro _ h14 ⟨r15, rfl, hs_h14, vc⟩
          refine e_if (t := 45) (show pAt 174 39 = some (39, .ifCond .ne 6, 3, []) from by decide +kernel) rfl (fun c17 => ?_) (fun c17 => ?_)
          · replace vc := vc.1 c17
            refine e_aload_n (show pAt 174 45 = some (45, .aload_n 0, 1, []) from by decide +kernel) rfl (ra (by decide)) ?_
            refine e_iload_n (show pAt 174 46 = some (46, .iload_n 2, 1, []) from by decide +kernel) rfl ?_
            refine Ends.call (show pAt 174 47 = some (47, .invokevirtual 303, 3, [147, 2, 0, 0, 5177, 5179, 72]) from by decide +kernel) (isRet_none rfl) rfl (call_this (show HS h14 from hs_h14) rfl rfl (by decide)) (Ends.mono vc ?_)
            rintro _ h18 ⟨r19, rfl, hs_h18, vc⟩
            refine e_istore_n (show pAt 174 50 = some (50, .istore_n 3, 1, []) from by decide +kernel) ⟨Nat.le_of_ble_eq_true rfl, rfl⟩ rfl ?_
            refine e_aload_n (show pAt 174 51 = some (51, .aload_n 0, 1, []) from by decide +kernel) rfl (ra (by decide)) ?_
            refine e_iload_n (show pAt 174 52 = some (52, .iload_n 1, 1, []) from by decide +kernel) rfl ?_
            refine e_pI (show pAt 174 53 = some (53, .putfield 97, 3, [7, 28, 0, 4151]) from by decide +kernel) (show HS h18 from hs_h18) (by decide) (Or.inl rfl) ?_
            refine e_aload_n (show pAt 174 56 = some (56, .aload_n 0, 1, []) from by decide +kernel) rfl (ra (by decide)) ?_
            refine e_iload_n (show pAt 174 57 = some (57, .iload_n 3, 1, []) from by decide +kernel) rfl ?_
            refine e_pI (show pAt 174 58 = some (58, .putfield 100, 3, [7, 29, 0, 4152]) from by decide +kernel) (show HS (hpI h18 93 28 p) from hs_h18) (by decide) (Or.inl rfl) ?_
            refine e_aload_n (show pAt 174 61 = some (61, .aload_n 0, 1, []) from by decide +kernel) rfl (ra (by decide)) ?_
            refine e_iload_n (show pAt 174 62 = some (62, .iload_n 1, 1, []) from by decide +kernel) rfl ?_
            refine e_pI (show pAt 174 63 = some (63, .putfield 103, 3, [7, 30, 0, 4153]) from by decide +kernel) (show HS (hpI (hpI h18 93 28 p) 93 29 r19) from hs_h18) (by decide) (Or.inl rfl) ?_
            refine e_aload_n (show pAt 174 66 = some (66, .aload_n 0, 1, []) from by decide +kernel) rfl (ra (by decide)) ?_
            refine e_iload_n (show pAt 174 67 = some (67, .iload_n 2, 1, []) from by decide +kernel) rfl ?_
            refine e_pI (show pAt 174 68 = some (68, .putfield 106, 3, [7, 31, 0, 4154]) from by decide +kernel) (show HS (hpI (hpI (hpI h18 93 28 p) 93 29 r19) 93 30 p) from hs_h18) (by decide) (Or.inl rfl) ?_
            refine e_aload_n (show pAt 174 71 = some (71, .aload_n 0, 1, []) from by decide +kernel) rfl (ra (by decide)) ?_
            refine Ends.call (show pAt 174 72 = some (72, .invokevirtual 333, 3, [157, 1, 0, 0, 6009, 6011, 88]) from by decide +kernel) (isRet_none rfl) rfl (call_this (show HS (hpI (hpI (hpI (hpI h18 93 28 p) 93 29 r19) 93 30 p) 93 31 o) from hs_h18) rfl rfl (by decide)) (Ends.mono vc ?_)
            rintro _ h21 ⟨r22, rfl, hs_h21, vc⟩
            refine e_istore (show pAt 174 75 = some (75, .istore 4, 2, []) from by decide +kernel) ⟨Nat.le_of_ble_eq_true rfl, rfl⟩ rfl ?_
            refine e_aload_n (show pAt 174 77 = some (77, .aload_n 0, 1, []) from by decide +kernel) rfl (ra (by decide)) ?_
            refine e_iconst (c := (-1)) (show pAt 174 78 = some (78, .iconst (-1), 1, []) from by decide +kernel) (by decide) ?_
            refine e_pI (show pAt 174 79 = some (79, .putfield 97, 3, [7, 28, 0, 4151]) from by decide +kernel) (show HS h21 from hs_h21) (by decide) (Or.inl rfl) ?_
            refine e_aload_n (show pAt 174 82 = some (82, .aload_n 0, 1, []) from by decide +kernel) rfl (ra (by decide)) ?_
            refine e_iconst (c := (-1)) (show pAt 174 83 = some (83, .iconst (-1), 1, []) from by decide +kernel) (by decide) ?_
            refine e_pI (show pAt 174 84 = some (84, .putfield 103, 3, [7, 30, 0, 4153]) from by decide +kernel) (show HS (hpI h21 93 28 (-1)) from hs_h21) (by decide) (Or.inl rfl) ?_
            refine e_aload_n (show pAt 174 87 = some (87, .aload_n 0, 1, []) from by decide +kernel) rfl (ra (by decide)) ?_
            refine e_iload (show pAt 174 88 = some (88, .iload 4, 2, []) from by decide +kernel) rfl ?_
            refine e_iload_n (show pAt 174 90 = some (90, .iload_n 1, 1, []) from by decide +kernel) rfl ?_
            refine Ends.call (show pAt 174 91 = some (91, .invokevirtual 274, 3, [110, 3, 0, 0, 5173, 5175, 71]) from by decide +kernel) (isRet_none rfl) rfl (call_this (show HS (hpI (hpI h21 93 28 (-1)) 93 30 (-1)) from hs_h21) rfl rfl (by decide)) (Ends.mono vc ?_)
            rintro _ h24 ⟨r25, rfl, hs_h24, vc⟩
            refine e_if (t := 101) (show pAt 174 94 = some (94, .ifCond .eq 7, 3, []) from by decide +kernel) rfl (fun c27 => ?_) (fun c27 => ?_)
            · replace vc := vc.1 c27
              refine e_iconst (c := 1) (show pAt 174 101 = some (101, .iconst 1, 1, []) from by decide +kernel) (by decide) ?_
              exact e_retI (show pAt 174 102 = some (102, .ireturn, 1, []) from by decide +kernel) rfl vc
            · replace vc := vc.2 c27
              refine e_iconst (c := 0) (show pAt 174 97 = some (97, .iconst 0, 1, []) from by decide +kernel) (by decide) ?_
              refine e_goto (t := 102) (show pAt 174 98 = some (98, .goto 4, 3, []) from by decide +kernel) rfl ?_
              exact e_retI (show pAt 174 102 = some (102, .ireturn, 1, []) from by decide +kernel) rfl vc
          · replace vc := vc.2 c17
            refine e_bipush (c := (-3)) (show pAt 174 42 = some (42, .bipush (-3), 2, []) from by decide +kernel) (by decide) ?_
            exact e_retI (show pAt 174 44 = some (44, .ireturn, 1, []) from by decide +kernel) rfl vc
      · replace vc := vc.2 c9
        refine e_bipush (c := (-2)) (show pAt 174 23 = some (23, .bipush (-2), 2, []) from by decide +kernel) (by decide) ?_
        exact e_retI (show pAt 174 25 = some (25, .ireturn, 1, []) from by decide +kernel) rfl vc
    · replace vc := vc.2 c8
      refine e_iconst (c := (-1)) (show pAt 174 16 = some (16, .iconst (-1), 1, []) from by decide +kernel) (by decide) ?_
      exact e_retI (show pAt 174 17 = some (17, .ireturn, 1, []) from by decide +kernel) rfl vc

theorem w_nr0 {X : Scr} {dp : Nat} {h : Hp} {Q : Option Value → Hp → Prop} (n : Int32) (hs : HS h)
    (vc : Ends X dp 172 4 [.ref 93, .int n, .int (n - 1)] [] h Q) :
    Ends X dp 172 0 [.ref 93, .int n, .retAddr 0] [] h Q := by
  have ra : ∀ {a : Nat}, a < 1000 → a ≤ OLDB := fun h => by have := OLDB_eq; omega
  refine e_iload_n (show pAt 172 0 = some (0, .iload_n 1, 1, []) from by decide +kernel) rfl ?_
  refine e_iconst (c := 1) (show pAt 172 1 = some (1, .iconst 1, 1, []) from by decide +kernel) (by decide) ?_
  refine e_isub (show pAt 172 2 = some (2, .isub, 1, []) from by decide +kernel) ?_
  refine e_istore_n (show pAt 172 3 = some (3, .istore_n 2, 1, []) from by decide +kernel) ⟨Nat.le_of_ble_eq_true rfl, rfl⟩ rfl ?_
  exact vc

theorem w_nr1 {X : Scr} {dp : Nat} {h : Hp} {Q : Option Value → Hp → Prop} (n : Int32) (k : Int32) (hs : HS h)
    (vc : ((condB .lt k 0 = true → Q (some (.int 0)) h) ∧ (condB .lt k 0 = false → (inB k 3 = true ∧ (inB k 3 = true ∧ (inB k 3 = true ∧ ((condB .ge ((hpI h 111 k.toNatClampNeg ((h.2.1 111 k.toNatClampNeg) + 1)).2.1 111 k.toNatClampNeg) 7 = true → (inB k 3 = true ∧ Ends X dp 172 4 [.ref 93, .int n, .int (k + (-1))] [] (hpI (hpI h 111 k.toNatClampNeg ((h.2.1 111 k.toNatClampNeg) + 1)) 111 k.toNatClampNeg 0) Q)) ∧ (condB .ge ((hpI h 111 k.toNatClampNeg ((h.2.1 111 k.toNatClampNeg) + 1)).2.1 111 k.toNatClampNeg) 7 = false → Q (some (.int 1)) (hpI h 111 k.toNatClampNeg ((h.2.1 111 k.toNatClampNeg) + 1)))))))))) :
    Ends X dp 172 4 [.ref 93, .int n, .int k] [] h Q := by
  have ra : ∀ {a : Nat}, a < 1000 → a ≤ OLDB := fun h => by have := OLDB_eq; omega
  refine e_iload_n (show pAt 172 4 = some (4, .iload_n 2, 1, []) from by decide +kernel) rfl ?_
  refine e_if (t := 44) (show pAt 172 5 = some (5, .ifCond .lt 39, 3, []) from by decide +kernel) rfl (fun c1 => ?_) (fun c1 => ?_)
  · replace vc := vc.1 c1
    refine e_iconst (c := 0) (show pAt 172 44 = some (44, .iconst 0, 1, []) from by decide +kernel) (by decide) ?_
    exact e_retZ (show pAt 172 45 = some (45, .ireturn, 1, []) from by decide +kernel) rfl (by decide) vc
  · replace vc := vc.2 c1
    refine e_aload_n (show pAt 172 8 = some (8, .aload_n 0, 1, []) from by decide +kernel) rfl (ra (by decide)) ?_
    refine e_gR (show pAt 172 9 = some (9, .getfield 127, 3, [7, 38, 0, 4161]) from by decide +kernel) (show HS h from hs) rfl (by decide) (hs_ref (show HS h from hs) rfl) ?_
    refine e_iload_n (show pAt 172 12 = some (12, .iload_n 2, 1, []) from by decide +kernel) rfl ?_
    refine e_dup2 (show pAt 172 13 = some (13, .dup2, 1, []) from by decide +kernel) ?_
    obtain ⟨c2, vc⟩ := vc
    refine e_ald (show pAt 172 14 = some (14, .iaload, 1, []) from by decide +kernel) (show HS h from hs) (by decide) c2 ?_
    refine e_iconst (c := 1) (show pAt 172 15 = some (15, .iconst 1, 1, []) from by decide +kernel) (by decide) ?_
    refine e_iadd (show pAt 172 16 = some (16, .iadd, 1, []) from by decide +kernel) ?_
    obtain ⟨c3, vc⟩ := vc
    refine e_ast (show pAt 172 17 = some (17, .iastore, 1, []) from by decide +kernel) (show HS h from hs) (by decide) c3 ?_
    refine e_aload_n (show pAt 172 18 = some (18, .aload_n 0, 1, []) from by decide +kernel) rfl (ra (by decide)) ?_
    refine e_gR (show pAt 172 19 = some (19, .getfield 127, 3, [7, 38, 0, 4161]) from by decide +kernel) (show HS (hpI h 111 k.toNatClampNeg ((h.2.1 111 k.toNatClampNeg) + 1)) from hs) rfl (by decide) (hs_ref (show HS (hpI h 111 k.toNatClampNeg ((h.2.1 111 k.toNatClampNeg) + 1)) from hs) rfl) ?_
    refine e_iload_n (show pAt 172 22 = some (22, .iload_n 2, 1, []) from by decide +kernel) rfl ?_
    obtain ⟨c4, vc⟩ := vc
    refine e_ald (show pAt 172 23 = some (23, .iaload, 1, []) from by decide +kernel) (show HS (hpI h 111 k.toNatClampNeg ((h.2.1 111 k.toNatClampNeg) + 1)) from hs) (by decide) c4 ?_
    refine e_bipush (c := 7) (show pAt 172 24 = some (24, .bipush 7, 2, []) from by decide +kernel) (by decide) ?_
    refine e_icmp (t := 31) (show pAt 172 26 = some (26, .if_icmp .ge 5, 3, []) from by decide +kernel) rfl (fun c5 => ?_) (fun c5 => ?_)
    · replace vc := vc.1 c5
      refine e_aload_n (show pAt 172 31 = some (31, .aload_n 0, 1, []) from by decide +kernel) rfl (ra (by decide)) ?_
      refine e_gR (show pAt 172 32 = some (32, .getfield 127, 3, [7, 38, 0, 4161]) from by decide +kernel) (show HS (hpI h 111 k.toNatClampNeg ((h.2.1 111 k.toNatClampNeg) + 1)) from hs) rfl (by decide) (hs_ref (show HS (hpI h 111 k.toNatClampNeg ((h.2.1 111 k.toNatClampNeg) + 1)) from hs) rfl) ?_
      refine e_iload_n (show pAt 172 35 = some (35, .iload_n 2, 1, []) from by decide +kernel) rfl ?_
      refine e_iconst (c := 0) (show pAt 172 36 = some (36, .iconst 0, 1, []) from by decide +kernel) (by decide) ?_
      obtain ⟨c6, vc⟩ := vc
      refine e_ast (show pAt 172 37 = some (37, .iastore, 1, []) from by decide +kernel) (show HS (hpI h 111 k.toNatClampNeg ((h.2.1 111 k.toNatClampNeg) + 1)) from hs) (by decide) c6 ?_
      refine e_iinc (c := (-1)) (show pAt 172 38 = some (38, .iinc 2 (-1), 3, []) from by decide +kernel) rfl rfl (by decide) rfl ?_
      refine e_goto (t := 4) (show pAt 172 41 = some (41, .goto (-37), 3, []) from by decide +kernel) rfl ?_
      exact vc
    · replace vc := vc.2 c5
      refine e_iconst (c := 1) (show pAt 172 29 = some (29, .iconst 1, 1, []) from by decide +kernel) (by decide) ?_
      exact e_retZ (show pAt 172 30 = some (30, .ireturn, 1, []) from by decide +kernel) rfl (by decide) vc

theorem w_sa0 {X : Scr} {dp : Nat} {h : Hp} {Q : Option Value → Hp → Prop}  (hs : HS h)
    (vc : Ends X dp 171 4 [.ref 93, .int 0, .int 0] [] h Q) :
    Ends X dp 171 0 [.ref 93, .retAddr 0, .retAddr 0] [] h Q := by
  have ra : ∀ {a : Nat}, a < 1000 → a ≤ OLDB := fun h => by have := OLDB_eq; omega
  refine e_iconst (c := 0) (show pAt 171 0 = some (0, .iconst 0, 1, []) from by decide +kernel) (by decide) ?_
  refine e_istore_n (show pAt 171 1 = some (1, .istore_n 1, 1, []) from by decide +kernel) ⟨Nat.le_of_ble_eq_true rfl, rfl⟩ rfl ?_
  refine e_iconst (c := 0) (show pAt 171 2 = some (2, .iconst 0, 1, []) from by decide +kernel) (by decide) ?_
  refine e_istore_n (show pAt 171 3 = some (3, .istore_n 2, 1, []) from by decide +kernel) ⟨Nat.le_of_ble_eq_true rfl, rfl⟩ rfl ?_
  exact vc

theorem w_sa1 {X : Scr} {dp : Nat} {h : Hp} {Q : Option Value → Hp → Prop} (k : Int32) (c : Int32) (hs : HS h)
    (vc : ((condB .ge c (h.2.1 93 0) = true → Q none h) ∧ (condB .ge c (h.2.1 93 0) = false → Ends X dp 139 0 [.ref 93, .int c] [] h (fun rv h2 => ∃ r3, rv = some (.int r3) ∧ HS h2 ∧ ((condB .eq r3 0 = true → (inB k 3 = true ∧ (inB c 7 = true ∧ Ends X (dp + 1) 171 4 [.ref 93, .int (k + 1), .int (c + 1)] [] (hpI h2 96 c.toNatClampNeg (h2.2.1 111 k.toNatClampNeg)) Q))) ∧ (condB .eq r3 0 = false → Ends X (dp + 1) 171 4 [.ref 93, .int k, .int (c + 1)] [] h2 Q)))))) :
    Ends X (dp + 1) 171 4 [.ref 93, .int k, .int c] [] h Q := by
  have ra : ∀ {a : Nat}, a < 1000 → a ≤ OLDB := fun h => by have := OLDB_eq; omega
  refine e_iload_n (show pAt 171 4 = some (4, .iload_n 2, 1, []) from by decide +kernel) rfl ?_
  refine e_aload_n (show pAt 171 5 = some (5, .aload_n 0, 1, []) from by decide +kernel) rfl (ra (by decide)) ?_
  refine e_gI (show pAt 171 6 = some (6, .getfield 7, 3, [7, 0, 0, 4123]) from by decide +kernel) (show HS h from hs) rfl (by decide) ?_
  refine e_icmp (t := 44) (show pAt 171 9 = some (9, .if_icmp .ge 35, 3, []) from by decide +kernel) rfl (fun c1 => ?_) (fun c1 => ?_)
  · replace vc := vc.1 c1
    exact e_retV (show pAt 171 44 = some (44, .return_, 1, []) from by decide +kernel) rfl vc
  · replace vc := vc.2 c1
    refine e_aload_n (show pAt 171 12 = some (12, .aload_n 0, 1, []) from by decide +kernel) rfl (ra (by decide)) ?_
    refine e_iload_n (show pAt 171 13 = some (13, .iload_n 2, 1, []) from by decide +kernel) rfl ?_
    refine Ends.call (show pAt 171 14 = some (14, .invokevirtual 291, 3, [139, 2, 0, 0, 5169, 5171, 70]) from by decide +kernel) (isRet_none rfl) rfl (call_this (show HS h from hs) rfl rfl (by decide)) (Ends.mono vc ?_)
    rintro _ h2 ⟨r3, rfl, hs_h2, vc⟩
    refine e_if (t := 23) (show pAt 171 17 = some (17, .ifCond .eq 6, 3, []) from by decide +kernel) rfl (fun c5 => ?_) (fun c5 => ?_)
    · replace vc := vc.1 c5
      refine e_aload_n (show pAt 171 23 = some (23, .aload_n 0, 1, []) from by decide +kernel) rfl (ra (by decide)) ?_
      refine e_gR (show pAt 171 24 = some (24, .getfield 26, 3, [7, 5, 0, 4128]) from by decide +kernel) (show HS h2 from hs_h2) rfl (by decide) (hs_ref (show HS h2 from hs_h2) rfl) ?_
      refine e_iload_n (show pAt 171 27 = some (27, .iload_n 2, 1, []) from by decide +kernel) rfl ?_
      refine e_aload_n (show pAt 171 28 = some (28, .aload_n 0, 1, []) from by decide +kernel) rfl (ra (by decide)) ?_
      refine e_gR (show pAt 171 29 = some (29, .getfield 127, 3, [7, 38, 0, 4161]) from by decide +kernel) (show HS h2 from hs_h2) rfl (by decide) (hs_ref (show HS h2 from hs_h2) rfl) ?_
      refine e_iload_n (show pAt 171 32 = some (32, .iload_n 1, 1, []) from by decide +kernel) rfl ?_
      obtain ⟨c6, vc⟩ := vc
      refine e_ald (show pAt 171 33 = some (33, .iaload, 1, []) from by decide +kernel) (show HS h2 from hs_h2) (by decide) c6 ?_
      obtain ⟨c7, vc⟩ := vc
      refine e_ast (show pAt 171 34 = some (34, .iastore, 1, []) from by decide +kernel) (show HS h2 from hs_h2) (by decide) c7 ?_
      refine e_iinc (c := 1) (show pAt 171 35 = some (35, .iinc 1 1, 3, []) from by decide +kernel) rfl rfl (by decide) rfl ?_
      refine e_iinc (c := 1) (show pAt 171 38 = some (38, .iinc 2 1, 3, []) from by decide +kernel) rfl rfl (by decide) rfl ?_
      refine e_goto (t := 4) (show pAt 171 41 = some (41, .goto (-37), 3, []) from by decide +kernel) rfl ?_
      exact vc
    · replace vc := vc.2 c5
      refine e_goto (t := 38) (show pAt 171 20 = some (20, .goto 18, 3, []) from by decide +kernel) rfl ?_
      refine e_iinc (c := 1) (show pAt 171 38 = some (38, .iinc 2 1, 3, []) from by decide +kernel) rfl rfl (by decide) rfl ?_
      refine e_goto (t := 4) (show pAt 171 41 = some (41, .goto (-37), 3, []) from by decide +kernel) rfl ?_
      exact vc

theorem w_tp {X : Scr} {dp : Nat} {h : Hp} {Q : Option Value → Hp → Prop} (t : Int32) (hs : HS h)
    (vc : Ends X dp 109 0 [.ref 93, .int t, .int 0, .int 5] [] h (fun rv h1 => ∃ r2, rv = some (.int r2) ∧ HS h1 ∧ (r2 = 0 ∨ r2 = 1) ∧ Q (some (.int r2)) h1)) :
    Ends X (dp + 1) 198 0 [.ref 93, .int t] [] h Q := by
  have ra : ∀ {a : Nat}, a < 1000 → a ≤ OLDB := fun h => by have := OLDB_eq; omega
  refine e_aload_n (show pAt 198 0 = some (0, .aload_n 0, 1, []) from by decide +kernel) rfl (ra (by decide)) ?_
  refine e_iload_n (show pAt 198 1 = some (1, .iload_n 1, 1, []) from by decide +kernel) rfl ?_
  refine e_iconst (c := 0) (show pAt 198 2 = some (2, .iconst 0, 1, []) from by decide +kernel) (by decide) ?_
  refine e_iconst (c := 5) (show pAt 198 3 = some (3, .iconst 5, 1, []) from by decide +kernel) (by decide) ?_
  refine Ends.call (show pAt 198 4 = some (4, .invokevirtual 206, 3, [109, 4, 0, 0, 5081, 5083, 54]) from by decide +kernel) (isRet_none rfl) rfl (call_this (show HS h from hs) rfl rfl (by decide)) (Ends.mono vc ?_)
  rintro _ h1 ⟨r2, rfl, hs_h1, vc⟩
  exact e_retZ (show pAt 198 7 = some (7, .ireturn, 1, []) from by decide +kernel) rfl vc.1 vc.2

theorem w_sh0 {X : Scr} {dp : Nat} {h : Hp} {Q : Option Value → Hp → Prop} (t : Int32) (i : Int32) (o : Int32) (j : Int32) (n : Int32) (hs : HS h)
    (vc : Ends X dp 198 0 [.ref 93, .int t] [] h (fun rv h1 => ∃ r2, rv = some (.int r2) ∧ HS h1 ∧ ((condB .eq r2 0 = true → Q (some (.int (-1))) h1) ∧ (condB .eq r2 0 = false → Ends X dp 198 0 [.ref 93, .int o] [] h1 (fun rv h5 => ∃ r6, rv = some (.int r6) ∧ HS h5 ∧ ((condB .ne r6 0 = true → (inB t 6 = true ∧ ((condB .lt (h5.2.1 123 t.toNatClampNeg) 0 = true → Q (some (.int (-11))) h5) ∧ (condB .lt (h5.2.1 123 t.toNatClampNeg) 0 = false → (inB o 6 = true ∧ ((condB .ge (h5.2.1 123 o.toNatClampNeg) 0 = true → (inB t 6 = true ∧ (inB o 6 = true ∧ ((condB .eq (h5.2.1 123 t.toNatClampNeg) (h5.2.1 123 o.toNatClampNeg) = true → ((condB .lt n 0 = true → Q (some (.int (-13))) h5) ∧ (condB .lt n 0 = false → ((condB .lt i 0 = true → Q (some (.int (-13))) h5) ∧ (condB .lt i 0 = false → ((condB .lt j 0 = true → Q (some (.int (-13))) h5) ∧ (condB .lt j 0 = false → (inB t 6 = true ∧ ((condB .gt i ((h5.2.1 124 t.toNatClampNeg) - n) = true → Q (some (.int (-13))) h5) ∧ (condB .gt i ((h5.2.1 124 t.toNatClampNeg) - n) = false → (inB o 6 = true ∧ ((condB .le j ((h5.2.1 124 o.toNatClampNeg) - n) = true → Ends X (dp + 1) 203 104 [.ref 93, .int t, .int i, .int o, .int j, .int n, .int 0] [] h5 Q) ∧ (condB .le j ((h5.2.1 124 o.toNatClampNeg) - n) = false → Q (some (.int (-13))) h5))))))))))))) ∧ (condB .eq (h5.2.1 123 t.toNatClampNeg) (h5.2.1 123 o.toNatClampNeg) = false → Q (some (.int (-12))) h5))))) ∧ (condB .ge (h5.2.1 123 o.toNatClampNeg) 0 = false → Q (some (.int (-11))) h5))))))) ∧ (condB .ne r6 0 = false → Q (some (.int (-1))) h5))))))) :
    Ends X (dp + 1) 203 0 [.ref 93, .int t, .int i, .int o, .int j, .int n, .retAddr 0] [] h Q := by
  have ra : ∀ {a : Nat}, a < 1000 → a ≤ OLDB := fun h => by have := OLDB_eq; omega
  refine e_aload_n (show pAt 203 0 = some (0, .aload_n 0, 1, []) from by decide +kernel) rfl (ra (by decide)) ?_
  refine e_iload_n (show pAt 203 1 = some (1, .iload_n 1, 1, []) from by decide +kernel) rfl ?_
  refine Ends.call (show pAt 203 2 = some (2, .invokevirtual 366, 3, [198, 2, 0, 0, 6138, 6140, 103]) from by decide +kernel) (isRet_none rfl) rfl (call_this (show HS h from hs) rfl rfl (by decide)) (Ends.mono vc ?_)
  rintro _ h1 ⟨r2, rfl, hs_h1, vc⟩
  refine e_if (t := 16) (show pAt 203 5 = some (5, .ifCond .eq 11, 3, []) from by decide +kernel) rfl (fun c4 => ?_) (fun c4 => ?_)
  · replace vc := vc.1 c4
    refine e_iconst (c := (-1)) (show pAt 203 16 = some (16, .iconst (-1), 1, []) from by decide +kernel) (by decide) ?_
    exact e_retI (show pAt 203 17 = some (17, .ireturn, 1, []) from by decide +kernel) rfl vc
  · replace vc := vc.2 c4
    refine e_aload_n (show pAt 203 8 = some (8, .aload_n 0, 1, []) from by decide +kernel) rfl (ra (by decide)) ?_
    refine e_iload_n (show pAt 203 9 = some (9, .iload_n 3, 1, []) from by decide +kernel) rfl ?_
    refine Ends.call (show pAt 203 10 = some (10, .invokevirtual 366, 3, [198, 2, 0, 0, 6138, 6140, 103]) from by decide +kernel) (isRet_none rfl) rfl (call_this (show HS h1 from hs_h1) rfl rfl (by decide)) (Ends.mono vc ?_)
    rintro _ h5 ⟨r6, rfl, hs_h5, vc⟩
    refine e_if (t := 18) (show pAt 203 13 = some (13, .ifCond .ne 5, 3, []) from by decide +kernel) rfl (fun c8 => ?_) (fun c8 => ?_)
    · replace vc := vc.1 c8
      refine e_aload_n (show pAt 203 18 = some (18, .aload_n 0, 1, []) from by decide +kernel) rfl (ra (by decide)) ?_
      refine e_gR (show pAt 203 19 = some (19, .getfield 193, 3, [7, 60, 0, 4183]) from by decide +kernel) (show HS h5 from hs_h5) rfl (by decide) (hs_ref (show HS h5 from hs_h5) rfl) ?_
      refine e_iload_n (show pAt 203 22 = some (22, .iload_n 1, 1, []) from by decide +kernel) rfl ?_
      obtain ⟨c9, vc⟩ := vc
      refine e_ald (show pAt 203 23 = some (23, .iaload, 1, []) from by decide +kernel) (show HS h5 from hs_h5) (by decide) c9 ?_
      refine e_if (t := 36) (show pAt 203 24 = some (24, .ifCond .lt 12, 3, []) from by decide +kernel) rfl (fun c10 => ?_) (fun c10 => ?_)
      · replace vc := vc.1 c10
        refine e_bipush (c := (-11)) (show pAt 203 36 = some (36, .bipush (-11), 2, []) from by decide +kernel) (by decide) ?_
        exact e_retI (show pAt 203 38 = some (38, .ireturn, 1, []) from by decide +kernel) rfl vc
      · replace vc := vc.2 c10
        refine e_aload_n (show pAt 203 27 = some (27, .aload_n 0, 1, []) from by decide +kernel) rfl (ra (by decide)) ?_
        refine e_gR (show pAt 203 28 = some (28, .getfield 193, 3, [7, 60, 0, 4183]) from by decide +kernel) (show HS h5 from hs_h5) rfl (by decide) (hs_ref (show HS h5 from hs_h5) rfl) ?_
        refine e_iload_n (show pAt 203 31 = some (31, .iload_n 3, 1, []) from by decide +kernel) rfl ?_
        obtain ⟨c11, vc⟩ := vc
        refine e_ald (show pAt 203 32 = some (32, .iaload, 1, []) from by decide +kernel) (show HS h5 from hs_h5) (by decide) c11 ?_
        refine e_if (t := 39) (show pAt 203 33 = some (33, .ifCond .ge 6, 3, []) from by decide +kernel) rfl (fun c12 => ?_) (fun c12 => ?_)
        · replace vc := vc.1 c12
          refine e_aload_n (show pAt 203 39 = some (39, .aload_n 0, 1, []) from by decide +kernel) rfl (ra (by decide)) ?_
          refine e_gR (show pAt 203 40 = some (40, .getfield 193, 3, [7, 60, 0, 4183]) from by decide +kernel) (show HS h5 from hs_h5) rfl (by decide) (hs_ref (show HS h5 from hs_h5) rfl) ?_
          refine e_iload_n (show pAt 203 43 = some (43, .iload_n 1, 1, []) from by decide +kernel) rfl ?_
          obtain ⟨c13, vc⟩ := vc
          refine e_ald (show pAt 203 44 = some (44, .iaload, 1, []) from by decide +kernel) (show HS h5 from hs_h5) (by decide) c13 ?_
          refine e_aload_n (show pAt 203 45 = some (45, .aload_n 0, 1, []) from by decide +kernel) rfl (ra (by decide)) ?_
          refine e_gR (show pAt 203 46 = some (46, .getfield 193, 3, [7, 60, 0, 4183]) from by decide +kernel) (show HS h5 from hs_h5) rfl (by decide) (hs_ref (show HS h5 from hs_h5) rfl) ?_
          refine e_iload_n (show pAt 203 49 = some (49, .iload_n 3, 1, []) from by decide +kernel) rfl ?_
          obtain ⟨c14, vc⟩ := vc
          refine e_ald (show pAt 203 50 = some (50, .iaload, 1, []) from by decide +kernel) (show HS h5 from hs_h5) (by decide) c14 ?_
          refine e_icmp (t := 57) (show pAt 203 51 = some (51, .if_icmp .eq 6, 3, []) from by decide +kernel) rfl (fun c15 => ?_) (fun c15 => ?_)
          · replace vc := vc.1 c15
            refine e_iload (show pAt 203 57 = some (57, .iload 5, 2, []) from by decide +kernel) rfl ?_
            refine e_if (t := 98) (show pAt 203 59 = some (59, .ifCond .lt 39, 3, []) from by decide +kernel) rfl (fun c16 => ?_) (fun c16 => ?_)
            · replace vc := vc.1 c16
              refine e_bipush (c := (-13)) (show pAt 203 98 = some (98, .bipush (-13), 2, []) from by decide +kernel) (by decide) ?_
              exact e_retI (show pAt 203 100 = some (100, .ireturn, 1, []) from by decide +kernel) rfl vc
            · replace vc := vc.2 c16
              refine e_iload_n (show pAt 203 62 = some (62, .iload_n 2, 1, []) from by decide +kernel) rfl ?_
              refine e_if (t := 98) (show pAt 203 63 = some (63, .ifCond .lt 35, 3, []) from by decide +kernel) rfl (fun c17 => ?_) (fun c17 => ?_)
              · replace vc := vc.1 c17
                refine e_bipush (c := (-13)) (show pAt 203 98 = some (98, .bipush (-13), 2, []) from by decide +kernel) (by decide) ?_
                exact e_retI (show pAt 203 100 = some (100, .ireturn, 1, []) from by decide +kernel) rfl vc
              · replace vc := vc.2 c17
                refine e_iload (show pAt 203 66 = some (66, .iload 4, 2, []) from by decide +kernel) rfl ?_
                refine e_if (t := 98) (show pAt 203 68 = some (68, .ifCond .lt 30, 3, []) from by decide +kernel) rfl (fun c18 => ?_) (fun c18 => ?_)
                · replace vc := vc.1 c18
                  refine e_bipush (c := (-13)) (show pAt 203 98 = some (98, .bipush (-13), 2, []) from by decide +kernel) (by decide) ?_
                  exact e_retI (show pAt 203 100 = some (100, .ireturn, 1, []) from by decide +kernel) rfl vc
                · replace vc := vc.2 c18
                  refine e_iload_n (show pAt 203 71 = some (71, .iload_n 2, 1, []) from by decide +kernel) rfl ?_
                  refine e_aload_n (show pAt 203 72 = some (72, .aload_n 0, 1, []) from by decide +kernel) rfl (ra (by decide)) ?_
                  refine e_gR (show pAt 203 73 = some (73, .getfield 196, 3, [7, 61, 0, 4184]) from by decide +kernel) (show HS h5 from hs_h5) rfl (by decide) (hs_ref (show HS h5 from hs_h5) rfl) ?_
                  refine e_iload_n (show pAt 203 76 = some (76, .iload_n 1, 1, []) from by decide +kernel) rfl ?_
                  obtain ⟨c19, vc⟩ := vc
                  refine e_ald (show pAt 203 77 = some (77, .iaload, 1, []) from by decide +kernel) (show HS h5 from hs_h5) (by decide) c19 ?_
                  refine e_iload (show pAt 203 78 = some (78, .iload 5, 2, []) from by decide +kernel) rfl ?_
                  refine e_isub (show pAt 203 80 = some (80, .isub, 1, []) from by decide +kernel) ?_
                  refine e_icmp (t := 98) (show pAt 203 81 = some (81, .if_icmp .gt 17, 3, []) from by decide +kernel) rfl (fun c20 => ?_) (fun c20 => ?_)
                  · replace vc := vc.1 c20
                    refine e_bipush (c := (-13)) (show pAt 203 98 = some (98, .bipush (-13), 2, []) from by decide +kernel) (by decide) ?_
                    exact e_retI (show pAt 203 100 = some (100, .ireturn, 1, []) from by decide +kernel) rfl vc
                  · replace vc := vc.2 c20
                    refine e_iload (show pAt 203 84 = some (84, .iload 4, 2, []) from by decide +kernel) rfl ?_
                    refine e_aload_n (show pAt 203 86 = some (86, .aload_n 0, 1, []) from by decide +kernel) rfl (ra (by decide)) ?_
                    refine e_gR (show pAt 203 87 = some (87, .getfield 196, 3, [7, 61, 0, 4184]) from by decide +kernel) (show HS h5 from hs_h5) rfl (by decide) (hs_ref (show HS h5 from hs_h5) rfl) ?_
                    refine e_iload_n (show pAt 203 90 = some (90, .iload_n 3, 1, []) from by decide +kernel) rfl ?_
                    obtain ⟨c21, vc⟩ := vc
                    refine e_ald (show pAt 203 91 = some (91, .iaload, 1, []) from by decide +kernel) (show HS h5 from hs_h5) (by decide) c21 ?_
                    refine e_iload (show pAt 203 92 = some (92, .iload 5, 2, []) from by decide +kernel) rfl ?_
                    refine e_isub (show pAt 203 94 = some (94, .isub, 1, []) from by decide +kernel) ?_
                    refine e_icmp (t := 101) (show pAt 203 95 = some (95, .if_icmp .le 6, 3, []) from by decide +kernel) rfl (fun c22 => ?_) (fun c22 => ?_)
                    · replace vc := vc.1 c22
                      refine e_iconst (c := 0) (show pAt 203 101 = some (101, .iconst 0, 1, []) from by decide +kernel) (by decide) ?_
                      refine e_istore (show pAt 203 102 = some (102, .istore 6, 2, []) from by decide +kernel) ⟨Nat.le_of_ble_eq_true rfl, rfl⟩ rfl ?_
                      exact vc
                    · replace vc := vc.2 c22
                      refine e_bipush (c := (-13)) (show pAt 203 98 = some (98, .bipush (-13), 2, []) from by decide +kernel) (by decide) ?_
                      exact e_retI (show pAt 203 100 = some (100, .ireturn, 1, []) from by decide +kernel) rfl vc
          · replace vc := vc.2 c15
            refine e_bipush (c := (-12)) (show pAt 203 54 = some (54, .bipush (-12), 2, []) from by decide +kernel) (by decide) ?_
            exact e_retI (show pAt 203 56 = some (56, .ireturn, 1, []) from by decide +kernel) rfl vc
        · replace vc := vc.2 c12
          refine e_bipush (c := (-11)) (show pAt 203 36 = some (36, .bipush (-11), 2, []) from by decide +kernel) (by decide) ?_
          exact e_retI (show pAt 203 38 = some (38, .ireturn, 1, []) from by decide +kernel) rfl vc
    · replace vc := vc.2 c8
      refine e_iconst (c := (-1)) (show pAt 203 16 = some (16, .iconst (-1), 1, []) from by decide +kernel) (by decide) ?_
      exact e_retI (show pAt 203 17 = some (17, .ireturn, 1, []) from by decide +kernel) rfl vc

theorem w_sh1 {X : Scr} {dp : Nat} {h : Hp} {Q : Option Value → Hp → Prop} (t : Int32) (i : Int32) (o : Int32) (j : Int32) (n : Int32) (k : Int32) (hs : HS h)
    (vc : ((condB .ge k n = true → Ends X dp 203 141 [.ref 93, .int t, .int i, .int o, .int j, .int n, .int 0] [] h Q) ∧ (condB .ge k n = false → (inB (((60 * t) + i) + k) 360 = true ∧ (inB k 60 = true ∧ Ends X dp 203 104 [.ref 93, .int t, .int i, .int o, .int j, .int n, .int (k + 1)] [] (hpL h 126 k.toNatClampNeg (h.2.2.1 125 (((60 * t) + i) + k).toNatClampNeg)) Q))))) :
    Ends X dp 203 104 [.ref 93, .int t, .int i, .int o, .int j, .int n, .int k] [] h Q := by
  have ra : ∀ {a : Nat}, a < 1000 → a ≤ OLDB := fun h => by have := OLDB_eq; omega
  refine e_iload (show pAt 203 104 = some (104, .iload 6, 2, []) from by decide +kernel) rfl ?_
  refine e_iload (show pAt 203 106 = some (106, .iload 5, 2, []) from by decide +kernel) rfl ?_
  refine e_icmp (t := 138) (show pAt 203 108 = some (108, .if_icmp .ge 30, 3, []) from by decide +kernel) rfl (fun c1 => ?_) (fun c1 => ?_)
  · replace vc := vc.1 c1
    refine e_iconst (c := 0) (show pAt 203 138 = some (138, .iconst 0, 1, []) from by decide +kernel) (by decide) ?_
    refine e_istore (show pAt 203 139 = some (139, .istore 6, 2, []) from by decide +kernel) ⟨Nat.le_of_ble_eq_true rfl, rfl⟩ rfl ?_
    exact vc
  · replace vc := vc.2 c1
    refine e_aload_n (show pAt 203 111 = some (111, .aload_n 0, 1, []) from by decide +kernel) rfl (ra (by decide)) ?_
    refine e_gR (show pAt 203 112 = some (112, .getfield 203, 3, [7, 63, 0, 4186]) from by decide +kernel) (show HS h from hs) rfl (by decide) (hs_ref (show HS h from hs) rfl) ?_
    refine e_iload (show pAt 203 115 = some (115, .iload 6, 2, []) from by decide +kernel) rfl ?_
    refine e_aload_n (show pAt 203 117 = some (117, .aload_n 0, 1, []) from by decide +kernel) rfl (ra (by decide)) ?_
    refine e_gR (show pAt 203 118 = some (118, .getfield 199, 3, [7, 62, 0, 4185]) from by decide +kernel) (show HS h from hs) rfl (by decide) (hs_ref (show HS h from hs) rfl) ?_
    refine e_bipush (c := 60) (show pAt 203 121 = some (121, .bipush 60, 2, []) from by decide +kernel) (by decide) ?_
    refine e_iload_n (show pAt 203 123 = some (123, .iload_n 1, 1, []) from by decide +kernel) rfl ?_
    refine e_imul (show pAt 203 124 = some (124, .imul, 1, []) from by decide +kernel) ?_
    refine e_iload_n (show pAt 203 125 = some (125, .iload_n 2, 1, []) from by decide +kernel) rfl ?_
    refine e_iadd (show pAt 203 126 = some (126, .iadd, 1, []) from by decide +kernel) ?_
    refine e_iload (show pAt 203 127 = some (127, .iload 6, 2, []) from by decide +kernel) rfl ?_
    refine e_iadd (show pAt 203 129 = some (129, .iadd, 1, []) from by decide +kernel) ?_
    obtain ⟨c2, vc⟩ := vc
    refine e_lald (show pAt 203 130 = some (130, .laload, 1, []) from by decide +kernel) (show HS h from hs) (by decide) c2 ?_
    obtain ⟨c3, vc⟩ := vc
    refine e_last (show pAt 203 131 = some (131, .lastore, 1, []) from by decide +kernel) (show HS h from hs) (by decide) c3 ?_
    refine e_iinc (c := 1) (show pAt 203 132 = some (132, .iinc 6 1, 3, []) from by decide +kernel) rfl rfl (by decide) rfl ?_
    refine e_goto (t := 104) (show pAt 203 135 = some (135, .goto (-31), 3, []) from by decide +kernel) rfl ?_
    exact vc

theorem w_sh2 {X : Scr} {dp : Nat} {h : Hp} {Q : Option Value → Hp → Prop} (t : Int32) (i : Int32) (o : Int32) (j : Int32) (n : Int32) (k : Int32) (hs : HS h)
    (vc : ((condB .ge k n = true → Q (some (.int n)) h) ∧ (condB .ge k n = false → (inB k 60 = true ∧ (inB (((60 * o) + j) + k) 360 = true ∧ Ends X dp 203 141 [.ref 93, .int t, .int i, .int o, .int j, .int n, .int (k + 1)] [] (hpL h 125 (((60 * o) + j) + k).toNatClampNeg (h.2.2.1 126 k.toNatClampNeg)) Q))))) :
    Ends X dp 203 141 [.ref 93, .int t, .int i, .int o, .int j, .int n, .int k] [] h Q := by
  have ra : ∀ {a : Nat}, a < 1000 → a ≤ OLDB := fun h => by have := OLDB_eq; omega
  refine e_iload (show pAt 203 141 = some (141, .iload 6, 2, []) from by decide +kernel) rfl ?_
  refine e_iload (show pAt 203 143 = some (143, .iload 5, 2, []) from by decide +kernel) rfl ?_
  refine e_icmp (t := 176) (show pAt 203 145 = some (145, .if_icmp .ge 31, 3, []) from by decide +kernel) rfl (fun c1 => ?_) (fun c1 => ?_)
  · replace vc := vc.1 c1
    refine e_iload (show pAt 203 176 = some (176, .iload 5, 2, []) from by decide +kernel) rfl ?_
    exact e_retI (show pAt 203 178 = some (178, .ireturn, 1, []) from by decide +kernel) rfl vc
  · replace vc := vc.2 c1
    refine e_aload_n (show pAt 203 148 = some (148, .aload_n 0, 1, []) from by decide +kernel) rfl (ra (by decide)) ?_
    refine e_gR (show pAt 203 149 = some (149, .getfield 199, 3, [7, 62, 0, 4185]) from by decide +kernel) (show HS h from hs) rfl (by decide) (hs_ref (show HS h from hs) rfl) ?_
    refine e_bipush (c := 60) (show pAt 203 152 = some (152, .bipush 60, 2, []) from by decide +kernel) (by decide) ?_
    refine e_iload_n (show pAt 203 154 = some (154, .iload_n 3, 1, []) from by decide +kernel) rfl ?_
    refine e_imul (show pAt 203 155 = some (155, .imul, 1, []) from by decide +kernel) ?_
    refine e_iload (show pAt 203 156 = some (156, .iload 4, 2, []) from by decide +kernel) rfl ?_
    refine e_iadd (show pAt 203 158 = some (158, .iadd, 1, []) from by decide +kernel) ?_
    refine e_iload (show pAt 203 159 = some (159, .iload 6, 2, []) from by decide +kernel) rfl ?_
    refine e_iadd (show pAt 203 161 = some (161, .iadd, 1, []) from by decide +kernel) ?_
    refine e_aload_n (show pAt 203 162 = some (162, .aload_n 0, 1, []) from by decide +kernel) rfl (ra (by decide)) ?_
    refine e_gR (show pAt 203 163 = some (163, .getfield 203, 3, [7, 63, 0, 4186]) from by decide +kernel) (show HS h from hs) rfl (by decide) (hs_ref (show HS h from hs) rfl) ?_
    refine e_iload (show pAt 203 166 = some (166, .iload 6, 2, []) from by decide +kernel) rfl ?_
    obtain ⟨c2, vc⟩ := vc
    refine e_lald (show pAt 203 168 = some (168, .laload, 1, []) from by decide +kernel) (show HS h from hs) (by decide) c2 ?_
    obtain ⟨c3, vc⟩ := vc
    refine e_last (show pAt 203 169 = some (169, .lastore, 1, []) from by decide +kernel) (show HS h from hs) (by decide) c3 ?_
    refine e_iinc (c := 1) (show pAt 203 170 = some (170, .iinc 6 1, 3, []) from by decide +kernel) rfl rfl (by decide) rfl ?_
    refine e_goto (t := 141) (show pAt 203 173 = some (173, .goto (-32), 3, []) from by decide +kernel) rfl ?_
    exact vc

theorem w_cex {X : Scr} {dp : Nat} {h : Hp} {Q : Option Value → Hp → Prop} (t : Int32) (hs : HS h)
    (vc : ((condB .lt t 0 = true → Q (some (.int 0)) h) ∧ (condB .lt t 0 = false → ((condB .ge t 6 = true → Q (some (.int 0)) h) ∧ (condB .ge t 6 = false → Q (some (.int 1)) h))))) :
    Ends X dp 35 0 [.ref 53, .int t] [] h Q := by
  have ra : ∀ {a : Nat}, a < 1000 → a ≤ OLDB := fun h => by have := OLDB_eq; omega
  refine e_iload_n (show pAt 35 0 = some (0, .iload_n 1, 1, []) from by decide +kernel) rfl ?_
  refine e_if (t := 14) (show pAt 35 1 = some (1, .ifCond .lt 13, 3, []) from by decide +kernel) rfl (fun c1 => ?_) (fun c1 => ?_)
  · replace vc := vc.1 c1
    refine e_iconst (c := 0) (show pAt 35 14 = some (14, .iconst 0, 1, []) from by decide +kernel) (by decide) ?_
    exact e_retZ (show pAt 35 15 = some (15, .ireturn, 1, []) from by decide +kernel) rfl (by decide) vc
  · replace vc := vc.2 c1
    refine e_iload_n (show pAt 35 4 = some (4, .iload_n 1, 1, []) from by decide +kernel) rfl ?_
    refine e_bipush (c := 6) (show pAt 35 5 = some (5, .bipush 6, 2, []) from by decide +kernel) (by decide) ?_
    refine e_icmp (t := 14) (show pAt 35 7 = some (7, .if_icmp .ge 7, 3, []) from by decide +kernel) rfl (fun c2 => ?_) (fun c2 => ?_)
    · replace vc := vc.1 c2
      refine e_iconst (c := 0) (show pAt 35 14 = some (14, .iconst 0, 1, []) from by decide +kernel) (by decide) ?_
      exact e_retZ (show pAt 35 15 = some (15, .ireturn, 1, []) from by decide +kernel) rfl (by decide) vc
    · replace vc := vc.2 c2
      refine e_iconst (c := 1) (show pAt 35 10 = some (10, .iconst 1, 1, []) from by decide +kernel) (by decide) ?_
      refine e_goto (t := 15) (show pAt 35 11 = some (11, .goto 4, 3, []) from by decide +kernel) rfl ?_
      exact e_retZ (show pAt 35 15 = some (15, .ireturn, 1, []) from by decide +kernel) rfl (by decide) vc

theorem w_cpt {X : Scr} {dp : Nat} {h : Hp} {Q : Option Value → Hp → Prop} (t : Int32) (f : Int32) (n : Int32) (hs : HS h)
    (vc : Ends X dp 35 0 [.ref 53, .int t] [] h (fun rv h1 => ∃ r2, rv = some (.int r2) ∧ HS h1 ∧ ((condB .eq r2 0 = true → Q (some (.int 0)) h1) ∧ (condB .eq r2 0 = false → ((condB .lt f 0 = true → Q (some (.int 0)) h1) ∧ (condB .lt f 0 = false → ((condB .lt n 0 = true → Q (some (.int 0)) h1) ∧ (condB .lt n 0 = false → (inB t 6 = true ∧ ((condB .gt (lg_cmp ((f.toInt64) + (n.toInt64)) ((h1.2.1 55 t.toNatClampNeg).toInt64)) 0 = true → Q (some (.int 0)) h1) ∧ (condB .gt (lg_cmp ((f.toInt64) + (n.toInt64)) ((h1.2.1 55 t.toNatClampNeg).toInt64)) 0 = false → Q (some (.int 1)) h1))))))))))) :
    Ends X (dp + 1) 37 0 [.ref 53, .int t, .int f, .int n] [] h Q := by
  have ra : ∀ {a : Nat}, a < 1000 → a ≤ OLDB := fun h => by have := OLDB_eq; omega
  refine e_aload_n (show pAt 37 0 = some (0, .aload_n 0, 1, []) from by decide +kernel) rfl (ra (by decide)) ?_
  refine e_iload_n (show pAt 37 1 = some (1, .iload_n 1, 1, []) from by decide +kernel) rfl ?_
  refine Ends.call (show pAt 37 2 = some (2, .invokevirtual 27, 3, [35, 2, 0, 0, 4042, 4036, 48]) from by decide +kernel) (isRet_none rfl) rfl (call_this (show HS h from hs) rfl rfl (by decide)) (Ends.mono vc ?_)
  rintro _ h1 ⟨r2, rfl, hs_h1, vc⟩
  refine e_if (t := 36) (show pAt 37 5 = some (5, .ifCond .eq 31, 3, []) from by decide +kernel) rfl (fun c4 => ?_) (fun c4 => ?_)
  · replace vc := vc.1 c4
    refine e_iconst (c := 0) (show pAt 37 36 = some (36, .iconst 0, 1, []) from by decide +kernel) (by decide) ?_
    exact e_retZ (show pAt 37 37 = some (37, .ireturn, 1, []) from by decide +kernel) rfl (by decide) vc
  · replace vc := vc.2 c4
    refine e_iload_n (show pAt 37 8 = some (8, .iload_n 2, 1, []) from by decide +kernel) rfl ?_
    refine e_if (t := 36) (show pAt 37 9 = some (9, .ifCond .lt 27, 3, []) from by decide +kernel) rfl (fun c5 => ?_) (fun c5 => ?_)
    · replace vc := vc.1 c5
      refine e_iconst (c := 0) (show pAt 37 36 = some (36, .iconst 0, 1, []) from by decide +kernel) (by decide) ?_
      exact e_retZ (show pAt 37 37 = some (37, .ireturn, 1, []) from by decide +kernel) rfl (by decide) vc
    · replace vc := vc.2 c5
      refine e_iload_n (show pAt 37 12 = some (12, .iload_n 3, 1, []) from by decide +kernel) rfl ?_
      refine e_if (t := 36) (show pAt 37 13 = some (13, .ifCond .lt 23, 3, []) from by decide +kernel) rfl (fun c6 => ?_) (fun c6 => ?_)
      · replace vc := vc.1 c6
        refine e_iconst (c := 0) (show pAt 37 36 = some (36, .iconst 0, 1, []) from by decide +kernel) (by decide) ?_
        exact e_retZ (show pAt 37 37 = some (37, .ireturn, 1, []) from by decide +kernel) rfl (by decide) vc
      · replace vc := vc.2 c6
        refine e_iload_n (show pAt 37 16 = some (16, .iload_n 2, 1, []) from by decide +kernel) rfl ?_
        refine e_i2l (show pAt 37 17 = some (17, .i2l, 1, []) from by decide +kernel) ?_
        refine e_iload_n (show pAt 37 18 = some (18, .iload_n 3, 1, []) from by decide +kernel) rfl ?_
        refine e_i2l (show pAt 37 19 = some (19, .i2l, 1, []) from by decide +kernel) ?_
        refine e_ladd (show pAt 37 20 = some (20, .ladd, 1, []) from by decide +kernel) ?_
        refine e_aload_n (show pAt 37 21 = some (21, .aload_n 0, 1, []) from by decide +kernel) rfl (ra (by decide)) ?_
        refine e_gR (show pAt 37 22 = some (22, .getfield 13, 3, [3, 1, 0, 2011]) from by decide +kernel) (show HS h1 from hs_h1) rfl (by decide) (hs_ref (show HS h1 from hs_h1) rfl) ?_
        refine e_iload_n (show pAt 37 25 = some (25, .iload_n 1, 1, []) from by decide +kernel) rfl ?_
        obtain ⟨c7, vc⟩ := vc
        refine e_ald (show pAt 37 26 = some (26, .iaload, 1, []) from by decide +kernel) (show HS h1 from hs_h1) (by decide) c7 ?_
        refine e_i2l (show pAt 37 27 = some (27, .i2l, 1, []) from by decide +kernel) ?_
        refine e_lcmp (show pAt 37 28 = some (28, .lcmp, 1, []) from by decide +kernel) ?_
        refine e_if (t := 36) (show pAt 37 29 = some (29, .ifCond .gt 7, 3, []) from by decide +kernel) rfl (fun c8 => ?_) (fun c8 => ?_)
        · replace vc := vc.1 c8
          refine e_iconst (c := 0) (show pAt 37 36 = some (36, .iconst 0, 1, []) from by decide +kernel) (by decide) ?_
          exact e_retZ (show pAt 37 37 = some (37, .ireturn, 1, []) from by decide +kernel) rfl (by decide) vc
        · replace vc := vc.2 c8
          refine e_iconst (c := 1) (show pAt 37 32 = some (32, .iconst 1, 1, []) from by decide +kernel) (by decide) ?_
          refine e_goto (t := 37) (show pAt 37 33 = some (33, .goto 4, 3, []) from by decide +kernel) rfl ?_
          exact e_retZ (show pAt 37 37 = some (37, .ireturn, 1, []) from by decide +kernel) rfl (by decide) vc

theorem w_csh {X : Scr} {dp : Nat} {h : Hp} {Q : Option Value → Hp → Prop} (t : Int32) (i : Int32) (o : Int32) (j : Int32) (n : Int32) (hs : HS h)
    (vc : Ends X dp 35 0 [.ref 53, .int t] [] h (fun rv h1 => ∃ r2, rv = some (.int r2) ∧ HS h1 ∧ ((condB .eq r2 0 = true → Q (some (.int (-1))) h1) ∧ (condB .eq r2 0 = false → Ends X dp 35 0 [.ref 53, .int o] [] h1 (fun rv h5 => ∃ r6, rv = some (.int r6) ∧ HS h5 ∧ ((condB .ne r6 0 = true → (inB t 6 = true ∧ ((condB .eq (h5.2.1 54 t.toNatClampNeg) (-1) = true → Q (some (.int (-11))) h5) ∧ (condB .eq (h5.2.1 54 t.toNatClampNeg) (-1) = false → (inB o 6 = true ∧ ((condB .ne (h5.2.1 54 o.toNatClampNeg) (-1) = true → (inB t 6 = true ∧ (inB o 6 = true ∧ ((condB .eq (h5.2.1 54 t.toNatClampNeg) (h5.2.1 54 o.toNatClampNeg) = true → Ends X dp 37 0 [.ref 53, .int t, .int i, .int n] [] h5 (fun rv h16 => ∃ r17, rv = some (.int r17) ∧ HS h16 ∧ ((condB .eq r17 0 = true → Q (some (.int (-13))) h16) ∧ (condB .eq r17 0 = false → Ends X dp 37 0 [.ref 53, .int o, .int j, .int n] [] h16 (fun rv h20 => ∃ r21, rv = some (.int r21) ∧ HS h20 ∧ ((condB .ne r21 0 = true → Ends X (dp + 1) 98 109 [.ref 0, .int t, .int i, .int o, .int j, .int n] [] h20 Q) ∧ (condB .ne r21 0 = false → Q (some (.int (-13))) h20))))))) ∧ (condB .eq (h5.2.1 54 t.toNatClampNeg) (h5.2.1 54 o.toNatClampNeg) = false → Q (some (.int (-12))) h5))))) ∧ (condB .ne (h5.2.1 54 o.toNatClampNeg) (-1) = false → Q (some (.int (-11))) h5))))))) ∧ (condB .ne r6 0 = false → Q (some (.int (-1))) h5))))))) :
    Ends X (dp + 1) 98 0 [.ref 0, .int t, .int i, .int o, .int j, .int n] [] h Q := by
  have ra : ∀ {a : Nat}, a < 1000 → a ≤ OLDB := fun h => by have := OLDB_eq; omega
  refine e_aload_n (show pAt 98 0 = some (0, .aload_n 0, 1, []) from by decide +kernel) rfl (ra (by decide)) ?_
  refine e_gR (show pAt 98 1 = some (1, .getfield 56, 3, [6, 9, 0, 2031]) from by decide +kernel) (show HS h from hs) rfl (by decide) (hs_ref (show HS h from hs) rfl) ?_
  refine e_iload_n (show pAt 98 4 = some (4, .iload_n 1, 1, []) from by decide +kernel) rfl ?_
  refine Ends.call (show pAt 98 5 = some (5, .invokevirtual 194, 3, [35, 2, 0, 1, 4034, 4036, 48]) from by decide +kernel) (isRet_none rfl) rfl (call_this (show HS h from hs) rfl rfl (by decide)) (Ends.mono vc ?_)
  rintro _ h1 ⟨r2, rfl, hs_h1, vc⟩
  refine e_if (t := 22) (show pAt 98 8 = some (8, .ifCond .eq 14, 3, []) from by decide +kernel) rfl (fun c4 => ?_) (fun c4 => ?_)
  · replace vc := vc.1 c4
    refine e_iconst (c := (-1)) (show pAt 98 22 = some (22, .iconst (-1), 1, []) from by decide +kernel) (by decide) ?_
    exact e_retI (show pAt 98 23 = some (23, .ireturn, 1, []) from by decide +kernel) rfl vc
  · replace vc := vc.2 c4
    refine e_aload_n (show pAt 98 11 = some (11, .aload_n 0, 1, []) from by decide +kernel) rfl (ra (by decide)) ?_
    refine e_gR (show pAt 98 12 = some (12, .getfield 56, 3, [6, 9, 0, 2031]) from by decide +kernel) (show HS h1 from hs_h1) rfl (by decide) (hs_ref (show HS h1 from hs_h1) rfl) ?_
    refine e_iload_n (show pAt 98 15 = some (15, .iload_n 3, 1, []) from by decide +kernel) rfl ?_
    refine Ends.call (show pAt 98 16 = some (16, .invokevirtual 194, 3, [35, 2, 0, 1, 4034, 4036, 48]) from by decide +kernel) (isRet_none rfl) rfl (call_this (show HS h1 from hs_h1) rfl rfl (by decide)) (Ends.mono vc ?_)
    rintro _ h5 ⟨r6, rfl, hs_h5, vc⟩
    refine e_if (t := 24) (show pAt 98 19 = some (19, .ifCond .ne 5, 3, []) from by decide +kernel) rfl (fun c8 => ?_) (fun c8 => ?_)
    · replace vc := vc.1 c8
      refine e_aload_n (show pAt 98 24 = some (24, .aload_n 0, 1, []) from by decide +kernel) rfl (ra (by decide)) ?_
      refine e_gR (show pAt 98 25 = some (25, .getfield 56, 3, [6, 9, 0, 2031]) from by decide +kernel) (show HS h5 from hs_h5) rfl (by decide) (hs_ref (show HS h5 from hs_h5) rfl) ?_
      refine e_gR (show pAt 98 28 = some (28, .getfield 197, 3, [3, 0, 1, 2010]) from by decide +kernel) (show HS h5 from hs_h5) rfl (by decide) (hs_ref (show HS h5 from hs_h5) rfl) ?_
      refine e_iload_n (show pAt 98 31 = some (31, .iload_n 1, 1, []) from by decide +kernel) rfl ?_
      obtain ⟨c9, vc⟩ := vc
      refine e_ald (show pAt 98 32 = some (32, .iaload, 1, []) from by decide +kernel) (show HS h5 from hs_h5) (by decide) c9 ?_
      refine e_iconst (c := (-1)) (show pAt 98 33 = some (33, .iconst (-1), 1, []) from by decide +kernel) (by decide) ?_
      refine e_icmp (t := 50) (show pAt 98 34 = some (34, .if_icmp .eq 16, 3, []) from by decide +kernel) rfl (fun c10 => ?_) (fun c10 => ?_)
      · replace vc := vc.1 c10
        refine e_bipush (c := (-11)) (show pAt 98 50 = some (50, .bipush (-11), 2, []) from by decide +kernel) (by decide) ?_
        exact e_retI (show pAt 98 52 = some (52, .ireturn, 1, []) from by decide +kernel) rfl vc
      · replace vc := vc.2 c10
        refine e_aload_n (show pAt 98 37 = some (37, .aload_n 0, 1, []) from by decide +kernel) rfl (ra (by decide)) ?_
        refine e_gR (show pAt 98 38 = some (38, .getfield 56, 3, [6, 9, 0, 2031]) from by decide +kernel) (show HS h5 from hs_h5) rfl (by decide) (hs_ref (show HS h5 from hs_h5) rfl) ?_
        refine e_gR (show pAt 98 41 = some (41, .getfield 197, 3, [3, 0, 1, 2010]) from by decide +kernel) (show HS h5 from hs_h5) rfl (by decide) (hs_ref (show HS h5 from hs_h5) rfl) ?_
        refine e_iload_n (show pAt 98 44 = some (44, .iload_n 3, 1, []) from by decide +kernel) rfl ?_
        obtain ⟨c11, vc⟩ := vc
        refine e_ald (show pAt 98 45 = some (45, .iaload, 1, []) from by decide +kernel) (show HS h5 from hs_h5) (by decide) c11 ?_
        refine e_iconst (c := (-1)) (show pAt 98 46 = some (46, .iconst (-1), 1, []) from by decide +kernel) (by decide) ?_
        refine e_icmp (t := 53) (show pAt 98 47 = some (47, .if_icmp .ne 6, 3, []) from by decide +kernel) rfl (fun c12 => ?_) (fun c12 => ?_)
        · replace vc := vc.1 c12
          refine e_aload_n (show pAt 98 53 = some (53, .aload_n 0, 1, []) from by decide +kernel) rfl (ra (by decide)) ?_
          refine e_gR (show pAt 98 54 = some (54, .getfield 56, 3, [6, 9, 0, 2031]) from by decide +kernel) (show HS h5 from hs_h5) rfl (by decide) (hs_ref (show HS h5 from hs_h5) rfl) ?_
          refine e_gR (show pAt 98 57 = some (57, .getfield 197, 3, [3, 0, 1, 2010]) from by decide +kernel) (show HS h5 from hs_h5) rfl (by decide) (hs_ref (show HS h5 from hs_h5) rfl) ?_
          refine e_iload_n (show pAt 98 60 = some (60, .iload_n 1, 1, []) from by decide +kernel) rfl ?_
          obtain ⟨c13, vc⟩ := vc
          refine e_ald (show pAt 98 61 = some (61, .iaload, 1, []) from by decide +kernel) (show HS h5 from hs_h5) (by decide) c13 ?_
          refine e_aload_n (show pAt 98 62 = some (62, .aload_n 0, 1, []) from by decide +kernel) rfl (ra (by decide)) ?_
          refine e_gR (show pAt 98 63 = some (63, .getfield 56, 3, [6, 9, 0, 2031]) from by decide +kernel) (show HS h5 from hs_h5) rfl (by decide) (hs_ref (show HS h5 from hs_h5) rfl) ?_
          refine e_gR (show pAt 98 66 = some (66, .getfield 197, 3, [3, 0, 1, 2010]) from by decide +kernel) (show HS h5 from hs_h5) rfl (by decide) (hs_ref (show HS h5 from hs_h5) rfl) ?_
          refine e_iload_n (show pAt 98 69 = some (69, .iload_n 3, 1, []) from by decide +kernel) rfl ?_
          obtain ⟨c14, vc⟩ := vc
          refine e_ald (show pAt 98 70 = some (70, .iaload, 1, []) from by decide +kernel) (show HS h5 from hs_h5) (by decide) c14 ?_
          refine e_icmp (t := 77) (show pAt 98 71 = some (71, .if_icmp .eq 6, 3, []) from by decide +kernel) rfl (fun c15 => ?_) (fun c15 => ?_)
          · replace vc := vc.1 c15
            refine e_aload_n (show pAt 98 77 = some (77, .aload_n 0, 1, []) from by decide +kernel) rfl (ra (by decide)) ?_
            refine e_gR (show pAt 98 78 = some (78, .getfield 56, 3, [6, 9, 0, 2031]) from by decide +kernel) (show HS h5 from hs_h5) rfl (by decide) (hs_ref (show HS h5 from hs_h5) rfl) ?_
            refine e_iload_n (show pAt 98 81 = some (81, .iload_n 1, 1, []) from by decide +kernel) rfl ?_
            refine e_iload_n (show pAt 98 82 = some (82, .iload_n 2, 1, []) from by decide +kernel) rfl ?_
            refine e_iload (show pAt 98 83 = some (83, .iload 5, 2, []) from by decide +kernel) rfl ?_
            refine Ends.call (show pAt 98 85 = some (85, .invokevirtual 243, 3, [37, 4, 0, 1, 4112, 4114, 53]) from by decide +kernel) (isRet_none rfl) rfl (call_this (show HS h5 from hs_h5) rfl rfl (by decide)) (Ends.mono vc ?_)
            rintro _ h16 ⟨r17, rfl, hs_h16, vc⟩
            refine e_if (t := 106) (show pAt 98 88 = some (88, .ifCond .eq 18, 3, []) from by decide +kernel) rfl (fun c19 => ?_) (fun c19 => ?_)
            · replace vc := vc.1 c19
              refine e_bipush (c := (-13)) (show pAt 98 106 = some (106, .bipush (-13), 2, []) from by decide +kernel) (by decide) ?_
              exact e_retI (show pAt 98 108 = some (108, .ireturn, 1, []) from by decide +kernel) rfl vc
            · replace vc := vc.2 c19
              refine e_aload_n (show pAt 98 91 = some (91, .aload_n 0, 1, []) from by decide +kernel) rfl (ra (by decide)) ?_
              refine e_gR (show pAt 98 92 = some (92, .getfield 56, 3, [6, 9, 0, 2031]) from by decide +kernel) (show HS h16 from hs_h16) rfl (by decide) (hs_ref (show HS h16 from hs_h16) rfl) ?_
              refine e_iload_n (show pAt 98 95 = some (95, .iload_n 3, 1, []) from by decide +kernel) rfl ?_
              refine e_iload (show pAt 98 96 = some (96, .iload 4, 2, []) from by decide +kernel) rfl ?_
              refine e_iload (show pAt 98 98 = some (98, .iload 5, 2, []) from by decide +kernel) rfl ?_
              refine Ends.call (show pAt 98 100 = some (100, .invokevirtual 243, 3, [37, 4, 0, 1, 4112, 4114, 53]) from by decide +kernel) (isRet_none rfl) rfl (call_this (show HS h16 from hs_h16) rfl rfl (by decide)) (Ends.mono vc ?_)
              rintro _ h20 ⟨r21, rfl, hs_h20, vc⟩
              refine e_if (t := 109) (show pAt 98 103 = some (103, .ifCond .ne 6, 3, []) from by decide +kernel) rfl (fun c23 => ?_) (fun c23 => ?_)
              · replace vc := vc.1 c23
                exact vc
              · replace vc := vc.2 c23
                refine e_bipush (c := (-13)) (show pAt 98 106 = some (106, .bipush (-13), 2, []) from by decide +kernel) (by decide) ?_
                exact e_retI (show pAt 98 108 = some (108, .ireturn, 1, []) from by decide +kernel) rfl vc
          · replace vc := vc.2 c15
            refine e_bipush (c := (-12)) (show pAt 98 74 = some (74, .bipush (-12), 2, []) from by decide +kernel) (by decide) ?_
            exact e_retI (show pAt 98 76 = some (76, .ireturn, 1, []) from by decide +kernel) rfl vc
        · replace vc := vc.2 c12
          refine e_bipush (c := (-11)) (show pAt 98 50 = some (50, .bipush (-11), 2, []) from by decide +kernel) (by decide) ?_
          exact e_retI (show pAt 98 52 = some (52, .ireturn, 1, []) from by decide +kernel) rfl vc
    · replace vc := vc.2 c8
      refine e_iconst (c := (-1)) (show pAt 98 22 = some (22, .iconst (-1), 1, []) from by decide +kernel) (by decide) ?_
      exact e_retI (show pAt 98 23 = some (23, .ireturn, 1, []) from by decide +kernel) rfl vc
end JN70more
section JN71shift
/-! shift of both sides, exactly. -/
section SH
variable {X : Scr} {dp : Nat} {h : Hp} {Q : Option Value → Hp → Prop}
theorem in_ok (x lo hi : Int32) (hs : HS h) (hQ : Q (some (.int (b2i (decide (lo.toInt ≤ x.toInt) && decide (x.toInt ≤ hi.toInt))))) h) : Ends X dp 109 0 [.ref 93, .int x, .int lo, .int hi] [] h Q := by
  refine w_in x lo hi hs ⟨fun e => ?_, fun e => ⟨fun e2 => ?_, fun e2 => ?_⟩⟩
  · have e : x.toInt < lo.toInt := of_decide_eq_true (cI e)
    rwa [decide_eq_false (by omega : ¬ lo.toInt ≤ x.toInt)] at hQ
  · have e : ¬ x.toInt < lo.toInt := of_decide_eq_false (cI e)
    have e2 : hi.toInt < x.toInt := of_decide_eq_true (cI e2)
    rwa [decide_eq_true (by omega : lo.toInt ≤ x.toInt), decide_eq_false (by omega : ¬ x.toInt ≤ hi.toInt)] at hQ
  · have e : ¬ x.toInt < lo.toInt := of_decide_eq_false (cI e)
    have e2 : ¬ hi.toInt < x.toInt := of_decide_eq_false (cI e2)
    rwa [decide_eq_true (by omega : lo.toInt ≤ x.toInt), decide_eq_true (by omega : x.toInt ≤ hi.toInt)] at hQ
theorem person_ok (p : Int32) (hh : HI h) (hQ : Q (some (.int (b2i (decide (0 ≤ p.toInt) && decide (p.toInt < (h.2.1 93 0).toInt))))) h) : Ends X (dp + 1) 112 0 [.ref 93, .int p] [] h Q := by
  have hp := hh.iv 93 0 (r := (0, 7)) rfl
  simp only at hp
  refine w_isPerson p hh.hs (in_ok _ _ _ hh.hs ⟨_, rfl, hh.hs, b2i_01 _, ?_⟩)
  have e : (h.2.1 93 0 - 1).toInt = (h.2.1 93 0).toInt - 1 := by rw [i_sub (by rw [i1]; omega) (by rw [i1]; omega), i1]
  rw [e, z0]
  have : decide (p.toInt ≤ (h.2.1 93 0).toInt - 1) = decide (p.toInt < (h.2.1 93 0).toInt) := by
    apply decide_eq_decide.mpr
    omega
  rw [this]
  exact hQ
theorem i5 : (5 : Int32).toInt = 5 := rfl
theorem i6 : (6 : Int32).toInt = 6 := rfl
theorem i60 : (60 : Int32).toInt = 60 := rfl
theorem tape_ok (t : Int32) (hs : HS h) (hQ : Q (some (.int (b2i (decide (0 ≤ t.toInt) && decide (t.toInt ≤ 5))))) h) : Ends X (dp + 1) 198 0 [.ref 93, .int t] [] h Q :=
  w_tp t hs (in_ok _ _ _ hs ⟨_, rfl, hs, b2i_01 _, hQ⟩)
theorem cex_ok (t : Int32) (hs : HS h) (hQ : Q (some (.int (b2i (decide (0 ≤ t.toInt) && decide (t.toInt ≤ 5))))) h) : Ends X dp 35 0 [.ref 53, .int t] [] h Q := by
  refine w_cex t hs ⟨fun e => ?_, fun e => ⟨fun e2 => ?_, fun e2 => ?_⟩⟩
  · have e : t.toInt < 0 := of_decide_eq_true (cI e)
    rwa [decide_eq_false (by omega : ¬ 0 ≤ t.toInt)] at hQ
  · have e : ¬ t.toInt < 0 := of_decide_eq_false (cI e)
    have e2 : 6 ≤ t.toInt := of_decide_eq_true (cI e2)
    rwa [decide_eq_true (by omega : 0 ≤ t.toInt), decide_eq_false (by omega : ¬ t.toInt ≤ 5)] at hQ
  · have e : ¬ t.toInt < 0 := of_decide_eq_false (cI e)
    have e2 : ¬ 6 ≤ t.toInt := of_decide_eq_false (cI e2)
    rwa [decide_eq_true (by omega : 0 ≤ t.toInt), decide_eq_true (by omega : t.toInt ≤ 5)] at hQ
theorem lgc {x y : Int64} : (lg_cmp x y).toInt = if x.toInt < y.toInt then -1 else if x.toInt = y.toInt then 0 else 1 := by
  rw [lg_cmp_sgn]
  unfold sgn
  split
  · rfl
  · split <;> rfl
theorem cpt_ok (t f n : Int32) (hh : HI h) (hQ : Q (some (.int (b2i (decide (0 ≤ t.toInt) && decide (t.toInt ≤ 5) && decide (0 ≤ f.toInt) && decide (0 ≤ n.toInt) && decide (f.toInt + n.toInt ≤ (h.2.1 55 t.toInt.toNat).toInt))))) h) : Ends X (dp + 1) 37 0 [.ref 53, .int t, .int f, .int n] [] h Q := by
  refine w_cpt t f n hh.hs (cex_ok t hh.hs ⟨_, rfl, hh.hs, fun e => ?_, fun e => ⟨fun e2 => ?_, fun e2 => ⟨fun e3 => ?_, fun e3 => ?_⟩⟩⟩)
  · have e : (b2i (decide (0 ≤ t.toInt) && decide (t.toInt ≤ 5))).toInt = 0 := of_decide_eq_true (cI e)
    rw [b2i_z] at e
    rwa [e] at hQ
  all_goals
    have e : ¬ (b2i (decide (0 ≤ t.toInt) && decide (t.toInt ≤ 5))).toInt = 0 := of_decide_eq_false (cI e)
    rw [b2i_z, Bool.not_eq_false] at e
    rw [e] at hQ
    simp only [Bool.and_eq_true, decide_eq_true_eq] at e
  · have e2 : f.toInt < 0 := of_decide_eq_true (cI e2)
    rwa [decide_eq_false (by omega : ¬ 0 ≤ f.toInt)] at hQ
  · have e2 : ¬ f.toInt < 0 := of_decide_eq_false (cI e2)
    have e3 : n.toInt < 0 := of_decide_eq_true (cI e3)
    rwa [decide_eq_true (by omega : 0 ≤ f.toInt), decide_eq_false (by omega : ¬ 0 ≤ n.toInt)] at hQ
  · have e2 : ¬ f.toInt < 0 := of_decide_eq_false (cI e2)
    have e3 : ¬ n.toInt < 0 := of_decide_eq_false (cI e3)
    have hf := i32r f
    have hn := i32r n
    simp only [fI] at hf hn
    have hl : (f.toInt64 + n.toInt64).toInt = f.toInt + n.toInt := by
      have a1 : f.toInt64.toInt = f.toInt := Int32.toInt_toInt64 f
      have a2 : n.toInt64.toInt = n.toInt := Int32.toInt_toInt64 n
      rw [l_add (by rw [a1, a2]; omega) (by rw [a1, a2]; omega), a1, a2]
    have hL : (h.2.1 55 t.toNatClampNeg).toInt64.toInt = (h.2.1 55 t.toInt.toNat).toInt := Int32.toInt_toInt64 _
    refine ⟨inB_iff (by omega) (by omega), fun e4 => ?_, fun e4 => ?_⟩
    · have e4 : 0 < (lg_cmp (f.toInt64 + n.toInt64) (h.2.1 55 t.toNatClampNeg).toInt64).toInt := of_decide_eq_true (cI e4)
      rw [lgc, hl, hL] at e4
      have : ¬ f.toInt + n.toInt ≤ (h.2.1 55 t.toInt.toNat).toInt := by
        split at e4
        · omega
        · split at e4 <;> omega
      rwa [decide_eq_false this, Bool.and_false] at hQ
    · have e4 : ¬ 0 < (lg_cmp (f.toInt64 + n.toInt64) (h.2.1 55 t.toNatClampNeg).toInt64).toInt := of_decide_eq_false (cI e4)
      rw [lgc, hl, hL] at e4
      have : f.toInt + n.toInt ≤ (h.2.1 55 t.toInt.toNat).toInt := by
        split at e4
        · omega
        · split at e4 <;> omega
      rwa [decide_eq_true this, decide_eq_true (by omega : 0 ≤ f.toInt), decide_eq_true (by omega : 0 ≤ n.toInt)] at hQ
end SH
/-- what shift answers, and whether it copies -/
def shAns (S L : Nat → Int32) (t i o j n : Int32) : Int32 × Bool :=
  if ¬ (0 ≤ t.toInt ∧ t.toInt ≤ 5) then (-1, false) else if ¬ (0 ≤ o.toInt ∧ o.toInt ≤ 5) then (-1, false)
  else if (S t.toInt.toNat).toInt < 0 then (-11, false) else if (S o.toInt.toNat).toInt < 0 then (-11, false)
  else if ¬ (S t.toInt.toNat).toInt = (S o.toInt.toNat).toInt then (-12, false)
  else if ¬ (0 ≤ i.toInt ∧ 0 ≤ n.toInt ∧ i.toInt + n.toInt ≤ (L t.toInt.toNat).toInt) then (-13, false)
  else if ¬ (0 ≤ j.toInt ∧ 0 ≤ n.toInt ∧ j.toInt + n.toInt ≤ (L o.toInt.toNat).toInt) then (-13, false) else (n, true)
/-- one array's stretch copied into another's -/
def hpC (h : Hp) (a b sp dp n : Nat) : Hp := (h.1, h.2.1, (fun x => if x = a then va_cpy (h.2.2.1 b) (h.2.2.1 a) sp dp n else h.2.2.1 x), h.2.2.2)
/-- the tapes' rows and the yards stand where they were laid -/
def RX (h : Hp) : Prop := (∀ i, i < 6 → h.2.2.2 56 i = some (57 + i)) ∧ ∀ i, i < 6 → h.2.2.2 38 i = some (63 + 5 * i)
theorem sh_rows : ∀ i, i < 6 → SHl[57 + i]? = some (.inl (1, 60)) := by decide +kernel
section SH2
variable {X : Scr} {dp y pc p0 len t : Nat} {o : List Nat} {L st : List Value} {h : Hp} {Q : Option Value → Hp → Prop}
theorem e_aald {a n b t : Nat} {j : Int32} (he : pAt y pc = some (p0, .aaload, len, o)) (hs : HS h) (ha : (decide (a < 1000) && decide (SHl[a]? = some (.inl (t, n))) && (decide (t = 3) || decide (t = 4))) = true) (hj : inB j n = true) (hb : h.2.2.2 a j.toNatClampNeg = some b) (hb2 : b < 1000) (e : Ends X dp y (pc + 1) L (.ref b :: st) h Q) : Ends X dp y pc L (.int j :: .ref a :: st) h Q := by
  simp only [Bool.and_eq_true, decide_eq_true_eq, Bool.or_eq_true] at ha
  refine e_pure he rfl rfl ?_ e
  have hB := OLDB_eq
  have h6 : a < OLDB := by omega
  have h7 : b < OLDB := by omega
  simp only [hstep]
  rw [if_pos h6, hs.1, ha.1.2]
  simp only
  rw [if_pos ⟨ha.2, hj⟩, hb]
  simp only
  rw [if_pos h7]
theorem e_cpyL {a b m m' idx z w v : Nat} {n dpi sp : Int32} (he : pAt y pc = some (p0, .invokestatic idx, len, [9998, z, w, v, t])) (hs : HS h) (ha : a < 1000) (hb : b < 1000) (hsa : SHl[a]? = some (.inl (1, m))) (hsb : SHl[b]? = some (.inl (1, m'))) (h1 : 0 ≤ sp.toInt) (h2 : 0 ≤ dpi.toInt) (h3 : 0 ≤ n.toInt) (h4 : sp.toInt.toNat + n.toInt.toNat ≤ m') (h5 : dpi.toInt.toNat + n.toInt.toNat ≤ m)
    (e : Ends X dp y (pc + 3) L [] (hpC h a b sp.toInt.toNat dpi.toInt.toNat n.toInt.toNat) Q) : Ends X dp y pc L [.int n, .int dpi, .ref a, .int sp, .ref b] h Q := by
  have neg : ∀ x : Int32, 0 ≤ x.toInt → ¬ x < 0 := fun x hx q => by
    have := Int32.lt_iff_toInt_lt.mp q
    rw [z0] at this
    omega
  have hB := OLDB_eq
  have hc : copyA [.int n, .int dpi, .ref a, .int sp, .ref b] h = some ([], hpC h a b sp.toInt.toNat dpi.toInt.toNat n.toInt.toNat) := by
    have g : a < OLDB ∧ b < OLDB ∧ ¬ sp < 0 ∧ ¬ dpi < 0 ∧ ¬ n < 0 ∧ catSum [] ≤ 8 := ⟨by omega, by omega, neg _ h1, neg _ h2, neg _ h3, by decide⟩
    simp only [copyA]
    rw [if_pos g, hs.1, hsa, hsb]
    simp only
    have g2 : True ∧ sp.toNatClampNeg + n.toNatClampNeg ≤ m' ∧ dpi.toNatClampNeg + n.toNatClampNeg ≤ m := ⟨trivial, h4, h5⟩
    rw [if_pos g2, if_neg (by decide), if_pos trivial]
    unfold hpC
    rw [hs.1]
    rfl
  refine Ends.step he (isRet_none rfl) rfl (pc' := pc + 3) (L' := L) (st' := []) (h' := hpC h a b sp.toInt.toNat dpi.toInt.toNat n.toInt.toNat) ?_ e
  show (copyA [.int n, .int dpi, .ref a, .int sp, .ref b] h).map _ = _
  rw [hc]
  rfl
end SH2
end JN71shift
section JN72shifttail
/-! The tail of shift of the class: what is owed for it. -/
theorem w_cshT {X : Scr} {dp : Nat} {h : Hp} {Q : Option Value → Hp → Prop} (t : Int32) (i : Int32) (o : Int32) (j : Int32) (n : Int32) (hs : HS h)
    (vc : (∃ b1 : Nat, (inB t 6 = true ∧ (h.2.2.2 56 t.toNatClampNeg = some b1 ∧ (b1 < 1000 ∧ (∃ b5 : Nat, (inB o 6 = true ∧ (h.2.2.2 56 o.toNatClampNeg = some b5 ∧ (b5 < 1000 ∧ (SHl[b5]? = some (.inl (1, 60)) ∧ (SHl[b1]? = some (.inl (1, 60)) ∧ (b5 < 1000 ∧ (b1 < 1000 ∧ (0 ≤ i.toInt ∧ (0 ≤ j.toInt ∧ (0 ≤ n.toInt ∧ (i.toInt.toNat + n.toInt.toNat ≤ 60 ∧ (j.toInt.toNat + n.toInt.toNat ≤ 60 ∧ Q (some (.int n)) (hpC h b5 b1 i.toInt.toNat j.toInt.toNat n.toInt.toNat))))))))))))))))))) :
    Ends X dp 98 109 [.ref 0, .int t, .int i, .int o, .int j, .int n] [] h Q := by
  have ra : ∀ {a : Nat}, a < 1000 → a ≤ OLDB := fun h => by have := OLDB_eq; omega
  refine e_aload_n (show pAt 98 109 = some (109, .aload_n 0, 1, []) from by decide +kernel) rfl (ra (by decide)) ?_
  refine e_gR (show pAt 98 110 = some (110, .getfield 56, 3, [6, 9, 0, 2031]) from by decide +kernel) (show HS h from hs) rfl (by decide) (hs_ref (show HS h from hs) rfl) ?_
  refine e_gR (show pAt 98 113 = some (113, .getfield 205, 3, [3, 2, 1, 2013]) from by decide +kernel) (show HS h from hs) rfl (by decide) (hs_ref (show HS h from hs) rfl) ?_
  refine e_iload_n (show pAt 98 116 = some (116, .iload_n 1, 1, []) from by decide +kernel) rfl ?_
  obtain ⟨b1, c2, c3, c4, vc⟩ := vc
  refine e_aald (t := 4) (show pAt 98 117 = some (117, .aaload, 1, []) from by decide +kernel) (show HS h from hs) (by decide) c2 c3 c4 ?_
  refine e_iload_n (show pAt 98 118 = some (118, .iload_n 2, 1, []) from by decide +kernel) rfl ?_
  refine e_aload_n (show pAt 98 119 = some (119, .aload_n 0, 1, []) from by decide +kernel) rfl (ra (by decide)) ?_
  refine e_gR (show pAt 98 120 = some (120, .getfield 56, 3, [6, 9, 0, 2031]) from by decide +kernel) (show HS h from hs) rfl (by decide) (hs_ref (show HS h from hs) rfl) ?_
  refine e_gR (show pAt 98 123 = some (123, .getfield 205, 3, [3, 2, 1, 2013]) from by decide +kernel) (show HS h from hs) rfl (by decide) (hs_ref (show HS h from hs) rfl) ?_
  refine e_iload_n (show pAt 98 126 = some (126, .iload_n 3, 1, []) from by decide +kernel) rfl ?_
  obtain ⟨b5, c6, c7, c8, vc⟩ := vc
  refine e_aald (t := 4) (show pAt 98 127 = some (127, .aaload, 1, []) from by decide +kernel) (show HS h from hs) (by decide) c6 c7 c8 ?_
  refine e_iload (show pAt 98 128 = some (128, .iload 4, 2, []) from by decide +kernel) rfl ?_
  refine e_iload (show pAt 98 130 = some (130, .iload 5, 2, []) from by decide +kernel) rfl ?_
  obtain ⟨c9, c10, c11, c12, c13, c14, c15, c16, c17, vc⟩ := vc
  refine e_cpyL (show pAt 98 132 = some (132, .invokestatic 247, 3, [9998, 5, 2, 0, 4116]) from by decide +kernel) (show HS h from hs) c11 c12 c9 c10 c13 c14 c15 c16 c17 ?_
  refine e_iload (show pAt 98 135 = some (135, .iload 5, 2, []) from by decide +kernel) rfl ?_
  exact e_retI (show pAt 98 137 = some (137, .ireturn, 1, []) from by decide +kernel) rfl vc
end JN72shifttail
section JN73shift2
/-! shift of both sides, exactly: the walks. -/
theorem m1 : (-1 : Int32).toInt = -1 := rfl
theorem nb {b : Bool} : ¬ (b2i b).toInt = 0 ↔ b = true := by rw [b2i_z, Bool.not_eq_false]
theorem cz {b : Bool} (h : condB .eq (b2i b) 0 = true) : b = false := b2i_z.mp (of_decide_eq_true (cI h))
theorem cn {b : Bool} (h : condB .eq (b2i b) 0 = false) : b = true := nb.mp (of_decide_eq_false (cI h))
theorem cz2 {b : Bool} (h : condB .ne (b2i b) 0 = false) : b = false := b2i_z.mp (Decidable.not_not.mp (of_decide_eq_false (cI h)))
theorem cn2 {b : Bool} (h : condB .ne (b2i b) 0 = true) : b = true := nb.mp (of_decide_eq_true (cI h))
theorem csh_ok {X : Scr} {dp : Nat} {h : Hp} {Q : Option Value → Hp → Prop} (t i o j n : Int32) (hh : HI h) (hr : RX h)
    (hQ : Q (some (.int (shAns (h.2.1 54) (h.2.1 55) t i o j n).1)) (if (shAns (h.2.1 54) (h.2.1 55) t i o j n).2 = true then hpC h (57 + o.toInt.toNat) (57 + t.toInt.toNat) i.toInt.toNat j.toInt.toNat n.toInt.toNat else h)) :
    Ends X (dp + 1 + 1) 98 0 [.ref 0, .int t, .int i, .int o, .int j, .int n] [] h Q := by
  have hs := hh.hs
  unfold shAns at hQ
  refine w_csh t i o j n hs (cex_ok t hs ⟨_, rfl, hs, fun e1 => ?_, fun e1 => cex_ok o hs ⟨_, rfl, hs, fun e2 => ?_, fun e2 => ?_⟩⟩)
  · have e1 := cz e1
    rw [if_pos (by simpa using e1)] at hQ
    exact hQ
  · have e1 := cn e1
    have e2 := cn2 e2
    rw [Bool.and_eq_true, decide_eq_true_eq, decide_eq_true_eq] at e1 e2
    rw [if_neg (Decidable.not_not.mpr e1), if_neg (Decidable.not_not.mpr e2)] at hQ
    have hst := hh.iv 54 t.toInt.toNat (r := (-1, 4)) rfl
    have hso := hh.iv 54 o.toInt.toNat (r := (-1, 4)) rfl
    simp only at hst hso
    refine ⟨inB_iff (by omega) (by omega), fun e3 => ?_, fun e3 => ⟨inB_iff (by omega) (by omega), fun e4 => ⟨inB_iff (by omega) (by omega), inB_iff (by omega) (by omega), fun e5 => ?_, fun e5 => ?_⟩, fun e4 => ?_⟩⟩
    · have e3 : (h.2.1 54 t.toInt.toNat).toInt = -1 := of_decide_eq_true (cI e3)
      rw [if_pos (by omega)] at hQ
      exact hQ
    · have e3 : ¬ (h.2.1 54 t.toInt.toNat).toInt = -1 := of_decide_eq_false (cI e3)
      have e4 : ¬ (h.2.1 54 o.toInt.toNat).toInt = -1 := of_decide_eq_true (cI e4)
      have e5 : (h.2.1 54 t.toInt.toNat).toInt = (h.2.1 54 o.toInt.toNat).toInt := of_decide_eq_true (cI e5)
      rw [if_neg (by omega), if_neg (by omega), if_neg (Decidable.not_not.mpr e5)] at hQ
      refine cpt_ok t i n hh ⟨_, rfl, hs, fun e6 => ?_, fun e6 => cpt_ok o j n hh ⟨_, rfl, hs, fun e7 => ?_, fun e7 => ?_⟩⟩
      · have e6 := cz e6
        rw [decide_eq_true e1.1, decide_eq_true e1.2] at e6
        simp only [Bool.true_and, Bool.and_eq_false_iff, decide_eq_false_iff_not] at e6
        rw [if_pos (by omega)] at hQ
        exact hQ
      · have e6 := cn e6
        have e7 := cn2 e7
        simp only [Bool.and_eq_true, decide_eq_true_eq] at e6 e7
        rw [if_neg (by omega), if_neg (by omega), if_pos rfl] at hQ
        have l1 := hh.iv 55 t.toInt.toNat (r := (0, 60)) rfl
        have l2 := hh.iv 55 o.toInt.toNat (r := (0, 60)) rfl
        simp only at l1 l2
        have r1 := hr.1 t.toInt.toNat (by omega)
        have r2 := hr.1 o.toInt.toNat (by omega)
        have z1 := sh_rows t.toInt.toNat (by omega)
        have z2 := sh_rows o.toInt.toNat (by omega)
        exact w_cshT t i o j n hs ⟨57 + t.toInt.toNat, inB_iff (by omega) (by omega), r1, by omega, 57 + o.toInt.toNat, inB_iff (by omega) (by omega), r2, by omega, z2, z1, by omega, by omega, by omega, by omega, by omega, by omega, by omega, hQ⟩
      · have e6 := cn e6
        have e7 := cz2 e7
        simp only [Bool.and_eq_true, decide_eq_true_eq] at e6
        rw [decide_eq_true e2.1, decide_eq_true e2.2] at e7
        simp only [Bool.true_and, Bool.and_eq_false_iff, decide_eq_false_iff_not] at e7
        rw [if_neg (by omega), if_pos (by omega)] at hQ
        exact hQ
    · have e3 : ¬ (h.2.1 54 t.toInt.toNat).toInt = -1 := of_decide_eq_false (cI e3)
      have e4 : ¬ (h.2.1 54 o.toInt.toNat).toInt = -1 := of_decide_eq_true (cI e4)
      have e5 : ¬ (h.2.1 54 t.toInt.toNat).toInt = (h.2.1 54 o.toInt.toNat).toInt := of_decide_eq_false (cI e5)
      rw [if_neg (by omega), if_neg (by omega), if_pos e5] at hQ
      exact hQ
    · have e3 : ¬ (h.2.1 54 t.toInt.toNat).toInt = -1 := of_decide_eq_false (cI e3)
      have e4 : ¬ ¬ (h.2.1 54 o.toInt.toNat).toInt = -1 := of_decide_eq_false (cI e4)
      rw [if_neg (by omega), if_pos (by omega)] at hQ
      exact hQ
  · have e1 := cn e1
    have e2 := cz2 e2
    rw [Bool.and_eq_true, decide_eq_true_eq, decide_eq_true_eq] at e1
    rw [if_neg (Decidable.not_not.mpr e1), if_pos (by simpa using e2)] at hQ
    exact hQ
def WSh : List (Nat × Nat) := [(125, 999), (126, 999)]
theorem WSh_1 {k : Nat} : inW WSh 125 k = true := by simp [inW, WSh]
theorem WSh_2 {k : Nat} : inW WSh 126 k = true := by simp [inW, WSh]
theorem frm_putL {W : List (Nat × Nat)} {h0 h : Hp} {a k : Nat} {x : Int64} (hf : frm W h0 h) (hw : inW W a k = true) : frm W h0 (hpL h a k x) := frm_trans hf (frm_udL hw)
theorem HI_putL {h : Hp} {a k : Nat} {x : Int64} (hh : HI h) : HI (hpL h a k x) := hh
theorem putL_at {h : Hp} {a k : Nat} {x : Int64} : (hpL h a k x).2.2.1 a k = x := by
  show ud h.2.2.1 a k x a k = x
  simp [ud]
theorem putL_ne {h : Hp} {a k b j : Nat} {x : Int64} (hn : ¬ (b = a ∧ j = k)) : (hpL h a k x).2.2.1 b j = h.2.2.1 b j := by
  show ud h.2.2.1 a k x b j = _
  unfold ud
  by_cases hb : b = a
  · rw [if_pos hb]
    by_cases hj : j = k
    · exact absurd ⟨hb, hj⟩ hn
    · simp only [if_neg hj]
      rw [hb]
  · rw [if_neg hb]
section MSH
variable {X : Scr} {dp : Nat} {h0 : Hp} {Q : Option Value → Hp → Prop}
theorem idx_ok {t i k : Int32} {tn i_n kn : Nat} (ht : t.toInt = tn) (hi : i.toInt = i_n) (hk : k.toInt = kn) (h1 : tn ≤ 5) (h2 : i_n + kn < 60) : (60 * t + i + k).toInt = ((60 * tn + i_n + kn : Nat) : Int) := by
  have e1 : (60 * t).toInt = 60 * (tn : Int) := by rw [i_mul (by rw [i60]; omega) (by rw [i60]; omega), i60, ht]
  generalize 60 * t = u at e1 ⊢
  have e2 : (u + i).toInt = 60 * (tn : Int) + i_n := by rw [i_add (by omega) (by omega)]; omega
  generalize u + i = v at e2 ⊢
  rw [i_add (by omega) (by omega)]
  omega
theorem msh_2 (t i o j n : Int32) (tn i_n on jn nn : Nat) (ht : t.toInt = tn) (hi : i.toInt = i_n) (ho : o.toInt = on) (hj : j.toInt = jn) (hn : n.toInt = nn) (h1 : tn ≤ 5) (h2 : on ≤ 5) (h3 : i_n + nn ≤ 60) (h4 : jn + nn ≤ 60)
    (hQ : ∀ h', HI h' → frm WSh h0 h' → (∀ x, h'.2.2.1 125 x = va_cpy (h0.2.2.1 125) (h0.2.2.1 125) (60 * tn + i_n) (60 * on + jn) nn x) → Q (some (.int n)) h') :
    ∀ (m kn : Nat) (k : Int32) (h : Hp), HI h → frm WSh h0 h → k.toInt = kn → kn + m = nn → (∀ q, q < nn → h.2.2.1 126 q = h0.2.2.1 125 (60 * tn + i_n + q)) → (∀ x, h.2.2.1 125 x = va_cpy (h0.2.2.1 125) (h0.2.2.1 125) (60 * tn + i_n) (60 * on + jn) kn x) →
    Ends X dp 203 141 [.ref 93, .int t, .int i, .int o, .int j, .int n, .int k] [] h Q
  | m, kn, k, h, hh, hf, hk, hm, ha, hb => by
    refine w_sh2 t i o j n k hh.hs ⟨fun e => ?_, fun e => ?_⟩
    · have e : n.toInt ≤ k.toInt := of_decide_eq_true (cI e)
      have : kn = nn := by omega
      rw [this] at hb
      exact hQ h hh hf hb
    · have e : ¬ n.toInt ≤ k.toInt := of_decide_eq_false (cI e)
      match m, hm with
      | 0, hm => omega
      | m + 1, hm =>
        have hx := idx_ok ho hj hk h2 (by omega)
        have hk1 : (k + 1).toInt = ((kn + 1 : Nat) : Int) := by rw [i_add (by rw [i1]; omega) (by rw [i1]; omega), i1]; omega
        generalize 60 * o + j + k = u at hx ⊢
        generalize k + 1 = k1 at hk1 ⊢
        have q1 : u.toNatClampNeg = 60 * on + jn + kn := by show u.toInt.toNat = _; omega
        have q2 : k.toNatClampNeg = kn := by show k.toInt.toNat = _; omega
        refine ⟨inB_iff (by omega) (by omega), inB_iff (by omega) (by omega), ?_⟩
        rw [q1, q2, ha kn (by omega)]
        refine msh_2 t i o j n tn i_n on jn nn ht hi ho hj hn h1 h2 h3 h4 hQ m (kn + 1) k1 _ (HI_putL hh) (frm_putL hf WSh_1) hk1 (by omega) (fun q hq => ?_) (fun x => ?_)
        · rw [putL_ne (by omega)]
          exact ha q hq
        · by_cases c : x = 60 * on + jn + kn
          · rw [c, putL_at]
            unfold va_cpy
            rw [if_pos (by omega), show 60 * on + jn + kn - (60 * on + jn) = kn by omega]
          · rw [putL_ne (by omega), hb x]
            unfold va_cpy
            by_cases d : 60 * on + jn ≤ x ∧ x < 60 * on + jn + kn
            · rw [if_pos d, if_pos (by omega)]
            · rw [if_neg d, if_neg (by omega)]
theorem msh_1 (t i o j n : Int32) (tn i_n on jn nn : Nat) (ht : t.toInt = tn) (hi : i.toInt = i_n) (ho : o.toInt = on) (hj : j.toInt = jn) (hn : n.toInt = nn) (h1 : tn ≤ 5) (h2 : on ≤ 5) (h3 : i_n + nn ≤ 60) (h4 : jn + nn ≤ 60)
    (hQ : ∀ h', HI h' → frm WSh h0 h' → (∀ x, h'.2.2.1 125 x = va_cpy (h0.2.2.1 125) (h0.2.2.1 125) (60 * tn + i_n) (60 * on + jn) nn x) → Q (some (.int n)) h') :
    ∀ (m kn : Nat) (k : Int32) (h : Hp), HI h → frm WSh h0 h → k.toInt = kn → kn + m = nn → (∀ q, q < kn → h.2.2.1 126 q = h0.2.2.1 125 (60 * tn + i_n + q)) → (∀ x, h.2.2.1 125 x = h0.2.2.1 125 x) →
    Ends X dp 203 104 [.ref 93, .int t, .int i, .int o, .int j, .int n, .int k] [] h Q
  | m, kn, k, h, hh, hf, hk, hm, ha, hb => by
    refine w_sh1 t i o j n k hh.hs ⟨fun e => ?_, fun e => ?_⟩
    · have e : n.toInt ≤ k.toInt := of_decide_eq_true (cI e)
      have : kn = nn := by omega
      refine msh_2 t i o j n tn i_n on jn nn ht hi ho hj hn h1 h2 h3 h4 hQ nn 0 0 h hh hf rfl (by omega) (fun q hq => ha q (by omega)) (fun x => ?_)
      rw [hb x]
      unfold va_cpy
      rw [if_neg (by omega)]
    · have e : ¬ n.toInt ≤ k.toInt := of_decide_eq_false (cI e)
      match m, hm with
      | 0, hm => omega
      | m + 1, hm =>
        have hx := idx_ok ht hi hk h1 (by omega)
        have hk1 : (k + 1).toInt = ((kn + 1 : Nat) : Int) := by rw [i_add (by rw [i1]; omega) (by rw [i1]; omega), i1]; omega
        generalize 60 * t + i + k = u at hx ⊢
        generalize k + 1 = k1 at hk1 ⊢
        have q1 : u.toNatClampNeg = 60 * tn + i_n + kn := by show u.toInt.toNat = _; omega
        have q2 : k.toNatClampNeg = kn := by show k.toInt.toNat = _; omega
        refine ⟨inB_iff (by omega) (by omega), inB_iff (by omega) (by omega), ?_⟩
        rw [q1, q2, hb]
        refine msh_1 t i o j n tn i_n on jn nn ht hi ho hj hn h1 h2 h3 h4 hQ m (kn + 1) k1 _ (HI_putL hh) (frm_putL hf WSh_2) hk1 (by omega) (fun q hq => ?_) (fun x => ?_)
        · by_cases c : q = kn
          · rw [c, putL_at]
          · rw [putL_ne (by omega)]
            exact ha q (by omega)
        · rw [putL_ne (by omega)]
          exact hb x
end MSH
/-- the reference's shift -/
theorem msh_ok {X : Scr} {dp : Nat} {h : Hp} {Q : Option Value → Hp → Prop} (t i o j n : Int32) (hh : HI h)
    (hQ : ∀ h', HI h' → frm WSh h h' → ((shAns (h.2.1 123) (h.2.1 124) t i o j n).2 = false → h' = h) → ((shAns (h.2.1 123) (h.2.1 124) t i o j n).2 = true → ∀ x, h'.2.2.1 125 x = va_cpy (h.2.2.1 125) (h.2.2.1 125) (60 * t.toInt.toNat + i.toInt.toNat) (60 * o.toInt.toNat + j.toInt.toNat) n.toInt.toNat x) → Q (some (.int (shAns (h.2.1 123) (h.2.1 124) t i o j n).1)) h') :
    Ends X (dp + 1 + 1) 203 0 [.ref 93, .int t, .int i, .int o, .int j, .int n, .retAddr 0] [] h Q := by
  have hs := hh.hs
  have no : (shAns (h.2.1 123) (h.2.1 124) t i o j n).2 = false → Q (some (.int (shAns (h.2.1 123) (h.2.1 124) t i o j n).1)) h := fun e => hQ h hh frm_refl (fun _ => rfl) (fun e2 => by rw [e] at e2; cases e2)
  unfold shAns at no hQ
  refine w_sh0 t i o j n hs (tape_ok t hs ⟨_, rfl, hs, fun e1 => ?_, fun e1 => tape_ok o hs ⟨_, rfl, hs, fun e2 => ?_, fun e2 => ?_⟩⟩)
  · have e1 := cz e1
    rw [if_pos (by simpa using e1)] at no
    exact no rfl
  · have e1 := cn e1
    have e2 := cn2 e2
    rw [Bool.and_eq_true, decide_eq_true_eq, decide_eq_true_eq] at e1 e2
    rw [if_neg (Decidable.not_not.mpr e1), if_neg (Decidable.not_not.mpr e2)] at no hQ
    have hst := hh.iv 123 t.toInt.toNat (r := (-1, 4)) rfl
    have hso := hh.iv 123 o.toInt.toNat (r := (-1, 4)) rfl
    have l1 := hh.iv 124 t.toInt.toNat (r := (0, 60)) rfl
    have l2 := hh.iv 124 o.toInt.toNat (r := (0, 60)) rfl
    simp only at hst hso l1 l2
    refine ⟨inB_iff (by omega) (by omega), fun e3 => ?_, fun e3 => ⟨inB_iff (by omega) (by omega), fun e4 => ⟨inB_iff (by omega) (by omega), inB_iff (by omega) (by omega), fun e5 => ⟨fun e6 => ?_, fun e6 => ⟨fun e7 => ?_, fun e7 => ⟨fun e8 => ?_, fun e8 => ⟨inB_iff (by omega) (by omega), fun e9 => ?_, fun e9 => ⟨inB_iff (by omega) (by omega), fun e10 => ?_, fun e10 => ?_⟩⟩⟩⟩⟩, fun e5 => ?_⟩, fun e4 => ?_⟩⟩
    · have e3 : (h.2.1 123 t.toInt.toNat).toInt < 0 := of_decide_eq_true (cI e3)
      rw [if_pos e3] at no
      exact no rfl
    all_goals have e3 : ¬ (h.2.1 123 t.toInt.toNat).toInt < 0 := of_decide_eq_false (cI e3)
    all_goals rw [if_neg e3] at no hQ
    all_goals try
      have e4 : 0 ≤ (h.2.1 123 o.toInt.toNat).toInt := of_decide_eq_true (cI e4)
      rw [if_neg (by omega)] at no hQ
    all_goals try
      have e5 : (h.2.1 123 t.toInt.toNat).toInt = (h.2.1 123 o.toInt.toNat).toInt := of_decide_eq_true (cI e5)
      rw [if_neg (Decidable.not_not.mpr e5)] at no hQ
    · have e6 : n.toInt < 0 := of_decide_eq_true (cI e6)
      rw [if_pos (by omega)] at no
      exact no rfl
    · have e6 : ¬ n.toInt < 0 := of_decide_eq_false (cI e6)
      have e7 : i.toInt < 0 := of_decide_eq_true (cI e7)
      rw [if_pos (by omega)] at no
      exact no rfl
    all_goals try
      have e6 : ¬ n.toInt < 0 := of_decide_eq_false (cI e6)
      have e7 : ¬ i.toInt < 0 := of_decide_eq_false (cI e7)
    · have e8 : j.toInt < 0 := of_decide_eq_true (cI e8)
      by_cases c : 0 ≤ i.toInt ∧ 0 ≤ n.toInt ∧ i.toInt + n.toInt ≤ (h.2.1 124 t.toInt.toNat).toInt
      · rw [if_neg (Decidable.not_not.mpr c), if_pos (by omega)] at no
        exact no rfl
      · rw [if_pos c] at no
        exact no rfl
    · have e8 : ¬ j.toInt < 0 := of_decide_eq_false (cI e8)
      have hn := i32r n
      simp only [fI] at hn
      have sb : (h.2.1 124 t.toInt.toNat - n).toInt = (h.2.1 124 t.toInt.toNat).toInt - n.toInt := i_sub (by omega) (by omega)
      have e9 : (h.2.1 124 t.toInt.toNat - n).toInt < i.toInt := of_decide_eq_true (cI e9)
      rw [sb] at e9
      rw [if_pos (by omega)] at no
      exact no rfl
    · have e8 : ¬ j.toInt < 0 := of_decide_eq_false (cI e8)
      have hn := i32r n
      simp only [fI] at hn
      have sb : (h.2.1 124 t.toInt.toNat - n).toInt = (h.2.1 124 t.toInt.toNat).toInt - n.toInt := i_sub (by omega) (by omega)
      have sb2 : (h.2.1 124 o.toInt.toNat - n).toInt = (h.2.1 124 o.toInt.toNat).toInt - n.toInt := i_sub (by omega) (by omega)
      have e9 : ¬ (h.2.1 124 t.toInt.toNat - n).toInt < i.toInt := of_decide_eq_false (cI e9)
      have e10 : j.toInt ≤ (h.2.1 124 o.toInt.toNat - n).toInt := of_decide_eq_true (cI e10)
      rw [sb] at e9
      rw [sb2] at e10
      rw [if_neg (by omega), if_neg (by omega)] at hQ
      exact msh_1 (h0 := h) t i o j n t.toInt.toNat i.toInt.toNat o.toInt.toNat j.toInt.toNat n.toInt.toNat (by omega) (by omega) (by omega) (by omega) (by omega) (by omega) (by omega) (by omega) (by omega) (fun h' a1 a2 a3 => hQ h' a1 a2 (fun q => by cases q) (fun _ => a3)) n.toInt.toNat 0 0 h hh frm_refl rfl (by omega) (fun q hq => by omega) (fun _ => rfl)
    · have e8 : ¬ j.toInt < 0 := of_decide_eq_false (cI e8)
      have hn := i32r n
      simp only [fI] at hn
      have sb : (h.2.1 124 t.toInt.toNat - n).toInt = (h.2.1 124 t.toInt.toNat).toInt - n.toInt := i_sub (by omega) (by omega)
      have sb2 : (h.2.1 124 o.toInt.toNat - n).toInt = (h.2.1 124 o.toInt.toNat).toInt - n.toInt := i_sub (by omega) (by omega)
      have e9 : ¬ (h.2.1 124 t.toInt.toNat - n).toInt < i.toInt := of_decide_eq_false (cI e9)
      have e10 : ¬ j.toInt ≤ (h.2.1 124 o.toInt.toNat - n).toInt := of_decide_eq_false (cI e10)
      rw [sb] at e9
      rw [sb2] at e10
      rw [if_neg (by omega), if_pos (by omega)] at no
      exact no rfl
    · have e5 : ¬ (h.2.1 123 t.toInt.toNat).toInt = (h.2.1 123 o.toInt.toNat).toInt := of_decide_eq_false (cI e5)
      rw [if_pos e5] at no
      exact no rfl
    · have e4 : ¬ 0 ≤ (h.2.1 123 o.toInt.toNat).toInt := of_decide_eq_false (cI e4)
      rw [if_pos (by omega)] at no
      exact no rfl
  · have e1 := cn e1
    have e2 := cz2 e2
    rw [Bool.and_eq_true, decide_eq_true_eq, decide_eq_true_eq] at e1
    rw [if_neg (Decidable.not_not.mpr e1), if_pos (by simpa using e2)] at no
    exact no rfl
end JN73shift2
section JN74behind
/-! behind of the reference. -/
theorem gd1 {T : Ctr} (i : Nat) (h : (TBL.take 328)[i]? = some T) : Good J1 T := all1 T (List.mem_of_getElem? h)
theorem gd2 {T : Ctr} (i : Nat) (h : (TBL.take 286)[i]? = some T) : Good J2 T := all2 T (List.mem_of_getElem? h)
theorem qp_int {nv : Nat} {ρ : Nat → Int} {posts : List Post} {v : Option Value} {h : Hp} {lo hi : Int} (hq : Qpost nv ρ posts v h) (hp : posts.all (fun P => match P.2.1 with | [a] => a.1 == 1 && rngOK (trg P.1 a.2.1) (lo, hi) | _ => false) = true) : ∃ r : Int32, v = some (.int r) ∧ lo ≤ r.toInt ∧ r.toInt ≤ hi := by
  obtain ⟨P, hP, ρ', e, hb, hn, ha, hf⟩ := hq
  have h1 := List.all_eq_true.mp hp P hP
  obtain ⟨B, A, F, S⟩ := P
  simp only at h1 ha hb
  match A, h1, ha with
  | [a], h1, ha =>
    obtain ⟨q1, q2⟩ := (Bool.and_eq_true _ _).mp h1
    match hv : v, ha with
    | some w, ha =>
      obtain ⟨x, rfl, hx⟩ := vm1 (by simpa using q1) ha.1
      have hr := tOK_rg hb hx
      have := rng_ok q2 hr.1 hr.2
      exact ⟨x, rfl, this.1, this.2⟩
    | none, ha => exact ha.elim
theorem way_s {X : Scr} {dp : Nat} {h : Hp} (o : Int32) (hd : cD k_280 ≤ dp) (hh : HI h) (hj : J1.1 h) (h1 : 0 ≤ o.toInt) (h2 : o.toInt ≤ 6) : Ends X dp 147 0 [.ref 93, .int o] [] h (fun v h' => ∃ r : Int32, v = some (.int r) ∧ 0 ≤ r.toInt ∧ r.toInt ≤ 6 ∧ HI h' ∧ frm [(109, 999)] h h') := by
  have g := gd1 280 (T := k_280) (by rfl)
  refine (g X dp (fun _ => o.toInt) h [.ref 93, .int o] hd hh (fun _ => hj) ?_ ⟨⟨93, rfl, List.mem_singleton.mpr rfl⟩, ⟨o, rfl, by decide, by show o.toInt = o.toInt + 0; omega⟩, trivial⟩ (fun q hq => by cases hq)).mono ?_
  · intro v q hq
    match v, hq with
    | 0, hq => cases hq; exact ⟨h1, h2⟩
    | v + 1, hq => cases hq
  · rintro v h' ⟨a1, a2, a3⟩
    obtain ⟨r, e, b1, b2⟩ := qp_int (lo := 0) (hi := 6) a3 (by decide +kernel)
    exact ⟨r, e, b1, b2, a1, a2⟩
def WCN : List (Nat × Nat) := [(93, 34), (93, 35), (109, 999), (110, 999)]
theorem caught_s2 {X : Scr} {dp : Nat} {h : Hp} (hd : cD k_285 ≤ dp) (hh : HI h) (hj : J2.1 h) : Ends X dp 157 0 [.ref 93, .retAddr 0, .retAddr 0, .retAddr 0, .retAddr 0, .retAddr 0] [] h (fun v h' => ∃ r : Int32, v = some (.int r) ∧ 0 ≤ r.toInt ∧ r.toInt ≤ 127 ∧ HI h' ∧ frm WCN h h') := by
  have g := gd2 285 (T := k_285) (by rfl)
  refine (g X dp (fun _ => 0) h [.ref 93] hd hh (fun _ => hj) (fun v q hq => by cases hq) ⟨⟨93, rfl, List.mem_singleton.mpr rfl⟩, trivial⟩ (fun q hq => by cases hq)).mono ?_
  rintro v h' ⟨a1, a2, a3⟩
  obtain ⟨r, e, b1, b2⟩ := qp_int (lo := 0) (hi := 127) a3 (by decide +kernel)
  exact ⟨r, e, b1, b2, a1, a2⟩
theorem caught_s1 {X : Scr} {dp : Nat} {h : Hp} (hd : cD k_285 ≤ dp) (hh : HI h) (hj : J1.1 h) : Ends X dp 157 0 [.ref 93, .retAddr 0, .retAddr 0, .retAddr 0, .retAddr 0, .retAddr 0] [] h (fun v h' => ∃ r : Int32, v = some (.int r) ∧ 0 ≤ r.toInt ∧ r.toInt ≤ 127 ∧ HI h' ∧ frm WCN h h') := by
  have g := gd1 285 (T := k_285) (by rfl)
  refine (g X dp (fun _ => 0) h [.ref 93] hd hh (fun _ => hj) (fun v q hq => by cases hq) ⟨⟨93, rfl, List.mem_singleton.mpr rfl⟩, trivial⟩ (fun q hq => by cases hq)).mono ?_
  rintro v h' ⟨a1, a2, a3⟩
  obtain ⟨r, e, b1, b2⟩ := qp_int (lo := 0) (hi := 127) a3 (by decide +kernel)
  exact ⟨r, e, b1, b2, a1, a2⟩
def WBH : List (Nat × Nat) := [(93, 28), (93, 29), (93, 31), (93, 34), (93, 35), (109, 999), (110, 999)]
theorem frm_mono {V W : List (Nat × Nat)} {h h' : Hp} (hs : subW V W = true) (hf : frm V h h') : frm W h h' := frm_sub hs hf
theorem behind_s {X : Scr} {dp : Nat} {h : Hp} {Q : Option Value → Hp → Prop} (p o : Int32) (hd : 40 ≤ dp) (hh : HI h) (hj : J1.1 h) (hQ : ∀ (r : Int32) h', HI h' → frm WBH h h' → Q (some (.int r)) h') : Ends X (dp + 1) 174 0 [.ref 93, .int p, .int o, .retAddr 0, .retAddr 0] [] h Q := by
  have hs := hh.hs
  have hp7 := hh.iv 93 0 (r := (0, 7)) rfl
  simp only at hp7
  obtain ⟨d, rfl⟩ : ∃ d, dp = d + 1 := ⟨dp - 1, by omega⟩
  have q0 : ∀ r : Int32, Q (some (.int r)) h := fun r => hQ r h hh frm_refl
  refine w_bh p o hs (person_ok p hh ⟨_, rfl, hs, fun e1 => q0 _, fun e1 => person_ok o hh ⟨_, rfl, hs, fun e2 => ⟨fun e3 => ?_, fun _ => q0 _⟩, fun e2 => q0 _⟩⟩)
  have e1 := cn e1
  have e2 := cn2 e2
  simp only [Bool.and_eq_true, decide_eq_true_eq] at e1 e2
  have e3 : ¬ p.toInt = o.toInt := of_decide_eq_true (cI e3)
  refine run_ok p hs ⟨_, rfl, hs, fun e4 => q0 _, fun e4 => run_ok o hs ⟨_, rfl, hs, fun e5 => ?_, fun e5 => q0 _⟩⟩
  have e4 := cn e4
  have e5 := cn2 e5
  refine (way_s o (Nat.le_trans (by decide) hd) hh hj e2.1 (by omega)).mono ?_
  rintro _ h1 ⟨w, rfl, w1, w2, hh1, hf1⟩
  refine ⟨w, rfl, hh1.hs, ?_⟩
  generalize hg : hpI (hpI (hpI (hpI h1 93 28 p) 93 29 w) 93 30 p) 93 31 o = h2
  have hh2 : HI h2 := by
    subst hg
    refine HI_put (HI_put (HI_put (HI_put hh1 ?_ ?_) ?_ ?_) ?_ ?_) ?_ ?_
    · exact (i32r p).1
    · exact (i32r p).2
    · show (0 : Int) ≤ _; exact w1
    · show _ ≤ (6 : Int); exact w2
    · show (-1 : Int) ≤ _; omega
    · show _ ≤ (6 : Int); omega
    · exact (i32r o).1
    · exact (i32r o).2
  have f2 : frm ((93, 30) :: WBH) h h2 := by
    subst hg
    exact frm_put (frm_put (frm_put (frm_put (frm_mono (V := [(109, 999)]) (by decide) hf1) rfl) rfl) rfl) rfl
  have v30 : h2.2.1 93 30 = p := by subst hg; rw [put_ne (by omega), put_at]
  have v31 : h2.2.1 93 31 = o := by subst hg; rw [put_at]
  have v0 : h2.2.1 93 0 = h.2.1 93 0 := frI f2 rfl
  have hj2 : J2.1 h2 := by
    refine ⟨?_, ?_⟩
    · obtain ⟨t1, t2, t3⟩ := hj.1
      have e106 : h2.2.1 106 = h.2.1 106 := by funext k; exact frI f2 (by simp [inW, WBH])
      refine ⟨by rw [frI f2 rfl, frI f2 rfl]; exact t1, by rw [frI f2 rfl, frI f2 rfl]; exact t2, fun f c a b => ?_⟩
      rw [frI f2 rfl] at a
      rw [frI f2 rfl] at b
      exact ⟨cl_fr (frI f2 rfl) (frI f2 rfl) e106 (t3 f c a b).1, by rw [frI f2 rfl]; exact (t3 f c a b).2⟩
    · intro _
      have hrun : runM h2 o = runM h o := by unfold runM; rw [frI f2 rfl, frI f2 rfl]
      rw [v30, v31, v0, hrun]
      exact ⟨e1.2, e2.1, e2.2, e5, fun q => e3 q.symm⟩
  refine (caught_s2 (Nat.le_trans (by decide) hd) hh2 hj2).mono ?_
  rintro _ h3 ⟨c, rfl, c1, c2, hh3, hf3⟩
  refine ⟨c, rfl, hh3.hs, ?_⟩
  have hh4 : HI (hpI (hpI h3 93 28 (-1)) 93 30 (-1)) := by
    refine HI_put (HI_put hh3 ?_ ?_) ?_ ?_
    · exact (i32r (-1)).1
    · exact (i32r (-1)).2
    · show (-1 : Int) ≤ _; exact Int.le_refl _
    · show _ ≤ (6 : Int); decide
  have f4 : frm WBH h (hpI (hpI h3 93 28 (-1)) 93 30 (-1)) := by
    have f3 : frm ((93, 30) :: WBH) h h3 := frm_trans f2 (frm_mono (by decide) hf3)
    have f5 : frm ((93, 30) :: WBH) h (hpI (hpI h3 93 28 (-1)) 93 30 (-1)) := frm_put (frm_put f3 rfl) rfl
    intro a k hk
    by_cases c : a = 93 ∧ k = 30
    · obtain ⟨rfl, rfl⟩ := c
      refine ⟨?_, ?_, ?_⟩
      · rw [put_at]
        apply Int32.toInt.inj
        rw [hj.2]
        rfl
      · show h3.2.2.1 93 30 = _
        rw [(hf3 93 30 rfl).2.1]
        subst hg
        exact (hf1 93 30 rfl).2.1
      · show h3.2.2.2 93 30 = _
        rw [(hf3 93 30 rfl).2.2]
        subst hg
        exact (hf1 93 30 rfl).2.2
    · refine f5 a k ?_
      unfold inW at hk ⊢
      rw [List.any_cons, hk, Bool.or_false]
      simp only [Bool.and_eq_false_iff, beq_eq_false_iff_ne, Bool.or_eq_false_iff]
      by_cases c1 : 93 = a
      · refine Or.inr ⟨fun q => c ⟨c1.symm, q.symm⟩, by decide⟩
      · exact Or.inl c1
  exact has_ok c p hh4.hs ⟨_, rfl, hh4.hs, fun e => hQ _ _ hh4 f4, fun e => hQ _ _ hh4 f4⟩
end JN74behind
section JN75spread
/-! spread of the reference: what is owed for it. -/
theorem w_sp0 {X : Scr} {dp : Nat} {h : Hp} {Q : Option Value → Hp → Prop} (k : Int32) (hs : HS h)
    (vc : Ends X dp 109 0 [.ref 93, .int k, .int (-1), .int 2] [] h (fun rv h1 => ∃ r2, rv = some (.int r2) ∧ HS h1 ∧ ((condB .ne r2 0 = true → Ends X dp 111 0 [.ref 93, .int (h1.2.1 93 2), .retAddr 0, .retAddr 0] [] h1 (fun rv h5 => ∃ r6, rv = some (.int r6) ∧ HS h5 ∧ ((condB .le r6 3 = true → Ends X (dp + 1) 173 31 [.ref 93, .int k, .int r6, .int 0, .retAddr 0, .retAddr 0, .retAddr 0] [] h5 Q) ∧ (condB .le r6 3 = false → Q (some (.int (-9))) h5)))) ∧ (condB .ne r2 0 = false → Q (some (.int (-1))) h1)))) :
    Ends X (dp + 1) 173 0 [.ref 93, .int k, .retAddr 0, .retAddr 0, .retAddr 0, .retAddr 0, .retAddr 0] [] h Q := by
  have ra : ∀ {a : Nat}, a < 1000 → a ≤ OLDB := fun h => by have := OLDB_eq; omega
  refine e_aload_n (show pAt 173 0 = some (0, .aload_n 0, 1, []) from by decide +kernel) rfl (ra (by decide)) ?_
  refine e_iload_n (show pAt 173 1 = some (1, .iload_n 1, 1, []) from by decide +kernel) rfl ?_
  refine e_iconst (c := (-1)) (show pAt 173 2 = some (2, .iconst (-1), 1, []) from by decide +kernel) (by decide) ?_
  refine e_iconst (c := 2) (show pAt 173 3 = some (3, .iconst 2, 1, []) from by decide +kernel) (by decide) ?_
  refine Ends.call (show pAt 173 4 = some (4, .invokevirtual 206, 3, [109, 4, 0, 0, 5081, 5083, 54]) from by decide +kernel) (isRet_none rfl) rfl (call_this (show HS h from hs) rfl rfl (by decide)) (Ends.mono vc ?_)
  rintro _ h1 ⟨r2, rfl, hs_h1, vc⟩
  refine e_if (t := 12) (show pAt 173 7 = some (7, .ifCond .ne 5, 3, []) from by decide +kernel) rfl (fun c4 => ?_) (fun c4 => ?_)
  · replace vc := vc.1 c4
    refine e_aload_n (show pAt 173 12 = some (12, .aload_n 0, 1, []) from by decide +kernel) rfl (ra (by decide)) ?_
    refine e_aload_n (show pAt 173 13 = some (13, .aload_n 0, 1, []) from by decide +kernel) rfl (ra (by decide)) ?_
    refine e_gI (show pAt 173 14 = some (14, .getfield 16, 3, [7, 2, 0, 4125]) from by decide +kernel) (show HS h1 from hs_h1) rfl (by decide) ?_
    refine Ends.call (show pAt 173 17 = some (17, .invokevirtual 342, 3, [111, 2, 0, 0, 6045, 6047, 96]) from by decide +kernel) (isRet_none rfl) rfl (call_this (show HS h1 from hs_h1) rfl rfl (by decide)) (Ends.mono vc ?_)
    rintro _ h5 ⟨r6, rfl, hs_h5, vc⟩
    refine e_istore_n (show pAt 173 20 = some (20, .istore_n 2, 1, []) from by decide +kernel) ⟨Nat.le_of_ble_eq_true rfl, rfl⟩ rfl ?_
    refine e_iload_n (show pAt 173 21 = some (21, .iload_n 2, 1, []) from by decide +kernel) rfl ?_
    refine e_iconst (c := 3) (show pAt 173 22 = some (22, .iconst 3, 1, []) from by decide +kernel) (by decide) ?_
    refine e_icmp (t := 29) (show pAt 173 23 = some (23, .if_icmp .le 6, 3, []) from by decide +kernel) rfl (fun c8 => ?_) (fun c8 => ?_)
    · replace vc := vc.1 c8
      refine e_iconst (c := 0) (show pAt 173 29 = some (29, .iconst 0, 1, []) from by decide +kernel) (by decide) ?_
      refine e_istore_n (show pAt 173 30 = some (30, .istore_n 3, 1, []) from by decide +kernel) ⟨Nat.le_of_ble_eq_true rfl, rfl⟩ rfl ?_
      exact vc
    · replace vc := vc.2 c8
      refine e_bipush (c := (-9)) (show pAt 173 26 = some (26, .bipush (-9), 2, []) from by decide +kernel) (by decide) ?_
      exact e_retI (show pAt 173 28 = some (28, .ireturn, 1, []) from by decide +kernel) rfl vc
  · replace vc := vc.2 c4
    refine e_iconst (c := (-1)) (show pAt 173 10 = some (10, .iconst (-1), 1, []) from by decide +kernel) (by decide) ?_
    exact e_retI (show pAt 173 11 = some (11, .ireturn, 1, []) from by decide +kernel) rfl vc

theorem w_sp31 {X : Scr} {dp : Nat} {h : Hp} {Q : Option Value → Hp → Prop} (k : Int32) (n : Int32) (p : Int32) (hs : HS h)
    (vc : ((condB .ge p 7 = true → Ends X dp 173 57 [.ref 93, .int k, .int n, .int 0, .retAddr 0, .retAddr 0, .retAddr 0] [] h Q) ∧ (condB .ge p 7 = false → (inB p 7 = true ∧ (inB p 7 = true ∧ Ends X dp 173 31 [.ref 93, .int k, .int n, .int (p + 1), .retAddr 0, .retAddr 0, .retAddr 0] [] (hpI h 113 p.toNatClampNeg (h.2.1 96 p.toNatClampNeg)) Q))))) :
    Ends X dp 173 31 [.ref 93, .int k, .int n, .int p, .retAddr 0, .retAddr 0, .retAddr 0] [] h Q := by
  have ra : ∀ {a : Nat}, a < 1000 → a ≤ OLDB := fun h => by have := OLDB_eq; omega
  refine e_iload_n (show pAt 173 31 = some (31, .iload_n 3, 1, []) from by decide +kernel) rfl ?_
  refine e_bipush (c := 7) (show pAt 173 32 = some (32, .bipush 7, 2, []) from by decide +kernel) (by decide) ?_
  refine e_icmp (t := 55) (show pAt 173 34 = some (34, .if_icmp .ge 21, 3, []) from by decide +kernel) rfl (fun c1 => ?_) (fun c1 => ?_)
  · replace vc := vc.1 c1
    refine e_iconst (c := 0) (show pAt 173 55 = some (55, .iconst 0, 1, []) from by decide +kernel) (by decide) ?_
    refine e_istore_n (show pAt 173 56 = some (56, .istore_n 3, 1, []) from by decide +kernel) ⟨Nat.le_of_ble_eq_true rfl, rfl⟩ rfl ?_
    exact vc
  · replace vc := vc.2 c1
    refine e_aload_n (show pAt 173 37 = some (37, .aload_n 0, 1, []) from by decide +kernel) rfl (ra (by decide)) ?_
    refine e_gR (show pAt 173 38 = some (38, .getfield 133, 3, [7, 40, 0, 4163]) from by decide +kernel) (show HS h from hs) rfl (by decide) (hs_ref (show HS h from hs) rfl) ?_
    refine e_iload_n (show pAt 173 41 = some (41, .iload_n 3, 1, []) from by decide +kernel) rfl ?_
    refine e_aload_n (show pAt 173 42 = some (42, .aload_n 0, 1, []) from by decide +kernel) rfl (ra (by decide)) ?_
    refine e_gR (show pAt 173 43 = some (43, .getfield 26, 3, [7, 5, 0, 4128]) from by decide +kernel) (show HS h from hs) rfl (by decide) (hs_ref (show HS h from hs) rfl) ?_
    refine e_iload_n (show pAt 173 46 = some (46, .iload_n 3, 1, []) from by decide +kernel) rfl ?_
    obtain ⟨c2, vc⟩ := vc
    refine e_ald (show pAt 173 47 = some (47, .iaload, 1, []) from by decide +kernel) (show HS h from hs) (by decide) c2 ?_
    obtain ⟨c3, vc⟩ := vc
    refine e_ast (show pAt 173 48 = some (48, .iastore, 1, []) from by decide +kernel) (show HS h from hs) (by decide) c3 ?_
    refine e_iinc (c := 1) (show pAt 173 49 = some (49, .iinc 3 1, 3, []) from by decide +kernel) rfl rfl (by decide) rfl ?_
    refine e_goto (t := 31) (show pAt 173 52 = some (52, .goto (-21), 3, []) from by decide +kernel) rfl ?_
    exact vc

theorem w_sp57 {X : Scr} {dp : Nat} {h : Hp} {Q : Option Value → Hp → Prop} (k : Int32) (n : Int32) (p : Int32) (hs : HS h)
    (vc : ((condB .ge p 3 = true → Ends X dp 173 80 [.ref 93, .int k, .int n, .int (-1), .int 1, .retAddr 0, .retAddr 0] [] h Q) ∧ (condB .ge p 3 = false → (inB p 3 = true ∧ Ends X dp 173 57 [.ref 93, .int k, .int n, .int (p + 1), .retAddr 0, .retAddr 0, .retAddr 0] [] (hpI h 111 p.toNatClampNeg 0) Q)))) :
    Ends X dp 173 57 [.ref 93, .int k, .int n, .int p, .retAddr 0, .retAddr 0, .retAddr 0] [] h Q := by
  have ra : ∀ {a : Nat}, a < 1000 → a ≤ OLDB := fun h => by have := OLDB_eq; omega
  refine e_iload_n (show pAt 173 57 = some (57, .iload_n 3, 1, []) from by decide +kernel) rfl ?_
  refine e_iconst (c := 3) (show pAt 173 58 = some (58, .iconst 3, 1, []) from by decide +kernel) (by decide) ?_
  refine e_icmp (t := 75) (show pAt 173 59 = some (59, .if_icmp .ge 16, 3, []) from by decide +kernel) rfl (fun c1 => ?_) (fun c1 => ?_)
  · replace vc := vc.1 c1
    refine e_iconst (c := (-1)) (show pAt 173 75 = some (75, .iconst (-1), 1, []) from by decide +kernel) (by decide) ?_
    refine e_istore_n (show pAt 173 76 = some (76, .istore_n 3, 1, []) from by decide +kernel) ⟨Nat.le_of_ble_eq_true rfl, rfl⟩ rfl ?_
    refine e_iconst (c := 1) (show pAt 173 77 = some (77, .iconst 1, 1, []) from by decide +kernel) (by decide) ?_
    refine e_istore (show pAt 173 78 = some (78, .istore 4, 2, []) from by decide +kernel) ⟨Nat.le_of_ble_eq_true rfl, rfl⟩ rfl ?_
    exact vc
  · replace vc := vc.2 c1
    refine e_aload_n (show pAt 173 62 = some (62, .aload_n 0, 1, []) from by decide +kernel) rfl (ra (by decide)) ?_
    refine e_gR (show pAt 173 63 = some (63, .getfield 127, 3, [7, 38, 0, 4161]) from by decide +kernel) (show HS h from hs) rfl (by decide) (hs_ref (show HS h from hs) rfl) ?_
    refine e_iload_n (show pAt 173 66 = some (66, .iload_n 3, 1, []) from by decide +kernel) rfl ?_
    refine e_iconst (c := 0) (show pAt 173 67 = some (67, .iconst 0, 1, []) from by decide +kernel) (by decide) ?_
    obtain ⟨c2, vc⟩ := vc
    refine e_ast (show pAt 173 68 = some (68, .iastore, 1, []) from by decide +kernel) (show HS h from hs) (by decide) c2 ?_
    refine e_iinc (c := 1) (show pAt 173 69 = some (69, .iinc 3 1, 3, []) from by decide +kernel) rfl rfl (by decide) rfl ?_
    refine e_goto (t := 57) (show pAt 173 72 = some (72, .goto (-15), 3, []) from by decide +kernel) rfl ?_
    exact vc

theorem w_sp80 {X : Scr} {dp : Nat} {h : Hp} {Q : Option Value → Hp → Prop} (k : Int32) (n : Int32) (m : Int32) (g : Int32) (a : Value) (b : Value) (hs : HS h)
    (vc : ((condB .eq g 0 = true → Ends X (dp + 1) 173 150 [.ref 93, .int k, .int n, .int m, .int g, .int 0, b] [] h Q) ∧ (condB .eq g 0 = false → Ends X dp 171 0 [.ref 93, .retAddr 0, .retAddr 0] [] h (fun rv h2 => rv = none ∧ HS h2 ∧ Ends X dp 157 0 [.ref 93, .retAddr 0, .retAddr 0, .retAddr 0, .retAddr 0, .retAddr 0] [] h2 (fun rv h5 => ∃ r6, rv = some (.int r6) ∧ HS h5 ∧ Ends X dp 111 0 [.ref 93, .int r6, .retAddr 0, .retAddr 0] [] h5 (fun rv h8 => ∃ r9, rv = some (.int r9) ∧ HS h8 ∧ ((condB .le r9 m = true → Ends X dp 172 0 [.ref 93, .int n, .retAddr 0] [] h8 (fun rv h12 => ∃ r13, rv = some (.int r13) ∧ HS h12 ∧ Ends X (dp + 1) 173 80 [.ref 93, .int k, .int n, .int m, .int r13, .int r9, b] [] h12 Q)) ∧ (condB .le r9 m = false → Ends X (dp + 1) 173 111 [.ref 93, .int k, .int n, .int r9, .int g, .int r9, .int 0] [] h8 Q)))))))) :
    Ends X (dp + 1) 173 80 [.ref 93, .int k, .int n, .int m, .int g, a, b] [] h Q := by
  have ra : ∀ {a : Nat}, a < 1000 → a ≤ OLDB := fun h => by have := OLDB_eq; omega
  refine e_iload (show pAt 173 80 = some (80, .iload 4, 2, []) from by decide +kernel) rfl ?_
  refine e_if (t := 147) (show pAt 173 82 = some (82, .ifCond .eq 65, 3, []) from by decide +kernel) rfl (fun c1 => ?_) (fun c1 => ?_)
  · replace vc := vc.1 c1
    refine e_iconst (c := 0) (show pAt 173 147 = some (147, .iconst 0, 1, []) from by decide +kernel) (by decide) ?_
    refine e_istore (show pAt 173 148 = some (148, .istore 5, 2, []) from by decide +kernel) ⟨Nat.le_of_ble_eq_true rfl, rfl⟩ rfl ?_
    exact vc
  · replace vc := vc.2 c1
    refine e_aload_n (show pAt 173 85 = some (85, .aload_n 0, 1, []) from by decide +kernel) rfl (ra (by decide)) ?_
    refine Ends.call (show pAt 173 86 = some (86, .invokevirtual 351, 3, [171, 1, 0, 0, 6089, 6091, 99]) from by decide +kernel) (isRet_none rfl) rfl (call_this (show HS h from hs) rfl rfl (by decide)) (Ends.mono vc ?_)
    rintro _ h2 ⟨rfl, hs_h2, vc⟩
    refine e_aload_n (show pAt 173 89 = some (89, .aload_n 0, 1, []) from by decide +kernel) rfl (ra (by decide)) ?_
    refine e_aload_n (show pAt 173 90 = some (90, .aload_n 0, 1, []) from by decide +kernel) rfl (ra (by decide)) ?_
    refine Ends.call (show pAt 173 91 = some (91, .invokevirtual 333, 3, [157, 1, 0, 0, 6009, 6011, 88]) from by decide +kernel) (isRet_none rfl) rfl (call_this (show HS h2 from hs_h2) rfl rfl (by decide)) (Ends.mono vc ?_)
    rintro _ h5 ⟨r6, rfl, hs_h5, vc⟩
    refine Ends.call (show pAt 173 94 = some (94, .invokevirtual 342, 3, [111, 2, 0, 0, 6045, 6047, 96]) from by decide +kernel) (isRet_none rfl) rfl (call_this (show HS h5 from hs_h5) rfl rfl (by decide)) (Ends.mono vc ?_)
    rintro _ h8 ⟨r9, rfl, hs_h8, vc⟩
    refine e_istore (show pAt 173 97 = some (97, .istore 5, 2, []) from by decide +kernel) ⟨Nat.le_of_ble_eq_true rfl, rfl⟩ rfl ?_
    refine e_iload (show pAt 173 99 = some (99, .iload 5, 2, []) from by decide +kernel) rfl ?_
    refine e_iload_n (show pAt 173 101 = some (101, .iload_n 3, 1, []) from by decide +kernel) rfl ?_
    refine e_icmp (t := 137) (show pAt 173 102 = some (102, .if_icmp .le 35, 3, []) from by decide +kernel) rfl (fun c11 => ?_) (fun c11 => ?_)
    · replace vc := vc.1 c11
      refine e_aload_n (show pAt 173 137 = some (137, .aload_n 0, 1, []) from by decide +kernel) rfl (ra (by decide)) ?_
      refine e_iload_n (show pAt 173 138 = some (138, .iload_n 2, 1, []) from by decide +kernel) rfl ?_
      refine Ends.call (show pAt 173 139 = some (139, .invokevirtual 354, 3, [172, 2, 0, 0, 6093, 6095, 100]) from by decide +kernel) (isRet_none rfl) rfl (call_this (show HS h8 from hs_h8) rfl rfl (by decide)) (Ends.mono vc ?_)
      rintro _ h12 ⟨r13, rfl, hs_h12, vc⟩
      refine e_istore (show pAt 173 142 = some (142, .istore 4, 2, []) from by decide +kernel) ⟨Nat.le_of_ble_eq_true rfl, rfl⟩ rfl ?_
      refine e_goto (t := 80) (show pAt 173 144 = some (144, .goto (-64), 3, []) from by decide +kernel) rfl ?_
      exact vc
    · replace vc := vc.2 c11
      refine e_iload (show pAt 173 105 = some (105, .iload 5, 2, []) from by decide +kernel) rfl ?_
      refine e_istore_n (show pAt 173 107 = some (107, .istore_n 3, 1, []) from by decide +kernel) ⟨Nat.le_of_ble_eq_true rfl, rfl⟩ rfl ?_
      refine e_iconst (c := 0) (show pAt 173 108 = some (108, .iconst 0, 1, []) from by decide +kernel) (by decide) ?_
      refine e_istore (show pAt 173 109 = some (109, .istore 6, 2, []) from by decide +kernel) ⟨Nat.le_of_ble_eq_true rfl, rfl⟩ rfl ?_
      exact vc

theorem w_sp111 {X : Scr} {dp : Nat} {h : Hp} {Q : Option Value → Hp → Prop} (k : Int32) (n : Int32) (m : Int32) (g : Int32) (i : Int32) (j : Int32) (hs : HS h)
    (vc : ((condB .ge j 3 = true → Ends X dp 172 0 [.ref 93, .int n, .retAddr 0] [] h (fun rv h2 => ∃ r3, rv = some (.int r3) ∧ HS h2 ∧ Ends X (dp + 1) 173 80 [.ref 93, .int k, .int n, .int m, .int r3, .int i, .int j] [] h2 Q)) ∧ (condB .ge j 3 = false → (inB j 3 = true ∧ (inB j 3 = true ∧ Ends X (dp + 1) 173 111 [.ref 93, .int k, .int n, .int m, .int g, .int i, .int (j + 1)] [] (hpI h 112 j.toNatClampNeg (h.2.1 111 j.toNatClampNeg)) Q))))) :
    Ends X (dp + 1) 173 111 [.ref 93, .int k, .int n, .int m, .int g, .int i, .int j] [] h Q := by
  have ra : ∀ {a : Nat}, a < 1000 → a ≤ OLDB := fun h => by have := OLDB_eq; omega
  refine e_iload (show pAt 173 111 = some (111, .iload 6, 2, []) from by decide +kernel) rfl ?_
  refine e_iconst (c := 3) (show pAt 173 113 = some (113, .iconst 3, 1, []) from by decide +kernel) (by decide) ?_
  refine e_icmp (t := 137) (show pAt 173 114 = some (114, .if_icmp .ge 23, 3, []) from by decide +kernel) rfl (fun c1 => ?_) (fun c1 => ?_)
  · replace vc := vc.1 c1
    refine e_aload_n (show pAt 173 137 = some (137, .aload_n 0, 1, []) from by decide +kernel) rfl (ra (by decide)) ?_
    refine e_iload_n (show pAt 173 138 = some (138, .iload_n 2, 1, []) from by decide +kernel) rfl ?_
    refine Ends.call (show pAt 173 139 = some (139, .invokevirtual 354, 3, [172, 2, 0, 0, 6093, 6095, 100]) from by decide +kernel) (isRet_none rfl) rfl (call_this (show HS h from hs) rfl rfl (by decide)) (Ends.mono vc ?_)
    rintro _ h2 ⟨r3, rfl, hs_h2, vc⟩
    refine e_istore (show pAt 173 142 = some (142, .istore 4, 2, []) from by decide +kernel) ⟨Nat.le_of_ble_eq_true rfl, rfl⟩ rfl ?_
    refine e_goto (t := 80) (show pAt 173 144 = some (144, .goto (-64), 3, []) from by decide +kernel) rfl ?_
    exact vc
  · replace vc := vc.2 c1
    refine e_aload_n (show pAt 173 117 = some (117, .aload_n 0, 1, []) from by decide +kernel) rfl (ra (by decide)) ?_
    refine e_gR (show pAt 173 118 = some (118, .getfield 130, 3, [7, 39, 0, 4162]) from by decide +kernel) (show HS h from hs) rfl (by decide) (hs_ref (show HS h from hs) rfl) ?_
    refine e_iload (show pAt 173 121 = some (121, .iload 6, 2, []) from by decide +kernel) rfl ?_
    refine e_aload_n (show pAt 173 123 = some (123, .aload_n 0, 1, []) from by decide +kernel) rfl (ra (by decide)) ?_
    refine e_gR (show pAt 173 124 = some (124, .getfield 127, 3, [7, 38, 0, 4161]) from by decide +kernel) (show HS h from hs) rfl (by decide) (hs_ref (show HS h from hs) rfl) ?_
    refine e_iload (show pAt 173 127 = some (127, .iload 6, 2, []) from by decide +kernel) rfl ?_
    obtain ⟨c5, vc⟩ := vc
    refine e_ald (show pAt 173 129 = some (129, .iaload, 1, []) from by decide +kernel) (show HS h from hs) (by decide) c5 ?_
    obtain ⟨c6, vc⟩ := vc
    refine e_ast (show pAt 173 130 = some (130, .iastore, 1, []) from by decide +kernel) (show HS h from hs) (by decide) c6 ?_
    refine e_iinc (c := 1) (show pAt 173 131 = some (131, .iinc 6 1, 3, []) from by decide +kernel) rfl rfl (by decide) rfl ?_
    refine e_goto (t := 111) (show pAt 173 134 = some (134, .goto (-23), 3, []) from by decide +kernel) rfl ?_
    exact vc

theorem w_sp150 {X : Scr} {dp : Nat} {h : Hp} {Q : Option Value → Hp → Prop} (k : Int32) (n : Int32) (m : Int32) (g : Int32) (p : Int32) (b : Value) (hs : HS h)
    (vc : ((condB .ge p 7 = true → ((condB .ge k 0 = true → ((condB .ge k n = true → Q (some (.int (-5))) h) ∧ (condB .ge k n = false → (inB k 3 = true ∧ Q (some (.int (h.2.1 112 k.toNatClampNeg))) h)))) ∧ (condB .ge k 0 = false → Q (some (.int m)) h))) ∧ (condB .ge p 7 = false → (inB p 7 = true ∧ (inB p 7 = true ∧ Ends X dp 173 150 [.ref 93, .int k, .int n, .int m, .int g, .int (p + 1), b] [] (hpI h 96 p.toNatClampNeg (h.2.1 113 p.toNatClampNeg)) Q))))) :
    Ends X dp 173 150 [.ref 93, .int k, .int n, .int m, .int g, .int p, b] [] h Q := by
  have ra : ∀ {a : Nat}, a < 1000 → a ≤ OLDB := fun h => by have := OLDB_eq; omega
  refine e_iload (show pAt 173 150 = some (150, .iload 5, 2, []) from by decide +kernel) rfl ?_
  refine e_bipush (c := 7) (show pAt 173 152 = some (152, .bipush 7, 2, []) from by decide +kernel) (by decide) ?_
  refine e_icmp (t := 177) (show pAt 173 154 = some (154, .if_icmp .ge 23, 3, []) from by decide +kernel) rfl (fun c1 => ?_) (fun c1 => ?_)
  · replace vc := vc.1 c1
    refine e_iload_n (show pAt 173 177 = some (177, .iload_n 1, 1, []) from by decide +kernel) rfl ?_
    refine e_if (t := 185) (show pAt 173 178 = some (178, .ifCond .ge 7, 3, []) from by decide +kernel) rfl (fun c2 => ?_) (fun c2 => ?_)
    · replace vc := vc.1 c2
      refine e_iload_n (show pAt 173 185 = some (185, .iload_n 1, 1, []) from by decide +kernel) rfl ?_
      refine e_iload_n (show pAt 173 186 = some (186, .iload_n 2, 1, []) from by decide +kernel) rfl ?_
      refine e_icmp (t := 199) (show pAt 173 187 = some (187, .if_icmp .ge 12, 3, []) from by decide +kernel) rfl (fun c3 => ?_) (fun c3 => ?_)
      · replace vc := vc.1 c3
        refine e_bipush (c := (-5)) (show pAt 173 199 = some (199, .bipush (-5), 2, []) from by decide +kernel) (by decide) ?_
        exact e_retI (show pAt 173 201 = some (201, .ireturn, 1, []) from by decide +kernel) rfl vc
      · replace vc := vc.2 c3
        refine e_aload_n (show pAt 173 190 = some (190, .aload_n 0, 1, []) from by decide +kernel) rfl (ra (by decide)) ?_
        refine e_gR (show pAt 173 191 = some (191, .getfield 130, 3, [7, 39, 0, 4162]) from by decide +kernel) (show HS h from hs) rfl (by decide) (hs_ref (show HS h from hs) rfl) ?_
        refine e_iload_n (show pAt 173 194 = some (194, .iload_n 1, 1, []) from by decide +kernel) rfl ?_
        obtain ⟨c4, vc⟩ := vc
        refine e_ald (show pAt 173 195 = some (195, .iaload, 1, []) from by decide +kernel) (show HS h from hs) (by decide) c4 ?_
        refine e_goto (t := 201) (show pAt 173 196 = some (196, .goto 5, 3, []) from by decide +kernel) rfl ?_
        exact e_retI (show pAt 173 201 = some (201, .ireturn, 1, []) from by decide +kernel) rfl vc
    · replace vc := vc.2 c2
      refine e_iload_n (show pAt 173 181 = some (181, .iload_n 3, 1, []) from by decide +kernel) rfl ?_
      refine e_goto (t := 201) (show pAt 173 182 = some (182, .goto 19, 3, []) from by decide +kernel) rfl ?_
      exact e_retI (show pAt 173 201 = some (201, .ireturn, 1, []) from by decide +kernel) rfl vc
  · replace vc := vc.2 c1
    refine e_aload_n (show pAt 173 157 = some (157, .aload_n 0, 1, []) from by decide +kernel) rfl (ra (by decide)) ?_
    refine e_gR (show pAt 173 158 = some (158, .getfield 26, 3, [7, 5, 0, 4128]) from by decide +kernel) (show HS h from hs) rfl (by decide) (hs_ref (show HS h from hs) rfl) ?_
    refine e_iload (show pAt 173 161 = some (161, .iload 5, 2, []) from by decide +kernel) rfl ?_
    refine e_aload_n (show pAt 173 163 = some (163, .aload_n 0, 1, []) from by decide +kernel) rfl (ra (by decide)) ?_
    refine e_gR (show pAt 173 164 = some (164, .getfield 133, 3, [7, 40, 0, 4163]) from by decide +kernel) (show HS h from hs) rfl (by decide) (hs_ref (show HS h from hs) rfl) ?_
    refine e_iload (show pAt 173 167 = some (167, .iload 5, 2, []) from by decide +kernel) rfl ?_
    obtain ⟨c5, vc⟩ := vc
    refine e_ald (show pAt 173 169 = some (169, .iaload, 1, []) from by decide +kernel) (show HS h from hs) (by decide) c5 ?_
    obtain ⟨c6, vc⟩ := vc
    refine e_ast (show pAt 173 170 = some (170, .iastore, 1, []) from by decide +kernel) (show HS h from hs) (by decide) c6 ?_
    refine e_iinc (c := 1) (show pAt 173 171 = some (171, .iinc 5 1, 3, []) from by decide +kernel) rfl rfl (by decide) rfl ?_
    refine e_goto (t := 150) (show pAt 173 174 = some (174, .goto (-24), 3, []) from by decide +kernel) rfl ?_
    exact vc
end JN75spread
section JN76spread2
/-! spread of the reference ends well. -/
def D3 (h : Hp) (d : Nat → Nat) : Prop := ∀ j, j < 3 → (h.2.1 111 j).toInt = d j ∧ d j ≤ 6
def upN (d : Nat → Nat) (k v : Nat) : Nat → Nat := fun j => if j = k then v else d j
def WRN : List (Nat × Nat) := [(111, 999)]
theorem WRN_in {k : Nat} : inW WRN 111 k = true := by simp [inW, WRN]
section SPR
variable {X : Scr} {dp : Nat} {h0 : Hp} {Q : Option Value → Hp → Prop}
theorem D3_put {h : Hp} {d : Nat → Nat} {k v : Nat} {x : Int32} (hd : D3 h d) (hx : x.toInt = v) (hv : v ≤ 6) : D3 (hpI h 111 k x) (upN d k v) := by
  intro j hj
  unfold upN
  by_cases c : j = k
  · rw [if_pos c, c, put_at]
    exact ⟨hx, hv⟩
  · rw [if_neg c, put_ne (by omega)]
    exact hd j hj
theorem nr_step (n k k1 : Int32) (kk : Nat) (hk : k.toInt = kk) (hk3 : kk < 3) (hk1 : k1 = k + -1) (d : Nat → Nat) (h : Hp) (hh : HI h) (hf : frm WRN h0 h) (hd : D3 h d)
    (e1 : d kk < 6 → ∀ h', HI h' → frm WRN h0 h' → D3 h' (upN d kk (d kk + 1)) → Q (some (.int 1)) h')
    (e2 : d kk = 6 → ∀ h', HI h' → frm WRN h0 h' → D3 h' (upN d kk 0) → Ends X dp 172 4 [.ref 93, .int n, .int k1] [] h' Q) : Ends X dp 172 4 [.ref 93, .int n, .int k] [] h Q := by
  subst hk1
  have hkk : k.toNatClampNeg = kk := by show k.toInt.toNat = _; omega
  have hi : inB k 3 = true := inB_iff (by omega) (by omega)
  obtain ⟨d1, d2⟩ := hd kk hk3
  refine w_nr1 n k hh.hs ⟨fun e => ?_, fun _ => ⟨hi, hi, hi, fun e => ⟨hi, ?_⟩, fun e => ?_⟩⟩
  · exfalso
    have e : k.toInt < 0 := of_decide_eq_true (cI e)
    omega
  all_goals
    rw [hkk] at e ⊢
    rw [put_at] at e
    have es : (h.2.1 111 kk + 1).toInt = ((d kk + 1 : Nat) : Int) := by rw [i_add (by rw [i1]; omega) (by rw [i1]; omega), i1]; omega
    generalize h.2.1 111 kk + 1 = u at e es ⊢
  · have e : 7 ≤ u.toInt := of_decide_eq_true (cI e)
    have a1 : HI (hpI h 111 kk u) := HI_put hh (by show (0 : Int) ≤ _; omega) (by show _ ≤ (7 : Int); omega)
    refine e2 (by omega) _ (HI_put a1 (by show (0 : Int) ≤ 0; decide) (by show (0 : Int) ≤ 7; decide)) (frm_put (frm_put hf WRN_in) WRN_in) ?_
    intro j hj
    unfold upN
    by_cases c : j = kk
    · rw [if_pos c, c, put_at]
      exact ⟨rfl, by omega⟩
    · rw [if_neg c, put_ne (by omega), put_ne (by omega)]
      exact hd j hj
  · have e : ¬ 7 ≤ u.toInt := of_decide_eq_false (cI e)
    exact e1 (by omega) _ (HI_put hh (by show (0 : Int) ≤ _; omega) (by show _ ≤ (7 : Int); omega)) (frm_put hf WRN_in) (D3_put hd es (by omega))
theorem nr_end (n k : Int32) (hk : k.toInt = -1) (h : Hp) (hh : HI h) (hQ : Q (some (.int 0)) h) : Ends X dp 172 4 [.ref 93, .int n, .int k] [] h Q := by
  refine w_nr1 n k hh.hs ⟨fun _ => hQ, fun e => ?_⟩
  exfalso
  have e : ¬ k.toInt < 0 := of_decide_eq_false (cI e)
  omega
def mD (d : Nat → Nat) : Nat := 49 * d 0 + 7 * d 1 + d 2
theorem next_ok (n : Int32) (nn : Nat) (hn : n.toInt = nn) (hn3 : nn ≤ 3) (d : Nat → Nat) (hh : HI h0) (hd : D3 h0 d)
    (hQ : ∀ (r : Int32) h', (r = 0 ∨ r = 1) → HI h' → frm WRN h0 h' → (¬ r = 0 → ∃ d', D3 h' d' ∧ mD d < mD d') → Q (some (.int r)) h') : Ends X dp 172 0 [.ref 93, .int n, .retAddr 0] [] h0 Q := by
  refine w_nr0 n hh.hs ?_
  have q1 : ∀ d' h', HI h' → frm WRN h0 h' → D3 h' d' → mD d < mD d' → Q (some (.int 1)) h' := fun d' h' a1 a2 a3 a4 => hQ 1 h' (Or.inr rfl) a1 a2 (fun _ => ⟨d', a3, a4⟩)
  have q0 : ∀ h', HI h' → frm WRN h0 h' → Q (some (.int 0)) h' := fun h' a1 a2 => hQ 0 h' (Or.inl rfl) a1 a2 (fun e => absurd rfl e)
  have e0 : (n - 1).toInt = (nn : Int) - 1 := by rw [i_sub (by rw [i1]; omega) (by rw [i1]; omega), i1]; omega
  generalize n - 1 = k2 at e0
  have dec : ∀ (k : Int32) (z : Int), k.toInt = z → 0 ≤ z → z ≤ 3 → (k + -1).toInt = z - 1 := fun k z hk h1 h2 => by rw [i_add (by rw [im1]; omega) (by rw [im1]; omega), im1]; omega
  have b0 := hd 0 (by omega)
  have b1 := hd 1 (by omega)
  have b2 := hd 2 (by omega)
  match nn, hn3 with
  | 0, _ => exact nr_end n k2 (by omega) h0 hh (q0 h0 hh frm_refl)
  | 1, _ =>
    refine nr_step n k2 _ 0 (by omega) (by omega) rfl d h0 hh frm_refl hd (fun c h' a1 a2 a3 => q1 _ h' a1 a2 a3 (by simp [mD, upN])) (fun c h' a1 a2 a3 => ?_)
    exact nr_end n _ (dec k2 0 (by omega) (by omega) (by omega)) h' a1 (q0 h' a1 a2)
  | 2, _ =>
    refine nr_step n k2 _ 1 (by omega) (by omega) rfl d h0 hh frm_refl hd (fun c h' a1 a2 a3 => q1 _ h' a1 a2 a3 (by simp [mD, upN])) (fun c h' a1 a2 a3 => ?_)
    have k1 := dec k2 1 (by omega) (by omega) (by omega)
    generalize k2 + -1 = k1v at k1 ⊢
    refine nr_step n k1v _ 0 (by omega) (by omega) rfl _ h' a1 a2 a3 (fun c' h' a1 a2 a3 => q1 _ h' a1 a2 a3 (by simp [mD, upN]; omega)) (fun c' h' a1 a2 a3 => ?_)
    exact nr_end n _ (dec k1v 0 (by omega) (by omega) (by omega)) h' a1 (q0 h' a1 a2)
  | 3, _ =>
    refine nr_step n k2 _ 2 (by omega) (by omega) rfl d h0 hh frm_refl hd (fun c h' a1 a2 a3 => q1 _ h' a1 a2 a3 (by simp [mD, upN])) (fun c h' a1 a2 a3 => ?_)
    have k1 := dec k2 2 (by omega) (by omega) (by omega)
    generalize k2 + -1 = k1v at k1 ⊢
    refine nr_step n k1v _ 1 (by omega) (by omega) rfl _ h' a1 a2 a3 (fun c' h' a1 a2 a3 => q1 _ h' a1 a2 a3 (by simp [mD, upN]; omega)) (fun c' h' a1 a2 a3 => ?_)
    have k0 := dec k1v 1 (by omega) (by omega) (by omega)
    generalize k1v + -1 = k0v at k0 ⊢
    refine nr_step n k0v _ 0 (by omega) (by omega) rfl _ h' a1 a2 a3 (fun c'' h' a1 a2 a3 => q1 _ h' a1 a2 a3 (by simp [upN] at c'; simp [mD, upN]; omega)) (fun c' h' a1 a2 a3 => ?_)
    exact nr_end n _ (dec k0v 0 (by omega) (by omega) (by omega)) h' a1 (q0 h' a1 a2)
/-- how many of the first do not run -/
def cnt (h : Hp) : Nat → Nat
  | 0 => 0
  | c + 1 => cnt h c + (if runM h (Int32.ofNat c) = true then 0 else 1)
theorem bit_fin : ∀ s, s < 128 → ∀ k, k < 7 → bitB (Int32.ofNat s) (Int32.ofNat k) = s.testBit k := by decide +kernel
theorem cnt_pop {h : Hp} (hh : HI h) (hg : (h.2.1 93 32).toInt = 0) : ∀ c, c ≤ 7 → cnt h c = ((List.range c).filter (fun i => (h.2.1 93 2).toInt.toNat.testBit i)).length
  | 0, _ => rfl
  | c + 1, hc => by
    have hb := hh.iv 93 2 (r := (0, 127)) rfl
    simp only at hb
    have g0 : h.2.1 93 32 = 0 := Int32.toInt.inj (by rw [hg]; rfl)
    have hr : runM h (Int32.ofNat c) = !(h.2.1 93 2).toInt.toNat.testBit c := by
      unfold runM
      rw [g0, Int32.or_zero]
      have e : Int32.ofNat (h.2.1 93 2).toInt.toNat = h.2.1 93 2 := ofn (by omega)
      rw [← bit_fin _ (by omega) c (by omega), e]
    rw [cnt, cnt_pop hh hg c (by omega), List.range_succ, List.filter_append, List.length_append, hr]
    congr 1
    cases e : (h.2.1 93 2).toInt.toNat.testBit c with
    | false => rw [List.filter_cons, e]; rfl
    | true => rw [List.filter_cons, e]; rfl
theorem cnt_mono (h : Hp) {a b : Nat} (hab : a ≤ b) : cnt h a ≤ cnt h b := by
  induction hab with
  | refl => exact Nat.le_refl _
  | step _ ih => exact Nat.le_trans ih (by rw [cnt]; omega)
def WLN : List (Nat × Nat) := [(96, 999)]
theorem WLN_in {k : Nat} : inW WLN 96 k = true := by simp [inW, WLN]
theorem cnt_fr {h : Hp} {W : List (Nat × Nat)} (hf : frm W h0 h) (w1 : inW W 93 2 = false) (w2 : inW W 93 32 = false) : ∀ c, cnt h c = cnt h0 c
  | 0 => rfl
  | c + 1 => by
    have : runM h (Int32.ofNat c) = runM h0 (Int32.ofNat c) := by unfold runM; rw [frI hf w1, frI hf w2]
    rw [cnt, cnt, cnt_fr hf w1 w2 c, this]
theorem sa_loop (d : Nat → Nat) (hd : D3 h0 d) (h3 : cnt h0 7 ≤ 3) (hQ : ∀ h', HI h' → frm WLN h0 h' → Q none h') :
    ∀ (m cn : Nat) (k c : Int32) (h : Hp), HI h → frm WLN h0 h → c.toInt = cn → cn + m = (h0.2.1 93 0).toInt.toNat → k.toInt = cnt h0 cn →
    Ends X (dp + 1 + 1) 171 4 [.ref 93, .int k, .int c] [] h Q
  | m, cn, k, c, h, hh, hf, hc, hm, hk => by
    have hpe := HI.iv hh 93 0 (r := (0, 7)) rfl
    rw [frI hf rfl] at hpe
    simp only at hpe
    refine w_sa1 k c hh.hs ⟨fun e => hQ h hh hf, fun e => ?_⟩
    rw [frI hf rfl] at e
    have e : ¬ (h0.2.1 93 0).toInt ≤ c.toInt := of_decide_eq_false (cI e)
    match m, hm with
    | 0, hm => omega
    | m + 1, hm =>
      have hc1 : (c + 1).toInt = ((cn + 1 : Nat) : Int) := by rw [i_add (by rw [i1]; omega) (by rw [i1]; omega), i1]; omega
      generalize c + 1 = c1 at hc1 ⊢
      have hr : runM h c = runM h0 (Int32.ofNat cn) := by rw [ofn hc]; unfold runM; rw [frI hf rfl, frI hf rfl]
      have hcn : cnt h0 (cn + 1) = cnt h0 cn + (if runM h0 (Int32.ofNat cn) = true then 0 else 1) := rfl
      have hmo := cnt_mono h0 (a := cn + 1) (b := 7) (by omega)
      refine run_ok c hh.hs ⟨_, rfl, hh.hs, fun e2 => ?_, fun e2 => ?_⟩
      · have e2 := cz e2
        rw [hr] at e2
        rw [e2, if_neg (by decide)] at hcn
        have hk1 : (k + 1).toInt = ((cnt h0 (cn + 1) : Nat) : Int) := by rw [i_add (by rw [i1]; omega) (by rw [i1]; omega), i1]; omega
        generalize k + 1 = k1 at hk1 ⊢
        have dk := hd (cnt h0 cn) (by omega)
        have q1 : k.toNatClampNeg = cnt h0 cn := by show k.toInt.toNat = _; omega
        have q2 : c.toNatClampNeg = cn := by show c.toInt.toNat = _; omega
        refine ⟨inB_iff (by omega) (by omega), inB_iff (by omega) (by omega), ?_⟩
        rw [q1, q2]
        have v : h.2.1 111 (cnt h0 cn) = h0.2.1 111 (cnt h0 cn) := frI hf rfl
        rw [v]
        exact sa_loop d hd h3 hQ m (cn + 1) k1 c1 _ (HI_put hh (by show (0 : Int) ≤ _; omega) (by show _ ≤ (6 : Int); omega)) (frm_put hf WLN_in) hc1 (by omega) hk1
      · have e2 : runM h c = true := nb.mp (of_decide_eq_false (cI e2))
        rw [hr] at e2
        rw [e2, if_pos rfl] at hcn
        exact sa_loop d hd h3 hQ m (cn + 1) k c1 h hh hf hc1 (by omega) (by rw [hk, hcn]; rfl)
end SPR
end JN76spread2
section JN77spread3
/-! spread of the reference ends well: its loops. -/
def WSP : List (Nat × Nat) := [(96, 999), (111, 999), (112, 999), (113, 999), (93, 34), (93, 35), (109, 999), (110, 999)]
theorem WSP_a {a k : Nat} (h : (a == 96 || a == 111 || a == 112 || a == 113) = true) : inW WSP a k = true := by
  simp only [Bool.or_eq_true, beq_iff_eq] at h
  rcases h with ((rfl | rfl) | rfl) | rfl <;> simp [inW, WSP]
theorem J1_sp {h0 h : Hp} (hf : frm WSP h0 h) (hj : J1.1 h0) : J1.1 h := KI_dis JS1 (W := WSP) (by decide) hf hj
section SPL
variable {X : Scr} {dp : Nat} {h0 : Hp} {Q : Option Value → Hp → Prop}
def OLD7 (h0 h : Hp) : Prop := ∀ q, q < 7 → h.2.1 113 q = h0.2.1 96 q
theorem sp_150 (k n m g : Int32) (b : Value) (hn : 0 ≤ n.toInt) (hn3 : n.toInt ≤ 3) (hQ : ∀ (r : Int32) h', HI h' → frm WSP h0 h' → (∀ q, q < 7 → h'.2.1 96 q = h0.2.1 96 q) → Q (some (.int r)) h') :
    ∀ (s pn : Nat) (p : Int32) (h : Hp), HI h → frm WSP h0 h → OLD7 h0 h → p.toInt = pn → pn + s = 7 → (∀ q, q < pn → h.2.1 96 q = h0.2.1 96 q) →
    Ends X dp 173 150 [.ref 93, .int k, .int n, .int m, .int g, .int p, b] [] h Q
  | s, pn, p, h, hh, hf, ho, hp, hs, hl => by
    have i7 : (7 : Int32).toInt = 7 := rfl
    refine w_sp150 k n m g p b hh.hs ⟨fun e => ⟨fun e2 => ⟨fun e3 => ?_, fun e3 => ?_⟩, fun e2 => ?_⟩, fun e => ?_⟩
    all_goals have e := cI e
    all_goals simp only [cndI, i7, decide_eq_true_eq, decide_eq_false_iff_not] at e
    · exact hQ _ h hh hf (fun q hq => hl q (by omega))
    · have e2 : 0 ≤ k.toInt := of_decide_eq_true (cI e2)
      have e3 : ¬ n.toInt ≤ k.toInt := of_decide_eq_false (cI e3)
      exact ⟨inB_iff e2 (by omega), hQ _ h hh hf (fun q hq => hl q (by omega))⟩
    · exact hQ _ h hh hf (fun q hq => hl q (by omega))
    · match s, hs with
      | 0, hs => omega
      | s + 1, hs =>
        have hp1 : (p + 1).toInt = ((pn + 1 : Nat) : Int) := by rw [i_add (by rw [i1]; omega) (by rw [i1]; omega), i1]; omega
        generalize p + 1 = p1 at hp1 ⊢
        have q1 : p.toNatClampNeg = pn := by show p.toInt.toNat = _; omega
        refine ⟨inB_iff (by omega) (by omega), inB_iff (by omega) (by omega), ?_⟩
        rw [q1]
        have hv := HI.iv hh 113 pn (r := (0, 6)) rfl
        refine sp_150 k n m g b hn hn3 hQ s (pn + 1) p1 _ (HI_put hh hv.1 hv.2) (frm_put hf (WSP_a rfl)) (fun q hq => ?_) hp1 (by omega) (fun q hq => ?_)
        · rw [put_ne (by omega)]
          exact ho q hq
        · by_cases c : q = pn
          · rw [c, put_at]
            exact ho pn (by omega)
          · rw [put_ne (by omega)]
            exact hl q (by omega)
theorem sp_80z (k n m g : Int32) (nn : Nat) (hn : n.toInt = nn) (hn3 : nn ≤ 3) (a b : Value) (h : Hp) (hh : HI h) (hf : frm WSP h0 h) (ho : OLD7 h0 h) (hg : g = 0)
    (hQ : ∀ (r : Int32) h', HI h' → frm WSP h0 h' → (∀ q, q < 7 → h'.2.1 96 q = h0.2.1 96 q) → Q (some (.int r)) h') : Ends X (dp + 1) 173 80 [.ref 93, .int k, .int n, .int m, .int g, a, b] [] h Q := by
  refine w_sp80 k n m g a b hh.hs ⟨fun e => ?_, fun e => ?_⟩
  · exact sp_150 k n m g b (by omega) (by omega) hQ 7 0 0 h hh hf ho rfl (by omega) (fun q hq => by omega)
  · exfalso
    have e : ¬ g.toInt = 0 := of_decide_eq_false (cI e)
    rw [hg] at e
    exact e rfl
theorem sp_nx (k n m i : Int32) (b : Value) (nn : Nat) (hn : n.toInt = nn) (hn3 : nn ≤ 3) (M : Nat)
    (hQ : ∀ (r : Int32) h', HI h' → frm WSP h0 h' → (∀ q, q < 7 → h'.2.1 96 q = h0.2.1 96 q) → Q (some (.int r)) h')
    (ih : ∀ M', M' < M → ∀ (g : Int32) (d : Nat → Nat) (h : Hp), HI h → frm WSP h0 h → OLD7 h0 h → D3 h d → mD d + M' = 343 → Ends X (dp + 1 + 1 + 1) 173 80 [.ref 93, .int k, .int n, .int m, .int g, .int i, b] [] h Q)
    (d : Nat → Nat) (h : Hp) (hh : HI h) (hf : frm WSP h0 h) (ho : OLD7 h0 h) (hd : D3 h d) (hM : mD d + M = 343) :
    Ends X (dp + 1 + 1) 172 0 [.ref 93, .int n, .retAddr 0] [] h (fun rv h12 => ∃ r13 : Int32, rv = some (.int r13) ∧ HS h12 ∧ Ends X (dp + 1 + 1 + 1) 173 80 [.ref 93, .int k, .int n, .int m, .int r13, .int i, b] [] h12 Q) := by
  refine next_ok n nn hn hn3 d hh hd (fun r2 h3 r01 hh3 hf3 hx => ⟨r2, rfl, hh3.hs, ?_⟩)
  have f3 : frm WSP h0 h3 := frm_trans hf (frm_sub (V := WRN) (by decide) hf3)
  have o3 : OLD7 h0 h3 := fun q hq => by rw [frI hf3 rfl]; exact ho q hq
  by_cases z : r2 = 0
  · exact sp_80z k n m r2 nn hn hn3 _ b h3 hh3 f3 o3 z hQ
  · obtain ⟨d', a1, a2⟩ := hx z
    have b0 := (a1 0 (by omega)).2
    have b1 := (a1 1 (by omega)).2
    have b2 := (a1 2 (by omega)).2
    have bnd : mD d' ≤ 342 := by
      unfold mD
      omega
    exact ih (343 - mD d') (by omega) r2 d' h3 hh3 f3 o3 a1 (by omega)
theorem sp_111 (k n m g i : Int32) (d : Nat → Nat)
    (ct : ∀ (b : Value) h, HI h → frm WSP h0 h → OLD7 h0 h → D3 h d → Ends X (dp + 1 + 1) 172 0 [.ref 93, .int n, .retAddr 0] [] h (fun rv h12 => ∃ r13 : Int32, rv = some (.int r13) ∧ HS h12 ∧ Ends X (dp + 1 + 1 + 1) 173 80 [.ref 93, .int k, .int n, .int m, .int r13, .int i, b] [] h12 Q)) :
    ∀ (s jn : Nat) (j : Int32) (h : Hp), HI h → frm WSP h0 h → OLD7 h0 h → D3 h d → j.toInt = jn → jn + s = 3 → Ends X (dp + 1 + 1 + 1) 173 111 [.ref 93, .int k, .int n, .int m, .int g, .int i, .int j] [] h Q
  | s, jn, j, h, hh, hf, ho, hd, hj, hs => by
    have i3 : (3 : Int32).toInt = 3 := rfl
    refine w_sp111 k n m g i j hh.hs ⟨fun e => ct _ h hh hf ho hd, fun e => ?_⟩
    have e := cI e
    simp only [cndI, i3, decide_eq_false_iff_not] at e
    match s, hs with
    | 0, hs => omega
    | s + 1, hs =>
      have hj1 : (j + 1).toInt = ((jn + 1 : Nat) : Int) := by rw [i_add (by rw [i1]; omega) (by rw [i1]; omega), i1]; omega
      generalize j + 1 = j1 at hj1 ⊢
      have q1 : j.toNatClampNeg = jn := by show j.toInt.toNat = _; omega
      have dv := hd jn (by omega)
      refine ⟨inB_iff (by omega) (by omega), inB_iff (by omega) (by omega), ?_⟩
      rw [q1]
      refine sp_111 k n m g i d ct s (jn + 1) j1 _ (HI_put hh (by show (0 : Int) ≤ _; omega) (by show _ ≤ (6 : Int); omega)) (frm_put hf (WSP_a rfl)) (fun q hq => ?_) (fun q hq => ?_) hj1 (by omega)
      · rw [put_ne (by omega)]; exact ho q hq
      · rw [put_ne (by omega)]; exact hd q hq
theorem sp_80 (k n : Int32) (nn : Nat) (hn : n.toInt = nn) (hn3 : nn ≤ 3) (hd : 40 ≤ dp) (hj : J1.1 h0) (hg : (h0.2.1 93 32).toInt = 0) (hc : cnt h0 7 ≤ 3)
    (hQ : ∀ (r : Int32) h', HI h' → frm WSP h0 h' → (∀ q, q < 7 → h'.2.1 96 q = h0.2.1 96 q) → Q (some (.int r)) h') :
    ∀ (M : Nat) (m g : Int32) (a b : Value) (d : Nat → Nat) (h : Hp), HI h → frm WSP h0 h → OLD7 h0 h → D3 h d → mD d + M = 343 →
    Ends X (dp + 1 + 1 + 1) 173 80 [.ref 93, .int k, .int n, .int m, .int g, a, b] [] h Q := by
  intro M
  induction M using Nat.strongRecOn with
  | ind M ih =>
    intro m g a b d h hh hf ho hd3 hm
    refine w_sp80 k n m g a b hh.hs ⟨fun e => ?_, fun e => ?_⟩
    · exact sp_150 k n m g b (by omega) (by omega) hQ 7 0 0 h hh hf ho rfl (by omega) (fun q hq => by omega)
    · have hcf : cnt h 7 ≤ 3 := by rw [cnt_fr hf rfl rfl]; exact hc
      refine w_sa0 hh.hs ?_
      refine sa_loop (h0 := h) d hd3 hcf (fun h1 hh1 hf1 => ⟨rfl, hh1.hs, ?_⟩) (h.2.1 93 0).toInt.toNat 0 0 0 h hh frm_refl rfl (by omega) rfl
      have f1 : frm WSP h0 h1 := frm_trans hf (frm_sub (V := WLN) (by decide) hf1)
      refine (caught_s1 (Nat.le_trans (by decide) (show 40 ≤ dp + 1 + 1 by omega)) hh1 (J1_sp f1 hj)).mono ?_
      rintro _ h2 ⟨c, rfl, c1, c2, hh2, hf2⟩
      refine ⟨c, rfl, hh2.hs, ?_⟩
      have f2 : frm WSP h0 h2 := frm_trans f1 (frm_sub (by decide) hf2)
      have d2 : D3 h2 d := fun j hj => by rw [frI hf2 rfl, frI hf1 rfl]; exact hd3 j hj
      have o2 : OLD7 h0 h2 := fun q hq => by rw [frI hf2 rfl, frI hf1 rfl]; exact ho q hq
      have nx : ∀ (m i : Int32) (b : Value) h, HI h → frm WSP h0 h → OLD7 h0 h → D3 h d → Ends X (dp + 1 + 1) 172 0 [.ref 93, .int n, .retAddr 0] [] h (fun rv h12 => ∃ r13 : Int32, rv = some (.int r13) ∧ HS h12 ∧ Ends X (dp + 1 + 1 + 1) 173 80 [.ref 93, .int k, .int n, .int m, .int r13, .int i, b] [] h12 Q) :=
        fun m i b h3 a1 a2 a3 a4 => sp_nx k n m i b nn hn hn3 M hQ (fun M' hM' g d h b1 b2 b3 b4 b5 => ih M' hM' m g _ b d h b1 b2 b3 b4 b5) d h3 a1 a2 a3 a4 hm
      refine ones_ok c hh2.hs c1 (by omega) (fun r hr => ⟨r, rfl, hh2.hs, fun e2 => ?_, fun e2 => ?_⟩)
      · exact nx m r b h2 hh2 f2 o2 d2
      · exact sp_111 k n r g r d (fun b h3 a1 a2 a3 a4 => nx r r b h3 a1 a2 a3 a4) 3 0 0 h2 hh2 f2 o2 d2 rfl (by omega)
theorem sp_57 (k n : Int32) (ct : ∀ h, HI h → frm WSP h0 h → OLD7 h0 h → D3 h (fun _ => 0) → Ends X dp 173 80 [.ref 93, .int k, .int n, .int (-1), .int 1, .retAddr 0, .retAddr 0] [] h Q) :
    ∀ (s jn : Nat) (j : Int32) (h : Hp), HI h → frm WSP h0 h → OLD7 h0 h → j.toInt = jn → jn + s = 3 → (∀ q, q < jn → (h.2.1 111 q).toInt = 0) → Ends X dp 173 57 [.ref 93, .int k, .int n, .int j, .retAddr 0, .retAddr 0, .retAddr 0] [] h Q
  | s, jn, j, h, hh, hf, ho, hj, hs, hz => by
    have i3 : (3 : Int32).toInt = 3 := rfl
    refine w_sp57 k n j hh.hs ⟨fun e => ?_, fun e => ?_⟩
    all_goals have e := cI e
    all_goals simp only [cndI, i3, decide_eq_true_eq, decide_eq_false_iff_not] at e
    · exact ct h hh hf ho (fun q hq => ⟨hz q (by omega), Nat.zero_le _⟩)
    · match s, hs with
      | 0, hs => omega
      | s + 1, hs =>
        have hj1 : (j + 1).toInt = ((jn + 1 : Nat) : Int) := by rw [i_add (by rw [i1]; omega) (by rw [i1]; omega), i1]; omega
        generalize j + 1 = j1 at hj1 ⊢
        have q1 : j.toNatClampNeg = jn := by show j.toInt.toNat = _; omega
        refine ⟨inB_iff (by omega) (by omega), ?_⟩
        rw [q1]
        refine sp_57 k n ct s (jn + 1) j1 _ (HI_put hh (by show (0 : Int) ≤ 0; decide) (by show (0 : Int) ≤ 7; decide)) (frm_put hf (WSP_a rfl)) (fun q hq => ?_) hj1 (by omega) (fun q hq => ?_)
        · rw [put_ne (by omega)]; exact ho q hq
        · by_cases c : q = jn
          · rw [c, put_at]; rfl
          · rw [put_ne (by omega)]; exact hz q (by omega)
theorem sp_31 (k n : Int32) (ct : ∀ h, HI h → frm WSP h0 h → OLD7 h0 h → Ends X dp 173 57 [.ref 93, .int k, .int n, .int 0, .retAddr 0, .retAddr 0, .retAddr 0] [] h Q) :
    ∀ (s jn : Nat) (j : Int32) (h : Hp), HI h → frm WSP h0 h → j.toInt = jn → jn + s = 7 → (∀ q, q < 7 → h.2.1 96 q = h0.2.1 96 q) → (∀ q, q < jn → h.2.1 113 q = h0.2.1 96 q) → Ends X dp 173 31 [.ref 93, .int k, .int n, .int j, .retAddr 0, .retAddr 0, .retAddr 0] [] h Q
  | s, jn, j, h, hh, hf, hj, hs, hl, hz => by
    have i7 : (7 : Int32).toInt = 7 := rfl
    refine w_sp31 k n j hh.hs ⟨fun e => ?_, fun e => ?_⟩
    all_goals have e := cI e
    all_goals simp only [cndI, i7, decide_eq_true_eq, decide_eq_false_iff_not] at e
    · exact ct h hh hf (fun q hq => hz q (by omega))
    · match s, hs with
      | 0, hs => omega
      | s + 1, hs =>
        have hj1 : (j + 1).toInt = ((jn + 1 : Nat) : Int) := by rw [i_add (by rw [i1]; omega) (by rw [i1]; omega), i1]; omega
        generalize j + 1 = j1 at hj1 ⊢
        have q1 : j.toNatClampNeg = jn := by show j.toInt.toNat = _; omega
        have hv := HI.iv hh 96 jn (r := (0, 6)) rfl
        refine ⟨inB_iff (by omega) (by omega), inB_iff (by omega) (by omega), ?_⟩
        rw [q1]
        refine sp_31 k n ct s (jn + 1) j1 _ (HI_put hh hv.1 hv.2) (frm_put hf (WSP_a rfl)) hj1 (by omega) (fun q hq => ?_) (fun q hq => ?_)
        · rw [put_ne (by omega)]; exact hl q hq
        · by_cases c : q = jn
          · rw [c, put_at]; exact hl jn (by omega)
          · rw [put_ne (by omega)]; exact hz q (by omega)
end SPL
theorem spread_s {X : Scr} {dp : Nat} {h : Hp} {Q : Option Value → Hp → Prop} (k : Int32) (hd : 40 ≤ dp) (hh : HI h) (hj : J1.1 h) (hg : (h.2.1 93 32).toInt = 0)
    (hQ : ∀ (r : Int32) h', HI h' → frm WSP h h' → (∀ q, q < 7 → h'.2.1 96 q = h.2.1 96 q) → Q (some (.int r)) h') : Ends X (dp + 1 + 1 + 1) 173 0 [.ref 93, .int k, .retAddr 0, .retAddr 0, .retAddr 0, .retAddr 0, .retAddr 0] [] h Q := by
  have hb := hh.iv 93 2 (r := (0, 127)) rfl
  simp only at hb
  refine w_sp0 k hh.hs (in_ok _ _ _ hh.hs ⟨_, rfl, hh.hs, fun e1 => ?_, fun e1 => hQ _ h hh frm_refl (fun _ _ => rfl)⟩)
  refine ones_ok _ hh.hs hb.1 (by omega) (fun r hr => ⟨r, rfl, hh.hs, fun e2 => ?_, fun e2 => hQ _ h hh frm_refl (fun _ _ => rfl)⟩)
  have e2 : r.toInt ≤ 3 := of_decide_eq_true (cI e2)
  have hc : cnt h 7 ≤ 3 := by
    rw [cnt_pop hh hg 7 (Nat.le_refl _)]
    have : popN (h.2.1 93 2).toInt.toNat ≤ 3 := by omega
    exact this
  refine sp_31 (h0 := h) k r (fun h1 a1 a2 a3 => ?_) 7 0 0 h hh frm_refl rfl (by omega) (fun _ _ => rfl) (fun q hq => by omega)
  refine sp_57 k r (fun h2 b1 b2 b3 b4 => ?_) 3 0 0 h1 a1 a2 a3 rfl (by omega) (fun q hq => by omega)
  exact sp_80 k r (popN (h.2.1 93 2).toInt.toNat) hr (by omega) hd hj hg hc hQ 343 _ _ _ _ (fun _ => 0) h2 b1 b2 b3 b4 rfl
end JN77spread3
