/-! spread of the reference: what is owed for it. -/
theorem w_sp0 {X : Scr} {dp : Nat} {h : Hp} {Q : Option Value → Hp → Prop} (k : Int32) (hs : HS h)
    (vc : Ends X dp 109 0 [.ref 93, .int k, .int (-1), .int 2] [] h (fun rv h1 => ∃ r2, rv = some (.int r2) ∧ HS h1 ∧ ((condB .ne r2 0 = true → Ends X dp 111 0 [.ref 93, .int (h1.2.1 93 2), .retAddr 0, .retAddr 0] [] h1 (fun rv h5 => ∃ r6, rv = some (.int r6) ∧ HS h5 ∧ ((condB .le r6 3 = true → Ends X (dp + 1) 173 31 [.ref 93, .int k, .int r6, .int 0, .retAddr 0, .retAddr 0, .retAddr 0] [] h5 Q) ∧ (condB .le r6 3 = false → Q (some (.int (-9))) h5)))) ∧ (condB .ne r2 0 = false → Q (some (.int (-1))) h1)))) :
    Ends X (dp + 1) 173 0 [.ref 93, .int k, .retAddr 0, .retAddr 0, .retAddr 0, .retAddr 0, .retAddr 0] [] h Q := by
  have ra : ∀ {a : Nat}, a < 1000 → a ≤ OLDB := fun h => by have := OLDB_eq; omega
  refine e_aload_n (show pAt 173 0 = some (0, .aload_n 0, 1, []) from by decide +kernel) rfl (ra (by decide)) ?_
  refine e_iload_n (show pAt 173 1 = some (1, .iload_n 1, 1, []) from by decide +kernel) rfl ?_
  refine e_iconst (c := (-1)) (show pAt 173 2 = some (2, .iconst (-1), 1, []) from by decide +kernel) (by decide) ?_
  refine e_iconst (c := 2) (show pAt 173 3 = some (3, .iconst 2, 1, []) from by decide +kernel) (by decide) ?_
  refine Ends.call (show pAt 173 4 = some (4, .invokevirtual 206, 3, [109, 4, 0, 0, 5081, 5083, 54]) from by decide +kernel) (isRet_none rfl) rfl (call_this (show HS h from hs) rfl rfl (by decide)) (Ends.mono vc ?_)
  rintro _ h1 ⟨r2, rfl, hs_h1, vc⟩
  refine e_if (t := 12) (show pAt 173 7 = some (7, .ifCond .ne 5, 3, []) from by decide +kernel) rfl (fun c4 => ?_) (fun c4 => ?_)
  · replace vc := vc.1 c4
    refine e_aload_n (show pAt 173 12 = some (12, .aload_n 0, 1, []) from by decide +kernel) rfl (ra (by decide)) ?_
    refine e_aload_n (show pAt 173 13 = some (13, .aload_n 0, 1, []) from by decide +kernel) rfl (ra (by decide)) ?_
    refine e_gI (show pAt 173 14 = some (14, .getfield 16, 3, [7, 2, 0, 4125]) from by decide +kernel) (show HS h1 from hs_h1) rfl (by decide) ?_
    refine Ends.call (show pAt 173 17 = some (17, .invokevirtual 342, 3, [111, 2, 0, 0, 6045, 6047, 96]) from by decide +kernel) (isRet_none rfl) rfl (call_this (show HS h1 from hs_h1) rfl rfl (by decide)) (Ends.mono vc ?_)
    rintro _ h5 ⟨r6, rfl, hs_h5, vc⟩
    refine e_istore_n (show pAt 173 20 = some (20, .istore_n 2, 1, []) from by decide +kernel) ⟨Nat.le_of_ble_eq_true rfl, rfl⟩ rfl ?_
    refine e_iload_n (show pAt 173 21 = some (21, .iload_n 2, 1, []) from by decide +kernel) rfl ?_
    refine e_iconst (c := 3) (show pAt 173 22 = some (22, .iconst 3, 1, []) from by decide +kernel) (by decide) ?_
    refine e_icmp (t := 29) (show pAt 173 23 = some (23, .if_icmp .le 6, 3, []) from by decide +kernel) rfl (fun c8 => ?_) (fun c8 => ?_)
    · replace vc := vc.1 c8
      refine e_iconst (c := 0) (show pAt 173 29 = some (29, .iconst 0, 1, []) from by decide +kernel) (by decide) ?_
      refine e_istore_n (show pAt 173 30 = some (30, .istore_n 3, 1, []) from by decide +kernel) ⟨Nat.le_of_ble_eq_true rfl, rfl⟩ rfl ?_
      exact vc
    · replace vc := vc.2 c8
      refine e_bipush (c := (-9)) (show pAt 173 26 = some (26, .bipush (-9), 2, []) from by decide +kernel) (by decide) ?_
      exact e_retI (show pAt 173 28 = some (28, .ireturn, 1, []) from by decide +kernel) rfl vc
  · replace vc := vc.2 c4
    refine e_iconst (c := (-1)) (show pAt 173 10 = some (10, .iconst (-1), 1, []) from by decide +kernel) (by decide) ?_
    exact e_retI (show pAt 173 11 = some (11, .ireturn, 1, []) from by decide +kernel) rfl vc

theorem w_sp31 {X : Scr} {dp : Nat} {h : Hp} {Q : Option Value → Hp → Prop} (k : Int32) (n : Int32) (p : Int32) (hs : HS h)
    (vc : ((condB .ge p 7 = true → Ends X dp 173 57 [.ref 93, .int k, .int n, .int 0, .retAddr 0, .retAddr 0, .retAddr 0] [] h Q) ∧ (condB .ge p 7 = false → (inB p 7 = true ∧ (inB p 7 = true ∧ Ends X dp 173 31 [.ref 93, .int k, .int n, .int (p + 1), .retAddr 0, .retAddr 0, .retAddr 0] [] (hpI h 113 p.toNatClampNeg (h.2.1 96 p.toNatClampNeg)) Q))))) :
    Ends X dp 173 31 [.ref 93, .int k, .int n, .int p, .retAddr 0, .retAddr 0, .retAddr 0] [] h Q := by
  have ra : ∀ {a : Nat}, a < 1000 → a ≤ OLDB := fun h => by have := OLDB_eq; omega
  refine e_iload_n (show pAt 173 31 = some (31, .iload_n 3, 1, []) from by decide +kernel) rfl ?_
  refine e_bipush (c := 7) (show pAt 173 32 = some (32, .bipush 7, 2, []) from by decide +kernel) (by decide) ?_
  refine e_icmp (t := 55) (show pAt 173 34 = some (34, .if_icmp .ge 21, 3, []) from by decide +kernel) rfl (fun c1 => ?_) (fun c1 => ?_)
  · replace vc := vc.1 c1
    refine e_iconst (c := 0) (show pAt 173 55 = some (55, .iconst 0, 1, []) from by decide +kernel) (by decide) ?_
    refine e_istore_n (show pAt 173 56 = some (56, .istore_n 3, 1, []) from by decide +kernel) ⟨Nat.le_of_ble_eq_true rfl, rfl⟩ rfl ?_
    exact vc
  · replace vc := vc.2 c1
    refine e_aload_n (show pAt 173 37 = some (37, .aload_n 0, 1, []) from by decide +kernel) rfl (ra (by decide)) ?_
    refine e_gR (show pAt 173 38 = some (38, .getfield 133, 3, [7, 40, 0, 4163]) from by decide +kernel) (show HS h from hs) rfl (by decide) (hs_ref (show HS h from hs) rfl) ?_
    refine e_iload_n (show pAt 173 41 = some (41, .iload_n 3, 1, []) from by decide +kernel) rfl ?_
    refine e_aload_n (show pAt 173 42 = some (42, .aload_n 0, 1, []) from by decide +kernel) rfl (ra (by decide)) ?_
    refine e_gR (show pAt 173 43 = some (43, .getfield 26, 3, [7, 5, 0, 4128]) from by decide +kernel) (show HS h from hs) rfl (by decide) (hs_ref (show HS h from hs) rfl) ?_
    refine e_iload_n (show pAt 173 46 = some (46, .iload_n 3, 1, []) from by decide +kernel) rfl ?_
    obtain ⟨c2, vc⟩ := vc
    refine e_ald (show pAt 173 47 = some (47, .iaload, 1, []) from by decide +kernel) (show HS h from hs) (by decide) c2 ?_
    obtain ⟨c3, vc⟩ := vc
    refine e_ast (show pAt 173 48 = some (48, .iastore, 1, []) from by decide +kernel) (show HS h from hs) (by decide) c3 ?_
    refine e_iinc (c := 1) (show pAt 173 49 = some (49, .iinc 3 1, 3, []) from by decide +kernel) rfl rfl (by decide) rfl ?_
    refine e_goto (t := 31) (show pAt 173 52 = some (52, .goto (-21), 3, []) from by decide +kernel) rfl ?_
    exact vc

theorem w_sp57 {X : Scr} {dp : Nat} {h : Hp} {Q : Option Value → Hp → Prop} (k : Int32) (n : Int32) (p : Int32) (hs : HS h)
    (vc : ((condB .ge p 3 = true → Ends X dp 173 80 [.ref 93, .int k, .int n, .int (-1), .int 1, .retAddr 0, .retAddr 0] [] h Q) ∧ (condB .ge p 3 = false → (inB p 3 = true ∧ Ends X dp 173 57 [.ref 93, .int k, .int n, .int (p + 1), .retAddr 0, .retAddr 0, .retAddr 0] [] (hpI h 111 p.toNatClampNeg 0) Q)))) :
    Ends X dp 173 57 [.ref 93, .int k, .int n, .int p, .retAddr 0, .retAddr 0, .retAddr 0] [] h Q := by
  have ra : ∀ {a : Nat}, a < 1000 → a ≤ OLDB := fun h => by have := OLDB_eq; omega
  refine e_iload_n (show pAt 173 57 = some (57, .iload_n 3, 1, []) from by decide +kernel) rfl ?_
  refine e_iconst (c := 3) (show pAt 173 58 = some (58, .iconst 3, 1, []) from by decide +kernel) (by decide) ?_
  refine e_icmp (t := 75) (show pAt 173 59 = some (59, .if_icmp .ge 16, 3, []) from by decide +kernel) rfl (fun c1 => ?_) (fun c1 => ?_)
  · replace vc := vc.1 c1
    refine e_iconst (c := (-1)) (show pAt 173 75 = some (75, .iconst (-1), 1, []) from by decide +kernel) (by decide) ?_
    refine e_istore_n (show pAt 173 76 = some (76, .istore_n 3, 1, []) from by decide +kernel) ⟨Nat.le_of_ble_eq_true rfl, rfl⟩ rfl ?_
    refine e_iconst (c := 1) (show pAt 173 77 = some (77, .iconst 1, 1, []) from by decide +kernel) (by decide) ?_
    refine e_istore (show pAt 173 78 = some (78, .istore 4, 2, []) from by decide +kernel) ⟨Nat.le_of_ble_eq_true rfl, rfl⟩ rfl ?_
    exact vc
  · replace vc := vc.2 c1
    refine e_aload_n (show pAt 173 62 = some (62, .aload_n 0, 1, []) from by decide +kernel) rfl (ra (by decide)) ?_
    refine e_gR (show pAt 173 63 = some (63, .getfield 127, 3, [7, 38, 0, 4161]) from by decide +kernel) (show HS h from hs) rfl (by decide) (hs_ref (show HS h from hs) rfl) ?_
    refine e_iload_n (show pAt 173 66 = some (66, .iload_n 3, 1, []) from by decide +kernel) rfl ?_
    refine e_iconst (c := 0) (show pAt 173 67 = some (67, .iconst 0, 1, []) from by decide +kernel) (by decide) ?_
    obtain ⟨c2, vc⟩ := vc
    refine e_ast (show pAt 173 68 = some (68, .iastore, 1, []) from by decide +kernel) (show HS h from hs) (by decide) c2 ?_
    refine e_iinc (c := 1) (show pAt 173 69 = some (69, .iinc 3 1, 3, []) from by decide +kernel) rfl rfl (by decide) rfl ?_
    refine e_goto (t := 57) (show pAt 173 72 = some (72, .goto (-15), 3, []) from by decide +kernel) rfl ?_
    exact vc

theorem w_sp80 {X : Scr} {dp : Nat} {h : Hp} {Q : Option Value → Hp → Prop} (k : Int32) (n : Int32) (m : Int32) (g : Int32) (a : Value) (b : Value) (hs : HS h)
    (vc : ((condB .eq g 0 = true → Ends X (dp + 1) 173 150 [.ref 93, .int k, .int n, .int m, .int g, .int 0, b] [] h Q) ∧ (condB .eq g 0 = false → Ends X dp 171 0 [.ref 93, .retAddr 0, .retAddr 0] [] h (fun rv h2 => rv = none ∧ HS h2 ∧ Ends X dp 157 0 [.ref 93, .retAddr 0, .retAddr 0, .retAddr 0, .retAddr 0, .retAddr 0] [] h2 (fun rv h5 => ∃ r6, rv = some (.int r6) ∧ HS h5 ∧ Ends X dp 111 0 [.ref 93, .int r6, .retAddr 0, .retAddr 0] [] h5 (fun rv h8 => ∃ r9, rv = some (.int r9) ∧ HS h8 ∧ ((condB .le r9 m = true → Ends X dp 172 0 [.ref 93, .int n, .retAddr 0] [] h8 (fun rv h12 => ∃ r13, rv = some (.int r13) ∧ HS h12 ∧ Ends X (dp + 1) 173 80 [.ref 93, .int k, .int n, .int m, .int r13, .int r9, b] [] h12 Q)) ∧ (condB .le r9 m = false → Ends X (dp + 1) 173 111 [.ref 93, .int k, .int n, .int r9, .int g, .int r9, .int 0] [] h8 Q)))))))) :
    Ends X (dp + 1) 173 80 [.ref 93, .int k, .int n, .int m, .int g, a, b] [] h Q := by
  have ra : ∀ {a : Nat}, a < 1000 → a ≤ OLDB := fun h => by have := OLDB_eq; omega
  refine e_iload (show pAt 173 80 = some (80, .iload 4, 2, []) from by decide +kernel) rfl ?_
  refine e_if (t := 147) (show pAt 173 82 = some (82, .ifCond .eq 65, 3, []) from by decide +kernel) rfl (fun c1 => ?_) (fun c1 => ?_)
  · replace vc := vc.1 c1
    refine e_iconst (c := 0) (show pAt 173 147 = some (147, .iconst 0, 1, []) from by decide +kernel) (by decide) ?_
    refine e_istore (show pAt 173 148 = some (148, .istore 5, 2, []) from by decide +kernel) ⟨Nat.le_of_ble_eq_true rfl, rfl⟩ rfl ?_
    exact vc
  · replace vc := vc.2 c1
    refine e_aload_n (show pAt 173 85 = some (85, .aload_n 0, 1, []) from by decide +kernel) rfl (ra (by decide)) ?_
    refine Ends.call (show pAt 173 86 = some (86, .invokevirtual 351, 3, [171, 1, 0, 0, 6089, 6091, 99]) from by decide +kernel) (isRet_none rfl) rfl (call_this (show HS h from hs) rfl rfl (by decide)) (Ends.mono vc ?_)
    rintro _ h2 ⟨rfl, hs_h2, vc⟩
    refine e_aload_n (show pAt 173 89 = some (89, .aload_n 0, 1, []) from by decide +kernel) rfl (ra (by decide)) ?_
    refine e_aload_n (show pAt 173 90 = some (90, .aload_n 0, 1, []) from by decide +kernel) rfl (ra (by decide)) ?_
    refine Ends.call (show pAt 173 91 = some (91, .invokevirtual 333, 3, [157, 1, 0, 0, 6009, 6011, 88]) from by decide +kernel) (isRet_none rfl) rfl (call_this (show HS h2 from hs_h2) rfl rfl (by decide)) (Ends.mono vc ?_)
    rintro _ h5 ⟨r6, rfl, hs_h5, vc⟩
    refine Ends.call (show pAt 173 94 = some (94, .invokevirtual 342, 3, [111, 2, 0, 0, 6045, 6047, 96]) from by decide +kernel) (isRet_none rfl) rfl (call_this (show HS h5 from hs_h5) rfl rfl (by decide)) (Ends.mono vc ?_)
    rintro _ h8 ⟨r9, rfl, hs_h8, vc⟩
    refine e_istore (show pAt 173 97 = some (97, .istore 5, 2, []) from by decide +kernel) ⟨Nat.le_of_ble_eq_true rfl, rfl⟩ rfl ?_
    refine e_iload (show pAt 173 99 = some (99, .iload 5, 2, []) from by decide +kernel) rfl ?_
    refine e_iload_n (show pAt 173 101 = some (101, .iload_n 3, 1, []) from by decide +kernel) rfl ?_
    refine e_icmp (t := 137) (show pAt 173 102 = some (102, .if_icmp .le 35, 3, []) from by decide +kernel) rfl (fun c11 => ?_) (fun c11 => ?_)
    · replace vc := vc.1 c11
      refine e_aload_n (show pAt 173 137 = some (137, .aload_n 0, 1, []) from by decide +kernel) rfl (ra (by decide)) ?_
      refine e_iload_n (show pAt 173 138 = some (138, .iload_n 2, 1, []) from by decide +kernel) rfl ?_
      refine Ends.call (show pAt 173 139 = some (139, .invokevirtual 354, 3, [172, 2, 0, 0, 6093, 6095, 100]) from by decide +kernel) (isRet_none rfl) rfl (call_this (show HS h8 from hs_h8) rfl rfl (by decide)) (Ends.mono vc ?_)
      rintro _ h12 ⟨r13, rfl, hs_h12, vc⟩
      refine e_istore (show pAt 173 142 = some (142, .istore 4, 2, []) from by decide +kernel) ⟨Nat.le_of_ble_eq_true rfl, rfl⟩ rfl ?_
      refine e_goto (t := 80) (show pAt 173 144 = some (144, .goto (-64), 3, []) from by decide +kernel) rfl ?_
      exact vc
    · replace vc := vc.2 c11
      refine e_iload (show pAt 173 105 = some (105, .iload 5, 2, []) from by decide +kernel) rfl ?_
      refine e_istore_n (show pAt 173 107 = some (107, .istore_n 3, 1, []) from by decide +kernel) ⟨Nat.le_of_ble_eq_true rfl, rfl⟩ rfl ?_
      refine e_iconst (c := 0) (show pAt 173 108 = some (108, .iconst 0, 1, []) from by decide +kernel) (by decide) ?_
      refine e_istore (show pAt 173 109 = some (109, .istore 6, 2, []) from by decide +kernel) ⟨Nat.le_of_ble_eq_true rfl, rfl⟩ rfl ?_
      exact vc

theorem w_sp111 {X : Scr} {dp : Nat} {h : Hp} {Q : Option Value → Hp → Prop} (k : Int32) (n : Int32) (m : Int32) (g : Int32) (i : Int32) (j : Int32) (hs : HS h)
    (vc : ((condB .ge j 3 = true → Ends X dp 172 0 [.ref 93, .int n, .retAddr 0] [] h (fun rv h2 => ∃ r3, rv = some (.int r3) ∧ HS h2 ∧ Ends X (dp + 1) 173 80 [.ref 93, .int k, .int n, .int m, .int r3, .int i, .int j] [] h2 Q)) ∧ (condB .ge j 3 = false → (inB j 3 = true ∧ (inB j 3 = true ∧ Ends X (dp + 1) 173 111 [.ref 93, .int k, .int n, .int m, .int g, .int i, .int (j + 1)] [] (hpI h 112 j.toNatClampNeg (h.2.1 111 j.toNatClampNeg)) Q))))) :
    Ends X (dp + 1) 173 111 [.ref 93, .int k, .int n, .int m, .int g, .int i, .int j] [] h Q := by
  have ra : ∀ {a : Nat}, a < 1000 → a ≤ OLDB := fun h => by have := OLDB_eq; omega
  refine e_iload (show pAt 173 111 = some (111, .iload 6, 2, []) from by decide +kernel) rfl ?_
  refine e_iconst (c := 3) (show pAt 173 113 = some (113, .iconst 3, 1, []) from by decide +kernel) (by decide) ?_
  refine e_icmp (t := 137) (show pAt 173 114 = some (114, .if_icmp .ge 23, 3, []) from by decide +kernel) rfl (fun c1 => ?_) (fun c1 => ?_)
  · replace vc := vc.1 c1
    refine e_aload_n (show pAt 173 137 = some (137, .aload_n 0, 1, []) from by decide +kernel) rfl (ra (by decide)) ?_
    refine e_iload_n (show pAt 173 138 = some (138, .iload_n 2, 1, []) from by decide +kernel) rfl ?_
    refine Ends.call (show pAt 173 139 = some (139, .invokevirtual 354, 3, [172, 2, 0, 0, 6093, 6095, 100]) from by decide +kernel) (isRet_none rfl) rfl (call_this (show HS h from hs) rfl rfl (by decide)) (Ends.mono vc ?_)
    rintro _ h2 ⟨r3, rfl, hs_h2, vc⟩
    refine e_istore (show pAt 173 142 = some (142, .istore 4, 2, []) from by decide +kernel) ⟨Nat.le_of_ble_eq_true rfl, rfl⟩ rfl ?_
    refine e_goto (t := 80) (show pAt 173 144 = some (144, .goto (-64), 3, []) from by decide +kernel) rfl ?_
    exact vc
  · replace vc := vc.2 c1
    refine e_aload_n (show pAt 173 117 = some (117, .aload_n 0, 1, []) from by decide +kernel) rfl (ra (by decide)) ?_
    refine e_gR (show pAt 173 118 = some (118, .getfield 130, 3, [7, 39, 0, 4162]) from by decide +kernel) (show HS h from hs) rfl (by decide) (hs_ref (show HS h from hs) rfl) ?_
    refine e_iload (show pAt 173 121 = some (121, .iload 6, 2, []) from by decide +kernel) rfl ?_
    refine e_aload_n (show pAt 173 123 = some (123, .aload_n 0, 1, []) from by decide +kernel) rfl (ra (by decide)) ?_
    refine e_gR (show pAt 173 124 = some (124, .getfield 127, 3, [7, 38, 0, 4161]) from by decide +kernel) (show HS h from hs) rfl (by decide) (hs_ref (show HS h from hs) rfl) ?_
    refine e_iload (show pAt 173 127 = some (127, .iload 6, 2, []) from by decide +kernel) rfl ?_
    obtain ⟨c5, vc⟩ := vc
    refine e_ald (show pAt 173 129 = some (129, .iaload, 1, []) from by decide +kernel) (show HS h from hs) (by decide) c5 ?_
    obtain ⟨c6, vc⟩ := vc
    refine e_ast (show pAt 173 130 = some (130, .iastore, 1, []) from by decide +kernel) (show HS h from hs) (by decide) c6 ?_
    refine e_iinc (c := 1) (show pAt 173 131 = some (131, .iinc 6 1, 3, []) from by decide +kernel) rfl rfl (by decide) rfl ?_
    refine e_goto (t := 111) (show pAt 173 134 = some (134, .goto (-23), 3, []) from by decide +kernel) rfl ?_
    exact vc

theorem w_sp150 {X : Scr} {dp : Nat} {h : Hp} {Q : Option Value → Hp → Prop} (k : Int32) (n : Int32) (m : Int32) (g : Int32) (p : Int32) (b : Value) (hs : HS h)
    (vc : ((condB .ge p 7 = true → ((condB .ge k 0 = true → ((condB .ge k n = true → Q (some (.int (-5))) h) ∧ (condB .ge k n = false → (inB k 3 = true ∧ Q (some (.int (h.2.1 112 k.toNatClampNeg))) h)))) ∧ (condB .ge k 0 = false → Q (some (.int m)) h))) ∧ (condB .ge p 7 = false → (inB p 7 = true ∧ (inB p 7 = true ∧ Ends X dp 173 150 [.ref 93, .int k, .int n, .int m, .int g, .int (p + 1), b] [] (hpI h 96 p.toNatClampNeg (h.2.1 113 p.toNatClampNeg)) Q))))) :
    Ends X dp 173 150 [.ref 93, .int k, .int n, .int m, .int g, .int p, b] [] h Q := by
  have ra : ∀ {a : Nat}, a < 1000 → a ≤ OLDB := fun h => by have := OLDB_eq; omega
  refine e_iload (show pAt 173 150 = some (150, .iload 5, 2, []) from by decide +kernel) rfl ?_
  refine e_bipush (c := 7) (show pAt 173 152 = some (152, .bipush 7, 2, []) from by decide +kernel) (by decide) ?_
  refine e_icmp (t := 177) (show pAt 173 154 = some (154, .if_icmp .ge 23, 3, []) from by decide +kernel) rfl (fun c1 => ?_) (fun c1 => ?_)
  · replace vc := vc.1 c1
    refine e_iload_n (show pAt 173 177 = some (177, .iload_n 1, 1, []) from by decide +kernel) rfl ?_
    refine e_if (t := 185) (show pAt 173 178 = some (178, .ifCond .ge 7, 3, []) from by decide +kernel) rfl (fun c2 => ?_) (fun c2 => ?_)
    · replace vc := vc.1 c2
      refine e_iload_n (show pAt 173 185 = some (185, .iload_n 1, 1, []) from by decide +kernel) rfl ?_
      refine e_iload_n (show pAt 173 186 = some (186, .iload_n 2, 1, []) from by decide +kernel) rfl ?_
      refine e_icmp (t := 199) (show pAt 173 187 = some (187, .if_icmp .ge 12, 3, []) from by decide +kernel) rfl (fun c3 => ?_) (fun c3 => ?_)
      · replace vc := vc.1 c3
        refine e_bipush (c := (-5)) (show pAt 173 199 = some (199, .bipush (-5), 2, []) from by decide +kernel) (by decide) ?_
        exact e_retI (show pAt 173 201 = some (201, .ireturn, 1, []) from by decide +kernel) rfl vc
      · replace vc := vc.2 c3
        refine e_aload_n (show pAt 173 190 = some (190, .aload_n 0, 1, []) from by decide +kernel) rfl (ra (by decide)) ?_
        refine e_gR (show pAt 173 191 = some (191, .getfield 130, 3, [7, 39, 0, 4162]) from by decide +kernel) (show HS h from hs) rfl (by decide) (hs_ref (show HS h from hs) rfl) ?_
        refine e_iload_n (show pAt 173 194 = some (194, .iload_n 1, 1, []) from by decide +kernel) rfl ?_
        obtain ⟨c4, vc⟩ := vc
        refine e_ald (show pAt 173 195 = some (195, .iaload, 1, []) from by decide +kernel) (show HS h from hs) (by decide) c4 ?_
        refine e_goto (t := 201) (show pAt 173 196 = some (196, .goto 5, 3, []) from by decide +kernel) rfl ?_
        exact e_retI (show pAt 173 201 = some (201, .ireturn, 1, []) from by decide +kernel) rfl vc
    · replace vc := vc.2 c2
      refine e_iload_n (show pAt 173 181 = some (181, .iload_n 3, 1, []) from by decide +kernel) rfl ?_
      refine e_goto (t := 201) (show pAt 173 182 = some (182, .goto 19, 3, []) from by decide +kernel) rfl ?_
      exact e_retI (show pAt 173 201 = some (201, .ireturn, 1, []) from by decide +kernel) rfl vc
  · replace vc := vc.2 c1
    refine e_aload_n (show pAt 173 157 = some (157, .aload_n 0, 1, []) from by decide +kernel) rfl (ra (by decide)) ?_
    refine e_gR (show pAt 173 158 = some (158, .getfield 26, 3, [7, 5, 0, 4128]) from by decide +kernel) (show HS h from hs) rfl (by decide) (hs_ref (show HS h from hs) rfl) ?_
    refine e_iload (show pAt 173 161 = some (161, .iload 5, 2, []) from by decide +kernel) rfl ?_
    refine e_aload_n (show pAt 173 163 = some (163, .aload_n 0, 1, []) from by decide +kernel) rfl (ra (by decide)) ?_
    refine e_gR (show pAt 173 164 = some (164, .getfield 133, 3, [7, 40, 0, 4163]) from by decide +kernel) (show HS h from hs) rfl (by decide) (hs_ref (show HS h from hs) rfl) ?_
    refine e_iload (show pAt 173 167 = some (167, .iload 5, 2, []) from by decide +kernel) rfl ?_
    obtain ⟨c5, vc⟩ := vc
    refine e_ald (show pAt 173 169 = some (169, .iaload, 1, []) from by decide +kernel) (show HS h from hs) (by decide) c5 ?_
    obtain ⟨c6, vc⟩ := vc
    refine e_ast (show pAt 173 170 = some (170, .iastore, 1, []) from by decide +kernel) (show HS h from hs) (by decide) c6 ?_
    refine e_iinc (c := 1) (show pAt 173 171 = some (171, .iinc 5 1, 3, []) from by decide +kernel) rfl rfl (by decide) rfl ?_
    refine e_goto (t := 150) (show pAt 173 174 = some (174, .goto (-24), 3, []) from by decide +kernel) rfl ?_
    exact vc
