/-! The reading of the texts of the reference: what is owed for it. -/
theorem w_next {X : Scr} {dp : Nat} {h : Hp} {Q : Option Value → Hp → Prop}  (hs : HS h)
    (vc : ((condB .ge (h.2.1 93 12) (h.2.1 93 11) = true → Q (some (.int (-1))) h) ∧ (condB .ge (h.2.1 93 12) (h.2.1 93 11) = false → (inB (h.2.1 93 12) 100 = true ∧ Q (some (.int (h.2.1 100 (h.2.1 93 12).toNatClampNeg))) h)))) :
    Ends X dp 119 0 [.ref 93] [] h Q := by
  have ra : ∀ {a : Nat}, a < 1000 → a ≤ OLDB := fun h => by have := OLDB_eq; omega
  refine e_aload_n (show pAt 119 0 = some (0, .aload_n 0, 1, []) from by decide +kernel) rfl (ra (by decide)) ?_
  refine e_gI (show pAt 119 1 = some (1, .getfield 47, 3, [7, 12, 0, 4135]) from by decide +kernel) (show HS h from hs) rfl (by decide) ?_
  refine e_aload_n (show pAt 119 4 = some (4, .aload_n 0, 1, []) from by decide +kernel) rfl (ra (by decide)) ?_
  refine e_gI (show pAt 119 5 = some (5, .getfield 44, 3, [7, 11, 0, 4134]) from by decide +kernel) (show HS h from hs) rfl (by decide) ?_
  refine e_icmp (t := 23) (show pAt 119 8 = some (8, .if_icmp .ge 15, 3, []) from by decide +kernel) rfl (fun c1 => ?_) (fun c1 => ?_)
  · replace vc := vc.1 c1
    refine e_iconst (c := (-1)) (show pAt 119 23 = some (23, .iconst (-1), 1, []) from by decide +kernel) (by decide) ?_
    exact e_retI (show pAt 119 24 = some (24, .ireturn, 1, []) from by decide +kernel) rfl vc
  · replace vc := vc.2 c1
    refine e_aload_n (show pAt 119 11 = some (11, .aload_n 0, 1, []) from by decide +kernel) rfl (ra (by decide)) ?_
    refine e_gR (show pAt 119 12 = some (12, .getfield 53, 3, [7, 14, 0, 4137]) from by decide +kernel) (show HS h from hs) rfl (by decide) (hs_ref (show HS h from hs) rfl) ?_
    refine e_aload_n (show pAt 119 15 = some (15, .aload_n 0, 1, []) from by decide +kernel) rfl (ra (by decide)) ?_
    refine e_gI (show pAt 119 16 = some (16, .getfield 47, 3, [7, 12, 0, 4135]) from by decide +kernel) (show HS h from hs) rfl (by decide) ?_
    obtain ⟨c2, vc⟩ := vc
    refine e_ald (show pAt 119 19 = some (19, .iaload, 1, []) from by decide +kernel) (show HS h from hs) (by decide) c2 ?_
    refine e_goto (t := 24) (show pAt 119 20 = some (20, .goto 4, 3, []) from by decide +kernel) rfl ?_
    exact e_retI (show pAt 119 24 = some (24, .ireturn, 1, []) from by decide +kernel) rfl vc

theorem w_takes {X : Scr} {dp : Nat} {h : Hp} {Q : Option Value → Hp → Prop} (c : Int32) (hs : HS h)
    (vc : Ends X dp 119 0 [.ref 93] [] h (fun rv h1 => ∃ r2, rv = some (.int r2) ∧ HS h1 ∧ ((condB .eq r2 c = true → Q (some (.int 1)) (hpI h1 93 12 ((h1.2.1 93 12) + 1))) ∧ (condB .eq r2 c = false → Q (some (.int 0)) h1)))) :
    Ends X (dp + 1) 120 0 [.ref 93, .int c] [] h Q := by
  have ra : ∀ {a : Nat}, a < 1000 → a ≤ OLDB := fun h => by have := OLDB_eq; omega
  refine e_aload_n (show pAt 120 0 = some (0, .aload_n 0, 1, []) from by decide +kernel) rfl (ra (by decide)) ?_
  refine Ends.call (show pAt 120 1 = some (1, .invokevirtual 214, 3, [119, 1, 0, 0, 5121, 5123, 59]) from by decide +kernel) (isRet_none rfl) rfl (call_this (show HS h from hs) rfl rfl (by decide)) (Ends.mono vc ?_)
  rintro _ h1 ⟨r2, rfl, hs_h1, vc⟩
  refine e_iload_n (show pAt 120 4 = some (4, .iload_n 1, 1, []) from by decide +kernel) rfl ?_
  refine e_icmp (t := 10) (show pAt 120 5 = some (5, .if_icmp .eq 5, 3, []) from by decide +kernel) rfl (fun c4 => ?_) (fun c4 => ?_)
  · replace vc := vc.1 c4
    refine e_aload_n (show pAt 120 10 = some (10, .aload_n 0, 1, []) from by decide +kernel) rfl (ra (by decide)) ?_
    refine e_dupR (show pAt 120 11 = some (11, .dup, 1, []) from by decide +kernel) ?_
    refine e_gI (show pAt 120 12 = some (12, .getfield 47, 3, [7, 12, 0, 4135]) from by decide +kernel) (show HS h1 from hs_h1) rfl (by decide) ?_
    refine e_iconst (c := 1) (show pAt 120 15 = some (15, .iconst 1, 1, []) from by decide +kernel) (by decide) ?_
    refine e_iadd (show pAt 120 16 = some (16, .iadd, 1, []) from by decide +kernel) ?_
    refine e_pI (show pAt 120 17 = some (17, .putfield 47, 3, [7, 12, 0, 4135]) from by decide +kernel) (show HS h1 from hs_h1) (by decide) (Or.inl rfl) ?_
    refine e_iconst (c := 1) (show pAt 120 20 = some (20, .iconst 1, 1, []) from by decide +kernel) (by decide) ?_
    exact e_retZ (show pAt 120 21 = some (21, .ireturn, 1, []) from by decide +kernel) rfl (by decide) vc
  · replace vc := vc.2 c4
    refine e_iconst (c := 0) (show pAt 120 8 = some (8, .iconst 0, 1, []) from by decide +kernel) (by decide) ?_
    exact e_retZ (show pAt 120 9 = some (9, .ireturn, 1, []) from by decide +kernel) rfl (by decide) vc

theorem w_tw0 {X : Scr} {dp : Nat} {h : Hp} {Q : Option Value → Hp → Prop} (a : Int32) (b : Int32) (hs : HS h)
    (vc : Ends X dp 121 2 [.ref 93, .int a, .int b, .int 0] [] h Q) :
    Ends X dp 121 0 [.ref 93, .int a, .int b, .retAddr 0] [] h Q := by
  have ra : ∀ {a : Nat}, a < 1000 → a ≤ OLDB := fun h => by have := OLDB_eq; omega
  refine e_iconst (c := 0) (show pAt 121 0 = some (0, .iconst 0, 1, []) from by decide +kernel) (by decide) ?_
  refine e_istore_n (show pAt 121 1 = some (1, .istore_n 3, 1, []) from by decide +kernel) ⟨Nat.le_of_ble_eq_true rfl, rfl⟩ rfl ?_
  exact vc

theorem w_tw1 {X : Scr} {dp : Nat} {h : Hp} {Q : Option Value → Hp → Prop} (a : Int32) (b : Int32) (k : Int32) (hs : HS h)
    (vc : ((condB .ge k b = true → Ends X dp 120 0 [.ref 93, .int 32] [] h (fun rv h2 => ∃ r3, rv = some (.int r3) ∧ HS h2 ∧ (r3 = 0 ∨ r3 = 1) ∧ Q (some (.int r3)) h2)) ∧ (condB .ge k b = false → (inB (a + k) 14 = true ∧ Ends X dp 120 0 [.ref 93, .int (h.2.1 108 (a + k).toNatClampNeg)] [] h (fun rv h6 => ∃ r7, rv = some (.int r7) ∧ HS h6 ∧ ((condB .ne r7 0 = true → Ends X (dp + 1) 121 2 [.ref 93, .int a, .int b, .int (k + 1)] [] h6 Q) ∧ (condB .ne r7 0 = false → Q (some (.int 0)) h6))))))) :
    Ends X (dp + 1) 121 2 [.ref 93, .int a, .int b, .int k] [] h Q := by
  have ra : ∀ {a : Nat}, a < 1000 → a ≤ OLDB := fun h => by have := OLDB_eq; omega
  refine e_iload_n (show pAt 121 2 = some (2, .iload_n 3, 1, []) from by decide +kernel) rfl ?_
  refine e_iload_n (show pAt 121 3 = some (3, .iload_n 2, 1, []) from by decide +kernel) rfl ?_
  refine e_icmp (t := 30) (show pAt 121 4 = some (4, .if_icmp .ge 26, 3, []) from by decide +kernel) rfl (fun c1 => ?_) (fun c1 => ?_)
  · replace vc := vc.1 c1
    refine e_aload_n (show pAt 121 30 = some (30, .aload_n 0, 1, []) from by decide +kernel) rfl (ra (by decide)) ?_
    refine e_bipush (c := 32) (show pAt 121 31 = some (31, .bipush 32, 2, []) from by decide +kernel) (by decide) ?_
    refine Ends.call (show pAt 121 33 = some (33, .invokevirtual 218, 3, [120, 2, 0, 0, 5129, 5131, 61]) from by decide +kernel) (isRet_none rfl) rfl (call_this (show HS h from hs) rfl rfl (by decide)) (Ends.mono vc ?_)
    rintro _ h2 ⟨r3, rfl, hs_h2, vc⟩
    exact e_retZ (show pAt 121 36 = some (36, .ireturn, 1, []) from by decide +kernel) rfl vc.1 vc.2
  · replace vc := vc.2 c1
    refine e_aload_n (show pAt 121 7 = some (7, .aload_n 0, 1, []) from by decide +kernel) rfl (ra (by decide)) ?_
    refine e_aload_n (show pAt 121 8 = some (8, .aload_n 0, 1, []) from by decide +kernel) rfl (ra (by decide)) ?_
    refine e_gR (show pAt 121 9 = some (9, .getfield 86, 3, [7, 25, 0, 4148]) from by decide +kernel) (show HS h from hs) rfl (by decide) (hs_ref (show HS h from hs) rfl) ?_
    refine e_iload_n (show pAt 121 12 = some (12, .iload_n 1, 1, []) from by decide +kernel) rfl ?_
    refine e_iload_n (show pAt 121 13 = some (13, .iload_n 3, 1, []) from by decide +kernel) rfl ?_
    refine e_iadd (show pAt 121 14 = some (14, .iadd, 1, []) from by decide +kernel) ?_
    obtain ⟨c5, vc⟩ := vc
    refine e_ald (show pAt 121 15 = some (15, .iaload, 1, []) from by decide +kernel) (show HS h from hs) (by decide) c5 ?_
    refine Ends.call (show pAt 121 16 = some (16, .invokevirtual 218, 3, [120, 2, 0, 0, 5129, 5131, 61]) from by decide +kernel) (isRet_none rfl) rfl (call_this (show HS h from hs) rfl rfl (by decide)) (Ends.mono vc ?_)
    rintro _ h6 ⟨r7, rfl, hs_h6, vc⟩
    refine e_if (t := 24) (show pAt 121 19 = some (19, .ifCond .ne 5, 3, []) from by decide +kernel) rfl (fun c9 => ?_) (fun c9 => ?_)
    · replace vc := vc.1 c9
      refine e_iinc (c := 1) (show pAt 121 24 = some (24, .iinc 3 1, 3, []) from by decide +kernel) rfl rfl (by decide) rfl ?_
      refine e_goto (t := 2) (show pAt 121 27 = some (27, .goto (-25), 3, []) from by decide +kernel) rfl ?_
      exact vc
    · replace vc := vc.2 c9
      refine e_iconst (c := 0) (show pAt 121 22 = some (22, .iconst 0, 1, []) from by decide +kernel) (by decide) ?_
      exact e_retZ (show pAt 121 23 = some (23, .ireturn, 1, []) from by decide +kernel) rfl (by decide) vc

theorem w_isdig {X : Scr} {dp : Nat} {h : Hp} {Q : Option Value → Hp → Prop}  (hs : HS h)
    (vc : Ends X dp 119 0 [.ref 93] [] h (fun rv h1 => ∃ r2, rv = some (.int r2) ∧ HS h1 ∧ Ends X dp 109 0 [.ref 93, .int r2, .int 48, .int 57] [] h1 (fun rv h4 => ∃ r5, rv = some (.int r5) ∧ HS h4 ∧ (r5 = 0 ∨ r5 = 1) ∧ Q (some (.int r5)) h4))) :
    Ends X (dp + 1) 122 0 [.ref 93] [] h Q := by
  have ra : ∀ {a : Nat}, a < 1000 → a ≤ OLDB := fun h => by have := OLDB_eq; omega
  refine e_aload_n (show pAt 122 0 = some (0, .aload_n 0, 1, []) from by decide +kernel) rfl (ra (by decide)) ?_
  refine e_aload_n (show pAt 122 1 = some (1, .aload_n 0, 1, []) from by decide +kernel) rfl (ra (by decide)) ?_
  refine Ends.call (show pAt 122 2 = some (2, .invokevirtual 214, 3, [119, 1, 0, 0, 5121, 5123, 59]) from by decide +kernel) (isRet_none rfl) rfl (call_this (show HS h from hs) rfl rfl (by decide)) (Ends.mono vc ?_)
  rintro _ h1 ⟨r2, rfl, hs_h1, vc⟩
  refine e_bipush (c := 48) (show pAt 122 5 = some (5, .bipush 48, 2, []) from by decide +kernel) (by decide) ?_
  refine e_bipush (c := 57) (show pAt 122 7 = some (7, .bipush 57, 2, []) from by decide +kernel) (by decide) ?_
  refine Ends.call (show pAt 122 9 = some (9, .invokevirtual 206, 3, [109, 4, 0, 0, 5081, 5083, 54]) from by decide +kernel) (isRet_none rfl) rfl (call_this (show HS h1 from hs_h1) rfl rfl (by decide)) (Ends.mono vc ?_)
  rintro _ h4 ⟨r5, rfl, hs_h4, vc⟩
  exact e_retZ (show pAt 122 12 = some (12, .ireturn, 1, []) from by decide +kernel) rfl vc.1 vc.2

theorem w_tn0 {X : Scr} {dp : Nat} {h : Hp} {Q : Option Value → Hp → Prop}  (hs : HS h)
    (vc : Ends X dp 122 0 [.ref 93] [] h (fun rv h1 => ∃ r2, rv = some (.int r2) ∧ HS h1 ∧ ((condB .ne r2 0 = true → Ends X (dp + 1) 123 16 [.ref 93, .int 0] [] (hpI h1 93 13 0) Q) ∧ (condB .ne r2 0 = false → Q (some (.int 0)) h1)))) :
    Ends X (dp + 1) 123 0 [.ref 93, .retAddr 0] [] h Q := by
  have ra : ∀ {a : Nat}, a < 1000 → a ≤ OLDB := fun h => by have := OLDB_eq; omega
  refine e_aload_n (show pAt 123 0 = some (0, .aload_n 0, 1, []) from by decide +kernel) rfl (ra (by decide)) ?_
  refine Ends.call (show pAt 123 1 = some (1, .invokevirtual 221, 3, [122, 1, 0, 0, 5137, 5139, 63]) from by decide +kernel) (isRet_none rfl) rfl (call_this (show HS h from hs) rfl rfl (by decide)) (Ends.mono vc ?_)
  rintro _ h1 ⟨r2, rfl, hs_h1, vc⟩
  refine e_if (t := 9) (show pAt 123 4 = some (4, .ifCond .ne 5, 3, []) from by decide +kernel) rfl (fun c4 => ?_) (fun c4 => ?_)
  · replace vc := vc.1 c4
    refine e_aload_n (show pAt 123 9 = some (9, .aload_n 0, 1, []) from by decide +kernel) rfl (ra (by decide)) ?_
    refine e_iconst (c := 0) (show pAt 123 10 = some (10, .iconst 0, 1, []) from by decide +kernel) (by decide) ?_
    refine e_pI (show pAt 123 11 = some (11, .putfield 50, 3, [7, 13, 0, 4136]) from by decide +kernel) (show HS h1 from hs_h1) (by decide) (Or.inl rfl) ?_
    refine e_iconst (c := 0) (show pAt 123 14 = some (14, .iconst 0, 1, []) from by decide +kernel) (by decide) ?_
    refine e_istore_n (show pAt 123 15 = some (15, .istore_n 1, 1, []) from by decide +kernel) ⟨Nat.le_of_ble_eq_true rfl, rfl⟩ rfl ?_
    exact vc
  · replace vc := vc.2 c4
    refine e_iconst (c := 0) (show pAt 123 7 = some (7, .iconst 0, 1, []) from by decide +kernel) (by decide) ?_
    exact e_retZ (show pAt 123 8 = some (8, .ireturn, 1, []) from by decide +kernel) rfl (by decide) vc

theorem w_tn1 {X : Scr} {dp : Nat} {h : Hp} {Q : Option Value → Hp → Prop} (k : Int32) (hs : HS h)
    (vc : ((condB .ge k 2 = true → Q (some (.int 1)) h) ∧ (condB .ge k 2 = false → Ends X dp 122 0 [.ref 93] [] h (fun rv h2 => ∃ r3, rv = some (.int r3) ∧ HS h2 ∧ ((condB .eq r3 0 = true → Q (some (.int 1)) h2) ∧ (condB .eq r3 0 = false → Ends X dp 119 0 [.ref 93] [] h2 (fun rv h6 => ∃ r7, rv = some (.int r7) ∧ HS h6 ∧ Ends X (dp + 1) 123 16 [.ref 93, .int (k + 1)] [] (hpI (hpI h6 93 13 (((10 * (h2.2.1 93 13)) + r7) - 48)) 93 12 (((hpI h6 93 13 (((10 * (h2.2.1 93 13)) + r7) - 48)).2.1 93 12) + 1)) Q))))))) :
    Ends X (dp + 1) 123 16 [.ref 93, .int k] [] h Q := by
  have ra : ∀ {a : Nat}, a < 1000 → a ≤ OLDB := fun h => by have := OLDB_eq; omega
  refine e_iload_n (show pAt 123 16 = some (16, .iload_n 1, 1, []) from by decide +kernel) rfl ?_
  refine e_iconst (c := 2) (show pAt 123 17 = some (17, .iconst 2, 1, []) from by decide +kernel) (by decide) ?_
  refine e_icmp (t := 63) (show pAt 123 18 = some (18, .if_icmp .ge 45, 3, []) from by decide +kernel) rfl (fun c1 => ?_) (fun c1 => ?_)
  · replace vc := vc.1 c1
    refine e_iconst (c := 1) (show pAt 123 63 = some (63, .iconst 1, 1, []) from by decide +kernel) (by decide) ?_
    exact e_retZ (show pAt 123 64 = some (64, .ireturn, 1, []) from by decide +kernel) rfl (by decide) vc
  · replace vc := vc.2 c1
    refine e_aload_n (show pAt 123 21 = some (21, .aload_n 0, 1, []) from by decide +kernel) rfl (ra (by decide)) ?_
    refine Ends.call (show pAt 123 22 = some (22, .invokevirtual 221, 3, [122, 1, 0, 0, 5137, 5139, 63]) from by decide +kernel) (isRet_none rfl) rfl (call_this (show HS h from hs) rfl rfl (by decide)) (Ends.mono vc ?_)
    rintro _ h2 ⟨r3, rfl, hs_h2, vc⟩
    refine e_if (t := 63) (show pAt 123 25 = some (25, .ifCond .eq 38, 3, []) from by decide +kernel) rfl (fun c5 => ?_) (fun c5 => ?_)
    · replace vc := vc.1 c5
      refine e_iconst (c := 1) (show pAt 123 63 = some (63, .iconst 1, 1, []) from by decide +kernel) (by decide) ?_
      exact e_retZ (show pAt 123 64 = some (64, .ireturn, 1, []) from by decide +kernel) rfl (by decide) vc
    · replace vc := vc.2 c5
      refine e_aload_n (show pAt 123 28 = some (28, .aload_n 0, 1, []) from by decide +kernel) rfl (ra (by decide)) ?_
      refine e_bipush (c := 10) (show pAt 123 29 = some (29, .bipush 10, 2, []) from by decide +kernel) (by decide) ?_
      refine e_aload_n (show pAt 123 31 = some (31, .aload_n 0, 1, []) from by decide +kernel) rfl (ra (by decide)) ?_
      refine e_gI (show pAt 123 32 = some (32, .getfield 50, 3, [7, 13, 0, 4136]) from by decide +kernel) (show HS h2 from hs_h2) rfl (by decide) ?_
      refine e_imul (show pAt 123 35 = some (35, .imul, 1, []) from by decide +kernel) ?_
      refine e_aload_n (show pAt 123 36 = some (36, .aload_n 0, 1, []) from by decide +kernel) rfl (ra (by decide)) ?_
      refine Ends.call (show pAt 123 37 = some (37, .invokevirtual 214, 3, [119, 1, 0, 0, 5121, 5123, 59]) from by decide +kernel) (isRet_none rfl) rfl (call_this (show HS h2 from hs_h2) rfl rfl (by decide)) (Ends.mono vc ?_)
      rintro _ h6 ⟨r7, rfl, hs_h6, vc⟩
      refine e_iadd (show pAt 123 40 = some (40, .iadd, 1, []) from by decide +kernel) ?_
      refine e_bipush (c := 48) (show pAt 123 41 = some (41, .bipush 48, 2, []) from by decide +kernel) (by decide) ?_
      refine e_isub (show pAt 123 43 = some (43, .isub, 1, []) from by decide +kernel) ?_
      refine e_pI (show pAt 123 44 = some (44, .putfield 50, 3, [7, 13, 0, 4136]) from by decide +kernel) (show HS h6 from hs_h6) (by decide) (Or.inl rfl) ?_
      refine e_aload_n (show pAt 123 47 = some (47, .aload_n 0, 1, []) from by decide +kernel) rfl (ra (by decide)) ?_
      refine e_dupR (show pAt 123 48 = some (48, .dup, 1, []) from by decide +kernel) ?_
      refine e_gI (show pAt 123 49 = some (49, .getfield 47, 3, [7, 12, 0, 4135]) from by decide +kernel) (show HS (hpI h6 93 13 (((10 * (h2.2.1 93 13)) + r7) - 48)) from hs_h6) rfl (by decide) ?_
      refine e_iconst (c := 1) (show pAt 123 52 = some (52, .iconst 1, 1, []) from by decide +kernel) (by decide) ?_
      refine e_iadd (show pAt 123 53 = some (53, .iadd, 1, []) from by decide +kernel) ?_
      refine e_pI (show pAt 123 54 = some (54, .putfield 47, 3, [7, 12, 0, 4135]) from by decide +kernel) (show HS (hpI h6 93 13 (((10 * (h2.2.1 93 13)) + r7) - 48)) from hs_h6) (by decide) (Or.inl rfl) ?_
      refine e_iinc (c := 1) (show pAt 123 57 = some (57, .iinc 1 1, 3, []) from by decide +kernel) rfl rfl (by decide) rfl ?_
      refine e_goto (t := 16) (show pAt 123 60 = some (60, .goto (-44), 3, []) from by decide +kernel) rfl ?_
      exact vc

theorem w_emit {X : Scr} {dp : Nat} {h : Hp} {Q : Option Value → Hp → Prop} (s : Int32) (hs : HS h)
    (vc : (inB (h.2.1 93 22) 600 = true ∧ Q none (hpI (hpI h 106 (h.2.1 93 22).toNatClampNeg s) 93 22 (((hpI h 106 (h.2.1 93 22).toNatClampNeg s).2.1 93 22) + 1)))) :
    Ends X dp 124 0 [.ref 93, .int s] [] h Q := by
  have ra : ∀ {a : Nat}, a < 1000 → a ≤ OLDB := fun h => by have := OLDB_eq; omega
  refine e_aload_n (show pAt 124 0 = some (0, .aload_n 0, 1, []) from by decide +kernel) rfl (ra (by decide)) ?_
  refine e_gR (show pAt 124 1 = some (1, .getfield 71, 3, [7, 20, 0, 4143]) from by decide +kernel) (show HS h from hs) rfl (by decide) (hs_ref (show HS h from hs) rfl) ?_
  refine e_aload_n (show pAt 124 4 = some (4, .aload_n 0, 1, []) from by decide +kernel) rfl (ra (by decide)) ?_
  refine e_gI (show pAt 124 5 = some (5, .getfield 77, 3, [7, 22, 0, 4145]) from by decide +kernel) (show HS h from hs) rfl (by decide) ?_
  refine e_iload_n (show pAt 124 8 = some (8, .iload_n 1, 1, []) from by decide +kernel) rfl ?_
  obtain ⟨c1, vc⟩ := vc
  refine e_ast (show pAt 124 9 = some (9, .iastore, 1, []) from by decide +kernel) (show HS h from hs) (by decide) c1 ?_
  refine e_aload_n (show pAt 124 10 = some (10, .aload_n 0, 1, []) from by decide +kernel) rfl (ra (by decide)) ?_
  refine e_dupR (show pAt 124 11 = some (11, .dup, 1, []) from by decide +kernel) ?_
  refine e_gI (show pAt 124 12 = some (12, .getfield 77, 3, [7, 22, 0, 4145]) from by decide +kernel) (show HS (hpI h 106 (h.2.1 93 22).toNatClampNeg s) from hs) rfl (by decide) ?_
  refine e_iconst (c := 1) (show pAt 124 15 = some (15, .iconst 1, 1, []) from by decide +kernel) (by decide) ?_
  refine e_iadd (show pAt 124 16 = some (16, .iadd, 1, []) from by decide +kernel) ?_
  refine e_pI (show pAt 124 17 = some (17, .putfield 77, 3, [7, 22, 0, 4145]) from by decide +kernel) (show HS (hpI h 106 (h.2.1 93 22).toNatClampNeg s) from hs) (by decide) (Or.inl rfl) ?_
  exact e_retV (show pAt 124 20 = some (20, .return_, 1, []) from by decide +kernel) rfl vc

theorem w_whole {X : Scr} {dp : Nat} {h : Hp} {Q : Option Value → Hp → Prop}  (hs : HS h)
    (vc : ((condB .le (h.2.1 93 23) 0 = true → Q none h) ∧ (condB .le (h.2.1 93 23) 0 = false → (inB ((h.2.1 93 23) - 1) 101 = true ∧ ((condB .ne (h.2.1 107 ((h.2.1 93 23) - 1).toNatClampNeg) 33 = true → Q none h) ∧ (condB .ne (h.2.1 107 ((h.2.1 93 23) - 1).toNatClampNeg) 33 = false → Ends X dp 124 0 [.ref 93, .int (-33)] [] h (fun rv h4 => rv = none ∧ HS h4 ∧ Ends X (dp + 1) 125 0 [.ref 93] [] (hpI (hpI h4 93 23 ((h4.2.1 93 23) - 1)) 93 24 (((hpI h4 93 23 ((h4.2.1 93 23) - 1)).2.1 93 24) - 1)) Q))))))) :
    Ends X (dp + 1) 125 0 [.ref 93] [] h Q := by
  have ra : ∀ {a : Nat}, a < 1000 → a ≤ OLDB := fun h => by have := OLDB_eq; omega
  refine e_aload_n (show pAt 125 0 = some (0, .aload_n 0, 1, []) from by decide +kernel) rfl (ra (by decide)) ?_
  refine e_gI (show pAt 125 1 = some (1, .getfield 80, 3, [7, 23, 0, 4146]) from by decide +kernel) (show HS h from hs) rfl (by decide) ?_
  refine e_if (t := 52) (show pAt 125 4 = some (4, .ifCond .le 48, 3, []) from by decide +kernel) rfl (fun c1 => ?_) (fun c1 => ?_)
  · replace vc := vc.1 c1
    exact e_retV (show pAt 125 52 = some (52, .return_, 1, []) from by decide +kernel) rfl vc
  · replace vc := vc.2 c1
    refine e_aload_n (show pAt 125 7 = some (7, .aload_n 0, 1, []) from by decide +kernel) rfl (ra (by decide)) ?_
    refine e_gR (show pAt 125 8 = some (8, .getfield 74, 3, [7, 21, 0, 4144]) from by decide +kernel) (show HS h from hs) rfl (by decide) (hs_ref (show HS h from hs) rfl) ?_
    refine e_aload_n (show pAt 125 11 = some (11, .aload_n 0, 1, []) from by decide +kernel) rfl (ra (by decide)) ?_
    refine e_gI (show pAt 125 12 = some (12, .getfield 80, 3, [7, 23, 0, 4146]) from by decide +kernel) (show HS h from hs) rfl (by decide) ?_
    refine e_iconst (c := 1) (show pAt 125 15 = some (15, .iconst 1, 1, []) from by decide +kernel) (by decide) ?_
    refine e_isub (show pAt 125 16 = some (16, .isub, 1, []) from by decide +kernel) ?_
    obtain ⟨c2, vc⟩ := vc
    refine e_ald (show pAt 125 17 = some (17, .iaload, 1, []) from by decide +kernel) (show HS h from hs) (by decide) c2 ?_
    refine e_bipush (c := 33) (show pAt 125 18 = some (18, .bipush 33, 2, []) from by decide +kernel) (by decide) ?_
    refine e_icmp (t := 52) (show pAt 125 20 = some (20, .if_icmp .ne 32, 3, []) from by decide +kernel) rfl (fun c3 => ?_) (fun c3 => ?_)
    · replace vc := vc.1 c3
      exact e_retV (show pAt 125 52 = some (52, .return_, 1, []) from by decide +kernel) rfl vc
    · replace vc := vc.2 c3
      refine e_aload_n (show pAt 125 23 = some (23, .aload_n 0, 1, []) from by decide +kernel) rfl (ra (by decide)) ?_
      refine e_bipush (c := (-33)) (show pAt 125 24 = some (24, .bipush (-33), 2, []) from by decide +kernel) (by decide) ?_
      refine Ends.call (show pAt 125 26 = some (26, .invokevirtual 225, 3, [124, 2, 0, 0, 5153, 5155, 67]) from by decide +kernel) (isRet_none rfl) rfl (call_this (show HS h from hs) rfl rfl (by decide)) (Ends.mono vc ?_)
      rintro _ h4 ⟨rfl, hs_h4, vc⟩
      refine e_aload_n (show pAt 125 29 = some (29, .aload_n 0, 1, []) from by decide +kernel) rfl (ra (by decide)) ?_
      refine e_dupR (show pAt 125 30 = some (30, .dup, 1, []) from by decide +kernel) ?_
      refine e_gI (show pAt 125 31 = some (31, .getfield 80, 3, [7, 23, 0, 4146]) from by decide +kernel) (show HS h4 from hs_h4) rfl (by decide) ?_
      refine e_iconst (c := 1) (show pAt 125 34 = some (34, .iconst 1, 1, []) from by decide +kernel) (by decide) ?_
      refine e_isub (show pAt 125 35 = some (35, .isub, 1, []) from by decide +kernel) ?_
      refine e_pI (show pAt 125 36 = some (36, .putfield 80, 3, [7, 23, 0, 4146]) from by decide +kernel) (show HS h4 from hs_h4) (by decide) (Or.inl rfl) ?_
      refine e_aload_n (show pAt 125 39 = some (39, .aload_n 0, 1, []) from by decide +kernel) rfl (ra (by decide)) ?_
      refine e_dupR (show pAt 125 40 = some (40, .dup, 1, []) from by decide +kernel) ?_
      refine e_gI (show pAt 125 41 = some (41, .getfield 83, 3, [7, 24, 0, 4147]) from by decide +kernel) (show HS (hpI h4 93 23 ((h4.2.1 93 23) - 1)) from hs_h4) rfl (by decide) ?_
      refine e_iconst (c := 1) (show pAt 125 44 = some (44, .iconst 1, 1, []) from by decide +kernel) (by decide) ?_
      refine e_isub (show pAt 125 45 = some (45, .isub, 1, []) from by decide +kernel) ?_
      refine e_pI (show pAt 125 46 = some (46, .putfield 83, 3, [7, 24, 0, 4147]) from by decide +kernel) (show HS (hpI h4 93 23 ((h4.2.1 93 23) - 1)) from hs_h4) (by decide) (Or.inl rfl) ?_
      refine e_goto (t := 0) (show pAt 125 49 = some (49, .goto (-49), 3, []) from by decide +kernel) rfl ?_
      exact vc

theorem w_settle {X : Scr} {dp : Nat} {h : Hp} {Q : Option Value → Hp → Prop} (s : Int32) (hs : HS h)
    (vc : ((condB .le (h.2.1 93 23) 0 = true → Q none h) ∧ (condB .le (h.2.1 93 23) 0 = false → (inB ((h.2.1 93 23) - 1) 101 = true ∧ ((condB .eq (h.2.1 107 ((h.2.1 93 23) - 1).toNatClampNeg) 38 = true → (inB ((hpI h 93 23 ((h.2.1 93 23) - 1)).2.1 93 23) 101 = true ∧ Ends X dp 124 0 [.ref 93, .int (-((hpI h 93 23 ((h.2.1 93 23) - 1)).2.1 107 ((hpI h 93 23 ((h.2.1 93 23) - 1)).2.1 93 23).toNatClampNeg))] [] (hpI h 93 23 ((h.2.1 93 23) - 1)) (fun rv h5 => rv = none ∧ HS h5 ∧ Ends X (dp + 1) 126 0 [.ref 93, .int s] [] h5 Q))) ∧ (condB .eq (h.2.1 107 ((h.2.1 93 23) - 1).toNatClampNeg) 38 = false → (inB ((h.2.1 93 23) - 1) 101 = true ∧ ((condB .ne (h.2.1 107 ((h.2.1 93 23) - 1).toNatClampNeg) 124 = true → Q none h) ∧ (condB .ne (h.2.1 107 ((h.2.1 93 23) - 1).toNatClampNeg) 124 = false → ((condB .eq s 38 = true → Q none h) ∧ (condB .eq s 38 = false → (inB ((hpI h 93 23 ((h.2.1 93 23) - 1)).2.1 93 23) 101 = true ∧ Ends X dp 124 0 [.ref 93, .int (-((hpI h 93 23 ((h.2.1 93 23) - 1)).2.1 107 ((hpI h 93 23 ((h.2.1 93 23) - 1)).2.1 93 23).toNatClampNeg))] [] (hpI h 93 23 ((h.2.1 93 23) - 1)) (fun rv h12 => rv = none ∧ HS h12 ∧ Ends X (dp + 1) 126 0 [.ref 93, .int s] [] h12 Q))))))))))))) :
    Ends X (dp + 1) 126 0 [.ref 93, .int s] [] h Q := by
  have ra : ∀ {a : Nat}, a < 1000 → a ≤ OLDB := fun h => by have := OLDB_eq; omega
  refine e_aload_n (show pAt 126 0 = some (0, .aload_n 0, 1, []) from by decide +kernel) rfl (ra (by decide)) ?_
  refine e_gI (show pAt 126 1 = some (1, .getfield 80, 3, [7, 23, 0, 4146]) from by decide +kernel) (show HS h from hs) rfl (by decide) ?_
  refine e_if (t := 72) (show pAt 126 4 = some (4, .ifCond .le 68, 3, []) from by decide +kernel) rfl (fun c1 => ?_) (fun c1 => ?_)
  · replace vc := vc.1 c1
    exact e_retV (show pAt 126 72 = some (72, .return_, 1, []) from by decide +kernel) rfl vc
  · replace vc := vc.2 c1
    refine e_aload_n (show pAt 126 7 = some (7, .aload_n 0, 1, []) from by decide +kernel) rfl (ra (by decide)) ?_
    refine e_gR (show pAt 126 8 = some (8, .getfield 74, 3, [7, 21, 0, 4144]) from by decide +kernel) (show HS h from hs) rfl (by decide) (hs_ref (show HS h from hs) rfl) ?_
    refine e_aload_n (show pAt 126 11 = some (11, .aload_n 0, 1, []) from by decide +kernel) rfl (ra (by decide)) ?_
    refine e_gI (show pAt 126 12 = some (12, .getfield 80, 3, [7, 23, 0, 4146]) from by decide +kernel) (show HS h from hs) rfl (by decide) ?_
    refine e_iconst (c := 1) (show pAt 126 15 = some (15, .iconst 1, 1, []) from by decide +kernel) (by decide) ?_
    refine e_isub (show pAt 126 16 = some (16, .isub, 1, []) from by decide +kernel) ?_
    obtain ⟨c2, vc⟩ := vc
    refine e_ald (show pAt 126 17 = some (17, .iaload, 1, []) from by decide +kernel) (show HS h from hs) (by decide) c2 ?_
    refine e_bipush (c := 38) (show pAt 126 18 = some (18, .bipush 38, 2, []) from by decide +kernel) (by decide) ?_
    refine e_icmp (t := 45) (show pAt 126 20 = some (20, .if_icmp .eq 25, 3, []) from by decide +kernel) rfl (fun c3 => ?_) (fun c3 => ?_)
    · replace vc := vc.1 c3
      refine e_aload_n (show pAt 126 45 = some (45, .aload_n 0, 1, []) from by decide +kernel) rfl (ra (by decide)) ?_
      refine e_dupR (show pAt 126 46 = some (46, .dup, 1, []) from by decide +kernel) ?_
      refine e_gI (show pAt 126 47 = some (47, .getfield 80, 3, [7, 23, 0, 4146]) from by decide +kernel) (show HS h from hs) rfl (by decide) ?_
      refine e_iconst (c := 1) (show pAt 126 50 = some (50, .iconst 1, 1, []) from by decide +kernel) (by decide) ?_
      refine e_isub (show pAt 126 51 = some (51, .isub, 1, []) from by decide +kernel) ?_
      refine e_pI (show pAt 126 52 = some (52, .putfield 80, 3, [7, 23, 0, 4146]) from by decide +kernel) (show HS h from hs) (by decide) (Or.inl rfl) ?_
      refine e_aload_n (show pAt 126 55 = some (55, .aload_n 0, 1, []) from by decide +kernel) rfl (ra (by decide)) ?_
      refine e_aload_n (show pAt 126 56 = some (56, .aload_n 0, 1, []) from by decide +kernel) rfl (ra (by decide)) ?_
      refine e_gR (show pAt 126 57 = some (57, .getfield 74, 3, [7, 21, 0, 4144]) from by decide +kernel) (show HS (hpI h 93 23 ((h.2.1 93 23) - 1)) from hs) rfl (by decide) (hs_ref (show HS (hpI h 93 23 ((h.2.1 93 23) - 1)) from hs) rfl) ?_
      refine e_aload_n (show pAt 126 60 = some (60, .aload_n 0, 1, []) from by decide +kernel) rfl (ra (by decide)) ?_
      refine e_gI (show pAt 126 61 = some (61, .getfield 80, 3, [7, 23, 0, 4146]) from by decide +kernel) (show HS (hpI h 93 23 ((h.2.1 93 23) - 1)) from hs) rfl (by decide) ?_
      obtain ⟨c4, vc⟩ := vc
      refine e_ald (show pAt 126 64 = some (64, .iaload, 1, []) from by decide +kernel) (show HS (hpI h 93 23 ((h.2.1 93 23) - 1)) from hs) (by decide) c4 ?_
      refine e_ineg (show pAt 126 65 = some (65, .ineg, 1, []) from by decide +kernel) ?_
      refine Ends.call (show pAt 126 66 = some (66, .invokevirtual 225, 3, [124, 2, 0, 0, 5153, 5155, 67]) from by decide +kernel) (isRet_none rfl) rfl (call_this (show HS (hpI h 93 23 ((h.2.1 93 23) - 1)) from hs) rfl rfl (by decide)) (Ends.mono vc ?_)
      rintro _ h5 ⟨rfl, hs_h5, vc⟩
      refine e_goto (t := 0) (show pAt 126 69 = some (69, .goto (-69), 3, []) from by decide +kernel) rfl ?_
      exact vc
    · replace vc := vc.2 c3
      refine e_aload_n (show pAt 126 23 = some (23, .aload_n 0, 1, []) from by decide +kernel) rfl (ra (by decide)) ?_
      refine e_gR (show pAt 126 24 = some (24, .getfield 74, 3, [7, 21, 0, 4144]) from by decide +kernel) (show HS h from hs) rfl (by decide) (hs_ref (show HS h from hs) rfl) ?_
      refine e_aload_n (show pAt 126 27 = some (27, .aload_n 0, 1, []) from by decide +kernel) rfl (ra (by decide)) ?_
      refine e_gI (show pAt 126 28 = some (28, .getfield 80, 3, [7, 23, 0, 4146]) from by decide +kernel) (show HS h from hs) rfl (by decide) ?_
      refine e_iconst (c := 1) (show pAt 126 31 = some (31, .iconst 1, 1, []) from by decide +kernel) (by decide) ?_
      refine e_isub (show pAt 126 32 = some (32, .isub, 1, []) from by decide +kernel) ?_
      obtain ⟨c8, vc⟩ := vc
      refine e_ald (show pAt 126 33 = some (33, .iaload, 1, []) from by decide +kernel) (show HS h from hs) (by decide) c8 ?_
      refine e_bipush (c := 124) (show pAt 126 34 = some (34, .bipush 124, 2, []) from by decide +kernel) (by decide) ?_
      refine e_icmp (t := 72) (show pAt 126 36 = some (36, .if_icmp .ne 36, 3, []) from by decide +kernel) rfl (fun c9 => ?_) (fun c9 => ?_)
      · replace vc := vc.1 c9
        exact e_retV (show pAt 126 72 = some (72, .return_, 1, []) from by decide +kernel) rfl vc
      · replace vc := vc.2 c9
        refine e_iload_n (show pAt 126 39 = some (39, .iload_n 1, 1, []) from by decide +kernel) rfl ?_
        refine e_bipush (c := 38) (show pAt 126 40 = some (40, .bipush 38, 2, []) from by decide +kernel) (by decide) ?_
        refine e_icmp (t := 72) (show pAt 126 42 = some (42, .if_icmp .eq 30, 3, []) from by decide +kernel) rfl (fun c10 => ?_) (fun c10 => ?_)
        · replace vc := vc.1 c10
          exact e_retV (show pAt 126 72 = some (72, .return_, 1, []) from by decide +kernel) rfl vc
        · replace vc := vc.2 c10
          refine e_aload_n (show pAt 126 45 = some (45, .aload_n 0, 1, []) from by decide +kernel) rfl (ra (by decide)) ?_
          refine e_dupR (show pAt 126 46 = some (46, .dup, 1, []) from by decide +kernel) ?_
          refine e_gI (show pAt 126 47 = some (47, .getfield 80, 3, [7, 23, 0, 4146]) from by decide +kernel) (show HS h from hs) rfl (by decide) ?_
          refine e_iconst (c := 1) (show pAt 126 50 = some (50, .iconst 1, 1, []) from by decide +kernel) (by decide) ?_
          refine e_isub (show pAt 126 51 = some (51, .isub, 1, []) from by decide +kernel) ?_
          refine e_pI (show pAt 126 52 = some (52, .putfield 80, 3, [7, 23, 0, 4146]) from by decide +kernel) (show HS h from hs) (by decide) (Or.inl rfl) ?_
          refine e_aload_n (show pAt 126 55 = some (55, .aload_n 0, 1, []) from by decide +kernel) rfl (ra (by decide)) ?_
          refine e_aload_n (show pAt 126 56 = some (56, .aload_n 0, 1, []) from by decide +kernel) rfl (ra (by decide)) ?_
          refine e_gR (show pAt 126 57 = some (57, .getfield 74, 3, [7, 21, 0, 4144]) from by decide +kernel) (show HS (hpI h 93 23 ((h.2.1 93 23) - 1)) from hs) rfl (by decide) (hs_ref (show HS (hpI h 93 23 ((h.2.1 93 23) - 1)) from hs) rfl) ?_
          refine e_aload_n (show pAt 126 60 = some (60, .aload_n 0, 1, []) from by decide +kernel) rfl (ra (by decide)) ?_
          refine e_gI (show pAt 126 61 = some (61, .getfield 80, 3, [7, 23, 0, 4146]) from by decide +kernel) (show HS (hpI h 93 23 ((h.2.1 93 23) - 1)) from hs) rfl (by decide) ?_
          obtain ⟨c11, vc⟩ := vc
          refine e_ald (show pAt 126 64 = some (64, .iaload, 1, []) from by decide +kernel) (show HS (hpI h 93 23 ((h.2.1 93 23) - 1)) from hs) (by decide) c11 ?_
          refine e_ineg (show pAt 126 65 = some (65, .ineg, 1, []) from by decide +kernel) ?_
          refine Ends.call (show pAt 126 66 = some (66, .invokevirtual 225, 3, [124, 2, 0, 0, 5153, 5155, 67]) from by decide +kernel) (isRet_none rfl) rfl (call_this (show HS (hpI h 93 23 ((h.2.1 93 23) - 1)) from hs) rfl rfl (by decide)) (Ends.mono vc ?_)
          rintro _ h12 ⟨rfl, hs_h12, vc⟩
          refine e_goto (t := 0) (show pAt 126 69 = some (69, .goto (-69), 3, []) from by decide +kernel) rfl ?_
          exact vc

theorem w_place {X : Scr} {dp : Nat} {h : Hp} {Q : Option Value → Hp → Prop} (x : Int32) (hs : HS h)
    (vc : (((¬ (97 : Int) = x.toInt ∧ ¬ (107 : Int) = x.toInt ∧ ¬ (108 : Int) = x.toInt ∧ ¬ (112 : Int) = x.toInt ∧ ¬ (115 : Int) = x.toInt ∧ ¬ (121 : Int) = x.toInt) → Q (some (.int (-1))) h) ∧ (x.toInt = 97 → Q (some (.int 4)) h) ∧ (x.toInt = 107 → Q (some (.int 1)) h) ∧ (x.toInt = 108 → Q (some (.int 2)) h) ∧ (x.toInt = 112 → Q (some (.int 0)) h) ∧ (x.toInt = 115 → Q (some (.int 3)) h) ∧ (x.toInt = 121 → Q (some (.int 5)) h))) :
    Ends X dp 127 0 [.ref 93, .int x] [] h Q := by
  have ra : ∀ {a : Nat}, a < 1000 → a ≤ OLDB := fun h => by have := OLDB_eq; omega
  refine e_iload_n (show pAt 127 0 = some (0, .iload_n 1, 1, []) from by decide +kernel) rfl ?_
  rcases (show (¬ (97 : Int) = x.toInt ∧ ¬ (107 : Int) = x.toInt ∧ ¬ (108 : Int) = x.toInt ∧ ¬ (112 : Int) = x.toInt ∧ ¬ (115 : Int) = x.toInt ∧ ¬ (121 : Int) = x.toInt) ∨ x.toInt = 97 ∨ x.toInt = 107 ∨ x.toInt = 108 ∨ x.toInt = 112 ∨ x.toInt = 115 ∨ x.toInt = 121 from by omega) with c1 | c1 | c1 | c1 | c1 | c1 | c1
  · refine e_ls (t := 72) (show pAt 127 1 = some (1, .lookupswitch 71 #[(97, 67), (107, 61), (108, 63), (112, 59), (115, 65), (121, 69)], 59, []) from by decide +kernel) (by decide) (ls_off (b := 71) (by simp [Op.lookupswitch.offset, c1]) rfl) ?_
    replace vc := vc.1 c1
    refine e_iconst (c := (-1)) (show pAt 127 72 = some (72, .iconst (-1), 1, []) from by decide +kernel) (by decide) ?_
    exact e_retI (show pAt 127 73 = some (73, .ireturn, 1, []) from by decide +kernel) rfl vc
  · refine e_ls (t := 68) (show pAt 127 1 = some (1, .lookupswitch 71 #[(97, 67), (107, 61), (108, 63), (112, 59), (115, 65), (121, 69)], 59, []) from by decide +kernel) (by decide) (ls_off (b := 67) (by simp [Op.lookupswitch.offset, c1]) rfl) ?_
    replace vc := vc.2.1 c1
    refine e_iconst (c := 4) (show pAt 127 68 = some (68, .iconst 4, 1, []) from by decide +kernel) (by decide) ?_
    exact e_retI (show pAt 127 69 = some (69, .ireturn, 1, []) from by decide +kernel) rfl vc
  · refine e_ls (t := 62) (show pAt 127 1 = some (1, .lookupswitch 71 #[(97, 67), (107, 61), (108, 63), (112, 59), (115, 65), (121, 69)], 59, []) from by decide +kernel) (by decide) (ls_off (b := 61) (by simp [Op.lookupswitch.offset, c1]) rfl) ?_
    replace vc := vc.2.2.1 c1
    refine e_iconst (c := 1) (show pAt 127 62 = some (62, .iconst 1, 1, []) from by decide +kernel) (by decide) ?_
    exact e_retI (show pAt 127 63 = some (63, .ireturn, 1, []) from by decide +kernel) rfl vc
  · refine e_ls (t := 64) (show pAt 127 1 = some (1, .lookupswitch 71 #[(97, 67), (107, 61), (108, 63), (112, 59), (115, 65), (121, 69)], 59, []) from by decide +kernel) (by decide) (ls_off (b := 63) (by simp [Op.lookupswitch.offset, c1]) rfl) ?_
    replace vc := vc.2.2.2.1 c1
    refine e_iconst (c := 2) (show pAt 127 64 = some (64, .iconst 2, 1, []) from by decide +kernel) (by decide) ?_
    exact e_retI (show pAt 127 65 = some (65, .ireturn, 1, []) from by decide +kernel) rfl vc
  · refine e_ls (t := 60) (show pAt 127 1 = some (1, .lookupswitch 71 #[(97, 67), (107, 61), (108, 63), (112, 59), (115, 65), (121, 69)], 59, []) from by decide +kernel) (by decide) (ls_off (b := 59) (by simp [Op.lookupswitch.offset, c1]) rfl) ?_
    replace vc := vc.2.2.2.2.1 c1
    refine e_iconst (c := 0) (show pAt 127 60 = some (60, .iconst 0, 1, []) from by decide +kernel) (by decide) ?_
    exact e_retI (show pAt 127 61 = some (61, .ireturn, 1, []) from by decide +kernel) rfl vc
  · refine e_ls (t := 66) (show pAt 127 1 = some (1, .lookupswitch 71 #[(97, 67), (107, 61), (108, 63), (112, 59), (115, 65), (121, 69)], 59, []) from by decide +kernel) (by decide) (ls_off (b := 65) (by simp [Op.lookupswitch.offset, c1]) rfl) ?_
    replace vc := vc.2.2.2.2.2.1 c1
    refine e_iconst (c := 3) (show pAt 127 66 = some (66, .iconst 3, 1, []) from by decide +kernel) (by decide) ?_
    exact e_retI (show pAt 127 67 = some (67, .ireturn, 1, []) from by decide +kernel) rfl vc
  · refine e_ls (t := 70) (show pAt 127 1 = some (1, .lookupswitch 71 #[(97, 67), (107, 61), (108, 63), (112, 59), (115, 65), (121, 69)], 59, []) from by decide +kernel) (by decide) (ls_off (b := 69) (by simp [Op.lookupswitch.offset, c1]) rfl) ?_
    replace vc := vc.2.2.2.2.2.2 c1
    refine e_iconst (c := 5) (show pAt 127 70 = some (70, .iconst 5, 1, []) from by decide +kernel) (by decide) ?_
    exact e_retI (show pAt 127 71 = some (71, .ireturn, 1, []) from by decide +kernel) rfl vc

theorem w_test {X : Scr} {dp : Nat} {h : Hp} {Q : Option Value → Hp → Prop}  (hs : HS h)
    (vc : Ends X dp 119 0 [.ref 93] [] h (fun rv h1 => ∃ r2, rv = some (.int r2) ∧ HS h1 ∧ Ends X dp 127 0 [.ref 93, .int r2] [] h1 (fun rv h4 => ∃ r5, rv = some (.int r5) ∧ HS h4 ∧ ((condB .ge r5 0 = true → Ends X dp 119 0 [.ref 93] [] (hpI h4 93 12 ((h4.2.1 93 12) + 1)) (fun rv h8 => ∃ r9, rv = some (.int r9) ∧ HS h8 ∧ Ends X dp 109 0 [.ref 93, .int r9, .int 60, .int 62] [] h8 (fun rv h11 => ∃ r12, rv = some (.int r12) ∧ HS h11 ∧ ((condB .ne r12 0 = true → Ends X dp 123 0 [.ref 93, .retAddr 0] [] (hpI h11 93 12 ((h11.2.1 93 12) + 1)) (fun rv h15 => ∃ r16, rv = some (.int r16) ∧ HS h15 ∧ ((condB .ne r16 0 = true → Ends X dp 124 0 [.ref 93, .int (((1000 * r5) + (100 * (r9 - 60))) + (h15.2.1 93 13))] [] h15 (fun rv h19 => rv = none ∧ HS h19 ∧ Ends X dp 125 0 [.ref 93] [] h19 (fun rv h22 => rv = none ∧ HS h22 ∧ Q (some (.int 1)) h22))) ∧ (condB .ne r16 0 = false → Q (some (.int 0)) h15)))) ∧ (condB .ne r12 0 = false → Q (some (.int 0)) h11))))) ∧ (condB .ge r5 0 = false → Q (some (.int 0)) h4))))) :
    Ends X (dp + 1) 128 0 [.ref 93, .retAddr 0, .retAddr 0] [] h Q := by
  have ra : ∀ {a : Nat}, a < 1000 → a ≤ OLDB := fun h => by have := OLDB_eq; omega
  refine e_aload_n (show pAt 128 0 = some (0, .aload_n 0, 1, []) from by decide +kernel) rfl (ra (by decide)) ?_
  refine e_aload_n (show pAt 128 1 = some (1, .aload_n 0, 1, []) from by decide +kernel) rfl (ra (by decide)) ?_
  refine Ends.call (show pAt 128 2 = some (2, .invokevirtual 214, 3, [119, 1, 0, 0, 5121, 5123, 59]) from by decide +kernel) (isRet_none rfl) rfl (call_this (show HS h from hs) rfl rfl (by decide)) (Ends.mono vc ?_)
  rintro _ h1 ⟨r2, rfl, hs_h1, vc⟩
  refine Ends.call (show pAt 128 5 = some (5, .invokevirtual 229, 3, [127, 2, 0, 0, 5149, 5151, 66]) from by decide +kernel) (isRet_none rfl) rfl (call_this (show HS h1 from hs_h1) rfl rfl (by decide)) (Ends.mono vc ?_)
  rintro _ h4 ⟨r5, rfl, hs_h4, vc⟩
  refine e_istore_n (show pAt 128 8 = some (8, .istore_n 1, 1, []) from by decide +kernel) ⟨Nat.le_of_ble_eq_true rfl, rfl⟩ rfl ?_
  refine e_iload_n (show pAt 128 9 = some (9, .iload_n 1, 1, []) from by decide +kernel) rfl ?_
  refine e_if (t := 15) (show pAt 128 10 = some (10, .ifCond .ge 5, 3, []) from by decide +kernel) rfl (fun c7 => ?_) (fun c7 => ?_)
  · replace vc := vc.1 c7
    refine e_aload_n (show pAt 128 15 = some (15, .aload_n 0, 1, []) from by decide +kernel) rfl (ra (by decide)) ?_
    refine e_dupR (show pAt 128 16 = some (16, .dup, 1, []) from by decide +kernel) ?_
    refine e_gI (show pAt 128 17 = some (17, .getfield 47, 3, [7, 12, 0, 4135]) from by decide +kernel) (show HS h4 from hs_h4) rfl (by decide) ?_
    refine e_iconst (c := 1) (show pAt 128 20 = some (20, .iconst 1, 1, []) from by decide +kernel) (by decide) ?_
    refine e_iadd (show pAt 128 21 = some (21, .iadd, 1, []) from by decide +kernel) ?_
    refine e_pI (show pAt 128 22 = some (22, .putfield 47, 3, [7, 12, 0, 4135]) from by decide +kernel) (show HS h4 from hs_h4) (by decide) (Or.inl rfl) ?_
    refine e_aload_n (show pAt 128 25 = some (25, .aload_n 0, 1, []) from by decide +kernel) rfl (ra (by decide)) ?_
    refine Ends.call (show pAt 128 26 = some (26, .invokevirtual 214, 3, [119, 1, 0, 0, 5121, 5123, 59]) from by decide +kernel) (isRet_none rfl) rfl (call_this (show HS (hpI h4 93 12 ((h4.2.1 93 12) + 1)) from hs_h4) rfl rfl (by decide)) (Ends.mono vc ?_)
    rintro _ h8 ⟨r9, rfl, hs_h8, vc⟩
    refine e_istore_n (show pAt 128 29 = some (29, .istore_n 2, 1, []) from by decide +kernel) ⟨Nat.le_of_ble_eq_true rfl, rfl⟩ rfl ?_
    refine e_aload_n (show pAt 128 30 = some (30, .aload_n 0, 1, []) from by decide +kernel) rfl (ra (by decide)) ?_
    refine e_iload_n (show pAt 128 31 = some (31, .iload_n 2, 1, []) from by decide +kernel) rfl ?_
    refine e_bipush (c := 60) (show pAt 128 32 = some (32, .bipush 60, 2, []) from by decide +kernel) (by decide) ?_
    refine e_bipush (c := 62) (show pAt 128 34 = some (34, .bipush 62, 2, []) from by decide +kernel) (by decide) ?_
    refine Ends.call (show pAt 128 36 = some (36, .invokevirtual 206, 3, [109, 4, 0, 0, 5081, 5083, 54]) from by decide +kernel) (isRet_none rfl) rfl (call_this (show HS h8 from hs_h8) rfl rfl (by decide)) (Ends.mono vc ?_)
    rintro _ h11 ⟨r12, rfl, hs_h11, vc⟩
    refine e_if (t := 44) (show pAt 128 39 = some (39, .ifCond .ne 5, 3, []) from by decide +kernel) rfl (fun c14 => ?_) (fun c14 => ?_)
    · replace vc := vc.1 c14
      refine e_aload_n (show pAt 128 44 = some (44, .aload_n 0, 1, []) from by decide +kernel) rfl (ra (by decide)) ?_
      refine e_dupR (show pAt 128 45 = some (45, .dup, 1, []) from by decide +kernel) ?_
      refine e_gI (show pAt 128 46 = some (46, .getfield 47, 3, [7, 12, 0, 4135]) from by decide +kernel) (show HS h11 from hs_h11) rfl (by decide) ?_
      refine e_iconst (c := 1) (show pAt 128 49 = some (49, .iconst 1, 1, []) from by decide +kernel) (by decide) ?_
      refine e_iadd (show pAt 128 50 = some (50, .iadd, 1, []) from by decide +kernel) ?_
      refine e_pI (show pAt 128 51 = some (51, .putfield 47, 3, [7, 12, 0, 4135]) from by decide +kernel) (show HS h11 from hs_h11) (by decide) (Or.inl rfl) ?_
      refine e_aload_n (show pAt 128 54 = some (54, .aload_n 0, 1, []) from by decide +kernel) rfl (ra (by decide)) ?_
      refine Ends.call (show pAt 128 55 = some (55, .invokevirtual 233, 3, [123, 1, 0, 0, 5133, 5135, 62]) from by decide +kernel) (isRet_none rfl) rfl (call_this (show HS (hpI h11 93 12 ((h11.2.1 93 12) + 1)) from hs_h11) rfl rfl (by decide)) (Ends.mono vc ?_)
      rintro _ h15 ⟨r16, rfl, hs_h15, vc⟩
      refine e_if (t := 63) (show pAt 128 58 = some (58, .ifCond .ne 5, 3, []) from by decide +kernel) rfl (fun c18 => ?_) (fun c18 => ?_)
      · replace vc := vc.1 c18
        refine e_aload_n (show pAt 128 63 = some (63, .aload_n 0, 1, []) from by decide +kernel) rfl (ra (by decide)) ?_
        refine e_sipush (c := 1000) (show pAt 128 64 = some (64, .sipush 1000, 3, []) from by decide +kernel) (by decide) ?_
        refine e_iload_n (show pAt 128 67 = some (67, .iload_n 1, 1, []) from by decide +kernel) rfl ?_
        refine e_imul (show pAt 128 68 = some (68, .imul, 1, []) from by decide +kernel) ?_
        refine e_bipush (c := 100) (show pAt 128 69 = some (69, .bipush 100, 2, []) from by decide +kernel) (by decide) ?_
        refine e_iload_n (show pAt 128 71 = some (71, .iload_n 2, 1, []) from by decide +kernel) rfl ?_
        refine e_bipush (c := 60) (show pAt 128 72 = some (72, .bipush 60, 2, []) from by decide +kernel) (by decide) ?_
        refine e_isub (show pAt 128 74 = some (74, .isub, 1, []) from by decide +kernel) ?_
        refine e_imul (show pAt 128 75 = some (75, .imul, 1, []) from by decide +kernel) ?_
        refine e_iadd (show pAt 128 76 = some (76, .iadd, 1, []) from by decide +kernel) ?_
        refine e_aload_n (show pAt 128 77 = some (77, .aload_n 0, 1, []) from by decide +kernel) rfl (ra (by decide)) ?_
        refine e_gI (show pAt 128 78 = some (78, .getfield 50, 3, [7, 13, 0, 4136]) from by decide +kernel) (show HS h15 from hs_h15) rfl (by decide) ?_
        refine e_iadd (show pAt 128 81 = some (81, .iadd, 1, []) from by decide +kernel) ?_
        refine Ends.call (show pAt 128 82 = some (82, .invokevirtual 225, 3, [124, 2, 0, 0, 5153, 5155, 67]) from by decide +kernel) (isRet_none rfl) rfl (call_this (show HS h15 from hs_h15) rfl rfl (by decide)) (Ends.mono vc ?_)
        rintro _ h19 ⟨rfl, hs_h19, vc⟩
        refine e_aload_n (show pAt 128 85 = some (85, .aload_n 0, 1, []) from by decide +kernel) rfl (ra (by decide)) ?_
        refine Ends.call (show pAt 128 86 = some (86, .invokevirtual 236, 3, [125, 1, 0, 0, 5157, 5159, 68]) from by decide +kernel) (isRet_none rfl) rfl (call_this (show HS h19 from hs_h19) rfl rfl (by decide)) (Ends.mono vc ?_)
        rintro _ h22 ⟨rfl, hs_h22, vc⟩
        refine e_iconst (c := 1) (show pAt 128 89 = some (89, .iconst 1, 1, []) from by decide +kernel) (by decide) ?_
        exact e_retZ (show pAt 128 90 = some (90, .ireturn, 1, []) from by decide +kernel) rfl (by decide) vc
      · replace vc := vc.2 c18
        refine e_iconst (c := 0) (show pAt 128 61 = some (61, .iconst 0, 1, []) from by decide +kernel) (by decide) ?_
        exact e_retZ (show pAt 128 62 = some (62, .ireturn, 1, []) from by decide +kernel) rfl (by decide) vc
    · replace vc := vc.2 c14
      refine e_iconst (c := 0) (show pAt 128 42 = some (42, .iconst 0, 1, []) from by decide +kernel) (by decide) ?_
      exact e_retZ (show pAt 128 43 = some (43, .ireturn, 1, []) from by decide +kernel) rfl (by decide) vc
  · replace vc := vc.2 c7
    refine e_iconst (c := 0) (show pAt 128 13 = some (13, .iconst 0, 1, []) from by decide +kernel) (by decide) ?_
    exact e_retZ (show pAt 128 14 = some (14, .ireturn, 1, []) from by decide +kernel) rfl (by decide) vc

theorem w_te0 {X : Scr} {dp : Nat} {h : Hp} {Q : Option Value → Hp → Prop} (c : Int32) (hs : HS h)
    (vc : (inB c 60 = true ∧ Ends X dp 129 22 [.ref 93, .int c, .int 1, .retAddr 0] [] (hpI (hpI (hpI h 93 23 0) 93 24 0) 104 c.toNatClampNeg ((hpI (hpI h 93 23 0) 93 24 0).2.1 93 22)) Q)) :
    Ends X dp 129 0 [.ref 93, .int c, .retAddr 0, .retAddr 0] [] h Q := by
  have ra : ∀ {a : Nat}, a < 1000 → a ≤ OLDB := fun h => by have := OLDB_eq; omega
  refine e_aload_n (show pAt 129 0 = some (0, .aload_n 0, 1, []) from by decide +kernel) rfl (ra (by decide)) ?_
  refine e_iconst (c := 0) (show pAt 129 1 = some (1, .iconst 0, 1, []) from by decide +kernel) (by decide) ?_
  refine e_pI (show pAt 129 2 = some (2, .putfield 80, 3, [7, 23, 0, 4146]) from by decide +kernel) (show HS h from hs) (by decide) (Or.inl rfl) ?_
  refine e_aload_n (show pAt 129 5 = some (5, .aload_n 0, 1, []) from by decide +kernel) rfl (ra (by decide)) ?_
  refine e_iconst (c := 0) (show pAt 129 6 = some (6, .iconst 0, 1, []) from by decide +kernel) (by decide) ?_
  refine e_pI (show pAt 129 7 = some (7, .putfield 83, 3, [7, 24, 0, 4147]) from by decide +kernel) (show HS (hpI h 93 23 0) from hs) (by decide) (Or.inl rfl) ?_
  refine e_aload_n (show pAt 129 10 = some (10, .aload_n 0, 1, []) from by decide +kernel) rfl (ra (by decide)) ?_
  refine e_gR (show pAt 129 11 = some (11, .getfield 65, 3, [7, 18, 0, 4141]) from by decide +kernel) (show HS (hpI (hpI h 93 23 0) 93 24 0) from hs) rfl (by decide) (hs_ref (show HS (hpI (hpI h 93 23 0) 93 24 0) from hs) rfl) ?_
  refine e_iload_n (show pAt 129 14 = some (14, .iload_n 1, 1, []) from by decide +kernel) rfl ?_
  refine e_aload_n (show pAt 129 15 = some (15, .aload_n 0, 1, []) from by decide +kernel) rfl (ra (by decide)) ?_
  refine e_gI (show pAt 129 16 = some (16, .getfield 77, 3, [7, 22, 0, 4145]) from by decide +kernel) (show HS (hpI (hpI h 93 23 0) 93 24 0) from hs) rfl (by decide) ?_
  obtain ⟨c1, vc⟩ := vc
  refine e_ast (show pAt 129 19 = some (19, .iastore, 1, []) from by decide +kernel) (show HS (hpI (hpI h 93 23 0) 93 24 0) from hs) (by decide) c1 ?_
  refine e_iconst (c := 1) (show pAt 129 20 = some (20, .iconst 1, 1, []) from by decide +kernel) (by decide) ?_
  refine e_istore_n (show pAt 129 21 = some (21, .istore_n 2, 1, []) from by decide +kernel) ⟨Nat.le_of_ble_eq_true rfl, rfl⟩ rfl ?_
  exact vc

theorem w_te1 {X : Scr} {dp : Nat} {h : Hp} {Q : Option Value → Hp → Prop} (c : Int32) (w : Int32) (b : Value) (hs : HS h)
    (vc : Ends X dp 119 0 [.ref 93] [] h (fun rv h1 => ∃ r2, rv = some (.int r2) ∧ HS h1 ∧ ((condB .eq w 0 = true → ((condB .eq r2 38 = true → Ends X dp 126 0 [.ref 93, .int r2] [] h1 (fun rv h6 => rv = none ∧ HS h6 ∧ (inB (h6.2.1 93 23) 101 = true ∧ Ends X (dp + 1) 129 22 [.ref 93, .int c, .int 1, .int r2] [] (hpI (hpI (hpI h6 107 (h6.2.1 93 23).toNatClampNeg r2) 93 23 (((hpI h6 107 (h6.2.1 93 23).toNatClampNeg r2).2.1 93 23) + 1)) 93 12 (((hpI (hpI h6 107 (h6.2.1 93 23).toNatClampNeg r2) 93 23 (((hpI h6 107 (h6.2.1 93 23).toNatClampNeg r2).2.1 93 23) + 1)).2.1 93 12) + 1)) Q))) ∧ (condB .eq r2 38 = false → ((condB .ne r2 124 = true → Ends X dp 126 0 [.ref 93, .int 124] [] h1 (fun rv h11 => rv = none ∧ HS h11 ∧ (inB c 60 = true ∧ ((condB .ne ((hpI h11 105 c.toNatClampNeg (h11.2.1 93 22)).2.1 93 23) 0 = true → ((condB .eq r2 41 = true → Ends X dp 125 0 [.ref 93] [] (hpI (hpI (hpI (hpI h11 105 c.toNatClampNeg (h11.2.1 93 22)) 93 23 (((hpI h11 105 c.toNatClampNeg (h11.2.1 93 22)).2.1 93 23) - 1)) 93 24 (((hpI (hpI h11 105 c.toNatClampNeg (h11.2.1 93 22)) 93 23 (((hpI h11 105 c.toNatClampNeg (h11.2.1 93 22)).2.1 93 23) - 1)).2.1 93 24) - 1)) 93 12 (((hpI (hpI (hpI h11 105 c.toNatClampNeg (h11.2.1 93 22)) 93 23 (((hpI h11 105 c.toNatClampNeg (h11.2.1 93 22)).2.1 93 23) - 1)) 93 24 (((hpI (hpI h11 105 c.toNatClampNeg (h11.2.1 93 22)) 93 23 (((hpI h11 105 c.toNatClampNeg (h11.2.1 93 22)).2.1 93 23) - 1)).2.1 93 24) - 1)).2.1 93 12) + 1)) (fun rv h17 => rv = none ∧ HS h17 ∧ Ends X (dp + 1) 129 22 [.ref 93, .int c, .int w, .int r2] [] h17 Q)) ∧ (condB .eq r2 41 = false → Q (some (.int 0)) (hpI h11 105 c.toNatClampNeg (h11.2.1 93 22))))) ∧ (condB .ne ((hpI h11 105 c.toNatClampNeg (h11.2.1 93 22)).2.1 93 23) 0 = false → Q (some (.int 1)) (hpI h11 105 c.toNatClampNeg (h11.2.1 93 22))))))) ∧ (condB .ne r2 124 = false → Ends X dp 126 0 [.ref 93, .int r2] [] h1 (fun rv h20 => rv = none ∧ HS h20 ∧ (inB (h20.2.1 93 23) 101 = true ∧ Ends X (dp + 1) 129 22 [.ref 93, .int c, .int 1, .int r2] [] (hpI (hpI (hpI h20 107 (h20.2.1 93 23).toNatClampNeg r2) 93 23 (((hpI h20 107 (h20.2.1 93 23).toNatClampNeg r2).2.1 93 23) + 1)) 93 12 (((hpI (hpI h20 107 (h20.2.1 93 23).toNatClampNeg r2) 93 23 (((hpI h20 107 (h20.2.1 93 23).toNatClampNeg r2).2.1 93 23) + 1)).2.1 93 12) + 1)) Q))))))) ∧ (condB .eq w 0 = false → ((condB .eq r2 33 = true → ((condB .ne (h1.2.1 93 24) 4 = true → (inB ((hpI h1 93 24 ((h1.2.1 93 24) + 1)).2.1 93 23) 101 = true ∧ Ends X (dp + 1) 129 22 [.ref 93, .int c, .int w, .int r2] [] (hpI (hpI (hpI (hpI h1 93 24 ((h1.2.1 93 24) + 1)) 107 ((hpI h1 93 24 ((h1.2.1 93 24) + 1)).2.1 93 23).toNatClampNeg r2) 93 23 (((hpI (hpI h1 93 24 ((h1.2.1 93 24) + 1)) 107 ((hpI h1 93 24 ((h1.2.1 93 24) + 1)).2.1 93 23).toNatClampNeg r2).2.1 93 23) + 1)) 93 12 (((hpI (hpI (hpI h1 93 24 ((h1.2.1 93 24) + 1)) 107 ((hpI h1 93 24 ((h1.2.1 93 24) + 1)).2.1 93 23).toNatClampNeg r2) 93 23 (((hpI (hpI h1 93 24 ((h1.2.1 93 24) + 1)) 107 ((hpI h1 93 24 ((h1.2.1 93 24) + 1)).2.1 93 23).toNatClampNeg r2).2.1 93 23) + 1)).2.1 93 12) + 1)) Q)) ∧ (condB .ne (h1.2.1 93 24) 4 = false → Q (some (.int 0)) h1))) ∧ (condB .eq r2 33 = false → ((condB .ne r2 40 = true → Ends X dp 128 0 [.ref 93, .retAddr 0, .retAddr 0] [] h1 (fun rv h28 => ∃ r29, rv = some (.int r29) ∧ HS h28 ∧ ((condB .eq r29 0 = true → Q (some (.int 0)) h28) ∧ (condB .eq r29 0 = false → Ends X (dp + 1) 129 22 [.ref 93, .int c, .int 0, .int r2] [] h28 Q)))) ∧ (condB .ne r2 40 = false → ((condB .ne (h1.2.1 93 24) 4 = true → (inB ((hpI h1 93 24 ((h1.2.1 93 24) + 1)).2.1 93 23) 101 = true ∧ Ends X (dp + 1) 129 22 [.ref 93, .int c, .int w, .int r2] [] (hpI (hpI (hpI (hpI h1 93 24 ((h1.2.1 93 24) + 1)) 107 ((hpI h1 93 24 ((h1.2.1 93 24) + 1)).2.1 93 23).toNatClampNeg r2) 93 23 (((hpI (hpI h1 93 24 ((h1.2.1 93 24) + 1)) 107 ((hpI h1 93 24 ((h1.2.1 93 24) + 1)).2.1 93 23).toNatClampNeg r2).2.1 93 23) + 1)) 93 12 (((hpI (hpI (hpI h1 93 24 ((h1.2.1 93 24) + 1)) 107 ((hpI h1 93 24 ((h1.2.1 93 24) + 1)).2.1 93 23).toNatClampNeg r2) 93 23 (((hpI (hpI h1 93 24 ((h1.2.1 93 24) + 1)) 107 ((hpI h1 93 24 ((h1.2.1 93 24) + 1)).2.1 93 23).toNatClampNeg r2).2.1 93 23) + 1)).2.1 93 12) + 1)) Q)) ∧ (condB .ne (h1.2.1 93 24) 4 = false → Q (some (.int 0)) h1)))))))))) :
    Ends X (dp + 1) 129 22 [.ref 93, .int c, .int w, b] [] h Q := by
  have ra : ∀ {a : Nat}, a < 1000 → a ≤ OLDB := fun h => by have := OLDB_eq; omega
  refine e_aload_n (show pAt 129 22 = some (22, .aload_n 0, 1, []) from by decide +kernel) rfl (ra (by decide)) ?_
  refine Ends.call (show pAt 129 23 = some (23, .invokevirtual 214, 3, [119, 1, 0, 0, 5121, 5123, 59]) from by decide +kernel) (isRet_none rfl) rfl (call_this (show HS h from hs) rfl rfl (by decide)) (Ends.mono vc ?_)
  rintro _ h1 ⟨r2, rfl, hs_h1, vc⟩
  refine e_istore_n (show pAt 129 26 = some (26, .istore_n 3, 1, []) from by decide +kernel) ⟨Nat.le_of_ble_eq_true rfl, rfl⟩ rfl ?_
  refine e_iload_n (show pAt 129 27 = some (27, .iload_n 2, 1, []) from by decide +kernel) rfl ?_
  refine e_if (t := 110) (show pAt 129 28 = some (28, .ifCond .eq 82, 3, []) from by decide +kernel) rfl (fun c4 => ?_) (fun c4 => ?_)
  · replace vc := vc.1 c4
    refine e_iload_n (show pAt 129 110 = some (110, .iload_n 3, 1, []) from by decide +kernel) rfl ?_
    refine e_bipush (c := 38) (show pAt 129 111 = some (111, .bipush 38, 2, []) from by decide +kernel) (by decide) ?_
    refine e_icmp (t := 122) (show pAt 129 113 = some (113, .if_icmp .eq 9, 3, []) from by decide +kernel) rfl (fun c5 => ?_) (fun c5 => ?_)
    · replace vc := vc.1 c5
      refine e_aload_n (show pAt 129 122 = some (122, .aload_n 0, 1, []) from by decide +kernel) rfl (ra (by decide)) ?_
      refine e_iload_n (show pAt 129 123 = some (123, .iload_n 3, 1, []) from by decide +kernel) rfl ?_
      refine Ends.call (show pAt 129 124 = some (124, .invokevirtual 242, 3, [126, 2, 0, 0, 5161, 5163, 69]) from by decide +kernel) (isRet_none rfl) rfl (call_this (show HS h1 from hs_h1) rfl rfl (by decide)) (Ends.mono vc ?_)
      rintro _ h6 ⟨rfl, hs_h6, vc⟩
      refine e_aload_n (show pAt 129 127 = some (127, .aload_n 0, 1, []) from by decide +kernel) rfl (ra (by decide)) ?_
      refine e_gR (show pAt 129 128 = some (128, .getfield 74, 3, [7, 21, 0, 4144]) from by decide +kernel) (show HS h6 from hs_h6) rfl (by decide) (hs_ref (show HS h6 from hs_h6) rfl) ?_
      refine e_aload_n (show pAt 129 131 = some (131, .aload_n 0, 1, []) from by decide +kernel) rfl (ra (by decide)) ?_
      refine e_gI (show pAt 129 132 = some (132, .getfield 80, 3, [7, 23, 0, 4146]) from by decide +kernel) (show HS h6 from hs_h6) rfl (by decide) ?_
      refine e_iload_n (show pAt 129 135 = some (135, .iload_n 3, 1, []) from by decide +kernel) rfl ?_
      obtain ⟨c9, vc⟩ := vc
      refine e_ast (show pAt 129 136 = some (136, .iastore, 1, []) from by decide +kernel) (show HS h6 from hs_h6) (by decide) c9 ?_
      refine e_aload_n (show pAt 129 137 = some (137, .aload_n 0, 1, []) from by decide +kernel) rfl (ra (by decide)) ?_
      refine e_dupR (show pAt 129 138 = some (138, .dup, 1, []) from by decide +kernel) ?_
      refine e_gI (show pAt 129 139 = some (139, .getfield 80, 3, [7, 23, 0, 4146]) from by decide +kernel) (show HS (hpI h6 107 (h6.2.1 93 23).toNatClampNeg r2) from hs_h6) rfl (by decide) ?_
      refine e_iconst (c := 1) (show pAt 129 142 = some (142, .iconst 1, 1, []) from by decide +kernel) (by decide) ?_
      refine e_iadd (show pAt 129 143 = some (143, .iadd, 1, []) from by decide +kernel) ?_
      refine e_pI (show pAt 129 144 = some (144, .putfield 80, 3, [7, 23, 0, 4146]) from by decide +kernel) (show HS (hpI h6 107 (h6.2.1 93 23).toNatClampNeg r2) from hs_h6) (by decide) (Or.inl rfl) ?_
      refine e_iconst (c := 1) (show pAt 129 147 = some (147, .iconst 1, 1, []) from by decide +kernel) (by decide) ?_
      refine e_istore_n (show pAt 129 148 = some (148, .istore_n 2, 1, []) from by decide +kernel) ⟨Nat.le_of_ble_eq_true rfl, rfl⟩ rfl ?_
      refine e_aload_n (show pAt 129 149 = some (149, .aload_n 0, 1, []) from by decide +kernel) rfl (ra (by decide)) ?_
      refine e_dupR (show pAt 129 150 = some (150, .dup, 1, []) from by decide +kernel) ?_
      refine e_gI (show pAt 129 151 = some (151, .getfield 47, 3, [7, 12, 0, 4135]) from by decide +kernel) (show HS (hpI (hpI h6 107 (h6.2.1 93 23).toNatClampNeg r2) 93 23 (((hpI h6 107 (h6.2.1 93 23).toNatClampNeg r2).2.1 93 23) + 1)) from hs_h6) rfl (by decide) ?_
      refine e_iconst (c := 1) (show pAt 129 154 = some (154, .iconst 1, 1, []) from by decide +kernel) (by decide) ?_
      refine e_iadd (show pAt 129 155 = some (155, .iadd, 1, []) from by decide +kernel) ?_
      refine e_pI (show pAt 129 156 = some (156, .putfield 47, 3, [7, 12, 0, 4135]) from by decide +kernel) (show HS (hpI (hpI h6 107 (h6.2.1 93 23).toNatClampNeg r2) 93 23 (((hpI h6 107 (h6.2.1 93 23).toNatClampNeg r2).2.1 93 23) + 1)) from hs_h6) (by decide) (Or.inl rfl) ?_
      refine e_goto (t := 22) (show pAt 129 159 = some (159, .goto (-137), 3, []) from by decide +kernel) rfl ?_
      exact vc
    · replace vc := vc.2 c5
      refine e_iload_n (show pAt 129 116 = some (116, .iload_n 3, 1, []) from by decide +kernel) rfl ?_
      refine e_bipush (c := 124) (show pAt 129 117 = some (117, .bipush 124, 2, []) from by decide +kernel) (by decide) ?_
      refine e_icmp (t := 162) (show pAt 129 119 = some (119, .if_icmp .ne 43, 3, []) from by decide +kernel) rfl (fun c10 => ?_) (fun c10 => ?_)
      · replace vc := vc.1 c10
        refine e_aload_n (show pAt 129 162 = some (162, .aload_n 0, 1, []) from by decide +kernel) rfl (ra (by decide)) ?_
        refine e_bipush (c := 124) (show pAt 129 163 = some (163, .bipush 124, 2, []) from by decide +kernel) (by decide) ?_
        refine Ends.call (show pAt 129 165 = some (165, .invokevirtual 242, 3, [126, 2, 0, 0, 5161, 5163, 69]) from by decide +kernel) (isRet_none rfl) rfl (call_this (show HS h1 from hs_h1) rfl rfl (by decide)) (Ends.mono vc ?_)
        rintro _ h11 ⟨rfl, hs_h11, vc⟩
        refine e_aload_n (show pAt 129 168 = some (168, .aload_n 0, 1, []) from by decide +kernel) rfl (ra (by decide)) ?_
        refine e_gR (show pAt 129 169 = some (169, .getfield 68, 3, [7, 19, 0, 4142]) from by decide +kernel) (show HS h11 from hs_h11) rfl (by decide) (hs_ref (show HS h11 from hs_h11) rfl) ?_
        refine e_iload_n (show pAt 129 172 = some (172, .iload_n 1, 1, []) from by decide +kernel) rfl ?_
        refine e_aload_n (show pAt 129 173 = some (173, .aload_n 0, 1, []) from by decide +kernel) rfl (ra (by decide)) ?_
        refine e_gI (show pAt 129 174 = some (174, .getfield 77, 3, [7, 22, 0, 4145]) from by decide +kernel) (show HS h11 from hs_h11) rfl (by decide) ?_
        obtain ⟨c14, vc⟩ := vc
        refine e_ast (show pAt 129 177 = some (177, .iastore, 1, []) from by decide +kernel) (show HS h11 from hs_h11) (by decide) c14 ?_
        refine e_aload_n (show pAt 129 178 = some (178, .aload_n 0, 1, []) from by decide +kernel) rfl (ra (by decide)) ?_
        refine e_gI (show pAt 129 179 = some (179, .getfield 80, 3, [7, 23, 0, 4146]) from by decide +kernel) (show HS (hpI h11 105 c.toNatClampNeg (h11.2.1 93 22)) from hs_h11) rfl (by decide) ?_
        refine e_if (t := 187) (show pAt 129 182 = some (182, .ifCond .ne 5, 3, []) from by decide +kernel) rfl (fun c15 => ?_) (fun c15 => ?_)
        · replace vc := vc.1 c15
          refine e_iload_n (show pAt 129 187 = some (187, .iload_n 3, 1, []) from by decide +kernel) rfl ?_
          refine e_bipush (c := 41) (show pAt 129 188 = some (188, .bipush 41, 2, []) from by decide +kernel) (by decide) ?_
          refine e_icmp (t := 195) (show pAt 129 190 = some (190, .if_icmp .eq 5, 3, []) from by decide +kernel) rfl (fun c16 => ?_) (fun c16 => ?_)
          · replace vc := vc.1 c16
            refine e_aload_n (show pAt 129 195 = some (195, .aload_n 0, 1, []) from by decide +kernel) rfl (ra (by decide)) ?_
            refine e_dupR (show pAt 129 196 = some (196, .dup, 1, []) from by decide +kernel) ?_
            refine e_gI (show pAt 129 197 = some (197, .getfield 80, 3, [7, 23, 0, 4146]) from by decide +kernel) (show HS (hpI h11 105 c.toNatClampNeg (h11.2.1 93 22)) from hs_h11) rfl (by decide) ?_
            refine e_iconst (c := 1) (show pAt 129 200 = some (200, .iconst 1, 1, []) from by decide +kernel) (by decide) ?_
            refine e_isub (show pAt 129 201 = some (201, .isub, 1, []) from by decide +kernel) ?_
            refine e_pI (show pAt 129 202 = some (202, .putfield 80, 3, [7, 23, 0, 4146]) from by decide +kernel) (show HS (hpI h11 105 c.toNatClampNeg (h11.2.1 93 22)) from hs_h11) (by decide) (Or.inl rfl) ?_
            refine e_aload_n (show pAt 129 205 = some (205, .aload_n 0, 1, []) from by decide +kernel) rfl (ra (by decide)) ?_
            refine e_dupR (show pAt 129 206 = some (206, .dup, 1, []) from by decide +kernel) ?_
            refine e_gI (show pAt 129 207 = some (207, .getfield 83, 3, [7, 24, 0, 4147]) from by decide +kernel) (show HS (hpI (hpI h11 105 c.toNatClampNeg (h11.2.1 93 22)) 93 23 (((hpI h11 105 c.toNatClampNeg (h11.2.1 93 22)).2.1 93 23) - 1)) from hs_h11) rfl (by decide) ?_
            refine e_iconst (c := 1) (show pAt 129 210 = some (210, .iconst 1, 1, []) from by decide +kernel) (by decide) ?_
            refine e_isub (show pAt 129 211 = some (211, .isub, 1, []) from by decide +kernel) ?_
            refine e_pI (show pAt 129 212 = some (212, .putfield 83, 3, [7, 24, 0, 4147]) from by decide +kernel) (show HS (hpI (hpI h11 105 c.toNatClampNeg (h11.2.1 93 22)) 93 23 (((hpI h11 105 c.toNatClampNeg (h11.2.1 93 22)).2.1 93 23) - 1)) from hs_h11) (by decide) (Or.inl rfl) ?_
            refine e_aload_n (show pAt 129 215 = some (215, .aload_n 0, 1, []) from by decide +kernel) rfl (ra (by decide)) ?_
            refine e_dupR (show pAt 129 216 = some (216, .dup, 1, []) from by decide +kernel) ?_
            refine e_gI (show pAt 129 217 = some (217, .getfield 47, 3, [7, 12, 0, 4135]) from by decide +kernel) (show HS (hpI (hpI (hpI h11 105 c.toNatClampNeg (h11.2.1 93 22)) 93 23 (((hpI h11 105 c.toNatClampNeg (h11.2.1 93 22)).2.1 93 23) - 1)) 93 24 (((hpI (hpI h11 105 c.toNatClampNeg (h11.2.1 93 22)) 93 23 (((hpI h11 105 c.toNatClampNeg (h11.2.1 93 22)).2.1 93 23) - 1)).2.1 93 24) - 1)) from hs_h11) rfl (by decide) ?_
            refine e_iconst (c := 1) (show pAt 129 220 = some (220, .iconst 1, 1, []) from by decide +kernel) (by decide) ?_
            refine e_iadd (show pAt 129 221 = some (221, .iadd, 1, []) from by decide +kernel) ?_
            refine e_pI (show pAt 129 222 = some (222, .putfield 47, 3, [7, 12, 0, 4135]) from by decide +kernel) (show HS (hpI (hpI (hpI h11 105 c.toNatClampNeg (h11.2.1 93 22)) 93 23 (((hpI h11 105 c.toNatClampNeg (h11.2.1 93 22)).2.1 93 23) - 1)) 93 24 (((hpI (hpI h11 105 c.toNatClampNeg (h11.2.1 93 22)) 93 23 (((hpI h11 105 c.toNatClampNeg (h11.2.1 93 22)).2.1 93 23) - 1)).2.1 93 24) - 1)) from hs_h11) (by decide) (Or.inl rfl) ?_
            refine e_aload_n (show pAt 129 225 = some (225, .aload_n 0, 1, []) from by decide +kernel) rfl (ra (by decide)) ?_
            refine Ends.call (show pAt 129 226 = some (226, .invokevirtual 236, 3, [125, 1, 0, 0, 5157, 5159, 68]) from by decide +kernel) (isRet_none rfl) rfl (call_this (show HS (hpI (hpI (hpI (hpI h11 105 c.toNatClampNeg (h11.2.1 93 22)) 93 23 (((hpI h11 105 c.toNatClampNeg (h11.2.1 93 22)).2.1 93 23) - 1)) 93 24 (((hpI (hpI h11 105 c.toNatClampNeg (h11.2.1 93 22)) 93 23 (((hpI h11 105 c.toNatClampNeg (h11.2.1 93 22)).2.1 93 23) - 1)).2.1 93 24) - 1)) 93 12 (((hpI (hpI (hpI h11 105 c.toNatClampNeg (h11.2.1 93 22)) 93 23 (((hpI h11 105 c.toNatClampNeg (h11.2.1 93 22)).2.1 93 23) - 1)) 93 24 (((hpI (hpI h11 105 c.toNatClampNeg (h11.2.1 93 22)) 93 23 (((hpI h11 105 c.toNatClampNeg (h11.2.1 93 22)).2.1 93 23) - 1)).2.1 93 24) - 1)).2.1 93 12) + 1)) from hs_h11) rfl rfl (by decide)) (Ends.mono vc ?_)
            rintro _ h17 ⟨rfl, hs_h17, vc⟩
            refine e_goto (t := 22) (show pAt 129 229 = some (229, .goto (-207), 3, []) from by decide +kernel) rfl ?_
            exact vc
          · replace vc := vc.2 c16
            refine e_iconst (c := 0) (show pAt 129 193 = some (193, .iconst 0, 1, []) from by decide +kernel) (by decide) ?_
            exact e_retZ (show pAt 129 194 = some (194, .ireturn, 1, []) from by decide +kernel) rfl (by decide) vc
        · replace vc := vc.2 c15
          refine e_iconst (c := 1) (show pAt 129 185 = some (185, .iconst 1, 1, []) from by decide +kernel) (by decide) ?_
          exact e_retZ (show pAt 129 186 = some (186, .ireturn, 1, []) from by decide +kernel) rfl (by decide) vc
      · replace vc := vc.2 c10
        refine e_aload_n (show pAt 129 122 = some (122, .aload_n 0, 1, []) from by decide +kernel) rfl (ra (by decide)) ?_
        refine e_iload_n (show pAt 129 123 = some (123, .iload_n 3, 1, []) from by decide +kernel) rfl ?_
        refine Ends.call (show pAt 129 124 = some (124, .invokevirtual 242, 3, [126, 2, 0, 0, 5161, 5163, 69]) from by decide +kernel) (isRet_none rfl) rfl (call_this (show HS h1 from hs_h1) rfl rfl (by decide)) (Ends.mono vc ?_)
        rintro _ h20 ⟨rfl, hs_h20, vc⟩
        refine e_aload_n (show pAt 129 127 = some (127, .aload_n 0, 1, []) from by decide +kernel) rfl (ra (by decide)) ?_
        refine e_gR (show pAt 129 128 = some (128, .getfield 74, 3, [7, 21, 0, 4144]) from by decide +kernel) (show HS h20 from hs_h20) rfl (by decide) (hs_ref (show HS h20 from hs_h20) rfl) ?_
        refine e_aload_n (show pAt 129 131 = some (131, .aload_n 0, 1, []) from by decide +kernel) rfl (ra (by decide)) ?_
        refine e_gI (show pAt 129 132 = some (132, .getfield 80, 3, [7, 23, 0, 4146]) from by decide +kernel) (show HS h20 from hs_h20) rfl (by decide) ?_
        refine e_iload_n (show pAt 129 135 = some (135, .iload_n 3, 1, []) from by decide +kernel) rfl ?_
        obtain ⟨c23, vc⟩ := vc
        refine e_ast (show pAt 129 136 = some (136, .iastore, 1, []) from by decide +kernel) (show HS h20 from hs_h20) (by decide) c23 ?_
        refine e_aload_n (show pAt 129 137 = some (137, .aload_n 0, 1, []) from by decide +kernel) rfl (ra (by decide)) ?_
        refine e_dupR (show pAt 129 138 = some (138, .dup, 1, []) from by decide +kernel) ?_
        refine e_gI (show pAt 129 139 = some (139, .getfield 80, 3, [7, 23, 0, 4146]) from by decide +kernel) (show HS (hpI h20 107 (h20.2.1 93 23).toNatClampNeg r2) from hs_h20) rfl (by decide) ?_
        refine e_iconst (c := 1) (show pAt 129 142 = some (142, .iconst 1, 1, []) from by decide +kernel) (by decide) ?_
        refine e_iadd (show pAt 129 143 = some (143, .iadd, 1, []) from by decide +kernel) ?_
        refine e_pI (show pAt 129 144 = some (144, .putfield 80, 3, [7, 23, 0, 4146]) from by decide +kernel) (show HS (hpI h20 107 (h20.2.1 93 23).toNatClampNeg r2) from hs_h20) (by decide) (Or.inl rfl) ?_
        refine e_iconst (c := 1) (show pAt 129 147 = some (147, .iconst 1, 1, []) from by decide +kernel) (by decide) ?_
        refine e_istore_n (show pAt 129 148 = some (148, .istore_n 2, 1, []) from by decide +kernel) ⟨Nat.le_of_ble_eq_true rfl, rfl⟩ rfl ?_
        refine e_aload_n (show pAt 129 149 = some (149, .aload_n 0, 1, []) from by decide +kernel) rfl (ra (by decide)) ?_
        refine e_dupR (show pAt 129 150 = some (150, .dup, 1, []) from by decide +kernel) ?_
        refine e_gI (show pAt 129 151 = some (151, .getfield 47, 3, [7, 12, 0, 4135]) from by decide +kernel) (show HS (hpI (hpI h20 107 (h20.2.1 93 23).toNatClampNeg r2) 93 23 (((hpI h20 107 (h20.2.1 93 23).toNatClampNeg r2).2.1 93 23) + 1)) from hs_h20) rfl (by decide) ?_
        refine e_iconst (c := 1) (show pAt 129 154 = some (154, .iconst 1, 1, []) from by decide +kernel) (by decide) ?_
        refine e_iadd (show pAt 129 155 = some (155, .iadd, 1, []) from by decide +kernel) ?_
        refine e_pI (show pAt 129 156 = some (156, .putfield 47, 3, [7, 12, 0, 4135]) from by decide +kernel) (show HS (hpI (hpI h20 107 (h20.2.1 93 23).toNatClampNeg r2) 93 23 (((hpI h20 107 (h20.2.1 93 23).toNatClampNeg r2).2.1 93 23) + 1)) from hs_h20) (by decide) (Or.inl rfl) ?_
        refine e_goto (t := 22) (show pAt 129 159 = some (159, .goto (-137), 3, []) from by decide +kernel) rfl ?_
        exact vc
  · replace vc := vc.2 c4
    refine e_iload_n (show pAt 129 31 = some (31, .iload_n 3, 1, []) from by decide +kernel) rfl ?_
    refine e_bipush (c := 33) (show pAt 129 32 = some (32, .bipush 33, 2, []) from by decide +kernel) (by decide) ?_
    refine e_icmp (t := 43) (show pAt 129 34 = some (34, .if_icmp .eq 9, 3, []) from by decide +kernel) rfl (fun c24 => ?_) (fun c24 => ?_)
    · replace vc := vc.1 c24
      refine e_aload_n (show pAt 129 43 = some (43, .aload_n 0, 1, []) from by decide +kernel) rfl (ra (by decide)) ?_
      refine e_gI (show pAt 129 44 = some (44, .getfield 83, 3, [7, 24, 0, 4147]) from by decide +kernel) (show HS h1 from hs_h1) rfl (by decide) ?_
      refine e_iconst (c := 4) (show pAt 129 47 = some (47, .iconst 4, 1, []) from by decide +kernel) (by decide) ?_
      refine e_icmp (t := 53) (show pAt 129 48 = some (48, .if_icmp .ne 5, 3, []) from by decide +kernel) rfl (fun c25 => ?_) (fun c25 => ?_)
      · replace vc := vc.1 c25
        refine e_aload_n (show pAt 129 53 = some (53, .aload_n 0, 1, []) from by decide +kernel) rfl (ra (by decide)) ?_
        refine e_dupR (show pAt 129 54 = some (54, .dup, 1, []) from by decide +kernel) ?_
        refine e_gI (show pAt 129 55 = some (55, .getfield 83, 3, [7, 24, 0, 4147]) from by decide +kernel) (show HS h1 from hs_h1) rfl (by decide) ?_
        refine e_iconst (c := 1) (show pAt 129 58 = some (58, .iconst 1, 1, []) from by decide +kernel) (by decide) ?_
        refine e_iadd (show pAt 129 59 = some (59, .iadd, 1, []) from by decide +kernel) ?_
        refine e_pI (show pAt 129 60 = some (60, .putfield 83, 3, [7, 24, 0, 4147]) from by decide +kernel) (show HS h1 from hs_h1) (by decide) (Or.inl rfl) ?_
        refine e_aload_n (show pAt 129 63 = some (63, .aload_n 0, 1, []) from by decide +kernel) rfl (ra (by decide)) ?_
        refine e_gR (show pAt 129 64 = some (64, .getfield 74, 3, [7, 21, 0, 4144]) from by decide +kernel) (show HS (hpI h1 93 24 ((h1.2.1 93 24) + 1)) from hs_h1) rfl (by decide) (hs_ref (show HS (hpI h1 93 24 ((h1.2.1 93 24) + 1)) from hs_h1) rfl) ?_
        refine e_aload_n (show pAt 129 67 = some (67, .aload_n 0, 1, []) from by decide +kernel) rfl (ra (by decide)) ?_
        refine e_gI (show pAt 129 68 = some (68, .getfield 80, 3, [7, 23, 0, 4146]) from by decide +kernel) (show HS (hpI h1 93 24 ((h1.2.1 93 24) + 1)) from hs_h1) rfl (by decide) ?_
        refine e_iload_n (show pAt 129 71 = some (71, .iload_n 3, 1, []) from by decide +kernel) rfl ?_
        obtain ⟨c26, vc⟩ := vc
        refine e_ast (show pAt 129 72 = some (72, .iastore, 1, []) from by decide +kernel) (show HS (hpI h1 93 24 ((h1.2.1 93 24) + 1)) from hs_h1) (by decide) c26 ?_
        refine e_aload_n (show pAt 129 73 = some (73, .aload_n 0, 1, []) from by decide +kernel) rfl (ra (by decide)) ?_
        refine e_dupR (show pAt 129 74 = some (74, .dup, 1, []) from by decide +kernel) ?_
        refine e_gI (show pAt 129 75 = some (75, .getfield 80, 3, [7, 23, 0, 4146]) from by decide +kernel) (show HS (hpI (hpI h1 93 24 ((h1.2.1 93 24) + 1)) 107 ((hpI h1 93 24 ((h1.2.1 93 24) + 1)).2.1 93 23).toNatClampNeg r2) from hs_h1) rfl (by decide) ?_
        refine e_iconst (c := 1) (show pAt 129 78 = some (78, .iconst 1, 1, []) from by decide +kernel) (by decide) ?_
        refine e_iadd (show pAt 129 79 = some (79, .iadd, 1, []) from by decide +kernel) ?_
        refine e_pI (show pAt 129 80 = some (80, .putfield 80, 3, [7, 23, 0, 4146]) from by decide +kernel) (show HS (hpI (hpI h1 93 24 ((h1.2.1 93 24) + 1)) 107 ((hpI h1 93 24 ((h1.2.1 93 24) + 1)).2.1 93 23).toNatClampNeg r2) from hs_h1) (by decide) (Or.inl rfl) ?_
        refine e_aload_n (show pAt 129 83 = some (83, .aload_n 0, 1, []) from by decide +kernel) rfl (ra (by decide)) ?_
        refine e_dupR (show pAt 129 84 = some (84, .dup, 1, []) from by decide +kernel) ?_
        refine e_gI (show pAt 129 85 = some (85, .getfield 47, 3, [7, 12, 0, 4135]) from by decide +kernel) (show HS (hpI (hpI (hpI h1 93 24 ((h1.2.1 93 24) + 1)) 107 ((hpI h1 93 24 ((h1.2.1 93 24) + 1)).2.1 93 23).toNatClampNeg r2) 93 23 (((hpI (hpI h1 93 24 ((h1.2.1 93 24) + 1)) 107 ((hpI h1 93 24 ((h1.2.1 93 24) + 1)).2.1 93 23).toNatClampNeg r2).2.1 93 23) + 1)) from hs_h1) rfl (by decide) ?_
        refine e_iconst (c := 1) (show pAt 129 88 = some (88, .iconst 1, 1, []) from by decide +kernel) (by decide) ?_
        refine e_iadd (show pAt 129 89 = some (89, .iadd, 1, []) from by decide +kernel) ?_
        refine e_pI (show pAt 129 90 = some (90, .putfield 47, 3, [7, 12, 0, 4135]) from by decide +kernel) (show HS (hpI (hpI (hpI h1 93 24 ((h1.2.1 93 24) + 1)) 107 ((hpI h1 93 24 ((h1.2.1 93 24) + 1)).2.1 93 23).toNatClampNeg r2) 93 23 (((hpI (hpI h1 93 24 ((h1.2.1 93 24) + 1)) 107 ((hpI h1 93 24 ((h1.2.1 93 24) + 1)).2.1 93 23).toNatClampNeg r2).2.1 93 23) + 1)) from hs_h1) (by decide) (Or.inl rfl) ?_
        refine e_goto (t := 22) (show pAt 129 93 = some (93, .goto (-71), 3, []) from by decide +kernel) rfl ?_
        exact vc
      · replace vc := vc.2 c25
        refine e_iconst (c := 0) (show pAt 129 51 = some (51, .iconst 0, 1, []) from by decide +kernel) (by decide) ?_
        exact e_retZ (show pAt 129 52 = some (52, .ireturn, 1, []) from by decide +kernel) rfl (by decide) vc
    · replace vc := vc.2 c24
      refine e_iload_n (show pAt 129 37 = some (37, .iload_n 3, 1, []) from by decide +kernel) rfl ?_
      refine e_bipush (c := 40) (show pAt 129 38 = some (38, .bipush 40, 2, []) from by decide +kernel) (by decide) ?_
      refine e_icmp (t := 96) (show pAt 129 40 = some (40, .if_icmp .ne 56, 3, []) from by decide +kernel) rfl (fun c27 => ?_) (fun c27 => ?_)
      · replace vc := vc.1 c27
        refine e_aload_n (show pAt 129 96 = some (96, .aload_n 0, 1, []) from by decide +kernel) rfl (ra (by decide)) ?_
        refine Ends.call (show pAt 129 97 = some (97, .invokevirtual 239, 3, [128, 1, 0, 0, 5145, 5147, 65]) from by decide +kernel) (isRet_none rfl) rfl (call_this (show HS h1 from hs_h1) rfl rfl (by decide)) (Ends.mono vc ?_)
        rintro _ h28 ⟨r29, rfl, hs_h28, vc⟩
        refine e_if (t := 108) (show pAt 129 100 = some (100, .ifCond .eq 8, 3, []) from by decide +kernel) rfl (fun c31 => ?_) (fun c31 => ?_)
        · replace vc := vc.1 c31
          refine e_iconst (c := 0) (show pAt 129 108 = some (108, .iconst 0, 1, []) from by decide +kernel) (by decide) ?_
          exact e_retZ (show pAt 129 109 = some (109, .ireturn, 1, []) from by decide +kernel) rfl (by decide) vc
        · replace vc := vc.2 c31
          refine e_iconst (c := 0) (show pAt 129 103 = some (103, .iconst 0, 1, []) from by decide +kernel) (by decide) ?_
          refine e_istore_n (show pAt 129 104 = some (104, .istore_n 2, 1, []) from by decide +kernel) ⟨Nat.le_of_ble_eq_true rfl, rfl⟩ rfl ?_
          refine e_goto (t := 22) (show pAt 129 105 = some (105, .goto (-83), 3, []) from by decide +kernel) rfl ?_
          exact vc
      · replace vc := vc.2 c27
        refine e_aload_n (show pAt 129 43 = some (43, .aload_n 0, 1, []) from by decide +kernel) rfl (ra (by decide)) ?_
        refine e_gI (show pAt 129 44 = some (44, .getfield 83, 3, [7, 24, 0, 4147]) from by decide +kernel) (show HS h1 from hs_h1) rfl (by decide) ?_
        refine e_iconst (c := 4) (show pAt 129 47 = some (47, .iconst 4, 1, []) from by decide +kernel) (by decide) ?_
        refine e_icmp (t := 53) (show pAt 129 48 = some (48, .if_icmp .ne 5, 3, []) from by decide +kernel) rfl (fun c32 => ?_) (fun c32 => ?_)
        · replace vc := vc.1 c32
          refine e_aload_n (show pAt 129 53 = some (53, .aload_n 0, 1, []) from by decide +kernel) rfl (ra (by decide)) ?_
          refine e_dupR (show pAt 129 54 = some (54, .dup, 1, []) from by decide +kernel) ?_
          refine e_gI (show pAt 129 55 = some (55, .getfield 83, 3, [7, 24, 0, 4147]) from by decide +kernel) (show HS h1 from hs_h1) rfl (by decide) ?_
          refine e_iconst (c := 1) (show pAt 129 58 = some (58, .iconst 1, 1, []) from by decide +kernel) (by decide) ?_
          refine e_iadd (show pAt 129 59 = some (59, .iadd, 1, []) from by decide +kernel) ?_
          refine e_pI (show pAt 129 60 = some (60, .putfield 83, 3, [7, 24, 0, 4147]) from by decide +kernel) (show HS h1 from hs_h1) (by decide) (Or.inl rfl) ?_
          refine e_aload_n (show pAt 129 63 = some (63, .aload_n 0, 1, []) from by decide +kernel) rfl (ra (by decide)) ?_
          refine e_gR (show pAt 129 64 = some (64, .getfield 74, 3, [7, 21, 0, 4144]) from by decide +kernel) (show HS (hpI h1 93 24 ((h1.2.1 93 24) + 1)) from hs_h1) rfl (by decide) (hs_ref (show HS (hpI h1 93 24 ((h1.2.1 93 24) + 1)) from hs_h1) rfl) ?_
          refine e_aload_n (show pAt 129 67 = some (67, .aload_n 0, 1, []) from by decide +kernel) rfl (ra (by decide)) ?_
          refine e_gI (show pAt 129 68 = some (68, .getfield 80, 3, [7, 23, 0, 4146]) from by decide +kernel) (show HS (hpI h1 93 24 ((h1.2.1 93 24) + 1)) from hs_h1) rfl (by decide) ?_
          refine e_iload_n (show pAt 129 71 = some (71, .iload_n 3, 1, []) from by decide +kernel) rfl ?_
          obtain ⟨c33, vc⟩ := vc
          refine e_ast (show pAt 129 72 = some (72, .iastore, 1, []) from by decide +kernel) (show HS (hpI h1 93 24 ((h1.2.1 93 24) + 1)) from hs_h1) (by decide) c33 ?_
          refine e_aload_n (show pAt 129 73 = some (73, .aload_n 0, 1, []) from by decide +kernel) rfl (ra (by decide)) ?_
          refine e_dupR (show pAt 129 74 = some (74, .dup, 1, []) from by decide +kernel) ?_
          refine e_gI (show pAt 129 75 = some (75, .getfield 80, 3, [7, 23, 0, 4146]) from by decide +kernel) (show HS (hpI (hpI h1 93 24 ((h1.2.1 93 24) + 1)) 107 ((hpI h1 93 24 ((h1.2.1 93 24) + 1)).2.1 93 23).toNatClampNeg r2) from hs_h1) rfl (by decide) ?_
          refine e_iconst (c := 1) (show pAt 129 78 = some (78, .iconst 1, 1, []) from by decide +kernel) (by decide) ?_
          refine e_iadd (show pAt 129 79 = some (79, .iadd, 1, []) from by decide +kernel) ?_
          refine e_pI (show pAt 129 80 = some (80, .putfield 80, 3, [7, 23, 0, 4146]) from by decide +kernel) (show HS (hpI (hpI h1 93 24 ((h1.2.1 93 24) + 1)) 107 ((hpI h1 93 24 ((h1.2.1 93 24) + 1)).2.1 93 23).toNatClampNeg r2) from hs_h1) (by decide) (Or.inl rfl) ?_
          refine e_aload_n (show pAt 129 83 = some (83, .aload_n 0, 1, []) from by decide +kernel) rfl (ra (by decide)) ?_
          refine e_dupR (show pAt 129 84 = some (84, .dup, 1, []) from by decide +kernel) ?_
          refine e_gI (show pAt 129 85 = some (85, .getfield 47, 3, [7, 12, 0, 4135]) from by decide +kernel) (show HS (hpI (hpI (hpI h1 93 24 ((h1.2.1 93 24) + 1)) 107 ((hpI h1 93 24 ((h1.2.1 93 24) + 1)).2.1 93 23).toNatClampNeg r2) 93 23 (((hpI (hpI h1 93 24 ((h1.2.1 93 24) + 1)) 107 ((hpI h1 93 24 ((h1.2.1 93 24) + 1)).2.1 93 23).toNatClampNeg r2).2.1 93 23) + 1)) from hs_h1) rfl (by decide) ?_
          refine e_iconst (c := 1) (show pAt 129 88 = some (88, .iconst 1, 1, []) from by decide +kernel) (by decide) ?_
          refine e_iadd (show pAt 129 89 = some (89, .iadd, 1, []) from by decide +kernel) ?_
          refine e_pI (show pAt 129 90 = some (90, .putfield 47, 3, [7, 12, 0, 4135]) from by decide +kernel) (show HS (hpI (hpI (hpI h1 93 24 ((h1.2.1 93 24) + 1)) 107 ((hpI h1 93 24 ((h1.2.1 93 24) + 1)).2.1 93 23).toNatClampNeg r2) 93 23 (((hpI (hpI h1 93 24 ((h1.2.1 93 24) + 1)) 107 ((hpI h1 93 24 ((h1.2.1 93 24) + 1)).2.1 93 23).toNatClampNeg r2).2.1 93 23) + 1)) from hs_h1) (by decide) (Or.inl rfl) ?_
          refine e_goto (t := 22) (show pAt 129 93 = some (93, .goto (-71), 3, []) from by decide +kernel) rfl ?_
          exact vc
        · replace vc := vc.2 c32
          refine e_iconst (c := 0) (show pAt 129 51 = some (51, .iconst 0, 1, []) from by decide +kernel) (by decide) ?_
          exact e_retZ (show pAt 129 52 = some (52, .ireturn, 1, []) from by decide +kernel) rfl (by decide) vc

theorem w_head {X : Scr} {dp : Nat} {h : Hp} {Q : Option Value → Hp → Prop} (c : Int32) (hs : HS h)
    (vc : Ends X dp 119 0 [.ref 93] [] h (fun rv h1 => ∃ r2, rv = some (.int r2) ∧ HS h1 ∧ (((¬ (104 : Int) = r2.toInt ∧ ¬ (114 : Int) = r2.toInt) → (inB c 60 = true ∧ Ends X dp 121 0 [.ref 93, .int 9, .int 5, .retAddr 0] [] (hpI h1 102 c.toNatClampNeg 2) (fun rv h6 => ∃ r7, rv = some (.int r7) ∧ HS h6 ∧ (r7 = 0 ∨ r7 = 1) ∧ Q (some (.int r7)) h6))) ∧ (r2.toInt = 104 → (inB c 60 = true ∧ Ends X dp 121 0 [.ref 93, .int 5, .int 4, .retAddr 0] [] (hpI h1 102 c.toNatClampNeg 1) (fun rv h10 => ∃ r11, rv = some (.int r11) ∧ HS h10 ∧ (r11 = 0 ∨ r11 = 1) ∧ Q (some (.int r11)) h10))) ∧ (r2.toInt = 114 → (inB c 60 = true ∧ Ends X dp 121 0 [.ref 93, .int 0, .int 5, .retAddr 0] [] (hpI h1 102 c.toNatClampNeg 0) (fun rv h14 => ∃ r15, rv = some (.int r15) ∧ HS h14 ∧ (r15 = 0 ∨ r15 = 1) ∧ Q (some (.int r15)) h14)))))) :
    Ends X (dp + 1) 130 0 [.ref 93, .int c] [] h Q := by
  have ra : ∀ {a : Nat}, a < 1000 → a ≤ OLDB := fun h => by have := OLDB_eq; omega
  refine e_aload_n (show pAt 130 0 = some (0, .aload_n 0, 1, []) from by decide +kernel) rfl (ra (by decide)) ?_
  refine Ends.call (show pAt 130 1 = some (1, .invokevirtual 214, 3, [119, 1, 0, 0, 5121, 5123, 59]) from by decide +kernel) (isRet_none rfl) rfl (call_this (show HS h from hs) rfl rfl (by decide)) (Ends.mono vc ?_)
  rintro _ h1 ⟨r2, rfl, hs_h1, vc⟩
  rcases (show (¬ (104 : Int) = r2.toInt ∧ ¬ (114 : Int) = r2.toInt) ∨ r2.toInt = 104 ∨ r2.toInt = 114 from by omega) with c4 | c4 | c4
  · refine e_ls (t := 60) (show pAt 130 4 = some (4, .lookupswitch 56 #[(104, 42), (114, 28)], 28, []) from by decide +kernel) (by decide) (ls_off (b := 56) (by simp [Op.lookupswitch.offset, c4]) rfl) ?_
    replace vc := vc.1 c4
    refine e_aload_n (show pAt 130 60 = some (60, .aload_n 0, 1, []) from by decide +kernel) rfl (ra (by decide)) ?_
    refine e_gR (show pAt 130 61 = some (61, .getfield 59, 3, [7, 16, 0, 4139]) from by decide +kernel) (show HS h1 from hs_h1) rfl (by decide) (hs_ref (show HS h1 from hs_h1) rfl) ?_
    refine e_iload_n (show pAt 130 64 = some (64, .iload_n 1, 1, []) from by decide +kernel) rfl ?_
    refine e_iconst (c := 2) (show pAt 130 65 = some (65, .iconst 2, 1, []) from by decide +kernel) (by decide) ?_
    obtain ⟨c5, vc⟩ := vc
    refine e_ast (show pAt 130 66 = some (66, .iastore, 1, []) from by decide +kernel) (show HS h1 from hs_h1) (by decide) c5 ?_
    refine e_aload_n (show pAt 130 67 = some (67, .aload_n 0, 1, []) from by decide +kernel) rfl (ra (by decide)) ?_
    refine e_bipush (c := 9) (show pAt 130 68 = some (68, .bipush 9, 2, []) from by decide +kernel) (by decide) ?_
    refine e_iconst (c := 5) (show pAt 130 70 = some (70, .iconst 5, 1, []) from by decide +kernel) (by decide) ?_
    refine Ends.call (show pAt 130 71 = some (71, .invokevirtual 245, 3, [121, 3, 0, 0, 5125, 5127, 60]) from by decide +kernel) (isRet_none rfl) rfl (call_this (show HS (hpI h1 102 c.toNatClampNeg 2) from hs_h1) rfl rfl (by decide)) (Ends.mono vc ?_)
    rintro _ h6 ⟨r7, rfl, hs_h6, vc⟩
    exact e_retZ (show pAt 130 74 = some (74, .ireturn, 1, []) from by decide +kernel) rfl vc.1 vc.2
  · refine e_ls (t := 46) (show pAt 130 4 = some (4, .lookupswitch 56 #[(104, 42), (114, 28)], 28, []) from by decide +kernel) (by decide) (ls_off (b := 42) (by simp [Op.lookupswitch.offset, c4]) rfl) ?_
    replace vc := vc.2.1 c4
    refine e_aload_n (show pAt 130 46 = some (46, .aload_n 0, 1, []) from by decide +kernel) rfl (ra (by decide)) ?_
    refine e_gR (show pAt 130 47 = some (47, .getfield 59, 3, [7, 16, 0, 4139]) from by decide +kernel) (show HS h1 from hs_h1) rfl (by decide) (hs_ref (show HS h1 from hs_h1) rfl) ?_
    refine e_iload_n (show pAt 130 50 = some (50, .iload_n 1, 1, []) from by decide +kernel) rfl ?_
    refine e_iconst (c := 1) (show pAt 130 51 = some (51, .iconst 1, 1, []) from by decide +kernel) (by decide) ?_
    obtain ⟨c9, vc⟩ := vc
    refine e_ast (show pAt 130 52 = some (52, .iastore, 1, []) from by decide +kernel) (show HS h1 from hs_h1) (by decide) c9 ?_
    refine e_aload_n (show pAt 130 53 = some (53, .aload_n 0, 1, []) from by decide +kernel) rfl (ra (by decide)) ?_
    refine e_iconst (c := 5) (show pAt 130 54 = some (54, .iconst 5, 1, []) from by decide +kernel) (by decide) ?_
    refine e_iconst (c := 4) (show pAt 130 55 = some (55, .iconst 4, 1, []) from by decide +kernel) (by decide) ?_
    refine Ends.call (show pAt 130 56 = some (56, .invokevirtual 245, 3, [121, 3, 0, 0, 5125, 5127, 60]) from by decide +kernel) (isRet_none rfl) rfl (call_this (show HS (hpI h1 102 c.toNatClampNeg 1) from hs_h1) rfl rfl (by decide)) (Ends.mono vc ?_)
    rintro _ h10 ⟨r11, rfl, hs_h10, vc⟩
    exact e_retZ (show pAt 130 59 = some (59, .ireturn, 1, []) from by decide +kernel) rfl vc.1 vc.2
  · refine e_ls (t := 32) (show pAt 130 4 = some (4, .lookupswitch 56 #[(104, 42), (114, 28)], 28, []) from by decide +kernel) (by decide) (ls_off (b := 28) (by simp [Op.lookupswitch.offset, c4]) rfl) ?_
    replace vc := vc.2.2 c4
    refine e_aload_n (show pAt 130 32 = some (32, .aload_n 0, 1, []) from by decide +kernel) rfl (ra (by decide)) ?_
    refine e_gR (show pAt 130 33 = some (33, .getfield 59, 3, [7, 16, 0, 4139]) from by decide +kernel) (show HS h1 from hs_h1) rfl (by decide) (hs_ref (show HS h1 from hs_h1) rfl) ?_
    refine e_iload_n (show pAt 130 36 = some (36, .iload_n 1, 1, []) from by decide +kernel) rfl ?_
    refine e_iconst (c := 0) (show pAt 130 37 = some (37, .iconst 0, 1, []) from by decide +kernel) (by decide) ?_
    obtain ⟨c13, vc⟩ := vc
    refine e_ast (show pAt 130 38 = some (38, .iastore, 1, []) from by decide +kernel) (show HS h1 from hs_h1) (by decide) c13 ?_
    refine e_aload_n (show pAt 130 39 = some (39, .aload_n 0, 1, []) from by decide +kernel) rfl (ra (by decide)) ?_
    refine e_iconst (c := 0) (show pAt 130 40 = some (40, .iconst 0, 1, []) from by decide +kernel) (by decide) ?_
    refine e_iconst (c := 5) (show pAt 130 41 = some (41, .iconst 5, 1, []) from by decide +kernel) (by decide) ?_
    refine Ends.call (show pAt 130 42 = some (42, .invokevirtual 245, 3, [121, 3, 0, 0, 5125, 5127, 60]) from by decide +kernel) (isRet_none rfl) rfl (call_this (show HS (hpI h1 102 c.toNatClampNeg 0) from hs_h1) rfl rfl (by decide)) (Ends.mono vc ?_)
    rintro _ h14 ⟨r15, rfl, hs_h14, vc⟩
    exact e_retZ (show pAt 130 45 = some (45, .ireturn, 1, []) from by decide +kernel) rfl vc.1 vc.2

theorem w_clause {X : Scr} {dp : Nat} {h : Hp} {Q : Option Value → Hp → Prop} (c : Int32) (hs : HS h)
    (vc : Ends X dp 130 0 [.ref 93, .int c] [] h (fun rv h1 => ∃ r2, rv = some (.int r2) ∧ HS h1 ∧ ((condB .eq r2 0 = true → Q (some (.int 0)) h1) ∧ (condB .eq r2 0 = false → Ends X dp 123 0 [.ref 93, .retAddr 0] [] h1 (fun rv h5 => ∃ r6, rv = some (.int r6) ∧ HS h5 ∧ ((condB .ne r6 0 = true → (inB c 60 = true ∧ Ends X dp 120 0 [.ref 93, .int 32] [] (hpI h5 103 c.toNatClampNeg (h5.2.1 93 13)) (fun rv h10 => ∃ r11, rv = some (.int r11) ∧ HS h10 ∧ ((condB .eq r11 0 = true → Q (some (.int 0)) h10) ∧ (condB .eq r11 0 = false → Ends X dp 129 0 [.ref 93, .int c, .retAddr 0, .retAddr 0] [] h10 (fun rv h14 => ∃ r15, rv = some (.int r15) ∧ HS h14 ∧ ((condB .eq r15 0 = true → Q (some (.int 0)) h14) ∧ (condB .eq r15 0 = false → Q (some (.int 1)) h14)))))))) ∧ (condB .ne r6 0 = false → Q (some (.int 0)) h5))))))) :
    Ends X (dp + 1) 131 0 [.ref 93, .int c] [] h Q := by
  have ra : ∀ {a : Nat}, a < 1000 → a ≤ OLDB := fun h => by have := OLDB_eq; omega
  refine e_aload_n (show pAt 131 0 = some (0, .aload_n 0, 1, []) from by decide +kernel) rfl (ra (by decide)) ?_
  refine e_iload_n (show pAt 131 1 = some (1, .iload_n 1, 1, []) from by decide +kernel) rfl ?_
  refine Ends.call (show pAt 131 2 = some (2, .invokevirtual 249, 3, [130, 2, 0, 0, 5117, 5119, 58]) from by decide +kernel) (isRet_none rfl) rfl (call_this (show HS h from hs) rfl rfl (by decide)) (Ends.mono vc ?_)
  rintro _ h1 ⟨r2, rfl, hs_h1, vc⟩
  refine e_if (t := 15) (show pAt 131 5 = some (5, .ifCond .eq 10, 3, []) from by decide +kernel) rfl (fun c4 => ?_) (fun c4 => ?_)
  · replace vc := vc.1 c4
    refine e_iconst (c := 0) (show pAt 131 15 = some (15, .iconst 0, 1, []) from by decide +kernel) (by decide) ?_
    exact e_retZ (show pAt 131 16 = some (16, .ireturn, 1, []) from by decide +kernel) rfl (by decide) vc
  · replace vc := vc.2 c4
    refine e_aload_n (show pAt 131 8 = some (8, .aload_n 0, 1, []) from by decide +kernel) rfl (ra (by decide)) ?_
    refine Ends.call (show pAt 131 9 = some (9, .invokevirtual 233, 3, [123, 1, 0, 0, 5133, 5135, 62]) from by decide +kernel) (isRet_none rfl) rfl (call_this (show HS h1 from hs_h1) rfl rfl (by decide)) (Ends.mono vc ?_)
    rintro _ h5 ⟨r6, rfl, hs_h5, vc⟩
    refine e_if (t := 17) (show pAt 131 12 = some (12, .ifCond .ne 5, 3, []) from by decide +kernel) rfl (fun c8 => ?_) (fun c8 => ?_)
    · replace vc := vc.1 c8
      refine e_aload_n (show pAt 131 17 = some (17, .aload_n 0, 1, []) from by decide +kernel) rfl (ra (by decide)) ?_
      refine e_gR (show pAt 131 18 = some (18, .getfield 62, 3, [7, 17, 0, 4140]) from by decide +kernel) (show HS h5 from hs_h5) rfl (by decide) (hs_ref (show HS h5 from hs_h5) rfl) ?_
      refine e_iload_n (show pAt 131 21 = some (21, .iload_n 1, 1, []) from by decide +kernel) rfl ?_
      refine e_aload_n (show pAt 131 22 = some (22, .aload_n 0, 1, []) from by decide +kernel) rfl (ra (by decide)) ?_
      refine e_gI (show pAt 131 23 = some (23, .getfield 50, 3, [7, 13, 0, 4136]) from by decide +kernel) (show HS h5 from hs_h5) rfl (by decide) ?_
      obtain ⟨c9, vc⟩ := vc
      refine e_ast (show pAt 131 26 = some (26, .iastore, 1, []) from by decide +kernel) (show HS h5 from hs_h5) (by decide) c9 ?_
      refine e_aload_n (show pAt 131 27 = some (27, .aload_n 0, 1, []) from by decide +kernel) rfl (ra (by decide)) ?_
      refine e_bipush (c := 32) (show pAt 131 28 = some (28, .bipush 32, 2, []) from by decide +kernel) (by decide) ?_
      refine Ends.call (show pAt 131 30 = some (30, .invokevirtual 218, 3, [120, 2, 0, 0, 5129, 5131, 61]) from by decide +kernel) (isRet_none rfl) rfl (call_this (show HS (hpI h5 103 c.toNatClampNeg (h5.2.1 93 13)) from hs_h5) rfl rfl (by decide)) (Ends.mono vc ?_)
      rintro _ h10 ⟨r11, rfl, hs_h10, vc⟩
      refine e_if (t := 48) (show pAt 131 33 = some (33, .ifCond .eq 15, 3, []) from by decide +kernel) rfl (fun c13 => ?_) (fun c13 => ?_)
      · replace vc := vc.1 c13
        refine e_iconst (c := 0) (show pAt 131 48 = some (48, .iconst 0, 1, []) from by decide +kernel) (by decide) ?_
        exact e_retZ (show pAt 131 49 = some (49, .ireturn, 1, []) from by decide +kernel) rfl (by decide) vc
      · replace vc := vc.2 c13
        refine e_aload_n (show pAt 131 36 = some (36, .aload_n 0, 1, []) from by decide +kernel) rfl (ra (by decide)) ?_
        refine e_iload_n (show pAt 131 37 = some (37, .iload_n 1, 1, []) from by decide +kernel) rfl ?_
        refine Ends.call (show pAt 131 38 = some (38, .invokevirtual 252, 3, [129, 2, 0, 0, 5141, 5143, 64]) from by decide +kernel) (isRet_none rfl) rfl (call_this (show HS h10 from hs_h10) rfl rfl (by decide)) (Ends.mono vc ?_)
        rintro _ h14 ⟨r15, rfl, hs_h14, vc⟩
        refine e_if (t := 48) (show pAt 131 41 = some (41, .ifCond .eq 7, 3, []) from by decide +kernel) rfl (fun c17 => ?_) (fun c17 => ?_)
        · replace vc := vc.1 c17
          refine e_iconst (c := 0) (show pAt 131 48 = some (48, .iconst 0, 1, []) from by decide +kernel) (by decide) ?_
          exact e_retZ (show pAt 131 49 = some (49, .ireturn, 1, []) from by decide +kernel) rfl (by decide) vc
        · replace vc := vc.2 c17
          refine e_iconst (c := 1) (show pAt 131 44 = some (44, .iconst 1, 1, []) from by decide +kernel) (by decide) ?_
          refine e_goto (t := 49) (show pAt 131 45 = some (45, .goto 4, 3, []) from by decide +kernel) rfl ?_
          exact e_retZ (show pAt 131 49 = some (49, .ireturn, 1, []) from by decide +kernel) rfl (by decide) vc
    · replace vc := vc.2 c8
      refine e_iconst (c := 0) (show pAt 131 15 = some (15, .iconst 0, 1, []) from by decide +kernel) (by decide) ?_
      exact e_retZ (show pAt 131 16 = some (16, .ireturn, 1, []) from by decide +kernel) rfl (by decide) vc

theorem w_gt0 {X : Scr} {dp : Nat} {h : Hp} {Q : Option Value → Hp → Prop} (f : Int32) (hs : HS h)
    (vc : Ends X dp 132 15 [.ref 93, .int f, .int 0] [] (hpI (hpI h 93 12 0) 93 22 (100 * f)) Q) :
    Ends X dp 132 0 [.ref 93, .int f, .retAddr 0] [] h Q := by
  have ra : ∀ {a : Nat}, a < 1000 → a ≤ OLDB := fun h => by have := OLDB_eq; omega
  refine e_aload_n (show pAt 132 0 = some (0, .aload_n 0, 1, []) from by decide +kernel) rfl (ra (by decide)) ?_
  refine e_iconst (c := 0) (show pAt 132 1 = some (1, .iconst 0, 1, []) from by decide +kernel) (by decide) ?_
  refine e_pI (show pAt 132 2 = some (2, .putfield 47, 3, [7, 12, 0, 4135]) from by decide +kernel) (show HS h from hs) (by decide) (Or.inl rfl) ?_
  refine e_aload_n (show pAt 132 5 = some (5, .aload_n 0, 1, []) from by decide +kernel) rfl (ra (by decide)) ?_
  refine e_bipush (c := 100) (show pAt 132 6 = some (6, .bipush 100, 2, []) from by decide +kernel) (by decide) ?_
  refine e_iload_n (show pAt 132 8 = some (8, .iload_n 1, 1, []) from by decide +kernel) rfl ?_
  refine e_imul (show pAt 132 9 = some (9, .imul, 1, []) from by decide +kernel) ?_
  refine e_pI (show pAt 132 10 = some (10, .putfield 77, 3, [7, 22, 0, 4145]) from by decide +kernel) (show HS (hpI h 93 12 0) from hs) (by decide) (Or.inl rfl) ?_
  refine e_iconst (c := 0) (show pAt 132 13 = some (13, .iconst 0, 1, []) from by decide +kernel) (by decide) ?_
  refine e_istore_n (show pAt 132 14 = some (14, .istore_n 2, 1, []) from by decide +kernel) ⟨Nat.le_of_ble_eq_true rfl, rfl⟩ rfl ?_
  exact vc

theorem w_gt1 {X : Scr} {dp : Nat} {h : Hp} {Q : Option Value → Hp → Prop} (f : Int32) (n : Int32) (hs : HS h)
    (vc : Ends X dp 131 0 [.ref 93, .int ((10 * f) + n)] [] h (fun rv h1 => ∃ r2, rv = some (.int r2) ∧ HS h1 ∧ ((condB .ne r2 0 = true → (inB f 6 = true ∧ ((condB .ne ((hpI h1 101 f.toNatClampNeg (n + 1)).2.1 93 12) ((hpI h1 101 f.toNatClampNeg (n + 1)).2.1 93 11) = true → ((condB .eq (n + 1) 10 = true → Q (some (.int 0)) (hpI h1 101 f.toNatClampNeg (n + 1))) ∧ (condB .eq (n + 1) 10 = false → Ends X dp 120 0 [.ref 93, .int 59] [] (hpI h1 101 f.toNatClampNeg (n + 1)) (fun rv h8 => ∃ r9, rv = some (.int r9) ∧ HS h8 ∧ ((condB .ne r9 0 = true → Ends X (dp + 1) 132 15 [.ref 93, .int f, .int (n + 1)] [] h8 Q) ∧ (condB .ne r9 0 = false → Q (some (.int 0)) h8)))))) ∧ (condB .ne ((hpI h1 101 f.toNatClampNeg (n + 1)).2.1 93 12) ((hpI h1 101 f.toNatClampNeg (n + 1)).2.1 93 11) = false → Q (some (.int 1)) (hpI h1 101 f.toNatClampNeg (n + 1)))))) ∧ (condB .ne r2 0 = false → Q (some (.int 0)) h1)))) :
    Ends X (dp + 1) 132 15 [.ref 93, .int f, .int n] [] h Q := by
  have ra : ∀ {a : Nat}, a < 1000 → a ≤ OLDB := fun h => by have := OLDB_eq; omega
  refine e_aload_n (show pAt 132 15 = some (15, .aload_n 0, 1, []) from by decide +kernel) rfl (ra (by decide)) ?_
  refine e_bipush (c := 10) (show pAt 132 16 = some (16, .bipush 10, 2, []) from by decide +kernel) (by decide) ?_
  refine e_iload_n (show pAt 132 18 = some (18, .iload_n 1, 1, []) from by decide +kernel) rfl ?_
  refine e_imul (show pAt 132 19 = some (19, .imul, 1, []) from by decide +kernel) ?_
  refine e_iload_n (show pAt 132 20 = some (20, .iload_n 2, 1, []) from by decide +kernel) rfl ?_
  refine e_iadd (show pAt 132 21 = some (21, .iadd, 1, []) from by decide +kernel) ?_
  refine Ends.call (show pAt 132 22 = some (22, .invokevirtual 255, 3, [131, 2, 0, 0, 5113, 5115, 57]) from by decide +kernel) (isRet_none rfl) rfl (call_this (show HS h from hs) rfl rfl (by decide)) (Ends.mono vc ?_)
  rintro _ h1 ⟨r2, rfl, hs_h1, vc⟩
  refine e_if (t := 30) (show pAt 132 25 = some (25, .ifCond .ne 5, 3, []) from by decide +kernel) rfl (fun c4 => ?_) (fun c4 => ?_)
  · replace vc := vc.1 c4
    refine e_iinc (c := 1) (show pAt 132 30 = some (30, .iinc 2 1, 3, []) from by decide +kernel) rfl rfl (by decide) rfl ?_
    refine e_aload_n (show pAt 132 33 = some (33, .aload_n 0, 1, []) from by decide +kernel) rfl (ra (by decide)) ?_
    refine e_gR (show pAt 132 34 = some (34, .getfield 56, 3, [7, 15, 0, 4138]) from by decide +kernel) (show HS h1 from hs_h1) rfl (by decide) (hs_ref (show HS h1 from hs_h1) rfl) ?_
    refine e_iload_n (show pAt 132 37 = some (37, .iload_n 1, 1, []) from by decide +kernel) rfl ?_
    refine e_iload_n (show pAt 132 38 = some (38, .iload_n 2, 1, []) from by decide +kernel) rfl ?_
    obtain ⟨c5, vc⟩ := vc
    refine e_ast (show pAt 132 39 = some (39, .iastore, 1, []) from by decide +kernel) (show HS h1 from hs_h1) (by decide) c5 ?_
    refine e_aload_n (show pAt 132 40 = some (40, .aload_n 0, 1, []) from by decide +kernel) rfl (ra (by decide)) ?_
    refine e_gI (show pAt 132 41 = some (41, .getfield 47, 3, [7, 12, 0, 4135]) from by decide +kernel) (show HS (hpI h1 101 f.toNatClampNeg (n + 1)) from hs_h1) rfl (by decide) ?_
    refine e_aload_n (show pAt 132 44 = some (44, .aload_n 0, 1, []) from by decide +kernel) rfl (ra (by decide)) ?_
    refine e_gI (show pAt 132 45 = some (45, .getfield 44, 3, [7, 11, 0, 4134]) from by decide +kernel) (show HS (hpI h1 101 f.toNatClampNeg (n + 1)) from hs_h1) rfl (by decide) ?_
    refine e_icmp (t := 53) (show pAt 132 48 = some (48, .if_icmp .ne 5, 3, []) from by decide +kernel) rfl (fun c6 => ?_) (fun c6 => ?_)
    · replace vc := vc.1 c6
      refine e_iload_n (show pAt 132 53 = some (53, .iload_n 2, 1, []) from by decide +kernel) rfl ?_
      refine e_bipush (c := 10) (show pAt 132 54 = some (54, .bipush 10, 2, []) from by decide +kernel) (by decide) ?_
      refine e_icmp (t := 68) (show pAt 132 56 = some (56, .if_icmp .eq 12, 3, []) from by decide +kernel) rfl (fun c7 => ?_) (fun c7 => ?_)
      · replace vc := vc.1 c7
        refine e_iconst (c := 0) (show pAt 132 68 = some (68, .iconst 0, 1, []) from by decide +kernel) (by decide) ?_
        exact e_retZ (show pAt 132 69 = some (69, .ireturn, 1, []) from by decide +kernel) rfl (by decide) vc
      · replace vc := vc.2 c7
        refine e_aload_n (show pAt 132 59 = some (59, .aload_n 0, 1, []) from by decide +kernel) rfl (ra (by decide)) ?_
        refine e_bipush (c := 59) (show pAt 132 60 = some (60, .bipush 59, 2, []) from by decide +kernel) (by decide) ?_
        refine Ends.call (show pAt 132 62 = some (62, .invokevirtual 218, 3, [120, 2, 0, 0, 5129, 5131, 61]) from by decide +kernel) (isRet_none rfl) rfl (call_this (show HS (hpI h1 101 f.toNatClampNeg (n + 1)) from hs_h1) rfl rfl (by decide)) (Ends.mono vc ?_)
        rintro _ h8 ⟨r9, rfl, hs_h8, vc⟩
        refine e_if (t := 15) (show pAt 132 65 = some (65, .ifCond .ne (-50), 3, []) from by decide +kernel) rfl (fun c11 => ?_) (fun c11 => ?_)
        · replace vc := vc.1 c11
          exact vc
        · replace vc := vc.2 c11
          refine e_iconst (c := 0) (show pAt 132 68 = some (68, .iconst 0, 1, []) from by decide +kernel) (by decide) ?_
          exact e_retZ (show pAt 132 69 = some (69, .ireturn, 1, []) from by decide +kernel) rfl (by decide) vc
    · replace vc := vc.2 c6
      refine e_iconst (c := 1) (show pAt 132 51 = some (51, .iconst 1, 1, []) from by decide +kernel) (by decide) ?_
      exact e_retZ (show pAt 132 52 = some (52, .ireturn, 1, []) from by decide +kernel) rfl (by decide) vc
  · replace vc := vc.2 c4
    refine e_iconst (c := 0) (show pAt 132 28 = some (28, .iconst 0, 1, []) from by decide +kernel) (by decide) ?_
    exact e_retZ (show pAt 132 29 = some (29, .ireturn, 1, []) from by decide +kernel) rfl (by decide) vc

theorem w_yard {X : Scr} {dp : Nat} {h : Hp} {Q : Option Value → Hp → Prop}  (hs : HS h)
    (vc : ((condB .ne (h.2.1 93 9) 6 = true → Ends X dp 132 0 [.ref 93, .int (h.2.1 93 9), .retAddr 0] [] h (fun rv h2 => ∃ r3, rv = some (.int r3) ∧ HS h2 ∧ ((condB .ne r3 0 = true → Q (some (.int ((hpI (hpI (hpI h2 93 11 0) 93 10 ((hpI h2 93 11 0).2.1 93 9)) 93 9 (((hpI (hpI h2 93 11 0) 93 10 ((hpI h2 93 11 0).2.1 93 9)).2.1 93 9) + 1)).2.1 93 10))) (hpI (hpI (hpI h2 93 11 0) 93 10 ((hpI h2 93 11 0).2.1 93 9)) 93 9 (((hpI (hpI h2 93 11 0) 93 10 ((hpI h2 93 11 0).2.1 93 9)).2.1 93 9) + 1))) ∧ (condB .ne r3 0 = false → Q (some (.int ((-10) - ((hpI h2 93 11 0).2.1 93 12)))) (hpI h2 93 11 0))))) ∧ (condB .ne (h.2.1 93 9) 6 = false → Q (some (.int (-4))) h))) :
    Ends X (dp + 1) 133 0 [.ref 93, .retAddr 0] [] h Q := by
  have ra : ∀ {a : Nat}, a < 1000 → a ≤ OLDB := fun h => by have := OLDB_eq; omega
  refine e_aload_n (show pAt 133 0 = some (0, .aload_n 0, 1, []) from by decide +kernel) rfl (ra (by decide)) ?_
  refine e_gI (show pAt 133 1 = some (1, .getfield 38, 3, [7, 9, 0, 4132]) from by decide +kernel) (show HS h from hs) rfl (by decide) ?_
  refine e_bipush (c := 6) (show pAt 133 4 = some (4, .bipush 6, 2, []) from by decide +kernel) (by decide) ?_
  refine e_icmp (t := 12) (show pAt 133 6 = some (6, .if_icmp .ne 6, 3, []) from by decide +kernel) rfl (fun c1 => ?_) (fun c1 => ?_)
  · replace vc := vc.1 c1
    refine e_aload_n (show pAt 133 12 = some (12, .aload_n 0, 1, []) from by decide +kernel) rfl (ra (by decide)) ?_
    refine e_aload_n (show pAt 133 13 = some (13, .aload_n 0, 1, []) from by decide +kernel) rfl (ra (by decide)) ?_
    refine e_gI (show pAt 133 14 = some (14, .getfield 38, 3, [7, 9, 0, 4132]) from by decide +kernel) (show HS h from hs) rfl (by decide) ?_
    refine Ends.call (show pAt 133 17 = some (17, .invokevirtual 258, 3, [132, 2, 0, 0, 5109, 5111, 56]) from by decide +kernel) (isRet_none rfl) rfl (call_this (show HS h from hs) rfl rfl (by decide)) (Ends.mono vc ?_)
    rintro _ h2 ⟨r3, rfl, hs_h2, vc⟩
    refine e_istore_n (show pAt 133 20 = some (20, .istore_n 1, 1, []) from by decide +kernel) ⟨Nat.le_of_ble_eq_true rfl, rfl⟩ rfl ?_
    refine e_aload_n (show pAt 133 21 = some (21, .aload_n 0, 1, []) from by decide +kernel) rfl (ra (by decide)) ?_
    refine e_iconst (c := 0) (show pAt 133 22 = some (22, .iconst 0, 1, []) from by decide +kernel) (by decide) ?_
    refine e_pI (show pAt 133 23 = some (23, .putfield 44, 3, [7, 11, 0, 4134]) from by decide +kernel) (show HS h2 from hs_h2) (by decide) (Or.inl rfl) ?_
    refine e_iload_n (show pAt 133 26 = some (26, .iload_n 1, 1, []) from by decide +kernel) rfl ?_
    refine e_if (t := 38) (show pAt 133 27 = some (27, .ifCond .ne 11, 3, []) from by decide +kernel) rfl (fun c5 => ?_) (fun c5 => ?_)
    · replace vc := vc.1 c5
      refine e_aload_n (show pAt 133 38 = some (38, .aload_n 0, 1, []) from by decide +kernel) rfl (ra (by decide)) ?_
      refine e_aload_n (show pAt 133 39 = some (39, .aload_n 0, 1, []) from by decide +kernel) rfl (ra (by decide)) ?_
      refine e_gI (show pAt 133 40 = some (40, .getfield 38, 3, [7, 9, 0, 4132]) from by decide +kernel) (show HS (hpI h2 93 11 0) from hs_h2) rfl (by decide) ?_
      refine e_pI (show pAt 133 43 = some (43, .putfield 41, 3, [7, 10, 0, 4133]) from by decide +kernel) (show HS (hpI h2 93 11 0) from hs_h2) (by decide) (Or.inl rfl) ?_
      refine e_aload_n (show pAt 133 46 = some (46, .aload_n 0, 1, []) from by decide +kernel) rfl (ra (by decide)) ?_
      refine e_dupR (show pAt 133 47 = some (47, .dup, 1, []) from by decide +kernel) ?_
      refine e_gI (show pAt 133 48 = some (48, .getfield 38, 3, [7, 9, 0, 4132]) from by decide +kernel) (show HS (hpI (hpI h2 93 11 0) 93 10 ((hpI h2 93 11 0).2.1 93 9)) from hs_h2) rfl (by decide) ?_
      refine e_iconst (c := 1) (show pAt 133 51 = some (51, .iconst 1, 1, []) from by decide +kernel) (by decide) ?_
      refine e_iadd (show pAt 133 52 = some (52, .iadd, 1, []) from by decide +kernel) ?_
      refine e_pI (show pAt 133 53 = some (53, .putfield 38, 3, [7, 9, 0, 4132]) from by decide +kernel) (show HS (hpI (hpI h2 93 11 0) 93 10 ((hpI h2 93 11 0).2.1 93 9)) from hs_h2) (by decide) (Or.inl rfl) ?_
      refine e_aload_n (show pAt 133 56 = some (56, .aload_n 0, 1, []) from by decide +kernel) rfl (ra (by decide)) ?_
      refine e_gI (show pAt 133 57 = some (57, .getfield 41, 3, [7, 10, 0, 4133]) from by decide +kernel) (show HS (hpI (hpI (hpI h2 93 11 0) 93 10 ((hpI h2 93 11 0).2.1 93 9)) 93 9 (((hpI (hpI h2 93 11 0) 93 10 ((hpI h2 93 11 0).2.1 93 9)).2.1 93 9) + 1)) from hs_h2) rfl (by decide) ?_
      exact e_retI (show pAt 133 60 = some (60, .ireturn, 1, []) from by decide +kernel) rfl vc
    · replace vc := vc.2 c5
      refine e_bipush (c := (-10)) (show pAt 133 30 = some (30, .bipush (-10), 2, []) from by decide +kernel) (by decide) ?_
      refine e_aload_n (show pAt 133 32 = some (32, .aload_n 0, 1, []) from by decide +kernel) rfl (ra (by decide)) ?_
      refine e_gI (show pAt 133 33 = some (33, .getfield 47, 3, [7, 12, 0, 4135]) from by decide +kernel) (show HS (hpI h2 93 11 0) from hs_h2) rfl (by decide) ?_
      refine e_isub (show pAt 133 36 = some (36, .isub, 1, []) from by decide +kernel) ?_
      exact e_retI (show pAt 133 37 = some (37, .ireturn, 1, []) from by decide +kernel) rfl vc
  · replace vc := vc.2 c1
    refine e_bipush (c := (-4)) (show pAt 133 9 = some (9, .bipush (-4), 2, []) from by decide +kernel) (by decide) ?_
    exact e_retI (show pAt 133 11 = some (11, .ireturn, 1, []) from by decide +kernel) rfl vc
