section JN78parse
/-! The reading of the texts of the reference: what is owed for it. -/
theorem w_next {X : Scr} {dp : Nat} {h : Hp} {Q : Option Value → Hp → Prop}  (hs : HS h)
    (vc : ((condB .ge (h.2.1 93 12) (h.2.1 93 11) = true → Q (some (.int (-1))) h) ∧ (condB .ge (h.2.1 93 12) (h.2.1 93 11) = false → (inB (h.2.1 93 12) 100 = true ∧ Q (some (.int (h.2.1 100 (h.2.1 93 12).toNatClampNeg))) h)))) :
    Ends X dp 119 0 [.ref 93] [] h Q := by
  have ra : ∀ {a : Nat}, a < 1000 → a ≤ OLDB := fun h => by have := OLDB_eq; omega
  refine e_aload_n (show pAt 119 0 = some (0, .aload_n 0, 1, []) from by decide +kernel) rfl (ra (by decide)) ?_
  refine e_gI (show pAt 119 1 = some (1, .getfield 47, 3, [7, 12, 0, 4135]) from by decide +kernel) (show HS h from hs) rfl (by decide) ?_
  refine e_aload_n (show pAt 119 4 = some (4, .aload_n 0, 1, []) from by decide +kernel) rfl (ra (by decide)) ?_
  refine e_gI (show pAt 119 5 = some (5, .getfield 44, 3, [7, 11, 0, 4134]) from by decide +kernel) (show HS h from hs) rfl (by decide) ?_
  refine e_icmp (t := 23) (show pAt 119 8 = some (8, .if_icmp .ge 15, 3, []) from by decide +kernel) rfl (fun c1 => ?_) (fun c1 => ?_)
  · replace vc := vc.1 c1
    refine e_iconst (c := (-1)) (show pAt 119 23 = some (23, .iconst (-1), 1, []) from by decide +kernel) (by decide) ?_
    exact e_retI (show pAt 119 24 = some (24, .ireturn, 1, []) from by decide +kernel) rfl vc
  · replace vc := vc.2 c1
    refine e_aload_n (show pAt 119 11 = some (11, .aload_n 0, 1, []) from by decide +kernel) rfl (ra (by decide)) ?_
    refine e_gR (show pAt 119 12 = some (12, .getfield 53, 3, [7, 14, 0, 4137]) from by decide +kernel) (show HS h from hs) rfl (by decide) (hs_ref (show HS h from hs) rfl) ?_
    refine e_aload_n (show pAt 119 15 = some (15, .aload_n 0, 1, []) from by decide +kernel) rfl (ra (by decide)) ?_
    refine e_gI (show pAt 119 16 = some (16, .getfield 47, 3, [7, 12, 0, 4135]) from by decide +kernel) (show HS h from hs) rfl (by decide) ?_
    obtain ⟨c2, vc⟩ := vc
    refine e_ald (show pAt 119 19 = some (19, .iaload, 1, []) from by decide +kernel) (show HS h from hs) (by decide) c2 ?_
    refine e_goto (t := 24) (show pAt 119 20 = some (20, .goto 4, 3, []) from by decide +kernel) rfl ?_
    exact e_retI (show pAt 119 24 = some (24, .ireturn, 1, []) from by decide +kernel) rfl vc

theorem w_takes {X : Scr} {dp : Nat} {h : Hp} {Q : Option Value → Hp → Prop} (c : Int32) (hs : HS h)
    (vc : Ends X dp 119 0 [.ref 93] [] h (fun rv h1 => ∃ r2, rv = some (.int r2) ∧ HS h1 ∧ ((condB .eq r2 c = true → Q (some (.int 1)) (hpI h1 93 12 ((h1.2.1 93 12) + 1))) ∧ (condB .eq r2 c = false → Q (some (.int 0)) h1)))) :
    Ends X (dp + 1) 120 0 [.ref 93, .int c] [] h Q := by
  have ra : ∀ {a : Nat}, a < 1000 → a ≤ OLDB := fun h => by have := OLDB_eq; omega
  refine e_aload_n (show pAt 120 0 = some (0, .aload_n 0, 1, []) from by decide +kernel) rfl (ra (by decide)) ?_
  refine Ends.call (show pAt 120 1 = some (1, .invokevirtual 214, 3, [119, 1, 0, 0, 5121, 5123, 59]) from by decide +kernel) (isRet_none rfl) rfl (call_this (show HS h from hs) rfl rfl (by decide)) (Ends.mono vc ?_)
  rintro _ h1 ⟨r2, rfl, hs_h1, vc⟩
  refine e_iload_n (show pAt 120 4 = some (4, .iload_n 1, 1, []) from by decide +kernel) rfl ?_
  refine e_icmp (t := 10) (show pAt 120 5 = some (5, .if_icmp .eq 5, 3, []) from by decide +kernel) rfl (fun c4 => ?_) (fun c4 => ?_)
  · replace vc := vc.1 c4
    refine e_aload_n (show pAt 120 10 = some (10, .aload_n 0, 1, []) from by decide +kernel) rfl (ra (by decide)) ?_
    refine e_dupR (show pAt 120 11 = some (11, .dup, 1, []) from by decide +kernel) ?_
    refine e_gI (show pAt 120 12 = some (12, .getfield 47, 3, [7, 12, 0, 4135]) from by decide +kernel) (show HS h1 from hs_h1) rfl (by decide) ?_
    refine e_iconst (c := 1) (show pAt 120 15 = some (15, .iconst 1, 1, []) from by decide +kernel) (by decide) ?_
    refine e_iadd (show pAt 120 16 = some (16, .iadd, 1, []) from by decide +kernel) ?_
    refine e_pI (show pAt 120 17 = some (17, .putfield 47, 3, [7, 12, 0, 4135]) from by decide +kernel) (show HS h1 from hs_h1) (by decide) (Or.inl rfl) ?_
    refine e_iconst (c := 1) (show pAt 120 20 = some (20, .iconst 1, 1, []) from by decide +kernel) (by decide) ?_
    exact e_retZ (show pAt 120 21 = some (21, .ireturn, 1, []) from by decide +kernel) rfl (by decide) vc
  · replace vc := vc.2 c4
    refine e_iconst (c := 0) (show pAt 120 8 = some (8, .iconst 0, 1, []) from by decide +kernel) (by decide) ?_
    exact e_retZ (show pAt 120 9 = some (9, .ireturn, 1, []) from by decide +kernel) rfl (by decide) vc

theorem w_tw0 {X : Scr} {dp : Nat} {h : Hp} {Q : Option Value → Hp → Prop} (a : Int32) (b : Int32) (hs : HS h)
    (vc : Ends X dp 121 2 [.ref 93, .int a, .int b, .int 0] [] h Q) :
    Ends X dp 121 0 [.ref 93, .int a, .int b, .retAddr 0] [] h Q := by
  have ra : ∀ {a : Nat}, a < 1000 → a ≤ OLDB := fun h => by have := OLDB_eq; omega
  refine e_iconst (c := 0) (show pAt 121 0 = some (0, .iconst 0, 1, []) from by decide +kernel) (by decide) ?_
  refine e_istore_n (show pAt 121 1 = some (1, .istore_n 3, 1, []) from by decide +kernel) ⟨Nat.le_of_ble_eq_true rfl, rfl⟩ rfl ?_
  exact vc

theorem w_tw1 {X : Scr} {dp : Nat} {h : Hp} {Q : Option Value → Hp → Prop} (a : Int32) (b : Int32) (k : Int32) (hs : HS h)
    (vc : ((condB .ge k b = true → Ends X dp 120 0 [.ref 93, .int 32] [] h (fun rv h2 => ∃ r3, rv = some (.int r3) ∧ HS h2 ∧ (r3 = 0 ∨ r3 = 1) ∧ Q (some (.int r3)) h2)) ∧ (condB .ge k b = false → (inB (a + k) 14 = true ∧ Ends X dp 120 0 [.ref 93, .int (h.2.1 108 (a + k).toNatClampNeg)] [] h (fun rv h6 => ∃ r7, rv = some (.int r7) ∧ HS h6 ∧ ((condB .ne r7 0 = true → Ends X (dp + 1) 121 2 [.ref 93, .int a, .int b, .int (k + 1)] [] h6 Q) ∧ (condB .ne r7 0 = false → Q (some (.int 0)) h6))))))) :
    Ends X (dp + 1) 121 2 [.ref 93, .int a, .int b, .int k] [] h Q := by
  have ra : ∀ {a : Nat}, a < 1000 → a ≤ OLDB := fun h => by have := OLDB_eq; omega
  refine e_iload_n (show pAt 121 2 = some (2, .iload_n 3, 1, []) from by decide +kernel) rfl ?_
  refine e_iload_n (show pAt 121 3 = some (3, .iload_n 2, 1, []) from by decide +kernel) rfl ?_
  refine e_icmp (t := 30) (show pAt 121 4 = some (4, .if_icmp .ge 26, 3, []) from by decide +kernel) rfl (fun c1 => ?_) (fun c1 => ?_)
  · replace vc := vc.1 c1
    refine e_aload_n (show pAt 121 30 = some (30, .aload_n 0, 1, []) from by decide +kernel) rfl (ra (by decide)) ?_
    refine e_bipush (c := 32) (show pAt 121 31 = some (31, .bipush 32, 2, []) from by decide +kernel) (by decide) ?_
    refine Ends.call (show pAt 121 33 = some (33, .invokevirtual 218, 3, [120, 2, 0, 0, 5129, 5131, 61]) from by decide +kernel) (isRet_none rfl) rfl (call_this (show HS h from hs) rfl rfl (by decide)) (Ends.mono vc ?_)
    rintro _ h2 ⟨r3, rfl, hs_h2, vc⟩
    exact e_retZ (show pAt 121 36 = some (36, .ireturn, 1, []) from by decide +kernel) rfl vc.1 vc.2
  · replace vc := vc.2 c1
    refine e_aload_n (show pAt 121 7 = some (7, .aload_n 0, 1, []) from by decide +kernel) rfl (ra (by decide)) ?_
    refine e_aload_n (show pAt 121 8 = some (8, .aload_n 0, 1, []) from by decide +kernel) rfl (ra (by decide)) ?_
    refine e_gR (show pAt 121 9 = some (9, .getfield 86, 3, [7, 25, 0, 4148]) from by decide +kernel) (show HS h from hs) rfl (by decide) (hs_ref (show HS h from hs) rfl) ?_
    refine e_iload_n (show pAt 121 12 = some (12, .iload_n 1, 1, []) from by decide +kernel) rfl ?_
    refine e_iload_n (show pAt 121 13 = some (13, .iload_n 3, 1, []) from by decide +kernel) rfl ?_
    refine e_iadd (show pAt 121 14 = some (14, .iadd, 1, []) from by decide +kernel) ?_
    obtain ⟨c5, vc⟩ := vc
    refine e_ald (show pAt 121 15 = some (15, .iaload, 1, []) from by decide +kernel) (show HS h from hs) (by decide) c5 ?_
    refine Ends.call (show pAt 121 16 = some (16, .invokevirtual 218, 3, [120, 2, 0, 0, 5129, 5131, 61]) from by decide +kernel) (isRet_none rfl) rfl (call_this (show HS h from hs) rfl rfl (by decide)) (Ends.mono vc ?_)
    rintro _ h6 ⟨r7, rfl, hs_h6, vc⟩
    refine e_if (t := 24) (show pAt 121 19 = some (19, .ifCond .ne 5, 3, []) from by decide +kernel) rfl (fun c9 => ?_) (fun c9 => ?_)
    · replace vc := vc.1 c9
      refine e_iinc (c := 1) (show pAt 121 24 = some (24, .iinc 3 1, 3, []) from by decide +kernel) rfl rfl (by decide) rfl ?_
      refine e_goto (t := 2) (show pAt 121 27 = some (27, .goto (-25), 3, []) from by decide +kernel) rfl ?_
      exact vc
    · replace vc := vc.2 c9
      refine e_iconst (c := 0) (show pAt 121 22 = some (22, .iconst 0, 1, []) from by decide +kernel) (by decide) ?_
      exact e_retZ (show pAt 121 23 = some (23, .ireturn, 1, []) from by decide +kernel) rfl (by decide) vc

theorem w_isdig {X : Scr} {dp : Nat} {h : Hp} {Q : Option Value → Hp → Prop}  (hs : HS h)
    (vc : Ends X dp 119 0 [.ref 93] [] h (fun rv h1 => ∃ r2, rv = some (.int r2) ∧ HS h1 ∧ Ends X dp 109 0 [.ref 93, .int r2, .int 48, .int 57] [] h1 (fun rv h4 => ∃ r5, rv = some (.int r5) ∧ HS h4 ∧ (r5 = 0 ∨ r5 = 1) ∧ Q (some (.int r5)) h4))) :
    Ends X (dp + 1) 122 0 [.ref 93] [] h Q := by
  have ra : ∀ {a : Nat}, a < 1000 → a ≤ OLDB := fun h => by have := OLDB_eq; omega
  refine e_aload_n (show pAt 122 0 = some (0, .aload_n 0, 1, []) from by decide +kernel) rfl (ra (by decide)) ?_
  refine e_aload_n (show pAt 122 1 = some (1, .aload_n 0, 1, []) from by decide +kernel) rfl (ra (by decide)) ?_
  refine Ends.call (show pAt 122 2 = some (2, .invokevirtual 214, 3, [119, 1, 0, 0, 5121, 5123, 59]) from by decide +kernel) (isRet_none rfl) rfl (call_this (show HS h from hs) rfl rfl (by decide)) (Ends.mono vc ?_)
  rintro _ h1 ⟨r2, rfl, hs_h1, vc⟩
  refine e_bipush (c := 48) (show pAt 122 5 = some (5, .bipush 48, 2, []) from by decide +kernel) (by decide) ?_
  refine e_bipush (c := 57) (show pAt 122 7 = some (7, .bipush 57, 2, []) from by decide +kernel) (by decide) ?_
  refine Ends.call (show pAt 122 9 = some (9, .invokevirtual 206, 3, [109, 4, 0, 0, 5081, 5083, 54]) from by decide +kernel) (isRet_none rfl) rfl (call_this (show HS h1 from hs_h1) rfl rfl (by decide)) (Ends.mono vc ?_)
  rintro _ h4 ⟨r5, rfl, hs_h4, vc⟩
  exact e_retZ (show pAt 122 12 = some (12, .ireturn, 1, []) from by decide +kernel) rfl vc.1 vc.2

theorem w_tn0 {X : Scr} {dp : Nat} {h : Hp} {Q : Option Value → Hp → Prop}  (hs : HS h)
    (vc : Ends X dp 122 0 [.ref 93] [] h (fun rv h1 => ∃ r2, rv = some (.int r2) ∧ HS h1 ∧ ((condB .ne r2 0 = true → Ends X (dp + 1) 123 16 [.ref 93, .int 0] [] (hpI h1 93 13 0) Q) ∧ (condB .ne r2 0 = false → Q (some (.int 0)) h1)))) :
    Ends X (dp + 1) 123 0 [.ref 93, .retAddr 0] [] h Q := by
  have ra : ∀ {a : Nat}, a < 1000 → a ≤ OLDB := fun h => by have := OLDB_eq; omega
  refine e_aload_n (show pAt 123 0 = some (0, .aload_n 0, 1, []) from by decide +kernel) rfl (ra (by decide)) ?_
  refine Ends.call (show pAt 123 1 = some (1, .invokevirtual 221, 3, [122, 1, 0, 0, 5137, 5139, 63]) from by decide +kernel) (isRet_none rfl) rfl (call_this (show HS h from hs) rfl rfl (by decide)) (Ends.mono vc ?_)
  rintro _ h1 ⟨r2, rfl, hs_h1, vc⟩
  refine e_if (t := 9) (show pAt 123 4 = some (4, .ifCond .ne 5, 3, []) from by decide +kernel) rfl (fun c4 => ?_) (fun c4 => ?_)
  · replace vc := vc.1 c4
    refine e_aload_n (show pAt 123 9 = some (9, .aload_n 0, 1, []) from by decide +kernel) rfl (ra (by decide)) ?_
    refine e_iconst (c := 0) (show pAt 123 10 = some (10, .iconst 0, 1, []) from by decide +kernel) (by decide) ?_
    refine e_pI (show pAt 123 11 = some (11, .putfield 50, 3, [7, 13, 0, 4136]) from by decide +kernel) (show HS h1 from hs_h1) (by decide) (Or.inl rfl) ?_
    refine e_iconst (c := 0) (show pAt 123 14 = some (14, .iconst 0, 1, []) from by decide +kernel) (by decide) ?_
    refine e_istore_n (show pAt 123 15 = some (15, .istore_n 1, 1, []) from by decide +kernel) ⟨Nat.le_of_ble_eq_true rfl, rfl⟩ rfl ?_
    exact vc
  · replace vc := vc.2 c4
    refine e_iconst (c := 0) (show pAt 123 7 = some (7, .iconst 0, 1, []) from by decide +kernel) (by decide) ?_
    exact e_retZ (show pAt 123 8 = some (8, .ireturn, 1, []) from by decide +kernel) rfl (by decide) vc

theorem w_tn1 {X : Scr} {dp : Nat} {h : Hp} {Q : Option Value → Hp → Prop} (k : Int32) (hs : HS h)
    (vc : ((condB .ge k 2 = true → Q (some (.int 1)) h) ∧ (condB .ge k 2 = false → Ends X dp 122 0 [.ref 93] [] h (fun rv h2 => ∃ r3, rv = some (.int r3) ∧ HS h2 ∧ ((condB .eq r3 0 = true → Q (some (.int 1)) h2) ∧ (condB .eq r3 0 = false → Ends X dp 119 0 [.ref 93] [] h2 (fun rv h6 => ∃ r7, rv = some (.int r7) ∧ HS h6 ∧ Ends X (dp + 1) 123 16 [.ref 93, .int (k + 1)] [] (hpI (hpI h6 93 13 (((10 * (h2.2.1 93 13)) + r7) - 48)) 93 12 (((hpI h6 93 13 (((10 * (h2.2.1 93 13)) + r7) - 48)).2.1 93 12) + 1)) Q))))))) :
    Ends X (dp + 1) 123 16 [.ref 93, .int k] [] h Q := by
  have ra : ∀ {a : Nat}, a < 1000 → a ≤ OLDB := fun h => by have := OLDB_eq; omega
  refine e_iload_n (show pAt 123 16 = some (16, .iload_n 1, 1, []) from by decide +kernel) rfl ?_
  refine e_iconst (c := 2) (show pAt 123 17 = some (17, .iconst 2, 1, []) from by decide +kernel) (by decide) ?_
  refine e_icmp (t := 63) (show pAt 123 18 = some (18, .if_icmp .ge 45, 3, []) from by decide +kernel) rfl (fun c1 => ?_) (fun c1 => ?_)
  · replace vc := vc.1 c1
    refine e_iconst (c := 1) (show pAt 123 63 = some (63, .iconst 1, 1, []) from by decide +kernel) (by decide) ?_
    exact e_retZ (show pAt 123 64 = some (64, .ireturn, 1, []) from by decide +kernel) rfl (by decide) vc
  · replace vc := vc.2 c1
    refine e_aload_n (show pAt 123 21 = some (21, .aload_n 0, 1, []) from by decide +kernel) rfl (ra (by decide)) ?_
    refine Ends.call (show pAt 123 22 = some (22, .invokevirtual 221, 3, [122, 1, 0, 0, 5137, 5139, 63]) from by decide +kernel) (isRet_none rfl) rfl (call_this (show HS h from hs) rfl rfl (by decide)) (Ends.mono vc ?_)
    rintro _ h2 ⟨r3, rfl, hs_h2, vc⟩
    refine e_if (t := 63) (show pAt 123 25 = some (25, .ifCond .eq 38, 3, []) from by decide +kernel) rfl (fun c5 => ?_) (fun c5 => ?_)
    · replace vc := vc.1 c5
      refine e_iconst (c := 1) (show pAt 123 63 = some (63, .iconst 1, 1, []) from by decide +kernel) (by decide) ?_
      exact e_retZ (show pAt 123 64 = some (64, .ireturn, 1, []) from by decide +kernel) rfl (by decide) vc
    · replace vc := vc.2 c5
      refine e_aload_n (show pAt 123 28 = some (28, .aload_n 0, 1, []) from by decide +kernel) rfl (ra (by decide)) ?_
      refine e_bipush (c := 10) (show pAt 123 29 = some (29, .bipush 10, 2, []) from by decide +kernel) (by decide) ?_
      refine e_aload_n (show pAt 123 31 = some (31, .aload_n 0, 1, []) from by decide +kernel) rfl (ra (by decide)) ?_
      refine e_gI (show pAt 123 32 = some (32, .getfield 50, 3, [7, 13, 0, 4136]) from by decide +kernel) (show HS h2 from hs_h2) rfl (by decide) ?_
      refine e_imul (show pAt 123 35 = some (35, .imul, 1, []) from by decide +kernel) ?_
      refine e_aload_n (show pAt 123 36 = some (36, .aload_n 0, 1, []) from by decide +kernel) rfl (ra (by decide)) ?_
      refine Ends.call (show pAt 123 37 = some (37, .invokevirtual 214, 3, [119, 1, 0, 0, 5121, 5123, 59]) from by decide +kernel) (isRet_none rfl) rfl (call_this (show HS h2 from hs_h2) rfl rfl (by decide)) (Ends.mono vc ?_)
      rintro _ h6 ⟨r7, rfl, hs_h6, vc⟩
      refine e_iadd (show pAt 123 40 = some (40, .iadd, 1, []) from by decide +kernel) ?_
      refine e_bipush (c := 48) (show pAt 123 41 = some (41, .bipush 48, 2, []) from by decide +kernel) (by decide) ?_
      refine e_isub (show pAt 123 43 = some (43, .isub, 1, []) from by decide +kernel) ?_
      refine e_pI (show pAt 123 44 = some (44, .putfield 50, 3, [7, 13, 0, 4136]) from by decide +kernel) (show HS h6 from hs_h6) (by decide) (Or.inl rfl) ?_
      refine e_aload_n (show pAt 123 47 = some (47, .aload_n 0, 1, []) from by decide +kernel) rfl (ra (by decide)) ?_
      refine e_dupR (show pAt 123 48 = some (48, .dup, 1, []) from by decide +kernel) ?_
      refine e_gI (show pAt 123 49 = some (49, .getfield 47, 3, [7, 12, 0, 4135]) from by decide +kernel) (show HS (hpI h6 93 13 (((10 * (h2.2.1 93 13)) + r7) - 48)) from hs_h6) rfl (by decide) ?_
      refine e_iconst (c := 1) (show pAt 123 52 = some (52, .iconst 1, 1, []) from by decide +kernel) (by decide) ?_
      refine e_iadd (show pAt 123 53 = some (53, .iadd, 1, []) from by decide +kernel) ?_
      refine e_pI (show pAt 123 54 = some (54, .putfield 47, 3, [7, 12, 0, 4135]) from by decide +kernel) (show HS (hpI h6 93 13 (((10 * (h2.2.1 93 13)) + r7) - 48)) from hs_h6) (by decide) (Or.inl rfl) ?_
      refine e_iinc (c := 1) (show pAt 123 57 = some (57, .iinc 1 1, 3, []) from by decide +kernel) rfl rfl (by decide) rfl ?_
      refine e_goto (t := 16) (show pAt 123 60 = some (60, .goto (-44), 3, []) from by decide +kernel) rfl ?_
      exact vc

theorem w_emit {X : Scr} {dp : Nat} {h : Hp} {Q : Option Value → Hp → Prop} (s : Int32) (hs : HS h)
    (vc : (inB (h.2.1 93 22) 600 = true ∧ Q none (hpI (hpI h 106 (h.2.1 93 22).toNatClampNeg s) 93 22 (((hpI h 106 (h.2.1 93 22).toNatClampNeg s).2.1 93 22) + 1)))) :
    Ends X dp 124 0 [.ref 93, .int s] [] h Q := by
  have ra : ∀ {a : Nat}, a < 1000 → a ≤ OLDB := fun h => by have := OLDB_eq; omega
  refine e_aload_n (show pAt 124 0 = some (0, .aload_n 0, 1, []) from by decide +kernel) rfl (ra (by decide)) ?_
  refine e_gR (show pAt 124 1 = some (1, .getfield 71, 3, [7, 20, 0, 4143]) from by decide +kernel) (show HS h from hs) rfl (by decide) (hs_ref (show HS h from hs) rfl) ?_
  refine e_aload_n (show pAt 124 4 = some (4, .aload_n 0, 1, []) from by decide +kernel) rfl (ra (by decide)) ?_
  refine e_gI (show pAt 124 5 = some (5, .getfield 77, 3, [7, 22, 0, 4145]) from by decide +kernel) (show HS h from hs) rfl (by decide) ?_
  refine e_iload_n (show pAt 124 8 = some (8, .iload_n 1, 1, []) from by decide +kernel) rfl ?_
  obtain ⟨c1, vc⟩ := vc
  refine e_ast (show pAt 124 9 = some (9, .iastore, 1, []) from by decide +kernel) (show HS h from hs) (by decide) c1 ?_
  refine e_aload_n (show pAt 124 10 = some (10, .aload_n 0, 1, []) from by decide +kernel) rfl (ra (by decide)) ?_
  refine e_dupR (show pAt 124 11 = some (11, .dup, 1, []) from by decide +kernel) ?_
  refine e_gI (show pAt 124 12 = some (12, .getfield 77, 3, [7, 22, 0, 4145]) from by decide +kernel) (show HS (hpI h 106 (h.2.1 93 22).toNatClampNeg s) from hs) rfl (by decide) ?_
  refine e_iconst (c := 1) (show pAt 124 15 = some (15, .iconst 1, 1, []) from by decide +kernel) (by decide) ?_
  refine e_iadd (show pAt 124 16 = some (16, .iadd, 1, []) from by decide +kernel) ?_
  refine e_pI (show pAt 124 17 = some (17, .putfield 77, 3, [7, 22, 0, 4145]) from by decide +kernel) (show HS (hpI h 106 (h.2.1 93 22).toNatClampNeg s) from hs) (by decide) (Or.inl rfl) ?_
  exact e_retV (show pAt 124 20 = some (20, .return_, 1, []) from by decide +kernel) rfl vc

theorem w_whole {X : Scr} {dp : Nat} {h : Hp} {Q : Option Value → Hp → Prop}  (hs : HS h)
    (vc : ((condB .le (h.2.1 93 23) 0 = true → Q none h) ∧ (condB .le (h.2.1 93 23) 0 = false → (inB ((h.2.1 93 23) - 1) 101 = true ∧ ((condB .ne (h.2.1 107 ((h.2.1 93 23) - 1).toNatClampNeg) 33 = true → Q none h) ∧ (condB .ne (h.2.1 107 ((h.2.1 93 23) - 1).toNatClampNeg) 33 = false → Ends X dp 124 0 [.ref 93, .int (-33)] [] h (fun rv h4 => rv = none ∧ HS h4 ∧ Ends X (dp + 1) 125 0 [.ref 93] [] (hpI (hpI h4 93 23 ((h4.2.1 93 23) - 1)) 93 24 (((hpI h4 93 23 ((h4.2.1 93 23) - 1)).2.1 93 24) - 1)) Q))))))) :
    Ends X (dp + 1) 125 0 [.ref 93] [] h Q := by
  have ra : ∀ {a : Nat}, a < 1000 → a ≤ OLDB := fun h => by have := OLDB_eq; omega
  refine e_aload_n (show pAt 125 0 = some (0, .aload_n 0, 1, []) from by decide +kernel) rfl (ra (by decide)) ?_
  refine e_gI (show pAt 125 1 = some (1, .getfield 80, 3, [7, 23, 0, 4146]) from by decide +kernel) (show HS h from hs) rfl (by decide) ?_
  refine e_if (t := 52) (show pAt 125 4 = some (4, .ifCond .le 48, 3, []) from by decide +kernel) rfl (fun c1 => ?_) (fun c1 => ?_)
  · replace vc := vc.1 c1
    exact e_retV (show pAt 125 52 = some (52, .return_, 1, []) from by decide +kernel) rfl vc
  · replace vc := vc.2 c1
    refine e_aload_n (show pAt 125 7 = some (7, .aload_n 0, 1, []) from by decide +kernel) rfl (ra (by decide)) ?_
    refine e_gR (show pAt 125 8 = some (8, .getfield 74, 3, [7, 21, 0, 4144]) from by decide +kernel) (show HS h from hs) rfl (by decide) (hs_ref (show HS h from hs) rfl) ?_
    refine e_aload_n (show pAt 125 11 = some (11, .aload_n 0, 1, []) from by decide +kernel) rfl (ra (by decide)) ?_
    refine e_gI (show pAt 125 12 = some (12, .getfield 80, 3, [7, 23, 0, 4146]) from by decide +kernel) (show HS h from hs) rfl (by decide) ?_
    refine e_iconst (c := 1) (show pAt 125 15 = some (15, .iconst 1, 1, []) from by decide +kernel) (by decide) ?_
    refine e_isub (show pAt 125 16 = some (16, .isub, 1, []) from by decide +kernel) ?_
    obtain ⟨c2, vc⟩ := vc
    refine e_ald (show pAt 125 17 = some (17, .iaload, 1, []) from by decide +kernel) (show HS h from hs) (by decide) c2 ?_
    refine e_bipush (c := 33) (show pAt 125 18 = some (18, .bipush 33, 2, []) from by decide +kernel) (by decide) ?_
    refine e_icmp (t := 52) (show pAt 125 20 = some (20, .if_icmp .ne 32, 3, []) from by decide +kernel) rfl (fun c3 => ?_) (fun c3 => ?_)
    · replace vc := vc.1 c3
      exact e_retV (show pAt 125 52 = some (52, .return_, 1, []) from by decide +kernel) rfl vc
    · replace vc := vc.2 c3
      refine e_aload_n (show pAt 125 23 = some (23, .aload_n 0, 1, []) from by decide +kernel) rfl (ra (by decide)) ?_
      refine e_bipush (c := (-33)) (show pAt 125 24 = some (24, .bipush (-33), 2, []) from by decide +kernel) (by decide) ?_
      refine Ends.call (show pAt 125 26 = some (26, .invokevirtual 225, 3, [124, 2, 0, 0, 5153, 5155, 67]) from by decide +kernel) (isRet_none rfl) rfl (call_this (show HS h from hs) rfl rfl (by decide)) (Ends.mono vc ?_)
      rintro _ h4 ⟨rfl, hs_h4, vc⟩
      refine e_aload_n (show pAt 125 29 = some (29, .aload_n 0, 1, []) from by decide +kernel) rfl (ra (by decide)) ?_
      refine e_dupR (show pAt 125 30 = some (30, .dup, 1, []) from by decide +kernel) ?_
      refine e_gI (show pAt 125 31 = some (31, .getfield 80, 3, [7, 23, 0, 4146]) from by decide +kernel) (show HS h4 from hs_h4) rfl (by decide) ?_
      refine e_iconst (c := 1) (show pAt 125 34 = some (34, .iconst 1, 1, []) from by decide +kernel) (by decide) ?_
      refine e_isub (show pAt 125 35 = some (35, .isub, 1, []) from by decide +kernel) ?_
      refine e_pI (show pAt 125 36 = some (36, .putfield 80, 3, [7, 23, 0, 4146]) from by decide +kernel) (show HS h4 from hs_h4) (by decide) (Or.inl rfl) ?_
      refine e_aload_n (show pAt 125 39 = some (39, .aload_n 0, 1, []) from by decide +kernel) rfl (ra (by decide)) ?_
      refine e_dupR (show pAt 125 40 = some (40, .dup, 1, []) from by decide +kernel) ?_
      refine e_gI (show pAt 125 41 = some (41, .getfield 83, 3, [7, 24, 0, 4147]) from by decide +kernel) (show HS (hpI h4 93 23 ((h4.2.1 93 23) - 1)) from hs_h4) rfl (by decide) ?_
      refine e_iconst (c := 1) (show pAt 125 44 = some (44, .iconst 1, 1, []) from by decide +kernel) (by decide) ?_
      refine e_isub (show pAt 125 45 = some (45, .isub, 1, []) from by decide +kernel) ?_
      refine e_pI (show pAt 125 46 = some (46, .putfield 83, 3, [7, 24, 0, 4147]) from by decide +kernel) (show HS (hpI h4 93 23 ((h4.2.1 93 23) - 1)) from hs_h4) (by decide) (Or.inl rfl) ?_
      refine e_goto (t := 0) (show pAt 125 49 = some (49, .goto (-49), 3, []) from by decide +kernel) rfl ?_
      exact vc

theorem w_settle {X : Scr} {dp : Nat} {h : Hp} {Q : Option Value → Hp → Prop} (s : Int32) (hs : HS h)
    (vc : ((condB .le (h.2.1 93 23) 0 = true → Q none h) ∧ (condB .le (h.2.1 93 23) 0 = false → (inB ((h.2.1 93 23) - 1) 101 = true ∧ ((condB .eq (h.2.1 107 ((h.2.1 93 23) - 1).toNatClampNeg) 38 = true → (inB ((hpI h 93 23 ((h.2.1 93 23) - 1)).2.1 93 23) 101 = true ∧ Ends X dp 124 0 [.ref 93, .int (-((hpI h 93 23 ((h.2.1 93 23) - 1)).2.1 107 ((hpI h 93 23 ((h.2.1 93 23) - 1)).2.1 93 23).toNatClampNeg))] [] (hpI h 93 23 ((h.2.1 93 23) - 1)) (fun rv h5 => rv = none ∧ HS h5 ∧ Ends X (dp + 1) 126 0 [.ref 93, .int s] [] h5 Q))) ∧ (condB .eq (h.2.1 107 ((h.2.1 93 23) - 1).toNatClampNeg) 38 = false → (inB ((h.2.1 93 23) - 1) 101 = true ∧ ((condB .ne (h.2.1 107 ((h.2.1 93 23) - 1).toNatClampNeg) 124 = true → Q none h) ∧ (condB .ne (h.2.1 107 ((h.2.1 93 23) - 1).toNatClampNeg) 124 = false → ((condB .eq s 38 = true → Q none h) ∧ (condB .eq s 38 = false → (inB ((hpI h 93 23 ((h.2.1 93 23) - 1)).2.1 93 23) 101 = true ∧ Ends X dp 124 0 [.ref 93, .int (-((hpI h 93 23 ((h.2.1 93 23) - 1)).2.1 107 ((hpI h 93 23 ((h.2.1 93 23) - 1)).2.1 93 23).toNatClampNeg))] [] (hpI h 93 23 ((h.2.1 93 23) - 1)) (fun rv h12 => rv = none ∧ HS h12 ∧ Ends X (dp + 1) 126 0 [.ref 93, .int s] [] h12 Q))))))))))))) :
    Ends X (dp + 1) 126 0 [.ref 93, .int s] [] h Q := by
  have ra : ∀ {a : Nat}, a < 1000 → a ≤ OLDB := fun h => by have := OLDB_eq; omega
  refine e_aload_n (show pAt 126 0 = some (0, .aload_n 0, 1, []) from by decide +kernel) rfl (ra (by decide)) ?_
  refine e_gI (show pAt 126 1 = some (1, .getfield 80, 3, [7, 23, 0, 4146]) from by decide +kernel) (show HS h from hs) rfl (by decide) ?_
  refine e_if (t := 72) (show pAt 126 4 = some (4, .ifCond .le 68, 3, []) from by decide +kernel) rfl (fun c1 => ?_) (fun c1 => ?_)
  · replace vc := vc.1 c1
    exact e_retV (show pAt 126 72 = some (72, .return_, 1, []) from by decide +kernel) rfl vc
  · replace vc := vc.2 c1
    refine e_aload_n (show pAt 126 7 = some (7, .aload_n 0, 1, []) from by decide +kernel) rfl (ra (by decide)) ?_
    refine e_gR (show pAt 126 8 = some (8, .getfield 74, 3, [7, 21, 0, 4144]) from by decide +kernel) (show HS h from hs) rfl (by decide) (hs_ref (show HS h from hs) rfl) ?_
    refine e_aload_n (show pAt 126 11 = some (11, .aload_n 0, 1, []) from by decide +kernel) rfl (ra (by decide)) ?_
    refine e_gI (show pAt 126 12 = some (12, .getfield 80, 3, [7, 23, 0, 4146]) from by decide +kernel) (show HS h from hs) rfl (by decide) ?_
    refine e_iconst (c := 1) (show pAt 126 15 = some (15, .iconst 1, 1, []) from by decide +kernel) (by decide) ?_
    refine e_isub (show pAt 126 16 = some (16, .isub, 1, []) from by decide +kernel) ?_
    obtain ⟨c2, vc⟩ := vc
    refine e_ald (show pAt 126 17 = some (17, .iaload, 1, []) from by decide +kernel) (show HS h from hs) (by decide) c2 ?_
    refine e_bipush (c := 38) (show pAt 126 18 = some (18, .bipush 38, 2, []) from by decide +kernel) (by decide) ?_
    refine e_icmp (t := 45) (show pAt 126 20 = some (20, .if_icmp .eq 25, 3, []) from by decide +kernel) rfl (fun c3 => ?_) (fun c3 => ?_)
    · replace vc := vc.1 c3
      refine e_aload_n (show pAt 126 45 = some (45, .aload_n 0, 1, []) from by decide +kernel) rfl (ra (by decide)) ?_
      refine e_dupR (show pAt 126 46 = some (46, .dup, 1, []) from by decide +kernel) ?_
      refine e_gI (show pAt 126 47 = some (47, .getfield 80, 3, [7, 23, 0, 4146]) from by decide +kernel) (show HS h from hs) rfl (by decide) ?_
      refine e_iconst (c := 1) (show pAt 126 50 = some (50, .iconst 1, 1, []) from by decide +kernel) (by decide) ?_
      refine e_isub (show pAt 126 51 = some (51, .isub, 1, []) from by decide +kernel) ?_
      refine e_pI (show pAt 126 52 = some (52, .putfield 80, 3, [7, 23, 0, 4146]) from by decide +kernel) (show HS h from hs) (by decide) (Or.inl rfl) ?_
      refine e_aload_n (show pAt 126 55 = some (55, .aload_n 0, 1, []) from by decide +kernel) rfl (ra (by decide)) ?_
      refine e_aload_n (show pAt 126 56 = some (56, .aload_n 0, 1, []) from by decide +kernel) rfl (ra (by decide)) ?_
      refine e_gR (show pAt 126 57 = some (57, .getfield 74, 3, [7, 21, 0, 4144]) from by decide +kernel) (show HS (hpI h 93 23 ((h.2.1 93 23) - 1)) from hs) rfl (by decide) (hs_ref (show HS (hpI h 93 23 ((h.2.1 93 23) - 1)) from hs) rfl) ?_
      refine e_aload_n (show pAt 126 60 = some (60, .aload_n 0, 1, []) from by decide +kernel) rfl (ra (by decide)) ?_
      refine e_gI (show pAt 126 61 = some (61, .getfield 80, 3, [7, 23, 0, 4146]) from by decide +kernel) (show HS (hpI h 93 23 ((h.2.1 93 23) - 1)) from hs) rfl (by decide) ?_
      obtain ⟨c4, vc⟩ := vc
      refine e_ald (show pAt 126 64 = some (64, .iaload, 1, []) from by decide +kernel) (show HS (hpI h 93 23 ((h.2.1 93 23) - 1)) from hs) (by decide) c4 ?_
      refine e_ineg (show pAt 126 65 = some (65, .ineg, 1, []) from by decide +kernel) ?_
      refine Ends.call (show pAt 126 66 = some (66, .invokevirtual 225, 3, [124, 2, 0, 0, 5153, 5155, 67]) from by decide +kernel) (isRet_none rfl) rfl (call_this (show HS (hpI h 93 23 ((h.2.1 93 23) - 1)) from hs) rfl rfl (by decide)) (Ends.mono vc ?_)
      rintro _ h5 ⟨rfl, hs_h5, vc⟩
      refine e_goto (t := 0) (show pAt 126 69 = some (69, .goto (-69), 3, []) from by decide +kernel) rfl ?_
      exact vc
    · replace vc := vc.2 c3
      refine e_aload_n (show pAt 126 23 = some (23, .aload_n 0, 1, []) from by decide +kernel) rfl (ra (by decide)) ?_
      refine e_gR (show pAt 126 24 = some (24, .getfield 74, 3, [7, 21, 0, 4144]) from by decide +kernel) (show HS h from hs) rfl (by decide) (hs_ref (show HS h from hs) rfl) ?_
      refine e_aload_n (show pAt 126 27 = some (27, .aload_n 0, 1, []) from by decide +kernel) rfl (ra (by decide)) ?_
      refine e_gI (show pAt 126 28 = some (28, .getfield 80, 3, [7, 23, 0, 4146]) from by decide +kernel) (show HS h from hs) rfl (by decide) ?_
      refine e_iconst (c := 1) (show pAt 126 31 = some (31, .iconst 1, 1, []) from by decide +kernel) (by decide) ?_
      refine e_isub (show pAt 126 32 = some (32, .isub, 1, []) from by decide +kernel) ?_
      obtain ⟨c8, vc⟩ := vc
      refine e_ald (show pAt 126 33 = some (33, .iaload, 1, []) from by decide +kernel) (show HS h from hs) (by decide) c8 ?_
      refine e_bipush (c := 124) (show pAt 126 34 = some (34, .bipush 124, 2, []) from by decide +kernel) (by decide) ?_
      refine e_icmp (t := 72) (show pAt 126 36 = some (36, .if_icmp .ne 36, 3, []) from by decide +kernel) rfl (fun c9 => ?_) (fun c9 => ?_)
      · replace vc := vc.1 c9
        exact e_retV (show pAt 126 72 = some (72, .return_, 1, []) from by decide +kernel) rfl vc
      · replace vc := vc.2 c9
        refine e_iload_n (show pAt 126 39 = some (39, .iload_n 1, 1, []) from by decide +kernel) rfl ?_
        refine e_bipush (c := 38) (show pAt 126 40 = some (40, .bipush 38, 2, []) from by decide +kernel) (by decide) ?_
        refine e_icmp (t := 72) (show pAt 126 42 = some (42, .if_icmp .eq 30, 3, []) from by decide +kernel) rfl (fun c10 => ?_) (fun c10 => ?_)
        · replace vc := vc.1 c10
          exact e_retV (show pAt 126 72 = some (72, .return_, 1, []) from by decide +kernel) rfl vc
        · replace vc := vc.2 c10
          refine e_aload_n (show pAt 126 45 = some (45, .aload_n 0, 1, []) from by decide +kernel) rfl (ra (by decide)) ?_
          refine e_dupR (show pAt 126 46 = some (46, .dup, 1, []) from by decide +kernel) ?_
          refine e_gI (show pAt 126 47 = some (47, .getfield 80, 3, [7, 23, 0, 4146]) from by decide +kernel) (show HS h from hs) rfl (by decide) ?_
          refine e_iconst (c := 1) (show pAt 126 50 = some (50, .iconst 1, 1, []) from by decide +kernel) (by decide) ?_
          refine e_isub (show pAt 126 51 = some (51, .isub, 1, []) from by decide +kernel) ?_
          refine e_pI (show pAt 126 52 = some (52, .putfield 80, 3, [7, 23, 0, 4146]) from by decide +kernel) (show HS h from hs) (by decide) (Or.inl rfl) ?_
          refine e_aload_n (show pAt 126 55 = some (55, .aload_n 0, 1, []) from by decide +kernel) rfl (ra (by decide)) ?_
          refine e_aload_n (show pAt 126 56 = some (56, .aload_n 0, 1, []) from by decide +kernel) rfl (ra (by decide)) ?_
          refine e_gR (show pAt 126 57 = some (57, .getfield 74, 3, [7, 21, 0, 4144]) from by decide +kernel) (show HS (hpI h 93 23 ((h.2.1 93 23) - 1)) from hs) rfl (by decide) (hs_ref (show HS (hpI h 93 23 ((h.2.1 93 23) - 1)) from hs) rfl) ?_
          refine e_aload_n (show pAt 126 60 = some (60, .aload_n 0, 1, []) from by decide +kernel) rfl (ra (by decide)) ?_
          refine e_gI (show pAt 126 61 = some (61, .getfield 80, 3, [7, 23, 0, 4146]) from by decide +kernel) (show HS (hpI h 93 23 ((h.2.1 93 23) - 1)) from hs) rfl (by decide) ?_
          obtain ⟨c11, vc⟩ := vc
          refine e_ald (show pAt 126 64 = some (64, .iaload, 1, []) from by decide +kernel) (show HS (hpI h 93 23 ((h.2.1 93 23) - 1)) from hs) (by decide) c11 ?_
          refine e_ineg (show pAt 126 65 = some (65, .ineg, 1, []) from by decide +kernel) ?_
          refine Ends.call (show pAt 126 66 = some (66, .invokevirtual 225, 3, [124, 2, 0, 0, 5153, 5155, 67]) from by decide +kernel) (isRet_none rfl) rfl (call_this (show HS (hpI h 93 23 ((h.2.1 93 23) - 1)) from hs) rfl rfl (by decide)) (Ends.mono vc ?_)
          rintro _ h12 ⟨rfl, hs_h12, vc⟩
          refine e_goto (t := 0) (show pAt 126 69 = some (69, .goto (-69), 3, []) from by decide +kernel) rfl ?_
          exact vc

theorem w_place {X : Scr} {dp : Nat} {h : Hp} {Q : Option Value → Hp → Prop} (x : Int32) (hs : HS h)
    (vc : (((¬ (97 : Int) = x.toInt ∧ ¬ (107 : Int) = x.toInt ∧ ¬ (108 : Int) = x.toInt ∧ ¬ (112 : Int) = x.toInt ∧ ¬ (115 : Int) = x.toInt ∧ ¬ (121 : Int) = x.toInt) → Q (some (.int (-1))) h) ∧ (x.toInt = 97 → Q (some (.int 4)) h) ∧ (x.toInt = 107 → Q (some (.int 1)) h) ∧ (x.toInt = 108 → Q (some (.int 2)) h) ∧ (x.toInt = 112 → Q (some (.int 0)) h) ∧ (x.toInt = 115 → Q (some (.int 3)) h) ∧ (x.toInt = 121 → Q (some (.int 5)) h))) :
    Ends X dp 127 0 [.ref 93, .int x] [] h Q := by
  have ra : ∀ {a : Nat}, a < 1000 → a ≤ OLDB := fun h => by have := OLDB_eq; omega
  refine e_iload_n (show pAt 127 0 = some (0, .iload_n 1, 1, []) from by decide +kernel) rfl ?_
  rcases (show (¬ (97 : Int) = x.toInt ∧ ¬ (107 : Int) = x.toInt ∧ ¬ (108 : Int) = x.toInt ∧ ¬ (112 : Int) = x.toInt ∧ ¬ (115 : Int) = x.toInt ∧ ¬ (121 : Int) = x.toInt) ∨ x.toInt = 97 ∨ x.toInt = 107 ∨ x.toInt = 108 ∨ x.toInt = 112 ∨ x.toInt = 115 ∨ x.toInt = 121 from by omega) with c1 | c1 | c1 | c1 | c1 | c1 | c1
  · refine e_ls (t := 72) (show pAt 127 1 = some (1, .lookupswitch 71 #[(97, 67), (107, 61), (108, 63), (112, 59), (115, 65), (121, 69)], 59, []) from by decide +kernel) (by decide) (ls_off (b := 71) (by simp [Op.lookupswitch.offset, c1]) rfl) ?_
    replace vc := vc.1 c1
    refine e_iconst (c := (-1)) (show pAt 127 72 = some (72, .iconst (-1), 1, []) from by decide +kernel) (by decide) ?_
    exact e_retI (show pAt 127 73 = some (73, .ireturn, 1, []) from by decide +kernel) rfl vc
  · refine e_ls (t := 68) (show pAt 127 1 = some (1, .lookupswitch 71 #[(97, 67), (107, 61), (108, 63), (112, 59), (115, 65), (121, 69)], 59, []) from by decide +kernel) (by decide) (ls_off (b := 67) (by simp [Op.lookupswitch.offset, c1]) rfl) ?_
    replace vc := vc.2.1 c1
    refine e_iconst (c := 4) (show pAt 127 68 = some (68, .iconst 4, 1, []) from by decide +kernel) (by decide) ?_
    exact e_retI (show pAt 127 69 = some (69, .ireturn, 1, []) from by decide +kernel) rfl vc
  · refine e_ls (t := 62) (show pAt 127 1 = some (1, .lookupswitch 71 #[(97, 67), (107, 61), (108, 63), (112, 59), (115, 65), (121, 69)], 59, []) from by decide +kernel) (by decide) (ls_off (b := 61) (by simp [Op.lookupswitch.offset, c1]) rfl) ?_
    replace vc := vc.2.2.1 c1
    refine e_iconst (c := 1) (show pAt 127 62 = some (62, .iconst 1, 1, []) from by decide +kernel) (by decide) ?_
    exact e_retI (show pAt 127 63 = some (63, .ireturn, 1, []) from by decide +kernel) rfl vc
  · refine e_ls (t := 64) (show pAt 127 1 = some (1, .lookupswitch 71 #[(97, 67), (107, 61), (108, 63), (112, 59), (115, 65), (121, 69)], 59, []) from by decide +kernel) (by decide) (ls_off (b := 63) (by simp [Op.lookupswitch.offset, c1]) rfl) ?_
    replace vc := vc.2.2.2.1 c1
    refine e_iconst (c := 2) (show pAt 127 64 = some (64, .iconst 2, 1, []) from by decide +kernel) (by decide) ?_
    exact e_retI (show pAt 127 65 = some (65, .ireturn, 1, []) from by decide +kernel) rfl vc
  · refine e_ls (t := 60) (show pAt 127 1 = some (1, .lookupswitch 71 #[(97, 67), (107, 61), (108, 63), (112, 59), (115, 65), (121, 69)], 59, []) from by decide +kernel) (by decide) (ls_off (b := 59) (by simp [Op.lookupswitch.offset, c1]) rfl) ?_
    replace vc := vc.2.2.2.2.1 c1
    refine e_iconst (c := 0) (show pAt 127 60 = some (60, .iconst 0, 1, []) from by decide +kernel) (by decide) ?_
    exact e_retI (show pAt 127 61 = some (61, .ireturn, 1, []) from by decide +kernel) rfl vc
  · refine e_ls (t := 66) (show pAt 127 1 = some (1, .lookupswitch 71 #[(97, 67), (107, 61), (108, 63), (112, 59), (115, 65), (121, 69)], 59, []) from by decide +kernel) (by decide) (ls_off (b := 65) (by simp [Op.lookupswitch.offset, c1]) rfl) ?_
    replace vc := vc.2.2.2.2.2.1 c1
    refine e_iconst (c := 3) (show pAt 127 66 = some (66, .iconst 3, 1, []) from by decide +kernel) (by decide) ?_
    exact e_retI (show pAt 127 67 = some (67, .ireturn, 1, []) from by decide +kernel) rfl vc
  · refine e_ls (t := 70) (show pAt 127 1 = some (1, .lookupswitch 71 #[(97, 67), (107, 61), (108, 63), (112, 59), (115, 65), (121, 69)], 59, []) from by decide +kernel) (by decide) (ls_off (b := 69) (by simp [Op.lookupswitch.offset, c1]) rfl) ?_
    replace vc := vc.2.2.2.2.2.2 c1
    refine e_iconst (c := 5) (show pAt 127 70 = some (70, .iconst 5, 1, []) from by decide +kernel) (by decide) ?_
    exact e_retI (show pAt 127 71 = some (71, .ireturn, 1, []) from by decide +kernel) rfl vc

theorem w_test {X : Scr} {dp : Nat} {h : Hp} {Q : Option Value → Hp → Prop}  (hs : HS h)
    (vc : Ends X dp 119 0 [.ref 93] [] h (fun rv h1 => ∃ r2, rv = some (.int r2) ∧ HS h1 ∧ Ends X dp 127 0 [.ref 93, .int r2] [] h1 (fun rv h4 => ∃ r5, rv = some (.int r5) ∧ HS h4 ∧ ((condB .ge r5 0 = true → Ends X dp 119 0 [.ref 93] [] (hpI h4 93 12 ((h4.2.1 93 12) + 1)) (fun rv h8 => ∃ r9, rv = some (.int r9) ∧ HS h8 ∧ Ends X dp 109 0 [.ref 93, .int r9, .int 60, .int 62] [] h8 (fun rv h11 => ∃ r12, rv = some (.int r12) ∧ HS h11 ∧ ((condB .ne r12 0 = true → Ends X dp 123 0 [.ref 93, .retAddr 0] [] (hpI h11 93 12 ((h11.2.1 93 12) + 1)) (fun rv h15 => ∃ r16, rv = some (.int r16) ∧ HS h15 ∧ ((condB .ne r16 0 = true → Ends X dp 124 0 [.ref 93, .int (((1000 * r5) + (100 * (r9 - 60))) + (h15.2.1 93 13))] [] h15 (fun rv h19 => rv = none ∧ HS h19 ∧ Ends X dp 125 0 [.ref 93] [] h19 (fun rv h22 => rv = none ∧ HS h22 ∧ Q (some (.int 1)) h22))) ∧ (condB .ne r16 0 = false → Q (some (.int 0)) h15)))) ∧ (condB .ne r12 0 = false → Q (some (.int 0)) h11))))) ∧ (condB .ge r5 0 = false → Q (some (.int 0)) h4))))) :
    Ends X (dp + 1) 128 0 [.ref 93, .retAddr 0, .retAddr 0] [] h Q := by
  have ra : ∀ {a : Nat}, a < 1000 → a ≤ OLDB := fun h => by have := OLDB_eq; omega
  refine e_aload_n (show pAt 128 0 = some (0, .aload_n 0, 1, []) from by decide +kernel) rfl (ra (by decide)) ?_
  refine e_aload_n (show pAt 128 1 = some (1, .aload_n 0, 1, []) from by decide +kernel) rfl (ra (by decide)) ?_
  refine Ends.call (show pAt 128 2 = some (2, .invokevirtual 214, 3, [119, 1, 0, 0, 5121, 5123, 59]) from by decide +kernel) (isRet_none rfl) rfl (call_this (show HS h from hs) rfl rfl (by decide)) (Ends.mono vc ?_)
  rintro _ h1 ⟨r2, rfl, hs_h1, vc⟩
  refine Ends.call (show pAt 128 5 = some (5, .invokevirtual 229, 3, [127, 2, 0, 0, 5149, 5151, 66]) from by decide +kernel) (isRet_none rfl) rfl (call_this (show HS h1 from hs_h1) rfl rfl (by decide)) (Ends.mono vc ?_)
  rintro _ h4 ⟨r5, rfl, hs_h4, vc⟩
  refine e_istore_n (show pAt 128 8 = some (8, .istore_n 1, 1, []) from by decide +kernel) ⟨Nat.le_of_ble_eq_true rfl, rfl⟩ rfl ?_
  refine e_iload_n (show pAt 128 9 = some (9, .iload_n 1, 1, []) from by decide +kernel) rfl ?_
  refine e_if (t := 15) (show pAt 128 10 = some (10, .ifCond .ge 5, 3, []) from by decide +kernel) rfl (fun c7 => ?_) (fun c7 => ?_)
  · replace vc := vc.1 c7
    refine e_aload_n (show pAt 128 15 = some (15, .aload_n 0, 1, []) from by decide +kernel) rfl (ra (by decide)) ?_
    refine e_dupR (show pAt 128 16 = some (16, .dup, 1, []) from by decide +kernel) ?_
    refine e_gI (show pAt 128 17 = some (17, .getfield 47, 3, [7, 12, 0, 4135]) from by decide +kernel) (show HS h4 from hs_h4) rfl (by decide) ?_
    refine e_iconst (c := 1) (show pAt 128 20 = some (20, .iconst 1, 1, []) from by decide +kernel) (by decide) ?_
    refine e_iadd (show pAt 128 21 = some (21, .iadd, 1, []) from by decide +kernel) ?_
    refine e_pI (show pAt 128 22 = some (22, .putfield 47, 3, [7, 12, 0, 4135]) from by decide +kernel) (show HS h4 from hs_h4) (by decide) (Or.inl rfl) ?_
    refine e_aload_n (show pAt 128 25 = some (25, .aload_n 0, 1, []) from by decide +kernel) rfl (ra (by decide)) ?_
    refine Ends.call (show pAt 128 26 = some (26, .invokevirtual 214, 3, [119, 1, 0, 0, 5121, 5123, 59]) from by decide +kernel) (isRet_none rfl) rfl (call_this (show HS (hpI h4 93 12 ((h4.2.1 93 12) + 1)) from hs_h4) rfl rfl (by decide)) (Ends.mono vc ?_)
    rintro _ h8 ⟨r9, rfl, hs_h8, vc⟩
    refine e_istore_n (show pAt 128 29 = some (29, .istore_n 2, 1, []) from by decide +kernel) ⟨Nat.le_of_ble_eq_true rfl, rfl⟩ rfl ?_
    refine e_aload_n (show pAt 128 30 = some (30, .aload_n 0, 1, []) from by decide +kernel) rfl (ra (by decide)) ?_
    refine e_iload_n (show pAt 128 31 = some (31, .iload_n 2, 1, []) from by decide +kernel) rfl ?_
    refine e_bipush (c := 60) (show pAt 128 32 = some (32, .bipush 60, 2, []) from by decide +kernel) (by decide) ?_
    refine e_bipush (c := 62) (show pAt 128 34 = some (34, .bipush 62, 2, []) from by decide +kernel) (by decide) ?_
    refine Ends.call (show pAt 128 36 = some (36, .invokevirtual 206, 3, [109, 4, 0, 0, 5081, 5083, 54]) from by decide +kernel) (isRet_none rfl) rfl (call_this (show HS h8 from hs_h8) rfl rfl (by decide)) (Ends.mono vc ?_)
    rintro _ h11 ⟨r12, rfl, hs_h11, vc⟩
    refine e_if (t := 44) (show pAt 128 39 = some (39, .ifCond .ne 5, 3, []) from by decide +kernel) rfl (fun c14 => ?_) (fun c14 => ?_)
    · replace vc := vc.1 c14
      refine e_aload_n (show pAt 128 44 = some (44, .aload_n 0, 1, []) from by decide +kernel) rfl (ra (by decide)) ?_
      refine e_dupR (show pAt 128 45 = some (45, .dup, 1, []) from by decide +kernel) ?_
      refine e_gI (show pAt 128 46 = some (46, .getfield 47, 3, [7, 12, 0, 4135]) from by decide +kernel) (show HS h11 from hs_h11) rfl (by decide) ?_
      refine e_iconst (c := 1) (show pAt 128 49 = some (49, .iconst 1, 1, []) from by decide +kernel) (by decide) ?_
      refine e_iadd (show pAt 128 50 = some (50, .iadd, 1, []) from by decide +kernel) ?_
      refine e_pI (show pAt 128 51 = some (51, .putfield 47, 3, [7, 12, 0, 4135]) from by decide +kernel) (show HS h11 from hs_h11) (by decide) (Or.inl rfl) ?_
      refine e_aload_n (show pAt 128 54 = some (54, .aload_n 0, 1, []) from by decide +kernel) rfl (ra (by decide)) ?_
      refine Ends.call (show pAt 128 55 = some (55, .invokevirtual 233, 3, [123, 1, 0, 0, 5133, 5135, 62]) from by decide +kernel) (isRet_none rfl) rfl (call_this (show HS (hpI h11 93 12 ((h11.2.1 93 12) + 1)) from hs_h11) rfl rfl (by decide)) (Ends.mono vc ?_)
      rintro _ h15 ⟨r16, rfl, hs_h15, vc⟩
      refine e_if (t := 63) (show pAt 128 58 = some (58, .ifCond .ne 5, 3, []) from by decide +kernel) rfl (fun c18 => ?_) (fun c18 => ?_)
      · replace vc := vc.1 c18
        refine e_aload_n (show pAt 128 63 = some (63, .aload_n 0, 1, []) from by decide +kernel) rfl (ra (by decide)) ?_
        refine e_sipush (c := 1000) (show pAt 128 64 = some (64, .sipush 1000, 3, []) from by decide +kernel) (by decide) ?_
        refine e_iload_n (show pAt 128 67 = some (67, .iload_n 1, 1, []) from by decide +kernel) rfl ?_
        refine e_imul (show pAt 128 68 = some (68, .imul, 1, []) from by decide +kernel) ?_
        refine e_bipush (c := 100) (show pAt 128 69 = some (69, .bipush 100, 2, []) from by decide +kernel) (by decide) ?_
        refine e_iload_n (show pAt 128 71 = some (71, .iload_n 2, 1, []) from by decide +kernel) rfl ?_
        refine e_bipush (c := 60) (show pAt 128 72 = some (72, .bipush 60, 2, []) from by decide +kernel) (by decide) ?_
        refine e_isub (show pAt 128 74 = some (74, .isub, 1, []) from by decide +kernel) ?_
        refine e_imul (show pAt 128 75 = some (75, .imul, 1, []) from by decide +kernel) ?_
        refine e_iadd (show pAt 128 76 = some (76, .iadd, 1, []) from by decide +kernel) ?_
        refine e_aload_n (show pAt 128 77 = some (77, .aload_n 0, 1, []) from by decide +kernel) rfl (ra (by decide)) ?_
        refine e_gI (show pAt 128 78 = some (78, .getfield 50, 3, [7, 13, 0, 4136]) from by decide +kernel) (show HS h15 from hs_h15) rfl (by decide) ?_
        refine e_iadd (show pAt 128 81 = some (81, .iadd, 1, []) from by decide +kernel) ?_
        refine Ends.call (show pAt 128 82 = some (82, .invokevirtual 225, 3, [124, 2, 0, 0, 5153, 5155, 67]) from by decide +kernel) (isRet_none rfl) rfl (call_this (show HS h15 from hs_h15) rfl rfl (by decide)) (Ends.mono vc ?_)
        rintro _ h19 ⟨rfl, hs_h19, vc⟩
        refine e_aload_n (show pAt 128 85 = some (85, .aload_n 0, 1, []) from by decide +kernel) rfl (ra (by decide)) ?_
        refine Ends.call (show pAt 128 86 = some (86, .invokevirtual 236, 3, [125, 1, 0, 0, 5157, 5159, 68]) from by decide +kernel) (isRet_none rfl) rfl (call_this (show HS h19 from hs_h19) rfl rfl (by decide)) (Ends.mono vc ?_)
        rintro _ h22 ⟨rfl, hs_h22, vc⟩
        refine e_iconst (c := 1) (show pAt 128 89 = some (89, .iconst 1, 1, []) from by decide +kernel) (by decide) ?_
        exact e_retZ (show pAt 128 90 = some (90, .ireturn, 1, []) from by decide +kernel) rfl (by decide) vc
      · replace vc := vc.2 c18
        refine e_iconst (c := 0) (show pAt 128 61 = some (61, .iconst 0, 1, []) from by decide +kernel) (by decide) ?_
        exact e_retZ (show pAt 128 62 = some (62, .ireturn, 1, []) from by decide +kernel) rfl (by decide) vc
    · replace vc := vc.2 c14
      refine e_iconst (c := 0) (show pAt 128 42 = some (42, .iconst 0, 1, []) from by decide +kernel) (by decide) ?_
      exact e_retZ (show pAt 128 43 = some (43, .ireturn, 1, []) from by decide +kernel) rfl (by decide) vc
  · replace vc := vc.2 c7
    refine e_iconst (c := 0) (show pAt 128 13 = some (13, .iconst 0, 1, []) from by decide +kernel) (by decide) ?_
    exact e_retZ (show pAt 128 14 = some (14, .ireturn, 1, []) from by decide +kernel) rfl (by decide) vc

theorem w_te0 {X : Scr} {dp : Nat} {h : Hp} {Q : Option Value → Hp → Prop} (c : Int32) (hs : HS h)
    (vc : (inB c 60 = true ∧ Ends X dp 129 22 [.ref 93, .int c, .int 1, .retAddr 0] [] (hpI (hpI (hpI h 93 23 0) 93 24 0) 104 c.toNatClampNeg ((hpI (hpI h 93 23 0) 93 24 0).2.1 93 22)) Q)) :
    Ends X dp 129 0 [.ref 93, .int c, .retAddr 0, .retAddr 0] [] h Q := by
  have ra : ∀ {a : Nat}, a < 1000 → a ≤ OLDB := fun h => by have := OLDB_eq; omega
  refine e_aload_n (show pAt 129 0 = some (0, .aload_n 0, 1, []) from by decide +kernel) rfl (ra (by decide)) ?_
  refine e_iconst (c := 0) (show pAt 129 1 = some (1, .iconst 0, 1, []) from by decide +kernel) (by decide) ?_
  refine e_pI (show pAt 129 2 = some (2, .putfield 80, 3, [7, 23, 0, 4146]) from by decide +kernel) (show HS h from hs) (by decide) (Or.inl rfl) ?_
  refine e_aload_n (show pAt 129 5 = some (5, .aload_n 0, 1, []) from by decide +kernel) rfl (ra (by decide)) ?_
  refine e_iconst (c := 0) (show pAt 129 6 = some (6, .iconst 0, 1, []) from by decide +kernel) (by decide) ?_
  refine e_pI (show pAt 129 7 = some (7, .putfield 83, 3, [7, 24, 0, 4147]) from by decide +kernel) (show HS (hpI h 93 23 0) from hs) (by decide) (Or.inl rfl) ?_
  refine e_aload_n (show pAt 129 10 = some (10, .aload_n 0, 1, []) from by decide +kernel) rfl (ra (by decide)) ?_
  refine e_gR (show pAt 129 11 = some (11, .getfield 65, 3, [7, 18, 0, 4141]) from by decide +kernel) (show HS (hpI (hpI h 93 23 0) 93 24 0) from hs) rfl (by decide) (hs_ref (show HS (hpI (hpI h 93 23 0) 93 24 0) from hs) rfl) ?_
  refine e_iload_n (show pAt 129 14 = some (14, .iload_n 1, 1, []) from by decide +kernel) rfl ?_
  refine e_aload_n (show pAt 129 15 = some (15, .aload_n 0, 1, []) from by decide +kernel) rfl (ra (by decide)) ?_
  refine e_gI (show pAt 129 16 = some (16, .getfield 77, 3, [7, 22, 0, 4145]) from by decide +kernel) (show HS (hpI (hpI h 93 23 0) 93 24 0) from hs) rfl (by decide) ?_
  obtain ⟨c1, vc⟩ := vc
  refine e_ast (show pAt 129 19 = some (19, .iastore, 1, []) from by decide +kernel) (show HS (hpI (hpI h 93 23 0) 93 24 0) from hs) (by decide) c1 ?_
  refine e_iconst (c := 1) (show pAt 129 20 = some (20, .iconst 1, 1, []) from by decide +kernel) (by decide) ?_
  refine e_istore_n (show pAt 129 21 = some (21, .istore_n 2, 1, []) from by decide +kernel) ⟨Nat.le_of_ble_eq_true rfl, rfl⟩ rfl ?_
  exact vc

theorem w_te1 {X : Scr} {dp : Nat} {h : Hp} {Q : Option Value → Hp → Prop} (c : Int32) (w : Int32) (b : Value) (hs : HS h)
    (vc : Ends X dp 119 0 [.ref 93] [] h (fun rv h1 => ∃ r2, rv = some (.int r2) ∧ HS h1 ∧ ((condB .eq w 0 = true → ((condB .eq r2 38 = true → Ends X dp 126 0 [.ref 93, .int r2] [] h1 (fun rv h6 => rv = none ∧ HS h6 ∧ (inB (h6.2.1 93 23) 101 = true ∧ Ends X (dp + 1) 129 22 [.ref 93, .int c, .int 1, .int r2] [] (hpI (hpI (hpI h6 107 (h6.2.1 93 23).toNatClampNeg r2) 93 23 (((hpI h6 107 (h6.2.1 93 23).toNatClampNeg r2).2.1 93 23) + 1)) 93 12 (((hpI (hpI h6 107 (h6.2.1 93 23).toNatClampNeg r2) 93 23 (((hpI h6 107 (h6.2.1 93 23).toNatClampNeg r2).2.1 93 23) + 1)).2.1 93 12) + 1)) Q))) ∧ (condB .eq r2 38 = false → ((condB .ne r2 124 = true → Ends X dp 126 0 [.ref 93, .int 124] [] h1 (fun rv h11 => rv = none ∧ HS h11 ∧ (inB c 60 = true ∧ ((condB .ne ((hpI h11 105 c.toNatClampNeg (h11.2.1 93 22)).2.1 93 23) 0 = true → ((condB .eq r2 41 = true → Ends X dp 125 0 [.ref 93] [] (hpI (hpI (hpI (hpI h11 105 c.toNatClampNeg (h11.2.1 93 22)) 93 23 (((hpI h11 105 c.toNatClampNeg (h11.2.1 93 22)).2.1 93 23) - 1)) 93 24 (((hpI (hpI h11 105 c.toNatClampNeg (h11.2.1 93 22)) 93 23 (((hpI h11 105 c.toNatClampNeg (h11.2.1 93 22)).2.1 93 23) - 1)).2.1 93 24) - 1)) 93 12 (((hpI (hpI (hpI h11 105 c.toNatClampNeg (h11.2.1 93 22)) 93 23 (((hpI h11 105 c.toNatClampNeg (h11.2.1 93 22)).2.1 93 23) - 1)) 93 24 (((hpI (hpI h11 105 c.toNatClampNeg (h11.2.1 93 22)) 93 23 (((hpI h11 105 c.toNatClampNeg (h11.2.1 93 22)).2.1 93 23) - 1)).2.1 93 24) - 1)).2.1 93 12) + 1)) (fun rv h17 => rv = none ∧ HS h17 ∧ Ends X (dp + 1) 129 22 [.ref 93, .int c, .int w, .int r2] [] h17 Q)) ∧ (condB .eq r2 41 = false → Q (some (.int 0)) (hpI h11 105 c.toNatClampNeg (h11.2.1 93 22))))) ∧ (condB .ne ((hpI h11 105 c.toNatClampNeg (h11.2.1 93 22)).2.1 93 23) 0 = false → Q (some (.int 1)) (hpI h11 105 c.toNatClampNeg (h11.2.1 93 22))))))) ∧ (condB .ne r2 124 = false → Ends X dp 126 0 [.ref 93, .int r2] [] h1 (fun rv h20 => rv = none ∧ HS h20 ∧ (inB (h20.2.1 93 23) 101 = true ∧ Ends X (dp + 1) 129 22 [.ref 93, .int c, .int 1, .int r2] [] (hpI (hpI (hpI h20 107 (h20.2.1 93 23).toNatClampNeg r2) 93 23 (((hpI h20 107 (h20.2.1 93 23).toNatClampNeg r2).2.1 93 23) + 1)) 93 12 (((hpI (hpI h20 107 (h20.2.1 93 23).toNatClampNeg r2) 93 23 (((hpI h20 107 (h20.2.1 93 23).toNatClampNeg r2).2.1 93 23) + 1)).2.1 93 12) + 1)) Q))))))) ∧ (condB .eq w 0 = false → ((condB .eq r2 33 = true → ((condB .ne (h1.2.1 93 24) 4 = true → (inB ((hpI h1 93 24 ((h1.2.1 93 24) + 1)).2.1 93 23) 101 = true ∧ Ends X (dp + 1) 129 22 [.ref 93, .int c, .int w, .int r2] [] (hpI (hpI (hpI (hpI h1 93 24 ((h1.2.1 93 24) + 1)) 107 ((hpI h1 93 24 ((h1.2.1 93 24) + 1)).2.1 93 23).toNatClampNeg r2) 93 23 (((hpI (hpI h1 93 24 ((h1.2.1 93 24) + 1)) 107 ((hpI h1 93 24 ((h1.2.1 93 24) + 1)).2.1 93 23).toNatClampNeg r2).2.1 93 23) + 1)) 93 12 (((hpI (hpI (hpI h1 93 24 ((h1.2.1 93 24) + 1)) 107 ((hpI h1 93 24 ((h1.2.1 93 24) + 1)).2.1 93 23).toNatClampNeg r2) 93 23 (((hpI (hpI h1 93 24 ((h1.2.1 93 24) + 1)) 107 ((hpI h1 93 24 ((h1.2.1 93 24) + 1)).2.1 93 23).toNatClampNeg r2).2.1 93 23) + 1)).2.1 93 12) + 1)) Q)) ∧ (condB .ne (h1.2.1 93 24) 4 = false → Q (some (.int 0)) h1))) ∧ (condB .eq r2 33 = false → ((condB .ne r2 40 = true → Ends X dp 128 0 [.ref 93, .retAddr 0, .retAddr 0] [] h1 (fun rv h28 => ∃ r29, rv = some (.int r29) ∧ HS h28 ∧ ((condB .eq r29 0 = true → Q (some (.int 0)) h28) ∧ (condB .eq r29 0 = false → Ends X (dp + 1) 129 22 [.ref 93, .int c, .int 0, .int r2] [] h28 Q)))) ∧ (condB .ne r2 40 = false → ((condB .ne (h1.2.1 93 24) 4 = true → (inB ((hpI h1 93 24 ((h1.2.1 93 24) + 1)).2.1 93 23) 101 = true ∧ Ends X (dp + 1) 129 22 [.ref 93, .int c, .int w, .int r2] [] (hpI (hpI (hpI (hpI h1 93 24 ((h1.2.1 93 24) + 1)) 107 ((hpI h1 93 24 ((h1.2.1 93 24) + 1)).2.1 93 23).toNatClampNeg r2) 93 23 (((hpI (hpI h1 93 24 ((h1.2.1 93 24) + 1)) 107 ((hpI h1 93 24 ((h1.2.1 93 24) + 1)).2.1 93 23).toNatClampNeg r2).2.1 93 23) + 1)) 93 12 (((hpI (hpI (hpI h1 93 24 ((h1.2.1 93 24) + 1)) 107 ((hpI h1 93 24 ((h1.2.1 93 24) + 1)).2.1 93 23).toNatClampNeg r2) 93 23 (((hpI (hpI h1 93 24 ((h1.2.1 93 24) + 1)) 107 ((hpI h1 93 24 ((h1.2.1 93 24) + 1)).2.1 93 23).toNatClampNeg r2).2.1 93 23) + 1)).2.1 93 12) + 1)) Q)) ∧ (condB .ne (h1.2.1 93 24) 4 = false → Q (some (.int 0)) h1)))))))))) :
    Ends X (dp + 1) 129 22 [.ref 93, .int c, .int w, b] [] h Q := by
  have ra : ∀ {a : Nat}, a < 1000 → a ≤ OLDB := fun h => by have := OLDB_eq; omega
  refine e_aload_n (show pAt 129 22 = some (22, .aload_n 0, 1, []) from by decide +kernel) rfl (ra (by decide)) ?_
  refine Ends.call (show pAt 129 23 = some (23, .invokevirtual 214, 3, [119, 1, 0, 0, 5121, 5123, 59]) from by decide +kernel) (isRet_none rfl) rfl (call_this (show HS h from hs) rfl rfl (by decide)) (Ends.mono vc ?_)
  rintro _ h1 ⟨r2, rfl, hs_h1, vc⟩
  refine e_istore_n (show pAt 129 26 = some (26, .istore_n 3, 1, []) from by decide +kernel) ⟨Nat.le_of_ble_eq_true rfl, rfl⟩ rfl ?_
  refine e_iload_n (show pAt 129 27 = some (27, .iload_n 2, 1, []) from by decide +kernel) rfl ?_
  refine e_if (t := 110) (show pAt 129 28 = some (28, .ifCond .eq 82, 3, []) from by decide +kernel) rfl (fun c4 => ?_) (fun c4 => ?_)
  · replace vc := vc.1 c4
    refine e_iload_n (show pAt 129 110 = some (110, .iload_n 3, 1, []) from by decide +kernel) rfl ?_
    refine e_bipush (c := 38) (show pAt 129 111 = some (111, .bipush 38, 2, []) from by decide +kernel) (by decide) ?_
    refine e_icmp (t := 122) (show pAt 129 113 = some (113, .if_icmp .eq 9, 3, []) from by decide +kernel) rfl (fun c5 => ?_) (fun c5 => ?_)
    · replace vc := vc.1 c5
      refine e_aload_n (show pAt 129 122 = some (122, .aload_n 0, 1, []) from by decide +kernel) rfl (ra (by decide)) ?_
      refine e_iload_n (show pAt 129 123 = some (123, .iload_n 3, 1, []) from by decide +kernel) rfl ?_
      refine Ends.call (show pAt 129 124 = some (124, .invokevirtual 242, 3, [126, 2, 0, 0, 5161, 5163, 69]) from by decide +kernel) (isRet_none rfl) rfl (call_this (show HS h1 from hs_h1) rfl rfl (by decide)) (Ends.mono vc ?_)
      rintro _ h6 ⟨rfl, hs_h6, vc⟩
      refine e_aload_n (show pAt 129 127 = some (127, .aload_n 0, 1, []) from by decide +kernel) rfl (ra (by decide)) ?_
      refine e_gR (show pAt 129 128 = some (128, .getfield 74, 3, [7, 21, 0, 4144]) from by decide +kernel) (show HS h6 from hs_h6) rfl (by decide) (hs_ref (show HS h6 from hs_h6) rfl) ?_
      refine e_aload_n (show pAt 129 131 = some (131, .aload_n 0, 1, []) from by decide +kernel) rfl (ra (by decide)) ?_
      refine e_gI (show pAt 129 132 = some (132, .getfield 80, 3, [7, 23, 0, 4146]) from by decide +kernel) (show HS h6 from hs_h6) rfl (by decide) ?_
      refine e_iload_n (show pAt 129 135 = some (135, .iload_n 3, 1, []) from by decide +kernel) rfl ?_
      obtain ⟨c9, vc⟩ := vc
      refine e_ast (show pAt 129 136 = some (136, .iastore, 1, []) from by decide +kernel) (show HS h6 from hs_h6) (by decide) c9 ?_
      refine e_aload_n (show pAt 129 137 = some (137, .aload_n 0, 1, []) from by decide +kernel) rfl (ra (by decide)) ?_
      refine e_dupR (show pAt 129 138 = some (138, .dup, 1, []) from by decide +kernel) ?_
      refine e_gI (show pAt 129 139 = some (139, .getfield 80, 3, [7, 23, 0, 4146]) from by decide +kernel) (show HS (hpI h6 107 (h6.2.1 93 23).toNatClampNeg r2) from hs_h6) rfl (by decide) ?_
      refine e_iconst (c := 1) (show pAt 129 142 = some (142, .iconst 1, 1, []) from by decide +kernel) (by decide) ?_
      refine e_iadd (show pAt 129 143 = some (143, .iadd, 1, []) from by decide +kernel) ?_
      refine e_pI (show pAt 129 144 = some (144, .putfield 80, 3, [7, 23, 0, 4146]) from by decide +kernel) (show HS (hpI h6 107 (h6.2.1 93 23).toNatClampNeg r2) from hs_h6) (by decide) (Or.inl rfl) ?_
      refine e_iconst (c := 1) (show pAt 129 147 = some (147, .iconst 1, 1, []) from by decide +kernel) (by decide) ?_
      refine e_istore_n (show pAt 129 148 = some (148, .istore_n 2, 1, []) from by decide +kernel) ⟨Nat.le_of_ble_eq_true rfl, rfl⟩ rfl ?_
      refine e_aload_n (show pAt 129 149 = some (149, .aload_n 0, 1, []) from by decide +kernel) rfl (ra (by decide)) ?_
      refine e_dupR (show pAt 129 150 = some (150, .dup, 1, []) from by decide +kernel) ?_
      refine e_gI (show pAt 129 151 = some (151, .getfield 47, 3, [7, 12, 0, 4135]) from by decide +kernel) (show HS (hpI (hpI h6 107 (h6.2.1 93 23).toNatClampNeg r2) 93 23 (((hpI h6 107 (h6.2.1 93 23).toNatClampNeg r2).2.1 93 23) + 1)) from hs_h6) rfl (by decide) ?_
      refine e_iconst (c := 1) (show pAt 129 154 = some (154, .iconst 1, 1, []) from by decide +kernel) (by decide) ?_
      refine e_iadd (show pAt 129 155 = some (155, .iadd, 1, []) from by decide +kernel) ?_
      refine e_pI (show pAt 129 156 = some (156, .putfield 47, 3, [7, 12, 0, 4135]) from by decide +kernel) (show HS (hpI (hpI h6 107 (h6.2.1 93 23).toNatClampNeg r2) 93 23 (((hpI h6 107 (h6.2.1 93 23).toNatClampNeg r2).2.1 93 23) + 1)) from hs_h6) (by decide) (Or.inl rfl) ?_
      refine e_goto (t := 22) (show pAt 129 159 = some (159, .goto (-137), 3, []) from by decide +kernel) rfl ?_
      exact vc
    · replace vc := vc.2 c5
      refine e_iload_n (show pAt 129 116 = some (116, .iload_n 3, 1, []) from by decide +kernel) rfl ?_
      refine e_bipush (c := 124) (show pAt 129 117 = some (117, .bipush 124, 2, []) from by decide +kernel) (by decide) ?_
      refine e_icmp (t := 162) (show pAt 129 119 = some (119, .if_icmp .ne 43, 3, []) from by decide +kernel) rfl (fun c10 => ?_) (fun c10 => ?_)
      · replace vc := vc.1 c10
        refine e_aload_n (show pAt 129 162 = some (162, .aload_n 0, 1, []) from by decide +kernel) rfl (ra (by decide)) ?_
        refine e_bipush (c := 124) (show pAt 129 163 = some (163, .bipush 124, 2, []) from by decide +kernel) (by decide) ?_
        refine Ends.call (show pAt 129 165 = some (165, .invokevirtual 242, 3, [126, 2, 0, 0, 5161, 5163, 69]) from by decide +kernel) (isRet_none rfl) rfl (call_this (show HS h1 from hs_h1) rfl rfl (by decide)) (Ends.mono vc ?_)
        rintro _ h11 ⟨rfl, hs_h11, vc⟩
        refine e_aload_n (show pAt 129 168 = some (168, .aload_n 0, 1, []) from by decide +kernel) rfl (ra (by decide)) ?_
        refine e_gR (show pAt 129 169 = some (169, .getfield 68, 3, [7, 19, 0, 4142]) from by decide +kernel) (show HS h11 from hs_h11) rfl (by decide) (hs_ref (show HS h11 from hs_h11) rfl) ?_
        refine e_iload_n (show pAt 129 172 = some (172, .iload_n 1, 1, []) from by decide +kernel) rfl ?_
        refine e_aload_n (show pAt 129 173 = some (173, .aload_n 0, 1, []) from by decide +kernel) rfl (ra (by decide)) ?_
        refine e_gI (show pAt 129 174 = some (174, .getfield 77, 3, [7, 22, 0, 4145]) from by decide +kernel) (show HS h11 from hs_h11) rfl (by decide) ?_
        obtain ⟨c14, vc⟩ := vc
        refine e_ast (show pAt 129 177 = some (177, .iastore, 1, []) from by decide +kernel) (show HS h11 from hs_h11) (by decide) c14 ?_
        refine e_aload_n (show pAt 129 178 = some (178, .aload_n 0, 1, []) from by decide +kernel) rfl (ra (by decide)) ?_
        refine e_gI (show pAt 129 179 = some (179, .getfield 80, 3, [7, 23, 0, 4146]) from by decide +kernel) (show HS (hpI h11 105 c.toNatClampNeg (h11.2.1 93 22)) from hs_h11) rfl (by decide) ?_
        refine e_if (t := 187) (show pAt 129 182 = some (182, .ifCond .ne 5, 3, []) from by decide +kernel) rfl (fun c15 => ?_) (fun c15 => ?_)
        · replace vc := vc.1 c15
          refine e_iload_n (show pAt 129 187 = some (187, .iload_n 3, 1, []) from by decide +kernel) rfl ?_
          refine e_bipush (c := 41) (show pAt 129 188 = some (188, .bipush 41, 2, []) from by decide +kernel) (by decide) ?_
          refine e_icmp (t := 195) (show pAt 129 190 = some (190, .if_icmp .eq 5, 3, []) from by decide +kernel) rfl (fun c16 => ?_) (fun c16 => ?_)
          · replace vc := vc.1 c16
            refine e_aload_n (show pAt 129 195 = some (195, .aload_n 0, 1, []) from by decide +kernel) rfl (ra (by decide)) ?_
            refine e_dupR (show pAt 129 196 = some (196, .dup, 1, []) from by decide +kernel) ?_
            refine e_gI (show pAt 129 197 = some (197, .getfield 80, 3, [7, 23, 0, 4146]) from by decide +kernel) (show HS (hpI h11 105 c.toNatClampNeg (h11.2.1 93 22)) from hs_h11) rfl (by decide) ?_
            refine e_iconst (c := 1) (show pAt 129 200 = some (200, .iconst 1, 1, []) from by decide +kernel) (by decide) ?_
            refine e_isub (show pAt 129 201 = some (201, .isub, 1, []) from by decide +kernel) ?_
            refine e_pI (show pAt 129 202 = some (202, .putfield 80, 3, [7, 23, 0, 4146]) from by decide +kernel) (show HS (hpI h11 105 c.toNatClampNeg (h11.2.1 93 22)) from hs_h11) (by decide) (Or.inl rfl) ?_
            refine e_aload_n (show pAt 129 205 = some (205, .aload_n 0, 1, []) from by decide +kernel) rfl (ra (by decide)) ?_
            refine e_dupR (show pAt 129 206 = some (206, .dup, 1, []) from by decide +kernel) ?_
            refine e_gI (show pAt 129 207 = some (207, .getfield 83, 3, [7, 24, 0, 4147]) from by decide +kernel) (show HS (hpI (hpI h11 105 c.toNatClampNeg (h11.2.1 93 22)) 93 23 (((hpI h11 105 c.toNatClampNeg (h11.2.1 93 22)).2.1 93 23) - 1)) from hs_h11) rfl (by decide) ?_
            refine e_iconst (c := 1) (show pAt 129 210 = some (210, .iconst 1, 1, []) from by decide +kernel) (by decide) ?_
            refine e_isub (show pAt 129 211 = some (211, .isub, 1, []) from by decide +kernel) ?_
            refine e_pI (show pAt 129 212 = some (212, .putfield 83, 3, [7, 24, 0, 4147]) from by decide +kernel) (show HS (hpI (hpI h11 105 c.toNatClampNeg (h11.2.1 93 22)) 93 23 (((hpI h11 105 c.toNatClampNeg (h11.2.1 93 22)).2.1 93 23) - 1)) from hs_h11) (by decide) (Or.inl rfl) ?_
            refine e_aload_n (show pAt 129 215 = some (215, .aload_n 0, 1, []) from by decide +kernel) rfl (ra (by decide)) ?_
            refine e_dupR (show pAt 129 216 = some (216, .dup, 1, []) from by decide +kernel) ?_
            refine e_gI (show pAt 129 217 = some (217, .getfield 47, 3, [7, 12, 0, 4135]) from by decide +kernel) (show HS (hpI (hpI (hpI h11 105 c.toNatClampNeg (h11.2.1 93 22)) 93 23 (((hpI h11 105 c.toNatClampNeg (h11.2.1 93 22)).2.1 93 23) - 1)) 93 24 (((hpI (hpI h11 105 c.toNatClampNeg (h11.2.1 93 22)) 93 23 (((hpI h11 105 c.toNatClampNeg (h11.2.1 93 22)).2.1 93 23) - 1)).2.1 93 24) - 1)) from hs_h11) rfl (by decide) ?_
            refine e_iconst (c := 1) (show pAt 129 220 = some (220, .iconst 1, 1, []) from by decide +kernel) (by decide) ?_
            refine e_iadd (show pAt 129 221 = some (221, .iadd, 1, []) from by decide +kernel) ?_
            refine e_pI (show pAt 129 222 = some (222, .putfield 47, 3, [7, 12, 0, 4135]) from by decide +kernel) (show HS (hpI (hpI (hpI h11 105 c.toNatClampNeg (h11.2.1 93 22)) 93 23 (((hpI h11 105 c.toNatClampNeg (h11.2.1 93 22)).2.1 93 23) - 1)) 93 24 (((hpI (hpI h11 105 c.toNatClampNeg (h11.2.1 93 22)) 93 23 (((hpI h11 105 c.toNatClampNeg (h11.2.1 93 22)).2.1 93 23) - 1)).2.1 93 24) - 1)) from hs_h11) (by decide) (Or.inl rfl) ?_
            refine e_aload_n (show pAt 129 225 = some (225, .aload_n 0, 1, []) from by decide +kernel) rfl (ra (by decide)) ?_
            refine Ends.call (show pAt 129 226 = some (226, .invokevirtual 236, 3, [125, 1, 0, 0, 5157, 5159, 68]) from by decide +kernel) (isRet_none rfl) rfl (call_this (show HS (hpI (hpI (hpI (hpI h11 105 c.toNatClampNeg (h11.2.1 93 22)) 93 23 (((hpI h11 105 c.toNatClampNeg (h11.2.1 93 22)).2.1 93 23) - 1)) 93 24 (((hpI (hpI h11 105 c.toNatClampNeg (h11.2.1 93 22)) 93 23 (((hpI h11 105 c.toNatClampNeg (h11.2.1 93 22)).2.1 93 23) - 1)).2.1 93 24) - 1)) 93 12 (((hpI (hpI (hpI h11 105 c.toNatClampNeg (h11.2.1 93 22)) 93 23 (((hpI h11 105 c.toNatClampNeg (h11.2.1 93 22)).2.1 93 23) - 1)) 93 24 (((hpI (hpI h11 105 c.toNatClampNeg (h11.2.1 93 22)) 93 23 (((hpI h11 105 c.toNatClampNeg (h11.2.1 93 22)).2.1 93 23) - 1)).2.1 93 24) - 1)).2.1 93 12) + 1)) from hs_h11) rfl rfl (by decide)) (Ends.mono vc ?_)
            rintro _ h17 ⟨rfl, hs_h17, vc⟩
            refine e_goto (t := 22) (show pAt 129 229 = some (229, .goto (-207), 3, []) from by decide +kernel) rfl ?_
            exact vc
          · replace vc := vc.2 c16
            refine e_iconst (c := 0) (show pAt 129 193 = some (193, .iconst 0, 1, []) from by decide +kernel) (by decide) ?_
            exact e_retZ (show pAt 129 194 = some (194, .ireturn, 1, []) from by decide +kernel) rfl (by decide) vc
        · replace vc := vc.2 c15
          refine e_iconst (c := 1) (show pAt 129 185 = some (185, .iconst 1, 1, []) from by decide +kernel) (by decide) ?_
          exact e_retZ (show pAt 129 186 = some (186, .ireturn, 1, []) from by decide +kernel) rfl (by decide) vc
      · replace vc := vc.2 c10
        refine e_aload_n (show pAt 129 122 = some (122, .aload_n 0, 1, []) from by decide +kernel) rfl (ra (by decide)) ?_
        refine e_iload_n (show pAt 129 123 = some (123, .iload_n 3, 1, []) from by decide +kernel) rfl ?_
        refine Ends.call (show pAt 129 124 = some (124, .invokevirtual 242, 3, [126, 2, 0, 0, 5161, 5163, 69]) from by decide +kernel) (isRet_none rfl) rfl (call_this (show HS h1 from hs_h1) rfl rfl (by decide)) (Ends.mono vc ?_)
        rintro _ h20 ⟨rfl, hs_h20, vc⟩
        refine e_aload_n (show pAt 129 127 = some (127, .aload_n 0, 1, []) from by decide +kernel) rfl (ra (by decide)) ?_
        refine e_gR (show pAt 129 128 = some (128, .getfield 74, 3, [7, 21, 0, 4144]) from by decide +kernel) (show HS h20 from hs_h20) rfl (by decide) (hs_ref (show HS h20 from hs_h20) rfl) ?_
        refine e_aload_n (show pAt 129 131 = some (131, .aload_n 0, 1, []) from by decide +kernel) rfl (ra (by decide)) ?_
        refine e_gI (show pAt 129 132 = some (132, .getfield 80, 3, [7, 23, 0, 4146]) from by decide +kernel) (show HS h20 from hs_h20) rfl (by decide) ?_
        refine e_iload_n (show pAt 129 135 = some (135, .iload_n 3, 1, []) from by decide +kernel) rfl ?_
        obtain ⟨c23, vc⟩ := vc
        refine e_ast (show pAt 129 136 = some (136, .iastore, 1, []) from by decide +kernel) (show HS h20 from hs_h20) (by decide) c23 ?_
        refine e_aload_n (show pAt 129 137 = some (137, .aload_n 0, 1, []) from by decide +kernel) rfl (ra (by decide)) ?_
        refine e_dupR (show pAt 129 138 = some (138, .dup, 1, []) from by decide +kernel) ?_
        refine e_gI (show pAt 129 139 = some (139, .getfield 80, 3, [7, 23, 0, 4146]) from by decide +kernel) (show HS (hpI h20 107 (h20.2.1 93 23).toNatClampNeg r2) from hs_h20) rfl (by decide) ?_
        refine e_iconst (c := 1) (show pAt 129 142 = some (142, .iconst 1, 1, []) from by decide +kernel) (by decide) ?_
        refine e_iadd (show pAt 129 143 = some (143, .iadd, 1, []) from by decide +kernel) ?_
        refine e_pI (show pAt 129 144 = some (144, .putfield 80, 3, [7, 23, 0, 4146]) from by decide +kernel) (show HS (hpI h20 107 (h20.2.1 93 23).toNatClampNeg r2) from hs_h20) (by decide) (Or.inl rfl) ?_
        refine e_iconst (c := 1) (show pAt 129 147 = some (147, .iconst 1, 1, []) from by decide +kernel) (by decide) ?_
        refine e_istore_n (show pAt 129 148 = some (148, .istore_n 2, 1, []) from by decide +kernel) ⟨Nat.le_of_ble_eq_true rfl, rfl⟩ rfl ?_
        refine e_aload_n (show pAt 129 149 = some (149, .aload_n 0, 1, []) from by decide +kernel) rfl (ra (by decide)) ?_
        refine e_dupR (show pAt 129 150 = some (150, .dup, 1, []) from by decide +kernel) ?_
        refine e_gI (show pAt 129 151 = some (151, .getfield 47, 3, [7, 12, 0, 4135]) from by decide +kernel) (show HS (hpI (hpI h20 107 (h20.2.1 93 23).toNatClampNeg r2) 93 23 (((hpI h20 107 (h20.2.1 93 23).toNatClampNeg r2).2.1 93 23) + 1)) from hs_h20) rfl (by decide) ?_
        refine e_iconst (c := 1) (show pAt 129 154 = some (154, .iconst 1, 1, []) from by decide +kernel) (by decide) ?_
        refine e_iadd (show pAt 129 155 = some (155, .iadd, 1, []) from by decide +kernel) ?_
        refine e_pI (show pAt 129 156 = some (156, .putfield 47, 3, [7, 12, 0, 4135]) from by decide +kernel) (show HS (hpI (hpI h20 107 (h20.2.1 93 23).toNatClampNeg r2) 93 23 (((hpI h20 107 (h20.2.1 93 23).toNatClampNeg r2).2.1 93 23) + 1)) from hs_h20) (by decide) (Or.inl rfl) ?_
        refine e_goto (t := 22) (show pAt 129 159 = some (159, .goto (-137), 3, []) from by decide +kernel) rfl ?_
        exact vc
  · replace vc := vc.2 c4
    refine e_iload_n (show pAt 129 31 = some (31, .iload_n 3, 1, []) from by decide +kernel) rfl ?_
    refine e_bipush (c := 33) (show pAt 129 32 = some (32, .bipush 33, 2, []) from by decide +kernel) (by decide) ?_
    refine e_icmp (t := 43) (show pAt 129 34 = some (34, .if_icmp .eq 9, 3, []) from by decide +kernel) rfl (fun c24 => ?_) (fun c24 => ?_)
    · replace vc := vc.1 c24
      refine e_aload_n (show pAt 129 43 = some (43, .aload_n 0, 1, []) from by decide +kernel) rfl (ra (by decide)) ?_
      refine e_gI (show pAt 129 44 = some (44, .getfield 83, 3, [7, 24, 0, 4147]) from by decide +kernel) (show HS h1 from hs_h1) rfl (by decide) ?_
      refine e_iconst (c := 4) (show pAt 129 47 = some (47, .iconst 4, 1, []) from by decide +kernel) (by decide) ?_
      refine e_icmp (t := 53) (show pAt 129 48 = some (48, .if_icmp .ne 5, 3, []) from by decide +kernel) rfl (fun c25 => ?_) (fun c25 => ?_)
      · replace vc := vc.1 c25
        refine e_aload_n (show pAt 129 53 = some (53, .aload_n 0, 1, []) from by decide +kernel) rfl (ra (by decide)) ?_
        refine e_dupR (show pAt 129 54 = some (54, .dup, 1, []) from by decide +kernel) ?_
        refine e_gI (show pAt 129 55 = some (55, .getfield 83, 3, [7, 24, 0, 4147]) from by decide +kernel) (show HS h1 from hs_h1) rfl (by decide) ?_
        refine e_iconst (c := 1) (show pAt 129 58 = some (58, .iconst 1, 1, []) from by decide +kernel) (by decide) ?_
        refine e_iadd (show pAt 129 59 = some (59, .iadd, 1, []) from by decide +kernel) ?_
        refine e_pI (show pAt 129 60 = some (60, .putfield 83, 3, [7, 24, 0, 4147]) from by decide +kernel) (show HS h1 from hs_h1) (by decide) (Or.inl rfl) ?_
        refine e_aload_n (show pAt 129 63 = some (63, .aload_n 0, 1, []) from by decide +kernel) rfl (ra (by decide)) ?_
        refine e_gR (show pAt 129 64 = some (64, .getfield 74, 3, [7, 21, 0, 4144]) from by decide +kernel) (show HS (hpI h1 93 24 ((h1.2.1 93 24) + 1)) from hs_h1) rfl (by decide) (hs_ref (show HS (hpI h1 93 24 ((h1.2.1 93 24) + 1)) from hs_h1) rfl) ?_
        refine e_aload_n (show pAt 129 67 = some (67, .aload_n 0, 1, []) from by decide +kernel) rfl (ra (by decide)) ?_
        refine e_gI (show pAt 129 68 = some (68, .getfield 80, 3, [7, 23, 0, 4146]) from by decide +kernel) (show HS (hpI h1 93 24 ((h1.2.1 93 24) + 1)) from hs_h1) rfl (by decide) ?_
        refine e_iload_n (show pAt 129 71 = some (71, .iload_n 3, 1, []) from by decide +kernel) rfl ?_
        obtain ⟨c26, vc⟩ := vc
        refine e_ast (show pAt 129 72 = some (72, .iastore, 1, []) from by decide +kernel) (show HS (hpI h1 93 24 ((h1.2.1 93 24) + 1)) from hs_h1) (by decide) c26 ?_
        refine e_aload_n (show pAt 129 73 = some (73, .aload_n 0, 1, []) from by decide +kernel) rfl (ra (by decide)) ?_
        refine e_dupR (show pAt 129 74 = some (74, .dup, 1, []) from by decide +kernel) ?_
        refine e_gI (show pAt 129 75 = some (75, .getfield 80, 3, [7, 23, 0, 4146]) from by decide +kernel) (show HS (hpI (hpI h1 93 24 ((h1.2.1 93 24) + 1)) 107 ((hpI h1 93 24 ((h1.2.1 93 24) + 1)).2.1 93 23).toNatClampNeg r2) from hs_h1) rfl (by decide) ?_
        refine e_iconst (c := 1) (show pAt 129 78 = some (78, .iconst 1, 1, []) from by decide +kernel) (by decide) ?_
        refine e_iadd (show pAt 129 79 = some (79, .iadd, 1, []) from by decide +kernel) ?_
        refine e_pI (show pAt 129 80 = some (80, .putfield 80, 3, [7, 23, 0, 4146]) from by decide +kernel) (show HS (hpI (hpI h1 93 24 ((h1.2.1 93 24) + 1)) 107 ((hpI h1 93 24 ((h1.2.1 93 24) + 1)).2.1 93 23).toNatClampNeg r2) from hs_h1) (by decide) (Or.inl rfl) ?_
        refine e_aload_n (show pAt 129 83 = some (83, .aload_n 0, 1, []) from by decide +kernel) rfl (ra (by decide)) ?_
        refine e_dupR (show pAt 129 84 = some (84, .dup, 1, []) from by decide +kernel) ?_
        refine e_gI (show pAt 129 85 = some (85, .getfield 47, 3, [7, 12, 0, 4135]) from by decide +kernel) (show HS (hpI (hpI (hpI h1 93 24 ((h1.2.1 93 24) + 1)) 107 ((hpI h1 93 24 ((h1.2.1 93 24) + 1)).2.1 93 23).toNatClampNeg r2) 93 23 (((hpI (hpI h1 93 24 ((h1.2.1 93 24) + 1)) 107 ((hpI h1 93 24 ((h1.2.1 93 24) + 1)).2.1 93 23).toNatClampNeg r2).2.1 93 23) + 1)) from hs_h1) rfl (by decide) ?_
        refine e_iconst (c := 1) (show pAt 129 88 = some (88, .iconst 1, 1, []) from by decide +kernel) (by decide) ?_
        refine e_iadd (show pAt 129 89 = some (89, .iadd, 1, []) from by decide +kernel) ?_
        refine e_pI (show pAt 129 90 = some (90, .putfield 47, 3, [7, 12, 0, 4135]) from by decide +kernel) (show HS (hpI (hpI (hpI h1 93 24 ((h1.2.1 93 24) + 1)) 107 ((hpI h1 93 24 ((h1.2.1 93 24) + 1)).2.1 93 23).toNatClampNeg r2) 93 23 (((hpI (hpI h1 93 24 ((h1.2.1 93 24) + 1)) 107 ((hpI h1 93 24 ((h1.2.1 93 24) + 1)).2.1 93 23).toNatClampNeg r2).2.1 93 23) + 1)) from hs_h1) (by decide) (Or.inl rfl) ?_
        refine e_goto (t := 22) (show pAt 129 93 = some (93, .goto (-71), 3, []) from by decide +kernel) rfl ?_
        exact vc
      · replace vc := vc.2 c25
        refine e_iconst (c := 0) (show pAt 129 51 = some (51, .iconst 0, 1, []) from by decide +kernel) (by decide) ?_
        exact e_retZ (show pAt 129 52 = some (52, .ireturn, 1, []) from by decide +kernel) rfl (by decide) vc
    · replace vc := vc.2 c24
      refine e_iload_n (show pAt 129 37 = some (37, .iload_n 3, 1, []) from by decide +kernel) rfl ?_
      refine e_bipush (c := 40) (show pAt 129 38 = some (38, .bipush 40, 2, []) from by decide +kernel) (by decide) ?_
      refine e_icmp (t := 96) (show pAt 129 40 = some (40, .if_icmp .ne 56, 3, []) from by decide +kernel) rfl (fun c27 => ?_) (fun c27 => ?_)
      · replace vc := vc.1 c27
        refine e_aload_n (show pAt 129 96 = some (96, .aload_n 0, 1, []) from by decide +kernel) rfl (ra (by decide)) ?_
        refine Ends.call (show pAt 129 97 = some (97, .invokevirtual 239, 3, [128, 1, 0, 0, 5145, 5147, 65]) from by decide +kernel) (isRet_none rfl) rfl (call_this (show HS h1 from hs_h1) rfl rfl (by decide)) (Ends.mono vc ?_)
        rintro _ h28 ⟨r29, rfl, hs_h28, vc⟩
        refine e_if (t := 108) (show pAt 129 100 = some (100, .ifCond .eq 8, 3, []) from by decide +kernel) rfl (fun c31 => ?_) (fun c31 => ?_)
        · replace vc := vc.1 c31
          refine e_iconst (c := 0) (show pAt 129 108 = some (108, .iconst 0, 1, []) from by decide +kernel) (by decide) ?_
          exact e_retZ (show pAt 129 109 = some (109, .ireturn, 1, []) from by decide +kernel) rfl (by decide) vc
        · replace vc := vc.2 c31
          refine e_iconst (c := 0) (show pAt 129 103 = some (103, .iconst 0, 1, []) from by decide +kernel) (by decide) ?_
          refine e_istore_n (show pAt 129 104 = some (104, .istore_n 2, 1, []) from by decide +kernel) ⟨Nat.le_of_ble_eq_true rfl, rfl⟩ rfl ?_
          refine e_goto (t := 22) (show pAt 129 105 = some (105, .goto (-83), 3, []) from by decide +kernel) rfl ?_
          exact vc
      · replace vc := vc.2 c27
        refine e_aload_n (show pAt 129 43 = some (43, .aload_n 0, 1, []) from by decide +kernel) rfl (ra (by decide)) ?_
        refine e_gI (show pAt 129 44 = some (44, .getfield 83, 3, [7, 24, 0, 4147]) from by decide +kernel) (show HS h1 from hs_h1) rfl (by decide) ?_
        refine e_iconst (c := 4) (show pAt 129 47 = some (47, .iconst 4, 1, []) from by decide +kernel) (by decide) ?_
        refine e_icmp (t := 53) (show pAt 129 48 = some (48, .if_icmp .ne 5, 3, []) from by decide +kernel) rfl (fun c32 => ?_) (fun c32 => ?_)
        · replace vc := vc.1 c32
          refine e_aload_n (show pAt 129 53 = some (53, .aload_n 0, 1, []) from by decide +kernel) rfl (ra (by decide)) ?_
          refine e_dupR (show pAt 129 54 = some (54, .dup, 1, []) from by decide +kernel) ?_
          refine e_gI (show pAt 129 55 = some (55, .getfield 83, 3, [7, 24, 0, 4147]) from by decide +kernel) (show HS h1 from hs_h1) rfl (by decide) ?_
          refine e_iconst (c := 1) (show pAt 129 58 = some (58, .iconst 1, 1, []) from by decide +kernel) (by decide) ?_
          refine e_iadd (show pAt 129 59 = some (59, .iadd, 1, []) from by decide +kernel) ?_
          refine e_pI (show pAt 129 60 = some (60, .putfield 83, 3, [7, 24, 0, 4147]) from by decide +kernel) (show HS h1 from hs_h1) (by decide) (Or.inl rfl) ?_
          refine e_aload_n (show pAt 129 63 = some (63, .aload_n 0, 1, []) from by decide +kernel) rfl (ra (by decide)) ?_
          refine e_gR (show pAt 129 64 = some (64, .getfield 74, 3, [7, 21, 0, 4144]) from by decide +kernel) (show HS (hpI h1 93 24 ((h1.2.1 93 24) + 1)) from hs_h1) rfl (by decide) (hs_ref (show HS (hpI h1 93 24 ((h1.2.1 93 24) + 1)) from hs_h1) rfl) ?_
          refine e_aload_n (show pAt 129 67 = some (67, .aload_n 0, 1, []) from by decide +kernel) rfl (ra (by decide)) ?_
          refine e_gI (show pAt 129 68 = some (68, .getfield 80, 3, [7, 23, 0, 4146]) from by decide +kernel) (show HS (hpI h1 93 24 ((h1.2.1 93 24) + 1)) from hs_h1) rfl (by decide) ?_
          refine e_iload_n (show pAt 129 71 = some (71, .iload_n 3, 1, []) from by decide +kernel) rfl ?_
          obtain ⟨c33, vc⟩ := vc
          refine e_ast (show pAt 129 72 = some (72, .iastore, 1, []) from by decide +kernel) (show HS (hpI h1 93 24 ((h1.2.1 93 24) + 1)) from hs_h1) (by decide) c33 ?_
          refine e_aload_n (show pAt 129 73 = some (73, .aload_n 0, 1, []) from by decide +kernel) rfl (ra (by decide)) ?_
          refine e_dupR (show pAt 129 74 = some (74, .dup, 1, []) from by decide +kernel) ?_
          refine e_gI (show pAt 129 75 = some (75, .getfield 80, 3, [7, 23, 0, 4146]) from by decide +kernel) (show HS (hpI (hpI h1 93 24 ((h1.2.1 93 24) + 1)) 107 ((hpI h1 93 24 ((h1.2.1 93 24) + 1)).2.1 93 23).toNatClampNeg r2) from hs_h1) rfl (by decide) ?_
          refine e_iconst (c := 1) (show pAt 129 78 = some (78, .iconst 1, 1, []) from by decide +kernel) (by decide) ?_
          refine e_iadd (show pAt 129 79 = some (79, .iadd, 1, []) from by decide +kernel) ?_
          refine e_pI (show pAt 129 80 = some (80, .putfield 80, 3, [7, 23, 0, 4146]) from by decide +kernel) (show HS (hpI (hpI h1 93 24 ((h1.2.1 93 24) + 1)) 107 ((hpI h1 93 24 ((h1.2.1 93 24) + 1)).2.1 93 23).toNatClampNeg r2) from hs_h1) (by decide) (Or.inl rfl) ?_
          refine e_aload_n (show pAt 129 83 = some (83, .aload_n 0, 1, []) from by decide +kernel) rfl (ra (by decide)) ?_
          refine e_dupR (show pAt 129 84 = some (84, .dup, 1, []) from by decide +kernel) ?_
          refine e_gI (show pAt 129 85 = some (85, .getfield 47, 3, [7, 12, 0, 4135]) from by decide +kernel) (show HS (hpI (hpI (hpI h1 93 24 ((h1.2.1 93 24) + 1)) 107 ((hpI h1 93 24 ((h1.2.1 93 24) + 1)).2.1 93 23).toNatClampNeg r2) 93 23 (((hpI (hpI h1 93 24 ((h1.2.1 93 24) + 1)) 107 ((hpI h1 93 24 ((h1.2.1 93 24) + 1)).2.1 93 23).toNatClampNeg r2).2.1 93 23) + 1)) from hs_h1) rfl (by decide) ?_
          refine e_iconst (c := 1) (show pAt 129 88 = some (88, .iconst 1, 1, []) from by decide +kernel) (by decide) ?_
          refine e_iadd (show pAt 129 89 = some (89, .iadd, 1, []) from by decide +kernel) ?_
          refine e_pI (show pAt 129 90 = some (90, .putfield 47, 3, [7, 12, 0, 4135]) from by decide +kernel) (show HS (hpI (hpI (hpI h1 93 24 ((h1.2.1 93 24) + 1)) 107 ((hpI h1 93 24 ((h1.2.1 93 24) + 1)).2.1 93 23).toNatClampNeg r2) 93 23 (((hpI (hpI h1 93 24 ((h1.2.1 93 24) + 1)) 107 ((hpI h1 93 24 ((h1.2.1 93 24) + 1)).2.1 93 23).toNatClampNeg r2).2.1 93 23) + 1)) from hs_h1) (by decide) (Or.inl rfl) ?_
          refine e_goto (t := 22) (show pAt 129 93 = some (93, .goto (-71), 3, []) from by decide +kernel) rfl ?_
          exact vc
        · replace vc := vc.2 c32
          refine e_iconst (c := 0) (show pAt 129 51 = some (51, .iconst 0, 1, []) from by decide +kernel) (by decide) ?_
          exact e_retZ (show pAt 129 52 = some (52, .ireturn, 1, []) from by decide +kernel) rfl (by decide) vc

theorem w_head {X : Scr} {dp : Nat} {h : Hp} {Q : Option Value → Hp → Prop} (c : Int32) (hs : HS h)
    (vc : Ends X dp 119 0 [.ref 93] [] h (fun rv h1 => ∃ r2, rv = some (.int r2) ∧ HS h1 ∧ (((¬ (104 : Int) = r2.toInt ∧ ¬ (114 : Int) = r2.toInt) → (inB c 60 = true ∧ Ends X dp 121 0 [.ref 93, .int 9, .int 5, .retAddr 0] [] (hpI h1 102 c.toNatClampNeg 2) (fun rv h6 => ∃ r7, rv = some (.int r7) ∧ HS h6 ∧ (r7 = 0 ∨ r7 = 1) ∧ Q (some (.int r7)) h6))) ∧ (r2.toInt = 104 → (inB c 60 = true ∧ Ends X dp 121 0 [.ref 93, .int 5, .int 4, .retAddr 0] [] (hpI h1 102 c.toNatClampNeg 1) (fun rv h10 => ∃ r11, rv = some (.int r11) ∧ HS h10 ∧ (r11 = 0 ∨ r11 = 1) ∧ Q (some (.int r11)) h10))) ∧ (r2.toInt = 114 → (inB c 60 = true ∧ Ends X dp 121 0 [.ref 93, .int 0, .int 5, .retAddr 0] [] (hpI h1 102 c.toNatClampNeg 0) (fun rv h14 => ∃ r15, rv = some (.int r15) ∧ HS h14 ∧ (r15 = 0 ∨ r15 = 1) ∧ Q (some (.int r15)) h14)))))) :
    Ends X (dp + 1) 130 0 [.ref 93, .int c] [] h Q := by
  have ra : ∀ {a : Nat}, a < 1000 → a ≤ OLDB := fun h => by have := OLDB_eq; omega
  refine e_aload_n (show pAt 130 0 = some (0, .aload_n 0, 1, []) from by decide +kernel) rfl (ra (by decide)) ?_
  refine Ends.call (show pAt 130 1 = some (1, .invokevirtual 214, 3, [119, 1, 0, 0, 5121, 5123, 59]) from by decide +kernel) (isRet_none rfl) rfl (call_this (show HS h from hs) rfl rfl (by decide)) (Ends.mono vc ?_)
  rintro _ h1 ⟨r2, rfl, hs_h1, vc⟩
  rcases (show (¬ (104 : Int) = r2.toInt ∧ ¬ (114 : Int) = r2.toInt) ∨ r2.toInt = 104 ∨ r2.toInt = 114 from by omega) with c4 | c4 | c4
  · refine e_ls (t := 60) (show pAt 130 4 = some (4, .lookupswitch 56 #[(104, 42), (114, 28)], 28, []) from by decide +kernel) (by decide) (ls_off (b := 56) (by simp [Op.lookupswitch.offset, c4]) rfl) ?_
    replace vc := vc.1 c4
    refine e_aload_n (show pAt 130 60 = some (60, .aload_n 0, 1, []) from by decide +kernel) rfl (ra (by decide)) ?_
    refine e_gR (show pAt 130 61 = some (61, .getfield 59, 3, [7, 16, 0, 4139]) from by decide +kernel) (show HS h1 from hs_h1) rfl (by decide) (hs_ref (show HS h1 from hs_h1) rfl) ?_
    refine e_iload_n (show pAt 130 64 = some (64, .iload_n 1, 1, []) from by decide +kernel) rfl ?_
    refine e_iconst (c := 2) (show pAt 130 65 = some (65, .iconst 2, 1, []) from by decide +kernel) (by decide) ?_
    obtain ⟨c5, vc⟩ := vc
    refine e_ast (show pAt 130 66 = some (66, .iastore, 1, []) from by decide +kernel) (show HS h1 from hs_h1) (by decide) c5 ?_
    refine e_aload_n (show pAt 130 67 = some (67, .aload_n 0, 1, []) from by decide +kernel) rfl (ra (by decide)) ?_
    refine e_bipush (c := 9) (show pAt 130 68 = some (68, .bipush 9, 2, []) from by decide +kernel) (by decide) ?_
    refine e_iconst (c := 5) (show pAt 130 70 = some (70, .iconst 5, 1, []) from by decide +kernel) (by decide) ?_
    refine Ends.call (show pAt 130 71 = some (71, .invokevirtual 245, 3, [121, 3, 0, 0, 5125, 5127, 60]) from by decide +kernel) (isRet_none rfl) rfl (call_this (show HS (hpI h1 102 c.toNatClampNeg 2) from hs_h1) rfl rfl (by decide)) (Ends.mono vc ?_)
    rintro _ h6 ⟨r7, rfl, hs_h6, vc⟩
    exact e_retZ (show pAt 130 74 = some (74, .ireturn, 1, []) from by decide +kernel) rfl vc.1 vc.2
  · refine e_ls (t := 46) (show pAt 130 4 = some (4, .lookupswitch 56 #[(104, 42), (114, 28)], 28, []) from by decide +kernel) (by decide) (ls_off (b := 42) (by simp [Op.lookupswitch.offset, c4]) rfl) ?_
    replace vc := vc.2.1 c4
    refine e_aload_n (show pAt 130 46 = some (46, .aload_n 0, 1, []) from by decide +kernel) rfl (ra (by decide)) ?_
    refine e_gR (show pAt 130 47 = some (47, .getfield 59, 3, [7, 16, 0, 4139]) from by decide +kernel) (show HS h1 from hs_h1) rfl (by decide) (hs_ref (show HS h1 from hs_h1) rfl) ?_
    refine e_iload_n (show pAt 130 50 = some (50, .iload_n 1, 1, []) from by decide +kernel) rfl ?_
    refine e_iconst (c := 1) (show pAt 130 51 = some (51, .iconst 1, 1, []) from by decide +kernel) (by decide) ?_
    obtain ⟨c9, vc⟩ := vc
    refine e_ast (show pAt 130 52 = some (52, .iastore, 1, []) from by decide +kernel) (show HS h1 from hs_h1) (by decide) c9 ?_
    refine e_aload_n (show pAt 130 53 = some (53, .aload_n 0, 1, []) from by decide +kernel) rfl (ra (by decide)) ?_
    refine e_iconst (c := 5) (show pAt 130 54 = some (54, .iconst 5, 1, []) from by decide +kernel) (by decide) ?_
    refine e_iconst (c := 4) (show pAt 130 55 = some (55, .iconst 4, 1, []) from by decide +kernel) (by decide) ?_
    refine Ends.call (show pAt 130 56 = some (56, .invokevirtual 245, 3, [121, 3, 0, 0, 5125, 5127, 60]) from by decide +kernel) (isRet_none rfl) rfl (call_this (show HS (hpI h1 102 c.toNatClampNeg 1) from hs_h1) rfl rfl (by decide)) (Ends.mono vc ?_)
    rintro _ h10 ⟨r11, rfl, hs_h10, vc⟩
    exact e_retZ (show pAt 130 59 = some (59, .ireturn, 1, []) from by decide +kernel) rfl vc.1 vc.2
  · refine e_ls (t := 32) (show pAt 130 4 = some (4, .lookupswitch 56 #[(104, 42), (114, 28)], 28, []) from by decide +kernel) (by decide) (ls_off (b := 28) (by simp [Op.lookupswitch.offset, c4]) rfl) ?_
    replace vc := vc.2.2 c4
    refine e_aload_n (show pAt 130 32 = some (32, .aload_n 0, 1, []) from by decide +kernel) rfl (ra (by decide)) ?_
    refine e_gR (show pAt 130 33 = some (33, .getfield 59, 3, [7, 16, 0, 4139]) from by decide +kernel) (show HS h1 from hs_h1) rfl (by decide) (hs_ref (show HS h1 from hs_h1) rfl) ?_
    refine e_iload_n (show pAt 130 36 = some (36, .iload_n 1, 1, []) from by decide +kernel) rfl ?_
    refine e_iconst (c := 0) (show pAt 130 37 = some (37, .iconst 0, 1, []) from by decide +kernel) (by decide) ?_
    obtain ⟨c13, vc⟩ := vc
    refine e_ast (show pAt 130 38 = some (38, .iastore, 1, []) from by decide +kernel) (show HS h1 from hs_h1) (by decide) c13 ?_
    refine e_aload_n (show pAt 130 39 = some (39, .aload_n 0, 1, []) from by decide +kernel) rfl (ra (by decide)) ?_
    refine e_iconst (c := 0) (show pAt 130 40 = some (40, .iconst 0, 1, []) from by decide +kernel) (by decide) ?_
    refine e_iconst (c := 5) (show pAt 130 41 = some (41, .iconst 5, 1, []) from by decide +kernel) (by decide) ?_
    refine Ends.call (show pAt 130 42 = some (42, .invokevirtual 245, 3, [121, 3, 0, 0, 5125, 5127, 60]) from by decide +kernel) (isRet_none rfl) rfl (call_this (show HS (hpI h1 102 c.toNatClampNeg 0) from hs_h1) rfl rfl (by decide)) (Ends.mono vc ?_)
    rintro _ h14 ⟨r15, rfl, hs_h14, vc⟩
    exact e_retZ (show pAt 130 45 = some (45, .ireturn, 1, []) from by decide +kernel) rfl vc.1 vc.2

theorem w_clause {X : Scr} {dp : Nat} {h : Hp} {Q : Option Value → Hp → Prop} (c : Int32) (hs : HS h)
    (vc : Ends X dp 130 0 [.ref 93, .int c] [] h (fun rv h1 => ∃ r2, rv = some (.int r2) ∧ HS h1 ∧ ((condB .eq r2 0 = true → Q (some (.int 0)) h1) ∧ (condB .eq r2 0 = false → Ends X dp 123 0 [.ref 93, .retAddr 0] [] h1 (fun rv h5 => ∃ r6, rv = some (.int r6) ∧ HS h5 ∧ ((condB .ne r6 0 = true → (inB c 60 = true ∧ Ends X dp 120 0 [.ref 93, .int 32] [] (hpI h5 103 c.toNatClampNeg (h5.2.1 93 13)) (fun rv h10 => ∃ r11, rv = some (.int r11) ∧ HS h10 ∧ ((condB .eq r11 0 = true → Q (some (.int 0)) h10) ∧ (condB .eq r11 0 = false → Ends X dp 129 0 [.ref 93, .int c, .retAddr 0, .retAddr 0] [] h10 (fun rv h14 => ∃ r15, rv = some (.int r15) ∧ HS h14 ∧ ((condB .eq r15 0 = true → Q (some (.int 0)) h14) ∧ (condB .eq r15 0 = false → Q (some (.int 1)) h14)))))))) ∧ (condB .ne r6 0 = false → Q (some (.int 0)) h5))))))) :
    Ends X (dp + 1) 131 0 [.ref 93, .int c] [] h Q := by
  have ra : ∀ {a : Nat}, a < 1000 → a ≤ OLDB := fun h => by have := OLDB_eq; omega
  refine e_aload_n (show pAt 131 0 = some (0, .aload_n 0, 1, []) from by decide +kernel) rfl (ra (by decide)) ?_
  refine e_iload_n (show pAt 131 1 = some (1, .iload_n 1, 1, []) from by decide +kernel) rfl ?_
  refine Ends.call (show pAt 131 2 = some (2, .invokevirtual 249, 3, [130, 2, 0, 0, 5117, 5119, 58]) from by decide +kernel) (isRet_none rfl) rfl (call_this (show HS h from hs) rfl rfl (by decide)) (Ends.mono vc ?_)
  rintro _ h1 ⟨r2, rfl, hs_h1, vc⟩
  refine e_if (t := 15) (show pAt 131 5 = some (5, .ifCond .eq 10, 3, []) from by decide +kernel) rfl (fun c4 => ?_) (fun c4 => ?_)
  · replace vc := vc.1 c4
    refine e_iconst (c := 0) (show pAt 131 15 = some (15, .iconst 0, 1, []) from by decide +kernel) (by decide) ?_
    exact e_retZ (show pAt 131 16 = some (16, .ireturn, 1, []) from by decide +kernel) rfl (by decide) vc
  · replace vc := vc.2 c4
    refine e_aload_n (show pAt 131 8 = some (8, .aload_n 0, 1, []) from by decide +kernel) rfl (ra (by decide)) ?_
    refine Ends.call (show pAt 131 9 = some (9, .invokevirtual 233, 3, [123, 1, 0, 0, 5133, 5135, 62]) from by decide +kernel) (isRet_none rfl) rfl (call_this (show HS h1 from hs_h1) rfl rfl (by decide)) (Ends.mono vc ?_)
    rintro _ h5 ⟨r6, rfl, hs_h5, vc⟩
    refine e_if (t := 17) (show pAt 131 12 = some (12, .ifCond .ne 5, 3, []) from by decide +kernel) rfl (fun c8 => ?_) (fun c8 => ?_)
    · replace vc := vc.1 c8
      refine e_aload_n (show pAt 131 17 = some (17, .aload_n 0, 1, []) from by decide +kernel) rfl (ra (by decide)) ?_
      refine e_gR (show pAt 131 18 = some (18, .getfield 62, 3, [7, 17, 0, 4140]) from by decide +kernel) (show HS h5 from hs_h5) rfl (by decide) (hs_ref (show HS h5 from hs_h5) rfl) ?_
      refine e_iload_n (show pAt 131 21 = some (21, .iload_n 1, 1, []) from by decide +kernel) rfl ?_
      refine e_aload_n (show pAt 131 22 = some (22, .aload_n 0, 1, []) from by decide +kernel) rfl (ra (by decide)) ?_
      refine e_gI (show pAt 131 23 = some (23, .getfield 50, 3, [7, 13, 0, 4136]) from by decide +kernel) (show HS h5 from hs_h5) rfl (by decide) ?_
      obtain ⟨c9, vc⟩ := vc
      refine e_ast (show pAt 131 26 = some (26, .iastore, 1, []) from by decide +kernel) (show HS h5 from hs_h5) (by decide) c9 ?_
      refine e_aload_n (show pAt 131 27 = some (27, .aload_n 0, 1, []) from by decide +kernel) rfl (ra (by decide)) ?_
      refine e_bipush (c := 32) (show pAt 131 28 = some (28, .bipush 32, 2, []) from by decide +kernel) (by decide) ?_
      refine Ends.call (show pAt 131 30 = some (30, .invokevirtual 218, 3, [120, 2, 0, 0, 5129, 5131, 61]) from by decide +kernel) (isRet_none rfl) rfl (call_this (show HS (hpI h5 103 c.toNatClampNeg (h5.2.1 93 13)) from hs_h5) rfl rfl (by decide)) (Ends.mono vc ?_)
      rintro _ h10 ⟨r11, rfl, hs_h10, vc⟩
      refine e_if (t := 48) (show pAt 131 33 = some (33, .ifCond .eq 15, 3, []) from by decide +kernel) rfl (fun c13 => ?_) (fun c13 => ?_)
      · replace vc := vc.1 c13
        refine e_iconst (c := 0) (show pAt 131 48 = some (48, .iconst 0, 1, []) from by decide +kernel) (by decide) ?_
        exact e_retZ (show pAt 131 49 = some (49, .ireturn, 1, []) from by decide +kernel) rfl (by decide) vc
      · replace vc := vc.2 c13
        refine e_aload_n (show pAt 131 36 = some (36, .aload_n 0, 1, []) from by decide +kernel) rfl (ra (by decide)) ?_
        refine e_iload_n (show pAt 131 37 = some (37, .iload_n 1, 1, []) from by decide +kernel) rfl ?_
        refine Ends.call (show pAt 131 38 = some (38, .invokevirtual 252, 3, [129, 2, 0, 0, 5141, 5143, 64]) from by decide +kernel) (isRet_none rfl) rfl (call_this (show HS h10 from hs_h10) rfl rfl (by decide)) (Ends.mono vc ?_)
        rintro _ h14 ⟨r15, rfl, hs_h14, vc⟩
        refine e_if (t := 48) (show pAt 131 41 = some (41, .ifCond .eq 7, 3, []) from by decide +kernel) rfl (fun c17 => ?_) (fun c17 => ?_)
        · replace vc := vc.1 c17
          refine e_iconst (c := 0) (show pAt 131 48 = some (48, .iconst 0, 1, []) from by decide +kernel) (by decide) ?_
          exact e_retZ (show pAt 131 49 = some (49, .ireturn, 1, []) from by decide +kernel) rfl (by decide) vc
        · replace vc := vc.2 c17
          refine e_iconst (c := 1) (show pAt 131 44 = some (44, .iconst 1, 1, []) from by decide +kernel) (by decide) ?_
          refine e_goto (t := 49) (show pAt 131 45 = some (45, .goto 4, 3, []) from by decide +kernel) rfl ?_
          exact e_retZ (show pAt 131 49 = some (49, .ireturn, 1, []) from by decide +kernel) rfl (by decide) vc
    · replace vc := vc.2 c8
      refine e_iconst (c := 0) (show pAt 131 15 = some (15, .iconst 0, 1, []) from by decide +kernel) (by decide) ?_
      exact e_retZ (show pAt 131 16 = some (16, .ireturn, 1, []) from by decide +kernel) rfl (by decide) vc

theorem w_gt0 {X : Scr} {dp : Nat} {h : Hp} {Q : Option Value → Hp → Prop} (f : Int32) (hs : HS h)
    (vc : Ends X dp 132 15 [.ref 93, .int f, .int 0] [] (hpI (hpI h 93 12 0) 93 22 (100 * f)) Q) :
    Ends X dp 132 0 [.ref 93, .int f, .retAddr 0] [] h Q := by
  have ra : ∀ {a : Nat}, a < 1000 → a ≤ OLDB := fun h => by have := OLDB_eq; omega
  refine e_aload_n (show pAt 132 0 = some (0, .aload_n 0, 1, []) from by decide +kernel) rfl (ra (by decide)) ?_
  refine e_iconst (c := 0) (show pAt 132 1 = some (1, .iconst 0, 1, []) from by decide +kernel) (by decide) ?_
  refine e_pI (show pAt 132 2 = some (2, .putfield 47, 3, [7, 12, 0, 4135]) from by decide +kernel) (show HS h from hs) (by decide) (Or.inl rfl) ?_
  refine e_aload_n (show pAt 132 5 = some (5, .aload_n 0, 1, []) from by decide +kernel) rfl (ra (by decide)) ?_
  refine e_bipush (c := 100) (show pAt 132 6 = some (6, .bipush 100, 2, []) from by decide +kernel) (by decide) ?_
  refine e_iload_n (show pAt 132 8 = some (8, .iload_n 1, 1, []) from by decide +kernel) rfl ?_
  refine e_imul (show pAt 132 9 = some (9, .imul, 1, []) from by decide +kernel) ?_
  refine e_pI (show pAt 132 10 = some (10, .putfield 77, 3, [7, 22, 0, 4145]) from by decide +kernel) (show HS (hpI h 93 12 0) from hs) (by decide) (Or.inl rfl) ?_
  refine e_iconst (c := 0) (show pAt 132 13 = some (13, .iconst 0, 1, []) from by decide +kernel) (by decide) ?_
  refine e_istore_n (show pAt 132 14 = some (14, .istore_n 2, 1, []) from by decide +kernel) ⟨Nat.le_of_ble_eq_true rfl, rfl⟩ rfl ?_
  exact vc

theorem w_gt1 {X : Scr} {dp : Nat} {h : Hp} {Q : Option Value → Hp → Prop} (f : Int32) (n : Int32) (hs : HS h)
    (vc : Ends X dp 131 0 [.ref 93, .int ((10 * f) + n)] [] h (fun rv h1 => ∃ r2, rv = some (.int r2) ∧ HS h1 ∧ ((condB .ne r2 0 = true → (inB f 6 = true ∧ ((condB .ne ((hpI h1 101 f.toNatClampNeg (n + 1)).2.1 93 12) ((hpI h1 101 f.toNatClampNeg (n + 1)).2.1 93 11) = true → ((condB .eq (n + 1) 10 = true → Q (some (.int 0)) (hpI h1 101 f.toNatClampNeg (n + 1))) ∧ (condB .eq (n + 1) 10 = false → Ends X dp 120 0 [.ref 93, .int 59] [] (hpI h1 101 f.toNatClampNeg (n + 1)) (fun rv h8 => ∃ r9, rv = some (.int r9) ∧ HS h8 ∧ ((condB .ne r9 0 = true → Ends X (dp + 1) 132 15 [.ref 93, .int f, .int (n + 1)] [] h8 Q) ∧ (condB .ne r9 0 = false → Q (some (.int 0)) h8)))))) ∧ (condB .ne ((hpI h1 101 f.toNatClampNeg (n + 1)).2.1 93 12) ((hpI h1 101 f.toNatClampNeg (n + 1)).2.1 93 11) = false → Q (some (.int 1)) (hpI h1 101 f.toNatClampNeg (n + 1)))))) ∧ (condB .ne r2 0 = false → Q (some (.int 0)) h1)))) :
    Ends X (dp + 1) 132 15 [.ref 93, .int f, .int n] [] h Q := by
  have ra : ∀ {a : Nat}, a < 1000 → a ≤ OLDB := fun h => by have := OLDB_eq; omega
  refine e_aload_n (show pAt 132 15 = some (15, .aload_n 0, 1, []) from by decide +kernel) rfl (ra (by decide)) ?_
  refine e_bipush (c := 10) (show pAt 132 16 = some (16, .bipush 10, 2, []) from by decide +kernel) (by decide) ?_
  refine e_iload_n (show pAt 132 18 = some (18, .iload_n 1, 1, []) from by decide +kernel) rfl ?_
  refine e_imul (show pAt 132 19 = some (19, .imul, 1, []) from by decide +kernel) ?_
  refine e_iload_n (show pAt 132 20 = some (20, .iload_n 2, 1, []) from by decide +kernel) rfl ?_
  refine e_iadd (show pAt 132 21 = some (21, .iadd, 1, []) from by decide +kernel) ?_
  refine Ends.call (show pAt 132 22 = some (22, .invokevirtual 255, 3, [131, 2, 0, 0, 5113, 5115, 57]) from by decide +kernel) (isRet_none rfl) rfl (call_this (show HS h from hs) rfl rfl (by decide)) (Ends.mono vc ?_)
  rintro _ h1 ⟨r2, rfl, hs_h1, vc⟩
  refine e_if (t := 30) (show pAt 132 25 = some (25, .ifCond .ne 5, 3, []) from by decide +kernel) rfl (fun c4 => ?_) (fun c4 => ?_)
  · replace vc := vc.1 c4
    refine e_iinc (c := 1) (show pAt 132 30 = some (30, .iinc 2 1, 3, []) from by decide +kernel) rfl rfl (by decide) rfl ?_
    refine e_aload_n (show pAt 132 33 = some (33, .aload_n 0, 1, []) from by decide +kernel) rfl (ra (by decide)) ?_
    refine e_gR (show pAt 132 34 = some (34, .getfield 56, 3, [7, 15, 0, 4138]) from by decide +kernel) (show HS h1 from hs_h1) rfl (by decide) (hs_ref (show HS h1 from hs_h1) rfl) ?_
    refine e_iload_n (show pAt 132 37 = some (37, .iload_n 1, 1, []) from by decide +kernel) rfl ?_
    refine e_iload_n (show pAt 132 38 = some (38, .iload_n 2, 1, []) from by decide +kernel) rfl ?_
    obtain ⟨c5, vc⟩ := vc
    refine e_ast (show pAt 132 39 = some (39, .iastore, 1, []) from by decide +kernel) (show HS h1 from hs_h1) (by decide) c5 ?_
    refine e_aload_n (show pAt 132 40 = some (40, .aload_n 0, 1, []) from by decide +kernel) rfl (ra (by decide)) ?_
    refine e_gI (show pAt 132 41 = some (41, .getfield 47, 3, [7, 12, 0, 4135]) from by decide +kernel) (show HS (hpI h1 101 f.toNatClampNeg (n + 1)) from hs_h1) rfl (by decide) ?_
    refine e_aload_n (show pAt 132 44 = some (44, .aload_n 0, 1, []) from by decide +kernel) rfl (ra (by decide)) ?_
    refine e_gI (show pAt 132 45 = some (45, .getfield 44, 3, [7, 11, 0, 4134]) from by decide +kernel) (show HS (hpI h1 101 f.toNatClampNeg (n + 1)) from hs_h1) rfl (by decide) ?_
    refine e_icmp (t := 53) (show pAt 132 48 = some (48, .if_icmp .ne 5, 3, []) from by decide +kernel) rfl (fun c6 => ?_) (fun c6 => ?_)
    · replace vc := vc.1 c6
      refine e_iload_n (show pAt 132 53 = some (53, .iload_n 2, 1, []) from by decide +kernel) rfl ?_
      refine e_bipush (c := 10) (show pAt 132 54 = some (54, .bipush 10, 2, []) from by decide +kernel) (by decide) ?_
      refine e_icmp (t := 68) (show pAt 132 56 = some (56, .if_icmp .eq 12, 3, []) from by decide +kernel) rfl (fun c7 => ?_) (fun c7 => ?_)
      · replace vc := vc.1 c7
        refine e_iconst (c := 0) (show pAt 132 68 = some (68, .iconst 0, 1, []) from by decide +kernel) (by decide) ?_
        exact e_retZ (show pAt 132 69 = some (69, .ireturn, 1, []) from by decide +kernel) rfl (by decide) vc
      · replace vc := vc.2 c7
        refine e_aload_n (show pAt 132 59 = some (59, .aload_n 0, 1, []) from by decide +kernel) rfl (ra (by decide)) ?_
        refine e_bipush (c := 59) (show pAt 132 60 = some (60, .bipush 59, 2, []) from by decide +kernel) (by decide) ?_
        refine Ends.call (show pAt 132 62 = some (62, .invokevirtual 218, 3, [120, 2, 0, 0, 5129, 5131, 61]) from by decide +kernel) (isRet_none rfl) rfl (call_this (show HS (hpI h1 101 f.toNatClampNeg (n + 1)) from hs_h1) rfl rfl (by decide)) (Ends.mono vc ?_)
        rintro _ h8 ⟨r9, rfl, hs_h8, vc⟩
        refine e_if (t := 15) (show pAt 132 65 = some (65, .ifCond .ne (-50), 3, []) from by decide +kernel) rfl (fun c11 => ?_) (fun c11 => ?_)
        · replace vc := vc.1 c11
          exact vc
        · replace vc := vc.2 c11
          refine e_iconst (c := 0) (show pAt 132 68 = some (68, .iconst 0, 1, []) from by decide +kernel) (by decide) ?_
          exact e_retZ (show pAt 132 69 = some (69, .ireturn, 1, []) from by decide +kernel) rfl (by decide) vc
    · replace vc := vc.2 c6
      refine e_iconst (c := 1) (show pAt 132 51 = some (51, .iconst 1, 1, []) from by decide +kernel) (by decide) ?_
      exact e_retZ (show pAt 132 52 = some (52, .ireturn, 1, []) from by decide +kernel) rfl (by decide) vc
  · replace vc := vc.2 c4
    refine e_iconst (c := 0) (show pAt 132 28 = some (28, .iconst 0, 1, []) from by decide +kernel) (by decide) ?_
    exact e_retZ (show pAt 132 29 = some (29, .ireturn, 1, []) from by decide +kernel) rfl (by decide) vc

theorem w_yard {X : Scr} {dp : Nat} {h : Hp} {Q : Option Value → Hp → Prop}  (hs : HS h)
    (vc : ((condB .ne (h.2.1 93 9) 6 = true → Ends X dp 132 0 [.ref 93, .int (h.2.1 93 9), .retAddr 0] [] h (fun rv h2 => ∃ r3, rv = some (.int r3) ∧ HS h2 ∧ ((condB .ne r3 0 = true → Q (some (.int ((hpI (hpI (hpI h2 93 11 0) 93 10 ((hpI h2 93 11 0).2.1 93 9)) 93 9 (((hpI (hpI h2 93 11 0) 93 10 ((hpI h2 93 11 0).2.1 93 9)).2.1 93 9) + 1)).2.1 93 10))) (hpI (hpI (hpI h2 93 11 0) 93 10 ((hpI h2 93 11 0).2.1 93 9)) 93 9 (((hpI (hpI h2 93 11 0) 93 10 ((hpI h2 93 11 0).2.1 93 9)).2.1 93 9) + 1))) ∧ (condB .ne r3 0 = false → Q (some (.int ((-10) - ((hpI h2 93 11 0).2.1 93 12)))) (hpI h2 93 11 0))))) ∧ (condB .ne (h.2.1 93 9) 6 = false → Q (some (.int (-4))) h))) :
    Ends X (dp + 1) 133 0 [.ref 93, .retAddr 0] [] h Q := by
  have ra : ∀ {a : Nat}, a < 1000 → a ≤ OLDB := fun h => by have := OLDB_eq; omega
  refine e_aload_n (show pAt 133 0 = some (0, .aload_n 0, 1, []) from by decide +kernel) rfl (ra (by decide)) ?_
  refine e_gI (show pAt 133 1 = some (1, .getfield 38, 3, [7, 9, 0, 4132]) from by decide +kernel) (show HS h from hs) rfl (by decide) ?_
  refine e_bipush (c := 6) (show pAt 133 4 = some (4, .bipush 6, 2, []) from by decide +kernel) (by decide) ?_
  refine e_icmp (t := 12) (show pAt 133 6 = some (6, .if_icmp .ne 6, 3, []) from by decide +kernel) rfl (fun c1 => ?_) (fun c1 => ?_)
  · replace vc := vc.1 c1
    refine e_aload_n (show pAt 133 12 = some (12, .aload_n 0, 1, []) from by decide +kernel) rfl (ra (by decide)) ?_
    refine e_aload_n (show pAt 133 13 = some (13, .aload_n 0, 1, []) from by decide +kernel) rfl (ra (by decide)) ?_
    refine e_gI (show pAt 133 14 = some (14, .getfield 38, 3, [7, 9, 0, 4132]) from by decide +kernel) (show HS h from hs) rfl (by decide) ?_
    refine Ends.call (show pAt 133 17 = some (17, .invokevirtual 258, 3, [132, 2, 0, 0, 5109, 5111, 56]) from by decide +kernel) (isRet_none rfl) rfl (call_this (show HS h from hs) rfl rfl (by decide)) (Ends.mono vc ?_)
    rintro _ h2 ⟨r3, rfl, hs_h2, vc⟩
    refine e_istore_n (show pAt 133 20 = some (20, .istore_n 1, 1, []) from by decide +kernel) ⟨Nat.le_of_ble_eq_true rfl, rfl⟩ rfl ?_
    refine e_aload_n (show pAt 133 21 = some (21, .aload_n 0, 1, []) from by decide +kernel) rfl (ra (by decide)) ?_
    refine e_iconst (c := 0) (show pAt 133 22 = some (22, .iconst 0, 1, []) from by decide +kernel) (by decide) ?_
    refine e_pI (show pAt 133 23 = some (23, .putfield 44, 3, [7, 11, 0, 4134]) from by decide +kernel) (show HS h2 from hs_h2) (by decide) (Or.inl rfl) ?_
    refine e_iload_n (show pAt 133 26 = some (26, .iload_n 1, 1, []) from by decide +kernel) rfl ?_
    refine e_if (t := 38) (show pAt 133 27 = some (27, .ifCond .ne 11, 3, []) from by decide +kernel) rfl (fun c5 => ?_) (fun c5 => ?_)
    · replace vc := vc.1 c5
      refine e_aload_n (show pAt 133 38 = some (38, .aload_n 0, 1, []) from by decide +kernel) rfl (ra (by decide)) ?_
      refine e_aload_n (show pAt 133 39 = some (39, .aload_n 0, 1, []) from by decide +kernel) rfl (ra (by decide)) ?_
      refine e_gI (show pAt 133 40 = some (40, .getfield 38, 3, [7, 9, 0, 4132]) from by decide +kernel) (show HS (hpI h2 93 11 0) from hs_h2) rfl (by decide) ?_
      refine e_pI (show pAt 133 43 = some (43, .putfield 41, 3, [7, 10, 0, 4133]) from by decide +kernel) (show HS (hpI h2 93 11 0) from hs_h2) (by decide) (Or.inl rfl) ?_
      refine e_aload_n (show pAt 133 46 = some (46, .aload_n 0, 1, []) from by decide +kernel) rfl (ra (by decide)) ?_
      refine e_dupR (show pAt 133 47 = some (47, .dup, 1, []) from by decide +kernel) ?_
      refine e_gI (show pAt 133 48 = some (48, .getfield 38, 3, [7, 9, 0, 4132]) from by decide +kernel) (show HS (hpI (hpI h2 93 11 0) 93 10 ((hpI h2 93 11 0).2.1 93 9)) from hs_h2) rfl (by decide) ?_
      refine e_iconst (c := 1) (show pAt 133 51 = some (51, .iconst 1, 1, []) from by decide +kernel) (by decide) ?_
      refine e_iadd (show pAt 133 52 = some (52, .iadd, 1, []) from by decide +kernel) ?_
      refine e_pI (show pAt 133 53 = some (53, .putfield 38, 3, [7, 9, 0, 4132]) from by decide +kernel) (show HS (hpI (hpI h2 93 11 0) 93 10 ((hpI h2 93 11 0).2.1 93 9)) from hs_h2) (by decide) (Or.inl rfl) ?_
      refine e_aload_n (show pAt 133 56 = some (56, .aload_n 0, 1, []) from by decide +kernel) rfl (ra (by decide)) ?_
      refine e_gI (show pAt 133 57 = some (57, .getfield 41, 3, [7, 10, 0, 4133]) from by decide +kernel) (show HS (hpI (hpI (hpI h2 93 11 0) 93 10 ((hpI h2 93 11 0).2.1 93 9)) 93 9 (((hpI (hpI h2 93 11 0) 93 10 ((hpI h2 93 11 0).2.1 93 9)).2.1 93 9) + 1)) from hs_h2) rfl (by decide) ?_
      exact e_retI (show pAt 133 60 = some (60, .ireturn, 1, []) from by decide +kernel) rfl vc
    · replace vc := vc.2 c5
      refine e_bipush (c := (-10)) (show pAt 133 30 = some (30, .bipush (-10), 2, []) from by decide +kernel) (by decide) ?_
      refine e_aload_n (show pAt 133 32 = some (32, .aload_n 0, 1, []) from by decide +kernel) rfl (ra (by decide)) ?_
      refine e_gI (show pAt 133 33 = some (33, .getfield 47, 3, [7, 12, 0, 4135]) from by decide +kernel) (show HS (hpI h2 93 11 0) from hs_h2) rfl (by decide) ?_
      refine e_isub (show pAt 133 36 = some (36, .isub, 1, []) from by decide +kernel) ?_
      exact e_retI (show pAt 133 37 = some (37, .ireturn, 1, []) from by decide +kernel) rfl vc
  · replace vc := vc.2 c1
    refine e_bipush (c := (-4)) (show pAt 133 9 = some (9, .bipush (-4), 2, []) from by decide +kernel) (by decide) ?_
    exact e_retI (show pAt 133 11 = some (11, .ireturn, 1, []) from by decide +kernel) rfl vc
end JN78parse
section JN79parse2
/-! The reading of the texts of the reference, exactly: its leaves. -/
def nxP (T : Nat → Int) (n a : Nat) : Int := if a < n then T a else -1
/-- the text's bytes, how many there are, the place -/
def tT (h : Hp) : Nat → Int := fun i => (h.2.1 100 i).toInt
def tN (h : Hp) : Nat := (h.2.1 93 11).toInt.toNat
def tA (h : Hp) : Nat := (h.2.1 93 12).toInt.toNat
def isD (x : Int) : Bool := decide (48 ≤ x) && decide (x ≤ 57)
def numP (T : Nat → Int) (n a : Nat) : Option (Int × Nat) := if isD (nxP T n a) = true then (if isD (nxP T n (a + 1)) = true then some (10 * (nxP T n a - 48) + (nxP T n (a + 1) - 48), a + 2) else some (nxP T n a - 48, a + 1)) else none
def plcP (x : Int) : Int := if x = 112 then 0 else if x = 107 then 1 else if x = 108 then 2 else if x = 115 then 3 else if x = 97 then 4 else if x = 121 then 5 else -1
def wrdP (T : Nat → Int) (n : Nat) : List Int → Nat → Bool × Nat
  | [], a => if nxP T n a = 32 then (true, a + 1) else (false, a)
  | c :: l, a => if nxP T n a = c then wrdP T n l (a + 1) else (false, a)
def WA : List (Nat × Nat) := [(93, 12)]
section PARSE
variable {X : Scr} {dp : Nat} {h : Hp} {Q : Option Value → Hp → Prop}
theorem tA_v (hh : HI h) : (h.2.1 93 12).toInt = tA h ∧ tA h ≤ 100 := by
  have := hh.iv 93 12 (r := (0, 100)) rfl
  simp only at this
  unfold tA
  omega
theorem tN_v (hh : HI h) : (h.2.1 93 11).toInt = tN h ∧ tN h ≤ 100 := by
  have := hh.iv 93 11 (r := (0, 100)) rfl
  simp only at this
  unfold tN
  omega
theorem nx_rng (hh : HI h) : -1 ≤ nxP (tT h) (tN h) (tA h) ∧ nxP (tT h) (tN h) (tA h) ≤ 127 ∧ (nxP (tT h) (tN h) (tA h) ≠ -1 → tA h < tN h) := by
  have := hh.iv 100 (tA h) (r := (0, 127)) rfl
  simp only at this
  unfold nxP
  split
  · exact ⟨by unfold tT; omega, by unfold tT; omega, fun _ => by assumption⟩
  · exact ⟨by omega, by omega, fun q => absurd rfl q⟩
theorem nx_ok (hh : HI h) (hQ : ∀ r : Int32, r.toInt = nxP (tT h) (tN h) (tA h) → Q (some (.int r)) h) : Ends X dp 119 0 [.ref 93] [] h Q := by
  obtain ⟨a1, a2⟩ := tA_v hh
  obtain ⟨b1, b2⟩ := tN_v hh
  unfold nxP at hQ
  refine w_next hh.hs ⟨fun e => ?_, fun e => ⟨?_, ?_⟩⟩
  · have e : (h.2.1 93 11).toInt ≤ (h.2.1 93 12).toInt := of_decide_eq_true (cI e)
    exact hQ _ (by rw [if_neg (by omega)]; rfl)
  all_goals have e : ¬ (h.2.1 93 11).toInt ≤ (h.2.1 93 12).toInt := of_decide_eq_false (cI e)
  · exact inB_iff (by omega) (by omega)
  · exact hQ _ (by rw [if_pos (by omega)]; rfl)
theorem tk_ok (c : Int32) (hc : 0 ≤ c.toInt) (hh : HI h)
    (hQ : ∀ h', HI h' → frm WA h h' → tA h' = (if nxP (tT h) (tN h) (tA h) = c.toInt then tA h + 1 else tA h) → Q (some (.int (b2i (decide (nxP (tT h) (tN h) (tA h) = c.toInt))))) h') : Ends X (dp + 1) 120 0 [.ref 93, .int c] [] h Q := by
  obtain ⟨a1, a2⟩ := tA_v hh
  obtain ⟨b1, b2⟩ := tN_v hh
  obtain ⟨n1, n2, n3⟩ := nx_rng hh
  refine w_takes c hh.hs (nx_ok hh (fun r hr => ⟨r, rfl, hh.hs, fun e => ?_, fun e => ?_⟩))
  · have e : r.toInt = c.toInt := of_decide_eq_true (cI e)
    rw [hr] at e
    rw [decide_eq_true e, if_pos e] at hQ
    have lt := n3 (by omega)
    have ev : (h.2.1 93 12 + 1).toInt = ((tA h + 1 : Nat) : Int) := by rw [i_add (by rw [i1]; omega) (by rw [i1]; omega), i1]; omega
    generalize h.2.1 93 12 + 1 = u at ev ⊢
    refine hQ _ (HI_put hh (by show (0 : Int) ≤ _; omega) (by show _ ≤ (100 : Int); omega)) (frm_put frm_refl rfl) ?_
    show ((hpI h 93 12 u).2.1 93 12).toInt.toNat = _
    rw [put_at]
    omega
  · have e : ¬ r.toInt = c.toInt := of_decide_eq_false (cI e)
    rw [hr] at e
    rw [decide_eq_false e, if_neg e] at hQ
    exact hQ h hh frm_refl rfl
theorem tT_fr {W : List (Nat × Nat)} {h' : Hp} (hf : frm W h h') (hw : ∀ k, inW W 100 k = false) : tT h' = tT h := by
  funext i
  unfold tT
  rw [frI hf (hw i)]
theorem tN_fr {W : List (Nat × Nat)} {h' : Hp} (hf : frm W h h') (hw : inW W 93 11 = false) : tN h' = tN h := by
  unfold tN
  rw [frI hf hw]
theorem WA_T (k : Nat) : inW WA 100 k = false := rfl
theorem tw_loop (T : Nat → Int) (n : Nat) (a b : Int32) (an bn : Nat) (ha : a.toInt = an) (hb : b.toInt = bn) (hab : an + bn ≤ 14) (h0 : Hp) (hT : tT h0 = T) (hN : tN h0 = n)
    (hQ : ∀ (ok : Bool) h', HI h' → frm WA h0 h' → (ok, tA h') = wrdP T n ((List.range bn).map (fun k => (h0.2.1 108 (an + k)).toInt)) (tA h0) → Q (some (.int (b2i ok))) h') :
    ∀ (m kn : Nat) (k : Int32) (h : Hp), HI h → frm WA h0 h → k.toInt = kn → kn + m = bn → wrdP T n ((List.range bn).map (fun k => (h0.2.1 108 (an + k)).toInt)) (tA h0) = wrdP T n (((List.range bn).map (fun k => (h0.2.1 108 (an + k)).toInt)).drop kn) (tA h) →
    Ends X (dp + 1 + 1) 121 2 [.ref 93, .int a, .int b, .int k] [] h Q
  | m, kn, k, h, hh, hf, hk, hm, hw => by
    have eT : tT h = T := (tT_fr hf WA_T).trans hT
    have eN : tN h = n := (tN_fr hf rfl).trans hN
    refine w_tw1 a b k hh.hs ⟨fun e => ?_, fun e => ?_⟩
    · have e : b.toInt ≤ k.toInt := of_decide_eq_true (cI e)
      rw [List.drop_eq_nil_of_le (by simp; omega)] at hw
      have i32' : (32 : Int32).toInt = 32 := rfl
      refine tk_ok 32 (by decide) hh (fun h' a1 a2 a3 => ⟨_, rfl, a1.hs, b2i_01 _, hQ _ h' a1 (frm_trans hf a2) ?_⟩)
      rw [hw, wrdP, ← eT, ← eN, a3, i32']
      by_cases c : nxP (tT h) (tN h) (tA h) = 32
      · rw [decide_eq_true c, if_pos c, if_pos c]
      · rw [decide_eq_false c, if_neg c, if_neg c]
    · have e : ¬ b.toInt ≤ k.toInt := of_decide_eq_false (cI e)
      match m, hm with
      | 0, hm => omega
      | m + 1, hm =>
        have hk1 : (k + 1).toInt = ((kn + 1 : Nat) : Int) := by rw [i_add (by rw [i1]; omega) (by rw [i1]; omega), i1]; omega
        have hak : (a + k).toInt = ((an + kn : Nat) : Int) := by rw [i_add (by omega) (by omega)]; omega
        generalize a + k = ak at hak ⊢
        generalize k + 1 = k1 at hk1 ⊢
        have q1 : ak.toNatClampNeg = an + kn := by show ak.toInt.toNat = _; omega
        refine ⟨inB_iff (by omega) (by omega), ?_⟩
        rw [q1]
        have hl := hh.iv 108 (an + kn) (r := (0, 127)) rfl
        simp only at hl
        have vl : h.2.1 108 (an + kn) = h0.2.1 108 (an + kn) := frI hf rfl
        have dr : ((List.range bn).map (fun k => (h0.2.1 108 (an + k)).toInt)).drop kn = (h0.2.1 108 (an + kn)).toInt :: ((List.range bn).map (fun k => (h0.2.1 108 (an + k)).toInt)).drop (kn + 1) := by
          rw [List.drop_eq_getElem_cons (by simp; omega)]
          simp
        rw [dr, wrdP] at hw
        refine tk_ok _ hl.1 hh (fun h' a1 a2 a3 => ⟨_, rfl, a1.hs, fun e2 => ?_, fun e2 => ?_⟩)
        · have e2 := of_decide_eq_true (cn2 e2)
          rw [if_pos e2] at a3
          rw [vl, eT, eN] at e2
          rw [if_pos e2] at hw
          exact tw_loop T n a b an bn ha hb hab h0 hT hN hQ m (kn + 1) k1 h' a1 (frm_trans hf a2) hk1 (by omega) (by rw [a3]; exact hw)
        · have e2 := of_decide_eq_false (cz2 e2)
          rw [if_neg e2] at a3
          rw [vl, eT, eN] at e2
          rw [if_neg e2] at hw
          exact hQ false h' a1 (frm_trans hf a2) (by rw [hw, a3])
theorem tw_ok (a b : Int32) (an bn : Nat) (ha : a.toInt = an) (hb : b.toInt = bn) (hab : an + bn ≤ 14) (hh : HI h)
    (hQ : ∀ (ok : Bool) h', HI h' → frm WA h h' → (ok, tA h') = wrdP (tT h) (tN h) ((List.range bn).map (fun k => (h.2.1 108 (an + k)).toInt)) (tA h) → Q (some (.int (b2i ok))) h') : Ends X (dp + 1 + 1) 121 0 [.ref 93, .int a, .int b, .retAddr 0] [] h Q :=
  w_tw0 a b hh.hs (tw_loop (tT h) (tN h) a b an bn ha hb hab h rfl rfl hQ bn 0 0 h hh frm_refl rfl (by omega) rfl)
theorem dg_ok (hh : HI h) (hQ : Q (some (.int (b2i (isD (nxP (tT h) (tN h) (tA h)))))) h) : Ends X (dp + 1) 122 0 [.ref 93] [] h Q := by
  refine w_isdig hh.hs (nx_ok hh (fun r hr => ⟨r, rfl, hh.hs, in_ok _ _ _ hh.hs ⟨_, rfl, hh.hs, b2i_01 _, ?_⟩⟩))
  have e : (decide ((48 : Int32).toInt ≤ r.toInt) && decide (r.toInt ≤ (57 : Int32).toInt)) = isD (nxP (tT h) (tN h) (tA h)) := by rw [hr]; rfl
  rw [e]
  exact hQ
def WD : List (Nat × Nat) := [(93, 12), (93, 13)]
theorem WD_T (k : Nat) : inW WD 100 k = false := rfl
/-- one digit more -/
theorem tn_step (k k1 : Int32) (kn : Nat) (v : Nat) (hk : k.toInt = kn) (hk2 : kn < 2) (hk1 : k1 = k + 1) (hh : HI h) (hv : (h.2.1 93 13).toInt = v) (hv9 : v ≤ 9)
    (e0 : isD (nxP (tT h) (tN h) (tA h)) = false → Q (some (.int 1)) h)
    (e1 : isD (nxP (tT h) (tN h) (tA h)) = true → ∀ h', HI h' → frm WD h h' → tA h' = tA h + 1 → (h'.2.1 93 13).toInt = 10 * v + (nxP (tT h) (tN h) (tA h) - 48) → Ends X (dp + 1 + 1) 123 16 [.ref 93, .int k1] [] h' Q) : Ends X (dp + 1 + 1) 123 16 [.ref 93, .int k] [] h Q := by
  subst hk1
  obtain ⟨a1, a2⟩ := tA_v hh
  obtain ⟨b1, b2⟩ := tN_v hh
  obtain ⟨n1, n2, n3⟩ := nx_rng hh
  refine w_tn1 k hh.hs ⟨fun e => ?_, fun e => dg_ok hh ⟨_, rfl, hh.hs, fun e2 => e0 (cz e2), fun e2 => nx_ok hh (fun r hr => ⟨r, rfl, hh.hs, ?_⟩)⟩⟩
  · exfalso
    have e : (2 : Int32).toInt ≤ k.toInt := of_decide_eq_true (cI e)
    have i2 : (2 : Int32).toInt = 2 := rfl
    omega
  · have e2 := cn e2
    have d := e2
    unfold isD at d
    simp only [Bool.and_eq_true, decide_eq_true_eq] at d
    have lt := n3 (by omega)
    have g1 : (10 * h.2.1 93 13).toInt = 10 * (v : Int) := by rw [i_mul (by rw [i10]; omega) (by rw [i10]; omega), i10, hv]
    generalize 10 * h.2.1 93 13 = u1 at g1 ⊢
    have g2 : (u1 + r).toInt = 10 * (v : Int) + nxP (tT h) (tN h) (tA h) := by rw [i_add (by omega) (by omega)]; omega
    generalize u1 + r = u2 at g2 ⊢
    have i48 : (48 : Int32).toInt = 48 := rfl
    have g3 : (u2 - 48).toInt = 10 * (v : Int) + (nxP (tT h) (tN h) (tA h) - 48) := by rw [i_sub (by rw [i48]; omega) (by rw [i48]; omega), i48]; omega
    generalize u2 - 48 = u3 at g3 ⊢
    have p12 : (hpI h 93 13 u3).2.1 93 12 = h.2.1 93 12 := put_ne (by omega)
    rw [p12]
    have g4 : (h.2.1 93 12 + 1).toInt = ((tA h + 1 : Nat) : Int) := by rw [i_add (by rw [i1]; omega) (by rw [i1]; omega), i1]; omega
    generalize h.2.1 93 12 + 1 = u4 at g4 ⊢
    refine e1 e2 _ (HI_put (HI_put hh (by show (0 : Int) ≤ _; omega) (by show _ ≤ (99 : Int); omega)) (by show (0 : Int) ≤ _; omega) (by show _ ≤ (100 : Int); omega)) (frm_put (frm_put frm_refl rfl) rfl) ?_ ?_
    · show ((hpI (hpI h 93 13 u3) 93 12 u4).2.1 93 12).toInt.toNat = _
      rw [put_at]
      omega
    · rw [put_ne (by omega), put_at]
      exact g3
theorem tn_end (k : Int32) (hk : k.toInt = 2) (hh : HI h) (hQ : Q (some (.int 1)) h) : Ends X (dp + 1 + 1) 123 16 [.ref 93, .int k] [] h Q := by
  refine w_tn1 k hh.hs ⟨fun _ => hQ, fun e => ?_⟩
  exfalso
  have e : ¬ (2 : Int32).toInt ≤ k.toInt := of_decide_eq_false (cI e)
  have i2 : (2 : Int32).toInt = 2 := rfl
  omega
theorem tn_ok (hh : HI h) (hQ : ∀ (ok : Bool) h', HI h' → frm WD h h' → (match numP (tT h) (tN h) (tA h) with | some (v, a) => ok = true ∧ tA h' = a ∧ (h'.2.1 93 13).toInt = v | none => ok = false ∧ tA h' = tA h) → Q (some (.int (b2i ok))) h') : Ends X (dp + 1 + 1) 123 0 [.ref 93, .retAddr 0] [] h Q := by
  have z2 : (2 : Int32).toInt = 2 := rfl
  unfold numP at hQ
  refine w_tn0 hh.hs (dg_ok hh ⟨_, rfl, hh.hs, fun e => ?_, fun e => ?_⟩)
  · have e := cn2 e
    rw [if_pos e] at hQ
    have d := e
    unfold isD at d
    simp only [Bool.and_eq_true, decide_eq_true_eq] at d
    have hh1 : HI (hpI h 93 13 0) := HI_put hh (by show (0 : Int) ≤ 0; decide) (by show (0 : Int) ≤ 99; decide)
    have f1 : frm WD h (hpI h 93 13 0) := frm_put frm_refl rfl
    have eT := tT_fr f1 WD_T
    have eN := tN_fr f1 rfl
    have eA : tA (hpI h 93 13 0) = tA h := by unfold tA; rw [put_ne (by omega)]
    refine tn_step (h := hpI h 93 13 0) 0 (0 + 1) 0 0 rfl (by omega) rfl hh1 (by rw [put_at]; rfl) (by omega) (fun q => ?_) (fun q h2 hh2 f2 a2 v2 => ?_)
    · rw [eT, eN, eA, e] at q
      cases q
    · have f2' := frm_trans f1 f2
      have eT2 := tT_fr f2' WD_T
      have eN2 := tN_fr f2' rfl
      rw [eT, eN, eA] at v2
      rw [eA] at a2
      refine tn_step (h := h2) (0 + 1) (0 + 1 + 1) 1 (nxP (tT h) (tN h) (tA h) - 48).toNat rfl (by omega) rfl hh2 (by omega) (by omega) (fun q => ?_) (fun q h3 hh3 f3 a3 v3 => ?_)
      · rw [eT2, eN2, a2] at q
        rw [if_neg (by rw [q]; decide)] at hQ
        exact hQ true h2 hh2 f2' ⟨rfl, a2, by omega⟩
      · rw [eT2, eN2, a2] at q v3
        rw [if_pos q] at hQ
        refine tn_end _ rfl hh3 (hQ true h3 hh3 (frm_trans f2' f3) ⟨rfl, by omega, by omega⟩)
  · have e := cz2 e
    rw [if_neg (by rw [e]; decide)] at hQ
    exact hQ false h hh frm_refl ⟨rfl, rfl⟩
end PARSE
end JN79parse2
section JN80parse3
/-! The reading of the texts of the reference, exactly: what waits, what is emitted. -/
def opn (ws : List Int) : Nat := (ws.filter (fun w => decide (w = 33) || decide (w = 40))).length
def whlP : List Int → List Int → List Int × List Int
  | w :: ws, sg => if w = 33 then whlP ws (sg ++ [-33]) else (w :: ws, sg)
  | [], sg => ([], sg)
def setP (s : Int) : List Int → List Int → List Int × List Int
  | w :: ws, sg => if w = 38 ∨ (w = 124 ∧ ¬ s = 38) then setP s ws (sg ++ [-w]) else (w :: ws, sg)
  | [], sg => ([], sg)
def PSt (f : Nat) (h : Hp) (ws sg : List Int) : Prop := (h.2.1 93 23).toInt = ws.length ∧ (h.2.1 93 24).toInt = opn ws ∧ (h.2.1 93 22).toInt = ((100 * f + sg.length : Nat) : Int) ∧ (∀ j, j < ws.length → (h.2.1 107 j).toInt = ws.getD (ws.length - 1 - j) 0) ∧ (∀ j, j < sg.length → (h.2.1 106 (100 * f + j)).toInt = sg.getD j 0)
def LW (f : Nat) (h h' : Hp) : Prop := ∀ x, x < 100 * f → h'.2.1 106 x = h.2.1 106 x
theorem LW.rf {f : Nat} {h : Hp} : LW f h h := fun _ _ => rfl
theorem LW.tr {f : Nat} {h h' h'' : Hp} (a : LW f h h') (b : LW f h' h'') : LW f h h'' := fun x hx => (b x hx).trans (a x hx)
theorem LW.put {f : Nat} {h : Hp} {a k : Nat} {x : Int32} (ha : ¬ a = 106) : LW f h (hpI h a k x) := fun y _ => put_ne (by omega)
def WE : List (Nat × Nat) := [(93, 22), (106, 999)]
def WW : List (Nat × Nat) := [(93, 22), (93, 23), (93, 24), (106, 999)]
theorem WE_in {k : Nat} : inW WE 106 k = true := by simp [inW, WE]
theorem WW_in {k : Nat} : inW WW 106 k = true := by simp [inW, WW]
theorem i_neg {x : Int32} (h1 : -2147483648 < x.toInt) : (-x).toInt = -x.toInt := by
  have hb := i32r x
  simp only [fI] at hb
  rw [Int32.toInt_neg]
  exact bm32 (by omega) (by omega)
theorem getD_app1 {l : List Int} {x : Int} {j : Nat} (h : j < l.length) : (l ++ [x]).getD j 0 = l.getD j 0 := by
  rw [List.getD_eq_getElem?_getD, List.getElem?_append_left h, List.getD_eq_getElem?_getD]
theorem getD_app2 {l : List Int} {x : Int} : (l ++ [x]).getD l.length 0 = x := by
  rw [List.getD_eq_getElem?_getD, List.getElem?_append_right (Nat.le_refl _), Nat.sub_self]
  rfl
section ST
variable {X : Scr} {dp f : Nat} {h : Hp} {Q : Option Value → Hp → Prop}
theorem em_ok (s : Int32) (ws sg : List Int) (hf5 : f ≤ 5) (hh : HI h) (hp : PSt f h ws sg) (hl : sg.length < 100)
    (hQ : ∀ h', HI h' → frm WE h h' → LW f h h' → PSt f h' ws (sg ++ [s.toInt]) → Q none h') : Ends X dp 124 0 [.ref 93, .int s] [] h Q := by
  obtain ⟨p1, p2, p3, p4, p5⟩ := hp
  have q1 : (h.2.1 93 22).toNatClampNeg = 100 * f + sg.length := by show (h.2.1 93 22).toInt.toNat = _; omega
  refine w_emit s hh.hs ⟨inB_iff (by omega) (by omega), ?_⟩
  rw [q1]
  have v : (hpI h 106 (100 * f + sg.length) s).2.1 93 22 = h.2.1 93 22 := put_ne (by omega)
  rw [v]
  have g : (h.2.1 93 22 + 1).toInt = ((100 * f + sg.length + 1 : Nat) : Int) := by rw [i_add (by rw [i1]; omega) (by rw [i1]; omega), i1]; omega
  generalize h.2.1 93 22 + 1 = u at g ⊢
  refine hQ _ (HI_put (HI_put hh (i32r s).1 (i32r s).2) (by show (0 : Int) ≤ _; omega) (by show _ ≤ (600 : Int); omega)) (frm_put (frm_put frm_refl WE_in) rfl) (fun x hx => ?_) ⟨?_, ?_, ?_, fun j hj => ?_, fun j hj => ?_⟩
  · rw [put_ne (by omega), put_ne (by omega)]
  · rw [put_ne (by omega), put_ne (by omega)]; exact p1
  · rw [put_ne (by omega), put_ne (by omega)]; exact p2
  · rw [put_at, g]
    simp
    omega
  · rw [put_ne (by omega), put_ne (by omega)]; exact p4 j hj
  · rw [put_ne (by omega)]
    simp only [List.length_append, List.length_singleton] at hj
    by_cases c : j = sg.length
    · rw [c, put_at, getD_app2]
    · rw [put_ne (by omega), getD_app1 (by omega)]
      exact p5 j (by omega)
theorem opn_cons (w : Int) (ws : List Int) : opn (w :: ws) = (if w = 33 ∨ w = 40 then 1 else 0) + opn ws := by
  unfold opn
  rw [List.filter_cons]
  by_cases c : w = 33 ∨ w = 40
  · rw [if_pos c, if_pos (by simpa using c)]
    simp
    omega
  · rw [if_neg c, if_neg (by simpa using c)]
    omega
/-- the top leaves -/
theorem PSt.pop {w : Int} {ws sg : List Int} (hp : PSt f h (w :: ws) sg) {u : Int32} (hu : u.toInt = ws.length) : (hpI h 93 23 u).2.1 107 ws.length = h.2.1 107 ws.length ∧ (h.2.1 107 ws.length).toInt = w ∧ (∀ j, j < ws.length → (h.2.1 107 j).toInt = ws.getD (ws.length - 1 - j) 0) := by
  obtain ⟨p1, p2, p3, p4, p5⟩ := hp
  refine ⟨put_ne (by omega), ?_, fun j hj => ?_⟩
  · have := p4 ws.length (by simp)
    rw [this, show (w :: ws).length - 1 - ws.length = 0 by simp]
    rfl
  · rw [p4 j (by simp; omega), show (w :: ws).length - 1 - j = (ws.length - 1 - j) + 1 by simp; omega]
    simp
theorem whl_ok (hf5 : f ≤ 5) : ∀ (ws sg : List Int) (h : Hp), HI h → PSt f h ws sg → sg.length + ws.length ≤ 100 →
    (∀ h', HI h' → frm WW h h' → LW f h h' → PSt f h' (whlP ws sg).1 (whlP ws sg).2 → Q none h') → Ends X (dp + 1) 125 0 [.ref 93] [] h Q
  | [], sg, h, hh, hp, hl, hQ => by
    have p1 : (h.2.1 93 23).toInt = 0 := hp.1
    refine w_whole hh.hs ⟨fun e => hQ h hh frm_refl LW.rf hp, fun e => ?_⟩
    exfalso
    have e : ¬ (h.2.1 93 23).toInt ≤ 0 := of_decide_eq_false (cI e)
    omega
  | w :: ws, sg, h, hh, hp, hl, hQ => by
    have p1 : (h.2.1 93 23).toInt = ((ws.length + 1 : Nat) : Int) := hp.1
    have i33 : (33 : Int32).toInt = 33 := rfl
    simp only [List.length_cons] at hl
    have hw1 : (h.2.1 93 23 - 1).toInt = ws.length := by rw [i_sub (by rw [i1]; omega) (by rw [i1]; omega), i1]; omega
    have tp := hp.pop hw1
    refine w_whole hh.hs ⟨fun e => ?_, fun e => ⟨inB_iff (by omega) (by omega), fun e2 => ?_, fun e2 => ?_⟩⟩
    · exfalso
      have e : (h.2.1 93 23).toInt ≤ 0 := of_decide_eq_true (cI e)
      omega
    · have q : (h.2.1 93 23 - 1).toNatClampNeg = ws.length := by show (h.2.1 93 23 - 1).toInt.toNat = _; omega
      rw [q] at e2
      have e2 : ¬ (h.2.1 107 ws.length).toInt = 33 := of_decide_eq_true (cI e2)
      rw [tp.2.1] at e2
      rw [whlP, if_neg e2] at hQ
      exact hQ h hh frm_refl LW.rf hp
    · have q : (h.2.1 93 23 - 1).toNatClampNeg = ws.length := by show (h.2.1 93 23 - 1).toInt.toNat = _; omega
      rw [q] at e2
      have e2 : ¬ ¬ (h.2.1 107 ws.length).toInt = 33 := of_decide_eq_false (cI e2)
      rw [tp.2.1, Decidable.not_not] at e2
      rw [whlP, if_pos e2] at hQ
      refine em_ok (-33) (w :: ws) sg hf5 hh hp (by omega) (fun h2 hh2 f2 l2 s2 => ⟨rfl, hh2.hs, ?_⟩)
      have v23 : h2.2.1 93 23 = h.2.1 93 23 := frI f2 rfl
      rw [v23]
      generalize h.2.1 93 23 - 1 = u at hw1 ⊢
      have v24 : (hpI h2 93 23 u).2.1 93 24 = h2.2.1 93 24 := put_ne (by omega)
      rw [v24]
      obtain ⟨s21, s22, s23, s24, s25⟩ := s2
      have o1 := opn_cons w ws
      rw [if_pos (Or.inl e2)] at o1
      have ho : opn (w :: ws) ≤ (w :: ws).length := List.length_filter_le _ _
      simp only [List.length_cons] at ho
      have g24 : (h2.2.1 93 24 - 1).toInt = opn ws := by rw [i_sub (by rw [i1]; omega) (by rw [i1]; omega), i1]; omega
      generalize h2.2.1 93 24 - 1 = z at g24 ⊢
      have hh3 : HI (hpI (hpI h2 93 23 u) 93 24 z) := HI_put (HI_put hh2 (by show (0 : Int) ≤ _; omega) (by show _ ≤ (101 : Int); omega)) (i32r z).1 (i32r z).2
      have f3 : frm WW h (hpI (hpI h2 93 23 u) 93 24 z) := frm_put (frm_put (frm_sub (V := WE) (by decide) f2) rfl) rfl
      refine whl_ok hf5 ws (sg ++ [-33]) _ hh3 ⟨?_, ?_, ?_, fun j hj => ?_, fun j hj => ?_⟩ (by simp; omega) (fun h' a1 a2 a3 a4 => hQ h' a1 (frm_trans f3 a2) (LW.tr (LW.tr l2 (LW.tr (LW.put (by decide)) (LW.put (by decide)))) a3) a4)
      · rw [put_ne (by omega), put_at]; exact hw1
      · rw [put_at]; exact g24
      · rw [put_ne (by omega), put_ne (by omega)]; exact s23
      · rw [put_ne (by omega), put_ne (by omega), frI f2 rfl]; exact tp.2.2 j hj
      · rw [put_ne (by omega), put_ne (by omega)]; exact s25 j hj
theorem set_pop (s : Int32) (w : Int) (ws sg : List Int) (hf5 : f ≤ 5) (hh : HI h) (hp : PSt f h (w :: ws) sg) (hl : sg.length + ws.length + 1 ≤ 100) (hw : w = 38 ∨ w = 124) (u : Int32) (hu : u.toInt = ws.length)
    (ct : ∀ h', HI h' → frm WW h h' → LW f h h' → PSt f h' ws (sg ++ [-w]) → Ends X (dp + 1) 126 0 [.ref 93, .int s] [] h' Q) :
    inB ((hpI h 93 23 u).2.1 93 23) 101 = true ∧ Ends X dp 124 0 [.ref 93, .int (-((hpI h 93 23 u).2.1 107 ((hpI h 93 23 u).2.1 93 23).toNatClampNeg))] [] (hpI h 93 23 u) (fun rv h5 => rv = none ∧ HS h5 ∧ Ends X (dp + 1) 126 0 [.ref 93, .int s] [] h5 Q) := by
  have tp := hp.pop hu
  obtain ⟨p1, p2, p3, p4, p5⟩ := hp
  rw [put_at]
  have q : u.toNatClampNeg = ws.length := by show u.toInt.toNat = _; omega
  rw [q, tp.1]
  refine ⟨inB_iff (by omega) (by omega), ?_⟩
  have hneg : (-(h.2.1 107 ws.length)).toInt = -w := by rw [i_neg (by rw [tp.2.1]; omega), tp.2.1]
  have o1 := opn_cons w ws
  rw [if_neg (by omega)] at o1
  have hh1 : HI (hpI h 93 23 u) := HI_put hh (by show (0 : Int) ≤ _; omega) (by show _ ≤ (101 : Int); omega)
  have hp1 : PSt f (hpI h 93 23 u) ws sg := ⟨by rw [put_at]; exact hu, by rw [put_ne (by omega)]; omega, by rw [put_ne (by omega)]; exact p3, fun j hj => by rw [put_ne (by omega)]; exact tp.2.2 j hj, fun j hj => by rw [put_ne (by omega)]; exact p5 j hj⟩
  refine em_ok _ ws sg hf5 hh1 hp1 (by omega) (fun h' a1 a2 a3 a4 => ⟨rfl, a1.hs, ?_⟩)
  rw [hneg] at a4
  exact ct h' a1 (frm_trans (frm_put frm_refl rfl) (frm_sub (V := WE) (by decide) a2)) (LW.tr (LW.put (by decide)) a3) a4
theorem set_ok (hf5 : f ≤ 5) (s : Int32) (si : Int) (hs : s.toInt = si) : ∀ (ws sg : List Int) (h : Hp), HI h → PSt f h ws sg → sg.length + ws.length ≤ 100 →
    (∀ h', HI h' → frm WW h h' → LW f h h' → PSt f h' (setP si ws sg).1 (setP si ws sg).2 → Q none h') → Ends X (dp + 1) 126 0 [.ref 93, .int s] [] h Q
  | [], sg, h, hh, hp, hl, hQ => by
    have p1 : (h.2.1 93 23).toInt = 0 := hp.1
    refine w_settle s hh.hs ⟨fun e => hQ h hh frm_refl LW.rf hp, fun e => ?_⟩
    exfalso
    have e : ¬ (h.2.1 93 23).toInt ≤ 0 := of_decide_eq_false (cI e)
    omega
  | w :: ws, sg, h, hh, hp, hl, hQ => by
    have p1 : (h.2.1 93 23).toInt = ((ws.length + 1 : Nat) : Int) := hp.1
    simp only [List.length_cons] at hl
    have hw1 : (h.2.1 93 23 - 1).toInt = ws.length := by rw [i_sub (by rw [i1]; omega) (by rw [i1]; omega), i1]; omega
    have tp := hp.pop hw1
    have q : (h.2.1 93 23 - 1).toNatClampNeg = ws.length := by show (h.2.1 93 23 - 1).toInt.toNat = _; omega
    have hi : inB (h.2.1 93 23 - 1) 101 = true := inB_iff (by omega) (by omega)
    have ct : (w = 38 ∨ (w = 124 ∧ ¬ si = 38)) → ∀ h', HI h' → frm WW h h' → LW f h h' → PSt f h' ws (sg ++ [-w]) → Ends X (dp + 1) 126 0 [.ref 93, .int s] [] h' Q := by
      intro hc h1 a1 a2 a3 a4
      rw [setP, if_pos hc] at hQ
      exact set_ok hf5 s si hs ws (sg ++ [-w]) h1 a1 a4 (by simp; omega) (fun h' b1 b2 b3 b4 => hQ h' b1 (frm_trans a2 b2) (LW.tr a3 b3) b4)
    refine w_settle s hh.hs ⟨fun e => ?_, fun e => ⟨hi, fun e2 => ?_, fun e2 => ⟨hi, fun e3 => ?_, fun e3 => ⟨fun e4 => ?_, fun e4 => ?_⟩⟩⟩⟩
    · exfalso
      have e : (h.2.1 93 23).toInt ≤ 0 := of_decide_eq_true (cI e)
      omega
    all_goals rw [q] at e2
    · have e2 : (h.2.1 107 ws.length).toInt = 38 := of_decide_eq_true (cI e2)
      rw [tp.2.1] at e2
      exact set_pop s w ws sg hf5 hh hp (by omega) (Or.inl e2) _ hw1 (ct (Or.inl e2))
    all_goals
      have e2 : ¬ (h.2.1 107 ws.length).toInt = 38 := of_decide_eq_false (cI e2)
      rw [tp.2.1] at e2
      rw [q] at e3
    · have e3 : ¬ (h.2.1 107 ws.length).toInt = 124 := of_decide_eq_true (cI e3)
      rw [tp.2.1] at e3
      rw [setP, if_neg (by omega)] at hQ
      exact hQ h hh frm_refl LW.rf hp
    all_goals
      have e3 : ¬ ¬ (h.2.1 107 ws.length).toInt = 124 := of_decide_eq_false (cI e3)
      rw [tp.2.1, Decidable.not_not] at e3
    · have e4 : s.toInt = 38 := of_decide_eq_true (cI e4)
      rw [setP, if_neg (by omega)] at hQ
      exact hQ h hh frm_refl LW.rf hp
    · have e4 : ¬ s.toInt = 38 := of_decide_eq_false (cI e4)
      exact set_pop s w ws sg hf5 hh hp (by omega) (Or.inr e3) _ hw1 (ct (Or.inr ⟨e3, by omega⟩))
end ST
end JN80parse3
section JN81parse4
/-! The reading of the texts of the reference, exactly: tests and what joins them. -/
def testP (T : Nat → Int) (n a : Nat) : Nat × Option Int := if plcP (nxP T n a) < 0 then (a, none) else if ¬ (60 ≤ nxP T n (a + 1) ∧ nxP T n (a + 1) ≤ 62) then (a + 1, none) else match numP T n (a + 2) with
  | none => (a + 2, none)
  | some (v, b) => (b, some (1000 * plcP (nxP T n a) + 100 * (nxP T n (a + 1) - 60) + v))
def WTT : List (Nat × Nat) := [(93, 12), (93, 13), (93, 22), (93, 23), (93, 24), (106, 999)]
theorem WTT_T (k : Nat) : inW WTT 100 k = false := rfl
section TE
variable {X : Scr} {dp f : Nat} {h : Hp} {Q : Option Value → Hp → Prop}
theorem plc_ok (x : Int32) (hs : HS h) (hQ : ∀ r : Int32, r.toInt = plcP x.toInt → Q (some (.int r)) h) : Ends X dp 127 0 [.ref 93, .int x] [] h Q := by
  unfold plcP at hQ
  refine w_place x hs ⟨fun e => hQ _ ?_, fun e => hQ _ ?_, fun e => hQ _ ?_, fun e => hQ _ ?_, fun e => hQ _ ?_, fun e => hQ _ ?_, fun e => hQ _ ?_⟩
  · rw [if_neg (by omega), if_neg (by omega), if_neg (by omega), if_neg (by omega), if_neg (by omega), if_neg (by omega)]
    rfl
  all_goals rw [e]; rfl
theorem plc_rng (x : Int) : -1 ≤ plcP x ∧ plcP x ≤ 5 ∧ (0 ≤ plcP x → x ≠ -1) := by
  unfold plcP
  split
  · omega
  · split
    · omega
    · split
      · omega
      · split
        · omega
        · split
          · omega
          · split <;> omega
theorem PSt.fr {W : List (Nat × Nat)} {ws sg : List Int} {h' : Hp} (hp : PSt f h ws sg) (hf : frm W h h') (w1 : inW W 93 22 = false) (w2 : inW W 93 23 = false) (w3 : inW W 93 24 = false) (w4 : ∀ k, inW W 106 k = false) (w5 : ∀ k, inW W 107 k = false) : PSt f h' ws sg := by
  obtain ⟨p1, p2, p3, p4, p5⟩ := hp
  exact ⟨by rw [frI hf w2]; exact p1, by rw [frI hf w3]; exact p2, by rw [frI hf w1]; exact p3, fun j hj => by rw [frI hf (w5 _)]; exact p4 j hj, fun j hj => by rw [frI hf (w4 _)]; exact p5 j hj⟩
theorem LW.fr {W : List (Nat × Nat)} {h' : Hp} (hf : frm W h h') (w : ∀ k, inW W 106 k = false) : LW f h h' := fun x _ => frI hf (w x)
/-- one place on -/
theorem adv (hh : HI h) (hlt : tA h < tN h) : ∃ u : Int32, h.2.1 93 12 + 1 = u ∧ HI (hpI h 93 12 u) ∧ frm WA h (hpI h 93 12 u) ∧ tA (hpI h 93 12 u) = tA h + 1 := by
  obtain ⟨a1, a2⟩ := tA_v hh
  obtain ⟨b1, b2⟩ := tN_v hh
  refine ⟨_, rfl, ?_⟩
  have g : (h.2.1 93 12 + 1).toInt = ((tA h + 1 : Nat) : Int) := by rw [i_add (by rw [i1]; omega) (by rw [i1]; omega), i1]; omega
  generalize h.2.1 93 12 + 1 = u at g ⊢
  refine ⟨HI_put hh (by show (0 : Int) ≤ _; omega) (by show _ ≤ (100 : Int); omega), frm_put frm_refl rfl, ?_⟩
  show ((hpI h 93 12 u).2.1 93 12).toInt.toNat = _
  rw [put_at]
  omega
theorem numP_le {T : Nat → Int} {n a b : Nat} {v : Int} (hn : numP T n a = some (v, b)) : a + 1 ≤ b ∧ 0 ≤ v ∧ v ≤ 99 := by
  unfold numP at hn
  split at hn
  · rename_i d
    unfold isD at d
    simp only [Bool.and_eq_true, decide_eq_true_eq] at d
    split at hn
    · rename_i d2
      unfold isD at d2
      simp only [Bool.and_eq_true, decide_eq_true_eq] at d2
      cases hn
      omega
    · cases hn
      omega
  · cases hn
theorem ts_ok (ws sg : List Int) (hf5 : f ≤ 5) (hh : HI h) (hp : PSt f h ws sg) (hl : sg.length + ws.length ≤ tA h)
    (hQ : ∀ (ok : Bool) h', HI h' → frm WTT h h' → LW f h h' → (match testP (tT h) (tN h) (tA h) with | (a, none) => ok = false ∧ tA h' = a ∧ PSt f h' ws sg | (a, some s) => ok = true ∧ tA h' = a ∧ PSt f h' (whlP ws (sg ++ [s])).1 (whlP ws (sg ++ [s])).2) → Q (some (.int (b2i ok))) h') :
    Ends X (dp + 1 + 1 + 1) 128 0 [.ref 93, .retAddr 0, .retAddr 0] [] h Q := by
  unfold testP at hQ
  obtain ⟨n1, n2, n3⟩ := nx_rng hh
  refine w_test hh.hs (nx_ok hh (fun r hr => ⟨r, rfl, hh.hs, plc_ok r hh.hs (fun p hpv => ⟨p, rfl, hh.hs, fun e => ?_, fun e => ?_⟩)⟩))
  · rw [hr] at hpv
    have e : 0 ≤ p.toInt := of_decide_eq_true (cI e)
    obtain ⟨l1, l2, l3⟩ := plc_rng (nxP (tT h) (tN h) (tA h))
    rw [if_neg (by omega)] at hQ
    obtain ⟨u, hu, hh1, f1, a1⟩ := adv hh (n3 (by omega))
    rw [hu]
    have eT1 : tT (hpI h 93 12 u) = tT h := tT_fr f1 WA_T
    have eN1 : tN (hpI h 93 12 u) = tN h := tN_fr f1 rfl
    have n1' := nx_rng hh1
    generalize hpI h 93 12 u = h1 at hh1 f1 a1 eT1 eN1 n1' ⊢
    rw [eT1, eN1, a1] at n1'
    refine nx_ok hh1 (fun c hc => ⟨c, rfl, hh1.hs, in_ok _ _ _ hh1.hs ⟨_, rfl, hh1.hs, fun e2 => ?_, fun e2 => ?_⟩⟩)
    · rw [eT1, eN1, a1] at hc
      have e2 := cn2 e2
      simp only [Bool.and_eq_true, decide_eq_true_eq] at e2
      have i60' : (60 : Int32).toInt = 60 := rfl
      have i62' : (62 : Int32).toInt = 62 := rfl
      rw [i60', i62', hc] at e2
      rw [if_neg (Decidable.not_not.mpr e2)] at hQ
      obtain ⟨u2, hu2, hh2, f2, a2⟩ := adv hh1 (by rw [a1, eN1]; exact n1'.2.2 (by omega))
      rw [hu2]
      have f2' := frm_trans f1 f2
      have eT2 : tT (hpI h1 93 12 u2) = tT h := tT_fr f2' WA_T
      have eN2 : tN (hpI h1 93 12 u2) = tN h := tN_fr f2' rfl
      generalize hpI h1 93 12 u2 = h2 at hh2 f2 f2' a2 eT2 eN2 ⊢
      rw [a1] at a2
      refine tn_ok hh2 (fun ok h3 hh3 f3 hm => ⟨_, rfl, hh3.hs, fun e3 => ?_, fun e3 => ?_⟩)
      · have e3 := cn2 e3
        subst e3
        rw [eT2, eN2, a2] at hm
        have f3' : frm WD h h3 := frm_trans (frm_sub (V := WA) (by decide) f2') f3
        have hp3 : PSt f h3 ws sg := hp.fr f3' rfl rfl rfl (fun _ => rfl) (fun _ => rfl)
        have lw3 : LW f h h3 := LW.fr f3' (fun _ => rfl)
        cases hnum : numP (tT h) (tN h) (tA h + 1 + 1) with
        | none =>
          rw [hnum] at hm
          exact absurd hm.1 (by decide)
        | some q =>
          obtain ⟨v, b⟩ := q
          rw [hnum] at hm
          rw [show tA h + 2 = tA h + 1 + 1 by omega, hnum] at hQ
          simp only at hQ hm
          obtain ⟨-, m1, m2⟩ := hm
          obtain ⟨b1, b2, b3⟩ := numP_le hnum
          have tA3 := tA_v hh3
          have i1000 : (1000 : Int32).toInt = 1000 := rfl
          have i100 : (100 : Int32).toInt = 100 := rfl
          have g1 : (1000 * p).toInt = 1000 * plcP (nxP (tT h) (tN h) (tA h)) := by rw [i_mul (by rw [i1000]; omega) (by rw [i1000]; omega), i1000, hpv]
          have g2 : (c - 60).toInt = nxP (tT h) (tN h) (tA h + 1) - 60 := by rw [i_sub (by rw [i60']; omega) (by rw [i60']; omega), i60', hc]
          generalize 1000 * p = w1 at g1 ⊢
          generalize c - 60 = w2 at g2 ⊢
          have g3 : (100 * w2).toInt = 100 * (nxP (tT h) (tN h) (tA h + 1) - 60) := by rw [i_mul (by rw [i100]; omega) (by rw [i100]; omega), i100, g2]
          generalize 100 * w2 = w3 at g3 ⊢
          have g4 : (w1 + w3).toInt = 1000 * plcP (nxP (tT h) (tN h) (tA h)) + 100 * (nxP (tT h) (tN h) (tA h + 1) - 60) := by rw [i_add (by omega) (by omega), g1, g3]
          generalize w1 + w3 = w4 at g4 ⊢
          have g5 : (w4 + h3.2.1 93 13).toInt = 1000 * plcP (nxP (tT h) (tN h) (tA h)) + 100 * (nxP (tT h) (tN h) (tA h + 1) - 60) + v := by rw [i_add (by omega) (by omega), g4, m2]
          generalize w4 + h3.2.1 93 13 = w5 at g5 ⊢
          refine em_ok w5 ws sg hf5 hh3 hp3 (by omega) (fun h4 hh4 f4 l4 s4 => ⟨rfl, hh4.hs, ?_⟩)
          rw [g5] at s4
          refine whl_ok hf5 ws _ h4 hh4 s4 (by simp; omega) (fun h5 hh5 f5 l5 s5 => ⟨rfl, hh5.hs, ?_⟩)
          have f45 : frm WW h3 h5 := frm_trans (frm_sub (V := WE) (by decide) f4) f5
          refine hQ true h5 hh5 (frm_trans (frm_sub (V := WD) (by decide) f3') (frm_sub (V := WW) (by decide) f45)) (LW.tr lw3 (LW.tr l4 l5)) ⟨rfl, ?_, s5⟩
          show (h5.2.1 93 12).toInt.toNat = b
          rw [frI f45 rfl]
          exact m1
      · have e3 := cz2 e3
        subst e3
        rw [eT2, eN2, a2] at hm
        have f3' : frm WD h h3 := frm_trans (frm_sub (V := WA) (by decide) f2') f3
        cases hnum : numP (tT h) (tN h) (tA h + 1 + 1) with
        | none =>
          rw [hnum] at hm
          rw [show tA h + 2 = tA h + 1 + 1 by omega, hnum] at hQ
          refine hQ false h3 hh3 (frm_sub (V := WD) (by decide) f3') (LW.fr f3' (fun _ => rfl)) ⟨rfl, hm.2, hp.fr f3' rfl rfl rfl (fun _ => rfl) (fun _ => rfl)⟩
        | some q =>
          rw [hnum] at hm
          exact absurd hm.1 (by decide)
    · rw [eT1, eN1, a1] at hc
      have e2 := cz2 e2
      have i60' : (60 : Int32).toInt = 60 := rfl
      have i62' : (62 : Int32).toInt = 62 := rfl
      rw [i60', i62', hc] at e2
      simp only [Bool.and_eq_false_iff, decide_eq_false_iff_not] at e2
      rw [if_pos (by omega)] at hQ
      exact hQ false h1 hh1 (frm_sub (V := WA) (by decide) f1) (LW.fr f1 (fun _ => rfl)) ⟨rfl, a1, hp.fr f1 rfl rfl rfl (fun _ => rfl) (fun _ => rfl)⟩
  · rw [hr] at hpv
    have e : ¬ 0 ≤ p.toInt := of_decide_eq_false (cI e)
    rw [if_pos (by omega)] at hQ
    exact hQ false h hh frm_refl LW.rf ⟨rfl, rfl, hp⟩
end TE
end JN81parse4
section JN82parse5
/-! The reading of the texts of the reference, exactly: E. -/
def eP (T : Nat → Int) (n : Nat) : Nat → Nat → List Int → List Int → Bool → Bool × Nat × List Int × List Int
  | 0, a, ws, sg, _ => (false, a, ws, sg)
  | k + 1, a, ws, sg, true => if nxP T n a = 33 ∨ nxP T n a = 40 then (if opn ws = 4 then (false, a, ws, sg) else eP T n k (a + 1) (nxP T n a :: ws) sg true)
    else match testP T n a with
      | (b, none) => (false, b, ws, sg)
      | (b, some s) => eP T n k b (whlP ws (sg ++ [s])).1 (whlP ws (sg ++ [s])).2 false
  | k + 1, a, ws, sg, false => if nxP T n a = 38 ∨ nxP T n a = 124 then eP T n k (a + 1) (nxP T n a :: (setP (nxP T n a) ws sg).1) (setP (nxP T n a) ws sg).2 true
    else match (setP 124 ws sg).1 with
      | [] => (true, a, [], (setP 124 ws sg).2)
      | w :: r => if nxP T n a = 41 then eP T n k (a + 1) (whlP r (setP 124 ws sg).2).1 (whlP r (setP 124 ws sg).2).2 false else (false, a, w :: r, (setP 124 ws sg).2)
def WSOK (ws : List Int) : Prop := ∀ w ∈ ws, w = 33 ∨ w = 40 ∨ w = 38 ∨ w = 124
theorem whl_len : ∀ (ws sg : List Int), (whlP ws sg).1.length + (whlP ws sg).2.length = ws.length + sg.length
  | [], sg => rfl
  | w :: ws, sg => by
    rw [whlP]
    split
    · rw [whl_len ws]
      simp
      omega
    · rfl
theorem whl_sub : ∀ (ws sg : List Int), ∀ w ∈ (whlP ws sg).1, w ∈ ws
  | [], sg, w, h => h
  | v :: ws, sg, w, h => by
    rw [whlP] at h
    split at h
    · exact List.mem_cons_of_mem _ (whl_sub ws _ w h)
    · exact h
theorem set_len (s : Int) : ∀ (ws sg : List Int), (setP s ws sg).1.length + (setP s ws sg).2.length = ws.length + sg.length
  | [], sg => rfl
  | w :: ws, sg => by
    rw [setP]
    split
    · rw [set_len s ws]
      simp
      omega
    · rfl
theorem set_sub (s : Int) : ∀ (ws sg : List Int), ∀ w ∈ (setP s ws sg).1, w ∈ ws
  | [], sg, w, h => h
  | v :: ws, sg, w, h => by
    rw [setP] at h
    split at h
    · exact List.mem_cons_of_mem _ (set_sub s ws _ w h)
    · exact h
theorem set_top (s : Int) : ∀ (ws sg : List Int) {w : Int} {r : List Int}, (setP s ws sg).1 = w :: r → ¬ (w = 38 ∨ (w = 124 ∧ ¬ s = 38))
  | [], sg, w, r, h => by cases h
  | v :: ws, sg, w, r, h => by
    rw [setP] at h
    split at h
    · exact set_top s ws _ h
    · rename_i hn
      cases h
      exact hn
def WTE (cn : Nat) : List (Nat × Nat) := [(93, 12), (93, 13), (93, 22), (93, 23), (93, 24), (106, 999), (107, 999), (105, cn)]
theorem WTE_T (cn k : Nat) : inW (WTE cn) 100 k = false := rfl
theorem WTE_in {cn k : Nat} : inW (WTE cn) 107 k = true := by simp [inW, WTE]
theorem WTE_c {cn : Nat} : inW (WTE cn) 105 cn = true := by simp [inW, WTE]
theorem sub_TE {cn : Nat} {h h' : Hp} (hf : frm WTT h h') : frm (WTE cn) h h' := frm_sub (W := WTE cn) (by simp [subW, WTT, WTE]) hf
theorem sub_WW {cn : Nat} {h h' : Hp} (hf : frm WW h h') : frm (WTE cn) h h' := frm_sub (W := WTE cn) (by simp [subW, WW, WTE]) hf
section TE2
variable {X : Scr} {dp f : Nat} {h0 : Hp} {Q : Option Value → Hp → Prop}
/-- a sign is laid on what waits, and the place goes on -/
theorem push_ok {h h1 : Hp} (ws sg : List Int) (r : Int32) (hh : HI h) (hp : PSt f h ws sg) (hl : ws.length ≤ 99) (hlt : tA h < tN h) (h24 : (∃ z : Int32, h1 = hpI h 93 24 z ∧ z.toInt = opn (r.toInt :: ws)) ∨ (h1 = h ∧ ¬ (r.toInt = 33 ∨ r.toInt = 40))) :
    inB (h1.2.1 93 23) 101 = true ∧ ∀ (cn : Nat), ∃ h2, hpI (hpI (hpI h1 107 (h1.2.1 93 23).toNatClampNeg r) 93 23 ((hpI h1 107 (h1.2.1 93 23).toNatClampNeg r).2.1 93 23 + 1)) 93 12 ((hpI (hpI h1 107 (h1.2.1 93 23).toNatClampNeg r) 93 23 ((hpI h1 107 (h1.2.1 93 23).toNatClampNeg r).2.1 93 23 + 1)).2.1 93 12 + 1) = h2 ∧ HI h2 ∧ frm (WTE cn) h h2 ∧ LW f h h2 ∧ tA h2 = tA h + 1 ∧ PSt f h2 (r.toInt :: ws) sg := by
  obtain ⟨p1, p2, p3, p4, p5⟩ := hp
  have e23 : h1.2.1 93 23 = h.2.1 93 23 := by
    rcases h24 with ⟨z, e, _⟩ | ⟨e, _⟩
    · rw [e, put_ne (by omega)]
    · rw [e]
  have e12 : h1.2.1 93 12 = h.2.1 93 12 := by
    rcases h24 with ⟨z, e, _⟩ | ⟨e, _⟩
    · rw [e, put_ne (by omega)]
    · rw [e]
  have hh1 : HI h1 := by
    rcases h24 with ⟨z, e, _⟩ | ⟨e, _⟩
    · rw [e]; exact HI_put hh (i32r z).1 (i32r z).2
    · rw [e]; exact hh
  have a24 : (h1.2.1 93 24).toInt = opn (r.toInt :: ws) := by
    rcases h24 with ⟨z, e, hz⟩ | ⟨e, hn⟩
    · rw [e, put_at, hz]
    · rw [opn_cons, e, if_neg hn, p2]
      omega
  have efr : ∀ a k, ¬ (a = 93 ∧ k = 24) → h1.2.1 a k = h.2.1 a k := by
    intro a k hn
    rcases h24 with ⟨z, e, _⟩ | ⟨e, _⟩
    · rw [e, put_ne (by omega)]
    · rw [e]
  have q : (h1.2.1 93 23).toNatClampNeg = ws.length := by rw [e23]; show (h.2.1 93 23).toInt.toNat = _; omega
  refine ⟨by rw [e23]; exact inB_iff (by omega) (by omega), fun cn => ⟨_, rfl, ?_⟩⟩
  rw [q]
  have v23 : (hpI h1 107 ws.length r).2.1 93 23 = h.2.1 93 23 := by rw [put_ne (by omega), e23]
  rw [v23]
  have g23 : (h.2.1 93 23 + 1).toInt = ((ws.length + 1 : Nat) : Int) := by rw [i_add (by rw [i1]; omega) (by rw [i1]; omega), i1]; omega
  generalize h.2.1 93 23 + 1 = u at g23 ⊢
  have v12 : (hpI (hpI h1 107 ws.length r) 93 23 u).2.1 93 12 = h.2.1 93 12 := by rw [put_ne (by omega), put_ne (by omega), e12]
  rw [v12]
  obtain ⟨a1, a2⟩ := tA_v hh
  obtain ⟨b1, b2⟩ := tN_v hh
  have g12 : (h.2.1 93 12 + 1).toInt = ((tA h + 1 : Nat) : Int) := by rw [i_add (by rw [i1]; omega) (by rw [i1]; omega), i1]; omega
  generalize h.2.1 93 12 + 1 = y at g12 ⊢
  have f1 : frm (WTE cn) h h1 := by
    rcases h24 with ⟨z, e, _⟩ | ⟨e, _⟩
    · rw [e]; exact frm_put frm_refl rfl
    · rw [e]; exact frm_refl
  refine ⟨HI_put (HI_put (HI_put hh1 (i32r r).1 (i32r r).2) (by show (0 : Int) ≤ _; omega) (by show _ ≤ (101 : Int); omega)) (by show (0 : Int) ≤ _; omega) (by show _ ≤ (100 : Int); omega), frm_put (frm_put (frm_put f1 WTE_in) rfl) rfl, fun x hx => ?_, ?_, ?_, ?_, ?_, fun j hj => ?_, fun j hj => ?_⟩
  · rw [put_ne (by omega), put_ne (by omega), put_ne (by omega), efr _ _ (by omega)]
  · show ((hpI (hpI (hpI h1 107 ws.length r) 93 23 u) 93 12 y).2.1 93 12).toInt.toNat = _
    rw [put_at]
    omega
  · rw [put_ne (by omega), put_at, g23]
    simp
  · rw [put_ne (by omega), put_ne (by omega), put_ne (by omega)]; exact a24
  · rw [put_ne (by omega), put_ne (by omega), put_ne (by omega), efr _ _ (by omega)]; exact p3
  · rw [put_ne (by omega), put_ne (by omega)]
    simp only [List.length_cons] at hj ⊢
    by_cases c : j = ws.length
    · rw [c, put_at, show ws.length + 1 - 1 - ws.length = 0 by omega]
      rfl
    · rw [put_ne (by omega), efr _ _ (by omega), p4 j (by omega), show ws.length + 1 - 1 - j = (ws.length - 1 - j) + 1 by omega]
      simp
  · rw [put_ne (by omega), put_ne (by omega), put_ne (by omega), efr _ _ (by omega)]; exact p5 j hj
theorem numP_le2 {T : Nat → Int} {n a b : Nat} {v : Int} (hn : numP T n a = some (v, b)) : a + 1 ≤ b ∧ b ≤ n := by
  have nd : ∀ a, isD (nxP T n a) = true → a < n := by
    intro a h
    unfold isD nxP at h
    simp only [Bool.and_eq_true, decide_eq_true_eq] at h
    split at h <;> omega
  unfold numP at hn
  split at hn
  · rename_i d
    have := nd _ d
    split at hn
    · rename_i d2
      have := nd _ d2
      cases hn
      omega
    · cases hn
      omega
  · cases hn
theorem testP_le {T : Nat → Int} {n a b : Nat} {s : Int} (hn : testP T n a = (b, some s)) : a + 3 ≤ b ∧ b ≤ n := by
  unfold testP at hn
  split at hn
  · cases hn
  · split at hn
    · cases hn
    · split at hn
      · cases hn
      · rename_i v b' e
        cases hn
        have := numP_le2 e
        omega
/-- a ) closes -/
theorem cls_ok {h : Hp} (w : Int) (ws sg : List Int) (hh : HI h) (hp : PSt f h (w :: ws) sg) (hl : ws.length ≤ 99) (hw : w = 33 ∨ w = 40) (hlt : tA h < tN h) (cn : Nat) :
    ∃ h2, hpI (hpI (hpI h 93 23 (h.2.1 93 23 - 1)) 93 24 ((hpI h 93 23 (h.2.1 93 23 - 1)).2.1 93 24 - 1)) 93 12 ((hpI (hpI h 93 23 (h.2.1 93 23 - 1)) 93 24 ((hpI h 93 23 (h.2.1 93 23 - 1)).2.1 93 24 - 1)).2.1 93 12 + 1) = h2 ∧ HI h2 ∧ frm (WTE cn) h h2 ∧ LW f h h2 ∧ tA h2 = tA h + 1 ∧ PSt f h2 ws sg := by
  refine ⟨_, rfl, ?_⟩
  obtain ⟨p1, p2, p3, p4, p5⟩ := id hp
  simp only [List.length_cons] at p1
  have g23 : (h.2.1 93 23 - 1).toInt = ws.length := by rw [i_sub (by rw [i1]; omega) (by rw [i1]; omega), i1]; omega
  have tp := hp.pop g23
  generalize h.2.1 93 23 - 1 = u at g23 ⊢
  have v24 : (hpI h 93 23 u).2.1 93 24 = h.2.1 93 24 := put_ne (by omega)
  rw [v24]
  have o1 := opn_cons w ws
  rw [if_pos hw] at o1
  have ho : opn ws ≤ ws.length := List.length_filter_le _ _
  have g24 : (h.2.1 93 24 - 1).toInt = opn ws := by rw [i_sub (by rw [i1]; omega) (by rw [i1]; omega), i1]; omega
  generalize h.2.1 93 24 - 1 = z at g24 ⊢
  have v12 : (hpI (hpI h 93 23 u) 93 24 z).2.1 93 12 = h.2.1 93 12 := by rw [put_ne (by omega), put_ne (by omega)]
  rw [v12]
  obtain ⟨a1, a2⟩ := tA_v hh
  obtain ⟨b1, b2⟩ := tN_v hh
  have g12 : (h.2.1 93 12 + 1).toInt = ((tA h + 1 : Nat) : Int) := by rw [i_add (by rw [i1]; omega) (by rw [i1]; omega), i1]; omega
  generalize h.2.1 93 12 + 1 = y at g12 ⊢
  refine ⟨HI_put (HI_put (HI_put hh (by show (0 : Int) ≤ _; omega) (by show _ ≤ (101 : Int); omega)) (i32r z).1 (i32r z).2) (by show (0 : Int) ≤ _; omega) (by show _ ≤ (100 : Int); omega), frm_put (frm_put (frm_put frm_refl rfl) rfl) rfl, fun x hx => ?_, ?_, ?_, ?_, ?_, fun j hj => ?_, fun j hj => ?_⟩
  · rw [put_ne (by omega), put_ne (by omega), put_ne (by omega)]
  · show ((hpI (hpI (hpI h 93 23 u) 93 24 z) 93 12 y).2.1 93 12).toInt.toNat = _
    rw [put_at]
    omega
  · rw [put_ne (by omega), put_ne (by omega), put_at]; exact g23
  · rw [put_ne (by omega), put_at]; exact g24
  · rw [put_ne (by omega), put_ne (by omega), put_ne (by omega)]; exact p3
  · rw [put_ne (by omega), put_ne (by omega), put_ne (by omega)]; exact tp.2.2 j hj
  · rw [put_ne (by omega), put_ne (by omega), put_ne (by omega)]; exact p5 j hj
set_option maxHeartbeats 1000000 in
theorem te_loop (c : Int32) (cn : Nat) (hc : c.toInt = cn) (hcn : cn < 60) (hf5 : f ≤ 5)
    (K a0 : Nat) (ws0 sg0 : List Int) (wt0 : Bool)
    (hQ : ∀ (ok : Bool) h' ws' sg', HI h' → frm (WTE cn) h0 h' → LW f h0 h' → PSt f h' ws' sg' → eP (tT h0) (tN h0) K a0 ws0 sg0 wt0 = (ok, tA h', ws', sg') → (ok = true → h'.2.1 105 cn = h'.2.1 93 22) → Q (some (.int (b2i ok))) h') :
    ∀ (k : Nat) (ws sg : List Int) (wt : Bool) (w : Int32) (b : Value) (h : Hp), HI h → frm (WTE cn) h0 h → LW f h0 h → PSt f h ws sg → WSOK ws → sg.length + ws.length ≤ tA h → tA h ≤ tN h0 → tN h0 < tA h + k → (w.toInt = 0 ↔ wt = false) → eP (tT h0) (tN h0) K a0 ws0 sg0 wt0 = eP (tT h0) (tN h0) k (tA h) ws sg wt →
    Ends X (dp + 1 + 1 + 1 + 1) 129 22 [.ref 93, .int c, .int w, b] [] h Q
  | 0, ws, sg, wt, w, b, h, hh, hf, hlw, hp, hok, hl, hle, hk, hw, he => by omega
  | k + 1, ws, sg, wt, w, b, h, hh, hf, hlw, hp, hok, hl, hle, hk, hw, he => by
    have ih := te_loop c cn hc hcn hf5 K a0 ws0 sg0 wt0 hQ k
    have eT : tT h = tT h0 := tT_fr hf (WTE_T cn)
    have eN : tN h = tN h0 := tN_fr hf rfl
    have hcc : c.toNatClampNeg = cn := by show c.toInt.toNat = _; omega
    obtain ⟨n1, n2, n3⟩ := nx_rng hh
    rw [eT, eN] at n1 n2 n3
    obtain ⟨tv, t100⟩ := tA_v hh
    have tn100 := (tN_v hh).2
    rw [eN] at tn100
    refine w_te1 c w b hh.hs (nx_ok hh (fun r hr => ⟨r, rfl, hh.hs, fun e => ?_, fun e => ?_⟩))
    all_goals rw [eT, eN] at hr
    · have e : w.toInt = 0 := of_decide_eq_true (cI e)
      have hwt : wt = false := hw.mp e
      subst hwt
      rw [eP] at he
      have jn : (r.toInt = 38 ∨ r.toInt = 124) → Ends X (dp + 1 + 1 + 1) 126 0 [.ref 93, .int r] [] h (fun rv h6 => rv = none ∧ HS h6 ∧ (inB (h6.2.1 93 23) 101 = true ∧ Ends X (dp + 1 + 1 + 1 + 1) 129 22 [.ref 93, .int c, .int 1, .int r] [] (hpI (hpI (hpI h6 107 (h6.2.1 93 23).toNatClampNeg r) 93 23 (((hpI h6 107 (h6.2.1 93 23).toNatClampNeg r).2.1 93 23) + 1)) 93 12 (((hpI (hpI h6 107 (h6.2.1 93 23).toNatClampNeg r) 93 23 (((hpI h6 107 (h6.2.1 93 23).toNatClampNeg r).2.1 93 23) + 1)).2.1 93 12) + 1)) Q)) := by
        intro hj
        rw [hr] at hj
        rw [if_pos hj] at he
        refine set_ok hf5 r _ hr ws sg h hh hp (by omega) (fun h6 hh6 f6 l6 s6 => ⟨rfl, hh6.hs, ?_⟩)
        have sl := set_len (nxP (tT h0) (tN h0) (tA h)) ws sg
        have hA6 : tA h6 = tA h := by unfold tA; rw [frI f6 rfl]
        have hN6 : tN h6 = tN h := tN_fr f6 rfl
        have lt := n3 (by omega)
        obtain ⟨pi, pp⟩ := push_ok (h1 := h6) _ _ r hh6 s6 (by omega) (by rw [hA6, hN6, eN]; exact lt) (Or.inr ⟨rfl, by omega⟩)
        refine ⟨pi, ?_⟩
        obtain ⟨h7, e7, hh7, f7, l7, a7, s7⟩ := pp cn
        rw [e7]
        rw [hr] at s7
        refine ih _ _ true 1 _ h7 hh7 (frm_trans hf (frm_trans (sub_WW f6) f7)) (LW.tr hlw (LW.tr l6 l7)) s7 ?_ (by simp; omega) (by omega) (by omega) (by constructor <;> intro q <;> cases q) (by rw [he, a7, hA6])
        intro x hx
        rcases List.mem_cons.mp hx with q | q
        · omega
        · exact hok x (set_sub _ _ _ x q)
      refine ⟨fun e2 => jn (Or.inl (of_decide_eq_true (cI e2))), fun e2 => ⟨fun e3 => ?_, fun e3 => jn (Or.inr (Decidable.not_not.mp (of_decide_eq_false (cI e3))))⟩⟩
      have e2 : ¬ r.toInt = 38 := of_decide_eq_false (cI e2)
      have e3 : ¬ r.toInt = 124 := of_decide_eq_true (cI e3)
      rw [hr] at e2 e3
      rw [if_neg (by omega)] at he
      refine set_ok hf5 124 124 rfl ws sg h hh hp (by omega) (fun h6 hh6 f6 l6 s6 => ⟨rfl, hh6.hs, inB_iff (by omega) (by omega), ?_⟩)
      have sl := set_len 124 ws sg
      have stp := fun w r => set_top 124 ws sg (w := w) (r := r)
      have ssb := set_sub 124 ws sg
      rw [hcc]
      have hA6 : tA h6 = tA h := by unfold tA; rw [frI f6 rfl]
      have hN6 : tN h6 = tN h := tN_fr f6 rfl
      generalize (setP 124 ws sg).1 = wr at *
      generalize (setP 124 ws sg).2 = sgr at *
      have sb := hh6.iv 93 22 (r := (0, 600)) rfl
      have hh7 : HI (hpI h6 105 cn (h6.2.1 93 22)) := HI_put hh6 (by show (0 : Int) ≤ _; exact sb.1) (by show _ ≤ (600 : Int); exact sb.2)
      have f7 : frm (WTE cn) h (hpI h6 105 cn (h6.2.1 93 22)) := frm_put (sub_WW f6) WTE_c
      have l7 : LW f h (hpI h6 105 cn (h6.2.1 93 22)) := LW.tr l6 (LW.put (by decide))
      have s7 : PSt f (hpI h6 105 cn (h6.2.1 93 22)) wr sgr := by
        obtain ⟨q1, q2, q3, q4, q5⟩ := s6
        exact ⟨by rw [put_ne (by omega)]; exact q1, by rw [put_ne (by omega)]; exact q2, by rw [put_ne (by omega)]; exact q3, fun j hj => by rw [put_ne (by omega)]; exact q4 j hj, fun j hj => by rw [put_ne (by omega)]; exact q5 j hj⟩
      have to7 : (hpI h6 105 cn (h6.2.1 93 22)).2.1 105 cn = (hpI h6 105 cn (h6.2.1 93 22)).2.1 93 22 := by rw [put_at, put_ne (by omega)]
      have hA7 : tA (hpI h6 105 cn (h6.2.1 93 22)) = tA h := by unfold tA at hA6 ⊢; rw [put_ne (by omega)]; exact hA6
      have hN7 : tN (hpI h6 105 cn (h6.2.1 93 22)) = tN h0 := by unfold tN at hN6 eN ⊢; rw [put_ne (by omega), hN6]; exact eN
      generalize hpI h6 105 cn (h6.2.1 93 22) = h7 at hh7 f7 l7 s7 to7 hA7 hN7 ⊢
      match wr, s7, he, sl, stp, ssb with
      | [], s7, he, _, _, _ =>
        refine ⟨fun e4 => ?_, fun e4 => hQ true h7 _ _ hh7 (frm_trans hf f7) (LW.tr hlw l7) s7 (by rw [he, hA7]) (fun _ => to7)⟩
        exfalso
        have e4 : ¬ (h7.2.1 93 23).toInt = 0 := of_decide_eq_true (cI e4)
        exact e4 s7.1
      | v :: rr, s7, he, sl, stp, ssb =>
        refine ⟨fun e4 => ⟨fun e5 => ?_, fun e5 => ?_⟩, fun e4 => ?_⟩
        · have e5 : r.toInt = 41 := of_decide_eq_true (cI e5)
          rw [hr] at e5
          rw [e5] at he
          simp only at he
          rw [if_pos trivial] at he
          have hv := hok v (ssb v List.mem_cons_self)
          have hnt := stp v rr rfl
          simp only [List.length_cons] at sl
          obtain ⟨h8, e8, hh8, f8, l8, a8, s8⟩ := cls_ok v rr sgr hh7 s7 (by omega) (by omega) (by rw [hA7, hN7]; exact n3 (by omega)) cn
          rw [e8]
          refine whl_ok hf5 rr sgr h8 hh8 s8 (by omega) (fun h9 hh9 f9 l9 s9 => ⟨rfl, hh9.hs, ?_⟩)
          have wl := whl_len rr sgr
          have hA9 : tA h9 = tA h + 1 := by rw [← hA7, ← a8]; unfold tA; rw [frI f9 rfl]
          refine ih _ _ false w _ h9 hh9 (frm_trans hf (frm_trans f7 (frm_trans f8 (sub_WW f9)))) (LW.tr hlw (LW.tr l7 (LW.tr l8 l9))) s9 (fun x hx => hok x (ssb x (List.mem_cons_of_mem _ (whl_sub _ _ x hx)))) (by omega) (by have := n3 (by omega); omega) (by omega) ⟨fun _ => rfl, fun _ => e⟩ (by rw [he, hA9])
        · have e5 : ¬ r.toInt = 41 := of_decide_eq_false (cI e5)
          rw [hr] at e5
          simp only at he
          rw [if_neg e5] at he
          exact hQ false h7 _ _ hh7 (frm_trans hf f7) (LW.tr hlw l7) s7 (by rw [he, hA7]) (fun q => by cases q)
        · exfalso
          have e4 : ¬ ¬ (h7.2.1 93 23).toInt = 0 := of_decide_eq_false (cI e4)
          rw [s7.1] at e4
          simp only [List.length_cons] at e4
          omega
    · have e : ¬ w.toInt = 0 := of_decide_eq_false (cI e)
      have hwt : wt = true := by
        cases wt with
        | true => rfl
        | false => exact absurd (hw.mpr rfl) e
      subst hwt
      rw [eP] at he
      have op : (r.toInt = 33 ∨ r.toInt = 40) → ((condB .ne (h.2.1 93 24) 4 = true → (inB ((hpI h 93 24 ((h.2.1 93 24) + 1)).2.1 93 23) 101 = true ∧ Ends X (dp + 1 + 1 + 1 + 1) 129 22 [.ref 93, .int c, .int w, .int r] [] (hpI (hpI (hpI (hpI h 93 24 ((h.2.1 93 24) + 1)) 107 ((hpI h 93 24 ((h.2.1 93 24) + 1)).2.1 93 23).toNatClampNeg r) 93 23 (((hpI (hpI h 93 24 ((h.2.1 93 24) + 1)) 107 ((hpI h 93 24 ((h.2.1 93 24) + 1)).2.1 93 23).toNatClampNeg r).2.1 93 23) + 1)) 93 12 (((hpI (hpI (hpI h 93 24 ((h.2.1 93 24) + 1)) 107 ((hpI h 93 24 ((h.2.1 93 24) + 1)).2.1 93 23).toNatClampNeg r) 93 23 (((hpI (hpI h 93 24 ((h.2.1 93 24) + 1)) 107 ((hpI h 93 24 ((h.2.1 93 24) + 1)).2.1 93 23).toNatClampNeg r).2.1 93 23) + 1)).2.1 93 12) + 1)) Q)) ∧ (condB .ne (h.2.1 93 24) 4 = false → Q (some (.int 0)) h)) := by
        intro hj
        have hj2 := hj
        rw [hr] at hj2
        rw [if_pos hj2] at he
        have lt := n3 (by omega)
        have o24 := hp.2.1
        have ho : opn ws ≤ ws.length := List.length_filter_le _ _
        refine ⟨fun e2 => ?_, fun e2 => ?_⟩
        · have e2 : ¬ (h.2.1 93 24).toInt = 4 := of_decide_eq_true (cI e2)
          rw [if_neg (by omega)] at he
          have g24 : (h.2.1 93 24 + 1).toInt = opn (r.toInt :: ws) := by rw [opn_cons, if_pos hj, i_add (by rw [i1]; omega) (by rw [i1]; omega), i1]; omega
          generalize h.2.1 93 24 + 1 = z at g24 ⊢
          obtain ⟨pi, pp⟩ := push_ok (h1 := hpI h 93 24 z) ws sg r hh hp (by omega) (by rw [eN]; exact lt) (Or.inl ⟨z, rfl, g24⟩)
          refine ⟨pi, ?_⟩
          obtain ⟨h7, e7, hh7, f7, l7, a7, s7⟩ := pp cn
          rw [e7]
          rw [hr] at s7
          refine ih _ _ true w _ h7 hh7 (frm_trans hf f7) (LW.tr hlw l7) s7 ?_ (by simp; omega) (by omega) (by omega) ⟨fun q => absurd q e, fun q => by cases q⟩ (by rw [he, a7])
          intro x hx
          rcases List.mem_cons.mp hx with q | q
          · omega
          · exact hok x q
        · have e2 : ¬ ¬ (h.2.1 93 24).toInt = 4 := of_decide_eq_false (cI e2)
          rw [if_pos (by omega)] at he
          exact hQ false h _ _ hh hf hlw hp he (fun q => by cases q)
      refine ⟨fun e2 => op (Or.inl (of_decide_eq_true (cI e2))), fun e2 => ⟨fun e3 => ?_, fun e3 => op (Or.inr (Decidable.not_not.mp (of_decide_eq_false (cI e3))))⟩⟩
      have e2 : ¬ r.toInt = 33 := of_decide_eq_false (cI e2)
      have e3 : ¬ r.toInt = 40 := of_decide_eq_true (cI e3)
      rw [hr] at e2 e3
      rw [if_neg (by omega)] at he
      refine ts_ok ws sg hf5 hh hp hl (fun ok h2 hh2 f2 l2 hm => ⟨_, rfl, hh2.hs, fun e4 => ?_, fun e4 => ?_⟩)
      all_goals rw [eT, eN] at hm
      · have e4 := cz e4
        subst e4
        cases hts : testP (tT h0) (tN h0) (tA h) with
        | mk b o =>
          rw [hts] at hm he
          cases o with
          | none =>
            simp only at hm he
            exact hQ false h2 _ _ hh2 (frm_trans hf (sub_TE f2)) (LW.tr hlw l2) hm.2.2 (by rw [he, hm.2.1]) (fun q => by cases q)
          | some s => exact absurd hm.1 (by decide)
      · have e4 := (nb.mp (of_decide_eq_false (cI e4)) : ok = true)
        subst e4
        cases hts : testP (tT h0) (tN h0) (tA h) with
        | mk b o =>
          rw [hts] at hm he
          cases o with
          | none => exact absurd hm.1 (by decide)
          | some s =>
            simp only at hm he
            obtain ⟨-, m1, m2⟩ := hm
            have wl := whl_len ws (sg ++ [s])
            simp only [List.length_append, List.length_singleton] at wl
            have tl := testP_le hts
            refine ih _ _ false 0 _ h2 hh2 (frm_trans hf (sub_TE f2)) (LW.tr hlw l2) m2 (fun x hx => hok x (whl_sub _ _ x hx)) (by omega) (by omega) (by omega) ⟨fun _ => rfl, fun _ => rfl⟩ (by rw [he, m1])
end TE2
end JN82parse5
section JN84parse7
/-! A clause that is read stands well. -/
def dpt : List Int → Nat → Option Nat
  | [], n => some n
  | s :: l, n => if s = -33 then (if 1 ≤ n then dpt l n else none) else if s < 0 then (if 2 ≤ n then dpt l (n - 1) else none) else dpt l (n + 1)
theorem dpt_app : ∀ (l m : List Int) (n : Nat), dpt (l ++ m) n = (dpt l n).bind (dpt m)
  | [], m, n => rfl
  | s :: l, m, n => by
    rw [List.cons_append, dpt, dpt]
    split
    · split
      · exact dpt_app l m n
      · rfl
    · split
      · split
        · exact dpt_app l m (n - 1)
        · rfl
      · exact dpt_app l m (n + 1)
def bops (ws : List Int) : Nat := (ws.filter (fun w => decide (w = 38) || decide (w = 124))).length
theorem bops_cons (w : Int) (ws : List Int) : bops (w :: ws) = (if w = 38 ∨ w = 124 then 1 else 0) + bops ws := by
  unfold bops
  rw [List.filter_cons]
  by_cases c : w = 38 ∨ w = 124
  · rw [if_pos c, if_pos (by simpa using c)]
    simp
    omega
  · rw [if_neg c, if_neg (by simpa using c)]
    omega
theorem whl_dp : ∀ (ws sg E : List Int) (d : Nat), dpt E 0 = some (d + 1) → ∃ E', (whlP ws (sg ++ E)).2 = sg ++ E' ∧ dpt E' 0 = some (d + 1) ∧ bops (whlP ws (sg ++ E)).1 = bops ws
  | [], sg, E, d, h => ⟨E, rfl, h, rfl⟩
  | w :: ws, sg, E, d, h => by
    rw [whlP]
    by_cases c : w = 33
    · rw [if_pos c, List.append_assoc]
      have h2 : dpt (E ++ [-33]) 0 = some (d + 1) := by
        rw [dpt_app, h]
        show dpt [-33] (d + 1) = _
        rw [dpt, if_pos rfl, if_pos (by omega)]
        rfl
      obtain ⟨E', a1, a2, a3⟩ := whl_dp ws sg (E ++ [-33]) d h2
      refine ⟨E', a1, a2, ?_⟩
      rw [a3, bops_cons, if_neg (by omega)]
      omega
    · rw [if_neg c]
      exact ⟨E, rfl, h, rfl⟩
theorem set_dp (s : Int) : ∀ (ws sg E : List Int), dpt E 0 = some (bops ws + 1) → ∃ E', (setP s ws (sg ++ E)).2 = sg ++ E' ∧ dpt E' 0 = some (bops (setP s ws (sg ++ E)).1 + 1)
  | [], sg, E, h => ⟨E, rfl, h⟩
  | w :: ws, sg, E, h => by
    rw [setP]
    by_cases c : w = 38 ∨ (w = 124 ∧ ¬ s = 38)
    · rw [if_pos c, List.append_assoc]
      have hb := bops_cons w ws
      rw [if_pos (by omega)] at hb
      refine set_dp s ws sg (E ++ [-w]) ?_
      rw [dpt_app, h, hb]
      show dpt [-w] (1 + bops ws + 1) = _
      rw [dpt, if_neg (by omega), if_pos (by omega), if_pos (by omega)]
      show some (1 + bops ws + 1 - 1) = _
      congr 1
      omega
    · rw [if_neg c]
      exact ⟨E, rfl, h⟩
theorem testP_nn {T : Nat → Int} {n a b : Nat} {s : Int} (hn : testP T n a = (b, some s)) : 0 ≤ s := by
  unfold testP at hn
  split at hn
  · cases hn
  · rename_i h1
    split at hn
    · cases hn
    · rename_i h2
      split at hn
      · cases hn
      · rename_i v b' e
        cases hn
        have := numP_le e
        omega
theorem nx_lt {T : Nat → Int} {n a : Nat} (h : nxP T n a ≠ -1) : a < n := by
  unfold nxP at h
  split at h
  · assumption
  · exact absurd rfl h
theorem eP_inv (T : Nat → Int) (n : Nat) (sg : List Int) : ∀ (k a : Nat) (ws E : List Int) (wt : Bool) (a' : Nat) (ws' sg' : List Int), a ≤ n → (sg ++ E).length + ws.length ≤ a → WSOK ws → dpt E 0 = some (bops ws + (if wt = true then 0 else 1)) → eP T n k a ws (sg ++ E) wt = (true, a', ws', sg') →
    ws' = [] ∧ a' ≤ n ∧ sg'.length ≤ a' ∧ ∃ E', sg' = sg ++ E' ∧ dpt E' 0 = some 1
  | 0, a, ws, E, wt, a', ws', sg', _, _, _, _, h => by
    rw [eP] at h
    cases h
  | k + 1, a, ws, E, true, a', ws', sg', hn, hl, hok, hd, h => by
    rw [eP] at h
    split at h
    · rename_i hx
      split at h
      · cases h
      · have lt := nx_lt (T := T) (n := n) (a := a) (by omega)
        refine eP_inv T n sg k (a + 1) _ E true a' ws' sg' (by omega) (by rw [List.length_cons]; omega) ?_ ?_ h
        · intro x hx2
          rcases List.mem_cons.mp hx2 with q | q
          · omega
          · exact hok x q
        · rw [bops_cons, if_neg (by omega)]
          simpa using hd
    · cases hts : testP T n a with
      | mk b o =>
        rw [hts] at h
        cases o with
        | none => cases h
        | some s =>
          simp only at h
          have tl := testP_le hts
          have nn := testP_nn hts
          have hd1 : dpt (E ++ [s]) 0 = some (bops ws + 1) := by
            rw [dpt_app, hd]
            show dpt [s] (bops ws + 0) = _
            rw [dpt, if_neg (by omega), if_neg (by omega)]
            rfl
          obtain ⟨E', e1, e2, e3⟩ := whl_dp ws sg (E ++ [s]) (bops ws) hd1
          rw [← List.append_assoc] at e1 e3
          have wl := whl_len ws ((sg ++ E) ++ [s])
          rw [e1] at h wl
          simp only [List.length_append, List.length_singleton] at wl hl
          exact eP_inv T n sg k b _ E' false a' ws' sg' (by omega) (by simp only [List.length_append]; omega) (fun x hx => hok x (whl_sub _ _ x hx)) (by rw [e2, e3]; rfl) h
  | k + 1, a, ws, E, false, a', ws', sg', hn, hl, hok, hd, h => by
    have hd : dpt E 0 = some (bops ws + 1) := hd
    rw [eP] at h
    split at h
    · rename_i hx
      have lt := nx_lt (T := T) (n := n) (a := a) (by omega)
      obtain ⟨E', e1, e2⟩ := set_dp (nxP T n a) ws sg E hd
      have sl := set_len (nxP T n a) ws (sg ++ E)
      have ss := set_sub (nxP T n a) ws (sg ++ E)
      generalize (setP (nxP T n a) ws (sg ++ E)).1 = wr at *
      rw [e1] at h sl
      refine eP_inv T n sg k (a + 1) _ E' true a' ws' sg' (by omega) (by rw [List.length_cons]; omega) ?_ ?_ h
      · intro x hx2
        rcases List.mem_cons.mp hx2 with q | q
        · omega
        · exact hok x (ss x q)
      · rw [e2, bops_cons, if_pos hx]
        simp
        omega
    · obtain ⟨E', e1, e2⟩ := set_dp 124 ws sg E hd
      have sl := set_len 124 ws (sg ++ E)
      have ss := set_sub 124 ws (sg ++ E)
      have st := fun w r => set_top 124 ws (sg ++ E) (w := w) (r := r)
      generalize (setP 124 ws (sg ++ E)).1 = wr at *
      rw [e1] at h sl
      cases wr with
      | nil =>
        simp only at h
        cases h
        simp only [List.length_nil] at sl
        exact ⟨rfl, hn, by omega, E', rfl, e2⟩
      | cons w r =>
        simp only at h
        split at h
        · rename_i h41
          have lt := nx_lt (T := T) (n := n) (a := a) (by omega)
          have hw := hok w (ss w List.mem_cons_self)
          have hnt := st w r rfl
          rw [bops_cons, if_neg (by omega)] at e2
          obtain ⟨E2, g1, g2, g3⟩ := whl_dp r sg E' (bops r) (by rw [e2]; congr 1; omega)
          have wl := whl_len r (sg ++ E')
          rw [g1] at h wl
          simp only [List.length_cons] at sl
          exact eP_inv T n sg k (a + 1) _ E2 false a' ws' sg' (by omega) (by omega) (fun x hx => hok x (ss x (List.mem_cons_of_mem _ (whl_sub _ _ x hx)))) (by rw [g2, g3]; rfl) h
        · cases h
theorem okS_of {s : Nat → Int32} : ∀ (l : List Int) (i n : Nat), (∀ j, j < l.length → (s (i + j)).toInt = l.getD j 0) → dpt l n = some 1 → okS s l.length i n = true
  | [], i, n, _, h => decide_eq_true (Option.some.inj h)
  | x :: l, i, n, hs, h => by
    have h0 : (s i).toInt = x := hs 0 (by simp)
    have ht : ∀ j, j < l.length → (s (i + 1 + j)).toInt = l.getD j 0 := by
      intro j hj
      have := hs (j + 1) (by simpa using hj)
      rw [show i + 1 + j = i + (j + 1) by omega, this]
      simp
    rw [dpt] at h
    show okS s (l.length + 1) i n = true
    rw [okS, h0]
    split
    · rename_i c
      rw [if_pos c] at h
      split at h
      · rename_i c2
        rw [decide_eq_true c2, okS_of l (i + 1) n ht h]
        rfl
      · cases h
    · rename_i c
      rw [if_neg c] at h
      split
      · rename_i c2
        rw [if_pos c2] at h
        split at h
        · rename_i c3
          rw [decide_eq_true c3, okS_of l (i + 1) (n - 1) ht h]
          rfl
        · cases h
      · rename_i c2
        rw [if_neg c2] at h
        exact okS_of l (i + 1) (n + 1) ht h
theorem okS_congr {s s' : Nat → Int32} : ∀ (m i n : Nat), (∀ j, j < m → s' (i + j) = s (i + j)) → okS s' m i n = okS s m i n
  | 0, _, _, _ => rfl
  | m + 1, i, n, h => by
    have h0 : s' i = s i := h 0 (by omega)
    have ht : ∀ j, j < m → s' (i + 1 + j) = s (i + 1 + j) := fun j hj => by
      have := h (j + 1) (by omega)
      rw [show i + 1 + j = i + (j + 1) by omega]
      exact this
    rw [okS, okS, h0, okS_congr m (i + 1) _ ht, okS_congr m (i + 1) _ ht, okS_congr m (i + 1) _ ht]
end JN84parse7
section JN85parse8
/-! Clauses and yards that are read. -/
theorem wrdP_le (T : Nat → Int) (n : Nat) : ∀ (l : List Int) (a : Nat), (∀ c ∈ l, 0 ≤ c) → a ≤ (wrdP T n l a).2 ∧ (a ≤ n → (wrdP T n l a).2 ≤ n)
  | [], a, _ => by
    rw [wrdP]
    split
    · rename_i h
      have := nx_lt (T := T) (n := n) (a := a) (by omega)
      exact ⟨by show a ≤ a + 1; omega, fun _ => by show a + 1 ≤ n; omega⟩
    · exact ⟨Nat.le_refl _, fun h => h⟩
  | c :: l, a, hc => by
    rw [wrdP]
    split
    · rename_i h
      have h0 := hc c List.mem_cons_self
      have := nx_lt (T := T) (n := n) (a := a) (by omega)
      have ih := wrdP_le T n l (a + 1) (fun x hx => hc x (List.mem_cons_of_mem _ hx))
      exact ⟨by omega, fun _ => ih.2 (by omega)⟩
    · exact ⟨Nat.le_refl _, fun h => h⟩
def SGp (f : Nat) (h : Hp) (sg : List Int) : Prop := (h.2.1 93 22).toInt = ((100 * f + sg.length : Nat) : Int) ∧ ∀ j, j < sg.length → (h.2.1 106 (100 * f + j)).toInt = sg.getD j 0
theorem SGp.fr {W : List (Nat × Nat)} {f : Nat} {h h' : Hp} {sg : List Int} (hp : SGp f h sg) (hf : frm W h h') (w1 : inW W 93 22 = false) (w4 : ∀ k, inW W 106 k = false) : SGp f h' sg :=
  ⟨by rw [frI hf w1]; exact hp.1, fun j hj => by rw [frI hf (w4 _)]; exact hp.2 j hj⟩
def WHD (cn : Nat) : List (Nat × Nat) := [(93, 12), (102, cn)]
def WCL (cn : Nat) : List (Nat × Nat) := [(93, 12), (93, 13), (93, 22), (93, 23), (93, 24), (106, 999), (107, 999), (105, cn), (104, cn), (102, cn), (103, cn)]
theorem sub_HD {cn : Nat} {h h' : Hp} (hf : frm (WHD cn) h h') : frm (WCL cn) h h' := frm_sub (W := WCL cn) (by simp [subW, WHD, WCL]) hf
theorem sub_TE2 {cn : Nat} {h h' : Hp} (hf : frm (WTE cn) h h') : frm (WCL cn) h h' := frm_sub (W := WCL cn) (by simp [subW, WTE, WCL]) hf
theorem sub_WD2 {cn : Nat} {h h' : Hp} (hf : frm WD h h') : frm (WCL cn) h h' := frm_sub (W := WCL cn) (by simp [subW, WD, WCL]) hf
theorem sub_WA2 {cn : Nat} {h h' : Hp} (hf : frm WA h h') : frm (WCL cn) h h' := frm_sub (W := WCL cn) (by simp [subW, WA, WCL]) hf
theorem WCL_102 {cn : Nat} : inW (WCL cn) 102 cn = true := by simp [inW, WCL]
theorem WCL_103 {cn : Nat} : inW (WCL cn) 103 cn = true := by simp [inW, WCL]
theorem WCL_104 {cn : Nat} : inW (WCL cn) 104 cn = true := by simp [inW, WCL]
section CLS
variable {X : Scr} {dp f : Nat} {h : Hp} {Q : Option Value → Hp → Prop}
theorem hd_s (c : Int32) (cn : Nat) (hc : c.toInt = cn) (hcn : cn < 60) (hh : HI h) (hle : tA h ≤ tN h)
    (hQ : ∀ (ok : Bool) h', HI h' → frm (WHD cn) h h' → tA h ≤ tA h' → tA h' ≤ tN h → Q (some (.int (b2i ok))) h') : Ends X (dp + 1 + 1 + 1) 130 0 [.ref 93, .int c] [] h Q := by
  have hcc : c.toNatClampNeg = cn := by show c.toInt.toNat = _; omega
  have hi : inB c 60 = true := inB_iff (by omega) (by omega)
  have go : ∀ (a b v : Int32) (an bn : Nat), a.toInt = an → b.toInt = bn → an + bn ≤ 14 → 0 ≤ v.toInt → v.toInt ≤ 2 → Ends X (dp + 1 + 1) 121 0 [.ref 93, .int a, .int b, .retAddr 0] [] (hpI h 102 c.toNatClampNeg v) (fun rv h6 => ∃ r7, rv = some (.int r7) ∧ HS h6 ∧ (r7 = 0 ∨ r7 = 1) ∧ Q (some (.int r7)) h6) := by
    intro a b v an bn ha hb hab hv1 hv2
    rw [hcc]
    have hh1 : HI (hpI h 102 cn v) := HI_put hh (by show (0 : Int) ≤ _; omega) (by show _ ≤ (2 : Int); omega)
    have eA : tA (hpI h 102 cn v) = tA h := by unfold tA; rw [put_ne (by omega)]
    have eN : tN (hpI h 102 cn v) = tN h := by unfold tN; rw [put_ne (by omega)]
    refine tw_ok a b an bn ha hb hab hh1 (fun ok h' a1 a2 a3 => ⟨_, rfl, a1.hs, b2i_01 _, ?_⟩)
    have wl := wrdP_le (tT (hpI h 102 cn v)) (tN (hpI h 102 cn v)) ((List.range bn).map (fun k => ((hpI h 102 cn v).2.1 108 (an + k)).toInt)) (tA (hpI h 102 cn v)) (fun x hx => by
      obtain ⟨k, -, rfl⟩ := List.mem_map.mp hx
      have := hh1.iv 108 (an + k) (r := (0, 127)) rfl
      simp only at this
      exact this.1)
    rw [← a3, eA, eN] at wl
    exact hQ ok h' a1 (frm_trans (frm_put frm_refl (by simp [inW, WHD])) (frm_sub (V := WA) (by simp [subW, WA, WHD]) a2)) wl.1 (wl.2 hle)
  refine w_head c hh.hs (nx_ok hh (fun r hr => ⟨r, rfl, hh.hs, fun e => ⟨hi, ?_⟩, fun e => ⟨hi, ?_⟩, fun e => ⟨hi, ?_⟩⟩))
  · exact go 9 5 2 9 5 rfl rfl (by omega) (by decide) (by decide)
  · exact go 5 4 1 5 4 rfl rfl (by omega) (by decide) (by decide)
  · exact go 0 5 0 0 5 rfl rfl (by omega) (by decide) (by decide)
theorem te_s (c : Int32) (cn : Nat) (hc : c.toInt = cn) (hcn : cn < 60) (hf5 : f ≤ 5) (sg : List Int) (hh : HI h) (hp : SGp f h sg) (hl : sg.length ≤ tA h) (hle : tA h ≤ tN h)
    (q0 : ∀ h', HI h' → frm (WCL cn) h h' → LW f h h' → Q (some (.int 0)) h')
    (q1 : ∀ h' E, HI h' → frm (WCL cn) h h' → LW f h h' → SGp f h' (sg ++ E) → (sg ++ E).length ≤ tA h' → tA h' ≤ tN h → (h'.2.1 104 cn).toInt = ((100 * f + sg.length : Nat) : Int) → (h'.2.1 105 cn).toInt = ((100 * f + (sg ++ E).length : Nat) : Int) → dpt E 0 = some 1 → Q (some (.int 1)) h') :
    Ends X (dp + 1 + 1 + 1 + 1) 129 0 [.ref 93, .int c, .retAddr 0, .retAddr 0] [] h Q := by
  have hcc : c.toNatClampNeg = cn := by show c.toInt.toNat = _; omega
  refine w_te0 c hh.hs ⟨inB_iff (by omega) (by omega), ?_⟩
  rw [hcc]
  have v22 : (hpI (hpI h 93 23 0) 93 24 0).2.1 93 22 = h.2.1 93 22 := by rw [put_ne (by omega), put_ne (by omega)]
  rw [v22]
  have b22 := hh.iv 93 22 (r := (0, 600)) rfl
  have hh1 : HI (hpI (hpI (hpI h 93 23 0) 93 24 0) 104 cn (h.2.1 93 22)) := HI_put (HI_put (HI_put hh (by show (0 : Int) ≤ 0; decide) (by show (0 : Int) ≤ 101; decide)) (i32r 0).1 (i32r 0).2) (by show (0 : Int) ≤ _; exact b22.1) (by show _ ≤ (600 : Int); exact b22.2)
  have f1 : frm (WCL cn) h (hpI (hpI (hpI h 93 23 0) 93 24 0) 104 cn (h.2.1 93 22)) := frm_put (frm_put (frm_put frm_refl rfl) rfl) WCL_104
  have l1 : LW f h (hpI (hpI (hpI h 93 23 0) 93 24 0) 104 cn (h.2.1 93 22)) := LW.tr (LW.tr (LW.put (by decide)) (LW.put (by decide))) (LW.put (by decide))
  have e104 : ((hpI (hpI (hpI h 93 23 0) 93 24 0) 104 cn (h.2.1 93 22)).2.1 104 cn).toInt = ((100 * f + sg.length : Nat) : Int) := by rw [put_at]; exact hp.1
  have eA : tA (hpI (hpI (hpI h 93 23 0) 93 24 0) 104 cn (h.2.1 93 22)) = tA h := by unfold tA; rw [put_ne (by omega), put_ne (by omega), put_ne (by omega)]
  have eN : tN (hpI (hpI (hpI h 93 23 0) 93 24 0) 104 cn (h.2.1 93 22)) = tN h := by unfold tN; rw [put_ne (by omega), put_ne (by omega), put_ne (by omega)]
  have s1 : PSt f (hpI (hpI (hpI h 93 23 0) 93 24 0) 104 cn (h.2.1 93 22)) [] sg := ⟨by rw [put_ne (by omega), put_ne (by omega), put_at]; rfl, by rw [put_ne (by omega), put_at]; rfl, by rw [put_ne (by omega), put_ne (by omega), put_ne (by omega)]; exact hp.1, fun j hj => by simp at hj, fun j hj => by rw [put_ne (by omega), put_ne (by omega), put_ne (by omega)]; exact hp.2 j hj⟩
  generalize hpI (hpI (hpI h 93 23 0) 93 24 0) 104 cn (h.2.1 93 22) = h1 at *
  refine te_loop (h0 := h1) c cn hc hcn hf5 (tN h1 + 1) (tA h1) [] sg true (fun ok h' ws' sg' a1 a2 a3 a4 a5 a6 => ?_) (tN h1 + 1) [] sg true 1 _ h1 hh1 frm_refl LW.rf s1 (fun w hw => by cases hw) (by rw [eA]; simpa using hl) (by rw [eA, eN]; exact hle) (by omega) (by constructor <;> intro q <;> cases q) rfl
  have f2 := frm_trans f1 (sub_TE2 a2)
  have l2 := LW.tr l1 a3
  cases ok with
  | false => exact q0 h' a1 f2 l2
  | true =>
    have inv := eP_inv (tT h1) (tN h1) sg (tN h1 + 1) (tA h1) [] [] true (tA h') ws' sg' (by rw [eA, eN]; exact hle) (by rw [eA]; simpa using hl) (fun w hw => by cases hw) rfl (by rw [List.append_nil]; exact a5)
    obtain ⟨rfl, i2, i3, E, rfl, i4⟩ := inv
    have a6 := a6 rfl
    refine q1 h' E a1 f2 l2 ⟨a4.2.2.1, a4.2.2.2.2⟩ i3 (by rw [← eN]; exact i2) ?_ ?_ i4
    · rw [frI a2 (by rfl)]
      exact e104
    · rw [a6]
      exact a4.2.2.1
theorem cl_s (c : Int32) (cn : Nat) (hc : c.toInt = cn) (hcn : cn < 60) (hf5 : f ≤ 5) (sg : List Int) (hh : HI h) (hp : SGp f h sg) (hl : sg.length ≤ tA h) (hle : tA h ≤ tN h)
    (q0 : ∀ h', HI h' → frm (WCL cn) h h' → LW f h h' → Q (some (.int 0)) h')
    (q1 : ∀ h' E, HI h' → frm (WCL cn) h h' → LW f h h' → SGp f h' (sg ++ E) → (sg ++ E).length ≤ tA h' → tA h' ≤ tN h → (h'.2.1 104 cn).toInt = ((100 * f + sg.length : Nat) : Int) → (h'.2.1 105 cn).toInt = ((100 * f + (sg ++ E).length : Nat) : Int) → dpt E 0 = some 1 → Q (some (.int 1)) h') :
    Ends X (dp + 1 + 1 + 1 + 1 + 1) 131 0 [.ref 93, .int c] [] h Q := by
  have hcc : c.toNatClampNeg = cn := by show c.toInt.toNat = _; omega
  have hi : inB c 60 = true := inB_iff (by omega) (by omega)
  refine w_clause c hh.hs (hd_s c cn hc hcn hh hle (fun ok h1 hh1 f1 t1 t2 => ⟨_, rfl, hh1.hs, fun e => ?_, fun e => ?_⟩))
  · have w106 : ∀ k, inW (WHD cn) 106 k = false := fun k => rfl
    exact q0 h1 hh1 (sub_HD f1) (LW.fr f1 w106)
  · have l1 : LW f h h1 := LW.fr f1 (fun k => rfl)
    have eN1 : tN h1 = tN h := tN_fr f1 rfl
    have s1 : SGp f h1 sg := hp.fr f1 rfl (fun k => rfl)
    refine tn_ok hh1 (fun ok2 h2 hh2 f2 hm => ⟨_, rfl, hh2.hs, fun e2 => ⟨hi, ?_⟩, fun e2 => ?_⟩)
    · have e2 := cn2 e2
      subst e2
      have l2 : LW f h h2 := LW.tr l1 (LW.fr f2 (fun k => rfl))
      have eN2 : tN h2 = tN h := (tN_fr f2 rfl).trans eN1
      have s2 : SGp f h2 sg := s1.fr f2 rfl (fun k => rfl)
      have fr2 := frm_trans (sub_HD f1) (sub_WD2 f2)
      cases hnum : numP (tT h1) (tN h1) (tA h1) with
      | none =>
        rw [hnum] at hm
        exact absurd hm.1 (by decide)
      | some q =>
        obtain ⟨v, b⟩ := q
        rw [hnum] at hm
        obtain ⟨-, m1, m2⟩ := hm
        have nl := numP_le2 hnum
        have nv := numP_le hnum
        rw [hcc]
        have b13 := hh2.iv 93 13 (r := (0, 99)) rfl
        have hh3 : HI (hpI h2 103 cn (h2.2.1 93 13)) := HI_put hh2 (by show (0 : Int) ≤ _; exact b13.1) (by show _ ≤ (99 : Int); exact b13.2)
        have f3 : frm (WCL cn) h (hpI h2 103 cn (h2.2.1 93 13)) := frm_put fr2 WCL_103
        have l3 : LW f h (hpI h2 103 cn (h2.2.1 93 13)) := LW.tr l2 (LW.put (by decide))
        have s3 : SGp f (hpI h2 103 cn (h2.2.1 93 13)) sg := ⟨by rw [put_ne (by omega)]; exact s2.1, fun j hj => by rw [put_ne (by omega)]; exact s2.2 j hj⟩
        have eA3 : tA (hpI h2 103 cn (h2.2.1 93 13)) = tA h2 := by unfold tA; rw [put_ne (by omega)]
        have eN3 : tN (hpI h2 103 cn (h2.2.1 93 13)) = tN h := by rw [← eN2]; unfold tN; rw [put_ne (by omega)]
        generalize hpI h2 103 cn (h2.2.1 93 13) = h3 at *
        have r3 := nx_rng hh3
        refine tk_ok 32 (by decide) hh3 (fun h4 hh4 f4 a4 => ⟨_, rfl, hh4.hs, fun e3 => ?_, fun e3 => ?_⟩)
        · exact q0 h4 hh4 (frm_trans f3 (sub_WA2 f4)) (LW.tr l3 (LW.fr f4 (fun k => rfl)))
        · have e3 := of_decide_eq_true (nb.mp (of_decide_eq_false (cI e3)))
          rw [if_pos e3] at a4
          have i32' : (32 : Int32).toInt = 32 := rfl
          have lt := r3.2.2 (by omega)
          have l4 : LW f h h4 := LW.tr l3 (LW.fr f4 (fun k => rfl))
          have eN4 : tN h4 = tN h := (tN_fr f4 rfl).trans eN3
          have s4 : SGp f h4 sg := s3.fr f4 rfl (fun k => rfl)
          have fr4 := frm_trans f3 (sub_WA2 f4)
          refine te_s c cn hc hcn hf5 sg hh4 s4 (by omega) (by omega) (fun h5 b1 b2 b3 => ⟨0, rfl, b1.hs, fun _ => q0 h5 b1 (frm_trans fr4 b2) (LW.tr l4 b3), fun x => absurd x (by decide)⟩) (fun h5 E b1 b2 b3 b4 b5 b6 b7 b8 b9 => ⟨1, rfl, b1.hs, fun x => absurd x (by decide), fun _ => ?_⟩)
          exact q1 h5 E b1 (frm_trans fr4 b2) (LW.tr l4 b3) b4 b5 (by rw [← eN4]; exact b6) b7 b8 b9
    · exact q0 h2 hh2 (frm_trans (sub_HD f1) (sub_WD2 f2)) (LW.tr l1 (LW.fr f2 (fun k => rfl)))
end CLS
end JN85parse8
section JN86parse9
/-! Yards that are read. -/
def WGT : List (Nat × Nat) := [(93, 12), (93, 13), (93, 22), (93, 23), (93, 24), (101, 999), (102, 999), (103, 999), (104, 999), (105, 999), (106, 999), (107, 999)]
theorem sub_CL {cn : Nat} {h h' : Hp} (hf : frm (WCL cn) h h') : frm WGT h h' := frm_sub (W := WGT) (by simp [subW, WCL, WGT]) hf
/-- what lies below the yard that is read is left as it was -/
def LOW (f : Nat) (h h' : Hp) : Prop := LW f h h' ∧ (∀ g, g ≠ f → g < 900 → h'.2.1 101 g = h.2.1 101 g) ∧ ∀ c, c < 10 * f → c < 900 → h'.2.1 104 c = h.2.1 104 c ∧ h'.2.1 105 c = h.2.1 105 c
theorem LOW.rf {f : Nat} {h : Hp} : LOW f h h := ⟨LW.rf, fun _ _ _ => rfl, fun _ _ _ => ⟨rfl, rfl⟩⟩
theorem LOW.tr {f : Nat} {h h' h'' : Hp} (a : LOW f h h') (b : LOW f h' h'') : LOW f h h'' := ⟨LW.tr a.1 b.1, fun g h1 h2 => (b.2.1 g h1 h2).trans (a.2.1 g h1 h2), fun c h1 h2 => ⟨(b.2.2 c h1 h2).1.trans (a.2.2 c h1 h2).1, (b.2.2 c h1 h2).2.trans (a.2.2 c h1 h2).2⟩⟩
theorem WCL_lo {cn a k : Nat} (hk : k < 900) (hcn : cn < 900) (hn : (a = 104 ∨ a = 105) ∧ k ≠ cn) : inW (WCL cn) a k = false := by
  obtain ⟨ha, hk2⟩ := hn
  have h1 : (cn == k) = false := by simpa using fun q => hk2 q.symm
  rcases ha with rfl | rfl
  · simp [inW, WCL, h1]
    omega
  · simp [inW, WCL, h1]
    omega
theorem LOW.cl {f cn : Nat} {h h' : Hp} (hf : frm (WCL cn) h h') (hl : LW f h h') (hcn : 10 * f ≤ cn) (hc9 : cn < 900) : LOW f h h' :=
  ⟨hl, fun g _ _ => frI hf rfl, fun c h1 h2 => ⟨frI hf (WCL_lo h2 hc9 ⟨Or.inl rfl, by omega⟩), frI hf (WCL_lo h2 hc9 ⟨Or.inr rfl, by omega⟩)⟩⟩
section GT
variable {X : Scr} {dp f : Nat} {h0 : Hp} {Q : Option Value → Hp → Prop}
theorem gt_loop (fv : Int32) (hfv : fv.toInt = f) (hf5 : f ≤ 5)
    (q0 : ∀ h', HI h' → frm WGT h0 h' → LOW f h0 h' → Q (some (.int 0)) h')
    (q1 : ∀ h', HI h' → frm WGT h0 h' → LOW f h0 h' → (∀ c : Nat, (c : Int) < (h'.2.1 101 f).toInt → clOK h' (10 * f + c) ∧ (h'.2.1 105 (10 * f + c)).toInt ≤ ((100 * f + 100 : Nat) : Int)) → Q (some (.int 1)) h') :
    ∀ (m nn : Nat) (n : Int32) (sg : List Int) (h : Hp), HI h → frm WGT h0 h → LOW f h0 h → n.toInt = nn → nn + m = 9 → SGp f h sg → sg.length ≤ tA h → tA h ≤ tN h → (∀ c, c < nn → clOK h (10 * f + c) ∧ (h.2.1 105 (10 * f + c)).toInt ≤ ((100 * f + sg.length : Nat) : Int)) →
    Ends X (dp + 1 + 1 + 1 + 1 + 1 + 1) 132 15 [.ref 93, .int fv, .int n] [] h Q
  | m, nn, n, sg, h, hh, hf, hlo, hn, hm, hs, hl, hle, hcl => by
    have e1 : (10 * fv).toInt = ((10 * f : Nat) : Int) := by rw [i_mul (by rw [i10]; omega) (by rw [i10]; omega), i10, hfv]; omega
    have e2 : (10 * fv + n).toInt = ((10 * f + nn : Nat) : Int) := by rw [i_add (by omega) (by omega), e1, hn]; omega
    have n1 : (n + 1).toInt = ((nn + 1 : Nat) : Int) := by rw [i_add (by rw [i1]; omega) (by rw [i1]; omega), i1]; omega
    have hff : fv.toNatClampNeg = f := by show fv.toInt.toNat = _; omega
    have hle100 := (tN_v hh).2
    refine w_gt1 fv n hh.hs ?_
    generalize 10 * fv + n = cv at e2 ⊢
    generalize n + 1 = nv at n1 ⊢
    refine cl_s cv (10 * f + nn) e2 (by omega) hf5 sg hh hs hl hle (fun h1 a1 a2 a3 => ⟨0, rfl, a1.hs, fun x => absurd x (by decide), fun _ => q0 h1 a1 (frm_trans hf (sub_CL a2)) (LOW.tr hlo (LOW.cl a2 a3 (by omega) (by omega)))⟩) (fun h1 E a1 a2 a3 a4 a5 a6 a7 a8 a9 => ⟨1, rfl, a1.hs, fun _ => ⟨inB_iff (by omega) (by omega), ?_⟩, fun x => absurd x (by decide)⟩)
    rw [hff]
    have hh2 : HI (hpI h1 101 f nv) := HI_put a1 (by show (0 : Int) ≤ _; omega) (by show _ ≤ (10 : Int); omega)
    have f2 : frm WGT h0 (hpI h1 101 f nv) := frm_put (frm_trans hf (sub_CL a2)) (by simp [inW, WGT])
    have lo2 : LOW f h0 (hpI h1 101 f nv) := LOW.tr (LOW.tr hlo (LOW.cl a2 a3 (by omega) (by omega))) ⟨LW.put (by decide), fun g h1 _ => put_ne (by omega), fun c _ _ => ⟨put_ne (by omega), put_ne (by omega)⟩⟩
    have s2 : SGp f (hpI h1 101 f nv) (sg ++ E) := ⟨by rw [put_ne (by omega)]; exact a4.1, fun j hj => by rw [put_ne (by omega)]; exact a4.2 j hj⟩
    have eA : tA (hpI h1 101 f nv) = tA h1 := by unfold tA; rw [put_ne (by omega)]
    have eN : tN (hpI h1 101 f nv) = tN h := by rw [← tN_fr (h := h) (h' := h1) a2 rfl]; unfold tN; rw [put_ne (by omega)]
    have len2 : (sg ++ E).length = sg.length + E.length := List.length_append
    have cl2 : ∀ c, c < nn + 1 → clOK (hpI h1 101 f nv) (10 * f + c) ∧ ((hpI h1 101 f nv).2.1 105 (10 * f + c)).toInt ≤ ((100 * f + (sg ++ E).length : Nat) : Int) := by
      intro c hc
      have p4 : ∀ x, (hpI h1 101 f nv).2.1 104 x = h1.2.1 104 x := fun x => put_ne (by omega)
      have p5 : ∀ x, (hpI h1 101 f nv).2.1 105 x = h1.2.1 105 x := fun x => put_ne (by omega)
      have p6 : (hpI h1 101 f nv).2.1 106 = h1.2.1 106 := by funext x; exact put_ne (by omega)
      by_cases q : c = nn
      · subst q
        refine ⟨⟨100 * f + sg.length, E.length, by rw [p4]; exact a7, by rw [p5, a8, len2]; omega, by omega, by omega, ?_⟩, by rw [p5, a8]; exact Int.le_refl _⟩
        rw [p6]
        refine okS_of E (100 * f + sg.length) 0 (fun j hj => ?_) a9
        have := a4.2 (sg.length + j) (by omega)
        rw [show 100 * f + sg.length + j = 100 * f + (sg.length + j) by omega, this, List.getD_eq_getElem?_getD, List.getElem?_append_right (by omega), List.getD_eq_getElem?_getD, show sg.length + j - sg.length = j by omega]
      · obtain ⟨⟨a, mm, c1, c2, c3, c4, c5⟩, c6⟩ := hcl c (by omega)
        have g4 : h1.2.1 104 (10 * f + c) = h.2.1 104 (10 * f + c) := frI a2 (WCL_lo (by omega) (by omega) ⟨Or.inl rfl, by omega⟩)
        have g5 : h1.2.1 105 (10 * f + c) = h.2.1 105 (10 * f + c) := frI a2 (WCL_lo (by omega) (by omega) ⟨Or.inr rfl, by omega⟩)
        refine ⟨⟨a, mm, by rw [p4, g4]; exact c1, by rw [p5, g5]; exact c2, c3, c4, ?_⟩, by rw [p5, g5, len2]; omega⟩
        rw [p6, okS_congr (s := h.2.1 106) mm a 0 (fun j hj => ?_)]
        · exact c5
        · by_cases z : a + j < 100 * f
          · exact a3 _ z
          · have w1 := hs.2 (a + j - 100 * f) (by omega)
            have w2 := a4.2 (a + j - 100 * f) (by omega)
            rw [show 100 * f + (a + j - 100 * f) = a + j by omega] at w1 w2
            apply Int32.toInt.inj
            rw [w1, w2, List.getD_eq_getElem?_getD, List.getElem?_append_left (by omega), List.getD_eq_getElem?_getD]
    have v101 : (hpI h1 101 f nv).2.1 101 f = nv := put_at
    generalize hpI h1 101 f nv = h2 at *
    refine ⟨fun e => ⟨fun e2 => q0 h2 hh2 f2 lo2, fun e2 => ?_⟩, fun e => ?_⟩
    · have e2 : ¬ nv.toInt = (10 : Int32).toInt := of_decide_eq_false (cI e2)
      rw [i10] at e2
      have i59 : (59 : Int32).toInt = 59 := rfl
      have r2 := nx_rng hh2
      refine tk_ok 59 (by decide) hh2 (fun h3 b1 b2 b3 => ⟨_, rfl, b1.hs, fun e3 => ?_, fun e3 => ?_⟩)
      · have e3 := of_decide_eq_true (nb.mp (of_decide_eq_true (cI e3)))
        rw [if_pos e3] at b3
        have lt := r2.2.2 (by omega)
        have eN3 : tN h3 = tN h := (tN_fr b2 rfl).trans eN
        have lo3 : LOW f h2 h3 := ⟨LW.fr b2 (fun _ => rfl), fun g _ _ => frI b2 rfl, fun c _ _ => ⟨frI b2 rfl, frI b2 rfl⟩⟩
        match m, hm with
        | 0, hm => omega
        | m + 1, hm =>
          refine gt_loop fv hfv hf5 q0 q1 m (nn + 1) nv (sg ++ E) h3 b1 (frm_trans f2 (frm_sub (V := WA) (by decide) b2)) (LOW.tr lo2 lo3) n1 (by omega) (s2.fr b2 rfl (fun _ => rfl)) (by omega) (by omega) (fun c hc => ?_)
          obtain ⟨z1, z2⟩ := cl2 c hc
          exact ⟨cl_fr (frI b2 rfl) (frI b2 rfl) (by funext x; exact frI b2 rfl) z1, by rw [frI b2 rfl]; exact z2⟩
      · exact q0 h3 b1 (frm_trans f2 (frm_sub (V := WA) (by decide) b2)) (LOW.tr lo2 ⟨LW.fr b2 (fun _ => rfl), fun g _ _ => frI b2 rfl, fun c _ _ => ⟨frI b2 rfl, frI b2 rfl⟩⟩)
    · refine q1 h2 hh2 f2 lo2 (fun c hc => ?_)
      rw [v101, n1] at hc
      obtain ⟨z1, z2⟩ := cl2 c (by omega)
      exact ⟨z1, by omega⟩
theorem gt_s (fv : Int32) (hfv : fv.toInt = f) (hf5 : f ≤ 5) (hh : HI h0)
    (q0 : ∀ h', HI h' → frm WGT h0 h' → LOW f h0 h' → Q (some (.int 0)) h')
    (q1 : ∀ h', HI h' → frm WGT h0 h' → LOW f h0 h' → (∀ c : Nat, (c : Int) < (h'.2.1 101 f).toInt → clOK h' (10 * f + c) ∧ (h'.2.1 105 (10 * f + c)).toInt ≤ ((100 * f + 100 : Nat) : Int)) → Q (some (.int 1)) h') :
    Ends X (dp + 1 + 1 + 1 + 1 + 1 + 1) 132 0 [.ref 93, .int fv, .retAddr 0] [] h0 Q := by
  have i100 : (100 : Int32).toInt = 100 := rfl
  have e1 : (100 * fv).toInt = ((100 * f : Nat) : Int) := by rw [i_mul (by rw [i100]; omega) (by rw [i100]; omega), i100, hfv]; omega
  refine w_gt0 fv hh.hs ?_
  generalize 100 * fv = v at e1 ⊢
  refine gt_loop fv hfv hf5 q0 q1 9 0 0 [] _ (HI_put (HI_put hh (by show (0 : Int) ≤ 0; decide) (by show (0 : Int) ≤ 100; decide)) (by show (0 : Int) ≤ _; omega) (by show _ ≤ (600 : Int); omega)) (frm_put (frm_put frm_refl rfl) rfl) ⟨LW.tr (LW.put (by decide)) (LW.put (by decide)), fun g _ _ => by rw [put_ne (by omega), put_ne (by omega)], fun c _ _ => ⟨by rw [put_ne (by omega), put_ne (by omega)], by rw [put_ne (by omega), put_ne (by omega)]⟩⟩ rfl (by omega) ⟨by rw [put_at]; exact e1, fun j hj => by simp at hj⟩ (by simp) ?_ (fun c hc => by omega)
  have : tA (hpI (hpI h0 93 12 0) 93 22 v) = 0 := by
    unfold tA
    rw [put_ne (by omega), put_at]
    rfl
  omega
end GT
def WY : List (Nat × Nat) := [(93, 9), (93, 10), (93, 11), (93, 12), (93, 13), (93, 22), (93, 23), (93, 24), (101, 999), (102, 999), (103, 999), (104, 999), (105, 999), (106, 999), (107, 999)]
theorem yard_s {X : Scr} {dp : Nat} {h : Hp} {Q : Option Value → Hp → Prop} (hh : HI h) (ht : TX h)
    (hQ : ∀ (r : Int32) h', HI h' → frm WY h h' → TX h' → Q (some (.int r)) h') : Ends X (dp + 1 + 1 + 1 + 1 + 1 + 1 + 1) 133 0 [.ref 93, .retAddr 0] [] h Q := by
  have y6 := hh.iv 93 9 (r := (0, 6)) rfl
  simp only at y6
  have i6' : (6 : Int32).toInt = 6 := rfl
  refine w_yard hh.hs ⟨fun e => ?_, fun e => hQ _ h hh frm_refl ht⟩
  have e : ¬ (h.2.1 93 9).toInt = 6 := of_decide_eq_true (cI e)
  have hf5 : (h.2.1 93 9).toInt.toNat ≤ 5 := by omega
  have sub : ∀ {h'}, frm WGT h h' → frm WY h h' := fun q => frm_sub (V := WGT) (by decide) q
  have old : ∀ {h' : Hp}, LOW (h.2.1 93 9).toInt.toNat h h' → ∀ f c : Nat, f < (h.2.1 93 9).toInt.toNat → (c : Int) < (h'.2.1 101 f).toInt → clOK h' (10 * f + c) ∧ (h'.2.1 105 (10 * f + c)).toInt ≤ ((100 * f + 100 : Nat) : Int) := by
    intro h' hlo f c hf hc
    rw [hlo.2.1 f (by omega) (by omega)] at hc
    have c10 := hh.iv 101 f (r := (0, 10)) rfl
    simp only at c10
    obtain ⟨⟨a, m, c1, c2, c3, c4, c5⟩, c6⟩ := ht.2.2 f c (by omega) hc
    obtain ⟨g4, g5⟩ := hlo.2.2 (10 * f + c) (by omega) (by omega)
    refine ⟨⟨a, m, by rw [g4]; exact c1, by rw [g5]; exact c2, c3, c4, ?_⟩, by rw [g5]; exact c6⟩
    rw [okS_congr (s := h.2.1 106) m a 0 (fun j hj => hlo.1 _ (by omega))]
    exact c5
  refine gt_s (f := (h.2.1 93 9).toInt.toNat) (h.2.1 93 9) (by omega) hf5 hh (fun h1 a1 a2 a3 => ⟨0, rfl, a1.hs, fun x => absurd x (by decide), fun _ => ?_⟩) (fun h1 a1 a2 a3 a4 => ⟨1, rfl, a1.hs, fun _ => ?_, fun x => absurd x (by decide)⟩)
  · refine hQ _ _ (HI_put a1 (by show (0 : Int) ≤ 0; decide) (by show (0 : Int) ≤ 100; decide)) (frm_put (sub a2) rfl) ⟨?_, ?_, fun f c hf hc => ?_⟩
    · rw [put_ne (by omega), put_ne (by omega), frI a2 rfl, frI a2 rfl]; exact ht.1
    · rw [put_ne (by omega), put_ne (by omega), frI a2 rfl, frI a2 rfl]; exact ht.2.1
    · rw [put_ne (by omega), frI a2 rfl] at hf
      rw [put_ne (by omega)] at hc
      obtain ⟨z1, z2⟩ := old a3 f c (by omega) hc
      exact ⟨cl_fr (put_ne (by omega)) (put_ne (by omega)) (by funext x; exact put_ne (by omega)) z1, by rw [put_ne (by omega)]; exact z2⟩
  · have v9 : (hpI h1 93 11 0).2.1 93 9 = h.2.1 93 9 := by rw [put_ne (by omega), frI a2 rfl]
    rw [v9]
    have v9b : (hpI (hpI h1 93 11 0) 93 10 (h.2.1 93 9)).2.1 93 9 = h.2.1 93 9 := by rw [put_ne (by omega), v9]
    rw [v9b]
    have g : (h.2.1 93 9 + 1).toInt = (h.2.1 93 9).toInt + 1 := by rw [i_add (by rw [i1]; omega) (by rw [i1]; omega), i1]
    generalize h.2.1 93 9 + 1 = y at g ⊢
    have pn : ∀ a k, ¬ a = 93 → (hpI (hpI (hpI h1 93 11 0) 93 10 (h.2.1 93 9)) 93 9 y).2.1 a k = h1.2.1 a k := fun a k hn => by rw [put_ne (by omega), put_ne (by omega), put_ne (by omega)]
    refine hQ _ _ (HI_put (HI_put (HI_put a1 (by show (0 : Int) ≤ 0; decide) (by show (0 : Int) ≤ 100; decide)) (by show (-1 : Int) ≤ _; omega) (by show _ ≤ (5 : Int); omega)) (by show (0 : Int) ≤ _; omega) (by show _ ≤ (6 : Int); omega)) (frm_put (frm_put (frm_put (sub a2) rfl) rfl) rfl) ⟨?_, ?_, fun f c hf hc => ?_⟩
    · rw [put_ne (by omega), put_at, put_at]
      omega
    · rw [put_ne (by omega), put_ne (by omega), put_ne (by omega), put_at, frI a2 rfl]
      have := ht.2.1
      omega
    · rw [put_at] at hf
      rw [pn 101 f (by decide)] at hc
      have z : clOK h1 (10 * f + c) ∧ (h1.2.1 105 (10 * f + c)).toInt ≤ ((100 * f + 100 : Nat) : Int) := by
        by_cases q : f = (h.2.1 93 9).toInt.toNat
        · subst q
          exact a4 c hc
        · exact old a3 f c (by omega) hc
      exact ⟨cl_fr (pn _ _ (by decide)) (pn _ _ (by decide)) (by funext x; exact pn _ _ (by decide)) z.1, by rw [pn _ _ (by decide)]; exact z.2⟩
end JN86parse9
