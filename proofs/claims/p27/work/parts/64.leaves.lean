/-! Leaves of the reference, exactly: what is owed for them. -/
theorem w_has {X : Scr} {dp : Nat} {h : Hp} {Q : Option Value → Hp → Prop} (s : Int32) (k : Int32) (hs : HS h)
    (vc : ((condB .ne ((s >>> (k &&& 31)) &&& 1) 1 = true → Q (some (.int 0)) h) ∧ (condB .ne ((s >>> (k &&& 31)) &&& 1) 1 = false → Q (some (.int 1)) h))) :
    Ends X dp 110 0 [.ref 93, .int s, .int k] [] h Q := by
  have ra : ∀ {a : Nat}, a < 1000 → a ≤ OLDB := fun h => by have := OLDB_eq; omega
  refine e_iload_n (show pAt 110 0 = some (0, .iload_n 1, 1, []) from by decide +kernel) rfl ?_
  refine e_iload_n (show pAt 110 1 = some (1, .iload_n 2, 1, []) from by decide +kernel) rfl ?_
  refine e_ishr (show pAt 110 2 = some (2, .ishr, 1, []) from by decide +kernel) ?_
  refine e_iconst (c := 1) (show pAt 110 3 = some (3, .iconst 1, 1, []) from by decide +kernel) (by decide) ?_
  refine e_iand (show pAt 110 4 = some (4, .iand, 1, []) from by decide +kernel) ?_
  refine e_iconst (c := 1) (show pAt 110 5 = some (5, .iconst 1, 1, []) from by decide +kernel) (by decide) ?_
  refine e_icmp (t := 13) (show pAt 110 6 = some (6, .if_icmp .ne 7, 3, []) from by decide +kernel) rfl (fun c1 => ?_) (fun c1 => ?_)
  · replace vc := vc.1 c1
    refine e_iconst (c := 0) (show pAt 110 13 = some (13, .iconst 0, 1, []) from by decide +kernel) (by decide) ?_
    exact e_retZ (show pAt 110 14 = some (14, .ireturn, 1, []) from by decide +kernel) rfl (by decide) vc
  · replace vc := vc.2 c1
    refine e_iconst (c := 1) (show pAt 110 9 = some (9, .iconst 1, 1, []) from by decide +kernel) (by decide) ?_
    refine e_goto (t := 14) (show pAt 110 10 = some (10, .goto 4, 3, []) from by decide +kernel) rfl ?_
    exact e_retZ (show pAt 110 14 = some (14, .ireturn, 1, []) from by decide +kernel) rfl (by decide) vc

theorem w_in {X : Scr} {dp : Nat} {h : Hp} {Q : Option Value → Hp → Prop} (x : Int32) (lo : Int32) (hi : Int32) (hs : HS h)
    (vc : ((condB .lt x lo = true → Q (some (.int 0)) h) ∧ (condB .lt x lo = false → ((condB .gt x hi = true → Q (some (.int 0)) h) ∧ (condB .gt x hi = false → Q (some (.int 1)) h))))) :
    Ends X dp 109 0 [.ref 93, .int x, .int lo, .int hi] [] h Q := by
  have ra : ∀ {a : Nat}, a < 1000 → a ≤ OLDB := fun h => by have := OLDB_eq; omega
  refine e_iload_n (show pAt 109 0 = some (0, .iload_n 1, 1, []) from by decide +kernel) rfl ?_
  refine e_iload_n (show pAt 109 1 = some (1, .iload_n 2, 1, []) from by decide +kernel) rfl ?_
  refine e_icmp (t := 14) (show pAt 109 2 = some (2, .if_icmp .lt 12, 3, []) from by decide +kernel) rfl (fun c1 => ?_) (fun c1 => ?_)
  · replace vc := vc.1 c1
    refine e_iconst (c := 0) (show pAt 109 14 = some (14, .iconst 0, 1, []) from by decide +kernel) (by decide) ?_
    exact e_retZ (show pAt 109 15 = some (15, .ireturn, 1, []) from by decide +kernel) rfl (by decide) vc
  · replace vc := vc.2 c1
    refine e_iload_n (show pAt 109 5 = some (5, .iload_n 1, 1, []) from by decide +kernel) rfl ?_
    refine e_iload_n (show pAt 109 6 = some (6, .iload_n 3, 1, []) from by decide +kernel) rfl ?_
    refine e_icmp (t := 14) (show pAt 109 7 = some (7, .if_icmp .gt 7, 3, []) from by decide +kernel) rfl (fun c2 => ?_) (fun c2 => ?_)
    · replace vc := vc.1 c2
      refine e_iconst (c := 0) (show pAt 109 14 = some (14, .iconst 0, 1, []) from by decide +kernel) (by decide) ?_
      exact e_retZ (show pAt 109 15 = some (15, .ireturn, 1, []) from by decide +kernel) rfl (by decide) vc
    · replace vc := vc.2 c2
      refine e_iconst (c := 1) (show pAt 109 10 = some (10, .iconst 1, 1, []) from by decide +kernel) (by decide) ?_
      refine e_goto (t := 15) (show pAt 109 11 = some (11, .goto 4, 3, []) from by decide +kernel) rfl ?_
      exact e_retZ (show pAt 109 15 = some (15, .ireturn, 1, []) from by decide +kernel) rfl (by decide) vc

theorem w_isRunning {X : Scr} {dp : Nat} {h : Hp} {Q : Option Value → Hp → Prop} (p : Int32) (hs : HS h)
    (vc : Ends X dp 110 0 [.ref 93, .int ((h.2.1 93 2) ||| (h.2.1 93 32)), .int p] [] h (fun rv h1 => ∃ r2, rv = some (.int r2) ∧ HS h1 ∧ ((condB .ne r2 0 = true → Q (some (.int 0)) h1) ∧ (condB .ne r2 0 = false → Q (some (.int 1)) h1)))) :
    Ends X (dp + 1) 139 0 [.ref 93, .int p] [] h Q := by
  have ra : ∀ {a : Nat}, a < 1000 → a ≤ OLDB := fun h => by have := OLDB_eq; omega
  refine e_aload_n (show pAt 139 0 = some (0, .aload_n 0, 1, []) from by decide +kernel) rfl (ra (by decide)) ?_
  refine e_aload_n (show pAt 139 1 = some (1, .aload_n 0, 1, []) from by decide +kernel) rfl (ra (by decide)) ?_
  refine e_gI (show pAt 139 2 = some (2, .getfield 16, 3, [7, 2, 0, 4125]) from by decide +kernel) (show HS h from hs) rfl (by decide) ?_
  refine e_aload_n (show pAt 139 5 = some (5, .aload_n 0, 1, []) from by decide +kernel) rfl (ra (by decide)) ?_
  refine e_gI (show pAt 139 6 = some (6, .getfield 109, 3, [7, 32, 0, 4155]) from by decide +kernel) (show HS h from hs) rfl (by decide) ?_
  refine e_ior (show pAt 139 9 = some (9, .ior, 1, []) from by decide +kernel) ?_
  refine e_iload_n (show pAt 139 10 = some (10, .iload_n 1, 1, []) from by decide +kernel) rfl ?_
  refine Ends.call (show pAt 139 11 = some (11, .invokevirtual 274, 3, [110, 3, 0, 0, 5173, 5175, 71]) from by decide +kernel) (isRet_none rfl) rfl (call_this (show HS h from hs) rfl rfl (by decide)) (Ends.mono vc ?_)
  rintro _ h1 ⟨r2, rfl, hs_h1, vc⟩
  refine e_if (t := 21) (show pAt 139 14 = some (14, .ifCond .ne 7, 3, []) from by decide +kernel) rfl (fun c4 => ?_) (fun c4 => ?_)
  · replace vc := vc.1 c4
    refine e_iconst (c := 0) (show pAt 139 21 = some (21, .iconst 0, 1, []) from by decide +kernel) (by decide) ?_
    exact e_retZ (show pAt 139 22 = some (22, .ireturn, 1, []) from by decide +kernel) rfl (by decide) vc
  · replace vc := vc.2 c4
    refine e_iconst (c := 1) (show pAt 139 17 = some (17, .iconst 1, 1, []) from by decide +kernel) (by decide) ?_
    refine e_goto (t := 22) (show pAt 139 18 = some (18, .goto 4, 3, []) from by decide +kernel) rfl ?_
    exact e_retZ (show pAt 139 22 = some (22, .ireturn, 1, []) from by decide +kernel) rfl (by decide) vc

theorem w_isPerson {X : Scr} {dp : Nat} {h : Hp} {Q : Option Value → Hp → Prop} (p : Int32) (hs : HS h)
    (vc : Ends X dp 109 0 [.ref 93, .int p, .int 0, .int ((h.2.1 93 0) - 1)] [] h (fun rv h1 => ∃ r2, rv = some (.int r2) ∧ HS h1 ∧ (r2 = 0 ∨ r2 = 1) ∧ Q (some (.int r2)) h1)) :
    Ends X (dp + 1) 112 0 [.ref 93, .int p] [] h Q := by
  have ra : ∀ {a : Nat}, a < 1000 → a ≤ OLDB := fun h => by have := OLDB_eq; omega
  refine e_aload_n (show pAt 112 0 = some (0, .aload_n 0, 1, []) from by decide +kernel) rfl (ra (by decide)) ?_
  refine e_iload_n (show pAt 112 1 = some (1, .iload_n 1, 1, []) from by decide +kernel) rfl ?_
  refine e_iconst (c := 0) (show pAt 112 2 = some (2, .iconst 0, 1, []) from by decide +kernel) (by decide) ?_
  refine e_aload_n (show pAt 112 3 = some (3, .aload_n 0, 1, []) from by decide +kernel) rfl (ra (by decide)) ?_
  refine e_gI (show pAt 112 4 = some (4, .getfield 7, 3, [7, 0, 0, 4123]) from by decide +kernel) (show HS h from hs) rfl (by decide) ?_
  refine e_iconst (c := 1) (show pAt 112 7 = some (7, .iconst 1, 1, []) from by decide +kernel) (by decide) ?_
  refine e_isub (show pAt 112 8 = some (8, .isub, 1, []) from by decide +kernel) ?_
  refine Ends.call (show pAt 112 9 = some (9, .invokevirtual 206, 3, [109, 4, 0, 0, 5081, 5083, 54]) from by decide +kernel) (isRet_none rfl) rfl (call_this (show HS h from hs) rfl rfl (by decide)) (Ends.mono vc ?_)
  rintro _ h1 ⟨r2, rfl, hs_h1, vc⟩
  exact e_retZ (show pAt 112 12 = some (12, .ireturn, 1, []) from by decide +kernel) rfl vc.1 vc.2

theorem w_allSet {X : Scr} {dp : Nat} {h : Hp} {Q : Option Value → Hp → Prop}  (hs : HS h)
    (vc : Q (some (.int ((1 <<< ((h.2.1 93 0) &&& 31)) - 1))) h) :
    Ends X dp 113 0 [.ref 93] [] h Q := by
  have ra : ∀ {a : Nat}, a < 1000 → a ≤ OLDB := fun h => by have := OLDB_eq; omega
  refine e_iconst (c := 1) (show pAt 113 0 = some (0, .iconst 1, 1, []) from by decide +kernel) (by decide) ?_
  refine e_aload_n (show pAt 113 1 = some (1, .aload_n 0, 1, []) from by decide +kernel) rfl (ra (by decide)) ?_
  refine e_gI (show pAt 113 2 = some (2, .getfield 7, 3, [7, 0, 0, 4123]) from by decide +kernel) (show HS h from hs) rfl (by decide) ?_
  refine e_ishl (show pAt 113 5 = some (5, .ishl, 1, []) from by decide +kernel) ?_
  refine e_iconst (c := 1) (show pAt 113 6 = some (6, .iconst 1, 1, []) from by decide +kernel) (by decide) ?_
  refine e_isub (show pAt 113 7 = some (7, .isub, 1, []) from by decide +kernel) ?_
  exact e_retI (show pAt 113 8 = some (8, .ireturn, 1, []) from by decide +kernel) rfl vc

theorem w_begin {X : Scr} {dp : Nat} {h : Hp} {Q : Option Value → Hp → Prop}  (hs : HS h)
    (vc : ((condB .ge (h.2.1 93 10) 0 = true → Q (some (.int (10 * (h.2.1 93 10)))) h) ∧ (condB .ge (h.2.1 93 10) 0 = false → Q (some (.int 0)) h))) :
    Ends X dp 134 0 [.ref 93] [] h Q := by
  have ra : ∀ {a : Nat}, a < 1000 → a ≤ OLDB := fun h => by have := OLDB_eq; omega
  refine e_aload_n (show pAt 134 0 = some (0, .aload_n 0, 1, []) from by decide +kernel) rfl (ra (by decide)) ?_
  refine e_gI (show pAt 134 1 = some (1, .getfield 41, 3, [7, 10, 0, 4133]) from by decide +kernel) (show HS h from hs) rfl (by decide) ?_
  refine e_if (t := 11) (show pAt 134 4 = some (4, .ifCond .ge 7, 3, []) from by decide +kernel) rfl (fun c1 => ?_) (fun c1 => ?_)
  · replace vc := vc.1 c1
    refine e_bipush (c := 10) (show pAt 134 11 = some (11, .bipush 10, 2, []) from by decide +kernel) (by decide) ?_
    refine e_aload_n (show pAt 134 13 = some (13, .aload_n 0, 1, []) from by decide +kernel) rfl (ra (by decide)) ?_
    refine e_gI (show pAt 134 14 = some (14, .getfield 41, 3, [7, 10, 0, 4133]) from by decide +kernel) (show HS h from hs) rfl (by decide) ?_
    refine e_imul (show pAt 134 17 = some (17, .imul, 1, []) from by decide +kernel) ?_
    exact e_retI (show pAt 134 18 = some (18, .ireturn, 1, []) from by decide +kernel) rfl vc
  · replace vc := vc.2 c1
    refine e_iconst (c := 0) (show pAt 134 7 = some (7, .iconst 0, 1, []) from by decide +kernel) (by decide) ?_
    refine e_goto (t := 18) (show pAt 134 8 = some (8, .goto 10, 3, []) from by decide +kernel) rfl ?_
    exact e_retI (show pAt 134 18 = some (18, .ireturn, 1, []) from by decide +kernel) rfl vc

theorem w_behind {X : Scr} {dp : Nat} {h : Hp} {Q : Option Value → Hp → Prop}  (hs : HS h)
    (vc : ((condB .ge (h.2.1 93 10) 0 = true → (inB (h.2.1 93 10) 6 = true ∧ Q (some (.int ((10 * (h.2.1 93 10)) + (h.2.1 101 (h.2.1 93 10).toNatClampNeg)))) h)) ∧ (condB .ge (h.2.1 93 10) 0 = false → Q (some (.int 0)) h))) :
    Ends X dp 135 0 [.ref 93] [] h Q := by
  have ra : ∀ {a : Nat}, a < 1000 → a ≤ OLDB := fun h => by have := OLDB_eq; omega
  refine e_aload_n (show pAt 135 0 = some (0, .aload_n 0, 1, []) from by decide +kernel) rfl (ra (by decide)) ?_
  refine e_gI (show pAt 135 1 = some (1, .getfield 41, 3, [7, 10, 0, 4133]) from by decide +kernel) (show HS h from hs) rfl (by decide) ?_
  refine e_if (t := 11) (show pAt 135 4 = some (4, .ifCond .ge 7, 3, []) from by decide +kernel) rfl (fun c1 => ?_) (fun c1 => ?_)
  · replace vc := vc.1 c1
    refine e_bipush (c := 10) (show pAt 135 11 = some (11, .bipush 10, 2, []) from by decide +kernel) (by decide) ?_
    refine e_aload_n (show pAt 135 13 = some (13, .aload_n 0, 1, []) from by decide +kernel) rfl (ra (by decide)) ?_
    refine e_gI (show pAt 135 14 = some (14, .getfield 41, 3, [7, 10, 0, 4133]) from by decide +kernel) (show HS h from hs) rfl (by decide) ?_
    refine e_imul (show pAt 135 17 = some (17, .imul, 1, []) from by decide +kernel) ?_
    refine e_aload_n (show pAt 135 18 = some (18, .aload_n 0, 1, []) from by decide +kernel) rfl (ra (by decide)) ?_
    refine e_gR (show pAt 135 19 = some (19, .getfield 56, 3, [7, 15, 0, 4138]) from by decide +kernel) (show HS h from hs) rfl (by decide) (hs_ref (show HS h from hs) rfl) ?_
    refine e_aload_n (show pAt 135 22 = some (22, .aload_n 0, 1, []) from by decide +kernel) rfl (ra (by decide)) ?_
    refine e_gI (show pAt 135 23 = some (23, .getfield 41, 3, [7, 10, 0, 4133]) from by decide +kernel) (show HS h from hs) rfl (by decide) ?_
    obtain ⟨c2, vc⟩ := vc
    refine e_ald (show pAt 135 26 = some (26, .iaload, 1, []) from by decide +kernel) (show HS h from hs) (by decide) c2 ?_
    refine e_iadd (show pAt 135 27 = some (27, .iadd, 1, []) from by decide +kernel) ?_
    exact e_retI (show pAt 135 28 = some (28, .ireturn, 1, []) from by decide +kernel) rfl vc
  · replace vc := vc.2 c1
    refine e_iconst (c := 0) (show pAt 135 7 = some (7, .iconst 0, 1, []) from by decide +kernel) (by decide) ?_
    refine e_goto (t := 28) (show pAt 135 8 = some (8, .goto 20, 3, []) from by decide +kernel) rfl ?_
    exact e_retI (show pAt 135 28 = some (28, .ireturn, 1, []) from by decide +kernel) rfl vc

theorem w_fact {X : Scr} {dp : Nat} {h : Hp} {Q : Option Value → Hp → Prop} (f : Int32) (p : Int32) (l : Int32) (hs : HS h)
    (vc : (((f.toInt < 0 ∨ 4 < f.toInt) → Q (some (.int ((h.2.1 93 1) - (h.2.1 93 1) / 10 * 10))) h) ∧ (f.toInt = 0 → Q (some (.int p)) h) ∧ (f.toInt = 1 → (inB p 7 = true ∧ Q (some (.int (h.2.1 94 p.toNatClampNeg))) h)) ∧ (f.toInt = 2 → Q (some (.int l)) h) ∧ (f.toInt = 3 → (inB p 7 = true ∧ Q (some (.int (h.2.1 98 p.toNatClampNeg))) h)) ∧ (f.toInt = 4 → (inB p 7 = true ∧ Q (some (.int (h.2.1 97 p.toNatClampNeg))) h)))) :
    Ends X dp 136 0 [.ref 93, .int f, .int p, .int l] [] h Q := by
  have ra : ∀ {a : Nat}, a < 1000 → a ≤ OLDB := fun h => by have := OLDB_eq; omega
  refine e_iload_n (show pAt 136 0 = some (0, .iload_n 1, 1, []) from by decide +kernel) rfl ?_
  rcases (show (f.toInt < 0 ∨ 4 < f.toInt) ∨ f.toInt = 0 ∨ f.toInt = 1 ∨ f.toInt = 2 ∨ f.toInt = 3 ∨ f.toInt = 4 from by omega) with c1 | c1 | c1 | c1 | c1 | c1
  · refine e_tsd (t := 61) (show pAt 136 1 = some (1, .tableswitch 60 0 4 #[35, 37, 44, 46, 53], 35, []) from by decide +kernel) c1 rfl ?_
    replace vc := vc.1 c1
    refine e_aload_n (show pAt 136 61 = some (61, .aload_n 0, 1, []) from by decide +kernel) rfl (ra (by decide)) ?_
    refine e_gI (show pAt 136 62 = some (62, .getfield 13, 3, [7, 1, 0, 4124]) from by decide +kernel) (show HS h from hs) rfl (by decide) ?_
    refine e_bipush (c := 10) (show pAt 136 65 = some (65, .bipush 10, 2, []) from by decide +kernel) (by decide) ?_
    refine e_irem (show pAt 136 67 = some (67, .irem, 1, []) from by decide +kernel) (by decide) ?_
    exact e_retI (show pAt 136 68 = some (68, .ireturn, 1, []) from by decide +kernel) rfl vc
  · refine e_tsc (t := 36) 0 (show pAt 136 1 = some (1, .tableswitch 60 0 4 #[35, 37, 44, 46, 53], 35, []) from by decide +kernel) (by omega) (by omega) rfl rfl ?_
    replace vc := vc.2.1 c1
    refine e_iload_n (show pAt 136 36 = some (36, .iload_n 2, 1, []) from by decide +kernel) rfl ?_
    exact e_retI (show pAt 136 37 = some (37, .ireturn, 1, []) from by decide +kernel) rfl vc
  · refine e_tsc (t := 38) 1 (show pAt 136 1 = some (1, .tableswitch 60 0 4 #[35, 37, 44, 46, 53], 35, []) from by decide +kernel) (by omega) (by omega) rfl rfl ?_
    replace vc := vc.2.2.1 c1
    refine e_aload_n (show pAt 136 38 = some (38, .aload_n 0, 1, []) from by decide +kernel) rfl (ra (by decide)) ?_
    refine e_gR (show pAt 136 39 = some (39, .getfield 19, 3, [7, 3, 0, 4126]) from by decide +kernel) (show HS h from hs) rfl (by decide) (hs_ref (show HS h from hs) rfl) ?_
    refine e_iload_n (show pAt 136 42 = some (42, .iload_n 2, 1, []) from by decide +kernel) rfl ?_
    obtain ⟨c3, vc⟩ := vc
    refine e_ald (show pAt 136 43 = some (43, .iaload, 1, []) from by decide +kernel) (show HS h from hs) (by decide) c3 ?_
    exact e_retI (show pAt 136 44 = some (44, .ireturn, 1, []) from by decide +kernel) rfl vc
  · refine e_tsc (t := 45) 2 (show pAt 136 1 = some (1, .tableswitch 60 0 4 #[35, 37, 44, 46, 53], 35, []) from by decide +kernel) (by omega) (by omega) rfl rfl ?_
    replace vc := vc.2.2.2.1 c1
    refine e_iload_n (show pAt 136 45 = some (45, .iload_n 3, 1, []) from by decide +kernel) rfl ?_
    exact e_retI (show pAt 136 46 = some (46, .ireturn, 1, []) from by decide +kernel) rfl vc
  · refine e_tsc (t := 47) 3 (show pAt 136 1 = some (1, .tableswitch 60 0 4 #[35, 37, 44, 46, 53], 35, []) from by decide +kernel) (by omega) (by omega) rfl rfl ?_
    replace vc := vc.2.2.2.2.1 c1
    refine e_aload_n (show pAt 136 47 = some (47, .aload_n 0, 1, []) from by decide +kernel) rfl (ra (by decide)) ?_
    refine e_gR (show pAt 136 48 = some (48, .getfield 32, 3, [7, 7, 0, 4130]) from by decide +kernel) (show HS h from hs) rfl (by decide) (hs_ref (show HS h from hs) rfl) ?_
    refine e_iload_n (show pAt 136 51 = some (51, .iload_n 2, 1, []) from by decide +kernel) rfl ?_
    obtain ⟨c4, vc⟩ := vc
    refine e_ald (show pAt 136 52 = some (52, .iaload, 1, []) from by decide +kernel) (show HS h from hs) (by decide) c4 ?_
    exact e_retI (show pAt 136 53 = some (53, .ireturn, 1, []) from by decide +kernel) rfl vc
  · refine e_tsc (t := 54) 4 (show pAt 136 1 = some (1, .tableswitch 60 0 4 #[35, 37, 44, 46, 53], 35, []) from by decide +kernel) (by omega) (by omega) rfl rfl ?_
    replace vc := vc.2.2.2.2.2 c1
    refine e_aload_n (show pAt 136 54 = some (54, .aload_n 0, 1, []) from by decide +kernel) rfl (ra (by decide)) ?_
    refine e_gR (show pAt 136 55 = some (55, .getfield 29, 3, [7, 6, 0, 4129]) from by decide +kernel) (show HS h from hs) rfl (by decide) (hs_ref (show HS h from hs) rfl) ?_
    refine e_iload_n (show pAt 136 58 = some (58, .iload_n 2, 1, []) from by decide +kernel) rfl ?_
    obtain ⟨c5, vc⟩ := vc
    refine e_ald (show pAt 136 59 = some (59, .iaload, 1, []) from by decide +kernel) (show HS h from hs) (by decide) c5 ?_
    exact e_retI (show pAt 136 60 = some (60, .ireturn, 1, []) from by decide +kernel) rfl vc

theorem w_waits {X : Scr} {dp : Nat} {h : Hp} {Q : Option Value → Hp → Prop} (p : Int32) (hs : HS h)
    (vc : (inB p 7 = true ∧ ((condB .eq (h.2.1 94 p.toNatClampNeg) 3 = true → Q (some (.int 1)) h) ∧ (condB .eq (h.2.1 94 p.toNatClampNeg) 3 = false → (inB p 7 = true ∧ ((condB .ne (h.2.1 94 p.toNatClampNeg) 6 = true → Q (some (.int 0)) h) ∧ (condB .ne (h.2.1 94 p.toNatClampNeg) 6 = false → Q (some (.int 1)) h))))))) :
    Ends X dp 151 0 [.ref 93, .int p] [] h Q := by
  have ra : ∀ {a : Nat}, a < 1000 → a ≤ OLDB := fun h => by have := OLDB_eq; omega
  refine e_aload_n (show pAt 151 0 = some (0, .aload_n 0, 1, []) from by decide +kernel) rfl (ra (by decide)) ?_
  refine e_gR (show pAt 151 1 = some (1, .getfield 19, 3, [7, 3, 0, 4126]) from by decide +kernel) (show HS h from hs) rfl (by decide) (hs_ref (show HS h from hs) rfl) ?_
  refine e_iload_n (show pAt 151 4 = some (4, .iload_n 1, 1, []) from by decide +kernel) rfl ?_
  obtain ⟨c1, vc⟩ := vc
  refine e_ald (show pAt 151 5 = some (5, .iaload, 1, []) from by decide +kernel) (show HS h from hs) (by decide) c1 ?_
  refine e_iconst (c := 3) (show pAt 151 6 = some (6, .iconst 3, 1, []) from by decide +kernel) (by decide) ?_
  refine e_icmp (t := 21) (show pAt 151 7 = some (7, .if_icmp .eq 14, 3, []) from by decide +kernel) rfl (fun c2 => ?_) (fun c2 => ?_)
  · replace vc := vc.1 c2
    refine e_iconst (c := 1) (show pAt 151 21 = some (21, .iconst 1, 1, []) from by decide +kernel) (by decide) ?_
    refine e_goto (t := 26) (show pAt 151 22 = some (22, .goto 4, 3, []) from by decide +kernel) rfl ?_
    exact e_retZ (show pAt 151 26 = some (26, .ireturn, 1, []) from by decide +kernel) rfl (by decide) vc
  · replace vc := vc.2 c2
    refine e_aload_n (show pAt 151 10 = some (10, .aload_n 0, 1, []) from by decide +kernel) rfl (ra (by decide)) ?_
    refine e_gR (show pAt 151 11 = some (11, .getfield 19, 3, [7, 3, 0, 4126]) from by decide +kernel) (show HS h from hs) rfl (by decide) (hs_ref (show HS h from hs) rfl) ?_
    refine e_iload_n (show pAt 151 14 = some (14, .iload_n 1, 1, []) from by decide +kernel) rfl ?_
    obtain ⟨c3, vc⟩ := vc
    refine e_ald (show pAt 151 15 = some (15, .iaload, 1, []) from by decide +kernel) (show HS h from hs) (by decide) c3 ?_
    refine e_bipush (c := 6) (show pAt 151 16 = some (16, .bipush 6, 2, []) from by decide +kernel) (by decide) ?_
    refine e_icmp (t := 25) (show pAt 151 18 = some (18, .if_icmp .ne 7, 3, []) from by decide +kernel) rfl (fun c4 => ?_) (fun c4 => ?_)
    · replace vc := vc.1 c4
      refine e_iconst (c := 0) (show pAt 151 25 = some (25, .iconst 0, 1, []) from by decide +kernel) (by decide) ?_
      exact e_retZ (show pAt 151 26 = some (26, .ireturn, 1, []) from by decide +kernel) rfl (by decide) vc
    · replace vc := vc.2 c4
      refine e_iconst (c := 1) (show pAt 151 21 = some (21, .iconst 1, 1, []) from by decide +kernel) (by decide) ?_
      refine e_goto (t := 26) (show pAt 151 22 = some (22, .goto 4, 3, []) from by decide +kernel) rfl ?_
      exact e_retZ (show pAt 151 26 = some (26, .ireturn, 1, []) from by decide +kernel) rfl (by decide) vc

theorem w_ahead {X : Scr} {dp : Nat} {h : Hp} {Q : Option Value → Hp → Prop} (a : Int32) (b : Int32) (hs : HS h)
    (vc : Ends X dp 151 0 [.ref 93, .int a] [] h (fun rv h1 => ∃ r2, rv = some (.int r2) ∧ HS h1 ∧ Ends X dp 151 0 [.ref 93, .int b] [] h1 (fun rv h4 => ∃ r5, rv = some (.int r5) ∧ HS h4 ∧ ((condB .eq r2 r5 = true → (inB a 7 = true ∧ (inB b 7 = true ∧ ((condB .gt (h4.2.1 97 a.toNatClampNeg) (h4.2.1 97 b.toNatClampNeg) = true → Q (some (.int 1)) h4) ∧ (condB .gt (h4.2.1 97 a.toNatClampNeg) (h4.2.1 97 b.toNatClampNeg) = false → (inB a 7 = true ∧ (inB b 7 = true ∧ ((condB .ne (h4.2.1 97 a.toNatClampNeg) (h4.2.1 97 b.toNatClampNeg) = true → Q (some (.int 0)) h4) ∧ (condB .ne (h4.2.1 97 a.toNatClampNeg) (h4.2.1 97 b.toNatClampNeg) = false → ((condB .ge a b = true → Q (some (.int 0)) h4) ∧ (condB .ge a b = false → Q (some (.int 1)) h4))))))))))) ∧ (condB .eq r2 r5 = false → Ends X dp 151 0 [.ref 93, .int b] [] h4 (fun rv h15 => ∃ r16, rv = some (.int r16) ∧ HS h15 ∧ (r16 = 0 ∨ r16 = 1) ∧ Q (some (.int r16)) h15)))))) :
    Ends X (dp + 1) 152 0 [.ref 93, .int a, .int b] [] h Q := by
  have ra : ∀ {a : Nat}, a < 1000 → a ≤ OLDB := fun h => by have := OLDB_eq; omega
  refine e_aload_n (show pAt 152 0 = some (0, .aload_n 0, 1, []) from by decide +kernel) rfl (ra (by decide)) ?_
  refine e_iload_n (show pAt 152 1 = some (1, .iload_n 1, 1, []) from by decide +kernel) rfl ?_
  refine Ends.call (show pAt 152 2 = some (2, .invokevirtual 315, 3, [151, 2, 0, 0, 6021, 6023, 91]) from by decide +kernel) (isRet_none rfl) rfl (call_this (show HS h from hs) rfl rfl (by decide)) (Ends.mono vc ?_)
  rintro _ h1 ⟨r2, rfl, hs_h1, vc⟩
  refine e_aload_n (show pAt 152 5 = some (5, .aload_n 0, 1, []) from by decide +kernel) rfl (ra (by decide)) ?_
  refine e_iload_n (show pAt 152 6 = some (6, .iload_n 2, 1, []) from by decide +kernel) rfl ?_
  refine Ends.call (show pAt 152 7 = some (7, .invokevirtual 315, 3, [151, 2, 0, 0, 6021, 6023, 91]) from by decide +kernel) (isRet_none rfl) rfl (call_this (show HS h1 from hs_h1) rfl rfl (by decide)) (Ends.mono vc ?_)
  rintro _ h4 ⟨r5, rfl, hs_h4, vc⟩
  refine e_icmp (t := 21) (show pAt 152 10 = some (10, .if_icmp .eq 11, 3, []) from by decide +kernel) rfl (fun c7 => ?_) (fun c7 => ?_)
  · replace vc := vc.1 c7
    refine e_aload_n (show pAt 152 21 = some (21, .aload_n 0, 1, []) from by decide +kernel) rfl (ra (by decide)) ?_
    refine e_gR (show pAt 152 22 = some (22, .getfield 29, 3, [7, 6, 0, 4129]) from by decide +kernel) (show HS h4 from hs_h4) rfl (by decide) (hs_ref (show HS h4 from hs_h4) rfl) ?_
    refine e_iload_n (show pAt 152 25 = some (25, .iload_n 1, 1, []) from by decide +kernel) rfl ?_
    obtain ⟨c8, vc⟩ := vc
    refine e_ald (show pAt 152 26 = some (26, .iaload, 1, []) from by decide +kernel) (show HS h4 from hs_h4) (by decide) c8 ?_
    refine e_aload_n (show pAt 152 27 = some (27, .aload_n 0, 1, []) from by decide +kernel) rfl (ra (by decide)) ?_
    refine e_gR (show pAt 152 28 = some (28, .getfield 29, 3, [7, 6, 0, 4129]) from by decide +kernel) (show HS h4 from hs_h4) rfl (by decide) (hs_ref (show HS h4 from hs_h4) rfl) ?_
    refine e_iload_n (show pAt 152 31 = some (31, .iload_n 2, 1, []) from by decide +kernel) rfl ?_
    obtain ⟨c9, vc⟩ := vc
    refine e_ald (show pAt 152 32 = some (32, .iaload, 1, []) from by decide +kernel) (show HS h4 from hs_h4) (by decide) c9 ?_
    refine e_icmp (t := 56) (show pAt 152 33 = some (33, .if_icmp .gt 23, 3, []) from by decide +kernel) rfl (fun c10 => ?_) (fun c10 => ?_)
    · replace vc := vc.1 c10
      refine e_iconst (c := 1) (show pAt 152 56 = some (56, .iconst 1, 1, []) from by decide +kernel) (by decide) ?_
      refine e_goto (t := 61) (show pAt 152 57 = some (57, .goto 4, 3, []) from by decide +kernel) rfl ?_
      exact e_retZ (show pAt 152 61 = some (61, .ireturn, 1, []) from by decide +kernel) rfl (by decide) vc
    · replace vc := vc.2 c10
      refine e_aload_n (show pAt 152 36 = some (36, .aload_n 0, 1, []) from by decide +kernel) rfl (ra (by decide)) ?_
      refine e_gR (show pAt 152 37 = some (37, .getfield 29, 3, [7, 6, 0, 4129]) from by decide +kernel) (show HS h4 from hs_h4) rfl (by decide) (hs_ref (show HS h4 from hs_h4) rfl) ?_
      refine e_iload_n (show pAt 152 40 = some (40, .iload_n 1, 1, []) from by decide +kernel) rfl ?_
      obtain ⟨c11, vc⟩ := vc
      refine e_ald (show pAt 152 41 = some (41, .iaload, 1, []) from by decide +kernel) (show HS h4 from hs_h4) (by decide) c11 ?_
      refine e_aload_n (show pAt 152 42 = some (42, .aload_n 0, 1, []) from by decide +kernel) rfl (ra (by decide)) ?_
      refine e_gR (show pAt 152 43 = some (43, .getfield 29, 3, [7, 6, 0, 4129]) from by decide +kernel) (show HS h4 from hs_h4) rfl (by decide) (hs_ref (show HS h4 from hs_h4) rfl) ?_
      refine e_iload_n (show pAt 152 46 = some (46, .iload_n 2, 1, []) from by decide +kernel) rfl ?_
      obtain ⟨c12, vc⟩ := vc
      refine e_ald (show pAt 152 47 = some (47, .iaload, 1, []) from by decide +kernel) (show HS h4 from hs_h4) (by decide) c12 ?_
      refine e_icmp (t := 60) (show pAt 152 48 = some (48, .if_icmp .ne 12, 3, []) from by decide +kernel) rfl (fun c13 => ?_) (fun c13 => ?_)
      · replace vc := vc.1 c13
        refine e_iconst (c := 0) (show pAt 152 60 = some (60, .iconst 0, 1, []) from by decide +kernel) (by decide) ?_
        exact e_retZ (show pAt 152 61 = some (61, .ireturn, 1, []) from by decide +kernel) rfl (by decide) vc
      · replace vc := vc.2 c13
        refine e_iload_n (show pAt 152 51 = some (51, .iload_n 1, 1, []) from by decide +kernel) rfl ?_
        refine e_iload_n (show pAt 152 52 = some (52, .iload_n 2, 1, []) from by decide +kernel) rfl ?_
        refine e_icmp (t := 60) (show pAt 152 53 = some (53, .if_icmp .ge 7, 3, []) from by decide +kernel) rfl (fun c14 => ?_) (fun c14 => ?_)
        · replace vc := vc.1 c14
          refine e_iconst (c := 0) (show pAt 152 60 = some (60, .iconst 0, 1, []) from by decide +kernel) (by decide) ?_
          exact e_retZ (show pAt 152 61 = some (61, .ireturn, 1, []) from by decide +kernel) rfl (by decide) vc
        · replace vc := vc.2 c14
          refine e_iconst (c := 1) (show pAt 152 56 = some (56, .iconst 1, 1, []) from by decide +kernel) (by decide) ?_
          refine e_goto (t := 61) (show pAt 152 57 = some (57, .goto 4, 3, []) from by decide +kernel) rfl ?_
          exact e_retZ (show pAt 152 61 = some (61, .ireturn, 1, []) from by decide +kernel) rfl (by decide) vc
  · replace vc := vc.2 c7
    refine e_aload_n (show pAt 152 13 = some (13, .aload_n 0, 1, []) from by decide +kernel) rfl (ra (by decide)) ?_
    refine e_iload_n (show pAt 152 14 = some (14, .iload_n 2, 1, []) from by decide +kernel) rfl ?_
    refine Ends.call (show pAt 152 15 = some (15, .invokevirtual 315, 3, [151, 2, 0, 0, 6021, 6023, 91]) from by decide +kernel) (isRet_none rfl) rfl (call_this (show HS h4 from hs_h4) rfl rfl (by decide)) (Ends.mono vc ?_)
    rintro _ h15 ⟨r16, rfl, hs_h15, vc⟩
    refine e_goto (t := 61) (show pAt 152 18 = some (18, .goto 43, 3, []) from by decide +kernel) rfl ?_
    exact e_retZ (show pAt 152 61 = some (61, .ireturn, 1, []) from by decide +kernel) rfl vc.1 vc.2

theorem w_put0 {X : Scr} {dp : Nat} {h : Hp} {Q : Option Value → Hp → Prop} (p : Int32) (k : Int32) (hs : HS h)
    (vc : Ends X dp 153 5 [.ref 93, .int p, .int k, .int (h.2.1 93 34)] [] h Q) :
    Ends X dp 153 0 [.ref 93, .int p, .int k, .retAddr 0] [] h Q := by
  have ra : ∀ {a : Nat}, a < 1000 → a ≤ OLDB := fun h => by have := OLDB_eq; omega
  refine e_aload_n (show pAt 153 0 = some (0, .aload_n 0, 1, []) from by decide +kernel) rfl (ra (by decide)) ?_
  refine e_gI (show pAt 153 1 = some (1, .getfield 115, 3, [7, 34, 0, 4157]) from by decide +kernel) (show HS h from hs) rfl (by decide) ?_
  refine e_istore_n (show pAt 153 4 = some (4, .istore_n 3, 1, []) from by decide +kernel) ⟨Nat.le_of_ble_eq_true rfl, rfl⟩ rfl ?_
  exact vc

theorem w_put1 {X : Scr} {dp : Nat} {h : Hp} {Q : Option Value → Hp → Prop} (p : Int32) (k : Int32) (j : Int32) (hs : HS h)
    (vc : ((condB .le j k = true → (inB k 7 = true ∧ Q none (hpI (hpI h 110 k.toNatClampNeg p) 93 34 (((hpI h 110 k.toNatClampNeg p).2.1 93 34) + 1)))) ∧ (condB .le j k = false → (inB (j - 1) 7 = true ∧ (inB j 7 = true ∧ Ends X dp 153 5 [.ref 93, .int p, .int k, .int (j + (-1))] [] (hpI h 110 j.toNatClampNeg (h.2.1 110 (j - 1).toNatClampNeg)) Q))))) :
    Ends X dp 153 5 [.ref 93, .int p, .int k, .int j] [] h Q := by
  have ra : ∀ {a : Nat}, a < 1000 → a ≤ OLDB := fun h => by have := OLDB_eq; omega
  refine e_iload_n (show pAt 153 5 = some (5, .iload_n 3, 1, []) from by decide +kernel) rfl ?_
  refine e_iload_n (show pAt 153 6 = some (6, .iload_n 2, 1, []) from by decide +kernel) rfl ?_
  refine e_icmp (t := 30) (show pAt 153 7 = some (7, .if_icmp .le 23, 3, []) from by decide +kernel) rfl (fun c1 => ?_) (fun c1 => ?_)
  · replace vc := vc.1 c1
    refine e_aload_n (show pAt 153 30 = some (30, .aload_n 0, 1, []) from by decide +kernel) rfl (ra (by decide)) ?_
    refine e_gR (show pAt 153 31 = some (31, .getfield 112, 3, [7, 33, 0, 4156]) from by decide +kernel) (show HS h from hs) rfl (by decide) (hs_ref (show HS h from hs) rfl) ?_
    refine e_iload_n (show pAt 153 34 = some (34, .iload_n 2, 1, []) from by decide +kernel) rfl ?_
    refine e_iload_n (show pAt 153 35 = some (35, .iload_n 1, 1, []) from by decide +kernel) rfl ?_
    obtain ⟨c2, vc⟩ := vc
    refine e_ast (show pAt 153 36 = some (36, .iastore, 1, []) from by decide +kernel) (show HS h from hs) (by decide) c2 ?_
    refine e_aload_n (show pAt 153 37 = some (37, .aload_n 0, 1, []) from by decide +kernel) rfl (ra (by decide)) ?_
    refine e_dupR (show pAt 153 38 = some (38, .dup, 1, []) from by decide +kernel) ?_
    refine e_gI (show pAt 153 39 = some (39, .getfield 115, 3, [7, 34, 0, 4157]) from by decide +kernel) (show HS (hpI h 110 k.toNatClampNeg p) from hs) rfl (by decide) ?_
    refine e_iconst (c := 1) (show pAt 153 42 = some (42, .iconst 1, 1, []) from by decide +kernel) (by decide) ?_
    refine e_iadd (show pAt 153 43 = some (43, .iadd, 1, []) from by decide +kernel) ?_
    refine e_pI (show pAt 153 44 = some (44, .putfield 115, 3, [7, 34, 0, 4157]) from by decide +kernel) (show HS (hpI h 110 k.toNatClampNeg p) from hs) (by decide) (Or.inl rfl) ?_
    exact e_retV (show pAt 153 47 = some (47, .return_, 1, []) from by decide +kernel) rfl vc
  · replace vc := vc.2 c1
    refine e_aload_n (show pAt 153 10 = some (10, .aload_n 0, 1, []) from by decide +kernel) rfl (ra (by decide)) ?_
    refine e_gR (show pAt 153 11 = some (11, .getfield 112, 3, [7, 33, 0, 4156]) from by decide +kernel) (show HS h from hs) rfl (by decide) (hs_ref (show HS h from hs) rfl) ?_
    refine e_iload_n (show pAt 153 14 = some (14, .iload_n 3, 1, []) from by decide +kernel) rfl ?_
    refine e_aload_n (show pAt 153 15 = some (15, .aload_n 0, 1, []) from by decide +kernel) rfl (ra (by decide)) ?_
    refine e_gR (show pAt 153 16 = some (16, .getfield 112, 3, [7, 33, 0, 4156]) from by decide +kernel) (show HS h from hs) rfl (by decide) (hs_ref (show HS h from hs) rfl) ?_
    refine e_iload_n (show pAt 153 19 = some (19, .iload_n 3, 1, []) from by decide +kernel) rfl ?_
    refine e_iconst (c := 1) (show pAt 153 20 = some (20, .iconst 1, 1, []) from by decide +kernel) (by decide) ?_
    refine e_isub (show pAt 153 21 = some (21, .isub, 1, []) from by decide +kernel) ?_
    obtain ⟨c3, vc⟩ := vc
    refine e_ald (show pAt 153 22 = some (22, .iaload, 1, []) from by decide +kernel) (show HS h from hs) (by decide) c3 ?_
    obtain ⟨c4, vc⟩ := vc
    refine e_ast (show pAt 153 23 = some (23, .iastore, 1, []) from by decide +kernel) (show HS h from hs) (by decide) c4 ?_
    refine e_iinc (c := (-1)) (show pAt 153 24 = some (24, .iinc 3 (-1), 3, []) from by decide +kernel) rfl rfl (by decide) rfl ?_
    refine e_goto (t := 5) (show pAt 153 27 = some (27, .goto (-22), 3, []) from by decide +kernel) rfl ?_
    exact vc

theorem w_sum0 {X : Scr} {dp : Nat} {h : Hp} {Q : Option Value → Hp → Prop} (w : Int32) (p : Int32) (l : Int32) (z : Int32) (hs : HS h)
    (vc : Ends X dp 134 0 [.ref 93] [] h (fun rv h1 => ∃ r2, rv = some (.int r2) ∧ HS h1 ∧ Ends X (dp + 1) 138 12 [.ref 93, .int w, .int p, .int l, .int z, .int 0, .int 0, .int r2] [] h1 Q)) :
    Ends X (dp + 1) 138 0 [.ref 93, .int w, .int p, .int l, .int z, .retAddr 0, .retAddr 0, .retAddr 0] [] h Q := by
  have ra : ∀ {a : Nat}, a < 1000 → a ≤ OLDB := fun h => by have := OLDB_eq; omega
  refine e_iconst (c := 0) (show pAt 138 0 = some (0, .iconst 0, 1, []) from by decide +kernel) (by decide) ?_
  refine e_istore (show pAt 138 1 = some (1, .istore 5, 2, []) from by decide +kernel) ⟨Nat.le_of_ble_eq_true rfl, rfl⟩ rfl ?_
  refine e_iconst (c := 0) (show pAt 138 3 = some (3, .iconst 0, 1, []) from by decide +kernel) (by decide) ?_
  refine e_istore (show pAt 138 4 = some (4, .istore 6, 2, []) from by decide +kernel) ⟨Nat.le_of_ble_eq_true rfl, rfl⟩ rfl ?_
  refine e_aload_n (show pAt 138 6 = some (6, .aload_n 0, 1, []) from by decide +kernel) rfl (ra (by decide)) ?_
  refine Ends.call (show pAt 138 7 = some (7, .invokevirtual 265, 3, [134, 1, 0, 0, 5209, 5211, 80]) from by decide +kernel) (isRet_none rfl) rfl (call_this (show HS h from hs) rfl rfl (by decide)) (Ends.mono vc ?_)
  rintro _ h1 ⟨r2, rfl, hs_h1, vc⟩
  refine e_istore (show pAt 138 10 = some (10, .istore 7, 2, []) from by decide +kernel) ⟨Nat.le_of_ble_eq_true rfl, rfl⟩ rfl ?_
  exact vc

theorem w_sum1 {X : Scr} {dp : Nat} {h : Hp} {Q : Option Value → Hp → Prop} (w : Int32) (p : Int32) (l : Int32) (z : Int32) (s : Int32) (g : Int32) (c : Int32) (hs : HS h)
    (vc : Ends X dp 135 0 [.ref 93] [] h (fun rv h1 => ∃ r2, rv = some (.int r2) ∧ HS h1 ∧ ((condB .ge c r2 = true → ((condB .eq g 0 = true → Q (some (.int z)) h1) ∧ (condB .eq g 0 = false → Q (some (.int s)) h1))) ∧ (condB .ge c r2 = false → (inB c 60 = true ∧ ((condB .eq (h1.2.1 102 c.toNatClampNeg) w = true → Ends X dp 137 0 [.ref 93, .int c, .int p, .int l, .retAddr 0, .retAddr 0, .retAddr 0, .retAddr 0, .retAddr 0] [] h1 (fun rv h8 => ∃ r9, rv = some (.int r9) ∧ HS h8 ∧ ((condB .eq r9 0 = true → Ends X (dp + 1) 138 12 [.ref 93, .int w, .int p, .int l, .int z, .int (s + 0), .int 1, .int (c + 1)] [] h8 Q) ∧ (condB .eq r9 0 = false → (inB c 60 = true ∧ Ends X (dp + 1) 138 12 [.ref 93, .int w, .int p, .int l, .int z, .int (s + (h8.2.1 103 c.toNatClampNeg)), .int 1, .int (c + 1)] [] h8 Q))))) ∧ (condB .eq (h1.2.1 102 c.toNatClampNeg) w = false → Ends X (dp + 1) 138 12 [.ref 93, .int w, .int p, .int l, .int z, .int s, .int g, .int (c + 1)] [] h1 Q))))))) :
    Ends X (dp + 1) 138 12 [.ref 93, .int w, .int p, .int l, .int z, .int s, .int g, .int c] [] h Q := by
  have ra : ∀ {a : Nat}, a < 1000 → a ≤ OLDB := fun h => by have := OLDB_eq; omega
  refine e_iload (show pAt 138 12 = some (12, .iload 7, 2, []) from by decide +kernel) rfl ?_
  refine e_aload_n (show pAt 138 14 = some (14, .aload_n 0, 1, []) from by decide +kernel) rfl (ra (by decide)) ?_
  refine Ends.call (show pAt 138 15 = some (15, .invokevirtual 268, 3, [135, 1, 0, 0, 5213, 5215, 81]) from by decide +kernel) (isRet_none rfl) rfl (call_this (show HS h from hs) rfl rfl (by decide)) (Ends.mono vc ?_)
  rintro _ h1 ⟨r2, rfl, hs_h1, vc⟩
  refine e_icmp (t := 71) (show pAt 138 18 = some (18, .if_icmp .ge 53, 3, []) from by decide +kernel) rfl (fun c4 => ?_) (fun c4 => ?_)
  · replace vc := vc.1 c4
    refine e_iload (show pAt 138 71 = some (71, .iload 6, 2, []) from by decide +kernel) rfl ?_
    refine e_if (t := 81) (show pAt 138 73 = some (73, .ifCond .eq 8, 3, []) from by decide +kernel) rfl (fun c5 => ?_) (fun c5 => ?_)
    · replace vc := vc.1 c5
      refine e_iload (show pAt 138 81 = some (81, .iload 4, 2, []) from by decide +kernel) rfl ?_
      exact e_retI (show pAt 138 83 = some (83, .ireturn, 1, []) from by decide +kernel) rfl vc
    · replace vc := vc.2 c5
      refine e_iload (show pAt 138 76 = some (76, .iload 5, 2, []) from by decide +kernel) rfl ?_
      refine e_goto (t := 83) (show pAt 138 78 = some (78, .goto 5, 3, []) from by decide +kernel) rfl ?_
      exact e_retI (show pAt 138 83 = some (83, .ireturn, 1, []) from by decide +kernel) rfl vc
  · replace vc := vc.2 c4
    refine e_aload_n (show pAt 138 21 = some (21, .aload_n 0, 1, []) from by decide +kernel) rfl (ra (by decide)) ?_
    refine e_gR (show pAt 138 22 = some (22, .getfield 59, 3, [7, 16, 0, 4139]) from by decide +kernel) (show HS h1 from hs_h1) rfl (by decide) (hs_ref (show HS h1 from hs_h1) rfl) ?_
    refine e_iload (show pAt 138 25 = some (25, .iload 7, 2, []) from by decide +kernel) rfl ?_
    obtain ⟨c6, vc⟩ := vc
    refine e_ald (show pAt 138 27 = some (27, .iaload, 1, []) from by decide +kernel) (show HS h1 from hs_h1) (by decide) c6 ?_
    refine e_iload_n (show pAt 138 28 = some (28, .iload_n 1, 1, []) from by decide +kernel) rfl ?_
    refine e_icmp (t := 35) (show pAt 138 29 = some (29, .if_icmp .eq 6, 3, []) from by decide +kernel) rfl (fun c7 => ?_) (fun c7 => ?_)
    · replace vc := vc.1 c7
      refine e_iconst (c := 1) (show pAt 138 35 = some (35, .iconst 1, 1, []) from by decide +kernel) (by decide) ?_
      refine e_istore (show pAt 138 36 = some (36, .istore 6, 2, []) from by decide +kernel) ⟨Nat.le_of_ble_eq_true rfl, rfl⟩ rfl ?_
      refine e_iload (show pAt 138 38 = some (38, .iload 5, 2, []) from by decide +kernel) rfl ?_
      refine e_aload_n (show pAt 138 40 = some (40, .aload_n 0, 1, []) from by decide +kernel) rfl (ra (by decide)) ?_
      refine e_iload (show pAt 138 41 = some (41, .iload 7, 2, []) from by decide +kernel) rfl ?_
      refine e_iload_n (show pAt 138 43 = some (43, .iload_n 2, 1, []) from by decide +kernel) rfl ?_
      refine e_iload_n (show pAt 138 44 = some (44, .iload_n 3, 1, []) from by decide +kernel) rfl ?_
      refine Ends.call (show pAt 138 45 = some (45, .invokevirtual 271, 3, [137, 4, 0, 0, 5217, 5219, 82]) from by decide +kernel) (isRet_none rfl) rfl (call_this (show HS h1 from hs_h1) rfl rfl (by decide)) (Ends.mono vc ?_)
      rintro _ h8 ⟨r9, rfl, hs_h8, vc⟩
      refine e_if (t := 61) (show pAt 138 48 = some (48, .ifCond .eq 13, 3, []) from by decide +kernel) rfl (fun c11 => ?_) (fun c11 => ?_)
      · replace vc := vc.1 c11
        refine e_iconst (c := 0) (show pAt 138 61 = some (61, .iconst 0, 1, []) from by decide +kernel) (by decide) ?_
        refine e_iadd (show pAt 138 62 = some (62, .iadd, 1, []) from by decide +kernel) ?_
        refine e_istore (show pAt 138 63 = some (63, .istore 5, 2, []) from by decide +kernel) ⟨Nat.le_of_ble_eq_true rfl, rfl⟩ rfl ?_
        refine e_iinc (c := 1) (show pAt 138 65 = some (65, .iinc 7 1, 3, []) from by decide +kernel) rfl rfl (by decide) rfl ?_
        refine e_goto (t := 12) (show pAt 138 68 = some (68, .goto (-56), 3, []) from by decide +kernel) rfl ?_
        exact vc
      · replace vc := vc.2 c11
        refine e_aload_n (show pAt 138 51 = some (51, .aload_n 0, 1, []) from by decide +kernel) rfl (ra (by decide)) ?_
        refine e_gR (show pAt 138 52 = some (52, .getfield 62, 3, [7, 17, 0, 4140]) from by decide +kernel) (show HS h8 from hs_h8) rfl (by decide) (hs_ref (show HS h8 from hs_h8) rfl) ?_
        refine e_iload (show pAt 138 55 = some (55, .iload 7, 2, []) from by decide +kernel) rfl ?_
        obtain ⟨c12, vc⟩ := vc
        refine e_ald (show pAt 138 57 = some (57, .iaload, 1, []) from by decide +kernel) (show HS h8 from hs_h8) (by decide) c12 ?_
        refine e_goto (t := 62) (show pAt 138 58 = some (58, .goto 4, 3, []) from by decide +kernel) rfl ?_
        refine e_iadd (show pAt 138 62 = some (62, .iadd, 1, []) from by decide +kernel) ?_
        refine e_istore (show pAt 138 63 = some (63, .istore 5, 2, []) from by decide +kernel) ⟨Nat.le_of_ble_eq_true rfl, rfl⟩ rfl ?_
        refine e_iinc (c := 1) (show pAt 138 65 = some (65, .iinc 7 1, 3, []) from by decide +kernel) rfl rfl (by decide) rfl ?_
        refine e_goto (t := 12) (show pAt 138 68 = some (68, .goto (-56), 3, []) from by decide +kernel) rfl ?_
        exact vc
    · replace vc := vc.2 c7
      refine e_goto (t := 65) (show pAt 138 32 = some (32, .goto 33, 3, []) from by decide +kernel) rfl ?_
      refine e_iinc (c := 1) (show pAt 138 65 = some (65, .iinc 7 1, 3, []) from by decide +kernel) rfl rfl (by decide) rfl ?_
      refine e_goto (t := 12) (show pAt 138 68 = some (68, .goto (-56), 3, []) from by decide +kernel) rfl ?_
      exact vc
