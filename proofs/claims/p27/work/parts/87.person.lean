/-! person, image, undo of both sides: what is owed for them. -/
theorem w_isDigit {X : Scr} {dp : Nat} {h : Hp} {Q : Option Value → Hp → Prop} (n : Int32) (hs : HS h)
    (vc : ((condB .lt n 0 = true → Q (some (.int 0)) h) ∧ (condB .lt n 0 = false → ((condB .gt n 9 = true → Q (some (.int 0)) h) ∧ (condB .gt n 9 = false → Q (some (.int 1)) h))))) :
    Ends X dp 102 0 [.int n] [] h Q := by
  refine e_iload_n (show pAt 102 0 = some (0, .iload_n 0, 1, []) from by decide +kernel) rfl ?_
  refine e_if (t := 14) (show pAt 102 1 = some (1, .ifCond .lt 13, 3, []) from by decide +kernel) rfl (fun c1 => ?_) (fun c1 => ?_)
  · replace vc := vc.1 c1
    refine e_iconst (c := 0) (show pAt 102 14 = some (14, .iconst 0, 1, []) from by decide +kernel) (by decide) ?_
    exact e_retZ (show pAt 102 15 = some (15, .ireturn, 1, []) from by decide +kernel) rfl (by decide) vc
  · replace vc := vc.2 c1
    refine e_iload_n (show pAt 102 4 = some (4, .iload_n 0, 1, []) from by decide +kernel) rfl ?_
    refine e_bipush (c := 9) (show pAt 102 5 = some (5, .bipush 9, 2, []) from by decide +kernel) (by decide) ?_
    refine e_icmp (t := 14) (show pAt 102 7 = some (7, .if_icmp .gt 7, 3, []) from by decide +kernel) rfl (fun c2 => ?_) (fun c2 => ?_)
    · replace vc := vc.1 c2
      refine e_iconst (c := 0) (show pAt 102 14 = some (14, .iconst 0, 1, []) from by decide +kernel) (by decide) ?_
      exact e_retZ (show pAt 102 15 = some (15, .ireturn, 1, []) from by decide +kernel) rfl (by decide) vc
    · replace vc := vc.2 c2
      refine e_iconst (c := 1) (show pAt 102 10 = some (10, .iconst 1, 1, []) from by decide +kernel) (by decide) ?_
      refine e_goto (t := 15) (show pAt 102 11 = some (11, .goto 4, 3, []) from by decide +kernel) rfl ?_
      exact e_retZ (show pAt 102 15 = some (15, .ireturn, 1, []) from by decide +kernel) rfl (by decide) vc

theorem w_isLane {X : Scr} {dp : Nat} {h : Hp} {Q : Option Value → Hp → Prop} (n : Int32) (hs : HS h)
    (vc : ((condB .lt n 0 = true → Q (some (.int 0)) h) ∧ (condB .lt n 0 = false → ((condB .ge n 7 = true → Q (some (.int 0)) h) ∧ (condB .ge n 7 = false → Q (some (.int 1)) h))))) :
    Ends X dp 103 0 [.int n] [] h Q := by
  refine e_iload_n (show pAt 103 0 = some (0, .iload_n 0, 1, []) from by decide +kernel) rfl ?_
  refine e_if (t := 14) (show pAt 103 1 = some (1, .ifCond .lt 13, 3, []) from by decide +kernel) rfl (fun c1 => ?_) (fun c1 => ?_)
  · replace vc := vc.1 c1
    refine e_iconst (c := 0) (show pAt 103 14 = some (14, .iconst 0, 1, []) from by decide +kernel) (by decide) ?_
    exact e_retZ (show pAt 103 15 = some (15, .ireturn, 1, []) from by decide +kernel) rfl (by decide) vc
  · replace vc := vc.2 c1
    refine e_iload_n (show pAt 103 4 = some (4, .iload_n 0, 1, []) from by decide +kernel) rfl ?_
    refine e_bipush (c := 7) (show pAt 103 5 = some (5, .bipush 7, 2, []) from by decide +kernel) (by decide) ?_
    refine e_icmp (t := 14) (show pAt 103 7 = some (7, .if_icmp .ge 7, 3, []) from by decide +kernel) rfl (fun c2 => ?_) (fun c2 => ?_)
    · replace vc := vc.1 c2
      refine e_iconst (c := 0) (show pAt 103 14 = some (14, .iconst 0, 1, []) from by decide +kernel) (by decide) ?_
      exact e_retZ (show pAt 103 15 = some (15, .ireturn, 1, []) from by decide +kernel) rfl (by decide) vc
    · replace vc := vc.2 c2
      refine e_iconst (c := 1) (show pAt 103 10 = some (10, .iconst 1, 1, []) from by decide +kernel) (by decide) ?_
      refine e_goto (t := 15) (show pAt 103 11 = some (11, .goto 4, 3, []) from by decide +kernel) rfl ?_
      exact e_retZ (show pAt 103 15 = some (15, .ireturn, 1, []) from by decide +kernel) rfl (by decide) vc

theorem w_joins {X : Scr} {dp : Nat} {h : Hp} {Q : Option Value → Hp → Prop} (k : Int32) (v : Int32) (l : Int32) (p : Int32) (s : Int32) (hs : HS h)
    (vc : ((condB .lt (h.2.1 1 0) 0 = true → Q (some (.int (-4))) h) ∧ (condB .lt (h.2.1 1 0) 0 = false → ((condB .lt (h.2.1 1 0) 7 = true → (inB (h.2.1 1 0) 7 = true ∧ (inB (h.2.1 1 0) 7 = true ∧ (inB (h.2.1 1 0) 7 = true ∧ (inB (h.2.1 1 0) 7 = true ∧ (inB (h.2.1 1 0) 7 = true ∧ Q (some (.int (h.2.1 1 0))) (hpI (hpI (hpI (hpI (hpI (hpI h 2 (h.2.1 1 0).toNatClampNeg k) 3 (h.2.1 1 0).toNatClampNeg v) 4 (h.2.1 1 0).toNatClampNeg l) 5 (h.2.1 1 0).toNatClampNeg p) 6 (h.2.1 1 0).toNatClampNeg s) 1 0 ((h.2.1 1 0) + 1)))))))) ∧ (condB .lt (h.2.1 1 0) 7 = false → Q (some (.int (-4))) h))))) :
    Ends X dp 31 0 [.ref 1, .int k, .int v, .int l, .int p, .int s, .retAddr 0] [] h Q := by
  have ra : ∀ {a : Nat}, a < 1000 → a ≤ OLDB := fun h => by have := OLDB_eq; omega
  refine e_aload_n (show pAt 31 0 = some (0, .aload_n 0, 1, []) from by decide +kernel) rfl (ra (by decide)) ?_
  refine e_gIv (v := h.2.1 1 0) (show pAt 31 1 = some (1, .getfield 37, 3, [2, 0, 0, 1032]) from by decide +kernel) (show HS h from hs) rfl (by decide) rfl ?_
  refine e_istore (show pAt 31 4 = some (4, .istore 6, 2, []) from by decide +kernel) ⟨Nat.le_of_ble_eq_true rfl, rfl⟩ rfl ?_
  refine e_iload (show pAt 31 6 = some (6, .iload 6, 2, []) from by decide +kernel) rfl ?_
  refine e_if (t := 18) (show pAt 31 8 = some (8, .ifCond .lt 10, 3, []) from by decide +kernel) rfl (fun c1 => ?_) (fun c1 => ?_)
  · replace vc := vc.1 c1
    refine e_bipush (c := (-4)) (show pAt 31 18 = some (18, .bipush (-4), 2, []) from by decide +kernel) (by decide) ?_
    exact e_retI (show pAt 31 20 = some (20, .ireturn, 1, []) from by decide +kernel) rfl vc
  · replace vc := vc.2 c1
    refine e_iload (show pAt 31 11 = some (11, .iload 6, 2, []) from by decide +kernel) rfl ?_
    refine e_bipush (c := 7) (show pAt 31 13 = some (13, .bipush 7, 2, []) from by decide +kernel) (by decide) ?_
    refine e_icmp (t := 21) (show pAt 31 15 = some (15, .if_icmp .lt 6, 3, []) from by decide +kernel) rfl (fun c2 => ?_) (fun c2 => ?_)
    · replace vc := vc.1 c2
      refine e_aload_n (show pAt 31 21 = some (21, .aload_n 0, 1, []) from by decide +kernel) rfl (ra (by decide)) ?_
      refine e_gR (show pAt 31 22 = some (22, .getfield 9, 3, [2, 1, 0, 1034]) from by decide +kernel) (show HS h from hs) rfl (by decide) (hs_ref (show HS h from hs) rfl) ?_
      refine e_iload (show pAt 31 25 = some (25, .iload 6, 2, []) from by decide +kernel) rfl ?_
      refine e_iload_n (show pAt 31 27 = some (27, .iload_n 1, 1, []) from by decide +kernel) rfl ?_
      obtain ⟨c3, vc⟩ := vc
      refine e_ast (show pAt 31 28 = some (28, .iastore, 1, []) from by decide +kernel) (show HS h from hs) (by decide) c3 ?_
      refine e_aload_n (show pAt 31 29 = some (29, .aload_n 0, 1, []) from by decide +kernel) rfl (ra (by decide)) ?_
      refine e_gR (show pAt 31 30 = some (30, .getfield 15, 3, [2, 2, 0, 1037]) from by decide +kernel) (show HS (hpI h 2 (h.2.1 1 0).toNatClampNeg k) from hs) rfl (by decide) (hs_ref (show HS (hpI h 2 (h.2.1 1 0).toNatClampNeg k) from hs) rfl) ?_
      refine e_iload (show pAt 31 33 = some (33, .iload 6, 2, []) from by decide +kernel) rfl ?_
      refine e_iload_n (show pAt 31 35 = some (35, .iload_n 2, 1, []) from by decide +kernel) rfl ?_
      obtain ⟨c4, vc⟩ := vc
      refine e_ast (show pAt 31 36 = some (36, .iastore, 1, []) from by decide +kernel) (show HS (hpI h 2 (h.2.1 1 0).toNatClampNeg k) from hs) (by decide) c4 ?_
      refine e_aload_n (show pAt 31 37 = some (37, .aload_n 0, 1, []) from by decide +kernel) rfl (ra (by decide)) ?_
      refine e_gR (show pAt 31 38 = some (38, .getfield 18, 3, [2, 3, 0, 1040]) from by decide +kernel) (show HS (hpI (hpI h 2 (h.2.1 1 0).toNatClampNeg k) 3 (h.2.1 1 0).toNatClampNeg v) from hs) rfl (by decide) (hs_ref (show HS (hpI (hpI h 2 (h.2.1 1 0).toNatClampNeg k) 3 (h.2.1 1 0).toNatClampNeg v) from hs) rfl) ?_
      refine e_iload (show pAt 31 41 = some (41, .iload 6, 2, []) from by decide +kernel) rfl ?_
      refine e_iload_n (show pAt 31 43 = some (43, .iload_n 3, 1, []) from by decide +kernel) rfl ?_
      obtain ⟨c5, vc⟩ := vc
      refine e_ast (show pAt 31 44 = some (44, .iastore, 1, []) from by decide +kernel) (show HS (hpI (hpI h 2 (h.2.1 1 0).toNatClampNeg k) 3 (h.2.1 1 0).toNatClampNeg v) from hs) (by decide) c5 ?_
      refine e_aload_n (show pAt 31 45 = some (45, .aload_n 0, 1, []) from by decide +kernel) rfl (ra (by decide)) ?_
      refine e_gR (show pAt 31 46 = some (46, .getfield 21, 3, [2, 4, 0, 1043]) from by decide +kernel) (show HS (hpI (hpI (hpI h 2 (h.2.1 1 0).toNatClampNeg k) 3 (h.2.1 1 0).toNatClampNeg v) 4 (h.2.1 1 0).toNatClampNeg l) from hs) rfl (by decide) (hs_ref (show HS (hpI (hpI (hpI h 2 (h.2.1 1 0).toNatClampNeg k) 3 (h.2.1 1 0).toNatClampNeg v) 4 (h.2.1 1 0).toNatClampNeg l) from hs) rfl) ?_
      refine e_iload (show pAt 31 49 = some (49, .iload 6, 2, []) from by decide +kernel) rfl ?_
      refine e_iload (show pAt 31 51 = some (51, .iload 4, 2, []) from by decide +kernel) rfl ?_
      obtain ⟨c6, vc⟩ := vc
      refine e_ast (show pAt 31 53 = some (53, .iastore, 1, []) from by decide +kernel) (show HS (hpI (hpI (hpI h 2 (h.2.1 1 0).toNatClampNeg k) 3 (h.2.1 1 0).toNatClampNeg v) 4 (h.2.1 1 0).toNatClampNeg l) from hs) (by decide) c6 ?_
      refine e_aload_n (show pAt 31 54 = some (54, .aload_n 0, 1, []) from by decide +kernel) rfl (ra (by decide)) ?_
      refine e_gR (show pAt 31 55 = some (55, .getfield 24, 3, [2, 5, 0, 1046]) from by decide +kernel) (show HS (hpI (hpI (hpI (hpI h 2 (h.2.1 1 0).toNatClampNeg k) 3 (h.2.1 1 0).toNatClampNeg v) 4 (h.2.1 1 0).toNatClampNeg l) 5 (h.2.1 1 0).toNatClampNeg p) from hs) rfl (by decide) (hs_ref (show HS (hpI (hpI (hpI (hpI h 2 (h.2.1 1 0).toNatClampNeg k) 3 (h.2.1 1 0).toNatClampNeg v) 4 (h.2.1 1 0).toNatClampNeg l) 5 (h.2.1 1 0).toNatClampNeg p) from hs) rfl) ?_
      refine e_iload (show pAt 31 58 = some (58, .iload 6, 2, []) from by decide +kernel) rfl ?_
      refine e_iload (show pAt 31 60 = some (60, .iload 5, 2, []) from by decide +kernel) rfl ?_
      obtain ⟨c7, vc⟩ := vc
      refine e_ast (show pAt 31 62 = some (62, .iastore, 1, []) from by decide +kernel) (show HS (hpI (hpI (hpI (hpI h 2 (h.2.1 1 0).toNatClampNeg k) 3 (h.2.1 1 0).toNatClampNeg v) 4 (h.2.1 1 0).toNatClampNeg l) 5 (h.2.1 1 0).toNatClampNeg p) from hs) (by decide) c7 ?_
      refine e_aload_n (show pAt 31 63 = some (63, .aload_n 0, 1, []) from by decide +kernel) rfl (ra (by decide)) ?_
      refine e_dupR (show pAt 31 64 = some (64, .dup, 1, []) from by decide +kernel) ?_
      refine e_gIv (v := h.2.1 1 0) (show pAt 31 65 = some (65, .getfield 37, 3, [2, 0, 0, 1032]) from by decide +kernel) (show HS (hpI (hpI (hpI (hpI (hpI h 2 (h.2.1 1 0).toNatClampNeg k) 3 (h.2.1 1 0).toNatClampNeg v) 4 (h.2.1 1 0).toNatClampNeg l) 5 (h.2.1 1 0).toNatClampNeg p) 6 (h.2.1 1 0).toNatClampNeg s) from hs) rfl (by decide) rfl ?_
      refine e_iconst (c := 1) (show pAt 31 68 = some (68, .iconst 1, 1, []) from by decide +kernel) (by decide) ?_
      refine e_iadd (show pAt 31 69 = some (69, .iadd, 1, []) from by decide +kernel) ?_
      refine e_pI (show pAt 31 70 = some (70, .putfield 37, 3, [2, 0, 0, 1032]) from by decide +kernel) (show HS (hpI (hpI (hpI (hpI (hpI h 2 (h.2.1 1 0).toNatClampNeg k) 3 (h.2.1 1 0).toNatClampNeg v) 4 (h.2.1 1 0).toNatClampNeg l) 5 (h.2.1 1 0).toNatClampNeg p) 6 (h.2.1 1 0).toNatClampNeg s) from hs) (by decide) (Or.inl rfl) ?_
      refine e_iload (show pAt 31 73 = some (73, .iload 6, 2, []) from by decide +kernel) rfl ?_
      exact e_retI (show pAt 31 75 = some (75, .ireturn, 1, []) from by decide +kernel) rfl vc
    · replace vc := vc.2 c2
      refine e_bipush (c := (-4)) (show pAt 31 18 = some (18, .bipush (-4), 2, []) from by decide +kernel) (by decide) ?_
      exact e_retI (show pAt 31 20 = some (20, .ireturn, 1, []) from by decide +kernel) rfl vc

theorem w_cper {X : Scr} {dp : Nat} {h : Hp} {Q : Option Value → Hp → Prop} (k : Int32) (v : Int32) (l : Int32) (p : Int32) (s : Int32) (hs : HS h)
    (vc : ((condB .lt k 0 = true → Q (some (.int (-1))) h) ∧ (condB .lt k 0 = false → ((condB .lt k 7 = true → Ends X dp 102 0 [.int v] [] h (fun rv h3 => ∃ r4, rv = some (.int r4) ∧ HS h3 ∧ ((condB .eq r4 0 = true → Q (some (.int (-2))) h3) ∧ (condB .eq r4 0 = false → Ends X dp 103 0 [.int l] [] h3 (fun rv h7 => ∃ r8, rv = some (.int r8) ∧ HS h7 ∧ ((condB .eq r8 0 = true → Q (some (.int (-2))) h7) ∧ (condB .eq r8 0 = false → Ends X dp 102 0 [.int p] [] h7 (fun rv h11 => ∃ r12, rv = some (.int r12) ∧ HS h11 ∧ ((condB .eq r12 0 = true → Q (some (.int (-2))) h11) ∧ (condB .eq r12 0 = false → Ends X dp 102 0 [.int s] [] h11 (fun rv h15 => ∃ r16, rv = some (.int r16) ∧ HS h15 ∧ ((condB .ne r16 0 = true → Ends X dp 31 0 [.ref 1, .int k, .int v, .int l, .int p, .int s, .retAddr 0] [] h15 (fun rv h19 => ∃ r20, rv = some (.int r20) ∧ HS h19 ∧ Q (some (.int r20)) h19)) ∧ (condB .ne r16 0 = false → Q (some (.int (-2))) h15))))))))))))) ∧ (condB .lt k 7 = false → Q (some (.int (-1))) h))))) :
    Ends X (dp + 1) 63 0 [.ref 0, .int k, .int v, .int l, .int p, .int s] [] h Q := by
  have ra : ∀ {a : Nat}, a < 1000 → a ≤ OLDB := fun h => by have := OLDB_eq; omega
  refine e_iload_n (show pAt 63 0 = some (0, .iload_n 1, 1, []) from by decide +kernel) rfl ?_
  refine e_if (t := 10) (show pAt 63 1 = some (1, .ifCond .lt 9, 3, []) from by decide +kernel) rfl (fun c1 => ?_) (fun c1 => ?_)
  · replace vc := vc.1 c1
    refine e_iconst (c := (-1)) (show pAt 63 10 = some (10, .iconst (-1), 1, []) from by decide +kernel) (by decide) ?_
    exact e_retI (show pAt 63 11 = some (11, .ireturn, 1, []) from by decide +kernel) rfl vc
  · replace vc := vc.2 c1
    refine e_iload_n (show pAt 63 4 = some (4, .iload_n 1, 1, []) from by decide +kernel) rfl ?_
    refine e_bipush (c := 7) (show pAt 63 5 = some (5, .bipush 7, 2, []) from by decide +kernel) (by decide) ?_
    refine e_icmp (t := 12) (show pAt 63 7 = some (7, .if_icmp .lt 5, 3, []) from by decide +kernel) rfl (fun c2 => ?_) (fun c2 => ?_)
    · replace vc := vc.1 c2
      refine e_iload_n (show pAt 63 12 = some (12, .iload_n 2, 1, []) from by decide +kernel) rfl ?_
      refine Ends.call (show pAt 63 13 = some (13, .invokestatic 60, 3, [102, 1, 2, 0, 2057, 2058, 0]) from by decide +kernel) (isRet_none rfl) rfl rfl (Ends.mono vc ?_)
      rintro _ h3 ⟨r4, rfl, hs_h3, vc⟩
      refine e_if (t := 42) (show pAt 63 16 = some (16, .ifCond .eq 26, 3, []) from by decide +kernel) rfl (fun c6 => ?_) (fun c6 => ?_)
      · replace vc := vc.1 c6
        refine e_bipush (c := (-2)) (show pAt 63 42 = some (42, .bipush (-2), 2, []) from by decide +kernel) (by decide) ?_
        exact e_retI (show pAt 63 44 = some (44, .ireturn, 1, []) from by decide +kernel) rfl vc
      · replace vc := vc.2 c6
        refine e_iload_n (show pAt 63 19 = some (19, .iload_n 3, 1, []) from by decide +kernel) rfl ?_
        refine Ends.call (show pAt 63 20 = some (20, .invokestatic 64, 3, [103, 1, 2, 0, 2060, 2061, 0]) from by decide +kernel) (isRet_none rfl) rfl rfl (Ends.mono vc ?_)
        rintro _ h7 ⟨r8, rfl, hs_h7, vc⟩
        refine e_if (t := 42) (show pAt 63 23 = some (23, .ifCond .eq 19, 3, []) from by decide +kernel) rfl (fun c10 => ?_) (fun c10 => ?_)
        · replace vc := vc.1 c10
          refine e_bipush (c := (-2)) (show pAt 63 42 = some (42, .bipush (-2), 2, []) from by decide +kernel) (by decide) ?_
          exact e_retI (show pAt 63 44 = some (44, .ireturn, 1, []) from by decide +kernel) rfl vc
        · replace vc := vc.2 c10
          refine e_iload (show pAt 63 26 = some (26, .iload 4, 2, []) from by decide +kernel) rfl ?_
          refine Ends.call (show pAt 63 28 = some (28, .invokestatic 60, 3, [102, 1, 2, 0, 2057, 2058, 0]) from by decide +kernel) (isRet_none rfl) rfl rfl (Ends.mono vc ?_)
          rintro _ h11 ⟨r12, rfl, hs_h11, vc⟩
          refine e_if (t := 42) (show pAt 63 31 = some (31, .ifCond .eq 11, 3, []) from by decide +kernel) rfl (fun c14 => ?_) (fun c14 => ?_)
          · replace vc := vc.1 c14
            refine e_bipush (c := (-2)) (show pAt 63 42 = some (42, .bipush (-2), 2, []) from by decide +kernel) (by decide) ?_
            exact e_retI (show pAt 63 44 = some (44, .ireturn, 1, []) from by decide +kernel) rfl vc
          · replace vc := vc.2 c14
            refine e_iload (show pAt 63 34 = some (34, .iload 5, 2, []) from by decide +kernel) rfl ?_
            refine Ends.call (show pAt 63 36 = some (36, .invokestatic 60, 3, [102, 1, 2, 0, 2057, 2058, 0]) from by decide +kernel) (isRet_none rfl) rfl rfl (Ends.mono vc ?_)
            rintro _ h15 ⟨r16, rfl, hs_h15, vc⟩
            refine e_if (t := 45) (show pAt 63 39 = some (39, .ifCond .ne 6, 3, []) from by decide +kernel) rfl (fun c18 => ?_) (fun c18 => ?_)
            · replace vc := vc.1 c18
              refine e_aload_n (show pAt 63 45 = some (45, .aload_n 0, 1, []) from by decide +kernel) rfl (ra (by decide)) ?_
              refine e_gR (show pAt 63 46 = some (46, .getfield 12, 3, [6, 0, 0, 2022]) from by decide +kernel) (show HS h15 from hs_h15) rfl (by decide) (hs_ref (show HS h15 from hs_h15) rfl) ?_
              refine e_iload_n (show pAt 63 49 = some (49, .iload_n 1, 1, []) from by decide +kernel) rfl ?_
              refine e_iload_n (show pAt 63 50 = some (50, .iload_n 2, 1, []) from by decide +kernel) rfl ?_
              refine e_iload_n (show pAt 63 51 = some (51, .iload_n 3, 1, []) from by decide +kernel) rfl ?_
              refine e_iload (show pAt 63 52 = some (52, .iload 4, 2, []) from by decide +kernel) rfl ?_
              refine e_iload (show pAt 63 54 = some (54, .iload 5, 2, []) from by decide +kernel) rfl ?_
              refine Ends.call (show pAt 63 56 = some (56, .invokevirtual 67, 3, [31, 6, 0, 1, 2063, 2065, 0]) from by decide +kernel) (isRet_none rfl) rfl (call_this (show HS h15 from hs_h15) rfl rfl (by decide)) (Ends.mono vc ?_)
              rintro _ h19 ⟨r20, rfl, hs_h19, vc⟩
              exact e_retI (show pAt 63 59 = some (59, .ireturn, 1, []) from by decide +kernel) rfl vc
            · replace vc := vc.2 c18
              refine e_bipush (c := (-2)) (show pAt 63 42 = some (42, .bipush (-2), 2, []) from by decide +kernel) (by decide) ?_
              exact e_retI (show pAt 63 44 = some (44, .ireturn, 1, []) from by decide +kernel) rfl vc
    · replace vc := vc.2 c2
      refine e_iconst (c := (-1)) (show pAt 63 10 = some (10, .iconst (-1), 1, []) from by decide +kernel) (by decide) ?_
      exact e_retI (show pAt 63 11 = some (11, .ireturn, 1, []) from by decide +kernel) rfl vc

theorem w_bec91 {X : Scr} {dp : Nat} {h : Hp} {Q : Option Value → Hp → Prop}  (hs : HS h)
    (vc : Q none (hpI (hpI (hpM (hpI (hpI (hpI (hpM (hpM (hpM (hpM (hpM (hpM (hpI h 9 0 (h.2.1 1 0)) 10 2 0 0 7) 11 3 0 0 7) 12 4 0 0 7) 13 5 0 0 7) 14 6 0 0 7) 15 7 0 0 28) 9 7 (h.2.1 1 7)) 9 8 (h.2.1 1 8)) 9 9 (h.2.1 1 9)) 16 8 0 0 12) 9 11 (h.2.1 1 11)) 9 12 (h.2.1 1 12))) :
    Ends X dp 33 0 [.ref 9, .ref 1] [] h Q := by
  have ra : ∀ {a : Nat}, a < 1000 → a ≤ OLDB := fun h => by have := OLDB_eq; omega
  refine e_aload_n (show pAt 33 0 = some (0, .aload_n 0, 1, []) from by decide +kernel) rfl (ra (by decide)) ?_
  refine e_aload_n (show pAt 33 1 = some (1, .aload_n 1, 1, []) from by decide +kernel) rfl (ra (by decide)) ?_
  refine e_gIv (v := h.2.1 1 0) (show pAt 33 2 = some (2, .getfield 37, 3, [2, 0, 0, 1032]) from by decide +kernel) (show HS h from hs) rfl (by decide) rfl ?_
  refine e_pI (show pAt 33 5 = some (5, .putfield 37, 3, [2, 0, 0, 1032]) from by decide +kernel) (show HS h from hs) (by decide) (Or.inl rfl) ?_
  refine e_aload_n (show pAt 33 8 = some (8, .aload_n 1, 1, []) from by decide +kernel) rfl (ra (by decide)) ?_
  refine e_gR (show pAt 33 9 = some (9, .getfield 9, 3, [2, 1, 0, 1034]) from by decide +kernel) (show HS (hpI h 9 0 (h.2.1 1 0)) from hs) rfl (by decide) (hs_ref (show HS (hpI h 9 0 (h.2.1 1 0)) from hs) rfl) ?_
  refine e_iconst (c := 0) (show pAt 33 12 = some (12, .iconst 0, 1, []) from by decide +kernel) (by decide) ?_
  refine e_aload_n (show pAt 33 13 = some (13, .aload_n 0, 1, []) from by decide +kernel) rfl (ra (by decide)) ?_
  refine e_gR (show pAt 33 14 = some (14, .getfield 9, 3, [2, 1, 0, 1034]) from by decide +kernel) (show HS (hpI h 9 0 (h.2.1 1 0)) from hs) rfl (by decide) (hs_ref (show HS (hpI h 9 0 (h.2.1 1 0)) from hs) rfl) ?_
  refine e_iconst (c := 0) (show pAt 33 17 = some (17, .iconst 0, 1, []) from by decide +kernel) (by decide) ?_
  refine e_bipush (c := 7) (show pAt 33 18 = some (18, .bipush 7, 2, []) from by decide +kernel) (by decide) ?_
  refine e_cpyI (m := 7) (m' := 7) (sn := 0) (dn := 0) (nn := 7) (show pAt 33 20 = some (20, .invokestatic 57, 3, [9998, 5, 2, 0, 2098]) from by decide +kernel) (show HS (hpI h 9 0 (h.2.1 1 0)) from hs) (by decide) (by decide) ?_
  refine e_aload_n (show pAt 33 23 = some (23, .aload_n 1, 1, []) from by decide +kernel) rfl (ra (by decide)) ?_
  refine e_gR (show pAt 33 24 = some (24, .getfield 15, 3, [2, 2, 0, 1037]) from by decide +kernel) (show HS (hpM (hpI h 9 0 (h.2.1 1 0)) 10 2 0 0 7) from hs) rfl (by decide) (hs_ref (show HS (hpM (hpI h 9 0 (h.2.1 1 0)) 10 2 0 0 7) from hs) rfl) ?_
  refine e_iconst (c := 0) (show pAt 33 27 = some (27, .iconst 0, 1, []) from by decide +kernel) (by decide) ?_
  refine e_aload_n (show pAt 33 28 = some (28, .aload_n 0, 1, []) from by decide +kernel) rfl (ra (by decide)) ?_
  refine e_gR (show pAt 33 29 = some (29, .getfield 15, 3, [2, 2, 0, 1037]) from by decide +kernel) (show HS (hpM (hpI h 9 0 (h.2.1 1 0)) 10 2 0 0 7) from hs) rfl (by decide) (hs_ref (show HS (hpM (hpI h 9 0 (h.2.1 1 0)) 10 2 0 0 7) from hs) rfl) ?_
  refine e_iconst (c := 0) (show pAt 33 32 = some (32, .iconst 0, 1, []) from by decide +kernel) (by decide) ?_
  refine e_bipush (c := 7) (show pAt 33 33 = some (33, .bipush 7, 2, []) from by decide +kernel) (by decide) ?_
  refine e_cpyI (m := 7) (m' := 7) (sn := 0) (dn := 0) (nn := 7) (show pAt 33 35 = some (35, .invokestatic 57, 3, [9998, 5, 2, 0, 2098]) from by decide +kernel) (show HS (hpM (hpI h 9 0 (h.2.1 1 0)) 10 2 0 0 7) from hs) (by decide) (by decide) ?_
  refine e_aload_n (show pAt 33 38 = some (38, .aload_n 1, 1, []) from by decide +kernel) rfl (ra (by decide)) ?_
  refine e_gR (show pAt 33 39 = some (39, .getfield 18, 3, [2, 3, 0, 1040]) from by decide +kernel) (show HS (hpM (hpM (hpI h 9 0 (h.2.1 1 0)) 10 2 0 0 7) 11 3 0 0 7) from hs) rfl (by decide) (hs_ref (show HS (hpM (hpM (hpI h 9 0 (h.2.1 1 0)) 10 2 0 0 7) 11 3 0 0 7) from hs) rfl) ?_
  refine e_iconst (c := 0) (show pAt 33 42 = some (42, .iconst 0, 1, []) from by decide +kernel) (by decide) ?_
  refine e_aload_n (show pAt 33 43 = some (43, .aload_n 0, 1, []) from by decide +kernel) rfl (ra (by decide)) ?_
  refine e_gR (show pAt 33 44 = some (44, .getfield 18, 3, [2, 3, 0, 1040]) from by decide +kernel) (show HS (hpM (hpM (hpI h 9 0 (h.2.1 1 0)) 10 2 0 0 7) 11 3 0 0 7) from hs) rfl (by decide) (hs_ref (show HS (hpM (hpM (hpI h 9 0 (h.2.1 1 0)) 10 2 0 0 7) 11 3 0 0 7) from hs) rfl) ?_
  refine e_iconst (c := 0) (show pAt 33 47 = some (47, .iconst 0, 1, []) from by decide +kernel) (by decide) ?_
  refine e_bipush (c := 7) (show pAt 33 48 = some (48, .bipush 7, 2, []) from by decide +kernel) (by decide) ?_
  refine e_cpyI (m := 7) (m' := 7) (sn := 0) (dn := 0) (nn := 7) (show pAt 33 50 = some (50, .invokestatic 57, 3, [9998, 5, 2, 0, 2098]) from by decide +kernel) (show HS (hpM (hpM (hpI h 9 0 (h.2.1 1 0)) 10 2 0 0 7) 11 3 0 0 7) from hs) (by decide) (by decide) ?_
  refine e_aload_n (show pAt 33 53 = some (53, .aload_n 1, 1, []) from by decide +kernel) rfl (ra (by decide)) ?_
  refine e_gR (show pAt 33 54 = some (54, .getfield 21, 3, [2, 4, 0, 1043]) from by decide +kernel) (show HS (hpM (hpM (hpM (hpI h 9 0 (h.2.1 1 0)) 10 2 0 0 7) 11 3 0 0 7) 12 4 0 0 7) from hs) rfl (by decide) (hs_ref (show HS (hpM (hpM (hpM (hpI h 9 0 (h.2.1 1 0)) 10 2 0 0 7) 11 3 0 0 7) 12 4 0 0 7) from hs) rfl) ?_
  refine e_iconst (c := 0) (show pAt 33 57 = some (57, .iconst 0, 1, []) from by decide +kernel) (by decide) ?_
  refine e_aload_n (show pAt 33 58 = some (58, .aload_n 0, 1, []) from by decide +kernel) rfl (ra (by decide)) ?_
  refine e_gR (show pAt 33 59 = some (59, .getfield 21, 3, [2, 4, 0, 1043]) from by decide +kernel) (show HS (hpM (hpM (hpM (hpI h 9 0 (h.2.1 1 0)) 10 2 0 0 7) 11 3 0 0 7) 12 4 0 0 7) from hs) rfl (by decide) (hs_ref (show HS (hpM (hpM (hpM (hpI h 9 0 (h.2.1 1 0)) 10 2 0 0 7) 11 3 0 0 7) 12 4 0 0 7) from hs) rfl) ?_
  refine e_iconst (c := 0) (show pAt 33 62 = some (62, .iconst 0, 1, []) from by decide +kernel) (by decide) ?_
  refine e_bipush (c := 7) (show pAt 33 63 = some (63, .bipush 7, 2, []) from by decide +kernel) (by decide) ?_
  refine e_cpyI (m := 7) (m' := 7) (sn := 0) (dn := 0) (nn := 7) (show pAt 33 65 = some (65, .invokestatic 57, 3, [9998, 5, 2, 0, 2098]) from by decide +kernel) (show HS (hpM (hpM (hpM (hpI h 9 0 (h.2.1 1 0)) 10 2 0 0 7) 11 3 0 0 7) 12 4 0 0 7) from hs) (by decide) (by decide) ?_
  refine e_aload_n (show pAt 33 68 = some (68, .aload_n 1, 1, []) from by decide +kernel) rfl (ra (by decide)) ?_
  refine e_gR (show pAt 33 69 = some (69, .getfield 24, 3, [2, 5, 0, 1046]) from by decide +kernel) (show HS (hpM (hpM (hpM (hpM (hpI h 9 0 (h.2.1 1 0)) 10 2 0 0 7) 11 3 0 0 7) 12 4 0 0 7) 13 5 0 0 7) from hs) rfl (by decide) (hs_ref (show HS (hpM (hpM (hpM (hpM (hpI h 9 0 (h.2.1 1 0)) 10 2 0 0 7) 11 3 0 0 7) 12 4 0 0 7) 13 5 0 0 7) from hs) rfl) ?_
  refine e_iconst (c := 0) (show pAt 33 72 = some (72, .iconst 0, 1, []) from by decide +kernel) (by decide) ?_
  refine e_aload_n (show pAt 33 73 = some (73, .aload_n 0, 1, []) from by decide +kernel) rfl (ra (by decide)) ?_
  refine e_gR (show pAt 33 74 = some (74, .getfield 24, 3, [2, 5, 0, 1046]) from by decide +kernel) (show HS (hpM (hpM (hpM (hpM (hpI h 9 0 (h.2.1 1 0)) 10 2 0 0 7) 11 3 0 0 7) 12 4 0 0 7) 13 5 0 0 7) from hs) rfl (by decide) (hs_ref (show HS (hpM (hpM (hpM (hpM (hpI h 9 0 (h.2.1 1 0)) 10 2 0 0 7) 11 3 0 0 7) 12 4 0 0 7) 13 5 0 0 7) from hs) rfl) ?_
  refine e_iconst (c := 0) (show pAt 33 77 = some (77, .iconst 0, 1, []) from by decide +kernel) (by decide) ?_
  refine e_bipush (c := 7) (show pAt 33 78 = some (78, .bipush 7, 2, []) from by decide +kernel) (by decide) ?_
  refine e_cpyI (m := 7) (m' := 7) (sn := 0) (dn := 0) (nn := 7) (show pAt 33 80 = some (80, .invokestatic 57, 3, [9998, 5, 2, 0, 2098]) from by decide +kernel) (show HS (hpM (hpM (hpM (hpM (hpI h 9 0 (h.2.1 1 0)) 10 2 0 0 7) 11 3 0 0 7) 12 4 0 0 7) 13 5 0 0 7) from hs) (by decide) (by decide) ?_
  refine e_aload_n (show pAt 33 83 = some (83, .aload_n 1, 1, []) from by decide +kernel) rfl (ra (by decide)) ?_
  refine e_gR (show pAt 33 84 = some (84, .getfield 27, 3, [2, 6, 0, 1049]) from by decide +kernel) (show HS (hpM (hpM (hpM (hpM (hpM (hpI h 9 0 (h.2.1 1 0)) 10 2 0 0 7) 11 3 0 0 7) 12 4 0 0 7) 13 5 0 0 7) 14 6 0 0 7) from hs) rfl (by decide) (hs_ref (show HS (hpM (hpM (hpM (hpM (hpM (hpI h 9 0 (h.2.1 1 0)) 10 2 0 0 7) 11 3 0 0 7) 12 4 0 0 7) 13 5 0 0 7) 14 6 0 0 7) from hs) rfl) ?_
  refine e_iconst (c := 0) (show pAt 33 87 = some (87, .iconst 0, 1, []) from by decide +kernel) (by decide) ?_
  refine e_aload_n (show pAt 33 88 = some (88, .aload_n 0, 1, []) from by decide +kernel) rfl (ra (by decide)) ?_
  refine e_gR (show pAt 33 89 = some (89, .getfield 27, 3, [2, 6, 0, 1049]) from by decide +kernel) (show HS (hpM (hpM (hpM (hpM (hpM (hpI h 9 0 (h.2.1 1 0)) 10 2 0 0 7) 11 3 0 0 7) 12 4 0 0 7) 13 5 0 0 7) 14 6 0 0 7) from hs) rfl (by decide) (hs_ref (show HS (hpM (hpM (hpM (hpM (hpM (hpI h 9 0 (h.2.1 1 0)) 10 2 0 0 7) 11 3 0 0 7) 12 4 0 0 7) 13 5 0 0 7) 14 6 0 0 7) from hs) rfl) ?_
  refine e_iconst (c := 0) (show pAt 33 92 = some (92, .iconst 0, 1, []) from by decide +kernel) (by decide) ?_
  refine e_bipush (c := 28) (show pAt 33 93 = some (93, .bipush 28, 2, []) from by decide +kernel) (by decide) ?_
  refine e_cpyI (m := 28) (m' := 28) (sn := 0) (dn := 0) (nn := 28) (show pAt 33 95 = some (95, .invokestatic 57, 3, [9998, 5, 2, 0, 2098]) from by decide +kernel) (show HS (hpM (hpM (hpM (hpM (hpM (hpI h 9 0 (h.2.1 1 0)) 10 2 0 0 7) 11 3 0 0 7) 12 4 0 0 7) 13 5 0 0 7) 14 6 0 0 7) from hs) (by decide) (by decide) ?_
  refine e_aload_n (show pAt 33 98 = some (98, .aload_n 0, 1, []) from by decide +kernel) rfl (ra (by decide)) ?_
  refine e_aload_n (show pAt 33 99 = some (99, .aload_n 1, 1, []) from by decide +kernel) rfl (ra (by decide)) ?_
  refine e_gIv (v := h.2.1 1 7) (show pAt 33 100 = some (100, .getfield 40, 3, [2, 7, 0, 1052]) from by decide +kernel) (show HS (hpM (hpM (hpM (hpM (hpM (hpM (hpI h 9 0 (h.2.1 1 0)) 10 2 0 0 7) 11 3 0 0 7) 12 4 0 0 7) 13 5 0 0 7) 14 6 0 0 7) 15 7 0 0 28) from hs) rfl (by decide) rfl ?_
  refine e_pI (show pAt 33 103 = some (103, .putfield 40, 3, [2, 7, 0, 1052]) from by decide +kernel) (show HS (hpM (hpM (hpM (hpM (hpM (hpM (hpI h 9 0 (h.2.1 1 0)) 10 2 0 0 7) 11 3 0 0 7) 12 4 0 0 7) 13 5 0 0 7) 14 6 0 0 7) 15 7 0 0 28) from hs) (by decide) (Or.inl rfl) ?_
  refine e_aload_n (show pAt 33 106 = some (106, .aload_n 0, 1, []) from by decide +kernel) rfl (ra (by decide)) ?_
  refine e_aload_n (show pAt 33 107 = some (107, .aload_n 1, 1, []) from by decide +kernel) rfl (ra (by decide)) ?_
  refine e_gIv (v := h.2.1 1 8) (show pAt 33 108 = some (108, .getfield 63, 3, [2, 8, 0, 1057]) from by decide +kernel) (show HS (hpI (hpM (hpM (hpM (hpM (hpM (hpM (hpI h 9 0 (h.2.1 1 0)) 10 2 0 0 7) 11 3 0 0 7) 12 4 0 0 7) 13 5 0 0 7) 14 6 0 0 7) 15 7 0 0 28) 9 7 (h.2.1 1 7)) from hs) rfl (by decide) rfl ?_
  refine e_pI (show pAt 33 111 = some (111, .putfield 63, 3, [2, 8, 0, 1057]) from by decide +kernel) (show HS (hpI (hpM (hpM (hpM (hpM (hpM (hpM (hpI h 9 0 (h.2.1 1 0)) 10 2 0 0 7) 11 3 0 0 7) 12 4 0 0 7) 13 5 0 0 7) 14 6 0 0 7) 15 7 0 0 28) 9 7 (h.2.1 1 7)) from hs) (by decide) (Or.inl rfl) ?_
  refine e_aload_n (show pAt 33 114 = some (114, .aload_n 0, 1, []) from by decide +kernel) rfl (ra (by decide)) ?_
  refine e_aload_n (show pAt 33 115 = some (115, .aload_n 1, 1, []) from by decide +kernel) rfl (ra (by decide)) ?_
  refine e_gIv (v := h.2.1 1 9) (show pAt 33 116 = some (116, .getfield 66, 3, [2, 9, 0, 1058]) from by decide +kernel) (show HS (hpI (hpI (hpM (hpM (hpM (hpM (hpM (hpM (hpI h 9 0 (h.2.1 1 0)) 10 2 0 0 7) 11 3 0 0 7) 12 4 0 0 7) 13 5 0 0 7) 14 6 0 0 7) 15 7 0 0 28) 9 7 (h.2.1 1 7)) 9 8 (h.2.1 1 8)) from hs) rfl (by decide) rfl ?_
  refine e_pI (show pAt 33 119 = some (119, .putfield 66, 3, [2, 9, 0, 1058]) from by decide +kernel) (show HS (hpI (hpI (hpM (hpM (hpM (hpM (hpM (hpM (hpI h 9 0 (h.2.1 1 0)) 10 2 0 0 7) 11 3 0 0 7) 12 4 0 0 7) 13 5 0 0 7) 14 6 0 0 7) 15 7 0 0 28) 9 7 (h.2.1 1 7)) 9 8 (h.2.1 1 8)) from hs) (by decide) (Or.inl rfl) ?_
  refine e_aload_n (show pAt 33 122 = some (122, .aload_n 1, 1, []) from by decide +kernel) rfl (ra (by decide)) ?_
  refine e_gR (show pAt 33 123 = some (123, .getfield 30, 3, [2, 10, 0, 1060]) from by decide +kernel) (show HS (hpI (hpI (hpI (hpM (hpM (hpM (hpM (hpM (hpM (hpI h 9 0 (h.2.1 1 0)) 10 2 0 0 7) 11 3 0 0 7) 12 4 0 0 7) 13 5 0 0 7) 14 6 0 0 7) 15 7 0 0 28) 9 7 (h.2.1 1 7)) 9 8 (h.2.1 1 8)) 9 9 (h.2.1 1 9)) from hs) rfl (by decide) (hs_ref (show HS (hpI (hpI (hpI (hpM (hpM (hpM (hpM (hpM (hpM (hpI h 9 0 (h.2.1 1 0)) 10 2 0 0 7) 11 3 0 0 7) 12 4 0 0 7) 13 5 0 0 7) 14 6 0 0 7) 15 7 0 0 28) 9 7 (h.2.1 1 7)) 9 8 (h.2.1 1 8)) 9 9 (h.2.1 1 9)) from hs) rfl) ?_
  refine e_iconst (c := 0) (show pAt 33 126 = some (126, .iconst 0, 1, []) from by decide +kernel) (by decide) ?_
  refine e_aload_n (show pAt 33 127 = some (127, .aload_n 0, 1, []) from by decide +kernel) rfl (ra (by decide)) ?_
  refine e_gR (show pAt 33 128 = some (128, .getfield 30, 3, [2, 10, 0, 1060]) from by decide +kernel) (show HS (hpI (hpI (hpI (hpM (hpM (hpM (hpM (hpM (hpM (hpI h 9 0 (h.2.1 1 0)) 10 2 0 0 7) 11 3 0 0 7) 12 4 0 0 7) 13 5 0 0 7) 14 6 0 0 7) 15 7 0 0 28) 9 7 (h.2.1 1 7)) 9 8 (h.2.1 1 8)) 9 9 (h.2.1 1 9)) from hs) rfl (by decide) (hs_ref (show HS (hpI (hpI (hpI (hpM (hpM (hpM (hpM (hpM (hpM (hpI h 9 0 (h.2.1 1 0)) 10 2 0 0 7) 11 3 0 0 7) 12 4 0 0 7) 13 5 0 0 7) 14 6 0 0 7) 15 7 0 0 28) 9 7 (h.2.1 1 7)) 9 8 (h.2.1 1 8)) 9 9 (h.2.1 1 9)) from hs) rfl) ?_
  refine e_iconst (c := 0) (show pAt 33 131 = some (131, .iconst 0, 1, []) from by decide +kernel) (by decide) ?_
  refine e_bipush (c := 12) (show pAt 33 132 = some (132, .bipush 12, 2, []) from by decide +kernel) (by decide) ?_
  refine e_cpyI (m := 12) (m' := 12) (sn := 0) (dn := 0) (nn := 12) (show pAt 33 134 = some (134, .invokestatic 57, 3, [9998, 5, 2, 0, 2098]) from by decide +kernel) (show HS (hpI (hpI (hpI (hpM (hpM (hpM (hpM (hpM (hpM (hpI h 9 0 (h.2.1 1 0)) 10 2 0 0 7) 11 3 0 0 7) 12 4 0 0 7) 13 5 0 0 7) 14 6 0 0 7) 15 7 0 0 28) 9 7 (h.2.1 1 7)) 9 8 (h.2.1 1 8)) 9 9 (h.2.1 1 9)) from hs) (by decide) (by decide) ?_
  refine e_aload_n (show pAt 33 137 = some (137, .aload_n 0, 1, []) from by decide +kernel) rfl (ra (by decide)) ?_
  refine e_aload_n (show pAt 33 138 = some (138, .aload_n 1, 1, []) from by decide +kernel) rfl (ra (by decide)) ?_
  refine e_gIv (v := h.2.1 1 11) (show pAt 33 139 = some (139, .getfield 69, 3, [2, 11, 0, 1062]) from by decide +kernel) (show HS (hpM (hpI (hpI (hpI (hpM (hpM (hpM (hpM (hpM (hpM (hpI h 9 0 (h.2.1 1 0)) 10 2 0 0 7) 11 3 0 0 7) 12 4 0 0 7) 13 5 0 0 7) 14 6 0 0 7) 15 7 0 0 28) 9 7 (h.2.1 1 7)) 9 8 (h.2.1 1 8)) 9 9 (h.2.1 1 9)) 16 8 0 0 12) from hs) rfl (by decide) rfl ?_
  refine e_pI (show pAt 33 142 = some (142, .putfield 69, 3, [2, 11, 0, 1062]) from by decide +kernel) (show HS (hpM (hpI (hpI (hpI (hpM (hpM (hpM (hpM (hpM (hpM (hpI h 9 0 (h.2.1 1 0)) 10 2 0 0 7) 11 3 0 0 7) 12 4 0 0 7) 13 5 0 0 7) 14 6 0 0 7) 15 7 0 0 28) 9 7 (h.2.1 1 7)) 9 8 (h.2.1 1 8)) 9 9 (h.2.1 1 9)) 16 8 0 0 12) from hs) (by decide) (Or.inl rfl) ?_
  refine e_aload_n (show pAt 33 145 = some (145, .aload_n 0, 1, []) from by decide +kernel) rfl (ra (by decide)) ?_
  refine e_aload_n (show pAt 33 146 = some (146, .aload_n 1, 1, []) from by decide +kernel) rfl (ra (by decide)) ?_
  refine e_gIv (v := h.2.1 1 12) (show pAt 33 147 = some (147, .getfield 33, 3, [2, 12, 0, 1064]) from by decide +kernel) (show HS (hpI (hpM (hpI (hpI (hpI (hpM (hpM (hpM (hpM (hpM (hpM (hpI h 9 0 (h.2.1 1 0)) 10 2 0 0 7) 11 3 0 0 7) 12 4 0 0 7) 13 5 0 0 7) 14 6 0 0 7) 15 7 0 0 28) 9 7 (h.2.1 1 7)) 9 8 (h.2.1 1 8)) 9 9 (h.2.1 1 9)) 16 8 0 0 12) 9 11 (h.2.1 1 11)) from hs) rfl (by decide) rfl ?_
  refine e_pI (show pAt 33 150 = some (150, .putfield 33, 3, [2, 12, 0, 1064]) from by decide +kernel) (show HS (hpI (hpM (hpI (hpI (hpI (hpM (hpM (hpM (hpM (hpM (hpM (hpI h 9 0 (h.2.1 1 0)) 10 2 0 0 7) 11 3 0 0 7) 12 4 0 0 7) 13 5 0 0 7) 14 6 0 0 7) 15 7 0 0 28) 9 7 (h.2.1 1 7)) 9 8 (h.2.1 1 8)) 9 9 (h.2.1 1 9)) 16 8 0 0 12) 9 11 (h.2.1 1 11)) from hs) (by decide) (Or.inl rfl) ?_
  exact e_retV (show pAt 33 153 = some (153, .return_, 1, []) from by decide +kernel) rfl vc

theorem w_bec19 {X : Scr} {dp : Nat} {h : Hp} {Q : Option Value → Hp → Prop}  (hs : HS h)
    (vc : Q none (hpI (hpI (hpM (hpI (hpI (hpI (hpM (hpM (hpM (hpM (hpM (hpM (hpI h 1 0 (h.2.1 9 0)) 2 10 0 0 7) 3 11 0 0 7) 4 12 0 0 7) 5 13 0 0 7) 6 14 0 0 7) 7 15 0 0 28) 1 7 (h.2.1 9 7)) 1 8 (h.2.1 9 8)) 1 9 (h.2.1 9 9)) 8 16 0 0 12) 1 11 (h.2.1 9 11)) 1 12 (h.2.1 9 12))) :
    Ends X dp 33 0 [.ref 1, .ref 9] [] h Q := by
  have ra : ∀ {a : Nat}, a < 1000 → a ≤ OLDB := fun h => by have := OLDB_eq; omega
  refine e_aload_n (show pAt 33 0 = some (0, .aload_n 0, 1, []) from by decide +kernel) rfl (ra (by decide)) ?_
  refine e_aload_n (show pAt 33 1 = some (1, .aload_n 1, 1, []) from by decide +kernel) rfl (ra (by decide)) ?_
  refine e_gIv (v := h.2.1 9 0) (show pAt 33 2 = some (2, .getfield 37, 3, [2, 0, 0, 1032]) from by decide +kernel) (show HS h from hs) rfl (by decide) rfl ?_
  refine e_pI (show pAt 33 5 = some (5, .putfield 37, 3, [2, 0, 0, 1032]) from by decide +kernel) (show HS h from hs) (by decide) (Or.inl rfl) ?_
  refine e_aload_n (show pAt 33 8 = some (8, .aload_n 1, 1, []) from by decide +kernel) rfl (ra (by decide)) ?_
  refine e_gR (show pAt 33 9 = some (9, .getfield 9, 3, [2, 1, 0, 1034]) from by decide +kernel) (show HS (hpI h 1 0 (h.2.1 9 0)) from hs) rfl (by decide) (hs_ref (show HS (hpI h 1 0 (h.2.1 9 0)) from hs) rfl) ?_
  refine e_iconst (c := 0) (show pAt 33 12 = some (12, .iconst 0, 1, []) from by decide +kernel) (by decide) ?_
  refine e_aload_n (show pAt 33 13 = some (13, .aload_n 0, 1, []) from by decide +kernel) rfl (ra (by decide)) ?_
  refine e_gR (show pAt 33 14 = some (14, .getfield 9, 3, [2, 1, 0, 1034]) from by decide +kernel) (show HS (hpI h 1 0 (h.2.1 9 0)) from hs) rfl (by decide) (hs_ref (show HS (hpI h 1 0 (h.2.1 9 0)) from hs) rfl) ?_
  refine e_iconst (c := 0) (show pAt 33 17 = some (17, .iconst 0, 1, []) from by decide +kernel) (by decide) ?_
  refine e_bipush (c := 7) (show pAt 33 18 = some (18, .bipush 7, 2, []) from by decide +kernel) (by decide) ?_
  refine e_cpyI (m := 7) (m' := 7) (sn := 0) (dn := 0) (nn := 7) (show pAt 33 20 = some (20, .invokestatic 57, 3, [9998, 5, 2, 0, 2098]) from by decide +kernel) (show HS (hpI h 1 0 (h.2.1 9 0)) from hs) (by decide) (by decide) ?_
  refine e_aload_n (show pAt 33 23 = some (23, .aload_n 1, 1, []) from by decide +kernel) rfl (ra (by decide)) ?_
  refine e_gR (show pAt 33 24 = some (24, .getfield 15, 3, [2, 2, 0, 1037]) from by decide +kernel) (show HS (hpM (hpI h 1 0 (h.2.1 9 0)) 2 10 0 0 7) from hs) rfl (by decide) (hs_ref (show HS (hpM (hpI h 1 0 (h.2.1 9 0)) 2 10 0 0 7) from hs) rfl) ?_
  refine e_iconst (c := 0) (show pAt 33 27 = some (27, .iconst 0, 1, []) from by decide +kernel) (by decide) ?_
  refine e_aload_n (show pAt 33 28 = some (28, .aload_n 0, 1, []) from by decide +kernel) rfl (ra (by decide)) ?_
  refine e_gR (show pAt 33 29 = some (29, .getfield 15, 3, [2, 2, 0, 1037]) from by decide +kernel) (show HS (hpM (hpI h 1 0 (h.2.1 9 0)) 2 10 0 0 7) from hs) rfl (by decide) (hs_ref (show HS (hpM (hpI h 1 0 (h.2.1 9 0)) 2 10 0 0 7) from hs) rfl) ?_
  refine e_iconst (c := 0) (show pAt 33 32 = some (32, .iconst 0, 1, []) from by decide +kernel) (by decide) ?_
  refine e_bipush (c := 7) (show pAt 33 33 = some (33, .bipush 7, 2, []) from by decide +kernel) (by decide) ?_
  refine e_cpyI (m := 7) (m' := 7) (sn := 0) (dn := 0) (nn := 7) (show pAt 33 35 = some (35, .invokestatic 57, 3, [9998, 5, 2, 0, 2098]) from by decide +kernel) (show HS (hpM (hpI h 1 0 (h.2.1 9 0)) 2 10 0 0 7) from hs) (by decide) (by decide) ?_
  refine e_aload_n (show pAt 33 38 = some (38, .aload_n 1, 1, []) from by decide +kernel) rfl (ra (by decide)) ?_
  refine e_gR (show pAt 33 39 = some (39, .getfield 18, 3, [2, 3, 0, 1040]) from by decide +kernel) (show HS (hpM (hpM (hpI h 1 0 (h.2.1 9 0)) 2 10 0 0 7) 3 11 0 0 7) from hs) rfl (by decide) (hs_ref (show HS (hpM (hpM (hpI h 1 0 (h.2.1 9 0)) 2 10 0 0 7) 3 11 0 0 7) from hs) rfl) ?_
  refine e_iconst (c := 0) (show pAt 33 42 = some (42, .iconst 0, 1, []) from by decide +kernel) (by decide) ?_
  refine e_aload_n (show pAt 33 43 = some (43, .aload_n 0, 1, []) from by decide +kernel) rfl (ra (by decide)) ?_
  refine e_gR (show pAt 33 44 = some (44, .getfield 18, 3, [2, 3, 0, 1040]) from by decide +kernel) (show HS (hpM (hpM (hpI h 1 0 (h.2.1 9 0)) 2 10 0 0 7) 3 11 0 0 7) from hs) rfl (by decide) (hs_ref (show HS (hpM (hpM (hpI h 1 0 (h.2.1 9 0)) 2 10 0 0 7) 3 11 0 0 7) from hs) rfl) ?_
  refine e_iconst (c := 0) (show pAt 33 47 = some (47, .iconst 0, 1, []) from by decide +kernel) (by decide) ?_
  refine e_bipush (c := 7) (show pAt 33 48 = some (48, .bipush 7, 2, []) from by decide +kernel) (by decide) ?_
  refine e_cpyI (m := 7) (m' := 7) (sn := 0) (dn := 0) (nn := 7) (show pAt 33 50 = some (50, .invokestatic 57, 3, [9998, 5, 2, 0, 2098]) from by decide +kernel) (show HS (hpM (hpM (hpI h 1 0 (h.2.1 9 0)) 2 10 0 0 7) 3 11 0 0 7) from hs) (by decide) (by decide) ?_
  refine e_aload_n (show pAt 33 53 = some (53, .aload_n 1, 1, []) from by decide +kernel) rfl (ra (by decide)) ?_
  refine e_gR (show pAt 33 54 = some (54, .getfield 21, 3, [2, 4, 0, 1043]) from by decide +kernel) (show HS (hpM (hpM (hpM (hpI h 1 0 (h.2.1 9 0)) 2 10 0 0 7) 3 11 0 0 7) 4 12 0 0 7) from hs) rfl (by decide) (hs_ref (show HS (hpM (hpM (hpM (hpI h 1 0 (h.2.1 9 0)) 2 10 0 0 7) 3 11 0 0 7) 4 12 0 0 7) from hs) rfl) ?_
  refine e_iconst (c := 0) (show pAt 33 57 = some (57, .iconst 0, 1, []) from by decide +kernel) (by decide) ?_
  refine e_aload_n (show pAt 33 58 = some (58, .aload_n 0, 1, []) from by decide +kernel) rfl (ra (by decide)) ?_
  refine e_gR (show pAt 33 59 = some (59, .getfield 21, 3, [2, 4, 0, 1043]) from by decide +kernel) (show HS (hpM (hpM (hpM (hpI h 1 0 (h.2.1 9 0)) 2 10 0 0 7) 3 11 0 0 7) 4 12 0 0 7) from hs) rfl (by decide) (hs_ref (show HS (hpM (hpM (hpM (hpI h 1 0 (h.2.1 9 0)) 2 10 0 0 7) 3 11 0 0 7) 4 12 0 0 7) from hs) rfl) ?_
  refine e_iconst (c := 0) (show pAt 33 62 = some (62, .iconst 0, 1, []) from by decide +kernel) (by decide) ?_
  refine e_bipush (c := 7) (show pAt 33 63 = some (63, .bipush 7, 2, []) from by decide +kernel) (by decide) ?_
  refine e_cpyI (m := 7) (m' := 7) (sn := 0) (dn := 0) (nn := 7) (show pAt 33 65 = some (65, .invokestatic 57, 3, [9998, 5, 2, 0, 2098]) from by decide +kernel) (show HS (hpM (hpM (hpM (hpI h 1 0 (h.2.1 9 0)) 2 10 0 0 7) 3 11 0 0 7) 4 12 0 0 7) from hs) (by decide) (by decide) ?_
  refine e_aload_n (show pAt 33 68 = some (68, .aload_n 1, 1, []) from by decide +kernel) rfl (ra (by decide)) ?_
  refine e_gR (show pAt 33 69 = some (69, .getfield 24, 3, [2, 5, 0, 1046]) from by decide +kernel) (show HS (hpM (hpM (hpM (hpM (hpI h 1 0 (h.2.1 9 0)) 2 10 0 0 7) 3 11 0 0 7) 4 12 0 0 7) 5 13 0 0 7) from hs) rfl (by decide) (hs_ref (show HS (hpM (hpM (hpM (hpM (hpI h 1 0 (h.2.1 9 0)) 2 10 0 0 7) 3 11 0 0 7) 4 12 0 0 7) 5 13 0 0 7) from hs) rfl) ?_
  refine e_iconst (c := 0) (show pAt 33 72 = some (72, .iconst 0, 1, []) from by decide +kernel) (by decide) ?_
  refine e_aload_n (show pAt 33 73 = some (73, .aload_n 0, 1, []) from by decide +kernel) rfl (ra (by decide)) ?_
  refine e_gR (show pAt 33 74 = some (74, .getfield 24, 3, [2, 5, 0, 1046]) from by decide +kernel) (show HS (hpM (hpM (hpM (hpM (hpI h 1 0 (h.2.1 9 0)) 2 10 0 0 7) 3 11 0 0 7) 4 12 0 0 7) 5 13 0 0 7) from hs) rfl (by decide) (hs_ref (show HS (hpM (hpM (hpM (hpM (hpI h 1 0 (h.2.1 9 0)) 2 10 0 0 7) 3 11 0 0 7) 4 12 0 0 7) 5 13 0 0 7) from hs) rfl) ?_
  refine e_iconst (c := 0) (show pAt 33 77 = some (77, .iconst 0, 1, []) from by decide +kernel) (by decide) ?_
  refine e_bipush (c := 7) (show pAt 33 78 = some (78, .bipush 7, 2, []) from by decide +kernel) (by decide) ?_
  refine e_cpyI (m := 7) (m' := 7) (sn := 0) (dn := 0) (nn := 7) (show pAt 33 80 = some (80, .invokestatic 57, 3, [9998, 5, 2, 0, 2098]) from by decide +kernel) (show HS (hpM (hpM (hpM (hpM (hpI h 1 0 (h.2.1 9 0)) 2 10 0 0 7) 3 11 0 0 7) 4 12 0 0 7) 5 13 0 0 7) from hs) (by decide) (by decide) ?_
  refine e_aload_n (show pAt 33 83 = some (83, .aload_n 1, 1, []) from by decide +kernel) rfl (ra (by decide)) ?_
  refine e_gR (show pAt 33 84 = some (84, .getfield 27, 3, [2, 6, 0, 1049]) from by decide +kernel) (show HS (hpM (hpM (hpM (hpM (hpM (hpI h 1 0 (h.2.1 9 0)) 2 10 0 0 7) 3 11 0 0 7) 4 12 0 0 7) 5 13 0 0 7) 6 14 0 0 7) from hs) rfl (by decide) (hs_ref (show HS (hpM (hpM (hpM (hpM (hpM (hpI h 1 0 (h.2.1 9 0)) 2 10 0 0 7) 3 11 0 0 7) 4 12 0 0 7) 5 13 0 0 7) 6 14 0 0 7) from hs) rfl) ?_
  refine e_iconst (c := 0) (show pAt 33 87 = some (87, .iconst 0, 1, []) from by decide +kernel) (by decide) ?_
  refine e_aload_n (show pAt 33 88 = some (88, .aload_n 0, 1, []) from by decide +kernel) rfl (ra (by decide)) ?_
  refine e_gR (show pAt 33 89 = some (89, .getfield 27, 3, [2, 6, 0, 1049]) from by decide +kernel) (show HS (hpM (hpM (hpM (hpM (hpM (hpI h 1 0 (h.2.1 9 0)) 2 10 0 0 7) 3 11 0 0 7) 4 12 0 0 7) 5 13 0 0 7) 6 14 0 0 7) from hs) rfl (by decide) (hs_ref (show HS (hpM (hpM (hpM (hpM (hpM (hpI h 1 0 (h.2.1 9 0)) 2 10 0 0 7) 3 11 0 0 7) 4 12 0 0 7) 5 13 0 0 7) 6 14 0 0 7) from hs) rfl) ?_
  refine e_iconst (c := 0) (show pAt 33 92 = some (92, .iconst 0, 1, []) from by decide +kernel) (by decide) ?_
  refine e_bipush (c := 28) (show pAt 33 93 = some (93, .bipush 28, 2, []) from by decide +kernel) (by decide) ?_
  refine e_cpyI (m := 28) (m' := 28) (sn := 0) (dn := 0) (nn := 28) (show pAt 33 95 = some (95, .invokestatic 57, 3, [9998, 5, 2, 0, 2098]) from by decide +kernel) (show HS (hpM (hpM (hpM (hpM (hpM (hpI h 1 0 (h.2.1 9 0)) 2 10 0 0 7) 3 11 0 0 7) 4 12 0 0 7) 5 13 0 0 7) 6 14 0 0 7) from hs) (by decide) (by decide) ?_
  refine e_aload_n (show pAt 33 98 = some (98, .aload_n 0, 1, []) from by decide +kernel) rfl (ra (by decide)) ?_
  refine e_aload_n (show pAt 33 99 = some (99, .aload_n 1, 1, []) from by decide +kernel) rfl (ra (by decide)) ?_
  refine e_gIv (v := h.2.1 9 7) (show pAt 33 100 = some (100, .getfield 40, 3, [2, 7, 0, 1052]) from by decide +kernel) (show HS (hpM (hpM (hpM (hpM (hpM (hpM (hpI h 1 0 (h.2.1 9 0)) 2 10 0 0 7) 3 11 0 0 7) 4 12 0 0 7) 5 13 0 0 7) 6 14 0 0 7) 7 15 0 0 28) from hs) rfl (by decide) rfl ?_
  refine e_pI (show pAt 33 103 = some (103, .putfield 40, 3, [2, 7, 0, 1052]) from by decide +kernel) (show HS (hpM (hpM (hpM (hpM (hpM (hpM (hpI h 1 0 (h.2.1 9 0)) 2 10 0 0 7) 3 11 0 0 7) 4 12 0 0 7) 5 13 0 0 7) 6 14 0 0 7) 7 15 0 0 28) from hs) (by decide) (Or.inl rfl) ?_
  refine e_aload_n (show pAt 33 106 = some (106, .aload_n 0, 1, []) from by decide +kernel) rfl (ra (by decide)) ?_
  refine e_aload_n (show pAt 33 107 = some (107, .aload_n 1, 1, []) from by decide +kernel) rfl (ra (by decide)) ?_
  refine e_gIv (v := h.2.1 9 8) (show pAt 33 108 = some (108, .getfield 63, 3, [2, 8, 0, 1057]) from by decide +kernel) (show HS (hpI (hpM (hpM (hpM (hpM (hpM (hpM (hpI h 1 0 (h.2.1 9 0)) 2 10 0 0 7) 3 11 0 0 7) 4 12 0 0 7) 5 13 0 0 7) 6 14 0 0 7) 7 15 0 0 28) 1 7 (h.2.1 9 7)) from hs) rfl (by decide) rfl ?_
  refine e_pI (show pAt 33 111 = some (111, .putfield 63, 3, [2, 8, 0, 1057]) from by decide +kernel) (show HS (hpI (hpM (hpM (hpM (hpM (hpM (hpM (hpI h 1 0 (h.2.1 9 0)) 2 10 0 0 7) 3 11 0 0 7) 4 12 0 0 7) 5 13 0 0 7) 6 14 0 0 7) 7 15 0 0 28) 1 7 (h.2.1 9 7)) from hs) (by decide) (Or.inl rfl) ?_
  refine e_aload_n (show pAt 33 114 = some (114, .aload_n 0, 1, []) from by decide +kernel) rfl (ra (by decide)) ?_
  refine e_aload_n (show pAt 33 115 = some (115, .aload_n 1, 1, []) from by decide +kernel) rfl (ra (by decide)) ?_
  refine e_gIv (v := h.2.1 9 9) (show pAt 33 116 = some (116, .getfield 66, 3, [2, 9, 0, 1058]) from by decide +kernel) (show HS (hpI (hpI (hpM (hpM (hpM (hpM (hpM (hpM (hpI h 1 0 (h.2.1 9 0)) 2 10 0 0 7) 3 11 0 0 7) 4 12 0 0 7) 5 13 0 0 7) 6 14 0 0 7) 7 15 0 0 28) 1 7 (h.2.1 9 7)) 1 8 (h.2.1 9 8)) from hs) rfl (by decide) rfl ?_
  refine e_pI (show pAt 33 119 = some (119, .putfield 66, 3, [2, 9, 0, 1058]) from by decide +kernel) (show HS (hpI (hpI (hpM (hpM (hpM (hpM (hpM (hpM (hpI h 1 0 (h.2.1 9 0)) 2 10 0 0 7) 3 11 0 0 7) 4 12 0 0 7) 5 13 0 0 7) 6 14 0 0 7) 7 15 0 0 28) 1 7 (h.2.1 9 7)) 1 8 (h.2.1 9 8)) from hs) (by decide) (Or.inl rfl) ?_
  refine e_aload_n (show pAt 33 122 = some (122, .aload_n 1, 1, []) from by decide +kernel) rfl (ra (by decide)) ?_
  refine e_gR (show pAt 33 123 = some (123, .getfield 30, 3, [2, 10, 0, 1060]) from by decide +kernel) (show HS (hpI (hpI (hpI (hpM (hpM (hpM (hpM (hpM (hpM (hpI h 1 0 (h.2.1 9 0)) 2 10 0 0 7) 3 11 0 0 7) 4 12 0 0 7) 5 13 0 0 7) 6 14 0 0 7) 7 15 0 0 28) 1 7 (h.2.1 9 7)) 1 8 (h.2.1 9 8)) 1 9 (h.2.1 9 9)) from hs) rfl (by decide) (hs_ref (show HS (hpI (hpI (hpI (hpM (hpM (hpM (hpM (hpM (hpM (hpI h 1 0 (h.2.1 9 0)) 2 10 0 0 7) 3 11 0 0 7) 4 12 0 0 7) 5 13 0 0 7) 6 14 0 0 7) 7 15 0 0 28) 1 7 (h.2.1 9 7)) 1 8 (h.2.1 9 8)) 1 9 (h.2.1 9 9)) from hs) rfl) ?_
  refine e_iconst (c := 0) (show pAt 33 126 = some (126, .iconst 0, 1, []) from by decide +kernel) (by decide) ?_
  refine e_aload_n (show pAt 33 127 = some (127, .aload_n 0, 1, []) from by decide +kernel) rfl (ra (by decide)) ?_
  refine e_gR (show pAt 33 128 = some (128, .getfield 30, 3, [2, 10, 0, 1060]) from by decide +kernel) (show HS (hpI (hpI (hpI (hpM (hpM (hpM (hpM (hpM (hpM (hpI h 1 0 (h.2.1 9 0)) 2 10 0 0 7) 3 11 0 0 7) 4 12 0 0 7) 5 13 0 0 7) 6 14 0 0 7) 7 15 0 0 28) 1 7 (h.2.1 9 7)) 1 8 (h.2.1 9 8)) 1 9 (h.2.1 9 9)) from hs) rfl (by decide) (hs_ref (show HS (hpI (hpI (hpI (hpM (hpM (hpM (hpM (hpM (hpM (hpI h 1 0 (h.2.1 9 0)) 2 10 0 0 7) 3 11 0 0 7) 4 12 0 0 7) 5 13 0 0 7) 6 14 0 0 7) 7 15 0 0 28) 1 7 (h.2.1 9 7)) 1 8 (h.2.1 9 8)) 1 9 (h.2.1 9 9)) from hs) rfl) ?_
  refine e_iconst (c := 0) (show pAt 33 131 = some (131, .iconst 0, 1, []) from by decide +kernel) (by decide) ?_
  refine e_bipush (c := 12) (show pAt 33 132 = some (132, .bipush 12, 2, []) from by decide +kernel) (by decide) ?_
  refine e_cpyI (m := 12) (m' := 12) (sn := 0) (dn := 0) (nn := 12) (show pAt 33 134 = some (134, .invokestatic 57, 3, [9998, 5, 2, 0, 2098]) from by decide +kernel) (show HS (hpI (hpI (hpI (hpM (hpM (hpM (hpM (hpM (hpM (hpI h 1 0 (h.2.1 9 0)) 2 10 0 0 7) 3 11 0 0 7) 4 12 0 0 7) 5 13 0 0 7) 6 14 0 0 7) 7 15 0 0 28) 1 7 (h.2.1 9 7)) 1 8 (h.2.1 9 8)) 1 9 (h.2.1 9 9)) from hs) (by decide) (by decide) ?_
  refine e_aload_n (show pAt 33 137 = some (137, .aload_n 0, 1, []) from by decide +kernel) rfl (ra (by decide)) ?_
  refine e_aload_n (show pAt 33 138 = some (138, .aload_n 1, 1, []) from by decide +kernel) rfl (ra (by decide)) ?_
  refine e_gIv (v := h.2.1 9 11) (show pAt 33 139 = some (139, .getfield 69, 3, [2, 11, 0, 1062]) from by decide +kernel) (show HS (hpM (hpI (hpI (hpI (hpM (hpM (hpM (hpM (hpM (hpM (hpI h 1 0 (h.2.1 9 0)) 2 10 0 0 7) 3 11 0 0 7) 4 12 0 0 7) 5 13 0 0 7) 6 14 0 0 7) 7 15 0 0 28) 1 7 (h.2.1 9 7)) 1 8 (h.2.1 9 8)) 1 9 (h.2.1 9 9)) 8 16 0 0 12) from hs) rfl (by decide) rfl ?_
  refine e_pI (show pAt 33 142 = some (142, .putfield 69, 3, [2, 11, 0, 1062]) from by decide +kernel) (show HS (hpM (hpI (hpI (hpI (hpM (hpM (hpM (hpM (hpM (hpM (hpI h 1 0 (h.2.1 9 0)) 2 10 0 0 7) 3 11 0 0 7) 4 12 0 0 7) 5 13 0 0 7) 6 14 0 0 7) 7 15 0 0 28) 1 7 (h.2.1 9 7)) 1 8 (h.2.1 9 8)) 1 9 (h.2.1 9 9)) 8 16 0 0 12) from hs) (by decide) (Or.inl rfl) ?_
  refine e_aload_n (show pAt 33 145 = some (145, .aload_n 0, 1, []) from by decide +kernel) rfl (ra (by decide)) ?_
  refine e_aload_n (show pAt 33 146 = some (146, .aload_n 1, 1, []) from by decide +kernel) rfl (ra (by decide)) ?_
  refine e_gIv (v := h.2.1 9 12) (show pAt 33 147 = some (147, .getfield 33, 3, [2, 12, 0, 1064]) from by decide +kernel) (show HS (hpI (hpM (hpI (hpI (hpI (hpM (hpM (hpM (hpM (hpM (hpM (hpI h 1 0 (h.2.1 9 0)) 2 10 0 0 7) 3 11 0 0 7) 4 12 0 0 7) 5 13 0 0 7) 6 14 0 0 7) 7 15 0 0 28) 1 7 (h.2.1 9 7)) 1 8 (h.2.1 9 8)) 1 9 (h.2.1 9 9)) 8 16 0 0 12) 1 11 (h.2.1 9 11)) from hs) rfl (by decide) rfl ?_
  refine e_pI (show pAt 33 150 = some (150, .putfield 33, 3, [2, 12, 0, 1064]) from by decide +kernel) (show HS (hpI (hpM (hpI (hpI (hpI (hpM (hpM (hpM (hpM (hpM (hpM (hpI h 1 0 (h.2.1 9 0)) 2 10 0 0 7) 3 11 0 0 7) 4 12 0 0 7) 5 13 0 0 7) 6 14 0 0 7) 7 15 0 0 28) 1 7 (h.2.1 9 7)) 1 8 (h.2.1 9 8)) 1 9 (h.2.1 9 9)) 8 16 0 0 12) 1 11 (h.2.1 9 11)) from hs) (by decide) (Or.inl rfl) ?_
  exact e_retV (show pAt 33 153 = some (153, .return_, 1, []) from by decide +kernel) rfl vc

theorem w_cimg {X : Scr} {dp : Nat} {h : Hp} {Q : Option Value → Hp → Prop}  (hs : HS h)
    (vc : Ends X dp 33 0 [.ref 9, .ref 1] [] h (fun rv h1 => rv = none ∧ HS h1 ∧ Q (some (.int (h1.2.1 1 0))) (hpI h1 0 2 1))) :
    Ends X (dp + 1) 89 0 [.ref 0] [] h Q := by
  have ra : ∀ {a : Nat}, a < 1000 → a ≤ OLDB := fun h => by have := OLDB_eq; omega
  refine e_aload_n (show pAt 89 0 = some (0, .aload_n 0, 1, []) from by decide +kernel) rfl (ra (by decide)) ?_
  refine e_gR (show pAt 89 1 = some (1, .getfield 18, 3, [6, 1, 0, 2023]) from by decide +kernel) (show HS h from hs) rfl (by decide) (hs_ref (show HS h from hs) rfl) ?_
  refine e_aload_n (show pAt 89 4 = some (4, .aload_n 0, 1, []) from by decide +kernel) rfl (ra (by decide)) ?_
  refine e_gR (show pAt 89 5 = some (5, .getfield 12, 3, [6, 0, 0, 2022]) from by decide +kernel) (show HS h from hs) rfl (by decide) (hs_ref (show HS h from hs) rfl) ?_
  refine Ends.call (show pAt 89 8 = some (8, .invokevirtual 209, 3, [33, 2, 0, 1, 4048, 2096, 6]) from by decide +kernel) (isRet_none rfl) rfl (call_this (show HS h from hs) rfl rfl (by decide)) (Ends.mono vc ?_)
  rintro _ h1 ⟨rfl, hs_h1, vc⟩
  refine e_aload_n (show pAt 89 11 = some (11, .aload_n 0, 1, []) from by decide +kernel) rfl (ra (by decide)) ?_
  refine e_iconst (c := 1) (show pAt 89 12 = some (12, .iconst 1, 1, []) from by decide +kernel) (by decide) ?_
  refine e_pI (show pAt 89 13 = some (13, .putfield 213, 3, [6, 2, 0, 2024]) from by decide +kernel) (show HS h1 from hs_h1) (by decide) (Or.inr (by decide)) ?_
  refine e_aload_n (show pAt 89 16 = some (16, .aload_n 0, 1, []) from by decide +kernel) rfl (ra (by decide)) ?_
  refine e_gR (show pAt 89 17 = some (17, .getfield 12, 3, [6, 0, 0, 2022]) from by decide +kernel) (show HS (hpI h1 0 2 1) from hs_h1) rfl (by decide) (hs_ref (show HS (hpI h1 0 2 1) from hs_h1) rfl) ?_
  refine e_gIv (v := h1.2.1 1 0) (show pAt 89 20 = some (20, .getfield 200, 3, [2, 0, 1, 1033]) from by decide +kernel) (show HS (hpI h1 0 2 1) from hs_h1) rfl (by decide) rfl ?_
  exact e_retI (show pAt 89 23 = some (23, .ireturn, 1, []) from by decide +kernel) rfl vc

theorem w_cund {X : Scr} {dp : Nat} {h : Hp} {Q : Option Value → Hp → Prop}  (hs : HS h)
    (vc : ((condB .ne (h.2.1 0 2) 0 = true → Ends X dp 33 0 [.ref 1, .ref 9] [] h (fun rv h2 => rv = none ∧ HS h2 ∧ Q (some (.int (h2.2.1 1 0))) h2)) ∧ (condB .ne (h.2.1 0 2) 0 = false → Q (some (.int (-3))) h))) :
    Ends X (dp + 1) 90 0 [.ref 0] [] h Q := by
  have ra : ∀ {a : Nat}, a < 1000 → a ≤ OLDB := fun h => by have := OLDB_eq; omega
  refine e_aload_n (show pAt 90 0 = some (0, .aload_n 0, 1, []) from by decide +kernel) rfl (ra (by decide)) ?_
  refine e_gIv (v := h.2.1 0 2) (show pAt 90 1 = some (1, .getfield 213, 3, [6, 2, 0, 2024]) from by decide +kernel) (show HS h from hs) rfl (by decide) rfl ?_
  refine e_if (t := 10) (show pAt 90 4 = some (4, .ifCond .ne 6, 3, []) from by decide +kernel) rfl (fun c1 => ?_) (fun c1 => ?_)
  · replace vc := vc.1 c1
    refine e_aload_n (show pAt 90 10 = some (10, .aload_n 0, 1, []) from by decide +kernel) rfl (ra (by decide)) ?_
    refine e_gR (show pAt 90 11 = some (11, .getfield 12, 3, [6, 0, 0, 2022]) from by decide +kernel) (show HS h from hs) rfl (by decide) (hs_ref (show HS h from hs) rfl) ?_
    refine e_aload_n (show pAt 90 14 = some (14, .aload_n 0, 1, []) from by decide +kernel) rfl (ra (by decide)) ?_
    refine e_gR (show pAt 90 15 = some (15, .getfield 18, 3, [6, 1, 0, 2023]) from by decide +kernel) (show HS h from hs) rfl (by decide) (hs_ref (show HS h from hs) rfl) ?_
    refine Ends.call (show pAt 90 18 = some (18, .invokevirtual 209, 3, [33, 2, 0, 1, 4048, 2096, 6]) from by decide +kernel) (isRet_none rfl) rfl (call_this (show HS h from hs) rfl rfl (by decide)) (Ends.mono vc ?_)
    rintro _ h2 ⟨rfl, hs_h2, vc⟩
    refine e_aload_n (show pAt 90 21 = some (21, .aload_n 0, 1, []) from by decide +kernel) rfl (ra (by decide)) ?_
    refine e_gR (show pAt 90 22 = some (22, .getfield 12, 3, [6, 0, 0, 2022]) from by decide +kernel) (show HS h2 from hs_h2) rfl (by decide) (hs_ref (show HS h2 from hs_h2) rfl) ?_
    refine e_gIv (v := h2.2.1 1 0) (show pAt 90 25 = some (25, .getfield 200, 3, [2, 0, 1, 1033]) from by decide +kernel) (show HS h2 from hs_h2) rfl (by decide) rfl ?_
    exact e_retI (show pAt 90 28 = some (28, .ireturn, 1, []) from by decide +kernel) rfl vc
  · replace vc := vc.2 c1
    refine e_bipush (c := (-3)) (show pAt 90 7 = some (7, .bipush (-3), 2, []) from by decide +kernel) (by decide) ?_
    exact e_retI (show pAt 90 9 = some (9, .ireturn, 1, []) from by decide +kernel) rfl vc

theorem w_mper0 {X : Scr} {dp : Nat} {h : Hp} {Q : Option Value → Hp → Prop} (k : Int32) (n : Int32) (l : Int32) (q : Int32) (s : Int32) (hs : HS h)
    (vc : Ends X dp 109 0 [.ref 93, .int k, .int 0, .int 6] [] h (fun rv h1 => ∃ r2, rv = some (.int r2) ∧ HS h1 ∧ ((condB .ne r2 0 = true → Ends X dp 109 0 [.ref 93, .int n, .int 0, .int 9] [] h1 (fun rv h5 => ∃ r6, rv = some (.int r6) ∧ HS h5 ∧ ((condB .eq r6 0 = true → Q (some (.int (-2))) h5) ∧ (condB .eq r6 0 = false → Ends X dp 109 0 [.ref 93, .int l, .int 0, .int 6] [] h5 (fun rv h9 => ∃ r10, rv = some (.int r10) ∧ HS h9 ∧ ((condB .eq r10 0 = true → Q (some (.int (-2))) h9) ∧ (condB .eq r10 0 = false → Ends X dp 109 0 [.ref 93, .int q, .int 0, .int 9] [] h9 (fun rv h13 => ∃ r14, rv = some (.int r14) ∧ HS h13 ∧ ((condB .eq r14 0 = true → Q (some (.int (-2))) h13) ∧ (condB .eq r14 0 = false → Ends X dp 109 0 [.ref 93, .int s, .int 0, .int 9] [] h13 (fun rv h17 => ∃ r18, rv = some (.int r18) ∧ HS h17 ∧ ((condB .ne r18 0 = true → ((condB .ne (h17.2.1 93 0) 7 = true → (inB (h17.2.1 93 0) 7 = true ∧ (inB (h17.2.1 93 0) 7 = true ∧ (inB (h17.2.1 93 0) 7 = true ∧ (inB (h17.2.1 93 0) 7 = true ∧ (inB (h17.2.1 93 0) 7 = true ∧ Ends X (dp + 1) 114 129 [.ref 93, .int k, .int n, .int l, .int q, .int s, .int 0] [] (hpI (hpI (hpI (hpI (hpI h17 94 (h17.2.1 93 0).toNatClampNeg k) 95 (h17.2.1 93 0).toNatClampNeg n) 96 (h17.2.1 93 0).toNatClampNeg l) 97 (h17.2.1 93 0).toNatClampNeg q) 98 (h17.2.1 93 0).toNatClampNeg s) Q)))))) ∧ (condB .ne (h17.2.1 93 0) 7 = false → Q (some (.int (-4))) h17))) ∧ (condB .ne r18 0 = false → Q (some (.int (-2))) h17))))))))))))) ∧ (condB .ne r2 0 = false → Q (some (.int (-1))) h1)))) :
    Ends X (dp + 1) 114 0 [.ref 93, .int k, .int n, .int l, .int q, .int s, .retAddr 0] [] h Q := by
  have ra : ∀ {a : Nat}, a < 1000 → a ≤ OLDB := fun h => by have := OLDB_eq; omega
  refine e_aload_n (show pAt 114 0 = some (0, .aload_n 0, 1, []) from by decide +kernel) rfl (ra (by decide)) ?_
  refine e_iload_n (show pAt 114 1 = some (1, .iload_n 1, 1, []) from by decide +kernel) rfl ?_
  refine e_iconst (c := 0) (show pAt 114 2 = some (2, .iconst 0, 1, []) from by decide +kernel) (by decide) ?_
  refine e_bipush (c := 6) (show pAt 114 3 = some (3, .bipush 6, 2, []) from by decide +kernel) (by decide) ?_
  refine Ends.call (show pAt 114 5 = some (5, .invokevirtual 206, 3, [109, 4, 0, 0, 5081, 5083, 54]) from by decide +kernel) (isRet_none rfl) rfl (call_this (show HS h from hs) rfl rfl (by decide)) (Ends.mono vc ?_)
  rintro _ h1 ⟨r2, rfl, hs_h1, vc⟩
  refine e_if (t := 13) (show pAt 114 8 = some (8, .ifCond .ne 5, 3, []) from by decide +kernel) rfl (fun c4 => ?_) (fun c4 => ?_)
  · replace vc := vc.1 c4
    refine e_aload_n (show pAt 114 13 = some (13, .aload_n 0, 1, []) from by decide +kernel) rfl (ra (by decide)) ?_
    refine e_iload_n (show pAt 114 14 = some (14, .iload_n 2, 1, []) from by decide +kernel) rfl ?_
    refine e_iconst (c := 0) (show pAt 114 15 = some (15, .iconst 0, 1, []) from by decide +kernel) (by decide) ?_
    refine e_bipush (c := 9) (show pAt 114 16 = some (16, .bipush 9, 2, []) from by decide +kernel) (by decide) ?_
    refine Ends.call (show pAt 114 18 = some (18, .invokevirtual 206, 3, [109, 4, 0, 0, 5081, 5083, 54]) from by decide +kernel) (isRet_none rfl) rfl (call_this (show HS h1 from hs_h1) rfl rfl (by decide)) (Ends.mono vc ?_)
    rintro _ h5 ⟨r6, rfl, hs_h5, vc⟩
    refine e_if (t := 59) (show pAt 114 21 = some (21, .ifCond .eq 38, 3, []) from by decide +kernel) rfl (fun c8 => ?_) (fun c8 => ?_)
    · replace vc := vc.1 c8
      refine e_bipush (c := (-2)) (show pAt 114 59 = some (59, .bipush (-2), 2, []) from by decide +kernel) (by decide) ?_
      exact e_retI (show pAt 114 61 = some (61, .ireturn, 1, []) from by decide +kernel) rfl vc
    · replace vc := vc.2 c8
      refine e_aload_n (show pAt 114 24 = some (24, .aload_n 0, 1, []) from by decide +kernel) rfl (ra (by decide)) ?_
      refine e_iload_n (show pAt 114 25 = some (25, .iload_n 3, 1, []) from by decide +kernel) rfl ?_
      refine e_iconst (c := 0) (show pAt 114 26 = some (26, .iconst 0, 1, []) from by decide +kernel) (by decide) ?_
      refine e_bipush (c := 6) (show pAt 114 27 = some (27, .bipush 6, 2, []) from by decide +kernel) (by decide) ?_
      refine Ends.call (show pAt 114 29 = some (29, .invokevirtual 206, 3, [109, 4, 0, 0, 5081, 5083, 54]) from by decide +kernel) (isRet_none rfl) rfl (call_this (show HS h5 from hs_h5) rfl rfl (by decide)) (Ends.mono vc ?_)
      rintro _ h9 ⟨r10, rfl, hs_h9, vc⟩
      refine e_if (t := 59) (show pAt 114 32 = some (32, .ifCond .eq 27, 3, []) from by decide +kernel) rfl (fun c12 => ?_) (fun c12 => ?_)
      · replace vc := vc.1 c12
        refine e_bipush (c := (-2)) (show pAt 114 59 = some (59, .bipush (-2), 2, []) from by decide +kernel) (by decide) ?_
        exact e_retI (show pAt 114 61 = some (61, .ireturn, 1, []) from by decide +kernel) rfl vc
      · replace vc := vc.2 c12
        refine e_aload_n (show pAt 114 35 = some (35, .aload_n 0, 1, []) from by decide +kernel) rfl (ra (by decide)) ?_
        refine e_iload (show pAt 114 36 = some (36, .iload 4, 2, []) from by decide +kernel) rfl ?_
        refine e_iconst (c := 0) (show pAt 114 38 = some (38, .iconst 0, 1, []) from by decide +kernel) (by decide) ?_
        refine e_bipush (c := 9) (show pAt 114 39 = some (39, .bipush 9, 2, []) from by decide +kernel) (by decide) ?_
        refine Ends.call (show pAt 114 41 = some (41, .invokevirtual 206, 3, [109, 4, 0, 0, 5081, 5083, 54]) from by decide +kernel) (isRet_none rfl) rfl (call_this (show HS h9 from hs_h9) rfl rfl (by decide)) (Ends.mono vc ?_)
        rintro _ h13 ⟨r14, rfl, hs_h13, vc⟩
        refine e_if (t := 59) (show pAt 114 44 = some (44, .ifCond .eq 15, 3, []) from by decide +kernel) rfl (fun c16 => ?_) (fun c16 => ?_)
        · replace vc := vc.1 c16
          refine e_bipush (c := (-2)) (show pAt 114 59 = some (59, .bipush (-2), 2, []) from by decide +kernel) (by decide) ?_
          exact e_retI (show pAt 114 61 = some (61, .ireturn, 1, []) from by decide +kernel) rfl vc
        · replace vc := vc.2 c16
          refine e_aload_n (show pAt 114 47 = some (47, .aload_n 0, 1, []) from by decide +kernel) rfl (ra (by decide)) ?_
          refine e_iload (show pAt 114 48 = some (48, .iload 5, 2, []) from by decide +kernel) rfl ?_
          refine e_iconst (c := 0) (show pAt 114 50 = some (50, .iconst 0, 1, []) from by decide +kernel) (by decide) ?_
          refine e_bipush (c := 9) (show pAt 114 51 = some (51, .bipush 9, 2, []) from by decide +kernel) (by decide) ?_
          refine Ends.call (show pAt 114 53 = some (53, .invokevirtual 206, 3, [109, 4, 0, 0, 5081, 5083, 54]) from by decide +kernel) (isRet_none rfl) rfl (call_this (show HS h13 from hs_h13) rfl rfl (by decide)) (Ends.mono vc ?_)
          rintro _ h17 ⟨r18, rfl, hs_h17, vc⟩
          refine e_if (t := 62) (show pAt 114 56 = some (56, .ifCond .ne 6, 3, []) from by decide +kernel) rfl (fun c20 => ?_) (fun c20 => ?_)
          · replace vc := vc.1 c20
            refine e_aload_n (show pAt 114 62 = some (62, .aload_n 0, 1, []) from by decide +kernel) rfl (ra (by decide)) ?_
            refine e_gIv (v := h17.2.1 93 0) (show pAt 114 63 = some (63, .getfield 7, 3, [7, 0, 0, 4123]) from by decide +kernel) (show HS h17 from hs_h17) rfl (by decide) rfl ?_
            refine e_bipush (c := 7) (show pAt 114 66 = some (66, .bipush 7, 2, []) from by decide +kernel) (by decide) ?_
            refine e_icmp (t := 74) (show pAt 114 68 = some (68, .if_icmp .ne 6, 3, []) from by decide +kernel) rfl (fun c21 => ?_) (fun c21 => ?_)
            · replace vc := vc.1 c21
              refine e_aload_n (show pAt 114 74 = some (74, .aload_n 0, 1, []) from by decide +kernel) rfl (ra (by decide)) ?_
              refine e_gR (show pAt 114 75 = some (75, .getfield 19, 3, [7, 3, 0, 4126]) from by decide +kernel) (show HS h17 from hs_h17) rfl (by decide) (hs_ref (show HS h17 from hs_h17) rfl) ?_
              refine e_aload_n (show pAt 114 78 = some (78, .aload_n 0, 1, []) from by decide +kernel) rfl (ra (by decide)) ?_
              refine e_gIv (v := h17.2.1 93 0) (show pAt 114 79 = some (79, .getfield 7, 3, [7, 0, 0, 4123]) from by decide +kernel) (show HS h17 from hs_h17) rfl (by decide) rfl ?_
              refine e_iload_n (show pAt 114 82 = some (82, .iload_n 1, 1, []) from by decide +kernel) rfl ?_
              obtain ⟨c22, vc⟩ := vc
              refine e_ast (show pAt 114 83 = some (83, .iastore, 1, []) from by decide +kernel) (show HS h17 from hs_h17) (by decide) c22 ?_
              refine e_aload_n (show pAt 114 84 = some (84, .aload_n 0, 1, []) from by decide +kernel) rfl (ra (by decide)) ?_
              refine e_gR (show pAt 114 85 = some (85, .getfield 23, 3, [7, 4, 0, 4127]) from by decide +kernel) (show HS (hpI h17 94 (h17.2.1 93 0).toNatClampNeg k) from hs_h17) rfl (by decide) (hs_ref (show HS (hpI h17 94 (h17.2.1 93 0).toNatClampNeg k) from hs_h17) rfl) ?_
              refine e_aload_n (show pAt 114 88 = some (88, .aload_n 0, 1, []) from by decide +kernel) rfl (ra (by decide)) ?_
              refine e_gIv (v := h17.2.1 93 0) (show pAt 114 89 = some (89, .getfield 7, 3, [7, 0, 0, 4123]) from by decide +kernel) (show HS (hpI h17 94 (h17.2.1 93 0).toNatClampNeg k) from hs_h17) rfl (by decide) rfl ?_
              refine e_iload_n (show pAt 114 92 = some (92, .iload_n 2, 1, []) from by decide +kernel) rfl ?_
              obtain ⟨c23, vc⟩ := vc
              refine e_ast (show pAt 114 93 = some (93, .iastore, 1, []) from by decide +kernel) (show HS (hpI h17 94 (h17.2.1 93 0).toNatClampNeg k) from hs_h17) (by decide) c23 ?_
              refine e_aload_n (show pAt 114 94 = some (94, .aload_n 0, 1, []) from by decide +kernel) rfl (ra (by decide)) ?_
              refine e_gR (show pAt 114 95 = some (95, .getfield 26, 3, [7, 5, 0, 4128]) from by decide +kernel) (show HS (hpI (hpI h17 94 (h17.2.1 93 0).toNatClampNeg k) 95 (h17.2.1 93 0).toNatClampNeg n) from hs_h17) rfl (by decide) (hs_ref (show HS (hpI (hpI h17 94 (h17.2.1 93 0).toNatClampNeg k) 95 (h17.2.1 93 0).toNatClampNeg n) from hs_h17) rfl) ?_
              refine e_aload_n (show pAt 114 98 = some (98, .aload_n 0, 1, []) from by decide +kernel) rfl (ra (by decide)) ?_
              refine e_gIv (v := h17.2.1 93 0) (show pAt 114 99 = some (99, .getfield 7, 3, [7, 0, 0, 4123]) from by decide +kernel) (show HS (hpI (hpI h17 94 (h17.2.1 93 0).toNatClampNeg k) 95 (h17.2.1 93 0).toNatClampNeg n) from hs_h17) rfl (by decide) rfl ?_
              refine e_iload_n (show pAt 114 102 = some (102, .iload_n 3, 1, []) from by decide +kernel) rfl ?_
              obtain ⟨c24, vc⟩ := vc
              refine e_ast (show pAt 114 103 = some (103, .iastore, 1, []) from by decide +kernel) (show HS (hpI (hpI h17 94 (h17.2.1 93 0).toNatClampNeg k) 95 (h17.2.1 93 0).toNatClampNeg n) from hs_h17) (by decide) c24 ?_
              refine e_aload_n (show pAt 114 104 = some (104, .aload_n 0, 1, []) from by decide +kernel) rfl (ra (by decide)) ?_
              refine e_gR (show pAt 114 105 = some (105, .getfield 29, 3, [7, 6, 0, 4129]) from by decide +kernel) (show HS (hpI (hpI (hpI h17 94 (h17.2.1 93 0).toNatClampNeg k) 95 (h17.2.1 93 0).toNatClampNeg n) 96 (h17.2.1 93 0).toNatClampNeg l) from hs_h17) rfl (by decide) (hs_ref (show HS (hpI (hpI (hpI h17 94 (h17.2.1 93 0).toNatClampNeg k) 95 (h17.2.1 93 0).toNatClampNeg n) 96 (h17.2.1 93 0).toNatClampNeg l) from hs_h17) rfl) ?_
              refine e_aload_n (show pAt 114 108 = some (108, .aload_n 0, 1, []) from by decide +kernel) rfl (ra (by decide)) ?_
              refine e_gIv (v := h17.2.1 93 0) (show pAt 114 109 = some (109, .getfield 7, 3, [7, 0, 0, 4123]) from by decide +kernel) (show HS (hpI (hpI (hpI h17 94 (h17.2.1 93 0).toNatClampNeg k) 95 (h17.2.1 93 0).toNatClampNeg n) 96 (h17.2.1 93 0).toNatClampNeg l) from hs_h17) rfl (by decide) rfl ?_
              refine e_iload (show pAt 114 112 = some (112, .iload 4, 2, []) from by decide +kernel) rfl ?_
              obtain ⟨c25, vc⟩ := vc
              refine e_ast (show pAt 114 114 = some (114, .iastore, 1, []) from by decide +kernel) (show HS (hpI (hpI (hpI h17 94 (h17.2.1 93 0).toNatClampNeg k) 95 (h17.2.1 93 0).toNatClampNeg n) 96 (h17.2.1 93 0).toNatClampNeg l) from hs_h17) (by decide) c25 ?_
              refine e_aload_n (show pAt 114 115 = some (115, .aload_n 0, 1, []) from by decide +kernel) rfl (ra (by decide)) ?_
              refine e_gR (show pAt 114 116 = some (116, .getfield 32, 3, [7, 7, 0, 4130]) from by decide +kernel) (show HS (hpI (hpI (hpI (hpI h17 94 (h17.2.1 93 0).toNatClampNeg k) 95 (h17.2.1 93 0).toNatClampNeg n) 96 (h17.2.1 93 0).toNatClampNeg l) 97 (h17.2.1 93 0).toNatClampNeg q) from hs_h17) rfl (by decide) (hs_ref (show HS (hpI (hpI (hpI (hpI h17 94 (h17.2.1 93 0).toNatClampNeg k) 95 (h17.2.1 93 0).toNatClampNeg n) 96 (h17.2.1 93 0).toNatClampNeg l) 97 (h17.2.1 93 0).toNatClampNeg q) from hs_h17) rfl) ?_
              refine e_aload_n (show pAt 114 119 = some (119, .aload_n 0, 1, []) from by decide +kernel) rfl (ra (by decide)) ?_
              refine e_gIv (v := h17.2.1 93 0) (show pAt 114 120 = some (120, .getfield 7, 3, [7, 0, 0, 4123]) from by decide +kernel) (show HS (hpI (hpI (hpI (hpI h17 94 (h17.2.1 93 0).toNatClampNeg k) 95 (h17.2.1 93 0).toNatClampNeg n) 96 (h17.2.1 93 0).toNatClampNeg l) 97 (h17.2.1 93 0).toNatClampNeg q) from hs_h17) rfl (by decide) rfl ?_
              refine e_iload (show pAt 114 123 = some (123, .iload 5, 2, []) from by decide +kernel) rfl ?_
              obtain ⟨c26, vc⟩ := vc
              refine e_ast (show pAt 114 125 = some (125, .iastore, 1, []) from by decide +kernel) (show HS (hpI (hpI (hpI (hpI h17 94 (h17.2.1 93 0).toNatClampNeg k) 95 (h17.2.1 93 0).toNatClampNeg n) 96 (h17.2.1 93 0).toNatClampNeg l) 97 (h17.2.1 93 0).toNatClampNeg q) from hs_h17) (by decide) c26 ?_
              refine e_iconst (c := 0) (show pAt 114 126 = some (126, .iconst 0, 1, []) from by decide +kernel) (by decide) ?_
              refine e_istore (show pAt 114 127 = some (127, .istore 6, 2, []) from by decide +kernel) ⟨Nat.le_of_ble_eq_true rfl, rfl⟩ rfl ?_
              exact vc
            · replace vc := vc.2 c21
              refine e_bipush (c := (-4)) (show pAt 114 71 = some (71, .bipush (-4), 2, []) from by decide +kernel) (by decide) ?_
              exact e_retI (show pAt 114 73 = some (73, .ireturn, 1, []) from by decide +kernel) rfl vc
          · replace vc := vc.2 c20
            refine e_bipush (c := (-2)) (show pAt 114 59 = some (59, .bipush (-2), 2, []) from by decide +kernel) (by decide) ?_
            exact e_retI (show pAt 114 61 = some (61, .ireturn, 1, []) from by decide +kernel) rfl vc
  · replace vc := vc.2 c4
    refine e_iconst (c := (-1)) (show pAt 114 11 = some (11, .iconst (-1), 1, []) from by decide +kernel) (by decide) ?_
    exact e_retI (show pAt 114 12 = some (12, .ireturn, 1, []) from by decide +kernel) rfl vc

theorem w_mper1 {X : Scr} {dp : Nat} {h : Hp} {Q : Option Value → Hp → Prop} (k : Int32) (n : Int32) (l : Int32) (q : Int32) (s : Int32) (i : Int32) (hs : HS h)
    (vc : ((condB .ge i 4 = true → Q (some (.int (((h.2.1 93 0) + 1) - 1))) (hpI (hpI h 93 2 ((h.2.1 93 2) &&& ((1 <<< ((h.2.1 93 0) &&& 31)) ^^^ (-1)))) 93 0 ((h.2.1 93 0) + 1))) ∧ (condB .ge i 4 = false → (inB ((4 * (h.2.1 93 0)) + i) 28 = true ∧ Ends X dp 114 129 [.ref 93, .int k, .int n, .int l, .int q, .int s, .int (i + 1)] [] (hpI h 99 ((4 * (h.2.1 93 0)) + i).toNatClampNeg 0) Q)))) :
    Ends X dp 114 129 [.ref 93, .int k, .int n, .int l, .int q, .int s, .int i] [] h Q := by
  have ra : ∀ {a : Nat}, a < 1000 → a ≤ OLDB := fun h => by have := OLDB_eq; omega
  refine e_iload (show pAt 114 129 = some (129, .iload 6, 2, []) from by decide +kernel) rfl ?_
  refine e_iconst (c := 4) (show pAt 114 131 = some (131, .iconst 4, 1, []) from by decide +kernel) (by decide) ?_
  refine e_icmp (t := 156) (show pAt 114 132 = some (132, .if_icmp .ge 24, 3, []) from by decide +kernel) rfl (fun c1 => ?_) (fun c1 => ?_)
  · replace vc := vc.1 c1
    refine e_aload_n (show pAt 114 156 = some (156, .aload_n 0, 1, []) from by decide +kernel) rfl (ra (by decide)) ?_
    refine e_dupR (show pAt 114 157 = some (157, .dup, 1, []) from by decide +kernel) ?_
    refine e_gIv (v := h.2.1 93 2) (show pAt 114 158 = some (158, .getfield 16, 3, [7, 2, 0, 4125]) from by decide +kernel) (show HS h from hs) rfl (by decide) rfl ?_
    refine e_iconst (c := 1) (show pAt 114 161 = some (161, .iconst 1, 1, []) from by decide +kernel) (by decide) ?_
    refine e_aload_n (show pAt 114 162 = some (162, .aload_n 0, 1, []) from by decide +kernel) rfl (ra (by decide)) ?_
    refine e_gIv (v := h.2.1 93 0) (show pAt 114 163 = some (163, .getfield 7, 3, [7, 0, 0, 4123]) from by decide +kernel) (show HS h from hs) rfl (by decide) rfl ?_
    refine e_ishl (show pAt 114 166 = some (166, .ishl, 1, []) from by decide +kernel) ?_
    refine e_iconst (c := (-1)) (show pAt 114 167 = some (167, .iconst (-1), 1, []) from by decide +kernel) (by decide) ?_
    refine e_ixor (show pAt 114 168 = some (168, .ixor, 1, []) from by decide +kernel) ?_
    refine e_iand (show pAt 114 169 = some (169, .iand, 1, []) from by decide +kernel) ?_
    refine e_pI (show pAt 114 170 = some (170, .putfield 16, 3, [7, 2, 0, 4125]) from by decide +kernel) (show HS h from hs) (by decide) (Or.inl rfl) ?_
    refine e_aload_n (show pAt 114 173 = some (173, .aload_n 0, 1, []) from by decide +kernel) rfl (ra (by decide)) ?_
    refine e_dupR (show pAt 114 174 = some (174, .dup, 1, []) from by decide +kernel) ?_
    refine e_gIv (v := h.2.1 93 0) (show pAt 114 175 = some (175, .getfield 7, 3, [7, 0, 0, 4123]) from by decide +kernel) (show HS (hpI h 93 2 ((h.2.1 93 2) &&& ((1 <<< ((h.2.1 93 0) &&& 31)) ^^^ (-1)))) from hs) rfl (by decide) rfl ?_
    refine e_iconst (c := 1) (show pAt 114 178 = some (178, .iconst 1, 1, []) from by decide +kernel) (by decide) ?_
    refine e_iadd (show pAt 114 179 = some (179, .iadd, 1, []) from by decide +kernel) ?_
    refine e_pI (show pAt 114 180 = some (180, .putfield 7, 3, [7, 0, 0, 4123]) from by decide +kernel) (show HS (hpI h 93 2 ((h.2.1 93 2) &&& ((1 <<< ((h.2.1 93 0) &&& 31)) ^^^ (-1)))) from hs) (by decide) (Or.inl rfl) ?_
    refine e_aload_n (show pAt 114 183 = some (183, .aload_n 0, 1, []) from by decide +kernel) rfl (ra (by decide)) ?_
    refine e_gIv (v := (h.2.1 93 0) + 1) (show pAt 114 184 = some (184, .getfield 7, 3, [7, 0, 0, 4123]) from by decide +kernel) (show HS (hpI (hpI h 93 2 ((h.2.1 93 2) &&& ((1 <<< ((h.2.1 93 0) &&& 31)) ^^^ (-1)))) 93 0 ((h.2.1 93 0) + 1)) from hs) rfl (by decide) rfl ?_
    refine e_iconst (c := 1) (show pAt 114 187 = some (187, .iconst 1, 1, []) from by decide +kernel) (by decide) ?_
    refine e_isub (show pAt 114 188 = some (188, .isub, 1, []) from by decide +kernel) ?_
    exact e_retI (show pAt 114 189 = some (189, .ireturn, 1, []) from by decide +kernel) rfl vc
  · replace vc := vc.2 c1
    refine e_aload_n (show pAt 114 135 = some (135, .aload_n 0, 1, []) from by decide +kernel) rfl (ra (by decide)) ?_
    refine e_gR (show pAt 114 136 = some (136, .getfield 35, 3, [7, 8, 0, 4131]) from by decide +kernel) (show HS h from hs) rfl (by decide) (hs_ref (show HS h from hs) rfl) ?_
    refine e_iconst (c := 4) (show pAt 114 139 = some (139, .iconst 4, 1, []) from by decide +kernel) (by decide) ?_
    refine e_aload_n (show pAt 114 140 = some (140, .aload_n 0, 1, []) from by decide +kernel) rfl (ra (by decide)) ?_
    refine e_gIv (v := h.2.1 93 0) (show pAt 114 141 = some (141, .getfield 7, 3, [7, 0, 0, 4123]) from by decide +kernel) (show HS h from hs) rfl (by decide) rfl ?_
    refine e_imul (show pAt 114 144 = some (144, .imul, 1, []) from by decide +kernel) ?_
    refine e_iload (show pAt 114 145 = some (145, .iload 6, 2, []) from by decide +kernel) rfl ?_
    refine e_iadd (show pAt 114 147 = some (147, .iadd, 1, []) from by decide +kernel) ?_
    refine e_iconst (c := 0) (show pAt 114 148 = some (148, .iconst 0, 1, []) from by decide +kernel) (by decide) ?_
    obtain ⟨c2, vc⟩ := vc
    refine e_ast (show pAt 114 149 = some (149, .iastore, 1, []) from by decide +kernel) (show HS h from hs) (by decide) c2 ?_
    refine e_iinc (c := 1) (show pAt 114 150 = some (150, .iinc 6 1, 3, []) from by decide +kernel) rfl rfl (by decide) rfl ?_
    refine e_goto (t := 129) (show pAt 114 153 = some (153, .goto (-24), 3, []) from by decide +kernel) rfl ?_
    exact vc

theorem w_mimage0 {X : Scr} {dp : Nat} {h : Hp} {Q : Option Value → Hp → Prop}  (hs : HS h)
    (vc : Ends X dp 184 55 [.ref 93, .int 0] [] (hpI (hpI (hpI (hpI (hpI (hpI (hpI h 93 44 1) 93 45 (h.2.1 93 10)) 93 46 (h.2.1 93 0)) 93 47 (h.2.1 93 1)) 93 48 (h.2.1 93 2)) 93 49 (h.2.1 93 41)) 93 50 (h.2.1 93 42)) Q) :
    Ends X dp 184 0 [.ref 93, .retAddr 0] [] h Q := by
  have ra : ∀ {a : Nat}, a < 1000 → a ≤ OLDB := fun h => by have := OLDB_eq; omega
  refine e_aload_n (show pAt 184 0 = some (0, .aload_n 0, 1, []) from by decide +kernel) rfl (ra (by decide)) ?_
  refine e_iconst (c := 1) (show pAt 184 1 = some (1, .iconst 1, 1, []) from by decide +kernel) (by decide) ?_
  refine e_pI (show pAt 184 2 = some (2, .putfield 145, 3, [7, 44, 0, 4167]) from by decide +kernel) (show HS h from hs) (by decide) (Or.inr (by decide)) ?_
  refine e_aload_n (show pAt 184 5 = some (5, .aload_n 0, 1, []) from by decide +kernel) rfl (ra (by decide)) ?_
  refine e_aload_n (show pAt 184 6 = some (6, .aload_n 0, 1, []) from by decide +kernel) rfl (ra (by decide)) ?_
  refine e_gIv (v := h.2.1 93 10) (show pAt 184 7 = some (7, .getfield 41, 3, [7, 10, 0, 4133]) from by decide +kernel) (show HS (hpI h 93 44 1) from hs) rfl (by decide) rfl ?_
  refine e_pI (show pAt 184 10 = some (10, .putfield 148, 3, [7, 45, 0, 4168]) from by decide +kernel) (show HS (hpI h 93 44 1) from hs) (by decide) (Or.inl rfl) ?_
  refine e_aload_n (show pAt 184 13 = some (13, .aload_n 0, 1, []) from by decide +kernel) rfl (ra (by decide)) ?_
  refine e_aload_n (show pAt 184 14 = some (14, .aload_n 0, 1, []) from by decide +kernel) rfl (ra (by decide)) ?_
  refine e_gIv (v := h.2.1 93 0) (show pAt 184 15 = some (15, .getfield 7, 3, [7, 0, 0, 4123]) from by decide +kernel) (show HS (hpI (hpI h 93 44 1) 93 45 (h.2.1 93 10)) from hs) rfl (by decide) rfl ?_
  refine e_pI (show pAt 184 18 = some (18, .putfield 151, 3, [7, 46, 0, 4169]) from by decide +kernel) (show HS (hpI (hpI h 93 44 1) 93 45 (h.2.1 93 10)) from hs) (by decide) (Or.inl rfl) ?_
  refine e_aload_n (show pAt 184 21 = some (21, .aload_n 0, 1, []) from by decide +kernel) rfl (ra (by decide)) ?_
  refine e_aload_n (show pAt 184 22 = some (22, .aload_n 0, 1, []) from by decide +kernel) rfl (ra (by decide)) ?_
  refine e_gIv (v := h.2.1 93 1) (show pAt 184 23 = some (23, .getfield 13, 3, [7, 1, 0, 4124]) from by decide +kernel) (show HS (hpI (hpI (hpI h 93 44 1) 93 45 (h.2.1 93 10)) 93 46 (h.2.1 93 0)) from hs) rfl (by decide) rfl ?_
  refine e_pI (show pAt 184 26 = some (26, .putfield 154, 3, [7, 47, 0, 4170]) from by decide +kernel) (show HS (hpI (hpI (hpI h 93 44 1) 93 45 (h.2.1 93 10)) 93 46 (h.2.1 93 0)) from hs) (by decide) (Or.inl rfl) ?_
  refine e_aload_n (show pAt 184 29 = some (29, .aload_n 0, 1, []) from by decide +kernel) rfl (ra (by decide)) ?_
  refine e_aload_n (show pAt 184 30 = some (30, .aload_n 0, 1, []) from by decide +kernel) rfl (ra (by decide)) ?_
  refine e_gIv (v := h.2.1 93 2) (show pAt 184 31 = some (31, .getfield 16, 3, [7, 2, 0, 4125]) from by decide +kernel) (show HS (hpI (hpI (hpI (hpI h 93 44 1) 93 45 (h.2.1 93 10)) 93 46 (h.2.1 93 0)) 93 47 (h.2.1 93 1)) from hs) rfl (by decide) rfl ?_
  refine e_pI (show pAt 184 34 = some (34, .putfield 157, 3, [7, 48, 0, 4171]) from by decide +kernel) (show HS (hpI (hpI (hpI (hpI h 93 44 1) 93 45 (h.2.1 93 10)) 93 46 (h.2.1 93 0)) 93 47 (h.2.1 93 1)) from hs) (by decide) (Or.inl rfl) ?_
  refine e_aload_n (show pAt 184 37 = some (37, .aload_n 0, 1, []) from by decide +kernel) rfl (ra (by decide)) ?_
  refine e_aload_n (show pAt 184 38 = some (38, .aload_n 0, 1, []) from by decide +kernel) rfl (ra (by decide)) ?_
  refine e_gIv (v := h.2.1 93 41) (show pAt 184 39 = some (39, .getfield 136, 3, [7, 41, 0, 4164]) from by decide +kernel) (show HS (hpI (hpI (hpI (hpI (hpI h 93 44 1) 93 45 (h.2.1 93 10)) 93 46 (h.2.1 93 0)) 93 47 (h.2.1 93 1)) 93 48 (h.2.1 93 2)) from hs) rfl (by decide) rfl ?_
  refine e_pI (show pAt 184 42 = some (42, .putfield 160, 3, [7, 49, 0, 4172]) from by decide +kernel) (show HS (hpI (hpI (hpI (hpI (hpI h 93 44 1) 93 45 (h.2.1 93 10)) 93 46 (h.2.1 93 0)) 93 47 (h.2.1 93 1)) 93 48 (h.2.1 93 2)) from hs) (by decide) (Or.inl rfl) ?_
  refine e_aload_n (show pAt 184 45 = some (45, .aload_n 0, 1, []) from by decide +kernel) rfl (ra (by decide)) ?_
  refine e_aload_n (show pAt 184 46 = some (46, .aload_n 0, 1, []) from by decide +kernel) rfl (ra (by decide)) ?_
  refine e_gIv (v := h.2.1 93 42) (show pAt 184 47 = some (47, .getfield 139, 3, [7, 42, 0, 4165]) from by decide +kernel) (show HS (hpI (hpI (hpI (hpI (hpI (hpI h 93 44 1) 93 45 (h.2.1 93 10)) 93 46 (h.2.1 93 0)) 93 47 (h.2.1 93 1)) 93 48 (h.2.1 93 2)) 93 49 (h.2.1 93 41)) from hs) rfl (by decide) rfl ?_
  refine e_pI (show pAt 184 50 = some (50, .putfield 163, 3, [7, 50, 0, 4173]) from by decide +kernel) (show HS (hpI (hpI (hpI (hpI (hpI (hpI h 93 44 1) 93 45 (h.2.1 93 10)) 93 46 (h.2.1 93 0)) 93 47 (h.2.1 93 1)) 93 48 (h.2.1 93 2)) 93 49 (h.2.1 93 41)) from hs) (by decide) (Or.inl rfl) ?_
  refine e_iconst (c := 0) (show pAt 184 53 = some (53, .iconst 0, 1, []) from by decide +kernel) (by decide) ?_
  refine e_istore_n (show pAt 184 54 = some (54, .istore_n 1, 1, []) from by decide +kernel) ⟨Nat.le_of_ble_eq_true rfl, rfl⟩ rfl ?_
  exact vc

theorem w_mimage1 {X : Scr} {dp : Nat} {h : Hp} {Q : Option Value → Hp → Prop} (p : Int32) (hs : HS h)
    (vc : ((condB .ge p 7 = true → Ends X dp 184 129 [.ref 93, .int 0] [] h Q) ∧ (condB .ge p 7 = false → (inB p 7 = true ∧ (inB p 7 = true ∧ (inB p 7 = true ∧ (inB p 7 = true ∧ (inB p 7 = true ∧ (inB p 7 = true ∧ (inB p 7 = true ∧ (inB p 7 = true ∧ (inB p 7 = true ∧ (inB p 7 = true ∧ Ends X dp 184 55 [.ref 93, .int (p + 1)] [] (hpI (hpI (hpI (hpI (hpI h 115 p.toNatClampNeg (h.2.1 94 p.toNatClampNeg)) 116 p.toNatClampNeg (h.2.1 95 p.toNatClampNeg)) 117 p.toNatClampNeg (h.2.1 96 p.toNatClampNeg)) 118 p.toNatClampNeg (h.2.1 97 p.toNatClampNeg)) 119 p.toNatClampNeg (h.2.1 98 p.toNatClampNeg)) Q))))))))))))) :
    Ends X dp 184 55 [.ref 93, .int p] [] h Q := by
  have ra : ∀ {a : Nat}, a < 1000 → a ≤ OLDB := fun h => by have := OLDB_eq; omega
  refine e_iload_n (show pAt 184 55 = some (55, .iload_n 1, 1, []) from by decide +kernel) rfl ?_
  refine e_bipush (c := 7) (show pAt 184 56 = some (56, .bipush 7, 2, []) from by decide +kernel) (by decide) ?_
  refine e_icmp (t := 127) (show pAt 184 58 = some (58, .if_icmp .ge 69, 3, []) from by decide +kernel) rfl (fun c1 => ?_) (fun c1 => ?_)
  · replace vc := vc.1 c1
    refine e_iconst (c := 0) (show pAt 184 127 = some (127, .iconst 0, 1, []) from by decide +kernel) (by decide) ?_
    refine e_istore_n (show pAt 184 128 = some (128, .istore_n 1, 1, []) from by decide +kernel) ⟨Nat.le_of_ble_eq_true rfl, rfl⟩ rfl ?_
    exact vc
  · replace vc := vc.2 c1
    refine e_aload_n (show pAt 184 61 = some (61, .aload_n 0, 1, []) from by decide +kernel) rfl (ra (by decide)) ?_
    refine e_gR (show pAt 184 62 = some (62, .getfield 166, 3, [7, 51, 0, 4174]) from by decide +kernel) (show HS h from hs) rfl (by decide) (hs_ref (show HS h from hs) rfl) ?_
    refine e_iload_n (show pAt 184 65 = some (65, .iload_n 1, 1, []) from by decide +kernel) rfl ?_
    refine e_aload_n (show pAt 184 66 = some (66, .aload_n 0, 1, []) from by decide +kernel) rfl (ra (by decide)) ?_
    refine e_gR (show pAt 184 67 = some (67, .getfield 19, 3, [7, 3, 0, 4126]) from by decide +kernel) (show HS h from hs) rfl (by decide) (hs_ref (show HS h from hs) rfl) ?_
    refine e_iload_n (show pAt 184 70 = some (70, .iload_n 1, 1, []) from by decide +kernel) rfl ?_
    obtain ⟨c2, vc⟩ := vc
    refine e_aldv (v := h.2.1 94 p.toNatClampNeg) (show pAt 184 71 = some (71, .iaload, 1, []) from by decide +kernel) (show HS h from hs) (by decide) c2 rfl ?_
    obtain ⟨c3, vc⟩ := vc
    refine e_ast (show pAt 184 72 = some (72, .iastore, 1, []) from by decide +kernel) (show HS h from hs) (by decide) c3 ?_
    refine e_aload_n (show pAt 184 73 = some (73, .aload_n 0, 1, []) from by decide +kernel) rfl (ra (by decide)) ?_
    refine e_gR (show pAt 184 74 = some (74, .getfield 169, 3, [7, 52, 0, 4175]) from by decide +kernel) (show HS (hpI h 115 p.toNatClampNeg (h.2.1 94 p.toNatClampNeg)) from hs) rfl (by decide) (hs_ref (show HS (hpI h 115 p.toNatClampNeg (h.2.1 94 p.toNatClampNeg)) from hs) rfl) ?_
    refine e_iload_n (show pAt 184 77 = some (77, .iload_n 1, 1, []) from by decide +kernel) rfl ?_
    refine e_aload_n (show pAt 184 78 = some (78, .aload_n 0, 1, []) from by decide +kernel) rfl (ra (by decide)) ?_
    refine e_gR (show pAt 184 79 = some (79, .getfield 23, 3, [7, 4, 0, 4127]) from by decide +kernel) (show HS (hpI h 115 p.toNatClampNeg (h.2.1 94 p.toNatClampNeg)) from hs) rfl (by decide) (hs_ref (show HS (hpI h 115 p.toNatClampNeg (h.2.1 94 p.toNatClampNeg)) from hs) rfl) ?_
    refine e_iload_n (show pAt 184 82 = some (82, .iload_n 1, 1, []) from by decide +kernel) rfl ?_
    obtain ⟨c4, vc⟩ := vc
    refine e_aldv (v := h.2.1 95 p.toNatClampNeg) (show pAt 184 83 = some (83, .iaload, 1, []) from by decide +kernel) (show HS (hpI h 115 p.toNatClampNeg (h.2.1 94 p.toNatClampNeg)) from hs) (by decide) c4 rfl ?_
    obtain ⟨c5, vc⟩ := vc
    refine e_ast (show pAt 184 84 = some (84, .iastore, 1, []) from by decide +kernel) (show HS (hpI h 115 p.toNatClampNeg (h.2.1 94 p.toNatClampNeg)) from hs) (by decide) c5 ?_
    refine e_aload_n (show pAt 184 85 = some (85, .aload_n 0, 1, []) from by decide +kernel) rfl (ra (by decide)) ?_
    refine e_gR (show pAt 184 86 = some (86, .getfield 172, 3, [7, 53, 0, 4176]) from by decide +kernel) (show HS (hpI (hpI h 115 p.toNatClampNeg (h.2.1 94 p.toNatClampNeg)) 116 p.toNatClampNeg (h.2.1 95 p.toNatClampNeg)) from hs) rfl (by decide) (hs_ref (show HS (hpI (hpI h 115 p.toNatClampNeg (h.2.1 94 p.toNatClampNeg)) 116 p.toNatClampNeg (h.2.1 95 p.toNatClampNeg)) from hs) rfl) ?_
    refine e_iload_n (show pAt 184 89 = some (89, .iload_n 1, 1, []) from by decide +kernel) rfl ?_
    refine e_aload_n (show pAt 184 90 = some (90, .aload_n 0, 1, []) from by decide +kernel) rfl (ra (by decide)) ?_
    refine e_gR (show pAt 184 91 = some (91, .getfield 26, 3, [7, 5, 0, 4128]) from by decide +kernel) (show HS (hpI (hpI h 115 p.toNatClampNeg (h.2.1 94 p.toNatClampNeg)) 116 p.toNatClampNeg (h.2.1 95 p.toNatClampNeg)) from hs) rfl (by decide) (hs_ref (show HS (hpI (hpI h 115 p.toNatClampNeg (h.2.1 94 p.toNatClampNeg)) 116 p.toNatClampNeg (h.2.1 95 p.toNatClampNeg)) from hs) rfl) ?_
    refine e_iload_n (show pAt 184 94 = some (94, .iload_n 1, 1, []) from by decide +kernel) rfl ?_
    obtain ⟨c6, vc⟩ := vc
    refine e_aldv (v := h.2.1 96 p.toNatClampNeg) (show pAt 184 95 = some (95, .iaload, 1, []) from by decide +kernel) (show HS (hpI (hpI h 115 p.toNatClampNeg (h.2.1 94 p.toNatClampNeg)) 116 p.toNatClampNeg (h.2.1 95 p.toNatClampNeg)) from hs) (by decide) c6 rfl ?_
    obtain ⟨c7, vc⟩ := vc
    refine e_ast (show pAt 184 96 = some (96, .iastore, 1, []) from by decide +kernel) (show HS (hpI (hpI h 115 p.toNatClampNeg (h.2.1 94 p.toNatClampNeg)) 116 p.toNatClampNeg (h.2.1 95 p.toNatClampNeg)) from hs) (by decide) c7 ?_
    refine e_aload_n (show pAt 184 97 = some (97, .aload_n 0, 1, []) from by decide +kernel) rfl (ra (by decide)) ?_
    refine e_gR (show pAt 184 98 = some (98, .getfield 175, 3, [7, 54, 0, 4177]) from by decide +kernel) (show HS (hpI (hpI (hpI h 115 p.toNatClampNeg (h.2.1 94 p.toNatClampNeg)) 116 p.toNatClampNeg (h.2.1 95 p.toNatClampNeg)) 117 p.toNatClampNeg (h.2.1 96 p.toNatClampNeg)) from hs) rfl (by decide) (hs_ref (show HS (hpI (hpI (hpI h 115 p.toNatClampNeg (h.2.1 94 p.toNatClampNeg)) 116 p.toNatClampNeg (h.2.1 95 p.toNatClampNeg)) 117 p.toNatClampNeg (h.2.1 96 p.toNatClampNeg)) from hs) rfl) ?_
    refine e_iload_n (show pAt 184 101 = some (101, .iload_n 1, 1, []) from by decide +kernel) rfl ?_
    refine e_aload_n (show pAt 184 102 = some (102, .aload_n 0, 1, []) from by decide +kernel) rfl (ra (by decide)) ?_
    refine e_gR (show pAt 184 103 = some (103, .getfield 29, 3, [7, 6, 0, 4129]) from by decide +kernel) (show HS (hpI (hpI (hpI h 115 p.toNatClampNeg (h.2.1 94 p.toNatClampNeg)) 116 p.toNatClampNeg (h.2.1 95 p.toNatClampNeg)) 117 p.toNatClampNeg (h.2.1 96 p.toNatClampNeg)) from hs) rfl (by decide) (hs_ref (show HS (hpI (hpI (hpI h 115 p.toNatClampNeg (h.2.1 94 p.toNatClampNeg)) 116 p.toNatClampNeg (h.2.1 95 p.toNatClampNeg)) 117 p.toNatClampNeg (h.2.1 96 p.toNatClampNeg)) from hs) rfl) ?_
    refine e_iload_n (show pAt 184 106 = some (106, .iload_n 1, 1, []) from by decide +kernel) rfl ?_
    obtain ⟨c8, vc⟩ := vc
    refine e_aldv (v := h.2.1 97 p.toNatClampNeg) (show pAt 184 107 = some (107, .iaload, 1, []) from by decide +kernel) (show HS (hpI (hpI (hpI h 115 p.toNatClampNeg (h.2.1 94 p.toNatClampNeg)) 116 p.toNatClampNeg (h.2.1 95 p.toNatClampNeg)) 117 p.toNatClampNeg (h.2.1 96 p.toNatClampNeg)) from hs) (by decide) c8 rfl ?_
    obtain ⟨c9, vc⟩ := vc
    refine e_ast (show pAt 184 108 = some (108, .iastore, 1, []) from by decide +kernel) (show HS (hpI (hpI (hpI h 115 p.toNatClampNeg (h.2.1 94 p.toNatClampNeg)) 116 p.toNatClampNeg (h.2.1 95 p.toNatClampNeg)) 117 p.toNatClampNeg (h.2.1 96 p.toNatClampNeg)) from hs) (by decide) c9 ?_
    refine e_aload_n (show pAt 184 109 = some (109, .aload_n 0, 1, []) from by decide +kernel) rfl (ra (by decide)) ?_
    refine e_gR (show pAt 184 110 = some (110, .getfield 178, 3, [7, 55, 0, 4178]) from by decide +kernel) (show HS (hpI (hpI (hpI (hpI h 115 p.toNatClampNeg (h.2.1 94 p.toNatClampNeg)) 116 p.toNatClampNeg (h.2.1 95 p.toNatClampNeg)) 117 p.toNatClampNeg (h.2.1 96 p.toNatClampNeg)) 118 p.toNatClampNeg (h.2.1 97 p.toNatClampNeg)) from hs) rfl (by decide) (hs_ref (show HS (hpI (hpI (hpI (hpI h 115 p.toNatClampNeg (h.2.1 94 p.toNatClampNeg)) 116 p.toNatClampNeg (h.2.1 95 p.toNatClampNeg)) 117 p.toNatClampNeg (h.2.1 96 p.toNatClampNeg)) 118 p.toNatClampNeg (h.2.1 97 p.toNatClampNeg)) from hs) rfl) ?_
    refine e_iload_n (show pAt 184 113 = some (113, .iload_n 1, 1, []) from by decide +kernel) rfl ?_
    refine e_aload_n (show pAt 184 114 = some (114, .aload_n 0, 1, []) from by decide +kernel) rfl (ra (by decide)) ?_
    refine e_gR (show pAt 184 115 = some (115, .getfield 32, 3, [7, 7, 0, 4130]) from by decide +kernel) (show HS (hpI (hpI (hpI (hpI h 115 p.toNatClampNeg (h.2.1 94 p.toNatClampNeg)) 116 p.toNatClampNeg (h.2.1 95 p.toNatClampNeg)) 117 p.toNatClampNeg (h.2.1 96 p.toNatClampNeg)) 118 p.toNatClampNeg (h.2.1 97 p.toNatClampNeg)) from hs) rfl (by decide) (hs_ref (show HS (hpI (hpI (hpI (hpI h 115 p.toNatClampNeg (h.2.1 94 p.toNatClampNeg)) 116 p.toNatClampNeg (h.2.1 95 p.toNatClampNeg)) 117 p.toNatClampNeg (h.2.1 96 p.toNatClampNeg)) 118 p.toNatClampNeg (h.2.1 97 p.toNatClampNeg)) from hs) rfl) ?_
    refine e_iload_n (show pAt 184 118 = some (118, .iload_n 1, 1, []) from by decide +kernel) rfl ?_
    obtain ⟨c10, vc⟩ := vc
    refine e_aldv (v := h.2.1 98 p.toNatClampNeg) (show pAt 184 119 = some (119, .iaload, 1, []) from by decide +kernel) (show HS (hpI (hpI (hpI (hpI h 115 p.toNatClampNeg (h.2.1 94 p.toNatClampNeg)) 116 p.toNatClampNeg (h.2.1 95 p.toNatClampNeg)) 117 p.toNatClampNeg (h.2.1 96 p.toNatClampNeg)) 118 p.toNatClampNeg (h.2.1 97 p.toNatClampNeg)) from hs) (by decide) c10 rfl ?_
    obtain ⟨c11, vc⟩ := vc
    refine e_ast (show pAt 184 120 = some (120, .iastore, 1, []) from by decide +kernel) (show HS (hpI (hpI (hpI (hpI h 115 p.toNatClampNeg (h.2.1 94 p.toNatClampNeg)) 116 p.toNatClampNeg (h.2.1 95 p.toNatClampNeg)) 117 p.toNatClampNeg (h.2.1 96 p.toNatClampNeg)) 118 p.toNatClampNeg (h.2.1 97 p.toNatClampNeg)) from hs) (by decide) c11 ?_
    refine e_iinc (c := 1) (show pAt 184 121 = some (121, .iinc 1 1, 3, []) from by decide +kernel) rfl rfl (by decide) rfl ?_
    refine e_goto (t := 55) (show pAt 184 124 = some (124, .goto (-69), 3, []) from by decide +kernel) rfl ?_
    exact vc

theorem w_mimage2 {X : Scr} {dp : Nat} {h : Hp} {Q : Option Value → Hp → Prop} (p : Int32) (hs : HS h)
    (vc : ((condB .ge p 28 = true → Ends X dp 184 155 [.ref 93, .int 0] [] h Q) ∧ (condB .ge p 28 = false → (inB p 28 = true ∧ (inB p 28 = true ∧ Ends X dp 184 129 [.ref 93, .int (p + 1)] [] (hpI h 120 p.toNatClampNeg (h.2.1 99 p.toNatClampNeg)) Q))))) :
    Ends X dp 184 129 [.ref 93, .int p] [] h Q := by
  have ra : ∀ {a : Nat}, a < 1000 → a ≤ OLDB := fun h => by have := OLDB_eq; omega
  refine e_iload_n (show pAt 184 129 = some (129, .iload_n 1, 1, []) from by decide +kernel) rfl ?_
  refine e_bipush (c := 28) (show pAt 184 130 = some (130, .bipush 28, 2, []) from by decide +kernel) (by decide) ?_
  refine e_icmp (t := 153) (show pAt 184 132 = some (132, .if_icmp .ge 21, 3, []) from by decide +kernel) rfl (fun c1 => ?_) (fun c1 => ?_)
  · replace vc := vc.1 c1
    refine e_iconst (c := 0) (show pAt 184 153 = some (153, .iconst 0, 1, []) from by decide +kernel) (by decide) ?_
    refine e_istore_n (show pAt 184 154 = some (154, .istore_n 1, 1, []) from by decide +kernel) ⟨Nat.le_of_ble_eq_true rfl, rfl⟩ rfl ?_
    exact vc
  · replace vc := vc.2 c1
    refine e_aload_n (show pAt 184 135 = some (135, .aload_n 0, 1, []) from by decide +kernel) rfl (ra (by decide)) ?_
    refine e_gR (show pAt 184 136 = some (136, .getfield 181, 3, [7, 56, 0, 4179]) from by decide +kernel) (show HS h from hs) rfl (by decide) (hs_ref (show HS h from hs) rfl) ?_
    refine e_iload_n (show pAt 184 139 = some (139, .iload_n 1, 1, []) from by decide +kernel) rfl ?_
    refine e_aload_n (show pAt 184 140 = some (140, .aload_n 0, 1, []) from by decide +kernel) rfl (ra (by decide)) ?_
    refine e_gR (show pAt 184 141 = some (141, .getfield 35, 3, [7, 8, 0, 4131]) from by decide +kernel) (show HS h from hs) rfl (by decide) (hs_ref (show HS h from hs) rfl) ?_
    refine e_iload_n (show pAt 184 144 = some (144, .iload_n 1, 1, []) from by decide +kernel) rfl ?_
    obtain ⟨c2, vc⟩ := vc
    refine e_aldv (v := h.2.1 99 p.toNatClampNeg) (show pAt 184 145 = some (145, .iaload, 1, []) from by decide +kernel) (show HS h from hs) (by decide) c2 rfl ?_
    obtain ⟨c3, vc⟩ := vc
    refine e_ast (show pAt 184 146 = some (146, .iastore, 1, []) from by decide +kernel) (show HS h from hs) (by decide) c3 ?_
    refine e_iinc (c := 1) (show pAt 184 147 = some (147, .iinc 1 1, 3, []) from by decide +kernel) rfl rfl (by decide) rfl ?_
    refine e_goto (t := 129) (show pAt 184 150 = some (150, .goto (-21), 3, []) from by decide +kernel) rfl ?_
    exact vc

theorem w_mimage3 {X : Scr} {dp : Nat} {h : Hp} {Q : Option Value → Hp → Prop} (p : Int32) (hs : HS h)
    (vc : ((condB .ge p 12 = true → Q (some (.int (h.2.1 93 0))) h) ∧ (condB .ge p 12 = false → (inB p 12 = true ∧ (inB p 12 = true ∧ Ends X dp 184 155 [.ref 93, .int (p + 1)] [] (hpI h 121 p.toNatClampNeg (h.2.1 114 p.toNatClampNeg)) Q))))) :
    Ends X dp 184 155 [.ref 93, .int p] [] h Q := by
  have ra : ∀ {a : Nat}, a < 1000 → a ≤ OLDB := fun h => by have := OLDB_eq; omega
  refine e_iload_n (show pAt 184 155 = some (155, .iload_n 1, 1, []) from by decide +kernel) rfl ?_
  refine e_bipush (c := 12) (show pAt 184 156 = some (156, .bipush 12, 2, []) from by decide +kernel) (by decide) ?_
  refine e_icmp (t := 179) (show pAt 184 158 = some (158, .if_icmp .ge 21, 3, []) from by decide +kernel) rfl (fun c1 => ?_) (fun c1 => ?_)
  · replace vc := vc.1 c1
    refine e_aload_n (show pAt 184 179 = some (179, .aload_n 0, 1, []) from by decide +kernel) rfl (ra (by decide)) ?_
    refine e_gIv (v := h.2.1 93 0) (show pAt 184 180 = some (180, .getfield 7, 3, [7, 0, 0, 4123]) from by decide +kernel) (show HS h from hs) rfl (by decide) rfl ?_
    exact e_retI (show pAt 184 183 = some (183, .ireturn, 1, []) from by decide +kernel) rfl vc
  · replace vc := vc.2 c1
    refine e_aload_n (show pAt 184 161 = some (161, .aload_n 0, 1, []) from by decide +kernel) rfl (ra (by decide)) ?_
    refine e_gR (show pAt 184 162 = some (162, .getfield 184, 3, [7, 57, 0, 4180]) from by decide +kernel) (show HS h from hs) rfl (by decide) (hs_ref (show HS h from hs) rfl) ?_
    refine e_iload_n (show pAt 184 165 = some (165, .iload_n 1, 1, []) from by decide +kernel) rfl ?_
    refine e_aload_n (show pAt 184 166 = some (166, .aload_n 0, 1, []) from by decide +kernel) rfl (ra (by decide)) ?_
    refine e_gR (show pAt 184 167 = some (167, .getfield 142, 3, [7, 43, 0, 4166]) from by decide +kernel) (show HS h from hs) rfl (by decide) (hs_ref (show HS h from hs) rfl) ?_
    refine e_iload_n (show pAt 184 170 = some (170, .iload_n 1, 1, []) from by decide +kernel) rfl ?_
    obtain ⟨c2, vc⟩ := vc
    refine e_aldv (v := h.2.1 114 p.toNatClampNeg) (show pAt 184 171 = some (171, .iaload, 1, []) from by decide +kernel) (show HS h from hs) (by decide) c2 rfl ?_
    obtain ⟨c3, vc⟩ := vc
    refine e_ast (show pAt 184 172 = some (172, .iastore, 1, []) from by decide +kernel) (show HS h from hs) (by decide) c3 ?_
    refine e_iinc (c := 1) (show pAt 184 173 = some (173, .iinc 1 1, 3, []) from by decide +kernel) rfl rfl (by decide) rfl ?_
    refine e_goto (t := 155) (show pAt 184 176 = some (176, .goto (-21), 3, []) from by decide +kernel) rfl ?_
    exact vc

theorem w_mundo0 {X : Scr} {dp : Nat} {h : Hp} {Q : Option Value → Hp → Prop}  (hs : HS h)
    (vc : ((condB .ne (h.2.1 93 44) 0 = true → Ends X dp 185 60 [.ref 93, .int 0] [] (hpI (hpI (hpI (hpI (hpI (hpI h 93 10 (h.2.1 93 45)) 93 0 (h.2.1 93 46)) 93 1 (h.2.1 93 47)) 93 2 (h.2.1 93 48)) 93 41 (h.2.1 93 49)) 93 42 (h.2.1 93 50)) Q) ∧ (condB .ne (h.2.1 93 44) 0 = false → Q (some (.int (-3))) h))) :
    Ends X dp 185 0 [.ref 93, .retAddr 0] [] h Q := by
  have ra : ∀ {a : Nat}, a < 1000 → a ≤ OLDB := fun h => by have := OLDB_eq; omega
  refine e_aload_n (show pAt 185 0 = some (0, .aload_n 0, 1, []) from by decide +kernel) rfl (ra (by decide)) ?_
  refine e_gIv (v := h.2.1 93 44) (show pAt 185 1 = some (1, .getfield 145, 3, [7, 44, 0, 4167]) from by decide +kernel) (show HS h from hs) rfl (by decide) rfl ?_
  refine e_if (t := 10) (show pAt 185 4 = some (4, .ifCond .ne 6, 3, []) from by decide +kernel) rfl (fun c1 => ?_) (fun c1 => ?_)
  · replace vc := vc.1 c1
    refine e_aload_n (show pAt 185 10 = some (10, .aload_n 0, 1, []) from by decide +kernel) rfl (ra (by decide)) ?_
    refine e_aload_n (show pAt 185 11 = some (11, .aload_n 0, 1, []) from by decide +kernel) rfl (ra (by decide)) ?_
    refine e_gIv (v := h.2.1 93 45) (show pAt 185 12 = some (12, .getfield 148, 3, [7, 45, 0, 4168]) from by decide +kernel) (show HS h from hs) rfl (by decide) rfl ?_
    refine e_pI (show pAt 185 15 = some (15, .putfield 41, 3, [7, 10, 0, 4133]) from by decide +kernel) (show HS h from hs) (by decide) (Or.inl rfl) ?_
    refine e_aload_n (show pAt 185 18 = some (18, .aload_n 0, 1, []) from by decide +kernel) rfl (ra (by decide)) ?_
    refine e_aload_n (show pAt 185 19 = some (19, .aload_n 0, 1, []) from by decide +kernel) rfl (ra (by decide)) ?_
    refine e_gIv (v := h.2.1 93 46) (show pAt 185 20 = some (20, .getfield 151, 3, [7, 46, 0, 4169]) from by decide +kernel) (show HS (hpI h 93 10 (h.2.1 93 45)) from hs) rfl (by decide) rfl ?_
    refine e_pI (show pAt 185 23 = some (23, .putfield 7, 3, [7, 0, 0, 4123]) from by decide +kernel) (show HS (hpI h 93 10 (h.2.1 93 45)) from hs) (by decide) (Or.inl rfl) ?_
    refine e_aload_n (show pAt 185 26 = some (26, .aload_n 0, 1, []) from by decide +kernel) rfl (ra (by decide)) ?_
    refine e_aload_n (show pAt 185 27 = some (27, .aload_n 0, 1, []) from by decide +kernel) rfl (ra (by decide)) ?_
    refine e_gIv (v := h.2.1 93 47) (show pAt 185 28 = some (28, .getfield 154, 3, [7, 47, 0, 4170]) from by decide +kernel) (show HS (hpI (hpI h 93 10 (h.2.1 93 45)) 93 0 (h.2.1 93 46)) from hs) rfl (by decide) rfl ?_
    refine e_pI (show pAt 185 31 = some (31, .putfield 13, 3, [7, 1, 0, 4124]) from by decide +kernel) (show HS (hpI (hpI h 93 10 (h.2.1 93 45)) 93 0 (h.2.1 93 46)) from hs) (by decide) (Or.inl rfl) ?_
    refine e_aload_n (show pAt 185 34 = some (34, .aload_n 0, 1, []) from by decide +kernel) rfl (ra (by decide)) ?_
    refine e_aload_n (show pAt 185 35 = some (35, .aload_n 0, 1, []) from by decide +kernel) rfl (ra (by decide)) ?_
    refine e_gIv (v := h.2.1 93 48) (show pAt 185 36 = some (36, .getfield 157, 3, [7, 48, 0, 4171]) from by decide +kernel) (show HS (hpI (hpI (hpI h 93 10 (h.2.1 93 45)) 93 0 (h.2.1 93 46)) 93 1 (h.2.1 93 47)) from hs) rfl (by decide) rfl ?_
    refine e_pI (show pAt 185 39 = some (39, .putfield 16, 3, [7, 2, 0, 4125]) from by decide +kernel) (show HS (hpI (hpI (hpI h 93 10 (h.2.1 93 45)) 93 0 (h.2.1 93 46)) 93 1 (h.2.1 93 47)) from hs) (by decide) (Or.inl rfl) ?_
    refine e_aload_n (show pAt 185 42 = some (42, .aload_n 0, 1, []) from by decide +kernel) rfl (ra (by decide)) ?_
    refine e_aload_n (show pAt 185 43 = some (43, .aload_n 0, 1, []) from by decide +kernel) rfl (ra (by decide)) ?_
    refine e_gIv (v := h.2.1 93 49) (show pAt 185 44 = some (44, .getfield 160, 3, [7, 49, 0, 4172]) from by decide +kernel) (show HS (hpI (hpI (hpI (hpI h 93 10 (h.2.1 93 45)) 93 0 (h.2.1 93 46)) 93 1 (h.2.1 93 47)) 93 2 (h.2.1 93 48)) from hs) rfl (by decide) rfl ?_
    refine e_pI (show pAt 185 47 = some (47, .putfield 136, 3, [7, 41, 0, 4164]) from by decide +kernel) (show HS (hpI (hpI (hpI (hpI h 93 10 (h.2.1 93 45)) 93 0 (h.2.1 93 46)) 93 1 (h.2.1 93 47)) 93 2 (h.2.1 93 48)) from hs) (by decide) (Or.inl rfl) ?_
    refine e_aload_n (show pAt 185 50 = some (50, .aload_n 0, 1, []) from by decide +kernel) rfl (ra (by decide)) ?_
    refine e_aload_n (show pAt 185 51 = some (51, .aload_n 0, 1, []) from by decide +kernel) rfl (ra (by decide)) ?_
    refine e_gIv (v := h.2.1 93 50) (show pAt 185 52 = some (52, .getfield 163, 3, [7, 50, 0, 4173]) from by decide +kernel) (show HS (hpI (hpI (hpI (hpI (hpI h 93 10 (h.2.1 93 45)) 93 0 (h.2.1 93 46)) 93 1 (h.2.1 93 47)) 93 2 (h.2.1 93 48)) 93 41 (h.2.1 93 49)) from hs) rfl (by decide) rfl ?_
    refine e_pI (show pAt 185 55 = some (55, .putfield 139, 3, [7, 42, 0, 4165]) from by decide +kernel) (show HS (hpI (hpI (hpI (hpI (hpI h 93 10 (h.2.1 93 45)) 93 0 (h.2.1 93 46)) 93 1 (h.2.1 93 47)) 93 2 (h.2.1 93 48)) 93 41 (h.2.1 93 49)) from hs) (by decide) (Or.inl rfl) ?_
    refine e_iconst (c := 0) (show pAt 185 58 = some (58, .iconst 0, 1, []) from by decide +kernel) (by decide) ?_
    refine e_istore_n (show pAt 185 59 = some (59, .istore_n 1, 1, []) from by decide +kernel) ⟨Nat.le_of_ble_eq_true rfl, rfl⟩ rfl ?_
    exact vc
  · replace vc := vc.2 c1
    refine e_bipush (c := (-3)) (show pAt 185 7 = some (7, .bipush (-3), 2, []) from by decide +kernel) (by decide) ?_
    exact e_retI (show pAt 185 9 = some (9, .ireturn, 1, []) from by decide +kernel) rfl vc

theorem w_mundo1 {X : Scr} {dp : Nat} {h : Hp} {Q : Option Value → Hp → Prop} (p : Int32) (hs : HS h)
    (vc : ((condB .ge p 7 = true → Ends X dp 185 134 [.ref 93, .int 0] [] h Q) ∧ (condB .ge p 7 = false → (inB p 7 = true ∧ (inB p 7 = true ∧ (inB p 7 = true ∧ (inB p 7 = true ∧ (inB p 7 = true ∧ (inB p 7 = true ∧ (inB p 7 = true ∧ (inB p 7 = true ∧ (inB p 7 = true ∧ (inB p 7 = true ∧ Ends X dp 185 60 [.ref 93, .int (p + 1)] [] (hpI (hpI (hpI (hpI (hpI h 94 p.toNatClampNeg (h.2.1 115 p.toNatClampNeg)) 95 p.toNatClampNeg (h.2.1 116 p.toNatClampNeg)) 96 p.toNatClampNeg (h.2.1 117 p.toNatClampNeg)) 97 p.toNatClampNeg (h.2.1 118 p.toNatClampNeg)) 98 p.toNatClampNeg (h.2.1 119 p.toNatClampNeg)) Q))))))))))))) :
    Ends X dp 185 60 [.ref 93, .int p] [] h Q := by
  have ra : ∀ {a : Nat}, a < 1000 → a ≤ OLDB := fun h => by have := OLDB_eq; omega
  refine e_iload_n (show pAt 185 60 = some (60, .iload_n 1, 1, []) from by decide +kernel) rfl ?_
  refine e_bipush (c := 7) (show pAt 185 61 = some (61, .bipush 7, 2, []) from by decide +kernel) (by decide) ?_
  refine e_icmp (t := 132) (show pAt 185 63 = some (63, .if_icmp .ge 69, 3, []) from by decide +kernel) rfl (fun c1 => ?_) (fun c1 => ?_)
  · replace vc := vc.1 c1
    refine e_iconst (c := 0) (show pAt 185 132 = some (132, .iconst 0, 1, []) from by decide +kernel) (by decide) ?_
    refine e_istore_n (show pAt 185 133 = some (133, .istore_n 1, 1, []) from by decide +kernel) ⟨Nat.le_of_ble_eq_true rfl, rfl⟩ rfl ?_
    exact vc
  · replace vc := vc.2 c1
    refine e_aload_n (show pAt 185 66 = some (66, .aload_n 0, 1, []) from by decide +kernel) rfl (ra (by decide)) ?_
    refine e_gR (show pAt 185 67 = some (67, .getfield 19, 3, [7, 3, 0, 4126]) from by decide +kernel) (show HS h from hs) rfl (by decide) (hs_ref (show HS h from hs) rfl) ?_
    refine e_iload_n (show pAt 185 70 = some (70, .iload_n 1, 1, []) from by decide +kernel) rfl ?_
    refine e_aload_n (show pAt 185 71 = some (71, .aload_n 0, 1, []) from by decide +kernel) rfl (ra (by decide)) ?_
    refine e_gR (show pAt 185 72 = some (72, .getfield 166, 3, [7, 51, 0, 4174]) from by decide +kernel) (show HS h from hs) rfl (by decide) (hs_ref (show HS h from hs) rfl) ?_
    refine e_iload_n (show pAt 185 75 = some (75, .iload_n 1, 1, []) from by decide +kernel) rfl ?_
    obtain ⟨c2, vc⟩ := vc
    refine e_aldv (v := h.2.1 115 p.toNatClampNeg) (show pAt 185 76 = some (76, .iaload, 1, []) from by decide +kernel) (show HS h from hs) (by decide) c2 rfl ?_
    obtain ⟨c3, vc⟩ := vc
    refine e_ast (show pAt 185 77 = some (77, .iastore, 1, []) from by decide +kernel) (show HS h from hs) (by decide) c3 ?_
    refine e_aload_n (show pAt 185 78 = some (78, .aload_n 0, 1, []) from by decide +kernel) rfl (ra (by decide)) ?_
    refine e_gR (show pAt 185 79 = some (79, .getfield 23, 3, [7, 4, 0, 4127]) from by decide +kernel) (show HS (hpI h 94 p.toNatClampNeg (h.2.1 115 p.toNatClampNeg)) from hs) rfl (by decide) (hs_ref (show HS (hpI h 94 p.toNatClampNeg (h.2.1 115 p.toNatClampNeg)) from hs) rfl) ?_
    refine e_iload_n (show pAt 185 82 = some (82, .iload_n 1, 1, []) from by decide +kernel) rfl ?_
    refine e_aload_n (show pAt 185 83 = some (83, .aload_n 0, 1, []) from by decide +kernel) rfl (ra (by decide)) ?_
    refine e_gR (show pAt 185 84 = some (84, .getfield 169, 3, [7, 52, 0, 4175]) from by decide +kernel) (show HS (hpI h 94 p.toNatClampNeg (h.2.1 115 p.toNatClampNeg)) from hs) rfl (by decide) (hs_ref (show HS (hpI h 94 p.toNatClampNeg (h.2.1 115 p.toNatClampNeg)) from hs) rfl) ?_
    refine e_iload_n (show pAt 185 87 = some (87, .iload_n 1, 1, []) from by decide +kernel) rfl ?_
    obtain ⟨c4, vc⟩ := vc
    refine e_aldv (v := h.2.1 116 p.toNatClampNeg) (show pAt 185 88 = some (88, .iaload, 1, []) from by decide +kernel) (show HS (hpI h 94 p.toNatClampNeg (h.2.1 115 p.toNatClampNeg)) from hs) (by decide) c4 rfl ?_
    obtain ⟨c5, vc⟩ := vc
    refine e_ast (show pAt 185 89 = some (89, .iastore, 1, []) from by decide +kernel) (show HS (hpI h 94 p.toNatClampNeg (h.2.1 115 p.toNatClampNeg)) from hs) (by decide) c5 ?_
    refine e_aload_n (show pAt 185 90 = some (90, .aload_n 0, 1, []) from by decide +kernel) rfl (ra (by decide)) ?_
    refine e_gR (show pAt 185 91 = some (91, .getfield 26, 3, [7, 5, 0, 4128]) from by decide +kernel) (show HS (hpI (hpI h 94 p.toNatClampNeg (h.2.1 115 p.toNatClampNeg)) 95 p.toNatClampNeg (h.2.1 116 p.toNatClampNeg)) from hs) rfl (by decide) (hs_ref (show HS (hpI (hpI h 94 p.toNatClampNeg (h.2.1 115 p.toNatClampNeg)) 95 p.toNatClampNeg (h.2.1 116 p.toNatClampNeg)) from hs) rfl) ?_
    refine e_iload_n (show pAt 185 94 = some (94, .iload_n 1, 1, []) from by decide +kernel) rfl ?_
    refine e_aload_n (show pAt 185 95 = some (95, .aload_n 0, 1, []) from by decide +kernel) rfl (ra (by decide)) ?_
    refine e_gR (show pAt 185 96 = some (96, .getfield 172, 3, [7, 53, 0, 4176]) from by decide +kernel) (show HS (hpI (hpI h 94 p.toNatClampNeg (h.2.1 115 p.toNatClampNeg)) 95 p.toNatClampNeg (h.2.1 116 p.toNatClampNeg)) from hs) rfl (by decide) (hs_ref (show HS (hpI (hpI h 94 p.toNatClampNeg (h.2.1 115 p.toNatClampNeg)) 95 p.toNatClampNeg (h.2.1 116 p.toNatClampNeg)) from hs) rfl) ?_
    refine e_iload_n (show pAt 185 99 = some (99, .iload_n 1, 1, []) from by decide +kernel) rfl ?_
    obtain ⟨c6, vc⟩ := vc
    refine e_aldv (v := h.2.1 117 p.toNatClampNeg) (show pAt 185 100 = some (100, .iaload, 1, []) from by decide +kernel) (show HS (hpI (hpI h 94 p.toNatClampNeg (h.2.1 115 p.toNatClampNeg)) 95 p.toNatClampNeg (h.2.1 116 p.toNatClampNeg)) from hs) (by decide) c6 rfl ?_
    obtain ⟨c7, vc⟩ := vc
    refine e_ast (show pAt 185 101 = some (101, .iastore, 1, []) from by decide +kernel) (show HS (hpI (hpI h 94 p.toNatClampNeg (h.2.1 115 p.toNatClampNeg)) 95 p.toNatClampNeg (h.2.1 116 p.toNatClampNeg)) from hs) (by decide) c7 ?_
    refine e_aload_n (show pAt 185 102 = some (102, .aload_n 0, 1, []) from by decide +kernel) rfl (ra (by decide)) ?_
    refine e_gR (show pAt 185 103 = some (103, .getfield 29, 3, [7, 6, 0, 4129]) from by decide +kernel) (show HS (hpI (hpI (hpI h 94 p.toNatClampNeg (h.2.1 115 p.toNatClampNeg)) 95 p.toNatClampNeg (h.2.1 116 p.toNatClampNeg)) 96 p.toNatClampNeg (h.2.1 117 p.toNatClampNeg)) from hs) rfl (by decide) (hs_ref (show HS (hpI (hpI (hpI h 94 p.toNatClampNeg (h.2.1 115 p.toNatClampNeg)) 95 p.toNatClampNeg (h.2.1 116 p.toNatClampNeg)) 96 p.toNatClampNeg (h.2.1 117 p.toNatClampNeg)) from hs) rfl) ?_
    refine e_iload_n (show pAt 185 106 = some (106, .iload_n 1, 1, []) from by decide +kernel) rfl ?_
    refine e_aload_n (show pAt 185 107 = some (107, .aload_n 0, 1, []) from by decide +kernel) rfl (ra (by decide)) ?_
    refine e_gR (show pAt 185 108 = some (108, .getfield 175, 3, [7, 54, 0, 4177]) from by decide +kernel) (show HS (hpI (hpI (hpI h 94 p.toNatClampNeg (h.2.1 115 p.toNatClampNeg)) 95 p.toNatClampNeg (h.2.1 116 p.toNatClampNeg)) 96 p.toNatClampNeg (h.2.1 117 p.toNatClampNeg)) from hs) rfl (by decide) (hs_ref (show HS (hpI (hpI (hpI h 94 p.toNatClampNeg (h.2.1 115 p.toNatClampNeg)) 95 p.toNatClampNeg (h.2.1 116 p.toNatClampNeg)) 96 p.toNatClampNeg (h.2.1 117 p.toNatClampNeg)) from hs) rfl) ?_
    refine e_iload_n (show pAt 185 111 = some (111, .iload_n 1, 1, []) from by decide +kernel) rfl ?_
    obtain ⟨c8, vc⟩ := vc
    refine e_aldv (v := h.2.1 118 p.toNatClampNeg) (show pAt 185 112 = some (112, .iaload, 1, []) from by decide +kernel) (show HS (hpI (hpI (hpI h 94 p.toNatClampNeg (h.2.1 115 p.toNatClampNeg)) 95 p.toNatClampNeg (h.2.1 116 p.toNatClampNeg)) 96 p.toNatClampNeg (h.2.1 117 p.toNatClampNeg)) from hs) (by decide) c8 rfl ?_
    obtain ⟨c9, vc⟩ := vc
    refine e_ast (show pAt 185 113 = some (113, .iastore, 1, []) from by decide +kernel) (show HS (hpI (hpI (hpI h 94 p.toNatClampNeg (h.2.1 115 p.toNatClampNeg)) 95 p.toNatClampNeg (h.2.1 116 p.toNatClampNeg)) 96 p.toNatClampNeg (h.2.1 117 p.toNatClampNeg)) from hs) (by decide) c9 ?_
    refine e_aload_n (show pAt 185 114 = some (114, .aload_n 0, 1, []) from by decide +kernel) rfl (ra (by decide)) ?_
    refine e_gR (show pAt 185 115 = some (115, .getfield 32, 3, [7, 7, 0, 4130]) from by decide +kernel) (show HS (hpI (hpI (hpI (hpI h 94 p.toNatClampNeg (h.2.1 115 p.toNatClampNeg)) 95 p.toNatClampNeg (h.2.1 116 p.toNatClampNeg)) 96 p.toNatClampNeg (h.2.1 117 p.toNatClampNeg)) 97 p.toNatClampNeg (h.2.1 118 p.toNatClampNeg)) from hs) rfl (by decide) (hs_ref (show HS (hpI (hpI (hpI (hpI h 94 p.toNatClampNeg (h.2.1 115 p.toNatClampNeg)) 95 p.toNatClampNeg (h.2.1 116 p.toNatClampNeg)) 96 p.toNatClampNeg (h.2.1 117 p.toNatClampNeg)) 97 p.toNatClampNeg (h.2.1 118 p.toNatClampNeg)) from hs) rfl) ?_
    refine e_iload_n (show pAt 185 118 = some (118, .iload_n 1, 1, []) from by decide +kernel) rfl ?_
    refine e_aload_n (show pAt 185 119 = some (119, .aload_n 0, 1, []) from by decide +kernel) rfl (ra (by decide)) ?_
    refine e_gR (show pAt 185 120 = some (120, .getfield 178, 3, [7, 55, 0, 4178]) from by decide +kernel) (show HS (hpI (hpI (hpI (hpI h 94 p.toNatClampNeg (h.2.1 115 p.toNatClampNeg)) 95 p.toNatClampNeg (h.2.1 116 p.toNatClampNeg)) 96 p.toNatClampNeg (h.2.1 117 p.toNatClampNeg)) 97 p.toNatClampNeg (h.2.1 118 p.toNatClampNeg)) from hs) rfl (by decide) (hs_ref (show HS (hpI (hpI (hpI (hpI h 94 p.toNatClampNeg (h.2.1 115 p.toNatClampNeg)) 95 p.toNatClampNeg (h.2.1 116 p.toNatClampNeg)) 96 p.toNatClampNeg (h.2.1 117 p.toNatClampNeg)) 97 p.toNatClampNeg (h.2.1 118 p.toNatClampNeg)) from hs) rfl) ?_
    refine e_iload_n (show pAt 185 123 = some (123, .iload_n 1, 1, []) from by decide +kernel) rfl ?_
    obtain ⟨c10, vc⟩ := vc
    refine e_aldv (v := h.2.1 119 p.toNatClampNeg) (show pAt 185 124 = some (124, .iaload, 1, []) from by decide +kernel) (show HS (hpI (hpI (hpI (hpI h 94 p.toNatClampNeg (h.2.1 115 p.toNatClampNeg)) 95 p.toNatClampNeg (h.2.1 116 p.toNatClampNeg)) 96 p.toNatClampNeg (h.2.1 117 p.toNatClampNeg)) 97 p.toNatClampNeg (h.2.1 118 p.toNatClampNeg)) from hs) (by decide) c10 rfl ?_
    obtain ⟨c11, vc⟩ := vc
    refine e_ast (show pAt 185 125 = some (125, .iastore, 1, []) from by decide +kernel) (show HS (hpI (hpI (hpI (hpI h 94 p.toNatClampNeg (h.2.1 115 p.toNatClampNeg)) 95 p.toNatClampNeg (h.2.1 116 p.toNatClampNeg)) 96 p.toNatClampNeg (h.2.1 117 p.toNatClampNeg)) 97 p.toNatClampNeg (h.2.1 118 p.toNatClampNeg)) from hs) (by decide) c11 ?_
    refine e_iinc (c := 1) (show pAt 185 126 = some (126, .iinc 1 1, 3, []) from by decide +kernel) rfl rfl (by decide) rfl ?_
    refine e_goto (t := 60) (show pAt 185 129 = some (129, .goto (-69), 3, []) from by decide +kernel) rfl ?_
    exact vc

theorem w_mundo2 {X : Scr} {dp : Nat} {h : Hp} {Q : Option Value → Hp → Prop} (p : Int32) (hs : HS h)
    (vc : ((condB .ge p 28 = true → Ends X dp 185 160 [.ref 93, .int 0] [] h Q) ∧ (condB .ge p 28 = false → (inB p 28 = true ∧ (inB p 28 = true ∧ Ends X dp 185 134 [.ref 93, .int (p + 1)] [] (hpI h 99 p.toNatClampNeg (h.2.1 120 p.toNatClampNeg)) Q))))) :
    Ends X dp 185 134 [.ref 93, .int p] [] h Q := by
  have ra : ∀ {a : Nat}, a < 1000 → a ≤ OLDB := fun h => by have := OLDB_eq; omega
  refine e_iload_n (show pAt 185 134 = some (134, .iload_n 1, 1, []) from by decide +kernel) rfl ?_
  refine e_bipush (c := 28) (show pAt 185 135 = some (135, .bipush 28, 2, []) from by decide +kernel) (by decide) ?_
  refine e_icmp (t := 158) (show pAt 185 137 = some (137, .if_icmp .ge 21, 3, []) from by decide +kernel) rfl (fun c1 => ?_) (fun c1 => ?_)
  · replace vc := vc.1 c1
    refine e_iconst (c := 0) (show pAt 185 158 = some (158, .iconst 0, 1, []) from by decide +kernel) (by decide) ?_
    refine e_istore_n (show pAt 185 159 = some (159, .istore_n 1, 1, []) from by decide +kernel) ⟨Nat.le_of_ble_eq_true rfl, rfl⟩ rfl ?_
    exact vc
  · replace vc := vc.2 c1
    refine e_aload_n (show pAt 185 140 = some (140, .aload_n 0, 1, []) from by decide +kernel) rfl (ra (by decide)) ?_
    refine e_gR (show pAt 185 141 = some (141, .getfield 35, 3, [7, 8, 0, 4131]) from by decide +kernel) (show HS h from hs) rfl (by decide) (hs_ref (show HS h from hs) rfl) ?_
    refine e_iload_n (show pAt 185 144 = some (144, .iload_n 1, 1, []) from by decide +kernel) rfl ?_
    refine e_aload_n (show pAt 185 145 = some (145, .aload_n 0, 1, []) from by decide +kernel) rfl (ra (by decide)) ?_
    refine e_gR (show pAt 185 146 = some (146, .getfield 181, 3, [7, 56, 0, 4179]) from by decide +kernel) (show HS h from hs) rfl (by decide) (hs_ref (show HS h from hs) rfl) ?_
    refine e_iload_n (show pAt 185 149 = some (149, .iload_n 1, 1, []) from by decide +kernel) rfl ?_
    obtain ⟨c2, vc⟩ := vc
    refine e_aldv (v := h.2.1 120 p.toNatClampNeg) (show pAt 185 150 = some (150, .iaload, 1, []) from by decide +kernel) (show HS h from hs) (by decide) c2 rfl ?_
    obtain ⟨c3, vc⟩ := vc
    refine e_ast (show pAt 185 151 = some (151, .iastore, 1, []) from by decide +kernel) (show HS h from hs) (by decide) c3 ?_
    refine e_iinc (c := 1) (show pAt 185 152 = some (152, .iinc 1 1, 3, []) from by decide +kernel) rfl rfl (by decide) rfl ?_
    refine e_goto (t := 134) (show pAt 185 155 = some (155, .goto (-21), 3, []) from by decide +kernel) rfl ?_
    exact vc

theorem w_mundo3 {X : Scr} {dp : Nat} {h : Hp} {Q : Option Value → Hp → Prop} (p : Int32) (hs : HS h)
    (vc : ((condB .ge p 12 = true → Q (some (.int (h.2.1 93 0))) h) ∧ (condB .ge p 12 = false → (inB p 12 = true ∧ (inB p 12 = true ∧ Ends X dp 185 160 [.ref 93, .int (p + 1)] [] (hpI h 114 p.toNatClampNeg (h.2.1 121 p.toNatClampNeg)) Q))))) :
    Ends X dp 185 160 [.ref 93, .int p] [] h Q := by
  have ra : ∀ {a : Nat}, a < 1000 → a ≤ OLDB := fun h => by have := OLDB_eq; omega
  refine e_iload_n (show pAt 185 160 = some (160, .iload_n 1, 1, []) from by decide +kernel) rfl ?_
  refine e_bipush (c := 12) (show pAt 185 161 = some (161, .bipush 12, 2, []) from by decide +kernel) (by decide) ?_
  refine e_icmp (t := 184) (show pAt 185 163 = some (163, .if_icmp .ge 21, 3, []) from by decide +kernel) rfl (fun c1 => ?_) (fun c1 => ?_)
  · replace vc := vc.1 c1
    refine e_aload_n (show pAt 185 184 = some (184, .aload_n 0, 1, []) from by decide +kernel) rfl (ra (by decide)) ?_
    refine e_gIv (v := h.2.1 93 0) (show pAt 185 185 = some (185, .getfield 7, 3, [7, 0, 0, 4123]) from by decide +kernel) (show HS h from hs) rfl (by decide) rfl ?_
    exact e_retI (show pAt 185 188 = some (188, .ireturn, 1, []) from by decide +kernel) rfl vc
  · replace vc := vc.2 c1
    refine e_aload_n (show pAt 185 166 = some (166, .aload_n 0, 1, []) from by decide +kernel) rfl (ra (by decide)) ?_
    refine e_gR (show pAt 185 167 = some (167, .getfield 142, 3, [7, 43, 0, 4166]) from by decide +kernel) (show HS h from hs) rfl (by decide) (hs_ref (show HS h from hs) rfl) ?_
    refine e_iload_n (show pAt 185 170 = some (170, .iload_n 1, 1, []) from by decide +kernel) rfl ?_
    refine e_aload_n (show pAt 185 171 = some (171, .aload_n 0, 1, []) from by decide +kernel) rfl (ra (by decide)) ?_
    refine e_gR (show pAt 185 172 = some (172, .getfield 184, 3, [7, 57, 0, 4180]) from by decide +kernel) (show HS h from hs) rfl (by decide) (hs_ref (show HS h from hs) rfl) ?_
    refine e_iload_n (show pAt 185 175 = some (175, .iload_n 1, 1, []) from by decide +kernel) rfl ?_
    obtain ⟨c2, vc⟩ := vc
    refine e_aldv (v := h.2.1 121 p.toNatClampNeg) (show pAt 185 176 = some (176, .iaload, 1, []) from by decide +kernel) (show HS h from hs) (by decide) c2 rfl ?_
    obtain ⟨c3, vc⟩ := vc
    refine e_ast (show pAt 185 177 = some (177, .iastore, 1, []) from by decide +kernel) (show HS h from hs) (by decide) c3 ?_
    refine e_iinc (c := 1) (show pAt 185 178 = some (178, .iinc 1 1, 3, []) from by decide +kernel) rfl rfl (by decide) rfl ?_
    refine e_goto (t := 160) (show pAt 185 181 = some (181, .goto (-21), 3, []) from by decide +kernel) rfl ?_
    exact vc
