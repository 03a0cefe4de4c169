section JN87person
/-! person, image, undo of both sides: what is owed for them. -/
theorem w_isDigit {X : Scr} {dp : Nat} {h : Hp} {Q : Option Value → Hp → Prop} (n : Int32) (hs : HS h)
    (vc : ((condB .lt n 0 = true → Q (some (.int 0)) h) ∧ (condB .lt n 0 = false → ((condB .gt n 9 = true → Q (some (.int 0)) h) ∧ (condB .gt n 9 = false → Q (some (.int 1)) h))))) :
    Ends X dp 102 0 [.int n] [] h Q := by
  refine e_iload_n (show pAt 102 0 = some (0, .iload_n 0, 1, []) from by decide +kernel) rfl ?_
  refine e_if (t := 14) (show pAt 102 1 = some (1, .ifCond .lt 13, 3, []) from by decide +kernel) rfl (fun c1 => ?_) (fun c1 => ?_)
  · replace vc := vc.1 c1
    refine e_iconst (c := 0) (show pAt 102 14 = some (14, .iconst 0, 1, []) from by decide +kernel) (by decide) ?_
    exact e_retZ (show pAt 102 15 = some (15, .ireturn, 1, []) from by decide +kernel) rfl (by decide) vc
  · replace vc := vc.2 c1
    refine e_iload_n (show pAt 102 4 = some (4, .iload_n 0, 1, []) from by decide +kernel) rfl ?_
    refine e_bipush (c := 9) (show pAt 102 5 = some (5, .bipush 9, 2, []) from by decide +kernel) (by decide) ?_
    refine e_icmp (t := 14) (show pAt 102 7 = some (7, .if_icmp .gt 7, 3, []) from by decide +kernel) rfl (fun c2 => ?_) (fun c2 => ?_)
    · replace vc := vc.1 c2
      refine e_iconst (c := 0) (show pAt 102 14 = some (14, .iconst 0, 1, []) from by decide +kernel) (by decide) ?_
      exact e_retZ (show pAt 102 15 = some (15, .ireturn, 1, []) from by decide +kernel) rfl (by decide) vc
    · replace vc := vc.2 c2
      refine e_iconst (c := 1) (show pAt 102 10 = some (10, .iconst 1, 1, []) from by decide +kernel) (by decide) ?_
      refine e_goto (t := 15) (show pAt 102 11 = some (11, .goto 4, 3, []) from by decide +kernel) rfl ?_
      exact e_retZ (show pAt 102 15 = some (15, .ireturn, 1, []) from by decide +kernel) rfl (by decide) vc

theorem w_isLane {X : Scr} {dp : Nat} {h : Hp} {Q : Option Value → Hp → Prop} (n : Int32) (hs : HS h)
    (vc : ((condB .lt n 0 = true → Q (some (.int 0)) h) ∧ (condB .lt n 0 = false → ((condB .ge n 7 = true → Q (some (.int 0)) h) ∧ (condB .ge n 7 = false → Q (some (.int 1)) h))))) :
    Ends X dp 103 0 [.int n] [] h Q := by
  refine e_iload_n (show pAt 103 0 = some (0, .iload_n 0, 1, []) from by decide +kernel) rfl ?_
  refine e_if (t := 14) (show pAt 103 1 = some (1, .ifCond .lt 13, 3, []) from by decide +kernel) rfl (fun c1 => ?_) (fun c1 => ?_)
  · replace vc := vc.1 c1
    refine e_iconst (c := 0) (show pAt 103 14 = some (14, .iconst 0, 1, []) from by decide +kernel) (by decide) ?_
    exact e_retZ (show pAt 103 15 = some (15, .ireturn, 1, []) from by decide +kernel) rfl (by decide) vc
  · replace vc := vc.2 c1
    refine e_iload_n (show pAt 103 4 = some (4, .iload_n 0, 1, []) from by decide +kernel) rfl ?_
    refine e_bipush (c := 7) (show pAt 103 5 = some (5, .bipush 7, 2, []) from by decide +kernel) (by decide) ?_
    refine e_icmp (t := 14) (show pAt 103 7 = some (7, .if_icmp .ge 7, 3, []) from by decide +kernel) rfl (fun c2 => ?_) (fun c2 => ?_)
    · replace vc := vc.1 c2
      refine e_iconst (c := 0) (show pAt 103 14 = some (14, .iconst 0, 1, []) from by decide +kernel) (by decide) ?_
      exact e_retZ (show pAt 103 15 = some (15, .ireturn, 1, []) from by decide +kernel) rfl (by decide) vc
    · replace vc := vc.2 c2
      refine e_iconst (c := 1) (show pAt 103 10 = some (10, .iconst 1, 1, []) from by decide +kernel) (by decide) ?_
      refine e_goto (t := 15) (show pAt 103 11 = some (11, .goto 4, 3, []) from by decide +kernel) rfl ?_
      exact e_retZ (show pAt 103 15 = some (15, .ireturn, 1, []) from by decide +kernel) rfl (by decide) vc

theorem w_joins {X : Scr} {dp : Nat} {h : Hp} {Q : Option Value → Hp → Prop} (k : Int32) (v : Int32) (l : Int32) (p : Int32) (s : Int32) (hs : HS h)
    (vc : ((condB .lt (h.2.1 1 0) 0 = true → Q (some (.int (-4))) h) ∧ (condB .lt (h.2.1 1 0) 0 = false → ((condB .lt (h.2.1 1 0) 7 = true → (inB (h.2.1 1 0) 7 = true ∧ (inB (h.2.1 1 0) 7 = true ∧ (inB (h.2.1 1 0) 7 = true ∧ (inB (h.2.1 1 0) 7 = true ∧ (inB (h.2.1 1 0) 7 = true ∧ Q (some (.int (h.2.1 1 0))) (hpI (hpI (hpI (hpI (hpI (hpI h 2 (h.2.1 1 0).toNatClampNeg k) 3 (h.2.1 1 0).toNatClampNeg v) 4 (h.2.1 1 0).toNatClampNeg l) 5 (h.2.1 1 0).toNatClampNeg p) 6 (h.2.1 1 0).toNatClampNeg s) 1 0 ((h.2.1 1 0) + 1)))))))) ∧ (condB .lt (h.2.1 1 0) 7 = false → Q (some (.int (-4))) h))))) :
    Ends X dp 31 0 [.ref 1, .int k, .int v, .int l, .int p, .int s, .retAddr 0] [] h Q := by
  have ra : ∀ {a : Nat}, a < 1000 → a ≤ OLDB := fun h => by have := OLDB_eq; omega
  refine e_aload_n (show pAt 31 0 = some (0, .aload_n 0, 1, []) from by decide +kernel) rfl (ra (by decide)) ?_
  refine e_gIv (v := h.2.1 1 0) (show pAt 31 1 = some (1, .getfield 37, 3, [2, 0, 0, 1032]) from by decide +kernel) (show HS h from hs) rfl (by decide) rfl ?_
  refine e_istore (show pAt 31 4 = some (4, .istore 6, 2, []) from by decide +kernel) ⟨Nat.le_of_ble_eq_true rfl, rfl⟩ rfl ?_
  refine e_iload (show pAt 31 6 = some (6, .iload 6, 2, []) from by decide +kernel) rfl ?_
  refine e_if (t := 18) (show pAt 31 8 = some (8, .ifCond .lt 10, 3, []) from by decide +kernel) rfl (fun c1 => ?_) (fun c1 => ?_)
  · replace vc := vc.1 c1
    refine e_bipush (c := (-4)) (show pAt 31 18 = some (18, .bipush (-4), 2, []) from by decide +kernel) (by decide) ?_
    exact e_retI (show pAt 31 20 = some (20, .ireturn, 1, []) from by decide +kernel) rfl vc
  · replace vc := vc.2 c1
    refine e_iload (show pAt 31 11 = some (11, .iload 6, 2, []) from by decide +kernel) rfl ?_
    refine e_bipush (c := 7) (show pAt 31 13 = some (13, .bipush 7, 2, []) from by decide +kernel) (by decide) ?_
    refine e_icmp (t := 21) (show pAt 31 15 = some (15, .if_icmp .lt 6, 3, []) from by decide +kernel) rfl (fun c2 => ?_) (fun c2 => ?_)
    · replace vc := vc.1 c2
      refine e_aload_n (show pAt 31 21 = some (21, .aload_n 0, 1, []) from by decide +kernel) rfl (ra (by decide)) ?_
      refine e_gR (show pAt 31 22 = some (22, .getfield 9, 3, [2, 1, 0, 1034]) from by decide +kernel) (show HS h from hs) rfl (by decide) (hs_ref (show HS h from hs) rfl) ?_
      refine e_iload (show pAt 31 25 = some (25, .iload 6, 2, []) from by decide +kernel) rfl ?_
      refine e_iload_n (show pAt 31 27 = some (27, .iload_n 1, 1, []) from by decide +kernel) rfl ?_
      obtain ⟨c3, vc⟩ := vc
      refine e_ast (show pAt 31 28 = some (28, .iastore, 1, []) from by decide +kernel) (show HS h from hs) (by decide) c3 ?_
      refine e_aload_n (show pAt 31 29 = some (29, .aload_n 0, 1, []) from by decide +kernel) rfl (ra (by decide)) ?_
      refine e_gR (show pAt 31 30 = some (30, .getfield 15, 3, [2, 2, 0, 1037]) from by decide +kernel) (show HS (hpI h 2 (h.2.1 1 0).toNatClampNeg k) from hs) rfl (by decide) (hs_ref (show HS (hpI h 2 (h.2.1 1 0).toNatClampNeg k) from hs) rfl) ?_
      refine e_iload (show pAt 31 33 = some (33, .iload 6, 2, []) from by decide +kernel) rfl ?_
      refine e_iload_n (show pAt 31 35 = some (35, .iload_n 2, 1, []) from by decide +kernel) rfl ?_
      obtain ⟨c4, vc⟩ := vc
      refine e_ast (show pAt 31 36 = some (36, .iastore, 1, []) from by decide +kernel) (show HS (hpI h 2 (h.2.1 1 0).toNatClampNeg k) from hs) (by decide) c4 ?_
      refine e_aload_n (show pAt 31 37 = some (37, .aload_n 0, 1, []) from by decide +kernel) rfl (ra (by decide)) ?_
      refine e_gR (show pAt 31 38 = some (38, .getfield 18, 3, [2, 3, 0, 1040]) from by decide +kernel) (show HS (hpI (hpI h 2 (h.2.1 1 0).toNatClampNeg k) 3 (h.2.1 1 0).toNatClampNeg v) from hs) rfl (by decide) (hs_ref (show HS (hpI (hpI h 2 (h.2.1 1 0).toNatClampNeg k) 3 (h.2.1 1 0).toNatClampNeg v) from hs) rfl) ?_
      refine e_iload (show pAt 31 41 = some (41, .iload 6, 2, []) from by decide +kernel) rfl ?_
      refine e_iload_n (show pAt 31 43 = some (43, .iload_n 3, 1, []) from by decide +kernel) rfl ?_
      obtain ⟨c5, vc⟩ := vc
      refine e_ast (show pAt 31 44 = some (44, .iastore, 1, []) from by decide +kernel) (show HS (hpI (hpI h 2 (h.2.1 1 0).toNatClampNeg k) 3 (h.2.1 1 0).toNatClampNeg v) from hs) (by decide) c5 ?_
      refine e_aload_n (show pAt 31 45 = some (45, .aload_n 0, 1, []) from by decide +kernel) rfl (ra (by decide)) ?_
      refine e_gR (show pAt 31 46 = some (46, .getfield 21, 3, [2, 4, 0, 1043]) from by decide +kernel) (show HS (hpI (hpI (hpI h 2 (h.2.1 1 0).toNatClampNeg k) 3 (h.2.1 1 0).toNatClampNeg v) 4 (h.2.1 1 0).toNatClampNeg l) from hs) rfl (by decide) (hs_ref (show HS (hpI (hpI (hpI h 2 (h.2.1 1 0).toNatClampNeg k) 3 (h.2.1 1 0).toNatClampNeg v) 4 (h.2.1 1 0).toNatClampNeg l) from hs) rfl) ?_
      refine e_iload (show pAt 31 49 = some (49, .iload 6, 2, []) from by decide +kernel) rfl ?_
      refine e_iload (show pAt 31 51 = some (51, .iload 4, 2, []) from by decide +kernel) rfl ?_
      obtain ⟨c6, vc⟩ := vc
      refine e_ast (show pAt 31 53 = some (53, .iastore, 1, []) from by decide +kernel) (show HS (hpI (hpI (hpI h 2 (h.2.1 1 0).toNatClampNeg k) 3 (h.2.1 1 0).toNatClampNeg v) 4 (h.2.1 1 0).toNatClampNeg l) from hs) (by decide) c6 ?_
      refine e_aload_n (show pAt 31 54 = some (54, .aload_n 0, 1, []) from by decide +kernel) rfl (ra (by decide)) ?_
      refine e_gR (show pAt 31 55 = some (55, .getfield 24, 3, [2, 5, 0, 1046]) from by decide +kernel) (show HS (hpI (hpI (hpI (hpI h 2 (h.2.1 1 0).toNatClampNeg k) 3 (h.2.1 1 0).toNatClampNeg v) 4 (h.2.1 1 0).toNatClampNeg l) 5 (h.2.1 1 0).toNatClampNeg p) from hs) rfl (by decide) (hs_ref (show HS (hpI (hpI (hpI (hpI h 2 (h.2.1 1 0).toNatClampNeg k) 3 (h.2.1 1 0).toNatClampNeg v) 4 (h.2.1 1 0).toNatClampNeg l) 5 (h.2.1 1 0).toNatClampNeg p) from hs) rfl) ?_
      refine e_iload (show pAt 31 58 = some (58, .iload 6, 2, []) from by decide +kernel) rfl ?_
      refine e_iload (show pAt 31 60 = some (60, .iload 5, 2, []) from by decide +kernel) rfl ?_
      obtain ⟨c7, vc⟩ := vc
      refine e_ast (show pAt 31 62 = some (62, .iastore, 1, []) from by decide +kernel) (show HS (hpI (hpI (hpI (hpI h 2 (h.2.1 1 0).toNatClampNeg k) 3 (h.2.1 1 0).toNatClampNeg v) 4 (h.2.1 1 0).toNatClampNeg l) 5 (h.2.1 1 0).toNatClampNeg p) from hs) (by decide) c7 ?_
      refine e_aload_n (show pAt 31 63 = some (63, .aload_n 0, 1, []) from by decide +kernel) rfl (ra (by decide)) ?_
      refine e_dupR (show pAt 31 64 = some (64, .dup, 1, []) from by decide +kernel) ?_
      refine e_gIv (v := h.2.1 1 0) (show pAt 31 65 = some (65, .getfield 37, 3, [2, 0, 0, 1032]) from by decide +kernel) (show HS (hpI (hpI (hpI (hpI (hpI h 2 (h.2.1 1 0).toNatClampNeg k) 3 (h.2.1 1 0).toNatClampNeg v) 4 (h.2.1 1 0).toNatClampNeg l) 5 (h.2.1 1 0).toNatClampNeg p) 6 (h.2.1 1 0).toNatClampNeg s) from hs) rfl (by decide) rfl ?_
      refine e_iconst (c := 1) (show pAt 31 68 = some (68, .iconst 1, 1, []) from by decide +kernel) (by decide) ?_
      refine e_iadd (show pAt 31 69 = some (69, .iadd, 1, []) from by decide +kernel) ?_
      refine e_pI (show pAt 31 70 = some (70, .putfield 37, 3, [2, 0, 0, 1032]) from by decide +kernel) (show HS (hpI (hpI (hpI (hpI (hpI h 2 (h.2.1 1 0).toNatClampNeg k) 3 (h.2.1 1 0).toNatClampNeg v) 4 (h.2.1 1 0).toNatClampNeg l) 5 (h.2.1 1 0).toNatClampNeg p) 6 (h.2.1 1 0).toNatClampNeg s) from hs) (by decide) (Or.inl rfl) ?_
      refine e_iload (show pAt 31 73 = some (73, .iload 6, 2, []) from by decide +kernel) rfl ?_
      exact e_retI (show pAt 31 75 = some (75, .ireturn, 1, []) from by decide +kernel) rfl vc
    · replace vc := vc.2 c2
      refine e_bipush (c := (-4)) (show pAt 31 18 = some (18, .bipush (-4), 2, []) from by decide +kernel) (by decide) ?_
      exact e_retI (show pAt 31 20 = some (20, .ireturn, 1, []) from by decide +kernel) rfl vc

theorem w_cper {X : Scr} {dp : Nat} {h : Hp} {Q : Option Value → Hp → Prop} (k : Int32) (v : Int32) (l : Int32) (p : Int32) (s : Int32) (hs : HS h)
    (vc : ((condB .lt k 0 = true → Q (some (.int (-1))) h) ∧ (condB .lt k 0 = false → ((condB .lt k 7 = true → Ends X dp 102 0 [.int v] [] h (fun rv h3 => ∃ r4, rv = some (.int r4) ∧ HS h3 ∧ ((condB .eq r4 0 = true → Q (some (.int (-2))) h3) ∧ (condB .eq r4 0 = false → Ends X dp 103 0 [.int l] [] h3 (fun rv h7 => ∃ r8, rv = some (.int r8) ∧ HS h7 ∧ ((condB .eq r8 0 = true → Q (some (.int (-2))) h7) ∧ (condB .eq r8 0 = false → Ends X dp 102 0 [.int p] [] h7 (fun rv h11 => ∃ r12, rv = some (.int r12) ∧ HS h11 ∧ ((condB .eq r12 0 = true → Q (some (.int (-2))) h11) ∧ (condB .eq r12 0 = false → Ends X dp 102 0 [.int s] [] h11 (fun rv h15 => ∃ r16, rv = some (.int r16) ∧ HS h15 ∧ ((condB .ne r16 0 = true → Ends X dp 31 0 [.ref 1, .int k, .int v, .int l, .int p, .int s, .retAddr 0] [] h15 (fun rv h19 => ∃ r20, rv = some (.int r20) ∧ HS h19 ∧ Q (some (.int r20)) h19)) ∧ (condB .ne r16 0 = false → Q (some (.int (-2))) h15))))))))))))) ∧ (condB .lt k 7 = false → Q (some (.int (-1))) h))))) :
    Ends X (dp + 1) 63 0 [.ref 0, .int k, .int v, .int l, .int p, .int s] [] h Q := by
  have ra : ∀ {a : Nat}, a < 1000 → a ≤ OLDB := fun h => by have := OLDB_eq; omega
  refine e_iload_n (show pAt 63 0 = some (0, .iload_n 1, 1, []) from by decide +kernel) rfl ?_
  refine e_if (t := 10) (show pAt 63 1 = some (1, .ifCond .lt 9, 3, []) from by decide +kernel) rfl (fun c1 => ?_) (fun c1 => ?_)
  · replace vc := vc.1 c1
    refine e_iconst (c := (-1)) (show pAt 63 10 = some (10, .iconst (-1), 1, []) from by decide +kernel) (by decide) ?_
    exact e_retI (show pAt 63 11 = some (11, .ireturn, 1, []) from by decide +kernel) rfl vc
  · replace vc := vc.2 c1
    refine e_iload_n (show pAt 63 4 = some (4, .iload_n 1, 1, []) from by decide +kernel) rfl ?_
    refine e_bipush (c := 7) (show pAt 63 5 = some (5, .bipush 7, 2, []) from by decide +kernel) (by decide) ?_
    refine e_icmp (t := 12) (show pAt 63 7 = some (7, .if_icmp .lt 5, 3, []) from by decide +kernel) rfl (fun c2 => ?_) (fun c2 => ?_)
    · replace vc := vc.1 c2
      refine e_iload_n (show pAt 63 12 = some (12, .iload_n 2, 1, []) from by decide +kernel) rfl ?_
      refine Ends.call (show pAt 63 13 = some (13, .invokestatic 60, 3, [102, 1, 2, 0, 2057, 2058, 0]) from by decide +kernel) (isRet_none rfl) rfl rfl (Ends.mono vc ?_)
      rintro _ h3 ⟨r4, rfl, hs_h3, vc⟩
      refine e_if (t := 42) (show pAt 63 16 = some (16, .ifCond .eq 26, 3, []) from by decide +kernel) rfl (fun c6 => ?_) (fun c6 => ?_)
      · replace vc := vc.1 c6
        refine e_bipush (c := (-2)) (show pAt 63 42 = some (42, .bipush (-2), 2, []) from by decide +kernel) (by decide) ?_
        exact e_retI (show pAt 63 44 = some (44, .ireturn, 1, []) from by decide +kernel) rfl vc
      · replace vc := vc.2 c6
        refine e_iload_n (show pAt 63 19 = some (19, .iload_n 3, 1, []) from by decide +kernel) rfl ?_
        refine Ends.call (show pAt 63 20 = some (20, .invokestatic 64, 3, [103, 1, 2, 0, 2060, 2061, 0]) from by decide +kernel) (isRet_none rfl) rfl rfl (Ends.mono vc ?_)
        rintro _ h7 ⟨r8, rfl, hs_h7, vc⟩
        refine e_if (t := 42) (show pAt 63 23 = some (23, .ifCond .eq 19, 3, []) from by decide +kernel) rfl (fun c10 => ?_) (fun c10 => ?_)
        · replace vc := vc.1 c10
          refine e_bipush (c := (-2)) (show pAt 63 42 = some (42, .bipush (-2), 2, []) from by decide +kernel) (by decide) ?_
          exact e_retI (show pAt 63 44 = some (44, .ireturn, 1, []) from by decide +kernel) rfl vc
        · replace vc := vc.2 c10
          refine e_iload (show pAt 63 26 = some (26, .iload 4, 2, []) from by decide +kernel) rfl ?_
          refine Ends.call (show pAt 63 28 = some (28, .invokestatic 60, 3, [102, 1, 2, 0, 2057, 2058, 0]) from by decide +kernel) (isRet_none rfl) rfl rfl (Ends.mono vc ?_)
          rintro _ h11 ⟨r12, rfl, hs_h11, vc⟩
          refine e_if (t := 42) (show pAt 63 31 = some (31, .ifCond .eq 11, 3, []) from by decide +kernel) rfl (fun c14 => ?_) (fun c14 => ?_)
          · replace vc := vc.1 c14
            refine e_bipush (c := (-2)) (show pAt 63 42 = some (42, .bipush (-2), 2, []) from by decide +kernel) (by decide) ?_
            exact e_retI (show pAt 63 44 = some (44, .ireturn, 1, []) from by decide +kernel) rfl vc
          · replace vc := vc.2 c14
            refine e_iload (show pAt 63 34 = some (34, .iload 5, 2, []) from by decide +kernel) rfl ?_
            refine Ends.call (show pAt 63 36 = some (36, .invokestatic 60, 3, [102, 1, 2, 0, 2057, 2058, 0]) from by decide +kernel) (isRet_none rfl) rfl rfl (Ends.mono vc ?_)
            rintro _ h15 ⟨r16, rfl, hs_h15, vc⟩
            refine e_if (t := 45) (show pAt 63 39 = some (39, .ifCond .ne 6, 3, []) from by decide +kernel) rfl (fun c18 => ?_) (fun c18 => ?_)
            · replace vc := vc.1 c18
              refine e_aload_n (show pAt 63 45 = some (45, .aload_n 0, 1, []) from by decide +kernel) rfl (ra (by decide)) ?_
              refine e_gR (show pAt 63 46 = some (46, .getfield 12, 3, [6, 0, 0, 2022]) from by decide +kernel) (show HS h15 from hs_h15) rfl (by decide) (hs_ref (show HS h15 from hs_h15) rfl) ?_
              refine e_iload_n (show pAt 63 49 = some (49, .iload_n 1, 1, []) from by decide +kernel) rfl ?_
              refine e_iload_n (show pAt 63 50 = some (50, .iload_n 2, 1, []) from by decide +kernel) rfl ?_
              refine e_iload_n (show pAt 63 51 = some (51, .iload_n 3, 1, []) from by decide +kernel) rfl ?_
              refine e_iload (show pAt 63 52 = some (52, .iload 4, 2, []) from by decide +kernel) rfl ?_
              refine e_iload (show pAt 63 54 = some (54, .iload 5, 2, []) from by decide +kernel) rfl ?_
              refine Ends.call (show pAt 63 56 = some (56, .invokevirtual 67, 3, [31, 6, 0, 1, 2063, 2065, 0]) from by decide +kernel) (isRet_none rfl) rfl (call_this (show HS h15 from hs_h15) rfl rfl (by decide)) (Ends.mono vc ?_)
              rintro _ h19 ⟨r20, rfl, hs_h19, vc⟩
              exact e_retI (show pAt 63 59 = some (59, .ireturn, 1, []) from by decide +kernel) rfl vc
            · replace vc := vc.2 c18
              refine e_bipush (c := (-2)) (show pAt 63 42 = some (42, .bipush (-2), 2, []) from by decide +kernel) (by decide) ?_
              exact e_retI (show pAt 63 44 = some (44, .ireturn, 1, []) from by decide +kernel) rfl vc
    · replace vc := vc.2 c2
      refine e_iconst (c := (-1)) (show pAt 63 10 = some (10, .iconst (-1), 1, []) from by decide +kernel) (by decide) ?_
      exact e_retI (show pAt 63 11 = some (11, .ireturn, 1, []) from by decide +kernel) rfl vc

theorem w_bec91 {X : Scr} {dp : Nat} {h : Hp} {Q : Option Value → Hp → Prop}  (hs : HS h)
    (vc : Q none (hpI (hpI (hpM (hpI (hpI (hpI (hpM (hpM (hpM (hpM (hpM (hpM (hpI h 9 0 (h.2.1 1 0)) 10 2 0 0 7) 11 3 0 0 7) 12 4 0 0 7) 13 5 0 0 7) 14 6 0 0 7) 15 7 0 0 28) 9 7 (h.2.1 1 7)) 9 8 (h.2.1 1 8)) 9 9 (h.2.1 1 9)) 16 8 0 0 12) 9 11 (h.2.1 1 11)) 9 12 (h.2.1 1 12))) :
    Ends X dp 33 0 [.ref 9, .ref 1] [] h Q := by
  have ra : ∀ {a : Nat}, a < 1000 → a ≤ OLDB := fun h => by have := OLDB_eq; omega
  refine e_aload_n (show pAt 33 0 = some (0, .aload_n 0, 1, []) from by decide +kernel) rfl (ra (by decide)) ?_
  refine e_aload_n (show pAt 33 1 = some (1, .aload_n 1, 1, []) from by decide +kernel) rfl (ra (by decide)) ?_
  refine e_gIv (v := h.2.1 1 0) (show pAt 33 2 = some (2, .getfield 37, 3, [2, 0, 0, 1032]) from by decide +kernel) (show HS h from hs) rfl (by decide) rfl ?_
  refine e_pI (show pAt 33 5 = some (5, .putfield 37, 3, [2, 0, 0, 1032]) from by decide +kernel) (show HS h from hs) (by decide) (Or.inl rfl) ?_
  refine e_aload_n (show pAt 33 8 = some (8, .aload_n 1, 1, []) from by decide +kernel) rfl (ra (by decide)) ?_
  refine e_gR (show pAt 33 9 = some (9, .getfield 9, 3, [2, 1, 0, 1034]) from by decide +kernel) (show HS (hpI h 9 0 (h.2.1 1 0)) from hs) rfl (by decide) (hs_ref (show HS (hpI h 9 0 (h.2.1 1 0)) from hs) rfl) ?_
  refine e_iconst (c := 0) (show pAt 33 12 = some (12, .iconst 0, 1, []) from by decide +kernel) (by decide) ?_
  refine e_aload_n (show pAt 33 13 = some (13, .aload_n 0, 1, []) from by decide +kernel) rfl (ra (by decide)) ?_
  refine e_gR (show pAt 33 14 = some (14, .getfield 9, 3, [2, 1, 0, 1034]) from by decide +kernel) (show HS (hpI h 9 0 (h.2.1 1 0)) from hs) rfl (by decide) (hs_ref (show HS (hpI h 9 0 (h.2.1 1 0)) from hs) rfl) ?_
  refine e_iconst (c := 0) (show pAt 33 17 = some (17, .iconst 0, 1, []) from by decide +kernel) (by decide) ?_
  refine e_bipush (c := 7) (show pAt 33 18 = some (18, .bipush 7, 2, []) from by decide +kernel) (by decide) ?_
  refine e_cpyI (m := 7) (m' := 7) (sn := 0) (dn := 0) (nn := 7) (show pAt 33 20 = some (20, .invokestatic 57, 3, [9998, 5, 2, 0, 2098]) from by decide +kernel) (show HS (hpI h 9 0 (h.2.1 1 0)) from hs) (by decide) (by decide) ?_
  refine e_aload_n (show pAt 33 23 = some (23, .aload_n 1, 1, []) from by decide +kernel) rfl (ra (by decide)) ?_
  refine e_gR (show pAt 33 24 = some (24, .getfield 15, 3, [2, 2, 0, 1037]) from by decide +kernel) (show HS (hpM (hpI h 9 0 (h.2.1 1 0)) 10 2 0 0 7) from hs) rfl (by decide) (hs_ref (show HS (hpM (hpI h 9 0 (h.2.1 1 0)) 10 2 0 0 7) from hs) rfl) ?_
  refine e_iconst (c := 0) (show pAt 33 27 = some (27, .iconst 0, 1, []) from by decide +kernel) (by decide) ?_
  refine e_aload_n (show pAt 33 28 = some (28, .aload_n 0, 1, []) from by decide +kernel) rfl (ra (by decide)) ?_
  refine e_gR (show pAt 33 29 = some (29, .getfield 15, 3, [2, 2, 0, 1037]) from by decide +kernel) (show HS (hpM (hpI h 9 0 (h.2.1 1 0)) 10 2 0 0 7) from hs) rfl (by decide) (hs_ref (show HS (hpM (hpI h 9 0 (h.2.1 1 0)) 10 2 0 0 7) from hs) rfl) ?_
  refine e_iconst (c := 0) (show pAt 33 32 = some (32, .iconst 0, 1, []) from by decide +kernel) (by decide) ?_
  refine e_bipush (c := 7) (show pAt 33 33 = some (33, .bipush 7, 2, []) from by decide +kernel) (by decide) ?_
  refine e_cpyI (m := 7) (m' := 7) (sn := 0) (dn := 0) (nn := 7) (show pAt 33 35 = some (35, .invokestatic 57, 3, [9998, 5, 2, 0, 2098]) from by decide +kernel) (show HS (hpM (hpI h 9 0 (h.2.1 1 0)) 10 2 0 0 7) from hs) (by decide) (by decide) ?_
  refine e_aload_n (show pAt 33 38 = some (38, .aload_n 1, 1, []) from by decide +kernel) rfl (ra (by decide)) ?_
  refine e_gR (show pAt 33 39 = some (39, .getfield 18, 3, [2, 3, 0, 1040]) from by decide +kernel) (show HS (hpM (hpM (hpI h 9 0 (h.2.1 1 0)) 10 2 0 0 7) 11 3 0 0 7) from hs) rfl (by decide) (hs_ref (show HS (hpM (hpM (hpI h 9 0 (h.2.1 1 0)) 10 2 0 0 7) 11 3 0 0 7) from hs) rfl) ?_
  refine e_iconst (c := 0) (show pAt 33 42 = some (42, .iconst 0, 1, []) from by decide +kernel) (by decide) ?_
  refine e_aload_n (show pAt 33 43 = some (43, .aload_n 0, 1, []) from by decide +kernel) rfl (ra (by decide)) ?_
  refine e_gR (show pAt 33 44 = some (44, .getfield 18, 3, [2, 3, 0, 1040]) from by decide +kernel) (show HS (hpM (hpM (hpI h 9 0 (h.2.1 1 0)) 10 2 0 0 7) 11 3 0 0 7) from hs) rfl (by decide) (hs_ref (show HS (hpM (hpM (hpI h 9 0 (h.2.1 1 0)) 10 2 0 0 7) 11 3 0 0 7) from hs) rfl) ?_
  refine e_iconst (c := 0) (show pAt 33 47 = some (47, .iconst 0, 1, []) from by decide +kernel) (by decide) ?_
  refine e_bipush (c := 7) (show pAt 33 48 = some (48, .bipush 7, 2, []) from by decide +kernel) (by decide) ?_
  refine e_cpyI (m := 7) (m' := 7) (sn := 0) (dn := 0) (nn := 7) (show pAt 33 50 = some (50, .invokestatic 57, 3, [9998, 5, 2, 0, 2098]) from by decide +kernel) (show HS (hpM (hpM (hpI h 9 0 (h.2.1 1 0)) 10 2 0 0 7) 11 3 0 0 7) from hs) (by decide) (by decide) ?_
  refine e_aload_n (show pAt 33 53 = some (53, .aload_n 1, 1, []) from by decide +kernel) rfl (ra (by decide)) ?_
  refine e_gR (show pAt 33 54 = some (54, .getfield 21, 3, [2, 4, 0, 1043]) from by decide +kernel) (show HS (hpM (hpM (hpM (hpI h 9 0 (h.2.1 1 0)) 10 2 0 0 7) 11 3 0 0 7) 12 4 0 0 7) from hs) rfl (by decide) (hs_ref (show HS (hpM (hpM (hpM (hpI h 9 0 (h.2.1 1 0)) 10 2 0 0 7) 11 3 0 0 7) 12 4 0 0 7) from hs) rfl) ?_
  refine e_iconst (c := 0) (show pAt 33 57 = some (57, .iconst 0, 1, []) from by decide +kernel) (by decide) ?_
  refine e_aload_n (show pAt 33 58 = some (58, .aload_n 0, 1, []) from by decide +kernel) rfl (ra (by decide)) ?_
  refine e_gR (show pAt 33 59 = some (59, .getfield 21, 3, [2, 4, 0, 1043]) from by decide +kernel) (show HS (hpM (hpM (hpM (hpI h 9 0 (h.2.1 1 0)) 10 2 0 0 7) 11 3 0 0 7) 12 4 0 0 7) from hs) rfl (by decide) (hs_ref (show HS (hpM (hpM (hpM (hpI h 9 0 (h.2.1 1 0)) 10 2 0 0 7) 11 3 0 0 7) 12 4 0 0 7) from hs) rfl) ?_
  refine e_iconst (c := 0) (show pAt 33 62 = some (62, .iconst 0, 1, []) from by decide +kernel) (by decide) ?_
  refine e_bipush (c := 7) (show pAt 33 63 = some (63, .bipush 7, 2, []) from by decide +kernel) (by decide) ?_
  refine e_cpyI (m := 7) (m' := 7) (sn := 0) (dn := 0) (nn := 7) (show pAt 33 65 = some (65, .invokestatic 57, 3, [9998, 5, 2, 0, 2098]) from by decide +kernel) (show HS (hpM (hpM (hpM (hpI h 9 0 (h.2.1 1 0)) 10 2 0 0 7) 11 3 0 0 7) 12 4 0 0 7) from hs) (by decide) (by decide) ?_
  refine e_aload_n (show pAt 33 68 = some (68, .aload_n 1, 1, []) from by decide +kernel) rfl (ra (by decide)) ?_
  refine e_gR (show pAt 33 69 = some (69, .getfield 24, 3, [2, 5, 0, 1046]) from by decide +kernel) (show HS (hpM (hpM (hpM (hpM (hpI h 9 0 (h.2.1 1 0)) 10 2 0 0 7) 11 3 0 0 7) 12 4 0 0 7) 13 5 0 0 7) from hs) rfl (by decide) (hs_ref (show HS (hpM (hpM (hpM (hpM (hpI h 9 0 (h.2.1 1 0)) 10 2 0 0 7) 11 3 0 0 7) 12 4 0 0 7) 13 5 0 0 7) from hs) rfl) ?_
  refine e_iconst (c := 0) (show pAt 33 72 = some (72, .iconst 0, 1, []) from by decide +kernel) (by decide) ?_
  refine e_aload_n (show pAt 33 73 = some (73, .aload_n 0, 1, []) from by decide +kernel) rfl (ra (by decide)) ?_
  refine e_gR (show pAt 33 74 = some (74, .getfield 24, 3, [2, 5, 0, 1046]) from by decide +kernel) (show HS (hpM (hpM (hpM (hpM (hpI h 9 0 (h.2.1 1 0)) 10 2 0 0 7) 11 3 0 0 7) 12 4 0 0 7) 13 5 0 0 7) from hs) rfl (by decide) (hs_ref (show HS (hpM (hpM (hpM (hpM (hpI h 9 0 (h.2.1 1 0)) 10 2 0 0 7) 11 3 0 0 7) 12 4 0 0 7) 13 5 0 0 7) from hs) rfl) ?_
  refine e_iconst (c := 0) (show pAt 33 77 = some (77, .iconst 0, 1, []) from by decide +kernel) (by decide) ?_
  refine e_bipush (c := 7) (show pAt 33 78 = some (78, .bipush 7, 2, []) from by decide +kernel) (by decide) ?_
  refine e_cpyI (m := 7) (m' := 7) (sn := 0) (dn := 0) (nn := 7) (show pAt 33 80 = some (80, .invokestatic 57, 3, [9998, 5, 2, 0, 2098]) from by decide +kernel) (show HS (hpM (hpM (hpM (hpM (hpI h 9 0 (h.2.1 1 0)) 10 2 0 0 7) 11 3 0 0 7) 12 4 0 0 7) 13 5 0 0 7) from hs) (by decide) (by decide) ?_
  refine e_aload_n (show pAt 33 83 = some (83, .aload_n 1, 1, []) from by decide +kernel) rfl (ra (by decide)) ?_
  refine e_gR (show pAt 33 84 = some (84, .getfield 27, 3, [2, 6, 0, 1049]) from by decide +kernel) (show HS (hpM (hpM (hpM (hpM (hpM (hpI h 9 0 (h.2.1 1 0)) 10 2 0 0 7) 11 3 0 0 7) 12 4 0 0 7) 13 5 0 0 7) 14 6 0 0 7) from hs) rfl (by decide) (hs_ref (show HS (hpM (hpM (hpM (hpM (hpM (hpI h 9 0 (h.2.1 1 0)) 10 2 0 0 7) 11 3 0 0 7) 12 4 0 0 7) 13 5 0 0 7) 14 6 0 0 7) from hs) rfl) ?_
  refine e_iconst (c := 0) (show pAt 33 87 = some (87, .iconst 0, 1, []) from by decide +kernel) (by decide) ?_
  refine e_aload_n (show pAt 33 88 = some (88, .aload_n 0, 1, []) from by decide +kernel) rfl (ra (by decide)) ?_
  refine e_gR (show pAt 33 89 = some (89, .getfield 27, 3, [2, 6, 0, 1049]) from by decide +kernel) (show HS (hpM (hpM (hpM (hpM (hpM (hpI h 9 0 (h.2.1 1 0)) 10 2 0 0 7) 11 3 0 0 7) 12 4 0 0 7) 13 5 0 0 7) 14 6 0 0 7) from hs) rfl (by decide) (hs_ref (show HS (hpM (hpM (hpM (hpM (hpM (hpI h 9 0 (h.2.1 1 0)) 10 2 0 0 7) 11 3 0 0 7) 12 4 0 0 7) 13 5 0 0 7) 14 6 0 0 7) from hs) rfl) ?_
  refine e_iconst (c := 0) (show pAt 33 92 = some (92, .iconst 0, 1, []) from by decide +kernel) (by decide) ?_
  refine e_bipush (c := 28) (show pAt 33 93 = some (93, .bipush 28, 2, []) from by decide +kernel) (by decide) ?_
  refine e_cpyI (m := 28) (m' := 28) (sn := 0) (dn := 0) (nn := 28) (show pAt 33 95 = some (95, .invokestatic 57, 3, [9998, 5, 2, 0, 2098]) from by decide +kernel) (show HS (hpM (hpM (hpM (hpM (hpM (hpI h 9 0 (h.2.1 1 0)) 10 2 0 0 7) 11 3 0 0 7) 12 4 0 0 7) 13 5 0 0 7) 14 6 0 0 7) from hs) (by decide) (by decide) ?_
  refine e_aload_n (show pAt 33 98 = some (98, .aload_n 0, 1, []) from by decide +kernel) rfl (ra (by decide)) ?_
  refine e_aload_n (show pAt 33 99 = some (99, .aload_n 1, 1, []) from by decide +kernel) rfl (ra (by decide)) ?_
  refine e_gIv (v := h.2.1 1 7) (show pAt 33 100 = some (100, .getfield 40, 3, [2, 7, 0, 1052]) from by decide +kernel) (show HS (hpM (hpM (hpM (hpM (hpM (hpM (hpI h 9 0 (h.2.1 1 0)) 10 2 0 0 7) 11 3 0 0 7) 12 4 0 0 7) 13 5 0 0 7) 14 6 0 0 7) 15 7 0 0 28) from hs) rfl (by decide) rfl ?_
  refine e_pI (show pAt 33 103 = some (103, .putfield 40, 3, [2, 7, 0, 1052]) from by decide +kernel) (show HS (hpM (hpM (hpM (hpM (hpM (hpM (hpI h 9 0 (h.2.1 1 0)) 10 2 0 0 7) 11 3 0 0 7) 12 4 0 0 7) 13 5 0 0 7) 14 6 0 0 7) 15 7 0 0 28) from hs) (by decide) (Or.inl rfl) ?_
  refine e_aload_n (show pAt 33 106 = some (106, .aload_n 0, 1, []) from by decide +kernel) rfl (ra (by decide)) ?_
  refine e_aload_n (show pAt 33 107 = some (107, .aload_n 1, 1, []) from by decide +kernel) rfl (ra (by decide)) ?_
  refine e_gIv (v := h.2.1 1 8) (show pAt 33 108 = some (108, .getfield 63, 3, [2, 8, 0, 1057]) from by decide +kernel) (show HS (hpI (hpM (hpM (hpM (hpM (hpM (hpM (hpI h 9 0 (h.2.1 1 0)) 10 2 0 0 7) 11 3 0 0 7) 12 4 0 0 7) 13 5 0 0 7) 14 6 0 0 7) 15 7 0 0 28) 9 7 (h.2.1 1 7)) from hs) rfl (by decide) rfl ?_
  refine e_pI (show pAt 33 111 = some (111, .putfield 63, 3, [2, 8, 0, 1057]) from by decide +kernel) (show HS (hpI (hpM (hpM (hpM (hpM (hpM (hpM (hpI h 9 0 (h.2.1 1 0)) 10 2 0 0 7) 11 3 0 0 7) 12 4 0 0 7) 13 5 0 0 7) 14 6 0 0 7) 15 7 0 0 28) 9 7 (h.2.1 1 7)) from hs) (by decide) (Or.inl rfl) ?_
  refine e_aload_n (show pAt 33 114 = some (114, .aload_n 0, 1, []) from by decide +kernel) rfl (ra (by decide)) ?_
  refine e_aload_n (show pAt 33 115 = some (115, .aload_n 1, 1, []) from by decide +kernel) rfl (ra (by decide)) ?_
  refine e_gIv (v := h.2.1 1 9) (show pAt 33 116 = some (116, .getfield 66, 3, [2, 9, 0, 1058]) from by decide +kernel) (show HS (hpI (hpI (hpM (hpM (hpM (hpM (hpM (hpM (hpI h 9 0 (h.2.1 1 0)) 10 2 0 0 7) 11 3 0 0 7) 12 4 0 0 7) 13 5 0 0 7) 14 6 0 0 7) 15 7 0 0 28) 9 7 (h.2.1 1 7)) 9 8 (h.2.1 1 8)) from hs) rfl (by decide) rfl ?_
  refine e_pI (show pAt 33 119 = some (119, .putfield 66, 3, [2, 9, 0, 1058]) from by decide +kernel) (show HS (hpI (hpI (hpM (hpM (hpM (hpM (hpM (hpM (hpI h 9 0 (h.2.1 1 0)) 10 2 0 0 7) 11 3 0 0 7) 12 4 0 0 7) 13 5 0 0 7) 14 6 0 0 7) 15 7 0 0 28) 9 7 (h.2.1 1 7)) 9 8 (h.2.1 1 8)) from hs) (by decide) (Or.inl rfl) ?_
  refine e_aload_n (show pAt 33 122 = some (122, .aload_n 1, 1, []) from by decide +kernel) rfl (ra (by decide)) ?_
  refine e_gR (show pAt 33 123 = some (123, .getfield 30, 3, [2, 10, 0, 1060]) from by decide +kernel) (show HS (hpI (hpI (hpI (hpM (hpM (hpM (hpM (hpM (hpM (hpI h 9 0 (h.2.1 1 0)) 10 2 0 0 7) 11 3 0 0 7) 12 4 0 0 7) 13 5 0 0 7) 14 6 0 0 7) 15 7 0 0 28) 9 7 (h.2.1 1 7)) 9 8 (h.2.1 1 8)) 9 9 (h.2.1 1 9)) from hs) rfl (by decide) (hs_ref (show HS (hpI (hpI (hpI (hpM (hpM (hpM (hpM (hpM (hpM (hpI h 9 0 (h.2.1 1 0)) 10 2 0 0 7) 11 3 0 0 7) 12 4 0 0 7) 13 5 0 0 7) 14 6 0 0 7) 15 7 0 0 28) 9 7 (h.2.1 1 7)) 9 8 (h.2.1 1 8)) 9 9 (h.2.1 1 9)) from hs) rfl) ?_
  refine e_iconst (c := 0) (show pAt 33 126 = some (126, .iconst 0, 1, []) from by decide +kernel) (by decide) ?_
  refine e_aload_n (show pAt 33 127 = some (127, .aload_n 0, 1, []) from by decide +kernel) rfl (ra (by decide)) ?_
  refine e_gR (show pAt 33 128 = some (128, .getfield 30, 3, [2, 10, 0, 1060]) from by decide +kernel) (show HS (hpI (hpI (hpI (hpM (hpM (hpM (hpM (hpM (hpM (hpI h 9 0 (h.2.1 1 0)) 10 2 0 0 7) 11 3 0 0 7) 12 4 0 0 7) 13 5 0 0 7) 14 6 0 0 7) 15 7 0 0 28) 9 7 (h.2.1 1 7)) 9 8 (h.2.1 1 8)) 9 9 (h.2.1 1 9)) from hs) rfl (by decide) (hs_ref (show HS (hpI (hpI (hpI (hpM (hpM (hpM (hpM (hpM (hpM (hpI h 9 0 (h.2.1 1 0)) 10 2 0 0 7) 11 3 0 0 7) 12 4 0 0 7) 13 5 0 0 7) 14 6 0 0 7) 15 7 0 0 28) 9 7 (h.2.1 1 7)) 9 8 (h.2.1 1 8)) 9 9 (h.2.1 1 9)) from hs) rfl) ?_
  refine e_iconst (c := 0) (show pAt 33 131 = some (131, .iconst 0, 1, []) from by decide +kernel) (by decide) ?_
  refine e_bipush (c := 12) (show pAt 33 132 = some (132, .bipush 12, 2, []) from by decide +kernel) (by decide) ?_
  refine e_cpyI (m := 12) (m' := 12) (sn := 0) (dn := 0) (nn := 12) (show pAt 33 134 = some (134, .invokestatic 57, 3, [9998, 5, 2, 0, 2098]) from by decide +kernel) (show HS (hpI (hpI (hpI (hpM (hpM (hpM (hpM (hpM (hpM (hpI h 9 0 (h.2.1 1 0)) 10 2 0 0 7) 11 3 0 0 7) 12 4 0 0 7) 13 5 0 0 7) 14 6 0 0 7) 15 7 0 0 28) 9 7 (h.2.1 1 7)) 9 8 (h.2.1 1 8)) 9 9 (h.2.1 1 9)) from hs) (by decide) (by decide) ?_
  refine e_aload_n (show pAt 33 137 = some (137, .aload_n 0, 1, []) from by decide +kernel) rfl (ra (by decide)) ?_
  refine e_aload_n (show pAt 33 138 = some (138, .aload_n 1, 1, []) from by decide +kernel) rfl (ra (by decide)) ?_
  refine e_gIv (v := h.2.1 1 11) (show pAt 33 139 = some (139, .getfield 69, 3, [2, 11, 0, 1062]) from by decide +kernel) (show HS (hpM (hpI (hpI (hpI (hpM (hpM (hpM (hpM (hpM (hpM (hpI h 9 0 (h.2.1 1 0)) 10 2 0 0 7) 11 3 0 0 7) 12 4 0 0 7) 13 5 0 0 7) 14 6 0 0 7) 15 7 0 0 28) 9 7 (h.2.1 1 7)) 9 8 (h.2.1 1 8)) 9 9 (h.2.1 1 9)) 16 8 0 0 12) from hs) rfl (by decide) rfl ?_
  refine e_pI (show pAt 33 142 = some (142, .putfield 69, 3, [2, 11, 0, 1062]) from by decide +kernel) (show HS (hpM (hpI (hpI (hpI (hpM (hpM (hpM (hpM (hpM (hpM (hpI h 9 0 (h.2.1 1 0)) 10 2 0 0 7) 11 3 0 0 7) 12 4 0 0 7) 13 5 0 0 7) 14 6 0 0 7) 15 7 0 0 28) 9 7 (h.2.1 1 7)) 9 8 (h.2.1 1 8)) 9 9 (h.2.1 1 9)) 16 8 0 0 12) from hs) (by decide) (Or.inl rfl) ?_
  refine e_aload_n (show pAt 33 145 = some (145, .aload_n 0, 1, []) from by decide +kernel) rfl (ra (by decide)) ?_
  refine e_aload_n (show pAt 33 146 = some (146, .aload_n 1, 1, []) from by decide +kernel) rfl (ra (by decide)) ?_
  refine e_gIv (v := h.2.1 1 12) (show pAt 33 147 = some (147, .getfield 33, 3, [2, 12, 0, 1064]) from by decide +kernel) (show HS (hpI (hpM (hpI (hpI (hpI (hpM (hpM (hpM (hpM (hpM (hpM (hpI h 9 0 (h.2.1 1 0)) 10 2 0 0 7) 11 3 0 0 7) 12 4 0 0 7) 13 5 0 0 7) 14 6 0 0 7) 15 7 0 0 28) 9 7 (h.2.1 1 7)) 9 8 (h.2.1 1 8)) 9 9 (h.2.1 1 9)) 16 8 0 0 12) 9 11 (h.2.1 1 11)) from hs) rfl (by decide) rfl ?_
  refine e_pI (show pAt 33 150 = some (150, .putfield 33, 3, [2, 12, 0, 1064]) from by decide +kernel) (show HS (hpI (hpM (hpI (hpI (hpI (hpM (hpM (hpM (hpM (hpM (hpM (hpI h 9 0 (h.2.1 1 0)) 10 2 0 0 7) 11 3 0 0 7) 12 4 0 0 7) 13 5 0 0 7) 14 6 0 0 7) 15 7 0 0 28) 9 7 (h.2.1 1 7)) 9 8 (h.2.1 1 8)) 9 9 (h.2.1 1 9)) 16 8 0 0 12) 9 11 (h.2.1 1 11)) from hs) (by decide) (Or.inl rfl) ?_
  exact e_retV (show pAt 33 153 = some (153, .return_, 1, []) from by decide +kernel) rfl vc

theorem w_bec19 {X : Scr} {dp : Nat} {h : Hp} {Q : Option Value → Hp → Prop}  (hs : HS h)
    (vc : Q none (hpI (hpI (hpM (hpI (hpI (hpI (hpM (hpM (hpM (hpM (hpM (hpM (hpI h 1 0 (h.2.1 9 0)) 2 10 0 0 7) 3 11 0 0 7) 4 12 0 0 7) 5 13 0 0 7) 6 14 0 0 7) 7 15 0 0 28) 1 7 (h.2.1 9 7)) 1 8 (h.2.1 9 8)) 1 9 (h.2.1 9 9)) 8 16 0 0 12) 1 11 (h.2.1 9 11)) 1 12 (h.2.1 9 12))) :
    Ends X dp 33 0 [.ref 1, .ref 9] [] h Q := by
  have ra : ∀ {a : Nat}, a < 1000 → a ≤ OLDB := fun h => by have := OLDB_eq; omega
  refine e_aload_n (show pAt 33 0 = some (0, .aload_n 0, 1, []) from by decide +kernel) rfl (ra (by decide)) ?_
  refine e_aload_n (show pAt 33 1 = some (1, .aload_n 1, 1, []) from by decide +kernel) rfl (ra (by decide)) ?_
  refine e_gIv (v := h.2.1 9 0) (show pAt 33 2 = some (2, .getfield 37, 3, [2, 0, 0, 1032]) from by decide +kernel) (show HS h from hs) rfl (by decide) rfl ?_
  refine e_pI (show pAt 33 5 = some (5, .putfield 37, 3, [2, 0, 0, 1032]) from by decide +kernel) (show HS h from hs) (by decide) (Or.inl rfl) ?_
  refine e_aload_n (show pAt 33 8 = some (8, .aload_n 1, 1, []) from by decide +kernel) rfl (ra (by decide)) ?_
  refine e_gR (show pAt 33 9 = some (9, .getfield 9, 3, [2, 1, 0, 1034]) from by decide +kernel) (show HS (hpI h 1 0 (h.2.1 9 0)) from hs) rfl (by decide) (hs_ref (show HS (hpI h 1 0 (h.2.1 9 0)) from hs) rfl) ?_
  refine e_iconst (c := 0) (show pAt 33 12 = some (12, .iconst 0, 1, []) from by decide +kernel) (by decide) ?_
  refine e_aload_n (show pAt 33 13 = some (13, .aload_n 0, 1, []) from by decide +kernel) rfl (ra (by decide)) ?_
  refine e_gR (show pAt 33 14 = some (14, .getfield 9, 3, [2, 1, 0, 1034]) from by decide +kernel) (show HS (hpI h 1 0 (h.2.1 9 0)) from hs) rfl (by decide) (hs_ref (show HS (hpI h 1 0 (h.2.1 9 0)) from hs) rfl) ?_
  refine e_iconst (c := 0) (show pAt 33 17 = some (17, .iconst 0, 1, []) from by decide +kernel) (by decide) ?_
  refine e_bipush (c := 7) (show pAt 33 18 = some (18, .bipush 7, 2, []) from by decide +kernel) (by decide) ?_
  refine e_cpyI (m := 7) (m' := 7) (sn := 0) (dn := 0) (nn := 7) (show pAt 33 20 = some (20, .invokestatic 57, 3, [9998, 5, 2, 0, 2098]) from by decide +kernel) (show HS (hpI h 1 0 (h.2.1 9 0)) from hs) (by decide) (by decide) ?_
  refine e_aload_n (show pAt 33 23 = some (23, .aload_n 1, 1, []) from by decide +kernel) rfl (ra (by decide)) ?_
  refine e_gR (show pAt 33 24 = some (24, .getfield 15, 3, [2, 2, 0, 1037]) from by decide +kernel) (show HS (hpM (hpI h 1 0 (h.2.1 9 0)) 2 10 0 0 7) from hs) rfl (by decide) (hs_ref (show HS (hpM (hpI h 1 0 (h.2.1 9 0)) 2 10 0 0 7) from hs) rfl) ?_
  refine e_iconst (c := 0) (show pAt 33 27 = some (27, .iconst 0, 1, []) from by decide +kernel) (by decide) ?_
  refine e_aload_n (show pAt 33 28 = some (28, .aload_n 0, 1, []) from by decide +kernel) rfl (ra (by decide)) ?_
  refine e_gR (show pAt 33 29 = some (29, .getfield 15, 3, [2, 2, 0, 1037]) from by decide +kernel) (show HS (hpM (hpI h 1 0 (h.2.1 9 0)) 2 10 0 0 7) from hs) rfl (by decide) (hs_ref (show HS (hpM (hpI h 1 0 (h.2.1 9 0)) 2 10 0 0 7) from hs) rfl) ?_
  refine e_iconst (c := 0) (show pAt 33 32 = some (32, .iconst 0, 1, []) from by decide +kernel) (by decide) ?_
  refine e_bipush (c := 7) (show pAt 33 33 = some (33, .bipush 7, 2, []) from by decide +kernel) (by decide) ?_
  refine e_cpyI (m := 7) (m' := 7) (sn := 0) (dn := 0) (nn := 7) (show pAt 33 35 = some (35, .invokestatic 57, 3, [9998, 5, 2, 0, 2098]) from by decide +kernel) (show HS (hpM (hpI h 1 0 (h.2.1 9 0)) 2 10 0 0 7) from hs) (by decide) (by decide) ?_
  refine e_aload_n (show pAt 33 38 = some (38, .aload_n 1, 1, []) from by decide +kernel) rfl (ra (by decide)) ?_
  refine e_gR (show pAt 33 39 = some (39, .getfield 18, 3, [2, 3, 0, 1040]) from by decide +kernel) (show HS (hpM (hpM (hpI h 1 0 (h.2.1 9 0)) 2 10 0 0 7) 3 11 0 0 7) from hs) rfl (by decide) (hs_ref (show HS (hpM (hpM (hpI h 1 0 (h.2.1 9 0)) 2 10 0 0 7) 3 11 0 0 7) from hs) rfl) ?_
  refine e_iconst (c := 0) (show pAt 33 42 = some (42, .iconst 0, 1, []) from by decide +kernel) (by decide) ?_
  refine e_aload_n (show pAt 33 43 = some (43, .aload_n 0, 1, []) from by decide +kernel) rfl (ra (by decide)) ?_
  refine e_gR (show pAt 33 44 = some (44, .getfield 18, 3, [2, 3, 0, 1040]) from by decide +kernel) (show HS (hpM (hpM (hpI h 1 0 (h.2.1 9 0)) 2 10 0 0 7) 3 11 0 0 7) from hs) rfl (by decide) (hs_ref (show HS (hpM (hpM (hpI h 1 0 (h.2.1 9 0)) 2 10 0 0 7) 3 11 0 0 7) from hs) rfl) ?_
  refine e_iconst (c := 0) (show pAt 33 47 = some (47, .iconst 0, 1, []) from by decide +kernel) (by decide) ?_
  refine e_bipush (c := 7) (show pAt 33 48 = some (48, .bipush 7, 2, []) from by decide +kernel) (by decide) ?_
  refine e_cpyI (m := 7) (m' := 7) (sn := 0) (dn := 0) (nn := 7) (show pAt 33 50 = some (50, .invokestatic 57, 3, [9998, 5, 2, 0, 2098]) from by decide +kernel) (show HS (hpM (hpM (hpI h 1 0 (h.2.1 9 0)) 2 10 0 0 7) 3 11 0 0 7) from hs) (by decide) (by decide) ?_
  refine e_aload_n (show pAt 33 53 = some (53, .aload_n 1, 1, []) from by decide +kernel) rfl (ra (by decide)) ?_
  refine e_gR (show pAt 33 54 = some (54, .getfield 21, 3, [2, 4, 0, 1043]) from by decide +kernel) (show HS (hpM (hpM (hpM (hpI h 1 0 (h.2.1 9 0)) 2 10 0 0 7) 3 11 0 0 7) 4 12 0 0 7) from hs) rfl (by decide) (hs_ref (show HS (hpM (hpM (hpM (hpI h 1 0 (h.2.1 9 0)) 2 10 0 0 7) 3 11 0 0 7) 4 12 0 0 7) from hs) rfl) ?_
  refine e_iconst (c := 0) (show pAt 33 57 = some (57, .iconst 0, 1, []) from by decide +kernel) (by decide) ?_
  refine e_aload_n (show pAt 33 58 = some (58, .aload_n 0, 1, []) from by decide +kernel) rfl (ra (by decide)) ?_
  refine e_gR (show pAt 33 59 = some (59, .getfield 21, 3, [2, 4, 0, 1043]) from by decide +kernel) (show HS (hpM (hpM (hpM (hpI h 1 0 (h.2.1 9 0)) 2 10 0 0 7) 3 11 0 0 7) 4 12 0 0 7) from hs) rfl (by decide) (hs_ref (show HS (hpM (hpM (hpM (hpI h 1 0 (h.2.1 9 0)) 2 10 0 0 7) 3 11 0 0 7) 4 12 0 0 7) from hs) rfl) ?_
  refine e_iconst (c := 0) (show pAt 33 62 = some (62, .iconst 0, 1, []) from by decide +kernel) (by decide) ?_
  refine e_bipush (c := 7) (show pAt 33 63 = some (63, .bipush 7, 2, []) from by decide +kernel) (by decide) ?_
  refine e_cpyI (m := 7) (m' := 7) (sn := 0) (dn := 0) (nn := 7) (show pAt 33 65 = some (65, .invokestatic 57, 3, [9998, 5, 2, 0, 2098]) from by decide +kernel) (show HS (hpM (hpM (hpM (hpI h 1 0 (h.2.1 9 0)) 2 10 0 0 7) 3 11 0 0 7) 4 12 0 0 7) from hs) (by decide) (by decide) ?_
  refine e_aload_n (show pAt 33 68 = some (68, .aload_n 1, 1, []) from by decide +kernel) rfl (ra (by decide)) ?_
  refine e_gR (show pAt 33 69 = some (69, .getfield 24, 3, [2, 5, 0, 1046]) from by decide +kernel) (show HS (hpM (hpM (hpM (hpM (hpI h 1 0 (h.2.1 9 0)) 2 10 0 0 7) 3 11 0 0 7) 4 12 0 0 7) 5 13 0 0 7) from hs) rfl (by decide) (hs_ref (show HS (hpM (hpM (hpM (hpM (hpI h 1 0 (h.2.1 9 0)) 2 10 0 0 7) 3 11 0 0 7) 4 12 0 0 7) 5 13 0 0 7) from hs) rfl) ?_
  refine e_iconst (c := 0) (show pAt 33 72 = some (72, .iconst 0, 1, []) from by decide +kernel) (by decide) ?_
  refine e_aload_n (show pAt 33 73 = some (73, .aload_n 0, 1, []) from by decide +kernel) rfl (ra (by decide)) ?_
  refine e_gR (show pAt 33 74 = some (74, .getfield 24, 3, [2, 5, 0, 1046]) from by decide +kernel) (show HS (hpM (hpM (hpM (hpM (hpI h 1 0 (h.2.1 9 0)) 2 10 0 0 7) 3 11 0 0 7) 4 12 0 0 7) 5 13 0 0 7) from hs) rfl (by decide) (hs_ref (show HS (hpM (hpM (hpM (hpM (hpI h 1 0 (h.2.1 9 0)) 2 10 0 0 7) 3 11 0 0 7) 4 12 0 0 7) 5 13 0 0 7) from hs) rfl) ?_
  refine e_iconst (c := 0) (show pAt 33 77 = some (77, .iconst 0, 1, []) from by decide +kernel) (by decide) ?_
  refine e_bipush (c := 7) (show pAt 33 78 = some (78, .bipush 7, 2, []) from by decide +kernel) (by decide) ?_
  refine e_cpyI (m := 7) (m' := 7) (sn := 0) (dn := 0) (nn := 7) (show pAt 33 80 = some (80, .invokestatic 57, 3, [9998, 5, 2, 0, 2098]) from by decide +kernel) (show HS (hpM (hpM (hpM (hpM (hpI h 1 0 (h.2.1 9 0)) 2 10 0 0 7) 3 11 0 0 7) 4 12 0 0 7) 5 13 0 0 7) from hs) (by decide) (by decide) ?_
  refine e_aload_n (show pAt 33 83 = some (83, .aload_n 1, 1, []) from by decide +kernel) rfl (ra (by decide)) ?_
  refine e_gR (show pAt 33 84 = some (84, .getfield 27, 3, [2, 6, 0, 1049]) from by decide +kernel) (show HS (hpM (hpM (hpM (hpM (hpM (hpI h 1 0 (h.2.1 9 0)) 2 10 0 0 7) 3 11 0 0 7) 4 12 0 0 7) 5 13 0 0 7) 6 14 0 0 7) from hs) rfl (by decide) (hs_ref (show HS (hpM (hpM (hpM (hpM (hpM (hpI h 1 0 (h.2.1 9 0)) 2 10 0 0 7) 3 11 0 0 7) 4 12 0 0 7) 5 13 0 0 7) 6 14 0 0 7) from hs) rfl) ?_
  refine e_iconst (c := 0) (show pAt 33 87 = some (87, .iconst 0, 1, []) from by decide +kernel) (by decide) ?_
  refine e_aload_n (show pAt 33 88 = some (88, .aload_n 0, 1, []) from by decide +kernel) rfl (ra (by decide)) ?_
  refine e_gR (show pAt 33 89 = some (89, .getfield 27, 3, [2, 6, 0, 1049]) from by decide +kernel) (show HS (hpM (hpM (hpM (hpM (hpM (hpI h 1 0 (h.2.1 9 0)) 2 10 0 0 7) 3 11 0 0 7) 4 12 0 0 7) 5 13 0 0 7) 6 14 0 0 7) from hs) rfl (by decide) (hs_ref (show HS (hpM (hpM (hpM (hpM (hpM (hpI h 1 0 (h.2.1 9 0)) 2 10 0 0 7) 3 11 0 0 7) 4 12 0 0 7) 5 13 0 0 7) 6 14 0 0 7) from hs) rfl) ?_
  refine e_iconst (c := 0) (show pAt 33 92 = some (92, .iconst 0, 1, []) from by decide +kernel) (by decide) ?_
  refine e_bipush (c := 28) (show pAt 33 93 = some (93, .bipush 28, 2, []) from by decide +kernel) (by decide) ?_
  refine e_cpyI (m := 28) (m' := 28) (sn := 0) (dn := 0) (nn := 28) (show pAt 33 95 = some (95, .invokestatic 57, 3, [9998, 5, 2, 0, 2098]) from by decide +kernel) (show HS (hpM (hpM (hpM (hpM (hpM (hpI h 1 0 (h.2.1 9 0)) 2 10 0 0 7) 3 11 0 0 7) 4 12 0 0 7) 5 13 0 0 7) 6 14 0 0 7) from hs) (by decide) (by decide) ?_
  refine e_aload_n (show pAt 33 98 = some (98, .aload_n 0, 1, []) from by decide +kernel) rfl (ra (by decide)) ?_
  refine e_aload_n (show pAt 33 99 = some (99, .aload_n 1, 1, []) from by decide +kernel) rfl (ra (by decide)) ?_
  refine e_gIv (v := h.2.1 9 7) (show pAt 33 100 = some (100, .getfield 40, 3, [2, 7, 0, 1052]) from by decide +kernel) (show HS (hpM (hpM (hpM (hpM (hpM (hpM (hpI h 1 0 (h.2.1 9 0)) 2 10 0 0 7) 3 11 0 0 7) 4 12 0 0 7) 5 13 0 0 7) 6 14 0 0 7) 7 15 0 0 28) from hs) rfl (by decide) rfl ?_
  refine e_pI (show pAt 33 103 = some (103, .putfield 40, 3, [2, 7, 0, 1052]) from by decide +kernel) (show HS (hpM (hpM (hpM (hpM (hpM (hpM (hpI h 1 0 (h.2.1 9 0)) 2 10 0 0 7) 3 11 0 0 7) 4 12 0 0 7) 5 13 0 0 7) 6 14 0 0 7) 7 15 0 0 28) from hs) (by decide) (Or.inl rfl) ?_
  refine e_aload_n (show pAt 33 106 = some (106, .aload_n 0, 1, []) from by decide +kernel) rfl (ra (by decide)) ?_
  refine e_aload_n (show pAt 33 107 = some (107, .aload_n 1, 1, []) from by decide +kernel) rfl (ra (by decide)) ?_
  refine e_gIv (v := h.2.1 9 8) (show pAt 33 108 = some (108, .getfield 63, 3, [2, 8, 0, 1057]) from by decide +kernel) (show HS (hpI (hpM (hpM (hpM (hpM (hpM (hpM (hpI h 1 0 (h.2.1 9 0)) 2 10 0 0 7) 3 11 0 0 7) 4 12 0 0 7) 5 13 0 0 7) 6 14 0 0 7) 7 15 0 0 28) 1 7 (h.2.1 9 7)) from hs) rfl (by decide) rfl ?_
  refine e_pI (show pAt 33 111 = some (111, .putfield 63, 3, [2, 8, 0, 1057]) from by decide +kernel) (show HS (hpI (hpM (hpM (hpM (hpM (hpM (hpM (hpI h 1 0 (h.2.1 9 0)) 2 10 0 0 7) 3 11 0 0 7) 4 12 0 0 7) 5 13 0 0 7) 6 14 0 0 7) 7 15 0 0 28) 1 7 (h.2.1 9 7)) from hs) (by decide) (Or.inl rfl) ?_
  refine e_aload_n (show pAt 33 114 = some (114, .aload_n 0, 1, []) from by decide +kernel) rfl (ra (by decide)) ?_
  refine e_aload_n (show pAt 33 115 = some (115, .aload_n 1, 1, []) from by decide +kernel) rfl (ra (by decide)) ?_
  refine e_gIv (v := h.2.1 9 9) (show pAt 33 116 = some (116, .getfield 66, 3, [2, 9, 0, 1058]) from by decide +kernel) (show HS (hpI (hpI (hpM (hpM (hpM (hpM (hpM (hpM (hpI h 1 0 (h.2.1 9 0)) 2 10 0 0 7) 3 11 0 0 7) 4 12 0 0 7) 5 13 0 0 7) 6 14 0 0 7) 7 15 0 0 28) 1 7 (h.2.1 9 7)) 1 8 (h.2.1 9 8)) from hs) rfl (by decide) rfl ?_
  refine e_pI (show pAt 33 119 = some (119, .putfield 66, 3, [2, 9, 0, 1058]) from by decide +kernel) (show HS (hpI (hpI (hpM (hpM (hpM (hpM (hpM (hpM (hpI h 1 0 (h.2.1 9 0)) 2 10 0 0 7) 3 11 0 0 7) 4 12 0 0 7) 5 13 0 0 7) 6 14 0 0 7) 7 15 0 0 28) 1 7 (h.2.1 9 7)) 1 8 (h.2.1 9 8)) from hs) (by decide) (Or.inl rfl) ?_
  refine e_aload_n (show pAt 33 122 = some (122, .aload_n 1, 1, []) from by decide +kernel) rfl (ra (by decide)) ?_
  refine e_gR (show pAt 33 123 = some (123, .getfield 30, 3, [2, 10, 0, 1060]) from by decide +kernel) (show HS (hpI (hpI (hpI (hpM (hpM (hpM (hpM (hpM (hpM (hpI h 1 0 (h.2.1 9 0)) 2 10 0 0 7) 3 11 0 0 7) 4 12 0 0 7) 5 13 0 0 7) 6 14 0 0 7) 7 15 0 0 28) 1 7 (h.2.1 9 7)) 1 8 (h.2.1 9 8)) 1 9 (h.2.1 9 9)) from hs) rfl (by decide) (hs_ref (show HS (hpI (hpI (hpI (hpM (hpM (hpM (hpM (hpM (hpM (hpI h 1 0 (h.2.1 9 0)) 2 10 0 0 7) 3 11 0 0 7) 4 12 0 0 7) 5 13 0 0 7) 6 14 0 0 7) 7 15 0 0 28) 1 7 (h.2.1 9 7)) 1 8 (h.2.1 9 8)) 1 9 (h.2.1 9 9)) from hs) rfl) ?_
  refine e_iconst (c := 0) (show pAt 33 126 = some (126, .iconst 0, 1, []) from by decide +kernel) (by decide) ?_
  refine e_aload_n (show pAt 33 127 = some (127, .aload_n 0, 1, []) from by decide +kernel) rfl (ra (by decide)) ?_
  refine e_gR (show pAt 33 128 = some (128, .getfield 30, 3, [2, 10, 0, 1060]) from by decide +kernel) (show HS (hpI (hpI (hpI (hpM (hpM (hpM (hpM (hpM (hpM (hpI h 1 0 (h.2.1 9 0)) 2 10 0 0 7) 3 11 0 0 7) 4 12 0 0 7) 5 13 0 0 7) 6 14 0 0 7) 7 15 0 0 28) 1 7 (h.2.1 9 7)) 1 8 (h.2.1 9 8)) 1 9 (h.2.1 9 9)) from hs) rfl (by decide) (hs_ref (show HS (hpI (hpI (hpI (hpM (hpM (hpM (hpM (hpM (hpM (hpI h 1 0 (h.2.1 9 0)) 2 10 0 0 7) 3 11 0 0 7) 4 12 0 0 7) 5 13 0 0 7) 6 14 0 0 7) 7 15 0 0 28) 1 7 (h.2.1 9 7)) 1 8 (h.2.1 9 8)) 1 9 (h.2.1 9 9)) from hs) rfl) ?_
  refine e_iconst (c := 0) (show pAt 33 131 = some (131, .iconst 0, 1, []) from by decide +kernel) (by decide) ?_
  refine e_bipush (c := 12) (show pAt 33 132 = some (132, .bipush 12, 2, []) from by decide +kernel) (by decide) ?_
  refine e_cpyI (m := 12) (m' := 12) (sn := 0) (dn := 0) (nn := 12) (show pAt 33 134 = some (134, .invokestatic 57, 3, [9998, 5, 2, 0, 2098]) from by decide +kernel) (show HS (hpI (hpI (hpI (hpM (hpM (hpM (hpM (hpM (hpM (hpI h 1 0 (h.2.1 9 0)) 2 10 0 0 7) 3 11 0 0 7) 4 12 0 0 7) 5 13 0 0 7) 6 14 0 0 7) 7 15 0 0 28) 1 7 (h.2.1 9 7)) 1 8 (h.2.1 9 8)) 1 9 (h.2.1 9 9)) from hs) (by decide) (by decide) ?_
  refine e_aload_n (show pAt 33 137 = some (137, .aload_n 0, 1, []) from by decide +kernel) rfl (ra (by decide)) ?_
  refine e_aload_n (show pAt 33 138 = some (138, .aload_n 1, 1, []) from by decide +kernel) rfl (ra (by decide)) ?_
  refine e_gIv (v := h.2.1 9 11) (show pAt 33 139 = some (139, .getfield 69, 3, [2, 11, 0, 1062]) from by decide +kernel) (show HS (hpM (hpI (hpI (hpI (hpM (hpM (hpM (hpM (hpM (hpM (hpI h 1 0 (h.2.1 9 0)) 2 10 0 0 7) 3 11 0 0 7) 4 12 0 0 7) 5 13 0 0 7) 6 14 0 0 7) 7 15 0 0 28) 1 7 (h.2.1 9 7)) 1 8 (h.2.1 9 8)) 1 9 (h.2.1 9 9)) 8 16 0 0 12) from hs) rfl (by decide) rfl ?_
  refine e_pI (show pAt 33 142 = some (142, .putfield 69, 3, [2, 11, 0, 1062]) from by decide +kernel) (show HS (hpM (hpI (hpI (hpI (hpM (hpM (hpM (hpM (hpM (hpM (hpI h 1 0 (h.2.1 9 0)) 2 10 0 0 7) 3 11 0 0 7) 4 12 0 0 7) 5 13 0 0 7) 6 14 0 0 7) 7 15 0 0 28) 1 7 (h.2.1 9 7)) 1 8 (h.2.1 9 8)) 1 9 (h.2.1 9 9)) 8 16 0 0 12) from hs) (by decide) (Or.inl rfl) ?_
  refine e_aload_n (show pAt 33 145 = some (145, .aload_n 0, 1, []) from by decide +kernel) rfl (ra (by decide)) ?_
  refine e_aload_n (show pAt 33 146 = some (146, .aload_n 1, 1, []) from by decide +kernel) rfl (ra (by decide)) ?_
  refine e_gIv (v := h.2.1 9 12) (show pAt 33 147 = some (147, .getfield 33, 3, [2, 12, 0, 1064]) from by decide +kernel) (show HS (hpI (hpM (hpI (hpI (hpI (hpM (hpM (hpM (hpM (hpM (hpM (hpI h 1 0 (h.2.1 9 0)) 2 10 0 0 7) 3 11 0 0 7) 4 12 0 0 7) 5 13 0 0 7) 6 14 0 0 7) 7 15 0 0 28) 1 7 (h.2.1 9 7)) 1 8 (h.2.1 9 8)) 1 9 (h.2.1 9 9)) 8 16 0 0 12) 1 11 (h.2.1 9 11)) from hs) rfl (by decide) rfl ?_
  refine e_pI (show pAt 33 150 = some (150, .putfield 33, 3, [2, 12, 0, 1064]) from by decide +kernel) (show HS (hpI (hpM (hpI (hpI (hpI (hpM (hpM (hpM (hpM (hpM (hpM (hpI h 1 0 (h.2.1 9 0)) 2 10 0 0 7) 3 11 0 0 7) 4 12 0 0 7) 5 13 0 0 7) 6 14 0 0 7) 7 15 0 0 28) 1 7 (h.2.1 9 7)) 1 8 (h.2.1 9 8)) 1 9 (h.2.1 9 9)) 8 16 0 0 12) 1 11 (h.2.1 9 11)) from hs) (by decide) (Or.inl rfl) ?_
  exact e_retV (show pAt 33 153 = some (153, .return_, 1, []) from by decide +kernel) rfl vc

theorem w_cimg {X : Scr} {dp : Nat} {h : Hp} {Q : Option Value → Hp → Prop}  (hs : HS h)
    (vc : Ends X dp 33 0 [.ref 9, .ref 1] [] h (fun rv h1 => rv = none ∧ HS h1 ∧ Q (some (.int (h1.2.1 1 0))) (hpI h1 0 2 1))) :
    Ends X (dp + 1) 89 0 [.ref 0] [] h Q := by
  have ra : ∀ {a : Nat}, a < 1000 → a ≤ OLDB := fun h => by have := OLDB_eq; omega
  refine e_aload_n (show pAt 89 0 = some (0, .aload_n 0, 1, []) from by decide +kernel) rfl (ra (by decide)) ?_
  refine e_gR (show pAt 89 1 = some (1, .getfield 18, 3, [6, 1, 0, 2023]) from by decide +kernel) (show HS h from hs) rfl (by decide) (hs_ref (show HS h from hs) rfl) ?_
  refine e_aload_n (show pAt 89 4 = some (4, .aload_n 0, 1, []) from by decide +kernel) rfl (ra (by decide)) ?_
  refine e_gR (show pAt 89 5 = some (5, .getfield 12, 3, [6, 0, 0, 2022]) from by decide +kernel) (show HS h from hs) rfl (by decide) (hs_ref (show HS h from hs) rfl) ?_
  refine Ends.call (show pAt 89 8 = some (8, .invokevirtual 209, 3, [33, 2, 0, 1, 4048, 2096, 6]) from by decide +kernel) (isRet_none rfl) rfl (call_this (show HS h from hs) rfl rfl (by decide)) (Ends.mono vc ?_)
  rintro _ h1 ⟨rfl, hs_h1, vc⟩
  refine e_aload_n (show pAt 89 11 = some (11, .aload_n 0, 1, []) from by decide +kernel) rfl (ra (by decide)) ?_
  refine e_iconst (c := 1) (show pAt 89 12 = some (12, .iconst 1, 1, []) from by decide +kernel) (by decide) ?_
  refine e_pI (show pAt 89 13 = some (13, .putfield 213, 3, [6, 2, 0, 2024]) from by decide +kernel) (show HS h1 from hs_h1) (by decide) (Or.inr (by decide)) ?_
  refine e_aload_n (show pAt 89 16 = some (16, .aload_n 0, 1, []) from by decide +kernel) rfl (ra (by decide)) ?_
  refine e_gR (show pAt 89 17 = some (17, .getfield 12, 3, [6, 0, 0, 2022]) from by decide +kernel) (show HS (hpI h1 0 2 1) from hs_h1) rfl (by decide) (hs_ref (show HS (hpI h1 0 2 1) from hs_h1) rfl) ?_
  refine e_gIv (v := h1.2.1 1 0) (show pAt 89 20 = some (20, .getfield 200, 3, [2, 0, 1, 1033]) from by decide +kernel) (show HS (hpI h1 0 2 1) from hs_h1) rfl (by decide) rfl ?_
  exact e_retI (show pAt 89 23 = some (23, .ireturn, 1, []) from by decide +kernel) rfl vc

theorem w_cund {X : Scr} {dp : Nat} {h : Hp} {Q : Option Value → Hp → Prop}  (hs : HS h)
    (vc : ((condB .ne (h.2.1 0 2) 0 = true → Ends X dp 33 0 [.ref 1, .ref 9] [] h (fun rv h2 => rv = none ∧ HS h2 ∧ Q (some (.int (h2.2.1 1 0))) h2)) ∧ (condB .ne (h.2.1 0 2) 0 = false → Q (some (.int (-3))) h))) :
    Ends X (dp + 1) 90 0 [.ref 0] [] h Q := by
  have ra : ∀ {a : Nat}, a < 1000 → a ≤ OLDB := fun h => by have := OLDB_eq; omega
  refine e_aload_n (show pAt 90 0 = some (0, .aload_n 0, 1, []) from by decide +kernel) rfl (ra (by decide)) ?_
  refine e_gIv (v := h.2.1 0 2) (show pAt 90 1 = some (1, .getfield 213, 3, [6, 2, 0, 2024]) from by decide +kernel) (show HS h from hs) rfl (by decide) rfl ?_
  refine e_if (t := 10) (show pAt 90 4 = some (4, .ifCond .ne 6, 3, []) from by decide +kernel) rfl (fun c1 => ?_) (fun c1 => ?_)
  · replace vc := vc.1 c1
    refine e_aload_n (show pAt 90 10 = some (10, .aload_n 0, 1, []) from by decide +kernel) rfl (ra (by decide)) ?_
    refine e_gR (show pAt 90 11 = some (11, .getfield 12, 3, [6, 0, 0, 2022]) from by decide +kernel) (show HS h from hs) rfl (by decide) (hs_ref (show HS h from hs) rfl) ?_
    refine e_aload_n (show pAt 90 14 = some (14, .aload_n 0, 1, []) from by decide +kernel) rfl (ra (by decide)) ?_
    refine e_gR (show pAt 90 15 = some (15, .getfield 18, 3, [6, 1, 0, 2023]) from by decide +kernel) (show HS h from hs) rfl (by decide) (hs_ref (show HS h from hs) rfl) ?_
    refine Ends.call (show pAt 90 18 = some (18, .invokevirtual 209, 3, [33, 2, 0, 1, 4048, 2096, 6]) from by decide +kernel) (isRet_none rfl) rfl (call_this (show HS h from hs) rfl rfl (by decide)) (Ends.mono vc ?_)
    rintro _ h2 ⟨rfl, hs_h2, vc⟩
    refine e_aload_n (show pAt 90 21 = some (21, .aload_n 0, 1, []) from by decide +kernel) rfl (ra (by decide)) ?_
    refine e_gR (show pAt 90 22 = some (22, .getfield 12, 3, [6, 0, 0, 2022]) from by decide +kernel) (show HS h2 from hs_h2) rfl (by decide) (hs_ref (show HS h2 from hs_h2) rfl) ?_
    refine e_gIv (v := h2.2.1 1 0) (show pAt 90 25 = some (25, .getfield 200, 3, [2, 0, 1, 1033]) from by decide +kernel) (show HS h2 from hs_h2) rfl (by decide) rfl ?_
    exact e_retI (show pAt 90 28 = some (28, .ireturn, 1, []) from by decide +kernel) rfl vc
  · replace vc := vc.2 c1
    refine e_bipush (c := (-3)) (show pAt 90 7 = some (7, .bipush (-3), 2, []) from by decide +kernel) (by decide) ?_
    exact e_retI (show pAt 90 9 = some (9, .ireturn, 1, []) from by decide +kernel) rfl vc

theorem w_mper0 {X : Scr} {dp : Nat} {h : Hp} {Q : Option Value → Hp → Prop} (k : Int32) (n : Int32) (l : Int32) (q : Int32) (s : Int32) (hs : HS h)
    (vc : Ends X dp 109 0 [.ref 93, .int k, .int 0, .int 6] [] h (fun rv h1 => ∃ r2, rv = some (.int r2) ∧ HS h1 ∧ ((condB .ne r2 0 = true → Ends X dp 109 0 [.ref 93, .int n, .int 0, .int 9] [] h1 (fun rv h5 => ∃ r6, rv = some (.int r6) ∧ HS h5 ∧ ((condB .eq r6 0 = true → Q (some (.int (-2))) h5) ∧ (condB .eq r6 0 = false → Ends X dp 109 0 [.ref 93, .int l, .int 0, .int 6] [] h5 (fun rv h9 => ∃ r10, rv = some (.int r10) ∧ HS h9 ∧ ((condB .eq r10 0 = true → Q (some (.int (-2))) h9) ∧ (condB .eq r10 0 = false → Ends X dp 109 0 [.ref 93, .int q, .int 0, .int 9] [] h9 (fun rv h13 => ∃ r14, rv = some (.int r14) ∧ HS h13 ∧ ((condB .eq r14 0 = true → Q (some (.int (-2))) h13) ∧ (condB .eq r14 0 = false → Ends X dp 109 0 [.ref 93, .int s, .int 0, .int 9] [] h13 (fun rv h17 => ∃ r18, rv = some (.int r18) ∧ HS h17 ∧ ((condB .ne r18 0 = true → ((condB .ne (h17.2.1 93 0) 7 = true → (inB (h17.2.1 93 0) 7 = true ∧ (inB (h17.2.1 93 0) 7 = true ∧ (inB (h17.2.1 93 0) 7 = true ∧ (inB (h17.2.1 93 0) 7 = true ∧ (inB (h17.2.1 93 0) 7 = true ∧ Ends X (dp + 1) 114 129 [.ref 93, .int k, .int n, .int l, .int q, .int s, .int 0] [] (hpI (hpI (hpI (hpI (hpI h17 94 (h17.2.1 93 0).toNatClampNeg k) 95 (h17.2.1 93 0).toNatClampNeg n) 96 (h17.2.1 93 0).toNatClampNeg l) 97 (h17.2.1 93 0).toNatClampNeg q) 98 (h17.2.1 93 0).toNatClampNeg s) Q)))))) ∧ (condB .ne (h17.2.1 93 0) 7 = false → Q (some (.int (-4))) h17))) ∧ (condB .ne r18 0 = false → Q (some (.int (-2))) h17))))))))))))) ∧ (condB .ne r2 0 = false → Q (some (.int (-1))) h1)))) :
    Ends X (dp + 1) 114 0 [.ref 93, .int k, .int n, .int l, .int q, .int s, .retAddr 0] [] h Q := by
  have ra : ∀ {a : Nat}, a < 1000 → a ≤ OLDB := fun h => by have := OLDB_eq; omega
  refine e_aload_n (show pAt 114 0 = some (0, .aload_n 0, 1, []) from by decide +kernel) rfl (ra (by decide)) ?_
  refine e_iload_n (show pAt 114 1 = some (1, .iload_n 1, 1, []) from by decide +kernel) rfl ?_
  refine e_iconst (c := 0) (show pAt 114 2 = some (2, .iconst 0, 1, []) from by decide +kernel) (by decide) ?_
  refine e_bipush (c := 6) (show pAt 114 3 = some (3, .bipush 6, 2, []) from by decide +kernel) (by decide) ?_
  refine Ends.call (show pAt 114 5 = some (5, .invokevirtual 206, 3, [109, 4, 0, 0, 5081, 5083, 54]) from by decide +kernel) (isRet_none rfl) rfl (call_this (show HS h from hs) rfl rfl (by decide)) (Ends.mono vc ?_)
  rintro _ h1 ⟨r2, rfl, hs_h1, vc⟩
  refine e_if (t := 13) (show pAt 114 8 = some (8, .ifCond .ne 5, 3, []) from by decide +kernel) rfl (fun c4 => ?_) (fun c4 => ?_)
  · replace vc := vc.1 c4
    refine e_aload_n (show pAt 114 13 = some (13, .aload_n 0, 1, []) from by decide +kernel) rfl (ra (by decide)) ?_
    refine e_iload_n (show pAt 114 14 = some (14, .iload_n 2, 1, []) from by decide +kernel) rfl ?_
    refine e_iconst (c := 0) (show pAt 114 15 = some (15, .iconst 0, 1, []) from by decide +kernel) (by decide) ?_
    refine e_bipush (c := 9) (show pAt 114 16 = some (16, .bipush 9, 2, []) from by decide +kernel) (by decide) ?_
    refine Ends.call (show pAt 114 18 = some (18, .invokevirtual 206, 3, [109, 4, 0, 0, 5081, 5083, 54]) from by decide +kernel) (isRet_none rfl) rfl (call_this (show HS h1 from hs_h1) rfl rfl (by decide)) (Ends.mono vc ?_)
    rintro _ h5 ⟨r6, rfl, hs_h5, vc⟩
    refine e_if (t := 59) (show pAt 114 21 = some (21, .ifCond .eq 38, 3, []) from by decide +kernel) rfl (fun c8 => ?_) (fun c8 => ?_)
    · replace vc := vc.1 c8
      refine e_bipush (c := (-2)) (show pAt 114 59 = some (59, .bipush (-2), 2, []) from by decide +kernel) (by decide) ?_
      exact e_retI (show pAt 114 61 = some (61, .ireturn, 1, []) from by decide +kernel) rfl vc
    · replace vc := vc.2 c8
      refine e_aload_n (show pAt 114 24 = some (24, .aload_n 0, 1, []) from by decide +kernel) rfl (ra (by decide)) ?_
      refine e_iload_n (show pAt 114 25 = some (25, .iload_n 3, 1, []) from by decide +kernel) rfl ?_
      refine e_iconst (c := 0) (show pAt 114 26 = some (26, .iconst 0, 1, []) from by decide +kernel) (by decide) ?_
      refine e_bipush (c := 6) (show pAt 114 27 = some (27, .bipush 6, 2, []) from by decide +kernel) (by decide) ?_
      refine Ends.call (show pAt 114 29 = some (29, .invokevirtual 206, 3, [109, 4, 0, 0, 5081, 5083, 54]) from by decide +kernel) (isRet_none rfl) rfl (call_this (show HS h5 from hs_h5) rfl rfl (by decide)) (Ends.mono vc ?_)
      rintro _ h9 ⟨r10, rfl, hs_h9, vc⟩
      refine e_if (t := 59) (show pAt 114 32 = some (32, .ifCond .eq 27, 3, []) from by decide +kernel) rfl (fun c12 => ?_) (fun c12 => ?_)
      · replace vc := vc.1 c12
        refine e_bipush (c := (-2)) (show pAt 114 59 = some (59, .bipush (-2), 2, []) from by decide +kernel) (by decide) ?_
        exact e_retI (show pAt 114 61 = some (61, .ireturn, 1, []) from by decide +kernel) rfl vc
      · replace vc := vc.2 c12
        refine e_aload_n (show pAt 114 35 = some (35, .aload_n 0, 1, []) from by decide +kernel) rfl (ra (by decide)) ?_
        refine e_iload (show pAt 114 36 = some (36, .iload 4, 2, []) from by decide +kernel) rfl ?_
        refine e_iconst (c := 0) (show pAt 114 38 = some (38, .iconst 0, 1, []) from by decide +kernel) (by decide) ?_
        refine e_bipush (c := 9) (show pAt 114 39 = some (39, .bipush 9, 2, []) from by decide +kernel) (by decide) ?_
        refine Ends.call (show pAt 114 41 = some (41, .invokevirtual 206, 3, [109, 4, 0, 0, 5081, 5083, 54]) from by decide +kernel) (isRet_none rfl) rfl (call_this (show HS h9 from hs_h9) rfl rfl (by decide)) (Ends.mono vc ?_)
        rintro _ h13 ⟨r14, rfl, hs_h13, vc⟩
        refine e_if (t := 59) (show pAt 114 44 = some (44, .ifCond .eq 15, 3, []) from by decide +kernel) rfl (fun c16 => ?_) (fun c16 => ?_)
        · replace vc := vc.1 c16
          refine e_bipush (c := (-2)) (show pAt 114 59 = some (59, .bipush (-2), 2, []) from by decide +kernel) (by decide) ?_
          exact e_retI (show pAt 114 61 = some (61, .ireturn, 1, []) from by decide +kernel) rfl vc
        · replace vc := vc.2 c16
          refine e_aload_n (show pAt 114 47 = some (47, .aload_n 0, 1, []) from by decide +kernel) rfl (ra (by decide)) ?_
          refine e_iload (show pAt 114 48 = some (48, .iload 5, 2, []) from by decide +kernel) rfl ?_
          refine e_iconst (c := 0) (show pAt 114 50 = some (50, .iconst 0, 1, []) from by decide +kernel) (by decide) ?_
          refine e_bipush (c := 9) (show pAt 114 51 = some (51, .bipush 9, 2, []) from by decide +kernel) (by decide) ?_
          refine Ends.call (show pAt 114 53 = some (53, .invokevirtual 206, 3, [109, 4, 0, 0, 5081, 5083, 54]) from by decide +kernel) (isRet_none rfl) rfl (call_this (show HS h13 from hs_h13) rfl rfl (by decide)) (Ends.mono vc ?_)
          rintro _ h17 ⟨r18, rfl, hs_h17, vc⟩
          refine e_if (t := 62) (show pAt 114 56 = some (56, .ifCond .ne 6, 3, []) from by decide +kernel) rfl (fun c20 => ?_) (fun c20 => ?_)
          · replace vc := vc.1 c20
            refine e_aload_n (show pAt 114 62 = some (62, .aload_n 0, 1, []) from by decide +kernel) rfl (ra (by decide)) ?_
            refine e_gIv (v := h17.2.1 93 0) (show pAt 114 63 = some (63, .getfield 7, 3, [7, 0, 0, 4123]) from by decide +kernel) (show HS h17 from hs_h17) rfl (by decide) rfl ?_
            refine e_bipush (c := 7) (show pAt 114 66 = some (66, .bipush 7, 2, []) from by decide +kernel) (by decide) ?_
            refine e_icmp (t := 74) (show pAt 114 68 = some (68, .if_icmp .ne 6, 3, []) from by decide +kernel) rfl (fun c21 => ?_) (fun c21 => ?_)
            · replace vc := vc.1 c21
              refine e_aload_n (show pAt 114 74 = some (74, .aload_n 0, 1, []) from by decide +kernel) rfl (ra (by decide)) ?_
              refine e_gR (show pAt 114 75 = some (75, .getfield 19, 3, [7, 3, 0, 4126]) from by decide +kernel) (show HS h17 from hs_h17) rfl (by decide) (hs_ref (show HS h17 from hs_h17) rfl) ?_
              refine e_aload_n (show pAt 114 78 = some (78, .aload_n 0, 1, []) from by decide +kernel) rfl (ra (by decide)) ?_
              refine e_gIv (v := h17.2.1 93 0) (show pAt 114 79 = some (79, .getfield 7, 3, [7, 0, 0, 4123]) from by decide +kernel) (show HS h17 from hs_h17) rfl (by decide) rfl ?_
              refine e_iload_n (show pAt 114 82 = some (82, .iload_n 1, 1, []) from by decide +kernel) rfl ?_
              obtain ⟨c22, vc⟩ := vc
              refine e_ast (show pAt 114 83 = some (83, .iastore, 1, []) from by decide +kernel) (show HS h17 from hs_h17) (by decide) c22 ?_
              refine e_aload_n (show pAt 114 84 = some (84, .aload_n 0, 1, []) from by decide +kernel) rfl (ra (by decide)) ?_
              refine e_gR (show pAt 114 85 = some (85, .getfield 23, 3, [7, 4, 0, 4127]) from by decide +kernel) (show HS (hpI h17 94 (h17.2.1 93 0).toNatClampNeg k) from hs_h17) rfl (by decide) (hs_ref (show HS (hpI h17 94 (h17.2.1 93 0).toNatClampNeg k) from hs_h17) rfl) ?_
              refine e_aload_n (show pAt 114 88 = some (88, .aload_n 0, 1, []) from by decide +kernel) rfl (ra (by decide)) ?_
              refine e_gIv (v := h17.2.1 93 0) (show pAt 114 89 = some (89, .getfield 7, 3, [7, 0, 0, 4123]) from by decide +kernel) (show HS (hpI h17 94 (h17.2.1 93 0).toNatClampNeg k) from hs_h17) rfl (by decide) rfl ?_
              refine e_iload_n (show pAt 114 92 = some (92, .iload_n 2, 1, []) from by decide +kernel) rfl ?_
              obtain ⟨c23, vc⟩ := vc
              refine e_ast (show pAt 114 93 = some (93, .iastore, 1, []) from by decide +kernel) (show HS (hpI h17 94 (h17.2.1 93 0).toNatClampNeg k) from hs_h17) (by decide) c23 ?_
              refine e_aload_n (show pAt 114 94 = some (94, .aload_n 0, 1, []) from by decide +kernel) rfl (ra (by decide)) ?_
              refine e_gR (show pAt 114 95 = some (95, .getfield 26, 3, [7, 5, 0, 4128]) from by decide +kernel) (show HS (hpI (hpI h17 94 (h17.2.1 93 0).toNatClampNeg k) 95 (h17.2.1 93 0).toNatClampNeg n) from hs_h17) rfl (by decide) (hs_ref (show HS (hpI (hpI h17 94 (h17.2.1 93 0).toNatClampNeg k) 95 (h17.2.1 93 0).toNatClampNeg n) from hs_h17) rfl) ?_
              refine e_aload_n (show pAt 114 98 = some (98, .aload_n 0, 1, []) from by decide +kernel) rfl (ra (by decide)) ?_
              refine e_gIv (v := h17.2.1 93 0) (show pAt 114 99 = some (99, .getfield 7, 3, [7, 0, 0, 4123]) from by decide +kernel) (show HS (hpI (hpI h17 94 (h17.2.1 93 0).toNatClampNeg k) 95 (h17.2.1 93 0).toNatClampNeg n) from hs_h17) rfl (by decide) rfl ?_
              refine e_iload_n (show pAt 114 102 = some (102, .iload_n 3, 1, []) from by decide +kernel) rfl ?_
              obtain ⟨c24, vc⟩ := vc
              refine e_ast (show pAt 114 103 = some (103, .iastore, 1, []) from by decide +kernel) (show HS (hpI (hpI h17 94 (h17.2.1 93 0).toNatClampNeg k) 95 (h17.2.1 93 0).toNatClampNeg n) from hs_h17) (by decide) c24 ?_
              refine e_aload_n (show pAt 114 104 = some (104, .aload_n 0, 1, []) from by decide +kernel) rfl (ra (by decide)) ?_
              refine e_gR (show pAt 114 105 = some (105, .getfield 29, 3, [7, 6, 0, 4129]) from by decide +kernel) (show HS (hpI (hpI (hpI h17 94 (h17.2.1 93 0).toNatClampNeg k) 95 (h17.2.1 93 0).toNatClampNeg n) 96 (h17.2.1 93 0).toNatClampNeg l) from hs_h17) rfl (by decide) (hs_ref (show HS (hpI (hpI (hpI h17 94 (h17.2.1 93 0).toNatClampNeg k) 95 (h17.2.1 93 0).toNatClampNeg n) 96 (h17.2.1 93 0).toNatClampNeg l) from hs_h17) rfl) ?_
              refine e_aload_n (show pAt 114 108 = some (108, .aload_n 0, 1, []) from by decide +kernel) rfl (ra (by decide)) ?_
              refine e_gIv (v := h17.2.1 93 0) (show pAt 114 109 = some (109, .getfield 7, 3, [7, 0, 0, 4123]) from by decide +kernel) (show HS (hpI (hpI (hpI h17 94 (h17.2.1 93 0).toNatClampNeg k) 95 (h17.2.1 93 0).toNatClampNeg n) 96 (h17.2.1 93 0).toNatClampNeg l) from hs_h17) rfl (by decide) rfl ?_
              refine e_iload (show pAt 114 112 = some (112, .iload 4, 2, []) from by decide +kernel) rfl ?_
              obtain ⟨c25, vc⟩ := vc
              refine e_ast (show pAt 114 114 = some (114, .iastore, 1, []) from by decide +kernel) (show HS (hpI (hpI (hpI h17 94 (h17.2.1 93 0).toNatClampNeg k) 95 (h17.2.1 93 0).toNatClampNeg n) 96 (h17.2.1 93 0).toNatClampNeg l) from hs_h17) (by decide) c25 ?_
              refine e_aload_n (show pAt 114 115 = some (115, .aload_n 0, 1, []) from by decide +kernel) rfl (ra (by decide)) ?_
              refine e_gR (show pAt 114 116 = some (116, .getfield 32, 3, [7, 7, 0, 4130]) from by decide +kernel) (show HS (hpI (hpI (hpI (hpI h17 94 (h17.2.1 93 0).toNatClampNeg k) 95 (h17.2.1 93 0).toNatClampNeg n) 96 (h17.2.1 93 0).toNatClampNeg l) 97 (h17.2.1 93 0).toNatClampNeg q) from hs_h17) rfl (by decide) (hs_ref (show HS (hpI (hpI (hpI (hpI h17 94 (h17.2.1 93 0).toNatClampNeg k) 95 (h17.2.1 93 0).toNatClampNeg n) 96 (h17.2.1 93 0).toNatClampNeg l) 97 (h17.2.1 93 0).toNatClampNeg q) from hs_h17) rfl) ?_
              refine e_aload_n (show pAt 114 119 = some (119, .aload_n 0, 1, []) from by decide +kernel) rfl (ra (by decide)) ?_
              refine e_gIv (v := h17.2.1 93 0) (show pAt 114 120 = some (120, .getfield 7, 3, [7, 0, 0, 4123]) from by decide +kernel) (show HS (hpI (hpI (hpI (hpI h17 94 (h17.2.1 93 0).toNatClampNeg k) 95 (h17.2.1 93 0).toNatClampNeg n) 96 (h17.2.1 93 0).toNatClampNeg l) 97 (h17.2.1 93 0).toNatClampNeg q) from hs_h17) rfl (by decide) rfl ?_
              refine e_iload (show pAt 114 123 = some (123, .iload 5, 2, []) from by decide +kernel) rfl ?_
              obtain ⟨c26, vc⟩ := vc
              refine e_ast (show pAt 114 125 = some (125, .iastore, 1, []) from by decide +kernel) (show HS (hpI (hpI (hpI (hpI h17 94 (h17.2.1 93 0).toNatClampNeg k) 95 (h17.2.1 93 0).toNatClampNeg n) 96 (h17.2.1 93 0).toNatClampNeg l) 97 (h17.2.1 93 0).toNatClampNeg q) from hs_h17) (by decide) c26 ?_
              refine e_iconst (c := 0) (show pAt 114 126 = some (126, .iconst 0, 1, []) from by decide +kernel) (by decide) ?_
              refine e_istore (show pAt 114 127 = some (127, .istore 6, 2, []) from by decide +kernel) ⟨Nat.le_of_ble_eq_true rfl, rfl⟩ rfl ?_
              exact vc
            · replace vc := vc.2 c21
              refine e_bipush (c := (-4)) (show pAt 114 71 = some (71, .bipush (-4), 2, []) from by decide +kernel) (by decide) ?_
              exact e_retI (show pAt 114 73 = some (73, .ireturn, 1, []) from by decide +kernel) rfl vc
          · replace vc := vc.2 c20
            refine e_bipush (c := (-2)) (show pAt 114 59 = some (59, .bipush (-2), 2, []) from by decide +kernel) (by decide) ?_
            exact e_retI (show pAt 114 61 = some (61, .ireturn, 1, []) from by decide +kernel) rfl vc
  · replace vc := vc.2 c4
    refine e_iconst (c := (-1)) (show pAt 114 11 = some (11, .iconst (-1), 1, []) from by decide +kernel) (by decide) ?_
    exact e_retI (show pAt 114 12 = some (12, .ireturn, 1, []) from by decide +kernel) rfl vc

theorem w_mper1 {X : Scr} {dp : Nat} {h : Hp} {Q : Option Value → Hp → Prop} (k : Int32) (n : Int32) (l : Int32) (q : Int32) (s : Int32) (i : Int32) (hs : HS h)
    (vc : ((condB .ge i 4 = true → Q (some (.int (((h.2.1 93 0) + 1) - 1))) (hpI (hpI h 93 2 ((h.2.1 93 2) &&& ((1 <<< ((h.2.1 93 0) &&& 31)) ^^^ (-1)))) 93 0 ((h.2.1 93 0) + 1))) ∧ (condB .ge i 4 = false → (inB ((4 * (h.2.1 93 0)) + i) 28 = true ∧ Ends X dp 114 129 [.ref 93, .int k, .int n, .int l, .int q, .int s, .int (i + 1)] [] (hpI h 99 ((4 * (h.2.1 93 0)) + i).toNatClampNeg 0) Q)))) :
    Ends X dp 114 129 [.ref 93, .int k, .int n, .int l, .int q, .int s, .int i] [] h Q := by
  have ra : ∀ {a : Nat}, a < 1000 → a ≤ OLDB := fun h => by have := OLDB_eq; omega
  refine e_iload (show pAt 114 129 = some (129, .iload 6, 2, []) from by decide +kernel) rfl ?_
  refine e_iconst (c := 4) (show pAt 114 131 = some (131, .iconst 4, 1, []) from by decide +kernel) (by decide) ?_
  refine e_icmp (t := 156) (show pAt 114 132 = some (132, .if_icmp .ge 24, 3, []) from by decide +kernel) rfl (fun c1 => ?_) (fun c1 => ?_)
  · replace vc := vc.1 c1
    refine e_aload_n (show pAt 114 156 = some (156, .aload_n 0, 1, []) from by decide +kernel) rfl (ra (by decide)) ?_
    refine e_dupR (show pAt 114 157 = some (157, .dup, 1, []) from by decide +kernel) ?_
    refine e_gIv (v := h.2.1 93 2) (show pAt 114 158 = some (158, .getfield 16, 3, [7, 2, 0, 4125]) from by decide +kernel) (show HS h from hs) rfl (by decide) rfl ?_
    refine e_iconst (c := 1) (show pAt 114 161 = some (161, .iconst 1, 1, []) from by decide +kernel) (by decide) ?_
    refine e_aload_n (show pAt 114 162 = some (162, .aload_n 0, 1, []) from by decide +kernel) rfl (ra (by decide)) ?_
    refine e_gIv (v := h.2.1 93 0) (show pAt 114 163 = some (163, .getfield 7, 3, [7, 0, 0, 4123]) from by decide +kernel) (show HS h from hs) rfl (by decide) rfl ?_
    refine e_ishl (show pAt 114 166 = some (166, .ishl, 1, []) from by decide +kernel) ?_
    refine e_iconst (c := (-1)) (show pAt 114 167 = some (167, .iconst (-1), 1, []) from by decide +kernel) (by decide) ?_
    refine e_ixor (show pAt 114 168 = some (168, .ixor, 1, []) from by decide +kernel) ?_
    refine e_iand (show pAt 114 169 = some (169, .iand, 1, []) from by decide +kernel) ?_
    refine e_pI (show pAt 114 170 = some (170, .putfield 16, 3, [7, 2, 0, 4125]) from by decide +kernel) (show HS h from hs) (by decide) (Or.inl rfl) ?_
    refine e_aload_n (show pAt 114 173 = some (173, .aload_n 0, 1, []) from by decide +kernel) rfl (ra (by decide)) ?_
    refine e_dupR (show pAt 114 174 = some (174, .dup, 1, []) from by decide +kernel) ?_
    refine e_gIv (v := h.2.1 93 0) (show pAt 114 175 = some (175, .getfield 7, 3, [7, 0, 0, 4123]) from by decide +kernel) (show HS (hpI h 93 2 ((h.2.1 93 2) &&& ((1 <<< ((h.2.1 93 0) &&& 31)) ^^^ (-1)))) from hs) rfl (by decide) rfl ?_
    refine e_iconst (c := 1) (show pAt 114 178 = some (178, .iconst 1, 1, []) from by decide +kernel) (by decide) ?_
    refine e_iadd (show pAt 114 179 = some (179, .iadd, 1, []) from by decide +kernel) ?_
    refine e_pI (show pAt 114 180 = some (180, .putfield 7, 3, [7, 0, 0, 4123]) from by decide +kernel) (show HS (hpI h 93 2 ((h.2.1 93 2) &&& ((1 <<< ((h.2.1 93 0) &&& 31)) ^^^ (-1)))) from hs) (by decide) (Or.inl rfl) ?_
    refine e_aload_n (show pAt 114 183 = some (183, .aload_n 0, 1, []) from by decide +kernel) rfl (ra (by decide)) ?_
    refine e_gIv (v := (h.2.1 93 0) + 1) (show pAt 114 184 = some (184, .getfield 7, 3, [7, 0, 0, 4123]) from by decide +kernel) (show HS (hpI (hpI h 93 2 ((h.2.1 93 2) &&& ((1 <<< ((h.2.1 93 0) &&& 31)) ^^^ (-1)))) 93 0 ((h.2.1 93 0) + 1)) from hs) rfl (by decide) rfl ?_
    refine e_iconst (c := 1) (show pAt 114 187 = some (187, .iconst 1, 1, []) from by decide +kernel) (by decide) ?_
    refine e_isub (show pAt 114 188 = some (188, .isub, 1, []) from by decide +kernel) ?_
    exact e_retI (show pAt 114 189 = some (189, .ireturn, 1, []) from by decide +kernel) rfl vc
  · replace vc := vc.2 c1
    refine e_aload_n (show pAt 114 135 = some (135, .aload_n 0, 1, []) from by decide +kernel) rfl (ra (by decide)) ?_
    refine e_gR (show pAt 114 136 = some (136, .getfield 35, 3, [7, 8, 0, 4131]) from by decide +kernel) (show HS h from hs) rfl (by decide) (hs_ref (show HS h from hs) rfl) ?_
    refine e_iconst (c := 4) (show pAt 114 139 = some (139, .iconst 4, 1, []) from by decide +kernel) (by decide) ?_
    refine e_aload_n (show pAt 114 140 = some (140, .aload_n 0, 1, []) from by decide +kernel) rfl (ra (by decide)) ?_
    refine e_gIv (v := h.2.1 93 0) (show pAt 114 141 = some (141, .getfield 7, 3, [7, 0, 0, 4123]) from by decide +kernel) (show HS h from hs) rfl (by decide) rfl ?_
    refine e_imul (show pAt 114 144 = some (144, .imul, 1, []) from by decide +kernel) ?_
    refine e_iload (show pAt 114 145 = some (145, .iload 6, 2, []) from by decide +kernel) rfl ?_
    refine e_iadd (show pAt 114 147 = some (147, .iadd, 1, []) from by decide +kernel) ?_
    refine e_iconst (c := 0) (show pAt 114 148 = some (148, .iconst 0, 1, []) from by decide +kernel) (by decide) ?_
    obtain ⟨c2, vc⟩ := vc
    refine e_ast (show pAt 114 149 = some (149, .iastore, 1, []) from by decide +kernel) (show HS h from hs) (by decide) c2 ?_
    refine e_iinc (c := 1) (show pAt 114 150 = some (150, .iinc 6 1, 3, []) from by decide +kernel) rfl rfl (by decide) rfl ?_
    refine e_goto (t := 129) (show pAt 114 153 = some (153, .goto (-24), 3, []) from by decide +kernel) rfl ?_
    exact vc

theorem w_mimage0 {X : Scr} {dp : Nat} {h : Hp} {Q : Option Value → Hp → Prop}  (hs : HS h)
    (vc : Ends X dp 184 55 [.ref 93, .int 0] [] (hpI (hpI (hpI (hpI (hpI (hpI (hpI h 93 44 1) 93 45 (h.2.1 93 10)) 93 46 (h.2.1 93 0)) 93 47 (h.2.1 93 1)) 93 48 (h.2.1 93 2)) 93 49 (h.2.1 93 41)) 93 50 (h.2.1 93 42)) Q) :
    Ends X dp 184 0 [.ref 93, .retAddr 0] [] h Q := by
  have ra : ∀ {a : Nat}, a < 1000 → a ≤ OLDB := fun h => by have := OLDB_eq; omega
  refine e_aload_n (show pAt 184 0 = some (0, .aload_n 0, 1, []) from by decide +kernel) rfl (ra (by decide)) ?_
  refine e_iconst (c := 1) (show pAt 184 1 = some (1, .iconst 1, 1, []) from by decide +kernel) (by decide) ?_
  refine e_pI (show pAt 184 2 = some (2, .putfield 145, 3, [7, 44, 0, 4167]) from by decide +kernel) (show HS h from hs) (by decide) (Or.inr (by decide)) ?_
  refine e_aload_n (show pAt 184 5 = some (5, .aload_n 0, 1, []) from by decide +kernel) rfl (ra (by decide)) ?_
  refine e_aload_n (show pAt 184 6 = some (6, .aload_n 0, 1, []) from by decide +kernel) rfl (ra (by decide)) ?_
  refine e_gIv (v := h.2.1 93 10) (show pAt 184 7 = some (7, .getfield 41, 3, [7, 10, 0, 4133]) from by decide +kernel) (show HS (hpI h 93 44 1) from hs) rfl (by decide) rfl ?_
  refine e_pI (show pAt 184 10 = some (10, .putfield 148, 3, [7, 45, 0, 4168]) from by decide +kernel) (show HS (hpI h 93 44 1) from hs) (by decide) (Or.inl rfl) ?_
  refine e_aload_n (show pAt 184 13 = some (13, .aload_n 0, 1, []) from by decide +kernel) rfl (ra (by decide)) ?_
  refine e_aload_n (show pAt 184 14 = some (14, .aload_n 0, 1, []) from by decide +kernel) rfl (ra (by decide)) ?_
  refine e_gIv (v := h.2.1 93 0) (show pAt 184 15 = some (15, .getfield 7, 3, [7, 0, 0, 4123]) from by decide +kernel) (show HS (hpI (hpI h 93 44 1) 93 45 (h.2.1 93 10)) from hs) rfl (by decide) rfl ?_
  refine e_pI (show pAt 184 18 = some (18, .putfield 151, 3, [7, 46, 0, 4169]) from by decide +kernel) (show HS (hpI (hpI h 93 44 1) 93 45 (h.2.1 93 10)) from hs) (by decide) (Or.inl rfl) ?_
  refine e_aload_n (show pAt 184 21 = some (21, .aload_n 0, 1, []) from by decide +kernel) rfl (ra (by decide)) ?_
  refine e_aload_n (show pAt 184 22 = some (22, .aload_n 0, 1, []) from by decide +kernel) rfl (ra (by decide)) ?_
  refine e_gIv (v := h.2.1 93 1) (show pAt 184 23 = some (23, .getfield 13, 3, [7, 1, 0, 4124]) from by decide +kernel) (show HS (hpI (hpI (hpI h 93 44 1) 93 45 (h.2.1 93 10)) 93 46 (h.2.1 93 0)) from hs) rfl (by decide) rfl ?_
  refine e_pI (show pAt 184 26 = some (26, .putfield 154, 3, [7, 47, 0, 4170]) from by decide +kernel) (show HS (hpI (hpI (hpI h 93 44 1) 93 45 (h.2.1 93 10)) 93 46 (h.2.1 93 0)) from hs) (by decide) (Or.inl rfl) ?_
  refine e_aload_n (show pAt 184 29 = some (29, .aload_n 0, 1, []) from by decide +kernel) rfl (ra (by decide)) ?_
  refine e_aload_n (show pAt 184 30 = some (30, .aload_n 0, 1, []) from by decide +kernel) rfl (ra (by decide)) ?_
  refine e_gIv (v := h.2.1 93 2) (show pAt 184 31 = some (31, .getfield 16, 3, [7, 2, 0, 4125]) from by decide +kernel) (show HS (hpI (hpI (hpI (hpI h 93 44 1) 93 45 (h.2.1 93 10)) 93 46 (h.2.1 93 0)) 93 47 (h.2.1 93 1)) from hs) rfl (by decide) rfl ?_
  refine e_pI (show pAt 184 34 = some (34, .putfield 157, 3, [7, 48, 0, 4171]) from by decide +kernel) (show HS (hpI (hpI (hpI (hpI h 93 44 1) 93 45 (h.2.1 93 10)) 93 46 (h.2.1 93 0)) 93 47 (h.2.1 93 1)) from hs) (by decide) (Or.inl rfl) ?_
  refine e_aload_n (show pAt 184 37 = some (37, .aload_n 0, 1, []) from by decide +kernel) rfl (ra (by decide)) ?_
  refine e_aload_n (show pAt 184 38 = some (38, .aload_n 0, 1, []) from by decide +kernel) rfl (ra (by decide)) ?_
  refine e_gIv (v := h.2.1 93 41) (show pAt 184 39 = some (39, .getfield 136, 3, [7, 41, 0, 4164]) from by decide +kernel) (show HS (hpI (hpI (hpI (hpI (hpI h 93 44 1) 93 45 (h.2.1 93 10)) 93 46 (h.2.1 93 0)) 93 47 (h.2.1 93 1)) 93 48 (h.2.1 93 2)) from hs) rfl (by decide) rfl ?_
  refine e_pI (show pAt 184 42 = some (42, .putfield 160, 3, [7, 49, 0, 4172]) from by decide +kernel) (show HS (hpI (hpI (hpI (hpI (hpI h 93 44 1) 93 45 (h.2.1 93 10)) 93 46 (h.2.1 93 0)) 93 47 (h.2.1 93 1)) 93 48 (h.2.1 93 2)) from hs) (by decide) (Or.inl rfl) ?_
  refine e_aload_n (show pAt 184 45 = some (45, .aload_n 0, 1, []) from by decide +kernel) rfl (ra (by decide)) ?_
  refine e_aload_n (show pAt 184 46 = some (46, .aload_n 0, 1, []) from by decide +kernel) rfl (ra (by decide)) ?_
  refine e_gIv (v := h.2.1 93 42) (show pAt 184 47 = some (47, .getfield 139, 3, [7, 42, 0, 4165]) from by decide +kernel) (show HS (hpI (hpI (hpI (hpI (hpI (hpI h 93 44 1) 93 45 (h.2.1 93 10)) 93 46 (h.2.1 93 0)) 93 47 (h.2.1 93 1)) 93 48 (h.2.1 93 2)) 93 49 (h.2.1 93 41)) from hs) rfl (by decide) rfl ?_
  refine e_pI (show pAt 184 50 = some (50, .putfield 163, 3, [7, 50, 0, 4173]) from by decide +kernel) (show HS (hpI (hpI (hpI (hpI (hpI (hpI h 93 44 1) 93 45 (h.2.1 93 10)) 93 46 (h.2.1 93 0)) 93 47 (h.2.1 93 1)) 93 48 (h.2.1 93 2)) 93 49 (h.2.1 93 41)) from hs) (by decide) (Or.inl rfl) ?_
  refine e_iconst (c := 0) (show pAt 184 53 = some (53, .iconst 0, 1, []) from by decide +kernel) (by decide) ?_
  refine e_istore_n (show pAt 184 54 = some (54, .istore_n 1, 1, []) from by decide +kernel) ⟨Nat.le_of_ble_eq_true rfl, rfl⟩ rfl ?_
  exact vc

theorem w_mimage1 {X : Scr} {dp : Nat} {h : Hp} {Q : Option Value → Hp → Prop} (p : Int32) (hs : HS h)
    (vc : ((condB .ge p 7 = true → Ends X dp 184 129 [.ref 93, .int 0] [] h Q) ∧ (condB .ge p 7 = false → (inB p 7 = true ∧ (inB p 7 = true ∧ (inB p 7 = true ∧ (inB p 7 = true ∧ (inB p 7 = true ∧ (inB p 7 = true ∧ (inB p 7 = true ∧ (inB p 7 = true ∧ (inB p 7 = true ∧ (inB p 7 = true ∧ Ends X dp 184 55 [.ref 93, .int (p + 1)] [] (hpI (hpI (hpI (hpI (hpI h 115 p.toNatClampNeg (h.2.1 94 p.toNatClampNeg)) 116 p.toNatClampNeg (h.2.1 95 p.toNatClampNeg)) 117 p.toNatClampNeg (h.2.1 96 p.toNatClampNeg)) 118 p.toNatClampNeg (h.2.1 97 p.toNatClampNeg)) 119 p.toNatClampNeg (h.2.1 98 p.toNatClampNeg)) Q))))))))))))) :
    Ends X dp 184 55 [.ref 93, .int p] [] h Q := by
  have ra : ∀ {a : Nat}, a < 1000 → a ≤ OLDB := fun h => by have := OLDB_eq; omega
  refine e_iload_n (show pAt 184 55 = some (55, .iload_n 1, 1, []) from by decide +kernel) rfl ?_
  refine e_bipush (c := 7) (show pAt 184 56 = some (56, .bipush 7, 2, []) from by decide +kernel) (by decide) ?_
  refine e_icmp (t := 127) (show pAt 184 58 = some (58, .if_icmp .ge 69, 3, []) from by decide +kernel) rfl (fun c1 => ?_) (fun c1 => ?_)
  · replace vc := vc.1 c1
    refine e_iconst (c := 0) (show pAt 184 127 = some (127, .iconst 0, 1, []) from by decide +kernel) (by decide) ?_
    refine e_istore_n (show pAt 184 128 = some (128, .istore_n 1, 1, []) from by decide +kernel) ⟨Nat.le_of_ble_eq_true rfl, rfl⟩ rfl ?_
    exact vc
  · replace vc := vc.2 c1
    refine e_aload_n (show pAt 184 61 = some (61, .aload_n 0, 1, []) from by decide +kernel) rfl (ra (by decide)) ?_
    refine e_gR (show pAt 184 62 = some (62, .getfield 166, 3, [7, 51, 0, 4174]) from by decide +kernel) (show HS h from hs) rfl (by decide) (hs_ref (show HS h from hs) rfl) ?_
    refine e_iload_n (show pAt 184 65 = some (65, .iload_n 1, 1, []) from by decide +kernel) rfl ?_
    refine e_aload_n (show pAt 184 66 = some (66, .aload_n 0, 1, []) from by decide +kernel) rfl (ra (by decide)) ?_
    refine e_gR (show pAt 184 67 = some (67, .getfield 19, 3, [7, 3, 0, 4126]) from by decide +kernel) (show HS h from hs) rfl (by decide) (hs_ref (show HS h from hs) rfl) ?_
    refine e_iload_n (show pAt 184 70 = some (70, .iload_n 1, 1, []) from by decide +kernel) rfl ?_
    obtain ⟨c2, vc⟩ := vc
    refine e_aldv (v := h.2.1 94 p.toNatClampNeg) (show pAt 184 71 = some (71, .iaload, 1, []) from by decide +kernel) (show HS h from hs) (by decide) c2 rfl ?_
    obtain ⟨c3, vc⟩ := vc
    refine e_ast (show pAt 184 72 = some (72, .iastore, 1, []) from by decide +kernel) (show HS h from hs) (by decide) c3 ?_
    refine e_aload_n (show pAt 184 73 = some (73, .aload_n 0, 1, []) from by decide +kernel) rfl (ra (by decide)) ?_
    refine e_gR (show pAt 184 74 = some (74, .getfield 169, 3, [7, 52, 0, 4175]) from by decide +kernel) (show HS (hpI h 115 p.toNatClampNeg (h.2.1 94 p.toNatClampNeg)) from hs) rfl (by decide) (hs_ref (show HS (hpI h 115 p.toNatClampNeg (h.2.1 94 p.toNatClampNeg)) from hs) rfl) ?_
    refine e_iload_n (show pAt 184 77 = some (77, .iload_n 1, 1, []) from by decide +kernel) rfl ?_
    refine e_aload_n (show pAt 184 78 = some (78, .aload_n 0, 1, []) from by decide +kernel) rfl (ra (by decide)) ?_
    refine e_gR (show pAt 184 79 = some (79, .getfield 23, 3, [7, 4, 0, 4127]) from by decide +kernel) (show HS (hpI h 115 p.toNatClampNeg (h.2.1 94 p.toNatClampNeg)) from hs) rfl (by decide) (hs_ref (show HS (hpI h 115 p.toNatClampNeg (h.2.1 94 p.toNatClampNeg)) from hs) rfl) ?_
    refine e_iload_n (show pAt 184 82 = some (82, .iload_n 1, 1, []) from by decide +kernel) rfl ?_
    obtain ⟨c4, vc⟩ := vc
    refine e_aldv (v := h.2.1 95 p.toNatClampNeg) (show pAt 184 83 = some (83, .iaload, 1, []) from by decide +kernel) (show HS (hpI h 115 p.toNatClampNeg (h.2.1 94 p.toNatClampNeg)) from hs) (by decide) c4 rfl ?_
    obtain ⟨c5, vc⟩ := vc
    refine e_ast (show pAt 184 84 = some (84, .iastore, 1, []) from by decide +kernel) (show HS (hpI h 115 p.toNatClampNeg (h.2.1 94 p.toNatClampNeg)) from hs) (by decide) c5 ?_
    refine e_aload_n (show pAt 184 85 = some (85, .aload_n 0, 1, []) from by decide +kernel) rfl (ra (by decide)) ?_
    refine e_gR (show pAt 184 86 = some (86, .getfield 172, 3, [7, 53, 0, 4176]) from by decide +kernel) (show HS (hpI (hpI h 115 p.toNatClampNeg (h.2.1 94 p.toNatClampNeg)) 116 p.toNatClampNeg (h.2.1 95 p.toNatClampNeg)) from hs) rfl (by decide) (hs_ref (show HS (hpI (hpI h 115 p.toNatClampNeg (h.2.1 94 p.toNatClampNeg)) 116 p.toNatClampNeg (h.2.1 95 p.toNatClampNeg)) from hs) rfl) ?_
    refine e_iload_n (show pAt 184 89 = some (89, .iload_n 1, 1, []) from by decide +kernel) rfl ?_
    refine e_aload_n (show pAt 184 90 = some (90, .aload_n 0, 1, []) from by decide +kernel) rfl (ra (by decide)) ?_
    refine e_gR (show pAt 184 91 = some (91, .getfield 26, 3, [7, 5, 0, 4128]) from by decide +kernel) (show HS (hpI (hpI h 115 p.toNatClampNeg (h.2.1 94 p.toNatClampNeg)) 116 p.toNatClampNeg (h.2.1 95 p.toNatClampNeg)) from hs) rfl (by decide) (hs_ref (show HS (hpI (hpI h 115 p.toNatClampNeg (h.2.1 94 p.toNatClampNeg)) 116 p.toNatClampNeg (h.2.1 95 p.toNatClampNeg)) from hs) rfl) ?_
    refine e_iload_n (show pAt 184 94 = some (94, .iload_n 1, 1, []) from by decide +kernel) rfl ?_
    obtain ⟨c6, vc⟩ := vc
    refine e_aldv (v := h.2.1 96 p.toNatClampNeg) (show pAt 184 95 = some (95, .iaload, 1, []) from by decide +kernel) (show HS (hpI (hpI h 115 p.toNatClampNeg (h.2.1 94 p.toNatClampNeg)) 116 p.toNatClampNeg (h.2.1 95 p.toNatClampNeg)) from hs) (by decide) c6 rfl ?_
    obtain ⟨c7, vc⟩ := vc
    refine e_ast (show pAt 184 96 = some (96, .iastore, 1, []) from by decide +kernel) (show HS (hpI (hpI h 115 p.toNatClampNeg (h.2.1 94 p.toNatClampNeg)) 116 p.toNatClampNeg (h.2.1 95 p.toNatClampNeg)) from hs) (by decide) c7 ?_
    refine e_aload_n (show pAt 184 97 = some (97, .aload_n 0, 1, []) from by decide +kernel) rfl (ra (by decide)) ?_
    refine e_gR (show pAt 184 98 = some (98, .getfield 175, 3, [7, 54, 0, 4177]) from by decide +kernel) (show HS (hpI (hpI (hpI h 115 p.toNatClampNeg (h.2.1 94 p.toNatClampNeg)) 116 p.toNatClampNeg (h.2.1 95 p.toNatClampNeg)) 117 p.toNatClampNeg (h.2.1 96 p.toNatClampNeg)) from hs) rfl (by decide) (hs_ref (show HS (hpI (hpI (hpI h 115 p.toNatClampNeg (h.2.1 94 p.toNatClampNeg)) 116 p.toNatClampNeg (h.2.1 95 p.toNatClampNeg)) 117 p.toNatClampNeg (h.2.1 96 p.toNatClampNeg)) from hs) rfl) ?_
    refine e_iload_n (show pAt 184 101 = some (101, .iload_n 1, 1, []) from by decide +kernel) rfl ?_
    refine e_aload_n (show pAt 184 102 = some (102, .aload_n 0, 1, []) from by decide +kernel) rfl (ra (by decide)) ?_
    refine e_gR (show pAt 184 103 = some (103, .getfield 29, 3, [7, 6, 0, 4129]) from by decide +kernel) (show HS (hpI (hpI (hpI h 115 p.toNatClampNeg (h.2.1 94 p.toNatClampNeg)) 116 p.toNatClampNeg (h.2.1 95 p.toNatClampNeg)) 117 p.toNatClampNeg (h.2.1 96 p.toNatClampNeg)) from hs) rfl (by decide) (hs_ref (show HS (hpI (hpI (hpI h 115 p.toNatClampNeg (h.2.1 94 p.toNatClampNeg)) 116 p.toNatClampNeg (h.2.1 95 p.toNatClampNeg)) 117 p.toNatClampNeg (h.2.1 96 p.toNatClampNeg)) from hs) rfl) ?_
    refine e_iload_n (show pAt 184 106 = some (106, .iload_n 1, 1, []) from by decide +kernel) rfl ?_
    obtain ⟨c8, vc⟩ := vc
    refine e_aldv (v := h.2.1 97 p.toNatClampNeg) (show pAt 184 107 = some (107, .iaload, 1, []) from by decide +kernel) (show HS (hpI (hpI (hpI h 115 p.toNatClampNeg (h.2.1 94 p.toNatClampNeg)) 116 p.toNatClampNeg (h.2.1 95 p.toNatClampNeg)) 117 p.toNatClampNeg (h.2.1 96 p.toNatClampNeg)) from hs) (by decide) c8 rfl ?_
    obtain ⟨c9, vc⟩ := vc
    refine e_ast (show pAt 184 108 = some (108, .iastore, 1, []) from by decide +kernel) (show HS (hpI (hpI (hpI h 115 p.toNatClampNeg (h.2.1 94 p.toNatClampNeg)) 116 p.toNatClampNeg (h.2.1 95 p.toNatClampNeg)) 117 p.toNatClampNeg (h.2.1 96 p.toNatClampNeg)) from hs) (by decide) c9 ?_
    refine e_aload_n (show pAt 184 109 = some (109, .aload_n 0, 1, []) from by decide +kernel) rfl (ra (by decide)) ?_
    refine e_gR (show pAt 184 110 = some (110, .getfield 178, 3, [7, 55, 0, 4178]) from by decide +kernel) (show HS (hpI (hpI (hpI (hpI h 115 p.toNatClampNeg (h.2.1 94 p.toNatClampNeg)) 116 p.toNatClampNeg (h.2.1 95 p.toNatClampNeg)) 117 p.toNatClampNeg (h.2.1 96 p.toNatClampNeg)) 118 p.toNatClampNeg (h.2.1 97 p.toNatClampNeg)) from hs) rfl (by decide) (hs_ref (show HS (hpI (hpI (hpI (hpI h 115 p.toNatClampNeg (h.2.1 94 p.toNatClampNeg)) 116 p.toNatClampNeg (h.2.1 95 p.toNatClampNeg)) 117 p.toNatClampNeg (h.2.1 96 p.toNatClampNeg)) 118 p.toNatClampNeg (h.2.1 97 p.toNatClampNeg)) from hs) rfl) ?_
    refine e_iload_n (show pAt 184 113 = some (113, .iload_n 1, 1, []) from by decide +kernel) rfl ?_
    refine e_aload_n (show pAt 184 114 = some (114, .aload_n 0, 1, []) from by decide +kernel) rfl (ra (by decide)) ?_
    refine e_gR (show pAt 184 115 = some (115, .getfield 32, 3, [7, 7, 0, 4130]) from by decide +kernel) (show HS (hpI (hpI (hpI (hpI h 115 p.toNatClampNeg (h.2.1 94 p.toNatClampNeg)) 116 p.toNatClampNeg (h.2.1 95 p.toNatClampNeg)) 117 p.toNatClampNeg (h.2.1 96 p.toNatClampNeg)) 118 p.toNatClampNeg (h.2.1 97 p.toNatClampNeg)) from hs) rfl (by decide) (hs_ref (show HS (hpI (hpI (hpI (hpI h 115 p.toNatClampNeg (h.2.1 94 p.toNatClampNeg)) 116 p.toNatClampNeg (h.2.1 95 p.toNatClampNeg)) 117 p.toNatClampNeg (h.2.1 96 p.toNatClampNeg)) 118 p.toNatClampNeg (h.2.1 97 p.toNatClampNeg)) from hs) rfl) ?_
    refine e_iload_n (show pAt 184 118 = some (118, .iload_n 1, 1, []) from by decide +kernel) rfl ?_
    obtain ⟨c10, vc⟩ := vc
    refine e_aldv (v := h.2.1 98 p.toNatClampNeg) (show pAt 184 119 = some (119, .iaload, 1, []) from by decide +kernel) (show HS (hpI (hpI (hpI (hpI h 115 p.toNatClampNeg (h.2.1 94 p.toNatClampNeg)) 116 p.toNatClampNeg (h.2.1 95 p.toNatClampNeg)) 117 p.toNatClampNeg (h.2.1 96 p.toNatClampNeg)) 118 p.toNatClampNeg (h.2.1 97 p.toNatClampNeg)) from hs) (by decide) c10 rfl ?_
    obtain ⟨c11, vc⟩ := vc
    refine e_ast (show pAt 184 120 = some (120, .iastore, 1, []) from by decide +kernel) (show HS (hpI (hpI (hpI (hpI h 115 p.toNatClampNeg (h.2.1 94 p.toNatClampNeg)) 116 p.toNatClampNeg (h.2.1 95 p.toNatClampNeg)) 117 p.toNatClampNeg (h.2.1 96 p.toNatClampNeg)) 118 p.toNatClampNeg (h.2.1 97 p.toNatClampNeg)) from hs) (by decide) c11 ?_
    refine e_iinc (c := 1) (show pAt 184 121 = some (121, .iinc 1 1, 3, []) from by decide +kernel) rfl rfl (by decide) rfl ?_
    refine e_goto (t := 55) (show pAt 184 124 = some (124, .goto (-69), 3, []) from by decide +kernel) rfl ?_
    exact vc

theorem w_mimage2 {X : Scr} {dp : Nat} {h : Hp} {Q : Option Value → Hp → Prop} (p : Int32) (hs : HS h)
    (vc : ((condB .ge p 28 = true → Ends X dp 184 155 [.ref 93, .int 0] [] h Q) ∧ (condB .ge p 28 = false → (inB p 28 = true ∧ (inB p 28 = true ∧ Ends X dp 184 129 [.ref 93, .int (p + 1)] [] (hpI h 120 p.toNatClampNeg (h.2.1 99 p.toNatClampNeg)) Q))))) :
    Ends X dp 184 129 [.ref 93, .int p] [] h Q := by
  have ra : ∀ {a : Nat}, a < 1000 → a ≤ OLDB := fun h => by have := OLDB_eq; omega
  refine e_iload_n (show pAt 184 129 = some (129, .iload_n 1, 1, []) from by decide +kernel) rfl ?_
  refine e_bipush (c := 28) (show pAt 184 130 = some (130, .bipush 28, 2, []) from by decide +kernel) (by decide) ?_
  refine e_icmp (t := 153) (show pAt 184 132 = some (132, .if_icmp .ge 21, 3, []) from by decide +kernel) rfl (fun c1 => ?_) (fun c1 => ?_)
  · replace vc := vc.1 c1
    refine e_iconst (c := 0) (show pAt 184 153 = some (153, .iconst 0, 1, []) from by decide +kernel) (by decide) ?_
    refine e_istore_n (show pAt 184 154 = some (154, .istore_n 1, 1, []) from by decide +kernel) ⟨Nat.le_of_ble_eq_true rfl, rfl⟩ rfl ?_
    exact vc
  · replace vc := vc.2 c1
    refine e_aload_n (show pAt 184 135 = some (135, .aload_n 0, 1, []) from by decide +kernel) rfl (ra (by decide)) ?_
    refine e_gR (show pAt 184 136 = some (136, .getfield 181, 3, [7, 56, 0, 4179]) from by decide +kernel) (show HS h from hs) rfl (by decide) (hs_ref (show HS h from hs) rfl) ?_
    refine e_iload_n (show pAt 184 139 = some (139, .iload_n 1, 1, []) from by decide +kernel) rfl ?_
    refine e_aload_n (show pAt 184 140 = some (140, .aload_n 0, 1, []) from by decide +kernel) rfl (ra (by decide)) ?_
    refine e_gR (show pAt 184 141 = some (141, .getfield 35, 3, [7, 8, 0, 4131]) from by decide +kernel) (show HS h from hs) rfl (by decide) (hs_ref (show HS h from hs) rfl) ?_
    refine e_iload_n (show pAt 184 144 = some (144, .iload_n 1, 1, []) from by decide +kernel) rfl ?_
    obtain ⟨c2, vc⟩ := vc
    refine e_aldv (v := h.2.1 99 p.toNatClampNeg) (show pAt 184 145 = some (145, .iaload, 1, []) from by decide +kernel) (show HS h from hs) (by decide) c2 rfl ?_
    obtain ⟨c3, vc⟩ := vc
    refine e_ast (show pAt 184 146 = some (146, .iastore, 1, []) from by decide +kernel) (show HS h from hs) (by decide) c3 ?_
    refine e_iinc (c := 1) (show pAt 184 147 = some (147, .iinc 1 1, 3, []) from by decide +kernel) rfl rfl (by decide) rfl ?_
    refine e_goto (t := 129) (show pAt 184 150 = some (150, .goto (-21), 3, []) from by decide +kernel) rfl ?_
    exact vc

theorem w_mimage3 {X : Scr} {dp : Nat} {h : Hp} {Q : Option Value → Hp → Prop} (p : Int32) (hs : HS h)
    (vc : ((condB .ge p 12 = true → Q (some (.int (h.2.1 93 0))) h) ∧ (condB .ge p 12 = false → (inB p 12 = true ∧ (inB p 12 = true ∧ Ends X dp 184 155 [.ref 93, .int (p + 1)] [] (hpI h 121 p.toNatClampNeg (h.2.1 114 p.toNatClampNeg)) Q))))) :
    Ends X dp 184 155 [.ref 93, .int p] [] h Q := by
  have ra : ∀ {a : Nat}, a < 1000 → a ≤ OLDB := fun h => by have := OLDB_eq; omega
  refine e_iload_n (show pAt 184 155 = some (155, .iload_n 1, 1, []) from by decide +kernel) rfl ?_
  refine e_bipush (c := 12) (show pAt 184 156 = some (156, .bipush 12, 2, []) from by decide +kernel) (by decide) ?_
  refine e_icmp (t := 179) (show pAt 184 158 = some (158, .if_icmp .ge 21, 3, []) from by decide +kernel) rfl (fun c1 => ?_) (fun c1 => ?_)
  · replace vc := vc.1 c1
    refine e_aload_n (show pAt 184 179 = some (179, .aload_n 0, 1, []) from by decide +kernel) rfl (ra (by decide)) ?_
    refine e_gIv (v := h.2.1 93 0) (show pAt 184 180 = some (180, .getfield 7, 3, [7, 0, 0, 4123]) from by decide +kernel) (show HS h from hs) rfl (by decide) rfl ?_
    exact e_retI (show pAt 184 183 = some (183, .ireturn, 1, []) from by decide +kernel) rfl vc
  · replace vc := vc.2 c1
    refine e_aload_n (show pAt 184 161 = some (161, .aload_n 0, 1, []) from by decide +kernel) rfl (ra (by decide)) ?_
    refine e_gR (show pAt 184 162 = some (162, .getfield 184, 3, [7, 57, 0, 4180]) from by decide +kernel) (show HS h from hs) rfl (by decide) (hs_ref (show HS h from hs) rfl) ?_
    refine e_iload_n (show pAt 184 165 = some (165, .iload_n 1, 1, []) from by decide +kernel) rfl ?_
    refine e_aload_n (show pAt 184 166 = some (166, .aload_n 0, 1, []) from by decide +kernel) rfl (ra (by decide)) ?_
    refine e_gR (show pAt 184 167 = some (167, .getfield 142, 3, [7, 43, 0, 4166]) from by decide +kernel) (show HS h from hs) rfl (by decide) (hs_ref (show HS h from hs) rfl) ?_
    refine e_iload_n (show pAt 184 170 = some (170, .iload_n 1, 1, []) from by decide +kernel) rfl ?_
    obtain ⟨c2, vc⟩ := vc
    refine e_aldv (v := h.2.1 114 p.toNatClampNeg) (show pAt 184 171 = some (171, .iaload, 1, []) from by decide +kernel) (show HS h from hs) (by decide) c2 rfl ?_
    obtain ⟨c3, vc⟩ := vc
    refine e_ast (show pAt 184 172 = some (172, .iastore, 1, []) from by decide +kernel) (show HS h from hs) (by decide) c3 ?_
    refine e_iinc (c := 1) (show pAt 184 173 = some (173, .iinc 1 1, 3, []) from by decide +kernel) rfl rfl (by decide) rfl ?_
    refine e_goto (t := 155) (show pAt 184 176 = some (176, .goto (-21), 3, []) from by decide +kernel) rfl ?_
    exact vc

theorem w_mundo0 {X : Scr} {dp : Nat} {h : Hp} {Q : Option Value → Hp → Prop}  (hs : HS h)
    (vc : ((condB .ne (h.2.1 93 44) 0 = true → Ends X dp 185 60 [.ref 93, .int 0] [] (hpI (hpI (hpI (hpI (hpI (hpI h 93 10 (h.2.1 93 45)) 93 0 (h.2.1 93 46)) 93 1 (h.2.1 93 47)) 93 2 (h.2.1 93 48)) 93 41 (h.2.1 93 49)) 93 42 (h.2.1 93 50)) Q) ∧ (condB .ne (h.2.1 93 44) 0 = false → Q (some (.int (-3))) h))) :
    Ends X dp 185 0 [.ref 93, .retAddr 0] [] h Q := by
  have ra : ∀ {a : Nat}, a < 1000 → a ≤ OLDB := fun h => by have := OLDB_eq; omega
  refine e_aload_n (show pAt 185 0 = some (0, .aload_n 0, 1, []) from by decide +kernel) rfl (ra (by decide)) ?_
  refine e_gIv (v := h.2.1 93 44) (show pAt 185 1 = some (1, .getfield 145, 3, [7, 44, 0, 4167]) from by decide +kernel) (show HS h from hs) rfl (by decide) rfl ?_
  refine e_if (t := 10) (show pAt 185 4 = some (4, .ifCond .ne 6, 3, []) from by decide +kernel) rfl (fun c1 => ?_) (fun c1 => ?_)
  · replace vc := vc.1 c1
    refine e_aload_n (show pAt 185 10 = some (10, .aload_n 0, 1, []) from by decide +kernel) rfl (ra (by decide)) ?_
    refine e_aload_n (show pAt 185 11 = some (11, .aload_n 0, 1, []) from by decide +kernel) rfl (ra (by decide)) ?_
    refine e_gIv (v := h.2.1 93 45) (show pAt 185 12 = some (12, .getfield 148, 3, [7, 45, 0, 4168]) from by decide +kernel) (show HS h from hs) rfl (by decide) rfl ?_
    refine e_pI (show pAt 185 15 = some (15, .putfield 41, 3, [7, 10, 0, 4133]) from by decide +kernel) (show HS h from hs) (by decide) (Or.inl rfl) ?_
    refine e_aload_n (show pAt 185 18 = some (18, .aload_n 0, 1, []) from by decide +kernel) rfl (ra (by decide)) ?_
    refine e_aload_n (show pAt 185 19 = some (19, .aload_n 0, 1, []) from by decide +kernel) rfl (ra (by decide)) ?_
    refine e_gIv (v := h.2.1 93 46) (show pAt 185 20 = some (20, .getfield 151, 3, [7, 46, 0, 4169]) from by decide +kernel) (show HS (hpI h 93 10 (h.2.1 93 45)) from hs) rfl (by decide) rfl ?_
    refine e_pI (show pAt 185 23 = some (23, .putfield 7, 3, [7, 0, 0, 4123]) from by decide +kernel) (show HS (hpI h 93 10 (h.2.1 93 45)) from hs) (by decide) (Or.inl rfl) ?_
    refine e_aload_n (show pAt 185 26 = some (26, .aload_n 0, 1, []) from by decide +kernel) rfl (ra (by decide)) ?_
    refine e_aload_n (show pAt 185 27 = some (27, .aload_n 0, 1, []) from by decide +kernel) rfl (ra (by decide)) ?_
    refine e_gIv (v := h.2.1 93 47) (show pAt 185 28 = some (28, .getfield 154, 3, [7, 47, 0, 4170]) from by decide +kernel) (show HS (hpI (hpI h 93 10 (h.2.1 93 45)) 93 0 (h.2.1 93 46)) from hs) rfl (by decide) rfl ?_
    refine e_pI (show pAt 185 31 = some (31, .putfield 13, 3, [7, 1, 0, 4124]) from by decide +kernel) (show HS (hpI (hpI h 93 10 (h.2.1 93 45)) 93 0 (h.2.1 93 46)) from hs) (by decide) (Or.inl rfl) ?_
    refine e_aload_n (show pAt 185 34 = some (34, .aload_n 0, 1, []) from by decide +kernel) rfl (ra (by decide)) ?_
    refine e_aload_n (show pAt 185 35 = some (35, .aload_n 0, 1, []) from by decide +kernel) rfl (ra (by decide)) ?_
    refine e_gIv (v := h.2.1 93 48) (show pAt 185 36 = some (36, .getfield 157, 3, [7, 48, 0, 4171]) from by decide +kernel) (show HS (hpI (hpI (hpI h 93 10 (h.2.1 93 45)) 93 0 (h.2.1 93 46)) 93 1 (h.2.1 93 47)) from hs) rfl (by decide) rfl ?_
    refine e_pI (show pAt 185 39 = some (39, .putfield 16, 3, [7, 2, 0, 4125]) from by decide +kernel) (show HS (hpI (hpI (hpI h 93 10 (h.2.1 93 45)) 93 0 (h.2.1 93 46)) 93 1 (h.2.1 93 47)) from hs) (by decide) (Or.inl rfl) ?_
    refine e_aload_n (show pAt 185 42 = some (42, .aload_n 0, 1, []) from by decide +kernel) rfl (ra (by decide)) ?_
    refine e_aload_n (show pAt 185 43 = some (43, .aload_n 0, 1, []) from by decide +kernel) rfl (ra (by decide)) ?_
    refine e_gIv (v := h.2.1 93 49) (show pAt 185 44 = some (44, .getfield 160, 3, [7, 49, 0, 4172]) from by decide +kernel) (show HS (hpI (hpI (hpI (hpI h 93 10 (h.2.1 93 45)) 93 0 (h.2.1 93 46)) 93 1 (h.2.1 93 47)) 93 2 (h.2.1 93 48)) from hs) rfl (by decide) rfl ?_
    refine e_pI (show pAt 185 47 = some (47, .putfield 136, 3, [7, 41, 0, 4164]) from by decide +kernel) (show HS (hpI (hpI (hpI (hpI h 93 10 (h.2.1 93 45)) 93 0 (h.2.1 93 46)) 93 1 (h.2.1 93 47)) 93 2 (h.2.1 93 48)) from hs) (by decide) (Or.inl rfl) ?_
    refine e_aload_n (show pAt 185 50 = some (50, .aload_n 0, 1, []) from by decide +kernel) rfl (ra (by decide)) ?_
    refine e_aload_n (show pAt 185 51 = some (51, .aload_n 0, 1, []) from by decide +kernel) rfl (ra (by decide)) ?_
    refine e_gIv (v := h.2.1 93 50) (show pAt 185 52 = some (52, .getfield 163, 3, [7, 50, 0, 4173]) from by decide +kernel) (show HS (hpI (hpI (hpI (hpI (hpI h 93 10 (h.2.1 93 45)) 93 0 (h.2.1 93 46)) 93 1 (h.2.1 93 47)) 93 2 (h.2.1 93 48)) 93 41 (h.2.1 93 49)) from hs) rfl (by decide) rfl ?_
    refine e_pI (show pAt 185 55 = some (55, .putfield 139, 3, [7, 42, 0, 4165]) from by decide +kernel) (show HS (hpI (hpI (hpI (hpI (hpI h 93 10 (h.2.1 93 45)) 93 0 (h.2.1 93 46)) 93 1 (h.2.1 93 47)) 93 2 (h.2.1 93 48)) 93 41 (h.2.1 93 49)) from hs) (by decide) (Or.inl rfl) ?_
    refine e_iconst (c := 0) (show pAt 185 58 = some (58, .iconst 0, 1, []) from by decide +kernel) (by decide) ?_
    refine e_istore_n (show pAt 185 59 = some (59, .istore_n 1, 1, []) from by decide +kernel) ⟨Nat.le_of_ble_eq_true rfl, rfl⟩ rfl ?_
    exact vc
  · replace vc := vc.2 c1
    refine e_bipush (c := (-3)) (show pAt 185 7 = some (7, .bipush (-3), 2, []) from by decide +kernel) (by decide) ?_
    exact e_retI (show pAt 185 9 = some (9, .ireturn, 1, []) from by decide +kernel) rfl vc

theorem w_mundo1 {X : Scr} {dp : Nat} {h : Hp} {Q : Option Value → Hp → Prop} (p : Int32) (hs : HS h)
    (vc : ((condB .ge p 7 = true → Ends X dp 185 134 [.ref 93, .int 0] [] h Q) ∧ (condB .ge p 7 = false → (inB p 7 = true ∧ (inB p 7 = true ∧ (inB p 7 = true ∧ (inB p 7 = true ∧ (inB p 7 = true ∧ (inB p 7 = true ∧ (inB p 7 = true ∧ (inB p 7 = true ∧ (inB p 7 = true ∧ (inB p 7 = true ∧ Ends X dp 185 60 [.ref 93, .int (p + 1)] [] (hpI (hpI (hpI (hpI (hpI h 94 p.toNatClampNeg (h.2.1 115 p.toNatClampNeg)) 95 p.toNatClampNeg (h.2.1 116 p.toNatClampNeg)) 96 p.toNatClampNeg (h.2.1 117 p.toNatClampNeg)) 97 p.toNatClampNeg (h.2.1 118 p.toNatClampNeg)) 98 p.toNatClampNeg (h.2.1 119 p.toNatClampNeg)) Q))))))))))))) :
    Ends X dp 185 60 [.ref 93, .int p] [] h Q := by
  have ra : ∀ {a : Nat}, a < 1000 → a ≤ OLDB := fun h => by have := OLDB_eq; omega
  refine e_iload_n (show pAt 185 60 = some (60, .iload_n 1, 1, []) from by decide +kernel) rfl ?_
  refine e_bipush (c := 7) (show pAt 185 61 = some (61, .bipush 7, 2, []) from by decide +kernel) (by decide) ?_
  refine e_icmp (t := 132) (show pAt 185 63 = some (63, .if_icmp .ge 69, 3, []) from by decide +kernel) rfl (fun c1 => ?_) (fun c1 => ?_)
  · replace vc := vc.1 c1
    refine e_iconst (c := 0) (show pAt 185 132 = some (132, .iconst 0, 1, []) from by decide +kernel) (by decide) ?_
    refine e_istore_n (show pAt 185 133 = some (133, .istore_n 1, 1, []) from by decide +kernel) ⟨Nat.le_of_ble_eq_true rfl, rfl⟩ rfl ?_
    exact vc
  · replace vc := vc.2 c1
    refine e_aload_n (show pAt 185 66 = some (66, .aload_n 0, 1, []) from by decide +kernel) rfl (ra (by decide)) ?_
    refine e_gR (show pAt 185 67 = some (67, .getfield 19, 3, [7, 3, 0, 4126]) from by decide +kernel) (show HS h from hs) rfl (by decide) (hs_ref (show HS h from hs) rfl) ?_
    refine e_iload_n (show pAt 185 70 = some (70, .iload_n 1, 1, []) from by decide +kernel) rfl ?_
    refine e_aload_n (show pAt 185 71 = some (71, .aload_n 0, 1, []) from by decide +kernel) rfl (ra (by decide)) ?_
    refine e_gR (show pAt 185 72 = some (72, .getfield 166, 3, [7, 51, 0, 4174]) from by decide +kernel) (show HS h from hs) rfl (by decide) (hs_ref (show HS h from hs) rfl) ?_
    refine e_iload_n (show pAt 185 75 = some (75, .iload_n 1, 1, []) from by decide +kernel) rfl ?_
    obtain ⟨c2, vc⟩ := vc
    refine e_aldv (v := h.2.1 115 p.toNatClampNeg) (show pAt 185 76 = some (76, .iaload, 1, []) from by decide +kernel) (show HS h from hs) (by decide) c2 rfl ?_
    obtain ⟨c3, vc⟩ := vc
    refine e_ast (show pAt 185 77 = some (77, .iastore, 1, []) from by decide +kernel) (show HS h from hs) (by decide) c3 ?_
    refine e_aload_n (show pAt 185 78 = some (78, .aload_n 0, 1, []) from by decide +kernel) rfl (ra (by decide)) ?_
    refine e_gR (show pAt 185 79 = some (79, .getfield 23, 3, [7, 4, 0, 4127]) from by decide +kernel) (show HS (hpI h 94 p.toNatClampNeg (h.2.1 115 p.toNatClampNeg)) from hs) rfl (by decide) (hs_ref (show HS (hpI h 94 p.toNatClampNeg (h.2.1 115 p.toNatClampNeg)) from hs) rfl) ?_
    refine e_iload_n (show pAt 185 82 = some (82, .iload_n 1, 1, []) from by decide +kernel) rfl ?_
    refine e_aload_n (show pAt 185 83 = some (83, .aload_n 0, 1, []) from by decide +kernel) rfl (ra (by decide)) ?_
    refine e_gR (show pAt 185 84 = some (84, .getfield 169, 3, [7, 52, 0, 4175]) from by decide +kernel) (show HS (hpI h 94 p.toNatClampNeg (h.2.1 115 p.toNatClampNeg)) from hs) rfl (by decide) (hs_ref (show HS (hpI h 94 p.toNatClampNeg (h.2.1 115 p.toNatClampNeg)) from hs) rfl) ?_
    refine e_iload_n (show pAt 185 87 = some (87, .iload_n 1, 1, []) from by decide +kernel) rfl ?_
    obtain ⟨c4, vc⟩ := vc
    refine e_aldv (v := h.2.1 116 p.toNatClampNeg) (show pAt 185 88 = some (88, .iaload, 1, []) from by decide +kernel) (show HS (hpI h 94 p.toNatClampNeg (h.2.1 115 p.toNatClampNeg)) from hs) (by decide) c4 rfl ?_
    obtain ⟨c5, vc⟩ := vc
    refine e_ast (show pAt 185 89 = some (89, .iastore, 1, []) from by decide +kernel) (show HS (hpI h 94 p.toNatClampNeg (h.2.1 115 p.toNatClampNeg)) from hs) (by decide) c5 ?_
    refine e_aload_n (show pAt 185 90 = some (90, .aload_n 0, 1, []) from by decide +kernel) rfl (ra (by decide)) ?_
    refine e_gR (show pAt 185 91 = some (91, .getfield 26, 3, [7, 5, 0, 4128]) from by decide +kernel) (show HS (hpI (hpI h 94 p.toNatClampNeg (h.2.1 115 p.toNatClampNeg)) 95 p.toNatClampNeg (h.2.1 116 p.toNatClampNeg)) from hs) rfl (by decide) (hs_ref (show HS (hpI (hpI h 94 p.toNatClampNeg (h.2.1 115 p.toNatClampNeg)) 95 p.toNatClampNeg (h.2.1 116 p.toNatClampNeg)) from hs) rfl) ?_
    refine e_iload_n (show pAt 185 94 = some (94, .iload_n 1, 1, []) from by decide +kernel) rfl ?_
    refine e_aload_n (show pAt 185 95 = some (95, .aload_n 0, 1, []) from by decide +kernel) rfl (ra (by decide)) ?_
    refine e_gR (show pAt 185 96 = some (96, .getfield 172, 3, [7, 53, 0, 4176]) from by decide +kernel) (show HS (hpI (hpI h 94 p.toNatClampNeg (h.2.1 115 p.toNatClampNeg)) 95 p.toNatClampNeg (h.2.1 116 p.toNatClampNeg)) from hs) rfl (by decide) (hs_ref (show HS (hpI (hpI h 94 p.toNatClampNeg (h.2.1 115 p.toNatClampNeg)) 95 p.toNatClampNeg (h.2.1 116 p.toNatClampNeg)) from hs) rfl) ?_
    refine e_iload_n (show pAt 185 99 = some (99, .iload_n 1, 1, []) from by decide +kernel) rfl ?_
    obtain ⟨c6, vc⟩ := vc
    refine e_aldv (v := h.2.1 117 p.toNatClampNeg) (show pAt 185 100 = some (100, .iaload, 1, []) from by decide +kernel) (show HS (hpI (hpI h 94 p.toNatClampNeg (h.2.1 115 p.toNatClampNeg)) 95 p.toNatClampNeg (h.2.1 116 p.toNatClampNeg)) from hs) (by decide) c6 rfl ?_
    obtain ⟨c7, vc⟩ := vc
    refine e_ast (show pAt 185 101 = some (101, .iastore, 1, []) from by decide +kernel) (show HS (hpI (hpI h 94 p.toNatClampNeg (h.2.1 115 p.toNatClampNeg)) 95 p.toNatClampNeg (h.2.1 116 p.toNatClampNeg)) from hs) (by decide) c7 ?_
    refine e_aload_n (show pAt 185 102 = some (102, .aload_n 0, 1, []) from by decide +kernel) rfl (ra (by decide)) ?_
    refine e_gR (show pAt 185 103 = some (103, .getfield 29, 3, [7, 6, 0, 4129]) from by decide +kernel) (show HS (hpI (hpI (hpI h 94 p.toNatClampNeg (h.2.1 115 p.toNatClampNeg)) 95 p.toNatClampNeg (h.2.1 116 p.toNatClampNeg)) 96 p.toNatClampNeg (h.2.1 117 p.toNatClampNeg)) from hs) rfl (by decide) (hs_ref (show HS (hpI (hpI (hpI h 94 p.toNatClampNeg (h.2.1 115 p.toNatClampNeg)) 95 p.toNatClampNeg (h.2.1 116 p.toNatClampNeg)) 96 p.toNatClampNeg (h.2.1 117 p.toNatClampNeg)) from hs) rfl) ?_
    refine e_iload_n (show pAt 185 106 = some (106, .iload_n 1, 1, []) from by decide +kernel) rfl ?_
    refine e_aload_n (show pAt 185 107 = some (107, .aload_n 0, 1, []) from by decide +kernel) rfl (ra (by decide)) ?_
    refine e_gR (show pAt 185 108 = some (108, .getfield 175, 3, [7, 54, 0, 4177]) from by decide +kernel) (show HS (hpI (hpI (hpI h 94 p.toNatClampNeg (h.2.1 115 p.toNatClampNeg)) 95 p.toNatClampNeg (h.2.1 116 p.toNatClampNeg)) 96 p.toNatClampNeg (h.2.1 117 p.toNatClampNeg)) from hs) rfl (by decide) (hs_ref (show HS (hpI (hpI (hpI h 94 p.toNatClampNeg (h.2.1 115 p.toNatClampNeg)) 95 p.toNatClampNeg (h.2.1 116 p.toNatClampNeg)) 96 p.toNatClampNeg (h.2.1 117 p.toNatClampNeg)) from hs) rfl) ?_
    refine e_iload_n (show pAt 185 111 = some (111, .iload_n 1, 1, []) from by decide +kernel) rfl ?_
    obtain ⟨c8, vc⟩ := vc
    refine e_aldv (v := h.2.1 118 p.toNatClampNeg) (show pAt 185 112 = some (112, .iaload, 1, []) from by decide +kernel) (show HS (hpI (hpI (hpI h 94 p.toNatClampNeg (h.2.1 115 p.toNatClampNeg)) 95 p.toNatClampNeg (h.2.1 116 p.toNatClampNeg)) 96 p.toNatClampNeg (h.2.1 117 p.toNatClampNeg)) from hs) (by decide) c8 rfl ?_
    obtain ⟨c9, vc⟩ := vc
    refine e_ast (show pAt 185 113 = some (113, .iastore, 1, []) from by decide +kernel) (show HS (hpI (hpI (hpI h 94 p.toNatClampNeg (h.2.1 115 p.toNatClampNeg)) 95 p.toNatClampNeg (h.2.1 116 p.toNatClampNeg)) 96 p.toNatClampNeg (h.2.1 117 p.toNatClampNeg)) from hs) (by decide) c9 ?_
    refine e_aload_n (show pAt 185 114 = some (114, .aload_n 0, 1, []) from by decide +kernel) rfl (ra (by decide)) ?_
    refine e_gR (show pAt 185 115 = some (115, .getfield 32, 3, [7, 7, 0, 4130]) from by decide +kernel) (show HS (hpI (hpI (hpI (hpI h 94 p.toNatClampNeg (h.2.1 115 p.toNatClampNeg)) 95 p.toNatClampNeg (h.2.1 116 p.toNatClampNeg)) 96 p.toNatClampNeg (h.2.1 117 p.toNatClampNeg)) 97 p.toNatClampNeg (h.2.1 118 p.toNatClampNeg)) from hs) rfl (by decide) (hs_ref (show HS (hpI (hpI (hpI (hpI h 94 p.toNatClampNeg (h.2.1 115 p.toNatClampNeg)) 95 p.toNatClampNeg (h.2.1 116 p.toNatClampNeg)) 96 p.toNatClampNeg (h.2.1 117 p.toNatClampNeg)) 97 p.toNatClampNeg (h.2.1 118 p.toNatClampNeg)) from hs) rfl) ?_
    refine e_iload_n (show pAt 185 118 = some (118, .iload_n 1, 1, []) from by decide +kernel) rfl ?_
    refine e_aload_n (show pAt 185 119 = some (119, .aload_n 0, 1, []) from by decide +kernel) rfl (ra (by decide)) ?_
    refine e_gR (show pAt 185 120 = some (120, .getfield 178, 3, [7, 55, 0, 4178]) from by decide +kernel) (show HS (hpI (hpI (hpI (hpI h 94 p.toNatClampNeg (h.2.1 115 p.toNatClampNeg)) 95 p.toNatClampNeg (h.2.1 116 p.toNatClampNeg)) 96 p.toNatClampNeg (h.2.1 117 p.toNatClampNeg)) 97 p.toNatClampNeg (h.2.1 118 p.toNatClampNeg)) from hs) rfl (by decide) (hs_ref (show HS (hpI (hpI (hpI (hpI h 94 p.toNatClampNeg (h.2.1 115 p.toNatClampNeg)) 95 p.toNatClampNeg (h.2.1 116 p.toNatClampNeg)) 96 p.toNatClampNeg (h.2.1 117 p.toNatClampNeg)) 97 p.toNatClampNeg (h.2.1 118 p.toNatClampNeg)) from hs) rfl) ?_
    refine e_iload_n (show pAt 185 123 = some (123, .iload_n 1, 1, []) from by decide +kernel) rfl ?_
    obtain ⟨c10, vc⟩ := vc
    refine e_aldv (v := h.2.1 119 p.toNatClampNeg) (show pAt 185 124 = some (124, .iaload, 1, []) from by decide +kernel) (show HS (hpI (hpI (hpI (hpI h 94 p.toNatClampNeg (h.2.1 115 p.toNatClampNeg)) 95 p.toNatClampNeg (h.2.1 116 p.toNatClampNeg)) 96 p.toNatClampNeg (h.2.1 117 p.toNatClampNeg)) 97 p.toNatClampNeg (h.2.1 118 p.toNatClampNeg)) from hs) (by decide) c10 rfl ?_
    obtain ⟨c11, vc⟩ := vc
    refine e_ast (show pAt 185 125 = some (125, .iastore, 1, []) from by decide +kernel) (show HS (hpI (hpI (hpI (hpI h 94 p.toNatClampNeg (h.2.1 115 p.toNatClampNeg)) 95 p.toNatClampNeg (h.2.1 116 p.toNatClampNeg)) 96 p.toNatClampNeg (h.2.1 117 p.toNatClampNeg)) 97 p.toNatClampNeg (h.2.1 118 p.toNatClampNeg)) from hs) (by decide) c11 ?_
    refine e_iinc (c := 1) (show pAt 185 126 = some (126, .iinc 1 1, 3, []) from by decide +kernel) rfl rfl (by decide) rfl ?_
    refine e_goto (t := 60) (show pAt 185 129 = some (129, .goto (-69), 3, []) from by decide +kernel) rfl ?_
    exact vc

theorem w_mundo2 {X : Scr} {dp : Nat} {h : Hp} {Q : Option Value → Hp → Prop} (p : Int32) (hs : HS h)
    (vc : ((condB .ge p 28 = true → Ends X dp 185 160 [.ref 93, .int 0] [] h Q) ∧ (condB .ge p 28 = false → (inB p 28 = true ∧ (inB p 28 = true ∧ Ends X dp 185 134 [.ref 93, .int (p + 1)] [] (hpI h 99 p.toNatClampNeg (h.2.1 120 p.toNatClampNeg)) Q))))) :
    Ends X dp 185 134 [.ref 93, .int p] [] h Q := by
  have ra : ∀ {a : Nat}, a < 1000 → a ≤ OLDB := fun h => by have := OLDB_eq; omega
  refine e_iload_n (show pAt 185 134 = some (134, .iload_n 1, 1, []) from by decide +kernel) rfl ?_
  refine e_bipush (c := 28) (show pAt 185 135 = some (135, .bipush 28, 2, []) from by decide +kernel) (by decide) ?_
  refine e_icmp (t := 158) (show pAt 185 137 = some (137, .if_icmp .ge 21, 3, []) from by decide +kernel) rfl (fun c1 => ?_) (fun c1 => ?_)
  · replace vc := vc.1 c1
    refine e_iconst (c := 0) (show pAt 185 158 = some (158, .iconst 0, 1, []) from by decide +kernel) (by decide) ?_
    refine e_istore_n (show pAt 185 159 = some (159, .istore_n 1, 1, []) from by decide +kernel) ⟨Nat.le_of_ble_eq_true rfl, rfl⟩ rfl ?_
    exact vc
  · replace vc := vc.2 c1
    refine e_aload_n (show pAt 185 140 = some (140, .aload_n 0, 1, []) from by decide +kernel) rfl (ra (by decide)) ?_
    refine e_gR (show pAt 185 141 = some (141, .getfield 35, 3, [7, 8, 0, 4131]) from by decide +kernel) (show HS h from hs) rfl (by decide) (hs_ref (show HS h from hs) rfl) ?_
    refine e_iload_n (show pAt 185 144 = some (144, .iload_n 1, 1, []) from by decide +kernel) rfl ?_
    refine e_aload_n (show pAt 185 145 = some (145, .aload_n 0, 1, []) from by decide +kernel) rfl (ra (by decide)) ?_
    refine e_gR (show pAt 185 146 = some (146, .getfield 181, 3, [7, 56, 0, 4179]) from by decide +kernel) (show HS h from hs) rfl (by decide) (hs_ref (show HS h from hs) rfl) ?_
    refine e_iload_n (show pAt 185 149 = some (149, .iload_n 1, 1, []) from by decide +kernel) rfl ?_
    obtain ⟨c2, vc⟩ := vc
    refine e_aldv (v := h.2.1 120 p.toNatClampNeg) (show pAt 185 150 = some (150, .iaload, 1, []) from by decide +kernel) (show HS h from hs) (by decide) c2 rfl ?_
    obtain ⟨c3, vc⟩ := vc
    refine e_ast (show pAt 185 151 = some (151, .iastore, 1, []) from by decide +kernel) (show HS h from hs) (by decide) c3 ?_
    refine e_iinc (c := 1) (show pAt 185 152 = some (152, .iinc 1 1, 3, []) from by decide +kernel) rfl rfl (by decide) rfl ?_
    refine e_goto (t := 134) (show pAt 185 155 = some (155, .goto (-21), 3, []) from by decide +kernel) rfl ?_
    exact vc

theorem w_mundo3 {X : Scr} {dp : Nat} {h : Hp} {Q : Option Value → Hp → Prop} (p : Int32) (hs : HS h)
    (vc : ((condB .ge p 12 = true → Q (some (.int (h.2.1 93 0))) h) ∧ (condB .ge p 12 = false → (inB p 12 = true ∧ (inB p 12 = true ∧ Ends X dp 185 160 [.ref 93, .int (p + 1)] [] (hpI h 114 p.toNatClampNeg (h.2.1 121 p.toNatClampNeg)) Q))))) :
    Ends X dp 185 160 [.ref 93, .int p] [] h Q := by
  have ra : ∀ {a : Nat}, a < 1000 → a ≤ OLDB := fun h => by have := OLDB_eq; omega
  refine e_iload_n (show pAt 185 160 = some (160, .iload_n 1, 1, []) from by decide +kernel) rfl ?_
  refine e_bipush (c := 12) (show pAt 185 161 = some (161, .bipush 12, 2, []) from by decide +kernel) (by decide) ?_
  refine e_icmp (t := 184) (show pAt 185 163 = some (163, .if_icmp .ge 21, 3, []) from by decide +kernel) rfl (fun c1 => ?_) (fun c1 => ?_)
  · replace vc := vc.1 c1
    refine e_aload_n (show pAt 185 184 = some (184, .aload_n 0, 1, []) from by decide +kernel) rfl (ra (by decide)) ?_
    refine e_gIv (v := h.2.1 93 0) (show pAt 185 185 = some (185, .getfield 7, 3, [7, 0, 0, 4123]) from by decide +kernel) (show HS h from hs) rfl (by decide) rfl ?_
    exact e_retI (show pAt 185 188 = some (188, .ireturn, 1, []) from by decide +kernel) rfl vc
  · replace vc := vc.2 c1
    refine e_aload_n (show pAt 185 166 = some (166, .aload_n 0, 1, []) from by decide +kernel) rfl (ra (by decide)) ?_
    refine e_gR (show pAt 185 167 = some (167, .getfield 142, 3, [7, 43, 0, 4166]) from by decide +kernel) (show HS h from hs) rfl (by decide) (hs_ref (show HS h from hs) rfl) ?_
    refine e_iload_n (show pAt 185 170 = some (170, .iload_n 1, 1, []) from by decide +kernel) rfl ?_
    refine e_aload_n (show pAt 185 171 = some (171, .aload_n 0, 1, []) from by decide +kernel) rfl (ra (by decide)) ?_
    refine e_gR (show pAt 185 172 = some (172, .getfield 184, 3, [7, 57, 0, 4180]) from by decide +kernel) (show HS h from hs) rfl (by decide) (hs_ref (show HS h from hs) rfl) ?_
    refine e_iload_n (show pAt 185 175 = some (175, .iload_n 1, 1, []) from by decide +kernel) rfl ?_
    obtain ⟨c2, vc⟩ := vc
    refine e_aldv (v := h.2.1 121 p.toNatClampNeg) (show pAt 185 176 = some (176, .iaload, 1, []) from by decide +kernel) (show HS h from hs) (by decide) c2 rfl ?_
    obtain ⟨c3, vc⟩ := vc
    refine e_ast (show pAt 185 177 = some (177, .iastore, 1, []) from by decide +kernel) (show HS h from hs) (by decide) c3 ?_
    refine e_iinc (c := 1) (show pAt 185 178 = some (178, .iinc 1 1, 3, []) from by decide +kernel) rfl rfl (by decide) rfl ?_
    refine e_goto (t := 160) (show pAt 185 181 = some (181, .goto (-21), 3, []) from by decide +kernel) rfl ?_
    exact vc
end JN87person
section JN88person2
/-! person of both sides, exactly. -/
theorem Ends.and {X : Scr} {dp y pc : Nat} {L st : List Value} {h : Hp} {Q Q' : Option Value → Hp → Prop} (e : Ends X dp y pc L st h Q) (e' : Ends X dp y pc L st h Q') : Ends X dp y pc L st h (fun v h' => Q v h' ∧ Q' v h') := by
  obtain ⟨n, v, h1, r1, q1⟩ := e
  obtain ⟨m, w, h2, r2, q2⟩ := e'
  have a := run_le (Nat.le_max_left n m) r1
  have b := run_le (Nat.le_max_right n m) r2
  rw [a] at b
  cases b
  exact ⟨n, v, h1, r1, q1, q2⟩
def inR (x : Int32) (lo hi : Int) : Bool := decide (lo ≤ x.toInt) && decide (x.toInt ≤ hi)
/-- what person answers -/
def perAns (sz k v l p s : Int32) : Int32 := if inR k 0 6 = false then -1 else if (inR v 0 9 && inR l 0 6 && inR p 0 9 && inR s 0 9) = false then -2 else if sz.toInt = 7 then -4 else sz
def perOK (sz k v l p s : Int32) : Bool := inR k 0 6 && (inR v 0 9 && inR l 0 6 && inR p 0 9 && inR s 0 9) && !decide (sz.toInt = 7)
/-- one more in the class's group -/
def joinH (h : Hp) (k v l p s : Int32) : Hp := hpI (hpI (hpI (hpI (hpI (hpI h 2 (h.2.1 1 0).toInt.toNat k) 3 (h.2.1 1 0).toInt.toNat v) 4 (h.2.1 1 0).toInt.toNat l) 5 (h.2.1 1 0).toInt.toNat p) 6 (h.2.1 1 0).toInt.toNat s) 1 0 (h.2.1 1 0 + 1)
section PER
variable {X : Scr} {dp : Nat} {h : Hp} {Q : Option Value → Hp → Prop}
theorem isDigit_ok (n : Int32) (hs : HS h) (hQ : Q (some (.int (b2i (inR n 0 9)))) h) : Ends X dp 102 0 [.int n] [] h Q := by
  unfold inR at hQ
  refine w_isDigit n hs ⟨fun e => ?_, fun e => ⟨fun e2 => ?_, fun e2 => ?_⟩⟩
  · have e : n.toInt < 0 := of_decide_eq_true (cI e)
    rwa [decide_eq_false (by omega : ¬ 0 ≤ n.toInt)] at hQ
  · have e : ¬ n.toInt < 0 := of_decide_eq_false (cI e)
    have e2 : 9 < n.toInt := of_decide_eq_true (cI e2)
    rwa [decide_eq_true (by omega : 0 ≤ n.toInt), decide_eq_false (by omega : ¬ n.toInt ≤ 9)] at hQ
  · have e : ¬ n.toInt < 0 := of_decide_eq_false (cI e)
    have e2 : ¬ 9 < n.toInt := of_decide_eq_false (cI e2)
    rwa [decide_eq_true (by omega : 0 ≤ n.toInt), decide_eq_true (by omega : n.toInt ≤ 9)] at hQ
theorem isLane_ok (n : Int32) (hs : HS h) (hQ : Q (some (.int (b2i (inR n 0 6)))) h) : Ends X dp 103 0 [.int n] [] h Q := by
  unfold inR at hQ
  refine w_isLane n hs ⟨fun e => ?_, fun e => ⟨fun e2 => ?_, fun e2 => ?_⟩⟩
  · have e : n.toInt < 0 := of_decide_eq_true (cI e)
    rwa [decide_eq_false (by omega : ¬ 0 ≤ n.toInt)] at hQ
  · have e : ¬ n.toInt < 0 := of_decide_eq_false (cI e)
    have e2 : 7 ≤ n.toInt := of_decide_eq_true (cI e2)
    rwa [decide_eq_true (by omega : 0 ≤ n.toInt), decide_eq_false (by omega : ¬ n.toInt ≤ 6)] at hQ
  · have e : ¬ n.toInt < 0 := of_decide_eq_false (cI e)
    have e2 : ¬ 7 ≤ n.toInt := of_decide_eq_false (cI e2)
    rwa [decide_eq_true (by omega : 0 ≤ n.toInt), decide_eq_true (by omega : n.toInt ≤ 6)] at hQ
theorem joins_ok (k v l p s : Int32) (hh : HI h) (h7 : (h.2.1 1 0).toInt = 7 → Q (some (.int (-4))) h) (hn : ¬ (h.2.1 1 0).toInt = 7 → Q (some (.int (h.2.1 1 0))) (joinH h k v l p s)) : Ends X dp 31 0 [.ref 1, .int k, .int v, .int l, .int p, .int s, .retAddr 0] [] h Q := by
  have b := hh.iv 1 0 (r := (0, 7)) rfl
  simp only at b
  refine w_joins k v l p s hh.hs ⟨fun e => ?_, fun e => ⟨fun e2 => ?_, fun e2 => ?_⟩⟩
  · exfalso
    have e : (h.2.1 1 0).toInt < 0 := of_decide_eq_true (cI e)
    omega
  · have e2 : (h.2.1 1 0).toInt < 7 := of_decide_eq_true (cI e2)
    have i : inB (h.2.1 1 0) 7 = true := inB_iff (by omega) (by omega)
    exact ⟨i, i, i, i, i, hn (by omega)⟩
  · have e2 : ¬ (h.2.1 1 0).toInt < 7 := of_decide_eq_false (cI e2)
    exact h7 (by omega)
theorem cper_ok (k v l p s : Int32) (hh : HI h) (hQ : Q (some (.int (perAns (h.2.1 1 0) k v l p s))) (if perOK (h.2.1 1 0) k v l p s = true then joinH h k v l p s else h)) : Ends X (dp + 1) 63 0 [.ref 0, .int k, .int v, .int l, .int p, .int s] [] h Q := by
  have hs := hh.hs
  unfold perAns perOK at hQ
  have i7 : (7 : Int32).toInt = 7 := rfl
  have kb : ∀ b : Bool, inR k 0 6 = b → True := fun _ _ => trivial
  refine w_cper k v l p s hs ⟨fun e => ?_, fun e => ⟨fun e2 => isDigit_ok v hs ⟨_, rfl, hs, fun a1 => ?_, fun a1 => isLane_ok l hs ⟨_, rfl, hs, fun a2 => ?_, fun a2 => isDigit_ok p hs ⟨_, rfl, hs, fun a3 => ?_, fun a3 => isDigit_ok s hs ⟨_, rfl, hs, fun a4 => ?_, fun a4 => ?_⟩⟩⟩⟩, fun e2 => ?_⟩⟩
  · have e : k.toInt < 0 := of_decide_eq_true (cI e)
    have : inR k 0 6 = false := by unfold inR; rw [decide_eq_false (by omega : ¬ 0 ≤ k.toInt)]; rfl
    rw [this] at hQ
    exact hQ
  all_goals have e : ¬ k.toInt < 0 := of_decide_eq_false (cI e)
  all_goals try
    have e2 : k.toInt < 7 := of_decide_eq_true (cI e2)
    have hk : inR k 0 6 = true := by unfold inR; rw [decide_eq_true (by omega : 0 ≤ k.toInt), decide_eq_true (by omega : k.toInt ≤ 6)]; rfl
    rw [hk] at hQ
  · have a1 := cz a1
    rw [a1] at hQ
    exact hQ
  · have a1 := cn a1
    have a2 := cz a2
    rw [a1, a2] at hQ
    exact hQ
  · have a1 := cn a1
    have a2 := cn a2
    have a3 := cz a3
    rw [a1, a2, a3] at hQ
    exact hQ
  · have a1 := cn a1
    have a2 := cn a2
    have a3 := cn a3
    have a4 := cn2 a4
    rw [a1, a2, a3, a4] at hQ
    refine joins_ok k v l p s hh (fun q => ⟨_, rfl, hs, ?_⟩) (fun q => ⟨_, rfl, hs, ?_⟩)
    · simpa [q] using hQ
    · simpa [q] using hQ
  · have a1 := cn a1
    have a2 := cn a2
    have a3 := cn a3
    have a4 := cz2 a4
    rw [a1, a2, a3, a4] at hQ
    exact hQ
  · have e2 : ¬ k.toInt < 7 := of_decide_eq_false (cI e2)
    have : inR k 0 6 = false := by unfold inR; rw [decide_eq_false (by omega : ¬ k.toInt ≤ 6), Bool.and_false]
    rw [this] at hQ
    exact hQ
/-- one more in the reference -/
def PER (h h' : Hp) (k v l q s : Int32) : Prop := h'.2.1 93 0 = h.2.1 93 0 + 1 ∧ h'.2.1 93 2 = h.2.1 93 2 &&& ((1 <<< (h.2.1 93 0 &&& 31)) ^^^ (-1)) ∧
  (∀ j, h'.2.1 94 j = if j = (h.2.1 93 0).toInt.toNat then k else h.2.1 94 j) ∧ (∀ j, h'.2.1 95 j = if j = (h.2.1 93 0).toInt.toNat then v else h.2.1 95 j) ∧ (∀ j, h'.2.1 96 j = if j = (h.2.1 93 0).toInt.toNat then l else h.2.1 96 j) ∧
  (∀ j, h'.2.1 97 j = if j = (h.2.1 93 0).toInt.toNat then q else h.2.1 97 j) ∧ (∀ j, h'.2.1 98 j = if j = (h.2.1 93 0).toInt.toNat then s else h.2.1 98 j) ∧
  (∀ j, h'.2.1 99 j = if 4 * (h.2.1 93 0).toInt.toNat ≤ j ∧ j < 4 * (h.2.1 93 0).toInt.toNat + 4 then 0 else h.2.1 99 j)
def WPE : List (Nat × Nat) := [(93, 0), (93, 2), (94, 999), (95, 999), (96, 999), (97, 999), (98, 999), (99, 999)]
theorem WPE_in {a k : Nat} (h : (a == 94 || a == 95 || a == 96 || a == 97 || a == 98 || a == 99) = true) : inW WPE a k = true := by
  simp only [Bool.or_eq_true, beq_iff_eq] at h
  rcases h with ((((rfl | rfl) | rfl) | rfl) | rfl) | rfl <;> simp [inW, WPE]
theorem put_if {h : Hp} {a k j : Nat} {x : Int32} : (hpI h a k x).2.1 a j = if j = k then x else h.2.1 a j := by
  by_cases c : j = k
  · rw [if_pos c, c, put_at]
  · rw [if_neg c, put_ne (by omega)]
theorem i4 : (4 : Int32).toInt = 4 := rfl
theorem mper_loop (h0 h1 : Hp) (k v l q s : Int32) (pn : Nat) (hp : (h1.2.1 93 0).toInt = pn) (hpn : pn ≤ 6) (hb : 0 ≤ (h1.2.1 93 2).toInt ∧ (h1.2.1 93 2).toInt ≤ 127)
    (hQ : ∀ h', HI h' → frm WPE h0 h' → h'.2.1 93 0 = h1.2.1 93 0 + 1 → h'.2.1 93 2 = h1.2.1 93 2 &&& ((1 <<< (h1.2.1 93 0 &&& 31)) ^^^ (-1)) → (∀ a j, (a == 94 || a == 95 || a == 96 || a == 97 || a == 98) = true → h'.2.1 a j = h1.2.1 a j) → (∀ j, h'.2.1 99 j = if 4 * pn ≤ j ∧ j < 4 * pn + 4 then 0 else h1.2.1 99 j) → Q (some (.int (h1.2.1 93 0))) h') :
    ∀ (m i_n : Nat) (i : Int32) (h : Hp), HI h → frm WPE h0 h → i.toInt = i_n → i_n + m = 4 → h.2.1 93 0 = h1.2.1 93 0 → h.2.1 93 2 = h1.2.1 93 2 → (∀ a j, (a == 94 || a == 95 || a == 96 || a == 97 || a == 98) = true → h.2.1 a j = h1.2.1 a j) → (∀ j, h.2.1 99 j = if 4 * pn ≤ j ∧ j < 4 * pn + i_n then 0 else h1.2.1 99 j) →
    Ends X dp 114 129 [.ref 93, .int k, .int v, .int l, .int q, .int s, .int i] [] h Q
  | m, i_n, i, h, hh, hf, hi, hm, e0, e2, ea, e99 => by
    refine w_mper1 k v l q s i hh.hs ⟨fun e => ?_, fun e => ?_⟩
    · have e : 4 ≤ i.toInt := of_decide_eq_true (cI e)
      have hi4 : i_n = 4 := by omega
      rw [e0, e2]
      have g : (h1.2.1 93 0 + 1).toInt = ((pn + 1 : Nat) : Int) := by rw [i_add (by rw [i1]; omega) (by rw [i1]; omega), i1]; omega
      have g2 : h1.2.1 93 0 + 1 - 1 = h1.2.1 93 0 := by
        apply Int32.toInt.inj
        rw [i_sub (by rw [i1]; omega) (by rw [i1]; omega), i1]
        omega
      rw [g2]
      generalize hu : h1.2.1 93 0 + 1 = u at g
      have a1 := i_and1 (x := h1.2.1 93 2) (y := (1 <<< (h1.2.1 93 0 &&& 31)) ^^^ (-1)) hb.1
      generalize hz : h1.2.1 93 2 &&& ((1 <<< (h1.2.1 93 0 &&& 31)) ^^^ (-1)) = z at a1
      refine hQ _ (HI_put (HI_put hh (by show (0 : Int) ≤ _; omega) (by show _ ≤ (127 : Int); omega)) (by show (0 : Int) ≤ _; omega) (by show _ ≤ (7 : Int); omega)) (frm_put (frm_put hf rfl) rfl) ?_ ?_ (fun a j ha => ?_) (fun j => ?_)
      · rw [put_at, hu]
      · rw [put_ne (by omega), put_at, hz]
      · have : a ≠ 93 := by rintro rfl; cases ha
        rw [put_ne (by omega), put_ne (by omega)]
        exact ea a j ha
      · rw [put_ne (by omega), put_ne (by omega), e99 j, hi4]
    · have e : ¬ 4 ≤ i.toInt := of_decide_eq_false (cI e)
      match m, hm with
      | 0, hm => omega
      | m + 1, hm =>
        have hi1 : (i + 1).toInt = ((i_n + 1 : Nat) : Int) := by rw [i_add (by rw [i1]; omega) (by rw [i1]; omega), i1]; omega
        generalize i + 1 = i2 at hi1 ⊢
        rw [e0]
        have g : (4 * h1.2.1 93 0).toInt = ((4 * pn : Nat) : Int) := by rw [i_mul (by rw [i4]; omega) (by rw [i4]; omega), i4, hp]; omega
        generalize 4 * h1.2.1 93 0 = u at g ⊢
        have g2 : (u + i).toInt = ((4 * pn + i_n : Nat) : Int) := by rw [i_add (by omega) (by omega)]; omega
        generalize u + i = y at g2 ⊢
        have qy : y.toNatClampNeg = 4 * pn + i_n := by show y.toInt.toNat = _; omega
        refine ⟨inB_iff (by omega) (by omega), ?_⟩
        rw [qy]
        refine mper_loop h0 h1 k v l q s pn hp hpn hb hQ m (i_n + 1) i2 _ (HI_put hh (by show (0 : Int) ≤ 0; decide) (by show (0 : Int) ≤ 6; decide)) (frm_put hf (WPE_in rfl)) hi1 (by omega) (by rw [put_ne (by omega)]; exact e0) (by rw [put_ne (by omega)]; exact e2) (fun a j ha => ?_) (fun j => ?_)
        · have : a ≠ 99 := by rintro rfl; cases ha
          rw [put_ne (by omega)]
          exact ea a j ha
        · rw [put_if, e99 j]
          by_cases c : j = 4 * pn + i_n
          · rw [if_pos c, if_pos (by omega)]
          · rw [if_neg c]
            by_cases d : 4 * pn ≤ j ∧ j < 4 * pn + i_n
            · rw [if_pos d, if_pos (by omega)]
            · rw [if_neg d, if_neg (by omega)]
theorem mper_ok (k v l q s : Int32) (hh : HI h) (hQ : ∀ h', HI h' → frm WPE h h' → (if perOK (h.2.1 93 0) k v l q s = true then PER h h' k v l q s else h' = h) → Q (some (.int (perAns (h.2.1 93 0) k v l q s))) h') : Ends X (dp + 1) 114 0 [.ref 93, .int k, .int v, .int l, .int q, .int s, .retAddr 0] [] h Q := by
  have hs := hh.hs
  have no : perOK (h.2.1 93 0) k v l q s = false → Q (some (.int (perAns (h.2.1 93 0) k v l q s))) h := fun e => hQ h hh frm_refl (by rw [if_neg (by rw [e]; decide)])
  unfold perAns perOK at no hQ
  have inE : ∀ (x lo hi : Int32) (a b : Int), lo.toInt = a → hi.toInt = b → (decide (lo.toInt ≤ x.toInt) && decide (x.toInt ≤ hi.toInt)) = inR x a b := fun x lo hi a b h1 h2 => by rw [h1, h2]; rfl
  refine w_mper0 k v l q s hs (in_ok _ _ _ hs ⟨_, rfl, hs, fun a0 => in_ok _ _ _ hs ⟨_, rfl, hs, fun a1 => ?_, fun a1 => in_ok _ _ _ hs ⟨_, rfl, hs, fun a2 => ?_, fun a2 => in_ok _ _ _ hs ⟨_, rfl, hs, fun a3 => ?_, fun a3 => in_ok _ _ _ hs ⟨_, rfl, hs, fun a4 => ⟨fun a5 => ?_, fun a5 => ?_⟩, fun a4 => ?_⟩⟩⟩⟩, fun a0 => ?_⟩)
  · have a0 := cn2 a0
    have a1 := cz a1
    rw [inE k 0 6 0 6 rfl rfl] at a0
    rw [inE v 0 9 0 9 rfl rfl] at a1
    rw [a0, a1] at no
    exact no rfl
  · have a0 := cn2 a0
    have a1 := cn a1
    have a2 := cz a2
    rw [inE k 0 6 0 6 rfl rfl] at a0
    rw [inE v 0 9 0 9 rfl rfl] at a1
    rw [inE l 0 6 0 6 rfl rfl] at a2
    rw [a0, a1, a2] at no
    exact no rfl
  · have a0 := cn2 a0
    have a1 := cn a1
    have a2 := cn a2
    have a3 := cz a3
    rw [inE k 0 6 0 6 rfl rfl] at a0
    rw [inE v 0 9 0 9 rfl rfl] at a1
    rw [inE l 0 6 0 6 rfl rfl] at a2
    rw [inE q 0 9 0 9 rfl rfl] at a3
    rw [a0, a1, a2, a3] at no
    exact no rfl
  · have a0 := cn2 a0
    have a1 := cn a1
    have a2 := cn a2
    have a3 := cn a3
    have a4 := cn2 a4
    rw [inE k 0 6 0 6 rfl rfl] at a0
    rw [inE v 0 9 0 9 rfl rfl] at a1
    rw [inE l 0 6 0 6 rfl rfl] at a2
    rw [inE q 0 9 0 9 rfl rfl] at a3
    rw [inE s 0 9 0 9 rfl rfl] at a4
    have a5 : ¬ (h.2.1 93 0).toInt = 7 := of_decide_eq_true (cI a5)
    rw [a0, a1, a2, a3, a4, decide_eq_false a5, if_neg a5] at hQ
    have b := hh.iv 93 0 (r := (0, 7)) rfl
    have bc := hh.iv 93 2 (r := (0, 127)) rfl
    simp only at b bc
    have i : inB (h.2.1 93 0) 7 = true := inB_iff (by omega) (by omega)
    refine ⟨i, i, i, i, i, ?_⟩
    have qn : (h.2.1 93 0).toNatClampNeg = (h.2.1 93 0).toInt.toNat := rfl
    rw [qn]
    unfold inR at a0 a1 a2 a3 a4
    simp only [Bool.and_eq_true, decide_eq_true_eq] at a0 a1 a2 a3 a4
    generalize hpv : (h.2.1 93 0).toInt.toNat = pn at *
    have hh1 : HI (hpI (hpI (hpI (hpI (hpI h 94 pn k) 95 pn v) 96 pn l) 97 pn q) 98 pn s) := HI_put (HI_put (HI_put (HI_put (HI_put hh a0.1 a0.2) a1.1 a1.2) a2.1 a2.2) a3.1 a3.2) a4.1 a4.2
    have f1 : frm WPE h (hpI (hpI (hpI (hpI (hpI h 94 pn k) 95 pn v) 96 pn l) 97 pn q) 98 pn s) := frm_put (frm_put (frm_put (frm_put (frm_put frm_refl (WPE_in rfl)) (WPE_in rfl)) (WPE_in rfl)) (WPE_in rfl)) (WPE_in rfl)
    have c0 : (hpI (hpI (hpI (hpI (hpI h 94 pn k) 95 pn v) 96 pn l) 97 pn q) 98 pn s).2.1 93 0 = h.2.1 93 0 := by rw [put_ne (by omega), put_ne (by omega), put_ne (by omega), put_ne (by omega), put_ne (by omega)]
    have c2 : (hpI (hpI (hpI (hpI (hpI h 94 pn k) 95 pn v) 96 pn l) 97 pn q) 98 pn s).2.1 93 2 = h.2.1 93 2 := by rw [put_ne (by omega), put_ne (by omega), put_ne (by omega), put_ne (by omega), put_ne (by omega)]
    refine mper_loop h _ k v l q s pn (by rw [c0]; omega) (by omega) (by rw [c2]; exact bc) (fun h' z1 z2 z3 z4 z5 z6 => ?_) 4 0 0 _ hh1 f1 rfl (by omega) rfl rfl (fun _ _ _ => rfl) (fun j => by rw [if_neg (by omega)])
    rw [c0] at z3 z4 ⊢
    rw [c2] at z4
    refine hQ h' z1 z2 ?_
    rw [if_pos (by decide)]
    refine ⟨z3, z4, fun j => ?_, fun j => ?_, fun j => ?_, fun j => ?_, fun j => ?_, fun j => ?_⟩
    · rw [z5 94 j rfl, hpv, put_ne (by omega), put_ne (by omega), put_ne (by omega), put_ne (by omega), put_if]
    · rw [z5 95 j rfl, hpv, put_ne (by omega), put_ne (by omega), put_ne (by omega), put_if, put_ne (by omega)]
    · rw [z5 96 j rfl, hpv, put_ne (by omega), put_ne (by omega), put_if, put_ne (by omega), put_ne (by omega)]
    · rw [z5 97 j rfl, hpv, put_ne (by omega), put_if, put_ne (by omega), put_ne (by omega), put_ne (by omega)]
    · rw [z5 98 j rfl, hpv, put_if, put_ne (by omega), put_ne (by omega), put_ne (by omega), put_ne (by omega)]
    · rw [z6 j, hpv]
      split
      · rfl
      · rw [put_ne (by omega), put_ne (by omega), put_ne (by omega), put_ne (by omega), put_ne (by omega)]
  · have a0 := cn2 a0
    have a1 := cn a1
    have a2 := cn a2
    have a3 := cn a3
    have a4 := cn2 a4
    rw [inE k 0 6 0 6 rfl rfl] at a0
    rw [inE v 0 9 0 9 rfl rfl] at a1
    rw [inE l 0 6 0 6 rfl rfl] at a2
    rw [inE q 0 9 0 9 rfl rfl] at a3
    rw [inE s 0 9 0 9 rfl rfl] at a4
    have a5 : ¬ ¬ (h.2.1 93 0).toInt = 7 := of_decide_eq_false (cI a5)
    rw [a0, a1, a2, a3, a4, decide_eq_true (Decidable.not_not.mp a5), if_pos (Decidable.not_not.mp a5)] at no
    exact no rfl
  · have a0 := cn2 a0
    have a1 := cn a1
    have a2 := cn a2
    have a3 := cn a3
    have a4 := cz2 a4
    rw [inE k 0 6 0 6 rfl rfl] at a0
    rw [inE v 0 9 0 9 rfl rfl] at a1
    rw [inE l 0 6 0 6 rfl rfl] at a2
    rw [inE q 0 9 0 9 rfl rfl] at a3
    rw [inE s 0 9 0 9 rfl rfl] at a4
    rw [a0, a1, a2, a3, a4] at no
    exact no rfl
  · have a0 := cz2 a0
    rw [inE k 0 6 0 6 rfl rfl] at a0
    rw [a0] at no
    exact no rfl
end PER
end JN88person2
section JN89image
/-! image and undo of the reference, exactly. -/
theorem HI_cp {h : Hp} {a b k j : Nat} (hh : HI h) (he : ivl a k = ivl b j) : HI (hpI h a k (h.2.1 b j)) := by
  have := hh.2.1 b j
  rw [← he] at this
  exact HI_put hh this.1 this.2
/-- what the image keeps of single cells -/
def KIm (h0 h : Hp) : Prop := h.2.1 93 44 = 1 ∧ h.2.1 93 45 = h0.2.1 93 10 ∧ h.2.1 93 46 = h0.2.1 93 0 ∧ h.2.1 93 47 = h0.2.1 93 1 ∧ h.2.1 93 48 = h0.2.1 93 2 ∧ h.2.1 93 49 = h0.2.1 93 41 ∧ h.2.1 93 50 = h0.2.1 93 42
def KUn (h0 h : Hp) : Prop := h.2.1 93 10 = h0.2.1 93 45 ∧ h.2.1 93 0 = h0.2.1 93 46 ∧ h.2.1 93 1 = h0.2.1 93 47 ∧ h.2.1 93 2 = h0.2.1 93 48 ∧ h.2.1 93 41 = h0.2.1 93 49 ∧ h.2.1 93 42 = h0.2.1 93 50
def Wmig : List (Nat × Nat) := [(93, 44), (93, 45), (93, 46), (93, 47), (93, 48), (93, 49), (93, 50), (115, 999), (116, 999), (117, 999), (118, 999), (119, 999), (120, 999), (121, 999)]
theorem Wmig_115 {k : Nat} : inW Wmig 115 k = true := by simp [inW, Wmig]
theorem Wmig_116 {k : Nat} : inW Wmig 116 k = true := by simp [inW, Wmig]
theorem Wmig_117 {k : Nat} : inW Wmig 117 k = true := by simp [inW, Wmig]
theorem Wmig_118 {k : Nat} : inW Wmig 118 k = true := by simp [inW, Wmig]
theorem Wmig_119 {k : Nat} : inW Wmig 119 k = true := by simp [inW, Wmig]
theorem Wmig_120 {k : Nat} : inW Wmig 120 k = true := by simp [inW, Wmig]
theorem Wmig_121 {k : Nat} : inW Wmig 121 k = true := by simp [inW, Wmig]
section
variable {X : Scr} {dp : Nat} {h0 : Hp} {Q : Option Value → Hp → Prop}
theorem mig3 (hQ : ∀ h', HI h' → frm Wmig h0 h' → KIm h0 h' → (∀ j, j < 12 → h'.2.1 121 j = h0.2.1 114 j) → (∀ j, j < 28 → h'.2.1 120 j = h0.2.1 99 j) → (∀ j, j < 7 → h'.2.1 115 j = h0.2.1 94 j) → (∀ j, j < 7 → h'.2.1 116 j = h0.2.1 95 j) → (∀ j, j < 7 → h'.2.1 117 j = h0.2.1 96 j) → (∀ j, j < 7 → h'.2.1 118 j = h0.2.1 97 j) → (∀ j, j < 7 → h'.2.1 119 j = h0.2.1 98 j) → Q (some (.int (h'.2.1 93 0))) h') :
    ∀ (m pn : Nat) (p : Int32) (h : Hp), HI h → frm Wmig h0 h → p.toInt = pn → pn + m = 12 → KIm h0 h → (∀ j, j < pn → h.2.1 121 j = h0.2.1 114 j) → (∀ j, j < 28 → h.2.1 120 j = h0.2.1 99 j) → (∀ j, j < 7 → h.2.1 115 j = h0.2.1 94 j) → (∀ j, j < 7 → h.2.1 116 j = h0.2.1 95 j) → (∀ j, j < 7 → h.2.1 117 j = h0.2.1 96 j) → (∀ j, j < 7 → h.2.1 118 j = h0.2.1 97 j) → (∀ j, j < 7 → h.2.1 119 j = h0.2.1 98 j) →
    Ends X dp 184 155 [.ref 93, .int p] [] h Q
  | m, pn, p, h, hh, hf, hp, hm, k0, kB, kR, z0, z1, z2, z3, z4 => by
    have i12 : (12 : Int32).toInt = 12 := rfl
    refine w_mimage3 p hh.hs ⟨fun e => ?_, fun e => ?_⟩
    all_goals have e := cI e
    all_goals simp only [cndI, i12, decide_eq_true_eq, decide_eq_false_iff_not] at e
    · exact hQ h hh hf k0 (fun j hj => kB j (by omega)) kR z0 z1 z2 z3 z4
    · match m, hm with
      | 0, hm => omega
      | m + 1, hm =>
        have hp1 : (p + 1).toInt = ((pn + 1 : Nat) : Int) := by rw [i_add (by rw [i1]; omega) (by rw [i1]; omega), i1]; omega
        generalize p + 1 = p1 at hp1 ⊢
        have q : p.toNatClampNeg = pn := by show p.toInt.toNat = _; omega
        have i : inB p 12 = true := inB_iff (by omega) (by omega)
        refine ⟨i, i, ?_⟩
        rw [q]
        refine mig3 hQ m (pn + 1) p1 _ (HI_cp hh rfl) (frm_put hf Wmig_121) hp1 (by omega) (by simpa [KIm, put_ne] using k0) (fun j hj => ?_) (fun j hj => by rw [put_ne (by omega)]; exact kR j hj) (fun j hj => by rw [put_ne (by omega)]; exact z0 j hj) (fun j hj => by rw [put_ne (by omega)]; exact z1 j hj) (fun j hj => by rw [put_ne (by omega)]; exact z2 j hj) (fun j hj => by rw [put_ne (by omega)]; exact z3 j hj) (fun j hj => by rw [put_ne (by omega)]; exact z4 j hj)
        rw [put_if]
        split
        · rename_i c
          rw [c]
          exact frI hf rfl
        · exact kB j (by omega)
theorem mig2 (hQ : ∀ h', HI h' → frm Wmig h0 h' → KIm h0 h' → (∀ j, j < 12 → h'.2.1 121 j = h0.2.1 114 j) → (∀ j, j < 28 → h'.2.1 120 j = h0.2.1 99 j) → (∀ j, j < 7 → h'.2.1 115 j = h0.2.1 94 j) → (∀ j, j < 7 → h'.2.1 116 j = h0.2.1 95 j) → (∀ j, j < 7 → h'.2.1 117 j = h0.2.1 96 j) → (∀ j, j < 7 → h'.2.1 118 j = h0.2.1 97 j) → (∀ j, j < 7 → h'.2.1 119 j = h0.2.1 98 j) → Q (some (.int (h'.2.1 93 0))) h') :
    ∀ (m pn : Nat) (p : Int32) (h : Hp), HI h → frm Wmig h0 h → p.toInt = pn → pn + m = 28 → KIm h0 h → (∀ j, j < pn → h.2.1 120 j = h0.2.1 99 j) → (∀ j, j < 7 → h.2.1 115 j = h0.2.1 94 j) → (∀ j, j < 7 → h.2.1 116 j = h0.2.1 95 j) → (∀ j, j < 7 → h.2.1 117 j = h0.2.1 96 j) → (∀ j, j < 7 → h.2.1 118 j = h0.2.1 97 j) → (∀ j, j < 7 → h.2.1 119 j = h0.2.1 98 j) →
    Ends X dp 184 129 [.ref 93, .int p] [] h Q
  | m, pn, p, h, hh, hf, hp, hm, k0, kR, z0, z1, z2, z3, z4 => by
    have i28 : (28 : Int32).toInt = 28 := rfl
    refine w_mimage2 p hh.hs ⟨fun e => ?_, fun e => ?_⟩
    all_goals have e := cI e
    all_goals simp only [cndI, i28, decide_eq_true_eq, decide_eq_false_iff_not] at e
    · exact mig3 hQ 12 0 0 h hh hf rfl (by omega) k0 (fun j hj => by omega) (fun j hj => kR j (by omega)) z0 z1 z2 z3 z4
    · match m, hm with
      | 0, hm => omega
      | m + 1, hm =>
        have hp1 : (p + 1).toInt = ((pn + 1 : Nat) : Int) := by rw [i_add (by rw [i1]; omega) (by rw [i1]; omega), i1]; omega
        generalize p + 1 = p1 at hp1 ⊢
        have q : p.toNatClampNeg = pn := by show p.toInt.toNat = _; omega
        have i : inB p 28 = true := inB_iff (by omega) (by omega)
        refine ⟨i, i, ?_⟩
        rw [q]
        refine mig2 hQ m (pn + 1) p1 _ (HI_cp hh rfl) (frm_put hf Wmig_120) hp1 (by omega) (by simpa [KIm, put_ne] using k0) (fun j hj => ?_) (fun j hj => by rw [put_ne (by omega)]; exact z0 j hj) (fun j hj => by rw [put_ne (by omega)]; exact z1 j hj) (fun j hj => by rw [put_ne (by omega)]; exact z2 j hj) (fun j hj => by rw [put_ne (by omega)]; exact z3 j hj) (fun j hj => by rw [put_ne (by omega)]; exact z4 j hj)
        rw [put_if]
        split
        · rename_i c
          rw [c]
          exact frI hf rfl
        · exact kR j (by omega)
theorem mig1 (hQ : ∀ h', HI h' → frm Wmig h0 h' → KIm h0 h' → (∀ j, j < 12 → h'.2.1 121 j = h0.2.1 114 j) → (∀ j, j < 28 → h'.2.1 120 j = h0.2.1 99 j) → (∀ j, j < 7 → h'.2.1 115 j = h0.2.1 94 j) → (∀ j, j < 7 → h'.2.1 116 j = h0.2.1 95 j) → (∀ j, j < 7 → h'.2.1 117 j = h0.2.1 96 j) → (∀ j, j < 7 → h'.2.1 118 j = h0.2.1 97 j) → (∀ j, j < 7 → h'.2.1 119 j = h0.2.1 98 j) → Q (some (.int (h'.2.1 93 0))) h') :
    ∀ (m pn : Nat) (p : Int32) (h : Hp), HI h → frm Wmig h0 h → p.toInt = pn → pn + m = 7 → KIm h0 h → (∀ j, j < pn → h.2.1 115 j = h0.2.1 94 j) → (∀ j, j < pn → h.2.1 116 j = h0.2.1 95 j) → (∀ j, j < pn → h.2.1 117 j = h0.2.1 96 j) → (∀ j, j < pn → h.2.1 118 j = h0.2.1 97 j) → (∀ j, j < pn → h.2.1 119 j = h0.2.1 98 j) →
    Ends X dp 184 55 [.ref 93, .int p] [] h Q
  | m, pn, p, h, hh, hf, hp, hm, k0, z0, z1, z2, z3, z4 => by
    have i7 : (7 : Int32).toInt = 7 := rfl
    refine w_mimage1 p hh.hs ⟨fun e => ?_, fun e => ?_⟩
    all_goals have e := cI e
    all_goals simp only [cndI, i7, decide_eq_true_eq, decide_eq_false_iff_not] at e
    · exact mig2 hQ 28 0 0 h hh hf rfl (by omega) k0 (fun j hj => by omega) (fun j hj => z0 j (by omega)) (fun j hj => z1 j (by omega)) (fun j hj => z2 j (by omega)) (fun j hj => z3 j (by omega)) (fun j hj => z4 j (by omega))
    · match m, hm with
      | 0, hm => omega
      | m + 1, hm =>
        have hp1 : (p + 1).toInt = ((pn + 1 : Nat) : Int) := by rw [i_add (by rw [i1]; omega) (by rw [i1]; omega), i1]; omega
        generalize p + 1 = p1 at hp1 ⊢
        have q : p.toNatClampNeg = pn := by show p.toInt.toNat = _; omega
        have i : inB p 7 = true := inB_iff (by omega) (by omega)
        refine ⟨i, i, i, i, i, i, i, i, i, i, ?_⟩
        rw [q]
        have hh5 : HI (hpI (hpI (hpI (hpI (hpI h 115 pn (h.2.1 94 pn)) 116 pn (h.2.1 95 pn)) 117 pn (h.2.1 96 pn)) 118 pn (h.2.1 97 pn)) 119 pn (h.2.1 98 pn)) := by
          have g0 := HI_put (a := 115) (k := pn) (x := h.2.1 94 pn) hh (hh.2.1 94 pn).1 (hh.2.1 94 pn).2
          have g1 := HI_put (a := 116) (k := pn) (x := h.2.1 95 pn) g0 (hh.2.1 95 pn).1 (hh.2.1 95 pn).2
          have g2 := HI_put (a := 117) (k := pn) (x := h.2.1 96 pn) g1 (hh.2.1 96 pn).1 (hh.2.1 96 pn).2
          have g3 := HI_put (a := 118) (k := pn) (x := h.2.1 97 pn) g2 (hh.2.1 97 pn).1 (hh.2.1 97 pn).2
          have g4 := HI_put (a := 119) (k := pn) (x := h.2.1 98 pn) g3 (hh.2.1 98 pn).1 (hh.2.1 98 pn).2
          exact g4
        refine mig1 hQ m (pn + 1) p1 _ hh5 (frm_put (frm_put (frm_put (frm_put (frm_put hf Wmig_115) Wmig_116) Wmig_117) Wmig_118) Wmig_119) hp1 (by omega) (by simpa [KIm, put_ne] using k0) (fun j hj => ?_) (fun j hj => ?_) (fun j hj => ?_) (fun j hj => ?_) (fun j hj => ?_)
        · rw [put_ne (by omega), put_ne (by omega), put_ne (by omega), put_ne (by omega), put_if]
          split
          · rename_i c
            rw [c]
            exact frI hf rfl
          · rw [show h.2.1 115 j = h.2.1 115 j from rfl]
            exact z0 j (by omega)
        · rw [put_ne (by omega), put_ne (by omega), put_ne (by omega), put_if]
          split
          · rename_i c
            rw [c]
            exact frI hf rfl
          · rw [put_ne (by omega)]
            exact z1 j (by omega)
        · rw [put_ne (by omega), put_ne (by omega), put_if]
          split
          · rename_i c
            rw [c]
            exact frI hf rfl
          · rw [put_ne (by omega), put_ne (by omega)]
            exact z2 j (by omega)
        · rw [put_ne (by omega), put_if]
          split
          · rename_i c
            rw [c]
            exact frI hf rfl
          · rw [put_ne (by omega), put_ne (by omega), put_ne (by omega)]
            exact z3 j (by omega)
        · rw [put_if]
          split
          · rename_i c
            rw [c]
            exact frI hf rfl
          · rw [put_ne (by omega), put_ne (by omega), put_ne (by omega), put_ne (by omega)]
            exact z4 j (by omega)
end
def Wmun : List (Nat × Nat) := [(93, 10), (93, 0), (93, 1), (93, 2), (93, 41), (93, 42), (94, 999), (95, 999), (96, 999), (97, 999), (98, 999), (99, 999), (114, 999)]
theorem Wmun_94 {k : Nat} : inW Wmun 94 k = true := by simp [inW, Wmun]
theorem Wmun_95 {k : Nat} : inW Wmun 95 k = true := by simp [inW, Wmun]
theorem Wmun_96 {k : Nat} : inW Wmun 96 k = true := by simp [inW, Wmun]
theorem Wmun_97 {k : Nat} : inW Wmun 97 k = true := by simp [inW, Wmun]
theorem Wmun_98 {k : Nat} : inW Wmun 98 k = true := by simp [inW, Wmun]
theorem Wmun_99 {k : Nat} : inW Wmun 99 k = true := by simp [inW, Wmun]
theorem Wmun_114 {k : Nat} : inW Wmun 114 k = true := by simp [inW, Wmun]
section
variable {X : Scr} {dp : Nat} {h0 : Hp} {Q : Option Value → Hp → Prop}
theorem mun3 (hQ : ∀ h', HI h' → frm Wmun h0 h' → KUn h0 h' → (∀ j, j < 12 → h'.2.1 114 j = h0.2.1 121 j) → (∀ j, j < 28 → h'.2.1 99 j = h0.2.1 120 j) → (∀ j, j < 7 → h'.2.1 94 j = h0.2.1 115 j) → (∀ j, j < 7 → h'.2.1 95 j = h0.2.1 116 j) → (∀ j, j < 7 → h'.2.1 96 j = h0.2.1 117 j) → (∀ j, j < 7 → h'.2.1 97 j = h0.2.1 118 j) → (∀ j, j < 7 → h'.2.1 98 j = h0.2.1 119 j) → Q (some (.int (h'.2.1 93 0))) h') :
    ∀ (m pn : Nat) (p : Int32) (h : Hp), HI h → frm Wmun h0 h → p.toInt = pn → pn + m = 12 → KUn h0 h → (∀ j, j < pn → h.2.1 114 j = h0.2.1 121 j) → (∀ j, j < 28 → h.2.1 99 j = h0.2.1 120 j) → (∀ j, j < 7 → h.2.1 94 j = h0.2.1 115 j) → (∀ j, j < 7 → h.2.1 95 j = h0.2.1 116 j) → (∀ j, j < 7 → h.2.1 96 j = h0.2.1 117 j) → (∀ j, j < 7 → h.2.1 97 j = h0.2.1 118 j) → (∀ j, j < 7 → h.2.1 98 j = h0.2.1 119 j) →
    Ends X dp 185 160 [.ref 93, .int p] [] h Q
  | m, pn, p, h, hh, hf, hp, hm, k0, kB, kR, z0, z1, z2, z3, z4 => by
    have i12 : (12 : Int32).toInt = 12 := rfl
    refine w_mundo3 p hh.hs ⟨fun e => ?_, fun e => ?_⟩
    all_goals have e := cI e
    all_goals simp only [cndI, i12, decide_eq_true_eq, decide_eq_false_iff_not] at e
    · exact hQ h hh hf k0 (fun j hj => kB j (by omega)) kR z0 z1 z2 z3 z4
    · match m, hm with
      | 0, hm => omega
      | m + 1, hm =>
        have hp1 : (p + 1).toInt = ((pn + 1 : Nat) : Int) := by rw [i_add (by rw [i1]; omega) (by rw [i1]; omega), i1]; omega
        generalize p + 1 = p1 at hp1 ⊢
        have q : p.toNatClampNeg = pn := by show p.toInt.toNat = _; omega
        have i : inB p 12 = true := inB_iff (by omega) (by omega)
        refine ⟨i, i, ?_⟩
        rw [q]
        refine mun3 hQ m (pn + 1) p1 _ (HI_cp hh rfl) (frm_put hf Wmun_114) hp1 (by omega) (by simpa [KUn, put_ne] using k0) (fun j hj => ?_) (fun j hj => by rw [put_ne (by omega)]; exact kR j hj) (fun j hj => by rw [put_ne (by omega)]; exact z0 j hj) (fun j hj => by rw [put_ne (by omega)]; exact z1 j hj) (fun j hj => by rw [put_ne (by omega)]; exact z2 j hj) (fun j hj => by rw [put_ne (by omega)]; exact z3 j hj) (fun j hj => by rw [put_ne (by omega)]; exact z4 j hj)
        rw [put_if]
        split
        · rename_i c
          rw [c]
          exact frI hf rfl
        · exact kB j (by omega)
theorem mun2 (hQ : ∀ h', HI h' → frm Wmun h0 h' → KUn h0 h' → (∀ j, j < 12 → h'.2.1 114 j = h0.2.1 121 j) → (∀ j, j < 28 → h'.2.1 99 j = h0.2.1 120 j) → (∀ j, j < 7 → h'.2.1 94 j = h0.2.1 115 j) → (∀ j, j < 7 → h'.2.1 95 j = h0.2.1 116 j) → (∀ j, j < 7 → h'.2.1 96 j = h0.2.1 117 j) → (∀ j, j < 7 → h'.2.1 97 j = h0.2.1 118 j) → (∀ j, j < 7 → h'.2.1 98 j = h0.2.1 119 j) → Q (some (.int (h'.2.1 93 0))) h') :
    ∀ (m pn : Nat) (p : Int32) (h : Hp), HI h → frm Wmun h0 h → p.toInt = pn → pn + m = 28 → KUn h0 h → (∀ j, j < pn → h.2.1 99 j = h0.2.1 120 j) → (∀ j, j < 7 → h.2.1 94 j = h0.2.1 115 j) → (∀ j, j < 7 → h.2.1 95 j = h0.2.1 116 j) → (∀ j, j < 7 → h.2.1 96 j = h0.2.1 117 j) → (∀ j, j < 7 → h.2.1 97 j = h0.2.1 118 j) → (∀ j, j < 7 → h.2.1 98 j = h0.2.1 119 j) →
    Ends X dp 185 134 [.ref 93, .int p] [] h Q
  | m, pn, p, h, hh, hf, hp, hm, k0, kR, z0, z1, z2, z3, z4 => by
    have i28 : (28 : Int32).toInt = 28 := rfl
    refine w_mundo2 p hh.hs ⟨fun e => ?_, fun e => ?_⟩
    all_goals have e := cI e
    all_goals simp only [cndI, i28, decide_eq_true_eq, decide_eq_false_iff_not] at e
    · exact mun3 hQ 12 0 0 h hh hf rfl (by omega) k0 (fun j hj => by omega) (fun j hj => kR j (by omega)) z0 z1 z2 z3 z4
    · match m, hm with
      | 0, hm => omega
      | m + 1, hm =>
        have hp1 : (p + 1).toInt = ((pn + 1 : Nat) : Int) := by rw [i_add (by rw [i1]; omega) (by rw [i1]; omega), i1]; omega
        generalize p + 1 = p1 at hp1 ⊢
        have q : p.toNatClampNeg = pn := by show p.toInt.toNat = _; omega
        have i : inB p 28 = true := inB_iff (by omega) (by omega)
        refine ⟨i, i, ?_⟩
        rw [q]
        refine mun2 hQ m (pn + 1) p1 _ (HI_cp hh rfl) (frm_put hf Wmun_99) hp1 (by omega) (by simpa [KUn, put_ne] using k0) (fun j hj => ?_) (fun j hj => by rw [put_ne (by omega)]; exact z0 j hj) (fun j hj => by rw [put_ne (by omega)]; exact z1 j hj) (fun j hj => by rw [put_ne (by omega)]; exact z2 j hj) (fun j hj => by rw [put_ne (by omega)]; exact z3 j hj) (fun j hj => by rw [put_ne (by omega)]; exact z4 j hj)
        rw [put_if]
        split
        · rename_i c
          rw [c]
          exact frI hf rfl
        · exact kR j (by omega)
theorem mun1 (hQ : ∀ h', HI h' → frm Wmun h0 h' → KUn h0 h' → (∀ j, j < 12 → h'.2.1 114 j = h0.2.1 121 j) → (∀ j, j < 28 → h'.2.1 99 j = h0.2.1 120 j) → (∀ j, j < 7 → h'.2.1 94 j = h0.2.1 115 j) → (∀ j, j < 7 → h'.2.1 95 j = h0.2.1 116 j) → (∀ j, j < 7 → h'.2.1 96 j = h0.2.1 117 j) → (∀ j, j < 7 → h'.2.1 97 j = h0.2.1 118 j) → (∀ j, j < 7 → h'.2.1 98 j = h0.2.1 119 j) → Q (some (.int (h'.2.1 93 0))) h') :
    ∀ (m pn : Nat) (p : Int32) (h : Hp), HI h → frm Wmun h0 h → p.toInt = pn → pn + m = 7 → KUn h0 h → (∀ j, j < pn → h.2.1 94 j = h0.2.1 115 j) → (∀ j, j < pn → h.2.1 95 j = h0.2.1 116 j) → (∀ j, j < pn → h.2.1 96 j = h0.2.1 117 j) → (∀ j, j < pn → h.2.1 97 j = h0.2.1 118 j) → (∀ j, j < pn → h.2.1 98 j = h0.2.1 119 j) →
    Ends X dp 185 60 [.ref 93, .int p] [] h Q
  | m, pn, p, h, hh, hf, hp, hm, k0, z0, z1, z2, z3, z4 => by
    have i7 : (7 : Int32).toInt = 7 := rfl
    refine w_mundo1 p hh.hs ⟨fun e => ?_, fun e => ?_⟩
    all_goals have e := cI e
    all_goals simp only [cndI, i7, decide_eq_true_eq, decide_eq_false_iff_not] at e
    · exact mun2 hQ 28 0 0 h hh hf rfl (by omega) k0 (fun j hj => by omega) (fun j hj => z0 j (by omega)) (fun j hj => z1 j (by omega)) (fun j hj => z2 j (by omega)) (fun j hj => z3 j (by omega)) (fun j hj => z4 j (by omega))
    · match m, hm with
      | 0, hm => omega
      | m + 1, hm =>
        have hp1 : (p + 1).toInt = ((pn + 1 : Nat) : Int) := by rw [i_add (by rw [i1]; omega) (by rw [i1]; omega), i1]; omega
        generalize p + 1 = p1 at hp1 ⊢
        have q : p.toNatClampNeg = pn := by show p.toInt.toNat = _; omega
        have i : inB p 7 = true := inB_iff (by omega) (by omega)
        refine ⟨i, i, i, i, i, i, i, i, i, i, ?_⟩
        rw [q]
        have hh5 : HI (hpI (hpI (hpI (hpI (hpI h 94 pn (h.2.1 115 pn)) 95 pn (h.2.1 116 pn)) 96 pn (h.2.1 117 pn)) 97 pn (h.2.1 118 pn)) 98 pn (h.2.1 119 pn)) := by
          have g0 := HI_put (a := 94) (k := pn) (x := h.2.1 115 pn) hh (hh.2.1 115 pn).1 (hh.2.1 115 pn).2
          have g1 := HI_put (a := 95) (k := pn) (x := h.2.1 116 pn) g0 (hh.2.1 116 pn).1 (hh.2.1 116 pn).2
          have g2 := HI_put (a := 96) (k := pn) (x := h.2.1 117 pn) g1 (hh.2.1 117 pn).1 (hh.2.1 117 pn).2
          have g3 := HI_put (a := 97) (k := pn) (x := h.2.1 118 pn) g2 (hh.2.1 118 pn).1 (hh.2.1 118 pn).2
          have g4 := HI_put (a := 98) (k := pn) (x := h.2.1 119 pn) g3 (hh.2.1 119 pn).1 (hh.2.1 119 pn).2
          exact g4
        refine mun1 hQ m (pn + 1) p1 _ hh5 (frm_put (frm_put (frm_put (frm_put (frm_put hf Wmun_94) Wmun_95) Wmun_96) Wmun_97) Wmun_98) hp1 (by omega) (by simpa [KUn, put_ne] using k0) (fun j hj => ?_) (fun j hj => ?_) (fun j hj => ?_) (fun j hj => ?_) (fun j hj => ?_)
        · rw [put_ne (by omega), put_ne (by omega), put_ne (by omega), put_ne (by omega), put_if]
          split
          · rename_i c
            rw [c]
            exact frI hf rfl
          · rw [show h.2.1 94 j = h.2.1 94 j from rfl]
            exact z0 j (by omega)
        · rw [put_ne (by omega), put_ne (by omega), put_ne (by omega), put_if]
          split
          · rename_i c
            rw [c]
            exact frI hf rfl
          · rw [put_ne (by omega)]
            exact z1 j (by omega)
        · rw [put_ne (by omega), put_ne (by omega), put_if]
          split
          · rename_i c
            rw [c]
            exact frI hf rfl
          · rw [put_ne (by omega), put_ne (by omega)]
            exact z2 j (by omega)
        · rw [put_ne (by omega), put_if]
          split
          · rename_i c
            rw [c]
            exact frI hf rfl
          · rw [put_ne (by omega), put_ne (by omega), put_ne (by omega)]
            exact z3 j (by omega)
        · rw [put_if]
          split
          · rename_i c
            rw [c]
            exact frI hf rfl
          · rw [put_ne (by omega), put_ne (by omega), put_ne (by omega), put_ne (by omega)]
            exact z4 j (by omega)
end
end JN89image
section JN90image2
/-! image and undo of both sides, exactly: their ends. -/
section IMG
variable {X : Scr} {dp : Nat} {h : Hp} {Q : Option Value → Hp → Prop}
def AEq (h0 h : Hp) (a b n : Nat) : Prop := ∀ j, j < n → h.2.1 a j = h0.2.1 b j
theorem mimg_ok (hh : HI h) (hQ : ∀ h', HI h' → frm Wmig h h' → KIm h h' → AEq h h' 121 114 12 → AEq h h' 120 99 28 → AEq h h' 115 94 7 → AEq h h' 116 95 7 → AEq h h' 117 96 7 → AEq h h' 118 97 7 → AEq h h' 119 98 7 → Q (some (.int (h.2.1 93 0))) h') : Ends X dp 184 0 [.ref 93, .retAddr 0] [] h Q := by
  have a0 := hh.2.1 93 10
  have a1 := hh.2.1 93 0
  have a2 := hh.2.1 93 1
  have a3 := hh.2.1 93 2
  have a5 := hh.2.1 93 42
  refine w_mimage0 hh.hs ?_
  have g1 : HI (hpI h 93 44 1) := HI_put hh (by show (0 : Int) ≤ 1; decide) (by show (1 : Int) ≤ 1; decide)
  have g2 := HI_put (a := 93) (k := 45) g1 a0.1 a0.2
  have g3 := HI_put (a := 93) (k := 46) g2 a1.1 a1.2
  have g4 := HI_put (a := 93) (k := 47) g3 a2.1 a2.2
  have g5 := HI_put (a := 93) (k := 48) g4 a3.1 a3.2
  have g6 := HI_put (a := 93) (k := 49) (x := h.2.1 93 41) g5 (i32r _).1 (i32r _).2
  have g7 := HI_put (a := 93) (k := 50) g6 a5.1 a5.2
  have f7 : frm Wmig h (hpI (hpI (hpI (hpI (hpI (hpI (hpI h 93 44 1) 93 45 (h.2.1 93 10)) 93 46 (h.2.1 93 0)) 93 47 (h.2.1 93 1)) 93 48 (h.2.1 93 2)) 93 49 (h.2.1 93 41)) 93 50 (h.2.1 93 42)) := frm_put (frm_put (frm_put (frm_put (frm_put (frm_put (frm_put frm_refl rfl) rfl) rfl) rfl) rfl) rfl) rfl
  refine mig1 (h0 := h) (fun h' z1 z2 z3 z4 z5 z6 z7 z8 z9 z10 => ?_) 7 0 0 _ g7 f7 rfl (by omega) ⟨rfl, rfl, rfl, rfl, rfl, rfl, rfl⟩ (fun j hj => by omega) (fun j hj => by omega) (fun j hj => by omega) (fun j hj => by omega) (fun j hj => by omega)
  have e : h'.2.1 93 0 = h.2.1 93 0 := frI z2 rfl
  rw [e]
  exact hQ h' z1 z2 z3 z4 z5 z6 z7 z8 z9 z10
theorem mund_ok (hh : HI h) (q0 : (h.2.1 93 44).toInt = 0 → Q (some (.int (-3))) h) (hQ : ¬ (h.2.1 93 44).toInt = 0 → ∀ h', HI h' → frm Wmun h h' → KUn h h' → AEq h h' 114 121 12 → AEq h h' 99 120 28 → AEq h h' 94 115 7 → AEq h h' 95 116 7 → AEq h h' 96 117 7 → AEq h h' 97 118 7 → AEq h h' 98 119 7 → Q (some (.int (h.2.1 93 46))) h') : Ends X dp 185 0 [.ref 93, .retAddr 0] [] h Q := by
  have a0 := hh.2.1 93 45
  have a1 := hh.2.1 93 46
  have a2 := hh.2.1 93 47
  have a3 := hh.2.1 93 48
  have a5 := hh.2.1 93 50
  refine w_mundo0 hh.hs ⟨fun e => ?_, fun e => q0 (Decidable.not_not.mp (of_decide_eq_false (cI e)))⟩
  have hQ := hQ (of_decide_eq_true (cI e))
  have g2 := HI_put (a := 93) (k := 10) hh a0.1 a0.2
  have g3 := HI_put (a := 93) (k := 0) g2 a1.1 a1.2
  have g4 := HI_put (a := 93) (k := 1) g3 a2.1 a2.2
  have g5 := HI_put (a := 93) (k := 2) g4 a3.1 a3.2
  have g6 := HI_put (a := 93) (k := 41) (x := h.2.1 93 49) g5 (i32r _).1 (i32r _).2
  have g7 := HI_put (a := 93) (k := 42) g6 a5.1 a5.2
  have f7 : frm Wmun h (hpI (hpI (hpI (hpI (hpI (hpI h 93 10 (h.2.1 93 45)) 93 0 (h.2.1 93 46)) 93 1 (h.2.1 93 47)) 93 2 (h.2.1 93 48)) 93 41 (h.2.1 93 49)) 93 42 (h.2.1 93 50)) := frm_put (frm_put (frm_put (frm_put (frm_put (frm_put frm_refl rfl) rfl) rfl) rfl) rfl) rfl
  refine mun1 (h0 := h) (fun h' z1 z2 z3 z4 z5 z6 z7 z8 z9 z10 => ?_) 7 0 0 _ g7 f7 rfl (by omega) ⟨rfl, rfl, rfl, rfl, rfl, rfl⟩ (fun j hj => by omega) (fun j hj => by omega) (fun j hj => by omega) (fun j hj => by omega) (fun j hj => by omega)
  have e : h'.2.1 93 0 = h.2.1 93 46 := z3.2.1
  rw [e]
  exact hQ h' z1 z2 z3 z4 z5 z6 z7 z8 z9 z10
/-- one group becomes another -/
def bec (h : Hp) (a b : Nat) : Hp := hpI (hpI (hpM (hpI (hpI (hpI (hpM (hpM (hpM (hpM (hpM (hpM (hpI h a 0 (h.2.1 b 0)) (a + 1) (b + 1) 0 0 7) (a + 2) (b + 2) 0 0 7) (a + 3) (b + 3) 0 0 7) (a + 4) (b + 4) 0 0 7) (a + 5) (b + 5) 0 0 7) (a + 6) (b + 6) 0 0 28) a 7 (h.2.1 b 7)) a 8 (h.2.1 b 8)) a 9 (h.2.1 b 9)) (a + 7) (b + 7) 0 0 12) a 11 (h.2.1 b 11)) a 12 (h.2.1 b 12)
theorem bec91_ok (hs : HS h) (hQ : Q none (bec h 9 1)) : Ends X dp 33 0 [.ref 9, .ref 1] [] h Q := w_bec91 hs hQ
theorem bec19_ok (hs : HS h) (hQ : Q none (bec h 1 9)) : Ends X dp 33 0 [.ref 1, .ref 9] [] h Q := w_bec19 hs hQ
theorem bec_hs {a b : Nat} (hs : HS h) : HS (bec h a b) := hs
theorem cimg_ok (hs : HS h) (hQ : Q (some (.int (h.2.1 1 0))) (hpI (bec h 9 1) 0 2 1)) : Ends X (dp + 1) 89 0 [.ref 0] [] h Q :=
  w_cimg hs (bec91_ok hs ⟨rfl, bec_hs hs, hQ⟩)
theorem cund_ok (hs : HS h) (q0 : (h.2.1 0 2).toInt = 0 → Q (some (.int (-3))) h) (hQ : ¬ (h.2.1 0 2).toInt = 0 → Q (some (.int (h.2.1 9 0))) (bec h 1 9)) : Ends X (dp + 1) 90 0 [.ref 0] [] h Q :=
  w_cund hs ⟨fun e => bec19_ok hs ⟨rfl, bec_hs hs, hQ (of_decide_eq_true (cI e))⟩, fun e => q0 (Decidable.not_not.mp (of_decide_eq_false (cI e)))⟩
end IMG
end JN90image2
