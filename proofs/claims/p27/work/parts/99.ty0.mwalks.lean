/-! What is owed for the reference's crossing. -/
theorem w_mrof {X : Scr} {dp : Nat} {h : Hp} {Q : Option Value → Hp → Prop} (p : Int32) (hs : HS h)
    (vc : (inB p 7 = true ∧ Ends X dp 138 0 [.ref 93, .int 0, .int p, .int (h.2.1 96 p.toNatClampNeg), .int 1, .retAddr 0, .retAddr 0, .retAddr 0] [] h (fun rv h2 => ∃ r3, rv = some (.int r3) ∧ HS h2 ∧ Q (some (.int r3)) h2))) :
    Ends X (dp + 1) 140 0 [.ref 93, .int p] [] h Q := by
  have ra : ∀ {a : Nat}, a < 1000 → a ≤ OLDB := fun h => by have := OLDB_eq; omega
  refine e_aload_n (show pAt 140 0 = some (0, .aload_n 0, 1, []) from by decide +kernel) rfl (ra (by decide)) ?_
  refine e_iconst (c := 0) (show pAt 140 1 = some (1, .iconst 0, 1, []) from by decide +kernel) (by decide) ?_
  refine e_iload_n (show pAt 140 2 = some (2, .iload_n 1, 1, []) from by decide +kernel) rfl ?_
  refine e_aload_n (show pAt 140 3 = some (3, .aload_n 0, 1, []) from by decide +kernel) rfl (ra (by decide)) ?_
  refine e_gR (show pAt 140 4 = some (4, .getfield 26, 3, [7, 5, 0, 4128]) from by decide +kernel) (show HS h from hs) rfl (by decide) (hs_ref (show HS h from hs) rfl) ?_
  refine e_iload_n (show pAt 140 7 = some (7, .iload_n 1, 1, []) from by decide +kernel) rfl ?_
  obtain ⟨c1, vc⟩ := vc
  refine e_aldv (v := h.2.1 96 p.toNatClampNeg) (show pAt 140 8 = some (8, .iaload, 1, []) from by decide +kernel) (show HS h from hs) (by decide) c1 rfl ?_
  refine e_iconst (c := 1) (show pAt 140 9 = some (9, .iconst 1, 1, []) from by decide +kernel) (by decide) ?_
  refine Ends.call (show pAt 140 10 = some (10, .invokevirtual 277, 3, [138, 5, 0, 0, 5205, 5207, 79]) from by decide +kernel) (isRet_none rfl) rfl (call_this (show HS h from hs) rfl rfl (by decide)) (Ends.mono vc ?_)
  rintro _ h2 ⟨r3, rfl, hs_h2, vc⟩
  exact e_retI (show pAt 140 13 = some (13, .ireturn, 1, []) from by decide +kernel) rfl vc

theorem w_mhof {X : Scr} {dp : Nat} {h : Hp} {Q : Option Value → Hp → Prop} (p : Int32) (hs : HS h)
    (vc : (inB p 7 = true ∧ (inB p 7 = true ∧ Ends X dp 138 0 [.ref 93, .int 1, .int p, .int (h.2.1 96 p.toNatClampNeg), .int 0, .retAddr 0, .retAddr 0, .retAddr 0] [] h (fun rv h3 => ∃ r4, rv = some (.int r4) ∧ HS h3 ∧ Q (some (.int ((h.2.1 98 p.toNatClampNeg) + r4))) h3)))) :
    Ends X (dp + 1) 141 0 [.ref 93, .int p] [] h Q := by
  have ra : ∀ {a : Nat}, a < 1000 → a ≤ OLDB := fun h => by have := OLDB_eq; omega
  refine e_aload_n (show pAt 141 0 = some (0, .aload_n 0, 1, []) from by decide +kernel) rfl (ra (by decide)) ?_
  refine e_gR (show pAt 141 1 = some (1, .getfield 32, 3, [7, 7, 0, 4130]) from by decide +kernel) (show HS h from hs) rfl (by decide) (hs_ref (show HS h from hs) rfl) ?_
  refine e_iload_n (show pAt 141 4 = some (4, .iload_n 1, 1, []) from by decide +kernel) rfl ?_
  obtain ⟨c1, vc⟩ := vc
  refine e_aldv (v := h.2.1 98 p.toNatClampNeg) (show pAt 141 5 = some (5, .iaload, 1, []) from by decide +kernel) (show HS h from hs) (by decide) c1 rfl ?_
  refine e_aload_n (show pAt 141 6 = some (6, .aload_n 0, 1, []) from by decide +kernel) rfl (ra (by decide)) ?_
  refine e_iconst (c := 1) (show pAt 141 7 = some (7, .iconst 1, 1, []) from by decide +kernel) (by decide) ?_
  refine e_iload_n (show pAt 141 8 = some (8, .iload_n 1, 1, []) from by decide +kernel) rfl ?_
  refine e_aload_n (show pAt 141 9 = some (9, .aload_n 0, 1, []) from by decide +kernel) rfl (ra (by decide)) ?_
  refine e_gR (show pAt 141 10 = some (10, .getfield 26, 3, [7, 5, 0, 4128]) from by decide +kernel) (show HS h from hs) rfl (by decide) (hs_ref (show HS h from hs) rfl) ?_
  refine e_iload_n (show pAt 141 13 = some (13, .iload_n 1, 1, []) from by decide +kernel) rfl ?_
  obtain ⟨c2, vc⟩ := vc
  refine e_aldv (v := h.2.1 96 p.toNatClampNeg) (show pAt 141 14 = some (14, .iaload, 1, []) from by decide +kernel) (show HS h from hs) (by decide) c2 rfl ?_
  refine e_iconst (c := 0) (show pAt 141 15 = some (15, .iconst 0, 1, []) from by decide +kernel) (by decide) ?_
  refine Ends.call (show pAt 141 16 = some (16, .invokevirtual 277, 3, [138, 5, 0, 0, 5205, 5207, 79]) from by decide +kernel) (isRet_none rfl) rfl (call_this (show HS h from hs) rfl rfl (by decide)) (Ends.mono vc ?_)
  rintro _ h3 ⟨r4, rfl, hs_h3, vc⟩
  refine e_iadd (show pAt 141 19 = some (19, .iadd, 1, []) from by decide +kernel) ?_
  exact e_retI (show pAt 141 20 = some (20, .ireturn, 1, []) from by decide +kernel) rfl vc

theorem w_mapt {X : Scr} {dp : Nat} {h : Hp} {Q : Option Value → Hp → Prop} (a : Int32) (b : Int32) (hs : HS h)
    (vc : ((condB .ge a b = true → Q (some (.int (a - b))) h) ∧ (condB .ge a b = false → Q (some (.int (b - a))) h))) :
    Ends X dp 142 0 [.ref 93, .int a, .int b] [] h Q := by
  have ra : ∀ {a : Nat}, a < 1000 → a ≤ OLDB := fun h => by have := OLDB_eq; omega
  refine e_iload_n (show pAt 142 0 = some (0, .iload_n 1, 1, []) from by decide +kernel) rfl ?_
  refine e_iload_n (show pAt 142 1 = some (1, .iload_n 2, 1, []) from by decide +kernel) rfl ?_
  refine e_icmp (t := 11) (show pAt 142 2 = some (2, .if_icmp .ge 9, 3, []) from by decide +kernel) rfl (fun c1 => ?_) (fun c1 => ?_)
  · replace vc := vc.1 c1
    refine e_iload_n (show pAt 142 11 = some (11, .iload_n 1, 1, []) from by decide +kernel) rfl ?_
    refine e_iload_n (show pAt 142 12 = some (12, .iload_n 2, 1, []) from by decide +kernel) rfl ?_
    refine e_isub (show pAt 142 13 = some (13, .isub, 1, []) from by decide +kernel) ?_
    exact e_retI (show pAt 142 14 = some (14, .ireturn, 1, []) from by decide +kernel) rfl vc
  · replace vc := vc.2 c1
    refine e_iload_n (show pAt 142 5 = some (5, .iload_n 2, 1, []) from by decide +kernel) rfl ?_
    refine e_iload_n (show pAt 142 6 = some (6, .iload_n 1, 1, []) from by decide +kernel) rfl ?_
    refine e_isub (show pAt 142 7 = some (7, .isub, 1, []) from by decide +kernel) ?_
    refine e_goto (t := 14) (show pAt 142 8 = some (8, .goto 6, 3, []) from by decide +kernel) rfl ?_
    exact e_retI (show pAt 142 14 = some (14, .ireturn, 1, []) from by decide +kernel) rfl vc

theorem w_mrea {X : Scr} {dp : Nat} {h : Hp} {Q : Option Value → Hp → Prop} (c : Int32) (l : Int32) (hs : HS h)
    (vc : ((condB .ne (h.2.1 93 27) 0 = true → Q (some (.int 1)) h) ∧ (condB .ne (h.2.1 93 27) 0 = false → (inB c 7 = true ∧ Ends X dp 142 0 [.ref 93, .int (h.2.1 96 c.toNatClampNeg), .int l] [] h (fun rv h3 => ∃ r4, rv = some (.int r4) ∧ HS h3 ∧ Ends X dp 140 0 [.ref 93, .int c] [] h3 (fun rv h6 => ∃ r7, rv = some (.int r7) ∧ HS h6 ∧ ((condB .gt r4 r7 = true → Q (some (.int 0)) h6) ∧ (condB .gt r4 r7 = false → Q (some (.int 1)) h6)))))))) :
    Ends X (dp + 1) 143 0 [.ref 93, .int c, .int l] [] h Q := by
  have ra : ∀ {a : Nat}, a < 1000 → a ≤ OLDB := fun h => by have := OLDB_eq; omega
  refine e_aload_n (show pAt 143 0 = some (0, .aload_n 0, 1, []) from by decide +kernel) rfl (ra (by decide)) ?_
  refine e_gIv (v := h.2.1 93 27) (show pAt 143 1 = some (1, .getfield 93, 3, [7, 27, 0, 4150]) from by decide +kernel) (show HS h from hs) rfl (by decide) rfl ?_
  refine e_if (t := 26) (show pAt 143 4 = some (4, .ifCond .ne 22, 3, []) from by decide +kernel) rfl (fun c1 => ?_) (fun c1 => ?_)
  · replace vc := vc.1 c1
    refine e_iconst (c := 1) (show pAt 143 26 = some (26, .iconst 1, 1, []) from by decide +kernel) (by decide) ?_
    refine e_goto (t := 31) (show pAt 143 27 = some (27, .goto 4, 3, []) from by decide +kernel) rfl ?_
    exact e_retZ (show pAt 143 31 = some (31, .ireturn, 1, []) from by decide +kernel) rfl (by decide) vc
  · replace vc := vc.2 c1
    refine e_aload_n (show pAt 143 7 = some (7, .aload_n 0, 1, []) from by decide +kernel) rfl (ra (by decide)) ?_
    refine e_aload_n (show pAt 143 8 = some (8, .aload_n 0, 1, []) from by decide +kernel) rfl (ra (by decide)) ?_
    refine e_gR (show pAt 143 9 = some (9, .getfield 26, 3, [7, 5, 0, 4128]) from by decide +kernel) (show HS h from hs) rfl (by decide) (hs_ref (show HS h from hs) rfl) ?_
    refine e_iload_n (show pAt 143 12 = some (12, .iload_n 1, 1, []) from by decide +kernel) rfl ?_
    obtain ⟨c2, vc⟩ := vc
    refine e_aldv (v := h.2.1 96 c.toNatClampNeg) (show pAt 143 13 = some (13, .iaload, 1, []) from by decide +kernel) (show HS h from hs) (by decide) c2 rfl ?_
    refine e_iload_n (show pAt 143 14 = some (14, .iload_n 2, 1, []) from by decide +kernel) rfl ?_
    refine Ends.call (show pAt 143 15 = some (15, .invokevirtual 281, 3, [142, 3, 0, 0, 5197, 5199, 77]) from by decide +kernel) (isRet_none rfl) rfl (call_this (show HS h from hs) rfl rfl (by decide)) (Ends.mono vc ?_)
    rintro _ h3 ⟨r4, rfl, hs_h3, vc⟩
    refine e_aload_n (show pAt 143 18 = some (18, .aload_n 0, 1, []) from by decide +kernel) rfl (ra (by decide)) ?_
    refine e_iload_n (show pAt 143 19 = some (19, .iload_n 1, 1, []) from by decide +kernel) rfl ?_
    refine Ends.call (show pAt 143 20 = some (20, .invokevirtual 285, 3, [140, 2, 0, 0, 5201, 5203, 78]) from by decide +kernel) (isRet_none rfl) rfl (call_this (show HS h3 from hs_h3) rfl rfl (by decide)) (Ends.mono vc ?_)
    rintro _ h6 ⟨r7, rfl, hs_h6, vc⟩
    refine e_icmp (t := 30) (show pAt 143 23 = some (23, .if_icmp .gt 7, 3, []) from by decide +kernel) rfl (fun c9 => ?_) (fun c9 => ?_)
    · replace vc := vc.1 c9
      refine e_iconst (c := 0) (show pAt 143 30 = some (30, .iconst 0, 1, []) from by decide +kernel) (by decide) ?_
      exact e_retZ (show pAt 143 31 = some (31, .ireturn, 1, []) from by decide +kernel) rfl (by decide) vc
    · replace vc := vc.2 c9
      refine e_iconst (c := 1) (show pAt 143 26 = some (26, .iconst 1, 1, []) from by decide +kernel) (by decide) ?_
      refine e_goto (t := 31) (show pAt 143 27 = some (27, .goto 4, 3, []) from by decide +kernel) rfl ?_
      exact e_retZ (show pAt 143 31 = some (31, .ireturn, 1, []) from by decide +kernel) rfl (by decide) vc

theorem w_mmr0 {X : Scr} {dp : Nat} {h : Hp} {Q : Option Value → Hp → Prop} (l : Int32) (hs : HS h)
    (vc : Ends X dp 144 4 [.ref 93, .int l, .int 0, .int 0] [] h Q) :
    Ends X dp 144 0 [.ref 93, .int l, .retAddr 0, .retAddr 0] [] h Q := by
  have ra : ∀ {a : Nat}, a < 1000 → a ≤ OLDB := fun h => by have := OLDB_eq; omega
  refine e_iconst (c := 0) (show pAt 144 0 = some (0, .iconst 0, 1, []) from by decide +kernel) (by decide) ?_
  refine e_istore_n (show pAt 144 1 = some (1, .istore_n 2, 1, []) from by decide +kernel) ⟨Nat.le_of_ble_eq_true rfl, rfl⟩ rfl ?_
  refine e_iconst (c := 0) (show pAt 144 2 = some (2, .iconst 0, 1, []) from by decide +kernel) (by decide) ?_
  refine e_istore_n (show pAt 144 3 = some (3, .istore_n 3, 1, []) from by decide +kernel) ⟨Nat.le_of_ble_eq_true rfl, rfl⟩ rfl ?_
  exact vc

theorem w_mmr1 {X : Scr} {dp : Nat} {h : Hp} {Q : Option Value → Hp → Prop} (l : Int32) (n : Int32) (c : Int32) (hs : HS h)
    (vc : ((condB .ge c (h.2.1 93 0) = true → Q (some (.int n)) h) ∧ (condB .ge c (h.2.1 93 0) = false → Ends X dp 110 0 [.ref 93, .int (h.2.1 93 2), .int c] [] h (fun rv h2 => ∃ r3, rv = some (.int r3) ∧ HS h2 ∧ ((condB .eq r3 0 = true → Ends X (dp + 1) 144 4 [.ref 93, .int l, .int (n + 0), .int (c + 1)] [] h2 Q) ∧ (condB .eq r3 0 = false → Ends X dp 143 0 [.ref 93, .int c, .int l] [] h2 (fun rv h6 => ∃ r7, rv = some (.int r7) ∧ HS h6 ∧ ((condB .eq r7 0 = true → Ends X (dp + 1) 144 4 [.ref 93, .int l, .int (n + 0), .int (c + 1)] [] h6 Q) ∧ (condB .eq r7 0 = false → Ends X (dp + 1) 144 4 [.ref 93, .int l, .int (n + 1), .int (c + 1)] [] h6 Q))))))))) :
    Ends X (dp + 1) 144 4 [.ref 93, .int l, .int n, .int c] [] h Q := by
  have ra : ∀ {a : Nat}, a < 1000 → a ≤ OLDB := fun h => by have := OLDB_eq; omega
  refine e_iload_n (show pAt 144 4 = some (4, .iload_n 3, 1, []) from by decide +kernel) rfl ?_
  refine e_aload_n (show pAt 144 5 = some (5, .aload_n 0, 1, []) from by decide +kernel) rfl (ra (by decide)) ?_
  refine e_gIv (v := h.2.1 93 0) (show pAt 144 6 = some (6, .getfield 7, 3, [7, 0, 0, 4123]) from by decide +kernel) (show HS h from hs) rfl (by decide) rfl ?_
  refine e_icmp (t := 47) (show pAt 144 9 = some (9, .if_icmp .ge 38, 3, []) from by decide +kernel) rfl (fun c1 => ?_) (fun c1 => ?_)
  · replace vc := vc.1 c1
    refine e_iload_n (show pAt 144 47 = some (47, .iload_n 2, 1, []) from by decide +kernel) rfl ?_
    exact e_retI (show pAt 144 48 = some (48, .ireturn, 1, []) from by decide +kernel) rfl vc
  · replace vc := vc.2 c1
    refine e_iload_n (show pAt 144 12 = some (12, .iload_n 2, 1, []) from by decide +kernel) rfl ?_
    refine e_aload_n (show pAt 144 13 = some (13, .aload_n 0, 1, []) from by decide +kernel) rfl (ra (by decide)) ?_
    refine e_aload_n (show pAt 144 14 = some (14, .aload_n 0, 1, []) from by decide +kernel) rfl (ra (by decide)) ?_
    refine e_gIv (v := h.2.1 93 2) (show pAt 144 15 = some (15, .getfield 16, 3, [7, 2, 0, 4125]) from by decide +kernel) (show HS h from hs) rfl (by decide) rfl ?_
    refine e_iload_n (show pAt 144 18 = some (18, .iload_n 3, 1, []) from by decide +kernel) rfl ?_
    refine Ends.call (show pAt 144 19 = some (19, .invokevirtual 274, 3, [110, 3, 0, 0, 5173, 5175, 71]) from by decide +kernel) (isRet_none rfl) rfl (call_this (show HS h from hs) rfl rfl (by decide)) (Ends.mono vc ?_)
    rintro _ h2 ⟨r3, rfl, hs_h2, vc⟩
    refine e_if (t := 38) (show pAt 144 22 = some (22, .ifCond .eq 16, 3, []) from by decide +kernel) rfl (fun c5 => ?_) (fun c5 => ?_)
    · replace vc := vc.1 c5
      refine e_iconst (c := 0) (show pAt 144 38 = some (38, .iconst 0, 1, []) from by decide +kernel) (by decide) ?_
      refine e_iadd (show pAt 144 39 = some (39, .iadd, 1, []) from by decide +kernel) ?_
      refine e_istore_n (show pAt 144 40 = some (40, .istore_n 2, 1, []) from by decide +kernel) ⟨Nat.le_of_ble_eq_true rfl, rfl⟩ rfl ?_
      refine e_iinc (c := 1) (show pAt 144 41 = some (41, .iinc 3 1, 3, []) from by decide +kernel) rfl rfl (by decide) rfl ?_
      refine e_goto (t := 4) (show pAt 144 44 = some (44, .goto (-40), 3, []) from by decide +kernel) rfl ?_
      exact vc
    · replace vc := vc.2 c5
      refine e_aload_n (show pAt 144 25 = some (25, .aload_n 0, 1, []) from by decide +kernel) rfl (ra (by decide)) ?_
      refine e_iload_n (show pAt 144 26 = some (26, .iload_n 3, 1, []) from by decide +kernel) rfl ?_
      refine e_iload_n (show pAt 144 27 = some (27, .iload_n 1, 1, []) from by decide +kernel) rfl ?_
      refine Ends.call (show pAt 144 28 = some (28, .invokevirtual 288, 3, [143, 3, 0, 0, 5193, 5195, 76]) from by decide +kernel) (isRet_none rfl) rfl (call_this (show HS h2 from hs_h2) rfl rfl (by decide)) (Ends.mono vc ?_)
      rintro _ h6 ⟨r7, rfl, hs_h6, vc⟩
      refine e_if (t := 38) (show pAt 144 31 = some (31, .ifCond .eq 7, 3, []) from by decide +kernel) rfl (fun c9 => ?_) (fun c9 => ?_)
      · replace vc := vc.1 c9
        refine e_iconst (c := 0) (show pAt 144 38 = some (38, .iconst 0, 1, []) from by decide +kernel) (by decide) ?_
        refine e_iadd (show pAt 144 39 = some (39, .iadd, 1, []) from by decide +kernel) ?_
        refine e_istore_n (show pAt 144 40 = some (40, .istore_n 2, 1, []) from by decide +kernel) ⟨Nat.le_of_ble_eq_true rfl, rfl⟩ rfl ?_
        refine e_iinc (c := 1) (show pAt 144 41 = some (41, .iinc 3 1, 3, []) from by decide +kernel) rfl rfl (by decide) rfl ?_
        refine e_goto (t := 4) (show pAt 144 44 = some (44, .goto (-40), 3, []) from by decide +kernel) rfl ?_
        exact vc
      · replace vc := vc.2 c9
        refine e_iconst (c := 1) (show pAt 144 34 = some (34, .iconst 1, 1, []) from by decide +kernel) (by decide) ?_
        refine e_goto (t := 39) (show pAt 144 35 = some (35, .goto 4, 3, []) from by decide +kernel) rfl ?_
        refine e_iadd (show pAt 144 39 = some (39, .iadd, 1, []) from by decide +kernel) ?_
        refine e_istore_n (show pAt 144 40 = some (40, .istore_n 2, 1, []) from by decide +kernel) ⟨Nat.le_of_ble_eq_true rfl, rfl⟩ rfl ?_
        refine e_iinc (c := 1) (show pAt 144 41 = some (41, .iinc 3 1, 3, []) from by decide +kernel) rfl rfl (by decide) rfl ?_
        refine e_goto (t := 4) (show pAt 144 44 = some (44, .goto (-40), 3, []) from by decide +kernel) rfl ?_
        exact vc

theorem w_mshw0 {X : Scr} {dp : Nat} {h : Hp} {Q : Option Value → Hp → Prop} (p : Int32) (hs : HS h)
    (vc : Ends X dp 145 4 [.ref 93, .int p, .int (-1), .int 0] [] h Q) :
    Ends X dp 145 0 [.ref 93, .int p, .retAddr 0, .retAddr 0] [] h Q := by
  have ra : ∀ {a : Nat}, a < 1000 → a ≤ OLDB := fun h => by have := OLDB_eq; omega
  refine e_iconst (c := (-1)) (show pAt 145 0 = some (0, .iconst (-1), 1, []) from by decide +kernel) (by decide) ?_
  refine e_istore_n (show pAt 145 1 = some (1, .istore_n 2, 1, []) from by decide +kernel) ⟨Nat.le_of_ble_eq_true rfl, rfl⟩ rfl ?_
  refine e_iconst (c := 0) (show pAt 145 2 = some (2, .iconst 0, 1, []) from by decide +kernel) (by decide) ?_
  refine e_istore_n (show pAt 145 3 = some (3, .istore_n 3, 1, []) from by decide +kernel) ⟨Nat.le_of_ble_eq_true rfl, rfl⟩ rfl ?_
  exact vc

theorem w_mshw1 {X : Scr} {dp : Nat} {h : Hp} {Q : Option Value → Hp → Prop} (p : Int32) (f : Int32) (o : Int32) (hs : HS h)
    (vc : ((condB .ge o (h.2.1 93 0) = true → ((condB .ge f 0 = true → (inB f 7 = true ∧ Q (some (.int (h.2.1 96 f.toNatClampNeg))) h)) ∧ (condB .ge f 0 = false → (inB p 7 = true ∧ Q (some (.int (h.2.1 96 p.toNatClampNeg))) h)))) ∧ (condB .ge o (h.2.1 93 0) = false → ((condB .eq o p = true → Ends X (dp + 1) 145 4 [.ref 93, .int p, .int f, .int (o + 1)] [] h Q) ∧ (condB .eq o p = false → Ends X dp 139 0 [.ref 93, .int o] [] h (fun rv h6 => ∃ r7, rv = some (.int r7) ∧ HS h6 ∧ ((condB .eq r7 0 = true → Ends X (dp + 1) 145 4 [.ref 93, .int p, .int f, .int (o + 1)] [] h6 Q) ∧ (condB .eq r7 0 = false → ((condB .lt f 0 = true → Ends X (dp + 1) 145 4 [.ref 93, .int p, .int o, .int (o + 1)] [] h6 Q) ∧ (condB .lt f 0 = false → (inB o 7 = true ∧ (inB f 7 = true ∧ ((condB .le (h6.2.1 98 o.toNatClampNeg) (h6.2.1 98 f.toNatClampNeg) = true → Ends X (dp + 1) 145 4 [.ref 93, .int p, .int f, .int (o + 1)] [] h6 Q) ∧ (condB .le (h6.2.1 98 o.toNatClampNeg) (h6.2.1 98 f.toNatClampNeg) = false → Ends X (dp + 1) 145 4 [.ref 93, .int p, .int o, .int (o + 1)] [] h6 Q)))))))))))))) :
    Ends X (dp + 1) 145 4 [.ref 93, .int p, .int f, .int o] [] h Q := by
  have ra : ∀ {a : Nat}, a < 1000 → a ≤ OLDB := fun h => by have := OLDB_eq; omega
  refine e_iload_n (show pAt 145 4 = some (4, .iload_n 3, 1, []) from by decide +kernel) rfl ?_
  refine e_aload_n (show pAt 145 5 = some (5, .aload_n 0, 1, []) from by decide +kernel) rfl (ra (by decide)) ?_
  refine e_gIv (v := h.2.1 93 0) (show pAt 145 6 = some (6, .getfield 7, 3, [7, 0, 0, 4123]) from by decide +kernel) (show HS h from hs) rfl (by decide) rfl ?_
  refine e_icmp (t := 52) (show pAt 145 9 = some (9, .if_icmp .ge 43, 3, []) from by decide +kernel) rfl (fun c1 => ?_) (fun c1 => ?_)
  · replace vc := vc.1 c1
    refine e_iload_n (show pAt 145 52 = some (52, .iload_n 2, 1, []) from by decide +kernel) rfl ?_
    refine e_if (t := 65) (show pAt 145 53 = some (53, .ifCond .ge 12, 3, []) from by decide +kernel) rfl (fun c2 => ?_) (fun c2 => ?_)
    · replace vc := vc.1 c2
      refine e_aload_n (show pAt 145 65 = some (65, .aload_n 0, 1, []) from by decide +kernel) rfl (ra (by decide)) ?_
      refine e_gR (show pAt 145 66 = some (66, .getfield 26, 3, [7, 5, 0, 4128]) from by decide +kernel) (show HS h from hs) rfl (by decide) (hs_ref (show HS h from hs) rfl) ?_
      refine e_iload_n (show pAt 145 69 = some (69, .iload_n 2, 1, []) from by decide +kernel) rfl ?_
      obtain ⟨c3, vc⟩ := vc
      refine e_aldv (v := h.2.1 96 f.toNatClampNeg) (show pAt 145 70 = some (70, .iaload, 1, []) from by decide +kernel) (show HS h from hs) (by decide) c3 rfl ?_
      exact e_retI (show pAt 145 71 = some (71, .ireturn, 1, []) from by decide +kernel) rfl vc
    · replace vc := vc.2 c2
      refine e_aload_n (show pAt 145 56 = some (56, .aload_n 0, 1, []) from by decide +kernel) rfl (ra (by decide)) ?_
      refine e_gR (show pAt 145 57 = some (57, .getfield 26, 3, [7, 5, 0, 4128]) from by decide +kernel) (show HS h from hs) rfl (by decide) (hs_ref (show HS h from hs) rfl) ?_
      refine e_iload_n (show pAt 145 60 = some (60, .iload_n 1, 1, []) from by decide +kernel) rfl ?_
      obtain ⟨c4, vc⟩ := vc
      refine e_aldv (v := h.2.1 96 p.toNatClampNeg) (show pAt 145 61 = some (61, .iaload, 1, []) from by decide +kernel) (show HS h from hs) (by decide) c4 rfl ?_
      refine e_goto (t := 71) (show pAt 145 62 = some (62, .goto 9, 3, []) from by decide +kernel) rfl ?_
      exact e_retI (show pAt 145 71 = some (71, .ireturn, 1, []) from by decide +kernel) rfl vc
  · replace vc := vc.2 c1
    refine e_iload_n (show pAt 145 12 = some (12, .iload_n 3, 1, []) from by decide +kernel) rfl ?_
    refine e_iload_n (show pAt 145 13 = some (13, .iload_n 1, 1, []) from by decide +kernel) rfl ?_
    refine e_icmp (t := 46) (show pAt 145 14 = some (14, .if_icmp .eq 32, 3, []) from by decide +kernel) rfl (fun c5 => ?_) (fun c5 => ?_)
    · replace vc := vc.1 c5
      refine e_iinc (c := 1) (show pAt 145 46 = some (46, .iinc 3 1, 3, []) from by decide +kernel) rfl rfl (by decide) rfl ?_
      refine e_goto (t := 4) (show pAt 145 49 = some (49, .goto (-45), 3, []) from by decide +kernel) rfl ?_
      exact vc
    · replace vc := vc.2 c5
      refine e_aload_n (show pAt 145 17 = some (17, .aload_n 0, 1, []) from by decide +kernel) rfl (ra (by decide)) ?_
      refine e_iload_n (show pAt 145 18 = some (18, .iload_n 3, 1, []) from by decide +kernel) rfl ?_
      refine Ends.call (show pAt 145 19 = some (19, .invokevirtual 291, 3, [139, 2, 0, 0, 5169, 5171, 70]) from by decide +kernel) (isRet_none rfl) rfl (call_this (show HS h from hs) rfl rfl (by decide)) (Ends.mono vc ?_)
      rintro _ h6 ⟨r7, rfl, hs_h6, vc⟩
      refine e_if (t := 46) (show pAt 145 22 = some (22, .ifCond .eq 24, 3, []) from by decide +kernel) rfl (fun c9 => ?_) (fun c9 => ?_)
      · replace vc := vc.1 c9
        refine e_iinc (c := 1) (show pAt 145 46 = some (46, .iinc 3 1, 3, []) from by decide +kernel) rfl rfl (by decide) rfl ?_
        refine e_goto (t := 4) (show pAt 145 49 = some (49, .goto (-45), 3, []) from by decide +kernel) rfl ?_
        exact vc
      · replace vc := vc.2 c9
        refine e_iload_n (show pAt 145 25 = some (25, .iload_n 2, 1, []) from by decide +kernel) rfl ?_
        refine e_if (t := 44) (show pAt 145 26 = some (26, .ifCond .lt 18, 3, []) from by decide +kernel) rfl (fun c10 => ?_) (fun c10 => ?_)
        · replace vc := vc.1 c10
          refine e_iload_n (show pAt 145 44 = some (44, .iload_n 3, 1, []) from by decide +kernel) rfl ?_
          refine e_istore_n (show pAt 145 45 = some (45, .istore_n 2, 1, []) from by decide +kernel) ⟨Nat.le_of_ble_eq_true rfl, rfl⟩ rfl ?_
          refine e_iinc (c := 1) (show pAt 145 46 = some (46, .iinc 3 1, 3, []) from by decide +kernel) rfl rfl (by decide) rfl ?_
          refine e_goto (t := 4) (show pAt 145 49 = some (49, .goto (-45), 3, []) from by decide +kernel) rfl ?_
          exact vc
        · replace vc := vc.2 c10
          refine e_aload_n (show pAt 145 29 = some (29, .aload_n 0, 1, []) from by decide +kernel) rfl (ra (by decide)) ?_
          refine e_gR (show pAt 145 30 = some (30, .getfield 32, 3, [7, 7, 0, 4130]) from by decide +kernel) (show HS h6 from hs_h6) rfl (by decide) (hs_ref (show HS h6 from hs_h6) rfl) ?_
          refine e_iload_n (show pAt 145 33 = some (33, .iload_n 3, 1, []) from by decide +kernel) rfl ?_
          obtain ⟨c11, vc⟩ := vc
          refine e_aldv (v := h6.2.1 98 o.toNatClampNeg) (show pAt 145 34 = some (34, .iaload, 1, []) from by decide +kernel) (show HS h6 from hs_h6) (by decide) c11 rfl ?_
          refine e_aload_n (show pAt 145 35 = some (35, .aload_n 0, 1, []) from by decide +kernel) rfl (ra (by decide)) ?_
          refine e_gR (show pAt 145 36 = some (36, .getfield 32, 3, [7, 7, 0, 4130]) from by decide +kernel) (show HS h6 from hs_h6) rfl (by decide) (hs_ref (show HS h6 from hs_h6) rfl) ?_
          refine e_iload_n (show pAt 145 39 = some (39, .iload_n 2, 1, []) from by decide +kernel) rfl ?_
          obtain ⟨c12, vc⟩ := vc
          refine e_aldv (v := h6.2.1 98 f.toNatClampNeg) (show pAt 145 40 = some (40, .iaload, 1, []) from by decide +kernel) (show HS h6 from hs_h6) (by decide) c12 rfl ?_
          refine e_icmp (t := 46) (show pAt 145 41 = some (41, .if_icmp .le 5, 3, []) from by decide +kernel) rfl (fun c13 => ?_) (fun c13 => ?_)
          · replace vc := vc.1 c13
            refine e_iinc (c := 1) (show pAt 145 46 = some (46, .iinc 3 1, 3, []) from by decide +kernel) rfl rfl (by decide) rfl ?_
            refine e_goto (t := 4) (show pAt 145 49 = some (49, .goto (-45), 3, []) from by decide +kernel) rfl ?_
            exact vc
          · replace vc := vc.2 c13
            refine e_iload_n (show pAt 145 44 = some (44, .iload_n 3, 1, []) from by decide +kernel) rfl ?_
            refine e_istore_n (show pAt 145 45 = some (45, .istore_n 2, 1, []) from by decide +kernel) ⟨Nat.le_of_ble_eq_true rfl, rfl⟩ rfl ?_
            refine e_iinc (c := 1) (show pAt 145 46 = some (46, .iinc 3 1, 3, []) from by decide +kernel) rfl rfl (by decide) rfl ?_
            refine e_goto (t := 4) (show pAt 145 49 = some (49, .goto (-45), 3, []) from by decide +kernel) rfl ?_
            exact vc

theorem w_mskw0 {X : Scr} {dp : Nat} {h : Hp} {Q : Option Value → Hp → Prop} (p : Int32) (hs : HS h)
    (vc : Ends X dp 146 8 [.ref 93, .int p, .int 0, .int 99, .int 0, .retAddr 0] [] h Q) :
    Ends X dp 146 0 [.ref 93, .int p, .retAddr 0, .retAddr 0, .retAddr 0, .retAddr 0] [] h Q := by
  have ra : ∀ {a : Nat}, a < 1000 → a ≤ OLDB := fun h => by have := OLDB_eq; omega
  refine e_iconst (c := 0) (show pAt 146 0 = some (0, .iconst 0, 1, []) from by decide +kernel) (by decide) ?_
  refine e_istore_n (show pAt 146 1 = some (1, .istore_n 2, 1, []) from by decide +kernel) ⟨Nat.le_of_ble_eq_true rfl, rfl⟩ rfl ?_
  refine e_bipush (c := 99) (show pAt 146 2 = some (2, .bipush 99, 2, []) from by decide +kernel) (by decide) ?_
  refine e_istore_n (show pAt 146 4 = some (4, .istore_n 3, 1, []) from by decide +kernel) ⟨Nat.le_of_ble_eq_true rfl, rfl⟩ rfl ?_
  refine e_iconst (c := 0) (show pAt 146 5 = some (5, .iconst 0, 1, []) from by decide +kernel) (by decide) ?_
  refine e_istore (show pAt 146 6 = some (6, .istore 4, 2, []) from by decide +kernel) ⟨Nat.le_of_ble_eq_true rfl, rfl⟩ rfl ?_
  exact vc

theorem w_mskw1 {X : Scr} {dp : Nat} {h : Hp} {Q : Option Value → Hp → Prop} (p : Int32) (f : Int32) (w : Int32) (l : Int32) (x : Value) (hs : HS h)
    (vc : ((condB .ge l 7 = true → Q (some (.int f)) h) ∧ (condB .ge l 7 = false → Ends X dp 144 0 [.ref 93, .int l, .retAddr 0, .retAddr 0] [] h (fun rv h2 => ∃ r3, rv = some (.int r3) ∧ HS h2 ∧ ((condB .gt r3 w = true → Ends X (dp + 1) 146 8 [.ref 93, .int p, .int f, .int w, .int (l + 1), .int r3] [] h2 Q) ∧ (condB .gt r3 w = false → ((condB .ne r3 w = true → Ends X (dp + 1) 146 8 [.ref 93, .int p, .int l, .int r3, .int (l + 1), .int r3] [] h2 Q) ∧ (condB .ne r3 w = false → (inB p 7 = true ∧ Ends X dp 142 0 [.ref 93, .int l, .int (h2.2.1 96 p.toNatClampNeg)] [] h2 (fun rv h8 => ∃ r9, rv = some (.int r9) ∧ HS h8 ∧ (inB p 7 = true ∧ Ends X dp 142 0 [.ref 93, .int f, .int (h8.2.1 96 p.toNatClampNeg)] [] h8 (fun rv h12 => ∃ r13, rv = some (.int r13) ∧ HS h12 ∧ ((condB .lt r9 r13 = true → Ends X (dp + 1) 146 8 [.ref 93, .int p, .int l, .int r3, .int (l + 1), .int r3] [] h12 Q) ∧ (condB .lt r9 r13 = false → Ends X (dp + 1) 146 8 [.ref 93, .int p, .int f, .int w, .int (l + 1), .int r3] [] h12 Q)))))))))))))) :
    Ends X (dp + 1) 146 8 [.ref 93, .int p, .int f, .int w, .int l, x] [] h Q := by
  have ra : ∀ {a : Nat}, a < 1000 → a ≤ OLDB := fun h => by have := OLDB_eq; omega
  refine e_iload (show pAt 146 8 = some (8, .iload 4, 2, []) from by decide +kernel) rfl ?_
  refine e_bipush (c := 7) (show pAt 146 10 = some (10, .bipush 7, 2, []) from by decide +kernel) (by decide) ?_
  refine e_icmp (t := 76) (show pAt 146 12 = some (12, .if_icmp .ge 64, 3, []) from by decide +kernel) rfl (fun c1 => ?_) (fun c1 => ?_)
  · replace vc := vc.1 c1
    refine e_iload_n (show pAt 146 76 = some (76, .iload_n 2, 1, []) from by decide +kernel) rfl ?_
    exact e_retI (show pAt 146 77 = some (77, .ireturn, 1, []) from by decide +kernel) rfl vc
  · replace vc := vc.2 c1
    refine e_aload_n (show pAt 146 15 = some (15, .aload_n 0, 1, []) from by decide +kernel) rfl (ra (by decide)) ?_
    refine e_iload (show pAt 146 16 = some (16, .iload 4, 2, []) from by decide +kernel) rfl ?_
    refine Ends.call (show pAt 146 18 = some (18, .invokevirtual 294, 3, [144, 2, 0, 0, 5189, 5191, 75]) from by decide +kernel) (isRet_none rfl) rfl (call_this (show HS h from hs) rfl rfl (by decide)) (Ends.mono vc ?_)
    rintro _ h2 ⟨r3, rfl, hs_h2, vc⟩
    refine e_istore (show pAt 146 21 = some (21, .istore 5, 2, []) from by decide +kernel) ⟨Nat.le_of_ble_eq_true rfl, rfl⟩ rfl ?_
    refine e_iload (show pAt 146 23 = some (23, .iload 5, 2, []) from by decide +kernel) rfl ?_
    refine e_iload_n (show pAt 146 25 = some (25, .iload_n 3, 1, []) from by decide +kernel) rfl ?_
    refine e_icmp (t := 70) (show pAt 146 26 = some (26, .if_icmp .gt 44, 3, []) from by decide +kernel) rfl (fun c5 => ?_) (fun c5 => ?_)
    · replace vc := vc.1 c5
      refine e_iinc (c := 1) (show pAt 146 70 = some (70, .iinc 4 1, 3, []) from by decide +kernel) rfl rfl (by decide) rfl ?_
      refine e_goto (t := 8) (show pAt 146 73 = some (73, .goto (-65), 3, []) from by decide +kernel) rfl ?_
      exact vc
    · replace vc := vc.2 c5
      refine e_iload (show pAt 146 29 = some (29, .iload 5, 2, []) from by decide +kernel) rfl ?_
      refine e_iload_n (show pAt 146 31 = some (31, .iload_n 3, 1, []) from by decide +kernel) rfl ?_
      refine e_icmp (t := 64) (show pAt 146 32 = some (32, .if_icmp .ne 32, 3, []) from by decide +kernel) rfl (fun c6 => ?_) (fun c6 => ?_)
      · replace vc := vc.1 c6
        refine e_iload (show pAt 146 64 = some (64, .iload 4, 2, []) from by decide +kernel) rfl ?_
        refine e_istore_n (show pAt 146 66 = some (66, .istore_n 2, 1, []) from by decide +kernel) ⟨Nat.le_of_ble_eq_true rfl, rfl⟩ rfl ?_
        refine e_iload (show pAt 146 67 = some (67, .iload 5, 2, []) from by decide +kernel) rfl ?_
        refine e_istore_n (show pAt 146 69 = some (69, .istore_n 3, 1, []) from by decide +kernel) ⟨Nat.le_of_ble_eq_true rfl, rfl⟩ rfl ?_
        refine e_iinc (c := 1) (show pAt 146 70 = some (70, .iinc 4 1, 3, []) from by decide +kernel) rfl rfl (by decide) rfl ?_
        refine e_goto (t := 8) (show pAt 146 73 = some (73, .goto (-65), 3, []) from by decide +kernel) rfl ?_
        exact vc
      · replace vc := vc.2 c6
        refine e_aload_n (show pAt 146 35 = some (35, .aload_n 0, 1, []) from by decide +kernel) rfl (ra (by decide)) ?_
        refine e_iload (show pAt 146 36 = some (36, .iload 4, 2, []) from by decide +kernel) rfl ?_
        refine e_aload_n (show pAt 146 38 = some (38, .aload_n 0, 1, []) from by decide +kernel) rfl (ra (by decide)) ?_
        refine e_gR (show pAt 146 39 = some (39, .getfield 26, 3, [7, 5, 0, 4128]) from by decide +kernel) (show HS h2 from hs_h2) rfl (by decide) (hs_ref (show HS h2 from hs_h2) rfl) ?_
        refine e_iload_n (show pAt 146 42 = some (42, .iload_n 1, 1, []) from by decide +kernel) rfl ?_
        obtain ⟨c7, vc⟩ := vc
        refine e_aldv (v := h2.2.1 96 p.toNatClampNeg) (show pAt 146 43 = some (43, .iaload, 1, []) from by decide +kernel) (show HS h2 from hs_h2) (by decide) c7 rfl ?_
        refine Ends.call (show pAt 146 44 = some (44, .invokevirtual 281, 3, [142, 3, 0, 0, 5197, 5199, 77]) from by decide +kernel) (isRet_none rfl) rfl (call_this (show HS h2 from hs_h2) rfl rfl (by decide)) (Ends.mono vc ?_)
        rintro _ h8 ⟨r9, rfl, hs_h8, vc⟩
        refine e_aload_n (show pAt 146 47 = some (47, .aload_n 0, 1, []) from by decide +kernel) rfl (ra (by decide)) ?_
        refine e_iload_n (show pAt 146 48 = some (48, .iload_n 2, 1, []) from by decide +kernel) rfl ?_
        refine e_aload_n (show pAt 146 49 = some (49, .aload_n 0, 1, []) from by decide +kernel) rfl (ra (by decide)) ?_
        refine e_gR (show pAt 146 50 = some (50, .getfield 26, 3, [7, 5, 0, 4128]) from by decide +kernel) (show HS h8 from hs_h8) rfl (by decide) (hs_ref (show HS h8 from hs_h8) rfl) ?_
        refine e_iload_n (show pAt 146 53 = some (53, .iload_n 1, 1, []) from by decide +kernel) rfl ?_
        obtain ⟨c11, vc⟩ := vc
        refine e_aldv (v := h8.2.1 96 p.toNatClampNeg) (show pAt 146 54 = some (54, .iaload, 1, []) from by decide +kernel) (show HS h8 from hs_h8) (by decide) c11 rfl ?_
        refine Ends.call (show pAt 146 55 = some (55, .invokevirtual 281, 3, [142, 3, 0, 0, 5197, 5199, 77]) from by decide +kernel) (isRet_none rfl) rfl (call_this (show HS h8 from hs_h8) rfl rfl (by decide)) (Ends.mono vc ?_)
        rintro _ h12 ⟨r13, rfl, hs_h12, vc⟩
        refine e_icmp (t := 64) (show pAt 146 58 = some (58, .if_icmp .lt 6, 3, []) from by decide +kernel) rfl (fun c15 => ?_) (fun c15 => ?_)
        · replace vc := vc.1 c15
          refine e_iload (show pAt 146 64 = some (64, .iload 4, 2, []) from by decide +kernel) rfl ?_
          refine e_istore_n (show pAt 146 66 = some (66, .istore_n 2, 1, []) from by decide +kernel) ⟨Nat.le_of_ble_eq_true rfl, rfl⟩ rfl ?_
          refine e_iload (show pAt 146 67 = some (67, .iload 5, 2, []) from by decide +kernel) rfl ?_
          refine e_istore_n (show pAt 146 69 = some (69, .istore_n 3, 1, []) from by decide +kernel) ⟨Nat.le_of_ble_eq_true rfl, rfl⟩ rfl ?_
          refine e_iinc (c := 1) (show pAt 146 70 = some (70, .iinc 4 1, 3, []) from by decide +kernel) rfl rfl (by decide) rfl ?_
          refine e_goto (t := 8) (show pAt 146 73 = some (73, .goto (-65), 3, []) from by decide +kernel) rfl ?_
          exact vc
        · replace vc := vc.2 c15
          refine e_goto (t := 70) (show pAt 146 61 = some (61, .goto 9, 3, []) from by decide +kernel) rfl ?_
          refine e_iinc (c := 1) (show pAt 146 70 = some (70, .iinc 4 1, 3, []) from by decide +kernel) rfl rfl (by decide) rfl ?_
          refine e_goto (t := 8) (show pAt 146 73 = some (73, .goto (-65), 3, []) from by decide +kernel) rfl ?_
          exact vc

theorem w_mway {X : Scr} {dp : Nat} {h : Hp} {Q : Option Value → Hp → Prop} (p : Int32) (hs : HS h)
    (vc : ((condB .ne p (h.2.1 93 28) = true → (inB p 7 = true ∧ ((((h.2.1 94 p.toNatClampNeg).toInt < 1 ∨ 6 < (h.2.1 94 p.toNatClampNeg).toInt) → (inB p 7 = true ∧ Q (some (.int (h.2.1 96 p.toNatClampNeg))) h)) ∧ ((h.2.1 94 p.toNatClampNeg).toInt = 1 → (inB p 7 = true ∧ ((condB .ge (h.2.1 96 p.toNatClampNeg) 4 = true → Q (some (.int 6)) h) ∧ (condB .ge (h.2.1 96 p.toNatClampNeg) 4 = false → Q (some (.int 0)) h)))) ∧ ((h.2.1 94 p.toNatClampNeg).toInt = 2 → Ends X dp 145 0 [.ref 93, .int p, .retAddr 0, .retAddr 0] [] h (fun rv h8 => ∃ r9, rv = some (.int r9) ∧ HS h8 ∧ Q (some (.int r9)) h8)) ∧ ((h.2.1 94 p.toNatClampNeg).toInt = 3 → (inB p 7 = true ∧ Q (some (.int (h.2.1 96 p.toNatClampNeg))) h)) ∧ ((h.2.1 94 p.toNatClampNeg).toInt = 4 → (inB p 7 = true ∧ ((condB .ge (h.2.1 96 p.toNatClampNeg) 4 = true → Q (some (.int 6)) h) ∧ (condB .ge (h.2.1 96 p.toNatClampNeg) 4 = false → Q (some (.int 0)) h)))) ∧ ((h.2.1 94 p.toNatClampNeg).toInt = 5 → Ends X dp 146 0 [.ref 93, .int p, .retAddr 0, .retAddr 0, .retAddr 0, .retAddr 0] [] h (fun rv h14 => ∃ r15, rv = some (.int r15) ∧ HS h14 ∧ Q (some (.int r15)) h14)) ∧ ((h.2.1 94 p.toNatClampNeg).toInt = 6 → (inB ((4 * p) + ((h.2.1 93 1) - (h.2.1 93 1) / 4 * 4)) 28 = true ∧ Q (some (.int (h.2.1 99 ((4 * p) + ((h.2.1 93 1) - (h.2.1 93 1) / 4 * 4)).toNatClampNeg))) h))))) ∧ (condB .ne p (h.2.1 93 28) = false → Q (some (.int (h.2.1 93 29))) h))) :
    Ends X (dp + 1) 147 0 [.ref 93, .int p] [] h Q := by
  have ra : ∀ {a : Nat}, a < 1000 → a ≤ OLDB := fun h => by have := OLDB_eq; omega
  refine e_iload_n (show pAt 147 0 = some (0, .iload_n 1, 1, []) from by decide +kernel) rfl ?_
  refine e_aload_n (show pAt 147 1 = some (1, .aload_n 0, 1, []) from by decide +kernel) rfl (ra (by decide)) ?_
  refine e_gIv (v := h.2.1 93 28) (show pAt 147 2 = some (2, .getfield 97, 3, [7, 28, 0, 4151]) from by decide +kernel) (show HS h from hs) rfl (by decide) rfl ?_
  refine e_icmp (t := 13) (show pAt 147 5 = some (5, .if_icmp .ne 8, 3, []) from by decide +kernel) rfl (fun c1 => ?_) (fun c1 => ?_)
  · replace vc := vc.1 c1
    refine e_aload_n (show pAt 147 13 = some (13, .aload_n 0, 1, []) from by decide +kernel) rfl (ra (by decide)) ?_
    refine e_gR (show pAt 147 14 = some (14, .getfield 19, 3, [7, 3, 0, 4126]) from by decide +kernel) (show HS h from hs) rfl (by decide) (hs_ref (show HS h from hs) rfl) ?_
    refine e_iload_n (show pAt 147 17 = some (17, .iload_n 1, 1, []) from by decide +kernel) rfl ?_
    obtain ⟨c2, vc⟩ := vc
    refine e_aldv (v := h.2.1 94 p.toNatClampNeg) (show pAt 147 18 = some (18, .iaload, 1, []) from by decide +kernel) (show HS h from hs) (by decide) c2 rfl ?_
    rcases (show ((h.2.1 94 p.toNatClampNeg).toInt < 1 ∨ 6 < (h.2.1 94 p.toNatClampNeg).toInt) ∨ (h.2.1 94 p.toNatClampNeg).toInt = 1 ∨ (h.2.1 94 p.toNatClampNeg).toInt = 2 ∨ (h.2.1 94 p.toNatClampNeg).toInt = 3 ∨ (h.2.1 94 p.toNatClampNeg).toInt = 4 ∨ (h.2.1 94 p.toNatClampNeg).toInt = 5 ∨ (h.2.1 94 p.toNatClampNeg).toInt = 6 from by omega) with c3 | c3 | c3 | c3 | c3 | c3 | c3
    · refine e_tsd (t := 101) (show pAt 147 19 = some (19, .tableswitch 82 1 6 #[37, 54, 82, 37, 60, 66], 37, []) from by decide +kernel) c3 rfl ?_
      replace vc := vc.1 c3
      refine e_aload_n (show pAt 147 101 = some (101, .aload_n 0, 1, []) from by decide +kernel) rfl (ra (by decide)) ?_
      refine e_gR (show pAt 147 102 = some (102, .getfield 26, 3, [7, 5, 0, 4128]) from by decide +kernel) (show HS h from hs) rfl (by decide) (hs_ref (show HS h from hs) rfl) ?_
      refine e_iload_n (show pAt 147 105 = some (105, .iload_n 1, 1, []) from by decide +kernel) rfl ?_
      obtain ⟨c5, vc⟩ := vc
      refine e_aldv (v := h.2.1 96 p.toNatClampNeg) (show pAt 147 106 = some (106, .iaload, 1, []) from by decide +kernel) (show HS h from hs) (by decide) c5 rfl ?_
      exact e_retI (show pAt 147 107 = some (107, .ireturn, 1, []) from by decide +kernel) rfl vc
    · refine e_tsc (t := 56) 0 (show pAt 147 19 = some (19, .tableswitch 82 1 6 #[37, 54, 82, 37, 60, 66], 37, []) from by decide +kernel) (by omega) (by omega) rfl rfl ?_
      replace vc := vc.2.1 c3
      refine e_aload_n (show pAt 147 56 = some (56, .aload_n 0, 1, []) from by decide +kernel) rfl (ra (by decide)) ?_
      refine e_gR (show pAt 147 57 = some (57, .getfield 26, 3, [7, 5, 0, 4128]) from by decide +kernel) (show HS h from hs) rfl (by decide) (hs_ref (show HS h from hs) rfl) ?_
      refine e_iload_n (show pAt 147 60 = some (60, .iload_n 1, 1, []) from by decide +kernel) rfl ?_
      obtain ⟨c6, vc⟩ := vc
      refine e_aldv (v := h.2.1 96 p.toNatClampNeg) (show pAt 147 61 = some (61, .iaload, 1, []) from by decide +kernel) (show HS h from hs) (by decide) c6 rfl ?_
      refine e_iconst (c := 4) (show pAt 147 62 = some (62, .iconst 4, 1, []) from by decide +kernel) (by decide) ?_
      refine e_icmp (t := 70) (show pAt 147 63 = some (63, .if_icmp .ge 7, 3, []) from by decide +kernel) rfl (fun c7 => ?_) (fun c7 => ?_)
      · replace vc := vc.1 c7
        refine e_bipush (c := 6) (show pAt 147 70 = some (70, .bipush 6, 2, []) from by decide +kernel) (by decide) ?_
        exact e_retI (show pAt 147 72 = some (72, .ireturn, 1, []) from by decide +kernel) rfl vc
      · replace vc := vc.2 c7
        refine e_iconst (c := 0) (show pAt 147 66 = some (66, .iconst 0, 1, []) from by decide +kernel) (by decide) ?_
        refine e_goto (t := 72) (show pAt 147 67 = some (67, .goto 5, 3, []) from by decide +kernel) rfl ?_
        exact e_retI (show pAt 147 72 = some (72, .ireturn, 1, []) from by decide +kernel) rfl vc
    · refine e_tsc (t := 73) 1 (show pAt 147 19 = some (19, .tableswitch 82 1 6 #[37, 54, 82, 37, 60, 66], 37, []) from by decide +kernel) (by omega) (by omega) rfl rfl ?_
      replace vc := vc.2.2.1 c3
      refine e_aload_n (show pAt 147 73 = some (73, .aload_n 0, 1, []) from by decide +kernel) rfl (ra (by decide)) ?_
      refine e_iload_n (show pAt 147 74 = some (74, .iload_n 1, 1, []) from by decide +kernel) rfl ?_
      refine Ends.call (show pAt 147 75 = some (75, .invokevirtual 297, 3, [145, 2, 0, 0, 5181, 5183, 73]) from by decide +kernel) (isRet_none rfl) rfl (call_this (show HS h from hs) rfl rfl (by decide)) (Ends.mono vc ?_)
      rintro _ h8 ⟨r9, rfl, hs_h8, vc⟩
      exact e_retI (show pAt 147 78 = some (78, .ireturn, 1, []) from by decide +kernel) rfl vc
    · refine e_tsc (t := 101) 2 (show pAt 147 19 = some (19, .tableswitch 82 1 6 #[37, 54, 82, 37, 60, 66], 37, []) from by decide +kernel) (by omega) (by omega) rfl rfl ?_
      replace vc := vc.2.2.2.1 c3
      refine e_aload_n (show pAt 147 101 = some (101, .aload_n 0, 1, []) from by decide +kernel) rfl (ra (by decide)) ?_
      refine e_gR (show pAt 147 102 = some (102, .getfield 26, 3, [7, 5, 0, 4128]) from by decide +kernel) (show HS h from hs) rfl (by decide) (hs_ref (show HS h from hs) rfl) ?_
      refine e_iload_n (show pAt 147 105 = some (105, .iload_n 1, 1, []) from by decide +kernel) rfl ?_
      obtain ⟨c11, vc⟩ := vc
      refine e_aldv (v := h.2.1 96 p.toNatClampNeg) (show pAt 147 106 = some (106, .iaload, 1, []) from by decide +kernel) (show HS h from hs) (by decide) c11 rfl ?_
      exact e_retI (show pAt 147 107 = some (107, .ireturn, 1, []) from by decide +kernel) rfl vc
    · refine e_tsc (t := 56) 3 (show pAt 147 19 = some (19, .tableswitch 82 1 6 #[37, 54, 82, 37, 60, 66], 37, []) from by decide +kernel) (by omega) (by omega) rfl rfl ?_
      replace vc := vc.2.2.2.2.1 c3
      refine e_aload_n (show pAt 147 56 = some (56, .aload_n 0, 1, []) from by decide +kernel) rfl (ra (by decide)) ?_
      refine e_gR (show pAt 147 57 = some (57, .getfield 26, 3, [7, 5, 0, 4128]) from by decide +kernel) (show HS h from hs) rfl (by decide) (hs_ref (show HS h from hs) rfl) ?_
      refine e_iload_n (show pAt 147 60 = some (60, .iload_n 1, 1, []) from by decide +kernel) rfl ?_
      obtain ⟨c12, vc⟩ := vc
      refine e_aldv (v := h.2.1 96 p.toNatClampNeg) (show pAt 147 61 = some (61, .iaload, 1, []) from by decide +kernel) (show HS h from hs) (by decide) c12 rfl ?_
      refine e_iconst (c := 4) (show pAt 147 62 = some (62, .iconst 4, 1, []) from by decide +kernel) (by decide) ?_
      refine e_icmp (t := 70) (show pAt 147 63 = some (63, .if_icmp .ge 7, 3, []) from by decide +kernel) rfl (fun c13 => ?_) (fun c13 => ?_)
      · replace vc := vc.1 c13
        refine e_bipush (c := 6) (show pAt 147 70 = some (70, .bipush 6, 2, []) from by decide +kernel) (by decide) ?_
        exact e_retI (show pAt 147 72 = some (72, .ireturn, 1, []) from by decide +kernel) rfl vc
      · replace vc := vc.2 c13
        refine e_iconst (c := 0) (show pAt 147 66 = some (66, .iconst 0, 1, []) from by decide +kernel) (by decide) ?_
        refine e_goto (t := 72) (show pAt 147 67 = some (67, .goto 5, 3, []) from by decide +kernel) rfl ?_
        exact e_retI (show pAt 147 72 = some (72, .ireturn, 1, []) from by decide +kernel) rfl vc
    · refine e_tsc (t := 79) 4 (show pAt 147 19 = some (19, .tableswitch 82 1 6 #[37, 54, 82, 37, 60, 66], 37, []) from by decide +kernel) (by omega) (by omega) rfl rfl ?_
      replace vc := vc.2.2.2.2.2.1 c3
      refine e_aload_n (show pAt 147 79 = some (79, .aload_n 0, 1, []) from by decide +kernel) rfl (ra (by decide)) ?_
      refine e_iload_n (show pAt 147 80 = some (80, .iload_n 1, 1, []) from by decide +kernel) rfl ?_
      refine Ends.call (show pAt 147 81 = some (81, .invokevirtual 300, 3, [146, 2, 0, 0, 5185, 5187, 74]) from by decide +kernel) (isRet_none rfl) rfl (call_this (show HS h from hs) rfl rfl (by decide)) (Ends.mono vc ?_)
      rintro _ h14 ⟨r15, rfl, hs_h14, vc⟩
      exact e_retI (show pAt 147 84 = some (84, .ireturn, 1, []) from by decide +kernel) rfl vc
    · refine e_tsc (t := 85) 5 (show pAt 147 19 = some (19, .tableswitch 82 1 6 #[37, 54, 82, 37, 60, 66], 37, []) from by decide +kernel) (by omega) (by omega) rfl rfl ?_
      replace vc := vc.2.2.2.2.2.2 c3
      refine e_aload_n (show pAt 147 85 = some (85, .aload_n 0, 1, []) from by decide +kernel) rfl (ra (by decide)) ?_
      refine e_gR (show pAt 147 86 = some (86, .getfield 35, 3, [7, 8, 0, 4131]) from by decide +kernel) (show HS h from hs) rfl (by decide) (hs_ref (show HS h from hs) rfl) ?_
      refine e_iconst (c := 4) (show pAt 147 89 = some (89, .iconst 4, 1, []) from by decide +kernel) (by decide) ?_
      refine e_iload_n (show pAt 147 90 = some (90, .iload_n 1, 1, []) from by decide +kernel) rfl ?_
      refine e_imul (show pAt 147 91 = some (91, .imul, 1, []) from by decide +kernel) ?_
      refine e_aload_n (show pAt 147 92 = some (92, .aload_n 0, 1, []) from by decide +kernel) rfl (ra (by decide)) ?_
      refine e_gIv (v := h.2.1 93 1) (show pAt 147 93 = some (93, .getfield 13, 3, [7, 1, 0, 4124]) from by decide +kernel) (show HS h from hs) rfl (by decide) rfl ?_
      refine e_iconst (c := 4) (show pAt 147 96 = some (96, .iconst 4, 1, []) from by decide +kernel) (by decide) ?_
      refine e_irem (show pAt 147 97 = some (97, .irem, 1, []) from by decide +kernel) (by decide) ?_
      refine e_iadd (show pAt 147 98 = some (98, .iadd, 1, []) from by decide +kernel) ?_
      obtain ⟨c17, vc⟩ := vc
      refine e_aldv (v := h.2.1 99 ((4 * p) + ((h.2.1 93 1) - (h.2.1 93 1) / 4 * 4)).toNatClampNeg) (show pAt 147 99 = some (99, .iaload, 1, []) from by decide +kernel) (show HS h from hs) (by decide) c17 rfl ?_
      exact e_retI (show pAt 147 100 = some (100, .ireturn, 1, []) from by decide +kernel) rfl vc
  · replace vc := vc.2 c1
    refine e_aload_n (show pAt 147 8 = some (8, .aload_n 0, 1, []) from by decide +kernel) rfl (ra (by decide)) ?_
    refine e_gIv (v := h.2.1 93 29) (show pAt 147 9 = some (9, .getfield 100, 3, [7, 29, 0, 4152]) from by decide +kernel) (show HS h from hs) rfl (by decide) rfl ?_
    exact e_retI (show pAt 147 12 = some (12, .ireturn, 1, []) from by decide +kernel) rfl vc

theorem w_mslp {X : Scr} {dp : Nat} {h : Hp} {Q : Option Value → Hp → Prop} (p : Int32) (hs : HS h)
    (vc : (inB p 7 = true ∧ (inB p 7 = true ∧ Ends X dp 147 0 [.ref 93, .int p] [] h (fun rv h3 => ∃ r4, rv = some (.int r4) ∧ HS h3 ∧ Ends X dp 138 0 [.ref 93, .int 2, .int p, .int r4, .int 0, .retAddr 0, .retAddr 0, .retAddr 0] [] h3 (fun rv h6 => ∃ r7, rv = some (.int r7) ∧ HS h6 ∧ (inB p 7 = true ∧ ((condB .ne (h6.2.1 94 p.toNatClampNeg) 4 = true → Q (some (.int ((((h.2.1 98 p.toNatClampNeg) + (h.2.1 97 p.toNatClampNeg)) + r7) + 0))) h6) ∧ (condB .ne (h6.2.1 94 p.toNatClampNeg) 4 = false → (inB p 7 = true ∧ Q (some (.int ((((h.2.1 98 p.toNatClampNeg) + (h.2.1 97 p.toNatClampNeg)) + r7) + (h6.2.1 95 p.toNatClampNeg)))) h6))))))))) :
    Ends X (dp + 1) 148 0 [.ref 93, .int p] [] h Q := by
  have ra : ∀ {a : Nat}, a < 1000 → a ≤ OLDB := fun h => by have := OLDB_eq; omega
  refine e_aload_n (show pAt 148 0 = some (0, .aload_n 0, 1, []) from by decide +kernel) rfl (ra (by decide)) ?_
  refine e_gR (show pAt 148 1 = some (1, .getfield 32, 3, [7, 7, 0, 4130]) from by decide +kernel) (show HS h from hs) rfl (by decide) (hs_ref (show HS h from hs) rfl) ?_
  refine e_iload_n (show pAt 148 4 = some (4, .iload_n 1, 1, []) from by decide +kernel) rfl ?_
  obtain ⟨c1, vc⟩ := vc
  refine e_aldv (v := h.2.1 98 p.toNatClampNeg) (show pAt 148 5 = some (5, .iaload, 1, []) from by decide +kernel) (show HS h from hs) (by decide) c1 rfl ?_
  refine e_aload_n (show pAt 148 6 = some (6, .aload_n 0, 1, []) from by decide +kernel) rfl (ra (by decide)) ?_
  refine e_gR (show pAt 148 7 = some (7, .getfield 29, 3, [7, 6, 0, 4129]) from by decide +kernel) (show HS h from hs) rfl (by decide) (hs_ref (show HS h from hs) rfl) ?_
  refine e_iload_n (show pAt 148 10 = some (10, .iload_n 1, 1, []) from by decide +kernel) rfl ?_
  obtain ⟨c2, vc⟩ := vc
  refine e_aldv (v := h.2.1 97 p.toNatClampNeg) (show pAt 148 11 = some (11, .iaload, 1, []) from by decide +kernel) (show HS h from hs) (by decide) c2 rfl ?_
  refine e_iadd (show pAt 148 12 = some (12, .iadd, 1, []) from by decide +kernel) ?_
  refine e_aload_n (show pAt 148 13 = some (13, .aload_n 0, 1, []) from by decide +kernel) rfl (ra (by decide)) ?_
  refine e_iconst (c := 2) (show pAt 148 14 = some (14, .iconst 2, 1, []) from by decide +kernel) (by decide) ?_
  refine e_iload_n (show pAt 148 15 = some (15, .iload_n 1, 1, []) from by decide +kernel) rfl ?_
  refine e_aload_n (show pAt 148 16 = some (16, .aload_n 0, 1, []) from by decide +kernel) rfl (ra (by decide)) ?_
  refine e_iload_n (show pAt 148 17 = some (17, .iload_n 1, 1, []) from by decide +kernel) rfl ?_
  refine Ends.call (show pAt 148 18 = some (18, .invokevirtual 303, 3, [147, 2, 0, 0, 5177, 5179, 72]) from by decide +kernel) (isRet_none rfl) rfl (call_this (show HS h from hs) rfl rfl (by decide)) (Ends.mono vc ?_)
  rintro _ h3 ⟨r4, rfl, hs_h3, vc⟩
  refine e_iconst (c := 0) (show pAt 148 21 = some (21, .iconst 0, 1, []) from by decide +kernel) (by decide) ?_
  refine Ends.call (show pAt 148 22 = some (22, .invokevirtual 277, 3, [138, 5, 0, 0, 5205, 5207, 79]) from by decide +kernel) (isRet_none rfl) rfl (call_this (show HS h3 from hs_h3) rfl rfl (by decide)) (Ends.mono vc ?_)
  rintro _ h6 ⟨r7, rfl, hs_h6, vc⟩
  refine e_iadd (show pAt 148 25 = some (25, .iadd, 1, []) from by decide +kernel) ?_
  refine e_aload_n (show pAt 148 26 = some (26, .aload_n 0, 1, []) from by decide +kernel) rfl (ra (by decide)) ?_
  refine e_gR (show pAt 148 27 = some (27, .getfield 19, 3, [7, 3, 0, 4126]) from by decide +kernel) (show HS h6 from hs_h6) rfl (by decide) (hs_ref (show HS h6 from hs_h6) rfl) ?_
  refine e_iload_n (show pAt 148 30 = some (30, .iload_n 1, 1, []) from by decide +kernel) rfl ?_
  obtain ⟨c9, vc⟩ := vc
  refine e_aldv (v := h6.2.1 94 p.toNatClampNeg) (show pAt 148 31 = some (31, .iaload, 1, []) from by decide +kernel) (show HS h6 from hs_h6) (by decide) c9 rfl ?_
  refine e_iconst (c := 4) (show pAt 148 32 = some (32, .iconst 4, 1, []) from by decide +kernel) (by decide) ?_
  refine e_icmp (t := 45) (show pAt 148 33 = some (33, .if_icmp .ne 12, 3, []) from by decide +kernel) rfl (fun c10 => ?_) (fun c10 => ?_)
  · replace vc := vc.1 c10
    refine e_iconst (c := 0) (show pAt 148 45 = some (45, .iconst 0, 1, []) from by decide +kernel) (by decide) ?_
    refine e_iadd (show pAt 148 46 = some (46, .iadd, 1, []) from by decide +kernel) ?_
    exact e_retI (show pAt 148 47 = some (47, .ireturn, 1, []) from by decide +kernel) rfl vc
  · replace vc := vc.2 c10
    refine e_aload_n (show pAt 148 36 = some (36, .aload_n 0, 1, []) from by decide +kernel) rfl (ra (by decide)) ?_
    refine e_gR (show pAt 148 37 = some (37, .getfield 23, 3, [7, 4, 0, 4127]) from by decide +kernel) (show HS h6 from hs_h6) rfl (by decide) (hs_ref (show HS h6 from hs_h6) rfl) ?_
    refine e_iload_n (show pAt 148 40 = some (40, .iload_n 1, 1, []) from by decide +kernel) rfl ?_
    obtain ⟨c11, vc⟩ := vc
    refine e_aldv (v := h6.2.1 95 p.toNatClampNeg) (show pAt 148 41 = some (41, .iaload, 1, []) from by decide +kernel) (show HS h6 from hs_h6) (by decide) c11 rfl ?_
    refine e_goto (t := 46) (show pAt 148 42 = some (42, .goto 4, 3, []) from by decide +kernel) rfl ?_
    refine e_iadd (show pAt 148 46 = some (46, .iadd, 1, []) from by decide +kernel) ?_
    exact e_retI (show pAt 148 47 = some (47, .ireturn, 1, []) from by decide +kernel) rfl vc

theorem w_mhb0 {X : Scr} {dp : Nat} {h : Hp} {Q : Option Value → Hp → Prop} (t : Int32) (hs : HS h)
    (vc : Ends X dp 155 4 [.ref 93, .int t, .int 0, .int 0] [] h Q) :
    Ends X dp 155 0 [.ref 93, .int t, .retAddr 0, .retAddr 0] [] h Q := by
  have ra : ∀ {a : Nat}, a < 1000 → a ≤ OLDB := fun h => by have := OLDB_eq; omega
  refine e_iconst (c := 0) (show pAt 155 0 = some (0, .iconst 0, 1, []) from by decide +kernel) (by decide) ?_
  refine e_istore_n (show pAt 155 1 = some (1, .istore_n 2, 1, []) from by decide +kernel) ⟨Nat.le_of_ble_eq_true rfl, rfl⟩ rfl ?_
  refine e_iconst (c := 0) (show pAt 155 2 = some (2, .iconst 0, 1, []) from by decide +kernel) (by decide) ?_
  refine e_istore_n (show pAt 155 3 = some (3, .istore_n 3, 1, []) from by decide +kernel) ⟨Nat.le_of_ble_eq_true rfl, rfl⟩ rfl ?_
  exact vc

theorem w_mhb1 {X : Scr} {dp : Nat} {h : Hp} {Q : Option Value → Hp → Prop} (t : Int32) (s : Int32) (c : Int32) (hs : HS h)
    (vc : ((condB .ge c (h.2.1 93 0) = true → Q (some (.int s)) h) ∧ (condB .ge c (h.2.1 93 0) = false → Ends X dp 110 0 [.ref 93, .int t, .int c] [] h (fun rv h2 => ∃ r3, rv = some (.int r3) ∧ HS h2 ∧ ((condB .eq r3 0 = true → Ends X (dp + 1) 155 4 [.ref 93, .int t, .int (s + 0), .int (c + 1)] [] h2 Q) ∧ (condB .eq r3 0 = false → Ends X dp 141 0 [.ref 93, .int c] [] h2 (fun rv h6 => ∃ r7, rv = some (.int r7) ∧ HS h6 ∧ Ends X (dp + 1) 155 4 [.ref 93, .int t, .int (s + r7), .int (c + 1)] [] h6 Q))))))) :
    Ends X (dp + 1) 155 4 [.ref 93, .int t, .int s, .int c] [] h Q := by
  have ra : ∀ {a : Nat}, a < 1000 → a ≤ OLDB := fun h => by have := OLDB_eq; omega
  refine e_iload_n (show pAt 155 4 = some (4, .iload_n 3, 1, []) from by decide +kernel) rfl ?_
  refine e_aload_n (show pAt 155 5 = some (5, .aload_n 0, 1, []) from by decide +kernel) rfl (ra (by decide)) ?_
  refine e_gIv (v := h.2.1 93 0) (show pAt 155 6 = some (6, .getfield 7, 3, [7, 0, 0, 4123]) from by decide +kernel) (show HS h from hs) rfl (by decide) rfl ?_
  refine e_icmp (t := 39) (show pAt 155 9 = some (9, .if_icmp .ge 30, 3, []) from by decide +kernel) rfl (fun c1 => ?_) (fun c1 => ?_)
  · replace vc := vc.1 c1
    refine e_iload_n (show pAt 155 39 = some (39, .iload_n 2, 1, []) from by decide +kernel) rfl ?_
    exact e_retI (show pAt 155 40 = some (40, .ireturn, 1, []) from by decide +kernel) rfl vc
  · replace vc := vc.2 c1
    refine e_iload_n (show pAt 155 12 = some (12, .iload_n 2, 1, []) from by decide +kernel) rfl ?_
    refine e_aload_n (show pAt 155 13 = some (13, .aload_n 0, 1, []) from by decide +kernel) rfl (ra (by decide)) ?_
    refine e_iload_n (show pAt 155 14 = some (14, .iload_n 1, 1, []) from by decide +kernel) rfl ?_
    refine e_iload_n (show pAt 155 15 = some (15, .iload_n 3, 1, []) from by decide +kernel) rfl ?_
    refine Ends.call (show pAt 155 16 = some (16, .invokevirtual 274, 3, [110, 3, 0, 0, 5173, 5175, 71]) from by decide +kernel) (isRet_none rfl) rfl (call_this (show HS h from hs) rfl rfl (by decide)) (Ends.mono vc ?_)
    rintro _ h2 ⟨r3, rfl, hs_h2, vc⟩
    refine e_if (t := 30) (show pAt 155 19 = some (19, .ifCond .eq 11, 3, []) from by decide +kernel) rfl (fun c5 => ?_) (fun c5 => ?_)
    · replace vc := vc.1 c5
      refine e_iconst (c := 0) (show pAt 155 30 = some (30, .iconst 0, 1, []) from by decide +kernel) (by decide) ?_
      refine e_iadd (show pAt 155 31 = some (31, .iadd, 1, []) from by decide +kernel) ?_
      refine e_istore_n (show pAt 155 32 = some (32, .istore_n 2, 1, []) from by decide +kernel) ⟨Nat.le_of_ble_eq_true rfl, rfl⟩ rfl ?_
      refine e_iinc (c := 1) (show pAt 155 33 = some (33, .iinc 3 1, 3, []) from by decide +kernel) rfl rfl (by decide) rfl ?_
      refine e_goto (t := 4) (show pAt 155 36 = some (36, .goto (-32), 3, []) from by decide +kernel) rfl ?_
      exact vc
    · replace vc := vc.2 c5
      refine e_aload_n (show pAt 155 22 = some (22, .aload_n 0, 1, []) from by decide +kernel) rfl (ra (by decide)) ?_
      refine e_iload_n (show pAt 155 23 = some (23, .iload_n 3, 1, []) from by decide +kernel) rfl ?_
      refine Ends.call (show pAt 155 24 = some (24, .invokevirtual 306, 3, [141, 2, 0, 0, 5225, 5227, 84]) from by decide +kernel) (isRet_none rfl) rfl (call_this (show HS h2 from hs_h2) rfl rfl (by decide)) (Ends.mono vc ?_)
      rintro _ h6 ⟨r7, rfl, hs_h6, vc⟩
      refine e_goto (t := 31) (show pAt 155 27 = some (27, .goto 4, 3, []) from by decide +kernel) rfl ?_
      refine e_iadd (show pAt 155 31 = some (31, .iadd, 1, []) from by decide +kernel) ?_
      refine e_istore_n (show pAt 155 32 = some (32, .istore_n 2, 1, []) from by decide +kernel) ⟨Nat.le_of_ble_eq_true rfl, rfl⟩ rfl ?_
      refine e_iinc (c := 1) (show pAt 155 33 = some (33, .iinc 3 1, 3, []) from by decide +kernel) rfl rfl (by decide) rfl ?_
      refine e_goto (t := 4) (show pAt 155 36 = some (36, .goto (-32), 3, []) from by decide +kernel) rfl ?_
      exact vc

theorem w_mmt0 {X : Scr} {dp : Nat} {h : Hp} {Q : Option Value → Hp → Prop} (l : Int32) (b : Int32) (hs : HS h)
    (vc : Ends X dp 156 5 [.ref 93, .int l, .int b, .int 0, .int 0] [] h Q) :
    Ends X dp 156 0 [.ref 93, .int l, .int b, .retAddr 0, .retAddr 0] [] h Q := by
  have ra : ∀ {a : Nat}, a < 1000 → a ≤ OLDB := fun h => by have := OLDB_eq; omega
  refine e_iconst (c := 0) (show pAt 156 0 = some (0, .iconst 0, 1, []) from by decide +kernel) (by decide) ?_
  refine e_istore_n (show pAt 156 1 = some (1, .istore_n 3, 1, []) from by decide +kernel) ⟨Nat.le_of_ble_eq_true rfl, rfl⟩ rfl ?_
  refine e_iconst (c := 0) (show pAt 156 2 = some (2, .iconst 0, 1, []) from by decide +kernel) (by decide) ?_
  refine e_istore (show pAt 156 3 = some (3, .istore 4, 2, []) from by decide +kernel) ⟨Nat.le_of_ble_eq_true rfl, rfl⟩ rfl ?_
  exact vc

theorem w_mmt1 {X : Scr} {dp : Nat} {h : Hp} {Q : Option Value → Hp → Prop} (l : Int32) (b : Int32) (s : Int32) (c : Int32) (hs : HS h)
    (vc : ((condB .ge c (h.2.1 93 0) = true → Q (some (.int s)) h) ∧ (condB .ge c (h.2.1 93 0) = false → Ends X dp 110 0 [.ref 93, .int (h.2.1 93 2), .int c] [] h (fun rv h2 => ∃ r3, rv = some (.int r3) ∧ HS h2 ∧ ((condB .eq r3 0 = true → Ends X (dp + 1) 156 5 [.ref 93, .int l, .int b, .int (s ||| 0), .int (c + 1)] [] h2 Q) ∧ (condB .eq r3 0 = false → Ends X dp 110 0 [.ref 93, .int b, .int c] [] h2 (fun rv h6 => ∃ r7, rv = some (.int r7) ∧ HS h6 ∧ ((condB .ne r7 0 = true → Ends X (dp + 1) 156 5 [.ref 93, .int l, .int b, .int (s ||| 0), .int (c + 1)] [] h6 Q) ∧ (condB .ne r7 0 = false → Ends X dp 143 0 [.ref 93, .int c, .int l] [] h6 (fun rv h10 => ∃ r11, rv = some (.int r11) ∧ HS h10 ∧ ((condB .eq r11 0 = true → Ends X (dp + 1) 156 5 [.ref 93, .int l, .int b, .int (s ||| 0), .int (c + 1)] [] h10 Q) ∧ (condB .eq r11 0 = false → Ends X (dp + 1) 156 5 [.ref 93, .int l, .int b, .int (s ||| (1 <<< (c &&& 31))), .int (c + 1)] [] h10 Q)))))))))))) :
    Ends X (dp + 1) 156 5 [.ref 93, .int l, .int b, .int s, .int c] [] h Q := by
  have ra : ∀ {a : Nat}, a < 1000 → a ≤ OLDB := fun h => by have := OLDB_eq; omega
  refine e_iload (show pAt 156 5 = some (5, .iload 4, 2, []) from by decide +kernel) rfl ?_
  refine e_aload_n (show pAt 156 7 = some (7, .aload_n 0, 1, []) from by decide +kernel) rfl (ra (by decide)) ?_
  refine e_gIv (v := h.2.1 93 0) (show pAt 156 8 = some (8, .getfield 7, 3, [7, 0, 0, 4123]) from by decide +kernel) (show HS h from hs) rfl (by decide) rfl ?_
  refine e_icmp (t := 64) (show pAt 156 11 = some (11, .if_icmp .ge 53, 3, []) from by decide +kernel) rfl (fun c1 => ?_) (fun c1 => ?_)
  · replace vc := vc.1 c1
    refine e_iload_n (show pAt 156 64 = some (64, .iload_n 3, 1, []) from by decide +kernel) rfl ?_
    exact e_retI (show pAt 156 65 = some (65, .ireturn, 1, []) from by decide +kernel) rfl vc
  · replace vc := vc.2 c1
    refine e_iload_n (show pAt 156 14 = some (14, .iload_n 3, 1, []) from by decide +kernel) rfl ?_
    refine e_aload_n (show pAt 156 15 = some (15, .aload_n 0, 1, []) from by decide +kernel) rfl (ra (by decide)) ?_
    refine e_aload_n (show pAt 156 16 = some (16, .aload_n 0, 1, []) from by decide +kernel) rfl (ra (by decide)) ?_
    refine e_gIv (v := h.2.1 93 2) (show pAt 156 17 = some (17, .getfield 16, 3, [7, 2, 0, 4125]) from by decide +kernel) (show HS h from hs) rfl (by decide) rfl ?_
    refine e_iload (show pAt 156 20 = some (20, .iload 4, 2, []) from by decide +kernel) rfl ?_
    refine Ends.call (show pAt 156 22 = some (22, .invokevirtual 274, 3, [110, 3, 0, 0, 5173, 5175, 71]) from by decide +kernel) (isRet_none rfl) rfl (call_this (show HS h from hs) rfl rfl (by decide)) (Ends.mono vc ?_)
    rintro _ h2 ⟨r3, rfl, hs_h2, vc⟩
    refine e_if (t := 55) (show pAt 156 25 = some (25, .ifCond .eq 30, 3, []) from by decide +kernel) rfl (fun c5 => ?_) (fun c5 => ?_)
    · replace vc := vc.1 c5
      refine e_iconst (c := 0) (show pAt 156 55 = some (55, .iconst 0, 1, []) from by decide +kernel) (by decide) ?_
      refine e_ior (show pAt 156 56 = some (56, .ior, 1, []) from by decide +kernel) ?_
      refine e_istore_n (show pAt 156 57 = some (57, .istore_n 3, 1, []) from by decide +kernel) ⟨Nat.le_of_ble_eq_true rfl, rfl⟩ rfl ?_
      refine e_iinc (c := 1) (show pAt 156 58 = some (58, .iinc 4 1, 3, []) from by decide +kernel) rfl rfl (by decide) rfl ?_
      refine e_goto (t := 5) (show pAt 156 61 = some (61, .goto (-56), 3, []) from by decide +kernel) rfl ?_
      exact vc
    · replace vc := vc.2 c5
      refine e_aload_n (show pAt 156 28 = some (28, .aload_n 0, 1, []) from by decide +kernel) rfl (ra (by decide)) ?_
      refine e_iload_n (show pAt 156 29 = some (29, .iload_n 2, 1, []) from by decide +kernel) rfl ?_
      refine e_iload (show pAt 156 30 = some (30, .iload 4, 2, []) from by decide +kernel) rfl ?_
      refine Ends.call (show pAt 156 32 = some (32, .invokevirtual 274, 3, [110, 3, 0, 0, 5173, 5175, 71]) from by decide +kernel) (isRet_none rfl) rfl (call_this (show HS h2 from hs_h2) rfl rfl (by decide)) (Ends.mono vc ?_)
      rintro _ h6 ⟨r7, rfl, hs_h6, vc⟩
      refine e_if (t := 55) (show pAt 156 35 = some (35, .ifCond .ne 20, 3, []) from by decide +kernel) rfl (fun c9 => ?_) (fun c9 => ?_)
      · replace vc := vc.1 c9
        refine e_iconst (c := 0) (show pAt 156 55 = some (55, .iconst 0, 1, []) from by decide +kernel) (by decide) ?_
        refine e_ior (show pAt 156 56 = some (56, .ior, 1, []) from by decide +kernel) ?_
        refine e_istore_n (show pAt 156 57 = some (57, .istore_n 3, 1, []) from by decide +kernel) ⟨Nat.le_of_ble_eq_true rfl, rfl⟩ rfl ?_
        refine e_iinc (c := 1) (show pAt 156 58 = some (58, .iinc 4 1, 3, []) from by decide +kernel) rfl rfl (by decide) rfl ?_
        refine e_goto (t := 5) (show pAt 156 61 = some (61, .goto (-56), 3, []) from by decide +kernel) rfl ?_
        exact vc
      · replace vc := vc.2 c9
        refine e_aload_n (show pAt 156 38 = some (38, .aload_n 0, 1, []) from by decide +kernel) rfl (ra (by decide)) ?_
        refine e_iload (show pAt 156 39 = some (39, .iload 4, 2, []) from by decide +kernel) rfl ?_
        refine e_iload_n (show pAt 156 41 = some (41, .iload_n 1, 1, []) from by decide +kernel) rfl ?_
        refine Ends.call (show pAt 156 42 = some (42, .invokevirtual 288, 3, [143, 3, 0, 0, 5193, 5195, 76]) from by decide +kernel) (isRet_none rfl) rfl (call_this (show HS h6 from hs_h6) rfl rfl (by decide)) (Ends.mono vc ?_)
        rintro _ h10 ⟨r11, rfl, hs_h10, vc⟩
        refine e_if (t := 55) (show pAt 156 45 = some (45, .ifCond .eq 10, 3, []) from by decide +kernel) rfl (fun c13 => ?_) (fun c13 => ?_)
        · replace vc := vc.1 c13
          refine e_iconst (c := 0) (show pAt 156 55 = some (55, .iconst 0, 1, []) from by decide +kernel) (by decide) ?_
          refine e_ior (show pAt 156 56 = some (56, .ior, 1, []) from by decide +kernel) ?_
          refine e_istore_n (show pAt 156 57 = some (57, .istore_n 3, 1, []) from by decide +kernel) ⟨Nat.le_of_ble_eq_true rfl, rfl⟩ rfl ?_
          refine e_iinc (c := 1) (show pAt 156 58 = some (58, .iinc 4 1, 3, []) from by decide +kernel) rfl rfl (by decide) rfl ?_
          refine e_goto (t := 5) (show pAt 156 61 = some (61, .goto (-56), 3, []) from by decide +kernel) rfl ?_
          exact vc
        · replace vc := vc.2 c13
          refine e_iconst (c := 1) (show pAt 156 48 = some (48, .iconst 1, 1, []) from by decide +kernel) (by decide) ?_
          refine e_iload (show pAt 156 49 = some (49, .iload 4, 2, []) from by decide +kernel) rfl ?_
          refine e_ishl (show pAt 156 51 = some (51, .ishl, 1, []) from by decide +kernel) ?_
          refine e_goto (t := 56) (show pAt 156 52 = some (52, .goto 4, 3, []) from by decide +kernel) rfl ?_
          refine e_ior (show pAt 156 56 = some (56, .ior, 1, []) from by decide +kernel) ?_
          refine e_istore_n (show pAt 156 57 = some (57, .istore_n 3, 1, []) from by decide +kernel) ⟨Nat.le_of_ble_eq_true rfl, rfl⟩ rfl ?_
          refine e_iinc (c := 1) (show pAt 156 58 = some (58, .iinc 4 1, 3, []) from by decide +kernel) rfl rfl (by decide) rfl ?_
          refine e_goto (t := 5) (show pAt 156 61 = some (61, .goto (-56), 3, []) from by decide +kernel) rfl ?_
          exact vc

theorem w_mcn0 {X : Scr} {dp : Nat} {h : Hp} {Q : Option Value → Hp → Prop}  (hs : HS h)
    (vc : Ends X dp 154 0 [.ref 93, .retAddr 0, .retAddr 0] [] h (fun rv h1 => rv = none ∧ HS h1 ∧ Ends X (dp + 1) 157 16 [.ref 93, .int 0, .int 0, .int 0, .retAddr 0, .retAddr 0] [] (hpI h1 93 35 (-5)) Q)) :
    Ends X (dp + 1) 157 0 [.ref 93, .retAddr 0, .retAddr 0, .retAddr 0, .retAddr 0, .retAddr 0] [] h Q := by
  have ra : ∀ {a : Nat}, a < 1000 → a ≤ OLDB := fun h => by have := OLDB_eq; omega
  refine e_aload_n (show pAt 157 0 = some (0, .aload_n 0, 1, []) from by decide +kernel) rfl (ra (by decide)) ?_
  refine Ends.call (show pAt 157 1 = some (1, .invokevirtual 324, 3, [154, 1, 0, 0, 6013, 6015, 89]) from by decide +kernel) (isRet_none rfl) rfl (call_this (show HS h from hs) rfl rfl (by decide)) (Ends.mono vc ?_)
  rintro _ h1 ⟨rfl, hs_h1, vc⟩
  refine e_iconst (c := 0) (show pAt 157 4 = some (4, .iconst 0, 1, []) from by decide +kernel) (by decide) ?_
  refine e_istore_n (show pAt 157 5 = some (5, .istore_n 1, 1, []) from by decide +kernel) ⟨Nat.le_of_ble_eq_true rfl, rfl⟩ rfl ?_
  refine e_iconst (c := 0) (show pAt 157 6 = some (6, .iconst 0, 1, []) from by decide +kernel) (by decide) ?_
  refine e_istore_n (show pAt 157 7 = some (7, .istore_n 2, 1, []) from by decide +kernel) ⟨Nat.le_of_ble_eq_true rfl, rfl⟩ rfl ?_
  refine e_aload_n (show pAt 157 8 = some (8, .aload_n 0, 1, []) from by decide +kernel) rfl (ra (by decide)) ?_
  refine e_bipush (c := (-5)) (show pAt 157 9 = some (9, .bipush (-5), 2, []) from by decide +kernel) (by decide) ?_
  refine e_pI (show pAt 157 11 = some (11, .putfield 118, 3, [7, 35, 0, 4158]) from by decide +kernel) (show HS h1 from hs_h1) (by decide) (Or.inl rfl) ?_
  refine e_iconst (c := 0) (show pAt 157 14 = some (14, .iconst 0, 1, []) from by decide +kernel) (by decide) ?_
  refine e_istore_n (show pAt 157 15 = some (15, .istore_n 3, 1, []) from by decide +kernel) ⟨Nat.le_of_ble_eq_true rfl, rfl⟩ rfl ?_
  exact vc

theorem w_mcn1 {X : Scr} {dp : Nat} {h : Hp} {Q : Option Value → Hp → Prop} (b : Int32) (c : Int32) (k : Int32) (x : Value) (y : Value) (hs : HS h)
    (vc : ((condB .ge k (h.2.1 93 34) = true → Q (some (.int c)) h) ∧ (condB .ge k (h.2.1 93 34) = false → (inB k 7 = true ∧ Ends X dp 147 0 [.ref 93, .int (h.2.1 110 k.toNatClampNeg)] [] h (fun rv h3 => ∃ r4, rv = some (.int r4) ∧ HS h3 ∧ Ends X dp 156 0 [.ref 93, .int r4, .int b, .retAddr 0, .retAddr 0] [] h3 (fun rv h6 => ∃ r7, rv = some (.int r7) ∧ HS h6 ∧ Ends X dp 155 0 [.ref 93, .int r7, .retAddr 0, .retAddr 0] [] h6 (fun rv h9 => ∃ r10, rv = some (.int r10) ∧ HS h9 ∧ Ends X dp 148 0 [.ref 93, .int (h.2.1 110 k.toNatClampNeg)] [] h9 (fun rv h12 => ∃ r13, rv = some (.int r13) ∧ HS h12 ∧ ((condB .gt r10 r13 = true → ((condB .ne c 0 = true → Ends X (dp + 1) 157 16 [.ref 93, .int (b ||| r7), .int (c ||| (1 <<< ((h.2.1 110 k.toNatClampNeg) &&& 31))), .int (k + 1), .int (h.2.1 110 k.toNatClampNeg), .int r7] [] (hpI h12 93 35 (h12.2.1 93 35)) Q) ∧ (condB .ne c 0 = false → Ends X (dp + 1) 157 16 [.ref 93, .int (b ||| r7), .int (c ||| (1 <<< ((h.2.1 110 k.toNatClampNeg) &&& 31))), .int (k + 1), .int (h.2.1 110 k.toNatClampNeg), .int r7] [] (hpI h12 93 35 (h.2.1 110 k.toNatClampNeg)) Q))) ∧ (condB .gt r10 r13 = false → Ends X (dp + 1) 157 16 [.ref 93, .int b, .int c, .int (k + 1), .int (h.2.1 110 k.toNatClampNeg), .int r7] [] h12 Q)))))))))) :
    Ends X (dp + 1) 157 16 [.ref 93, .int b, .int c, .int k, x, y] [] h Q := by
  have ra : ∀ {a : Nat}, a < 1000 → a ≤ OLDB := fun h => by have := OLDB_eq; omega
  refine e_iload_n (show pAt 157 16 = some (16, .iload_n 3, 1, []) from by decide +kernel) rfl ?_
  refine e_aload_n (show pAt 157 17 = some (17, .aload_n 0, 1, []) from by decide +kernel) rfl (ra (by decide)) ?_
  refine e_gIv (v := h.2.1 93 34) (show pAt 157 18 = some (18, .getfield 115, 3, [7, 34, 0, 4157]) from by decide +kernel) (show HS h from hs) rfl (by decide) rfl ?_
  refine e_icmp (t := 98) (show pAt 157 21 = some (21, .if_icmp .ge 77, 3, []) from by decide +kernel) rfl (fun c1 => ?_) (fun c1 => ?_)
  · replace vc := vc.1 c1
    refine e_iload_n (show pAt 157 98 = some (98, .iload_n 2, 1, []) from by decide +kernel) rfl ?_
    exact e_retI (show pAt 157 99 = some (99, .ireturn, 1, []) from by decide +kernel) rfl vc
  · replace vc := vc.2 c1
    refine e_aload_n (show pAt 157 24 = some (24, .aload_n 0, 1, []) from by decide +kernel) rfl (ra (by decide)) ?_
    refine e_gR (show pAt 157 25 = some (25, .getfield 112, 3, [7, 33, 0, 4156]) from by decide +kernel) (show HS h from hs) rfl (by decide) (hs_ref (show HS h from hs) rfl) ?_
    refine e_iload_n (show pAt 157 28 = some (28, .iload_n 3, 1, []) from by decide +kernel) rfl ?_
    obtain ⟨c2, vc⟩ := vc
    refine e_aldv (v := h.2.1 110 k.toNatClampNeg) (show pAt 157 29 = some (29, .iaload, 1, []) from by decide +kernel) (show HS h from hs) (by decide) c2 rfl ?_
    refine e_istore (show pAt 157 30 = some (30, .istore 4, 2, []) from by decide +kernel) ⟨Nat.le_of_ble_eq_true rfl, rfl⟩ rfl ?_
    refine e_aload_n (show pAt 157 32 = some (32, .aload_n 0, 1, []) from by decide +kernel) rfl (ra (by decide)) ?_
    refine e_aload_n (show pAt 157 33 = some (33, .aload_n 0, 1, []) from by decide +kernel) rfl (ra (by decide)) ?_
    refine e_iload (show pAt 157 34 = some (34, .iload 4, 2, []) from by decide +kernel) rfl ?_
    refine Ends.call (show pAt 157 36 = some (36, .invokevirtual 303, 3, [147, 2, 0, 0, 5177, 5179, 72]) from by decide +kernel) (isRet_none rfl) rfl (call_this (show HS h from hs) rfl rfl (by decide)) (Ends.mono vc ?_)
    rintro _ h3 ⟨r4, rfl, hs_h3, vc⟩
    refine e_iload_n (show pAt 157 39 = some (39, .iload_n 1, 1, []) from by decide +kernel) rfl ?_
    refine Ends.call (show pAt 157 40 = some (40, .invokevirtual 327, 3, [156, 3, 0, 0, 6029, 6031, 93]) from by decide +kernel) (isRet_none rfl) rfl (call_this (show HS h3 from hs_h3) rfl rfl (by decide)) (Ends.mono vc ?_)
    rintro _ h6 ⟨r7, rfl, hs_h6, vc⟩
    refine e_istore (show pAt 157 43 = some (43, .istore 5, 2, []) from by decide +kernel) ⟨Nat.le_of_ble_eq_true rfl, rfl⟩ rfl ?_
    refine e_aload_n (show pAt 157 45 = some (45, .aload_n 0, 1, []) from by decide +kernel) rfl (ra (by decide)) ?_
    refine e_iload (show pAt 157 46 = some (46, .iload 5, 2, []) from by decide +kernel) rfl ?_
    refine Ends.call (show pAt 157 48 = some (48, .invokevirtual 330, 3, [155, 2, 0, 0, 6033, 6035, 94]) from by decide +kernel) (isRet_none rfl) rfl (call_this (show HS h6 from hs_h6) rfl rfl (by decide)) (Ends.mono vc ?_)
    rintro _ h9 ⟨r10, rfl, hs_h9, vc⟩
    refine e_aload_n (show pAt 157 51 = some (51, .aload_n 0, 1, []) from by decide +kernel) rfl (ra (by decide)) ?_
    refine e_iload (show pAt 157 52 = some (52, .iload 4, 2, []) from by decide +kernel) rfl ?_
    refine Ends.call (show pAt 157 54 = some (54, .invokevirtual 309, 3, [148, 2, 0, 0, 5229, 5231, 85]) from by decide +kernel) (isRet_none rfl) rfl (call_this (show HS h9 from hs_h9) rfl rfl (by decide)) (Ends.mono vc ?_)
    rintro _ h12 ⟨r13, rfl, hs_h12, vc⟩
    refine e_icmp (t := 63) (show pAt 157 57 = some (57, .if_icmp .gt 6, 3, []) from by decide +kernel) rfl (fun c15 => ?_) (fun c15 => ?_)
    · replace vc := vc.1 c15
      refine e_aload_n (show pAt 157 63 = some (63, .aload_n 0, 1, []) from by decide +kernel) rfl (ra (by decide)) ?_
      refine e_iload_n (show pAt 157 64 = some (64, .iload_n 2, 1, []) from by decide +kernel) rfl ?_
      refine e_if (t := 73) (show pAt 157 65 = some (65, .ifCond .ne 8, 3, []) from by decide +kernel) rfl (fun c16 => ?_) (fun c16 => ?_)
      · replace vc := vc.1 c16
        refine e_aload_n (show pAt 157 73 = some (73, .aload_n 0, 1, []) from by decide +kernel) rfl (ra (by decide)) ?_
        refine e_gIv (v := h12.2.1 93 35) (show pAt 157 74 = some (74, .getfield 118, 3, [7, 35, 0, 4158]) from by decide +kernel) (show HS h12 from hs_h12) rfl (by decide) rfl ?_
        refine e_pI (show pAt 157 77 = some (77, .putfield 118, 3, [7, 35, 0, 4158]) from by decide +kernel) (show HS h12 from hs_h12) (by decide) (Or.inl rfl) ?_
        refine e_iload_n (show pAt 157 80 = some (80, .iload_n 2, 1, []) from by decide +kernel) rfl ?_
        refine e_iconst (c := 1) (show pAt 157 81 = some (81, .iconst 1, 1, []) from by decide +kernel) (by decide) ?_
        refine e_iload (show pAt 157 82 = some (82, .iload 4, 2, []) from by decide +kernel) rfl ?_
        refine e_ishl (show pAt 157 84 = some (84, .ishl, 1, []) from by decide +kernel) ?_
        refine e_ior (show pAt 157 85 = some (85, .ior, 1, []) from by decide +kernel) ?_
        refine e_istore_n (show pAt 157 86 = some (86, .istore_n 2, 1, []) from by decide +kernel) ⟨Nat.le_of_ble_eq_true rfl, rfl⟩ rfl ?_
        refine e_iload_n (show pAt 157 87 = some (87, .iload_n 1, 1, []) from by decide +kernel) rfl ?_
        refine e_iload (show pAt 157 88 = some (88, .iload 5, 2, []) from by decide +kernel) rfl ?_
        refine e_ior (show pAt 157 90 = some (90, .ior, 1, []) from by decide +kernel) ?_
        refine e_istore_n (show pAt 157 91 = some (91, .istore_n 1, 1, []) from by decide +kernel) ⟨Nat.le_of_ble_eq_true rfl, rfl⟩ rfl ?_
        refine e_iinc (c := 1) (show pAt 157 92 = some (92, .iinc 3 1, 3, []) from by decide +kernel) rfl rfl (by decide) rfl ?_
        refine e_goto (t := 16) (show pAt 157 95 = some (95, .goto (-79), 3, []) from by decide +kernel) rfl ?_
        exact vc
      · replace vc := vc.2 c16
        refine e_iload (show pAt 157 68 = some (68, .iload 4, 2, []) from by decide +kernel) rfl ?_
        refine e_goto (t := 77) (show pAt 157 70 = some (70, .goto 7, 3, []) from by decide +kernel) rfl ?_
        refine e_pI (show pAt 157 77 = some (77, .putfield 118, 3, [7, 35, 0, 4158]) from by decide +kernel) (show HS h12 from hs_h12) (by decide) (Or.inl rfl) ?_
        refine e_iload_n (show pAt 157 80 = some (80, .iload_n 2, 1, []) from by decide +kernel) rfl ?_
        refine e_iconst (c := 1) (show pAt 157 81 = some (81, .iconst 1, 1, []) from by decide +kernel) (by decide) ?_
        refine e_iload (show pAt 157 82 = some (82, .iload 4, 2, []) from by decide +kernel) rfl ?_
        refine e_ishl (show pAt 157 84 = some (84, .ishl, 1, []) from by decide +kernel) ?_
        refine e_ior (show pAt 157 85 = some (85, .ior, 1, []) from by decide +kernel) ?_
        refine e_istore_n (show pAt 157 86 = some (86, .istore_n 2, 1, []) from by decide +kernel) ⟨Nat.le_of_ble_eq_true rfl, rfl⟩ rfl ?_
        refine e_iload_n (show pAt 157 87 = some (87, .iload_n 1, 1, []) from by decide +kernel) rfl ?_
        refine e_iload (show pAt 157 88 = some (88, .iload 5, 2, []) from by decide +kernel) rfl ?_
        refine e_ior (show pAt 157 90 = some (90, .ior, 1, []) from by decide +kernel) ?_
        refine e_istore_n (show pAt 157 91 = some (91, .istore_n 1, 1, []) from by decide +kernel) ⟨Nat.le_of_ble_eq_true rfl, rfl⟩ rfl ?_
        refine e_iinc (c := 1) (show pAt 157 92 = some (92, .iinc 3 1, 3, []) from by decide +kernel) rfl rfl (by decide) rfl ?_
        refine e_goto (t := 16) (show pAt 157 95 = some (95, .goto (-79), 3, []) from by decide +kernel) rfl ?_
        exact vc
    · replace vc := vc.2 c15
      refine e_goto (t := 92) (show pAt 157 60 = some (60, .goto 32, 3, []) from by decide +kernel) rfl ?_
      refine e_iinc (c := 1) (show pAt 157 92 = some (92, .iinc 3 1, 3, []) from by decide +kernel) rfl rfl (by decide) rfl ?_
      refine e_goto (t := 16) (show pAt 157 95 = some (95, .goto (-79), 3, []) from by decide +kernel) rfl ?_
      exact vc

theorem w_mgo {X : Scr} {dp : Nat} {h : Hp} {Q : Option Value → Hp → Prop}  (hs : HS h)
    (vc : Ends X dp 157 0 [.ref 93, .retAddr 0, .retAddr 0, .retAddr 0, .retAddr 0, .retAddr 0] [] h (fun rv h1 => ∃ r2, rv = some (.int r2) ∧ HS h1 ∧ Q (some (.int r2)) (hpI (hpI h1 93 2 ((h1.2.1 93 2) ||| r2)) 93 1 ((h1.2.1 93 1) + 1)))) :
    Ends X (dp + 1) 158 0 [.ref 93, .retAddr 0] [] h Q := by
  have ra : ∀ {a : Nat}, a < 1000 → a ≤ OLDB := fun h => by have := OLDB_eq; omega
  refine e_aload_n (show pAt 158 0 = some (0, .aload_n 0, 1, []) from by decide +kernel) rfl (ra (by decide)) ?_
  refine Ends.call (show pAt 158 1 = some (1, .invokevirtual 333, 3, [157, 1, 0, 0, 6009, 6011, 88]) from by decide +kernel) (isRet_none rfl) rfl (call_this (show HS h from hs) rfl rfl (by decide)) (Ends.mono vc ?_)
  rintro _ h1 ⟨r2, rfl, hs_h1, vc⟩
  refine e_istore_n (show pAt 158 4 = some (4, .istore_n 1, 1, []) from by decide +kernel) ⟨Nat.le_of_ble_eq_true rfl, rfl⟩ rfl ?_
  refine e_aload_n (show pAt 158 5 = some (5, .aload_n 0, 1, []) from by decide +kernel) rfl (ra (by decide)) ?_
  refine e_dupR (show pAt 158 6 = some (6, .dup, 1, []) from by decide +kernel) ?_
  refine e_gIv (v := h1.2.1 93 2) (show pAt 158 7 = some (7, .getfield 16, 3, [7, 2, 0, 4125]) from by decide +kernel) (show HS h1 from hs_h1) rfl (by decide) rfl ?_
  refine e_iload_n (show pAt 158 10 = some (10, .iload_n 1, 1, []) from by decide +kernel) rfl ?_
  refine e_ior (show pAt 158 11 = some (11, .ior, 1, []) from by decide +kernel) ?_
  refine e_pI (show pAt 158 12 = some (12, .putfield 16, 3, [7, 2, 0, 4125]) from by decide +kernel) (show HS h1 from hs_h1) (by decide) (Or.inl rfl) ?_
  refine e_aload_n (show pAt 158 15 = some (15, .aload_n 0, 1, []) from by decide +kernel) rfl (ra (by decide)) ?_
  refine e_dupR (show pAt 158 16 = some (16, .dup, 1, []) from by decide +kernel) ?_
  refine e_gIv (v := h1.2.1 93 1) (show pAt 158 17 = some (17, .getfield 13, 3, [7, 1, 0, 4124]) from by decide +kernel) (show HS (hpI h1 93 2 ((h1.2.1 93 2) ||| r2)) from hs_h1) rfl (by decide) rfl ?_
  refine e_iconst (c := 1) (show pAt 158 20 = some (20, .iconst 1, 1, []) from by decide +kernel) (by decide) ?_
  refine e_iadd (show pAt 158 21 = some (21, .iadd, 1, []) from by decide +kernel) ?_
  refine e_pI (show pAt 158 22 = some (22, .putfield 13, 3, [7, 1, 0, 4124]) from by decide +kernel) (show HS (hpI h1 93 2 ((h1.2.1 93 2) ||| r2)) from hs_h1) (by decide) (Or.inl rfl) ?_
  refine e_iload_n (show pAt 158 25 = some (25, .iload_n 1, 1, []) from by decide +kernel) rfl ?_
  exact e_retI (show pAt 158 26 = some (26, .ireturn, 1, []) from by decide +kernel) rfl vc

theorem w_msht {X : Scr} {dp : Nat} {h : Hp} {Q : Option Value → Hp → Prop}  (hs : HS h)
    (vc : ((condB .ne (h.2.1 93 1) 999 = true → Ends X dp 158 0 [.ref 93, .retAddr 0] [] h (fun rv h2 => ∃ r3, rv = some (.int r3) ∧ HS h2 ∧ Q (some (.int r3)) h2)) ∧ (condB .ne (h.2.1 93 1) 999 = false → Q (some (.int (-3))) h))) :
    Ends X (dp + 1) 159 0 [.ref 93] [] h Q := by
  have ra : ∀ {a : Nat}, a < 1000 → a ≤ OLDB := fun h => by have := OLDB_eq; omega
  refine e_aload_n (show pAt 159 0 = some (0, .aload_n 0, 1, []) from by decide +kernel) rfl (ra (by decide)) ?_
  refine e_gIv (v := h.2.1 93 1) (show pAt 159 1 = some (1, .getfield 13, 3, [7, 1, 0, 4124]) from by decide +kernel) (show HS h from hs) rfl (by decide) rfl ?_
  refine e_sipush (c := 999) (show pAt 159 4 = some (4, .sipush 999, 3, []) from by decide +kernel) (by decide) ?_
  refine e_icmp (t := 15) (show pAt 159 7 = some (7, .if_icmp .ne 8, 3, []) from by decide +kernel) rfl (fun c1 => ?_) (fun c1 => ?_)
  · replace vc := vc.1 c1
    refine e_aload_n (show pAt 159 15 = some (15, .aload_n 0, 1, []) from by decide +kernel) rfl (ra (by decide)) ?_
    refine Ends.call (show pAt 159 16 = some (16, .invokevirtual 336, 3, [158, 1, 0, 0, 6005, 6007, 87]) from by decide +kernel) (isRet_none rfl) rfl (call_this (show HS h from hs) rfl rfl (by decide)) (Ends.mono vc ?_)
    rintro _ h2 ⟨r3, rfl, hs_h2, vc⟩
    exact e_retI (show pAt 159 19 = some (19, .ireturn, 1, []) from by decide +kernel) rfl vc
  · replace vc := vc.2 c1
    refine e_bipush (c := (-3)) (show pAt 159 10 = some (10, .bipush (-3), 2, []) from by decide +kernel) (by decide) ?_
    refine e_goto (t := 19) (show pAt 159 12 = some (12, .goto 7, 3, []) from by decide +kernel) rfl ?_
    exact e_retI (show pAt 159 19 = some (19, .ireturn, 1, []) from by decide +kernel) rfl vc

theorem w_msav {X : Scr} {dp : Nat} {h : Hp} {Q : Option Value → Hp → Prop}  (hs : HS h)
    (vc : Q none (hpI (hpI h 93 36 (h.2.1 93 2)) 93 37 (h.2.1 93 1))) :
    Ends X dp 160 0 [.ref 93] [] h Q := by
  have ra : ∀ {a : Nat}, a < 1000 → a ≤ OLDB := fun h => by have := OLDB_eq; omega
  refine e_aload_n (show pAt 160 0 = some (0, .aload_n 0, 1, []) from by decide +kernel) rfl (ra (by decide)) ?_
  refine e_aload_n (show pAt 160 1 = some (1, .aload_n 0, 1, []) from by decide +kernel) rfl (ra (by decide)) ?_
  refine e_gIv (v := h.2.1 93 2) (show pAt 160 2 = some (2, .getfield 16, 3, [7, 2, 0, 4125]) from by decide +kernel) (show HS h from hs) rfl (by decide) rfl ?_
  refine e_pI (show pAt 160 5 = some (5, .putfield 121, 3, [7, 36, 0, 4159]) from by decide +kernel) (show HS h from hs) (by decide) (Or.inl rfl) ?_
  refine e_aload_n (show pAt 160 8 = some (8, .aload_n 0, 1, []) from by decide +kernel) rfl (ra (by decide)) ?_
  refine e_aload_n (show pAt 160 9 = some (9, .aload_n 0, 1, []) from by decide +kernel) rfl (ra (by decide)) ?_
  refine e_gIv (v := h.2.1 93 1) (show pAt 160 10 = some (10, .getfield 13, 3, [7, 1, 0, 4124]) from by decide +kernel) (show HS (hpI h 93 36 (h.2.1 93 2)) from hs) rfl (by decide) rfl ?_
  refine e_pI (show pAt 160 13 = some (13, .putfield 124, 3, [7, 37, 0, 4160]) from by decide +kernel) (show HS (hpI h 93 36 (h.2.1 93 2)) from hs) (by decide) (Or.inl rfl) ?_
  exact e_retV (show pAt 160 16 = some (16, .return_, 1, []) from by decide +kernel) rfl vc

theorem w_mpb {X : Scr} {dp : Nat} {h : Hp} {Q : Option Value → Hp → Prop}  (hs : HS h)
    (vc : Q none (hpI (hpI h 93 2 (h.2.1 93 36)) 93 1 (h.2.1 93 37))) :
    Ends X dp 161 0 [.ref 93] [] h Q := by
  have ra : ∀ {a : Nat}, a < 1000 → a ≤ OLDB := fun h => by have := OLDB_eq; omega
  refine e_aload_n (show pAt 161 0 = some (0, .aload_n 0, 1, []) from by decide +kernel) rfl (ra (by decide)) ?_
  refine e_aload_n (show pAt 161 1 = some (1, .aload_n 0, 1, []) from by decide +kernel) rfl (ra (by decide)) ?_
  refine e_gIv (v := h.2.1 93 36) (show pAt 161 2 = some (2, .getfield 121, 3, [7, 36, 0, 4159]) from by decide +kernel) (show HS h from hs) rfl (by decide) rfl ?_
  refine e_pI (show pAt 161 5 = some (5, .putfield 16, 3, [7, 2, 0, 4125]) from by decide +kernel) (show HS h from hs) (by decide) (Or.inl rfl) ?_
  refine e_aload_n (show pAt 161 8 = some (8, .aload_n 0, 1, []) from by decide +kernel) rfl (ra (by decide)) ?_
  refine e_aload_n (show pAt 161 9 = some (9, .aload_n 0, 1, []) from by decide +kernel) rfl (ra (by decide)) ?_
  refine e_gIv (v := h.2.1 93 37) (show pAt 161 10 = some (10, .getfield 124, 3, [7, 37, 0, 4160]) from by decide +kernel) (show HS (hpI h 93 2 (h.2.1 93 36)) from hs) rfl (by decide) rfl ?_
  refine e_pI (show pAt 161 13 = some (13, .putfield 13, 3, [7, 1, 0, 4124]) from by decide +kernel) (show HS (hpI h 93 2 (h.2.1 93 36)) from hs) (by decide) (Or.inl rfl) ?_
  exact e_retV (show pAt 161 16 = some (16, .return_, 1, []) from by decide +kernel) rfl vc
