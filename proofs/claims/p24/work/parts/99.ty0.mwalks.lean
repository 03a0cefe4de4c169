section JN99ty0mwalks
/-! What is owed for the reference's crossing. -/
theorem w_mrof {X : Scr} {dp : Nat} {h : Hp} {Q : Option Value → Hp → Prop} (p : Int32) (hs : HS h)
    (vc : (inB p 7 = true ∧ Ends X dp 138 0 [.ref 93, .int 0, .int p, .int (h.2.1 96 p.toNatClampNeg), .int 1, .retAddr 0, .retAddr 0, .retAddr 0] [] h (fun rv h2 => ∃ r3, rv = some (.int r3) ∧ HS h2 ∧ Q (some (.int r3)) h2))) :
    Ends X (dp + 1) 140 0 [.ref 93, .int p] [] h Q := by
  have ra : ∀ {a : Nat}, a < 1000 → a ≤ OLDB := fun h => by have := OLDB_eq; omega
  refine e_aload_n (show pAt 140 0 = some (0, .aload_n 0, 1, []) from by decide +kernel) rfl (ra (by decide)) ?_
  refine e_iconst (c := 0) (show pAt 140 1 = some (1, .iconst 0, 1, []) from by decide +kernel) (by decide) ?_
  refine e_iload_n (show pAt 140 2 = some (2, .iload_n 1, 1, []) from by decide +kernel) rfl ?_
  refine e_aload_n (show pAt 140 3 = some (3, .aload_n 0, 1, []) from by decide +kernel) rfl (ra (by decide)) ?_
  refine e_gR (show pAt 140 4 = some (4, .getfield 26, 3, [7, 5, 0, 4128]) from by decide +kernel) (show HS h from hs) rfl (by decide) (hs_ref (show HS h from hs) rfl) ?_
  refine e_iload_n (show pAt 140 7 = some (7, .iload_n 1, 1, []) from by decide +kernel) rfl ?_
  obtain ⟨c1, vc⟩ := vc
  refine e_aldv (v := h.2.1 96 p.toNatClampNeg) (show pAt 140 8 = some (8, .iaload, 1, []) from by decide +kernel) (show HS h from hs) (by decide) c1 rfl ?_
  refine e_iconst (c := 1) (show pAt 140 9 = some (9, .iconst 1, 1, []) from by decide +kernel) (by decide) ?_
  refine Ends.call (show pAt 140 10 = some (10, .invokevirtual 277, 3, [138, 5, 0, 0, 5205, 5207, 79]) from by decide +kernel) (isRet_none rfl) rfl (call_this (show HS h from hs) rfl rfl (by decide)) (Ends.mono vc ?_)
  rintro _ h2 ⟨r3, rfl, hs_h2, vc⟩
  exact e_retI (show pAt 140 13 = some (13, .ireturn, 1, []) from by decide +kernel) rfl vc

theorem w_mhof {X : Scr} {dp : Nat} {h : Hp} {Q : Option Value → Hp → Prop} (p : Int32) (hs : HS h)
    (vc : (inB p 7 = true ∧ (inB p 7 = true ∧ Ends X dp 138 0 [.ref 93, .int 1, .int p, .int (h.2.1 96 p.toNatClampNeg), .int 0, .retAddr 0, .retAddr 0, .retAddr 0] [] h (fun rv h3 => ∃ r4, rv = some (.int r4) ∧ HS h3 ∧ Q (some (.int ((h.2.1 98 p.toNatClampNeg) + r4))) h3)))) :
    Ends X (dp + 1) 141 0 [.ref 93, .int p] [] h Q := by
  have ra : ∀ {a : Nat}, a < 1000 → a ≤ OLDB := fun h => by have := OLDB_eq; omega
  refine e_aload_n (show pAt 141 0 = some (0, .aload_n 0, 1, []) from by decide +kernel) rfl (ra (by decide)) ?_
  refine e_gR (show pAt 141 1 = some (1, .getfield 32, 3, [7, 7, 0, 4130]) from by decide +kernel) (show HS h from hs) rfl (by decide) (hs_ref (show HS h from hs) rfl) ?_
  refine e_iload_n (show pAt 141 4 = some (4, .iload_n 1, 1, []) from by decide +kernel) rfl ?_
  obtain ⟨c1, vc⟩ := vc
  refine e_aldv (v := h.2.1 98 p.toNatClampNeg) (show pAt 141 5 = some (5, .iaload, 1, []) from by decide +kernel) (show HS h from hs) (by decide) c1 rfl ?_
  refine e_aload_n (show pAt 141 6 = some (6, .aload_n 0, 1, []) from by decide +kernel) rfl (ra (by decide)) ?_
  refine e_iconst (c := 1) (show pAt 141 7 = some (7, .iconst 1, 1, []) from by decide +kernel) (by decide) ?_
  refine e_iload_n (show pAt 141 8 = some (8, .iload_n 1, 1, []) from by decide +kernel) rfl ?_
  refine e_aload_n (show pAt 141 9 = some (9, .aload_n 0, 1, []) from by decide +kernel) rfl (ra (by decide)) ?_
  refine e_gR (show pAt 141 10 = some (10, .getfield 26, 3, [7, 5, 0, 4128]) from by decide +kernel) (show HS h from hs) rfl (by decide) (hs_ref (show HS h from hs) rfl) ?_
  refine e_iload_n (show pAt 141 13 = some (13, .iload_n 1, 1, []) from by decide +kernel) rfl ?_
  obtain ⟨c2, vc⟩ := vc
  refine e_aldv (v := h.2.1 96 p.toNatClampNeg) (show pAt 141 14 = some (14, .iaload, 1, []) from by decide +kernel) (show HS h from hs) (by decide) c2 rfl ?_
  refine e_iconst (c := 0) (show pAt 141 15 = some (15, .iconst 0, 1, []) from by decide +kernel) (by decide) ?_
  refine Ends.call (show pAt 141 16 = some (16, .invokevirtual 277, 3, [138, 5, 0, 0, 5205, 5207, 79]) from by decide +kernel) (isRet_none rfl) rfl (call_this (show HS h from hs) rfl rfl (by decide)) (Ends.mono vc ?_)
  rintro _ h3 ⟨r4, rfl, hs_h3, vc⟩
  refine e_iadd (show pAt 141 19 = some (19, .iadd, 1, []) from by decide +kernel) ?_
  exact e_retI (show pAt 141 20 = some (20, .ireturn, 1, []) from by decide +kernel) rfl vc

theorem w_mapt {X : Scr} {dp : Nat} {h : Hp} {Q : Option Value → Hp → Prop} (a : Int32) (b : Int32) (hs : HS h)
    (vc : ((condB .ge a b = true → Q (some (.int (a - b))) h) ∧ (condB .ge a b = false → Q (some (.int (b - a))) h))) :
    Ends X dp 142 0 [.ref 93, .int a, .int b] [] h Q := by
  have ra : ∀ {a : Nat}, a < 1000 → a ≤ OLDB := fun h => by have := OLDB_eq; omega
  refine e_iload_n (show pAt 142 0 = some (0, .iload_n 1, 1, []) from by decide +kernel) rfl ?_
  refine e_iload_n (show pAt 142 1 = some (1, .iload_n 2, 1, []) from by decide +kernel) rfl ?_
  refine e_icmp (t := 11) (show pAt 142 2 = some (2, .if_icmp .ge 9, 3, []) from by decide +kernel) rfl (fun c1 => ?_) (fun c1 => ?_)
  · replace vc := vc.1 c1
    refine e_iload_n (show pAt 142 11 = some (11, .iload_n 1, 1, []) from by decide +kernel) rfl ?_
    refine e_iload_n (show pAt 142 12 = some (12, .iload_n 2, 1, []) from by decide +kernel) rfl ?_
    refine e_isub (show pAt 142 13 = some (13, .isub, 1, []) from by decide +kernel) ?_
    exact e_retI (show pAt 142 14 = some (14, .ireturn, 1, []) from by decide +kernel) rfl vc
  · replace vc := vc.2 c1
    refine e_iload_n (show pAt 142 5 = some (5, .iload_n 2, 1, []) from by decide +kernel) rfl ?_
    refine e_iload_n (show pAt 142 6 = some (6, .iload_n 1, 1, []) from by decide +kernel) rfl ?_
    refine e_isub (show pAt 142 7 = some (7, .isub, 1, []) from by decide +kernel) ?_
    refine e_goto (t := 14) (show pAt 142 8 = some (8, .goto 6, 3, []) from by decide +kernel) rfl ?_
    exact e_retI (show pAt 142 14 = some (14, .ireturn, 1, []) from by decide +kernel) rfl vc

theorem w_mrea {X : Scr} {dp : Nat} {h : Hp} {Q : Option Value → Hp → Prop} (c : Int32) (l : Int32) (hs : HS h)
    (vc : ((condB .ne (h.2.1 93 27) 0 = true → Q (some (.int 1)) h) ∧ (condB .ne (h.2.1 93 27) 0 = false → (inB c 7 = true ∧ Ends X dp 142 0 [.ref 93, .int (h.2.1 96 c.toNatClampNeg), .int l] [] h (fun rv h3 => ∃ r4, rv = some (.int r4) ∧ HS h3 ∧ Ends X dp 140 0 [.ref 93, .int c] [] h3 (fun rv h6 => ∃ r7, rv = some (.int r7) ∧ HS h6 ∧ ((condB .gt r4 r7 = true → Q (some (.int 0)) h6) ∧ (condB .gt r4 r7 = false → Q (some (.int 1)) h6)))))))) :
    Ends X (dp + 1) 143 0 [.ref 93, .int c, .int l] [] h Q := by
  have ra : ∀ {a : Nat}, a < 1000 → a ≤ OLDB := fun h => by have := OLDB_eq; omega
  refine e_aload_n (show pAt 143 0 = some (0, .aload_n 0, 1, []) from by decide +kernel) rfl (ra (by decide)) ?_
  refine e_gIv (v := h.2.1 93 27) (show pAt 143 1 = some (1, .getfield 93, 3, [7, 27, 0, 4150]) from by decide +kernel) (show HS h from hs) rfl (by decide) rfl ?_
  refine e_if (t := 26) (show pAt 143 4 = some (4, .ifCond .ne 22, 3, []) from by decide +kernel) rfl (fun c1 => ?_) (fun c1 => ?_)
  · replace vc := vc.1 c1
    refine e_iconst (c := 1) (show pAt 143 26 = some (26, .iconst 1, 1, []) from by decide +kernel) (by decide) ?_
    refine e_goto (t := 31) (show pAt 143 27 = some (27, .goto 4, 3, []) from by decide +kernel) rfl ?_
    exact e_retZ (show pAt 143 31 = some (31, .ireturn, 1, []) from by decide +kernel) rfl (by decide) vc
  · replace vc := vc.2 c1
    refine e_aload_n (show pAt 143 7 = some (7, .aload_n 0, 1, []) from by decide +kernel) rfl (ra (by decide)) ?_
    refine e_aload_n (show pAt 143 8 = some (8, .aload_n 0, 1, []) from by decide +kernel) rfl (ra (by decide)) ?_
    refine e_gR (show pAt 143 9 = some (9, .getfield 26, 3, [7, 5, 0, 4128]) from by decide +kernel) (show HS h from hs) rfl (by decide) (hs_ref (show HS h from hs) rfl) ?_
    refine e_iload_n (show pAt 143 12 = some (12, .iload_n 1, 1, []) from by decide +kernel) rfl ?_
    obtain ⟨c2, vc⟩ := vc
    refine e_aldv (v := h.2.1 96 c.toNatClampNeg) (show pAt 143 13 = some (13, .iaload, 1, []) from by decide +kernel) (show HS h from hs) (by decide) c2 rfl ?_
    refine e_iload_n (show pAt 143 14 = some (14, .iload_n 2, 1, []) from by decide +kernel) rfl ?_
    refine Ends.call (show pAt 143 15 = some (15, .invokevirtual 281, 3, [142, 3, 0, 0, 5197, 5199, 77]) from by decide +kernel) (isRet_none rfl) rfl (call_this (show HS h from hs) rfl rfl (by decide)) (Ends.mono vc ?_)
    rintro _ h3 ⟨r4, rfl, hs_h3, vc⟩
    refine e_aload_n (show pAt 143 18 = some (18, .aload_n 0, 1, []) from by decide +kernel) rfl (ra (by decide)) ?_
    refine e_iload_n (show pAt 143 19 = some (19, .iload_n 1, 1, []) from by decide +kernel) rfl ?_
    refine Ends.call (show pAt 143 20 = some (20, .invokevirtual 285, 3, [140, 2, 0, 0, 5201, 5203, 78]) from by decide +kernel) (isRet_none rfl) rfl (call_this (show HS h3 from hs_h3) rfl rfl (by decide)) (Ends.mono vc ?_)
    rintro _ h6 ⟨r7, rfl, hs_h6, vc⟩
    refine e_icmp (t := 30) (show pAt 143 23 = some (23, .if_icmp .gt 7, 3, []) from by decide +kernel) rfl (fun c9 => ?_) (fun c9 => ?_)
    · replace vc := vc.1 c9
      refine e_iconst (c := 0) (show pAt 143 30 = some (30, .iconst 0, 1, []) from by decide +kernel) (by decide) ?_
      exact e_retZ (show pAt 143 31 = some (31, .ireturn, 1, []) from by decide +kernel) rfl (by decide) vc
    · replace vc := vc.2 c9
      refine e_iconst (c := 1) (show pAt 143 26 = some (26, .iconst 1, 1, []) from by decide +kernel) (by decide) ?_
      refine e_goto (t := 31) (show pAt 143 27 = some (27, .goto 4, 3, []) from by decide +kernel) rfl ?_
      exact e_retZ (show pAt 143 31 = some (31, .ireturn, 1, []) from by decide +kernel) rfl (by decide) vc

theorem w_mmr0 {X : Scr} {dp : Nat} {h : Hp} {Q : Option Value → Hp → Prop} (l : Int32) (hs : HS h)
    (vc : Ends X dp 144 4 [.ref 93, .int l, .int 0, .int 0] [] h Q) :
    Ends X dp 144 0 [.ref 93, .int l, .retAddr 0, .retAddr 0] [] h Q := by
  have ra : ∀ {a : Nat}, a < 1000 → a ≤ OLDB := fun h => by have := OLDB_eq; omega
  refine e_iconst (c := 0) (show pAt 144 0 = some (0, .iconst 0, 1, []) from by decide +kernel) (by decide) ?_
  refine e_istore_n (show pAt 144 1 = some (1, .istore_n 2, 1, []) from by decide +kernel) ⟨Nat.le_of_ble_eq_true rfl, rfl⟩ rfl ?_
  refine e_iconst (c := 0) (show pAt 144 2 = some (2, .iconst 0, 1, []) from by decide +kernel) (by decide) ?_
  refine e_istore_n (show pAt 144 3 = some (3, .istore_n 3, 1, []) from by decide +kernel) ⟨Nat.le_of_ble_eq_true rfl, rfl⟩ rfl ?_
  exact vc

theorem w_mmr1 {X : Scr} {dp : Nat} {h : Hp} {Q : Option Value → Hp → Prop} (l : Int32) (n : Int32) (c : Int32) (hs : HS h)
    (vc : ((condB .ge c (h.2.1 93 0) = true → Q (some (.int n)) h) ∧ (condB .ge c (h.2.1 93 0) = false → Ends X dp 110 0 [.ref 93, .int (h.2.1 93 2), .int c] [] h (fun rv h2 => ∃ r3, rv = some (.int r3) ∧ HS h2 ∧ ((condB .eq r3 0 = true → Ends X (dp + 1) 144 4 [.ref 93, .int l, .int (n + 0), .int (c + 1)] [] h2 Q) ∧ (condB .eq r3 0 = false → Ends X dp 143 0 [.ref 93, .int c, .int l] [] h2 (fun rv h6 => ∃ r7, rv = some (.int r7) ∧ HS h6 ∧ ((condB .eq r7 0 = true → Ends X (dp + 1) 144 4 [.ref 93, .int l, .int (n + 0), .int (c + 1)] [] h6 Q) ∧ (condB .eq r7 0 = false → Ends X (dp + 1) 144 4 [.ref 93, .int l, .int (n + 1), .int (c + 1)] [] h6 Q))))))))) :
    Ends X (dp + 1) 144 4 [.ref 93, .int l, .int n, .int c] [] h Q := by
  have ra : ∀ {a : Nat}, a < 1000 → a ≤ OLDB := fun h => by have := OLDB_eq; omega
  refine e_iload_n (show pAt 144 4 = some (4, .iload_n 3, 1, []) from by decide +kernel) rfl ?_
  refine e_aload_n (show pAt 144 5 = some (5, .aload_n 0, 1, []) from by decide +kernel) rfl (ra (by decide)) ?_
  refine e_gIv (v := h.2.1 93 0) (show pAt 144 6 = some (6, .getfield 7, 3, [7, 0, 0, 4123]) from by decide +kernel) (show HS h from hs) rfl (by decide) rfl ?_
  refine e_icmp (t := 47) (show pAt 144 9 = some (9, .if_icmp .ge 38, 3, []) from by decide +kernel) rfl (fun c1 => ?_) (fun c1 => ?_)
  · replace vc := vc.1 c1
    refine e_iload_n (show pAt 144 47 = some (47, .iload_n 2, 1, []) from by decide +kernel) rfl ?_
    exact e_retI (show pAt 144 48 = some (48, .ireturn, 1, []) from by decide +kernel) rfl vc
  · replace vc := vc.2 c1
    refine e_iload_n (show pAt 144 12 = some (12, .iload_n 2, 1, []) from by decide +kernel) rfl ?_
    refine e_aload_n (show pAt 144 13 = some (13, .aload_n 0, 1, []) from by decide +kernel) rfl (ra (by decide)) ?_
    refine e_aload_n (show pAt 144 14 = some (14, .aload_n 0, 1, []) from by decide +kernel) rfl (ra (by decide)) ?_
    refine e_gIv (v := h.2.1 93 2) (show pAt 144 15 = some (15, .getfield 16, 3, [7, 2, 0, 4125]) from by decide +kernel) (show HS h from hs) rfl (by decide) rfl ?_
    refine e_iload_n (show pAt 144 18 = some (18, .iload_n 3, 1, []) from by decide +kernel) rfl ?_
    refine Ends.call (show pAt 144 19 = some (19, .invokevirtual 274, 3, [110, 3, 0, 0, 5173, 5175, 71]) from by decide +kernel) (isRet_none rfl) rfl (call_this (show HS h from hs) rfl rfl (by decide)) (Ends.mono vc ?_)
    rintro _ h2 ⟨r3, rfl, hs_h2, vc⟩
    refine e_if (t := 38) (show pAt 144 22 = some (22, .ifCond .eq 16, 3, []) from by decide +kernel) rfl (fun c5 => ?_) (fun c5 => ?_)
    · replace vc := vc.1 c5
      refine e_iconst (c := 0) (show pAt 144 38 = some (38, .iconst 0, 1, []) from by decide +kernel) (by decide) ?_
      refine e_iadd (show pAt 144 39 = some (39, .iadd, 1, []) from by decide +kernel) ?_
      refine e_istore_n (show pAt 144 40 = some (40, .istore_n 2, 1, []) from by decide +kernel) ⟨Nat.le_of_ble_eq_true rfl, rfl⟩ rfl ?_
      refine e_iinc (c := 1) (show pAt 144 41 = some (41, .iinc 3 1, 3, []) from by decide +kernel) rfl rfl (by decide) rfl ?_
      refine e_goto (t := 4) (show pAt 144 44 = some (44, .goto (-40), 3, []) from by decide +kernel) rfl ?_
      exact vc
    · replace vc := vc.2 c5
      refine e_aload_n (show pAt 144 25 = some (25, .aload_n 0, 1, []) from by decide +kernel) rfl (ra (by decide)) ?_
      refine e_iload_n (show pAt 144 26 = some (26, .iload_n 3, 1, []) from by decide +kernel) rfl ?_
      refine e_iload_n (show pAt 144 27 = some (27, .iload_n 1, 1, []) from by decide +kernel) rfl ?_
      refine Ends.call (show pAt 144 28 = some (28, .invokevirtual 288, 3, [143, 3, 0, 0, 5193, 5195, 76]) from by decide +kernel) (isRet_none rfl) rfl (call_this (show HS h2 from hs_h2) rfl rfl (by decide)) (Ends.mono vc ?_)
      rintro _ h6 ⟨r7, rfl, hs_h6, vc⟩
      refine e_if (t := 38) (show pAt 144 31 = some (31, .ifCond .eq 7, 3, []) from by decide +kernel) rfl (fun c9 => ?_) (fun c9 => ?_)
      · replace vc := vc.1 c9
        refine e_iconst (c := 0) (show pAt 144 38 = some (38, .iconst 0, 1, []) from by decide +kernel) (by decide) ?_
        refine e_iadd (show pAt 144 39 = some (39, .iadd, 1, []) from by decide +kernel) ?_
        refine e_istore_n (show pAt 144 40 = some (40, .istore_n 2, 1, []) from by decide +kernel) ⟨Nat.le_of_ble_eq_true rfl, rfl⟩ rfl ?_
        refine e_iinc (c := 1) (show pAt 144 41 = some (41, .iinc 3 1, 3, []) from by decide +kernel) rfl rfl (by decide) rfl ?_
        refine e_goto (t := 4) (show pAt 144 44 = some (44, .goto (-40), 3, []) from by decide +kernel) rfl ?_
        exact vc
      · replace vc := vc.2 c9
        refine e_iconst (c := 1) (show pAt 144 34 = some (34, .iconst 1, 1, []) from by decide +kernel) (by decide) ?_
        refine e_goto (t := 39) (show pAt 144 35 = some (35, .goto 4, 3, []) from by decide +kernel) rfl ?_
        refine e_iadd (show pAt 144 39 = some (39, .iadd, 1, []) from by decide +kernel) ?_
        refine e_istore_n (show pAt 144 40 = some (40, .istore_n 2, 1, []) from by decide +kernel) ⟨Nat.le_of_ble_eq_true rfl, rfl⟩ rfl ?_
        refine e_iinc (c := 1) (show pAt 144 41 = some (41, .iinc 3 1, 3, []) from by decide +kernel) rfl rfl (by decide) rfl ?_
        refine e_goto (t := 4) (show pAt 144 44 = some (44, .goto (-40), 3, []) from by decide +kernel) rfl ?_
        exact vc

theorem w_mshw0 {X : Scr} {dp : Nat} {h : Hp} {Q : Option Value → Hp → Prop} (p : Int32) (hs : HS h)
    (vc : Ends X dp 145 4 [.ref 93, .int p, .int (-1), .int 0] [] h Q) :
    Ends X dp 145 0 [.ref 93, .int p, .retAddr 0, .retAddr 0] [] h Q := by
  have ra : ∀ {a : Nat}, a < 1000 → a ≤ OLDB := fun h => by have := OLDB_eq; omega
  refine e_iconst (c := (-1)) (show pAt 145 0 = some (0, .iconst (-1), 1, []) from by decide +kernel) (by decide) ?_
  refine e_istore_n (show pAt 145 1 = some (1, .istore_n 2, 1, []) from by decide +kernel) ⟨Nat.le_of_ble_eq_true rfl, rfl⟩ rfl ?_
  refine e_iconst (c := 0) (show pAt 145 2 = some (2, .iconst 0, 1, []) from by decide +kernel) (by decide) ?_
  refine e_istore_n (show pAt 145 3 = some (3, .istore_n 3, 1, []) from by decide +kernel) ⟨Nat.le_of_ble_eq_true rfl, rfl⟩ rfl ?_
  exact vc

theorem w_mshw1 {X : Scr} {dp : Nat} {h : Hp} {Q : Option Value → Hp → Prop} (p : Int32) (f : Int32) (o : Int32) (hs : HS h)
    (vc : ((condB .ge o (h.2.1 93 0) = true → ((condB .ge f 0 = true → (inB f 7 = true ∧ Q (some (.int (h.2.1 96 f.toNatClampNeg))) h)) ∧ (condB .ge f 0 = false → (inB p 7 = true ∧ Q (some (.int (h.2.1 96 p.toNatClampNeg))) h)))) ∧ (condB .ge o (h.2.1 93 0) = false → ((condB .eq o p = true → Ends X (dp + 1) 145 4 [.ref 93, .int p, .int f, .int (o + 1)] [] h Q) ∧ (condB .eq o p = false → Ends X dp 139 0 [.ref 93, .int o] [] h (fun rv h6 => ∃ r7, rv = some (.int r7) ∧ HS h6 ∧ ((condB .eq r7 0 = true → Ends X (dp + 1) 145 4 [.ref 93, .int p, .int f, .int (o + 1)] [] h6 Q) ∧ (condB .eq r7 0 = false → ((condB .lt f 0 = true → Ends X (dp + 1) 145 4 [.ref 93, .int p, .int o, .int (o + 1)] [] h6 Q) ∧ (condB .lt f 0 = false → (inB o 7 = true ∧ (inB f 7 = true ∧ ((condB .le (h6.2.1 98 o.toNatClampNeg) (h6.2.1 98 f.toNatClampNeg) = true → Ends X (dp + 1) 145 4 [.ref 93, .int p, .int f, .int (o + 1)] [] h6 Q) ∧ (condB .le (h6.2.1 98 o.toNatClampNeg) (h6.2.1 98 f.toNatClampNeg) = false → Ends X (dp + 1) 145 4 [.ref 93, .int p, .int o, .int (o + 1)] [] h6 Q)))))))))))))) :
    Ends X (dp + 1) 145 4 [.ref 93, .int p, .int f, .int o] [] h Q := by
  have ra : ∀ {a : Nat}, a < 1000 → a ≤ OLDB := fun h => by have := OLDB_eq; omega
  refine e_iload_n (show pAt 145 4 = some (4, .iload_n 3, 1, []) from by decide +kernel) rfl ?_
  refine e_aload_n (show pAt 145 5 = some (5, .aload_n 0, 1, []) from by decide +kernel) rfl (ra (by decide)) ?_
  refine e_gIv (v := h.2.1 93 0) (show pAt 145 6 = some (6, .getfield 7, 3, [7, 0, 0, 4123]) from by decide +kernel) (show HS h from hs) rfl (by decide) rfl ?_
  refine e_icmp (t := 52) (show pAt 145 9 = some (9, .if_icmp .ge 43, 3, []) from by decide +kernel) rfl (fun c1 => ?_) (fun c1 => ?_)
  · replace vc := vc.1 c1
    refine e_iload_n (show pAt 145 52 = some (52, .iload_n 2, 1, []) from by decide +kernel) rfl ?_
    refine e_if (t := 65) (show pAt 145 53 = some (53, .ifCond .ge 12, 3, []) from by decide +kernel) rfl (fun c2 => ?_) (fun c2 => ?_)
    · replace vc := vc.1 c2
      refine e_aload_n (show pAt 145 65 = some (65, .aload_n 0, 1, []) from by decide +kernel) rfl (ra (by decide)) ?_
      refine e_gR (show pAt 145 66 = some (66, .getfield 26, 3, [7, 5, 0, 4128]) from by decide +kernel) (show HS h from hs) rfl (by decide) (hs_ref (show HS h from hs) rfl) ?_
      refine e_iload_n (show pAt 145 69 = some (69, .iload_n 2, 1, []) from by decide +kernel) rfl ?_
      obtain ⟨c3, vc⟩ := vc
      refine e_aldv (v := h.2.1 96 f.toNatClampNeg) (show pAt 145 70 = some (70, .iaload, 1, []) from by decide +kernel) (show HS h from hs) (by decide) c3 rfl ?_
      exact e_retI (show pAt 145 71 = some (71, .ireturn, 1, []) from by decide +kernel) rfl vc
    · replace vc := vc.2 c2
      refine e_aload_n (show pAt 145 56 = some (56, .aload_n 0, 1, []) from by decide +kernel) rfl (ra (by decide)) ?_
      refine e_gR (show pAt 145 57 = some (57, .getfield 26, 3, [7, 5, 0, 4128]) from by decide +kernel) (show HS h from hs) rfl (by decide) (hs_ref (show HS h from hs) rfl) ?_
      refine e_iload_n (show pAt 145 60 = some (60, .iload_n 1, 1, []) from by decide +kernel) rfl ?_
      obtain ⟨c4, vc⟩ := vc
      refine e_aldv (v := h.2.1 96 p.toNatClampNeg) (show pAt 145 61 = some (61, .iaload, 1, []) from by decide +kernel) (show HS h from hs) (by decide) c4 rfl ?_
      refine e_goto (t := 71) (show pAt 145 62 = some (62, .goto 9, 3, []) from by decide +kernel) rfl ?_
      exact e_retI (show pAt 145 71 = some (71, .ireturn, 1, []) from by decide +kernel) rfl vc
  · replace vc := vc.2 c1
    refine e_iload_n (show pAt 145 12 = some (12, .iload_n 3, 1, []) from by decide +kernel) rfl ?_
    refine e_iload_n (show pAt 145 13 = some (13, .iload_n 1, 1, []) from by decide +kernel) rfl ?_
    refine e_icmp (t := 46) (show pAt 145 14 = some (14, .if_icmp .eq 32, 3, []) from by decide +kernel) rfl (fun c5 => ?_) (fun c5 => ?_)
    · replace vc := vc.1 c5
      refine e_iinc (c := 1) (show pAt 145 46 = some (46, .iinc 3 1, 3, []) from by decide +kernel) rfl rfl (by decide) rfl ?_
      refine e_goto (t := 4) (show pAt 145 49 = some (49, .goto (-45), 3, []) from by decide +kernel) rfl ?_
      exact vc
    · replace vc := vc.2 c5
      refine e_aload_n (show pAt 145 17 = some (17, .aload_n 0, 1, []) from by decide +kernel) rfl (ra (by decide)) ?_
      refine e_iload_n (show pAt 145 18 = some (18, .iload_n 3, 1, []) from by decide +kernel) rfl ?_
      refine Ends.call (show pAt 145 19 = some (19, .invokevirtual 291, 3, [139, 2, 0, 0, 5169, 5171, 70]) from by decide +kernel) (isRet_none rfl) rfl (call_this (show HS h from hs) rfl rfl (by decide)) (Ends.mono vc ?_)
      rintro _ h6 ⟨r7, rfl, hs_h6, vc⟩
      refine e_if (t := 46) (show pAt 145 22 = some (22, .ifCond .eq 24, 3, []) from by decide +kernel) rfl (fun c9 => ?_) (fun c9 => ?_)
      · replace vc := vc.1 c9
        refine e_iinc (c := 1) (show pAt 145 46 = some (46, .iinc 3 1, 3, []) from by decide +kernel) rfl rfl (by decide) rfl ?_
        refine e_goto (t := 4) (show pAt 145 49 = some (49, .goto (-45), 3, []) from by decide +kernel) rfl ?_
        exact vc
      · replace vc := vc.2 c9
        refine e_iload_n (show pAt 145 25 = some (25, .iload_n 2, 1, []) from by decide +kernel) rfl ?_
        refine e_if (t := 44) (show pAt 145 26 = some (26, .ifCond .lt 18, 3, []) from by decide +kernel) rfl (fun c10 => ?_) (fun c10 => ?_)
        · replace vc := vc.1 c10
          refine e_iload_n (show pAt 145 44 = some (44, .iload_n 3, 1, []) from by decide +kernel) rfl ?_
          refine e_istore_n (show pAt 145 45 = some (45, .istore_n 2, 1, []) from by decide +kernel) ⟨Nat.le_of_ble_eq_true rfl, rfl⟩ rfl ?_
          refine e_iinc (c := 1) (show pAt 145 46 = some (46, .iinc 3 1, 3, []) from by decide +kernel) rfl rfl (by decide) rfl ?_
          refine e_goto (t := 4) (show pAt 145 49 = some (49, .goto (-45), 3, []) from by decide +kernel) rfl ?_
          exact vc
        · replace vc := vc.2 c10
          refine e_aload_n (show pAt 145 29 = some (29, .aload_n 0, 1, []) from by decide +kernel) rfl (ra (by decide)) ?_
          refine e_gR (show pAt 145 30 = some (30, .getfield 32, 3, [7, 7, 0, 4130]) from by decide +kernel) (show HS h6 from hs_h6) rfl (by decide) (hs_ref (show HS h6 from hs_h6) rfl) ?_
          refine e_iload_n (show pAt 145 33 = some (33, .iload_n 3, 1, []) from by decide +kernel) rfl ?_
          obtain ⟨c11, vc⟩ := vc
          refine e_aldv (v := h6.2.1 98 o.toNatClampNeg) (show pAt 145 34 = some (34, .iaload, 1, []) from by decide +kernel) (show HS h6 from hs_h6) (by decide) c11 rfl ?_
          refine e_aload_n (show pAt 145 35 = some (35, .aload_n 0, 1, []) from by decide +kernel) rfl (ra (by decide)) ?_
          refine e_gR (show pAt 145 36 = some (36, .getfield 32, 3, [7, 7, 0, 4130]) from by decide +kernel) (show HS h6 from hs_h6) rfl (by decide) (hs_ref (show HS h6 from hs_h6) rfl) ?_
          refine e_iload_n (show pAt 145 39 = some (39, .iload_n 2, 1, []) from by decide +kernel) rfl ?_
          obtain ⟨c12, vc⟩ := vc
          refine e_aldv (v := h6.2.1 98 f.toNatClampNeg) (show pAt 145 40 = some (40, .iaload, 1, []) from by decide +kernel) (show HS h6 from hs_h6) (by decide) c12 rfl ?_
          refine e_icmp (t := 46) (show pAt 145 41 = some (41, .if_icmp .le 5, 3, []) from by decide +kernel) rfl (fun c13 => ?_) (fun c13 => ?_)
          · replace vc := vc.1 c13
            refine e_iinc (c := 1) (show pAt 145 46 = some (46, .iinc 3 1, 3, []) from by decide +kernel) rfl rfl (by decide) rfl ?_
            refine e_goto (t := 4) (show pAt 145 49 = some (49, .goto (-45), 3, []) from by decide +kernel) rfl ?_
            exact vc
          · replace vc := vc.2 c13
            refine e_iload_n (show pAt 145 44 = some (44, .iload_n 3, 1, []) from by decide +kernel) rfl ?_
            refine e_istore_n (show pAt 145 45 = some (45, .istore_n 2, 1, []) from by decide +kernel) ⟨Nat.le_of_ble_eq_true rfl, rfl⟩ rfl ?_
            refine e_iinc (c := 1) (show pAt 145 46 = some (46, .iinc 3 1, 3, []) from by decide +kernel) rfl rfl (by decide) rfl ?_
            refine e_goto (t := 4) (show pAt 145 49 = some (49, .goto (-45), 3, []) from by decide +kernel) rfl ?_
            exact vc

theorem w_mskw0 {X : Scr} {dp : Nat} {h : Hp} {Q : Option Value → Hp → Prop} (p : Int32) (hs : HS h)
    (vc : Ends X dp 146 8 [.ref 93, .int p, .int 0, .int 99, .int 0, .retAddr 0] [] h Q) :
    Ends X dp 146 0 [.ref 93, .int p, .retAddr 0, .retAddr 0, .retAddr 0, .retAddr 0] [] h Q := by
  have ra : ∀ {a : Nat}, a < 1000 → a ≤ OLDB := fun h => by have := OLDB_eq; omega
  refine e_iconst (c := 0) (show pAt 146 0 = some (0, .iconst 0, 1, []) from by decide +kernel) (by decide) ?_
  refine e_istore_n (show pAt 146 1 = some (1, .istore_n 2, 1, []) from by decide +kernel) ⟨Nat.le_of_ble_eq_true rfl, rfl⟩ rfl ?_
  refine e_bipush (c := 99) (show pAt 146 2 = some (2, .bipush 99, 2, []) from by decide +kernel) (by decide) ?_
  refine e_istore_n (show pAt 146 4 = some (4, .istore_n 3, 1, []) from by decide +kernel) ⟨Nat.le_of_ble_eq_true rfl, rfl⟩ rfl ?_
  refine e_iconst (c := 0) (show pAt 146 5 = some (5, .iconst 0, 1, []) from by decide +kernel) (by decide) ?_
  refine e_istore (show pAt 146 6 = some (6, .istore 4, 2, []) from by decide +kernel) ⟨Nat.le_of_ble_eq_true rfl, rfl⟩ rfl ?_
  exact vc

theorem w_mskw1 {X : Scr} {dp : Nat} {h : Hp} {Q : Option Value → Hp → Prop} (p : Int32) (f : Int32) (w : Int32) (l : Int32) (x : Value) (hs : HS h)
    (vc : ((condB .ge l 7 = true → Q (some (.int f)) h) ∧ (condB .ge l 7 = false → Ends X dp 144 0 [.ref 93, .int l, .retAddr 0, .retAddr 0] [] h (fun rv h2 => ∃ r3, rv = some (.int r3) ∧ HS h2 ∧ ((condB .gt r3 w = true → Ends X (dp + 1) 146 8 [.ref 93, .int p, .int f, .int w, .int (l + 1), .int r3] [] h2 Q) ∧ (condB .gt r3 w = false → ((condB .ne r3 w = true → Ends X (dp + 1) 146 8 [.ref 93, .int p, .int l, .int r3, .int (l + 1), .int r3] [] h2 Q) ∧ (condB .ne r3 w = false → (inB p 7 = true ∧ Ends X dp 142 0 [.ref 93, .int l, .int (h2.2.1 96 p.toNatClampNeg)] [] h2 (fun rv h8 => ∃ r9, rv = some (.int r9) ∧ HS h8 ∧ (inB p 7 = true ∧ Ends X dp 142 0 [.ref 93, .int f, .int (h8.2.1 96 p.toNatClampNeg)] [] h8 (fun rv h12 => ∃ r13, rv = some (.int r13) ∧ HS h12 ∧ ((condB .lt r9 r13 = true → Ends X (dp + 1) 146 8 [.ref 93, .int p, .int l, .int r3, .int (l + 1), .int r3] [] h12 Q) ∧ (condB .lt r9 r13 = false → Ends X (dp + 1) 146 8 [.ref 93, .int p, .int f, .int w, .int (l + 1), .int r3] [] h12 Q)))))))))))))) :
    Ends X (dp + 1) 146 8 [.ref 93, .int p, .int f, .int w, .int l, x] [] h Q := by
  have ra : ∀ {a : Nat}, a < 1000 → a ≤ OLDB := fun h => by have := OLDB_eq; omega
  refine e_iload (show pAt 146 8 = some (8, .iload 4, 2, []) from by decide +kernel) rfl ?_
  refine e_bipush (c := 7) (show pAt 146 10 = some (10, .bipush 7, 2, []) from by decide +kernel) (by decide) ?_
  refine e_icmp (t := 76) (show pAt 146 12 = some (12, .if_icmp .ge 64, 3, []) from by decide +kernel) rfl (fun c1 => ?_) (fun c1 => ?_)
  · replace vc := vc.1 c1
    refine e_iload_n (show pAt 146 76 = some (76, .iload_n 2, 1, []) from by decide +kernel) rfl ?_
    exact e_retI (show pAt 146 77 = some (77, .ireturn, 1, []) from by decide +kernel) rfl vc
  · replace vc := vc.2 c1
    refine e_aload_n (show pAt 146 15 = some (15, .aload_n 0, 1, []) from by decide +kernel) rfl (ra (by decide)) ?_
    refine e_iload (show pAt 146 16 = some (16, .iload 4, 2, []) from by decide +kernel) rfl ?_
    refine Ends.call (show pAt 146 18 = some (18, .invokevirtual 294, 3, [144, 2, 0, 0, 5189, 5191, 75]) from by decide +kernel) (isRet_none rfl) rfl (call_this (show HS h from hs) rfl rfl (by decide)) (Ends.mono vc ?_)
    rintro _ h2 ⟨r3, rfl, hs_h2, vc⟩
    refine e_istore (show pAt 146 21 = some (21, .istore 5, 2, []) from by decide +kernel) ⟨Nat.le_of_ble_eq_true rfl, rfl⟩ rfl ?_
    refine e_iload (show pAt 146 23 = some (23, .iload 5, 2, []) from by decide +kernel) rfl ?_
    refine e_iload_n (show pAt 146 25 = some (25, .iload_n 3, 1, []) from by decide +kernel) rfl ?_
    refine e_icmp (t := 70) (show pAt 146 26 = some (26, .if_icmp .gt 44, 3, []) from by decide +kernel) rfl (fun c5 => ?_) (fun c5 => ?_)
    · replace vc := vc.1 c5
      refine e_iinc (c := 1) (show pAt 146 70 = some (70, .iinc 4 1, 3, []) from by decide +kernel) rfl rfl (by decide) rfl ?_
      refine e_goto (t := 8) (show pAt 146 73 = some (73, .goto (-65), 3, []) from by decide +kernel) rfl ?_
      exact vc
    · replace vc := vc.2 c5
      refine e_iload (show pAt 146 29 = some (29, .iload 5, 2, []) from by decide +kernel) rfl ?_
      refine e_iload_n (show pAt 146 31 = some (31, .iload_n 3, 1, []) from by decide +kernel) rfl ?_
      refine e_icmp (t := 64) (show pAt 146 32 = some (32, .if_icmp .ne 32, 3, []) from by decide +kernel) rfl (fun c6 => ?_) (fun c6 => ?_)
      · replace vc := vc.1 c6
        refine e_iload (show pAt 146 64 = some (64, .iload 4, 2, []) from by decide +kernel) rfl ?_
        refine e_istore_n (show pAt 146 66 = some (66, .istore_n 2, 1, []) from by decide +kernel) ⟨Nat.le_of_ble_eq_true rfl, rfl⟩ rfl ?_
        refine e_iload (show pAt 146 67 = some (67, .iload 5, 2, []) from by decide +kernel) rfl ?_
        refine e_istore_n (show pAt 146 69 = some (69, .istore_n 3, 1, []) from by decide +kernel) ⟨Nat.le_of_ble_eq_true rfl, rfl⟩ rfl ?_
        refine e_iinc (c := 1) (show pAt 146 70 = some (70, .iinc 4 1, 3, []) from by decide +kernel) rfl rfl (by decide) rfl ?_
        refine e_goto (t := 8) (show pAt 146 73 = some (73, .goto (-65), 3, []) from by decide +kernel) rfl ?_
        exact vc
      · replace vc := vc.2 c6
        refine e_aload_n (show pAt 146 35 = some (35, .aload_n 0, 1, []) from by decide +kernel) rfl (ra (by decide)) ?_
        refine e_iload (show pAt 146 36 = some (36, .iload 4, 2, []) from by decide +kernel) rfl ?_
        refine e_aload_n (show pAt 146 38 = some (38, .aload_n 0, 1, []) from by decide +kernel) rfl (ra (by decide)) ?_
        refine e_gR (show pAt 146 39 = some (39, .getfield 26, 3, [7, 5, 0, 4128]) from by decide +kernel) (show HS h2 from hs_h2) rfl (by decide) (hs_ref (show HS h2 from hs_h2) rfl) ?_
        refine e_iload_n (show pAt 146 42 = some (42, .iload_n 1, 1, []) from by decide +kernel) rfl ?_
        obtain ⟨c7, vc⟩ := vc
        refine e_aldv (v := h2.2.1 96 p.toNatClampNeg) (show pAt 146 43 = some (43, .iaload, 1, []) from by decide +kernel) (show HS h2 from hs_h2) (by decide) c7 rfl ?_
        refine Ends.call (show pAt 146 44 = some (44, .invokevirtual 281, 3, [142, 3, 0, 0, 5197, 5199, 77]) from by decide +kernel) (isRet_none rfl) rfl (call_this (show HS h2 from hs_h2) rfl rfl (by decide)) (Ends.mono vc ?_)
        rintro _ h8 ⟨r9, rfl, hs_h8, vc⟩
        refine e_aload_n (show pAt 146 47 = some (47, .aload_n 0, 1, []) from by decide +kernel) rfl (ra (by decide)) ?_
        refine e_iload_n (show pAt 146 48 = some (48, .iload_n 2, 1, []) from by decide +kernel) rfl ?_
        refine e_aload_n (show pAt 146 49 = some (49, .aload_n 0, 1, []) from by decide +kernel) rfl (ra (by decide)) ?_
        refine e_gR (show pAt 146 50 = some (50, .getfield 26, 3, [7, 5, 0, 4128]) from by decide +kernel) (show HS h8 from hs_h8) rfl (by decide) (hs_ref (show HS h8 from hs_h8) rfl) ?_
        refine e_iload_n (show pAt 146 53 = some (53, .iload_n 1, 1, []) from by decide +kernel) rfl ?_
        obtain ⟨c11, vc⟩ := vc
        refine e_aldv (v := h8.2.1 96 p.toNatClampNeg) (show pAt 146 54 = some (54, .iaload, 1, []) from by decide +kernel) (show HS h8 from hs_h8) (by decide) c11 rfl ?_
        refine Ends.call (show pAt 146 55 = some (55, .invokevirtual 281, 3, [142, 3, 0, 0, 5197, 5199, 77]) from by decide +kernel) (isRet_none rfl) rfl (call_this (show HS h8 from hs_h8) rfl rfl (by decide)) (Ends.mono vc ?_)
        rintro _ h12 ⟨r13, rfl, hs_h12, vc⟩
        refine e_icmp (t := 64) (show pAt 146 58 = some (58, .if_icmp .lt 6, 3, []) from by decide +kernel) rfl (fun c15 => ?_) (fun c15 => ?_)
        · replace vc := vc.1 c15
          refine e_iload (show pAt 146 64 = some (64, .iload 4, 2, []) from by decide +kernel) rfl ?_
          refine e_istore_n (show pAt 146 66 = some (66, .istore_n 2, 1, []) from by decide +kernel) ⟨Nat.le_of_ble_eq_true rfl, rfl⟩ rfl ?_
          refine e_iload (show pAt 146 67 = some (67, .iload 5, 2, []) from by decide +kernel) rfl ?_
          refine e_istore_n (show pAt 146 69 = some (69, .istore_n 3, 1, []) from by decide +kernel) ⟨Nat.le_of_ble_eq_true rfl, rfl⟩ rfl ?_
          refine e_iinc (c := 1) (show pAt 146 70 = some (70, .iinc 4 1, 3, []) from by decide +kernel) rfl rfl (by decide) rfl ?_
          refine e_goto (t := 8) (show pAt 146 73 = some (73, .goto (-65), 3, []) from by decide +kernel) rfl ?_
          exact vc
        · replace vc := vc.2 c15
          refine e_goto (t := 70) (show pAt 146 61 = some (61, .goto 9, 3, []) from by decide +kernel) rfl ?_
          refine e_iinc (c := 1) (show pAt 146 70 = some (70, .iinc 4 1, 3, []) from by decide +kernel) rfl rfl (by decide) rfl ?_
          refine e_goto (t := 8) (show pAt 146 73 = some (73, .goto (-65), 3, []) from by decide +kernel) rfl ?_
          exact vc

theorem w_mway {X : Scr} {dp : Nat} {h : Hp} {Q : Option Value → Hp → Prop} (p : Int32) (hs : HS h)
    (vc : ((condB .ne p (h.2.1 93 28) = true → (inB p 7 = true ∧ ((((h.2.1 94 p.toNatClampNeg).toInt < 1 ∨ 6 < (h.2.1 94 p.toNatClampNeg).toInt) → (inB p 7 = true ∧ Q (some (.int (h.2.1 96 p.toNatClampNeg))) h)) ∧ ((h.2.1 94 p.toNatClampNeg).toInt = 1 → (inB p 7 = true ∧ ((condB .ge (h.2.1 96 p.toNatClampNeg) 4 = true → Q (some (.int 6)) h) ∧ (condB .ge (h.2.1 96 p.toNatClampNeg) 4 = false → Q (some (.int 0)) h)))) ∧ ((h.2.1 94 p.toNatClampNeg).toInt = 2 → Ends X dp 145 0 [.ref 93, .int p, .retAddr 0, .retAddr 0] [] h (fun rv h8 => ∃ r9, rv = some (.int r9) ∧ HS h8 ∧ Q (some (.int r9)) h8)) ∧ ((h.2.1 94 p.toNatClampNeg).toInt = 3 → (inB p 7 = true ∧ Q (some (.int (h.2.1 96 p.toNatClampNeg))) h)) ∧ ((h.2.1 94 p.toNatClampNeg).toInt = 4 → (inB p 7 = true ∧ ((condB .ge (h.2.1 96 p.toNatClampNeg) 4 = true → Q (some (.int 6)) h) ∧ (condB .ge (h.2.1 96 p.toNatClampNeg) 4 = false → Q (some (.int 0)) h)))) ∧ ((h.2.1 94 p.toNatClampNeg).toInt = 5 → Ends X dp 146 0 [.ref 93, .int p, .retAddr 0, .retAddr 0, .retAddr 0, .retAddr 0] [] h (fun rv h14 => ∃ r15, rv = some (.int r15) ∧ HS h14 ∧ Q (some (.int r15)) h14)) ∧ ((h.2.1 94 p.toNatClampNeg).toInt = 6 → (inB ((4 * p) + ((h.2.1 93 1) - (h.2.1 93 1) / 4 * 4)) 28 = true ∧ Q (some (.int (h.2.1 99 ((4 * p) + ((h.2.1 93 1) - (h.2.1 93 1) / 4 * 4)).toNatClampNeg))) h))))) ∧ (condB .ne p (h.2.1 93 28) = false → Q (some (.int (h.2.1 93 29))) h))) :
    Ends X (dp + 1) 147 0 [.ref 93, .int p] [] h Q := by
  have ra : ∀ {a : Nat}, a < 1000 → a ≤ OLDB := fun h => by have := OLDB_eq; omega
  refine e_iload_n (show pAt 147 0 = some (0, .iload_n 1, 1, []) from by decide +kernel) rfl ?_
  refine e_aload_n (show pAt 147 1 = some (1, .aload_n 0, 1, []) from by decide +kernel) rfl (ra (by decide)) ?_
  refine e_gIv (v := h.2.1 93 28) (show pAt 147 2 = some (2, .getfield 97, 3, [7, 28, 0, 4151]) from by decide +kernel) (show HS h from hs) rfl (by decide) rfl ?_
  refine e_icmp (t := 13) (show pAt 147 5 = some (5, .if_icmp .ne 8, 3, []) from by decide +kernel) rfl (fun c1 => ?_) (fun c1 => ?_)
  · replace vc := vc.1 c1
    refine e_aload_n (show pAt 147 13 = some (13, .aload_n 0, 1, []) from by decide +kernel) rfl (ra (by decide)) ?_
    refine e_gR (show pAt 147 14 = some (14, .getfield 19, 3, [7, 3, 0, 4126]) from by decide +kernel) (show HS h from hs) rfl (by decide) (hs_ref (show HS h from hs) rfl) ?_
    refine e_iload_n (show pAt 147 17 = some (17, .iload_n 1, 1, []) from by decide +kernel) rfl ?_
    obtain ⟨c2, vc⟩ := vc
    refine e_aldv (v := h.2.1 94 p.toNatClampNeg) (show pAt 147 18 = some (18, .iaload, 1, []) from by decide +kernel) (show HS h from hs) (by decide) c2 rfl ?_
    rcases (show ((h.2.1 94 p.toNatClampNeg).toInt < 1 ∨ 6 < (h.2.1 94 p.toNatClampNeg).toInt) ∨ (h.2.1 94 p.toNatClampNeg).toInt = 1 ∨ (h.2.1 94 p.toNatClampNeg).toInt = 2 ∨ (h.2.1 94 p.toNatClampNeg).toInt = 3 ∨ (h.2.1 94 p.toNatClampNeg).toInt = 4 ∨ (h.2.1 94 p.toNatClampNeg).toInt = 5 ∨ (h.2.1 94 p.toNatClampNeg).toInt = 6 from by omega) with c3 | c3 | c3 | c3 | c3 | c3 | c3
    · refine e_tsd (t := 101) (show pAt 147 19 = some (19, .tableswitch 82 1 6 #[37, 54, 82, 37, 60, 66], 37, []) from by decide +kernel) c3 rfl ?_
      replace vc := vc.1 c3
      refine e_aload_n (show pAt 147 101 = some (101, .aload_n 0, 1, []) from by decide +kernel) rfl (ra (by decide)) ?_
      refine e_gR (show pAt 147 102 = some (102, .getfield 26, 3, [7, 5, 0, 4128]) from by decide +kernel) (show HS h from hs) rfl (by decide) (hs_ref (show HS h from hs) rfl) ?_
      refine e_iload_n (show pAt 147 105 = some (105, .iload_n 1, 1, []) from by decide +kernel) rfl ?_
      obtain ⟨c5, vc⟩ := vc
      refine e_aldv (v := h.2.1 96 p.toNatClampNeg) (show pAt 147 106 = some (106, .iaload, 1, []) from by decide +kernel) (show HS h from hs) (by decide) c5 rfl ?_
      exact e_retI (show pAt 147 107 = some (107, .ireturn, 1, []) from by decide +kernel) rfl vc
    · refine e_tsc (t := 56) 0 (show pAt 147 19 = some (19, .tableswitch 82 1 6 #[37, 54, 82, 37, 60, 66], 37, []) from by decide +kernel) (by omega) (by omega) rfl rfl ?_
      replace vc := vc.2.1 c3
      refine e_aload_n (show pAt 147 56 = some (56, .aload_n 0, 1, []) from by decide +kernel) rfl (ra (by decide)) ?_
      refine e_gR (show pAt 147 57 = some (57, .getfield 26, 3, [7, 5, 0, 4128]) from by decide +kernel) (show HS h from hs) rfl (by decide) (hs_ref (show HS h from hs) rfl) ?_
      refine e_iload_n (show pAt 147 60 = some (60, .iload_n 1, 1, []) from by decide +kernel) rfl ?_
      obtain ⟨c6, vc⟩ := vc
      refine e_aldv (v := h.2.1 96 p.toNatClampNeg) (show pAt 147 61 = some (61, .iaload, 1, []) from by decide +kernel) (show HS h from hs) (by decide) c6 rfl ?_
      refine e_iconst (c := 4) (show pAt 147 62 = some (62, .iconst 4, 1, []) from by decide +kernel) (by decide) ?_
      refine e_icmp (t := 70) (show pAt 147 63 = some (63, .if_icmp .ge 7, 3, []) from by decide +kernel) rfl (fun c7 => ?_) (fun c7 => ?_)
      · replace vc := vc.1 c7
        refine e_bipush (c := 6) (show pAt 147 70 = some (70, .bipush 6, 2, []) from by decide +kernel) (by decide) ?_
        exact e_retI (show pAt 147 72 = some (72, .ireturn, 1, []) from by decide +kernel) rfl vc
      · replace vc := vc.2 c7
        refine e_iconst (c := 0) (show pAt 147 66 = some (66, .iconst 0, 1, []) from by decide +kernel) (by decide) ?_
        refine e_goto (t := 72) (show pAt 147 67 = some (67, .goto 5, 3, []) from by decide +kernel) rfl ?_
        exact e_retI (show pAt 147 72 = some (72, .ireturn, 1, []) from by decide +kernel) rfl vc
    · refine e_tsc (t := 73) 1 (show pAt 147 19 = some (19, .tableswitch 82 1 6 #[37, 54, 82, 37, 60, 66], 37, []) from by decide +kernel) (by omega) (by omega) rfl rfl ?_
      replace vc := vc.2.2.1 c3
      refine e_aload_n (show pAt 147 73 = some (73, .aload_n 0, 1, []) from by decide +kernel) rfl (ra (by decide)) ?_
      refine e_iload_n (show pAt 147 74 = some (74, .iload_n 1, 1, []) from by decide +kernel) rfl ?_
      refine Ends.call (show pAt 147 75 = some (75, .invokevirtual 297, 3, [145, 2, 0, 0, 5181, 5183, 73]) from by decide +kernel) (isRet_none rfl) rfl (call_this (show HS h from hs) rfl rfl (by decide)) (Ends.mono vc ?_)
      rintro _ h8 ⟨r9, rfl, hs_h8, vc⟩
      exact e_retI (show pAt 147 78 = some (78, .ireturn, 1, []) from by decide +kernel) rfl vc
    · refine e_tsc (t := 101) 2 (show pAt 147 19 = some (19, .tableswitch 82 1 6 #[37, 54, 82, 37, 60, 66], 37, []) from by decide +kernel) (by omega) (by omega) rfl rfl ?_
      replace vc := vc.2.2.2.1 c3
      refine e_aload_n (show pAt 147 101 = some (101, .aload_n 0, 1, []) from by decide +kernel) rfl (ra (by decide)) ?_
      refine e_gR (show pAt 147 102 = some (102, .getfield 26, 3, [7, 5, 0, 4128]) from by decide +kernel) (show HS h from hs) rfl (by decide) (hs_ref (show HS h from hs) rfl) ?_
      refine e_iload_n (show pAt 147 105 = some (105, .iload_n 1, 1, []) from by decide +kernel) rfl ?_
      obtain ⟨c11, vc⟩ := vc
      refine e_aldv (v := h.2.1 96 p.toNatClampNeg) (show pAt 147 106 = some (106, .iaload, 1, []) from by decide +kernel) (show HS h from hs) (by decide) c11 rfl ?_
      exact e_retI (show pAt 147 107 = some (107, .ireturn, 1, []) from by decide +kernel) rfl vc
    · refine e_tsc (t := 56) 3 (show pAt 147 19 = some (19, .tableswitch 82 1 6 #[37, 54, 82, 37, 60, 66], 37, []) from by decide +kernel) (by omega) (by omega) rfl rfl ?_
      replace vc := vc.2.2.2.2.1 c3
      refine e_aload_n (show pAt 147 56 = some (56, .aload_n 0, 1, []) from by decide +kernel) rfl (ra (by decide)) ?_
      refine e_gR (show pAt 147 57 = some (57, .getfield 26, 3, [7, 5, 0, 4128]) from by decide +kernel) (show HS h from hs) rfl (by decide) (hs_ref (show HS h from hs) rfl) ?_
      refine e_iload_n (show pAt 147 60 = some (60, .iload_n 1, 1, []) from by decide +kernel) rfl ?_
      obtain ⟨c12, vc⟩ := vc
      refine e_aldv (v := h.2.1 96 p.toNatClampNeg) (show pAt 147 61 = some (61, .iaload, 1, []) from by decide +kernel) (show HS h from hs) (by decide) c12 rfl ?_
      refine e_iconst (c := 4) (show pAt 147 62 = some (62, .iconst 4, 1, []) from by decide +kernel) (by decide) ?_
      refine e_icmp (t := 70) (show pAt 147 63 = some (63, .if_icmp .ge 7, 3, []) from by decide +kernel) rfl (fun c13 => ?_) (fun c13 => ?_)
      · replace vc := vc.1 c13
        refine e_bipush (c := 6) (show pAt 147 70 = some (70, .bipush 6, 2, []) from by decide +kernel) (by decide) ?_
        exact e_retI (show pAt 147 72 = some (72, .ireturn, 1, []) from by decide +kernel) rfl vc
      · replace vc := vc.2 c13
        refine e_iconst (c := 0) (show pAt 147 66 = some (66, .iconst 0, 1, []) from by decide +kernel) (by decide) ?_
        refine e_goto (t := 72) (show pAt 147 67 = some (67, .goto 5, 3, []) from by decide +kernel) rfl ?_
        exact e_retI (show pAt 147 72 = some (72, .ireturn, 1, []) from by decide +kernel) rfl vc
    · refine e_tsc (t := 79) 4 (show pAt 147 19 = some (19, .tableswitch 82 1 6 #[37, 54, 82, 37, 60, 66], 37, []) from by decide +kernel) (by omega) (by omega) rfl rfl ?_
      replace vc := vc.2.2.2.2.2.1 c3
      refine e_aload_n (show pAt 147 79 = some (79, .aload_n 0, 1, []) from by decide +kernel) rfl (ra (by decide)) ?_
      refine e_iload_n (show pAt 147 80 = some (80, .iload_n 1, 1, []) from by decide +kernel) rfl ?_
      refine Ends.call (show pAt 147 81 = some (81, .invokevirtual 300, 3, [146, 2, 0, 0, 5185, 5187, 74]) from by decide +kernel) (isRet_none rfl) rfl (call_this (show HS h from hs) rfl rfl (by decide)) (Ends.mono vc ?_)
      rintro _ h14 ⟨r15, rfl, hs_h14, vc⟩
      exact e_retI (show pAt 147 84 = some (84, .ireturn, 1, []) from by decide +kernel) rfl vc
    · refine e_tsc (t := 85) 5 (show pAt 147 19 = some (19, .tableswitch 82 1 6 #[37, 54, 82, 37, 60, 66], 37, []) from by decide +kernel) (by omega) (by omega) rfl rfl ?_
      replace vc := vc.2.2.2.2.2.2 c3
      refine e_aload_n (show pAt 147 85 = some (85, .aload_n 0, 1, []) from by decide +kernel) rfl (ra (by decide)) ?_
      refine e_gR (show pAt 147 86 = some (86, .getfield 35, 3, [7, 8, 0, 4131]) from by decide +kernel) (show HS h from hs) rfl (by decide) (hs_ref (show HS h from hs) rfl) ?_
      refine e_iconst (c := 4) (show pAt 147 89 = some (89, .iconst 4, 1, []) from by decide +kernel) (by decide) ?_
      refine e_iload_n (show pAt 147 90 = some (90, .iload_n 1, 1, []) from by decide +kernel) rfl ?_
      refine e_imul (show pAt 147 91 = some (91, .imul, 1, []) from by decide +kernel) ?_
      refine e_aload_n (show pAt 147 92 = some (92, .aload_n 0, 1, []) from by decide +kernel) rfl (ra (by decide)) ?_
      refine e_gIv (v := h.2.1 93 1) (show pAt 147 93 = some (93, .getfield 13, 3, [7, 1, 0, 4124]) from by decide +kernel) (show HS h from hs) rfl (by decide) rfl ?_
      refine e_iconst (c := 4) (show pAt 147 96 = some (96, .iconst 4, 1, []) from by decide +kernel) (by decide) ?_
      refine e_irem (show pAt 147 97 = some (97, .irem, 1, []) from by decide +kernel) (by decide) ?_
      refine e_iadd (show pAt 147 98 = some (98, .iadd, 1, []) from by decide +kernel) ?_
      obtain ⟨c17, vc⟩ := vc
      refine e_aldv (v := h.2.1 99 ((4 * p) + ((h.2.1 93 1) - (h.2.1 93 1) / 4 * 4)).toNatClampNeg) (show pAt 147 99 = some (99, .iaload, 1, []) from by decide +kernel) (show HS h from hs) (by decide) c17 rfl ?_
      exact e_retI (show pAt 147 100 = some (100, .ireturn, 1, []) from by decide +kernel) rfl vc
  · replace vc := vc.2 c1
    refine e_aload_n (show pAt 147 8 = some (8, .aload_n 0, 1, []) from by decide +kernel) rfl (ra (by decide)) ?_
    refine e_gIv (v := h.2.1 93 29) (show pAt 147 9 = some (9, .getfield 100, 3, [7, 29, 0, 4152]) from by decide +kernel) (show HS h from hs) rfl (by decide) rfl ?_
    exact e_retI (show pAt 147 12 = some (12, .ireturn, 1, []) from by decide +kernel) rfl vc

theorem w_mslp {X : Scr} {dp : Nat} {h : Hp} {Q : Option Value → Hp → Prop} (p : Int32) (hs : HS h)
    (vc : (inB p 7 = true ∧ (inB p 7 = true ∧ Ends X dp 147 0 [.ref 93, .int p] [] h (fun rv h3 => ∃ r4, rv = some (.int r4) ∧ HS h3 ∧ Ends X dp 138 0 [.ref 93, .int 2, .int p, .int r4, .int 0, .retAddr 0, .retAddr 0, .retAddr 0] [] h3 (fun rv h6 => ∃ r7, rv = some (.int r7) ∧ HS h6 ∧ (inB p 7 = true ∧ ((condB .ne (h6.2.1 94 p.toNatClampNeg) 4 = true → Q (some (.int ((((h.2.1 98 p.toNatClampNeg) + (h.2.1 97 p.toNatClampNeg)) + r7) + 0))) h6) ∧ (condB .ne (h6.2.1 94 p.toNatClampNeg) 4 = false → (inB p 7 = true ∧ Q (some (.int ((((h.2.1 98 p.toNatClampNeg) + (h.2.1 97 p.toNatClampNeg)) + r7) + (h6.2.1 95 p.toNatClampNeg)))) h6))))))))) :
    Ends X (dp + 1) 148 0 [.ref 93, .int p] [] h Q := by
  have ra : ∀ {a : Nat}, a < 1000 → a ≤ OLDB := fun h => by have := OLDB_eq; omega
  refine e_aload_n (show pAt 148 0 = some (0, .aload_n 0, 1, []) from by decide +kernel) rfl (ra (by decide)) ?_
  refine e_gR (show pAt 148 1 = some (1, .getfield 32, 3, [7, 7, 0, 4130]) from by decide +kernel) (show HS h from hs) rfl (by decide) (hs_ref (show HS h from hs) rfl) ?_
  refine e_iload_n (show pAt 148 4 = some (4, .iload_n 1, 1, []) from by decide +kernel) rfl ?_
  obtain ⟨c1, vc⟩ := vc
  refine e_aldv (v := h.2.1 98 p.toNatClampNeg) (show pAt 148 5 = some (5, .iaload, 1, []) from by decide +kernel) (show HS h from hs) (by decide) c1 rfl ?_
  refine e_aload_n (show pAt 148 6 = some (6, .aload_n 0, 1, []) from by decide +kernel) rfl (ra (by decide)) ?_
  refine e_gR (show pAt 148 7 = some (7, .getfield 29, 3, [7, 6, 0, 4129]) from by decide +kernel) (show HS h from hs) rfl (by decide) (hs_ref (show HS h from hs) rfl) ?_
  refine e_iload_n (show pAt 148 10 = some (10, .iload_n 1, 1, []) from by decide +kernel) rfl ?_
  obtain ⟨c2, vc⟩ := vc
  refine e_aldv (v := h.2.1 97 p.toNatClampNeg) (show pAt 148 11 = some (11, .iaload, 1, []) from by decide +kernel) (show HS h from hs) (by decide) c2 rfl ?_
  refine e_iadd (show pAt 148 12 = some (12, .iadd, 1, []) from by decide +kernel) ?_
  refine e_aload_n (show pAt 148 13 = some (13, .aload_n 0, 1, []) from by decide +kernel) rfl (ra (by decide)) ?_
  refine e_iconst (c := 2) (show pAt 148 14 = some (14, .iconst 2, 1, []) from by decide +kernel) (by decide) ?_
  refine e_iload_n (show pAt 148 15 = some (15, .iload_n 1, 1, []) from by decide +kernel) rfl ?_
  refine e_aload_n (show pAt 148 16 = some (16, .aload_n 0, 1, []) from by decide +kernel) rfl (ra (by decide)) ?_
  refine e_iload_n (show pAt 148 17 = some (17, .iload_n 1, 1, []) from by decide +kernel) rfl ?_
  refine Ends.call (show pAt 148 18 = some (18, .invokevirtual 303, 3, [147, 2, 0, 0, 5177, 5179, 72]) from by decide +kernel) (isRet_none rfl) rfl (call_this (show HS h from hs) rfl rfl (by decide)) (Ends.mono vc ?_)
  rintro _ h3 ⟨r4, rfl, hs_h3, vc⟩
  refine e_iconst (c := 0) (show pAt 148 21 = some (21, .iconst 0, 1, []) from by decide +kernel) (by decide) ?_
  refine Ends.call (show pAt 148 22 = some (22, .invokevirtual 277, 3, [138, 5, 0, 0, 5205, 5207, 79]) from by decide +kernel) (isRet_none rfl) rfl (call_this (show HS h3 from hs_h3) rfl rfl (by decide)) (Ends.mono vc ?_)
  rintro _ h6 ⟨r7, rfl, hs_h6, vc⟩
  refine e_iadd (show pAt 148 25 = some (25, .iadd, 1, []) from by decide +kernel) ?_
  refine e_aload_n (show pAt 148 26 = some (26, .aload_n 0, 1, []) from by decide +kernel) rfl (ra (by decide)) ?_
  refine e_gR (show pAt 148 27 = some (27, .getfield 19, 3, [7, 3, 0, 4126]) from by decide +kernel) (show HS h6 from hs_h6) rfl (by decide) (hs_ref (show HS h6 from hs_h6) rfl) ?_
  refine e_iload_n (show pAt 148 30 = some (30, .iload_n 1, 1, []) from by decide +kernel) rfl ?_
  obtain ⟨c9, vc⟩ := vc
  refine e_aldv (v := h6.2.1 94 p.toNatClampNeg) (show pAt 148 31 = some (31, .iaload, 1, []) from by decide +kernel) (show HS h6 from hs_h6) (by decide) c9 rfl ?_
  refine e_iconst (c := 4) (show pAt 148 32 = some (32, .iconst 4, 1, []) from by decide +kernel) (by decide) ?_
  refine e_icmp (t := 45) (show pAt 148 33 = some (33, .if_icmp .ne 12, 3, []) from by decide +kernel) rfl (fun c10 => ?_) (fun c10 => ?_)
  · replace vc := vc.1 c10
    refine e_iconst (c := 0) (show pAt 148 45 = some (45, .iconst 0, 1, []) from by decide +kernel) (by decide) ?_
    refine e_iadd (show pAt 148 46 = some (46, .iadd, 1, []) from by decide +kernel) ?_
    exact e_retI (show pAt 148 47 = some (47, .ireturn, 1, []) from by decide +kernel) rfl vc
  · replace vc := vc.2 c10
    refine e_aload_n (show pAt 148 36 = some (36, .aload_n 0, 1, []) from by decide +kernel) rfl (ra (by decide)) ?_
    refine e_gR (show pAt 148 37 = some (37, .getfield 23, 3, [7, 4, 0, 4127]) from by decide +kernel) (show HS h6 from hs_h6) rfl (by decide) (hs_ref (show HS h6 from hs_h6) rfl) ?_
    refine e_iload_n (show pAt 148 40 = some (40, .iload_n 1, 1, []) from by decide +kernel) rfl ?_
    obtain ⟨c11, vc⟩ := vc
    refine e_aldv (v := h6.2.1 95 p.toNatClampNeg) (show pAt 148 41 = some (41, .iaload, 1, []) from by decide +kernel) (show HS h6 from hs_h6) (by decide) c11 rfl ?_
    refine e_goto (t := 46) (show pAt 148 42 = some (42, .goto 4, 3, []) from by decide +kernel) rfl ?_
    refine e_iadd (show pAt 148 46 = some (46, .iadd, 1, []) from by decide +kernel) ?_
    exact e_retI (show pAt 148 47 = some (47, .ireturn, 1, []) from by decide +kernel) rfl vc

theorem w_mhb0 {X : Scr} {dp : Nat} {h : Hp} {Q : Option Value → Hp → Prop} (t : Int32) (hs : HS h)
    (vc : Ends X dp 155 4 [.ref 93, .int t, .int 0, .int 0] [] h Q) :
    Ends X dp 155 0 [.ref 93, .int t, .retAddr 0, .retAddr 0] [] h Q := by
  have ra : ∀ {a : Nat}, a < 1000 → a ≤ OLDB := fun h => by have := OLDB_eq; omega
  refine e_iconst (c := 0) (show pAt 155 0 = some (0, .iconst 0, 1, []) from by decide +kernel) (by decide) ?_
  refine e_istore_n (show pAt 155 1 = some (1, .istore_n 2, 1, []) from by decide +kernel) ⟨Nat.le_of_ble_eq_true rfl, rfl⟩ rfl ?_
  refine e_iconst (c := 0) (show pAt 155 2 = some (2, .iconst 0, 1, []) from by decide +kernel) (by decide) ?_
  refine e_istore_n (show pAt 155 3 = some (3, .istore_n 3, 1, []) from by decide +kernel) ⟨Nat.le_of_ble_eq_true rfl, rfl⟩ rfl ?_
  exact vc

theorem w_mhb1 {X : Scr} {dp : Nat} {h : Hp} {Q : Option Value → Hp → Prop} (t : Int32) (s : Int32) (c : Int32) (hs : HS h)
    (vc : ((condB .ge c (h.2.1 93 0) = true → Q (some (.int s)) h) ∧ (condB .ge c (h.2.1 93 0) = false → Ends X dp 110 0 [.ref 93, .int t, .int c] [] h (fun rv h2 => ∃ r3, rv = some (.int r3) ∧ HS h2 ∧ ((condB .eq r3 0 = true → Ends X (dp + 1) 155 4 [.ref 93, .int t, .int (s + 0), .int (c + 1)] [] h2 Q) ∧ (condB .eq r3 0 = false → Ends X dp 141 0 [.ref 93, .int c] [] h2 (fun rv h6 => ∃ r7, rv = some (.int r7) ∧ HS h6 ∧ Ends X (dp + 1) 155 4 [.ref 93, .int t, .int (s + r7), .int (c + 1)] [] h6 Q))))))) :
    Ends X (dp + 1) 155 4 [.ref 93, .int t, .int s, .int c] [] h Q := by
  have ra : ∀ {a : Nat}, a < 1000 → a ≤ OLDB := fun h => by have := OLDB_eq; omega
  refine e_iload_n (show pAt 155 4 = some (4, .iload_n 3, 1, []) from by decide +kernel) rfl ?_
  refine e_aload_n (show pAt 155 5 = some (5, .aload_n 0, 1, []) from by decide +kernel) rfl (ra (by decide)) ?_
  refine e_gIv (v := h.2.1 93 0) (show pAt 155 6 = some (6, .getfield 7, 3, [7, 0, 0, 4123]) from by decide +kernel) (show HS h from hs) rfl (by decide) rfl ?_
  refine e_icmp (t := 39) (show pAt 155 9 = some (9, .if_icmp .ge 30, 3, []) from by decide +kernel) rfl (fun c1 => ?_) (fun c1 => ?_)
  · replace vc := vc.1 c1
    refine e_iload_n (show pAt 155 39 = some (39, .iload_n 2, 1, []) from by decide +kernel) rfl ?_
    exact e_retI (show pAt 155 40 = some (40, .ireturn, 1, []) from by decide +kernel) rfl vc
  · replace vc := vc.2 c1
    refine e_iload_n (show pAt 155 12 = some (12, .iload_n 2, 1, []) from by decide +kernel) rfl ?_
    refine e_aload_n (show pAt 155 13 = some (13, .aload_n 0, 1, []) from by decide +kernel) rfl (ra (by decide)) ?_
    refine e_iload_n (show pAt 155 14 = some (14, .iload_n 1, 1, []) from by decide +kernel) rfl ?_
    refine e_iload_n (show pAt 155 15 = some (15, .iload_n 3, 1, []) from by decide +kernel) rfl ?_
    refine Ends.call (show pAt 155 16 = some (16, .invokevirtual 274, 3, [110, 3, 0, 0, 5173, 5175, 71]) from by decide +kernel) (isRet_none rfl) rfl (call_this (show HS h from hs) rfl rfl (by decide)) (Ends.mono vc ?_)
    rintro _ h2 ⟨r3, rfl, hs_h2, vc⟩
    refine e_if (t := 30) (show pAt 155 19 = some (19, .ifCond .eq 11, 3, []) from by decide +kernel) rfl (fun c5 => ?_) (fun c5 => ?_)
    · replace vc := vc.1 c5
      refine e_iconst (c := 0) (show pAt 155 30 = some (30, .iconst 0, 1, []) from by decide +kernel) (by decide) ?_
      refine e_iadd (show pAt 155 31 = some (31, .iadd, 1, []) from by decide +kernel) ?_
      refine e_istore_n (show pAt 155 32 = some (32, .istore_n 2, 1, []) from by decide +kernel) ⟨Nat.le_of_ble_eq_true rfl, rfl⟩ rfl ?_
      refine e_iinc (c := 1) (show pAt 155 33 = some (33, .iinc 3 1, 3, []) from by decide +kernel) rfl rfl (by decide) rfl ?_
      refine e_goto (t := 4) (show pAt 155 36 = some (36, .goto (-32), 3, []) from by decide +kernel) rfl ?_
      exact vc
    · replace vc := vc.2 c5
      refine e_aload_n (show pAt 155 22 = some (22, .aload_n 0, 1, []) from by decide +kernel) rfl (ra (by decide)) ?_
      refine e_iload_n (show pAt 155 23 = some (23, .iload_n 3, 1, []) from by decide +kernel) rfl ?_
      refine Ends.call (show pAt 155 24 = some (24, .invokevirtual 306, 3, [141, 2, 0, 0, 5225, 5227, 84]) from by decide +kernel) (isRet_none rfl) rfl (call_this (show HS h2 from hs_h2) rfl rfl (by decide)) (Ends.mono vc ?_)
      rintro _ h6 ⟨r7, rfl, hs_h6, vc⟩
      refine e_goto (t := 31) (show pAt 155 27 = some (27, .goto 4, 3, []) from by decide +kernel) rfl ?_
      refine e_iadd (show pAt 155 31 = some (31, .iadd, 1, []) from by decide +kernel) ?_
      refine e_istore_n (show pAt 155 32 = some (32, .istore_n 2, 1, []) from by decide +kernel) ⟨Nat.le_of_ble_eq_true rfl, rfl⟩ rfl ?_
      refine e_iinc (c := 1) (show pAt 155 33 = some (33, .iinc 3 1, 3, []) from by decide +kernel) rfl rfl (by decide) rfl ?_
      refine e_goto (t := 4) (show pAt 155 36 = some (36, .goto (-32), 3, []) from by decide +kernel) rfl ?_
      exact vc

theorem w_mmt0 {X : Scr} {dp : Nat} {h : Hp} {Q : Option Value → Hp → Prop} (l : Int32) (b : Int32) (hs : HS h)
    (vc : Ends X dp 156 5 [.ref 93, .int l, .int b, .int 0, .int 0] [] h Q) :
    Ends X dp 156 0 [.ref 93, .int l, .int b, .retAddr 0, .retAddr 0] [] h Q := by
  have ra : ∀ {a : Nat}, a < 1000 → a ≤ OLDB := fun h => by have := OLDB_eq; omega
  refine e_iconst (c := 0) (show pAt 156 0 = some (0, .iconst 0, 1, []) from by decide +kernel) (by decide) ?_
  refine e_istore_n (show pAt 156 1 = some (1, .istore_n 3, 1, []) from by decide +kernel) ⟨Nat.le_of_ble_eq_true rfl, rfl⟩ rfl ?_
  refine e_iconst (c := 0) (show pAt 156 2 = some (2, .iconst 0, 1, []) from by decide +kernel) (by decide) ?_
  refine e_istore (show pAt 156 3 = some (3, .istore 4, 2, []) from by decide +kernel) ⟨Nat.le_of_ble_eq_true rfl, rfl⟩ rfl ?_
  exact vc

theorem w_mmt1 {X : Scr} {dp : Nat} {h : Hp} {Q : Option Value → Hp → Prop} (l : Int32) (b : Int32) (s : Int32) (c : Int32) (hs : HS h)
    (vc : ((condB .ge c (h.2.1 93 0) = true → Q (some (.int s)) h) ∧ (condB .ge c (h.2.1 93 0) = false → Ends X dp 110 0 [.ref 93, .int (h.2.1 93 2), .int c] [] h (fun rv h2 => ∃ r3, rv = some (.int r3) ∧ HS h2 ∧ ((condB .eq r3 0 = true → Ends X (dp + 1) 156 5 [.ref 93, .int l, .int b, .int (s ||| 0), .int (c + 1)] [] h2 Q) ∧ (condB .eq r3 0 = false → Ends X dp 110 0 [.ref 93, .int b, .int c] [] h2 (fun rv h6 => ∃ r7, rv = some (.int r7) ∧ HS h6 ∧ ((condB .ne r7 0 = true → Ends X (dp + 1) 156 5 [.ref 93, .int l, .int b, .int (s ||| 0), .int (c + 1)] [] h6 Q) ∧ (condB .ne r7 0 = false → Ends X dp 143 0 [.ref 93, .int c, .int l] [] h6 (fun rv h10 => ∃ r11, rv = some (.int r11) ∧ HS h10 ∧ ((condB .eq r11 0 = true → Ends X (dp + 1) 156 5 [.ref 93, .int l, .int b, .int (s ||| 0), .int (c + 1)] [] h10 Q) ∧ (condB .eq r11 0 = false → Ends X (dp + 1) 156 5 [.ref 93, .int l, .int b, .int (s ||| (1 <<< (c &&& 31))), .int (c + 1)] [] h10 Q)))))))))))) :
    Ends X (dp + 1) 156 5 [.ref 93, .int l, .int b, .int s, .int c] [] h Q := by
  have ra : ∀ {a : Nat}, a < 1000 → a ≤ OLDB := fun h => by have := OLDB_eq; omega
  refine e_iload (show pAt 156 5 = some (5, .iload 4, 2, []) from by decide +kernel) rfl ?_
  refine e_aload_n (show pAt 156 7 = some (7, .aload_n 0, 1, []) from by decide +kernel) rfl (ra (by decide)) ?_
  refine e_gIv (v := h.2.1 93 0) (show pAt 156 8 = some (8, .getfield 7, 3, [7, 0, 0, 4123]) from by decide +kernel) (show HS h from hs) rfl (by decide) rfl ?_
  refine e_icmp (t := 64) (show pAt 156 11 = some (11, .if_icmp .ge 53, 3, []) from by decide +kernel) rfl (fun c1 => ?_) (fun c1 => ?_)
  · replace vc := vc.1 c1
    refine e_iload_n (show pAt 156 64 = some (64, .iload_n 3, 1, []) from by decide +kernel) rfl ?_
    exact e_retI (show pAt 156 65 = some (65, .ireturn, 1, []) from by decide +kernel) rfl vc
  · replace vc := vc.2 c1
    refine e_iload_n (show pAt 156 14 = some (14, .iload_n 3, 1, []) from by decide +kernel) rfl ?_
    refine e_aload_n (show pAt 156 15 = some (15, .aload_n 0, 1, []) from by decide +kernel) rfl (ra (by decide)) ?_
    refine e_aload_n (show pAt 156 16 = some (16, .aload_n 0, 1, []) from by decide +kernel) rfl (ra (by decide)) ?_
    refine e_gIv (v := h.2.1 93 2) (show pAt 156 17 = some (17, .getfield 16, 3, [7, 2, 0, 4125]) from by decide +kernel) (show HS h from hs) rfl (by decide) rfl ?_
    refine e_iload (show pAt 156 20 = some (20, .iload 4, 2, []) from by decide +kernel) rfl ?_
    refine Ends.call (show pAt 156 22 = some (22, .invokevirtual 274, 3, [110, 3, 0, 0, 5173, 5175, 71]) from by decide +kernel) (isRet_none rfl) rfl (call_this (show HS h from hs) rfl rfl (by decide)) (Ends.mono vc ?_)
    rintro _ h2 ⟨r3, rfl, hs_h2, vc⟩
    refine e_if (t := 55) (show pAt 156 25 = some (25, .ifCond .eq 30, 3, []) from by decide +kernel) rfl (fun c5 => ?_) (fun c5 => ?_)
    · replace vc := vc.1 c5
      refine e_iconst (c := 0) (show pAt 156 55 = some (55, .iconst 0, 1, []) from by decide +kernel) (by decide) ?_
      refine e_ior (show pAt 156 56 = some (56, .ior, 1, []) from by decide +kernel) ?_
      refine e_istore_n (show pAt 156 57 = some (57, .istore_n 3, 1, []) from by decide +kernel) ⟨Nat.le_of_ble_eq_true rfl, rfl⟩ rfl ?_
      refine e_iinc (c := 1) (show pAt 156 58 = some (58, .iinc 4 1, 3, []) from by decide +kernel) rfl rfl (by decide) rfl ?_
      refine e_goto (t := 5) (show pAt 156 61 = some (61, .goto (-56), 3, []) from by decide +kernel) rfl ?_
      exact vc
    · replace vc := vc.2 c5
      refine e_aload_n (show pAt 156 28 = some (28, .aload_n 0, 1, []) from by decide +kernel) rfl (ra (by decide)) ?_
      refine e_iload_n (show pAt 156 29 = some (29, .iload_n 2, 1, []) from by decide +kernel) rfl ?_
      refine e_iload (show pAt 156 30 = some (30, .iload 4, 2, []) from by decide +kernel) rfl ?_
      refine Ends.call (show pAt 156 32 = some (32, .invokevirtual 274, 3, [110, 3, 0, 0, 5173, 5175, 71]) from by decide +kernel) (isRet_none rfl) rfl (call_this (show HS h2 from hs_h2) rfl rfl (by decide)) (Ends.mono vc ?_)
      rintro _ h6 ⟨r7, rfl, hs_h6, vc⟩
      refine e_if (t := 55) (show pAt 156 35 = some (35, .ifCond .ne 20, 3, []) from by decide +kernel) rfl (fun c9 => ?_) (fun c9 => ?_)
      · replace vc := vc.1 c9
        refine e_iconst (c := 0) (show pAt 156 55 = some (55, .iconst 0, 1, []) from by decide +kernel) (by decide) ?_
        refine e_ior (show pAt 156 56 = some (56, .ior, 1, []) from by decide +kernel) ?_
        refine e_istore_n (show pAt 156 57 = some (57, .istore_n 3, 1, []) from by decide +kernel) ⟨Nat.le_of_ble_eq_true rfl, rfl⟩ rfl ?_
        refine e_iinc (c := 1) (show pAt 156 58 = some (58, .iinc 4 1, 3, []) from by decide +kernel) rfl rfl (by decide) rfl ?_
        refine e_goto (t := 5) (show pAt 156 61 = some (61, .goto (-56), 3, []) from by decide +kernel) rfl ?_
        exact vc
      · replace vc := vc.2 c9
        refine e_aload_n (show pAt 156 38 = some (38, .aload_n 0, 1, []) from by decide +kernel) rfl (ra (by decide)) ?_
        refine e_iload (show pAt 156 39 = some (39, .iload 4, 2, []) from by decide +kernel) rfl ?_
        refine e_iload_n (show pAt 156 41 = some (41, .iload_n 1, 1, []) from by decide +kernel) rfl ?_
        refine Ends.call (show pAt 156 42 = some (42, .invokevirtual 288, 3, [143, 3, 0, 0, 5193, 5195, 76]) from by decide +kernel) (isRet_none rfl) rfl (call_this (show HS h6 from hs_h6) rfl rfl (by decide)) (Ends.mono vc ?_)
        rintro _ h10 ⟨r11, rfl, hs_h10, vc⟩
        refine e_if (t := 55) (show pAt 156 45 = some (45, .ifCond .eq 10, 3, []) from by decide +kernel) rfl (fun c13 => ?_) (fun c13 => ?_)
        · replace vc := vc.1 c13
          refine e_iconst (c := 0) (show pAt 156 55 = some (55, .iconst 0, 1, []) from by decide +kernel) (by decide) ?_
          refine e_ior (show pAt 156 56 = some (56, .ior, 1, []) from by decide +kernel) ?_
          refine e_istore_n (show pAt 156 57 = some (57, .istore_n 3, 1, []) from by decide +kernel) ⟨Nat.le_of_ble_eq_true rfl, rfl⟩ rfl ?_
          refine e_iinc (c := 1) (show pAt 156 58 = some (58, .iinc 4 1, 3, []) from by decide +kernel) rfl rfl (by decide) rfl ?_
          refine e_goto (t := 5) (show pAt 156 61 = some (61, .goto (-56), 3, []) from by decide +kernel) rfl ?_
          exact vc
        · replace vc := vc.2 c13
          refine e_iconst (c := 1) (show pAt 156 48 = some (48, .iconst 1, 1, []) from by decide +kernel) (by decide) ?_
          refine e_iload (show pAt 156 49 = some (49, .iload 4, 2, []) from by decide +kernel) rfl ?_
          refine e_ishl (show pAt 156 51 = some (51, .ishl, 1, []) from by decide +kernel) ?_
          refine e_goto (t := 56) (show pAt 156 52 = some (52, .goto 4, 3, []) from by decide +kernel) rfl ?_
          refine e_ior (show pAt 156 56 = some (56, .ior, 1, []) from by decide +kernel) ?_
          refine e_istore_n (show pAt 156 57 = some (57, .istore_n 3, 1, []) from by decide +kernel) ⟨Nat.le_of_ble_eq_true rfl, rfl⟩ rfl ?_
          refine e_iinc (c := 1) (show pAt 156 58 = some (58, .iinc 4 1, 3, []) from by decide +kernel) rfl rfl (by decide) rfl ?_
          refine e_goto (t := 5) (show pAt 156 61 = some (61, .goto (-56), 3, []) from by decide +kernel) rfl ?_
          exact vc

theorem w_mcn0 {X : Scr} {dp : Nat} {h : Hp} {Q : Option Value → Hp → Prop}  (hs : HS h)
    (vc : Ends X dp 154 0 [.ref 93, .retAddr 0, .retAddr 0] [] h (fun rv h1 => rv = none ∧ HS h1 ∧ Ends X (dp + 1) 157 16 [.ref 93, .int 0, .int 0, .int 0, .retAddr 0, .retAddr 0] [] (hpI h1 93 35 (-5)) Q)) :
    Ends X (dp + 1) 157 0 [.ref 93, .retAddr 0, .retAddr 0, .retAddr 0, .retAddr 0, .retAddr 0] [] h Q := by
  have ra : ∀ {a : Nat}, a < 1000 → a ≤ OLDB := fun h => by have := OLDB_eq; omega
  refine e_aload_n (show pAt 157 0 = some (0, .aload_n 0, 1, []) from by decide +kernel) rfl (ra (by decide)) ?_
  refine Ends.call (show pAt 157 1 = some (1, .invokevirtual 324, 3, [154, 1, 0, 0, 6013, 6015, 89]) from by decide +kernel) (isRet_none rfl) rfl (call_this (show HS h from hs) rfl rfl (by decide)) (Ends.mono vc ?_)
  rintro _ h1 ⟨rfl, hs_h1, vc⟩
  refine e_iconst (c := 0) (show pAt 157 4 = some (4, .iconst 0, 1, []) from by decide +kernel) (by decide) ?_
  refine e_istore_n (show pAt 157 5 = some (5, .istore_n 1, 1, []) from by decide +kernel) ⟨Nat.le_of_ble_eq_true rfl, rfl⟩ rfl ?_
  refine e_iconst (c := 0) (show pAt 157 6 = some (6, .iconst 0, 1, []) from by decide +kernel) (by decide) ?_
  refine e_istore_n (show pAt 157 7 = some (7, .istore_n 2, 1, []) from by decide +kernel) ⟨Nat.le_of_ble_eq_true rfl, rfl⟩ rfl ?_
  refine e_aload_n (show pAt 157 8 = some (8, .aload_n 0, 1, []) from by decide +kernel) rfl (ra (by decide)) ?_
  refine e_bipush (c := (-5)) (show pAt 157 9 = some (9, .bipush (-5), 2, []) from by decide +kernel) (by decide) ?_
  refine e_pI (show pAt 157 11 = some (11, .putfield 118, 3, [7, 35, 0, 4158]) from by decide +kernel) (show HS h1 from hs_h1) (by decide) (Or.inl rfl) ?_
  refine e_iconst (c := 0) (show pAt 157 14 = some (14, .iconst 0, 1, []) from by decide +kernel) (by decide) ?_
  refine e_istore_n (show pAt 157 15 = some (15, .istore_n 3, 1, []) from by decide +kernel) ⟨Nat.le_of_ble_eq_true rfl, rfl⟩ rfl ?_
  exact vc

theorem w_mcn1 {X : Scr} {dp : Nat} {h : Hp} {Q : Option Value → Hp → Prop} (b : Int32) (c : Int32) (k : Int32) (x : Value) (y : Value) (hs : HS h)
    (vc : ((condB .ge k (h.2.1 93 34) = true → Q (some (.int c)) h) ∧ (condB .ge k (h.2.1 93 34) = false → (inB k 7 = true ∧ Ends X dp 147 0 [.ref 93, .int (h.2.1 110 k.toNatClampNeg)] [] h (fun rv h3 => ∃ r4, rv = some (.int r4) ∧ HS h3 ∧ Ends X dp 156 0 [.ref 93, .int r4, .int b, .retAddr 0, .retAddr 0] [] h3 (fun rv h6 => ∃ r7, rv = some (.int r7) ∧ HS h6 ∧ Ends X dp 155 0 [.ref 93, .int r7, .retAddr 0, .retAddr 0] [] h6 (fun rv h9 => ∃ r10, rv = some (.int r10) ∧ HS h9 ∧ Ends X dp 148 0 [.ref 93, .int (h.2.1 110 k.toNatClampNeg)] [] h9 (fun rv h12 => ∃ r13, rv = some (.int r13) ∧ HS h12 ∧ ((condB .gt r10 r13 = true → ((condB .ne c 0 = true → Ends X (dp + 1) 157 16 [.ref 93, .int (b ||| r7), .int (c ||| (1 <<< ((h.2.1 110 k.toNatClampNeg) &&& 31))), .int (k + 1), .int (h.2.1 110 k.toNatClampNeg), .int r7] [] (hpI h12 93 35 (h12.2.1 93 35)) Q) ∧ (condB .ne c 0 = false → Ends X (dp + 1) 157 16 [.ref 93, .int (b ||| r7), .int (c ||| (1 <<< ((h.2.1 110 k.toNatClampNeg) &&& 31))), .int (k + 1), .int (h.2.1 110 k.toNatClampNeg), .int r7] [] (hpI h12 93 35 (h.2.1 110 k.toNatClampNeg)) Q))) ∧ (condB .gt r10 r13 = false → Ends X (dp + 1) 157 16 [.ref 93, .int b, .int c, .int (k + 1), .int (h.2.1 110 k.toNatClampNeg), .int r7] [] h12 Q)))))))))) :
    Ends X (dp + 1) 157 16 [.ref 93, .int b, .int c, .int k, x, y] [] h Q := by
  have ra : ∀ {a : Nat}, a < 1000 → a ≤ OLDB := fun h => by have := OLDB_eq; omega
  refine e_iload_n (show pAt 157 16 = some (16, .iload_n 3, 1, []) from by decide +kernel) rfl ?_
  refine e_aload_n (show pAt 157 17 = some (17, .aload_n 0, 1, []) from by decide +kernel) rfl (ra (by decide)) ?_
  refine e_gIv (v := h.2.1 93 34) (show pAt 157 18 = some (18, .getfield 115, 3, [7, 34, 0, 4157]) from by decide +kernel) (show HS h from hs) rfl (by decide) rfl ?_
  refine e_icmp (t := 98) (show pAt 157 21 = some (21, .if_icmp .ge 77, 3, []) from by decide +kernel) rfl (fun c1 => ?_) (fun c1 => ?_)
  · replace vc := vc.1 c1
    refine e_iload_n (show pAt 157 98 = some (98, .iload_n 2, 1, []) from by decide +kernel) rfl ?_
    exact e_retI (show pAt 157 99 = some (99, .ireturn, 1, []) from by decide +kernel) rfl vc
  · replace vc := vc.2 c1
    refine e_aload_n (show pAt 157 24 = some (24, .aload_n 0, 1, []) from by decide +kernel) rfl (ra (by decide)) ?_
    refine e_gR (show pAt 157 25 = some (25, .getfield 112, 3, [7, 33, 0, 4156]) from by decide +kernel) (show HS h from hs) rfl (by decide) (hs_ref (show HS h from hs) rfl) ?_
    refine e_iload_n (show pAt 157 28 = some (28, .iload_n 3, 1, []) from by decide +kernel) rfl ?_
    obtain ⟨c2, vc⟩ := vc
    refine e_aldv (v := h.2.1 110 k.toNatClampNeg) (show pAt 157 29 = some (29, .iaload, 1, []) from by decide +kernel) (show HS h from hs) (by decide) c2 rfl ?_
    refine e_istore (show pAt 157 30 = some (30, .istore 4, 2, []) from by decide +kernel) ⟨Nat.le_of_ble_eq_true rfl, rfl⟩ rfl ?_
    refine e_aload_n (show pAt 157 32 = some (32, .aload_n 0, 1, []) from by decide +kernel) rfl (ra (by decide)) ?_
    refine e_aload_n (show pAt 157 33 = some (33, .aload_n 0, 1, []) from by decide +kernel) rfl (ra (by decide)) ?_
    refine e_iload (show pAt 157 34 = some (34, .iload 4, 2, []) from by decide +kernel) rfl ?_
    refine Ends.call (show pAt 157 36 = some (36, .invokevirtual 303, 3, [147, 2, 0, 0, 5177, 5179, 72]) from by decide +kernel) (isRet_none rfl) rfl (call_this (show HS h from hs) rfl rfl (by decide)) (Ends.mono vc ?_)
    rintro _ h3 ⟨r4, rfl, hs_h3, vc⟩
    refine e_iload_n (show pAt 157 39 = some (39, .iload_n 1, 1, []) from by decide +kernel) rfl ?_
    refine Ends.call (show pAt 157 40 = some (40, .invokevirtual 327, 3, [156, 3, 0, 0, 6029, 6031, 93]) from by decide +kernel) (isRet_none rfl) rfl (call_this (show HS h3 from hs_h3) rfl rfl (by decide)) (Ends.mono vc ?_)
    rintro _ h6 ⟨r7, rfl, hs_h6, vc⟩
    refine e_istore (show pAt 157 43 = some (43, .istore 5, 2, []) from by decide +kernel) ⟨Nat.le_of_ble_eq_true rfl, rfl⟩ rfl ?_
    refine e_aload_n (show pAt 157 45 = some (45, .aload_n 0, 1, []) from by decide +kernel) rfl (ra (by decide)) ?_
    refine e_iload (show pAt 157 46 = some (46, .iload 5, 2, []) from by decide +kernel) rfl ?_
    refine Ends.call (show pAt 157 48 = some (48, .invokevirtual 330, 3, [155, 2, 0, 0, 6033, 6035, 94]) from by decide +kernel) (isRet_none rfl) rfl (call_this (show HS h6 from hs_h6) rfl rfl (by decide)) (Ends.mono vc ?_)
    rintro _ h9 ⟨r10, rfl, hs_h9, vc⟩
    refine e_aload_n (show pAt 157 51 = some (51, .aload_n 0, 1, []) from by decide +kernel) rfl (ra (by decide)) ?_
    refine e_iload (show pAt 157 52 = some (52, .iload 4, 2, []) from by decide +kernel) rfl ?_
    refine Ends.call (show pAt 157 54 = some (54, .invokevirtual 309, 3, [148, 2, 0, 0, 5229, 5231, 85]) from by decide +kernel) (isRet_none rfl) rfl (call_this (show HS h9 from hs_h9) rfl rfl (by decide)) (Ends.mono vc ?_)
    rintro _ h12 ⟨r13, rfl, hs_h12, vc⟩
    refine e_icmp (t := 63) (show pAt 157 57 = some (57, .if_icmp .gt 6, 3, []) from by decide +kernel) rfl (fun c15 => ?_) (fun c15 => ?_)
    · replace vc := vc.1 c15
      refine e_aload_n (show pAt 157 63 = some (63, .aload_n 0, 1, []) from by decide +kernel) rfl (ra (by decide)) ?_
      refine e_iload_n (show pAt 157 64 = some (64, .iload_n 2, 1, []) from by decide +kernel) rfl ?_
      refine e_if (t := 73) (show pAt 157 65 = some (65, .ifCond .ne 8, 3, []) from by decide +kernel) rfl (fun c16 => ?_) (fun c16 => ?_)
      · replace vc := vc.1 c16
        refine e_aload_n (show pAt 157 73 = some (73, .aload_n 0, 1, []) from by decide +kernel) rfl (ra (by decide)) ?_
        refine e_gIv (v := h12.2.1 93 35) (show pAt 157 74 = some (74, .getfield 118, 3, [7, 35, 0, 4158]) from by decide +kernel) (show HS h12 from hs_h12) rfl (by decide) rfl ?_
        refine e_pI (show pAt 157 77 = some (77, .putfield 118, 3, [7, 35, 0, 4158]) from by decide +kernel) (show HS h12 from hs_h12) (by decide) (Or.inl rfl) ?_
        refine e_iload_n (show pAt 157 80 = some (80, .iload_n 2, 1, []) from by decide +kernel) rfl ?_
        refine e_iconst (c := 1) (show pAt 157 81 = some (81, .iconst 1, 1, []) from by decide +kernel) (by decide) ?_
        refine e_iload (show pAt 157 82 = some (82, .iload 4, 2, []) from by decide +kernel) rfl ?_
        refine e_ishl (show pAt 157 84 = some (84, .ishl, 1, []) from by decide +kernel) ?_
        refine e_ior (show pAt 157 85 = some (85, .ior, 1, []) from by decide +kernel) ?_
        refine e_istore_n (show pAt 157 86 = some (86, .istore_n 2, 1, []) from by decide +kernel) ⟨Nat.le_of_ble_eq_true rfl, rfl⟩ rfl ?_
        refine e_iload_n (show pAt 157 87 = some (87, .iload_n 1, 1, []) from by decide +kernel) rfl ?_
        refine e_iload (show pAt 157 88 = some (88, .iload 5, 2, []) from by decide +kernel) rfl ?_
        refine e_ior (show pAt 157 90 = some (90, .ior, 1, []) from by decide +kernel) ?_
        refine e_istore_n (show pAt 157 91 = some (91, .istore_n 1, 1, []) from by decide +kernel) ⟨Nat.le_of_ble_eq_true rfl, rfl⟩ rfl ?_
        refine e_iinc (c := 1) (show pAt 157 92 = some (92, .iinc 3 1, 3, []) from by decide +kernel) rfl rfl (by decide) rfl ?_
        refine e_goto (t := 16) (show pAt 157 95 = some (95, .goto (-79), 3, []) from by decide +kernel) rfl ?_
        exact vc
      · replace vc := vc.2 c16
        refine e_iload (show pAt 157 68 = some (68, .iload 4, 2, []) from by decide +kernel) rfl ?_
        refine e_goto (t := 77) (show pAt 157 70 = some (70, .goto 7, 3, []) from by decide +kernel) rfl ?_
        refine e_pI (show pAt 157 77 = some (77, .putfield 118, 3, [7, 35, 0, 4158]) from by decide +kernel) (show HS h12 from hs_h12) (by decide) (Or.inl rfl) ?_
        refine e_iload_n (show pAt 157 80 = some (80, .iload_n 2, 1, []) from by decide +kernel) rfl ?_
        refine e_iconst (c := 1) (show pAt 157 81 = some (81, .iconst 1, 1, []) from by decide +kernel) (by decide) ?_
        refine e_iload (show pAt 157 82 = some (82, .iload 4, 2, []) from by decide +kernel) rfl ?_
        refine e_ishl (show pAt 157 84 = some (84, .ishl, 1, []) from by decide +kernel) ?_
        refine e_ior (show pAt 157 85 = some (85, .ior, 1, []) from by decide +kernel) ?_
        refine e_istore_n (show pAt 157 86 = some (86, .istore_n 2, 1, []) from by decide +kernel) ⟨Nat.le_of_ble_eq_true rfl, rfl⟩ rfl ?_
        refine e_iload_n (show pAt 157 87 = some (87, .iload_n 1, 1, []) from by decide +kernel) rfl ?_
        refine e_iload (show pAt 157 88 = some (88, .iload 5, 2, []) from by decide +kernel) rfl ?_
        refine e_ior (show pAt 157 90 = some (90, .ior, 1, []) from by decide +kernel) ?_
        refine e_istore_n (show pAt 157 91 = some (91, .istore_n 1, 1, []) from by decide +kernel) ⟨Nat.le_of_ble_eq_true rfl, rfl⟩ rfl ?_
        refine e_iinc (c := 1) (show pAt 157 92 = some (92, .iinc 3 1, 3, []) from by decide +kernel) rfl rfl (by decide) rfl ?_
        refine e_goto (t := 16) (show pAt 157 95 = some (95, .goto (-79), 3, []) from by decide +kernel) rfl ?_
        exact vc
    · replace vc := vc.2 c15
      refine e_goto (t := 92) (show pAt 157 60 = some (60, .goto 32, 3, []) from by decide +kernel) rfl ?_
      refine e_iinc (c := 1) (show pAt 157 92 = some (92, .iinc 3 1, 3, []) from by decide +kernel) rfl rfl (by decide) rfl ?_
      refine e_goto (t := 16) (show pAt 157 95 = some (95, .goto (-79), 3, []) from by decide +kernel) rfl ?_
      exact vc

theorem w_mgo {X : Scr} {dp : Nat} {h : Hp} {Q : Option Value → Hp → Prop}  (hs : HS h)
    (vc : Ends X dp 157 0 [.ref 93, .retAddr 0, .retAddr 0, .retAddr 0, .retAddr 0, .retAddr 0] [] h (fun rv h1 => ∃ r2, rv = some (.int r2) ∧ HS h1 ∧ Q (some (.int r2)) (hpI (hpI h1 93 2 ((h1.2.1 93 2) ||| r2)) 93 1 ((h1.2.1 93 1) + 1)))) :
    Ends X (dp + 1) 158 0 [.ref 93, .retAddr 0] [] h Q := by
  have ra : ∀ {a : Nat}, a < 1000 → a ≤ OLDB := fun h => by have := OLDB_eq; omega
  refine e_aload_n (show pAt 158 0 = some (0, .aload_n 0, 1, []) from by decide +kernel) rfl (ra (by decide)) ?_
  refine Ends.call (show pAt 158 1 = some (1, .invokevirtual 333, 3, [157, 1, 0, 0, 6009, 6011, 88]) from by decide +kernel) (isRet_none rfl) rfl (call_this (show HS h from hs) rfl rfl (by decide)) (Ends.mono vc ?_)
  rintro _ h1 ⟨r2, rfl, hs_h1, vc⟩
  refine e_istore_n (show pAt 158 4 = some (4, .istore_n 1, 1, []) from by decide +kernel) ⟨Nat.le_of_ble_eq_true rfl, rfl⟩ rfl ?_
  refine e_aload_n (show pAt 158 5 = some (5, .aload_n 0, 1, []) from by decide +kernel) rfl (ra (by decide)) ?_
  refine e_dupR (show pAt 158 6 = some (6, .dup, 1, []) from by decide +kernel) ?_
  refine e_gIv (v := h1.2.1 93 2) (show pAt 158 7 = some (7, .getfield 16, 3, [7, 2, 0, 4125]) from by decide +kernel) (show HS h1 from hs_h1) rfl (by decide) rfl ?_
  refine e_iload_n (show pAt 158 10 = some (10, .iload_n 1, 1, []) from by decide +kernel) rfl ?_
  refine e_ior (show pAt 158 11 = some (11, .ior, 1, []) from by decide +kernel) ?_
  refine e_pI (show pAt 158 12 = some (12, .putfield 16, 3, [7, 2, 0, 4125]) from by decide +kernel) (show HS h1 from hs_h1) (by decide) (Or.inl rfl) ?_
  refine e_aload_n (show pAt 158 15 = some (15, .aload_n 0, 1, []) from by decide +kernel) rfl (ra (by decide)) ?_
  refine e_dupR (show pAt 158 16 = some (16, .dup, 1, []) from by decide +kernel) ?_
  refine e_gIv (v := h1.2.1 93 1) (show pAt 158 17 = some (17, .getfield 13, 3, [7, 1, 0, 4124]) from by decide +kernel) (show HS (hpI h1 93 2 ((h1.2.1 93 2) ||| r2)) from hs_h1) rfl (by decide) rfl ?_
  refine e_iconst (c := 1) (show pAt 158 20 = some (20, .iconst 1, 1, []) from by decide +kernel) (by decide) ?_
  refine e_iadd (show pAt 158 21 = some (21, .iadd, 1, []) from by decide +kernel) ?_
  refine e_pI (show pAt 158 22 = some (22, .putfield 13, 3, [7, 1, 0, 4124]) from by decide +kernel) (show HS (hpI h1 93 2 ((h1.2.1 93 2) ||| r2)) from hs_h1) (by decide) (Or.inl rfl) ?_
  refine e_iload_n (show pAt 158 25 = some (25, .iload_n 1, 1, []) from by decide +kernel) rfl ?_
  exact e_retI (show pAt 158 26 = some (26, .ireturn, 1, []) from by decide +kernel) rfl vc

theorem w_msht {X : Scr} {dp : Nat} {h : Hp} {Q : Option Value → Hp → Prop}  (hs : HS h)
    (vc : ((condB .ne (h.2.1 93 1) 999 = true → Ends X dp 158 0 [.ref 93, .retAddr 0] [] h (fun rv h2 => ∃ r3, rv = some (.int r3) ∧ HS h2 ∧ Q (some (.int r3)) h2)) ∧ (condB .ne (h.2.1 93 1) 999 = false → Q (some (.int (-3))) h))) :
    Ends X (dp + 1) 159 0 [.ref 93] [] h Q := by
  have ra : ∀ {a : Nat}, a < 1000 → a ≤ OLDB := fun h => by have := OLDB_eq; omega
  refine e_aload_n (show pAt 159 0 = some (0, .aload_n 0, 1, []) from by decide +kernel) rfl (ra (by decide)) ?_
  refine e_gIv (v := h.2.1 93 1) (show pAt 159 1 = some (1, .getfield 13, 3, [7, 1, 0, 4124]) from by decide +kernel) (show HS h from hs) rfl (by decide) rfl ?_
  refine e_sipush (c := 999) (show pAt 159 4 = some (4, .sipush 999, 3, []) from by decide +kernel) (by decide) ?_
  refine e_icmp (t := 15) (show pAt 159 7 = some (7, .if_icmp .ne 8, 3, []) from by decide +kernel) rfl (fun c1 => ?_) (fun c1 => ?_)
  · replace vc := vc.1 c1
    refine e_aload_n (show pAt 159 15 = some (15, .aload_n 0, 1, []) from by decide +kernel) rfl (ra (by decide)) ?_
    refine Ends.call (show pAt 159 16 = some (16, .invokevirtual 336, 3, [158, 1, 0, 0, 6005, 6007, 87]) from by decide +kernel) (isRet_none rfl) rfl (call_this (show HS h from hs) rfl rfl (by decide)) (Ends.mono vc ?_)
    rintro _ h2 ⟨r3, rfl, hs_h2, vc⟩
    exact e_retI (show pAt 159 19 = some (19, .ireturn, 1, []) from by decide +kernel) rfl vc
  · replace vc := vc.2 c1
    refine e_bipush (c := (-3)) (show pAt 159 10 = some (10, .bipush (-3), 2, []) from by decide +kernel) (by decide) ?_
    refine e_goto (t := 19) (show pAt 159 12 = some (12, .goto 7, 3, []) from by decide +kernel) rfl ?_
    exact e_retI (show pAt 159 19 = some (19, .ireturn, 1, []) from by decide +kernel) rfl vc

theorem w_msav {X : Scr} {dp : Nat} {h : Hp} {Q : Option Value → Hp → Prop}  (hs : HS h)
    (vc : Q none (hpI (hpI h 93 36 (h.2.1 93 2)) 93 37 (h.2.1 93 1))) :
    Ends X dp 160 0 [.ref 93] [] h Q := by
  have ra : ∀ {a : Nat}, a < 1000 → a ≤ OLDB := fun h => by have := OLDB_eq; omega
  refine e_aload_n (show pAt 160 0 = some (0, .aload_n 0, 1, []) from by decide +kernel) rfl (ra (by decide)) ?_
  refine e_aload_n (show pAt 160 1 = some (1, .aload_n 0, 1, []) from by decide +kernel) rfl (ra (by decide)) ?_
  refine e_gIv (v := h.2.1 93 2) (show pAt 160 2 = some (2, .getfield 16, 3, [7, 2, 0, 4125]) from by decide +kernel) (show HS h from hs) rfl (by decide) rfl ?_
  refine e_pI (show pAt 160 5 = some (5, .putfield 121, 3, [7, 36, 0, 4159]) from by decide +kernel) (show HS h from hs) (by decide) (Or.inl rfl) ?_
  refine e_aload_n (show pAt 160 8 = some (8, .aload_n 0, 1, []) from by decide +kernel) rfl (ra (by decide)) ?_
  refine e_aload_n (show pAt 160 9 = some (9, .aload_n 0, 1, []) from by decide +kernel) rfl (ra (by decide)) ?_
  refine e_gIv (v := h.2.1 93 1) (show pAt 160 10 = some (10, .getfield 13, 3, [7, 1, 0, 4124]) from by decide +kernel) (show HS (hpI h 93 36 (h.2.1 93 2)) from hs) rfl (by decide) rfl ?_
  refine e_pI (show pAt 160 13 = some (13, .putfield 124, 3, [7, 37, 0, 4160]) from by decide +kernel) (show HS (hpI h 93 36 (h.2.1 93 2)) from hs) (by decide) (Or.inl rfl) ?_
  exact e_retV (show pAt 160 16 = some (16, .return_, 1, []) from by decide +kernel) rfl vc

theorem w_mpb {X : Scr} {dp : Nat} {h : Hp} {Q : Option Value → Hp → Prop}  (hs : HS h)
    (vc : Q none (hpI (hpI h 93 2 (h.2.1 93 36)) 93 1 (h.2.1 93 37))) :
    Ends X dp 161 0 [.ref 93] [] h Q := by
  have ra : ∀ {a : Nat}, a < 1000 → a ≤ OLDB := fun h => by have := OLDB_eq; omega
  refine e_aload_n (show pAt 161 0 = some (0, .aload_n 0, 1, []) from by decide +kernel) rfl (ra (by decide)) ?_
  refine e_aload_n (show pAt 161 1 = some (1, .aload_n 0, 1, []) from by decide +kernel) rfl (ra (by decide)) ?_
  refine e_gIv (v := h.2.1 93 36) (show pAt 161 2 = some (2, .getfield 121, 3, [7, 36, 0, 4159]) from by decide +kernel) (show HS h from hs) rfl (by decide) rfl ?_
  refine e_pI (show pAt 161 5 = some (5, .putfield 16, 3, [7, 2, 0, 4125]) from by decide +kernel) (show HS h from hs) (by decide) (Or.inl rfl) ?_
  refine e_aload_n (show pAt 161 8 = some (8, .aload_n 0, 1, []) from by decide +kernel) rfl (ra (by decide)) ?_
  refine e_aload_n (show pAt 161 9 = some (9, .aload_n 0, 1, []) from by decide +kernel) rfl (ra (by decide)) ?_
  refine e_gIv (v := h.2.1 93 37) (show pAt 161 10 = some (10, .getfield 124, 3, [7, 37, 0, 4160]) from by decide +kernel) (show HS (hpI h 93 2 (h.2.1 93 36)) from hs) rfl (by decide) rfl ?_
  refine e_pI (show pAt 161 13 = some (13, .putfield 13, 3, [7, 1, 0, 4124]) from by decide +kernel) (show HS (hpI h 93 2 (h.2.1 93 36)) from hs) (by decide) (Or.inl rfl) ?_
  exact e_retV (show pAt 161 16 = some (16, .return_, 1, []) from by decide +kernel) rfl vc
end JN99ty0mwalks
section JN99ty1msum
/-! The reference's sums of clauses are those told. -/
theorem tst_z {t x : Int32} (h0 : 0 ≤ t.toInt) (h6 : t.toInt < 6000) : tst t x = ztst t.toInt x.toInt := by
  have j100 : (100 : Int32).toInt = 100 := rfl
  have j10 : (10 : Int32).toInt = 10 := rfl
  have a1 : (t / 100).toInt = t.toInt / 100 := i_dv h0 (by decide)
  have a2 : (t / 100 / 10).toInt = t.toInt / 100 / 10 := by rw [i_dv (by omega) (by decide), a1, j10]
  have a3 : (t / 100 / 10 * 10).toInt = t.toInt / 100 / 10 * 10 := by rw [i_mul (by rw [a2, j10]; omega) (by rw [a2, j10]; omega), a2, j10]
  have a4 : (t / 100 - t / 100 / 10 * 10).toInt = t.toInt / 100 - t.toInt / 100 / 10 * 10 := by rw [i_sub (by rw [a1, a3]; omega) (by rw [a1, a3]; omega), a1, a3]
  have a5 : (t / 100 * 100).toInt = t.toInt / 100 * 100 := by rw [i_mul (by rw [a1, j100]; omega) (by rw [a1, j100]; omega), a1, j100]
  have a6 : (t - t / 100 * 100).toInt = t.toInt - t.toInt / 100 * 100 := by rw [i_sub (by rw [a5]; omega) (by rw [a5]; omega), a5]
  have v2 : (t / 100 - t / 100 / 10 * 10).toInt = t.toInt / 100 % 10 := by omega
  have v3 : (t - t / 100 * 100).toInt = t.toInt % 100 := by omega
  unfold tst ztst
  rw [v2, v3]
theorem ev_eq {s : Nat → Int32} {F : Int32 → Int32} {fc : Int → Int} (hF : ∀ t : Int32, 0 ≤ t.toInt → t.toInt < 6000 → (F t).toInt = fc (t.toInt / 1000)) : ∀ (e : List Int) (i : Nat) (st : List Bool), (∀ j, j < e.length → (s (i + j)).toInt = e.getD j 0) → (∃ r, pk e st.length = some r) → evS s F e.length i st = zev e fc st
  | [], i, st, hs, hp => rfl
  | x :: e, i, st, hs, hp => by
    have c0 := hs 0 (by show 0 < e.length + 1; omega)
    have c0 : (s i).toInt = x := c0
    have nx : ∀ j, j < e.length → (s (i + 1 + j)).toInt = e.getD j 0 := fun j hj => by
      have := hs (j + 1) (by show j + 1 < e.length + 1; omega)
      rw [gdC] at this
      rw [show i + 1 + j = i + (j + 1) by omega]
      exact this
    show evS s F (e.length + 1) i st = _
    rw [evS_s, c0]
    unfold zev
    unfold pk at hp
    by_cases c1 : x = -33
    · rw [if_pos c1, if_pos c1]
      rw [if_pos c1] at hp
      match st, hp with
      | [], hp => obtain ⟨r, hp⟩ := hp; simp at hp
      | b :: st, hp =>
        rw [if_pos (by show 1 ≤ st.length + 1; omega)] at hp
        simp only
        exact ev_eq hF e (i + 1) ((!b) :: st) nx hp
    · rw [if_neg c1, if_neg c1]
      rw [if_neg c1] at hp
      by_cases c2 : x = -38 ∨ x = -124
      · rw [if_pos c2] at hp
        rw [if_pos (by omega), if_pos (by omega)]
        match st, hp with
        | [], hp => obtain ⟨r, hp⟩ := hp; simp at hp
        | [_], hp => obtain ⟨r, hp⟩ := hp; simp at hp
        | b :: a :: st, hp =>
          rw [if_pos (by show 2 ≤ st.length + 1 + 1; omega)] at hp
          simp only
          exact ev_eq hF e (i + 1) (_ :: st) nx hp
      · rw [if_neg c2] at hp
        by_cases c3 : st.length < 60 ∧ 0 ≤ x ∧ x < 6000 ∧ x / 100 % 10 ≤ 2
        · rw [if_pos c3] at hp
          rw [if_neg (by omega), if_neg (by omega), tst_z (by omega) (by omega), hF (s i) (by omega) (by omega), c0]
          exact ev_eq hF e (i + 1) (_ :: st) nx hp
        · rw [if_neg c3] at hp
          obtain ⟨r, hp⟩ := hp
          cases hp
/-- the reference holds S -/
def MG (h : Hp) (S : Nat → Nat → Int) (Y : Int) : Prop := (∀ p, p < 7 → (h.2.1 94 p).toInt = S 0 p ∧ (h.2.1 95 p).toInt = S 1 p ∧ (h.2.1 96 p).toInt = S 2 p ∧ (h.2.1 97 p).toInt = S 3 p ∧ (h.2.1 98 p).toInt = S 4 p) ∧ (∀ i, i < 28 → (h.2.1 99 i).toInt = S 5 i) ∧ (h.2.1 93 1).toInt = Y
/-- the yard that holds in the reference -/
def MY (h : Hp) (cs : List Cl) (m : List Int) : Prop := YOK cs m ∧ (((h.2.1 93 10).toInt < 0 ∧ cs = []) ∨ ∃ f : Nat, (h.2.1 93 10).toInt = f ∧ f < 6 ∧ YM f h cs m)
def WMX : List (Nat × Nat) := [(109, 999), (110, 999), (93, 34), (93, 35)]
theorem WMX_n {a k : Nat} (h1 : a < 109) (h2 : ¬ (a = 93 ∧ (k = 34 ∨ k = 35))) : inW WMX a k = false := by
  cases c : inW WMX a k with
  | false => rfl
  | true =>
    simp only [inW, WMX, List.any_cons, List.any_nil, Bool.or_false, Bool.or_eq_true, Bool.and_eq_true, beq_iff_eq] at c
    omega
theorem WPi_X {h h' : Hp} (hf : frm WPi h h') : frm WMX h h' := frm_sub (V := WPi) (by decide) hf
theorem WO_X {h h' : Hp} (hf : frm WO h h') : frm WMX h h' := frm_sub (V := WO) (by decide) hf
theorem MG.fr {h h' : Hp} {S : Nat → Nat → Int} {Y : Int} (hg : MG h S Y) (hf : frm WMX h h') : MG h' S Y := by
  have f : ∀ a k, 94 ≤ a → a < 109 → h'.2.1 a k = h.2.1 a k := fun a k h1 h2 => frI hf (WMX_n h2 (by omega))
  refine ⟨fun p hp => ?_, fun i hi => ?_, ?_⟩
  · rw [f 94 p (by decide) (by decide), f 95 p (by decide) (by decide), f 96 p (by decide) (by decide), f 97 p (by decide) (by decide), f 98 p (by decide) (by decide)]
    exact hg.1 p hp
  · rw [f 99 i (by decide) (by decide)]
    exact hg.2.1 i hi
  · rw [frI hf (a := 93) rfl]
    exact hg.2.2
theorem MY.fr {h h' : Hp} {cs : List Cl} {m : List Int} (hy : MY h cs m) (hf : frm WMX h h') : MY h' cs m := by
  have f : ∀ a k, 94 ≤ a → a < 109 → h'.2.1 a k = h.2.1 a k := fun a k h1 h2 => frI hf (WMX_n h2 (by omega))
  refine ⟨hy.1, ?_⟩
  rw [frI hf (a := 93) rfl]
  rcases hy.2 with c | ⟨g, g1, g2, y1, y2, y3⟩
  · exact Or.inl c
  · refine Or.inr ⟨g, g1, g2, by rw [f 101 g (by decide) (by decide)]; exact y1, fun c hc => ?_, fun j hj => by rw [f 106 _ (by decide) (by decide)]; exact y3 j hj⟩
    rw [f 102 _ (by decide) (by decide), f 103 _ (by decide) (by decide), f 104 _ (by decide) (by decide), f 105 _ (by decide) (by decide)]
    exact y2 c hc
theorem TX.fr {h h' : Hp} (ht : TX h) (hf : frm WMX h h') : TX h' := TX_fr (fun a k hs => frI hf (dis_in (SUP := SUP1) (by decide) hs)) ht
theorem so_z {h : Hp} {S : Nat → Nat → Int} {Y : Int} (hg : MG h S Y) (hY0 : 0 ≤ Y) {pI lI : Int32} {p : Nat} (hp : pI.toInt = p) (h7 : p < 7) {cn a : Nat} {e : List Int} (h4 : (h.2.1 104 cn).toInt = a) (h5 : (h.2.1 105 cn).toInt = ((a + e.length : Nat) : Int)) (he : ∀ j, j < e.length → (h.2.1 106 (a + j)).toInt = e.getD j 0) (hk : pk e 0 = some 1) : soB h pI lI cn = zso e (zfc S Y p lI.toInt) := by
  unfold soB zso
  have k1 : ((h.2.1 105 cn).toInt - (h.2.1 104 cn).toInt).toNat = e.length := by omega
  have k2 : (h.2.1 104 cn).toInt.toNat = a := by omega
  have j1000 : (1000 : Int32).toInt = 1000 := rfl
  have j10 : (10 : Int32).toInt = 10 := rfl
  have en : pI.toNatClampNeg = p := by show pI.toInt.toNat = _; omega
  obtain ⟨g1, g2, g3, g4, g5⟩ := hg.1 p h7
  rw [k1, k2, ev_eq (fc := zfc S Y p lI.toInt) (fun t h0 h6 => ?_) e a [] he ⟨1, hk⟩]
  have a1 : (t / 1000).toInt = t.toInt / 1000 := i_dv h0 (by decide)
  have y := hg.2.2
  have a2 : (h.2.1 93 1 / 10).toInt = Y / 10 := by rw [i_dv (by omega) (by decide), y, j10]
  have yb := i32r (h.2.1 93 1)
  simp only [fI] at yb
  have a3 : (h.2.1 93 1 / 10 * 10).toInt = Y / 10 * 10 := by rw [i_mul (by rw [a2, j10]; omega) (by rw [a2, j10]; omega), a2, j10]
  have a4 : (h.2.1 93 1 - h.2.1 93 1 / 10 * 10).toInt = Y % 10 := by rw [i_sub (by omega) (by omega), a3, y]; omega
  unfold factM zfc
  rw [en, a1]
  split
  · exact hp
  · split
    · exact g1
    · split
      · rfl
      · split
        · exact g5
        · split
          · exact g4
          · exact a4
theorem zsum_no {m : List Int} {fc : Int → Int} {w : Int} : ∀ {l : List Cl}, zhas w l = false → zsum m fc w l = 0
  | [], _ => rfl
  | c :: l, h => by
    unfold zhas at h
    unfold zsum
    by_cases d : c.1 = w
    · rw [if_pos d] at h
      cases h
    · rw [if_neg d] at h
      rw [if_neg (fun z => d z.1), zsum_no h]
      rfl
theorem sumF_z {h : Hp} {S : Nat → Nat → Int} {Y : Int} {cs : List Cl} {m : List Int} {f : Nat} (hg : MG h S Y) (hY0 : 0 ≤ Y) (hw : YOK cs m) (hy : YM f h cs m) {wI pI lI : Int32} {p : Nat} (hp : pI.toInt = p) (h7 : p < 7) : ∀ (k c : Nat) (s g : Int32) (V : Int), c + k = cs.length → s.toInt = V → 0 ≤ V → V ≤ 99 * c → ((sumF h wI pI lI k (10 * f + c) s g).1.toInt = V + zsum m (zfc S Y p lI.toInt) wI.toInt (cs.drop c)) ∧ ((sumF h wI pI lI k (10 * f + c) s g).2.toInt = 0 ↔ (g.toInt = 0 ∧ zhas wI.toInt (cs.drop c) = false))
  | 0, c, s, g, V, hk, hs, h0, h9 => by
    rw [List.drop_eq_nil_of_le (by omega)]
    unfold sumF zsum zhas
    exact ⟨by show s.toInt = V + 0; omega, ⟨fun z => ⟨z, rfl⟩, fun z => z.1⟩⟩
  | k + 1, c, s, g, V, hk, hs, h0, h9 => by
    have hlt : c < cs.length := by omega
    have hl := hw.2.1
    obtain ⟨y1, y2, y3⟩ := hy
    obtain ⟨x1, x2, x3, x4⟩ := y2 c hlt
    obtain ⟨u1, u2, u3, u4, u5, pre, ee, post, p1, p2, p3, p4⟩ := hw.1.1 c hlt
    have sl : zsl m (cs.getD c cl0) = ee := by rw [p1]; exact zsl_eq p2 p3
    have ml : m.length = pre.length + (ee.length + post.length) := by rw [p1, List.length_append, List.length_append]
    have mk : ∀ j, j < ee.length → (h.2.1 106 ((100 * f + (cs.getD c cl0).2.2.1) + j)).toInt = ee.getD j 0 := fun j hj => by
      rw [show 100 * f + (cs.getD c cl0).2.2.1 + j = 100 * f + ((cs.getD c cl0).2.2.1 + j) by omega, y3 _ (by omega), p1, ← p2]
      rw [List.getD_eq_getElem?_getD, List.getElem?_append_right (by omega), show pre.length + j - pre.length = j by omega, List.getElem?_append_left hj, ← List.getD_eq_getElem?_getD]
    have so := so_z (lI := lI) hg hY0 hp h7 x3 (by rw [x4]; omega) mk p4
    rw [dropC hlt]
    unfold sumF zsum zhas
    rw [sl, x1, so]
    by_cases d : (cs.getD c cl0).1 = wI.toInt
    · rw [if_pos d, if_pos d]
      have one : (1 : Int32).toInt = 1 := rfl
      by_cases t : zso ee (zfc S Y p lI.toInt) = true
      · rw [if_pos t, if_pos ⟨d, t⟩]
        have sv : (s + h.2.1 103 (10 * f + c)).toInt = V + (cs.getD c cl0).2.1 := by rw [i_add (by rw [hs, x2]; omega) (by rw [hs, x2]; omega), hs, x2]
        have i := sumF_z hg hY0 hw ⟨y1, y2, y3⟩ (wI := wI) (lI := lI) hp h7 k (c + 1) _ 1 _ (by omega) sv (by omega) (by omega)
        rw [show 10 * f + (c + 1) = 10 * f + c + 1 by omega] at i
        exact ⟨by rw [i.1]; omega, ⟨fun z => by have := (i.2.mp z).1; omega, fun z => absurd z.2 (by simp)⟩⟩
      · rw [if_neg t, if_neg (fun z => t z.2)]
        have sv : (s + 0).toInt = V := by rw [i_add (by rw [z0]; omega) (by rw [z0]; omega), z0]; omega
        have i := sumF_z hg hY0 hw ⟨y1, y2, y3⟩ (wI := wI) (lI := lI) hp h7 k (c + 1) _ 1 _ (by omega) sv (by omega) (by omega)
        rw [show 10 * f + (c + 1) = 10 * f + c + 1 by omega] at i
        exact ⟨by rw [i.1]; omega, ⟨fun z => by have := (i.2.mp z).1; omega, fun z => absurd z.2 (by simp)⟩⟩
    · rw [if_neg d, if_neg d, if_neg (fun z => d z.1)]
      have i := sumF_z hg hY0 hw ⟨y1, y2, y3⟩ (wI := wI) (lI := lI) hp h7 k (c + 1) s g V (by omega) hs (by omega) (by omega)
      rw [show 10 * f + (c + 1) = 10 * f + c + 1 by omega] at i
      exact ⟨by rw [i.1]; omega, i.2⟩
theorem sumM_z {h : Hp} {S : Nat → Nat → Int} {Y : Int} {cs : List Cl} {m : List Int} (hg : MG h S Y) (hY0 : 0 ≤ Y) (hy : MY h cs m) {wI pI lI zI : Int32} {p : Nat} (hp : pI.toInt = p) (h7 : p < 7) : (sumM h wI pI lI zI).toInt = if zhas wI.toInt cs = true then zsum m (zfc S Y p lI.toInt) wI.toInt cs else zI.toInt := by
  unfold sumM
  rcases hy.2 with ⟨c1, rfl⟩ | ⟨f, f1, f6, ym⟩
  · have n0 : cN0 h = 0 := by unfold cN0; rw [if_neg (by omega)]
    rw [n0]
    unfold sumF
    simp only
    rw [if_pos z0]
    rfl
  · have n0 : cN0 h = cs.length := by
      unfold cN0
      rw [if_pos (by omega), show (h.2.1 93 10).toInt.toNat = f by omega, ym.1]
      rfl
    have b0 : cB0 h = 10 * f := by
      unfold cB0
      rw [if_pos (by omega), show (h.2.1 93 10).toInt.toNat = f by omega]
    have i := sumF_z hg hY0 hy.1 ym (wI := wI) (lI := lI) hp h7 cs.length 0 0 0 0 (by omega) rfl (by decide) (by decide)
    rw [n0, b0]
    rw [Nat.add_zero, List.drop_zero, Int.zero_add] at i
    cases z : zhas wI.toInt cs with
    | true =>
      rw [if_neg (fun q => by have := (i.2.mp q).2; rw [z] at this; cases this), if_pos rfl]
      exact i.1
    | false =>
      rw [if_pos (i.2.mpr ⟨rfl, z⟩), if_neg Bool.false_ne_true]
end JN99ty1msum
section JN99ty2mcross
/-! The reference's shout, exactly. -/
/-- the first so many in it -/
def popn (f : Nat → Bool) : Nat → Nat
  | 0 => 0
  | n + 1 => popn f n + (f n).toNat
theorem popn_7 (f : Nat → Bool) : popn f 7 = pop f := by
  unfold pop
  simp only [popn, Nat.zero_add]
theorem popn_ext {f : Nat → Bool} {N : Nat} (hf : ∀ p, p < 7 → f p = true → p < N) : ∀ k, N + k ≤ 7 → popn f (N + k) = popn f N
  | 0, _ => rfl
  | k + 1, h => by
    have i := popn_ext hf k (by omega)
    have z : f (N + k) = false := by
      cases c : f (N + k) with
      | false => rfl
      | true => have := hf (N + k) (by omega) c; omega
    show popn f (N + k) + (f (N + k)).toNat = _
    rw [z, i]
    rfl
theorem popn_N {f : Nat → Bool} {N : Nat} (hN7 : N ≤ 7) (hf : ∀ p, p < 7 → f p = true → p < N) : popn f N = pop f := by
  rw [← popn_7, ← popn_ext hf (7 - N) (by omega), show N + (7 - N) = 7 by omega]
theorem zheld_ext {H : Nat → Int} {f : Nat → Bool} {N : Nat} (hf : ∀ p, p < 7 → f p = true → p < N) : ∀ k, N + k ≤ 7 → zheld H f (N + k) = zheld H f N
  | 0, _ => rfl
  | k + 1, h => by
    have i := zheld_ext (H := H) hf k (by omega)
    show zheld H f (N + k) + (if f (N + k) = true then H (N + k) else 0) = _
    rw [if_neg (fun z => by have := hf (N + k) (by omega) z; omega), i, Int.add_zero]
theorem zheld_N {H : Nat → Int} {f : Nat → Bool} {N : Nat} (hN7 : N ≤ 7) (hf : ∀ p, p < 7 → f p = true → p < N) : zheld H f N = zheld H f 7 := by
  rw [← zheld_ext hf (7 - N) (by omega), show N + (7 - N) = 7 by omega]
theorem zsh_ext {S : Nat → Nat → Int} {R : Nat → Bool} {p N : Nat} (hR : ∀ p, p < 7 → R p = true → p < N) : ∀ k, N + k ≤ 7 → zsh S R p (N + k) = zsh S R p N
  | 0, _ => rfl
  | k + 1, h => by
    have i := zsh_ext (S := S) (p := p) hR k (by omega)
    show zsh S R p (N + k + 1) = _
    rw [zsh, if_neg, i]
    intro z
    rw [Bool.and_eq_true, Bool.and_eq_true] at z
    have := hR (N + k) (by omega) z.1.1
    omega
theorem zshl_N {S : Nat → Nat → Int} {R : Nat → Bool} {p N : Nat} (hN7 : N ≤ 7) (hR : ∀ p, p < 7 → R p = true → p < N) : zshl S R p N = zshl S R p 7 := by
  unfold zshl
  rw [← zsh_ext hR (7 - N) (by omega), show N + (7 - N) = 7 by omega]
/-- the reference stands for a shout: the people, the yard, who is there, one sent, one behind another -/
def MST (S : Nat → Nat → Int) (Y : Int) (cs : List Cl) (m : List Int) (N : Nat) (K R : Nat → Bool) (hd : Bool) (one tol fo le : Int) (h : Hp) : Prop := MG h S Y ∧ MY h cs m ∧ TX h ∧ (h.2.1 93 0).toInt = N ∧ BSET (h.2.1 93 2) K ∧ (∀ p, p < 7 → K p = true → p < N) ∧ (∃ G, BSET (h.2.1 93 32) G ∧ ∀ p, p < 7 → (decide (p < N) && !(K p || G p)) = R p) ∧ h.2.1 93 27 = b2i hd ∧ (h.2.1 93 28).toInt = one ∧ (h.2.1 93 29).toInt = tol ∧ (h.2.1 93 30).toInt = fo ∧ (0 ≤ fo → (h.2.1 93 31).toInt = le)
theorem MST.fr {S : Nat → Nat → Int} {Y : Int} {cs : List Cl} {m : List Int} {N : Nat} {K R : Nat → Bool} {hd : Bool} {one tol fo le : Int} {h h' : Hp} (hm : MST S Y cs m N K R hd one tol fo le h) (hf : frm WMX h h') : MST S Y cs m N K R hd one tol fo le h' := by
  obtain ⟨a1, a2, a3, a4, a5, a6, ⟨G, c1, c2⟩, a8, a9, a10, a11, a12⟩ := hm
  exact ⟨a1.fr hf, a2.fr hf, a3.fr hf, by rw [frI hf (a := 93) rfl]; exact a4, by rw [frI hf (a := 93) rfl]; exact a5, a6, ⟨G, by rw [frI hf (a := 93) rfl]; exact c1, c2⟩, by rw [frI hf (a := 93) rfl]; exact a8, by rw [frI hf (a := 93) rfl]; exact a9, by rw [frI hf (a := 93) rfl]; exact a10, by rw [frI hf (a := 93) rfl]; exact a11, fun z => by rw [frI hf (a := 93) rfl]; exact a12 z⟩
/-- what stays the same through all that follows -/
def MOK (S : Nat → Nat → Int) (Y : Int) (N : Nat) : Prop := SRG S ∧ SR5 S ∧ 0 ≤ Y ∧ N ≤ 7
theorem bitB_s {b k : Int32} {f : Nat → Bool} {p : Nat} (hb : BSET b f) (hk : k.toInt = p) (h7 : p < 7) : bitB b k = f p := hb.bit hk h7
section MCR
variable {X : Scr} {Q : Option Value → Hp → Prop} {S : Nat → Nat → Int} {Y : Int} {cs : List Cl} {m : List Int} {N : Nat} {K R : Nat → Bool} {hd : Bool} {one tol fo le : Int} {h : Hp}
theorem mrun_ok {dp : Nat} (hm : MST S Y cs m N K R hd one tol fo le h) (hh : HI h) (pI : Int32) (p : Nat) (hp : pI.toInt = p) (h7 : p < 7) (hN : p < N) (hQ : Q (some (.int (b2i (R p)))) h) : Ends X (dp + 1) 139 0 [.ref 93, .int pI] [] h Q := by
  obtain ⟨-, -, -, -, a5, -, ⟨G, c1, c2⟩, -⟩ := hm
  refine run_ok pI hh.hs ?_
  unfold runM
  rw [bitB_s (a5.or c1) hp h7]
  have := c2 p h7
  rw [decide_eq_true hN, Bool.true_and] at this
  rw [this]
  exact hQ
theorem mrof_ok {dp : Nat} (mk : MOK S Y N) (hm : MST S Y cs m N K R hd one tol fo le h) (hh : HI h) (pI : Int32) (p : Nat) (hp : pI.toInt = p) (h7 : p < 7) (hQ : ∀ (r : Int32) h', HI h' → frm WPi h h' → r.toInt = zreach S Y cs m p → Q (some (.int r)) h') : Ends X (dp + 1 + 1 + 1) 140 0 [.ref 93, .int pI] [] h Q := by
  have en : pI.toNatClampNeg = p := by show pI.toInt.toNat = _; omega
  obtain ⟨a1, a2, a3, -⟩ := id hm
  refine w_mrof pI hh.hs ⟨inB_iff (by omega) (by omega), sum_ok _ _ _ _ (by omega) (by omega) hh a3 (fun h' g1 g2 => ⟨_, rfl, g1.hs, hQ _ h' g1 g2 ?_⟩)⟩
  rw [sumM_z a1 mk.2.2.1 a2 hp h7, en, (a1.1 p h7).2.2.1]
  rfl
theorem mhof_ok {dp : Nat} (mk : MOK S Y N) (hm : MST S Y cs m N K R hd one tol fo le h) (hh : HI h) (pI : Int32) (p : Nat) (hp : pI.toInt = p) (h7 : p < 7) (hQ : ∀ (r : Int32) h', HI h' → frm WPi h h' → r.toInt = zhold S Y cs m p → Q (some (.int r)) h') : Ends X (dp + 1 + 1 + 1) 141 0 [.ref 93, .int pI] [] h Q := by
  have en : pI.toNatClampNeg = p := by show pI.toInt.toNat = _; omega
  obtain ⟨a1, a2, a3, -⟩ := id hm
  have ip : inB pI 7 = true := inB_iff (by omega) (by omega)
  refine w_mhof pI hh.hs ⟨ip, ip, sum_ok _ _ _ _ (by omega) (by omega) hh a3 (fun h' g1 g2 => ⟨_, rfl, g1.hs, hQ _ h' g1 g2 ?_⟩)⟩
  have v := sumM_z (zI := 0) (wI := 1) (lI := h.2.1 96 p) a1 mk.2.2.1 a2 hp h7
  have one : (1 : Int32).toInt = 1 := rfl
  rw [(a1.1 p h7).2.2.1, one] at v
  have b := a2.1.b (zfc S Y p (S 2 p)) 1
  have v2 : (sumM h 1 pI (h.2.1 96 p) 0).toInt = zsum m (zfc S Y p (S 2 p)) 1 cs := by
    rw [v]
    split
    · rfl
    · rename_i c
      rw [zsum_no (by cases z : zhas 1 cs with | false => rfl | true => exact absurd z c)]
      rfl
  have s := (mk.1 p h7).2.2.2.2
  have g5 := (a1.1 p h7).2.2.2.2
  rw [en]
  unfold zhold
  rw [i_add (by omega) (by omega), v2, g5]
theorem mapt_ok {dp : Nat} (hs : HS h) (aI bI : Int32) (hr : -1000 ≤ aI.toInt - bI.toInt ∧ aI.toInt - bI.toInt ≤ 1000) (hQ : ∀ r : Int32, r.toInt = apt aI.toInt bI.toInt → Q (some (.int r)) h) : Ends X dp 142 0 [.ref 93, .int aI, .int bI] [] h Q := by
  unfold apt at hQ
  refine w_mapt aI bI hs ⟨fun e => ?_, fun e => ?_⟩
  · have e : bI.toInt ≤ aI.toInt := of_decide_eq_true (cJ e)
    refine hQ _ ?_
    rw [if_pos (by omega), i_sub (by omega) (by omega)]
  · have e : ¬ bI.toInt ≤ aI.toInt := of_decide_eq_false (cJ e)
    refine hQ _ ?_
    rw [if_neg (by omega), i_sub (by omega) (by omega)]
    omega
theorem mrea_ok {dp : Nat} (mk : MOK S Y N) (hm : MST S Y cs m N K R hd one tol fo le h) (hh : HI h) (pI lI : Int32) (p l : Nat) (hp : pI.toInt = p) (h7 : p < 7) (hl : lI.toInt = l) (l7 : l < 7) (hQ : ∀ h', HI h' → frm WPi h h' → Q (some (.int (b2i (hd || znr (S 2 p) (zreach S Y cs m p) l)))) h') : Ends X (dp + 1 + 1 + 1 + 1) 143 0 [.ref 93, .int pI, .int lI] [] h Q := by
  have en : pI.toNatClampNeg = p := by show pI.toInt.toNat = _; omega
  obtain ⟨a1, a2, a3, a4, a5, a6, a7, a8, -⟩ := id hm
  have s := (mk.1 p h7).2.2.1
  have g3 := (a1.1 p h7).2.2.1
  refine w_mrea pI lI hh.hs ⟨fun e => ?_, fun e => ⟨inB_iff (by omega) (by omega), ?_⟩⟩
  · rw [a8] at e
    rw [cn2 e] at hQ
    exact hQ h hh frm_refl
  · rw [a8] at e
    have hd0 := cz2 e
    rw [hd0, Bool.false_or] at hQ
    rw [en]
    refine mapt_ok hh.hs _ _ (by omega) (fun r4 h4 => ⟨r4, rfl, hh.hs, mrof_ok mk hm hh pI p hp h7 (fun r7 h' g1 g2 hr7 => ⟨r7, rfl, g1.hs, fun e2 => ?_, fun e2 => ?_⟩)⟩)
    all_goals
      rw [g3, hl] at h4
      have hQ := hQ h' g1 g2
      have ea : apt (S 2 p) l = (if 0 ≤ (l : Int) - S 2 p then (l : Int) - S 2 p else -((l : Int) - S 2 p)) := by
        unfold apt
        split <;> split <;> omega
      unfold znr at hQ
      rw [← ea] at hQ
    · have e2 : r7.toInt < r4.toInt := of_decide_eq_true (cJ e2)
      rw [decide_eq_false (by omega)] at hQ
      exact hQ
    · have e2 : ¬ r7.toInt < r4.toInt := of_decide_eq_false (cJ e2)
      rw [decide_eq_true (by omega)] at hQ
      exact hQ
theorem mmr_go {dp : Nat} (mk : MOK S Y N) (lI : Int32) (l : Nat) (hl : lI.toInt = l) (l7 : l < 7) : ∀ (n c : Nat) (nI cI : Int32) (h : Hp), c + n = N → cI.toInt = c → nI.toInt = popn (zin S Y cs m K hd l) c → MST S Y cs m N K R hd one tol fo le h → HI h → (∀ (r : Int32) h', HI h' → frm WPi h h' → r.toInt = popn (zin S Y cs m K hd l) N → Q (some (.int r)) h') → Ends X (dp + 1 + 1 + 1 + 1 + 1) 144 4 [.ref 93, .int lI, .int nI, .int cI] [] h Q
  | n, c, nI, cI, h, hn, hc, hv, hm, hh, hQ => by
    obtain ⟨a1, a2, a3, a4, a5, a6, a7, a8, -⟩ := id hm
    have n7 := mk.2.2.2
    refine w_mmr1 lI nI cI hh.hs ⟨fun e => ?_, fun e => ?_⟩
    · have e : (h.2.1 93 0).toInt ≤ cI.toInt := of_decide_eq_true (cJ e)
      have : c = N := by omega
      subst this
      exact hQ nI h hh frm_refl hv
    have e : ¬ (h.2.1 93 0).toInt ≤ cI.toInt := of_decide_eq_false (cJ e)
    obtain ⟨n, rfl⟩ : ∃ k, n = k + 1 := ⟨n - 1, by omega⟩
    have n1 : (cI + 1).toInt = ((c + 1 : Nat) : Int) := by rw [i_add (by rw [i1]; omega) (by rw [i1]; omega), i1]; omega
    have pl : popn (zin S Y cs m K hd l) c ≤ c := by
      have : ∀ k, popn (zin S Y cs m K hd l) k ≤ k := fun k => by
        induction k with
        | zero => exact Nat.le_refl _
        | succ k ih =>
          have : (zin S Y cs m K hd l k).toNat ≤ 1 := by cases zin S Y cs m K hd l k <;> decide
          show popn (zin S Y cs m K hd l) k + (zin S Y cs m K hd l k).toNat ≤ _
          omega
      exact this c
    have pS : popn (zin S Y cs m K hd l) (c + 1) = popn (zin S Y cs m K hd l) c + (zin S Y cs m K hd l c).toNat := rfl
    have v0 : (nI + 0).toInt = nI.toInt := by rw [i_add (by rw [z0]; omega) (by rw [z0]; omega), z0]; omega
    have v1 : (nI + 1).toInt = nI.toInt + 1 := by rw [i_add (by rw [i1]; omega) (by rw [i1]; omega), i1]
    refine has_ok _ cI hh.hs ⟨_, rfl, hh.hs, fun e2 => ?_, fun e2 => ?_⟩
    · rw [bitB_s a5 hc (by omega)] at e2
      have e2 := cz e2
      refine mmr_go mk lI l hl l7 n (c + 1) _ _ h (by omega) n1 ?_ hm hh hQ
      rw [v0, hv, pS]
      unfold zin
      rw [e2, Bool.false_and]
      rfl
    · rw [bitB_s a5 hc (by omega)] at e2
      have e2 := cn e2
      refine mrea_ok mk hm hh cI lI c l hc (by omega) hl l7 (fun h6 g1 g2 => ⟨_, rfl, g1.hs, fun e3 => ?_, fun e3 => ?_⟩)
      · have e3 := cz e3
        refine mmr_go mk lI l hl l7 n (c + 1) _ _ h6 (by omega) n1 ?_ (hm.fr (WPi_X g2)) g1 (fun r h' b1 b2 b3 => hQ r h' b1 (frm_trans g2 b2) b3)
        rw [v0, hv, pS]
        unfold zin
        rw [e2, e3]
        rfl
      · have e3 := cn e3
        refine mmr_go mk lI l hl l7 n (c + 1) _ _ h6 (by omega) n1 ?_ (hm.fr (WPi_X g2)) g1 (fun r h' b1 b2 b3 => hQ r h' b1 (frm_trans g2 b2) b3)
        rw [v1, hv, pS]
        have : zin S Y cs m K hd l c = true := by
          unfold zin
          rw [e2, e3]
          rfl
        rw [this]
        show _ = ((popn (zin S Y cs m K hd l) c + 1 : Nat) : Int)
        omega
theorem zin_N (hm : MST S Y cs m N K R hd one tol fo le h) (l : Nat) : ∀ p, p < 7 → zin S Y cs m K hd l p = true → p < N := fun p h7 z => by
  obtain ⟨-, -, -, -, -, a6, -⟩ := hm
  unfold zin at z
  rw [Bool.and_eq_true] at z
  exact a6 p h7 z.1
theorem mmr_ok {dp : Nat} (mk : MOK S Y N) (hm : MST S Y cs m N K R hd one tol fo le h) (hh : HI h) (lI : Int32) (l : Nat) (hl : lI.toInt = l) (l7 : l < 7) (hQ : ∀ (r : Int32) h', HI h' → frm WPi h h' → r.toInt = pop (zin S Y cs m K hd l) → Q (some (.int r)) h') : Ends X (dp + 1 + 1 + 1 + 1 + 1) 144 0 [.ref 93, .int lI, .retAddr 0, .retAddr 0] [] h Q := by
  rw [← popn_N mk.2.2.2 (zin_N hm l)] at hQ
  exact w_mmr0 lI hh.hs (mmr_go mk lI l hl l7 N 0 0 0 h (by omega) rfl rfl hm hh hQ)
theorem mshw_go {dp : Nat} (mk : MOK S Y N) (hm : MST S Y cs m N K R hd one tol fo le h) (hh : HI h) (pI : Int32) (p : Nat) (hp : pI.toInt = p) (h7 : p < 7) (hQ : ∀ r : Int32, r.toInt = zshl S R p N → Q (some (.int r)) h) : ∀ (n o : Nat) (fI' oI : Int32), o + n = N → oI.toInt = o → fI'.toInt = (match zsh S R p o with | none => -1 | some g => (g : Int)) → Ends X (dp + 1 + 1) 145 4 [.ref 93, .int pI, .int fI', .int oI] [] h Q
  | n, o, fI', oI, hn, ho, hf => by
    obtain ⟨a1, a2, a3, a4, a5, a6, a7, a8, -⟩ := id hm
    have n7 := mk.2.2.2
    have en : pI.toNatClampNeg = p := by show pI.toInt.toNat = _; omega
    have fr : ∀ g, zsh S R p o = some g → g < o := fun g hg => zsh_lt hg
    have z0' : (0 : Int32).toInt = 0 := rfl
    refine w_mshw1 pI fI' oI hh.hs ⟨fun e => ⟨fun e2 => ?_, fun e2 => ⟨inB_iff (by omega) (by omega), ?_⟩⟩, fun e => ?_⟩
    · have e : (h.2.1 93 0).toInt ≤ oI.toInt := of_decide_eq_true (cJ e)
      have e2 : (0 : Int32).toInt ≤ fI'.toInt := of_decide_eq_true (cJ e2)
      have : o = N := by omega
      subst this
      unfold zshl at hQ
      cases z : zsh S R p o with
      | none => rw [z] at hf; simp only at hf; omega
      | some g =>
        rw [z] at hf hQ
        simp only at hf hQ
        have := fr g z
        refine ⟨inB_iff (by omega) (by omega), ?_⟩
        rw [show fI'.toNatClampNeg = g by show fI'.toInt.toNat = _; omega]
        exact hQ _ (a1.1 g (by omega)).2.2.1
    · have e : (h.2.1 93 0).toInt ≤ oI.toInt := of_decide_eq_true (cJ e)
      have e2 : ¬ (0 : Int32).toInt ≤ fI'.toInt := of_decide_eq_false (cJ e2)
      have : o = N := by omega
      subst this
      unfold zshl at hQ
      rw [en]
      cases z : zsh S R p o with
      | none =>
        rw [z] at hQ
        exact hQ _ (a1.1 p h7).2.2.1
      | some g => rw [z] at hf; simp only at hf; omega
    have e : ¬ (h.2.1 93 0).toInt ≤ oI.toInt := of_decide_eq_false (cJ e)
    obtain ⟨n, rfl⟩ : ∃ k, n = k + 1 := ⟨n - 1, by omega⟩
    have n1 : (oI + 1).toInt = ((o + 1 : Nat) : Int) := by rw [i_add (by rw [i1]; omega) (by rw [i1]; omega), i1]; omega
    have eo : oI.toNatClampNeg = o := by show oI.toInt.toNat = _; omega
    have keep : ((R o && !decide (o = p)) && zbt S (zsh S R p o) o) = false → Ends X (dp + 1 + 1) 145 4 [.ref 93, .int pI, .int fI', .int (oI + 1)] [] h Q := fun c => by
      have st : zsh S R p (o + 1) = zsh S R p o := by rw [zsh, if_neg (by rw [c]; exact Bool.false_ne_true)]
      exact mshw_go mk hm hh pI p hp h7 hQ n (o + 1) fI' (oI + 1) (by omega) n1 (by rw [st]; exact hf)
    have take : ((R o && !decide (o = p)) && zbt S (zsh S R p o) o) = true → Ends X (dp + 1 + 1) 145 4 [.ref 93, .int pI, .int oI, .int (oI + 1)] [] h Q := fun c => by
      have st : zsh S R p (o + 1) = some o := by rw [zsh, if_pos c]
      exact mshw_go mk hm hh pI p hp h7 hQ n (o + 1) oI (oI + 1) (by omega) n1 (by rw [st]; exact ho)
    refine ⟨fun c => ?_, fun c => ?_⟩
    · have c : oI.toInt = pI.toInt := of_decide_eq_true (cJ c)
      exact keep (by rw [decide_eq_true (by omega : o = p), Bool.not_true, Bool.and_false, Bool.false_and])
    have c : ¬ oI.toInt = pI.toInt := of_decide_eq_false (cJ c)
    have dp' : decide (o = p) = false := decide_eq_false (by omega)
    refine mrun_ok hm hh oI o ho (by omega) (by omega) ⟨_, rfl, hh.hs, fun e2 => ?_, fun e2 => ⟨fun e3 => ?_, fun e3 => ⟨inB_iff (by omega) (by omega), ?_⟩⟩⟩
    · exact keep (by rw [cz e2, Bool.false_and, Bool.false_and])
    · have e3 : fI'.toInt < (0 : Int32).toInt := of_decide_eq_true (cJ e3)
      refine take ?_
      rw [cn e2, dp']
      cases z : zsh S R p o with
      | none => rfl
      | some g => rw [z] at hf; simp only at hf; omega
    · have e3 : ¬ fI'.toInt < (0 : Int32).toInt := of_decide_eq_false (cJ e3)
      cases z : zsh S R p o with
      | none => rw [z] at hf; simp only at hf; omega
      | some g =>
        rw [z] at hf
        simp only at hf
        have := fr g z
        have eg : fI'.toNatClampNeg = g := by show fI'.toInt.toNat = _; omega
        have v1 := (a1.1 o (by omega)).2.2.2.2
        have v2 := (a1.1 g (by omega)).2.2.2.2
        refine ⟨inB_iff (by omega) (by omega), ?_⟩
        rw [eo, eg]
        refine ⟨fun e4 => ?_, fun e4 => ?_⟩
        · have e4 : (h.2.1 98 o).toInt ≤ (h.2.1 98 g).toInt := of_decide_eq_true (cJ e4)
          refine keep ?_
          rw [z, show zbt S (some g) o = decide (S 4 g < S 4 o) from rfl, decide_eq_false (by omega : ¬ S 4 g < S 4 o), Bool.and_false]
        · have e4 : ¬ (h.2.1 98 o).toInt ≤ (h.2.1 98 g).toInt := of_decide_eq_false (cJ e4)
          refine take ?_
          rw [z, cn e2, dp', show zbt S (some g) o = decide (S 4 g < S 4 o) from rfl, decide_eq_true (by omega : S 4 g < S 4 o)]
          rfl
theorem mR_N (hm : MST S Y cs m N K R hd one tol fo le h) : ∀ p, p < 7 → R p = true → p < N := fun p h7 z => by
  obtain ⟨-, -, -, -, -, -, ⟨G, -, c2⟩, -⟩ := hm
  have := c2 p h7
  rw [z, Bool.and_eq_true] at this
  exact of_decide_eq_true this.1
theorem mshw_ok {dp : Nat} (mk : MOK S Y N) (hm : MST S Y cs m N K R hd one tol fo le h) (hh : HI h) (pI : Int32) (p : Nat) (hp : pI.toInt = p) (h7 : p < 7) (hQ : ∀ r : Int32, r.toInt = zshl S R p 7 → Q (some (.int r)) h) : Ends X (dp + 1 + 1) 145 0 [.ref 93, .int pI, .retAddr 0, .retAddr 0] [] h Q := by
  rw [← zshl_N mk.2.2.2 (mR_N hm)] at hQ
  exact w_mshw0 pI hh.hs (mshw_go mk hm hh pI p hp h7 hQ N 0 (-1) 0 (by omega) rfl rfl)
theorem mskw_go {dp : Nat} (mk : MOK S Y N) (pI : Int32) (p : Nat) (hp : pI.toInt = p) (h7 : p < 7) : ∀ (n l : Nat) (fI' wI lI : Int32) (x : Value) (h : Hp), l + n = 7 → lI.toInt = l → fI'.toInt = (zsk (fun l => pop (zin S Y cs m K hd l)) (S 2 p) l).1 → wI.toInt = (zsk (fun l => pop (zin S Y cs m K hd l)) (S 2 p) l).2 → MST S Y cs m N K R hd one tol fo le h → HI h → (∀ (r : Int32) h', HI h' → frm WPi h h' → r.toInt = (zsk (fun l => pop (zin S Y cs m K hd l)) (S 2 p) 7).1 → Q (some (.int r)) h') → Ends X (dp + 1 + 1 + 1 + 1 + 1 + 1) 146 8 [.ref 93, .int pI, .int fI', .int wI, .int lI, x] [] h Q
  | n, l, fI', wI, lI, x, h, hn, hl, hf, hw, hm, hh, hQ => by
    have j7 : (7 : Int32).toInt = 7 := rfl
    have ip : inB pI 7 = true := inB_iff (by omega) (by omega)
    have en : pI.toNatClampNeg = p := by show pI.toInt.toNat = _; omega
    refine w_mskw1 pI fI' wI lI x hh.hs ⟨fun e => ?_, fun e => ?_⟩
    · have e : (7 : Int32).toInt ≤ lI.toInt := of_decide_eq_true (cJ e)
      have : l = 7 := by omega
      subst this
      exact hQ fI' h hh frm_refl hf
    have e : ¬ (7 : Int32).toInt ≤ lI.toInt := of_decide_eq_false (cJ e)
    obtain ⟨n, rfl⟩ : ∃ k, n = k + 1 := ⟨n - 1, by omega⟩
    have n1 : (lI + 1).toInt = ((l + 1 : Nat) : Int) := by rw [i_add (by rw [i1]; omega) (by rw [i1]; omega), i1]; omega
    have zb := zsk_b (fun l => pop (zin S Y cs m K hd l)) (fun l => pop_le _) (S 2 p) l
    have s2 := (mk.1 p h7).2.2.1
    refine mmr_ok mk hm hh lI l hl (by omega) (fun r3 h2 g2 f2 h3 => ⟨r3, rfl, g2.hs, ?_⟩)
    have hm2 := hm.fr (WPi_X f2)
    have la := (hm2.1.1 p h7).2.2.1
    have keep : ((zsk (fun l => pop (zin S Y cs m K hd l)) (S 2 p) l).2 < pop (zin S Y cs m K hd l) ∨ (pop (zin S Y cs m K hd l) = (zsk (fun l => pop (zin S Y cs m K hd l)) (S 2 p) l).2 ∧ apt (zsk (fun l => pop (zin S Y cs m K hd l)) (S 2 p) l).1 (S 2 p) ≤ apt l (S 2 p))) → Ends X (dp + 1 + 1 + 1 + 1 + 1 + 1) 146 8 [.ref 93, .int pI, .int fI', .int wI, .int (lI + 1), .int r3] [] h2 Q := fun c => by
      have st : zsk (fun l => pop (zin S Y cs m K hd l)) (S 2 p) (l + 1) = zsk (fun l => pop (zin S Y cs m K hd l)) (S 2 p) l := by rw [zsk, if_pos c]
      exact mskw_go mk pI p hp h7 n (l + 1) fI' wI (lI + 1) _ h2 (by omega) n1 (by rw [st]; exact hf) (by rw [st]; exact hw) hm2 g2 (fun r h' b1 b2 b3 => hQ r h' b1 (frm_trans f2 b2) b3)
    have take : ¬ ((zsk (fun l => pop (zin S Y cs m K hd l)) (S 2 p) l).2 < pop (zin S Y cs m K hd l) ∨ (pop (zin S Y cs m K hd l) = (zsk (fun l => pop (zin S Y cs m K hd l)) (S 2 p) l).2 ∧ apt (zsk (fun l => pop (zin S Y cs m K hd l)) (S 2 p) l).1 (S 2 p) ≤ apt l (S 2 p))) → Ends X (dp + 1 + 1 + 1 + 1 + 1 + 1) 146 8 [.ref 93, .int pI, .int lI, .int r3, .int (lI + 1), .int r3] [] h2 Q := fun c => by
      have st : zsk (fun l => pop (zin S Y cs m K hd l)) (S 2 p) (l + 1) = (l, pop (zin S Y cs m K hd l)) := by rw [zsk, if_neg c]
      exact mskw_go mk pI p hp h7 n (l + 1) lI r3 (lI + 1) _ h2 (by omega) n1 (by rw [st]; exact hl) (by rw [st]; exact h3) hm2 g2 (fun r h' b1 b2 b3 => hQ r h' b1 (frm_trans f2 b2) b3)
    generalize zsk (fun l => pop (zin S Y cs m K hd l)) (S 2 p) l = zk at hf hw zb keep take
    refine ⟨fun c => keep (Or.inl ?_), fun c => ⟨fun c2 => take ?_, fun c2 => ⟨ip, ?_⟩⟩⟩
    · have c : wI.toInt < r3.toInt := of_decide_eq_true (cJ c)
      omega
    · have c : ¬ wI.toInt < r3.toInt := of_decide_eq_false (cJ c)
      have c2 : ¬ r3.toInt = wI.toInt := of_decide_eq_true (cJ c2)
      omega
    · have c2 : ¬ ¬ r3.toInt = wI.toInt := of_decide_eq_false (cJ c2)
      rw [en]
      refine mapt_ok g2.hs _ _ (by omega) (fun r9 h9 => ⟨r9, rfl, g2.hs, ip, ?_⟩)
      refine mapt_ok g2.hs _ _ (by omega) (fun r13 h13 => ⟨r13, rfl, g2.hs, fun c3 => take ?_, fun c3 => keep (Or.inr ?_)⟩)
      all_goals rw [la, hl] at h9; rw [la, hf] at h13
      · have c3 : r9.toInt < r13.toInt := of_decide_eq_true (cJ c3)
        omega
      · have c3 : ¬ r9.toInt < r13.toInt := of_decide_eq_false (cJ c3)
        omega
theorem mskw_ok {dp : Nat} (mk : MOK S Y N) (hm : MST S Y cs m N K R hd one tol fo le h) (hh : HI h) (pI : Int32) (p : Nat) (hp : pI.toInt = p) (h7 : p < 7) (hQ : ∀ (r : Int32) h', HI h' → frm WPi h h' → r.toInt = (zsk (fun l => pop (zin S Y cs m K hd l)) (S 2 p) 7).1 → Q (some (.int r)) h') : Ends X (dp + 1 + 1 + 1 + 1 + 1 + 1) 146 0 [.ref 93, .int pI, .retAddr 0, .retAddr 0, .retAddr 0, .retAddr 0] [] h Q :=
  w_mskw0 pI hh.hs (mskw_go mk pI p hp h7 7 0 0 99 0 _ h (by decide) rfl rfl rfl hm hh hQ)
/-- the reference's ways -/
def mW (S : Nat → Nat → Int) (Y : Int) (cs : List Cl) (m : List Int) (K R : Nat → Bool) (hd : Bool) (one tol : Int) : Nat → Int := zsnt (zway S Y R (fun l => pop (zin S Y cs m K hd l))) one tol
theorem mW_b {S : Nat → Nat → Int} {Y : Int} {cs : List Cl} {m : List Int} {K R : Nat → Bool} {hd : Bool} {one tol : Int} (hsr : SRG S) (h5 : SR5 S) (ht : 0 ≤ tol ∧ tol ≤ 6) {x : Nat} (h7 : x < 7) : 0 ≤ mW S Y cs m K R hd one tol x ∧ mW S Y cs m K R hd one tol x ≤ 6 := by
  unfold mW zsnt
  split
  · exact ht
  · exact zway_b hsr h5 (fun l => pop_le _) h7
theorem mway_ok {dp : Nat} (mk : MOK S Y N) (hm : MST S Y cs m N K R hd one tol fo le h) (hh : HI h) (pI : Int32) (p : Nat) (hp : pI.toInt = p) (h7 : p < 7) (hQ : ∀ (r : Int32) h', HI h' → frm WPi h h' → r.toInt = mW S Y cs m K R hd one tol p → Q (some (.int r)) h') : Ends X (dp + 1 + 1 + 1 + 1 + 1 + 1 + 1) 147 0 [.ref 93, .int pI] [] h Q := by
  have ip : inB pI 7 = true := inB_iff (by omega) (by omega)
  have en : pI.toNatClampNeg = p := by show pI.toInt.toNat = _; omega
  obtain ⟨a1, a2, a3, a4, a5, a6, a7, a8, a9, a10, -⟩ := id hm
  obtain ⟨g1, g2, g3, g4, g5⟩ := a1.1 p h7
  have sr := mk.1 p h7
  have j4 : (4 : Int32).toInt = 4 := rfl
  unfold mW zsnt zway at hQ
  refine w_mway pI hh.hs ⟨fun e => ⟨ip, ?_⟩, fun e => ?_⟩
  · have e : ¬ pI.toInt = (h.2.1 93 28).toInt := of_decide_eq_true (cJ e)
    rw [if_neg (by omega)] at hQ
    have hq := fun r hr => hQ r h hh frm_refl hr
    rw [en, g1]
    refine ⟨fun c => ⟨ip, ?_⟩, fun c => ⟨ip, fun d => ?_, fun d => ?_⟩, fun c => ?_, fun c => ⟨ip, ?_⟩, fun c => ⟨ip, fun d => ?_, fun d => ?_⟩, fun c => ?_, fun c => ?_⟩
    · rw [if_neg (by omega), if_neg (by omega), if_neg (by omega), if_neg (by omega)] at hq
      exact hq _ g3
    · have d : (4 : Int32).toInt ≤ (h.2.1 96 p).toInt := of_decide_eq_true (cJ d)
      rw [if_pos (Or.inl c), if_neg (by omega)] at hq
      exact hq 6 rfl
    · have d : ¬ (4 : Int32).toInt ≤ (h.2.1 96 p).toInt := of_decide_eq_false (cJ d)
      rw [if_pos (Or.inl c), if_pos (by omega)] at hq
      exact hq 0 rfl
    · rw [if_neg (by omega), if_pos c] at hq
      exact mshw_ok mk hm hh pI p hp h7 (fun r hr => ⟨r, rfl, hh.hs, hq r hr⟩)
    · rw [if_neg (by omega), if_neg (by omega), if_neg (by omega), if_neg (by omega)] at hq
      exact hq _ g3
    · have d : (4 : Int32).toInt ≤ (h.2.1 96 p).toInt := of_decide_eq_true (cJ d)
      rw [if_pos (Or.inr c), if_neg (by omega)] at hq
      exact hq 6 rfl
    · have d : ¬ (4 : Int32).toInt ≤ (h.2.1 96 p).toInt := of_decide_eq_false (cJ d)
      rw [if_pos (Or.inr c), if_pos (by omega)] at hq
      exact hq 0 rfl
    · rw [if_neg (by omega), if_neg (by omega), if_pos c] at hQ
      exact mskw_ok mk hm hh pI p hp h7 (fun r h' b1 b2 b3 => ⟨r, rfl, b1.hs, hQ r h' b1 b2 b3⟩)
    · rw [if_neg (by omega), if_neg (by omega), if_neg (by omega), if_pos c] at hq
      have y := a1.2.2
      have y0 := mk.2.2.1
      have yb := i32r (h.2.1 93 1)
      simp only [fI] at yb
      have q1 : (h.2.1 93 1 / 4).toInt = Y / 4 := by rw [i_dv (by omega) (by decide), y, j4]
      have q2 : (h.2.1 93 1 / 4 * 4).toInt = Y / 4 * 4 := by rw [i_mul (by rw [q1, j4]; omega) (by rw [q1, j4]; omega), q1, j4]
      have q3 : (h.2.1 93 1 - h.2.1 93 1 / 4 * 4).toInt = Y % 4 := by rw [i_sub (by omega) (by omega), q2, y]; omega
      have m4 : (4 * pI).toInt = 4 * (p : Int) := by rw [i_mul (by rw [j4]; omega) (by rw [j4]; omega), j4, hp]
      have v : (4 * pI + (h.2.1 93 1 - h.2.1 93 1 / 4 * 4)).toInt = 4 * (p : Int) + Y % 4 := by rw [i_add (by omega) (by omega), m4, q3]
      generalize 4 * pI + (h.2.1 93 1 - h.2.1 93 1 / 4 * 4) = x at v
      refine ⟨inB_iff (by omega) (by omega), hq _ ?_⟩
      rw [show x.toNatClampNeg = 4 * p + (Y % 4).toNat by show x.toInt.toNat = _; omega]
      exact a1.2.1 _ (by omega)
  · have e : ¬ ¬ pI.toInt = (h.2.1 93 28).toInt := of_decide_eq_false (cJ e)
    rw [if_pos (by omega)] at hQ
    exact hQ _ h hh frm_refl a10
theorem mslp_ok {dp : Nat} (mk : MOK S Y N) (hm : MST S Y cs m N K R hd one tol fo le h) (hh : HI h) (pI : Int32) (p : Nat) (hp : pI.toInt = p) (h7 : p < 7) (hQ : ∀ (r : Int32) h', HI h' → frm WPi h h' → r.toInt = zslip S Y cs m (mW S Y cs m K R hd one tol) p → Q (some (.int r)) h') : Ends X (dp + 1 + 1 + 1 + 1 + 1 + 1 + 1 + 1) 148 0 [.ref 93, .int pI] [] h Q := by
  have ip : inB pI 7 = true := inB_iff (by omega) (by omega)
  have en : pI.toNatClampNeg = p := by show pI.toInt.toNat = _; omega
  obtain ⟨a1, a2, a3, -⟩ := id hm
  obtain ⟨g1, g2, g3, g4, g5⟩ := a1.1 p h7
  have sr := mk.1 p h7
  have j4 : (4 : Int32).toInt = 4 := rfl
  have j2 : (2 : Int32).toInt = 2 := rfl
  refine w_mslp pI hh.hs ⟨ip, ip, mway_ok mk hm hh pI p hp h7 (fun r4 h3 b1 b2 b3 => ⟨r4, rfl, b1.hs, ?_⟩)⟩
  have hm3 := hm.fr (WPi_X b2)
  obtain ⟨k1, k2, k3, k4, k5⟩ := hm3.1.1 p h7
  refine sum_ok _ _ _ _ (by omega) (by omega) b1 hm3.2.2.1 (fun h6 c1 c2 => ⟨_, rfl, c1.hs, ip, ?_⟩)
  have f6 := frm_trans b2 c2
  have v := sumM_z (zI := 0) (wI := 2) (lI := r4) hm3.1 mk.2.2.1 hm3.2.1 hp h7
  rw [b3, j2] at v
  have bz := a2.1.b (zfc S Y p (mW S Y cs m K R hd one tol p)) 2
  have v2 : (sumM h3 2 pI r4 0).toInt = zsum m (zfc S Y p (mW S Y cs m K R hd one tol p)) 2 cs := by
    rw [v]
    split
    · rfl
    · rename_i c
      rw [zsum_no (by cases z : zhas 2 cs with | false => rfl | true => exact absurd z c)]
      rfl
  rw [en, frI c2 (a := 94) rfl, frI c2 (a := 95) rfl]
  have s1 : (h.2.1 98 p + h.2.1 97 p).toInt = S 4 p + S 3 p := by rw [i_add (by omega) (by omega), g5, g4]
  have s2 : ((h.2.1 98 p + h.2.1 97 p) + sumM h3 2 pI r4 0).toInt = S 4 p + S 3 p + zsum m (zfc S Y p (mW S Y cs m K R hd one tol p)) 2 cs := by rw [i_add (by omega) (by omega), s1, v2]
  refine ⟨fun e => ?_, fun e => ⟨ip, ?_⟩⟩
  · have e : ¬ (h3.2.1 94 p).toInt = (4 : Int32).toInt := of_decide_eq_true (cJ e)
    refine hQ _ h6 c1 f6 ?_
    unfold zslip
    rw [if_neg (by omega), i_add (by rw [z0]; omega) (by rw [z0]; omega), s2, z0]
  · have e : ¬ ¬ (h3.2.1 94 p).toInt = (4 : Int32).toInt := of_decide_eq_false (cJ e)
    refine hQ _ h6 c1 f6 ?_
    unfold zslip
    rw [if_pos (by omega), i_add (by omega) (by omega), s2, k2]
theorem mhb_go {dp : Nat} (mk : MOK S Y N) (tI : Int32) (f : Nat → Bool) (ht : BSET tI f) : ∀ (n c : Nat) (sI cI : Int32) (h : Hp), c + n = N → cI.toInt = c → sI.toInt = zheld (zhold S Y cs m) f c → MST S Y cs m N K R hd one tol fo le h → HI h → (∀ (r : Int32) h', HI h' → frm WPi h h' → r.toInt = zheld (zhold S Y cs m) f N → Q (some (.int r)) h') → Ends X (dp + 1 + 1 + 1 + 1) 155 4 [.ref 93, .int tI, .int sI, .int cI] [] h Q
  | n, c, sI, cI, h, hn, hc, hs, hm, hh, hQ => by
    obtain ⟨a1, a2, a3, a4, -⟩ := id hm
    have n7 := mk.2.2.2
    refine w_mhb1 tI sI cI hh.hs ⟨fun e => ?_, fun e => ?_⟩
    · have e : (h.2.1 93 0).toInt ≤ cI.toInt := of_decide_eq_true (cJ e)
      have : c = N := by omega
      subst this
      exact hQ sI h hh frm_refl hs
    have e : ¬ (h.2.1 93 0).toInt ≤ cI.toInt := of_decide_eq_false (cJ e)
    obtain ⟨n, rfl⟩ : ∃ k, n = k + 1 := ⟨n - 1, by omega⟩
    have n1 : (cI + 1).toInt = ((c + 1 : Nat) : Int) := by rw [i_add (by rw [i1]; omega) (by rw [i1]; omega), i1]; omega
    have b := zheld_b (H := zhold S Y cs m) (f := f) (fun x hx _ => zhold_b (Y := Y) (cs := cs) (m := m) mk.1 a2.1 hx) c (by omega)
    have zS : zheld (zhold S Y cs m) f (c + 1) = zheld (zhold S Y cs m) f c + (if f c = true then zhold S Y cs m c else 0) := rfl
    refine has_ok tI cI hh.hs ⟨_, rfl, hh.hs, fun e2 => ?_, fun e2 => ?_⟩
    · rw [bitB_s ht hc (by omega)] at e2
      have e2 := cz e2
      refine mhb_go mk tI f ht n (c + 1) _ _ h (by omega) n1 ?_ hm hh hQ
      rw [zS, if_neg (by rw [e2]; exact Bool.false_ne_true), i_add (by rw [z0]; omega) (by rw [z0]; omega), z0, hs]
    · rw [bitB_s ht hc (by omega)] at e2
      have e2 := cn e2
      have zc := zhold_b (Y := Y) (cs := cs) (m := m) mk.1 a2.1 (x := c) (by omega)
      refine mhof_ok mk hm hh cI c hc (by omega) (fun r7 h6 b1 b2 b3 => ⟨r7, rfl, b1.hs, ?_⟩)
      refine mhb_go mk tI f ht n (c + 1) _ _ h6 (by omega) n1 ?_ (hm.fr (WPi_X b2)) b1 (fun r h' d1 d2 d3 => hQ r h' d1 (frm_trans b2 d2) d3)
      rw [zS, if_pos e2, i_add (by omega) (by omega), hs, b3]
theorem mhb_ok {dp : Nat} (mk : MOK S Y N) (hm : MST S Y cs m N K R hd one tol fo le h) (hh : HI h) (tI : Int32) (f : Nat → Bool) (ht : BSET tI f) (hf : ∀ p, p < 7 → f p = true → p < N) (hQ : ∀ (r : Int32) h', HI h' → frm WPi h h' → r.toInt = zheld (zhold S Y cs m) f 7 → Q (some (.int r)) h') : Ends X (dp + 1 + 1 + 1 + 1) 155 0 [.ref 93, .int tI, .retAddr 0, .retAddr 0] [] h Q := by
  rw [← zheld_N mk.2.2.2 hf] at hQ
  exact w_mhb0 tI hh.hs (mhb_go mk tI f ht N 0 0 0 h (by omega) rfl rfl hm hh hQ)
theorem bor0 {b : Int32} {f : Nat → Bool} (hb : BSET b f) : BSET (b ||| 0) f := (hb.or BSET.zero).cg (fun p _ => by rw [Bool.or_false])
theorem mmt_go {dp : Nat} (mk : MOK S Y N) (lI bI : Int32) (l : Nat) (b : Nat → Bool) (hl : lI.toInt = l) (l7 : l < 7) (hb : BSET bI b) : ∀ (n c : Nat) (sI cI : Int32) (h : Hp), c + n = N → cI.toInt = c → BSET sI (fun x => decide (x < c) && (zin S Y cs m K hd l x && !b x)) → MST S Y cs m N K R hd one tol fo le h → HI h → (∀ (r : Int32) h', HI h' → frm WPi h h' → BSET r (fun x => decide (x < N) && (zin S Y cs m K hd l x && !b x)) → Q (some (.int r)) h') → Ends X (dp + 1 + 1 + 1 + 1 + 1) 156 5 [.ref 93, .int lI, .int bI, .int sI, .int cI] [] h Q
  | n, c, sI, cI, h, hn, hc, hs, hm, hh, hQ => by
    obtain ⟨a1, a2, a3, a4, a5, -⟩ := id hm
    have n7 := mk.2.2.2
    refine w_mmt1 lI bI sI cI hh.hs ⟨fun e => ?_, fun e => ?_⟩
    · have e : (h.2.1 93 0).toInt ≤ cI.toInt := of_decide_eq_true (cJ e)
      have : c = N := by omega
      subst this
      exact hQ sI h hh frm_refl hs
    have e : ¬ (h.2.1 93 0).toInt ≤ cI.toInt := of_decide_eq_false (cJ e)
    obtain ⟨n, rfl⟩ : ∃ k, n = k + 1 := ⟨n - 1, by omega⟩
    have n1 : (cI + 1).toInt = ((c + 1 : Nat) : Int) := by rw [i_add (by rw [i1]; omega) (by rw [i1]; omega), i1]; omega
    have keep : ∀ h', MST S Y cs m N K R hd one tol fo le h' → HI h' → frm WPi h h' → (zin S Y cs m K hd l c && !b c) = false → Ends X (dp + 1 + 1 + 1 + 1 + 1) 156 5 [.ref 93, .int lI, .int bI, .int (sI ||| 0), .int (cI + 1)] [] h' Q := fun h' k1 k2 k3 k4 => by
      refine mmt_go mk lI bI l b hl l7 hb n (c + 1) _ _ h' (by omega) n1 ((bor0 hs).cg (fun x _ => ?_)) k1 k2 (fun r h'' d1 d2 d3 => hQ r h'' d1 (frm_trans k3 d2) d3)
      by_cases d : x = c
      · subst d
        rw [k4, Bool.and_false, Bool.and_false]
      · rw [show decide (x < c + 1) = decide (x < c) from decide_eq_decide.mpr (by omega)]
    refine has_ok _ cI hh.hs ⟨_, rfl, hh.hs, fun e2 => ?_, fun e2 => ?_⟩
    · rw [bitB_s a5 hc (by omega)] at e2
      have e2 := cz e2
      exact keep h hm hh frm_refl (by unfold zin; rw [e2, Bool.false_and, Bool.false_and])
    · rw [bitB_s a5 hc (by omega)] at e2
      have e2 := cn e2
      refine has_ok bI cI hh.hs ⟨_, rfl, hh.hs, fun e3 => ?_, fun e3 => ?_⟩
      · rw [bitB_s hb hc (by omega)] at e3
        have e3 := cn2 e3
        exact keep h hm hh frm_refl (by rw [e3, Bool.not_true, Bool.and_false])
      · rw [bitB_s hb hc (by omega)] at e3
        have e3 := cz2 e3
        refine mrea_ok mk hm hh cI lI c l hc (by omega) hl l7 (fun h10 g1 g2 => ⟨_, rfl, g1.hs, fun e4 => ?_, fun e4 => ?_⟩)
        · have e4 := cz e4
          exact keep h10 (hm.fr (WPi_X g2)) g1 g2 (by unfold zin; rw [e4, Bool.and_false, Bool.false_and])
        · have e4 := cn e4
          refine mmt_go mk lI bI l b hl l7 hb n (c + 1) _ _ h10 (by omega) n1 ((hs.or (BSET.one hc (by omega))).cg (fun x _ => ?_)) (hm.fr (WPi_X g2)) g1 (fun r h'' d1 d2 d3 => hQ r h'' d1 (frm_trans g2 d2) d3)
          by_cases d : x = c
          · subst d
            rw [decide_eq_true (rfl : x = x), Bool.or_true, decide_eq_true (Nat.lt_succ_self x)]
            unfold zin
            rw [e2, e3, e4]
            rfl
          · rw [decide_eq_false d, Bool.or_false, show decide (x < c + 1) = decide (x < c) from decide_eq_decide.mpr (by omega)]
theorem mmt_ok {dp : Nat} (mk : MOK S Y N) (hm : MST S Y cs m N K R hd one tol fo le h) (hh : HI h) (lI bI : Int32) (w : Int) (b : Nat → Bool) (hl : lI.toInt = w) (w0 : 0 ≤ w) (w6 : w ≤ 6) (hb : BSET bI b) (hQ : ∀ (r : Int32) h', HI h' → frm WPi h h' → BSET r (zmeet (zin S Y cs m K hd) b w) → Q (some (.int r)) h') : Ends X (dp + 1 + 1 + 1 + 1 + 1) 156 0 [.ref 93, .int lI, .int bI, .retAddr 0, .retAddr 0] [] h Q := by
  refine w_mmt0 lI bI hh.hs (mmt_go mk lI bI w.toNat b (by omega) (by omega) hb N 0 0 0 h (by omega) rfl (BSET.zero.cg (fun x _ => by rw [decide_eq_false (Nat.not_lt_zero x), Bool.false_and])) hm hh (fun r h' d1 d2 d3 => hQ r h' d1 d2 (d3.cg (fun x hx => ?_))))
  unfold zmeet
  cases z : zin S Y cs m K hd w.toNat x with
  | false => rw [Bool.false_and, Bool.and_false]
  | true => rw [decide_eq_true (zin_N hm _ x hx z), Bool.true_and]
end MCR
end JN99ty2mcross
section JN99ty3mshout
/-! The reference's order is the one told; its shout. -/
theorem tw_cg {f g : Int32 → Bool} : ∀ {l : List Int32}, (∀ a, a ∈ l → f a = g a) → l.takeWhile f = l.takeWhile g
  | [], _ => rfl
  | a :: l, h => by
    have i := tw_cg (f := f) (g := g) (l := l) (fun x hx => h x (List.mem_cons_of_mem _ hx))
    rw [List.takeWhile_cons, List.takeWhile_cons, h a (List.mem_cons_self ..), i]
theorem wait_z {h : Hp} {S : Nat → Nat → Int} {Y : Int} (hg : MG h S Y) {a : Int32} {x : Nat} (ha : a.toInt = x) (h7 : x < 7) : waitM h a = decide (S 0 x = 3 ∨ S 0 x = 6) := by
  have en : a.toNatClampNeg = x := by show a.toInt.toNat = _; omega
  unfold waitM
  rw [en, (hg.1 x h7).1, Bool.decide_or]
theorem ahead_z {h : Hp} {S : Nat → Nat → Int} {Y : Int} (hg : MG h S Y) (hsr : SRG S) {a b : Int32} {x y : Nat} (ha : a.toInt = x) (hb : b.toInt = y) (y7 : y < 7) (hxy : x < y) : aheadM h a b = decide (zhst S y ≤ zhst S x) := by
  have ea : a.toNatClampNeg = x := by show a.toInt.toNat = _; omega
  have eb : b.toNatClampNeg = y := by show b.toInt.toNat = _; omega
  have gx := (hg.1 x (by omega)).2.2.2.1
  have gy := (hg.1 y y7).2.2.2.1
  have sx := (hsr x (by omega)).2.2.2.1
  have sy := (hsr y y7).2.2.2.1
  unfold aheadM
  rw [wait_z hg ha (by omega), wait_z hg hb y7, ea, eb, gx, gy]
  unfold zhst
  have ab : decide (a.toInt < b.toInt) = true := decide_eq_true (by omega)
  rw [ab, Bool.and_true]
  by_cases c : S 0 x = 3 ∨ S 0 x = 6
  · by_cases d : S 0 y = 3 ∨ S 0 y = 6
    · rw [decide_eq_true c, decide_eq_true d, if_pos rfl, if_pos c, if_pos d, ← Bool.decide_or]
      exact decide_eq_decide.mpr (by omega)
    · rw [decide_eq_true c, decide_eq_false d, if_neg (by decide), if_pos c, if_neg d, decide_eq_false (by omega)]
  · by_cases d : S 0 y = 3 ∨ S 0 y = 6
    · rw [decide_eq_false c, decide_eq_true d, if_neg (by decide), if_neg c, if_pos d, decide_eq_true (by omega)]
    · rw [decide_eq_false c, decide_eq_false d, if_pos rfl, if_neg c, if_neg d, ← Bool.decide_or]
      exact decide_eq_decide.mpr (by omega)
theorem zlay_ext {H : Nat → Int} {R : Nat → Bool} {fo : Int} {N : Nat} (hR : ∀ p, p < 7 → R p = true → p < N) : ∀ k, N + k ≤ 7 → zlay H R fo (N + k) = zlay H R fo N
  | 0, _ => rfl
  | k + 1, h => by
    have i := zlay_ext (H := H) (fo := fo) hR k (by omega)
    show zst H R fo (zlay H R fo (N + k)) (N + k) = _
    unfold zst
    rw [if_neg, i]
    intro z
    rw [Bool.and_eq_true] at z
    have := hR (N + k) (by omega) z.1
    omega
section MLAY
variable {X : Scr} {Q : Option Value → Hp → Prop} {S : Nat → Nat → Int} {Y : Int} {cs : List Cl} {m : List Int} {N : Nat} {K R : Nat → Bool} {hd : Bool} {one tol fo le : Int} {h : Hp}
theorem runM_z (hm : MST S Y cs m N K R hd one tol fo le h) {pI : Int32} {p : Nat} (hp : pI.toInt = p) (h7 : p < 7) (hN : p < N) : runM h pI = R p := by
  obtain ⟨-, -, -, -, a5, -, ⟨G, c1, c2⟩, -⟩ := hm
  unfold runM
  rw [bitB_s (a5.or c1) hp h7]
  have := c2 p h7
  rw [decide_eq_true hN, Bool.true_and] at this
  exact this
theorem layL_z (mk : MOK S Y N) (hm : MST S Y cs m N K R hd one tol fo le h) : ∀ n, n ≤ N → layL h n = zlay (zhst S) R fo n
  | 0, _ => rfl
  | n + 1, hn => by
    have i := layL_z mk hm n (by omega)
    have n7 := mk.2.2.2
    obtain ⟨a1, a2, a3, a4, a5, a6, a7, a8, a9, a10, a11, a12⟩ := id hm
    have en := i32n (n := n) (by omega)
    show stepL h (layL h n) (Int32.ofNat n) = zst (zhst S) R fo (zlay (zhst S) R fo n) n
    rw [i]
    unfold stepL zst
    have pe : posL h (zlay (zhst S) R fo n) (Int32.ofNat n) = zpos (zhst S) (zlay (zhst S) R fo n) n := by
      unfold posL zpos
      rw [tw_cg]
      intro a ha
      obtain ⟨x, x1, x2, -⟩ := (zmem (zhst S) R fo n (by omega) a).mp ha
      have ax : a.toInt = x := by rw [x2, i32n (by omega)]
      rw [ahead_z a1 mk.1 ax en (by omega) x1, ax]
      rfl
    rw [pe, runM_z hm en (by omega) (by omega), en, a11]
theorem fol_z (mk : MOK S Y N) (hm : MST S Y cs m N K R hd one tol fo le h) (hfo : FOK fo le N R) : FOL h := by
  obtain ⟨a1, a2, a3, a4, a5, a6, a7, a8, a9, a10, a11, a12⟩ := id hm
  have n7 := mk.2.2.2
  intro z
  rw [a11] at z
  have f := hfo.resolve_left (by omega)
  have l := a12 z
  rw [a11, a4, l]
  refine ⟨f.2.1, f.2.2.1, f.2.2.2.1, ?_, fun q => f.2.2.2.2.1 q.symm⟩
  rw [runM_z hm (p := le.toNat) (by omega) (by omega) (by omega)]
  exact f.2.2.2.2.2.2
theorem layM_z (mk : MOK S Y N) (hm : MST S Y cs m N K R hd one tol fo le h) (hfo : FOK fo le N R) : layM h = zord (zhst S) R fo le := by
  obtain ⟨a1, a2, a3, a4, a5, a6, a7, a8, a9, a10, a11, a12⟩ := id hm
  have n7 := mk.2.2.2
  have e7 : zlay (zhst S) R fo N = zlay (zhst S) R fo 7 := by
    rw [← zlay_ext (mR_N hm) (7 - N) (by omega), show N + (7 - N) = 7 by omega]
  unfold layM zord
  rw [a11, show (h.2.1 93 0).toInt.toNat = N by omega, layL_z mk hm N (Nat.le_refl _), e7]
  by_cases c : 0 ≤ fo
  · rw [if_pos c, if_pos c, ofn (x := h.2.1 93 30) (n := fo.toNat) (by omega)]
    unfold idxL zidx
    rw [a12 c]
  · rw [if_neg c, if_neg c]
/-- the first who is caught -/
def zfs (Z : Nat → Nat → Bool) (H W SL : Nat → Int) : List Int32 → (Nat → Bool) → Int → Int
  | [], _, f => f
  | a :: l, b, f => if SL a.toInt.toNat < zheld H (zmeet Z b (W a.toInt.toNat)) 7 then zfs Z H W SL l (fun x => b x || zmeet Z b (W a.toInt.toNat) x) (if f = -5 then a.toInt else f) else zfs Z H W SL l b f
theorem iv_9335 : ivl 93 35 = (-2147483648, 2147483647) := by decide +kernel
theorem BSET.ne0 {b : Int32} {f : Nat → Bool} (hb : BSET b f) {p : Nat} (h7 : p < 7) (hp : f p = true) : ¬ b = 0 := by
  intro z
  subst z
  obtain ⟨n, hn, e, hf⟩ := hb
  have e2 : n = 0 := by
    have := congrArg Int32.toInt e
    rw [i32n hn] at this
    have z0' : (0 : Int32).toInt = 0 := rfl
    omega
  subst e2
  have := hf p h7
  rw [Nat.zero_testBit, hp] at this
  cases this
theorem mcn_go {dp : Nat} (mk : MOK S Y N) (ht : 0 ≤ tol ∧ tol ≤ 6) (l : List Int32) (hl : l.length ≤ 7) (hel : ∀ j, j < l.length → ∃ x : Nat, x < 7 ∧ (l.getD j 0).toInt = x ∧ R x = true) : ∀ (n k : Nat) (bI cI kI : Int32) (b c : Nat → Bool) (f : Int) (x y : Value) (h : Hp), k + n = l.length → kI.toInt = k → BSET bI b → BSET cI c → (cI = 0 ↔ f = -5) → (h.2.1 93 35).toInt = f → OL h l → MST S Y cs m N K R hd one tol fo le h → HI h → (∀ (r : Int32) h', HI h' → frm WMX h h' → BSET r (zgo (zin S Y cs m K hd) (zhold S Y cs m) (mW S Y cs m K R hd one tol) (zslip S Y cs m (mW S Y cs m K R hd one tol)) (l.drop k) b c) → (h'.2.1 93 35).toInt = zfs (zin S Y cs m K hd) (zhold S Y cs m) (mW S Y cs m K R hd one tol) (zslip S Y cs m (mW S Y cs m K R hd one tol)) (l.drop k) b f → Q (some (.int r)) h') → Ends X (dp + 1 + 1 + 1 + 1 + 1 + 1 + 1 + 1 + 1) 157 16 [.ref 93, .int bI, .int cI, .int kI, x, y] [] h Q
  | n, k, bI, cI, kI, b, c, f, x, y, h, hn, hk, hb, hc, hf0, hf, ho, hm, hh, hQ => by
    obtain ⟨o1, o2⟩ := id ho
    refine w_mcn1 bI cI kI x y hh.hs ⟨fun e => ?_, fun e => ?_⟩
    · have e : (h.2.1 93 34).toInt ≤ kI.toInt := of_decide_eq_true (cJ e)
      rw [List.drop_eq_nil_of_le (by omega)] at hQ
      exact hQ cI h hh frm_refl hc hf
    have e : ¬ (h.2.1 93 34).toInt ≤ kI.toInt := of_decide_eq_false (cJ e)
    have hkl : k < l.length := by omega
    have en : kI.toNatClampNeg = k := by show kI.toInt.toNat = _; omega
    obtain ⟨p, p7, pe, pr⟩ := hel k hkl
    obtain ⟨n, rfl⟩ : ∃ q, n = q + 1 := ⟨n - 1, by omega⟩
    have n1 : (kI + 1).toInt = ((k + 1 : Nat) : Int) := by rw [i_add (by rw [i1]; omega) (by rw [i1]; omega), i1]; omega
    rw [dropI hkl] at hQ
    unfold zgo zfs at hQ
    have pt : (l.getD k 0).toInt.toNat = p := by omega
    rw [pt] at hQ
    refine ⟨inB_iff (by omega) (by omega), ?_⟩
    rw [en, o2 k hkl]
    have wb := mW_b (Y := Y) (cs := cs) (m := m) (K := K) (R := R) (hd := hd) (one := one) mk.1 mk.2.1 ht p7
    refine mway_ok mk hm hh _ p pe p7 (fun r4 h3 g3 f3 v4 => ⟨r4, rfl, g3.hs, ?_⟩)
    have m3 := hm.fr (WPi_X f3)
    refine mmt_ok mk m3 g3 r4 bI _ b v4 wb.1 wb.2 hb (fun r7 h6 g6 f6 v7 => ⟨r7, rfl, g6.hs, ?_⟩)
    have m6 := m3.fr (WPi_X f6)
    refine mhb_ok mk m6 g6 r7 _ v7 (fun q hq z => ?_) (fun r10 h9 g9 f9 v10 => ⟨r10, rfl, g9.hs, ?_⟩)
    · unfold zmeet at z
      rw [Bool.and_eq_true] at z
      exact zin_N hm _ q hq z.1
    have m9 := m6.fr (WPi_X f9)
    refine mslp_ok mk m9 g9 _ p pe p7 (fun r13 h12 g12 f12 v13 => ⟨r13, rfl, g12.hs, ?_⟩)
    have fa : frm WPi h h12 := frm_trans (frm_trans (frm_trans f3 f6) f9) f12
    have m12 := hm.fr (WPi_X fa)
    have o12 : OL h12 l := ⟨by rw [frI fa (a := 93) rfl]; exact o1, fun j hj => by rw [frI fa (a := 110) rfl]; exact o2 j hj⟩
    have f35 : h12.2.1 93 35 = h.2.1 93 35 := frI fa rfl
    refine ⟨fun d => ?_, fun d => ?_⟩
    · have d : r13.toInt < r10.toInt := of_decide_eq_true (cJ d)
      rw [if_pos (by omega), if_pos (by omega)] at hQ
      have cb : BSET (cI ||| (1 <<< ((l.getD k 0) &&& 31))) (fun x => c x || decide (x = p)) := hc.or (BSET.one pe p7)
      have cn0 : ¬ (cI ||| (1 <<< ((l.getD k 0) &&& 31))) = 0 := cb.ne0 p7 (by rw [decide_eq_true (rfl : p = p), Bool.or_true])
      have go : ∀ v : Int32, v.toInt = (if f = -5 then (l.getD k 0).toInt else f) → Ends X (dp + 1 + 1 + 1 + 1 + 1 + 1 + 1 + 1 + 1) 157 16 [.ref 93, .int (bI ||| r7), .int (cI ||| (1 <<< ((l.getD k 0) &&& 31))), .int (kI + 1), .int (l.getD k 0), .int r7] [] (hpI h12 93 35 v) Q := fun v hv => by
        have gv : HI (hpI h12 93 35 v) := HI_full g12 iv_9335
        have fv : frm WMX h (hpI h12 93 35 v) := frm_put (WPi_X fa) rfl
        refine mcn_go mk ht l hl hel n (k + 1) _ _ _ _ _ (if f = -5 then (l.getD k 0).toInt else f) _ _ _ (by omega) n1 (hb.or v7) cb ⟨fun z => absurd z cn0, fun z => ?_⟩ (by rw [put_at]; exact hv) ⟨by rw [put_ne (by omega)]; exact o12.1, fun j hj => by rw [put_ne (by omega)]; exact o12.2 j hj⟩ (hm.fr fv) gv (fun r h' b1 b2 b3 b4 => hQ r h' b1 (frm_trans fv b2) b3 b4)
        exfalso
        split at z
        · omega
        · contradiction
      refine ⟨fun d2 => go _ ?_, fun d2 => go _ ?_⟩
      · have d2 : ¬ cI.toInt = (0 : Int32).toInt := of_decide_eq_true (cJ d2)
        rw [if_neg (fun z => d2 (by rw [hf0.mpr z])), f35]
        exact hf
      · have d2 : ¬ ¬ cI.toInt = (0 : Int32).toInt := of_decide_eq_false (cJ d2)
        rw [if_pos (hf0.mp (Int32.toInt.inj (Decidable.not_not.mp d2)))]
    · have d : ¬ r13.toInt < r10.toInt := of_decide_eq_false (cJ d)
      rw [if_neg (by omega), if_neg (by omega)] at hQ
      exact mcn_go mk ht l hl hel n (k + 1) _ _ _ _ _ f _ _ _ (by omega) n1 hb hc hf0 (by rw [f35]; exact hf) o12 m12 g12 (fun r h' b1 b2 b3 b4 => hQ r h' b1 (frm_trans (WPi_X fa) b2) b3 b4)
/-- who is caught, in the reference's ways -/
def mcau (S : Nat → Nat → Int) (Y : Int) (cs : List Cl) (m : List Int) (K R : Nat → Bool) (hd : Bool) (one tol fo le : Int) : Nat → Bool := zgo (zin S Y cs m K hd) (zhold S Y cs m) (mW S Y cs m K R hd one tol) (zslip S Y cs m (mW S Y cs m K R hd one tol)) (zord (zhst S) R fo le) (fun _ => false) (fun _ => false)
def mfst (S : Nat → Nat → Int) (Y : Int) (cs : List Cl) (m : List Int) (K R : Nat → Bool) (hd : Bool) (one tol fo le : Int) : Int := zfs (zin S Y cs m K hd) (zhold S Y cs m) (mW S Y cs m K R hd one tol) (zslip S Y cs m (mW S Y cs m K R hd one tol)) (zord (zhst S) R fo le) (fun _ => false) (-5)
theorem mcn_ok {dp : Nat} (mk : MOK S Y N) (hm : MST S Y cs m N K R hd one tol fo le h) (hfo : FOK fo le N R) (hh : HI h) (hQ : ∀ (r : Int32) h', HI h' → frm WMX h h' → BSET r (mcau S Y cs m K R hd one tol fo le) → (h'.2.1 93 35).toInt = mfst S Y cs m K R hd one tol fo le → Q (some (.int r)) h') : Ends X (dp + 1 + 1 + 1 + 1 + 1 + 1 + 1 + 1 + 1) 157 0 [.ref 93, .retAddr 0, .retAddr 0, .retAddr 0, .retAddr 0, .retAddr 0] [] h Q := by
  have ht := hh.iv 93 29 (r := (0, 6)) rfl
  rw [hm.2.2.2.2.2.2.2.2.2.1] at ht
  have n7 := mk.2.2.2
  refine w_mcn0 hh.hs (lay_ok hh (fol_z mk hm hfo) (fun h1 g1 f1 o1 => ⟨rfl, g1.hs, ?_⟩))
  rw [layM_z mk hm hfo] at o1
  have gv : HI (hpI h1 93 35 (-5)) := HI_full g1 iv_9335
  have fv : frm WMX h (hpI h1 93 35 (-5)) := frm_put (WO_X f1) rfl
  exact mcn_go mk ht _ (zord_len n7 hfo) (zord_el n7 hfo) (zord (zhst S) R fo le).length 0 0 0 0 (fun _ => false) (fun _ => false) (-5) _ _ _ (by omega) rfl BSET.zero BSET.zero ⟨fun _ => rfl, fun _ => rfl⟩ (by rw [put_at]; rfl) ⟨by rw [put_ne (by omega)]; exact o1.1, fun j hj => by rw [put_ne (by omega)]; exact o1.2 j hj⟩ (hm.fr fv) gv (fun r h' b1 b2 b3 b4 => hQ r h' b1 (frm_trans fv b2) b3 b4)
end MLAY
end JN99ty3mshout
