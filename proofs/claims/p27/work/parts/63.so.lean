/-! Is it so, who goes when: what is owed for them. -/
theorem w_so0 {X : Scr} {dp : Nat} {h : Hp} {Q : Option Value → Hp → Prop} (c : Int32) (p : Int32) (l : Int32) (hs : HS h)
    (vc : (inB c 60 = true ∧ Ends X dp 137 11 [.ref 93, .int c, .int p, .int l, .int 0, .int (h.2.1 104 c.toNatClampNeg), .retAddr 0, .retAddr 0, .retAddr 0] [] h Q)) :
    Ends X dp 137 0 [.ref 93, .int c, .int p, .int l, .retAddr 0, .retAddr 0, .retAddr 0, .retAddr 0, .retAddr 0] [] h Q := by
  have ra : ∀ {a : Nat}, a < 1000 → a ≤ OLDB := fun h => by have := OLDB_eq; omega
  refine e_iconst (c := 0) (show pAt 137 0 = some (0, .iconst 0, 1, []) from by decide +kernel) (by decide) ?_
  refine e_istore (show pAt 137 1 = some (1, .istore 4, 2, []) from by decide +kernel) ⟨Nat.le_of_ble_eq_true rfl, rfl⟩ rfl ?_
  refine e_aload_n (show pAt 137 3 = some (3, .aload_n 0, 1, []) from by decide +kernel) rfl (ra (by decide)) ?_
  refine e_gR (show pAt 137 4 = some (4, .getfield 65, 3, [7, 18, 0, 4141]) from by decide +kernel) (show HS h from hs) rfl (by decide) (hs_ref (show HS h from hs) rfl) ?_
  refine e_iload_n (show pAt 137 7 = some (7, .iload_n 1, 1, []) from by decide +kernel) rfl ?_
  obtain ⟨c1, vc⟩ := vc
  refine e_ald (show pAt 137 8 = some (8, .iaload, 1, []) from by decide +kernel) (show HS h from hs) (by decide) c1 ?_
  refine e_istore (show pAt 137 9 = some (9, .istore 5, 2, []) from by decide +kernel) ⟨Nat.le_of_ble_eq_true rfl, rfl⟩ rfl ?_
  exact vc

theorem w_so1 {X : Scr} {dp : Nat} {h : Hp} {Q : Option Value → Hp → Prop} (c : Int32) (p : Int32) (l : Int32) (n : Int32) (k : Int32) (a : Value) (b : Value) (d : Value) (hs : HS h)
    (vc : (inB c 60 = true ∧ ((condB .ge k (h.2.1 105 c.toNatClampNeg) = true → (inB 0 100 = true ∧ (h.2.1 109 (0 : Int32).toNatClampNeg = 0 ∨ h.2.1 109 (0 : Int32).toNatClampNeg = 1) ∧ Q (some (.int (h.2.1 109 (0 : Int32).toNatClampNeg))) h)) ∧ (condB .ge k (h.2.1 105 c.toNatClampNeg) = false → (inB k 600 = true ∧ ((condB .ne (h.2.1 106 k.toNatClampNeg) (-33) = true → ((condB .ge (h.2.1 106 k.toNatClampNeg) 0 = true → Ends X dp 136 0 [.ref 93, .int ((h.2.1 106 k.toNatClampNeg) / 1000), .int p, .int l] [] h (fun rv h7 => ∃ r8, rv = some (.int r8) ∧ HS h7 ∧ ((condB .ne (((h.2.1 106 k.toNatClampNeg) / 100) - ((h.2.1 106 k.toNatClampNeg) / 100) / 10 * 10) 0 = true → ((condB .ne (((h.2.1 106 k.toNatClampNeg) / 100) - ((h.2.1 106 k.toNatClampNeg) / 100) / 10 * 10) 1 = true → ((condB .le r8 ((h.2.1 106 k.toNatClampNeg) - (h.2.1 106 k.toNatClampNeg) / 100 * 100) = true → (inB n 100 = true ∧ Ends X (dp + 1) 137 11 [.ref 93, .int c, .int p, .int l, .int (n + 1), .int (k + 1), .int (h.2.1 106 k.toNatClampNeg), .int r8, .int (((h.2.1 106 k.toNatClampNeg) / 100) - ((h.2.1 106 k.toNatClampNeg) / 100) / 10 * 10)] [] (hpI h7 109 n.toNatClampNeg 0) Q)) ∧ (condB .le r8 ((h.2.1 106 k.toNatClampNeg) - (h.2.1 106 k.toNatClampNeg) / 100 * 100) = false → (inB n 100 = true ∧ Ends X (dp + 1) 137 11 [.ref 93, .int c, .int p, .int l, .int (n + 1), .int (k + 1), .int (h.2.1 106 k.toNatClampNeg), .int r8, .int (((h.2.1 106 k.toNatClampNeg) / 100) - ((h.2.1 106 k.toNatClampNeg) / 100) / 10 * 10)] [] (hpI h7 109 n.toNatClampNeg 1) Q)))) ∧ (condB .ne (((h.2.1 106 k.toNatClampNeg) / 100) - ((h.2.1 106 k.toNatClampNeg) / 100) / 10 * 10) 1 = false → ((condB .ne r8 ((h.2.1 106 k.toNatClampNeg) - (h.2.1 106 k.toNatClampNeg) / 100 * 100) = true → (inB n 100 = true ∧ Ends X (dp + 1) 137 11 [.ref 93, .int c, .int p, .int l, .int (n + 1), .int (k + 1), .int (h.2.1 106 k.toNatClampNeg), .int r8, .int (((h.2.1 106 k.toNatClampNeg) / 100) - ((h.2.1 106 k.toNatClampNeg) / 100) / 10 * 10)] [] (hpI h7 109 n.toNatClampNeg 0) Q)) ∧ (condB .ne r8 ((h.2.1 106 k.toNatClampNeg) - (h.2.1 106 k.toNatClampNeg) / 100 * 100) = false → (inB n 100 = true ∧ Ends X (dp + 1) 137 11 [.ref 93, .int c, .int p, .int l, .int (n + 1), .int (k + 1), .int (h.2.1 106 k.toNatClampNeg), .int r8, .int (((h.2.1 106 k.toNatClampNeg) / 100) - ((h.2.1 106 k.toNatClampNeg) / 100) / 10 * 10)] [] (hpI h7 109 n.toNatClampNeg 1) Q)))))) ∧ (condB .ne (((h.2.1 106 k.toNatClampNeg) / 100) - ((h.2.1 106 k.toNatClampNeg) / 100) / 10 * 10) 0 = false → ((condB .ge r8 ((h.2.1 106 k.toNatClampNeg) - (h.2.1 106 k.toNatClampNeg) / 100 * 100) = true → (inB n 100 = true ∧ Ends X (dp + 1) 137 11 [.ref 93, .int c, .int p, .int l, .int (n + 1), .int (k + 1), .int (h.2.1 106 k.toNatClampNeg), .int r8, .int (((h.2.1 106 k.toNatClampNeg) / 100) - ((h.2.1 106 k.toNatClampNeg) / 100) / 10 * 10)] [] (hpI h7 109 n.toNatClampNeg 0) Q)) ∧ (condB .ge r8 ((h.2.1 106 k.toNatClampNeg) - (h.2.1 106 k.toNatClampNeg) / 100 * 100) = false → (inB n 100 = true ∧ Ends X (dp + 1) 137 11 [.ref 93, .int c, .int p, .int l, .int (n + 1), .int (k + 1), .int (h.2.1 106 k.toNatClampNeg), .int r8, .int (((h.2.1 106 k.toNatClampNeg) / 100) - ((h.2.1 106 k.toNatClampNeg) / 100) / 10 * 10)] [] (hpI h7 109 n.toNatClampNeg 1) Q))))))) ∧ (condB .ge (h.2.1 106 k.toNatClampNeg) 0 = false → ((condB .ne (h.2.1 106 k.toNatClampNeg) (-38) = true → (inB ((n + (-1)) - 1) 100 = true ∧ ((condB .ne (h.2.1 109 ((n + (-1)) - 1).toNatClampNeg) 0 = true → (inB ((n + (-1)) - 1) 100 = true ∧ Ends X (dp + 1) 137 11 [.ref 93, .int c, .int p, .int l, .int (n + (-1)), .int (k + 1), .int (h.2.1 106 k.toNatClampNeg), b, d] [] (hpI h 109 ((n + (-1)) - 1).toNatClampNeg 1) Q)) ∧ (condB .ne (h.2.1 109 ((n + (-1)) - 1).toNatClampNeg) 0 = false → (inB (n + (-1)) 100 = true ∧ ((condB .eq (h.2.1 109 (n + (-1)).toNatClampNeg) 0 = true → (inB ((n + (-1)) - 1) 100 = true ∧ Ends X (dp + 1) 137 11 [.ref 93, .int c, .int p, .int l, .int (n + (-1)), .int (k + 1), .int (h.2.1 106 k.toNatClampNeg), b, d] [] (hpI h 109 ((n + (-1)) - 1).toNatClampNeg 0) Q)) ∧ (condB .eq (h.2.1 109 (n + (-1)).toNatClampNeg) 0 = false → (inB ((n + (-1)) - 1) 100 = true ∧ Ends X (dp + 1) 137 11 [.ref 93, .int c, .int p, .int l, .int (n + (-1)), .int (k + 1), .int (h.2.1 106 k.toNatClampNeg), b, d] [] (hpI h 109 ((n + (-1)) - 1).toNatClampNeg 1) Q)))))))) ∧ (condB .ne (h.2.1 106 k.toNatClampNeg) (-38) = false → (inB ((n + (-1)) - 1) 100 = true ∧ ((condB .eq (h.2.1 109 ((n + (-1)) - 1).toNatClampNeg) 0 = true → (inB ((n + (-1)) - 1) 100 = true ∧ Ends X (dp + 1) 137 11 [.ref 93, .int c, .int p, .int l, .int (n + (-1)), .int (k + 1), .int (h.2.1 106 k.toNatClampNeg), b, d] [] (hpI h 109 ((n + (-1)) - 1).toNatClampNeg 0) Q)) ∧ (condB .eq (h.2.1 109 ((n + (-1)) - 1).toNatClampNeg) 0 = false → (inB (n + (-1)) 100 = true ∧ ((condB .eq (h.2.1 109 (n + (-1)).toNatClampNeg) 0 = true → (inB ((n + (-1)) - 1) 100 = true ∧ Ends X (dp + 1) 137 11 [.ref 93, .int c, .int p, .int l, .int (n + (-1)), .int (k + 1), .int (h.2.1 106 k.toNatClampNeg), b, d] [] (hpI h 109 ((n + (-1)) - 1).toNatClampNeg 0) Q)) ∧ (condB .eq (h.2.1 109 (n + (-1)).toNatClampNeg) 0 = false → (inB ((n + (-1)) - 1) 100 = true ∧ Ends X (dp + 1) 137 11 [.ref 93, .int c, .int p, .int l, .int (n + (-1)), .int (k + 1), .int (h.2.1 106 k.toNatClampNeg), b, d] [] (hpI h 109 ((n + (-1)) - 1).toNatClampNeg 1) Q)))))))))))) ∧ (condB .ne (h.2.1 106 k.toNatClampNeg) (-33) = false → (inB (n - 1) 100 = true ∧ ((condB .ne (h.2.1 109 (n - 1).toNatClampNeg) 0 = true → (inB (n - 1) 100 = true ∧ Ends X (dp + 1) 137 11 [.ref 93, .int c, .int p, .int l, .int n, .int (k + 1), .int (h.2.1 106 k.toNatClampNeg), b, d] [] (hpI h 109 (n - 1).toNatClampNeg 0) Q)) ∧ (condB .ne (h.2.1 109 (n - 1).toNatClampNeg) 0 = false → (inB (n - 1) 100 = true ∧ Ends X (dp + 1) 137 11 [.ref 93, .int c, .int p, .int l, .int n, .int (k + 1), .int (h.2.1 106 k.toNatClampNeg), b, d] [] (hpI h 109 (n - 1).toNatClampNeg 1) Q))))))))))) :
    Ends X (dp + 1) 137 11 [.ref 93, .int c, .int p, .int l, .int n, .int k, a, b, d] [] h Q := by
  have ra : ∀ {a : Nat}, a < 1000 → a ≤ OLDB := fun h => by have := OLDB_eq; omega
  refine e_iload (show pAt 137 11 = some (11, .iload 5, 2, []) from by decide +kernel) rfl ?_
  refine e_aload_n (show pAt 137 13 = some (13, .aload_n 0, 1, []) from by decide +kernel) rfl (ra (by decide)) ?_
  refine e_gR (show pAt 137 14 = some (14, .getfield 68, 3, [7, 19, 0, 4142]) from by decide +kernel) (show HS h from hs) rfl (by decide) (hs_ref (show HS h from hs) rfl) ?_
  refine e_iload_n (show pAt 137 17 = some (17, .iload_n 1, 1, []) from by decide +kernel) rfl ?_
  obtain ⟨c1, vc⟩ := vc
  refine e_ald (show pAt 137 18 = some (18, .iaload, 1, []) from by decide +kernel) (show HS h from hs) (by decide) c1 ?_
  refine e_icmp (t := 253) (show pAt 137 19 = some (19, .if_icmp .ge 234, 3, []) from by decide +kernel) rfl (fun c2 => ?_) (fun c2 => ?_)
  · replace vc := vc.1 c2
    refine e_aload_n (show pAt 137 253 = some (253, .aload_n 0, 1, []) from by decide +kernel) rfl (ra (by decide)) ?_
    refine e_gR (show pAt 137 254 = some (254, .getfield 89, 3, [7, 26, 0, 4149]) from by decide +kernel) (show HS h from hs) rfl (by decide) (hs_ref (show HS h from hs) rfl) ?_
    refine e_iconst (c := 0) (show pAt 137 257 = some (257, .iconst 0, 1, []) from by decide +kernel) (by decide) ?_
    obtain ⟨c3, vc⟩ := vc
    refine e_bald (show pAt 137 258 = some (258, .baload, 1, []) from by decide +kernel) (show HS h from hs) (by decide) c3 ?_
    exact e_retZ (show pAt 137 259 = some (259, .ireturn, 1, []) from by decide +kernel) rfl vc.1 vc.2
  · replace vc := vc.2 c2
    refine e_aload_n (show pAt 137 22 = some (22, .aload_n 0, 1, []) from by decide +kernel) rfl (ra (by decide)) ?_
    refine e_gR (show pAt 137 23 = some (23, .getfield 71, 3, [7, 20, 0, 4143]) from by decide +kernel) (show HS h from hs) rfl (by decide) (hs_ref (show HS h from hs) rfl) ?_
    refine e_iload (show pAt 137 26 = some (26, .iload 5, 2, []) from by decide +kernel) rfl ?_
    obtain ⟨c4, vc⟩ := vc
    refine e_ald (show pAt 137 28 = some (28, .iaload, 1, []) from by decide +kernel) (show HS h from hs) (by decide) c4 ?_
    refine e_istore (show pAt 137 29 = some (29, .istore 6, 2, []) from by decide +kernel) ⟨Nat.le_of_ble_eq_true rfl, rfl⟩ rfl ?_
    refine e_iload (show pAt 137 31 = some (31, .iload 6, 2, []) from by decide +kernel) rfl ?_
    refine e_bipush (c := (-33)) (show pAt 137 33 = some (33, .bipush (-33), 2, []) from by decide +kernel) (by decide) ?_
    refine e_icmp (t := 67) (show pAt 137 35 = some (35, .if_icmp .ne 32, 3, []) from by decide +kernel) rfl (fun c5 => ?_) (fun c5 => ?_)
    · replace vc := vc.1 c5
      refine e_iload (show pAt 137 67 = some (67, .iload 6, 2, []) from by decide +kernel) rfl ?_
      refine e_if (t := 151) (show pAt 137 69 = some (69, .ifCond .ge 82, 3, []) from by decide +kernel) rfl (fun c6 => ?_) (fun c6 => ?_)
      · replace vc := vc.1 c6
        refine e_aload_n (show pAt 137 151 = some (151, .aload_n 0, 1, []) from by decide +kernel) rfl (ra (by decide)) ?_
        refine e_iload (show pAt 137 152 = some (152, .iload 6, 2, []) from by decide +kernel) rfl ?_
        refine e_sipush (c := 1000) (show pAt 137 154 = some (154, .sipush 1000, 3, []) from by decide +kernel) (by decide) ?_
        refine e_idiv (show pAt 137 157 = some (157, .idiv, 1, []) from by decide +kernel) (by decide) ?_
        refine e_iload_n (show pAt 137 158 = some (158, .iload_n 2, 1, []) from by decide +kernel) rfl ?_
        refine e_iload_n (show pAt 137 159 = some (159, .iload_n 3, 1, []) from by decide +kernel) rfl ?_
        refine Ends.call (show pAt 137 160 = some (160, .invokevirtual 261, 3, [136, 4, 0, 0, 5221, 5223, 83]) from by decide +kernel) (isRet_none rfl) rfl (call_this (show HS h from hs) rfl rfl (by decide)) (Ends.mono vc ?_)
        rintro _ h7 ⟨r8, rfl, hs_h7, vc⟩
        refine e_istore (show pAt 137 163 = some (163, .istore 7, 2, []) from by decide +kernel) ⟨Nat.le_of_ble_eq_true rfl, rfl⟩ rfl ?_
        refine e_iload (show pAt 137 165 = some (165, .iload 6, 2, []) from by decide +kernel) rfl ?_
        refine e_bipush (c := 100) (show pAt 137 167 = some (167, .bipush 100, 2, []) from by decide +kernel) (by decide) ?_
        refine e_idiv (show pAt 137 169 = some (169, .idiv, 1, []) from by decide +kernel) (by decide) ?_
        refine e_bipush (c := 10) (show pAt 137 170 = some (170, .bipush 10, 2, []) from by decide +kernel) (by decide) ?_
        refine e_irem (show pAt 137 172 = some (172, .irem, 1, []) from by decide +kernel) (by decide) ?_
        refine e_istore (show pAt 137 173 = some (173, .istore 8, 2, []) from by decide +kernel) ⟨Nat.le_of_ble_eq_true rfl, rfl⟩ rfl ?_
        refine e_aload_n (show pAt 137 175 = some (175, .aload_n 0, 1, []) from by decide +kernel) rfl (ra (by decide)) ?_
        refine e_gR (show pAt 137 176 = some (176, .getfield 89, 3, [7, 26, 0, 4149]) from by decide +kernel) (show HS h7 from hs_h7) rfl (by decide) (hs_ref (show HS h7 from hs_h7) rfl) ?_
        refine e_iload (show pAt 137 179 = some (179, .iload 4, 2, []) from by decide +kernel) rfl ?_
        refine e_iload (show pAt 137 181 = some (181, .iload 8, 2, []) from by decide +kernel) rfl ?_
        refine e_if (t := 204) (show pAt 137 183 = some (183, .ifCond .ne 21, 3, []) from by decide +kernel) rfl (fun c10 => ?_) (fun c10 => ?_)
        · replace vc := vc.1 c10
          refine e_iload (show pAt 137 204 = some (204, .iload 8, 2, []) from by decide +kernel) rfl ?_
          refine e_iconst (c := 1) (show pAt 137 206 = some (206, .iconst 1, 1, []) from by decide +kernel) (by decide) ?_
          refine e_icmp (t := 228) (show pAt 137 207 = some (207, .if_icmp .ne 21, 3, []) from by decide +kernel) rfl (fun c11 => ?_) (fun c11 => ?_)
          · replace vc := vc.1 c11
            refine e_iload (show pAt 137 228 = some (228, .iload 7, 2, []) from by decide +kernel) rfl ?_
            refine e_iload (show pAt 137 230 = some (230, .iload 6, 2, []) from by decide +kernel) rfl ?_
            refine e_bipush (c := 100) (show pAt 137 232 = some (232, .bipush 100, 2, []) from by decide +kernel) (by decide) ?_
            refine e_irem (show pAt 137 234 = some (234, .irem, 1, []) from by decide +kernel) (by decide) ?_
            refine e_icmp (t := 242) (show pAt 137 235 = some (235, .if_icmp .le 7, 3, []) from by decide +kernel) rfl (fun c12 => ?_) (fun c12 => ?_)
            · replace vc := vc.1 c12
              refine e_iconst (c := 0) (show pAt 137 242 = some (242, .iconst 0, 1, []) from by decide +kernel) (by decide) ?_
              obtain ⟨c13, vc⟩ := vc
              refine e_bast (show pAt 137 243 = some (243, .bastore, 1, []) from by decide +kernel) (show HS h7 from hs_h7) (by decide) c13 (by decide) ?_
              refine e_iinc (c := 1) (show pAt 137 244 = some (244, .iinc 4 1, 3, []) from by decide +kernel) rfl rfl (by decide) rfl ?_
              refine e_iinc (c := 1) (show pAt 137 247 = some (247, .iinc 5 1, 3, []) from by decide +kernel) rfl rfl (by decide) rfl ?_
              refine e_goto (t := 11) (show pAt 137 250 = some (250, .goto (-239), 3, []) from by decide +kernel) rfl ?_
              exact vc
            · replace vc := vc.2 c12
              refine e_iconst (c := 1) (show pAt 137 238 = some (238, .iconst 1, 1, []) from by decide +kernel) (by decide) ?_
              refine e_goto (t := 243) (show pAt 137 239 = some (239, .goto 4, 3, []) from by decide +kernel) rfl ?_
              obtain ⟨c14, vc⟩ := vc
              refine e_bast (show pAt 137 243 = some (243, .bastore, 1, []) from by decide +kernel) (show HS h7 from hs_h7) (by decide) c14 (by decide) ?_
              refine e_iinc (c := 1) (show pAt 137 244 = some (244, .iinc 4 1, 3, []) from by decide +kernel) rfl rfl (by decide) rfl ?_
              refine e_iinc (c := 1) (show pAt 137 247 = some (247, .iinc 5 1, 3, []) from by decide +kernel) rfl rfl (by decide) rfl ?_
              refine e_goto (t := 11) (show pAt 137 250 = some (250, .goto (-239), 3, []) from by decide +kernel) rfl ?_
              exact vc
          · replace vc := vc.2 c11
            refine e_iload (show pAt 137 210 = some (210, .iload 7, 2, []) from by decide +kernel) rfl ?_
            refine e_iload (show pAt 137 212 = some (212, .iload 6, 2, []) from by decide +kernel) rfl ?_
            refine e_bipush (c := 100) (show pAt 137 214 = some (214, .bipush 100, 2, []) from by decide +kernel) (by decide) ?_
            refine e_irem (show pAt 137 216 = some (216, .irem, 1, []) from by decide +kernel) (by decide) ?_
            refine e_icmp (t := 224) (show pAt 137 217 = some (217, .if_icmp .ne 7, 3, []) from by decide +kernel) rfl (fun c15 => ?_) (fun c15 => ?_)
            · replace vc := vc.1 c15
              refine e_iconst (c := 0) (show pAt 137 224 = some (224, .iconst 0, 1, []) from by decide +kernel) (by decide) ?_
              refine e_goto (t := 243) (show pAt 137 225 = some (225, .goto 18, 3, []) from by decide +kernel) rfl ?_
              obtain ⟨c16, vc⟩ := vc
              refine e_bast (show pAt 137 243 = some (243, .bastore, 1, []) from by decide +kernel) (show HS h7 from hs_h7) (by decide) c16 (by decide) ?_
              refine e_iinc (c := 1) (show pAt 137 244 = some (244, .iinc 4 1, 3, []) from by decide +kernel) rfl rfl (by decide) rfl ?_
              refine e_iinc (c := 1) (show pAt 137 247 = some (247, .iinc 5 1, 3, []) from by decide +kernel) rfl rfl (by decide) rfl ?_
              refine e_goto (t := 11) (show pAt 137 250 = some (250, .goto (-239), 3, []) from by decide +kernel) rfl ?_
              exact vc
            · replace vc := vc.2 c15
              refine e_iconst (c := 1) (show pAt 137 220 = some (220, .iconst 1, 1, []) from by decide +kernel) (by decide) ?_
              refine e_goto (t := 243) (show pAt 137 221 = some (221, .goto 22, 3, []) from by decide +kernel) rfl ?_
              obtain ⟨c17, vc⟩ := vc
              refine e_bast (show pAt 137 243 = some (243, .bastore, 1, []) from by decide +kernel) (show HS h7 from hs_h7) (by decide) c17 (by decide) ?_
              refine e_iinc (c := 1) (show pAt 137 244 = some (244, .iinc 4 1, 3, []) from by decide +kernel) rfl rfl (by decide) rfl ?_
              refine e_iinc (c := 1) (show pAt 137 247 = some (247, .iinc 5 1, 3, []) from by decide +kernel) rfl rfl (by decide) rfl ?_
              refine e_goto (t := 11) (show pAt 137 250 = some (250, .goto (-239), 3, []) from by decide +kernel) rfl ?_
              exact vc
        · replace vc := vc.2 c10
          refine e_iload (show pAt 137 186 = some (186, .iload 7, 2, []) from by decide +kernel) rfl ?_
          refine e_iload (show pAt 137 188 = some (188, .iload 6, 2, []) from by decide +kernel) rfl ?_
          refine e_bipush (c := 100) (show pAt 137 190 = some (190, .bipush 100, 2, []) from by decide +kernel) (by decide) ?_
          refine e_irem (show pAt 137 192 = some (192, .irem, 1, []) from by decide +kernel) (by decide) ?_
          refine e_icmp (t := 200) (show pAt 137 193 = some (193, .if_icmp .ge 7, 3, []) from by decide +kernel) rfl (fun c18 => ?_) (fun c18 => ?_)
          · replace vc := vc.1 c18
            refine e_iconst (c := 0) (show pAt 137 200 = some (200, .iconst 0, 1, []) from by decide +kernel) (by decide) ?_
            refine e_goto (t := 243) (show pAt 137 201 = some (201, .goto 42, 3, []) from by decide +kernel) rfl ?_
            obtain ⟨c19, vc⟩ := vc
            refine e_bast (show pAt 137 243 = some (243, .bastore, 1, []) from by decide +kernel) (show HS h7 from hs_h7) (by decide) c19 (by decide) ?_
            refine e_iinc (c := 1) (show pAt 137 244 = some (244, .iinc 4 1, 3, []) from by decide +kernel) rfl rfl (by decide) rfl ?_
            refine e_iinc (c := 1) (show pAt 137 247 = some (247, .iinc 5 1, 3, []) from by decide +kernel) rfl rfl (by decide) rfl ?_
            refine e_goto (t := 11) (show pAt 137 250 = some (250, .goto (-239), 3, []) from by decide +kernel) rfl ?_
            exact vc
          · replace vc := vc.2 c18
            refine e_iconst (c := 1) (show pAt 137 196 = some (196, .iconst 1, 1, []) from by decide +kernel) (by decide) ?_
            refine e_goto (t := 243) (show pAt 137 197 = some (197, .goto 46, 3, []) from by decide +kernel) rfl ?_
            obtain ⟨c20, vc⟩ := vc
            refine e_bast (show pAt 137 243 = some (243, .bastore, 1, []) from by decide +kernel) (show HS h7 from hs_h7) (by decide) c20 (by decide) ?_
            refine e_iinc (c := 1) (show pAt 137 244 = some (244, .iinc 4 1, 3, []) from by decide +kernel) rfl rfl (by decide) rfl ?_
            refine e_iinc (c := 1) (show pAt 137 247 = some (247, .iinc 5 1, 3, []) from by decide +kernel) rfl rfl (by decide) rfl ?_
            refine e_goto (t := 11) (show pAt 137 250 = some (250, .goto (-239), 3, []) from by decide +kernel) rfl ?_
            exact vc
      · replace vc := vc.2 c6
        refine e_iinc (c := (-1)) (show pAt 137 72 = some (72, .iinc 4 (-1), 3, []) from by decide +kernel) rfl rfl (by decide) rfl ?_
        refine e_aload_n (show pAt 137 75 = some (75, .aload_n 0, 1, []) from by decide +kernel) rfl (ra (by decide)) ?_
        refine e_gR (show pAt 137 76 = some (76, .getfield 89, 3, [7, 26, 0, 4149]) from by decide +kernel) (show HS h from hs) rfl (by decide) (hs_ref (show HS h from hs) rfl) ?_
        refine e_iload (show pAt 137 79 = some (79, .iload 4, 2, []) from by decide +kernel) rfl ?_
        refine e_iconst (c := 1) (show pAt 137 81 = some (81, .iconst 1, 1, []) from by decide +kernel) (by decide) ?_
        refine e_isub (show pAt 137 82 = some (82, .isub, 1, []) from by decide +kernel) ?_
        refine e_iload (show pAt 137 83 = some (83, .iload 6, 2, []) from by decide +kernel) rfl ?_
        refine e_bipush (c := (-38)) (show pAt 137 85 = some (85, .bipush (-38), 2, []) from by decide +kernel) (by decide) ?_
        refine e_icmp (t := 120) (show pAt 137 87 = some (87, .if_icmp .ne 33, 3, []) from by decide +kernel) rfl (fun c21 => ?_) (fun c21 => ?_)
        · replace vc := vc.1 c21
          refine e_aload_n (show pAt 137 120 = some (120, .aload_n 0, 1, []) from by decide +kernel) rfl (ra (by decide)) ?_
          refine e_gR (show pAt 137 121 = some (121, .getfield 89, 3, [7, 26, 0, 4149]) from by decide +kernel) (show HS h from hs) rfl (by decide) (hs_ref (show HS h from hs) rfl) ?_
          refine e_iload (show pAt 137 124 = some (124, .iload 4, 2, []) from by decide +kernel) rfl ?_
          refine e_iconst (c := 1) (show pAt 137 126 = some (126, .iconst 1, 1, []) from by decide +kernel) (by decide) ?_
          refine e_isub (show pAt 137 127 = some (127, .isub, 1, []) from by decide +kernel) ?_
          obtain ⟨c22, vc⟩ := vc
          refine e_bald (show pAt 137 128 = some (128, .baload, 1, []) from by decide +kernel) (show HS h from hs) (by decide) c22 ?_
          refine e_if (t := 142) (show pAt 137 129 = some (129, .ifCond .ne 13, 3, []) from by decide +kernel) rfl (fun c23 => ?_) (fun c23 => ?_)
          · replace vc := vc.1 c23
            refine e_iconst (c := 1) (show pAt 137 142 = some (142, .iconst 1, 1, []) from by decide +kernel) (by decide) ?_
            refine e_goto (t := 147) (show pAt 137 143 = some (143, .goto 4, 3, []) from by decide +kernel) rfl ?_
            obtain ⟨c24, vc⟩ := vc
            refine e_bast (show pAt 137 147 = some (147, .bastore, 1, []) from by decide +kernel) (show HS h from hs) (by decide) c24 (by decide) ?_
            refine e_goto (t := 247) (show pAt 137 148 = some (148, .goto 99, 3, []) from by decide +kernel) rfl ?_
            refine e_iinc (c := 1) (show pAt 137 247 = some (247, .iinc 5 1, 3, []) from by decide +kernel) rfl rfl (by decide) rfl ?_
            refine e_goto (t := 11) (show pAt 137 250 = some (250, .goto (-239), 3, []) from by decide +kernel) rfl ?_
            exact vc
          · replace vc := vc.2 c23
            refine e_aload_n (show pAt 137 132 = some (132, .aload_n 0, 1, []) from by decide +kernel) rfl (ra (by decide)) ?_
            refine e_gR (show pAt 137 133 = some (133, .getfield 89, 3, [7, 26, 0, 4149]) from by decide +kernel) (show HS h from hs) rfl (by decide) (hs_ref (show HS h from hs) rfl) ?_
            refine e_iload (show pAt 137 136 = some (136, .iload 4, 2, []) from by decide +kernel) rfl ?_
            obtain ⟨c25, vc⟩ := vc
            refine e_bald (show pAt 137 138 = some (138, .baload, 1, []) from by decide +kernel) (show HS h from hs) (by decide) c25 ?_
            refine e_if (t := 146) (show pAt 137 139 = some (139, .ifCond .eq 7, 3, []) from by decide +kernel) rfl (fun c26 => ?_) (fun c26 => ?_)
            · replace vc := vc.1 c26
              refine e_iconst (c := 0) (show pAt 137 146 = some (146, .iconst 0, 1, []) from by decide +kernel) (by decide) ?_
              obtain ⟨c27, vc⟩ := vc
              refine e_bast (show pAt 137 147 = some (147, .bastore, 1, []) from by decide +kernel) (show HS h from hs) (by decide) c27 (by decide) ?_
              refine e_goto (t := 247) (show pAt 137 148 = some (148, .goto 99, 3, []) from by decide +kernel) rfl ?_
              refine e_iinc (c := 1) (show pAt 137 247 = some (247, .iinc 5 1, 3, []) from by decide +kernel) rfl rfl (by decide) rfl ?_
              refine e_goto (t := 11) (show pAt 137 250 = some (250, .goto (-239), 3, []) from by decide +kernel) rfl ?_
              exact vc
            · replace vc := vc.2 c26
              refine e_iconst (c := 1) (show pAt 137 142 = some (142, .iconst 1, 1, []) from by decide +kernel) (by decide) ?_
              refine e_goto (t := 147) (show pAt 137 143 = some (143, .goto 4, 3, []) from by decide +kernel) rfl ?_
              obtain ⟨c28, vc⟩ := vc
              refine e_bast (show pAt 137 147 = some (147, .bastore, 1, []) from by decide +kernel) (show HS h from hs) (by decide) c28 (by decide) ?_
              refine e_goto (t := 247) (show pAt 137 148 = some (148, .goto 99, 3, []) from by decide +kernel) rfl ?_
              refine e_iinc (c := 1) (show pAt 137 247 = some (247, .iinc 5 1, 3, []) from by decide +kernel) rfl rfl (by decide) rfl ?_
              refine e_goto (t := 11) (show pAt 137 250 = some (250, .goto (-239), 3, []) from by decide +kernel) rfl ?_
              exact vc
        · replace vc := vc.2 c21
          refine e_aload_n (show pAt 137 90 = some (90, .aload_n 0, 1, []) from by decide +kernel) rfl (ra (by decide)) ?_
          refine e_gR (show pAt 137 91 = some (91, .getfield 89, 3, [7, 26, 0, 4149]) from by decide +kernel) (show HS h from hs) rfl (by decide) (hs_ref (show HS h from hs) rfl) ?_
          refine e_iload (show pAt 137 94 = some (94, .iload 4, 2, []) from by decide +kernel) rfl ?_
          refine e_iconst (c := 1) (show pAt 137 96 = some (96, .iconst 1, 1, []) from by decide +kernel) (by decide) ?_
          refine e_isub (show pAt 137 97 = some (97, .isub, 1, []) from by decide +kernel) ?_
          obtain ⟨c29, vc⟩ := vc
          refine e_bald (show pAt 137 98 = some (98, .baload, 1, []) from by decide +kernel) (show HS h from hs) (by decide) c29 ?_
          refine e_if (t := 116) (show pAt 137 99 = some (99, .ifCond .eq 17, 3, []) from by decide +kernel) rfl (fun c30 => ?_) (fun c30 => ?_)
          · replace vc := vc.1 c30
            refine e_iconst (c := 0) (show pAt 137 116 = some (116, .iconst 0, 1, []) from by decide +kernel) (by decide) ?_
            refine e_goto (t := 147) (show pAt 137 117 = some (117, .goto 30, 3, []) from by decide +kernel) rfl ?_
            obtain ⟨c31, vc⟩ := vc
            refine e_bast (show pAt 137 147 = some (147, .bastore, 1, []) from by decide +kernel) (show HS h from hs) (by decide) c31 (by decide) ?_
            refine e_goto (t := 247) (show pAt 137 148 = some (148, .goto 99, 3, []) from by decide +kernel) rfl ?_
            refine e_iinc (c := 1) (show pAt 137 247 = some (247, .iinc 5 1, 3, []) from by decide +kernel) rfl rfl (by decide) rfl ?_
            refine e_goto (t := 11) (show pAt 137 250 = some (250, .goto (-239), 3, []) from by decide +kernel) rfl ?_
            exact vc
          · replace vc := vc.2 c30
            refine e_aload_n (show pAt 137 102 = some (102, .aload_n 0, 1, []) from by decide +kernel) rfl (ra (by decide)) ?_
            refine e_gR (show pAt 137 103 = some (103, .getfield 89, 3, [7, 26, 0, 4149]) from by decide +kernel) (show HS h from hs) rfl (by decide) (hs_ref (show HS h from hs) rfl) ?_
            refine e_iload (show pAt 137 106 = some (106, .iload 4, 2, []) from by decide +kernel) rfl ?_
            obtain ⟨c32, vc⟩ := vc
            refine e_bald (show pAt 137 108 = some (108, .baload, 1, []) from by decide +kernel) (show HS h from hs) (by decide) c32 ?_
            refine e_if (t := 116) (show pAt 137 109 = some (109, .ifCond .eq 7, 3, []) from by decide +kernel) rfl (fun c33 => ?_) (fun c33 => ?_)
            · replace vc := vc.1 c33
              refine e_iconst (c := 0) (show pAt 137 116 = some (116, .iconst 0, 1, []) from by decide +kernel) (by decide) ?_
              refine e_goto (t := 147) (show pAt 137 117 = some (117, .goto 30, 3, []) from by decide +kernel) rfl ?_
              obtain ⟨c34, vc⟩ := vc
              refine e_bast (show pAt 137 147 = some (147, .bastore, 1, []) from by decide +kernel) (show HS h from hs) (by decide) c34 (by decide) ?_
              refine e_goto (t := 247) (show pAt 137 148 = some (148, .goto 99, 3, []) from by decide +kernel) rfl ?_
              refine e_iinc (c := 1) (show pAt 137 247 = some (247, .iinc 5 1, 3, []) from by decide +kernel) rfl rfl (by decide) rfl ?_
              refine e_goto (t := 11) (show pAt 137 250 = some (250, .goto (-239), 3, []) from by decide +kernel) rfl ?_
              exact vc
            · replace vc := vc.2 c33
              refine e_iconst (c := 1) (show pAt 137 112 = some (112, .iconst 1, 1, []) from by decide +kernel) (by decide) ?_
              refine e_goto (t := 147) (show pAt 137 113 = some (113, .goto 34, 3, []) from by decide +kernel) rfl ?_
              obtain ⟨c35, vc⟩ := vc
              refine e_bast (show pAt 137 147 = some (147, .bastore, 1, []) from by decide +kernel) (show HS h from hs) (by decide) c35 (by decide) ?_
              refine e_goto (t := 247) (show pAt 137 148 = some (148, .goto 99, 3, []) from by decide +kernel) rfl ?_
              refine e_iinc (c := 1) (show pAt 137 247 = some (247, .iinc 5 1, 3, []) from by decide +kernel) rfl rfl (by decide) rfl ?_
              refine e_goto (t := 11) (show pAt 137 250 = some (250, .goto (-239), 3, []) from by decide +kernel) rfl ?_
              exact vc
    · replace vc := vc.2 c5
      refine e_aload_n (show pAt 137 38 = some (38, .aload_n 0, 1, []) from by decide +kernel) rfl (ra (by decide)) ?_
      refine e_gR (show pAt 137 39 = some (39, .getfield 89, 3, [7, 26, 0, 4149]) from by decide +kernel) (show HS h from hs) rfl (by decide) (hs_ref (show HS h from hs) rfl) ?_
      refine e_iload (show pAt 137 42 = some (42, .iload 4, 2, []) from by decide +kernel) rfl ?_
      refine e_iconst (c := 1) (show pAt 137 44 = some (44, .iconst 1, 1, []) from by decide +kernel) (by decide) ?_
      refine e_isub (show pAt 137 45 = some (45, .isub, 1, []) from by decide +kernel) ?_
      refine e_aload_n (show pAt 137 46 = some (46, .aload_n 0, 1, []) from by decide +kernel) rfl (ra (by decide)) ?_
      refine e_gR (show pAt 137 47 = some (47, .getfield 89, 3, [7, 26, 0, 4149]) from by decide +kernel) (show HS h from hs) rfl (by decide) (hs_ref (show HS h from hs) rfl) ?_
      refine e_iload (show pAt 137 50 = some (50, .iload 4, 2, []) from by decide +kernel) rfl ?_
      refine e_iconst (c := 1) (show pAt 137 52 = some (52, .iconst 1, 1, []) from by decide +kernel) (by decide) ?_
      refine e_isub (show pAt 137 53 = some (53, .isub, 1, []) from by decide +kernel) ?_
      obtain ⟨c36, vc⟩ := vc
      refine e_bald (show pAt 137 54 = some (54, .baload, 1, []) from by decide +kernel) (show HS h from hs) (by decide) c36 ?_
      refine e_if (t := 62) (show pAt 137 55 = some (55, .ifCond .ne 7, 3, []) from by decide +kernel) rfl (fun c37 => ?_) (fun c37 => ?_)
      · replace vc := vc.1 c37
        refine e_iconst (c := 0) (show pAt 137 62 = some (62, .iconst 0, 1, []) from by decide +kernel) (by decide) ?_
        obtain ⟨c38, vc⟩ := vc
        refine e_bast (show pAt 137 63 = some (63, .bastore, 1, []) from by decide +kernel) (show HS h from hs) (by decide) c38 (by decide) ?_
        refine e_goto (t := 247) (show pAt 137 64 = some (64, .goto 183, 3, []) from by decide +kernel) rfl ?_
        refine e_iinc (c := 1) (show pAt 137 247 = some (247, .iinc 5 1, 3, []) from by decide +kernel) rfl rfl (by decide) rfl ?_
        refine e_goto (t := 11) (show pAt 137 250 = some (250, .goto (-239), 3, []) from by decide +kernel) rfl ?_
        exact vc
      · replace vc := vc.2 c37
        refine e_iconst (c := 1) (show pAt 137 58 = some (58, .iconst 1, 1, []) from by decide +kernel) (by decide) ?_
        refine e_goto (t := 63) (show pAt 137 59 = some (59, .goto 4, 3, []) from by decide +kernel) rfl ?_
        obtain ⟨c39, vc⟩ := vc
        refine e_bast (show pAt 137 63 = some (63, .bastore, 1, []) from by decide +kernel) (show HS h from hs) (by decide) c39 (by decide) ?_
        refine e_goto (t := 247) (show pAt 137 64 = some (64, .goto 183, 3, []) from by decide +kernel) rfl ?_
        refine e_iinc (c := 1) (show pAt 137 247 = some (247, .iinc 5 1, 3, []) from by decide +kernel) rfl rfl (by decide) rfl ?_
        refine e_goto (t := 11) (show pAt 137 250 = some (250, .goto (-239), 3, []) from by decide +kernel) rfl ?_
        exact vc

theorem w_lo0 {X : Scr} {dp : Nat} {h : Hp} {Q : Option Value → Hp → Prop}  (hs : HS h)
    (vc : Ends X dp 154 7 [.ref 93, .int 0, .retAddr 0] [] (hpI h 93 34 0) Q) :
    Ends X dp 154 0 [.ref 93, .retAddr 0, .retAddr 0] [] h Q := by
  have ra : ∀ {a : Nat}, a < 1000 → a ≤ OLDB := fun h => by have := OLDB_eq; omega
  refine e_aload_n (show pAt 154 0 = some (0, .aload_n 0, 1, []) from by decide +kernel) rfl (ra (by decide)) ?_
  refine e_iconst (c := 0) (show pAt 154 1 = some (1, .iconst 0, 1, []) from by decide +kernel) (by decide) ?_
  refine e_pI (show pAt 154 2 = some (2, .putfield 115, 3, [7, 34, 0, 4157]) from by decide +kernel) (show HS h from hs) (by decide) (Or.inl rfl) ?_
  refine e_iconst (c := 0) (show pAt 154 5 = some (5, .iconst 0, 1, []) from by decide +kernel) (by decide) ?_
  refine e_istore_n (show pAt 154 6 = some (6, .istore_n 1, 1, []) from by decide +kernel) ⟨Nat.le_of_ble_eq_true rfl, rfl⟩ rfl ?_
  exact vc

theorem w_lo7 {X : Scr} {dp : Nat} {h : Hp} {Q : Option Value → Hp → Prop} (p : Int32) (a : Value) (hs : HS h)
    (vc : ((condB .ge p (h.2.1 93 0) = true → ((condB .ge (h.2.1 93 30) 0 = true → Ends X (dp + 1) 154 86 [.ref 93, .int 0, a] [] h Q) ∧ (condB .ge (h.2.1 93 30) 0 = false → Q none h))) ∧ (condB .ge p (h.2.1 93 0) = false → Ends X dp 139 0 [.ref 93, .int p] [] h (fun rv h3 => ∃ r4, rv = some (.int r4) ∧ HS h3 ∧ ((condB .eq r4 0 = true → Ends X (dp + 1) 154 7 [.ref 93, .int (p + 1), a] [] h3 Q) ∧ (condB .eq r4 0 = false → ((condB .ne p (h3.2.1 93 30) = true → Ends X (dp + 1) 154 36 [.ref 93, .int p, .int 0] [] h3 Q) ∧ (condB .ne p (h3.2.1 93 30) = false → Ends X (dp + 1) 154 7 [.ref 93, .int (p + 1), a] [] h3 Q)))))))) :
    Ends X (dp + 1) 154 7 [.ref 93, .int p, a] [] h Q := by
  have ra : ∀ {a : Nat}, a < 1000 → a ≤ OLDB := fun h => by have := OLDB_eq; omega
  refine e_iload_n (show pAt 154 7 = some (7, .iload_n 1, 1, []) from by decide +kernel) rfl ?_
  refine e_aload_n (show pAt 154 8 = some (8, .aload_n 0, 1, []) from by decide +kernel) rfl (ra (by decide)) ?_
  refine e_gI (show pAt 154 9 = some (9, .getfield 7, 3, [7, 0, 0, 4123]) from by decide +kernel) (show HS h from hs) rfl (by decide) ?_
  refine e_icmp (t := 76) (show pAt 154 12 = some (12, .if_icmp .ge 64, 3, []) from by decide +kernel) rfl (fun c1 => ?_) (fun c1 => ?_)
  · replace vc := vc.1 c1
    refine e_aload_n (show pAt 154 76 = some (76, .aload_n 0, 1, []) from by decide +kernel) rfl (ra (by decide)) ?_
    refine e_gI (show pAt 154 77 = some (77, .getfield 103, 3, [7, 30, 0, 4153]) from by decide +kernel) (show HS h from hs) rfl (by decide) ?_
    refine e_if (t := 84) (show pAt 154 80 = some (80, .ifCond .ge 4, 3, []) from by decide +kernel) rfl (fun c2 => ?_) (fun c2 => ?_)
    · replace vc := vc.1 c2
      refine e_iconst (c := 0) (show pAt 154 84 = some (84, .iconst 0, 1, []) from by decide +kernel) (by decide) ?_
      refine e_istore_n (show pAt 154 85 = some (85, .istore_n 1, 1, []) from by decide +kernel) ⟨Nat.le_of_ble_eq_true rfl, rfl⟩ rfl ?_
      exact vc
    · replace vc := vc.2 c2
      exact e_retV (show pAt 154 83 = some (83, .return_, 1, []) from by decide +kernel) rfl vc
  · replace vc := vc.2 c1
    refine e_aload_n (show pAt 154 15 = some (15, .aload_n 0, 1, []) from by decide +kernel) rfl (ra (by decide)) ?_
    refine e_iload_n (show pAt 154 16 = some (16, .iload_n 1, 1, []) from by decide +kernel) rfl ?_
    refine Ends.call (show pAt 154 17 = some (17, .invokevirtual 291, 3, [139, 2, 0, 0, 5169, 5171, 70]) from by decide +kernel) (isRet_none rfl) rfl (call_this (show HS h from hs) rfl rfl (by decide)) (Ends.mono vc ?_)
    rintro _ h3 ⟨r4, rfl, hs_h3, vc⟩
    refine e_if (t := 70) (show pAt 154 20 = some (20, .ifCond .eq 50, 3, []) from by decide +kernel) rfl (fun c6 => ?_) (fun c6 => ?_)
    · replace vc := vc.1 c6
      refine e_iinc (c := 1) (show pAt 154 70 = some (70, .iinc 1 1, 3, []) from by decide +kernel) rfl rfl (by decide) rfl ?_
      refine e_goto (t := 7) (show pAt 154 73 = some (73, .goto (-66), 3, []) from by decide +kernel) rfl ?_
      exact vc
    · replace vc := vc.2 c6
      refine e_iload_n (show pAt 154 23 = some (23, .iload_n 1, 1, []) from by decide +kernel) rfl ?_
      refine e_aload_n (show pAt 154 24 = some (24, .aload_n 0, 1, []) from by decide +kernel) rfl (ra (by decide)) ?_
      refine e_gI (show pAt 154 25 = some (25, .getfield 103, 3, [7, 30, 0, 4153]) from by decide +kernel) (show HS h3 from hs_h3) rfl (by decide) ?_
      refine e_icmp (t := 34) (show pAt 154 28 = some (28, .if_icmp .ne 6, 3, []) from by decide +kernel) rfl (fun c7 => ?_) (fun c7 => ?_)
      · replace vc := vc.1 c7
        refine e_iconst (c := 0) (show pAt 154 34 = some (34, .iconst 0, 1, []) from by decide +kernel) (by decide) ?_
        refine e_istore_n (show pAt 154 35 = some (35, .istore_n 2, 1, []) from by decide +kernel) ⟨Nat.le_of_ble_eq_true rfl, rfl⟩ rfl ?_
        exact vc
      · replace vc := vc.2 c7
        refine e_goto (t := 70) (show pAt 154 31 = some (31, .goto 39, 3, []) from by decide +kernel) rfl ?_
        refine e_iinc (c := 1) (show pAt 154 70 = some (70, .iinc 1 1, 3, []) from by decide +kernel) rfl rfl (by decide) rfl ?_
        refine e_goto (t := 7) (show pAt 154 73 = some (73, .goto (-66), 3, []) from by decide +kernel) rfl ?_
        exact vc

theorem w_lo36 {X : Scr} {dp : Nat} {h : Hp} {Q : Option Value → Hp → Prop} (p : Int32) (k : Int32) (hs : HS h)
    (vc : ((condB .ge k (h.2.1 93 34) = true → Ends X dp 153 0 [.ref 93, .int p, .int k, .retAddr 0] [] h (fun rv h2 => rv = none ∧ HS h2 ∧ Ends X (dp + 1) 154 7 [.ref 93, .int (p + 1), .int k] [] h2 Q)) ∧ (condB .ge k (h.2.1 93 34) = false → (inB k 7 = true ∧ Ends X dp 152 0 [.ref 93, .int (h.2.1 110 k.toNatClampNeg), .int p] [] h (fun rv h6 => ∃ r7, rv = some (.int r7) ∧ HS h6 ∧ ((condB .eq r7 0 = true → Ends X dp 153 0 [.ref 93, .int p, .int k, .retAddr 0] [] h6 (fun rv h10 => rv = none ∧ HS h10 ∧ Ends X (dp + 1) 154 7 [.ref 93, .int (p + 1), .int k] [] h10 Q)) ∧ (condB .eq r7 0 = false → Ends X (dp + 1) 154 36 [.ref 93, .int p, .int (k + 1)] [] h6 Q))))))) :
    Ends X (dp + 1) 154 36 [.ref 93, .int p, .int k] [] h Q := by
  have ra : ∀ {a : Nat}, a < 1000 → a ≤ OLDB := fun h => by have := OLDB_eq; omega
  refine e_iload_n (show pAt 154 36 = some (36, .iload_n 2, 1, []) from by decide +kernel) rfl ?_
  refine e_aload_n (show pAt 154 37 = some (37, .aload_n 0, 1, []) from by decide +kernel) rfl (ra (by decide)) ?_
  refine e_gI (show pAt 154 38 = some (38, .getfield 115, 3, [7, 34, 0, 4157]) from by decide +kernel) (show HS h from hs) rfl (by decide) ?_
  refine e_icmp (t := 64) (show pAt 154 41 = some (41, .if_icmp .ge 23, 3, []) from by decide +kernel) rfl (fun c1 => ?_) (fun c1 => ?_)
  · replace vc := vc.1 c1
    refine e_aload_n (show pAt 154 64 = some (64, .aload_n 0, 1, []) from by decide +kernel) rfl (ra (by decide)) ?_
    refine e_iload_n (show pAt 154 65 = some (65, .iload_n 1, 1, []) from by decide +kernel) rfl ?_
    refine e_iload_n (show pAt 154 66 = some (66, .iload_n 2, 1, []) from by decide +kernel) rfl ?_
    refine Ends.call (show pAt 154 67 = some (67, .invokevirtual 320, 3, [153, 3, 0, 0, 6025, 6027, 92]) from by decide +kernel) (isRet_none rfl) rfl (call_this (show HS h from hs) rfl rfl (by decide)) (Ends.mono vc ?_)
    rintro _ h2 ⟨rfl, hs_h2, vc⟩
    refine e_iinc (c := 1) (show pAt 154 70 = some (70, .iinc 1 1, 3, []) from by decide +kernel) rfl rfl (by decide) rfl ?_
    refine e_goto (t := 7) (show pAt 154 73 = some (73, .goto (-66), 3, []) from by decide +kernel) rfl ?_
    exact vc
  · replace vc := vc.2 c1
    refine e_aload_n (show pAt 154 44 = some (44, .aload_n 0, 1, []) from by decide +kernel) rfl (ra (by decide)) ?_
    refine e_aload_n (show pAt 154 45 = some (45, .aload_n 0, 1, []) from by decide +kernel) rfl (ra (by decide)) ?_
    refine e_gR (show pAt 154 46 = some (46, .getfield 112, 3, [7, 33, 0, 4156]) from by decide +kernel) (show HS h from hs) rfl (by decide) (hs_ref (show HS h from hs) rfl) ?_
    refine e_iload_n (show pAt 154 49 = some (49, .iload_n 2, 1, []) from by decide +kernel) rfl ?_
    obtain ⟨c5, vc⟩ := vc
    refine e_ald (show pAt 154 50 = some (50, .iaload, 1, []) from by decide +kernel) (show HS h from hs) (by decide) c5 ?_
    refine e_iload_n (show pAt 154 51 = some (51, .iload_n 1, 1, []) from by decide +kernel) rfl ?_
    refine Ends.call (show pAt 154 52 = some (52, .invokevirtual 317, 3, [152, 3, 0, 0, 6017, 6019, 90]) from by decide +kernel) (isRet_none rfl) rfl (call_this (show HS h from hs) rfl rfl (by decide)) (Ends.mono vc ?_)
    rintro _ h6 ⟨r7, rfl, hs_h6, vc⟩
    refine e_if (t := 64) (show pAt 154 55 = some (55, .ifCond .eq 9, 3, []) from by decide +kernel) rfl (fun c9 => ?_) (fun c9 => ?_)
    · replace vc := vc.1 c9
      refine e_aload_n (show pAt 154 64 = some (64, .aload_n 0, 1, []) from by decide +kernel) rfl (ra (by decide)) ?_
      refine e_iload_n (show pAt 154 65 = some (65, .iload_n 1, 1, []) from by decide +kernel) rfl ?_
      refine e_iload_n (show pAt 154 66 = some (66, .iload_n 2, 1, []) from by decide +kernel) rfl ?_
      refine Ends.call (show pAt 154 67 = some (67, .invokevirtual 320, 3, [153, 3, 0, 0, 6025, 6027, 92]) from by decide +kernel) (isRet_none rfl) rfl (call_this (show HS h6 from hs_h6) rfl rfl (by decide)) (Ends.mono vc ?_)
      rintro _ h10 ⟨rfl, hs_h10, vc⟩
      refine e_iinc (c := 1) (show pAt 154 70 = some (70, .iinc 1 1, 3, []) from by decide +kernel) rfl rfl (by decide) rfl ?_
      refine e_goto (t := 7) (show pAt 154 73 = some (73, .goto (-66), 3, []) from by decide +kernel) rfl ?_
      exact vc
    · replace vc := vc.2 c9
      refine e_iinc (c := 1) (show pAt 154 58 = some (58, .iinc 2 1, 3, []) from by decide +kernel) rfl rfl (by decide) rfl ?_
      refine e_goto (t := 36) (show pAt 154 61 = some (61, .goto (-25), 3, []) from by decide +kernel) rfl ?_
      exact vc

theorem w_lo86 {X : Scr} {dp : Nat} {h : Hp} {Q : Option Value → Hp → Prop} (k : Int32) (a : Value) (hs : HS h)
    (vc : (inB k 7 = true ∧ ((condB .eq (h.2.1 110 k.toNatClampNeg) (h.2.1 93 31) = true → Ends X dp 153 0 [.ref 93, .int (h.2.1 93 30), .int (k + 1), .retAddr 0] [] h (fun rv h3 => rv = none ∧ HS h3 ∧ Q none h3)) ∧ (condB .eq (h.2.1 110 k.toNatClampNeg) (h.2.1 93 31) = false → Ends X (dp + 1) 154 86 [.ref 93, .int (k + 1), a] [] h Q)))) :
    Ends X (dp + 1) 154 86 [.ref 93, .int k, a] [] h Q := by
  have ra : ∀ {a : Nat}, a < 1000 → a ≤ OLDB := fun h => by have := OLDB_eq; omega
  refine e_aload_n (show pAt 154 86 = some (86, .aload_n 0, 1, []) from by decide +kernel) rfl (ra (by decide)) ?_
  refine e_gR (show pAt 154 87 = some (87, .getfield 112, 3, [7, 33, 0, 4156]) from by decide +kernel) (show HS h from hs) rfl (by decide) (hs_ref (show HS h from hs) rfl) ?_
  refine e_iload_n (show pAt 154 90 = some (90, .iload_n 1, 1, []) from by decide +kernel) rfl ?_
  obtain ⟨c1, vc⟩ := vc
  refine e_ald (show pAt 154 91 = some (91, .iaload, 1, []) from by decide +kernel) (show HS h from hs) (by decide) c1 ?_
  refine e_aload_n (show pAt 154 92 = some (92, .aload_n 0, 1, []) from by decide +kernel) rfl (ra (by decide)) ?_
  refine e_gI (show pAt 154 93 = some (93, .getfield 106, 3, [7, 31, 0, 4154]) from by decide +kernel) (show HS h from hs) rfl (by decide) ?_
  refine e_icmp (t := 105) (show pAt 154 96 = some (96, .if_icmp .eq 9, 3, []) from by decide +kernel) rfl (fun c2 => ?_) (fun c2 => ?_)
  · replace vc := vc.1 c2
    refine e_aload_n (show pAt 154 105 = some (105, .aload_n 0, 1, []) from by decide +kernel) rfl (ra (by decide)) ?_
    refine e_aload_n (show pAt 154 106 = some (106, .aload_n 0, 1, []) from by decide +kernel) rfl (ra (by decide)) ?_
    refine e_gI (show pAt 154 107 = some (107, .getfield 103, 3, [7, 30, 0, 4153]) from by decide +kernel) (show HS h from hs) rfl (by decide) ?_
    refine e_iload_n (show pAt 154 110 = some (110, .iload_n 1, 1, []) from by decide +kernel) rfl ?_
    refine e_iconst (c := 1) (show pAt 154 111 = some (111, .iconst 1, 1, []) from by decide +kernel) (by decide) ?_
    refine e_iadd (show pAt 154 112 = some (112, .iadd, 1, []) from by decide +kernel) ?_
    refine Ends.call (show pAt 154 113 = some (113, .invokevirtual 320, 3, [153, 3, 0, 0, 6025, 6027, 92]) from by decide +kernel) (isRet_none rfl) rfl (call_this (show HS h from hs) rfl rfl (by decide)) (Ends.mono vc ?_)
    rintro _ h3 ⟨rfl, hs_h3, vc⟩
    exact e_retV (show pAt 154 116 = some (116, .return_, 1, []) from by decide +kernel) rfl vc
  · replace vc := vc.2 c2
    refine e_iinc (c := 1) (show pAt 154 99 = some (99, .iinc 1 1, 3, []) from by decide +kernel) rfl rfl (by decide) rfl ?_
    refine e_goto (t := 86) (show pAt 154 102 = some (102, .goto (-16), 3, []) from by decide +kernel) rfl ?_
    exact vc
