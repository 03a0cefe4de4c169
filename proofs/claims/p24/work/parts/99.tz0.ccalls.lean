/-! What is owed for the calls that ask of a shout: the class. -/
theorem w_casks {X : Scr} {dp : Nat} {h : Hp} {Q : Option Value → Hp → Prop}  (hs : HS h)
    (vc : ((condB .lt (h.2.1 1 12) 0 = true → Ends X dp 6 0 [.ref 17, .ref 1, .ref 39] [] h (fun rv h2 => rv = none ∧ HS h2 ∧ Q none h2)) ∧ (condB .lt (h.2.1 1 12) 0 = false → ((condB .ge (h.2.1 1 12) 6 = true → Ends X dp 6 0 [.ref 17, .ref 1, .ref 39] [] h (fun rv h6 => rv = none ∧ HS h6 ∧ Q none h6)) ∧ (condB .ge (h.2.1 1 12) 6 = false → (∃ b9 : Nat, (inB (h.2.1 1 12) 6 = true ∧ (h.2.2.2 38 (h.2.1 1 12).toNatClampNeg = some b9 ∧ (b9 < 1000 ∧ Ends X dp 6 0 [.ref 17, .ref 1, .ref b9] [] h (fun rv h13 => rv = none ∧ HS h13 ∧ Q none h13)))))))))) :
    Ends X (dp + 1) 100 0 [.ref 0, .retAddr 0] [] h Q := by
  have ra : ∀ {a : Nat}, a < 1000 → a ≤ OLDB := fun h => by have := OLDB_eq; omega
  refine e_aload_n (show pAt 100 0 = some (0, .aload_n 0, 1, []) from by decide +kernel) rfl (ra (by decide)) ?_
  refine e_gR (show pAt 100 1 = some (1, .getfield 12, 3, [6, 0, 0, 2022]) from by decide +kernel) (show HS h from hs) rfl (by decide) (hs_ref (show HS h from hs) rfl) ?_
  refine e_gIv (v := h.2.1 1 12) (show pAt 100 4 = some (4, .getfield 117, 3, [2, 12, 1, 1065]) from by decide +kernel) (show HS h from hs) rfl (by decide) rfl ?_
  refine e_istore_n (show pAt 100 7 = some (7, .istore_n 1, 1, []) from by decide +kernel) ⟨Nat.le_of_ble_eq_true rfl, rfl⟩ rfl ?_
  refine e_aload_n (show pAt 100 8 = some (8, .aload_n 0, 1, []) from by decide +kernel) rfl (ra (by decide)) ?_
  refine e_gR (show pAt 100 9 = some (9, .getfield 24, 3, [6, 3, 0, 2025]) from by decide +kernel) (show HS h from hs) rfl (by decide) (hs_ref (show HS h from hs) rfl) ?_
  refine e_aload_n (show pAt 100 12 = some (12, .aload_n 0, 1, []) from by decide +kernel) rfl (ra (by decide)) ?_
  refine e_gR (show pAt 100 13 = some (13, .getfield 12, 3, [6, 0, 0, 2022]) from by decide +kernel) (show HS h from hs) rfl (by decide) (hs_ref (show HS h from hs) rfl) ?_
  refine e_iload_n (show pAt 100 16 = some (16, .iload_n 1, 1, []) from by decide +kernel) rfl ?_
  refine e_if (t := 35) (show pAt 100 17 = some (17, .ifCond .lt 18, 3, []) from by decide +kernel) rfl (fun c1 => ?_) (fun c1 => ?_)
  · replace vc := vc.1 c1
    refine e_aload_n (show pAt 100 35 = some (35, .aload_n 0, 1, []) from by decide +kernel) rfl (ra (by decide)) ?_
    refine e_gR (show pAt 100 36 = some (36, .getfield 35, 3, [6, 5, 0, 2027]) from by decide +kernel) (show HS h from hs) rfl (by decide) (hs_ref (show HS h from hs) rfl) ?_
    refine Ends.call (show pAt 100 39 = some (39, .invokevirtual 265, 3, [6, 3, 0, 1, 2090, 2092, 5]) from by decide +kernel) (isRet_none rfl) rfl (call_this (show HS h from hs) rfl rfl (by decide)) (Ends.mono vc ?_)
    rintro _ h2 ⟨rfl, hs_h2, vc⟩
    exact e_retV (show pAt 100 42 = some (42, .return_, 1, []) from by decide +kernel) rfl vc
  · replace vc := vc.2 c1
    refine e_iload_n (show pAt 100 20 = some (20, .iload_n 1, 1, []) from by decide +kernel) rfl ?_
    refine e_bipush (c := 6) (show pAt 100 21 = some (21, .bipush 6, 2, []) from by decide +kernel) (by decide) ?_
    refine e_icmp (t := 35) (show pAt 100 23 = some (23, .if_icmp .ge 12, 3, []) from by decide +kernel) rfl (fun c5 => ?_) (fun c5 => ?_)
    · replace vc := vc.1 c5
      refine e_aload_n (show pAt 100 35 = some (35, .aload_n 0, 1, []) from by decide +kernel) rfl (ra (by decide)) ?_
      refine e_gR (show pAt 100 36 = some (36, .getfield 35, 3, [6, 5, 0, 2027]) from by decide +kernel) (show HS h from hs) rfl (by decide) (hs_ref (show HS h from hs) rfl) ?_
      refine Ends.call (show pAt 100 39 = some (39, .invokevirtual 265, 3, [6, 3, 0, 1, 2090, 2092, 5]) from by decide +kernel) (isRet_none rfl) rfl (call_this (show HS h from hs) rfl rfl (by decide)) (Ends.mono vc ?_)
      rintro _ h6 ⟨rfl, hs_h6, vc⟩
      exact e_retV (show pAt 100 42 = some (42, .return_, 1, []) from by decide +kernel) rfl vc
    · replace vc := vc.2 c5
      refine e_aload_n (show pAt 100 26 = some (26, .aload_n 0, 1, []) from by decide +kernel) rfl (ra (by decide)) ?_
      refine e_gR (show pAt 100 27 = some (27, .getfield 30, 3, [6, 4, 0, 2026]) from by decide +kernel) (show HS h from hs) rfl (by decide) (hs_ref (show HS h from hs) rfl) ?_
      refine e_iload_n (show pAt 100 30 = some (30, .iload_n 1, 1, []) from by decide +kernel) rfl ?_
      obtain ⟨b9, c10, c11, c12, vc⟩ := vc
      refine e_aald (t := 3) (show pAt 100 31 = some (31, .aaload, 1, []) from by decide +kernel) (show HS h from hs) (by decide) c10 c11 c12 ?_
      refine e_goto (t := 39) (show pAt 100 32 = some (32, .goto 7, 3, []) from by decide +kernel) rfl ?_
      refine Ends.call (show pAt 100 39 = some (39, .invokevirtual 265, 3, [6, 3, 0, 1, 2090, 2092, 5]) from by decide +kernel) (isRet_none rfl) rfl (call_this (show HS h from hs) rfl rfl (by decide)) (Ends.mono vc ?_)
      rintro _ h13 ⟨rfl, hs_h13, vc⟩
      exact e_retV (show pAt 100 42 = some (42, .return_, 1, []) from by decide +kernel) rfl vc

theorem w_cstt {X : Scr} {dp : Nat} {h : Hp} {Q : Option Value → Hp → Prop} {q : Nat} (hY : YB q) (hs : HS h)
    (vc : Ends X dp 33 0 [.ref 18, .ref 1] [] h (fun rv h1 => rv = none ∧ HS h1 ∧ Q none (hpI (hpI (hpI (hpI (hpY h1 q) 17 9 0) 17 12 0) 17 13 (-1)) 17 15 (-1)))) :
    Ends X (dp + 1) 6 0 [.ref 17, .ref 1, .ref q] [] h Q := by
  have ra : ∀ {a : Nat}, a < 1000 → a ≤ OLDB := fun h => by have := OLDB_eq; omega
  have hqr := yb_rng hY
  have hOB := OLDB_eq
  refine e_aload_n (show pAt 6 0 = some (0, .aload_n 0, 1, []) from by decide +kernel) rfl (ra (by decide)) ?_
  refine e_gR (show pAt 6 1 = some (1, .getfield 12, 3, [1, 0, 0, 1127]) from by decide +kernel) (show HS h from hs) rfl (by decide) (hs_ref (show HS h from hs) rfl) ?_
  refine e_aload_n (show pAt 6 4 = some (4, .aload_n 1, 1, []) from by decide +kernel) rfl (ra (by decide)) ?_
  refine Ends.call (show pAt 6 5 = some (5, .invokevirtual 47, 3, [33, 2, 0, 1, 2094, 2096, 6]) from by decide +kernel) (isRet_none rfl) rfl (call_this (show HS h from hs) rfl rfl (by decide)) (Ends.mono vc ?_)
  rintro _ h1 ⟨rfl, hs_h1, vc⟩
  refine e_aload_n (show pAt 6 8 = some (8, .aload_n 0, 1, []) from by decide +kernel) rfl (ra (by decide)) ?_
  refine e_aload_n (show pAt 6 9 = some (9, .aload_n 2, 1, []) from by decide +kernel) rfl (show q ≤ OLDB by omega) ?_
  refine e_pY (show pAt 6 10 = some (10, .putfield 21, 3, [1, 1, 0, 1129]) from by decide +kernel) (show HS h1 from hs_h1) hY ?_
  refine e_aload_n (show pAt 6 13 = some (13, .aload_n 0, 1, []) from by decide +kernel) rfl (ra (by decide)) ?_
  refine e_iconst (c := 0) (show pAt 6 14 = some (14, .iconst 0, 1, []) from by decide +kernel) (by decide) ?_
  refine e_pI (show pAt 6 15 = some (15, .putfield 51, 3, [1, 9, 0, 1141]) from by decide +kernel) (show HS (hpY h1 q) from hs_Y hY hs_h1) (by decide) (Or.inl rfl) ?_
  refine e_aload_n (show pAt 6 18 = some (18, .aload_n 0, 1, []) from by decide +kernel) rfl (ra (by decide)) ?_
  refine e_iconst (c := 0) (show pAt 6 19 = some (19, .iconst 0, 1, []) from by decide +kernel) (by decide) ?_
  refine e_pI (show pAt 6 20 = some (20, .putfield 55, 3, [1, 12, 0, 1145]) from by decide +kernel) (show HS (hpI (hpY h1 q) 17 9 0) from hs_Y hY hs_h1) (by decide) (Or.inr (by decide)) ?_
  refine e_aload_n (show pAt 6 23 = some (23, .aload_n 0, 1, []) from by decide +kernel) rfl (ra (by decide)) ?_
  refine e_iconst (c := (-1)) (show pAt 6 24 = some (24, .iconst (-1), 1, []) from by decide +kernel) (by decide) ?_
  refine e_pI (show pAt 6 25 = some (25, .putfield 59, 3, [1, 13, 0, 1147]) from by decide +kernel) (show HS (hpI (hpI (hpY h1 q) 17 9 0) 17 12 0) from hs_Y hY hs_h1) (by decide) (Or.inl rfl) ?_
  refine e_aload_n (show pAt 6 28 = some (28, .aload_n 0, 1, []) from by decide +kernel) rfl (ra (by decide)) ?_
  refine e_iconst (c := (-1)) (show pAt 6 29 = some (29, .iconst (-1), 1, []) from by decide +kernel) (by decide) ?_
  refine e_pI (show pAt 6 30 = some (30, .putfield 62, 3, [1, 15, 0, 1149]) from by decide +kernel) (show HS (hpI (hpI (hpI (hpY h1 q) 17 9 0) 17 12 0) 17 13 (-1)) from hs_Y hY hs_h1) (by decide) (Or.inl rfl) ?_
  exact e_retV (show pAt 6 33 = some (33, .return_, 1, []) from by decide +kernel) rfl vc

theorem w_bec181 {X : Scr} {dp : Nat} {h : Hp} {Q : Option Value → Hp → Prop}  (hs : HS h)
    (vc : Q none (hpI (hpI (hpM (hpI (hpI (hpI (hpM (hpM (hpM (hpM (hpM (hpM (hpI h 18 0 (h.2.1 1 0)) 19 2 0 0 7) 20 3 0 0 7) 21 4 0 0 7) 22 5 0 0 7) 23 6 0 0 7) 24 7 0 0 28) 18 7 (h.2.1 1 7)) 18 8 (h.2.1 1 8)) 18 9 (h.2.1 1 9)) 25 8 0 0 12) 18 11 (h.2.1 1 11)) 18 12 (h.2.1 1 12))) :
    Ends X dp 33 0 [.ref 18, .ref 1] [] h Q := by
  have ra : ∀ {a : Nat}, a < 1000 → a ≤ OLDB := fun h => by have := OLDB_eq; omega
  refine e_aload_n (show pAt 33 0 = some (0, .aload_n 0, 1, []) from by decide +kernel) rfl (ra (by decide)) ?_
  refine e_aload_n (show pAt 33 1 = some (1, .aload_n 1, 1, []) from by decide +kernel) rfl (ra (by decide)) ?_
  refine e_gIv (v := h.2.1 1 0) (show pAt 33 2 = some (2, .getfield 37, 3, [2, 0, 0, 1032]) from by decide +kernel) (show HS h from hs) rfl (by decide) rfl ?_
  refine e_pI (show pAt 33 5 = some (5, .putfield 37, 3, [2, 0, 0, 1032]) from by decide +kernel) (show HS h from hs) (by decide) (Or.inl rfl) ?_
  refine e_aload_n (show pAt 33 8 = some (8, .aload_n 1, 1, []) from by decide +kernel) rfl (ra (by decide)) ?_
  refine e_gR (show pAt 33 9 = some (9, .getfield 9, 3, [2, 1, 0, 1034]) from by decide +kernel) (show HS (hpI h 18 0 (h.2.1 1 0)) from hs) rfl (by decide) (hs_ref (show HS (hpI h 18 0 (h.2.1 1 0)) from hs) rfl) ?_
  refine e_iconst (c := 0) (show pAt 33 12 = some (12, .iconst 0, 1, []) from by decide +kernel) (by decide) ?_
  refine e_aload_n (show pAt 33 13 = some (13, .aload_n 0, 1, []) from by decide +kernel) rfl (ra (by decide)) ?_
  refine e_gR (show pAt 33 14 = some (14, .getfield 9, 3, [2, 1, 0, 1034]) from by decide +kernel) (show HS (hpI h 18 0 (h.2.1 1 0)) from hs) rfl (by decide) (hs_ref (show HS (hpI h 18 0 (h.2.1 1 0)) from hs) rfl) ?_
  refine e_iconst (c := 0) (show pAt 33 17 = some (17, .iconst 0, 1, []) from by decide +kernel) (by decide) ?_
  refine e_bipush (c := 7) (show pAt 33 18 = some (18, .bipush 7, 2, []) from by decide +kernel) (by decide) ?_
  refine e_cpyI (m := 7) (m' := 7) (sn := 0) (dn := 0) (nn := 7) (show pAt 33 20 = some (20, .invokestatic 57, 3, [9998, 5, 2, 0, 2098]) from by decide +kernel) (show HS (hpI h 18 0 (h.2.1 1 0)) from hs) (by decide) (by decide) ?_
  refine e_aload_n (show pAt 33 23 = some (23, .aload_n 1, 1, []) from by decide +kernel) rfl (ra (by decide)) ?_
  refine e_gR (show pAt 33 24 = some (24, .getfield 15, 3, [2, 2, 0, 1037]) from by decide +kernel) (show HS (hpM (hpI h 18 0 (h.2.1 1 0)) 19 2 0 0 7) from hs) rfl (by decide) (hs_ref (show HS (hpM (hpI h 18 0 (h.2.1 1 0)) 19 2 0 0 7) from hs) rfl) ?_
  refine e_iconst (c := 0) (show pAt 33 27 = some (27, .iconst 0, 1, []) from by decide +kernel) (by decide) ?_
  refine e_aload_n (show pAt 33 28 = some (28, .aload_n 0, 1, []) from by decide +kernel) rfl (ra (by decide)) ?_
  refine e_gR (show pAt 33 29 = some (29, .getfield 15, 3, [2, 2, 0, 1037]) from by decide +kernel) (show HS (hpM (hpI h 18 0 (h.2.1 1 0)) 19 2 0 0 7) from hs) rfl (by decide) (hs_ref (show HS (hpM (hpI h 18 0 (h.2.1 1 0)) 19 2 0 0 7) from hs) rfl) ?_
  refine e_iconst (c := 0) (show pAt 33 32 = some (32, .iconst 0, 1, []) from by decide +kernel) (by decide) ?_
  refine e_bipush (c := 7) (show pAt 33 33 = some (33, .bipush 7, 2, []) from by decide +kernel) (by decide) ?_
  refine e_cpyI (m := 7) (m' := 7) (sn := 0) (dn := 0) (nn := 7) (show pAt 33 35 = some (35, .invokestatic 57, 3, [9998, 5, 2, 0, 2098]) from by decide +kernel) (show HS (hpM (hpI h 18 0 (h.2.1 1 0)) 19 2 0 0 7) from hs) (by decide) (by decide) ?_
  refine e_aload_n (show pAt 33 38 = some (38, .aload_n 1, 1, []) from by decide +kernel) rfl (ra (by decide)) ?_
  refine e_gR (show pAt 33 39 = some (39, .getfield 18, 3, [2, 3, 0, 1040]) from by decide +kernel) (show HS (hpM (hpM (hpI h 18 0 (h.2.1 1 0)) 19 2 0 0 7) 20 3 0 0 7) from hs) rfl (by decide) (hs_ref (show HS (hpM (hpM (hpI h 18 0 (h.2.1 1 0)) 19 2 0 0 7) 20 3 0 0 7) from hs) rfl) ?_
  refine e_iconst (c := 0) (show pAt 33 42 = some (42, .iconst 0, 1, []) from by decide +kernel) (by decide) ?_
  refine e_aload_n (show pAt 33 43 = some (43, .aload_n 0, 1, []) from by decide +kernel) rfl (ra (by decide)) ?_
  refine e_gR (show pAt 33 44 = some (44, .getfield 18, 3, [2, 3, 0, 1040]) from by decide +kernel) (show HS (hpM (hpM (hpI h 18 0 (h.2.1 1 0)) 19 2 0 0 7) 20 3 0 0 7) from hs) rfl (by decide) (hs_ref (show HS (hpM (hpM (hpI h 18 0 (h.2.1 1 0)) 19 2 0 0 7) 20 3 0 0 7) from hs) rfl) ?_
  refine e_iconst (c := 0) (show pAt 33 47 = some (47, .iconst 0, 1, []) from by decide +kernel) (by decide) ?_
  refine e_bipush (c := 7) (show pAt 33 48 = some (48, .bipush 7, 2, []) from by decide +kernel) (by decide) ?_
  refine e_cpyI (m := 7) (m' := 7) (sn := 0) (dn := 0) (nn := 7) (show pAt 33 50 = some (50, .invokestatic 57, 3, [9998, 5, 2, 0, 2098]) from by decide +kernel) (show HS (hpM (hpM (hpI h 18 0 (h.2.1 1 0)) 19 2 0 0 7) 20 3 0 0 7) from hs) (by decide) (by decide) ?_
  refine e_aload_n (show pAt 33 53 = some (53, .aload_n 1, 1, []) from by decide +kernel) rfl (ra (by decide)) ?_
  refine e_gR (show pAt 33 54 = some (54, .getfield 21, 3, [2, 4, 0, 1043]) from by decide +kernel) (show HS (hpM (hpM (hpM (hpI h 18 0 (h.2.1 1 0)) 19 2 0 0 7) 20 3 0 0 7) 21 4 0 0 7) from hs) rfl (by decide) (hs_ref (show HS (hpM (hpM (hpM (hpI h 18 0 (h.2.1 1 0)) 19 2 0 0 7) 20 3 0 0 7) 21 4 0 0 7) from hs) rfl) ?_
  refine e_iconst (c := 0) (show pAt 33 57 = some (57, .iconst 0, 1, []) from by decide +kernel) (by decide) ?_
  refine e_aload_n (show pAt 33 58 = some (58, .aload_n 0, 1, []) from by decide +kernel) rfl (ra (by decide)) ?_
  refine e_gR (show pAt 33 59 = some (59, .getfield 21, 3, [2, 4, 0, 1043]) from by decide +kernel) (show HS (hpM (hpM (hpM (hpI h 18 0 (h.2.1 1 0)) 19 2 0 0 7) 20 3 0 0 7) 21 4 0 0 7) from hs) rfl (by decide) (hs_ref (show HS (hpM (hpM (hpM (hpI h 18 0 (h.2.1 1 0)) 19 2 0 0 7) 20 3 0 0 7) 21 4 0 0 7) from hs) rfl) ?_
  refine e_iconst (c := 0) (show pAt 33 62 = some (62, .iconst 0, 1, []) from by decide +kernel) (by decide) ?_
  refine e_bipush (c := 7) (show pAt 33 63 = some (63, .bipush 7, 2, []) from by decide +kernel) (by decide) ?_
  refine e_cpyI (m := 7) (m' := 7) (sn := 0) (dn := 0) (nn := 7) (show pAt 33 65 = some (65, .invokestatic 57, 3, [9998, 5, 2, 0, 2098]) from by decide +kernel) (show HS (hpM (hpM (hpM (hpI h 18 0 (h.2.1 1 0)) 19 2 0 0 7) 20 3 0 0 7) 21 4 0 0 7) from hs) (by decide) (by decide) ?_
  refine e_aload_n (show pAt 33 68 = some (68, .aload_n 1, 1, []) from by decide +kernel) rfl (ra (by decide)) ?_
  refine e_gR (show pAt 33 69 = some (69, .getfield 24, 3, [2, 5, 0, 1046]) from by decide +kernel) (show HS (hpM (hpM (hpM (hpM (hpI h 18 0 (h.2.1 1 0)) 19 2 0 0 7) 20 3 0 0 7) 21 4 0 0 7) 22 5 0 0 7) from hs) rfl (by decide) (hs_ref (show HS (hpM (hpM (hpM (hpM (hpI h 18 0 (h.2.1 1 0)) 19 2 0 0 7) 20 3 0 0 7) 21 4 0 0 7) 22 5 0 0 7) from hs) rfl) ?_
  refine e_iconst (c := 0) (show pAt 33 72 = some (72, .iconst 0, 1, []) from by decide +kernel) (by decide) ?_
  refine e_aload_n (show pAt 33 73 = some (73, .aload_n 0, 1, []) from by decide +kernel) rfl (ra (by decide)) ?_
  refine e_gR (show pAt 33 74 = some (74, .getfield 24, 3, [2, 5, 0, 1046]) from by decide +kernel) (show HS (hpM (hpM (hpM (hpM (hpI h 18 0 (h.2.1 1 0)) 19 2 0 0 7) 20 3 0 0 7) 21 4 0 0 7) 22 5 0 0 7) from hs) rfl (by decide) (hs_ref (show HS (hpM (hpM (hpM (hpM (hpI h 18 0 (h.2.1 1 0)) 19 2 0 0 7) 20 3 0 0 7) 21 4 0 0 7) 22 5 0 0 7) from hs) rfl) ?_
  refine e_iconst (c := 0) (show pAt 33 77 = some (77, .iconst 0, 1, []) from by decide +kernel) (by decide) ?_
  refine e_bipush (c := 7) (show pAt 33 78 = some (78, .bipush 7, 2, []) from by decide +kernel) (by decide) ?_
  refine e_cpyI (m := 7) (m' := 7) (sn := 0) (dn := 0) (nn := 7) (show pAt 33 80 = some (80, .invokestatic 57, 3, [9998, 5, 2, 0, 2098]) from by decide +kernel) (show HS (hpM (hpM (hpM (hpM (hpI h 18 0 (h.2.1 1 0)) 19 2 0 0 7) 20 3 0 0 7) 21 4 0 0 7) 22 5 0 0 7) from hs) (by decide) (by decide) ?_
  refine e_aload_n (show pAt 33 83 = some (83, .aload_n 1, 1, []) from by decide +kernel) rfl (ra (by decide)) ?_
  refine e_gR (show pAt 33 84 = some (84, .getfield 27, 3, [2, 6, 0, 1049]) from by decide +kernel) (show HS (hpM (hpM (hpM (hpM (hpM (hpI h 18 0 (h.2.1 1 0)) 19 2 0 0 7) 20 3 0 0 7) 21 4 0 0 7) 22 5 0 0 7) 23 6 0 0 7) from hs) rfl (by decide) (hs_ref (show HS (hpM (hpM (hpM (hpM (hpM (hpI h 18 0 (h.2.1 1 0)) 19 2 0 0 7) 20 3 0 0 7) 21 4 0 0 7) 22 5 0 0 7) 23 6 0 0 7) from hs) rfl) ?_
  refine e_iconst (c := 0) (show pAt 33 87 = some (87, .iconst 0, 1, []) from by decide +kernel) (by decide) ?_
  refine e_aload_n (show pAt 33 88 = some (88, .aload_n 0, 1, []) from by decide +kernel) rfl (ra (by decide)) ?_
  refine e_gR (show pAt 33 89 = some (89, .getfield 27, 3, [2, 6, 0, 1049]) from by decide +kernel) (show HS (hpM (hpM (hpM (hpM (hpM (hpI h 18 0 (h.2.1 1 0)) 19 2 0 0 7) 20 3 0 0 7) 21 4 0 0 7) 22 5 0 0 7) 23 6 0 0 7) from hs) rfl (by decide) (hs_ref (show HS (hpM (hpM (hpM (hpM (hpM (hpI h 18 0 (h.2.1 1 0)) 19 2 0 0 7) 20 3 0 0 7) 21 4 0 0 7) 22 5 0 0 7) 23 6 0 0 7) from hs) rfl) ?_
  refine e_iconst (c := 0) (show pAt 33 92 = some (92, .iconst 0, 1, []) from by decide +kernel) (by decide) ?_
  refine e_bipush (c := 28) (show pAt 33 93 = some (93, .bipush 28, 2, []) from by decide +kernel) (by decide) ?_
  refine e_cpyI (m := 28) (m' := 28) (sn := 0) (dn := 0) (nn := 28) (show pAt 33 95 = some (95, .invokestatic 57, 3, [9998, 5, 2, 0, 2098]) from by decide +kernel) (show HS (hpM (hpM (hpM (hpM (hpM (hpI h 18 0 (h.2.1 1 0)) 19 2 0 0 7) 20 3 0 0 7) 21 4 0 0 7) 22 5 0 0 7) 23 6 0 0 7) from hs) (by decide) (by decide) ?_
  refine e_aload_n (show pAt 33 98 = some (98, .aload_n 0, 1, []) from by decide +kernel) rfl (ra (by decide)) ?_
  refine e_aload_n (show pAt 33 99 = some (99, .aload_n 1, 1, []) from by decide +kernel) rfl (ra (by decide)) ?_
  refine e_gIv (v := h.2.1 1 7) (show pAt 33 100 = some (100, .getfield 40, 3, [2, 7, 0, 1052]) from by decide +kernel) (show HS (hpM (hpM (hpM (hpM (hpM (hpM (hpI h 18 0 (h.2.1 1 0)) 19 2 0 0 7) 20 3 0 0 7) 21 4 0 0 7) 22 5 0 0 7) 23 6 0 0 7) 24 7 0 0 28) from hs) rfl (by decide) rfl ?_
  refine e_pI (show pAt 33 103 = some (103, .putfield 40, 3, [2, 7, 0, 1052]) from by decide +kernel) (show HS (hpM (hpM (hpM (hpM (hpM (hpM (hpI h 18 0 (h.2.1 1 0)) 19 2 0 0 7) 20 3 0 0 7) 21 4 0 0 7) 22 5 0 0 7) 23 6 0 0 7) 24 7 0 0 28) from hs) (by decide) (Or.inl rfl) ?_
  refine e_aload_n (show pAt 33 106 = some (106, .aload_n 0, 1, []) from by decide +kernel) rfl (ra (by decide)) ?_
  refine e_aload_n (show pAt 33 107 = some (107, .aload_n 1, 1, []) from by decide +kernel) rfl (ra (by decide)) ?_
  refine e_gIv (v := h.2.1 1 8) (show pAt 33 108 = some (108, .getfield 63, 3, [2, 8, 0, 1057]) from by decide +kernel) (show HS (hpI (hpM (hpM (hpM (hpM (hpM (hpM (hpI h 18 0 (h.2.1 1 0)) 19 2 0 0 7) 20 3 0 0 7) 21 4 0 0 7) 22 5 0 0 7) 23 6 0 0 7) 24 7 0 0 28) 18 7 (h.2.1 1 7)) from hs) rfl (by decide) rfl ?_
  refine e_pI (show pAt 33 111 = some (111, .putfield 63, 3, [2, 8, 0, 1057]) from by decide +kernel) (show HS (hpI (hpM (hpM (hpM (hpM (hpM (hpM (hpI h 18 0 (h.2.1 1 0)) 19 2 0 0 7) 20 3 0 0 7) 21 4 0 0 7) 22 5 0 0 7) 23 6 0 0 7) 24 7 0 0 28) 18 7 (h.2.1 1 7)) from hs) (by decide) (Or.inl rfl) ?_
  refine e_aload_n (show pAt 33 114 = some (114, .aload_n 0, 1, []) from by decide +kernel) rfl (ra (by decide)) ?_
  refine e_aload_n (show pAt 33 115 = some (115, .aload_n 1, 1, []) from by decide +kernel) rfl (ra (by decide)) ?_
  refine e_gIv (v := h.2.1 1 9) (show pAt 33 116 = some (116, .getfield 66, 3, [2, 9, 0, 1058]) from by decide +kernel) (show HS (hpI (hpI (hpM (hpM (hpM (hpM (hpM (hpM (hpI h 18 0 (h.2.1 1 0)) 19 2 0 0 7) 20 3 0 0 7) 21 4 0 0 7) 22 5 0 0 7) 23 6 0 0 7) 24 7 0 0 28) 18 7 (h.2.1 1 7)) 18 8 (h.2.1 1 8)) from hs) rfl (by decide) rfl ?_
  refine e_pI (show pAt 33 119 = some (119, .putfield 66, 3, [2, 9, 0, 1058]) from by decide +kernel) (show HS (hpI (hpI (hpM (hpM (hpM (hpM (hpM (hpM (hpI h 18 0 (h.2.1 1 0)) 19 2 0 0 7) 20 3 0 0 7) 21 4 0 0 7) 22 5 0 0 7) 23 6 0 0 7) 24 7 0 0 28) 18 7 (h.2.1 1 7)) 18 8 (h.2.1 1 8)) from hs) (by decide) (Or.inl rfl) ?_
  refine e_aload_n (show pAt 33 122 = some (122, .aload_n 1, 1, []) from by decide +kernel) rfl (ra (by decide)) ?_
  refine e_gR (show pAt 33 123 = some (123, .getfield 30, 3, [2, 10, 0, 1060]) from by decide +kernel) (show HS (hpI (hpI (hpI (hpM (hpM (hpM (hpM (hpM (hpM (hpI h 18 0 (h.2.1 1 0)) 19 2 0 0 7) 20 3 0 0 7) 21 4 0 0 7) 22 5 0 0 7) 23 6 0 0 7) 24 7 0 0 28) 18 7 (h.2.1 1 7)) 18 8 (h.2.1 1 8)) 18 9 (h.2.1 1 9)) from hs) rfl (by decide) (hs_ref (show HS (hpI (hpI (hpI (hpM (hpM (hpM (hpM (hpM (hpM (hpI h 18 0 (h.2.1 1 0)) 19 2 0 0 7) 20 3 0 0 7) 21 4 0 0 7) 22 5 0 0 7) 23 6 0 0 7) 24 7 0 0 28) 18 7 (h.2.1 1 7)) 18 8 (h.2.1 1 8)) 18 9 (h.2.1 1 9)) from hs) rfl) ?_
  refine e_iconst (c := 0) (show pAt 33 126 = some (126, .iconst 0, 1, []) from by decide +kernel) (by decide) ?_
  refine e_aload_n (show pAt 33 127 = some (127, .aload_n 0, 1, []) from by decide +kernel) rfl (ra (by decide)) ?_
  refine e_gR (show pAt 33 128 = some (128, .getfield 30, 3, [2, 10, 0, 1060]) from by decide +kernel) (show HS (hpI (hpI (hpI (hpM (hpM (hpM (hpM (hpM (hpM (hpI h 18 0 (h.2.1 1 0)) 19 2 0 0 7) 20 3 0 0 7) 21 4 0 0 7) 22 5 0 0 7) 23 6 0 0 7) 24 7 0 0 28) 18 7 (h.2.1 1 7)) 18 8 (h.2.1 1 8)) 18 9 (h.2.1 1 9)) from hs) rfl (by decide) (hs_ref (show HS (hpI (hpI (hpI (hpM (hpM (hpM (hpM (hpM (hpM (hpI h 18 0 (h.2.1 1 0)) 19 2 0 0 7) 20 3 0 0 7) 21 4 0 0 7) 22 5 0 0 7) 23 6 0 0 7) 24 7 0 0 28) 18 7 (h.2.1 1 7)) 18 8 (h.2.1 1 8)) 18 9 (h.2.1 1 9)) from hs) rfl) ?_
  refine e_iconst (c := 0) (show pAt 33 131 = some (131, .iconst 0, 1, []) from by decide +kernel) (by decide) ?_
  refine e_bipush (c := 12) (show pAt 33 132 = some (132, .bipush 12, 2, []) from by decide +kernel) (by decide) ?_
  refine e_cpyI (m := 12) (m' := 12) (sn := 0) (dn := 0) (nn := 12) (show pAt 33 134 = some (134, .invokestatic 57, 3, [9998, 5, 2, 0, 2098]) from by decide +kernel) (show HS (hpI (hpI (hpI (hpM (hpM (hpM (hpM (hpM (hpM (hpI h 18 0 (h.2.1 1 0)) 19 2 0 0 7) 20 3 0 0 7) 21 4 0 0 7) 22 5 0 0 7) 23 6 0 0 7) 24 7 0 0 28) 18 7 (h.2.1 1 7)) 18 8 (h.2.1 1 8)) 18 9 (h.2.1 1 9)) from hs) (by decide) (by decide) ?_
  refine e_aload_n (show pAt 33 137 = some (137, .aload_n 0, 1, []) from by decide +kernel) rfl (ra (by decide)) ?_
  refine e_aload_n (show pAt 33 138 = some (138, .aload_n 1, 1, []) from by decide +kernel) rfl (ra (by decide)) ?_
  refine e_gIv (v := h.2.1 1 11) (show pAt 33 139 = some (139, .getfield 69, 3, [2, 11, 0, 1062]) from by decide +kernel) (show HS (hpM (hpI (hpI (hpI (hpM (hpM (hpM (hpM (hpM (hpM (hpI h 18 0 (h.2.1 1 0)) 19 2 0 0 7) 20 3 0 0 7) 21 4 0 0 7) 22 5 0 0 7) 23 6 0 0 7) 24 7 0 0 28) 18 7 (h.2.1 1 7)) 18 8 (h.2.1 1 8)) 18 9 (h.2.1 1 9)) 25 8 0 0 12) from hs) rfl (by decide) rfl ?_
  refine e_pI (show pAt 33 142 = some (142, .putfield 69, 3, [2, 11, 0, 1062]) from by decide +kernel) (show HS (hpM (hpI (hpI (hpI (hpM (hpM (hpM (hpM (hpM (hpM (hpI h 18 0 (h.2.1 1 0)) 19 2 0 0 7) 20 3 0 0 7) 21 4 0 0 7) 22 5 0 0 7) 23 6 0 0 7) 24 7 0 0 28) 18 7 (h.2.1 1 7)) 18 8 (h.2.1 1 8)) 18 9 (h.2.1 1 9)) 25 8 0 0 12) from hs) (by decide) (Or.inl rfl) ?_
  refine e_aload_n (show pAt 33 145 = some (145, .aload_n 0, 1, []) from by decide +kernel) rfl (ra (by decide)) ?_
  refine e_aload_n (show pAt 33 146 = some (146, .aload_n 1, 1, []) from by decide +kernel) rfl (ra (by decide)) ?_
  refine e_gIv (v := h.2.1 1 12) (show pAt 33 147 = some (147, .getfield 33, 3, [2, 12, 0, 1064]) from by decide +kernel) (show HS (hpI (hpM (hpI (hpI (hpI (hpM (hpM (hpM (hpM (hpM (hpM (hpI h 18 0 (h.2.1 1 0)) 19 2 0 0 7) 20 3 0 0 7) 21 4 0 0 7) 22 5 0 0 7) 23 6 0 0 7) 24 7 0 0 28) 18 7 (h.2.1 1 7)) 18 8 (h.2.1 1 8)) 18 9 (h.2.1 1 9)) 25 8 0 0 12) 18 11 (h.2.1 1 11)) from hs) rfl (by decide) rfl ?_
  refine e_pI (show pAt 33 150 = some (150, .putfield 33, 3, [2, 12, 0, 1064]) from by decide +kernel) (show HS (hpI (hpM (hpI (hpI (hpI (hpM (hpM (hpM (hpM (hpM (hpM (hpI h 18 0 (h.2.1 1 0)) 19 2 0 0 7) 20 3 0 0 7) 21 4 0 0 7) 22 5 0 0 7) 23 6 0 0 7) 24 7 0 0 28) 18 7 (h.2.1 1 7)) 18 8 (h.2.1 1 8)) 18 9 (h.2.1 1 9)) 25 8 0 0 12) 18 11 (h.2.1 1 11)) from hs) (by decide) (Or.inl rfl) ?_
  exact e_retV (show pAt 33 153 = some (153, .return_, 1, []) from by decide +kernel) rfl vc

theorem w_cfrm {X : Scr} {dp : Nat} {h : Hp} {Q : Option Value → Hp → Prop} (c : Int32) (l : Int32) (hs : HS h)
    (vc : Ends X dp 100 0 [.ref 0, .retAddr 0] [] h (fun rv h1 => rv = none ∧ HS h1 ∧ (inB c 7 = true ∧ Ends X dp 10 0 [.ref 17, .retAddr 0, .retAddr 0, .retAddr 0, .retAddr 0, .retAddr 0, .retAddr 0] [] (hpI h1 21 c.toNatClampNeg l) (fun rv h5 => ∃ r6, rv = some (.int r6) ∧ HS h5 ∧ Q (some (.int r6)) h5)))) :
    Ends X (dp + 1) 101 0 [.ref 0, .int c, .int l] [] h Q := by
  have ra : ∀ {a : Nat}, a < 1000 → a ≤ OLDB := fun h => by have := OLDB_eq; omega
  refine e_aload_n (show pAt 101 0 = some (0, .aload_n 0, 1, []) from by decide +kernel) rfl (ra (by decide)) ?_
  refine Ends.call (show pAt 101 1 = some (1, .invokevirtual 127, 3, [100, 1, 0, 0, 2086, 2088, 4]) from by decide +kernel) (isRet_none rfl) rfl (call_this (show HS h from hs) rfl rfl (by decide)) (Ends.mono vc ?_)
  rintro _ h1 ⟨rfl, hs_h1, vc⟩
  refine e_aload_n (show pAt 101 4 = some (4, .aload_n 0, 1, []) from by decide +kernel) rfl (ra (by decide)) ?_
  refine e_gR (show pAt 101 5 = some (5, .getfield 24, 3, [6, 3, 0, 2025]) from by decide +kernel) (show HS h1 from hs_h1) rfl (by decide) (hs_ref (show HS h1 from hs_h1) rfl) ?_
  refine e_gR (show pAt 101 8 = some (8, .getfield 142, 3, [1, 0, 1, 1128]) from by decide +kernel) (show HS h1 from hs_h1) rfl (by decide) (hs_ref (show HS h1 from hs_h1) rfl) ?_
  refine e_gR (show pAt 101 11 = some (11, .getfield 81, 3, [2, 3, 1, 1041]) from by decide +kernel) (show HS h1 from hs_h1) rfl (by decide) (hs_ref (show HS h1 from hs_h1) rfl) ?_
  refine e_iload_n (show pAt 101 14 = some (14, .iload_n 1, 1, []) from by decide +kernel) rfl ?_
  refine e_iload_n (show pAt 101 15 = some (15, .iload_n 2, 1, []) from by decide +kernel) rfl ?_
  obtain ⟨c4, vc⟩ := vc
  refine e_ast (show pAt 101 16 = some (16, .iastore, 1, []) from by decide +kernel) (show HS h1 from hs_h1) (by decide) c4 ?_
  refine e_aload_n (show pAt 101 17 = some (17, .aload_n 0, 1, []) from by decide +kernel) rfl (ra (by decide)) ?_
  refine e_gR (show pAt 101 18 = some (18, .getfield 24, 3, [6, 3, 0, 2025]) from by decide +kernel) (show HS (hpI h1 21 c.toNatClampNeg l) from hs_h1) rfl (by decide) (hs_ref (show HS (hpI h1 21 c.toNatClampNeg l) from hs_h1) rfl) ?_
  refine Ends.call (show pAt 101 21 = some (21, .invokevirtual 130, 3, [10, 1, 0, 1, 2101, 2103, 7]) from by decide +kernel) (isRet_none rfl) rfl (call_this (show HS (hpI h1 21 c.toNatClampNeg l) from hs_h1) rfl rfl (by decide)) (Ends.mono vc ?_)
  rintro _ h5 ⟨r6, rfl, hs_h5, vc⟩
  exact e_retI (show pAt 101 24 = some (24, .ireturn, 1, []) from by decide +kernel) rfl vc

theorem w_cmsd {X : Scr} {dp : Nat} {h : Hp} {Q : Option Value → Hp → Prop} (p : Int32) (w : Int32) (hs : HS h)
    (vc : Ends X dp 100 0 [.ref 0, .retAddr 0] [] h (fun rv h1 => rv = none ∧ HS h1 ∧ Ends X dp 10 0 [.ref 17, .retAddr 0, .retAddr 0, .retAddr 0, .retAddr 0, .retAddr 0, .retAddr 0] [] h1 (fun rv h4 => ∃ r5, rv = some (.int r5) ∧ HS h4 ∧ Ends X dp 27 0 [.ref 1, .int p] [] h4 (fun rv h7 => ∃ r8, rv = some (.int r8) ∧ HS h7 ∧ ((condB .eq r8 0 = true → ((condB .ne w 6 = true → ((condB .ne w 9 = true → Q (some (.int (-5))) h7) ∧ (condB .ne w 9 = false → (inB p 7 = true ∧ Q (some (.int (h7.2.1 36 p.toNatClampNeg))) h7)))) ∧ (condB .ne w 6 = false → (inB p 7 = true ∧ Q (some (.int (h7.2.1 35 p.toNatClampNeg))) h7)))) ∧ (condB .eq r8 0 = false → ((condB .ne w 7 = true → ((condB .ne w 8 = true → Q (some (.int (-5))) h7) ∧ (condB .ne w 8 = false → (inB p 7 = true ∧ Q (some (.int (h7.2.1 34 p.toNatClampNeg))) h7)))) ∧ (condB .ne w 7 = false → (inB p 7 = true ∧ Q (some (.int (h7.2.1 33 p.toNatClampNeg))) h7))))))))) :
    Ends X (dp + 1) 99 0 [.ref 0, .int p, .int w] [] h Q := by
  have ra : ∀ {a : Nat}, a < 1000 → a ≤ OLDB := fun h => by have := OLDB_eq; omega
  refine e_aload_n (show pAt 99 0 = some (0, .aload_n 0, 1, []) from by decide +kernel) rfl (ra (by decide)) ?_
  refine Ends.call (show pAt 99 1 = some (1, .invokevirtual 127, 3, [100, 1, 0, 0, 2086, 2088, 4]) from by decide +kernel) (isRet_none rfl) rfl (call_this (show HS h from hs) rfl rfl (by decide)) (Ends.mono vc ?_)
  rintro _ h1 ⟨rfl, hs_h1, vc⟩
  refine e_aload_n (show pAt 99 4 = some (4, .aload_n 0, 1, []) from by decide +kernel) rfl (ra (by decide)) ?_
  refine e_gR (show pAt 99 5 = some (5, .getfield 24, 3, [6, 3, 0, 2025]) from by decide +kernel) (show HS h1 from hs_h1) rfl (by decide) (hs_ref (show HS h1 from hs_h1) rfl) ?_
  refine Ends.call (show pAt 99 8 = some (8, .invokevirtual 130, 3, [10, 1, 0, 1, 2101, 2103, 7]) from by decide +kernel) (isRet_none rfl) rfl (call_this (show HS h1 from hs_h1) rfl rfl (by decide)) (Ends.mono vc ?_)
  rintro _ h4 ⟨r5, rfl, hs_h4, vc⟩
  refine e_pop (show pAt 99 11 = some (11, .pop, 1, []) from by decide +kernel) ?_
  refine e_aload_n (show pAt 99 12 = some (12, .aload_n 0, 1, []) from by decide +kernel) rfl (ra (by decide)) ?_
  refine e_gR (show pAt 99 13 = some (13, .getfield 12, 3, [6, 0, 0, 2022]) from by decide +kernel) (show HS h4 from hs_h4) rfl (by decide) (hs_ref (show HS h4 from hs_h4) rfl) ?_
  refine e_iload_n (show pAt 99 16 = some (16, .iload_n 1, 1, []) from by decide +kernel) rfl ?_
  refine Ends.call (show pAt 99 17 = some (17, .invokevirtual 90, 3, [27, 2, 0, 1, 2075, 2077, 2]) from by decide +kernel) (isRet_none rfl) rfl (call_this (show HS h4 from hs_h4) rfl rfl (by decide)) (Ends.mono vc ?_)
  rintro _ h7 ⟨r8, rfl, hs_h7, vc⟩
  refine e_if (t := 62) (show pAt 99 20 = some (20, .ifCond .eq 42, 3, []) from by decide +kernel) rfl (fun c10 => ?_) (fun c10 => ?_)
  · replace vc := vc.1 c10
    refine e_iload_n (show pAt 99 62 = some (62, .iload_n 2, 1, []) from by decide +kernel) rfl ?_
    refine e_bipush (c := 6) (show pAt 99 63 = some (63, .bipush 6, 2, []) from by decide +kernel) (by decide) ?_
    refine e_icmp (t := 80) (show pAt 99 65 = some (65, .if_icmp .ne 15, 3, []) from by decide +kernel) rfl (fun c11 => ?_) (fun c11 => ?_)
    · replace vc := vc.1 c11
      refine e_iload_n (show pAt 99 80 = some (80, .iload_n 2, 1, []) from by decide +kernel) rfl ?_
      refine e_bipush (c := 9) (show pAt 99 81 = some (81, .bipush 9, 2, []) from by decide +kernel) (by decide) ?_
      refine e_icmp (t := 98) (show pAt 99 83 = some (83, .if_icmp .ne 15, 3, []) from by decide +kernel) rfl (fun c12 => ?_) (fun c12 => ?_)
      · replace vc := vc.1 c12
        refine e_bipush (c := (-5)) (show pAt 99 98 = some (98, .bipush (-5), 2, []) from by decide +kernel) (by decide) ?_
        exact e_retI (show pAt 99 100 = some (100, .ireturn, 1, []) from by decide +kernel) rfl vc
      · replace vc := vc.2 c12
        refine e_aload_n (show pAt 99 86 = some (86, .aload_n 0, 1, []) from by decide +kernel) rfl (ra (by decide)) ?_
        refine e_gR (show pAt 99 87 = some (87, .getfield 24, 3, [6, 3, 0, 2025]) from by decide +kernel) (show HS h7 from hs_h7) rfl (by decide) (hs_ref (show HS h7 from hs_h7) rfl) ?_
        refine e_gR (show pAt 99 90 = some (90, .getfield 262, 3, [1, 7, 1, 1139]) from by decide +kernel) (show HS h7 from hs_h7) rfl (by decide) (hs_ref (show HS h7 from hs_h7) rfl) ?_
        refine e_iload_n (show pAt 99 93 = some (93, .iload_n 1, 1, []) from by decide +kernel) rfl ?_
        obtain ⟨c13, vc⟩ := vc
        refine e_aldv (v := h7.2.1 36 p.toNatClampNeg) (show pAt 99 94 = some (94, .iaload, 1, []) from by decide +kernel) (show HS h7 from hs_h7) (by decide) c13 rfl ?_
        refine e_goto (t := 100) (show pAt 99 95 = some (95, .goto 5, 3, []) from by decide +kernel) rfl ?_
        exact e_retI (show pAt 99 100 = some (100, .ireturn, 1, []) from by decide +kernel) rfl vc
    · replace vc := vc.2 c11
      refine e_aload_n (show pAt 99 68 = some (68, .aload_n 0, 1, []) from by decide +kernel) rfl (ra (by decide)) ?_
      refine e_gR (show pAt 99 69 = some (69, .getfield 24, 3, [6, 3, 0, 2025]) from by decide +kernel) (show HS h7 from hs_h7) rfl (by decide) (hs_ref (show HS h7 from hs_h7) rfl) ?_
      refine e_gR (show pAt 99 72 = some (72, .getfield 259, 3, [1, 6, 1, 1137]) from by decide +kernel) (show HS h7 from hs_h7) rfl (by decide) (hs_ref (show HS h7 from hs_h7) rfl) ?_
      refine e_iload_n (show pAt 99 75 = some (75, .iload_n 1, 1, []) from by decide +kernel) rfl ?_
      obtain ⟨c14, vc⟩ := vc
      refine e_aldv (v := h7.2.1 35 p.toNatClampNeg) (show pAt 99 76 = some (76, .iaload, 1, []) from by decide +kernel) (show HS h7 from hs_h7) (by decide) c14 rfl ?_
      refine e_goto (t := 100) (show pAt 99 77 = some (77, .goto 23, 3, []) from by decide +kernel) rfl ?_
      exact e_retI (show pAt 99 100 = some (100, .ireturn, 1, []) from by decide +kernel) rfl vc
  · replace vc := vc.2 c10
    refine e_iload_n (show pAt 99 23 = some (23, .iload_n 2, 1, []) from by decide +kernel) rfl ?_
    refine e_bipush (c := 7) (show pAt 99 24 = some (24, .bipush 7, 2, []) from by decide +kernel) (by decide) ?_
    refine e_icmp (t := 41) (show pAt 99 26 = some (26, .if_icmp .ne 15, 3, []) from by decide +kernel) rfl (fun c15 => ?_) (fun c15 => ?_)
    · replace vc := vc.1 c15
      refine e_iload_n (show pAt 99 41 = some (41, .iload_n 2, 1, []) from by decide +kernel) rfl ?_
      refine e_bipush (c := 8) (show pAt 99 42 = some (42, .bipush 8, 2, []) from by decide +kernel) (by decide) ?_
      refine e_icmp (t := 59) (show pAt 99 44 = some (44, .if_icmp .ne 15, 3, []) from by decide +kernel) rfl (fun c16 => ?_) (fun c16 => ?_)
      · replace vc := vc.1 c16
        refine e_bipush (c := (-5)) (show pAt 99 59 = some (59, .bipush (-5), 2, []) from by decide +kernel) (by decide) ?_
        exact e_retI (show pAt 99 61 = some (61, .ireturn, 1, []) from by decide +kernel) rfl vc
      · replace vc := vc.2 c16
        refine e_aload_n (show pAt 99 47 = some (47, .aload_n 0, 1, []) from by decide +kernel) rfl (ra (by decide)) ?_
        refine e_gR (show pAt 99 48 = some (48, .getfield 24, 3, [6, 3, 0, 2025]) from by decide +kernel) (show HS h7 from hs_h7) rfl (by decide) (hs_ref (show HS h7 from hs_h7) rfl) ?_
        refine e_gR (show pAt 99 51 = some (51, .getfield 256, 3, [1, 5, 1, 1135]) from by decide +kernel) (show HS h7 from hs_h7) rfl (by decide) (hs_ref (show HS h7 from hs_h7) rfl) ?_
        refine e_iload_n (show pAt 99 54 = some (54, .iload_n 1, 1, []) from by decide +kernel) rfl ?_
        obtain ⟨c17, vc⟩ := vc
        refine e_aldv (v := h7.2.1 34 p.toNatClampNeg) (show pAt 99 55 = some (55, .iaload, 1, []) from by decide +kernel) (show HS h7 from hs_h7) (by decide) c17 rfl ?_
        refine e_goto (t := 61) (show pAt 99 56 = some (56, .goto 5, 3, []) from by decide +kernel) rfl ?_
        exact e_retI (show pAt 99 61 = some (61, .ireturn, 1, []) from by decide +kernel) rfl vc
    · replace vc := vc.2 c15
      refine e_aload_n (show pAt 99 29 = some (29, .aload_n 0, 1, []) from by decide +kernel) rfl (ra (by decide)) ?_
      refine e_gR (show pAt 99 30 = some (30, .getfield 24, 3, [6, 3, 0, 2025]) from by decide +kernel) (show HS h7 from hs_h7) rfl (by decide) (hs_ref (show HS h7 from hs_h7) rfl) ?_
      refine e_gR (show pAt 99 33 = some (33, .getfield 253, 3, [1, 4, 1, 1133]) from by decide +kernel) (show HS h7 from hs_h7) rfl (by decide) (hs_ref (show HS h7 from hs_h7) rfl) ?_
      refine e_iload_n (show pAt 99 36 = some (36, .iload_n 1, 1, []) from by decide +kernel) rfl ?_
      obtain ⟨c18, vc⟩ := vc
      refine e_aldv (v := h7.2.1 33 p.toNatClampNeg) (show pAt 99 37 = some (37, .iaload, 1, []) from by decide +kernel) (show HS h7 from hs_h7) (by decide) c18 rfl ?_
      refine e_goto (t := 61) (show pAt 99 38 = some (38, .goto 23, 3, []) from by decide +kernel) rfl ?_
      exact e_retI (show pAt 99 61 = some (61, .ireturn, 1, []) from by decide +kernel) rfl vc

theorem w_cof {X : Scr} {dp : Nat} {h : Hp} {Q : Option Value → Hp → Prop} (p : Int32) (w : Int32) (hs : HS h)
    (vc : Ends X dp 26 0 [.ref 1, .int p] [] h (fun rv h1 => ∃ r2, rv = some (.int r2) ∧ HS h1 ∧ ((condB .ne r2 0 = true → (((w.toInt < 0 ∨ 9 < w.toInt) → Q (some (.int (-1))) h1) ∧ (w.toInt = 0 → (inB p 7 = true ∧ Q (some (.int (h1.2.1 2 p.toNatClampNeg))) h1)) ∧ (w.toInt = 1 → (inB p 7 = true ∧ Q (some (.int (h1.2.1 3 p.toNatClampNeg))) h1)) ∧ (w.toInt = 2 → (inB p 7 = true ∧ Q (some (.int (h1.2.1 4 p.toNatClampNeg))) h1)) ∧ (w.toInt = 3 → (inB p 7 = true ∧ Q (some (.int (h1.2.1 5 p.toNatClampNeg))) h1)) ∧ (w.toInt = 4 → (inB p 7 = true ∧ Q (some (.int (h1.2.1 6 p.toNatClampNeg))) h1)) ∧ (w.toInt = 5 → Ends X dp 27 0 [.ref 1, .int p] [] h1 (fun rv h12 => ∃ r13, rv = some (.int r13) ∧ HS h12 ∧ ((condB .eq r13 0 = true → Q (some (.int 0)) h12) ∧ (condB .eq r13 0 = false → Q (some (.int 1)) h12)))) ∧ (w.toInt = 6 → Ends X dp 99 0 [.ref 0, .int p, .int w] [] h1 (fun rv h16 => ∃ r17, rv = some (.int r17) ∧ HS h16 ∧ Q (some (.int r17)) h16)) ∧ (w.toInt = 7 → Ends X dp 99 0 [.ref 0, .int p, .int w] [] h1 (fun rv h19 => ∃ r20, rv = some (.int r20) ∧ HS h19 ∧ Q (some (.int r20)) h19)) ∧ (w.toInt = 8 → Ends X dp 99 0 [.ref 0, .int p, .int w] [] h1 (fun rv h22 => ∃ r23, rv = some (.int r23) ∧ HS h22 ∧ Q (some (.int r23)) h22)) ∧ (w.toInt = 9 → Ends X dp 99 0 [.ref 0, .int p, .int w] [] h1 (fun rv h25 => ∃ r26, rv = some (.int r26) ∧ HS h25 ∧ Q (some (.int r26)) h25)))) ∧ (condB .ne r2 0 = false → Q (some (.int (-1))) h1)))) :
    Ends X (dp + 1) 64 0 [.ref 0, .int p, .int w] [] h Q := by
  have ra : ∀ {a : Nat}, a < 1000 → a ≤ OLDB := fun h => by have := OLDB_eq; omega
  refine e_aload_n (show pAt 64 0 = some (0, .aload_n 0, 1, []) from by decide +kernel) rfl (ra (by decide)) ?_
  refine e_gR (show pAt 64 1 = some (1, .getfield 12, 3, [6, 0, 0, 2022]) from by decide +kernel) (show HS h from hs) rfl (by decide) (hs_ref (show HS h from hs) rfl) ?_
  refine e_iload_n (show pAt 64 4 = some (4, .iload_n 1, 1, []) from by decide +kernel) rfl ?_
  refine Ends.call (show pAt 64 5 = some (5, .invokevirtual 71, 3, [26, 2, 0, 1, 2071, 2073, 1]) from by decide +kernel) (isRet_none rfl) rfl (call_this (show HS h from hs) rfl rfl (by decide)) (Ends.mono vc ?_)
  rintro _ h1 ⟨r2, rfl, hs_h1, vc⟩
  refine e_if (t := 13) (show pAt 64 8 = some (8, .ifCond .ne 5, 3, []) from by decide +kernel) rfl (fun c4 => ?_) (fun c4 => ?_)
  · replace vc := vc.1 c4
    refine e_iload_n (show pAt 64 13 = some (13, .iload_n 2, 1, []) from by decide +kernel) rfl ?_
    rcases (show (w.toInt < 0 ∨ 9 < w.toInt) ∨ w.toInt = 0 ∨ w.toInt = 1 ∨ w.toInt = 2 ∨ w.toInt = 3 ∨ w.toInt = 4 ∨ w.toInt = 5 ∨ w.toInt = 6 ∨ w.toInt = 7 ∨ w.toInt = 8 ∨ w.toInt = 9 from by omega) with c5 | c5 | c5 | c5 | c5 | c5 | c5 | c5 | c5 | c5 | c5
    · refine e_tsd (t := 142) (show pAt 64 14 = some (14, .tableswitch 128 0 9 #[54, 64, 74, 84, 94, 104, 121, 121, 121, 121], 54, []) from by decide +kernel) c5 rfl ?_
      replace vc := vc.1 c5
      refine e_iconst (c := (-1)) (show pAt 64 142 = some (142, .iconst (-1), 1, []) from by decide +kernel) (by decide) ?_
      exact e_retI (show pAt 64 143 = some (143, .ireturn, 1, []) from by decide +kernel) rfl vc
    · refine e_tsc (t := 68) 0 (show pAt 64 14 = some (14, .tableswitch 128 0 9 #[54, 64, 74, 84, 94, 104, 121, 121, 121, 121], 54, []) from by decide +kernel) (by omega) (by omega) rfl rfl ?_
      replace vc := vc.2.1 c5
      refine e_aload_n (show pAt 64 68 = some (68, .aload_n 0, 1, []) from by decide +kernel) rfl (ra (by decide)) ?_
      refine e_gR (show pAt 64 69 = some (69, .getfield 12, 3, [6, 0, 0, 2022]) from by decide +kernel) (show HS h1 from hs_h1) rfl (by decide) (hs_ref (show HS h1 from hs_h1) rfl) ?_
      refine e_gR (show pAt 64 72 = some (72, .getfield 74, 3, [2, 1, 1, 1035]) from by decide +kernel) (show HS h1 from hs_h1) rfl (by decide) (hs_ref (show HS h1 from hs_h1) rfl) ?_
      refine e_iload_n (show pAt 64 75 = some (75, .iload_n 1, 1, []) from by decide +kernel) rfl ?_
      obtain ⟨c7, vc⟩ := vc
      refine e_aldv (v := h1.2.1 2 p.toNatClampNeg) (show pAt 64 76 = some (76, .iaload, 1, []) from by decide +kernel) (show HS h1 from hs_h1) (by decide) c7 rfl ?_
      exact e_retI (show pAt 64 77 = some (77, .ireturn, 1, []) from by decide +kernel) rfl vc
    · refine e_tsc (t := 78) 1 (show pAt 64 14 = some (14, .tableswitch 128 0 9 #[54, 64, 74, 84, 94, 104, 121, 121, 121, 121], 54, []) from by decide +kernel) (by omega) (by omega) rfl rfl ?_
      replace vc := vc.2.2.1 c5
      refine e_aload_n (show pAt 64 78 = some (78, .aload_n 0, 1, []) from by decide +kernel) rfl (ra (by decide)) ?_
      refine e_gR (show pAt 64 79 = some (79, .getfield 12, 3, [6, 0, 0, 2022]) from by decide +kernel) (show HS h1 from hs_h1) rfl (by decide) (hs_ref (show HS h1 from hs_h1) rfl) ?_
      refine e_gR (show pAt 64 82 = some (82, .getfield 78, 3, [2, 2, 1, 1038]) from by decide +kernel) (show HS h1 from hs_h1) rfl (by decide) (hs_ref (show HS h1 from hs_h1) rfl) ?_
      refine e_iload_n (show pAt 64 85 = some (85, .iload_n 1, 1, []) from by decide +kernel) rfl ?_
      obtain ⟨c8, vc⟩ := vc
      refine e_aldv (v := h1.2.1 3 p.toNatClampNeg) (show pAt 64 86 = some (86, .iaload, 1, []) from by decide +kernel) (show HS h1 from hs_h1) (by decide) c8 rfl ?_
      exact e_retI (show pAt 64 87 = some (87, .ireturn, 1, []) from by decide +kernel) rfl vc
    · refine e_tsc (t := 88) 2 (show pAt 64 14 = some (14, .tableswitch 128 0 9 #[54, 64, 74, 84, 94, 104, 121, 121, 121, 121], 54, []) from by decide +kernel) (by omega) (by omega) rfl rfl ?_
      replace vc := vc.2.2.2.1 c5
      refine e_aload_n (show pAt 64 88 = some (88, .aload_n 0, 1, []) from by decide +kernel) rfl (ra (by decide)) ?_
      refine e_gR (show pAt 64 89 = some (89, .getfield 12, 3, [6, 0, 0, 2022]) from by decide +kernel) (show HS h1 from hs_h1) rfl (by decide) (hs_ref (show HS h1 from hs_h1) rfl) ?_
      refine e_gR (show pAt 64 92 = some (92, .getfield 81, 3, [2, 3, 1, 1041]) from by decide +kernel) (show HS h1 from hs_h1) rfl (by decide) (hs_ref (show HS h1 from hs_h1) rfl) ?_
      refine e_iload_n (show pAt 64 95 = some (95, .iload_n 1, 1, []) from by decide +kernel) rfl ?_
      obtain ⟨c9, vc⟩ := vc
      refine e_aldv (v := h1.2.1 4 p.toNatClampNeg) (show pAt 64 96 = some (96, .iaload, 1, []) from by decide +kernel) (show HS h1 from hs_h1) (by decide) c9 rfl ?_
      exact e_retI (show pAt 64 97 = some (97, .ireturn, 1, []) from by decide +kernel) rfl vc
    · refine e_tsc (t := 98) 3 (show pAt 64 14 = some (14, .tableswitch 128 0 9 #[54, 64, 74, 84, 94, 104, 121, 121, 121, 121], 54, []) from by decide +kernel) (by omega) (by omega) rfl rfl ?_
      replace vc := vc.2.2.2.2.1 c5
      refine e_aload_n (show pAt 64 98 = some (98, .aload_n 0, 1, []) from by decide +kernel) rfl (ra (by decide)) ?_
      refine e_gR (show pAt 64 99 = some (99, .getfield 12, 3, [6, 0, 0, 2022]) from by decide +kernel) (show HS h1 from hs_h1) rfl (by decide) (hs_ref (show HS h1 from hs_h1) rfl) ?_
      refine e_gR (show pAt 64 102 = some (102, .getfield 84, 3, [2, 4, 1, 1044]) from by decide +kernel) (show HS h1 from hs_h1) rfl (by decide) (hs_ref (show HS h1 from hs_h1) rfl) ?_
      refine e_iload_n (show pAt 64 105 = some (105, .iload_n 1, 1, []) from by decide +kernel) rfl ?_
      obtain ⟨c10, vc⟩ := vc
      refine e_aldv (v := h1.2.1 5 p.toNatClampNeg) (show pAt 64 106 = some (106, .iaload, 1, []) from by decide +kernel) (show HS h1 from hs_h1) (by decide) c10 rfl ?_
      exact e_retI (show pAt 64 107 = some (107, .ireturn, 1, []) from by decide +kernel) rfl vc
    · refine e_tsc (t := 108) 4 (show pAt 64 14 = some (14, .tableswitch 128 0 9 #[54, 64, 74, 84, 94, 104, 121, 121, 121, 121], 54, []) from by decide +kernel) (by omega) (by omega) rfl rfl ?_
      replace vc := vc.2.2.2.2.2.1 c5
      refine e_aload_n (show pAt 64 108 = some (108, .aload_n 0, 1, []) from by decide +kernel) rfl (ra (by decide)) ?_
      refine e_gR (show pAt 64 109 = some (109, .getfield 12, 3, [6, 0, 0, 2022]) from by decide +kernel) (show HS h1 from hs_h1) rfl (by decide) (hs_ref (show HS h1 from hs_h1) rfl) ?_
      refine e_gR (show pAt 64 112 = some (112, .getfield 87, 3, [2, 5, 1, 1047]) from by decide +kernel) (show HS h1 from hs_h1) rfl (by decide) (hs_ref (show HS h1 from hs_h1) rfl) ?_
      refine e_iload_n (show pAt 64 115 = some (115, .iload_n 1, 1, []) from by decide +kernel) rfl ?_
      obtain ⟨c11, vc⟩ := vc
      refine e_aldv (v := h1.2.1 6 p.toNatClampNeg) (show pAt 64 116 = some (116, .iaload, 1, []) from by decide +kernel) (show HS h1 from hs_h1) (by decide) c11 rfl ?_
      exact e_retI (show pAt 64 117 = some (117, .ireturn, 1, []) from by decide +kernel) rfl vc
    · refine e_tsc (t := 118) 5 (show pAt 64 14 = some (14, .tableswitch 128 0 9 #[54, 64, 74, 84, 94, 104, 121, 121, 121, 121], 54, []) from by decide +kernel) (by omega) (by omega) rfl rfl ?_
      replace vc := vc.2.2.2.2.2.2.1 c5
      refine e_aload_n (show pAt 64 118 = some (118, .aload_n 0, 1, []) from by decide +kernel) rfl (ra (by decide)) ?_
      refine e_gR (show pAt 64 119 = some (119, .getfield 12, 3, [6, 0, 0, 2022]) from by decide +kernel) (show HS h1 from hs_h1) rfl (by decide) (hs_ref (show HS h1 from hs_h1) rfl) ?_
      refine e_iload_n (show pAt 64 122 = some (122, .iload_n 1, 1, []) from by decide +kernel) rfl ?_
      refine Ends.call (show pAt 64 123 = some (123, .invokevirtual 90, 3, [27, 2, 0, 1, 2075, 2077, 2]) from by decide +kernel) (isRet_none rfl) rfl (call_this (show HS h1 from hs_h1) rfl rfl (by decide)) (Ends.mono vc ?_)
      rintro _ h12 ⟨r13, rfl, hs_h12, vc⟩
      refine e_if (t := 133) (show pAt 64 126 = some (126, .ifCond .eq 7, 3, []) from by decide +kernel) rfl (fun c15 => ?_) (fun c15 => ?_)
      · replace vc := vc.1 c15
        refine e_iconst (c := 0) (show pAt 64 133 = some (133, .iconst 0, 1, []) from by decide +kernel) (by decide) ?_
        exact e_retI (show pAt 64 134 = some (134, .ireturn, 1, []) from by decide +kernel) rfl vc
      · replace vc := vc.2 c15
        refine e_iconst (c := 1) (show pAt 64 129 = some (129, .iconst 1, 1, []) from by decide +kernel) (by decide) ?_
        refine e_goto (t := 134) (show pAt 64 130 = some (130, .goto 4, 3, []) from by decide +kernel) rfl ?_
        exact e_retI (show pAt 64 134 = some (134, .ireturn, 1, []) from by decide +kernel) rfl vc
    · refine e_tsc (t := 135) 6 (show pAt 64 14 = some (14, .tableswitch 128 0 9 #[54, 64, 74, 84, 94, 104, 121, 121, 121, 121], 54, []) from by decide +kernel) (by omega) (by omega) rfl rfl ?_
      replace vc := vc.2.2.2.2.2.2.2.1 c5
      refine e_aload_n (show pAt 64 135 = some (135, .aload_n 0, 1, []) from by decide +kernel) rfl (ra (by decide)) ?_
      refine e_iload_n (show pAt 64 136 = some (136, .iload_n 1, 1, []) from by decide +kernel) rfl ?_
      refine e_iload_n (show pAt 64 137 = some (137, .iload_n 2, 1, []) from by decide +kernel) rfl ?_
      refine Ends.call (show pAt 64 138 = some (138, .invokevirtual 93, 3, [99, 3, 0, 0, 2082, 2084, 3]) from by decide +kernel) (isRet_none rfl) rfl (call_this (show HS h1 from hs_h1) rfl rfl (by decide)) (Ends.mono vc ?_)
      rintro _ h16 ⟨r17, rfl, hs_h16, vc⟩
      exact e_retI (show pAt 64 141 = some (141, .ireturn, 1, []) from by decide +kernel) rfl vc
    · refine e_tsc (t := 135) 7 (show pAt 64 14 = some (14, .tableswitch 128 0 9 #[54, 64, 74, 84, 94, 104, 121, 121, 121, 121], 54, []) from by decide +kernel) (by omega) (by omega) rfl rfl ?_
      replace vc := vc.2.2.2.2.2.2.2.2.1 c5
      refine e_aload_n (show pAt 64 135 = some (135, .aload_n 0, 1, []) from by decide +kernel) rfl (ra (by decide)) ?_
      refine e_iload_n (show pAt 64 136 = some (136, .iload_n 1, 1, []) from by decide +kernel) rfl ?_
      refine e_iload_n (show pAt 64 137 = some (137, .iload_n 2, 1, []) from by decide +kernel) rfl ?_
      refine Ends.call (show pAt 64 138 = some (138, .invokevirtual 93, 3, [99, 3, 0, 0, 2082, 2084, 3]) from by decide +kernel) (isRet_none rfl) rfl (call_this (show HS h1 from hs_h1) rfl rfl (by decide)) (Ends.mono vc ?_)
      rintro _ h19 ⟨r20, rfl, hs_h19, vc⟩
      exact e_retI (show pAt 64 141 = some (141, .ireturn, 1, []) from by decide +kernel) rfl vc
    · refine e_tsc (t := 135) 8 (show pAt 64 14 = some (14, .tableswitch 128 0 9 #[54, 64, 74, 84, 94, 104, 121, 121, 121, 121], 54, []) from by decide +kernel) (by omega) (by omega) rfl rfl ?_
      replace vc := vc.2.2.2.2.2.2.2.2.2.1 c5
      refine e_aload_n (show pAt 64 135 = some (135, .aload_n 0, 1, []) from by decide +kernel) rfl (ra (by decide)) ?_
      refine e_iload_n (show pAt 64 136 = some (136, .iload_n 1, 1, []) from by decide +kernel) rfl ?_
      refine e_iload_n (show pAt 64 137 = some (137, .iload_n 2, 1, []) from by decide +kernel) rfl ?_
      refine Ends.call (show pAt 64 138 = some (138, .invokevirtual 93, 3, [99, 3, 0, 0, 2082, 2084, 3]) from by decide +kernel) (isRet_none rfl) rfl (call_this (show HS h1 from hs_h1) rfl rfl (by decide)) (Ends.mono vc ?_)
      rintro _ h22 ⟨r23, rfl, hs_h22, vc⟩
      exact e_retI (show pAt 64 141 = some (141, .ireturn, 1, []) from by decide +kernel) rfl vc
    · refine e_tsc (t := 135) 9 (show pAt 64 14 = some (14, .tableswitch 128 0 9 #[54, 64, 74, 84, 94, 104, 121, 121, 121, 121], 54, []) from by decide +kernel) (by omega) (by omega) rfl rfl ?_
      replace vc := vc.2.2.2.2.2.2.2.2.2.2 c5
      refine e_aload_n (show pAt 64 135 = some (135, .aload_n 0, 1, []) from by decide +kernel) rfl (ra (by decide)) ?_
      refine e_iload_n (show pAt 64 136 = some (136, .iload_n 1, 1, []) from by decide +kernel) rfl ?_
      refine e_iload_n (show pAt 64 137 = some (137, .iload_n 2, 1, []) from by decide +kernel) rfl ?_
      refine Ends.call (show pAt 64 138 = some (138, .invokevirtual 93, 3, [99, 3, 0, 0, 2082, 2084, 3]) from by decide +kernel) (isRet_none rfl) rfl (call_this (show HS h1 from hs_h1) rfl rfl (by decide)) (Ends.mono vc ?_)
      rintro _ h25 ⟨r26, rfl, hs_h25, vc⟩
      exact e_retI (show pAt 64 141 = some (141, .ireturn, 1, []) from by decide +kernel) rfl vc
  · replace vc := vc.2 c4
    refine e_iconst (c := (-1)) (show pAt 64 11 = some (11, .iconst (-1), 1, []) from by decide +kernel) (by decide) ?_
    exact e_retI (show pAt 64 12 = some (12, .ireturn, 1, []) from by decide +kernel) rfl vc

theorem w_cset {X : Scr} {dp : Nat} {h : Hp} {Q : Option Value → Hp → Prop} (p : Int32) (w : Int32) (n : Int32) (hs : HS h)
    (vc : Ends X dp 26 0 [.ref 1, .int p] [] h (fun rv h1 => ∃ r2, rv = some (.int r2) ∧ HS h1 ∧ ((condB .eq r2 0 = true → Q (some (.int (-1))) h1) ∧ (condB .eq r2 0 = false → ((condB .lt w 0 = true → Q (some (.int (-1))) h1) ∧ (condB .lt w 0 = false → ((condB .le w 1 = true → ((condB .ne w 0 = true → Ends X dp 102 0 [.int n] [] h1 (fun rv h8 => ∃ r9, rv = some (.int r9) ∧ HS h8 ∧ ((condB .ne r9 0 = true → ((condB .ne w 0 = true → (inB p 7 = true ∧ ((condB .ne w 0 = true → (inB p 7 = true ∧ Q (some (.int (h8.2.1 6 p.toNatClampNeg))) (hpI h8 6 p.toNatClampNeg n))) ∧ (condB .ne w 0 = false → (inB p 7 = true ∧ Q (some (.int (h8.2.1 6 p.toNatClampNeg))) (hpI h8 4 p.toNatClampNeg n)))))) ∧ (condB .ne w 0 = false → (inB p 7 = true ∧ ((condB .ne w 0 = true → (inB p 7 = true ∧ Q (some (.int (h8.2.1 4 p.toNatClampNeg))) (hpI h8 6 p.toNatClampNeg n))) ∧ (condB .ne w 0 = false → (inB p 7 = true ∧ Q (some (.int (h8.2.1 4 p.toNatClampNeg))) (hpI h8 4 p.toNatClampNeg n)))))))) ∧ (condB .ne r9 0 = false → Q (some (.int (-2))) h8)))) ∧ (condB .ne w 0 = false → Ends X dp 103 0 [.int n] [] h1 (fun rv h21 => ∃ r22, rv = some (.int r22) ∧ HS h21 ∧ ((condB .ne r22 0 = true → ((condB .ne w 0 = true → (inB p 7 = true ∧ ((condB .ne w 0 = true → (inB p 7 = true ∧ Q (some (.int (h21.2.1 6 p.toNatClampNeg))) (hpI h21 6 p.toNatClampNeg n))) ∧ (condB .ne w 0 = false → (inB p 7 = true ∧ Q (some (.int (h21.2.1 6 p.toNatClampNeg))) (hpI h21 4 p.toNatClampNeg n)))))) ∧ (condB .ne w 0 = false → (inB p 7 = true ∧ ((condB .ne w 0 = true → (inB p 7 = true ∧ Q (some (.int (h21.2.1 4 p.toNatClampNeg))) (hpI h21 6 p.toNatClampNeg n))) ∧ (condB .ne w 0 = false → (inB p 7 = true ∧ Q (some (.int (h21.2.1 4 p.toNatClampNeg))) (hpI h21 4 p.toNatClampNeg n)))))))) ∧ (condB .ne r22 0 = false → Q (some (.int (-2))) h21)))))) ∧ (condB .le w 1 = false → Q (some (.int (-1))) h1)))))))) :
    Ends X (dp + 1) 65 0 [.ref 0, .int p, .int w, .int n, .retAddr 0] [] h Q := by
  have ra : ∀ {a : Nat}, a < 1000 → a ≤ OLDB := fun h => by have := OLDB_eq; omega
  refine e_aload_n (show pAt 65 0 = some (0, .aload_n 0, 1, []) from by decide +kernel) rfl (ra (by decide)) ?_
  refine e_gR (show pAt 65 1 = some (1, .getfield 12, 3, [6, 0, 0, 2022]) from by decide +kernel) (show HS h from hs) rfl (by decide) (hs_ref (show HS h from hs) rfl) ?_
  refine e_iload_n (show pAt 65 4 = some (4, .iload_n 1, 1, []) from by decide +kernel) rfl ?_
  refine Ends.call (show pAt 65 5 = some (5, .invokevirtual 71, 3, [26, 2, 0, 1, 2071, 2073, 1]) from by decide +kernel) (isRet_none rfl) rfl (call_this (show HS h from hs) rfl rfl (by decide)) (Ends.mono vc ?_)
  rintro _ h1 ⟨r2, rfl, hs_h1, vc⟩
  refine e_if (t := 20) (show pAt 65 8 = some (8, .ifCond .eq 12, 3, []) from by decide +kernel) rfl (fun c4 => ?_) (fun c4 => ?_)
  · replace vc := vc.1 c4
    refine e_iconst (c := (-1)) (show pAt 65 20 = some (20, .iconst (-1), 1, []) from by decide +kernel) (by decide) ?_
    exact e_retI (show pAt 65 21 = some (21, .ireturn, 1, []) from by decide +kernel) rfl vc
  · replace vc := vc.2 c4
    refine e_iload_n (show pAt 65 11 = some (11, .iload_n 2, 1, []) from by decide +kernel) rfl ?_
    refine e_if (t := 20) (show pAt 65 12 = some (12, .ifCond .lt 8, 3, []) from by decide +kernel) rfl (fun c5 => ?_) (fun c5 => ?_)
    · replace vc := vc.1 c5
      refine e_iconst (c := (-1)) (show pAt 65 20 = some (20, .iconst (-1), 1, []) from by decide +kernel) (by decide) ?_
      exact e_retI (show pAt 65 21 = some (21, .ireturn, 1, []) from by decide +kernel) rfl vc
    · replace vc := vc.2 c5
      refine e_iload_n (show pAt 65 15 = some (15, .iload_n 2, 1, []) from by decide +kernel) rfl ?_
      refine e_iconst (c := 1) (show pAt 65 16 = some (16, .iconst 1, 1, []) from by decide +kernel) (by decide) ?_
      refine e_icmp (t := 22) (show pAt 65 17 = some (17, .if_icmp .le 5, 3, []) from by decide +kernel) rfl (fun c6 => ?_) (fun c6 => ?_)
      · replace vc := vc.1 c6
        refine e_iload_n (show pAt 65 22 = some (22, .iload_n 2, 1, []) from by decide +kernel) rfl ?_
        refine e_if (t := 36) (show pAt 65 23 = some (23, .ifCond .ne 13, 3, []) from by decide +kernel) rfl (fun c7 => ?_) (fun c7 => ?_)
        · replace vc := vc.1 c7
          refine e_iload_n (show pAt 65 36 = some (36, .iload_n 3, 1, []) from by decide +kernel) rfl ?_
          refine Ends.call (show pAt 65 37 = some (37, .invokestatic 60, 3, [102, 1, 2, 0, 2057, 2058, 0]) from by decide +kernel) (isRet_none rfl) rfl rfl (Ends.mono vc ?_)
          rintro _ h8 ⟨r9, rfl, hs_h8, vc⟩
          refine e_if (t := 46) (show pAt 65 40 = some (40, .ifCond .ne 6, 3, []) from by decide +kernel) rfl (fun c11 => ?_) (fun c11 => ?_)
          · replace vc := vc.1 c11
            refine e_iload_n (show pAt 65 46 = some (46, .iload_n 2, 1, []) from by decide +kernel) rfl ?_
            refine e_if (t := 62) (show pAt 65 47 = some (47, .ifCond .ne 15, 3, []) from by decide +kernel) rfl (fun c12 => ?_) (fun c12 => ?_)
            · replace vc := vc.1 c12
              refine e_aload_n (show pAt 65 62 = some (62, .aload_n 0, 1, []) from by decide +kernel) rfl (ra (by decide)) ?_
              refine e_gR (show pAt 65 63 = some (63, .getfield 12, 3, [6, 0, 0, 2022]) from by decide +kernel) (show HS h8 from hs_h8) rfl (by decide) (hs_ref (show HS h8 from hs_h8) rfl) ?_
              refine e_gR (show pAt 65 66 = some (66, .getfield 87, 3, [2, 5, 1, 1047]) from by decide +kernel) (show HS h8 from hs_h8) rfl (by decide) (hs_ref (show HS h8 from hs_h8) rfl) ?_
              refine e_iload_n (show pAt 65 69 = some (69, .iload_n 1, 1, []) from by decide +kernel) rfl ?_
              obtain ⟨c13, vc⟩ := vc
              refine e_aldv (v := h8.2.1 6 p.toNatClampNeg) (show pAt 65 70 = some (70, .iaload, 1, []) from by decide +kernel) (show HS h8 from hs_h8) (by decide) c13 rfl ?_
              refine e_istore (show pAt 65 71 = some (71, .istore 4, 2, []) from by decide +kernel) ⟨Nat.le_of_ble_eq_true rfl, rfl⟩ rfl ?_
              refine e_iload_n (show pAt 65 73 = some (73, .iload_n 2, 1, []) from by decide +kernel) rfl ?_
              refine e_if (t := 90) (show pAt 65 74 = some (74, .ifCond .ne 16, 3, []) from by decide +kernel) rfl (fun c14 => ?_) (fun c14 => ?_)
              · replace vc := vc.1 c14
                refine e_aload_n (show pAt 65 90 = some (90, .aload_n 0, 1, []) from by decide +kernel) rfl (ra (by decide)) ?_
                refine e_gR (show pAt 65 91 = some (91, .getfield 12, 3, [6, 0, 0, 2022]) from by decide +kernel) (show HS h8 from hs_h8) rfl (by decide) (hs_ref (show HS h8 from hs_h8) rfl) ?_
                refine e_gR (show pAt 65 94 = some (94, .getfield 87, 3, [2, 5, 1, 1047]) from by decide +kernel) (show HS h8 from hs_h8) rfl (by decide) (hs_ref (show HS h8 from hs_h8) rfl) ?_
                refine e_iload_n (show pAt 65 97 = some (97, .iload_n 1, 1, []) from by decide +kernel) rfl ?_
                refine e_iload_n (show pAt 65 98 = some (98, .iload_n 3, 1, []) from by decide +kernel) rfl ?_
                obtain ⟨c15, vc⟩ := vc
                refine e_ast (show pAt 65 99 = some (99, .iastore, 1, []) from by decide +kernel) (show HS h8 from hs_h8) (by decide) c15 ?_
                refine e_iload (show pAt 65 100 = some (100, .iload 4, 2, []) from by decide +kernel) rfl ?_
                exact e_retI (show pAt 65 102 = some (102, .ireturn, 1, []) from by decide +kernel) rfl vc
              · replace vc := vc.2 c14
                refine e_aload_n (show pAt 65 77 = some (77, .aload_n 0, 1, []) from by decide +kernel) rfl (ra (by decide)) ?_
                refine e_gR (show pAt 65 78 = some (78, .getfield 12, 3, [6, 0, 0, 2022]) from by decide +kernel) (show HS h8 from hs_h8) rfl (by decide) (hs_ref (show HS h8 from hs_h8) rfl) ?_
                refine e_gR (show pAt 65 81 = some (81, .getfield 81, 3, [2, 3, 1, 1041]) from by decide +kernel) (show HS h8 from hs_h8) rfl (by decide) (hs_ref (show HS h8 from hs_h8) rfl) ?_
                refine e_iload_n (show pAt 65 84 = some (84, .iload_n 1, 1, []) from by decide +kernel) rfl ?_
                refine e_iload_n (show pAt 65 85 = some (85, .iload_n 3, 1, []) from by decide +kernel) rfl ?_
                obtain ⟨c16, vc⟩ := vc
                refine e_ast (show pAt 65 86 = some (86, .iastore, 1, []) from by decide +kernel) (show HS h8 from hs_h8) (by decide) c16 ?_
                refine e_goto (t := 100) (show pAt 65 87 = some (87, .goto 13, 3, []) from by decide +kernel) rfl ?_
                refine e_iload (show pAt 65 100 = some (100, .iload 4, 2, []) from by decide +kernel) rfl ?_
                exact e_retI (show pAt 65 102 = some (102, .ireturn, 1, []) from by decide +kernel) rfl vc
            · replace vc := vc.2 c12
              refine e_aload_n (show pAt 65 50 = some (50, .aload_n 0, 1, []) from by decide +kernel) rfl (ra (by decide)) ?_
              refine e_gR (show pAt 65 51 = some (51, .getfield 12, 3, [6, 0, 0, 2022]) from by decide +kernel) (show HS h8 from hs_h8) rfl (by decide) (hs_ref (show HS h8 from hs_h8) rfl) ?_
              refine e_gR (show pAt 65 54 = some (54, .getfield 81, 3, [2, 3, 1, 1041]) from by decide +kernel) (show HS h8 from hs_h8) rfl (by decide) (hs_ref (show HS h8 from hs_h8) rfl) ?_
              refine e_iload_n (show pAt 65 57 = some (57, .iload_n 1, 1, []) from by decide +kernel) rfl ?_
              obtain ⟨c17, vc⟩ := vc
              refine e_aldv (v := h8.2.1 4 p.toNatClampNeg) (show pAt 65 58 = some (58, .iaload, 1, []) from by decide +kernel) (show HS h8 from hs_h8) (by decide) c17 rfl ?_
              refine e_goto (t := 71) (show pAt 65 59 = some (59, .goto 12, 3, []) from by decide +kernel) rfl ?_
              refine e_istore (show pAt 65 71 = some (71, .istore 4, 2, []) from by decide +kernel) ⟨Nat.le_of_ble_eq_true rfl, rfl⟩ rfl ?_
              refine e_iload_n (show pAt 65 73 = some (73, .iload_n 2, 1, []) from by decide +kernel) rfl ?_
              refine e_if (t := 90) (show pAt 65 74 = some (74, .ifCond .ne 16, 3, []) from by decide +kernel) rfl (fun c18 => ?_) (fun c18 => ?_)
              · replace vc := vc.1 c18
                refine e_aload_n (show pAt 65 90 = some (90, .aload_n 0, 1, []) from by decide +kernel) rfl (ra (by decide)) ?_
                refine e_gR (show pAt 65 91 = some (91, .getfield 12, 3, [6, 0, 0, 2022]) from by decide +kernel) (show HS h8 from hs_h8) rfl (by decide) (hs_ref (show HS h8 from hs_h8) rfl) ?_
                refine e_gR (show pAt 65 94 = some (94, .getfield 87, 3, [2, 5, 1, 1047]) from by decide +kernel) (show HS h8 from hs_h8) rfl (by decide) (hs_ref (show HS h8 from hs_h8) rfl) ?_
                refine e_iload_n (show pAt 65 97 = some (97, .iload_n 1, 1, []) from by decide +kernel) rfl ?_
                refine e_iload_n (show pAt 65 98 = some (98, .iload_n 3, 1, []) from by decide +kernel) rfl ?_
                obtain ⟨c19, vc⟩ := vc
                refine e_ast (show pAt 65 99 = some (99, .iastore, 1, []) from by decide +kernel) (show HS h8 from hs_h8) (by decide) c19 ?_
                refine e_iload (show pAt 65 100 = some (100, .iload 4, 2, []) from by decide +kernel) rfl ?_
                exact e_retI (show pAt 65 102 = some (102, .ireturn, 1, []) from by decide +kernel) rfl vc
              · replace vc := vc.2 c18
                refine e_aload_n (show pAt 65 77 = some (77, .aload_n 0, 1, []) from by decide +kernel) rfl (ra (by decide)) ?_
                refine e_gR (show pAt 65 78 = some (78, .getfield 12, 3, [6, 0, 0, 2022]) from by decide +kernel) (show HS h8 from hs_h8) rfl (by decide) (hs_ref (show HS h8 from hs_h8) rfl) ?_
                refine e_gR (show pAt 65 81 = some (81, .getfield 81, 3, [2, 3, 1, 1041]) from by decide +kernel) (show HS h8 from hs_h8) rfl (by decide) (hs_ref (show HS h8 from hs_h8) rfl) ?_
                refine e_iload_n (show pAt 65 84 = some (84, .iload_n 1, 1, []) from by decide +kernel) rfl ?_
                refine e_iload_n (show pAt 65 85 = some (85, .iload_n 3, 1, []) from by decide +kernel) rfl ?_
                obtain ⟨c20, vc⟩ := vc
                refine e_ast (show pAt 65 86 = some (86, .iastore, 1, []) from by decide +kernel) (show HS h8 from hs_h8) (by decide) c20 ?_
                refine e_goto (t := 100) (show pAt 65 87 = some (87, .goto 13, 3, []) from by decide +kernel) rfl ?_
                refine e_iload (show pAt 65 100 = some (100, .iload 4, 2, []) from by decide +kernel) rfl ?_
                exact e_retI (show pAt 65 102 = some (102, .ireturn, 1, []) from by decide +kernel) rfl vc
          · replace vc := vc.2 c11
            refine e_bipush (c := (-2)) (show pAt 65 43 = some (43, .bipush (-2), 2, []) from by decide +kernel) (by decide) ?_
            exact e_retI (show pAt 65 45 = some (45, .ireturn, 1, []) from by decide +kernel) rfl vc
        · replace vc := vc.2 c7
          refine e_iload_n (show pAt 65 26 = some (26, .iload_n 3, 1, []) from by decide +kernel) rfl ?_
          refine Ends.call (show pAt 65 27 = some (27, .invokestatic 64, 3, [103, 1, 2, 0, 2060, 2061, 0]) from by decide +kernel) (isRet_none rfl) rfl rfl (Ends.mono vc ?_)
          rintro _ h21 ⟨r22, rfl, hs_h21, vc⟩
          refine e_if (t := 46) (show pAt 65 30 = some (30, .ifCond .ne 16, 3, []) from by decide +kernel) rfl (fun c24 => ?_) (fun c24 => ?_)
          · replace vc := vc.1 c24
            refine e_iload_n (show pAt 65 46 = some (46, .iload_n 2, 1, []) from by decide +kernel) rfl ?_
            refine e_if (t := 62) (show pAt 65 47 = some (47, .ifCond .ne 15, 3, []) from by decide +kernel) rfl (fun c25 => ?_) (fun c25 => ?_)
            · replace vc := vc.1 c25
              refine e_aload_n (show pAt 65 62 = some (62, .aload_n 0, 1, []) from by decide +kernel) rfl (ra (by decide)) ?_
              refine e_gR (show pAt 65 63 = some (63, .getfield 12, 3, [6, 0, 0, 2022]) from by decide +kernel) (show HS h21 from hs_h21) rfl (by decide) (hs_ref (show HS h21 from hs_h21) rfl) ?_
              refine e_gR (show pAt 65 66 = some (66, .getfield 87, 3, [2, 5, 1, 1047]) from by decide +kernel) (show HS h21 from hs_h21) rfl (by decide) (hs_ref (show HS h21 from hs_h21) rfl) ?_
              refine e_iload_n (show pAt 65 69 = some (69, .iload_n 1, 1, []) from by decide +kernel) rfl ?_
              obtain ⟨c26, vc⟩ := vc
              refine e_aldv (v := h21.2.1 6 p.toNatClampNeg) (show pAt 65 70 = some (70, .iaload, 1, []) from by decide +kernel) (show HS h21 from hs_h21) (by decide) c26 rfl ?_
              refine e_istore (show pAt 65 71 = some (71, .istore 4, 2, []) from by decide +kernel) ⟨Nat.le_of_ble_eq_true rfl, rfl⟩ rfl ?_
              refine e_iload_n (show pAt 65 73 = some (73, .iload_n 2, 1, []) from by decide +kernel) rfl ?_
              refine e_if (t := 90) (show pAt 65 74 = some (74, .ifCond .ne 16, 3, []) from by decide +kernel) rfl (fun c27 => ?_) (fun c27 => ?_)
              · replace vc := vc.1 c27
                refine e_aload_n (show pAt 65 90 = some (90, .aload_n 0, 1, []) from by decide +kernel) rfl (ra (by decide)) ?_
                refine e_gR (show pAt 65 91 = some (91, .getfield 12, 3, [6, 0, 0, 2022]) from by decide +kernel) (show HS h21 from hs_h21) rfl (by decide) (hs_ref (show HS h21 from hs_h21) rfl) ?_
                refine e_gR (show pAt 65 94 = some (94, .getfield 87, 3, [2, 5, 1, 1047]) from by decide +kernel) (show HS h21 from hs_h21) rfl (by decide) (hs_ref (show HS h21 from hs_h21) rfl) ?_
                refine e_iload_n (show pAt 65 97 = some (97, .iload_n 1, 1, []) from by decide +kernel) rfl ?_
                refine e_iload_n (show pAt 65 98 = some (98, .iload_n 3, 1, []) from by decide +kernel) rfl ?_
                obtain ⟨c28, vc⟩ := vc
                refine e_ast (show pAt 65 99 = some (99, .iastore, 1, []) from by decide +kernel) (show HS h21 from hs_h21) (by decide) c28 ?_
                refine e_iload (show pAt 65 100 = some (100, .iload 4, 2, []) from by decide +kernel) rfl ?_
                exact e_retI (show pAt 65 102 = some (102, .ireturn, 1, []) from by decide +kernel) rfl vc
              · replace vc := vc.2 c27
                refine e_aload_n (show pAt 65 77 = some (77, .aload_n 0, 1, []) from by decide +kernel) rfl (ra (by decide)) ?_
                refine e_gR (show pAt 65 78 = some (78, .getfield 12, 3, [6, 0, 0, 2022]) from by decide +kernel) (show HS h21 from hs_h21) rfl (by decide) (hs_ref (show HS h21 from hs_h21) rfl) ?_
                refine e_gR (show pAt 65 81 = some (81, .getfield 81, 3, [2, 3, 1, 1041]) from by decide +kernel) (show HS h21 from hs_h21) rfl (by decide) (hs_ref (show HS h21 from hs_h21) rfl) ?_
                refine e_iload_n (show pAt 65 84 = some (84, .iload_n 1, 1, []) from by decide +kernel) rfl ?_
                refine e_iload_n (show pAt 65 85 = some (85, .iload_n 3, 1, []) from by decide +kernel) rfl ?_
                obtain ⟨c29, vc⟩ := vc
                refine e_ast (show pAt 65 86 = some (86, .iastore, 1, []) from by decide +kernel) (show HS h21 from hs_h21) (by decide) c29 ?_
                refine e_goto (t := 100) (show pAt 65 87 = some (87, .goto 13, 3, []) from by decide +kernel) rfl ?_
                refine e_iload (show pAt 65 100 = some (100, .iload 4, 2, []) from by decide +kernel) rfl ?_
                exact e_retI (show pAt 65 102 = some (102, .ireturn, 1, []) from by decide +kernel) rfl vc
            · replace vc := vc.2 c25
              refine e_aload_n (show pAt 65 50 = some (50, .aload_n 0, 1, []) from by decide +kernel) rfl (ra (by decide)) ?_
              refine e_gR (show pAt 65 51 = some (51, .getfield 12, 3, [6, 0, 0, 2022]) from by decide +kernel) (show HS h21 from hs_h21) rfl (by decide) (hs_ref (show HS h21 from hs_h21) rfl) ?_
              refine e_gR (show pAt 65 54 = some (54, .getfield 81, 3, [2, 3, 1, 1041]) from by decide +kernel) (show HS h21 from hs_h21) rfl (by decide) (hs_ref (show HS h21 from hs_h21) rfl) ?_
              refine e_iload_n (show pAt 65 57 = some (57, .iload_n 1, 1, []) from by decide +kernel) rfl ?_
              obtain ⟨c30, vc⟩ := vc
              refine e_aldv (v := h21.2.1 4 p.toNatClampNeg) (show pAt 65 58 = some (58, .iaload, 1, []) from by decide +kernel) (show HS h21 from hs_h21) (by decide) c30 rfl ?_
              refine e_goto (t := 71) (show pAt 65 59 = some (59, .goto 12, 3, []) from by decide +kernel) rfl ?_
              refine e_istore (show pAt 65 71 = some (71, .istore 4, 2, []) from by decide +kernel) ⟨Nat.le_of_ble_eq_true rfl, rfl⟩ rfl ?_
              refine e_iload_n (show pAt 65 73 = some (73, .iload_n 2, 1, []) from by decide +kernel) rfl ?_
              refine e_if (t := 90) (show pAt 65 74 = some (74, .ifCond .ne 16, 3, []) from by decide +kernel) rfl (fun c31 => ?_) (fun c31 => ?_)
              · replace vc := vc.1 c31
                refine e_aload_n (show pAt 65 90 = some (90, .aload_n 0, 1, []) from by decide +kernel) rfl (ra (by decide)) ?_
                refine e_gR (show pAt 65 91 = some (91, .getfield 12, 3, [6, 0, 0, 2022]) from by decide +kernel) (show HS h21 from hs_h21) rfl (by decide) (hs_ref (show HS h21 from hs_h21) rfl) ?_
                refine e_gR (show pAt 65 94 = some (94, .getfield 87, 3, [2, 5, 1, 1047]) from by decide +kernel) (show HS h21 from hs_h21) rfl (by decide) (hs_ref (show HS h21 from hs_h21) rfl) ?_
                refine e_iload_n (show pAt 65 97 = some (97, .iload_n 1, 1, []) from by decide +kernel) rfl ?_
                refine e_iload_n (show pAt 65 98 = some (98, .iload_n 3, 1, []) from by decide +kernel) rfl ?_
                obtain ⟨c32, vc⟩ := vc
                refine e_ast (show pAt 65 99 = some (99, .iastore, 1, []) from by decide +kernel) (show HS h21 from hs_h21) (by decide) c32 ?_
                refine e_iload (show pAt 65 100 = some (100, .iload 4, 2, []) from by decide +kernel) rfl ?_
                exact e_retI (show pAt 65 102 = some (102, .ireturn, 1, []) from by decide +kernel) rfl vc
              · replace vc := vc.2 c31
                refine e_aload_n (show pAt 65 77 = some (77, .aload_n 0, 1, []) from by decide +kernel) rfl (ra (by decide)) ?_
                refine e_gR (show pAt 65 78 = some (78, .getfield 12, 3, [6, 0, 0, 2022]) from by decide +kernel) (show HS h21 from hs_h21) rfl (by decide) (hs_ref (show HS h21 from hs_h21) rfl) ?_
                refine e_gR (show pAt 65 81 = some (81, .getfield 81, 3, [2, 3, 1, 1041]) from by decide +kernel) (show HS h21 from hs_h21) rfl (by decide) (hs_ref (show HS h21 from hs_h21) rfl) ?_
                refine e_iload_n (show pAt 65 84 = some (84, .iload_n 1, 1, []) from by decide +kernel) rfl ?_
                refine e_iload_n (show pAt 65 85 = some (85, .iload_n 3, 1, []) from by decide +kernel) rfl ?_
                obtain ⟨c33, vc⟩ := vc
                refine e_ast (show pAt 65 86 = some (86, .iastore, 1, []) from by decide +kernel) (show HS h21 from hs_h21) (by decide) c33 ?_
                refine e_goto (t := 100) (show pAt 65 87 = some (87, .goto 13, 3, []) from by decide +kernel) rfl ?_
                refine e_iload (show pAt 65 100 = some (100, .iload 4, 2, []) from by decide +kernel) rfl ?_
                exact e_retI (show pAt 65 102 = some (102, .ireturn, 1, []) from by decide +kernel) rfl vc
          · replace vc := vc.2 c24
            refine e_goto (t := 43) (show pAt 65 33 = some (33, .goto 10, 3, []) from by decide +kernel) rfl ?_
            refine e_bipush (c := (-2)) (show pAt 65 43 = some (43, .bipush (-2), 2, []) from by decide +kernel) (by decide) ?_
            exact e_retI (show pAt 65 45 = some (45, .ireturn, 1, []) from by decide +kernel) rfl vc
      · replace vc := vc.2 c6
        refine e_iconst (c := (-1)) (show pAt 65 20 = some (20, .iconst (-1), 1, []) from by decide +kernel) (by decide) ?_
        exact e_retI (show pAt 65 21 = some (21, .ireturn, 1, []) from by decide +kernel) rfl vc

theorem w_ccat {X : Scr} {dp : Nat} {h : Hp} {Q : Option Value → Hp → Prop} (p : Int32) (d : Int32) (hs : HS h)
    (vc : Ends X dp 26 0 [.ref 1, .int p] [] h (fun rv h1 => ∃ r2, rv = some (.int r2) ∧ HS h1 ∧ ((condB .ne r2 0 = true → Ends X dp 27 0 [.ref 1, .int p] [] h1 (fun rv h5 => ∃ r6, rv = some (.int r6) ∧ HS h5 ∧ ((condB .eq r6 0 = true → ((condB .eq d 0 = true → Q (some (.int 0)) (hpI h5 1 7 ((h5.2.1 1 7) &&& ((1 <<< (p &&& 31)) ^^^ (-1))))) ∧ (condB .eq d 0 = false → Q (some (.int 0)) (hpI h5 1 7 ((h5.2.1 1 7) ||| (1 <<< (p &&& 31))))))) ∧ (condB .eq r6 0 = false → ((condB .eq d 0 = true → Q (some (.int 1)) (hpI h5 1 7 ((h5.2.1 1 7) &&& ((1 <<< (p &&& 31)) ^^^ (-1))))) ∧ (condB .eq d 0 = false → Q (some (.int 1)) (hpI h5 1 7 ((h5.2.1 1 7) ||| (1 <<< (p &&& 31)))))))))) ∧ (condB .ne r2 0 = false → Q (some (.int (-1))) h1)))) :
    Ends X (dp + 1) 66 0 [.ref 0, .int p, .int d, .retAddr 0] [] h Q := by
  have ra : ∀ {a : Nat}, a < 1000 → a ≤ OLDB := fun h => by have := OLDB_eq; omega
  refine e_aload_n (show pAt 66 0 = some (0, .aload_n 0, 1, []) from by decide +kernel) rfl (ra (by decide)) ?_
  refine e_gR (show pAt 66 1 = some (1, .getfield 12, 3, [6, 0, 0, 2022]) from by decide +kernel) (show HS h from hs) rfl (by decide) (hs_ref (show HS h from hs) rfl) ?_
  refine e_iload_n (show pAt 66 4 = some (4, .iload_n 1, 1, []) from by decide +kernel) rfl ?_
  refine Ends.call (show pAt 66 5 = some (5, .invokevirtual 71, 3, [26, 2, 0, 1, 2071, 2073, 1]) from by decide +kernel) (isRet_none rfl) rfl (call_this (show HS h from hs) rfl rfl (by decide)) (Ends.mono vc ?_)
  rintro _ h1 ⟨r2, rfl, hs_h1, vc⟩
  refine e_if (t := 13) (show pAt 66 8 = some (8, .ifCond .ne 5, 3, []) from by decide +kernel) rfl (fun c4 => ?_) (fun c4 => ?_)
  · replace vc := vc.1 c4
    refine e_aload_n (show pAt 66 13 = some (13, .aload_n 0, 1, []) from by decide +kernel) rfl (ra (by decide)) ?_
    refine e_gR (show pAt 66 14 = some (14, .getfield 12, 3, [6, 0, 0, 2022]) from by decide +kernel) (show HS h1 from hs_h1) rfl (by decide) (hs_ref (show HS h1 from hs_h1) rfl) ?_
    refine e_iload_n (show pAt 66 17 = some (17, .iload_n 1, 1, []) from by decide +kernel) rfl ?_
    refine Ends.call (show pAt 66 18 = some (18, .invokevirtual 90, 3, [27, 2, 0, 1, 2075, 2077, 2]) from by decide +kernel) (isRet_none rfl) rfl (call_this (show HS h1 from hs_h1) rfl rfl (by decide)) (Ends.mono vc ?_)
    rintro _ h5 ⟨r6, rfl, hs_h5, vc⟩
    refine e_if (t := 28) (show pAt 66 21 = some (21, .ifCond .eq 7, 3, []) from by decide +kernel) rfl (fun c8 => ?_) (fun c8 => ?_)
    · replace vc := vc.1 c8
      refine e_iconst (c := 0) (show pAt 66 28 = some (28, .iconst 0, 1, []) from by decide +kernel) (by decide) ?_
      refine e_istore_n (show pAt 66 29 = some (29, .istore_n 3, 1, []) from by decide +kernel) ⟨Nat.le_of_ble_eq_true rfl, rfl⟩ rfl ?_
      refine e_iload_n (show pAt 66 30 = some (30, .iload_n 2, 1, []) from by decide +kernel) rfl ?_
      refine e_if (t := 52) (show pAt 66 31 = some (31, .ifCond .eq 21, 3, []) from by decide +kernel) rfl (fun c9 => ?_) (fun c9 => ?_)
      · replace vc := vc.1 c9
        refine e_aload_n (show pAt 66 52 = some (52, .aload_n 0, 1, []) from by decide +kernel) rfl (ra (by decide)) ?_
        refine e_gR (show pAt 66 53 = some (53, .getfield 12, 3, [6, 0, 0, 2022]) from by decide +kernel) (show HS h5 from hs_h5) rfl (by decide) (hs_ref (show HS h5 from hs_h5) rfl) ?_
        refine e_dupR (show pAt 66 56 = some (56, .dup, 1, []) from by decide +kernel) ?_
        refine e_gIv (v := h5.2.1 1 7) (show pAt 66 57 = some (57, .getfield 97, 3, [2, 7, 1, 1054]) from by decide +kernel) (show HS h5 from hs_h5) rfl (by decide) rfl ?_
        refine e_iconst (c := 1) (show pAt 66 60 = some (60, .iconst 1, 1, []) from by decide +kernel) (by decide) ?_
        refine e_iload_n (show pAt 66 61 = some (61, .iload_n 1, 1, []) from by decide +kernel) rfl ?_
        refine e_ishl (show pAt 66 62 = some (62, .ishl, 1, []) from by decide +kernel) ?_
        refine e_iconst (c := (-1)) (show pAt 66 63 = some (63, .iconst (-1), 1, []) from by decide +kernel) (by decide) ?_
        refine e_ixor (show pAt 66 64 = some (64, .ixor, 1, []) from by decide +kernel) ?_
        refine e_iand (show pAt 66 65 = some (65, .iand, 1, []) from by decide +kernel) ?_
        refine e_pI (show pAt 66 66 = some (66, .putfield 97, 3, [2, 7, 1, 1054]) from by decide +kernel) (show HS h5 from hs_h5) (by decide) (Or.inl rfl) ?_
        refine e_iload_n (show pAt 66 69 = some (69, .iload_n 3, 1, []) from by decide +kernel) rfl ?_
        exact e_retI (show pAt 66 70 = some (70, .ireturn, 1, []) from by decide +kernel) rfl vc
      · replace vc := vc.2 c9
        refine e_aload_n (show pAt 66 34 = some (34, .aload_n 0, 1, []) from by decide +kernel) rfl (ra (by decide)) ?_
        refine e_gR (show pAt 66 35 = some (35, .getfield 12, 3, [6, 0, 0, 2022]) from by decide +kernel) (show HS h5 from hs_h5) rfl (by decide) (hs_ref (show HS h5 from hs_h5) rfl) ?_
        refine e_dupR (show pAt 66 38 = some (38, .dup, 1, []) from by decide +kernel) ?_
        refine e_gIv (v := h5.2.1 1 7) (show pAt 66 39 = some (39, .getfield 97, 3, [2, 7, 1, 1054]) from by decide +kernel) (show HS h5 from hs_h5) rfl (by decide) rfl ?_
        refine e_iconst (c := 1) (show pAt 66 42 = some (42, .iconst 1, 1, []) from by decide +kernel) (by decide) ?_
        refine e_iload_n (show pAt 66 43 = some (43, .iload_n 1, 1, []) from by decide +kernel) rfl ?_
        refine e_ishl (show pAt 66 44 = some (44, .ishl, 1, []) from by decide +kernel) ?_
        refine e_ior (show pAt 66 45 = some (45, .ior, 1, []) from by decide +kernel) ?_
        refine e_pI (show pAt 66 46 = some (46, .putfield 97, 3, [2, 7, 1, 1054]) from by decide +kernel) (show HS h5 from hs_h5) (by decide) (Or.inl rfl) ?_
        refine e_goto (t := 69) (show pAt 66 49 = some (49, .goto 20, 3, []) from by decide +kernel) rfl ?_
        refine e_iload_n (show pAt 66 69 = some (69, .iload_n 3, 1, []) from by decide +kernel) rfl ?_
        exact e_retI (show pAt 66 70 = some (70, .ireturn, 1, []) from by decide +kernel) rfl vc
    · replace vc := vc.2 c8
      refine e_iconst (c := 1) (show pAt 66 24 = some (24, .iconst 1, 1, []) from by decide +kernel) (by decide) ?_
      refine e_goto (t := 29) (show pAt 66 25 = some (25, .goto 4, 3, []) from by decide +kernel) rfl ?_
      refine e_istore_n (show pAt 66 29 = some (29, .istore_n 3, 1, []) from by decide +kernel) ⟨Nat.le_of_ble_eq_true rfl, rfl⟩ rfl ?_
      refine e_iload_n (show pAt 66 30 = some (30, .iload_n 2, 1, []) from by decide +kernel) rfl ?_
      refine e_if (t := 52) (show pAt 66 31 = some (31, .ifCond .eq 21, 3, []) from by decide +kernel) rfl (fun c10 => ?_) (fun c10 => ?_)
      · replace vc := vc.1 c10
        refine e_aload_n (show pAt 66 52 = some (52, .aload_n 0, 1, []) from by decide +kernel) rfl (ra (by decide)) ?_
        refine e_gR (show pAt 66 53 = some (53, .getfield 12, 3, [6, 0, 0, 2022]) from by decide +kernel) (show HS h5 from hs_h5) rfl (by decide) (hs_ref (show HS h5 from hs_h5) rfl) ?_
        refine e_dupR (show pAt 66 56 = some (56, .dup, 1, []) from by decide +kernel) ?_
        refine e_gIv (v := h5.2.1 1 7) (show pAt 66 57 = some (57, .getfield 97, 3, [2, 7, 1, 1054]) from by decide +kernel) (show HS h5 from hs_h5) rfl (by decide) rfl ?_
        refine e_iconst (c := 1) (show pAt 66 60 = some (60, .iconst 1, 1, []) from by decide +kernel) (by decide) ?_
        refine e_iload_n (show pAt 66 61 = some (61, .iload_n 1, 1, []) from by decide +kernel) rfl ?_
        refine e_ishl (show pAt 66 62 = some (62, .ishl, 1, []) from by decide +kernel) ?_
        refine e_iconst (c := (-1)) (show pAt 66 63 = some (63, .iconst (-1), 1, []) from by decide +kernel) (by decide) ?_
        refine e_ixor (show pAt 66 64 = some (64, .ixor, 1, []) from by decide +kernel) ?_
        refine e_iand (show pAt 66 65 = some (65, .iand, 1, []) from by decide +kernel) ?_
        refine e_pI (show pAt 66 66 = some (66, .putfield 97, 3, [2, 7, 1, 1054]) from by decide +kernel) (show HS h5 from hs_h5) (by decide) (Or.inl rfl) ?_
        refine e_iload_n (show pAt 66 69 = some (69, .iload_n 3, 1, []) from by decide +kernel) rfl ?_
        exact e_retI (show pAt 66 70 = some (70, .ireturn, 1, []) from by decide +kernel) rfl vc
      · replace vc := vc.2 c10
        refine e_aload_n (show pAt 66 34 = some (34, .aload_n 0, 1, []) from by decide +kernel) rfl (ra (by decide)) ?_
        refine e_gR (show pAt 66 35 = some (35, .getfield 12, 3, [6, 0, 0, 2022]) from by decide +kernel) (show HS h5 from hs_h5) rfl (by decide) (hs_ref (show HS h5 from hs_h5) rfl) ?_
        refine e_dupR (show pAt 66 38 = some (38, .dup, 1, []) from by decide +kernel) ?_
        refine e_gIv (v := h5.2.1 1 7) (show pAt 66 39 = some (39, .getfield 97, 3, [2, 7, 1, 1054]) from by decide +kernel) (show HS h5 from hs_h5) rfl (by decide) rfl ?_
        refine e_iconst (c := 1) (show pAt 66 42 = some (42, .iconst 1, 1, []) from by decide +kernel) (by decide) ?_
        refine e_iload_n (show pAt 66 43 = some (43, .iload_n 1, 1, []) from by decide +kernel) rfl ?_
        refine e_ishl (show pAt 66 44 = some (44, .ishl, 1, []) from by decide +kernel) ?_
        refine e_ior (show pAt 66 45 = some (45, .ior, 1, []) from by decide +kernel) ?_
        refine e_pI (show pAt 66 46 = some (46, .putfield 97, 3, [2, 7, 1, 1054]) from by decide +kernel) (show HS h5 from hs_h5) (by decide) (Or.inl rfl) ?_
        refine e_goto (t := 69) (show pAt 66 49 = some (49, .goto 20, 3, []) from by decide +kernel) rfl ?_
        refine e_iload_n (show pAt 66 69 = some (69, .iload_n 3, 1, []) from by decide +kernel) rfl ?_
        exact e_retI (show pAt 66 70 = some (70, .ireturn, 1, []) from by decide +kernel) rfl vc
  · replace vc := vc.2 c4
    refine e_iconst (c := (-1)) (show pAt 66 11 = some (11, .iconst (-1), 1, []) from by decide +kernel) (by decide) ?_
    exact e_retI (show pAt 66 12 = some (12, .ireturn, 1, []) from by decide +kernel) rfl vc

theorem w_ctold {X : Scr} {dp : Nat} {h : Hp} {Q : Option Value → Hp → Prop} (w : Int32) (hs : HS h)
    (vc : (((w.toInt < 0 ∨ 2 < w.toInt) → Q (some (.int (-1))) h) ∧ (w.toInt = 0 → Q (some (.int (h.2.1 1 8))) h) ∧ (w.toInt = 1 → Ends X dp 29 0 [.ref 1] [] h (fun rv h3 => ∃ r4, rv = some (.int r4) ∧ HS h3 ∧ Q (some (.int r4)) h3)) ∧ (w.toInt = 2 → Q (some (.int (h.2.1 1 7))) h))) :
    Ends X (dp + 1) 70 0 [.ref 0, .int w] [] h Q := by
  have ra : ∀ {a : Nat}, a < 1000 → a ≤ OLDB := fun h => by have := OLDB_eq; omega
  refine e_iload_n (show pAt 70 0 = some (0, .iload_n 1, 1, []) from by decide +kernel) rfl ?_
  rcases (show (w.toInt < 0 ∨ 2 < w.toInt) ∨ w.toInt = 0 ∨ w.toInt = 1 ∨ w.toInt = 2 from by omega) with c1 | c1 | c1 | c1
  · refine e_tsd (t := 52) (show pAt 70 1 = some (1, .tableswitch 51 0 2 #[27, 35, 43], 27, []) from by decide +kernel) c1 rfl ?_
    replace vc := vc.1 c1
    refine e_iconst (c := (-1)) (show pAt 70 52 = some (52, .iconst (-1), 1, []) from by decide +kernel) (by decide) ?_
    exact e_retI (show pAt 70 53 = some (53, .ireturn, 1, []) from by decide +kernel) rfl vc
  · refine e_tsc (t := 28) 0 (show pAt 70 1 = some (1, .tableswitch 51 0 2 #[27, 35, 43], 27, []) from by decide +kernel) (by omega) (by omega) rfl rfl ?_
    replace vc := vc.2.1 c1
    refine e_aload_n (show pAt 70 28 = some (28, .aload_n 0, 1, []) from by decide +kernel) rfl (ra (by decide)) ?_
    refine e_gR (show pAt 70 29 = some (29, .getfield 12, 3, [6, 0, 0, 2022]) from by decide +kernel) (show HS h from hs) rfl (by decide) (hs_ref (show HS h from hs) rfl) ?_
    refine e_gIv (v := h.2.1 1 8) (show pAt 70 32 = some (32, .getfield 120, 3, [2, 8, 1, 1056]) from by decide +kernel) (show HS h from hs) rfl (by decide) rfl ?_
    exact e_retI (show pAt 70 35 = some (35, .ireturn, 1, []) from by decide +kernel) rfl vc
  · refine e_tsc (t := 36) 1 (show pAt 70 1 = some (1, .tableswitch 51 0 2 #[27, 35, 43], 27, []) from by decide +kernel) (by omega) (by omega) rfl rfl ?_
    replace vc := vc.2.2.1 c1
    refine e_aload_n (show pAt 70 36 = some (36, .aload_n 0, 1, []) from by decide +kernel) rfl (ra (by decide)) ?_
    refine e_gR (show pAt 70 37 = some (37, .getfield 12, 3, [6, 0, 0, 2022]) from by decide +kernel) (show HS h from hs) rfl (by decide) (hs_ref (show HS h from hs) rfl) ?_
    refine Ends.call (show pAt 70 40 = some (40, .invokevirtual 123, 3, [29, 1, 0, 1, 3163, 2107, 8]) from by decide +kernel) (isRet_none rfl) rfl (call_this (show HS h from hs) rfl rfl (by decide)) (Ends.mono vc ?_)
    rintro _ h3 ⟨r4, rfl, hs_h3, vc⟩
    exact e_retI (show pAt 70 43 = some (43, .ireturn, 1, []) from by decide +kernel) rfl vc
  · refine e_tsc (t := 44) 2 (show pAt 70 1 = some (1, .tableswitch 51 0 2 #[27, 35, 43], 27, []) from by decide +kernel) (by omega) (by omega) rfl rfl ?_
    replace vc := vc.2.2.2 c1
    refine e_aload_n (show pAt 70 44 = some (44, .aload_n 0, 1, []) from by decide +kernel) rfl (ra (by decide)) ?_
    refine e_gR (show pAt 70 45 = some (45, .getfield 12, 3, [6, 0, 0, 2022]) from by decide +kernel) (show HS h from hs) rfl (by decide) (hs_ref (show HS h from hs) rfl) ?_
    refine e_gIv (v := h.2.1 1 7) (show pAt 70 48 = some (48, .getfield 97, 3, [2, 7, 1, 1054]) from by decide +kernel) (show HS h from hs) rfl (by decide) rfl ?_
    exact e_retI (show pAt 70 51 = some (51, .ireturn, 1, []) from by decide +kernel) rfl vc

theorem w_cshout {X : Scr} {dp : Nat} {h : Hp} {Q : Option Value → Hp → Prop}  (hs : HS h)
    (vc : ((condB .lt (h.2.1 1 8) 999 = true → Ends X dp 100 0 [.ref 0, .retAddr 0] [] h (fun rv h2 => rv = none ∧ HS h2 ∧ Ends X dp 10 0 [.ref 17, .retAddr 0, .retAddr 0, .retAddr 0, .retAddr 0, .retAddr 0, .retAddr 0] [] h2 (fun rv h5 => ∃ r6, rv = some (.int r6) ∧ HS h5 ∧ Q (some (.int r6)) (hpI (hpI h5 1 7 ((h5.2.1 1 7) ||| r6)) 1 8 ((h5.2.1 1 8) + 1))))) ∧ (condB .lt (h.2.1 1 8) 999 = false → Q (some (.int (-3))) h))) :
    Ends X (dp + 1) 71 0 [.ref 0, .retAddr 0] [] h Q := by
  have ra : ∀ {a : Nat}, a < 1000 → a ≤ OLDB := fun h => by have := OLDB_eq; omega
  refine e_aload_n (show pAt 71 0 = some (0, .aload_n 0, 1, []) from by decide +kernel) rfl (ra (by decide)) ?_
  refine e_gR (show pAt 71 1 = some (1, .getfield 12, 3, [6, 0, 0, 2022]) from by decide +kernel) (show HS h from hs) rfl (by decide) (hs_ref (show HS h from hs) rfl) ?_
  refine e_gIv (v := h.2.1 1 8) (show pAt 71 4 = some (4, .getfield 120, 3, [2, 8, 1, 1056]) from by decide +kernel) (show HS h from hs) rfl (by decide) rfl ?_
  refine e_sipush (c := 999) (show pAt 71 7 = some (7, .sipush 999, 3, []) from by decide +kernel) (by decide) ?_
  refine e_icmp (t := 16) (show pAt 71 10 = some (10, .if_icmp .lt 6, 3, []) from by decide +kernel) rfl (fun c1 => ?_) (fun c1 => ?_)
  · replace vc := vc.1 c1
    refine e_aload_n (show pAt 71 16 = some (16, .aload_n 0, 1, []) from by decide +kernel) rfl (ra (by decide)) ?_
    refine Ends.call (show pAt 71 17 = some (17, .invokevirtual 127, 3, [100, 1, 0, 0, 2086, 2088, 4]) from by decide +kernel) (isRet_none rfl) rfl (call_this (show HS h from hs) rfl rfl (by decide)) (Ends.mono vc ?_)
    rintro _ h2 ⟨rfl, hs_h2, vc⟩
    refine e_aload_n (show pAt 71 20 = some (20, .aload_n 0, 1, []) from by decide +kernel) rfl (ra (by decide)) ?_
    refine e_gR (show pAt 71 21 = some (21, .getfield 24, 3, [6, 3, 0, 2025]) from by decide +kernel) (show HS h2 from hs_h2) rfl (by decide) (hs_ref (show HS h2 from hs_h2) rfl) ?_
    refine Ends.call (show pAt 71 24 = some (24, .invokevirtual 130, 3, [10, 1, 0, 1, 2101, 2103, 7]) from by decide +kernel) (isRet_none rfl) rfl (call_this (show HS h2 from hs_h2) rfl rfl (by decide)) (Ends.mono vc ?_)
    rintro _ h5 ⟨r6, rfl, hs_h5, vc⟩
    refine e_istore_n (show pAt 71 27 = some (27, .istore_n 1, 1, []) from by decide +kernel) ⟨Nat.le_of_ble_eq_true rfl, rfl⟩ rfl ?_
    refine e_aload_n (show pAt 71 28 = some (28, .aload_n 0, 1, []) from by decide +kernel) rfl (ra (by decide)) ?_
    refine e_gR (show pAt 71 29 = some (29, .getfield 12, 3, [6, 0, 0, 2022]) from by decide +kernel) (show HS h5 from hs_h5) rfl (by decide) (hs_ref (show HS h5 from hs_h5) rfl) ?_
    refine e_dupR (show pAt 71 32 = some (32, .dup, 1, []) from by decide +kernel) ?_
    refine e_gIv (v := h5.2.1 1 7) (show pAt 71 33 = some (33, .getfield 97, 3, [2, 7, 1, 1054]) from by decide +kernel) (show HS h5 from hs_h5) rfl (by decide) rfl ?_
    refine e_iload_n (show pAt 71 36 = some (36, .iload_n 1, 1, []) from by decide +kernel) rfl ?_
    refine e_ior (show pAt 71 37 = some (37, .ior, 1, []) from by decide +kernel) ?_
    refine e_pI (show pAt 71 38 = some (38, .putfield 97, 3, [2, 7, 1, 1054]) from by decide +kernel) (show HS h5 from hs_h5) (by decide) (Or.inl rfl) ?_
    refine e_aload_n (show pAt 71 41 = some (41, .aload_n 0, 1, []) from by decide +kernel) rfl (ra (by decide)) ?_
    refine e_gR (show pAt 71 42 = some (42, .getfield 12, 3, [6, 0, 0, 2022]) from by decide +kernel) (show HS (hpI h5 1 7 ((h5.2.1 1 7) ||| r6)) from hs_h5) rfl (by decide) (hs_ref (show HS (hpI h5 1 7 ((h5.2.1 1 7) ||| r6)) from hs_h5) rfl) ?_
    refine e_dupR (show pAt 71 45 = some (45, .dup, 1, []) from by decide +kernel) ?_
    refine e_gIv (v := h5.2.1 1 8) (show pAt 71 46 = some (46, .getfield 120, 3, [2, 8, 1, 1056]) from by decide +kernel) (show HS (hpI h5 1 7 ((h5.2.1 1 7) ||| r6)) from hs_h5) rfl (by decide) rfl ?_
    refine e_iconst (c := 1) (show pAt 71 49 = some (49, .iconst 1, 1, []) from by decide +kernel) (by decide) ?_
    refine e_iadd (show pAt 71 50 = some (50, .iadd, 1, []) from by decide +kernel) ?_
    refine e_pI (show pAt 71 51 = some (51, .putfield 120, 3, [2, 8, 1, 1056]) from by decide +kernel) (show HS (hpI h5 1 7 ((h5.2.1 1 7) ||| r6)) from hs_h5) (by decide) (Or.inl rfl) ?_
    refine e_iload_n (show pAt 71 54 = some (54, .iload_n 1, 1, []) from by decide +kernel) rfl ?_
    exact e_retI (show pAt 71 55 = some (55, .ireturn, 1, []) from by decide +kernel) rfl vc
  · replace vc := vc.2 c1
    refine e_bipush (c := (-3)) (show pAt 71 13 = some (13, .bipush (-3), 2, []) from by decide +kernel) (by decide) ?_
    exact e_retI (show pAt 71 15 = some (15, .ireturn, 1, []) from by decide +kernel) rfl vc

theorem w_con0 {X : Scr} {dp : Nat} {h : Hp} {Q : Option Value → Hp → Prop} (n : Int32) (w : Int32) (hs : HS h)
    (vc : ((condB .lt w 0 = true → Q (some (.int (-1))) h) ∧ (condB .lt w 0 = false → ((condB .le w 1 = true → ((condB .lt n 0 = true → Q (some (.int (-2))) h) ∧ (condB .lt n 0 = false → ((condB .le n 30 = true → Ends X dp 100 0 [.ref 0, .retAddr 0] [] h (fun rv h5 => rv = none ∧ HS h5 ∧ Ends X (dp + 1) 72 33 [.ref 0, .int n, .int w, .int 0, .int 0] [] h5 Q)) ∧ (condB .le n 30 = false → Q (some (.int (-2))) h))))) ∧ (condB .le w 1 = false → Q (some (.int (-1))) h))))) :
    Ends X (dp + 1) 72 0 [.ref 0, .int n, .int w, .retAddr 0, .retAddr 0] [] h Q := by
  have ra : ∀ {a : Nat}, a < 1000 → a ≤ OLDB := fun h => by have := OLDB_eq; omega
  refine e_iload_n (show pAt 72 0 = some (0, .iload_n 2, 1, []) from by decide +kernel) rfl ?_
  refine e_if (t := 9) (show pAt 72 1 = some (1, .ifCond .lt 8, 3, []) from by decide +kernel) rfl (fun c1 => ?_) (fun c1 => ?_)
  · replace vc := vc.1 c1
    refine e_iconst (c := (-1)) (show pAt 72 9 = some (9, .iconst (-1), 1, []) from by decide +kernel) (by decide) ?_
    exact e_retI (show pAt 72 10 = some (10, .ireturn, 1, []) from by decide +kernel) rfl vc
  · replace vc := vc.2 c1
    refine e_iload_n (show pAt 72 4 = some (4, .iload_n 2, 1, []) from by decide +kernel) rfl ?_
    refine e_iconst (c := 1) (show pAt 72 5 = some (5, .iconst 1, 1, []) from by decide +kernel) (by decide) ?_
    refine e_icmp (t := 11) (show pAt 72 6 = some (6, .if_icmp .le 5, 3, []) from by decide +kernel) rfl (fun c2 => ?_) (fun c2 => ?_)
    · replace vc := vc.1 c2
      refine e_iload_n (show pAt 72 11 = some (11, .iload_n 1, 1, []) from by decide +kernel) rfl ?_
      refine e_if (t := 21) (show pAt 72 12 = some (12, .ifCond .lt 9, 3, []) from by decide +kernel) rfl (fun c3 => ?_) (fun c3 => ?_)
      · replace vc := vc.1 c3
        refine e_bipush (c := (-2)) (show pAt 72 21 = some (21, .bipush (-2), 2, []) from by decide +kernel) (by decide) ?_
        exact e_retI (show pAt 72 23 = some (23, .ireturn, 1, []) from by decide +kernel) rfl vc
      · replace vc := vc.2 c3
        refine e_iload_n (show pAt 72 15 = some (15, .iload_n 1, 1, []) from by decide +kernel) rfl ?_
        refine e_bipush (c := 30) (show pAt 72 16 = some (16, .bipush 30, 2, []) from by decide +kernel) (by decide) ?_
        refine e_icmp (t := 24) (show pAt 72 18 = some (18, .if_icmp .le 6, 3, []) from by decide +kernel) rfl (fun c4 => ?_) (fun c4 => ?_)
        · replace vc := vc.1 c4
          refine e_aload_n (show pAt 72 24 = some (24, .aload_n 0, 1, []) from by decide +kernel) rfl (ra (by decide)) ?_
          refine Ends.call (show pAt 72 25 = some (25, .invokevirtual 127, 3, [100, 1, 0, 0, 2086, 2088, 4]) from by decide +kernel) (isRet_none rfl) rfl (call_this (show HS h from hs) rfl rfl (by decide)) (Ends.mono vc ?_)
          rintro _ h5 ⟨rfl, hs_h5, vc⟩
          refine e_iconst (c := 0) (show pAt 72 28 = some (28, .iconst 0, 1, []) from by decide +kernel) (by decide) ?_
          refine e_istore_n (show pAt 72 29 = some (29, .istore_n 3, 1, []) from by decide +kernel) ⟨Nat.le_of_ble_eq_true rfl, rfl⟩ rfl ?_
          refine e_iconst (c := 0) (show pAt 72 30 = some (30, .iconst 0, 1, []) from by decide +kernel) (by decide) ?_
          refine e_istore (show pAt 72 31 = some (31, .istore 4, 2, []) from by decide +kernel) ⟨Nat.le_of_ble_eq_true rfl, rfl⟩ rfl ?_
          exact vc
        · replace vc := vc.2 c4
          refine e_bipush (c := (-2)) (show pAt 72 21 = some (21, .bipush (-2), 2, []) from by decide +kernel) (by decide) ?_
          exact e_retI (show pAt 72 23 = some (23, .ireturn, 1, []) from by decide +kernel) rfl vc
    · replace vc := vc.2 c2
      refine e_iconst (c := (-1)) (show pAt 72 9 = some (9, .iconst (-1), 1, []) from by decide +kernel) (by decide) ?_
      exact e_retI (show pAt 72 10 = some (10, .ireturn, 1, []) from by decide +kernel) rfl vc

theorem w_con1 {X : Scr} {dp : Nat} {h : Hp} {Q : Option Value → Hp → Prop} (n : Int32) (w : Int32) (c : Int32) (i : Int32) (hs : HS h)
    (vc : ((condB .ge i n = true → ((condB .ne w 0 = true → Q (some (.int c)) h) ∧ (condB .ne w 0 = false → Ends X dp 29 0 [.ref 18] [] h (fun rv h3 => ∃ r4, rv = some (.int r4) ∧ HS h3 ∧ Q (some (.int r4)) h3)))) ∧ (condB .ge i n = false → Ends X dp 9 0 [.ref 17, .retAddr 0] [] h (fun rv h6 => ∃ r7, rv = some (.int r7) ∧ HS h6 ∧ Ends X dp 204 0 [.int r7] [] h6 (fun rv h9 => ∃ r10, rv = some (.int r10) ∧ HS h9 ∧ Ends X (dp + 1) 72 33 [.ref 0, .int n, .int w, .int (c + r10), .int (i + 1)] [] h9 Q))))) :
    Ends X (dp + 1) 72 33 [.ref 0, .int n, .int w, .int c, .int i] [] h Q := by
  have ra : ∀ {a : Nat}, a < 1000 → a ≤ OLDB := fun h => by have := OLDB_eq; omega
  refine e_iload (show pAt 72 33 = some (33, .iload 4, 2, []) from by decide +kernel) rfl ?_
  refine e_iload_n (show pAt 72 35 = some (35, .iload_n 1, 1, []) from by decide +kernel) rfl ?_
  refine e_icmp (t := 58) (show pAt 72 36 = some (36, .if_icmp .ge 22, 3, []) from by decide +kernel) rfl (fun c1 => ?_) (fun c1 => ?_)
  · replace vc := vc.1 c1
    refine e_iload_n (show pAt 72 58 = some (58, .iload_n 2, 1, []) from by decide +kernel) rfl ?_
    refine e_if (t := 75) (show pAt 72 59 = some (59, .ifCond .ne 16, 3, []) from by decide +kernel) rfl (fun c2 => ?_) (fun c2 => ?_)
    · replace vc := vc.1 c2
      refine e_iload_n (show pAt 72 75 = some (75, .iload_n 3, 1, []) from by decide +kernel) rfl ?_
      exact e_retI (show pAt 72 76 = some (76, .ireturn, 1, []) from by decide +kernel) rfl vc
    · replace vc := vc.2 c2
      refine e_aload_n (show pAt 72 62 = some (62, .aload_n 0, 1, []) from by decide +kernel) rfl (ra (by decide)) ?_
      refine e_gR (show pAt 72 63 = some (63, .getfield 24, 3, [6, 3, 0, 2025]) from by decide +kernel) (show HS h from hs) rfl (by decide) (hs_ref (show HS h from hs) rfl) ?_
      refine e_gR (show pAt 72 66 = some (66, .getfield 142, 3, [1, 0, 1, 1128]) from by decide +kernel) (show HS h from hs) rfl (by decide) (hs_ref (show HS h from hs) rfl) ?_
      refine Ends.call (show pAt 72 69 = some (69, .invokevirtual 123, 3, [29, 1, 0, 1, 3163, 2107, 8]) from by decide +kernel) (isRet_none rfl) rfl (call_this (show HS h from hs) rfl rfl (by decide)) (Ends.mono vc ?_)
      rintro _ h3 ⟨r4, rfl, hs_h3, vc⟩
      refine e_goto (t := 76) (show pAt 72 72 = some (72, .goto 4, 3, []) from by decide +kernel) rfl ?_
      exact e_retI (show pAt 72 76 = some (76, .ireturn, 1, []) from by decide +kernel) rfl vc
  · replace vc := vc.2 c1
    refine e_iload_n (show pAt 72 39 = some (39, .iload_n 3, 1, []) from by decide +kernel) rfl ?_
    refine e_aload_n (show pAt 72 40 = some (40, .aload_n 0, 1, []) from by decide +kernel) rfl (ra (by decide)) ?_
    refine e_gR (show pAt 72 41 = some (41, .getfield 24, 3, [6, 3, 0, 2025]) from by decide +kernel) (show HS h from hs) rfl (by decide) (hs_ref (show HS h from hs) rfl) ?_
    refine Ends.call (show pAt 72 44 = some (44, .invokevirtual 133, 3, [9, 1, 0, 1, 3172, 3174, 42]) from by decide +kernel) (isRet_none rfl) rfl (call_this (show HS h from hs) rfl rfl (by decide)) (Ends.mono vc ?_)
    rintro _ h6 ⟨r7, rfl, hs_h6, vc⟩
    refine Ends.call (show pAt 72 47 = some (47, .invokestatic 136, 3, [204, 1, 2, 0, 3177, 2169, 0]) from by decide +kernel) (isRet_none rfl) rfl rfl (Ends.mono vc ?_)
    rintro _ h9 ⟨r10, rfl, hs_h9, vc⟩
    refine e_iadd (show pAt 72 50 = some (50, .iadd, 1, []) from by decide +kernel) ?_
    refine e_istore_n (show pAt 72 51 = some (51, .istore_n 3, 1, []) from by decide +kernel) ⟨Nat.le_of_ble_eq_true rfl, rfl⟩ rfl ?_
    refine e_iinc (c := 1) (show pAt 72 52 = some (52, .iinc 4 1, 3, []) from by decide +kernel) rfl rfl (by decide) rfl ?_
    refine e_goto (t := 33) (show pAt 72 55 = some (55, .goto (-22), 3, []) from by decide +kernel) rfl ?_
    exact vc

theorem w_clas0 {X : Scr} {dp : Nat} {h : Hp} {Q : Option Value → Hp → Prop} (w : Int32) (hs : HS h)
    (vc : ((condB .lt w 0 = true → Q (some (.int (-1))) h) ∧ (condB .lt w 0 = false → ((condB .le w 1 = true → Ends X dp 100 0 [.ref 0, .retAddr 0] [] h (fun rv h3 => rv = none ∧ HS h3 ∧ Ends X (dp + 1) 73 17 [.ref 0, .int w, .int 0, .retAddr 0] [] h3 Q)) ∧ (condB .le w 1 = false → Q (some (.int (-1))) h))))) :
    Ends X (dp + 1) 73 0 [.ref 0, .int w, .retAddr 0, .retAddr 0] [] h Q := by
  have ra : ∀ {a : Nat}, a < 1000 → a ≤ OLDB := fun h => by have := OLDB_eq; omega
  refine e_iload_n (show pAt 73 0 = some (0, .iload_n 1, 1, []) from by decide +kernel) rfl ?_
  refine e_if (t := 9) (show pAt 73 1 = some (1, .ifCond .lt 8, 3, []) from by decide +kernel) rfl (fun c1 => ?_) (fun c1 => ?_)
  · replace vc := vc.1 c1
    refine e_iconst (c := (-1)) (show pAt 73 9 = some (9, .iconst (-1), 1, []) from by decide +kernel) (by decide) ?_
    exact e_retI (show pAt 73 10 = some (10, .ireturn, 1, []) from by decide +kernel) rfl vc
  · replace vc := vc.2 c1
    refine e_iload_n (show pAt 73 4 = some (4, .iload_n 1, 1, []) from by decide +kernel) rfl ?_
    refine e_iconst (c := 1) (show pAt 73 5 = some (5, .iconst 1, 1, []) from by decide +kernel) (by decide) ?_
    refine e_icmp (t := 11) (show pAt 73 6 = some (6, .if_icmp .le 5, 3, []) from by decide +kernel) rfl (fun c2 => ?_) (fun c2 => ?_)
    · replace vc := vc.1 c2
      refine e_aload_n (show pAt 73 11 = some (11, .aload_n 0, 1, []) from by decide +kernel) rfl (ra (by decide)) ?_
      refine Ends.call (show pAt 73 12 = some (12, .invokevirtual 127, 3, [100, 1, 0, 0, 2086, 2088, 4]) from by decide +kernel) (isRet_none rfl) rfl (call_this (show HS h from hs) rfl rfl (by decide)) (Ends.mono vc ?_)
      rintro _ h3 ⟨rfl, hs_h3, vc⟩
      refine e_iconst (c := 0) (show pAt 73 15 = some (15, .iconst 0, 1, []) from by decide +kernel) (by decide) ?_
      refine e_istore_n (show pAt 73 16 = some (16, .istore_n 2, 1, []) from by decide +kernel) ⟨Nat.le_of_ble_eq_true rfl, rfl⟩ rfl ?_
      exact vc
    · replace vc := vc.2 c2
      refine e_iconst (c := (-1)) (show pAt 73 9 = some (9, .iconst (-1), 1, []) from by decide +kernel) (by decide) ?_
      exact e_retI (show pAt 73 10 = some (10, .ireturn, 1, []) from by decide +kernel) rfl vc

theorem w_clas1 {X : Scr} {dp : Nat} {h : Hp} {Q : Option Value → Hp → Prop} (w : Int32) (n : Int32) (x : Value) (hs : HS h)
    (vc : ((condB .gt n 30 = true → Q (some (.int (-5))) h) ∧ (condB .gt n 30 = false → Ends X dp 29 0 [.ref 18] [] h (fun rv h2 => ∃ r3, rv = some (.int r3) ∧ HS h2 ∧ Ends X dp 204 0 [.int r3] [] h2 (fun rv h5 => ∃ r6, rv = some (.int r6) ∧ HS h5 ∧ ((condB .gt r6 1 = true → Ends X dp 9 0 [.ref 17, .retAddr 0] [] h5 (fun rv h9 => ∃ r10, rv = some (.int r10) ∧ HS h9 ∧ Ends X (dp + 1) 73 17 [.ref 0, .int w, .int (n + 1), .int r3] [] h9 Q)) ∧ (condB .gt r6 1 = false → ((condB .ne w 0 = true → Q (some (.int n)) h5) ∧ (condB .ne w 0 = false → Ends X dp 105 0 [.int r3, .retAddr 0] [] h5 (fun rv h13 => ∃ r14, rv = some (.int r14) ∧ HS h13 ∧ Q (some (.int r14)) h13)))))))))) :
    Ends X (dp + 1) 73 17 [.ref 0, .int w, .int n, x] [] h Q := by
  have ra : ∀ {a : Nat}, a < 1000 → a ≤ OLDB := fun h => by have := OLDB_eq; omega
  refine e_iload_n (show pAt 73 17 = some (17, .iload_n 2, 1, []) from by decide +kernel) rfl ?_
  refine e_bipush (c := 30) (show pAt 73 18 = some (18, .bipush 30, 2, []) from by decide +kernel) (by decide) ?_
  refine e_icmp (t := 69) (show pAt 73 20 = some (20, .if_icmp .gt 49, 3, []) from by decide +kernel) rfl (fun c1 => ?_) (fun c1 => ?_)
  · replace vc := vc.1 c1
    refine e_bipush (c := (-5)) (show pAt 73 69 = some (69, .bipush (-5), 2, []) from by decide +kernel) (by decide) ?_
    exact e_retI (show pAt 73 71 = some (71, .ireturn, 1, []) from by decide +kernel) rfl vc
  · replace vc := vc.2 c1
    refine e_aload_n (show pAt 73 23 = some (23, .aload_n 0, 1, []) from by decide +kernel) rfl (ra (by decide)) ?_
    refine e_gR (show pAt 73 24 = some (24, .getfield 24, 3, [6, 3, 0, 2025]) from by decide +kernel) (show HS h from hs) rfl (by decide) (hs_ref (show HS h from hs) rfl) ?_
    refine e_gR (show pAt 73 27 = some (27, .getfield 142, 3, [1, 0, 1, 1128]) from by decide +kernel) (show HS h from hs) rfl (by decide) (hs_ref (show HS h from hs) rfl) ?_
    refine Ends.call (show pAt 73 30 = some (30, .invokevirtual 123, 3, [29, 1, 0, 1, 3163, 2107, 8]) from by decide +kernel) (isRet_none rfl) rfl (call_this (show HS h from hs) rfl rfl (by decide)) (Ends.mono vc ?_)
    rintro _ h2 ⟨r3, rfl, hs_h2, vc⟩
    refine e_istore_n (show pAt 73 33 = some (33, .istore_n 3, 1, []) from by decide +kernel) ⟨Nat.le_of_ble_eq_true rfl, rfl⟩ rfl ?_
    refine e_iload_n (show pAt 73 34 = some (34, .iload_n 3, 1, []) from by decide +kernel) rfl ?_
    refine Ends.call (show pAt 73 35 = some (35, .invokestatic 136, 3, [204, 1, 2, 0, 3177, 2169, 0]) from by decide +kernel) (isRet_none rfl) rfl rfl (Ends.mono vc ?_)
    rintro _ h5 ⟨r6, rfl, hs_h5, vc⟩
    refine e_iconst (c := 1) (show pAt 73 38 = some (38, .iconst 1, 1, []) from by decide +kernel) (by decide) ?_
    refine e_icmp (t := 55) (show pAt 73 39 = some (39, .if_icmp .gt 16, 3, []) from by decide +kernel) rfl (fun c8 => ?_) (fun c8 => ?_)
    · replace vc := vc.1 c8
      refine e_aload_n (show pAt 73 55 = some (55, .aload_n 0, 1, []) from by decide +kernel) rfl (ra (by decide)) ?_
      refine e_gR (show pAt 73 56 = some (56, .getfield 24, 3, [6, 3, 0, 2025]) from by decide +kernel) (show HS h5 from hs_h5) rfl (by decide) (hs_ref (show HS h5 from hs_h5) rfl) ?_
      refine Ends.call (show pAt 73 59 = some (59, .invokevirtual 133, 3, [9, 1, 0, 1, 3172, 3174, 42]) from by decide +kernel) (isRet_none rfl) rfl (call_this (show HS h5 from hs_h5) rfl rfl (by decide)) (Ends.mono vc ?_)
      rintro _ h9 ⟨r10, rfl, hs_h9, vc⟩
      refine e_pop (show pAt 73 62 = some (62, .pop, 1, []) from by decide +kernel) ?_
      refine e_iinc (c := 1) (show pAt 73 63 = some (63, .iinc 2 1, 3, []) from by decide +kernel) rfl rfl (by decide) rfl ?_
      refine e_goto (t := 17) (show pAt 73 66 = some (66, .goto (-49), 3, []) from by decide +kernel) rfl ?_
      exact vc
    · replace vc := vc.2 c8
      refine e_iload_n (show pAt 73 42 = some (42, .iload_n 1, 1, []) from by decide +kernel) rfl ?_
      refine e_if (t := 53) (show pAt 73 43 = some (43, .ifCond .ne 10, 3, []) from by decide +kernel) rfl (fun c12 => ?_) (fun c12 => ?_)
      · replace vc := vc.1 c12
        refine e_iload_n (show pAt 73 53 = some (53, .iload_n 2, 1, []) from by decide +kernel) rfl ?_
        exact e_retI (show pAt 73 54 = some (54, .ireturn, 1, []) from by decide +kernel) rfl vc
      · replace vc := vc.2 c12
        refine e_iload_n (show pAt 73 46 = some (46, .iload_n 3, 1, []) from by decide +kernel) rfl ?_
        refine Ends.call (show pAt 73 47 = some (47, .invokestatic 145, 3, [105, 1, 2, 0, 3182, 3183, 0]) from by decide +kernel) (isRet_none rfl) rfl rfl (Ends.mono vc ?_)
        rintro _ h13 ⟨r14, rfl, hs_h13, vc⟩
        refine e_goto (t := 54) (show pAt 73 50 = some (50, .goto 4, 3, []) from by decide +kernel) rfl ?_
        exact e_retI (show pAt 73 54 = some (54, .ireturn, 1, []) from by decide +kernel) rfl vc

theorem w_cfir0 {X : Scr} {dp : Nat} {h : Hp} {Q : Option Value → Hp → Prop} (w : Int32) (hs : HS h)
    (vc : ((condB .lt w 0 = true → Q (some (.int (-1))) h) ∧ (condB .lt w 0 = false → ((condB .le w 1 = true → Ends X dp 29 0 [.ref 1] [] h (fun rv h3 => ∃ r4, rv = some (.int r4) ∧ HS h3 ∧ Ends X dp 100 0 [.ref 0, .retAddr 0] [] h3 (fun rv h6 => rv = none ∧ HS h6 ∧ Ends X (dp + 1) 74 33 [.ref 0, .int w, .int (-5), .int (-5), .int r4, .int 0, .retAddr 0] [] h6 Q))) ∧ (condB .le w 1 = false → Q (some (.int (-1))) h))))) :
    Ends X (dp + 1) 74 0 [.ref 0, .int w, .retAddr 0, .retAddr 0, .retAddr 0, .retAddr 0, .retAddr 0] [] h Q := by
  have ra : ∀ {a : Nat}, a < 1000 → a ≤ OLDB := fun h => by have := OLDB_eq; omega
  refine e_iload_n (show pAt 74 0 = some (0, .iload_n 1, 1, []) from by decide +kernel) rfl ?_
  refine e_if (t := 9) (show pAt 74 1 = some (1, .ifCond .lt 8, 3, []) from by decide +kernel) rfl (fun c1 => ?_) (fun c1 => ?_)
  · replace vc := vc.1 c1
    refine e_iconst (c := (-1)) (show pAt 74 9 = some (9, .iconst (-1), 1, []) from by decide +kernel) (by decide) ?_
    exact e_retI (show pAt 74 10 = some (10, .ireturn, 1, []) from by decide +kernel) rfl vc
  · replace vc := vc.2 c1
    refine e_iload_n (show pAt 74 4 = some (4, .iload_n 1, 1, []) from by decide +kernel) rfl ?_
    refine e_iconst (c := 1) (show pAt 74 5 = some (5, .iconst 1, 1, []) from by decide +kernel) (by decide) ?_
    refine e_icmp (t := 11) (show pAt 74 6 = some (6, .if_icmp .le 5, 3, []) from by decide +kernel) rfl (fun c2 => ?_) (fun c2 => ?_)
    · replace vc := vc.1 c2
      refine e_bipush (c := (-5)) (show pAt 74 11 = some (11, .bipush (-5), 2, []) from by decide +kernel) (by decide) ?_
      refine e_istore_n (show pAt 74 13 = some (13, .istore_n 2, 1, []) from by decide +kernel) ⟨Nat.le_of_ble_eq_true rfl, rfl⟩ rfl ?_
      refine e_bipush (c := (-5)) (show pAt 74 14 = some (14, .bipush (-5), 2, []) from by decide +kernel) (by decide) ?_
      refine e_istore_n (show pAt 74 16 = some (16, .istore_n 3, 1, []) from by decide +kernel) ⟨Nat.le_of_ble_eq_true rfl, rfl⟩ rfl ?_
      refine e_aload_n (show pAt 74 17 = some (17, .aload_n 0, 1, []) from by decide +kernel) rfl (ra (by decide)) ?_
      refine e_gR (show pAt 74 18 = some (18, .getfield 12, 3, [6, 0, 0, 2022]) from by decide +kernel) (show HS h from hs) rfl (by decide) (hs_ref (show HS h from hs) rfl) ?_
      refine Ends.call (show pAt 74 21 = some (21, .invokevirtual 123, 3, [29, 1, 0, 1, 3163, 2107, 8]) from by decide +kernel) (isRet_none rfl) rfl (call_this (show HS h from hs) rfl rfl (by decide)) (Ends.mono vc ?_)
      rintro _ h3 ⟨r4, rfl, hs_h3, vc⟩
      refine e_istore (show pAt 74 24 = some (24, .istore 4, 2, []) from by decide +kernel) ⟨Nat.le_of_ble_eq_true rfl, rfl⟩ rfl ?_
      refine e_aload_n (show pAt 74 26 = some (26, .aload_n 0, 1, []) from by decide +kernel) rfl (ra (by decide)) ?_
      refine Ends.call (show pAt 74 27 = some (27, .invokevirtual 127, 3, [100, 1, 0, 0, 2086, 2088, 4]) from by decide +kernel) (isRet_none rfl) rfl (call_this (show HS h3 from hs_h3) rfl rfl (by decide)) (Ends.mono vc ?_)
      rintro _ h6 ⟨rfl, hs_h6, vc⟩
      refine e_iconst (c := 0) (show pAt 74 30 = some (30, .iconst 0, 1, []) from by decide +kernel) (by decide) ?_
      refine e_istore (show pAt 74 31 = some (31, .istore 5, 2, []) from by decide +kernel) ⟨Nat.le_of_ble_eq_true rfl, rfl⟩ rfl ?_
      exact vc
    · replace vc := vc.2 c2
      refine e_iconst (c := (-1)) (show pAt 74 9 = some (9, .iconst (-1), 1, []) from by decide +kernel) (by decide) ?_
      exact e_retI (show pAt 74 10 = some (10, .ireturn, 1, []) from by decide +kernel) rfl vc

theorem w_cfir1 {X : Scr} {dp : Nat} {h : Hp} {Q : Option Value → Hp → Prop} (w : Int32) (o : Int32) (m : Int32) (r : Int32) (p : Int32) (x : Value) (hs : HS h)
    (vc : ((condB .ge p 7 = true → ((condB .ne w 0 = true → Q (some (.int m)) h) ∧ (condB .ne w 0 = false → Q (some (.int o)) h))) ∧ (condB .ge p 7 = false → Ends X dp 104 0 [.int r, .int p] [] h (fun rv h3 => ∃ r4, rv = some (.int r4) ∧ HS h3 ∧ ((condB .eq r4 0 = true → Ends X (dp + 1) 74 33 [.ref 0, .int w, .int o, .int m, .int r, .int (p + 1), x] [] h3 Q) ∧ (condB .eq r4 0 = false → Ends X dp 10 0 [.ref 17, .retAddr 0, .retAddr 0, .retAddr 0, .retAddr 0, .retAddr 0, .retAddr 0] [] (hpI h3 18 7 ((h3.2.1 1 7) ||| (1 <<< (p &&& 31)))) (fun rv h7 => ∃ r8, rv = some (.int r8) ∧ HS h7 ∧ Ends X dp 204 0 [.int r8] [] h7 (fun rv h10 => ∃ r11, rv = some (.int r11) ∧ HS h10 ∧ ((condB .le r11 m = true → Ends X (dp + 1) 74 33 [.ref 0, .int w, .int o, .int m, .int r, .int (p + 1), .int r11] [] h10 Q) ∧ (condB .le r11 m = false → Ends X (dp + 1) 74 33 [.ref 0, .int w, .int p, .int r11, .int r, .int (p + 1), .int r11] [] h10 Q)))))))))) :
    Ends X (dp + 1) 74 33 [.ref 0, .int w, .int o, .int m, .int r, .int p, x] [] h Q := by
  have ra : ∀ {a : Nat}, a < 1000 → a ≤ OLDB := fun h => by have := OLDB_eq; omega
  refine e_iload (show pAt 74 33 = some (33, .iload 5, 2, []) from by decide +kernel) rfl ?_
  refine e_bipush (c := 7) (show pAt 74 35 = some (35, .bipush 7, 2, []) from by decide +kernel) (by decide) ?_
  refine e_icmp (t := 102) (show pAt 74 37 = some (37, .if_icmp .ge 65, 3, []) from by decide +kernel) rfl (fun c1 => ?_) (fun c1 => ?_)
  · replace vc := vc.1 c1
    refine e_iload_n (show pAt 74 102 = some (102, .iload_n 1, 1, []) from by decide +kernel) rfl ?_
    refine e_if (t := 110) (show pAt 74 103 = some (103, .ifCond .ne 7, 3, []) from by decide +kernel) rfl (fun c2 => ?_) (fun c2 => ?_)
    · replace vc := vc.1 c2
      refine e_iload_n (show pAt 74 110 = some (110, .iload_n 3, 1, []) from by decide +kernel) rfl ?_
      exact e_retI (show pAt 74 111 = some (111, .ireturn, 1, []) from by decide +kernel) rfl vc
    · replace vc := vc.2 c2
      refine e_iload_n (show pAt 74 106 = some (106, .iload_n 2, 1, []) from by decide +kernel) rfl ?_
      refine e_goto (t := 111) (show pAt 74 107 = some (107, .goto 4, 3, []) from by decide +kernel) rfl ?_
      exact e_retI (show pAt 74 111 = some (111, .ireturn, 1, []) from by decide +kernel) rfl vc
  · replace vc := vc.2 c1
    refine e_iload (show pAt 74 40 = some (40, .iload 4, 2, []) from by decide +kernel) rfl ?_
    refine e_iload (show pAt 74 42 = some (42, .iload 5, 2, []) from by decide +kernel) rfl ?_
    refine Ends.call (show pAt 74 44 = some (44, .invokestatic 148, 3, [104, 2, 2, 0, 3185, 2080, 0]) from by decide +kernel) (isRet_none rfl) rfl rfl (Ends.mono vc ?_)
    rintro _ h3 ⟨r4, rfl, hs_h3, vc⟩
    refine e_if (t := 96) (show pAt 74 47 = some (47, .ifCond .eq 49, 3, []) from by decide +kernel) rfl (fun c6 => ?_) (fun c6 => ?_)
    · replace vc := vc.1 c6
      refine e_iinc (c := 1) (show pAt 74 96 = some (96, .iinc 5 1, 3, []) from by decide +kernel) rfl rfl (by decide) rfl ?_
      refine e_goto (t := 33) (show pAt 74 99 = some (99, .goto (-66), 3, []) from by decide +kernel) rfl ?_
      exact vc
    · replace vc := vc.2 c6
      refine e_aload_n (show pAt 74 50 = some (50, .aload_n 0, 1, []) from by decide +kernel) rfl (ra (by decide)) ?_
      refine e_gR (show pAt 74 51 = some (51, .getfield 24, 3, [6, 3, 0, 2025]) from by decide +kernel) (show HS h3 from hs_h3) rfl (by decide) (hs_ref (show HS h3 from hs_h3) rfl) ?_
      refine e_gR (show pAt 74 54 = some (54, .getfield 142, 3, [1, 0, 1, 1128]) from by decide +kernel) (show HS h3 from hs_h3) rfl (by decide) (hs_ref (show HS h3 from hs_h3) rfl) ?_
      refine e_aload_n (show pAt 74 57 = some (57, .aload_n 0, 1, []) from by decide +kernel) rfl (ra (by decide)) ?_
      refine e_gR (show pAt 74 58 = some (58, .getfield 12, 3, [6, 0, 0, 2022]) from by decide +kernel) (show HS h3 from hs_h3) rfl (by decide) (hs_ref (show HS h3 from hs_h3) rfl) ?_
      refine e_gIv (v := h3.2.1 1 7) (show pAt 74 61 = some (61, .getfield 97, 3, [2, 7, 1, 1054]) from by decide +kernel) (show HS h3 from hs_h3) rfl (by decide) rfl ?_
      refine e_iconst (c := 1) (show pAt 74 64 = some (64, .iconst 1, 1, []) from by decide +kernel) (by decide) ?_
      refine e_iload (show pAt 74 65 = some (65, .iload 5, 2, []) from by decide +kernel) rfl ?_
      refine e_ishl (show pAt 74 67 = some (67, .ishl, 1, []) from by decide +kernel) ?_
      refine e_ior (show pAt 74 68 = some (68, .ior, 1, []) from by decide +kernel) ?_
      refine e_pI (show pAt 74 69 = some (69, .putfield 97, 3, [2, 7, 1, 1054]) from by decide +kernel) (show HS h3 from hs_h3) (by decide) (Or.inl rfl) ?_
      refine e_aload_n (show pAt 74 72 = some (72, .aload_n 0, 1, []) from by decide +kernel) rfl (ra (by decide)) ?_
      refine e_gR (show pAt 74 73 = some (73, .getfield 24, 3, [6, 3, 0, 2025]) from by decide +kernel) (show HS (hpI h3 18 7 ((h3.2.1 1 7) ||| (1 <<< (p &&& 31)))) from hs_h3) rfl (by decide) (hs_ref (show HS (hpI h3 18 7 ((h3.2.1 1 7) ||| (1 <<< (p &&& 31)))) from hs_h3) rfl) ?_
      refine Ends.call (show pAt 74 76 = some (76, .invokevirtual 130, 3, [10, 1, 0, 1, 2101, 2103, 7]) from by decide +kernel) (isRet_none rfl) rfl (call_this (show HS (hpI h3 18 7 ((h3.2.1 1 7) ||| (1 <<< (p &&& 31)))) from hs_h3) rfl rfl (by decide)) (Ends.mono vc ?_)
      rintro _ h7 ⟨r8, rfl, hs_h7, vc⟩
      refine Ends.call (show pAt 74 79 = some (79, .invokestatic 136, 3, [204, 1, 2, 0, 3177, 2169, 0]) from by decide +kernel) (isRet_none rfl) rfl rfl (Ends.mono vc ?_)
      rintro _ h10 ⟨r11, rfl, hs_h10, vc⟩
      refine e_istore (show pAt 74 82 = some (82, .istore 6, 2, []) from by decide +kernel) ⟨Nat.le_of_ble_eq_true rfl, rfl⟩ rfl ?_
      refine e_iload (show pAt 74 84 = some (84, .iload 6, 2, []) from by decide +kernel) rfl ?_
      refine e_iload_n (show pAt 74 86 = some (86, .iload_n 3, 1, []) from by decide +kernel) rfl ?_
      refine e_icmp (t := 96) (show pAt 74 87 = some (87, .if_icmp .le 9, 3, []) from by decide +kernel) rfl (fun c13 => ?_) (fun c13 => ?_)
      · replace vc := vc.1 c13
        refine e_iinc (c := 1) (show pAt 74 96 = some (96, .iinc 5 1, 3, []) from by decide +kernel) rfl rfl (by decide) rfl ?_
        refine e_goto (t := 33) (show pAt 74 99 = some (99, .goto (-66), 3, []) from by decide +kernel) rfl ?_
        exact vc
      · replace vc := vc.2 c13
        refine e_iload (show pAt 74 90 = some (90, .iload 6, 2, []) from by decide +kernel) rfl ?_
        refine e_istore_n (show pAt 74 92 = some (92, .istore_n 3, 1, []) from by decide +kernel) ⟨Nat.le_of_ble_eq_true rfl, rfl⟩ rfl ?_
        refine e_iload (show pAt 74 93 = some (93, .iload 5, 2, []) from by decide +kernel) rfl ?_
        refine e_istore_n (show pAt 74 95 = some (95, .istore_n 2, 1, []) from by decide +kernel) ⟨Nat.le_of_ble_eq_true rfl, rfl⟩ rfl ?_
        refine e_iinc (c := 1) (show pAt 74 96 = some (96, .iinc 5 1, 3, []) from by decide +kernel) rfl rfl (by decide) rfl ?_
        refine e_goto (t := 33) (show pAt 74 99 = some (99, .goto (-66), 3, []) from by decide +kernel) rfl ?_
        exact vc

theorem w_csta0 {X : Scr} {dp : Nat} {h : Hp} {Q : Option Value → Hp → Prop} (p : Int32) (w : Int32) (hs : HS h)
    (vc : Ends X dp 26 0 [.ref 1, .int p] [] h (fun rv h1 => ∃ r2, rv = some (.int r2) ∧ HS h1 ∧ ((condB .eq r2 0 = true → Q (some (.int (-1))) h1) ∧ (condB .eq r2 0 = false → ((condB .lt w 0 = true → Q (some (.int (-1))) h1) ∧ (condB .lt w 0 = false → ((condB .le w 1 = true → Ends X dp 27 0 [.ref 1, .int p] [] h1 (fun rv h7 => ∃ r8, rv = some (.int r8) ∧ HS h7 ∧ ((condB .ne r8 0 = true → Ends X (dp + 1) 75 44 [.ref 0, .int p, .int w, .int 0, .int (-1), .int 0, .retAddr 0] [] h7 Q) ∧ (condB .ne r8 0 = false → Q (some (.int (-3))) h7)))) ∧ (condB .le w 1 = false → Q (some (.int (-1))) h1)))))))) :
    Ends X (dp + 1) 75 0 [.ref 0, .int p, .int w, .retAddr 0, .retAddr 0, .retAddr 0, .retAddr 0] [] h Q := by
  have ra : ∀ {a : Nat}, a < 1000 → a ≤ OLDB := fun h => by have := OLDB_eq; omega
  refine e_aload_n (show pAt 75 0 = some (0, .aload_n 0, 1, []) from by decide +kernel) rfl (ra (by decide)) ?_
  refine e_gR (show pAt 75 1 = some (1, .getfield 12, 3, [6, 0, 0, 2022]) from by decide +kernel) (show HS h from hs) rfl (by decide) (hs_ref (show HS h from hs) rfl) ?_
  refine e_iload_n (show pAt 75 4 = some (4, .iload_n 1, 1, []) from by decide +kernel) rfl ?_
  refine Ends.call (show pAt 75 5 = some (5, .invokevirtual 71, 3, [26, 2, 0, 1, 2071, 2073, 1]) from by decide +kernel) (isRet_none rfl) rfl (call_this (show HS h from hs) rfl rfl (by decide)) (Ends.mono vc ?_)
  rintro _ h1 ⟨r2, rfl, hs_h1, vc⟩
  refine e_if (t := 20) (show pAt 75 8 = some (8, .ifCond .eq 12, 3, []) from by decide +kernel) rfl (fun c4 => ?_) (fun c4 => ?_)
  · replace vc := vc.1 c4
    refine e_iconst (c := (-1)) (show pAt 75 20 = some (20, .iconst (-1), 1, []) from by decide +kernel) (by decide) ?_
    exact e_retI (show pAt 75 21 = some (21, .ireturn, 1, []) from by decide +kernel) rfl vc
  · replace vc := vc.2 c4
    refine e_iload_n (show pAt 75 11 = some (11, .iload_n 2, 1, []) from by decide +kernel) rfl ?_
    refine e_if (t := 20) (show pAt 75 12 = some (12, .ifCond .lt 8, 3, []) from by decide +kernel) rfl (fun c5 => ?_) (fun c5 => ?_)
    · replace vc := vc.1 c5
      refine e_iconst (c := (-1)) (show pAt 75 20 = some (20, .iconst (-1), 1, []) from by decide +kernel) (by decide) ?_
      exact e_retI (show pAt 75 21 = some (21, .ireturn, 1, []) from by decide +kernel) rfl vc
    · replace vc := vc.2 c5
      refine e_iload_n (show pAt 75 15 = some (15, .iload_n 2, 1, []) from by decide +kernel) rfl ?_
      refine e_iconst (c := 1) (show pAt 75 16 = some (16, .iconst 1, 1, []) from by decide +kernel) (by decide) ?_
      refine e_icmp (t := 22) (show pAt 75 17 = some (17, .if_icmp .le 5, 3, []) from by decide +kernel) rfl (fun c6 => ?_) (fun c6 => ?_)
      · replace vc := vc.1 c6
        refine e_aload_n (show pAt 75 22 = some (22, .aload_n 0, 1, []) from by decide +kernel) rfl (ra (by decide)) ?_
        refine e_gR (show pAt 75 23 = some (23, .getfield 12, 3, [6, 0, 0, 2022]) from by decide +kernel) (show HS h1 from hs_h1) rfl (by decide) (hs_ref (show HS h1 from hs_h1) rfl) ?_
        refine e_iload_n (show pAt 75 26 = some (26, .iload_n 1, 1, []) from by decide +kernel) rfl ?_
        refine Ends.call (show pAt 75 27 = some (27, .invokevirtual 90, 3, [27, 2, 0, 1, 2075, 2077, 2]) from by decide +kernel) (isRet_none rfl) rfl (call_this (show HS h1 from hs_h1) rfl rfl (by decide)) (Ends.mono vc ?_)
        rintro _ h7 ⟨r8, rfl, hs_h7, vc⟩
        refine e_if (t := 36) (show pAt 75 30 = some (30, .ifCond .ne 6, 3, []) from by decide +kernel) rfl (fun c10 => ?_) (fun c10 => ?_)
        · replace vc := vc.1 c10
          refine e_iconst (c := 0) (show pAt 75 36 = some (36, .iconst 0, 1, []) from by decide +kernel) (by decide) ?_
          refine e_istore_n (show pAt 75 37 = some (37, .istore_n 3, 1, []) from by decide +kernel) ⟨Nat.le_of_ble_eq_true rfl, rfl⟩ rfl ?_
          refine e_iconst (c := (-1)) (show pAt 75 38 = some (38, .iconst (-1), 1, []) from by decide +kernel) (by decide) ?_
          refine e_istore (show pAt 75 39 = some (39, .istore 4, 2, []) from by decide +kernel) ⟨Nat.le_of_ble_eq_true rfl, rfl⟩ rfl ?_
          refine e_iconst (c := 0) (show pAt 75 41 = some (41, .iconst 0, 1, []) from by decide +kernel) (by decide) ?_
          refine e_istore (show pAt 75 42 = some (42, .istore 5, 2, []) from by decide +kernel) ⟨Nat.le_of_ble_eq_true rfl, rfl⟩ rfl ?_
          exact vc
        · replace vc := vc.2 c10
          refine e_bipush (c := (-3)) (show pAt 75 33 = some (33, .bipush (-3), 2, []) from by decide +kernel) (by decide) ?_
          exact e_retI (show pAt 75 35 = some (35, .ireturn, 1, []) from by decide +kernel) rfl vc
      · replace vc := vc.2 c6
        refine e_iconst (c := (-1)) (show pAt 75 20 = some (20, .iconst (-1), 1, []) from by decide +kernel) (by decide) ?_
        exact e_retI (show pAt 75 21 = some (21, .ireturn, 1, []) from by decide +kernel) rfl vc

theorem w_csta1 {X : Scr} {dp : Nat} {h : Hp} {Q : Option Value → Hp → Prop} (p : Int32) (w : Int32) (e : Int32) (m : Int32) (l : Int32) (x : Value) (hs : HS h)
    (vc : ((condB .ge l 7 = true → ((condB .ne w 0 = true → Q (some (.int m)) h) ∧ (condB .ne w 0 = false → Q (some (.int e)) h))) ∧ (condB .ge l 7 = false → Ends X dp 101 0 [.ref 0, .int p, .int l] [] h (fun rv h3 => ∃ r4, rv = some (.int r4) ∧ HS h3 ∧ Ends X dp 204 0 [.int r4] [] h3 (fun rv h6 => ∃ r7, rv = some (.int r7) ∧ HS h6 ∧ ((condB .le r7 m = true → Ends X (dp + 1) 75 44 [.ref 0, .int p, .int w, .int e, .int m, .int (l + 1), .int r7] [] h6 Q) ∧ (condB .le r7 m = false → Ends X (dp + 1) 75 44 [.ref 0, .int p, .int w, .int l, .int r7, .int (l + 1), .int r7] [] h6 Q))))))) :
    Ends X (dp + 1) 75 44 [.ref 0, .int p, .int w, .int e, .int m, .int l, x] [] h Q := by
  have ra : ∀ {a : Nat}, a < 1000 → a ≤ OLDB := fun h => by have := OLDB_eq; omega
  refine e_iload (show pAt 75 44 = some (44, .iload 5, 2, []) from by decide +kernel) rfl ?_
  refine e_bipush (c := 7) (show pAt 75 46 = some (46, .bipush 7, 2, []) from by decide +kernel) (by decide) ?_
  refine e_icmp (t := 83) (show pAt 75 48 = some (48, .if_icmp .ge 35, 3, []) from by decide +kernel) rfl (fun c1 => ?_) (fun c1 => ?_)
  · replace vc := vc.1 c1
    refine e_iload_n (show pAt 75 83 = some (83, .iload_n 2, 1, []) from by decide +kernel) rfl ?_
    refine e_if (t := 91) (show pAt 75 84 = some (84, .ifCond .ne 7, 3, []) from by decide +kernel) rfl (fun c2 => ?_) (fun c2 => ?_)
    · replace vc := vc.1 c2
      refine e_iload (show pAt 75 91 = some (91, .iload 4, 2, []) from by decide +kernel) rfl ?_
      exact e_retI (show pAt 75 93 = some (93, .ireturn, 1, []) from by decide +kernel) rfl vc
    · replace vc := vc.2 c2
      refine e_iload_n (show pAt 75 87 = some (87, .iload_n 3, 1, []) from by decide +kernel) rfl ?_
      refine e_goto (t := 93) (show pAt 75 88 = some (88, .goto 5, 3, []) from by decide +kernel) rfl ?_
      exact e_retI (show pAt 75 93 = some (93, .ireturn, 1, []) from by decide +kernel) rfl vc
  · replace vc := vc.2 c1
    refine e_aload_n (show pAt 75 51 = some (51, .aload_n 0, 1, []) from by decide +kernel) rfl (ra (by decide)) ?_
    refine e_iload_n (show pAt 75 52 = some (52, .iload_n 1, 1, []) from by decide +kernel) rfl ?_
    refine e_iload (show pAt 75 53 = some (53, .iload 5, 2, []) from by decide +kernel) rfl ?_
    refine Ends.call (show pAt 75 55 = some (55, .invokevirtual 152, 3, [101, 3, 0, 0, 3194, 3196, 43]) from by decide +kernel) (isRet_none rfl) rfl (call_this (show HS h from hs) rfl rfl (by decide)) (Ends.mono vc ?_)
    rintro _ h3 ⟨r4, rfl, hs_h3, vc⟩
    refine Ends.call (show pAt 75 58 = some (58, .invokestatic 136, 3, [204, 1, 2, 0, 3177, 2169, 0]) from by decide +kernel) (isRet_none rfl) rfl rfl (Ends.mono vc ?_)
    rintro _ h6 ⟨r7, rfl, hs_h6, vc⟩
    refine e_istore (show pAt 75 61 = some (61, .istore 6, 2, []) from by decide +kernel) ⟨Nat.le_of_ble_eq_true rfl, rfl⟩ rfl ?_
    refine e_iload (show pAt 75 63 = some (63, .iload 6, 2, []) from by decide +kernel) rfl ?_
    refine e_iload (show pAt 75 65 = some (65, .iload 4, 2, []) from by decide +kernel) rfl ?_
    refine e_icmp (t := 77) (show pAt 75 67 = some (67, .if_icmp .le 10, 3, []) from by decide +kernel) rfl (fun c9 => ?_) (fun c9 => ?_)
    · replace vc := vc.1 c9
      refine e_iinc (c := 1) (show pAt 75 77 = some (77, .iinc 5 1, 3, []) from by decide +kernel) rfl rfl (by decide) rfl ?_
      refine e_goto (t := 44) (show pAt 75 80 = some (80, .goto (-36), 3, []) from by decide +kernel) rfl ?_
      exact vc
    · replace vc := vc.2 c9
      refine e_iload (show pAt 75 70 = some (70, .iload 6, 2, []) from by decide +kernel) rfl ?_
      refine e_istore (show pAt 75 72 = some (72, .istore 4, 2, []) from by decide +kernel) ⟨Nat.le_of_ble_eq_true rfl, rfl⟩ rfl ?_
      refine e_iload (show pAt 75 74 = some (74, .iload 5, 2, []) from by decide +kernel) rfl ?_
      refine e_istore_n (show pAt 75 76 = some (76, .istore_n 3, 1, []) from by decide +kernel) ⟨Nat.le_of_ble_eq_true rfl, rfl⟩ rfl ?_
      refine e_iinc (c := 1) (show pAt 75 77 = some (77, .iinc 5 1, 3, []) from by decide +kernel) rfl rfl (by decide) rfl ?_
      refine e_goto (t := 44) (show pAt 75 80 = some (80, .goto (-36), 3, []) from by decide +kernel) rfl ?_
      exact vc

theorem w_cbes0 {X : Scr} {dp : Nat} {h : Hp} {Q : Option Value → Hp → Prop} (p : Int32) (hs : HS h)
    (vc : Ends X dp 26 0 [.ref 1, .int p] [] h (fun rv h1 => ∃ r2, rv = some (.int r2) ∧ HS h1 ∧ ((condB .ne r2 0 = true → Ends X dp 27 0 [.ref 1, .int p] [] h1 (fun rv h5 => ∃ r6, rv = some (.int r6) ∧ HS h5 ∧ ((condB .eq r6 0 = true → Ends X (dp + 1) 76 31 [.ref 0, .int p, .int 0, .int 0] [] h5 Q) ∧ (condB .eq r6 0 = false → Q (some (.int (-3))) h5)))) ∧ (condB .ne r2 0 = false → Q (some (.int (-1))) h1)))) :
    Ends X (dp + 1) 76 0 [.ref 0, .int p, .retAddr 0, .retAddr 0] [] h Q := by
  have ra : ∀ {a : Nat}, a < 1000 → a ≤ OLDB := fun h => by have := OLDB_eq; omega
  refine e_aload_n (show pAt 76 0 = some (0, .aload_n 0, 1, []) from by decide +kernel) rfl (ra (by decide)) ?_
  refine e_gR (show pAt 76 1 = some (1, .getfield 12, 3, [6, 0, 0, 2022]) from by decide +kernel) (show HS h from hs) rfl (by decide) (hs_ref (show HS h from hs) rfl) ?_
  refine e_iload_n (show pAt 76 4 = some (4, .iload_n 1, 1, []) from by decide +kernel) rfl ?_
  refine Ends.call (show pAt 76 5 = some (5, .invokevirtual 71, 3, [26, 2, 0, 1, 2071, 2073, 1]) from by decide +kernel) (isRet_none rfl) rfl (call_this (show HS h from hs) rfl rfl (by decide)) (Ends.mono vc ?_)
  rintro _ h1 ⟨r2, rfl, hs_h1, vc⟩
  refine e_if (t := 13) (show pAt 76 8 = some (8, .ifCond .ne 5, 3, []) from by decide +kernel) rfl (fun c4 => ?_) (fun c4 => ?_)
  · replace vc := vc.1 c4
    refine e_aload_n (show pAt 76 13 = some (13, .aload_n 0, 1, []) from by decide +kernel) rfl (ra (by decide)) ?_
    refine e_gR (show pAt 76 14 = some (14, .getfield 12, 3, [6, 0, 0, 2022]) from by decide +kernel) (show HS h1 from hs_h1) rfl (by decide) (hs_ref (show HS h1 from hs_h1) rfl) ?_
    refine e_iload_n (show pAt 76 17 = some (17, .iload_n 1, 1, []) from by decide +kernel) rfl ?_
    refine Ends.call (show pAt 76 18 = some (18, .invokevirtual 90, 3, [27, 2, 0, 1, 2075, 2077, 2]) from by decide +kernel) (isRet_none rfl) rfl (call_this (show HS h1 from hs_h1) rfl rfl (by decide)) (Ends.mono vc ?_)
    rintro _ h5 ⟨r6, rfl, hs_h5, vc⟩
    refine e_if (t := 27) (show pAt 76 21 = some (21, .ifCond .eq 6, 3, []) from by decide +kernel) rfl (fun c8 => ?_) (fun c8 => ?_)
    · replace vc := vc.1 c8
      refine e_iconst (c := 0) (show pAt 76 27 = some (27, .iconst 0, 1, []) from by decide +kernel) (by decide) ?_
      refine e_istore_n (show pAt 76 28 = some (28, .istore_n 2, 1, []) from by decide +kernel) ⟨Nat.le_of_ble_eq_true rfl, rfl⟩ rfl ?_
      refine e_iconst (c := 0) (show pAt 76 29 = some (29, .iconst 0, 1, []) from by decide +kernel) (by decide) ?_
      refine e_istore_n (show pAt 76 30 = some (30, .istore_n 3, 1, []) from by decide +kernel) ⟨Nat.le_of_ble_eq_true rfl, rfl⟩ rfl ?_
      exact vc
    · replace vc := vc.2 c8
      refine e_bipush (c := (-3)) (show pAt 76 24 = some (24, .bipush (-3), 2, []) from by decide +kernel) (by decide) ?_
      exact e_retI (show pAt 76 26 = some (26, .ireturn, 1, []) from by decide +kernel) rfl vc
  · replace vc := vc.2 c4
    refine e_iconst (c := (-1)) (show pAt 76 11 = some (11, .iconst (-1), 1, []) from by decide +kernel) (by decide) ?_
    exact e_retI (show pAt 76 12 = some (12, .ireturn, 1, []) from by decide +kernel) rfl vc

theorem w_cbes1 {X : Scr} {dp : Nat} {h : Hp} {Q : Option Value → Hp → Prop} (p : Int32) (s : Int32) (l : Int32) (hs : HS h)
    (vc : ((condB .ge l 7 = true → Q (some (.int s)) h) ∧ (condB .ge l 7 = false → Ends X dp 100 0 [.ref 0, .retAddr 0] [] h (fun rv h2 => rv = none ∧ HS h2 ∧ Ends X dp 7 0 [.ref 17, .int p, .int l] [] h2 (fun rv h5 => rv = none ∧ HS h5 ∧ Ends X dp 10 0 [.ref 17, .retAddr 0, .retAddr 0, .retAddr 0, .retAddr 0, .retAddr 0, .retAddr 0] [] h5 (fun rv h8 => ∃ r9, rv = some (.int r9) ∧ HS h8 ∧ Ends X dp 104 0 [.int r9, .int p] [] h8 (fun rv h11 => ∃ r12, rv = some (.int r12) ∧ HS h11 ∧ ((condB .ne r12 0 = true → Ends X (dp + 1) 76 31 [.ref 0, .int p, .int s, .int (l + 1)] [] h11 Q) ∧ (condB .ne r12 0 = false → Ends X (dp + 1) 76 31 [.ref 0, .int p, .int (s ||| (1 <<< (l &&& 31))), .int (l + 1)] [] h11 Q))))))))) :
    Ends X (dp + 1) 76 31 [.ref 0, .int p, .int s, .int l] [] h Q := by
  have ra : ∀ {a : Nat}, a < 1000 → a ≤ OLDB := fun h => by have := OLDB_eq; omega
  refine e_iload_n (show pAt 76 31 = some (31, .iload_n 3, 1, []) from by decide +kernel) rfl ?_
  refine e_bipush (c := 7) (show pAt 76 32 = some (32, .bipush 7, 2, []) from by decide +kernel) (by decide) ?_
  refine e_icmp (t := 76) (show pAt 76 34 = some (34, .if_icmp .ge 42, 3, []) from by decide +kernel) rfl (fun c1 => ?_) (fun c1 => ?_)
  · replace vc := vc.1 c1
    refine e_iload_n (show pAt 76 76 = some (76, .iload_n 2, 1, []) from by decide +kernel) rfl ?_
    exact e_retI (show pAt 76 77 = some (77, .ireturn, 1, []) from by decide +kernel) rfl vc
  · replace vc := vc.2 c1
    refine e_aload_n (show pAt 76 37 = some (37, .aload_n 0, 1, []) from by decide +kernel) rfl (ra (by decide)) ?_
    refine Ends.call (show pAt 76 38 = some (38, .invokevirtual 127, 3, [100, 1, 0, 0, 2086, 2088, 4]) from by decide +kernel) (isRet_none rfl) rfl (call_this (show HS h from hs) rfl rfl (by decide)) (Ends.mono vc ?_)
    rintro _ h2 ⟨rfl, hs_h2, vc⟩
    refine e_aload_n (show pAt 76 41 = some (41, .aload_n 0, 1, []) from by decide +kernel) rfl (ra (by decide)) ?_
    refine e_gR (show pAt 76 42 = some (42, .getfield 24, 3, [6, 3, 0, 2025]) from by decide +kernel) (show HS h2 from hs_h2) rfl (by decide) (hs_ref (show HS h2 from hs_h2) rfl) ?_
    refine e_iload_n (show pAt 76 45 = some (45, .iload_n 1, 1, []) from by decide +kernel) rfl ?_
    refine e_iload_n (show pAt 76 46 = some (46, .iload_n 3, 1, []) from by decide +kernel) rfl ?_
    refine Ends.call (show pAt 76 47 = some (47, .invokevirtual 155, 3, [7, 3, 0, 1, 3202, 3204, 44]) from by decide +kernel) (isRet_none rfl) rfl (call_this (show HS h2 from hs_h2) rfl rfl (by decide)) (Ends.mono vc ?_)
    rintro _ h5 ⟨rfl, hs_h5, vc⟩
    refine e_aload_n (show pAt 76 50 = some (50, .aload_n 0, 1, []) from by decide +kernel) rfl (ra (by decide)) ?_
    refine e_gR (show pAt 76 51 = some (51, .getfield 24, 3, [6, 3, 0, 2025]) from by decide +kernel) (show HS h5 from hs_h5) rfl (by decide) (hs_ref (show HS h5 from hs_h5) rfl) ?_
    refine Ends.call (show pAt 76 54 = some (54, .invokevirtual 130, 3, [10, 1, 0, 1, 2101, 2103, 7]) from by decide +kernel) (isRet_none rfl) rfl (call_this (show HS h5 from hs_h5) rfl rfl (by decide)) (Ends.mono vc ?_)
    rintro _ h8 ⟨r9, rfl, hs_h8, vc⟩
    refine e_iload_n (show pAt 76 57 = some (57, .iload_n 1, 1, []) from by decide +kernel) rfl ?_
    refine Ends.call (show pAt 76 58 = some (58, .invokestatic 148, 3, [104, 2, 2, 0, 3185, 2080, 0]) from by decide +kernel) (isRet_none rfl) rfl rfl (Ends.mono vc ?_)
    rintro _ h11 ⟨r12, rfl, hs_h11, vc⟩
    refine e_if (t := 70) (show pAt 76 61 = some (61, .ifCond .ne 9, 3, []) from by decide +kernel) rfl (fun c14 => ?_) (fun c14 => ?_)
    · replace vc := vc.1 c14
      refine e_iinc (c := 1) (show pAt 76 70 = some (70, .iinc 3 1, 3, []) from by decide +kernel) rfl rfl (by decide) rfl ?_
      refine e_goto (t := 31) (show pAt 76 73 = some (73, .goto (-42), 3, []) from by decide +kernel) rfl ?_
      exact vc
    · replace vc := vc.2 c14
      refine e_iload_n (show pAt 76 64 = some (64, .iload_n 2, 1, []) from by decide +kernel) rfl ?_
      refine e_iconst (c := 1) (show pAt 76 65 = some (65, .iconst 1, 1, []) from by decide +kernel) (by decide) ?_
      refine e_iload_n (show pAt 76 66 = some (66, .iload_n 3, 1, []) from by decide +kernel) rfl ?_
      refine e_ishl (show pAt 76 67 = some (67, .ishl, 1, []) from by decide +kernel) ?_
      refine e_ior (show pAt 76 68 = some (68, .ior, 1, []) from by decide +kernel) ?_
      refine e_istore_n (show pAt 76 69 = some (69, .istore_n 2, 1, []) from by decide +kernel) ⟨Nat.le_of_ble_eq_true rfl, rfl⟩ rfl ?_
      refine e_iinc (c := 1) (show pAt 76 70 = some (70, .iinc 3 1, 3, []) from by decide +kernel) rfl rfl (by decide) rfl ?_
      refine e_goto (t := 31) (show pAt 76 73 = some (73, .goto (-42), 3, []) from by decide +kernel) rfl ?_
      exact vc

theorem w_cnee0 {X : Scr} {dp : Nat} {h : Hp} {Q : Option Value → Hp → Prop} (p : Int32) (hs : HS h)
    (vc : Ends X dp 26 0 [.ref 1, .int p] [] h (fun rv h1 => ∃ r2, rv = some (.int r2) ∧ HS h1 ∧ ((condB .ne r2 0 = true → Ends X dp 27 0 [.ref 1, .int p] [] h1 (fun rv h5 => ∃ r6, rv = some (.int r6) ∧ HS h5 ∧ ((condB .eq r6 0 = true → Ends X dp 100 0 [.ref 0, .retAddr 0] [] h5 (fun rv h9 => rv = none ∧ HS h9 ∧ Ends X (dp + 1) 77 33 [.ref 0, .int p, .int 0] [] h9 Q)) ∧ (condB .eq r6 0 = false → Q (some (.int (-3))) h5)))) ∧ (condB .ne r2 0 = false → Q (some (.int (-1))) h1)))) :
    Ends X (dp + 1) 77 0 [.ref 0, .int p, .retAddr 0] [] h Q := by
  have ra : ∀ {a : Nat}, a < 1000 → a ≤ OLDB := fun h => by have := OLDB_eq; omega
  refine e_aload_n (show pAt 77 0 = some (0, .aload_n 0, 1, []) from by decide +kernel) rfl (ra (by decide)) ?_
  refine e_gR (show pAt 77 1 = some (1, .getfield 12, 3, [6, 0, 0, 2022]) from by decide +kernel) (show HS h from hs) rfl (by decide) (hs_ref (show HS h from hs) rfl) ?_
  refine e_iload_n (show pAt 77 4 = some (4, .iload_n 1, 1, []) from by decide +kernel) rfl ?_
  refine Ends.call (show pAt 77 5 = some (5, .invokevirtual 71, 3, [26, 2, 0, 1, 2071, 2073, 1]) from by decide +kernel) (isRet_none rfl) rfl (call_this (show HS h from hs) rfl rfl (by decide)) (Ends.mono vc ?_)
  rintro _ h1 ⟨r2, rfl, hs_h1, vc⟩
  refine e_if (t := 13) (show pAt 77 8 = some (8, .ifCond .ne 5, 3, []) from by decide +kernel) rfl (fun c4 => ?_) (fun c4 => ?_)
  · replace vc := vc.1 c4
    refine e_aload_n (show pAt 77 13 = some (13, .aload_n 0, 1, []) from by decide +kernel) rfl (ra (by decide)) ?_
    refine e_gR (show pAt 77 14 = some (14, .getfield 12, 3, [6, 0, 0, 2022]) from by decide +kernel) (show HS h1 from hs_h1) rfl (by decide) (hs_ref (show HS h1 from hs_h1) rfl) ?_
    refine e_iload_n (show pAt 77 17 = some (17, .iload_n 1, 1, []) from by decide +kernel) rfl ?_
    refine Ends.call (show pAt 77 18 = some (18, .invokevirtual 90, 3, [27, 2, 0, 1, 2075, 2077, 2]) from by decide +kernel) (isRet_none rfl) rfl (call_this (show HS h1 from hs_h1) rfl rfl (by decide)) (Ends.mono vc ?_)
    rintro _ h5 ⟨r6, rfl, hs_h5, vc⟩
    refine e_if (t := 27) (show pAt 77 21 = some (21, .ifCond .eq 6, 3, []) from by decide +kernel) rfl (fun c8 => ?_) (fun c8 => ?_)
    · replace vc := vc.1 c8
      refine e_aload_n (show pAt 77 27 = some (27, .aload_n 0, 1, []) from by decide +kernel) rfl (ra (by decide)) ?_
      refine Ends.call (show pAt 77 28 = some (28, .invokevirtual 127, 3, [100, 1, 0, 0, 2086, 2088, 4]) from by decide +kernel) (isRet_none rfl) rfl (call_this (show HS h5 from hs_h5) rfl rfl (by decide)) (Ends.mono vc ?_)
      rintro _ h9 ⟨rfl, hs_h9, vc⟩
      refine e_iconst (c := 0) (show pAt 77 31 = some (31, .iconst 0, 1, []) from by decide +kernel) (by decide) ?_
      refine e_istore_n (show pAt 77 32 = some (32, .istore_n 2, 1, []) from by decide +kernel) ⟨Nat.le_of_ble_eq_true rfl, rfl⟩ rfl ?_
      exact vc
    · replace vc := vc.2 c8
      refine e_bipush (c := (-3)) (show pAt 77 24 = some (24, .bipush (-3), 2, []) from by decide +kernel) (by decide) ?_
      exact e_retI (show pAt 77 26 = some (26, .ireturn, 1, []) from by decide +kernel) rfl vc
  · replace vc := vc.2 c4
    refine e_iconst (c := (-1)) (show pAt 77 11 = some (11, .iconst (-1), 1, []) from by decide +kernel) (by decide) ?_
    exact e_retI (show pAt 77 12 = some (12, .ireturn, 1, []) from by decide +kernel) rfl vc

theorem w_cnee1 {X : Scr} {dp : Nat} {h : Hp} {Q : Option Value → Hp → Prop} (p : Int32) (s : Int32) (hs : HS h)
    (vc : ((condB .gt s 9 = true → Q (some (.int (-5))) h) ∧ (condB .gt s 9 = false → (inB p 7 = true ∧ Ends X dp 10 0 [.ref 17, .retAddr 0, .retAddr 0, .retAddr 0, .retAddr 0, .retAddr 0, .retAddr 0] [] (hpI h 23 p.toNatClampNeg s) (fun rv h3 => ∃ r4, rv = some (.int r4) ∧ HS h3 ∧ Ends X dp 104 0 [.int r4, .int p] [] h3 (fun rv h6 => ∃ r7, rv = some (.int r7) ∧ HS h6 ∧ ((condB .ne r7 0 = true → Ends X (dp + 1) 77 33 [.ref 0, .int p, .int (s + 1)] [] h6 Q) ∧ (condB .ne r7 0 = false → Q (some (.int s)) h6)))))))) :
    Ends X (dp + 1) 77 33 [.ref 0, .int p, .int s] [] h Q := by
  have ra : ∀ {a : Nat}, a < 1000 → a ≤ OLDB := fun h => by have := OLDB_eq; omega
  refine e_iload_n (show pAt 77 33 = some (33, .iload_n 2, 1, []) from by decide +kernel) rfl ?_
  refine e_bipush (c := 9) (show pAt 77 34 = some (34, .bipush 9, 2, []) from by decide +kernel) (by decide) ?_
  refine e_icmp (t := 74) (show pAt 77 36 = some (36, .if_icmp .gt 38, 3, []) from by decide +kernel) rfl (fun c1 => ?_) (fun c1 => ?_)
  · replace vc := vc.1 c1
    refine e_bipush (c := (-5)) (show pAt 77 74 = some (74, .bipush (-5), 2, []) from by decide +kernel) (by decide) ?_
    exact e_retI (show pAt 77 76 = some (76, .ireturn, 1, []) from by decide +kernel) rfl vc
  · replace vc := vc.2 c1
    refine e_aload_n (show pAt 77 39 = some (39, .aload_n 0, 1, []) from by decide +kernel) rfl (ra (by decide)) ?_
    refine e_gR (show pAt 77 40 = some (40, .getfield 24, 3, [6, 3, 0, 2025]) from by decide +kernel) (show HS h from hs) rfl (by decide) (hs_ref (show HS h from hs) rfl) ?_
    refine e_gR (show pAt 77 43 = some (43, .getfield 142, 3, [1, 0, 1, 1128]) from by decide +kernel) (show HS h from hs) rfl (by decide) (hs_ref (show HS h from hs) rfl) ?_
    refine e_gR (show pAt 77 46 = some (46, .getfield 87, 3, [2, 5, 1, 1047]) from by decide +kernel) (show HS h from hs) rfl (by decide) (hs_ref (show HS h from hs) rfl) ?_
    refine e_iload_n (show pAt 77 49 = some (49, .iload_n 1, 1, []) from by decide +kernel) rfl ?_
    refine e_iload_n (show pAt 77 50 = some (50, .iload_n 2, 1, []) from by decide +kernel) rfl ?_
    obtain ⟨c2, vc⟩ := vc
    refine e_ast (show pAt 77 51 = some (51, .iastore, 1, []) from by decide +kernel) (show HS h from hs) (by decide) c2 ?_
    refine e_aload_n (show pAt 77 52 = some (52, .aload_n 0, 1, []) from by decide +kernel) rfl (ra (by decide)) ?_
    refine e_gR (show pAt 77 53 = some (53, .getfield 24, 3, [6, 3, 0, 2025]) from by decide +kernel) (show HS (hpI h 23 p.toNatClampNeg s) from hs) rfl (by decide) (hs_ref (show HS (hpI h 23 p.toNatClampNeg s) from hs) rfl) ?_
    refine Ends.call (show pAt 77 56 = some (56, .invokevirtual 130, 3, [10, 1, 0, 1, 2101, 2103, 7]) from by decide +kernel) (isRet_none rfl) rfl (call_this (show HS (hpI h 23 p.toNatClampNeg s) from hs) rfl rfl (by decide)) (Ends.mono vc ?_)
    rintro _ h3 ⟨r4, rfl, hs_h3, vc⟩
    refine e_iload_n (show pAt 77 59 = some (59, .iload_n 1, 1, []) from by decide +kernel) rfl ?_
    refine Ends.call (show pAt 77 60 = some (60, .invokestatic 148, 3, [104, 2, 2, 0, 3185, 2080, 0]) from by decide +kernel) (isRet_none rfl) rfl rfl (Ends.mono vc ?_)
    rintro _ h6 ⟨r7, rfl, hs_h6, vc⟩
    refine e_if (t := 68) (show pAt 77 63 = some (63, .ifCond .ne 5, 3, []) from by decide +kernel) rfl (fun c9 => ?_) (fun c9 => ?_)
    · replace vc := vc.1 c9
      refine e_iinc (c := 1) (show pAt 77 68 = some (68, .iinc 2 1, 3, []) from by decide +kernel) rfl rfl (by decide) rfl ?_
      refine e_goto (t := 33) (show pAt 77 71 = some (71, .goto (-38), 3, []) from by decide +kernel) rfl ?_
      exact vc
    · replace vc := vc.2 c9
      refine e_iload_n (show pAt 77 66 = some (66, .iload_n 2, 1, []) from by decide +kernel) rfl ?_
      exact e_retI (show pAt 77 67 = some (67, .ireturn, 1, []) from by decide +kernel) rfl vc

theorem w_chan {X : Scr} {dp : Nat} {h : Hp} {Q : Option Value → Hp → Prop}  (hs : HS h)
    (vc : Ends X dp 100 0 [.ref 0, .retAddr 0] [] h (fun rv h1 => rv = none ∧ HS h1 ∧ Ends X dp 10 0 [.ref 17, .retAddr 0, .retAddr 0, .retAddr 0, .retAddr 0, .retAddr 0, .retAddr 0] [] (hpI h1 17 12 1) (fun rv h4 => ∃ r5, rv = some (.int r5) ∧ HS h4 ∧ Ends X dp 105 0 [.int r5, .retAddr 0] [] h4 (fun rv h7 => ∃ r8, rv = some (.int r8) ∧ HS h7 ∧ Q (some (.int r8)) h7)))) :
    Ends X (dp + 1) 78 0 [.ref 0] [] h Q := by
  have ra : ∀ {a : Nat}, a < 1000 → a ≤ OLDB := fun h => by have := OLDB_eq; omega
  refine e_aload_n (show pAt 78 0 = some (0, .aload_n 0, 1, []) from by decide +kernel) rfl (ra (by decide)) ?_
  refine Ends.call (show pAt 78 1 = some (1, .invokevirtual 127, 3, [100, 1, 0, 0, 2086, 2088, 4]) from by decide +kernel) (isRet_none rfl) rfl (call_this (show HS h from hs) rfl rfl (by decide)) (Ends.mono vc ?_)
  rintro _ h1 ⟨rfl, hs_h1, vc⟩
  refine e_aload_n (show pAt 78 4 = some (4, .aload_n 0, 1, []) from by decide +kernel) rfl (ra (by decide)) ?_
  refine e_gR (show pAt 78 5 = some (5, .getfield 24, 3, [6, 3, 0, 2025]) from by decide +kernel) (show HS h1 from hs_h1) rfl (by decide) (hs_ref (show HS h1 from hs_h1) rfl) ?_
  refine e_iconst (c := 1) (show pAt 78 8 = some (8, .iconst 1, 1, []) from by decide +kernel) (by decide) ?_
  refine e_pI (show pAt 78 9 = some (9, .putfield 159, 3, [1, 12, 1, 1146]) from by decide +kernel) (show HS h1 from hs_h1) (by decide) (Or.inr (by decide)) ?_
  refine e_aload_n (show pAt 78 12 = some (12, .aload_n 0, 1, []) from by decide +kernel) rfl (ra (by decide)) ?_
  refine e_gR (show pAt 78 13 = some (13, .getfield 24, 3, [6, 3, 0, 2025]) from by decide +kernel) (show HS (hpI h1 17 12 1) from hs_h1) rfl (by decide) (hs_ref (show HS (hpI h1 17 12 1) from hs_h1) rfl) ?_
  refine Ends.call (show pAt 78 16 = some (16, .invokevirtual 130, 3, [10, 1, 0, 1, 2101, 2103, 7]) from by decide +kernel) (isRet_none rfl) rfl (call_this (show HS (hpI h1 17 12 1) from hs_h1) rfl rfl (by decide)) (Ends.mono vc ?_)
  rintro _ h4 ⟨r5, rfl, hs_h4, vc⟩
  refine Ends.call (show pAt 78 19 = some (19, .invokestatic 145, 3, [105, 1, 2, 0, 3182, 3183, 0]) from by decide +kernel) (isRet_none rfl) rfl rfl (Ends.mono vc ?_)
  rintro _ h7 ⟨r8, rfl, hs_h7, vc⟩
  exact e_retI (show pAt 78 22 = some (22, .ireturn, 1, []) from by decide +kernel) rfl vc

theorem w_calo {X : Scr} {dp : Nat} {h : Hp} {Q : Option Value → Hp → Prop} (p : Int32) (hs : HS h)
    (vc : Ends X dp 26 0 [.ref 1, .int p] [] h (fun rv h1 => ∃ r2, rv = some (.int r2) ∧ HS h1 ∧ ((condB .ne r2 0 = true → Ends X dp 27 0 [.ref 1, .int p] [] h1 (fun rv h5 => ∃ r6, rv = some (.int r6) ∧ HS h5 ∧ ((condB .ne r6 0 = true → Ends X dp 100 0 [.ref 0, .retAddr 0] [] h5 (fun rv h9 => rv = none ∧ HS h9 ∧ Ends X dp 10 0 [.ref 17, .retAddr 0, .retAddr 0, .retAddr 0, .retAddr 0, .retAddr 0, .retAddr 0] [] (hpI h9 17 9 ((h9.2.1 1 7) &&& ((1 <<< (p &&& 31)) ^^^ (-1)))) (fun rv h12 => ∃ r13, rv = some (.int r13) ∧ HS h12 ∧ Ends X dp 204 0 [.int r13] [] h12 (fun rv h15 => ∃ r16, rv = some (.int r16) ∧ HS h15 ∧ Q (some (.int r16)) h15)))) ∧ (condB .ne r6 0 = false → Q (some (.int (-3))) h5)))) ∧ (condB .ne r2 0 = false → Q (some (.int (-1))) h1)))) :
    Ends X (dp + 1) 79 0 [.ref 0, .int p] [] h Q := by
  have ra : ∀ {a : Nat}, a < 1000 → a ≤ OLDB := fun h => by have := OLDB_eq; omega
  refine e_aload_n (show pAt 79 0 = some (0, .aload_n 0, 1, []) from by decide +kernel) rfl (ra (by decide)) ?_
  refine e_gR (show pAt 79 1 = some (1, .getfield 12, 3, [6, 0, 0, 2022]) from by decide +kernel) (show HS h from hs) rfl (by decide) (hs_ref (show HS h from hs) rfl) ?_
  refine e_iload_n (show pAt 79 4 = some (4, .iload_n 1, 1, []) from by decide +kernel) rfl ?_
  refine Ends.call (show pAt 79 5 = some (5, .invokevirtual 71, 3, [26, 2, 0, 1, 2071, 2073, 1]) from by decide +kernel) (isRet_none rfl) rfl (call_this (show HS h from hs) rfl rfl (by decide)) (Ends.mono vc ?_)
  rintro _ h1 ⟨r2, rfl, hs_h1, vc⟩
  refine e_if (t := 13) (show pAt 79 8 = some (8, .ifCond .ne 5, 3, []) from by decide +kernel) rfl (fun c4 => ?_) (fun c4 => ?_)
  · replace vc := vc.1 c4
    refine e_aload_n (show pAt 79 13 = some (13, .aload_n 0, 1, []) from by decide +kernel) rfl (ra (by decide)) ?_
    refine e_gR (show pAt 79 14 = some (14, .getfield 12, 3, [6, 0, 0, 2022]) from by decide +kernel) (show HS h1 from hs_h1) rfl (by decide) (hs_ref (show HS h1 from hs_h1) rfl) ?_
    refine e_iload_n (show pAt 79 17 = some (17, .iload_n 1, 1, []) from by decide +kernel) rfl ?_
    refine Ends.call (show pAt 79 18 = some (18, .invokevirtual 90, 3, [27, 2, 0, 1, 2075, 2077, 2]) from by decide +kernel) (isRet_none rfl) rfl (call_this (show HS h1 from hs_h1) rfl rfl (by decide)) (Ends.mono vc ?_)
    rintro _ h5 ⟨r6, rfl, hs_h5, vc⟩
    refine e_if (t := 27) (show pAt 79 21 = some (21, .ifCond .ne 6, 3, []) from by decide +kernel) rfl (fun c8 => ?_) (fun c8 => ?_)
    · replace vc := vc.1 c8
      refine e_aload_n (show pAt 79 27 = some (27, .aload_n 0, 1, []) from by decide +kernel) rfl (ra (by decide)) ?_
      refine Ends.call (show pAt 79 28 = some (28, .invokevirtual 127, 3, [100, 1, 0, 0, 2086, 2088, 4]) from by decide +kernel) (isRet_none rfl) rfl (call_this (show HS h5 from hs_h5) rfl rfl (by decide)) (Ends.mono vc ?_)
      rintro _ h9 ⟨rfl, hs_h9, vc⟩
      refine e_aload_n (show pAt 79 31 = some (31, .aload_n 0, 1, []) from by decide +kernel) rfl (ra (by decide)) ?_
      refine e_gR (show pAt 79 32 = some (32, .getfield 24, 3, [6, 3, 0, 2025]) from by decide +kernel) (show HS h9 from hs_h9) rfl (by decide) (hs_ref (show HS h9 from hs_h9) rfl) ?_
      refine e_aload_n (show pAt 79 35 = some (35, .aload_n 0, 1, []) from by decide +kernel) rfl (ra (by decide)) ?_
      refine e_gR (show pAt 79 36 = some (36, .getfield 12, 3, [6, 0, 0, 2022]) from by decide +kernel) (show HS h9 from hs_h9) rfl (by decide) (hs_ref (show HS h9 from hs_h9) rfl) ?_
      refine e_gIv (v := h9.2.1 1 7) (show pAt 79 39 = some (39, .getfield 97, 3, [2, 7, 1, 1054]) from by decide +kernel) (show HS h9 from hs_h9) rfl (by decide) rfl ?_
      refine e_iconst (c := 1) (show pAt 79 42 = some (42, .iconst 1, 1, []) from by decide +kernel) (by decide) ?_
      refine e_iload_n (show pAt 79 43 = some (43, .iload_n 1, 1, []) from by decide +kernel) rfl ?_
      refine e_ishl (show pAt 79 44 = some (44, .ishl, 1, []) from by decide +kernel) ?_
      refine e_iconst (c := (-1)) (show pAt 79 45 = some (45, .iconst (-1), 1, []) from by decide +kernel) (by decide) ?_
      refine e_ixor (show pAt 79 46 = some (46, .ixor, 1, []) from by decide +kernel) ?_
      refine e_iand (show pAt 79 47 = some (47, .iand, 1, []) from by decide +kernel) ?_
      refine e_pI (show pAt 79 48 = some (48, .putfield 163, 3, [1, 9, 1, 1142]) from by decide +kernel) (show HS h9 from hs_h9) (by decide) (Or.inl rfl) ?_
      refine e_aload_n (show pAt 79 51 = some (51, .aload_n 0, 1, []) from by decide +kernel) rfl (ra (by decide)) ?_
      refine e_gR (show pAt 79 52 = some (52, .getfield 24, 3, [6, 3, 0, 2025]) from by decide +kernel) (show HS (hpI h9 17 9 ((h9.2.1 1 7) &&& ((1 <<< (p &&& 31)) ^^^ (-1)))) from hs_h9) rfl (by decide) (hs_ref (show HS (hpI h9 17 9 ((h9.2.1 1 7) &&& ((1 <<< (p &&& 31)) ^^^ (-1)))) from hs_h9) rfl) ?_
      refine Ends.call (show pAt 79 55 = some (55, .invokevirtual 130, 3, [10, 1, 0, 1, 2101, 2103, 7]) from by decide +kernel) (isRet_none rfl) rfl (call_this (show HS (hpI h9 17 9 ((h9.2.1 1 7) &&& ((1 <<< (p &&& 31)) ^^^ (-1)))) from hs_h9) rfl rfl (by decide)) (Ends.mono vc ?_)
      rintro _ h12 ⟨r13, rfl, hs_h12, vc⟩
      refine Ends.call (show pAt 79 58 = some (58, .invokestatic 136, 3, [204, 1, 2, 0, 3177, 2169, 0]) from by decide +kernel) (isRet_none rfl) rfl rfl (Ends.mono vc ?_)
      rintro _ h15 ⟨r16, rfl, hs_h15, vc⟩
      exact e_retI (show pAt 79 61 = some (61, .ireturn, 1, []) from by decide +kernel) rfl vc
    · replace vc := vc.2 c8
      refine e_bipush (c := (-3)) (show pAt 79 24 = some (24, .bipush (-3), 2, []) from by decide +kernel) (by decide) ?_
      exact e_retI (show pAt 79 26 = some (26, .ireturn, 1, []) from by decide +kernel) rfl vc
  · replace vc := vc.2 c4
    refine e_iconst (c := (-1)) (show pAt 79 11 = some (11, .iconst (-1), 1, []) from by decide +kernel) (by decide) ?_
    exact e_retI (show pAt 79 12 = some (12, .ireturn, 1, []) from by decide +kernel) rfl vc

theorem w_cspr0 {X : Scr} {dp : Nat} {h : Hp} {Q : Option Value → Hp → Prop} (k : Int32) (hs : HS h)
    (vc : ((condB .lt k (-1) = true → Q (some (.int (-1))) h) ∧ (condB .lt k (-1) = false → ((condB .lt k 3 = true → Ends X dp 204 0 [.int (h.2.1 1 7)] [] h (fun rv h3 => ∃ r4, rv = some (.int r4) ∧ HS h3 ∧ ((condB .le r4 3 = true → Ends X dp 106 0 [.int r4, .retAddr 0, .retAddr 0] [] h3 (fun rv h7 => ∃ r8, rv = some (.int r8) ∧ HS h7 ∧ Ends X dp 100 0 [.ref 0, .retAddr 0] [] h7 (fun rv h10 => rv = none ∧ HS h10 ∧ Ends X (dp + 1) 80 49 [.ref 0, .int k, .int r4, .int (-1), .int 0, .int r8, .int 0, .retAddr 0] [] h10 Q))) ∧ (condB .le r4 3 = false → Q (some (.int (-9))) h3)))) ∧ (condB .lt k 3 = false → Q (some (.int (-1))) h))))) :
    Ends X (dp + 1) 80 0 [.ref 0, .int k, .retAddr 0, .retAddr 0, .retAddr 0, .retAddr 0, .retAddr 0, .retAddr 0] [] h Q := by
  have ra : ∀ {a : Nat}, a < 1000 → a ≤ OLDB := fun h => by have := OLDB_eq; omega
  refine e_iload_n (show pAt 80 0 = some (0, .iload_n 1, 1, []) from by decide +kernel) rfl ?_
  refine e_iconst (c := (-1)) (show pAt 80 1 = some (1, .iconst (-1), 1, []) from by decide +kernel) (by decide) ?_
  refine e_icmp (t := 10) (show pAt 80 2 = some (2, .if_icmp .lt 8, 3, []) from by decide +kernel) rfl (fun c1 => ?_) (fun c1 => ?_)
  · replace vc := vc.1 c1
    refine e_iconst (c := (-1)) (show pAt 80 10 = some (10, .iconst (-1), 1, []) from by decide +kernel) (by decide) ?_
    exact e_retI (show pAt 80 11 = some (11, .ireturn, 1, []) from by decide +kernel) rfl vc
  · replace vc := vc.2 c1
    refine e_iload_n (show pAt 80 5 = some (5, .iload_n 1, 1, []) from by decide +kernel) rfl ?_
    refine e_iconst (c := 3) (show pAt 80 6 = some (6, .iconst 3, 1, []) from by decide +kernel) (by decide) ?_
    refine e_icmp (t := 12) (show pAt 80 7 = some (7, .if_icmp .lt 5, 3, []) from by decide +kernel) rfl (fun c2 => ?_) (fun c2 => ?_)
    · replace vc := vc.1 c2
      refine e_aload_n (show pAt 80 12 = some (12, .aload_n 0, 1, []) from by decide +kernel) rfl (ra (by decide)) ?_
      refine e_gR (show pAt 80 13 = some (13, .getfield 12, 3, [6, 0, 0, 2022]) from by decide +kernel) (show HS h from hs) rfl (by decide) (hs_ref (show HS h from hs) rfl) ?_
      refine e_gIv (v := h.2.1 1 7) (show pAt 80 16 = some (16, .getfield 97, 3, [2, 7, 1, 1054]) from by decide +kernel) (show HS h from hs) rfl (by decide) rfl ?_
      refine Ends.call (show pAt 80 19 = some (19, .invokestatic 136, 3, [204, 1, 2, 0, 3177, 2169, 0]) from by decide +kernel) (isRet_none rfl) rfl rfl (Ends.mono vc ?_)
      rintro _ h3 ⟨r4, rfl, hs_h3, vc⟩
      refine e_istore_n (show pAt 80 22 = some (22, .istore_n 2, 1, []) from by decide +kernel) ⟨Nat.le_of_ble_eq_true rfl, rfl⟩ rfl ?_
      refine e_iload_n (show pAt 80 23 = some (23, .iload_n 2, 1, []) from by decide +kernel) rfl ?_
      refine e_iconst (c := 3) (show pAt 80 24 = some (24, .iconst 3, 1, []) from by decide +kernel) (by decide) ?_
      refine e_icmp (t := 31) (show pAt 80 25 = some (25, .if_icmp .le 6, 3, []) from by decide +kernel) rfl (fun c6 => ?_) (fun c6 => ?_)
      · replace vc := vc.1 c6
        refine e_iconst (c := (-1)) (show pAt 80 31 = some (31, .iconst (-1), 1, []) from by decide +kernel) (by decide) ?_
        refine e_istore_n (show pAt 80 32 = some (32, .istore_n 3, 1, []) from by decide +kernel) ⟨Nat.le_of_ble_eq_true rfl, rfl⟩ rfl ?_
        refine e_iconst (c := 0) (show pAt 80 33 = some (33, .iconst 0, 1, []) from by decide +kernel) (by decide) ?_
        refine e_istore (show pAt 80 34 = some (34, .istore 4, 2, []) from by decide +kernel) ⟨Nat.le_of_ble_eq_true rfl, rfl⟩ rfl ?_
        refine e_iload_n (show pAt 80 36 = some (36, .iload_n 2, 1, []) from by decide +kernel) rfl ?_
        refine Ends.call (show pAt 80 37 = some (37, .invokestatic 166, 3, [106, 1, 2, 0, 3222, 3223, 0]) from by decide +kernel) (isRet_none rfl) rfl rfl (Ends.mono vc ?_)
        rintro _ h7 ⟨r8, rfl, hs_h7, vc⟩
        refine e_istore (show pAt 80 40 = some (40, .istore 5, 2, []) from by decide +kernel) ⟨Nat.le_of_ble_eq_true rfl, rfl⟩ rfl ?_
        refine e_aload_n (show pAt 80 42 = some (42, .aload_n 0, 1, []) from by decide +kernel) rfl (ra (by decide)) ?_
        refine Ends.call (show pAt 80 43 = some (43, .invokevirtual 127, 3, [100, 1, 0, 0, 2086, 2088, 4]) from by decide +kernel) (isRet_none rfl) rfl (call_this (show HS h7 from hs_h7) rfl rfl (by decide)) (Ends.mono vc ?_)
        rintro _ h10 ⟨rfl, hs_h10, vc⟩
        refine e_iconst (c := 0) (show pAt 80 46 = some (46, .iconst 0, 1, []) from by decide +kernel) (by decide) ?_
        refine e_istore (show pAt 80 47 = some (47, .istore 6, 2, []) from by decide +kernel) ⟨Nat.le_of_ble_eq_true rfl, rfl⟩ rfl ?_
        exact vc
      · replace vc := vc.2 c6
        refine e_bipush (c := (-9)) (show pAt 80 28 = some (28, .bipush (-9), 2, []) from by decide +kernel) (by decide) ?_
        exact e_retI (show pAt 80 30 = some (30, .ireturn, 1, []) from by decide +kernel) rfl vc
    · replace vc := vc.2 c2
      refine e_iconst (c := (-1)) (show pAt 80 10 = some (10, .iconst (-1), 1, []) from by decide +kernel) (by decide) ?_
      exact e_retI (show pAt 80 11 = some (11, .ireturn, 1, []) from by decide +kernel) rfl vc

theorem w_cspr1 {X : Scr} {dp : Nat} {h : Hp} {Q : Option Value → Hp → Prop} (k : Int32) (c : Int32) (m : Int32) (w : Int32) (r : Int32) (o : Int32) (x : Value) (hs : HS h)
    (vc : ((condB .ge o r = true → ((condB .ne k (-1) = true → ((condB .ge k c = true → Q (some (.int (-5))) h) ∧ (condB .ge k c = false → Ends X dp 106 0 [.int ((c - 1) - k), .retAddr 0, .retAddr 0] [] h (fun rv h4 => ∃ r5, rv = some (.int r5) ∧ HS h4 ∧ (¬ r5 = 0 ∧ Q (some (.int ((w / r5) - (w / r5) / 7 * 7))) h4))))) ∧ (condB .ne k (-1) = false → Q (some (.int m)) h))) ∧ (condB .ge o r = false → Ends X dp 32 0 [.ref 18, .int o, .retAddr 0, .retAddr 0] [] h (fun rv h8 => rv = none ∧ HS h8 ∧ Ends X dp 10 0 [.ref 17, .retAddr 0, .retAddr 0, .retAddr 0, .retAddr 0, .retAddr 0, .retAddr 0] [] h8 (fun rv h11 => ∃ r12, rv = some (.int r12) ∧ HS h11 ∧ Ends X dp 204 0 [.int r12] [] h11 (fun rv h14 => ∃ r15, rv = some (.int r15) ∧ HS h14 ∧ ((condB .le r15 m = true → Ends X (dp + 1) 80 49 [.ref 0, .int k, .int c, .int m, .int w, .int r, .int (o + 1), .int r15] [] h14 Q) ∧ (condB .le r15 m = false → Ends X (dp + 1) 80 49 [.ref 0, .int k, .int c, .int r15, .int o, .int r, .int (o + 1), .int r15] [] h14 Q)))))))) :
    Ends X (dp + 1) 80 49 [.ref 0, .int k, .int c, .int m, .int w, .int r, .int o, x] [] h Q := by
  have ra : ∀ {a : Nat}, a < 1000 → a ≤ OLDB := fun h => by have := OLDB_eq; omega
  refine e_iload (show pAt 80 49 = some (49, .iload 6, 2, []) from by decide +kernel) rfl ?_
  refine e_iload (show pAt 80 51 = some (51, .iload 5, 2, []) from by decide +kernel) rfl ?_
  refine e_icmp (t := 99) (show pAt 80 53 = some (53, .if_icmp .ge 46, 3, []) from by decide +kernel) rfl (fun c1 => ?_) (fun c1 => ?_)
  · replace vc := vc.1 c1
    refine e_iload_n (show pAt 80 99 = some (99, .iload_n 1, 1, []) from by decide +kernel) rfl ?_
    refine e_iconst (c := (-1)) (show pAt 80 100 = some (100, .iconst (-1), 1, []) from by decide +kernel) (by decide) ?_
    refine e_icmp (t := 106) (show pAt 80 101 = some (101, .if_icmp .ne 5, 3, []) from by decide +kernel) rfl (fun c2 => ?_) (fun c2 => ?_)
    · replace vc := vc.1 c2
      refine e_iload_n (show pAt 80 106 = some (106, .iload_n 1, 1, []) from by decide +kernel) rfl ?_
      refine e_iload_n (show pAt 80 107 = some (107, .iload_n 2, 1, []) from by decide +kernel) rfl ?_
      refine e_icmp (t := 128) (show pAt 80 108 = some (108, .if_icmp .ge 20, 3, []) from by decide +kernel) rfl (fun c3 => ?_) (fun c3 => ?_)
      · replace vc := vc.1 c3
        refine e_bipush (c := (-5)) (show pAt 80 128 = some (128, .bipush (-5), 2, []) from by decide +kernel) (by decide) ?_
        exact e_retI (show pAt 80 130 = some (130, .ireturn, 1, []) from by decide +kernel) rfl vc
      · replace vc := vc.2 c3
        refine e_iload (show pAt 80 111 = some (111, .iload 4, 2, []) from by decide +kernel) rfl ?_
        refine e_iload_n (show pAt 80 113 = some (113, .iload_n 2, 1, []) from by decide +kernel) rfl ?_
        refine e_iconst (c := 1) (show pAt 80 114 = some (114, .iconst 1, 1, []) from by decide +kernel) (by decide) ?_
        refine e_isub (show pAt 80 115 = some (115, .isub, 1, []) from by decide +kernel) ?_
        refine e_iload_n (show pAt 80 116 = some (116, .iload_n 1, 1, []) from by decide +kernel) rfl ?_
        refine e_isub (show pAt 80 117 = some (117, .isub, 1, []) from by decide +kernel) ?_
        refine Ends.call (show pAt 80 118 = some (118, .invokestatic 166, 3, [106, 1, 2, 0, 3222, 3223, 0]) from by decide +kernel) (isRet_none rfl) rfl rfl (Ends.mono vc ?_)
        rintro _ h4 ⟨r5, rfl, hs_h4, vc⟩
        obtain ⟨c7, vc⟩ := vc
        refine e_idiv (show pAt 80 121 = some (121, .idiv, 1, []) from by decide +kernel) c7 ?_
        refine e_bipush (c := 7) (show pAt 80 122 = some (122, .bipush 7, 2, []) from by decide +kernel) (by decide) ?_
        refine e_irem (show pAt 80 124 = some (124, .irem, 1, []) from by decide +kernel) (by decide) ?_
        refine e_goto (t := 130) (show pAt 80 125 = some (125, .goto 5, 3, []) from by decide +kernel) rfl ?_
        exact e_retI (show pAt 80 130 = some (130, .ireturn, 1, []) from by decide +kernel) rfl vc
    · replace vc := vc.2 c2
      refine e_iload_n (show pAt 80 104 = some (104, .iload_n 3, 1, []) from by decide +kernel) rfl ?_
      exact e_retI (show pAt 80 105 = some (105, .ireturn, 1, []) from by decide +kernel) rfl vc
  · replace vc := vc.2 c1
    refine e_aload_n (show pAt 80 56 = some (56, .aload_n 0, 1, []) from by decide +kernel) rfl (ra (by decide)) ?_
    refine e_gR (show pAt 80 57 = some (57, .getfield 24, 3, [6, 3, 0, 2025]) from by decide +kernel) (show HS h from hs) rfl (by decide) (hs_ref (show HS h from hs) rfl) ?_
    refine e_gR (show pAt 80 60 = some (60, .getfield 142, 3, [1, 0, 1, 1128]) from by decide +kernel) (show HS h from hs) rfl (by decide) (hs_ref (show HS h from hs) rfl) ?_
    refine e_iload (show pAt 80 63 = some (63, .iload 6, 2, []) from by decide +kernel) rfl ?_
    refine Ends.call (show pAt 80 65 = some (65, .invokevirtual 169, 3, [32, 2, 0, 1, 3225, 3227, 45]) from by decide +kernel) (isRet_none rfl) rfl (call_this (show HS h from hs) rfl rfl (by decide)) (Ends.mono vc ?_)
    rintro _ h8 ⟨rfl, hs_h8, vc⟩
    refine e_aload_n (show pAt 80 68 = some (68, .aload_n 0, 1, []) from by decide +kernel) rfl (ra (by decide)) ?_
    refine e_gR (show pAt 80 69 = some (69, .getfield 24, 3, [6, 3, 0, 2025]) from by decide +kernel) (show HS h8 from hs_h8) rfl (by decide) (hs_ref (show HS h8 from hs_h8) rfl) ?_
    refine Ends.call (show pAt 80 72 = some (72, .invokevirtual 130, 3, [10, 1, 0, 1, 2101, 2103, 7]) from by decide +kernel) (isRet_none rfl) rfl (call_this (show HS h8 from hs_h8) rfl rfl (by decide)) (Ends.mono vc ?_)
    rintro _ h11 ⟨r12, rfl, hs_h11, vc⟩
    refine Ends.call (show pAt 80 75 = some (75, .invokestatic 136, 3, [204, 1, 2, 0, 3177, 2169, 0]) from by decide +kernel) (isRet_none rfl) rfl rfl (Ends.mono vc ?_)
    rintro _ h14 ⟨r15, rfl, hs_h14, vc⟩
    refine e_istore (show pAt 80 78 = some (78, .istore 7, 2, []) from by decide +kernel) ⟨Nat.le_of_ble_eq_true rfl, rfl⟩ rfl ?_
    refine e_iload (show pAt 80 80 = some (80, .iload 7, 2, []) from by decide +kernel) rfl ?_
    refine e_iload_n (show pAt 80 82 = some (82, .iload_n 3, 1, []) from by decide +kernel) rfl ?_
    refine e_icmp (t := 93) (show pAt 80 83 = some (83, .if_icmp .le 10, 3, []) from by decide +kernel) rfl (fun c17 => ?_) (fun c17 => ?_)
    · replace vc := vc.1 c17
      refine e_iinc (c := 1) (show pAt 80 93 = some (93, .iinc 6 1, 3, []) from by decide +kernel) rfl rfl (by decide) rfl ?_
      refine e_goto (t := 49) (show pAt 80 96 = some (96, .goto (-47), 3, []) from by decide +kernel) rfl ?_
      exact vc
    · replace vc := vc.2 c17
      refine e_iload (show pAt 80 86 = some (86, .iload 7, 2, []) from by decide +kernel) rfl ?_
      refine e_istore_n (show pAt 80 88 = some (88, .istore_n 3, 1, []) from by decide +kernel) ⟨Nat.le_of_ble_eq_true rfl, rfl⟩ rfl ?_
      refine e_iload (show pAt 80 89 = some (89, .iload 6, 2, []) from by decide +kernel) rfl ?_
      refine e_istore (show pAt 80 91 = some (91, .istore 4, 2, []) from by decide +kernel) ⟨Nat.le_of_ble_eq_true rfl, rfl⟩ rfl ?_
      refine e_iinc (c := 1) (show pAt 80 93 = some (93, .iinc 6 1, 3, []) from by decide +kernel) rfl rfl (by decide) rfl ?_
      refine e_goto (t := 49) (show pAt 80 96 = some (96, .goto (-47), 3, []) from by decide +kernel) rfl ?_
      exact vc

theorem w_cbeh {X : Scr} {dp : Nat} {h : Hp} {Q : Option Value → Hp → Prop} (p : Int32) (o : Int32) (hs : HS h)
    (vc : Ends X dp 26 0 [.ref 1, .int p] [] h (fun rv h1 => ∃ r2, rv = some (.int r2) ∧ HS h1 ∧ ((condB .eq r2 0 = true → Q (some (.int (-1))) h1) ∧ (condB .eq r2 0 = false → Ends X dp 26 0 [.ref 1, .int o] [] h1 (fun rv h5 => ∃ r6, rv = some (.int r6) ∧ HS h5 ∧ ((condB .ne r6 0 = true → ((condB .ne p o = true → Ends X dp 27 0 [.ref 1, .int p] [] h5 (fun rv h10 => ∃ r11, rv = some (.int r11) ∧ HS h10 ∧ ((condB .ne r11 0 = true → Q (some (.int (-3))) h10) ∧ (condB .ne r11 0 = false → Ends X dp 27 0 [.ref 1, .int o] [] h10 (fun rv h14 => ∃ r15, rv = some (.int r15) ∧ HS h14 ∧ ((condB .eq r15 0 = true → Ends X dp 100 0 [.ref 0, .retAddr 0] [] h14 (fun rv h18 => rv = none ∧ HS h18 ∧ Ends X dp 8 0 [.ref 17, .int p, .int o] [] h18 (fun rv h21 => rv = none ∧ HS h21 ∧ Ends X dp 10 0 [.ref 17, .retAddr 0, .retAddr 0, .retAddr 0, .retAddr 0, .retAddr 0, .retAddr 0] [] h21 (fun rv h24 => ∃ r25, rv = some (.int r25) ∧ HS h24 ∧ Ends X dp 104 0 [.int r25, .int p] [] h24 (fun rv h27 => ∃ r28, rv = some (.int r28) ∧ HS h27 ∧ ((condB .eq r28 0 = true → Q (some (.int 1)) h27) ∧ (condB .eq r28 0 = false → Q (some (.int 0)) h27))))))) ∧ (condB .eq r15 0 = false → Q (some (.int (-3))) h14))))))) ∧ (condB .ne p o = false → Q (some (.int (-2))) h5))) ∧ (condB .ne r6 0 = false → Q (some (.int (-1))) h5))))))) :
    Ends X (dp + 1) 81 0 [.ref 0, .int p, .int o] [] h Q := by
  have ra : ∀ {a : Nat}, a < 1000 → a ≤ OLDB := fun h => by have := OLDB_eq; omega
  refine e_aload_n (show pAt 81 0 = some (0, .aload_n 0, 1, []) from by decide +kernel) rfl (ra (by decide)) ?_
  refine e_gR (show pAt 81 1 = some (1, .getfield 12, 3, [6, 0, 0, 2022]) from by decide +kernel) (show HS h from hs) rfl (by decide) (hs_ref (show HS h from hs) rfl) ?_
  refine e_iload_n (show pAt 81 4 = some (4, .iload_n 1, 1, []) from by decide +kernel) rfl ?_
  refine Ends.call (show pAt 81 5 = some (5, .invokevirtual 71, 3, [26, 2, 0, 1, 2071, 2073, 1]) from by decide +kernel) (isRet_none rfl) rfl (call_this (show HS h from hs) rfl rfl (by decide)) (Ends.mono vc ?_)
  rintro _ h1 ⟨r2, rfl, hs_h1, vc⟩
  refine e_if (t := 22) (show pAt 81 8 = some (8, .ifCond .eq 14, 3, []) from by decide +kernel) rfl (fun c4 => ?_) (fun c4 => ?_)
  · replace vc := vc.1 c4
    refine e_iconst (c := (-1)) (show pAt 81 22 = some (22, .iconst (-1), 1, []) from by decide +kernel) (by decide) ?_
    exact e_retI (show pAt 81 23 = some (23, .ireturn, 1, []) from by decide +kernel) rfl vc
  · replace vc := vc.2 c4
    refine e_aload_n (show pAt 81 11 = some (11, .aload_n 0, 1, []) from by decide +kernel) rfl (ra (by decide)) ?_
    refine e_gR (show pAt 81 12 = some (12, .getfield 12, 3, [6, 0, 0, 2022]) from by decide +kernel) (show HS h1 from hs_h1) rfl (by decide) (hs_ref (show HS h1 from hs_h1) rfl) ?_
    refine e_iload_n (show pAt 81 15 = some (15, .iload_n 2, 1, []) from by decide +kernel) rfl ?_
    refine Ends.call (show pAt 81 16 = some (16, .invokevirtual 71, 3, [26, 2, 0, 1, 2071, 2073, 1]) from by decide +kernel) (isRet_none rfl) rfl (call_this (show HS h1 from hs_h1) rfl rfl (by decide)) (Ends.mono vc ?_)
    rintro _ h5 ⟨r6, rfl, hs_h5, vc⟩
    refine e_if (t := 24) (show pAt 81 19 = some (19, .ifCond .ne 5, 3, []) from by decide +kernel) rfl (fun c8 => ?_) (fun c8 => ?_)
    · replace vc := vc.1 c8
      refine e_iload_n (show pAt 81 24 = some (24, .iload_n 1, 1, []) from by decide +kernel) rfl ?_
      refine e_iload_n (show pAt 81 25 = some (25, .iload_n 2, 1, []) from by decide +kernel) rfl ?_
      refine e_icmp (t := 32) (show pAt 81 26 = some (26, .if_icmp .ne 6, 3, []) from by decide +kernel) rfl (fun c9 => ?_) (fun c9 => ?_)
      · replace vc := vc.1 c9
        refine e_aload_n (show pAt 81 32 = some (32, .aload_n 0, 1, []) from by decide +kernel) rfl (ra (by decide)) ?_
        refine e_gR (show pAt 81 33 = some (33, .getfield 12, 3, [6, 0, 0, 2022]) from by decide +kernel) (show HS h5 from hs_h5) rfl (by decide) (hs_ref (show HS h5 from hs_h5) rfl) ?_
        refine e_iload_n (show pAt 81 36 = some (36, .iload_n 1, 1, []) from by decide +kernel) rfl ?_
        refine Ends.call (show pAt 81 37 = some (37, .invokevirtual 90, 3, [27, 2, 0, 1, 2075, 2077, 2]) from by decide +kernel) (isRet_none rfl) rfl (call_this (show HS h5 from hs_h5) rfl rfl (by decide)) (Ends.mono vc ?_)
        rintro _ h10 ⟨r11, rfl, hs_h10, vc⟩
        refine e_if (t := 54) (show pAt 81 40 = some (40, .ifCond .ne 14, 3, []) from by decide +kernel) rfl (fun c13 => ?_) (fun c13 => ?_)
        · replace vc := vc.1 c13
          refine e_bipush (c := (-3)) (show pAt 81 54 = some (54, .bipush (-3), 2, []) from by decide +kernel) (by decide) ?_
          exact e_retI (show pAt 81 56 = some (56, .ireturn, 1, []) from by decide +kernel) rfl vc
        · replace vc := vc.2 c13
          refine e_aload_n (show pAt 81 43 = some (43, .aload_n 0, 1, []) from by decide +kernel) rfl (ra (by decide)) ?_
          refine e_gR (show pAt 81 44 = some (44, .getfield 12, 3, [6, 0, 0, 2022]) from by decide +kernel) (show HS h10 from hs_h10) rfl (by decide) (hs_ref (show HS h10 from hs_h10) rfl) ?_
          refine e_iload_n (show pAt 81 47 = some (47, .iload_n 2, 1, []) from by decide +kernel) rfl ?_
          refine Ends.call (show pAt 81 48 = some (48, .invokevirtual 90, 3, [27, 2, 0, 1, 2075, 2077, 2]) from by decide +kernel) (isRet_none rfl) rfl (call_this (show HS h10 from hs_h10) rfl rfl (by decide)) (Ends.mono vc ?_)
          rintro _ h14 ⟨r15, rfl, hs_h14, vc⟩
          refine e_if (t := 57) (show pAt 81 51 = some (51, .ifCond .eq 6, 3, []) from by decide +kernel) rfl (fun c17 => ?_) (fun c17 => ?_)
          · replace vc := vc.1 c17
            refine e_aload_n (show pAt 81 57 = some (57, .aload_n 0, 1, []) from by decide +kernel) rfl (ra (by decide)) ?_
            refine Ends.call (show pAt 81 58 = some (58, .invokevirtual 127, 3, [100, 1, 0, 0, 2086, 2088, 4]) from by decide +kernel) (isRet_none rfl) rfl (call_this (show HS h14 from hs_h14) rfl rfl (by decide)) (Ends.mono vc ?_)
            rintro _ h18 ⟨rfl, hs_h18, vc⟩
            refine e_aload_n (show pAt 81 61 = some (61, .aload_n 0, 1, []) from by decide +kernel) rfl (ra (by decide)) ?_
            refine e_gR (show pAt 81 62 = some (62, .getfield 24, 3, [6, 3, 0, 2025]) from by decide +kernel) (show HS h18 from hs_h18) rfl (by decide) (hs_ref (show HS h18 from hs_h18) rfl) ?_
            refine e_iload_n (show pAt 81 65 = some (65, .iload_n 1, 1, []) from by decide +kernel) rfl ?_
            refine e_iload_n (show pAt 81 66 = some (66, .iload_n 2, 1, []) from by decide +kernel) rfl ?_
            refine Ends.call (show pAt 81 67 = some (67, .invokevirtual 173, 3, [8, 3, 0, 1, 3234, 3236, 46]) from by decide +kernel) (isRet_none rfl) rfl (call_this (show HS h18 from hs_h18) rfl rfl (by decide)) (Ends.mono vc ?_)
            rintro _ h21 ⟨rfl, hs_h21, vc⟩
            refine e_aload_n (show pAt 81 70 = some (70, .aload_n 0, 1, []) from by decide +kernel) rfl (ra (by decide)) ?_
            refine e_gR (show pAt 81 71 = some (71, .getfield 24, 3, [6, 3, 0, 2025]) from by decide +kernel) (show HS h21 from hs_h21) rfl (by decide) (hs_ref (show HS h21 from hs_h21) rfl) ?_
            refine Ends.call (show pAt 81 74 = some (74, .invokevirtual 130, 3, [10, 1, 0, 1, 2101, 2103, 7]) from by decide +kernel) (isRet_none rfl) rfl (call_this (show HS h21 from hs_h21) rfl rfl (by decide)) (Ends.mono vc ?_)
            rintro _ h24 ⟨r25, rfl, hs_h24, vc⟩
            refine e_iload_n (show pAt 81 77 = some (77, .iload_n 1, 1, []) from by decide +kernel) rfl ?_
            refine Ends.call (show pAt 81 78 = some (78, .invokestatic 148, 3, [104, 2, 2, 0, 3185, 2080, 0]) from by decide +kernel) (isRet_none rfl) rfl rfl (Ends.mono vc ?_)
            rintro _ h27 ⟨r28, rfl, hs_h27, vc⟩
            refine e_if (t := 88) (show pAt 81 81 = some (81, .ifCond .eq 7, 3, []) from by decide +kernel) rfl (fun c30 => ?_) (fun c30 => ?_)
            · replace vc := vc.1 c30
              refine e_iconst (c := 1) (show pAt 81 88 = some (88, .iconst 1, 1, []) from by decide +kernel) (by decide) ?_
              exact e_retI (show pAt 81 89 = some (89, .ireturn, 1, []) from by decide +kernel) rfl vc
            · replace vc := vc.2 c30
              refine e_iconst (c := 0) (show pAt 81 84 = some (84, .iconst 0, 1, []) from by decide +kernel) (by decide) ?_
              refine e_goto (t := 89) (show pAt 81 85 = some (85, .goto 4, 3, []) from by decide +kernel) rfl ?_
              exact e_retI (show pAt 81 89 = some (89, .ireturn, 1, []) from by decide +kernel) rfl vc
          · replace vc := vc.2 c17
            refine e_bipush (c := (-3)) (show pAt 81 54 = some (54, .bipush (-3), 2, []) from by decide +kernel) (by decide) ?_
            exact e_retI (show pAt 81 56 = some (56, .ireturn, 1, []) from by decide +kernel) rfl vc
      · replace vc := vc.2 c9
        refine e_bipush (c := (-2)) (show pAt 81 29 = some (29, .bipush (-2), 2, []) from by decide +kernel) (by decide) ?_
        exact e_retI (show pAt 81 31 = some (31, .ireturn, 1, []) from by decide +kernel) rfl vc
    · replace vc := vc.2 c8
      refine e_iconst (c := (-1)) (show pAt 81 22 = some (22, .iconst (-1), 1, []) from by decide +kernel) (by decide) ?_
      exact e_retI (show pAt 81 23 = some (23, .ireturn, 1, []) from by decide +kernel) rfl vc

theorem w_cmov0 {X : Scr} {dp : Nat} {h : Hp} {Q : Option Value → Hp → Prop} (p : Int32) (hs : HS h)
    (vc : Ends X dp 26 0 [.ref 1, .int p] [] h (fun rv h1 => ∃ r2, rv = some (.int r2) ∧ HS h1 ∧ ((condB .ne r2 0 = true → Ends X dp 27 0 [.ref 1, .int p] [] h1 (fun rv h5 => ∃ r6, rv = some (.int r6) ∧ HS h5 ∧ ((condB .ne r6 0 = true → Ends X (dp + 1) 83 31 [.ref 0, .int p, .int 0, .int 0] [] h5 Q) ∧ (condB .ne r6 0 = false → Q (some (.int (-3))) h5)))) ∧ (condB .ne r2 0 = false → Q (some (.int (-1))) h1)))) :
    Ends X (dp + 1) 83 0 [.ref 0, .int p, .retAddr 0, .retAddr 0] [] h Q := by
  have ra : ∀ {a : Nat}, a < 1000 → a ≤ OLDB := fun h => by have := OLDB_eq; omega
  refine e_aload_n (show pAt 83 0 = some (0, .aload_n 0, 1, []) from by decide +kernel) rfl (ra (by decide)) ?_
  refine e_gR (show pAt 83 1 = some (1, .getfield 12, 3, [6, 0, 0, 2022]) from by decide +kernel) (show HS h from hs) rfl (by decide) (hs_ref (show HS h from hs) rfl) ?_
  refine e_iload_n (show pAt 83 4 = some (4, .iload_n 1, 1, []) from by decide +kernel) rfl ?_
  refine Ends.call (show pAt 83 5 = some (5, .invokevirtual 71, 3, [26, 2, 0, 1, 2071, 2073, 1]) from by decide +kernel) (isRet_none rfl) rfl (call_this (show HS h from hs) rfl rfl (by decide)) (Ends.mono vc ?_)
  rintro _ h1 ⟨r2, rfl, hs_h1, vc⟩
  refine e_if (t := 13) (show pAt 83 8 = some (8, .ifCond .ne 5, 3, []) from by decide +kernel) rfl (fun c4 => ?_) (fun c4 => ?_)
  · replace vc := vc.1 c4
    refine e_aload_n (show pAt 83 13 = some (13, .aload_n 0, 1, []) from by decide +kernel) rfl (ra (by decide)) ?_
    refine e_gR (show pAt 83 14 = some (14, .getfield 12, 3, [6, 0, 0, 2022]) from by decide +kernel) (show HS h1 from hs_h1) rfl (by decide) (hs_ref (show HS h1 from hs_h1) rfl) ?_
    refine e_iload_n (show pAt 83 17 = some (17, .iload_n 1, 1, []) from by decide +kernel) rfl ?_
    refine Ends.call (show pAt 83 18 = some (18, .invokevirtual 90, 3, [27, 2, 0, 1, 2075, 2077, 2]) from by decide +kernel) (isRet_none rfl) rfl (call_this (show HS h1 from hs_h1) rfl rfl (by decide)) (Ends.mono vc ?_)
    rintro _ h5 ⟨r6, rfl, hs_h5, vc⟩
    refine e_if (t := 27) (show pAt 83 21 = some (21, .ifCond .ne 6, 3, []) from by decide +kernel) rfl (fun c8 => ?_) (fun c8 => ?_)
    · replace vc := vc.1 c8
      refine e_iconst (c := 0) (show pAt 83 27 = some (27, .iconst 0, 1, []) from by decide +kernel) (by decide) ?_
      refine e_istore_n (show pAt 83 28 = some (28, .istore_n 2, 1, []) from by decide +kernel) ⟨Nat.le_of_ble_eq_true rfl, rfl⟩ rfl ?_
      refine e_iconst (c := 0) (show pAt 83 29 = some (29, .iconst 0, 1, []) from by decide +kernel) (by decide) ?_
      refine e_istore_n (show pAt 83 30 = some (30, .istore_n 3, 1, []) from by decide +kernel) ⟨Nat.le_of_ble_eq_true rfl, rfl⟩ rfl ?_
      exact vc
    · replace vc := vc.2 c8
      refine e_bipush (c := (-3)) (show pAt 83 24 = some (24, .bipush (-3), 2, []) from by decide +kernel) (by decide) ?_
      exact e_retI (show pAt 83 26 = some (26, .ireturn, 1, []) from by decide +kernel) rfl vc
  · replace vc := vc.2 c4
    refine e_iconst (c := (-1)) (show pAt 83 11 = some (11, .iconst (-1), 1, []) from by decide +kernel) (by decide) ?_
    exact e_retI (show pAt 83 12 = some (12, .ireturn, 1, []) from by decide +kernel) rfl vc

theorem w_cmov1 {X : Scr} {dp : Nat} {h : Hp} {Q : Option Value → Hp → Prop} (p : Int32) (s : Int32) (l : Int32) (hs : HS h)
    (vc : ((condB .ge l 7 = true → Q (some (.int s)) h) ∧ (condB .ge l 7 = false → Ends X dp 101 0 [.ref 0, .int p, .int l] [] h (fun rv h2 => ∃ r3, rv = some (.int r3) ∧ HS h2 ∧ ((condB .ne r3 (h2.2.1 1 9) = true → Ends X (dp + 1) 83 31 [.ref 0, .int p, .int s, .int (l + 1)] [] h2 Q) ∧ (condB .ne r3 (h2.2.1 1 9) = false → Ends X (dp + 1) 83 31 [.ref 0, .int p, .int (s ||| (1 <<< (l &&& 31))), .int (l + 1)] [] h2 Q)))))) :
    Ends X (dp + 1) 83 31 [.ref 0, .int p, .int s, .int l] [] h Q := by
  have ra : ∀ {a : Nat}, a < 1000 → a ≤ OLDB := fun h => by have := OLDB_eq; omega
  refine e_iload_n (show pAt 83 31 = some (31, .iload_n 3, 1, []) from by decide +kernel) rfl ?_
  refine e_bipush (c := 7) (show pAt 83 32 = some (32, .bipush 7, 2, []) from by decide +kernel) (by decide) ?_
  refine e_icmp (t := 65) (show pAt 83 34 = some (34, .if_icmp .ge 31, 3, []) from by decide +kernel) rfl (fun c1 => ?_) (fun c1 => ?_)
  · replace vc := vc.1 c1
    refine e_iload_n (show pAt 83 65 = some (65, .iload_n 2, 1, []) from by decide +kernel) rfl ?_
    exact e_retI (show pAt 83 66 = some (66, .ireturn, 1, []) from by decide +kernel) rfl vc
  · replace vc := vc.2 c1
    refine e_aload_n (show pAt 83 37 = some (37, .aload_n 0, 1, []) from by decide +kernel) rfl (ra (by decide)) ?_
    refine e_iload_n (show pAt 83 38 = some (38, .iload_n 1, 1, []) from by decide +kernel) rfl ?_
    refine e_iload_n (show pAt 83 39 = some (39, .iload_n 3, 1, []) from by decide +kernel) rfl ?_
    refine Ends.call (show pAt 83 40 = some (40, .invokevirtual 152, 3, [101, 3, 0, 0, 3194, 3196, 43]) from by decide +kernel) (isRet_none rfl) rfl (call_this (show HS h from hs) rfl rfl (by decide)) (Ends.mono vc ?_)
    rintro _ h2 ⟨r3, rfl, hs_h2, vc⟩
    refine e_aload_n (show pAt 83 43 = some (43, .aload_n 0, 1, []) from by decide +kernel) rfl (ra (by decide)) ?_
    refine e_gR (show pAt 83 44 = some (44, .getfield 12, 3, [6, 0, 0, 2022]) from by decide +kernel) (show HS h2 from hs_h2) rfl (by decide) (hs_ref (show HS h2 from hs_h2) rfl) ?_
    refine e_gIv (v := h2.2.1 1 9) (show pAt 83 47 = some (47, .getfield 179, 3, [2, 9, 1, 1059]) from by decide +kernel) (show HS h2 from hs_h2) rfl (by decide) rfl ?_
    refine e_icmp (t := 59) (show pAt 83 50 = some (50, .if_icmp .ne 9, 3, []) from by decide +kernel) rfl (fun c5 => ?_) (fun c5 => ?_)
    · replace vc := vc.1 c5
      refine e_iinc (c := 1) (show pAt 83 59 = some (59, .iinc 3 1, 3, []) from by decide +kernel) rfl rfl (by decide) rfl ?_
      refine e_goto (t := 31) (show pAt 83 62 = some (62, .goto (-31), 3, []) from by decide +kernel) rfl ?_
      exact vc
    · replace vc := vc.2 c5
      refine e_iload_n (show pAt 83 53 = some (53, .iload_n 2, 1, []) from by decide +kernel) rfl ?_
      refine e_iconst (c := 1) (show pAt 83 54 = some (54, .iconst 1, 1, []) from by decide +kernel) (by decide) ?_
      refine e_iload_n (show pAt 83 55 = some (55, .iload_n 3, 1, []) from by decide +kernel) rfl ?_
      refine e_ishl (show pAt 83 56 = some (56, .ishl, 1, []) from by decide +kernel) ?_
      refine e_ior (show pAt 83 57 = some (57, .ior, 1, []) from by decide +kernel) ?_
      refine e_istore_n (show pAt 83 58 = some (58, .istore_n 2, 1, []) from by decide +kernel) ⟨Nat.le_of_ble_eq_true rfl, rfl⟩ rfl ?_
      refine e_iinc (c := 1) (show pAt 83 59 = some (59, .iinc 3 1, 3, []) from by decide +kernel) rfl rfl (by decide) rfl ?_
      refine e_goto (t := 31) (show pAt 83 62 = some (62, .goto (-31), 3, []) from by decide +kernel) rfl ?_
      exact vc

theorem w_codd0 {X : Scr} {dp : Nat} {h : Hp} {Q : Option Value → Hp → Prop} (p : Int32) (c : Int32) (a : Int32) (hs : HS h)
    (vc : Ends X dp 26 0 [.ref 1, .int p] [] h (fun rv h1 => ∃ r2, rv = some (.int r2) ∧ HS h1 ∧ ((condB .eq r2 0 = true → Q (some (.long (-9223372036854775808))) h1) ∧ (condB .eq r2 0 = false → Ends X dp 26 0 [.ref 1, .int c] [] h1 (fun rv h5 => ∃ r6, rv = some (.int r6) ∧ HS h5 ∧ ((condB .eq r6 0 = true → Q (some (.long (-9223372036854775808))) h5) ∧ (condB .eq r6 0 = false → ((condB .lt a 0 = true → Q (some (.long (-9223372036854775808))) h5) ∧ (condB .lt a 0 = false → ((condB .le a 1 = true → Ends X dp 27 0 [.ref 1, .int p] [] h5 (fun rv h11 => ∃ r12, rv = some (.int r12) ∧ HS h11 ∧ ((condB .ne r12 0 = true → Q (some (.long (-9223372036854775808))) h11) ∧ (condB .ne r12 0 = false → Ends X dp 27 0 [.ref 1, .int c] [] h11 (fun rv h15 => ∃ r16, rv = some (.int r16) ∧ HS h15 ∧ ((condB .ne r16 0 = true → Ends X (dp + 1) 84 67 [.ref 0, .int p, .int c, .int a, .int 0, .int 0] [] h15 Q) ∧ (condB .ne r16 0 = false → Q (some (.long (-9223372036854775808))) h15))))))) ∧ (condB .le a 1 = false → Q (some (.long (-9223372036854775808))) h5))))))))))) :
    Ends X (dp + 1) 84 0 [.ref 0, .int p, .int c, .int a, .retAddr 0, .retAddr 0] [] h Q := by
  have ra : ∀ {a : Nat}, a < 1000 → a ≤ OLDB := fun h => by have := OLDB_eq; omega
  refine e_aload_n (show pAt 84 0 = some (0, .aload_n 0, 1, []) from by decide +kernel) rfl (ra (by decide)) ?_
  refine e_gR (show pAt 84 1 = some (1, .getfield 12, 3, [6, 0, 0, 2022]) from by decide +kernel) (show HS h from hs) rfl (by decide) (hs_ref (show HS h from hs) rfl) ?_
  refine e_iload_n (show pAt 84 4 = some (4, .iload_n 1, 1, []) from by decide +kernel) rfl ?_
  refine Ends.call (show pAt 84 5 = some (5, .invokevirtual 71, 3, [26, 2, 0, 1, 2071, 2073, 1]) from by decide +kernel) (isRet_none rfl) rfl (call_this (show HS h from hs) rfl rfl (by decide)) (Ends.mono vc ?_)
  rintro _ h1 ⟨r2, rfl, hs_h1, vc⟩
  refine e_if (t := 31) (show pAt 84 8 = some (8, .ifCond .eq 23, 3, []) from by decide +kernel) rfl (fun c4 => ?_) (fun c4 => ?_)
  · replace vc := vc.1 c4
    refine e_ldc2 (c := (-9223372036854775808)) (show pAt 84 31 = some (31, .ldc2_w 182, 3, [9223372036854775808, 4014]) from by decide +kernel) (by decide) ?_
    exact e_retL (show pAt 84 34 = some (34, .lreturn, 1, []) from by decide +kernel) rfl vc
  · replace vc := vc.2 c4
    refine e_aload_n (show pAt 84 11 = some (11, .aload_n 0, 1, []) from by decide +kernel) rfl (ra (by decide)) ?_
    refine e_gR (show pAt 84 12 = some (12, .getfield 12, 3, [6, 0, 0, 2022]) from by decide +kernel) (show HS h1 from hs_h1) rfl (by decide) (hs_ref (show HS h1 from hs_h1) rfl) ?_
    refine e_iload_n (show pAt 84 15 = some (15, .iload_n 2, 1, []) from by decide +kernel) rfl ?_
    refine Ends.call (show pAt 84 16 = some (16, .invokevirtual 71, 3, [26, 2, 0, 1, 2071, 2073, 1]) from by decide +kernel) (isRet_none rfl) rfl (call_this (show HS h1 from hs_h1) rfl rfl (by decide)) (Ends.mono vc ?_)
    rintro _ h5 ⟨r6, rfl, hs_h5, vc⟩
    refine e_if (t := 31) (show pAt 84 19 = some (19, .ifCond .eq 12, 3, []) from by decide +kernel) rfl (fun c8 => ?_) (fun c8 => ?_)
    · replace vc := vc.1 c8
      refine e_ldc2 (c := (-9223372036854775808)) (show pAt 84 31 = some (31, .ldc2_w 182, 3, [9223372036854775808, 4014]) from by decide +kernel) (by decide) ?_
      exact e_retL (show pAt 84 34 = some (34, .lreturn, 1, []) from by decide +kernel) rfl vc
    · replace vc := vc.2 c8
      refine e_iload_n (show pAt 84 22 = some (22, .iload_n 3, 1, []) from by decide +kernel) rfl ?_
      refine e_if (t := 31) (show pAt 84 23 = some (23, .ifCond .lt 8, 3, []) from by decide +kernel) rfl (fun c9 => ?_) (fun c9 => ?_)
      · replace vc := vc.1 c9
        refine e_ldc2 (c := (-9223372036854775808)) (show pAt 84 31 = some (31, .ldc2_w 182, 3, [9223372036854775808, 4014]) from by decide +kernel) (by decide) ?_
        exact e_retL (show pAt 84 34 = some (34, .lreturn, 1, []) from by decide +kernel) rfl vc
      · replace vc := vc.2 c9
        refine e_iload_n (show pAt 84 26 = some (26, .iload_n 3, 1, []) from by decide +kernel) rfl ?_
        refine e_iconst (c := 1) (show pAt 84 27 = some (27, .iconst 1, 1, []) from by decide +kernel) (by decide) ?_
        refine e_icmp (t := 35) (show pAt 84 28 = some (28, .if_icmp .le 7, 3, []) from by decide +kernel) rfl (fun c10 => ?_) (fun c10 => ?_)
        · replace vc := vc.1 c10
          refine e_aload_n (show pAt 84 35 = some (35, .aload_n 0, 1, []) from by decide +kernel) rfl (ra (by decide)) ?_
          refine e_gR (show pAt 84 36 = some (36, .getfield 12, 3, [6, 0, 0, 2022]) from by decide +kernel) (show HS h5 from hs_h5) rfl (by decide) (hs_ref (show HS h5 from hs_h5) rfl) ?_
          refine e_iload_n (show pAt 84 39 = some (39, .iload_n 1, 1, []) from by decide +kernel) rfl ?_
          refine Ends.call (show pAt 84 40 = some (40, .invokevirtual 90, 3, [27, 2, 0, 1, 2075, 2077, 2]) from by decide +kernel) (isRet_none rfl) rfl (call_this (show HS h5 from hs_h5) rfl rfl (by decide)) (Ends.mono vc ?_)
          rintro _ h11 ⟨r12, rfl, hs_h11, vc⟩
          refine e_if (t := 57) (show pAt 84 43 = some (43, .ifCond .ne 14, 3, []) from by decide +kernel) rfl (fun c14 => ?_) (fun c14 => ?_)
          · replace vc := vc.1 c14
            refine e_ldc2 (c := (-9223372036854775808)) (show pAt 84 57 = some (57, .ldc2_w 182, 3, [9223372036854775808, 4014]) from by decide +kernel) (by decide) ?_
            exact e_retL (show pAt 84 60 = some (60, .lreturn, 1, []) from by decide +kernel) rfl vc
          · replace vc := vc.2 c14
            refine e_aload_n (show pAt 84 46 = some (46, .aload_n 0, 1, []) from by decide +kernel) rfl (ra (by decide)) ?_
            refine e_gR (show pAt 84 47 = some (47, .getfield 12, 3, [6, 0, 0, 2022]) from by decide +kernel) (show HS h11 from hs_h11) rfl (by decide) (hs_ref (show HS h11 from hs_h11) rfl) ?_
            refine e_iload_n (show pAt 84 50 = some (50, .iload_n 2, 1, []) from by decide +kernel) rfl ?_
            refine Ends.call (show pAt 84 51 = some (51, .invokevirtual 90, 3, [27, 2, 0, 1, 2075, 2077, 2]) from by decide +kernel) (isRet_none rfl) rfl (call_this (show HS h11 from hs_h11) rfl rfl (by decide)) (Ends.mono vc ?_)
            rintro _ h15 ⟨r16, rfl, hs_h15, vc⟩
            refine e_if (t := 61) (show pAt 84 54 = some (54, .ifCond .ne 7, 3, []) from by decide +kernel) rfl (fun c18 => ?_) (fun c18 => ?_)
            · replace vc := vc.1 c18
              refine e_iconst (c := 0) (show pAt 84 61 = some (61, .iconst 0, 1, []) from by decide +kernel) (by decide) ?_
              refine e_istore (show pAt 84 62 = some (62, .istore 4, 2, []) from by decide +kernel) ⟨Nat.le_of_ble_eq_true rfl, rfl⟩ rfl ?_
              refine e_iconst (c := 0) (show pAt 84 64 = some (64, .iconst 0, 1, []) from by decide +kernel) (by decide) ?_
              refine e_istore (show pAt 84 65 = some (65, .istore 5, 2, []) from by decide +kernel) ⟨Nat.le_of_ble_eq_true rfl, rfl⟩ rfl ?_
              exact vc
            · replace vc := vc.2 c18
              refine e_ldc2 (c := (-9223372036854775808)) (show pAt 84 57 = some (57, .ldc2_w 182, 3, [9223372036854775808, 4014]) from by decide +kernel) (by decide) ?_
              exact e_retL (show pAt 84 60 = some (60, .lreturn, 1, []) from by decide +kernel) rfl vc
        · replace vc := vc.2 c10
          refine e_ldc2 (c := (-9223372036854775808)) (show pAt 84 31 = some (31, .ldc2_w 182, 3, [9223372036854775808, 4014]) from by decide +kernel) (by decide) ?_
          exact e_retL (show pAt 84 34 = some (34, .lreturn, 1, []) from by decide +kernel) rfl vc

theorem w_codd1 {X : Scr} {dp : Nat} {h : Hp} {Q : Option Value → Hp → Prop} (p : Int32) (c : Int32) (a : Int32) (n : Int32) (l : Int32) (hs : HS h)
    (vc : ((condB .ge l 7 = true → Ends X dp 107 0 [.int n, .int 7, .int a, .retAddr 0, .retAddr 0, .retAddr 0, .retAddr 0] [] h (fun rv h2 => ∃ r3, rv = some (.long r3) ∧ HS h2 ∧ Q (some (.long r3)) h2)) ∧ (condB .ge l 7 = false → Ends X dp 101 0 [.ref 0, .int c, .int l] [] h (fun rv h5 => ∃ r6, rv = some (.int r6) ∧ HS h5 ∧ Ends X dp 104 0 [.int r6, .int p] [] h5 (fun rv h8 => ∃ r9, rv = some (.int r9) ∧ HS h8 ∧ ((condB .eq r9 0 = true → Ends X (dp + 1) 84 67 [.ref 0, .int p, .int c, .int a, .int n, .int (l + 1)] [] h8 Q) ∧ (condB .eq r9 0 = false → Ends X (dp + 1) 84 67 [.ref 0, .int p, .int c, .int a, .int (n + 1), .int (l + 1)] [] h8 Q))))))) :
    Ends X (dp + 1) 84 67 [.ref 0, .int p, .int c, .int a, .int n, .int l] [] h Q := by
  have ra : ∀ {a : Nat}, a < 1000 → a ≤ OLDB := fun h => by have := OLDB_eq; omega
  refine e_iload (show pAt 84 67 = some (67, .iload 5, 2, []) from by decide +kernel) rfl ?_
  refine e_bipush (c := 7) (show pAt 84 69 = some (69, .bipush 7, 2, []) from by decide +kernel) (by decide) ?_
  refine e_icmp (t := 97) (show pAt 84 71 = some (71, .if_icmp .ge 26, 3, []) from by decide +kernel) rfl (fun c1 => ?_) (fun c1 => ?_)
  · replace vc := vc.1 c1
    refine e_iload (show pAt 84 97 = some (97, .iload 4, 2, []) from by decide +kernel) rfl ?_
    refine e_bipush (c := 7) (show pAt 84 99 = some (99, .bipush 7, 2, []) from by decide +kernel) (by decide) ?_
    refine e_iload_n (show pAt 84 101 = some (101, .iload_n 3, 1, []) from by decide +kernel) rfl ?_
    refine Ends.call (show pAt 84 102 = some (102, .invokestatic 184, 3, [107, 3, 2, 0, 4015, 4016, 0]) from by decide +kernel) (isRet_none rfl) rfl rfl (Ends.mono vc ?_)
    rintro _ h2 ⟨r3, rfl, hs_h2, vc⟩
    exact e_retL (show pAt 84 105 = some (105, .lreturn, 1, []) from by decide +kernel) rfl vc
  · replace vc := vc.2 c1
    refine e_aload_n (show pAt 84 74 = some (74, .aload_n 0, 1, []) from by decide +kernel) rfl (ra (by decide)) ?_
    refine e_iload_n (show pAt 84 75 = some (75, .iload_n 2, 1, []) from by decide +kernel) rfl ?_
    refine e_iload (show pAt 84 76 = some (76, .iload 5, 2, []) from by decide +kernel) rfl ?_
    refine Ends.call (show pAt 84 78 = some (78, .invokevirtual 152, 3, [101, 3, 0, 0, 3194, 3196, 43]) from by decide +kernel) (isRet_none rfl) rfl (call_this (show HS h from hs) rfl rfl (by decide)) (Ends.mono vc ?_)
    rintro _ h5 ⟨r6, rfl, hs_h5, vc⟩
    refine e_iload_n (show pAt 84 81 = some (81, .iload_n 1, 1, []) from by decide +kernel) rfl ?_
    refine Ends.call (show pAt 84 82 = some (82, .invokestatic 148, 3, [104, 2, 2, 0, 3185, 2080, 0]) from by decide +kernel) (isRet_none rfl) rfl rfl (Ends.mono vc ?_)
    rintro _ h8 ⟨r9, rfl, hs_h8, vc⟩
    refine e_if (t := 91) (show pAt 84 85 = some (85, .ifCond .eq 6, 3, []) from by decide +kernel) rfl (fun c11 => ?_) (fun c11 => ?_)
    · replace vc := vc.1 c11
      refine e_iinc (c := 1) (show pAt 84 91 = some (91, .iinc 5 1, 3, []) from by decide +kernel) rfl rfl (by decide) rfl ?_
      refine e_goto (t := 67) (show pAt 84 94 = some (94, .goto (-27), 3, []) from by decide +kernel) rfl ?_
      exact vc
    · replace vc := vc.2 c11
      refine e_iinc (c := 1) (show pAt 84 88 = some (88, .iinc 4 1, 3, []) from by decide +kernel) rfl rfl (by decide) rfl ?_
      refine e_iinc (c := 1) (show pAt 84 91 = some (91, .iinc 5 1, 3, []) from by decide +kernel) rfl rfl (by decide) rfl ?_
      refine e_goto (t := 67) (show pAt 84 94 = some (94, .goto (-27), 3, []) from by decide +kernel) rfl ?_
      exact vc

theorem w_cmea0 {X : Scr} {dp : Nat} {h : Hp} {Q : Option Value → Hp → Prop} (n : Int32) (a : Int32) (hs : HS h)
    (vc : ((condB .lt n 1 = true → Q (some (.long (-9223372036854775808))) h) ∧ (condB .lt n 1 = false → ((condB .gt n 30 = true → Q (some (.long (-9223372036854775808))) h) ∧ (condB .gt n 30 = false → ((condB .lt a 0 = true → Q (some (.long (-9223372036854775808))) h) ∧ (condB .lt a 0 = false → ((condB .le a 1 = true → Ends X dp 100 0 [.ref 0, .retAddr 0] [] h (fun rv h5 => rv = none ∧ HS h5 ∧ Ends X (dp + 1) 85 33 [.ref 0, .int n, .int a, .int 0, .int 0] [] h5 Q)) ∧ (condB .le a 1 = false → Q (some (.long (-9223372036854775808))) h))))))))) :
    Ends X (dp + 1) 85 0 [.ref 0, .int n, .int a, .retAddr 0, .retAddr 0] [] h Q := by
  have ra : ∀ {a : Nat}, a < 1000 → a ≤ OLDB := fun h => by have := OLDB_eq; omega
  refine e_iload_n (show pAt 85 0 = some (0, .iload_n 1, 1, []) from by decide +kernel) rfl ?_
  refine e_iconst (c := 1) (show pAt 85 1 = some (1, .iconst 1, 1, []) from by decide +kernel) (by decide) ?_
  refine e_icmp (t := 20) (show pAt 85 2 = some (2, .if_icmp .lt 18, 3, []) from by decide +kernel) rfl (fun c1 => ?_) (fun c1 => ?_)
  · replace vc := vc.1 c1
    refine e_ldc2 (c := (-9223372036854775808)) (show pAt 85 20 = some (20, .ldc2_w 182, 3, [9223372036854775808, 4014]) from by decide +kernel) (by decide) ?_
    exact e_retL (show pAt 85 23 = some (23, .lreturn, 1, []) from by decide +kernel) rfl vc
  · replace vc := vc.2 c1
    refine e_iload_n (show pAt 85 5 = some (5, .iload_n 1, 1, []) from by decide +kernel) rfl ?_
    refine e_bipush (c := 30) (show pAt 85 6 = some (6, .bipush 30, 2, []) from by decide +kernel) (by decide) ?_
    refine e_icmp (t := 20) (show pAt 85 8 = some (8, .if_icmp .gt 12, 3, []) from by decide +kernel) rfl (fun c2 => ?_) (fun c2 => ?_)
    · replace vc := vc.1 c2
      refine e_ldc2 (c := (-9223372036854775808)) (show pAt 85 20 = some (20, .ldc2_w 182, 3, [9223372036854775808, 4014]) from by decide +kernel) (by decide) ?_
      exact e_retL (show pAt 85 23 = some (23, .lreturn, 1, []) from by decide +kernel) rfl vc
    · replace vc := vc.2 c2
      refine e_iload_n (show pAt 85 11 = some (11, .iload_n 2, 1, []) from by decide +kernel) rfl ?_
      refine e_if (t := 20) (show pAt 85 12 = some (12, .ifCond .lt 8, 3, []) from by decide +kernel) rfl (fun c3 => ?_) (fun c3 => ?_)
      · replace vc := vc.1 c3
        refine e_ldc2 (c := (-9223372036854775808)) (show pAt 85 20 = some (20, .ldc2_w 182, 3, [9223372036854775808, 4014]) from by decide +kernel) (by decide) ?_
        exact e_retL (show pAt 85 23 = some (23, .lreturn, 1, []) from by decide +kernel) rfl vc
      · replace vc := vc.2 c3
        refine e_iload_n (show pAt 85 15 = some (15, .iload_n 2, 1, []) from by decide +kernel) rfl ?_
        refine e_iconst (c := 1) (show pAt 85 16 = some (16, .iconst 1, 1, []) from by decide +kernel) (by decide) ?_
        refine e_icmp (t := 24) (show pAt 85 17 = some (17, .if_icmp .le 7, 3, []) from by decide +kernel) rfl (fun c4 => ?_) (fun c4 => ?_)
        · replace vc := vc.1 c4
          refine e_aload_n (show pAt 85 24 = some (24, .aload_n 0, 1, []) from by decide +kernel) rfl (ra (by decide)) ?_
          refine Ends.call (show pAt 85 25 = some (25, .invokevirtual 127, 3, [100, 1, 0, 0, 2086, 2088, 4]) from by decide +kernel) (isRet_none rfl) rfl (call_this (show HS h from hs) rfl rfl (by decide)) (Ends.mono vc ?_)
          rintro _ h5 ⟨rfl, hs_h5, vc⟩
          refine e_iconst (c := 0) (show pAt 85 28 = some (28, .iconst 0, 1, []) from by decide +kernel) (by decide) ?_
          refine e_istore_n (show pAt 85 29 = some (29, .istore_n 3, 1, []) from by decide +kernel) ⟨Nat.le_of_ble_eq_true rfl, rfl⟩ rfl ?_
          refine e_iconst (c := 0) (show pAt 85 30 = some (30, .iconst 0, 1, []) from by decide +kernel) (by decide) ?_
          refine e_istore (show pAt 85 31 = some (31, .istore 4, 2, []) from by decide +kernel) ⟨Nat.le_of_ble_eq_true rfl, rfl⟩ rfl ?_
          exact vc
        · replace vc := vc.2 c4
          refine e_ldc2 (c := (-9223372036854775808)) (show pAt 85 20 = some (20, .ldc2_w 182, 3, [9223372036854775808, 4014]) from by decide +kernel) (by decide) ?_
          exact e_retL (show pAt 85 23 = some (23, .lreturn, 1, []) from by decide +kernel) rfl vc

theorem w_cmea1 {X : Scr} {dp : Nat} {h : Hp} {Q : Option Value → Hp → Prop} (n : Int32) (a : Int32) (t : Int32) (i : Int32) (hs : HS h)
    (vc : ((condB .ge i n = true → Ends X dp 107 0 [.int t, .int n, .int a, .retAddr 0, .retAddr 0, .retAddr 0, .retAddr 0] [] h (fun rv h2 => ∃ r3, rv = some (.long r3) ∧ HS h2 ∧ Q (some (.long r3)) h2)) ∧ (condB .ge i n = false → Ends X dp 9 0 [.ref 17, .retAddr 0] [] h (fun rv h5 => ∃ r6, rv = some (.int r6) ∧ HS h5 ∧ Ends X dp 29 0 [.ref 18] [] h5 (fun rv h8 => ∃ r9, rv = some (.int r9) ∧ HS h8 ∧ Ends X dp 204 0 [.int r9] [] h8 (fun rv h11 => ∃ r12, rv = some (.int r12) ∧ HS h11 ∧ Ends X (dp + 1) 85 33 [.ref 0, .int n, .int a, .int (t + r12), .int (i + 1)] [] h11 Q)))))) :
    Ends X (dp + 1) 85 33 [.ref 0, .int n, .int a, .int t, .int i] [] h Q := by
  have ra : ∀ {a : Nat}, a < 1000 → a ≤ OLDB := fun h => by have := OLDB_eq; omega
  refine e_iload (show pAt 85 33 = some (33, .iload 4, 2, []) from by decide +kernel) rfl ?_
  refine e_iload_n (show pAt 85 35 = some (35, .iload_n 1, 1, []) from by decide +kernel) rfl ?_
  refine e_icmp (t := 69) (show pAt 85 36 = some (36, .if_icmp .ge 33, 3, []) from by decide +kernel) rfl (fun c1 => ?_) (fun c1 => ?_)
  · replace vc := vc.1 c1
    refine e_iload_n (show pAt 85 69 = some (69, .iload_n 3, 1, []) from by decide +kernel) rfl ?_
    refine e_iload_n (show pAt 85 70 = some (70, .iload_n 1, 1, []) from by decide +kernel) rfl ?_
    refine e_iload_n (show pAt 85 71 = some (71, .iload_n 2, 1, []) from by decide +kernel) rfl ?_
    refine Ends.call (show pAt 85 72 = some (72, .invokestatic 184, 3, [107, 3, 2, 0, 4015, 4016, 0]) from by decide +kernel) (isRet_none rfl) rfl rfl (Ends.mono vc ?_)
    rintro _ h2 ⟨r3, rfl, hs_h2, vc⟩
    exact e_retL (show pAt 85 75 = some (75, .lreturn, 1, []) from by decide +kernel) rfl vc
  · replace vc := vc.2 c1
    refine e_aload_n (show pAt 85 39 = some (39, .aload_n 0, 1, []) from by decide +kernel) rfl (ra (by decide)) ?_
    refine e_gR (show pAt 85 40 = some (40, .getfield 24, 3, [6, 3, 0, 2025]) from by decide +kernel) (show HS h from hs) rfl (by decide) (hs_ref (show HS h from hs) rfl) ?_
    refine Ends.call (show pAt 85 43 = some (43, .invokevirtual 133, 3, [9, 1, 0, 1, 3172, 3174, 42]) from by decide +kernel) (isRet_none rfl) rfl (call_this (show HS h from hs) rfl rfl (by decide)) (Ends.mono vc ?_)
    rintro _ h5 ⟨r6, rfl, hs_h5, vc⟩
    refine e_pop (show pAt 85 46 = some (46, .pop, 1, []) from by decide +kernel) ?_
    refine e_iload_n (show pAt 85 47 = some (47, .iload_n 3, 1, []) from by decide +kernel) rfl ?_
    refine e_aload_n (show pAt 85 48 = some (48, .aload_n 0, 1, []) from by decide +kernel) rfl (ra (by decide)) ?_
    refine e_gR (show pAt 85 49 = some (49, .getfield 24, 3, [6, 3, 0, 2025]) from by decide +kernel) (show HS h5 from hs_h5) rfl (by decide) (hs_ref (show HS h5 from hs_h5) rfl) ?_
    refine e_gR (show pAt 85 52 = some (52, .getfield 142, 3, [1, 0, 1, 1128]) from by decide +kernel) (show HS h5 from hs_h5) rfl (by decide) (hs_ref (show HS h5 from hs_h5) rfl) ?_
    refine Ends.call (show pAt 85 55 = some (55, .invokevirtual 123, 3, [29, 1, 0, 1, 3163, 2107, 8]) from by decide +kernel) (isRet_none rfl) rfl (call_this (show HS h5 from hs_h5) rfl rfl (by decide)) (Ends.mono vc ?_)
    rintro _ h8 ⟨r9, rfl, hs_h8, vc⟩
    refine Ends.call (show pAt 85 58 = some (58, .invokestatic 136, 3, [204, 1, 2, 0, 3177, 2169, 0]) from by decide +kernel) (isRet_none rfl) rfl rfl (Ends.mono vc ?_)
    rintro _ h11 ⟨r12, rfl, hs_h11, vc⟩
    refine e_iadd (show pAt 85 61 = some (61, .iadd, 1, []) from by decide +kernel) ?_
    refine e_istore_n (show pAt 85 62 = some (62, .istore_n 3, 1, []) from by decide +kernel) ⟨Nat.le_of_ble_eq_true rfl, rfl⟩ rfl ?_
    refine e_iinc (c := 1) (show pAt 85 63 = some (63, .iinc 4 1, 3, []) from by decide +kernel) rfl rfl (by decide) rfl ?_
    refine e_goto (t := 33) (show pAt 85 66 = some (66, .goto (-33), 3, []) from by decide +kernel) rfl ?_
    exact vc

theorem w_cjud0 {X : Scr} {dp : Nat} {h : Hp} {Q : Option Value → Hp → Prop} (t : Int32) (i : Int32) (hs : HS h)
    (vc : Ends X dp 35 0 [.ref 53, .int t] [] h (fun rv h1 => ∃ r2, rv = some (.int r2) ∧ HS h1 ∧ ((condB .ne r2 0 = true → (inB t 6 = true ∧ ((condB .eq (h1.2.1 54 t.toNatClampNeg) (-1) = true → Ends X (dp + 1) 88 44 [.ref 0, .int t, .int i, .int 0, .retAddr 0, .retAddr 0, .retAddr 0] [] h1 Q) ∧ (condB .eq (h1.2.1 54 t.toNatClampNeg) (-1) = false → (inB t 6 = true ∧ ((condB .eq (h1.2.1 54 t.toNatClampNeg) 4 = true → Ends X (dp + 1) 88 44 [.ref 0, .int t, .int i, .int 0, .retAddr 0, .retAddr 0, .retAddr 0] [] h1 Q) ∧ (condB .eq (h1.2.1 54 t.toNatClampNeg) 4 = false → Q (some (.int (-12))) h1))))))) ∧ (condB .ne r2 0 = false → Q (some (.int (-1))) h1)))) :
    Ends X (dp + 1) 88 0 [.ref 0, .int t, .int i, .retAddr 0, .retAddr 0, .retAddr 0, .retAddr 0] [] h Q := by
  have ra : ∀ {a : Nat}, a < 1000 → a ≤ OLDB := fun h => by have := OLDB_eq; omega
  refine e_aload_n (show pAt 88 0 = some (0, .aload_n 0, 1, []) from by decide +kernel) rfl (ra (by decide)) ?_
  refine e_gR (show pAt 88 1 = some (1, .getfield 56, 3, [6, 9, 0, 2031]) from by decide +kernel) (show HS h from hs) rfl (by decide) (hs_ref (show HS h from hs) rfl) ?_
  refine e_iload_n (show pAt 88 4 = some (4, .iload_n 1, 1, []) from by decide +kernel) rfl ?_
  refine Ends.call (show pAt 88 5 = some (5, .invokevirtual 194, 3, [35, 2, 0, 1, 4034, 4036, 48]) from by decide +kernel) (isRet_none rfl) rfl (call_this (show HS h from hs) rfl rfl (by decide)) (Ends.mono vc ?_)
  rintro _ h1 ⟨r2, rfl, hs_h1, vc⟩
  refine e_if (t := 13) (show pAt 88 8 = some (8, .ifCond .ne 5, 3, []) from by decide +kernel) rfl (fun c4 => ?_) (fun c4 => ?_)
  · replace vc := vc.1 c4
    refine e_aload_n (show pAt 88 13 = some (13, .aload_n 0, 1, []) from by decide +kernel) rfl (ra (by decide)) ?_
    refine e_gR (show pAt 88 14 = some (14, .getfield 56, 3, [6, 9, 0, 2031]) from by decide +kernel) (show HS h1 from hs_h1) rfl (by decide) (hs_ref (show HS h1 from hs_h1) rfl) ?_
    refine e_gR (show pAt 88 17 = some (17, .getfield 197, 3, [3, 0, 1, 2010]) from by decide +kernel) (show HS h1 from hs_h1) rfl (by decide) (hs_ref (show HS h1 from hs_h1) rfl) ?_
    refine e_iload_n (show pAt 88 20 = some (20, .iload_n 1, 1, []) from by decide +kernel) rfl ?_
    obtain ⟨c5, vc⟩ := vc
    refine e_aldv (v := h1.2.1 54 t.toNatClampNeg) (show pAt 88 21 = some (21, .iaload, 1, []) from by decide +kernel) (show HS h1 from hs_h1) (by decide) c5 rfl ?_
    refine e_iconst (c := (-1)) (show pAt 88 22 = some (22, .iconst (-1), 1, []) from by decide +kernel) (by decide) ?_
    refine e_icmp (t := 42) (show pAt 88 23 = some (23, .if_icmp .eq 19, 3, []) from by decide +kernel) rfl (fun c6 => ?_) (fun c6 => ?_)
    · replace vc := vc.1 c6
      refine e_iconst (c := 0) (show pAt 88 42 = some (42, .iconst 0, 1, []) from by decide +kernel) (by decide) ?_
      refine e_istore_n (show pAt 88 43 = some (43, .istore_n 3, 1, []) from by decide +kernel) ⟨Nat.le_of_ble_eq_true rfl, rfl⟩ rfl ?_
      exact vc
    · replace vc := vc.2 c6
      refine e_aload_n (show pAt 88 26 = some (26, .aload_n 0, 1, []) from by decide +kernel) rfl (ra (by decide)) ?_
      refine e_gR (show pAt 88 27 = some (27, .getfield 56, 3, [6, 9, 0, 2031]) from by decide +kernel) (show HS h1 from hs_h1) rfl (by decide) (hs_ref (show HS h1 from hs_h1) rfl) ?_
      refine e_gR (show pAt 88 30 = some (30, .getfield 197, 3, [3, 0, 1, 2010]) from by decide +kernel) (show HS h1 from hs_h1) rfl (by decide) (hs_ref (show HS h1 from hs_h1) rfl) ?_
      refine e_iload_n (show pAt 88 33 = some (33, .iload_n 1, 1, []) from by decide +kernel) rfl ?_
      obtain ⟨c7, vc⟩ := vc
      refine e_aldv (v := h1.2.1 54 t.toNatClampNeg) (show pAt 88 34 = some (34, .iaload, 1, []) from by decide +kernel) (show HS h1 from hs_h1) (by decide) c7 rfl ?_
      refine e_iconst (c := 4) (show pAt 88 35 = some (35, .iconst 4, 1, []) from by decide +kernel) (by decide) ?_
      refine e_icmp (t := 42) (show pAt 88 36 = some (36, .if_icmp .eq 6, 3, []) from by decide +kernel) rfl (fun c8 => ?_) (fun c8 => ?_)
      · replace vc := vc.1 c8
        refine e_iconst (c := 0) (show pAt 88 42 = some (42, .iconst 0, 1, []) from by decide +kernel) (by decide) ?_
        refine e_istore_n (show pAt 88 43 = some (43, .istore_n 3, 1, []) from by decide +kernel) ⟨Nat.le_of_ble_eq_true rfl, rfl⟩ rfl ?_
        exact vc
      · replace vc := vc.2 c8
        refine e_bipush (c := (-12)) (show pAt 88 39 = some (39, .bipush (-12), 2, []) from by decide +kernel) (by decide) ?_
        exact e_retI (show pAt 88 41 = some (41, .ireturn, 1, []) from by decide +kernel) rfl vc
  · replace vc := vc.2 c4
    refine e_iconst (c := (-1)) (show pAt 88 11 = some (11, .iconst (-1), 1, []) from by decide +kernel) (by decide) ?_
    exact e_retI (show pAt 88 12 = some (12, .ireturn, 1, []) from by decide +kernel) rfl vc

theorem w_cjud1 {X : Scr} {dp : Nat} {h : Hp} {Q : Option Value → Hp → Prop} (t : Int32) (i : Int32) (p : Int32) (x : Value) (y : Value) (z : Value) (hs : HS h)
    (vc : ((condB .ge p (h.2.1 1 0) = true → Q (some (.int (-5))) h) ∧ (condB .ge p (h.2.1 1 0) = false → ((condB .lt i 0 = true → Q (some (.int (100 + p))) h) ∧ (condB .lt i 0 = false → Ends X dp 36 0 [.ref 53, .int t, .long ((i.toInt64) + (p.toInt64)), .retAddr 0] [] h (fun rv h3 => ∃ r4, rv = some (.int r4) ∧ HS h3 ∧ ((condB .ne r4 0 = true → (∃ b7 : Nat, (inB t 6 = true ∧ (h3.2.2.2 56 t.toNatClampNeg = some b7 ∧ (b7 < 1000 ∧ ((decide (b7 < 1000) && decide (SHl[b7]? = some (.inl (1, 60)))) = true ∧ (inB (((i.toInt64) + (p.toInt64)).toInt32) 60 = true ∧ ((condB .eq (lg_cmp (h3.2.2.1 b7 (((i.toInt64) + (p.toInt64)).toInt32).toNatClampNeg) 0) 0 = true → Ends X dp 27 0 [.ref 1, .int p] [] h3 (fun rv h14 => ∃ r15, rv = some (.int r15) ∧ HS h14 ∧ ((condB .ne 0 r15 = true → Ends X (dp + 1) 88 44 [.ref 0, .int t, .int i, .int (p + 1), .long ((i.toInt64) + (p.toInt64)), .retAddr 0, .int 0] [] h14 Q) ∧ (condB .ne 0 r15 = false → Q (some (.int p)) h14)))) ∧ (condB .eq (lg_cmp (h3.2.2.1 b7 (((i.toInt64) + (p.toInt64)).toInt32).toNatClampNeg) 0) 0 = false → Ends X dp 27 0 [.ref 1, .int p] [] h3 (fun rv h18 => ∃ r19, rv = some (.int r19) ∧ HS h18 ∧ ((condB .ne 1 r19 = true → Ends X (dp + 1) 88 44 [.ref 0, .int t, .int i, .int (p + 1), .long ((i.toInt64) + (p.toInt64)), .retAddr 0, .int 1] [] h18 Q) ∧ (condB .ne 1 r19 = false → Q (some (.int p)) h18)))))))))))) ∧ (condB .ne r4 0 = false → Q (some (.int (100 + p))) h3)))))))) :
    Ends X (dp + 1) 88 44 [.ref 0, .int t, .int i, .int p, x, y, z] [] h Q := by
  have ra : ∀ {a : Nat}, a < 1000 → a ≤ OLDB := fun h => by have := OLDB_eq; omega
  refine e_iload_n (show pAt 88 44 = some (44, .iload_n 3, 1, []) from by decide +kernel) rfl ?_
  refine e_aload_n (show pAt 88 45 = some (45, .aload_n 0, 1, []) from by decide +kernel) rfl (ra (by decide)) ?_
  refine e_gR (show pAt 88 46 = some (46, .getfield 12, 3, [6, 0, 0, 2022]) from by decide +kernel) (show HS h from hs) rfl (by decide) (hs_ref (show HS h from hs) rfl) ?_
  refine e_gIv (v := h.2.1 1 0) (show pAt 88 49 = some (49, .getfield 200, 3, [2, 0, 1, 1033]) from by decide +kernel) (show HS h from hs) rfl (by decide) rfl ?_
  refine e_icmp (t := 130) (show pAt 88 52 = some (52, .if_icmp .ge 78, 3, []) from by decide +kernel) rfl (fun c1 => ?_) (fun c1 => ?_)
  · replace vc := vc.1 c1
    refine e_bipush (c := (-5)) (show pAt 88 130 = some (130, .bipush (-5), 2, []) from by decide +kernel) (by decide) ?_
    exact e_retI (show pAt 88 132 = some (132, .ireturn, 1, []) from by decide +kernel) rfl vc
  · replace vc := vc.2 c1
    refine e_iload_n (show pAt 88 55 = some (55, .iload_n 2, 1, []) from by decide +kernel) rfl ?_
    refine e_i2l (show pAt 88 56 = some (56, .i2l, 1, []) from by decide +kernel) ?_
    refine e_iload_n (show pAt 88 57 = some (57, .iload_n 3, 1, []) from by decide +kernel) rfl ?_
    refine e_i2l (show pAt 88 58 = some (58, .i2l, 1, []) from by decide +kernel) ?_
    refine e_ladd (show pAt 88 59 = some (59, .ladd, 1, []) from by decide +kernel) ?_
    refine e_lstore (show pAt 88 60 = some (60, .lstore 4, 2, []) from by decide +kernel) ⟨Nat.le_of_ble_eq_true rfl, rfl⟩ rfl ?_
    refine e_iload_n (show pAt 88 62 = some (62, .iload_n 2, 1, []) from by decide +kernel) rfl ?_
    refine e_if (t := 79) (show pAt 88 63 = some (63, .ifCond .lt 16, 3, []) from by decide +kernel) rfl (fun c2 => ?_) (fun c2 => ?_)
    · replace vc := vc.1 c2
      refine e_bipush (c := 100) (show pAt 88 79 = some (79, .bipush 100, 2, []) from by decide +kernel) (by decide) ?_
      refine e_iload_n (show pAt 88 81 = some (81, .iload_n 3, 1, []) from by decide +kernel) rfl ?_
      refine e_iadd (show pAt 88 82 = some (82, .iadd, 1, []) from by decide +kernel) ?_
      exact e_retI (show pAt 88 83 = some (83, .ireturn, 1, []) from by decide +kernel) rfl vc
    · replace vc := vc.2 c2
      refine e_aload_n (show pAt 88 66 = some (66, .aload_n 0, 1, []) from by decide +kernel) rfl (ra (by decide)) ?_
      refine e_gR (show pAt 88 67 = some (67, .getfield 56, 3, [6, 9, 0, 2031]) from by decide +kernel) (show HS h from hs) rfl (by decide) (hs_ref (show HS h from hs) rfl) ?_
      refine e_iload_n (show pAt 88 70 = some (70, .iload_n 1, 1, []) from by decide +kernel) rfl ?_
      refine e_lload (show pAt 88 71 = some (71, .lload 4, 2, []) from by decide +kernel) rfl ?_
      refine Ends.call (show pAt 88 73 = some (73, .invokevirtual 201, 3, [36, 3, 0, 1, 4038, 4040, 49]) from by decide +kernel) (isRet_none rfl) rfl (call_this (show HS h from hs) rfl rfl (by decide)) (Ends.mono vc ?_)
      rintro _ h3 ⟨r4, rfl, hs_h3, vc⟩
      refine e_if (t := 84) (show pAt 88 76 = some (76, .ifCond .ne 8, 3, []) from by decide +kernel) rfl (fun c6 => ?_) (fun c6 => ?_)
      · replace vc := vc.1 c6
        refine e_aload_n (show pAt 88 84 = some (84, .aload_n 0, 1, []) from by decide +kernel) rfl (ra (by decide)) ?_
        refine e_gR (show pAt 88 85 = some (85, .getfield 56, 3, [6, 9, 0, 2031]) from by decide +kernel) (show HS h3 from hs_h3) rfl (by decide) (hs_ref (show HS h3 from hs_h3) rfl) ?_
        refine e_gR (show pAt 88 88 = some (88, .getfield 205, 3, [3, 2, 1, 2013]) from by decide +kernel) (show HS h3 from hs_h3) rfl (by decide) (hs_ref (show HS h3 from hs_h3) rfl) ?_
        refine e_iload_n (show pAt 88 91 = some (91, .iload_n 1, 1, []) from by decide +kernel) rfl ?_
        obtain ⟨b7, c8, c9, c10, vc⟩ := vc
        refine e_aald (t := 4) (show pAt 88 92 = some (92, .aaload, 1, []) from by decide +kernel) (show HS h3 from hs_h3) (by decide) c8 c9 c10 ?_
        refine e_lload (show pAt 88 93 = some (93, .lload 4, 2, []) from by decide +kernel) rfl ?_
        refine e_l2i (show pAt 88 95 = some (95, .l2i, 1, []) from by decide +kernel) ?_
        obtain ⟨c11, c12, vc⟩ := vc
        refine e_lald (show pAt 88 96 = some (96, .laload, 1, []) from by decide +kernel) (show HS h3 from hs_h3) c11 c12 ?_
        refine e_lconst (c := 0) (show pAt 88 97 = some (97, .lconst 0, 1, []) from by decide +kernel) (by decide) ?_
        refine e_lcmp (show pAt 88 98 = some (98, .lcmp, 1, []) from by decide +kernel) ?_
        refine e_if (t := 106) (show pAt 88 99 = some (99, .ifCond .eq 7, 3, []) from by decide +kernel) rfl (fun c13 => ?_) (fun c13 => ?_)
        · replace vc := vc.1 c13
          refine e_iconst (c := 0) (show pAt 88 106 = some (106, .iconst 0, 1, []) from by decide +kernel) (by decide) ?_
          refine e_istore (show pAt 88 107 = some (107, .istore 6, 2, []) from by decide +kernel) ⟨Nat.le_of_ble_eq_true rfl, rfl⟩ rfl ?_
          refine e_iload (show pAt 88 109 = some (109, .iload 6, 2, []) from by decide +kernel) rfl ?_
          refine e_aload_n (show pAt 88 111 = some (111, .aload_n 0, 1, []) from by decide +kernel) rfl (ra (by decide)) ?_
          refine e_gR (show pAt 88 112 = some (112, .getfield 12, 3, [6, 0, 0, 2022]) from by decide +kernel) (show HS h3 from hs_h3) rfl (by decide) (hs_ref (show HS h3 from hs_h3) rfl) ?_
          refine e_iload_n (show pAt 88 115 = some (115, .iload_n 3, 1, []) from by decide +kernel) rfl ?_
          refine Ends.call (show pAt 88 116 = some (116, .invokevirtual 90, 3, [27, 2, 0, 1, 2075, 2077, 2]) from by decide +kernel) (isRet_none rfl) rfl (call_this (show HS h3 from hs_h3) rfl rfl (by decide)) (Ends.mono vc ?_)
          rintro _ h14 ⟨r15, rfl, hs_h14, vc⟩
          refine e_icmp (t := 124) (show pAt 88 119 = some (119, .if_icmp .ne 5, 3, []) from by decide +kernel) rfl (fun c17 => ?_) (fun c17 => ?_)
          · replace vc := vc.1 c17
            refine e_iinc (c := 1) (show pAt 88 124 = some (124, .iinc 3 1, 3, []) from by decide +kernel) rfl rfl (by decide) rfl ?_
            refine e_goto (t := 44) (show pAt 88 127 = some (127, .goto (-83), 3, []) from by decide +kernel) rfl ?_
            exact vc
          · replace vc := vc.2 c17
            refine e_iload_n (show pAt 88 122 = some (122, .iload_n 3, 1, []) from by decide +kernel) rfl ?_
            exact e_retI (show pAt 88 123 = some (123, .ireturn, 1, []) from by decide +kernel) rfl vc
        · replace vc := vc.2 c13
          refine e_iconst (c := 1) (show pAt 88 102 = some (102, .iconst 1, 1, []) from by decide +kernel) (by decide) ?_
          refine e_goto (t := 107) (show pAt 88 103 = some (103, .goto 4, 3, []) from by decide +kernel) rfl ?_
          refine e_istore (show pAt 88 107 = some (107, .istore 6, 2, []) from by decide +kernel) ⟨Nat.le_of_ble_eq_true rfl, rfl⟩ rfl ?_
          refine e_iload (show pAt 88 109 = some (109, .iload 6, 2, []) from by decide +kernel) rfl ?_
          refine e_aload_n (show pAt 88 111 = some (111, .aload_n 0, 1, []) from by decide +kernel) rfl (ra (by decide)) ?_
          refine e_gR (show pAt 88 112 = some (112, .getfield 12, 3, [6, 0, 0, 2022]) from by decide +kernel) (show HS h3 from hs_h3) rfl (by decide) (hs_ref (show HS h3 from hs_h3) rfl) ?_
          refine e_iload_n (show pAt 88 115 = some (115, .iload_n 3, 1, []) from by decide +kernel) rfl ?_
          refine Ends.call (show pAt 88 116 = some (116, .invokevirtual 90, 3, [27, 2, 0, 1, 2075, 2077, 2]) from by decide +kernel) (isRet_none rfl) rfl (call_this (show HS h3 from hs_h3) rfl rfl (by decide)) (Ends.mono vc ?_)
          rintro _ h18 ⟨r19, rfl, hs_h18, vc⟩
          refine e_icmp (t := 124) (show pAt 88 119 = some (119, .if_icmp .ne 5, 3, []) from by decide +kernel) rfl (fun c21 => ?_) (fun c21 => ?_)
          · replace vc := vc.1 c21
            refine e_iinc (c := 1) (show pAt 88 124 = some (124, .iinc 3 1, 3, []) from by decide +kernel) rfl rfl (by decide) rfl ?_
            refine e_goto (t := 44) (show pAt 88 127 = some (127, .goto (-83), 3, []) from by decide +kernel) rfl ?_
            exact vc
          · replace vc := vc.2 c21
            refine e_iload_n (show pAt 88 122 = some (122, .iload_n 3, 1, []) from by decide +kernel) rfl ?_
            exact e_retI (show pAt 88 123 = some (123, .ireturn, 1, []) from by decide +kernel) rfl vc
      · replace vc := vc.2 c6
        refine e_bipush (c := 100) (show pAt 88 79 = some (79, .bipush 100, 2, []) from by decide +kernel) (by decide) ?_
        refine e_iload_n (show pAt 88 81 = some (81, .iload_n 3, 1, []) from by decide +kernel) rfl ?_
        refine e_iadd (show pAt 88 82 = some (82, .iadd, 1, []) from by decide +kernel) ?_
        exact e_retI (show pAt 88 83 = some (83, .ireturn, 1, []) from by decide +kernel) rfl vc

theorem w_cfin0 {X : Scr} {dp : Nat} {h : Hp} {Q : Option Value → Hp → Prop} (b : Int32) (hs : HS h)
    (vc : Ends X dp 105 2 [.int b, .int 0] [] h Q) :
    Ends X dp 105 0 [.int b, .retAddr 0] [] h Q := by
  refine e_iconst (c := 0) (show pAt 105 0 = some (0, .iconst 0, 1, []) from by decide +kernel) (by decide) ?_
  refine e_istore_n (show pAt 105 1 = some (1, .istore_n 1, 1, []) from by decide +kernel) ⟨Nat.le_of_ble_eq_true rfl, rfl⟩ rfl ?_
  exact vc

theorem w_cfin1 {X : Scr} {dp : Nat} {h : Hp} {Q : Option Value → Hp → Prop} (b : Int32) (p : Int32) (hs : HS h)
    (vc : ((condB .ge p 7 = true → Q (some (.int (-5))) h) ∧ (condB .ge p 7 = false → Ends X dp 104 0 [.int b, .int p] [] h (fun rv h2 => ∃ r3, rv = some (.int r3) ∧ HS h2 ∧ ((condB .eq r3 0 = true → Ends X (dp + 1) 105 2 [.int b, .int (p + 1)] [] h2 Q) ∧ (condB .eq r3 0 = false → Q (some (.int p)) h2)))))) :
    Ends X (dp + 1) 105 2 [.int b, .int p] [] h Q := by
  refine e_iload_n (show pAt 105 2 = some (2, .iload_n 1, 1, []) from by decide +kernel) rfl ?_
  refine e_bipush (c := 7) (show pAt 105 3 = some (3, .bipush 7, 2, []) from by decide +kernel) (by decide) ?_
  refine e_icmp (t := 24) (show pAt 105 5 = some (5, .if_icmp .ge 19, 3, []) from by decide +kernel) rfl (fun c1 => ?_) (fun c1 => ?_)
  · replace vc := vc.1 c1
    refine e_bipush (c := (-5)) (show pAt 105 24 = some (24, .bipush (-5), 2, []) from by decide +kernel) (by decide) ?_
    exact e_retI (show pAt 105 26 = some (26, .ireturn, 1, []) from by decide +kernel) rfl vc
  · replace vc := vc.2 c1
    refine e_iload_n (show pAt 105 8 = some (8, .iload_n 0, 1, []) from by decide +kernel) rfl ?_
    refine e_iload_n (show pAt 105 9 = some (9, .iload_n 1, 1, []) from by decide +kernel) rfl ?_
    refine Ends.call (show pAt 105 10 = some (10, .invokestatic 148, 3, [104, 2, 2, 0, 3185, 2080, 0]) from by decide +kernel) (isRet_none rfl) rfl rfl (Ends.mono vc ?_)
    rintro _ h2 ⟨r3, rfl, hs_h2, vc⟩
    refine e_if (t := 18) (show pAt 105 13 = some (13, .ifCond .eq 5, 3, []) from by decide +kernel) rfl (fun c5 => ?_) (fun c5 => ?_)
    · replace vc := vc.1 c5
      refine e_iinc (c := 1) (show pAt 105 18 = some (18, .iinc 1 1, 3, []) from by decide +kernel) rfl rfl (by decide) rfl ?_
      refine e_goto (t := 2) (show pAt 105 21 = some (21, .goto (-19), 3, []) from by decide +kernel) rfl ?_
      exact vc
    · replace vc := vc.2 c5
      refine e_iload_n (show pAt 105 16 = some (16, .iload_n 1, 1, []) from by decide +kernel) rfl ?_
      exact e_retI (show pAt 105 17 = some (17, .ireturn, 1, []) from by decide +kernel) rfl vc

theorem w_clrw0 {X : Scr} {dp : Nat} {h : Hp} {Q : Option Value → Hp → Prop} (n : Int32) (hs : HS h)
    (vc : Ends X dp 106 4 [.int n, .int 1, .int 0] [] h Q) :
    Ends X dp 106 0 [.int n, .retAddr 0, .retAddr 0] [] h Q := by
  refine e_iconst (c := 1) (show pAt 106 0 = some (0, .iconst 1, 1, []) from by decide +kernel) (by decide) ?_
  refine e_istore_n (show pAt 106 1 = some (1, .istore_n 1, 1, []) from by decide +kernel) ⟨Nat.le_of_ble_eq_true rfl, rfl⟩ rfl ?_
  refine e_iconst (c := 0) (show pAt 106 2 = some (2, .iconst 0, 1, []) from by decide +kernel) (by decide) ?_
  refine e_istore_n (show pAt 106 3 = some (3, .istore_n 2, 1, []) from by decide +kernel) ⟨Nat.le_of_ble_eq_true rfl, rfl⟩ rfl ?_
  exact vc

theorem w_clrw1 {X : Scr} {dp : Nat} {h : Hp} {Q : Option Value → Hp → Prop} (n : Int32) (r : Int32) (i : Int32) (hs : HS h)
    (vc : ((condB .ge i n = true → Q (some (.int r)) h) ∧ (condB .ge i n = false → Ends X dp 106 4 [.int n, .int (r * 7), .int (i + 1)] [] h Q))) :
    Ends X dp 106 4 [.int n, .int r, .int i] [] h Q := by
  refine e_iload_n (show pAt 106 4 = some (4, .iload_n 2, 1, []) from by decide +kernel) rfl ?_
  refine e_iload_n (show pAt 106 5 = some (5, .iload_n 0, 1, []) from by decide +kernel) rfl ?_
  refine e_icmp (t := 20) (show pAt 106 6 = some (6, .if_icmp .ge 14, 3, []) from by decide +kernel) rfl (fun c1 => ?_) (fun c1 => ?_)
  · replace vc := vc.1 c1
    refine e_iload_n (show pAt 106 20 = some (20, .iload_n 1, 1, []) from by decide +kernel) rfl ?_
    exact e_retI (show pAt 106 21 = some (21, .ireturn, 1, []) from by decide +kernel) rfl vc
  · replace vc := vc.2 c1
    refine e_iload_n (show pAt 106 9 = some (9, .iload_n 1, 1, []) from by decide +kernel) rfl ?_
    refine e_bipush (c := 7) (show pAt 106 10 = some (10, .bipush 7, 2, []) from by decide +kernel) (by decide) ?_
    refine e_imul (show pAt 106 12 = some (12, .imul, 1, []) from by decide +kernel) ?_
    refine e_istore_n (show pAt 106 13 = some (13, .istore_n 1, 1, []) from by decide +kernel) ⟨Nat.le_of_ble_eq_true rfl, rfl⟩ rfl ?_
    refine e_iinc (c := 1) (show pAt 106 14 = some (14, .iinc 2 1, 3, []) from by decide +kernel) rfl rfl (by decide) rfl ?_
    refine e_goto (t := 4) (show pAt 106 17 = some (17, .goto (-13), 3, []) from by decide +kernel) rfl ?_
    exact vc

theorem w_clow0 {X : Scr} {dp : Nat} {h : Hp} {Q : Option Value → Hp → Prop} (a : Int32) (b : Int32) (p : Int32) (hs : HS h)
    (vc : Ends X dp 107 8 [.int a, .int b, .int p, .int b, .int a, .int 0, .retAddr 0] [] h Q) :
    Ends X dp 107 0 [.int a, .int b, .int p, .retAddr 0, .retAddr 0, .retAddr 0, .retAddr 0] [] h Q := by
  refine e_iload_n (show pAt 107 0 = some (0, .iload_n 1, 1, []) from by decide +kernel) rfl ?_
  refine e_istore_n (show pAt 107 1 = some (1, .istore_n 3, 1, []) from by decide +kernel) ⟨Nat.le_of_ble_eq_true rfl, rfl⟩ rfl ?_
  refine e_iload_n (show pAt 107 2 = some (2, .iload_n 0, 1, []) from by decide +kernel) rfl ?_
  refine e_istore (show pAt 107 3 = some (3, .istore 4, 2, []) from by decide +kernel) ⟨Nat.le_of_ble_eq_true rfl, rfl⟩ rfl ?_
  refine e_iconst (c := 0) (show pAt 107 5 = some (5, .iconst 0, 1, []) from by decide +kernel) (by decide) ?_
  refine e_istore (show pAt 107 6 = some (6, .istore 5, 2, []) from by decide +kernel) ⟨Nat.le_of_ble_eq_true rfl, rfl⟩ rfl ?_
  exact vc

theorem w_clow1 {X : Scr} {dp : Nat} {h : Hp} {Q : Option Value → Hp → Prop} (a : Int32) (b : Int32) (p : Int32) (d : Int32) (r : Int32) (i : Int32) (x : Value) (hs : HS h)
    (vc : ((condB .ge i 64 = true → ((condB .ne d 0 = true → ((condB .ne p 0 = true → (¬ d = 0 ∧ Q (some (.long ((b / d).toInt64))) h)) ∧ (condB .ne p 0 = false → (¬ d = 0 ∧ Q (some (.long ((a / d).toInt64))) h)))) ∧ (condB .ne d 0 = false → Q (some (.long (-9223372036854775808))) h))) ∧ (condB .ge i 64 = false → ((condB .eq r 0 = true → ((condB .ne d 0 = true → ((condB .ne p 0 = true → (¬ d = 0 ∧ Q (some (.long ((b / d).toInt64))) h)) ∧ (condB .ne p 0 = false → (¬ d = 0 ∧ Q (some (.long ((a / d).toInt64))) h)))) ∧ (condB .ne d 0 = false → Q (some (.long (-9223372036854775808))) h))) ∧ (condB .eq r 0 = false → (¬ r = 0 ∧ Ends X dp 107 8 [.int a, .int b, .int p, .int r, .int (d - d / r * r), .int (i + 1), .int (d - d / r * r)] [] h Q)))))) :
    Ends X dp 107 8 [.int a, .int b, .int p, .int d, .int r, .int i, x] [] h Q := by
  refine e_iload (show pAt 107 8 = some (8, .iload 5, 2, []) from by decide +kernel) rfl ?_
  refine e_bipush (c := 64) (show pAt 107 10 = some (10, .bipush 64, 2, []) from by decide +kernel) (by decide) ?_
  refine e_icmp (t := 39) (show pAt 107 12 = some (12, .if_icmp .ge 27, 3, []) from by decide +kernel) rfl (fun c1 => ?_) (fun c1 => ?_)
  · replace vc := vc.1 c1
    refine e_iload_n (show pAt 107 39 = some (39, .iload_n 3, 1, []) from by decide +kernel) rfl ?_
    refine e_if (t := 47) (show pAt 107 40 = some (40, .ifCond .ne 7, 3, []) from by decide +kernel) rfl (fun c2 => ?_) (fun c2 => ?_)
    · replace vc := vc.1 c2
      refine e_iload_n (show pAt 107 47 = some (47, .iload_n 2, 1, []) from by decide +kernel) rfl ?_
      refine e_if (t := 58) (show pAt 107 48 = some (48, .ifCond .ne 10, 3, []) from by decide +kernel) rfl (fun c3 => ?_) (fun c3 => ?_)
      · replace vc := vc.1 c3
        refine e_iload_n (show pAt 107 58 = some (58, .iload_n 1, 1, []) from by decide +kernel) rfl ?_
        refine e_iload_n (show pAt 107 59 = some (59, .iload_n 3, 1, []) from by decide +kernel) rfl ?_
        obtain ⟨c4, vc⟩ := vc
        refine e_idiv (show pAt 107 60 = some (60, .idiv, 1, []) from by decide +kernel) c4 ?_
        refine e_i2l (show pAt 107 61 = some (61, .i2l, 1, []) from by decide +kernel) ?_
        exact e_retL (show pAt 107 62 = some (62, .lreturn, 1, []) from by decide +kernel) rfl vc
      · replace vc := vc.2 c3
        refine e_iload_n (show pAt 107 51 = some (51, .iload_n 0, 1, []) from by decide +kernel) rfl ?_
        refine e_iload_n (show pAt 107 52 = some (52, .iload_n 3, 1, []) from by decide +kernel) rfl ?_
        obtain ⟨c5, vc⟩ := vc
        refine e_idiv (show pAt 107 53 = some (53, .idiv, 1, []) from by decide +kernel) c5 ?_
        refine e_i2l (show pAt 107 54 = some (54, .i2l, 1, []) from by decide +kernel) ?_
        refine e_goto (t := 62) (show pAt 107 55 = some (55, .goto 7, 3, []) from by decide +kernel) rfl ?_
        exact e_retL (show pAt 107 62 = some (62, .lreturn, 1, []) from by decide +kernel) rfl vc
    · replace vc := vc.2 c2
      refine e_ldc2 (c := (-9223372036854775808)) (show pAt 107 43 = some (43, .ldc2_w 182, 3, [9223372036854775808, 4014]) from by decide +kernel) (by decide) ?_
      exact e_retL (show pAt 107 46 = some (46, .lreturn, 1, []) from by decide +kernel) rfl vc
  · replace vc := vc.2 c1
    refine e_iload (show pAt 107 15 = some (15, .iload 4, 2, []) from by decide +kernel) rfl ?_
    refine e_if (t := 39) (show pAt 107 17 = some (17, .ifCond .eq 22, 3, []) from by decide +kernel) rfl (fun c6 => ?_) (fun c6 => ?_)
    · replace vc := vc.1 c6
      refine e_iload_n (show pAt 107 39 = some (39, .iload_n 3, 1, []) from by decide +kernel) rfl ?_
      refine e_if (t := 47) (show pAt 107 40 = some (40, .ifCond .ne 7, 3, []) from by decide +kernel) rfl (fun c7 => ?_) (fun c7 => ?_)
      · replace vc := vc.1 c7
        refine e_iload_n (show pAt 107 47 = some (47, .iload_n 2, 1, []) from by decide +kernel) rfl ?_
        refine e_if (t := 58) (show pAt 107 48 = some (48, .ifCond .ne 10, 3, []) from by decide +kernel) rfl (fun c8 => ?_) (fun c8 => ?_)
        · replace vc := vc.1 c8
          refine e_iload_n (show pAt 107 58 = some (58, .iload_n 1, 1, []) from by decide +kernel) rfl ?_
          refine e_iload_n (show pAt 107 59 = some (59, .iload_n 3, 1, []) from by decide +kernel) rfl ?_
          obtain ⟨c9, vc⟩ := vc
          refine e_idiv (show pAt 107 60 = some (60, .idiv, 1, []) from by decide +kernel) c9 ?_
          refine e_i2l (show pAt 107 61 = some (61, .i2l, 1, []) from by decide +kernel) ?_
          exact e_retL (show pAt 107 62 = some (62, .lreturn, 1, []) from by decide +kernel) rfl vc
        · replace vc := vc.2 c8
          refine e_iload_n (show pAt 107 51 = some (51, .iload_n 0, 1, []) from by decide +kernel) rfl ?_
          refine e_iload_n (show pAt 107 52 = some (52, .iload_n 3, 1, []) from by decide +kernel) rfl ?_
          obtain ⟨c10, vc⟩ := vc
          refine e_idiv (show pAt 107 53 = some (53, .idiv, 1, []) from by decide +kernel) c10 ?_
          refine e_i2l (show pAt 107 54 = some (54, .i2l, 1, []) from by decide +kernel) ?_
          refine e_goto (t := 62) (show pAt 107 55 = some (55, .goto 7, 3, []) from by decide +kernel) rfl ?_
          exact e_retL (show pAt 107 62 = some (62, .lreturn, 1, []) from by decide +kernel) rfl vc
      · replace vc := vc.2 c7
        refine e_ldc2 (c := (-9223372036854775808)) (show pAt 107 43 = some (43, .ldc2_w 182, 3, [9223372036854775808, 4014]) from by decide +kernel) (by decide) ?_
        exact e_retL (show pAt 107 46 = some (46, .lreturn, 1, []) from by decide +kernel) rfl vc
    · replace vc := vc.2 c6
      refine e_iload_n (show pAt 107 20 = some (20, .iload_n 3, 1, []) from by decide +kernel) rfl ?_
      refine e_iload (show pAt 107 21 = some (21, .iload 4, 2, []) from by decide +kernel) rfl ?_
      obtain ⟨c11, vc⟩ := vc
      refine e_irem (show pAt 107 23 = some (23, .irem, 1, []) from by decide +kernel) c11 ?_
      refine e_istore (show pAt 107 24 = some (24, .istore 6, 2, []) from by decide +kernel) ⟨Nat.le_of_ble_eq_true rfl, rfl⟩ rfl ?_
      refine e_iload (show pAt 107 26 = some (26, .iload 4, 2, []) from by decide +kernel) rfl ?_
      refine e_istore_n (show pAt 107 28 = some (28, .istore_n 3, 1, []) from by decide +kernel) ⟨Nat.le_of_ble_eq_true rfl, rfl⟩ rfl ?_
      refine e_iload (show pAt 107 29 = some (29, .iload 6, 2, []) from by decide +kernel) rfl ?_
      refine e_istore (show pAt 107 31 = some (31, .istore 4, 2, []) from by decide +kernel) ⟨Nat.le_of_ble_eq_true rfl, rfl⟩ rfl ?_
      refine e_iinc (c := 1) (show pAt 107 33 = some (33, .iinc 5 1, 3, []) from by decide +kernel) rfl rfl (by decide) rfl ?_
      refine e_goto (t := 8) (show pAt 107 36 = some (36, .goto (-28), 3, []) from by decide +kernel) rfl ?_
      exact vc

theorem w_cspo0 {X : Scr} {dp : Nat} {h : Hp} {Q : Option Value → Hp → Prop} (r : Int32) (hs : HS h)
    (vc : Ends X dp 32 5 [.ref 18, .int r, .int r, .int 6] [] h Q) :
    Ends X dp 32 0 [.ref 18, .int r, .retAddr 0, .retAddr 0] [] h Q := by
  have ra : ∀ {a : Nat}, a < 1000 → a ≤ OLDB := fun h => by have := OLDB_eq; omega
  refine e_iload_n (show pAt 32 0 = some (0, .iload_n 1, 1, []) from by decide +kernel) rfl ?_
  refine e_istore_n (show pAt 32 1 = some (1, .istore_n 2, 1, []) from by decide +kernel) ⟨Nat.le_of_ble_eq_true rfl, rfl⟩ rfl ?_
  refine e_bipush (c := 6) (show pAt 32 2 = some (2, .bipush 6, 2, []) from by decide +kernel) (by decide) ?_
  refine e_istore_n (show pAt 32 4 = some (4, .istore_n 3, 1, []) from by decide +kernel) ⟨Nat.le_of_ble_eq_true rfl, rfl⟩ rfl ?_
  exact vc

theorem w_cspo1 {X : Scr} {dp : Nat} {h : Hp} {Q : Option Value → Hp → Prop} (r : Int32) (l : Int32) (p : Int32) (hs : HS h)
    (vc : ((condB .lt p 0 = true → Q none h) ∧ (condB .lt p 0 = false → Ends X dp 104 0 [.int (h.2.1 18 7), .int p] [] h (fun rv h2 => ∃ r3, rv = some (.int r3) ∧ HS h2 ∧ ((condB .eq r3 0 = true → Ends X (dp + 1) 32 5 [.ref 18, .int r, .int l, .int (p + (-1))] [] h2 Q) ∧ (condB .eq r3 0 = false → Ends X dp 205 0 [.int l, .int 7, .retAddr 0] [] h2 (fun rv h6 => ∃ r7, rv = some (.int r7) ∧ HS h6 ∧ (inB p 7 = true ∧ Ends X (dp + 1) 32 5 [.ref 18, .int r, .int (l / 7), .int (p + (-1))] [] (hpI h6 21 p.toNatClampNeg r7) Q)))))))) :
    Ends X (dp + 1) 32 5 [.ref 18, .int r, .int l, .int p] [] h Q := by
  have ra : ∀ {a : Nat}, a < 1000 → a ≤ OLDB := fun h => by have := OLDB_eq; omega
  refine e_iload_n (show pAt 32 5 = some (5, .iload_n 3, 1, []) from by decide +kernel) rfl ?_
  refine e_if (t := 43) (show pAt 32 6 = some (6, .ifCond .lt 37, 3, []) from by decide +kernel) rfl (fun c1 => ?_) (fun c1 => ?_)
  · replace vc := vc.1 c1
    exact e_retV (show pAt 32 43 = some (43, .return_, 1, []) from by decide +kernel) rfl vc
  · replace vc := vc.2 c1
    refine e_aload_n (show pAt 32 9 = some (9, .aload_n 0, 1, []) from by decide +kernel) rfl (ra (by decide)) ?_
    refine e_gIv (v := h.2.1 18 7) (show pAt 32 10 = some (10, .getfield 40, 3, [2, 7, 0, 1052]) from by decide +kernel) (show HS h from hs) rfl (by decide) rfl ?_
    refine e_iload_n (show pAt 32 13 = some (13, .iload_n 3, 1, []) from by decide +kernel) rfl ?_
    refine Ends.call (show pAt 32 14 = some (14, .invokestatic 43, 3, [104, 2, 2, 1, 2079, 2080, 0]) from by decide +kernel) (isRet_none rfl) rfl rfl (Ends.mono vc ?_)
    rintro _ h2 ⟨r3, rfl, hs_h2, vc⟩
    refine e_if (t := 37) (show pAt 32 17 = some (17, .ifCond .eq 20, 3, []) from by decide +kernel) rfl (fun c5 => ?_) (fun c5 => ?_)
    · replace vc := vc.1 c5
      refine e_iinc (c := (-1)) (show pAt 32 37 = some (37, .iinc 3 (-1), 3, []) from by decide +kernel) rfl rfl (by decide) rfl ?_
      refine e_goto (t := 5) (show pAt 32 40 = some (40, .goto (-35), 3, []) from by decide +kernel) rfl ?_
      exact vc
    · replace vc := vc.2 c5
      refine e_aload_n (show pAt 32 20 = some (20, .aload_n 0, 1, []) from by decide +kernel) rfl (ra (by decide)) ?_
      refine e_gR (show pAt 32 21 = some (21, .getfield 18, 3, [2, 3, 0, 1040]) from by decide +kernel) (show HS h2 from hs_h2) rfl (by decide) (hs_ref (show HS h2 from hs_h2) rfl) ?_
      refine e_iload_n (show pAt 32 24 = some (24, .iload_n 3, 1, []) from by decide +kernel) rfl ?_
      refine e_iload_n (show pAt 32 25 = some (25, .iload_n 2, 1, []) from by decide +kernel) rfl ?_
      refine e_bipush (c := 7) (show pAt 32 26 = some (26, .bipush 7, 2, []) from by decide +kernel) (by decide) ?_
      refine Ends.call (show pAt 32 28 = some (28, .invokestatic 51, 3, [205, 2, 2, 0, 3229, 2124, 0]) from by decide +kernel) (isRet_none rfl) rfl rfl (Ends.mono vc ?_)
      rintro _ h6 ⟨r7, rfl, hs_h6, vc⟩
      obtain ⟨c9, vc⟩ := vc
      refine e_ast (show pAt 32 31 = some (31, .iastore, 1, []) from by decide +kernel) (show HS h6 from hs_h6) (by decide) c9 ?_
      refine e_iload_n (show pAt 32 32 = some (32, .iload_n 2, 1, []) from by decide +kernel) rfl ?_
      refine e_bipush (c := 7) (show pAt 32 33 = some (33, .bipush 7, 2, []) from by decide +kernel) (by decide) ?_
      refine e_idiv (show pAt 32 35 = some (35, .idiv, 1, []) from by decide +kernel) (by decide) ?_
      refine e_istore_n (show pAt 32 36 = some (36, .istore_n 2, 1, []) from by decide +kernel) ⟨Nat.le_of_ble_eq_true rfl, rfl⟩ rfl ?_
      refine e_iinc (c := (-1)) (show pAt 32 37 = some (37, .iinc 3 (-1), 3, []) from by decide +kernel) rfl rfl (by decide) rfl ?_
      refine e_goto (t := 5) (show pAt 32 40 = some (40, .goto (-35), 3, []) from by decide +kernel) rfl ?_
      exact vc
