/-! What is owed for the class's reading of texts. -/
theorem w_slen {X : Scr} {dp : Nat} {h : Hp} {Q : Option Value → Hp → Prop} {s : Nat} (hs5 : s < 5) (hs : HS h)
    (vc : Ends X dp 213 0 [.ref (OLDB + 3 + s)] [] h (fun rv h1 => ∃ r2, rv = some (.int r2) ∧ HS h1 ∧ Q (some (.int ((Int32.ofNat (strL.getD s 0)) >>> (r2 &&& 31)))) h1)) :
    Ends X (dp + 1) 209 0 [.ref (OLDB + 3 + s)] [] h Q := by
  have ra : ∀ {a : Nat}, a < 1000 → a ≤ OLDB := fun h => by have := OLDB_eq; omega
  refine e_aload_nS (show pAt 209 0 = some (0, .aload_n 0, 1, []) from by decide +kernel) rfl (by omega) ?_
  refine e_gS0 (show pAt 209 1 = some (1, .getfield 9, 3, [9, 0, 0, 6219]) from by decide +kernel) hs5 ?_
  refine e_alenS (show pAt 209 4 = some (4, .arraylength, 1, []) from by decide +kernel) hs5 ?_
  refine e_aload_nS (show pAt 209 5 = some (5, .aload_n 0, 1, []) from by decide +kernel) rfl (by omega) ?_
  refine Ends.call (show pAt 209 6 = some (6, .invokevirtual 335, 3, [213, 1, 0, 0, 3024, 3025, 3026]) from by decide +kernel) (isRet_none rfl) rfl (call_str rfl rfl (by decide) hs5) (Ends.mono vc ?_)
  rintro _ h1 ⟨r2, rfl, hs_h1, vc⟩
  refine e_ishr (show pAt 209 9 = some (9, .ishr, 1, []) from by decide +kernel) ?_
  exact e_retI (show pAt 209 10 = some (10, .ireturn, 1, []) from by decide +kernel) rfl vc

theorem w_scod {X : Scr} {dp : Nat} {h : Hp} {Q : Option Value → Hp → Prop} {s : Nat} (hs5 : s < 5) (hs : HS h)
    (vc : narrow .byte (.int 0) = .int 0 ∧ Q (some (.int 0)) h) :
    Ends X dp 213 0 [.ref (OLDB + 3 + s)] [] h Q := by
  have ra : ∀ {a : Nat}, a < 1000 → a ≤ OLDB := fun h => by have := OLDB_eq; omega
  refine e_gs3 (show pAt 213 0 = some (0, .getstatic 38, 3, [2, 0, 3028]) from by decide +kernel) ?_
  refine e_if (t := 13) (show pAt 213 3 = some (3, .ifCond .eq 10, 3, []) from by decide +kernel) rfl (fun c1 => absurd c1 (by decide)) (fun c1 => ?_)
  refine e_aload_nS (show pAt 213 6 = some (6, .aload_n 0, 1, []) from by decide +kernel) rfl (by omega) ?_
  refine e_gS1 (show pAt 213 7 = some (7, .getfield 15, 3, [9, 1, 0, 6220]) from by decide +kernel) hs5 ?_
  refine e_goto (t := 14) (show pAt 213 10 = some (10, .goto 4, 3, []) from by decide +kernel) rfl ?_
  exact e_retN (show pAt 213 14 = some (14, .ireturn, 1, []) from by decide +kernel) rfl rfl vc.1 vc.2

theorem w_slat {X : Scr} {dp : Nat} {h : Hp} {Q : Option Value → Hp → Prop} {s : Nat} (hs5 : s < 5) (hs : HS h)
    (vc : Q (some (.int 1)) h) :
    Ends X dp 214 0 [.ref (OLDB + 3 + s)] [] h Q := by
  have ra : ∀ {a : Nat}, a < 1000 → a ≤ OLDB := fun h => by have := OLDB_eq; omega
  refine e_gs3 (show pAt 214 0 = some (0, .getstatic 38, 3, [2, 0, 3028]) from by decide +kernel) ?_
  refine e_if (t := 17) (show pAt 214 3 = some (3, .ifCond .eq 14, 3, []) from by decide +kernel) rfl (fun c1 => absurd c1 (by decide)) (fun c1 => ?_)
  refine e_aload_nS (show pAt 214 6 = some (6, .aload_n 0, 1, []) from by decide +kernel) rfl (by omega) ?_
  refine e_gS1 (show pAt 214 7 = some (7, .getfield 15, 3, [9, 1, 0, 6220]) from by decide +kernel) hs5 ?_
  refine e_if (t := 17) (show pAt 214 10 = some (10, .ifCond .ne 7, 3, []) from by decide +kernel) rfl (fun c2 => absurd c2 (by decide)) (fun c2 => ?_)
  refine e_iconst (c := 1) (show pAt 214 13 = some (13, .iconst 1, 1, []) from by decide +kernel) (by decide) ?_
  refine e_goto (t := 18) (show pAt 214 14 = some (14, .goto 4, 3, []) from by decide +kernel) rfl ?_
  exact e_retZ (show pAt 214 18 = some (18, .ireturn, 1, []) from by decide +kernel) rfl (by decide) vc

theorem w_pci {X : Scr} {dp : Nat} {h : Hp} {Q : Option Value → Hp → Prop} (i : Int32) (n : Int32) (hs : HS h)
    (vc : ((condB .lt i 0 = true → False) ∧ (condB .lt i 0 = false → ((condB .lt i n = true → Q (some (.int i)) h) ∧ (condB .lt i n = false → False))))) :
    Ends X dp 222 0 [.int i, .int n, .ref (OLDB + 13)] [] h Q := by
  have ra : ∀ {a : Nat}, a < 1000 → a ≤ OLDB := fun h => by have := OLDB_eq; omega
  refine e_iload_n (show pAt 222 0 = some (0, .iload_n 0, 1, []) from by decide +kernel) rfl ?_
  refine e_if (t := 9) (show pAt 222 1 = some (1, .ifCond .lt 8, 3, []) from by decide +kernel) rfl (fun c1 => ?_) (fun c1 => ?_)
  · replace vc := vc.1 c1
    exact vc.elim
  · replace vc := vc.2 c1
    refine e_iload_n (show pAt 222 4 = some (4, .iload_n 0, 1, []) from by decide +kernel) rfl ?_
    refine e_iload_n (show pAt 222 5 = some (5, .iload_n 1, 1, []) from by decide +kernel) rfl ?_
    refine e_icmp (t := 16) (show pAt 222 6 = some (6, .if_icmp .lt 10, 3, []) from by decide +kernel) rfl (fun c2 => ?_) (fun c2 => ?_)
    · replace vc := vc.1 c2
      refine e_iload_n (show pAt 222 16 = some (16, .iload_n 0, 1, []) from by decide +kernel) rfl ?_
      exact e_retI (show pAt 222 17 = some (17, .ireturn, 1, []) from by decide +kernel) rfl vc
    · replace vc := vc.2 c2
      exact vc.elim

theorem w_sci {X : Scr} {dp : Nat} {h : Hp} {Q : Option Value → Hp → Prop} (i : Int32) (n : Int32) (hs : HS h)
    (vc : Ends X dp 222 0 [.int i, .int n, .ref (OLDB + 13)] [] h (fun rv h1 => ∃ r2, rv = some (.int r2) ∧ HS h1 ∧ Q none h1)) :
    Ends X (dp + 1) 215 0 [.int i, .int n] [] h Q := by
  refine e_iload_n (show pAt 215 0 = some (0, .iload_n 0, 1, []) from by decide +kernel) rfl ?_
  refine e_iload_n (show pAt 215 1 = some (1, .iload_n 1, 1, []) from by decide +kernel) rfl ?_
  refine e_gs4 (show pAt 215 2 = some (2, .getstatic 1053, 3, [3, 0, 3044]) from by decide +kernel) ?_
  refine Ends.call (show pAt 215 5 = some (5, .invokestatic 1059, 3, [222, 3, 2, 0, 3046, 3047, 0]) from by decide +kernel) (isRet_none rfl) rfl rfl (Ends.mono vc ?_)
  rintro _ h1 ⟨r2, rfl, hs_h1, vc⟩
  refine e_pop (show pAt 215 8 = some (8, .pop, 1, []) from by decide +kernel) ?_
  exact e_retV (show pAt 215 9 = some (9, .return_, 1, []) from by decide +kernel) rfl vc

theorem w_lch {X : Scr} {dp : Nat} {h : Hp} {Q : Option Value → Hp → Prop} {s : Nat} (hs5 : s < 5) (i : Int32) (hs : HS h)
    (vc : Ends X dp 215 0 [.int i, .int (Int32.ofNat (strL.getD s 0))] [] h (fun rv h1 => rv = none ∧ HS h1 ∧ (inB i (strL.getD s 0) = true ∧ narrow .char (.int (((((strB.getD s []).getD i.toNatClampNeg 0) &&& 255).toUInt32 % 65536).toInt32)) = .int (((((strB.getD s []).getD i.toNatClampNeg 0) &&& 255).toUInt32 % 65536).toInt32) ∧ Q (some (.int (((((strB.getD s []).getD i.toNatClampNeg 0) &&& 255).toUInt32 % 65536).toInt32))) h1))) :
    Ends X (dp + 1) 216 0 [.ref (OLDB + 8 + s), .int i] [] h Q := by
  have ra : ∀ {a : Nat}, a < 1000 → a ≤ OLDB := fun h => by have := OLDB_eq; omega
  refine e_iload_n (show pAt 216 0 = some (0, .iload_n 1, 1, []) from by decide +kernel) rfl ?_
  refine e_aload_nS (show pAt 216 1 = some (1, .aload_n 0, 1, []) from by decide +kernel) rfl (by omega) ?_
  refine e_alenS (show pAt 216 2 = some (2, .arraylength, 1, []) from by decide +kernel) hs5 ?_
  refine Ends.call (show pAt 216 3 = some (3, .invokestatic 9, 3, [215, 2, 2, 0, 3041, 3042, 0]) from by decide +kernel) (isRet_none rfl) rfl rfl (Ends.mono vc ?_)
  rintro _ h1 ⟨rfl, hs_h1, vc⟩
  refine e_aload_nS (show pAt 216 6 = some (6, .aload_n 0, 1, []) from by decide +kernel) rfl (by omega) ?_
  refine e_iload_n (show pAt 216 7 = some (7, .iload_n 1, 1, []) from by decide +kernel) rfl ?_
  obtain ⟨c4, vc⟩ := vc
  refine e_baldS (show pAt 216 8 = some (8, .baload, 1, []) from by decide +kernel) hs5 c4 ?_
  refine e_sipush (c := 255) (show pAt 216 9 = some (9, .sipush 255, 3, []) from by decide +kernel) (by decide) ?_
  refine e_iand (show pAt 216 12 = some (12, .iand, 1, []) from by decide +kernel) ?_
  refine e_i2c (show pAt 216 13 = some (13, .i2c, 1, []) from by decide +kernel) ?_
  exact e_retN (show pAt 216 14 = some (14, .ireturn, 1, []) from by decide +kernel) rfl rfl vc.1 vc.2

theorem w_sch {X : Scr} {dp : Nat} {h : Hp} {Q : Option Value → Hp → Prop} {s : Nat} (hs5 : s < 5) (i : Int32) (hs : HS h)
    (vc : Ends X dp 214 0 [.ref (OLDB + 3 + s)] [] h (fun rv h1 => ∃ r2, rv = some (.int r2) ∧ HS h1 ∧ ((condB .eq r2 0 = true → False) ∧ (condB .eq r2 0 = false → Ends X dp 216 0 [.ref (OLDB + 8 + s), .int i] [] h1 (fun rv h5 => ∃ r6, rv = some (.int r6) ∧ HS h5 ∧ narrow .char (.int r6) = .int r6 ∧ Q (some (.int r6)) h5))))) :
    Ends X (dp + 1) 210 0 [.ref (OLDB + 3 + s), .int i] [] h Q := by
  have ra : ∀ {a : Nat}, a < 1000 → a ≤ OLDB := fun h => by have := OLDB_eq; omega
  refine e_aload_nS (show pAt 210 0 = some (0, .aload_n 0, 1, []) from by decide +kernel) rfl (by omega) ?_
  refine Ends.call (show pAt 210 1 = some (1, .invokevirtual 492, 3, [214, 1, 0, 0, 3034, 3035, 3036]) from by decide +kernel) (isRet_none rfl) rfl (call_str rfl rfl (by decide) hs5) (Ends.mono vc ?_)
  rintro _ h1 ⟨r2, rfl, hs_h1, vc⟩
  refine e_if (t := 16) (show pAt 210 4 = some (4, .ifCond .eq 12, 3, []) from by decide +kernel) rfl (fun c4 => ?_) (fun c4 => ?_)
  · replace vc := vc.1 c4
    refine e_aload_nS (show pAt 210 16 = some (16, .aload_n 0, 1, []) from by decide +kernel) rfl (by omega) ?_
    refine e_gS0 (show pAt 210 17 = some (17, .getfield 9, 3, [9, 0, 0, 6219]) from by decide +kernel) hs5 ?_
    refine e_iload_n (show pAt 210 20 = some (20, .iload_n 1, 1, []) from by decide +kernel) rfl ?_
    exact vc.elim
  · replace vc := vc.2 c4
    refine e_aload_nS (show pAt 210 7 = some (7, .aload_n 0, 1, []) from by decide +kernel) rfl (by omega) ?_
    refine e_gS0 (show pAt 210 8 = some (8, .getfield 9, 3, [9, 0, 0, 6219]) from by decide +kernel) hs5 ?_
    refine e_iload_n (show pAt 210 11 = some (11, .iload_n 1, 1, []) from by decide +kernel) rfl ?_
    refine Ends.call (show pAt 210 12 = some (12, .invokestatic 495, 3, [216, 2, 2, 0, 3038, 3039, 0]) from by decide +kernel) (isRet_none rfl) rfl rfl (Ends.mono vc ?_)
    rintro _ h5 ⟨r6, rfl, hs_h5, vc⟩
    exact e_retN (show pAt 210 15 = some (15, .ireturn, 1, []) from by decide +kernel) rfl rfl vc.1 vc.2

theorem w_can {X : Scr} {dp : Nat} {h : Hp} {Q : Option Value → Hp → Prop} (c : Int32) (hs : HS h)
    (vc : ((condB .lt c 0 = true → Q (some (.int 0)) h) ∧ (condB .lt c 0 = false → ((condB .gt c 255 = true → Q (some (.int 0)) h) ∧ (condB .gt c 255 = false → Q (some (.int 1)) h))))) :
    Ends X dp 217 0 [.int c] [] h Q := by
  refine e_iload_n (show pAt 217 0 = some (0, .iload_n 0, 1, []) from by decide +kernel) rfl ?_
  refine e_if (t := 15) (show pAt 217 1 = some (1, .ifCond .lt 14, 3, []) from by decide +kernel) rfl (fun c1 => ?_) (fun c1 => ?_)
  · replace vc := vc.1 c1
    refine e_iconst (c := 0) (show pAt 217 15 = some (15, .iconst 0, 1, []) from by decide +kernel) (by decide) ?_
    exact e_retZ (show pAt 217 16 = some (16, .ireturn, 1, []) from by decide +kernel) rfl (by decide) vc
  · replace vc := vc.2 c1
    refine e_iload_n (show pAt 217 4 = some (4, .iload_n 0, 1, []) from by decide +kernel) rfl ?_
    refine e_sipush (c := 255) (show pAt 217 5 = some (5, .sipush 255, 3, []) from by decide +kernel) (by decide) ?_
    refine e_icmp (t := 15) (show pAt 217 8 = some (8, .if_icmp .gt 7, 3, []) from by decide +kernel) rfl (fun c2 => ?_) (fun c2 => ?_)
    · replace vc := vc.1 c2
      refine e_iconst (c := 0) (show pAt 217 15 = some (15, .iconst 0, 1, []) from by decide +kernel) (by decide) ?_
      exact e_retZ (show pAt 217 16 = some (16, .ireturn, 1, []) from by decide +kernel) rfl (by decide) vc
    · replace vc := vc.2 c2
      refine e_iconst (c := 1) (show pAt 217 11 = some (11, .iconst 1, 1, []) from by decide +kernel) (by decide) ?_
      refine e_goto (t := 16) (show pAt 217 12 = some (12, .goto 4, 3, []) from by decide +kernel) rfl ?_
      exact e_retZ (show pAt 217 16 = some (16, .ireturn, 1, []) from by decide +kernel) rfl (by decide) vc

theorem w_max {X : Scr} {dp : Nat} {h : Hp} {Q : Option Value → Hp → Prop} (a : Int32) (b : Int32) (hs : HS h)
    (vc : ((condB .lt a b = true → Q (some (.int b)) h) ∧ (condB .lt a b = false → Q (some (.int a)) h))) :
    Ends X dp 207 0 [.int a, .int b] [] h Q := by
  refine e_iload_n (show pAt 207 0 = some (0, .iload_n 0, 1, []) from by decide +kernel) rfl ?_
  refine e_iload_n (show pAt 207 1 = some (1, .iload_n 1, 1, []) from by decide +kernel) rfl ?_
  refine e_icmp (t := 9) (show pAt 207 2 = some (2, .if_icmp .lt 7, 3, []) from by decide +kernel) rfl (fun c1 => ?_) (fun c1 => ?_)
  · replace vc := vc.1 c1
    refine e_iload_n (show pAt 207 9 = some (9, .iload_n 1, 1, []) from by decide +kernel) rfl ?_
    exact e_retI (show pAt 207 10 = some (10, .ireturn, 1, []) from by decide +kernel) rfl vc
  · replace vc := vc.2 c1
    refine e_iload_n (show pAt 207 5 = some (5, .iload_n 0, 1, []) from by decide +kernel) rfl ?_
    refine e_goto (t := 10) (show pAt 207 6 = some (6, .goto 4, 3, []) from by decide +kernel) rfl ?_
    exact e_retI (show pAt 207 10 = some (10, .ireturn, 1, []) from by decide +kernel) rfl vc

theorem w_min {X : Scr} {dp : Nat} {h : Hp} {Q : Option Value → Hp → Prop} (a : Int32) (b : Int32) (hs : HS h)
    (vc : ((condB .gt a b = true → Q (some (.int b)) h) ∧ (condB .gt a b = false → Q (some (.int a)) h))) :
    Ends X dp 208 0 [.int a, .int b] [] h Q := by
  refine e_iload_n (show pAt 208 0 = some (0, .iload_n 0, 1, []) from by decide +kernel) rfl ?_
  refine e_iload_n (show pAt 208 1 = some (1, .iload_n 1, 1, []) from by decide +kernel) rfl ?_
  refine e_icmp (t := 9) (show pAt 208 2 = some (2, .if_icmp .gt 7, 3, []) from by decide +kernel) rfl (fun c1 => ?_) (fun c1 => ?_)
  · replace vc := vc.1 c1
    refine e_iload_n (show pAt 208 9 = some (9, .iload_n 1, 1, []) from by decide +kernel) rfl ?_
    exact e_retI (show pAt 208 10 = some (10, .ireturn, 1, []) from by decide +kernel) rfl vc
  · replace vc := vc.2 c1
    refine e_iload_n (show pAt 208 5 = some (5, .iload_n 0, 1, []) from by decide +kernel) rfl ?_
    refine e_goto (t := 10) (show pAt 208 6 = some (6, .goto 4, 3, []) from by decide +kernel) rfl ?_
    exact e_retI (show pAt 208 10 = some (10, .ireturn, 1, []) from by decide +kernel) rfl vc

theorem w_ioc0 {X : Scr} {dp : Nat} {h : Hp} {Q : Option Value → Hp → Prop} {s : Nat} (hs5 : s < 5) (c : Int32) (f : Int32) (t : Int32) (hs : HS h)
    (vc : Ends X dp 219 7 [.ref (OLDB + 8 + s), .int c, .int f, .int t, .int (c.toInt8.toInt32), .int f] [] h Q) :
    Ends X dp 219 0 [.ref (OLDB + 8 + s), .int c, .int f, .int t, .retAddr 0, .retAddr 0] [] h Q := by
  have ra : ∀ {a : Nat}, a < 1000 → a ≤ OLDB := fun h => by have := OLDB_eq; omega
  refine e_iload_n (show pAt 219 0 = some (0, .iload_n 1, 1, []) from by decide +kernel) rfl ?_
  refine e_i2b (show pAt 219 1 = some (1, .i2b, 1, []) from by decide +kernel) ?_
  refine e_istore (show pAt 219 2 = some (2, .istore 4, 2, []) from by decide +kernel) ⟨Nat.le_of_ble_eq_true rfl, rfl⟩ rfl ?_
  refine e_iload_n (show pAt 219 4 = some (4, .iload_n 2, 1, []) from by decide +kernel) rfl ?_
  refine e_istore (show pAt 219 5 = some (5, .istore 5, 2, []) from by decide +kernel) ⟨Nat.le_of_ble_eq_true rfl, rfl⟩ rfl ?_
  exact vc

theorem w_ioc1 {X : Scr} {dp : Nat} {h : Hp} {Q : Option Value → Hp → Prop} {s : Nat} (hs5 : s < 5) (c : Int32) (f : Int32) (t : Int32) (b : Int32) (i : Int32) (hs : HS h)
    (vc : ((condB .ge i t = true → Q (some (.int (-1))) h) ∧ (condB .ge i t = false → (inB i (strL.getD s 0) = true ∧ ((condB .ne ((strB.getD s []).getD i.toNatClampNeg 0) b = true → Ends X dp 219 7 [.ref (OLDB + 8 + s), .int c, .int f, .int t, .int b, .int (i + 1)] [] h Q) ∧ (condB .ne ((strB.getD s []).getD i.toNatClampNeg 0) b = false → Q (some (.int i)) h)))))) :
    Ends X dp 219 7 [.ref (OLDB + 8 + s), .int c, .int f, .int t, .int b, .int i] [] h Q := by
  have ra : ∀ {a : Nat}, a < 1000 → a ≤ OLDB := fun h => by have := OLDB_eq; omega
  refine e_iload (show pAt 219 7 = some (7, .iload 5, 2, []) from by decide +kernel) rfl ?_
  refine e_iload_n (show pAt 219 9 = some (9, .iload_n 3, 1, []) from by decide +kernel) rfl ?_
  refine e_icmp (t := 31) (show pAt 219 10 = some (10, .if_icmp .ge 21, 3, []) from by decide +kernel) rfl (fun c1 => ?_) (fun c1 => ?_)
  · replace vc := vc.1 c1
    refine e_iconst (c := (-1)) (show pAt 219 31 = some (31, .iconst (-1), 1, []) from by decide +kernel) (by decide) ?_
    exact e_retI (show pAt 219 32 = some (32, .ireturn, 1, []) from by decide +kernel) rfl vc
  · replace vc := vc.2 c1
    refine e_aload_nS (show pAt 219 13 = some (13, .aload_n 0, 1, []) from by decide +kernel) rfl (by omega) ?_
    refine e_iload (show pAt 219 14 = some (14, .iload 5, 2, []) from by decide +kernel) rfl ?_
    obtain ⟨c2, vc⟩ := vc
    refine e_baldS (show pAt 219 16 = some (16, .baload, 1, []) from by decide +kernel) hs5 c2 ?_
    refine e_iload (show pAt 219 17 = some (17, .iload 4, 2, []) from by decide +kernel) rfl ?_
    refine e_icmp (t := 25) (show pAt 219 19 = some (19, .if_icmp .ne 6, 3, []) from by decide +kernel) rfl (fun c3 => ?_) (fun c3 => ?_)
    · replace vc := vc.1 c3
      refine e_iinc (c := 1) (show pAt 219 25 = some (25, .iinc 5 1, 3, []) from by decide +kernel) rfl rfl (by decide) rfl ?_
      refine e_goto (t := 7) (show pAt 219 28 = some (28, .goto (-21), 3, []) from by decide +kernel) rfl ?_
      exact vc
    · replace vc := vc.2 c3
      refine e_iload (show pAt 219 22 = some (22, .iload 5, 2, []) from by decide +kernel) rfl ?_
      exact e_retI (show pAt 219 24 = some (24, .ireturn, 1, []) from by decide +kernel) rfl vc

theorem w_lio {X : Scr} {dp : Nat} {h : Hp} {Q : Option Value → Hp → Prop} {s : Nat} (hs5 : s < 5) (c : Int32) (f : Int32) (t : Int32) (hs : HS h)
    (vc : Ends X dp 217 0 [.int c] [] h (fun rv h1 => ∃ r2, rv = some (.int r2) ∧ HS h1 ∧ ((condB .ne r2 0 = true → Ends X dp 207 0 [.int f, .int 0] [] h1 (fun rv h5 => ∃ r6, rv = some (.int r6) ∧ HS h5 ∧ Ends X dp 208 0 [.int t, .int (Int32.ofNat (strL.getD s 0))] [] h5 (fun rv h8 => ∃ r9, rv = some (.int r9) ∧ HS h8 ∧ ((condB .lt r6 r9 = true → Ends X dp 219 0 [.ref (OLDB + 8 + s), .int c, .int r6, .int r9, .retAddr 0, .retAddr 0] [] h8 (fun rv h12 => ∃ r13, rv = some (.int r13) ∧ HS h12 ∧ Q (some (.int r13)) h12)) ∧ (condB .lt r6 r9 = false → Q (some (.int (-1))) h8))))) ∧ (condB .ne r2 0 = false → Q (some (.int (-1))) h1)))) :
    Ends X (dp + 1) 218 0 [.ref (OLDB + 8 + s), .int c, .int f, .int t] [] h Q := by
  have ra : ∀ {a : Nat}, a < 1000 → a ≤ OLDB := fun h => by have := OLDB_eq; omega
  refine e_iload_n (show pAt 218 0 = some (0, .iload_n 1, 1, []) from by decide +kernel) rfl ?_
  refine Ends.call (show pAt 218 1 = some (1, .invokestatic 88, 3, [217, 1, 2, 0, 3107, 3108, 0]) from by decide +kernel) (isRet_none rfl) rfl rfl (Ends.mono vc ?_)
  rintro _ h1 ⟨r2, rfl, hs_h1, vc⟩
  refine e_if (t := 9) (show pAt 218 4 = some (4, .ifCond .ne 5, 3, []) from by decide +kernel) rfl (fun c4 => ?_) (fun c4 => ?_)
  · replace vc := vc.1 c4
    refine e_iload_n (show pAt 218 9 = some (9, .iload_n 2, 1, []) from by decide +kernel) rfl ?_
    refine e_iconst (c := 0) (show pAt 218 10 = some (10, .iconst 0, 1, []) from by decide +kernel) (by decide) ?_
    refine Ends.call (show pAt 218 11 = some (11, .invokestatic 92, 3, [207, 2, 2, 0, 3110, 2139, 0]) from by decide +kernel) (isRet_none rfl) rfl rfl (Ends.mono vc ?_)
    rintro _ h5 ⟨r6, rfl, hs_h5, vc⟩
    refine e_istore_n (show pAt 218 14 = some (14, .istore_n 2, 1, []) from by decide +kernel) ⟨Nat.le_of_ble_eq_true rfl, rfl⟩ rfl ?_
    refine e_iload_n (show pAt 218 15 = some (15, .iload_n 3, 1, []) from by decide +kernel) rfl ?_
    refine e_aload_nS (show pAt 218 16 = some (16, .aload_n 0, 1, []) from by decide +kernel) rfl (by omega) ?_
    refine e_alenS (show pAt 218 17 = some (17, .arraylength, 1, []) from by decide +kernel) hs5 ?_
    refine Ends.call (show pAt 218 18 = some (18, .invokestatic 38, 3, [208, 2, 2, 0, 3111, 2188, 0]) from by decide +kernel) (isRet_none rfl) rfl rfl (Ends.mono vc ?_)
    rintro _ h8 ⟨r9, rfl, hs_h8, vc⟩
    refine e_istore_n (show pAt 218 21 = some (21, .istore_n 3, 1, []) from by decide +kernel) ⟨Nat.le_of_ble_eq_true rfl, rfl⟩ rfl ?_
    refine e_iload_n (show pAt 218 22 = some (22, .iload_n 2, 1, []) from by decide +kernel) rfl ?_
    refine e_iload_n (show pAt 218 23 = some (23, .iload_n 3, 1, []) from by decide +kernel) rfl ?_
    refine e_icmp (t := 29) (show pAt 218 24 = some (24, .if_icmp .lt 5, 3, []) from by decide +kernel) rfl (fun c11 => ?_) (fun c11 => ?_)
    · replace vc := vc.1 c11
      refine e_aload_nS (show pAt 218 29 = some (29, .aload_n 0, 1, []) from by decide +kernel) rfl (by omega) ?_
      refine e_iload_n (show pAt 218 30 = some (30, .iload_n 1, 1, []) from by decide +kernel) rfl ?_
      refine e_iload_n (show pAt 218 31 = some (31, .iload_n 2, 1, []) from by decide +kernel) rfl ?_
      refine e_iload_n (show pAt 218 32 = some (32, .iload_n 3, 1, []) from by decide +kernel) rfl ?_
      refine Ends.call (show pAt 218 33 = some (33, .invokestatic 95, 3, [219, 4, 2, 0, 3112, 3113, 0]) from by decide +kernel) (isRet_none rfl) rfl rfl (Ends.mono vc ?_)
      rintro _ h12 ⟨r13, rfl, hs_h12, vc⟩
      exact e_retI (show pAt 218 36 = some (36, .ireturn, 1, []) from by decide +kernel) rfl vc
    · replace vc := vc.2 c11
      refine e_iconst (c := (-1)) (show pAt 218 27 = some (27, .iconst (-1), 1, []) from by decide +kernel) (by decide) ?_
      exact e_retI (show pAt 218 28 = some (28, .ireturn, 1, []) from by decide +kernel) rfl vc
  · replace vc := vc.2 c4
    refine e_iconst (c := (-1)) (show pAt 218 7 = some (7, .iconst (-1), 1, []) from by decide +kernel) (by decide) ?_
    exact e_retI (show pAt 218 8 = some (8, .ireturn, 1, []) from by decide +kernel) rfl vc

theorem w_sio {X : Scr} {dp : Nat} {h : Hp} {Q : Option Value → Hp → Prop} {s : Nat} (hs5 : s < 5) (c : Int32) (f : Int32) (hs : HS h)
    (vc : Ends X dp 214 0 [.ref (OLDB + 3 + s)] [] h (fun rv h1 => ∃ r2, rv = some (.int r2) ∧ HS h1 ∧ ((condB .eq r2 0 = true → Ends X dp 209 0 [.ref (OLDB + 3 + s)] [] h1 (fun rv h5 => ∃ r6, rv = some (.int r6) ∧ HS h5 ∧ False)) ∧ (condB .eq r2 0 = false → Ends X dp 209 0 [.ref (OLDB + 3 + s)] [] h1 (fun rv h8 => ∃ r9, rv = some (.int r9) ∧ HS h8 ∧ Ends X dp 218 0 [.ref (OLDB + 8 + s), .int c, .int f, .int r9] [] h8 (fun rv h11 => ∃ r12, rv = some (.int r12) ∧ HS h11 ∧ Q (some (.int r12)) h11)))))) :
    Ends X (dp + 1) 212 0 [.ref (OLDB + 3 + s), .int c, .int f] [] h Q := by
  have ra : ∀ {a : Nat}, a < 1000 → a ≤ OLDB := fun h => by have := OLDB_eq; omega
  refine e_aload_nS (show pAt 212 0 = some (0, .aload_n 0, 1, []) from by decide +kernel) rfl (by omega) ?_
  refine Ends.call (show pAt 212 1 = some (1, .invokevirtual 492, 3, [214, 1, 0, 0, 3034, 3035, 3036]) from by decide +kernel) (isRet_none rfl) rfl (call_str rfl rfl (by decide) hs5) (Ends.mono vc ?_)
  rintro _ h1 ⟨r2, rfl, hs_h1, vc⟩
  refine e_if (t := 23) (show pAt 212 4 = some (4, .ifCond .eq 19, 3, []) from by decide +kernel) rfl (fun c4 => ?_) (fun c4 => ?_)
  · replace vc := vc.1 c4
    refine e_aload_nS (show pAt 212 23 = some (23, .aload_n 0, 1, []) from by decide +kernel) rfl (by omega) ?_
    refine e_gS0 (show pAt 212 24 = some (24, .getfield 9, 3, [9, 0, 0, 6219]) from by decide +kernel) hs5 ?_
    refine e_iload_n (show pAt 212 27 = some (27, .iload_n 1, 1, []) from by decide +kernel) rfl ?_
    refine e_iload_n (show pAt 212 28 = some (28, .iload_n 2, 1, []) from by decide +kernel) rfl ?_
    refine e_aload_nS (show pAt 212 29 = some (29, .aload_n 0, 1, []) from by decide +kernel) rfl (by omega) ?_
    refine Ends.call (show pAt 212 30 = some (30, .invokevirtual 505, 3, [209, 1, 0, 0, 3103, 3021, 3022]) from by decide +kernel) (isRet_none rfl) rfl (call_str rfl rfl (by decide) hs5) (Ends.mono vc ?_)
    rintro _ h5 ⟨r6, rfl, hs_h5, vc⟩
    exact vc.elim
  · replace vc := vc.2 c4
    refine e_aload_nS (show pAt 212 7 = some (7, .aload_n 0, 1, []) from by decide +kernel) rfl (by omega) ?_
    refine e_gS0 (show pAt 212 8 = some (8, .getfield 9, 3, [9, 0, 0, 6219]) from by decide +kernel) hs5 ?_
    refine e_iload_n (show pAt 212 11 = some (11, .iload_n 1, 1, []) from by decide +kernel) rfl ?_
    refine e_iload_n (show pAt 212 12 = some (12, .iload_n 2, 1, []) from by decide +kernel) rfl ?_
    refine e_aload_nS (show pAt 212 13 = some (13, .aload_n 0, 1, []) from by decide +kernel) rfl (by omega) ?_
    refine Ends.call (show pAt 212 14 = some (14, .invokevirtual 505, 3, [209, 1, 0, 0, 3103, 3021, 3022]) from by decide +kernel) (isRet_none rfl) rfl (call_str rfl rfl (by decide) hs5) (Ends.mono vc ?_)
    rintro _ h8 ⟨r9, rfl, hs_h8, vc⟩
    refine Ends.call (show pAt 212 17 = some (17, .invokestatic 637, 3, [218, 4, 2, 0, 3104, 3105, 0]) from by decide +kernel) (isRet_none rfl) rfl rfl (Ends.mono vc ?_)
    rintro _ h11 ⟨r12, rfl, hs_h11, vc⟩
    refine e_goto (t := 36) (show pAt 212 20 = some (20, .goto 16, 3, []) from by decide +kernel) rfl ?_
    exact e_retI (show pAt 212 36 = some (36, .ireturn, 1, []) from by decide +kernel) rfl vc

theorem w_six {X : Scr} {dp : Nat} {h : Hp} {Q : Option Value → Hp → Prop} {s : Nat} (hs5 : s < 5) (c : Int32) (hs : HS h)
    (vc : Ends X dp 212 0 [.ref (OLDB + 3 + s), .int c, .int 0] [] h (fun rv h1 => ∃ r2, rv = some (.int r2) ∧ HS h1 ∧ Q (some (.int r2)) h1)) :
    Ends X (dp + 1) 211 0 [.ref (OLDB + 3 + s), .int c] [] h Q := by
  have ra : ∀ {a : Nat}, a < 1000 → a ≤ OLDB := fun h => by have := OLDB_eq; omega
  refine e_aload_nS (show pAt 211 0 = some (0, .aload_n 0, 1, []) from by decide +kernel) rfl (by omega) ?_
  refine e_iload_n (show pAt 211 1 = some (1, .iload_n 1, 1, []) from by decide +kernel) rfl ?_
  refine e_iconst (c := 0) (show pAt 211 2 = some (2, .iconst 0, 1, []) from by decide +kernel) (by decide) ?_
  refine Ends.call (show pAt 211 3 = some (3, .invokevirtual 633, 3, [212, 3, 0, 0, 3099, 3100, 3101]) from by decide +kernel) (isRet_none rfl) rfl (call_str rfl rfl (by decide) hs5) (Ends.mono vc ?_)
  rintro _ h1 ⟨r2, rfl, hs_h1, vc⟩
  exact e_retI (show pAt 211 6 = some (6, .ireturn, 1, []) from by decide +kernel) rfl vc

theorem w_iw {X : Scr} {dp : Nat} {h : Hp} {Q : Option Value → Hp → Prop}  (hs : HS h)
    (vc : ((condB .lt (h.2.1 44 2) 0 = true → Q (some (.int 0)) h) ∧ (condB .lt (h.2.1 44 2) 0 = false → ((condB .ge (h.2.1 44 2) (h.2.1 44 1) = true → Q (some (.int 0)) h) ∧ (condB .ge (h.2.1 44 2) (h.2.1 44 1) = false → ((condB .ge (h.2.1 44 2) 100 = true → Q (some (.int 0)) h) ∧ (condB .ge (h.2.1 44 2) 100 = false → Q (some (.int 1)) h))))))) :
    Ends X dp 49 0 [.ref 44] [] h Q := by
  have ra : ∀ {a : Nat}, a < 1000 → a ≤ OLDB := fun h => by have := OLDB_eq; omega
  refine e_aload_n (show pAt 49 0 = some (0, .aload_n 0, 1, []) from by decide +kernel) rfl (ra (by decide)) ?_
  refine e_gIv (v := h.2.1 44 2) (show pAt 49 1 = some (1, .getfield 29, 3, [4, 2, 0, 1200]) from by decide +kernel) (show HS h from hs) rfl (by decide) rfl ?_
  refine e_if (t := 31) (show pAt 49 4 = some (4, .ifCond .lt 27, 3, []) from by decide +kernel) rfl (fun c1 => ?_) (fun c1 => ?_)
  · replace vc := vc.1 c1
    refine e_iconst (c := 0) (show pAt 49 31 = some (31, .iconst 0, 1, []) from by decide +kernel) (by decide) ?_
    exact e_retZ (show pAt 49 32 = some (32, .ireturn, 1, []) from by decide +kernel) rfl (by decide) vc
  · replace vc := vc.2 c1
    refine e_aload_n (show pAt 49 7 = some (7, .aload_n 0, 1, []) from by decide +kernel) rfl (ra (by decide)) ?_
    refine e_gIv (v := h.2.1 44 2) (show pAt 49 8 = some (8, .getfield 29, 3, [4, 2, 0, 1200]) from by decide +kernel) (show HS h from hs) rfl (by decide) rfl ?_
    refine e_aload_n (show pAt 49 11 = some (11, .aload_n 0, 1, []) from by decide +kernel) rfl (ra (by decide)) ?_
    refine e_gIv (v := h.2.1 44 1) (show pAt 49 12 = some (12, .getfield 22, 3, [4, 1, 0, 1198]) from by decide +kernel) (show HS h from hs) rfl (by decide) rfl ?_
    refine e_icmp (t := 31) (show pAt 49 15 = some (15, .if_icmp .ge 16, 3, []) from by decide +kernel) rfl (fun c2 => ?_) (fun c2 => ?_)
    · replace vc := vc.1 c2
      refine e_iconst (c := 0) (show pAt 49 31 = some (31, .iconst 0, 1, []) from by decide +kernel) (by decide) ?_
      exact e_retZ (show pAt 49 32 = some (32, .ireturn, 1, []) from by decide +kernel) rfl (by decide) vc
    · replace vc := vc.2 c2
      refine e_aload_n (show pAt 49 18 = some (18, .aload_n 0, 1, []) from by decide +kernel) rfl (ra (by decide)) ?_
      refine e_gIv (v := h.2.1 44 2) (show pAt 49 19 = some (19, .getfield 29, 3, [4, 2, 0, 1200]) from by decide +kernel) (show HS h from hs) rfl (by decide) rfl ?_
      refine e_bipush (c := 100) (show pAt 49 22 = some (22, .bipush 100, 2, []) from by decide +kernel) (by decide) ?_
      refine e_icmp (t := 31) (show pAt 49 24 = some (24, .if_icmp .ge 7, 3, []) from by decide +kernel) rfl (fun c3 => ?_) (fun c3 => ?_)
      · replace vc := vc.1 c3
        refine e_iconst (c := 0) (show pAt 49 31 = some (31, .iconst 0, 1, []) from by decide +kernel) (by decide) ?_
        exact e_retZ (show pAt 49 32 = some (32, .ireturn, 1, []) from by decide +kernel) rfl (by decide) vc
      · replace vc := vc.2 c3
        refine e_iconst (c := 1) (show pAt 49 27 = some (27, .iconst 1, 1, []) from by decide +kernel) (by decide) ?_
        refine e_goto (t := 32) (show pAt 49 28 = some (28, .goto 4, 3, []) from by decide +kernel) rfl ?_
        exact e_retZ (show pAt 49 32 = some (32, .ireturn, 1, []) from by decide +kernel) rfl (by decide) vc

theorem w_tki {X : Scr} {dp : Nat} {h : Hp} {Q : Option Value → Hp → Prop} (a : Int32) (hs : HS h)
    (vc : ((condB .lt (h.2.1 44 1) 0 = true → Q (some (.int 0)) h) ∧ (condB .lt (h.2.1 44 1) 0 = false → ((condB .lt (h.2.1 44 1) 100 = true → (inB (h.2.1 44 1) 100 = true ∧ Q (some (.int 1)) (hpI (hpI h 45 (h.2.1 44 1).toNatClampNeg a) 44 1 ((h.2.1 44 1) + 1)))) ∧ (condB .lt (h.2.1 44 1) 100 = false → Q (some (.int 0)) h))))) :
    Ends X dp 41 0 [.ref 44, .int a] [] h Q := by
  have ra : ∀ {a : Nat}, a < 1000 → a ≤ OLDB := fun h => by have := OLDB_eq; omega
  refine e_aload_n (show pAt 41 0 = some (0, .aload_n 0, 1, []) from by decide +kernel) rfl (ra (by decide)) ?_
  refine e_gIv (v := h.2.1 44 1) (show pAt 41 1 = some (1, .getfield 22, 3, [4, 1, 0, 1198]) from by decide +kernel) (show HS h from hs) rfl (by decide) rfl ?_
  refine e_if (t := 16) (show pAt 41 4 = some (4, .ifCond .lt 12, 3, []) from by decide +kernel) rfl (fun c1 => ?_) (fun c1 => ?_)
  · replace vc := vc.1 c1
    refine e_iconst (c := 0) (show pAt 41 16 = some (16, .iconst 0, 1, []) from by decide +kernel) (by decide) ?_
    exact e_retZ (show pAt 41 17 = some (17, .ireturn, 1, []) from by decide +kernel) rfl (by decide) vc
  · replace vc := vc.2 c1
    refine e_aload_n (show pAt 41 7 = some (7, .aload_n 0, 1, []) from by decide +kernel) rfl (ra (by decide)) ?_
    refine e_gIv (v := h.2.1 44 1) (show pAt 41 8 = some (8, .getfield 22, 3, [4, 1, 0, 1198]) from by decide +kernel) (show HS h from hs) rfl (by decide) rfl ?_
    refine e_bipush (c := 100) (show pAt 41 11 = some (11, .bipush 100, 2, []) from by decide +kernel) (by decide) ?_
    refine e_icmp (t := 18) (show pAt 41 13 = some (13, .if_icmp .lt 5, 3, []) from by decide +kernel) rfl (fun c2 => ?_) (fun c2 => ?_)
    · replace vc := vc.1 c2
      refine e_aload_n (show pAt 41 18 = some (18, .aload_n 0, 1, []) from by decide +kernel) rfl (ra (by decide)) ?_
      refine e_gR (show pAt 41 19 = some (19, .getfield 9, 3, [4, 0, 0, 1197]) from by decide +kernel) (show HS h from hs) rfl (by decide) (hs_ref (show HS h from hs) rfl) ?_
      refine e_aload_n (show pAt 41 22 = some (22, .aload_n 0, 1, []) from by decide +kernel) rfl (ra (by decide)) ?_
      refine e_gIv (v := h.2.1 44 1) (show pAt 41 23 = some (23, .getfield 22, 3, [4, 1, 0, 1198]) from by decide +kernel) (show HS h from hs) rfl (by decide) rfl ?_
      refine e_iload_n (show pAt 41 26 = some (26, .iload_n 1, 1, []) from by decide +kernel) rfl ?_
      obtain ⟨c3, vc⟩ := vc
      refine e_ast (show pAt 41 27 = some (27, .iastore, 1, []) from by decide +kernel) (show HS h from hs) (by decide) c3 ?_
      refine e_aload_n (show pAt 41 28 = some (28, .aload_n 0, 1, []) from by decide +kernel) rfl (ra (by decide)) ?_
      refine e_dupR (show pAt 41 29 = some (29, .dup, 1, []) from by decide +kernel) ?_
      refine e_gIv (v := h.2.1 44 1) (show pAt 41 30 = some (30, .getfield 22, 3, [4, 1, 0, 1198]) from by decide +kernel) (show HS (hpI h 45 (h.2.1 44 1).toNatClampNeg a) from hs) rfl (by decide) (by rw [put_ne (by omega)]) ?_
      refine e_iconst (c := 1) (show pAt 41 33 = some (33, .iconst 1, 1, []) from by decide +kernel) (by decide) ?_
      refine e_iadd (show pAt 41 34 = some (34, .iadd, 1, []) from by decide +kernel) ?_
      refine e_pI (show pAt 41 35 = some (35, .putfield 22, 3, [4, 1, 0, 1198]) from by decide +kernel) (show HS (hpI h 45 (h.2.1 44 1).toNatClampNeg a) from hs) (by decide) (Or.inl rfl) ?_
      refine e_iconst (c := 1) (show pAt 41 38 = some (38, .iconst 1, 1, []) from by decide +kernel) (by decide) ?_
      exact e_retZ (show pAt 41 39 = some (39, .ireturn, 1, []) from by decide +kernel) rfl (by decide) vc
    · replace vc := vc.2 c2
      refine e_iconst (c := 0) (show pAt 41 16 = some (16, .iconst 0, 1, []) from by decide +kernel) (by decide) ?_
      exact e_retZ (show pAt 41 17 = some (17, .ireturn, 1, []) from by decide +kernel) rfl (by decide) vc

theorem w_tak {X : Scr} {dp : Nat} {h : Hp} {Q : Option Value → Hp → Prop} (c : Int32) (hs : HS h)
    (vc : Ends X dp 49 0 [.ref 44] [] h (fun rv h1 => ∃ r2, rv = some (.int r2) ∧ HS h1 ∧ ((condB .eq r2 0 = true → Q (some (.int 0)) h1) ∧ (condB .eq r2 0 = false → (inB (h1.2.1 44 2) 100 = true ∧ ((condB .eq (h1.2.1 45 (h1.2.1 44 2).toNatClampNeg) c = true → Q (some (.int 1)) (hpI h1 44 2 ((h1.2.1 44 2) + 1))) ∧ (condB .eq (h1.2.1 45 (h1.2.1 44 2).toNatClampNeg) c = false → Q (some (.int 0)) h1))))))) :
    Ends X (dp + 1) 50 0 [.ref 44, .int c] [] h Q := by
  have ra : ∀ {a : Nat}, a < 1000 → a ≤ OLDB := fun h => by have := OLDB_eq; omega
  refine e_aload_n (show pAt 50 0 = some (0, .aload_n 0, 1, []) from by decide +kernel) rfl (ra (by decide)) ?_
  refine Ends.call (show pAt 50 1 = some (1, .invokevirtual 65, 3, [49, 1, 0, 0, 3011, 3013, 33]) from by decide +kernel) (isRet_none rfl) rfl (call_this (show HS h from hs) rfl rfl (by decide)) (Ends.mono vc ?_)
  rintro _ h1 ⟨r2, rfl, hs_h1, vc⟩
  refine e_if (t := 20) (show pAt 50 4 = some (4, .ifCond .eq 16, 3, []) from by decide +kernel) rfl (fun c4 => ?_) (fun c4 => ?_)
  · replace vc := vc.1 c4
    refine e_iconst (c := 0) (show pAt 50 20 = some (20, .iconst 0, 1, []) from by decide +kernel) (by decide) ?_
    exact e_retZ (show pAt 50 21 = some (21, .ireturn, 1, []) from by decide +kernel) rfl (by decide) vc
  · replace vc := vc.2 c4
    refine e_aload_n (show pAt 50 7 = some (7, .aload_n 0, 1, []) from by decide +kernel) rfl (ra (by decide)) ?_
    refine e_gR (show pAt 50 8 = some (8, .getfield 9, 3, [4, 0, 0, 1197]) from by decide +kernel) (show HS h1 from hs_h1) rfl (by decide) (hs_ref (show HS h1 from hs_h1) rfl) ?_
    refine e_aload_n (show pAt 50 11 = some (11, .aload_n 0, 1, []) from by decide +kernel) rfl (ra (by decide)) ?_
    refine e_gIv (v := h1.2.1 44 2) (show pAt 50 12 = some (12, .getfield 29, 3, [4, 2, 0, 1200]) from by decide +kernel) (show HS h1 from hs_h1) rfl (by decide) rfl ?_
    obtain ⟨c5, vc⟩ := vc
    refine e_aldv (v := h1.2.1 45 (h1.2.1 44 2).toNatClampNeg) (show pAt 50 15 = some (15, .iaload, 1, []) from by decide +kernel) (show HS h1 from hs_h1) (by decide) c5 rfl ?_
    refine e_iload_n (show pAt 50 16 = some (16, .iload_n 1, 1, []) from by decide +kernel) rfl ?_
    refine e_icmp (t := 22) (show pAt 50 17 = some (17, .if_icmp .eq 5, 3, []) from by decide +kernel) rfl (fun c6 => ?_) (fun c6 => ?_)
    · replace vc := vc.1 c6
      refine e_aload_n (show pAt 50 22 = some (22, .aload_n 0, 1, []) from by decide +kernel) rfl (ra (by decide)) ?_
      refine e_dupR (show pAt 50 23 = some (23, .dup, 1, []) from by decide +kernel) ?_
      refine e_gIv (v := h1.2.1 44 2) (show pAt 50 24 = some (24, .getfield 29, 3, [4, 2, 0, 1200]) from by decide +kernel) (show HS h1 from hs_h1) rfl (by decide) rfl ?_
      refine e_iconst (c := 1) (show pAt 50 27 = some (27, .iconst 1, 1, []) from by decide +kernel) (by decide) ?_
      refine e_iadd (show pAt 50 28 = some (28, .iadd, 1, []) from by decide +kernel) ?_
      refine e_pI (show pAt 50 29 = some (29, .putfield 29, 3, [4, 2, 0, 1200]) from by decide +kernel) (show HS h1 from hs_h1) (by decide) (Or.inl rfl) ?_
      refine e_iconst (c := 1) (show pAt 50 32 = some (32, .iconst 1, 1, []) from by decide +kernel) (by decide) ?_
      exact e_retZ (show pAt 50 33 = some (33, .ireturn, 1, []) from by decide +kernel) rfl (by decide) vc
    · replace vc := vc.2 c6
      refine e_iconst (c := 0) (show pAt 50 20 = some (20, .iconst 0, 1, []) from by decide +kernel) (by decide) ?_
      exact e_retZ (show pAt 50 21 = some (21, .ireturn, 1, []) from by decide +kernel) rfl (by decide) vc

theorem w_tka0 {X : Scr} {dp : Nat} {h : Hp} {Q : Option Value → Hp → Prop} {s : Nat} (hs5 : s < 5) (hs : HS h)
    (vc : Ends X dp 51 2 [.ref 44, .ref (OLDB + 3 + s), .int 0] [] h Q) :
    Ends X dp 51 0 [.ref 44, .ref (OLDB + 3 + s), .retAddr 0] [] h Q := by
  have ra : ∀ {a : Nat}, a < 1000 → a ≤ OLDB := fun h => by have := OLDB_eq; omega
  refine e_iconst (c := 0) (show pAt 51 0 = some (0, .iconst 0, 1, []) from by decide +kernel) (by decide) ?_
  refine e_istore_n (show pAt 51 1 = some (1, .istore_n 2, 1, []) from by decide +kernel) ⟨Nat.le_of_ble_eq_true rfl, rfl⟩ rfl ?_
  exact vc

theorem w_tka1 {X : Scr} {dp : Nat} {h : Hp} {Q : Option Value → Hp → Prop} {s : Nat} (hs5 : s < 5) (i : Int32) (hs : HS h)
    (vc : Ends X dp 209 0 [.ref (OLDB + 3 + s)] [] h (fun rv h1 => ∃ r2, rv = some (.int r2) ∧ HS h1 ∧ ((condB .ge i r2 = true → Q (some (.int 1)) h1) ∧ (condB .ge i r2 = false → Ends X dp 210 0 [.ref (OLDB + 3 + s), .int i] [] h1 (fun rv h5 => ∃ r6, rv = some (.int r6) ∧ HS h5 ∧ Ends X dp 50 0 [.ref 44, .int r6] [] h5 (fun rv h8 => ∃ r9, rv = some (.int r9) ∧ HS h8 ∧ ((condB .ne r9 0 = true → Ends X (dp + 1) 51 2 [.ref 44, .ref (OLDB + 3 + s), .int (i + 1)] [] h8 Q) ∧ (condB .ne r9 0 = false → Q (some (.int 0)) h8)))))))) :
    Ends X (dp + 1) 51 2 [.ref 44, .ref (OLDB + 3 + s), .int i] [] h Q := by
  have ra : ∀ {a : Nat}, a < 1000 → a ≤ OLDB := fun h => by have := OLDB_eq; omega
  refine e_iload_n (show pAt 51 2 = some (2, .iload_n 2, 1, []) from by decide +kernel) rfl ?_
  refine e_aload_nS (show pAt 51 3 = some (3, .aload_n 1, 1, []) from by decide +kernel) rfl (by omega) ?_
  refine Ends.call (show pAt 51 4 = some (4, .invokevirtual 90, 3, [209, 1, 0, 0, 3020, 3021, 3022]) from by decide +kernel) (isRet_none rfl) rfl (call_str rfl rfl (by decide) hs5) (Ends.mono vc ?_)
  rintro _ h1 ⟨r2, rfl, hs_h1, vc⟩
  refine e_icmp (t := 30) (show pAt 51 7 = some (7, .if_icmp .ge 23, 3, []) from by decide +kernel) rfl (fun c4 => ?_) (fun c4 => ?_)
  · replace vc := vc.1 c4
    refine e_iconst (c := 1) (show pAt 51 30 = some (30, .iconst 1, 1, []) from by decide +kernel) (by decide) ?_
    exact e_retZ (show pAt 51 31 = some (31, .ireturn, 1, []) from by decide +kernel) rfl (by decide) vc
  · replace vc := vc.2 c4
    refine e_aload_n (show pAt 51 10 = some (10, .aload_n 0, 1, []) from by decide +kernel) rfl (ra (by decide)) ?_
    refine e_aload_nS (show pAt 51 11 = some (11, .aload_n 1, 1, []) from by decide +kernel) rfl (by omega) ?_
    refine e_iload_n (show pAt 51 12 = some (12, .iload_n 2, 1, []) from by decide +kernel) rfl ?_
    refine Ends.call (show pAt 51 13 = some (13, .invokevirtual 95, 3, [210, 2, 0, 0, 3030, 3031, 3032]) from by decide +kernel) (isRet_none rfl) rfl (call_str rfl rfl (by decide) hs5) (Ends.mono vc ?_)
    rintro _ h5 ⟨r6, rfl, hs_h5, vc⟩
    refine Ends.call (show pAt 51 16 = some (16, .invokevirtual 36, 3, [50, 2, 0, 0, 3007, 3009, 32]) from by decide +kernel) (isRet_none rfl) rfl (call_this (show HS h5 from hs_h5) rfl rfl (by decide)) (Ends.mono vc ?_)
    rintro _ h8 ⟨r9, rfl, hs_h8, vc⟩
    refine e_if (t := 24) (show pAt 51 19 = some (19, .ifCond .ne 5, 3, []) from by decide +kernel) rfl (fun c11 => ?_) (fun c11 => ?_)
    · replace vc := vc.1 c11
      refine e_iinc (c := 1) (show pAt 51 24 = some (24, .iinc 2 1, 3, []) from by decide +kernel) rfl rfl (by decide) rfl ?_
      refine e_goto (t := 2) (show pAt 51 27 = some (27, .goto (-25), 3, []) from by decide +kernel) rfl ?_
      exact vc
    · replace vc := vc.2 c11
      refine e_iconst (c := 0) (show pAt 51 22 = some (22, .iconst 0, 1, []) from by decide +kernel) (by decide) ?_
      exact e_retZ (show pAt 51 23 = some (23, .ireturn, 1, []) from by decide +kernel) rfl (by decide) vc

theorem w_tko {X : Scr} {dp : Nat} {h : Hp} {Q : Option Value → Hp → Prop} {s : Nat} (hs5 : s < 5) (hs : HS h)
    (vc : Ends X dp 49 0 [.ref 44] [] h (fun rv h1 => ∃ r2, rv = some (.int r2) ∧ HS h1 ∧ ((condB .eq r2 0 = true → Q (some (.int (-1))) h1) ∧ (condB .eq r2 0 = false → (inB (h1.2.1 44 2) 100 = true ∧ Ends X dp 211 0 [.ref (OLDB + 3 + s), .int (((h1.2.1 45 (h1.2.1 44 2).toNatClampNeg).toUInt32 % 65536).toInt32)] [] h1 (fun rv h7 => ∃ r8, rv = some (.int r8) ∧ HS h7 ∧ ((condB .lt r8 0 = true → Q (some (.int r8)) h7) ∧ (condB .lt r8 0 = false → Q (some (.int r8)) (hpI h7 44 2 ((h7.2.1 44 2) + 1)))))))))) :
    Ends X (dp + 1) 52 0 [.ref 44, .ref (OLDB + 3 + s), .retAddr 0] [] h Q := by
  have ra : ∀ {a : Nat}, a < 1000 → a ≤ OLDB := fun h => by have := OLDB_eq; omega
  refine e_aload_n (show pAt 52 0 = some (0, .aload_n 0, 1, []) from by decide +kernel) rfl (ra (by decide)) ?_
  refine Ends.call (show pAt 52 1 = some (1, .invokevirtual 65, 3, [49, 1, 0, 0, 3011, 3013, 33]) from by decide +kernel) (isRet_none rfl) rfl (call_this (show HS h from hs) rfl rfl (by decide)) (Ends.mono vc ?_)
  rintro _ h1 ⟨r2, rfl, hs_h1, vc⟩
  refine e_if (t := 24) (show pAt 52 4 = some (4, .ifCond .eq 20, 3, []) from by decide +kernel) rfl (fun c4 => ?_) (fun c4 => ?_)
  · replace vc := vc.1 c4
    refine e_iconst (c := (-1)) (show pAt 52 24 = some (24, .iconst (-1), 1, []) from by decide +kernel) (by decide) ?_
    refine e_istore_n (show pAt 52 25 = some (25, .istore_n 2, 1, []) from by decide +kernel) ⟨Nat.le_of_ble_eq_true rfl, rfl⟩ rfl ?_
    refine e_iload_n (show pAt 52 26 = some (26, .iload_n 2, 1, []) from by decide +kernel) rfl ?_
    refine e_if (t := 40) (show pAt 52 27 = some (27, .ifCond .lt 13, 3, []) from by decide +kernel) rfl (fun c5 => ?_) (fun c5 => absurd c5 (by decide))
    refine e_iload_n (show pAt 52 40 = some (40, .iload_n 2, 1, []) from by decide +kernel) rfl ?_
    exact e_retI (show pAt 52 41 = some (41, .ireturn, 1, []) from by decide +kernel) rfl vc
  · replace vc := vc.2 c4
    refine e_aload_nS (show pAt 52 7 = some (7, .aload_n 1, 1, []) from by decide +kernel) rfl (by omega) ?_
    refine e_aload_n (show pAt 52 8 = some (8, .aload_n 0, 1, []) from by decide +kernel) rfl (ra (by decide)) ?_
    refine e_gR (show pAt 52 9 = some (9, .getfield 9, 3, [4, 0, 0, 1197]) from by decide +kernel) (show HS h1 from hs_h1) rfl (by decide) (hs_ref (show HS h1 from hs_h1) rfl) ?_
    refine e_aload_n (show pAt 52 12 = some (12, .aload_n 0, 1, []) from by decide +kernel) rfl (ra (by decide)) ?_
    refine e_gIv (v := h1.2.1 44 2) (show pAt 52 13 = some (13, .getfield 29, 3, [4, 2, 0, 1200]) from by decide +kernel) (show HS h1 from hs_h1) rfl (by decide) rfl ?_
    obtain ⟨c6, vc⟩ := vc
    refine e_aldv (v := h1.2.1 45 (h1.2.1 44 2).toNatClampNeg) (show pAt 52 16 = some (16, .iaload, 1, []) from by decide +kernel) (show HS h1 from hs_h1) (by decide) c6 rfl ?_
    refine e_i2c (show pAt 52 17 = some (17, .i2c, 1, []) from by decide +kernel) ?_
    refine Ends.call (show pAt 52 18 = some (18, .invokevirtual 99, 3, [211, 2, 0, 0, 3095, 3096, 3097]) from by decide +kernel) (isRet_none rfl) rfl (call_str rfl rfl (by decide) hs5) (Ends.mono vc ?_)
    rintro _ h7 ⟨r8, rfl, hs_h7, vc⟩
    refine e_goto (t := 25) (show pAt 52 21 = some (21, .goto 4, 3, []) from by decide +kernel) rfl ?_
    refine e_istore_n (show pAt 52 25 = some (25, .istore_n 2, 1, []) from by decide +kernel) ⟨Nat.le_of_ble_eq_true rfl, rfl⟩ rfl ?_
    refine e_iload_n (show pAt 52 26 = some (26, .iload_n 2, 1, []) from by decide +kernel) rfl ?_
    refine e_if (t := 40) (show pAt 52 27 = some (27, .ifCond .lt 13, 3, []) from by decide +kernel) rfl (fun c10 => ?_) (fun c10 => ?_)
    · replace vc := vc.1 c10
      refine e_iload_n (show pAt 52 40 = some (40, .iload_n 2, 1, []) from by decide +kernel) rfl ?_
      exact e_retI (show pAt 52 41 = some (41, .ireturn, 1, []) from by decide +kernel) rfl vc
    · replace vc := vc.2 c10
      refine e_aload_n (show pAt 52 30 = some (30, .aload_n 0, 1, []) from by decide +kernel) rfl (ra (by decide)) ?_
      refine e_dupR (show pAt 52 31 = some (31, .dup, 1, []) from by decide +kernel) ?_
      refine e_gIv (v := h7.2.1 44 2) (show pAt 52 32 = some (32, .getfield 29, 3, [4, 2, 0, 1200]) from by decide +kernel) (show HS h7 from hs_h7) rfl (by decide) rfl ?_
      refine e_iconst (c := 1) (show pAt 52 35 = some (35, .iconst 1, 1, []) from by decide +kernel) (by decide) ?_
      refine e_iadd (show pAt 52 36 = some (36, .iadd, 1, []) from by decide +kernel) ?_
      refine e_pI (show pAt 52 37 = some (37, .putfield 29, 3, [4, 2, 0, 1200]) from by decide +kernel) (show HS h7 from hs_h7) (by decide) (Or.inl rfl) ?_
      refine e_iload_n (show pAt 52 40 = some (40, .iload_n 2, 1, []) from by decide +kernel) rfl ?_
      exact e_retI (show pAt 52 41 = some (41, .ireturn, 1, []) from by decide +kernel) rfl vc

theorem w_rn0 {X : Scr} {dp : Nat} {h : Hp} {Q : Option Value → Hp → Prop}  (hs : HS h)
    (vc : Ends X dp 45 4 [.ref 44, .int 0, .int 0] [] h Q) :
    Ends X dp 45 0 [.ref 44, .retAddr 0, .retAddr 0] [] h Q := by
  have ra : ∀ {a : Nat}, a < 1000 → a ≤ OLDB := fun h => by have := OLDB_eq; omega
  refine e_iconst (c := 0) (show pAt 45 0 = some (0, .iconst 0, 1, []) from by decide +kernel) (by decide) ?_
  refine e_istore_n (show pAt 45 1 = some (1, .istore_n 1, 1, []) from by decide +kernel) ⟨Nat.le_of_ble_eq_true rfl, rfl⟩ rfl ?_
  refine e_iconst (c := 0) (show pAt 45 2 = some (2, .iconst 0, 1, []) from by decide +kernel) (by decide) ?_
  refine e_istore_n (show pAt 45 3 = some (3, .istore_n 2, 1, []) from by decide +kernel) ⟨Nat.le_of_ble_eq_true rfl, rfl⟩ rfl ?_
  exact vc

theorem w_rn1 {X : Scr} {dp : Nat} {h : Hp} {Q : Option Value → Hp → Prop} (n : Int32) (d : Int32) (hs : HS h)
    (vc : ((condB .ge d 2 = true → ((condB .ne d 0 = true → Q (some (.int n)) h) ∧ (condB .ne d 0 = false → Q (some (.int (-1))) h))) ∧ (condB .ge d 2 = false → Ends X dp 49 0 [.ref 44] [] h (fun rv h3 => ∃ r4, rv = some (.int r4) ∧ HS h3 ∧ ((condB .eq r4 0 = true → ((condB .ne d 0 = true → Q (some (.int n)) h3) ∧ (condB .ne d 0 = false → Q (some (.int (-1))) h3))) ∧ (condB .eq r4 0 = false → (inB (h3.2.1 44 2) 100 = true ∧ ((condB .lt (h3.2.1 45 (h3.2.1 44 2).toNatClampNeg) 48 = true → ((condB .ne d 0 = true → Q (some (.int n)) h3) ∧ (condB .ne d 0 = false → Q (some (.int (-1))) h3))) ∧ (condB .lt (h3.2.1 45 (h3.2.1 44 2).toNatClampNeg) 48 = false → (inB (h3.2.1 44 2) 100 = true ∧ ((condB .gt (h3.2.1 45 (h3.2.1 44 2).toNatClampNeg) 57 = true → ((condB .ne d 0 = true → Q (some (.int n)) h3) ∧ (condB .ne d 0 = false → Q (some (.int (-1))) h3))) ∧ (condB .gt (h3.2.1 45 (h3.2.1 44 2).toNatClampNeg) 57 = false → (inB (h3.2.1 44 2) 100 = true ∧ Ends X (dp + 1) 45 4 [.ref 44, .int (((n * 10) + (h3.2.1 45 (h3.2.1 44 2).toNatClampNeg)) - 48), .int (d + 1)] [] (hpI h3 44 2 ((h3.2.1 44 2) + 1)) Q))))))))))))) :
    Ends X (dp + 1) 45 4 [.ref 44, .int n, .int d] [] h Q := by
  have ra : ∀ {a : Nat}, a < 1000 → a ≤ OLDB := fun h => by have := OLDB_eq; omega
  refine e_iload_n (show pAt 45 4 = some (4, .iload_n 2, 1, []) from by decide +kernel) rfl ?_
  refine e_iconst (c := 2) (show pAt 45 5 = some (5, .iconst 2, 1, []) from by decide +kernel) (by decide) ?_
  refine e_icmp (t := 78) (show pAt 45 6 = some (6, .if_icmp .ge 72, 3, []) from by decide +kernel) rfl (fun c1 => ?_) (fun c1 => ?_)
  · replace vc := vc.1 c1
    refine e_iload_n (show pAt 45 78 = some (78, .iload_n 2, 1, []) from by decide +kernel) rfl ?_
    refine e_if (t := 86) (show pAt 45 79 = some (79, .ifCond .ne 7, 3, []) from by decide +kernel) rfl (fun c2 => ?_) (fun c2 => ?_)
    · replace vc := vc.1 c2
      refine e_iload_n (show pAt 45 86 = some (86, .iload_n 1, 1, []) from by decide +kernel) rfl ?_
      exact e_retI (show pAt 45 87 = some (87, .ireturn, 1, []) from by decide +kernel) rfl vc
    · replace vc := vc.2 c2
      refine e_iconst (c := (-1)) (show pAt 45 82 = some (82, .iconst (-1), 1, []) from by decide +kernel) (by decide) ?_
      refine e_goto (t := 87) (show pAt 45 83 = some (83, .goto 4, 3, []) from by decide +kernel) rfl ?_
      exact e_retI (show pAt 45 87 = some (87, .ireturn, 1, []) from by decide +kernel) rfl vc
  · replace vc := vc.2 c1
    refine e_aload_n (show pAt 45 9 = some (9, .aload_n 0, 1, []) from by decide +kernel) rfl (ra (by decide)) ?_
    refine Ends.call (show pAt 45 10 = some (10, .invokevirtual 65, 3, [49, 1, 0, 0, 3011, 3013, 33]) from by decide +kernel) (isRet_none rfl) rfl (call_this (show HS h from hs) rfl rfl (by decide)) (Ends.mono vc ?_)
    rintro _ h3 ⟨r4, rfl, hs_h3, vc⟩
    refine e_if (t := 78) (show pAt 45 13 = some (13, .ifCond .eq 65, 3, []) from by decide +kernel) rfl (fun c6 => ?_) (fun c6 => ?_)
    · replace vc := vc.1 c6
      refine e_iload_n (show pAt 45 78 = some (78, .iload_n 2, 1, []) from by decide +kernel) rfl ?_
      refine e_if (t := 86) (show pAt 45 79 = some (79, .ifCond .ne 7, 3, []) from by decide +kernel) rfl (fun c7 => ?_) (fun c7 => ?_)
      · replace vc := vc.1 c7
        refine e_iload_n (show pAt 45 86 = some (86, .iload_n 1, 1, []) from by decide +kernel) rfl ?_
        exact e_retI (show pAt 45 87 = some (87, .ireturn, 1, []) from by decide +kernel) rfl vc
      · replace vc := vc.2 c7
        refine e_iconst (c := (-1)) (show pAt 45 82 = some (82, .iconst (-1), 1, []) from by decide +kernel) (by decide) ?_
        refine e_goto (t := 87) (show pAt 45 83 = some (83, .goto 4, 3, []) from by decide +kernel) rfl ?_
        exact e_retI (show pAt 45 87 = some (87, .ireturn, 1, []) from by decide +kernel) rfl vc
    · replace vc := vc.2 c6
      refine e_aload_n (show pAt 45 16 = some (16, .aload_n 0, 1, []) from by decide +kernel) rfl (ra (by decide)) ?_
      refine e_gR (show pAt 45 17 = some (17, .getfield 9, 3, [4, 0, 0, 1197]) from by decide +kernel) (show HS h3 from hs_h3) rfl (by decide) (hs_ref (show HS h3 from hs_h3) rfl) ?_
      refine e_aload_n (show pAt 45 20 = some (20, .aload_n 0, 1, []) from by decide +kernel) rfl (ra (by decide)) ?_
      refine e_gIv (v := h3.2.1 44 2) (show pAt 45 21 = some (21, .getfield 29, 3, [4, 2, 0, 1200]) from by decide +kernel) (show HS h3 from hs_h3) rfl (by decide) rfl ?_
      obtain ⟨c8, vc⟩ := vc
      refine e_aldv (v := h3.2.1 45 (h3.2.1 44 2).toNatClampNeg) (show pAt 45 24 = some (24, .iaload, 1, []) from by decide +kernel) (show HS h3 from hs_h3) (by decide) c8 rfl ?_
      refine e_bipush (c := 48) (show pAt 45 25 = some (25, .bipush 48, 2, []) from by decide +kernel) (by decide) ?_
      refine e_icmp (t := 78) (show pAt 45 27 = some (27, .if_icmp .lt 51, 3, []) from by decide +kernel) rfl (fun c9 => ?_) (fun c9 => ?_)
      · replace vc := vc.1 c9
        refine e_iload_n (show pAt 45 78 = some (78, .iload_n 2, 1, []) from by decide +kernel) rfl ?_
        refine e_if (t := 86) (show pAt 45 79 = some (79, .ifCond .ne 7, 3, []) from by decide +kernel) rfl (fun c10 => ?_) (fun c10 => ?_)
        · replace vc := vc.1 c10
          refine e_iload_n (show pAt 45 86 = some (86, .iload_n 1, 1, []) from by decide +kernel) rfl ?_
          exact e_retI (show pAt 45 87 = some (87, .ireturn, 1, []) from by decide +kernel) rfl vc
        · replace vc := vc.2 c10
          refine e_iconst (c := (-1)) (show pAt 45 82 = some (82, .iconst (-1), 1, []) from by decide +kernel) (by decide) ?_
          refine e_goto (t := 87) (show pAt 45 83 = some (83, .goto 4, 3, []) from by decide +kernel) rfl ?_
          exact e_retI (show pAt 45 87 = some (87, .ireturn, 1, []) from by decide +kernel) rfl vc
      · replace vc := vc.2 c9
        refine e_aload_n (show pAt 45 30 = some (30, .aload_n 0, 1, []) from by decide +kernel) rfl (ra (by decide)) ?_
        refine e_gR (show pAt 45 31 = some (31, .getfield 9, 3, [4, 0, 0, 1197]) from by decide +kernel) (show HS h3 from hs_h3) rfl (by decide) (hs_ref (show HS h3 from hs_h3) rfl) ?_
        refine e_aload_n (show pAt 45 34 = some (34, .aload_n 0, 1, []) from by decide +kernel) rfl (ra (by decide)) ?_
        refine e_gIv (v := h3.2.1 44 2) (show pAt 45 35 = some (35, .getfield 29, 3, [4, 2, 0, 1200]) from by decide +kernel) (show HS h3 from hs_h3) rfl (by decide) rfl ?_
        obtain ⟨c11, vc⟩ := vc
        refine e_aldv (v := h3.2.1 45 (h3.2.1 44 2).toNatClampNeg) (show pAt 45 38 = some (38, .iaload, 1, []) from by decide +kernel) (show HS h3 from hs_h3) (by decide) c11 rfl ?_
        refine e_bipush (c := 57) (show pAt 45 39 = some (39, .bipush 57, 2, []) from by decide +kernel) (by decide) ?_
        refine e_icmp (t := 78) (show pAt 45 41 = some (41, .if_icmp .gt 37, 3, []) from by decide +kernel) rfl (fun c12 => ?_) (fun c12 => ?_)
        · replace vc := vc.1 c12
          refine e_iload_n (show pAt 45 78 = some (78, .iload_n 2, 1, []) from by decide +kernel) rfl ?_
          refine e_if (t := 86) (show pAt 45 79 = some (79, .ifCond .ne 7, 3, []) from by decide +kernel) rfl (fun c13 => ?_) (fun c13 => ?_)
          · replace vc := vc.1 c13
            refine e_iload_n (show pAt 45 86 = some (86, .iload_n 1, 1, []) from by decide +kernel) rfl ?_
            exact e_retI (show pAt 45 87 = some (87, .ireturn, 1, []) from by decide +kernel) rfl vc
          · replace vc := vc.2 c13
            refine e_iconst (c := (-1)) (show pAt 45 82 = some (82, .iconst (-1), 1, []) from by decide +kernel) (by decide) ?_
            refine e_goto (t := 87) (show pAt 45 83 = some (83, .goto 4, 3, []) from by decide +kernel) rfl ?_
            exact e_retI (show pAt 45 87 = some (87, .ireturn, 1, []) from by decide +kernel) rfl vc
        · replace vc := vc.2 c12
          refine e_iload_n (show pAt 45 44 = some (44, .iload_n 1, 1, []) from by decide +kernel) rfl ?_
          refine e_bipush (c := 10) (show pAt 45 45 = some (45, .bipush 10, 2, []) from by decide +kernel) (by decide) ?_
          refine e_imul (show pAt 45 47 = some (47, .imul, 1, []) from by decide +kernel) ?_
          refine e_aload_n (show pAt 45 48 = some (48, .aload_n 0, 1, []) from by decide +kernel) rfl (ra (by decide)) ?_
          refine e_gR (show pAt 45 49 = some (49, .getfield 9, 3, [4, 0, 0, 1197]) from by decide +kernel) (show HS h3 from hs_h3) rfl (by decide) (hs_ref (show HS h3 from hs_h3) rfl) ?_
          refine e_aload_n (show pAt 45 52 = some (52, .aload_n 0, 1, []) from by decide +kernel) rfl (ra (by decide)) ?_
          refine e_gIv (v := h3.2.1 44 2) (show pAt 45 53 = some (53, .getfield 29, 3, [4, 2, 0, 1200]) from by decide +kernel) (show HS h3 from hs_h3) rfl (by decide) rfl ?_
          obtain ⟨c14, vc⟩ := vc
          refine e_aldv (v := h3.2.1 45 (h3.2.1 44 2).toNatClampNeg) (show pAt 45 56 = some (56, .iaload, 1, []) from by decide +kernel) (show HS h3 from hs_h3) (by decide) c14 rfl ?_
          refine e_iadd (show pAt 45 57 = some (57, .iadd, 1, []) from by decide +kernel) ?_
          refine e_bipush (c := 48) (show pAt 45 58 = some (58, .bipush 48, 2, []) from by decide +kernel) (by decide) ?_
          refine e_isub (show pAt 45 60 = some (60, .isub, 1, []) from by decide +kernel) ?_
          refine e_istore_n (show pAt 45 61 = some (61, .istore_n 1, 1, []) from by decide +kernel) ⟨Nat.le_of_ble_eq_true rfl, rfl⟩ rfl ?_
          refine e_aload_n (show pAt 45 62 = some (62, .aload_n 0, 1, []) from by decide +kernel) rfl (ra (by decide)) ?_
          refine e_dupR (show pAt 45 63 = some (63, .dup, 1, []) from by decide +kernel) ?_
          refine e_gIv (v := h3.2.1 44 2) (show pAt 45 64 = some (64, .getfield 29, 3, [4, 2, 0, 1200]) from by decide +kernel) (show HS h3 from hs_h3) rfl (by decide) rfl ?_
          refine e_iconst (c := 1) (show pAt 45 67 = some (67, .iconst 1, 1, []) from by decide +kernel) (by decide) ?_
          refine e_iadd (show pAt 45 68 = some (68, .iadd, 1, []) from by decide +kernel) ?_
          refine e_pI (show pAt 45 69 = some (69, .putfield 29, 3, [4, 2, 0, 1200]) from by decide +kernel) (show HS h3 from hs_h3) (by decide) (Or.inl rfl) ?_
          refine e_iinc (c := 1) (show pAt 45 72 = some (72, .iinc 2 1, 3, []) from by decide +kernel) rfl rfl (by decide) rfl ?_
          refine e_goto (t := 4) (show pAt 45 75 = some (75, .goto (-71), 3, []) from by decide +kernel) rfl ?_
          exact vc

theorem w_rw {X : Scr} {dp : Nat} {h : Hp} {Q : Option Value → Hp → Prop}  (hs : HS h)
    (vc : Ends X dp 50 0 [.ref 44, .int 114] [] h (fun rv h1 => ∃ r2, rv = some (.int r2) ∧ HS h1 ∧ ((condB .eq r2 0 = true → Ends X dp 50 0 [.ref 44, .int 104] [] h1 (fun rv h5 => ∃ r6, rv = some (.int r6) ∧ HS h5 ∧ ((condB .eq r6 0 = true → Ends X dp 50 0 [.ref 44, .int 100] [] h5 (fun rv h9 => ∃ r10, rv = some (.int r10) ∧ HS h9 ∧ ((condB .eq r10 0 = true → Q (some (.int (-1))) h9) ∧ (condB .eq r10 0 = false → Ends X dp 51 0 [.ref 44, .ref (OLDB + 5), .retAddr 0] [] h9 (fun rv h13 => ∃ r14, rv = some (.int r14) ∧ HS h13 ∧ ((condB .eq r14 0 = true → Q (some (.int (-1))) h13) ∧ (condB .eq r14 0 = false → Q (some (.int 2)) h13))))))) ∧ (condB .eq r6 0 = false → Ends X dp 51 0 [.ref 44, .ref (OLDB + 4), .retAddr 0] [] h5 (fun rv h17 => ∃ r18, rv = some (.int r18) ∧ HS h17 ∧ ((condB .eq r18 0 = true → Q (some (.int (-1))) h17) ∧ (condB .eq r18 0 = false → Q (some (.int 1)) h17))))))) ∧ (condB .eq r2 0 = false → Ends X dp 51 0 [.ref 44, .ref (OLDB + 3), .retAddr 0] [] h1 (fun rv h21 => ∃ r22, rv = some (.int r22) ∧ HS h21 ∧ ((condB .eq r22 0 = true → Q (some (.int (-1))) h21) ∧ (condB .eq r22 0 = false → Q (some (.int 0)) h21))))))) :
    Ends X (dp + 1) 44 0 [.ref 44] [] h Q := by
  have ra : ∀ {a : Nat}, a < 1000 → a ≤ OLDB := fun h => by have := OLDB_eq; omega
  refine e_aload_n (show pAt 44 0 = some (0, .aload_n 0, 1, []) from by decide +kernel) rfl (ra (by decide)) ?_
  refine e_bipush (c := 114) (show pAt 44 1 = some (1, .bipush 114, 2, []) from by decide +kernel) (by decide) ?_
  refine Ends.call (show pAt 44 3 = some (3, .invokevirtual 36, 3, [50, 2, 0, 0, 3007, 3009, 32]) from by decide +kernel) (isRet_none rfl) rfl (call_this (show HS h from hs) rfl rfl (by decide)) (Ends.mono vc ?_)
  rintro _ h1 ⟨r2, rfl, hs_h1, vc⟩
  refine e_if (t := 24) (show pAt 44 6 = some (6, .ifCond .eq 18, 3, []) from by decide +kernel) rfl (fun c4 => ?_) (fun c4 => ?_)
  · replace vc := vc.1 c4
    refine e_aload_n (show pAt 44 24 = some (24, .aload_n 0, 1, []) from by decide +kernel) rfl (ra (by decide)) ?_
    refine e_bipush (c := 104) (show pAt 44 25 = some (25, .bipush 104, 2, []) from by decide +kernel) (by decide) ?_
    refine Ends.call (show pAt 44 27 = some (27, .invokevirtual 36, 3, [50, 2, 0, 0, 3007, 3009, 32]) from by decide +kernel) (isRet_none rfl) rfl (call_this (show HS h1 from hs_h1) rfl rfl (by decide)) (Ends.mono vc ?_)
    rintro _ h5 ⟨r6, rfl, hs_h5, vc⟩
    refine e_if (t := 48) (show pAt 44 30 = some (30, .ifCond .eq 18, 3, []) from by decide +kernel) rfl (fun c8 => ?_) (fun c8 => ?_)
    · replace vc := vc.1 c8
      refine e_aload_n (show pAt 44 48 = some (48, .aload_n 0, 1, []) from by decide +kernel) rfl (ra (by decide)) ?_
      refine e_bipush (c := 100) (show pAt 44 49 = some (49, .bipush 100, 2, []) from by decide +kernel) (by decide) ?_
      refine Ends.call (show pAt 44 51 = some (51, .invokevirtual 36, 3, [50, 2, 0, 0, 3007, 3009, 32]) from by decide +kernel) (isRet_none rfl) rfl (call_this (show HS h5 from hs_h5) rfl rfl (by decide)) (Ends.mono vc ?_)
      rintro _ h9 ⟨r10, rfl, hs_h9, vc⟩
      refine e_if (t := 70) (show pAt 44 54 = some (54, .ifCond .eq 16, 3, []) from by decide +kernel) rfl (fun c12 => ?_) (fun c12 => ?_)
      · replace vc := vc.1 c12
        refine e_iconst (c := (-1)) (show pAt 44 70 = some (70, .iconst (-1), 1, []) from by decide +kernel) (by decide) ?_
        exact e_retI (show pAt 44 71 = some (71, .ireturn, 1, []) from by decide +kernel) rfl vc
      · replace vc := vc.2 c12
        refine e_aload_n (show pAt 44 57 = some (57, .aload_n 0, 1, []) from by decide +kernel) rfl (ra (by decide)) ?_
        refine e_ldcS (show pAt 44 58 = some (58, .ldc 63, 2, [1, 2, 3069]) from by decide +kernel) (by decide) ?_
        refine Ends.call (show pAt 44 60 = some (60, .invokevirtual 57, 3, [51, 2, 0, 0, 3016, 3018, 34]) from by decide +kernel) (isRet_none rfl) rfl (call_this (show HS h9 from hs_h9) rfl rfl (by decide)) (Ends.mono vc ?_)
        rintro _ h13 ⟨r14, rfl, hs_h13, vc⟩
        refine e_if (t := 70) (show pAt 44 63 = some (63, .ifCond .eq 7, 3, []) from by decide +kernel) rfl (fun c16 => ?_) (fun c16 => ?_)
        · replace vc := vc.1 c16
          refine e_iconst (c := (-1)) (show pAt 44 70 = some (70, .iconst (-1), 1, []) from by decide +kernel) (by decide) ?_
          exact e_retI (show pAt 44 71 = some (71, .ireturn, 1, []) from by decide +kernel) rfl vc
        · replace vc := vc.2 c16
          refine e_iconst (c := 2) (show pAt 44 66 = some (66, .iconst 2, 1, []) from by decide +kernel) (by decide) ?_
          refine e_goto (t := 71) (show pAt 44 67 = some (67, .goto 4, 3, []) from by decide +kernel) rfl ?_
          exact e_retI (show pAt 44 71 = some (71, .ireturn, 1, []) from by decide +kernel) rfl vc
    · replace vc := vc.2 c8
      refine e_aload_n (show pAt 44 33 = some (33, .aload_n 0, 1, []) from by decide +kernel) rfl (ra (by decide)) ?_
      refine e_ldcS (show pAt 44 34 = some (34, .ldc 61, 2, [1, 1, 3068]) from by decide +kernel) (by decide) ?_
      refine Ends.call (show pAt 44 36 = some (36, .invokevirtual 57, 3, [51, 2, 0, 0, 3016, 3018, 34]) from by decide +kernel) (isRet_none rfl) rfl (call_this (show HS h5 from hs_h5) rfl rfl (by decide)) (Ends.mono vc ?_)
      rintro _ h17 ⟨r18, rfl, hs_h17, vc⟩
      refine e_if (t := 46) (show pAt 44 39 = some (39, .ifCond .eq 7, 3, []) from by decide +kernel) rfl (fun c20 => ?_) (fun c20 => ?_)
      · replace vc := vc.1 c20
        refine e_iconst (c := (-1)) (show pAt 44 46 = some (46, .iconst (-1), 1, []) from by decide +kernel) (by decide) ?_
        exact e_retI (show pAt 44 47 = some (47, .ireturn, 1, []) from by decide +kernel) rfl vc
      · replace vc := vc.2 c20
        refine e_iconst (c := 1) (show pAt 44 42 = some (42, .iconst 1, 1, []) from by decide +kernel) (by decide) ?_
        refine e_goto (t := 47) (show pAt 44 43 = some (43, .goto 4, 3, []) from by decide +kernel) rfl ?_
        exact e_retI (show pAt 44 47 = some (47, .ireturn, 1, []) from by decide +kernel) rfl vc
  · replace vc := vc.2 c4
    refine e_aload_n (show pAt 44 9 = some (9, .aload_n 0, 1, []) from by decide +kernel) rfl (ra (by decide)) ?_
    refine e_ldcS (show pAt 44 10 = some (10, .ldc 55, 2, [1, 0, 3015]) from by decide +kernel) (by decide) ?_
    refine Ends.call (show pAt 44 12 = some (12, .invokevirtual 57, 3, [51, 2, 0, 0, 3016, 3018, 34]) from by decide +kernel) (isRet_none rfl) rfl (call_this (show HS h1 from hs_h1) rfl rfl (by decide)) (Ends.mono vc ?_)
    rintro _ h21 ⟨r22, rfl, hs_h21, vc⟩
    refine e_if (t := 22) (show pAt 44 15 = some (15, .ifCond .eq 7, 3, []) from by decide +kernel) rfl (fun c24 => ?_) (fun c24 => ?_)
    · replace vc := vc.1 c24
      refine e_iconst (c := (-1)) (show pAt 44 22 = some (22, .iconst (-1), 1, []) from by decide +kernel) (by decide) ?_
      exact e_retI (show pAt 44 23 = some (23, .ireturn, 1, []) from by decide +kernel) rfl vc
    · replace vc := vc.2 c24
      refine e_iconst (c := 0) (show pAt 44 18 = some (18, .iconst 0, 1, []) from by decide +kernel) (by decide) ?_
      refine e_goto (t := 23) (show pAt 44 19 = some (19, .goto 4, 3, []) from by decide +kernel) rfl ?_
      exact e_retI (show pAt 44 23 = some (23, .ireturn, 1, []) from by decide +kernel) rfl vc

theorem w_clr {X : Scr} {dp : Nat} {h : Hp} {Q : Option Value → Hp → Prop} {q : Nat} (hY : YQ q) (hs : HS h)
    (vc : Q none (hpI (hpI h q 0 0) q 5 0)) :
    Ends X dp 54 0 [.ref q] [] h Q := by
  have ra : ∀ {a : Nat}, a < 1000 → a ≤ OLDB := fun h => by have := OLDB_eq; omega
  have hqr := yq_rng hY
  have hOB := OLDB_eq
  refine e_aload_n (show pAt 54 0 = some (0, .aload_n 0, 1, []) from by decide +kernel) rfl (show q ≤ OLDB by omega) ?_
  refine e_iconst (c := 0) (show pAt 54 1 = some (1, .iconst 0, 1, []) from by decide +kernel) (by decide) ?_
  refine e_pI (a := q) (show pAt 54 2 = some (2, .putfield 24, 3, [5, 0, 0, 1108]) from by decide +kernel) (show HS h from hs) (yq (P := fun q => decide (q < 1000) && decide (SHl[q]? = some (.inr 5)) && decide (0 < vwN 5) && !isRefTy (vwTy 5 0)) hY (by decide +kernel)) (Or.inl rfl) ?_
  refine e_aload_n (show pAt 54 5 = some (5, .aload_n 0, 1, []) from by decide +kernel) rfl (show q ≤ OLDB by omega) ?_
  refine e_iconst (c := 0) (show pAt 54 6 = some (6, .iconst 0, 1, []) from by decide +kernel) (by decide) ?_
  refine e_pI (a := q) (show pAt 54 7 = some (7, .putfield 28, 3, [5, 5, 0, 1113]) from by decide +kernel) (show HS (hpI h q 0 0) from hs) (yq (P := fun q => decide (q < 1000) && decide (SHl[q]? = some (.inr 5)) && decide (5 < vwN 5) && !isRefTy (vwTy 5 5)) hY (by decide +kernel)) (Or.inl rfl) ?_
  exact e_retV (show pAt 54 10 = some (10, .return_, 1, []) from by decide +kernel) rfl vc

theorem w_add {X : Scr} {dp : Nat} {h : Hp} {Q : Option Value → Hp → Prop} {q : Nat} (hY : YQ q) (m : Int32) (hs : HS h)
    (vc : ((condB .ge (h.2.1 q 5) 100 = true → Q none h) ∧ (condB .ge (h.2.1 q 5) 100 = false → (inB (h.2.1 q 5) 100 = true ∧ Q none (hpI (hpI h (q + 4) (h.2.1 q 5).toNatClampNeg m) q 5 ((h.2.1 q 5) + 1)))))) :
    Ends X dp 55 0 [.ref q, .int m] [] h Q := by
  have ra : ∀ {a : Nat}, a < 1000 → a ≤ OLDB := fun h => by have := OLDB_eq; omega
  have hqr := yq_rng hY
  have hOB := OLDB_eq
  refine e_aload_n (show pAt 55 0 = some (0, .aload_n 0, 1, []) from by decide +kernel) rfl (show q ≤ OLDB by omega) ?_
  refine e_gIv (v := h.2.1 q 5) (show pAt 55 1 = some (1, .getfield 28, 3, [5, 5, 0, 1113]) from by decide +kernel) (show HS h from hs) rfl (yq (P := fun q => decide (q < 1000) && decide (SHl[q]? = some (.inr 5)) && decide (5 < vwN 5) && !isRefTy (vwTy 5 5)) hY (by decide +kernel)) rfl ?_
  refine e_bipush (c := 100) (show pAt 55 4 = some (4, .bipush 100, 2, []) from by decide +kernel) (by decide) ?_
  refine e_icmp (t := 29) (show pAt 55 6 = some (6, .if_icmp .ge 23, 3, []) from by decide +kernel) rfl (fun c1 => ?_) (fun c1 => ?_)
  · replace vc := vc.1 c1
    exact e_retV (show pAt 55 29 = some (29, .return_, 1, []) from by decide +kernel) rfl vc
  · replace vc := vc.2 c1
    refine e_aload_n (show pAt 55 9 = some (9, .aload_n 0, 1, []) from by decide +kernel) rfl (show q ≤ OLDB by omega) ?_
    refine e_gR (b := q + 4) (show pAt 55 10 = some (10, .getfield 21, 3, [5, 4, 0, 1112]) from by decide +kernel) (show HS h from hs) rfl (yq (P := fun q => decide (q < 1000) && decide (q + 4 < 1000) && decide (SHl[q]? = some (.inr 5)) && decide (4 < vwN 5) && isRefTy (vwTy 5 4)) hY (by decide +kernel)) (hs_ref (show HS h from hs) (of_decide_eq_true (yq (P := fun q => decide (rst q 4 = [q + 4])) hY (by decide +kernel)))) ?_
    refine e_aload_n (show pAt 55 13 = some (13, .aload_n 0, 1, []) from by decide +kernel) rfl (show q ≤ OLDB by omega) ?_
    refine e_gIv (v := h.2.1 q 5) (show pAt 55 14 = some (14, .getfield 28, 3, [5, 5, 0, 1113]) from by decide +kernel) (show HS h from hs) rfl (yq (P := fun q => decide (q < 1000) && decide (SHl[q]? = some (.inr 5)) && decide (5 < vwN 5) && !isRefTy (vwTy 5 5)) hY (by decide +kernel)) rfl ?_
    refine e_iload_n (show pAt 55 17 = some (17, .iload_n 1, 1, []) from by decide +kernel) rfl ?_
    obtain ⟨c2, vc⟩ := vc
    refine e_ast (n := 100) (show pAt 55 18 = some (18, .iastore, 1, []) from by decide +kernel) (show HS h from hs) (yq (P := fun q => decide (q + 4 < 1000) && decide (SHl[q + 4]? = some (.inl (0, 100)))) hY (by decide +kernel)) c2 ?_
    refine e_aload_n (show pAt 55 19 = some (19, .aload_n 0, 1, []) from by decide +kernel) rfl (show q ≤ OLDB by omega) ?_
    refine e_dupR (show pAt 55 20 = some (20, .dup, 1, []) from by decide +kernel) ?_
    refine e_gIv (v := h.2.1 q 5) (show pAt 55 21 = some (21, .getfield 28, 3, [5, 5, 0, 1113]) from by decide +kernel) (show HS (hpI h (q + 4) (h.2.1 q 5).toNatClampNeg m) from hs) rfl (yq (P := fun q => decide (q < 1000) && decide (SHl[q]? = some (.inr 5)) && decide (5 < vwN 5) && !isRefTy (vwTy 5 5)) hY (by decide +kernel)) (by rw [put_ne (by omega)]) ?_
    refine e_iconst (c := 1) (show pAt 55 24 = some (24, .iconst 1, 1, []) from by decide +kernel) (by decide) ?_
    refine e_iadd (show pAt 55 25 = some (25, .iadd, 1, []) from by decide +kernel) ?_
    refine e_pI (a := q) (show pAt 55 26 = some (26, .putfield 28, 3, [5, 5, 0, 1113]) from by decide +kernel) (show HS (hpI h (q + 4) (h.2.1 q 5).toNatClampNeg m) from hs) (yq (P := fun q => decide (q < 1000) && decide (SHl[q]? = some (.inr 5)) && decide (5 < vwN 5) && !isRefTy (vwTy 5 5)) hY (by decide +kernel)) (Or.inl rfl) ?_
    exact e_retV (show pAt 55 29 = some (29, .return_, 1, []) from by decide +kernel) rfl vc

theorem w_cls {X : Scr} {dp : Nat} {h : Hp} {Q : Option Value → Hp → Prop} {q : Nat} (hY : YQ q) (w : Int32) (n : Int32) (hs : HS h)
    (vc : ((condB .ge (h.2.1 q 0) 10 = true → Q none h) ∧ (condB .ge (h.2.1 q 0) 10 = false → (inB (h.2.1 q 0) 10 = true ∧ (inB (h.2.1 q 0) 10 = true ∧ (inB (h.2.1 q 0) 10 = true ∧ Q none (hpI (hpI (hpI (hpI h (q + 1) (h.2.1 q 0).toNatClampNeg w) (q + 2) (h.2.1 q 0).toNatClampNeg n) (q + 3) (h.2.1 q 0).toNatClampNeg (h.2.1 q 5)) q 0 ((h.2.1 q 0) + 1)))))))) :
    Ends X dp 56 0 [.ref q, .int w, .int n] [] h Q := by
  have ra : ∀ {a : Nat}, a < 1000 → a ≤ OLDB := fun h => by have := OLDB_eq; omega
  have hqr := yq_rng hY
  have hOB := OLDB_eq
  refine e_aload_n (show pAt 56 0 = some (0, .aload_n 0, 1, []) from by decide +kernel) rfl (show q ≤ OLDB by omega) ?_
  refine e_gIv (v := h.2.1 q 0) (show pAt 56 1 = some (1, .getfield 24, 3, [5, 0, 0, 1108]) from by decide +kernel) (show HS h from hs) rfl (yq (P := fun q => decide (q < 1000) && decide (SHl[q]? = some (.inr 5)) && decide (0 < vwN 5) && !isRefTy (vwTy 5 0)) hY (by decide +kernel)) rfl ?_
  refine e_bipush (c := 10) (show pAt 56 4 = some (4, .bipush 10, 2, []) from by decide +kernel) (by decide) ?_
  refine e_icmp (t := 52) (show pAt 56 6 = some (6, .if_icmp .ge 46, 3, []) from by decide +kernel) rfl (fun c1 => ?_) (fun c1 => ?_)
  · replace vc := vc.1 c1
    exact e_retV (show pAt 56 52 = some (52, .return_, 1, []) from by decide +kernel) rfl vc
  · replace vc := vc.2 c1
    refine e_aload_n (show pAt 56 9 = some (9, .aload_n 0, 1, []) from by decide +kernel) rfl (show q ≤ OLDB by omega) ?_
    refine e_gR (b := q + 1) (show pAt 56 10 = some (10, .getfield 11, 3, [5, 1, 0, 1109]) from by decide +kernel) (show HS h from hs) rfl (yq (P := fun q => decide (q < 1000) && decide (q + 1 < 1000) && decide (SHl[q]? = some (.inr 5)) && decide (1 < vwN 5) && isRefTy (vwTy 5 1)) hY (by decide +kernel)) (hs_ref (show HS h from hs) (of_decide_eq_true (yq (P := fun q => decide (rst q 1 = [q + 1])) hY (by decide +kernel)))) ?_
    refine e_aload_n (show pAt 56 13 = some (13, .aload_n 0, 1, []) from by decide +kernel) rfl (show q ≤ OLDB by omega) ?_
    refine e_gIv (v := h.2.1 q 0) (show pAt 56 14 = some (14, .getfield 24, 3, [5, 0, 0, 1108]) from by decide +kernel) (show HS h from hs) rfl (yq (P := fun q => decide (q < 1000) && decide (SHl[q]? = some (.inr 5)) && decide (0 < vwN 5) && !isRefTy (vwTy 5 0)) hY (by decide +kernel)) rfl ?_
    refine e_iload_n (show pAt 56 17 = some (17, .iload_n 1, 1, []) from by decide +kernel) rfl ?_
    obtain ⟨c2, vc⟩ := vc
    refine e_ast (n := 10) (show pAt 56 18 = some (18, .iastore, 1, []) from by decide +kernel) (show HS h from hs) (yq (P := fun q => decide (q + 1 < 1000) && decide (SHl[q + 1]? = some (.inl (0, 10)))) hY (by decide +kernel)) c2 ?_
    refine e_aload_n (show pAt 56 19 = some (19, .aload_n 0, 1, []) from by decide +kernel) rfl (show q ≤ OLDB by omega) ?_
    refine e_gR (b := q + 2) (show pAt 56 20 = some (20, .getfield 15, 3, [5, 2, 0, 1110]) from by decide +kernel) (show HS (hpI h (q + 1) (h.2.1 q 0).toNatClampNeg w) from hs) rfl (yq (P := fun q => decide (q < 1000) && decide (q + 2 < 1000) && decide (SHl[q]? = some (.inr 5)) && decide (2 < vwN 5) && isRefTy (vwTy 5 2)) hY (by decide +kernel)) (hs_ref (show HS (hpI h (q + 1) (h.2.1 q 0).toNatClampNeg w) from hs) (of_decide_eq_true (yq (P := fun q => decide (rst q 2 = [q + 2])) hY (by decide +kernel)))) ?_
    refine e_aload_n (show pAt 56 23 = some (23, .aload_n 0, 1, []) from by decide +kernel) rfl (show q ≤ OLDB by omega) ?_
    refine e_gIv (v := h.2.1 q 0) (show pAt 56 24 = some (24, .getfield 24, 3, [5, 0, 0, 1108]) from by decide +kernel) (show HS (hpI h (q + 1) (h.2.1 q 0).toNatClampNeg w) from hs) rfl (yq (P := fun q => decide (q < 1000) && decide (SHl[q]? = some (.inr 5)) && decide (0 < vwN 5) && !isRefTy (vwTy 5 0)) hY (by decide +kernel)) (by rw [put_ne (by omega)]) ?_
    refine e_iload_n (show pAt 56 27 = some (27, .iload_n 2, 1, []) from by decide +kernel) rfl ?_
    obtain ⟨c3, vc⟩ := vc
    refine e_ast (n := 10) (show pAt 56 28 = some (28, .iastore, 1, []) from by decide +kernel) (show HS (hpI h (q + 1) (h.2.1 q 0).toNatClampNeg w) from hs) (yq (P := fun q => decide (q + 2 < 1000) && decide (SHl[q + 2]? = some (.inl (0, 10)))) hY (by decide +kernel)) c3 ?_
    refine e_aload_n (show pAt 56 29 = some (29, .aload_n 0, 1, []) from by decide +kernel) rfl (show q ≤ OLDB by omega) ?_
    refine e_gR (b := q + 3) (show pAt 56 30 = some (30, .getfield 18, 3, [5, 3, 0, 1111]) from by decide +kernel) (show HS (hpI (hpI h (q + 1) (h.2.1 q 0).toNatClampNeg w) (q + 2) (h.2.1 q 0).toNatClampNeg n) from hs) rfl (yq (P := fun q => decide (q < 1000) && decide (q + 3 < 1000) && decide (SHl[q]? = some (.inr 5)) && decide (3 < vwN 5) && isRefTy (vwTy 5 3)) hY (by decide +kernel)) (hs_ref (show HS (hpI (hpI h (q + 1) (h.2.1 q 0).toNatClampNeg w) (q + 2) (h.2.1 q 0).toNatClampNeg n) from hs) (of_decide_eq_true (yq (P := fun q => decide (rst q 3 = [q + 3])) hY (by decide +kernel)))) ?_
    refine e_aload_n (show pAt 56 33 = some (33, .aload_n 0, 1, []) from by decide +kernel) rfl (show q ≤ OLDB by omega) ?_
    refine e_gIv (v := h.2.1 q 0) (show pAt 56 34 = some (34, .getfield 24, 3, [5, 0, 0, 1108]) from by decide +kernel) (show HS (hpI (hpI h (q + 1) (h.2.1 q 0).toNatClampNeg w) (q + 2) (h.2.1 q 0).toNatClampNeg n) from hs) rfl (yq (P := fun q => decide (q < 1000) && decide (SHl[q]? = some (.inr 5)) && decide (0 < vwN 5) && !isRefTy (vwTy 5 0)) hY (by decide +kernel)) (by rw [put_ne (by omega), put_ne (by omega)]) ?_
    refine e_aload_n (show pAt 56 37 = some (37, .aload_n 0, 1, []) from by decide +kernel) rfl (show q ≤ OLDB by omega) ?_
    refine e_gIv (v := h.2.1 q 5) (show pAt 56 38 = some (38, .getfield 28, 3, [5, 5, 0, 1113]) from by decide +kernel) (show HS (hpI (hpI h (q + 1) (h.2.1 q 0).toNatClampNeg w) (q + 2) (h.2.1 q 0).toNatClampNeg n) from hs) rfl (yq (P := fun q => decide (q < 1000) && decide (SHl[q]? = some (.inr 5)) && decide (5 < vwN 5) && !isRefTy (vwTy 5 5)) hY (by decide +kernel)) (by rw [put_ne (by omega), put_ne (by omega)]) ?_
    obtain ⟨c4, vc⟩ := vc
    refine e_ast (n := 10) (show pAt 56 41 = some (41, .iastore, 1, []) from by decide +kernel) (show HS (hpI (hpI h (q + 1) (h.2.1 q 0).toNatClampNeg w) (q + 2) (h.2.1 q 0).toNatClampNeg n) from hs) (yq (P := fun q => decide (q + 3 < 1000) && decide (SHl[q + 3]? = some (.inl (0, 10)))) hY (by decide +kernel)) c4 ?_
    refine e_aload_n (show pAt 56 42 = some (42, .aload_n 0, 1, []) from by decide +kernel) rfl (show q ≤ OLDB by omega) ?_
    refine e_dupR (show pAt 56 43 = some (43, .dup, 1, []) from by decide +kernel) ?_
    refine e_gIv (v := h.2.1 q 0) (show pAt 56 44 = some (44, .getfield 24, 3, [5, 0, 0, 1108]) from by decide +kernel) (show HS (hpI (hpI (hpI h (q + 1) (h.2.1 q 0).toNatClampNeg w) (q + 2) (h.2.1 q 0).toNatClampNeg n) (q + 3) (h.2.1 q 0).toNatClampNeg (h.2.1 q 5)) from hs) rfl (yq (P := fun q => decide (q < 1000) && decide (SHl[q]? = some (.inr 5)) && decide (0 < vwN 5) && !isRefTy (vwTy 5 0)) hY (by decide +kernel)) (by rw [put_ne (by omega), put_ne (by omega), put_ne (by omega)]) ?_
    refine e_iconst (c := 1) (show pAt 56 47 = some (47, .iconst 1, 1, []) from by decide +kernel) (by decide) ?_
    refine e_iadd (show pAt 56 48 = some (48, .iadd, 1, []) from by decide +kernel) ?_
    refine e_pI (a := q) (show pAt 56 49 = some (49, .putfield 24, 3, [5, 0, 0, 1108]) from by decide +kernel) (show HS (hpI (hpI (hpI h (q + 1) (h.2.1 q 0).toNatClampNeg w) (q + 2) (h.2.1 q 0).toNatClampNeg n) (q + 3) (h.2.1 q 0).toNatClampNeg (h.2.1 q 5)) from hs) (yq (P := fun q => decide (q < 1000) && decide (SHl[q]? = some (.inr 5)) && decide (0 < vwN 5) && !isRefTy (vwTy 5 0)) hY (by decide +kernel)) (Or.inl rfl) ?_
    exact e_retV (show pAt 56 52 = some (52, .return_, 1, []) from by decide +kernel) rfl vc

theorem w_tm {X : Scr} {dp : Nat} {h : Hp} {Q : Option Value → Hp → Prop} (a : Int32) (b : Int32) (c : Int32) (hs : HS h)
    (vc : Q (some (.int ((((a * 3) + b) * 100) + c))) h) :
    Ends X dp 60 0 [.int a, .int b, .int c] [] h Q := by
  refine e_iload_n (show pAt 60 0 = some (0, .iload_n 0, 1, []) from by decide +kernel) rfl ?_
  refine e_iconst (c := 3) (show pAt 60 1 = some (1, .iconst 3, 1, []) from by decide +kernel) (by decide) ?_
  refine e_imul (show pAt 60 2 = some (2, .imul, 1, []) from by decide +kernel) ?_
  refine e_iload_n (show pAt 60 3 = some (3, .iload_n 1, 1, []) from by decide +kernel) rfl ?_
  refine e_iadd (show pAt 60 4 = some (4, .iadd, 1, []) from by decide +kernel) ?_
  refine e_bipush (c := 100) (show pAt 60 5 = some (5, .bipush 100, 2, []) from by decide +kernel) (by decide) ?_
  refine e_imul (show pAt 60 7 = some (7, .imul, 1, []) from by decide +kernel) ?_
  refine e_iload_n (show pAt 60 8 = some (8, .iload_n 2, 1, []) from by decide +kernel) rfl ?_
  refine e_iadd (show pAt 60 9 = some (9, .iadd, 1, []) from by decide +kernel) ?_
  exact e_retI (show pAt 60 10 = some (10, .ireturn, 1, []) from by decide +kernel) rfl vc

theorem w_ro {X : Scr} {dp : Nat} {h : Hp} {Q : Option Value → Hp → Prop} {q : Nat} (hY : YQ q) (d : Int32) (hs : HS h)
    (vc : ((condB .ge d 4 = true → ((condB .ge d 4 = true → Ends X (dp + 1) 48 71 [.ref 44, .int d, .retAddr 0, .retAddr 0, .retAddr 0] [] h Q) ∧ (condB .ge d 4 = false → Ends X dp 50 0 [.ref 44, .int 40] [] h (fun rv h3 => ∃ r4, rv = some (.int r4) ∧ HS h3 ∧ ((condB .eq r4 0 = true → Ends X (dp + 1) 48 71 [.ref 44, .int d, .retAddr 0, .retAddr 0, .retAddr 0] [] h3 Q) ∧ (condB .eq r4 0 = false → Ends X dp 46 0 [.ref 44, .int (d + 1), .retAddr 0, .retAddr 0] [] h3 (fun rv h7 => ∃ r8, rv = some (.int r8) ∧ HS h7 ∧ ((condB .eq r8 0 = true → Q (some (.int 0)) h7) ∧ (condB .eq r8 0 = false → Ends X dp 50 0 [.ref 44, .int 41] [] h7 (fun rv h11 => ∃ r12, rv = some (.int r12) ∧ HS h11 ∧ ((condB .eq r12 0 = true → Q (some (.int 0)) h11) ∧ (condB .eq r12 0 = false → Q (some (.int 1)) h11)))))))))))) ∧ (condB .ge d 4 = false → Ends X dp 50 0 [.ref 44, .int 33] [] h (fun rv h15 => ∃ r16, rv = some (.int r16) ∧ HS h15 ∧ ((condB .eq r16 0 = true → ((condB .ge d 4 = true → Ends X (dp + 1) 48 71 [.ref 44, .int d, .retAddr 0, .retAddr 0, .retAddr 0] [] h15 Q) ∧ (condB .ge d 4 = false → Ends X dp 50 0 [.ref 44, .int 40] [] h15 (fun rv h20 => ∃ r21, rv = some (.int r21) ∧ HS h20 ∧ ((condB .eq r21 0 = true → Ends X (dp + 1) 48 71 [.ref 44, .int d, .retAddr 0, .retAddr 0, .retAddr 0] [] h20 Q) ∧ (condB .eq r21 0 = false → Ends X dp 46 0 [.ref 44, .int (d + 1), .retAddr 0, .retAddr 0] [] h20 (fun rv h24 => ∃ r25, rv = some (.int r25) ∧ HS h24 ∧ ((condB .eq r25 0 = true → Q (some (.int 0)) h24) ∧ (condB .eq r25 0 = false → Ends X dp 50 0 [.ref 44, .int 41] [] h24 (fun rv h28 => ∃ r29, rv = some (.int r29) ∧ HS h28 ∧ ((condB .eq r29 0 = true → Q (some (.int 0)) h28) ∧ (condB .eq r29 0 = false → Q (some (.int 1)) h28)))))))))))) ∧ (condB .eq r16 0 = false → Ends X dp 48 0 [.ref 44, .int (d + 1), .retAddr 0, .retAddr 0, .retAddr 0] [] h15 (fun rv h32 => ∃ r33, rv = some (.int r33) ∧ HS h32 ∧ (h32.2.2.2 44 3 = some q ∧ Ends X dp 55 0 [.ref q, .int (-1)] [] h32 (fun rv h36 => rv = none ∧ HS h36 ∧ (r33 = 0 ∨ r33 = 1) ∧ Q (some (.int r33)) h36))))))))) :
    Ends X (dp + 1) 48 0 [.ref 44, .int d, .retAddr 0, .retAddr 0, .retAddr 0] [] h Q := by
  have ra : ∀ {a : Nat}, a < 1000 → a ≤ OLDB := fun h => by have := OLDB_eq; omega
  have hqr := yq_rng hY
  have hOB := OLDB_eq
  refine e_iload_n (show pAt 48 0 = some (0, .iload_n 1, 1, []) from by decide +kernel) rfl ?_
  refine e_iconst (c := 4) (show pAt 48 1 = some (1, .iconst 4, 1, []) from by decide +kernel) (by decide) ?_
  refine e_icmp (t := 32) (show pAt 48 2 = some (2, .if_icmp .ge 30, 3, []) from by decide +kernel) rfl (fun c1 => ?_) (fun c1 => ?_)
  · replace vc := vc.1 c1
    refine e_iload_n (show pAt 48 32 = some (32, .iload_n 1, 1, []) from by decide +kernel) rfl ?_
    refine e_iconst (c := 4) (show pAt 48 33 = some (33, .iconst 4, 1, []) from by decide +kernel) (by decide) ?_
    refine e_icmp (t := 71) (show pAt 48 34 = some (34, .if_icmp .ge 37, 3, []) from by decide +kernel) rfl (fun c2 => ?_) (fun c2 => ?_)
    · replace vc := vc.1 c2
      exact vc
    · replace vc := vc.2 c2
      refine e_aload_n (show pAt 48 37 = some (37, .aload_n 0, 1, []) from by decide +kernel) rfl (ra (by decide)) ?_
      refine e_bipush (c := 40) (show pAt 48 38 = some (38, .bipush 40, 2, []) from by decide +kernel) (by decide) ?_
      refine Ends.call (show pAt 48 40 = some (40, .invokevirtual 36, 3, [50, 2, 0, 0, 3007, 3009, 32]) from by decide +kernel) (isRet_none rfl) rfl (call_this (show HS h from hs) rfl rfl (by decide)) (Ends.mono vc ?_)
      rintro _ h3 ⟨r4, rfl, hs_h3, vc⟩
      refine e_if (t := 71) (show pAt 48 43 = some (43, .ifCond .eq 28, 3, []) from by decide +kernel) rfl (fun c6 => ?_) (fun c6 => ?_)
      · replace vc := vc.1 c6
        exact vc
      · replace vc := vc.2 c6
        refine e_aload_n (show pAt 48 46 = some (46, .aload_n 0, 1, []) from by decide +kernel) rfl (ra (by decide)) ?_
        refine e_iload_n (show pAt 48 47 = some (47, .iload_n 1, 1, []) from by decide +kernel) rfl ?_
        refine e_iconst (c := 1) (show pAt 48 48 = some (48, .iconst 1, 1, []) from by decide +kernel) (by decide) ?_
        refine e_iadd (show pAt 48 49 = some (49, .iadd, 1, []) from by decide +kernel) ?_
        refine Ends.call (show pAt 48 50 = some (50, .invokevirtual 47, 3, [46, 2, 0, 0, 3074, 3076, 36]) from by decide +kernel) (isRet_none rfl) rfl (call_this (show HS h3 from hs_h3) rfl rfl (by decide)) (Ends.mono vc ?_)
        rintro _ h7 ⟨r8, rfl, hs_h7, vc⟩
        refine e_if (t := 69) (show pAt 48 53 = some (53, .ifCond .eq 16, 3, []) from by decide +kernel) rfl (fun c10 => ?_) (fun c10 => ?_)
        · replace vc := vc.1 c10
          refine e_iconst (c := 0) (show pAt 48 69 = some (69, .iconst 0, 1, []) from by decide +kernel) (by decide) ?_
          exact e_retZ (show pAt 48 70 = some (70, .ireturn, 1, []) from by decide +kernel) rfl (by decide) vc
        · replace vc := vc.2 c10
          refine e_aload_n (show pAt 48 56 = some (56, .aload_n 0, 1, []) from by decide +kernel) rfl (ra (by decide)) ?_
          refine e_bipush (c := 41) (show pAt 48 57 = some (57, .bipush 41, 2, []) from by decide +kernel) (by decide) ?_
          refine Ends.call (show pAt 48 59 = some (59, .invokevirtual 36, 3, [50, 2, 0, 0, 3007, 3009, 32]) from by decide +kernel) (isRet_none rfl) rfl (call_this (show HS h7 from hs_h7) rfl rfl (by decide)) (Ends.mono vc ?_)
          rintro _ h11 ⟨r12, rfl, hs_h11, vc⟩
          refine e_if (t := 69) (show pAt 48 62 = some (62, .ifCond .eq 7, 3, []) from by decide +kernel) rfl (fun c14 => ?_) (fun c14 => ?_)
          · replace vc := vc.1 c14
            refine e_iconst (c := 0) (show pAt 48 69 = some (69, .iconst 0, 1, []) from by decide +kernel) (by decide) ?_
            exact e_retZ (show pAt 48 70 = some (70, .ireturn, 1, []) from by decide +kernel) rfl (by decide) vc
          · replace vc := vc.2 c14
            refine e_iconst (c := 1) (show pAt 48 65 = some (65, .iconst 1, 1, []) from by decide +kernel) (by decide) ?_
            refine e_goto (t := 70) (show pAt 48 66 = some (66, .goto 4, 3, []) from by decide +kernel) rfl ?_
            exact e_retZ (show pAt 48 70 = some (70, .ireturn, 1, []) from by decide +kernel) rfl (by decide) vc
  · replace vc := vc.2 c1
    refine e_aload_n (show pAt 48 5 = some (5, .aload_n 0, 1, []) from by decide +kernel) rfl (ra (by decide)) ?_
    refine e_bipush (c := 33) (show pAt 48 6 = some (6, .bipush 33, 2, []) from by decide +kernel) (by decide) ?_
    refine Ends.call (show pAt 48 8 = some (8, .invokevirtual 36, 3, [50, 2, 0, 0, 3007, 3009, 32]) from by decide +kernel) (isRet_none rfl) rfl (call_this (show HS h from hs) rfl rfl (by decide)) (Ends.mono vc ?_)
    rintro _ h15 ⟨r16, rfl, hs_h15, vc⟩
    refine e_if (t := 32) (show pAt 48 11 = some (11, .ifCond .eq 21, 3, []) from by decide +kernel) rfl (fun c18 => ?_) (fun c18 => ?_)
    · replace vc := vc.1 c18
      refine e_iload_n (show pAt 48 32 = some (32, .iload_n 1, 1, []) from by decide +kernel) rfl ?_
      refine e_iconst (c := 4) (show pAt 48 33 = some (33, .iconst 4, 1, []) from by decide +kernel) (by decide) ?_
      refine e_icmp (t := 71) (show pAt 48 34 = some (34, .if_icmp .ge 37, 3, []) from by decide +kernel) rfl (fun c19 => ?_) (fun c19 => ?_)
      · replace vc := vc.1 c19
        exact vc
      · replace vc := vc.2 c19
        refine e_aload_n (show pAt 48 37 = some (37, .aload_n 0, 1, []) from by decide +kernel) rfl (ra (by decide)) ?_
        refine e_bipush (c := 40) (show pAt 48 38 = some (38, .bipush 40, 2, []) from by decide +kernel) (by decide) ?_
        refine Ends.call (show pAt 48 40 = some (40, .invokevirtual 36, 3, [50, 2, 0, 0, 3007, 3009, 32]) from by decide +kernel) (isRet_none rfl) rfl (call_this (show HS h15 from hs_h15) rfl rfl (by decide)) (Ends.mono vc ?_)
        rintro _ h20 ⟨r21, rfl, hs_h20, vc⟩
        refine e_if (t := 71) (show pAt 48 43 = some (43, .ifCond .eq 28, 3, []) from by decide +kernel) rfl (fun c23 => ?_) (fun c23 => ?_)
        · replace vc := vc.1 c23
          exact vc
        · replace vc := vc.2 c23
          refine e_aload_n (show pAt 48 46 = some (46, .aload_n 0, 1, []) from by decide +kernel) rfl (ra (by decide)) ?_
          refine e_iload_n (show pAt 48 47 = some (47, .iload_n 1, 1, []) from by decide +kernel) rfl ?_
          refine e_iconst (c := 1) (show pAt 48 48 = some (48, .iconst 1, 1, []) from by decide +kernel) (by decide) ?_
          refine e_iadd (show pAt 48 49 = some (49, .iadd, 1, []) from by decide +kernel) ?_
          refine Ends.call (show pAt 48 50 = some (50, .invokevirtual 47, 3, [46, 2, 0, 0, 3074, 3076, 36]) from by decide +kernel) (isRet_none rfl) rfl (call_this (show HS h20 from hs_h20) rfl rfl (by decide)) (Ends.mono vc ?_)
          rintro _ h24 ⟨r25, rfl, hs_h24, vc⟩
          refine e_if (t := 69) (show pAt 48 53 = some (53, .ifCond .eq 16, 3, []) from by decide +kernel) rfl (fun c27 => ?_) (fun c27 => ?_)
          · replace vc := vc.1 c27
            refine e_iconst (c := 0) (show pAt 48 69 = some (69, .iconst 0, 1, []) from by decide +kernel) (by decide) ?_
            exact e_retZ (show pAt 48 70 = some (70, .ireturn, 1, []) from by decide +kernel) rfl (by decide) vc
          · replace vc := vc.2 c27
            refine e_aload_n (show pAt 48 56 = some (56, .aload_n 0, 1, []) from by decide +kernel) rfl (ra (by decide)) ?_
            refine e_bipush (c := 41) (show pAt 48 57 = some (57, .bipush 41, 2, []) from by decide +kernel) (by decide) ?_
            refine Ends.call (show pAt 48 59 = some (59, .invokevirtual 36, 3, [50, 2, 0, 0, 3007, 3009, 32]) from by decide +kernel) (isRet_none rfl) rfl (call_this (show HS h24 from hs_h24) rfl rfl (by decide)) (Ends.mono vc ?_)
            rintro _ h28 ⟨r29, rfl, hs_h28, vc⟩
            refine e_if (t := 69) (show pAt 48 62 = some (62, .ifCond .eq 7, 3, []) from by decide +kernel) rfl (fun c31 => ?_) (fun c31 => ?_)
            · replace vc := vc.1 c31
              refine e_iconst (c := 0) (show pAt 48 69 = some (69, .iconst 0, 1, []) from by decide +kernel) (by decide) ?_
              exact e_retZ (show pAt 48 70 = some (70, .ireturn, 1, []) from by decide +kernel) rfl (by decide) vc
            · replace vc := vc.2 c31
              refine e_iconst (c := 1) (show pAt 48 65 = some (65, .iconst 1, 1, []) from by decide +kernel) (by decide) ?_
              refine e_goto (t := 70) (show pAt 48 66 = some (66, .goto 4, 3, []) from by decide +kernel) rfl ?_
              exact e_retZ (show pAt 48 70 = some (70, .ireturn, 1, []) from by decide +kernel) rfl (by decide) vc
    · replace vc := vc.2 c18
      refine e_aload_n (show pAt 48 14 = some (14, .aload_n 0, 1, []) from by decide +kernel) rfl (ra (by decide)) ?_
      refine e_iload_n (show pAt 48 15 = some (15, .iload_n 1, 1, []) from by decide +kernel) rfl ?_
      refine e_iconst (c := 1) (show pAt 48 16 = some (16, .iconst 1, 1, []) from by decide +kernel) (by decide) ?_
      refine e_iadd (show pAt 48 17 = some (17, .iadd, 1, []) from by decide +kernel) ?_
      refine Ends.call (show pAt 48 18 = some (18, .invokevirtual 75, 3, [48, 2, 0, 0, 3082, 3084, 38]) from by decide +kernel) (isRet_none rfl) rfl (call_this (show HS h15 from hs_h15) rfl rfl (by decide)) (Ends.mono vc ?_)
      rintro _ h32 ⟨r33, rfl, hs_h32, vc⟩
      refine e_istore_n (show pAt 48 21 = some (21, .istore_n 2, 1, []) from by decide +kernel) ⟨Nat.le_of_ble_eq_true rfl, rfl⟩ rfl ?_
      refine e_aload_n (show pAt 48 22 = some (22, .aload_n 0, 1, []) from by decide +kernel) rfl (ra (by decide)) ?_
      obtain ⟨c35, vc⟩ := vc
      refine e_gR (b := q) (show pAt 48 23 = some (23, .getfield 18, 3, [4, 3, 0, 1201]) from by decide +kernel) (show HS h32 from hs_h32) rfl (yq (P := fun q => decide (44 < 1000) && decide (q < 1000) && decide (SHl[44]? = some (.inr 4)) && decide (3 < vwN 4) && isRefTy (vwTy 4 3)) hY (by decide +kernel)) c35 ?_
      refine e_iconst (c := (-1)) (show pAt 48 26 = some (26, .iconst (-1), 1, []) from by decide +kernel) (by decide) ?_
      refine Ends.call (show pAt 48 27 = some (27, .invokevirtual 71, 3, [55, 2, 0, 1, 3086, 3088, 39]) from by decide +kernel) (isRet_none rfl) rfl (call_this (show HS h32 from hs_h32) rfl rfl (yq (P := fun q => decide (q < 1000) && decide (SHl[q]? = some (.inr (mCi 55))) && decide (mCi 55 < 8)) hY (by decide +kernel))) (Ends.mono vc ?_)
      rintro _ h36 ⟨rfl, hs_h36, vc⟩
      refine e_iload_n (show pAt 48 30 = some (30, .iload_n 2, 1, []) from by decide +kernel) rfl ?_
      exact e_retZ (show pAt 48 31 = some (31, .ireturn, 1, []) from by decide +kernel) rfl vc.1 vc.2

theorem w_ro71 {X : Scr} {dp : Nat} {h : Hp} {Q : Option Value → Hp → Prop} {q : Nat} (hY : YQ q) (d : Int32) (hs : HS h)
    (vc : Ends X dp 52 0 [.ref 44, .ref (OLDB + 6), .retAddr 0] [] h (fun rv h1 => ∃ r2, rv = some (.int r2) ∧ HS h1 ∧ ((condB .ge r2 0 = true → Ends X dp 52 0 [.ref 44, .ref (OLDB + 7), .retAddr 0] [] h1 (fun rv h5 => ∃ r6, rv = some (.int r6) ∧ HS h5 ∧ ((condB .ge r6 0 = true → Ends X dp 45 0 [.ref 44, .retAddr 0, .retAddr 0] [] h5 (fun rv h9 => ∃ r10, rv = some (.int r10) ∧ HS h9 ∧ ((condB .ge r10 0 = true → (h9.2.2.2 44 3 = some q ∧ Ends X dp 60 0 [.int r2, .int r6, .int r10] [] h9 (fun rv h14 => ∃ r15, rv = some (.int r15) ∧ HS h14 ∧ Ends X dp 55 0 [.ref q, .int r15] [] h14 (fun rv h17 => rv = none ∧ HS h17 ∧ Q (some (.int 1)) h17)))) ∧ (condB .ge r10 0 = false → Q (some (.int 0)) h9)))) ∧ (condB .ge r6 0 = false → Q (some (.int 0)) h5)))) ∧ (condB .ge r2 0 = false → Q (some (.int 0)) h1)))) :
    Ends X (dp + 1) 48 71 [.ref 44, .int d, .retAddr 0, .retAddr 0, .retAddr 0] [] h Q := by
  have ra : ∀ {a : Nat}, a < 1000 → a ≤ OLDB := fun h => by have := OLDB_eq; omega
  have hqr := yq_rng hY
  have hOB := OLDB_eq
  refine e_aload_n (show pAt 48 71 = some (71, .aload_n 0, 1, []) from by decide +kernel) rfl (ra (by decide)) ?_
  refine e_ldcS (show pAt 48 72 = some (72, .ldc 78, 2, [1, 3, 3090]) from by decide +kernel) (by decide) ?_
  refine Ends.call (show pAt 48 74 = some (74, .invokevirtual 80, 3, [52, 2, 0, 0, 3091, 3093, 40]) from by decide +kernel) (isRet_none rfl) rfl (call_this (show HS h from hs) rfl rfl (by decide)) (Ends.mono vc ?_)
  rintro _ h1 ⟨r2, rfl, hs_h1, vc⟩
  refine e_istore_n (show pAt 48 77 = some (77, .istore_n 2, 1, []) from by decide +kernel) ⟨Nat.le_of_ble_eq_true rfl, rfl⟩ rfl ?_
  refine e_iload_n (show pAt 48 78 = some (78, .iload_n 2, 1, []) from by decide +kernel) rfl ?_
  refine e_if (t := 86) (show pAt 48 79 = some (79, .ifCond .ge 7, 3, []) from by decide +kernel) rfl (fun c4 => ?_) (fun c4 => ?_)
  · replace vc := vc.1 c4
    refine e_aload_n (show pAt 48 86 = some (86, .aload_n 0, 1, []) from by decide +kernel) rfl (ra (by decide)) ?_
    refine e_ldcS (show pAt 48 87 = some (87, .ldc 84, 2, [1, 4, 3150]) from by decide +kernel) (by decide) ?_
    refine Ends.call (show pAt 48 89 = some (89, .invokevirtual 80, 3, [52, 2, 0, 0, 3091, 3093, 40]) from by decide +kernel) (isRet_none rfl) rfl (call_this (show HS h1 from hs_h1) rfl rfl (by decide)) (Ends.mono vc ?_)
    rintro _ h5 ⟨r6, rfl, hs_h5, vc⟩
    refine e_istore_n (show pAt 48 92 = some (92, .istore_n 3, 1, []) from by decide +kernel) ⟨Nat.le_of_ble_eq_true rfl, rfl⟩ rfl ?_
    refine e_iload_n (show pAt 48 93 = some (93, .iload_n 3, 1, []) from by decide +kernel) rfl ?_
    refine e_if (t := 101) (show pAt 48 94 = some (94, .ifCond .ge 7, 3, []) from by decide +kernel) rfl (fun c8 => ?_) (fun c8 => ?_)
    · replace vc := vc.1 c8
      refine e_aload_n (show pAt 48 101 = some (101, .aload_n 0, 1, []) from by decide +kernel) rfl (ra (by decide)) ?_
      refine Ends.call (show pAt 48 102 = some (102, .invokevirtual 44, 3, [45, 1, 0, 0, 3070, 3072, 35]) from by decide +kernel) (isRet_none rfl) rfl (call_this (show HS h5 from hs_h5) rfl rfl (by decide)) (Ends.mono vc ?_)
      rintro _ h9 ⟨r10, rfl, hs_h9, vc⟩
      refine e_istore (show pAt 48 105 = some (105, .istore 4, 2, []) from by decide +kernel) ⟨Nat.le_of_ble_eq_true rfl, rfl⟩ rfl ?_
      refine e_iload (show pAt 48 107 = some (107, .iload 4, 2, []) from by decide +kernel) rfl ?_
      refine e_if (t := 114) (show pAt 48 109 = some (109, .ifCond .ge 5, 3, []) from by decide +kernel) rfl (fun c12 => ?_) (fun c12 => ?_)
      · replace vc := vc.1 c12
        refine e_aload_n (show pAt 48 114 = some (114, .aload_n 0, 1, []) from by decide +kernel) rfl (ra (by decide)) ?_
        obtain ⟨c13, vc⟩ := vc
        refine e_gR (b := q) (show pAt 48 115 = some (115, .getfield 18, 3, [4, 3, 0, 1201]) from by decide +kernel) (show HS h9 from hs_h9) rfl (yq (P := fun q => decide (44 < 1000) && decide (q < 1000) && decide (SHl[44]? = some (.inr 4)) && decide (3 < vwN 4) && isRefTy (vwTy 4 3)) hY (by decide +kernel)) c13 ?_
        refine e_iload_n (show pAt 48 118 = some (118, .iload_n 2, 1, []) from by decide +kernel) rfl ?_
        refine e_iload_n (show pAt 48 119 = some (119, .iload_n 3, 1, []) from by decide +kernel) rfl ?_
        refine e_iload (show pAt 48 120 = some (120, .iload 4, 2, []) from by decide +kernel) rfl ?_
        refine Ends.call (show pAt 48 122 = some (122, .invokestatic 86, 3, [60, 3, 2, 1, 3151, 3152, 0]) from by decide +kernel) (isRet_none rfl) rfl rfl (Ends.mono vc ?_)
        rintro _ h14 ⟨r15, rfl, hs_h14, vc⟩
        refine Ends.call (show pAt 48 125 = some (125, .invokevirtual 71, 3, [55, 2, 0, 1, 3086, 3088, 39]) from by decide +kernel) (isRet_none rfl) rfl (call_this (show HS h14 from hs_h14) rfl rfl (yq (P := fun q => decide (q < 1000) && decide (SHl[q]? = some (.inr (mCi 55))) && decide (mCi 55 < 8)) hY (by decide +kernel))) (Ends.mono vc ?_)
        rintro _ h17 ⟨rfl, hs_h17, vc⟩
        refine e_iconst (c := 1) (show pAt 48 128 = some (128, .iconst 1, 1, []) from by decide +kernel) (by decide) ?_
        exact e_retZ (show pAt 48 129 = some (129, .ireturn, 1, []) from by decide +kernel) rfl (by decide) vc
      · replace vc := vc.2 c12
        refine e_iconst (c := 0) (show pAt 48 112 = some (112, .iconst 0, 1, []) from by decide +kernel) (by decide) ?_
        exact e_retZ (show pAt 48 113 = some (113, .ireturn, 1, []) from by decide +kernel) rfl (by decide) vc
    · replace vc := vc.2 c8
      refine e_iconst (c := (-1)) (show pAt 48 97 = some (97, .iconst (-1), 1, []) from by decide +kernel) (by decide) ?_
      refine e_goto (t := 105) (show pAt 48 98 = some (98, .goto 7, 3, []) from by decide +kernel) rfl ?_
      refine e_istore (show pAt 48 105 = some (105, .istore 4, 2, []) from by decide +kernel) ⟨Nat.le_of_ble_eq_true rfl, rfl⟩ rfl ?_
      refine e_iload (show pAt 48 107 = some (107, .iload 4, 2, []) from by decide +kernel) rfl ?_
      refine e_if (t := 114) (show pAt 48 109 = some (109, .ifCond .ge 5, 3, []) from by decide +kernel) rfl (fun c20 => absurd c20 (by decide)) (fun c20 => ?_)
      refine e_iconst (c := 0) (show pAt 48 112 = some (112, .iconst 0, 1, []) from by decide +kernel) (by decide) ?_
      exact e_retZ (show pAt 48 113 = some (113, .ireturn, 1, []) from by decide +kernel) rfl (by decide) vc
  · replace vc := vc.2 c4
    refine e_iconst (c := (-1)) (show pAt 48 82 = some (82, .iconst (-1), 1, []) from by decide +kernel) (by decide) ?_
    refine e_goto (t := 92) (show pAt 48 83 = some (83, .goto 9, 3, []) from by decide +kernel) rfl ?_
    refine e_istore_n (show pAt 48 92 = some (92, .istore_n 3, 1, []) from by decide +kernel) ⟨Nat.le_of_ble_eq_true rfl, rfl⟩ rfl ?_
    refine e_iload_n (show pAt 48 93 = some (93, .iload_n 3, 1, []) from by decide +kernel) rfl ?_
    refine e_if (t := 101) (show pAt 48 94 = some (94, .ifCond .ge 7, 3, []) from by decide +kernel) rfl (fun c21 => absurd c21 (by decide)) (fun c21 => ?_)
    refine e_iconst (c := (-1)) (show pAt 48 97 = some (97, .iconst (-1), 1, []) from by decide +kernel) (by decide) ?_
    refine e_goto (t := 105) (show pAt 48 98 = some (98, .goto 7, 3, []) from by decide +kernel) rfl ?_
    refine e_istore (show pAt 48 105 = some (105, .istore 4, 2, []) from by decide +kernel) ⟨Nat.le_of_ble_eq_true rfl, rfl⟩ rfl ?_
    refine e_iload (show pAt 48 107 = some (107, .iload 4, 2, []) from by decide +kernel) rfl ?_
    refine e_if (t := 114) (show pAt 48 109 = some (109, .ifCond .ge 5, 3, []) from by decide +kernel) rfl (fun c22 => absurd c22 (by decide)) (fun c22 => ?_)
    refine e_iconst (c := 0) (show pAt 48 112 = some (112, .iconst 0, 1, []) from by decide +kernel) (by decide) ?_
    exact e_retZ (show pAt 48 113 = some (113, .ireturn, 1, []) from by decide +kernel) rfl (by decide) vc

theorem w_rb0 {X : Scr} {dp : Nat} {h : Hp} {Q : Option Value → Hp → Prop} {q : Nat} (hY : YQ q) (d : Int32) (hs : HS h)
    (vc : Ends X dp 48 0 [.ref 44, .int d, .retAddr 0, .retAddr 0, .retAddr 0] [] h (fun rv h1 => ∃ r2, rv = some (.int r2) ∧ HS h1 ∧ Ends X (dp + 1) 47 8 [.ref 44, .int d, .int r2, .int 0] [] h1 Q)) :
    Ends X (dp + 1) 47 0 [.ref 44, .int d, .retAddr 0, .retAddr 0] [] h Q := by
  have ra : ∀ {a : Nat}, a < 1000 → a ≤ OLDB := fun h => by have := OLDB_eq; omega
  have hqr := yq_rng hY
  have hOB := OLDB_eq
  refine e_aload_n (show pAt 47 0 = some (0, .aload_n 0, 1, []) from by decide +kernel) rfl (ra (by decide)) ?_
  refine e_iload_n (show pAt 47 1 = some (1, .iload_n 1, 1, []) from by decide +kernel) rfl ?_
  refine Ends.call (show pAt 47 2 = some (2, .invokevirtual 75, 3, [48, 2, 0, 0, 3082, 3084, 38]) from by decide +kernel) (isRet_none rfl) rfl (call_this (show HS h from hs) rfl rfl (by decide)) (Ends.mono vc ?_)
  rintro _ h1 ⟨r2, rfl, hs_h1, vc⟩
  refine e_istore_n (show pAt 47 5 = some (5, .istore_n 2, 1, []) from by decide +kernel) ⟨Nat.le_of_ble_eq_true rfl, rfl⟩ rfl ?_
  refine e_iconst (c := 0) (show pAt 47 6 = some (6, .iconst 0, 1, []) from by decide +kernel) (by decide) ?_
  refine e_istore_n (show pAt 47 7 = some (7, .istore_n 3, 1, []) from by decide +kernel) ⟨Nat.le_of_ble_eq_true rfl, rfl⟩ rfl ?_
  exact vc

theorem w_rb1 {X : Scr} {dp : Nat} {h : Hp} {Q : Option Value → Hp → Prop} {q : Nat} (hY : YQ q) (d : Int32) (r : Int32) (i : Int32) (hs : HS h)
    (vc : ((condB .ge i 100 = true → (r = 0 ∨ r = 1) ∧ Q (some (.int r)) h) ∧ (condB .ge i 100 = false → ((condB .eq r 0 = true → (r = 0 ∨ r = 1) ∧ Q (some (.int r)) h) ∧ (condB .eq r 0 = false → Ends X dp 50 0 [.ref 44, .int 38] [] h (fun rv h3 => ∃ r4, rv = some (.int r4) ∧ HS h3 ∧ ((condB .eq r4 0 = true → (r = 0 ∨ r = 1) ∧ Q (some (.int r)) h3) ∧ (condB .eq r4 0 = false → Ends X dp 48 0 [.ref 44, .int d, .retAddr 0, .retAddr 0, .retAddr 0] [] h3 (fun rv h7 => ∃ r8, rv = some (.int r8) ∧ HS h7 ∧ (h7.2.2.2 44 3 = some q ∧ Ends X dp 55 0 [.ref q, .int (-2)] [] h7 (fun rv h11 => rv = none ∧ HS h11 ∧ Ends X (dp + 1) 47 8 [.ref 44, .int d, .int r8, .int (i + 1)] [] h11 Q))))))))))) :
    Ends X (dp + 1) 47 8 [.ref 44, .int d, .int r, .int i] [] h Q := by
  have ra : ∀ {a : Nat}, a < 1000 → a ≤ OLDB := fun h => by have := OLDB_eq; omega
  have hqr := yq_rng hY
  have hOB := OLDB_eq
  refine e_iload_n (show pAt 47 8 = some (8, .iload_n 3, 1, []) from by decide +kernel) rfl ?_
  refine e_bipush (c := 100) (show pAt 47 9 = some (9, .bipush 100, 2, []) from by decide +kernel) (by decide) ?_
  refine e_icmp (t := 48) (show pAt 47 11 = some (11, .if_icmp .ge 37, 3, []) from by decide +kernel) rfl (fun c1 => ?_) (fun c1 => ?_)
  · replace vc := vc.1 c1
    refine e_iload_n (show pAt 47 48 = some (48, .iload_n 2, 1, []) from by decide +kernel) rfl ?_
    exact e_retZ (show pAt 47 49 = some (49, .ireturn, 1, []) from by decide +kernel) rfl vc.1 vc.2
  · replace vc := vc.2 c1
    refine e_iload_n (show pAt 47 14 = some (14, .iload_n 2, 1, []) from by decide +kernel) rfl ?_
    refine e_if (t := 48) (show pAt 47 15 = some (15, .ifCond .eq 33, 3, []) from by decide +kernel) rfl (fun c2 => ?_) (fun c2 => ?_)
    · replace vc := vc.1 c2
      refine e_iload_n (show pAt 47 48 = some (48, .iload_n 2, 1, []) from by decide +kernel) rfl ?_
      exact e_retZ (show pAt 47 49 = some (49, .ireturn, 1, []) from by decide +kernel) rfl vc.1 vc.2
    · replace vc := vc.2 c2
      refine e_aload_n (show pAt 47 18 = some (18, .aload_n 0, 1, []) from by decide +kernel) rfl (ra (by decide)) ?_
      refine e_bipush (c := 38) (show pAt 47 19 = some (19, .bipush 38, 2, []) from by decide +kernel) (by decide) ?_
      refine Ends.call (show pAt 47 21 = some (21, .invokevirtual 36, 3, [50, 2, 0, 0, 3007, 3009, 32]) from by decide +kernel) (isRet_none rfl) rfl (call_this (show HS h from hs) rfl rfl (by decide)) (Ends.mono vc ?_)
      rintro _ h3 ⟨r4, rfl, hs_h3, vc⟩
      refine e_if (t := 48) (show pAt 47 24 = some (24, .ifCond .eq 24, 3, []) from by decide +kernel) rfl (fun c6 => ?_) (fun c6 => ?_)
      · replace vc := vc.1 c6
        refine e_iload_n (show pAt 47 48 = some (48, .iload_n 2, 1, []) from by decide +kernel) rfl ?_
        exact e_retZ (show pAt 47 49 = some (49, .ireturn, 1, []) from by decide +kernel) rfl vc.1 vc.2
      · replace vc := vc.2 c6
        refine e_aload_n (show pAt 47 27 = some (27, .aload_n 0, 1, []) from by decide +kernel) rfl (ra (by decide)) ?_
        refine e_iload_n (show pAt 47 28 = some (28, .iload_n 1, 1, []) from by decide +kernel) rfl ?_
        refine Ends.call (show pAt 47 29 = some (29, .invokevirtual 75, 3, [48, 2, 0, 0, 3082, 3084, 38]) from by decide +kernel) (isRet_none rfl) rfl (call_this (show HS h3 from hs_h3) rfl rfl (by decide)) (Ends.mono vc ?_)
        rintro _ h7 ⟨r8, rfl, hs_h7, vc⟩
        refine e_istore_n (show pAt 47 32 = some (32, .istore_n 2, 1, []) from by decide +kernel) ⟨Nat.le_of_ble_eq_true rfl, rfl⟩ rfl ?_
        refine e_aload_n (show pAt 47 33 = some (33, .aload_n 0, 1, []) from by decide +kernel) rfl (ra (by decide)) ?_
        obtain ⟨c10, vc⟩ := vc
        refine e_gR (b := q) (show pAt 47 34 = some (34, .getfield 18, 3, [4, 3, 0, 1201]) from by decide +kernel) (show HS h7 from hs_h7) rfl (yq (P := fun q => decide (44 < 1000) && decide (q < 1000) && decide (SHl[44]? = some (.inr 4)) && decide (3 < vwN 4) && isRefTy (vwTy 4 3)) hY (by decide +kernel)) c10 ?_
        refine e_bipush (c := (-2)) (show pAt 47 37 = some (37, .bipush (-2), 2, []) from by decide +kernel) (by decide) ?_
        refine Ends.call (show pAt 47 39 = some (39, .invokevirtual 71, 3, [55, 2, 0, 1, 3086, 3088, 39]) from by decide +kernel) (isRet_none rfl) rfl (call_this (show HS h7 from hs_h7) rfl rfl (yq (P := fun q => decide (q < 1000) && decide (SHl[q]? = some (.inr (mCi 55))) && decide (mCi 55 < 8)) hY (by decide +kernel))) (Ends.mono vc ?_)
        rintro _ h11 ⟨rfl, hs_h11, vc⟩
        refine e_iinc (c := 1) (show pAt 47 42 = some (42, .iinc 3 1, 3, []) from by decide +kernel) rfl rfl (by decide) rfl ?_
        refine e_goto (t := 8) (show pAt 47 45 = some (45, .goto (-37), 3, []) from by decide +kernel) rfl ?_
        exact vc

theorem w_re0 {X : Scr} {dp : Nat} {h : Hp} {Q : Option Value → Hp → Prop} {q : Nat} (hY : YQ q) (d : Int32) (hs : HS h)
    (vc : Ends X dp 47 0 [.ref 44, .int d, .retAddr 0, .retAddr 0] [] h (fun rv h1 => ∃ r2, rv = some (.int r2) ∧ HS h1 ∧ Ends X (dp + 1) 46 8 [.ref 44, .int d, .int r2, .int 0] [] h1 Q)) :
    Ends X (dp + 1) 46 0 [.ref 44, .int d, .retAddr 0, .retAddr 0] [] h Q := by
  have ra : ∀ {a : Nat}, a < 1000 → a ≤ OLDB := fun h => by have := OLDB_eq; omega
  have hqr := yq_rng hY
  have hOB := OLDB_eq
  refine e_aload_n (show pAt 46 0 = some (0, .aload_n 0, 1, []) from by decide +kernel) rfl (ra (by decide)) ?_
  refine e_iload_n (show pAt 46 1 = some (1, .iload_n 1, 1, []) from by decide +kernel) rfl ?_
  refine Ends.call (show pAt 46 2 = some (2, .invokevirtual 68, 3, [47, 2, 0, 0, 3078, 3080, 37]) from by decide +kernel) (isRet_none rfl) rfl (call_this (show HS h from hs) rfl rfl (by decide)) (Ends.mono vc ?_)
  rintro _ h1 ⟨r2, rfl, hs_h1, vc⟩
  refine e_istore_n (show pAt 46 5 = some (5, .istore_n 2, 1, []) from by decide +kernel) ⟨Nat.le_of_ble_eq_true rfl, rfl⟩ rfl ?_
  refine e_iconst (c := 0) (show pAt 46 6 = some (6, .iconst 0, 1, []) from by decide +kernel) (by decide) ?_
  refine e_istore_n (show pAt 46 7 = some (7, .istore_n 3, 1, []) from by decide +kernel) ⟨Nat.le_of_ble_eq_true rfl, rfl⟩ rfl ?_
  exact vc

theorem w_re1 {X : Scr} {dp : Nat} {h : Hp} {Q : Option Value → Hp → Prop} {q : Nat} (hY : YQ q) (d : Int32) (r : Int32) (i : Int32) (hs : HS h)
    (vc : ((condB .ge i 100 = true → (r = 0 ∨ r = 1) ∧ Q (some (.int r)) h) ∧ (condB .ge i 100 = false → ((condB .eq r 0 = true → (r = 0 ∨ r = 1) ∧ Q (some (.int r)) h) ∧ (condB .eq r 0 = false → Ends X dp 50 0 [.ref 44, .int 124] [] h (fun rv h3 => ∃ r4, rv = some (.int r4) ∧ HS h3 ∧ ((condB .eq r4 0 = true → (r = 0 ∨ r = 1) ∧ Q (some (.int r)) h3) ∧ (condB .eq r4 0 = false → Ends X dp 47 0 [.ref 44, .int d, .retAddr 0, .retAddr 0] [] h3 (fun rv h7 => ∃ r8, rv = some (.int r8) ∧ HS h7 ∧ (h7.2.2.2 44 3 = some q ∧ Ends X dp 55 0 [.ref q, .int (-3)] [] h7 (fun rv h11 => rv = none ∧ HS h11 ∧ Ends X (dp + 1) 46 8 [.ref 44, .int d, .int r8, .int (i + 1)] [] h11 Q))))))))))) :
    Ends X (dp + 1) 46 8 [.ref 44, .int d, .int r, .int i] [] h Q := by
  have ra : ∀ {a : Nat}, a < 1000 → a ≤ OLDB := fun h => by have := OLDB_eq; omega
  have hqr := yq_rng hY
  have hOB := OLDB_eq
  refine e_iload_n (show pAt 46 8 = some (8, .iload_n 3, 1, []) from by decide +kernel) rfl ?_
  refine e_bipush (c := 100) (show pAt 46 9 = some (9, .bipush 100, 2, []) from by decide +kernel) (by decide) ?_
  refine e_icmp (t := 48) (show pAt 46 11 = some (11, .if_icmp .ge 37, 3, []) from by decide +kernel) rfl (fun c1 => ?_) (fun c1 => ?_)
  · replace vc := vc.1 c1
    refine e_iload_n (show pAt 46 48 = some (48, .iload_n 2, 1, []) from by decide +kernel) rfl ?_
    exact e_retZ (show pAt 46 49 = some (49, .ireturn, 1, []) from by decide +kernel) rfl vc.1 vc.2
  · replace vc := vc.2 c1
    refine e_iload_n (show pAt 46 14 = some (14, .iload_n 2, 1, []) from by decide +kernel) rfl ?_
    refine e_if (t := 48) (show pAt 46 15 = some (15, .ifCond .eq 33, 3, []) from by decide +kernel) rfl (fun c2 => ?_) (fun c2 => ?_)
    · replace vc := vc.1 c2
      refine e_iload_n (show pAt 46 48 = some (48, .iload_n 2, 1, []) from by decide +kernel) rfl ?_
      exact e_retZ (show pAt 46 49 = some (49, .ireturn, 1, []) from by decide +kernel) rfl vc.1 vc.2
    · replace vc := vc.2 c2
      refine e_aload_n (show pAt 46 18 = some (18, .aload_n 0, 1, []) from by decide +kernel) rfl (ra (by decide)) ?_
      refine e_bipush (c := 124) (show pAt 46 19 = some (19, .bipush 124, 2, []) from by decide +kernel) (by decide) ?_
      refine Ends.call (show pAt 46 21 = some (21, .invokevirtual 36, 3, [50, 2, 0, 0, 3007, 3009, 32]) from by decide +kernel) (isRet_none rfl) rfl (call_this (show HS h from hs) rfl rfl (by decide)) (Ends.mono vc ?_)
      rintro _ h3 ⟨r4, rfl, hs_h3, vc⟩
      refine e_if (t := 48) (show pAt 46 24 = some (24, .ifCond .eq 24, 3, []) from by decide +kernel) rfl (fun c6 => ?_) (fun c6 => ?_)
      · replace vc := vc.1 c6
        refine e_iload_n (show pAt 46 48 = some (48, .iload_n 2, 1, []) from by decide +kernel) rfl ?_
        exact e_retZ (show pAt 46 49 = some (49, .ireturn, 1, []) from by decide +kernel) rfl vc.1 vc.2
      · replace vc := vc.2 c6
        refine e_aload_n (show pAt 46 27 = some (27, .aload_n 0, 1, []) from by decide +kernel) rfl (ra (by decide)) ?_
        refine e_iload_n (show pAt 46 28 = some (28, .iload_n 1, 1, []) from by decide +kernel) rfl ?_
        refine Ends.call (show pAt 46 29 = some (29, .invokevirtual 68, 3, [47, 2, 0, 0, 3078, 3080, 37]) from by decide +kernel) (isRet_none rfl) rfl (call_this (show HS h3 from hs_h3) rfl rfl (by decide)) (Ends.mono vc ?_)
        rintro _ h7 ⟨r8, rfl, hs_h7, vc⟩
        refine e_istore_n (show pAt 46 32 = some (32, .istore_n 2, 1, []) from by decide +kernel) ⟨Nat.le_of_ble_eq_true rfl, rfl⟩ rfl ?_
        refine e_aload_n (show pAt 46 33 = some (33, .aload_n 0, 1, []) from by decide +kernel) rfl (ra (by decide)) ?_
        obtain ⟨c10, vc⟩ := vc
        refine e_gR (b := q) (show pAt 46 34 = some (34, .getfield 18, 3, [4, 3, 0, 1201]) from by decide +kernel) (show HS h7 from hs_h7) rfl (yq (P := fun q => decide (44 < 1000) && decide (q < 1000) && decide (SHl[44]? = some (.inr 4)) && decide (3 < vwN 4) && isRefTy (vwTy 4 3)) hY (by decide +kernel)) c10 ?_
        refine e_bipush (c := (-3)) (show pAt 46 37 = some (37, .bipush (-3), 2, []) from by decide +kernel) (by decide) ?_
        refine Ends.call (show pAt 46 39 = some (39, .invokevirtual 71, 3, [55, 2, 0, 1, 3086, 3088, 39]) from by decide +kernel) (isRet_none rfl) rfl (call_this (show HS h7 from hs_h7) rfl rfl (yq (P := fun q => decide (q < 1000) && decide (SHl[q]? = some (.inr (mCi 55))) && decide (mCi 55 < 8)) hY (by decide +kernel))) (Ends.mono vc ?_)
        rintro _ h11 ⟨rfl, hs_h11, vc⟩
        refine e_iinc (c := 1) (show pAt 46 42 = some (42, .iinc 3 1, 3, []) from by decide +kernel) rfl rfl (by decide) rfl ?_
        refine e_goto (t := 8) (show pAt 46 45 = some (45, .goto (-37), 3, []) from by decide +kernel) rfl ?_
        exact vc

theorem w_rc {X : Scr} {dp : Nat} {h : Hp} {Q : Option Value → Hp → Prop} {q : Nat} (hY : YQ q) (hs : HS h)
    (vc : Ends X dp 44 0 [.ref 44] [] h (fun rv h1 => ∃ r2, rv = some (.int r2) ∧ HS h1 ∧ ((condB .lt r2 0 = true → Q (some (.int 0)) h1) ∧ (condB .lt r2 0 = false → Ends X dp 50 0 [.ref 44, .int 32] [] h1 (fun rv h5 => ∃ r6, rv = some (.int r6) ∧ HS h5 ∧ ((condB .ne r6 0 = true → Ends X dp 45 0 [.ref 44, .retAddr 0, .retAddr 0] [] h5 (fun rv h9 => ∃ r10, rv = some (.int r10) ∧ HS h9 ∧ ((condB .lt r10 0 = true → Q (some (.int 0)) h9) ∧ (condB .lt r10 0 = false → Ends X dp 50 0 [.ref 44, .int 32] [] h9 (fun rv h13 => ∃ r14, rv = some (.int r14) ∧ HS h13 ∧ ((condB .eq r14 0 = true → Q (some (.int 0)) h13) ∧ (condB .eq r14 0 = false → Ends X dp 46 0 [.ref 44, .int 0, .retAddr 0, .retAddr 0] [] h13 (fun rv h17 => ∃ r18, rv = some (.int r18) ∧ HS h17 ∧ ((condB .ne r18 0 = true → (h17.2.2.2 44 3 = some q ∧ Ends X dp 56 0 [.ref q, .int r2, .int r10] [] h17 (fun rv h22 => rv = none ∧ HS h22 ∧ Q (some (.int 1)) h22))) ∧ (condB .ne r18 0 = false → Q (some (.int 0)) h17)))))))))) ∧ (condB .ne r6 0 = false → Q (some (.int 0)) h5))))))) :
    Ends X (dp + 1) 43 0 [.ref 44, .retAddr 0, .retAddr 0] [] h Q := by
  have ra : ∀ {a : Nat}, a < 1000 → a ≤ OLDB := fun h => by have := OLDB_eq; omega
  have hqr := yq_rng hY
  have hOB := OLDB_eq
  refine e_aload_n (show pAt 43 0 = some (0, .aload_n 0, 1, []) from by decide +kernel) rfl (ra (by decide)) ?_
  refine Ends.call (show pAt 43 1 = some (1, .invokevirtual 40, 3, [44, 1, 0, 0, 3003, 3005, 31]) from by decide +kernel) (isRet_none rfl) rfl (call_this (show HS h from hs) rfl rfl (by decide)) (Ends.mono vc ?_)
  rintro _ h1 ⟨r2, rfl, hs_h1, vc⟩
  refine e_istore_n (show pAt 43 4 = some (4, .istore_n 1, 1, []) from by decide +kernel) ⟨Nat.le_of_ble_eq_true rfl, rfl⟩ rfl ?_
  refine e_iload_n (show pAt 43 5 = some (5, .iload_n 1, 1, []) from by decide +kernel) rfl ?_
  refine e_if (t := 18) (show pAt 43 6 = some (6, .ifCond .lt 12, 3, []) from by decide +kernel) rfl (fun c4 => ?_) (fun c4 => ?_)
  · replace vc := vc.1 c4
    refine e_iconst (c := 0) (show pAt 43 18 = some (18, .iconst 0, 1, []) from by decide +kernel) (by decide) ?_
    exact e_retZ (show pAt 43 19 = some (19, .ireturn, 1, []) from by decide +kernel) rfl (by decide) vc
  · replace vc := vc.2 c4
    refine e_aload_n (show pAt 43 9 = some (9, .aload_n 0, 1, []) from by decide +kernel) rfl (ra (by decide)) ?_
    refine e_bipush (c := 32) (show pAt 43 10 = some (10, .bipush 32, 2, []) from by decide +kernel) (by decide) ?_
    refine Ends.call (show pAt 43 12 = some (12, .invokevirtual 36, 3, [50, 2, 0, 0, 3007, 3009, 32]) from by decide +kernel) (isRet_none rfl) rfl (call_this (show HS h1 from hs_h1) rfl rfl (by decide)) (Ends.mono vc ?_)
    rintro _ h5 ⟨r6, rfl, hs_h5, vc⟩
    refine e_if (t := 20) (show pAt 43 15 = some (15, .ifCond .ne 5, 3, []) from by decide +kernel) rfl (fun c8 => ?_) (fun c8 => ?_)
    · replace vc := vc.1 c8
      refine e_aload_n (show pAt 43 20 = some (20, .aload_n 0, 1, []) from by decide +kernel) rfl (ra (by decide)) ?_
      refine Ends.call (show pAt 43 21 = some (21, .invokevirtual 44, 3, [45, 1, 0, 0, 3070, 3072, 35]) from by decide +kernel) (isRet_none rfl) rfl (call_this (show HS h5 from hs_h5) rfl rfl (by decide)) (Ends.mono vc ?_)
      rintro _ h9 ⟨r10, rfl, hs_h9, vc⟩
      refine e_istore_n (show pAt 43 24 = some (24, .istore_n 2, 1, []) from by decide +kernel) ⟨Nat.le_of_ble_eq_true rfl, rfl⟩ rfl ?_
      refine e_iload_n (show pAt 43 25 = some (25, .iload_n 2, 1, []) from by decide +kernel) rfl ?_
      refine e_if (t := 46) (show pAt 43 26 = some (26, .ifCond .lt 20, 3, []) from by decide +kernel) rfl (fun c12 => ?_) (fun c12 => ?_)
      · replace vc := vc.1 c12
        refine e_iconst (c := 0) (show pAt 43 46 = some (46, .iconst 0, 1, []) from by decide +kernel) (by decide) ?_
        exact e_retZ (show pAt 43 47 = some (47, .ireturn, 1, []) from by decide +kernel) rfl (by decide) vc
      · replace vc := vc.2 c12
        refine e_aload_n (show pAt 43 29 = some (29, .aload_n 0, 1, []) from by decide +kernel) rfl (ra (by decide)) ?_
        refine e_bipush (c := 32) (show pAt 43 30 = some (30, .bipush 32, 2, []) from by decide +kernel) (by decide) ?_
        refine Ends.call (show pAt 43 32 = some (32, .invokevirtual 36, 3, [50, 2, 0, 0, 3007, 3009, 32]) from by decide +kernel) (isRet_none rfl) rfl (call_this (show HS h9 from hs_h9) rfl rfl (by decide)) (Ends.mono vc ?_)
        rintro _ h13 ⟨r14, rfl, hs_h13, vc⟩
        refine e_if (t := 46) (show pAt 43 35 = some (35, .ifCond .eq 11, 3, []) from by decide +kernel) rfl (fun c16 => ?_) (fun c16 => ?_)
        · replace vc := vc.1 c16
          refine e_iconst (c := 0) (show pAt 43 46 = some (46, .iconst 0, 1, []) from by decide +kernel) (by decide) ?_
          exact e_retZ (show pAt 43 47 = some (47, .ireturn, 1, []) from by decide +kernel) rfl (by decide) vc
        · replace vc := vc.2 c16
          refine e_aload_n (show pAt 43 38 = some (38, .aload_n 0, 1, []) from by decide +kernel) rfl (ra (by decide)) ?_
          refine e_iconst (c := 0) (show pAt 43 39 = some (39, .iconst 0, 1, []) from by decide +kernel) (by decide) ?_
          refine Ends.call (show pAt 43 40 = some (40, .invokevirtual 47, 3, [46, 2, 0, 0, 3074, 3076, 36]) from by decide +kernel) (isRet_none rfl) rfl (call_this (show HS h13 from hs_h13) rfl rfl (by decide)) (Ends.mono vc ?_)
          rintro _ h17 ⟨r18, rfl, hs_h17, vc⟩
          refine e_if (t := 48) (show pAt 43 43 = some (43, .ifCond .ne 5, 3, []) from by decide +kernel) rfl (fun c20 => ?_) (fun c20 => ?_)
          · replace vc := vc.1 c20
            refine e_aload_n (show pAt 43 48 = some (48, .aload_n 0, 1, []) from by decide +kernel) rfl (ra (by decide)) ?_
            obtain ⟨c21, vc⟩ := vc
            refine e_gR (b := q) (show pAt 43 49 = some (49, .getfield 18, 3, [4, 3, 0, 1201]) from by decide +kernel) (show HS h17 from hs_h17) rfl (yq (P := fun q => decide (44 < 1000) && decide (q < 1000) && decide (SHl[44]? = some (.inr 4)) && decide (3 < vwN 4) && isRefTy (vwTy 4 3)) hY (by decide +kernel)) c21 ?_
            refine e_iload_n (show pAt 43 52 = some (52, .iload_n 1, 1, []) from by decide +kernel) rfl ?_
            refine e_iload_n (show pAt 43 53 = some (53, .iload_n 2, 1, []) from by decide +kernel) rfl ?_
            refine Ends.call (show pAt 43 54 = some (54, .invokevirtual 51, 3, [56, 3, 0, 1, 3154, 3156, 41]) from by decide +kernel) (isRet_none rfl) rfl (call_this (show HS h17 from hs_h17) rfl rfl (yq (P := fun q => decide (q < 1000) && decide (SHl[q]? = some (.inr (mCi 56))) && decide (mCi 56 < 8)) hY (by decide +kernel))) (Ends.mono vc ?_)
            rintro _ h22 ⟨rfl, hs_h22, vc⟩
            refine e_iconst (c := 1) (show pAt 43 57 = some (57, .iconst 1, 1, []) from by decide +kernel) (by decide) ?_
            exact e_retZ (show pAt 43 58 = some (58, .ireturn, 1, []) from by decide +kernel) rfl (by decide) vc
          · replace vc := vc.2 c20
            refine e_iconst (c := 0) (show pAt 43 46 = some (46, .iconst 0, 1, []) from by decide +kernel) (by decide) ?_
            exact e_retZ (show pAt 43 47 = some (47, .ireturn, 1, []) from by decide +kernel) rfl (by decide) vc
    · replace vc := vc.2 c8
      refine e_iconst (c := 0) (show pAt 43 18 = some (18, .iconst 0, 1, []) from by decide +kernel) (by decide) ?_
      exact e_retZ (show pAt 43 19 = some (19, .ireturn, 1, []) from by decide +kernel) rfl (by decide) vc

theorem w_ri0 {X : Scr} {dp : Nat} {h : Hp} {Q : Option Value → Hp → Prop} {q : Nat} (hY : YQ q) (hs : HS h)
    (vc : ((hpQ h q).2.2.2 44 3 = some q ∧ Ends X dp 54 0 [.ref q] [] (hpQ h q) (fun rv h2 => rv = none ∧ HS h2 ∧ Ends X dp 43 0 [.ref 44, .retAddr 0, .retAddr 0] [] (hpI h2 44 2 0) (fun rv h5 => ∃ r6, rv = some (.int r6) ∧ HS h5 ∧ Ends X (dp + 1) 42 24 [.ref 44, .ref q, .int r6, .int 1] [] h5 Q)))) :
    Ends X (dp + 1) 42 0 [.ref 44, .ref q, .retAddr 0, .retAddr 0] [] h Q := by
  have ra : ∀ {a : Nat}, a < 1000 → a ≤ OLDB := fun h => by have := OLDB_eq; omega
  have hqr := yq_rng hY
  have hOB := OLDB_eq
  refine e_aload_n (show pAt 42 0 = some (0, .aload_n 0, 1, []) from by decide +kernel) rfl (ra (by decide)) ?_
  refine e_aload_n (show pAt 42 1 = some (1, .aload_n 1, 1, []) from by decide +kernel) rfl (show q ≤ OLDB by omega) ?_
  refine e_pQ (show pAt 42 2 = some (2, .putfield 18, 3, [4, 3, 0, 1201]) from by decide +kernel) (show HS h from hs) hY ?_
  refine e_aload_n (show pAt 42 5 = some (5, .aload_n 0, 1, []) from by decide +kernel) rfl (ra (by decide)) ?_
  obtain ⟨c1, vc⟩ := vc
  refine e_gR (b := q) (show pAt 42 6 = some (6, .getfield 18, 3, [4, 3, 0, 1201]) from by decide +kernel) (show HS (hpQ h q) from hs_Q hY hs) rfl (yq (P := fun q => decide (44 < 1000) && decide (q < 1000) && decide (SHl[44]? = some (.inr 4)) && decide (3 < vwN 4) && isRefTy (vwTy 4 3)) hY (by decide +kernel)) c1 ?_
  refine Ends.call (show pAt 42 9 = some (9, .invokevirtual 26, 3, [54, 1, 0, 1, 2235, 2237, 29]) from by decide +kernel) (isRet_none rfl) rfl (call_this (show HS (hpQ h q) from hs_Q hY hs) rfl rfl (yq (P := fun q => decide (q < 1000) && decide (SHl[q]? = some (.inr (mCi 54))) && decide (mCi 54 < 8)) hY (by decide +kernel))) (Ends.mono vc ?_)
  rintro _ h2 ⟨rfl, hs_h2, vc⟩
  refine e_aload_n (show pAt 42 12 = some (12, .aload_n 0, 1, []) from by decide +kernel) rfl (ra (by decide)) ?_
  refine e_iconst (c := 0) (show pAt 42 13 = some (13, .iconst 0, 1, []) from by decide +kernel) (by decide) ?_
  refine e_pI (show pAt 42 14 = some (14, .putfield 29, 3, [4, 2, 0, 1200]) from by decide +kernel) (show HS h2 from hs_h2) (by decide) (Or.inl rfl) ?_
  refine e_aload_n (show pAt 42 17 = some (17, .aload_n 0, 1, []) from by decide +kernel) rfl (ra (by decide)) ?_
  refine Ends.call (show pAt 42 18 = some (18, .invokevirtual 32, 3, [43, 1, 0, 0, 2239, 3001, 30]) from by decide +kernel) (isRet_none rfl) rfl (call_this (show HS (hpI h2 44 2 0) from hs_h2) rfl rfl (by decide)) (Ends.mono vc ?_)
  rintro _ h5 ⟨r6, rfl, hs_h5, vc⟩
  refine e_istore_n (show pAt 42 21 = some (21, .istore_n 2, 1, []) from by decide +kernel) ⟨Nat.le_of_ble_eq_true rfl, rfl⟩ rfl ?_
  refine e_iconst (c := 1) (show pAt 42 22 = some (22, .iconst 1, 1, []) from by decide +kernel) (by decide) ?_
  refine e_istore_n (show pAt 42 23 = some (23, .istore_n 3, 1, []) from by decide +kernel) ⟨Nat.le_of_ble_eq_true rfl, rfl⟩ rfl ?_
  exact vc

theorem w_ri1 {X : Scr} {dp : Nat} {h : Hp} {Q : Option Value → Hp → Prop} {q : Nat} (hY : YQ q) (r : Int32) (i : Int32) (hs : HS h)
    (vc : ((condB .ge i 10 = true → ((condB .eq r 0 = true → Q (some (.int (h.2.1 44 2))) h) ∧ (condB .eq r 0 = false → ((condB .ne (h.2.1 44 2) (h.2.1 44 1) = true → Q (some (.int (h.2.1 44 2))) h) ∧ (condB .ne (h.2.1 44 2) (h.2.1 44 1) = false → Q (some (.int (-1))) h))))) ∧ (condB .ge i 10 = false → ((condB .eq r 0 = true → ((condB .eq r 0 = true → Q (some (.int (h.2.1 44 2))) h) ∧ (condB .eq r 0 = false → ((condB .ne (h.2.1 44 2) (h.2.1 44 1) = true → Q (some (.int (h.2.1 44 2))) h) ∧ (condB .ne (h.2.1 44 2) (h.2.1 44 1) = false → Q (some (.int (-1))) h))))) ∧ (condB .eq r 0 = false → ((condB .ge (h.2.1 44 2) (h.2.1 44 1) = true → ((condB .eq r 0 = true → Q (some (.int (h.2.1 44 2))) h) ∧ (condB .eq r 0 = false → ((condB .ne (h.2.1 44 2) (h.2.1 44 1) = true → Q (some (.int (h.2.1 44 2))) h) ∧ (condB .ne (h.2.1 44 2) (h.2.1 44 1) = false → Q (some (.int (-1))) h))))) ∧ (condB .ge (h.2.1 44 2) (h.2.1 44 1) = false → Ends X dp 50 0 [.ref 44, .int 59] [] h (fun rv h10 => ∃ r11, rv = some (.int r11) ∧ HS h10 ∧ ((condB .eq r11 0 = true → Ends X (dp + 1) 42 24 [.ref 44, .ref q, .int 0, .int (i + 1)] [] h10 Q) ∧ (condB .eq r11 0 = false → Ends X dp 43 0 [.ref 44, .retAddr 0, .retAddr 0] [] h10 (fun rv h14 => ∃ r15, rv = some (.int r15) ∧ HS h14 ∧ ((condB .eq r15 0 = true → Ends X (dp + 1) 42 24 [.ref 44, .ref q, .int 0, .int (i + 1)] [] h14 Q) ∧ (condB .eq r15 0 = false → Ends X (dp + 1) 42 24 [.ref 44, .ref q, .int 1, .int (i + 1)] [] h14 Q))))))))))))) :
    Ends X (dp + 1) 42 24 [.ref 44, .ref q, .int r, .int i] [] h Q := by
  have ra : ∀ {a : Nat}, a < 1000 → a ≤ OLDB := fun h => by have := OLDB_eq; omega
  have hqr := yq_rng hY
  have hOB := OLDB_eq
  refine e_iload_n (show pAt 42 24 = some (24, .iload_n 3, 1, []) from by decide +kernel) rfl ?_
  refine e_bipush (c := 10) (show pAt 42 25 = some (25, .bipush 10, 2, []) from by decide +kernel) (by decide) ?_
  refine e_icmp (t := 73) (show pAt 42 27 = some (27, .if_icmp .ge 46, 3, []) from by decide +kernel) rfl (fun c1 => ?_) (fun c1 => ?_)
  · replace vc := vc.1 c1
    refine e_iload_n (show pAt 42 73 = some (73, .iload_n 2, 1, []) from by decide +kernel) rfl ?_
    refine e_if (t := 92) (show pAt 42 74 = some (74, .ifCond .eq 18, 3, []) from by decide +kernel) rfl (fun c2 => ?_) (fun c2 => ?_)
    · replace vc := vc.1 c2
      refine e_aload_n (show pAt 42 92 = some (92, .aload_n 0, 1, []) from by decide +kernel) rfl (ra (by decide)) ?_
      refine e_gIv (v := h.2.1 44 2) (show pAt 42 93 = some (93, .getfield 29, 3, [4, 2, 0, 1200]) from by decide +kernel) (show HS h from hs) rfl (by decide) rfl ?_
      exact e_retI (show pAt 42 96 = some (96, .ireturn, 1, []) from by decide +kernel) rfl vc
    · replace vc := vc.2 c2
      refine e_aload_n (show pAt 42 77 = some (77, .aload_n 0, 1, []) from by decide +kernel) rfl (ra (by decide)) ?_
      refine e_gIv (v := h.2.1 44 2) (show pAt 42 78 = some (78, .getfield 29, 3, [4, 2, 0, 1200]) from by decide +kernel) (show HS h from hs) rfl (by decide) rfl ?_
      refine e_aload_n (show pAt 42 81 = some (81, .aload_n 0, 1, []) from by decide +kernel) rfl (ra (by decide)) ?_
      refine e_gIv (v := h.2.1 44 1) (show pAt 42 82 = some (82, .getfield 22, 3, [4, 1, 0, 1198]) from by decide +kernel) (show HS h from hs) rfl (by decide) rfl ?_
      refine e_icmp (t := 92) (show pAt 42 85 = some (85, .if_icmp .ne 7, 3, []) from by decide +kernel) rfl (fun c3 => ?_) (fun c3 => ?_)
      · replace vc := vc.1 c3
        refine e_aload_n (show pAt 42 92 = some (92, .aload_n 0, 1, []) from by decide +kernel) rfl (ra (by decide)) ?_
        refine e_gIv (v := h.2.1 44 2) (show pAt 42 93 = some (93, .getfield 29, 3, [4, 2, 0, 1200]) from by decide +kernel) (show HS h from hs) rfl (by decide) rfl ?_
        exact e_retI (show pAt 42 96 = some (96, .ireturn, 1, []) from by decide +kernel) rfl vc
      · replace vc := vc.2 c3
        refine e_iconst (c := (-1)) (show pAt 42 88 = some (88, .iconst (-1), 1, []) from by decide +kernel) (by decide) ?_
        refine e_goto (t := 96) (show pAt 42 89 = some (89, .goto 7, 3, []) from by decide +kernel) rfl ?_
        exact e_retI (show pAt 42 96 = some (96, .ireturn, 1, []) from by decide +kernel) rfl vc
  · replace vc := vc.2 c1
    refine e_iload_n (show pAt 42 30 = some (30, .iload_n 2, 1, []) from by decide +kernel) rfl ?_
    refine e_if (t := 73) (show pAt 42 31 = some (31, .ifCond .eq 42, 3, []) from by decide +kernel) rfl (fun c4 => ?_) (fun c4 => ?_)
    · replace vc := vc.1 c4
      refine e_iload_n (show pAt 42 73 = some (73, .iload_n 2, 1, []) from by decide +kernel) rfl ?_
      refine e_if (t := 92) (show pAt 42 74 = some (74, .ifCond .eq 18, 3, []) from by decide +kernel) rfl (fun c5 => ?_) (fun c5 => ?_)
      · replace vc := vc.1 c5
        refine e_aload_n (show pAt 42 92 = some (92, .aload_n 0, 1, []) from by decide +kernel) rfl (ra (by decide)) ?_
        refine e_gIv (v := h.2.1 44 2) (show pAt 42 93 = some (93, .getfield 29, 3, [4, 2, 0, 1200]) from by decide +kernel) (show HS h from hs) rfl (by decide) rfl ?_
        exact e_retI (show pAt 42 96 = some (96, .ireturn, 1, []) from by decide +kernel) rfl vc
      · replace vc := vc.2 c5
        refine e_aload_n (show pAt 42 77 = some (77, .aload_n 0, 1, []) from by decide +kernel) rfl (ra (by decide)) ?_
        refine e_gIv (v := h.2.1 44 2) (show pAt 42 78 = some (78, .getfield 29, 3, [4, 2, 0, 1200]) from by decide +kernel) (show HS h from hs) rfl (by decide) rfl ?_
        refine e_aload_n (show pAt 42 81 = some (81, .aload_n 0, 1, []) from by decide +kernel) rfl (ra (by decide)) ?_
        refine e_gIv (v := h.2.1 44 1) (show pAt 42 82 = some (82, .getfield 22, 3, [4, 1, 0, 1198]) from by decide +kernel) (show HS h from hs) rfl (by decide) rfl ?_
        refine e_icmp (t := 92) (show pAt 42 85 = some (85, .if_icmp .ne 7, 3, []) from by decide +kernel) rfl (fun c6 => ?_) (fun c6 => ?_)
        · replace vc := vc.1 c6
          refine e_aload_n (show pAt 42 92 = some (92, .aload_n 0, 1, []) from by decide +kernel) rfl (ra (by decide)) ?_
          refine e_gIv (v := h.2.1 44 2) (show pAt 42 93 = some (93, .getfield 29, 3, [4, 2, 0, 1200]) from by decide +kernel) (show HS h from hs) rfl (by decide) rfl ?_
          exact e_retI (show pAt 42 96 = some (96, .ireturn, 1, []) from by decide +kernel) rfl vc
        · replace vc := vc.2 c6
          refine e_iconst (c := (-1)) (show pAt 42 88 = some (88, .iconst (-1), 1, []) from by decide +kernel) (by decide) ?_
          refine e_goto (t := 96) (show pAt 42 89 = some (89, .goto 7, 3, []) from by decide +kernel) rfl ?_
          exact e_retI (show pAt 42 96 = some (96, .ireturn, 1, []) from by decide +kernel) rfl vc
    · replace vc := vc.2 c4
      refine e_aload_n (show pAt 42 34 = some (34, .aload_n 0, 1, []) from by decide +kernel) rfl (ra (by decide)) ?_
      refine e_gIv (v := h.2.1 44 2) (show pAt 42 35 = some (35, .getfield 29, 3, [4, 2, 0, 1200]) from by decide +kernel) (show HS h from hs) rfl (by decide) rfl ?_
      refine e_aload_n (show pAt 42 38 = some (38, .aload_n 0, 1, []) from by decide +kernel) rfl (ra (by decide)) ?_
      refine e_gIv (v := h.2.1 44 1) (show pAt 42 39 = some (39, .getfield 22, 3, [4, 1, 0, 1198]) from by decide +kernel) (show HS h from hs) rfl (by decide) rfl ?_
      refine e_icmp (t := 73) (show pAt 42 42 = some (42, .if_icmp .ge 31, 3, []) from by decide +kernel) rfl (fun c7 => ?_) (fun c7 => ?_)
      · replace vc := vc.1 c7
        refine e_iload_n (show pAt 42 73 = some (73, .iload_n 2, 1, []) from by decide +kernel) rfl ?_
        refine e_if (t := 92) (show pAt 42 74 = some (74, .ifCond .eq 18, 3, []) from by decide +kernel) rfl (fun c8 => ?_) (fun c8 => ?_)
        · replace vc := vc.1 c8
          refine e_aload_n (show pAt 42 92 = some (92, .aload_n 0, 1, []) from by decide +kernel) rfl (ra (by decide)) ?_
          refine e_gIv (v := h.2.1 44 2) (show pAt 42 93 = some (93, .getfield 29, 3, [4, 2, 0, 1200]) from by decide +kernel) (show HS h from hs) rfl (by decide) rfl ?_
          exact e_retI (show pAt 42 96 = some (96, .ireturn, 1, []) from by decide +kernel) rfl vc
        · replace vc := vc.2 c8
          refine e_aload_n (show pAt 42 77 = some (77, .aload_n 0, 1, []) from by decide +kernel) rfl (ra (by decide)) ?_
          refine e_gIv (v := h.2.1 44 2) (show pAt 42 78 = some (78, .getfield 29, 3, [4, 2, 0, 1200]) from by decide +kernel) (show HS h from hs) rfl (by decide) rfl ?_
          refine e_aload_n (show pAt 42 81 = some (81, .aload_n 0, 1, []) from by decide +kernel) rfl (ra (by decide)) ?_
          refine e_gIv (v := h.2.1 44 1) (show pAt 42 82 = some (82, .getfield 22, 3, [4, 1, 0, 1198]) from by decide +kernel) (show HS h from hs) rfl (by decide) rfl ?_
          refine e_icmp (t := 92) (show pAt 42 85 = some (85, .if_icmp .ne 7, 3, []) from by decide +kernel) rfl (fun c9 => ?_) (fun c9 => ?_)
          · replace vc := vc.1 c9
            refine e_aload_n (show pAt 42 92 = some (92, .aload_n 0, 1, []) from by decide +kernel) rfl (ra (by decide)) ?_
            refine e_gIv (v := h.2.1 44 2) (show pAt 42 93 = some (93, .getfield 29, 3, [4, 2, 0, 1200]) from by decide +kernel) (show HS h from hs) rfl (by decide) rfl ?_
            exact e_retI (show pAt 42 96 = some (96, .ireturn, 1, []) from by decide +kernel) rfl vc
          · replace vc := vc.2 c9
            refine e_iconst (c := (-1)) (show pAt 42 88 = some (88, .iconst (-1), 1, []) from by decide +kernel) (by decide) ?_
            refine e_goto (t := 96) (show pAt 42 89 = some (89, .goto 7, 3, []) from by decide +kernel) rfl ?_
            exact e_retI (show pAt 42 96 = some (96, .ireturn, 1, []) from by decide +kernel) rfl vc
      · replace vc := vc.2 c7
        refine e_aload_n (show pAt 42 45 = some (45, .aload_n 0, 1, []) from by decide +kernel) rfl (ra (by decide)) ?_
        refine e_bipush (c := 59) (show pAt 42 46 = some (46, .bipush 59, 2, []) from by decide +kernel) (by decide) ?_
        refine Ends.call (show pAt 42 48 = some (48, .invokevirtual 36, 3, [50, 2, 0, 0, 3007, 3009, 32]) from by decide +kernel) (isRet_none rfl) rfl (call_this (show HS h from hs) rfl rfl (by decide)) (Ends.mono vc ?_)
        rintro _ h10 ⟨r11, rfl, hs_h10, vc⟩
        refine e_if (t := 65) (show pAt 42 51 = some (51, .ifCond .eq 14, 3, []) from by decide +kernel) rfl (fun c13 => ?_) (fun c13 => ?_)
        · replace vc := vc.1 c13
          refine e_iconst (c := 0) (show pAt 42 65 = some (65, .iconst 0, 1, []) from by decide +kernel) (by decide) ?_
          refine e_istore_n (show pAt 42 66 = some (66, .istore_n 2, 1, []) from by decide +kernel) ⟨Nat.le_of_ble_eq_true rfl, rfl⟩ rfl ?_
          refine e_iinc (c := 1) (show pAt 42 67 = some (67, .iinc 3 1, 3, []) from by decide +kernel) rfl rfl (by decide) rfl ?_
          refine e_goto (t := 24) (show pAt 42 70 = some (70, .goto (-46), 3, []) from by decide +kernel) rfl ?_
          exact vc
        · replace vc := vc.2 c13
          refine e_aload_n (show pAt 42 54 = some (54, .aload_n 0, 1, []) from by decide +kernel) rfl (ra (by decide)) ?_
          refine Ends.call (show pAt 42 55 = some (55, .invokevirtual 32, 3, [43, 1, 0, 0, 2239, 3001, 30]) from by decide +kernel) (isRet_none rfl) rfl (call_this (show HS h10 from hs_h10) rfl rfl (by decide)) (Ends.mono vc ?_)
          rintro _ h14 ⟨r15, rfl, hs_h14, vc⟩
          refine e_if (t := 65) (show pAt 42 58 = some (58, .ifCond .eq 7, 3, []) from by decide +kernel) rfl (fun c17 => ?_) (fun c17 => ?_)
          · replace vc := vc.1 c17
            refine e_iconst (c := 0) (show pAt 42 65 = some (65, .iconst 0, 1, []) from by decide +kernel) (by decide) ?_
            refine e_istore_n (show pAt 42 66 = some (66, .istore_n 2, 1, []) from by decide +kernel) ⟨Nat.le_of_ble_eq_true rfl, rfl⟩ rfl ?_
            refine e_iinc (c := 1) (show pAt 42 67 = some (67, .iinc 3 1, 3, []) from by decide +kernel) rfl rfl (by decide) rfl ?_
            refine e_goto (t := 24) (show pAt 42 70 = some (70, .goto (-46), 3, []) from by decide +kernel) rfl ?_
            exact vc
          · replace vc := vc.2 c17
            refine e_iconst (c := 1) (show pAt 42 61 = some (61, .iconst 1, 1, []) from by decide +kernel) (by decide) ?_
            refine e_goto (t := 66) (show pAt 42 62 = some (62, .goto 4, 3, []) from by decide +kernel) rfl ?_
            refine e_istore_n (show pAt 42 66 = some (66, .istore_n 2, 1, []) from by decide +kernel) ⟨Nat.le_of_ble_eq_true rfl, rfl⟩ rfl ?_
            refine e_iinc (c := 1) (show pAt 42 67 = some (67, .iinc 3 1, 3, []) from by decide +kernel) rfl rfl (by decide) rfl ?_
            refine e_goto (t := 24) (show pAt 42 70 = some (70, .goto (-46), 3, []) from by decide +kernel) rfl ?_
            exact vc

theorem w_feed {X : Scr} {dp : Nat} {h : Hp} {Q : Option Value → Hp → Prop} (a : Int32) (hs : HS h)
    (vc : ((condB .lt a 0 = true → Q (some (.int (-2))) h) ∧ (condB .lt a 0 = false → ((condB .le a 127 = true → Ends X dp 41 0 [.ref 44, .int a] [] h (fun rv h3 => ∃ r4, rv = some (.int r4) ∧ HS h3 ∧ ((condB .eq r4 0 = true → Q (some (.int (-4))) h3) ∧ (condB .eq r4 0 = false → Q (some (.int (h3.2.1 44 1))) h3)))) ∧ (condB .le a 127 = false → Q (some (.int (-2))) h))))) :
    Ends X (dp + 1) 68 0 [.ref 0, .int a] [] h Q := by
  have ra : ∀ {a : Nat}, a < 1000 → a ≤ OLDB := fun h => by have := OLDB_eq; omega
  refine e_iload_n (show pAt 68 0 = some (0, .iload_n 1, 1, []) from by decide +kernel) rfl ?_
  refine e_if (t := 10) (show pAt 68 1 = some (1, .ifCond .lt 9, 3, []) from by decide +kernel) rfl (fun c1 => ?_) (fun c1 => ?_)
  · replace vc := vc.1 c1
    refine e_bipush (c := (-2)) (show pAt 68 10 = some (10, .bipush (-2), 2, []) from by decide +kernel) (by decide) ?_
    exact e_retI (show pAt 68 12 = some (12, .ireturn, 1, []) from by decide +kernel) rfl vc
  · replace vc := vc.2 c1
    refine e_iload_n (show pAt 68 4 = some (4, .iload_n 1, 1, []) from by decide +kernel) rfl ?_
    refine e_bipush (c := 127) (show pAt 68 5 = some (5, .bipush 127, 2, []) from by decide +kernel) (by decide) ?_
    refine e_icmp (t := 13) (show pAt 68 7 = some (7, .if_icmp .le 6, 3, []) from by decide +kernel) rfl (fun c2 => ?_) (fun c2 => ?_)
    · replace vc := vc.1 c2
      refine e_aload_n (show pAt 68 13 = some (13, .aload_n 0, 1, []) from by decide +kernel) rfl (ra (by decide)) ?_
      refine e_gR (show pAt 68 14 = some (14, .getfield 42, 3, [6, 7, 0, 2029]) from by decide +kernel) (show HS h from hs) rfl (by decide) (hs_ref (show HS h from hs) rfl) ?_
      refine e_iload_n (show pAt 68 17 = some (17, .iload_n 1, 1, []) from by decide +kernel) rfl ?_
      refine Ends.call (show pAt 68 18 = some (18, .invokevirtual 104, 3, [41, 2, 0, 1, 2223, 2225, 27]) from by decide +kernel) (isRet_none rfl) rfl (call_this (show HS h from hs) rfl rfl (by decide)) (Ends.mono vc ?_)
      rintro _ h3 ⟨r4, rfl, hs_h3, vc⟩
      refine e_if (t := 34) (show pAt 68 21 = some (21, .ifCond .eq 13, 3, []) from by decide +kernel) rfl (fun c6 => ?_) (fun c6 => ?_)
      · replace vc := vc.1 c6
        refine e_bipush (c := (-4)) (show pAt 68 34 = some (34, .bipush (-4), 2, []) from by decide +kernel) (by decide) ?_
        exact e_retI (show pAt 68 36 = some (36, .ireturn, 1, []) from by decide +kernel) rfl vc
      · replace vc := vc.2 c6
        refine e_aload_n (show pAt 68 24 = some (24, .aload_n 0, 1, []) from by decide +kernel) rfl (ra (by decide)) ?_
        refine e_gR (show pAt 68 25 = some (25, .getfield 42, 3, [6, 7, 0, 2029]) from by decide +kernel) (show HS h3 from hs_h3) rfl (by decide) (hs_ref (show HS h3 from hs_h3) rfl) ?_
        refine e_gIv (v := h3.2.1 44 1) (show pAt 68 28 = some (28, .getfield 107, 3, [4, 1, 1, 1199]) from by decide +kernel) (show HS h3 from hs_h3) rfl (by decide) rfl ?_
        refine e_goto (t := 36) (show pAt 68 31 = some (31, .goto 5, 3, []) from by decide +kernel) rfl ?_
        exact e_retI (show pAt 68 36 = some (36, .ireturn, 1, []) from by decide +kernel) rfl vc
    · replace vc := vc.2 c2
      refine e_bipush (c := (-2)) (show pAt 68 10 = some (10, .bipush (-2), 2, []) from by decide +kernel) (by decide) ?_
      exact e_retI (show pAt 68 12 = some (12, .ireturn, 1, []) from by decide +kernel) rfl vc

theorem w_mfeed {X : Scr} {dp : Nat} {h : Hp} {Q : Option Value → Hp → Prop} (a : Int32) (hs : HS h)
    (vc : Ends X dp 109 0 [.ref 93, .int a, .int 0, .int 127] [] h (fun rv h1 => ∃ r2, rv = some (.int r2) ∧ HS h1 ∧ ((condB .ne r2 0 = true → ((condB .ne (h1.2.1 93 11) 100 = true → (inB (h1.2.1 93 11) 100 = true ∧ Q (some (.int ((h1.2.1 93 11) + 1))) (hpI (hpI h1 100 (h1.2.1 93 11).toNatClampNeg a) 93 11 ((h1.2.1 93 11) + 1)))) ∧ (condB .ne (h1.2.1 93 11) 100 = false → Q (some (.int (-4))) h1))) ∧ (condB .ne r2 0 = false → Q (some (.int (-2))) h1)))) :
    Ends X (dp + 1) 118 0 [.ref 93, .int a] [] h Q := by
  have ra : ∀ {a : Nat}, a < 1000 → a ≤ OLDB := fun h => by have := OLDB_eq; omega
  refine e_aload_n (show pAt 118 0 = some (0, .aload_n 0, 1, []) from by decide +kernel) rfl (ra (by decide)) ?_
  refine e_iload_n (show pAt 118 1 = some (1, .iload_n 1, 1, []) from by decide +kernel) rfl ?_
  refine e_iconst (c := 0) (show pAt 118 2 = some (2, .iconst 0, 1, []) from by decide +kernel) (by decide) ?_
  refine e_bipush (c := 127) (show pAt 118 3 = some (3, .bipush 127, 2, []) from by decide +kernel) (by decide) ?_
  refine Ends.call (show pAt 118 5 = some (5, .invokevirtual 206, 3, [109, 4, 0, 0, 5081, 5083, 54]) from by decide +kernel) (isRet_none rfl) rfl (call_this (show HS h from hs) rfl rfl (by decide)) (Ends.mono vc ?_)
  rintro _ h1 ⟨r2, rfl, hs_h1, vc⟩
  refine e_if (t := 14) (show pAt 118 8 = some (8, .ifCond .ne 6, 3, []) from by decide +kernel) rfl (fun c4 => ?_) (fun c4 => ?_)
  · replace vc := vc.1 c4
    refine e_aload_n (show pAt 118 14 = some (14, .aload_n 0, 1, []) from by decide +kernel) rfl (ra (by decide)) ?_
    refine e_gIv (v := h1.2.1 93 11) (show pAt 118 15 = some (15, .getfield 44, 3, [7, 11, 0, 4134]) from by decide +kernel) (show HS h1 from hs_h1) rfl (by decide) rfl ?_
    refine e_bipush (c := 100) (show pAt 118 18 = some (18, .bipush 100, 2, []) from by decide +kernel) (by decide) ?_
    refine e_icmp (t := 26) (show pAt 118 20 = some (20, .if_icmp .ne 6, 3, []) from by decide +kernel) rfl (fun c5 => ?_) (fun c5 => ?_)
    · replace vc := vc.1 c5
      refine e_aload_n (show pAt 118 26 = some (26, .aload_n 0, 1, []) from by decide +kernel) rfl (ra (by decide)) ?_
      refine e_gR (show pAt 118 27 = some (27, .getfield 53, 3, [7, 14, 0, 4137]) from by decide +kernel) (show HS h1 from hs_h1) rfl (by decide) (hs_ref (show HS h1 from hs_h1) rfl) ?_
      refine e_aload_n (show pAt 118 30 = some (30, .aload_n 0, 1, []) from by decide +kernel) rfl (ra (by decide)) ?_
      refine e_gIv (v := h1.2.1 93 11) (show pAt 118 31 = some (31, .getfield 44, 3, [7, 11, 0, 4134]) from by decide +kernel) (show HS h1 from hs_h1) rfl (by decide) rfl ?_
      refine e_iload_n (show pAt 118 34 = some (34, .iload_n 1, 1, []) from by decide +kernel) rfl ?_
      obtain ⟨c6, vc⟩ := vc
      refine e_ast (show pAt 118 35 = some (35, .iastore, 1, []) from by decide +kernel) (show HS h1 from hs_h1) (by decide) c6 ?_
      refine e_aload_n (show pAt 118 36 = some (36, .aload_n 0, 1, []) from by decide +kernel) rfl (ra (by decide)) ?_
      refine e_dupR (show pAt 118 37 = some (37, .dup, 1, []) from by decide +kernel) ?_
      refine e_gIv (v := h1.2.1 93 11) (show pAt 118 38 = some (38, .getfield 44, 3, [7, 11, 0, 4134]) from by decide +kernel) (show HS (hpI h1 100 (h1.2.1 93 11).toNatClampNeg a) from hs_h1) rfl (by decide) (by rw [put_ne (by omega)]) ?_
      refine e_iconst (c := 1) (show pAt 118 41 = some (41, .iconst 1, 1, []) from by decide +kernel) (by decide) ?_
      refine e_iadd (show pAt 118 42 = some (42, .iadd, 1, []) from by decide +kernel) ?_
      refine e_pI (show pAt 118 43 = some (43, .putfield 44, 3, [7, 11, 0, 4134]) from by decide +kernel) (show HS (hpI h1 100 (h1.2.1 93 11).toNatClampNeg a) from hs_h1) (by decide) (Or.inl rfl) ?_
      refine e_aload_n (show pAt 118 46 = some (46, .aload_n 0, 1, []) from by decide +kernel) rfl (ra (by decide)) ?_
      refine e_gIv (v := (h1.2.1 93 11) + 1) (show pAt 118 47 = some (47, .getfield 44, 3, [7, 11, 0, 4134]) from by decide +kernel) (show HS (hpI (hpI h1 100 (h1.2.1 93 11).toNatClampNeg a) 93 11 ((h1.2.1 93 11) + 1)) from hs_h1) rfl (by decide) (by rw [put_at]) ?_
      exact e_retI (show pAt 118 50 = some (50, .ireturn, 1, []) from by decide +kernel) rfl vc
    · replace vc := vc.2 c5
      refine e_bipush (c := (-4)) (show pAt 118 23 = some (23, .bipush (-4), 2, []) from by decide +kernel) (by decide) ?_
      exact e_retI (show pAt 118 25 = some (25, .ireturn, 1, []) from by decide +kernel) rfl vc
  · replace vc := vc.2 c4
    refine e_bipush (c := (-2)) (show pAt 118 11 = some (11, .bipush (-2), 2, []) from by decide +kernel) (by decide) ?_
    exact e_retI (show pAt 118 13 = some (13, .ireturn, 1, []) from by decide +kernel) rfl vc

theorem w_cyd {X : Scr} {dp : Nat} {h : Hp} {Q : Option Value → Hp → Prop}  (hs : HS h)
    (vc : ((condB .lt (h.2.1 0 6) 6 = true → (∃ b2 : Nat, (inB (h.2.1 0 6) 6 = true ∧ (h.2.2.2 38 (h.2.1 0 6).toNatClampNeg = some b2 ∧ (b2 < 1000 ∧ Ends X dp 42 0 [.ref 44, .ref b2, .retAddr 0, .retAddr 0] [] h (fun rv h6 => ∃ r7, rv = some (.int r7) ∧ HS h6 ∧ ((condB .lt r7 0 = true → Q (some (.int (h6.2.1 0 6))) (hpI (hpI (hpI h6 44 1 0) 1 12 (h6.2.1 0 6)) 0 6 ((h6.2.1 0 6) + 1))) ∧ (condB .lt r7 0 = false → Q (some (.int ((-10) - r7))) (hpI h6 44 1 0))))))))) ∧ (condB .lt (h.2.1 0 6) 6 = false → Q (some (.int (-4))) h))) :
    Ends X (dp + 1) 69 0 [.ref 0, .retAddr 0] [] h Q := by
  have ra : ∀ {a : Nat}, a < 1000 → a ≤ OLDB := fun h => by have := OLDB_eq; omega
  refine e_aload_n (show pAt 69 0 = some (0, .aload_n 0, 1, []) from by decide +kernel) rfl (ra (by decide)) ?_
  refine e_gIv (v := h.2.1 0 6) (show pAt 69 1 = some (1, .getfield 110, 3, [6, 6, 0, 2028]) from by decide +kernel) (show HS h from hs) rfl (by decide) rfl ?_
  refine e_bipush (c := 6) (show pAt 69 4 = some (4, .bipush 6, 2, []) from by decide +kernel) (by decide) ?_
  refine e_icmp (t := 12) (show pAt 69 6 = some (6, .if_icmp .lt 6, 3, []) from by decide +kernel) rfl (fun c1 => ?_) (fun c1 => ?_)
  · replace vc := vc.1 c1
    refine e_aload_n (show pAt 69 12 = some (12, .aload_n 0, 1, []) from by decide +kernel) rfl (ra (by decide)) ?_
    refine e_gR (show pAt 69 13 = some (13, .getfield 42, 3, [6, 7, 0, 2029]) from by decide +kernel) (show HS h from hs) rfl (by decide) (hs_ref (show HS h from hs) rfl) ?_
    refine e_aload_n (show pAt 69 16 = some (16, .aload_n 0, 1, []) from by decide +kernel) rfl (ra (by decide)) ?_
    refine e_gR (show pAt 69 17 = some (17, .getfield 30, 3, [6, 4, 0, 2026]) from by decide +kernel) (show HS h from hs) rfl (by decide) (hs_ref (show HS h from hs) rfl) ?_
    refine e_aload_n (show pAt 69 20 = some (20, .aload_n 0, 1, []) from by decide +kernel) rfl (ra (by decide)) ?_
    refine e_gIv (v := h.2.1 0 6) (show pAt 69 21 = some (21, .getfield 110, 3, [6, 6, 0, 2028]) from by decide +kernel) (show HS h from hs) rfl (by decide) rfl ?_
    obtain ⟨b2, c3, c4, c5, vc⟩ := vc
    refine e_aald (t := 3) (show pAt 69 24 = some (24, .aaload, 1, []) from by decide +kernel) (show HS h from hs) (by decide) c3 c4 c5 ?_
    refine Ends.call (show pAt 69 25 = some (25, .invokevirtual 113, 3, [42, 2, 0, 1, 2231, 2233, 28]) from by decide +kernel) (isRet_none rfl) rfl (call_this (show HS h from hs) rfl rfl (by decide)) (Ends.mono vc ?_)
    rintro _ h6 ⟨r7, rfl, hs_h6, vc⟩
    refine e_istore_n (show pAt 69 28 = some (28, .istore_n 1, 1, []) from by decide +kernel) ⟨Nat.le_of_ble_eq_true rfl, rfl⟩ rfl ?_
    refine e_aload_n (show pAt 69 29 = some (29, .aload_n 0, 1, []) from by decide +kernel) rfl (ra (by decide)) ?_
    refine e_gR (show pAt 69 30 = some (30, .getfield 42, 3, [6, 7, 0, 2029]) from by decide +kernel) (show HS h6 from hs_h6) rfl (by decide) (hs_ref (show HS h6 from hs_h6) rfl) ?_
    refine e_iconst (c := 0) (show pAt 69 33 = some (33, .iconst 0, 1, []) from by decide +kernel) (by decide) ?_
    refine e_pI (show pAt 69 34 = some (34, .putfield 107, 3, [4, 1, 1, 1199]) from by decide +kernel) (show HS h6 from hs_h6) (by decide) (Or.inl rfl) ?_
    refine e_iload_n (show pAt 69 37 = some (37, .iload_n 1, 1, []) from by decide +kernel) rfl ?_
    refine e_if (t := 46) (show pAt 69 38 = some (38, .ifCond .lt 8, 3, []) from by decide +kernel) rfl (fun c9 => ?_) (fun c9 => ?_)
    · replace vc := vc.1 c9
      refine e_aload_n (show pAt 69 46 = some (46, .aload_n 0, 1, []) from by decide +kernel) rfl (ra (by decide)) ?_
      refine e_gR (show pAt 69 47 = some (47, .getfield 12, 3, [6, 0, 0, 2022]) from by decide +kernel) (show HS (hpI h6 44 1 0) from hs_h6) rfl (by decide) (hs_ref (show HS (hpI h6 44 1 0) from hs_h6) rfl) ?_
      refine e_aload_n (show pAt 69 50 = some (50, .aload_n 0, 1, []) from by decide +kernel) rfl (ra (by decide)) ?_
      refine e_gIv (v := h6.2.1 0 6) (show pAt 69 51 = some (51, .getfield 110, 3, [6, 6, 0, 2028]) from by decide +kernel) (show HS (hpI h6 44 1 0) from hs_h6) rfl (by decide) rfl ?_
      refine e_pI (show pAt 69 54 = some (54, .putfield 117, 3, [2, 12, 1, 1065]) from by decide +kernel) (show HS (hpI h6 44 1 0) from hs_h6) (by decide) (Or.inl rfl) ?_
      refine e_aload_n (show pAt 69 57 = some (57, .aload_n 0, 1, []) from by decide +kernel) rfl (ra (by decide)) ?_
      refine e_dupR (show pAt 69 58 = some (58, .dup, 1, []) from by decide +kernel) ?_
      refine e_gIv (v := h6.2.1 0 6) (show pAt 69 59 = some (59, .getfield 110, 3, [6, 6, 0, 2028]) from by decide +kernel) (show HS (hpI (hpI h6 44 1 0) 1 12 (h6.2.1 0 6)) from hs_h6) rfl (by decide) rfl ?_
      refine e_iconst (c := 1) (show pAt 69 62 = some (62, .iconst 1, 1, []) from by decide +kernel) (by decide) ?_
      refine e_iadd (show pAt 69 63 = some (63, .iadd, 1, []) from by decide +kernel) ?_
      refine e_pI (show pAt 69 64 = some (64, .putfield 110, 3, [6, 6, 0, 2028]) from by decide +kernel) (show HS (hpI (hpI h6 44 1 0) 1 12 (h6.2.1 0 6)) from hs_h6) (by decide) (Or.inl rfl) ?_
      refine e_aload_n (show pAt 69 67 = some (67, .aload_n 0, 1, []) from by decide +kernel) rfl (ra (by decide)) ?_
      refine e_gR (show pAt 69 68 = some (68, .getfield 12, 3, [6, 0, 0, 2022]) from by decide +kernel) (show HS (hpI (hpI (hpI h6 44 1 0) 1 12 (h6.2.1 0 6)) 0 6 ((h6.2.1 0 6) + 1)) from hs_h6) rfl (by decide) (hs_ref (show HS (hpI (hpI (hpI h6 44 1 0) 1 12 (h6.2.1 0 6)) 0 6 ((h6.2.1 0 6) + 1)) from hs_h6) rfl) ?_
      refine e_gIv (v := h6.2.1 0 6) (show pAt 69 71 = some (71, .getfield 117, 3, [2, 12, 1, 1065]) from by decide +kernel) (show HS (hpI (hpI (hpI h6 44 1 0) 1 12 (h6.2.1 0 6)) 0 6 ((h6.2.1 0 6) + 1)) from hs_h6) rfl (by decide) rfl ?_
      exact e_retI (show pAt 69 74 = some (74, .ireturn, 1, []) from by decide +kernel) rfl vc
    · replace vc := vc.2 c9
      refine e_bipush (c := (-10)) (show pAt 69 41 = some (41, .bipush (-10), 2, []) from by decide +kernel) (by decide) ?_
      refine e_iload_n (show pAt 69 43 = some (43, .iload_n 1, 1, []) from by decide +kernel) rfl ?_
      refine e_isub (show pAt 69 44 = some (44, .isub, 1, []) from by decide +kernel) ?_
      exact e_retI (show pAt 69 45 = some (45, .ireturn, 1, []) from by decide +kernel) rfl vc
  · replace vc := vc.2 c1
    refine e_bipush (c := (-4)) (show pAt 69 9 = some (9, .bipush (-4), 2, []) from by decide +kernel) (by decide) ?_
    exact e_retI (show pAt 69 11 = some (11, .ireturn, 1, []) from by decide +kernel) rfl vc

theorem w_ccnt {X : Scr} {dp : Nat} {h : Hp} {Q : Option Value → Hp → Prop} (a : Int32) (hs : HS h)
    (vc : (((a.toInt < 0 ∨ 4 < a.toInt) → Q (some (.int (-2))) h) ∧ (a.toInt = 0 → Q (some (.int (h.2.1 1 0))) h) ∧ (a.toInt = 1 → Q (some (.int (h.2.1 0 6))) h) ∧ (a.toInt = 2 → Q (some (.int (h.2.1 1 11))) h) ∧ (a.toInt = 3 → Q (some (.int (h.2.1 44 1))) h) ∧ (a.toInt = 4 → Q (some (.int (h.2.1 51 4))) h))) :
    Ends X dp 94 0 [.ref 0, .int a] [] h Q := by
  have ra : ∀ {a : Nat}, a < 1000 → a ≤ OLDB := fun h => by have := OLDB_eq; omega
  refine e_iload_n (show pAt 94 0 = some (0, .iload_n 1, 1, []) from by decide +kernel) rfl ?_
  rcases (show (a.toInt < 0 ∨ 4 < a.toInt) ∨ a.toInt = 0 ∨ a.toInt = 1 ∨ a.toInt = 2 ∨ a.toInt = 3 ∨ a.toInt = 4 from by omega) with c1 | c1 | c1 | c1 | c1 | c1
  · refine e_tsd (t := 73) (show pAt 94 1 = some (1, .tableswitch 72 0 4 #[35, 43, 48, 56, 64], 35, []) from by decide +kernel) c1 rfl ?_
    replace vc := vc.1 c1
    refine e_bipush (c := (-2)) (show pAt 94 73 = some (73, .bipush (-2), 2, []) from by decide +kernel) (by decide) ?_
    exact e_retI (show pAt 94 75 = some (75, .ireturn, 1, []) from by decide +kernel) rfl vc
  · refine e_tsc (t := 36) 0 (show pAt 94 1 = some (1, .tableswitch 72 0 4 #[35, 43, 48, 56, 64], 35, []) from by decide +kernel) (by omega) (by omega) rfl rfl ?_
    replace vc := vc.2.1 c1
    refine e_aload_n (show pAt 94 36 = some (36, .aload_n 0, 1, []) from by decide +kernel) rfl (ra (by decide)) ?_
    refine e_gR (show pAt 94 37 = some (37, .getfield 12, 3, [6, 0, 0, 2022]) from by decide +kernel) (show HS h from hs) rfl (by decide) (hs_ref (show HS h from hs) rfl) ?_
    refine e_gIv (v := h.2.1 1 0) (show pAt 94 40 = some (40, .getfield 200, 3, [2, 0, 1, 1033]) from by decide +kernel) (show HS h from hs) rfl (by decide) rfl ?_
    exact e_retI (show pAt 94 43 = some (43, .ireturn, 1, []) from by decide +kernel) rfl vc
  · refine e_tsc (t := 44) 1 (show pAt 94 1 = some (1, .tableswitch 72 0 4 #[35, 43, 48, 56, 64], 35, []) from by decide +kernel) (by omega) (by omega) rfl rfl ?_
    replace vc := vc.2.2.1 c1
    refine e_aload_n (show pAt 94 44 = some (44, .aload_n 0, 1, []) from by decide +kernel) rfl (ra (by decide)) ?_
    refine e_gIv (v := h.2.1 0 6) (show pAt 94 45 = some (45, .getfield 110, 3, [6, 6, 0, 2028]) from by decide +kernel) (show HS h from hs) rfl (by decide) rfl ?_
    exact e_retI (show pAt 94 48 = some (48, .ireturn, 1, []) from by decide +kernel) rfl vc
  · refine e_tsc (t := 49) 2 (show pAt 94 1 = some (1, .tableswitch 72 0 4 #[35, 43, 48, 56, 64], 35, []) from by decide +kernel) (by omega) (by omega) rfl rfl ?_
    replace vc := vc.2.2.2.1 c1
    refine e_aload_n (show pAt 94 49 = some (49, .aload_n 0, 1, []) from by decide +kernel) rfl (ra (by decide)) ?_
    refine e_gR (show pAt 94 50 = some (50, .getfield 12, 3, [6, 0, 0, 2022]) from by decide +kernel) (show HS h from hs) rfl (by decide) (hs_ref (show HS h from hs) rfl) ?_
    refine e_gIv (v := h.2.1 1 11) (show pAt 94 53 = some (53, .getfield 188, 3, [2, 11, 1, 1063]) from by decide +kernel) (show HS h from hs) rfl (by decide) rfl ?_
    exact e_retI (show pAt 94 56 = some (56, .ireturn, 1, []) from by decide +kernel) rfl vc
  · refine e_tsc (t := 57) 3 (show pAt 94 1 = some (1, .tableswitch 72 0 4 #[35, 43, 48, 56, 64], 35, []) from by decide +kernel) (by omega) (by omega) rfl rfl ?_
    replace vc := vc.2.2.2.2.1 c1
    refine e_aload_n (show pAt 94 57 = some (57, .aload_n 0, 1, []) from by decide +kernel) rfl (ra (by decide)) ?_
    refine e_gR (show pAt 94 58 = some (58, .getfield 42, 3, [6, 7, 0, 2029]) from by decide +kernel) (show HS h from hs) rfl (by decide) (hs_ref (show HS h from hs) rfl) ?_
    refine e_gIv (v := h.2.1 44 1) (show pAt 94 61 = some (61, .getfield 107, 3, [4, 1, 1, 1199]) from by decide +kernel) (show HS h from hs) rfl (by decide) rfl ?_
    exact e_retI (show pAt 94 64 = some (64, .ireturn, 1, []) from by decide +kernel) rfl vc
  · refine e_tsc (t := 65) 4 (show pAt 94 1 = some (1, .tableswitch 72 0 4 #[35, 43, 48, 56, 64], 35, []) from by decide +kernel) (by omega) (by omega) rfl rfl ?_
    replace vc := vc.2.2.2.2.2 c1
    refine e_aload_n (show pAt 94 65 = some (65, .aload_n 0, 1, []) from by decide +kernel) rfl (ra (by decide)) ?_
    refine e_gR (show pAt 94 66 = some (66, .getfield 49, 3, [6, 8, 0, 2030]) from by decide +kernel) (show HS h from hs) rfl (by decide) (hs_ref (show HS h from hs) rfl) ?_
    refine e_gIv (v := h.2.1 51 4) (show pAt 94 69 = some (69, .getfield 216, 3, [0, 4, 1, 1226]) from by decide +kernel) (show HS h from hs) rfl (by decide) rfl ?_
    exact e_retI (show pAt 94 72 = some (72, .ireturn, 1, []) from by decide +kernel) rfl vc

theorem w_mcnt {X : Scr} {dp : Nat} {h : Hp} {Q : Option Value → Hp → Prop} (a : Int32) (hs : HS h)
    (vc : (((a.toInt < 0 ∨ 4 < a.toInt) → Q (some (.int (-2))) h) ∧ (a.toInt = 0 → Q (some (.int (h.2.1 93 0))) h) ∧ (a.toInt = 1 → Q (some (.int (h.2.1 93 9))) h) ∧ (a.toInt = 2 → Q (some (.int (h.2.1 93 42))) h) ∧ (a.toInt = 3 → Q (some (.int (h.2.1 93 11))) h) ∧ (a.toInt = 4 → Q (some (.int (h.2.1 93 58))) h))) :
    Ends X dp 197 0 [.ref 93, .int a] [] h Q := by
  have ra : ∀ {a : Nat}, a < 1000 → a ≤ OLDB := fun h => by have := OLDB_eq; omega
  refine e_iload_n (show pAt 197 0 = some (0, .iload_n 1, 1, []) from by decide +kernel) rfl ?_
  rcases (show (a.toInt < 0 ∨ 4 < a.toInt) ∨ a.toInt = 0 ∨ a.toInt = 1 ∨ a.toInt = 2 ∨ a.toInt = 3 ∨ a.toInt = 4 from by omega) with c1 | c1 | c1 | c1 | c1 | c1
  · refine e_tsd (t := 61) (show pAt 197 1 = some (1, .tableswitch 60 0 4 #[35, 40, 45, 50, 55], 35, []) from by decide +kernel) c1 rfl ?_
    replace vc := vc.1 c1
    refine e_bipush (c := (-2)) (show pAt 197 61 = some (61, .bipush (-2), 2, []) from by decide +kernel) (by decide) ?_
    exact e_retI (show pAt 197 63 = some (63, .ireturn, 1, []) from by decide +kernel) rfl vc
  · refine e_tsc (t := 36) 0 (show pAt 197 1 = some (1, .tableswitch 60 0 4 #[35, 40, 45, 50, 55], 35, []) from by decide +kernel) (by omega) (by omega) rfl rfl ?_
    replace vc := vc.2.1 c1
    refine e_aload_n (show pAt 197 36 = some (36, .aload_n 0, 1, []) from by decide +kernel) rfl (ra (by decide)) ?_
    refine e_gIv (v := h.2.1 93 0) (show pAt 197 37 = some (37, .getfield 7, 3, [7, 0, 0, 4123]) from by decide +kernel) (show HS h from hs) rfl (by decide) rfl ?_
    exact e_retI (show pAt 197 40 = some (40, .ireturn, 1, []) from by decide +kernel) rfl vc
  · refine e_tsc (t := 41) 1 (show pAt 197 1 = some (1, .tableswitch 60 0 4 #[35, 40, 45, 50, 55], 35, []) from by decide +kernel) (by omega) (by omega) rfl rfl ?_
    replace vc := vc.2.2.1 c1
    refine e_aload_n (show pAt 197 41 = some (41, .aload_n 0, 1, []) from by decide +kernel) rfl (ra (by decide)) ?_
    refine e_gIv (v := h.2.1 93 9) (show pAt 197 42 = some (42, .getfield 38, 3, [7, 9, 0, 4132]) from by decide +kernel) (show HS h from hs) rfl (by decide) rfl ?_
    exact e_retI (show pAt 197 45 = some (45, .ireturn, 1, []) from by decide +kernel) rfl vc
  · refine e_tsc (t := 46) 2 (show pAt 197 1 = some (1, .tableswitch 60 0 4 #[35, 40, 45, 50, 55], 35, []) from by decide +kernel) (by omega) (by omega) rfl rfl ?_
    replace vc := vc.2.2.2.1 c1
    refine e_aload_n (show pAt 197 46 = some (46, .aload_n 0, 1, []) from by decide +kernel) rfl (ra (by decide)) ?_
    refine e_gIv (v := h.2.1 93 42) (show pAt 197 47 = some (47, .getfield 139, 3, [7, 42, 0, 4165]) from by decide +kernel) (show HS h from hs) rfl (by decide) rfl ?_
    exact e_retI (show pAt 197 50 = some (50, .ireturn, 1, []) from by decide +kernel) rfl vc
  · refine e_tsc (t := 51) 3 (show pAt 197 1 = some (1, .tableswitch 60 0 4 #[35, 40, 45, 50, 55], 35, []) from by decide +kernel) (by omega) (by omega) rfl rfl ?_
    replace vc := vc.2.2.2.2.1 c1
    refine e_aload_n (show pAt 197 51 = some (51, .aload_n 0, 1, []) from by decide +kernel) rfl (ra (by decide)) ?_
    refine e_gIv (v := h.2.1 93 11) (show pAt 197 52 = some (52, .getfield 44, 3, [7, 11, 0, 4134]) from by decide +kernel) (show HS h from hs) rfl (by decide) rfl ?_
    exact e_retI (show pAt 197 55 = some (55, .ireturn, 1, []) from by decide +kernel) rfl vc
  · refine e_tsc (t := 56) 4 (show pAt 197 1 = some (1, .tableswitch 60 0 4 #[35, 40, 45, 50, 55], 35, []) from by decide +kernel) (by omega) (by omega) rfl rfl ?_
    replace vc := vc.2.2.2.2.2 c1
    refine e_aload_n (show pAt 197 56 = some (56, .aload_n 0, 1, []) from by decide +kernel) rfl (ra (by decide)) ?_
    refine e_gIv (v := h.2.1 93 58) (show pAt 197 57 = some (57, .getfield 187, 3, [7, 58, 0, 4181]) from by decide +kernel) (show HS h from hs) rfl (by decide) rfl ?_
    exact e_retI (show pAt 197 60 = some (60, .ireturn, 1, []) from by decide +kernel) rfl vc
