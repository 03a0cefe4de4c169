/-! Small methods by hand: what is owed for them. -/
theorem w_fm {X : Scr} {dp : Nat} {h : Hp} {Q : Option Value → Hp → Prop} (x : Int32) (z : Int32) (hs : HS h)
    (vc : (¬ z = 0 ∧ ((condB .ge (x ^^^ z) 0 = true → Q (some (.int (x - x / z * z))) h) ∧ (condB .ge (x ^^^ z) 0 = false → ((condB .eq (x - x / z * z) 0 = true → Q (some (.int (x - x / z * z))) h) ∧ (condB .eq (x - x / z * z) 0 = false → Q (some (.int ((x - x / z * z) + z))) h)))))) :
    Ends X dp 205 0 [.int x, .int z, .retAddr 0] [] h Q := by
  refine e_iload_n (show pAt 205 0 = some (0, .iload_n 0, 1, []) from by decide +kernel) rfl ?_
  refine e_iload_n (show pAt 205 1 = some (1, .iload_n 1, 1, []) from by decide +kernel) rfl ?_
  obtain ⟨c1, vc⟩ := vc
  refine e_irem (show pAt 205 2 = some (2, .irem, 1, []) from by decide +kernel) c1 ?_
  refine e_istore_n (show pAt 205 3 = some (3, .istore_n 2, 1, []) from by decide +kernel) ⟨Nat.le_of_ble_eq_true rfl, rfl⟩ rfl ?_
  refine e_iload_n (show pAt 205 4 = some (4, .iload_n 0, 1, []) from by decide +kernel) rfl ?_
  refine e_iload_n (show pAt 205 5 = some (5, .iload_n 1, 1, []) from by decide +kernel) rfl ?_
  refine e_ixor (show pAt 205 6 = some (6, .ixor, 1, []) from by decide +kernel) ?_
  refine e_if (t := 18) (show pAt 205 7 = some (7, .ifCond .ge 11, 3, []) from by decide +kernel) rfl (fun c2 => ?_) (fun c2 => ?_)
  · replace vc := vc.1 c2
    refine e_iload_n (show pAt 205 18 = some (18, .iload_n 2, 1, []) from by decide +kernel) rfl ?_
    exact e_retI (show pAt 205 19 = some (19, .ireturn, 1, []) from by decide +kernel) rfl vc
  · replace vc := vc.2 c2
    refine e_iload_n (show pAt 205 10 = some (10, .iload_n 2, 1, []) from by decide +kernel) rfl ?_
    refine e_if (t := 18) (show pAt 205 11 = some (11, .ifCond .eq 7, 3, []) from by decide +kernel) rfl (fun c3 => ?_) (fun c3 => ?_)
    · replace vc := vc.1 c3
      refine e_iload_n (show pAt 205 18 = some (18, .iload_n 2, 1, []) from by decide +kernel) rfl ?_
      exact e_retI (show pAt 205 19 = some (19, .ireturn, 1, []) from by decide +kernel) rfl vc
    · replace vc := vc.2 c3
      refine e_iload_n (show pAt 205 14 = some (14, .iload_n 2, 1, []) from by decide +kernel) rfl ?_
      refine e_iload_n (show pAt 205 15 = some (15, .iload_n 1, 1, []) from by decide +kernel) rfl ?_
      refine e_iadd (show pAt 205 16 = some (16, .iadd, 1, []) from by decide +kernel) ?_
      exact e_retI (show pAt 205 17 = some (17, .ireturn, 1, []) from by decide +kernel) rfl vc

theorem w_dv0 {X : Scr} {dp : Nat} {h : Hp} {Q : Option Value → Hp → Prop} (a : Int32) (b : Int32) (hs : HS h)
    (vc : Ends X dp 177 5 [.ref 93, .int a, .int b, .int a, .int b, .retAddr 0] [] h Q) :
    Ends X dp 177 0 [.ref 93, .int a, .int b, .retAddr 0, .retAddr 0, .retAddr 0] [] h Q := by
  have ra : ∀ {a : Nat}, a < 1000 → a ≤ OLDB := fun h => by have := OLDB_eq; omega
  refine e_iload_n (show pAt 177 0 = some (0, .iload_n 1, 1, []) from by decide +kernel) rfl ?_
  refine e_istore_n (show pAt 177 1 = some (1, .istore_n 3, 1, []) from by decide +kernel) ⟨Nat.le_of_ble_eq_true rfl, rfl⟩ rfl ?_
  refine e_iload_n (show pAt 177 2 = some (2, .iload_n 2, 1, []) from by decide +kernel) rfl ?_
  refine e_istore (show pAt 177 3 = some (3, .istore 4, 2, []) from by decide +kernel) ⟨Nat.le_of_ble_eq_true rfl, rfl⟩ rfl ?_
  exact vc

theorem w_dv5 {X : Scr} {dp : Nat} {h : Hp} {Q : Option Value → Hp → Prop} (a : Int32) (b : Int32) (p : Int32) (q : Int32) (v : Value) (hs : HS h)
    (vc : ((condB .eq q 0 = true → Q (some (.int p)) h) ∧ (condB .eq q 0 = false → (¬ q = 0 ∧ Ends X dp 177 5 [.ref 93, .int a, .int b, .int q, .int (p - p / q * q), .int (p - p / q * q)] [] h Q)))) :
    Ends X dp 177 5 [.ref 93, .int a, .int b, .int p, .int q, v] [] h Q := by
  have ra : ∀ {a : Nat}, a < 1000 → a ≤ OLDB := fun h => by have := OLDB_eq; omega
  refine e_iload (show pAt 177 5 = some (5, .iload 4, 2, []) from by decide +kernel) rfl ?_
  refine e_if (t := 26) (show pAt 177 7 = some (7, .ifCond .eq 19, 3, []) from by decide +kernel) rfl (fun c1 => ?_) (fun c1 => ?_)
  · replace vc := vc.1 c1
    refine e_iload_n (show pAt 177 26 = some (26, .iload_n 3, 1, []) from by decide +kernel) rfl ?_
    exact e_retI (show pAt 177 27 = some (27, .ireturn, 1, []) from by decide +kernel) rfl vc
  · replace vc := vc.2 c1
    refine e_iload_n (show pAt 177 10 = some (10, .iload_n 3, 1, []) from by decide +kernel) rfl ?_
    refine e_iload (show pAt 177 11 = some (11, .iload 4, 2, []) from by decide +kernel) rfl ?_
    obtain ⟨c2, vc⟩ := vc
    refine e_irem (show pAt 177 13 = some (13, .irem, 1, []) from by decide +kernel) c2 ?_
    refine e_istore (show pAt 177 14 = some (14, .istore 5, 2, []) from by decide +kernel) ⟨Nat.le_of_ble_eq_true rfl, rfl⟩ rfl ?_
    refine e_iload (show pAt 177 16 = some (16, .iload 4, 2, []) from by decide +kernel) rfl ?_
    refine e_istore_n (show pAt 177 18 = some (18, .istore_n 3, 1, []) from by decide +kernel) ⟨Nat.le_of_ble_eq_true rfl, rfl⟩ rfl ?_
    refine e_iload (show pAt 177 19 = some (19, .iload 5, 2, []) from by decide +kernel) rfl ?_
    refine e_istore (show pAt 177 21 = some (21, .istore 4, 2, []) from by decide +kernel) ⟨Nat.le_of_ble_eq_true rfl, rfl⟩ rfl ?_
    refine e_goto (t := 5) (show pAt 177 23 = some (23, .goto (-18), 3, []) from by decide +kernel) rfl ?_
    exact vc

theorem w_on0 {X : Scr} {dp : Nat} {h : Hp} {Q : Option Value → Hp → Prop} (a : Int32) (hs : HS h)
    (vc : Ends X dp 111 4 [.ref 93, .int a, .int 0, .int a] [] h Q) :
    Ends X dp 111 0 [.ref 93, .int a, .retAddr 0, .retAddr 0] [] h Q := by
  have ra : ∀ {a : Nat}, a < 1000 → a ≤ OLDB := fun h => by have := OLDB_eq; omega
  refine e_iconst (c := 0) (show pAt 111 0 = some (0, .iconst 0, 1, []) from by decide +kernel) (by decide) ?_
  refine e_istore_n (show pAt 111 1 = some (1, .istore_n 2, 1, []) from by decide +kernel) ⟨Nat.le_of_ble_eq_true rfl, rfl⟩ rfl ?_
  refine e_iload_n (show pAt 111 2 = some (2, .iload_n 1, 1, []) from by decide +kernel) rfl ?_
  refine e_istore_n (show pAt 111 3 = some (3, .istore_n 3, 1, []) from by decide +kernel) ⟨Nat.le_of_ble_eq_true rfl, rfl⟩ rfl ?_
  exact vc

theorem w_on1 {X : Scr} {dp : Nat} {h : Hp} {Q : Option Value → Hp → Prop} (a : Int32) (n : Int32) (l : Int32) (hs : HS h)
    (vc : ((condB .eq l 0 = true → Q (some (.int n)) h) ∧ (condB .eq l 0 = false → Ends X dp 111 4 [.ref 93, .int a, .int (n + 1), .int (l &&& (l - 1))] [] h Q))) :
    Ends X dp 111 4 [.ref 93, .int a, .int n, .int l] [] h Q := by
  have ra : ∀ {a : Nat}, a < 1000 → a ≤ OLDB := fun h => by have := OLDB_eq; omega
  refine e_iload_n (show pAt 111 4 = some (4, .iload_n 3, 1, []) from by decide +kernel) rfl ?_
  refine e_if (t := 20) (show pAt 111 5 = some (5, .ifCond .eq 15, 3, []) from by decide +kernel) rfl (fun c1 => ?_) (fun c1 => ?_)
  · replace vc := vc.1 c1
    refine e_iload_n (show pAt 111 20 = some (20, .iload_n 2, 1, []) from by decide +kernel) rfl ?_
    exact e_retI (show pAt 111 21 = some (21, .ireturn, 1, []) from by decide +kernel) rfl vc
  · replace vc := vc.2 c1
    refine e_iinc (c := 1) (show pAt 111 8 = some (8, .iinc 2 1, 3, []) from by decide +kernel) rfl rfl (by decide) rfl ?_
    refine e_iload_n (show pAt 111 11 = some (11, .iload_n 3, 1, []) from by decide +kernel) rfl ?_
    refine e_iload_n (show pAt 111 12 = some (12, .iload_n 3, 1, []) from by decide +kernel) rfl ?_
    refine e_iconst (c := 1) (show pAt 111 13 = some (13, .iconst 1, 1, []) from by decide +kernel) (by decide) ?_
    refine e_isub (show pAt 111 14 = some (14, .isub, 1, []) from by decide +kernel) ?_
    refine e_iand (show pAt 111 15 = some (15, .iand, 1, []) from by decide +kernel) ?_
    refine e_istore_n (show pAt 111 16 = some (16, .istore_n 3, 1, []) from by decide +kernel) ⟨Nat.le_of_ble_eq_true rfl, rfl⟩ rfl ?_
    refine e_goto (t := 4) (show pAt 111 17 = some (17, .goto (-13), 3, []) from by decide +kernel) rfl ?_
    exact vc
