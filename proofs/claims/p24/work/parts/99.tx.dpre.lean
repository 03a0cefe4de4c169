section JN99txdpre
/-! A few more instructions, and the yards of the class with the bare one. -/
section WALK4
variable {X : Scr} {dp y pc p0 len t : Nat} {o : List Nat} {L st : List Value} {h : Hp} {Q : Option Value → Hp → Prop}
theorem e_iushr {a b : Int32} (he : pAt y pc = some (p0, .iushr, len, o)) (e : Ends X dp y (pc + 1) L (.int (a.toUInt32 >>> (b.toUInt32 &&& Int32.toUInt32 31)).toInt32 :: st) h Q) : Ends X dp y pc L (.int b :: .int a :: st) h Q := e_pure he rfl rfl rfl e
theorem e_lxor {a b : Int64} (he : pAt y pc = some (p0, .lxor, len, o)) (e : Ends X dp y (pc + 1) L (.long (a ^^^ b) :: st) h Q) : Ends X dp y pc L (.long b :: .long a :: st) h Q := e_pure he rfl rfl rfl e
theorem e_lsub {a b : Int64} (he : pAt y pc = some (p0, .lsub, len, o)) (e : Ends X dp y (pc + 1) L (.long (a - b) :: st) h Q) : Ends X dp y pc L (.long b :: .long a :: st) h Q := e_pure he rfl rfl rfl e
theorem e_lshr {a : Int64} {b : Int32} (he : pAt y pc = some (p0, .lshr, len, o)) (e : Ends X dp y (pc + 1) L (.long (a >>> (b.toInt64 &&& 63)) :: st) h Q) : Ends X dp y pc L (.int b :: .long a :: st) h Q := e_pure he rfl rfl rfl e
theorem e_ldcw {idx v z : Nat} {c : Int32} (he : pAt y pc = some (p0, .ldc_w idx, len, [0, v, z])) (hk : Int32.ofNat v = c) (e : Ends X dp y (pc + 3) L (.int c :: st) h Q) : Ends X dp y pc L st h Q := by
  subst hk
  exact e_pure he rfl rfl rfl e
end WALK4
/-- the yards of the class, the bare one too -/
def YB (q : Nat) : Prop := q ∈ [39, 63, 68, 73, 78, 83, 88]
theorem yb {P : Nat → Bool} {q : Nat} (h : YB q) (hp : [39, 63, 68, 73, 78, 83, 88].all P = true) : P q = true := List.all_eq_true.mp hp q h
theorem yb_rng {q : Nat} (h : YB q) : 39 ≤ q ∧ q ≤ 88 := by
  have := yb (P := fun q => decide (39 ≤ q) && decide (q ≤ 88)) h (by decide)
  simpa using this
/-- the yard that is asked -/
def hpY (h : Hp) (q : Nat) : Hp := (h.1, h.2.1, h.2.2.1, ud h.2.2.2 17 1 (some q))
theorem yb_rst {q : Nat} (h : YB q) : q ∈ rst 17 1 := of_decide_eq_true (yb (P := fun q => decide (q ∈ rst 17 1)) h (by decide +kernel))
theorem ref_Y {h : Hp} {q : Nat} (hY : YB q) (hr : ∀ a k, rst a k ≠ [] → ∃ b ∈ rst a k, h.2.2.2 a k = some b) : ∀ a k, rst a k ≠ [] → ∃ b ∈ rst a k, (hpY h q).2.2.2 a k = some b := by
  intro a k hn
  show ∃ b ∈ rst a k, ud h.2.2.2 17 1 (some q) a k = some b
  by_cases c : a = 17 ∧ k = 1
  · obtain ⟨rfl, rfl⟩ := c
    exact ⟨q, yb_rst hY, by unfold ud; simp⟩
  · obtain ⟨b, hb, e⟩ := hr a k hn
    refine ⟨b, hb, ?_⟩
    rw [← e]
    unfold ud
    by_cases d : a = 17
    · subst d
      have : ¬ k = 1 := fun q => c ⟨rfl, q⟩
      simp [this]
    · simp [d]
theorem hs_Y {h : Hp} {q : Nat} (hY : YB q) (hs : HS h) : HS (hpY h q) := ⟨hs.1, ref_Y hY hs.2⟩
theorem HI_Y {h : Hp} {q : Nat} (hY : YB q) (hh : HI h) : HI (hpY h q) := ⟨hh.1, hh.2.1, ref_Y hY hh.2.2⟩
theorem hpY_at {h : Hp} {q : Nat} : (hpY h q).2.2.2 17 1 = some q := by
  show ud h.2.2.2 17 1 (some q) 17 1 = _
  unfold ud
  simp
theorem e_pY {X : Scr} {dp y pc p0 len q idx z w : Nat} {L st : List Value} {h : Hp} {Q : Option Value → Hp → Prop} (he : pAt y pc = some (p0, .putfield idx, len, [1, 1, z, w])) (hs : HS h) (hY : YB q) (e : Ends X dp y (pc + 3) L st (hpY h q) Q) : Ends X dp y pc L (.ref q :: .ref 17 :: st) h Q := by
  refine Ends.step he (isRet_none rfl) rfl (pc' := pc + 3) (L' := L) (st' := st) (h' := hpY h q) ?_ e
  have hB := OLDB_eq
  have hr := yb_rng hY
  have h6 : 17 < OLDB ∧ h.1[17]? = some (.inr 1) ∧ 1 < vwN 1 := ⟨by omega, by rw [hs.1]; decide +kernel, by decide +kernel⟩
  have h7 : isRefTy (vwTy 1 1) = true ∧ q < OLDB := ⟨by decide +kernel, by omega⟩
  show (putF [1, 1, z, w] (.ref q :: .ref 17 :: st) h).map (fun q => (pc + 3, L, q.1, q.2)) = _
  unfold putF
  simp only
  rw [if_pos h6, if_pos h7]
  rfl
end JN99txdpre
section JN99tx0dwalks
/-! What is owed for the class's crossing. -/
theorem w_isin {X : Scr} {dp : Nat} {h : Hp} {Q : Option Value → Hp → Prop} (b : Int32) (p : Int32) (hs : HS h)
    (vc : ((condB .ne ((b >>> (p &&& 31)) &&& 1) 1 = true → Q (some (.int 0)) h) ∧ (condB .ne ((b >>> (p &&& 31)) &&& 1) 1 = false → Q (some (.int 1)) h))) :
    Ends X dp 104 0 [.int b, .int p] [] h Q := by
  refine e_iload_n (show pAt 104 0 = some (0, .iload_n 0, 1, []) from by decide +kernel) rfl ?_
  refine e_iload_n (show pAt 104 1 = some (1, .iload_n 1, 1, []) from by decide +kernel) rfl ?_
  refine e_ishr (show pAt 104 2 = some (2, .ishr, 1, []) from by decide +kernel) ?_
  refine e_iconst (c := 1) (show pAt 104 3 = some (3, .iconst 1, 1, []) from by decide +kernel) (by decide) ?_
  refine e_iand (show pAt 104 4 = some (4, .iand, 1, []) from by decide +kernel) ?_
  refine e_iconst (c := 1) (show pAt 104 5 = some (5, .iconst 1, 1, []) from by decide +kernel) (by decide) ?_
  refine e_icmp (t := 13) (show pAt 104 6 = some (6, .if_icmp .ne 7, 3, []) from by decide +kernel) rfl (fun c1 => ?_) (fun c1 => ?_)
  · replace vc := vc.1 c1
    refine e_iconst (c := 0) (show pAt 104 13 = some (13, .iconst 0, 1, []) from by decide +kernel) (by decide) ?_
    exact e_retZ (show pAt 104 14 = some (14, .ireturn, 1, []) from by decide +kernel) rfl (by decide) vc
  · replace vc := vc.2 c1
    refine e_iconst (c := 1) (show pAt 104 9 = some (9, .iconst 1, 1, []) from by decide +kernel) (by decide) ?_
    refine e_goto (t := 14) (show pAt 104 10 = some (10, .goto 4, 3, []) from by decide +kernel) rfl ?_
    exact e_retZ (show pAt 104 14 = some (14, .ireturn, 1, []) from by decide +kernel) rfl (by decide) vc

theorem w_abs {X : Scr} {dp : Nat} {h : Hp} {Q : Option Value → Hp → Prop} (a : Int32) (hs : HS h)
    (vc : ((condB .ge a 0 = true → Q (some (.int a)) h) ∧ (condB .ge a 0 = false → Q (some (.int (-a))) h))) :
    Ends X dp 206 0 [.int a] [] h Q := by
  refine e_iload_n (show pAt 206 0 = some (0, .iload_n 0, 1, []) from by decide +kernel) rfl ?_
  refine e_if (t := 9) (show pAt 206 1 = some (1, .ifCond .ge 8, 3, []) from by decide +kernel) rfl (fun c1 => ?_) (fun c1 => ?_)
  · replace vc := vc.1 c1
    refine e_iload_n (show pAt 206 9 = some (9, .iload_n 0, 1, []) from by decide +kernel) rfl ?_
    exact e_retI (show pAt 206 10 = some (10, .ireturn, 1, []) from by decide +kernel) rfl vc
  · replace vc := vc.2 c1
    refine e_iload_n (show pAt 206 4 = some (4, .iload_n 0, 1, []) from by decide +kernel) rfl ?_
    refine e_ineg (show pAt 206 5 = some (5, .ineg, 1, []) from by decide +kernel) ?_
    refine e_goto (t := 10) (show pAt 206 6 = some (6, .goto 4, 3, []) from by decide +kernel) rfl ?_
    exact e_retI (show pAt 206 10 = some (10, .ireturn, 1, []) from by decide +kernel) rfl vc

/-- how many bits stand in i, as the JDK counts -/
def bctE (i : Int32) : Int32 := ((((((((i - (((i.toUInt32 >>> ((1 : Int32).toUInt32 &&& Int32.toUInt32 31)).toInt32) &&& 1431655765)) &&& 858993459) + ((((i - (((i.toUInt32 >>> ((1 : Int32).toUInt32 &&& Int32.toUInt32 31)).toInt32) &&& 1431655765)).toUInt32 >>> ((2 : Int32).toUInt32 &&& Int32.toUInt32 31)).toInt32) &&& 858993459)) + (((((i - (((i.toUInt32 >>> ((1 : Int32).toUInt32 &&& Int32.toUInt32 31)).toInt32) &&& 1431655765)) &&& 858993459) + ((((i - (((i.toUInt32 >>> ((1 : Int32).toUInt32 &&& Int32.toUInt32 31)).toInt32) &&& 1431655765)).toUInt32 >>> ((2 : Int32).toUInt32 &&& Int32.toUInt32 31)).toInt32) &&& 858993459)).toUInt32 >>> ((4 : Int32).toUInt32 &&& Int32.toUInt32 31)).toInt32)) &&& 252645135) + (((((((i - (((i.toUInt32 >>> ((1 : Int32).toUInt32 &&& Int32.toUInt32 31)).toInt32) &&& 1431655765)) &&& 858993459) + ((((i - (((i.toUInt32 >>> ((1 : Int32).toUInt32 &&& Int32.toUInt32 31)).toInt32) &&& 1431655765)).toUInt32 >>> ((2 : Int32).toUInt32 &&& Int32.toUInt32 31)).toInt32) &&& 858993459)) + (((((i - (((i.toUInt32 >>> ((1 : Int32).toUInt32 &&& Int32.toUInt32 31)).toInt32) &&& 1431655765)) &&& 858993459) + ((((i - (((i.toUInt32 >>> ((1 : Int32).toUInt32 &&& Int32.toUInt32 31)).toInt32) &&& 1431655765)).toUInt32 >>> ((2 : Int32).toUInt32 &&& Int32.toUInt32 31)).toInt32) &&& 858993459)).toUInt32 >>> ((4 : Int32).toUInt32 &&& Int32.toUInt32 31)).toInt32)) &&& 252645135).toUInt32 >>> ((8 : Int32).toUInt32 &&& Int32.toUInt32 31)).toInt32)) + ((((((((i - (((i.toUInt32 >>> ((1 : Int32).toUInt32 &&& Int32.toUInt32 31)).toInt32) &&& 1431655765)) &&& 858993459) + ((((i - (((i.toUInt32 >>> ((1 : Int32).toUInt32 &&& Int32.toUInt32 31)).toInt32) &&& 1431655765)).toUInt32 >>> ((2 : Int32).toUInt32 &&& Int32.toUInt32 31)).toInt32) &&& 858993459)) + (((((i - (((i.toUInt32 >>> ((1 : Int32).toUInt32 &&& Int32.toUInt32 31)).toInt32) &&& 1431655765)) &&& 858993459) + ((((i - (((i.toUInt32 >>> ((1 : Int32).toUInt32 &&& Int32.toUInt32 31)).toInt32) &&& 1431655765)).toUInt32 >>> ((2 : Int32).toUInt32 &&& Int32.toUInt32 31)).toInt32) &&& 858993459)).toUInt32 >>> ((4 : Int32).toUInt32 &&& Int32.toUInt32 31)).toInt32)) &&& 252645135) + (((((((i - (((i.toUInt32 >>> ((1 : Int32).toUInt32 &&& Int32.toUInt32 31)).toInt32) &&& 1431655765)) &&& 858993459) + ((((i - (((i.toUInt32 >>> ((1 : Int32).toUInt32 &&& Int32.toUInt32 31)).toInt32) &&& 1431655765)).toUInt32 >>> ((2 : Int32).toUInt32 &&& Int32.toUInt32 31)).toInt32) &&& 858993459)) + (((((i - (((i.toUInt32 >>> ((1 : Int32).toUInt32 &&& Int32.toUInt32 31)).toInt32) &&& 1431655765)) &&& 858993459) + ((((i - (((i.toUInt32 >>> ((1 : Int32).toUInt32 &&& Int32.toUInt32 31)).toInt32) &&& 1431655765)).toUInt32 >>> ((2 : Int32).toUInt32 &&& Int32.toUInt32 31)).toInt32) &&& 858993459)).toUInt32 >>> ((4 : Int32).toUInt32 &&& Int32.toUInt32 31)).toInt32)) &&& 252645135).toUInt32 >>> ((8 : Int32).toUInt32 &&& Int32.toUInt32 31)).toInt32)).toUInt32 >>> ((16 : Int32).toUInt32 &&& Int32.toUInt32 31)).toInt32)) &&& 63)
theorem w_bct {X : Scr} {dp : Nat} {h : Hp} {Q : Option Value → Hp → Prop} (i : Int32) (hs : HS h)
    (vc : Q (some (.int (bctE i))) h) :
    Ends X dp 204 0 [.int i] [] h Q := by
  refine e_iload_n (show pAt 204 0 = some (0, .iload_n 0, 1, []) from by decide +kernel) rfl ?_
  refine e_iload_n (show pAt 204 1 = some (1, .iload_n 0, 1, []) from by decide +kernel) rfl ?_
  refine e_iconst (c := 1) (show pAt 204 2 = some (2, .iconst 1, 1, []) from by decide +kernel) (by decide) ?_
  refine e_iushr (show pAt 204 3 = some (3, .iushr, 1, []) from by decide +kernel) ?_
  refine e_ldcw (c := 1431655765) (show pAt 204 4 = some (4, .ldc_w 265, 3, [0, 1431655765, 2171]) from by decide +kernel) (by decide) ?_
  refine e_iand (show pAt 204 7 = some (7, .iand, 1, []) from by decide +kernel) ?_
  refine e_isub (show pAt 204 8 = some (8, .isub, 1, []) from by decide +kernel) ?_
  refine e_istore_n (show pAt 204 9 = some (9, .istore_n 0, 1, []) from by decide +kernel) ⟨Nat.le_of_ble_eq_true rfl, rfl⟩ rfl ?_
  refine e_iload_n (show pAt 204 10 = some (10, .iload_n 0, 1, []) from by decide +kernel) rfl ?_
  refine e_ldcw (c := 858993459) (show pAt 204 11 = some (11, .ldc_w 266, 3, [0, 858993459, 2172]) from by decide +kernel) (by decide) ?_
  refine e_iand (show pAt 204 14 = some (14, .iand, 1, []) from by decide +kernel) ?_
  refine e_iload_n (show pAt 204 15 = some (15, .iload_n 0, 1, []) from by decide +kernel) rfl ?_
  refine e_iconst (c := 2) (show pAt 204 16 = some (16, .iconst 2, 1, []) from by decide +kernel) (by decide) ?_
  refine e_iushr (show pAt 204 17 = some (17, .iushr, 1, []) from by decide +kernel) ?_
  refine e_ldcw (c := 858993459) (show pAt 204 18 = some (18, .ldc_w 266, 3, [0, 858993459, 2172]) from by decide +kernel) (by decide) ?_
  refine e_iand (show pAt 204 21 = some (21, .iand, 1, []) from by decide +kernel) ?_
  refine e_iadd (show pAt 204 22 = some (22, .iadd, 1, []) from by decide +kernel) ?_
  refine e_istore_n (show pAt 204 23 = some (23, .istore_n 0, 1, []) from by decide +kernel) ⟨Nat.le_of_ble_eq_true rfl, rfl⟩ rfl ?_
  refine e_iload_n (show pAt 204 24 = some (24, .iload_n 0, 1, []) from by decide +kernel) rfl ?_
  refine e_iload_n (show pAt 204 25 = some (25, .iload_n 0, 1, []) from by decide +kernel) rfl ?_
  refine e_iconst (c := 4) (show pAt 204 26 = some (26, .iconst 4, 1, []) from by decide +kernel) (by decide) ?_
  refine e_iushr (show pAt 204 27 = some (27, .iushr, 1, []) from by decide +kernel) ?_
  refine e_iadd (show pAt 204 28 = some (28, .iadd, 1, []) from by decide +kernel) ?_
  refine e_ldcw (c := 252645135) (show pAt 204 29 = some (29, .ldc_w 267, 3, [0, 252645135, 2173]) from by decide +kernel) (by decide) ?_
  refine e_iand (show pAt 204 32 = some (32, .iand, 1, []) from by decide +kernel) ?_
  refine e_istore_n (show pAt 204 33 = some (33, .istore_n 0, 1, []) from by decide +kernel) ⟨Nat.le_of_ble_eq_true rfl, rfl⟩ rfl ?_
  refine e_iload_n (show pAt 204 34 = some (34, .iload_n 0, 1, []) from by decide +kernel) rfl ?_
  refine e_iload_n (show pAt 204 35 = some (35, .iload_n 0, 1, []) from by decide +kernel) rfl ?_
  refine e_bipush (c := 8) (show pAt 204 36 = some (36, .bipush 8, 2, []) from by decide +kernel) (by decide) ?_
  refine e_iushr (show pAt 204 38 = some (38, .iushr, 1, []) from by decide +kernel) ?_
  refine e_iadd (show pAt 204 39 = some (39, .iadd, 1, []) from by decide +kernel) ?_
  refine e_istore_n (show pAt 204 40 = some (40, .istore_n 0, 1, []) from by decide +kernel) ⟨Nat.le_of_ble_eq_true rfl, rfl⟩ rfl ?_
  refine e_iload_n (show pAt 204 41 = some (41, .iload_n 0, 1, []) from by decide +kernel) rfl ?_
  refine e_iload_n (show pAt 204 42 = some (42, .iload_n 0, 1, []) from by decide +kernel) rfl ?_
  refine e_bipush (c := 16) (show pAt 204 43 = some (43, .bipush 16, 2, []) from by decide +kernel) (by decide) ?_
  refine e_iushr (show pAt 204 45 = some (45, .iushr, 1, []) from by decide +kernel) ?_
  refine e_iadd (show pAt 204 46 = some (46, .iadd, 1, []) from by decide +kernel) ?_
  refine e_istore_n (show pAt 204 47 = some (47, .istore_n 0, 1, []) from by decide +kernel) ⟨Nat.le_of_ble_eq_true rfl, rfl⟩ rfl ?_
  refine e_iload_n (show pAt 204 48 = some (48, .iload_n 0, 1, []) from by decide +kernel) rfl ?_
  refine e_bipush (c := 63) (show pAt 204 49 = some (49, .bipush 63, 2, []) from by decide +kernel) (by decide) ?_
  refine e_iand (show pAt 204 51 = some (51, .iand, 1, []) from by decide +kernel) ?_
  exact e_retI (show pAt 204 52 = some (52, .ireturn, 1, []) from by decide +kernel) rfl vc

theorem w_fil32 {X : Scr} {dp : Nat} {h : Hp} {Q : Option Value → Hp → Prop} (v : Int32) (hs : HS h)
    (vc : Ends X dp 221 5 [.ref 32, .int v, .int 0, .int 7] [] h Q) :
    Ends X dp 221 0 [.ref 32, .int v, .retAddr 0, .retAddr 0] [] h Q := by
  have ra : ∀ {a : Nat}, a < 1000 → a ≤ OLDB := fun h => by have := OLDB_eq; omega
  refine e_iconst (c := 0) (show pAt 221 0 = some (0, .iconst 0, 1, []) from by decide +kernel) (by decide) ?_
  refine e_istore_n (show pAt 221 1 = some (1, .istore_n 2, 1, []) from by decide +kernel) ⟨Nat.le_of_ble_eq_true rfl, rfl⟩ rfl ?_
  refine e_aload_n (show pAt 221 2 = some (2, .aload_n 0, 1, []) from by decide +kernel) rfl (ra (by decide)) ?_
  refine e_alen (n := 7) (v := 7) (show pAt 221 3 = some (3, .arraylength, 1, []) from by decide +kernel) (show HS h from hs) (by decide) (by decide) ?_
  refine e_istore_n (show pAt 221 4 = some (4, .istore_n 3, 1, []) from by decide +kernel) ⟨Nat.le_of_ble_eq_true rfl, rfl⟩ rfl ?_
  exact vc

theorem w_fil32l {X : Scr} {dp : Nat} {h : Hp} {Q : Option Value → Hp → Prop} (v : Int32) (i : Int32) (e : Int32) (hs : HS h)
    (vc : ((condB .ge i e = true → Q none h) ∧ (condB .ge i e = false → (inB i 7 = true ∧ Ends X dp 221 5 [.ref 32, .int v, .int (i + 1), .int e] [] (hpI h 32 i.toNatClampNeg v) Q)))) :
    Ends X dp 221 5 [.ref 32, .int v, .int i, .int e] [] h Q := by
  have ra : ∀ {a : Nat}, a < 1000 → a ≤ OLDB := fun h => by have := OLDB_eq; omega
  refine e_iload_n (show pAt 221 5 = some (5, .iload_n 2, 1, []) from by decide +kernel) rfl ?_
  refine e_iload_n (show pAt 221 6 = some (6, .iload_n 3, 1, []) from by decide +kernel) rfl ?_
  refine e_icmp (t := 20) (show pAt 221 7 = some (7, .if_icmp .ge 13, 3, []) from by decide +kernel) rfl (fun c1 => ?_) (fun c1 => ?_)
  · replace vc := vc.1 c1
    exact e_retV (show pAt 221 20 = some (20, .return_, 1, []) from by decide +kernel) rfl vc
  · replace vc := vc.2 c1
    refine e_aload_n (show pAt 221 10 = some (10, .aload_n 0, 1, []) from by decide +kernel) rfl (ra (by decide)) ?_
    refine e_iload_n (show pAt 221 11 = some (11, .iload_n 2, 1, []) from by decide +kernel) rfl ?_
    refine e_iload_n (show pAt 221 12 = some (12, .iload_n 1, 1, []) from by decide +kernel) rfl ?_
    obtain ⟨c2, vc⟩ := vc
    refine e_ast (show pAt 221 13 = some (13, .iastore, 1, []) from by decide +kernel) (show HS h from hs) (by decide) c2 ?_
    refine e_iinc (c := 1) (show pAt 221 14 = some (14, .iinc 2 1, 3, []) from by decide +kernel) rfl rfl (by decide) rfl ?_
    refine e_goto (t := 5) (show pAt 221 17 = some (17, .goto (-12), 3, []) from by decide +kernel) rfl ?_
    exact vc

theorem w_yhas0 {X : Scr} {dp : Nat} {h : Hp} {Q : Option Value → Hp → Prop} {q : Nat} (hY : YB q) (w : Int32) (hs : HS h)
    (vc : Ends X dp 57 2 [.ref q, .int w, .int 0] [] h Q) :
    Ends X dp 57 0 [.ref q, .int w, .retAddr 0] [] h Q := by
  have ra : ∀ {a : Nat}, a < 1000 → a ≤ OLDB := fun h => by have := OLDB_eq; omega
  have hqr := yb_rng hY
  have hOB := OLDB_eq
  refine e_iconst (c := 0) (show pAt 57 0 = some (0, .iconst 0, 1, []) from by decide +kernel) (by decide) ?_
  refine e_istore_n (show pAt 57 1 = some (1, .istore_n 2, 1, []) from by decide +kernel) ⟨Nat.le_of_ble_eq_true rfl, rfl⟩ rfl ?_
  exact vc

theorem w_yhas1 {X : Scr} {dp : Nat} {h : Hp} {Q : Option Value → Hp → Prop} {q : Nat} (hY : YB q) (w : Int32) (c : Int32) (hs : HS h)
    (vc : ((condB .ge c (h.2.1 q 0) = true → Q (some (.int 0)) h) ∧ (condB .ge c (h.2.1 q 0) = false → ((condB .ge c 10 = true → Q (some (.int 0)) h) ∧ (condB .ge c 10 = false → (inB c 10 = true ∧ ((condB .ne (h.2.1 (q + 1) c.toNatClampNeg) w = true → Ends X dp 57 2 [.ref q, .int w, .int (c + 1)] [] h Q) ∧ (condB .ne (h.2.1 (q + 1) c.toNatClampNeg) w = false → Q (some (.int 1)) h)))))))) :
    Ends X dp 57 2 [.ref q, .int w, .int c] [] h Q := by
  have ra : ∀ {a : Nat}, a < 1000 → a ≤ OLDB := fun h => by have := OLDB_eq; omega
  have hqr := yb_rng hY
  have hOB := OLDB_eq
  refine e_iload_n (show pAt 57 2 = some (2, .iload_n 2, 1, []) from by decide +kernel) rfl ?_
  refine e_aload_n (show pAt 57 3 = some (3, .aload_n 0, 1, []) from by decide +kernel) rfl (show q ≤ OLDB by omega) ?_
  refine e_gIv (v := h.2.1 q 0) (show pAt 57 4 = some (4, .getfield 24, 3, [5, 0, 0, 1108]) from by decide +kernel) (show HS h from hs) rfl (yb (P := fun q => decide (q < 1000) && decide (SHl[q]? = some (.inr 5)) && decide (0 < vwN 5) && !isRefTy (vwTy 5 0)) hY (by decide +kernel)) rfl ?_
  refine e_icmp (t := 34) (show pAt 57 7 = some (7, .if_icmp .ge 27, 3, []) from by decide +kernel) rfl (fun c1 => ?_) (fun c1 => ?_)
  · replace vc := vc.1 c1
    refine e_iconst (c := 0) (show pAt 57 34 = some (34, .iconst 0, 1, []) from by decide +kernel) (by decide) ?_
    exact e_retZ (show pAt 57 35 = some (35, .ireturn, 1, []) from by decide +kernel) rfl (by decide) vc
  · replace vc := vc.2 c1
    refine e_iload_n (show pAt 57 10 = some (10, .iload_n 2, 1, []) from by decide +kernel) rfl ?_
    refine e_bipush (c := 10) (show pAt 57 11 = some (11, .bipush 10, 2, []) from by decide +kernel) (by decide) ?_
    refine e_icmp (t := 34) (show pAt 57 13 = some (13, .if_icmp .ge 21, 3, []) from by decide +kernel) rfl (fun c2 => ?_) (fun c2 => ?_)
    · replace vc := vc.1 c2
      refine e_iconst (c := 0) (show pAt 57 34 = some (34, .iconst 0, 1, []) from by decide +kernel) (by decide) ?_
      exact e_retZ (show pAt 57 35 = some (35, .ireturn, 1, []) from by decide +kernel) rfl (by decide) vc
    · replace vc := vc.2 c2
      refine e_aload_n (show pAt 57 16 = some (16, .aload_n 0, 1, []) from by decide +kernel) rfl (show q ≤ OLDB by omega) ?_
      refine e_gR (b := q + 1) (show pAt 57 17 = some (17, .getfield 11, 3, [5, 1, 0, 1109]) from by decide +kernel) (show HS h from hs) rfl (yb (P := fun q => decide (q < 1000) && decide (q + 1 < 1000) && decide (SHl[q]? = some (.inr 5)) && decide (1 < vwN 5) && isRefTy (vwTy 5 1)) hY (by decide +kernel)) (hs_ref (show HS h from hs) (of_decide_eq_true (yb (P := fun q => decide (rst q 1 = [q + 1])) hY (by decide +kernel)))) ?_
      refine e_iload_n (show pAt 57 20 = some (20, .iload_n 2, 1, []) from by decide +kernel) rfl ?_
      obtain ⟨c3, vc⟩ := vc
      refine e_ald (n := 10) (show pAt 57 21 = some (21, .iaload, 1, []) from by decide +kernel) (show HS h from hs) (yb (P := fun q => decide (q + 1 < 1000) && decide (SHl[q + 1]? = some (.inl (0, 10)))) hY (by decide +kernel)) c3 ?_
      refine e_iload_n (show pAt 57 22 = some (22, .iload_n 1, 1, []) from by decide +kernel) rfl ?_
      refine e_icmp (t := 28) (show pAt 57 23 = some (23, .if_icmp .ne 5, 3, []) from by decide +kernel) rfl (fun c4 => ?_) (fun c4 => ?_)
      · replace vc := vc.1 c4
        refine e_iinc (c := 1) (show pAt 57 28 = some (28, .iinc 2 1, 3, []) from by decide +kernel) rfl rfl (by decide) rfl ?_
        refine e_goto (t := 2) (show pAt 57 31 = some (31, .goto (-29), 3, []) from by decide +kernel) rfl ?_
        exact vc
      · replace vc := vc.2 c4
        refine e_iconst (c := 1) (show pAt 57 26 = some (26, .iconst 1, 1, []) from by decide +kernel) (by decide) ?_
        exact e_retZ (show pAt 57 27 = some (27, .ireturn, 1, []) from by decide +kernel) rfl (by decide) vc

theorem w_ytog0 {X : Scr} {dp : Nat} {h : Hp} {Q : Option Value → Hp → Prop} {q : Nat} (hY : YB q) (w : Int32) (hs : HS h)
    (vc : Ends X dp 58 8 [.ref q, .int w, .ref 31, .int 0, .int 0, .int 0] [] h Q) :
    Ends X dp 58 0 [.ref q, .int w, .ref 31, .retAddr 0, .retAddr 0, .retAddr 0] [] h Q := by
  have ra : ∀ {a : Nat}, a < 1000 → a ≤ OLDB := fun h => by have := OLDB_eq; omega
  have hqr := yb_rng hY
  have hOB := OLDB_eq
  refine e_iconst (c := 0) (show pAt 58 0 = some (0, .iconst 0, 1, []) from by decide +kernel) (by decide) ?_
  refine e_istore_n (show pAt 58 1 = some (1, .istore_n 3, 1, []) from by decide +kernel) ⟨Nat.le_of_ble_eq_true rfl, rfl⟩ rfl ?_
  refine e_iconst (c := 0) (show pAt 58 2 = some (2, .iconst 0, 1, []) from by decide +kernel) (by decide) ?_
  refine e_istore (show pAt 58 3 = some (3, .istore 4, 2, []) from by decide +kernel) ⟨Nat.le_of_ble_eq_true rfl, rfl⟩ rfl ?_
  refine e_iconst (c := 0) (show pAt 58 5 = some (5, .iconst 0, 1, []) from by decide +kernel) (by decide) ?_
  refine e_istore (show pAt 58 6 = some (6, .istore 5, 2, []) from by decide +kernel) ⟨Nat.le_of_ble_eq_true rfl, rfl⟩ rfl ?_
  exact vc

theorem w_ytog1 {X : Scr} {dp : Nat} {h : Hp} {Q : Option Value → Hp → Prop} {q : Nat} (hY : YB q) (w : Int32) (s : Int32) (f : Int32) (c : Int32) (hs : HS h)
    (vc : ((condB .ge c (h.2.1 q 0) = true → Q (some (.int s)) h) ∧ (condB .ge c (h.2.1 q 0) = false → ((condB .ge c 10 = true → Q (some (.int s)) h) ∧ (condB .ge c 10 = false → (inB c 10 = true ∧ ((condB .ne (h.2.1 (q + 1) c.toNatClampNeg) w = true → (inB c 10 = true ∧ Ends X (dp + 1) 58 8 [.ref q, .int w, .ref 31, .int s, .int (h.2.1 (q + 3) c.toNatClampNeg), .int (c + 1)] [] h Q)) ∧ (condB .ne (h.2.1 (q + 1) c.toNatClampNeg) w = false → (inB c 10 = true ∧ Ends X dp 59 0 [.ref q, .int f, .int (h.2.1 (q + 3) c.toNatClampNeg), .ref 31, .retAddr 0, .retAddr 0, .retAddr 0, .retAddr 0, .retAddr 0, .retAddr 0] [] h (fun rv h7 => ∃ r8, rv = some (.int r8) ∧ HS h7 ∧ ((condB .eq r8 0 = true → (inB c 10 = true ∧ Ends X (dp + 1) 58 8 [.ref q, .int w, .ref 31, .int s, .int (h7.2.1 (q + 3) c.toNatClampNeg), .int (c + 1)] [] h7 Q)) ∧ (condB .eq r8 0 = false → (inB c 10 = true ∧ (inB c 10 = true ∧ Ends X (dp + 1) 58 8 [.ref q, .int w, .ref 31, .int (s + (h7.2.1 (q + 2) c.toNatClampNeg)), .int (h7.2.1 (q + 3) c.toNatClampNeg), .int (c + 1)] [] h7 Q)))))))))))))) :
    Ends X (dp + 1) 58 8 [.ref q, .int w, .ref 31, .int s, .int f, .int c] [] h Q := by
  have ra : ∀ {a : Nat}, a < 1000 → a ≤ OLDB := fun h => by have := OLDB_eq; omega
  have hqr := yb_rng hY
  have hOB := OLDB_eq
  refine e_iload (show pAt 58 8 = some (8, .iload 5, 2, []) from by decide +kernel) rfl ?_
  refine e_aload_n (show pAt 58 10 = some (10, .aload_n 0, 1, []) from by decide +kernel) rfl (show q ≤ OLDB by omega) ?_
  refine e_gIv (v := h.2.1 q 0) (show pAt 58 11 = some (11, .getfield 24, 3, [5, 0, 0, 1108]) from by decide +kernel) (show HS h from hs) rfl (yb (P := fun q => decide (q < 1000) && decide (SHl[q]? = some (.inr 5)) && decide (0 < vwN 5) && !isRefTy (vwTy 5 0)) hY (by decide +kernel)) rfl ?_
  refine e_icmp (t := 77) (show pAt 58 14 = some (14, .if_icmp .ge 63, 3, []) from by decide +kernel) rfl (fun c1 => ?_) (fun c1 => ?_)
  · replace vc := vc.1 c1
    refine e_iload_n (show pAt 58 77 = some (77, .iload_n 3, 1, []) from by decide +kernel) rfl ?_
    exact e_retI (show pAt 58 78 = some (78, .ireturn, 1, []) from by decide +kernel) rfl vc
  · replace vc := vc.2 c1
    refine e_iload (show pAt 58 17 = some (17, .iload 5, 2, []) from by decide +kernel) rfl ?_
    refine e_bipush (c := 10) (show pAt 58 19 = some (19, .bipush 10, 2, []) from by decide +kernel) (by decide) ?_
    refine e_icmp (t := 77) (show pAt 58 21 = some (21, .if_icmp .ge 56, 3, []) from by decide +kernel) rfl (fun c2 => ?_) (fun c2 => ?_)
    · replace vc := vc.1 c2
      refine e_iload_n (show pAt 58 77 = some (77, .iload_n 3, 1, []) from by decide +kernel) rfl ?_
      exact e_retI (show pAt 58 78 = some (78, .ireturn, 1, []) from by decide +kernel) rfl vc
    · replace vc := vc.2 c2
      refine e_aload_n (show pAt 58 24 = some (24, .aload_n 0, 1, []) from by decide +kernel) rfl (show q ≤ OLDB by omega) ?_
      refine e_gR (b := q + 1) (show pAt 58 25 = some (25, .getfield 11, 3, [5, 1, 0, 1109]) from by decide +kernel) (show HS h from hs) rfl (yb (P := fun q => decide (q < 1000) && decide (q + 1 < 1000) && decide (SHl[q]? = some (.inr 5)) && decide (1 < vwN 5) && isRefTy (vwTy 5 1)) hY (by decide +kernel)) (hs_ref (show HS h from hs) (of_decide_eq_true (yb (P := fun q => decide (rst q 1 = [q + 1])) hY (by decide +kernel)))) ?_
      refine e_iload (show pAt 58 28 = some (28, .iload 5, 2, []) from by decide +kernel) rfl ?_
      obtain ⟨c3, vc⟩ := vc
      refine e_ald (n := 10) (show pAt 58 30 = some (30, .iaload, 1, []) from by decide +kernel) (show HS h from hs) (yb (P := fun q => decide (q + 1 < 1000) && decide (SHl[q + 1]? = some (.inl (0, 10)))) hY (by decide +kernel)) c3 ?_
      refine e_iload_n (show pAt 58 31 = some (31, .iload_n 1, 1, []) from by decide +kernel) rfl ?_
      refine e_icmp (t := 62) (show pAt 58 32 = some (32, .if_icmp .ne 30, 3, []) from by decide +kernel) rfl (fun c4 => ?_) (fun c4 => ?_)
      · replace vc := vc.1 c4
        refine e_aload_n (show pAt 58 62 = some (62, .aload_n 0, 1, []) from by decide +kernel) rfl (show q ≤ OLDB by omega) ?_
        refine e_gR (b := q + 3) (show pAt 58 63 = some (63, .getfield 18, 3, [5, 3, 0, 1111]) from by decide +kernel) (show HS h from hs) rfl (yb (P := fun q => decide (q < 1000) && decide (q + 3 < 1000) && decide (SHl[q]? = some (.inr 5)) && decide (3 < vwN 5) && isRefTy (vwTy 5 3)) hY (by decide +kernel)) (hs_ref (show HS h from hs) (of_decide_eq_true (yb (P := fun q => decide (rst q 3 = [q + 3])) hY (by decide +kernel)))) ?_
        refine e_iload (show pAt 58 66 = some (66, .iload 5, 2, []) from by decide +kernel) rfl ?_
        obtain ⟨c5, vc⟩ := vc
        refine e_ald (n := 10) (show pAt 58 68 = some (68, .iaload, 1, []) from by decide +kernel) (show HS h from hs) (yb (P := fun q => decide (q + 3 < 1000) && decide (SHl[q + 3]? = some (.inl (0, 10)))) hY (by decide +kernel)) c5 ?_
        refine e_istore (show pAt 58 69 = some (69, .istore 4, 2, []) from by decide +kernel) ⟨Nat.le_of_ble_eq_true rfl, rfl⟩ rfl ?_
        refine e_iinc (c := 1) (show pAt 58 71 = some (71, .iinc 5 1, 3, []) from by decide +kernel) rfl rfl (by decide) rfl ?_
        refine e_goto (t := 8) (show pAt 58 74 = some (74, .goto (-66), 3, []) from by decide +kernel) rfl ?_
        exact vc
      · replace vc := vc.2 c4
        refine e_aload_n (show pAt 58 35 = some (35, .aload_n 0, 1, []) from by decide +kernel) rfl (show q ≤ OLDB by omega) ?_
        refine e_iload (show pAt 58 36 = some (36, .iload 4, 2, []) from by decide +kernel) rfl ?_
        refine e_aload_n (show pAt 58 38 = some (38, .aload_n 0, 1, []) from by decide +kernel) rfl (show q ≤ OLDB by omega) ?_
        refine e_gR (b := q + 3) (show pAt 58 39 = some (39, .getfield 18, 3, [5, 3, 0, 1111]) from by decide +kernel) (show HS h from hs) rfl (yb (P := fun q => decide (q < 1000) && decide (q + 3 < 1000) && decide (SHl[q]? = some (.inr 5)) && decide (3 < vwN 5) && isRefTy (vwTy 5 3)) hY (by decide +kernel)) (hs_ref (show HS h from hs) (of_decide_eq_true (yb (P := fun q => decide (rst q 3 = [q + 3])) hY (by decide +kernel)))) ?_
        refine e_iload (show pAt 58 42 = some (42, .iload 5, 2, []) from by decide +kernel) rfl ?_
        obtain ⟨c6, vc⟩ := vc
        refine e_ald (n := 10) (show pAt 58 44 = some (44, .iaload, 1, []) from by decide +kernel) (show HS h from hs) (yb (P := fun q => decide (q + 3 < 1000) && decide (SHl[q + 3]? = some (.inl (0, 10)))) hY (by decide +kernel)) c6 ?_
        refine e_aload_n (show pAt 58 45 = some (45, .aload_n 2, 1, []) from by decide +kernel) rfl (ra (by decide)) ?_
        refine Ends.call (show pAt 58 46 = some (46, .invokevirtual 31, 3, [59, 4, 0, 0, 2134, 2136, 14]) from by decide +kernel) (isRet_none rfl) rfl (call_this (show HS h from hs) rfl rfl (yb (P := fun q => decide (q < 1000) && decide (SHl[q]? = some (.inr (mCi 59))) && decide (mCi 59 < 8)) hY (by decide +kernel))) (Ends.mono vc ?_)
        rintro _ h7 ⟨r8, rfl, hs_h7, vc⟩
        refine e_if (t := 62) (show pAt 58 49 = some (49, .ifCond .eq 13, 3, []) from by decide +kernel) rfl (fun c10 => ?_) (fun c10 => ?_)
        · replace vc := vc.1 c10
          refine e_aload_n (show pAt 58 62 = some (62, .aload_n 0, 1, []) from by decide +kernel) rfl (show q ≤ OLDB by omega) ?_
          refine e_gR (b := q + 3) (show pAt 58 63 = some (63, .getfield 18, 3, [5, 3, 0, 1111]) from by decide +kernel) (show HS h7 from hs_h7) rfl (yb (P := fun q => decide (q < 1000) && decide (q + 3 < 1000) && decide (SHl[q]? = some (.inr 5)) && decide (3 < vwN 5) && isRefTy (vwTy 5 3)) hY (by decide +kernel)) (hs_ref (show HS h7 from hs_h7) (of_decide_eq_true (yb (P := fun q => decide (rst q 3 = [q + 3])) hY (by decide +kernel)))) ?_
          refine e_iload (show pAt 58 66 = some (66, .iload 5, 2, []) from by decide +kernel) rfl ?_
          obtain ⟨c11, vc⟩ := vc
          refine e_ald (n := 10) (show pAt 58 68 = some (68, .iaload, 1, []) from by decide +kernel) (show HS h7 from hs_h7) (yb (P := fun q => decide (q + 3 < 1000) && decide (SHl[q + 3]? = some (.inl (0, 10)))) hY (by decide +kernel)) c11 ?_
          refine e_istore (show pAt 58 69 = some (69, .istore 4, 2, []) from by decide +kernel) ⟨Nat.le_of_ble_eq_true rfl, rfl⟩ rfl ?_
          refine e_iinc (c := 1) (show pAt 58 71 = some (71, .iinc 5 1, 3, []) from by decide +kernel) rfl rfl (by decide) rfl ?_
          refine e_goto (t := 8) (show pAt 58 74 = some (74, .goto (-66), 3, []) from by decide +kernel) rfl ?_
          exact vc
        · replace vc := vc.2 c10
          refine e_iload_n (show pAt 58 52 = some (52, .iload_n 3, 1, []) from by decide +kernel) rfl ?_
          refine e_aload_n (show pAt 58 53 = some (53, .aload_n 0, 1, []) from by decide +kernel) rfl (show q ≤ OLDB by omega) ?_
          refine e_gR (b := q + 2) (show pAt 58 54 = some (54, .getfield 15, 3, [5, 2, 0, 1110]) from by decide +kernel) (show HS h7 from hs_h7) rfl (yb (P := fun q => decide (q < 1000) && decide (q + 2 < 1000) && decide (SHl[q]? = some (.inr 5)) && decide (2 < vwN 5) && isRefTy (vwTy 5 2)) hY (by decide +kernel)) (hs_ref (show HS h7 from hs_h7) (of_decide_eq_true (yb (P := fun q => decide (rst q 2 = [q + 2])) hY (by decide +kernel)))) ?_
          refine e_iload (show pAt 58 57 = some (57, .iload 5, 2, []) from by decide +kernel) rfl ?_
          obtain ⟨c12, vc⟩ := vc
          refine e_ald (n := 10) (show pAt 58 59 = some (59, .iaload, 1, []) from by decide +kernel) (show HS h7 from hs_h7) (yb (P := fun q => decide (q + 2 < 1000) && decide (SHl[q + 2]? = some (.inl (0, 10)))) hY (by decide +kernel)) c12 ?_
          refine e_iadd (show pAt 58 60 = some (60, .iadd, 1, []) from by decide +kernel) ?_
          refine e_istore_n (show pAt 58 61 = some (61, .istore_n 3, 1, []) from by decide +kernel) ⟨Nat.le_of_ble_eq_true rfl, rfl⟩ rfl ?_
          refine e_aload_n (show pAt 58 62 = some (62, .aload_n 0, 1, []) from by decide +kernel) rfl (show q ≤ OLDB by omega) ?_
          refine e_gR (b := q + 3) (show pAt 58 63 = some (63, .getfield 18, 3, [5, 3, 0, 1111]) from by decide +kernel) (show HS h7 from hs_h7) rfl (yb (P := fun q => decide (q < 1000) && decide (q + 3 < 1000) && decide (SHl[q]? = some (.inr 5)) && decide (3 < vwN 5) && isRefTy (vwTy 5 3)) hY (by decide +kernel)) (hs_ref (show HS h7 from hs_h7) (of_decide_eq_true (yb (P := fun q => decide (rst q 3 = [q + 3])) hY (by decide +kernel)))) ?_
          refine e_iload (show pAt 58 66 = some (66, .iload 5, 2, []) from by decide +kernel) rfl ?_
          obtain ⟨c13, vc⟩ := vc
          refine e_ald (n := 10) (show pAt 58 68 = some (68, .iaload, 1, []) from by decide +kernel) (show HS h7 from hs_h7) (yb (P := fun q => decide (q + 3 < 1000) && decide (SHl[q + 3]? = some (.inl (0, 10)))) hY (by decide +kernel)) c13 ?_
          refine e_istore (show pAt 58 69 = some (69, .istore 4, 2, []) from by decide +kernel) ⟨Nat.le_of_ble_eq_true rfl, rfl⟩ rfl ?_
          refine e_iinc (c := 1) (show pAt 58 71 = some (71, .iinc 5 1, 3, []) from by decide +kernel) rfl rfl (by decide) rfl ?_
          refine e_goto (t := 8) (show pAt 58 74 = some (74, .goto (-66), 3, []) from by decide +kernel) rfl ?_
          exact vc

theorem w_ytru0 {X : Scr} {dp : Nat} {h : Hp} {Q : Option Value → Hp → Prop} {q : Nat} (hY : YB q) (f : Int32) (t : Int32) (hs : HS h)
    (vc : Ends X dp 207 0 [.int f, .int 0] [] h (fun rv h1 => ∃ r2, rv = some (.int r2) ∧ HS h1 ∧ Ends X (dp + 1) 59 10 [.ref q, .int f, .int t, .ref 31, .long 0, .retAddr 0, .int r2, .retAddr 0, .retAddr 0, .retAddr 0] [] h1 Q)) :
    Ends X (dp + 1) 59 0 [.ref q, .int f, .int t, .ref 31, .retAddr 0, .retAddr 0, .retAddr 0, .retAddr 0, .retAddr 0, .retAddr 0] [] h Q := by
  have ra : ∀ {a : Nat}, a < 1000 → a ≤ OLDB := fun h => by have := OLDB_eq; omega
  have hqr := yb_rng hY
  have hOB := OLDB_eq
  refine e_lconst (c := 0) (show pAt 59 0 = some (0, .lconst 0, 1, []) from by decide +kernel) (by decide) ?_
  refine e_lstore (show pAt 59 1 = some (1, .lstore 4, 2, []) from by decide +kernel) ⟨Nat.le_of_ble_eq_true rfl, rfl⟩ rfl ?_
  refine e_iload_n (show pAt 59 3 = some (3, .iload_n 1, 1, []) from by decide +kernel) rfl ?_
  refine e_iconst (c := 0) (show pAt 59 4 = some (4, .iconst 0, 1, []) from by decide +kernel) (by decide) ?_
  refine Ends.call (show pAt 59 5 = some (5, .invokestatic 35, 3, [207, 2, 2, 0, 2138, 2139, 0]) from by decide +kernel) (isRet_none rfl) rfl rfl (Ends.mono vc ?_)
  rintro _ h1 ⟨r2, rfl, hs_h1, vc⟩
  refine e_istore (show pAt 59 8 = some (8, .istore 6, 2, []) from by decide +kernel) ⟨Nat.le_of_ble_eq_true rfl, rfl⟩ rfl ?_
  exact vc

theorem w_ytru1 {X : Scr} {dp : Nat} {h : Hp} {Q : Option Value → Hp → Prop} {q : Nat} (hY : YB q) (f : Int32) (t : Int32) (v : Int64) (m : Int32) (a : Value) (b : Value) (c : Value) (hs : HS h)
    (vc : ((condB .ge m t = true → ((condB .ne (lg_cmp (v &&& 1) 1) 0 = true → Q (some (.int 0)) h) ∧ (condB .ne (lg_cmp (v &&& 1) 1) 0 = false → Q (some (.int 1)) h))) ∧ (condB .ge m t = false → ((condB .ge m 100 = true → ((condB .ne (lg_cmp (v &&& 1) 1) 0 = true → Q (some (.int 0)) h) ∧ (condB .ne (lg_cmp (v &&& 1) 1) 0 = false → Q (some (.int 1)) h))) ∧ (condB .ge m 100 = false → (inB m 100 = true ∧ ((condB .ne (h.2.1 (q + 4) m.toNatClampNeg) (-1) = true → ((condB .ne (h.2.1 (q + 4) m.toNatClampNeg) (-2) = true → ((condB .ne (h.2.1 (q + 4) m.toNatClampNeg) (-3) = true → Ends X dp 61 0 [.int (h.2.1 (q + 4) m.toNatClampNeg), .ref 31, .retAddr 0, .retAddr 0, .retAddr 0] [] h (fun rv h9 => ∃ r10, rv = some (.int r10) ∧ HS h9 ∧ ((condB .eq r10 0 = true → Ends X (dp + 1) 59 10 [.ref q, .int f, .int t, .ref 31, .long ((v <<< ((1 : Int32).toInt64 &&& 63)) ||| ((0 : Int32).toInt64)), .retAddr 0, .int (m + 1), .int (h.2.1 (q + 4) m.toNatClampNeg), .long (v &&& 1), .retAddr 0] [] h9 Q) ∧ (condB .eq r10 0 = false → Ends X (dp + 1) 59 10 [.ref q, .int f, .int t, .ref 31, .long ((v <<< ((1 : Int32).toInt64 &&& 63)) ||| ((1 : Int32).toInt64)), .retAddr 0, .int (m + 1), .int (h.2.1 (q + 4) m.toNatClampNeg), .long (v &&& 1), .retAddr 0] [] h9 Q)))) ∧ (condB .ne (h.2.1 (q + 4) m.toNatClampNeg) (-3) = false → Ends X (dp + 1) 59 10 [.ref q, .int f, .int t, .ref 31, .long ((v >>> ((1 : Int32).toInt64 &&& 63)) ||| (v &&& 1)), .retAddr 0, .int (m + 1), .int (h.2.1 (q + 4) m.toNatClampNeg), .long (v &&& 1), .retAddr 0] [] h Q))) ∧ (condB .ne (h.2.1 (q + 4) m.toNatClampNeg) (-2) = false → Ends X (dp + 1) 59 10 [.ref q, .int f, .int t, .ref 31, .long ((v >>> ((1 : Int32).toInt64 &&& 63)) &&& ((1 - (v &&& 1)) ^^^ (-1))), .retAddr 0, .int (m + 1), .int (h.2.1 (q + 4) m.toNatClampNeg), .long (v &&& 1), .retAddr 0] [] h Q))) ∧ (condB .ne (h.2.1 (q + 4) m.toNatClampNeg) (-1) = false → Ends X (dp + 1) 59 10 [.ref q, .int f, .int t, .ref 31, .long (v ^^^ 1), .retAddr 0, .int (m + 1), .int (h.2.1 (q + 4) m.toNatClampNeg), .long (v &&& 1), .retAddr 0] [] h Q)))))))) :
    Ends X (dp + 1) 59 10 [.ref q, .int f, .int t, .ref 31, .long v, .retAddr 0, .int m, a, b, c] [] h Q := by
  have ra : ∀ {a : Nat}, a < 1000 → a ≤ OLDB := fun h => by have := OLDB_eq; omega
  have hqr := yb_rng hY
  have hOB := OLDB_eq
  refine e_iload (show pAt 59 10 = some (10, .iload 6, 2, []) from by decide +kernel) rfl ?_
  refine e_iload_n (show pAt 59 12 = some (12, .iload_n 2, 1, []) from by decide +kernel) rfl ?_
  refine e_icmp (t := 125) (show pAt 59 13 = some (13, .if_icmp .ge 112, 3, []) from by decide +kernel) rfl (fun c1 => ?_) (fun c1 => ?_)
  · replace vc := vc.1 c1
    refine e_lload (show pAt 59 125 = some (125, .lload 4, 2, []) from by decide +kernel) rfl ?_
    refine e_lconst (c := 1) (show pAt 59 127 = some (127, .lconst 1, 1, []) from by decide +kernel) (by decide) ?_
    refine e_land (show pAt 59 128 = some (128, .land, 1, []) from by decide +kernel) ?_
    refine e_lconst (c := 1) (show pAt 59 129 = some (129, .lconst 1, 1, []) from by decide +kernel) (by decide) ?_
    refine e_lcmp (show pAt 59 130 = some (130, .lcmp, 1, []) from by decide +kernel) ?_
    refine e_if (t := 138) (show pAt 59 131 = some (131, .ifCond .ne 7, 3, []) from by decide +kernel) rfl (fun c2 => ?_) (fun c2 => ?_)
    · replace vc := vc.1 c2
      refine e_iconst (c := 0) (show pAt 59 138 = some (138, .iconst 0, 1, []) from by decide +kernel) (by decide) ?_
      exact e_retZ (show pAt 59 139 = some (139, .ireturn, 1, []) from by decide +kernel) rfl (by decide) vc
    · replace vc := vc.2 c2
      refine e_iconst (c := 1) (show pAt 59 134 = some (134, .iconst 1, 1, []) from by decide +kernel) (by decide) ?_
      refine e_goto (t := 139) (show pAt 59 135 = some (135, .goto 4, 3, []) from by decide +kernel) rfl ?_
      exact e_retZ (show pAt 59 139 = some (139, .ireturn, 1, []) from by decide +kernel) rfl (by decide) vc
  · replace vc := vc.2 c1
    refine e_iload (show pAt 59 16 = some (16, .iload 6, 2, []) from by decide +kernel) rfl ?_
    refine e_bipush (c := 100) (show pAt 59 18 = some (18, .bipush 100, 2, []) from by decide +kernel) (by decide) ?_
    refine e_icmp (t := 125) (show pAt 59 20 = some (20, .if_icmp .ge 105, 3, []) from by decide +kernel) rfl (fun c3 => ?_) (fun c3 => ?_)
    · replace vc := vc.1 c3
      refine e_lload (show pAt 59 125 = some (125, .lload 4, 2, []) from by decide +kernel) rfl ?_
      refine e_lconst (c := 1) (show pAt 59 127 = some (127, .lconst 1, 1, []) from by decide +kernel) (by decide) ?_
      refine e_land (show pAt 59 128 = some (128, .land, 1, []) from by decide +kernel) ?_
      refine e_lconst (c := 1) (show pAt 59 129 = some (129, .lconst 1, 1, []) from by decide +kernel) (by decide) ?_
      refine e_lcmp (show pAt 59 130 = some (130, .lcmp, 1, []) from by decide +kernel) ?_
      refine e_if (t := 138) (show pAt 59 131 = some (131, .ifCond .ne 7, 3, []) from by decide +kernel) rfl (fun c4 => ?_) (fun c4 => ?_)
      · replace vc := vc.1 c4
        refine e_iconst (c := 0) (show pAt 59 138 = some (138, .iconst 0, 1, []) from by decide +kernel) (by decide) ?_
        exact e_retZ (show pAt 59 139 = some (139, .ireturn, 1, []) from by decide +kernel) rfl (by decide) vc
      · replace vc := vc.2 c4
        refine e_iconst (c := 1) (show pAt 59 134 = some (134, .iconst 1, 1, []) from by decide +kernel) (by decide) ?_
        refine e_goto (t := 139) (show pAt 59 135 = some (135, .goto 4, 3, []) from by decide +kernel) rfl ?_
        exact e_retZ (show pAt 59 139 = some (139, .ireturn, 1, []) from by decide +kernel) rfl (by decide) vc
    · replace vc := vc.2 c3
      refine e_aload_n (show pAt 59 23 = some (23, .aload_n 0, 1, []) from by decide +kernel) rfl (show q ≤ OLDB by omega) ?_
      refine e_gR (b := q + 4) (show pAt 59 24 = some (24, .getfield 21, 3, [5, 4, 0, 1112]) from by decide +kernel) (show HS h from hs) rfl (yb (P := fun q => decide (q < 1000) && decide (q + 4 < 1000) && decide (SHl[q]? = some (.inr 5)) && decide (4 < vwN 5) && isRefTy (vwTy 5 4)) hY (by decide +kernel)) (hs_ref (show HS h from hs) (of_decide_eq_true (yb (P := fun q => decide (rst q 4 = [q + 4])) hY (by decide +kernel)))) ?_
      refine e_iload (show pAt 59 27 = some (27, .iload 6, 2, []) from by decide +kernel) rfl ?_
      obtain ⟨c5, vc⟩ := vc
      refine e_ald (n := 100) (show pAt 59 29 = some (29, .iaload, 1, []) from by decide +kernel) (show HS h from hs) (yb (P := fun q => decide (q + 4 < 1000) && decide (SHl[q + 4]? = some (.inl (0, 100)))) hY (by decide +kernel)) c5 ?_
      refine e_istore (show pAt 59 30 = some (30, .istore 7, 2, []) from by decide +kernel) ⟨Nat.le_of_ble_eq_true rfl, rfl⟩ rfl ?_
      refine e_lload (show pAt 59 32 = some (32, .lload 4, 2, []) from by decide +kernel) rfl ?_
      refine e_lconst (c := 1) (show pAt 59 34 = some (34, .lconst 1, 1, []) from by decide +kernel) (by decide) ?_
      refine e_land (show pAt 59 35 = some (35, .land, 1, []) from by decide +kernel) ?_
      refine e_lstore (show pAt 59 36 = some (36, .lstore 8, 2, []) from by decide +kernel) ⟨Nat.le_of_ble_eq_true rfl, rfl⟩ rfl ?_
      refine e_iload (show pAt 59 38 = some (38, .iload 7, 2, []) from by decide +kernel) rfl ?_
      refine e_iconst (c := (-1)) (show pAt 59 40 = some (40, .iconst (-1), 1, []) from by decide +kernel) (by decide) ?_
      refine e_icmp (t := 53) (show pAt 59 41 = some (41, .if_icmp .ne 12, 3, []) from by decide +kernel) rfl (fun c6 => ?_) (fun c6 => ?_)
      · replace vc := vc.1 c6
        refine e_iload (show pAt 59 53 = some (53, .iload 7, 2, []) from by decide +kernel) rfl ?_
        refine e_bipush (c := (-2)) (show pAt 59 55 = some (55, .bipush (-2), 2, []) from by decide +kernel) (by decide) ?_
        refine e_icmp (t := 78) (show pAt 59 57 = some (57, .if_icmp .ne 21, 3, []) from by decide +kernel) rfl (fun c7 => ?_) (fun c7 => ?_)
        · replace vc := vc.1 c7
          refine e_iload (show pAt 59 78 = some (78, .iload 7, 2, []) from by decide +kernel) rfl ?_
          refine e_bipush (c := (-3)) (show pAt 59 80 = some (80, .bipush (-3), 2, []) from by decide +kernel) (by decide) ?_
          refine e_icmp (t := 97) (show pAt 59 82 = some (82, .if_icmp .ne 15, 3, []) from by decide +kernel) rfl (fun c8 => ?_) (fun c8 => ?_)
          · replace vc := vc.1 c8
            refine e_lload (show pAt 59 97 = some (97, .lload 4, 2, []) from by decide +kernel) rfl ?_
            refine e_iconst (c := 1) (show pAt 59 99 = some (99, .iconst 1, 1, []) from by decide +kernel) (by decide) ?_
            refine e_lshl (show pAt 59 100 = some (100, .lshl, 1, []) from by decide +kernel) ?_
            refine e_iload (show pAt 59 101 = some (101, .iload 7, 2, []) from by decide +kernel) rfl ?_
            refine e_aload_n (show pAt 59 103 = some (103, .aload_n 3, 1, []) from by decide +kernel) rfl (ra (by decide)) ?_
            refine Ends.call (show pAt 59 104 = some (104, .invokestatic 43, 3, [61, 2, 2, 0, 2142, 2143, 0]) from by decide +kernel) (isRet_none rfl) rfl rfl (Ends.mono vc ?_)
            rintro _ h9 ⟨r10, rfl, hs_h9, vc⟩
            refine e_if (t := 114) (show pAt 59 107 = some (107, .ifCond .eq 7, 3, []) from by decide +kernel) rfl (fun c12 => ?_) (fun c12 => ?_)
            · replace vc := vc.1 c12
              refine e_iconst (c := 0) (show pAt 59 114 = some (114, .iconst 0, 1, []) from by decide +kernel) (by decide) ?_
              refine e_i2l (show pAt 59 115 = some (115, .i2l, 1, []) from by decide +kernel) ?_
              refine e_lor (show pAt 59 116 = some (116, .lor, 1, []) from by decide +kernel) ?_
              refine e_lstore (show pAt 59 117 = some (117, .lstore 4, 2, []) from by decide +kernel) ⟨Nat.le_of_ble_eq_true rfl, rfl⟩ rfl ?_
              refine e_iinc (c := 1) (show pAt 59 119 = some (119, .iinc 6 1, 3, []) from by decide +kernel) rfl rfl (by decide) rfl ?_
              refine e_goto (t := 10) (show pAt 59 122 = some (122, .goto (-112), 3, []) from by decide +kernel) rfl ?_
              exact vc
            · replace vc := vc.2 c12
              refine e_iconst (c := 1) (show pAt 59 110 = some (110, .iconst 1, 1, []) from by decide +kernel) (by decide) ?_
              refine e_goto (t := 115) (show pAt 59 111 = some (111, .goto 4, 3, []) from by decide +kernel) rfl ?_
              refine e_i2l (show pAt 59 115 = some (115, .i2l, 1, []) from by decide +kernel) ?_
              refine e_lor (show pAt 59 116 = some (116, .lor, 1, []) from by decide +kernel) ?_
              refine e_lstore (show pAt 59 117 = some (117, .lstore 4, 2, []) from by decide +kernel) ⟨Nat.le_of_ble_eq_true rfl, rfl⟩ rfl ?_
              refine e_iinc (c := 1) (show pAt 59 119 = some (119, .iinc 6 1, 3, []) from by decide +kernel) rfl rfl (by decide) rfl ?_
              refine e_goto (t := 10) (show pAt 59 122 = some (122, .goto (-112), 3, []) from by decide +kernel) rfl ?_
              exact vc
          · replace vc := vc.2 c8
            refine e_lload (show pAt 59 85 = some (85, .lload 4, 2, []) from by decide +kernel) rfl ?_
            refine e_iconst (c := 1) (show pAt 59 87 = some (87, .iconst 1, 1, []) from by decide +kernel) (by decide) ?_
            refine e_lshr (show pAt 59 88 = some (88, .lshr, 1, []) from by decide +kernel) ?_
            refine e_lload (show pAt 59 89 = some (89, .lload 8, 2, []) from by decide +kernel) rfl ?_
            refine e_lor (show pAt 59 91 = some (91, .lor, 1, []) from by decide +kernel) ?_
            refine e_lstore (show pAt 59 92 = some (92, .lstore 4, 2, []) from by decide +kernel) ⟨Nat.le_of_ble_eq_true rfl, rfl⟩ rfl ?_
            refine e_goto (t := 119) (show pAt 59 94 = some (94, .goto 25, 3, []) from by decide +kernel) rfl ?_
            refine e_iinc (c := 1) (show pAt 59 119 = some (119, .iinc 6 1, 3, []) from by decide +kernel) rfl rfl (by decide) rfl ?_
            refine e_goto (t := 10) (show pAt 59 122 = some (122, .goto (-112), 3, []) from by decide +kernel) rfl ?_
            exact vc
        · replace vc := vc.2 c7
          refine e_lload (show pAt 59 60 = some (60, .lload 4, 2, []) from by decide +kernel) rfl ?_
          refine e_iconst (c := 1) (show pAt 59 62 = some (62, .iconst 1, 1, []) from by decide +kernel) (by decide) ?_
          refine e_lshr (show pAt 59 63 = some (63, .lshr, 1, []) from by decide +kernel) ?_
          refine e_lconst (c := 1) (show pAt 59 64 = some (64, .lconst 1, 1, []) from by decide +kernel) (by decide) ?_
          refine e_lload (show pAt 59 65 = some (65, .lload 8, 2, []) from by decide +kernel) rfl ?_
          refine e_lsub (show pAt 59 67 = some (67, .lsub, 1, []) from by decide +kernel) ?_
          refine e_ldc2 (c := (-1)) (show pAt 59 68 = some (68, .ldc2_w 41, 3, [18446744073709551615, 2141]) from by decide +kernel) (by decide) ?_
          refine e_lxor (show pAt 59 71 = some (71, .lxor, 1, []) from by decide +kernel) ?_
          refine e_land (show pAt 59 72 = some (72, .land, 1, []) from by decide +kernel) ?_
          refine e_lstore (show pAt 59 73 = some (73, .lstore 4, 2, []) from by decide +kernel) ⟨Nat.le_of_ble_eq_true rfl, rfl⟩ rfl ?_
          refine e_goto (t := 119) (show pAt 59 75 = some (75, .goto 44, 3, []) from by decide +kernel) rfl ?_
          refine e_iinc (c := 1) (show pAt 59 119 = some (119, .iinc 6 1, 3, []) from by decide +kernel) rfl rfl (by decide) rfl ?_
          refine e_goto (t := 10) (show pAt 59 122 = some (122, .goto (-112), 3, []) from by decide +kernel) rfl ?_
          exact vc
      · replace vc := vc.2 c6
        refine e_lload (show pAt 59 44 = some (44, .lload 4, 2, []) from by decide +kernel) rfl ?_
        refine e_lconst (c := 1) (show pAt 59 46 = some (46, .lconst 1, 1, []) from by decide +kernel) (by decide) ?_
        refine e_lxor (show pAt 59 47 = some (47, .lxor, 1, []) from by decide +kernel) ?_
        refine e_lstore (show pAt 59 48 = some (48, .lstore 4, 2, []) from by decide +kernel) ⟨Nat.le_of_ble_eq_true rfl, rfl⟩ rfl ?_
        refine e_goto (t := 119) (show pAt 59 50 = some (50, .goto 69, 3, []) from by decide +kernel) rfl ?_
        refine e_iinc (c := 1) (show pAt 59 119 = some (119, .iinc 6 1, 3, []) from by decide +kernel) rfl rfl (by decide) rfl ?_
        refine e_goto (t := 10) (show pAt 59 122 = some (122, .goto (-112), 3, []) from by decide +kernel) rfl ?_
        exact vc

theorem w_pass {X : Scr} {dp : Nat} {h : Hp} {Q : Option Value → Hp → Prop} (m : Int32) (hs : HS h)
    (vc : ((condB .lt ((m / 100) / 3) 0 = true → Q (some (.int 0)) h) ∧ (condB .lt ((m / 100) / 3) 0 = false → ((condB .lt ((m / 100) / 3) 6 = true → (inB ((m / 100) / 3) 6 = true ∧ (((¬ (0 : Int) = ((m / 100) - (m / 100) / 3 * 3).toInt ∧ ¬ (1 : Int) = ((m / 100) - (m / 100) / 3 * 3).toInt) → ((condB .le (h.2.1 31 ((m / 100) / 3).toNatClampNeg) (m - m / 100 * 100) = true → Q (some (.int 0)) h) ∧ (condB .le (h.2.1 31 ((m / 100) / 3).toNatClampNeg) (m - m / 100 * 100) = false → Q (some (.int 1)) h))) ∧ (((m / 100) - (m / 100) / 3 * 3).toInt = 0 → ((condB .ge (h.2.1 31 ((m / 100) / 3).toNatClampNeg) (m - m / 100 * 100) = true → Q (some (.int 0)) h) ∧ (condB .ge (h.2.1 31 ((m / 100) / 3).toNatClampNeg) (m - m / 100 * 100) = false → Q (some (.int 1)) h))) ∧ (((m / 100) - (m / 100) / 3 * 3).toInt = 1 → ((condB .ne (h.2.1 31 ((m / 100) / 3).toNatClampNeg) (m - m / 100 * 100) = true → Q (some (.int 0)) h) ∧ (condB .ne (h.2.1 31 ((m / 100) / 3).toNatClampNeg) (m - m / 100 * 100) = false → Q (some (.int 1)) h)))))) ∧ (condB .lt ((m / 100) / 3) 6 = false → Q (some (.int 0)) h))))) :
    Ends X dp 61 0 [.int m, .ref 31, .retAddr 0, .retAddr 0, .retAddr 0] [] h Q := by
  have ra : ∀ {a : Nat}, a < 1000 → a ≤ OLDB := fun h => by have := OLDB_eq; omega
  refine e_iload_n (show pAt 61 0 = some (0, .iload_n 0, 1, []) from by decide +kernel) rfl ?_
  refine e_bipush (c := 100) (show pAt 61 1 = some (1, .bipush 100, 2, []) from by decide +kernel) (by decide) ?_
  refine e_idiv (show pAt 61 3 = some (3, .idiv, 1, []) from by decide +kernel) (by decide) ?_
  refine e_iconst (c := 3) (show pAt 61 4 = some (4, .iconst 3, 1, []) from by decide +kernel) (by decide) ?_
  refine e_idiv (show pAt 61 5 = some (5, .idiv, 1, []) from by decide +kernel) (by decide) ?_
  refine e_istore_n (show pAt 61 6 = some (6, .istore_n 2, 1, []) from by decide +kernel) ⟨Nat.le_of_ble_eq_true rfl, rfl⟩ rfl ?_
  refine e_iload_n (show pAt 61 7 = some (7, .iload_n 2, 1, []) from by decide +kernel) rfl ?_
  refine e_if (t := 17) (show pAt 61 8 = some (8, .ifCond .lt 9, 3, []) from by decide +kernel) rfl (fun c1 => ?_) (fun c1 => ?_)
  · replace vc := vc.1 c1
    refine e_iconst (c := 0) (show pAt 61 17 = some (17, .iconst 0, 1, []) from by decide +kernel) (by decide) ?_
    exact e_retZ (show pAt 61 18 = some (18, .ireturn, 1, []) from by decide +kernel) rfl (by decide) vc
  · replace vc := vc.2 c1
    refine e_iload_n (show pAt 61 11 = some (11, .iload_n 2, 1, []) from by decide +kernel) rfl ?_
    refine e_aload_n (show pAt 61 12 = some (12, .aload_n 1, 1, []) from by decide +kernel) rfl (ra (by decide)) ?_
    refine e_alen (n := 6) (v := 6) (show pAt 61 13 = some (13, .arraylength, 1, []) from by decide +kernel) (show HS h from hs) (by decide) (by decide) ?_
    refine e_icmp (t := 19) (show pAt 61 14 = some (14, .if_icmp .lt 5, 3, []) from by decide +kernel) rfl (fun c2 => ?_) (fun c2 => ?_)
    · replace vc := vc.1 c2
      refine e_aload_n (show pAt 61 19 = some (19, .aload_n 1, 1, []) from by decide +kernel) rfl (ra (by decide)) ?_
      refine e_iload_n (show pAt 61 20 = some (20, .iload_n 2, 1, []) from by decide +kernel) rfl ?_
      obtain ⟨c3, vc⟩ := vc
      refine e_aldv (v := h.2.1 31 ((m / 100) / 3).toNatClampNeg) (show pAt 61 21 = some (21, .iaload, 1, []) from by decide +kernel) (show HS h from hs) (by decide) c3 rfl ?_
      refine e_istore_n (show pAt 61 22 = some (22, .istore_n 3, 1, []) from by decide +kernel) ⟨Nat.le_of_ble_eq_true rfl, rfl⟩ rfl ?_
      refine e_iload_n (show pAt 61 23 = some (23, .iload_n 0, 1, []) from by decide +kernel) rfl ?_
      refine e_bipush (c := 100) (show pAt 61 24 = some (24, .bipush 100, 2, []) from by decide +kernel) (by decide) ?_
      refine e_irem (show pAt 61 26 = some (26, .irem, 1, []) from by decide +kernel) (by decide) ?_
      refine e_istore (show pAt 61 27 = some (27, .istore 4, 2, []) from by decide +kernel) ⟨Nat.le_of_ble_eq_true rfl, rfl⟩ rfl ?_
      refine e_iload_n (show pAt 61 29 = some (29, .iload_n 0, 1, []) from by decide +kernel) rfl ?_
      refine e_bipush (c := 100) (show pAt 61 30 = some (30, .bipush 100, 2, []) from by decide +kernel) (by decide) ?_
      refine e_idiv (show pAt 61 32 = some (32, .idiv, 1, []) from by decide +kernel) (by decide) ?_
      refine e_iconst (c := 3) (show pAt 61 33 = some (33, .iconst 3, 1, []) from by decide +kernel) (by decide) ?_
      refine e_irem (show pAt 61 34 = some (34, .irem, 1, []) from by decide +kernel) (by decide) ?_
      rcases (show (¬ (0 : Int) = ((m / 100) - (m / 100) / 3 * 3).toInt ∧ ¬ (1 : Int) = ((m / 100) - (m / 100) / 3 * 3).toInt) ∨ ((m / 100) - (m / 100) / 3 * 3).toInt = 0 ∨ ((m / 100) - (m / 100) / 3 * 3).toInt = 1 from by omega) with c4 | c4 | c4
      · refine e_ls (t := 84) (show pAt 61 35 = some (35, .lookupswitch 49 #[(0, 25), (1, 37)], 25, []) from by decide +kernel) (by decide) (ls_off (b := 49) (by revert c4; generalize ((m / 100) - (m / 100) / 3 * 3 : Int32).toInt = z; intro c4; simp [Op.lookupswitch.offset, c4, -List.getD_eq_getElem?_getD]) rfl) ?_
        replace vc := vc.1 c4
        refine e_iload_n (show pAt 61 84 = some (84, .iload_n 3, 1, []) from by decide +kernel) rfl ?_
        refine e_iload (show pAt 61 85 = some (85, .iload 4, 2, []) from by decide +kernel) rfl ?_
        refine e_icmp (t := 94) (show pAt 61 87 = some (87, .if_icmp .le 7, 3, []) from by decide +kernel) rfl (fun c5 => ?_) (fun c5 => ?_)
        · replace vc := vc.1 c5
          refine e_iconst (c := 0) (show pAt 61 94 = some (94, .iconst 0, 1, []) from by decide +kernel) (by decide) ?_
          exact e_retZ (show pAt 61 95 = some (95, .ireturn, 1, []) from by decide +kernel) rfl (by decide) vc
        · replace vc := vc.2 c5
          refine e_iconst (c := 1) (show pAt 61 90 = some (90, .iconst 1, 1, []) from by decide +kernel) (by decide) ?_
          refine e_goto (t := 95) (show pAt 61 91 = some (91, .goto 4, 3, []) from by decide +kernel) rfl ?_
          exact e_retZ (show pAt 61 95 = some (95, .ireturn, 1, []) from by decide +kernel) rfl (by decide) vc
      · refine e_ls (t := 60) (show pAt 61 35 = some (35, .lookupswitch 49 #[(0, 25), (1, 37)], 25, []) from by decide +kernel) (by decide) (ls_off (b := 25) (by revert c4; generalize ((m / 100) - (m / 100) / 3 * 3 : Int32).toInt = z; intro c4; simp [Op.lookupswitch.offset, c4, -List.getD_eq_getElem?_getD]) rfl) ?_
        replace vc := vc.2.1 c4
        refine e_iload_n (show pAt 61 60 = some (60, .iload_n 3, 1, []) from by decide +kernel) rfl ?_
        refine e_iload (show pAt 61 61 = some (61, .iload 4, 2, []) from by decide +kernel) rfl ?_
        refine e_icmp (t := 70) (show pAt 61 63 = some (63, .if_icmp .ge 7, 3, []) from by decide +kernel) rfl (fun c6 => ?_) (fun c6 => ?_)
        · replace vc := vc.1 c6
          refine e_iconst (c := 0) (show pAt 61 70 = some (70, .iconst 0, 1, []) from by decide +kernel) (by decide) ?_
          exact e_retZ (show pAt 61 71 = some (71, .ireturn, 1, []) from by decide +kernel) rfl (by decide) vc
        · replace vc := vc.2 c6
          refine e_iconst (c := 1) (show pAt 61 66 = some (66, .iconst 1, 1, []) from by decide +kernel) (by decide) ?_
          refine e_goto (t := 71) (show pAt 61 67 = some (67, .goto 4, 3, []) from by decide +kernel) rfl ?_
          exact e_retZ (show pAt 61 71 = some (71, .ireturn, 1, []) from by decide +kernel) rfl (by decide) vc
      · refine e_ls (t := 72) (show pAt 61 35 = some (35, .lookupswitch 49 #[(0, 25), (1, 37)], 25, []) from by decide +kernel) (by decide) (ls_off (b := 37) (by revert c4; generalize ((m / 100) - (m / 100) / 3 * 3 : Int32).toInt = z; intro c4; simp [Op.lookupswitch.offset, c4, -List.getD_eq_getElem?_getD]) rfl) ?_
        replace vc := vc.2.2 c4
        refine e_iload_n (show pAt 61 72 = some (72, .iload_n 3, 1, []) from by decide +kernel) rfl ?_
        refine e_iload (show pAt 61 73 = some (73, .iload 4, 2, []) from by decide +kernel) rfl ?_
        refine e_icmp (t := 82) (show pAt 61 75 = some (75, .if_icmp .ne 7, 3, []) from by decide +kernel) rfl (fun c7 => ?_) (fun c7 => ?_)
        · replace vc := vc.1 c7
          refine e_iconst (c := 0) (show pAt 61 82 = some (82, .iconst 0, 1, []) from by decide +kernel) (by decide) ?_
          exact e_retZ (show pAt 61 83 = some (83, .ireturn, 1, []) from by decide +kernel) rfl (by decide) vc
        · replace vc := vc.2 c7
          refine e_iconst (c := 1) (show pAt 61 78 = some (78, .iconst 1, 1, []) from by decide +kernel) (by decide) ?_
          refine e_goto (t := 83) (show pAt 61 79 = some (79, .goto 4, 3, []) from by decide +kernel) rfl ?_
          exact e_retZ (show pAt 61 83 = some (83, .ireturn, 1, []) from by decide +kernel) rfl (by decide) vc
    · replace vc := vc.2 c2
      refine e_iconst (c := 0) (show pAt 61 17 = some (17, .iconst 0, 1, []) from by decide +kernel) (by decide) ?_
      exact e_retZ (show pAt 61 18 = some (18, .ireturn, 1, []) from by decide +kernel) rfl (by decide) vc

theorem w_lrn {X : Scr} {dp : Nat} {h : Hp} {Q : Option Value → Hp → Prop} (p : Int32) (l : Int32) (hs : HS h)
    (vc : (inB 0 6 = true ∧ (inB p 7 = true ∧ (inB 1 6 = true ∧ (inB 2 6 = true ∧ (inB p 7 = true ∧ (inB 3 6 = true ∧ (inB p 7 = true ∧ (inB 4 6 = true ∧ Ends X dp 205 0 [.int (h.2.1 18 8), .int 10, .retAddr 0] [] (hpI (hpI (hpI (hpI (hpI h 31 (0 : Int32).toNatClampNeg p) 31 (1 : Int32).toNatClampNeg (h.2.1 19 p.toNatClampNeg)) 31 (2 : Int32).toNatClampNeg l) 31 (3 : Int32).toNatClampNeg (h.2.1 23 p.toNatClampNeg)) 31 (4 : Int32).toNatClampNeg (h.2.1 22 p.toNatClampNeg)) (fun rv h9 => ∃ r10, rv = some (.int r10) ∧ HS h9 ∧ (inB 5 6 = true ∧ Q none (hpI h9 31 (5 : Int32).toNatClampNeg r10)))))))))))) :
    Ends X (dp + 1) 24 0 [.ref 17, .int p, .int l] [] h Q := by
  have ra : ∀ {a : Nat}, a < 1000 → a ≤ OLDB := fun h => by have := OLDB_eq; omega
  refine e_aload_n (show pAt 24 0 = some (0, .aload_n 0, 1, []) from by decide +kernel) rfl (ra (by decide)) ?_
  refine e_gR (show pAt 24 1 = some (1, .getfield 25, 3, [1, 2, 0, 1130]) from by decide +kernel) (show HS h from hs) rfl (by decide) (hs_ref (show HS h from hs) rfl) ?_
  refine e_iconst (c := 0) (show pAt 24 4 = some (4, .iconst 0, 1, []) from by decide +kernel) (by decide) ?_
  refine e_iload_n (show pAt 24 5 = some (5, .iload_n 1, 1, []) from by decide +kernel) rfl ?_
  obtain ⟨c1, vc⟩ := vc
  refine e_ast (show pAt 24 6 = some (6, .iastore, 1, []) from by decide +kernel) (show HS h from hs) (by decide) c1 ?_
  refine e_aload_n (show pAt 24 7 = some (7, .aload_n 0, 1, []) from by decide +kernel) rfl (ra (by decide)) ?_
  refine e_gR (show pAt 24 8 = some (8, .getfield 25, 3, [1, 2, 0, 1130]) from by decide +kernel) (show HS (hpI h 31 (0 : Int32).toNatClampNeg p) from hs) rfl (by decide) (hs_ref (show HS (hpI h 31 (0 : Int32).toNatClampNeg p) from hs) rfl) ?_
  refine e_iconst (c := 1) (show pAt 24 11 = some (11, .iconst 1, 1, []) from by decide +kernel) (by decide) ?_
  refine e_aload_n (show pAt 24 12 = some (12, .aload_n 0, 1, []) from by decide +kernel) rfl (ra (by decide)) ?_
  refine e_gR (show pAt 24 13 = some (13, .getfield 12, 3, [1, 0, 0, 1127]) from by decide +kernel) (show HS (hpI h 31 (0 : Int32).toNatClampNeg p) from hs) rfl (by decide) (hs_ref (show HS (hpI h 31 (0 : Int32).toNatClampNeg p) from hs) rfl) ?_
  refine e_gR (show pAt 24 16 = some (16, .getfield 153, 3, [2, 1, 1, 1036]) from by decide +kernel) (show HS (hpI h 31 (0 : Int32).toNatClampNeg p) from hs) rfl (by decide) (hs_ref (show HS (hpI h 31 (0 : Int32).toNatClampNeg p) from hs) rfl) ?_
  refine e_iload_n (show pAt 24 19 = some (19, .iload_n 1, 1, []) from by decide +kernel) rfl ?_
  obtain ⟨c2, vc⟩ := vc
  refine e_aldv (v := h.2.1 19 p.toNatClampNeg) (show pAt 24 20 = some (20, .iaload, 1, []) from by decide +kernel) (show HS (hpI h 31 (0 : Int32).toNatClampNeg p) from hs) (by decide) c2 rfl ?_
  obtain ⟨c3, vc⟩ := vc
  refine e_ast (show pAt 24 21 = some (21, .iastore, 1, []) from by decide +kernel) (show HS (hpI h 31 (0 : Int32).toNatClampNeg p) from hs) (by decide) c3 ?_
  refine e_aload_n (show pAt 24 22 = some (22, .aload_n 0, 1, []) from by decide +kernel) rfl (ra (by decide)) ?_
  refine e_gR (show pAt 24 23 = some (23, .getfield 25, 3, [1, 2, 0, 1130]) from by decide +kernel) (show HS (hpI (hpI h 31 (0 : Int32).toNatClampNeg p) 31 (1 : Int32).toNatClampNeg (h.2.1 19 p.toNatClampNeg)) from hs) rfl (by decide) (hs_ref (show HS (hpI (hpI h 31 (0 : Int32).toNatClampNeg p) 31 (1 : Int32).toNatClampNeg (h.2.1 19 p.toNatClampNeg)) from hs) rfl) ?_
  refine e_iconst (c := 2) (show pAt 24 26 = some (26, .iconst 2, 1, []) from by decide +kernel) (by decide) ?_
  refine e_iload_n (show pAt 24 27 = some (27, .iload_n 2, 1, []) from by decide +kernel) rfl ?_
  obtain ⟨c4, vc⟩ := vc
  refine e_ast (show pAt 24 28 = some (28, .iastore, 1, []) from by decide +kernel) (show HS (hpI (hpI h 31 (0 : Int32).toNatClampNeg p) 31 (1 : Int32).toNatClampNeg (h.2.1 19 p.toNatClampNeg)) from hs) (by decide) c4 ?_
  refine e_aload_n (show pAt 24 29 = some (29, .aload_n 0, 1, []) from by decide +kernel) rfl (ra (by decide)) ?_
  refine e_gR (show pAt 24 30 = some (30, .getfield 25, 3, [1, 2, 0, 1130]) from by decide +kernel) (show HS (hpI (hpI (hpI h 31 (0 : Int32).toNatClampNeg p) 31 (1 : Int32).toNatClampNeg (h.2.1 19 p.toNatClampNeg)) 31 (2 : Int32).toNatClampNeg l) from hs) rfl (by decide) (hs_ref (show HS (hpI (hpI (hpI h 31 (0 : Int32).toNatClampNeg p) 31 (1 : Int32).toNatClampNeg (h.2.1 19 p.toNatClampNeg)) 31 (2 : Int32).toNatClampNeg l) from hs) rfl) ?_
  refine e_iconst (c := 3) (show pAt 24 33 = some (33, .iconst 3, 1, []) from by decide +kernel) (by decide) ?_
  refine e_aload_n (show pAt 24 34 = some (34, .aload_n 0, 1, []) from by decide +kernel) rfl (ra (by decide)) ?_
  refine e_gR (show pAt 24 35 = some (35, .getfield 12, 3, [1, 0, 0, 1127]) from by decide +kernel) (show HS (hpI (hpI (hpI h 31 (0 : Int32).toNatClampNeg p) 31 (1 : Int32).toNatClampNeg (h.2.1 19 p.toNatClampNeg)) 31 (2 : Int32).toNatClampNeg l) from hs) rfl (by decide) (hs_ref (show HS (hpI (hpI (hpI h 31 (0 : Int32).toNatClampNeg p) 31 (1 : Int32).toNatClampNeg (h.2.1 19 p.toNatClampNeg)) 31 (2 : Int32).toNatClampNeg l) from hs) rfl) ?_
  refine e_gR (show pAt 24 38 = some (38, .getfield 134, 3, [2, 5, 1, 1048]) from by decide +kernel) (show HS (hpI (hpI (hpI h 31 (0 : Int32).toNatClampNeg p) 31 (1 : Int32).toNatClampNeg (h.2.1 19 p.toNatClampNeg)) 31 (2 : Int32).toNatClampNeg l) from hs) rfl (by decide) (hs_ref (show HS (hpI (hpI (hpI h 31 (0 : Int32).toNatClampNeg p) 31 (1 : Int32).toNatClampNeg (h.2.1 19 p.toNatClampNeg)) 31 (2 : Int32).toNatClampNeg l) from hs) rfl) ?_
  refine e_iload_n (show pAt 24 41 = some (41, .iload_n 1, 1, []) from by decide +kernel) rfl ?_
  obtain ⟨c5, vc⟩ := vc
  refine e_aldv (v := h.2.1 23 p.toNatClampNeg) (show pAt 24 42 = some (42, .iaload, 1, []) from by decide +kernel) (show HS (hpI (hpI (hpI h 31 (0 : Int32).toNatClampNeg p) 31 (1 : Int32).toNatClampNeg (h.2.1 19 p.toNatClampNeg)) 31 (2 : Int32).toNatClampNeg l) from hs) (by decide) c5 rfl ?_
  obtain ⟨c6, vc⟩ := vc
  refine e_ast (show pAt 24 43 = some (43, .iastore, 1, []) from by decide +kernel) (show HS (hpI (hpI (hpI h 31 (0 : Int32).toNatClampNeg p) 31 (1 : Int32).toNatClampNeg (h.2.1 19 p.toNatClampNeg)) 31 (2 : Int32).toNatClampNeg l) from hs) (by decide) c6 ?_
  refine e_aload_n (show pAt 24 44 = some (44, .aload_n 0, 1, []) from by decide +kernel) rfl (ra (by decide)) ?_
  refine e_gR (show pAt 24 45 = some (45, .getfield 25, 3, [1, 2, 0, 1130]) from by decide +kernel) (show HS (hpI (hpI (hpI (hpI h 31 (0 : Int32).toNatClampNeg p) 31 (1 : Int32).toNatClampNeg (h.2.1 19 p.toNatClampNeg)) 31 (2 : Int32).toNatClampNeg l) 31 (3 : Int32).toNatClampNeg (h.2.1 23 p.toNatClampNeg)) from hs) rfl (by decide) (hs_ref (show HS (hpI (hpI (hpI (hpI h 31 (0 : Int32).toNatClampNeg p) 31 (1 : Int32).toNatClampNeg (h.2.1 19 p.toNatClampNeg)) 31 (2 : Int32).toNatClampNeg l) 31 (3 : Int32).toNatClampNeg (h.2.1 23 p.toNatClampNeg)) from hs) rfl) ?_
  refine e_iconst (c := 4) (show pAt 24 48 = some (48, .iconst 4, 1, []) from by decide +kernel) (by decide) ?_
  refine e_aload_n (show pAt 24 49 = some (49, .aload_n 0, 1, []) from by decide +kernel) rfl (ra (by decide)) ?_
  refine e_gR (show pAt 24 50 = some (50, .getfield 12, 3, [1, 0, 0, 1127]) from by decide +kernel) (show HS (hpI (hpI (hpI (hpI h 31 (0 : Int32).toNatClampNeg p) 31 (1 : Int32).toNatClampNeg (h.2.1 19 p.toNatClampNeg)) 31 (2 : Int32).toNatClampNeg l) 31 (3 : Int32).toNatClampNeg (h.2.1 23 p.toNatClampNeg)) from hs) rfl (by decide) (hs_ref (show HS (hpI (hpI (hpI (hpI h 31 (0 : Int32).toNatClampNeg p) 31 (1 : Int32).toNatClampNeg (h.2.1 19 p.toNatClampNeg)) 31 (2 : Int32).toNatClampNeg l) 31 (3 : Int32).toNatClampNeg (h.2.1 23 p.toNatClampNeg)) from hs) rfl) ?_
  refine e_gR (show pAt 24 53 = some (53, .getfield 150, 3, [2, 4, 1, 1045]) from by decide +kernel) (show HS (hpI (hpI (hpI (hpI h 31 (0 : Int32).toNatClampNeg p) 31 (1 : Int32).toNatClampNeg (h.2.1 19 p.toNatClampNeg)) 31 (2 : Int32).toNatClampNeg l) 31 (3 : Int32).toNatClampNeg (h.2.1 23 p.toNatClampNeg)) from hs) rfl (by decide) (hs_ref (show HS (hpI (hpI (hpI (hpI h 31 (0 : Int32).toNatClampNeg p) 31 (1 : Int32).toNatClampNeg (h.2.1 19 p.toNatClampNeg)) 31 (2 : Int32).toNatClampNeg l) 31 (3 : Int32).toNatClampNeg (h.2.1 23 p.toNatClampNeg)) from hs) rfl) ?_
  refine e_iload_n (show pAt 24 56 = some (56, .iload_n 1, 1, []) from by decide +kernel) rfl ?_
  obtain ⟨c7, vc⟩ := vc
  refine e_aldv (v := h.2.1 22 p.toNatClampNeg) (show pAt 24 57 = some (57, .iaload, 1, []) from by decide +kernel) (show HS (hpI (hpI (hpI (hpI h 31 (0 : Int32).toNatClampNeg p) 31 (1 : Int32).toNatClampNeg (h.2.1 19 p.toNatClampNeg)) 31 (2 : Int32).toNatClampNeg l) 31 (3 : Int32).toNatClampNeg (h.2.1 23 p.toNatClampNeg)) from hs) (by decide) c7 rfl ?_
  obtain ⟨c8, vc⟩ := vc
  refine e_ast (show pAt 24 58 = some (58, .iastore, 1, []) from by decide +kernel) (show HS (hpI (hpI (hpI (hpI h 31 (0 : Int32).toNatClampNeg p) 31 (1 : Int32).toNatClampNeg (h.2.1 19 p.toNatClampNeg)) 31 (2 : Int32).toNatClampNeg l) 31 (3 : Int32).toNatClampNeg (h.2.1 23 p.toNatClampNeg)) from hs) (by decide) c8 ?_
  refine e_aload_n (show pAt 24 59 = some (59, .aload_n 0, 1, []) from by decide +kernel) rfl (ra (by decide)) ?_
  refine e_gR (show pAt 24 60 = some (60, .getfield 25, 3, [1, 2, 0, 1130]) from by decide +kernel) (show HS (hpI (hpI (hpI (hpI (hpI h 31 (0 : Int32).toNatClampNeg p) 31 (1 : Int32).toNatClampNeg (h.2.1 19 p.toNatClampNeg)) 31 (2 : Int32).toNatClampNeg l) 31 (3 : Int32).toNatClampNeg (h.2.1 23 p.toNatClampNeg)) 31 (4 : Int32).toNatClampNeg (h.2.1 22 p.toNatClampNeg)) from hs) rfl (by decide) (hs_ref (show HS (hpI (hpI (hpI (hpI (hpI h 31 (0 : Int32).toNatClampNeg p) 31 (1 : Int32).toNatClampNeg (h.2.1 19 p.toNatClampNeg)) 31 (2 : Int32).toNatClampNeg l) 31 (3 : Int32).toNatClampNeg (h.2.1 23 p.toNatClampNeg)) 31 (4 : Int32).toNatClampNeg (h.2.1 22 p.toNatClampNeg)) from hs) rfl) ?_
  refine e_iconst (c := 5) (show pAt 24 63 = some (63, .iconst 5, 1, []) from by decide +kernel) (by decide) ?_
  refine e_aload_n (show pAt 24 64 = some (64, .aload_n 0, 1, []) from by decide +kernel) rfl (ra (by decide)) ?_
  refine e_gR (show pAt 24 65 = some (65, .getfield 12, 3, [1, 0, 0, 1127]) from by decide +kernel) (show HS (hpI (hpI (hpI (hpI (hpI h 31 (0 : Int32).toNatClampNeg p) 31 (1 : Int32).toNatClampNeg (h.2.1 19 p.toNatClampNeg)) 31 (2 : Int32).toNatClampNeg l) 31 (3 : Int32).toNatClampNeg (h.2.1 23 p.toNatClampNeg)) 31 (4 : Int32).toNatClampNeg (h.2.1 22 p.toNatClampNeg)) from hs) rfl (by decide) (hs_ref (show HS (hpI (hpI (hpI (hpI (hpI h 31 (0 : Int32).toNatClampNeg p) 31 (1 : Int32).toNatClampNeg (h.2.1 19 p.toNatClampNeg)) 31 (2 : Int32).toNatClampNeg l) 31 (3 : Int32).toNatClampNeg (h.2.1 23 p.toNatClampNeg)) 31 (4 : Int32).toNatClampNeg (h.2.1 22 p.toNatClampNeg)) from hs) rfl) ?_
  refine e_gIv (v := h.2.1 18 8) (show pAt 24 68 = some (68, .getfield 78, 3, [2, 8, 1, 1055]) from by decide +kernel) (show HS (hpI (hpI (hpI (hpI (hpI h 31 (0 : Int32).toNatClampNeg p) 31 (1 : Int32).toNatClampNeg (h.2.1 19 p.toNatClampNeg)) 31 (2 : Int32).toNatClampNeg l) 31 (3 : Int32).toNatClampNeg (h.2.1 23 p.toNatClampNeg)) 31 (4 : Int32).toNatClampNeg (h.2.1 22 p.toNatClampNeg)) from hs) rfl (by decide) rfl ?_
  refine e_bipush (c := 10) (show pAt 24 71 = some (71, .bipush 10, 2, []) from by decide +kernel) (by decide) ?_
  refine Ends.call (show pAt 24 73 = some (73, .invokestatic 168, 3, [205, 2, 2, 0, 2123, 2124, 0]) from by decide +kernel) (isRet_none rfl) rfl rfl (Ends.mono vc ?_)
  rintro _ h9 ⟨r10, rfl, hs_h9, vc⟩
  obtain ⟨c12, vc⟩ := vc
  refine e_ast (show pAt 24 76 = some (76, .iastore, 1, []) from by decide +kernel) (show HS h9 from hs_h9) (by decide) c12 ?_
  exact e_retV (show pAt 24 77 = some (77, .return_, 1, []) from by decide +kernel) rfl vc

theorem w_hasg {X : Scr} {dp : Nat} {h : Hp} {Q : Option Value → Hp → Prop} (p : Int32) (hs : HS h)
    (vc : ((condB .lt p 0 = true → Q (some (.int 0)) h) ∧ (condB .lt p 0 = false → ((condB .ge p (h.2.1 18 0) = true → Q (some (.int 0)) h) ∧ (condB .ge p (h.2.1 18 0) = false → ((condB .ge p 7 = true → Q (some (.int 0)) h) ∧ (condB .ge p 7 = false → Q (some (.int 1)) h))))))) :
    Ends X dp 26 0 [.ref 18, .int p] [] h Q := by
  have ra : ∀ {a : Nat}, a < 1000 → a ≤ OLDB := fun h => by have := OLDB_eq; omega
  refine e_iload_n (show pAt 26 0 = some (0, .iload_n 1, 1, []) from by decide +kernel) rfl ?_
  refine e_if (t := 22) (show pAt 26 1 = some (1, .ifCond .lt 21, 3, []) from by decide +kernel) rfl (fun c1 => ?_) (fun c1 => ?_)
  · replace vc := vc.1 c1
    refine e_iconst (c := 0) (show pAt 26 22 = some (22, .iconst 0, 1, []) from by decide +kernel) (by decide) ?_
    exact e_retZ (show pAt 26 23 = some (23, .ireturn, 1, []) from by decide +kernel) rfl (by decide) vc
  · replace vc := vc.2 c1
    refine e_iload_n (show pAt 26 4 = some (4, .iload_n 1, 1, []) from by decide +kernel) rfl ?_
    refine e_aload_n (show pAt 26 5 = some (5, .aload_n 0, 1, []) from by decide +kernel) rfl (ra (by decide)) ?_
    refine e_gIv (v := h.2.1 18 0) (show pAt 26 6 = some (6, .getfield 37, 3, [2, 0, 0, 1032]) from by decide +kernel) (show HS h from hs) rfl (by decide) rfl ?_
    refine e_icmp (t := 22) (show pAt 26 9 = some (9, .if_icmp .ge 13, 3, []) from by decide +kernel) rfl (fun c2 => ?_) (fun c2 => ?_)
    · replace vc := vc.1 c2
      refine e_iconst (c := 0) (show pAt 26 22 = some (22, .iconst 0, 1, []) from by decide +kernel) (by decide) ?_
      exact e_retZ (show pAt 26 23 = some (23, .ireturn, 1, []) from by decide +kernel) rfl (by decide) vc
    · replace vc := vc.2 c2
      refine e_iload_n (show pAt 26 12 = some (12, .iload_n 1, 1, []) from by decide +kernel) rfl ?_
      refine e_bipush (c := 7) (show pAt 26 13 = some (13, .bipush 7, 2, []) from by decide +kernel) (by decide) ?_
      refine e_icmp (t := 22) (show pAt 26 15 = some (15, .if_icmp .ge 7, 3, []) from by decide +kernel) rfl (fun c3 => ?_) (fun c3 => ?_)
      · replace vc := vc.1 c3
        refine e_iconst (c := 0) (show pAt 26 22 = some (22, .iconst 0, 1, []) from by decide +kernel) (by decide) ?_
        exact e_retZ (show pAt 26 23 = some (23, .ireturn, 1, []) from by decide +kernel) rfl (by decide) vc
      · replace vc := vc.2 c3
        refine e_iconst (c := 1) (show pAt 26 18 = some (18, .iconst 1, 1, []) from by decide +kernel) (by decide) ?_
        refine e_goto (t := 23) (show pAt 26 19 = some (19, .goto 4, 3, []) from by decide +kernel) rfl ?_
        exact e_retZ (show pAt 26 23 = some (23, .ireturn, 1, []) from by decide +kernel) rfl (by decide) vc

theorem w_dct {X : Scr} {dp : Nat} {h : Hp} {Q : Option Value → Hp → Prop} (p : Int32) (hs : HS h)
    (vc : Ends X dp 104 0 [.int (h.2.1 1 7), .int p] [] h (fun rv h1 => ∃ r2, rv = some (.int r2) ∧ HS h1 ∧ (r2 = 0 ∨ r2 = 1) ∧ Q (some (.int r2)) h1)) :
    Ends X (dp + 1) 27 0 [.ref 1, .int p] [] h Q := by
  have ra : ∀ {a : Nat}, a < 1000 → a ≤ OLDB := fun h => by have := OLDB_eq; omega
  refine e_aload_n (show pAt 27 0 = some (0, .aload_n 0, 1, []) from by decide +kernel) rfl (ra (by decide)) ?_
  refine e_gIv (v := h.2.1 1 7) (show pAt 27 1 = some (1, .getfield 40, 3, [2, 7, 0, 1052]) from by decide +kernel) (show HS h from hs) rfl (by decide) rfl ?_
  refine e_iload_n (show pAt 27 4 = some (4, .iload_n 1, 1, []) from by decide +kernel) rfl ?_
  refine Ends.call (show pAt 27 5 = some (5, .invokestatic 43, 3, [104, 2, 2, 1, 2079, 2080, 0]) from by decide +kernel) (isRet_none rfl) rfl rfl (Ends.mono vc ?_)
  rintro _ h1 ⟨r2, rfl, hs_h1, vc⟩
  exact e_retZ (show pAt 27 8 = some (8, .ireturn, 1, []) from by decide +kernel) rfl vc.1 vc.2

theorem w_dct18 {X : Scr} {dp : Nat} {h : Hp} {Q : Option Value → Hp → Prop} (p : Int32) (hs : HS h)
    (vc : Ends X dp 104 0 [.int (h.2.1 18 7), .int p] [] h (fun rv h1 => ∃ r2, rv = some (.int r2) ∧ HS h1 ∧ (r2 = 0 ∨ r2 = 1) ∧ Q (some (.int r2)) h1)) :
    Ends X (dp + 1) 27 0 [.ref 18, .int p] [] h Q := by
  have ra : ∀ {a : Nat}, a < 1000 → a ≤ OLDB := fun h => by have := OLDB_eq; omega
  refine e_aload_n (show pAt 27 0 = some (0, .aload_n 0, 1, []) from by decide +kernel) rfl (ra (by decide)) ?_
  refine e_gIv (v := h.2.1 18 7) (show pAt 27 1 = some (1, .getfield 40, 3, [2, 7, 0, 1052]) from by decide +kernel) (show HS h from hs) rfl (by decide) rfl ?_
  refine e_iload_n (show pAt 27 4 = some (4, .iload_n 1, 1, []) from by decide +kernel) rfl ?_
  refine Ends.call (show pAt 27 5 = some (5, .invokestatic 43, 3, [104, 2, 2, 1, 2079, 2080, 0]) from by decide +kernel) (isRet_none rfl) rfl rfl (Ends.mono vc ?_)
  rintro _ h1 ⟨r2, rfl, hs_h1, vc⟩
  exact e_retZ (show pAt 27 8 = some (8, .ireturn, 1, []) from by decide +kernel) rfl vc.1 vc.2

theorem w_evy {X : Scr} {dp : Nat} {h : Hp} {Q : Option Value → Hp → Prop}  (hs : HS h)
    (vc : Q (some (.int ((1 <<< ((h.2.1 1 0) &&& 31)) - 1))) h) :
    Ends X dp 28 0 [.ref 1] [] h Q := by
  have ra : ∀ {a : Nat}, a < 1000 → a ≤ OLDB := fun h => by have := OLDB_eq; omega
  refine e_iconst (c := 1) (show pAt 28 0 = some (0, .iconst 1, 1, []) from by decide +kernel) (by decide) ?_
  refine e_aload_n (show pAt 28 1 = some (1, .aload_n 0, 1, []) from by decide +kernel) rfl (ra (by decide)) ?_
  refine e_gIv (v := h.2.1 1 0) (show pAt 28 2 = some (2, .getfield 37, 3, [2, 0, 0, 1032]) from by decide +kernel) (show HS h from hs) rfl (by decide) rfl ?_
  refine e_ishl (show pAt 28 5 = some (5, .ishl, 1, []) from by decide +kernel) ?_
  refine e_iconst (c := 1) (show pAt 28 6 = some (6, .iconst 1, 1, []) from by decide +kernel) (by decide) ?_
  refine e_isub (show pAt 28 7 = some (7, .isub, 1, []) from by decide +kernel) ?_
  exact e_retI (show pAt 28 8 = some (8, .ireturn, 1, []) from by decide +kernel) rfl vc

theorem w_evy18 {X : Scr} {dp : Nat} {h : Hp} {Q : Option Value → Hp → Prop}  (hs : HS h)
    (vc : Q (some (.int ((1 <<< ((h.2.1 18 0) &&& 31)) - 1))) h) :
    Ends X dp 28 0 [.ref 18] [] h Q := by
  have ra : ∀ {a : Nat}, a < 1000 → a ≤ OLDB := fun h => by have := OLDB_eq; omega
  refine e_iconst (c := 1) (show pAt 28 0 = some (0, .iconst 1, 1, []) from by decide +kernel) (by decide) ?_
  refine e_aload_n (show pAt 28 1 = some (1, .aload_n 0, 1, []) from by decide +kernel) rfl (ra (by decide)) ?_
  refine e_gIv (v := h.2.1 18 0) (show pAt 28 2 = some (2, .getfield 37, 3, [2, 0, 0, 1032]) from by decide +kernel) (show HS h from hs) rfl (by decide) rfl ?_
  refine e_ishl (show pAt 28 5 = some (5, .ishl, 1, []) from by decide +kernel) ?_
  refine e_iconst (c := 1) (show pAt 28 6 = some (6, .iconst 1, 1, []) from by decide +kernel) (by decide) ?_
  refine e_isub (show pAt 28 7 = some (7, .isub, 1, []) from by decide +kernel) ?_
  exact e_retI (show pAt 28 8 = some (8, .ireturn, 1, []) from by decide +kernel) rfl vc

theorem w_rng {X : Scr} {dp : Nat} {h : Hp} {Q : Option Value → Hp → Prop}  (hs : HS h)
    (vc : Ends X dp 28 0 [.ref 1] [] h (fun rv h1 => ∃ r2, rv = some (.int r2) ∧ HS h1 ∧ Q (some (.int (r2 &&& ((h1.2.1 1 7) ^^^ (-1))))) h1)) :
    Ends X (dp + 1) 29 0 [.ref 1] [] h Q := by
  have ra : ∀ {a : Nat}, a < 1000 → a ≤ OLDB := fun h => by have := OLDB_eq; omega
  refine e_aload_n (show pAt 29 0 = some (0, .aload_n 0, 1, []) from by decide +kernel) rfl (ra (by decide)) ?_
  refine Ends.call (show pAt 29 1 = some (1, .invokevirtual 47, 3, [28, 1, 0, 0, 2109, 2111, 9]) from by decide +kernel) (isRet_none rfl) rfl (call_this (show HS h from hs) rfl rfl (by decide)) (Ends.mono vc ?_)
  rintro _ h1 ⟨r2, rfl, hs_h1, vc⟩
  refine e_aload_n (show pAt 29 4 = some (4, .aload_n 0, 1, []) from by decide +kernel) rfl (ra (by decide)) ?_
  refine e_gIv (v := h1.2.1 1 7) (show pAt 29 5 = some (5, .getfield 40, 3, [2, 7, 0, 1052]) from by decide +kernel) (show HS h1 from hs_h1) rfl (by decide) rfl ?_
  refine e_iconst (c := (-1)) (show pAt 29 8 = some (8, .iconst (-1), 1, []) from by decide +kernel) (by decide) ?_
  refine e_ixor (show pAt 29 9 = some (9, .ixor, 1, []) from by decide +kernel) ?_
  refine e_iand (show pAt 29 10 = some (10, .iand, 1, []) from by decide +kernel) ?_
  exact e_retI (show pAt 29 11 = some (11, .ireturn, 1, []) from by decide +kernel) rfl vc

theorem w_rng18 {X : Scr} {dp : Nat} {h : Hp} {Q : Option Value → Hp → Prop}  (hs : HS h)
    (vc : Ends X dp 28 0 [.ref 18] [] h (fun rv h1 => ∃ r2, rv = some (.int r2) ∧ HS h1 ∧ Q (some (.int (r2 &&& ((h1.2.1 18 7) ^^^ (-1))))) h1)) :
    Ends X (dp + 1) 29 0 [.ref 18] [] h Q := by
  have ra : ∀ {a : Nat}, a < 1000 → a ≤ OLDB := fun h => by have := OLDB_eq; omega
  refine e_aload_n (show pAt 29 0 = some (0, .aload_n 0, 1, []) from by decide +kernel) rfl (ra (by decide)) ?_
  refine Ends.call (show pAt 29 1 = some (1, .invokevirtual 47, 3, [28, 1, 0, 0, 2109, 2111, 9]) from by decide +kernel) (isRet_none rfl) rfl (call_this (show HS h from hs) rfl rfl (by decide)) (Ends.mono vc ?_)
  rintro _ h1 ⟨r2, rfl, hs_h1, vc⟩
  refine e_aload_n (show pAt 29 4 = some (4, .aload_n 0, 1, []) from by decide +kernel) rfl (ra (by decide)) ?_
  refine e_gIv (v := h1.2.1 18 7) (show pAt 29 5 = some (5, .getfield 40, 3, [2, 7, 0, 1052]) from by decide +kernel) (show HS h1 from hs_h1) rfl (by decide) rfl ?_
  refine e_iconst (c := (-1)) (show pAt 29 8 = some (8, .iconst (-1), 1, []) from by decide +kernel) (by decide) ?_
  refine e_ixor (show pAt 29 9 = some (9, .ixor, 1, []) from by decide +kernel) ?_
  refine e_iand (show pAt 29 10 = some (10, .iand, 1, []) from by decide +kernel) ?_
  exact e_retI (show pAt 29 11 = some (11, .ireturn, 1, []) from by decide +kernel) rfl vc

theorem w_hst {X : Scr} {dp : Nat} {h : Hp} {Q : Option Value → Hp → Prop} (p : Int32) (hs : HS h)
    (vc : (inB p 7 = true ∧ ((condB .eq (h.2.1 19 p.toNatClampNeg) 3 = true → (inB p 7 = true ∧ Q (some (.int (h.2.1 22 p.toNatClampNeg))) h)) ∧ (condB .eq (h.2.1 19 p.toNatClampNeg) 3 = false → (inB p 7 = true ∧ ((condB .ne (h.2.1 19 p.toNatClampNeg) 6 = true → (inB p 7 = true ∧ Q (some (.int (((h.2.1 22 p.toNatClampNeg) + 9) + 1))) h)) ∧ (condB .ne (h.2.1 19 p.toNatClampNeg) 6 = false → (inB p 7 = true ∧ Q (some (.int (h.2.1 22 p.toNatClampNeg))) h)))))))) :
    Ends X dp 23 0 [.ref 17, .int p, .retAddr 0] [] h Q := by
  have ra : ∀ {a : Nat}, a < 1000 → a ≤ OLDB := fun h => by have := OLDB_eq; omega
  refine e_aload_n (show pAt 23 0 = some (0, .aload_n 0, 1, []) from by decide +kernel) rfl (ra (by decide)) ?_
  refine e_gR (show pAt 23 1 = some (1, .getfield 12, 3, [1, 0, 0, 1127]) from by decide +kernel) (show HS h from hs) rfl (by decide) (hs_ref (show HS h from hs) rfl) ?_
  refine e_gR (show pAt 23 4 = some (4, .getfield 153, 3, [2, 1, 1, 1036]) from by decide +kernel) (show HS h from hs) rfl (by decide) (hs_ref (show HS h from hs) rfl) ?_
  refine e_iload_n (show pAt 23 7 = some (7, .iload_n 1, 1, []) from by decide +kernel) rfl ?_
  obtain ⟨c1, vc⟩ := vc
  refine e_aldv (v := h.2.1 19 p.toNatClampNeg) (show pAt 23 8 = some (8, .iaload, 1, []) from by decide +kernel) (show HS h from hs) (by decide) c1 rfl ?_
  refine e_iconst (c := 3) (show pAt 23 9 = some (9, .iconst 3, 1, []) from by decide +kernel) (by decide) ?_
  refine e_icmp (t := 27) (show pAt 23 10 = some (10, .if_icmp .eq 17, 3, []) from by decide +kernel) rfl (fun c2 => ?_) (fun c2 => ?_)
  · replace vc := vc.1 c2
    refine e_iconst (c := 1) (show pAt 23 27 = some (27, .iconst 1, 1, []) from by decide +kernel) (by decide) ?_
    refine e_goto (t := 32) (show pAt 23 28 = some (28, .goto 4, 3, []) from by decide +kernel) rfl ?_
    refine e_istore_n (show pAt 23 32 = some (32, .istore_n 2, 1, []) from by decide +kernel) ⟨Nat.le_of_ble_eq_true rfl, rfl⟩ rfl ?_
    refine e_iload_n (show pAt 23 33 = some (33, .iload_n 2, 1, []) from by decide +kernel) rfl ?_
    refine e_if (t := 49) (show pAt 23 34 = some (34, .ifCond .eq 15, 3, []) from by decide +kernel) rfl (fun c3 => absurd c3 (by decide)) (fun c3 => ?_)
    refine e_aload_n (show pAt 23 37 = some (37, .aload_n 0, 1, []) from by decide +kernel) rfl (ra (by decide)) ?_
    refine e_gR (show pAt 23 38 = some (38, .getfield 12, 3, [1, 0, 0, 1127]) from by decide +kernel) (show HS h from hs) rfl (by decide) (hs_ref (show HS h from hs) rfl) ?_
    refine e_gR (show pAt 23 41 = some (41, .getfield 150, 3, [2, 4, 1, 1045]) from by decide +kernel) (show HS h from hs) rfl (by decide) (hs_ref (show HS h from hs) rfl) ?_
    refine e_iload_n (show pAt 23 44 = some (44, .iload_n 1, 1, []) from by decide +kernel) rfl ?_
    obtain ⟨c4, vc⟩ := vc
    refine e_aldv (v := h.2.1 22 p.toNatClampNeg) (show pAt 23 45 = some (45, .iaload, 1, []) from by decide +kernel) (show HS h from hs) (by decide) c4 rfl ?_
    refine e_goto (t := 63) (show pAt 23 46 = some (46, .goto 17, 3, []) from by decide +kernel) rfl ?_
    exact e_retI (show pAt 23 63 = some (63, .ireturn, 1, []) from by decide +kernel) rfl vc
  · replace vc := vc.2 c2
    refine e_aload_n (show pAt 23 13 = some (13, .aload_n 0, 1, []) from by decide +kernel) rfl (ra (by decide)) ?_
    refine e_gR (show pAt 23 14 = some (14, .getfield 12, 3, [1, 0, 0, 1127]) from by decide +kernel) (show HS h from hs) rfl (by decide) (hs_ref (show HS h from hs) rfl) ?_
    refine e_gR (show pAt 23 17 = some (17, .getfield 153, 3, [2, 1, 1, 1036]) from by decide +kernel) (show HS h from hs) rfl (by decide) (hs_ref (show HS h from hs) rfl) ?_
    refine e_iload_n (show pAt 23 20 = some (20, .iload_n 1, 1, []) from by decide +kernel) rfl ?_
    obtain ⟨c5, vc⟩ := vc
    refine e_aldv (v := h.2.1 19 p.toNatClampNeg) (show pAt 23 21 = some (21, .iaload, 1, []) from by decide +kernel) (show HS h from hs) (by decide) c5 rfl ?_
    refine e_bipush (c := 6) (show pAt 23 22 = some (22, .bipush 6, 2, []) from by decide +kernel) (by decide) ?_
    refine e_icmp (t := 31) (show pAt 23 24 = some (24, .if_icmp .ne 7, 3, []) from by decide +kernel) rfl (fun c6 => ?_) (fun c6 => ?_)
    · replace vc := vc.1 c6
      refine e_iconst (c := 0) (show pAt 23 31 = some (31, .iconst 0, 1, []) from by decide +kernel) (by decide) ?_
      refine e_istore_n (show pAt 23 32 = some (32, .istore_n 2, 1, []) from by decide +kernel) ⟨Nat.le_of_ble_eq_true rfl, rfl⟩ rfl ?_
      refine e_iload_n (show pAt 23 33 = some (33, .iload_n 2, 1, []) from by decide +kernel) rfl ?_
      refine e_if (t := 49) (show pAt 23 34 = some (34, .ifCond .eq 15, 3, []) from by decide +kernel) rfl (fun c7 => ?_) (fun c7 => absurd c7 (by decide))
      refine e_aload_n (show pAt 23 49 = some (49, .aload_n 0, 1, []) from by decide +kernel) rfl (ra (by decide)) ?_
      refine e_gR (show pAt 23 50 = some (50, .getfield 12, 3, [1, 0, 0, 1127]) from by decide +kernel) (show HS h from hs) rfl (by decide) (hs_ref (show HS h from hs) rfl) ?_
      refine e_gR (show pAt 23 53 = some (53, .getfield 150, 3, [2, 4, 1, 1045]) from by decide +kernel) (show HS h from hs) rfl (by decide) (hs_ref (show HS h from hs) rfl) ?_
      refine e_iload_n (show pAt 23 56 = some (56, .iload_n 1, 1, []) from by decide +kernel) rfl ?_
      obtain ⟨c8, vc⟩ := vc
      refine e_aldv (v := h.2.1 22 p.toNatClampNeg) (show pAt 23 57 = some (57, .iaload, 1, []) from by decide +kernel) (show HS h from hs) (by decide) c8 rfl ?_
      refine e_bipush (c := 9) (show pAt 23 58 = some (58, .bipush 9, 2, []) from by decide +kernel) (by decide) ?_
      refine e_iadd (show pAt 23 60 = some (60, .iadd, 1, []) from by decide +kernel) ?_
      refine e_iconst (c := 1) (show pAt 23 61 = some (61, .iconst 1, 1, []) from by decide +kernel) (by decide) ?_
      refine e_iadd (show pAt 23 62 = some (62, .iadd, 1, []) from by decide +kernel) ?_
      exact e_retI (show pAt 23 63 = some (63, .ireturn, 1, []) from by decide +kernel) rfl vc
    · replace vc := vc.2 c6
      refine e_iconst (c := 1) (show pAt 23 27 = some (27, .iconst 1, 1, []) from by decide +kernel) (by decide) ?_
      refine e_goto (t := 32) (show pAt 23 28 = some (28, .goto 4, 3, []) from by decide +kernel) rfl ?_
      refine e_istore_n (show pAt 23 32 = some (32, .istore_n 2, 1, []) from by decide +kernel) ⟨Nat.le_of_ble_eq_true rfl, rfl⟩ rfl ?_
      refine e_iload_n (show pAt 23 33 = some (33, .iload_n 2, 1, []) from by decide +kernel) rfl ?_
      refine e_if (t := 49) (show pAt 23 34 = some (34, .ifCond .eq 15, 3, []) from by decide +kernel) rfl (fun c9 => absurd c9 (by decide)) (fun c9 => ?_)
      refine e_aload_n (show pAt 23 37 = some (37, .aload_n 0, 1, []) from by decide +kernel) rfl (ra (by decide)) ?_
      refine e_gR (show pAt 23 38 = some (38, .getfield 12, 3, [1, 0, 0, 1127]) from by decide +kernel) (show HS h from hs) rfl (by decide) (hs_ref (show HS h from hs) rfl) ?_
      refine e_gR (show pAt 23 41 = some (41, .getfield 150, 3, [2, 4, 1, 1045]) from by decide +kernel) (show HS h from hs) rfl (by decide) (hs_ref (show HS h from hs) rfl) ?_
      refine e_iload_n (show pAt 23 44 = some (44, .iload_n 1, 1, []) from by decide +kernel) rfl ?_
      obtain ⟨c10, vc⟩ := vc
      refine e_aldv (v := h.2.1 22 p.toNatClampNeg) (show pAt 23 45 = some (45, .iaload, 1, []) from by decide +kernel) (show HS h from hs) (by decide) c10 rfl ?_
      refine e_goto (t := 63) (show pAt 23 46 = some (46, .goto 17, 3, []) from by decide +kernel) rfl ?_
      exact e_retI (show pAt 23 63 = some (63, .ireturn, 1, []) from by decide +kernel) rfl vc

theorem w_rof {X : Scr} {dp : Nat} {h : Hp} {Q : Option Value → Hp → Prop} (l : Int32) (hs : HS h)
    (vc : Ends X dp 103 0 [.int l] [] h (fun rv h1 => ∃ r2, rv = some (.int r2) ∧ HS h1 ∧ ((condB .eq r2 0 = true → Q (some (.int 0)) h1) ∧ (condB .eq r2 0 = false → (inB l 7 = true ∧ Q (some (.int (h1.2.1 32 l.toNatClampNeg))) h1))))) :
    Ends X (dp + 1) 18 0 [.ref 17, .int l] [] h Q := by
  have ra : ∀ {a : Nat}, a < 1000 → a ≤ OLDB := fun h => by have := OLDB_eq; omega
  refine e_iload_n (show pAt 18 0 = some (0, .iload_n 1, 1, []) from by decide +kernel) rfl ?_
  refine Ends.call (show pAt 18 1 = some (1, .invokestatic 177, 3, [103, 1, 2, 1, 2202, 2061, 0]) from by decide +kernel) (isRet_none rfl) rfl rfl (Ends.mono vc ?_)
  rintro _ h1 ⟨r2, rfl, hs_h1, vc⟩
  refine e_if (t := 16) (show pAt 18 4 = some (4, .ifCond .eq 12, 3, []) from by decide +kernel) rfl (fun c4 => ?_) (fun c4 => ?_)
  · replace vc := vc.1 c4
    refine e_iconst (c := 0) (show pAt 18 16 = some (16, .iconst 0, 1, []) from by decide +kernel) (by decide) ?_
    exact e_retI (show pAt 18 17 = some (17, .ireturn, 1, []) from by decide +kernel) rfl vc
  · replace vc := vc.2 c4
    refine e_aload_n (show pAt 18 7 = some (7, .aload_n 0, 1, []) from by decide +kernel) rfl (ra (by decide)) ?_
    refine e_gR (show pAt 18 8 = some (8, .getfield 29, 3, [1, 3, 0, 1131]) from by decide +kernel) (show HS h1 from hs_h1) rfl (by decide) (hs_ref (show HS h1 from hs_h1) rfl) ?_
    refine e_iload_n (show pAt 18 11 = some (11, .iload_n 1, 1, []) from by decide +kernel) rfl ?_
    obtain ⟨c5, vc⟩ := vc
    refine e_aldv (v := h1.2.1 32 l.toNatClampNeg) (show pAt 18 12 = some (12, .iaload, 1, []) from by decide +kernel) (show HS h1 from hs_h1) (by decide) c5 rfl ?_
    refine e_goto (t := 17) (show pAt 18 13 = some (13, .goto 4, 3, []) from by decide +kernel) rfl ?_
    exact e_retI (show pAt 18 17 = some (17, .ireturn, 1, []) from by decide +kernel) rfl vc

theorem w_hof0 {X : Scr} {dp : Nat} {h : Hp} {Q : Option Value → Hp → Prop} (t : Int32) (hs : HS h)
    (vc : Ends X dp 19 4 [.ref 17, .int t, .int 0, .int 0] [] h Q) :
    Ends X dp 19 0 [.ref 17, .int t, .retAddr 0, .retAddr 0] [] h Q := by
  have ra : ∀ {a : Nat}, a < 1000 → a ≤ OLDB := fun h => by have := OLDB_eq; omega
  refine e_iconst (c := 0) (show pAt 19 0 = some (0, .iconst 0, 1, []) from by decide +kernel) (by decide) ?_
  refine e_istore_n (show pAt 19 1 = some (1, .istore_n 2, 1, []) from by decide +kernel) ⟨Nat.le_of_ble_eq_true rfl, rfl⟩ rfl ?_
  refine e_iconst (c := 0) (show pAt 19 2 = some (2, .iconst 0, 1, []) from by decide +kernel) (by decide) ?_
  refine e_istore_n (show pAt 19 3 = some (3, .istore_n 3, 1, []) from by decide +kernel) ⟨Nat.le_of_ble_eq_true rfl, rfl⟩ rfl ?_
  exact vc

theorem w_hof1 {X : Scr} {dp : Nat} {h : Hp} {Q : Option Value → Hp → Prop} (t : Int32) (s : Int32) (p : Int32) (hs : HS h)
    (vc : ((condB .ge p 7 = true → Q (some (.int s)) h) ∧ (condB .ge p 7 = false → Ends X dp 104 0 [.int t, .int p] [] h (fun rv h2 => ∃ r3, rv = some (.int r3) ∧ HS h2 ∧ ((condB .eq r3 0 = true → Ends X (dp + 1) 19 4 [.ref 17, .int t, .int s, .int (p + 1)] [] h2 Q) ∧ (condB .eq r3 0 = false → (inB p 7 = true ∧ Ends X (dp + 1) 19 4 [.ref 17, .int t, .int (s + (h2.2.1 34 p.toNatClampNeg)), .int (p + 1)] [] h2 Q))))))) :
    Ends X (dp + 1) 19 4 [.ref 17, .int t, .int s, .int p] [] h Q := by
  have ra : ∀ {a : Nat}, a < 1000 → a ≤ OLDB := fun h => by have := OLDB_eq; omega
  refine e_iload_n (show pAt 19 4 = some (4, .iload_n 3, 1, []) from by decide +kernel) rfl ?_
  refine e_bipush (c := 7) (show pAt 19 5 = some (5, .bipush 7, 2, []) from by decide +kernel) (by decide) ?_
  refine e_icmp (t := 33) (show pAt 19 7 = some (7, .if_icmp .ge 26, 3, []) from by decide +kernel) rfl (fun c1 => ?_) (fun c1 => ?_)
  · replace vc := vc.1 c1
    refine e_iload_n (show pAt 19 33 = some (33, .iload_n 2, 1, []) from by decide +kernel) rfl ?_
    exact e_retI (show pAt 19 34 = some (34, .ireturn, 1, []) from by decide +kernel) rfl vc
  · replace vc := vc.2 c1
    refine e_iload_n (show pAt 19 10 = some (10, .iload_n 1, 1, []) from by decide +kernel) rfl ?_
    refine e_iload_n (show pAt 19 11 = some (11, .iload_n 3, 1, []) from by decide +kernel) rfl ?_
    refine Ends.call (show pAt 19 12 = some (12, .invokestatic 115, 3, [104, 2, 2, 1, 2118, 2080, 0]) from by decide +kernel) (isRet_none rfl) rfl rfl (Ends.mono vc ?_)
    rintro _ h2 ⟨r3, rfl, hs_h2, vc⟩
    refine e_if (t := 27) (show pAt 19 15 = some (15, .ifCond .eq 12, 3, []) from by decide +kernel) rfl (fun c5 => ?_) (fun c5 => ?_)
    · replace vc := vc.1 c5
      refine e_iinc (c := 1) (show pAt 19 27 = some (27, .iinc 3 1, 3, []) from by decide +kernel) rfl rfl (by decide) rfl ?_
      refine e_goto (t := 4) (show pAt 19 30 = some (30, .goto (-26), 3, []) from by decide +kernel) rfl ?_
      exact vc
    · replace vc := vc.2 c5
      refine e_iload_n (show pAt 19 18 = some (18, .iload_n 2, 1, []) from by decide +kernel) rfl ?_
      refine e_aload_n (show pAt 19 19 = some (19, .aload_n 0, 1, []) from by decide +kernel) rfl (ra (by decide)) ?_
      refine e_gR (show pAt 19 20 = some (20, .getfield 35, 3, [1, 5, 0, 1134]) from by decide +kernel) (show HS h2 from hs_h2) rfl (by decide) (hs_ref (show HS h2 from hs_h2) rfl) ?_
      refine e_iload_n (show pAt 19 23 = some (23, .iload_n 3, 1, []) from by decide +kernel) rfl ?_
      obtain ⟨c6, vc⟩ := vc
      refine e_aldv (v := h2.2.1 34 p.toNatClampNeg) (show pAt 19 24 = some (24, .iaload, 1, []) from by decide +kernel) (show HS h2 from hs_h2) (by decide) c6 rfl ?_
      refine e_iadd (show pAt 19 25 = some (25, .iadd, 1, []) from by decide +kernel) ?_
      refine e_istore_n (show pAt 19 26 = some (26, .istore_n 2, 1, []) from by decide +kernel) ⟨Nat.le_of_ble_eq_true rfl, rfl⟩ rfl ?_
      refine e_iinc (c := 1) (show pAt 19 27 = some (27, .iinc 3 1, 3, []) from by decide +kernel) rfl rfl (by decide) rfl ?_
      refine e_goto (t := 4) (show pAt 19 30 = some (30, .goto (-26), 3, []) from by decide +kernel) rfl ?_
      exact vc

theorem w_str0 {X : Scr} {dp : Nat} {h : Hp} {Q : Option Value → Hp → Prop} (p : Int32) (hs : HS h)
    (vc : (inB p 7 = true ∧ Ends X dp 16 27 [.ref 17, .int p, .int ((h.2.1 17 11) &&& ((1 <<< (p &&& 31)) ^^^ (-1))), .int (-1), .int (h.2.1 21 p.toNatClampNeg), .int 0] [] h Q)) :
    Ends X dp 16 0 [.ref 17, .int p, .retAddr 0, .retAddr 0, .retAddr 0, .retAddr 0] [] h Q := by
  have ra : ∀ {a : Nat}, a < 1000 → a ≤ OLDB := fun h => by have := OLDB_eq; omega
  refine e_aload_n (show pAt 16 0 = some (0, .aload_n 0, 1, []) from by decide +kernel) rfl (ra (by decide)) ?_
  refine e_gIv (v := h.2.1 17 11) (show pAt 16 1 = some (1, .getfield 87, 3, [1, 11, 0, 1144]) from by decide +kernel) (show HS h from hs) rfl (by decide) rfl ?_
  refine e_iconst (c := 1) (show pAt 16 4 = some (4, .iconst 1, 1, []) from by decide +kernel) (by decide) ?_
  refine e_iload_n (show pAt 16 5 = some (5, .iload_n 1, 1, []) from by decide +kernel) rfl ?_
  refine e_ishl (show pAt 16 6 = some (6, .ishl, 1, []) from by decide +kernel) ?_
  refine e_iconst (c := (-1)) (show pAt 16 7 = some (7, .iconst (-1), 1, []) from by decide +kernel) (by decide) ?_
  refine e_ixor (show pAt 16 8 = some (8, .ixor, 1, []) from by decide +kernel) ?_
  refine e_iand (show pAt 16 9 = some (9, .iand, 1, []) from by decide +kernel) ?_
  refine e_istore_n (show pAt 16 10 = some (10, .istore_n 2, 1, []) from by decide +kernel) ⟨Nat.le_of_ble_eq_true rfl, rfl⟩ rfl ?_
  refine e_iconst (c := (-1)) (show pAt 16 11 = some (11, .iconst (-1), 1, []) from by decide +kernel) (by decide) ?_
  refine e_istore_n (show pAt 16 12 = some (12, .istore_n 3, 1, []) from by decide +kernel) ⟨Nat.le_of_ble_eq_true rfl, rfl⟩ rfl ?_
  refine e_aload_n (show pAt 16 13 = some (13, .aload_n 0, 1, []) from by decide +kernel) rfl (ra (by decide)) ?_
  refine e_gR (show pAt 16 14 = some (14, .getfield 12, 3, [1, 0, 0, 1127]) from by decide +kernel) (show HS h from hs) rfl (by decide) (hs_ref (show HS h from hs) rfl) ?_
  refine e_gR (show pAt 16 17 = some (17, .getfield 119, 3, [2, 3, 1, 1042]) from by decide +kernel) (show HS h from hs) rfl (by decide) (hs_ref (show HS h from hs) rfl) ?_
  refine e_iload_n (show pAt 16 20 = some (20, .iload_n 1, 1, []) from by decide +kernel) rfl ?_
  obtain ⟨c1, vc⟩ := vc
  refine e_aldv (v := h.2.1 21 p.toNatClampNeg) (show pAt 16 21 = some (21, .iaload, 1, []) from by decide +kernel) (show HS h from hs) (by decide) c1 rfl ?_
  refine e_istore (show pAt 16 22 = some (22, .istore 4, 2, []) from by decide +kernel) ⟨Nat.le_of_ble_eq_true rfl, rfl⟩ rfl ?_
  refine e_iconst (c := 0) (show pAt 16 24 = some (24, .iconst 0, 1, []) from by decide +kernel) (by decide) ?_
  refine e_istore (show pAt 16 25 = some (25, .istore 5, 2, []) from by decide +kernel) ⟨Nat.le_of_ble_eq_true rfl, rfl⟩ rfl ?_
  exact vc

theorem w_str1 {X : Scr} {dp : Nat} {h : Hp} {Q : Option Value → Hp → Prop} (p : Int32) (o : Int32) (s : Int32) (l : Int32) (q : Int32) (hs : HS h)
    (vc : ((condB .ge q 7 = true → Q (some (.int l)) h) ∧ (condB .ge q 7 = false → Ends X dp 104 0 [.int o, .int q] [] h (fun rv h2 => ∃ r3, rv = some (.int r3) ∧ HS h2 ∧ ((condB .eq r3 0 = true → Ends X (dp + 1) 16 27 [.ref 17, .int p, .int o, .int s, .int l, .int (q + 1)] [] h2 Q) ∧ (condB .eq r3 0 = false → (inB q 7 = true ∧ ((condB .le (h2.2.1 23 q.toNatClampNeg) s = true → Ends X (dp + 1) 16 27 [.ref 17, .int p, .int o, .int s, .int l, .int (q + 1)] [] h2 Q) ∧ (condB .le (h2.2.1 23 q.toNatClampNeg) s = false → (inB q 7 = true ∧ (inB q 7 = true ∧ Ends X (dp + 1) 16 27 [.ref 17, .int p, .int o, .int (h2.2.1 23 q.toNatClampNeg), .int (h2.2.1 21 q.toNatClampNeg), .int (q + 1)] [] h2 Q))))))))))) :
    Ends X (dp + 1) 16 27 [.ref 17, .int p, .int o, .int s, .int l, .int q] [] h Q := by
  have ra : ∀ {a : Nat}, a < 1000 → a ≤ OLDB := fun h => by have := OLDB_eq; omega
  refine e_iload (show pAt 16 27 = some (27, .iload 5, 2, []) from by decide +kernel) rfl ?_
  refine e_bipush (c := 7) (show pAt 16 29 = some (29, .bipush 7, 2, []) from by decide +kernel) (by decide) ?_
  refine e_icmp (t := 86) (show pAt 16 31 = some (31, .if_icmp .ge 55, 3, []) from by decide +kernel) rfl (fun c1 => ?_) (fun c1 => ?_)
  · replace vc := vc.1 c1
    refine e_iload (show pAt 16 86 = some (86, .iload 4, 2, []) from by decide +kernel) rfl ?_
    exact e_retI (show pAt 16 88 = some (88, .ireturn, 1, []) from by decide +kernel) rfl vc
  · replace vc := vc.2 c1
    refine e_iload_n (show pAt 16 34 = some (34, .iload_n 2, 1, []) from by decide +kernel) rfl ?_
    refine e_iload (show pAt 16 35 = some (35, .iload 5, 2, []) from by decide +kernel) rfl ?_
    refine Ends.call (show pAt 16 37 = some (37, .invokestatic 115, 3, [104, 2, 2, 1, 2118, 2080, 0]) from by decide +kernel) (isRet_none rfl) rfl rfl (Ends.mono vc ?_)
    rintro _ h2 ⟨r3, rfl, hs_h2, vc⟩
    refine e_if (t := 80) (show pAt 16 40 = some (40, .ifCond .eq 40, 3, []) from by decide +kernel) rfl (fun c5 => ?_) (fun c5 => ?_)
    · replace vc := vc.1 c5
      refine e_iinc (c := 1) (show pAt 16 80 = some (80, .iinc 5 1, 3, []) from by decide +kernel) rfl rfl (by decide) rfl ?_
      refine e_goto (t := 27) (show pAt 16 83 = some (83, .goto (-56), 3, []) from by decide +kernel) rfl ?_
      exact vc
    · replace vc := vc.2 c5
      refine e_aload_n (show pAt 16 43 = some (43, .aload_n 0, 1, []) from by decide +kernel) rfl (ra (by decide)) ?_
      refine e_gR (show pAt 16 44 = some (44, .getfield 12, 3, [1, 0, 0, 1127]) from by decide +kernel) (show HS h2 from hs_h2) rfl (by decide) (hs_ref (show HS h2 from hs_h2) rfl) ?_
      refine e_gR (show pAt 16 47 = some (47, .getfield 134, 3, [2, 5, 1, 1048]) from by decide +kernel) (show HS h2 from hs_h2) rfl (by decide) (hs_ref (show HS h2 from hs_h2) rfl) ?_
      refine e_iload (show pAt 16 50 = some (50, .iload 5, 2, []) from by decide +kernel) rfl ?_
      obtain ⟨c6, vc⟩ := vc
      refine e_aldv (v := h2.2.1 23 q.toNatClampNeg) (show pAt 16 52 = some (52, .iaload, 1, []) from by decide +kernel) (show HS h2 from hs_h2) (by decide) c6 rfl ?_
      refine e_iload_n (show pAt 16 53 = some (53, .iload_n 3, 1, []) from by decide +kernel) rfl ?_
      refine e_icmp (t := 80) (show pAt 16 54 = some (54, .if_icmp .le 26, 3, []) from by decide +kernel) rfl (fun c7 => ?_) (fun c7 => ?_)
      · replace vc := vc.1 c7
        refine e_iinc (c := 1) (show pAt 16 80 = some (80, .iinc 5 1, 3, []) from by decide +kernel) rfl rfl (by decide) rfl ?_
        refine e_goto (t := 27) (show pAt 16 83 = some (83, .goto (-56), 3, []) from by decide +kernel) rfl ?_
        exact vc
      · replace vc := vc.2 c7
        refine e_aload_n (show pAt 16 57 = some (57, .aload_n 0, 1, []) from by decide +kernel) rfl (ra (by decide)) ?_
        refine e_gR (show pAt 16 58 = some (58, .getfield 12, 3, [1, 0, 0, 1127]) from by decide +kernel) (show HS h2 from hs_h2) rfl (by decide) (hs_ref (show HS h2 from hs_h2) rfl) ?_
        refine e_gR (show pAt 16 61 = some (61, .getfield 134, 3, [2, 5, 1, 1048]) from by decide +kernel) (show HS h2 from hs_h2) rfl (by decide) (hs_ref (show HS h2 from hs_h2) rfl) ?_
        refine e_iload (show pAt 16 64 = some (64, .iload 5, 2, []) from by decide +kernel) rfl ?_
        obtain ⟨c8, vc⟩ := vc
        refine e_aldv (v := h2.2.1 23 q.toNatClampNeg) (show pAt 16 66 = some (66, .iaload, 1, []) from by decide +kernel) (show HS h2 from hs_h2) (by decide) c8 rfl ?_
        refine e_istore_n (show pAt 16 67 = some (67, .istore_n 3, 1, []) from by decide +kernel) ⟨Nat.le_of_ble_eq_true rfl, rfl⟩ rfl ?_
        refine e_aload_n (show pAt 16 68 = some (68, .aload_n 0, 1, []) from by decide +kernel) rfl (ra (by decide)) ?_
        refine e_gR (show pAt 16 69 = some (69, .getfield 12, 3, [1, 0, 0, 1127]) from by decide +kernel) (show HS h2 from hs_h2) rfl (by decide) (hs_ref (show HS h2 from hs_h2) rfl) ?_
        refine e_gR (show pAt 16 72 = some (72, .getfield 119, 3, [2, 3, 1, 1042]) from by decide +kernel) (show HS h2 from hs_h2) rfl (by decide) (hs_ref (show HS h2 from hs_h2) rfl) ?_
        refine e_iload (show pAt 16 75 = some (75, .iload 5, 2, []) from by decide +kernel) rfl ?_
        obtain ⟨c9, vc⟩ := vc
        refine e_aldv (v := h2.2.1 21 q.toNatClampNeg) (show pAt 16 77 = some (77, .iaload, 1, []) from by decide +kernel) (show HS h2 from hs_h2) (by decide) c9 rfl ?_
        refine e_istore (show pAt 16 78 = some (78, .istore 4, 2, []) from by decide +kernel) ⟨Nat.le_of_ble_eq_true rfl, rfl⟩ rfl ?_
        refine e_iinc (c := 1) (show pAt 16 80 = some (80, .iinc 5 1, 3, []) from by decide +kernel) rfl rfl (by decide) rfl ?_
        refine e_goto (t := 27) (show pAt 16 83 = some (83, .goto (-56), 3, []) from by decide +kernel) rfl ?_
        exact vc

theorem w_lon0 {X : Scr} {dp : Nat} {h : Hp} {Q : Option Value → Hp → Prop} (o : Int32) (hs : HS h)
    (vc : Ends X dp 17 12 [.ref 17, .int o, .int 0, .int 8, .int 7, .int 0, .retAddr 0, .retAddr 0] [] h Q) :
    Ends X dp 17 0 [.ref 17, .int o, .retAddr 0, .retAddr 0, .retAddr 0, .retAddr 0, .retAddr 0, .retAddr 0] [] h Q := by
  have ra : ∀ {a : Nat}, a < 1000 → a ≤ OLDB := fun h => by have := OLDB_eq; omega
  refine e_iconst (c := 0) (show pAt 17 0 = some (0, .iconst 0, 1, []) from by decide +kernel) (by decide) ?_
  refine e_istore_n (show pAt 17 1 = some (1, .istore_n 2, 1, []) from by decide +kernel) ⟨Nat.le_of_ble_eq_true rfl, rfl⟩ rfl ?_
  refine e_bipush (c := 8) (show pAt 17 2 = some (2, .bipush 8, 2, []) from by decide +kernel) (by decide) ?_
  refine e_istore_n (show pAt 17 4 = some (4, .istore_n 3, 1, []) from by decide +kernel) ⟨Nat.le_of_ble_eq_true rfl, rfl⟩ rfl ?_
  refine e_bipush (c := 7) (show pAt 17 5 = some (5, .bipush 7, 2, []) from by decide +kernel) (by decide) ?_
  refine e_istore (show pAt 17 7 = some (7, .istore 4, 2, []) from by decide +kernel) ⟨Nat.le_of_ble_eq_true rfl, rfl⟩ rfl ?_
  refine e_iconst (c := 0) (show pAt 17 9 = some (9, .iconst 0, 1, []) from by decide +kernel) (by decide) ?_
  refine e_istore (show pAt 17 10 = some (10, .istore 5, 2, []) from by decide +kernel) ⟨Nat.le_of_ble_eq_true rfl, rfl⟩ rfl ?_
  exact vc

theorem w_lon1 {X : Scr} {dp : Nat} {h : Hp} {Q : Option Value → Hp → Prop} (o : Int32) (b : Int32) (f : Int32) (n : Int32) (l : Int32) (x : Value) (y : Value) (hs : HS h)
    (vc : ((condB .ge l 7 = true → Q (some (.int b)) h) ∧ (condB .ge l 7 = false → (inB l 7 = true ∧ Ends X dp 204 0 [.int (h.2.1 32 l.toNatClampNeg)] [] h (fun rv h3 => ∃ r4, rv = some (.int r4) ∧ HS h3 ∧ Ends X dp 206 0 [.int (l - o)] [] h3 (fun rv h6 => ∃ r7, rv = some (.int r7) ∧ HS h6 ∧ ((condB .lt r4 f = true → Ends X (dp + 1) 17 12 [.ref 17, .int o, .int l, .int r4, .int r7, .int (l + 1), .int r4, .int r7] [] h6 Q) ∧ (condB .lt r4 f = false → ((condB .ne r4 f = true → Ends X (dp + 1) 17 12 [.ref 17, .int o, .int b, .int f, .int n, .int (l + 1), .int r4, .int r7] [] h6 Q) ∧ (condB .ne r4 f = false → ((condB .ge r7 n = true → Ends X (dp + 1) 17 12 [.ref 17, .int o, .int b, .int f, .int n, .int (l + 1), .int r4, .int r7] [] h6 Q) ∧ (condB .ge r7 n = false → Ends X (dp + 1) 17 12 [.ref 17, .int o, .int l, .int r4, .int r7, .int (l + 1), .int r4, .int r7] [] h6 Q)))))))))))) :
    Ends X (dp + 1) 17 12 [.ref 17, .int o, .int b, .int f, .int n, .int l, x, y] [] h Q := by
  have ra : ∀ {a : Nat}, a < 1000 → a ≤ OLDB := fun h => by have := OLDB_eq; omega
  refine e_iload (show pAt 17 12 = some (12, .iload 5, 2, []) from by decide +kernel) rfl ?_
  refine e_bipush (c := 7) (show pAt 17 14 = some (14, .bipush 7, 2, []) from by decide +kernel) (by decide) ?_
  refine e_icmp (t := 75) (show pAt 17 16 = some (16, .if_icmp .ge 59, 3, []) from by decide +kernel) rfl (fun c1 => ?_) (fun c1 => ?_)
  · replace vc := vc.1 c1
    refine e_iload_n (show pAt 17 75 = some (75, .iload_n 2, 1, []) from by decide +kernel) rfl ?_
    exact e_retI (show pAt 17 76 = some (76, .ireturn, 1, []) from by decide +kernel) rfl vc
  · replace vc := vc.2 c1
    refine e_aload_n (show pAt 17 19 = some (19, .aload_n 0, 1, []) from by decide +kernel) rfl (ra (by decide)) ?_
    refine e_gR (show pAt 17 20 = some (20, .getfield 29, 3, [1, 3, 0, 1131]) from by decide +kernel) (show HS h from hs) rfl (by decide) (hs_ref (show HS h from hs) rfl) ?_
    refine e_iload (show pAt 17 23 = some (23, .iload 5, 2, []) from by decide +kernel) rfl ?_
    obtain ⟨c2, vc⟩ := vc
    refine e_aldv (v := h.2.1 32 l.toNatClampNeg) (show pAt 17 25 = some (25, .iaload, 1, []) from by decide +kernel) (show HS h from hs) (by decide) c2 rfl ?_
    refine Ends.call (show pAt 17 26 = some (26, .invokestatic 172, 3, [204, 1, 2, 0, 2168, 2169, 0]) from by decide +kernel) (isRet_none rfl) rfl rfl (Ends.mono vc ?_)
    rintro _ h3 ⟨r4, rfl, hs_h3, vc⟩
    refine e_istore (show pAt 17 29 = some (29, .istore 6, 2, []) from by decide +kernel) ⟨Nat.le_of_ble_eq_true rfl, rfl⟩ rfl ?_
    refine e_iload (show pAt 17 31 = some (31, .iload 5, 2, []) from by decide +kernel) rfl ?_
    refine e_iload_n (show pAt 17 33 = some (33, .iload_n 1, 1, []) from by decide +kernel) rfl ?_
    refine e_isub (show pAt 17 34 = some (34, .isub, 1, []) from by decide +kernel) ?_
    refine Ends.call (show pAt 17 35 = some (35, .invokestatic 141, 3, [206, 1, 2, 0, 2149, 2150, 0]) from by decide +kernel) (isRet_none rfl) rfl rfl (Ends.mono vc ?_)
    rintro _ h6 ⟨r7, rfl, hs_h6, vc⟩
    refine e_istore (show pAt 17 38 = some (38, .istore 7, 2, []) from by decide +kernel) ⟨Nat.le_of_ble_eq_true rfl, rfl⟩ rfl ?_
    refine e_iload (show pAt 17 40 = some (40, .iload 6, 2, []) from by decide +kernel) rfl ?_
    refine e_iload_n (show pAt 17 42 = some (42, .iload_n 3, 1, []) from by decide +kernel) rfl ?_
    refine e_icmp (t := 59) (show pAt 17 43 = some (43, .if_icmp .lt 16, 3, []) from by decide +kernel) rfl (fun c9 => ?_) (fun c9 => ?_)
    · replace vc := vc.1 c9
      refine e_iload (show pAt 17 59 = some (59, .iload 5, 2, []) from by decide +kernel) rfl ?_
      refine e_istore_n (show pAt 17 61 = some (61, .istore_n 2, 1, []) from by decide +kernel) ⟨Nat.le_of_ble_eq_true rfl, rfl⟩ rfl ?_
      refine e_iload (show pAt 17 62 = some (62, .iload 6, 2, []) from by decide +kernel) rfl ?_
      refine e_istore_n (show pAt 17 64 = some (64, .istore_n 3, 1, []) from by decide +kernel) ⟨Nat.le_of_ble_eq_true rfl, rfl⟩ rfl ?_
      refine e_iload (show pAt 17 65 = some (65, .iload 7, 2, []) from by decide +kernel) rfl ?_
      refine e_istore (show pAt 17 67 = some (67, .istore 4, 2, []) from by decide +kernel) ⟨Nat.le_of_ble_eq_true rfl, rfl⟩ rfl ?_
      refine e_iinc (c := 1) (show pAt 17 69 = some (69, .iinc 5 1, 3, []) from by decide +kernel) rfl rfl (by decide) rfl ?_
      refine e_goto (t := 12) (show pAt 17 72 = some (72, .goto (-60), 3, []) from by decide +kernel) rfl ?_
      exact vc
    · replace vc := vc.2 c9
      refine e_iload (show pAt 17 46 = some (46, .iload 6, 2, []) from by decide +kernel) rfl ?_
      refine e_iload_n (show pAt 17 48 = some (48, .iload_n 3, 1, []) from by decide +kernel) rfl ?_
      refine e_icmp (t := 69) (show pAt 17 49 = some (49, .if_icmp .ne 20, 3, []) from by decide +kernel) rfl (fun c10 => ?_) (fun c10 => ?_)
      · replace vc := vc.1 c10
        refine e_iinc (c := 1) (show pAt 17 69 = some (69, .iinc 5 1, 3, []) from by decide +kernel) rfl rfl (by decide) rfl ?_
        refine e_goto (t := 12) (show pAt 17 72 = some (72, .goto (-60), 3, []) from by decide +kernel) rfl ?_
        exact vc
      · replace vc := vc.2 c10
        refine e_iload (show pAt 17 52 = some (52, .iload 7, 2, []) from by decide +kernel) rfl ?_
        refine e_iload (show pAt 17 54 = some (54, .iload 4, 2, []) from by decide +kernel) rfl ?_
        refine e_icmp (t := 69) (show pAt 17 56 = some (56, .if_icmp .ge 13, 3, []) from by decide +kernel) rfl (fun c11 => ?_) (fun c11 => ?_)
        · replace vc := vc.1 c11
          refine e_iinc (c := 1) (show pAt 17 69 = some (69, .iinc 5 1, 3, []) from by decide +kernel) rfl rfl (by decide) rfl ?_
          refine e_goto (t := 12) (show pAt 17 72 = some (72, .goto (-60), 3, []) from by decide +kernel) rfl ?_
          exact vc
        · replace vc := vc.2 c11
          refine e_iload (show pAt 17 59 = some (59, .iload 5, 2, []) from by decide +kernel) rfl ?_
          refine e_istore_n (show pAt 17 61 = some (61, .istore_n 2, 1, []) from by decide +kernel) ⟨Nat.le_of_ble_eq_true rfl, rfl⟩ rfl ?_
          refine e_iload (show pAt 17 62 = some (62, .iload 6, 2, []) from by decide +kernel) rfl ?_
          refine e_istore_n (show pAt 17 64 = some (64, .istore_n 3, 1, []) from by decide +kernel) ⟨Nat.le_of_ble_eq_true rfl, rfl⟩ rfl ?_
          refine e_iload (show pAt 17 65 = some (65, .iload 7, 2, []) from by decide +kernel) rfl ?_
          refine e_istore (show pAt 17 67 = some (67, .istore 4, 2, []) from by decide +kernel) ⟨Nat.le_of_ble_eq_true rfl, rfl⟩ rfl ?_
          refine e_iinc (c := 1) (show pAt 17 69 = some (69, .iinc 5 1, 3, []) from by decide +kernel) rfl rfl (by decide) rfl ?_
          refine e_goto (t := 12) (show pAt 17 72 = some (72, .goto (-60), 3, []) from by decide +kernel) rfl ?_
          exact vc

theorem w_way {X : Scr} {dp : Nat} {h : Hp} {Q : Option Value → Hp → Prop} (p : Int32) (hs : HS h)
    (vc : (inB p 7 = true ∧ (inB p 7 = true ∧ ((((h.2.1 19 p.toNatClampNeg).toInt < 1 ∨ 6 < (h.2.1 19 p.toNatClampNeg).toInt) → Q (some (.int (h.2.1 21 p.toNatClampNeg))) h) ∧ ((h.2.1 19 p.toNatClampNeg).toInt = 1 → ((condB .gt (h.2.1 21 p.toNatClampNeg) 3 = true → Q (some (.int 6)) h) ∧ (condB .gt (h.2.1 21 p.toNatClampNeg) 3 = false → Q (some (.int 0)) h))) ∧ ((h.2.1 19 p.toNatClampNeg).toInt = 2 → Ends X dp 16 0 [.ref 17, .int p, .retAddr 0, .retAddr 0, .retAddr 0, .retAddr 0] [] h (fun rv h6 => ∃ r7, rv = some (.int r7) ∧ HS h6 ∧ Q (some (.int r7)) h6)) ∧ ((h.2.1 19 p.toNatClampNeg).toInt = 3 → Q (some (.int (h.2.1 21 p.toNatClampNeg))) h) ∧ ((h.2.1 19 p.toNatClampNeg).toInt = 4 → ((condB .gt (h.2.1 21 p.toNatClampNeg) 3 = true → Q (some (.int 6)) h) ∧ (condB .gt (h.2.1 21 p.toNatClampNeg) 3 = false → Q (some (.int 0)) h))) ∧ ((h.2.1 19 p.toNatClampNeg).toInt = 5 → Ends X dp 17 0 [.ref 17, .int (h.2.1 21 p.toNatClampNeg), .retAddr 0, .retAddr 0, .retAddr 0, .retAddr 0, .retAddr 0, .retAddr 0] [] h (fun rv h10 => ∃ r11, rv = some (.int r11) ∧ HS h10 ∧ Q (some (.int r11)) h10)) ∧ ((h.2.1 19 p.toNatClampNeg).toInt = 6 → Ends X dp 205 0 [.int (h.2.1 18 8), .int 4, .retAddr 0] [] h (fun rv h13 => ∃ r14, rv = some (.int r14) ∧ HS h13 ∧ (inB ((p * 4) + r14) 28 = true ∧ Q (some (.int (h13.2.1 24 ((p * 4) + r14).toNatClampNeg))) h13))))))) :
    Ends X (dp + 1) 15 0 [.ref 17, .int p, .retAddr 0] [] h Q := by
  have ra : ∀ {a : Nat}, a < 1000 → a ≤ OLDB := fun h => by have := OLDB_eq; omega
  refine e_aload_n (show pAt 15 0 = some (0, .aload_n 0, 1, []) from by decide +kernel) rfl (ra (by decide)) ?_
  refine e_gR (show pAt 15 1 = some (1, .getfield 12, 3, [1, 0, 0, 1127]) from by decide +kernel) (show HS h from hs) rfl (by decide) (hs_ref (show HS h from hs) rfl) ?_
  refine e_gR (show pAt 15 4 = some (4, .getfield 119, 3, [2, 3, 1, 1042]) from by decide +kernel) (show HS h from hs) rfl (by decide) (hs_ref (show HS h from hs) rfl) ?_
  refine e_iload_n (show pAt 15 7 = some (7, .iload_n 1, 1, []) from by decide +kernel) rfl ?_
  obtain ⟨c1, vc⟩ := vc
  refine e_aldv (v := h.2.1 21 p.toNatClampNeg) (show pAt 15 8 = some (8, .iaload, 1, []) from by decide +kernel) (show HS h from hs) (by decide) c1 rfl ?_
  refine e_istore_n (show pAt 15 9 = some (9, .istore_n 2, 1, []) from by decide +kernel) ⟨Nat.le_of_ble_eq_true rfl, rfl⟩ rfl ?_
  refine e_aload_n (show pAt 15 10 = some (10, .aload_n 0, 1, []) from by decide +kernel) rfl (ra (by decide)) ?_
  refine e_gR (show pAt 15 11 = some (11, .getfield 12, 3, [1, 0, 0, 1127]) from by decide +kernel) (show HS h from hs) rfl (by decide) (hs_ref (show HS h from hs) rfl) ?_
  refine e_gR (show pAt 15 14 = some (14, .getfield 153, 3, [2, 1, 1, 1036]) from by decide +kernel) (show HS h from hs) rfl (by decide) (hs_ref (show HS h from hs) rfl) ?_
  refine e_iload_n (show pAt 15 17 = some (17, .iload_n 1, 1, []) from by decide +kernel) rfl ?_
  obtain ⟨c2, vc⟩ := vc
  refine e_aldv (v := h.2.1 19 p.toNatClampNeg) (show pAt 15 18 = some (18, .iaload, 1, []) from by decide +kernel) (show HS h from hs) (by decide) c2 rfl ?_
  rcases (show ((h.2.1 19 p.toNatClampNeg).toInt < 1 ∨ 6 < (h.2.1 19 p.toNatClampNeg).toInt) ∨ (h.2.1 19 p.toNatClampNeg).toInt = 1 ∨ (h.2.1 19 p.toNatClampNeg).toInt = 2 ∨ (h.2.1 19 p.toNatClampNeg).toInt = 3 ∨ (h.2.1 19 p.toNatClampNeg).toInt = 4 ∨ (h.2.1 19 p.toNatClampNeg).toInt = 5 ∨ (h.2.1 19 p.toNatClampNeg).toInt = 6 from by omega) with c3 | c3 | c3 | c3 | c3 | c3 | c3
  · refine e_tsd (t := 104) (show pAt 15 19 = some (19, .tableswitch 85 1 6 #[37, 49, 85, 37, 55, 61], 37, []) from by decide +kernel) c3 rfl ?_
    replace vc := vc.1 c3
    refine e_iload_n (show pAt 15 104 = some (104, .iload_n 2, 1, []) from by decide +kernel) rfl ?_
    exact e_retI (show pAt 15 105 = some (105, .ireturn, 1, []) from by decide +kernel) rfl vc
  · refine e_tsc (t := 56) 0 (show pAt 15 19 = some (19, .tableswitch 85 1 6 #[37, 49, 85, 37, 55, 61], 37, []) from by decide +kernel) (by omega) (by omega) rfl rfl ?_
    replace vc := vc.2.1 c3
    refine e_iload_n (show pAt 15 56 = some (56, .iload_n 2, 1, []) from by decide +kernel) rfl ?_
    refine e_iconst (c := 3) (show pAt 15 57 = some (57, .iconst 3, 1, []) from by decide +kernel) (by decide) ?_
    refine e_icmp (t := 65) (show pAt 15 58 = some (58, .if_icmp .gt 7, 3, []) from by decide +kernel) rfl (fun c5 => ?_) (fun c5 => ?_)
    · replace vc := vc.1 c5
      refine e_bipush (c := 6) (show pAt 15 65 = some (65, .bipush 6, 2, []) from by decide +kernel) (by decide) ?_
      exact e_retI (show pAt 15 67 = some (67, .ireturn, 1, []) from by decide +kernel) rfl vc
    · replace vc := vc.2 c5
      refine e_iconst (c := 0) (show pAt 15 61 = some (61, .iconst 0, 1, []) from by decide +kernel) (by decide) ?_
      refine e_goto (t := 67) (show pAt 15 62 = some (62, .goto 5, 3, []) from by decide +kernel) rfl ?_
      exact e_retI (show pAt 15 67 = some (67, .ireturn, 1, []) from by decide +kernel) rfl vc
  · refine e_tsc (t := 68) 1 (show pAt 15 19 = some (19, .tableswitch 85 1 6 #[37, 49, 85, 37, 55, 61], 37, []) from by decide +kernel) (by omega) (by omega) rfl rfl ?_
    replace vc := vc.2.2.1 c3
    refine e_aload_n (show pAt 15 68 = some (68, .aload_n 0, 1, []) from by decide +kernel) rfl (ra (by decide)) ?_
    refine e_iload_n (show pAt 15 69 = some (69, .iload_n 1, 1, []) from by decide +kernel) rfl ?_
    refine Ends.call (show pAt 15 70 = some (70, .invokevirtual 159, 3, [16, 2, 0, 0, 2160, 2162, 18]) from by decide +kernel) (isRet_none rfl) rfl (call_this (show HS h from hs) rfl rfl (by decide)) (Ends.mono vc ?_)
    rintro _ h6 ⟨r7, rfl, hs_h6, vc⟩
    exact e_retI (show pAt 15 73 = some (73, .ireturn, 1, []) from by decide +kernel) rfl vc
  · refine e_tsc (t := 104) 2 (show pAt 15 19 = some (19, .tableswitch 85 1 6 #[37, 49, 85, 37, 55, 61], 37, []) from by decide +kernel) (by omega) (by omega) rfl rfl ?_
    replace vc := vc.2.2.2.1 c3
    refine e_iload_n (show pAt 15 104 = some (104, .iload_n 2, 1, []) from by decide +kernel) rfl ?_
    exact e_retI (show pAt 15 105 = some (105, .ireturn, 1, []) from by decide +kernel) rfl vc
  · refine e_tsc (t := 56) 3 (show pAt 15 19 = some (19, .tableswitch 85 1 6 #[37, 49, 85, 37, 55, 61], 37, []) from by decide +kernel) (by omega) (by omega) rfl rfl ?_
    replace vc := vc.2.2.2.2.1 c3
    refine e_iload_n (show pAt 15 56 = some (56, .iload_n 2, 1, []) from by decide +kernel) rfl ?_
    refine e_iconst (c := 3) (show pAt 15 57 = some (57, .iconst 3, 1, []) from by decide +kernel) (by decide) ?_
    refine e_icmp (t := 65) (show pAt 15 58 = some (58, .if_icmp .gt 7, 3, []) from by decide +kernel) rfl (fun c9 => ?_) (fun c9 => ?_)
    · replace vc := vc.1 c9
      refine e_bipush (c := 6) (show pAt 15 65 = some (65, .bipush 6, 2, []) from by decide +kernel) (by decide) ?_
      exact e_retI (show pAt 15 67 = some (67, .ireturn, 1, []) from by decide +kernel) rfl vc
    · replace vc := vc.2 c9
      refine e_iconst (c := 0) (show pAt 15 61 = some (61, .iconst 0, 1, []) from by decide +kernel) (by decide) ?_
      refine e_goto (t := 67) (show pAt 15 62 = some (62, .goto 5, 3, []) from by decide +kernel) rfl ?_
      exact e_retI (show pAt 15 67 = some (67, .ireturn, 1, []) from by decide +kernel) rfl vc
  · refine e_tsc (t := 74) 4 (show pAt 15 19 = some (19, .tableswitch 85 1 6 #[37, 49, 85, 37, 55, 61], 37, []) from by decide +kernel) (by omega) (by omega) rfl rfl ?_
    replace vc := vc.2.2.2.2.2.1 c3
    refine e_aload_n (show pAt 15 74 = some (74, .aload_n 0, 1, []) from by decide +kernel) rfl (ra (by decide)) ?_
    refine e_iload_n (show pAt 15 75 = some (75, .iload_n 2, 1, []) from by decide +kernel) rfl ?_
    refine Ends.call (show pAt 15 76 = some (76, .invokevirtual 162, 3, [17, 2, 0, 0, 2164, 2166, 19]) from by decide +kernel) (isRet_none rfl) rfl (call_this (show HS h from hs) rfl rfl (by decide)) (Ends.mono vc ?_)
    rintro _ h10 ⟨r11, rfl, hs_h10, vc⟩
    exact e_retI (show pAt 15 79 = some (79, .ireturn, 1, []) from by decide +kernel) rfl vc
  · refine e_tsc (t := 80) 5 (show pAt 15 19 = some (19, .tableswitch 85 1 6 #[37, 49, 85, 37, 55, 61], 37, []) from by decide +kernel) (by omega) (by omega) rfl rfl ?_
    replace vc := vc.2.2.2.2.2.2 c3
    refine e_aload_n (show pAt 15 80 = some (80, .aload_n 0, 1, []) from by decide +kernel) rfl (ra (by decide)) ?_
    refine e_gR (show pAt 15 81 = some (81, .getfield 12, 3, [1, 0, 0, 1127]) from by decide +kernel) (show HS h from hs) rfl (by decide) (hs_ref (show HS h from hs) rfl) ?_
    refine e_gR (show pAt 15 84 = some (84, .getfield 165, 3, [2, 6, 1, 1051]) from by decide +kernel) (show HS h from hs) rfl (by decide) (hs_ref (show HS h from hs) rfl) ?_
    refine e_iload_n (show pAt 15 87 = some (87, .iload_n 1, 1, []) from by decide +kernel) rfl ?_
    refine e_iconst (c := 4) (show pAt 15 88 = some (88, .iconst 4, 1, []) from by decide +kernel) (by decide) ?_
    refine e_imul (show pAt 15 89 = some (89, .imul, 1, []) from by decide +kernel) ?_
    refine e_aload_n (show pAt 15 90 = some (90, .aload_n 0, 1, []) from by decide +kernel) rfl (ra (by decide)) ?_
    refine e_gR (show pAt 15 91 = some (91, .getfield 12, 3, [1, 0, 0, 1127]) from by decide +kernel) (show HS h from hs) rfl (by decide) (hs_ref (show HS h from hs) rfl) ?_
    refine e_gIv (v := h.2.1 18 8) (show pAt 15 94 = some (94, .getfield 78, 3, [2, 8, 1, 1055]) from by decide +kernel) (show HS h from hs) rfl (by decide) rfl ?_
    refine e_iconst (c := 4) (show pAt 15 97 = some (97, .iconst 4, 1, []) from by decide +kernel) (by decide) ?_
    refine Ends.call (show pAt 15 98 = some (98, .invokestatic 168, 3, [205, 2, 2, 0, 2123, 2124, 0]) from by decide +kernel) (isRet_none rfl) rfl rfl (Ends.mono vc ?_)
    rintro _ h13 ⟨r14, rfl, hs_h13, vc⟩
    refine e_iadd (show pAt 15 101 = some (101, .iadd, 1, []) from by decide +kernel) ?_
    obtain ⟨c16, vc⟩ := vc
    refine e_aldv (v := h13.2.1 24 ((p * 4) + r14).toNatClampNeg) (show pAt 15 102 = some (102, .iaload, 1, []) from by decide +kernel) (show HS h13 from hs_h13) (by decide) c16 rfl ?_
    exact e_retI (show pAt 15 103 = some (103, .ireturn, 1, []) from by decide +kernel) rfl vc

theorem w_rout0 {X : Scr} {dp : Nat} {h : Hp} {Q : Option Value → Hp → Prop} (p : Int32) (hs : HS h)
    (vc : Ends X dp 12 2 [.ref 17, .int p, .int 0] [] h Q) :
    Ends X dp 12 0 [.ref 17, .int p, .retAddr 0] [] h Q := by
  have ra : ∀ {a : Nat}, a < 1000 → a ≤ OLDB := fun h => by have := OLDB_eq; omega
  refine e_iconst (c := 0) (show pAt 12 0 = some (0, .iconst 0, 1, []) from by decide +kernel) (by decide) ?_
  refine e_istore_n (show pAt 12 1 = some (1, .istore_n 2, 1, []) from by decide +kernel) ⟨Nat.le_of_ble_eq_true rfl, rfl⟩ rfl ?_
  exact vc

theorem w_rout1 {X : Scr} {dp : Nat} {h : Hp} {Q : Option Value → Hp → Prop} (p : Int32) (l : Int32) (hs : HS h)
    (vc : ((condB .ge l 7 = true → Q none h) ∧ (condB .ge l 7 = false → (inB p 7 = true ∧ Ends X dp 206 0 [.int (l - (h.2.1 21 p.toNatClampNeg))] [] h (fun rv h3 => ∃ r4, rv = some (.int r4) ∧ HS h3 ∧ (inB p 7 = true ∧ ((condB .gt r4 (h3.2.1 33 p.toNatClampNeg) = true → Ends X (dp + 1) 12 2 [.ref 17, .int p, .int (l + 1)] [] h3 Q) ∧ (condB .gt r4 (h3.2.1 33 p.toNatClampNeg) = false → (inB l 7 = true ∧ (inB l 7 = true ∧ Ends X (dp + 1) 12 2 [.ref 17, .int p, .int (l + 1)] [] (hpI h3 32 l.toNatClampNeg ((h3.2.1 32 l.toNatClampNeg) ||| (1 <<< (p &&& 31)))) Q)))))))))) :
    Ends X (dp + 1) 12 2 [.ref 17, .int p, .int l] [] h Q := by
  have ra : ∀ {a : Nat}, a < 1000 → a ≤ OLDB := fun h => by have := OLDB_eq; omega
  refine e_iload_n (show pAt 12 2 = some (2, .iload_n 2, 1, []) from by decide +kernel) rfl ?_
  refine e_bipush (c := 7) (show pAt 12 3 = some (3, .bipush 7, 2, []) from by decide +kernel) (by decide) ?_
  refine e_icmp (t := 49) (show pAt 12 5 = some (5, .if_icmp .ge 44, 3, []) from by decide +kernel) rfl (fun c1 => ?_) (fun c1 => ?_)
  · replace vc := vc.1 c1
    exact e_retV (show pAt 12 49 = some (49, .return_, 1, []) from by decide +kernel) rfl vc
  · replace vc := vc.2 c1
    refine e_iload_n (show pAt 12 8 = some (8, .iload_n 2, 1, []) from by decide +kernel) rfl ?_
    refine e_aload_n (show pAt 12 9 = some (9, .aload_n 0, 1, []) from by decide +kernel) rfl (ra (by decide)) ?_
    refine e_gR (show pAt 12 10 = some (10, .getfield 12, 3, [1, 0, 0, 1127]) from by decide +kernel) (show HS h from hs) rfl (by decide) (hs_ref (show HS h from hs) rfl) ?_
    refine e_gR (show pAt 12 13 = some (13, .getfield 119, 3, [2, 3, 1, 1042]) from by decide +kernel) (show HS h from hs) rfl (by decide) (hs_ref (show HS h from hs) rfl) ?_
    refine e_iload_n (show pAt 12 16 = some (16, .iload_n 1, 1, []) from by decide +kernel) rfl ?_
    obtain ⟨c2, vc⟩ := vc
    refine e_aldv (v := h.2.1 21 p.toNatClampNeg) (show pAt 12 17 = some (17, .iaload, 1, []) from by decide +kernel) (show HS h from hs) (by decide) c2 rfl ?_
    refine e_isub (show pAt 12 18 = some (18, .isub, 1, []) from by decide +kernel) ?_
    refine Ends.call (show pAt 12 19 = some (19, .invokestatic 141, 3, [206, 1, 2, 0, 2149, 2150, 0]) from by decide +kernel) (isRet_none rfl) rfl rfl (Ends.mono vc ?_)
    rintro _ h3 ⟨r4, rfl, hs_h3, vc⟩
    refine e_aload_n (show pAt 12 22 = some (22, .aload_n 0, 1, []) from by decide +kernel) rfl (ra (by decide)) ?_
    refine e_gR (show pAt 12 23 = some (23, .getfield 32, 3, [1, 4, 0, 1132]) from by decide +kernel) (show HS h3 from hs_h3) rfl (by decide) (hs_ref (show HS h3 from hs_h3) rfl) ?_
    refine e_iload_n (show pAt 12 26 = some (26, .iload_n 1, 1, []) from by decide +kernel) rfl ?_
    obtain ⟨c6, vc⟩ := vc
    refine e_aldv (v := h3.2.1 33 p.toNatClampNeg) (show pAt 12 27 = some (27, .iaload, 1, []) from by decide +kernel) (show HS h3 from hs_h3) (by decide) c6 rfl ?_
    refine e_icmp (t := 43) (show pAt 12 28 = some (28, .if_icmp .gt 15, 3, []) from by decide +kernel) rfl (fun c7 => ?_) (fun c7 => ?_)
    · replace vc := vc.1 c7
      refine e_iinc (c := 1) (show pAt 12 43 = some (43, .iinc 2 1, 3, []) from by decide +kernel) rfl rfl (by decide) rfl ?_
      refine e_goto (t := 2) (show pAt 12 46 = some (46, .goto (-44), 3, []) from by decide +kernel) rfl ?_
      exact vc
    · replace vc := vc.2 c7
      refine e_aload_n (show pAt 12 31 = some (31, .aload_n 0, 1, []) from by decide +kernel) rfl (ra (by decide)) ?_
      refine e_gR (show pAt 12 32 = some (32, .getfield 29, 3, [1, 3, 0, 1131]) from by decide +kernel) (show HS h3 from hs_h3) rfl (by decide) (hs_ref (show HS h3 from hs_h3) rfl) ?_
      refine e_iload_n (show pAt 12 35 = some (35, .iload_n 2, 1, []) from by decide +kernel) rfl ?_
      refine e_dup2 (show pAt 12 36 = some (36, .dup2, 1, []) from by decide +kernel) ?_
      obtain ⟨c8, vc⟩ := vc
      refine e_aldv (v := h3.2.1 32 l.toNatClampNeg) (show pAt 12 37 = some (37, .iaload, 1, []) from by decide +kernel) (show HS h3 from hs_h3) (by decide) c8 rfl ?_
      refine e_iconst (c := 1) (show pAt 12 38 = some (38, .iconst 1, 1, []) from by decide +kernel) (by decide) ?_
      refine e_iload_n (show pAt 12 39 = some (39, .iload_n 1, 1, []) from by decide +kernel) rfl ?_
      refine e_ishl (show pAt 12 40 = some (40, .ishl, 1, []) from by decide +kernel) ?_
      refine e_ior (show pAt 12 41 = some (41, .ior, 1, []) from by decide +kernel) ?_
      obtain ⟨c9, vc⟩ := vc
      refine e_ast (show pAt 12 42 = some (42, .iastore, 1, []) from by decide +kernel) (show HS h3 from hs_h3) (by decide) c9 ?_
      refine e_iinc (c := 1) (show pAt 12 43 = some (43, .iinc 2 1, 3, []) from by decide +kernel) rfl rfl (by decide) rfl ?_
      refine e_goto (t := 2) (show pAt 12 46 = some (46, .goto (-44), 3, []) from by decide +kernel) rfl ?_
      exact vc

theorem w_mc0 {X : Scr} {dp : Nat} {h : Hp} {Q : Option Value → Hp → Prop}  (hs : HS h)
    (vc : ((condB .eq (h.2.1 17 12) 0 = true → Ends X dp 221 0 [.ref 32, .int 0, .retAddr 0, .retAddr 0] [] h (fun rv h2 => rv = none ∧ HS h2 ∧ Ends X (dp + 1) 11 24 [.ref 17, .int 0] [] h2 Q)) ∧ (condB .eq (h.2.1 17 12) 0 = false → Ends X dp 221 0 [.ref 32, .int (h.2.1 17 10), .retAddr 0, .retAddr 0] [] h (fun rv h5 => rv = none ∧ HS h5 ∧ Ends X (dp + 1) 11 24 [.ref 17, .int 0] [] h5 Q)))) :
    Ends X (dp + 1) 11 0 [.ref 17, .retAddr 0] [] h Q := by
  have ra : ∀ {a : Nat}, a < 1000 → a ≤ OLDB := fun h => by have := OLDB_eq; omega
  refine e_aload_n (show pAt 11 0 = some (0, .aload_n 0, 1, []) from by decide +kernel) rfl (ra (by decide)) ?_
  refine e_gR (show pAt 11 1 = some (1, .getfield 29, 3, [1, 3, 0, 1131]) from by decide +kernel) (show HS h from hs) rfl (by decide) (hs_ref (show HS h from hs) rfl) ?_
  refine e_aload_n (show pAt 11 4 = some (4, .aload_n 0, 1, []) from by decide +kernel) rfl (ra (by decide)) ?_
  refine e_gIv (v := h.2.1 17 12) (show pAt 11 5 = some (5, .getfield 55, 3, [1, 12, 0, 1145]) from by decide +kernel) (show HS h from hs) rfl (by decide) rfl ?_
  refine e_if (t := 18) (show pAt 11 8 = some (8, .ifCond .eq 10, 3, []) from by decide +kernel) rfl (fun c1 => ?_) (fun c1 => ?_)
  · replace vc := vc.1 c1
    refine e_iconst (c := 0) (show pAt 11 18 = some (18, .iconst 0, 1, []) from by decide +kernel) (by decide) ?_
    refine Ends.call (show pAt 11 19 = some (19, .invokestatic 109, 3, [221, 2, 2, 0, 2117, 2007, 0]) from by decide +kernel) (isRet_none rfl) rfl rfl (Ends.mono vc ?_)
    rintro _ h2 ⟨rfl, hs_h2, vc⟩
    refine e_iconst (c := 0) (show pAt 11 22 = some (22, .iconst 0, 1, []) from by decide +kernel) (by decide) ?_
    refine e_istore_n (show pAt 11 23 = some (23, .istore_n 1, 1, []) from by decide +kernel) ⟨Nat.le_of_ble_eq_true rfl, rfl⟩ rfl ?_
    exact vc
  · replace vc := vc.2 c1
    refine e_aload_n (show pAt 11 11 = some (11, .aload_n 0, 1, []) from by decide +kernel) rfl (ra (by decide)) ?_
    refine e_gIv (v := h.2.1 17 10) (show pAt 11 12 = some (12, .getfield 81, 3, [1, 10, 0, 1143]) from by decide +kernel) (show HS h from hs) rfl (by decide) rfl ?_
    refine e_goto (t := 19) (show pAt 11 15 = some (15, .goto 4, 3, []) from by decide +kernel) rfl ?_
    refine Ends.call (show pAt 11 19 = some (19, .invokestatic 109, 3, [221, 2, 2, 0, 2117, 2007, 0]) from by decide +kernel) (isRet_none rfl) rfl rfl (Ends.mono vc ?_)
    rintro _ h5 ⟨rfl, hs_h5, vc⟩
    refine e_iconst (c := 0) (show pAt 11 22 = some (22, .iconst 0, 1, []) from by decide +kernel) (by decide) ?_
    refine e_istore_n (show pAt 11 23 = some (23, .istore_n 1, 1, []) from by decide +kernel) ⟨Nat.le_of_ble_eq_true rfl, rfl⟩ rfl ?_
    exact vc

theorem w_mc1 {X : Scr} {dp : Nat} {h : Hp} {Q : Option Value → Hp → Prop} {q : Nat} (hY : YB q) (p : Int32) (hs : HS h)
    (vc : ((condB .ge p 7 = true → Q none h) ∧ (condB .ge p 7 = false → Ends X dp 104 0 [.int (h.2.1 17 10), .int p] [] h (fun rv h2 => ∃ r3, rv = some (.int r3) ∧ HS h2 ∧ ((condB .eq r3 0 = true → Ends X (dp + 1) 11 24 [.ref 17, .int (p + 1)] [] h2 Q) ∧ (condB .eq r3 0 = false → (inB p 7 = true ∧ Ends X dp 24 0 [.ref 17, .int p, .int (h2.2.1 21 p.toNatClampNeg)] [] h2 (fun rv h7 => rv = none ∧ HS h7 ∧ (h7.2.2.2 17 1 = some q ∧ Ends X dp 57 0 [.ref q, .int 0, .retAddr 0] [] h7 (fun rv h11 => ∃ r12, rv = some (.int r12) ∧ HS h11 ∧ ((condB .eq r12 0 = true → (inB p 7 = true ∧ (inB p 7 = true ∧ ((hpI h11 33 p.toNatClampNeg 1).2.2.2 17 1 = some q ∧ Ends X dp 58 0 [.ref q, .int 1, .ref 31, .retAddr 0, .retAddr 0, .retAddr 0] [] (hpI h11 33 p.toNatClampNeg 1) (fun rv h18 => ∃ r19, rv = some (.int r19) ∧ HS h18 ∧ (inB p 7 = true ∧ Ends X dp 12 0 [.ref 17, .int p, .retAddr 0] [] (hpI h18 34 p.toNatClampNeg ((h11.2.1 23 p.toNatClampNeg) + r19)) (fun rv h22 => rv = none ∧ HS h22 ∧ Ends X (dp + 1) 11 24 [.ref 17, .int (p + 1)] [] h22 Q))))))) ∧ (condB .eq r12 0 = false → (h11.2.2.2 17 1 = some q ∧ Ends X dp 58 0 [.ref q, .int 0, .ref 31, .retAddr 0, .retAddr 0, .retAddr 0] [] h11 (fun rv h26 => ∃ r27, rv = some (.int r27) ∧ HS h26 ∧ (inB p 7 = true ∧ (inB p 7 = true ∧ ((hpI h26 33 p.toNatClampNeg r27).2.2.2 17 1 = some q ∧ Ends X dp 58 0 [.ref q, .int 1, .ref 31, .retAddr 0, .retAddr 0, .retAddr 0] [] (hpI h26 33 p.toNatClampNeg r27) (fun rv h32 => ∃ r33, rv = some (.int r33) ∧ HS h32 ∧ (inB p 7 = true ∧ Ends X dp 12 0 [.ref 17, .int p, .retAddr 0] [] (hpI h32 34 p.toNatClampNeg ((h26.2.1 23 p.toNatClampNeg) + r33)) (fun rv h36 => rv = none ∧ HS h36 ∧ Ends X (dp + 1) 11 24 [.ref 17, .int (p + 1)] [] h36 Q)))))))))))))))))))) :
    Ends X (dp + 1) 11 24 [.ref 17, .int p] [] h Q := by
  have ra : ∀ {a : Nat}, a < 1000 → a ≤ OLDB := fun h => by have := OLDB_eq; omega
  have hqr := yb_rng hY
  have hOB := OLDB_eq
  refine e_iload_n (show pAt 11 24 = some (24, .iload_n 1, 1, []) from by decide +kernel) rfl ?_
  refine e_bipush (c := 7) (show pAt 11 25 = some (25, .bipush 7, 2, []) from by decide +kernel) (by decide) ?_
  refine e_icmp (t := 127) (show pAt 11 27 = some (27, .if_icmp .ge 100, 3, []) from by decide +kernel) rfl (fun c1 => ?_) (fun c1 => ?_)
  · replace vc := vc.1 c1
    exact e_retV (show pAt 11 127 = some (127, .return_, 1, []) from by decide +kernel) rfl vc
  · replace vc := vc.2 c1
    refine e_aload_n (show pAt 11 30 = some (30, .aload_n 0, 1, []) from by decide +kernel) rfl (ra (by decide)) ?_
    refine e_gIv (v := h.2.1 17 10) (show pAt 11 31 = some (31, .getfield 81, 3, [1, 10, 0, 1143]) from by decide +kernel) (show HS h from hs) rfl (by decide) rfl ?_
    refine e_iload_n (show pAt 11 34 = some (34, .iload_n 1, 1, []) from by decide +kernel) rfl ?_
    refine Ends.call (show pAt 11 35 = some (35, .invokestatic 115, 3, [104, 2, 2, 1, 2118, 2080, 0]) from by decide +kernel) (isRet_none rfl) rfl rfl (Ends.mono vc ?_)
    rintro _ h2 ⟨r3, rfl, hs_h2, vc⟩
    refine e_if (t := 121) (show pAt 11 38 = some (38, .ifCond .eq 83, 3, []) from by decide +kernel) rfl (fun c5 => ?_) (fun c5 => ?_)
    · replace vc := vc.1 c5
      refine e_iinc (c := 1) (show pAt 11 121 = some (121, .iinc 1 1, 3, []) from by decide +kernel) rfl rfl (by decide) rfl ?_
      refine e_goto (t := 24) (show pAt 11 124 = some (124, .goto (-100), 3, []) from by decide +kernel) rfl ?_
      exact vc
    · replace vc := vc.2 c5
      refine e_aload_n (show pAt 11 41 = some (41, .aload_n 0, 1, []) from by decide +kernel) rfl (ra (by decide)) ?_
      refine e_iload_n (show pAt 11 42 = some (42, .iload_n 1, 1, []) from by decide +kernel) rfl ?_
      refine e_aload_n (show pAt 11 43 = some (43, .aload_n 0, 1, []) from by decide +kernel) rfl (ra (by decide)) ?_
      refine e_gR (show pAt 11 44 = some (44, .getfield 12, 3, [1, 0, 0, 1127]) from by decide +kernel) (show HS h2 from hs_h2) rfl (by decide) (hs_ref (show HS h2 from hs_h2) rfl) ?_
      refine e_gR (show pAt 11 47 = some (47, .getfield 119, 3, [2, 3, 1, 1042]) from by decide +kernel) (show HS h2 from hs_h2) rfl (by decide) (hs_ref (show HS h2 from hs_h2) rfl) ?_
      refine e_iload_n (show pAt 11 50 = some (50, .iload_n 1, 1, []) from by decide +kernel) rfl ?_
      obtain ⟨c6, vc⟩ := vc
      refine e_aldv (v := h2.2.1 21 p.toNatClampNeg) (show pAt 11 51 = some (51, .iaload, 1, []) from by decide +kernel) (show HS h2 from hs_h2) (by decide) c6 rfl ?_
      refine Ends.call (show pAt 11 52 = some (52, .invokevirtual 122, 3, [24, 3, 0, 0, 2119, 2121, 11]) from by decide +kernel) (isRet_none rfl) rfl (call_this (show HS h2 from hs_h2) rfl rfl (by decide)) (Ends.mono vc ?_)
      rintro _ h7 ⟨rfl, hs_h7, vc⟩
      refine e_aload_n (show pAt 11 55 = some (55, .aload_n 0, 1, []) from by decide +kernel) rfl (ra (by decide)) ?_
      refine e_gR (show pAt 11 56 = some (56, .getfield 32, 3, [1, 4, 0, 1132]) from by decide +kernel) (show HS h7 from hs_h7) rfl (by decide) (hs_ref (show HS h7 from hs_h7) rfl) ?_
      refine e_iload_n (show pAt 11 59 = some (59, .iload_n 1, 1, []) from by decide +kernel) rfl ?_
      refine e_aload_n (show pAt 11 60 = some (60, .aload_n 0, 1, []) from by decide +kernel) rfl (ra (by decide)) ?_
      obtain ⟨c10, vc⟩ := vc
      refine e_gR (b := q) (show pAt 11 61 = some (61, .getfield 21, 3, [1, 1, 0, 1129]) from by decide +kernel) (show HS h7 from hs_h7) rfl (yb (P := fun q => decide (17 < 1000) && decide (q < 1000) && decide (SHl[17]? = some (.inr 1)) && decide (1 < vwN 1) && isRefTy (vwTy 1 1)) hY (by decide +kernel)) c10 ?_
      refine e_iconst (c := 0) (show pAt 11 64 = some (64, .iconst 0, 1, []) from by decide +kernel) (by decide) ?_
      refine Ends.call (show pAt 11 65 = some (65, .invokevirtual 126, 3, [57, 2, 0, 1, 2126, 2128, 12]) from by decide +kernel) (isRet_none rfl) rfl (call_this (show HS h7 from hs_h7) rfl rfl (yb (P := fun q => decide (q < 1000) && decide (SHl[q]? = some (.inr (mCi 57))) && decide (mCi 57 < 8)) hY (by decide +kernel))) (Ends.mono vc ?_)
      rintro _ h11 ⟨r12, rfl, hs_h11, vc⟩
      refine e_if (t := 86) (show pAt 11 68 = some (68, .ifCond .eq 18, 3, []) from by decide +kernel) rfl (fun c14 => ?_) (fun c14 => ?_)
      · replace vc := vc.1 c14
        refine e_iconst (c := 1) (show pAt 11 86 = some (86, .iconst 1, 1, []) from by decide +kernel) (by decide) ?_
        obtain ⟨c15, vc⟩ := vc
        refine e_ast (show pAt 11 87 = some (87, .iastore, 1, []) from by decide +kernel) (show HS h11 from hs_h11) (by decide) c15 ?_
        refine e_aload_n (show pAt 11 88 = some (88, .aload_n 0, 1, []) from by decide +kernel) rfl (ra (by decide)) ?_
        refine e_gR (show pAt 11 89 = some (89, .getfield 35, 3, [1, 5, 0, 1134]) from by decide +kernel) (show HS (hpI h11 33 p.toNatClampNeg 1) from hs_h11) rfl (by decide) (hs_ref (show HS (hpI h11 33 p.toNatClampNeg 1) from hs_h11) rfl) ?_
        refine e_iload_n (show pAt 11 92 = some (92, .iload_n 1, 1, []) from by decide +kernel) rfl ?_
        refine e_aload_n (show pAt 11 93 = some (93, .aload_n 0, 1, []) from by decide +kernel) rfl (ra (by decide)) ?_
        refine e_gR (show pAt 11 94 = some (94, .getfield 12, 3, [1, 0, 0, 1127]) from by decide +kernel) (show HS (hpI h11 33 p.toNatClampNeg 1) from hs_h11) rfl (by decide) (hs_ref (show HS (hpI h11 33 p.toNatClampNeg 1) from hs_h11) rfl) ?_
        refine e_gR (show pAt 11 97 = some (97, .getfield 134, 3, [2, 5, 1, 1048]) from by decide +kernel) (show HS (hpI h11 33 p.toNatClampNeg 1) from hs_h11) rfl (by decide) (hs_ref (show HS (hpI h11 33 p.toNatClampNeg 1) from hs_h11) rfl) ?_
        refine e_iload_n (show pAt 11 100 = some (100, .iload_n 1, 1, []) from by decide +kernel) rfl ?_
        obtain ⟨c16, vc⟩ := vc
        refine e_aldv (v := h11.2.1 23 p.toNatClampNeg) (show pAt 11 101 = some (101, .iaload, 1, []) from by decide +kernel) (show HS (hpI h11 33 p.toNatClampNeg 1) from hs_h11) (by decide) c16 rfl ?_
        refine e_aload_n (show pAt 11 102 = some (102, .aload_n 0, 1, []) from by decide +kernel) rfl (ra (by decide)) ?_
        obtain ⟨c17, vc⟩ := vc
        refine e_gR (b := q) (show pAt 11 103 = some (103, .getfield 21, 3, [1, 1, 0, 1129]) from by decide +kernel) (show HS (hpI h11 33 p.toNatClampNeg 1) from hs_h11) rfl (yb (P := fun q => decide (17 < 1000) && decide (q < 1000) && decide (SHl[17]? = some (.inr 1)) && decide (1 < vwN 1) && isRefTy (vwTy 1 1)) hY (by decide +kernel)) c17 ?_
        refine e_iconst (c := 1) (show pAt 11 106 = some (106, .iconst 1, 1, []) from by decide +kernel) (by decide) ?_
        refine e_aload_n (show pAt 11 107 = some (107, .aload_n 0, 1, []) from by decide +kernel) rfl (ra (by decide)) ?_
        refine e_gR (show pAt 11 108 = some (108, .getfield 25, 3, [1, 2, 0, 1130]) from by decide +kernel) (show HS (hpI h11 33 p.toNatClampNeg 1) from hs_h11) rfl (by decide) (hs_ref (show HS (hpI h11 33 p.toNatClampNeg 1) from hs_h11) rfl) ?_
        refine Ends.call (show pAt 11 111 = some (111, .invokevirtual 130, 3, [58, 3, 0, 1, 2130, 2132, 13]) from by decide +kernel) (isRet_none rfl) rfl (call_this (show HS (hpI h11 33 p.toNatClampNeg 1) from hs_h11) rfl rfl (yb (P := fun q => decide (q < 1000) && decide (SHl[q]? = some (.inr (mCi 58))) && decide (mCi 58 < 8)) hY (by decide +kernel))) (Ends.mono vc ?_)
        rintro _ h18 ⟨r19, rfl, hs_h18, vc⟩
        refine e_iadd (show pAt 11 114 = some (114, .iadd, 1, []) from by decide +kernel) ?_
        obtain ⟨c21, vc⟩ := vc
        refine e_ast (show pAt 11 115 = some (115, .iastore, 1, []) from by decide +kernel) (show HS h18 from hs_h18) (by decide) c21 ?_
        refine e_aload_n (show pAt 11 116 = some (116, .aload_n 0, 1, []) from by decide +kernel) rfl (ra (by decide)) ?_
        refine e_iload_n (show pAt 11 117 = some (117, .iload_n 1, 1, []) from by decide +kernel) rfl ?_
        refine Ends.call (show pAt 11 118 = some (118, .invokevirtual 137, 3, [12, 2, 0, 0, 2145, 2147, 15]) from by decide +kernel) (isRet_none rfl) rfl (call_this (show HS (hpI h18 34 p.toNatClampNeg ((h11.2.1 23 p.toNatClampNeg) + r19)) from hs_h18) rfl rfl (by decide)) (Ends.mono vc ?_)
        rintro _ h22 ⟨rfl, hs_h22, vc⟩
        refine e_iinc (c := 1) (show pAt 11 121 = some (121, .iinc 1 1, 3, []) from by decide +kernel) rfl rfl (by decide) rfl ?_
        refine e_goto (t := 24) (show pAt 11 124 = some (124, .goto (-100), 3, []) from by decide +kernel) rfl ?_
        exact vc
      · replace vc := vc.2 c14
        refine e_aload_n (show pAt 11 71 = some (71, .aload_n 0, 1, []) from by decide +kernel) rfl (ra (by decide)) ?_
        obtain ⟨c25, vc⟩ := vc
        refine e_gR (b := q) (show pAt 11 72 = some (72, .getfield 21, 3, [1, 1, 0, 1129]) from by decide +kernel) (show HS h11 from hs_h11) rfl (yb (P := fun q => decide (17 < 1000) && decide (q < 1000) && decide (SHl[17]? = some (.inr 1)) && decide (1 < vwN 1) && isRefTy (vwTy 1 1)) hY (by decide +kernel)) c25 ?_
        refine e_iconst (c := 0) (show pAt 11 75 = some (75, .iconst 0, 1, []) from by decide +kernel) (by decide) ?_
        refine e_aload_n (show pAt 11 76 = some (76, .aload_n 0, 1, []) from by decide +kernel) rfl (ra (by decide)) ?_
        refine e_gR (show pAt 11 77 = some (77, .getfield 25, 3, [1, 2, 0, 1130]) from by decide +kernel) (show HS h11 from hs_h11) rfl (by decide) (hs_ref (show HS h11 from hs_h11) rfl) ?_
        refine Ends.call (show pAt 11 80 = some (80, .invokevirtual 130, 3, [58, 3, 0, 1, 2130, 2132, 13]) from by decide +kernel) (isRet_none rfl) rfl (call_this (show HS h11 from hs_h11) rfl rfl (yb (P := fun q => decide (q < 1000) && decide (SHl[q]? = some (.inr (mCi 58))) && decide (mCi 58 < 8)) hY (by decide +kernel))) (Ends.mono vc ?_)
        rintro _ h26 ⟨r27, rfl, hs_h26, vc⟩
        refine e_goto (t := 87) (show pAt 11 83 = some (83, .goto 4, 3, []) from by decide +kernel) rfl ?_
        obtain ⟨c29, vc⟩ := vc
        refine e_ast (show pAt 11 87 = some (87, .iastore, 1, []) from by decide +kernel) (show HS h26 from hs_h26) (by decide) c29 ?_
        refine e_aload_n (show pAt 11 88 = some (88, .aload_n 0, 1, []) from by decide +kernel) rfl (ra (by decide)) ?_
        refine e_gR (show pAt 11 89 = some (89, .getfield 35, 3, [1, 5, 0, 1134]) from by decide +kernel) (show HS (hpI h26 33 p.toNatClampNeg r27) from hs_h26) rfl (by decide) (hs_ref (show HS (hpI h26 33 p.toNatClampNeg r27) from hs_h26) rfl) ?_
        refine e_iload_n (show pAt 11 92 = some (92, .iload_n 1, 1, []) from by decide +kernel) rfl ?_
        refine e_aload_n (show pAt 11 93 = some (93, .aload_n 0, 1, []) from by decide +kernel) rfl (ra (by decide)) ?_
        refine e_gR (show pAt 11 94 = some (94, .getfield 12, 3, [1, 0, 0, 1127]) from by decide +kernel) (show HS (hpI h26 33 p.toNatClampNeg r27) from hs_h26) rfl (by decide) (hs_ref (show HS (hpI h26 33 p.toNatClampNeg r27) from hs_h26) rfl) ?_
        refine e_gR (show pAt 11 97 = some (97, .getfield 134, 3, [2, 5, 1, 1048]) from by decide +kernel) (show HS (hpI h26 33 p.toNatClampNeg r27) from hs_h26) rfl (by decide) (hs_ref (show HS (hpI h26 33 p.toNatClampNeg r27) from hs_h26) rfl) ?_
        refine e_iload_n (show pAt 11 100 = some (100, .iload_n 1, 1, []) from by decide +kernel) rfl ?_
        obtain ⟨c30, vc⟩ := vc
        refine e_aldv (v := h26.2.1 23 p.toNatClampNeg) (show pAt 11 101 = some (101, .iaload, 1, []) from by decide +kernel) (show HS (hpI h26 33 p.toNatClampNeg r27) from hs_h26) (by decide) c30 rfl ?_
        refine e_aload_n (show pAt 11 102 = some (102, .aload_n 0, 1, []) from by decide +kernel) rfl (ra (by decide)) ?_
        obtain ⟨c31, vc⟩ := vc
        refine e_gR (b := q) (show pAt 11 103 = some (103, .getfield 21, 3, [1, 1, 0, 1129]) from by decide +kernel) (show HS (hpI h26 33 p.toNatClampNeg r27) from hs_h26) rfl (yb (P := fun q => decide (17 < 1000) && decide (q < 1000) && decide (SHl[17]? = some (.inr 1)) && decide (1 < vwN 1) && isRefTy (vwTy 1 1)) hY (by decide +kernel)) c31 ?_
        refine e_iconst (c := 1) (show pAt 11 106 = some (106, .iconst 1, 1, []) from by decide +kernel) (by decide) ?_
        refine e_aload_n (show pAt 11 107 = some (107, .aload_n 0, 1, []) from by decide +kernel) rfl (ra (by decide)) ?_
        refine e_gR (show pAt 11 108 = some (108, .getfield 25, 3, [1, 2, 0, 1130]) from by decide +kernel) (show HS (hpI h26 33 p.toNatClampNeg r27) from hs_h26) rfl (by decide) (hs_ref (show HS (hpI h26 33 p.toNatClampNeg r27) from hs_h26) rfl) ?_
        refine Ends.call (show pAt 11 111 = some (111, .invokevirtual 130, 3, [58, 3, 0, 1, 2130, 2132, 13]) from by decide +kernel) (isRet_none rfl) rfl (call_this (show HS (hpI h26 33 p.toNatClampNeg r27) from hs_h26) rfl rfl (yb (P := fun q => decide (q < 1000) && decide (SHl[q]? = some (.inr (mCi 58))) && decide (mCi 58 < 8)) hY (by decide +kernel))) (Ends.mono vc ?_)
        rintro _ h32 ⟨r33, rfl, hs_h32, vc⟩
        refine e_iadd (show pAt 11 114 = some (114, .iadd, 1, []) from by decide +kernel) ?_
        obtain ⟨c35, vc⟩ := vc
        refine e_ast (show pAt 11 115 = some (115, .iastore, 1, []) from by decide +kernel) (show HS h32 from hs_h32) (by decide) c35 ?_
        refine e_aload_n (show pAt 11 116 = some (116, .aload_n 0, 1, []) from by decide +kernel) rfl (ra (by decide)) ?_
        refine e_iload_n (show pAt 11 117 = some (117, .iload_n 1, 1, []) from by decide +kernel) rfl ?_
        refine Ends.call (show pAt 11 118 = some (118, .invokevirtual 137, 3, [12, 2, 0, 0, 2145, 2147, 15]) from by decide +kernel) (isRet_none rfl) rfl (call_this (show HS (hpI h32 34 p.toNatClampNeg ((h26.2.1 23 p.toNatClampNeg) + r33)) from hs_h32) rfl rfl (by decide)) (Ends.mono vc ?_)
        rintro _ h36 ⟨rfl, hs_h36, vc⟩
        refine e_iinc (c := 1) (show pAt 11 121 = some (121, .iinc 1 1, 3, []) from by decide +kernel) rfl rfl (by decide) rfl ?_
        refine e_goto (t := 24) (show pAt 11 124 = some (124, .goto (-100), 3, []) from by decide +kernel) rfl ?_
        exact vc

theorem w_mr0 {X : Scr} {dp : Nat} {h : Hp} {Q : Option Value → Hp → Prop} {q : Nat} (hY : YB q) (hs : HS h)
    (vc : Ends X dp 14 2 [.ref 17, .int 0] [] h Q) :
    Ends X dp 14 0 [.ref 17, .retAddr 0] [] h Q := by
  have ra : ∀ {a : Nat}, a < 1000 → a ≤ OLDB := fun h => by have := OLDB_eq; omega
  have hqr := yb_rng hY
  have hOB := OLDB_eq
  refine e_iconst (c := 0) (show pAt 14 0 = some (0, .iconst 0, 1, []) from by decide +kernel) (by decide) ?_
  refine e_istore_n (show pAt 14 1 = some (1, .istore_n 1, 1, []) from by decide +kernel) ⟨Nat.le_of_ble_eq_true rfl, rfl⟩ rfl ?_
  exact vc

theorem w_mr1 {X : Scr} {dp : Nat} {h : Hp} {Q : Option Value → Hp → Prop} {q : Nat} (hY : YB q) (p : Int32) (hs : HS h)
    (vc : ((condB .ge p 7 = true → Q none h) ∧ (condB .ge p 7 = false → Ends X dp 104 0 [.int (h.2.1 17 11), .int p] [] h (fun rv h2 => ∃ r3, rv = some (.int r3) ∧ HS h2 ∧ ((condB .eq r3 0 = true → Ends X (dp + 1) 14 2 [.ref 17, .int (p + 1)] [] h2 Q) ∧ (condB .eq r3 0 = false → (inB p 7 = true ∧ Ends X dp 24 0 [.ref 17, .int p, .int (h2.2.1 35 p.toNatClampNeg)] [] h2 (fun rv h7 => rv = none ∧ HS h7 ∧ (inB p 7 = true ∧ (inB p 7 = true ∧ (h7.2.2.2 17 1 = some q ∧ Ends X dp 58 0 [.ref q, .int 2, .ref 31, .retAddr 0, .retAddr 0, .retAddr 0] [] h7 (fun rv h13 => ∃ r14, rv = some (.int r14) ∧ HS h13 ∧ (inB p 7 = true ∧ ((condB .ne (h13.2.1 19 p.toNatClampNeg) 4 = true → (inB p 7 = true ∧ Ends X (dp + 1) 14 2 [.ref 17, .int (p + 1)] [] (hpI h13 36 p.toNatClampNeg ((((h7.2.1 23 p.toNatClampNeg) + (h7.2.1 22 p.toNatClampNeg)) + r14) + 0)) Q)) ∧ (condB .ne (h13.2.1 19 p.toNatClampNeg) 4 = false → (inB p 7 = true ∧ (inB p 7 = true ∧ Ends X (dp + 1) 14 2 [.ref 17, .int (p + 1)] [] (hpI h13 36 p.toNatClampNeg ((((h7.2.1 23 p.toNatClampNeg) + (h7.2.1 22 p.toNatClampNeg)) + r14) + (h13.2.1 20 p.toNatClampNeg))) Q))))))))))))))))) :
    Ends X (dp + 1) 14 2 [.ref 17, .int p] [] h Q := by
  have ra : ∀ {a : Nat}, a < 1000 → a ≤ OLDB := fun h => by have := OLDB_eq; omega
  have hqr := yb_rng hY
  have hOB := OLDB_eq
  refine e_iload_n (show pAt 14 2 = some (2, .iload_n 1, 1, []) from by decide +kernel) rfl ?_
  refine e_bipush (c := 7) (show pAt 14 3 = some (3, .bipush 7, 2, []) from by decide +kernel) (by decide) ?_
  refine e_icmp (t := 101) (show pAt 14 5 = some (5, .if_icmp .ge 96, 3, []) from by decide +kernel) rfl (fun c1 => ?_) (fun c1 => ?_)
  · replace vc := vc.1 c1
    exact e_retV (show pAt 14 101 = some (101, .return_, 1, []) from by decide +kernel) rfl vc
  · replace vc := vc.2 c1
    refine e_aload_n (show pAt 14 8 = some (8, .aload_n 0, 1, []) from by decide +kernel) rfl (ra (by decide)) ?_
    refine e_gIv (v := h.2.1 17 11) (show pAt 14 9 = some (9, .getfield 87, 3, [1, 11, 0, 1144]) from by decide +kernel) (show HS h from hs) rfl (by decide) rfl ?_
    refine e_iload_n (show pAt 14 12 = some (12, .iload_n 1, 1, []) from by decide +kernel) rfl ?_
    refine Ends.call (show pAt 14 13 = some (13, .invokestatic 115, 3, [104, 2, 2, 1, 2118, 2080, 0]) from by decide +kernel) (isRet_none rfl) rfl rfl (Ends.mono vc ?_)
    rintro _ h2 ⟨r3, rfl, hs_h2, vc⟩
    refine e_if (t := 95) (show pAt 14 16 = some (16, .ifCond .eq 79, 3, []) from by decide +kernel) rfl (fun c5 => ?_) (fun c5 => ?_)
    · replace vc := vc.1 c5
      refine e_iinc (c := 1) (show pAt 14 95 = some (95, .iinc 1 1, 3, []) from by decide +kernel) rfl rfl (by decide) rfl ?_
      refine e_goto (t := 2) (show pAt 14 98 = some (98, .goto (-96), 3, []) from by decide +kernel) rfl ?_
      exact vc
    · replace vc := vc.2 c5
      refine e_aload_n (show pAt 14 19 = some (19, .aload_n 0, 1, []) from by decide +kernel) rfl (ra (by decide)) ?_
      refine e_iload_n (show pAt 14 20 = some (20, .iload_n 1, 1, []) from by decide +kernel) rfl ?_
      refine e_aload_n (show pAt 14 21 = some (21, .aload_n 0, 1, []) from by decide +kernel) rfl (ra (by decide)) ?_
      refine e_gR (show pAt 14 22 = some (22, .getfield 38, 3, [1, 6, 0, 1136]) from by decide +kernel) (show HS h2 from hs_h2) rfl (by decide) (hs_ref (show HS h2 from hs_h2) rfl) ?_
      refine e_iload_n (show pAt 14 25 = some (25, .iload_n 1, 1, []) from by decide +kernel) rfl ?_
      obtain ⟨c6, vc⟩ := vc
      refine e_aldv (v := h2.2.1 35 p.toNatClampNeg) (show pAt 14 26 = some (26, .iaload, 1, []) from by decide +kernel) (show HS h2 from hs_h2) (by decide) c6 rfl ?_
      refine Ends.call (show pAt 14 27 = some (27, .invokevirtual 122, 3, [24, 3, 0, 0, 2119, 2121, 11]) from by decide +kernel) (isRet_none rfl) rfl (call_this (show HS h2 from hs_h2) rfl rfl (by decide)) (Ends.mono vc ?_)
      rintro _ h7 ⟨rfl, hs_h7, vc⟩
      refine e_aload_n (show pAt 14 30 = some (30, .aload_n 0, 1, []) from by decide +kernel) rfl (ra (by decide)) ?_
      refine e_gR (show pAt 14 31 = some (31, .getfield 41, 3, [1, 7, 0, 1138]) from by decide +kernel) (show HS h7 from hs_h7) rfl (by decide) (hs_ref (show HS h7 from hs_h7) rfl) ?_
      refine e_iload_n (show pAt 14 34 = some (34, .iload_n 1, 1, []) from by decide +kernel) rfl ?_
      refine e_aload_n (show pAt 14 35 = some (35, .aload_n 0, 1, []) from by decide +kernel) rfl (ra (by decide)) ?_
      refine e_gR (show pAt 14 36 = some (36, .getfield 12, 3, [1, 0, 0, 1127]) from by decide +kernel) (show HS h7 from hs_h7) rfl (by decide) (hs_ref (show HS h7 from hs_h7) rfl) ?_
      refine e_gR (show pAt 14 39 = some (39, .getfield 134, 3, [2, 5, 1, 1048]) from by decide +kernel) (show HS h7 from hs_h7) rfl (by decide) (hs_ref (show HS h7 from hs_h7) rfl) ?_
      refine e_iload_n (show pAt 14 42 = some (42, .iload_n 1, 1, []) from by decide +kernel) rfl ?_
      obtain ⟨c10, vc⟩ := vc
      refine e_aldv (v := h7.2.1 23 p.toNatClampNeg) (show pAt 14 43 = some (43, .iaload, 1, []) from by decide +kernel) (show HS h7 from hs_h7) (by decide) c10 rfl ?_
      refine e_aload_n (show pAt 14 44 = some (44, .aload_n 0, 1, []) from by decide +kernel) rfl (ra (by decide)) ?_
      refine e_gR (show pAt 14 45 = some (45, .getfield 12, 3, [1, 0, 0, 1127]) from by decide +kernel) (show HS h7 from hs_h7) rfl (by decide) (hs_ref (show HS h7 from hs_h7) rfl) ?_
      refine e_gR (show pAt 14 48 = some (48, .getfield 150, 3, [2, 4, 1, 1045]) from by decide +kernel) (show HS h7 from hs_h7) rfl (by decide) (hs_ref (show HS h7 from hs_h7) rfl) ?_
      refine e_iload_n (show pAt 14 51 = some (51, .iload_n 1, 1, []) from by decide +kernel) rfl ?_
      obtain ⟨c11, vc⟩ := vc
      refine e_aldv (v := h7.2.1 22 p.toNatClampNeg) (show pAt 14 52 = some (52, .iaload, 1, []) from by decide +kernel) (show HS h7 from hs_h7) (by decide) c11 rfl ?_
      refine e_iadd (show pAt 14 53 = some (53, .iadd, 1, []) from by decide +kernel) ?_
      refine e_aload_n (show pAt 14 54 = some (54, .aload_n 0, 1, []) from by decide +kernel) rfl (ra (by decide)) ?_
      obtain ⟨c12, vc⟩ := vc
      refine e_gR (b := q) (show pAt 14 55 = some (55, .getfield 21, 3, [1, 1, 0, 1129]) from by decide +kernel) (show HS h7 from hs_h7) rfl (yb (P := fun q => decide (17 < 1000) && decide (q < 1000) && decide (SHl[17]? = some (.inr 1)) && decide (1 < vwN 1) && isRefTy (vwTy 1 1)) hY (by decide +kernel)) c12 ?_
      refine e_iconst (c := 2) (show pAt 14 58 = some (58, .iconst 2, 1, []) from by decide +kernel) (by decide) ?_
      refine e_aload_n (show pAt 14 59 = some (59, .aload_n 0, 1, []) from by decide +kernel) rfl (ra (by decide)) ?_
      refine e_gR (show pAt 14 60 = some (60, .getfield 25, 3, [1, 2, 0, 1130]) from by decide +kernel) (show HS h7 from hs_h7) rfl (by decide) (hs_ref (show HS h7 from hs_h7) rfl) ?_
      refine Ends.call (show pAt 14 63 = some (63, .invokevirtual 130, 3, [58, 3, 0, 1, 2130, 2132, 13]) from by decide +kernel) (isRet_none rfl) rfl (call_this (show HS h7 from hs_h7) rfl rfl (yb (P := fun q => decide (q < 1000) && decide (SHl[q]? = some (.inr (mCi 58))) && decide (mCi 58 < 8)) hY (by decide +kernel))) (Ends.mono vc ?_)
      rintro _ h13 ⟨r14, rfl, hs_h13, vc⟩
      refine e_iadd (show pAt 14 66 = some (66, .iadd, 1, []) from by decide +kernel) ?_
      refine e_aload_n (show pAt 14 67 = some (67, .aload_n 0, 1, []) from by decide +kernel) rfl (ra (by decide)) ?_
      refine e_gR (show pAt 14 68 = some (68, .getfield 12, 3, [1, 0, 0, 1127]) from by decide +kernel) (show HS h13 from hs_h13) rfl (by decide) (hs_ref (show HS h13 from hs_h13) rfl) ?_
      refine e_gR (show pAt 14 71 = some (71, .getfield 153, 3, [2, 1, 1, 1036]) from by decide +kernel) (show HS h13 from hs_h13) rfl (by decide) (hs_ref (show HS h13 from hs_h13) rfl) ?_
      refine e_iload_n (show pAt 14 74 = some (74, .iload_n 1, 1, []) from by decide +kernel) rfl ?_
      obtain ⟨c16, vc⟩ := vc
      refine e_aldv (v := h13.2.1 19 p.toNatClampNeg) (show pAt 14 75 = some (75, .iaload, 1, []) from by decide +kernel) (show HS h13 from hs_h13) (by decide) c16 rfl ?_
      refine e_iconst (c := 4) (show pAt 14 76 = some (76, .iconst 4, 1, []) from by decide +kernel) (by decide) ?_
      refine e_icmp (t := 92) (show pAt 14 77 = some (77, .if_icmp .ne 15, 3, []) from by decide +kernel) rfl (fun c17 => ?_) (fun c17 => ?_)
      · replace vc := vc.1 c17
        refine e_iconst (c := 0) (show pAt 14 92 = some (92, .iconst 0, 1, []) from by decide +kernel) (by decide) ?_
        refine e_iadd (show pAt 14 93 = some (93, .iadd, 1, []) from by decide +kernel) ?_
        obtain ⟨c18, vc⟩ := vc
        refine e_ast (show pAt 14 94 = some (94, .iastore, 1, []) from by decide +kernel) (show HS h13 from hs_h13) (by decide) c18 ?_
        refine e_iinc (c := 1) (show pAt 14 95 = some (95, .iinc 1 1, 3, []) from by decide +kernel) rfl rfl (by decide) rfl ?_
        refine e_goto (t := 2) (show pAt 14 98 = some (98, .goto (-96), 3, []) from by decide +kernel) rfl ?_
        exact vc
      · replace vc := vc.2 c17
        refine e_aload_n (show pAt 14 80 = some (80, .aload_n 0, 1, []) from by decide +kernel) rfl (ra (by decide)) ?_
        refine e_gR (show pAt 14 81 = some (81, .getfield 12, 3, [1, 0, 0, 1127]) from by decide +kernel) (show HS h13 from hs_h13) rfl (by decide) (hs_ref (show HS h13 from hs_h13) rfl) ?_
        refine e_gR (show pAt 14 84 = some (84, .getfield 156, 3, [2, 2, 1, 1039]) from by decide +kernel) (show HS h13 from hs_h13) rfl (by decide) (hs_ref (show HS h13 from hs_h13) rfl) ?_
        refine e_iload_n (show pAt 14 87 = some (87, .iload_n 1, 1, []) from by decide +kernel) rfl ?_
        obtain ⟨c19, vc⟩ := vc
        refine e_aldv (v := h13.2.1 20 p.toNatClampNeg) (show pAt 14 88 = some (88, .iaload, 1, []) from by decide +kernel) (show HS h13 from hs_h13) (by decide) c19 rfl ?_
        refine e_goto (t := 93) (show pAt 14 89 = some (89, .goto 4, 3, []) from by decide +kernel) rfl ?_
        refine e_iadd (show pAt 14 93 = some (93, .iadd, 1, []) from by decide +kernel) ?_
        obtain ⟨c20, vc⟩ := vc
        refine e_ast (show pAt 14 94 = some (94, .iastore, 1, []) from by decide +kernel) (show HS h13 from hs_h13) (by decide) c20 ?_
        refine e_iinc (c := 1) (show pAt 14 95 = some (95, .iinc 1 1, 3, []) from by decide +kernel) rfl rfl (by decide) rfl ?_
        refine e_goto (t := 2) (show pAt 14 98 = some (98, .goto (-96), 3, []) from by decide +kernel) rfl ?_
        exact vc

theorem w_cw0 {X : Scr} {dp : Nat} {h : Hp} {Q : Option Value → Hp → Prop}  (hs : HS h)
    (vc : Ends X dp 13 2 [.ref 17, .int 0] [] h Q) :
    Ends X dp 13 0 [.ref 17, .retAddr 0] [] h Q := by
  have ra : ∀ {a : Nat}, a < 1000 → a ≤ OLDB := fun h => by have := OLDB_eq; omega
  refine e_iconst (c := 0) (show pAt 13 0 = some (0, .iconst 0, 1, []) from by decide +kernel) (by decide) ?_
  refine e_istore_n (show pAt 13 1 = some (1, .istore_n 1, 1, []) from by decide +kernel) ⟨Nat.le_of_ble_eq_true rfl, rfl⟩ rfl ?_
  exact vc

theorem w_cw1 {X : Scr} {dp : Nat} {h : Hp} {Q : Option Value → Hp → Prop} (p : Int32) (hs : HS h)
    (vc : ((condB .ge p 7 = true → Ends X dp 26 0 [.ref 18, .int (h.2.1 17 15)] [] h (fun rv h2 => ∃ r3, rv = some (.int r3) ∧ HS h2 ∧ ((condB .eq r3 0 = true → Q none h2) ∧ (condB .eq r3 0 = false → Ends X dp 26 0 [.ref 18, .int (h2.2.1 17 16)] [] h2 (fun rv h6 => ∃ r7, rv = some (.int r7) ∧ HS h6 ∧ ((condB .eq r7 0 = true → Q none h6) ∧ (condB .eq r7 0 = false → (inB (h6.2.1 17 16) 7 = true ∧ (inB (h6.2.1 17 15) 7 = true ∧ Q none (hpI h6 35 (h6.2.1 17 15).toNatClampNeg (h6.2.1 35 (h6.2.1 17 16).toNatClampNeg))))))))))) ∧ (condB .ge p 7 = false → Ends X dp 104 0 [.int (h.2.1 17 11), .int p] [] h (fun rv h12 => ∃ r13, rv = some (.int r13) ∧ HS h12 ∧ ((condB .eq r13 0 = true → Ends X (dp + 1) 13 2 [.ref 17, .int (p + 1)] [] h12 Q) ∧ (condB .eq r13 0 = false → ((condB .ne p (h12.2.1 17 13) = true → Ends X dp 15 0 [.ref 17, .int p, .retAddr 0] [] h12 (fun rv h17 => ∃ r18, rv = some (.int r18) ∧ HS h17 ∧ (inB p 7 = true ∧ Ends X (dp + 1) 13 2 [.ref 17, .int (p + 1)] [] (hpI h17 35 p.toNatClampNeg r18) Q))) ∧ (condB .ne p (h12.2.1 17 13) = false → (inB p 7 = true ∧ Ends X (dp + 1) 13 2 [.ref 17, .int (p + 1)] [] (hpI h12 35 p.toNatClampNeg (h12.2.1 17 14)) Q))))))))) :
    Ends X (dp + 1) 13 2 [.ref 17, .int p] [] h Q := by
  have ra : ∀ {a : Nat}, a < 1000 → a ≤ OLDB := fun h => by have := OLDB_eq; omega
  refine e_iload_n (show pAt 13 2 = some (2, .iload_n 1, 1, []) from by decide +kernel) rfl ?_
  refine e_bipush (c := 7) (show pAt 13 3 = some (3, .bipush 7, 2, []) from by decide +kernel) (by decide) ?_
  refine e_icmp (t := 51) (show pAt 13 5 = some (5, .if_icmp .ge 46, 3, []) from by decide +kernel) rfl (fun c1 => ?_) (fun c1 => ?_)
  · replace vc := vc.1 c1
    refine e_aload_n (show pAt 13 51 = some (51, .aload_n 0, 1, []) from by decide +kernel) rfl (ra (by decide)) ?_
    refine e_gR (show pAt 13 52 = some (52, .getfield 12, 3, [1, 0, 0, 1127]) from by decide +kernel) (show HS h from hs) rfl (by decide) (hs_ref (show HS h from hs) rfl) ?_
    refine e_aload_n (show pAt 13 55 = some (55, .aload_n 0, 1, []) from by decide +kernel) rfl (ra (by decide)) ?_
    refine e_gIv (v := h.2.1 17 15) (show pAt 13 56 = some (56, .getfield 62, 3, [1, 15, 0, 1149]) from by decide +kernel) (show HS h from hs) rfl (by decide) rfl ?_
    refine Ends.call (show pAt 13 59 = some (59, .invokevirtual 149, 3, [26, 2, 0, 1, 2174, 2073, 1]) from by decide +kernel) (isRet_none rfl) rfl (call_this (show HS h from hs) rfl rfl (by decide)) (Ends.mono vc ?_)
    rintro _ h2 ⟨r3, rfl, hs_h2, vc⟩
    refine e_if (t := 97) (show pAt 13 62 = some (62, .ifCond .eq 35, 3, []) from by decide +kernel) rfl (fun c5 => ?_) (fun c5 => ?_)
    · replace vc := vc.1 c5
      exact e_retV (show pAt 13 97 = some (97, .return_, 1, []) from by decide +kernel) rfl vc
    · replace vc := vc.2 c5
      refine e_aload_n (show pAt 13 65 = some (65, .aload_n 0, 1, []) from by decide +kernel) rfl (ra (by decide)) ?_
      refine e_gR (show pAt 13 66 = some (66, .getfield 12, 3, [1, 0, 0, 1127]) from by decide +kernel) (show HS h2 from hs_h2) rfl (by decide) (hs_ref (show HS h2 from hs_h2) rfl) ?_
      refine e_aload_n (show pAt 13 69 = some (69, .aload_n 0, 1, []) from by decide +kernel) rfl (ra (by decide)) ?_
      refine e_gIv (v := h2.2.1 17 16) (show pAt 13 70 = some (70, .getfield 68, 3, [1, 16, 0, 1150]) from by decide +kernel) (show HS h2 from hs_h2) rfl (by decide) rfl ?_
      refine Ends.call (show pAt 13 73 = some (73, .invokevirtual 149, 3, [26, 2, 0, 1, 2174, 2073, 1]) from by decide +kernel) (isRet_none rfl) rfl (call_this (show HS h2 from hs_h2) rfl rfl (by decide)) (Ends.mono vc ?_)
      rintro _ h6 ⟨r7, rfl, hs_h6, vc⟩
      refine e_if (t := 97) (show pAt 13 76 = some (76, .ifCond .eq 21, 3, []) from by decide +kernel) rfl (fun c9 => ?_) (fun c9 => ?_)
      · replace vc := vc.1 c9
        exact e_retV (show pAt 13 97 = some (97, .return_, 1, []) from by decide +kernel) rfl vc
      · replace vc := vc.2 c9
        refine e_aload_n (show pAt 13 79 = some (79, .aload_n 0, 1, []) from by decide +kernel) rfl (ra (by decide)) ?_
        refine e_gR (show pAt 13 80 = some (80, .getfield 38, 3, [1, 6, 0, 1136]) from by decide +kernel) (show HS h6 from hs_h6) rfl (by decide) (hs_ref (show HS h6 from hs_h6) rfl) ?_
        refine e_aload_n (show pAt 13 83 = some (83, .aload_n 0, 1, []) from by decide +kernel) rfl (ra (by decide)) ?_
        refine e_gIv (v := h6.2.1 17 15) (show pAt 13 84 = some (84, .getfield 62, 3, [1, 15, 0, 1149]) from by decide +kernel) (show HS h6 from hs_h6) rfl (by decide) rfl ?_
        refine e_aload_n (show pAt 13 87 = some (87, .aload_n 0, 1, []) from by decide +kernel) rfl (ra (by decide)) ?_
        refine e_gR (show pAt 13 88 = some (88, .getfield 38, 3, [1, 6, 0, 1136]) from by decide +kernel) (show HS h6 from hs_h6) rfl (by decide) (hs_ref (show HS h6 from hs_h6) rfl) ?_
        refine e_aload_n (show pAt 13 91 = some (91, .aload_n 0, 1, []) from by decide +kernel) rfl (ra (by decide)) ?_
        refine e_gIv (v := h6.2.1 17 16) (show pAt 13 92 = some (92, .getfield 68, 3, [1, 16, 0, 1150]) from by decide +kernel) (show HS h6 from hs_h6) rfl (by decide) rfl ?_
        obtain ⟨c10, vc⟩ := vc
        refine e_aldv (v := h6.2.1 35 (h6.2.1 17 16).toNatClampNeg) (show pAt 13 95 = some (95, .iaload, 1, []) from by decide +kernel) (show HS h6 from hs_h6) (by decide) c10 rfl ?_
        obtain ⟨c11, vc⟩ := vc
        refine e_ast (show pAt 13 96 = some (96, .iastore, 1, []) from by decide +kernel) (show HS h6 from hs_h6) (by decide) c11 ?_
        exact e_retV (show pAt 13 97 = some (97, .return_, 1, []) from by decide +kernel) rfl vc
  · replace vc := vc.2 c1
    refine e_aload_n (show pAt 13 8 = some (8, .aload_n 0, 1, []) from by decide +kernel) rfl (ra (by decide)) ?_
    refine e_gIv (v := h.2.1 17 11) (show pAt 13 9 = some (9, .getfield 87, 3, [1, 11, 0, 1144]) from by decide +kernel) (show HS h from hs) rfl (by decide) rfl ?_
    refine e_iload_n (show pAt 13 12 = some (12, .iload_n 1, 1, []) from by decide +kernel) rfl ?_
    refine Ends.call (show pAt 13 13 = some (13, .invokestatic 115, 3, [104, 2, 2, 1, 2118, 2080, 0]) from by decide +kernel) (isRet_none rfl) rfl rfl (Ends.mono vc ?_)
    rintro _ h12 ⟨r13, rfl, hs_h12, vc⟩
    refine e_if (t := 45) (show pAt 13 16 = some (16, .ifCond .eq 29, 3, []) from by decide +kernel) rfl (fun c15 => ?_) (fun c15 => ?_)
    · replace vc := vc.1 c15
      refine e_iinc (c := 1) (show pAt 13 45 = some (45, .iinc 1 1, 3, []) from by decide +kernel) rfl rfl (by decide) rfl ?_
      refine e_goto (t := 2) (show pAt 13 48 = some (48, .goto (-46), 3, []) from by decide +kernel) rfl ?_
      exact vc
    · replace vc := vc.2 c15
      refine e_aload_n (show pAt 13 19 = some (19, .aload_n 0, 1, []) from by decide +kernel) rfl (ra (by decide)) ?_
      refine e_gR (show pAt 13 20 = some (20, .getfield 38, 3, [1, 6, 0, 1136]) from by decide +kernel) (show HS h12 from hs_h12) rfl (by decide) (hs_ref (show HS h12 from hs_h12) rfl) ?_
      refine e_iload_n (show pAt 13 23 = some (23, .iload_n 1, 1, []) from by decide +kernel) rfl ?_
      refine e_iload_n (show pAt 13 24 = some (24, .iload_n 1, 1, []) from by decide +kernel) rfl ?_
      refine e_aload_n (show pAt 13 25 = some (25, .aload_n 0, 1, []) from by decide +kernel) rfl (ra (by decide)) ?_
      refine e_gIv (v := h12.2.1 17 13) (show pAt 13 26 = some (26, .getfield 59, 3, [1, 13, 0, 1147]) from by decide +kernel) (show HS h12 from hs_h12) rfl (by decide) rfl ?_
      refine e_icmp (t := 39) (show pAt 13 29 = some (29, .if_icmp .ne 10, 3, []) from by decide +kernel) rfl (fun c16 => ?_) (fun c16 => ?_)
      · replace vc := vc.1 c16
        refine e_aload_n (show pAt 13 39 = some (39, .aload_n 0, 1, []) from by decide +kernel) rfl (ra (by decide)) ?_
        refine e_iload_n (show pAt 13 40 = some (40, .iload_n 1, 1, []) from by decide +kernel) rfl ?_
        refine Ends.call (show pAt 13 41 = some (41, .invokevirtual 146, 3, [15, 2, 0, 0, 2156, 2158, 17]) from by decide +kernel) (isRet_none rfl) rfl (call_this (show HS h12 from hs_h12) rfl rfl (by decide)) (Ends.mono vc ?_)
        rintro _ h17 ⟨r18, rfl, hs_h17, vc⟩
        obtain ⟨c20, vc⟩ := vc
        refine e_ast (show pAt 13 44 = some (44, .iastore, 1, []) from by decide +kernel) (show HS h17 from hs_h17) (by decide) c20 ?_
        refine e_iinc (c := 1) (show pAt 13 45 = some (45, .iinc 1 1, 3, []) from by decide +kernel) rfl rfl (by decide) rfl ?_
        refine e_goto (t := 2) (show pAt 13 48 = some (48, .goto (-46), 3, []) from by decide +kernel) rfl ?_
        exact vc
      · replace vc := vc.2 c16
        refine e_aload_n (show pAt 13 32 = some (32, .aload_n 0, 1, []) from by decide +kernel) rfl (ra (by decide)) ?_
        refine e_gIv (v := h12.2.1 17 14) (show pAt 13 33 = some (33, .getfield 65, 3, [1, 14, 0, 1148]) from by decide +kernel) (show HS h12 from hs_h12) rfl (by decide) rfl ?_
        refine e_goto (t := 44) (show pAt 13 36 = some (36, .goto 8, 3, []) from by decide +kernel) rfl ?_
        obtain ⟨c21, vc⟩ := vc
        refine e_ast (show pAt 13 44 = some (44, .iastore, 1, []) from by decide +kernel) (show HS h12 from hs_h12) (by decide) c21 ?_
        refine e_iinc (c := 1) (show pAt 13 45 = some (45, .iinc 1 1, 3, []) from by decide +kernel) rfl rfl (by decide) rfl ?_
        refine e_goto (t := 2) (show pAt 13 48 = some (48, .goto (-46), 3, []) from by decide +kernel) rfl ?_
        exact vc

theorem w_lin0 {X : Scr} {dp : Nat} {h : Hp} {Q : Option Value → Hp → Prop}  (hs : HS h)
    (vc : Ends X dp 20 4 [.ref 17, .int 0, .int 0] [] h Q) :
    Ends X dp 20 0 [.ref 17, .retAddr 0, .retAddr 0] [] h Q := by
  have ra : ∀ {a : Nat}, a < 1000 → a ≤ OLDB := fun h => by have := OLDB_eq; omega
  refine e_iconst (c := 0) (show pAt 20 0 = some (0, .iconst 0, 1, []) from by decide +kernel) (by decide) ?_
  refine e_istore_n (show pAt 20 1 = some (1, .istore_n 1, 1, []) from by decide +kernel) ⟨Nat.le_of_ble_eq_true rfl, rfl⟩ rfl ?_
  refine e_iconst (c := 0) (show pAt 20 2 = some (2, .iconst 0, 1, []) from by decide +kernel) (by decide) ?_
  refine e_istore_n (show pAt 20 3 = some (3, .istore_n 2, 1, []) from by decide +kernel) ⟨Nat.le_of_ble_eq_true rfl, rfl⟩ rfl ?_
  exact vc

theorem w_lin1 {X : Scr} {dp : Nat} {h : Hp} {Q : Option Value → Hp → Prop} (m : Int32) (p : Int32) (hs : HS h)
    (vc : ((condB .ge p 7 = true → ((condB .ge (h.2.1 17 15) 0 = true → Ends X dp 22 0 [.ref 17, .int m, .retAddr 0] [] h (fun rv h3 => ∃ r4, rv = some (.int r4) ∧ HS h3 ∧ Q (some (.int r4)) h3)) ∧ (condB .ge (h.2.1 17 15) 0 = false → Q (some (.int m)) h))) ∧ (condB .ge p 7 = false → Ends X dp 104 0 [.int (h.2.1 17 11), .int p] [] h (fun rv h6 => ∃ r7, rv = some (.int r7) ∧ HS h6 ∧ ((condB .eq r7 0 = true → Ends X (dp + 1) 20 4 [.ref 17, .int m, .int (p + 1)] [] h6 Q) ∧ (condB .eq r7 0 = false → ((condB .eq p (h6.2.1 17 15) = true → Ends X (dp + 1) 20 4 [.ref 17, .int m, .int (p + 1)] [] h6 Q) ∧ (condB .eq p (h6.2.1 17 15) = false → Ends X dp 21 0 [.ref 17, .int p, .int m, .retAddr 0] [] h6 (fun rv h11 => ∃ r12, rv = some (.int r12) ∧ HS h11 ∧ Ends X (dp + 1) 20 4 [.ref 17, .int r12, .int (p + 1)] [] h11 Q))))))))) :
    Ends X (dp + 1) 20 4 [.ref 17, .int m, .int p] [] h Q := by
  have ra : ∀ {a : Nat}, a < 1000 → a ≤ OLDB := fun h => by have := OLDB_eq; omega
  refine e_iload_n (show pAt 20 4 = some (4, .iload_n 2, 1, []) from by decide +kernel) rfl ?_
  refine e_bipush (c := 7) (show pAt 20 5 = some (5, .bipush 7, 2, []) from by decide +kernel) (by decide) ?_
  refine e_icmp (t := 42) (show pAt 20 7 = some (7, .if_icmp .ge 35, 3, []) from by decide +kernel) rfl (fun c1 => ?_) (fun c1 => ?_)
  · replace vc := vc.1 c1
    refine e_aload_n (show pAt 20 42 = some (42, .aload_n 0, 1, []) from by decide +kernel) rfl (ra (by decide)) ?_
    refine e_gIv (v := h.2.1 17 15) (show pAt 20 43 = some (43, .getfield 62, 3, [1, 15, 0, 1149]) from by decide +kernel) (show HS h from hs) rfl (by decide) rfl ?_
    refine e_if (t := 53) (show pAt 20 46 = some (46, .ifCond .ge 7, 3, []) from by decide +kernel) rfl (fun c2 => ?_) (fun c2 => ?_)
    · replace vc := vc.1 c2
      refine e_aload_n (show pAt 20 53 = some (53, .aload_n 0, 1, []) from by decide +kernel) rfl (ra (by decide)) ?_
      refine e_iload_n (show pAt 20 54 = some (54, .iload_n 1, 1, []) from by decide +kernel) rfl ?_
      refine Ends.call (show pAt 20 55 = some (55, .invokevirtual 183, 3, [22, 2, 0, 0, 2194, 2196, 24]) from by decide +kernel) (isRet_none rfl) rfl (call_this (show HS h from hs) rfl rfl (by decide)) (Ends.mono vc ?_)
      rintro _ h3 ⟨r4, rfl, hs_h3, vc⟩
      exact e_retI (show pAt 20 58 = some (58, .ireturn, 1, []) from by decide +kernel) rfl vc
    · replace vc := vc.2 c2
      refine e_iload_n (show pAt 20 49 = some (49, .iload_n 1, 1, []) from by decide +kernel) rfl ?_
      refine e_goto (t := 58) (show pAt 20 50 = some (50, .goto 8, 3, []) from by decide +kernel) rfl ?_
      exact e_retI (show pAt 20 58 = some (58, .ireturn, 1, []) from by decide +kernel) rfl vc
  · replace vc := vc.2 c1
    refine e_aload_n (show pAt 20 10 = some (10, .aload_n 0, 1, []) from by decide +kernel) rfl (ra (by decide)) ?_
    refine e_gIv (v := h.2.1 17 11) (show pAt 20 11 = some (11, .getfield 87, 3, [1, 11, 0, 1144]) from by decide +kernel) (show HS h from hs) rfl (by decide) rfl ?_
    refine e_iload_n (show pAt 20 14 = some (14, .iload_n 2, 1, []) from by decide +kernel) rfl ?_
    refine Ends.call (show pAt 20 15 = some (15, .invokestatic 115, 3, [104, 2, 2, 1, 2118, 2080, 0]) from by decide +kernel) (isRet_none rfl) rfl rfl (Ends.mono vc ?_)
    rintro _ h6 ⟨r7, rfl, hs_h6, vc⟩
    refine e_if (t := 36) (show pAt 20 18 = some (18, .ifCond .eq 18, 3, []) from by decide +kernel) rfl (fun c9 => ?_) (fun c9 => ?_)
    · replace vc := vc.1 c9
      refine e_iinc (c := 1) (show pAt 20 36 = some (36, .iinc 2 1, 3, []) from by decide +kernel) rfl rfl (by decide) rfl ?_
      refine e_goto (t := 4) (show pAt 20 39 = some (39, .goto (-35), 3, []) from by decide +kernel) rfl ?_
      exact vc
    · replace vc := vc.2 c9
      refine e_iload_n (show pAt 20 21 = some (21, .iload_n 2, 1, []) from by decide +kernel) rfl ?_
      refine e_aload_n (show pAt 20 22 = some (22, .aload_n 0, 1, []) from by decide +kernel) rfl (ra (by decide)) ?_
      refine e_gIv (v := h6.2.1 17 15) (show pAt 20 23 = some (23, .getfield 62, 3, [1, 15, 0, 1149]) from by decide +kernel) (show HS h6 from hs_h6) rfl (by decide) rfl ?_
      refine e_icmp (t := 36) (show pAt 20 26 = some (26, .if_icmp .eq 10, 3, []) from by decide +kernel) rfl (fun c10 => ?_) (fun c10 => ?_)
      · replace vc := vc.1 c10
        refine e_iinc (c := 1) (show pAt 20 36 = some (36, .iinc 2 1, 3, []) from by decide +kernel) rfl rfl (by decide) rfl ?_
        refine e_goto (t := 4) (show pAt 20 39 = some (39, .goto (-35), 3, []) from by decide +kernel) rfl ?_
        exact vc
      · replace vc := vc.2 c10
        refine e_aload_n (show pAt 20 29 = some (29, .aload_n 0, 1, []) from by decide +kernel) rfl (ra (by decide)) ?_
        refine e_iload_n (show pAt 20 30 = some (30, .iload_n 2, 1, []) from by decide +kernel) rfl ?_
        refine e_iload_n (show pAt 20 31 = some (31, .iload_n 1, 1, []) from by decide +kernel) rfl ?_
        refine Ends.call (show pAt 20 32 = some (32, .invokevirtual 180, 3, [21, 3, 0, 0, 2183, 2185, 22]) from by decide +kernel) (isRet_none rfl) rfl (call_this (show HS h6 from hs_h6) rfl rfl (by decide)) (Ends.mono vc ?_)
        rintro _ h11 ⟨r12, rfl, hs_h11, vc⟩
        refine e_istore_n (show pAt 20 35 = some (35, .istore_n 1, 1, []) from by decide +kernel) ⟨Nat.le_of_ble_eq_true rfl, rfl⟩ rfl ?_
        refine e_iinc (c := 1) (show pAt 20 36 = some (36, .iinc 2 1, 3, []) from by decide +kernel) rfl rfl (by decide) rfl ?_
        refine e_goto (t := 4) (show pAt 20 39 = some (39, .goto (-35), 3, []) from by decide +kernel) rfl ?_
        exact vc

theorem w_stp0 {X : Scr} {dp : Nat} {h : Hp} {Q : Option Value → Hp → Prop} (p : Int32) (m : Int32) (hs : HS h)
    (vc : Ends X dp 208 0 [.int m, .int 6] [] h (fun rv h1 => ∃ r2, rv = some (.int r2) ∧ HS h1 ∧ Ends X (dp + 1) 21 7 [.ref 17, .int p, .int m, .int r2] [] h1 Q)) :
    Ends X (dp + 1) 21 0 [.ref 17, .int p, .int m, .retAddr 0] [] h Q := by
  have ra : ∀ {a : Nat}, a < 1000 → a ≤ OLDB := fun h => by have := OLDB_eq; omega
  refine e_iload_n (show pAt 21 0 = some (0, .iload_n 2, 1, []) from by decide +kernel) rfl ?_
  refine e_bipush (c := 6) (show pAt 21 1 = some (1, .bipush 6, 2, []) from by decide +kernel) (by decide) ?_
  refine Ends.call (show pAt 21 3 = some (3, .invokestatic 186, 3, [208, 2, 2, 0, 2187, 2188, 0]) from by decide +kernel) (isRet_none rfl) rfl rfl (Ends.mono vc ?_)
  rintro _ h1 ⟨r2, rfl, hs_h1, vc⟩
  refine e_istore_n (show pAt 21 6 = some (6, .istore_n 3, 1, []) from by decide +kernel) ⟨Nat.le_of_ble_eq_true rfl, rfl⟩ rfl ?_
  exact vc

theorem w_stp1 {X : Scr} {dp : Nat} {h : Hp} {Q : Option Value → Hp → Prop} (p : Int32) (m : Int32) (a : Int32) (hs : HS h)
    (vc : ((condB .le a 0 = true → (inB a 7 = true ∧ Q (some (.int (m + 1))) (hpI h 37 a.toNatClampNeg p))) ∧ (condB .le a 0 = false → (inB (a - 1) 7 = true ∧ Ends X dp 23 0 [.ref 17, .int (h.2.1 37 (a - 1).toNatClampNeg), .retAddr 0] [] h (fun rv h4 => ∃ r5, rv = some (.int r5) ∧ HS h4 ∧ Ends X dp 23 0 [.ref 17, .int p, .retAddr 0] [] h4 (fun rv h7 => ∃ r8, rv = some (.int r8) ∧ HS h7 ∧ ((condB .ge r5 r8 = true → (inB a 7 = true ∧ Q (some (.int (m + 1))) (hpI h7 37 a.toNatClampNeg p))) ∧ (condB .ge r5 r8 = false → (inB (a - 1) 7 = true ∧ (inB a 7 = true ∧ Ends X (dp + 1) 21 7 [.ref 17, .int p, .int m, .int (a + (-1))] [] (hpI h7 37 a.toNatClampNeg (h7.2.1 37 (a - 1).toNatClampNeg)) Q)))))))))) :
    Ends X (dp + 1) 21 7 [.ref 17, .int p, .int m, .int a] [] h Q := by
  have ra : ∀ {a : Nat}, a < 1000 → a ≤ OLDB := fun h => by have := OLDB_eq; omega
  refine e_iload_n (show pAt 21 7 = some (7, .iload_n 3, 1, []) from by decide +kernel) rfl ?_
  refine e_if (t := 51) (show pAt 21 8 = some (8, .ifCond .le 43, 3, []) from by decide +kernel) rfl (fun c1 => ?_) (fun c1 => ?_)
  · replace vc := vc.1 c1
    refine e_aload_n (show pAt 21 51 = some (51, .aload_n 0, 1, []) from by decide +kernel) rfl (ra (by decide)) ?_
    refine e_gR (show pAt 21 52 = some (52, .getfield 44, 3, [1, 8, 0, 1140]) from by decide +kernel) (show HS h from hs) rfl (by decide) (hs_ref (show HS h from hs) rfl) ?_
    refine e_iload_n (show pAt 21 55 = some (55, .iload_n 3, 1, []) from by decide +kernel) rfl ?_
    refine e_iload_n (show pAt 21 56 = some (56, .iload_n 1, 1, []) from by decide +kernel) rfl ?_
    obtain ⟨c2, vc⟩ := vc
    refine e_ast (show pAt 21 57 = some (57, .iastore, 1, []) from by decide +kernel) (show HS h from hs) (by decide) c2 ?_
    refine e_iload_n (show pAt 21 58 = some (58, .iload_n 2, 1, []) from by decide +kernel) rfl ?_
    refine e_iconst (c := 1) (show pAt 21 59 = some (59, .iconst 1, 1, []) from by decide +kernel) (by decide) ?_
    refine e_iadd (show pAt 21 60 = some (60, .iadd, 1, []) from by decide +kernel) ?_
    exact e_retI (show pAt 21 61 = some (61, .ireturn, 1, []) from by decide +kernel) rfl vc
  · replace vc := vc.2 c1
    refine e_aload_n (show pAt 21 11 = some (11, .aload_n 0, 1, []) from by decide +kernel) rfl (ra (by decide)) ?_
    refine e_aload_n (show pAt 21 12 = some (12, .aload_n 0, 1, []) from by decide +kernel) rfl (ra (by decide)) ?_
    refine e_gR (show pAt 21 13 = some (13, .getfield 44, 3, [1, 8, 0, 1140]) from by decide +kernel) (show HS h from hs) rfl (by decide) (hs_ref (show HS h from hs) rfl) ?_
    refine e_iload_n (show pAt 21 16 = some (16, .iload_n 3, 1, []) from by decide +kernel) rfl ?_
    refine e_iconst (c := 1) (show pAt 21 17 = some (17, .iconst 1, 1, []) from by decide +kernel) (by decide) ?_
    refine e_isub (show pAt 21 18 = some (18, .isub, 1, []) from by decide +kernel) ?_
    obtain ⟨c3, vc⟩ := vc
    refine e_aldv (v := h.2.1 37 (a - 1).toNatClampNeg) (show pAt 21 19 = some (19, .iaload, 1, []) from by decide +kernel) (show HS h from hs) (by decide) c3 rfl ?_
    refine Ends.call (show pAt 21 20 = some (20, .invokevirtual 189, 3, [23, 2, 0, 0, 2190, 2192, 23]) from by decide +kernel) (isRet_none rfl) rfl (call_this (show HS h from hs) rfl rfl (by decide)) (Ends.mono vc ?_)
    rintro _ h4 ⟨r5, rfl, hs_h4, vc⟩
    refine e_aload_n (show pAt 21 23 = some (23, .aload_n 0, 1, []) from by decide +kernel) rfl (ra (by decide)) ?_
    refine e_iload_n (show pAt 21 24 = some (24, .iload_n 1, 1, []) from by decide +kernel) rfl ?_
    refine Ends.call (show pAt 21 25 = some (25, .invokevirtual 189, 3, [23, 2, 0, 0, 2190, 2192, 23]) from by decide +kernel) (isRet_none rfl) rfl (call_this (show HS h4 from hs_h4) rfl rfl (by decide)) (Ends.mono vc ?_)
    rintro _ h7 ⟨r8, rfl, hs_h7, vc⟩
    refine e_icmp (t := 51) (show pAt 21 28 = some (28, .if_icmp .ge 23, 3, []) from by decide +kernel) rfl (fun c10 => ?_) (fun c10 => ?_)
    · replace vc := vc.1 c10
      refine e_aload_n (show pAt 21 51 = some (51, .aload_n 0, 1, []) from by decide +kernel) rfl (ra (by decide)) ?_
      refine e_gR (show pAt 21 52 = some (52, .getfield 44, 3, [1, 8, 0, 1140]) from by decide +kernel) (show HS h7 from hs_h7) rfl (by decide) (hs_ref (show HS h7 from hs_h7) rfl) ?_
      refine e_iload_n (show pAt 21 55 = some (55, .iload_n 3, 1, []) from by decide +kernel) rfl ?_
      refine e_iload_n (show pAt 21 56 = some (56, .iload_n 1, 1, []) from by decide +kernel) rfl ?_
      obtain ⟨c11, vc⟩ := vc
      refine e_ast (show pAt 21 57 = some (57, .iastore, 1, []) from by decide +kernel) (show HS h7 from hs_h7) (by decide) c11 ?_
      refine e_iload_n (show pAt 21 58 = some (58, .iload_n 2, 1, []) from by decide +kernel) rfl ?_
      refine e_iconst (c := 1) (show pAt 21 59 = some (59, .iconst 1, 1, []) from by decide +kernel) (by decide) ?_
      refine e_iadd (show pAt 21 60 = some (60, .iadd, 1, []) from by decide +kernel) ?_
      exact e_retI (show pAt 21 61 = some (61, .ireturn, 1, []) from by decide +kernel) rfl vc
    · replace vc := vc.2 c10
      refine e_aload_n (show pAt 21 31 = some (31, .aload_n 0, 1, []) from by decide +kernel) rfl (ra (by decide)) ?_
      refine e_gR (show pAt 21 32 = some (32, .getfield 44, 3, [1, 8, 0, 1140]) from by decide +kernel) (show HS h7 from hs_h7) rfl (by decide) (hs_ref (show HS h7 from hs_h7) rfl) ?_
      refine e_iload_n (show pAt 21 35 = some (35, .iload_n 3, 1, []) from by decide +kernel) rfl ?_
      refine e_aload_n (show pAt 21 36 = some (36, .aload_n 0, 1, []) from by decide +kernel) rfl (ra (by decide)) ?_
      refine e_gR (show pAt 21 37 = some (37, .getfield 44, 3, [1, 8, 0, 1140]) from by decide +kernel) (show HS h7 from hs_h7) rfl (by decide) (hs_ref (show HS h7 from hs_h7) rfl) ?_
      refine e_iload_n (show pAt 21 40 = some (40, .iload_n 3, 1, []) from by decide +kernel) rfl ?_
      refine e_iconst (c := 1) (show pAt 21 41 = some (41, .iconst 1, 1, []) from by decide +kernel) (by decide) ?_
      refine e_isub (show pAt 21 42 = some (42, .isub, 1, []) from by decide +kernel) ?_
      obtain ⟨c12, vc⟩ := vc
      refine e_aldv (v := h7.2.1 37 (a - 1).toNatClampNeg) (show pAt 21 43 = some (43, .iaload, 1, []) from by decide +kernel) (show HS h7 from hs_h7) (by decide) c12 rfl ?_
      obtain ⟨c13, vc⟩ := vc
      refine e_ast (show pAt 21 44 = some (44, .iastore, 1, []) from by decide +kernel) (show HS h7 from hs_h7) (by decide) c13 ?_
      refine e_iinc (c := (-1)) (show pAt 21 45 = some (45, .iinc 3 (-1), 3, []) from by decide +kernel) rfl rfl (by decide) rfl ?_
      refine e_goto (t := 7) (show pAt 21 48 = some (48, .goto (-41), 3, []) from by decide +kernel) rfl ?_
      exact vc

theorem w_fol0 {X : Scr} {dp : Nat} {h : Hp} {Q : Option Value → Hp → Prop} (m : Int32) (hs : HS h)
    (vc : Ends X dp 208 0 [.int m, .int 6] [] h (fun rv h1 => ∃ r2, rv = some (.int r2) ∧ HS h1 ∧ Ends X (dp + 1) 22 7 [.ref 17, .int m, .int r2] [] h1 Q)) :
    Ends X (dp + 1) 22 0 [.ref 17, .int m, .retAddr 0] [] h Q := by
  have ra : ∀ {a : Nat}, a < 1000 → a ≤ OLDB := fun h => by have := OLDB_eq; omega
  refine e_iload_n (show pAt 22 0 = some (0, .iload_n 1, 1, []) from by decide +kernel) rfl ?_
  refine e_bipush (c := 6) (show pAt 22 1 = some (1, .bipush 6, 2, []) from by decide +kernel) (by decide) ?_
  refine Ends.call (show pAt 22 3 = some (3, .invokestatic 186, 3, [208, 2, 2, 0, 2187, 2188, 0]) from by decide +kernel) (isRet_none rfl) rfl rfl (Ends.mono vc ?_)
  rintro _ h1 ⟨r2, rfl, hs_h1, vc⟩
  refine e_istore_n (show pAt 22 6 = some (6, .istore_n 2, 1, []) from by decide +kernel) ⟨Nat.le_of_ble_eq_true rfl, rfl⟩ rfl ?_
  exact vc

theorem w_fol1 {X : Scr} {dp : Nat} {h : Hp} {Q : Option Value → Hp → Prop} (m : Int32) (a : Int32) (hs : HS h)
    (vc : ((condB .le a 0 = true → (inB a 7 = true ∧ Q (some (.int (m + 1))) (hpI h 37 a.toNatClampNeg (h.2.1 17 15)))) ∧ (condB .le a 0 = false → (inB (a - 1) 7 = true ∧ ((condB .eq (h.2.1 37 (a - 1).toNatClampNeg) (h.2.1 17 16) = true → (inB a 7 = true ∧ Q (some (.int (m + 1))) (hpI h 37 a.toNatClampNeg (h.2.1 17 15)))) ∧ (condB .eq (h.2.1 37 (a - 1).toNatClampNeg) (h.2.1 17 16) = false → (inB (a - 1) 7 = true ∧ (inB a 7 = true ∧ Ends X dp 22 7 [.ref 17, .int m, .int (a + (-1))] [] (hpI h 37 a.toNatClampNeg (h.2.1 37 (a - 1).toNatClampNeg)) Q)))))))) :
    Ends X dp 22 7 [.ref 17, .int m, .int a] [] h Q := by
  have ra : ∀ {a : Nat}, a < 1000 → a ≤ OLDB := fun h => by have := OLDB_eq; omega
  refine e_iload_n (show pAt 22 7 = some (7, .iload_n 2, 1, []) from by decide +kernel) rfl ?_
  refine e_if (t := 46) (show pAt 22 8 = some (8, .ifCond .le 38, 3, []) from by decide +kernel) rfl (fun c1 => ?_) (fun c1 => ?_)
  · replace vc := vc.1 c1
    refine e_aload_n (show pAt 22 46 = some (46, .aload_n 0, 1, []) from by decide +kernel) rfl (ra (by decide)) ?_
    refine e_gR (show pAt 22 47 = some (47, .getfield 44, 3, [1, 8, 0, 1140]) from by decide +kernel) (show HS h from hs) rfl (by decide) (hs_ref (show HS h from hs) rfl) ?_
    refine e_iload_n (show pAt 22 50 = some (50, .iload_n 2, 1, []) from by decide +kernel) rfl ?_
    refine e_aload_n (show pAt 22 51 = some (51, .aload_n 0, 1, []) from by decide +kernel) rfl (ra (by decide)) ?_
    refine e_gIv (v := h.2.1 17 15) (show pAt 22 52 = some (52, .getfield 62, 3, [1, 15, 0, 1149]) from by decide +kernel) (show HS h from hs) rfl (by decide) rfl ?_
    obtain ⟨c2, vc⟩ := vc
    refine e_ast (show pAt 22 55 = some (55, .iastore, 1, []) from by decide +kernel) (show HS h from hs) (by decide) c2 ?_
    refine e_iload_n (show pAt 22 56 = some (56, .iload_n 1, 1, []) from by decide +kernel) rfl ?_
    refine e_iconst (c := 1) (show pAt 22 57 = some (57, .iconst 1, 1, []) from by decide +kernel) (by decide) ?_
    refine e_iadd (show pAt 22 58 = some (58, .iadd, 1, []) from by decide +kernel) ?_
    exact e_retI (show pAt 22 59 = some (59, .ireturn, 1, []) from by decide +kernel) rfl vc
  · replace vc := vc.2 c1
    refine e_aload_n (show pAt 22 11 = some (11, .aload_n 0, 1, []) from by decide +kernel) rfl (ra (by decide)) ?_
    refine e_gR (show pAt 22 12 = some (12, .getfield 44, 3, [1, 8, 0, 1140]) from by decide +kernel) (show HS h from hs) rfl (by decide) (hs_ref (show HS h from hs) rfl) ?_
    refine e_iload_n (show pAt 22 15 = some (15, .iload_n 2, 1, []) from by decide +kernel) rfl ?_
    refine e_iconst (c := 1) (show pAt 22 16 = some (16, .iconst 1, 1, []) from by decide +kernel) (by decide) ?_
    refine e_isub (show pAt 22 17 = some (17, .isub, 1, []) from by decide +kernel) ?_
    obtain ⟨c3, vc⟩ := vc
    refine e_aldv (v := h.2.1 37 (a - 1).toNatClampNeg) (show pAt 22 18 = some (18, .iaload, 1, []) from by decide +kernel) (show HS h from hs) (by decide) c3 rfl ?_
    refine e_aload_n (show pAt 22 19 = some (19, .aload_n 0, 1, []) from by decide +kernel) rfl (ra (by decide)) ?_
    refine e_gIv (v := h.2.1 17 16) (show pAt 22 20 = some (20, .getfield 68, 3, [1, 16, 0, 1150]) from by decide +kernel) (show HS h from hs) rfl (by decide) rfl ?_
    refine e_icmp (t := 46) (show pAt 22 23 = some (23, .if_icmp .eq 23, 3, []) from by decide +kernel) rfl (fun c4 => ?_) (fun c4 => ?_)
    · replace vc := vc.1 c4
      refine e_aload_n (show pAt 22 46 = some (46, .aload_n 0, 1, []) from by decide +kernel) rfl (ra (by decide)) ?_
      refine e_gR (show pAt 22 47 = some (47, .getfield 44, 3, [1, 8, 0, 1140]) from by decide +kernel) (show HS h from hs) rfl (by decide) (hs_ref (show HS h from hs) rfl) ?_
      refine e_iload_n (show pAt 22 50 = some (50, .iload_n 2, 1, []) from by decide +kernel) rfl ?_
      refine e_aload_n (show pAt 22 51 = some (51, .aload_n 0, 1, []) from by decide +kernel) rfl (ra (by decide)) ?_
      refine e_gIv (v := h.2.1 17 15) (show pAt 22 52 = some (52, .getfield 62, 3, [1, 15, 0, 1149]) from by decide +kernel) (show HS h from hs) rfl (by decide) rfl ?_
      obtain ⟨c5, vc⟩ := vc
      refine e_ast (show pAt 22 55 = some (55, .iastore, 1, []) from by decide +kernel) (show HS h from hs) (by decide) c5 ?_
      refine e_iload_n (show pAt 22 56 = some (56, .iload_n 1, 1, []) from by decide +kernel) rfl ?_
      refine e_iconst (c := 1) (show pAt 22 57 = some (57, .iconst 1, 1, []) from by decide +kernel) (by decide) ?_
      refine e_iadd (show pAt 22 58 = some (58, .iadd, 1, []) from by decide +kernel) ?_
      exact e_retI (show pAt 22 59 = some (59, .ireturn, 1, []) from by decide +kernel) rfl vc
    · replace vc := vc.2 c4
      refine e_aload_n (show pAt 22 26 = some (26, .aload_n 0, 1, []) from by decide +kernel) rfl (ra (by decide)) ?_
      refine e_gR (show pAt 22 27 = some (27, .getfield 44, 3, [1, 8, 0, 1140]) from by decide +kernel) (show HS h from hs) rfl (by decide) (hs_ref (show HS h from hs) rfl) ?_
      refine e_iload_n (show pAt 22 30 = some (30, .iload_n 2, 1, []) from by decide +kernel) rfl ?_
      refine e_aload_n (show pAt 22 31 = some (31, .aload_n 0, 1, []) from by decide +kernel) rfl (ra (by decide)) ?_
      refine e_gR (show pAt 22 32 = some (32, .getfield 44, 3, [1, 8, 0, 1140]) from by decide +kernel) (show HS h from hs) rfl (by decide) (hs_ref (show HS h from hs) rfl) ?_
      refine e_iload_n (show pAt 22 35 = some (35, .iload_n 2, 1, []) from by decide +kernel) rfl ?_
      refine e_iconst (c := 1) (show pAt 22 36 = some (36, .iconst 1, 1, []) from by decide +kernel) (by decide) ?_
      refine e_isub (show pAt 22 37 = some (37, .isub, 1, []) from by decide +kernel) ?_
      obtain ⟨c6, vc⟩ := vc
      refine e_aldv (v := h.2.1 37 (a - 1).toNatClampNeg) (show pAt 22 38 = some (38, .iaload, 1, []) from by decide +kernel) (show HS h from hs) (by decide) c6 rfl ?_
      obtain ⟨c7, vc⟩ := vc
      refine e_ast (show pAt 22 39 = some (39, .iastore, 1, []) from by decide +kernel) (show HS h from hs) (by decide) c7 ?_
      refine e_iinc (c := (-1)) (show pAt 22 40 = some (40, .iinc 2 (-1), 3, []) from by decide +kernel) rfl rfl (by decide) rfl ?_
      refine e_goto (t := 7) (show pAt 22 43 = some (43, .goto (-36), 3, []) from by decide +kernel) rfl ?_
      exact vc

theorem w_cau0 {X : Scr} {dp : Nat} {h : Hp} {Q : Option Value → Hp → Prop}  (hs : HS h)
    (vc : Ends X dp 29 0 [.ref 18] [] (hpI h 17 10 ((h.2.1 18 7) &&& ((h.2.1 17 9) ^^^ (-1)))) (fun rv h1 => ∃ r2, rv = some (.int r2) ∧ HS h1 ∧ Ends X dp 11 0 [.ref 17, .retAddr 0] [] (hpI h1 17 11 (r2 &&& ((h1.2.1 17 9) ^^^ (-1)))) (fun rv h4 => rv = none ∧ HS h4 ∧ Ends X dp 13 0 [.ref 17, .retAddr 0] [] h4 (fun rv h7 => rv = none ∧ HS h7 ∧ Ends X dp 14 0 [.ref 17, .retAddr 0] [] h7 (fun rv h10 => rv = none ∧ HS h10 ∧ Ends X dp 20 0 [.ref 17, .retAddr 0, .retAddr 0] [] h10 (fun rv h13 => ∃ r14, rv = some (.int r14) ∧ HS h13 ∧ Ends X (dp + 1) 10 60 [.ref 17, .int r14, .int 0, .int 0, .int 0, .retAddr 0, .retAddr 0] [] h13 Q)))))) :
    Ends X (dp + 1) 10 0 [.ref 17, .retAddr 0, .retAddr 0, .retAddr 0, .retAddr 0, .retAddr 0, .retAddr 0] [] h Q := by
  have ra : ∀ {a : Nat}, a < 1000 → a ≤ OLDB := fun h => by have := OLDB_eq; omega
  refine e_aload_n (show pAt 10 0 = some (0, .aload_n 0, 1, []) from by decide +kernel) rfl (ra (by decide)) ?_
  refine e_aload_n (show pAt 10 1 = some (1, .aload_n 0, 1, []) from by decide +kernel) rfl (ra (by decide)) ?_
  refine e_gR (show pAt 10 2 = some (2, .getfield 12, 3, [1, 0, 0, 1127]) from by decide +kernel) (show HS h from hs) rfl (by decide) (hs_ref (show HS h from hs) rfl) ?_
  refine e_gIv (v := h.2.1 18 7) (show pAt 10 5 = some (5, .getfield 75, 3, [2, 7, 1, 1053]) from by decide +kernel) (show HS h from hs) rfl (by decide) rfl ?_
  refine e_aload_n (show pAt 10 8 = some (8, .aload_n 0, 1, []) from by decide +kernel) rfl (ra (by decide)) ?_
  refine e_gIv (v := h.2.1 17 9) (show pAt 10 9 = some (9, .getfield 51, 3, [1, 9, 0, 1141]) from by decide +kernel) (show HS h from hs) rfl (by decide) rfl ?_
  refine e_iconst (c := (-1)) (show pAt 10 12 = some (12, .iconst (-1), 1, []) from by decide +kernel) (by decide) ?_
  refine e_ixor (show pAt 10 13 = some (13, .ixor, 1, []) from by decide +kernel) ?_
  refine e_iand (show pAt 10 14 = some (14, .iand, 1, []) from by decide +kernel) ?_
  refine e_pI (show pAt 10 15 = some (15, .putfield 81, 3, [1, 10, 0, 1143]) from by decide +kernel) (show HS h from hs) (by decide) (Or.inl rfl) ?_
  refine e_aload_n (show pAt 10 18 = some (18, .aload_n 0, 1, []) from by decide +kernel) rfl (ra (by decide)) ?_
  refine e_aload_n (show pAt 10 19 = some (19, .aload_n 0, 1, []) from by decide +kernel) rfl (ra (by decide)) ?_
  refine e_gR (show pAt 10 20 = some (20, .getfield 12, 3, [1, 0, 0, 1127]) from by decide +kernel) (show HS (hpI h 17 10 ((h.2.1 18 7) &&& ((h.2.1 17 9) ^^^ (-1)))) from hs) rfl (by decide) (hs_ref (show HS (hpI h 17 10 ((h.2.1 18 7) &&& ((h.2.1 17 9) ^^^ (-1)))) from hs) rfl) ?_
  refine Ends.call (show pAt 10 23 = some (23, .invokevirtual 84, 3, [29, 1, 0, 1, 2105, 2107, 8]) from by decide +kernel) (isRet_none rfl) rfl (call_this (show HS (hpI h 17 10 ((h.2.1 18 7) &&& ((h.2.1 17 9) ^^^ (-1)))) from hs) rfl rfl (by decide)) (Ends.mono vc ?_)
  rintro _ h1 ⟨r2, rfl, hs_h1, vc⟩
  refine e_aload_n (show pAt 10 26 = some (26, .aload_n 0, 1, []) from by decide +kernel) rfl (ra (by decide)) ?_
  refine e_gIv (v := h1.2.1 17 9) (show pAt 10 27 = some (27, .getfield 51, 3, [1, 9, 0, 1141]) from by decide +kernel) (show HS h1 from hs_h1) rfl (by decide) rfl ?_
  refine e_iconst (c := (-1)) (show pAt 10 30 = some (30, .iconst (-1), 1, []) from by decide +kernel) (by decide) ?_
  refine e_ixor (show pAt 10 31 = some (31, .ixor, 1, []) from by decide +kernel) ?_
  refine e_iand (show pAt 10 32 = some (32, .iand, 1, []) from by decide +kernel) ?_
  refine e_pI (show pAt 10 33 = some (33, .putfield 87, 3, [1, 11, 0, 1144]) from by decide +kernel) (show HS h1 from hs_h1) (by decide) (Or.inl rfl) ?_
  refine e_aload_n (show pAt 10 36 = some (36, .aload_n 0, 1, []) from by decide +kernel) rfl (ra (by decide)) ?_
  refine Ends.call (show pAt 10 37 = some (37, .invokevirtual 90, 3, [11, 1, 0, 0, 2113, 2115, 10]) from by decide +kernel) (isRet_none rfl) rfl (call_this (show HS (hpI h1 17 11 (r2 &&& ((h1.2.1 17 9) ^^^ (-1)))) from hs_h1) rfl rfl (by decide)) (Ends.mono vc ?_)
  rintro _ h4 ⟨rfl, hs_h4, vc⟩
  refine e_aload_n (show pAt 10 40 = some (40, .aload_n 0, 1, []) from by decide +kernel) rfl (ra (by decide)) ?_
  refine Ends.call (show pAt 10 41 = some (41, .invokevirtual 93, 3, [13, 1, 0, 0, 2152, 2154, 16]) from by decide +kernel) (isRet_none rfl) rfl (call_this (show HS h4 from hs_h4) rfl rfl (by decide)) (Ends.mono vc ?_)
  rintro _ h7 ⟨rfl, hs_h7, vc⟩
  refine e_aload_n (show pAt 10 44 = some (44, .aload_n 0, 1, []) from by decide +kernel) rfl (ra (by decide)) ?_
  refine Ends.call (show pAt 10 45 = some (45, .invokevirtual 96, 3, [14, 1, 0, 0, 2175, 2177, 20]) from by decide +kernel) (isRet_none rfl) rfl (call_this (show HS h7 from hs_h7) rfl rfl (by decide)) (Ends.mono vc ?_)
  rintro _ h10 ⟨rfl, hs_h10, vc⟩
  refine e_aload_n (show pAt 10 48 = some (48, .aload_n 0, 1, []) from by decide +kernel) rfl (ra (by decide)) ?_
  refine Ends.call (show pAt 10 49 = some (49, .invokevirtual 99, 3, [20, 1, 0, 0, 2179, 2181, 21]) from by decide +kernel) (isRet_none rfl) rfl (call_this (show HS h10 from hs_h10) rfl rfl (by decide)) (Ends.mono vc ?_)
  rintro _ h13 ⟨r14, rfl, hs_h13, vc⟩
  refine e_istore_n (show pAt 10 52 = some (52, .istore_n 1, 1, []) from by decide +kernel) ⟨Nat.le_of_ble_eq_true rfl, rfl⟩ rfl ?_
  refine e_iconst (c := 0) (show pAt 10 53 = some (53, .iconst 0, 1, []) from by decide +kernel) (by decide) ?_
  refine e_istore_n (show pAt 10 54 = some (54, .istore_n 2, 1, []) from by decide +kernel) ⟨Nat.le_of_ble_eq_true rfl, rfl⟩ rfl ?_
  refine e_iconst (c := 0) (show pAt 10 55 = some (55, .iconst 0, 1, []) from by decide +kernel) (by decide) ?_
  refine e_istore_n (show pAt 10 56 = some (56, .istore_n 3, 1, []) from by decide +kernel) ⟨Nat.le_of_ble_eq_true rfl, rfl⟩ rfl ?_
  refine e_iconst (c := 0) (show pAt 10 57 = some (57, .iconst 0, 1, []) from by decide +kernel) (by decide) ?_
  refine e_istore (show pAt 10 58 = some (58, .istore 4, 2, []) from by decide +kernel) ⟨Nat.le_of_ble_eq_true rfl, rfl⟩ rfl ?_
  exact vc

theorem w_cau1 {X : Scr} {dp : Nat} {h : Hp} {Q : Option Value → Hp → Prop} (r : Int32) (b : Int32) (c : Int32) (i : Int32) (x : Value) (y : Value) (hs : HS h)
    (vc : ((condB .ge i r = true → Q (some (.int c)) h) ∧ (condB .ge i r = false → ((condB .ge i 7 = true → Q (some (.int c)) h) ∧ (condB .ge i 7 = false → (inB i 7 = true ∧ (inB (h.2.1 37 i.toNatClampNeg) 7 = true ∧ Ends X dp 18 0 [.ref 17, .int (h.2.1 35 (h.2.1 37 i.toNatClampNeg).toNatClampNeg)] [] h (fun rv h5 => ∃ r6, rv = some (.int r6) ∧ HS h5 ∧ Ends X dp 19 0 [.ref 17, .int (r6 &&& (b ^^^ (-1))), .retAddr 0, .retAddr 0] [] h5 (fun rv h8 => ∃ r9, rv = some (.int r9) ∧ HS h8 ∧ (inB (h.2.1 37 i.toNatClampNeg) 7 = true ∧ ((condB .le r9 (h8.2.1 36 (h.2.1 37 i.toNatClampNeg).toNatClampNeg) = true → Ends X (dp + 1) 10 60 [.ref 17, .int r, .int b, .int c, .int (i + 1), .int (h.2.1 37 i.toNatClampNeg), .int (r6 &&& (b ^^^ (-1)))] [] h8 Q) ∧ (condB .le r9 (h8.2.1 36 (h.2.1 37 i.toNatClampNeg).toNatClampNeg) = false → Ends X (dp + 1) 10 60 [.ref 17, .int r, .int (b ||| (r6 &&& (b ^^^ (-1)))), .int (c ||| (1 <<< ((h.2.1 37 i.toNatClampNeg) &&& 31))), .int (i + 1), .int (h.2.1 37 i.toNatClampNeg), .int (r6 &&& (b ^^^ (-1)))] [] h8 Q)))))))))))) :
    Ends X (dp + 1) 10 60 [.ref 17, .int r, .int b, .int c, .int i, x, y] [] h Q := by
  have ra : ∀ {a : Nat}, a < 1000 → a ≤ OLDB := fun h => by have := OLDB_eq; omega
  refine e_iload (show pAt 10 60 = some (60, .iload 4, 2, []) from by decide +kernel) rfl ?_
  refine e_iload_n (show pAt 10 62 = some (62, .iload_n 1, 1, []) from by decide +kernel) rfl ?_
  refine e_icmp (t := 133) (show pAt 10 63 = some (63, .if_icmp .ge 70, 3, []) from by decide +kernel) rfl (fun c1 => ?_) (fun c1 => ?_)
  · replace vc := vc.1 c1
    refine e_iload_n (show pAt 10 133 = some (133, .iload_n 3, 1, []) from by decide +kernel) rfl ?_
    exact e_retI (show pAt 10 134 = some (134, .ireturn, 1, []) from by decide +kernel) rfl vc
  · replace vc := vc.2 c1
    refine e_iload (show pAt 10 66 = some (66, .iload 4, 2, []) from by decide +kernel) rfl ?_
    refine e_bipush (c := 7) (show pAt 10 68 = some (68, .bipush 7, 2, []) from by decide +kernel) (by decide) ?_
    refine e_icmp (t := 133) (show pAt 10 70 = some (70, .if_icmp .ge 63, 3, []) from by decide +kernel) rfl (fun c2 => ?_) (fun c2 => ?_)
    · replace vc := vc.1 c2
      refine e_iload_n (show pAt 10 133 = some (133, .iload_n 3, 1, []) from by decide +kernel) rfl ?_
      exact e_retI (show pAt 10 134 = some (134, .ireturn, 1, []) from by decide +kernel) rfl vc
    · replace vc := vc.2 c2
      refine e_aload_n (show pAt 10 73 = some (73, .aload_n 0, 1, []) from by decide +kernel) rfl (ra (by decide)) ?_
      refine e_gR (show pAt 10 74 = some (74, .getfield 44, 3, [1, 8, 0, 1140]) from by decide +kernel) (show HS h from hs) rfl (by decide) (hs_ref (show HS h from hs) rfl) ?_
      refine e_iload (show pAt 10 77 = some (77, .iload 4, 2, []) from by decide +kernel) rfl ?_
      obtain ⟨c3, vc⟩ := vc
      refine e_aldv (v := h.2.1 37 i.toNatClampNeg) (show pAt 10 79 = some (79, .iaload, 1, []) from by decide +kernel) (show HS h from hs) (by decide) c3 rfl ?_
      refine e_istore (show pAt 10 80 = some (80, .istore 5, 2, []) from by decide +kernel) ⟨Nat.le_of_ble_eq_true rfl, rfl⟩ rfl ?_
      refine e_aload_n (show pAt 10 82 = some (82, .aload_n 0, 1, []) from by decide +kernel) rfl (ra (by decide)) ?_
      refine e_aload_n (show pAt 10 83 = some (83, .aload_n 0, 1, []) from by decide +kernel) rfl (ra (by decide)) ?_
      refine e_gR (show pAt 10 84 = some (84, .getfield 38, 3, [1, 6, 0, 1136]) from by decide +kernel) (show HS h from hs) rfl (by decide) (hs_ref (show HS h from hs) rfl) ?_
      refine e_iload (show pAt 10 87 = some (87, .iload 5, 2, []) from by decide +kernel) rfl ?_
      obtain ⟨c4, vc⟩ := vc
      refine e_aldv (v := h.2.1 35 (h.2.1 37 i.toNatClampNeg).toNatClampNeg) (show pAt 10 89 = some (89, .iaload, 1, []) from by decide +kernel) (show HS h from hs) (by decide) c4 rfl ?_
      refine Ends.call (show pAt 10 90 = some (90, .invokevirtual 102, 3, [18, 2, 0, 0, 2198, 2200, 25]) from by decide +kernel) (isRet_none rfl) rfl (call_this (show HS h from hs) rfl rfl (by decide)) (Ends.mono vc ?_)
      rintro _ h5 ⟨r6, rfl, hs_h5, vc⟩
      refine e_iload_n (show pAt 10 93 = some (93, .iload_n 2, 1, []) from by decide +kernel) rfl ?_
      refine e_iconst (c := (-1)) (show pAt 10 94 = some (94, .iconst (-1), 1, []) from by decide +kernel) (by decide) ?_
      refine e_ixor (show pAt 10 95 = some (95, .ixor, 1, []) from by decide +kernel) ?_
      refine e_iand (show pAt 10 96 = some (96, .iand, 1, []) from by decide +kernel) ?_
      refine e_istore (show pAt 10 97 = some (97, .istore 6, 2, []) from by decide +kernel) ⟨Nat.le_of_ble_eq_true rfl, rfl⟩ rfl ?_
      refine e_aload_n (show pAt 10 99 = some (99, .aload_n 0, 1, []) from by decide +kernel) rfl (ra (by decide)) ?_
      refine e_iload (show pAt 10 100 = some (100, .iload 6, 2, []) from by decide +kernel) rfl ?_
      refine Ends.call (show pAt 10 102 = some (102, .invokevirtual 106, 3, [19, 2, 0, 0, 2203, 2205, 26]) from by decide +kernel) (isRet_none rfl) rfl (call_this (show HS h5 from hs_h5) rfl rfl (by decide)) (Ends.mono vc ?_)
      rintro _ h8 ⟨r9, rfl, hs_h8, vc⟩
      refine e_aload_n (show pAt 10 105 = some (105, .aload_n 0, 1, []) from by decide +kernel) rfl (ra (by decide)) ?_
      refine e_gR (show pAt 10 106 = some (106, .getfield 41, 3, [1, 7, 0, 1138]) from by decide +kernel) (show HS h8 from hs_h8) rfl (by decide) (hs_ref (show HS h8 from hs_h8) rfl) ?_
      refine e_iload (show pAt 10 109 = some (109, .iload 5, 2, []) from by decide +kernel) rfl ?_
      obtain ⟨c11, vc⟩ := vc
      refine e_aldv (v := h8.2.1 36 (h.2.1 37 i.toNatClampNeg).toNatClampNeg) (show pAt 10 111 = some (111, .iaload, 1, []) from by decide +kernel) (show HS h8 from hs_h8) (by decide) c11 rfl ?_
      refine e_icmp (t := 127) (show pAt 10 112 = some (112, .if_icmp .le 15, 3, []) from by decide +kernel) rfl (fun c12 => ?_) (fun c12 => ?_)
      · replace vc := vc.1 c12
        refine e_iinc (c := 1) (show pAt 10 127 = some (127, .iinc 4 1, 3, []) from by decide +kernel) rfl rfl (by decide) rfl ?_
        refine e_goto (t := 60) (show pAt 10 130 = some (130, .goto (-70), 3, []) from by decide +kernel) rfl ?_
        exact vc
      · replace vc := vc.2 c12
        refine e_iload_n (show pAt 10 115 = some (115, .iload_n 3, 1, []) from by decide +kernel) rfl ?_
        refine e_iconst (c := 1) (show pAt 10 116 = some (116, .iconst 1, 1, []) from by decide +kernel) (by decide) ?_
        refine e_iload (show pAt 10 117 = some (117, .iload 5, 2, []) from by decide +kernel) rfl ?_
        refine e_ishl (show pAt 10 119 = some (119, .ishl, 1, []) from by decide +kernel) ?_
        refine e_ior (show pAt 10 120 = some (120, .ior, 1, []) from by decide +kernel) ?_
        refine e_istore_n (show pAt 10 121 = some (121, .istore_n 3, 1, []) from by decide +kernel) ⟨Nat.le_of_ble_eq_true rfl, rfl⟩ rfl ?_
        refine e_iload_n (show pAt 10 122 = some (122, .iload_n 2, 1, []) from by decide +kernel) rfl ?_
        refine e_iload (show pAt 10 123 = some (123, .iload 6, 2, []) from by decide +kernel) rfl ?_
        refine e_ior (show pAt 10 125 = some (125, .ior, 1, []) from by decide +kernel) ?_
        refine e_istore_n (show pAt 10 126 = some (126, .istore_n 2, 1, []) from by decide +kernel) ⟨Nat.le_of_ble_eq_true rfl, rfl⟩ rfl ?_
        refine e_iinc (c := 1) (show pAt 10 127 = some (127, .iinc 4 1, 3, []) from by decide +kernel) rfl rfl (by decide) rfl ?_
        refine e_goto (t := 60) (show pAt 10 130 = some (130, .goto (-70), 3, []) from by decide +kernel) rfl ?_
        exact vc

theorem w_goes {X : Scr} {dp : Nat} {h : Hp} {Q : Option Value → Hp → Prop}  (hs : HS h)
    (vc : Ends X dp 10 0 [.ref 17, .retAddr 0, .retAddr 0, .retAddr 0, .retAddr 0, .retAddr 0, .retAddr 0] [] h (fun rv h1 => ∃ r2, rv = some (.int r2) ∧ HS h1 ∧ Q (some (.int r2)) (hpI (hpI h1 18 7 ((h1.2.1 18 7) ||| r2)) 18 8 ((h1.2.1 18 8) + 1)))) :
    Ends X (dp + 1) 9 0 [.ref 17, .retAddr 0] [] h Q := by
  have ra : ∀ {a : Nat}, a < 1000 → a ≤ OLDB := fun h => by have := OLDB_eq; omega
  refine e_aload_n (show pAt 9 0 = some (0, .aload_n 0, 1, []) from by decide +kernel) rfl (ra (by decide)) ?_
  refine Ends.call (show pAt 9 1 = some (1, .invokevirtual 71, 3, [10, 1, 0, 0, 3176, 2103, 7]) from by decide +kernel) (isRet_none rfl) rfl (call_this (show HS h from hs) rfl rfl (by decide)) (Ends.mono vc ?_)
  rintro _ h1 ⟨r2, rfl, hs_h1, vc⟩
  refine e_istore_n (show pAt 9 4 = some (4, .istore_n 1, 1, []) from by decide +kernel) ⟨Nat.le_of_ble_eq_true rfl, rfl⟩ rfl ?_
  refine e_aload_n (show pAt 9 5 = some (5, .aload_n 0, 1, []) from by decide +kernel) rfl (ra (by decide)) ?_
  refine e_gR (show pAt 9 6 = some (6, .getfield 12, 3, [1, 0, 0, 1127]) from by decide +kernel) (show HS h1 from hs_h1) rfl (by decide) (hs_ref (show HS h1 from hs_h1) rfl) ?_
  refine e_dupR (show pAt 9 9 = some (9, .dup, 1, []) from by decide +kernel) ?_
  refine e_gIv (v := h1.2.1 18 7) (show pAt 9 10 = some (10, .getfield 75, 3, [2, 7, 1, 1053]) from by decide +kernel) (show HS h1 from hs_h1) rfl (by decide) rfl ?_
  refine e_iload_n (show pAt 9 13 = some (13, .iload_n 1, 1, []) from by decide +kernel) rfl ?_
  refine e_ior (show pAt 9 14 = some (14, .ior, 1, []) from by decide +kernel) ?_
  refine e_pI (show pAt 9 15 = some (15, .putfield 75, 3, [2, 7, 1, 1053]) from by decide +kernel) (show HS h1 from hs_h1) (by decide) (Or.inl rfl) ?_
  refine e_aload_n (show pAt 9 18 = some (18, .aload_n 0, 1, []) from by decide +kernel) rfl (ra (by decide)) ?_
  refine e_gR (show pAt 9 19 = some (19, .getfield 12, 3, [1, 0, 0, 1127]) from by decide +kernel) (show HS (hpI h1 18 7 ((h1.2.1 18 7) ||| r2)) from hs_h1) rfl (by decide) (hs_ref (show HS (hpI h1 18 7 ((h1.2.1 18 7) ||| r2)) from hs_h1) rfl) ?_
  refine e_dupR (show pAt 9 22 = some (22, .dup, 1, []) from by decide +kernel) ?_
  refine e_gIv (v := h1.2.1 18 8) (show pAt 9 23 = some (23, .getfield 78, 3, [2, 8, 1, 1055]) from by decide +kernel) (show HS (hpI h1 18 7 ((h1.2.1 18 7) ||| r2)) from hs_h1) rfl (by decide) rfl ?_
  refine e_iconst (c := 1) (show pAt 9 26 = some (26, .iconst 1, 1, []) from by decide +kernel) (by decide) ?_
  refine e_iadd (show pAt 9 27 = some (27, .iadd, 1, []) from by decide +kernel) ?_
  refine e_pI (show pAt 9 28 = some (28, .putfield 78, 3, [2, 8, 1, 1055]) from by decide +kernel) (show HS (hpI h1 18 7 ((h1.2.1 18 7) ||| r2)) from hs_h1) (by decide) (Or.inl rfl) ?_
  refine e_iload_n (show pAt 9 31 = some (31, .iload_n 1, 1, []) from by decide +kernel) rfl ?_
  exact e_retI (show pAt 9 32 = some (32, .ireturn, 1, []) from by decide +kernel) rfl vc

theorem w_snd {X : Scr} {dp : Nat} {h : Hp} {Q : Option Value → Hp → Prop} (p : Int32) (l : Int32) (hs : HS h)
    (vc : Q none (hpI (hpI h 17 13 p) 17 14 l)) :
    Ends X dp 7 0 [.ref 17, .int p, .int l] [] h Q := by
  have ra : ∀ {a : Nat}, a < 1000 → a ≤ OLDB := fun h => by have := OLDB_eq; omega
  refine e_aload_n (show pAt 7 0 = some (0, .aload_n 0, 1, []) from by decide +kernel) rfl (ra (by decide)) ?_
  refine e_iload_n (show pAt 7 1 = some (1, .iload_n 1, 1, []) from by decide +kernel) rfl ?_
  refine e_pI (show pAt 7 2 = some (2, .putfield 59, 3, [1, 13, 0, 1147]) from by decide +kernel) (show HS h from hs) (by decide) (Or.inl rfl) ?_
  refine e_aload_n (show pAt 7 5 = some (5, .aload_n 0, 1, []) from by decide +kernel) rfl (ra (by decide)) ?_
  refine e_iload_n (show pAt 7 6 = some (6, .iload_n 2, 1, []) from by decide +kernel) rfl ?_
  refine e_pI (show pAt 7 7 = some (7, .putfield 65, 3, [1, 14, 0, 1148]) from by decide +kernel) (show HS (hpI h 17 13 p) from hs) (by decide) (Or.inl rfl) ?_
  exact e_retV (show pAt 7 10 = some (10, .return_, 1, []) from by decide +kernel) rfl vc

theorem w_puts {X : Scr} {dp : Nat} {h : Hp} {Q : Option Value → Hp → Prop} (p : Int32) (w : Int32) (hs : HS h)
    (vc : Q none (hpI (hpI h 17 15 p) 17 16 w)) :
    Ends X dp 8 0 [.ref 17, .int p, .int w] [] h Q := by
  have ra : ∀ {a : Nat}, a < 1000 → a ≤ OLDB := fun h => by have := OLDB_eq; omega
  refine e_aload_n (show pAt 8 0 = some (0, .aload_n 0, 1, []) from by decide +kernel) rfl (ra (by decide)) ?_
  refine e_iload_n (show pAt 8 1 = some (1, .iload_n 1, 1, []) from by decide +kernel) rfl ?_
  refine e_pI (show pAt 8 2 = some (2, .putfield 62, 3, [1, 15, 0, 1149]) from by decide +kernel) (show HS h from hs) (by decide) (Or.inl rfl) ?_
  refine e_aload_n (show pAt 8 5 = some (5, .aload_n 0, 1, []) from by decide +kernel) rfl (ra (by decide)) ?_
  refine e_iload_n (show pAt 8 6 = some (6, .iload_n 2, 1, []) from by decide +kernel) rfl ?_
  refine e_pI (show pAt 8 7 = some (7, .putfield 68, 3, [1, 16, 0, 1150]) from by decide +kernel) (show HS (hpI h 17 15 p) from hs) (by decide) (Or.inl rfl) ?_
  exact e_retV (show pAt 8 10 = some (10, .return_, 1, []) from by decide +kernel) rfl vc
end JN99tx0dwalks
section JN99tx1bits
/-! Sets of people as bits. -/
theorem bit_t : ∀ n, n < 128 → ∀ p, p < 7 → decide (((Int32.ofNat n >>> (Int32.ofNat p &&& 31)) &&& 1).toInt = 1) = n.testBit p := by decide +kernel
theorem bor_t : ∀ n, n < 128 → ∀ m, m < 128 → Int32.ofNat n ||| Int32.ofNat m = Int32.ofNat (n ||| m) := by decide +kernel
theorem ban_t : ∀ n, n < 128 → ∀ m, m < 128 → Int32.ofNat n &&& (Int32.ofNat m ^^^ (-1)) = Int32.ofNat (n &&& (127 ^^^ m)) := by decide +kernel
theorem shl_t : ∀ p, p < 7 → ((1 : Int32) <<< (Int32.ofNat p &&& 31)) = Int32.ofNat (2 ^ p) := by decide +kernel
theorem evy_t : ∀ n, n < 8 → ((1 : Int32) <<< (Int32.ofNat n &&& 31)) - 1 = Int32.ofNat (2 ^ n - 1) := by decide +kernel
theorem b127 : ∀ p, p < 7 → Nat.testBit 127 p = true := by decide
theorem bpow : ∀ p, p < 7 → ∀ q, q < 7 → Nat.testBit (2 ^ p) q = decide (q = p) := by decide
theorem bevy : ∀ n, n < 8 → ∀ q, q < 7 → Nat.testBit (2 ^ n - 1) q = decide (q < n) := by decide
/-- r is the set f of people -/
def BSET (r : Int32) (f : Nat → Bool) : Prop := ∃ n, n < 128 ∧ r = Int32.ofNat n ∧ ∀ p, p < 7 → n.testBit p = f p
theorem BSET.cg {r : Int32} {f g : Nat → Bool} (h : BSET r f) (e : ∀ p, p < 7 → f p = g p) : BSET r g := by
  obtain ⟨n, hn, rfl, hf⟩ := h
  exact ⟨n, hn, rfl, fun p hp => (hf p hp).trans (e p hp)⟩
theorem BSET.or {a b : Int32} {f g : Nat → Bool} (ha : BSET a f) (hb : BSET b g) : BSET (a ||| b) (fun p => f p || g p) := by
  obtain ⟨n, hn, rfl, hf⟩ := ha
  obtain ⟨m, hm, rfl, hg⟩ := hb
  exact ⟨n ||| m, Nat.or_lt_two_pow (n := 7) hn hm, bor_t n hn m hm, fun p hp => by rw [Nat.testBit_or, hf p hp, hg p hp]⟩
theorem BSET.no {a b : Int32} {f g : Nat → Bool} (ha : BSET a f) (hb : BSET b g) : BSET (a &&& (b ^^^ (-1))) (fun p => f p && !g p) := by
  obtain ⟨n, hn, rfl, hf⟩ := ha
  obtain ⟨m, hm, rfl, hg⟩ := hb
  refine ⟨n &&& (127 ^^^ m), Nat.and_lt_two_pow (n := 7) _ (Nat.xor_lt_two_pow (n := 7) (by decide) hm), ban_t n hn m hm, fun p hp => ?_⟩
  rw [Nat.testBit_and, Nat.testBit_xor, hf p hp, hg p hp, b127 p hp, Bool.true_xor]
theorem BSET.one {p : Int32} {pn : Nat} (hp : p.toInt = pn) (h7 : pn < 7) : BSET (1 <<< (p &&& 31)) (fun q => decide (q = pn)) := by
  have e := ofn hp
  subst e
  exact ⟨2 ^ pn, Nat.pow_lt_pow_right (by decide) h7, shl_t pn h7, fun q hq => bpow pn h7 q hq⟩
theorem BSET.zero : BSET 0 (fun _ => false) := ⟨0, by decide, rfl, fun p _ => Nat.zero_testBit p⟩
theorem BSET.every {n : Int32} {N : Nat} (hn : n.toInt = N) (h7 : N ≤ 7) : BSET ((1 <<< (n &&& 31)) - 1) (fun p => decide (p < N)) := by
  have e := ofn hn
  subst e
  refine ⟨2 ^ N - 1, ?_, evy_t N (by omega), fun q hq => bevy N (by omega) q hq⟩
  have : 2 ^ N ≤ 2 ^ 7 := Nat.pow_le_pow_right (by decide) h7
  omega
theorem BSET.inj {a b : Int32} {f : Nat → Bool} (ha : BSET a f) (hb : BSET b f) : a = b := by
  obtain ⟨n, hn, rfl, hf⟩ := ha
  obtain ⟨m, hm, rfl, hg⟩ := hb
  have e : n = m := by
    apply Nat.eq_of_testBit_eq
    intro i
    by_cases c : i < 7
    · rw [hf i c, hg i c]
    · have h2 : 2 ^ 7 ≤ 2 ^ i := Nat.pow_le_pow_right (by decide) (by omega)
      rw [Nat.testBit_lt_two_pow (by omega), Nat.testBit_lt_two_pow (by omega)]
  rw [e]
theorem BSET.bit {b p : Int32} {f : Nat → Bool} {pn : Nat} (hb : BSET b f) (hp : p.toInt = pn) (h7 : pn < 7) : decide (((b >>> (p &&& 31)) &&& 1).toInt = 1) = f pn := by
  have e := ofn hp
  subst e
  obtain ⟨n, hn, rfl, hf⟩ := hb
  rw [bit_t n hn pn h7, hf pn h7]
theorem BSET.rng {b : Int32} {f : Nat → Bool} (hb : BSET b f) : 0 ≤ b.toInt ∧ b.toInt < 128 := by
  obtain ⟨n, hn, rfl, hf⟩ := hb
  rw [Int32.toInt_ofNat_of_lt (by omega)]
  omega
/-- how many are in it -/
def pop (f : Nat → Bool) : Nat := (f 0).toNat + (f 1).toNat + (f 2).toNat + (f 3).toNat + (f 4).toNat + (f 5).toNat + (f 6).toNat
theorem pop_le (f : Nat → Bool) : pop f ≤ 7 := by
  have h : ∀ b : Bool, b.toNat ≤ 1 := by decide
  have := h (f 0); have := h (f 1); have := h (f 2); have := h (f 3); have := h (f 4); have := h (f 5); have := h (f 6)
  unfold pop
  omega
theorem pop_cg {f g : Nat → Bool} (e : ∀ p, p < 7 → f p = g p) : pop f = pop g := by
  unfold pop
  rw [e 0 (by decide), e 1 (by decide), e 2 (by decide), e 3 (by decide), e 4 (by decide), e 5 (by decide), e 6 (by decide)]
theorem bct_t : ∀ n, n < 128 → bctE (Int32.ofNat n) = Int32.ofNat (pop n.testBit) := by decide +kernel
section BITS
variable {X : Scr} {dp : Nat} {h : Hp} {Q : Option Value → Hp → Prop}
theorem isin_ok {b p : Int32} {f : Nat → Bool} {pn : Nat} (hb : BSET b f) (hp : p.toInt = pn) (h7 : pn < 7) (hs : HS h) (hQ : Q (some (.int (b2i (f pn)))) h) : Ends X dp 104 0 [.int b, .int p] [] h Q := by
  have t := hb.bit hp h7
  rw [← t] at hQ
  refine w_isin b p hs ⟨fun e => ?_, fun e => ?_⟩
  · have e : ¬ ((b >>> (p &&& 31)) &&& 1).toInt = 1 := of_decide_eq_true (cI e)
    rw [decide_eq_false e] at hQ
    exact hQ
  · have e : ¬ ¬ ((b >>> (p &&& 31)) &&& 1).toInt = 1 := of_decide_eq_false (cI e)
    rw [decide_eq_true (Decidable.not_not.mp e)] at hQ
    exact hQ
theorem bct_ok {b : Int32} {f : Nat → Bool} (hb : BSET b f) (hs : HS h) (hQ : ∀ r : Int32, r.toInt = (pop f : Int) → Q (some (.int r)) h) : Ends X dp 204 0 [.int b] [] h Q := by
  obtain ⟨n, hn, rfl, hf⟩ := hb
  refine w_bct _ hs ?_
  rw [bct_t n hn, pop_cg hf]
  have := pop_le f
  exact hQ _ (Int32.toInt_ofNat_of_lt (by omega))
theorem abs_ok {a : Int32} (hs : HS h) (ha : -1000000 ≤ a.toInt) (hQ : ∀ r : Int32, r.toInt = (if 0 ≤ a.toInt then a.toInt else -a.toInt) → Q (some (.int r)) h) : Ends X dp 206 0 [.int a] [] h Q := by
  have hr := i32r a
  simp only [fI] at hr
  have z0 : (0 : Int32).toInt = 0 := rfl
  refine w_abs a hs ⟨fun e => ?_, fun e => ?_⟩
  · have e : (0 : Int32).toInt ≤ a.toInt := of_decide_eq_true (cI e)
    exact hQ a (by rw [if_pos (by omega)])
  · have e : ¬ (0 : Int32).toInt ≤ a.toInt := of_decide_eq_false (cI e)
    refine hQ (-a) ?_
    rw [if_neg (by omega), i_neg (by omega)]
end BITS
end JN99tx1bits
