/-! A few more instructions: constant texts, the yard that is read into. -/
section WALK3
variable {X : Scr} {dp y pc p0 len t : Nat} {o : List Nat} {L st : List Value} {h : Hp} {Q : Option Value → Hp → Prop}
theorem e_ldcS {j z idx : Nat} (he : pAt y pc = some (p0, .ldc idx, len, [1, j, z])) (hj : j < 5) (e : Ends X dp y (pc + 2) L (.ref (OLDB + 3 + j) :: st) h Q) : Ends X dp y pc L st h Q := by
  refine e_pure he rfl rfl ?_ e
  show (if j < 5 then some (pc + 2, L, Value.ref (OLDB + 3 + j) :: st) else none).map _ = _
  rw [if_pos hj]
  rfl
theorem e_aload_nS {k : Fin 4} {a : Nat} (he : pAt y pc = some (p0, .aload_n k, len, o)) (hL : L[(k : Nat)]? = some (.ref a)) (ha : ¬ a = OLDB + 13) (e : Ends X dp y (pc + 1) L (.ref a :: st) h Q) : Ends X dp y pc L st h Q := by
  refine e_pure he rfl rfl ?_ e
  show (match L[(k : Nat)]? with | some (.ref x) => if x = OLDB + 13 then none else some (pc + 1, L, Value.ref x :: st) | _ => none).map _ = _
  rw [hL]
  simp only
  rw [if_neg ha]
  rfl
theorem e_gs3 {idx z w : Nat} (he : pAt y pc = some (p0, .getstatic idx, len, [2, z, w])) (e : Ends X dp y (pc + 3) L (.int 1 :: st) h Q) : Ends X dp y pc L st h Q := e_pure he rfl rfl rfl e
theorem e_gs4 {idx z w : Nat} (he : pAt y pc = some (p0, .getstatic idx, len, [3, z, w])) (e : Ends X dp y (pc + 3) L (.ref (OLDB + 13) :: st) h Q) : Ends X dp y pc L st h Q := e_pure he rfl rfl rfl e
theorem e_i2c {a : Int32} (he : pAt y pc = some (p0, .i2c, len, o)) (e : Ends X dp y (pc + 1) L (.int (a.toUInt32 % 65536).toInt32 :: st) h Q) : Ends X dp y pc L (.int a :: st) h Q := e_pure he rfl rfl rfl e
theorem e_gSa {idx z w a : Nat} (he : pAt y pc = some (p0, .getfield idx, len, [9, 0, z, w])) (h1 : OLDB + 3 ≤ a) (h2 : a < OLDB + 8) (e : Ends X dp y (pc + 3) L (.ref (a + 5) :: st) h Q) : Ends X dp y pc L (.ref a :: st) h Q := by
  refine e_pure he rfl rfl ?_ e
  show ((if OLDB + 3 ≤ a ∧ a < OLDB + 8 then some (Value.ref (a + 5) :: st) else none).map (fun st' => (pc + 3, L, st', h))) = _
  rw [if_pos ⟨h1, h2⟩]
  rfl
theorem e_gSb {idx z w a : Nat} (he : pAt y pc = some (p0, .getfield idx, len, [9, 1, z, w])) (h1 : OLDB + 3 ≤ a) (h2 : a < OLDB + 8) (e : Ends X dp y (pc + 3) L (.int 0 :: st) h Q) : Ends X dp y pc L (.ref a :: st) h Q := by
  refine e_pure he rfl rfl ?_ e
  show ((if OLDB + 3 ≤ a ∧ a < OLDB + 8 then some (Value.int 0 :: st) else none).map (fun st' => (pc + 3, L, st', h))) = _
  rw [if_pos ⟨h1, h2⟩]
  rfl
theorem e_gS0 {idx z w s : Nat} (he : pAt y pc = some (p0, .getfield idx, len, [9, 0, z, w])) (hs5 : s < 5) (e : Ends X dp y (pc + 3) L (.ref (OLDB + 8 + s) :: st) h Q) : Ends X dp y pc L (.ref (OLDB + 3 + s) :: st) h Q := by
  refine e_gSa he (by omega) (by omega) ?_
  rw [show OLDB + 3 + s + 5 = OLDB + 8 + s by omega]
  exact e
theorem e_gS1 {idx z w s : Nat} (he : pAt y pc = some (p0, .getfield idx, len, [9, 1, z, w])) (hs5 : s < 5) (e : Ends X dp y (pc + 3) L (.int 0 :: st) h Q) : Ends X dp y pc L (.ref (OLDB + 3 + s) :: st) h Q := e_gSb he (by omega) (by omega) e
theorem old_s {s : Nat} (hs5 : s < 5) : oldArr X (8 + s) = some (5, strL.getD s 0, fun i => (strB.getD s []).getD i 0) := by
  unfold oldArr
  rw [if_neg (by omega), if_neg (by omega), if_neg (by omega), if_pos (by omega), show 8 + s - 8 = s by omega]
theorem e_alen0 (he : pAt y pc = some (p0, .arraylength, len, o)) (e : Ends X dp y (pc + 1) L (.int (Int32.ofNat (strL.getD 0 0)) :: st) h Q) : Ends X dp y pc L (.ref (OLDB + 8 + 0) :: st) h Q := by
  refine e_pure he rfl rfl ?_ e
  simp only [hstep]
  have h7 : oldArr X 8 = some (5, strL.getD 0 0, fun i => (strB.getD 0 []).getD i 0) := rfl
  have hn : ¬ OLDB + 8 + 0 < OLDB := by omega
  rw [if_neg hn, show OLDB + 8 + 0 - OLDB = 8 by omega, h7]
theorem e_bald0 {j : Int32} (he : pAt y pc = some (p0, .baload, len, o)) (hj : inB j (strL.getD 0 0) = true) (e : Ends X dp y (pc + 1) L (.int ((strB.getD 0 []).getD j.toNatClampNeg 0) :: st) h Q) : Ends X dp y pc L (.int j :: .ref (OLDB + 8 + 0) :: st) h Q := by
  refine e_pure he rfl rfl ?_ e
  simp only [hstep]
  have h7 : oldArr X 8 = some (5, strL.getD 0 0, fun i => (strB.getD 0 []).getD i 0) := rfl
  have hn : ¬ OLDB + 8 + 0 < OLDB := by omega
  rw [if_neg hn, show OLDB + 8 + 0 - OLDB = 8 by omega, h7]
  simp only
  rw [if_pos hj]
theorem e_alen1 (he : pAt y pc = some (p0, .arraylength, len, o)) (e : Ends X dp y (pc + 1) L (.int (Int32.ofNat (strL.getD 1 0)) :: st) h Q) : Ends X dp y pc L (.ref (OLDB + 8 + 1) :: st) h Q := by
  refine e_pure he rfl rfl ?_ e
  simp only [hstep]
  have h7 : oldArr X 9 = some (5, strL.getD 1 0, fun i => (strB.getD 1 []).getD i 0) := rfl
  have hn : ¬ OLDB + 8 + 1 < OLDB := by omega
  rw [if_neg hn, show OLDB + 8 + 1 - OLDB = 9 by omega, h7]
theorem e_bald1 {j : Int32} (he : pAt y pc = some (p0, .baload, len, o)) (hj : inB j (strL.getD 1 0) = true) (e : Ends X dp y (pc + 1) L (.int ((strB.getD 1 []).getD j.toNatClampNeg 0) :: st) h Q) : Ends X dp y pc L (.int j :: .ref (OLDB + 8 + 1) :: st) h Q := by
  refine e_pure he rfl rfl ?_ e
  simp only [hstep]
  have h7 : oldArr X 9 = some (5, strL.getD 1 0, fun i => (strB.getD 1 []).getD i 0) := rfl
  have hn : ¬ OLDB + 8 + 1 < OLDB := by omega
  rw [if_neg hn, show OLDB + 8 + 1 - OLDB = 9 by omega, h7]
  simp only
  rw [if_pos hj]
theorem e_alen2 (he : pAt y pc = some (p0, .arraylength, len, o)) (e : Ends X dp y (pc + 1) L (.int (Int32.ofNat (strL.getD 2 0)) :: st) h Q) : Ends X dp y pc L (.ref (OLDB + 8 + 2) :: st) h Q := by
  refine e_pure he rfl rfl ?_ e
  simp only [hstep]
  have h7 : oldArr X 10 = some (5, strL.getD 2 0, fun i => (strB.getD 2 []).getD i 0) := rfl
  have hn : ¬ OLDB + 8 + 2 < OLDB := by omega
  rw [if_neg hn, show OLDB + 8 + 2 - OLDB = 10 by omega, h7]
theorem e_bald2 {j : Int32} (he : pAt y pc = some (p0, .baload, len, o)) (hj : inB j (strL.getD 2 0) = true) (e : Ends X dp y (pc + 1) L (.int ((strB.getD 2 []).getD j.toNatClampNeg 0) :: st) h Q) : Ends X dp y pc L (.int j :: .ref (OLDB + 8 + 2) :: st) h Q := by
  refine e_pure he rfl rfl ?_ e
  simp only [hstep]
  have h7 : oldArr X 10 = some (5, strL.getD 2 0, fun i => (strB.getD 2 []).getD i 0) := rfl
  have hn : ¬ OLDB + 8 + 2 < OLDB := by omega
  rw [if_neg hn, show OLDB + 8 + 2 - OLDB = 10 by omega, h7]
  simp only
  rw [if_pos hj]
theorem e_alen3 (he : pAt y pc = some (p0, .arraylength, len, o)) (e : Ends X dp y (pc + 1) L (.int (Int32.ofNat (strL.getD 3 0)) :: st) h Q) : Ends X dp y pc L (.ref (OLDB + 8 + 3) :: st) h Q := by
  refine e_pure he rfl rfl ?_ e
  simp only [hstep]
  have h7 : oldArr X 11 = some (5, strL.getD 3 0, fun i => (strB.getD 3 []).getD i 0) := rfl
  have hn : ¬ OLDB + 8 + 3 < OLDB := by omega
  rw [if_neg hn, show OLDB + 8 + 3 - OLDB = 11 by omega, h7]
theorem e_bald3 {j : Int32} (he : pAt y pc = some (p0, .baload, len, o)) (hj : inB j (strL.getD 3 0) = true) (e : Ends X dp y (pc + 1) L (.int ((strB.getD 3 []).getD j.toNatClampNeg 0) :: st) h Q) : Ends X dp y pc L (.int j :: .ref (OLDB + 8 + 3) :: st) h Q := by
  refine e_pure he rfl rfl ?_ e
  simp only [hstep]
  have h7 : oldArr X 11 = some (5, strL.getD 3 0, fun i => (strB.getD 3 []).getD i 0) := rfl
  have hn : ¬ OLDB + 8 + 3 < OLDB := by omega
  rw [if_neg hn, show OLDB + 8 + 3 - OLDB = 11 by omega, h7]
  simp only
  rw [if_pos hj]
theorem e_alen4 (he : pAt y pc = some (p0, .arraylength, len, o)) (e : Ends X dp y (pc + 1) L (.int (Int32.ofNat (strL.getD 4 0)) :: st) h Q) : Ends X dp y pc L (.ref (OLDB + 8 + 4) :: st) h Q := by
  refine e_pure he rfl rfl ?_ e
  simp only [hstep]
  have h7 : oldArr X 12 = some (5, strL.getD 4 0, fun i => (strB.getD 4 []).getD i 0) := rfl
  have hn : ¬ OLDB + 8 + 4 < OLDB := by omega
  rw [if_neg hn, show OLDB + 8 + 4 - OLDB = 12 by omega, h7]
theorem e_bald4 {j : Int32} (he : pAt y pc = some (p0, .baload, len, o)) (hj : inB j (strL.getD 4 0) = true) (e : Ends X dp y (pc + 1) L (.int ((strB.getD 4 []).getD j.toNatClampNeg 0) :: st) h Q) : Ends X dp y pc L (.int j :: .ref (OLDB + 8 + 4) :: st) h Q := by
  refine e_pure he rfl rfl ?_ e
  simp only [hstep]
  have h7 : oldArr X 12 = some (5, strL.getD 4 0, fun i => (strB.getD 4 []).getD i 0) := rfl
  have hn : ¬ OLDB + 8 + 4 < OLDB := by omega
  rw [if_neg hn, show OLDB + 8 + 4 - OLDB = 12 by omega, h7]
  simp only
  rw [if_pos hj]
theorem e_alenS {s : Nat} (he : pAt y pc = some (p0, .arraylength, len, o)) (hs5 : s < 5) (e : Ends X dp y (pc + 1) L (.int (Int32.ofNat (strL.getD s 0)) :: st) h Q) : Ends X dp y pc L (.ref (OLDB + 8 + s) :: st) h Q := by
  match s, hs5, e with
  | 0, _, e => exact e_alen0 he e
  | 1, _, e => exact e_alen1 he e
  | 2, _, e => exact e_alen2 he e
  | 3, _, e => exact e_alen3 he e
  | 4, _, e => exact e_alen4 he e
  | s + 5, h, _ => omega
theorem e_baldS {s : Nat} {j : Int32} (he : pAt y pc = some (p0, .baload, len, o)) (hs5 : s < 5) (hj : inB j (strL.getD s 0) = true) (e : Ends X dp y (pc + 1) L (.int ((strB.getD s []).getD j.toNatClampNeg 0) :: st) h Q) : Ends X dp y pc L (.int j :: .ref (OLDB + 8 + s) :: st) h Q := by
  match s, hs5, hj, e with
  | 0, _, hj, e => exact e_bald0 he hj e
  | 1, _, hj, e => exact e_bald1 he hj e
  | 2, _, hj, e => exact e_bald2 he hj e
  | 3, _, hj, e => exact e_bald3 he hj e
  | 4, _, hj, e => exact e_bald4 he hj e
  | s + 5, h, _, _ => omega
theorem call_str {c na s : Nat} {st : List Value} {h : Hp} (hst : (st.take na).reverse.head? = some (.ref (OLDB + 3 + s))) (hb : (decide (na ≤ st.length) && decide (catSum (st.drop na) ≤ 8) && (st.take na).all argOK && decide ((entL0 (st.take na).reverse).length ≤ mMaxL c)) = true) (hc : decide (mCi c = 9) = true) (hs5 : s < 5) : callOK c na 0 st h = true := by
  unfold callOK
  rw [hb]
  simp only [Bool.true_and]
  rw [if_neg (by decide)]
  match hl : (st.take na).reverse, hst with
  | v :: l, hst =>
    cases hst
    simp only
    rw [if_pos trivial]
    unfold recvOK
    have hn : ¬ OLDB + 3 + s < OLDB := by omega
    simp only
    rw [if_neg hn, hc, decide_eq_true (by omega : OLDB + 3 ≤ OLDB + 3 + s), decide_eq_true (by omega : OLDB + 3 + s < OLDB + 8)]
    rfl
end WALK3
/-- the six yards of the class -/
def YQ (q : Nat) : Prop := q ∈ [63, 68, 73, 78, 83, 88]
theorem yq {P : Nat → Bool} {q : Nat} (h : YQ q) (hp : [63, 68, 73, 78, 83, 88].all P = true) : P q = true := List.all_eq_true.mp hp q h
theorem yq_rng {q : Nat} (h : YQ q) : 63 ≤ q ∧ q ≤ 88 := by
  have := yq (P := fun q => decide (63 ≤ q) && decide (q ≤ 88)) h (by decide)
  simpa using this
/-- the yard that is read into -/
def hpQ (h : Hp) (q : Nat) : Hp := (h.1, h.2.1, h.2.2.1, ud h.2.2.2 44 3 (some q))
theorem yq_rst {q : Nat} (h : YQ q) : q ∈ rst 44 3 := of_decide_eq_true (yq (P := fun q => decide (q ∈ rst 44 3)) h (by decide +kernel))
theorem ref_Q {h : Hp} {q : Nat} (hY : YQ q) (hr : ∀ a k, rst a k ≠ [] → ∃ b ∈ rst a k, h.2.2.2 a k = some b) : ∀ a k, rst a k ≠ [] → ∃ b ∈ rst a k, (hpQ h q).2.2.2 a k = some b := by
  intro a k hn
  show ∃ b ∈ rst a k, ud h.2.2.2 44 3 (some q) a k = some b
  by_cases c : a = 44 ∧ k = 3
  · obtain ⟨rfl, rfl⟩ := c
    exact ⟨q, yq_rst hY, by unfold ud; simp⟩
  · obtain ⟨b, hb, e⟩ := hr a k hn
    refine ⟨b, hb, ?_⟩
    rw [← e]
    unfold ud
    by_cases d : a = 44
    · subst d
      have : ¬ k = 3 := fun q => c ⟨rfl, q⟩
      simp [this]
    · simp [d]
theorem hs_Q {h : Hp} {q : Nat} (hY : YQ q) (hs : HS h) : HS (hpQ h q) := ⟨hs.1, ref_Q hY hs.2⟩
theorem HI_Q {h : Hp} {q : Nat} (hY : YQ q) (hh : HI h) : HI (hpQ h q) := ⟨hh.1, hh.2.1, ref_Q hY hh.2.2⟩
theorem hpQ_at {h : Hp} {q : Nat} : (hpQ h q).2.2.2 44 3 = some q := by
  show ud h.2.2.2 44 3 (some q) 44 3 = _
  unfold ud
  simp
theorem e_pQ {X : Scr} {dp y pc p0 len q idx z w : Nat} {L st : List Value} {h : Hp} {Q : Option Value → Hp → Prop} (he : pAt y pc = some (p0, .putfield idx, len, [4, 3, z, w])) (hs : HS h) (hY : YQ q) (e : Ends X dp y (pc + 3) L st (hpQ h q) Q) : Ends X dp y pc L (.ref q :: .ref 44 :: st) h Q := by
  refine Ends.step he (isRet_none rfl) rfl (pc' := pc + 3) (L' := L) (st' := st) (h' := hpQ h q) ?_ e
  have hB := OLDB_eq
  have hr := yq_rng hY
  have h6 : 44 < OLDB ∧ h.1[44]? = some (.inr 4) ∧ 3 < vwN 4 := ⟨by omega, by rw [hs.1]; decide +kernel, by decide +kernel⟩
  have h7 : isRefTy (vwTy 4 3) = true ∧ q < OLDB := ⟨by decide +kernel, by omega⟩
  show (putF [4, 3, z, w] (.ref q :: .ref 44 :: st) h).map (fun q => (pc + 3, L, q.1, q.2)) = _
  unfold putF
  simp only
  rw [if_pos h6, if_pos h7]
  rfl
theorem e_retN {X : Scr} {dp y pc p0 len : Nat} {o : List Nat} {L : List Value} {h : Hp} {Q : Option Value → Hp → Prop} {x : Int32} {ty : FieldType} (he : pAt y pc = some (p0, .ireturn, len, o)) (hr : mRet y = some ty) (hi : isRefTy ty = false) (hn : narrow ty (.int x) = .int x) (hq : Q (some (.int x)) h) : Ends X dp y pc L [.int x] h Q := by
  refine Ends.ret he ?_ hq
  show some (retI y [.int x] h) = _
  unfold retI
  rw [hr]
  simp only
  rw [if_pos ⟨hi, hn⟩]
