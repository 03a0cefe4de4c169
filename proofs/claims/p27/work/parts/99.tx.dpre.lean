/-! A few more instructions, and the yards of the class with the bare one. -/
section WALK4
variable {X : Scr} {dp y pc p0 len t : Nat} {o : List Nat} {L st : List Value} {h : Hp} {Q : Option Value → Hp → Prop}
theorem e_iushr {a b : Int32} (he : pAt y pc = some (p0, .iushr, len, o)) (e : Ends X dp y (pc + 1) L (.int (a.toUInt32 >>> (b.toUInt32 &&& Int32.toUInt32 31)).toInt32 :: st) h Q) : Ends X dp y pc L (.int b :: .int a :: st) h Q := e_pure he rfl rfl rfl e
theorem e_lxor {a b : Int64} (he : pAt y pc = some (p0, .lxor, len, o)) (e : Ends X dp y (pc + 1) L (.long (a ^^^ b) :: st) h Q) : Ends X dp y pc L (.long b :: .long a :: st) h Q := e_pure he rfl rfl rfl e
theorem e_lsub {a b : Int64} (he : pAt y pc = some (p0, .lsub, len, o)) (e : Ends X dp y (pc + 1) L (.long (a - b) :: st) h Q) : Ends X dp y pc L (.long b :: .long a :: st) h Q := e_pure he rfl rfl rfl e
theorem e_lshr {a : Int64} {b : Int32} (he : pAt y pc = some (p0, .lshr, len, o)) (e : Ends X dp y (pc + 1) L (.long (a >>> (b.toInt64 &&& 63)) :: st) h Q) : Ends X dp y pc L (.int b :: .long a :: st) h Q := e_pure he rfl rfl rfl e
theorem e_ldcw {idx v z : Nat} {c : Int32} (he : pAt y pc = some (p0, .ldc_w idx, len, [0, v, z])) (hk : Int32.ofNat v = c) (e : Ends X dp y (pc + 3) L (.int c :: st) h Q) : Ends X dp y pc L st h Q := by
  subst hk
  exact e_pure he rfl rfl rfl e
end WALK4
/-- the yards of the class, the bare one too -/
def YB (q : Nat) : Prop := q ∈ [39, 63, 68, 73, 78, 83, 88]
theorem yb {P : Nat → Bool} {q : Nat} (h : YB q) (hp : [39, 63, 68, 73, 78, 83, 88].all P = true) : P q = true := List.all_eq_true.mp hp q h
theorem yb_rng {q : Nat} (h : YB q) : 39 ≤ q ∧ q ≤ 88 := by
  have := yb (P := fun q => decide (39 ≤ q) && decide (q ≤ 88)) h (by decide)
  simpa using this
/-- the yard that is asked -/
def hpY (h : Hp) (q : Nat) : Hp := (h.1, h.2.1, h.2.2.1, ud h.2.2.2 17 1 (some q))
theorem yb_rst {q : Nat} (h : YB q) : q ∈ rst 17 1 := of_decide_eq_true (yb (P := fun q => decide (q ∈ rst 17 1)) h (by decide +kernel))
theorem ref_Y {h : Hp} {q : Nat} (hY : YB q) (hr : ∀ a k, rst a k ≠ [] → ∃ b ∈ rst a k, h.2.2.2 a k = some b) : ∀ a k, rst a k ≠ [] → ∃ b ∈ rst a k, (hpY h q).2.2.2 a k = some b := by
  intro a k hn
  show ∃ b ∈ rst a k, ud h.2.2.2 17 1 (some q) a k = some b
  by_cases c : a = 17 ∧ k = 1
  · obtain ⟨rfl, rfl⟩ := c
    exact ⟨q, yb_rst hY, by unfold ud; simp⟩
  · obtain ⟨b, hb, e⟩ := hr a k hn
    refine ⟨b, hb, ?_⟩
    rw [← e]
    unfold ud
    by_cases d : a = 17
    · subst d
      have : ¬ k = 1 := fun q => c ⟨rfl, q⟩
      simp [this]
    · simp [d]
theorem hs_Y {h : Hp} {q : Nat} (hY : YB q) (hs : HS h) : HS (hpY h q) := ⟨hs.1, ref_Y hY hs.2⟩
theorem HI_Y {h : Hp} {q : Nat} (hY : YB q) (hh : HI h) : HI (hpY h q) := ⟨hh.1, hh.2.1, ref_Y hY hh.2.2⟩
theorem hpY_at {h : Hp} {q : Nat} : (hpY h q).2.2.2 17 1 = some q := by
  show ud h.2.2.2 17 1 (some q) 17 1 = _
  unfold ud
  simp
theorem e_pY {X : Scr} {dp y pc p0 len q idx z w : Nat} {L st : List Value} {h : Hp} {Q : Option Value → Hp → Prop} (he : pAt y pc = some (p0, .putfield idx, len, [1, 1, z, w])) (hs : HS h) (hY : YB q) (e : Ends X dp y (pc + 3) L st (hpY h q) Q) : Ends X dp y pc L (.ref q :: .ref 17 :: st) h Q := by
  refine Ends.step he (isRet_none rfl) rfl (pc' := pc + 3) (L' := L) (st' := st) (h' := hpY h q) ?_ e
  have hB := OLDB_eq
  have hr := yb_rng hY
  have h6 : 17 < OLDB ∧ h.1[17]? = some (.inr 1) ∧ 1 < vwN 1 := ⟨by omega, by rw [hs.1]; decide +kernel, by decide +kernel⟩
  have h7 : isRefTy (vwTy 1 1) = true ∧ q < OLDB := ⟨by decide +kernel, by omega⟩
  show (putF [1, 1, z, w] (.ref q :: .ref 17 :: st) h).map (fun q => (pc + 3, L, q.1, q.2)) = _
  unfold putF
  simp only
  rw [if_pos h6, if_pos h7]
  rfl
