def RmOK (R : Room) (dp : Nat) : Prop := 2 * dp + 2 ≤ R.frames ∧ 64 * dp + 200 ≤ R.locals
def rmOf (dp mc ms : Nat) : Room := { frames := 2 * dp + 2, cells := mc, slots := ms, locals := 64 * dp + 200 }
def wsY (c : Nat) : List Jvm.Cond := Jvm.Cond.code (mName c) (mBytes c) (mMaxL c) (mRet c) :: BIGG
/-- a method's start: these arguments, this world -/
def PcW (w : WC) (as : List Value) (h : Hp) : Array Value → State → Prop := fun a U => a = (as.map (tr w)).toArray ∧ U.heap.size = w.1 + h.1.length ∧ va_P w.2.1 vwCl (wsH w h) U.heap ∧ va_K w.2.1 vwCl (tysW w) U ∧ OldW w U ∧ NestW U
/-- .. and its end -/
def QcW (w : WC) (v : Option Value) (h : Hp) : Array Value → State → Outcome → State → Prop := fun _ st o t => o = .returned (v.map (tr w)) ∧ t.heap.size = w.1 + h.1.length ∧ va_P w.2.1 vwCl (wsH w h) t.heap ∧ va_F (Ab w) st t
theorem PcW.blind (w : WC) (as : List Value) (h : Hp) : FrameBlind (PcW w as h) := by
  intro a U g mk ⟨h1, h2, h3, h4, h5, h6⟩
  exact ⟨h1, h2, h3, va_K.moved (u := U) (U := U.calling g mk a) (Vm.Alike.refl U.vm) h4, h5.same rfl rfl, NestW.same (u := U) (U := U.calling g mk a) rfl h6⟩
theorem entL0_len (w : WC) (hz : w.2.2.2.2.1.category = 1) : ∀ as : List Value, (lg_sl (as.map (tr w))).length = (entL0 as).length
  | [] => rfl
  | v :: vs => by
    have ih := entL0_len w hz vs
    have e : lg_sl ((v :: vs).map (tr w)) = (if v.category = 2 then [.val (tr w v), .second] else [.val (tr w v)]) ++ lg_sl (vs.map (tr w)) := by
      rw [← tr_cat hz v]
      rfl
    have e2 : entL0 (v :: vs) = if v.category = 2 then v :: .retAddr 0 :: entL0 vs else v :: entL0 vs := rfl
    rw [e, List.length_append, ih, e2]
    by_cases hc : v.category = 2
    · rw [if_pos hc, if_pos hc]
      simp only [List.length_cons, List.length_nil]
      omega
    · rw [if_neg hc, if_neg hc]
      simp only [List.length_cons, List.length_nil]
      omega
theorem entL_args (w : WC) (hz : w.2.2.2.2.1.category = 1) : ∀ (as : List Value) (k : Nat) (i : Nat) (u : Value), (entL0 as)[i]? = some u → isJunk u = false → (k + i, tr w u) ∈ lv_args k (as.map (tr w))
  | [], _, i, u, h, _ => by simp [entL0] at h
  | v :: vs, k, i, u, h, hj => by
    unfold entL0 at h
    show (k + i, tr w u) ∈ (k, tr w v) :: lv_args (if (tr w v).category = 2 then k + 2 else k + 1) (vs.map (tr w))
    rw [tr_cat hz]
    by_cases hc : v.category = 2
    · rw [if_pos hc] at h ⊢
      match i, h with
      | 0, h => cases h; exact List.mem_cons_self
      | 1, h => cases h; cases hj
      | i + 2, h =>
        have := entL_args w hz vs (k + 2) i u h hj
        rw [show k + (i + 2) = k + 2 + i by omega]
        exact List.mem_cons_of_mem _ this
    · rw [if_neg hc] at h ⊢
      match i, h with
      | 0, h => cases h; exact List.mem_cons_self
      | i + 1, h =>
        have := entL_args w hz vs (k + 1) i u h hj
        rw [show k + (i + 1) = k + 1 + i by omega]
        exact List.mem_cons_of_mem _ this
theorem entL_has {w : WC} (hz : w.2.2.2.2.1.category = 1) (as : List Value) {n : Nat} (hn : (entL0 as).length ≤ n) :
    lv_has ((lg_sl (as.map (tr w)) ++ List.replicate (n - (lg_sl (as.map (tr w))).length) Slot.unset).toArray) n (asL w (entL n as)) := by
  have h := lv_entry (as.map (tr w)) (n := n) (by rw [entL0_len w hz]; exact hn)
  refine lv_mono h ?_
  rintro ⟨i, x⟩ hq
  obtain ⟨u, hu, hj, rfl⟩ := asL_mem.mp hq
  unfold entL at hu
  by_cases hi : i < (entL0 as).length
  · rw [List.getElem?_append_left hi] at hu
    have := entL_args w hz as 0 i u hu hj
    rwa [Nat.zero_add] at this
  · rw [List.getElem?_append_right (by omega), List.getElem?_replicate] at hu
    split at hu
    · cases hu; cases hj
    · cases hu
theorem entL_length {as : List Value} {n : Nat} (hn : (entL0 as).length ≤ n) : (entL n as).length = n := by
  unfold entL
  rw [List.length_append, List.length_replicate]
  omega
theorem pAt_ok {y pc pc0 len : Nat} {i : Instr} {o : List Nat} (hy : y < 223) (he : pAt y pc = some (pc0, i, len, o)) : pc0 = pc ∧ decode (mBytes y) pc = .ok (i, len) ∧ (ilen i = 0 ∨ ilen i = len) ∧ lnkE y i o = true := by
  unfold pAt at he
  have h1 : pc0 = pc := by simpa using List.find?_some he
  have h2 := List.mem_of_find?_eq_some he
  have h3 := List.all_eq_true.mp (ok_progs y hy) _ h2
  unfold okE at h3
  obtain ⟨h4, h5⟩ := (Bool.and_eq_true _ _).mp h3
  obtain ⟨h6, h7⟩ := (Bool.and_eq_true _ _).mp h4
  subst h1
  refine ⟨rfl, of_decide_eq_true h6, ?_, h5⟩
  rcases Bool.or_eq_true _ _ |>.mp h7 with h8 | h8
  · exact Or.inl (by simpa using h8)
  · exact Or.inr (by simpa using h8)
section RS
variable {p : Program} {l : Launch} {e : Env} {R : Room} {s : State} {m : MethodId} {args : Array Value} {below : List Frame} {meth : Method} {c : Code} {H : Heap} {locs : List Loc} {cells slots : Nat} {Q : State → Prop}
/-- behind a call -/
theorem call_go {w : WC} {pc : Nat} {ls : Array Slot} {rest st0 : List Value} {a : Array Value} {mc ms : Nat} {v : Option Value} {h1 : Hp} (hr : va_Run p l e R s m args below meth c H locs cells slots mc ms (F0 m pc ls st0) rest (QcW w v h1 a) (Ab w)) (hS : va_S (Ab w) s.heap H locs)
    (kk : ∀ H1 locs1, WdH w s h1 H1 locs1 → W p l e R s m args below meth c H1 locs1 (cells + mc) (slots + ms) Q (F0 m (pc + 3) ls ((v.map (tr w)).toList ++ rest))) : W p l e R s m args below meth c H locs cells slots Q (F0 m pc ls st0) := by
  intro T hT X
  obtain ⟨v', st₀, t, T', L, h0, X', hL, e1, e2, ⟨hv, hsz, hP, hz, hk⟩, st⟩ := hr T hT X
  cases hv
  rw [h0] at hz hk
  obtain ⟨t2, a1, b1⟩ := kk T'.heap (locs ++ L) ⟨by rw [e1]; exact hsz, by rw [e1]; exact hP, Nat.le_trans hS.1 (by rw [e1]; exact hz), fun q q1 q2 => by rw [e1, hk q (Nat.lt_of_lt_of_le q1 hS.1) q2]; exact hS.2.1 q q1 q2, fun q hq => by
      rcases List.mem_append.mp hq with h | h
      · exact hS.2.2 q h
      · exact hL q h⟩ T' rfl X'
  exact ⟨t2, st t2 a1, b1⟩
end RS
