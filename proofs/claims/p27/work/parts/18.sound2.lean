theorem mOK_at {c : Nat} (h0 : 0 < c) (hc : c < 223) : mOK c = true := by
  have h := List.all_eq_true.mp ok_meths c (List.mem_range.mpr hc)
  rcases Bool.or_eq_true _ _ |>.mp h with h1 | h1
  · have : c = 0 := by simpa using h1
    omega
  · exact h1
theorem mOK_facts {c : Nat} (h0 : 0 < c) (hc : c < 223) : (mName c).cls ≠ "java/lang/invoke/MethodHandle" ∧ (mName c).cls ≠ "java/lang/invoke/VarHandle" ∧ plainFor (mName c) = true ∧ mMaxL c ≤ 40 ∧
    ((mCi c < 8 ∧ (mName c).cls = vwC (mCi c)) ∨ (mCi c = 9 ∧ (mName c).cls = "java/lang/String") ∨ mCi c = 10) ∧ Jvm.Cond.initialized (mName c).cls ∈ BIGG := by
  have h := mOK_at h0 hc
  unfold mOK at h
  simp only [Bool.and_eq_true, decide_eq_true_eq, Bool.or_eq_true] at h
  obtain ⟨⟨⟨⟨⟨h1, h2⟩, h3⟩, h4⟩, h5⟩, h6⟩ := h
  exact ⟨h1, h2, h3, h4, by rcases h5 with (h5 | h5) | h5 <;> simp [h5], linkOK_in h6⟩
/-- what a run to the end gives at its return -/
def RetK (w : WC) (p : Program) (l : Launch) (e : Env) (R : Room) (s : State) (m : MethodId) (args : Array Value) (below : List Frame) (meth : Method) (c : Code) (Q : State → Prop) (y n0 s0 : Nat) (v : Option Value) (h' : Hp) : Prop :=
  ∀ (pc len : Nat) (i : Instr) (o : List Nat) (ls : Array Slot) (H : Heap) (locs : List Loc) (cells slots : Nat) (st : List Value), decode (mBytes y) pc = .ok (i, len) → (ilen i = 0 ∨ ilen i = len) → retO y i st h' = some (some (v, h')) → WdH w s h' H locs →
    cells + n0 = h'.1.length → slots + s0 = slotS h'.1 → W p l e R s m args below meth c H locs cells slots Q (F0 m pc ls (st.map (tr w)))
/-- a run, from anywhere within a method, comes to its end -/
def RunS (w : WC) (l : Launch) (n : Nat) : Prop :=
  ∀ (dp y pc : Nat) (L st : List Value) (h : Hp) (v : Option Value) (h' : Hp), run w.2.2.2.2.2 n dp y pc L st h = some (v, h') → y < 223 → L.length = mMaxL y →
    ∀ (p : Program) (e : Env) (R : Room) (s : State) (m : MethodId) (args : Array Value) (below : List Frame) (meth : Method) (c : Code) (H : Heap) (locs : List Loc) (cells slots : Nat) (Q : State → Prop) (ls : Array Slot) (n0 s0 : Nat),
      MC w p s m args meth c y → RmOK R dp → WdH w s h H locs → lv_has ls (mMaxL y) (asL w L) → cells + n0 = h.1.length → slots + s0 = slotS h.1 → h'.1.length ≤ n0 + R.cells → slotS h'.1 ≤ s0 + R.slots →
      RetK w p l e R s m args below meth c Q y n0 s0 v h' → W p l e R s m args below meth c H locs cells slots Q (F0 m pc ls (st.map (tr w)))
theorem met_run {w : WC} {l : Launch} {n : Nat} (IH : RunS w l n) {dp c : Nat} (h0 : 0 < c) (hc : c < 223) {as : List Value} {h h1 : Hp} {rv : Option Value} (hl : (entL0 as).length ≤ mMaxL c) (hr : run w.2.2.2.2.2 n dp c 0 (entL (mMaxL c) as) [] h = some (rv, h1)) :
    Met l (mName c) (wsY c) (rmOf dp (h1.1.length - h.1.length) (slotS h1.1 - slotS h.1)) (PcW w as h) (QcW w rv h1) (h1.1.length - h.1.length) (slotS h1.1 - slotS h.1) (Ab w) := by
  obtain ⟨-, -, hpl, -, -, -⟩ := mOK_facts h0 hc
  refine va_MetF (cc := mBytes c) (maxL := mMaxL c) (ret := mRet c) hpl rfl ?_
  intro p e s m args below meth c' s₁ B hml hPc
  obtain ⟨rfl, hsz, hP, hK, hO, hN⟩ := hPc
  have hts := atoms_spec (ws := wsY c) B.pre
  obtain ⟨l1, hl1⟩ := run_sh _ _ _ _ _ _ _ _ _ hr
  have hle : h.1.length ≤ h1.1.length := by rw [hl1, List.length_append]; omega
  have hle2 : slotS h.1 ≤ slotS h1.1 := by rw [hl1, slotS_app]; omega
  rw [lg_entry_eq]
  refine IH dp c 0 (entL (mMaxL c) as) [] h rv h1 hr hc (entL_length hl) p e (rmOf dp (h1.1.length - h.1.length) (slotS h1.1 - slotS h.1)) s m (as.map (tr w)).toArray below meth c' s.heap [] 0 0 _ _ h.1.length (slotS h.1)
    ⟨B.exec, B.bytes, B.returns, B.notSynchronized, hml, findClass_of_methodNamed B.named, fun q => (name_of_methodNamed B.named B.method).1.trans q, fun q hq => hts q (List.mem_cons_of_mem _ hq), hN, hK, hO⟩ ⟨Nat.le_refl _, Nat.le_refl _⟩ ⟨hsz, hP, va_S.rf⟩ (entL_has hO.zc as hl) (Nat.zero_add _) (Nat.zero_add _) (by show h1.1.length ≤ h.1.length + (h1.1.length - h.1.length); omega) (by show slotS h1.1 ≤ slotS h.1 + (slotS h1.1 - slotS h.1); omega) ?_
  intro pc len i o ls H locs cells slots st hdec hlen hret hW hce hsl
  have hce' : cells = h1.1.length - h.1.length := by omega
  have hsl' : slots = slotS h1.1 - slotS h.1 := by omega
  subst hce'
  subst hsl'
  have q1 : ∀ (v : Option Value) (t : State), t.heap = H → QcW w v h1 (as.map (tr w)).toArray s (.returned (v.map (tr w))) t := fun v t ht => ⟨rfl, by rw [ht]; exact hW.1, by rw [ht]; exact hW.2.1, hW.2.2.F ht⟩
  unfold retO at hret
  split at hret
  · replace hret := Option.some.inj hret
    unfold retI at hret
    split at hret
    · rename_i x
      split at hret
      · rename_i ty hty
        obtain ⟨⟨-, hn⟩, hret⟩ := inv_if hret
        cases hret
        exact W.zret B.exec B.bytes (by rw [B.returns, hty]) hn (fun t ht _ => q1 (some (.int x)) t ht) hW.2.2.2.2 (dl hdec hlen (n := 0) rfl) (hlocks := B.notSynchronized)
      · cases hret
    · cases hret
  · replace hret := Option.some.inj hret
    unfold retL at hret
    split at hret
    · rename_i x
      obtain ⟨hty, hret⟩ := inv_if hret
      cases hret
      exact W.lret B.exec B.bytes (by rw [B.returns, hty]) (fun t ht _ => q1 (some (.long x)) t ht) hW.2.2.2.2 (dl hdec hlen (n := 0) rfl) (hlocks := B.notSynchronized)
    · cases hret
  · replace hret := Option.some.inj hret
    unfold retV at hret
    split at hret
    · obtain ⟨hty, hret⟩ := inv_if hret
      cases hret
      exact W.vret B.exec B.bytes (by rw [B.returns, hty]) (fun t ht _ => q1 none t ht) hW.2.2.2.2 (dl hdec hlen (n := 0) rfl) (hlocks := B.notSynchronized)
    · cases hret
  · cases hret
