section JN17sound
def RmOK (R : Room) (dp : Nat) : Prop := 2 * dp + 2 ≤ R.frames ∧ 64 * dp + 200 ≤ R.locals
def rmOf (dp mc ms : Nat) : Room := { frames := 2 * dp + 2, cells := mc, slots := ms, locals := 64 * dp + 200 }
def wsY (c : Nat) : List Jvm.Cond := Jvm.Cond.code (mName c) (mBytes c) (mMaxL c) (mRet c) :: BIGG
/-- a method's start: these arguments, this world -/
def PcW (w : WC) (as : List Value) (h : Hp) : Array Value → State → Prop := fun a U => a = (as.map (tr w)).toArray ∧ U.heap.size = w.1 + h.1.length ∧ va_P w.2.1 vwCl (wsH w h) U.heap ∧ va_K w.2.1 vwCl (tysW w) U ∧ OldW w U ∧ NestW U
/-- .. and its end -/
def QcW (w : WC) (v : Option Value) (h : Hp) : Array Value → State → Outcome → State → Prop := fun _ st o t => o = .returned (v.map (tr w)) ∧ t.heap.size = w.1 + h.1.length ∧ va_P w.2.1 vwCl (wsH w h) t.heap ∧ va_F (Ab w) st t
theorem PcW.blind (w : WC) (as : List Value) (h : Hp) : FrameBlind (PcW w as h) := by
  intro a U g mk ⟨h1, h2, h3, h4, h5, h6⟩
  exact ⟨h1, h2, h3, va_K.moved (u := U) (U := U.calling g mk a) (Vm.Alike.refl U.vm) h4, h5.same rfl rfl, NestW.same (u := U) (U := U.calling g mk a) rfl h6⟩
theorem entL0_len (w : WC) (hz : w.2.2.2.2.1.category = 1) : ∀ as : List Value, (lg_sl (as.map (tr w))).length = (entL0 as).length
  | [] => rfl
  | v :: vs => by
    have ih := entL0_len w hz vs
    have e : lg_sl ((v :: vs).map (tr w)) = (if v.category = 2 then [.val (tr w v), .second] else [.val (tr w v)]) ++ lg_sl (vs.map (tr w)) := by
      rw [← tr_cat hz v]
      rfl
    have e2 : entL0 (v :: vs) = if v.category = 2 then v :: .retAddr 0 :: entL0 vs else v :: entL0 vs := rfl
    rw [e, List.length_append, ih, e2]
    by_cases hc : v.category = 2
    · rw [if_pos hc, if_pos hc]
      simp only [List.length_cons, List.length_nil]
      omega
    · rw [if_neg hc, if_neg hc]
      simp only [List.length_cons, List.length_nil]
      omega
theorem entL_args (w : WC) (hz : w.2.2.2.2.1.category = 1) : ∀ (as : List Value) (k : Nat) (i : Nat) (u : Value), (entL0 as)[i]? = some u → isJunk u = false → (k + i, tr w u) ∈ lv_args k (as.map (tr w))
  | [], _, i, u, h, _ => by simp [entL0] at h
  | v :: vs, k, i, u, h, hj => by
    unfold entL0 at h
    show (k + i, tr w u) ∈ (k, tr w v) :: lv_args (if (tr w v).category = 2 then k + 2 else k + 1) (vs.map (tr w))
    rw [tr_cat hz]
    by_cases hc : v.category = 2
    · rw [if_pos hc] at h ⊢
      match i, h with
      | 0, h => cases h; exact List.mem_cons_self
      | 1, h => cases h; cases hj
      | i + 2, h =>
        have := entL_args w hz vs (k + 2) i u h hj
        rw [show k + (i + 2) = k + 2 + i by omega]
        exact List.mem_cons_of_mem _ this
    · rw [if_neg hc] at h ⊢
      match i, h with
      | 0, h => cases h; exact List.mem_cons_self
      | i + 1, h =>
        have := entL_args w hz vs (k + 1) i u h hj
        rw [show k + (i + 1) = k + 1 + i by omega]
        exact List.mem_cons_of_mem _ this
theorem entL_has {w : WC} (hz : w.2.2.2.2.1.category = 1) (as : List Value) {n : Nat} (hn : (entL0 as).length ≤ n) :
    lv_has ((lg_sl (as.map (tr w)) ++ List.replicate (n - (lg_sl (as.map (tr w))).length) Slot.unset).toArray) n (asL w (entL n as)) := by
  have h := lv_entry (as.map (tr w)) (n := n) (by rw [entL0_len w hz]; exact hn)
  refine lv_mono h ?_
  rintro ⟨i, x⟩ hq
  obtain ⟨u, hu, hj, rfl⟩ := asL_mem.mp hq
  unfold entL at hu
  by_cases hi : i < (entL0 as).length
  · rw [List.getElem?_append_left hi] at hu
    have := entL_args w hz as 0 i u hu hj
    rwa [Nat.zero_add] at this
  · rw [List.getElem?_append_right (by omega), List.getElem?_replicate] at hu
    split at hu
    · cases hu; cases hj
    · cases hu
theorem entL_length {as : List Value} {n : Nat} (hn : (entL0 as).length ≤ n) : (entL n as).length = n := by
  unfold entL
  rw [List.length_append, List.length_replicate]
  omega
theorem pAt_ok {y pc pc0 len : Nat} {i : Instr} {o : List Nat} (hy : y < 223) (he : pAt y pc = some (pc0, i, len, o)) : pc0 = pc ∧ decode (mBytes y) pc = .ok (i, len) ∧ (ilen i = 0 ∨ ilen i = len) ∧ lnkE y i o = true := by
  unfold pAt at he
  have h1 : pc0 = pc := by simpa using List.find?_some he
  have h2 := List.mem_of_find?_eq_some he
  have h3 := List.all_eq_true.mp (ok_progs y hy) _ h2
  unfold okE at h3
  obtain ⟨h4, h5⟩ := (Bool.and_eq_true _ _).mp h3
  obtain ⟨h6, h7⟩ := (Bool.and_eq_true _ _).mp h4
  subst h1
  refine ⟨rfl, of_decide_eq_true h6, ?_, h5⟩
  rcases Bool.or_eq_true _ _ |>.mp h7 with h8 | h8
  · exact Or.inl (by simpa using h8)
  · exact Or.inr (by simpa using h8)
section RS
variable {p : Program} {l : Launch} {e : Env} {R : Room} {s : State} {m : MethodId} {args : Array Value} {below : List Frame} {meth : Method} {c : Code} {H : Heap} {locs : List Loc} {cells slots : Nat} {Q : State → Prop}
/-- behind a call -/
theorem call_go {w : WC} {pc : Nat} {ls : Array Slot} {rest st0 : List Value} {a : Array Value} {mc ms : Nat} {v : Option Value} {h1 : Hp} (hr : va_Run p l e R s m args below meth c H locs cells slots mc ms (F0 m pc ls st0) rest (QcW w v h1 a) (Ab w)) (hS : va_S (Ab w) s.heap H locs)
    (kk : ∀ H1 locs1, WdH w s h1 H1 locs1 → W p l e R s m args below meth c H1 locs1 (cells + mc) (slots + ms) Q (F0 m (pc + 3) ls ((v.map (tr w)).toList ++ rest))) : W p l e R s m args below meth c H locs cells slots Q (F0 m pc ls st0) := by
  intro T hT X
  obtain ⟨v', st₀, t, T', L, h0, X', hL, e1, e2, ⟨hv, hsz, hP, hz, hk⟩, st⟩ := hr T hT X
  cases hv
  rw [h0] at hz hk
  obtain ⟨t2, a1, b1⟩ := kk T'.heap (locs ++ L) ⟨by rw [e1]; exact hsz, by rw [e1]; exact hP, Nat.le_trans hS.1 (by rw [e1]; exact hz), fun q q1 q2 => by rw [e1, hk q (Nat.lt_of_lt_of_le q1 hS.1) q2]; exact hS.2.1 q q1 q2, fun q hq => by
      rcases List.mem_append.mp hq with h | h
      · exact hS.2.2 q h
      · exact hL q h⟩ T' rfl X'
  exact ⟨t2, st t2 a1, b1⟩
end RS
end JN17sound
section JN18sound2
theorem mOK_at {c : Nat} (h0 : 0 < c) (hc : c < 223) : mOK c = true := by
  have h := List.all_eq_true.mp ok_meths c (List.mem_range.mpr hc)
  rcases Bool.or_eq_true _ _ |>.mp h with h1 | h1
  · have : c = 0 := by simpa using h1
    omega
  · exact h1
theorem mOK_facts {c : Nat} (h0 : 0 < c) (hc : c < 223) : (mName c).cls ≠ "java/lang/invoke/MethodHandle" ∧ (mName c).cls ≠ "java/lang/invoke/VarHandle" ∧ plainFor (mName c) = true ∧ mMaxL c ≤ 40 ∧
    ((mCi c < 8 ∧ (mName c).cls = vwC (mCi c)) ∨ (mCi c = 9 ∧ (mName c).cls = "java/lang/String") ∨ mCi c = 10) ∧ Jvm.Cond.initialized (mName c).cls ∈ BIGG := by
  have h := mOK_at h0 hc
  unfold mOK at h
  simp only [Bool.and_eq_true, decide_eq_true_eq, Bool.or_eq_true] at h
  obtain ⟨⟨⟨⟨⟨h1, h2⟩, h3⟩, h4⟩, h5⟩, h6⟩ := h
  exact ⟨h1, h2, h3, h4, by rcases h5 with (h5 | h5) | h5 <;> simp [h5], linkOK_in h6⟩
/-- what a run to the end gives at its return -/
def RetK (w : WC) (p : Program) (l : Launch) (e : Env) (R : Room) (s : State) (m : MethodId) (args : Array Value) (below : List Frame) (meth : Method) (c : Code) (Q : State → Prop) (y n0 s0 : Nat) (v : Option Value) (h' : Hp) : Prop :=
  ∀ (pc len : Nat) (i : Instr) (o : List Nat) (ls : Array Slot) (H : Heap) (locs : List Loc) (cells slots : Nat) (st : List Value), decode (mBytes y) pc = .ok (i, len) → (ilen i = 0 ∨ ilen i = len) → retO y i st h' = some (some (v, h')) → WdH w s h' H locs →
    cells + n0 = h'.1.length → slots + s0 = slotS h'.1 → W p l e R s m args below meth c H locs cells slots Q (F0 m pc ls (st.map (tr w)))
/-- a run, from anywhere within a method, comes to its end -/
def RunS (w : WC) (l : Launch) (n : Nat) : Prop :=
  ∀ (dp y pc : Nat) (L st : List Value) (h : Hp) (v : Option Value) (h' : Hp), run w.2.2.2.2.2 n dp y pc L st h = some (v, h') → y < 223 → L.length = mMaxL y →
    ∀ (p : Program) (e : Env) (R : Room) (s : State) (m : MethodId) (args : Array Value) (below : List Frame) (meth : Method) (c : Code) (H : Heap) (locs : List Loc) (cells slots : Nat) (Q : State → Prop) (ls : Array Slot) (n0 s0 : Nat),
      MC w p s m args meth c y → RmOK R dp → WdH w s h H locs → lv_has ls (mMaxL y) (asL w L) → cells + n0 = h.1.length → slots + s0 = slotS h.1 → h'.1.length ≤ n0 + R.cells → slotS h'.1 ≤ s0 + R.slots →
      RetK w p l e R s m args below meth c Q y n0 s0 v h' → W p l e R s m args below meth c H locs cells slots Q (F0 m pc ls (st.map (tr w)))
theorem met_run {w : WC} {l : Launch} {n : Nat} (IH : RunS w l n) {dp c : Nat} (h0 : 0 < c) (hc : c < 223) {as : List Value} {h h1 : Hp} {rv : Option Value} (hl : (entL0 as).length ≤ mMaxL c) (hr : run w.2.2.2.2.2 n dp c 0 (entL (mMaxL c) as) [] h = some (rv, h1)) :
    Met l (mName c) (wsY c) (rmOf dp (h1.1.length - h.1.length) (slotS h1.1 - slotS h.1)) (PcW w as h) (QcW w rv h1) (h1.1.length - h.1.length) (slotS h1.1 - slotS h.1) (Ab w) := by
  obtain ⟨-, -, hpl, -, -, -⟩ := mOK_facts h0 hc
  refine va_MetF (cc := mBytes c) (maxL := mMaxL c) (ret := mRet c) hpl rfl ?_
  intro p e s m args below meth c' s₁ B hml hPc
  obtain ⟨rfl, hsz, hP, hK, hO, hN⟩ := hPc
  have hts := atoms_spec (ws := wsY c) B.pre
  obtain ⟨l1, hl1⟩ := run_sh _ _ _ _ _ _ _ _ _ hr
  have hle : h.1.length ≤ h1.1.length := by rw [hl1, List.length_append]; omega
  have hle2 : slotS h.1 ≤ slotS h1.1 := by rw [hl1, slotS_app]; omega
  rw [lg_entry_eq]
  refine IH dp c 0 (entL (mMaxL c) as) [] h rv h1 hr hc (entL_length hl) p e (rmOf dp (h1.1.length - h.1.length) (slotS h1.1 - slotS h.1)) s m (as.map (tr w)).toArray below meth c' s.heap [] 0 0 _ _ h.1.length (slotS h.1)
    ⟨B.exec, B.bytes, B.returns, B.notSynchronized, hml, findClass_of_methodNamed B.named, fun q => (name_of_methodNamed B.named B.method).1.trans q, fun q hq => hts q (List.mem_cons_of_mem _ hq), hN, hK, hO⟩ ⟨Nat.le_refl _, Nat.le_refl _⟩ ⟨hsz, hP, va_S.rf⟩ (entL_has hO.zc as hl) (Nat.zero_add _) (Nat.zero_add _) (by show h1.1.length ≤ h.1.length + (h1.1.length - h.1.length); omega) (by show slotS h1.1 ≤ slotS h.1 + (slotS h1.1 - slotS h.1); omega) ?_
  intro pc len i o ls H locs cells slots st hdec hlen hret hW hce hsl
  have hce' : cells = h1.1.length - h.1.length := by omega
  have hsl' : slots = slotS h1.1 - slotS h.1 := by omega
  subst hce'
  subst hsl'
  have q1 : ∀ (v : Option Value) (t : State), t.heap = H → QcW w v h1 (as.map (tr w)).toArray s (.returned (v.map (tr w))) t := fun v t ht => ⟨rfl, by rw [ht]; exact hW.1, by rw [ht]; exact hW.2.1, hW.2.2.F ht⟩
  unfold retO at hret
  split at hret
  · replace hret := Option.some.inj hret
    unfold retI at hret
    split at hret
    · rename_i x
      split at hret
      · rename_i ty hty
        obtain ⟨⟨-, hn⟩, hret⟩ := inv_if hret
        cases hret
        exact W.zret B.exec B.bytes (by rw [B.returns, hty]) hn (fun t ht _ => q1 (some (.int x)) t ht) hW.2.2.2.2 (dl hdec hlen (n := 0) rfl) (hlocks := B.notSynchronized)
      · cases hret
    · cases hret
  · replace hret := Option.some.inj hret
    unfold retL at hret
    split at hret
    · rename_i x
      obtain ⟨hty, hret⟩ := inv_if hret
      cases hret
      exact W.lret B.exec B.bytes (by rw [B.returns, hty]) (fun t ht _ => q1 (some (.long x)) t ht) hW.2.2.2.2 (dl hdec hlen (n := 0) rfl) (hlocks := B.notSynchronized)
    · cases hret
  · replace hret := Option.some.inj hret
    unfold retV at hret
    split at hret
    · obtain ⟨hty, hret⟩ := inv_if hret
      cases hret
      exact W.vret B.exec B.bytes (by rw [B.returns, hty]) (fun t ht _ => q1 none t ht) hW.2.2.2.2 (dl hdec hlen (n := 0) rfl) (hlocks := B.notSynchronized)
    · cases hret
  · cases hret
end JN18sound2
section JN19sound3
theorem wsY_good {c : Nat} (h0 : 0 < c) (hc : c < 223) : GoodIn BIGG (wsY c) := by
  intro q hq
  rcases List.mem_cons.mp hq with rfl | hq
  · exact ⟨ok_codes c h0 hc, good_of_word (BIGG_good _ (ok_codes c h0 hc))⟩
  · exact ⟨hq, good_of_word (BIGG_good _ hq)⟩
theorem take_rev {w : WC} {na : Nat} {st As : List Value} {r : Value} (h : (st.take na).reverse = r :: As) : st.map (tr w) = (As.map (tr w)).reverse ++ tr w r :: (st.drop na).map (tr w) := by
  have h1 : st.take na = As.reverse ++ [r] := by
    have := congrArg List.reverse h
    rw [List.reverse_reverse, List.reverse_cons] at this
    exact this
  conv => lhs; rw [← List.take_append_drop na st, h1]
  simp
theorem take_revS {w : WC} {na : Nat} {st : List Value} : st.map (tr w) = (((st.take na).reverse).map (tr w)).reverse ++ (st.drop na).map (tr w) := by
  conv => lhs; rw [← List.take_append_drop na st]
  simp
theorem o7 {o : List Nat} {c na kd : Nat} (h : (match o with | [c, na, kd, _, _, _, _] => some (c, na, kd) | _ => none) = some (c, na, kd)) : ∃ nest pl a sl, o = [c, na, kd, nest, pl, a, sl] := by
  split at h
  · cases h
    exact ⟨_, _, _, _, rfl⟩
  · cases h
theorem recv_new {c b : Nat} {h : Hp} (hb : b < OLDB) : recvOK c h (.ref b) = (decide (h.1[b]? = some (.inr (mCi c))) && decide (mCi c < 8)) := if_pos hb
theorem recv_old {c b : Nat} {h : Hp} (hb : ¬ b < OLDB) : recvOK c h (.ref b) = (decide (mCi c = 9) && decide (OLDB + 3 ≤ b) && decide (b < OLDB + 8)) := if_neg hb
theorem old_k {b : Nat} (r2 : OLDB + 3 ≤ b) (r3 : b < OLDB + 8) : b - OLDB = 3 + (b - (OLDB + 3)) ∧ b - (OLDB + 3) < 5 ∧ ¬ b = OLDB + 13 := by
  have hB := OLDB_eq
  omega
set_option maxHeartbeats 4000000 in
theorem call_sound {w : WC} {l : Launch} {n : Nat} (IH : RunS w l n) {dp y pc : Nat} {i : Instr} {o : List Nat} {len : Nat} {L st : List Value} {h h1 : Hp} {rv : Option Value} {c na kd : Nat} (hdec : decode (mBytes y) pc = .ok (i, len)) (hlen : ilen i = 0 ∨ ilen i = len) (hlk : lnkE y i o = true) (hco : callO i o = some (c, na, kd)) (hok : callOK c na kd st h = true)
    (hr : run w.2.2.2.2.2 n dp c 0 (entL (mMaxL c) (st.take na).reverse) [] h = some (rv, h1))
    {p : Program} {e : Env} {R : Room} {s : State} {m : MethodId} {args : Array Value} {below : List Frame} {meth : Method} {cd : Code} {H : Heap} {locs : List Loc} {cells slots : Nat} {Q : State → Prop} {ls : Array Slot}
    (M : MC w p s m args meth cd y) (hR : RmOK R (dp + 1)) (hW : WdH w s h H locs) (hl : lv_has ls (mMaxL y) (asL w L)) (hc1 : cells + (h1.1.length - h.1.length) ≤ R.cells) (hs1 : slots + (slotS h1.1 - slotS h.1) ≤ R.slots)
    (kk : ∀ H1 locs1, WdH w s h1 H1 locs1 → c < 223 → W p l e R s m args below meth cd H1 locs1 (cells + (h1.1.length - h.1.length)) (slots + (slotS h1.1 - slotS h.1)) Q (F0 m (pc + 3) ls ((rv.toList ++ st.drop na).map (tr w)))) :
    W p l e R s m args below meth cd H locs cells slots Q (F0 m pc ls (st.map (tr w))) := by
  obtain ⟨hx, hb, -, -, hml, hown, -, hts, hN, hK, hO⟩ := M
  simp only [callOK, Bool.and_eq_true, decide_eq_true_eq] at hok
  obtain ⟨⟨⟨⟨k1, k2⟩, k3⟩, k4⟩, k5⟩ := hok
  have hsum : 2 * (F0 m pc ls (st.map (tr w))).monitorRoom + (((st.drop na).map (tr w)).map fun v => v.category).sum ≤ 8 := by
    refine lv_room (m := m) ?_
    rw [tr_sum hO.zc]
    exact k2
  have hS : CallFix p m cd (mBytes y) (mMaxL y) s args BIGG (mName y).cls := ⟨hx, hb, hml, hown, hts⟩
  have hkk : ∀ H1 locs1, WdH w s h1 H1 locs1 → c < 223 → W p l e R s m args below meth cd H1 locs1 (cells + (h1.1.length - h.1.length)) (slots + (slotS h1.1 - slotS h.1)) Q (F0 m (pc + 3) ls ((rv.map (tr w)).toList ++ (st.drop na).map (tr w))) := by
    intro H1 locs1 a1 a2
    have := kk H1 locs1 a1 a2
    rw [List.map_append] at this
    cases rv with
    | none => exact this
    | some v => exact this
  have hpre : ∀ As : List Value, ∀ U : State, U.heap = H → s.WarmedH U.vm → PcW w As h ((As.map (tr w)).toArray) U := fun As U hU hWm =>
    ⟨rfl, by rw [hU]; exact hW.1, by rw [hU]; exact hW.2.1, va_K.moved hWm.alike hK, hO.to hW.2.2 hU hWm, hN.warm hWm⟩
  have hrm : ∀ mc ms, mMaxL c ≤ 40 → (rmOf dp mc ms).frames + 1 ≤ R.frames ∧ 8 + (mMaxL c + 11) + (rmOf dp mc ms).locals ≤ R.locals := fun mc ms h40 => ⟨by have := hR.1; show 2 * dp + 2 + 1 ≤ _; omega, by have := hR.2; show 8 + (mMaxL c + 11) + (64 * dp + 200) ≤ _; omega⟩
  have link : ∀ {own : String} {idx nest pl a sl : Nat}, calOK own idx c na kd nest pl a sl = true → (if nest = 0 then linkOK pl (.methodLink own idx (mName c)) else nestOK pl (.methodLinkNest own idx (mName c) "PastCatchers")) = true ∧ 0 < c ∧ c < 223 ∧ kdOK c na kd a sl = true := by
    intro own idx nest pl a sl hcal
    unfold calOK at hcal
    obtain ⟨h123, h4⟩ := (Bool.and_eq_true _ _).mp hcal
    obtain ⟨h12, h3⟩ := (Bool.and_eq_true _ _).mp h123
    obtain ⟨h1, h2⟩ := (Bool.and_eq_true _ _).mp h12
    exact ⟨h1, of_decide_eq_true h2, of_decide_eq_true h3, h4⟩
  have pcount : ∀ {na : Nat}, (parseMethodDescriptor (mName c).desc).map (fun d => d.parameters.length + 1) = some na → (parseMethodDescriptor (mName c).desc).map (fun d => d.parameters.length) = some (na - 1) := by
    intro na hp
    cases hd : parseMethodDescriptor (mName c).desc with
    | none => rw [hd] at hp; cases hp
    | some d =>
      rw [hd] at hp
      cases hp
      rfl
  cases i with
  | invokevirtual idx =>
    obtain ⟨nest, pl, a, sl, rfl⟩ := o7 (o := o) (c := c) (na := na) (kd := kd) hco
    obtain ⟨hkd, hcal⟩ := (Bool.and_eq_true _ _).mp (show (kd == 0 && calOK (mName y).cls idx c na kd nest pl a sl) = true from hlk)
    have hkd : kd = 0 := by simpa using hkd
    subst hkd
    obtain ⟨g1, h0, hc, g4⟩ := link hcal
    simp only [kdOK, Bool.and_eq_true, decide_eq_true_eq] at g4
    obtain ⟨⟨⟨g5, g6⟩, g7⟩, g8⟩ := g4
    obtain ⟨f1, f2, -, f4, f5, f6⟩ := mOK_facts h0 hc
    rw [if_neg (by decide)] at k5
    have hM := met_run IH h0 hc k4 hr
    cases hst : (st.take na).reverse with
    | nil => rw [hst] at k5; cases k5
    | cons r As =>
      rw [hst] at k5 hM
      have hAl : As.length = na - 1 := by
        have := congrArg List.length hst
        rw [List.length_reverse, List.length_take, List.length_cons] at this
        omega
      have hrec : recvOK c h r = true := k5
      cases r with
      | ref b =>
        have hcellb : (∃ cellB : Cell, H[match tr w (.ref b) with | .ref q => q | _ => 0]? = some cellB ∧ cellB.vm.isStatics = false ∧ s.vm.findClass (mName c).cls = some cellB.cls) ∧ ∃ q, tr w (.ref b) = .ref q := by
          by_cases hbO : b < OLDB
          · rw [recv_new hbO] at hrec
            simp only [Bool.and_eq_true, decide_eq_true_eq] at hrec
            rw [tr_new hbO]
            refine ⟨?_, _, rfl⟩
            have hcn : (mName c).cls = vwC (mCi c) := by
              rcases f5 with q | q | q
              · exact q.2
              · omega
              · omega
            rw [hcn]
            exact va_recv hK hW.2.1 (cls_tab _ hrec.2) (wsH_get hrec.1)
          · rw [recv_old hbO] at hrec
            simp only [Bool.and_eq_true, decide_eq_true_eq] at hrec
            obtain ⟨⟨r1, r2⟩, r3⟩ := hrec
            have hB := OLDB_eq
            obtain ⟨hk3, hk5, hne⟩ := old_k r2 r3
            rw [tr_old hbO hne, hk3]
            refine ⟨?_, _, rfl⟩
            have hcn : (mName c).cls = "java/lang/String" := by
              rcases f5 with q | q | q
              · omega
              · exact q.2
              · omega
            rw [hcn]
            exact vk_recv (adK := fun i => w.2.2.2.1 (3 + i)) (i := b - (OLDB + 3)) hO.2.2.2.2.2.2.2.2.2.1 hk5 hW.2.2
        obtain ⟨hcellb, q, hq⟩ := hcellb
        rw [hq] at hcellb
        have hpv : PreV s H (mName c).cls q (PcW w (.ref b :: As) h) (As.map (tr w)) := by
          refine ⟨PcW.blind _ _ _, hcellb, fun U hU hWm => ?_⟩
          have := hpre (.ref b :: As) U hU hWm
          rw [List.map_cons, hq] at this
          exact this
        have hstk := take_rev (w := w) hst
        rw [hq] at hstk
        have hd := dl hdec hlen (n := 2) rfl
        by_cases hn0 : nest = 0
        · rw [if_pos hn0] at g1
          have hG : GoodIn BIGG (wsV (mName y).cls idx (mName c).cls (mName c) (wsY c)) := by
            intro z hz
            unfold wsV at hz
            rcases List.mem_append.mp hz with hz | hz
            · have : z ∈ BIGG := by
                simp only [List.mem_cons, List.not_mem_nil, or_false] at hz
                rcases hz with rfl | rfl | rfl | rfl
                · exact linkOK_in g1
                · exact linkOK_in g5
                · exact linkOK_in g6
                · exact f6
              exact ⟨this, good_of_word (BIGG_good _ this)⟩
            · exact wsY_good h0 hc z hz
          exact call_go (va_runV hS hM (cwV (na - 1) hts hG rfl rfl rfl ⟨rfl, f1, f2, pcount g7⟩ (hrm _ _ f4)) hpv rfl (by rw [List.length_map]; exact hAl) hl.1 hstk hsum hd ⟨hc1, hs1⟩) hW.2.2 (fun H1 locs1 hW1 => hkk H1 locs1 hW1 hc)
        · rw [if_neg hn0] at g1
          exact call_go (va_runVN hS hM ⟨va_cnB (na - 1) hts (wsY_good h0 hc) rfl rfl rfl (hN _ (nestOK_in g1)) (hts _ f6) ⟨f1, f2, pcount g7⟩ (hrm _ _ f4), hts _ (linkOK_in g5), hts _ (linkOK_in g6)⟩ hpv rfl (by rw [List.length_map]; exact hAl) hl.1 hstk hsum hd ⟨hc1, hs1⟩) hW.2.2 (fun H1 locs1 hW1 => hkk H1 locs1 hW1 hc)
      | _ => cases hrec
  | invokespecial idx =>
    obtain ⟨nest, pl, a, sl, rfl⟩ := o7 (o := o) (c := c) (na := na) (kd := kd) hco
    obtain ⟨hkd, hcal⟩ := (Bool.and_eq_true _ _).mp (show (kd == 1 && calOK (mName y).cls idx c na kd nest pl a sl) = true by simpa only [lnkE] using hlk)
    have hkd : kd = 1 := by simpa using hkd
    subst hkd
    obtain ⟨g1, h0, hc, g4⟩ := link hcal
    simp only [kdOK, Bool.and_eq_true, decide_eq_true_eq] at g4
    obtain ⟨⟨⟨g5, g6⟩, g7⟩, g8⟩ := g4
    obtain ⟨f1, f2, -, f4, f5, f6⟩ := mOK_facts h0 hc
    rw [if_neg (by decide)] at k5
    have hM := met_run IH h0 hc k4 hr
    cases hst : (st.take na).reverse with
    | nil => rw [hst] at k5; cases k5
    | cons r As =>
      rw [hst] at k5 hM
      have hAl : As.length = na - 1 := by
        have := congrArg List.length hst
        rw [List.length_reverse, List.length_take, List.length_cons] at this
        omega
      cases r with
      | ref b =>
        have hbO : b < OLDB := of_decide_eq_true k5
        have hq := tr_new (w := w) hbO
        have hps : PreS s H (PcW w (.ref b :: As) h) (.ref (w.1 + b) :: As.map (tr w)) := by
          refine ⟨PcW.blind _ _ _, fun U hU hWm => ?_⟩
          have := hpre (.ref b :: As) U hU hWm
          rw [List.map_cons, hq] at this
          exact this
        have hstk := take_rev (w := w) hst
        rw [hq] at hstk
        have hd := dl hdec hlen (n := 2) rfl
        have hwy : wsY c = Jvm.Cond.code (mName c) (mBytes c) (mMaxL c) none :: BIGG := by unfold wsY; rw [g7]
        by_cases hn0 : nest = 0
        · rw [if_pos hn0] at g1
          exact call_go (va_runI hS hM (cwI (na - 1) hts (wsY_good h0 hc) hwy rfl rfl (hts _ f6) (hts _ (linkOK_in g1)) (hts _ (linkOK_in g5)) g6 ⟨f1, f2, pcount g8⟩ (hrm _ _ f4)) hps rfl (by rw [List.length_map]; exact hAl) hl.1 hstk hsum hd ⟨hc1, hs1⟩) hW.2.2 (fun H1 locs1 hW1 => hkk H1 locs1 hW1 hc)
        · rw [if_neg hn0] at g1
          exact call_go (va_runIN hS hM ⟨va_cnB (na - 1) hts (wsY_good h0 hc) hwy rfl rfl (hN _ (nestOK_in g1)) (hts _ f6) ⟨f1, f2, pcount g8⟩ (hrm _ _ f4), g6, hts _ (linkOK_in g5)⟩ hps rfl (by rw [List.length_map]; exact hAl) hl.1 hstk hsum hd ⟨hc1, hs1⟩) hW.2.2 (fun H1 locs1 hW1 => hkk H1 locs1 hW1 hc)
      | _ => cases k5
  | invokestatic idx =>
    obtain ⟨nest, pl, a, sl, rfl⟩ := o7 (o := o) (c := c) (na := na) (kd := kd) hco
    obtain ⟨hkd, hcal⟩ := (Bool.and_eq_true _ _).mp (show (kd == 2 && calOK (mName y).cls idx c na kd nest pl a sl) = true by simpa only [lnkE] using hlk)
    have hkd : kd = 2 := by simpa using hkd
    subst hkd
    obtain ⟨g1, h0, hc, g4⟩ := link hcal
    simp only [kdOK, Bool.and_eq_true, decide_eq_true_eq] at g4
    obtain ⟨g5, g7⟩ := g4
    obtain ⟨f1, f2, -, f4, f5, f6⟩ := mOK_facts h0 hc
    have hM := met_run IH h0 hc k4 hr
    have hAl : ((st.take na).reverse.map (tr w)).length = na := by
      rw [List.length_map, List.length_reverse, List.length_take]
      omega
    have hps : PreS s H (PcW w (st.take na).reverse h) ((st.take na).reverse.map (tr w)) := ⟨PcW.blind _ _ _, fun U hU hWm => hpre _ U hU hWm⟩
    have hstk := take_revS (w := w) (na := na) (st := st)
    have hd := dl hdec hlen (n := 2) rfl
    by_cases hn0 : nest = 0
    · rw [if_pos hn0] at g1
      have hG : GoodIn BIGG (va_wsS (mName y).cls idx (mName c) (wsY c)) := by
        intro z hz
        unfold va_wsS at hz
        rcases List.mem_append.mp hz with hz | hz
        · have : z ∈ BIGG := by
            simp only [List.mem_cons, List.not_mem_nil, or_false] at hz
            rcases hz with rfl | rfl | rfl
            · exact linkOK_in g1
            · exact linkOK_in g5
            · exact f6
          exact ⟨this, good_of_word (BIGG_good _ this)⟩
        · exact wsY_good h0 hc z hz
      exact call_go (va_runS hS hM (va_cwS na hts hG rfl rfl rfl ⟨f1, f2, g7⟩ (hrm _ _ f4)) hps rfl hAl hl.1 hstk hsum hd ⟨hc1, hs1⟩) hW.2.2 (fun H1 locs1 hW1 => hkk H1 locs1 hW1 hc)
    · rw [if_neg hn0] at g1
      exact call_go (va_runSN hS hM ⟨va_cnB na hts (wsY_good h0 hc) rfl rfl rfl (hN _ (nestOK_in g1)) (hts _ f6) ⟨f1, f2, g7⟩ (hrm _ _ f4), hts _ (linkOK_in g5), trivial⟩ hps rfl hAl hl.1 hstk hsum hd ⟨hc1, hs1⟩) hW.2.2 (fun H1 locs1 hW1 => hkk H1 locs1 hW1 hc)
  | _ => cases hco
end JN19sound3
section JN20sound4
theorem run_sound (w : WC) (l : Launch) : ∀ n, RunS w l n
  | 0 => fun dp y pc L st h v h' hr => by cases hr
  | n + 1 => by
    have IH := run_sound w l n
    intro dp y pc L st h v h' hr hy hL p e R s m args below meth c H locs cells slots Q ls n0 s0 M hR hW hl hc hs hcR hsR hK
    rw [run] at hr
    split at hr
    · cases hr
    · rename_i pc0 i len o he
      obtain ⟨rfl, hdec, hlen, hlk⟩ := pAt_ok hy he
      split at hr
      · rename_i r hret
        subst hr
        have e1 := retO_h hret
        subst e1
        exact hK pc0 len i o ls H locs cells slots st hdec hlen hret hW hc hs
      · split at hr
        · rename_i c' na kd hco
          split at hr
          · cases hr
          · rename_i dp'
            obtain ⟨hok, hr⟩ := inv_if hr
            split at hr
            · rename_i rv h1 h1e
              obtain ⟨l1, e1⟩ := run_sh _ _ _ _ _ _ _ _ _ h1e
              obtain ⟨l2, e2⟩ := run_sh _ _ _ _ _ _ _ _ _ hr
              have q1 : h1.1.length = h.1.length + l1.length := by rw [e1, List.length_append]
              have q2 : h'.1.length = h1.1.length + l2.length := by rw [e2, List.length_append]
              have q3 : slotS h1.1 = slotS h.1 + slotS l1 := by rw [e1, slotS_app]
              have q4 : slotS h'.1 = slotS h1.1 + slotS l2 := by rw [e2, slotS_app]
              refine call_sound IH hdec hlen hlk hco hok h1e M hR hW hl (by omega) (by omega) (fun H1 locs1 hW1 hc' => ?_)
              exact IH (dp' + 1) y (pc0 + 3) L (rv.toList ++ st.drop na) h1 v h' hr hy hL p e R s m args below meth c H1 locs1 _ _ Q ls n0 s0 M hR hW1 hl (by omega) (by omega) hcR hsR hK
            · cases hr
        · split at hr
          · rename_i pc' L' st' h1 h1e
            obtain ⟨l1, e1⟩ := hstep_sh h1e
            obtain ⟨l2, e2⟩ := run_sh _ _ _ _ _ _ _ _ _ hr
            have q1 : h1.1.length = h.1.length + l1.length := by rw [e1, List.length_append]
            have q2 : h'.1.length = h1.1.length + l2.length := by rw [e2, List.length_append]
            have q3 : slotS h1.1 = slotS h.1 + slotS l1 := by rw [e1, slotS_app]
            have q4 : slotS h'.1 = slotS h1.1 + slotS l2 := by rw [e2, slotS_app]
            refine hs_sound M hdec hlen hlk hl hL hW ⟨by have := hR.1; omega, by have := hR.2; omega⟩ h1e (by omega) (by omega) (fun ls' H1 locs1 c1 s1 a1 a2 a3 a4 a5 => ?_)
            exact IH dp y pc' L' st' h1 v h' hr hy a2 p e R s m args below meth c H1 locs1 c1 s1 Q ls' n0 s0 M hR a3 a1 (by omega) (by omega) hcR hsR hK
          · cases hr
end JN20sound4
section JN21lawhead
def R_law : String := "PastCatchersLaw"
def lw_P (b : Addr) (xs : List Int32) (args : Array Value) (s : State) : Prop := args = #[.ref b] ∧ s.IntsAt b xs ∧ xs.length ≤ 3072 ∧ (Jvm.Cond.and given_1 narrow_1).before args s = true
def lw_Q (_ : Array Value) (s : State) (o : Outcome) (t : State) : Prop := o = .returned (some (.int 1)) ∧ Framed s o t [] 600000 7302250
def lw_Z (below : List Frame) (a : Array Value) (s : State) : State → Prop := fun t => ∃ o, t.status = .running ∧ Ended t below o ∧ lw_Q a s o t
/-- the law's own end, with 1 on the stack, nothing written that was there before, its room as the claim has it -/
theorem lw_ret {p : Program} {l : Launch} {e : Env} {s : State} {m : MethodId} {below : List Frame} {meth : Method} {c : Code} {b : Nat} (hx : p.tables.exec = Jvm.exec) (hb : c.code = code) (hr : meth.sig.returnType = ret) (hlocks : meth.locks = false) {pc : Nat} {H : Heap} {ls : Array Slot} (hdg : decode code pc = .ok (.ireturn, 1)) : W p l e room_1 s m #[Value.ref b] below meth c H [] 600000 7302250 (lw_Z below #[Value.ref b] s) (F0 m pc ls [.int 1]) := by
  intro T hT X
  obtain ⟨fs, hret, hrun, hended, hW, hframe⟩ := X.leave (v := some (.int 1)) (hlocks := hlocks) (fun h => by rw [hr] at h; cases h)
  have hmeth' : T.vm.method? m = some meth := X.method'
  refine ⟨T.setFrames fs, ?_, .returned (some (.int 1)), hrun, hended, rfl, ⟨_, rfl⟩, hW, hframe⟩
  jvm_step X.here [X.here.top, hx, hb, hdg, hmeth', hr, ret, narrow_b1]
  (try refine ⟨rfl, ?_⟩); (try refine ⟨rfl, ?_⟩)
  first | (intro acts; rw [hret _ acts rfl rfl rfl]) | rw [hret _ _ rfl rfl rfl]
  exact Steps.refl _
/-- what holds at the law's entry: the machine, the code, the tables' words (any of lw_tbl by 'hts w (by decide +kernel)'), the script of L ints xs at the cell b, what the Statement gives of the start (any of its parts by flat_of_before) -/
def lw_At (p : Program) (s : State) (m : MethodId) (meth : Method) (c : Code) (b L : Nat) (xs : Nat → Int32) : Prop :=
  p.tables.exec = Jvm.exec ∧ c.code = code ∧ meth.sig.returnType = ret ∧ c.maxLocals = 4 ∧ s.vm.findClass R_law = some m.cls ∧ (∀ w ∈ lw_tbl, w.before #[Value.ref b] s = true) ∧ va_X b L xs s s.heap ∧ b < s.heap.size ∧ meth.locks = false ∧ (Jvm.Cond.and given_1 narrow_1).before #[Value.ref b] s = true
end JN21lawhead
section JN22lawsound
/-- the empty heap -/
def hp0 : Hp := ([], fun _ _ => 0, fun _ _ => 0, fun _ _ => none)
theorem own_tbl (s : State) {args : Array Value} (hts : ∀ q ∈ lw_tbl, q.before args s = true) : ∀ q ∈ BIGG, q.before args s = true := fun q hq => hts q (BIGG_tbl q hq)
theorem nest_tbl (s : State) {args : Array Value} (hts : ∀ q ∈ lw_tbl, q.before args s = true) : NestW s := by
  intro q hq
  obtain ⟨h1, h2⟩ := List.mem_filter.mp hq
  have h3 := hts q (List.mem_append_right _ h1)
  cases q with
  | fieldLinkNest a i b n d x => exact va_Nw.of rfl h3
  | methodLinkNest a i x hh => exact va_Nw.of rfl h3
  | _ => cases h2
/-- the classes' numbers and slots, the array classes -/
theorem kn_tbl (s : State) {args : Array Value} (hts : ∀ q ∈ BIGG, q.before args s = true) (hAO : va_AO RX5 s) (hAA : vz_AOA .long s) : ∃ (D : va_G) (cA : Nat → ClassId), ∀ (b : Nat) (o : Nat → Nat) (z : Value) (X : Scr), va_K D vwCl (tysW (b, D, cA, o, z, X)) s := by
  have h1 : ∀ k : Nat, ∃ q : ClassId × (Nat → Nat), k < 8 → u_Kn s (vwC k) (vwT k) (vwN k) q.1 q.2 := by
    intro k
    by_cases hk : k < 8
    · obtain ⟨c, i, h⟩ := u_known (C := vwC k) (T := vwT k) (N := vwN k) (n := vwN k) hts (cls_ws k hk) (hts _ (cls_ins k hk))
      exact ⟨(c, i), fun _ => h⟩
    · exact ⟨(0, fun _ => 0), fun h => absurd h hk⟩
  obtain ⟨f, hf⟩ := Classical.axiomOfChoice h1
  obtain ⟨a0, k0, c0, e0, f0, g0⟩ := Cond.arrayClass_spec (hts _ arc_int)
  obtain ⟨a1, k1, c1, e1, f1, g1⟩ := Cond.arrayClass_spec (hts _ arc_long)
  obtain ⟨a2, k2, c2, e2, f2, g2⟩ := Cond.arrayClass_spec (hts _ arc_bool)
  obtain ⟨c3, a3, k3, d3, -, f3, g3, e3⟩ := Cond.arrayOver_spec hAO
  obtain ⟨c4, a4, k4, d4, -, f4, g4, e4⟩ := arrayOverA_spec hAA
  refine ⟨(fun k => (f k).1, fun k => (f k).2), fun t => match t with | 0 => a0 | 1 => a1 | 2 => a2 | 3 => a3 | _ => a4, fun b o z X => ⟨fun k q hq => ?_, fun k q hq => ?_⟩⟩
  · have hk : k < 8 := (List.getElem?_eq_some_iff.mp hq).1
    have := cls_tab k hk
    rw [hq] at this
    cases this
    exact hf k hk
  · match k, hq with
    | 0, hq => cases hq; exact ⟨fun n z => ⟨fun k h => (by cases h), k0, f0, c0, g0⟩, e0⟩
    | 1, hq => cases hq; exact ⟨fun n z => ⟨fun k h => (by cases h), k1, f1, c1, g1⟩, e1⟩
    | 2, hq => cases hq; exact ⟨fun n z => ⟨fun k h => (by cases h), k2, f2, c2, g2⟩, e2⟩
    | 3, hq => cases hq; exact ⟨fun n z => ⟨fun k h => (by cases h), k3, f3, c3, g3⟩, k3, c3, f3, g3, d3, e3⟩
    | 4, hq => cases hq; exact ⟨fun n z => ⟨fun k h => (by cases h), k4, f4, c4, g4⟩, e4⟩
    | k + 5, hq => simp [tysW] at hq
end JN22lawsound
section JN23oldworld
/-! The old cells at the law's entry. -/
abbrev gvL : List Jvm.Cond := flatC (Jvm.Cond.and given_1 narrow_1)
def tAbove : Term := .static "PastCatchers" "ABOVE" "[I"
def tBodies : Term := .static "PastCatchers$Acts" "BODIES" "[I"
def tStr (i : Nat) : Term := .string RX4 (idxS i)
theorem gv_above : ∀ j, j < 7 → Jvm.Cond.eq (.elem tAbove (.int (Int32.ofNat j))) (.int (aboveL.getD j 0)) ∈ gvL := by decide +kernel
theorem gv_bodies : ∀ j, j < 21 → Jvm.Cond.eq (.elem tBodies (.int (Int32.ofNat j))) (.int (bodiesL.getD j 0)) ∈ gvL := by decide +kernel
theorem gv_s1 : ∀ i, i < 5 → Jvm.Cond.exactly (tStr i) "java/lang/String" ∈ gvL := by decide +kernel
theorem gv_s2 : ∀ i, i < 5 → Jvm.Cond.eq (.field (tStr i) "java/lang/String" "coder" "B") (.int 0) ∈ gvL := by decide +kernel
theorem gv_s3 : ∀ i, i < 5 → Jvm.Cond.arrayOf (.field (tStr i) "java/lang/String" "value" "[B") .byte ∈ gvL := by decide +kernel
theorem gv_s4 : ∀ i, i < 5 → Jvm.Cond.eq (.length (.field (tStr i) "java/lang/String" "value" "[B")) (.int (Int32.ofNat (strL.getD i 0))) ∈ gvL := by decide +kernel
theorem gv_s5 : ∀ i, i < 5 → ∀ j, j < strL.getD i 0 → Jvm.Cond.eq (.elem (.field (tStr i) "java/lang/String" "value" "[B") (.int (Int32.ofNat j))) (.int ((strB.getD i []).getD j 0)) ∈ gvL := by decide +kernel
theorem gv_s6 : ∀ i, i < 5 → ∀ j, j < 5 → i < j → Jvm.Cond.not (Jvm.Cond.eq (tStr i) (tStr j)) ∈ gvL := by decide +kernel
theorem tb_str : ∀ i, i < 5 → Jvm.Cond.stringRef RX4 (idxS i) (txS i) ∈ lw_tbl := by decide +kernel
theorem strL_lt : ∀ i, i < 5 → strL.getD i 0 < 2 ^ 31 := by decide +kernel
theorem old_tbl {s : State} {b L : Nat} {xs : Nat → Int32} (hts : ∀ q ∈ lw_tbl, q.before #[Value.ref b] s = true) (hX : va_X b L xs s s.heap) (hb : b < s.heap.size) (hgv : (Jvm.Cond.and given_1 narrow_1).before #[Value.ref b] s = true) :
    ∃ (o : Nat → Nat) (z : Value), o 0 = b ∧ ∀ (D : va_G) (cA : Nat → ClassId), OldW (s.heap.size, D, cA, o, z, (L, xs)) s := by
  have hg := flat_of_before _ hgv
  have hA : ∀ a : Nat, a < s.heap.size → ¬ (fun q => s.heap.size ≤ q) a := fun a h => Nat.not_le.mpr h
  obtain ⟨t1, e1, T1⟩ := va_Tof (tm := tAbove) (ty := .int) (N := 7) (f := fun j => .int (aboveL.getD j 0)) (by decide) (hg _ (by decide +kernel)) (va_eqt (hg _ (by decide +kernel))) (fun j hj => va_eqt (hg _ (gv_above j hj))) hA
  obtain ⟨t2, e2, T2⟩ := va_Tof (tm := tBodies) (ty := .int) (N := 21) (f := fun j => .int (bodiesL.getD j 0)) (by decide) (hg _ (by decide +kernel)) (va_eqt (hg _ (by decide +kernel))) (fun j hj => va_eqt (hg _ (gv_bodies j hj))) hA
  have Z1 := va_Zref (C := "PastCatchers") (n := "ABOVE") (d := "[I") (hts _ (by decide +kernel)) (hts _ (by decide +kernel)) e1 hA
  have Z2 := va_Zref (C := "PastCatchers$Acts") (n := "BODIES") (d := "[I") (hts _ (by decide +kernel)) (hts _ (by decide +kernel)) e2 hA
  have Z3 := va_Zof (C := "java/lang/String") (n := "COMPACT_STRINGS") (d := "Z") (hts _ (by decide +kernel)) (hts _ (by decide +kernel)) (va_eqi (z := 1) (hg _ (by decide +kernel))) hA
  have Z4 := va_Zqof (C := "jdk/internal/util/Preconditions") (n := "SIOOBE_FORMATTER") (d := "Ljava/util/function/BiFunction;") (hts _ (by decide +kernel)) (hts _ (by decide +kernel)) (hg _ (by decide +kernel)) hA
  obtain ⟨adK, adV, hS, hE⟩ := vk_Sof (N := 5) (tm := tStr) (len := strL) (byt := strB) strL_lt (fun i hi => hg _ (gv_s1 i hi)) (fun i hi => hg _ (gv_s2 i hi)) (fun i hi => hg _ (gv_s3 i hi)) (fun i hi => hg _ (gv_s4 i hi)) (fun i hi j hj => hg _ (gv_s5 i hi j hj))
    (fun i j hi hj hne => by
      rcases Nat.lt_or_gt_of_ne hne with h | h
      · exact Or.inl (hg _ (gv_s6 i hi j hj h))
      · exact Or.inr (hg _ (gv_s6 j hj i hi h))) hA
  have hz : ∃ z : Value, (z = .null ∨ ∃ t, z = .ref t) ∧ va_Z "jdk/internal/util/Preconditions" "SIOOBE_FORMATTER" "Ljava/util/function/BiFunction;" z (fun q => s.heap.size ≤ q) s s.heap := by
    rcases Z4 with h | ⟨t, h⟩
    · exact ⟨.null, Or.inl rfl, h⟩
    · exact ⟨.ref t, Or.inr ⟨t, rfl⟩, h⟩
  obtain ⟨z, hz1, hz2⟩ := hz
  have hao : va_AO RX5 s := va_AO.of (hts (.arrayOver (.object RX5)) (by decide +kernel))
  have haa : vz_AOA .long s := hts (.arrayOver (.array .long)) (by decide +kernel)
  refine ⟨fun j => if j = 0 then b else if j = 1 then t1 else if j = 2 then t2 else if j < 8 then adK (j - 3) else adV (j - 8), z, rfl, fun D cA => ?_⟩
  refine ⟨hX, hb, Nat.le_refl _, T1, T2, Z1, Z2, Z3, hz2, ?_, fun j hj => ?_, hao, haa, hz1⟩
  · have f1 : ∀ i, i < 5 → (if 3 + i = 0 then b else if 3 + i = 1 then t1 else if 3 + i = 2 then t2 else if 3 + i < 8 then adK (3 + i - 3) else adV (3 + i - 8)) = adK i := by
      intro i hi
      rw [if_neg (by omega), if_neg (by omega), if_neg (by omega), if_pos (by omega), show 3 + i - 3 = i by omega]
    have f2 : ∀ i, (if 8 + i = 0 then b else if 8 + i = 1 then t1 else if 8 + i = 2 then t2 else if 8 + i < 8 then adK (8 + i - 3) else adV (8 + i - 8)) = adV i := by
      intro i
      rw [if_neg (by omega), if_neg (by omega), if_neg (by omega), if_neg (by omega), show 8 + i - 8 = i by omega]
    obtain ⟨h1, h2⟩ := hS
    refine ⟨fun i hi => ?_, fun i j hi hj e => ?_⟩
    · show va_O _ (if _ then _ else _) _ _ _ ∧ va_OF _ _ _ _ (if _ then _ else _) _ _ _ ∧ va_OF _ _ _ (.ref (if _ then _ else _)) (if _ then _ else _) _ _ _ ∧ va_T _ (if _ then _ else _) _ _ _ _ _
      rw [f1 i hi, f2 i]
      exact h1 i hi
    · have e' : (if 3 + i = 0 then b else if 3 + i = 1 then t1 else if 3 + i = 2 then t2 else if 3 + i < 8 then adK (3 + i - 3) else adV (3 + i - 8)) = (if 3 + j = 0 then b else if 3 + j = 1 then t1 else if 3 + j = 2 then t2 else if 3 + j < 8 then adK (3 + j - 3) else adV (3 + j - 8)) := e
      rw [f1 i hi, f1 j hj] at e'
      exact h2 i j hi hj e'
  · have f1 : (if 3 + j = 0 then b else if 3 + j = 1 then t1 else if 3 + j = 2 then t2 else if 3 + j < 8 then adK (3 + j - 3) else adV (3 + j - 8)) = adK j := by
      rw [if_neg (by omega), if_neg (by omega), if_neg (by omega), if_pos (by omega), show 3 + j - 3 = j by omega]
    show vk_R RX4 (idxS j) (txS j) (if _ then _ else _) s
    rw [f1]
    exact vk_R.of (hts _ (tb_str j hj)) (hE j hj)
end JN23oldworld
section JN24lawrun
/-! A run of the law on the pure machine, from its entry to its return of 1, is the law's walk. -/
theorem mB0 : mBytes 0 = code := rfl
theorem mR0 : mRet 0 = ret := rfl
theorem mM0 : mMaxL 0 = 4 := rfl
theorem mN0 : (mName 0).cls = R_law ∧ (mName 0).name ≠ "<init>" := ⟨rfl, by decide +kernel⟩
theorem lR0 : ret = some .boolean := rfl
def lL0 : List Value := [.ref OLDB, .retAddr 0, .retAddr 0, .retAddr 0]
set_option maxHeartbeats 4000000 in
theorem law_sound {p : Program} {e : Env} {s : State} {m : MethodId} {below : List Frame} {meth : Method} {c : Code} (l : Launch) {b L : Nat} {xs : Nat → Int32} (C0 : lw_At p s m meth c b L xs) {n dp : Nat} {h' : Hp} (hr : run (L, xs) n dp 0 0 lL0 [] hp0 = some (some (.int 1), h')) (hdp : dp ≤ 1000) (hc : h'.1.length ≤ 600000) (hs : slotS h'.1 ≤ 7302250) :
    W p l e room_1 s m #[Value.ref b] below meth c s.heap [] 0 0 (lw_Z below #[Value.ref b] s) (entryFrame m ([Value.ref b] : List Value).toArray 4) := by
  obtain ⟨hx, hb, hrt, hml, hown, hts, hX, hbl, hlocks, hgv⟩ := id C0
  obtain ⟨o, z, ho, hO⟩ := old_tbl hts hX hbl hgv
  have hbg := own_tbl s hts
  obtain ⟨D, cA, hK⟩ := kn_tbl s hbg (va_AO.of (hts (.arrayOver (.object RX5)) (by decide +kernel))) (hts (.arrayOver (.array .long)) (by decide +kernel))
  have hO := hO D cA
  have hK := hK s.heap.size o z (L, xs)
  generalize hw : ((s.heap.size, D, cA, o, z, (L, xs)) : WC) = w at hO hK
  have hwb : w.1 = s.heap.size := by rw [← hw]
  have hwX : w.2.2.2.2.2 = (L, xs) := by rw [← hw]
  have hwo : w.2.2.2.1 0 = b := by rw [← hw]; exact ho
  have hwD : w.2.1 = D := by rw [← hw]
  rw [← hwX] at hr
  have htr : tr w (.ref OLDB) = .ref b := by
    have hB := OLDB_eq
    show (if OLDB = OLDB + 13 then w.2.2.2.2.1 else .ref (wfi w OLDB)) = .ref b
    rw [if_neg (by omega)]
    unfold wfi
    rw [if_neg (Nat.lt_irrefl _), Nat.sub_self, hwo]
  have M : MC w p s m #[Value.ref b] meth c 0 := ⟨hx, by rw [hb, mB0], by rw [hrt, mR0], hlocks, by rw [hml, mM0], by rw [mN0.1]; exact hown, fun q => absurd q mN0.2, hbg, nest_tbl s hts, by rw [hwD]; exact hK, hO⟩
  have hWd : WdH w s hp0 s.heap [] := ⟨by rw [hwb]; rfl, by intro k q hq; exact absurd hq (by simp [wsH, hp0]), va_S.rf⟩
  have hl := entL_has (w := w) hO.zc [.ref OLDB] (n := 4) (by decide)
  rw [lg_entry_eq]
  rw [show [Value.ref OLDB].map (tr w) = [Value.ref b] by rw [List.map_cons, htr]; rfl] at hl
  refine run_sound w l n dp 0 0 lL0 [] hp0 (some (.int 1)) h' hr (by decide) rfl p e room_1 s m #[Value.ref b] below meth c s.heap [] 0 0 _ _ 0 0 M ⟨by show 2 * dp + 2 ≤ 2048; omega, by show 64 * dp + 200 ≤ 84000; omega⟩ hWd hl rfl rfl (by rw [Nat.zero_add]; exact hc) (by rw [Nat.zero_add]; exact hs) ?_
  intro pc len i o' ls H locs cells slots st hdec hlen hret hW hcc hss
  unfold retO at hret
  split at hret
  · replace hret := Option.some.inj hret
    unfold retI at hret
    split at hret
    · rename_i x
      split at hret
      · obtain ⟨-, hret⟩ := inv_if hret
        cases hret
        have hd := dl hdec hlen (n := 0) rfl
        rw [mB0] at hd
        have hQ := lw_ret (p := p) (l := l) (e := e) (s := s) (m := m) (below := below) (meth := meth) (c := c) (b := b) hx hb hrt hlocks (pc := pc) (H := H) (ls := ls) hd
        refine va_forget (fun q hq => ?_) ?_
        · have := hW.2.2.2.2 q hq
          rw [← hwb]
          exact this
        · exact W.widen (k := 600000) (n := 7302250) (by omega) (by omega) hQ
      · cases hret
    · cases hret
  · replace hret := Option.some.inj hret
    unfold retL at hret
    split at hret
    · obtain ⟨-, hret⟩ := inv_if hret
      cases hret
    · cases hret
  · replace hret := Option.some.inj hret
    unfold retV at hret
    split at hret
    · obtain ⟨-, hret⟩ := inv_if hret
      cases hret
    · cases hret
  · cases hret
end JN24lawrun
