/-! new long[n][k]: the machine's loop, its heap, our world behind it. -/
def mmO (c : ClassId) (N h0 i : Nat) : Cell := arrV c N (fun j => if j < i then .ref (h0 + 1 + j) else .null)
def mmI (cy : ClassId) (K : Nat) : Cell := arrV cy K (fun _ => .long 0)
def mmS (s : State) (c cy : ClassId) (N K : Nat) : Nat → State
  | 0 => s.pushCell (mmO c N s.heap.size 0)
  | i + 1 => ((mmS s c cy N K i).pushCell (mmI cy K)).setCell s.heap.size (mmO c N s.heap.size (i + 1))
theorem mmO_step (c : ClassId) (N h0 i : Nat) : (mmO c N h0 i).setSlot i (.ref (h0 + 1 + i)) = mmO c N h0 (i + 1) := by
  unfold mmO
  rw [arrV_store]
  congr 1
  funext j
  by_cases e : j = i
  · subst e; simp [updV]
  · by_cases h : j < i
    · simp [updV, e, h, Nat.lt_succ_of_lt h]
    · simp [updV, e, h, show ¬ j < i + 1 by omega]
theorem mmS_facts (s : State) (c cy : ClassId) (N K : Nat) : ∀ i, (mmS s c cy N K i).heap.size = s.heap.size + 1 + i ∧ (mmS s c cy N K i).heap[s.heap.size]? = some (mmO c N s.heap.size i) ∧ (mmS s c cy N K i).vm = s.vm ∧ (mmS s c cy N K i).slotsUsed = s.slotsUsed + N + i * K ∧
    (∀ q : Nat, q < s.heap.size → (mmS s c cy N K i).heap[q]? = s.heap[q]?) ∧ ∀ j, j < i → (mmS s c cy N K i).heap[s.heap.size + 1 + j]? = some (mmI cy K)
  | 0 => ⟨by simp [mmS], by simp [mmS], rfl, by simp [mmS, mmO, arrV_size], fun q hq => State.heap_pushCell_of_lt _ _ hq, fun j h => absurd h (Nat.not_lt_zero _)⟩
  | i + 1 => by
    obtain ⟨a, b, d, u, o, r⟩ := mmS_facts s c cy N K i
    have hlt : s.heap.size < (mmS s c cy N K i).heap.size := by omega
    have hb' : ((mmS s c cy N K i).pushCell (mmI cy K)).heap[s.heap.size]? = some (mmO c N s.heap.size i) := by rw [State.heap_pushCell_of_lt (h := hlt)]; exact b
    refine ⟨by simp [mmS, State.setCell, a]; omega, State.heap_setCell_self hb', by simp [mmS, d], ?_, fun q hq => ?_, fun j hj => ?_⟩
    · simp [mmS, u, mmI, arrV_size, Nat.succ_mul]
      omega
    · show (((mmS s c cy N K i).pushCell (mmI cy K)).setCell s.heap.size _).heap[q]? = _
      have hq2 : q < (mmS s c cy N K i).heap.size := by rw [a]; omega
      rw [State.heap_setCell_other (Nat.ne_of_gt hq), State.heap_pushCell_of_lt (h := hq2)]
      exact o q hq
    · show (((mmS s c cy N K i).pushCell (mmI cy K)).setCell s.heap.size _).heap[s.heap.size + 1 + j]? = _
      rw [State.heap_setCell_other (show s.heap.size ≠ s.heap.size + 1 + j by omega)]
      rcases Nat.lt_or_ge j i with h | h
      · have hq2 : s.heap.size + 1 + j < (mmS s c cy N K i).heap.size := by rw [a]; omega
        rw [State.heap_pushCell_of_lt (h := hq2)]
        exact r j h
      · have e : j = i := by omega
        subst e
        rw [← a]
        exact State.heap_pushCell_size _ _
theorem mmS_top (s : State) (f : JFrame) (c cy : ClassId) (N K : Nat) : ∀ i, mmS (s.setTop f) c cy N K i = (mmS s c cy N K i).setTop f
  | 0 => rfl
  | i + 1 => by simp only [mmS, mmS_top s f c cy N K i, State.heap_setTop, State.pushCell_setTop, State.setCell_setTop]
section MM
variable {E : CtlPost} {e : Env} {d : Bool} {acts : List Action} {s : State}
theorem mm_new {c comp : ClassId} {k : Class} {ty : FieldType} {n : Nat} {v : Value} (hk : s.vm.classes[c]? = some k) (hkind : k.kind = .array comp ty) (h1 : ¬ n > e.platform.arrayLengthLimit) (h2 : ¬ n * componentBytes ty > e.platform.maxHeapBytes) (hf : fits ty v = true) (hd : v.isDefault = true)
    (h3 : s.heap.size < e.platform.maxCells) (h4 : s.slotsUsed + n ≤ e.platform.maxSlots) {Q : Addr → Pre} (hq : Q s.heap.size d acts (s.pushCell (arrV c n (fun _ => v)))) : wp (Jvm.newArray c n v) Q E e d acts s := by
  have hfits : ∀ i x, (Array.replicate n v)[i]? = some x → s.fitsSlot c .none i x = true := by
    intro i x hx
    simp only [Array.getElem?_replicate] at hx
    split at hx
    · cases hx; simp [State.fitsSlot, State.slotType?, hk, hkind, hf]
    · cases hx
  have hda : allocActs (Array.replicate n v) s.heap.size acts = acts := by
    have : ((Array.replicate n v).all (·.isDefault)) = true := by
      rw [Array.all_replicate]; split <;> simp [hd]
    unfold allocActs; rw [if_pos this]
  rw [← arrV_new] at hq
  simp only [Jvm.newArray, Jvm.arrayFits, wp_bind', W.ask, W.ite, h1, if_false, wp_pure', W.theClass, hk, hkind, h2, W.alloc, W.stop, Option.some.injEq, exists_eq_left', Array.size_replicate, hda]
  rw [if_neg (by omega)]
  exact ⟨h3, h4, hfits, hq⟩
theorem mm_make {c cy cc : ClassId} {k ky : Class} {n m : Int32} (hk : s.vm.classes[c]? = some k) (hkind : k.kind = .array cy (.array .long)) (hky : s.vm.classes[cy]? = some ky) (hkindy : ky.kind = .array cc .long) (hn : ¬ n < 0) (hm : ¬ m < 0)
    (hl1 : ¬ n.toNatClampNeg > e.platform.arrayLengthLimit) (hh1 : ¬ n.toNatClampNeg * componentBytes (.array .long) > e.platform.maxHeapBytes) (hl2 : ¬ m.toNatClampNeg > e.platform.arrayLengthLimit) (hh2 : ¬ m.toNatClampNeg * componentBytes .long > e.platform.maxHeapBytes)
    (hc : s.heap.size + 1 + n.toNatClampNeg ≤ e.platform.maxCells) (hs : s.slotsUsed + n.toNatClampNeg + n.toNatClampNeg * m.toNatClampNeg ≤ e.platform.maxSlots) {Q : Addr → Pre} (hq : ∀ d' acts', Q s.heap.size d' acts' (mmS s c cy n.toNatClampNeg m.toNatClampNeg n.toNatClampNeg)) :
    wp (Op.multianewarray.make c [n, m]) Q E e d acts s := by
  have hfind : ([m].find? (· < 0)) = none := by simp [hm]
  rw [Op.multianewarray.make]
  simp only [wp_bind', W.ite, hn, if_false, wp_pure', W.theClass, hk, hkind, Option.some.injEq, exists_eq_left']
  refine mm_new hk hkind hl1 hh1 rfl rfl (by omega) (by have := Nat.zero_le (n.toNatClampNeg * m.toNatClampNeg); omega) ?_
  simp only [hfind]
  rw [ite_self, wp_bind', Std.Legacy.Range.forIn_eq_forIn_range']
  have hsz : ([:n.toNatClampNeg] : Std.Legacy.Range).size = n.toNatClampNeg := by simp [Std.Legacy.Range.size]
  rw [hsz]
  show wp (forIn (List.range' 0 n.toNatClampNeg 1) PUnit.unit _) _ E e d acts _
  refine wp_forIn_inv (fun rest s' => ∃ i, i ≤ n.toNatClampNeg ∧ rest = List.range' i (n.toNatClampNeg - i) ∧ s' = mmS s c cy n.toNatClampNeg m.toNatClampNeg i) _ _ ⟨0, Nat.zero_le _, rfl, ?_⟩ ?_ ?_
  · show s.pushCell _ = s.pushCell _
    congr 1
  · rintro x rest s' d' acts' Q' ⟨i, hi, hl, rfl⟩ hnext
    have hlt : i < n.toNatClampNeg := by
      rcases Nat.lt_or_ge i n.toNatClampNeg with h | h
      · exact h
      · rw [show n.toNatClampNeg - i = 0 by omega] at hl; simp at hl
    obtain ⟨rfl, hrest⟩ : x = i ∧ rest = List.range' (i + 1) (n.toNatClampNeg - (i + 1)) := by
      rw [show n.toNatClampNeg - i = (n.toNatClampNeg - (i + 1)) + 1 by omega, List.range'_succ] at hl
      exact ⟨(List.cons.inj hl).1, (List.cons.inj hl).2⟩
    obtain ⟨f1, f2, f3, f4, -, -⟩ := mmS_facts s c cy n.toNatClampNeg m.toNatClampNeg x
    have hmul : x * m.toNatClampNeg + m.toNatClampNeg ≤ n.toNatClampNeg * m.toNatClampNeg := by
      have := Nat.mul_le_mul_right m.toNatClampNeg (show x + 1 ≤ n.toNatClampNeg from hlt)
      rw [Nat.succ_mul] at this
      exact this
    simp only [wp_bind']
    rw [Op.multianewarray.make]
    simp only [wp_bind', W.ite, hm, if_false, wp_pure', W.theClass, f3, hky, hkindy, Option.some.injEq, exists_eq_left']
    refine mm_new (by rw [f3]; exact hky) hkindy hl2 hh2 rfl rfl (by rw [f1]; omega) (by rw [f4]; omega) ?_
    have hlt0 : s.heap.size < (mmS s c cy n.toNatClampNeg m.toNatClampNeg x).heap.size := by rw [f1]; omega
    simp only [wp_bind', W.writeLoc, wp_pure']
    refine ⟨mmO c n.toNatClampNeg s.heap.size x, by rw [State.heap_pushCell_of_lt (h := hlt0)]; exact f2, by simp [mmO, arrV], by rw [mmO, arrV_size]; exact hlt, ?_, hnext _ _ _ ⟨x + 1, hlt, hrest, ?_⟩⟩
    · have e1 : (mmO c n.toNatClampNeg s.heap.size x).cls = c := rfl
      have e2 : (mmO c n.toNatClampNeg s.heap.size x).vm = .none := rfl
      rw [e1, e2]
      simp [State.fitsSlot, State.slotType?, f3, hk, hkind, fits]
    · rw [f1, mmO_step]
      rfl
  · rintro s' d' acts' ⟨i, hi, hl, rfl⟩
    have hiN : i = n.toNatClampNeg := by
      rcases Nat.lt_or_ge i n.toNatClampNeg with h | h
      · rw [show n.toNatClampNeg - i = (n.toNatClampNeg - (i + 1)) + 1 by omega, List.range'_succ] at hl; cases hl
      · omega
    subst hiN
    simp only [wp_pure']
    exact hq _ _
end MM
section MR
variable {w : WC} {p : Program} {l : Launch} {e : Env} {R : Room} {s : State} {m : MethodId} {args : Array Value} {below : List Frame} {meth : Method} {c : Code} {H : Heap} {locs : List Loc} {cells slots : Nat} {Q : State → Prop}
variable {y pc : Nat} {st : List Value} {ls : Array Slot} {h : Hp} {cc : ByteArray} {T : State}
theorem mm_stand (X : Stand p l e R s m args below meth c T locs cells slots) (cA cy : ClassId) (N K : Nat) : ∀ i, Stand p l e R s m args below meth c (mmS T cA cy N K i) (locs ++ (List.range i).map fun j => ⟨T.heap.size, j⟩) (cells + 1 + i) (slots + N + i * K)
  | 0 => by
    have h := X.pushed (mmO cA N T.heap.size 0)
    rw [show (mmO cA N T.heap.size 0).slots.size = N from arrV_size _ _ _] at h
    simpa [mmS] using h
  | i + 1 => by
    have Xi := mm_stand X cA cy N K i
    obtain ⟨f1, f2, f3, f4, -, -⟩ := mmS_facts T cA cy N K i
    have hlt0 : T.heap.size < (mmS T cA cy N K i).heap.size := by rw [f1]; omega
    have hcell : ((mmS T cA cy N K i).pushCell (mmI cy K)).heap[T.heap.size]? = some (mmO cA N T.heap.size i) := by rw [State.heap_pushCell_of_lt (h := hlt0)]; exact f2
    have h := (Xi.pushed (mmI cy K)).stored hcell i (.ref (T.heap.size + 1 + i))
    rw [mmO_step, show (mmI cy K).slots.size = K from arrV_size _ _ _] at h
    have e2 : (locs ++ (List.range (i + 1)).map fun j => (⟨T.heap.size, j⟩ : Loc)) = (locs ++ (List.range i).map fun j => (⟨T.heap.size, j⟩ : Loc)) ++ [⟨T.heap.size, i⟩] := by simp [List.range_succ, List.append_assoc]
    have e3 : slots + N + (i + 1) * K = slots + N + i * K + K := by rw [Nat.succ_mul]; omega
    rw [e2, e3]
    exact h
theorem z_mna (hx : p.tables.exec = Jvm.exec) (hb : c.code = cc) (hK : va_K w.2.1 vwCl (tysW w) s) (hts : ∀ q ∈ BIGG, q.before args s = true) {own : String} {index pl : Nat} (hown : s.vm.findClass own = some m.cls) (hW : WdH w s h H locs) (hlk : linkOK pl (.classLink own index "[[J") = true) (hAO : vz_AOA .long s) {n k : Int32} (hn : ¬ n < 0) (hk : ¬ k < 0) (hn2 : n.toNatClampNeg ≤ 1000) (hk2 : k.toNatClampNeg ≤ 1000)
    (hcells : cells + (1 + n.toNatClampNeg) ≤ R.cells) (hslots : slots + (n.toNatClampNeg + n.toNatClampNeg * k.toNatClampNeg) ≤ R.slots) (hd : decode cc pc = .ok (.multianewarray index 2, 4))
    (kk : ∀ H1 locs1, WdH w s (rowNew h n.toNatClampNeg k.toNatClampNeg) H1 locs1 → W p l e R s m args below meth c H1 locs1 (cells + (1 + n.toNatClampNeg)) (slots + (n.toNatClampNeg + n.toNatClampNeg * k.toNatClampNeg)) Q (F0 m (pc + 4) ls (.ref (w.1 + h.1.length) :: st))) :
    W p l e R s m args below meth c H locs cells slots Q (F0 m pc ls (.int k :: .int n :: st)) := by
  intro T hT X
  have hpl : e.platform.magicAccessors = ({} : Platform).magicAccessors := by rw [X.admits.platform]
  obtain ⟨comp, cA, kA, hcomp, -, hkA, hkindA, hnameA⟩ := arrayOverA_spec hAO
  obtain ⟨hArr, hRA⟩ := hK.2 1 _ rfl
  have hcy : s.vm.findClass (FieldType.array .long).toString = some (w.2.2.1 1) := hRA
  obtain rfl : comp = w.2.2.1 1 := Option.some.inj (hcomp.symm.trans hcy)
  obtain ⟨-, kC, hkC, ccl, hkindC⟩ := hArr 0 (fun _ => .null)
  have hcl0 := hts _ (linkOK_in hlk)
  obtain ⟨c0, hfc0, hcl⟩ := Cond.classLink_spec hown hcl0 e.platform hpl
  have hnameA' : s.vm.findClass "[[J" = some cA := hnameA
  obtain rfl : cA = c0 := Option.some.inj (hnameA'.symm.trans hfc0)
  have hcA4 : cA = w.2.2.1 4 := Option.some.inj (hnameA'.symm.trans (hK.2 4 _ rfl).2)
  obtain ⟨hg₁, hwarm₁, hready₁⟩ := State.classEntry (e := e) X.warmed hcl
  generalize T.vm.noted m.cls index (.cls cA) = vm₁ at hg₁ hwarm₁ hready₁
  have hal : s.vm.Alike vm₁ := hwarm₁.alike
  obtain ⟨kA₁, hkA₁, heA⟩ := hal.2.2 _ _ hkA
  obtain ⟨kC₁, hkC₁, heC⟩ := hal.2.2 _ _ hkC
  have hkindA₁ : kA₁.kind = .array (w.2.2.1 1) (.array .long) := by rw [heA]; exact hkindA
  have hkindC₁ : kC₁.kind = .array ccl .long := by rw [heC]; exact hkindC
  have X₁ := X.noted hwarm₁
  obtain ⟨hr1, hr2⟩ := X.roomAbove hcells hslots
  have XF := mm_stand X₁ cA (w.2.2.1 1) n.toNatClampNeg k.toNatClampNeg n.toNatClampNeg
  obtain ⟨f1, f2, f3, f4, f5, f6⟩ := mmS_facts (T.setVm vm₁) cA (w.2.2.1 1) n.toNatClampNeg k.toNatClampNeg n.toNatClampNeg
  have hTh : (T.setVm vm₁).heap = H := hT
  have hTz : (T.setVm vm₁).heap.size = w.1 + h.1.length := by rw [hTh]; exact hW.1
  have hWN : WdH w s (rowNew h n.toNatClampNeg k.toNatClampNeg) (mmS (T.setVm vm₁) cA (w.2.2.1 1) n.toNatClampNeg k.toNatClampNeg n.toNatClampNeg).heap locs := by
    refine hW.app (l := .inl (4, n.toNatClampNeg) :: List.replicate n.toNatClampNeg (.inl (1, k.toNatClampNeg))) rfl (fun b s' hb' => ?_) (by rw [f1, hTz, hW.1]; simp; omega) (fun q hq => by rw [f5 q (by rw [hTh]; exact hq), hTh]) (fun j s' hj => ?_)
    · refine cel_push (h := h) (a := b) (h' := rowNew h n.toNatClampNeg k.toNatClampNeg) ?_ ?_ ?_ s'
      · show (if h.1.length ≤ b then (fun _ => (0 : Int32)) else h.2.1 b) = h.2.1 b
        rw [if_neg (by omega)]
      · show (if h.1.length ≤ b then (fun _ => (0 : Int64)) else h.2.2.1 b) = h.2.2.1 b
        rw [if_neg (by omega)]
      · show (if b = h.1.length then (fun i => if i < n.toNatClampNeg then some (h.1.length + 1 + i) else none) else if h.1.length ≤ b then (fun _ => none) else h.2.2.2 b) = h.2.2.2 b
        rw [if_neg (by omega), if_neg (by omega)]
    · cases j with
      | zero =>
        rw [List.getElem?_cons_zero] at hj
        cases hj
        show (mmS (T.setVm vm₁) cA (w.2.2.1 1) n.toNatClampNeg k.toNatClampNeg n.toNatClampNeg).heap[w.1 + (h.1.length + 0)]? = some (vp_cell (w.2.2.1 4) (n.toNatClampNeg, cfa w (rowNew h n.toNatClampNeg k.toNatClampNeg) (h.1.length + 0) 4))
        rw [Nat.add_zero, ← hTz, f2, cfa_4, vp_cell_q, ← hcA4, hTz]
        unfold mmO
        congr 2
        funext j
        have er : (rowNew h n.toNatClampNeg k.toNatClampNeg).2.2.2 h.1.length j = if j < n.toNatClampNeg then some (h.1.length + 1 + j) else none := by
          show (if h.1.length = h.1.length then (fun i => if i < n.toNatClampNeg then some (h.1.length + 1 + i) else none) else if h.1.length ≤ h.1.length then (fun _ => none) else h.2.2.2 h.1.length) j = _
          rw [if_pos rfl]
        rw [er]
        by_cases hj2 : j < n.toNatClampNeg
        · rw [if_pos hj2, if_pos hj2]
          show Value.ref (w.1 + h.1.length + 1 + j) = Value.ref (w.1 + (h.1.length + 1 + j))
          rw [show w.1 + h.1.length + 1 + j = w.1 + (h.1.length + 1 + j) by omega]
        · rw [if_neg hj2, if_neg hj2]
          rfl
      | succ j =>
        rw [List.getElem?_cons_succ] at hj
        have hjn : j < n.toNatClampNeg := by
          have := (List.getElem?_eq_some_iff.mp hj).1
          simpa using this
        rw [List.getElem?_replicate, if_pos hjn] at hj
        cases hj
        show (mmS (T.setVm vm₁) cA (w.2.2.1 1) n.toNatClampNeg k.toNatClampNeg n.toNatClampNeg).heap[w.1 + (h.1.length + (j + 1))]? = some (vp_cell (w.2.2.1 1) (k.toNatClampNeg, cfa w (rowNew h n.toNatClampNeg k.toNatClampNeg) (h.1.length + (j + 1)) 1))
        have h6 := f6 j hjn
        rw [hTz] at h6
        rw [show w.1 + (h.1.length + (j + 1)) = w.1 + h.1.length + 1 + j by omega, h6, cfa_1, vp_cell_l]
        unfold mmI
        congr 2
        funext i
        show Value.long 0 = .long ((if h.1.length ≤ h.1.length + (j + 1) then (fun _ => (0 : Int64)) else h.2.2.1 (h.1.length + (j + 1))) i)
        rw [if_pos (by omega)]
  have hWN2 : WdH w s (rowNew h n.toNatClampNeg k.toNatClampNeg) (mmS (T.setVm vm₁) cA (w.2.2.1 1) n.toNatClampNeg k.toNatClampNeg n.toNatClampNeg).heap (locs ++ (List.range n.toNatClampNeg).map fun j => ⟨(T.setVm vm₁).heap.size, j⟩) := by
    refine ⟨hWN.1, hWN.2.1, hWN.2.2.1, hWN.2.2.2.1, fun q hq => ?_⟩
    rcases List.mem_append.mp hq with h9 | h9
    · exact hW.2.2.2.2 q h9
    · obtain ⟨z, -, hz⟩ := List.mem_map.mp h9
      rw [← hz]
      show w.1 ≤ (T.setVm vm₁).heap.size
      omega
  obtain ⟨t, a1, b1⟩ := kk _ _ hWN2 (mmS (T.setVm vm₁) cA (w.2.2.1 1) n.toNatClampNeg k.toNatClampNeg n.toNatClampNeg) rfl (by
    have e1 : cells + 1 + n.toNatClampNeg = cells + (1 + n.toNatClampNeg) := by omega
    have e2 : slots + n.toNatClampNeg + n.toNatClampNeg * k.toNatClampNeg = slots + (n.toNatClampNeg + n.toNatClampNeg * k.toNatClampNeg) := by omega
    rw [← e1, ← e2]
    exact XF)
  refine ⟨t, ?_, b1⟩
  have hl1 : ¬ n.toNatClampNeg > e.platform.arrayLengthLimit := by rw [Launch.admits_arrayLengthLimit X.admits]; omega
  have hh1 : ¬ n.toNatClampNeg * componentBytes (.array .long) > e.platform.maxHeapBytes := by
    rw [Launch.admits_maxHeapBytes X.admits]; show ¬ n.toNatClampNeg * 4 > 536870912; omega
  have hl2 : ¬ k.toNatClampNeg > e.platform.arrayLengthLimit := by rw [Launch.admits_arrayLengthLimit X.admits]; omega
  have hh2 : ¬ k.toNatClampNeg * componentBytes .long > e.platform.maxHeapBytes := by rw [Launch.admits_maxHeapBytes X.admits]; show ¬ k.toNatClampNeg * 8 > 536870912; omega
  jvm_step X.here [hx, hb, hd, X.here.top]
  simp only [Op.multianewarray.sem, wp_bind', W.resolveClassAt_links (State.method?_setTop (F0 m pc ls (.int k :: .int n :: st)) X.here.top) hg₁]
  rw [W.popN, if_neg (by decide)]
  refine ⟨F0 m pc ls (.int k :: .int n :: st), State.topJava?_setTop' (s := T.setVm vm₁) (F0 m pc ls (.int k :: .int n :: st)) X.here.top, [.int n, .int k], st, rfl, rfl, ?_⟩
  simp only [List.mapM_cons, List.mapM_nil, wp_bind', wp_pure']
  refine mm_make (k := kA₁) (ky := kC₁) (cy := w.2.2.1 1) (cc := ccl) hkA₁ hkindA₁ hkC₁ hkindC₁ hn hk hl1 hh1 hl2 hh2 (by show T.heap.size + 1 + _ ≤ _; omega) (by show T.slotsUsed + _ + _ ≤ _; omega) (fun d' acts' => ?_)
  have eS : ((T.setTop (F0 m pc ls (.int k :: .int n :: st))).setVm vm₁).setTop { F0 m pc ls (.int k :: .int n :: st) with stack := st } = (T.setVm vm₁).setTop { F0 m pc ls (.int k :: .int n :: st) with stack := st } := by
    show ((T.setVm vm₁).setTop (F0 m pc ls (.int k :: .int n :: st))).setTop _ = _
    rw [State.setTop_setTop]
  rw [eS, mmS_top]
  simp only [wp_bind', W.mark, W.pushRef, State.topJava?_setTop' _ XF.here.top, Option.some.injEq, exists_eq_left', State.setTop_setTop, State.heap_setTop]
  intro acts
  simp [jvm, XF.here.top]
  rw [show T.heap.size = w.1 + h.1.length from hTz]
  exact a1
end MR
