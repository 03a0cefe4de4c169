section JN06world
/-! The world: what the real heap holds when the pure machine's heap is h. -/
abbrev WC : Type := Nat × va_G × (Nat → ClassId) × (Nat → Nat) × Value × Scr
def wfi (w : WC) (n : Nat) : Nat := if n < OLDB then w.1 + n else w.2.2.2.1 (n - OLDB)
def tr (w : WC) : Value → Value
  | .ref n => if n = OLDB + 13 then w.2.2.2.2.1 else .ref (wfi w n)
  | v => v
def Ab (w : WC) : Nat → Prop := fun q => w.1 ≤ q
def cfv (w : WC) (h : Hp) (ci a k : Nat) : Value := if isRefTy (vwTy ci k) = true then va_rf ((h.2.2.2 a k).map (fun b => w.1 + b)) else .int (h.2.1 a k)
def cfa (w : WC) (h : Hp) (a t : Nat) : (Nat → Int32) ⊕ (Nat → Int64) ⊕ (Nat → UInt32) ⊕ (Nat → UInt64) ⊕ (Nat → Option Nat) :=
  if t = 0 ∨ t = 2 then .inl (h.2.1 a) else if t = 1 then .inr (.inl (h.2.2.1 a)) else .inr (.inr (.inr (.inr (fun i => (h.2.2.2 a i).map (fun b => w.1 + b)))))
def cel (w : WC) (h : Hp) (a : Nat) : Sh → va_E
  | .inl q => .inl (w.2.2.1 q.1, q.2, cfa w h a q.1)
  | .inr ci => .inr (ci, (List.range (vwN ci)).map (fun k => cfv w h ci a k))
def wsH (w : WC) (h : Hp) : va_W := (List.range h.1.length).map (fun a => (w.1 + a, cel w h a (h.1.getD a (.inr 0))))
def tysW (w : WC) : List (ClassId × FieldType) := [(w.2.2.1 0, .int), (w.2.2.1 1, .long), (w.2.2.1 2, .boolean), (w.2.2.1 3, .object RX5), (w.2.2.1 4, .array .long)]
def shSz : Sh → Nat
  | .inl q => q.2
  | .inr ci => vwN ci
def slotS (l : List Sh) : Nat := (l.map shSz).sum
theorem wsH_get {w : WC} {h : Hp} {a : Nat} {s : Sh} (hs : h.1[a]? = some s) : (wsH w h)[a]? = some (w.1 + a, cel w h a s) := by
  have hl := (List.getElem?_eq_some_iff.mp hs).1
  unfold wsH
  rw [List.getElem?_map, List.getElem?_range hl]
  simp [List.getD_eq_getElem?_getD, hs]
theorem wsH_len (w : WC) (h : Hp) : (wsH w h).length = h.1.length := by simp [wsH]
theorem wsH_D (w : WC) (h : Hp) : va_D (Ab w) (wsH w h) := by
  have key : ∀ (k : Nat) (q : Nat × va_E), (wsH w h)[k]? = some q → q.1 = w.1 + k := by
    intro k q hk
    have hl : k < h.1.length := by rw [← wsH_len w h]; exact (List.getElem?_eq_some_iff.mp hk).1
    unfold wsH at hk
    rw [List.getElem?_map, List.getElem?_range hl] at hk
    cases hk
    rfl
  refine ⟨fun i j p q hi hj hpq => ?_, fun k q hk => ?_⟩
  · have h1 := key i p hi
    have h2 := key j q hj
    omega
  · have h1 := key k q hk
    show w.1 ≤ q.1
    omega
theorem wsH_set {w : WC} {h h' : Hp} {a : Nat} {s : Sh} (hs : h.1[a]? = some s) (h1 : h'.1 = h.1) (ho : ∀ b s', b ≠ a → cel w h' b s' = cel w h b s') : (wsH w h).set a (w.1 + a, cel w h' a s) = wsH w h' := by
  have hl := (List.getElem?_eq_some_iff.mp hs).1
  apply List.ext_getElem?
  intro k
  by_cases hk : k = a
  · subst hk
    rw [List.getElem?_set_self (by rw [wsH_len]; exact hl), wsH_get (h := h') (s := s) (by rw [h1]; exact hs)]
  · rw [List.getElem?_set_ne (Ne.symm hk)]
    by_cases hkl : k < h.1.length
    · have e : h.1[k]? = some h.1[k] := List.getElem?_eq_getElem hkl
      rw [wsH_get e, wsH_get (h := h') (s := h.1[k]) (by rw [h1]; exact e), ho k _ hk]
    · rw [List.getElem?_eq_none (by rw [wsH_len]; omega), List.getElem?_eq_none (by rw [wsH_len, h1]; omega)]
theorem cel_push {w : WC} {h : Hp} {h' : Hp} {a : Nat} (hd : h'.2.1 a = h.2.1 a) (he : h'.2.2.1 a = h.2.2.1 a) (hr : h'.2.2.2 a = h.2.2.2 a) (s : Sh) : cel w h' a s = cel w h a s := by
  cases s with
  | inl q => simp only [cel, cfa, hd, he, hr]
  | inr ci => simp only [cel, cfv, hd, hr]
theorem wsH_app {w : WC} {h h' : Hp} {l : List Sh} (h1 : h'.1 = h.1 ++ l) (ho : ∀ b s', b < h.1.length → cel w h' b s' = cel w h b s') :
    wsH w h' = wsH w h ++ (List.range l.length).map (fun j => (w.1 + (h.1.length + j), cel w h' (h.1.length + j) (l.getD j (.inr 0)))) := by
  apply List.ext_getElem?
  intro k
  by_cases hk : k < h.1.length
  · rw [List.getElem?_append_left (by rw [wsH_len]; exact hk)]
    have e : h.1[k]? = some h.1[k] := List.getElem?_eq_getElem hk
    rw [wsH_get e, wsH_get (h := h') (s := h.1[k]) (by rw [h1, List.getElem?_append_left hk]; exact e), ho k _ hk]
  · rw [List.getElem?_append_right (by rw [wsH_len]; omega), wsH_len]
    by_cases hk2 : k - h.1.length < l.length
    · have e : h'.1[k]? = some (l.getD (k - h.1.length) (.inr 0)) := by
        rw [h1, List.getElem?_append_right (by omega), List.getD_eq_getElem?_getD, List.getElem?_eq_getElem hk2]
        rfl
      rw [wsH_get e, List.getElem?_map, List.getElem?_range hk2]
      simp only [Option.map_some]
      rw [show h.1.length + (k - h.1.length) = k by omega]
    · rw [List.getElem?_eq_none (by rw [wsH_len, h1, List.length_append]; omega), List.getElem?_eq_none (by simp; omega)]
/-- arrays over an array type stand in the tables -/
def vz_AOA (t : FieldType) (U : State) : Prop := (Jvm.Cond.arrayOver (.array t)).before #[] U = true
theorem vz_AOA.moved {t : FieldType} {u U : State} (hvm : u.vm.Alike U.vm) (h : vz_AOA t u) : vz_AOA t U := by
  obtain ⟨comp, c, k, h1, h2, h3, h4, h5⟩ := arrayOverA_spec h
  obtain ⟨k', hk', he⟩ := hvm.2.2 _ _ h3
  have hi : (U.vm.classes.findIdx? fun (x : Class) => match x.kind with | .array component _ => component == comp | _ => false) = some c := by
    rw [hvm.findIdx?_eq _ (fun _ => rfl)]
    exact h2
  have hkind : k'.kind = .array comp (.array t) := by rw [he]; exact h4
  have f1 : U.vm.findClass (FieldType.array t).toString = some comp := by rw [hvm.findClass]; exact h1
  have f2 : U.vm.findClass ("[" ++ (FieldType.array t).toString) = some c := by rw [hvm.findClass]; exact h5
  unfold vz_AOA Jvm.Cond.before Jvm.Cond.holds
  simp only [Jvm.Cond.value]
  rw [f1, Option.bind_some]
  refine (congrArg (fun o : Option Nat => (o.bind (fun c => (U.vm.classes[c]?).map fun (k : Class) => match k.kind with | .array _ ty => decide (ty = FieldType.array t) && decide (U.vm.findClass ("[" ++ (FieldType.array t).toString) = some c) | _ => false) == some true)) hi).trans ?_
  simp [hk', hkind, f2]
/-- the old cells: the script, the two tables, the texts, some statics -/
def OldW (w : WC) (s : State) : Prop :=
  va_X (w.2.2.2.1 0) w.2.2.2.2.2.1 w.2.2.2.2.2.2 s s.heap ∧ w.2.2.2.1 0 < w.1 ∧ w.1 ≤ s.heap.size ∧
  va_T .int (w.2.2.2.1 1) 7 (fun j => .int (aboveL.getD j 0)) (Ab w) s s.heap ∧ va_T .int (w.2.2.2.1 2) 21 (fun j => .int (bodiesL.getD j 0)) (Ab w) s s.heap ∧
  va_Z "PastCatchers" "ABOVE" "[I" (.ref (w.2.2.2.1 1)) (Ab w) s s.heap ∧ va_Z "PastCatchers$Acts" "BODIES" "[I" (.ref (w.2.2.2.1 2)) (Ab w) s s.heap ∧
  va_Z "java/lang/String" "COMPACT_STRINGS" "Z" (.int 1) (Ab w) s s.heap ∧ va_Z "jdk/internal/util/Preconditions" "SIOOBE_FORMATTER" "Ljava/util/function/BiFunction;" w.2.2.2.2.1 (Ab w) s s.heap ∧
  vk_S 5 strL strB (fun i => w.2.2.2.1 (3 + i)) (fun i => w.2.2.2.1 (8 + i)) (Ab w) s s.heap ∧
  (∀ j, j < 5 → vk_R RX4 (idxS j) (txS j) (w.2.2.2.1 (3 + j)) s) ∧ va_AO RX5 s ∧ vz_AOA .long s ∧ (w.2.2.2.2.1 = .null ∨ ∃ t, w.2.2.2.2.1 = .ref t)
def NestW (s : State) : Prop := ∀ q ∈ NEST, va_Nw q s
theorem NestW.warm {s U : State} (hW : s.WarmedH U.vm) (h : NestW s) : NestW U := by
  intro q hq
  have h1 := h q hq
  have h2 := (List.mem_filter.mp hq).2
  cases q with
  | fieldLinkNest a i b n d x => exact va_Nw.warmF hW h1
  | methodLinkNest a i x hh => exact va_Nw.warmM hW h1
  | _ => cases h2
theorem NestW.same {u U : State} (e : u.vm = U.vm) (h : NestW u) : NestW U := by
  intro q hq
  have h1 := h q hq
  have h2 := (List.mem_filter.mp hq).2
  cases q with
  | fieldLinkNest a i b n d x => exact va_Nw.same rfl e h1
  | methodLinkNest a i x hh => exact va_Nw.same rfl e h1
  | _ => cases h2
/-- into a callee: the heap has gone on, the tables are warm -/
theorem OldW.to {w : WC} {s U : State} {H : Heap} {locs : List Loc} (h : OldW w s) (hS : va_S (Ab w) s.heap H locs) (hU : U.heap = H) (hW : s.WarmedH U.vm) : OldW w U := by
  obtain ⟨hX, hb, hz, hT1, hT2, hZ1, hZ2, hZ3, hZ4, hK, hR, hA, hAA, hq⟩ := h
  have hk : ∀ a : Nat, a < s.heap.size → ¬ Ab w a → U.heap[a]? = s.heap[a]? := fun a h1 h2 => by rw [hU]; exact hS.2.1 a h1 h2
  refine ⟨(hX.moved hW.alike).kept (hk _ (by omega) (by show ¬ w.1 ≤ _; omega)), hb, ?_, (hT1.moved hW.alike).kept hk, (hT2.moved hW.alike).kept hk, (hZ1.moved hW.alike).kept hk, (hZ2.moved hW.alike).kept hk, (hZ3.moved hW.alike).kept hk, (hZ4.moved hW.alike).kept hk, (hK.moved hW.alike).kept hk, fun j hj => (hR j hj).warm hW, hA.moved hW.alike, hAA.moved hW.alike, hq⟩
  rw [hU]
  exact Nat.le_trans hz hS.1
theorem OldW.same {w : WC} {u U : State} (h : OldW w u) (e : U.vm = u.vm) (eh : U.heap = u.heap) : OldW w U := by
  obtain ⟨hX, hb, hz, hT1, hT2, hZ1, hZ2, hZ3, hZ4, hK, hR, hA, hAA, hq⟩ := h
  have ha : u.vm.Alike U.vm := by rw [e]; exact Vm.Alike.refl _
  rw [← eh] at hX hT1 hT2 hZ1 hZ2 hZ3 hZ4 hK
  exact ⟨hX.moved ha, hb, by rw [eh]; exact hz, hT1.moved ha, hT2.moved ha, hZ1.moved ha, hZ2.moved ha, hZ3.moved ha, hZ4.moved ha, hK.moved ha, fun j hj => (hR j hj).same e, hA.moved ha, hAA.moved ha, hq⟩
end JN06world
section JN07pure
/-! The pure step is the machine's: instructions on locals, stack and numbers. -/
def isJunk : Value → Bool
  | .retAddr _ => true
  | _ => false
def asL (w : WC) (L : List Value) : List (Nat × Value) := L.zipIdx.filterMap (fun q => if isJunk q.1 = true then none else some (q.2, tr w q.1))
theorem asL_mem {w : WC} {L : List Value} {i : Nat} {v : Value} : (i, v) ∈ asL w L ↔ ∃ u, L[i]? = some u ∧ isJunk u = false ∧ v = tr w u := by
  unfold asL
  rw [List.mem_filterMap]
  constructor
  · rintro ⟨⟨u, j⟩, hm, h⟩
    have hm := List.mem_zipIdx_iff_getElem?.mp hm
    by_cases hj : isJunk u = true
    · simp [hj] at h
    · simp only [hj] at h
      cases h
      exact ⟨u, hm, by simpa using hj, rfl⟩
  · rintro ⟨u, hu, hj, rfl⟩
    exact ⟨(u, i), List.mem_zipIdx_iff_getElem?.mpr hu, by simp [hj]⟩
theorem lv_mono {ls : Array Slot} {nL : Nat} {l l' : List (Nat × Value)} (h : lv_has ls nL l) (hs : ∀ q ∈ l', q ∈ l) : lv_has ls nL l' := ⟨h.1, h.2.1, fun q hq => h.2.2 q (hs q hq)⟩
theorem asL_at {w : WC} {ls : Array Slot} {nL : Nat} {L : List Value} {i : Nat} {u : Value} (h : lv_has ls nL (asL w L)) (hu : L[i]? = some u) (hj : isJunk u = false) : ls[i]? = some (.val (tr w u)) :=
  h.2.2 (i, tr w u) (asL_mem.mpr ⟨u, hu, hj, rfl⟩)
theorem tr_cat {w : WC} (hz : w.2.2.2.2.1.category = 1) (v : Value) : (tr w v).category = v.category := by
  cases v with
  | ref n =>
    simp only [tr]
    split
    · rw [hz]; rfl
    · rfl
  | _ => rfl
theorem asL_set {w : WC} (hz : w.2.2.2.2.1.category = 1) {L : List Value} {k : Nat} {v : Value} (hok : okSt L k = true) :
    ∀ q ∈ asL w (L.set k v), q ∈ (k, tr w v) :: (asL w L).filter (fun q => !(q.1 == k) && !(q.1 + 1 == k && q.2.category == 2)) := by
  rintro ⟨i, x⟩ hq
  obtain ⟨u, hu, hj, rfl⟩ := asL_mem.mp hq
  by_cases hi : i = k
  · subst hi
    rw [List.getElem?_set_self'] at hu
    cases hl : L[i]? with
    | none => rw [hl] at hu; cases hu
    | some z => rw [hl] at hu; cases hu; exact List.mem_cons_self
  · rw [List.getElem?_set_ne (Ne.symm hi)] at hu
    refine List.mem_cons_of_mem _ (List.mem_filter.mpr ⟨asL_mem.mpr ⟨u, hu, hj, rfl⟩, ?_⟩)
    have h1 : (i == k) = false := by simpa using hi
    rw [h1]
    by_cases h2 : i + 1 = k
    · subst h2
      simp only [okSt, hu] at hok
      have hc : u.category = 1 := by simpa using hok
      simp [tr_cat hz, hc]
    · have h3 : (i + 1 == k) = false := by simpa using h2
      rw [h3]
      rfl
theorem asL_set2 {w : WC} (hz : w.2.2.2.2.1.category = 1) {L : List Value} {k : Nat} {x : Int64} (hok : okSt L k = true) :
    ∀ q ∈ asL w ((L.set k (.long x)).set (k + 1) (.retAddr 0)), q ∈ (k, .long x) :: (asL w L).filter (fun q => !(q.1 == k) && (!(q.1 == k + 1) && !(q.1 + 1 == k && q.2.category == 2))) := by
  rintro ⟨i, y⟩ hq
  obtain ⟨u, hu, hj, rfl⟩ := asL_mem.mp hq
  by_cases hk1 : i = k + 1
  · subst hk1
    rw [List.getElem?_set_self'] at hu
    cases hl : (L.set k (.long x))[k + 1]? with
    | none => rw [hl] at hu; cases hu
    | some z => rw [hl] at hu; cases hu; cases hj
  · rw [List.getElem?_set_ne (Ne.symm hk1)] at hu
    have h := asL_set hz (v := .long x) hok (i, tr w u) (asL_mem.mpr ⟨u, hu, hj, rfl⟩)
    rcases List.mem_cons.mp h with h | h
    · rw [h]; exact List.mem_cons_self
    · obtain ⟨h1, h2⟩ := List.mem_filter.mp h
      refine List.mem_cons_of_mem _ (List.mem_filter.mpr ⟨h1, ?_⟩)
      have h3 : (i == k + 1) = false := by simpa using hk1
      simp only [h3] at h2 ⊢
      simpa using h2
theorem dl {cc : ByteArray} {pc len n : Nat} {i : Instr} (hdec : decode cc pc = .ok (i, len)) (hlen : ilen i = 0 ∨ ilen i = len) (h : ilen i = n + 1) : decode cc pc = .ok (i, n + 1) := by
  rcases hlen with h0 | h0
  · rw [h0] at h; cases h
  · rw [hdec, ← h0, h]
theorem jump_eq {pc t : Nat} {off : Int} (h : jump pc off = some t) : (pc : Int) + off = (t : Int) := by
  unfold jump at h
  split at h
  · cases h; omega
  · cases h
section INV
variable {α : Type} {st : List Value} {r : α}
theorem inv_i {f : Int32 → List Value → Option α} (h : (match st with | .int x :: st => f x st | _ => none) = some r) : ∃ x st', st = .int x :: st' ∧ f x st' = some r := by
  split at h
  · exact ⟨_, _, rfl, h⟩
  · cases h
theorem inv_ii {f : Int32 → Int32 → List Value → Option α} (h : (match st with | .int y :: .int x :: st => f y x st | _ => none) = some r) : ∃ y x st', st = .int y :: .int x :: st' ∧ f y x st' = some r := by
  split at h
  · exact ⟨_, _, _, rfl, h⟩
  · cases h
theorem inv_l {f : Int64 → List Value → Option α} (h : (match st with | .long x :: st => f x st | _ => none) = some r) : ∃ x st', st = .long x :: st' ∧ f x st' = some r := by
  split at h
  · exact ⟨_, _, rfl, h⟩
  · cases h
theorem inv_ll {f : Int64 → Int64 → List Value → Option α} (h : (match st with | .long y :: .long x :: st => f y x st | _ => none) = some r) : ∃ y x st', st = .long y :: .long x :: st' ∧ f y x st' = some r := by
  split at h
  · exact ⟨_, _, _, rfl, h⟩
  · cases h
theorem inv_il {f : Int32 → Int64 → List Value → Option α} (h : (match st with | .int y :: .long x :: st => f y x st | _ => none) = some r) : ∃ y x st', st = .int y :: .long x :: st' ∧ f y x st' = some r := by
  split at h
  · exact ⟨_, _, _, rfl, h⟩
  · cases h
theorem inv_r {f : Nat → List Value → Option α} (h : (match st with | .ref x :: st => f x st | _ => none) = some r) : ∃ x st', st = .ref x :: st' ∧ f x st' = some r := by
  split at h
  · exact ⟨_, _, rfl, h⟩
  · cases h
theorem inv_v {f : Value → List Value → Option α} (h : (match st with | x :: st => f x st | _ => none) = some r) : ∃ x st', st = x :: st' ∧ f x st' = some r := by
  split at h
  · exact ⟨_, _, rfl, h⟩
  · cases h
theorem inv_vv {f : Value → Value → List Value → Option α} (h : (match st with | x :: y :: st => f x y st | _ => none) = some r) : ∃ x y st', st = x :: y :: st' ∧ f x y st' = some r := by
  split at h
  · exact ⟨_, _, _, rfl, h⟩
  · cases h
theorem inv_oi {o : Option Value} {f : Int32 → Option α} (h : (match o with | some (.int x) => f x | _ => none) = some r) : ∃ x, o = some (.int x) ∧ f x = some r := by
  split at h
  · exact ⟨_, rfl, h⟩
  · cases h
theorem inv_ol {o : Option Value} {f : Int64 → Option α} (h : (match o with | some (.long x) => f x | _ => none) = some r) : ∃ x, o = some (.long x) ∧ f x = some r := by
  split at h
  · exact ⟨_, rfl, h⟩
  · cases h
theorem inv_or {o : Option Value} {f : Nat → Option α} (h : (match o with | some (.ref x) => f x | _ => none) = some r) : ∃ x, o = some (.ref x) ∧ f x = some r := by
  split at h
  · exact ⟨_, rfl, h⟩
  · cases h
theorem inv_if {c : Prop} [Decidable c] {a : Option α} (h : (if c then a else none) = some r) : c ∧ a = some r := by
  by_cases hc : c
  · rw [if_pos hc] at h; exact ⟨hc, h⟩
  · rw [if_neg hc] at h; cases h
theorem inv_ifn {c : Prop} [Decidable c] {a : Option α} (h : (if c then none else a) = some r) : ¬ c ∧ a = some r := by
  by_cases hc : c
  · rw [if_pos hc] at h; cases h
  · rw [if_neg hc] at h; exact ⟨hc, h⟩
end INV
theorem bif_t {b : Bool} {α : Type} {x y : α} (h : b = true) : (if b = true then x else y) = x := if_pos h
theorem bif_f {b : Bool} {α : Type} {x y : α} (h : ¬ b = true) : (if b = true then x else y) = y := if_neg h
end JN07pure
section JN08psound
/-- the facts of one method that its instructions stand on -/
def MC (w : WC) (p : Program) (s : State) (m : MethodId) (args : Array Value) (meth : Method) (c : Code) (y : Nat) : Prop :=
  p.tables.exec = Jvm.exec ∧ c.code = mBytes y ∧ meth.sig.returnType = mRet y ∧ meth.locks = false ∧ c.maxLocals = mMaxL y ∧ s.vm.findClass (mName y).cls = some m.cls ∧ ((mName y).name = "<init>" → meth.name = "<init>") ∧
  (∀ q ∈ BIGG, q.before args s = true) ∧ NestW s ∧ va_K w.2.1 vwCl (tysW w) s ∧ OldW w s
theorem OldW.zc {w : WC} {s : State} (h : OldW w s) : w.2.2.2.2.1.category = 1 := by
  rcases h.2.2.2.2.2.2.2.2.2.2.2.2.2 with e | ⟨t, e⟩ <;> rw [e] <;> rfl
section PS
variable {w : WC} {p : Program} {l : Launch} {e : Env} {R : Room} {s : State} {m : MethodId} {args : Array Value} {below : List Frame} {meth : Method} {c : Code} {H : Heap} {locs : List Loc} {cells slots : Nat} {Q : State → Prop}
variable {y pc len : Nat} {L st L' st' : List Value} {i : Instr} {o : List Nat} {pc' : Nat} {ls : Array Slot}
set_option maxHeartbeats 4000000 in
theorem ps_sound (M : MC w p s m args meth c y) (hdec : decode (mBytes y) pc = .ok (i, len)) (hlen : ilen i = 0 ∨ ilen i = len) (hlk : lnkE y i o = true) (hl : lv_has ls (mMaxL y) (asL w L)) (hL : L.length = mMaxL y) (hps : pstep i o pc L st = some (pc', L', st'))
    (kk : ∀ ls', lv_has ls' (mMaxL y) (asL w L') → L'.length = mMaxL y → W p l e R s m args below meth c H locs cells slots Q (F0 m pc' ls' (st'.map (tr w)))) : W p l e R s m args below meth c H locs cells slots Q (F0 m pc ls (st.map (tr w))) := by
  obtain ⟨hx, hb, -, -, -, hown, -, hts, -, -, hO⟩ := M
  have hz := hO.zc
  cases i with
  | iconst k =>
    cases (show some (pc + 1, L, Value.int (Int32.ofInt k) :: st) = some (pc', L', st') from hps)
    exact lv_iconst hx hb (dl hdec hlen rfl) rfl (kk ls hl hL)
  | bipush k =>
    cases (show some (pc + 2, L, Value.int (Int8.ofInt k).toInt32 :: st) = some (pc', L', st') from hps)
    exact lv_bipush hx hb (dl hdec hlen rfl) rfl (kk ls hl hL)
  | sipush k =>
    cases (show some (pc + 3, L, Value.int (Int16.ofInt k).toInt32 :: st) = some (pc', L', st') from hps)
    exact lv_sipush hx hb (dl hdec hlen rfl) rfl (kk ls hl hL)
  | lconst k =>
    cases (show some (pc + 1, L, Value.long (Int64.ofNat (k : Nat)) :: st) = some (pc', L', st') from hps)
    exact lv_lconst hx hb (dl hdec hlen rfl) rfl (kk ls hl hL)
  | ldc k =>
    simp only [pstep] at hps
    split at hps
    · rename_i v pl
      cases hps
      exact W.ldc hx hb hown (hts _ (linkOK_in hlk)) rfl (dl hdec hlen rfl) (kk ls hl hL)
    · rename_i j pl
      obtain ⟨hj, hps⟩ := inv_if hps
      cases hps
      simp only [lnkE, Bool.and_eq_true, decide_eq_true_eq] at hlk
      obtain ⟨hc, hi⟩ := hlk
      subst hi
      have h3 := hO.2.2.2.2.2.2.2.2.2.2.1 j hj
      refine va_ldcS hx hb (own := RX4) (by rw [← hc]; exact hown) h3 (dl hdec hlen rfl) ?_
      have e : tr w (.ref (OLDB + 3 + j)) = .ref (w.2.2.2.1 (3 + j)) := by
        have hB := OLDB_eq
        have e1 : ¬ (OLDB + 3 + j = OLDB + 13) := by omega
        have e2 : ¬ (OLDB + 3 + j < OLDB) := by omega
        have e3 : OLDB + 3 + j - OLDB = 3 + j := by omega
        show (if OLDB + 3 + j = OLDB + 13 then w.2.2.2.2.1 else Value.ref (if OLDB + 3 + j < OLDB then w.1 + (OLDB + 3 + j) else w.2.2.2.1 (OLDB + 3 + j - OLDB))) = _
        rw [if_neg e1, if_neg e2, e3]
      rw [← e]
      exact kk ls hl hL
    · cases hps
  | ldc_w k =>
    simp only [pstep] at hps
    split at hps
    · rename_i v pl
      cases hps
      exact lv_ldcw hx hb hown (hts _ (linkOK_in hlk)) (dl hdec hlen rfl) (kk ls hl hL)
    · cases hps
  | ldc2_w k =>
    simp only [pstep] at hps
    split at hps
    · rename_i v pl
      cases hps
      exact lv_ldc2 hx hb hown (hts _ (linkOK_in hlk)) (dl hdec hlen rfl) (kk ls hl hL)
    · cases hps
  | iload k =>
    obtain ⟨x, hk, hps⟩ := inv_oi hps
    cases hps
    exact lv_iload hx hb (dl hdec hlen rfl) (asL_at hl hk rfl) (kk ls hl hL)
  | iload_n k =>
    obtain ⟨x, hk, hps⟩ := inv_oi hps
    cases hps
    exact lv_iload_n hx hb (dl hdec hlen rfl) rfl (asL_at hl hk rfl) (kk ls hl hL)
  | lload k =>
    obtain ⟨x, hk, hps⟩ := inv_ol hps
    cases hps
    exact lv_lload hx hb (dl hdec hlen rfl) (asL_at hl hk rfl) (kk ls hl hL)
  | lload_n k =>
    obtain ⟨x, hk, hps⟩ := inv_ol hps
    cases hps
    exact lv_lload_n hx hb (dl hdec hlen rfl) rfl (asL_at hl hk rfl) (kk ls hl hL)
  | aload k =>
    obtain ⟨x, hk, hps⟩ := inv_or hps
    obtain ⟨hn, hps⟩ := inv_ifn hps
    cases hps
    have e : tr w (.ref x) = .ref (wfi w x) := if_neg hn
    have h1 := asL_at hl hk rfl
    rw [e] at h1
    refine lv_aload hx hb (dl hdec hlen rfl) h1 ?_
    rw [← e]
    exact kk ls hl hL
  | aload_n k =>
    obtain ⟨x, hk, hps⟩ := inv_or hps
    obtain ⟨hn, hps⟩ := inv_ifn hps
    cases hps
    have e : tr w (.ref x) = .ref (wfi w x) := if_neg hn
    have h1 := asL_at hl hk rfl
    rw [e] at h1
    refine lv_aload_n hx hb (dl hdec hlen rfl) rfl h1 ?_
    rw [← e]
    exact kk ls hl hL
  | istore k =>
    obtain ⟨x, st1, rfl, hps⟩ := inv_i hps
    obtain ⟨hk, hps⟩ := inv_if hps
    cases hps
    exact lv_istore hx hb (dl hdec hlen rfl) hl (by rw [← hL]; exact hk.1) rfl (fun ls' h' => kk ls' (lv_mono h' (asL_set hz hk.2)) (by simp [hL]))
  | istore_n k =>
    obtain ⟨x, st1, rfl, hps⟩ := inv_i hps
    obtain ⟨hk, hps⟩ := inv_if hps
    cases hps
    exact lv_istore_n hx hb (dl hdec hlen rfl) rfl hl (by rw [← hL]; exact hk.1) rfl (fun ls' h' => kk ls' (lv_mono h' (asL_set hz hk.2)) (by simp [hL]))
  | lstore k =>
    obtain ⟨x, st1, rfl, hps⟩ := inv_l hps
    obtain ⟨hk, hps⟩ := inv_if hps
    cases hps
    exact lv_lstore hx hb (dl hdec hlen rfl) hl (by rw [← hL]; exact hk.1) rfl (fun ls' h' => kk ls' (lv_mono h' (asL_set2 hz hk.2)) (by simp [hL]))
  | lstore_n k =>
    obtain ⟨x, st1, rfl, hps⟩ := inv_l hps
    obtain ⟨hk, hps⟩ := inv_if hps
    cases hps
    exact lv_lstore_n hx hb (dl hdec hlen rfl) rfl hl (by rw [← hL]; exact hk.1) rfl (fun ls' h' => kk ls' (lv_mono h' (asL_set2 hz hk.2)) (by simp [hL]))
  | astore_n k =>
    obtain ⟨x, st1, rfl, hps⟩ := inv_r hps
    obtain ⟨hk, hps⟩ := inv_if hps
    cases hps
    have ee : tr w (.ref x) = .ref (wfi w x) := if_neg hk.2.2
    show W p l e R s m args below meth c H locs cells slots Q (F0 m pc ls (tr w (.ref x) :: st'.map (tr w)))
    rw [ee]
    exact lv_astore_n hx hb (dl hdec hlen rfl) rfl hl (by rw [← hL]; exact hk.1) rfl (fun ls' h' => kk ls' (lv_mono h' (by rw [← ee]; exact asL_set hz hk.2.1)) (by simp [hL]))
  | iinc k n =>
    obtain ⟨x, hk, hps⟩ := inv_oi hps
    obtain ⟨hok, hps⟩ := inv_if hps
    cases hps
    obtain ⟨q, hq⟩ := List.getElem?_of_mem (asL_mem.mpr ⟨_, hk, rfl, rfl⟩ : (k, tr w (.int x)) ∈ asL w L)
    exact lv_iinc hx hb (dl hdec hlen rfl) hl hq rfl (by rw [← hL]; exact (List.getElem?_eq_some_iff.mp hk).1) rfl (fun ls' h' => kk ls' (lv_mono h' (asL_set hz hok)) (by simp [hL]))
  | iadd =>
    obtain ⟨y1, x1, st1, rfl, hps⟩ := inv_ii hps
    cases hps
    exact lv_iadd hx hb (dl hdec hlen rfl) (kk ls hl hL)
  | isub =>
    obtain ⟨y1, x1, st1, rfl, hps⟩ := inv_ii hps
    cases hps
    exact lv_isub hx hb (dl hdec hlen rfl) (kk ls hl hL)
  | imul =>
    obtain ⟨y1, x1, st1, rfl, hps⟩ := inv_ii hps
    cases hps
    exact lv_imul hx hb (dl hdec hlen rfl) (kk ls hl hL)
  | idiv =>
    obtain ⟨y1, x1, st1, rfl, hps⟩ := inv_ii hps
    obtain ⟨hn, hps⟩ := inv_ifn hps
    cases hps
    exact lv_idiv hx hb (dl hdec hlen rfl) hn (kk ls hl hL)
  | irem =>
    obtain ⟨y1, x1, st1, rfl, hps⟩ := inv_ii hps
    obtain ⟨hn, hps⟩ := inv_ifn hps
    cases hps
    exact lv_irem hx hb (dl hdec hlen rfl) hn (kk ls hl hL)
  | ineg =>
    obtain ⟨x1, st1, rfl, hps⟩ := inv_i hps
    cases hps
    exact lv_ineg hx hb (dl hdec hlen rfl) (kk ls hl hL)
  | iand =>
    obtain ⟨y1, x1, st1, rfl, hps⟩ := inv_ii hps
    cases hps
    exact lv_iand hx hb (dl hdec hlen rfl) (kk ls hl hL)
  | ior =>
    obtain ⟨y1, x1, st1, rfl, hps⟩ := inv_ii hps
    cases hps
    exact lv_ior hx hb (dl hdec hlen rfl) (kk ls hl hL)
  | ixor =>
    obtain ⟨y1, x1, st1, rfl, hps⟩ := inv_ii hps
    cases hps
    exact lv_ixor hx hb (dl hdec hlen rfl) (kk ls hl hL)
  | ishl =>
    obtain ⟨y1, x1, st1, rfl, hps⟩ := inv_ii hps
    cases hps
    exact lv_ishl hx hb (dl hdec hlen rfl) (kk ls hl hL)
  | ishr =>
    obtain ⟨y1, x1, st1, rfl, hps⟩ := inv_ii hps
    cases hps
    exact lv_ishr hx hb (dl hdec hlen rfl) (kk ls hl hL)
  | iushr =>
    obtain ⟨y1, x1, st1, rfl, hps⟩ := inv_ii hps
    cases hps
    exact lv_iushr hx hb (dl hdec hlen rfl) rfl (kk ls hl hL)
  | ladd =>
    obtain ⟨y1, x1, st1, rfl, hps⟩ := inv_ll hps
    cases hps
    exact lv_ladd hx hb (dl hdec hlen rfl) (kk ls hl hL)
  | lsub =>
    obtain ⟨y1, x1, st1, rfl, hps⟩ := inv_ll hps
    cases hps
    exact lv_lsub hx hb (dl hdec hlen rfl) (kk ls hl hL)
  | land =>
    obtain ⟨y1, x1, st1, rfl, hps⟩ := inv_ll hps
    cases hps
    exact lv_land hx hb (dl hdec hlen rfl) (kk ls hl hL)
  | lor =>
    obtain ⟨y1, x1, st1, rfl, hps⟩ := inv_ll hps
    cases hps
    exact lv_lor hx hb (dl hdec hlen rfl) (kk ls hl hL)
  | lxor =>
    obtain ⟨y1, x1, st1, rfl, hps⟩ := inv_ll hps
    cases hps
    exact lv_lxor hx hb (dl hdec hlen rfl) (kk ls hl hL)
  | lshl =>
    obtain ⟨y1, x1, st1, rfl, hps⟩ := inv_il hps
    cases hps
    exact lv_lshl hx hb (dl hdec hlen rfl) rfl (kk ls hl hL)
  | lshr =>
    obtain ⟨y1, x1, st1, rfl, hps⟩ := inv_il hps
    cases hps
    exact lv_lshr hx hb (dl hdec hlen rfl) rfl (kk ls hl hL)
  | lcmp =>
    obtain ⟨y1, x1, st1, rfl, hps⟩ := inv_ll hps
    cases hps
    exact W.lcmp hx hb (dl hdec hlen rfl) (kk ls hl hL)
  | i2l =>
    obtain ⟨x1, st1, rfl, hps⟩ := inv_i hps
    cases hps
    exact lv_i2l hx hb (dl hdec hlen rfl) rfl (kk ls hl hL)
  | l2i =>
    obtain ⟨x1, st1, rfl, hps⟩ := inv_l hps
    cases hps
    exact lv_l2i hx hb (dl hdec hlen rfl) rfl (kk ls hl hL)
  | i2b =>
    obtain ⟨x1, st1, rfl, hps⟩ := inv_i hps
    cases hps
    exact lv_i2b hx hb (dl hdec hlen rfl) rfl (kk ls hl hL)
  | i2s =>
    obtain ⟨x1, st1, rfl, hps⟩ := inv_i hps
    cases hps
    exact lv_i2s hx hb (dl hdec hlen rfl) rfl (kk ls hl hL)
  | i2c =>
    obtain ⟨x1, st1, rfl, hps⟩ := inv_i hps
    cases hps
    exact lv_i2c hx hb (dl hdec hlen rfl) rfl (kk ls hl hL)
  | dup =>
    obtain ⟨v1, st1, rfl, hps⟩ := inv_v hps
    obtain ⟨hc, hps⟩ := inv_if hps
    cases hps
    exact lv_dup hx hb (dl hdec hlen rfl) (by rw [tr_cat hz]; exact hc) (kk ls hl hL)
  | pop =>
    obtain ⟨v1, st1, rfl, hps⟩ := inv_v hps
    obtain ⟨hc, hps⟩ := inv_if hps
    cases hps
    exact lv_pop hx hb (dl hdec hlen rfl) (by rw [tr_cat hz]; exact hc) (kk ls hl hL)
  | dup2 =>
    obtain ⟨v1, v2, st1, rfl, hps⟩ := inv_vv hps
    obtain ⟨hc, hps⟩ := inv_if hps
    cases hps
    exact lv_dup2_11 hx hb (dl hdec hlen rfl) (by rw [tr_cat hz]; exact hc.1) (by rw [tr_cat hz]; exact hc.2) (kk ls hl hL)
  | pop2 =>
    obtain ⟨v1, st1, rfl, hps⟩ := inv_v hps
    obtain ⟨hc, hps⟩ := inv_if hps
    cases hps
    exact lv_pop2_2 hx hb (dl hdec hlen rfl) (by rw [tr_cat hz]; exact hc) (kk ls hl hL)
  | ifCond q off =>
    obtain ⟨x1, st1, rfl, hps⟩ := inv_i hps
    obtain ⟨t, ht, hps⟩ := Option.map_eq_some_iff.mp hps
    have hj := jump_eq ht
    cases q
    · cases hps
      exact lv_if_eq hx hb (dl hdec hlen rfl) hj (fun h => by have := kk ls hl hL; rwa [bif_t (by simpa [condB] using h)] at this) (fun h => by have := kk ls hl hL; rwa [bif_f (by simpa [condB] using h)] at this)
    · cases hps
      exact lv_if_ne hx hb (dl hdec hlen rfl) hj (fun h => by have := kk ls hl hL; rwa [bif_t (by simpa [condB] using h)] at this) (fun h => by have := kk ls hl hL; rwa [bif_f (by simpa [condB] using h)] at this)
    · cases hps
      exact lv_if_lt hx hb (dl hdec hlen rfl) hj (fun h => by have := kk ls hl hL; rwa [bif_t (by simpa [condB] using h)] at this) (fun h => by have := kk ls hl hL; rwa [bif_f (by simpa [condB] using h)] at this)
    · cases hps
      exact lv_if_ge hx hb (dl hdec hlen rfl) hj (fun h => by have := kk ls hl hL; rwa [bif_t (by simpa [condB] using h)] at this) (fun h => by have := kk ls hl hL; rwa [bif_f (by simpa [condB] using h)] at this)
    · cases hps
      exact lv_if_gt hx hb (dl hdec hlen rfl) hj (fun h => by have := kk ls hl hL; rwa [bif_t (by simpa [condB] using h)] at this) (fun h => by have := kk ls hl hL; rwa [bif_f (by simpa [condB] using h)] at this)
    · cases hps
      exact lv_if_le hx hb (dl hdec hlen rfl) hj (fun h => by have := kk ls hl hL; rwa [bif_t (by simpa [condB] using h)] at this) (fun h => by have := kk ls hl hL; rwa [bif_f (by simpa [condB] using h)] at this)
  | if_icmp q off =>
    obtain ⟨y1, x1, st1, rfl, hps⟩ := inv_ii hps
    obtain ⟨t, ht, hps⟩ := Option.map_eq_some_iff.mp hps
    have hj := jump_eq ht
    cases q
    · cases hps
      exact lv_icmp_eq hx hb (dl hdec hlen rfl) hj (fun h => by have := kk ls hl hL; rwa [bif_t (by simpa [condB] using h)] at this) (fun h => by have := kk ls hl hL; rwa [bif_f (by simpa [condB] using h)] at this)
    · cases hps
      exact lv_icmp_ne hx hb (dl hdec hlen rfl) hj (fun h => by have := kk ls hl hL; rwa [bif_t (by simpa [condB] using h)] at this) (fun h => by have := kk ls hl hL; rwa [bif_f (by simpa [condB] using h)] at this)
    · cases hps
      exact lv_icmp_lt hx hb (dl hdec hlen rfl) hj (fun h => by have := kk ls hl hL; rwa [bif_t (by simpa [condB] using h)] at this) (fun h => by have := kk ls hl hL; rwa [bif_f (by simpa [condB] using h)] at this)
    · cases hps
      exact lv_icmp_ge hx hb (dl hdec hlen rfl) hj (fun h => by have := kk ls hl hL; rwa [bif_t (by simpa [condB] using h)] at this) (fun h => by have := kk ls hl hL; rwa [bif_f (by simpa [condB] using h)] at this)
    · cases hps
      exact lv_icmp_gt hx hb (dl hdec hlen rfl) hj (fun h => by have := kk ls hl hL; rwa [bif_t (by simpa [condB] using h)] at this) (fun h => by have := kk ls hl hL; rwa [bif_f (by simpa [condB] using h)] at this)
    · cases hps
      exact lv_icmp_le hx hb (dl hdec hlen rfl) hj (fun h => by have := kk ls hl hL; rwa [bif_t (by simpa [condB] using h)] at this) (fun h => by have := kk ls hl hL; rwa [bif_f (by simpa [condB] using h)] at this)
  | goto off =>
    obtain ⟨t, ht, hps⟩ := Option.map_eq_some_iff.mp (show (jump pc off).map (fun t => (t, L, st)) = some (pc', L', st') from hps)
    cases hps
    exact lv_goto hx hb (dl hdec hlen rfl) (jump_eq ht) (kk ls hl hL)
  | tableswitch dflt lo hi offs =>
    obtain ⟨x1, st1, rfl, hp2⟩ := inv_i hps
    clear hps
    by_cases ho : x1.toInt < lo ∨ hi < x1.toInt
    · rw [if_pos ho] at hp2
      obtain ⟨t, ht, hp2⟩ := Option.map_eq_some_iff.mp hp2
      cases hp2
      exact lv_tableOut hx hb hdec ho (jump_eq ht) (kk ls hl hL)
    · rw [if_neg ho] at hp2
      cases hof : offs[(x1.toInt - lo).toNat]? with
      | none => rw [hof] at hp2; cases hp2
      | some off =>
        rw [hof] at hp2
        obtain ⟨t, ht, hp2⟩ := Option.map_eq_some_iff.mp hp2
        cases hp2
        exact lv_tableIn hx hb hdec (fun q => ho (Or.inl q)) (fun q => ho (Or.inr q)) hof (jump_eq ht) (kk ls hl hL)
  | lookupswitch dflt ps =>
    obtain ⟨x1, st1, rfl, hps⟩ := inv_i hps
    obtain ⟨hp, hps⟩ := inv_if hps
    obtain ⟨t, ht, hps⟩ := Option.map_eq_some_iff.mp hps
    cases hps
    exact lv_lookup hx hb hdec hp rfl (jump_eq ht) (kk ls hl hL)
  | _ => exact absurd (show (none : Option (Nat × List Value × List Value)) = some (pc', L', st') from hps) (by simp)
end PS
end JN08psound
section JN09hrows
/-! The classes' words; the world behind a store. -/
theorem cls_tab : ∀ ci, ci < 8 → vwCl[ci]? = some (vwC ci, vwT ci, vwN ci) := by
  intro ci h
  match ci, h with
  | 0, _ => rfl
  | 1, _ => rfl
  | 2, _ => rfl
  | 3, _ => rfl
  | 4, _ => rfl
  | 5, _ => rfl
  | 6, _ => rfl
  | 7, _ => rfl
  | n + 8, h => exact absurd h (by omega)
theorem cls_ws1 : (List.range 8).all (fun ci => (List.range (vwN ci)).all (fun k => linkOK ((layP.getD ci []).getD k 0) (u_lay (vwC ci) (vwT ci) k))) = true := by decide +kernel
theorem cls_ws : ∀ ci, ci < 8 → ∀ q ∈ u_ws (vwC ci) (vwT ci) (vwN ci), q ∈ BIGG := by
  intro ci h q hq
  obtain ⟨k, hk, rfl⟩ := List.mem_map.mp hq
  exact linkOK_in (List.all_eq_true.mp (List.all_eq_true.mp cls_ws1 ci (List.mem_range.mpr h)) k hk)
theorem cls_nm : ∀ ci, ci < 8 → ∀ a, a < vwN ci → ∀ b, b < vwN ci → a ≠ b → (vwT ci a).2.1 ≠ (vwT ci b).2.1 := by
  intro ci h
  match ci, h with
  | 0, _ => exact nmX0
  | 1, _ => exact nmX1
  | 2, _ => exact nmX2
  | 3, _ => exact nmX3
  | 4, _ => exact nmX4
  | 5, _ => exact nmX5
  | 6, _ => exact nmX6
  | 7, _ => exact nmX7
  | n + 8, h => exact absurd h (by omega)
theorem cls_ty : ∀ ci, ci < 8 → ∀ k, k < vwN ci → parseFieldDescriptor (vwT ci k).2.2.1 = some (vwTy ci k) := by
  intro ci h
  match ci, h with
  | 0, _ => exact tyX0_ok
  | 1, _ => exact tyX1_ok
  | 2, _ => exact tyX2_ok
  | 3, _ => exact tyX3_ok
  | 4, _ => exact tyX4_ok
  | 5, _ => exact tyX5_ok
  | 6, _ => exact tyX6_ok
  | 7, _ => exact tyX7_ok
  | n + 8, h => exact absurd h (by omega)
theorem cls_decl : ∀ ci, ci < 8 → ∀ k, k < vwN ci → (vwT ci k).1 = vwC ci := by decide +kernel
theorem cls_kind : ∀ ci, ci < 8 → ∀ k, k < vwN ci → vwTy ci k = .int ∨ vwTy ci k = .boolean ∨ isRefTy (vwTy ci k) = true := by decide +kernel
theorem cls_ins : ∀ ci, ci < 8 → Jvm.Cond.instantiable (vwC ci) (vwN ci) ∈ BIGG := by
  intro ci h
  have h0 : (List.range 8).all (fun ci => linkOK (insP.getD ci 0) (.instantiable (vwC ci) (vwN ci))) = true := by decide +kernel
  exact linkOK_in (List.all_eq_true.mp h0 ci (List.mem_range.mpr h))
theorem cls_ini : ∀ ci, ci < 8 → Jvm.Cond.initialized (vwC ci) ∈ BIGG := by
  intro ci h
  have h0 : (List.range 8).all (fun ci => linkOK (iniPl ci (vwC ci)) (.initialized (vwC ci))) = true := by decide +kernel
  exact linkOK_in (List.all_eq_true.mp h0 ci (List.mem_range.mpr h))
theorem arc_int : Jvm.Cond.arrayClass .int ∈ BIGG := linkOK_in (pl := arcP.getD 0 0) (by decide +kernel)
theorem arc_long : Jvm.Cond.arrayClass .long ∈ BIGG := linkOK_in (pl := arcP.getD 1 0) (by decide +kernel)
theorem arc_bool : Jvm.Cond.arrayClass .boolean ∈ BIGG := linkOK_in (pl := arcP.getD 2 0) (by decide +kernel)
theorem nat_copy : Jvm.Cond.native arraycopyName ∈ BIGG := linkOK_in (pl := natP.getD 0 0) (by decide +kernel)
theorem sta_copy : Jvm.Cond.static arraycopyName ∈ BIGG := linkOK_in (pl := natP.getD 1 0) (by decide +kernel)
theorem ini_sys : Jvm.Cond.initialized "java/lang/System" ∈ BIGG := linkOK_in (pl := natP.getD 2 0) (by decide +kernel)
theorem obj_inst : Jvm.Cond.instanceMethod objectInit ∈ BIGG := linkOK_in (pl := objP.getD 0 0) (by decide +kernel)
set_option maxRecDepth 10000 in
theorem obj_code : Jvm.Cond.code objectInit ⟨#[0xb1]⟩ 1 none ∈ BIGG := linkOK_in (pl := objP.getD 1 0) (by decide +kernel)
/-- the world of the pure heap h -/
def WdH (w : WC) (s : State) (h : Hp) (H : Heap) (locs : List Loc) : Prop := H.size = w.1 + h.1.length ∧ va_P w.2.1 vwCl (wsH w h) H ∧ va_S (Ab w) s.heap H locs
theorem WdH.upd {w : WC} {s : State} {h h' : Hp} {H H1 : Heap} {locs : List Loc} {a k : Nat} {sh : Sh} (hW : WdH w s h H locs) (hs : h.1[a]? = some sh) (h1 : h'.1 = h.1) (ho : ∀ b s', b ≠ a → cel w h' b s' = cel w h b s')
    (hat : va_at w.2.1 vwCl (w.1 + a, cel w h' a sh) H1) (z : H1.size = H.size) (oq : ∀ q : Nat, q ≠ w.1 + a → H1[q]? = H[q]?) : WdH w s h' H1 (locs ++ [⟨w.1 + a, k⟩]) := by
  refine ⟨by rw [z, h1]; exact hW.1, ?_, hW.2.2.put z oq (by show w.1 ≤ w.1 + a; omega)⟩
  rw [← wsH_set hs h1 ho]
  exact hW.2.1.set (wsH_D w h) (wsH_get hs) hat oq
theorem tr_new {w : WC} {a : Nat} (ha : a < OLDB) : tr w (.ref a) = .ref (w.1 + a) := by
  have hB := OLDB_eq
  have e1 : ¬ (a = OLDB + 13) := by omega
  show (if a = OLDB + 13 then w.2.2.2.2.1 else Value.ref (if a < OLDB then w.1 + a else w.2.2.2.1 (a - OLDB))) = _
  rw [if_neg e1, if_pos ha]
theorem tr_old {w : WC} {a : Nat} (ha : ¬ a < OLDB) (h13 : ¬ a = OLDB + 13) : tr w (.ref a) = .ref (w.2.2.2.1 (a - OLDB)) := by
  show (if a = OLDB + 13 then w.2.2.2.2.1 else Value.ref (if a < OLDB then w.1 + a else w.2.2.2.1 (a - OLDB))) = _
  rw [if_neg h13, if_neg ha]
theorem inB_in {i : Int32} {n : Nat} (h : inB i n = true) : vp_in i n := by
  obtain ⟨h1, h2⟩ := (Bool.and_eq_true _ _).mp h
  have h1 := of_decide_eq_true h1
  have h2 := of_decide_eq_true h2
  rintro (q | q)
  · exact h1 q
  · omega
theorem cfa_0 (w : WC) (h : Hp) (a : Nat) : cfa w h a 0 = .inl (h.2.1 a) := rfl
theorem cfa_2 (w : WC) (h : Hp) (a : Nat) : cfa w h a 2 = .inl (h.2.1 a) := rfl
theorem cfa_1 (w : WC) (h : Hp) (a : Nat) : cfa w h a 1 = .inr (.inl (h.2.2.1 a)) := rfl
theorem cfa_3 (w : WC) (h : Hp) (a : Nat) : cfa w h a 3 = .inr (.inr (.inr (.inr (fun i => (h.2.2.2 a i).map (fun b => w.1 + b))))) := rfl
theorem cfa_4 (w : WC) (h : Hp) (a : Nat) : cfa w h a 4 = .inr (.inr (.inr (.inr (fun i => (h.2.2.2 a i).map (fun b => w.1 + b))))) := rfl
theorem ud_ne {α : Type} (f : Nat → Nat → α) {a b i : Nat} (v : α) (h : b ≠ a) : ud f a i v b = f b := by
  unfold ud
  rw [if_neg h]
theorem ud_self {α : Type} (f : Nat → Nat → α) (a i : Nat) (v : α) : ud f a i v a = fun j => if j = i then v else f a j := by
  unfold ud
  rw [if_pos rfl]
theorem ud_at {α : Type} (f : Nat → Nat → α) (a i : Nat) (v : α) : ud f a i v a i = v := by
  rw [ud_self]
  exact if_pos rfl
theorem ud_off {α : Type} (f : Nat → Nat → α) (a : Nat) {i j : Nat} (v : α) (h : j ≠ i) : ud f a i v a j = f a j := by
  rw [ud_self]
  exact if_neg h
theorem clr_ne {α : Type} (f : Nat → Nat → α) {a b : Nat} (v : α) (h : b ≠ a) : clr f a v b = f b := by
  unfold clr
  rw [if_neg h]
theorem clr_self {α : Type} (f : Nat → Nat → α) (a : Nat) (v : α) : clr f a v a = fun _ => v := by
  unfold clr
  rw [if_pos rfl]
theorem cel_d {w : WC} {h : Hp} {a : Nat} {x : Nat → Nat → Int32} (hd : x a = h.2.1 a) (s : Sh) : cel w (h.1, x, h.2.2.1, h.2.2.2) a s = cel w h a s := cel_push (h := h) (a := a) (h' := (h.1, x, h.2.2.1, h.2.2.2)) hd rfl rfl s
theorem cel_e {w : WC} {h : Hp} {a : Nat} {x : Nat → Nat → Int64} (hd : x a = h.2.2.1 a) (s : Sh) : cel w (h.1, h.2.1, x, h.2.2.2) a s = cel w h a s := cel_push (h := h) (a := a) (h' := (h.1, h.2.1, x, h.2.2.2)) rfl hd rfl s
theorem cel_r {w : WC} {h : Hp} {a : Nat} {x : Nat → Nat → Option Nat} (hd : x a = h.2.2.2 a) (s : Sh) : cel w (h.1, h.2.1, h.2.2.1, x) a s = cel w h a s := cel_push (h := h) (a := a) (h' := (h.1, h.2.1, h.2.2.1, x)) rfl rfl hd s
section HR
variable {w : WC} {p : Program} {l : Launch} {e : Env} {R : Room} {s : State} {m : MethodId} {args : Array Value} {below : List Frame} {meth : Method} {c : Code} {H : Heap} {locs : List Loc} {cells slots : Nat} {Q : State → Prop}
variable {y pc : Nat} {st : List Value} {ls : Array Slot} {h : Hp} {cc : ByteArray}
theorem z_iast (hx : p.tables.exec = Jvm.exec) (hb : c.code = cc) (hK : va_K w.2.1 vwCl (tysW w) s) (hW : WdH w s h H locs) {a n : Nat} {j x : Int32} (ha : h.1[a]? = some (.inl (0, n))) (hin : inB j n = true) (hd : decode cc pc = .ok (.iastore, 1))
    (kk : ∀ H1 locs1, WdH w s (h.1, ud h.2.1 a j.toNatClampNeg x, h.2.2.1, h.2.2.2) H1 locs1 → W p l e R s m args below meth c H1 locs1 cells slots Q (F0 m (pc + 1) ls st)) :
    W p l e R s m args below meth c H locs cells slots Q (F0 m pc ls (.int x :: .int j :: .ref (w.1 + a) :: st)) := by
  have hg := wsH_get (w := w) ha
  refine W.iast hx hb (hW.2.1 a _ hg) ((hK.2 0 _ rfl).1 n (fun j => .int (h.2.1 a j))) (fun q => by cases q) (by show ¬ (j < 0 ∨ (arrV _ _ _).slots.size ≤ _); rw [arrV_size]; exact inB_in hin) rfl rfl hd fun H1 e1 z oq => ?_
  refine kk H1 _ (hW.upd ha rfl (fun b s' hb' => cel_d (ud_ne _ _ hb') s') ?_ z oq)
  show H1[w.1 + a]? = some (vp_cell _ (n, cfa w _ a 0))
  rw [e1, cfa_0, cfa_0, vp_cell_i, vp_cell_i, arrV_store]
  congr 2
  funext q
  by_cases hq : q = j.toNatClampNeg
  · subst hq
    simp [updV, ud]
  · simp [updV, ud, hq]
theorem z_zast (hx : p.tables.exec = Jvm.exec) (hb : c.code = cc) (hK : va_K w.2.1 vwCl (tysW w) s) (hW : WdH w s h H locs) {a n : Nat} {j x : Int32} (hx01 : x = 0 ∨ x = 1) (ha : h.1[a]? = some (.inl (2, n))) (hin : inB j n = true) (hd : decode cc pc = .ok (.bastore, 1))
    (kk : ∀ H1 locs1, WdH w s (h.1, ud h.2.1 a j.toNatClampNeg x, h.2.2.1, h.2.2.2) H1 locs1 → W p l e R s m args below meth c H1 locs1 cells slots Q (F0 m (pc + 1) ls st)) :
    W p l e R s m args below meth c H locs cells slots Q (F0 m pc ls (.int x :: .int j :: .ref (w.1 + a) :: st)) := by
  have hg := wsH_get (w := w) ha
  have hn : narrow .boolean (.int x) = .int x := by rcases hx01 with rfl | rfl <;> decide
  refine W.zast hx hb (hW.2.1 a _ hg) ((hK.2 2 _ rfl).1 n (fun j => .int (h.2.1 a j))) (fun q => by cases q) (by show ¬ (j < 0 ∨ (arrV _ _ _).slots.size ≤ _); rw [arrV_size]; exact inB_in hin) rfl rfl hd fun H1 e1 z oq => ?_
  refine kk H1 _ (hW.upd ha rfl (fun b s' hb' => cel_d (ud_ne _ _ hb') s') ?_ z oq)
  show H1[w.1 + a]? = some (vp_cell _ (n, cfa w _ a 2))
  rw [e1, hn, cfa_2, cfa_2, vp_cell_i, vp_cell_i, arrV_store]
  congr 2
  funext q
  by_cases hq : q = j.toNatClampNeg
  · subst hq
    simp [updV, ud]
  · simp [updV, ud, hq]
theorem z_last (hx : p.tables.exec = Jvm.exec) (hb : c.code = cc) (hK : va_K w.2.1 vwCl (tysW w) s) (hW : WdH w s h H locs) {a n : Nat} {j : Int32} {x : Int64} (ha : h.1[a]? = some (.inl (1, n))) (hin : inB j n = true) (hd : decode cc pc = .ok (.lastore, 1))
    (kk : ∀ H1 locs1, WdH w s (h.1, h.2.1, ud h.2.2.1 a j.toNatClampNeg x, h.2.2.2) H1 locs1 → W p l e R s m args below meth c H1 locs1 cells slots Q (F0 m (pc + 1) ls st)) :
    W p l e R s m args below meth c H locs cells slots Q (F0 m pc ls (.long x :: .int j :: .ref (w.1 + a) :: st)) := by
  have hg := wsH_get (w := w) ha
  refine W.last hx hb (hW.2.1 a _ hg) ((hK.2 1 _ rfl).1 n (fun j => .long (h.2.2.1 a j))) (fun q => by cases q) (by show ¬ (j < 0 ∨ (arrV _ _ _).slots.size ≤ _); rw [arrV_size]; exact inB_in hin) rfl rfl hd fun H1 e1 z oq => ?_
  refine kk H1 _ (hW.upd ha rfl (fun b s' hb' => cel_e (ud_ne _ _ hb') s') ?_ z oq)
  show H1[w.1 + a]? = some (vp_cell _ (n, cfa w _ a 1))
  rw [e1, cfa_1, cfa_1, vp_cell_l, vp_cell_l, arrV_store]
  congr 2
  funext q
  by_cases hq : q = j.toNatClampNeg
  · subst hq
    simp [updV, ud]
  · simp [updV, ud, hq]
theorem z_aast (hx : p.tables.exec = Jvm.exec) (hb : c.code = cc) (hK : va_K w.2.1 vwCl (tysW w) s) (hW : WdH w s h H locs) {a b n : Nat} {j : Int32} (ha : h.1[a]? = some (.inl (3, n))) (hbs : h.1[b]? = some (.inr 5)) (hin : inB j n = true) (hd : decode cc pc = .ok (.aastore, 1))
    (kk : ∀ H1 locs1, WdH w s (h.1, h.2.1, h.2.2.1, ud h.2.2.2 a j.toNatClampNeg (some b)) H1 locs1 → W p l e R s m args below meth c H1 locs1 cells slots Q (F0 m (pc + 1) ls st)) :
    W p l e R s m args below meth c H locs cells slots Q (F0 m pc ls (.ref (w.1 + b) :: .int j :: .ref (w.1 + a) :: st)) := by
  have hg := wsH_get (w := w) ha
  have hv := wsH_get (w := w) hbs
  have hin' := inB_in hin
  have hlt : j.toNatClampNeg < n := Nat.not_le.mp fun q => hin' (Or.inr q)
  have h0 : ¬ j < 0 := fun q => hin' (Or.inl q)
  obtain ⟨r', hr', cellV, g1, g2, g3, -⟩ := hW.2.1 b _ hv
  have hc : vwCl[5]? = some (vwC 5, vwT 5, vwN 5) := rfl
  have hcls := (hK.1 5 _ hc).2
  obtain ⟨kA, comp, k1, k2, k3, -⟩ := (hK.2 3 _ rfl).2
  have hcomp : comp = w.2.1.1 5 := Option.some.inj (k3.symm.trans hcls.1)
  subst hcomp
  obtain ⟨kC, hkC, -⟩ := hcls.2
  refine W.aast hx hb (hW.2.1 a _ hg) (fun q h => by cases h) (fun h => by cases h) k1 k2 rfl hkC ⟨h0, by show _ < (arrV _ _ _).slots.size; rw [arrV_size]; exact hlt⟩ g1 (fun q h => by rw [g3] at h; cases h) (by rw [g2]; exact hkC) (by rw [g2]; exact va_assign hcls) rfl rfl hd fun H1 e1 z oq => ?_
  refine kk H1 _ (hW.upd ha rfl (fun b s' hb' => cel_r (ud_ne _ _ hb') s') ?_ z oq)
  show H1[w.1 + a]? = some (vp_cell _ (n, cfa w _ a 3))
  rw [e1]
  show some ((vp_cell _ (n, cfa w h a 3)).setSlot _ _) = _
  rw [cfa_3, cfa_3, vp_cell_q, vp_cell_q, arrV_store]
  congr 2
  funext q
  by_cases hq : q = j.toNatClampNeg
  · subst hq
    simp [updV, ud, va_rf]
  · simp [updV, ud, hq]
end HR
end JN09hrows
section JN10hrows2
/-! The world behind a putfield, a copy, something new. -/
theorem cfs_set {w : WC} {h h' : Hp} {ci a k n : Nat} {v : Value} (hk : k < n) (h1 : cfv w h' ci a k = v) (h2 : ∀ j, j ≠ k → cfv w h' ci a j = cfv w h ci a j) :
    (List.range n).map (fun j => cfv w h' ci a j) = ((List.range n).map (fun j => cfv w h ci a j)).set k v := by
  apply List.ext_getElem?
  intro j
  by_cases hj : j < n
  · by_cases hjk : j = k
    · subst hjk
      rw [List.getElem?_set_self (by simpa using hj), List.getElem?_map, List.getElem?_range hj]
      simp [h1]
    · rw [List.getElem?_set_ne (Ne.symm hjk), List.getElem?_map, List.getElem?_map, List.getElem?_range hj]
      simp [h2 j hjk]
  · rw [List.getElem?_eq_none (by simpa using hj), List.getElem?_eq_none (by simpa using hj)]
section HR2
variable {w : WC} {p : Program} {l : Launch} {e : Env} {R : Room} {s : State} {m : MethodId} {args : Array Value} {below : List Frame} {meth : Method} {c : Code} {H : Heap} {locs : List Loc} {cells slots : Nat} {Q : State → Prop}
variable {y pc : Nat} {st : List Value} {ls : Array Slot} {h : Hp} {cc : ByteArray}
/-- what a store of v into field k of the object a needs and gives, whatever row makes it -/
theorem z_putAt (hK : va_K w.2.1 vwCl (tysW w) s) (hts : ∀ q ∈ BIGG, q.before args s = true) (hW : WdH w s h H locs) {ci a k : Nat} (hci : ci < 8) (hk : k < vwN ci) (ha : h.1[a]? = some (.inr ci)) :
    ∃ (cell : Cell) (cf : Nat) (kf : Class) (fi : Nat) (f : Field) (kC : Class), H[w.1 + a]? = some cell ∧ cell.cls = w.2.1.1 ci ∧ cell.vm = .none ∧ s.fieldFound? (vwC ci) (vwT ci k).2.1 (vwT ci k).2.2.1 = some (cf, kf, fi, f) ∧ f.slot = w.2.1.2 ci k ∧ f.isStatic = false ∧
      s.vm.findClass (vwC ci) = some (w.2.1.1 ci) ∧ s.vm.classes[w.2.1.1 ci]? = some kC ∧ kC.kind = .ordinary ∧ f.slot < cell.slots.size ∧
      (∀ (H1 : Heap) (v : Value), H1[w.1 + a]? = some (cell.setSlot f.slot v) → va_at w.2.1 vwCl (w.1 + a, .inr (ci, ((List.range (vwN ci)).map (fun j => cfv w h ci a j)).set k v)) H1) := by
  have hg := wsH_get (w := w) ha
  have hc := cls_tab ci hci
  have hap := va_apart (own := "") hts (cls_ws ci hci) (vwTy ci) (cls_ty ci hci) (cls_nm ci hci) hK hc
  obtain ⟨r, h1, cell, q1, q2, q3, q4⟩ := hW.2.1 a _ hg
  have hr : r = (vwC ci, vwT ci, vwN ci) := Option.some.inj (h1.symm.trans hc)
  subst hr
  obtain ⟨hS, hfc, kC, hkC, hkind⟩ := hK.1 ci _ hc
  obtain ⟨cf, kf, fi, f, hi, hsl⟩ := hS k hk
  have hst := (u_facts hfc hkC (u_lays hts (cls_ws ci hci) hk) hi).1
  rw [cls_decl ci hci k hk] at hi
  refine ⟨cell, cf, kf, fi, f, kC, q1, q2, q3, hi, hsl, hst, hfc, hkC, hkind, by rw [hsl]; exact k2_hasslot (q4 k hk), fun H1 v e1 => ?_⟩
  rw [hsl] at e1
  exact ⟨_, hc, t_OB.to (V := updV (vp_V ((List.range (vwN ci)).map (fun j => cfv w h ci a j))) k v) ⟨_, e1, q2, q3, t_set q4 hap hk v⟩ (fun j _ => vp_updV_set (by simpa using hk) v j)⟩
/-- what may be stored there -/
theorem z_stores (hK : va_K w.2.1 vwCl (tysW w) s) (hts : ∀ q ∈ BIGG, q.before args s = true) {ci k : Nat} (hci : ci < 8) (hk : k < vwN ci) {v : Value} (hn : narrow (vwTy ci k) v = v) (hfit : fits (vwTy ci k) v = true) {cf : Nat} {kf : Class} {fi : Nat} {f : Field} {kC : Class}
    (hi : s.fieldFound? (vwC ci) (vwT ci k).2.1 (vwT ci k).2.2.1 = some (cf, kf, fi, f)) (hfc : s.vm.findClass (vwC ci) = some (w.2.1.1 ci)) (hkC : s.vm.classes[w.2.1.1 ci]? = some kC) (hkind : kC.kind = .ordinary) :
    ((vwT ci k).2.2.2 = false → k2_Sd s f (w.2.1.1 ci) v) ∧ narrow f.type v = v ∧ s.fitsSlot (w.2.1.1 ci) .none f.slot v = true := by
  have hd := cls_decl ci hci k hk
  refine ⟨fun hf => ?_, ?_⟩
  · have hlay := hts _ (cls_ws ci hci _ (u_in_lay hk))
    unfold u_lay at hlay
    rw [if_neg (by rw [hf]; decide), hd] at hlay
    exact u_store hfc hkC hkind hlay hi (cls_ty ci hci k hk) hn hfit
  · have hl := u_lays hts (cls_ws ci hci) hk
    rw [hd] at hl
    exact u_fits hfc hkC hkind hl hi (cls_ty ci hci k hk) hn hfit
end HR2
end JN10hrows2
section JN11hrows3
section HR3
variable {w : WC} {p : Program} {l : Launch} {e : Env} {R : Room} {s : State} {m : MethodId} {args : Array Value} {below : List Frame} {meth : Method} {c : Code} {H : Heap} {locs : List Loc} {cells slots : Nat} {Q : State → Prop}
variable {y pc : Nat} {st : List Value} {ls : Array Slot} {h : Hp} {cc : ByteArray}
/-- putfield: link or nest, final or not -/
theorem z_put (hx : p.tables.exec = Jvm.exec) (hb : c.code = cc) (hK : va_K w.2.1 vwCl (tysW w) s) (hts : ∀ q ∈ BIGG, q.before args s = true) {own : String} {index nest pl : Nat} (hown : s.vm.findClass own = some m.cls) (hN : NestW s) (hW : WdH w s h H locs) {ci a k : Nat} (hci : ci < 8) (hk : k < vwN ci) (ha : h.1[a]? = some (.inr ci))
    (hf : fldOK own index ci k nest pl = true) (hfin : ((vwT ci k).2.2.2 == false || (decide (nest = 0) && decide (meth.name = "<init>") && decide (own = vwC ci))) = true) {v : Value} (hn : narrow (vwTy ci k) v = v) (hfit : fits (vwTy ci k) v = true) {h' : Hp} (h1 : h'.1 = h.1) (ho : ∀ b s', b ≠ a → cel w h' b s' = cel w h b s')
    (hv : cfv w h' ci a k = v) (hv2 : ∀ j, j ≠ k → cfv w h' ci a j = cfv w h ci a j) (hd : decode cc pc = .ok (.putfield index, 3))
    (kk : ∀ H1 locs1, WdH w s h' H1 locs1 → W p l e R s m args below meth c H1 locs1 cells slots Q (F0 m (pc + 3) ls st)) :
    W p l e R s m args below meth c H locs cells slots Q (F0 m pc ls (v :: .ref (w.1 + a) :: st)) := by
  obtain ⟨cell, cf, kf, fi, f, kC, q1, q2, q3, hi, hsl, hst, hfc, hkC, hkind, hlt, hat⟩ := z_putAt hK hts hW hci hk ha
  obtain ⟨s1, s2⟩ := z_stores hK hts hci hk hn hfit hi hfc hkC hkind
  have go : ∀ (H1 : Heap), H1[w.1 + a]? = some (cell.setSlot f.slot v) → H1.size = H.size → (∀ q, q ≠ w.1 + a → H1[q]? = H[q]?) → WdH w s h' H1 (locs ++ [⟨w.1 + a, f.slot⟩]) := by
    intro H1 e1 z oq
    refine hW.upd ha h1 ho ?_ z oq
    have h2 := hat H1 v e1
    rw [← cfs_set hk hv hv2] at h2
    exact h2
  by_cases hff : (vwT ci k).2.2.2 = false
  · unfold fldOK at hf
    by_cases hn0 : nest = 0
    · rw [if_pos hn0] at hf
      exact W.putK hx hb ⟨hown, hts _ (linkOK_in hf), ⟨_, _, _, hi⟩, hst⟩ (by rw [q2]; exact s1 hff) q1 q3 hlt rfl rfl hd (fun H1 e1 z oq => kk H1 _ (go H1 e1 z oq))
    · rw [if_neg hn0] at hf
      exact va_WputK hx hb hown (va_Nw.use rfl (hN _ (nestOK_in hf))) hi hst (by rw [q2]; exact s1 hff) q1 q3 hlt rfl rfl hd (fun H1 e1 z oq => kk H1 _ (go H1 e1 z oq))
  · have hft : (vwT ci k).2.2.2 = true := by simpa using hff
    rw [hft] at hfin
    simp only [Bool.and_eq_true, decide_eq_true_eq, Bool.or_eq_true] at hfin
    obtain ⟨⟨hn0, hini⟩, hoc⟩ := hfin.resolve_left (by decide)
    unfold fldOK at hf
    rw [if_pos hn0] at hf
    have hcf : m.cls = cf := by
      have hlay := hts _ (cls_ws ci hci _ (u_in_lay hk))
      unfold u_lay at hlay
      rw [if_pos hft] at hlay
      obtain ⟨_, _, c', _, _, _, -, -, hf', -, -, -, hown2, -⟩ := Cond.laysFinal_spec hlay
      rw [cls_decl ci hci k hk] at hf' hown2
      have e1 : c' = cf := by have := hi.symm.trans hf'; simp at this; exact this.1.symm
      rw [← e1]
      rw [← hoc] at hown2
      exact Option.some.inj (hown.symm.trans hown2)
    exact W.putFinK hx hb hown (hts _ (linkOK_in hf)) hi hst hcf hini (by rw [q2]; exact s2) q1 q3 hlt rfl rfl hd (fun H1 e1 z oq => kk H1 _ (go H1 e1 z oq))
theorem nn_clamp : ∀ z : Int32, ¬ z < 0 → z.toInt = (z.toNatClampNeg : Int) := by
  intro z hz
  have hz0 : (0 : Int) ≤ z.toInt := by
    have := Int32.not_lt.mp hz
    simpa using Int32.le_iff_toInt_le.mp this
  show z.toInt = ((z.toInt.toNat : Nat) : Int)
  omega
/-- System.arraycopy between two int arrays, or two long arrays, of ours -/
theorem z_copy (hx : p.tables.exec = Jvm.exec) (hb : c.code = cc) (hml : c.maxLocals = ls.size) (hK : va_K w.2.1 vwCl (tysW w) s) (hts : ∀ q ∈ BIGG, q.before args s = true) {own : String} {index pl : Nat} (hown : s.vm.findClass own = some m.cls) (hlk : linkOK pl (.methodLink own index arraycopyName) = true) (hW : WdH w s h H locs)
    {α : Type} (mk : α → Value) (mkA : (Nat → α) → (Nat → Int32) ⊕ (Nat → Int64) ⊕ (Nat → UInt32) ⊕ (Nat → UInt64) ⊕ (Nat → Option Nat)) (hmk : ∀ cA n f, vp_cell cA (n, mkA f) = arrV cA n (fun j => mk (f j))) {t : Nat} {ty : FieldType} (ht : (tysW w)[t]? = some (w.2.2.1 t, ty)) (hprim : refKind ty = false) (hfit : ∀ x, fits ty (mk x) = true) (htr : ∀ x, ∀ r, mk x ≠ .ref r)
    {a b n0 n1 : Nat} {f g : Nat → α} (ha : h.1[a]? = some (.inl (t, n1))) (hbb : h.1[b]? = some (.inl (t, n0))) (hf : cfa w h b t = mkA f) (hg : cfa w h a t = mkA g)
    {sp dp n : Int32} (h1 : ¬ sp < 0) (h2 : ¬ dp < 0) (h3 : ¬ n < 0) (h4 : sp.toNatClampNeg + n.toNatClampNeg ≤ n0) (h5 : dp.toNatClampNeg + n.toNatClampNeg ≤ n1)
    (hframes : 1 ≤ R.frames) (hlocals : (st.map fun v => v.category).sum + (nativeFrameWords "java/lang/System" "arraycopy" 5 + 11) ≤ R.locals) (hd : decode cc pc = .ok (.invokestatic index, 3))
    {h' : Hp} (e1' : h'.1 = h.1) (ho : ∀ b s', b ≠ a → cel w h' b s' = cel w h b s') (hv : cfa w h' a t = mkA (va_cpy f g sp.toNatClampNeg dp.toNatClampNeg n.toNatClampNeg))
    (kk : ∀ H1 locs1, WdH w s h' H1 locs1 → W p l e R s m args below meth c H1 locs1 cells slots Q (F0 m (pc + 3) ls st)) :
    W p l e R s m args below meth c H locs cells slots Q (F0 m pc ls (.int n :: .int dp :: .ref (w.1 + a) :: .int sp :: .ref (w.1 + b) :: st)) := by
  intro T hT X
  have hga := wsH_get (w := w) ha
  have hgb := wsH_get (w := w) hbb
  have hc0 : H[w.1 + b]? = some (arrV (w.2.2.1 t) n0 (fun j => mk (f j))) := by
    have := hW.2.1 b _ hgb
    rw [← hmk, ← hf]
    exact this
  have hc1 : H[w.1 + a]? = some (arrV (w.2.2.1 t) n1 (fun j => mk (g j))) := by
    have := hW.2.1 a _ hga
    rw [← hmk, ← hg]
    exact this
  obtain ⟨-, k0, hk0, cm0, hkk0⟩ := (hK.2 t _ ht).1 n0 (fun j => mk (f j))
  obtain ⟨vm', X', step⟩ := X.arraycopy hx hown (hts _ (linkOK_in hlk)) (hts _ nat_copy) (hts _ sta_copy) (hts _ ini_sys) (src := w.1 + b) (dst := w.1 + a) (cs := arrV (w.2.2.1 t) n0 (fun j => mk (f j))) (cd := arrV (w.2.2.1 t) n1 (fun j => mk (g j))) (srcPos := sp) (destPos := dp) (n := n) (by rw [hT]; exact hc0) (by rw [hT]; exact hc1)
    (fun _ h => by cases h) (fun _ h => by cases h) (fun h => by cases h) (fun h => by cases h) hk0 hk0 hkk0 hkk0 (by simp [hprim]) h1 h2 h3
    (by rw [nn_clamp sp h1, nn_clamp n h3, arrV_size]; omega)
    (by rw [nn_clamp dp h2, nn_clamp n h3, arrV_size]; omega)
    (fun vm₁ _ i hi => by
      have e : (arrV (w.2.2.1 t) n0 (fun j => mk (f j))).slots.getD (sp.toNatClampNeg + i) .null = mk (f (sp.toNatClampNeg + i)) := by
        rw [Array.getD_eq_getD_getElem?, arrV_read _ _ (by omega)]
        rfl
      refine ⟨?_, ?_⟩
      · rw [e]
        exact hfit _
      · rw [e]
        cases hm : mk (f (sp.toNatClampNeg + i)) with
        | ref r => exact absurd hm (htr _ r)
        | _ => trivial)
    (g := F0 m pc ls (.int n :: .int dp :: .ref (w.1 + a) :: .int sp :: .ref (w.1 + b) :: st)) rfl (by rw [hml]) (rest := st) rfl (by rw [hb]; exact hd) hframes (by show 2 * 0 + _ + _ ≤ _; omega)
  have e1 : copied (arrV (w.2.2.1 t) n0 (fun j => mk (f j))) (arrV (w.2.2.1 t) n1 (fun j => mk (g j))) sp dp n = arrV (w.2.2.1 t) n1 (fun j => mk (va_cpy f g sp.toNatClampNeg dp.toNatClampNeg n.toNatClampNeg j)) := va_copied mk _ _ f g h4
  rw [e1] at X' step
  have hl : w.1 + a < H.size := (Array.getElem?_eq_some_iff.mp hc1).1
  have hheap : ((T.setVm vm').setCell (w.1 + a) (arrV (w.2.2.1 t) n1 (fun j => mk (va_cpy f g sp.toNatClampNeg dp.toNatClampNeg n.toNatClampNeg j)))).heap = H.setIfInBounds (w.1 + a) (arrV (w.2.2.1 t) n1 (fun j => mk (va_cpy f g sp.toNatClampNeg dp.toNatClampNeg n.toNatClampNeg j))) := by rw [← hT]; rfl
  have oq : ∀ q : Nat, q ≠ w.1 + a → (H.setIfInBounds (w.1 + a) (arrV (w.2.2.1 t) n1 (fun j => mk (va_cpy f g sp.toNatClampNeg dp.toNatClampNeg n.toNatClampNeg j))))[q]? = H[q]? := fun q hq => by simp [Array.getElem?_setIfInBounds, Ne.symm hq]
  have hz : (H.setIfInBounds (w.1 + a) (arrV (w.2.2.1 t) n1 (fun j => mk (va_cpy f g sp.toNatClampNeg dp.toNatClampNeg n.toNatClampNeg j)))).size = H.size := by simp
  have hW1 := hW.upd (h' := h') (k := 0) ha e1' ho (H1 := H.setIfInBounds (w.1 + a) (arrV (w.2.2.1 t) n1 (fun j => mk (va_cpy f g sp.toNatClampNeg dp.toNatClampNeg n.toNatClampNeg j)))) (by
    show (H.setIfInBounds (w.1 + a) _)[w.1 + a]? = some (vp_cell _ (n1, cfa w h' a t))
    rw [hv, hmk]
    simp [Array.getElem?_setIfInBounds, hl]) hz oq
  obtain ⟨t, a1, b1⟩ := kk _ _ ⟨hW1.1, hW1.2.1, hW1.2.2.1, hW1.2.2.2.1, fun q hq => by
      rcases List.mem_append.mp hq with h | h
      · exact hW.2.2.2.2 q h
      · obtain ⟨z, -, hz⟩ := List.mem_map.mp h
        rw [← hz]
        show w.1 ≤ w.1 + a
        omega⟩ _ hheap X'
  exact ⟨t, step t a1, b1⟩
end HR3
end JN11hrows3
section JN12hrows4
/-! The world behind something new. -/
theorem WdH.app {w : WC} {s : State} {h h' : Hp} {H H1 : Heap} {locs : List Loc} {l : List Sh} (hW : WdH w s h H locs) (h1 : h'.1 = h.1 ++ l) (ho : ∀ b s', b < h.1.length → cel w h' b s' = cel w h b s') (hsz : H1.size = H.size + l.length)
    (hold : ∀ q : Nat, q < H.size → H1[q]? = H[q]?) (hnew : ∀ j s', l[j]? = some s' → va_at w.2.1 vwCl (w.1 + (h.1.length + j), cel w h' (h.1.length + j) s') H1) : WdH w s h' H1 locs := by
  obtain ⟨hW1, hW2, hW3, hW4, hW5⟩ := hW
  refine ⟨by rw [hsz, h1, List.length_append, hW1]; omega, ?_, by omega, fun q q1 q2 => ?_, hW5⟩
  · rw [wsH_app h1 ho]
    refine va_P.app (hW2.kept fun k q hk => hold q.1 ((hW2 k q hk).lt)) (fun j q hj => ?_)
    by_cases hjl : j < l.length
    · rw [List.getElem?_map, List.getElem?_range hjl] at hj
      cases hj
      have e : l[j]? = some (l.getD j (.inr 0)) := by rw [List.getD_eq_getElem?_getD, List.getElem?_eq_getElem hjl]; rfl
      exact hnew j _ e
    · rw [List.getElem?_eq_none (by simp; omega)] at hj
      cases hj
  · rw [hold q (by omega)]
    exact hW4 q q1 q2
theorem cel_clr {w : WC} {h : Hp} {n : Nat} {l : List Sh} {b : Nat} (hb : b ≠ n) (s : Sh) : cel w (l, clr h.2.1 n 0, clr h.2.2.1 n 0, clr h.2.2.2 n none) b s = cel w h b s :=
  cel_push (h := h) (a := b) (h' := (l, clr h.2.1 n 0, clr h.2.2.1 n 0, clr h.2.2.2 n none)) (clr_ne _ _ hb) (clr_ne _ _ hb) (clr_ne _ _ hb) s
section HR4
variable {w : WC} {p : Program} {l : Launch} {e : Env} {R : Room} {s : State} {m : MethodId} {args : Array Value} {below : List Frame} {meth : Method} {c : Code} {H : Heap} {locs : List Loc} {cells slots : Nat} {Q : State → Prop}
variable {y pc : Nat} {st : List Value} {ls : Array Slot} {h : Hp} {cc : ByteArray}
theorem z_new (hx : p.tables.exec = Jvm.exec) (hb : c.code = cc) (hK : va_K w.2.1 vwCl (tysW w) s) (hts : ∀ q ∈ BIGG, q.before args s = true) {own : String} {index pl : Nat} (hown : s.vm.findClass own = some m.cls) (hW : WdH w s h H locs) {ci : Nat} (hci : ci < 8)
    (hlk : linkOK pl (.classLink own index (vwC ci)) = true) (hcells : cells + 1 ≤ R.cells) (hslots : slots + vwN ci ≤ R.slots) (hd : decode cc pc = .ok (.new index, 3))
    (kk : ∀ H1, WdH w s (objNew h ci) H1 locs → W p l e R s m args below meth c H1 locs (cells + 1) (slots + vwN ci) Q (F0 m (pc + 3) ls (.ref (w.1 + h.1.length) :: st))) :
    W p l e R s m args below meth c H locs cells slots Q (F0 m pc ls st) := by
  have hc := cls_tab ci hci
  have hKn := hK.1 ci _ hc
  refine W.newcK hx hb hown (hts _ (linkOK_in hlk)) (hts _ (cls_ins ci hci)) (hts _ (cls_ini ci hci)) rfl hd hcells hslots hKn.2.1 hW.1 fun H1 kC hkC e1 z1 o1 => ?_
  have hob := u_born (vwTy ci) hts (cls_ws ci hci) hKn hkC e1 (cls_ty ci hci)
  refine kk H1 (hW.app (l := [.inr ci]) rfl (fun b s' hb' => cel_clr (Nat.ne_of_lt hb') s') (by rw [z1, hW.1]; rfl) (fun q hq => o1 q (by rw [← hW.1]; exact hq)) (fun j s' hj => ?_))
  have hj0 : j = 0 := by
    have := (List.getElem?_eq_some_iff.mp hj).1
    simp at this
    exact this
  subst hj0
  cases hj
  refine ⟨_, hc, ?_⟩
  rw [Nat.add_zero]
  refine hob.to (fun k hk => ?_)
  show defaultValue (vwTy ci k) = ((List.range (vwN ci)).map (fun j => cfv w (objNew h ci) ci h.1.length j)).getD k .null
  rw [List.getD_eq_getElem?_getD, List.getElem?_map, List.getElem?_range hk]
  show defaultValue (vwTy ci k) = cfv w (objNew h ci) ci h.1.length k
  unfold cfv
  have e1 : (objNew h ci).2.1 h.1.length k = 0 := by show clr h.2.1 h.1.length 0 h.1.length k = 0; rw [clr_self]
  have e2 : (objNew h ci).2.2.2 h.1.length k = none := by show clr h.2.2.2 h.1.length none h.1.length k = none; rw [clr_self]
  rw [e1, e2]
  rcases cls_kind ci hci k hk with q | q | q
  · rw [q]; rfl
  · rw [q]; rfl
  · rw [if_pos q]
    cases hty : vwTy ci k <;> rw [hty] at q <;> first | rfl | cases q
theorem z_newa (hx : p.tables.exec = Jvm.exec) (hb : c.code = cc) (hK : va_K w.2.1 vwCl (tysW w) s) (hts : ∀ q ∈ BIGG, q.before args s = true) (hW : WdH w s h H locs) {at' : ArrayType} {t : Nat} (htag : atag at' = some t) {n : Int32} (hn : ¬ n < 0) (hn2 : n.toNatClampNeg ≤ 10000)
    (hcells : cells + 1 ≤ R.cells) (hslots : slots + n.toNatClampNeg ≤ R.slots) (hd : decode cc pc = .ok (.newarray at', 2))
    (kk : ∀ H1, WdH w s (arrNew h t n.toNatClampNeg) H1 locs → W p l e R s m args below meth c H1 locs (cells + 1) (slots + n.toNatClampNeg) Q (F0 m (pc + 2) ls (.ref (w.1 + h.1.length) :: st))) :
    W p l e R s m args below meth c H locs cells slots Q (F0 m pc ls (.int n :: st)) := by
  have harr : Jvm.Cond.arrayClass (newarray.typeOf at') ∈ BIGG ∧ ∃ ty, newarray.typeOf at' = ty ∧ (tysW w)[t]? = some (w.2.2.1 t, ty) ∧ isRefTy ty = false ∧ ∀ (g : Hp) (N : Nat), (∀ j, g.2.1 h.1.length j = 0) → (∀ j, g.2.2.1 h.1.length j = 0) → vp_cell (w.2.2.1 t) (N, cfa w g h.1.length t) = arrV (w.2.2.1 t) N (fun _ => defaultValue ty) := by
    cases at' <;> cases htag
    · exact ⟨arc_bool, .boolean, rfl, rfl, rfl, fun g N g1 _ => by rw [cfa_2, vp_cell_i]; simp only [g1]; rfl⟩
    · exact ⟨arc_int, .int, rfl, rfl, rfl, fun g N g1 _ => by rw [cfa_0, vp_cell_i]; simp only [g1]; rfl⟩
    · exact ⟨arc_long, .long, rfl, rfl, rfl, fun g N _ g2 => by rw [cfa_1, vp_cell_l]; simp only [g2]; rfl⟩
  obtain ⟨hin, ty, hty, ht, href, hcell⟩ := harr
  have hcb : componentBytes (newarray.typeOf at') ≤ 8 := by cases at' <;> decide
  have hRA := (hK.2 t _ ht).2
  have hnm : s.vm.findClass ("[" ++ ty.toString) = some (w.2.2.1 t) := by
    cases ty <;> first | exact hRA | cases href
  refine va_newaK hx hb (hts _ hin) rfl hd rfl hn rfl (Nat.le_trans (Nat.mul_le_mul hn2 hcb) (by decide)) hcells hslots hW.1 fun H1 cA e1 z1 o1 hAr hNm => ?_
  have hcA : cA = w.2.2.1 t := by
    rw [hty] at hNm
    exact Option.some.inj (hNm.symm.trans hnm)
  subst hcA
  refine kk H1 (hW.app (l := [.inl (t, n.toNatClampNeg)]) rfl (fun b s' hb' => cel_clr (Nat.ne_of_lt hb') s') (by rw [z1, hW.1]; rfl) (fun q hq => o1 q (by rw [← hW.1]; exact hq)) (fun j s' hj => ?_))
  have hj0 : j = 0 := by
    have := (List.getElem?_eq_some_iff.mp hj).1
    simp at this
    exact this
  subst hj0
  cases hj
  show H1[w.1 + (h.1.length + 0)]? = some (vp_cell (w.2.2.1 t) (n.toNatClampNeg, cfa w (arrNew h t n.toNatClampNeg) (h.1.length + 0) t))
  rw [Nat.add_zero, hcell _ _ (fun j => by show clr h.2.1 h.1.length 0 h.1.length j = 0; rw [clr_self]) (fun j => by show clr h.2.2.1 h.1.length 0 h.1.length j = 0; rw [clr_self]), ← hty]
  exact e1
theorem z_newq (hx : p.tables.exec = Jvm.exec) (hb : c.code = cc) (hK : va_K w.2.1 vwCl (tysW w) s) (hts : ∀ q ∈ BIGG, q.before args s = true) {own : String} {index pl : Nat} (hown : s.vm.findClass own = some m.cls) (hW : WdH w s h H locs) (hlk : linkOK pl (.classLink own index RX5) = true) (hAO : va_AO RX5 s) {n : Int32} (hn : ¬ n < 0) (hn2 : n.toNatClampNeg ≤ 10000)
    (hcells : cells + 1 ≤ R.cells) (hslots : slots + n.toNatClampNeg ≤ R.slots) (hd : decode cc pc = .ok (.anewarray index, 3))
    (kk : ∀ H1, WdH w s (arrNew h 3 n.toNatClampNeg) H1 locs → W p l e R s m args below meth c H1 locs (cells + 1) (slots + n.toNatClampNeg) Q (F0 m (pc + 3) ls (.ref (w.1 + h.1.length) :: st))) :
    W p l e R s m args below meth c H locs cells slots Q (F0 m pc ls (.int n :: st)) := by
  refine W.anew hx hb hown (hts _ (linkOK_in hlk)) (va_AO.use hAO) rfl hd rfl hn (by omega) hcells hslots fun cA kA comp f1 f2 f3 f4 => ?_
  obtain ⟨kA', comp', k1, k2, k3, k4⟩ := (hK.2 3 _ rfl).2
  have hcA : cA = w.2.2.1 3 := Option.some.inj (f1.symm.trans k4)
  subst hcA
  rw [arrV_new]
  have hsz : (H.push (arrV (w.2.2.1 3) n.toNatClampNeg fun _ => .null)).size = H.size + 1 := by simp
  have hold : ∀ q : Nat, q < H.size → (H.push (arrV (w.2.2.1 3) n.toNatClampNeg fun _ => .null))[q]? = H[q]? := fun q hq => by
    rw [Array.getElem?_push, if_neg (Nat.ne_of_lt hq)]
  have hk := kk (H.push (arrV (w.2.2.1 3) n.toNatClampNeg fun _ => .null)) (hW.app (l := [.inl (3, n.toNatClampNeg)]) rfl (fun b s' hb' => cel_clr (Nat.ne_of_lt hb') s') hsz hold (fun j s' hj => by
    have hj0 : j = 0 := by
      have := (List.getElem?_eq_some_iff.mp hj).1
      simp at this
      exact this
    subst hj0
    cases hj
    show (H.push _)[w.1 + (h.1.length + 0)]? = some (vp_cell (w.2.2.1 3) (n.toNatClampNeg, cfa w (arrNew h 3 n.toNatClampNeg) (h.1.length + 0) 3))
    rw [Nat.add_zero, ← hW.1, cfa_3, vp_cell_q]
    have e2 : ∀ i, (arrNew h 3 n.toNatClampNeg).2.2.2 h.1.length i = none := fun i => by show clr h.2.2.2 h.1.length none h.1.length i = none; rw [clr_self]
    simp only [e2]
    simp
    rfl))
  rw [← hW.1] at hk
  exact hk
end HR4
end JN12hrows4
section JN13mna
/-! new long[n][k]: the machine's loop, its heap, our world behind it. -/
def mmO (c : ClassId) (N h0 i : Nat) : Cell := arrV c N (fun j => if j < i then .ref (h0 + 1 + j) else .null)
def mmI (cy : ClassId) (K : Nat) : Cell := arrV cy K (fun _ => .long 0)
def mmS (s : State) (c cy : ClassId) (N K : Nat) : Nat → State
  | 0 => s.pushCell (mmO c N s.heap.size 0)
  | i + 1 => ((mmS s c cy N K i).pushCell (mmI cy K)).setCell s.heap.size (mmO c N s.heap.size (i + 1))
theorem mmO_step (c : ClassId) (N h0 i : Nat) : (mmO c N h0 i).setSlot i (.ref (h0 + 1 + i)) = mmO c N h0 (i + 1) := by
  unfold mmO
  rw [arrV_store]
  congr 1
  funext j
  by_cases e : j = i
  · subst e; simp [updV]
  · by_cases h : j < i
    · simp [updV, e, h, Nat.lt_succ_of_lt h]
    · simp [updV, e, h, show ¬ j < i + 1 by omega]
theorem mmS_facts (s : State) (c cy : ClassId) (N K : Nat) : ∀ i, (mmS s c cy N K i).heap.size = s.heap.size + 1 + i ∧ (mmS s c cy N K i).heap[s.heap.size]? = some (mmO c N s.heap.size i) ∧ (mmS s c cy N K i).vm = s.vm ∧ (mmS s c cy N K i).slotsUsed = s.slotsUsed + N + i * K ∧
    (∀ q : Nat, q < s.heap.size → (mmS s c cy N K i).heap[q]? = s.heap[q]?) ∧ ∀ j, j < i → (mmS s c cy N K i).heap[s.heap.size + 1 + j]? = some (mmI cy K)
  | 0 => ⟨by simp [mmS], by simp [mmS], rfl, by simp [mmS, mmO, arrV_size], fun q hq => State.heap_pushCell_of_lt _ _ hq, fun j h => absurd h (Nat.not_lt_zero _)⟩
  | i + 1 => by
    obtain ⟨a, b, d, u, o, r⟩ := mmS_facts s c cy N K i
    have hlt : s.heap.size < (mmS s c cy N K i).heap.size := by omega
    have hb' : ((mmS s c cy N K i).pushCell (mmI cy K)).heap[s.heap.size]? = some (mmO c N s.heap.size i) := by rw [State.heap_pushCell_of_lt (h := hlt)]; exact b
    refine ⟨by simp [mmS, State.setCell, a]; omega, State.heap_setCell_self hb', by simp [mmS, d], ?_, fun q hq => ?_, fun j hj => ?_⟩
    · simp [mmS, u, mmI, arrV_size, Nat.succ_mul]
      omega
    · show (((mmS s c cy N K i).pushCell (mmI cy K)).setCell s.heap.size _).heap[q]? = _
      have hq2 : q < (mmS s c cy N K i).heap.size := by rw [a]; omega
      rw [State.heap_setCell_other (Nat.ne_of_gt hq), State.heap_pushCell_of_lt (h := hq2)]
      exact o q hq
    · show (((mmS s c cy N K i).pushCell (mmI cy K)).setCell s.heap.size _).heap[s.heap.size + 1 + j]? = _
      rw [State.heap_setCell_other (show s.heap.size ≠ s.heap.size + 1 + j by omega)]
      rcases Nat.lt_or_ge j i with h | h
      · have hq2 : s.heap.size + 1 + j < (mmS s c cy N K i).heap.size := by rw [a]; omega
        rw [State.heap_pushCell_of_lt (h := hq2)]
        exact r j h
      · have e : j = i := by omega
        subst e
        rw [← a]
        exact State.heap_pushCell_size _ _
theorem mmS_top (s : State) (f : JFrame) (c cy : ClassId) (N K : Nat) : ∀ i, mmS (s.setTop f) c cy N K i = (mmS s c cy N K i).setTop f
  | 0 => rfl
  | i + 1 => by simp only [mmS, mmS_top s f c cy N K i, State.heap_setTop, State.pushCell_setTop, State.setCell_setTop]
section MM
variable {E : CtlPost} {e : Env} {d : Bool} {acts : List Action} {s : State}
theorem mm_new {c comp : ClassId} {k : Class} {ty : FieldType} {n : Nat} {v : Value} (hk : s.vm.classes[c]? = some k) (hkind : k.kind = .array comp ty) (h1 : ¬ n > e.platform.arrayLengthLimit) (h2 : ¬ n * componentBytes ty > e.platform.maxHeapBytes) (hf : fits ty v = true) (hd : v.isDefault = true)
    (h3 : s.heap.size < e.platform.maxCells) (h4 : s.slotsUsed + n ≤ e.platform.maxSlots) {Q : Addr → Pre} (hq : Q s.heap.size d acts (s.pushCell (arrV c n (fun _ => v)))) : wp (Jvm.newArray c n v) Q E e d acts s := by
  have hfits : ∀ i x, (Array.replicate n v)[i]? = some x → s.fitsSlot c .none i x = true := by
    intro i x hx
    simp only [Array.getElem?_replicate] at hx
    split at hx
    · cases hx; simp [State.fitsSlot, State.slotType?, hk, hkind, hf]
    · cases hx
  have hda : allocActs (Array.replicate n v) s.heap.size acts = acts := by
    have : ((Array.replicate n v).all (·.isDefault)) = true := by
      rw [Array.all_replicate]; split <;> simp [hd]
    unfold allocActs; rw [if_pos this]
  rw [← arrV_new] at hq
  simp only [Jvm.newArray, Jvm.arrayFits, wp_bind', W.ask, W.ite, h1, if_false, wp_pure', W.theClass, hk, hkind, h2, W.alloc, W.stop, Option.some.injEq, exists_eq_left', Array.size_replicate, hda]
  rw [if_neg (by omega)]
  exact ⟨h3, h4, hfits, hq⟩
theorem mm_make {c cy cc : ClassId} {k ky : Class} {n m : Int32} (hk : s.vm.classes[c]? = some k) (hkind : k.kind = .array cy (.array .long)) (hky : s.vm.classes[cy]? = some ky) (hkindy : ky.kind = .array cc .long) (hn : ¬ n < 0) (hm : ¬ m < 0)
    (hl1 : ¬ n.toNatClampNeg > e.platform.arrayLengthLimit) (hh1 : ¬ n.toNatClampNeg * componentBytes (.array .long) > e.platform.maxHeapBytes) (hl2 : ¬ m.toNatClampNeg > e.platform.arrayLengthLimit) (hh2 : ¬ m.toNatClampNeg * componentBytes .long > e.platform.maxHeapBytes)
    (hc : s.heap.size + 1 + n.toNatClampNeg ≤ e.platform.maxCells) (hs : s.slotsUsed + n.toNatClampNeg + n.toNatClampNeg * m.toNatClampNeg ≤ e.platform.maxSlots) {Q : Addr → Pre} (hq : ∀ d' acts', Q s.heap.size d' acts' (mmS s c cy n.toNatClampNeg m.toNatClampNeg n.toNatClampNeg)) :
    wp (Op.multianewarray.make c [n, m]) Q E e d acts s := by
  have hfind : ([m].find? (· < 0)) = none := by simp [hm]
  rw [Op.multianewarray.make]
  simp only [wp_bind', W.ite, hn, if_false, wp_pure', W.theClass, hk, hkind, Option.some.injEq, exists_eq_left']
  refine mm_new hk hkind hl1 hh1 rfl rfl (by omega) (by have := Nat.zero_le (n.toNatClampNeg * m.toNatClampNeg); omega) ?_
  simp only [hfind]
  rw [ite_self, wp_bind', Std.Legacy.Range.forIn_eq_forIn_range']
  have hsz : ([:n.toNatClampNeg] : Std.Legacy.Range).size = n.toNatClampNeg := by simp [Std.Legacy.Range.size]
  rw [hsz]
  show wp (forIn (List.range' 0 n.toNatClampNeg 1) PUnit.unit _) _ E e d acts _
  refine wp_forIn_inv (fun rest s' => ∃ i, i ≤ n.toNatClampNeg ∧ rest = List.range' i (n.toNatClampNeg - i) ∧ s' = mmS s c cy n.toNatClampNeg m.toNatClampNeg i) _ _ ⟨0, Nat.zero_le _, rfl, ?_⟩ ?_ ?_
  · show s.pushCell _ = s.pushCell _
    congr 1
  · rintro x rest s' d' acts' Q' ⟨i, hi, hl, rfl⟩ hnext
    have hlt : i < n.toNatClampNeg := by
      rcases Nat.lt_or_ge i n.toNatClampNeg with h | h
      · exact h
      · rw [show n.toNatClampNeg - i = 0 by omega] at hl; simp at hl
    obtain ⟨rfl, hrest⟩ : x = i ∧ rest = List.range' (i + 1) (n.toNatClampNeg - (i + 1)) := by
      rw [show n.toNatClampNeg - i = (n.toNatClampNeg - (i + 1)) + 1 by omega, List.range'_succ] at hl
      exact ⟨(List.cons.inj hl).1, (List.cons.inj hl).2⟩
    obtain ⟨f1, f2, f3, f4, -, -⟩ := mmS_facts s c cy n.toNatClampNeg m.toNatClampNeg x
    have hmul : x * m.toNatClampNeg + m.toNatClampNeg ≤ n.toNatClampNeg * m.toNatClampNeg := by
      have := Nat.mul_le_mul_right m.toNatClampNeg (show x + 1 ≤ n.toNatClampNeg from hlt)
      rw [Nat.succ_mul] at this
      exact this
    simp only [wp_bind']
    rw [Op.multianewarray.make]
    simp only [wp_bind', W.ite, hm, if_false, wp_pure', W.theClass, f3, hky, hkindy, Option.some.injEq, exists_eq_left']
    refine mm_new (by rw [f3]; exact hky) hkindy hl2 hh2 rfl rfl (by rw [f1]; omega) (by rw [f4]; omega) ?_
    have hlt0 : s.heap.size < (mmS s c cy n.toNatClampNeg m.toNatClampNeg x).heap.size := by rw [f1]; omega
    simp only [wp_bind', W.writeLoc, wp_pure']
    refine ⟨mmO c n.toNatClampNeg s.heap.size x, by rw [State.heap_pushCell_of_lt (h := hlt0)]; exact f2, by simp [mmO, arrV], by rw [mmO, arrV_size]; exact hlt, ?_, hnext _ _ _ ⟨x + 1, hlt, hrest, ?_⟩⟩
    · have e1 : (mmO c n.toNatClampNeg s.heap.size x).cls = c := rfl
      have e2 : (mmO c n.toNatClampNeg s.heap.size x).vm = .none := rfl
      rw [e1, e2]
      simp [State.fitsSlot, State.slotType?, f3, hk, hkind, fits]
    · rw [f1, mmO_step]
      rfl
  · rintro s' d' acts' ⟨i, hi, hl, rfl⟩
    have hiN : i = n.toNatClampNeg := by
      rcases Nat.lt_or_ge i n.toNatClampNeg with h | h
      · rw [show n.toNatClampNeg - i = (n.toNatClampNeg - (i + 1)) + 1 by omega, List.range'_succ] at hl; cases hl
      · omega
    subst hiN
    simp only [wp_pure']
    exact hq _ _
end MM
section MR
variable {w : WC} {p : Program} {l : Launch} {e : Env} {R : Room} {s : State} {m : MethodId} {args : Array Value} {below : List Frame} {meth : Method} {c : Code} {H : Heap} {locs : List Loc} {cells slots : Nat} {Q : State → Prop}
variable {y pc : Nat} {st : List Value} {ls : Array Slot} {h : Hp} {cc : ByteArray} {T : State}
theorem mm_stand (X : Stand p l e R s m args below meth c T locs cells slots) (cA cy : ClassId) (N K : Nat) : ∀ i, Stand p l e R s m args below meth c (mmS T cA cy N K i) (locs ++ (List.range i).map fun j => ⟨T.heap.size, j⟩) (cells + 1 + i) (slots + N + i * K)
  | 0 => by
    have h := X.pushed (mmO cA N T.heap.size 0)
    rw [show (mmO cA N T.heap.size 0).slots.size = N from arrV_size _ _ _] at h
    simpa [mmS] using h
  | i + 1 => by
    have Xi := mm_stand X cA cy N K i
    obtain ⟨f1, f2, f3, f4, -, -⟩ := mmS_facts T cA cy N K i
    have hlt0 : T.heap.size < (mmS T cA cy N K i).heap.size := by rw [f1]; omega
    have hcell : ((mmS T cA cy N K i).pushCell (mmI cy K)).heap[T.heap.size]? = some (mmO cA N T.heap.size i) := by rw [State.heap_pushCell_of_lt (h := hlt0)]; exact f2
    have h := (Xi.pushed (mmI cy K)).stored hcell i (.ref (T.heap.size + 1 + i))
    rw [mmO_step, show (mmI cy K).slots.size = K from arrV_size _ _ _] at h
    have e2 : (locs ++ (List.range (i + 1)).map fun j => (⟨T.heap.size, j⟩ : Loc)) = (locs ++ (List.range i).map fun j => (⟨T.heap.size, j⟩ : Loc)) ++ [⟨T.heap.size, i⟩] := by simp [List.range_succ, List.append_assoc]
    have e3 : slots + N + (i + 1) * K = slots + N + i * K + K := by rw [Nat.succ_mul]; omega
    rw [e2, e3]
    exact h
theorem z_mna (hx : p.tables.exec = Jvm.exec) (hb : c.code = cc) (hK : va_K w.2.1 vwCl (tysW w) s) (hts : ∀ q ∈ BIGG, q.before args s = true) {own : String} {index pl : Nat} (hown : s.vm.findClass own = some m.cls) (hW : WdH w s h H locs) (hlk : linkOK pl (.classLink own index "[[J") = true) (hAO : vz_AOA .long s) {n k : Int32} (hn : ¬ n < 0) (hk : ¬ k < 0) (hn2 : n.toNatClampNeg ≤ 1000) (hk2 : k.toNatClampNeg ≤ 1000)
    (hcells : cells + (1 + n.toNatClampNeg) ≤ R.cells) (hslots : slots + (n.toNatClampNeg + n.toNatClampNeg * k.toNatClampNeg) ≤ R.slots) (hd : decode cc pc = .ok (.multianewarray index 2, 4))
    (kk : ∀ H1 locs1, WdH w s (rowNew h n.toNatClampNeg k.toNatClampNeg) H1 locs1 → W p l e R s m args below meth c H1 locs1 (cells + (1 + n.toNatClampNeg)) (slots + (n.toNatClampNeg + n.toNatClampNeg * k.toNatClampNeg)) Q (F0 m (pc + 4) ls (.ref (w.1 + h.1.length) :: st))) :
    W p l e R s m args below meth c H locs cells slots Q (F0 m pc ls (.int k :: .int n :: st)) := by
  intro T hT X
  have hpl : e.platform.magicAccessors = ({} : Platform).magicAccessors := by rw [X.admits.platform]
  obtain ⟨comp, cA, kA, hcomp, -, hkA, hkindA, hnameA⟩ := arrayOverA_spec hAO
  obtain ⟨hArr, hRA⟩ := hK.2 1 _ rfl
  have hcy : s.vm.findClass (FieldType.array .long).toString = some (w.2.2.1 1) := hRA
  obtain rfl : comp = w.2.2.1 1 := Option.some.inj (hcomp.symm.trans hcy)
  obtain ⟨-, kC, hkC, ccl, hkindC⟩ := hArr 0 (fun _ => .null)
  have hcl0 := hts _ (linkOK_in hlk)
  obtain ⟨c0, hfc0, hcl⟩ := Cond.classLink_spec hown hcl0 e.platform hpl
  have hnameA' : s.vm.findClass "[[J" = some cA := hnameA
  obtain rfl : cA = c0 := Option.some.inj (hnameA'.symm.trans hfc0)
  have hcA4 : cA = w.2.2.1 4 := Option.some.inj (hnameA'.symm.trans (hK.2 4 _ rfl).2)
  obtain ⟨hg₁, hwarm₁, hready₁⟩ := State.classEntry (e := e) X.warmed hcl
  generalize T.vm.noted m.cls index (.cls cA) = vm₁ at hg₁ hwarm₁ hready₁
  have hal : s.vm.Alike vm₁ := hwarm₁.alike
  obtain ⟨kA₁, hkA₁, heA⟩ := hal.2.2 _ _ hkA
  obtain ⟨kC₁, hkC₁, heC⟩ := hal.2.2 _ _ hkC
  have hkindA₁ : kA₁.kind = .array (w.2.2.1 1) (.array .long) := by rw [heA]; exact hkindA
  have hkindC₁ : kC₁.kind = .array ccl .long := by rw [heC]; exact hkindC
  have X₁ := X.noted hwarm₁
  obtain ⟨hr1, hr2⟩ := X.roomAbove hcells hslots
  have XF := mm_stand X₁ cA (w.2.2.1 1) n.toNatClampNeg k.toNatClampNeg n.toNatClampNeg
  obtain ⟨f1, f2, f3, f4, f5, f6⟩ := mmS_facts (T.setVm vm₁) cA (w.2.2.1 1) n.toNatClampNeg k.toNatClampNeg n.toNatClampNeg
  have hTh : (T.setVm vm₁).heap = H := hT
  have hTz : (T.setVm vm₁).heap.size = w.1 + h.1.length := by rw [hTh]; exact hW.1
  have hWN : WdH w s (rowNew h n.toNatClampNeg k.toNatClampNeg) (mmS (T.setVm vm₁) cA (w.2.2.1 1) n.toNatClampNeg k.toNatClampNeg n.toNatClampNeg).heap locs := by
    refine hW.app (l := .inl (4, n.toNatClampNeg) :: List.replicate n.toNatClampNeg (.inl (1, k.toNatClampNeg))) rfl (fun b s' hb' => ?_) (by rw [f1, hTz, hW.1]; simp; omega) (fun q hq => by rw [f5 q (by rw [hTh]; exact hq), hTh]) (fun j s' hj => ?_)
    · refine cel_push (h := h) (a := b) (h' := rowNew h n.toNatClampNeg k.toNatClampNeg) ?_ ?_ ?_ s'
      · show (if h.1.length ≤ b then (fun _ => (0 : Int32)) else h.2.1 b) = h.2.1 b
        rw [if_neg (by omega)]
      · show (if h.1.length ≤ b then (fun _ => (0 : Int64)) else h.2.2.1 b) = h.2.2.1 b
        rw [if_neg (by omega)]
      · show (if b = h.1.length then (fun i => if i < n.toNatClampNeg then some (h.1.length + 1 + i) else none) else if h.1.length ≤ b then (fun _ => none) else h.2.2.2 b) = h.2.2.2 b
        rw [if_neg (by omega), if_neg (by omega)]
    · cases j with
      | zero =>
        rw [List.getElem?_cons_zero] at hj
        cases hj
        show (mmS (T.setVm vm₁) cA (w.2.2.1 1) n.toNatClampNeg k.toNatClampNeg n.toNatClampNeg).heap[w.1 + (h.1.length + 0)]? = some (vp_cell (w.2.2.1 4) (n.toNatClampNeg, cfa w (rowNew h n.toNatClampNeg k.toNatClampNeg) (h.1.length + 0) 4))
        rw [Nat.add_zero, ← hTz, f2, cfa_4, vp_cell_q, ← hcA4, hTz]
        unfold mmO
        congr 2
        funext j
        have er : (rowNew h n.toNatClampNeg k.toNatClampNeg).2.2.2 h.1.length j = if j < n.toNatClampNeg then some (h.1.length + 1 + j) else none := by
          show (if h.1.length = h.1.length then (fun i => if i < n.toNatClampNeg then some (h.1.length + 1 + i) else none) else if h.1.length ≤ h.1.length then (fun _ => none) else h.2.2.2 h.1.length) j = _
          rw [if_pos rfl]
        rw [er]
        by_cases hj2 : j < n.toNatClampNeg
        · rw [if_pos hj2, if_pos hj2]
          show Value.ref (w.1 + h.1.length + 1 + j) = Value.ref (w.1 + (h.1.length + 1 + j))
          rw [show w.1 + h.1.length + 1 + j = w.1 + (h.1.length + 1 + j) by omega]
        · rw [if_neg hj2, if_neg hj2]
          rfl
      | succ j =>
        rw [List.getElem?_cons_succ] at hj
        have hjn : j < n.toNatClampNeg := by
          have := (List.getElem?_eq_some_iff.mp hj).1
          simpa using this
        rw [List.getElem?_replicate, if_pos hjn] at hj
        cases hj
        show (mmS (T.setVm vm₁) cA (w.2.2.1 1) n.toNatClampNeg k.toNatClampNeg n.toNatClampNeg).heap[w.1 + (h.1.length + (j + 1))]? = some (vp_cell (w.2.2.1 1) (k.toNatClampNeg, cfa w (rowNew h n.toNatClampNeg k.toNatClampNeg) (h.1.length + (j + 1)) 1))
        have h6 := f6 j hjn
        rw [hTz] at h6
        rw [show w.1 + (h.1.length + (j + 1)) = w.1 + h.1.length + 1 + j by omega, h6, cfa_1, vp_cell_l]
        unfold mmI
        congr 2
        funext i
        show Value.long 0 = .long ((if h.1.length ≤ h.1.length + (j + 1) then (fun _ => (0 : Int64)) else h.2.2.1 (h.1.length + (j + 1))) i)
        rw [if_pos (by omega)]
  have hWN2 : WdH w s (rowNew h n.toNatClampNeg k.toNatClampNeg) (mmS (T.setVm vm₁) cA (w.2.2.1 1) n.toNatClampNeg k.toNatClampNeg n.toNatClampNeg).heap (locs ++ (List.range n.toNatClampNeg).map fun j => ⟨(T.setVm vm₁).heap.size, j⟩) := by
    refine ⟨hWN.1, hWN.2.1, hWN.2.2.1, hWN.2.2.2.1, fun q hq => ?_⟩
    rcases List.mem_append.mp hq with h9 | h9
    · exact hW.2.2.2.2 q h9
    · obtain ⟨z, -, hz⟩ := List.mem_map.mp h9
      rw [← hz]
      show w.1 ≤ (T.setVm vm₁).heap.size
      omega
  obtain ⟨t, a1, b1⟩ := kk _ _ hWN2 (mmS (T.setVm vm₁) cA (w.2.2.1 1) n.toNatClampNeg k.toNatClampNeg n.toNatClampNeg) rfl (by
    have e1 : cells + 1 + n.toNatClampNeg = cells + (1 + n.toNatClampNeg) := by omega
    have e2 : slots + n.toNatClampNeg + n.toNatClampNeg * k.toNatClampNeg = slots + (n.toNatClampNeg + n.toNatClampNeg * k.toNatClampNeg) := by omega
    rw [← e1, ← e2]
    exact XF)
  refine ⟨t, ?_, b1⟩
  have hl1 : ¬ n.toNatClampNeg > e.platform.arrayLengthLimit := by rw [Launch.admits_arrayLengthLimit X.admits]; omega
  have hh1 : ¬ n.toNatClampNeg * componentBytes (.array .long) > e.platform.maxHeapBytes := by
    rw [Launch.admits_maxHeapBytes X.admits]; show ¬ n.toNatClampNeg * 4 > 536870912; omega
  have hl2 : ¬ k.toNatClampNeg > e.platform.arrayLengthLimit := by rw [Launch.admits_arrayLengthLimit X.admits]; omega
  have hh2 : ¬ k.toNatClampNeg * componentBytes .long > e.platform.maxHeapBytes := by rw [Launch.admits_maxHeapBytes X.admits]; show ¬ k.toNatClampNeg * 8 > 536870912; omega
  jvm_step X.here [hx, hb, hd, X.here.top]
  simp only [Op.multianewarray.sem, wp_bind', W.resolveClassAt_links (State.method?_setTop (F0 m pc ls (.int k :: .int n :: st)) X.here.top) hg₁]
  rw [W.popN, if_neg (by decide)]
  refine ⟨F0 m pc ls (.int k :: .int n :: st), State.topJava?_setTop' (s := T.setVm vm₁) (F0 m pc ls (.int k :: .int n :: st)) X.here.top, [.int n, .int k], st, rfl, rfl, ?_⟩
  simp only [List.mapM_cons, List.mapM_nil, wp_bind', wp_pure']
  refine mm_make (k := kA₁) (ky := kC₁) (cy := w.2.2.1 1) (cc := ccl) hkA₁ hkindA₁ hkC₁ hkindC₁ hn hk hl1 hh1 hl2 hh2 (by show T.heap.size + 1 + _ ≤ _; omega) (by show T.slotsUsed + _ + _ ≤ _; omega) (fun d' acts' => ?_)
  have eS : ((T.setTop (F0 m pc ls (.int k :: .int n :: st))).setVm vm₁).setTop { F0 m pc ls (.int k :: .int n :: st) with stack := st } = (T.setVm vm₁).setTop { F0 m pc ls (.int k :: .int n :: st) with stack := st } := by
    show ((T.setVm vm₁).setTop (F0 m pc ls (.int k :: .int n :: st))).setTop _ = _
    rw [State.setTop_setTop]
  rw [eS, mmS_top]
  simp only [wp_bind', W.mark, W.pushRef, State.topJava?_setTop' _ XF.here.top, Option.some.injEq, exists_eq_left', State.setTop_setTop, State.heap_setTop]
  intro acts
  simp [jvm, XF.here.top]
  rw [show T.heap.size = w.1 + h.1.length from hTz]
  exact a1
end MR
end JN13mna
section JN14hsound
/-! The steps on the heap are the machine's. -/
theorem slotS_app (a b : List Sh) : slotS (a ++ b) = slotS a + slotS b := by simp [slotS]
theorem slotS_rep (n k : Nat) : slotS (List.replicate n (.inl (1, k))) = n * k := by
  induction n with
  | zero => simp [slotS]
  | succ n ih =>
    rw [List.replicate_succ, show (Sum.inl (1, k) :: List.replicate n (Sum.inl (1, k)) : List Sh) = [Sum.inl (1, k)] ++ List.replicate n (Sum.inl (1, k)) from rfl, slotS_app, ih, Nat.succ_mul]
    simp [slotS, shSz]
    omega
theorem cfv_int {w : WC} {h : Hp} {ci a k : Nat} (hr : isRefTy (vwTy ci k) = false) : cfv w h ci a k = .int (h.2.1 a k) := by
  unfold cfv
  rw [hr]
  rfl
theorem cfv_ref {w : WC} {h : Hp} {ci a k : Nat} (hr : isRefTy (vwTy ci k) = true) : cfv w h ci a k = va_rf ((h.2.2.2 a k).map (fun b => w.1 + b)) := by
  unfold cfv
  rw [hr]
  rfl
section HS
variable {w : WC} {p : Program} {l : Launch} {e : Env} {R : Room} {s : State} {m : MethodId} {args : Array Value} {below : List Frame} {meth : Method} {c : Code} {H : Heap} {locs : List Loc} {cells slots : Nat} {Q : State → Prop}
variable {y pc len : Nat} {L st L' st' : List Value} {i : Instr} {o : List Nat} {pc' : Nat} {ls : Array Slot} {h h' : Hp}
theorem g_new (M : MC w p s m args meth c y) (hW : WdH w s h H locs) {idx ci k nest pl a : Nat} {v : Value} (hci : ci < 8) (hd : decode (mBytes y) pc = .ok (.getfield idx, 3)) (hf : fldOK (mName y).cls idx ci k nest pl = true) (ha : a < OLDB) (hs : h.1[a]? = some (.inr ci)) (hk : k < vwN ci) (hv : fval h ci a k = some v)
    (kk : W p l e R s m args below meth c H locs cells slots Q (F0 m (pc + 3) ls (tr w v :: st))) : W p l e R s m args below meth c H locs cells slots Q (F0 m pc ls (tr w (.ref a) :: st)) := by
  obtain ⟨hx, hb, -, -, -, hown, -, hts, hN, hK, hO⟩ := M
  have hg := wsH_get (w := w) hs
  have hfs : ((List.range (vwN ci)).map (fun j => cfv w h ci a j))[k]? = some (tr w v) := by
    rw [List.getElem?_map, List.getElem?_range hk]
    show some (cfv w h ci a k) = _
    unfold fval at hv
    by_cases hr : isRefTy (vwTy ci k) = true
    · rw [if_pos hr] at hv
      rw [cfv_ref hr]
      cases hq : h.2.2.2 a k with
      | none => rw [hq] at hv; cases hv
      | some b =>
        rw [hq] at hv
        obtain ⟨hb2, hv⟩ := inv_if hv
        cases hv
        rw [tr_new hb2]
        rfl
    · rw [if_neg hr] at hv
      cases hv
      rw [cfv_int (by simpa using hr)]
      rfl
  rw [tr_new ha]
  unfold fldOK at hf
  by_cases hn : nest = 0
  · rw [if_pos hn] at hf
    exact va_get hx hb hts (cls_ws ci hci) hown hK hW.2.1 a hg (cls_tab ci hci) k hk (hts _ (linkOK_in hf)) (fun x hxx => by rw [cls_decl ci hci k hk] at hxx; exact hxx) hfs hd kk
  · rw [if_neg hn] at hf
    exact va_getN hx hb hts (cls_ws ci hci) hown hK hW.2.1 a hg (cls_tab ci hci) k hk (va_Nw.use rfl (hN _ (nestOK_in hf))) (fun x hxx => by rw [cls_decl ci hci k hk] at hxx; exact hxx) hfs hd kk
theorem g_str (M : MC w p s m args meth c y) (hW : WdH w s h H locs) {idx f pl a : Nat} (hd : decode (mBytes y) pc = .ok (.getfield idx, 3)) (hf : linkOK pl (.fieldLink (mName y).cls idx "java/lang/String" (sFld f) (sFldD f)) = true) (ha : OLDB + 3 ≤ a ∧ a < OLDB + 8)
    (kk : W p l e R s m args below meth c H locs cells slots Q (F0 m (pc + 3) ls (tr w (if f = 0 then .ref (a + 5) else .int 0) :: st))) : W p l e R s m args below meth c H locs cells slots Q (F0 m pc ls (tr w (.ref a) :: st)) := by
  obtain ⟨hx, hb, -, -, -, hown, -, hts, hN, hK, hO⟩ := M
  have hB := OLDB_eq
  have hS := hO.2.2.2.2.2.2.2.2.2.1
  rw [tr_old (by omega) (by omega), show a - OLDB = 3 + (a - OLDB - 3) by omega]
  obtain ⟨-, h2, h3, -⟩ := hS.1 (a - OLDB - 3) (by omega)
  by_cases hf0 : f = 0
  · subst hf0
    rw [if_pos rfl, tr_old (by omega) (by omega), show a + 5 - OLDB = 8 + (a - OLDB - 3) by omega] at kk
    exact vk_getf hx hb h3 hW.2.2 hown (hts _ (linkOK_in hf)) (fun _ q => q) hd kk
  · rw [if_neg hf0] at kk
    have e1 : sFld f = "coder" := if_neg hf0
    have e2 : sFldD f = "B" := if_neg hf0
    rw [e1, e2] at hf
    exact vk_getf hx hb h2 hW.2.2 hown (hts _ (linkOK_in hf)) (fun _ q => q) hd kk
theorem old_int (M : MC w p s m args meth c y) (hW : WdH w s h H locs) {a n : Nat} {f : Nat → Int32} {j : Int32} (ha : ¬ a < OLDB) (ho : oldArr w.2.2.2.2.2 (a - OLDB) = some (0, n, f)) (hin : inB j n = true) (hd : decode (mBytes y) pc = .ok (.iaload, 1))
    (kk : W p l e R s m args below meth c H locs cells slots Q (F0 m (pc + 1) ls (.int (f j.toNatClampNeg) :: st))) : W p l e R s m args below meth c H locs cells slots Q (F0 m pc ls (.int j :: tr w (.ref a) :: st)) := by
  obtain ⟨hx, hb, -, -, -, hown, -, hts, hN, hK, hO⟩ := M
  have hB := OLDB_eq
  unfold oldArr at ho
  by_cases h0 : a - OLDB = 0
  · rw [if_pos h0] at ho
    cases ho
    rw [tr_old ha (by omega), h0]
    exact va_sld hx hb hO.1 (Nat.lt_of_lt_of_le hO.2.1 hO.2.2.1) (by show ¬ w.1 ≤ _; have := hO.2.1; omega) hW.2.2 (inB_in hin) hd kk
  · rw [if_neg h0] at ho
    by_cases h1 : a - OLDB = 1
    · rw [if_pos h1] at ho
      cases ho
      rw [tr_old ha (by omega), h1]
      exact va_ti hx hb hO.2.2.2.1 hW.2.2 (inB_in hin) rfl hd kk
    · rw [if_neg h1] at ho
      by_cases h2 : a - OLDB = 2
      · rw [if_pos h2] at ho
        cases ho
        rw [tr_old ha (by omega), h2]
        exact va_ti hx hb hO.2.2.2.2.1 hW.2.2 (inB_in hin) rfl hd kk
      · rw [if_neg h2] at ho
        obtain ⟨-, ho⟩ := inv_if ho
        cases ho
theorem old_byte (M : MC w p s m args meth c y) (hW : WdH w s h H locs) {a n : Nat} {f : Nat → Int32} {j : Int32} (ha : ¬ a < OLDB) (ho : oldArr w.2.2.2.2.2 (a - OLDB) = some (5, n, f)) (hin : inB j n = true) (hd : decode (mBytes y) pc = .ok (.baload, 1))
    (kk : W p l e R s m args below meth c H locs cells slots Q (F0 m (pc + 1) ls (.int (f j.toNatClampNeg) :: st))) : W p l e R s m args below meth c H locs cells slots Q (F0 m pc ls (.int j :: tr w (.ref a) :: st)) := by
  obtain ⟨hx, hb, -, -, -, hown, -, hts, hN, hK, hO⟩ := M
  have hB := OLDB_eq
  unfold oldArr at ho
  by_cases h0 : a - OLDB = 0
  · rw [if_pos h0] at ho
    cases ho
  · rw [if_neg h0] at ho
    by_cases h1 : a - OLDB = 1
    · rw [if_pos h1] at ho
      cases ho
    · rw [if_neg h1] at ho
      by_cases h2 : a - OLDB = 2
      · rw [if_pos h2] at ho
        cases ho
      · rw [if_neg h2] at ho
        obtain ⟨h3, ho⟩ := inv_if ho
        injection ho with ho
        injection ho with e0 ho
        injection ho with e1 e2
        subst e1
        subst e2
        have hS := hO.2.2.2.2.2.2.2.2.2.1
        obtain ⟨-, -, -, h4⟩ := hS.1 (a - OLDB - 8) (by omega)
        rw [tr_old ha (by omega), show a - OLDB = 8 + (a - OLDB - 8) by omega]
        exact va_tb hx hb h4 hW.2.2 (inB_in hin) rfl hd kk
theorem old_len (M : MC w p s m args meth c y) (hW : WdH w s h H locs) {a t n : Nat} {f : Nat → Int32} (ha : ¬ a < OLDB) (ho : oldArr w.2.2.2.2.2 (a - OLDB) = some (t, n, f)) (hd : decode (mBytes y) pc = .ok (.arraylength, 1))
    (kk : W p l e R s m args below meth c H locs cells slots Q (F0 m (pc + 1) ls (.int (Int32.ofNat n) :: st))) : W p l e R s m args below meth c H locs cells slots Q (F0 m pc ls (tr w (.ref a) :: st)) := by
  obtain ⟨hx, hb, -, -, -, hown, -, hts, hN, hK, hO⟩ := M
  have hB := OLDB_eq
  unfold oldArr at ho
  by_cases h0 : a - OLDB = 0
  · rw [if_pos h0] at ho
    cases ho
    rw [tr_old ha (by omega), h0]
    exact va_slen hx hb hO.1 (Nat.lt_of_lt_of_le hO.2.1 hO.2.2.1) (by show ¬ w.1 ≤ _; have := hO.2.1; omega) hW.2.2 hd kk
  · rw [if_neg h0] at ho
    by_cases h1 : a - OLDB = 1
    · rw [if_pos h1] at ho
      cases ho
      rw [tr_old ha (by omega), h1]
      exact va_tlen hx hb hO.2.2.2.1 hW.2.2 rfl hd kk
    · rw [if_neg h1] at ho
      by_cases h2 : a - OLDB = 2
      · rw [if_pos h2] at ho
        cases ho
        rw [tr_old ha (by omega), h2]
        exact va_tlen hx hb hO.2.2.2.2.1 hW.2.2 rfl hd kk
      · rw [if_neg h2] at ho
        obtain ⟨h3, ho⟩ := inv_if ho
        injection ho with ho
        injection ho with e0 ho
        injection ho with e1 e2
        subst e1
        subst e2
        have hS := hO.2.2.2.2.2.2.2.2.2.1
        obtain ⟨-, -, -, h4⟩ := hS.1 (a - OLDB - 8) (by omega)
        rw [tr_old ha (by omega), show a - OLDB = 8 + (a - OLDB - 8) by omega]
        exact va_tlen hx hb h4 hW.2.2 rfl hd kk
theorem sta_get (M : MC w p s m args meth c y) (hW : WdH w s h H locs) {idx sid nest pl : Nat} {v : Value} (hd : decode (mBytes y) pc = .ok (.getstatic idx, 3)) (hf : staOK (mName y).cls idx sid nest pl = true)
    (hv : (sid = 0 ∧ v = .ref (OLDB + 1)) ∨ (sid = 1 ∧ v = .ref (OLDB + 2)) ∨ (sid = 2 ∧ v = .int 1) ∨ (sid = 3 ∧ v = .ref (OLDB + 13)))
    (kk : W p l e R s m args below meth c H locs cells slots Q (F0 m (pc + 3) ls (tr w v :: st))) : W p l e R s m args below meth c H locs cells slots Q (F0 m pc ls st) := by
  obtain ⟨hx, hb, -, -, -, hown, -, hts, hN, hK, hO⟩ := M
  have hB := OLDB_eq
  obtain ⟨-, -, -, -, -, hZ1, hZ2, hZ3, hZ4, -⟩ := hO
  rcases hv with ⟨rfl, rfl⟩ | ⟨rfl, rfl⟩ | ⟨rfl, rfl⟩ | ⟨rfl, rfl⟩
  · rw [tr_old (by omega) (by omega), show OLDB + 1 - OLDB = 1 by omega] at kk
    simp only [staOK] at hf
    by_cases hn : nest = 0
    · rw [if_pos hn] at hf
      exact va_gets hx hb hZ1 hW.2.2 hown (hts _ (linkOK_in hf)) (fun _ q => q) hd kk
    · rw [if_neg hn] at hf
      exact va_getsN hx hb hZ1 hW.2.2 hown (va_Nw.use rfl (hN _ (nestOK_in hf))) (fun _ q => q) hd kk
  · rw [tr_old (by omega) (by omega), show OLDB + 2 - OLDB = 2 by omega] at kk
    exact va_gets hx hb hZ2 hW.2.2 hown (hts _ (linkOK_in ((Bool.and_eq_true _ _).mp hf).2)) (fun _ q => q) hd kk
  · exact va_gets hx hb hZ3 hW.2.2 hown (hts _ (linkOK_in ((Bool.and_eq_true _ _).mp hf).2)) (fun _ q => q) hd kk
  · have e : tr w (.ref (OLDB + 13)) = w.2.2.2.2.1 := by
      show (if OLDB + 13 = OLDB + 13 then w.2.2.2.2.1 else Value.ref (wfi w (OLDB + 13))) = _
      exact if_pos rfl
    rw [e] at kk
    exact va_gets hx hb hZ4 hW.2.2 hown (hts _ (linkOK_in ((Bool.and_eq_true _ _).mp hf).2)) (fun _ q => q) hd kk
end HS
end JN14hsound
section JN15hsound2
theorem tr_sum {w : WC} (hz : w.2.2.2.2.1.category = 1) (st : List Value) : ((st.map (tr w)).map fun v => v.category).sum = (st.map fun v => v.category).sum := by
  rw [List.map_map]
  congr 1
  exact List.map_congr_left (fun v _ => tr_cat hz v)
section HS2
variable {w : WC} {p : Program} {l : Launch} {e : Env} {R : Room} {s : State} {m : MethodId} {args : Array Value} {below : List Frame} {meth : Method} {c : Code} {H : Heap} {locs : List Loc} {cells slots : Nat} {Q : State → Prop}
variable {y pc len : Nat} {L st L' st' : List Value} {i : Instr} {o : List Nat} {pc' : Nat} {ls : Array Slot} {h h' : Hp}
theorem z_aald (M : MC w p s m args meth c y) (hW : WdH w s h H locs) {a t n b : Nat} {j : Int32} (ha : h.1[a]? = some (.inl (t, n))) (ht : t = 3 ∨ t = 4) (hin : inB j n = true) (hr : h.2.2.2 a j.toNatClampNeg = some b) (hbo : b < OLDB) (hd : decode (mBytes y) pc = .ok (.aaload, 1))
    (kk : W p l e R s m args below meth c H locs cells slots Q (F0 m (pc + 1) ls (tr w (.ref b) :: st))) : W p l e R s m args below meth c H locs cells slots Q (F0 m pc ls (.int j :: .ref (w.1 + a) :: st)) := by
  obtain ⟨hx, hb, -, -, -, hown, -, hts, hN, hK, hO⟩ := M
  have hg := wsH_get (w := w) ha
  have hi := inB_in hin
  have hlt : j.toNatClampNeg < n := Nat.not_le.mp fun q => hi (Or.inr q)
  rw [tr_new hbo] at kk
  have hcell : H[w.1 + a]? = some (arrV (w.2.2.1 t) n (fun i => va_rf ((h.2.2.2 a i).map (fun b => w.1 + b)))) := by
    have := hW.2.1 a _ hg
    rcases ht with rfl | rfl <;> exact this
  have hty : ∃ ty, (tysW w)[t]? = some (w.2.2.1 t, ty) ∧ ty.isReference = true := by
    rcases ht with rfl | rfl
    · exact ⟨_, rfl, rfl⟩
    · exact ⟨_, rfl, rfl⟩
  obtain ⟨ty, hty, hrf⟩ := hty
  refine W.aald (v := .ref (w.1 + b)) hx hb hcell ((hK.2 t _ hty).1 n (fun i => va_rf ((h.2.2.2 a i).map (fun b => w.1 + b)))) hrf (fun q => by cases q) (by rw [arrV_size]; exact hi) ?_ rfl rfl hd kk
  rw [arrV_read _ _ hlt, hr]
  rfl
set_option maxHeartbeats 4000000 in
theorem hs_sound (M : MC w p s m args meth c y) (hdec : decode (mBytes y) pc = .ok (i, len)) (hlen : ilen i = 0 ∨ ilen i = len) (hlk : lnkE y i o = true) (hl : lv_has ls (mMaxL y) (asL w L)) (hL : L.length = mMaxL y) (hW : WdH w s h H locs) (hroom : 1 ≤ R.frames ∧ 200 ≤ R.locals)
    (hh : hstep w.2.2.2.2.2 i o pc L st h = some (pc', L', st', h')) (hc : cells + h'.1.length ≤ R.cells + h.1.length) (hsl : slots + slotS h'.1 ≤ R.slots + slotS h.1)
    (kk : ∀ ls' H' locs' cells' slots', lv_has ls' (mMaxL y) (asL w L') → L'.length = mMaxL y → WdH w s h' H' locs' → cells' + h.1.length = cells + h'.1.length → slots' + slotS h.1 = slots + slotS h'.1 → W p l e R s m args below meth c H' locs' cells' slots' Q (F0 m pc' ls' (st'.map (tr w)))) :
    W p l e R s m args below meth c H locs cells slots Q (F0 m pc ls (st.map (tr w))) := by
  have M0 := M
  obtain ⟨hx, hb, -, -, hml, hown, hmn, hts, hN, hK, hO⟩ := M
  have hB := OLDB_eq
  have nochange : h' = h → (∀ ls', lv_has ls' (mMaxL y) (asL w L') → L'.length = mMaxL y → W p l e R s m args below meth c H locs cells slots Q (F0 m pc' ls' (st'.map (tr w)))) := fun eh ls' a1 a2 => kk ls' H locs cells slots a1 a2 (by rw [eh]; exact hW) (by rw [eh]) (by rw [eh])
  have pure : (pstep i o pc L st).map (fun q => (q.1, q.2.1, q.2.2, h)) = some (pc', L', st', h') → W p l e R s m args below meth c H locs cells slots Q (F0 m pc ls (st.map (tr w))) := by
    intro hp
    obtain ⟨⟨p1, p2, p3⟩, hp1, hp2⟩ := Option.map_eq_some_iff.mp hp
    injection hp2 with e1 hp2
    injection hp2 with e2 hp2
    injection hp2 with e3 e4
    subst e1; subst e2; subst e3
    exact ps_sound M0 hdec hlen hlk hl hL hp1 (nochange e4.symm)
  cases i with
  | getfield idx =>
    obtain ⟨st1, hg, hp2⟩ := Option.map_eq_some_iff.mp (show (getF o st h).map (fun st' => (pc + 3, L, st', h)) = some (pc', L', st', h') from hh)
    cases hp2
    have hd := dl hdec hlen (n := 2) rfl
    unfold getF at hg
    split at hg
    · rename_i f n1 pl
      split at hg
      · rename_i a st2
        obtain ⟨ha, hg⟩ := inv_if hg
        cases hg
        exact g_str M0 hW hd hlk ha (nochange rfl ls hl hL)
      · cases hg
    · rename_i ci k nest pl hne
      split at hg
      · rename_i a st2
        obtain ⟨⟨ha, hs, hk⟩, hg⟩ := inv_if hg
        obtain ⟨v, hv, hg⟩ := Option.map_eq_some_iff.mp hg
        cases hg
        have hlk2 : (fldOK (mName y).cls idx ci k nest pl && decide (ci < 8)) = true := by
          simp only [lnkE] at hlk
          exact hlk
        obtain ⟨h1, h2⟩ := (Bool.and_eq_true _ _).mp hlk2
        exact g_new M0 hW (of_decide_eq_true h2) hd h1 ha hs hk hv (nochange rfl ls hl hL)
      · cases hg
    · cases hg
  | putfield idx =>
    obtain ⟨⟨st1, h1⟩, hg, hp2⟩ := Option.map_eq_some_iff.mp (show (putF o st h).map (fun q => (pc + 3, L, q.1, q.2)) = some (pc', L', st', h') from hh)
    cases hp2
    have hd := dl hdec hlen (n := 2) rfl
    unfold putF at hg
    split at hg
    · rename_i ci k nest pl
      split at hg
      · rename_i v a st2
        obtain ⟨⟨ha, hs, hk⟩, hg⟩ := inv_if hg
        have hlk2 : (fldOK (mName y).cls idx ci k nest pl && decide (ci < 8) && ((vwT ci k).2.2.2 == false || (decide (nest = 0) && decide ((mName y).name = "<init>") && decide ((mName y).cls = vwC ci)))) = true := hlk
        obtain ⟨h12, h3⟩ := (Bool.and_eq_true _ _).mp hlk2
        obtain ⟨h1, h2⟩ := (Bool.and_eq_true _ _).mp h12
        have hci := of_decide_eq_true h2
        have h3 : ((vwT ci k).2.2.2 == false || (decide (nest = 0) && decide (meth.name = "<init>") && decide ((mName y).cls = vwC ci))) = true := by
          simp only [Bool.or_eq_true, Bool.and_eq_true, decide_eq_true_eq] at h3 ⊢
          rcases h3 with q | ⟨⟨q1, q2⟩, q3⟩
          · exact Or.inl q
          · exact Or.inr ⟨⟨q1, hmn q2⟩, q3⟩
        cases v with
        | int x =>
          obtain ⟨hr, hg⟩ := inv_ifn hg
          obtain ⟨hbo, hg⟩ := inv_ifn hg
          cases hg
          have hr2 : isRefTy (vwTy ci k) = false := by simpa using hr
          have hnf : narrow (vwTy ci k) (.int x) = .int x ∧ fits (vwTy ci k) (.int x) = true := by
            rcases cls_kind ci hci k hk with q | q | q
            · rw [q]; exact ⟨rfl, rfl⟩
            · have hx01 : x = 0 ∨ x = 1 := by
                rw [q] at hbo
                exact Classical.byContradiction fun hne => hbo ⟨rfl, hne⟩
              rw [q]
              rcases hx01 with rfl | rfl <;> exact ⟨by decide, by decide⟩
            · exact absurd q hr
          show W p l e R s m args below meth c H locs cells slots Q (F0 m pc ls (.int x :: tr w (.ref a) :: st1.map (tr w)))
          rw [tr_new ha]
          refine z_put hx hb hK hts hown hN hW hci hk hs h1 h3 hnf.1 hnf.2 (h' := (h.1, ud h.2.1 a k x, h.2.2.1, h.2.2.2)) rfl (fun b s' hb' => cel_d (ud_ne _ _ hb') s') ?_ ?_ hd (fun H1 locs1 hW1 => kk ls H1 locs1 cells slots hl hL hW1 rfl rfl)
          · rw [cfv_int hr2]
            show Value.int (ud h.2.1 a k x a k) = _
            rw [ud_at]
          · intro j hj
            unfold cfv
            show (if isRefTy (vwTy ci j) = true then va_rf ((h.2.2.2 a j).map (fun b => w.1 + b)) else Value.int (ud h.2.1 a k x a j)) = _
            rw [ud_off _ _ _ hj]
        | ref b =>
          obtain ⟨⟨hr, hbO⟩, hg⟩ := inv_if hg
          cases hg
          have hnf : narrow (vwTy ci k) (.ref (w.1 + b)) = .ref (w.1 + b) ∧ fits (vwTy ci k) (.ref (w.1 + b)) = true := by
            cases hty : vwTy ci k <;> rw [hty] at hr <;> first | exact ⟨rfl, rfl⟩ | cases hr
          show W p l e R s m args below meth c H locs cells slots Q (F0 m pc ls (tr w (.ref b) :: tr w (.ref a) :: st1.map (tr w)))
          rw [tr_new ha, tr_new hbO]
          refine z_put hx hb hK hts hown hN hW hci hk hs h1 h3 hnf.1 hnf.2 (h' := (h.1, h.2.1, h.2.2.1, ud h.2.2.2 a k (some b))) rfl (fun b s' hb' => cel_r (ud_ne _ _ hb') s') ?_ ?_ hd (fun H1 locs1 hW1 => kk ls H1 locs1 cells slots hl hL hW1 rfl rfl)
          · rw [cfv_ref hr]
            show va_rf ((ud h.2.2.2 a k (some b) a k).map (fun b => w.1 + b)) = _
            rw [ud_at]
            rfl
          · intro j hj
            unfold cfv
            show (if isRefTy (vwTy ci j) = true then va_rf ((ud h.2.2.2 a k (some b) a j).map (fun b => w.1 + b)) else Value.int (h.2.1 a j)) = _
            rw [ud_off _ _ _ hj]
        | _ => cases hg
      · cases hg
    · cases hg
  | getstatic idx =>
    have hd := dl hdec hlen (n := 2) rfl
    simp only [hstep] at hh
    split at hh
    · cases hh
      exact sta_get (sid := 0) M0 hW hd hlk (Or.inl ⟨rfl, rfl⟩) (nochange rfl ls hl hL)
    · cases hh
      exact sta_get (sid := 1) M0 hW hd hlk (Or.inr (Or.inl ⟨rfl, rfl⟩)) (nochange rfl ls hl hL)
    · cases hh
      exact sta_get (sid := 2) M0 hW hd hlk (Or.inr (Or.inr (Or.inl ⟨rfl, rfl⟩))) (nochange rfl ls hl hL)
    · cases hh
      exact sta_get (sid := 3) M0 hW hd hlk (Or.inr (Or.inr (Or.inr ⟨rfl, rfl⟩))) (nochange rfl ls hl hL)
    · cases hh
  | arraylength =>
    have hd := dl hdec hlen (n := 0) rfl
    have hq := inv_r hh
    clear hh
    obtain ⟨a, st1, est, hh⟩ := hq
    subst est
    by_cases ha : a < OLDB
    · rw [if_pos ha] at hh
      split at hh
      · rename_i t n hs
        obtain ⟨ht5, hh⟩ := inv_if hh
        cases hh
        show W p l e R s m args below meth c H locs cells slots Q (F0 m pc ls (tr w (.ref a) :: st1.map (tr w)))
        rw [tr_new ha]
        have hg := wsH_get (w := w) hs
        have hkt : t = 0 ∨ t = 1 ∨ t = 2 ∨ t = 3 ∨ t = 4 := by omega
        have hty : ∃ ty, (tysW w)[t]? = some (w.2.2.1 t, ty) := by
          rcases hkt with rfl | rfl | rfl | rfl | rfl <;> exact ⟨_, rfl⟩
        obtain ⟨ty, hty⟩ := hty
        exact va_alen hx hb hK hW.2.1 a t hg hty rfl hd (nochange rfl ls hl hL)
      · cases hh
    · rw [if_neg ha] at hh
      split at hh
      · rename_i t n f ho
        cases hh
        exact old_len M0 hW ha ho hd (nochange rfl ls hl hL)
      · cases hh
  | iaload =>
    have hd := dl hdec hlen (n := 0) rfl
    simp only [hstep] at hh
    split at hh
    · rename_i j a st1
      by_cases ha : a < OLDB
      · rw [if_pos ha] at hh
        split at hh
        · rename_i n hs
          obtain ⟨hin, hh⟩ := inv_if hh
          cases hh
          show W p l e R s m args below meth c H locs cells slots Q (F0 m pc ls (.int j :: tr w (.ref a) :: st1.map (tr w)))
          rw [tr_new ha]
          exact va_iald hx hb hK hW.2.1 a 0 (wsH_get (w := w) hs) rfl (inB_in hin) hd (nochange rfl ls hl hL)
        · cases hh
      · rw [if_neg ha] at hh
        split at hh
        · rename_i n f ho
          obtain ⟨hin, hh⟩ := inv_if hh
          cases hh
          exact old_int M0 hW ha ho hin hd (nochange rfl ls hl hL)
        · cases hh
    · cases hh
  | baload =>
    have hd := dl hdec hlen (n := 0) rfl
    simp only [hstep] at hh
    split at hh
    · rename_i j a st1
      by_cases ha : a < OLDB
      · rw [if_pos ha] at hh
        split at hh
        · rename_i n hs
          obtain ⟨hin, hh⟩ := inv_if hh
          cases hh
          show W p l e R s m args below meth c H locs cells slots Q (F0 m pc ls (.int j :: tr w (.ref a) :: st1.map (tr w)))
          rw [tr_new ha]
          exact va_zald hx hb hK hW.2.1 a 2 (wsH_get (w := w) hs) rfl (inB_in hin) hd (nochange rfl ls hl hL)
        · cases hh
      · rw [if_neg ha] at hh
        split at hh
        · rename_i n f ho
          obtain ⟨hin, hh⟩ := inv_if hh
          cases hh
          exact old_byte M0 hW ha ho hin hd (nochange rfl ls hl hL)
        · cases hh
    · cases hh
  | laload =>
    have hd := dl hdec hlen (n := 0) rfl
    simp only [hstep] at hh
    split at hh
    · rename_i j a st1
      obtain ⟨ha, hh⟩ := inv_if hh
      split at hh
      · rename_i n hs
        obtain ⟨hin, hh⟩ := inv_if hh
        cases hh
        show W p l e R s m args below meth c H locs cells slots Q (F0 m pc ls (.int j :: tr w (.ref a) :: st1.map (tr w)))
        rw [tr_new ha]
        exact va_lald hx hb hK hW.2.1 a 1 (wsH_get (w := w) hs) rfl (inB_in hin) hd (nochange rfl ls hl hL)
      · cases hh
    · cases hh
  | aaload =>
    have hd := dl hdec hlen (n := 0) rfl
    simp only [hstep] at hh
    split at hh
    · rename_i j a st1
      obtain ⟨ha, hh⟩ := inv_if hh
      split at hh
      · rename_i t n hs
        obtain ⟨⟨ht, hin⟩, hh⟩ := inv_if hh
        split at hh
        · rename_i b hr
          obtain ⟨hbO, hh⟩ := inv_if hh
          cases hh
          show W p l e R s m args below meth c H locs cells slots Q (F0 m pc ls (.int j :: tr w (.ref a) :: st1.map (tr w)))
          rw [tr_new ha]
          exact z_aald M0 hW hs ht hin hr hbO hd (nochange rfl ls hl hL)
        · cases hh
      · cases hh
    · cases hh
  | iastore =>
    have hd := dl hdec hlen (n := 0) rfl
    simp only [hstep] at hh
    split at hh
    · rename_i x j a st1
      obtain ⟨ha, hh⟩ := inv_if hh
      split at hh
      · rename_i n hs
        obtain ⟨hin, hh⟩ := inv_if hh
        cases hh
        show W p l e R s m args below meth c H locs cells slots Q (F0 m pc ls (.int x :: .int j :: tr w (.ref a) :: st'.map (tr w)))
        rw [tr_new ha]
        exact z_iast hx hb hK hW hs hin hd (fun H1 locs1 hW1 => kk ls H1 locs1 cells slots hl hL hW1 rfl rfl)
      · cases hh
    · cases hh
  | bastore =>
    have hd := dl hdec hlen (n := 0) rfl
    simp only [hstep] at hh
    split at hh
    · rename_i x j a st1
      obtain ⟨⟨ha, hx01⟩, hh⟩ := inv_if hh
      split at hh
      · rename_i n hs
        obtain ⟨hin, hh⟩ := inv_if hh
        cases hh
        show W p l e R s m args below meth c H locs cells slots Q (F0 m pc ls (.int x :: .int j :: tr w (.ref a) :: st'.map (tr w)))
        rw [tr_new ha]
        exact z_zast hx hb hK hW hx01 hs hin hd (fun H1 locs1 hW1 => kk ls H1 locs1 cells slots hl hL hW1 rfl rfl)
      · cases hh
    · cases hh
  | lastore =>
    have hd := dl hdec hlen (n := 0) rfl
    simp only [hstep] at hh
    split at hh
    · rename_i x j a st1
      obtain ⟨ha, hh⟩ := inv_if hh
      split at hh
      · rename_i n hs
        obtain ⟨hin, hh⟩ := inv_if hh
        cases hh
        show W p l e R s m args below meth c H locs cells slots Q (F0 m pc ls (.long x :: .int j :: tr w (.ref a) :: st'.map (tr w)))
        rw [tr_new ha]
        exact z_last hx hb hK hW hs hin hd (fun H1 locs1 hW1 => kk ls H1 locs1 cells slots hl hL hW1 rfl rfl)
      · cases hh
    · cases hh
  | aastore =>
    have hd := dl hdec hlen (n := 0) rfl
    simp only [hstep] at hh
    split at hh
    · rename_i b j a st1
      obtain ⟨⟨ha, hbO, hbs⟩, hh⟩ := inv_if hh
      split at hh
      · rename_i n hs
        obtain ⟨hin, hh⟩ := inv_if hh
        cases hh
        show W p l e R s m args below meth c H locs cells slots Q (F0 m pc ls (tr w (.ref b) :: .int j :: tr w (.ref a) :: st'.map (tr w)))
        rw [tr_new ha, tr_new hbO]
        exact z_aast hx hb hK hW hs hbs hin hd (fun H1 locs1 hW1 => kk ls H1 locs1 cells slots hl hL hW1 rfl rfl)
      · cases hh
    · cases hh
  | new idx =>
    have hd := dl hdec hlen (n := 2) rfl
    simp only [hstep] at hh
    split at hh
    · rename_i ci pl
      obtain ⟨⟨hlO, hci⟩, hh⟩ := inv_if hh
      cases hh
      have e1 : (objNew h ci).1.length = h.1.length + 1 := by simp [objNew]
      have e2 : slotS (objNew h ci).1 = slotS h.1 + vwN ci := by
        show slotS (h.1 ++ [.inr ci]) = _
        rw [slotS_app]
        simp [slotS, shSz]
      refine z_new hx hb hK hts hown hW hci hlk (by omega) (by omega) hd (fun H1 hW1 => ?_)
      rw [← tr_new hlO]
      exact kk ls H1 locs _ _ hl hL hW1 (by omega) (by omega)
    · cases hh
  | newarray ty =>
    have hd := dl hdec hlen (n := 1) rfl
    have hq := inv_i hh
    clear hh
    obtain ⟨n, st1, est, hh⟩ := hq
    subst est
    split at hh
    · rename_i t htag
      obtain ⟨⟨hlO, hn, hn2⟩, hh⟩ := inv_if hh
      cases hh
      have e1 : (arrNew h t n.toNatClampNeg).1.length = h.1.length + 1 := by simp [arrNew]
      have e2 : slotS (arrNew h t n.toNatClampNeg).1 = slotS h.1 + n.toNatClampNeg := by
        show slotS (h.1 ++ [.inl (t, n.toNatClampNeg)]) = _
        rw [slotS_app]
        simp [slotS, shSz]
      refine z_newa hx hb hK hts hW htag hn hn2 (by omega) (by omega) hd (fun H1 hW1 => ?_)
      rw [← tr_new hlO]
      exact kk ls H1 locs _ _ hl hL hW1 (by omega) (by omega)
    · cases hh
  | anewarray idx =>
    have hd := dl hdec hlen (n := 2) rfl
    have hq := inv_i hh
    clear hh
    obtain ⟨n, st1, est, hh⟩ := hq
    subst est
    obtain ⟨⟨hlO, hn, hn2⟩, hh⟩ := inv_if hh
    cases hh
    have e1 : (arrNew h 3 n.toNatClampNeg).1.length = h.1.length + 1 := by simp [arrNew]
    have e2 : slotS (arrNew h 3 n.toNatClampNeg).1 = slotS h.1 + n.toNatClampNeg := by
      show slotS (h.1 ++ [.inl (3, n.toNatClampNeg)]) = _
      rw [slotS_app]
      simp [slotS, shSz]
    simp only [lnkE] at hlk
    split at hlk
    · refine z_newq hx hb hK hts hown hW hlk hO.2.2.2.2.2.2.2.2.2.2.2.1 hn hn2 (by omega) (by omega) hd (fun H1 hW1 => ?_)
      rw [← tr_new hlO]
      exact kk ls H1 locs _ _ hl hL hW1 (by omega) (by omega)
    · cases hlk
  | multianewarray idx d =>
    simp only [hstep] at hh
    split at hh
    · rename_i k n st1
      obtain ⟨⟨hd2, hlO, hn, hk, hn2, hk2⟩, hh⟩ := inv_if hh
      cases hh
      subst hd2
      have hd := dl hdec hlen (n := 3) rfl
      have e1 : (rowNew h n.toNatClampNeg k.toNatClampNeg).1.length = h.1.length + (1 + n.toNatClampNeg) := by simp [rowNew]; omega
      have e2 : slotS (rowNew h n.toNatClampNeg k.toNatClampNeg).1 = slotS h.1 + (n.toNatClampNeg + n.toNatClampNeg * k.toNatClampNeg) := by
        show slotS (h.1 ++ ([.inl (4, n.toNatClampNeg)] ++ List.replicate n.toNatClampNeg (.inl (1, k.toNatClampNeg)))) = _
        rw [slotS_app, slotS_app, slotS_rep]
        simp [slotS, shSz]
      simp only [lnkE] at hlk
      split at hlk
      · refine z_mna hx hb hK hts hown hW hlk hO.2.2.2.2.2.2.2.2.2.2.2.2.1 hn hk hn2 hk2 (by omega) (by omega) hd (fun H1 locs1 hW1 => ?_)
        rw [← tr_new hlO]
        exact kk ls H1 locs1 _ _ hl hL hW1 (by omega) (by omega)
      · cases hlk
    · cases hh
  | invokespecial idx =>
    have hd := dl hdec hlen (n := 2) rfl
    simp only [hstep] at hh
    split at hh
    · rename_i q1 q2 q3 pl
      have hq := inv_r hh
      clear hh
      obtain ⟨r, st1, est, hh⟩ := hq
      subst est
      obtain ⟨⟨hr, hcs⟩, hh⟩ := inv_if hh
      cases hh
      show W p l e R s m args below meth c H locs cells slots Q (F0 m pc ls (tr w (.ref r) :: st'.map (tr w)))
      rw [tr_new hr]
      have hsum := tr_sum hO.zc st'
      exact W.objInit hx hb hown (hts _ (linkOK_in hlk)) (hts _ obj_inst) (hts _ obj_code) rfl (by rw [hl.1, hml]) rfl hd hroom.1 (by show 2 * 0 + _ + 12 ≤ _; rw [hsum]; unfold catSum at hcs; omega) (nochange rfl ls hl hL)
    · cases hh
  | invokestatic idx =>
    have hd := dl hdec hlen (n := 2) rfl
    simp only [hstep] at hh
    split at hh
    · rename_i q1 q2 q3 pl
      obtain ⟨⟨st1, h1⟩, hg, hp2⟩ := Option.map_eq_some_iff.mp hh
      cases hp2
      unfold copyA at hg
      split at hg
      · rename_i n dp a sp b st2
        obtain ⟨⟨ha, hbO, c1, c2, c3, hcs⟩, hg⟩ := inv_if hg
        split at hg
        · rename_i t m1 t' m2 hs1 hs2
          obtain ⟨⟨ht, c4, c5⟩, hg2⟩ := inv_if hg
          clear hg
          subst ht
          have hsum := tr_sum hO.zc st2
          have hloc : ((st2.map (tr w)).map fun v => v.category).sum + (nativeFrameWords "java/lang/System" "arraycopy" 5 + 11) ≤ R.locals := by
            rw [hsum]
            unfold catSum at hcs
            have hnf : nativeFrameWords "java/lang/System" "arraycopy" 5 ≤ 100 := by decide +kernel
            omega
          show W p l e R s m args below meth c H locs cells slots Q (F0 m pc ls (.int n :: .int dp :: tr w (.ref a) :: .int sp :: tr w (.ref b) :: st2.map (tr w)))
          rw [tr_new ha, tr_new hbO]
          by_cases ht0 : t = 0
          · rw [if_pos ht0] at hg2
            subst ht0
            cases hg2
            refine z_copy hx hb (by rw [hl.1, hml]) hK hts hown hlk hW Value.int (fun f => .inl f) (fun _ _ _ => rfl) (t := 0) (ty := .int) rfl rfl (fun _ => rfl) (fun _ _ q => by cases q) hs1 hs2 (cfa_0 w h b) (cfa_0 w h a) c1 c2 c3 c4 c5 hroom.1 hloc hd (h' := (h.1, (fun x => if x = a then va_cpy (h.2.1 b) (h.2.1 a) sp.toNatClampNeg dp.toNatClampNeg n.toNatClampNeg else h.2.1 x), h.2.2.1, h.2.2.2)) rfl (fun b' s' hb' => cel_d (by show (if b' = a then _ else _) = _; rw [if_neg hb']) s') ?_ (fun H1 locs1 hW1 => kk ls H1 locs1 cells slots hl hL hW1 rfl rfl)
            rw [cfa_0]
            show Sum.inl (if a = a then _ else _) = _
            rw [if_pos rfl]
          · rw [if_neg ht0] at hg2
            obtain ⟨ht1, hg3⟩ := inv_if hg2
            clear hg2
            subst ht1
            cases hg3
            refine z_copy hx hb (by rw [hl.1, hml]) hK hts hown hlk hW Value.long (fun f => .inr (.inl f)) (fun _ _ _ => rfl) (t := 1) (ty := .long) rfl rfl (fun _ => rfl) (fun _ _ q => by cases q) hs1 hs2 (cfa_1 w h b) (cfa_1 w h a) c1 c2 c3 c4 c5 hroom.1 hloc hd (h' := (h.1, h.2.1, (fun x => if x = a then va_cpy (h.2.2.1 b) (h.2.2.1 a) sp.toNatClampNeg dp.toNatClampNeg n.toNatClampNeg else h.2.2.1 x), h.2.2.2)) rfl (fun b' s' hb' => cel_e (by show (if b' = a then _ else _) = _; rw [if_neg hb']) s') ?_ (fun H1 locs1 hW1 => kk ls H1 locs1 cells slots hl hL hW1 rfl rfl)
            rw [cfa_1]
            show Sum.inr (Sum.inl (if a = a then _ else _)) = _
            rw [if_pos rfl]
        · cases hg
      · cases hg
    · cases hh
  | _ => exact pure hh
end HS2
end JN15hsound2
section JN16run
/-! A run of the pure machine is a run of the real one. -/
theorem putF_sh {o : List Nat} {st : List Value} {h : Hp} {q : List Value × Hp} (hg : putF o st h = some q) : q.2.1 = h.1 := by
  unfold putF at hg
  split at hg
  · split at hg
    · rename_i v a st2
      obtain ⟨-, hg⟩ := inv_if hg
      cases v with
      | int x =>
        obtain ⟨-, hg⟩ := inv_ifn hg
        obtain ⟨-, hg⟩ := inv_ifn hg
        cases hg
        rfl
      | ref b =>
        obtain ⟨-, hg⟩ := inv_if hg
        cases hg
        rfl
      | _ => cases hg
    · cases hg
  · cases hg
theorem copyA_sh {st : List Value} {h : Hp} {q : List Value × Hp} (hg : copyA st h = some q) : q.2.1 = h.1 := by
  unfold copyA at hg
  split at hg
  · obtain ⟨-, hg⟩ := inv_if hg
    split at hg
    · obtain ⟨-, hg⟩ := inv_if hg
      split at hg
      · cases hg
        rfl
      · obtain ⟨-, hg⟩ := inv_if hg
        cases hg
        rfl
    · cases hg
  · cases hg
theorem hstep_sh {X : Scr} {i : Instr} {o : List Nat} {pc pc' : Nat} {L st L' st' : List Value} {h h' : Hp} (hh : hstep X i o pc L st h = some (pc', L', st', h')) : ∃ l, h'.1 = h.1 ++ l := by
  have same : h'.1 = h.1 → ∃ l, h'.1 = h.1 ++ l := fun e => ⟨[], by rw [e, List.append_nil]⟩
  have pure : (pstep i o pc L st).map (fun q => (q.1, q.2.1, q.2.2, h)) = some (pc', L', st', h') → ∃ l, h'.1 = h.1 ++ l := by
    intro hp
    obtain ⟨q, -, hp2⟩ := Option.map_eq_some_iff.mp hp
    cases hp2
    exact same rfl
  cases i with
  | getfield idx =>
    obtain ⟨st1, hg, hp2⟩ := Option.map_eq_some_iff.mp (show (getF o st h).map (fun st' => (pc + 3, L, st', h)) = some (pc', L', st', h') from hh)
    cases hp2
    exact same rfl
  | putfield idx =>
    obtain ⟨⟨st1, h1⟩, hg, hp2⟩ := Option.map_eq_some_iff.mp (show (putF o st h).map (fun q => (pc + 3, L, q.1, q.2)) = some (pc', L', st', h') from hh)
    cases hp2
    exact same (putF_sh hg)
  | getstatic idx =>
    simp only [hstep] at hh
    split at hh <;> first | (cases hh; exact same rfl) | cases hh
  | arraylength =>
    simp only [hstep] at hh
    repeat' split at hh
    all_goals first | (cases hh; exact same rfl) | cases hh
  | iaload =>
    simp only [hstep] at hh
    repeat' split at hh
    all_goals first | (cases hh; exact same rfl) | cases hh
  | baload =>
    simp only [hstep] at hh
    repeat' split at hh
    all_goals first | (cases hh; exact same rfl) | cases hh
  | laload =>
    simp only [hstep] at hh
    repeat' split at hh
    all_goals first | (cases hh; exact same rfl) | cases hh
  | aaload =>
    simp only [hstep] at hh
    repeat' split at hh
    all_goals first | (cases hh; exact same rfl) | cases hh
  | iastore =>
    simp only [hstep] at hh
    repeat' split at hh
    all_goals first | (cases hh; exact same rfl) | cases hh
  | bastore =>
    simp only [hstep] at hh
    repeat' split at hh
    all_goals first | (cases hh; exact same rfl) | cases hh
  | lastore =>
    simp only [hstep] at hh
    repeat' split at hh
    all_goals first | (cases hh; exact same rfl) | cases hh
  | aastore =>
    simp only [hstep] at hh
    repeat' split at hh
    all_goals first | (cases hh; exact same rfl) | cases hh
  | new idx =>
    simp only [hstep] at hh
    repeat' split at hh
    all_goals first | (cases hh; exact ⟨_, rfl⟩) | cases hh
  | newarray ty =>
    simp only [hstep] at hh
    repeat' split at hh
    all_goals first | (cases hh; exact ⟨_, rfl⟩) | cases hh
  | anewarray idx =>
    simp only [hstep] at hh
    repeat' split at hh
    all_goals first | (cases hh; exact ⟨_, rfl⟩) | cases hh
  | multianewarray idx d =>
    simp only [hstep] at hh
    repeat' split at hh
    all_goals first | (cases hh; exact ⟨_, rfl⟩) | cases hh
  | invokespecial idx =>
    simp only [hstep] at hh
    repeat' split at hh
    all_goals first | (cases hh; exact same rfl) | cases hh
  | invokestatic idx =>
    simp only [hstep] at hh
    split at hh
    · obtain ⟨⟨st1, h1⟩, hg, hp2⟩ := Option.map_eq_some_iff.mp hh
      cases hp2
      exact same (copyA_sh hg)
    · cases hh
  | _ => exact pure hh
theorem retO_h {y : Nat} {i : Instr} {st : List Value} {h h' : Hp} {v : Option Value} (hr : retO y i st h = some (some (v, h'))) : h' = h := by
  unfold retO at hr
  split at hr
  · have hr := Option.some.inj hr
    unfold retI at hr
    repeat' split at hr
    all_goals first | (cases hr; rfl) | cases hr
  · have hr := Option.some.inj hr
    unfold retL at hr
    repeat' split at hr
    all_goals first | (cases hr; rfl) | cases hr
  · have hr := Option.some.inj hr
    unfold retV at hr
    repeat' split at hr
    all_goals first | (cases hr; rfl) | cases hr
  · cases hr
theorem run_sh {X : Scr} : ∀ (n dp y pc : Nat) (L st : List Value) (h : Hp) (v : Option Value) (h' : Hp), run X n dp y pc L st h = some (v, h') → ∃ l, h'.1 = h.1 ++ l
  | 0, _, _, _, _, _, _, _, _, hr => by cases hr
  | n + 1, dp, y, pc, L, st, h, v, h', hr => by
    rw [run] at hr
    split at hr
    · cases hr
    · rename_i pc0 i len o he
      split at hr
      · rename_i r hret
        subst hr
        rw [retO_h hret]
        exact ⟨[], (List.append_nil _).symm⟩
      · split at hr
        · rename_i c na kd hc
          split at hr
          · cases hr
          · rename_i dp'
            obtain ⟨-, hr⟩ := inv_if hr
            split at hr
            · rename_i rv h1 h1e
              obtain ⟨l1, e1⟩ := run_sh n _ _ _ _ _ _ _ _ h1e
              obtain ⟨l2, e2⟩ := run_sh n _ _ _ _ _ _ _ _ hr
              exact ⟨l1 ++ l2, by rw [e2, e1, List.append_assoc]⟩
            · cases hr
        · split at hr
          · rename_i pc' L' st' h1 h1e
            obtain ⟨l1, e1⟩ := hstep_sh h1e
            obtain ⟨l2, e2⟩ := run_sh n _ _ _ _ _ _ _ _ hr
            exact ⟨l1 ++ l2, by rw [e2, e1, List.append_assoc]⟩
          · cases hr
end JN16run
