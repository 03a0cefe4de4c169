/-! The world: what the real heap holds when the pure machine's heap is h. -/
abbrev WC : Type := Nat × va_G × (Nat → ClassId) × (Nat → Nat) × Value × Scr
def wfi (w : WC) (n : Nat) : Nat := if n < OLDB then w.1 + n else w.2.2.2.1 (n - OLDB)
def tr (w : WC) : Value → Value
  | .ref n => if n = OLDB + 13 then w.2.2.2.2.1 else .ref (wfi w n)
  | v => v
def Ab (w : WC) : Nat → Prop := fun q => w.1 ≤ q
def cfv (w : WC) (h : Hp) (ci a k : Nat) : Value := if isRefTy (vwTy ci k) = true then va_rf ((h.2.2.2 a k).map (fun b => w.1 + b)) else .int (h.2.1 a k)
def cfa (w : WC) (h : Hp) (a t : Nat) : (Nat → Int32) ⊕ (Nat → Int64) ⊕ (Nat → UInt32) ⊕ (Nat → UInt64) ⊕ (Nat → Option Nat) :=
  if t = 0 ∨ t = 2 then .inl (h.2.1 a) else if t = 1 then .inr (.inl (h.2.2.1 a)) else .inr (.inr (.inr (.inr (fun i => (h.2.2.2 a i).map (fun b => w.1 + b)))))
def cel (w : WC) (h : Hp) (a : Nat) : Sh → va_E
  | .inl q => .inl (w.2.2.1 q.1, q.2, cfa w h a q.1)
  | .inr ci => .inr (ci, (List.range (vwN ci)).map (fun k => cfv w h ci a k))
def wsH (w : WC) (h : Hp) : va_W := (List.range h.1.length).map (fun a => (w.1 + a, cel w h a (h.1.getD a (.inr 0))))
def tysW (w : WC) : List (ClassId × FieldType) := [(w.2.2.1 0, .int), (w.2.2.1 1, .long), (w.2.2.1 2, .boolean), (w.2.2.1 3, .object RX5), (w.2.2.1 4, .array .long)]
def shSz : Sh → Nat
  | .inl q => q.2
  | .inr ci => vwN ci
def slotS (l : List Sh) : Nat := (l.map shSz).sum
theorem wsH_get {w : WC} {h : Hp} {a : Nat} {s : Sh} (hs : h.1[a]? = some s) : (wsH w h)[a]? = some (w.1 + a, cel w h a s) := by
  have hl := (List.getElem?_eq_some_iff.mp hs).1
  unfold wsH
  rw [List.getElem?_map, List.getElem?_range hl]
  simp [List.getD_eq_getElem?_getD, hs]
theorem wsH_len (w : WC) (h : Hp) : (wsH w h).length = h.1.length := by simp [wsH]
theorem wsH_D (w : WC) (h : Hp) : va_D (Ab w) (wsH w h) := by
  have key : ∀ (k : Nat) (q : Nat × va_E), (wsH w h)[k]? = some q → q.1 = w.1 + k := by
    intro k q hk
    have hl : k < h.1.length := by rw [← wsH_len w h]; exact (List.getElem?_eq_some_iff.mp hk).1
    unfold wsH at hk
    rw [List.getElem?_map, List.getElem?_range hl] at hk
    cases hk
    rfl
  refine ⟨fun i j p q hi hj hpq => ?_, fun k q hk => ?_⟩
  · have h1 := key i p hi
    have h2 := key j q hj
    omega
  · have h1 := key k q hk
    show w.1 ≤ q.1
    omega
theorem wsH_set {w : WC} {h h' : Hp} {a : Nat} {s : Sh} (hs : h.1[a]? = some s) (h1 : h'.1 = h.1) (ho : ∀ b s', b ≠ a → cel w h' b s' = cel w h b s') : (wsH w h).set a (w.1 + a, cel w h' a s) = wsH w h' := by
  have hl := (List.getElem?_eq_some_iff.mp hs).1
  apply List.ext_getElem?
  intro k
  by_cases hk : k = a
  · subst hk
    rw [List.getElem?_set_self (by rw [wsH_len]; exact hl), wsH_get (h := h') (s := s) (by rw [h1]; exact hs)]
  · rw [List.getElem?_set_ne (Ne.symm hk)]
    by_cases hkl : k < h.1.length
    · have e : h.1[k]? = some h.1[k] := List.getElem?_eq_getElem hkl
      rw [wsH_get e, wsH_get (h := h') (s := h.1[k]) (by rw [h1]; exact e), ho k _ hk]
    · rw [List.getElem?_eq_none (by rw [wsH_len]; omega), List.getElem?_eq_none (by rw [wsH_len, h1]; omega)]
theorem cel_push {w : WC} {h : Hp} {h' : Hp} {a : Nat} (hd : h'.2.1 a = h.2.1 a) (he : h'.2.2.1 a = h.2.2.1 a) (hr : h'.2.2.2 a = h.2.2.2 a) (s : Sh) : cel w h' a s = cel w h a s := by
  cases s with
  | inl q => simp only [cel, cfa, hd, he, hr]
  | inr ci => simp only [cel, cfv, hd, hr]
theorem wsH_app {w : WC} {h h' : Hp} {l : List Sh} (h1 : h'.1 = h.1 ++ l) (ho : ∀ b s', b < h.1.length → cel w h' b s' = cel w h b s') :
    wsH w h' = wsH w h ++ (List.range l.length).map (fun j => (w.1 + (h.1.length + j), cel w h' (h.1.length + j) (l.getD j (.inr 0)))) := by
  apply List.ext_getElem?
  intro k
  by_cases hk : k < h.1.length
  · rw [List.getElem?_append_left (by rw [wsH_len]; exact hk)]
    have e : h.1[k]? = some h.1[k] := List.getElem?_eq_getElem hk
    rw [wsH_get e, wsH_get (h := h') (s := h.1[k]) (by rw [h1, List.getElem?_append_left hk]; exact e), ho k _ hk]
  · rw [List.getElem?_append_right (by rw [wsH_len]; omega), wsH_len]
    by_cases hk2 : k - h.1.length < l.length
    · have e : h'.1[k]? = some (l.getD (k - h.1.length) (.inr 0)) := by
        rw [h1, List.getElem?_append_right (by omega), List.getD_eq_getElem?_getD, List.getElem?_eq_getElem hk2]
        rfl
      rw [wsH_get e, List.getElem?_map, List.getElem?_range hk2]
      simp only [Option.map_some]
      rw [show h.1.length + (k - h.1.length) = k by omega]
    · rw [List.getElem?_eq_none (by rw [wsH_len, h1, List.length_append]; omega), List.getElem?_eq_none (by simp; omega)]
/-- arrays over an array type stand in the tables -/
def vz_AOA (t : FieldType) (U : State) : Prop := (Jvm.Cond.arrayOver (.array t)).before #[] U = true
theorem vz_AOA.moved {t : FieldType} {u U : State} (hvm : u.vm.Alike U.vm) (h : vz_AOA t u) : vz_AOA t U := by
  obtain ⟨comp, c, k, h1, h2, h3, h4, h5⟩ := arrayOverA_spec h
  obtain ⟨k', hk', he⟩ := hvm.2.2 _ _ h3
  have hi : (U.vm.classes.findIdx? fun (x : Class) => match x.kind with | .array component _ => component == comp | _ => false) = some c := by
    rw [hvm.findIdx?_eq _ (fun _ => rfl)]
    exact h2
  have hkind : k'.kind = .array comp (.array t) := by rw [he]; exact h4
  have f1 : U.vm.findClass (FieldType.array t).toString = some comp := by rw [hvm.findClass]; exact h1
  have f2 : U.vm.findClass ("[" ++ (FieldType.array t).toString) = some c := by rw [hvm.findClass]; exact h5
  unfold vz_AOA Jvm.Cond.before Jvm.Cond.holds
  simp only [Jvm.Cond.value]
  rw [f1, Option.bind_some]
  refine (congrArg (fun o : Option Nat => (o.bind (fun c => (U.vm.classes[c]?).map fun (k : Class) => match k.kind with | .array _ ty => decide (ty = FieldType.array t) && decide (U.vm.findClass ("[" ++ (FieldType.array t).toString) = some c) | _ => false) == some true)) hi).trans ?_
  simp [hk', hkind, f2]
/-- the old cells: the script, the two tables, the texts, some statics -/
def OldW (w : WC) (s : State) : Prop :=
  va_X (w.2.2.2.1 0) w.2.2.2.2.2.1 w.2.2.2.2.2.2 s s.heap ∧ w.2.2.2.1 0 < w.1 ∧ w.1 ≤ s.heap.size ∧
  va_T .int (w.2.2.2.1 1) 7 (fun j => .int (aboveL.getD j 0)) (Ab w) s s.heap ∧ va_T .int (w.2.2.2.1 2) 21 (fun j => .int (bodiesL.getD j 0)) (Ab w) s s.heap ∧
  va_Z "PastCatchers" "ABOVE" "[I" (.ref (w.2.2.2.1 1)) (Ab w) s s.heap ∧ va_Z "PastCatchers$Acts" "BODIES" "[I" (.ref (w.2.2.2.1 2)) (Ab w) s s.heap ∧
  va_Z "java/lang/String" "COMPACT_STRINGS" "Z" (.int 1) (Ab w) s s.heap ∧ va_Z "jdk/internal/util/Preconditions" "SIOOBE_FORMATTER" "Ljava/util/function/BiFunction;" w.2.2.2.2.1 (Ab w) s s.heap ∧
  vk_S 5 strL strB (fun i => w.2.2.2.1 (3 + i)) (fun i => w.2.2.2.1 (8 + i)) (Ab w) s s.heap ∧
  (∀ j, j < 5 → vk_R RX4 (idxS j) (txS j) (w.2.2.2.1 (3 + j)) s) ∧ va_AO RX5 s ∧ vz_AOA .long s ∧ (w.2.2.2.2.1 = .null ∨ ∃ t, w.2.2.2.2.1 = .ref t)
def NestW (s : State) : Prop := ∀ q ∈ NEST, va_Nw q s
theorem NestW.warm {s U : State} (hW : s.WarmedH U.vm) (h : NestW s) : NestW U := by
  intro q hq
  have h1 := h q hq
  have h2 := (List.mem_filter.mp hq).2
  cases q with
  | fieldLinkNest a i b n d x => exact va_Nw.warmF hW h1
  | methodLinkNest a i x hh => exact va_Nw.warmM hW h1
  | _ => cases h2
theorem NestW.same {u U : State} (e : u.vm = U.vm) (h : NestW u) : NestW U := by
  intro q hq
  have h1 := h q hq
  have h2 := (List.mem_filter.mp hq).2
  cases q with
  | fieldLinkNest a i b n d x => exact va_Nw.same rfl e h1
  | methodLinkNest a i x hh => exact va_Nw.same rfl e h1
  | _ => cases h2
/-- into a callee: the heap has gone on, the tables are warm -/
theorem OldW.to {w : WC} {s U : State} {H : Heap} {locs : List Loc} (h : OldW w s) (hS : va_S (Ab w) s.heap H locs) (hU : U.heap = H) (hW : s.WarmedH U.vm) : OldW w U := by
  obtain ⟨hX, hb, hz, hT1, hT2, hZ1, hZ2, hZ3, hZ4, hK, hR, hA, hAA, hq⟩ := h
  have hk : ∀ a : Nat, a < s.heap.size → ¬ Ab w a → U.heap[a]? = s.heap[a]? := fun a h1 h2 => by rw [hU]; exact hS.2.1 a h1 h2
  refine ⟨(hX.moved hW.alike).kept (hk _ (by omega) (by show ¬ w.1 ≤ _; omega)), hb, ?_, (hT1.moved hW.alike).kept hk, (hT2.moved hW.alike).kept hk, (hZ1.moved hW.alike).kept hk, (hZ2.moved hW.alike).kept hk, (hZ3.moved hW.alike).kept hk, (hZ4.moved hW.alike).kept hk, (hK.moved hW.alike).kept hk, fun j hj => (hR j hj).warm hW, hA.moved hW.alike, hAA.moved hW.alike, hq⟩
  rw [hU]
  exact Nat.le_trans hz hS.1
theorem OldW.same {w : WC} {u U : State} (h : OldW w u) (e : U.vm = u.vm) (eh : U.heap = u.heap) : OldW w U := by
  obtain ⟨hX, hb, hz, hT1, hT2, hZ1, hZ2, hZ3, hZ4, hK, hR, hA, hAA, hq⟩ := h
  have ha : u.vm.Alike U.vm := by rw [e]; exact Vm.Alike.refl _
  rw [← eh] at hX hT1 hT2 hZ1 hZ2 hZ3 hZ4 hK
  exact ⟨hX.moved ha, hb, by rw [eh]; exact hz, hT1.moved ha, hT2.moved ha, hZ1.moved ha, hZ2.moved ha, hZ3.moved ha, hZ4.moved ha, hK.moved ha, fun j hj => (hR j hj).same e, hA.moved ha, hAA.moved ha, hq⟩
