/-! The pure step is the machine's: instructions on locals, stack and numbers. -/
def isJunk : Value → Bool
  | .retAddr _ => true
  | _ => false
def asL (w : WC) (L : List Value) : List (Nat × Value) := L.zipIdx.filterMap (fun q => if isJunk q.1 = true then none else some (q.2, tr w q.1))
theorem asL_mem {w : WC} {L : List Value} {i : Nat} {v : Value} : (i, v) ∈ asL w L ↔ ∃ u, L[i]? = some u ∧ isJunk u = false ∧ v = tr w u := by
  unfold asL
  rw [List.mem_filterMap]
  constructor
  · rintro ⟨⟨u, j⟩, hm, h⟩
    have hm := List.mem_zipIdx_iff_getElem?.mp hm
    by_cases hj : isJunk u = true
    · simp [hj] at h
    · simp only [hj] at h
      cases h
      exact ⟨u, hm, by simpa using hj, rfl⟩
  · rintro ⟨u, hu, hj, rfl⟩
    exact ⟨(u, i), List.mem_zipIdx_iff_getElem?.mpr hu, by simp [hj]⟩
theorem lv_mono {ls : Array Slot} {nL : Nat} {l l' : List (Nat × Value)} (h : lv_has ls nL l) (hs : ∀ q ∈ l', q ∈ l) : lv_has ls nL l' := ⟨h.1, h.2.1, fun q hq => h.2.2 q (hs q hq)⟩
theorem asL_at {w : WC} {ls : Array Slot} {nL : Nat} {L : List Value} {i : Nat} {u : Value} (h : lv_has ls nL (asL w L)) (hu : L[i]? = some u) (hj : isJunk u = false) : ls[i]? = some (.val (tr w u)) :=
  h.2.2 (i, tr w u) (asL_mem.mpr ⟨u, hu, hj, rfl⟩)
theorem tr_cat {w : WC} (hz : w.2.2.2.2.1.category = 1) (v : Value) : (tr w v).category = v.category := by
  cases v with
  | ref n =>
    simp only [tr]
    split
    · rw [hz]; rfl
    · rfl
  | _ => rfl
theorem asL_set {w : WC} (hz : w.2.2.2.2.1.category = 1) {L : List Value} {k : Nat} {v : Value} (hok : okSt L k = true) :
    ∀ q ∈ asL w (L.set k v), q ∈ (k, tr w v) :: (asL w L).filter (fun q => !(q.1 == k) && !(q.1 + 1 == k && q.2.category == 2)) := by
  rintro ⟨i, x⟩ hq
  obtain ⟨u, hu, hj, rfl⟩ := asL_mem.mp hq
  by_cases hi : i = k
  · subst hi
    rw [List.getElem?_set_self'] at hu
    cases hl : L[i]? with
    | none => rw [hl] at hu; cases hu
    | some z => rw [hl] at hu; cases hu; exact List.mem_cons_self
  · rw [List.getElem?_set_ne (Ne.symm hi)] at hu
    refine List.mem_cons_of_mem _ (List.mem_filter.mpr ⟨asL_mem.mpr ⟨u, hu, hj, rfl⟩, ?_⟩)
    have h1 : (i == k) = false := by simpa using hi
    rw [h1]
    by_cases h2 : i + 1 = k
    · subst h2
      simp only [okSt, hu] at hok
      have hc : u.category = 1 := by simpa using hok
      simp [tr_cat hz, hc]
    · have h3 : (i + 1 == k) = false := by simpa using h2
      rw [h3]
      rfl
theorem asL_set2 {w : WC} (hz : w.2.2.2.2.1.category = 1) {L : List Value} {k : Nat} {x : Int64} (hok : okSt L k = true) :
    ∀ q ∈ asL w ((L.set k (.long x)).set (k + 1) (.retAddr 0)), q ∈ (k, .long x) :: (asL w L).filter (fun q => !(q.1 == k) && (!(q.1 == k + 1) && !(q.1 + 1 == k && q.2.category == 2))) := by
  rintro ⟨i, y⟩ hq
  obtain ⟨u, hu, hj, rfl⟩ := asL_mem.mp hq
  by_cases hk1 : i = k + 1
  · subst hk1
    rw [List.getElem?_set_self'] at hu
    cases hl : (L.set k (.long x))[k + 1]? with
    | none => rw [hl] at hu; cases hu
    | some z => rw [hl] at hu; cases hu; cases hj
  · rw [List.getElem?_set_ne (Ne.symm hk1)] at hu
    have h := asL_set hz (v := .long x) hok (i, tr w u) (asL_mem.mpr ⟨u, hu, hj, rfl⟩)
    rcases List.mem_cons.mp h with h | h
    · rw [h]; exact List.mem_cons_self
    · obtain ⟨h1, h2⟩ := List.mem_filter.mp h
      refine List.mem_cons_of_mem _ (List.mem_filter.mpr ⟨h1, ?_⟩)
      have h3 : (i == k + 1) = false := by simpa using hk1
      simp only [h3] at h2 ⊢
      simpa using h2
theorem dl {cc : ByteArray} {pc len n : Nat} {i : Instr} (hdec : decode cc pc = .ok (i, len)) (hlen : ilen i = 0 ∨ ilen i = len) (h : ilen i = n + 1) : decode cc pc = .ok (i, n + 1) := by
  rcases hlen with h0 | h0
  · rw [h0] at h; cases h
  · rw [hdec, ← h0, h]
theorem jump_eq {pc t : Nat} {off : Int} (h : jump pc off = some t) : (pc : Int) + off = (t : Int) := by
  unfold jump at h
  split at h
  · cases h; omega
  · cases h
section INV
variable {α : Type} {st : List Value} {r : α}
theorem inv_i {f : Int32 → List Value → Option α} (h : (match st with | .int x :: st => f x st | _ => none) = some r) : ∃ x st', st = .int x :: st' ∧ f x st' = some r := by
  split at h
  · exact ⟨_, _, rfl, h⟩
  · cases h
theorem inv_ii {f : Int32 → Int32 → List Value → Option α} (h : (match st with | .int y :: .int x :: st => f y x st | _ => none) = some r) : ∃ y x st', st = .int y :: .int x :: st' ∧ f y x st' = some r := by
  split at h
  · exact ⟨_, _, _, rfl, h⟩
  · cases h
theorem inv_l {f : Int64 → List Value → Option α} (h : (match st with | .long x :: st => f x st | _ => none) = some r) : ∃ x st', st = .long x :: st' ∧ f x st' = some r := by
  split at h
  · exact ⟨_, _, rfl, h⟩
  · cases h
theorem inv_ll {f : Int64 → Int64 → List Value → Option α} (h : (match st with | .long y :: .long x :: st => f y x st | _ => none) = some r) : ∃ y x st', st = .long y :: .long x :: st' ∧ f y x st' = some r := by
  split at h
  · exact ⟨_, _, _, rfl, h⟩
  · cases h
theorem inv_il {f : Int32 → Int64 → List Value → Option α} (h : (match st with | .int y :: .long x :: st => f y x st | _ => none) = some r) : ∃ y x st', st = .int y :: .long x :: st' ∧ f y x st' = some r := by
  split at h
  · exact ⟨_, _, _, rfl, h⟩
  · cases h
theorem inv_r {f : Nat → List Value → Option α} (h : (match st with | .ref x :: st => f x st | _ => none) = some r) : ∃ x st', st = .ref x :: st' ∧ f x st' = some r := by
  split at h
  · exact ⟨_, _, rfl, h⟩
  · cases h
theorem inv_v {f : Value → List Value → Option α} (h : (match st with | x :: st => f x st | _ => none) = some r) : ∃ x st', st = x :: st' ∧ f x st' = some r := by
  split at h
  · exact ⟨_, _, rfl, h⟩
  · cases h
theorem inv_vv {f : Value → Value → List Value → Option α} (h : (match st with | x :: y :: st => f x y st | _ => none) = some r) : ∃ x y st', st = x :: y :: st' ∧ f x y st' = some r := by
  split at h
  · exact ⟨_, _, _, rfl, h⟩
  · cases h
theorem inv_oi {o : Option Value} {f : Int32 → Option α} (h : (match o with | some (.int x) => f x | _ => none) = some r) : ∃ x, o = some (.int x) ∧ f x = some r := by
  split at h
  · exact ⟨_, rfl, h⟩
  · cases h
theorem inv_ol {o : Option Value} {f : Int64 → Option α} (h : (match o with | some (.long x) => f x | _ => none) = some r) : ∃ x, o = some (.long x) ∧ f x = some r := by
  split at h
  · exact ⟨_, rfl, h⟩
  · cases h
theorem inv_or {o : Option Value} {f : Nat → Option α} (h : (match o with | some (.ref x) => f x | _ => none) = some r) : ∃ x, o = some (.ref x) ∧ f x = some r := by
  split at h
  · exact ⟨_, rfl, h⟩
  · cases h
theorem inv_if {c : Prop} [Decidable c] {a : Option α} (h : (if c then a else none) = some r) : c ∧ a = some r := by
  by_cases hc : c
  · rw [if_pos hc] at h; exact ⟨hc, h⟩
  · rw [if_neg hc] at h; cases h
theorem inv_ifn {c : Prop} [Decidable c] {a : Option α} (h : (if c then none else a) = some r) : ¬ c ∧ a = some r := by
  by_cases hc : c
  · rw [if_pos hc] at h; cases h
  · rw [if_neg hc] at h; exact ⟨hc, h⟩
end INV
theorem bif_t {b : Bool} {α : Type} {x y : α} (h : b = true) : (if b = true then x else y) = x := if_pos h
theorem bif_f {b : Bool} {α : Type} {x y : α} (h : ¬ b = true) : (if b = true then x else y) = y := if_neg h
