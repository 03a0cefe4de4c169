/-! The world behind a putfield, a copy, something new. -/
theorem cfs_set {w : WC} {h h' : Hp} {ci a k n : Nat} {v : Value} (hk : k < n) (h1 : cfv w h' ci a k = v) (h2 : ∀ j, j ≠ k → cfv w h' ci a j = cfv w h ci a j) :
    (List.range n).map (fun j => cfv w h' ci a j) = ((List.range n).map (fun j => cfv w h ci a j)).set k v := by
  apply List.ext_getElem?
  intro j
  by_cases hj : j < n
  · by_cases hjk : j = k
    · subst hjk
      rw [List.getElem?_set_self (by simpa using hj), List.getElem?_map, List.getElem?_range hj]
      simp [h1]
    · rw [List.getElem?_set_ne (Ne.symm hjk), List.getElem?_map, List.getElem?_map, List.getElem?_range hj]
      simp [h2 j hjk]
  · rw [List.getElem?_eq_none (by simpa using hj), List.getElem?_eq_none (by simpa using hj)]
section HR2
variable {w : WC} {p : Program} {l : Launch} {e : Env} {R : Room} {s : State} {m : MethodId} {args : Array Value} {below : List Frame} {meth : Method} {c : Code} {H : Heap} {locs : List Loc} {cells slots : Nat} {Q : State → Prop}
variable {y pc : Nat} {st : List Value} {ls : Array Slot} {h : Hp} {cc : ByteArray}
/-- what a store of v into field k of the object a needs and gives, whatever row makes it -/
theorem z_putAt (hK : va_K w.2.1 vwCl (tysW w) s) (hts : ∀ q ∈ BIGG, q.before args s = true) (hW : WdH w s h H locs) {ci a k : Nat} (hci : ci < 8) (hk : k < vwN ci) (ha : h.1[a]? = some (.inr ci)) :
    ∃ (cell : Cell) (cf : Nat) (kf : Class) (fi : Nat) (f : Field) (kC : Class), H[w.1 + a]? = some cell ∧ cell.cls = w.2.1.1 ci ∧ cell.vm = .none ∧ s.fieldFound? (vwC ci) (vwT ci k).2.1 (vwT ci k).2.2.1 = some (cf, kf, fi, f) ∧ f.slot = w.2.1.2 ci k ∧ f.isStatic = false ∧
      s.vm.findClass (vwC ci) = some (w.2.1.1 ci) ∧ s.vm.classes[w.2.1.1 ci]? = some kC ∧ kC.kind = .ordinary ∧ f.slot < cell.slots.size ∧
      (∀ (H1 : Heap) (v : Value), H1[w.1 + a]? = some (cell.setSlot f.slot v) → va_at w.2.1 vwCl (w.1 + a, .inr (ci, ((List.range (vwN ci)).map (fun j => cfv w h ci a j)).set k v)) H1) := by
  have hg := wsH_get (w := w) ha
  have hc := cls_tab ci hci
  have hap := va_apart (own := "") hts (cls_ws ci hci) (vwTy ci) (cls_ty ci hci) (cls_nm ci hci) hK hc
  obtain ⟨r, h1, cell, q1, q2, q3, q4⟩ := hW.2.1 a _ hg
  have hr : r = (vwC ci, vwT ci, vwN ci) := Option.some.inj (h1.symm.trans hc)
  subst hr
  obtain ⟨hS, hfc, kC, hkC, hkind⟩ := hK.1 ci _ hc
  obtain ⟨cf, kf, fi, f, hi, hsl⟩ := hS k hk
  have hst := (u_facts hfc hkC (u_lays hts (cls_ws ci hci) hk) hi).1
  rw [cls_decl ci hci k hk] at hi
  refine ⟨cell, cf, kf, fi, f, kC, q1, q2, q3, hi, hsl, hst, hfc, hkC, hkind, by rw [hsl]; exact k2_hasslot (q4 k hk), fun H1 v e1 => ?_⟩
  rw [hsl] at e1
  exact ⟨_, hc, t_OB.to (V := updV (vp_V ((List.range (vwN ci)).map (fun j => cfv w h ci a j))) k v) ⟨_, e1, q2, q3, t_set q4 hap hk v⟩ (fun j _ => vp_updV_set (by simpa using hk) v j)⟩
/-- what may be stored there -/
theorem z_stores (hK : va_K w.2.1 vwCl (tysW w) s) (hts : ∀ q ∈ BIGG, q.before args s = true) {ci k : Nat} (hci : ci < 8) (hk : k < vwN ci) {v : Value} (hn : narrow (vwTy ci k) v = v) (hfit : fits (vwTy ci k) v = true) {cf : Nat} {kf : Class} {fi : Nat} {f : Field} {kC : Class}
    (hi : s.fieldFound? (vwC ci) (vwT ci k).2.1 (vwT ci k).2.2.1 = some (cf, kf, fi, f)) (hfc : s.vm.findClass (vwC ci) = some (w.2.1.1 ci)) (hkC : s.vm.classes[w.2.1.1 ci]? = some kC) (hkind : kC.kind = .ordinary) :
    ((vwT ci k).2.2.2 = false → k2_Sd s f (w.2.1.1 ci) v) ∧ narrow f.type v = v ∧ s.fitsSlot (w.2.1.1 ci) .none f.slot v = true := by
  have hd := cls_decl ci hci k hk
  refine ⟨fun hf => ?_, ?_⟩
  · have hlay := hts _ (cls_ws ci hci _ (u_in_lay hk))
    unfold u_lay at hlay
    rw [if_neg (by rw [hf]; decide), hd] at hlay
    exact u_store hfc hkC hkind hlay hi (cls_ty ci hci k hk) hn hfit
  · have hl := u_lays hts (cls_ws ci hci) hk
    rw [hd] at hl
    exact u_fits hfc hkC hkind hl hi (cls_ty ci hci k hk) hn hfit
end HR2
