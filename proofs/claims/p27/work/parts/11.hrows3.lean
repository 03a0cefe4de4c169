section HR3
variable {w : WC} {p : Program} {l : Launch} {e : Env} {R : Room} {s : State} {m : MethodId} {args : Array Value} {below : List Frame} {meth : Method} {c : Code} {H : Heap} {locs : List Loc} {cells slots : Nat} {Q : State → Prop}
variable {y pc : Nat} {st : List Value} {ls : Array Slot} {h : Hp} {cc : ByteArray}
/-- putfield: link or nest, final or not -/
theorem z_put (hx : p.tables.exec = Jvm.exec) (hb : c.code = cc) (hK : va_K w.2.1 vwCl (tysW w) s) (hts : ∀ q ∈ BIGG, q.before args s = true) {own : String} {index nest pl : Nat} (hown : s.vm.findClass own = some m.cls) (hN : NestW s) (hW : WdH w s h H locs) {ci a k : Nat} (hci : ci < 8) (hk : k < vwN ci) (ha : h.1[a]? = some (.inr ci))
    (hf : fldOK own index ci k nest pl = true) (hfin : ((vwT ci k).2.2.2 == false || (decide (nest = 0) && decide (meth.name = "<init>") && decide (own = vwC ci))) = true) {v : Value} (hn : narrow (vwTy ci k) v = v) (hfit : fits (vwTy ci k) v = true) {h' : Hp} (h1 : h'.1 = h.1) (ho : ∀ b s', b ≠ a → cel w h' b s' = cel w h b s')
    (hv : cfv w h' ci a k = v) (hv2 : ∀ j, j ≠ k → cfv w h' ci a j = cfv w h ci a j) (hd : decode cc pc = .ok (.putfield index, 3))
    (kk : ∀ H1 locs1, WdH w s h' H1 locs1 → W p l e R s m args below meth c H1 locs1 cells slots Q (F0 m (pc + 3) ls st)) :
    W p l e R s m args below meth c H locs cells slots Q (F0 m pc ls (v :: .ref (w.1 + a) :: st)) := by
  obtain ⟨cell, cf, kf, fi, f, kC, q1, q2, q3, hi, hsl, hst, hfc, hkC, hkind, hlt, hat⟩ := z_putAt hK hts hW hci hk ha
  obtain ⟨s1, s2⟩ := z_stores hK hts hci hk hn hfit hi hfc hkC hkind
  have go : ∀ (H1 : Heap), H1[w.1 + a]? = some (cell.setSlot f.slot v) → H1.size = H.size → (∀ q, q ≠ w.1 + a → H1[q]? = H[q]?) → WdH w s h' H1 (locs ++ [⟨w.1 + a, f.slot⟩]) := by
    intro H1 e1 z oq
    refine hW.upd ha h1 ho ?_ z oq
    have h2 := hat H1 v e1
    rw [← cfs_set hk hv hv2] at h2
    exact h2
  by_cases hff : (vwT ci k).2.2.2 = false
  · unfold fldOK at hf
    by_cases hn0 : nest = 0
    · rw [if_pos hn0] at hf
      exact W.putK hx hb ⟨hown, hts _ (linkOK_in hf), ⟨_, _, _, hi⟩, hst⟩ (by rw [q2]; exact s1 hff) q1 q3 hlt rfl rfl hd (fun H1 e1 z oq => kk H1 _ (go H1 e1 z oq))
    · rw [if_neg hn0] at hf
      exact va_WputK hx hb hown (va_Nw.use rfl (hN _ (nestOK_in hf))) hi hst (by rw [q2]; exact s1 hff) q1 q3 hlt rfl rfl hd (fun H1 e1 z oq => kk H1 _ (go H1 e1 z oq))
  · have hft : (vwT ci k).2.2.2 = true := by simpa using hff
    rw [hft] at hfin
    simp only [Bool.and_eq_true, decide_eq_true_eq, Bool.or_eq_true] at hfin
    obtain ⟨⟨hn0, hini⟩, hoc⟩ := hfin.resolve_left (by decide)
    unfold fldOK at hf
    rw [if_pos hn0] at hf
    have hcf : m.cls = cf := by
      have hlay := hts _ (cls_ws ci hci _ (u_in_lay hk))
      unfold u_lay at hlay
      rw [if_pos hft] at hlay
      obtain ⟨_, _, c', _, _, _, -, -, hf', -, -, -, hown2, -⟩ := Cond.laysFinal_spec hlay
      rw [cls_decl ci hci k hk] at hf' hown2
      have e1 : c' = cf := by have := hi.symm.trans hf'; simp at this; exact this.1.symm
      rw [← e1]
      rw [← hoc] at hown2
      exact Option.some.inj (hown.symm.trans hown2)
    exact W.putFinK hx hb hown (hts _ (linkOK_in hf)) hi hst hcf hini (by rw [q2]; exact s2) q1 q3 hlt rfl rfl hd (fun H1 e1 z oq => kk H1 _ (go H1 e1 z oq))
theorem nn_clamp : ∀ z : Int32, ¬ z < 0 → z.toInt = (z.toNatClampNeg : Int) := by
  intro z hz
  have hz0 : (0 : Int) ≤ z.toInt := by
    have := Int32.not_lt.mp hz
    simpa using Int32.le_iff_toInt_le.mp this
  show z.toInt = ((z.toInt.toNat : Nat) : Int)
  omega
/-- System.arraycopy between two int arrays, or two long arrays, of ours -/
theorem z_copy (hx : p.tables.exec = Jvm.exec) (hb : c.code = cc) (hml : c.maxLocals = ls.size) (hK : va_K w.2.1 vwCl (tysW w) s) (hts : ∀ q ∈ BIGG, q.before args s = true) {own : String} {index pl : Nat} (hown : s.vm.findClass own = some m.cls) (hlk : linkOK pl (.methodLink own index arraycopyName) = true) (hW : WdH w s h H locs)
    {α : Type} (mk : α → Value) (mkA : (Nat → α) → (Nat → Int32) ⊕ (Nat → Int64) ⊕ (Nat → UInt32) ⊕ (Nat → UInt64) ⊕ (Nat → Option Nat)) (hmk : ∀ cA n f, vp_cell cA (n, mkA f) = arrV cA n (fun j => mk (f j))) {t : Nat} {ty : FieldType} (ht : (tysW w)[t]? = some (w.2.2.1 t, ty)) (hprim : refKind ty = false) (hfit : ∀ x, fits ty (mk x) = true) (htr : ∀ x, ∀ r, mk x ≠ .ref r)
    {a b n0 n1 : Nat} {f g : Nat → α} (ha : h.1[a]? = some (.inl (t, n1))) (hbb : h.1[b]? = some (.inl (t, n0))) (hf : cfa w h b t = mkA f) (hg : cfa w h a t = mkA g)
    {sp dp n : Int32} (h1 : ¬ sp < 0) (h2 : ¬ dp < 0) (h3 : ¬ n < 0) (h4 : sp.toNatClampNeg + n.toNatClampNeg ≤ n0) (h5 : dp.toNatClampNeg + n.toNatClampNeg ≤ n1)
    (hframes : 1 ≤ R.frames) (hlocals : (st.map fun v => v.category).sum + (nativeFrameWords "java/lang/System" "arraycopy" 5 + 11) ≤ R.locals) (hd : decode cc pc = .ok (.invokestatic index, 3))
    {h' : Hp} (e1' : h'.1 = h.1) (ho : ∀ b s', b ≠ a → cel w h' b s' = cel w h b s') (hv : cfa w h' a t = mkA (va_cpy f g sp.toNatClampNeg dp.toNatClampNeg n.toNatClampNeg))
    (kk : ∀ H1 locs1, WdH w s h' H1 locs1 → W p l e R s m args below meth c H1 locs1 cells slots Q (F0 m (pc + 3) ls st)) :
    W p l e R s m args below meth c H locs cells slots Q (F0 m pc ls (.int n :: .int dp :: .ref (w.1 + a) :: .int sp :: .ref (w.1 + b) :: st)) := by
  intro T hT X
  have hga := wsH_get (w := w) ha
  have hgb := wsH_get (w := w) hbb
  have hc0 : H[w.1 + b]? = some (arrV (w.2.2.1 t) n0 (fun j => mk (f j))) := by
    have := hW.2.1 b _ hgb
    rw [← hmk, ← hf]
    exact this
  have hc1 : H[w.1 + a]? = some (arrV (w.2.2.1 t) n1 (fun j => mk (g j))) := by
    have := hW.2.1 a _ hga
    rw [← hmk, ← hg]
    exact this
  obtain ⟨-, k0, hk0, cm0, hkk0⟩ := (hK.2 t _ ht).1 n0 (fun j => mk (f j))
  obtain ⟨vm', X', step⟩ := X.arraycopy hx hown (hts _ (linkOK_in hlk)) (hts _ nat_copy) (hts _ sta_copy) (hts _ ini_sys) (src := w.1 + b) (dst := w.1 + a) (cs := arrV (w.2.2.1 t) n0 (fun j => mk (f j))) (cd := arrV (w.2.2.1 t) n1 (fun j => mk (g j))) (srcPos := sp) (destPos := dp) (n := n) (by rw [hT]; exact hc0) (by rw [hT]; exact hc1)
    (fun _ h => by cases h) (fun _ h => by cases h) (fun h => by cases h) (fun h => by cases h) hk0 hk0 hkk0 hkk0 (by simp [hprim]) h1 h2 h3
    (by rw [nn_clamp sp h1, nn_clamp n h3, arrV_size]; omega)
    (by rw [nn_clamp dp h2, nn_clamp n h3, arrV_size]; omega)
    (fun vm₁ _ i hi => by
      have e : (arrV (w.2.2.1 t) n0 (fun j => mk (f j))).slots.getD (sp.toNatClampNeg + i) .null = mk (f (sp.toNatClampNeg + i)) := by
        rw [Array.getD_eq_getD_getElem?, arrV_read _ _ (by omega)]
        rfl
      refine ⟨?_, ?_⟩
      · rw [e]
        exact hfit _
      · rw [e]
        cases hm : mk (f (sp.toNatClampNeg + i)) with
        | ref r => exact absurd hm (htr _ r)
        | _ => trivial)
    (g := F0 m pc ls (.int n :: .int dp :: .ref (w.1 + a) :: .int sp :: .ref (w.1 + b) :: st)) rfl (by rw [hml]) (rest := st) rfl (by rw [hb]; exact hd) hframes (by show 2 * 0 + _ + _ ≤ _; omega)
  have e1 : copied (arrV (w.2.2.1 t) n0 (fun j => mk (f j))) (arrV (w.2.2.1 t) n1 (fun j => mk (g j))) sp dp n = arrV (w.2.2.1 t) n1 (fun j => mk (va_cpy f g sp.toNatClampNeg dp.toNatClampNeg n.toNatClampNeg j)) := va_copied mk _ _ f g h4
  rw [e1] at X' step
  have hl : w.1 + a < H.size := (Array.getElem?_eq_some_iff.mp hc1).1
  have hheap : ((T.setVm vm').setCell (w.1 + a) (arrV (w.2.2.1 t) n1 (fun j => mk (va_cpy f g sp.toNatClampNeg dp.toNatClampNeg n.toNatClampNeg j)))).heap = H.setIfInBounds (w.1 + a) (arrV (w.2.2.1 t) n1 (fun j => mk (va_cpy f g sp.toNatClampNeg dp.toNatClampNeg n.toNatClampNeg j))) := by rw [← hT]; rfl
  have oq : ∀ q : Nat, q ≠ w.1 + a → (H.setIfInBounds (w.1 + a) (arrV (w.2.2.1 t) n1 (fun j => mk (va_cpy f g sp.toNatClampNeg dp.toNatClampNeg n.toNatClampNeg j))))[q]? = H[q]? := fun q hq => by simp [Array.getElem?_setIfInBounds, Ne.symm hq]
  have hz : (H.setIfInBounds (w.1 + a) (arrV (w.2.2.1 t) n1 (fun j => mk (va_cpy f g sp.toNatClampNeg dp.toNatClampNeg n.toNatClampNeg j)))).size = H.size := by simp
  have hW1 := hW.upd (h' := h') (k := 0) ha e1' ho (H1 := H.setIfInBounds (w.1 + a) (arrV (w.2.2.1 t) n1 (fun j => mk (va_cpy f g sp.toNatClampNeg dp.toNatClampNeg n.toNatClampNeg j)))) (by
    show (H.setIfInBounds (w.1 + a) _)[w.1 + a]? = some (vp_cell _ (n1, cfa w h' a t))
    rw [hv, hmk]
    simp [Array.getElem?_setIfInBounds, hl]) hz oq
  obtain ⟨t, a1, b1⟩ := kk _ _ ⟨hW1.1, hW1.2.1, hW1.2.2.1, hW1.2.2.2.1, fun q hq => by
      rcases List.mem_append.mp hq with h | h
      · exact hW.2.2.2.2 q h
      · obtain ⟨z, -, hz⟩ := List.mem_map.mp h
        rw [← hz]
        show w.1 ≤ w.1 + a
        omega⟩ _ hheap X'
  exact ⟨t, step t a1, b1⟩
end HR3
