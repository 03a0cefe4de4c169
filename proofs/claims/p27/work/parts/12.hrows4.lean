/-! The world behind something new. -/
theorem WdH.app {w : WC} {s : State} {h h' : Hp} {H H1 : Heap} {locs : List Loc} {l : List Sh} (hW : WdH w s h H locs) (h1 : h'.1 = h.1 ++ l) (ho : ∀ b s', b < h.1.length → cel w h' b s' = cel w h b s') (hsz : H1.size = H.size + l.length)
    (hold : ∀ q : Nat, q < H.size → H1[q]? = H[q]?) (hnew : ∀ j s', l[j]? = some s' → va_at w.2.1 vwCl (w.1 + (h.1.length + j), cel w h' (h.1.length + j) s') H1) : WdH w s h' H1 locs := by
  obtain ⟨hW1, hW2, hW3, hW4, hW5⟩ := hW
  refine ⟨by rw [hsz, h1, List.length_append, hW1]; omega, ?_, by omega, fun q q1 q2 => ?_, hW5⟩
  · rw [wsH_app h1 ho]
    refine va_P.app (hW2.kept fun k q hk => hold q.1 ((hW2 k q hk).lt)) (fun j q hj => ?_)
    by_cases hjl : j < l.length
    · rw [List.getElem?_map, List.getElem?_range hjl] at hj
      cases hj
      have e : l[j]? = some (l.getD j (.inr 0)) := by rw [List.getD_eq_getElem?_getD, List.getElem?_eq_getElem hjl]; rfl
      exact hnew j _ e
    · rw [List.getElem?_eq_none (by simp; omega)] at hj
      cases hj
  · rw [hold q (by omega)]
    exact hW4 q q1 q2
theorem cel_clr {w : WC} {h : Hp} {n : Nat} {l : List Sh} {b : Nat} (hb : b ≠ n) (s : Sh) : cel w (l, clr h.2.1 n 0, clr h.2.2.1 n 0, clr h.2.2.2 n none) b s = cel w h b s :=
  cel_push (h := h) (a := b) (h' := (l, clr h.2.1 n 0, clr h.2.2.1 n 0, clr h.2.2.2 n none)) (clr_ne _ _ hb) (clr_ne _ _ hb) (clr_ne _ _ hb) s
section HR4
variable {w : WC} {p : Program} {l : Launch} {e : Env} {R : Room} {s : State} {m : MethodId} {args : Array Value} {below : List Frame} {meth : Method} {c : Code} {H : Heap} {locs : List Loc} {cells slots : Nat} {Q : State → Prop}
variable {y pc : Nat} {st : List Value} {ls : Array Slot} {h : Hp} {cc : ByteArray}
theorem z_new (hx : p.tables.exec = Jvm.exec) (hb : c.code = cc) (hK : va_K w.2.1 vwCl (tysW w) s) (hts : ∀ q ∈ BIGG, q.before args s = true) {own : String} {index pl : Nat} (hown : s.vm.findClass own = some m.cls) (hW : WdH w s h H locs) {ci : Nat} (hci : ci < 8)
    (hlk : linkOK pl (.classLink own index (vwC ci)) = true) (hcells : cells + 1 ≤ R.cells) (hslots : slots + vwN ci ≤ R.slots) (hd : decode cc pc = .ok (.new index, 3))
    (kk : ∀ H1, WdH w s (objNew h ci) H1 locs → W p l e R s m args below meth c H1 locs (cells + 1) (slots + vwN ci) Q (F0 m (pc + 3) ls (.ref (w.1 + h.1.length) :: st))) :
    W p l e R s m args below meth c H locs cells slots Q (F0 m pc ls st) := by
  have hc := cls_tab ci hci
  have hKn := hK.1 ci _ hc
  refine W.newcK hx hb hown (hts _ (linkOK_in hlk)) (hts _ (cls_ins ci hci)) (hts _ (cls_ini ci hci)) rfl hd hcells hslots hKn.2.1 hW.1 fun H1 kC hkC e1 z1 o1 => ?_
  have hob := u_born (vwTy ci) hts (cls_ws ci hci) hKn hkC e1 (cls_ty ci hci)
  refine kk H1 (hW.app (l := [.inr ci]) rfl (fun b s' hb' => cel_clr (Nat.ne_of_lt hb') s') (by rw [z1, hW.1]; rfl) (fun q hq => o1 q (by rw [← hW.1]; exact hq)) (fun j s' hj => ?_))
  have hj0 : j = 0 := by
    have := (List.getElem?_eq_some_iff.mp hj).1
    simp at this
    exact this
  subst hj0
  cases hj
  refine ⟨_, hc, ?_⟩
  rw [Nat.add_zero]
  refine hob.to (fun k hk => ?_)
  show defaultValue (vwTy ci k) = ((List.range (vwN ci)).map (fun j => cfv w (objNew h ci) ci h.1.length j)).getD k .null
  rw [List.getD_eq_getElem?_getD, List.getElem?_map, List.getElem?_range hk]
  show defaultValue (vwTy ci k) = cfv w (objNew h ci) ci h.1.length k
  unfold cfv
  have e1 : (objNew h ci).2.1 h.1.length k = 0 := by show clr h.2.1 h.1.length 0 h.1.length k = 0; rw [clr_self]
  have e2 : (objNew h ci).2.2.2 h.1.length k = none := by show clr h.2.2.2 h.1.length none h.1.length k = none; rw [clr_self]
  rw [e1, e2]
  rcases cls_kind ci hci k hk with q | q | q
  · rw [q]; rfl
  · rw [q]; rfl
  · rw [if_pos q]
    cases hty : vwTy ci k <;> rw [hty] at q <;> first | rfl | cases q
theorem z_newa (hx : p.tables.exec = Jvm.exec) (hb : c.code = cc) (hK : va_K w.2.1 vwCl (tysW w) s) (hts : ∀ q ∈ BIGG, q.before args s = true) (hW : WdH w s h H locs) {at' : ArrayType} {t : Nat} (htag : atag at' = some t) {n : Int32} (hn : ¬ n < 0) (hn2 : n.toNatClampNeg ≤ 10000)
    (hcells : cells + 1 ≤ R.cells) (hslots : slots + n.toNatClampNeg ≤ R.slots) (hd : decode cc pc = .ok (.newarray at', 2))
    (kk : ∀ H1, WdH w s (arrNew h t n.toNatClampNeg) H1 locs → W p l e R s m args below meth c H1 locs (cells + 1) (slots + n.toNatClampNeg) Q (F0 m (pc + 2) ls (.ref (w.1 + h.1.length) :: st))) :
    W p l e R s m args below meth c H locs cells slots Q (F0 m pc ls (.int n :: st)) := by
  have harr : Jvm.Cond.arrayClass (newarray.typeOf at') ∈ BIGG ∧ ∃ ty, newarray.typeOf at' = ty ∧ (tysW w)[t]? = some (w.2.2.1 t, ty) ∧ isRefTy ty = false ∧ ∀ (g : Hp) (N : Nat), (∀ j, g.2.1 h.1.length j = 0) → (∀ j, g.2.2.1 h.1.length j = 0) → vp_cell (w.2.2.1 t) (N, cfa w g h.1.length t) = arrV (w.2.2.1 t) N (fun _ => defaultValue ty) := by
    cases at' <;> cases htag
    · exact ⟨arc_bool, .boolean, rfl, rfl, rfl, fun g N g1 _ => by rw [cfa_2, vp_cell_i]; simp only [g1]; rfl⟩
    · exact ⟨arc_int, .int, rfl, rfl, rfl, fun g N g1 _ => by rw [cfa_0, vp_cell_i]; simp only [g1]; rfl⟩
    · exact ⟨arc_long, .long, rfl, rfl, rfl, fun g N _ g2 => by rw [cfa_1, vp_cell_l]; simp only [g2]; rfl⟩
  obtain ⟨hin, ty, hty, ht, href, hcell⟩ := harr
  have hcb : componentBytes (newarray.typeOf at') ≤ 8 := by cases at' <;> decide
  have hRA := (hK.2 t _ ht).2
  have hnm : s.vm.findClass ("[" ++ ty.toString) = some (w.2.2.1 t) := by
    cases ty <;> first | exact hRA | cases href
  refine va_newaK hx hb (hts _ hin) rfl hd rfl hn rfl (Nat.le_trans (Nat.mul_le_mul hn2 hcb) (by decide)) hcells hslots hW.1 fun H1 cA e1 z1 o1 hAr hNm => ?_
  have hcA : cA = w.2.2.1 t := by
    rw [hty] at hNm
    exact Option.some.inj (hNm.symm.trans hnm)
  subst hcA
  refine kk H1 (hW.app (l := [.inl (t, n.toNatClampNeg)]) rfl (fun b s' hb' => cel_clr (Nat.ne_of_lt hb') s') (by rw [z1, hW.1]; rfl) (fun q hq => o1 q (by rw [← hW.1]; exact hq)) (fun j s' hj => ?_))
  have hj0 : j = 0 := by
    have := (List.getElem?_eq_some_iff.mp hj).1
    simp at this
    exact this
  subst hj0
  cases hj
  show H1[w.1 + (h.1.length + 0)]? = some (vp_cell (w.2.2.1 t) (n.toNatClampNeg, cfa w (arrNew h t n.toNatClampNeg) (h.1.length + 0) t))
  rw [Nat.add_zero, hcell _ _ (fun j => by show clr h.2.1 h.1.length 0 h.1.length j = 0; rw [clr_self]) (fun j => by show clr h.2.2.1 h.1.length 0 h.1.length j = 0; rw [clr_self]), ← hty]
  exact e1
theorem z_newq (hx : p.tables.exec = Jvm.exec) (hb : c.code = cc) (hK : va_K w.2.1 vwCl (tysW w) s) (hts : ∀ q ∈ BIGG, q.before args s = true) {own : String} {index pl : Nat} (hown : s.vm.findClass own = some m.cls) (hW : WdH w s h H locs) (hlk : linkOK pl (.classLink own index RX5) = true) (hAO : va_AO RX5 s) {n : Int32} (hn : ¬ n < 0) (hn2 : n.toNatClampNeg ≤ 10000)
    (hcells : cells + 1 ≤ R.cells) (hslots : slots + n.toNatClampNeg ≤ R.slots) (hd : decode cc pc = .ok (.anewarray index, 3))
    (kk : ∀ H1, WdH w s (arrNew h 3 n.toNatClampNeg) H1 locs → W p l e R s m args below meth c H1 locs (cells + 1) (slots + n.toNatClampNeg) Q (F0 m (pc + 3) ls (.ref (w.1 + h.1.length) :: st))) :
    W p l e R s m args below meth c H locs cells slots Q (F0 m pc ls (.int n :: st)) := by
  refine W.anew hx hb hown (hts _ (linkOK_in hlk)) (va_AO.use hAO) rfl hd rfl hn (by omega) hcells hslots fun cA kA comp f1 f2 f3 f4 => ?_
  obtain ⟨kA', comp', k1, k2, k3, k4⟩ := (hK.2 3 _ rfl).2
  have hcA : cA = w.2.2.1 3 := Option.some.inj (f1.symm.trans k4)
  subst hcA
  rw [arrV_new]
  have hsz : (H.push (arrV (w.2.2.1 3) n.toNatClampNeg fun _ => .null)).size = H.size + 1 := by simp
  have hold : ∀ q : Nat, q < H.size → (H.push (arrV (w.2.2.1 3) n.toNatClampNeg fun _ => .null))[q]? = H[q]? := fun q hq => by
    rw [Array.getElem?_push, if_neg (Nat.ne_of_lt hq)]
  have hk := kk (H.push (arrV (w.2.2.1 3) n.toNatClampNeg fun _ => .null)) (hW.app (l := [.inl (3, n.toNatClampNeg)]) rfl (fun b s' hb' => cel_clr (Nat.ne_of_lt hb') s') hsz hold (fun j s' hj => by
    have hj0 : j = 0 := by
      have := (List.getElem?_eq_some_iff.mp hj).1
      simp at this
      exact this
    subst hj0
    cases hj
    show (H.push _)[w.1 + (h.1.length + 0)]? = some (vp_cell (w.2.2.1 3) (n.toNatClampNeg, cfa w (arrNew h 3 n.toNatClampNeg) (h.1.length + 0) 3))
    rw [Nat.add_zero, ← hW.1, cfa_3, vp_cell_q]
    have e2 : ∀ i, (arrNew h 3 n.toNatClampNeg).2.2.2 h.1.length i = none := fun i => by show clr h.2.2.2 h.1.length none h.1.length i = none; rw [clr_self]
    simp only [e2]
    simp
    rfl))
  rw [← hW.1] at hk
  exact hk
end HR4
