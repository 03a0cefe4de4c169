/-! The classes' words; the world behind a store. -/
theorem cls_tab : ∀ ci, ci < 8 → vwCl[ci]? = some (vwC ci, vwT ci, vwN ci) := by
  intro ci h
  match ci, h with
  | 0, _ => rfl
  | 1, _ => rfl
  | 2, _ => rfl
  | 3, _ => rfl
  | 4, _ => rfl
  | 5, _ => rfl
  | 6, _ => rfl
  | 7, _ => rfl
  | n + 8, h => exact absurd h (by omega)
theorem cls_ws1 : (List.range 8).all (fun ci => (List.range (vwN ci)).all (fun k => linkOK ((layP.getD ci []).getD k 0) (u_lay (vwC ci) (vwT ci) k))) = true := by decide +kernel
theorem cls_ws : ∀ ci, ci < 8 → ∀ q ∈ u_ws (vwC ci) (vwT ci) (vwN ci), q ∈ BIGG := by
  intro ci h q hq
  obtain ⟨k, hk, rfl⟩ := List.mem_map.mp hq
  exact linkOK_in (List.all_eq_true.mp (List.all_eq_true.mp cls_ws1 ci (List.mem_range.mpr h)) k hk)
theorem cls_nm : ∀ ci, ci < 8 → ∀ a, a < vwN ci → ∀ b, b < vwN ci → a ≠ b → (vwT ci a).2.1 ≠ (vwT ci b).2.1 := by
  intro ci h
  match ci, h with
  | 0, _ => exact nmX0
  | 1, _ => exact nmX1
  | 2, _ => exact nmX2
  | 3, _ => exact nmX3
  | 4, _ => exact nmX4
  | 5, _ => exact nmX5
  | 6, _ => exact nmX6
  | 7, _ => exact nmX7
  | n + 8, h => exact absurd h (by omega)
theorem cls_ty : ∀ ci, ci < 8 → ∀ k, k < vwN ci → parseFieldDescriptor (vwT ci k).2.2.1 = some (vwTy ci k) := by
  intro ci h
  match ci, h with
  | 0, _ => exact tyX0_ok
  | 1, _ => exact tyX1_ok
  | 2, _ => exact tyX2_ok
  | 3, _ => exact tyX3_ok
  | 4, _ => exact tyX4_ok
  | 5, _ => exact tyX5_ok
  | 6, _ => exact tyX6_ok
  | 7, _ => exact tyX7_ok
  | n + 8, h => exact absurd h (by omega)
theorem cls_decl : ∀ ci, ci < 8 → ∀ k, k < vwN ci → (vwT ci k).1 = vwC ci := by decide +kernel
theorem cls_kind : ∀ ci, ci < 8 → ∀ k, k < vwN ci → vwTy ci k = .int ∨ vwTy ci k = .boolean ∨ isRefTy (vwTy ci k) = true := by decide +kernel
theorem cls_ins : ∀ ci, ci < 8 → Jvm.Cond.instantiable (vwC ci) (vwN ci) ∈ BIGG := by
  intro ci h
  have h0 : (List.range 8).all (fun ci => linkOK (insP.getD ci 0) (.instantiable (vwC ci) (vwN ci))) = true := by decide +kernel
  exact linkOK_in (List.all_eq_true.mp h0 ci (List.mem_range.mpr h))
theorem cls_ini : ∀ ci, ci < 8 → Jvm.Cond.initialized (vwC ci) ∈ BIGG := by
  intro ci h
  have h0 : (List.range 8).all (fun ci => linkOK (iniPl ci (vwC ci)) (.initialized (vwC ci))) = true := by decide +kernel
  exact linkOK_in (List.all_eq_true.mp h0 ci (List.mem_range.mpr h))
theorem arc_int : Jvm.Cond.arrayClass .int ∈ BIGG := linkOK_in (pl := arcP.getD 0 0) (by decide +kernel)
theorem arc_long : Jvm.Cond.arrayClass .long ∈ BIGG := linkOK_in (pl := arcP.getD 1 0) (by decide +kernel)
theorem arc_bool : Jvm.Cond.arrayClass .boolean ∈ BIGG := linkOK_in (pl := arcP.getD 2 0) (by decide +kernel)
theorem nat_copy : Jvm.Cond.native arraycopyName ∈ BIGG := linkOK_in (pl := natP.getD 0 0) (by decide +kernel)
theorem sta_copy : Jvm.Cond.static arraycopyName ∈ BIGG := linkOK_in (pl := natP.getD 1 0) (by decide +kernel)
theorem ini_sys : Jvm.Cond.initialized "java/lang/System" ∈ BIGG := linkOK_in (pl := natP.getD 2 0) (by decide +kernel)
theorem obj_inst : Jvm.Cond.instanceMethod objectInit ∈ BIGG := linkOK_in (pl := objP.getD 0 0) (by decide +kernel)
set_option maxRecDepth 10000 in
theorem obj_code : Jvm.Cond.code objectInit ⟨#[0xb1]⟩ 1 none ∈ BIGG := linkOK_in (pl := objP.getD 1 0) (by decide +kernel)
/-- the world of the pure heap h -/
def WdH (w : WC) (s : State) (h : Hp) (H : Heap) (locs : List Loc) : Prop := H.size = w.1 + h.1.length ∧ va_P w.2.1 vwCl (wsH w h) H ∧ va_S (Ab w) s.heap H locs
theorem WdH.upd {w : WC} {s : State} {h h' : Hp} {H H1 : Heap} {locs : List Loc} {a k : Nat} {sh : Sh} (hW : WdH w s h H locs) (hs : h.1[a]? = some sh) (h1 : h'.1 = h.1) (ho : ∀ b s', b ≠ a → cel w h' b s' = cel w h b s')
    (hat : va_at w.2.1 vwCl (w.1 + a, cel w h' a sh) H1) (z : H1.size = H.size) (oq : ∀ q : Nat, q ≠ w.1 + a → H1[q]? = H[q]?) : WdH w s h' H1 (locs ++ [⟨w.1 + a, k⟩]) := by
  refine ⟨by rw [z, h1]; exact hW.1, ?_, hW.2.2.put z oq (by show w.1 ≤ w.1 + a; omega)⟩
  rw [← wsH_set hs h1 ho]
  exact hW.2.1.set (wsH_D w h) (wsH_get hs) hat oq
theorem tr_new {w : WC} {a : Nat} (ha : a < OLDB) : tr w (.ref a) = .ref (w.1 + a) := by
  have hB := OLDB_eq
  have e1 : ¬ (a = OLDB + 13) := by omega
  show (if a = OLDB + 13 then w.2.2.2.2.1 else Value.ref (if a < OLDB then w.1 + a else w.2.2.2.1 (a - OLDB))) = _
  rw [if_neg e1, if_pos ha]
theorem tr_old {w : WC} {a : Nat} (ha : ¬ a < OLDB) (h13 : ¬ a = OLDB + 13) : tr w (.ref a) = .ref (w.2.2.2.1 (a - OLDB)) := by
  show (if a = OLDB + 13 then w.2.2.2.2.1 else Value.ref (if a < OLDB then w.1 + a else w.2.2.2.1 (a - OLDB))) = _
  rw [if_neg h13, if_neg ha]
theorem inB_in {i : Int32} {n : Nat} (h : inB i n = true) : vp_in i n := by
  obtain ⟨h1, h2⟩ := (Bool.and_eq_true _ _).mp h
  have h1 := of_decide_eq_true h1
  have h2 := of_decide_eq_true h2
  rintro (q | q)
  · exact h1 q
  · omega
theorem cfa_0 (w : WC) (h : Hp) (a : Nat) : cfa w h a 0 = .inl (h.2.1 a) := rfl
theorem cfa_2 (w : WC) (h : Hp) (a : Nat) : cfa w h a 2 = .inl (h.2.1 a) := rfl
theorem cfa_1 (w : WC) (h : Hp) (a : Nat) : cfa w h a 1 = .inr (.inl (h.2.2.1 a)) := rfl
theorem cfa_3 (w : WC) (h : Hp) (a : Nat) : cfa w h a 3 = .inr (.inr (.inr (.inr (fun i => (h.2.2.2 a i).map (fun b => w.1 + b))))) := rfl
theorem cfa_4 (w : WC) (h : Hp) (a : Nat) : cfa w h a 4 = .inr (.inr (.inr (.inr (fun i => (h.2.2.2 a i).map (fun b => w.1 + b))))) := rfl
theorem ud_ne {α : Type} (f : Nat → Nat → α) {a b i : Nat} (v : α) (h : b ≠ a) : ud f a i v b = f b := by
  unfold ud
  rw [if_neg h]
theorem ud_self {α : Type} (f : Nat → Nat → α) (a i : Nat) (v : α) : ud f a i v a = fun j => if j = i then v else f a j := by
  unfold ud
  rw [if_pos rfl]
theorem ud_at {α : Type} (f : Nat → Nat → α) (a i : Nat) (v : α) : ud f a i v a i = v := by
  rw [ud_self]
  exact if_pos rfl
theorem ud_off {α : Type} (f : Nat → Nat → α) (a : Nat) {i j : Nat} (v : α) (h : j ≠ i) : ud f a i v a j = f a j := by
  rw [ud_self]
  exact if_neg h
theorem clr_ne {α : Type} (f : Nat → Nat → α) {a b : Nat} (v : α) (h : b ≠ a) : clr f a v b = f b := by
  unfold clr
  rw [if_neg h]
theorem clr_self {α : Type} (f : Nat → Nat → α) (a : Nat) (v : α) : clr f a v a = fun _ => v := by
  unfold clr
  rw [if_pos rfl]
theorem cel_d {w : WC} {h : Hp} {a : Nat} {x : Nat → Nat → Int32} (hd : x a = h.2.1 a) (s : Sh) : cel w (h.1, x, h.2.2.1, h.2.2.2) a s = cel w h a s := cel_push (h := h) (a := a) (h' := (h.1, x, h.2.2.1, h.2.2.2)) hd rfl rfl s
theorem cel_e {w : WC} {h : Hp} {a : Nat} {x : Nat → Nat → Int64} (hd : x a = h.2.2.1 a) (s : Sh) : cel w (h.1, h.2.1, x, h.2.2.2) a s = cel w h a s := cel_push (h := h) (a := a) (h' := (h.1, h.2.1, x, h.2.2.2)) rfl hd rfl s
theorem cel_r {w : WC} {h : Hp} {a : Nat} {x : Nat → Nat → Option Nat} (hd : x a = h.2.2.2 a) (s : Sh) : cel w (h.1, h.2.1, h.2.2.1, x) a s = cel w h a s := cel_push (h := h) (a := a) (h' := (h.1, h.2.1, h.2.2.1, x)) rfl rfl hd s
section HR
variable {w : WC} {p : Program} {l : Launch} {e : Env} {R : Room} {s : State} {m : MethodId} {args : Array Value} {below : List Frame} {meth : Method} {c : Code} {H : Heap} {locs : List Loc} {cells slots : Nat} {Q : State → Prop}
variable {y pc : Nat} {st : List Value} {ls : Array Slot} {h : Hp} {cc : ByteArray}
theorem z_iast (hx : p.tables.exec = Jvm.exec) (hb : c.code = cc) (hK : va_K w.2.1 vwCl (tysW w) s) (hW : WdH w s h H locs) {a n : Nat} {j x : Int32} (ha : h.1[a]? = some (.inl (0, n))) (hin : inB j n = true) (hd : decode cc pc = .ok (.iastore, 1))
    (kk : ∀ H1 locs1, WdH w s (h.1, ud h.2.1 a j.toNatClampNeg x, h.2.2.1, h.2.2.2) H1 locs1 → W p l e R s m args below meth c H1 locs1 cells slots Q (F0 m (pc + 1) ls st)) :
    W p l e R s m args below meth c H locs cells slots Q (F0 m pc ls (.int x :: .int j :: .ref (w.1 + a) :: st)) := by
  have hg := wsH_get (w := w) ha
  refine W.iast hx hb (hW.2.1 a _ hg) ((hK.2 0 _ rfl).1 n (fun j => .int (h.2.1 a j))) (fun q => by cases q) (by show ¬ (j < 0 ∨ (arrV _ _ _).slots.size ≤ _); rw [arrV_size]; exact inB_in hin) rfl rfl hd fun H1 e1 z oq => ?_
  refine kk H1 _ (hW.upd ha rfl (fun b s' hb' => cel_d (ud_ne _ _ hb') s') ?_ z oq)
  show H1[w.1 + a]? = some (vp_cell _ (n, cfa w _ a 0))
  rw [e1, cfa_0, cfa_0, vp_cell_i, vp_cell_i, arrV_store]
  congr 2
  funext q
  by_cases hq : q = j.toNatClampNeg
  · subst hq
    simp [updV, ud]
  · simp [updV, ud, hq]
theorem z_zast (hx : p.tables.exec = Jvm.exec) (hb : c.code = cc) (hK : va_K w.2.1 vwCl (tysW w) s) (hW : WdH w s h H locs) {a n : Nat} {j x : Int32} (hx01 : x = 0 ∨ x = 1) (ha : h.1[a]? = some (.inl (2, n))) (hin : inB j n = true) (hd : decode cc pc = .ok (.bastore, 1))
    (kk : ∀ H1 locs1, WdH w s (h.1, ud h.2.1 a j.toNatClampNeg x, h.2.2.1, h.2.2.2) H1 locs1 → W p l e R s m args below meth c H1 locs1 cells slots Q (F0 m (pc + 1) ls st)) :
    W p l e R s m args below meth c H locs cells slots Q (F0 m pc ls (.int x :: .int j :: .ref (w.1 + a) :: st)) := by
  have hg := wsH_get (w := w) ha
  have hn : narrow .boolean (.int x) = .int x := by rcases hx01 with rfl | rfl <;> decide
  refine W.zast hx hb (hW.2.1 a _ hg) ((hK.2 2 _ rfl).1 n (fun j => .int (h.2.1 a j))) (fun q => by cases q) (by show ¬ (j < 0 ∨ (arrV _ _ _).slots.size ≤ _); rw [arrV_size]; exact inB_in hin) rfl rfl hd fun H1 e1 z oq => ?_
  refine kk H1 _ (hW.upd ha rfl (fun b s' hb' => cel_d (ud_ne _ _ hb') s') ?_ z oq)
  show H1[w.1 + a]? = some (vp_cell _ (n, cfa w _ a 2))
  rw [e1, hn, cfa_2, cfa_2, vp_cell_i, vp_cell_i, arrV_store]
  congr 2
  funext q
  by_cases hq : q = j.toNatClampNeg
  · subst hq
    simp [updV, ud]
  · simp [updV, ud, hq]
theorem z_last (hx : p.tables.exec = Jvm.exec) (hb : c.code = cc) (hK : va_K w.2.1 vwCl (tysW w) s) (hW : WdH w s h H locs) {a n : Nat} {j : Int32} {x : Int64} (ha : h.1[a]? = some (.inl (1, n))) (hin : inB j n = true) (hd : decode cc pc = .ok (.lastore, 1))
    (kk : ∀ H1 locs1, WdH w s (h.1, h.2.1, ud h.2.2.1 a j.toNatClampNeg x, h.2.2.2) H1 locs1 → W p l e R s m args below meth c H1 locs1 cells slots Q (F0 m (pc + 1) ls st)) :
    W p l e R s m args below meth c H locs cells slots Q (F0 m pc ls (.long x :: .int j :: .ref (w.1 + a) :: st)) := by
  have hg := wsH_get (w := w) ha
  refine W.last hx hb (hW.2.1 a _ hg) ((hK.2 1 _ rfl).1 n (fun j => .long (h.2.2.1 a j))) (fun q => by cases q) (by show ¬ (j < 0 ∨ (arrV _ _ _).slots.size ≤ _); rw [arrV_size]; exact inB_in hin) rfl rfl hd fun H1 e1 z oq => ?_
  refine kk H1 _ (hW.upd ha rfl (fun b s' hb' => cel_e (ud_ne _ _ hb') s') ?_ z oq)
  show H1[w.1 + a]? = some (vp_cell _ (n, cfa w _ a 1))
  rw [e1, cfa_1, cfa_1, vp_cell_l, vp_cell_l, arrV_store]
  congr 2
  funext q
  by_cases hq : q = j.toNatClampNeg
  · subst hq
    simp [updV, ud]
  · simp [updV, ud, hq]
theorem z_aast (hx : p.tables.exec = Jvm.exec) (hb : c.code = cc) (hK : va_K w.2.1 vwCl (tysW w) s) (hW : WdH w s h H locs) {a b n : Nat} {j : Int32} (ha : h.1[a]? = some (.inl (3, n))) (hbs : h.1[b]? = some (.inr 5)) (hin : inB j n = true) (hd : decode cc pc = .ok (.aastore, 1))
    (kk : ∀ H1 locs1, WdH w s (h.1, h.2.1, h.2.2.1, ud h.2.2.2 a j.toNatClampNeg (some b)) H1 locs1 → W p l e R s m args below meth c H1 locs1 cells slots Q (F0 m (pc + 1) ls st)) :
    W p l e R s m args below meth c H locs cells slots Q (F0 m pc ls (.ref (w.1 + b) :: .int j :: .ref (w.1 + a) :: st)) := by
  have hg := wsH_get (w := w) ha
  have hv := wsH_get (w := w) hbs
  have hin' := inB_in hin
  have hlt : j.toNatClampNeg < n := Nat.not_le.mp fun q => hin' (Or.inr q)
  have h0 : ¬ j < 0 := fun q => hin' (Or.inl q)
  obtain ⟨r', hr', cellV, g1, g2, g3, -⟩ := hW.2.1 b _ hv
  have hc : vwCl[5]? = some (vwC 5, vwT 5, vwN 5) := rfl
  have hcls := (hK.1 5 _ hc).2
  obtain ⟨kA, comp, k1, k2, k3, -⟩ := (hK.2 3 _ rfl).2
  have hcomp : comp = w.2.1.1 5 := Option.some.inj (k3.symm.trans hcls.1)
  subst hcomp
  obtain ⟨kC, hkC, -⟩ := hcls.2
  refine W.aast hx hb (hW.2.1 a _ hg) (fun q h => by cases h) (fun h => by cases h) k1 k2 rfl hkC ⟨h0, by show _ < (arrV _ _ _).slots.size; rw [arrV_size]; exact hlt⟩ g1 (fun q h => by rw [g3] at h; cases h) (by rw [g2]; exact hkC) (by rw [g2]; exact va_assign hcls) rfl rfl hd fun H1 e1 z oq => ?_
  refine kk H1 _ (hW.upd ha rfl (fun b s' hb' => cel_r (ud_ne _ _ hb') s') ?_ z oq)
  show H1[w.1 + a]? = some (vp_cell _ (n, cfa w _ a 3))
  rw [e1]
  show some ((vp_cell _ (n, cfa w h a 3)).setSlot _ _) = _
  rw [cfa_3, cfa_3, vp_cell_q, vp_cell_q, arrV_store]
  congr 2
  funext q
  by_cases hq : q = j.toNatClampNeg
  · subst hq
    simp [updV, ud, va_rf]
  · simp [updV, ud, hq]
end HR
