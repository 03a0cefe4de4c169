/-! What a yard that was read is: its parts stand well. -/
/-- a test's mark -/
theorem testP_sh {T : Nat → Int} {n a b : Nat} {s : Int} (hn : testP T n a = (b, some s)) : 0 ≤ s ∧ s < 6000 ∧ s / 100 % 10 ≤ 2 := by
  unfold testP at hn
  split at hn
  · cases hn
  · rename_i h1
    split at hn
    · cases hn
    · rename_i h2
      split at hn
      · cases hn
      · rename_i v b' e
        cases hn
        have := numP_le e
        have := plc_rng (nxP T n a)
        omega
/-- how many values stand behind these marks, h before; none of it beyond 60, and all are marks -/
def pk : List Int → Nat → Option Nat
  | [], h => some h
  | s :: l, h => if s = -33 then (if 1 ≤ h then pk l h else none) else if s = -38 ∨ s = -124 then (if 2 ≤ h then pk l (h - 1) else none) else (if h < 60 ∧ 0 ≤ s ∧ s < 6000 ∧ s / 100 % 10 ≤ 2 then pk l (h + 1) else none)
theorem pk_app : ∀ (l m : List Int) (h : Nat), pk (l ++ m) h = (pk l h).bind (pk m)
  | [], m, h => rfl
  | s :: l, m, h => by
    show pk (s :: (l ++ m)) h = _
    unfold pk
    split
    · split
      · exact pk_app l m h
      · rfl
    · split
      · split
        · exact pk_app l m (h - 1)
        · rfl
      · split
        · exact pk_app l m (h + 1)
        · rfl
def KH (md d : Nat) : Nat := 2 * (4 - d) + 1 + (if md = 0 then 0 else if md = 1 then 1 else if md = 2 then 2 else if md = 3 then 1 else 2)
def st0 (md : Nat) : Nat := if 3 ≤ md then 1 else 0
theorem cP_pk (T : Nat → Int) (n : Nat) : ∀ (k md d a : Nat) (m : List Int), d ≤ 4 → md ≤ 4 → (cqP T n k md d a m).1 = true → ∃ e, (cqP T n k md d a m).2.2 = m ++ e ∧ ∀ c, c + KH md d ≤ 60 → pk e (c + st0 md) = some (c + 1)
  | 0, md, d, a, m, hd, hmd, h => by
    unfold cqP at h
    simp at h
  | k + 1, 0, d, a, m, hd, hmd, h => by
    unfold cqP at h ⊢
    split at h
    · rename_i c
      rw [if_pos c]
      obtain ⟨e, i1, i2⟩ := cP_pk T n k 0 (d + 1) (a + 1) m (by omega) (by decide) h
      refine ⟨e ++ [-33], by show _ ++ [-33] = _; rw [i1, List.append_assoc], fun x hx => ?_⟩
      rw [pk_app, i2 x (by unfold KH at hx ⊢; simp only [if_true] at hx ⊢; omega)]
      show pk [-33] (x + 1) = _
      unfold pk
      rw [if_pos rfl, if_pos (by omega)]
      rfl
    · rename_i c0
      rw [if_neg c0]
      split at h
      · rename_i c
        rw [if_pos c]
        split at h
        · rename_i c2
          rw [if_pos c2]
          obtain ⟨e, i1, i2⟩ := cP_pk T n k 2 (d + 1) (a + 1) m (by omega) (by decide) c2.1
          exact ⟨e, i1, fun x hx => i2 x (by unfold KH at hx ⊢; simp only [if_true] at hx; rw [if_neg (by decide), if_neg (by decide), if_pos rfl]; omega)⟩
        · simp at h
      · rename_i c
        rw [if_neg c]
        split at h
        · simp at h
        · rename_i b s ht
          have hs := testP_sh ht
          refine ⟨[s], rfl, fun x hx => ?_⟩
          unfold KH at hx
          show pk [s] (x + 0) = _
          unfold pk
          rw [if_neg (by omega), if_neg (by omega), if_pos ⟨by omega, hs⟩]
          rfl
  | k + 1, 1, d, a, m, hd, hmd, h => by
    unfold cqP at h ⊢
    split at h
    · rename_i c
      rw [if_pos c]
      obtain ⟨e, i1, i2⟩ := cP_pk T n k 0 d a m hd (by decide) c
      obtain ⟨e', j1, j2⟩ := cP_pk T n k 3 d _ _ hd (by decide) h
      refine ⟨e ++ e', by rw [j1, i1, List.append_assoc], fun x hx => ?_⟩
      unfold KH at hx
      simp only [show ¬ (1 : Nat) = 0 by decide, if_true, if_false] at hx
      have := i2 x (by unfold KH; simp only [if_true]; omega)
      have z := j2 x (by unfold KH; rw [if_neg (by decide), if_neg (by decide), if_neg (by decide), if_pos rfl]; omega)
      rw [pk_app]
      show (pk e (x + 0)).bind (pk e') = _
      have q0 : pk e (x + 0) = some (x + 1) := this
      rw [q0]
      exact z
    · rename_i c
      exact absurd h c
  | k + 1, 2, d, a, m, hd, hmd, h => by
    unfold cqP at h ⊢
    split at h
    · rename_i c
      rw [if_pos c]
      obtain ⟨e, i1, i2⟩ := cP_pk T n k 1 d a m hd (by decide) c
      obtain ⟨e', j1, j2⟩ := cP_pk T n k 4 d _ _ hd (by decide) h
      refine ⟨e ++ e', by rw [j1, i1, List.append_assoc], fun x hx => ?_⟩
      unfold KH at hx
      rw [if_neg (by decide), if_neg (by decide), if_pos rfl] at hx
      have q0 : pk e (x + 0) = some (x + 1) := i2 x (by unfold KH; rw [if_neg (by decide), if_pos rfl]; omega)
      have z := j2 x (by unfold KH; rw [if_neg (by decide), if_neg (by decide), if_neg (by decide), if_neg (by decide)]; omega)
      rw [pk_app]
      show (pk e (x + 0)).bind (pk e') = _
      rw [q0]
      exact z
    · rename_i c
      exact absurd h c
  | k + 1, 3, d, a, m, hd, hmd, h => by
    unfold cqP at h ⊢
    split at h
    · rename_i x
      rw [if_pos x]
      split at h
      · rename_i c
        rw [if_pos c]
        obtain ⟨e, i1, i2⟩ := cP_pk T n k 0 d (a + 1) m hd (by decide) c
        obtain ⟨e', j1, j2⟩ := cP_pk T n k 3 d _ _ hd (by decide) h
        refine ⟨e ++ ([-38] ++ e'), by rw [j1, i1, List.append_assoc, List.append_assoc], fun y hy => ?_⟩
        unfold KH at hy
        rw [if_neg (by decide), if_neg (by decide), if_neg (by decide), if_pos rfl] at hy
        have q0 : pk e (y + 1 + 0) = some (y + 1 + 1) := i2 (y + 1) (by unfold KH; rw [if_pos rfl]; omega)
        have z : pk e' (y + 1) = some (y + 1) := j2 y (by unfold KH; rw [if_neg (by decide), if_neg (by decide), if_neg (by decide), if_pos rfl]; omega)
        rw [pk_app]
        show (pk e (y + 1 + 0)).bind (pk ([-38] ++ e')) = _
        rw [q0]
        show pk (-38 :: e') (y + 1 + 1) = _
        unfold pk
        rw [if_neg (by decide), if_pos (by decide), if_pos (by omega)]
        exact z
      · rename_i c
        exact absurd h c
    · rename_i x
      rw [if_neg x]
      exact ⟨[], (List.append_nil m).symm, fun y _ => rfl⟩
  | k + 1, 4, d, a, m, hd, hmd, h => by
    unfold cqP at h ⊢
    split at h
    · rename_i x
      rw [if_pos x]
      split at h
      · rename_i c
        rw [if_pos c]
        obtain ⟨e, i1, i2⟩ := cP_pk T n k 1 d (a + 1) m hd (by decide) c
        obtain ⟨e', j1, j2⟩ := cP_pk T n k 4 d _ _ hd (by decide) h
        refine ⟨e ++ ([-124] ++ e'), by rw [j1, i1, List.append_assoc, List.append_assoc], fun y hy => ?_⟩
        unfold KH at hy
        rw [if_neg (by decide), if_neg (by decide), if_neg (by decide), if_neg (by decide)] at hy
        have q0 : pk e (y + 1 + 0) = some (y + 1 + 1) := i2 (y + 1) (by unfold KH; rw [if_neg (by decide), if_pos rfl]; omega)
        have z : pk e' (y + 1) = some (y + 1) := j2 y (by unfold KH; rw [if_neg (by decide), if_neg (by decide), if_neg (by decide), if_neg (by decide)]; omega)
        rw [pk_app]
        show (pk e (y + 1 + 0)).bind (pk ([-124] ++ e')) = _
        rw [q0]
        show pk (-124 :: e') (y + 1 + 1) = _
        unfold pk
        rw [if_neg (by decide), if_pos (by decide), if_pos (by omega)]
        exact z
      · rename_i c
        exact absurd h c
    · rename_i x
      rw [if_neg x]
      exact ⟨[], (List.append_nil m).symm, fun y _ => rfl⟩
  | k + 1, md + 5, d, a, m, hd, hmd, h => by omega
theorem clP_pk {T : Nat → Int} {n a : Nat} {m : List Int} (hok : (clP T n a m).1 = true) : ∃ e, (clP T n a m).2.2.1 = m ++ e ∧ pk e 0 = some 1 := by
  unfold clP at hok ⊢
  by_cases c1 : (wdP T n a).1 < 0
  · rw [if_pos c1] at hok
    simp at hok
  · rw [if_neg c1] at hok ⊢
    by_cases c2 : nxP T n (wdP T n a).2 = 32
    · rw [if_pos c2] at hok ⊢
      cases hnum : numP T n ((wdP T n a).2 + 1) with
      | none =>
        rw [hnum] at hok
        simp at hok
      | some q =>
        obtain ⟨v, b⟩ := q
        rw [hnum] at hok
        simp only at hok ⊢
        by_cases c3 : nxP T n b = 32
        · rw [if_pos c3] at hok ⊢
          obtain ⟨e, i1, i2⟩ := cP_pk T n 609 2 0 (b + 1) m (by decide) (by decide) hok
          exact ⟨e, i1, i2 0 (by decide)⟩
        · rw [if_neg c3] at hok
          simp at hok
    · rw [if_neg c2] at hok
      simp at hok
/-- the clauses and marks of a yard stand well -/
def WFC (cs : List Cl) (m : List Int) : Prop := (∀ c, c < cs.length → (cs.getD c cl0).2.2.1 = (if c = 0 then 0 else (cs.getD (c - 1) cl0).2.2.2) ∧ 0 ≤ (cs.getD c cl0).1 ∧ (cs.getD c cl0).1 ≤ 2 ∧ 0 ≤ (cs.getD c cl0).2.1 ∧ (cs.getD c cl0).2.1 ≤ 99 ∧ ∃ pre e post, m = pre ++ (e ++ post) ∧ pre.length = (cs.getD c cl0).2.2.1 ∧ (cs.getD c cl0).2.2.1 + e.length = (cs.getD c cl0).2.2.2 ∧ pk e 0 = some 1) ∧ m.length = (if cs.length = 0 then 0 else (cs.getD (cs.length - 1) cl0).2.2.2)
theorem WFC_0 : WFC [] [] := ⟨fun c hc => absurd hc (Nat.not_lt_zero c), rfl⟩
theorem WFC_sn {cs : List Cl} {m e : List Int} {w v : Int} (h : WFC cs m) (h1 : 0 ≤ w) (h2 : w ≤ 2) (h3 : 0 ≤ v) (h4 : v ≤ 99) (he : pk e 0 = some 1) : WFC (snC cs m (m ++ e) w v) (m ++ e) := by
  have ll : (snC cs m (m ++ e) w v).length = cs.length + 1 := by unfold snC; rw [List.length_append, List.length_singleton]
  have lst : (snC cs m (m ++ e) w v).getD cs.length cl0 = (w, v, m.length, (m ++ e).length) := by unfold snC; exact getC2
  have old : ∀ c, c < cs.length → (snC cs m (m ++ e) w v).getD c cl0 = cs.getD c cl0 := fun c hc => by unfold snC; exact getC1 hc
  refine ⟨fun c hc => ?_, ?_⟩
  · rw [ll] at hc
    by_cases d : c = cs.length
    · subst d
      rw [lst]
      refine ⟨?_, h1, h2, h3, h4, m, e, [], by rw [List.append_nil], rfl, by show m.length + e.length = (m ++ e).length; rw [List.length_append], he⟩
      show m.length = _
      rw [h.2]
      by_cases z : cs.length = 0
      · rw [if_pos z, if_pos z]
      · rw [if_neg z, if_neg z, old _ (by omega)]
    · obtain ⟨i1, i2, i3, i4, i5, pre, e', post, j1, j2, j3, j4⟩ := h.1 c (by omega)
      rw [old c (by omega)]
      refine ⟨?_, i2, i3, i4, i5, pre, e', post ++ e, by rw [j1]; simp [List.append_assoc], j2, j3, j4⟩
      rw [i1]
      by_cases z : c = 0
      · rw [if_pos z, if_pos z]
      · rw [if_neg z, if_neg z, old _ (by omega)]
  · rw [ll, if_neg (by omega), show cs.length + 1 - 1 = cs.length by omega, lst]
theorem gtP_wf (T : Nat → Int) (n : Nat) : ∀ (k a : Nat) (cs : List Cl) (m : List Int), a ≤ n → m.length ≤ a → WFC cs m → (gtP T n k a cs m).1 = true → WFC (gtP T n k a cs m).2.2.1 (gtP T n k a cs m).2.2.2 ∧ (gtP T n k a cs m).2.2.2.length ≤ n
  | 0, a, cs, m, ha, hm, hw, h => by
    unfold gtP at h
    simp at h
  | k + 1, a, cs, m, ha, hm, hw, h => by
    rw [gt_af] at h ⊢
    by_cases c : (clP T n a m).1 = true
    · rw [if_pos c] at h ⊢
      have le := clP_ok ha c
      obtain ⟨e, p1, p2⟩ := clP_pk c
      generalize clP T n a m = r at *
      have w2 : WFC (snC cs m r.2.2.1 r.2.2.2.1 r.2.2.2.2) r.2.2.1 := by
        rw [p1]
        exact WFC_sn hw le.2.2.2.1 le.2.2.2.2.1 le.2.2.2.2.2.1 le.2.2.2.2.2.2 p2
      have l3 : r.2.2.1.length ≤ n := by omega
      unfold afP at h ⊢
      by_cases x : r.2.1 = n
      · rw [if_pos x] at h ⊢
        exact ⟨w2, l3⟩
      · rw [if_neg x] at h ⊢
        by_cases y : k = 0
        · rw [if_pos y] at h
          simp at h
        · rw [if_neg y] at h ⊢
          by_cases z : nxP T n r.2.1 = 59
          · rw [if_pos z] at h ⊢
            have hl := nx_lt2 z (by decide)
            exact gtP_wf T n k (r.2.1 + 1) _ _ (by omega) (by omega) w2 h
          · rw [if_neg z] at h
            simp at h
    · rw [if_neg c] at h
      simp at h
/-! What both sides hold alike of texts and yards. -/
/-- yard q of the class is these clauses and marks -/
def RY (q : Nat) (h : Hp) (cs : List Cl) (m : List Int) : Prop := (h.2.1 q 0).toInt = (cs.length : Int) ∧ (∀ c, c < cs.length → (h.2.1 (q + 1) c).toInt = (cs.getD c cl0).1 ∧ (h.2.1 (q + 2) c).toInt = (cs.getD c cl0).2.1 ∧ (h.2.1 (q + 3) c).toInt = ((cs.getD c cl0).2.2.2 : Int)) ∧ ∀ j, j < m.length → (h.2.1 (q + 4) j).toInt = trM (m.getD j 0)
def YE (i : Nat) (h : Hp) : Prop := ∃ cs m, RY (63 + 5 * i) h cs m ∧ YM i h cs m ∧ WFC cs m ∧ cs.length ≤ 10 ∧ m.length ≤ 100
theorem yq_i {i : Nat} (hi : i < 6) : YQ (63 + 5 * i) := by
  unfold YQ
  simp only [List.mem_cons, List.not_mem_nil, or_false]
  omega
def EQC (h : Hp) : Prop := h.2.1 44 1 = h.2.1 93 11 ∧ (∀ j, h.2.1 45 j = h.2.1 100 j) ∧ h.2.1 0 6 = h.2.1 93 9 ∧ (∀ i : Nat, i < (h.2.1 93 9).toInt.toNat → YE i h) ∧ h.2.1 1 12 = h.2.1 93 10 ∧ h.2.1 9 12 = h.2.1 93 45 ∧ LTR h
/-- all cells of the yards of both sides -/
def SYA : List (Nat × Nat) := [(101, 999), (102, 999), (103, 999), (104, 999), (105, 999), (106, 999), (63, 0), (64, 999), (65, 999), (66, 999), (67, 999), (68, 0), (69, 999), (70, 999), (71, 999), (72, 999), (73, 0), (74, 999), (75, 999), (76, 999), (77, 999), (78, 0), (79, 999), (80, 999), (81, 999), (82, 999), (83, 0), (84, 999), (85, 999), (86, 999), (87, 999), (88, 0), (89, 999), (90, 999), (91, 999), (92, 999)]
theorem sya_0 : ∀ i, i < 6 → inW SYA (63 + 5 * i) 0 = true := by decide
theorem sya_j {i j k : Nat} (hi : i < 6) (hj : 1 ≤ j ∧ j ≤ 4) : inW SYA (63 + 5 * i + j) k = true := by
  have h : ∀ i, i < 6 → ∀ j, j < 5 → 1 ≤ j → inW SYA (63 + 5 * i + j) 999 = true := by decide
  exact inW_arr (h i hi j (by omega) hj.1) k
theorem YE_fr {i : Nat} {h h' : Hp} (hi : i < 6) (he : ∀ a k, inW SYA a k = true → h'.2.1 a k = h.2.1 a k) (hy : YE i h) : YE i h' := by
  obtain ⟨cs, m, ⟨r1, r2, r3⟩, ⟨y1, y2, y3⟩, w⟩ := hy
  have s : ∀ a, (a = 101 ∨ a = 102 ∨ a = 103 ∨ a = 104 ∨ a = 105 ∨ a = 106) → ∀ k, h'.2.1 a k = h.2.1 a k := fun a ha k => he a k (by rcases ha with rfl | rfl | rfl | rfl | rfl | rfl <;> simp [inW, SYA])
  refine ⟨cs, m, ⟨by rw [he _ _ (sya_0 i hi)]; exact r1, fun c hc => ?_, fun j hj => by rw [he _ _ (sya_j hi (by omega))]; exact r3 j hj⟩, ⟨by rw [s 101 (by omega)]; exact y1, fun c hc => ?_, fun j hj => by rw [s 106 (by omega)]; exact y3 j hj⟩, w⟩
  · rw [he _ _ (sya_j hi (by omega : 1 ≤ 1 ∧ 1 ≤ 4)), he _ _ (sya_j hi (by omega : 1 ≤ 2 ∧ 2 ≤ 4)), he _ _ (sya_j hi (by omega : 1 ≤ 3 ∧ 3 ≤ 4))]
    exact r2 c hc
  · rw [s 102 (by omega), s 103 (by omega), s 104 (by omega), s 105 (by omega)]
    exact y2 c hc
def SUPC : List (Nat × Nat) := SYA ++ [(44, 1), (93, 11), (45, 999), (100, 999), (0, 6), (93, 9), (1, 12), (93, 10), (9, 12), (93, 45), (108, 999)]
theorem EQC_f {W : List (Nat × Nat)} {h h' : Hp} (hh : HI h) (hd : disW SUPC W = true) (hf : frm W h h') (e : EQC h) : EQC h' := by
  have g : ∀ a k, inW SUPC a k = true → h'.2.1 a k = h.2.1 a k := fun a k hs => (hf a k (dis_in hd hs)).1
  have gy : ∀ a k, inW SYA a k = true → h'.2.1 a k = h.2.1 a k := fun a k hs => g a k (by unfold SUPC; rw [inW, List.any_append]; simp only [Bool.or_eq_true]; exact Or.inl hs)
  have y6 := hh.iv 93 9 (r := (0, 6)) rfl
  simp only at y6
  obtain ⟨e1, e2, e3, e4, e5, e6, e7⟩ := e
  refine ⟨by rw [g 44 1 rfl, g 93 11 rfl]; exact e1, fun j => by rw [g 45 j (by simp [inW, SUPC, SYA]), g 100 j (by simp [inW, SUPC, SYA])]; exact e2 j, by rw [g 0 6 rfl, g 93 9 rfl]; exact e3, fun i hi => ?_, by rw [g 1 12 rfl, g 93 10 rfl]; exact e5, by rw [g 9 12 rfl, g 93 45 rfl]; exact e6, fun j hj => by rw [g 108 j (by simp [inW, SUPC, SYA])]; exact e7 j hj⟩
  rw [g 93 9 rfl] at hi
  exact YE_fr (by omega) gy (e4 i hi)
def INVC (h : Hp) : Prop := INVE h ∧ EQC h
