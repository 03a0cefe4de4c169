/-! A clause that is read stands well. -/
def dpt : List Int → Nat → Option Nat
  | [], n => some n
  | s :: l, n => if s = -33 then (if 1 ≤ n then dpt l n else none) else if s < 0 then (if 2 ≤ n then dpt l (n - 1) else none) else dpt l (n + 1)
theorem dpt_app : ∀ (l m : List Int) (n : Nat), dpt (l ++ m) n = (dpt l n).bind (dpt m)
  | [], m, n => rfl
  | s :: l, m, n => by
    rw [List.cons_append, dpt, dpt]
    split
    · split
      · exact dpt_app l m n
      · rfl
    · split
      · split
        · exact dpt_app l m (n - 1)
        · rfl
      · exact dpt_app l m (n + 1)
def bops (ws : List Int) : Nat := (ws.filter (fun w => decide (w = 38) || decide (w = 124))).length
theorem bops_cons (w : Int) (ws : List Int) : bops (w :: ws) = (if w = 38 ∨ w = 124 then 1 else 0) + bops ws := by
  unfold bops
  rw [List.filter_cons]
  by_cases c : w = 38 ∨ w = 124
  · rw [if_pos c, if_pos (by simpa using c)]
    simp
    omega
  · rw [if_neg c, if_neg (by simpa using c)]
    omega
theorem whl_dp : ∀ (ws sg E : List Int) (d : Nat), dpt E 0 = some (d + 1) → ∃ E', (whlP ws (sg ++ E)).2 = sg ++ E' ∧ dpt E' 0 = some (d + 1) ∧ bops (whlP ws (sg ++ E)).1 = bops ws
  | [], sg, E, d, h => ⟨E, rfl, h, rfl⟩
  | w :: ws, sg, E, d, h => by
    rw [whlP]
    by_cases c : w = 33
    · rw [if_pos c, List.append_assoc]
      have h2 : dpt (E ++ [-33]) 0 = some (d + 1) := by
        rw [dpt_app, h]
        show dpt [-33] (d + 1) = _
        rw [dpt, if_pos rfl, if_pos (by omega)]
        rfl
      obtain ⟨E', a1, a2, a3⟩ := whl_dp ws sg (E ++ [-33]) d h2
      refine ⟨E', a1, a2, ?_⟩
      rw [a3, bops_cons, if_neg (by omega)]
      omega
    · rw [if_neg c]
      exact ⟨E, rfl, h, rfl⟩
theorem set_dp (s : Int) : ∀ (ws sg E : List Int), dpt E 0 = some (bops ws + 1) → ∃ E', (setP s ws (sg ++ E)).2 = sg ++ E' ∧ dpt E' 0 = some (bops (setP s ws (sg ++ E)).1 + 1)
  | [], sg, E, h => ⟨E, rfl, h⟩
  | w :: ws, sg, E, h => by
    rw [setP]
    by_cases c : w = 38 ∨ (w = 124 ∧ ¬ s = 38)
    · rw [if_pos c, List.append_assoc]
      have hb := bops_cons w ws
      rw [if_pos (by omega)] at hb
      refine set_dp s ws sg (E ++ [-w]) ?_
      rw [dpt_app, h, hb]
      show dpt [-w] (1 + bops ws + 1) = _
      rw [dpt, if_neg (by omega), if_pos (by omega), if_pos (by omega)]
      show some (1 + bops ws + 1 - 1) = _
      congr 1
      omega
    · rw [if_neg c]
      exact ⟨E, rfl, h⟩
theorem testP_nn {T : Nat → Int} {n a b : Nat} {s : Int} (hn : testP T n a = (b, some s)) : 0 ≤ s := by
  unfold testP at hn
  split at hn
  · cases hn
  · rename_i h1
    split at hn
    · cases hn
    · rename_i h2
      split at hn
      · cases hn
      · rename_i v b' e
        cases hn
        have := numP_le e
        omega
theorem nx_lt {T : Nat → Int} {n a : Nat} (h : nxP T n a ≠ -1) : a < n := by
  unfold nxP at h
  split at h
  · assumption
  · exact absurd rfl h
theorem eP_inv (T : Nat → Int) (n : Nat) (sg : List Int) : ∀ (k a : Nat) (ws E : List Int) (wt : Bool) (a' : Nat) (ws' sg' : List Int), a ≤ n → (sg ++ E).length + ws.length ≤ a → WSOK ws → dpt E 0 = some (bops ws + (if wt = true then 0 else 1)) → eP T n k a ws (sg ++ E) wt = (true, a', ws', sg') →
    ws' = [] ∧ a' ≤ n ∧ sg'.length ≤ a' ∧ ∃ E', sg' = sg ++ E' ∧ dpt E' 0 = some 1
  | 0, a, ws, E, wt, a', ws', sg', _, _, _, _, h => by
    rw [eP] at h
    cases h
  | k + 1, a, ws, E, true, a', ws', sg', hn, hl, hok, hd, h => by
    rw [eP] at h
    split at h
    · rename_i hx
      split at h
      · cases h
      · have lt := nx_lt (T := T) (n := n) (a := a) (by omega)
        refine eP_inv T n sg k (a + 1) _ E true a' ws' sg' (by omega) (by rw [List.length_cons]; omega) ?_ ?_ h
        · intro x hx2
          rcases List.mem_cons.mp hx2 with q | q
          · omega
          · exact hok x q
        · rw [bops_cons, if_neg (by omega)]
          simpa using hd
    · cases hts : testP T n a with
      | mk b o =>
        rw [hts] at h
        cases o with
        | none => cases h
        | some s =>
          simp only at h
          have tl := testP_le hts
          have nn := testP_nn hts
          have hd1 : dpt (E ++ [s]) 0 = some (bops ws + 1) := by
            rw [dpt_app, hd]
            show dpt [s] (bops ws + 0) = _
            rw [dpt, if_neg (by omega), if_neg (by omega)]
            rfl
          obtain ⟨E', e1, e2, e3⟩ := whl_dp ws sg (E ++ [s]) (bops ws) hd1
          rw [← List.append_assoc] at e1 e3
          have wl := whl_len ws ((sg ++ E) ++ [s])
          rw [e1] at h wl
          simp only [List.length_append, List.length_singleton] at wl hl
          exact eP_inv T n sg k b _ E' false a' ws' sg' (by omega) (by simp only [List.length_append]; omega) (fun x hx => hok x (whl_sub _ _ x hx)) (by rw [e2, e3]; rfl) h
  | k + 1, a, ws, E, false, a', ws', sg', hn, hl, hok, hd, h => by
    have hd : dpt E 0 = some (bops ws + 1) := hd
    rw [eP] at h
    split at h
    · rename_i hx
      have lt := nx_lt (T := T) (n := n) (a := a) (by omega)
      obtain ⟨E', e1, e2⟩ := set_dp (nxP T n a) ws sg E hd
      have sl := set_len (nxP T n a) ws (sg ++ E)
      have ss := set_sub (nxP T n a) ws (sg ++ E)
      generalize (setP (nxP T n a) ws (sg ++ E)).1 = wr at *
      rw [e1] at h sl
      refine eP_inv T n sg k (a + 1) _ E' true a' ws' sg' (by omega) (by rw [List.length_cons]; omega) ?_ ?_ h
      · intro x hx2
        rcases List.mem_cons.mp hx2 with q | q
        · omega
        · exact hok x (ss x q)
      · rw [e2, bops_cons, if_pos hx]
        simp
        omega
    · obtain ⟨E', e1, e2⟩ := set_dp 124 ws sg E hd
      have sl := set_len 124 ws (sg ++ E)
      have ss := set_sub 124 ws (sg ++ E)
      have st := fun w r => set_top 124 ws (sg ++ E) (w := w) (r := r)
      generalize (setP 124 ws (sg ++ E)).1 = wr at *
      rw [e1] at h sl
      cases wr with
      | nil =>
        simp only at h
        cases h
        simp only [List.length_nil] at sl
        exact ⟨rfl, hn, by omega, E', rfl, e2⟩
      | cons w r =>
        simp only at h
        split at h
        · rename_i h41
          have lt := nx_lt (T := T) (n := n) (a := a) (by omega)
          have hw := hok w (ss w List.mem_cons_self)
          have hnt := st w r rfl
          rw [bops_cons, if_neg (by omega)] at e2
          obtain ⟨E2, g1, g2, g3⟩ := whl_dp r sg E' (bops r) (by rw [e2]; congr 1; omega)
          have wl := whl_len r (sg ++ E')
          rw [g1] at h wl
          simp only [List.length_cons] at sl
          exact eP_inv T n sg k (a + 1) _ E2 false a' ws' sg' (by omega) (by omega) (fun x hx => hok x (ss x (List.mem_cons_of_mem _ (whl_sub _ _ x hx)))) (by rw [g2, g3]; rfl) h
        · cases h
theorem okS_of {s : Nat → Int32} : ∀ (l : List Int) (i n : Nat), (∀ j, j < l.length → (s (i + j)).toInt = l.getD j 0) → dpt l n = some 1 → okS s l.length i n = true
  | [], i, n, _, h => decide_eq_true (Option.some.inj h)
  | x :: l, i, n, hs, h => by
    have h0 : (s i).toInt = x := hs 0 (by simp)
    have ht : ∀ j, j < l.length → (s (i + 1 + j)).toInt = l.getD j 0 := by
      intro j hj
      have := hs (j + 1) (by simpa using hj)
      rw [show i + 1 + j = i + (j + 1) by omega, this]
      simp
    rw [dpt] at h
    show okS s (l.length + 1) i n = true
    rw [okS, h0]
    split
    · rename_i c
      rw [if_pos c] at h
      split at h
      · rename_i c2
        rw [decide_eq_true c2, okS_of l (i + 1) n ht h]
        rfl
      · cases h
    · rename_i c
      rw [if_neg c] at h
      split
      · rename_i c2
        rw [if_pos c2] at h
        split at h
        · rename_i c3
          rw [decide_eq_true c3, okS_of l (i + 1) (n - 1) ht h]
          rfl
        · cases h
      · rename_i c2
        rw [if_neg c2] at h
        exact okS_of l (i + 1) (n + 1) ht h
theorem okS_congr {s s' : Nat → Int32} : ∀ (m i n : Nat), (∀ j, j < m → s' (i + j) = s (i + j)) → okS s' m i n = okS s m i n
  | 0, _, _, _ => rfl
  | m + 1, i, n, h => by
    have h0 : s' i = s i := h 0 (by omega)
    have ht : ∀ j, j < m → s' (i + 1 + j) = s (i + 1 + j) := fun j hj => by
      have := h (j + 1) (by omega)
      rw [show i + 1 + j = i + (j + 1) by omega]
      exact this
    rw [okS, okS, h0, okS_congr m (i + 1) _ ht, okS_congr m (i + 1) _ ht, okS_congr m (i + 1) _ ht]
