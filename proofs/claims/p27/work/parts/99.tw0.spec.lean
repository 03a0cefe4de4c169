/-! The reading of an E, by descent, and that the reference's own way with what waits comes to the same. -/
/-- E as it is told: 0 one F, 1 a T, 2 an E, 3 the rest of a T, 4 the rest of an E; d around it, from a on, behind the marks m -/
def cqP (T : Nat → Int) (n : Nat) : Nat → Nat → Nat → Nat → List Int → Bool × Nat × List Int
  | 0, _, _, a, m => (false, a, m)
  | k + 1, 0, d, a, m => if nxP T n a = 33 ∧ d < 4 then ((cqP T n k 0 (d + 1) (a + 1) m).1, (cqP T n k 0 (d + 1) (a + 1) m).2.1, (cqP T n k 0 (d + 1) (a + 1) m).2.2 ++ [-33])
    else if nxP T n a = 40 ∧ d < 4 then (if (cqP T n k 2 (d + 1) (a + 1) m).1 = true ∧ nxP T n (cqP T n k 2 (d + 1) (a + 1) m).2.1 = 41 then (true, (cqP T n k 2 (d + 1) (a + 1) m).2.1 + 1, (cqP T n k 2 (d + 1) (a + 1) m).2.2) else (false, (cqP T n k 2 (d + 1) (a + 1) m).2.1, (cqP T n k 2 (d + 1) (a + 1) m).2.2))
    else match testP T n a with
      | (b, none) => (false, b, m)
      | (b, some s) => (true, b, m ++ [s])
  | k + 1, 1, d, a, m => if (cqP T n k 0 d a m).1 = true then cqP T n k 3 d (cqP T n k 0 d a m).2.1 (cqP T n k 0 d a m).2.2 else cqP T n k 0 d a m
  | k + 1, 2, d, a, m => if (cqP T n k 1 d a m).1 = true then cqP T n k 4 d (cqP T n k 1 d a m).2.1 (cqP T n k 1 d a m).2.2 else cqP T n k 1 d a m
  | k + 1, 3, d, a, m => if nxP T n a = 38 then (if (cqP T n k 0 d (a + 1) m).1 = true then cqP T n k 3 d (cqP T n k 0 d (a + 1) m).2.1 ((cqP T n k 0 d (a + 1) m).2.2 ++ [-38]) else cqP T n k 0 d (a + 1) m) else (true, a, m)
  | k + 1, _ + 4, d, a, m => if nxP T n a = 124 then (if (cqP T n k 1 d (a + 1) m).1 = true then cqP T n k 4 d (cqP T n k 1 d (a + 1) m).2.1 ((cqP T n k 1 d (a + 1) m).2.2 ++ [-124]) else cqP T n k 1 d (a + 1) m) else (true, a, m)
theorem nx_lt2 {T : Nat → Int} {n a : Nat} {c : Int} (h : nxP T n a = c) (hc : c ≠ -1) : a < n := nx_lt (by rw [h]; exact hc)
theorem eP_irr (T : Nat → Int) (n : Nat) : ∀ (k k' a : Nat) (ws sg : List Int) (wt : Bool), a ≤ n → n < a + k → n < a + k' → eP T n k a ws sg wt = eP T n k' a ws sg wt
  | 0, _, a, _, _, _, h1, h2, _ => by omega
  | _ + 1, 0, a, _, _, _, h1, _, h3 => by omega
  | k + 1, k' + 1, a, ws, sg, true, h1, h2, h3 => by
    unfold eP
    split
    · rename_i c
      split
      · rfl
      · have hl : a < n := by rcases c with c | c <;> exact nx_lt2 c (by decide)
        exact eP_irr T n k k' (a + 1) _ _ _ (by omega) (by omega) (by omega)
    · split
      · rfl
      · rename_i b s ht
        have hb := testP_le ht
        exact eP_irr T n k k' b _ _ _ hb.2 (by omega) (by omega)
  | k + 1, k' + 1, a, ws, sg, false, h1, h2, h3 => by
    unfold eP
    split
    · rename_i c
      have hl : a < n := by rcases c with c | c <;> exact nx_lt2 c (by decide)
      exact eP_irr T n k k' (a + 1) _ _ _ (by omega) (by omega) (by omega)
    · split
      · rfl
      · split
        · rename_i c
          have hl : a < n := nx_lt2 c (by decide)
          exact eP_irr T n k k' (a + 1) _ _ _ (by omega) (by omega) (by omega)
        · rfl
/-- with just enough steps -/
def eC (T : Nat → Int) (n a : Nat) (ws sg : List Int) (wt : Bool) : Bool × Nat × List Int × List Int := eP T n (n + 1 - a) a ws sg wt
theorem eC_suc {T : Nat → Int} {n a : Nat} {ws sg : List Int} {wt : Bool} (h : a ≤ n) : eC T n a ws sg wt = eP T n (n - a + 1) a ws sg wt := by
  unfold eC
  rw [show n + 1 - a = n - a + 1 by omega]
theorem eC_of {T : Nat → Int} {n a b : Nat} {ws sg : List Int} {wt : Bool} (h : a < b) (hb : b ≤ n) : eP T n (n - a) b ws sg wt = eC T n b ws sg wt := eP_irr T n _ _ b ws sg wt hb (by omega) (by omega)
theorem eC_open {T : Nat → Int} {n a : Nat} {ws sg : List Int} (hx : nxP T n a = 33 ∨ nxP T n a = 40) (ho : ¬ opn ws = 4) : a < n ∧ eC T n a ws sg true = eC T n (a + 1) (nxP T n a :: ws) sg true := by
  have hl : a < n := by rcases hx with c | c <;> exact nx_lt2 c (by decide)
  refine ⟨hl, ?_⟩
  rw [eC_suc (by omega), eP, if_pos hx, if_neg ho]
  exact eC_of (by omega) (by omega)
theorem eC_full {T : Nat → Int} {n a : Nat} {ws sg : List Int} (ha : a ≤ n) (hx : nxP T n a = 33 ∨ nxP T n a = 40) (ho : opn ws = 4) : eC T n a ws sg true = (false, a, ws, sg) := by
  rw [eC_suc ha, eP, if_pos hx, if_pos ho]
theorem eC_test {T : Nat → Int} {n a b : Nat} {s : Int} {ws sg : List Int} (ha : a ≤ n) (hx : ¬ (nxP T n a = 33 ∨ nxP T n a = 40)) (ht : testP T n a = (b, some s)) : eC T n a ws sg true = eC T n b (whlP ws (sg ++ [s])).1 (whlP ws (sg ++ [s])).2 false := by
  have hb := testP_le ht
  rw [eC_suc ha, eP, if_neg hx, ht]
  exact eC_of (by omega) hb.2
theorem eC_bad {T : Nat → Int} {n a b : Nat} {ws sg : List Int} (ha : a ≤ n) (hx : ¬ (nxP T n a = 33 ∨ nxP T n a = 40)) (ht : testP T n a = (b, none)) : eC T n a ws sg true = (false, b, ws, sg) := by
  rw [eC_suc ha, eP, if_neg hx, ht]
theorem eC_op {T : Nat → Int} {n a : Nat} {ws sg : List Int} (hx : nxP T n a = 38 ∨ nxP T n a = 124) : a < n ∧ eC T n a ws sg false = eC T n (a + 1) (nxP T n a :: (setP (nxP T n a) ws sg).1) (setP (nxP T n a) ws sg).2 true := by
  have hl : a < n := by rcases hx with c | c <;> exact nx_lt2 c (by decide)
  refine ⟨hl, ?_⟩
  rw [eC_suc (by omega), eP, if_pos hx]
  exact eC_of (by omega) (by omega)
theorem eC_close {T : Nat → Int} {n a : Nat} {w : Int} {ws sg r m : List Int} (hx : ¬ (nxP T n a = 38 ∨ nxP T n a = 124)) (hs : setP 124 ws sg = (w :: r, m)) (h41 : nxP T n a = 41) : a < n ∧ eC T n a ws sg false = eC T n (a + 1) (whlP r m).1 (whlP r m).2 false := by
  have hl : a < n := nx_lt2 h41 (by decide)
  refine ⟨hl, ?_⟩
  rw [eC_suc (by omega), eP, if_neg hx, hs]
  simp only
  rw [if_pos h41]
  exact eC_of (by omega) (by omega)
theorem eC_stop {T : Nat → Int} {n a : Nat} {w : Int} {ws sg r m : List Int} (ha : a ≤ n) (hx : ¬ (nxP T n a = 38 ∨ nxP T n a = 124)) (hs : setP 124 ws sg = (w :: r, m)) (h41 : ¬ nxP T n a = 41) : eC T n a ws sg false = (false, a, w :: r, m) := by
  rw [eC_suc ha, eP, if_neg hx, hs]
  simp only
  rw [if_neg h41]
theorem eC_end {T : Nat → Int} {n a : Nat} {ws sg m : List Int} (ha : a ≤ n) (hx : ¬ (nxP T n a = 38 ∨ nxP T n a = 124)) (hs : setP 124 ws sg = ([], m)) : eC T n a ws sg false = (true, a, [], m) := by
  rw [eC_suc ha, eP, if_neg hx, hs]
/-- what stands on top isn't one of these -/
def top (ws : List Int) : Int := match ws with
  | [] => 0
  | w :: _ => w
theorem whl_top {ws sg : List Int} (h : top ws ≠ 33) : whlP ws sg = (ws, sg) := by
  match ws, h with
  | [], _ => rfl
  | w :: r, h => unfold whlP; rw [if_neg (show ¬ w = 33 from h)]
theorem set_top0 {s : Int} {ws sg : List Int} (h1 : top ws ≠ 38) (h2 : top ws ≠ 124 ∨ s = 38) : setP s ws sg = (ws, sg) := by
  match ws, h1, h2 with
  | [], _, _ => rfl
  | w :: r, h1, h2 =>
    unfold setP
    rw [if_neg]
    intro c
    rcases c with c | ⟨c, d⟩
    · exact h1 c
    · rcases h2 with h2 | h2
      · exact h2 c
      · exact d h2
theorem opn_c {w : Int} {ws : List Int} {d : Nat} (h : opn ws = d) : opn (w :: ws) = (if w = 33 ∨ w = 40 then 1 else 0) + d := by rw [opn_cons, h]
/-- it fails there -/
def fails (x : Bool × Nat × List Int × List Int) (a : Nat) : Prop := x.1 = false ∧ x.2.1 = a
/-- how far the marks m are told: an & may still wait -/
def pend (p sg m : List Int) : Prop := (p = [] ∧ sg = m) ∨ (p = [38] ∧ sg ++ [-38] = m)
theorem pend_set {p ws sg m : List Int} (hp : pend p sg m) (h1 : top ws ≠ 38) : setP 38 (p ++ ws) sg = (ws, m) := by
  rcases hp with ⟨rfl, rfl⟩ | ⟨rfl, rfl⟩
  · exact set_top0 h1 (Or.inr rfl)
  · show setP 38 (38 :: ws) sg = _
    unfold setP
    rw [if_pos (Or.inl rfl)]
    exact set_top0 h1 (Or.inr rfl)
theorem pend_set2 {p ws sg m : List Int} (hp : pend p sg m) (h1 : top ws ≠ 38) (h2 : top ws ≠ 124) : setP 124 (p ++ ws) sg = (ws, m) := by
  rcases hp with ⟨rfl, rfl⟩ | ⟨rfl, rfl⟩
  · exact set_top0 h1 (Or.inl h2)
  · show setP 124 (38 :: ws) sg = _
    unfold setP
    rw [if_pos (Or.inl rfl)]
    exact set_top0 h1 (Or.inl h2)
theorem pend_set3 {p ws sg m : List Int} (hp : pend p sg m) (h1 : top ws ≠ 38) (h2 : top ws ≠ 124) : setP 124 (p ++ 124 :: ws) sg = (ws, m ++ [-124]) := by
  have e : ∀ x, setP 124 (124 :: ws) x = (ws, x ++ [-124]) := by
    intro x
    unfold setP
    rw [if_pos (Or.inr ⟨rfl, by decide⟩)]
    exact set_top0 h1 (Or.inl h2)
  rcases hp with ⟨rfl, rfl⟩ | ⟨rfl, rfl⟩
  · exact e _
  · show setP 124 (38 :: 124 :: ws) sg = _
    unfold setP
    rw [if_pos (Or.inl rfl)]
    exact e _
section SIM
variable (T : Nat → Int) (n : Nat)
/-- what each kind of reading comes to -/
def S0 (k : Nat) : Prop := ∀ (d a : Nat) (m ws : List Int), a ≤ n → 6 * (n + 1 - a) + 1 ≤ k → opn ws = d → d ≤ 4 → ((cqP T n k 0 d a m).1 = true → a < (cqP T n k 0 d a m).2.1 ∧ (cqP T n k 0 d a m).2.1 ≤ n ∧ eC T n a ws m true = eC T n (cqP T n k 0 d a m).2.1 (whlP ws (cqP T n k 0 d a m).2.2).1 (whlP ws (cqP T n k 0 d a m).2.2).2 false) ∧ ((cqP T n k 0 d a m).1 = false → fails (eC T n a ws m true) (cqP T n k 0 d a m).2.1)
def S1 (k : Nat) : Prop := ∀ (d a : Nat) (m ws : List Int), a ≤ n → 6 * (n + 1 - a) + 2 ≤ k → opn ws = d → d ≤ 4 → top ws ≠ 38 → top ws ≠ 33 → ((cqP T n k 1 d a m).1 = true → a < (cqP T n k 1 d a m).2.1 ∧ (cqP T n k 1 d a m).2.1 ≤ n ∧ nxP T n (cqP T n k 1 d a m).2.1 ≠ 38 ∧ ∃ p sg, pend p sg (cqP T n k 1 d a m).2.2 ∧ eC T n a ws m true = eC T n (cqP T n k 1 d a m).2.1 (p ++ ws) sg false) ∧ ((cqP T n k 1 d a m).1 = false → fails (eC T n a ws m true) (cqP T n k 1 d a m).2.1)
def S2 (k : Nat) : Prop := ∀ (d a : Nat) (m ws : List Int), a ≤ n → 6 * (n + 1 - a) + 3 ≤ k → opn ws = d → d ≤ 4 → top ws ≠ 38 → top ws ≠ 33 → top ws ≠ 124 → ((cqP T n k 2 d a m).1 = true → a < (cqP T n k 2 d a m).2.1 ∧ (cqP T n k 2 d a m).2.1 ≤ n ∧ ¬ (nxP T n (cqP T n k 2 d a m).2.1 = 38 ∨ nxP T n (cqP T n k 2 d a m).2.1 = 124) ∧ ∃ q sg, setP 124 q sg = (ws, (cqP T n k 2 d a m).2.2) ∧ eC T n a ws m true = eC T n (cqP T n k 2 d a m).2.1 q sg false) ∧ ((cqP T n k 2 d a m).1 = false → fails (eC T n a ws m true) (cqP T n k 2 d a m).2.1)
def S3 (k : Nat) : Prop := ∀ (d a : Nat) (m ws p sg : List Int), a ≤ n → 6 * (n + 1 - a) + 1 ≤ k → opn ws = d → d ≤ 4 → top ws ≠ 38 → top ws ≠ 33 → pend p sg m → ((cqP T n k 3 d a m).1 = true → a ≤ (cqP T n k 3 d a m).2.1 ∧ (cqP T n k 3 d a m).2.1 ≤ n ∧ nxP T n (cqP T n k 3 d a m).2.1 ≠ 38 ∧ ∃ p' sg', pend p' sg' (cqP T n k 3 d a m).2.2 ∧ eC T n a (p ++ ws) sg false = eC T n (cqP T n k 3 d a m).2.1 (p' ++ ws) sg' false) ∧ ((cqP T n k 3 d a m).1 = false → fails (eC T n a (p ++ ws) sg false) (cqP T n k 3 d a m).2.1)
def S4 (k : Nat) : Prop := ∀ (d a : Nat) (m ws q sg : List Int), a ≤ n → 6 * (n + 1 - a) + 1 ≤ k → opn ws = d → d ≤ 4 → top ws ≠ 38 → top ws ≠ 33 → top ws ≠ 124 → nxP T n a ≠ 38 → setP 124 q sg = (ws, m) → ((cqP T n k 4 d a m).1 = true → a ≤ (cqP T n k 4 d a m).2.1 ∧ (cqP T n k 4 d a m).2.1 ≤ n ∧ ¬ (nxP T n (cqP T n k 4 d a m).2.1 = 38 ∨ nxP T n (cqP T n k 4 d a m).2.1 = 124) ∧ ∃ q' sg', setP 124 q' sg' = (ws, (cqP T n k 4 d a m).2.2) ∧ eC T n a q sg false = eC T n (cqP T n k 4 d a m).2.1 q' sg' false) ∧ ((cqP T n k 4 d a m).1 = false → fails (eC T n a q sg false) (cqP T n k 4 d a m).2.1)
theorem sim_0 (k : Nat) (h0 : S0 T n k) (h2 : S2 T n k) : S0 T n (k + 1) := by
  intro d a m ws ha hk ho hd
  have ht : ∀ (hx : ¬ (nxP T n a = 33 ∨ nxP T n a = 40)), (((match testP T n a with | (b, none) => (false, b, m) | (b, some s) => (true, b, m ++ [s])) : Bool × Nat × List Int).1 = true → a < ((match testP T n a with | (b, none) => (false, b, m) | (b, some s) => (true, b, m ++ [s])) : Bool × Nat × List Int).2.1 ∧ ((match testP T n a with | (b, none) => (false, b, m) | (b, some s) => (true, b, m ++ [s])) : Bool × Nat × List Int).2.1 ≤ n ∧ eC T n a ws m true = eC T n ((match testP T n a with | (b, none) => (false, b, m) | (b, some s) => (true, b, m ++ [s])) : Bool × Nat × List Int).2.1 (whlP ws ((match testP T n a with | (b, none) => (false, b, m) | (b, some s) => (true, b, m ++ [s])) : Bool × Nat × List Int).2.2).1 (whlP ws ((match testP T n a with | (b, none) => (false, b, m) | (b, some s) => (true, b, m ++ [s])) : Bool × Nat × List Int).2.2).2 false) ∧ (((match testP T n a with | (b, none) => (false, b, m) | (b, some s) => (true, b, m ++ [s])) : Bool × Nat × List Int).1 = false → fails (eC T n a ws m true) ((match testP T n a with | (b, none) => (false, b, m) | (b, some s) => (true, b, m ++ [s])) : Bool × Nat × List Int).2.1) := by
    intro hx
    split
    · rename_i b e
      refine ⟨fun q => by simp at q, fun _ => ?_⟩
      rw [eC_bad ha hx e]
      exact ⟨rfl, rfl⟩
    · rename_i b s e
      have hb := testP_le e
      exact ⟨fun _ => ⟨by show a < b; omega, hb.2, eC_test ha hx e⟩, fun q => by simp at q⟩
  by_cases x1 : nxP T n a = 33
  · by_cases x2 : d < 4
    · obtain ⟨hl, es⟩ := eC_open (ws := ws) (sg := m) (Or.inl x1) (by omega)
      have ih := h0 (d + 1) (a + 1) m (33 :: ws) (by omega) (by omega) (by rw [opn_c ho, if_pos (Or.inl rfl)]; omega) (by omega)
      rw [x1] at es
      unfold cqP
      rw [if_pos ⟨x1, x2⟩]
      refine ⟨fun q => ?_, fun q => ?_⟩
      · obtain ⟨i1, i2, i3⟩ := ih.1 q
        refine ⟨by show a < (cqP T n k 0 (d + 1) (a + 1) m).2.1; omega, i2, ?_⟩
        rw [es, i3]
        have e : ∀ x, whlP (33 :: ws) x = whlP ws (x ++ [-33]) := fun x => by
          rw [whlP, if_pos rfl]
        rw [e]
      · rw [es]
        exact ih.2 q
    · have e4 : opn ws = 4 := by omega
      unfold cqP
      rw [if_neg (fun c => x2 c.2), if_neg (fun c => x2 c.2)]
      have e : testP T n a = (a, none) := by
        unfold testP
        rw [x1]
        rfl
      rw [e, eC_full ha (Or.inl x1) e4]
      exact ⟨fun q => by simp at q, fun _ => ⟨rfl, rfl⟩⟩
  · by_cases x3 : nxP T n a = 40
    · by_cases x2 : d < 4
      · obtain ⟨hl, es⟩ := eC_open (ws := ws) (sg := m) (Or.inr x3) (by omega)
        have ih := h2 (d + 1) (a + 1) m (40 :: ws) (by omega) (by omega) (by rw [opn_c ho, if_pos (Or.inr rfl)]; omega) (by omega) (by show (40 : Int) ≠ 38; decide) (by show (40 : Int) ≠ 33; decide) (by show (40 : Int) ≠ 124; decide)
        rw [x3] at es
        unfold cqP
        rw [if_neg (fun c => x1 c.1), if_pos ⟨x3, x2⟩]
        by_cases x4 : (cqP T n k 2 (d + 1) (a + 1) m).1 = true
        · obtain ⟨i1, i2, i3, q, sg, i4, i5⟩ := ih.1 x4
          by_cases x5 : nxP T n (cqP T n k 2 (d + 1) (a + 1) m).2.1 = 41
          · rw [if_pos ⟨x4, x5⟩]
            obtain ⟨hl2, ec⟩ := eC_close i3 i4 x5
            refine ⟨fun _ => ⟨by show a < _ + 1; omega, by show _ + 1 ≤ n; omega, ?_⟩, fun q => by simp at q⟩
            rw [es, i5, ec]
          · rw [if_neg (fun c => x5 c.2)]
            refine ⟨fun q => by simp at q, fun _ => ?_⟩
            rw [es, i5, eC_stop i2 i3 i4 x5]
            exact ⟨rfl, rfl⟩
        · rw [if_neg (fun c => x4 c.1)]
          refine ⟨fun q => by simp at q, fun _ => ?_⟩
          rw [es]
          exact ih.2 (Bool.not_eq_true _ ▸ x4)
      · have e4 : opn ws = 4 := by omega
        unfold cqP
        rw [if_neg (fun c => x2 c.2), if_neg (fun c => x2 c.2)]
        have e : testP T n a = (a, none) := by
          unfold testP
          rw [x3]
          rfl
        rw [e, eC_full ha (Or.inr x3) e4]
        exact ⟨fun q => by simp at q, fun _ => ⟨rfl, rfl⟩⟩
    · have hx : ¬ (nxP T n a = 33 ∨ nxP T n a = 40) := fun c => by
        rcases c with c | c
        · exact x1 c
        · exact x3 c
      unfold cqP
      rw [if_neg (fun c => x1 c.1), if_neg (fun c => x3 c.1)]
      exact ht hx
theorem sim_3 (k : Nat) (h0 : S0 T n k) (h3 : S3 T n k) : S3 T n (k + 1) := by
  intro d a m ws p sg ha hk ho hd t1 t2 hp
  by_cases x : nxP T n a = 38
  · obtain ⟨hl, es⟩ := eC_op (ws := p ++ ws) (sg := sg) (Or.inl x)
    rw [x, pend_set hp t1] at es
    have ih := h0 d (a + 1) m (38 :: ws) (by omega) (by omega) (by rw [opn_c ho, if_neg (by decide)]; omega) hd
    have ew : ∀ y, whlP (38 :: ws) y = (38 :: ws, y) := fun y => whl_top (by show (38 : Int) ≠ 33; decide)
    unfold cqP
    rw [if_pos x]
    by_cases x4 : (cqP T n k 0 d (a + 1) m).1 = true
    · obtain ⟨i1, i2, i3⟩ := ih.1 x4
      rw [ew] at i3
      rw [if_pos x4]
      have jh := h3 d (cqP T n k 0 d (a + 1) m).2.1 ((cqP T n k 0 d (a + 1) m).2.2 ++ [-38]) ws [38] (cqP T n k 0 d (a + 1) m).2.2 i2 (by omega) ho hd t1 t2 (Or.inr ⟨rfl, rfl⟩)
      refine ⟨fun q => ?_, fun q => ?_⟩
      · obtain ⟨j1, j2, j3, p', sg', j4, j5⟩ := jh.1 q
        exact ⟨by omega, j2, j3, p', sg', j4, by rw [es, i3]; exact j5⟩
      · rw [es, i3]
        exact jh.2 q
    · rw [if_neg x4]
      refine ⟨fun q => absurd q x4, fun q => ?_⟩
      rw [es]
      exact ih.2 q
  · unfold cqP
    rw [if_neg x]
    exact ⟨fun _ => ⟨Nat.le_refl _, ha, x, p, sg, hp, rfl⟩, fun q => by simp at q⟩
theorem sim_1 (k : Nat) (h0 : S0 T n k) (h3 : S3 T n k) : S1 T n (k + 1) := by
  intro d a m ws ha hk ho hd t1 t2
  have ih := h0 d a m ws ha (by omega) ho hd
  have ew : ∀ y, whlP ws y = (ws, y) := fun y => whl_top t2
  unfold cqP
  by_cases x4 : (cqP T n k 0 d a m).1 = true
  · obtain ⟨i1, i2, i3⟩ := ih.1 x4
    rw [ew] at i3
    rw [if_pos x4]
    have jh := h3 d (cqP T n k 0 d a m).2.1 (cqP T n k 0 d a m).2.2 ws [] (cqP T n k 0 d a m).2.2 i2 (by omega) ho hd t1 t2 (Or.inl ⟨rfl, rfl⟩)
    refine ⟨fun q => ?_, fun q => ?_⟩
    · obtain ⟨j1, j2, j3, p', sg', j4, j5⟩ := jh.1 q
      exact ⟨by omega, j2, j3, p', sg', j4, by rw [i3]; exact j5⟩
    · rw [i3]
      exact jh.2 q
  · rw [if_neg x4]
    exact ⟨fun q => absurd q x4, fun q => ih.2 q⟩
theorem sim_4 (k : Nat) (h1 : S1 T n k) (h4 : S4 T n k) : S4 T n (k + 1) := by
  intro d a m ws q sg ha hk ho hd t1 t2 t3 x38 hs
  by_cases x : nxP T n a = 124
  · obtain ⟨hl, es⟩ := eC_op (ws := q) (sg := sg) (Or.inr x)
    rw [x, hs] at es
    have ih := h1 d (a + 1) m (124 :: ws) (by omega) (by omega) (by rw [opn_c ho, if_neg (by decide)]; omega) hd (by show (124 : Int) ≠ 38; decide) (by show (124 : Int) ≠ 33; decide)
    unfold cqP
    rw [if_pos x]
    by_cases x4 : (cqP T n k 1 d (a + 1) m).1 = true
    · obtain ⟨i1, i2, i38, p, sg1, i3, i4⟩ := ih.1 x4
      rw [if_pos x4]
      have jh := h4 d (cqP T n k 1 d (a + 1) m).2.1 ((cqP T n k 1 d (a + 1) m).2.2 ++ [-124]) ws (p ++ 124 :: ws) sg1 i2 (by omega) ho hd t1 t2 t3 i38 (pend_set3 i3 t1 t3)
      refine ⟨fun z => ?_, fun z => ?_⟩
      · obtain ⟨j1, j2, j3, p', sg', j4, j5⟩ := jh.1 z
        exact ⟨by omega, j2, j3, p', sg', j4, by rw [es, i4]; exact j5⟩
      · rw [es, i4]
        exact jh.2 z
    · rw [if_neg x4]
      refine ⟨fun z => absurd z x4, fun z => ?_⟩
      rw [es]
      exact ih.2 z
  · unfold cqP
    rw [if_neg x]
    exact ⟨fun _ => ⟨Nat.le_refl _, ha, fun c => by rcases c with c | c; exact x38 c; exact x c, q, sg, hs, rfl⟩, fun z => by simp at z⟩
theorem sim_2 (k : Nat) (h1 : S1 T n k) (h4 : S4 T n k) : S2 T n (k + 1) := by
  intro d a m ws ha hk ho hd t1 t2 t3
  have ih := h1 d a m ws ha (by omega) ho hd t1 t2
  unfold cqP
  by_cases x4 : (cqP T n k 1 d a m).1 = true
  · obtain ⟨i1, i2, i38, p, sg1, i3, i4⟩ := ih.1 x4
    rw [if_pos x4]
    have jh := h4 d (cqP T n k 1 d a m).2.1 (cqP T n k 1 d a m).2.2 ws (p ++ ws) sg1 i2 (by omega) ho hd t1 t2 t3 i38 (pend_set2 i3 t1 t3)
    refine ⟨fun z => ?_, fun z => ?_⟩
    · obtain ⟨j1, j2, j3, p', sg', j4, j5⟩ := jh.1 z
      exact ⟨by omega, j2, j3, p', sg', j4, by rw [i4]; exact j5⟩
    · rw [i4]
      exact jh.2 z
  · rw [if_neg x4]
    exact ⟨fun z => absurd z x4, fun z => ih.2 z⟩
theorem sim_all : ∀ k, S0 T n k ∧ S1 T n k ∧ S2 T n k ∧ S3 T n k ∧ S4 T n k
  | 0 => ⟨fun d a m ws ha hk => by omega, fun d a m ws ha hk => by omega, fun d a m ws ha hk => by omega, fun d a m ws p sg ha hk => by omega, fun d a m ws q sg ha hk => by omega⟩
  | k + 1 => by
    obtain ⟨h0, h1, h2, h3, h4⟩ := sim_all k
    exact ⟨sim_0 T n k h0 h2, sim_1 T n k h0 h3, sim_2 T n k h1 h4, sim_3 T n k h0 h3, sim_4 T n k h1 h4⟩
/-- an E, read by descent -/
def ecP (a : Nat) (m : List Int) : Bool × Nat × List Int := cqP T n 609 2 0 a m
/-- both ways come to the same -/
theorem ec_sim (hn : n ≤ 100) (a : Nat) (m : List Int) (ha : a ≤ n) : ((ecP T n a m).1 = true → a < (ecP T n a m).2.1 ∧ (ecP T n a m).2.1 ≤ n ∧ eC T n a [] m true = (true, (ecP T n a m).2.1, [], (ecP T n a m).2.2)) ∧ ((ecP T n a m).1 = false → fails (eC T n a [] m true) (ecP T n a m).2.1) := by
  have h := (sim_all T n 609).2.2.1 0 a m [] ha (by omega) rfl (by decide) (by show (0 : Int) ≠ 38; decide) (by show (0 : Int) ≠ 33; decide) (by show (0 : Int) ≠ 124; decide)
  refine ⟨fun q => ?_, fun q => h.2 q⟩
  obtain ⟨i1, i2, i3, p, sg, i4, i5⟩ := h.1 q
  exact ⟨i1, i2, by rw [i5]; exact eC_end i2 i3 i4⟩
end SIM
