section JN99tw0spec
/-! The reading of an E, by descent, and that the reference's own way with what waits comes to the same. -/
/-- E as it is told: 0 one F, 1 a T, 2 an E, 3 the rest of a T, 4 the rest of an E; d around it, from a on, behind the marks m -/
def cqP (T : Nat → Int) (n : Nat) : Nat → Nat → Nat → Nat → List Int → Bool × Nat × List Int
  | 0, _, _, a, m => (false, a, m)
  | k + 1, 0, d, a, m => if nxP T n a = 33 ∧ d < 4 then ((cqP T n k 0 (d + 1) (a + 1) m).1, (cqP T n k 0 (d + 1) (a + 1) m).2.1, (cqP T n k 0 (d + 1) (a + 1) m).2.2 ++ [-33])
    else if nxP T n a = 40 ∧ d < 4 then (if (cqP T n k 2 (d + 1) (a + 1) m).1 = true ∧ nxP T n (cqP T n k 2 (d + 1) (a + 1) m).2.1 = 41 then (true, (cqP T n k 2 (d + 1) (a + 1) m).2.1 + 1, (cqP T n k 2 (d + 1) (a + 1) m).2.2) else (false, (cqP T n k 2 (d + 1) (a + 1) m).2.1, (cqP T n k 2 (d + 1) (a + 1) m).2.2))
    else match testP T n a with
      | (b, none) => (false, b, m)
      | (b, some s) => (true, b, m ++ [s])
  | k + 1, 1, d, a, m => if (cqP T n k 0 d a m).1 = true then cqP T n k 3 d (cqP T n k 0 d a m).2.1 (cqP T n k 0 d a m).2.2 else cqP T n k 0 d a m
  | k + 1, 2, d, a, m => if (cqP T n k 1 d a m).1 = true then cqP T n k 4 d (cqP T n k 1 d a m).2.1 (cqP T n k 1 d a m).2.2 else cqP T n k 1 d a m
  | k + 1, 3, d, a, m => if nxP T n a = 38 then (if (cqP T n k 0 d (a + 1) m).1 = true then cqP T n k 3 d (cqP T n k 0 d (a + 1) m).2.1 ((cqP T n k 0 d (a + 1) m).2.2 ++ [-38]) else cqP T n k 0 d (a + 1) m) else (true, a, m)
  | k + 1, _ + 4, d, a, m => if nxP T n a = 124 then (if (cqP T n k 1 d (a + 1) m).1 = true then cqP T n k 4 d (cqP T n k 1 d (a + 1) m).2.1 ((cqP T n k 1 d (a + 1) m).2.2 ++ [-124]) else cqP T n k 1 d (a + 1) m) else (true, a, m)
theorem nx_lt2 {T : Nat → Int} {n a : Nat} {c : Int} (h : nxP T n a = c) (hc : c ≠ -1) : a < n := nx_lt (by rw [h]; exact hc)
theorem eP_irr (T : Nat → Int) (n : Nat) : ∀ (k k' a : Nat) (ws sg : List Int) (wt : Bool), a ≤ n → n < a + k → n < a + k' → eP T n k a ws sg wt = eP T n k' a ws sg wt
  | 0, _, a, _, _, _, h1, h2, _ => by omega
  | _ + 1, 0, a, _, _, _, h1, _, h3 => by omega
  | k + 1, k' + 1, a, ws, sg, true, h1, h2, h3 => by
    unfold eP
    split
    · rename_i c
      split
      · rfl
      · have hl : a < n := by rcases c with c | c <;> exact nx_lt2 c (by decide)
        exact eP_irr T n k k' (a + 1) _ _ _ (by omega) (by omega) (by omega)
    · split
      · rfl
      · rename_i b s ht
        have hb := testP_le ht
        exact eP_irr T n k k' b _ _ _ hb.2 (by omega) (by omega)
  | k + 1, k' + 1, a, ws, sg, false, h1, h2, h3 => by
    unfold eP
    split
    · rename_i c
      have hl : a < n := by rcases c with c | c <;> exact nx_lt2 c (by decide)
      exact eP_irr T n k k' (a + 1) _ _ _ (by omega) (by omega) (by omega)
    · split
      · rfl
      · split
        · rename_i c
          have hl : a < n := nx_lt2 c (by decide)
          exact eP_irr T n k k' (a + 1) _ _ _ (by omega) (by omega) (by omega)
        · rfl
/-- with just enough steps -/
def eC (T : Nat → Int) (n a : Nat) (ws sg : List Int) (wt : Bool) : Bool × Nat × List Int × List Int := eP T n (n + 1 - a) a ws sg wt
theorem eC_suc {T : Nat → Int} {n a : Nat} {ws sg : List Int} {wt : Bool} (h : a ≤ n) : eC T n a ws sg wt = eP T n (n - a + 1) a ws sg wt := by
  unfold eC
  rw [show n + 1 - a = n - a + 1 by omega]
theorem eC_of {T : Nat → Int} {n a b : Nat} {ws sg : List Int} {wt : Bool} (h : a < b) (hb : b ≤ n) : eP T n (n - a) b ws sg wt = eC T n b ws sg wt := eP_irr T n _ _ b ws sg wt hb (by omega) (by omega)
theorem eC_open {T : Nat → Int} {n a : Nat} {ws sg : List Int} (hx : nxP T n a = 33 ∨ nxP T n a = 40) (ho : ¬ opn ws = 4) : a < n ∧ eC T n a ws sg true = eC T n (a + 1) (nxP T n a :: ws) sg true := by
  have hl : a < n := by rcases hx with c | c <;> exact nx_lt2 c (by decide)
  refine ⟨hl, ?_⟩
  rw [eC_suc (by omega), eP, if_pos hx, if_neg ho]
  exact eC_of (by omega) (by omega)
theorem eC_full {T : Nat → Int} {n a : Nat} {ws sg : List Int} (ha : a ≤ n) (hx : nxP T n a = 33 ∨ nxP T n a = 40) (ho : opn ws = 4) : eC T n a ws sg true = (false, a, ws, sg) := by
  rw [eC_suc ha, eP, if_pos hx, if_pos ho]
theorem eC_test {T : Nat → Int} {n a b : Nat} {s : Int} {ws sg : List Int} (ha : a ≤ n) (hx : ¬ (nxP T n a = 33 ∨ nxP T n a = 40)) (ht : testP T n a = (b, some s)) : eC T n a ws sg true = eC T n b (whlP ws (sg ++ [s])).1 (whlP ws (sg ++ [s])).2 false := by
  have hb := testP_le ht
  rw [eC_suc ha, eP, if_neg hx, ht]
  exact eC_of (by omega) hb.2
theorem eC_bad {T : Nat → Int} {n a b : Nat} {ws sg : List Int} (ha : a ≤ n) (hx : ¬ (nxP T n a = 33 ∨ nxP T n a = 40)) (ht : testP T n a = (b, none)) : eC T n a ws sg true = (false, b, ws, sg) := by
  rw [eC_suc ha, eP, if_neg hx, ht]
theorem eC_op {T : Nat → Int} {n a : Nat} {ws sg : List Int} (hx : nxP T n a = 38 ∨ nxP T n a = 124) : a < n ∧ eC T n a ws sg false = eC T n (a + 1) (nxP T n a :: (setP (nxP T n a) ws sg).1) (setP (nxP T n a) ws sg).2 true := by
  have hl : a < n := by rcases hx with c | c <;> exact nx_lt2 c (by decide)
  refine ⟨hl, ?_⟩
  rw [eC_suc (by omega), eP, if_pos hx]
  exact eC_of (by omega) (by omega)
theorem eC_close {T : Nat → Int} {n a : Nat} {w : Int} {ws sg r m : List Int} (hx : ¬ (nxP T n a = 38 ∨ nxP T n a = 124)) (hs : setP 124 ws sg = (w :: r, m)) (h41 : nxP T n a = 41) : a < n ∧ eC T n a ws sg false = eC T n (a + 1) (whlP r m).1 (whlP r m).2 false := by
  have hl : a < n := nx_lt2 h41 (by decide)
  refine ⟨hl, ?_⟩
  rw [eC_suc (by omega), eP, if_neg hx, hs]
  simp only
  rw [if_pos h41]
  exact eC_of (by omega) (by omega)
theorem eC_stop {T : Nat → Int} {n a : Nat} {w : Int} {ws sg r m : List Int} (ha : a ≤ n) (hx : ¬ (nxP T n a = 38 ∨ nxP T n a = 124)) (hs : setP 124 ws sg = (w :: r, m)) (h41 : ¬ nxP T n a = 41) : eC T n a ws sg false = (false, a, w :: r, m) := by
  rw [eC_suc ha, eP, if_neg hx, hs]
  simp only
  rw [if_neg h41]
theorem eC_end {T : Nat → Int} {n a : Nat} {ws sg m : List Int} (ha : a ≤ n) (hx : ¬ (nxP T n a = 38 ∨ nxP T n a = 124)) (hs : setP 124 ws sg = ([], m)) : eC T n a ws sg false = (true, a, [], m) := by
  rw [eC_suc ha, eP, if_neg hx, hs]
/-- what stands on top isn't one of these -/
def top (ws : List Int) : Int := match ws with
  | [] => 0
  | w :: _ => w
theorem whl_top {ws sg : List Int} (h : top ws ≠ 33) : whlP ws sg = (ws, sg) := by
  match ws, h with
  | [], _ => rfl
  | w :: r, h => unfold whlP; rw [if_neg (show ¬ w = 33 from h)]
theorem set_top0 {s : Int} {ws sg : List Int} (h1 : top ws ≠ 38) (h2 : top ws ≠ 124 ∨ s = 38) : setP s ws sg = (ws, sg) := by
  match ws, h1, h2 with
  | [], _, _ => rfl
  | w :: r, h1, h2 =>
    unfold setP
    rw [if_neg]
    intro c
    rcases c with c | ⟨c, d⟩
    · exact h1 c
    · rcases h2 with h2 | h2
      · exact h2 c
      · exact d h2
theorem opn_c {w : Int} {ws : List Int} {d : Nat} (h : opn ws = d) : opn (w :: ws) = (if w = 33 ∨ w = 40 then 1 else 0) + d := by rw [opn_cons, h]
/-- it fails there -/
def fails (x : Bool × Nat × List Int × List Int) (a : Nat) : Prop := x.1 = false ∧ x.2.1 = a
/-- how far the marks m are told: an & may still wait -/
def pend (p sg m : List Int) : Prop := (p = [] ∧ sg = m) ∨ (p = [38] ∧ sg ++ [-38] = m)
theorem pend_set {p ws sg m : List Int} (hp : pend p sg m) (h1 : top ws ≠ 38) : setP 38 (p ++ ws) sg = (ws, m) := by
  rcases hp with ⟨rfl, rfl⟩ | ⟨rfl, rfl⟩
  · exact set_top0 h1 (Or.inr rfl)
  · show setP 38 (38 :: ws) sg = _
    unfold setP
    rw [if_pos (Or.inl rfl)]
    exact set_top0 h1 (Or.inr rfl)
theorem pend_set2 {p ws sg m : List Int} (hp : pend p sg m) (h1 : top ws ≠ 38) (h2 : top ws ≠ 124) : setP 124 (p ++ ws) sg = (ws, m) := by
  rcases hp with ⟨rfl, rfl⟩ | ⟨rfl, rfl⟩
  · exact set_top0 h1 (Or.inl h2)
  · show setP 124 (38 :: ws) sg = _
    unfold setP
    rw [if_pos (Or.inl rfl)]
    exact set_top0 h1 (Or.inl h2)
theorem pend_set3 {p ws sg m : List Int} (hp : pend p sg m) (h1 : top ws ≠ 38) (h2 : top ws ≠ 124) : setP 124 (p ++ 124 :: ws) sg = (ws, m ++ [-124]) := by
  have e : ∀ x, setP 124 (124 :: ws) x = (ws, x ++ [-124]) := by
    intro x
    unfold setP
    rw [if_pos (Or.inr ⟨rfl, by decide⟩)]
    exact set_top0 h1 (Or.inl h2)
  rcases hp with ⟨rfl, rfl⟩ | ⟨rfl, rfl⟩
  · exact e _
  · show setP 124 (38 :: 124 :: ws) sg = _
    unfold setP
    rw [if_pos (Or.inl rfl)]
    exact e _
section SIM
variable (T : Nat → Int) (n : Nat)
/-- what each kind of reading comes to -/
def S0 (k : Nat) : Prop := ∀ (d a : Nat) (m ws : List Int), a ≤ n → 6 * (n + 1 - a) + 1 ≤ k → opn ws = d → d ≤ 4 → ((cqP T n k 0 d a m).1 = true → a < (cqP T n k 0 d a m).2.1 ∧ (cqP T n k 0 d a m).2.1 ≤ n ∧ eC T n a ws m true = eC T n (cqP T n k 0 d a m).2.1 (whlP ws (cqP T n k 0 d a m).2.2).1 (whlP ws (cqP T n k 0 d a m).2.2).2 false) ∧ ((cqP T n k 0 d a m).1 = false → fails (eC T n a ws m true) (cqP T n k 0 d a m).2.1)
def S1 (k : Nat) : Prop := ∀ (d a : Nat) (m ws : List Int), a ≤ n → 6 * (n + 1 - a) + 2 ≤ k → opn ws = d → d ≤ 4 → top ws ≠ 38 → top ws ≠ 33 → ((cqP T n k 1 d a m).1 = true → a < (cqP T n k 1 d a m).2.1 ∧ (cqP T n k 1 d a m).2.1 ≤ n ∧ nxP T n (cqP T n k 1 d a m).2.1 ≠ 38 ∧ ∃ p sg, pend p sg (cqP T n k 1 d a m).2.2 ∧ eC T n a ws m true = eC T n (cqP T n k 1 d a m).2.1 (p ++ ws) sg false) ∧ ((cqP T n k 1 d a m).1 = false → fails (eC T n a ws m true) (cqP T n k 1 d a m).2.1)
def S2 (k : Nat) : Prop := ∀ (d a : Nat) (m ws : List Int), a ≤ n → 6 * (n + 1 - a) + 3 ≤ k → opn ws = d → d ≤ 4 → top ws ≠ 38 → top ws ≠ 33 → top ws ≠ 124 → ((cqP T n k 2 d a m).1 = true → a < (cqP T n k 2 d a m).2.1 ∧ (cqP T n k 2 d a m).2.1 ≤ n ∧ ¬ (nxP T n (cqP T n k 2 d a m).2.1 = 38 ∨ nxP T n (cqP T n k 2 d a m).2.1 = 124) ∧ ∃ q sg, setP 124 q sg = (ws, (cqP T n k 2 d a m).2.2) ∧ eC T n a ws m true = eC T n (cqP T n k 2 d a m).2.1 q sg false) ∧ ((cqP T n k 2 d a m).1 = false → fails (eC T n a ws m true) (cqP T n k 2 d a m).2.1)
def S3 (k : Nat) : Prop := ∀ (d a : Nat) (m ws p sg : List Int), a ≤ n → 6 * (n + 1 - a) + 1 ≤ k → opn ws = d → d ≤ 4 → top ws ≠ 38 → top ws ≠ 33 → pend p sg m → ((cqP T n k 3 d a m).1 = true → a ≤ (cqP T n k 3 d a m).2.1 ∧ (cqP T n k 3 d a m).2.1 ≤ n ∧ nxP T n (cqP T n k 3 d a m).2.1 ≠ 38 ∧ ∃ p' sg', pend p' sg' (cqP T n k 3 d a m).2.2 ∧ eC T n a (p ++ ws) sg false = eC T n (cqP T n k 3 d a m).2.1 (p' ++ ws) sg' false) ∧ ((cqP T n k 3 d a m).1 = false → fails (eC T n a (p ++ ws) sg false) (cqP T n k 3 d a m).2.1)
def S4 (k : Nat) : Prop := ∀ (d a : Nat) (m ws q sg : List Int), a ≤ n → 6 * (n + 1 - a) + 1 ≤ k → opn ws = d → d ≤ 4 → top ws ≠ 38 → top ws ≠ 33 → top ws ≠ 124 → nxP T n a ≠ 38 → setP 124 q sg = (ws, m) → ((cqP T n k 4 d a m).1 = true → a ≤ (cqP T n k 4 d a m).2.1 ∧ (cqP T n k 4 d a m).2.1 ≤ n ∧ ¬ (nxP T n (cqP T n k 4 d a m).2.1 = 38 ∨ nxP T n (cqP T n k 4 d a m).2.1 = 124) ∧ ∃ q' sg', setP 124 q' sg' = (ws, (cqP T n k 4 d a m).2.2) ∧ eC T n a q sg false = eC T n (cqP T n k 4 d a m).2.1 q' sg' false) ∧ ((cqP T n k 4 d a m).1 = false → fails (eC T n a q sg false) (cqP T n k 4 d a m).2.1)
theorem sim_0 (k : Nat) (h0 : S0 T n k) (h2 : S2 T n k) : S0 T n (k + 1) := by
  intro d a m ws ha hk ho hd
  have ht : ∀ (hx : ¬ (nxP T n a = 33 ∨ nxP T n a = 40)), (((match testP T n a with | (b, none) => (false, b, m) | (b, some s) => (true, b, m ++ [s])) : Bool × Nat × List Int).1 = true → a < ((match testP T n a with | (b, none) => (false, b, m) | (b, some s) => (true, b, m ++ [s])) : Bool × Nat × List Int).2.1 ∧ ((match testP T n a with | (b, none) => (false, b, m) | (b, some s) => (true, b, m ++ [s])) : Bool × Nat × List Int).2.1 ≤ n ∧ eC T n a ws m true = eC T n ((match testP T n a with | (b, none) => (false, b, m) | (b, some s) => (true, b, m ++ [s])) : Bool × Nat × List Int).2.1 (whlP ws ((match testP T n a with | (b, none) => (false, b, m) | (b, some s) => (true, b, m ++ [s])) : Bool × Nat × List Int).2.2).1 (whlP ws ((match testP T n a with | (b, none) => (false, b, m) | (b, some s) => (true, b, m ++ [s])) : Bool × Nat × List Int).2.2).2 false) ∧ (((match testP T n a with | (b, none) => (false, b, m) | (b, some s) => (true, b, m ++ [s])) : Bool × Nat × List Int).1 = false → fails (eC T n a ws m true) ((match testP T n a with | (b, none) => (false, b, m) | (b, some s) => (true, b, m ++ [s])) : Bool × Nat × List Int).2.1) := by
    intro hx
    split
    · rename_i b e
      refine ⟨fun q => by simp at q, fun _ => ?_⟩
      rw [eC_bad ha hx e]
      exact ⟨rfl, rfl⟩
    · rename_i b s e
      have hb := testP_le e
      exact ⟨fun _ => ⟨by show a < b; omega, hb.2, eC_test ha hx e⟩, fun q => by simp at q⟩
  by_cases x1 : nxP T n a = 33
  · by_cases x2 : d < 4
    · obtain ⟨hl, es⟩ := eC_open (ws := ws) (sg := m) (Or.inl x1) (by omega)
      have ih := h0 (d + 1) (a + 1) m (33 :: ws) (by omega) (by omega) (by rw [opn_c ho, if_pos (Or.inl rfl)]; omega) (by omega)
      rw [x1] at es
      unfold cqP
      rw [if_pos ⟨x1, x2⟩]
      refine ⟨fun q => ?_, fun q => ?_⟩
      · obtain ⟨i1, i2, i3⟩ := ih.1 q
        refine ⟨by show a < (cqP T n k 0 (d + 1) (a + 1) m).2.1; omega, i2, ?_⟩
        rw [es, i3]
        have e : ∀ x, whlP (33 :: ws) x = whlP ws (x ++ [-33]) := fun x => by
          rw [whlP, if_pos rfl]
        rw [e]
      · rw [es]
        exact ih.2 q
    · have e4 : opn ws = 4 := by omega
      unfold cqP
      rw [if_neg (fun c => x2 c.2), if_neg (fun c => x2 c.2)]
      have e : testP T n a = (a, none) := by
        unfold testP
        rw [x1]
        rfl
      rw [e, eC_full ha (Or.inl x1) e4]
      exact ⟨fun q => by simp at q, fun _ => ⟨rfl, rfl⟩⟩
  · by_cases x3 : nxP T n a = 40
    · by_cases x2 : d < 4
      · obtain ⟨hl, es⟩ := eC_open (ws := ws) (sg := m) (Or.inr x3) (by omega)
        have ih := h2 (d + 1) (a + 1) m (40 :: ws) (by omega) (by omega) (by rw [opn_c ho, if_pos (Or.inr rfl)]; omega) (by omega) (by show (40 : Int) ≠ 38; decide) (by show (40 : Int) ≠ 33; decide) (by show (40 : Int) ≠ 124; decide)
        rw [x3] at es
        unfold cqP
        rw [if_neg (fun c => x1 c.1), if_pos ⟨x3, x2⟩]
        by_cases x4 : (cqP T n k 2 (d + 1) (a + 1) m).1 = true
        · obtain ⟨i1, i2, i3, q, sg, i4, i5⟩ := ih.1 x4
          by_cases x5 : nxP T n (cqP T n k 2 (d + 1) (a + 1) m).2.1 = 41
          · rw [if_pos ⟨x4, x5⟩]
            obtain ⟨hl2, ec⟩ := eC_close i3 i4 x5
            refine ⟨fun _ => ⟨by show a < _ + 1; omega, by show _ + 1 ≤ n; omega, ?_⟩, fun q => by simp at q⟩
            rw [es, i5, ec]
          · rw [if_neg (fun c => x5 c.2)]
            refine ⟨fun q => by simp at q, fun _ => ?_⟩
            rw [es, i5, eC_stop i2 i3 i4 x5]
            exact ⟨rfl, rfl⟩
        · rw [if_neg (fun c => x4 c.1)]
          refine ⟨fun q => by simp at q, fun _ => ?_⟩
          rw [es]
          exact ih.2 (Bool.not_eq_true _ ▸ x4)
      · have e4 : opn ws = 4 := by omega
        unfold cqP
        rw [if_neg (fun c => x2 c.2), if_neg (fun c => x2 c.2)]
        have e : testP T n a = (a, none) := by
          unfold testP
          rw [x3]
          rfl
        rw [e, eC_full ha (Or.inr x3) e4]
        exact ⟨fun q => by simp at q, fun _ => ⟨rfl, rfl⟩⟩
    · have hx : ¬ (nxP T n a = 33 ∨ nxP T n a = 40) := fun c => by
        rcases c with c | c
        · exact x1 c
        · exact x3 c
      unfold cqP
      rw [if_neg (fun c => x1 c.1), if_neg (fun c => x3 c.1)]
      exact ht hx
theorem sim_3 (k : Nat) (h0 : S0 T n k) (h3 : S3 T n k) : S3 T n (k + 1) := by
  intro d a m ws p sg ha hk ho hd t1 t2 hp
  by_cases x : nxP T n a = 38
  · obtain ⟨hl, es⟩ := eC_op (ws := p ++ ws) (sg := sg) (Or.inl x)
    rw [x, pend_set hp t1] at es
    have ih := h0 d (a + 1) m (38 :: ws) (by omega) (by omega) (by rw [opn_c ho, if_neg (by decide)]; omega) hd
    have ew : ∀ y, whlP (38 :: ws) y = (38 :: ws, y) := fun y => whl_top (by show (38 : Int) ≠ 33; decide)
    unfold cqP
    rw [if_pos x]
    by_cases x4 : (cqP T n k 0 d (a + 1) m).1 = true
    · obtain ⟨i1, i2, i3⟩ := ih.1 x4
      rw [ew] at i3
      rw [if_pos x4]
      have jh := h3 d (cqP T n k 0 d (a + 1) m).2.1 ((cqP T n k 0 d (a + 1) m).2.2 ++ [-38]) ws [38] (cqP T n k 0 d (a + 1) m).2.2 i2 (by omega) ho hd t1 t2 (Or.inr ⟨rfl, rfl⟩)
      refine ⟨fun q => ?_, fun q => ?_⟩
      · obtain ⟨j1, j2, j3, p', sg', j4, j5⟩ := jh.1 q
        exact ⟨by omega, j2, j3, p', sg', j4, by rw [es, i3]; exact j5⟩
      · rw [es, i3]
        exact jh.2 q
    · rw [if_neg x4]
      refine ⟨fun q => absurd q x4, fun q => ?_⟩
      rw [es]
      exact ih.2 q
  · unfold cqP
    rw [if_neg x]
    exact ⟨fun _ => ⟨Nat.le_refl _, ha, x, p, sg, hp, rfl⟩, fun q => by simp at q⟩
theorem sim_1 (k : Nat) (h0 : S0 T n k) (h3 : S3 T n k) : S1 T n (k + 1) := by
  intro d a m ws ha hk ho hd t1 t2
  have ih := h0 d a m ws ha (by omega) ho hd
  have ew : ∀ y, whlP ws y = (ws, y) := fun y => whl_top t2
  unfold cqP
  by_cases x4 : (cqP T n k 0 d a m).1 = true
  · obtain ⟨i1, i2, i3⟩ := ih.1 x4
    rw [ew] at i3
    rw [if_pos x4]
    have jh := h3 d (cqP T n k 0 d a m).2.1 (cqP T n k 0 d a m).2.2 ws [] (cqP T n k 0 d a m).2.2 i2 (by omega) ho hd t1 t2 (Or.inl ⟨rfl, rfl⟩)
    refine ⟨fun q => ?_, fun q => ?_⟩
    · obtain ⟨j1, j2, j3, p', sg', j4, j5⟩ := jh.1 q
      exact ⟨by omega, j2, j3, p', sg', j4, by rw [i3]; exact j5⟩
    · rw [i3]
      exact jh.2 q
  · rw [if_neg x4]
    exact ⟨fun q => absurd q x4, fun q => ih.2 q⟩
theorem sim_4 (k : Nat) (h1 : S1 T n k) (h4 : S4 T n k) : S4 T n (k + 1) := by
  intro d a m ws q sg ha hk ho hd t1 t2 t3 x38 hs
  by_cases x : nxP T n a = 124
  · obtain ⟨hl, es⟩ := eC_op (ws := q) (sg := sg) (Or.inr x)
    rw [x, hs] at es
    have ih := h1 d (a + 1) m (124 :: ws) (by omega) (by omega) (by rw [opn_c ho, if_neg (by decide)]; omega) hd (by show (124 : Int) ≠ 38; decide) (by show (124 : Int) ≠ 33; decide)
    unfold cqP
    rw [if_pos x]
    by_cases x4 : (cqP T n k 1 d (a + 1) m).1 = true
    · obtain ⟨i1, i2, i38, p, sg1, i3, i4⟩ := ih.1 x4
      rw [if_pos x4]
      have jh := h4 d (cqP T n k 1 d (a + 1) m).2.1 ((cqP T n k 1 d (a + 1) m).2.2 ++ [-124]) ws (p ++ 124 :: ws) sg1 i2 (by omega) ho hd t1 t2 t3 i38 (pend_set3 i3 t1 t3)
      refine ⟨fun z => ?_, fun z => ?_⟩
      · obtain ⟨j1, j2, j3, p', sg', j4, j5⟩ := jh.1 z
        exact ⟨by omega, j2, j3, p', sg', j4, by rw [es, i4]; exact j5⟩
      · rw [es, i4]
        exact jh.2 z
    · rw [if_neg x4]
      refine ⟨fun z => absurd z x4, fun z => ?_⟩
      rw [es]
      exact ih.2 z
  · unfold cqP
    rw [if_neg x]
    exact ⟨fun _ => ⟨Nat.le_refl _, ha, fun c => by rcases c with c | c; exact x38 c; exact x c, q, sg, hs, rfl⟩, fun z => by simp at z⟩
theorem sim_2 (k : Nat) (h1 : S1 T n k) (h4 : S4 T n k) : S2 T n (k + 1) := by
  intro d a m ws ha hk ho hd t1 t2 t3
  have ih := h1 d a m ws ha (by omega) ho hd t1 t2
  unfold cqP
  by_cases x4 : (cqP T n k 1 d a m).1 = true
  · obtain ⟨i1, i2, i38, p, sg1, i3, i4⟩ := ih.1 x4
    rw [if_pos x4]
    have jh := h4 d (cqP T n k 1 d a m).2.1 (cqP T n k 1 d a m).2.2 ws (p ++ ws) sg1 i2 (by omega) ho hd t1 t2 t3 i38 (pend_set2 i3 t1 t3)
    refine ⟨fun z => ?_, fun z => ?_⟩
    · obtain ⟨j1, j2, j3, p', sg', j4, j5⟩ := jh.1 z
      exact ⟨by omega, j2, j3, p', sg', j4, by rw [i4]; exact j5⟩
    · rw [i4]
      exact jh.2 z
  · rw [if_neg x4]
    exact ⟨fun z => absurd z x4, fun z => ih.2 z⟩
theorem sim_all : ∀ k, S0 T n k ∧ S1 T n k ∧ S2 T n k ∧ S3 T n k ∧ S4 T n k
  | 0 => ⟨fun d a m ws ha hk => by omega, fun d a m ws ha hk => by omega, fun d a m ws ha hk => by omega, fun d a m ws p sg ha hk => by omega, fun d a m ws q sg ha hk => by omega⟩
  | k + 1 => by
    obtain ⟨h0, h1, h2, h3, h4⟩ := sim_all k
    exact ⟨sim_0 T n k h0 h2, sim_1 T n k h0 h3, sim_2 T n k h1 h4, sim_3 T n k h0 h3, sim_4 T n k h1 h4⟩
/-- an E, read by descent -/
def ecP (a : Nat) (m : List Int) : Bool × Nat × List Int := cqP T n 609 2 0 a m
/-- both ways come to the same -/
theorem ec_sim (hn : n ≤ 100) (a : Nat) (m : List Int) (ha : a ≤ n) : ((ecP T n a m).1 = true → a < (ecP T n a m).2.1 ∧ (ecP T n a m).2.1 ≤ n ∧ eC T n a [] m true = (true, (ecP T n a m).2.1, [], (ecP T n a m).2.2)) ∧ ((ecP T n a m).1 = false → fails (eC T n a [] m true) (ecP T n a m).2.1) := by
  have h := (sim_all T n 609).2.2.1 0 a m [] ha (by omega) rfl (by decide) (by show (0 : Int) ≠ 38; decide) (by show (0 : Int) ≠ 33; decide) (by show (0 : Int) ≠ 124; decide)
  refine ⟨fun q => ?_, fun q => h.2 q⟩
  obtain ⟨i1, i2, i3, p, sg, i4, i5⟩ := h.1 q
  exact ⟨i1, i2, by rw [i5]; exact eC_end i2 i3 i4⟩
end SIM
end JN99tw0spec
section JN99tw0bmore
/-! A few more instructions: constant texts, the yard that is read into. -/
section WALK3
variable {X : Scr} {dp y pc p0 len t : Nat} {o : List Nat} {L st : List Value} {h : Hp} {Q : Option Value → Hp → Prop}
theorem e_ldcS {j z idx : Nat} (he : pAt y pc = some (p0, .ldc idx, len, [1, j, z])) (hj : j < 5) (e : Ends X dp y (pc + 2) L (.ref (OLDB + 3 + j) :: st) h Q) : Ends X dp y pc L st h Q := by
  refine e_pure he rfl rfl ?_ e
  show (if j < 5 then some (pc + 2, L, Value.ref (OLDB + 3 + j) :: st) else none).map _ = _
  rw [if_pos hj]
  rfl
theorem e_aload_nS {k : Fin 4} {a : Nat} (he : pAt y pc = some (p0, .aload_n k, len, o)) (hL : L[(k : Nat)]? = some (.ref a)) (ha : ¬ a = OLDB + 13) (e : Ends X dp y (pc + 1) L (.ref a :: st) h Q) : Ends X dp y pc L st h Q := by
  refine e_pure he rfl rfl ?_ e
  show (match L[(k : Nat)]? with | some (.ref x) => if x = OLDB + 13 then none else some (pc + 1, L, Value.ref x :: st) | _ => none).map _ = _
  rw [hL]
  simp only
  rw [if_neg ha]
  rfl
theorem e_gs3 {idx z w : Nat} (he : pAt y pc = some (p0, .getstatic idx, len, [2, z, w])) (e : Ends X dp y (pc + 3) L (.int 1 :: st) h Q) : Ends X dp y pc L st h Q := e_pure he rfl rfl rfl e
theorem e_gs4 {idx z w : Nat} (he : pAt y pc = some (p0, .getstatic idx, len, [3, z, w])) (e : Ends X dp y (pc + 3) L (.ref (OLDB + 13) :: st) h Q) : Ends X dp y pc L st h Q := e_pure he rfl rfl rfl e
theorem e_i2c {a : Int32} (he : pAt y pc = some (p0, .i2c, len, o)) (e : Ends X dp y (pc + 1) L (.int (a.toUInt32 % 65536).toInt32 :: st) h Q) : Ends X dp y pc L (.int a :: st) h Q := e_pure he rfl rfl rfl e
theorem e_gSa {idx z w a : Nat} (he : pAt y pc = some (p0, .getfield idx, len, [9, 0, z, w])) (h1 : OLDB + 3 ≤ a) (h2 : a < OLDB + 8) (e : Ends X dp y (pc + 3) L (.ref (a + 5) :: st) h Q) : Ends X dp y pc L (.ref a :: st) h Q := by
  refine e_pure he rfl rfl ?_ e
  show ((if OLDB + 3 ≤ a ∧ a < OLDB + 8 then some (Value.ref (a + 5) :: st) else none).map (fun st' => (pc + 3, L, st', h))) = _
  rw [if_pos ⟨h1, h2⟩]
  rfl
theorem e_gSb {idx z w a : Nat} (he : pAt y pc = some (p0, .getfield idx, len, [9, 1, z, w])) (h1 : OLDB + 3 ≤ a) (h2 : a < OLDB + 8) (e : Ends X dp y (pc + 3) L (.int 0 :: st) h Q) : Ends X dp y pc L (.ref a :: st) h Q := by
  refine e_pure he rfl rfl ?_ e
  show ((if OLDB + 3 ≤ a ∧ a < OLDB + 8 then some (Value.int 0 :: st) else none).map (fun st' => (pc + 3, L, st', h))) = _
  rw [if_pos ⟨h1, h2⟩]
  rfl
theorem e_gS0 {idx z w s : Nat} (he : pAt y pc = some (p0, .getfield idx, len, [9, 0, z, w])) (hs5 : s < 5) (e : Ends X dp y (pc + 3) L (.ref (OLDB + 8 + s) :: st) h Q) : Ends X dp y pc L (.ref (OLDB + 3 + s) :: st) h Q := by
  refine e_gSa he (by omega) (by omega) ?_
  rw [show OLDB + 3 + s + 5 = OLDB + 8 + s by omega]
  exact e
theorem e_gS1 {idx z w s : Nat} (he : pAt y pc = some (p0, .getfield idx, len, [9, 1, z, w])) (hs5 : s < 5) (e : Ends X dp y (pc + 3) L (.int 0 :: st) h Q) : Ends X dp y pc L (.ref (OLDB + 3 + s) :: st) h Q := e_gSb he (by omega) (by omega) e
theorem old_s {s : Nat} (hs5 : s < 5) : oldArr X (8 + s) = some (5, strL.getD s 0, fun i => (strB.getD s []).getD i 0) := by
  unfold oldArr
  rw [if_neg (by omega), if_neg (by omega), if_neg (by omega), if_pos (by omega), show 8 + s - 8 = s by omega]
theorem e_alen0 (he : pAt y pc = some (p0, .arraylength, len, o)) (e : Ends X dp y (pc + 1) L (.int (Int32.ofNat (strL.getD 0 0)) :: st) h Q) : Ends X dp y pc L (.ref (OLDB + 8 + 0) :: st) h Q := by
  refine e_pure he rfl rfl ?_ e
  simp only [hstep]
  have h7 : oldArr X 8 = some (5, strL.getD 0 0, fun i => (strB.getD 0 []).getD i 0) := rfl
  have hn : ¬ OLDB + 8 + 0 < OLDB := by omega
  rw [if_neg hn, show OLDB + 8 + 0 - OLDB = 8 by omega, h7]
theorem e_bald0 {j : Int32} (he : pAt y pc = some (p0, .baload, len, o)) (hj : inB j (strL.getD 0 0) = true) (e : Ends X dp y (pc + 1) L (.int ((strB.getD 0 []).getD j.toNatClampNeg 0) :: st) h Q) : Ends X dp y pc L (.int j :: .ref (OLDB + 8 + 0) :: st) h Q := by
  refine e_pure he rfl rfl ?_ e
  simp only [hstep]
  have h7 : oldArr X 8 = some (5, strL.getD 0 0, fun i => (strB.getD 0 []).getD i 0) := rfl
  have hn : ¬ OLDB + 8 + 0 < OLDB := by omega
  rw [if_neg hn, show OLDB + 8 + 0 - OLDB = 8 by omega, h7]
  simp only
  rw [if_pos hj]
theorem e_alen1 (he : pAt y pc = some (p0, .arraylength, len, o)) (e : Ends X dp y (pc + 1) L (.int (Int32.ofNat (strL.getD 1 0)) :: st) h Q) : Ends X dp y pc L (.ref (OLDB + 8 + 1) :: st) h Q := by
  refine e_pure he rfl rfl ?_ e
  simp only [hstep]
  have h7 : oldArr X 9 = some (5, strL.getD 1 0, fun i => (strB.getD 1 []).getD i 0) := rfl
  have hn : ¬ OLDB + 8 + 1 < OLDB := by omega
  rw [if_neg hn, show OLDB + 8 + 1 - OLDB = 9 by omega, h7]
theorem e_bald1 {j : Int32} (he : pAt y pc = some (p0, .baload, len, o)) (hj : inB j (strL.getD 1 0) = true) (e : Ends X dp y (pc + 1) L (.int ((strB.getD 1 []).getD j.toNatClampNeg 0) :: st) h Q) : Ends X dp y pc L (.int j :: .ref (OLDB + 8 + 1) :: st) h Q := by
  refine e_pure he rfl rfl ?_ e
  simp only [hstep]
  have h7 : oldArr X 9 = some (5, strL.getD 1 0, fun i => (strB.getD 1 []).getD i 0) := rfl
  have hn : ¬ OLDB + 8 + 1 < OLDB := by omega
  rw [if_neg hn, show OLDB + 8 + 1 - OLDB = 9 by omega, h7]
  simp only
  rw [if_pos hj]
theorem e_alen2 (he : pAt y pc = some (p0, .arraylength, len, o)) (e : Ends X dp y (pc + 1) L (.int (Int32.ofNat (strL.getD 2 0)) :: st) h Q) : Ends X dp y pc L (.ref (OLDB + 8 + 2) :: st) h Q := by
  refine e_pure he rfl rfl ?_ e
  simp only [hstep]
  have h7 : oldArr X 10 = some (5, strL.getD 2 0, fun i => (strB.getD 2 []).getD i 0) := rfl
  have hn : ¬ OLDB + 8 + 2 < OLDB := by omega
  rw [if_neg hn, show OLDB + 8 + 2 - OLDB = 10 by omega, h7]
theorem e_bald2 {j : Int32} (he : pAt y pc = some (p0, .baload, len, o)) (hj : inB j (strL.getD 2 0) = true) (e : Ends X dp y (pc + 1) L (.int ((strB.getD 2 []).getD j.toNatClampNeg 0) :: st) h Q) : Ends X dp y pc L (.int j :: .ref (OLDB + 8 + 2) :: st) h Q := by
  refine e_pure he rfl rfl ?_ e
  simp only [hstep]
  have h7 : oldArr X 10 = some (5, strL.getD 2 0, fun i => (strB.getD 2 []).getD i 0) := rfl
  have hn : ¬ OLDB + 8 + 2 < OLDB := by omega
  rw [if_neg hn, show OLDB + 8 + 2 - OLDB = 10 by omega, h7]
  simp only
  rw [if_pos hj]
theorem e_alen3 (he : pAt y pc = some (p0, .arraylength, len, o)) (e : Ends X dp y (pc + 1) L (.int (Int32.ofNat (strL.getD 3 0)) :: st) h Q) : Ends X dp y pc L (.ref (OLDB + 8 + 3) :: st) h Q := by
  refine e_pure he rfl rfl ?_ e
  simp only [hstep]
  have h7 : oldArr X 11 = some (5, strL.getD 3 0, fun i => (strB.getD 3 []).getD i 0) := rfl
  have hn : ¬ OLDB + 8 + 3 < OLDB := by omega
  rw [if_neg hn, show OLDB + 8 + 3 - OLDB = 11 by omega, h7]
theorem e_bald3 {j : Int32} (he : pAt y pc = some (p0, .baload, len, o)) (hj : inB j (strL.getD 3 0) = true) (e : Ends X dp y (pc + 1) L (.int ((strB.getD 3 []).getD j.toNatClampNeg 0) :: st) h Q) : Ends X dp y pc L (.int j :: .ref (OLDB + 8 + 3) :: st) h Q := by
  refine e_pure he rfl rfl ?_ e
  simp only [hstep]
  have h7 : oldArr X 11 = some (5, strL.getD 3 0, fun i => (strB.getD 3 []).getD i 0) := rfl
  have hn : ¬ OLDB + 8 + 3 < OLDB := by omega
  rw [if_neg hn, show OLDB + 8 + 3 - OLDB = 11 by omega, h7]
  simp only
  rw [if_pos hj]
theorem e_alen4 (he : pAt y pc = some (p0, .arraylength, len, o)) (e : Ends X dp y (pc + 1) L (.int (Int32.ofNat (strL.getD 4 0)) :: st) h Q) : Ends X dp y pc L (.ref (OLDB + 8 + 4) :: st) h Q := by
  refine e_pure he rfl rfl ?_ e
  simp only [hstep]
  have h7 : oldArr X 12 = some (5, strL.getD 4 0, fun i => (strB.getD 4 []).getD i 0) := rfl
  have hn : ¬ OLDB + 8 + 4 < OLDB := by omega
  rw [if_neg hn, show OLDB + 8 + 4 - OLDB = 12 by omega, h7]
theorem e_bald4 {j : Int32} (he : pAt y pc = some (p0, .baload, len, o)) (hj : inB j (strL.getD 4 0) = true) (e : Ends X dp y (pc + 1) L (.int ((strB.getD 4 []).getD j.toNatClampNeg 0) :: st) h Q) : Ends X dp y pc L (.int j :: .ref (OLDB + 8 + 4) :: st) h Q := by
  refine e_pure he rfl rfl ?_ e
  simp only [hstep]
  have h7 : oldArr X 12 = some (5, strL.getD 4 0, fun i => (strB.getD 4 []).getD i 0) := rfl
  have hn : ¬ OLDB + 8 + 4 < OLDB := by omega
  rw [if_neg hn, show OLDB + 8 + 4 - OLDB = 12 by omega, h7]
  simp only
  rw [if_pos hj]
theorem e_alenS {s : Nat} (he : pAt y pc = some (p0, .arraylength, len, o)) (hs5 : s < 5) (e : Ends X dp y (pc + 1) L (.int (Int32.ofNat (strL.getD s 0)) :: st) h Q) : Ends X dp y pc L (.ref (OLDB + 8 + s) :: st) h Q := by
  match s, hs5, e with
  | 0, _, e => exact e_alen0 he e
  | 1, _, e => exact e_alen1 he e
  | 2, _, e => exact e_alen2 he e
  | 3, _, e => exact e_alen3 he e
  | 4, _, e => exact e_alen4 he e
  | s + 5, h, _ => omega
theorem e_baldS {s : Nat} {j : Int32} (he : pAt y pc = some (p0, .baload, len, o)) (hs5 : s < 5) (hj : inB j (strL.getD s 0) = true) (e : Ends X dp y (pc + 1) L (.int ((strB.getD s []).getD j.toNatClampNeg 0) :: st) h Q) : Ends X dp y pc L (.int j :: .ref (OLDB + 8 + s) :: st) h Q := by
  match s, hs5, hj, e with
  | 0, _, hj, e => exact e_bald0 he hj e
  | 1, _, hj, e => exact e_bald1 he hj e
  | 2, _, hj, e => exact e_bald2 he hj e
  | 3, _, hj, e => exact e_bald3 he hj e
  | 4, _, hj, e => exact e_bald4 he hj e
  | s + 5, h, _, _ => omega
theorem call_str {c na s : Nat} {st : List Value} {h : Hp} (hst : (st.take na).reverse.head? = some (.ref (OLDB + 3 + s))) (hb : (decide (na ≤ st.length) && decide (catSum (st.drop na) ≤ 8) && (st.take na).all argOK && decide ((entL0 (st.take na).reverse).length ≤ mMaxL c)) = true) (hc : decide (mCi c = 9) = true) (hs5 : s < 5) : callOK c na 0 st h = true := by
  unfold callOK
  rw [hb]
  simp only [Bool.true_and]
  rw [if_neg (by decide)]
  match hl : (st.take na).reverse, hst with
  | v :: l, hst =>
    cases hst
    simp only
    rw [if_pos trivial]
    unfold recvOK
    have hn : ¬ OLDB + 3 + s < OLDB := by omega
    simp only
    rw [if_neg hn, hc, decide_eq_true (by omega : OLDB + 3 ≤ OLDB + 3 + s), decide_eq_true (by omega : OLDB + 3 + s < OLDB + 8)]
    rfl
end WALK3
/-- the six yards of the class -/
def YQ (q : Nat) : Prop := q ∈ [63, 68, 73, 78, 83, 88]
theorem yq {P : Nat → Bool} {q : Nat} (h : YQ q) (hp : [63, 68, 73, 78, 83, 88].all P = true) : P q = true := List.all_eq_true.mp hp q h
theorem yq_rng {q : Nat} (h : YQ q) : 63 ≤ q ∧ q ≤ 88 := by
  have := yq (P := fun q => decide (63 ≤ q) && decide (q ≤ 88)) h (by decide)
  simpa using this
/-- the yard that is read into -/
def hpQ (h : Hp) (q : Nat) : Hp := (h.1, h.2.1, h.2.2.1, ud h.2.2.2 44 3 (some q))
theorem yq_rst {q : Nat} (h : YQ q) : q ∈ rst 44 3 := of_decide_eq_true (yq (P := fun q => decide (q ∈ rst 44 3)) h (by decide +kernel))
theorem ref_Q {h : Hp} {q : Nat} (hY : YQ q) (hr : ∀ a k, rst a k ≠ [] → ∃ b ∈ rst a k, h.2.2.2 a k = some b) : ∀ a k, rst a k ≠ [] → ∃ b ∈ rst a k, (hpQ h q).2.2.2 a k = some b := by
  intro a k hn
  show ∃ b ∈ rst a k, ud h.2.2.2 44 3 (some q) a k = some b
  by_cases c : a = 44 ∧ k = 3
  · obtain ⟨rfl, rfl⟩ := c
    exact ⟨q, yq_rst hY, by unfold ud; simp⟩
  · obtain ⟨b, hb, e⟩ := hr a k hn
    refine ⟨b, hb, ?_⟩
    rw [← e]
    unfold ud
    by_cases d : a = 44
    · subst d
      have : ¬ k = 3 := fun q => c ⟨rfl, q⟩
      simp [this]
    · simp [d]
theorem hs_Q {h : Hp} {q : Nat} (hY : YQ q) (hs : HS h) : HS (hpQ h q) := ⟨hs.1, ref_Q hY hs.2⟩
theorem HI_Q {h : Hp} {q : Nat} (hY : YQ q) (hh : HI h) : HI (hpQ h q) := ⟨hh.1, hh.2.1, ref_Q hY hh.2.2⟩
theorem hpQ_at {h : Hp} {q : Nat} : (hpQ h q).2.2.2 44 3 = some q := by
  show ud h.2.2.2 44 3 (some q) 44 3 = _
  unfold ud
  simp
theorem e_pQ {X : Scr} {dp y pc p0 len q idx z w : Nat} {L st : List Value} {h : Hp} {Q : Option Value → Hp → Prop} (he : pAt y pc = some (p0, .putfield idx, len, [4, 3, z, w])) (hs : HS h) (hY : YQ q) (e : Ends X dp y (pc + 3) L st (hpQ h q) Q) : Ends X dp y pc L (.ref q :: .ref 44 :: st) h Q := by
  refine Ends.step he (isRet_none rfl) rfl (pc' := pc + 3) (L' := L) (st' := st) (h' := hpQ h q) ?_ e
  have hB := OLDB_eq
  have hr := yq_rng hY
  have h6 : 44 < OLDB ∧ h.1[44]? = some (.inr 4) ∧ 3 < vwN 4 := ⟨by omega, by rw [hs.1]; decide +kernel, by decide +kernel⟩
  have h7 : isRefTy (vwTy 4 3) = true ∧ q < OLDB := ⟨by decide +kernel, by omega⟩
  show (putF [4, 3, z, w] (.ref q :: .ref 44 :: st) h).map (fun q => (pc + 3, L, q.1, q.2)) = _
  unfold putF
  simp only
  rw [if_pos h6, if_pos h7]
  rfl
theorem e_retN {X : Scr} {dp y pc p0 len : Nat} {o : List Nat} {L : List Value} {h : Hp} {Q : Option Value → Hp → Prop} {x : Int32} {ty : FieldType} (he : pAt y pc = some (p0, .ireturn, len, o)) (hr : mRet y = some ty) (hi : isRefTy ty = false) (hn : narrow ty (.int x) = .int x) (hq : Q (some (.int x)) h) : Ends X dp y pc L [.int x] h Q := by
  refine Ends.ret he ?_ hq
  show some (retI y [.int x] h) = _
  unfold retI
  rw [hr]
  simp only
  rw [if_pos ⟨hi, hn⟩]
end JN99tw0bmore
section JN99tw1cwalks
/-! What is owed for the class's reading of texts. -/
theorem w_slen {X : Scr} {dp : Nat} {h : Hp} {Q : Option Value → Hp → Prop} {s : Nat} (hs5 : s < 5) (hs : HS h)
    (vc : Ends X dp 213 0 [.ref (OLDB + 3 + s)] [] h (fun rv h1 => ∃ r2, rv = some (.int r2) ∧ HS h1 ∧ Q (some (.int ((Int32.ofNat (strL.getD s 0)) >>> (r2 &&& 31)))) h1)) :
    Ends X (dp + 1) 209 0 [.ref (OLDB + 3 + s)] [] h Q := by
  have ra : ∀ {a : Nat}, a < 1000 → a ≤ OLDB := fun h => by have := OLDB_eq; omega
  refine e_aload_nS (show pAt 209 0 = some (0, .aload_n 0, 1, []) from by decide +kernel) rfl (by omega) ?_
  refine e_gS0 (show pAt 209 1 = some (1, .getfield 9, 3, [9, 0, 0, 6219]) from by decide +kernel) hs5 ?_
  refine e_alenS (show pAt 209 4 = some (4, .arraylength, 1, []) from by decide +kernel) hs5 ?_
  refine e_aload_nS (show pAt 209 5 = some (5, .aload_n 0, 1, []) from by decide +kernel) rfl (by omega) ?_
  refine Ends.call (show pAt 209 6 = some (6, .invokevirtual 335, 3, [213, 1, 0, 0, 3024, 3025, 3026]) from by decide +kernel) (isRet_none rfl) rfl (call_str rfl rfl (by decide) hs5) (Ends.mono vc ?_)
  rintro _ h1 ⟨r2, rfl, hs_h1, vc⟩
  refine e_ishr (show pAt 209 9 = some (9, .ishr, 1, []) from by decide +kernel) ?_
  exact e_retI (show pAt 209 10 = some (10, .ireturn, 1, []) from by decide +kernel) rfl vc

theorem w_scod {X : Scr} {dp : Nat} {h : Hp} {Q : Option Value → Hp → Prop} {s : Nat} (hs5 : s < 5) (hs : HS h)
    (vc : narrow .byte (.int 0) = .int 0 ∧ Q (some (.int 0)) h) :
    Ends X dp 213 0 [.ref (OLDB + 3 + s)] [] h Q := by
  have ra : ∀ {a : Nat}, a < 1000 → a ≤ OLDB := fun h => by have := OLDB_eq; omega
  refine e_gs3 (show pAt 213 0 = some (0, .getstatic 38, 3, [2, 0, 3028]) from by decide +kernel) ?_
  refine e_if (t := 13) (show pAt 213 3 = some (3, .ifCond .eq 10, 3, []) from by decide +kernel) rfl (fun c1 => absurd c1 (by decide)) (fun c1 => ?_)
  refine e_aload_nS (show pAt 213 6 = some (6, .aload_n 0, 1, []) from by decide +kernel) rfl (by omega) ?_
  refine e_gS1 (show pAt 213 7 = some (7, .getfield 15, 3, [9, 1, 0, 6220]) from by decide +kernel) hs5 ?_
  refine e_goto (t := 14) (show pAt 213 10 = some (10, .goto 4, 3, []) from by decide +kernel) rfl ?_
  exact e_retN (show pAt 213 14 = some (14, .ireturn, 1, []) from by decide +kernel) rfl rfl vc.1 vc.2

theorem w_slat {X : Scr} {dp : Nat} {h : Hp} {Q : Option Value → Hp → Prop} {s : Nat} (hs5 : s < 5) (hs : HS h)
    (vc : Q (some (.int 1)) h) :
    Ends X dp 214 0 [.ref (OLDB + 3 + s)] [] h Q := by
  have ra : ∀ {a : Nat}, a < 1000 → a ≤ OLDB := fun h => by have := OLDB_eq; omega
  refine e_gs3 (show pAt 214 0 = some (0, .getstatic 38, 3, [2, 0, 3028]) from by decide +kernel) ?_
  refine e_if (t := 17) (show pAt 214 3 = some (3, .ifCond .eq 14, 3, []) from by decide +kernel) rfl (fun c1 => absurd c1 (by decide)) (fun c1 => ?_)
  refine e_aload_nS (show pAt 214 6 = some (6, .aload_n 0, 1, []) from by decide +kernel) rfl (by omega) ?_
  refine e_gS1 (show pAt 214 7 = some (7, .getfield 15, 3, [9, 1, 0, 6220]) from by decide +kernel) hs5 ?_
  refine e_if (t := 17) (show pAt 214 10 = some (10, .ifCond .ne 7, 3, []) from by decide +kernel) rfl (fun c2 => absurd c2 (by decide)) (fun c2 => ?_)
  refine e_iconst (c := 1) (show pAt 214 13 = some (13, .iconst 1, 1, []) from by decide +kernel) (by decide) ?_
  refine e_goto (t := 18) (show pAt 214 14 = some (14, .goto 4, 3, []) from by decide +kernel) rfl ?_
  exact e_retZ (show pAt 214 18 = some (18, .ireturn, 1, []) from by decide +kernel) rfl (by decide) vc

theorem w_pci {X : Scr} {dp : Nat} {h : Hp} {Q : Option Value → Hp → Prop} (i : Int32) (n : Int32) (hs : HS h)
    (vc : ((condB .lt i 0 = true → False) ∧ (condB .lt i 0 = false → ((condB .lt i n = true → Q (some (.int i)) h) ∧ (condB .lt i n = false → False))))) :
    Ends X dp 222 0 [.int i, .int n, .ref (OLDB + 13)] [] h Q := by
  have ra : ∀ {a : Nat}, a < 1000 → a ≤ OLDB := fun h => by have := OLDB_eq; omega
  refine e_iload_n (show pAt 222 0 = some (0, .iload_n 0, 1, []) from by decide +kernel) rfl ?_
  refine e_if (t := 9) (show pAt 222 1 = some (1, .ifCond .lt 8, 3, []) from by decide +kernel) rfl (fun c1 => ?_) (fun c1 => ?_)
  · replace vc := vc.1 c1
    exact vc.elim
  · replace vc := vc.2 c1
    refine e_iload_n (show pAt 222 4 = some (4, .iload_n 0, 1, []) from by decide +kernel) rfl ?_
    refine e_iload_n (show pAt 222 5 = some (5, .iload_n 1, 1, []) from by decide +kernel) rfl ?_
    refine e_icmp (t := 16) (show pAt 222 6 = some (6, .if_icmp .lt 10, 3, []) from by decide +kernel) rfl (fun c2 => ?_) (fun c2 => ?_)
    · replace vc := vc.1 c2
      refine e_iload_n (show pAt 222 16 = some (16, .iload_n 0, 1, []) from by decide +kernel) rfl ?_
      exact e_retI (show pAt 222 17 = some (17, .ireturn, 1, []) from by decide +kernel) rfl vc
    · replace vc := vc.2 c2
      exact vc.elim

theorem w_sci {X : Scr} {dp : Nat} {h : Hp} {Q : Option Value → Hp → Prop} (i : Int32) (n : Int32) (hs : HS h)
    (vc : Ends X dp 222 0 [.int i, .int n, .ref (OLDB + 13)] [] h (fun rv h1 => ∃ r2, rv = some (.int r2) ∧ HS h1 ∧ Q none h1)) :
    Ends X (dp + 1) 215 0 [.int i, .int n] [] h Q := by
  refine e_iload_n (show pAt 215 0 = some (0, .iload_n 0, 1, []) from by decide +kernel) rfl ?_
  refine e_iload_n (show pAt 215 1 = some (1, .iload_n 1, 1, []) from by decide +kernel) rfl ?_
  refine e_gs4 (show pAt 215 2 = some (2, .getstatic 1053, 3, [3, 0, 3044]) from by decide +kernel) ?_
  refine Ends.call (show pAt 215 5 = some (5, .invokestatic 1059, 3, [222, 3, 2, 0, 3046, 3047, 0]) from by decide +kernel) (isRet_none rfl) rfl rfl (Ends.mono vc ?_)
  rintro _ h1 ⟨r2, rfl, hs_h1, vc⟩
  refine e_pop (show pAt 215 8 = some (8, .pop, 1, []) from by decide +kernel) ?_
  exact e_retV (show pAt 215 9 = some (9, .return_, 1, []) from by decide +kernel) rfl vc

theorem w_lch {X : Scr} {dp : Nat} {h : Hp} {Q : Option Value → Hp → Prop} {s : Nat} (hs5 : s < 5) (i : Int32) (hs : HS h)
    (vc : Ends X dp 215 0 [.int i, .int (Int32.ofNat (strL.getD s 0))] [] h (fun rv h1 => rv = none ∧ HS h1 ∧ (inB i (strL.getD s 0) = true ∧ narrow .char (.int (((((strB.getD s []).getD i.toNatClampNeg 0) &&& 255).toUInt32 % 65536).toInt32)) = .int (((((strB.getD s []).getD i.toNatClampNeg 0) &&& 255).toUInt32 % 65536).toInt32) ∧ Q (some (.int (((((strB.getD s []).getD i.toNatClampNeg 0) &&& 255).toUInt32 % 65536).toInt32))) h1))) :
    Ends X (dp + 1) 216 0 [.ref (OLDB + 8 + s), .int i] [] h Q := by
  have ra : ∀ {a : Nat}, a < 1000 → a ≤ OLDB := fun h => by have := OLDB_eq; omega
  refine e_iload_n (show pAt 216 0 = some (0, .iload_n 1, 1, []) from by decide +kernel) rfl ?_
  refine e_aload_nS (show pAt 216 1 = some (1, .aload_n 0, 1, []) from by decide +kernel) rfl (by omega) ?_
  refine e_alenS (show pAt 216 2 = some (2, .arraylength, 1, []) from by decide +kernel) hs5 ?_
  refine Ends.call (show pAt 216 3 = some (3, .invokestatic 9, 3, [215, 2, 2, 0, 3041, 3042, 0]) from by decide +kernel) (isRet_none rfl) rfl rfl (Ends.mono vc ?_)
  rintro _ h1 ⟨rfl, hs_h1, vc⟩
  refine e_aload_nS (show pAt 216 6 = some (6, .aload_n 0, 1, []) from by decide +kernel) rfl (by omega) ?_
  refine e_iload_n (show pAt 216 7 = some (7, .iload_n 1, 1, []) from by decide +kernel) rfl ?_
  obtain ⟨c4, vc⟩ := vc
  refine e_baldS (show pAt 216 8 = some (8, .baload, 1, []) from by decide +kernel) hs5 c4 ?_
  refine e_sipush (c := 255) (show pAt 216 9 = some (9, .sipush 255, 3, []) from by decide +kernel) (by decide) ?_
  refine e_iand (show pAt 216 12 = some (12, .iand, 1, []) from by decide +kernel) ?_
  refine e_i2c (show pAt 216 13 = some (13, .i2c, 1, []) from by decide +kernel) ?_
  exact e_retN (show pAt 216 14 = some (14, .ireturn, 1, []) from by decide +kernel) rfl rfl vc.1 vc.2

theorem w_sch {X : Scr} {dp : Nat} {h : Hp} {Q : Option Value → Hp → Prop} {s : Nat} (hs5 : s < 5) (i : Int32) (hs : HS h)
    (vc : Ends X dp 214 0 [.ref (OLDB + 3 + s)] [] h (fun rv h1 => ∃ r2, rv = some (.int r2) ∧ HS h1 ∧ ((condB .eq r2 0 = true → False) ∧ (condB .eq r2 0 = false → Ends X dp 216 0 [.ref (OLDB + 8 + s), .int i] [] h1 (fun rv h5 => ∃ r6, rv = some (.int r6) ∧ HS h5 ∧ narrow .char (.int r6) = .int r6 ∧ Q (some (.int r6)) h5))))) :
    Ends X (dp + 1) 210 0 [.ref (OLDB + 3 + s), .int i] [] h Q := by
  have ra : ∀ {a : Nat}, a < 1000 → a ≤ OLDB := fun h => by have := OLDB_eq; omega
  refine e_aload_nS (show pAt 210 0 = some (0, .aload_n 0, 1, []) from by decide +kernel) rfl (by omega) ?_
  refine Ends.call (show pAt 210 1 = some (1, .invokevirtual 492, 3, [214, 1, 0, 0, 3034, 3035, 3036]) from by decide +kernel) (isRet_none rfl) rfl (call_str rfl rfl (by decide) hs5) (Ends.mono vc ?_)
  rintro _ h1 ⟨r2, rfl, hs_h1, vc⟩
  refine e_if (t := 16) (show pAt 210 4 = some (4, .ifCond .eq 12, 3, []) from by decide +kernel) rfl (fun c4 => ?_) (fun c4 => ?_)
  · replace vc := vc.1 c4
    refine e_aload_nS (show pAt 210 16 = some (16, .aload_n 0, 1, []) from by decide +kernel) rfl (by omega) ?_
    refine e_gS0 (show pAt 210 17 = some (17, .getfield 9, 3, [9, 0, 0, 6219]) from by decide +kernel) hs5 ?_
    refine e_iload_n (show pAt 210 20 = some (20, .iload_n 1, 1, []) from by decide +kernel) rfl ?_
    exact vc.elim
  · replace vc := vc.2 c4
    refine e_aload_nS (show pAt 210 7 = some (7, .aload_n 0, 1, []) from by decide +kernel) rfl (by omega) ?_
    refine e_gS0 (show pAt 210 8 = some (8, .getfield 9, 3, [9, 0, 0, 6219]) from by decide +kernel) hs5 ?_
    refine e_iload_n (show pAt 210 11 = some (11, .iload_n 1, 1, []) from by decide +kernel) rfl ?_
    refine Ends.call (show pAt 210 12 = some (12, .invokestatic 495, 3, [216, 2, 2, 0, 3038, 3039, 0]) from by decide +kernel) (isRet_none rfl) rfl rfl (Ends.mono vc ?_)
    rintro _ h5 ⟨r6, rfl, hs_h5, vc⟩
    exact e_retN (show pAt 210 15 = some (15, .ireturn, 1, []) from by decide +kernel) rfl rfl vc.1 vc.2

theorem w_can {X : Scr} {dp : Nat} {h : Hp} {Q : Option Value → Hp → Prop} (c : Int32) (hs : HS h)
    (vc : ((condB .lt c 0 = true → Q (some (.int 0)) h) ∧ (condB .lt c 0 = false → ((condB .gt c 255 = true → Q (some (.int 0)) h) ∧ (condB .gt c 255 = false → Q (some (.int 1)) h))))) :
    Ends X dp 217 0 [.int c] [] h Q := by
  refine e_iload_n (show pAt 217 0 = some (0, .iload_n 0, 1, []) from by decide +kernel) rfl ?_
  refine e_if (t := 15) (show pAt 217 1 = some (1, .ifCond .lt 14, 3, []) from by decide +kernel) rfl (fun c1 => ?_) (fun c1 => ?_)
  · replace vc := vc.1 c1
    refine e_iconst (c := 0) (show pAt 217 15 = some (15, .iconst 0, 1, []) from by decide +kernel) (by decide) ?_
    exact e_retZ (show pAt 217 16 = some (16, .ireturn, 1, []) from by decide +kernel) rfl (by decide) vc
  · replace vc := vc.2 c1
    refine e_iload_n (show pAt 217 4 = some (4, .iload_n 0, 1, []) from by decide +kernel) rfl ?_
    refine e_sipush (c := 255) (show pAt 217 5 = some (5, .sipush 255, 3, []) from by decide +kernel) (by decide) ?_
    refine e_icmp (t := 15) (show pAt 217 8 = some (8, .if_icmp .gt 7, 3, []) from by decide +kernel) rfl (fun c2 => ?_) (fun c2 => ?_)
    · replace vc := vc.1 c2
      refine e_iconst (c := 0) (show pAt 217 15 = some (15, .iconst 0, 1, []) from by decide +kernel) (by decide) ?_
      exact e_retZ (show pAt 217 16 = some (16, .ireturn, 1, []) from by decide +kernel) rfl (by decide) vc
    · replace vc := vc.2 c2
      refine e_iconst (c := 1) (show pAt 217 11 = some (11, .iconst 1, 1, []) from by decide +kernel) (by decide) ?_
      refine e_goto (t := 16) (show pAt 217 12 = some (12, .goto 4, 3, []) from by decide +kernel) rfl ?_
      exact e_retZ (show pAt 217 16 = some (16, .ireturn, 1, []) from by decide +kernel) rfl (by decide) vc

theorem w_max {X : Scr} {dp : Nat} {h : Hp} {Q : Option Value → Hp → Prop} (a : Int32) (b : Int32) (hs : HS h)
    (vc : ((condB .lt a b = true → Q (some (.int b)) h) ∧ (condB .lt a b = false → Q (some (.int a)) h))) :
    Ends X dp 207 0 [.int a, .int b] [] h Q := by
  refine e_iload_n (show pAt 207 0 = some (0, .iload_n 0, 1, []) from by decide +kernel) rfl ?_
  refine e_iload_n (show pAt 207 1 = some (1, .iload_n 1, 1, []) from by decide +kernel) rfl ?_
  refine e_icmp (t := 9) (show pAt 207 2 = some (2, .if_icmp .lt 7, 3, []) from by decide +kernel) rfl (fun c1 => ?_) (fun c1 => ?_)
  · replace vc := vc.1 c1
    refine e_iload_n (show pAt 207 9 = some (9, .iload_n 1, 1, []) from by decide +kernel) rfl ?_
    exact e_retI (show pAt 207 10 = some (10, .ireturn, 1, []) from by decide +kernel) rfl vc
  · replace vc := vc.2 c1
    refine e_iload_n (show pAt 207 5 = some (5, .iload_n 0, 1, []) from by decide +kernel) rfl ?_
    refine e_goto (t := 10) (show pAt 207 6 = some (6, .goto 4, 3, []) from by decide +kernel) rfl ?_
    exact e_retI (show pAt 207 10 = some (10, .ireturn, 1, []) from by decide +kernel) rfl vc

theorem w_min {X : Scr} {dp : Nat} {h : Hp} {Q : Option Value → Hp → Prop} (a : Int32) (b : Int32) (hs : HS h)
    (vc : ((condB .gt a b = true → Q (some (.int b)) h) ∧ (condB .gt a b = false → Q (some (.int a)) h))) :
    Ends X dp 208 0 [.int a, .int b] [] h Q := by
  refine e_iload_n (show pAt 208 0 = some (0, .iload_n 0, 1, []) from by decide +kernel) rfl ?_
  refine e_iload_n (show pAt 208 1 = some (1, .iload_n 1, 1, []) from by decide +kernel) rfl ?_
  refine e_icmp (t := 9) (show pAt 208 2 = some (2, .if_icmp .gt 7, 3, []) from by decide +kernel) rfl (fun c1 => ?_) (fun c1 => ?_)
  · replace vc := vc.1 c1
    refine e_iload_n (show pAt 208 9 = some (9, .iload_n 1, 1, []) from by decide +kernel) rfl ?_
    exact e_retI (show pAt 208 10 = some (10, .ireturn, 1, []) from by decide +kernel) rfl vc
  · replace vc := vc.2 c1
    refine e_iload_n (show pAt 208 5 = some (5, .iload_n 0, 1, []) from by decide +kernel) rfl ?_
    refine e_goto (t := 10) (show pAt 208 6 = some (6, .goto 4, 3, []) from by decide +kernel) rfl ?_
    exact e_retI (show pAt 208 10 = some (10, .ireturn, 1, []) from by decide +kernel) rfl vc

theorem w_ioc0 {X : Scr} {dp : Nat} {h : Hp} {Q : Option Value → Hp → Prop} {s : Nat} (hs5 : s < 5) (c : Int32) (f : Int32) (t : Int32) (hs : HS h)
    (vc : Ends X dp 219 7 [.ref (OLDB + 8 + s), .int c, .int f, .int t, .int (c.toInt8.toInt32), .int f] [] h Q) :
    Ends X dp 219 0 [.ref (OLDB + 8 + s), .int c, .int f, .int t, .retAddr 0, .retAddr 0] [] h Q := by
  have ra : ∀ {a : Nat}, a < 1000 → a ≤ OLDB := fun h => by have := OLDB_eq; omega
  refine e_iload_n (show pAt 219 0 = some (0, .iload_n 1, 1, []) from by decide +kernel) rfl ?_
  refine e_i2b (show pAt 219 1 = some (1, .i2b, 1, []) from by decide +kernel) ?_
  refine e_istore (show pAt 219 2 = some (2, .istore 4, 2, []) from by decide +kernel) ⟨Nat.le_of_ble_eq_true rfl, rfl⟩ rfl ?_
  refine e_iload_n (show pAt 219 4 = some (4, .iload_n 2, 1, []) from by decide +kernel) rfl ?_
  refine e_istore (show pAt 219 5 = some (5, .istore 5, 2, []) from by decide +kernel) ⟨Nat.le_of_ble_eq_true rfl, rfl⟩ rfl ?_
  exact vc

theorem w_ioc1 {X : Scr} {dp : Nat} {h : Hp} {Q : Option Value → Hp → Prop} {s : Nat} (hs5 : s < 5) (c : Int32) (f : Int32) (t : Int32) (b : Int32) (i : Int32) (hs : HS h)
    (vc : ((condB .ge i t = true → Q (some (.int (-1))) h) ∧ (condB .ge i t = false → (inB i (strL.getD s 0) = true ∧ ((condB .ne ((strB.getD s []).getD i.toNatClampNeg 0) b = true → Ends X dp 219 7 [.ref (OLDB + 8 + s), .int c, .int f, .int t, .int b, .int (i + 1)] [] h Q) ∧ (condB .ne ((strB.getD s []).getD i.toNatClampNeg 0) b = false → Q (some (.int i)) h)))))) :
    Ends X dp 219 7 [.ref (OLDB + 8 + s), .int c, .int f, .int t, .int b, .int i] [] h Q := by
  have ra : ∀ {a : Nat}, a < 1000 → a ≤ OLDB := fun h => by have := OLDB_eq; omega
  refine e_iload (show pAt 219 7 = some (7, .iload 5, 2, []) from by decide +kernel) rfl ?_
  refine e_iload_n (show pAt 219 9 = some (9, .iload_n 3, 1, []) from by decide +kernel) rfl ?_
  refine e_icmp (t := 31) (show pAt 219 10 = some (10, .if_icmp .ge 21, 3, []) from by decide +kernel) rfl (fun c1 => ?_) (fun c1 => ?_)
  · replace vc := vc.1 c1
    refine e_iconst (c := (-1)) (show pAt 219 31 = some (31, .iconst (-1), 1, []) from by decide +kernel) (by decide) ?_
    exact e_retI (show pAt 219 32 = some (32, .ireturn, 1, []) from by decide +kernel) rfl vc
  · replace vc := vc.2 c1
    refine e_aload_nS (show pAt 219 13 = some (13, .aload_n 0, 1, []) from by decide +kernel) rfl (by omega) ?_
    refine e_iload (show pAt 219 14 = some (14, .iload 5, 2, []) from by decide +kernel) rfl ?_
    obtain ⟨c2, vc⟩ := vc
    refine e_baldS (show pAt 219 16 = some (16, .baload, 1, []) from by decide +kernel) hs5 c2 ?_
    refine e_iload (show pAt 219 17 = some (17, .iload 4, 2, []) from by decide +kernel) rfl ?_
    refine e_icmp (t := 25) (show pAt 219 19 = some (19, .if_icmp .ne 6, 3, []) from by decide +kernel) rfl (fun c3 => ?_) (fun c3 => ?_)
    · replace vc := vc.1 c3
      refine e_iinc (c := 1) (show pAt 219 25 = some (25, .iinc 5 1, 3, []) from by decide +kernel) rfl rfl (by decide) rfl ?_
      refine e_goto (t := 7) (show pAt 219 28 = some (28, .goto (-21), 3, []) from by decide +kernel) rfl ?_
      exact vc
    · replace vc := vc.2 c3
      refine e_iload (show pAt 219 22 = some (22, .iload 5, 2, []) from by decide +kernel) rfl ?_
      exact e_retI (show pAt 219 24 = some (24, .ireturn, 1, []) from by decide +kernel) rfl vc

theorem w_lio {X : Scr} {dp : Nat} {h : Hp} {Q : Option Value → Hp → Prop} {s : Nat} (hs5 : s < 5) (c : Int32) (f : Int32) (t : Int32) (hs : HS h)
    (vc : Ends X dp 217 0 [.int c] [] h (fun rv h1 => ∃ r2, rv = some (.int r2) ∧ HS h1 ∧ ((condB .ne r2 0 = true → Ends X dp 207 0 [.int f, .int 0] [] h1 (fun rv h5 => ∃ r6, rv = some (.int r6) ∧ HS h5 ∧ Ends X dp 208 0 [.int t, .int (Int32.ofNat (strL.getD s 0))] [] h5 (fun rv h8 => ∃ r9, rv = some (.int r9) ∧ HS h8 ∧ ((condB .lt r6 r9 = true → Ends X dp 219 0 [.ref (OLDB + 8 + s), .int c, .int r6, .int r9, .retAddr 0, .retAddr 0] [] h8 (fun rv h12 => ∃ r13, rv = some (.int r13) ∧ HS h12 ∧ Q (some (.int r13)) h12)) ∧ (condB .lt r6 r9 = false → Q (some (.int (-1))) h8))))) ∧ (condB .ne r2 0 = false → Q (some (.int (-1))) h1)))) :
    Ends X (dp + 1) 218 0 [.ref (OLDB + 8 + s), .int c, .int f, .int t] [] h Q := by
  have ra : ∀ {a : Nat}, a < 1000 → a ≤ OLDB := fun h => by have := OLDB_eq; omega
  refine e_iload_n (show pAt 218 0 = some (0, .iload_n 1, 1, []) from by decide +kernel) rfl ?_
  refine Ends.call (show pAt 218 1 = some (1, .invokestatic 88, 3, [217, 1, 2, 0, 3107, 3108, 0]) from by decide +kernel) (isRet_none rfl) rfl rfl (Ends.mono vc ?_)
  rintro _ h1 ⟨r2, rfl, hs_h1, vc⟩
  refine e_if (t := 9) (show pAt 218 4 = some (4, .ifCond .ne 5, 3, []) from by decide +kernel) rfl (fun c4 => ?_) (fun c4 => ?_)
  · replace vc := vc.1 c4
    refine e_iload_n (show pAt 218 9 = some (9, .iload_n 2, 1, []) from by decide +kernel) rfl ?_
    refine e_iconst (c := 0) (show pAt 218 10 = some (10, .iconst 0, 1, []) from by decide +kernel) (by decide) ?_
    refine Ends.call (show pAt 218 11 = some (11, .invokestatic 92, 3, [207, 2, 2, 0, 3110, 2139, 0]) from by decide +kernel) (isRet_none rfl) rfl rfl (Ends.mono vc ?_)
    rintro _ h5 ⟨r6, rfl, hs_h5, vc⟩
    refine e_istore_n (show pAt 218 14 = some (14, .istore_n 2, 1, []) from by decide +kernel) ⟨Nat.le_of_ble_eq_true rfl, rfl⟩ rfl ?_
    refine e_iload_n (show pAt 218 15 = some (15, .iload_n 3, 1, []) from by decide +kernel) rfl ?_
    refine e_aload_nS (show pAt 218 16 = some (16, .aload_n 0, 1, []) from by decide +kernel) rfl (by omega) ?_
    refine e_alenS (show pAt 218 17 = some (17, .arraylength, 1, []) from by decide +kernel) hs5 ?_
    refine Ends.call (show pAt 218 18 = some (18, .invokestatic 38, 3, [208, 2, 2, 0, 3111, 2188, 0]) from by decide +kernel) (isRet_none rfl) rfl rfl (Ends.mono vc ?_)
    rintro _ h8 ⟨r9, rfl, hs_h8, vc⟩
    refine e_istore_n (show pAt 218 21 = some (21, .istore_n 3, 1, []) from by decide +kernel) ⟨Nat.le_of_ble_eq_true rfl, rfl⟩ rfl ?_
    refine e_iload_n (show pAt 218 22 = some (22, .iload_n 2, 1, []) from by decide +kernel) rfl ?_
    refine e_iload_n (show pAt 218 23 = some (23, .iload_n 3, 1, []) from by decide +kernel) rfl ?_
    refine e_icmp (t := 29) (show pAt 218 24 = some (24, .if_icmp .lt 5, 3, []) from by decide +kernel) rfl (fun c11 => ?_) (fun c11 => ?_)
    · replace vc := vc.1 c11
      refine e_aload_nS (show pAt 218 29 = some (29, .aload_n 0, 1, []) from by decide +kernel) rfl (by omega) ?_
      refine e_iload_n (show pAt 218 30 = some (30, .iload_n 1, 1, []) from by decide +kernel) rfl ?_
      refine e_iload_n (show pAt 218 31 = some (31, .iload_n 2, 1, []) from by decide +kernel) rfl ?_
      refine e_iload_n (show pAt 218 32 = some (32, .iload_n 3, 1, []) from by decide +kernel) rfl ?_
      refine Ends.call (show pAt 218 33 = some (33, .invokestatic 95, 3, [219, 4, 2, 0, 3112, 3113, 0]) from by decide +kernel) (isRet_none rfl) rfl rfl (Ends.mono vc ?_)
      rintro _ h12 ⟨r13, rfl, hs_h12, vc⟩
      exact e_retI (show pAt 218 36 = some (36, .ireturn, 1, []) from by decide +kernel) rfl vc
    · replace vc := vc.2 c11
      refine e_iconst (c := (-1)) (show pAt 218 27 = some (27, .iconst (-1), 1, []) from by decide +kernel) (by decide) ?_
      exact e_retI (show pAt 218 28 = some (28, .ireturn, 1, []) from by decide +kernel) rfl vc
  · replace vc := vc.2 c4
    refine e_iconst (c := (-1)) (show pAt 218 7 = some (7, .iconst (-1), 1, []) from by decide +kernel) (by decide) ?_
    exact e_retI (show pAt 218 8 = some (8, .ireturn, 1, []) from by decide +kernel) rfl vc

theorem w_sio {X : Scr} {dp : Nat} {h : Hp} {Q : Option Value → Hp → Prop} {s : Nat} (hs5 : s < 5) (c : Int32) (f : Int32) (hs : HS h)
    (vc : Ends X dp 214 0 [.ref (OLDB + 3 + s)] [] h (fun rv h1 => ∃ r2, rv = some (.int r2) ∧ HS h1 ∧ ((condB .eq r2 0 = true → Ends X dp 209 0 [.ref (OLDB + 3 + s)] [] h1 (fun rv h5 => ∃ r6, rv = some (.int r6) ∧ HS h5 ∧ False)) ∧ (condB .eq r2 0 = false → Ends X dp 209 0 [.ref (OLDB + 3 + s)] [] h1 (fun rv h8 => ∃ r9, rv = some (.int r9) ∧ HS h8 ∧ Ends X dp 218 0 [.ref (OLDB + 8 + s), .int c, .int f, .int r9] [] h8 (fun rv h11 => ∃ r12, rv = some (.int r12) ∧ HS h11 ∧ Q (some (.int r12)) h11)))))) :
    Ends X (dp + 1) 212 0 [.ref (OLDB + 3 + s), .int c, .int f] [] h Q := by
  have ra : ∀ {a : Nat}, a < 1000 → a ≤ OLDB := fun h => by have := OLDB_eq; omega
  refine e_aload_nS (show pAt 212 0 = some (0, .aload_n 0, 1, []) from by decide +kernel) rfl (by omega) ?_
  refine Ends.call (show pAt 212 1 = some (1, .invokevirtual 492, 3, [214, 1, 0, 0, 3034, 3035, 3036]) from by decide +kernel) (isRet_none rfl) rfl (call_str rfl rfl (by decide) hs5) (Ends.mono vc ?_)
  rintro _ h1 ⟨r2, rfl, hs_h1, vc⟩
  refine e_if (t := 23) (show pAt 212 4 = some (4, .ifCond .eq 19, 3, []) from by decide +kernel) rfl (fun c4 => ?_) (fun c4 => ?_)
  · replace vc := vc.1 c4
    refine e_aload_nS (show pAt 212 23 = some (23, .aload_n 0, 1, []) from by decide +kernel) rfl (by omega) ?_
    refine e_gS0 (show pAt 212 24 = some (24, .getfield 9, 3, [9, 0, 0, 6219]) from by decide +kernel) hs5 ?_
    refine e_iload_n (show pAt 212 27 = some (27, .iload_n 1, 1, []) from by decide +kernel) rfl ?_
    refine e_iload_n (show pAt 212 28 = some (28, .iload_n 2, 1, []) from by decide +kernel) rfl ?_
    refine e_aload_nS (show pAt 212 29 = some (29, .aload_n 0, 1, []) from by decide +kernel) rfl (by omega) ?_
    refine Ends.call (show pAt 212 30 = some (30, .invokevirtual 505, 3, [209, 1, 0, 0, 3103, 3021, 3022]) from by decide +kernel) (isRet_none rfl) rfl (call_str rfl rfl (by decide) hs5) (Ends.mono vc ?_)
    rintro _ h5 ⟨r6, rfl, hs_h5, vc⟩
    exact vc.elim
  · replace vc := vc.2 c4
    refine e_aload_nS (show pAt 212 7 = some (7, .aload_n 0, 1, []) from by decide +kernel) rfl (by omega) ?_
    refine e_gS0 (show pAt 212 8 = some (8, .getfield 9, 3, [9, 0, 0, 6219]) from by decide +kernel) hs5 ?_
    refine e_iload_n (show pAt 212 11 = some (11, .iload_n 1, 1, []) from by decide +kernel) rfl ?_
    refine e_iload_n (show pAt 212 12 = some (12, .iload_n 2, 1, []) from by decide +kernel) rfl ?_
    refine e_aload_nS (show pAt 212 13 = some (13, .aload_n 0, 1, []) from by decide +kernel) rfl (by omega) ?_
    refine Ends.call (show pAt 212 14 = some (14, .invokevirtual 505, 3, [209, 1, 0, 0, 3103, 3021, 3022]) from by decide +kernel) (isRet_none rfl) rfl (call_str rfl rfl (by decide) hs5) (Ends.mono vc ?_)
    rintro _ h8 ⟨r9, rfl, hs_h8, vc⟩
    refine Ends.call (show pAt 212 17 = some (17, .invokestatic 637, 3, [218, 4, 2, 0, 3104, 3105, 0]) from by decide +kernel) (isRet_none rfl) rfl rfl (Ends.mono vc ?_)
    rintro _ h11 ⟨r12, rfl, hs_h11, vc⟩
    refine e_goto (t := 36) (show pAt 212 20 = some (20, .goto 16, 3, []) from by decide +kernel) rfl ?_
    exact e_retI (show pAt 212 36 = some (36, .ireturn, 1, []) from by decide +kernel) rfl vc

theorem w_six {X : Scr} {dp : Nat} {h : Hp} {Q : Option Value → Hp → Prop} {s : Nat} (hs5 : s < 5) (c : Int32) (hs : HS h)
    (vc : Ends X dp 212 0 [.ref (OLDB + 3 + s), .int c, .int 0] [] h (fun rv h1 => ∃ r2, rv = some (.int r2) ∧ HS h1 ∧ Q (some (.int r2)) h1)) :
    Ends X (dp + 1) 211 0 [.ref (OLDB + 3 + s), .int c] [] h Q := by
  have ra : ∀ {a : Nat}, a < 1000 → a ≤ OLDB := fun h => by have := OLDB_eq; omega
  refine e_aload_nS (show pAt 211 0 = some (0, .aload_n 0, 1, []) from by decide +kernel) rfl (by omega) ?_
  refine e_iload_n (show pAt 211 1 = some (1, .iload_n 1, 1, []) from by decide +kernel) rfl ?_
  refine e_iconst (c := 0) (show pAt 211 2 = some (2, .iconst 0, 1, []) from by decide +kernel) (by decide) ?_
  refine Ends.call (show pAt 211 3 = some (3, .invokevirtual 633, 3, [212, 3, 0, 0, 3099, 3100, 3101]) from by decide +kernel) (isRet_none rfl) rfl (call_str rfl rfl (by decide) hs5) (Ends.mono vc ?_)
  rintro _ h1 ⟨r2, rfl, hs_h1, vc⟩
  exact e_retI (show pAt 211 6 = some (6, .ireturn, 1, []) from by decide +kernel) rfl vc

theorem w_iw {X : Scr} {dp : Nat} {h : Hp} {Q : Option Value → Hp → Prop}  (hs : HS h)
    (vc : ((condB .lt (h.2.1 44 2) 0 = true → Q (some (.int 0)) h) ∧ (condB .lt (h.2.1 44 2) 0 = false → ((condB .ge (h.2.1 44 2) (h.2.1 44 1) = true → Q (some (.int 0)) h) ∧ (condB .ge (h.2.1 44 2) (h.2.1 44 1) = false → ((condB .ge (h.2.1 44 2) 100 = true → Q (some (.int 0)) h) ∧ (condB .ge (h.2.1 44 2) 100 = false → Q (some (.int 1)) h))))))) :
    Ends X dp 49 0 [.ref 44] [] h Q := by
  have ra : ∀ {a : Nat}, a < 1000 → a ≤ OLDB := fun h => by have := OLDB_eq; omega
  refine e_aload_n (show pAt 49 0 = some (0, .aload_n 0, 1, []) from by decide +kernel) rfl (ra (by decide)) ?_
  refine e_gIv (v := h.2.1 44 2) (show pAt 49 1 = some (1, .getfield 29, 3, [4, 2, 0, 1200]) from by decide +kernel) (show HS h from hs) rfl (by decide) rfl ?_
  refine e_if (t := 31) (show pAt 49 4 = some (4, .ifCond .lt 27, 3, []) from by decide +kernel) rfl (fun c1 => ?_) (fun c1 => ?_)
  · replace vc := vc.1 c1
    refine e_iconst (c := 0) (show pAt 49 31 = some (31, .iconst 0, 1, []) from by decide +kernel) (by decide) ?_
    exact e_retZ (show pAt 49 32 = some (32, .ireturn, 1, []) from by decide +kernel) rfl (by decide) vc
  · replace vc := vc.2 c1
    refine e_aload_n (show pAt 49 7 = some (7, .aload_n 0, 1, []) from by decide +kernel) rfl (ra (by decide)) ?_
    refine e_gIv (v := h.2.1 44 2) (show pAt 49 8 = some (8, .getfield 29, 3, [4, 2, 0, 1200]) from by decide +kernel) (show HS h from hs) rfl (by decide) rfl ?_
    refine e_aload_n (show pAt 49 11 = some (11, .aload_n 0, 1, []) from by decide +kernel) rfl (ra (by decide)) ?_
    refine e_gIv (v := h.2.1 44 1) (show pAt 49 12 = some (12, .getfield 22, 3, [4, 1, 0, 1198]) from by decide +kernel) (show HS h from hs) rfl (by decide) rfl ?_
    refine e_icmp (t := 31) (show pAt 49 15 = some (15, .if_icmp .ge 16, 3, []) from by decide +kernel) rfl (fun c2 => ?_) (fun c2 => ?_)
    · replace vc := vc.1 c2
      refine e_iconst (c := 0) (show pAt 49 31 = some (31, .iconst 0, 1, []) from by decide +kernel) (by decide) ?_
      exact e_retZ (show pAt 49 32 = some (32, .ireturn, 1, []) from by decide +kernel) rfl (by decide) vc
    · replace vc := vc.2 c2
      refine e_aload_n (show pAt 49 18 = some (18, .aload_n 0, 1, []) from by decide +kernel) rfl (ra (by decide)) ?_
      refine e_gIv (v := h.2.1 44 2) (show pAt 49 19 = some (19, .getfield 29, 3, [4, 2, 0, 1200]) from by decide +kernel) (show HS h from hs) rfl (by decide) rfl ?_
      refine e_bipush (c := 100) (show pAt 49 22 = some (22, .bipush 100, 2, []) from by decide +kernel) (by decide) ?_
      refine e_icmp (t := 31) (show pAt 49 24 = some (24, .if_icmp .ge 7, 3, []) from by decide +kernel) rfl (fun c3 => ?_) (fun c3 => ?_)
      · replace vc := vc.1 c3
        refine e_iconst (c := 0) (show pAt 49 31 = some (31, .iconst 0, 1, []) from by decide +kernel) (by decide) ?_
        exact e_retZ (show pAt 49 32 = some (32, .ireturn, 1, []) from by decide +kernel) rfl (by decide) vc
      · replace vc := vc.2 c3
        refine e_iconst (c := 1) (show pAt 49 27 = some (27, .iconst 1, 1, []) from by decide +kernel) (by decide) ?_
        refine e_goto (t := 32) (show pAt 49 28 = some (28, .goto 4, 3, []) from by decide +kernel) rfl ?_
        exact e_retZ (show pAt 49 32 = some (32, .ireturn, 1, []) from by decide +kernel) rfl (by decide) vc

theorem w_tki {X : Scr} {dp : Nat} {h : Hp} {Q : Option Value → Hp → Prop} (a : Int32) (hs : HS h)
    (vc : ((condB .lt (h.2.1 44 1) 0 = true → Q (some (.int 0)) h) ∧ (condB .lt (h.2.1 44 1) 0 = false → ((condB .lt (h.2.1 44 1) 100 = true → (inB (h.2.1 44 1) 100 = true ∧ Q (some (.int 1)) (hpI (hpI h 45 (h.2.1 44 1).toNatClampNeg a) 44 1 ((h.2.1 44 1) + 1)))) ∧ (condB .lt (h.2.1 44 1) 100 = false → Q (some (.int 0)) h))))) :
    Ends X dp 41 0 [.ref 44, .int a] [] h Q := by
  have ra : ∀ {a : Nat}, a < 1000 → a ≤ OLDB := fun h => by have := OLDB_eq; omega
  refine e_aload_n (show pAt 41 0 = some (0, .aload_n 0, 1, []) from by decide +kernel) rfl (ra (by decide)) ?_
  refine e_gIv (v := h.2.1 44 1) (show pAt 41 1 = some (1, .getfield 22, 3, [4, 1, 0, 1198]) from by decide +kernel) (show HS h from hs) rfl (by decide) rfl ?_
  refine e_if (t := 16) (show pAt 41 4 = some (4, .ifCond .lt 12, 3, []) from by decide +kernel) rfl (fun c1 => ?_) (fun c1 => ?_)
  · replace vc := vc.1 c1
    refine e_iconst (c := 0) (show pAt 41 16 = some (16, .iconst 0, 1, []) from by decide +kernel) (by decide) ?_
    exact e_retZ (show pAt 41 17 = some (17, .ireturn, 1, []) from by decide +kernel) rfl (by decide) vc
  · replace vc := vc.2 c1
    refine e_aload_n (show pAt 41 7 = some (7, .aload_n 0, 1, []) from by decide +kernel) rfl (ra (by decide)) ?_
    refine e_gIv (v := h.2.1 44 1) (show pAt 41 8 = some (8, .getfield 22, 3, [4, 1, 0, 1198]) from by decide +kernel) (show HS h from hs) rfl (by decide) rfl ?_
    refine e_bipush (c := 100) (show pAt 41 11 = some (11, .bipush 100, 2, []) from by decide +kernel) (by decide) ?_
    refine e_icmp (t := 18) (show pAt 41 13 = some (13, .if_icmp .lt 5, 3, []) from by decide +kernel) rfl (fun c2 => ?_) (fun c2 => ?_)
    · replace vc := vc.1 c2
      refine e_aload_n (show pAt 41 18 = some (18, .aload_n 0, 1, []) from by decide +kernel) rfl (ra (by decide)) ?_
      refine e_gR (show pAt 41 19 = some (19, .getfield 9, 3, [4, 0, 0, 1197]) from by decide +kernel) (show HS h from hs) rfl (by decide) (hs_ref (show HS h from hs) rfl) ?_
      refine e_aload_n (show pAt 41 22 = some (22, .aload_n 0, 1, []) from by decide +kernel) rfl (ra (by decide)) ?_
      refine e_gIv (v := h.2.1 44 1) (show pAt 41 23 = some (23, .getfield 22, 3, [4, 1, 0, 1198]) from by decide +kernel) (show HS h from hs) rfl (by decide) rfl ?_
      refine e_iload_n (show pAt 41 26 = some (26, .iload_n 1, 1, []) from by decide +kernel) rfl ?_
      obtain ⟨c3, vc⟩ := vc
      refine e_ast (show pAt 41 27 = some (27, .iastore, 1, []) from by decide +kernel) (show HS h from hs) (by decide) c3 ?_
      refine e_aload_n (show pAt 41 28 = some (28, .aload_n 0, 1, []) from by decide +kernel) rfl (ra (by decide)) ?_
      refine e_dupR (show pAt 41 29 = some (29, .dup, 1, []) from by decide +kernel) ?_
      refine e_gIv (v := h.2.1 44 1) (show pAt 41 30 = some (30, .getfield 22, 3, [4, 1, 0, 1198]) from by decide +kernel) (show HS (hpI h 45 (h.2.1 44 1).toNatClampNeg a) from hs) rfl (by decide) (by rw [put_ne (by omega)]) ?_
      refine e_iconst (c := 1) (show pAt 41 33 = some (33, .iconst 1, 1, []) from by decide +kernel) (by decide) ?_
      refine e_iadd (show pAt 41 34 = some (34, .iadd, 1, []) from by decide +kernel) ?_
      refine e_pI (show pAt 41 35 = some (35, .putfield 22, 3, [4, 1, 0, 1198]) from by decide +kernel) (show HS (hpI h 45 (h.2.1 44 1).toNatClampNeg a) from hs) (by decide) (Or.inl rfl) ?_
      refine e_iconst (c := 1) (show pAt 41 38 = some (38, .iconst 1, 1, []) from by decide +kernel) (by decide) ?_
      exact e_retZ (show pAt 41 39 = some (39, .ireturn, 1, []) from by decide +kernel) rfl (by decide) vc
    · replace vc := vc.2 c2
      refine e_iconst (c := 0) (show pAt 41 16 = some (16, .iconst 0, 1, []) from by decide +kernel) (by decide) ?_
      exact e_retZ (show pAt 41 17 = some (17, .ireturn, 1, []) from by decide +kernel) rfl (by decide) vc

theorem w_tak {X : Scr} {dp : Nat} {h : Hp} {Q : Option Value → Hp → Prop} (c : Int32) (hs : HS h)
    (vc : Ends X dp 49 0 [.ref 44] [] h (fun rv h1 => ∃ r2, rv = some (.int r2) ∧ HS h1 ∧ ((condB .eq r2 0 = true → Q (some (.int 0)) h1) ∧ (condB .eq r2 0 = false → (inB (h1.2.1 44 2) 100 = true ∧ ((condB .eq (h1.2.1 45 (h1.2.1 44 2).toNatClampNeg) c = true → Q (some (.int 1)) (hpI h1 44 2 ((h1.2.1 44 2) + 1))) ∧ (condB .eq (h1.2.1 45 (h1.2.1 44 2).toNatClampNeg) c = false → Q (some (.int 0)) h1))))))) :
    Ends X (dp + 1) 50 0 [.ref 44, .int c] [] h Q := by
  have ra : ∀ {a : Nat}, a < 1000 → a ≤ OLDB := fun h => by have := OLDB_eq; omega
  refine e_aload_n (show pAt 50 0 = some (0, .aload_n 0, 1, []) from by decide +kernel) rfl (ra (by decide)) ?_
  refine Ends.call (show pAt 50 1 = some (1, .invokevirtual 65, 3, [49, 1, 0, 0, 3011, 3013, 33]) from by decide +kernel) (isRet_none rfl) rfl (call_this (show HS h from hs) rfl rfl (by decide)) (Ends.mono vc ?_)
  rintro _ h1 ⟨r2, rfl, hs_h1, vc⟩
  refine e_if (t := 20) (show pAt 50 4 = some (4, .ifCond .eq 16, 3, []) from by decide +kernel) rfl (fun c4 => ?_) (fun c4 => ?_)
  · replace vc := vc.1 c4
    refine e_iconst (c := 0) (show pAt 50 20 = some (20, .iconst 0, 1, []) from by decide +kernel) (by decide) ?_
    exact e_retZ (show pAt 50 21 = some (21, .ireturn, 1, []) from by decide +kernel) rfl (by decide) vc
  · replace vc := vc.2 c4
    refine e_aload_n (show pAt 50 7 = some (7, .aload_n 0, 1, []) from by decide +kernel) rfl (ra (by decide)) ?_
    refine e_gR (show pAt 50 8 = some (8, .getfield 9, 3, [4, 0, 0, 1197]) from by decide +kernel) (show HS h1 from hs_h1) rfl (by decide) (hs_ref (show HS h1 from hs_h1) rfl) ?_
    refine e_aload_n (show pAt 50 11 = some (11, .aload_n 0, 1, []) from by decide +kernel) rfl (ra (by decide)) ?_
    refine e_gIv (v := h1.2.1 44 2) (show pAt 50 12 = some (12, .getfield 29, 3, [4, 2, 0, 1200]) from by decide +kernel) (show HS h1 from hs_h1) rfl (by decide) rfl ?_
    obtain ⟨c5, vc⟩ := vc
    refine e_aldv (v := h1.2.1 45 (h1.2.1 44 2).toNatClampNeg) (show pAt 50 15 = some (15, .iaload, 1, []) from by decide +kernel) (show HS h1 from hs_h1) (by decide) c5 rfl ?_
    refine e_iload_n (show pAt 50 16 = some (16, .iload_n 1, 1, []) from by decide +kernel) rfl ?_
    refine e_icmp (t := 22) (show pAt 50 17 = some (17, .if_icmp .eq 5, 3, []) from by decide +kernel) rfl (fun c6 => ?_) (fun c6 => ?_)
    · replace vc := vc.1 c6
      refine e_aload_n (show pAt 50 22 = some (22, .aload_n 0, 1, []) from by decide +kernel) rfl (ra (by decide)) ?_
      refine e_dupR (show pAt 50 23 = some (23, .dup, 1, []) from by decide +kernel) ?_
      refine e_gIv (v := h1.2.1 44 2) (show pAt 50 24 = some (24, .getfield 29, 3, [4, 2, 0, 1200]) from by decide +kernel) (show HS h1 from hs_h1) rfl (by decide) rfl ?_
      refine e_iconst (c := 1) (show pAt 50 27 = some (27, .iconst 1, 1, []) from by decide +kernel) (by decide) ?_
      refine e_iadd (show pAt 50 28 = some (28, .iadd, 1, []) from by decide +kernel) ?_
      refine e_pI (show pAt 50 29 = some (29, .putfield 29, 3, [4, 2, 0, 1200]) from by decide +kernel) (show HS h1 from hs_h1) (by decide) (Or.inl rfl) ?_
      refine e_iconst (c := 1) (show pAt 50 32 = some (32, .iconst 1, 1, []) from by decide +kernel) (by decide) ?_
      exact e_retZ (show pAt 50 33 = some (33, .ireturn, 1, []) from by decide +kernel) rfl (by decide) vc
    · replace vc := vc.2 c6
      refine e_iconst (c := 0) (show pAt 50 20 = some (20, .iconst 0, 1, []) from by decide +kernel) (by decide) ?_
      exact e_retZ (show pAt 50 21 = some (21, .ireturn, 1, []) from by decide +kernel) rfl (by decide) vc

theorem w_tka0 {X : Scr} {dp : Nat} {h : Hp} {Q : Option Value → Hp → Prop} {s : Nat} (hs5 : s < 5) (hs : HS h)
    (vc : Ends X dp 51 2 [.ref 44, .ref (OLDB + 3 + s), .int 0] [] h Q) :
    Ends X dp 51 0 [.ref 44, .ref (OLDB + 3 + s), .retAddr 0] [] h Q := by
  have ra : ∀ {a : Nat}, a < 1000 → a ≤ OLDB := fun h => by have := OLDB_eq; omega
  refine e_iconst (c := 0) (show pAt 51 0 = some (0, .iconst 0, 1, []) from by decide +kernel) (by decide) ?_
  refine e_istore_n (show pAt 51 1 = some (1, .istore_n 2, 1, []) from by decide +kernel) ⟨Nat.le_of_ble_eq_true rfl, rfl⟩ rfl ?_
  exact vc

theorem w_tka1 {X : Scr} {dp : Nat} {h : Hp} {Q : Option Value → Hp → Prop} {s : Nat} (hs5 : s < 5) (i : Int32) (hs : HS h)
    (vc : Ends X dp 209 0 [.ref (OLDB + 3 + s)] [] h (fun rv h1 => ∃ r2, rv = some (.int r2) ∧ HS h1 ∧ ((condB .ge i r2 = true → Q (some (.int 1)) h1) ∧ (condB .ge i r2 = false → Ends X dp 210 0 [.ref (OLDB + 3 + s), .int i] [] h1 (fun rv h5 => ∃ r6, rv = some (.int r6) ∧ HS h5 ∧ Ends X dp 50 0 [.ref 44, .int r6] [] h5 (fun rv h8 => ∃ r9, rv = some (.int r9) ∧ HS h8 ∧ ((condB .ne r9 0 = true → Ends X (dp + 1) 51 2 [.ref 44, .ref (OLDB + 3 + s), .int (i + 1)] [] h8 Q) ∧ (condB .ne r9 0 = false → Q (some (.int 0)) h8)))))))) :
    Ends X (dp + 1) 51 2 [.ref 44, .ref (OLDB + 3 + s), .int i] [] h Q := by
  have ra : ∀ {a : Nat}, a < 1000 → a ≤ OLDB := fun h => by have := OLDB_eq; omega
  refine e_iload_n (show pAt 51 2 = some (2, .iload_n 2, 1, []) from by decide +kernel) rfl ?_
  refine e_aload_nS (show pAt 51 3 = some (3, .aload_n 1, 1, []) from by decide +kernel) rfl (by omega) ?_
  refine Ends.call (show pAt 51 4 = some (4, .invokevirtual 90, 3, [209, 1, 0, 0, 3020, 3021, 3022]) from by decide +kernel) (isRet_none rfl) rfl (call_str rfl rfl (by decide) hs5) (Ends.mono vc ?_)
  rintro _ h1 ⟨r2, rfl, hs_h1, vc⟩
  refine e_icmp (t := 30) (show pAt 51 7 = some (7, .if_icmp .ge 23, 3, []) from by decide +kernel) rfl (fun c4 => ?_) (fun c4 => ?_)
  · replace vc := vc.1 c4
    refine e_iconst (c := 1) (show pAt 51 30 = some (30, .iconst 1, 1, []) from by decide +kernel) (by decide) ?_
    exact e_retZ (show pAt 51 31 = some (31, .ireturn, 1, []) from by decide +kernel) rfl (by decide) vc
  · replace vc := vc.2 c4
    refine e_aload_n (show pAt 51 10 = some (10, .aload_n 0, 1, []) from by decide +kernel) rfl (ra (by decide)) ?_
    refine e_aload_nS (show pAt 51 11 = some (11, .aload_n 1, 1, []) from by decide +kernel) rfl (by omega) ?_
    refine e_iload_n (show pAt 51 12 = some (12, .iload_n 2, 1, []) from by decide +kernel) rfl ?_
    refine Ends.call (show pAt 51 13 = some (13, .invokevirtual 95, 3, [210, 2, 0, 0, 3030, 3031, 3032]) from by decide +kernel) (isRet_none rfl) rfl (call_str rfl rfl (by decide) hs5) (Ends.mono vc ?_)
    rintro _ h5 ⟨r6, rfl, hs_h5, vc⟩
    refine Ends.call (show pAt 51 16 = some (16, .invokevirtual 36, 3, [50, 2, 0, 0, 3007, 3009, 32]) from by decide +kernel) (isRet_none rfl) rfl (call_this (show HS h5 from hs_h5) rfl rfl (by decide)) (Ends.mono vc ?_)
    rintro _ h8 ⟨r9, rfl, hs_h8, vc⟩
    refine e_if (t := 24) (show pAt 51 19 = some (19, .ifCond .ne 5, 3, []) from by decide +kernel) rfl (fun c11 => ?_) (fun c11 => ?_)
    · replace vc := vc.1 c11
      refine e_iinc (c := 1) (show pAt 51 24 = some (24, .iinc 2 1, 3, []) from by decide +kernel) rfl rfl (by decide) rfl ?_
      refine e_goto (t := 2) (show pAt 51 27 = some (27, .goto (-25), 3, []) from by decide +kernel) rfl ?_
      exact vc
    · replace vc := vc.2 c11
      refine e_iconst (c := 0) (show pAt 51 22 = some (22, .iconst 0, 1, []) from by decide +kernel) (by decide) ?_
      exact e_retZ (show pAt 51 23 = some (23, .ireturn, 1, []) from by decide +kernel) rfl (by decide) vc

theorem w_tko {X : Scr} {dp : Nat} {h : Hp} {Q : Option Value → Hp → Prop} {s : Nat} (hs5 : s < 5) (hs : HS h)
    (vc : Ends X dp 49 0 [.ref 44] [] h (fun rv h1 => ∃ r2, rv = some (.int r2) ∧ HS h1 ∧ ((condB .eq r2 0 = true → Q (some (.int (-1))) h1) ∧ (condB .eq r2 0 = false → (inB (h1.2.1 44 2) 100 = true ∧ Ends X dp 211 0 [.ref (OLDB + 3 + s), .int (((h1.2.1 45 (h1.2.1 44 2).toNatClampNeg).toUInt32 % 65536).toInt32)] [] h1 (fun rv h7 => ∃ r8, rv = some (.int r8) ∧ HS h7 ∧ ((condB .lt r8 0 = true → Q (some (.int r8)) h7) ∧ (condB .lt r8 0 = false → Q (some (.int r8)) (hpI h7 44 2 ((h7.2.1 44 2) + 1)))))))))) :
    Ends X (dp + 1) 52 0 [.ref 44, .ref (OLDB + 3 + s), .retAddr 0] [] h Q := by
  have ra : ∀ {a : Nat}, a < 1000 → a ≤ OLDB := fun h => by have := OLDB_eq; omega
  refine e_aload_n (show pAt 52 0 = some (0, .aload_n 0, 1, []) from by decide +kernel) rfl (ra (by decide)) ?_
  refine Ends.call (show pAt 52 1 = some (1, .invokevirtual 65, 3, [49, 1, 0, 0, 3011, 3013, 33]) from by decide +kernel) (isRet_none rfl) rfl (call_this (show HS h from hs) rfl rfl (by decide)) (Ends.mono vc ?_)
  rintro _ h1 ⟨r2, rfl, hs_h1, vc⟩
  refine e_if (t := 24) (show pAt 52 4 = some (4, .ifCond .eq 20, 3, []) from by decide +kernel) rfl (fun c4 => ?_) (fun c4 => ?_)
  · replace vc := vc.1 c4
    refine e_iconst (c := (-1)) (show pAt 52 24 = some (24, .iconst (-1), 1, []) from by decide +kernel) (by decide) ?_
    refine e_istore_n (show pAt 52 25 = some (25, .istore_n 2, 1, []) from by decide +kernel) ⟨Nat.le_of_ble_eq_true rfl, rfl⟩ rfl ?_
    refine e_iload_n (show pAt 52 26 = some (26, .iload_n 2, 1, []) from by decide +kernel) rfl ?_
    refine e_if (t := 40) (show pAt 52 27 = some (27, .ifCond .lt 13, 3, []) from by decide +kernel) rfl (fun c5 => ?_) (fun c5 => absurd c5 (by decide))
    refine e_iload_n (show pAt 52 40 = some (40, .iload_n 2, 1, []) from by decide +kernel) rfl ?_
    exact e_retI (show pAt 52 41 = some (41, .ireturn, 1, []) from by decide +kernel) rfl vc
  · replace vc := vc.2 c4
    refine e_aload_nS (show pAt 52 7 = some (7, .aload_n 1, 1, []) from by decide +kernel) rfl (by omega) ?_
    refine e_aload_n (show pAt 52 8 = some (8, .aload_n 0, 1, []) from by decide +kernel) rfl (ra (by decide)) ?_
    refine e_gR (show pAt 52 9 = some (9, .getfield 9, 3, [4, 0, 0, 1197]) from by decide +kernel) (show HS h1 from hs_h1) rfl (by decide) (hs_ref (show HS h1 from hs_h1) rfl) ?_
    refine e_aload_n (show pAt 52 12 = some (12, .aload_n 0, 1, []) from by decide +kernel) rfl (ra (by decide)) ?_
    refine e_gIv (v := h1.2.1 44 2) (show pAt 52 13 = some (13, .getfield 29, 3, [4, 2, 0, 1200]) from by decide +kernel) (show HS h1 from hs_h1) rfl (by decide) rfl ?_
    obtain ⟨c6, vc⟩ := vc
    refine e_aldv (v := h1.2.1 45 (h1.2.1 44 2).toNatClampNeg) (show pAt 52 16 = some (16, .iaload, 1, []) from by decide +kernel) (show HS h1 from hs_h1) (by decide) c6 rfl ?_
    refine e_i2c (show pAt 52 17 = some (17, .i2c, 1, []) from by decide +kernel) ?_
    refine Ends.call (show pAt 52 18 = some (18, .invokevirtual 99, 3, [211, 2, 0, 0, 3095, 3096, 3097]) from by decide +kernel) (isRet_none rfl) rfl (call_str rfl rfl (by decide) hs5) (Ends.mono vc ?_)
    rintro _ h7 ⟨r8, rfl, hs_h7, vc⟩
    refine e_goto (t := 25) (show pAt 52 21 = some (21, .goto 4, 3, []) from by decide +kernel) rfl ?_
    refine e_istore_n (show pAt 52 25 = some (25, .istore_n 2, 1, []) from by decide +kernel) ⟨Nat.le_of_ble_eq_true rfl, rfl⟩ rfl ?_
    refine e_iload_n (show pAt 52 26 = some (26, .iload_n 2, 1, []) from by decide +kernel) rfl ?_
    refine e_if (t := 40) (show pAt 52 27 = some (27, .ifCond .lt 13, 3, []) from by decide +kernel) rfl (fun c10 => ?_) (fun c10 => ?_)
    · replace vc := vc.1 c10
      refine e_iload_n (show pAt 52 40 = some (40, .iload_n 2, 1, []) from by decide +kernel) rfl ?_
      exact e_retI (show pAt 52 41 = some (41, .ireturn, 1, []) from by decide +kernel) rfl vc
    · replace vc := vc.2 c10
      refine e_aload_n (show pAt 52 30 = some (30, .aload_n 0, 1, []) from by decide +kernel) rfl (ra (by decide)) ?_
      refine e_dupR (show pAt 52 31 = some (31, .dup, 1, []) from by decide +kernel) ?_
      refine e_gIv (v := h7.2.1 44 2) (show pAt 52 32 = some (32, .getfield 29, 3, [4, 2, 0, 1200]) from by decide +kernel) (show HS h7 from hs_h7) rfl (by decide) rfl ?_
      refine e_iconst (c := 1) (show pAt 52 35 = some (35, .iconst 1, 1, []) from by decide +kernel) (by decide) ?_
      refine e_iadd (show pAt 52 36 = some (36, .iadd, 1, []) from by decide +kernel) ?_
      refine e_pI (show pAt 52 37 = some (37, .putfield 29, 3, [4, 2, 0, 1200]) from by decide +kernel) (show HS h7 from hs_h7) (by decide) (Or.inl rfl) ?_
      refine e_iload_n (show pAt 52 40 = some (40, .iload_n 2, 1, []) from by decide +kernel) rfl ?_
      exact e_retI (show pAt 52 41 = some (41, .ireturn, 1, []) from by decide +kernel) rfl vc

theorem w_rn0 {X : Scr} {dp : Nat} {h : Hp} {Q : Option Value → Hp → Prop}  (hs : HS h)
    (vc : Ends X dp 45 4 [.ref 44, .int 0, .int 0] [] h Q) :
    Ends X dp 45 0 [.ref 44, .retAddr 0, .retAddr 0] [] h Q := by
  have ra : ∀ {a : Nat}, a < 1000 → a ≤ OLDB := fun h => by have := OLDB_eq; omega
  refine e_iconst (c := 0) (show pAt 45 0 = some (0, .iconst 0, 1, []) from by decide +kernel) (by decide) ?_
  refine e_istore_n (show pAt 45 1 = some (1, .istore_n 1, 1, []) from by decide +kernel) ⟨Nat.le_of_ble_eq_true rfl, rfl⟩ rfl ?_
  refine e_iconst (c := 0) (show pAt 45 2 = some (2, .iconst 0, 1, []) from by decide +kernel) (by decide) ?_
  refine e_istore_n (show pAt 45 3 = some (3, .istore_n 2, 1, []) from by decide +kernel) ⟨Nat.le_of_ble_eq_true rfl, rfl⟩ rfl ?_
  exact vc

theorem w_rn1 {X : Scr} {dp : Nat} {h : Hp} {Q : Option Value → Hp → Prop} (n : Int32) (d : Int32) (hs : HS h)
    (vc : ((condB .ge d 2 = true → ((condB .ne d 0 = true → Q (some (.int n)) h) ∧ (condB .ne d 0 = false → Q (some (.int (-1))) h))) ∧ (condB .ge d 2 = false → Ends X dp 49 0 [.ref 44] [] h (fun rv h3 => ∃ r4, rv = some (.int r4) ∧ HS h3 ∧ ((condB .eq r4 0 = true → ((condB .ne d 0 = true → Q (some (.int n)) h3) ∧ (condB .ne d 0 = false → Q (some (.int (-1))) h3))) ∧ (condB .eq r4 0 = false → (inB (h3.2.1 44 2) 100 = true ∧ ((condB .lt (h3.2.1 45 (h3.2.1 44 2).toNatClampNeg) 48 = true → ((condB .ne d 0 = true → Q (some (.int n)) h3) ∧ (condB .ne d 0 = false → Q (some (.int (-1))) h3))) ∧ (condB .lt (h3.2.1 45 (h3.2.1 44 2).toNatClampNeg) 48 = false → (inB (h3.2.1 44 2) 100 = true ∧ ((condB .gt (h3.2.1 45 (h3.2.1 44 2).toNatClampNeg) 57 = true → ((condB .ne d 0 = true → Q (some (.int n)) h3) ∧ (condB .ne d 0 = false → Q (some (.int (-1))) h3))) ∧ (condB .gt (h3.2.1 45 (h3.2.1 44 2).toNatClampNeg) 57 = false → (inB (h3.2.1 44 2) 100 = true ∧ Ends X (dp + 1) 45 4 [.ref 44, .int (((n * 10) + (h3.2.1 45 (h3.2.1 44 2).toNatClampNeg)) - 48), .int (d + 1)] [] (hpI h3 44 2 ((h3.2.1 44 2) + 1)) Q))))))))))))) :
    Ends X (dp + 1) 45 4 [.ref 44, .int n, .int d] [] h Q := by
  have ra : ∀ {a : Nat}, a < 1000 → a ≤ OLDB := fun h => by have := OLDB_eq; omega
  refine e_iload_n (show pAt 45 4 = some (4, .iload_n 2, 1, []) from by decide +kernel) rfl ?_
  refine e_iconst (c := 2) (show pAt 45 5 = some (5, .iconst 2, 1, []) from by decide +kernel) (by decide) ?_
  refine e_icmp (t := 78) (show pAt 45 6 = some (6, .if_icmp .ge 72, 3, []) from by decide +kernel) rfl (fun c1 => ?_) (fun c1 => ?_)
  · replace vc := vc.1 c1
    refine e_iload_n (show pAt 45 78 = some (78, .iload_n 2, 1, []) from by decide +kernel) rfl ?_
    refine e_if (t := 86) (show pAt 45 79 = some (79, .ifCond .ne 7, 3, []) from by decide +kernel) rfl (fun c2 => ?_) (fun c2 => ?_)
    · replace vc := vc.1 c2
      refine e_iload_n (show pAt 45 86 = some (86, .iload_n 1, 1, []) from by decide +kernel) rfl ?_
      exact e_retI (show pAt 45 87 = some (87, .ireturn, 1, []) from by decide +kernel) rfl vc
    · replace vc := vc.2 c2
      refine e_iconst (c := (-1)) (show pAt 45 82 = some (82, .iconst (-1), 1, []) from by decide +kernel) (by decide) ?_
      refine e_goto (t := 87) (show pAt 45 83 = some (83, .goto 4, 3, []) from by decide +kernel) rfl ?_
      exact e_retI (show pAt 45 87 = some (87, .ireturn, 1, []) from by decide +kernel) rfl vc
  · replace vc := vc.2 c1
    refine e_aload_n (show pAt 45 9 = some (9, .aload_n 0, 1, []) from by decide +kernel) rfl (ra (by decide)) ?_
    refine Ends.call (show pAt 45 10 = some (10, .invokevirtual 65, 3, [49, 1, 0, 0, 3011, 3013, 33]) from by decide +kernel) (isRet_none rfl) rfl (call_this (show HS h from hs) rfl rfl (by decide)) (Ends.mono vc ?_)
    rintro _ h3 ⟨r4, rfl, hs_h3, vc⟩
    refine e_if (t := 78) (show pAt 45 13 = some (13, .ifCond .eq 65, 3, []) from by decide +kernel) rfl (fun c6 => ?_) (fun c6 => ?_)
    · replace vc := vc.1 c6
      refine e_iload_n (show pAt 45 78 = some (78, .iload_n 2, 1, []) from by decide +kernel) rfl ?_
      refine e_if (t := 86) (show pAt 45 79 = some (79, .ifCond .ne 7, 3, []) from by decide +kernel) rfl (fun c7 => ?_) (fun c7 => ?_)
      · replace vc := vc.1 c7
        refine e_iload_n (show pAt 45 86 = some (86, .iload_n 1, 1, []) from by decide +kernel) rfl ?_
        exact e_retI (show pAt 45 87 = some (87, .ireturn, 1, []) from by decide +kernel) rfl vc
      · replace vc := vc.2 c7
        refine e_iconst (c := (-1)) (show pAt 45 82 = some (82, .iconst (-1), 1, []) from by decide +kernel) (by decide) ?_
        refine e_goto (t := 87) (show pAt 45 83 = some (83, .goto 4, 3, []) from by decide +kernel) rfl ?_
        exact e_retI (show pAt 45 87 = some (87, .ireturn, 1, []) from by decide +kernel) rfl vc
    · replace vc := vc.2 c6
      refine e_aload_n (show pAt 45 16 = some (16, .aload_n 0, 1, []) from by decide +kernel) rfl (ra (by decide)) ?_
      refine e_gR (show pAt 45 17 = some (17, .getfield 9, 3, [4, 0, 0, 1197]) from by decide +kernel) (show HS h3 from hs_h3) rfl (by decide) (hs_ref (show HS h3 from hs_h3) rfl) ?_
      refine e_aload_n (show pAt 45 20 = some (20, .aload_n 0, 1, []) from by decide +kernel) rfl (ra (by decide)) ?_
      refine e_gIv (v := h3.2.1 44 2) (show pAt 45 21 = some (21, .getfield 29, 3, [4, 2, 0, 1200]) from by decide +kernel) (show HS h3 from hs_h3) rfl (by decide) rfl ?_
      obtain ⟨c8, vc⟩ := vc
      refine e_aldv (v := h3.2.1 45 (h3.2.1 44 2).toNatClampNeg) (show pAt 45 24 = some (24, .iaload, 1, []) from by decide +kernel) (show HS h3 from hs_h3) (by decide) c8 rfl ?_
      refine e_bipush (c := 48) (show pAt 45 25 = some (25, .bipush 48, 2, []) from by decide +kernel) (by decide) ?_
      refine e_icmp (t := 78) (show pAt 45 27 = some (27, .if_icmp .lt 51, 3, []) from by decide +kernel) rfl (fun c9 => ?_) (fun c9 => ?_)
      · replace vc := vc.1 c9
        refine e_iload_n (show pAt 45 78 = some (78, .iload_n 2, 1, []) from by decide +kernel) rfl ?_
        refine e_if (t := 86) (show pAt 45 79 = some (79, .ifCond .ne 7, 3, []) from by decide +kernel) rfl (fun c10 => ?_) (fun c10 => ?_)
        · replace vc := vc.1 c10
          refine e_iload_n (show pAt 45 86 = some (86, .iload_n 1, 1, []) from by decide +kernel) rfl ?_
          exact e_retI (show pAt 45 87 = some (87, .ireturn, 1, []) from by decide +kernel) rfl vc
        · replace vc := vc.2 c10
          refine e_iconst (c := (-1)) (show pAt 45 82 = some (82, .iconst (-1), 1, []) from by decide +kernel) (by decide) ?_
          refine e_goto (t := 87) (show pAt 45 83 = some (83, .goto 4, 3, []) from by decide +kernel) rfl ?_
          exact e_retI (show pAt 45 87 = some (87, .ireturn, 1, []) from by decide +kernel) rfl vc
      · replace vc := vc.2 c9
        refine e_aload_n (show pAt 45 30 = some (30, .aload_n 0, 1, []) from by decide +kernel) rfl (ra (by decide)) ?_
        refine e_gR (show pAt 45 31 = some (31, .getfield 9, 3, [4, 0, 0, 1197]) from by decide +kernel) (show HS h3 from hs_h3) rfl (by decide) (hs_ref (show HS h3 from hs_h3) rfl) ?_
        refine e_aload_n (show pAt 45 34 = some (34, .aload_n 0, 1, []) from by decide +kernel) rfl (ra (by decide)) ?_
        refine e_gIv (v := h3.2.1 44 2) (show pAt 45 35 = some (35, .getfield 29, 3, [4, 2, 0, 1200]) from by decide +kernel) (show HS h3 from hs_h3) rfl (by decide) rfl ?_
        obtain ⟨c11, vc⟩ := vc
        refine e_aldv (v := h3.2.1 45 (h3.2.1 44 2).toNatClampNeg) (show pAt 45 38 = some (38, .iaload, 1, []) from by decide +kernel) (show HS h3 from hs_h3) (by decide) c11 rfl ?_
        refine e_bipush (c := 57) (show pAt 45 39 = some (39, .bipush 57, 2, []) from by decide +kernel) (by decide) ?_
        refine e_icmp (t := 78) (show pAt 45 41 = some (41, .if_icmp .gt 37, 3, []) from by decide +kernel) rfl (fun c12 => ?_) (fun c12 => ?_)
        · replace vc := vc.1 c12
          refine e_iload_n (show pAt 45 78 = some (78, .iload_n 2, 1, []) from by decide +kernel) rfl ?_
          refine e_if (t := 86) (show pAt 45 79 = some (79, .ifCond .ne 7, 3, []) from by decide +kernel) rfl (fun c13 => ?_) (fun c13 => ?_)
          · replace vc := vc.1 c13
            refine e_iload_n (show pAt 45 86 = some (86, .iload_n 1, 1, []) from by decide +kernel) rfl ?_
            exact e_retI (show pAt 45 87 = some (87, .ireturn, 1, []) from by decide +kernel) rfl vc
          · replace vc := vc.2 c13
            refine e_iconst (c := (-1)) (show pAt 45 82 = some (82, .iconst (-1), 1, []) from by decide +kernel) (by decide) ?_
            refine e_goto (t := 87) (show pAt 45 83 = some (83, .goto 4, 3, []) from by decide +kernel) rfl ?_
            exact e_retI (show pAt 45 87 = some (87, .ireturn, 1, []) from by decide +kernel) rfl vc
        · replace vc := vc.2 c12
          refine e_iload_n (show pAt 45 44 = some (44, .iload_n 1, 1, []) from by decide +kernel) rfl ?_
          refine e_bipush (c := 10) (show pAt 45 45 = some (45, .bipush 10, 2, []) from by decide +kernel) (by decide) ?_
          refine e_imul (show pAt 45 47 = some (47, .imul, 1, []) from by decide +kernel) ?_
          refine e_aload_n (show pAt 45 48 = some (48, .aload_n 0, 1, []) from by decide +kernel) rfl (ra (by decide)) ?_
          refine e_gR (show pAt 45 49 = some (49, .getfield 9, 3, [4, 0, 0, 1197]) from by decide +kernel) (show HS h3 from hs_h3) rfl (by decide) (hs_ref (show HS h3 from hs_h3) rfl) ?_
          refine e_aload_n (show pAt 45 52 = some (52, .aload_n 0, 1, []) from by decide +kernel) rfl (ra (by decide)) ?_
          refine e_gIv (v := h3.2.1 44 2) (show pAt 45 53 = some (53, .getfield 29, 3, [4, 2, 0, 1200]) from by decide +kernel) (show HS h3 from hs_h3) rfl (by decide) rfl ?_
          obtain ⟨c14, vc⟩ := vc
          refine e_aldv (v := h3.2.1 45 (h3.2.1 44 2).toNatClampNeg) (show pAt 45 56 = some (56, .iaload, 1, []) from by decide +kernel) (show HS h3 from hs_h3) (by decide) c14 rfl ?_
          refine e_iadd (show pAt 45 57 = some (57, .iadd, 1, []) from by decide +kernel) ?_
          refine e_bipush (c := 48) (show pAt 45 58 = some (58, .bipush 48, 2, []) from by decide +kernel) (by decide) ?_
          refine e_isub (show pAt 45 60 = some (60, .isub, 1, []) from by decide +kernel) ?_
          refine e_istore_n (show pAt 45 61 = some (61, .istore_n 1, 1, []) from by decide +kernel) ⟨Nat.le_of_ble_eq_true rfl, rfl⟩ rfl ?_
          refine e_aload_n (show pAt 45 62 = some (62, .aload_n 0, 1, []) from by decide +kernel) rfl (ra (by decide)) ?_
          refine e_dupR (show pAt 45 63 = some (63, .dup, 1, []) from by decide +kernel) ?_
          refine e_gIv (v := h3.2.1 44 2) (show pAt 45 64 = some (64, .getfield 29, 3, [4, 2, 0, 1200]) from by decide +kernel) (show HS h3 from hs_h3) rfl (by decide) rfl ?_
          refine e_iconst (c := 1) (show pAt 45 67 = some (67, .iconst 1, 1, []) from by decide +kernel) (by decide) ?_
          refine e_iadd (show pAt 45 68 = some (68, .iadd, 1, []) from by decide +kernel) ?_
          refine e_pI (show pAt 45 69 = some (69, .putfield 29, 3, [4, 2, 0, 1200]) from by decide +kernel) (show HS h3 from hs_h3) (by decide) (Or.inl rfl) ?_
          refine e_iinc (c := 1) (show pAt 45 72 = some (72, .iinc 2 1, 3, []) from by decide +kernel) rfl rfl (by decide) rfl ?_
          refine e_goto (t := 4) (show pAt 45 75 = some (75, .goto (-71), 3, []) from by decide +kernel) rfl ?_
          exact vc

theorem w_rw {X : Scr} {dp : Nat} {h : Hp} {Q : Option Value → Hp → Prop}  (hs : HS h)
    (vc : Ends X dp 50 0 [.ref 44, .int 114] [] h (fun rv h1 => ∃ r2, rv = some (.int r2) ∧ HS h1 ∧ ((condB .eq r2 0 = true → Ends X dp 50 0 [.ref 44, .int 104] [] h1 (fun rv h5 => ∃ r6, rv = some (.int r6) ∧ HS h5 ∧ ((condB .eq r6 0 = true → Ends X dp 50 0 [.ref 44, .int 100] [] h5 (fun rv h9 => ∃ r10, rv = some (.int r10) ∧ HS h9 ∧ ((condB .eq r10 0 = true → Q (some (.int (-1))) h9) ∧ (condB .eq r10 0 = false → Ends X dp 51 0 [.ref 44, .ref (OLDB + 5), .retAddr 0] [] h9 (fun rv h13 => ∃ r14, rv = some (.int r14) ∧ HS h13 ∧ ((condB .eq r14 0 = true → Q (some (.int (-1))) h13) ∧ (condB .eq r14 0 = false → Q (some (.int 2)) h13))))))) ∧ (condB .eq r6 0 = false → Ends X dp 51 0 [.ref 44, .ref (OLDB + 4), .retAddr 0] [] h5 (fun rv h17 => ∃ r18, rv = some (.int r18) ∧ HS h17 ∧ ((condB .eq r18 0 = true → Q (some (.int (-1))) h17) ∧ (condB .eq r18 0 = false → Q (some (.int 1)) h17))))))) ∧ (condB .eq r2 0 = false → Ends X dp 51 0 [.ref 44, .ref (OLDB + 3), .retAddr 0] [] h1 (fun rv h21 => ∃ r22, rv = some (.int r22) ∧ HS h21 ∧ ((condB .eq r22 0 = true → Q (some (.int (-1))) h21) ∧ (condB .eq r22 0 = false → Q (some (.int 0)) h21))))))) :
    Ends X (dp + 1) 44 0 [.ref 44] [] h Q := by
  have ra : ∀ {a : Nat}, a < 1000 → a ≤ OLDB := fun h => by have := OLDB_eq; omega
  refine e_aload_n (show pAt 44 0 = some (0, .aload_n 0, 1, []) from by decide +kernel) rfl (ra (by decide)) ?_
  refine e_bipush (c := 114) (show pAt 44 1 = some (1, .bipush 114, 2, []) from by decide +kernel) (by decide) ?_
  refine Ends.call (show pAt 44 3 = some (3, .invokevirtual 36, 3, [50, 2, 0, 0, 3007, 3009, 32]) from by decide +kernel) (isRet_none rfl) rfl (call_this (show HS h from hs) rfl rfl (by decide)) (Ends.mono vc ?_)
  rintro _ h1 ⟨r2, rfl, hs_h1, vc⟩
  refine e_if (t := 24) (show pAt 44 6 = some (6, .ifCond .eq 18, 3, []) from by decide +kernel) rfl (fun c4 => ?_) (fun c4 => ?_)
  · replace vc := vc.1 c4
    refine e_aload_n (show pAt 44 24 = some (24, .aload_n 0, 1, []) from by decide +kernel) rfl (ra (by decide)) ?_
    refine e_bipush (c := 104) (show pAt 44 25 = some (25, .bipush 104, 2, []) from by decide +kernel) (by decide) ?_
    refine Ends.call (show pAt 44 27 = some (27, .invokevirtual 36, 3, [50, 2, 0, 0, 3007, 3009, 32]) from by decide +kernel) (isRet_none rfl) rfl (call_this (show HS h1 from hs_h1) rfl rfl (by decide)) (Ends.mono vc ?_)
    rintro _ h5 ⟨r6, rfl, hs_h5, vc⟩
    refine e_if (t := 48) (show pAt 44 30 = some (30, .ifCond .eq 18, 3, []) from by decide +kernel) rfl (fun c8 => ?_) (fun c8 => ?_)
    · replace vc := vc.1 c8
      refine e_aload_n (show pAt 44 48 = some (48, .aload_n 0, 1, []) from by decide +kernel) rfl (ra (by decide)) ?_
      refine e_bipush (c := 100) (show pAt 44 49 = some (49, .bipush 100, 2, []) from by decide +kernel) (by decide) ?_
      refine Ends.call (show pAt 44 51 = some (51, .invokevirtual 36, 3, [50, 2, 0, 0, 3007, 3009, 32]) from by decide +kernel) (isRet_none rfl) rfl (call_this (show HS h5 from hs_h5) rfl rfl (by decide)) (Ends.mono vc ?_)
      rintro _ h9 ⟨r10, rfl, hs_h9, vc⟩
      refine e_if (t := 70) (show pAt 44 54 = some (54, .ifCond .eq 16, 3, []) from by decide +kernel) rfl (fun c12 => ?_) (fun c12 => ?_)
      · replace vc := vc.1 c12
        refine e_iconst (c := (-1)) (show pAt 44 70 = some (70, .iconst (-1), 1, []) from by decide +kernel) (by decide) ?_
        exact e_retI (show pAt 44 71 = some (71, .ireturn, 1, []) from by decide +kernel) rfl vc
      · replace vc := vc.2 c12
        refine e_aload_n (show pAt 44 57 = some (57, .aload_n 0, 1, []) from by decide +kernel) rfl (ra (by decide)) ?_
        refine e_ldcS (show pAt 44 58 = some (58, .ldc 63, 2, [1, 2, 3069]) from by decide +kernel) (by decide) ?_
        refine Ends.call (show pAt 44 60 = some (60, .invokevirtual 57, 3, [51, 2, 0, 0, 3016, 3018, 34]) from by decide +kernel) (isRet_none rfl) rfl (call_this (show HS h9 from hs_h9) rfl rfl (by decide)) (Ends.mono vc ?_)
        rintro _ h13 ⟨r14, rfl, hs_h13, vc⟩
        refine e_if (t := 70) (show pAt 44 63 = some (63, .ifCond .eq 7, 3, []) from by decide +kernel) rfl (fun c16 => ?_) (fun c16 => ?_)
        · replace vc := vc.1 c16
          refine e_iconst (c := (-1)) (show pAt 44 70 = some (70, .iconst (-1), 1, []) from by decide +kernel) (by decide) ?_
          exact e_retI (show pAt 44 71 = some (71, .ireturn, 1, []) from by decide +kernel) rfl vc
        · replace vc := vc.2 c16
          refine e_iconst (c := 2) (show pAt 44 66 = some (66, .iconst 2, 1, []) from by decide +kernel) (by decide) ?_
          refine e_goto (t := 71) (show pAt 44 67 = some (67, .goto 4, 3, []) from by decide +kernel) rfl ?_
          exact e_retI (show pAt 44 71 = some (71, .ireturn, 1, []) from by decide +kernel) rfl vc
    · replace vc := vc.2 c8
      refine e_aload_n (show pAt 44 33 = some (33, .aload_n 0, 1, []) from by decide +kernel) rfl (ra (by decide)) ?_
      refine e_ldcS (show pAt 44 34 = some (34, .ldc 61, 2, [1, 1, 3068]) from by decide +kernel) (by decide) ?_
      refine Ends.call (show pAt 44 36 = some (36, .invokevirtual 57, 3, [51, 2, 0, 0, 3016, 3018, 34]) from by decide +kernel) (isRet_none rfl) rfl (call_this (show HS h5 from hs_h5) rfl rfl (by decide)) (Ends.mono vc ?_)
      rintro _ h17 ⟨r18, rfl, hs_h17, vc⟩
      refine e_if (t := 46) (show pAt 44 39 = some (39, .ifCond .eq 7, 3, []) from by decide +kernel) rfl (fun c20 => ?_) (fun c20 => ?_)
      · replace vc := vc.1 c20
        refine e_iconst (c := (-1)) (show pAt 44 46 = some (46, .iconst (-1), 1, []) from by decide +kernel) (by decide) ?_
        exact e_retI (show pAt 44 47 = some (47, .ireturn, 1, []) from by decide +kernel) rfl vc
      · replace vc := vc.2 c20
        refine e_iconst (c := 1) (show pAt 44 42 = some (42, .iconst 1, 1, []) from by decide +kernel) (by decide) ?_
        refine e_goto (t := 47) (show pAt 44 43 = some (43, .goto 4, 3, []) from by decide +kernel) rfl ?_
        exact e_retI (show pAt 44 47 = some (47, .ireturn, 1, []) from by decide +kernel) rfl vc
  · replace vc := vc.2 c4
    refine e_aload_n (show pAt 44 9 = some (9, .aload_n 0, 1, []) from by decide +kernel) rfl (ra (by decide)) ?_
    refine e_ldcS (show pAt 44 10 = some (10, .ldc 55, 2, [1, 0, 3015]) from by decide +kernel) (by decide) ?_
    refine Ends.call (show pAt 44 12 = some (12, .invokevirtual 57, 3, [51, 2, 0, 0, 3016, 3018, 34]) from by decide +kernel) (isRet_none rfl) rfl (call_this (show HS h1 from hs_h1) rfl rfl (by decide)) (Ends.mono vc ?_)
    rintro _ h21 ⟨r22, rfl, hs_h21, vc⟩
    refine e_if (t := 22) (show pAt 44 15 = some (15, .ifCond .eq 7, 3, []) from by decide +kernel) rfl (fun c24 => ?_) (fun c24 => ?_)
    · replace vc := vc.1 c24
      refine e_iconst (c := (-1)) (show pAt 44 22 = some (22, .iconst (-1), 1, []) from by decide +kernel) (by decide) ?_
      exact e_retI (show pAt 44 23 = some (23, .ireturn, 1, []) from by decide +kernel) rfl vc
    · replace vc := vc.2 c24
      refine e_iconst (c := 0) (show pAt 44 18 = some (18, .iconst 0, 1, []) from by decide +kernel) (by decide) ?_
      refine e_goto (t := 23) (show pAt 44 19 = some (19, .goto 4, 3, []) from by decide +kernel) rfl ?_
      exact e_retI (show pAt 44 23 = some (23, .ireturn, 1, []) from by decide +kernel) rfl vc

theorem w_clr {X : Scr} {dp : Nat} {h : Hp} {Q : Option Value → Hp → Prop} {q : Nat} (hY : YQ q) (hs : HS h)
    (vc : Q none (hpI (hpI h q 0 0) q 5 0)) :
    Ends X dp 54 0 [.ref q] [] h Q := by
  have ra : ∀ {a : Nat}, a < 1000 → a ≤ OLDB := fun h => by have := OLDB_eq; omega
  have hqr := yq_rng hY
  have hOB := OLDB_eq
  refine e_aload_n (show pAt 54 0 = some (0, .aload_n 0, 1, []) from by decide +kernel) rfl (show q ≤ OLDB by omega) ?_
  refine e_iconst (c := 0) (show pAt 54 1 = some (1, .iconst 0, 1, []) from by decide +kernel) (by decide) ?_
  refine e_pI (a := q) (show pAt 54 2 = some (2, .putfield 24, 3, [5, 0, 0, 1108]) from by decide +kernel) (show HS h from hs) (yq (P := fun q => decide (q < 1000) && decide (SHl[q]? = some (.inr 5)) && decide (0 < vwN 5) && !isRefTy (vwTy 5 0)) hY (by decide +kernel)) (Or.inl rfl) ?_
  refine e_aload_n (show pAt 54 5 = some (5, .aload_n 0, 1, []) from by decide +kernel) rfl (show q ≤ OLDB by omega) ?_
  refine e_iconst (c := 0) (show pAt 54 6 = some (6, .iconst 0, 1, []) from by decide +kernel) (by decide) ?_
  refine e_pI (a := q) (show pAt 54 7 = some (7, .putfield 28, 3, [5, 5, 0, 1113]) from by decide +kernel) (show HS (hpI h q 0 0) from hs) (yq (P := fun q => decide (q < 1000) && decide (SHl[q]? = some (.inr 5)) && decide (5 < vwN 5) && !isRefTy (vwTy 5 5)) hY (by decide +kernel)) (Or.inl rfl) ?_
  exact e_retV (show pAt 54 10 = some (10, .return_, 1, []) from by decide +kernel) rfl vc

theorem w_add {X : Scr} {dp : Nat} {h : Hp} {Q : Option Value → Hp → Prop} {q : Nat} (hY : YQ q) (m : Int32) (hs : HS h)
    (vc : ((condB .ge (h.2.1 q 5) 100 = true → Q none h) ∧ (condB .ge (h.2.1 q 5) 100 = false → (inB (h.2.1 q 5) 100 = true ∧ Q none (hpI (hpI h (q + 4) (h.2.1 q 5).toNatClampNeg m) q 5 ((h.2.1 q 5) + 1)))))) :
    Ends X dp 55 0 [.ref q, .int m] [] h Q := by
  have ra : ∀ {a : Nat}, a < 1000 → a ≤ OLDB := fun h => by have := OLDB_eq; omega
  have hqr := yq_rng hY
  have hOB := OLDB_eq
  refine e_aload_n (show pAt 55 0 = some (0, .aload_n 0, 1, []) from by decide +kernel) rfl (show q ≤ OLDB by omega) ?_
  refine e_gIv (v := h.2.1 q 5) (show pAt 55 1 = some (1, .getfield 28, 3, [5, 5, 0, 1113]) from by decide +kernel) (show HS h from hs) rfl (yq (P := fun q => decide (q < 1000) && decide (SHl[q]? = some (.inr 5)) && decide (5 < vwN 5) && !isRefTy (vwTy 5 5)) hY (by decide +kernel)) rfl ?_
  refine e_bipush (c := 100) (show pAt 55 4 = some (4, .bipush 100, 2, []) from by decide +kernel) (by decide) ?_
  refine e_icmp (t := 29) (show pAt 55 6 = some (6, .if_icmp .ge 23, 3, []) from by decide +kernel) rfl (fun c1 => ?_) (fun c1 => ?_)
  · replace vc := vc.1 c1
    exact e_retV (show pAt 55 29 = some (29, .return_, 1, []) from by decide +kernel) rfl vc
  · replace vc := vc.2 c1
    refine e_aload_n (show pAt 55 9 = some (9, .aload_n 0, 1, []) from by decide +kernel) rfl (show q ≤ OLDB by omega) ?_
    refine e_gR (b := q + 4) (show pAt 55 10 = some (10, .getfield 21, 3, [5, 4, 0, 1112]) from by decide +kernel) (show HS h from hs) rfl (yq (P := fun q => decide (q < 1000) && decide (q + 4 < 1000) && decide (SHl[q]? = some (.inr 5)) && decide (4 < vwN 5) && isRefTy (vwTy 5 4)) hY (by decide +kernel)) (hs_ref (show HS h from hs) (of_decide_eq_true (yq (P := fun q => decide (rst q 4 = [q + 4])) hY (by decide +kernel)))) ?_
    refine e_aload_n (show pAt 55 13 = some (13, .aload_n 0, 1, []) from by decide +kernel) rfl (show q ≤ OLDB by omega) ?_
    refine e_gIv (v := h.2.1 q 5) (show pAt 55 14 = some (14, .getfield 28, 3, [5, 5, 0, 1113]) from by decide +kernel) (show HS h from hs) rfl (yq (P := fun q => decide (q < 1000) && decide (SHl[q]? = some (.inr 5)) && decide (5 < vwN 5) && !isRefTy (vwTy 5 5)) hY (by decide +kernel)) rfl ?_
    refine e_iload_n (show pAt 55 17 = some (17, .iload_n 1, 1, []) from by decide +kernel) rfl ?_
    obtain ⟨c2, vc⟩ := vc
    refine e_ast (n := 100) (show pAt 55 18 = some (18, .iastore, 1, []) from by decide +kernel) (show HS h from hs) (yq (P := fun q => decide (q + 4 < 1000) && decide (SHl[q + 4]? = some (.inl (0, 100)))) hY (by decide +kernel)) c2 ?_
    refine e_aload_n (show pAt 55 19 = some (19, .aload_n 0, 1, []) from by decide +kernel) rfl (show q ≤ OLDB by omega) ?_
    refine e_dupR (show pAt 55 20 = some (20, .dup, 1, []) from by decide +kernel) ?_
    refine e_gIv (v := h.2.1 q 5) (show pAt 55 21 = some (21, .getfield 28, 3, [5, 5, 0, 1113]) from by decide +kernel) (show HS (hpI h (q + 4) (h.2.1 q 5).toNatClampNeg m) from hs) rfl (yq (P := fun q => decide (q < 1000) && decide (SHl[q]? = some (.inr 5)) && decide (5 < vwN 5) && !isRefTy (vwTy 5 5)) hY (by decide +kernel)) (by rw [put_ne (by omega)]) ?_
    refine e_iconst (c := 1) (show pAt 55 24 = some (24, .iconst 1, 1, []) from by decide +kernel) (by decide) ?_
    refine e_iadd (show pAt 55 25 = some (25, .iadd, 1, []) from by decide +kernel) ?_
    refine e_pI (a := q) (show pAt 55 26 = some (26, .putfield 28, 3, [5, 5, 0, 1113]) from by decide +kernel) (show HS (hpI h (q + 4) (h.2.1 q 5).toNatClampNeg m) from hs) (yq (P := fun q => decide (q < 1000) && decide (SHl[q]? = some (.inr 5)) && decide (5 < vwN 5) && !isRefTy (vwTy 5 5)) hY (by decide +kernel)) (Or.inl rfl) ?_
    exact e_retV (show pAt 55 29 = some (29, .return_, 1, []) from by decide +kernel) rfl vc

theorem w_cls {X : Scr} {dp : Nat} {h : Hp} {Q : Option Value → Hp → Prop} {q : Nat} (hY : YQ q) (w : Int32) (n : Int32) (hs : HS h)
    (vc : ((condB .ge (h.2.1 q 0) 10 = true → Q none h) ∧ (condB .ge (h.2.1 q 0) 10 = false → (inB (h.2.1 q 0) 10 = true ∧ (inB (h.2.1 q 0) 10 = true ∧ (inB (h.2.1 q 0) 10 = true ∧ Q none (hpI (hpI (hpI (hpI h (q + 1) (h.2.1 q 0).toNatClampNeg w) (q + 2) (h.2.1 q 0).toNatClampNeg n) (q + 3) (h.2.1 q 0).toNatClampNeg (h.2.1 q 5)) q 0 ((h.2.1 q 0) + 1)))))))) :
    Ends X dp 56 0 [.ref q, .int w, .int n] [] h Q := by
  have ra : ∀ {a : Nat}, a < 1000 → a ≤ OLDB := fun h => by have := OLDB_eq; omega
  have hqr := yq_rng hY
  have hOB := OLDB_eq
  refine e_aload_n (show pAt 56 0 = some (0, .aload_n 0, 1, []) from by decide +kernel) rfl (show q ≤ OLDB by omega) ?_
  refine e_gIv (v := h.2.1 q 0) (show pAt 56 1 = some (1, .getfield 24, 3, [5, 0, 0, 1108]) from by decide +kernel) (show HS h from hs) rfl (yq (P := fun q => decide (q < 1000) && decide (SHl[q]? = some (.inr 5)) && decide (0 < vwN 5) && !isRefTy (vwTy 5 0)) hY (by decide +kernel)) rfl ?_
  refine e_bipush (c := 10) (show pAt 56 4 = some (4, .bipush 10, 2, []) from by decide +kernel) (by decide) ?_
  refine e_icmp (t := 52) (show pAt 56 6 = some (6, .if_icmp .ge 46, 3, []) from by decide +kernel) rfl (fun c1 => ?_) (fun c1 => ?_)
  · replace vc := vc.1 c1
    exact e_retV (show pAt 56 52 = some (52, .return_, 1, []) from by decide +kernel) rfl vc
  · replace vc := vc.2 c1
    refine e_aload_n (show pAt 56 9 = some (9, .aload_n 0, 1, []) from by decide +kernel) rfl (show q ≤ OLDB by omega) ?_
    refine e_gR (b := q + 1) (show pAt 56 10 = some (10, .getfield 11, 3, [5, 1, 0, 1109]) from by decide +kernel) (show HS h from hs) rfl (yq (P := fun q => decide (q < 1000) && decide (q + 1 < 1000) && decide (SHl[q]? = some (.inr 5)) && decide (1 < vwN 5) && isRefTy (vwTy 5 1)) hY (by decide +kernel)) (hs_ref (show HS h from hs) (of_decide_eq_true (yq (P := fun q => decide (rst q 1 = [q + 1])) hY (by decide +kernel)))) ?_
    refine e_aload_n (show pAt 56 13 = some (13, .aload_n 0, 1, []) from by decide +kernel) rfl (show q ≤ OLDB by omega) ?_
    refine e_gIv (v := h.2.1 q 0) (show pAt 56 14 = some (14, .getfield 24, 3, [5, 0, 0, 1108]) from by decide +kernel) (show HS h from hs) rfl (yq (P := fun q => decide (q < 1000) && decide (SHl[q]? = some (.inr 5)) && decide (0 < vwN 5) && !isRefTy (vwTy 5 0)) hY (by decide +kernel)) rfl ?_
    refine e_iload_n (show pAt 56 17 = some (17, .iload_n 1, 1, []) from by decide +kernel) rfl ?_
    obtain ⟨c2, vc⟩ := vc
    refine e_ast (n := 10) (show pAt 56 18 = some (18, .iastore, 1, []) from by decide +kernel) (show HS h from hs) (yq (P := fun q => decide (q + 1 < 1000) && decide (SHl[q + 1]? = some (.inl (0, 10)))) hY (by decide +kernel)) c2 ?_
    refine e_aload_n (show pAt 56 19 = some (19, .aload_n 0, 1, []) from by decide +kernel) rfl (show q ≤ OLDB by omega) ?_
    refine e_gR (b := q + 2) (show pAt 56 20 = some (20, .getfield 15, 3, [5, 2, 0, 1110]) from by decide +kernel) (show HS (hpI h (q + 1) (h.2.1 q 0).toNatClampNeg w) from hs) rfl (yq (P := fun q => decide (q < 1000) && decide (q + 2 < 1000) && decide (SHl[q]? = some (.inr 5)) && decide (2 < vwN 5) && isRefTy (vwTy 5 2)) hY (by decide +kernel)) (hs_ref (show HS (hpI h (q + 1) (h.2.1 q 0).toNatClampNeg w) from hs) (of_decide_eq_true (yq (P := fun q => decide (rst q 2 = [q + 2])) hY (by decide +kernel)))) ?_
    refine e_aload_n (show pAt 56 23 = some (23, .aload_n 0, 1, []) from by decide +kernel) rfl (show q ≤ OLDB by omega) ?_
    refine e_gIv (v := h.2.1 q 0) (show pAt 56 24 = some (24, .getfield 24, 3, [5, 0, 0, 1108]) from by decide +kernel) (show HS (hpI h (q + 1) (h.2.1 q 0).toNatClampNeg w) from hs) rfl (yq (P := fun q => decide (q < 1000) && decide (SHl[q]? = some (.inr 5)) && decide (0 < vwN 5) && !isRefTy (vwTy 5 0)) hY (by decide +kernel)) (by rw [put_ne (by omega)]) ?_
    refine e_iload_n (show pAt 56 27 = some (27, .iload_n 2, 1, []) from by decide +kernel) rfl ?_
    obtain ⟨c3, vc⟩ := vc
    refine e_ast (n := 10) (show pAt 56 28 = some (28, .iastore, 1, []) from by decide +kernel) (show HS (hpI h (q + 1) (h.2.1 q 0).toNatClampNeg w) from hs) (yq (P := fun q => decide (q + 2 < 1000) && decide (SHl[q + 2]? = some (.inl (0, 10)))) hY (by decide +kernel)) c3 ?_
    refine e_aload_n (show pAt 56 29 = some (29, .aload_n 0, 1, []) from by decide +kernel) rfl (show q ≤ OLDB by omega) ?_
    refine e_gR (b := q + 3) (show pAt 56 30 = some (30, .getfield 18, 3, [5, 3, 0, 1111]) from by decide +kernel) (show HS (hpI (hpI h (q + 1) (h.2.1 q 0).toNatClampNeg w) (q + 2) (h.2.1 q 0).toNatClampNeg n) from hs) rfl (yq (P := fun q => decide (q < 1000) && decide (q + 3 < 1000) && decide (SHl[q]? = some (.inr 5)) && decide (3 < vwN 5) && isRefTy (vwTy 5 3)) hY (by decide +kernel)) (hs_ref (show HS (hpI (hpI h (q + 1) (h.2.1 q 0).toNatClampNeg w) (q + 2) (h.2.1 q 0).toNatClampNeg n) from hs) (of_decide_eq_true (yq (P := fun q => decide (rst q 3 = [q + 3])) hY (by decide +kernel)))) ?_
    refine e_aload_n (show pAt 56 33 = some (33, .aload_n 0, 1, []) from by decide +kernel) rfl (show q ≤ OLDB by omega) ?_
    refine e_gIv (v := h.2.1 q 0) (show pAt 56 34 = some (34, .getfield 24, 3, [5, 0, 0, 1108]) from by decide +kernel) (show HS (hpI (hpI h (q + 1) (h.2.1 q 0).toNatClampNeg w) (q + 2) (h.2.1 q 0).toNatClampNeg n) from hs) rfl (yq (P := fun q => decide (q < 1000) && decide (SHl[q]? = some (.inr 5)) && decide (0 < vwN 5) && !isRefTy (vwTy 5 0)) hY (by decide +kernel)) (by rw [put_ne (by omega), put_ne (by omega)]) ?_
    refine e_aload_n (show pAt 56 37 = some (37, .aload_n 0, 1, []) from by decide +kernel) rfl (show q ≤ OLDB by omega) ?_
    refine e_gIv (v := h.2.1 q 5) (show pAt 56 38 = some (38, .getfield 28, 3, [5, 5, 0, 1113]) from by decide +kernel) (show HS (hpI (hpI h (q + 1) (h.2.1 q 0).toNatClampNeg w) (q + 2) (h.2.1 q 0).toNatClampNeg n) from hs) rfl (yq (P := fun q => decide (q < 1000) && decide (SHl[q]? = some (.inr 5)) && decide (5 < vwN 5) && !isRefTy (vwTy 5 5)) hY (by decide +kernel)) (by rw [put_ne (by omega), put_ne (by omega)]) ?_
    obtain ⟨c4, vc⟩ := vc
    refine e_ast (n := 10) (show pAt 56 41 = some (41, .iastore, 1, []) from by decide +kernel) (show HS (hpI (hpI h (q + 1) (h.2.1 q 0).toNatClampNeg w) (q + 2) (h.2.1 q 0).toNatClampNeg n) from hs) (yq (P := fun q => decide (q + 3 < 1000) && decide (SHl[q + 3]? = some (.inl (0, 10)))) hY (by decide +kernel)) c4 ?_
    refine e_aload_n (show pAt 56 42 = some (42, .aload_n 0, 1, []) from by decide +kernel) rfl (show q ≤ OLDB by omega) ?_
    refine e_dupR (show pAt 56 43 = some (43, .dup, 1, []) from by decide +kernel) ?_
    refine e_gIv (v := h.2.1 q 0) (show pAt 56 44 = some (44, .getfield 24, 3, [5, 0, 0, 1108]) from by decide +kernel) (show HS (hpI (hpI (hpI h (q + 1) (h.2.1 q 0).toNatClampNeg w) (q + 2) (h.2.1 q 0).toNatClampNeg n) (q + 3) (h.2.1 q 0).toNatClampNeg (h.2.1 q 5)) from hs) rfl (yq (P := fun q => decide (q < 1000) && decide (SHl[q]? = some (.inr 5)) && decide (0 < vwN 5) && !isRefTy (vwTy 5 0)) hY (by decide +kernel)) (by rw [put_ne (by omega), put_ne (by omega), put_ne (by omega)]) ?_
    refine e_iconst (c := 1) (show pAt 56 47 = some (47, .iconst 1, 1, []) from by decide +kernel) (by decide) ?_
    refine e_iadd (show pAt 56 48 = some (48, .iadd, 1, []) from by decide +kernel) ?_
    refine e_pI (a := q) (show pAt 56 49 = some (49, .putfield 24, 3, [5, 0, 0, 1108]) from by decide +kernel) (show HS (hpI (hpI (hpI h (q + 1) (h.2.1 q 0).toNatClampNeg w) (q + 2) (h.2.1 q 0).toNatClampNeg n) (q + 3) (h.2.1 q 0).toNatClampNeg (h.2.1 q 5)) from hs) (yq (P := fun q => decide (q < 1000) && decide (SHl[q]? = some (.inr 5)) && decide (0 < vwN 5) && !isRefTy (vwTy 5 0)) hY (by decide +kernel)) (Or.inl rfl) ?_
    exact e_retV (show pAt 56 52 = some (52, .return_, 1, []) from by decide +kernel) rfl vc

theorem w_tm {X : Scr} {dp : Nat} {h : Hp} {Q : Option Value → Hp → Prop} (a : Int32) (b : Int32) (c : Int32) (hs : HS h)
    (vc : Q (some (.int ((((a * 3) + b) * 100) + c))) h) :
    Ends X dp 60 0 [.int a, .int b, .int c] [] h Q := by
  refine e_iload_n (show pAt 60 0 = some (0, .iload_n 0, 1, []) from by decide +kernel) rfl ?_
  refine e_iconst (c := 3) (show pAt 60 1 = some (1, .iconst 3, 1, []) from by decide +kernel) (by decide) ?_
  refine e_imul (show pAt 60 2 = some (2, .imul, 1, []) from by decide +kernel) ?_
  refine e_iload_n (show pAt 60 3 = some (3, .iload_n 1, 1, []) from by decide +kernel) rfl ?_
  refine e_iadd (show pAt 60 4 = some (4, .iadd, 1, []) from by decide +kernel) ?_
  refine e_bipush (c := 100) (show pAt 60 5 = some (5, .bipush 100, 2, []) from by decide +kernel) (by decide) ?_
  refine e_imul (show pAt 60 7 = some (7, .imul, 1, []) from by decide +kernel) ?_
  refine e_iload_n (show pAt 60 8 = some (8, .iload_n 2, 1, []) from by decide +kernel) rfl ?_
  refine e_iadd (show pAt 60 9 = some (9, .iadd, 1, []) from by decide +kernel) ?_
  exact e_retI (show pAt 60 10 = some (10, .ireturn, 1, []) from by decide +kernel) rfl vc

theorem w_ro {X : Scr} {dp : Nat} {h : Hp} {Q : Option Value → Hp → Prop} {q : Nat} (hY : YQ q) (d : Int32) (hs : HS h)
    (vc : ((condB .ge d 4 = true → ((condB .ge d 4 = true → Ends X (dp + 1) 48 71 [.ref 44, .int d, .retAddr 0, .retAddr 0, .retAddr 0] [] h Q) ∧ (condB .ge d 4 = false → Ends X dp 50 0 [.ref 44, .int 40] [] h (fun rv h3 => ∃ r4, rv = some (.int r4) ∧ HS h3 ∧ ((condB .eq r4 0 = true → Ends X (dp + 1) 48 71 [.ref 44, .int d, .retAddr 0, .retAddr 0, .retAddr 0] [] h3 Q) ∧ (condB .eq r4 0 = false → Ends X dp 46 0 [.ref 44, .int (d + 1), .retAddr 0, .retAddr 0] [] h3 (fun rv h7 => ∃ r8, rv = some (.int r8) ∧ HS h7 ∧ ((condB .eq r8 0 = true → Q (some (.int 0)) h7) ∧ (condB .eq r8 0 = false → Ends X dp 50 0 [.ref 44, .int 41] [] h7 (fun rv h11 => ∃ r12, rv = some (.int r12) ∧ HS h11 ∧ ((condB .eq r12 0 = true → Q (some (.int 0)) h11) ∧ (condB .eq r12 0 = false → Q (some (.int 1)) h11)))))))))))) ∧ (condB .ge d 4 = false → Ends X dp 50 0 [.ref 44, .int 33] [] h (fun rv h15 => ∃ r16, rv = some (.int r16) ∧ HS h15 ∧ ((condB .eq r16 0 = true → ((condB .ge d 4 = true → Ends X (dp + 1) 48 71 [.ref 44, .int d, .retAddr 0, .retAddr 0, .retAddr 0] [] h15 Q) ∧ (condB .ge d 4 = false → Ends X dp 50 0 [.ref 44, .int 40] [] h15 (fun rv h20 => ∃ r21, rv = some (.int r21) ∧ HS h20 ∧ ((condB .eq r21 0 = true → Ends X (dp + 1) 48 71 [.ref 44, .int d, .retAddr 0, .retAddr 0, .retAddr 0] [] h20 Q) ∧ (condB .eq r21 0 = false → Ends X dp 46 0 [.ref 44, .int (d + 1), .retAddr 0, .retAddr 0] [] h20 (fun rv h24 => ∃ r25, rv = some (.int r25) ∧ HS h24 ∧ ((condB .eq r25 0 = true → Q (some (.int 0)) h24) ∧ (condB .eq r25 0 = false → Ends X dp 50 0 [.ref 44, .int 41] [] h24 (fun rv h28 => ∃ r29, rv = some (.int r29) ∧ HS h28 ∧ ((condB .eq r29 0 = true → Q (some (.int 0)) h28) ∧ (condB .eq r29 0 = false → Q (some (.int 1)) h28)))))))))))) ∧ (condB .eq r16 0 = false → Ends X dp 48 0 [.ref 44, .int (d + 1), .retAddr 0, .retAddr 0, .retAddr 0] [] h15 (fun rv h32 => ∃ r33, rv = some (.int r33) ∧ HS h32 ∧ (h32.2.2.2 44 3 = some q ∧ Ends X dp 55 0 [.ref q, .int (-1)] [] h32 (fun rv h36 => rv = none ∧ HS h36 ∧ (r33 = 0 ∨ r33 = 1) ∧ Q (some (.int r33)) h36))))))))) :
    Ends X (dp + 1) 48 0 [.ref 44, .int d, .retAddr 0, .retAddr 0, .retAddr 0] [] h Q := by
  have ra : ∀ {a : Nat}, a < 1000 → a ≤ OLDB := fun h => by have := OLDB_eq; omega
  have hqr := yq_rng hY
  have hOB := OLDB_eq
  refine e_iload_n (show pAt 48 0 = some (0, .iload_n 1, 1, []) from by decide +kernel) rfl ?_
  refine e_iconst (c := 4) (show pAt 48 1 = some (1, .iconst 4, 1, []) from by decide +kernel) (by decide) ?_
  refine e_icmp (t := 32) (show pAt 48 2 = some (2, .if_icmp .ge 30, 3, []) from by decide +kernel) rfl (fun c1 => ?_) (fun c1 => ?_)
  · replace vc := vc.1 c1
    refine e_iload_n (show pAt 48 32 = some (32, .iload_n 1, 1, []) from by decide +kernel) rfl ?_
    refine e_iconst (c := 4) (show pAt 48 33 = some (33, .iconst 4, 1, []) from by decide +kernel) (by decide) ?_
    refine e_icmp (t := 71) (show pAt 48 34 = some (34, .if_icmp .ge 37, 3, []) from by decide +kernel) rfl (fun c2 => ?_) (fun c2 => ?_)
    · replace vc := vc.1 c2
      exact vc
    · replace vc := vc.2 c2
      refine e_aload_n (show pAt 48 37 = some (37, .aload_n 0, 1, []) from by decide +kernel) rfl (ra (by decide)) ?_
      refine e_bipush (c := 40) (show pAt 48 38 = some (38, .bipush 40, 2, []) from by decide +kernel) (by decide) ?_
      refine Ends.call (show pAt 48 40 = some (40, .invokevirtual 36, 3, [50, 2, 0, 0, 3007, 3009, 32]) from by decide +kernel) (isRet_none rfl) rfl (call_this (show HS h from hs) rfl rfl (by decide)) (Ends.mono vc ?_)
      rintro _ h3 ⟨r4, rfl, hs_h3, vc⟩
      refine e_if (t := 71) (show pAt 48 43 = some (43, .ifCond .eq 28, 3, []) from by decide +kernel) rfl (fun c6 => ?_) (fun c6 => ?_)
      · replace vc := vc.1 c6
        exact vc
      · replace vc := vc.2 c6
        refine e_aload_n (show pAt 48 46 = some (46, .aload_n 0, 1, []) from by decide +kernel) rfl (ra (by decide)) ?_
        refine e_iload_n (show pAt 48 47 = some (47, .iload_n 1, 1, []) from by decide +kernel) rfl ?_
        refine e_iconst (c := 1) (show pAt 48 48 = some (48, .iconst 1, 1, []) from by decide +kernel) (by decide) ?_
        refine e_iadd (show pAt 48 49 = some (49, .iadd, 1, []) from by decide +kernel) ?_
        refine Ends.call (show pAt 48 50 = some (50, .invokevirtual 47, 3, [46, 2, 0, 0, 3074, 3076, 36]) from by decide +kernel) (isRet_none rfl) rfl (call_this (show HS h3 from hs_h3) rfl rfl (by decide)) (Ends.mono vc ?_)
        rintro _ h7 ⟨r8, rfl, hs_h7, vc⟩
        refine e_if (t := 69) (show pAt 48 53 = some (53, .ifCond .eq 16, 3, []) from by decide +kernel) rfl (fun c10 => ?_) (fun c10 => ?_)
        · replace vc := vc.1 c10
          refine e_iconst (c := 0) (show pAt 48 69 = some (69, .iconst 0, 1, []) from by decide +kernel) (by decide) ?_
          exact e_retZ (show pAt 48 70 = some (70, .ireturn, 1, []) from by decide +kernel) rfl (by decide) vc
        · replace vc := vc.2 c10
          refine e_aload_n (show pAt 48 56 = some (56, .aload_n 0, 1, []) from by decide +kernel) rfl (ra (by decide)) ?_
          refine e_bipush (c := 41) (show pAt 48 57 = some (57, .bipush 41, 2, []) from by decide +kernel) (by decide) ?_
          refine Ends.call (show pAt 48 59 = some (59, .invokevirtual 36, 3, [50, 2, 0, 0, 3007, 3009, 32]) from by decide +kernel) (isRet_none rfl) rfl (call_this (show HS h7 from hs_h7) rfl rfl (by decide)) (Ends.mono vc ?_)
          rintro _ h11 ⟨r12, rfl, hs_h11, vc⟩
          refine e_if (t := 69) (show pAt 48 62 = some (62, .ifCond .eq 7, 3, []) from by decide +kernel) rfl (fun c14 => ?_) (fun c14 => ?_)
          · replace vc := vc.1 c14
            refine e_iconst (c := 0) (show pAt 48 69 = some (69, .iconst 0, 1, []) from by decide +kernel) (by decide) ?_
            exact e_retZ (show pAt 48 70 = some (70, .ireturn, 1, []) from by decide +kernel) rfl (by decide) vc
          · replace vc := vc.2 c14
            refine e_iconst (c := 1) (show pAt 48 65 = some (65, .iconst 1, 1, []) from by decide +kernel) (by decide) ?_
            refine e_goto (t := 70) (show pAt 48 66 = some (66, .goto 4, 3, []) from by decide +kernel) rfl ?_
            exact e_retZ (show pAt 48 70 = some (70, .ireturn, 1, []) from by decide +kernel) rfl (by decide) vc
  · replace vc := vc.2 c1
    refine e_aload_n (show pAt 48 5 = some (5, .aload_n 0, 1, []) from by decide +kernel) rfl (ra (by decide)) ?_
    refine e_bipush (c := 33) (show pAt 48 6 = some (6, .bipush 33, 2, []) from by decide +kernel) (by decide) ?_
    refine Ends.call (show pAt 48 8 = some (8, .invokevirtual 36, 3, [50, 2, 0, 0, 3007, 3009, 32]) from by decide +kernel) (isRet_none rfl) rfl (call_this (show HS h from hs) rfl rfl (by decide)) (Ends.mono vc ?_)
    rintro _ h15 ⟨r16, rfl, hs_h15, vc⟩
    refine e_if (t := 32) (show pAt 48 11 = some (11, .ifCond .eq 21, 3, []) from by decide +kernel) rfl (fun c18 => ?_) (fun c18 => ?_)
    · replace vc := vc.1 c18
      refine e_iload_n (show pAt 48 32 = some (32, .iload_n 1, 1, []) from by decide +kernel) rfl ?_
      refine e_iconst (c := 4) (show pAt 48 33 = some (33, .iconst 4, 1, []) from by decide +kernel) (by decide) ?_
      refine e_icmp (t := 71) (show pAt 48 34 = some (34, .if_icmp .ge 37, 3, []) from by decide +kernel) rfl (fun c19 => ?_) (fun c19 => ?_)
      · replace vc := vc.1 c19
        exact vc
      · replace vc := vc.2 c19
        refine e_aload_n (show pAt 48 37 = some (37, .aload_n 0, 1, []) from by decide +kernel) rfl (ra (by decide)) ?_
        refine e_bipush (c := 40) (show pAt 48 38 = some (38, .bipush 40, 2, []) from by decide +kernel) (by decide) ?_
        refine Ends.call (show pAt 48 40 = some (40, .invokevirtual 36, 3, [50, 2, 0, 0, 3007, 3009, 32]) from by decide +kernel) (isRet_none rfl) rfl (call_this (show HS h15 from hs_h15) rfl rfl (by decide)) (Ends.mono vc ?_)
        rintro _ h20 ⟨r21, rfl, hs_h20, vc⟩
        refine e_if (t := 71) (show pAt 48 43 = some (43, .ifCond .eq 28, 3, []) from by decide +kernel) rfl (fun c23 => ?_) (fun c23 => ?_)
        · replace vc := vc.1 c23
          exact vc
        · replace vc := vc.2 c23
          refine e_aload_n (show pAt 48 46 = some (46, .aload_n 0, 1, []) from by decide +kernel) rfl (ra (by decide)) ?_
          refine e_iload_n (show pAt 48 47 = some (47, .iload_n 1, 1, []) from by decide +kernel) rfl ?_
          refine e_iconst (c := 1) (show pAt 48 48 = some (48, .iconst 1, 1, []) from by decide +kernel) (by decide) ?_
          refine e_iadd (show pAt 48 49 = some (49, .iadd, 1, []) from by decide +kernel) ?_
          refine Ends.call (show pAt 48 50 = some (50, .invokevirtual 47, 3, [46, 2, 0, 0, 3074, 3076, 36]) from by decide +kernel) (isRet_none rfl) rfl (call_this (show HS h20 from hs_h20) rfl rfl (by decide)) (Ends.mono vc ?_)
          rintro _ h24 ⟨r25, rfl, hs_h24, vc⟩
          refine e_if (t := 69) (show pAt 48 53 = some (53, .ifCond .eq 16, 3, []) from by decide +kernel) rfl (fun c27 => ?_) (fun c27 => ?_)
          · replace vc := vc.1 c27
            refine e_iconst (c := 0) (show pAt 48 69 = some (69, .iconst 0, 1, []) from by decide +kernel) (by decide) ?_
            exact e_retZ (show pAt 48 70 = some (70, .ireturn, 1, []) from by decide +kernel) rfl (by decide) vc
          · replace vc := vc.2 c27
            refine e_aload_n (show pAt 48 56 = some (56, .aload_n 0, 1, []) from by decide +kernel) rfl (ra (by decide)) ?_
            refine e_bipush (c := 41) (show pAt 48 57 = some (57, .bipush 41, 2, []) from by decide +kernel) (by decide) ?_
            refine Ends.call (show pAt 48 59 = some (59, .invokevirtual 36, 3, [50, 2, 0, 0, 3007, 3009, 32]) from by decide +kernel) (isRet_none rfl) rfl (call_this (show HS h24 from hs_h24) rfl rfl (by decide)) (Ends.mono vc ?_)
            rintro _ h28 ⟨r29, rfl, hs_h28, vc⟩
            refine e_if (t := 69) (show pAt 48 62 = some (62, .ifCond .eq 7, 3, []) from by decide +kernel) rfl (fun c31 => ?_) (fun c31 => ?_)
            · replace vc := vc.1 c31
              refine e_iconst (c := 0) (show pAt 48 69 = some (69, .iconst 0, 1, []) from by decide +kernel) (by decide) ?_
              exact e_retZ (show pAt 48 70 = some (70, .ireturn, 1, []) from by decide +kernel) rfl (by decide) vc
            · replace vc := vc.2 c31
              refine e_iconst (c := 1) (show pAt 48 65 = some (65, .iconst 1, 1, []) from by decide +kernel) (by decide) ?_
              refine e_goto (t := 70) (show pAt 48 66 = some (66, .goto 4, 3, []) from by decide +kernel) rfl ?_
              exact e_retZ (show pAt 48 70 = some (70, .ireturn, 1, []) from by decide +kernel) rfl (by decide) vc
    · replace vc := vc.2 c18
      refine e_aload_n (show pAt 48 14 = some (14, .aload_n 0, 1, []) from by decide +kernel) rfl (ra (by decide)) ?_
      refine e_iload_n (show pAt 48 15 = some (15, .iload_n 1, 1, []) from by decide +kernel) rfl ?_
      refine e_iconst (c := 1) (show pAt 48 16 = some (16, .iconst 1, 1, []) from by decide +kernel) (by decide) ?_
      refine e_iadd (show pAt 48 17 = some (17, .iadd, 1, []) from by decide +kernel) ?_
      refine Ends.call (show pAt 48 18 = some (18, .invokevirtual 75, 3, [48, 2, 0, 0, 3082, 3084, 38]) from by decide +kernel) (isRet_none rfl) rfl (call_this (show HS h15 from hs_h15) rfl rfl (by decide)) (Ends.mono vc ?_)
      rintro _ h32 ⟨r33, rfl, hs_h32, vc⟩
      refine e_istore_n (show pAt 48 21 = some (21, .istore_n 2, 1, []) from by decide +kernel) ⟨Nat.le_of_ble_eq_true rfl, rfl⟩ rfl ?_
      refine e_aload_n (show pAt 48 22 = some (22, .aload_n 0, 1, []) from by decide +kernel) rfl (ra (by decide)) ?_
      obtain ⟨c35, vc⟩ := vc
      refine e_gR (b := q) (show pAt 48 23 = some (23, .getfield 18, 3, [4, 3, 0, 1201]) from by decide +kernel) (show HS h32 from hs_h32) rfl (yq (P := fun q => decide (44 < 1000) && decide (q < 1000) && decide (SHl[44]? = some (.inr 4)) && decide (3 < vwN 4) && isRefTy (vwTy 4 3)) hY (by decide +kernel)) c35 ?_
      refine e_iconst (c := (-1)) (show pAt 48 26 = some (26, .iconst (-1), 1, []) from by decide +kernel) (by decide) ?_
      refine Ends.call (show pAt 48 27 = some (27, .invokevirtual 71, 3, [55, 2, 0, 1, 3086, 3088, 39]) from by decide +kernel) (isRet_none rfl) rfl (call_this (show HS h32 from hs_h32) rfl rfl (yq (P := fun q => decide (q < 1000) && decide (SHl[q]? = some (.inr (mCi 55))) && decide (mCi 55 < 8)) hY (by decide +kernel))) (Ends.mono vc ?_)
      rintro _ h36 ⟨rfl, hs_h36, vc⟩
      refine e_iload_n (show pAt 48 30 = some (30, .iload_n 2, 1, []) from by decide +kernel) rfl ?_
      exact e_retZ (show pAt 48 31 = some (31, .ireturn, 1, []) from by decide +kernel) rfl vc.1 vc.2

theorem w_ro71 {X : Scr} {dp : Nat} {h : Hp} {Q : Option Value → Hp → Prop} {q : Nat} (hY : YQ q) (d : Int32) (hs : HS h)
    (vc : Ends X dp 52 0 [.ref 44, .ref (OLDB + 6), .retAddr 0] [] h (fun rv h1 => ∃ r2, rv = some (.int r2) ∧ HS h1 ∧ ((condB .ge r2 0 = true → Ends X dp 52 0 [.ref 44, .ref (OLDB + 7), .retAddr 0] [] h1 (fun rv h5 => ∃ r6, rv = some (.int r6) ∧ HS h5 ∧ ((condB .ge r6 0 = true → Ends X dp 45 0 [.ref 44, .retAddr 0, .retAddr 0] [] h5 (fun rv h9 => ∃ r10, rv = some (.int r10) ∧ HS h9 ∧ ((condB .ge r10 0 = true → (h9.2.2.2 44 3 = some q ∧ Ends X dp 60 0 [.int r2, .int r6, .int r10] [] h9 (fun rv h14 => ∃ r15, rv = some (.int r15) ∧ HS h14 ∧ Ends X dp 55 0 [.ref q, .int r15] [] h14 (fun rv h17 => rv = none ∧ HS h17 ∧ Q (some (.int 1)) h17)))) ∧ (condB .ge r10 0 = false → Q (some (.int 0)) h9)))) ∧ (condB .ge r6 0 = false → Q (some (.int 0)) h5)))) ∧ (condB .ge r2 0 = false → Q (some (.int 0)) h1)))) :
    Ends X (dp + 1) 48 71 [.ref 44, .int d, .retAddr 0, .retAddr 0, .retAddr 0] [] h Q := by
  have ra : ∀ {a : Nat}, a < 1000 → a ≤ OLDB := fun h => by have := OLDB_eq; omega
  have hqr := yq_rng hY
  have hOB := OLDB_eq
  refine e_aload_n (show pAt 48 71 = some (71, .aload_n 0, 1, []) from by decide +kernel) rfl (ra (by decide)) ?_
  refine e_ldcS (show pAt 48 72 = some (72, .ldc 78, 2, [1, 3, 3090]) from by decide +kernel) (by decide) ?_
  refine Ends.call (show pAt 48 74 = some (74, .invokevirtual 80, 3, [52, 2, 0, 0, 3091, 3093, 40]) from by decide +kernel) (isRet_none rfl) rfl (call_this (show HS h from hs) rfl rfl (by decide)) (Ends.mono vc ?_)
  rintro _ h1 ⟨r2, rfl, hs_h1, vc⟩
  refine e_istore_n (show pAt 48 77 = some (77, .istore_n 2, 1, []) from by decide +kernel) ⟨Nat.le_of_ble_eq_true rfl, rfl⟩ rfl ?_
  refine e_iload_n (show pAt 48 78 = some (78, .iload_n 2, 1, []) from by decide +kernel) rfl ?_
  refine e_if (t := 86) (show pAt 48 79 = some (79, .ifCond .ge 7, 3, []) from by decide +kernel) rfl (fun c4 => ?_) (fun c4 => ?_)
  · replace vc := vc.1 c4
    refine e_aload_n (show pAt 48 86 = some (86, .aload_n 0, 1, []) from by decide +kernel) rfl (ra (by decide)) ?_
    refine e_ldcS (show pAt 48 87 = some (87, .ldc 84, 2, [1, 4, 3150]) from by decide +kernel) (by decide) ?_
    refine Ends.call (show pAt 48 89 = some (89, .invokevirtual 80, 3, [52, 2, 0, 0, 3091, 3093, 40]) from by decide +kernel) (isRet_none rfl) rfl (call_this (show HS h1 from hs_h1) rfl rfl (by decide)) (Ends.mono vc ?_)
    rintro _ h5 ⟨r6, rfl, hs_h5, vc⟩
    refine e_istore_n (show pAt 48 92 = some (92, .istore_n 3, 1, []) from by decide +kernel) ⟨Nat.le_of_ble_eq_true rfl, rfl⟩ rfl ?_
    refine e_iload_n (show pAt 48 93 = some (93, .iload_n 3, 1, []) from by decide +kernel) rfl ?_
    refine e_if (t := 101) (show pAt 48 94 = some (94, .ifCond .ge 7, 3, []) from by decide +kernel) rfl (fun c8 => ?_) (fun c8 => ?_)
    · replace vc := vc.1 c8
      refine e_aload_n (show pAt 48 101 = some (101, .aload_n 0, 1, []) from by decide +kernel) rfl (ra (by decide)) ?_
      refine Ends.call (show pAt 48 102 = some (102, .invokevirtual 44, 3, [45, 1, 0, 0, 3070, 3072, 35]) from by decide +kernel) (isRet_none rfl) rfl (call_this (show HS h5 from hs_h5) rfl rfl (by decide)) (Ends.mono vc ?_)
      rintro _ h9 ⟨r10, rfl, hs_h9, vc⟩
      refine e_istore (show pAt 48 105 = some (105, .istore 4, 2, []) from by decide +kernel) ⟨Nat.le_of_ble_eq_true rfl, rfl⟩ rfl ?_
      refine e_iload (show pAt 48 107 = some (107, .iload 4, 2, []) from by decide +kernel) rfl ?_
      refine e_if (t := 114) (show pAt 48 109 = some (109, .ifCond .ge 5, 3, []) from by decide +kernel) rfl (fun c12 => ?_) (fun c12 => ?_)
      · replace vc := vc.1 c12
        refine e_aload_n (show pAt 48 114 = some (114, .aload_n 0, 1, []) from by decide +kernel) rfl (ra (by decide)) ?_
        obtain ⟨c13, vc⟩ := vc
        refine e_gR (b := q) (show pAt 48 115 = some (115, .getfield 18, 3, [4, 3, 0, 1201]) from by decide +kernel) (show HS h9 from hs_h9) rfl (yq (P := fun q => decide (44 < 1000) && decide (q < 1000) && decide (SHl[44]? = some (.inr 4)) && decide (3 < vwN 4) && isRefTy (vwTy 4 3)) hY (by decide +kernel)) c13 ?_
        refine e_iload_n (show pAt 48 118 = some (118, .iload_n 2, 1, []) from by decide +kernel) rfl ?_
        refine e_iload_n (show pAt 48 119 = some (119, .iload_n 3, 1, []) from by decide +kernel) rfl ?_
        refine e_iload (show pAt 48 120 = some (120, .iload 4, 2, []) from by decide +kernel) rfl ?_
        refine Ends.call (show pAt 48 122 = some (122, .invokestatic 86, 3, [60, 3, 2, 1, 3151, 3152, 0]) from by decide +kernel) (isRet_none rfl) rfl rfl (Ends.mono vc ?_)
        rintro _ h14 ⟨r15, rfl, hs_h14, vc⟩
        refine Ends.call (show pAt 48 125 = some (125, .invokevirtual 71, 3, [55, 2, 0, 1, 3086, 3088, 39]) from by decide +kernel) (isRet_none rfl) rfl (call_this (show HS h14 from hs_h14) rfl rfl (yq (P := fun q => decide (q < 1000) && decide (SHl[q]? = some (.inr (mCi 55))) && decide (mCi 55 < 8)) hY (by decide +kernel))) (Ends.mono vc ?_)
        rintro _ h17 ⟨rfl, hs_h17, vc⟩
        refine e_iconst (c := 1) (show pAt 48 128 = some (128, .iconst 1, 1, []) from by decide +kernel) (by decide) ?_
        exact e_retZ (show pAt 48 129 = some (129, .ireturn, 1, []) from by decide +kernel) rfl (by decide) vc
      · replace vc := vc.2 c12
        refine e_iconst (c := 0) (show pAt 48 112 = some (112, .iconst 0, 1, []) from by decide +kernel) (by decide) ?_
        exact e_retZ (show pAt 48 113 = some (113, .ireturn, 1, []) from by decide +kernel) rfl (by decide) vc
    · replace vc := vc.2 c8
      refine e_iconst (c := (-1)) (show pAt 48 97 = some (97, .iconst (-1), 1, []) from by decide +kernel) (by decide) ?_
      refine e_goto (t := 105) (show pAt 48 98 = some (98, .goto 7, 3, []) from by decide +kernel) rfl ?_
      refine e_istore (show pAt 48 105 = some (105, .istore 4, 2, []) from by decide +kernel) ⟨Nat.le_of_ble_eq_true rfl, rfl⟩ rfl ?_
      refine e_iload (show pAt 48 107 = some (107, .iload 4, 2, []) from by decide +kernel) rfl ?_
      refine e_if (t := 114) (show pAt 48 109 = some (109, .ifCond .ge 5, 3, []) from by decide +kernel) rfl (fun c20 => absurd c20 (by decide)) (fun c20 => ?_)
      refine e_iconst (c := 0) (show pAt 48 112 = some (112, .iconst 0, 1, []) from by decide +kernel) (by decide) ?_
      exact e_retZ (show pAt 48 113 = some (113, .ireturn, 1, []) from by decide +kernel) rfl (by decide) vc
  · replace vc := vc.2 c4
    refine e_iconst (c := (-1)) (show pAt 48 82 = some (82, .iconst (-1), 1, []) from by decide +kernel) (by decide) ?_
    refine e_goto (t := 92) (show pAt 48 83 = some (83, .goto 9, 3, []) from by decide +kernel) rfl ?_
    refine e_istore_n (show pAt 48 92 = some (92, .istore_n 3, 1, []) from by decide +kernel) ⟨Nat.le_of_ble_eq_true rfl, rfl⟩ rfl ?_
    refine e_iload_n (show pAt 48 93 = some (93, .iload_n 3, 1, []) from by decide +kernel) rfl ?_
    refine e_if (t := 101) (show pAt 48 94 = some (94, .ifCond .ge 7, 3, []) from by decide +kernel) rfl (fun c21 => absurd c21 (by decide)) (fun c21 => ?_)
    refine e_iconst (c := (-1)) (show pAt 48 97 = some (97, .iconst (-1), 1, []) from by decide +kernel) (by decide) ?_
    refine e_goto (t := 105) (show pAt 48 98 = some (98, .goto 7, 3, []) from by decide +kernel) rfl ?_
    refine e_istore (show pAt 48 105 = some (105, .istore 4, 2, []) from by decide +kernel) ⟨Nat.le_of_ble_eq_true rfl, rfl⟩ rfl ?_
    refine e_iload (show pAt 48 107 = some (107, .iload 4, 2, []) from by decide +kernel) rfl ?_
    refine e_if (t := 114) (show pAt 48 109 = some (109, .ifCond .ge 5, 3, []) from by decide +kernel) rfl (fun c22 => absurd c22 (by decide)) (fun c22 => ?_)
    refine e_iconst (c := 0) (show pAt 48 112 = some (112, .iconst 0, 1, []) from by decide +kernel) (by decide) ?_
    exact e_retZ (show pAt 48 113 = some (113, .ireturn, 1, []) from by decide +kernel) rfl (by decide) vc

theorem w_rb0 {X : Scr} {dp : Nat} {h : Hp} {Q : Option Value → Hp → Prop} {q : Nat} (hY : YQ q) (d : Int32) (hs : HS h)
    (vc : Ends X dp 48 0 [.ref 44, .int d, .retAddr 0, .retAddr 0, .retAddr 0] [] h (fun rv h1 => ∃ r2, rv = some (.int r2) ∧ HS h1 ∧ Ends X (dp + 1) 47 8 [.ref 44, .int d, .int r2, .int 0] [] h1 Q)) :
    Ends X (dp + 1) 47 0 [.ref 44, .int d, .retAddr 0, .retAddr 0] [] h Q := by
  have ra : ∀ {a : Nat}, a < 1000 → a ≤ OLDB := fun h => by have := OLDB_eq; omega
  have hqr := yq_rng hY
  have hOB := OLDB_eq
  refine e_aload_n (show pAt 47 0 = some (0, .aload_n 0, 1, []) from by decide +kernel) rfl (ra (by decide)) ?_
  refine e_iload_n (show pAt 47 1 = some (1, .iload_n 1, 1, []) from by decide +kernel) rfl ?_
  refine Ends.call (show pAt 47 2 = some (2, .invokevirtual 75, 3, [48, 2, 0, 0, 3082, 3084, 38]) from by decide +kernel) (isRet_none rfl) rfl (call_this (show HS h from hs) rfl rfl (by decide)) (Ends.mono vc ?_)
  rintro _ h1 ⟨r2, rfl, hs_h1, vc⟩
  refine e_istore_n (show pAt 47 5 = some (5, .istore_n 2, 1, []) from by decide +kernel) ⟨Nat.le_of_ble_eq_true rfl, rfl⟩ rfl ?_
  refine e_iconst (c := 0) (show pAt 47 6 = some (6, .iconst 0, 1, []) from by decide +kernel) (by decide) ?_
  refine e_istore_n (show pAt 47 7 = some (7, .istore_n 3, 1, []) from by decide +kernel) ⟨Nat.le_of_ble_eq_true rfl, rfl⟩ rfl ?_
  exact vc

theorem w_rb1 {X : Scr} {dp : Nat} {h : Hp} {Q : Option Value → Hp → Prop} {q : Nat} (hY : YQ q) (d : Int32) (r : Int32) (i : Int32) (hs : HS h)
    (vc : ((condB .ge i 100 = true → (r = 0 ∨ r = 1) ∧ Q (some (.int r)) h) ∧ (condB .ge i 100 = false → ((condB .eq r 0 = true → (r = 0 ∨ r = 1) ∧ Q (some (.int r)) h) ∧ (condB .eq r 0 = false → Ends X dp 50 0 [.ref 44, .int 38] [] h (fun rv h3 => ∃ r4, rv = some (.int r4) ∧ HS h3 ∧ ((condB .eq r4 0 = true → (r = 0 ∨ r = 1) ∧ Q (some (.int r)) h3) ∧ (condB .eq r4 0 = false → Ends X dp 48 0 [.ref 44, .int d, .retAddr 0, .retAddr 0, .retAddr 0] [] h3 (fun rv h7 => ∃ r8, rv = some (.int r8) ∧ HS h7 ∧ (h7.2.2.2 44 3 = some q ∧ Ends X dp 55 0 [.ref q, .int (-2)] [] h7 (fun rv h11 => rv = none ∧ HS h11 ∧ Ends X (dp + 1) 47 8 [.ref 44, .int d, .int r8, .int (i + 1)] [] h11 Q))))))))))) :
    Ends X (dp + 1) 47 8 [.ref 44, .int d, .int r, .int i] [] h Q := by
  have ra : ∀ {a : Nat}, a < 1000 → a ≤ OLDB := fun h => by have := OLDB_eq; omega
  have hqr := yq_rng hY
  have hOB := OLDB_eq
  refine e_iload_n (show pAt 47 8 = some (8, .iload_n 3, 1, []) from by decide +kernel) rfl ?_
  refine e_bipush (c := 100) (show pAt 47 9 = some (9, .bipush 100, 2, []) from by decide +kernel) (by decide) ?_
  refine e_icmp (t := 48) (show pAt 47 11 = some (11, .if_icmp .ge 37, 3, []) from by decide +kernel) rfl (fun c1 => ?_) (fun c1 => ?_)
  · replace vc := vc.1 c1
    refine e_iload_n (show pAt 47 48 = some (48, .iload_n 2, 1, []) from by decide +kernel) rfl ?_
    exact e_retZ (show pAt 47 49 = some (49, .ireturn, 1, []) from by decide +kernel) rfl vc.1 vc.2
  · replace vc := vc.2 c1
    refine e_iload_n (show pAt 47 14 = some (14, .iload_n 2, 1, []) from by decide +kernel) rfl ?_
    refine e_if (t := 48) (show pAt 47 15 = some (15, .ifCond .eq 33, 3, []) from by decide +kernel) rfl (fun c2 => ?_) (fun c2 => ?_)
    · replace vc := vc.1 c2
      refine e_iload_n (show pAt 47 48 = some (48, .iload_n 2, 1, []) from by decide +kernel) rfl ?_
      exact e_retZ (show pAt 47 49 = some (49, .ireturn, 1, []) from by decide +kernel) rfl vc.1 vc.2
    · replace vc := vc.2 c2
      refine e_aload_n (show pAt 47 18 = some (18, .aload_n 0, 1, []) from by decide +kernel) rfl (ra (by decide)) ?_
      refine e_bipush (c := 38) (show pAt 47 19 = some (19, .bipush 38, 2, []) from by decide +kernel) (by decide) ?_
      refine Ends.call (show pAt 47 21 = some (21, .invokevirtual 36, 3, [50, 2, 0, 0, 3007, 3009, 32]) from by decide +kernel) (isRet_none rfl) rfl (call_this (show HS h from hs) rfl rfl (by decide)) (Ends.mono vc ?_)
      rintro _ h3 ⟨r4, rfl, hs_h3, vc⟩
      refine e_if (t := 48) (show pAt 47 24 = some (24, .ifCond .eq 24, 3, []) from by decide +kernel) rfl (fun c6 => ?_) (fun c6 => ?_)
      · replace vc := vc.1 c6
        refine e_iload_n (show pAt 47 48 = some (48, .iload_n 2, 1, []) from by decide +kernel) rfl ?_
        exact e_retZ (show pAt 47 49 = some (49, .ireturn, 1, []) from by decide +kernel) rfl vc.1 vc.2
      · replace vc := vc.2 c6
        refine e_aload_n (show pAt 47 27 = some (27, .aload_n 0, 1, []) from by decide +kernel) rfl (ra (by decide)) ?_
        refine e_iload_n (show pAt 47 28 = some (28, .iload_n 1, 1, []) from by decide +kernel) rfl ?_
        refine Ends.call (show pAt 47 29 = some (29, .invokevirtual 75, 3, [48, 2, 0, 0, 3082, 3084, 38]) from by decide +kernel) (isRet_none rfl) rfl (call_this (show HS h3 from hs_h3) rfl rfl (by decide)) (Ends.mono vc ?_)
        rintro _ h7 ⟨r8, rfl, hs_h7, vc⟩
        refine e_istore_n (show pAt 47 32 = some (32, .istore_n 2, 1, []) from by decide +kernel) ⟨Nat.le_of_ble_eq_true rfl, rfl⟩ rfl ?_
        refine e_aload_n (show pAt 47 33 = some (33, .aload_n 0, 1, []) from by decide +kernel) rfl (ra (by decide)) ?_
        obtain ⟨c10, vc⟩ := vc
        refine e_gR (b := q) (show pAt 47 34 = some (34, .getfield 18, 3, [4, 3, 0, 1201]) from by decide +kernel) (show HS h7 from hs_h7) rfl (yq (P := fun q => decide (44 < 1000) && decide (q < 1000) && decide (SHl[44]? = some (.inr 4)) && decide (3 < vwN 4) && isRefTy (vwTy 4 3)) hY (by decide +kernel)) c10 ?_
        refine e_bipush (c := (-2)) (show pAt 47 37 = some (37, .bipush (-2), 2, []) from by decide +kernel) (by decide) ?_
        refine Ends.call (show pAt 47 39 = some (39, .invokevirtual 71, 3, [55, 2, 0, 1, 3086, 3088, 39]) from by decide +kernel) (isRet_none rfl) rfl (call_this (show HS h7 from hs_h7) rfl rfl (yq (P := fun q => decide (q < 1000) && decide (SHl[q]? = some (.inr (mCi 55))) && decide (mCi 55 < 8)) hY (by decide +kernel))) (Ends.mono vc ?_)
        rintro _ h11 ⟨rfl, hs_h11, vc⟩
        refine e_iinc (c := 1) (show pAt 47 42 = some (42, .iinc 3 1, 3, []) from by decide +kernel) rfl rfl (by decide) rfl ?_
        refine e_goto (t := 8) (show pAt 47 45 = some (45, .goto (-37), 3, []) from by decide +kernel) rfl ?_
        exact vc

theorem w_re0 {X : Scr} {dp : Nat} {h : Hp} {Q : Option Value → Hp → Prop} {q : Nat} (hY : YQ q) (d : Int32) (hs : HS h)
    (vc : Ends X dp 47 0 [.ref 44, .int d, .retAddr 0, .retAddr 0] [] h (fun rv h1 => ∃ r2, rv = some (.int r2) ∧ HS h1 ∧ Ends X (dp + 1) 46 8 [.ref 44, .int d, .int r2, .int 0] [] h1 Q)) :
    Ends X (dp + 1) 46 0 [.ref 44, .int d, .retAddr 0, .retAddr 0] [] h Q := by
  have ra : ∀ {a : Nat}, a < 1000 → a ≤ OLDB := fun h => by have := OLDB_eq; omega
  have hqr := yq_rng hY
  have hOB := OLDB_eq
  refine e_aload_n (show pAt 46 0 = some (0, .aload_n 0, 1, []) from by decide +kernel) rfl (ra (by decide)) ?_
  refine e_iload_n (show pAt 46 1 = some (1, .iload_n 1, 1, []) from by decide +kernel) rfl ?_
  refine Ends.call (show pAt 46 2 = some (2, .invokevirtual 68, 3, [47, 2, 0, 0, 3078, 3080, 37]) from by decide +kernel) (isRet_none rfl) rfl (call_this (show HS h from hs) rfl rfl (by decide)) (Ends.mono vc ?_)
  rintro _ h1 ⟨r2, rfl, hs_h1, vc⟩
  refine e_istore_n (show pAt 46 5 = some (5, .istore_n 2, 1, []) from by decide +kernel) ⟨Nat.le_of_ble_eq_true rfl, rfl⟩ rfl ?_
  refine e_iconst (c := 0) (show pAt 46 6 = some (6, .iconst 0, 1, []) from by decide +kernel) (by decide) ?_
  refine e_istore_n (show pAt 46 7 = some (7, .istore_n 3, 1, []) from by decide +kernel) ⟨Nat.le_of_ble_eq_true rfl, rfl⟩ rfl ?_
  exact vc

theorem w_re1 {X : Scr} {dp : Nat} {h : Hp} {Q : Option Value → Hp → Prop} {q : Nat} (hY : YQ q) (d : Int32) (r : Int32) (i : Int32) (hs : HS h)
    (vc : ((condB .ge i 100 = true → (r = 0 ∨ r = 1) ∧ Q (some (.int r)) h) ∧ (condB .ge i 100 = false → ((condB .eq r 0 = true → (r = 0 ∨ r = 1) ∧ Q (some (.int r)) h) ∧ (condB .eq r 0 = false → Ends X dp 50 0 [.ref 44, .int 124] [] h (fun rv h3 => ∃ r4, rv = some (.int r4) ∧ HS h3 ∧ ((condB .eq r4 0 = true → (r = 0 ∨ r = 1) ∧ Q (some (.int r)) h3) ∧ (condB .eq r4 0 = false → Ends X dp 47 0 [.ref 44, .int d, .retAddr 0, .retAddr 0] [] h3 (fun rv h7 => ∃ r8, rv = some (.int r8) ∧ HS h7 ∧ (h7.2.2.2 44 3 = some q ∧ Ends X dp 55 0 [.ref q, .int (-3)] [] h7 (fun rv h11 => rv = none ∧ HS h11 ∧ Ends X (dp + 1) 46 8 [.ref 44, .int d, .int r8, .int (i + 1)] [] h11 Q))))))))))) :
    Ends X (dp + 1) 46 8 [.ref 44, .int d, .int r, .int i] [] h Q := by
  have ra : ∀ {a : Nat}, a < 1000 → a ≤ OLDB := fun h => by have := OLDB_eq; omega
  have hqr := yq_rng hY
  have hOB := OLDB_eq
  refine e_iload_n (show pAt 46 8 = some (8, .iload_n 3, 1, []) from by decide +kernel) rfl ?_
  refine e_bipush (c := 100) (show pAt 46 9 = some (9, .bipush 100, 2, []) from by decide +kernel) (by decide) ?_
  refine e_icmp (t := 48) (show pAt 46 11 = some (11, .if_icmp .ge 37, 3, []) from by decide +kernel) rfl (fun c1 => ?_) (fun c1 => ?_)
  · replace vc := vc.1 c1
    refine e_iload_n (show pAt 46 48 = some (48, .iload_n 2, 1, []) from by decide +kernel) rfl ?_
    exact e_retZ (show pAt 46 49 = some (49, .ireturn, 1, []) from by decide +kernel) rfl vc.1 vc.2
  · replace vc := vc.2 c1
    refine e_iload_n (show pAt 46 14 = some (14, .iload_n 2, 1, []) from by decide +kernel) rfl ?_
    refine e_if (t := 48) (show pAt 46 15 = some (15, .ifCond .eq 33, 3, []) from by decide +kernel) rfl (fun c2 => ?_) (fun c2 => ?_)
    · replace vc := vc.1 c2
      refine e_iload_n (show pAt 46 48 = some (48, .iload_n 2, 1, []) from by decide +kernel) rfl ?_
      exact e_retZ (show pAt 46 49 = some (49, .ireturn, 1, []) from by decide +kernel) rfl vc.1 vc.2
    · replace vc := vc.2 c2
      refine e_aload_n (show pAt 46 18 = some (18, .aload_n 0, 1, []) from by decide +kernel) rfl (ra (by decide)) ?_
      refine e_bipush (c := 124) (show pAt 46 19 = some (19, .bipush 124, 2, []) from by decide +kernel) (by decide) ?_
      refine Ends.call (show pAt 46 21 = some (21, .invokevirtual 36, 3, [50, 2, 0, 0, 3007, 3009, 32]) from by decide +kernel) (isRet_none rfl) rfl (call_this (show HS h from hs) rfl rfl (by decide)) (Ends.mono vc ?_)
      rintro _ h3 ⟨r4, rfl, hs_h3, vc⟩
      refine e_if (t := 48) (show pAt 46 24 = some (24, .ifCond .eq 24, 3, []) from by decide +kernel) rfl (fun c6 => ?_) (fun c6 => ?_)
      · replace vc := vc.1 c6
        refine e_iload_n (show pAt 46 48 = some (48, .iload_n 2, 1, []) from by decide +kernel) rfl ?_
        exact e_retZ (show pAt 46 49 = some (49, .ireturn, 1, []) from by decide +kernel) rfl vc.1 vc.2
      · replace vc := vc.2 c6
        refine e_aload_n (show pAt 46 27 = some (27, .aload_n 0, 1, []) from by decide +kernel) rfl (ra (by decide)) ?_
        refine e_iload_n (show pAt 46 28 = some (28, .iload_n 1, 1, []) from by decide +kernel) rfl ?_
        refine Ends.call (show pAt 46 29 = some (29, .invokevirtual 68, 3, [47, 2, 0, 0, 3078, 3080, 37]) from by decide +kernel) (isRet_none rfl) rfl (call_this (show HS h3 from hs_h3) rfl rfl (by decide)) (Ends.mono vc ?_)
        rintro _ h7 ⟨r8, rfl, hs_h7, vc⟩
        refine e_istore_n (show pAt 46 32 = some (32, .istore_n 2, 1, []) from by decide +kernel) ⟨Nat.le_of_ble_eq_true rfl, rfl⟩ rfl ?_
        refine e_aload_n (show pAt 46 33 = some (33, .aload_n 0, 1, []) from by decide +kernel) rfl (ra (by decide)) ?_
        obtain ⟨c10, vc⟩ := vc
        refine e_gR (b := q) (show pAt 46 34 = some (34, .getfield 18, 3, [4, 3, 0, 1201]) from by decide +kernel) (show HS h7 from hs_h7) rfl (yq (P := fun q => decide (44 < 1000) && decide (q < 1000) && decide (SHl[44]? = some (.inr 4)) && decide (3 < vwN 4) && isRefTy (vwTy 4 3)) hY (by decide +kernel)) c10 ?_
        refine e_bipush (c := (-3)) (show pAt 46 37 = some (37, .bipush (-3), 2, []) from by decide +kernel) (by decide) ?_
        refine Ends.call (show pAt 46 39 = some (39, .invokevirtual 71, 3, [55, 2, 0, 1, 3086, 3088, 39]) from by decide +kernel) (isRet_none rfl) rfl (call_this (show HS h7 from hs_h7) rfl rfl (yq (P := fun q => decide (q < 1000) && decide (SHl[q]? = some (.inr (mCi 55))) && decide (mCi 55 < 8)) hY (by decide +kernel))) (Ends.mono vc ?_)
        rintro _ h11 ⟨rfl, hs_h11, vc⟩
        refine e_iinc (c := 1) (show pAt 46 42 = some (42, .iinc 3 1, 3, []) from by decide +kernel) rfl rfl (by decide) rfl ?_
        refine e_goto (t := 8) (show pAt 46 45 = some (45, .goto (-37), 3, []) from by decide +kernel) rfl ?_
        exact vc

theorem w_rc {X : Scr} {dp : Nat} {h : Hp} {Q : Option Value → Hp → Prop} {q : Nat} (hY : YQ q) (hs : HS h)
    (vc : Ends X dp 44 0 [.ref 44] [] h (fun rv h1 => ∃ r2, rv = some (.int r2) ∧ HS h1 ∧ ((condB .lt r2 0 = true → Q (some (.int 0)) h1) ∧ (condB .lt r2 0 = false → Ends X dp 50 0 [.ref 44, .int 32] [] h1 (fun rv h5 => ∃ r6, rv = some (.int r6) ∧ HS h5 ∧ ((condB .ne r6 0 = true → Ends X dp 45 0 [.ref 44, .retAddr 0, .retAddr 0] [] h5 (fun rv h9 => ∃ r10, rv = some (.int r10) ∧ HS h9 ∧ ((condB .lt r10 0 = true → Q (some (.int 0)) h9) ∧ (condB .lt r10 0 = false → Ends X dp 50 0 [.ref 44, .int 32] [] h9 (fun rv h13 => ∃ r14, rv = some (.int r14) ∧ HS h13 ∧ ((condB .eq r14 0 = true → Q (some (.int 0)) h13) ∧ (condB .eq r14 0 = false → Ends X dp 46 0 [.ref 44, .int 0, .retAddr 0, .retAddr 0] [] h13 (fun rv h17 => ∃ r18, rv = some (.int r18) ∧ HS h17 ∧ ((condB .ne r18 0 = true → (h17.2.2.2 44 3 = some q ∧ Ends X dp 56 0 [.ref q, .int r2, .int r10] [] h17 (fun rv h22 => rv = none ∧ HS h22 ∧ Q (some (.int 1)) h22))) ∧ (condB .ne r18 0 = false → Q (some (.int 0)) h17)))))))))) ∧ (condB .ne r6 0 = false → Q (some (.int 0)) h5))))))) :
    Ends X (dp + 1) 43 0 [.ref 44, .retAddr 0, .retAddr 0] [] h Q := by
  have ra : ∀ {a : Nat}, a < 1000 → a ≤ OLDB := fun h => by have := OLDB_eq; omega
  have hqr := yq_rng hY
  have hOB := OLDB_eq
  refine e_aload_n (show pAt 43 0 = some (0, .aload_n 0, 1, []) from by decide +kernel) rfl (ra (by decide)) ?_
  refine Ends.call (show pAt 43 1 = some (1, .invokevirtual 40, 3, [44, 1, 0, 0, 3003, 3005, 31]) from by decide +kernel) (isRet_none rfl) rfl (call_this (show HS h from hs) rfl rfl (by decide)) (Ends.mono vc ?_)
  rintro _ h1 ⟨r2, rfl, hs_h1, vc⟩
  refine e_istore_n (show pAt 43 4 = some (4, .istore_n 1, 1, []) from by decide +kernel) ⟨Nat.le_of_ble_eq_true rfl, rfl⟩ rfl ?_
  refine e_iload_n (show pAt 43 5 = some (5, .iload_n 1, 1, []) from by decide +kernel) rfl ?_
  refine e_if (t := 18) (show pAt 43 6 = some (6, .ifCond .lt 12, 3, []) from by decide +kernel) rfl (fun c4 => ?_) (fun c4 => ?_)
  · replace vc := vc.1 c4
    refine e_iconst (c := 0) (show pAt 43 18 = some (18, .iconst 0, 1, []) from by decide +kernel) (by decide) ?_
    exact e_retZ (show pAt 43 19 = some (19, .ireturn, 1, []) from by decide +kernel) rfl (by decide) vc
  · replace vc := vc.2 c4
    refine e_aload_n (show pAt 43 9 = some (9, .aload_n 0, 1, []) from by decide +kernel) rfl (ra (by decide)) ?_
    refine e_bipush (c := 32) (show pAt 43 10 = some (10, .bipush 32, 2, []) from by decide +kernel) (by decide) ?_
    refine Ends.call (show pAt 43 12 = some (12, .invokevirtual 36, 3, [50, 2, 0, 0, 3007, 3009, 32]) from by decide +kernel) (isRet_none rfl) rfl (call_this (show HS h1 from hs_h1) rfl rfl (by decide)) (Ends.mono vc ?_)
    rintro _ h5 ⟨r6, rfl, hs_h5, vc⟩
    refine e_if (t := 20) (show pAt 43 15 = some (15, .ifCond .ne 5, 3, []) from by decide +kernel) rfl (fun c8 => ?_) (fun c8 => ?_)
    · replace vc := vc.1 c8
      refine e_aload_n (show pAt 43 20 = some (20, .aload_n 0, 1, []) from by decide +kernel) rfl (ra (by decide)) ?_
      refine Ends.call (show pAt 43 21 = some (21, .invokevirtual 44, 3, [45, 1, 0, 0, 3070, 3072, 35]) from by decide +kernel) (isRet_none rfl) rfl (call_this (show HS h5 from hs_h5) rfl rfl (by decide)) (Ends.mono vc ?_)
      rintro _ h9 ⟨r10, rfl, hs_h9, vc⟩
      refine e_istore_n (show pAt 43 24 = some (24, .istore_n 2, 1, []) from by decide +kernel) ⟨Nat.le_of_ble_eq_true rfl, rfl⟩ rfl ?_
      refine e_iload_n (show pAt 43 25 = some (25, .iload_n 2, 1, []) from by decide +kernel) rfl ?_
      refine e_if (t := 46) (show pAt 43 26 = some (26, .ifCond .lt 20, 3, []) from by decide +kernel) rfl (fun c12 => ?_) (fun c12 => ?_)
      · replace vc := vc.1 c12
        refine e_iconst (c := 0) (show pAt 43 46 = some (46, .iconst 0, 1, []) from by decide +kernel) (by decide) ?_
        exact e_retZ (show pAt 43 47 = some (47, .ireturn, 1, []) from by decide +kernel) rfl (by decide) vc
      · replace vc := vc.2 c12
        refine e_aload_n (show pAt 43 29 = some (29, .aload_n 0, 1, []) from by decide +kernel) rfl (ra (by decide)) ?_
        refine e_bipush (c := 32) (show pAt 43 30 = some (30, .bipush 32, 2, []) from by decide +kernel) (by decide) ?_
        refine Ends.call (show pAt 43 32 = some (32, .invokevirtual 36, 3, [50, 2, 0, 0, 3007, 3009, 32]) from by decide +kernel) (isRet_none rfl) rfl (call_this (show HS h9 from hs_h9) rfl rfl (by decide)) (Ends.mono vc ?_)
        rintro _ h13 ⟨r14, rfl, hs_h13, vc⟩
        refine e_if (t := 46) (show pAt 43 35 = some (35, .ifCond .eq 11, 3, []) from by decide +kernel) rfl (fun c16 => ?_) (fun c16 => ?_)
        · replace vc := vc.1 c16
          refine e_iconst (c := 0) (show pAt 43 46 = some (46, .iconst 0, 1, []) from by decide +kernel) (by decide) ?_
          exact e_retZ (show pAt 43 47 = some (47, .ireturn, 1, []) from by decide +kernel) rfl (by decide) vc
        · replace vc := vc.2 c16
          refine e_aload_n (show pAt 43 38 = some (38, .aload_n 0, 1, []) from by decide +kernel) rfl (ra (by decide)) ?_
          refine e_iconst (c := 0) (show pAt 43 39 = some (39, .iconst 0, 1, []) from by decide +kernel) (by decide) ?_
          refine Ends.call (show pAt 43 40 = some (40, .invokevirtual 47, 3, [46, 2, 0, 0, 3074, 3076, 36]) from by decide +kernel) (isRet_none rfl) rfl (call_this (show HS h13 from hs_h13) rfl rfl (by decide)) (Ends.mono vc ?_)
          rintro _ h17 ⟨r18, rfl, hs_h17, vc⟩
          refine e_if (t := 48) (show pAt 43 43 = some (43, .ifCond .ne 5, 3, []) from by decide +kernel) rfl (fun c20 => ?_) (fun c20 => ?_)
          · replace vc := vc.1 c20
            refine e_aload_n (show pAt 43 48 = some (48, .aload_n 0, 1, []) from by decide +kernel) rfl (ra (by decide)) ?_
            obtain ⟨c21, vc⟩ := vc
            refine e_gR (b := q) (show pAt 43 49 = some (49, .getfield 18, 3, [4, 3, 0, 1201]) from by decide +kernel) (show HS h17 from hs_h17) rfl (yq (P := fun q => decide (44 < 1000) && decide (q < 1000) && decide (SHl[44]? = some (.inr 4)) && decide (3 < vwN 4) && isRefTy (vwTy 4 3)) hY (by decide +kernel)) c21 ?_
            refine e_iload_n (show pAt 43 52 = some (52, .iload_n 1, 1, []) from by decide +kernel) rfl ?_
            refine e_iload_n (show pAt 43 53 = some (53, .iload_n 2, 1, []) from by decide +kernel) rfl ?_
            refine Ends.call (show pAt 43 54 = some (54, .invokevirtual 51, 3, [56, 3, 0, 1, 3154, 3156, 41]) from by decide +kernel) (isRet_none rfl) rfl (call_this (show HS h17 from hs_h17) rfl rfl (yq (P := fun q => decide (q < 1000) && decide (SHl[q]? = some (.inr (mCi 56))) && decide (mCi 56 < 8)) hY (by decide +kernel))) (Ends.mono vc ?_)
            rintro _ h22 ⟨rfl, hs_h22, vc⟩
            refine e_iconst (c := 1) (show pAt 43 57 = some (57, .iconst 1, 1, []) from by decide +kernel) (by decide) ?_
            exact e_retZ (show pAt 43 58 = some (58, .ireturn, 1, []) from by decide +kernel) rfl (by decide) vc
          · replace vc := vc.2 c20
            refine e_iconst (c := 0) (show pAt 43 46 = some (46, .iconst 0, 1, []) from by decide +kernel) (by decide) ?_
            exact e_retZ (show pAt 43 47 = some (47, .ireturn, 1, []) from by decide +kernel) rfl (by decide) vc
    · replace vc := vc.2 c8
      refine e_iconst (c := 0) (show pAt 43 18 = some (18, .iconst 0, 1, []) from by decide +kernel) (by decide) ?_
      exact e_retZ (show pAt 43 19 = some (19, .ireturn, 1, []) from by decide +kernel) rfl (by decide) vc

theorem w_ri0 {X : Scr} {dp : Nat} {h : Hp} {Q : Option Value → Hp → Prop} {q : Nat} (hY : YQ q) (hs : HS h)
    (vc : ((hpQ h q).2.2.2 44 3 = some q ∧ Ends X dp 54 0 [.ref q] [] (hpQ h q) (fun rv h2 => rv = none ∧ HS h2 ∧ Ends X dp 43 0 [.ref 44, .retAddr 0, .retAddr 0] [] (hpI h2 44 2 0) (fun rv h5 => ∃ r6, rv = some (.int r6) ∧ HS h5 ∧ Ends X (dp + 1) 42 24 [.ref 44, .ref q, .int r6, .int 1] [] h5 Q)))) :
    Ends X (dp + 1) 42 0 [.ref 44, .ref q, .retAddr 0, .retAddr 0] [] h Q := by
  have ra : ∀ {a : Nat}, a < 1000 → a ≤ OLDB := fun h => by have := OLDB_eq; omega
  have hqr := yq_rng hY
  have hOB := OLDB_eq
  refine e_aload_n (show pAt 42 0 = some (0, .aload_n 0, 1, []) from by decide +kernel) rfl (ra (by decide)) ?_
  refine e_aload_n (show pAt 42 1 = some (1, .aload_n 1, 1, []) from by decide +kernel) rfl (show q ≤ OLDB by omega) ?_
  refine e_pQ (show pAt 42 2 = some (2, .putfield 18, 3, [4, 3, 0, 1201]) from by decide +kernel) (show HS h from hs) hY ?_
  refine e_aload_n (show pAt 42 5 = some (5, .aload_n 0, 1, []) from by decide +kernel) rfl (ra (by decide)) ?_
  obtain ⟨c1, vc⟩ := vc
  refine e_gR (b := q) (show pAt 42 6 = some (6, .getfield 18, 3, [4, 3, 0, 1201]) from by decide +kernel) (show HS (hpQ h q) from hs_Q hY hs) rfl (yq (P := fun q => decide (44 < 1000) && decide (q < 1000) && decide (SHl[44]? = some (.inr 4)) && decide (3 < vwN 4) && isRefTy (vwTy 4 3)) hY (by decide +kernel)) c1 ?_
  refine Ends.call (show pAt 42 9 = some (9, .invokevirtual 26, 3, [54, 1, 0, 1, 2235, 2237, 29]) from by decide +kernel) (isRet_none rfl) rfl (call_this (show HS (hpQ h q) from hs_Q hY hs) rfl rfl (yq (P := fun q => decide (q < 1000) && decide (SHl[q]? = some (.inr (mCi 54))) && decide (mCi 54 < 8)) hY (by decide +kernel))) (Ends.mono vc ?_)
  rintro _ h2 ⟨rfl, hs_h2, vc⟩
  refine e_aload_n (show pAt 42 12 = some (12, .aload_n 0, 1, []) from by decide +kernel) rfl (ra (by decide)) ?_
  refine e_iconst (c := 0) (show pAt 42 13 = some (13, .iconst 0, 1, []) from by decide +kernel) (by decide) ?_
  refine e_pI (show pAt 42 14 = some (14, .putfield 29, 3, [4, 2, 0, 1200]) from by decide +kernel) (show HS h2 from hs_h2) (by decide) (Or.inl rfl) ?_
  refine e_aload_n (show pAt 42 17 = some (17, .aload_n 0, 1, []) from by decide +kernel) rfl (ra (by decide)) ?_
  refine Ends.call (show pAt 42 18 = some (18, .invokevirtual 32, 3, [43, 1, 0, 0, 2239, 3001, 30]) from by decide +kernel) (isRet_none rfl) rfl (call_this (show HS (hpI h2 44 2 0) from hs_h2) rfl rfl (by decide)) (Ends.mono vc ?_)
  rintro _ h5 ⟨r6, rfl, hs_h5, vc⟩
  refine e_istore_n (show pAt 42 21 = some (21, .istore_n 2, 1, []) from by decide +kernel) ⟨Nat.le_of_ble_eq_true rfl, rfl⟩ rfl ?_
  refine e_iconst (c := 1) (show pAt 42 22 = some (22, .iconst 1, 1, []) from by decide +kernel) (by decide) ?_
  refine e_istore_n (show pAt 42 23 = some (23, .istore_n 3, 1, []) from by decide +kernel) ⟨Nat.le_of_ble_eq_true rfl, rfl⟩ rfl ?_
  exact vc

theorem w_ri1 {X : Scr} {dp : Nat} {h : Hp} {Q : Option Value → Hp → Prop} {q : Nat} (hY : YQ q) (r : Int32) (i : Int32) (hs : HS h)
    (vc : ((condB .ge i 10 = true → ((condB .eq r 0 = true → Q (some (.int (h.2.1 44 2))) h) ∧ (condB .eq r 0 = false → ((condB .ne (h.2.1 44 2) (h.2.1 44 1) = true → Q (some (.int (h.2.1 44 2))) h) ∧ (condB .ne (h.2.1 44 2) (h.2.1 44 1) = false → Q (some (.int (-1))) h))))) ∧ (condB .ge i 10 = false → ((condB .eq r 0 = true → ((condB .eq r 0 = true → Q (some (.int (h.2.1 44 2))) h) ∧ (condB .eq r 0 = false → ((condB .ne (h.2.1 44 2) (h.2.1 44 1) = true → Q (some (.int (h.2.1 44 2))) h) ∧ (condB .ne (h.2.1 44 2) (h.2.1 44 1) = false → Q (some (.int (-1))) h))))) ∧ (condB .eq r 0 = false → ((condB .ge (h.2.1 44 2) (h.2.1 44 1) = true → ((condB .eq r 0 = true → Q (some (.int (h.2.1 44 2))) h) ∧ (condB .eq r 0 = false → ((condB .ne (h.2.1 44 2) (h.2.1 44 1) = true → Q (some (.int (h.2.1 44 2))) h) ∧ (condB .ne (h.2.1 44 2) (h.2.1 44 1) = false → Q (some (.int (-1))) h))))) ∧ (condB .ge (h.2.1 44 2) (h.2.1 44 1) = false → Ends X dp 50 0 [.ref 44, .int 59] [] h (fun rv h10 => ∃ r11, rv = some (.int r11) ∧ HS h10 ∧ ((condB .eq r11 0 = true → Ends X (dp + 1) 42 24 [.ref 44, .ref q, .int 0, .int (i + 1)] [] h10 Q) ∧ (condB .eq r11 0 = false → Ends X dp 43 0 [.ref 44, .retAddr 0, .retAddr 0] [] h10 (fun rv h14 => ∃ r15, rv = some (.int r15) ∧ HS h14 ∧ ((condB .eq r15 0 = true → Ends X (dp + 1) 42 24 [.ref 44, .ref q, .int 0, .int (i + 1)] [] h14 Q) ∧ (condB .eq r15 0 = false → Ends X (dp + 1) 42 24 [.ref 44, .ref q, .int 1, .int (i + 1)] [] h14 Q))))))))))))) :
    Ends X (dp + 1) 42 24 [.ref 44, .ref q, .int r, .int i] [] h Q := by
  have ra : ∀ {a : Nat}, a < 1000 → a ≤ OLDB := fun h => by have := OLDB_eq; omega
  have hqr := yq_rng hY
  have hOB := OLDB_eq
  refine e_iload_n (show pAt 42 24 = some (24, .iload_n 3, 1, []) from by decide +kernel) rfl ?_
  refine e_bipush (c := 10) (show pAt 42 25 = some (25, .bipush 10, 2, []) from by decide +kernel) (by decide) ?_
  refine e_icmp (t := 73) (show pAt 42 27 = some (27, .if_icmp .ge 46, 3, []) from by decide +kernel) rfl (fun c1 => ?_) (fun c1 => ?_)
  · replace vc := vc.1 c1
    refine e_iload_n (show pAt 42 73 = some (73, .iload_n 2, 1, []) from by decide +kernel) rfl ?_
    refine e_if (t := 92) (show pAt 42 74 = some (74, .ifCond .eq 18, 3, []) from by decide +kernel) rfl (fun c2 => ?_) (fun c2 => ?_)
    · replace vc := vc.1 c2
      refine e_aload_n (show pAt 42 92 = some (92, .aload_n 0, 1, []) from by decide +kernel) rfl (ra (by decide)) ?_
      refine e_gIv (v := h.2.1 44 2) (show pAt 42 93 = some (93, .getfield 29, 3, [4, 2, 0, 1200]) from by decide +kernel) (show HS h from hs) rfl (by decide) rfl ?_
      exact e_retI (show pAt 42 96 = some (96, .ireturn, 1, []) from by decide +kernel) rfl vc
    · replace vc := vc.2 c2
      refine e_aload_n (show pAt 42 77 = some (77, .aload_n 0, 1, []) from by decide +kernel) rfl (ra (by decide)) ?_
      refine e_gIv (v := h.2.1 44 2) (show pAt 42 78 = some (78, .getfield 29, 3, [4, 2, 0, 1200]) from by decide +kernel) (show HS h from hs) rfl (by decide) rfl ?_
      refine e_aload_n (show pAt 42 81 = some (81, .aload_n 0, 1, []) from by decide +kernel) rfl (ra (by decide)) ?_
      refine e_gIv (v := h.2.1 44 1) (show pAt 42 82 = some (82, .getfield 22, 3, [4, 1, 0, 1198]) from by decide +kernel) (show HS h from hs) rfl (by decide) rfl ?_
      refine e_icmp (t := 92) (show pAt 42 85 = some (85, .if_icmp .ne 7, 3, []) from by decide +kernel) rfl (fun c3 => ?_) (fun c3 => ?_)
      · replace vc := vc.1 c3
        refine e_aload_n (show pAt 42 92 = some (92, .aload_n 0, 1, []) from by decide +kernel) rfl (ra (by decide)) ?_
        refine e_gIv (v := h.2.1 44 2) (show pAt 42 93 = some (93, .getfield 29, 3, [4, 2, 0, 1200]) from by decide +kernel) (show HS h from hs) rfl (by decide) rfl ?_
        exact e_retI (show pAt 42 96 = some (96, .ireturn, 1, []) from by decide +kernel) rfl vc
      · replace vc := vc.2 c3
        refine e_iconst (c := (-1)) (show pAt 42 88 = some (88, .iconst (-1), 1, []) from by decide +kernel) (by decide) ?_
        refine e_goto (t := 96) (show pAt 42 89 = some (89, .goto 7, 3, []) from by decide +kernel) rfl ?_
        exact e_retI (show pAt 42 96 = some (96, .ireturn, 1, []) from by decide +kernel) rfl vc
  · replace vc := vc.2 c1
    refine e_iload_n (show pAt 42 30 = some (30, .iload_n 2, 1, []) from by decide +kernel) rfl ?_
    refine e_if (t := 73) (show pAt 42 31 = some (31, .ifCond .eq 42, 3, []) from by decide +kernel) rfl (fun c4 => ?_) (fun c4 => ?_)
    · replace vc := vc.1 c4
      refine e_iload_n (show pAt 42 73 = some (73, .iload_n 2, 1, []) from by decide +kernel) rfl ?_
      refine e_if (t := 92) (show pAt 42 74 = some (74, .ifCond .eq 18, 3, []) from by decide +kernel) rfl (fun c5 => ?_) (fun c5 => ?_)
      · replace vc := vc.1 c5
        refine e_aload_n (show pAt 42 92 = some (92, .aload_n 0, 1, []) from by decide +kernel) rfl (ra (by decide)) ?_
        refine e_gIv (v := h.2.1 44 2) (show pAt 42 93 = some (93, .getfield 29, 3, [4, 2, 0, 1200]) from by decide +kernel) (show HS h from hs) rfl (by decide) rfl ?_
        exact e_retI (show pAt 42 96 = some (96, .ireturn, 1, []) from by decide +kernel) rfl vc
      · replace vc := vc.2 c5
        refine e_aload_n (show pAt 42 77 = some (77, .aload_n 0, 1, []) from by decide +kernel) rfl (ra (by decide)) ?_
        refine e_gIv (v := h.2.1 44 2) (show pAt 42 78 = some (78, .getfield 29, 3, [4, 2, 0, 1200]) from by decide +kernel) (show HS h from hs) rfl (by decide) rfl ?_
        refine e_aload_n (show pAt 42 81 = some (81, .aload_n 0, 1, []) from by decide +kernel) rfl (ra (by decide)) ?_
        refine e_gIv (v := h.2.1 44 1) (show pAt 42 82 = some (82, .getfield 22, 3, [4, 1, 0, 1198]) from by decide +kernel) (show HS h from hs) rfl (by decide) rfl ?_
        refine e_icmp (t := 92) (show pAt 42 85 = some (85, .if_icmp .ne 7, 3, []) from by decide +kernel) rfl (fun c6 => ?_) (fun c6 => ?_)
        · replace vc := vc.1 c6
          refine e_aload_n (show pAt 42 92 = some (92, .aload_n 0, 1, []) from by decide +kernel) rfl (ra (by decide)) ?_
          refine e_gIv (v := h.2.1 44 2) (show pAt 42 93 = some (93, .getfield 29, 3, [4, 2, 0, 1200]) from by decide +kernel) (show HS h from hs) rfl (by decide) rfl ?_
          exact e_retI (show pAt 42 96 = some (96, .ireturn, 1, []) from by decide +kernel) rfl vc
        · replace vc := vc.2 c6
          refine e_iconst (c := (-1)) (show pAt 42 88 = some (88, .iconst (-1), 1, []) from by decide +kernel) (by decide) ?_
          refine e_goto (t := 96) (show pAt 42 89 = some (89, .goto 7, 3, []) from by decide +kernel) rfl ?_
          exact e_retI (show pAt 42 96 = some (96, .ireturn, 1, []) from by decide +kernel) rfl vc
    · replace vc := vc.2 c4
      refine e_aload_n (show pAt 42 34 = some (34, .aload_n 0, 1, []) from by decide +kernel) rfl (ra (by decide)) ?_
      refine e_gIv (v := h.2.1 44 2) (show pAt 42 35 = some (35, .getfield 29, 3, [4, 2, 0, 1200]) from by decide +kernel) (show HS h from hs) rfl (by decide) rfl ?_
      refine e_aload_n (show pAt 42 38 = some (38, .aload_n 0, 1, []) from by decide +kernel) rfl (ra (by decide)) ?_
      refine e_gIv (v := h.2.1 44 1) (show pAt 42 39 = some (39, .getfield 22, 3, [4, 1, 0, 1198]) from by decide +kernel) (show HS h from hs) rfl (by decide) rfl ?_
      refine e_icmp (t := 73) (show pAt 42 42 = some (42, .if_icmp .ge 31, 3, []) from by decide +kernel) rfl (fun c7 => ?_) (fun c7 => ?_)
      · replace vc := vc.1 c7
        refine e_iload_n (show pAt 42 73 = some (73, .iload_n 2, 1, []) from by decide +kernel) rfl ?_
        refine e_if (t := 92) (show pAt 42 74 = some (74, .ifCond .eq 18, 3, []) from by decide +kernel) rfl (fun c8 => ?_) (fun c8 => ?_)
        · replace vc := vc.1 c8
          refine e_aload_n (show pAt 42 92 = some (92, .aload_n 0, 1, []) from by decide +kernel) rfl (ra (by decide)) ?_
          refine e_gIv (v := h.2.1 44 2) (show pAt 42 93 = some (93, .getfield 29, 3, [4, 2, 0, 1200]) from by decide +kernel) (show HS h from hs) rfl (by decide) rfl ?_
          exact e_retI (show pAt 42 96 = some (96, .ireturn, 1, []) from by decide +kernel) rfl vc
        · replace vc := vc.2 c8
          refine e_aload_n (show pAt 42 77 = some (77, .aload_n 0, 1, []) from by decide +kernel) rfl (ra (by decide)) ?_
          refine e_gIv (v := h.2.1 44 2) (show pAt 42 78 = some (78, .getfield 29, 3, [4, 2, 0, 1200]) from by decide +kernel) (show HS h from hs) rfl (by decide) rfl ?_
          refine e_aload_n (show pAt 42 81 = some (81, .aload_n 0, 1, []) from by decide +kernel) rfl (ra (by decide)) ?_
          refine e_gIv (v := h.2.1 44 1) (show pAt 42 82 = some (82, .getfield 22, 3, [4, 1, 0, 1198]) from by decide +kernel) (show HS h from hs) rfl (by decide) rfl ?_
          refine e_icmp (t := 92) (show pAt 42 85 = some (85, .if_icmp .ne 7, 3, []) from by decide +kernel) rfl (fun c9 => ?_) (fun c9 => ?_)
          · replace vc := vc.1 c9
            refine e_aload_n (show pAt 42 92 = some (92, .aload_n 0, 1, []) from by decide +kernel) rfl (ra (by decide)) ?_
            refine e_gIv (v := h.2.1 44 2) (show pAt 42 93 = some (93, .getfield 29, 3, [4, 2, 0, 1200]) from by decide +kernel) (show HS h from hs) rfl (by decide) rfl ?_
            exact e_retI (show pAt 42 96 = some (96, .ireturn, 1, []) from by decide +kernel) rfl vc
          · replace vc := vc.2 c9
            refine e_iconst (c := (-1)) (show pAt 42 88 = some (88, .iconst (-1), 1, []) from by decide +kernel) (by decide) ?_
            refine e_goto (t := 96) (show pAt 42 89 = some (89, .goto 7, 3, []) from by decide +kernel) rfl ?_
            exact e_retI (show pAt 42 96 = some (96, .ireturn, 1, []) from by decide +kernel) rfl vc
      · replace vc := vc.2 c7
        refine e_aload_n (show pAt 42 45 = some (45, .aload_n 0, 1, []) from by decide +kernel) rfl (ra (by decide)) ?_
        refine e_bipush (c := 59) (show pAt 42 46 = some (46, .bipush 59, 2, []) from by decide +kernel) (by decide) ?_
        refine Ends.call (show pAt 42 48 = some (48, .invokevirtual 36, 3, [50, 2, 0, 0, 3007, 3009, 32]) from by decide +kernel) (isRet_none rfl) rfl (call_this (show HS h from hs) rfl rfl (by decide)) (Ends.mono vc ?_)
        rintro _ h10 ⟨r11, rfl, hs_h10, vc⟩
        refine e_if (t := 65) (show pAt 42 51 = some (51, .ifCond .eq 14, 3, []) from by decide +kernel) rfl (fun c13 => ?_) (fun c13 => ?_)
        · replace vc := vc.1 c13
          refine e_iconst (c := 0) (show pAt 42 65 = some (65, .iconst 0, 1, []) from by decide +kernel) (by decide) ?_
          refine e_istore_n (show pAt 42 66 = some (66, .istore_n 2, 1, []) from by decide +kernel) ⟨Nat.le_of_ble_eq_true rfl, rfl⟩ rfl ?_
          refine e_iinc (c := 1) (show pAt 42 67 = some (67, .iinc 3 1, 3, []) from by decide +kernel) rfl rfl (by decide) rfl ?_
          refine e_goto (t := 24) (show pAt 42 70 = some (70, .goto (-46), 3, []) from by decide +kernel) rfl ?_
          exact vc
        · replace vc := vc.2 c13
          refine e_aload_n (show pAt 42 54 = some (54, .aload_n 0, 1, []) from by decide +kernel) rfl (ra (by decide)) ?_
          refine Ends.call (show pAt 42 55 = some (55, .invokevirtual 32, 3, [43, 1, 0, 0, 2239, 3001, 30]) from by decide +kernel) (isRet_none rfl) rfl (call_this (show HS h10 from hs_h10) rfl rfl (by decide)) (Ends.mono vc ?_)
          rintro _ h14 ⟨r15, rfl, hs_h14, vc⟩
          refine e_if (t := 65) (show pAt 42 58 = some (58, .ifCond .eq 7, 3, []) from by decide +kernel) rfl (fun c17 => ?_) (fun c17 => ?_)
          · replace vc := vc.1 c17
            refine e_iconst (c := 0) (show pAt 42 65 = some (65, .iconst 0, 1, []) from by decide +kernel) (by decide) ?_
            refine e_istore_n (show pAt 42 66 = some (66, .istore_n 2, 1, []) from by decide +kernel) ⟨Nat.le_of_ble_eq_true rfl, rfl⟩ rfl ?_
            refine e_iinc (c := 1) (show pAt 42 67 = some (67, .iinc 3 1, 3, []) from by decide +kernel) rfl rfl (by decide) rfl ?_
            refine e_goto (t := 24) (show pAt 42 70 = some (70, .goto (-46), 3, []) from by decide +kernel) rfl ?_
            exact vc
          · replace vc := vc.2 c17
            refine e_iconst (c := 1) (show pAt 42 61 = some (61, .iconst 1, 1, []) from by decide +kernel) (by decide) ?_
            refine e_goto (t := 66) (show pAt 42 62 = some (62, .goto 4, 3, []) from by decide +kernel) rfl ?_
            refine e_istore_n (show pAt 42 66 = some (66, .istore_n 2, 1, []) from by decide +kernel) ⟨Nat.le_of_ble_eq_true rfl, rfl⟩ rfl ?_
            refine e_iinc (c := 1) (show pAt 42 67 = some (67, .iinc 3 1, 3, []) from by decide +kernel) rfl rfl (by decide) rfl ?_
            refine e_goto (t := 24) (show pAt 42 70 = some (70, .goto (-46), 3, []) from by decide +kernel) rfl ?_
            exact vc

theorem w_feed {X : Scr} {dp : Nat} {h : Hp} {Q : Option Value → Hp → Prop} (a : Int32) (hs : HS h)
    (vc : ((condB .lt a 0 = true → Q (some (.int (-2))) h) ∧ (condB .lt a 0 = false → ((condB .le a 127 = true → Ends X dp 41 0 [.ref 44, .int a] [] h (fun rv h3 => ∃ r4, rv = some (.int r4) ∧ HS h3 ∧ ((condB .eq r4 0 = true → Q (some (.int (-4))) h3) ∧ (condB .eq r4 0 = false → Q (some (.int (h3.2.1 44 1))) h3)))) ∧ (condB .le a 127 = false → Q (some (.int (-2))) h))))) :
    Ends X (dp + 1) 68 0 [.ref 0, .int a] [] h Q := by
  have ra : ∀ {a : Nat}, a < 1000 → a ≤ OLDB := fun h => by have := OLDB_eq; omega
  refine e_iload_n (show pAt 68 0 = some (0, .iload_n 1, 1, []) from by decide +kernel) rfl ?_
  refine e_if (t := 10) (show pAt 68 1 = some (1, .ifCond .lt 9, 3, []) from by decide +kernel) rfl (fun c1 => ?_) (fun c1 => ?_)
  · replace vc := vc.1 c1
    refine e_bipush (c := (-2)) (show pAt 68 10 = some (10, .bipush (-2), 2, []) from by decide +kernel) (by decide) ?_
    exact e_retI (show pAt 68 12 = some (12, .ireturn, 1, []) from by decide +kernel) rfl vc
  · replace vc := vc.2 c1
    refine e_iload_n (show pAt 68 4 = some (4, .iload_n 1, 1, []) from by decide +kernel) rfl ?_
    refine e_bipush (c := 127) (show pAt 68 5 = some (5, .bipush 127, 2, []) from by decide +kernel) (by decide) ?_
    refine e_icmp (t := 13) (show pAt 68 7 = some (7, .if_icmp .le 6, 3, []) from by decide +kernel) rfl (fun c2 => ?_) (fun c2 => ?_)
    · replace vc := vc.1 c2
      refine e_aload_n (show pAt 68 13 = some (13, .aload_n 0, 1, []) from by decide +kernel) rfl (ra (by decide)) ?_
      refine e_gR (show pAt 68 14 = some (14, .getfield 42, 3, [6, 7, 0, 2029]) from by decide +kernel) (show HS h from hs) rfl (by decide) (hs_ref (show HS h from hs) rfl) ?_
      refine e_iload_n (show pAt 68 17 = some (17, .iload_n 1, 1, []) from by decide +kernel) rfl ?_
      refine Ends.call (show pAt 68 18 = some (18, .invokevirtual 104, 3, [41, 2, 0, 1, 2223, 2225, 27]) from by decide +kernel) (isRet_none rfl) rfl (call_this (show HS h from hs) rfl rfl (by decide)) (Ends.mono vc ?_)
      rintro _ h3 ⟨r4, rfl, hs_h3, vc⟩
      refine e_if (t := 34) (show pAt 68 21 = some (21, .ifCond .eq 13, 3, []) from by decide +kernel) rfl (fun c6 => ?_) (fun c6 => ?_)
      · replace vc := vc.1 c6
        refine e_bipush (c := (-4)) (show pAt 68 34 = some (34, .bipush (-4), 2, []) from by decide +kernel) (by decide) ?_
        exact e_retI (show pAt 68 36 = some (36, .ireturn, 1, []) from by decide +kernel) rfl vc
      · replace vc := vc.2 c6
        refine e_aload_n (show pAt 68 24 = some (24, .aload_n 0, 1, []) from by decide +kernel) rfl (ra (by decide)) ?_
        refine e_gR (show pAt 68 25 = some (25, .getfield 42, 3, [6, 7, 0, 2029]) from by decide +kernel) (show HS h3 from hs_h3) rfl (by decide) (hs_ref (show HS h3 from hs_h3) rfl) ?_
        refine e_gIv (v := h3.2.1 44 1) (show pAt 68 28 = some (28, .getfield 107, 3, [4, 1, 1, 1199]) from by decide +kernel) (show HS h3 from hs_h3) rfl (by decide) rfl ?_
        refine e_goto (t := 36) (show pAt 68 31 = some (31, .goto 5, 3, []) from by decide +kernel) rfl ?_
        exact e_retI (show pAt 68 36 = some (36, .ireturn, 1, []) from by decide +kernel) rfl vc
    · replace vc := vc.2 c2
      refine e_bipush (c := (-2)) (show pAt 68 10 = some (10, .bipush (-2), 2, []) from by decide +kernel) (by decide) ?_
      exact e_retI (show pAt 68 12 = some (12, .ireturn, 1, []) from by decide +kernel) rfl vc

theorem w_mfeed {X : Scr} {dp : Nat} {h : Hp} {Q : Option Value → Hp → Prop} (a : Int32) (hs : HS h)
    (vc : Ends X dp 109 0 [.ref 93, .int a, .int 0, .int 127] [] h (fun rv h1 => ∃ r2, rv = some (.int r2) ∧ HS h1 ∧ ((condB .ne r2 0 = true → ((condB .ne (h1.2.1 93 11) 100 = true → (inB (h1.2.1 93 11) 100 = true ∧ Q (some (.int ((h1.2.1 93 11) + 1))) (hpI (hpI h1 100 (h1.2.1 93 11).toNatClampNeg a) 93 11 ((h1.2.1 93 11) + 1)))) ∧ (condB .ne (h1.2.1 93 11) 100 = false → Q (some (.int (-4))) h1))) ∧ (condB .ne r2 0 = false → Q (some (.int (-2))) h1)))) :
    Ends X (dp + 1) 118 0 [.ref 93, .int a] [] h Q := by
  have ra : ∀ {a : Nat}, a < 1000 → a ≤ OLDB := fun h => by have := OLDB_eq; omega
  refine e_aload_n (show pAt 118 0 = some (0, .aload_n 0, 1, []) from by decide +kernel) rfl (ra (by decide)) ?_
  refine e_iload_n (show pAt 118 1 = some (1, .iload_n 1, 1, []) from by decide +kernel) rfl ?_
  refine e_iconst (c := 0) (show pAt 118 2 = some (2, .iconst 0, 1, []) from by decide +kernel) (by decide) ?_
  refine e_bipush (c := 127) (show pAt 118 3 = some (3, .bipush 127, 2, []) from by decide +kernel) (by decide) ?_
  refine Ends.call (show pAt 118 5 = some (5, .invokevirtual 206, 3, [109, 4, 0, 0, 5081, 5083, 54]) from by decide +kernel) (isRet_none rfl) rfl (call_this (show HS h from hs) rfl rfl (by decide)) (Ends.mono vc ?_)
  rintro _ h1 ⟨r2, rfl, hs_h1, vc⟩
  refine e_if (t := 14) (show pAt 118 8 = some (8, .ifCond .ne 6, 3, []) from by decide +kernel) rfl (fun c4 => ?_) (fun c4 => ?_)
  · replace vc := vc.1 c4
    refine e_aload_n (show pAt 118 14 = some (14, .aload_n 0, 1, []) from by decide +kernel) rfl (ra (by decide)) ?_
    refine e_gIv (v := h1.2.1 93 11) (show pAt 118 15 = some (15, .getfield 44, 3, [7, 11, 0, 4134]) from by decide +kernel) (show HS h1 from hs_h1) rfl (by decide) rfl ?_
    refine e_bipush (c := 100) (show pAt 118 18 = some (18, .bipush 100, 2, []) from by decide +kernel) (by decide) ?_
    refine e_icmp (t := 26) (show pAt 118 20 = some (20, .if_icmp .ne 6, 3, []) from by decide +kernel) rfl (fun c5 => ?_) (fun c5 => ?_)
    · replace vc := vc.1 c5
      refine e_aload_n (show pAt 118 26 = some (26, .aload_n 0, 1, []) from by decide +kernel) rfl (ra (by decide)) ?_
      refine e_gR (show pAt 118 27 = some (27, .getfield 53, 3, [7, 14, 0, 4137]) from by decide +kernel) (show HS h1 from hs_h1) rfl (by decide) (hs_ref (show HS h1 from hs_h1) rfl) ?_
      refine e_aload_n (show pAt 118 30 = some (30, .aload_n 0, 1, []) from by decide +kernel) rfl (ra (by decide)) ?_
      refine e_gIv (v := h1.2.1 93 11) (show pAt 118 31 = some (31, .getfield 44, 3, [7, 11, 0, 4134]) from by decide +kernel) (show HS h1 from hs_h1) rfl (by decide) rfl ?_
      refine e_iload_n (show pAt 118 34 = some (34, .iload_n 1, 1, []) from by decide +kernel) rfl ?_
      obtain ⟨c6, vc⟩ := vc
      refine e_ast (show pAt 118 35 = some (35, .iastore, 1, []) from by decide +kernel) (show HS h1 from hs_h1) (by decide) c6 ?_
      refine e_aload_n (show pAt 118 36 = some (36, .aload_n 0, 1, []) from by decide +kernel) rfl (ra (by decide)) ?_
      refine e_dupR (show pAt 118 37 = some (37, .dup, 1, []) from by decide +kernel) ?_
      refine e_gIv (v := h1.2.1 93 11) (show pAt 118 38 = some (38, .getfield 44, 3, [7, 11, 0, 4134]) from by decide +kernel) (show HS (hpI h1 100 (h1.2.1 93 11).toNatClampNeg a) from hs_h1) rfl (by decide) (by rw [put_ne (by omega)]) ?_
      refine e_iconst (c := 1) (show pAt 118 41 = some (41, .iconst 1, 1, []) from by decide +kernel) (by decide) ?_
      refine e_iadd (show pAt 118 42 = some (42, .iadd, 1, []) from by decide +kernel) ?_
      refine e_pI (show pAt 118 43 = some (43, .putfield 44, 3, [7, 11, 0, 4134]) from by decide +kernel) (show HS (hpI h1 100 (h1.2.1 93 11).toNatClampNeg a) from hs_h1) (by decide) (Or.inl rfl) ?_
      refine e_aload_n (show pAt 118 46 = some (46, .aload_n 0, 1, []) from by decide +kernel) rfl (ra (by decide)) ?_
      refine e_gIv (v := (h1.2.1 93 11) + 1) (show pAt 118 47 = some (47, .getfield 44, 3, [7, 11, 0, 4134]) from by decide +kernel) (show HS (hpI (hpI h1 100 (h1.2.1 93 11).toNatClampNeg a) 93 11 ((h1.2.1 93 11) + 1)) from hs_h1) rfl (by decide) (by rw [put_at]) ?_
      exact e_retI (show pAt 118 50 = some (50, .ireturn, 1, []) from by decide +kernel) rfl vc
    · replace vc := vc.2 c5
      refine e_bipush (c := (-4)) (show pAt 118 23 = some (23, .bipush (-4), 2, []) from by decide +kernel) (by decide) ?_
      exact e_retI (show pAt 118 25 = some (25, .ireturn, 1, []) from by decide +kernel) rfl vc
  · replace vc := vc.2 c4
    refine e_bipush (c := (-2)) (show pAt 118 11 = some (11, .bipush (-2), 2, []) from by decide +kernel) (by decide) ?_
    exact e_retI (show pAt 118 13 = some (13, .ireturn, 1, []) from by decide +kernel) rfl vc

theorem w_cyd {X : Scr} {dp : Nat} {h : Hp} {Q : Option Value → Hp → Prop}  (hs : HS h)
    (vc : ((condB .lt (h.2.1 0 6) 6 = true → (∃ b2 : Nat, (inB (h.2.1 0 6) 6 = true ∧ (h.2.2.2 38 (h.2.1 0 6).toNatClampNeg = some b2 ∧ (b2 < 1000 ∧ Ends X dp 42 0 [.ref 44, .ref b2, .retAddr 0, .retAddr 0] [] h (fun rv h6 => ∃ r7, rv = some (.int r7) ∧ HS h6 ∧ ((condB .lt r7 0 = true → Q (some (.int (h6.2.1 0 6))) (hpI (hpI (hpI h6 44 1 0) 1 12 (h6.2.1 0 6)) 0 6 ((h6.2.1 0 6) + 1))) ∧ (condB .lt r7 0 = false → Q (some (.int ((-10) - r7))) (hpI h6 44 1 0))))))))) ∧ (condB .lt (h.2.1 0 6) 6 = false → Q (some (.int (-4))) h))) :
    Ends X (dp + 1) 69 0 [.ref 0, .retAddr 0] [] h Q := by
  have ra : ∀ {a : Nat}, a < 1000 → a ≤ OLDB := fun h => by have := OLDB_eq; omega
  refine e_aload_n (show pAt 69 0 = some (0, .aload_n 0, 1, []) from by decide +kernel) rfl (ra (by decide)) ?_
  refine e_gIv (v := h.2.1 0 6) (show pAt 69 1 = some (1, .getfield 110, 3, [6, 6, 0, 2028]) from by decide +kernel) (show HS h from hs) rfl (by decide) rfl ?_
  refine e_bipush (c := 6) (show pAt 69 4 = some (4, .bipush 6, 2, []) from by decide +kernel) (by decide) ?_
  refine e_icmp (t := 12) (show pAt 69 6 = some (6, .if_icmp .lt 6, 3, []) from by decide +kernel) rfl (fun c1 => ?_) (fun c1 => ?_)
  · replace vc := vc.1 c1
    refine e_aload_n (show pAt 69 12 = some (12, .aload_n 0, 1, []) from by decide +kernel) rfl (ra (by decide)) ?_
    refine e_gR (show pAt 69 13 = some (13, .getfield 42, 3, [6, 7, 0, 2029]) from by decide +kernel) (show HS h from hs) rfl (by decide) (hs_ref (show HS h from hs) rfl) ?_
    refine e_aload_n (show pAt 69 16 = some (16, .aload_n 0, 1, []) from by decide +kernel) rfl (ra (by decide)) ?_
    refine e_gR (show pAt 69 17 = some (17, .getfield 30, 3, [6, 4, 0, 2026]) from by decide +kernel) (show HS h from hs) rfl (by decide) (hs_ref (show HS h from hs) rfl) ?_
    refine e_aload_n (show pAt 69 20 = some (20, .aload_n 0, 1, []) from by decide +kernel) rfl (ra (by decide)) ?_
    refine e_gIv (v := h.2.1 0 6) (show pAt 69 21 = some (21, .getfield 110, 3, [6, 6, 0, 2028]) from by decide +kernel) (show HS h from hs) rfl (by decide) rfl ?_
    obtain ⟨b2, c3, c4, c5, vc⟩ := vc
    refine e_aald (t := 3) (show pAt 69 24 = some (24, .aaload, 1, []) from by decide +kernel) (show HS h from hs) (by decide) c3 c4 c5 ?_
    refine Ends.call (show pAt 69 25 = some (25, .invokevirtual 113, 3, [42, 2, 0, 1, 2231, 2233, 28]) from by decide +kernel) (isRet_none rfl) rfl (call_this (show HS h from hs) rfl rfl (by decide)) (Ends.mono vc ?_)
    rintro _ h6 ⟨r7, rfl, hs_h6, vc⟩
    refine e_istore_n (show pAt 69 28 = some (28, .istore_n 1, 1, []) from by decide +kernel) ⟨Nat.le_of_ble_eq_true rfl, rfl⟩ rfl ?_
    refine e_aload_n (show pAt 69 29 = some (29, .aload_n 0, 1, []) from by decide +kernel) rfl (ra (by decide)) ?_
    refine e_gR (show pAt 69 30 = some (30, .getfield 42, 3, [6, 7, 0, 2029]) from by decide +kernel) (show HS h6 from hs_h6) rfl (by decide) (hs_ref (show HS h6 from hs_h6) rfl) ?_
    refine e_iconst (c := 0) (show pAt 69 33 = some (33, .iconst 0, 1, []) from by decide +kernel) (by decide) ?_
    refine e_pI (show pAt 69 34 = some (34, .putfield 107, 3, [4, 1, 1, 1199]) from by decide +kernel) (show HS h6 from hs_h6) (by decide) (Or.inl rfl) ?_
    refine e_iload_n (show pAt 69 37 = some (37, .iload_n 1, 1, []) from by decide +kernel) rfl ?_
    refine e_if (t := 46) (show pAt 69 38 = some (38, .ifCond .lt 8, 3, []) from by decide +kernel) rfl (fun c9 => ?_) (fun c9 => ?_)
    · replace vc := vc.1 c9
      refine e_aload_n (show pAt 69 46 = some (46, .aload_n 0, 1, []) from by decide +kernel) rfl (ra (by decide)) ?_
      refine e_gR (show pAt 69 47 = some (47, .getfield 12, 3, [6, 0, 0, 2022]) from by decide +kernel) (show HS (hpI h6 44 1 0) from hs_h6) rfl (by decide) (hs_ref (show HS (hpI h6 44 1 0) from hs_h6) rfl) ?_
      refine e_aload_n (show pAt 69 50 = some (50, .aload_n 0, 1, []) from by decide +kernel) rfl (ra (by decide)) ?_
      refine e_gIv (v := h6.2.1 0 6) (show pAt 69 51 = some (51, .getfield 110, 3, [6, 6, 0, 2028]) from by decide +kernel) (show HS (hpI h6 44 1 0) from hs_h6) rfl (by decide) rfl ?_
      refine e_pI (show pAt 69 54 = some (54, .putfield 117, 3, [2, 12, 1, 1065]) from by decide +kernel) (show HS (hpI h6 44 1 0) from hs_h6) (by decide) (Or.inl rfl) ?_
      refine e_aload_n (show pAt 69 57 = some (57, .aload_n 0, 1, []) from by decide +kernel) rfl (ra (by decide)) ?_
      refine e_dupR (show pAt 69 58 = some (58, .dup, 1, []) from by decide +kernel) ?_
      refine e_gIv (v := h6.2.1 0 6) (show pAt 69 59 = some (59, .getfield 110, 3, [6, 6, 0, 2028]) from by decide +kernel) (show HS (hpI (hpI h6 44 1 0) 1 12 (h6.2.1 0 6)) from hs_h6) rfl (by decide) rfl ?_
      refine e_iconst (c := 1) (show pAt 69 62 = some (62, .iconst 1, 1, []) from by decide +kernel) (by decide) ?_
      refine e_iadd (show pAt 69 63 = some (63, .iadd, 1, []) from by decide +kernel) ?_
      refine e_pI (show pAt 69 64 = some (64, .putfield 110, 3, [6, 6, 0, 2028]) from by decide +kernel) (show HS (hpI (hpI h6 44 1 0) 1 12 (h6.2.1 0 6)) from hs_h6) (by decide) (Or.inl rfl) ?_
      refine e_aload_n (show pAt 69 67 = some (67, .aload_n 0, 1, []) from by decide +kernel) rfl (ra (by decide)) ?_
      refine e_gR (show pAt 69 68 = some (68, .getfield 12, 3, [6, 0, 0, 2022]) from by decide +kernel) (show HS (hpI (hpI (hpI h6 44 1 0) 1 12 (h6.2.1 0 6)) 0 6 ((h6.2.1 0 6) + 1)) from hs_h6) rfl (by decide) (hs_ref (show HS (hpI (hpI (hpI h6 44 1 0) 1 12 (h6.2.1 0 6)) 0 6 ((h6.2.1 0 6) + 1)) from hs_h6) rfl) ?_
      refine e_gIv (v := h6.2.1 0 6) (show pAt 69 71 = some (71, .getfield 117, 3, [2, 12, 1, 1065]) from by decide +kernel) (show HS (hpI (hpI (hpI h6 44 1 0) 1 12 (h6.2.1 0 6)) 0 6 ((h6.2.1 0 6) + 1)) from hs_h6) rfl (by decide) rfl ?_
      exact e_retI (show pAt 69 74 = some (74, .ireturn, 1, []) from by decide +kernel) rfl vc
    · replace vc := vc.2 c9
      refine e_bipush (c := (-10)) (show pAt 69 41 = some (41, .bipush (-10), 2, []) from by decide +kernel) (by decide) ?_
      refine e_iload_n (show pAt 69 43 = some (43, .iload_n 1, 1, []) from by decide +kernel) rfl ?_
      refine e_isub (show pAt 69 44 = some (44, .isub, 1, []) from by decide +kernel) ?_
      exact e_retI (show pAt 69 45 = some (45, .ireturn, 1, []) from by decide +kernel) rfl vc
  · replace vc := vc.2 c1
    refine e_bipush (c := (-4)) (show pAt 69 9 = some (9, .bipush (-4), 2, []) from by decide +kernel) (by decide) ?_
    exact e_retI (show pAt 69 11 = some (11, .ireturn, 1, []) from by decide +kernel) rfl vc

theorem w_ccnt {X : Scr} {dp : Nat} {h : Hp} {Q : Option Value → Hp → Prop} (a : Int32) (hs : HS h)
    (vc : (((a.toInt < 0 ∨ 4 < a.toInt) → Q (some (.int (-2))) h) ∧ (a.toInt = 0 → Q (some (.int (h.2.1 1 0))) h) ∧ (a.toInt = 1 → Q (some (.int (h.2.1 0 6))) h) ∧ (a.toInt = 2 → Q (some (.int (h.2.1 1 11))) h) ∧ (a.toInt = 3 → Q (some (.int (h.2.1 44 1))) h) ∧ (a.toInt = 4 → Q (some (.int (h.2.1 51 4))) h))) :
    Ends X dp 94 0 [.ref 0, .int a] [] h Q := by
  have ra : ∀ {a : Nat}, a < 1000 → a ≤ OLDB := fun h => by have := OLDB_eq; omega
  refine e_iload_n (show pAt 94 0 = some (0, .iload_n 1, 1, []) from by decide +kernel) rfl ?_
  rcases (show (a.toInt < 0 ∨ 4 < a.toInt) ∨ a.toInt = 0 ∨ a.toInt = 1 ∨ a.toInt = 2 ∨ a.toInt = 3 ∨ a.toInt = 4 from by omega) with c1 | c1 | c1 | c1 | c1 | c1
  · refine e_tsd (t := 73) (show pAt 94 1 = some (1, .tableswitch 72 0 4 #[35, 43, 48, 56, 64], 35, []) from by decide +kernel) c1 rfl ?_
    replace vc := vc.1 c1
    refine e_bipush (c := (-2)) (show pAt 94 73 = some (73, .bipush (-2), 2, []) from by decide +kernel) (by decide) ?_
    exact e_retI (show pAt 94 75 = some (75, .ireturn, 1, []) from by decide +kernel) rfl vc
  · refine e_tsc (t := 36) 0 (show pAt 94 1 = some (1, .tableswitch 72 0 4 #[35, 43, 48, 56, 64], 35, []) from by decide +kernel) (by omega) (by omega) rfl rfl ?_
    replace vc := vc.2.1 c1
    refine e_aload_n (show pAt 94 36 = some (36, .aload_n 0, 1, []) from by decide +kernel) rfl (ra (by decide)) ?_
    refine e_gR (show pAt 94 37 = some (37, .getfield 12, 3, [6, 0, 0, 2022]) from by decide +kernel) (show HS h from hs) rfl (by decide) (hs_ref (show HS h from hs) rfl) ?_
    refine e_gIv (v := h.2.1 1 0) (show pAt 94 40 = some (40, .getfield 200, 3, [2, 0, 1, 1033]) from by decide +kernel) (show HS h from hs) rfl (by decide) rfl ?_
    exact e_retI (show pAt 94 43 = some (43, .ireturn, 1, []) from by decide +kernel) rfl vc
  · refine e_tsc (t := 44) 1 (show pAt 94 1 = some (1, .tableswitch 72 0 4 #[35, 43, 48, 56, 64], 35, []) from by decide +kernel) (by omega) (by omega) rfl rfl ?_
    replace vc := vc.2.2.1 c1
    refine e_aload_n (show pAt 94 44 = some (44, .aload_n 0, 1, []) from by decide +kernel) rfl (ra (by decide)) ?_
    refine e_gIv (v := h.2.1 0 6) (show pAt 94 45 = some (45, .getfield 110, 3, [6, 6, 0, 2028]) from by decide +kernel) (show HS h from hs) rfl (by decide) rfl ?_
    exact e_retI (show pAt 94 48 = some (48, .ireturn, 1, []) from by decide +kernel) rfl vc
  · refine e_tsc (t := 49) 2 (show pAt 94 1 = some (1, .tableswitch 72 0 4 #[35, 43, 48, 56, 64], 35, []) from by decide +kernel) (by omega) (by omega) rfl rfl ?_
    replace vc := vc.2.2.2.1 c1
    refine e_aload_n (show pAt 94 49 = some (49, .aload_n 0, 1, []) from by decide +kernel) rfl (ra (by decide)) ?_
    refine e_gR (show pAt 94 50 = some (50, .getfield 12, 3, [6, 0, 0, 2022]) from by decide +kernel) (show HS h from hs) rfl (by decide) (hs_ref (show HS h from hs) rfl) ?_
    refine e_gIv (v := h.2.1 1 11) (show pAt 94 53 = some (53, .getfield 188, 3, [2, 11, 1, 1063]) from by decide +kernel) (show HS h from hs) rfl (by decide) rfl ?_
    exact e_retI (show pAt 94 56 = some (56, .ireturn, 1, []) from by decide +kernel) rfl vc
  · refine e_tsc (t := 57) 3 (show pAt 94 1 = some (1, .tableswitch 72 0 4 #[35, 43, 48, 56, 64], 35, []) from by decide +kernel) (by omega) (by omega) rfl rfl ?_
    replace vc := vc.2.2.2.2.1 c1
    refine e_aload_n (show pAt 94 57 = some (57, .aload_n 0, 1, []) from by decide +kernel) rfl (ra (by decide)) ?_
    refine e_gR (show pAt 94 58 = some (58, .getfield 42, 3, [6, 7, 0, 2029]) from by decide +kernel) (show HS h from hs) rfl (by decide) (hs_ref (show HS h from hs) rfl) ?_
    refine e_gIv (v := h.2.1 44 1) (show pAt 94 61 = some (61, .getfield 107, 3, [4, 1, 1, 1199]) from by decide +kernel) (show HS h from hs) rfl (by decide) rfl ?_
    exact e_retI (show pAt 94 64 = some (64, .ireturn, 1, []) from by decide +kernel) rfl vc
  · refine e_tsc (t := 65) 4 (show pAt 94 1 = some (1, .tableswitch 72 0 4 #[35, 43, 48, 56, 64], 35, []) from by decide +kernel) (by omega) (by omega) rfl rfl ?_
    replace vc := vc.2.2.2.2.2 c1
    refine e_aload_n (show pAt 94 65 = some (65, .aload_n 0, 1, []) from by decide +kernel) rfl (ra (by decide)) ?_
    refine e_gR (show pAt 94 66 = some (66, .getfield 49, 3, [6, 8, 0, 2030]) from by decide +kernel) (show HS h from hs) rfl (by decide) (hs_ref (show HS h from hs) rfl) ?_
    refine e_gIv (v := h.2.1 51 4) (show pAt 94 69 = some (69, .getfield 216, 3, [0, 4, 1, 1226]) from by decide +kernel) (show HS h from hs) rfl (by decide) rfl ?_
    exact e_retI (show pAt 94 72 = some (72, .ireturn, 1, []) from by decide +kernel) rfl vc

theorem w_mcnt {X : Scr} {dp : Nat} {h : Hp} {Q : Option Value → Hp → Prop} (a : Int32) (hs : HS h)
    (vc : (((a.toInt < 0 ∨ 4 < a.toInt) → Q (some (.int (-2))) h) ∧ (a.toInt = 0 → Q (some (.int (h.2.1 93 0))) h) ∧ (a.toInt = 1 → Q (some (.int (h.2.1 93 9))) h) ∧ (a.toInt = 2 → Q (some (.int (h.2.1 93 42))) h) ∧ (a.toInt = 3 → Q (some (.int (h.2.1 93 11))) h) ∧ (a.toInt = 4 → Q (some (.int (h.2.1 93 58))) h))) :
    Ends X dp 197 0 [.ref 93, .int a] [] h Q := by
  have ra : ∀ {a : Nat}, a < 1000 → a ≤ OLDB := fun h => by have := OLDB_eq; omega
  refine e_iload_n (show pAt 197 0 = some (0, .iload_n 1, 1, []) from by decide +kernel) rfl ?_
  rcases (show (a.toInt < 0 ∨ 4 < a.toInt) ∨ a.toInt = 0 ∨ a.toInt = 1 ∨ a.toInt = 2 ∨ a.toInt = 3 ∨ a.toInt = 4 from by omega) with c1 | c1 | c1 | c1 | c1 | c1
  · refine e_tsd (t := 61) (show pAt 197 1 = some (1, .tableswitch 60 0 4 #[35, 40, 45, 50, 55], 35, []) from by decide +kernel) c1 rfl ?_
    replace vc := vc.1 c1
    refine e_bipush (c := (-2)) (show pAt 197 61 = some (61, .bipush (-2), 2, []) from by decide +kernel) (by decide) ?_
    exact e_retI (show pAt 197 63 = some (63, .ireturn, 1, []) from by decide +kernel) rfl vc
  · refine e_tsc (t := 36) 0 (show pAt 197 1 = some (1, .tableswitch 60 0 4 #[35, 40, 45, 50, 55], 35, []) from by decide +kernel) (by omega) (by omega) rfl rfl ?_
    replace vc := vc.2.1 c1
    refine e_aload_n (show pAt 197 36 = some (36, .aload_n 0, 1, []) from by decide +kernel) rfl (ra (by decide)) ?_
    refine e_gIv (v := h.2.1 93 0) (show pAt 197 37 = some (37, .getfield 7, 3, [7, 0, 0, 4123]) from by decide +kernel) (show HS h from hs) rfl (by decide) rfl ?_
    exact e_retI (show pAt 197 40 = some (40, .ireturn, 1, []) from by decide +kernel) rfl vc
  · refine e_tsc (t := 41) 1 (show pAt 197 1 = some (1, .tableswitch 60 0 4 #[35, 40, 45, 50, 55], 35, []) from by decide +kernel) (by omega) (by omega) rfl rfl ?_
    replace vc := vc.2.2.1 c1
    refine e_aload_n (show pAt 197 41 = some (41, .aload_n 0, 1, []) from by decide +kernel) rfl (ra (by decide)) ?_
    refine e_gIv (v := h.2.1 93 9) (show pAt 197 42 = some (42, .getfield 38, 3, [7, 9, 0, 4132]) from by decide +kernel) (show HS h from hs) rfl (by decide) rfl ?_
    exact e_retI (show pAt 197 45 = some (45, .ireturn, 1, []) from by decide +kernel) rfl vc
  · refine e_tsc (t := 46) 2 (show pAt 197 1 = some (1, .tableswitch 60 0 4 #[35, 40, 45, 50, 55], 35, []) from by decide +kernel) (by omega) (by omega) rfl rfl ?_
    replace vc := vc.2.2.2.1 c1
    refine e_aload_n (show pAt 197 46 = some (46, .aload_n 0, 1, []) from by decide +kernel) rfl (ra (by decide)) ?_
    refine e_gIv (v := h.2.1 93 42) (show pAt 197 47 = some (47, .getfield 139, 3, [7, 42, 0, 4165]) from by decide +kernel) (show HS h from hs) rfl (by decide) rfl ?_
    exact e_retI (show pAt 197 50 = some (50, .ireturn, 1, []) from by decide +kernel) rfl vc
  · refine e_tsc (t := 51) 3 (show pAt 197 1 = some (1, .tableswitch 60 0 4 #[35, 40, 45, 50, 55], 35, []) from by decide +kernel) (by omega) (by omega) rfl rfl ?_
    replace vc := vc.2.2.2.2.1 c1
    refine e_aload_n (show pAt 197 51 = some (51, .aload_n 0, 1, []) from by decide +kernel) rfl (ra (by decide)) ?_
    refine e_gIv (v := h.2.1 93 11) (show pAt 197 52 = some (52, .getfield 44, 3, [7, 11, 0, 4134]) from by decide +kernel) (show HS h from hs) rfl (by decide) rfl ?_
    exact e_retI (show pAt 197 55 = some (55, .ireturn, 1, []) from by decide +kernel) rfl vc
  · refine e_tsc (t := 56) 4 (show pAt 197 1 = some (1, .tableswitch 60 0 4 #[35, 40, 45, 50, 55], 35, []) from by decide +kernel) (by omega) (by omega) rfl rfl ?_
    replace vc := vc.2.2.2.2.2 c1
    refine e_aload_n (show pAt 197 56 = some (56, .aload_n 0, 1, []) from by decide +kernel) rfl (ra (by decide)) ?_
    refine e_gIv (v := h.2.1 93 58) (show pAt 197 57 = some (57, .getfield 187, 3, [7, 58, 0, 4181]) from by decide +kernel) (show HS h from hs) rfl (by decide) rfl ?_
    exact e_retI (show pAt 197 60 = some (60, .ireturn, 1, []) from by decide +kernel) rfl vc
end JN99tw1cwalks
section JN99tw2cleaves
/-! The class's reading of texts, exactly: its leaves. -/
def xT (h : Hp) : Nat → Int := fun i => (h.2.1 45 i).toInt
def xN (h : Hp) : Nat := (h.2.1 44 1).toInt.toNat
def xA (h : Hp) : Nat := (h.2.1 44 2).toInt.toNat
def CWA : List (Nat × Nat) := [(44, 2)]
def lstP (T : Nat → Int) (n : Nat) : List Int → Nat → Bool × Nat
  | [], a => (true, a)
  | c :: l, a => if nxP T n a = c then lstP T n l (a + 1) else (false, a)
theorem lst_cons (T : Nat → Int) (n : Nat) (c : Int) (l : List Int) (a : Nat) : lstP T n (c :: l) a = if nxP T n a = c then lstP T n l (a + 1) else (false, a) := rfl
theorem lst_wrd (T : Nat → Int) (n : Nat) : ∀ (l : List Int) (a : Nat), wrdP T n l a = if (lstP T n l a).1 = true then (if nxP T n (lstP T n l a).2 = 32 then (true, (lstP T n l a).2 + 1) else (false, (lstP T n l a).2)) else (false, (lstP T n l a).2)
  | [], a => by
    unfold wrdP lstP
    rw [if_pos rfl]
  | c :: l, a => by
    unfold wrdP lstP
    by_cases x : nxP T n a = c
    · rw [if_pos x, if_pos x]
      exact lst_wrd T n l (a + 1)
    · rw [if_neg x, if_neg x, if_neg (show ¬ ((false, a) : Bool × Nat).1 = true from Bool.false_ne_true)]
theorem c_nat {c : Int32} (h1 : 0 ≤ c.toInt) (h2 : c.toInt ≤ 127) : c = Int32.ofNat c.toInt.toNat ∧ c.toInt.toNat < 128 := by
  refine ⟨Int32.toInt_inj.mp ?_, by omega⟩
  rw [Int32.toInt_ofNat_of_lt (by omega)]
  omega
section CLV
variable {X : Scr} {dp : Nat} {h : Hp} {Q : Option Value → Hp → Prop}
theorem xA_v (hh : HI h) : (h.2.1 44 2).toInt = xA h ∧ xA h ≤ 100 := by
  have b := hh.iv 44 2 (r := (0, 100)) rfl
  simp only at b
  unfold xA
  omega
theorem xN_v (hh : HI h) : (h.2.1 44 1).toInt = xN h ∧ xN h ≤ 100 := by
  have b := hh.iv 44 1 (r := (0, 100)) rfl
  simp only at b
  unfold xN
  omega
theorem xT_v (hh : HI h) (i : Nat) : 0 ≤ xT h i ∧ xT h i ≤ 127 := by
  have b := hh.iv 45 i (r := (0, 127)) rfl
  exact b
theorem xT_fr {W : List (Nat × Nat)} {h' : Hp} (hf : frm W h h') (hw : ∀ k, inW W 45 k = false) : xT h' = xT h := by
  funext i
  unfold xT
  rw [frI hf (hw i)]
theorem xN_fr {W : List (Nat × Nat)} {h' : Hp} (hf : frm W h h') (hw : inW W 44 1 = false) : xN h' = xN h := by
  unfold xN
  rw [frI hf hw]
theorem CWA_T (k : Nat) : inW CWA 45 k = false := rfl
theorem iw_ok (hh : HI h) (hQ : Q (some (.int (b2i (decide (xA h < xN h))))) h) : Ends X dp 49 0 [.ref 44] [] h Q := by
  obtain ⟨a1, a2⟩ := xA_v hh
  obtain ⟨b1, b2⟩ := xN_v hh
  have j100 : (100 : Int32).toInt = 100 := rfl
  refine w_iw hh.hs ⟨fun e => ?_, fun e => ⟨fun e2 => ?_, fun e2 => ⟨fun e3 => ?_, fun e3 => ?_⟩⟩⟩
  · exfalso
    have e : (h.2.1 44 2).toInt < 0 := of_decide_eq_true (cI e)
    omega
  · have e2 : (h.2.1 44 1).toInt ≤ (h.2.1 44 2).toInt := of_decide_eq_true (cI e2)
    rwa [decide_eq_false (by omega : ¬ xA h < xN h)] at hQ
  · exfalso
    have e2 : ¬ (h.2.1 44 1).toInt ≤ (h.2.1 44 2).toInt := of_decide_eq_false (cI e2)
    have e3 : (100 : Int32).toInt ≤ (h.2.1 44 2).toInt := of_decide_eq_true (cI e3)
    omega
  · have e2 : ¬ (h.2.1 44 1).toInt ≤ (h.2.1 44 2).toInt := of_decide_eq_false (cI e2)
    rwa [decide_eq_true (by omega : xA h < xN h)] at hQ
theorem nx_in (hh : HI h) (hl : xA h < xN h) : nxP (xT h) (xN h) (xA h) = (h.2.1 45 (xA h)).toInt := by
  unfold nxP
  rw [if_pos hl]
  rfl
theorem nx_out (hl : ¬ xA h < xN h) : nxP (xT h) (xN h) (xA h) = -1 := by
  unfold nxP
  rw [if_neg hl]
theorem nxc_rng (hh : HI h) : -1 ≤ nxP (xT h) (xN h) (xA h) ∧ nxP (xT h) (xN h) (xA h) ≤ 127 := by
  by_cases hl : xA h < xN h
  · rw [nx_in hh hl]
    have := xT_v hh (xA h)
    unfold xT at this
    omega
  · rw [nx_out hl]
    decide
/-- one place on -/
theorem cadv (hh : HI h) (hl : xA h < xN h) : HI (hpI h 44 2 (h.2.1 44 2 + 1)) ∧ frm CWA h (hpI h 44 2 (h.2.1 44 2 + 1)) ∧ xA (hpI h 44 2 (h.2.1 44 2 + 1)) = xA h + 1 := by
  obtain ⟨a1, a2⟩ := xA_v hh
  obtain ⟨b1, b2⟩ := xN_v hh
  have g : (h.2.1 44 2 + 1).toInt = ((xA h + 1 : Nat) : Int) := by rw [i_add (by rw [i1]; omega) (by rw [i1]; omega), i1]; omega
  generalize h.2.1 44 2 + 1 = u at g ⊢
  refine ⟨HI_put hh (by show (0 : Int) ≤ _; omega) (by show _ ≤ (100 : Int); omega), frm_put frm_refl rfl, ?_⟩
  show ((hpI h 44 2 u).2.1 44 2).toInt.toNat = _
  rw [put_at]
  omega
theorem cA_nat (hh : HI h) : (h.2.1 44 2).toNatClampNeg = xA h := rfl
theorem ct_ok (c : Int32) (hc : 0 ≤ c.toInt) (hh : HI h)
    (hQ : ∀ h', HI h' → frm CWA h h' → xA h' = (if nxP (xT h) (xN h) (xA h) = c.toInt then xA h + 1 else xA h) → Q (some (.int (b2i (decide (nxP (xT h) (xN h) (xA h) = c.toInt))))) h') : Ends X (dp + 1) 50 0 [.ref 44, .int c] [] h Q := by
  obtain ⟨a1, a2⟩ := xA_v hh
  obtain ⟨b1, b2⟩ := xN_v hh
  refine w_tak c hh.hs (iw_ok hh ⟨_, rfl, hh.hs, fun e => ?_, fun e => ?_⟩)
  · have e := of_decide_eq_false (cz e)
    rw [nx_out e, decide_eq_false (by omega : ¬ (-1 : Int) = c.toInt), if_neg (by omega : ¬ (-1 : Int) = c.toInt)] at hQ
    exact hQ h hh frm_refl rfl
  · have e := of_decide_eq_true (cn e)
    rw [nx_in hh e] at hQ
    obtain ⟨g1, g2, g3⟩ := cadv hh e
    refine ⟨inB_iff (by omega) (by omega), fun e2 => ?_, fun e2 => ?_⟩
    · have e2 : (h.2.1 45 (xA h)).toInt = c.toInt := of_decide_eq_true (cI e2)
      rw [decide_eq_true e2, if_pos e2] at hQ
      exact hQ _ g1 g2 g3
    · have e2 : ¬ (h.2.1 45 (xA h)).toInt = c.toInt := of_decide_eq_false (cI e2)
      rw [decide_eq_false e2, if_neg e2] at hQ
      exact hQ h hh frm_refl rfl
/-! constant texts -/
theorem sl_rng : ∀ s, s < 5 → strL.getD s 0 ≤ 6 := by decide
theorem slen_ok {s : Nat} (hs5 : s < 5) (hs : HS h) (hQ : Q (some (.int (Int32.ofNat (strL.getD s 0)))) h) : Ends X (dp + 1) 209 0 [.ref (OLDB + 3 + s)] [] h Q := by
  refine w_slen hs5 hs (w_scod hs5 hs ⟨rfl, _, rfl, hs, ?_⟩)
  have e : Int32.ofNat (strL.getD s 0) >>> ((0 : Int32) &&& 31) = Int32.ofNat (strL.getD s 0) := by
    match s, hs5 with
    | 0, _ => decide
    | 1, _ => decide
    | 2, _ => decide
    | 3, _ => decide
    | 4, _ => decide
    | s + 5, h => omega
  rw [e]
  exact hQ
theorem slat_ok {s : Nat} (hs5 : s < 5) (hs : HS h) (hQ : Q (some (.int 1)) h) : Ends X dp 214 0 [.ref (OLDB + 3 + s)] [] h Q :=
  w_slat hs5 hs hQ
theorem chr_nar : ∀ s, s < 5 → ∀ j, j < strL.getD s 0 → narrow .char (.int ((strB.getD s []).getD j 0)) = .int ((strB.getD s []).getD j 0) := by decide
theorem chr_val : ∀ s, s < 5 → ∀ j, j < strL.getD s 0 → ((((strB.getD s []).getD j 0) &&& 255).toUInt32 % 65536).toInt32 = (strB.getD s []).getD j 0 := by decide
theorem sch_ok {s : Nat} (hs5 : s < 5) (i : Int32) (j : Nat) (hi : i.toInt = j) (hj : j < strL.getD s 0) (hs : HS h) (hQ : Q (some (.int ((strB.getD s []).getD j 0))) h) : Ends X (dp + 1 + 1 + 1 + 1) 210 0 [.ref (OLDB + 3 + s), .int i] [] h Q := by
  have hl := sl_rng s hs5
  have en : (Int32.ofNat (strL.getD s 0)).toInt = strL.getD s 0 := Int32.toInt_ofNat_of_lt (by omega)
  have ib : inB i (strL.getD s 0) = true := inB_iff (by omega) (by omega)
  refine w_sch hs5 i hs (slat_ok hs5 hs ⟨_, rfl, hs, fun e => absurd e (by decide), fun _ => w_lch hs5 i hs (w_sci i _ hs (w_pci i _ hs ?_))⟩)
  refine ⟨fun e => ?_, fun e => ⟨fun e2 => ⟨_, rfl, hs, rfl, hs, ib, ?_⟩, fun e2 => ?_⟩⟩
  · exfalso
    have e : i.toInt < 0 := of_decide_eq_true (cI e)
    omega
  · have ej : i.toNatClampNeg = j := by show i.toInt.toNat = _; omega
    rw [ej, chr_val s hs5 j hj]
    exact ⟨chr_nar s hs5 j hj, _, rfl, hs, chr_nar s hs5 j hj, hQ⟩
  · exfalso
    have e2 : ¬ i.toInt < (Int32.ofNat (strL.getD s 0)).toInt := of_decide_eq_false (cI e2)
    omega
/-- the bytes of the s-th text -/
def sB (s : Nat) : List Int := (strB.getD s []).map (fun x => x.toInt)
theorem tka_go {s : Nat} (hs5 : s < 5) (T : Nat → Int) (n : Nat) (h0 : Hp) (hT : xT h0 = T) (hN : xN h0 = n)
    (hQ : ∀ (ok : Bool) h', HI h' → frm CWA h0 h' → (ok, xA h') = lstP T n (sB s) (xA h0) → Q (some (.int (b2i ok))) h') :
    ∀ (m j : Nat) (i : Int32) (h : Hp), HI h → frm CWA h0 h → i.toInt = j → j + m = strL.getD s 0 → lstP T n (sB s) (xA h0) = lstP T n ((sB s).drop j) (xA h) → Ends X (dp + 1 + 1 + 1 + 1 + 1) 51 2 [.ref 44, .ref (OLDB + 3 + s), .int i] [] h Q
  | m, j, i, h, hh, hf, hi, hm, he => by
    have hl := sl_rng s hs5
    have en : (Int32.ofNat (strL.getD s 0)).toInt = strL.getD s 0 := Int32.toInt_ofNat_of_lt (by omega)
    have lenB : (sB s).length = strL.getD s 0 := by
      match s, hs5 with
      | 0, _ => rfl
      | 1, _ => rfl
      | 2, _ => rfl
      | 3, _ => rfl
      | 4, _ => rfl
      | s + 5, h => omega
    refine w_tka1 hs5 i hh.hs (slen_ok hs5 hh.hs ⟨_, rfl, hh.hs, fun e => ?_, fun e => ?_⟩)
    · have e : (Int32.ofNat (strL.getD s 0)).toInt ≤ i.toInt := of_decide_eq_true (cI e)
      rw [List.drop_eq_nil_of_le (by omega)] at he
      exact hQ true h hh hf (by rw [he]; rfl)
    · have e : ¬ (Int32.ofNat (strL.getD s 0)).toInt ≤ i.toInt := of_decide_eq_false (cI e)
      have hj : j < strL.getD s 0 := by omega
      have cv : ∀ s, s < 5 → ∀ j, j < strL.getD s 0 → 0 ≤ ((strB.getD s []).getD j 0).toInt ∧ (sB s).drop j = ((strB.getD s []).getD j 0).toInt :: (sB s).drop (j + 1) := by decide
      obtain ⟨c1, c2⟩ := cv s hs5 j hj
      rw [c2, lst_cons] at he
      refine sch_ok hs5 i j hi hj hh.hs ⟨_, rfl, hh.hs, ct_ok _ c1 hh (fun h1 a1 a2 a3 => ⟨_, rfl, a1.hs, fun e2 => ?_, fun e2 => ?_⟩)⟩
      · have e2 := of_decide_eq_true (cn2 e2)
        rw [if_pos e2] at a3
        have eT : xT h = T := by rw [← hT]; exact xT_fr hf CWA_T
        have eN : xN h = n := by rw [← hN]; exact xN_fr hf rfl
        rw [eT, eN] at e2
        rw [if_pos e2] at he
        match m, hm with
        | 0, hm => omega
        | m + 1, hm => exact tka_go hs5 T n h0 hT hN hQ m (j + 1) (i + 1) h1 a1 (frm_trans hf a2) (by rw [i_add (by rw [i1]; omega) (by rw [i1]; omega), i1]; omega) (by omega) (by rw [he, a3])
      · have e2 := of_decide_eq_false (cz2 e2)
        rw [if_neg e2] at a3
        have eT : xT h = T := by rw [← hT]; exact xT_fr hf CWA_T
        have eN : xN h = n := by rw [← hN]; exact xN_fr hf rfl
        rw [eT, eN] at e2
        rw [if_neg e2] at he
        exact hQ false h1 a1 (frm_trans hf a2) (by rw [he, a3])
theorem tka_ok {s : Nat} (hs5 : s < 5) (hh : HI h) (hQ : ∀ (ok : Bool) h', HI h' → frm CWA h h' → (ok, xA h') = lstP (xT h) (xN h) (sB s) (xA h) → Q (some (.int (b2i ok))) h') : Ends X (dp + 1 + 1 + 1 + 1 + 1) 51 0 [.ref 44, .ref (OLDB + 3 + s), .retAddr 0] [] h Q :=
  w_tka0 hs5 hh.hs (tka_go hs5 (xT h) (xN h) h rfl rfl hQ (strL.getD s 0) 0 0 h hh frm_refl rfl (by omega) rfl)
/-! which of a text's bytes comes next -/
/-- where a byte first stands, from place j on -/
def idxP (c : Int) : List Int → Int → Int
  | [], _ => -1
  | x :: l, j => if x = c then j else idxP c l (j + 1)
theorem idx_cons (c x : Int) (l : List Int) (j : Int) : idxP c (x :: l) j = if x = c then j else idxP c l (j + 1) := rfl
theorem ioc_go {s : Nat} (hs5 : s < 5) (c f b : Int32) (t : Int32) (ht : t.toInt = strL.getD s 0) (hs : HS h) (hQ : ∀ r : Int32, r.toInt = idxP b.toInt (sB s) 0 → Q (some (.int r)) h) :
    ∀ (m j : Nat) (i : Int32), i.toInt = j → j + m = strL.getD s 0 → idxP b.toInt (sB s) 0 = idxP b.toInt ((sB s).drop j) j → Ends X dp 219 7 [.ref (OLDB + 8 + s), .int c, .int f, .int t, .int b, .int i] [] h Q
  | m, j, i, hi, hm, he => by
    have hl := sl_rng s hs5
    have lenB : (sB s).length = strL.getD s 0 := by
      match s, hs5 with
      | 0, _ => rfl
      | 1, _ => rfl
      | 2, _ => rfl
      | 3, _ => rfl
      | 4, _ => rfl
      | s + 5, h => omega
    refine w_ioc1 hs5 c f t b i hs ⟨fun e => ?_, fun e => ?_⟩
    · have e : t.toInt ≤ i.toInt := of_decide_eq_true (cI e)
      rw [List.drop_eq_nil_of_le (by omega)] at he
      exact hQ _ (by rw [he]; rfl)
    · have e : ¬ t.toInt ≤ i.toInt := of_decide_eq_false (cI e)
      have hj : j < strL.getD s 0 := by omega
      have cv : ∀ s, s < 5 → ∀ j, j < strL.getD s 0 → (sB s).drop j = ((strB.getD s []).getD j 0).toInt :: (sB s).drop (j + 1) := by decide
      have ej : i.toNatClampNeg = j := by show i.toInt.toNat = _; omega
      rw [cv s hs5 j hj, idx_cons] at he
      refine ⟨inB_iff (by omega) (by omega), ?_⟩
      rw [ej]
      refine ⟨fun e2 => ?_, fun e2 => ?_⟩
      · have e2 : ¬ ((strB.getD s []).getD j 0).toInt = b.toInt := of_decide_eq_true (cI e2)
        rw [if_neg e2] at he
        match m, hm with
        | 0, hm => omega
        | m + 1, hm => exact ioc_go hs5 c f b t ht hs hQ m (j + 1) (i + 1) (by rw [i_add (by rw [i1]; omega) (by rw [i1]; omega), i1]; omega) (by omega) he
      · have e2 : ¬ ¬ ((strB.getD s []).getD j 0).toInt = b.toInt := of_decide_eq_false (cI e2)
        rw [if_pos (Decidable.not_not.mp e2)] at he
        exact hQ i (by rw [hi, he])
theorem six_ok {s : Nat} (hs5 : s < 5) (c : Int32) (hc1 : 0 ≤ c.toInt) (hc2 : c.toInt ≤ 127) (hs : HS h) (hQ : ∀ r : Int32, r.toInt = idxP c.toInt (sB s) 0 → Q (some (.int r)) h) : Ends X (dp + 1 + 1 + 1) 211 0 [.ref (OLDB + 3 + s), .int c] [] h Q := by
  have hl := sl_rng s hs5
  have en : (Int32.ofNat (strL.getD s 0)).toInt = strL.getD s 0 := Int32.toInt_ofNat_of_lt (by omega)
  have h0 : 0 < strL.getD s 0 := by
    match s, hs5 with
    | 0, _ => decide
    | 1, _ => decide
    | 2, _ => decide
    | 3, _ => decide
    | 4, _ => decide
    | s + 5, h => omega
  have z0 : (0 : Int32).toInt = 0 := rfl
  have j255 : (255 : Int32).toInt = 255 := rfl
  have v8 : ∀ n, n < 128 → (Int32.ofNat n).toInt8.toInt32 = Int32.ofNat n := by decide
  have eb : c.toInt8.toInt32 = c := by
    have e := c_nat hc1 hc2
    rw [e.1]
    exact v8 _ e.2
  refine w_six hs5 c hs (w_sio hs5 c 0 hs (slat_ok hs5 hs ⟨_, rfl, hs, fun e => absurd e (by decide), fun _ => slen_ok hs5 hs ⟨_, rfl, hs, w_lio hs5 c 0 _ hs (w_can c hs ?_)⟩⟩))
  refine ⟨fun e => ?_, fun e => ⟨fun e2 => ?_, fun e2 => ⟨_, rfl, hs, fun _ => ?_, fun e3 => absurd e3 (by decide)⟩⟩⟩
  · exfalso
    have e : c.toInt < 0 := of_decide_eq_true (cI e)
    omega
  · exfalso
    have e2 : (255 : Int32).toInt < c.toInt := of_decide_eq_true (cI e2)
    omega
  · refine w_max 0 0 hs ⟨fun e => absurd e (by decide), fun _ => ⟨_, rfl, hs, w_min _ _ hs ?_⟩⟩
    have lt : condB .lt 0 (Int32.ofNat (strL.getD s 0)) = true := by
      match s, hs5 with
      | 0, _ => decide
      | 1, _ => decide
      | 2, _ => decide
      | 3, _ => decide
      | 4, _ => decide
      | s + 5, h => omega
    have go : ∀ {Q' : Option Value → Hp → Prop}, (∀ r : Int32, r.toInt = idxP c.toInt (sB s) 0 → Q' (some (.int r)) h) → Ends X dp 219 0 [.ref (OLDB + 8 + s), .int c, .int 0, .int (Int32.ofNat (strL.getD s 0)), .retAddr 0, .retAddr 0] [] h Q' := fun hq => by
      refine w_ioc0 hs5 c 0 _ hs ?_
      rw [eb]
      exact ioc_go hs5 c 0 c _ en hs hq (strL.getD s 0) 0 0 rfl (by omega) rfl
    exact ⟨fun _ => ⟨_, rfl, hs, fun _ => go (fun r hr => ⟨r, rfl, hs, r, rfl, hs, r, rfl, hs, hQ r hr⟩), fun e4 => (noc lt e4).elim⟩, fun _ => ⟨_, rfl, hs, fun _ => go (fun r hr => ⟨r, rfl, hs, r, rfl, hs, r, rfl, hs, hQ r hr⟩), fun e4 => (noc lt e4).elim⟩⟩
theorem idx_neg : ∀ s, s < 5 → idxP (-1) (sB s) 0 = -1 := by decide
theorem idx_ge : ∀ (c : Int) (l : List Int) (j : Int), 0 ≤ j → -1 ≤ idxP c l j
  | _, [], _, _ => Int.le_refl _
  | c, x :: l, j, hj => by
    unfold idxP
    split
    · omega
    · exact idx_ge c l (j + 1) (by omega)
theorem tko_ok {s : Nat} (hs5 : s < 5) (hh : HI h) (hQ : ∀ (r : Int32) h', HI h' → frm CWA h h' → r.toInt = idxP (nxP (xT h) (xN h) (xA h)) (sB s) 0 → xA h' = (if r.toInt < 0 then xA h else xA h + 1) → Q (some (.int r)) h') : Ends X (dp + 1 + 1 + 1 + 1) 52 0 [.ref 44, .ref (OLDB + 3 + s), .retAddr 0] [] h Q := by
  obtain ⟨a1, a2⟩ := xA_v hh
  obtain ⟨b1, b2⟩ := xN_v hh
  refine w_tko hs5 hh.hs (iw_ok hh ⟨_, rfl, hh.hs, fun e => ?_, fun e => ?_⟩)
  · have e := of_decide_eq_false (cz e)
    rw [nx_out e, idx_neg s hs5] at hQ
    exact hQ (-1) h hh frm_refl rfl (by rw [if_pos (by decide)])
  · have e := of_decide_eq_true (cn e)
    obtain ⟨g1, g2, g3⟩ := cadv hh e
    have v := xT_v hh (xA h)
    unfold xT at v
    have v16 : ∀ n, n < 128 → ((Int32.ofNat n).toUInt32 % 65536).toInt32 = Int32.ofNat n := by decide
    have ec : ((h.2.1 45 (h.2.1 44 2).toNatClampNeg).toUInt32 % 65536).toInt32 = h.2.1 45 (xA h) := by
      show ((h.2.1 45 (xA h)).toUInt32 % 65536).toInt32 = _
      have e := c_nat v.1 v.2
      rw [e.1]
      exact v16 _ e.2
    refine ⟨inB_iff (by omega) (by omega), ?_⟩
    rw [ec]
    rw [nx_in hh e] at hQ
    refine six_ok hs5 _ v.1 v.2 hh.hs (fun r hr => ⟨r, rfl, hh.hs, fun e2 => ?_, fun e2 => ?_⟩)
    · have e2 : r.toInt < 0 := of_decide_eq_true (cI e2)
      exact hQ r h hh frm_refl hr (by rw [if_pos e2])
    · have e2 : ¬ r.toInt < 0 := of_decide_eq_false (cI e2)
      exact hQ r _ g1 g2 hr (by rw [if_neg e2]; exact g3)
/-! numbers -/
theorem rn_go (nv : Int32) (d : Int32) (hh : HI h) (hd0 : 0 ≤ d.toInt) (hd : d.toInt < 2)
    (e0 : isD (nxP (xT h) (xN h) (xA h)) = false → Q (some (.int (if d.toInt = 0 then -1 else nv))) h)
    (e1 : isD (nxP (xT h) (xN h) (xA h)) = true → ∀ h', HI h' → frm CWA h h' → xA h' = xA h + 1 → Ends X (dp + 1) 45 4 [.ref 44, .int (((nv * 10) + (h.2.1 45 (xA h))) - 48), .int (d + 1)] [] h' Q) : Ends X (dp + 1) 45 4 [.ref 44, .int nv, .int d] [] h Q := by
  obtain ⟨a1, a2⟩ := xA_v hh
  obtain ⟨b1, b2⟩ := xN_v hh
  have z0 : (0 : Int32).toInt = 0 := rfl
  have j2 : (2 : Int32).toInt = 2 := rfl
  have j48 : (48 : Int32).toInt = 48 := rfl
  have j57 : (57 : Int32).toInt = 57 := rfl
  have no : isD (nxP (xT h) (xN h) (xA h)) = false → (condB .ne d 0 = true → Q (some (.int nv)) h) ∧ (condB .ne d 0 = false → Q (some (.int (-1))) h) := by
    intro q
    have q := e0 q
    refine ⟨fun e => ?_, fun e => ?_⟩
    · have e : ¬ d.toInt = (0 : Int32).toInt := of_decide_eq_true (cI e)
      rw [z0] at e
      rwa [if_neg e] at q
    · have e : ¬ ¬ d.toInt = (0 : Int32).toInt := of_decide_eq_false (cI e)
      rw [z0] at e
      rwa [if_pos (Decidable.not_not.mp e)] at q
  refine w_rn1 nv d hh.hs ⟨fun e => ?_, fun e => iw_ok hh ⟨_, rfl, hh.hs, fun e2 => ?_, fun e2 => ?_⟩⟩
  · exfalso
    have e : (2 : Int32).toInt ≤ d.toInt := of_decide_eq_true (cI e)
    omega
  · have e2 := of_decide_eq_false (cz e2)
    exact no (by rw [nx_out e2]; decide)
  · have e2 := of_decide_eq_true (cn e2)
    have ib : inB (h.2.1 44 2) 100 = true := inB_iff (by omega) (by omega)
    rw [nx_in hh e2] at no e1
    have en : (h.2.1 44 2).toNatClampNeg = xA h := rfl
    rw [en]
    refine ⟨ib, fun e3 => no ?_, fun e3 => ⟨ib, fun e4 => no ?_, fun e4 => ⟨ib, ?_⟩⟩⟩
    · have e3 : (h.2.1 45 (xA h)).toInt < 48 := of_decide_eq_true (cI e3)
      unfold isD
      rw [decide_eq_false (by omega : ¬ 48 ≤ (h.2.1 45 (xA h)).toInt), Bool.false_and]
    · have e4 : 57 < (h.2.1 45 (xA h)).toInt := of_decide_eq_true (cI e4)
      unfold isD
      rw [decide_eq_false (by omega : ¬ (h.2.1 45 (xA h)).toInt ≤ 57), Bool.and_false]
    · have e3 : ¬ (h.2.1 45 (xA h)).toInt < 48 := of_decide_eq_false (cI e3)
      have e4 : ¬ 57 < (h.2.1 45 (xA h)).toInt := of_decide_eq_false (cI e4)
      obtain ⟨g1, g2, g3⟩ := cadv hh e2
      exact e1 (by unfold isD; rw [decide_eq_true (by omega : 48 ≤ (h.2.1 45 (xA h)).toInt), decide_eq_true (by omega : (h.2.1 45 (xA h)).toInt ≤ 57)]; rfl) _ g1 g2 g3
theorem rn_end (nv d : Int32) (hd : d.toInt = 2) (hh : HI h) (hQ : Q (some (.int nv)) h) : Ends X (dp + 1) 45 4 [.ref 44, .int nv, .int d] [] h Q := by
  have z0 : (0 : Int32).toInt = 0 := rfl
  have j2 : (2 : Int32).toInt = 2 := rfl
  refine w_rn1 nv d hh.hs ⟨fun _ => ⟨fun _ => hQ, fun e => ?_⟩, fun e => ?_⟩
  · exfalso
    have e : ¬ ¬ d.toInt = (0 : Int32).toInt := of_decide_eq_false (cI e)
    omega
  · exfalso
    have e : ¬ (2 : Int32).toInt ≤ d.toInt := of_decide_eq_false (cI e)
    omega
theorem rn_ok (hh : HI h) (hQ : ∀ (r : Int32) h', HI h' → frm CWA h h' → (match numP (xT h) (xN h) (xA h) with | some (v, b) => r.toInt = v ∧ xA h' = b | none => r.toInt = -1 ∧ xA h' = xA h) → Q (some (.int r)) h') : Ends X (dp + 1) 45 0 [.ref 44, .retAddr 0, .retAddr 0] [] h Q := by
  have j48 : (48 : Int32).toInt = 48 := rfl
  have z0 : (0 : Int32).toInt = 0 := rfl
  unfold numP at hQ
  have dig : ∀ {h : Hp} {x : Int}, HI h → isD (nxP (xT h) (xN h) (xA h)) = true → (h.2.1 45 (xA h)).toInt = nxP (xT h) (xN h) (xA h) ∧ 48 ≤ nxP (xT h) (xN h) (xA h) ∧ nxP (xT h) (xN h) (xA h) ≤ 57 := by
    intro h x hh q
    unfold isD at q
    have q := band q
    have hl : xA h < xN h := by
      apply Decidable.byContradiction
      intro c
      rw [nx_out c] at q
      omega
    exact ⟨(nx_in hh hl).symm, q.1, q.2⟩
  refine w_rn0 hh.hs (rn_go 0 0 hh (by decide) (by decide) (fun q => ?_) (fun q h1 g1 g2 g3 => ?_))
  · rw [if_neg (by rw [q]; decide)] at hQ
    rw [if_pos z0]
    exact hQ (-1) h hh frm_refl ⟨rfl, rfl⟩
  · rw [if_pos q] at hQ
    obtain ⟨d1, d2, d3⟩ := dig (x := 0) hh q
    have eT : xT h1 = xT h := xT_fr g2 CWA_T
    have eN : xN h1 = xN h := xN_fr g2 rfl
    have v1 : (((0 : Int32) * 10) + (h.2.1 45 (xA h)) - 48).toInt = nxP (xT h) (xN h) (xA h) - 48 := by
      have m0 : (0 : Int32) * 10 = 0 := by decide
      rw [m0]
      have e1 : (0 + h.2.1 45 (xA h)).toInt = (h.2.1 45 (xA h)).toInt := by rw [i_add (by rw [z0]; omega) (by rw [z0]; omega), z0]; omega
      rw [i_sub (by rw [e1, j48]; omega) (by rw [e1, j48]; omega), e1, j48, d1]
    generalize ((0 : Int32) * 10) + (h.2.1 45 (xA h)) - 48 = u at v1 ⊢
    refine rn_go u (0 + 1) g1 (by decide) (by decide) (fun q2 => ?_) (fun q2 h2 k1 k2 k3 => ?_)
    · rw [eT, eN, g3] at q2
      rw [if_neg (by rw [q2]; decide)] at hQ
      rw [if_neg (by decide)]
      exact hQ u h1 g1 g2 ⟨v1, g3⟩
    · obtain ⟨c1, c2, c3⟩ := dig (x := 0) g1 q2
      rw [eT, eN, g3] at q2 c1 c2 c3
      rw [if_pos q2] at hQ
      have v2 : ((u * 10) + (h1.2.1 45 (xA h + 1)) - 48).toInt = 10 * (nxP (xT h) (xN h) (xA h) - 48) + (nxP (xT h) (xN h) (xA h + 1) - 48) := by
        have j10 : (10 : Int32).toInt = 10 := rfl
        have e0 : (u * 10).toInt = u.toInt * 10 := by rw [i_mul (by rw [j10]; omega) (by rw [j10]; omega), j10]
        have e1 : (u * 10 + h1.2.1 45 (xA h + 1)).toInt = (u * 10).toInt + (h1.2.1 45 (xA h + 1)).toInt := i_add (by omega) (by omega)
        rw [i_sub (by rw [e1, j48]; omega) (by rw [e1, j48]; omega), e1, j48]
        omega
      rw [g3]
      generalize (u * 10) + (h1.2.1 45 (xA h + 1)) - 48 = w at v2 ⊢
      exact rn_end w (0 + 1 + 1) (by decide) k1 (hQ w h2 k1 (frm_trans g2 k2) ⟨v2, by rw [k3, g3]⟩)
/-! words -/
def wdP (T : Nat → Int) (n a : Nat) : Int × Nat := if nxP T n a = 114 then (if (lstP T n (sB 0) (a + 1)).1 = true then 0 else -1, (lstP T n (sB 0) (a + 1)).2) else if nxP T n a = 104 then (if (lstP T n (sB 1) (a + 1)).1 = true then 1 else -1, (lstP T n (sB 1) (a + 1)).2) else if nxP T n a = 100 then (if (lstP T n (sB 2) (a + 1)).1 = true then 2 else -1, (lstP T n (sB 2) (a + 1)).2) else (-1, a)
theorem rw_ok (hh : HI h) (hQ : ∀ (r : Int32) h', HI h' → frm CWA h h' → r.toInt = (wdP (xT h) (xN h) (xA h)).1 → xA h' = (wdP (xT h) (xN h) (xA h)).2 → Q (some (.int r)) h') : Ends X (dp + 1 + 1 + 1 + 1 + 1 + 1) 44 0 [.ref 44] [] h Q := by
  unfold wdP at hQ
  have j114 : (114 : Int32).toInt = 114 := rfl
  have j104 : (104 : Int32).toInt = 104 := rfl
  have j100 : (100 : Int32).toInt = 100 := rfl
  refine w_rw hh.hs (ct_ok 114 (by decide) hh (fun h1 a1 a2 a3 => ⟨_, rfl, a1.hs, fun e => ?_, fun e => ?_⟩))
  · have e := of_decide_eq_false (cz e)
    rw [if_neg e] at a3
    rw [j114] at e
    rw [if_neg e] at hQ
    have eT : xT h1 = xT h := xT_fr a2 CWA_T
    have eN : xN h1 = xN h := xN_fr a2 rfl
    refine ct_ok 104 (by decide) a1 (fun h2 b1 b2 b3 => ⟨_, rfl, b1.hs, fun e => ?_, fun e => ?_⟩)
    · have e := of_decide_eq_false (cz e)
      rw [if_neg e] at b3
      rw [j104, eT, eN, a3] at e
      rw [if_neg e] at hQ
      have eT2 : xT h2 = xT h := (xT_fr b2 CWA_T).trans eT
      have eN2 : xN h2 = xN h := (xN_fr b2 rfl).trans eN
      refine ct_ok 100 (by decide) b1 (fun h3 c1 c2 c3 => ⟨_, rfl, c1.hs, fun e => ?_, fun e => ?_⟩)
      · have e := of_decide_eq_false (cz e)
        rw [if_neg e] at c3
        rw [j100, eT2, eN2, b3, a3] at e
        rw [if_neg e] at hQ
        exact hQ (-1) h3 c1 (frm_trans a2 (frm_trans b2 c2)) rfl (by rw [c3, b3, a3])
      · have e := of_decide_eq_true (cn e)
        rw [if_pos e] at c3
        rw [j100, eT2, eN2, b3, a3] at e
        rw [if_pos e] at hQ
        refine tka_ok (s := 2) (by decide) c1 (fun ok h4 d1 d2 d3 => ⟨_, rfl, d1.hs, fun e2 => ?_, fun e2 => ?_⟩)
        all_goals
          rw [xT_fr c2 CWA_T, xN_fr c2 rfl, eT2, eN2, c3, b3, a3] at d3
          rw [← d3] at hQ
        · have e2 := cz e2
          subst e2
          exact hQ (-1) h4 d1 (frm_trans a2 (frm_trans b2 (frm_trans c2 d2))) rfl rfl
        · have e2 := cn e2
          subst e2
          exact hQ 2 h4 d1 (frm_trans a2 (frm_trans b2 (frm_trans c2 d2))) rfl rfl
    · have e := of_decide_eq_true (cn e)
      rw [if_pos e] at b3
      rw [j104, eT, eN, a3] at e
      rw [if_pos e] at hQ
      refine tka_ok (s := 1) (by decide) b1 (fun ok h4 d1 d2 d3 => ⟨_, rfl, d1.hs, fun e2 => ?_, fun e2 => ?_⟩)
      all_goals
        rw [xT_fr b2 CWA_T, xN_fr b2 rfl, eT, eN, b3, a3] at d3
        rw [← d3] at hQ
      · have e2 := cz e2
        subst e2
        exact hQ (-1) h4 d1 (frm_trans a2 (frm_trans b2 d2)) rfl rfl
      · have e2 := cn e2
        subst e2
        exact hQ 1 h4 d1 (frm_trans a2 (frm_trans b2 d2)) rfl rfl
  · have e := of_decide_eq_true (cn e)
    rw [if_pos e] at a3
    rw [j114] at e
    rw [if_pos e] at hQ
    refine tka_ok (s := 0) (by decide) a1 (fun ok h4 d1 d2 d3 => ⟨_, rfl, d1.hs, fun e2 => ?_, fun e2 => ?_⟩)
    all_goals
      rw [xT_fr a2 CWA_T, xN_fr a2 rfl, a3] at d3
      rw [← d3] at hQ
    · have e2 := cz e2
      subst e2
      exact hQ (-1) h4 d1 (frm_trans a2 d2) rfl rfl
    · have e2 := cn e2
      subst e2
      exact hQ 0 h4 d1 (frm_trans a2 d2) rfl rfl
end CLV
end JN99tw2cleaves
