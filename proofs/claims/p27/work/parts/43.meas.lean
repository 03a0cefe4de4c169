/-! The measure goes down. -/
theorem mcmp_ok {n : Nat} {B : Bd} {ρ : Nat → Int} {L0 L1 : List Value} {A0 A1 : List AV} {x y : Nat × Nat × Int} (hn : n = B.length) (hb : bOK ρ B) (g0 : x.1 = 0 ∨ tOK n ρ (A0.getD x.2.1 jT).2.1 (intV (L0.getD x.2.1 (.retAddr 0)))) (g1 : y.1 = 0 ∨ tOK n ρ (A1.getD y.2.1 jT).2.1 (intV (L1.getD y.2.1 (.retAddr 0)))) :
    (mcmp B x.1 x.2.2 (A0.getD x.2.1 jT).2.1 y.1 y.2.2 (A1.getD y.2.1 jT).2.1 = 0 → mOne L1 y = mOne L0 x) ∧ (mcmp B x.1 x.2.2 (A0.getD x.2.1 jT).2.1 y.1 y.2.2 (A1.getD y.2.1 jT).2.1 = 1 → mOne L1 y < mOne L0 x) := by
  subst hn
  obtain ⟨k0, a0, c0⟩ := x
  obtain ⟨k1, a1, c1⟩ := y
  simp only at g0 g1 ⊢
  generalize (A0.getD a0 jT).2.1 = t0 at g0 ⊢
  generalize (A1.getD a1 jT).2.1 = t1 at g1 ⊢
  generalize e0 : intV (L0.getD a0 (.retAddr 0)) = x0 at g0
  generalize e1 : intV (L1.getD a1 (.retAddr 0)) = x1 at g1
  match k0, k1 with
  | 0, 0 =>
    show ((if c0.toNat = c1.toNat then 0 else if c1.toNat < c0.toNat then 1 else 2) = 0 → c1.toNat = c0.toNat) ∧ ((if c0.toNat = c1.toNat then 0 else if c1.toNat < c0.toNat then 1 else 2) = 1 → c1.toNat < c0.toNat)
    constructor <;> intro h <;> split at h <;> first | omega | (split at h <;> omega)
  | 1, 1 =>
    have g0 : tOK B.length ρ t0 x0 := g0.resolve_left (by decide)
    have g1 : tOK B.length ρ t1 x1 := g1.resolve_left (by decide)
    have r1 := tOK_rg hb g1
    have v0 : x0 = rv ρ t0.1 + t0.2 := g0.2
    have v1 : x1 = rv ρ t1.1 + t1.2 := g1.2
    show ((if t0.1 = t1.1 then (if c0 - t0.2 = c1 - t1.2 then 0 else if c1 - t1.2 < c0 - t0.2 ∧ thi B t1 ≤ c1 then 1 else 2) else 2) = 0 → (c1 - intV (L1.getD a1 (.retAddr 0))).toNat = (c0 - intV (L0.getD a0 (.retAddr 0))).toNat) ∧
      ((if t0.1 = t1.1 then (if c0 - t0.2 = c1 - t1.2 then 0 else if c1 - t1.2 < c0 - t0.2 ∧ thi B t1 ≤ c1 then 1 else 2) else 2) = 1 → (c1 - intV (L1.getD a1 (.retAddr 0))).toNat < (c0 - intV (L0.getD a0 (.retAddr 0))).toNat)
    rw [e0, e1]
    by_cases hv : t0.1 = t1.1
    · rw [if_pos hv]
      rw [hv] at v0
      constructor <;> intro h <;> split at h <;> first | omega | (split at h <;> omega)
    · rw [if_neg hv]
      constructor <;> intro h <;> omega
  | 2, 2 =>
    have g0 : tOK B.length ρ t0 x0 := g0.resolve_left (by decide)
    have g1 : tOK B.length ρ t1 x1 := g1.resolve_left (by decide)
    have r1 := tOK_rg hb g1
    have v0 : x0 = rv ρ t0.1 + t0.2 := g0.2
    have v1 : x1 = rv ρ t1.1 + t1.2 := g1.2
    show ((if t0.1 = t1.1 then (if t0.2 - c0 = t1.2 - c1 then 0 else if t1.2 - c1 < t0.2 - c0 ∧ c1 ≤ tlo B t1 then 1 else 2) else 2) = 0 → (intV (L1.getD a1 (.retAddr 0)) - c1).toNat = (intV (L0.getD a0 (.retAddr 0)) - c0).toNat) ∧
      ((if t0.1 = t1.1 then (if t0.2 - c0 = t1.2 - c1 then 0 else if t1.2 - c1 < t0.2 - c0 ∧ c1 ≤ tlo B t1 then 1 else 2) else 2) = 1 → (intV (L1.getD a1 (.retAddr 0)) - c1).toNat < (intV (L0.getD a0 (.retAddr 0)) - c0).toNat)
    rw [e0, e1]
    by_cases hv : t0.1 = t1.1
    · rw [if_pos hv]
      rw [hv] at v0
      constructor <;> intro h <;> split at h <;> first | omega | (split at h <;> omega)
    · rw [if_neg hv]
      constructor <;> intro h <;> omega
  | 0, 1 => exact ⟨fun h => (by cases h), fun h => (by cases h)⟩
  | 0, k + 2 => exact ⟨fun h => (by cases h), fun h => (by cases h)⟩
  | 1, 0 => exact ⟨fun h => (by cases h), fun h => (by cases h)⟩
  | 1, k + 2 => exact ⟨fun h => (by cases h), fun h => (by cases h)⟩
  | 2, 0 => exact ⟨fun h => (by cases h), fun h => (by cases h)⟩
  | 2, 1 => exact ⟨fun h => (by cases h), fun h => (by cases h)⟩
  | 2, k + 3 => exact ⟨fun h => (by cases h), fun h => (by cases h)⟩
  | k + 3, 0 => exact ⟨fun h => (by cases h), fun h => (by cases h)⟩
  | k + 3, 1 => exact ⟨fun h => (by cases h), fun h => (by cases h)⟩
  | k + 3, 2 => exact ⟨fun h => (by cases h), fun h => (by cases h)⟩
  | k + 3, j + 3 => exact ⟨fun h => (by cases h), fun h => (by cases h)⟩
theorem mlt_ok {n0 : Nat} {B : Bd} {ρ0 ρ : Nat → Int} {L0 L1 : List Value} {A0 A1 : List AV} (hb : bOK ρ B) (h0 : al2 (vm n0 ρ0) A0 L0) (h1 : al2 (vm B.length ρ) A1 L1) (hn : n0 ≤ B.length) (he : ext n0 ρ0 ρ) :
    ∀ {l m : List (Nat × Nat × Int)}, mlt B A0 A1 l m = true → lxl (l.map (mOne L0)) (m.map (mOne L1))
  | x :: l, y :: m, h => by
    unfold mlt at h
    obtain ⟨h12, h3⟩ := (Bool.and_eq_true _ _).mp h
    obtain ⟨ha, hc⟩ := (Bool.and_eq_true _ _).mp h12
    have g0 : x.1 = 0 ∨ tOK B.length ρ (A0.getD x.2.1 jT).2.1 (intV (L0.getD x.2.1 (.retAddr 0))) := by
      rcases (Bool.or_eq_true _ _).mp ha with q | q
      · exact Or.inl (by simpa using q)
      · exact Or.inr (tOK_ext hn he (num_val h0 q))
    have g1 : y.1 = 0 ∨ tOK B.length ρ (A1.getD y.2.1 jT).2.1 (intV (L1.getD y.2.1 (.retAddr 0))) := by
      rcases (Bool.or_eq_true _ _).mp hc with q | q
      · exact Or.inl (by simpa using q)
      · exact Or.inr (num_val h1 q)
    obtain ⟨c0, c1⟩ := mcmp_ok (L0 := L0) (L1 := L1) (A0 := A0) (A1 := A1) (x := x) (y := y) rfl hb g0 g1
    split at h3
    · rename_i e
      exact Or.inr ⟨c0 e, mlt_ok hb h0 h1 hn he h3⟩
    · rename_i e
      refine Or.inl ⟨c1 e, ?_⟩
      have : l.length = m.length := by simpa using h3
      simp [this]
    · cases h3
  | [], _, h => by cases h
  | _ :: _, [], h => by cases h
