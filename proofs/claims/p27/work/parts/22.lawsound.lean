/-- the empty heap -/
def hp0 : Hp := ([], fun _ _ => 0, fun _ _ => 0, fun _ _ => none)
theorem own_tbl (s : State) {args : Array Value} (hts : ∀ q ∈ lw_tbl, q.before args s = true) : ∀ q ∈ BIGG, q.before args s = true := fun q hq => hts q (BIGG_tbl q hq)
theorem nest_tbl (s : State) {args : Array Value} (hts : ∀ q ∈ lw_tbl, q.before args s = true) : NestW s := by
  intro q hq
  obtain ⟨h1, h2⟩ := List.mem_filter.mp hq
  have h3 := hts q (List.mem_append_right _ h1)
  cases q with
  | fieldLinkNest a i b n d x => exact va_Nw.of rfl h3
  | methodLinkNest a i x hh => exact va_Nw.of rfl h3
  | _ => cases h2
/-- the classes' numbers and slots, the array classes -/
theorem kn_tbl (s : State) {args : Array Value} (hts : ∀ q ∈ BIGG, q.before args s = true) (hAO : va_AO RX5 s) (hAA : vz_AOA .long s) : ∃ (D : va_G) (cA : Nat → ClassId), ∀ (b : Nat) (o : Nat → Nat) (z : Value) (X : Scr), va_K D vwCl (tysW (b, D, cA, o, z, X)) s := by
  have h1 : ∀ k : Nat, ∃ q : ClassId × (Nat → Nat), k < 8 → u_Kn s (vwC k) (vwT k) (vwN k) q.1 q.2 := by
    intro k
    by_cases hk : k < 8
    · obtain ⟨c, i, h⟩ := u_known (C := vwC k) (T := vwT k) (N := vwN k) (n := vwN k) hts (cls_ws k hk) (hts _ (cls_ins k hk))
      exact ⟨(c, i), fun _ => h⟩
    · exact ⟨(0, fun _ => 0), fun h => absurd h hk⟩
  obtain ⟨f, hf⟩ := Classical.axiomOfChoice h1
  obtain ⟨a0, k0, c0, e0, f0, g0⟩ := Cond.arrayClass_spec (hts _ arc_int)
  obtain ⟨a1, k1, c1, e1, f1, g1⟩ := Cond.arrayClass_spec (hts _ arc_long)
  obtain ⟨a2, k2, c2, e2, f2, g2⟩ := Cond.arrayClass_spec (hts _ arc_bool)
  obtain ⟨c3, a3, k3, d3, -, f3, g3, e3⟩ := Cond.arrayOver_spec hAO
  obtain ⟨c4, a4, k4, d4, -, f4, g4, e4⟩ := arrayOverA_spec hAA
  refine ⟨(fun k => (f k).1, fun k => (f k).2), fun t => match t with | 0 => a0 | 1 => a1 | 2 => a2 | 3 => a3 | _ => a4, fun b o z X => ⟨fun k q hq => ?_, fun k q hq => ?_⟩⟩
  · have hk : k < 8 := (List.getElem?_eq_some_iff.mp hq).1
    have := cls_tab k hk
    rw [hq] at this
    cases this
    exact hf k hk
  · match k, hq with
    | 0, hq => cases hq; exact ⟨fun n z => ⟨fun k h => (by cases h), k0, f0, c0, g0⟩, e0⟩
    | 1, hq => cases hq; exact ⟨fun n z => ⟨fun k h => (by cases h), k1, f1, c1, g1⟩, e1⟩
    | 2, hq => cases hq; exact ⟨fun n z => ⟨fun k h => (by cases h), k2, f2, c2, g2⟩, e2⟩
    | 3, hq => cases hq; exact ⟨fun n z => ⟨fun k h => (by cases h), k3, f3, c3, g3⟩, k3, c3, f3, g3, d3, e3⟩
    | 4, hq => cases hq; exact ⟨fun n z => ⟨fun k h => (by cases h), k4, f4, c4, g4⟩, e4⟩
    | k + 5, hq => simp [tysW] at hq
