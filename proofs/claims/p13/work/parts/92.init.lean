/-! Both objects as they are made. -/
def mk1 : Option (Option Value × Hp) := run0 3000 20 62 0 [.ref 0, .retAddr 0] [] (objNew hp0 6)
theorem mk1_ok : (match mk1 with | some (none, h) => decide (h.1.length = 93) | _ => false) = true := by decide +kernel
def hA : Hp := match mk1 with | some (_, h) => h | none => hp0
theorem mk1_eq : mk1 = some (none, hA) ∧ hA.1.length = 93 := by
  have h := mk1_ok
  unfold hA
  split at h
  · rename_i h1 e
    rw [e]
    exact ⟨rfl, of_decide_eq_true h⟩
  · cases h
def mk2 : Option (Option Value × Hp) := run0 3000 20 108 0 [.ref 93] [] (objNew hA 7)
theorem mk2_ok : (match mk2 with | some (none, h) => decide (h.1 = SHl) | _ => false) = true := by decide +kernel
def hI0 : Hp := match mk2 with | some (_, h) => h | none => hp0
theorem mk2_eq : mk2 = some (none, hI0) ∧ hI0.1 = SHl := by
  have h := mk2_ok
  unfold hI0
  split at h
  · rename_i h1 e
    rw [e]
    exact ⟨rfl, of_decide_eq_true h⟩
  · cases h
theorem hI_ZB : ZB hI0 := run0_ZB _ _ _ _ _ _ _ _ _ (ZB_new (run0_ZB _ _ _ _ _ _ _ _ _ (ZB_new ZB_0) mk1_eq.1)) mk2_eq.1
def cellOK (h : Hp) (a k : Nat) : Bool := decide ((ivl a k).1 ≤ (h.2.1 a k).toInt) && decide ((h.2.1 a k).toInt ≤ (ivl a k).2) && ((rst a k).isEmpty || (rst a k).any (fun b => decide (h.2.2.2 a k = some b)))
theorem cells_ok : (List.range 127).all (fun a => (List.range (match SHl[a]? with | some s => slen s | none => 0)).all (fun k => cellOK hI0 a k)) = true := by decide +kernel
theorem outs_ok : (List.range 127).all (fun a => match SHl[a]? with | some (.inl _) => decide ((ivl a 0).1 ≤ 0) && decide (0 ≤ (ivl a 0).2) | some (.inr c) => decide ((IVT.getD a []).length ≤ vwN c) && decide ((RFT.getD a []).length ≤ vwN c) | none => false) = true := by decide +kernel
