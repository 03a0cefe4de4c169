/-! Both objects as they are made. -/
def mk1 : Option (Option Value × Hp) := run0 3000 20 62 0 [.ref 0, .retAddr 0] [] (objNew hp0 6)
def hA : Hp := match mk1 with | some (_, h) => h | none => hp0
def mk2 : Option (Option Value × Hp) := run0 3000 20 108 0 [.ref 93] [] (objNew hA 7)
def hI0 : Hp := match mk2 with | some (_, h) => h | none => hp0
def cellOK (h : Hp) (a k : Nat) : Bool := decide ((ivl a k).1 ≤ (h.2.1 a k).toInt) && decide ((h.2.1 a k).toInt ≤ (ivl a k).2) && ((rst a k).isEmpty || (rst a k).any (fun b => decide (h.2.2.2 a k = some b)))
def cellsB (h : Hp) : Bool := (List.range 127).all (fun a => (List.range (match SHl[a]? with | some s => slen s | none => 0)).all (fun k => cellOK h a k))
def mk2B (r : Option (Option Value × Hp)) : Bool := match r with | some (none, h) => decide (h.1 = SHl) && cellsB h | _ => false
def mk1B (r : Option (Option Value × Hp)) : Bool := match r with | some (none, h) => decide (h.1.length = 93) && mk2B (run0 3000 20 108 0 [.ref 93] [] (objNew h 7)) | _ => false
/-- both starts and all cells in one go, so that each is run once -/
theorem mk_ok : mk1B mk1 = true := by decide +kernel
theorem mk1_got {r : Option (Option Value × Hp)} (h : mk1B r = true) : ∃ h1, r = some (none, h1) ∧ h1.1.length = 93 ∧ mk2B (run0 3000 20 108 0 [.ref 93] [] (objNew h1 7)) = true := by
  cases r with
  | none =>
    have h : false = true := h
    cases h
  | some q =>
    obtain ⟨v, h1⟩ := q
    cases v with
    | some v =>
      have h : false = true := h
      cases h
    | none =>
      have h : (decide (h1.1.length = 93) && mk2B (run0 3000 20 108 0 [.ref 93] [] (objNew h1 7))) = true := h
      obtain ⟨a, b⟩ := (Bool.and_eq_true _ _).mp h
      exact ⟨h1, rfl, of_decide_eq_true a, b⟩
theorem mk2_got {r : Option (Option Value × Hp)} (h : mk2B r = true) : ∃ h1, r = some (none, h1) ∧ h1.1 = SHl ∧ cellsB h1 = true := by
  cases r with
  | none =>
    have h : false = true := h
    cases h
  | some q =>
    obtain ⟨v, h1⟩ := q
    cases v with
    | some v =>
      have h : false = true := h
      cases h
    | none =>
      have h : (decide (h1.1 = SHl) && cellsB h1) = true := h
      obtain ⟨a, b⟩ := (Bool.and_eq_true _ _).mp h
      exact ⟨h1, rfl, of_decide_eq_true a, b⟩
theorem mk1_hA {h1 : Hp} (e : mk1 = some (none, h1)) : hA = h1 := by
  unfold hA
  simp only [e]
theorem mk2_hI {h1 : Hp} (e : mk2 = some (none, h1)) : hI0 = h1 := by
  unfold hI0
  simp only [e]
theorem mk_all : (mk1 = some (none, hA) ∧ hA.1.length = 93) ∧ (mk2 = some (none, hI0) ∧ hI0.1 = SHl) ∧ cellsB hI0 = true := by
  obtain ⟨h1, e1, n1, b⟩ := mk1_got mk_ok
  have e2 := mk1_hA e1
  subst e2
  have b : mk2B mk2 = true := b
  obtain ⟨h2, e3, n2, b2⟩ := mk2_got b
  have e4 := mk2_hI e3
  subst e4
  exact ⟨⟨e1, n1⟩, ⟨e3, n2⟩, b2⟩
theorem mk1_eq : mk1 = some (none, hA) ∧ hA.1.length = 93 := mk_all.1
theorem mk2_eq : mk2 = some (none, hI0) ∧ hI0.1 = SHl := mk_all.2.1
theorem hI_ZB : ZB hI0 := run0_ZB _ _ _ _ _ _ _ _ _ (ZB_new (run0_ZB _ _ _ _ _ _ _ _ _ (ZB_new ZB_0) mk1_eq.1)) mk2_eq.1
theorem cells_ok : (List.range 127).all (fun a => (List.range (match SHl[a]? with | some s => slen s | none => 0)).all (fun k => cellOK hI0 a k)) = true := mk_all.2.2
theorem outs_ok : (List.range 127).all (fun a => match SHl[a]? with | some (.inl _) => decide ((ivl a 0).1 ≤ 0) && decide (0 ≤ (ivl a 0).2) | some (.inr c) => decide ((IVT.getD a []).length ≤ vwN c) && decide ((RFT.getD a []).length ≤ vwN c) | none => false) = true := by decide +kernel
