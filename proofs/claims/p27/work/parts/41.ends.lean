/-! Coming to an end. -/
theorem run_mono {X : Scr} : ∀ (n dp y pc : Nat) (L st : List Value) (h : Hp) (r : Option Value × Hp), run X n dp y pc L st h = some r → run X (n + 1) dp y pc L st h = some r
  | 0, _, _, _, _, _, _, _, hr => by cases hr
  | n + 1, dp, y, pc, L, st, h, r, hr => by
    rw [run] at hr ⊢
    split at hr
    · cases hr
    · rename_i pc0 i len o he
      try rw [he]
      try simp only
      split at hr
      · rename_i q hq
        try rw [hq]
        exact hr
      · rename_i hq
        try rw [hq]
        try simp only
        split at hr
        · rename_i c na kd hc
          try rw [hc]
          try simp only
          split at hr
          · cases hr
          · rename_i dp'
            obtain ⟨hok, hr⟩ := inv_if hr
            try simp only
            rw [if_pos hok]
            split at hr
            · rename_i rv h1 h1e
              rw [run_mono n _ _ _ _ _ _ _ h1e]
              exact run_mono n _ _ _ _ _ _ _ hr
            · cases hr
        · rename_i hc
          try rw [hc]
          try simp only
          split at hr
          · rename_i pc' L' st' h1 h1e
            try rw [h1e]
            exact run_mono n _ _ _ _ _ _ _ hr
          · cases hr
theorem run_le {X : Scr} {n m dp y pc : Nat} {L st : List Value} {h : Hp} {r : Option Value × Hp} (hnm : n ≤ m) (hr : run X n dp y pc L st h = some r) : run X m dp y pc L st h = some r := by
  induction hnm with
  | refl => exact hr
  | step _ ih => exact run_mono _ _ _ _ _ _ _ _ ih
def Ends (X : Scr) (dp y pc : Nat) (L st : List Value) (h : Hp) (Q : Option Value → Hp → Prop) : Prop := ∃ (n : Nat) (v : Option Value) (h' : Hp), run X n dp y pc L st h = some (v, h') ∧ Q v h'
theorem Ends.mono {X : Scr} {dp y pc : Nat} {L st : List Value} {h : Hp} {Q Q' : Option Value → Hp → Prop} (e : Ends X dp y pc L st h Q) (hq : ∀ v h', Q v h' → Q' v h') : Ends X dp y pc L st h Q' := by
  obtain ⟨n, v, h', hr, h1⟩ := e
  exact ⟨n, v, h', hr, hq v h' h1⟩
theorem Ends.ret {X : Scr} {dp y pc pc0 len : Nat} {i : Instr} {o : List Nat} {L st : List Value} {h : Hp} {Q : Option Value → Hp → Prop} {v : Option Value} (he : pAt y pc = some (pc0, i, len, o)) (hr : retO y i st h = some (some (v, h))) (hq : Q v h) : Ends X dp y pc L st h Q := by
  refine ⟨1, v, h, ?_, hq⟩
  rw [run, he]
  simp only
  rw [hr]
theorem Ends.step {X : Scr} {dp y pc pc0 len pc' : Nat} {i : Instr} {o : List Nat} {L st L' st' : List Value} {h h' : Hp} {Q : Option Value → Hp → Prop} (he : pAt y pc = some (pc0, i, len, o)) (hr : retO y i st h = none) (hc : callO i o = none) (hs : hstep X i o pc L st h = some (pc', L', st', h')) (e : Ends X dp y pc' L' st' h' Q) : Ends X dp y pc L st h Q := by
  obtain ⟨n, v, h2, h1, hq⟩ := e
  refine ⟨n + 1, v, h2, ?_, hq⟩
  rw [run, he]
  simp only
  rw [hr]
  simp only
  rw [hc]
  simp only
  rw [hs]
  exact h1
theorem Ends.call {X : Scr} {dp y pc pc0 len c na kd : Nat} {i : Instr} {o : List Nat} {L st : List Value} {h : Hp} {Q : Option Value → Hp → Prop} (he : pAt y pc = some (pc0, i, len, o)) (hr : retO y i st h = none) (hc : callO i o = some (c, na, kd)) (hok : callOK c na kd st h = true)
    (e : Ends X dp c 0 (entL (mMaxL c) (st.take na).reverse) [] h (fun rv h1 => Ends X (dp + 1) y (pc + 3) L (rv.toList ++ st.drop na) h1 Q)) : Ends X (dp + 1) y pc L st h Q := by
  obtain ⟨n, v, h2, h1, m, w, h3, h4, hq⟩ := e
  refine ⟨max n m + 1, w, h3, ?_, hq⟩
  rw [run, he]
  simp only
  rw [hr]
  simp only
  rw [hc]
  simp only
  rw [if_pos hok, run_le (Nat.le_max_left n m) h1]
  exact run_le (Nat.le_max_right n m) h4
/-- induction over lists of numbers of one length, the first place first -/
def lxl : List Nat → List Nat → Prop
  | a :: l, b :: m => (b < a ∧ m.length = l.length) ∨ (b = a ∧ lxl l m)
  | _, _ => False
theorem lx_ind {P : List Nat → Prop} (n : Nat) : ∀ (l : List Nat), l.length = n → (∀ l, l.length = n → (∀ m, m.length = n → lxl l m → P m) → P l) → P l := by
  induction n generalizing P with
  | zero =>
    intro l hl hP
    refine hP l hl (fun m _ hm => ?_)
    cases l with
    | nil => exact hm.elim
    | cons a l => simp at hl
  | succ n ih =>
    intro l hl hP
    have key : ∀ (a : Nat) (l : List Nat), l.length = n → P (a :: l) := by
      intro a
      induction a using Nat.strongRecOn with
      | ind a iha =>
        intro l hl
        refine ih (P := fun l => P (a :: l)) l hl (fun l hl hm => ?_)
        refine hP (a :: l) (by simp [hl]) (fun m hml hlx => ?_)
        cases m with
        | nil => exact hlx.elim
        | cons b m =>
          rcases hlx with ⟨h1, h2⟩ | ⟨rfl, h2⟩
          · exact iha b h1 m (h2.trans hl)
          · exact hm m (by simpa using hml) h2
    cases l with
    | nil => simp at hl
    | cons a l => exact key a l (by simpa using hl)
/-! patterns -/
theorem sub_ok {n : Nat} {ρ ρ' : Nat → Int} {σ : List Tm} (hσ : ∀ v, v < σ.length → tOK n ρ (σ.getD v (0, 0)) (ρ' v)) {t : Tm} {x : Int} (ht : t.1 ≤ σ.length) (h : tOK n ρ (sub σ t) x) : tOK σ.length ρ' t x := by
  obtain ⟨k, c⟩ := t
  refine ⟨ht, ?_⟩
  cases k with
  | zero => exact h.2
  | succ v =>
    have h1 := (hσ v ht).2
    have h2 := h.2
    show x = ρ' v + c
    rw [h1]
    have h3 : x = rv ρ (σ.getD v (0, 0)).1 + ((σ.getD v (0, 0)).2 + c) := h2
    show x = rv ρ (σ.getD v (0, 0)).1 + (σ.getD v (0, 0)).2 + c
    omega
theorem sub_ok2 {n : Nat} {ρ ρ' : Nat → Int} {σ : List Tm} (hσ : ∀ v, v < σ.length → tOK n ρ (σ.getD v (0, 0)) (ρ' v)) {t : Tm} {x : Int} (h : tOK σ.length ρ' t x) : tOK n ρ (sub σ t) x := by
  obtain ⟨k, c⟩ := t
  cases k with
  | zero => exact ⟨Nat.zero_le _, h.2⟩
  | succ v =>
    have h1 := hσ v h.1
    have h2 : x = ρ' v + c := h.2
    have h3 : ρ' v = rv ρ (σ.getD v (0, 0)).1 + (σ.getD v (0, 0)).2 := h1.2
    refine ⟨h1.1, ?_⟩
    show x = rv ρ (σ.getD v (0, 0)).1 + ((σ.getD v (0, 0)).2 + c)
    omega
theorem bdLe_len {B : Bd} : ∀ {σ : List Tm} {C : Bd}, bdLe B σ C = true → σ.length = C.length
  | [], [], _ => rfl
  | t :: σ, q :: C, h => by
    have := bdLe_len ((Bool.and_eq_true _ _).mp h).2
    simp [this]
  | [], _ :: _, h => by cases h
  | _ :: _, [], h => by cases h
theorem bdLe_ok {B : Bd} : ∀ {σ : List Tm} {C : Bd}, bdLe B σ C = true → ∀ v, v < σ.length → ∃ q, C[v]? = some q ∧ rngOK (trg B (σ.getD v (0, 0))) q = true
  | t :: σ, q :: C, h, 0, _ => ⟨q, rfl, ((Bool.and_eq_true _ _).mp h).1⟩
  | t :: σ, q :: C, h, v + 1, hv => by
    obtain ⟨p, h1, h2⟩ := bdLe_ok ((Bool.and_eq_true _ _).mp h).2 v (by simpa using hv)
    exact ⟨p, by simpa using h1, by simpa using h2⟩
  | [], _, _, _, hv => absurd hv (by simp)
  | _ :: _, [], h, _, _ => by cases h
/-- terms give numbers to the pattern's variables -/
theorem bd_of {B : Bd} {ρ ρ' : Nat → Int} {σ : List Tm} {C : Bd} (hb : bOK ρ B) (hσ : ∀ v, v < σ.length → tOK B.length ρ (σ.getD v (0, 0)) (ρ' v)) (h : bdLe B σ C = true) : bOK ρ' C := by
  intro v q hq
  have hv : v < σ.length := by rw [bdLe_len h]; exact (List.getElem?_eq_some_iff.mp hq).1
  obtain ⟨p, h1, h2⟩ := bdLe_ok h v hv
  cases hq.symm.trans h1
  have := tOK_rg hb (hσ v hv)
  exact rng_ok h2 this.1 this.2
