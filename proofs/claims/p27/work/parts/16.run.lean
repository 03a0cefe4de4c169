/-! A run of the pure machine is a run of the real one. -/
theorem putF_sh {o : List Nat} {st : List Value} {h : Hp} {q : List Value × Hp} (hg : putF o st h = some q) : q.2.1 = h.1 := by
  unfold putF at hg
  split at hg
  · split at hg
    · rename_i v a st2
      obtain ⟨-, hg⟩ := inv_if hg
      cases v with
      | int x =>
        obtain ⟨-, hg⟩ := inv_ifn hg
        obtain ⟨-, hg⟩ := inv_ifn hg
        cases hg
        rfl
      | ref b =>
        obtain ⟨-, hg⟩ := inv_if hg
        cases hg
        rfl
      | _ => cases hg
    · cases hg
  · cases hg
theorem copyA_sh {st : List Value} {h : Hp} {q : List Value × Hp} (hg : copyA st h = some q) : q.2.1 = h.1 := by
  unfold copyA at hg
  split at hg
  · obtain ⟨-, hg⟩ := inv_if hg
    split at hg
    · obtain ⟨-, hg⟩ := inv_if hg
      split at hg
      · cases hg
        rfl
      · obtain ⟨-, hg⟩ := inv_if hg
        cases hg
        rfl
    · cases hg
  · cases hg
theorem hstep_sh {X : Scr} {i : Instr} {o : List Nat} {pc pc' : Nat} {L st L' st' : List Value} {h h' : Hp} (hh : hstep X i o pc L st h = some (pc', L', st', h')) : ∃ l, h'.1 = h.1 ++ l := by
  have same : h'.1 = h.1 → ∃ l, h'.1 = h.1 ++ l := fun e => ⟨[], by rw [e, List.append_nil]⟩
  have pure : (pstep i o pc L st).map (fun q => (q.1, q.2.1, q.2.2, h)) = some (pc', L', st', h') → ∃ l, h'.1 = h.1 ++ l := by
    intro hp
    obtain ⟨q, -, hp2⟩ := Option.map_eq_some_iff.mp hp
    cases hp2
    exact same rfl
  cases i with
  | getfield idx =>
    obtain ⟨st1, hg, hp2⟩ := Option.map_eq_some_iff.mp (show (getF o st h).map (fun st' => (pc + 3, L, st', h)) = some (pc', L', st', h') from hh)
    cases hp2
    exact same rfl
  | putfield idx =>
    obtain ⟨⟨st1, h1⟩, hg, hp2⟩ := Option.map_eq_some_iff.mp (show (putF o st h).map (fun q => (pc + 3, L, q.1, q.2)) = some (pc', L', st', h') from hh)
    cases hp2
    exact same (putF_sh hg)
  | getstatic idx =>
    simp only [hstep] at hh
    split at hh <;> first | (cases hh; exact same rfl) | cases hh
  | arraylength =>
    simp only [hstep] at hh
    repeat' split at hh
    all_goals first | (cases hh; exact same rfl) | cases hh
  | iaload =>
    simp only [hstep] at hh
    repeat' split at hh
    all_goals first | (cases hh; exact same rfl) | cases hh
  | baload =>
    simp only [hstep] at hh
    repeat' split at hh
    all_goals first | (cases hh; exact same rfl) | cases hh
  | laload =>
    simp only [hstep] at hh
    repeat' split at hh
    all_goals first | (cases hh; exact same rfl) | cases hh
  | aaload =>
    simp only [hstep] at hh
    repeat' split at hh
    all_goals first | (cases hh; exact same rfl) | cases hh
  | iastore =>
    simp only [hstep] at hh
    repeat' split at hh
    all_goals first | (cases hh; exact same rfl) | cases hh
  | bastore =>
    simp only [hstep] at hh
    repeat' split at hh
    all_goals first | (cases hh; exact same rfl) | cases hh
  | lastore =>
    simp only [hstep] at hh
    repeat' split at hh
    all_goals first | (cases hh; exact same rfl) | cases hh
  | aastore =>
    simp only [hstep] at hh
    repeat' split at hh
    all_goals first | (cases hh; exact same rfl) | cases hh
  | new idx =>
    simp only [hstep] at hh
    repeat' split at hh
    all_goals first | (cases hh; exact ⟨_, rfl⟩) | cases hh
  | newarray ty =>
    simp only [hstep] at hh
    repeat' split at hh
    all_goals first | (cases hh; exact ⟨_, rfl⟩) | cases hh
  | anewarray idx =>
    simp only [hstep] at hh
    repeat' split at hh
    all_goals first | (cases hh; exact ⟨_, rfl⟩) | cases hh
  | multianewarray idx d =>
    simp only [hstep] at hh
    repeat' split at hh
    all_goals first | (cases hh; exact ⟨_, rfl⟩) | cases hh
  | invokespecial idx =>
    simp only [hstep] at hh
    repeat' split at hh
    all_goals first | (cases hh; exact same rfl) | cases hh
  | invokestatic idx =>
    simp only [hstep] at hh
    split at hh
    · obtain ⟨⟨st1, h1⟩, hg, hp2⟩ := Option.map_eq_some_iff.mp hh
      cases hp2
      exact same (copyA_sh hg)
    · cases hh
  | _ => exact pure hh
theorem retO_h {y : Nat} {i : Instr} {st : List Value} {h h' : Hp} {v : Option Value} (hr : retO y i st h = some (some (v, h'))) : h' = h := by
  unfold retO at hr
  split at hr
  · have hr := Option.some.inj hr
    unfold retI at hr
    repeat' split at hr
    all_goals first | (cases hr; rfl) | cases hr
  · have hr := Option.some.inj hr
    unfold retL at hr
    repeat' split at hr
    all_goals first | (cases hr; rfl) | cases hr
  · have hr := Option.some.inj hr
    unfold retV at hr
    repeat' split at hr
    all_goals first | (cases hr; rfl) | cases hr
  · cases hr
theorem run_sh {X : Scr} : ∀ (n dp y pc : Nat) (L st : List Value) (h : Hp) (v : Option Value) (h' : Hp), run X n dp y pc L st h = some (v, h') → ∃ l, h'.1 = h.1 ++ l
  | 0, _, _, _, _, _, _, _, _, hr => by cases hr
  | n + 1, dp, y, pc, L, st, h, v, h', hr => by
    rw [run] at hr
    split at hr
    · cases hr
    · rename_i pc0 i len o he
      split at hr
      · rename_i r hret
        subst hr
        rw [retO_h hret]
        exact ⟨[], (List.append_nil _).symm⟩
      · split at hr
        · rename_i c na kd hc
          split at hr
          · cases hr
          · rename_i dp'
            obtain ⟨-, hr⟩ := inv_if hr
            split at hr
            · rename_i rv h1 h1e
              obtain ⟨l1, e1⟩ := run_sh n _ _ _ _ _ _ _ _ h1e
              obtain ⟨l2, e2⟩ := run_sh n _ _ _ _ _ _ _ _ hr
              exact ⟨l1 ++ l2, by rw [e2, e1, List.append_assoc]⟩
            · cases hr
        · split at hr
          · rename_i pc' L' st' h1 h1e
            obtain ⟨l1, e1⟩ := hstep_sh h1e
            obtain ⟨l2, e2⟩ := run_sh n _ _ _ _ _ _ _ _ hr
            exact ⟨l1 ++ l2, by rw [e2, e1, List.append_assoc]⟩
          · cases hr
