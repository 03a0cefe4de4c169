/-! Runs that don't look at the script: the constructors. -/
def X0 : Scr := (0, fun _ => 0)
/-- the instruction looks at the script -/
def looks (i : Instr) (st : List Value) : Bool := match i with
  | .iaload => (match st with | _ :: .ref a :: _ => !decide (a < OLDB) | _ => false)
  | .baload => (match st with | _ :: .ref a :: _ => !decide (a < OLDB) | _ => false)
  | .arraylength => (match st with | .ref a :: _ => !decide (a < OLDB) | _ => false)
  | .invokestatic _ => true
  | _ => false
def run0 : Nat → Nat → Nat → Nat → List Value → List Value → Hp → Option (Option Value × Hp)
  | 0, _, _, _, _, _, _ => none
  | n + 1, dp, y, pc, L, st, h => match pAt y pc with
    | none => none
    | some (_, i, _, o) => match retO y i st h with
      | some r => r
      | none => match callO i o with
        | some (c, na, kd) => (match dp with
          | 0 => none
          | dp' + 1 => if callOK c na kd st h = true then
              (match run0 n dp' c 0 (entL (mMaxL c) (st.take na).reverse) [] h with
              | some (rv, h1) => run0 n (dp' + 1) y (pc + 3) L (rv.toList ++ st.drop na) h1
              | none => none)
            else none)
        | none => if looks i st = true then none else match hstep X0 i o pc L st h with
          | some (pc', L', st', h') => run0 n dp y pc' L' st' h'
          | none => none
theorem hs_ia {X : Scr} {o : List Nat} {pc : Nat} {L r : List Value} {h : Hp} {j : Int32} {a : Nat} (ha : a < OLDB) : hstep X .iaload o pc L (.int j :: .ref a :: r) h = hstep X0 .iaload o pc L (.int j :: .ref a :: r) h := by
  simp only [hstep]
  rw [if_pos ha, if_pos ha]
theorem hs_ba {X : Scr} {o : List Nat} {pc : Nat} {L r : List Value} {h : Hp} {j : Int32} {a : Nat} (ha : a < OLDB) : hstep X .baload o pc L (.int j :: .ref a :: r) h = hstep X0 .baload o pc L (.int j :: .ref a :: r) h := by
  simp only [hstep]
  rw [if_pos ha, if_pos ha]
theorem hs_al {X : Scr} {o : List Nat} {pc : Nat} {L r : List Value} {h : Hp} {a : Nat} (ha : a < OLDB) : hstep X .arraylength o pc L (.ref a :: r) h = hstep X0 .arraylength o pc L (.ref a :: r) h := by
  simp only [hstep]
  rw [if_pos ha, if_pos ha]
theorem hstep_X {X : Scr} {i : Instr} {o : List Nat} {pc : Nat} {L st : List Value} {h : Hp} (hl : looks i st = false) : hstep X i o pc L st h = hstep X0 i o pc L st h := by
  cases i with
  | iaload =>
    cases st with
    | nil => rfl
    | cons v st =>
      cases v with
      | int j =>
        cases st with
        | nil => rfl
        | cons w st =>
          cases w with
          | ref a => exact hs_ia (by simpa [looks] using hl)
          | _ => rfl
      | _ => rfl
  | baload =>
    cases st with
    | nil => rfl
    | cons v st =>
      cases v with
      | int j =>
        cases st with
        | nil => rfl
        | cons w st =>
          cases w with
          | ref a => exact hs_ba (by simpa [looks] using hl)
          | _ => rfl
      | _ => rfl
  | arraylength =>
    cases st with
    | nil => rfl
    | cons v st =>
      cases v with
      | ref a => exact hs_al (by simpa [looks] using hl)
      | _ => rfl
  | _ => rfl
theorem run0_run {X : Scr} : ∀ (n dp y pc : Nat) (L st : List Value) (h : Hp) (r : Option Value × Hp), run0 n dp y pc L st h = some r → run X n dp y pc L st h = some r
  | 0, _, _, _, _, _, _, _, hr => by cases hr
  | n + 1, dp, y, pc, L, st, h, r, hr => by
    rw [run0] at hr
    rw [run]
    split at hr
    · cases hr
    · rename_i pc0 i len o he
      rw [he]
      simp only
      split at hr
      · rename_i q hq
        rw [hq]
        exact hr
      · rename_i hq
        rw [hq]
        simp only
        split at hr
        · rename_i c na kd hc
          rw [hc]
          simp only
          split at hr
          · cases hr
          · rename_i dp'
            obtain ⟨hok, hr⟩ := inv_if hr
            simp only
            rw [if_pos hok]
            split at hr
            · rename_i rv h1 h1e
              rw [run0_run n _ _ _ _ _ _ _ h1e]
              exact run0_run n _ _ _ _ _ _ _ hr
            · cases hr
        · rename_i hc
          rw [hc]
          simp only
          obtain ⟨hl, hr⟩ := inv_ifn hr
          rw [hstep_X (by simpa using hl)]
          split at hr
          · rename_i pc' L' st' h1 h1e
            rw [h1e]
            exact run0_run n _ _ _ _ _ _ _ hr
          · cases hr
/-- the places of a shape -/
def slen : Sh → Nat
  | .inl (_, n) => n
  | .inr c => vwN c
def outB (h : Hp) (a k : Nat) : Prop := match h.1[a]? with
  | some s => slen s ≤ k
  | none => True
/-- what lies outside of all is nothing -/
def ZB (h : Hp) : Prop := ∀ a k, outB h a k → h.2.1 a k = 0 ∧ h.2.2.1 a k = 0 ∧ h.2.2.2 a k = none
theorem ZB_in {h : Hp} {a i : Nat} {f : Nat → Nat → Int32} (hz : ZB h) (hs : ∀ b k, ¬ (b = a ∧ k = i) → f b k = h.2.1 b k) (hi : ¬ outB h a i) : ZB (h.1, f, h.2.2.1, h.2.2.2) := by
  intro b k ho
  have ho : outB h b k := ho
  have hn : ¬ (b = a ∧ k = i) := by
    rintro ⟨rfl, rfl⟩
    exact hi ho
  exact ⟨by show f b k = 0; rw [hs b k hn]; exact (hz b k ho).1, (hz b k ho).2.1, (hz b k ho).2.2⟩
theorem ud_ne2 {α : Type} {f : Nat → Nat → α} {a i b k : Nat} {v : α} (hn : ¬ (b = a ∧ k = i)) : ud f a i v b k = f b k := by
  unfold ud
  by_cases c : b = a
  · rw [if_pos c]
    by_cases d : k = i
    · exact absurd ⟨c, d⟩ hn
    · simp only [if_neg d]
      rw [c]
  · rw [if_neg c]
theorem ZB_ud {h : Hp} {a i : Nat} {x : Int32} (hz : ZB h) (hi : ¬ outB h a i) : ZB (h.1, ud h.2.1 a i x, h.2.2.1, h.2.2.2) := ZB_in hz (fun _ _ hn => ud_ne2 hn) hi
theorem ZB_udL {h : Hp} {a i : Nat} {x : Int64} (hz : ZB h) (hi : ¬ outB h a i) : ZB (h.1, h.2.1, ud h.2.2.1 a i x, h.2.2.2) := by
  intro b k ho
  have ho : outB h b k := ho
  have hn : ¬ (b = a ∧ k = i) := by
    rintro ⟨rfl, rfl⟩
    exact hi ho
  exact ⟨(hz b k ho).1, by show ud h.2.2.1 a i x b k = 0; rw [ud_ne2 hn]; exact (hz b k ho).2.1, (hz b k ho).2.2⟩
theorem ZB_udR {h : Hp} {a i : Nat} {x : Option Nat} (hz : ZB h) (hi : ¬ outB h a i) : ZB (h.1, h.2.1, h.2.2.1, ud h.2.2.2 a i x) := by
  intro b k ho
  have ho : outB h b k := ho
  have hn : ¬ (b = a ∧ k = i) := by
    rintro ⟨rfl, rfl⟩
    exact hi ho
  exact ⟨(hz b k ho).1, (hz b k ho).2.1, by show ud h.2.2.2 a i x b k = none; rw [ud_ne2 hn]; exact (hz b k ho).2.2⟩
theorem out_app {h : Hp} {l : List Sh} {a k : Nat} (ho : match (h.1 ++ l)[a]? with | some s => slen s ≤ k | none => True) (ha : a < h.1.length) : outB h a k := by
  unfold outB
  rwa [List.getElem?_append_left ha] at ho
theorem out_ge {h : Hp} {a k : Nat} (ha : h.1.length ≤ a) : outB h a k := by
  unfold outB
  rw [List.getElem?_eq_none ha]
  trivial
theorem ZB_new {h : Hp} {s : Sh} (hz : ZB h) : ZB (h.1 ++ [s], clr h.2.1 h.1.length 0, clr h.2.2.1 h.1.length 0, clr h.2.2.2 h.1.length none) := by
  intro a k ho
  have ho : match (h.1 ++ [s])[a]? with | some s => slen s ≤ k | none => True := ho
  show clr h.2.1 h.1.length 0 a k = 0 ∧ clr h.2.2.1 h.1.length 0 a k = 0 ∧ clr h.2.2.2 h.1.length none a k = none
  unfold clr
  by_cases c : a = h.1.length
  · rw [if_pos c, if_pos c, if_pos c]
    exact ⟨rfl, rfl, rfl⟩
  · rw [if_neg c, if_neg c, if_neg c]
    by_cases d : a < h.1.length
    · exact hz a k (out_app ho d)
    · exact hz a k (out_ge (by omega))
theorem ZB_row {h : Hp} {n k : Nat} (hz : ZB h) : ZB (rowNew h n k) := by
  intro a j ho
  have ho : match (h.1 ++ .inl (4, n) :: List.replicate n (.inl (1, k)))[a]? with | some s => slen s ≤ j | none => True := ho
  show (if h.1.length ≤ a then (fun _ => (0 : Int32)) else h.2.1 a) j = 0 ∧ (if h.1.length ≤ a then (fun _ => (0 : Int64)) else h.2.2.1 a) j = 0 ∧ (if a = h.1.length then (fun i => if i < n then some (h.1.length + 1 + i) else none) else if h.1.length ≤ a then (fun _ => none) else h.2.2.2 a) j = none
  by_cases d : a < h.1.length
  · have := hz a j (out_app ho d)
    rw [if_neg (by omega), if_neg (by omega), if_neg (by omega), if_neg (by omega)]
    exact this
  · rw [if_pos (by omega), if_pos (by omega)]
    refine ⟨rfl, rfl, ?_⟩
    by_cases c : a = h.1.length
    · rw [if_pos c]
      rw [c, List.getElem?_append_right (Nat.le_refl _), Nat.sub_self] at ho
      have ho : n ≤ j := ho
      rw [if_neg (by omega)]
    · rw [if_neg c, if_pos (by omega)]
theorem out_arr {h : Hp} {a n t : Nat} {j : Int32} (hs : h.1[a]? = some (.inl (t, n))) (hj : inB j n = true) : ¬ outB h a j.toNatClampNeg := by
  unfold outB
  rw [hs]
  show ¬ n ≤ j.toNatClampNeg
  unfold inB at hj
  simp only [Bool.and_eq_true, decide_eq_true_eq] at hj
  omega
theorem putF_ZB {o : List Nat} {st : List Value} {h : Hp} {q : List Value × Hp} (hz : ZB h) (hg : putF o st h = some q) : ZB q.2 := by
  unfold putF at hg
  split at hg
  · rename_i ci k z w
    split at hg
    · rename_i v a st2
      obtain ⟨⟨-, hs, hk⟩, hg⟩ := inv_if hg
      have ho : ¬ outB h a k := by
        unfold outB
        rw [hs]
        show ¬ vwN ci ≤ k
        omega
      cases v with
      | int x =>
        obtain ⟨-, hg⟩ := inv_ifn hg
        obtain ⟨-, hg⟩ := inv_ifn hg
        cases hg
        exact ZB_ud hz ho
      | ref b =>
        obtain ⟨-, hg⟩ := inv_if hg
        cases hg
        exact ZB_udR hz ho
      | _ => cases hg
    · cases hg
  · cases hg
theorem hstep_ZB {X : Scr} {i : Instr} {o : List Nat} {pc pc' : Nat} {L st L' st' : List Value} {h h' : Hp} (hcp : ∀ k, i ≠ .invokestatic k) (hz : ZB h) (hh : hstep X i o pc L st h = some (pc', L', st', h')) : ZB h' := by
  have pure : (pstep i o pc L st).map (fun q => (q.1, q.2.1, q.2.2, h)) = some (pc', L', st', h') → ZB h' := by
    intro hp
    obtain ⟨q, -, hp2⟩ := Option.map_eq_some_iff.mp hp
    cases hp2
    exact hz
  cases i with
  | getfield idx =>
    obtain ⟨st1, hg, hp2⟩ := Option.map_eq_some_iff.mp (show (getF o st h).map (fun st' => (pc + 3, L, st', h)) = some (pc', L', st', h') from hh)
    cases hp2
    exact hz
  | putfield idx =>
    obtain ⟨⟨st1, h1⟩, hg, hp2⟩ := Option.map_eq_some_iff.mp (show (putF o st h).map (fun q => (pc + 3, L, q.1, q.2)) = some (pc', L', st', h') from hh)
    cases hp2
    exact putF_ZB hz hg
  | getstatic idx =>
    simp only [hstep] at hh
    split at hh <;> first | (cases hh; exact hz) | cases hh
  | arraylength =>
    simp only [hstep] at hh
    repeat' split at hh
    all_goals first | (cases hh; exact hz) | cases hh
  | iaload =>
    simp only [hstep] at hh
    repeat' split at hh
    all_goals first | (cases hh; exact hz) | cases hh
  | baload =>
    simp only [hstep] at hh
    repeat' split at hh
    all_goals first | (cases hh; exact hz) | cases hh
  | laload =>
    simp only [hstep] at hh
    repeat' split at hh
    all_goals first | (cases hh; exact hz) | cases hh
  | aaload =>
    simp only [hstep] at hh
    repeat' split at hh
    all_goals first | (cases hh; exact hz) | cases hh
  | iastore =>
    simp only [hstep] at hh
    repeat' split at hh
    all_goals first | (cases hh; done) | (rename_i e1 e2; cases hh; exact ZB_ud hz (out_arr e1 e2)) | cases hh
  | bastore =>
    simp only [hstep] at hh
    repeat' split at hh
    all_goals first | (cases hh; done) | (rename_i e1 e2; cases hh; exact ZB_ud hz (out_arr e1 e2)) | cases hh
  | lastore =>
    simp only [hstep] at hh
    repeat' split at hh
    all_goals first | (cases hh; done) | (rename_i e1 e2; cases hh; exact ZB_udL hz (out_arr e1 e2)) | cases hh
  | aastore =>
    simp only [hstep] at hh
    repeat' split at hh
    all_goals first | (cases hh; done) | (rename_i e1 e2; cases hh; exact ZB_udR hz (out_arr e1 e2)) | cases hh
  | new idx =>
    simp only [hstep] at hh
    repeat' split at hh
    all_goals first | (cases hh; exact ZB_new hz) | cases hh
  | newarray ty =>
    simp only [hstep] at hh
    repeat' split at hh
    all_goals first | (cases hh; exact ZB_new hz) | cases hh
  | anewarray idx =>
    simp only [hstep] at hh
    repeat' split at hh
    all_goals first | (cases hh; exact ZB_new hz) | cases hh
  | multianewarray idx d =>
    simp only [hstep] at hh
    repeat' split at hh
    all_goals first | (cases hh; exact ZB_row hz) | cases hh
  | invokespecial idx =>
    simp only [hstep] at hh
    repeat' split at hh
    all_goals first | (cases hh; exact hz) | cases hh
  | invokestatic idx => exact absurd rfl (hcp idx)
  | _ => exact pure hh
theorem run0_ZB : ∀ (n dp y pc : Nat) (L st : List Value) (h : Hp) (v : Option Value) (h' : Hp), ZB h → run0 n dp y pc L st h = some (v, h') → ZB h'
  | 0, _, _, _, _, _, _, _, _, _, hr => by cases hr
  | n + 1, dp, y, pc, L, st, h, v, h', hz, hr => by
    rw [run0] at hr
    split at hr
    · cases hr
    · rename_i pc0 i len o he
      split at hr
      · rename_i r hret
        subst hr
        rw [retO_h hret]
        exact hz
      · split at hr
        · rename_i c na kd hc
          split at hr
          · cases hr
          · rename_i dp'
            obtain ⟨-, hr⟩ := inv_if hr
            split at hr
            · rename_i rv h1 h1e
              exact run0_ZB n _ _ _ _ _ _ _ _ (run0_ZB n _ _ _ _ _ _ _ _ hz h1e) hr
            · cases hr
        · obtain ⟨hl, hr⟩ := inv_ifn hr
          split at hr
          · rename_i pc' L' st' h1 h1e
            refine run0_ZB n _ _ _ _ _ _ _ _ (hstep_ZB (fun k e => ?_) hz h1e) hr
            subst e
            exact hl rfl
          · cases hr
theorem ZB_0 : ZB hp0 := fun _ _ _ => ⟨rfl, rfl, rfl⟩
