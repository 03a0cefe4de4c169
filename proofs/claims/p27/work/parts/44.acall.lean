/-! A call under a contract. -/
def Good (J : JV) (T : Ctr) : Prop := ∀ (X : Scr) (dp : Nat) (ρ : Nat → Int) (h : Hp) (as : List Value), cD T ≤ dp → HI h → (cK T = true → J.1 h) → bOK ρ (cB T) → al2 (vm (cB T).length ρ) (cA T) as → (∀ q ∈ cF T, tOK (cB T).length ρ q.2.2 (h.2.1 q.1 q.2.1).toInt ∧ ∃ ci, SHl[q.1]? = some (.inr ci)) →
  Ends X dp (cY T) 0 (entL (mMaxL (cY T)) as) [] h (fun v h' => HI h' ∧ frm (cW T) h h' ∧ Qpost (cB T).length ρ (cP T) v h')
theorem al2_app {P : AV → Value → Prop} : ∀ {A C : List AV} {L M : List Value}, al2 P A L → al2 P C M → al2 P (A ++ C) (L ++ M)
  | [], _, [], _, _, h2 => h2
  | a :: A, C, v :: L, M, h1, h2 => ⟨h1.1, al2_app h1.2 h2⟩
  | [], _, _ :: _, _, h, _ => h.elim
  | _ :: _, _, [], _, h, _ => h.elim
theorem al2_take {P : AV → Value → Prop} : ∀ {A : List AV} {L : List Value} (n : Nat), al2 P A L → al2 P (A.take n) (L.take n)
  | _, _, 0, _ => by simp [al2]
  | [], [], n + 1, _ => by simp [al2]
  | a :: A, v :: L, n + 1, h => ⟨h.1, al2_take n h.2⟩
  | [], _ :: _, _ + 1, h => h.elim
  | _ :: _, [], _ + 1, h => h.elim
theorem al2_drop {P : AV → Value → Prop} : ∀ {A : List AV} {L : List Value} (n : Nat), al2 P A L → al2 P (A.drop n) (L.drop n)
  | _, _, 0, h => h
  | [], [], n + 1, _ => by simp [al2]
  | a :: A, v :: L, n + 1, h => al2_drop (A := A) (L := L) n h.2
  | [], _ :: _, _ + 1, h => h.elim
  | _ :: _, [], _ + 1, h => h.elim
theorem al2_rev {P : AV → Value → Prop} : ∀ {A : List AV} {L : List Value}, al2 P A L → al2 P A.reverse L.reverse
  | [], [], _ => trivial
  | a :: A, v :: L, h => by
    rw [List.reverse_cons, List.reverse_cons]
    exact al2_app (al2_rev h.2) ⟨h.1, trivial⟩
  | [], _ :: _, h => h.elim
  | _ :: _, [], h => h.elim
theorem cat_le {n : Nat} {ρ : Nat → Int} {a : AV} {v : Value} (h : vm n ρ a v) : v.category ≤ catA a := by
  unfold catA
  by_cases h2 : a.1 = 2
  · rw [if_pos h2]
    obtain ⟨x, rfl, -⟩ := vm2 h2 h
    exact Nat.le_refl _
  · rw [if_neg h2]
    by_cases h1 : cat1 a = true
    · rw [if_pos h1, vm_cat h1 h]
      exact Nat.le_refl _
    · rw [if_neg h1]
      cases v <;> simp [Value.category]
theorem catSum_le {n : Nat} {ρ : Nat → Int} : ∀ {A : List AV} {L : List Value}, al2 (vm n ρ) A L → catSum L ≤ (A.map catA).sum
  | [], [], _ => Nat.le_refl _
  | a :: A, v :: L, h => by
    have h1 := cat_le h.1
    have h2 := catSum_le h.2
    have e : catSum (v :: L) = v.category + catSum L := by simp [catSum]
    rw [e, List.map_cons, List.sum_cons]
    omega
  | [], _ :: _, h => h.elim
  | _ :: _, [], h => h.elim
def tg3 (a : AV) : Bool := a.1 == 1 || a.1 == 2 || a.1 == 3
theorem tg3_of {n : Nat} {ρ : Nat → Int} {a : AV} {v : Value} (ha : tg3 a = true) (h : vm n ρ a v) : argOK v = true ∧ (v.category = 2 ↔ a.1 = 2) := by
  unfold tg3 at ha
  simp only [Bool.or_eq_true, beq_iff_eq] at ha
  rcases ha with (h1 | h1) | h1
  · obtain ⟨x, rfl, -⟩ := vm1 h1 h
    exact ⟨rfl, by rw [h1]; exact ⟨fun e => (by cases e), fun e => (by cases e)⟩⟩
  · obtain ⟨x, rfl, -⟩ := vm2 h1 h
    exact ⟨rfl, by rw [h1]; exact ⟨fun _ => rfl, fun _ => rfl⟩⟩
  · obtain ⟨x, rfl, -⟩ := vm3 h1 h
    exact ⟨rfl, by rw [h1]; exact ⟨fun e => (by cases e), fun e => (by cases e)⟩⟩
theorem args_ok {n : Nat} {ρ : Nat → Int} : ∀ {A : List AV} {L : List Value}, al2 (vm n ρ) A L → A.all tg3 = true → L.all argOK = true ∧ (entL0 L).length = slotsA A
  | [], [], _, _ => ⟨rfl, rfl⟩
  | a :: A, v :: L, h, ha => by
    obtain ⟨h1, h2⟩ := (Bool.and_eq_true _ _).mp ha
    obtain ⟨e1, e2⟩ := tg3_of h1 h.1
    obtain ⟨i1, i2⟩ := args_ok h.2 h2
    refine ⟨Bool.and_eq_true _ _ |>.mpr ⟨e1, i1⟩, ?_⟩
    unfold entL0 slotsA
    by_cases hc : v.category = 2
    · rw [if_pos hc, if_pos (e2.mp hc)]
      simp only [List.length_cons]
      omega
    · rw [if_neg hc, if_neg (fun q => hc (e2.mpr q))]
      simp only [List.length_cons]
      omega
  | [], _ :: _, h, _ => h.elim
  | _ :: _, [], h, _ => h.elim
theorem recv_ok {n : Nat} {ρ : Nat → Int} {h : Hp} {c kd : Nat} {A : List AV} {L : List Value} (hh : HI h) (g : al2 (vm n ρ) A L) (hr : recvA c kd A = true) : (if kd = 2 then true else match (generalizing := false) L with
    | v :: _ => if kd = 0 then recvOK c h v else (match (generalizing := false) v with | .ref a => decide (a < OLDB) | _ => false)
    | [] => false) = true := by
  unfold recvA at hr
  by_cases h2 : kd = 2
  · rw [if_pos h2]
  · rw [if_neg h2] at hr ⊢
    match A, L, g, hr with
    | a :: A, v :: L, g, hr =>
      obtain ⟨h3, hr⟩ := (Bool.and_eq_true _ _).mp hr
      obtain ⟨b, rfl, hb⟩ := vm3 (by simpa using h3) g.1
      by_cases h0 : kd = 0
      · rw [if_pos h0] at hr
        show (if kd = 0 then recvOK c h (.ref b) else _) = true
        rw [if_pos h0]
        unfold recvOK
        rcases (Bool.or_eq_true _ _).mp hr with hr | hr
        · obtain ⟨r1, r2⟩ := (Bool.and_eq_true _ _).mp hr
          have r3 := List.all_eq_true.mp r1 b hb
          obtain ⟨r4, r5⟩ := (Bool.and_eq_true _ _).mp r3
          simp only
          rw [if_pos (of_decide_eq_true r4), hh.1]
          exact Bool.and_eq_true _ _ |>.mpr ⟨r5, r2⟩
        · obtain ⟨r1, r2⟩ := (Bool.and_eq_true _ _).mp hr
          have r3 := List.all_eq_true.mp r2 b hb
          obtain ⟨r4, r5⟩ := (Bool.and_eq_true _ _).mp r3
          have r6 : ¬ b < OLDB := fun q => by
            have := of_decide_eq_true r4
            omega
          simp only
          rw [if_neg r6, r1, r4, r5]
          rfl
      · rw [if_neg h0] at hr
        show (if kd = 0 then _ else decide (b < OLDB)) = true
        rw [if_neg h0]
        exact List.all_eq_true.mp hr b hb
    | [], _, _, hr => cases hr
    | _ :: _, [], g, _ => exact g.elim
theorem refs_ok {ρ : Nat → Int} {x : Nat → Int} : ∀ {σ : List Tm} {B C : Bd} (k : Nat), bOK ρ B → (∀ v, v < σ.length → tOK B.length ρ (σ.getD v (0, 0)) (x (k + v))) → (∀ v q, v < σ.length → C[v]? = some q → q.1 ≤ x (k + v) ∧ x (k + v) ≤ q.2) → ∃ B', refs B σ C = some B' ∧ bOK ρ B' ∧ B'.length = B.length
  | [], B, C, k, hb, _, _ => ⟨B, by unfold refs; rfl, hb, rfl⟩
  | t :: σ, B, [], k, hb, _, _ => ⟨B, by unfold refs; rfl, hb, rfl⟩
  | t :: σ, B, q :: C, k, hb, h1, h2 => by
    have a1 := h1 0 (by simp)
    have a2 := h2 0 q (by simp) rfl
    obtain ⟨B1, e1, b1, n1⟩ := refn_ok hb a1 a2.1 a2.2
    obtain ⟨B2, e2, b2, n2⟩ := refs_ok (σ := σ) (C := C) (k + 1) b1 (fun v hv => by
      have := h1 (v + 1) (by simpa using hv)
      rw [n1, show k + 1 + v = k + (v + 1) by omega]
      simpa using this) (fun v p hv hp => by
      have := h2 (v + 1) p (by simpa using hv) (by simpa using hp)
      rw [show k + 1 + v = k + (v + 1) by omega]
      exact this)
    refine ⟨B2, ?_, b2, n2.trans n1⟩
    unfold refs
    have e1 : refn B t q.1 q.2 = some B1 := e1
    rw [e1]
    exact e2
theorem subA_ok {n : Nat} {ρ ρ' : Nat → Int} {σ : List Tm} (hσ : ∀ v, v < σ.length → tOK n ρ (σ.getD v (0, 0)) (ρ' v)) {a : AV} {v : Value} (h : vm σ.length ρ' a v) : vm n ρ (subA σ a) v := by
  obtain ⟨k, t, u, l⟩ := a
  match k, h with
  | 0, h => exact h
  | 1, ⟨x, e, h⟩ => exact ⟨x, e, sub_ok2 hσ h⟩
  | 2, ⟨x, e, h⟩ => exact ⟨x, e, sub_ok2 hσ h⟩
  | 3, h => exact h
  | 4, ⟨x, y, e, h, h'⟩ => exact ⟨x, y, e, sub_ok2 hσ h, sub_ok2 hσ h'⟩
  | _ + 5, _ => trivial
theorem subAs_ok {n : Nat} {ρ ρ' : Nat → Int} {σ : List Tm} (hσ : ∀ v, v < σ.length → tOK n ρ (σ.getD v (0, 0)) (ρ' v)) : ∀ {A : List AV} {L : List Value}, al2 (vm σ.length ρ') A L → al2 (vm n ρ) (A.map (subA σ)) L
  | [], [], _ => trivial
  | a :: A, v :: L, h => ⟨subA_ok hσ h.1, subAs_ok hσ h.2⟩
  | [], _ :: _, h => h.elim
  | _ :: _, [], h => h.elim
theorem subW_ok {V W : List (Nat × Nat)} (h : subW V W = true) {a k : Nat} (hk : inW W a k = false) : inW V a k = false := by
  cases e : inW V a k with
  | false => rfl
  | true =>
    obtain ⟨q, hq, hm⟩ := List.any_eq_true.mp e
    obtain ⟨w, hw, hm2⟩ := List.any_eq_true.mp (List.all_eq_true.mp h q hq)
    have : inW W a k = true := by
      refine List.any_eq_true.mpr ⟨w, hw, ?_⟩
      simp only [Bool.and_eq_true, Bool.or_eq_true, beq_iff_eq] at hm hm2 ⊢
      omega
    rw [this] at hk
    cases hk
theorem frm_sub {V W : List (Nat × Nat)} {h h' : Hp} (hs : subW V W = true) (hf : frm V h h') : frm W h h' := fun a k hk => hf a k (subW_ok hs hk)
theorem frm_trans {W : List (Nat × Nat)} {h h' h'' : Hp} (h1 : frm W h h') (h2 : frm W h' h'') : frm W h h'' := fun a k hk => ⟨(h2 a k hk).1.trans (h1 a k hk).1, (h2 a k hk).2.1.trans (h1 a k hk).2.1, (h2 a k hk).2.2.trans (h1 a k hk).2.2⟩
