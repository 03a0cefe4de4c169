section JN44acall
/-! A call under a contract. -/
def Good (J : JV) (T : Ctr) : Prop := ∀ (X : Scr) (dp : Nat) (ρ : Nat → Int) (h : Hp) (as : List Value), cD T ≤ dp → HI h → (cK T = true → J.1 h) → bOK ρ (cB T) → al2 (vm (cB T).length ρ) (cA T) as → (∀ q ∈ cF T, tOK (cB T).length ρ q.2.2 (h.2.1 q.1 q.2.1).toInt ∧ ∃ ci, SHl[q.1]? = some (.inr ci)) →
  Ends X dp (cY T) 0 (entL (mMaxL (cY T)) as) [] h (fun v h' => HI h' ∧ frm (cW T) h h' ∧ Qpost (cB T).length ρ (cP T) v h')
theorem al2_app {P : AV → Value → Prop} : ∀ {A C : List AV} {L M : List Value}, al2 P A L → al2 P C M → al2 P (A ++ C) (L ++ M)
  | [], _, [], _, _, h2 => h2
  | a :: A, C, v :: L, M, h1, h2 => ⟨h1.1, al2_app h1.2 h2⟩
  | [], _, _ :: _, _, h, _ => h.elim
  | _ :: _, _, [], _, h, _ => h.elim
theorem al2_take {P : AV → Value → Prop} : ∀ {A : List AV} {L : List Value} (n : Nat), al2 P A L → al2 P (A.take n) (L.take n)
  | _, _, 0, _ => by simp [al2]
  | [], [], n + 1, _ => by simp [al2]
  | a :: A, v :: L, n + 1, h => ⟨h.1, al2_take n h.2⟩
  | [], _ :: _, _ + 1, h => h.elim
  | _ :: _, [], _ + 1, h => h.elim
theorem al2_drop {P : AV → Value → Prop} : ∀ {A : List AV} {L : List Value} (n : Nat), al2 P A L → al2 P (A.drop n) (L.drop n)
  | _, _, 0, h => h
  | [], [], n + 1, _ => by simp [al2]
  | a :: A, v :: L, n + 1, h => al2_drop (A := A) (L := L) n h.2
  | [], _ :: _, _ + 1, h => h.elim
  | _ :: _, [], _ + 1, h => h.elim
theorem al2_rev {P : AV → Value → Prop} : ∀ {A : List AV} {L : List Value}, al2 P A L → al2 P A.reverse L.reverse
  | [], [], _ => trivial
  | a :: A, v :: L, h => by
    rw [List.reverse_cons, List.reverse_cons]
    exact al2_app (al2_rev h.2) ⟨h.1, trivial⟩
  | [], _ :: _, h => h.elim
  | _ :: _, [], h => h.elim
theorem cat_le {n : Nat} {ρ : Nat → Int} {a : AV} {v : Value} (h : vm n ρ a v) : v.category ≤ catA a := by
  unfold catA
  by_cases h2 : a.1 = 2
  · rw [if_pos h2]
    obtain ⟨x, rfl, -⟩ := vm2 h2 h
    exact Nat.le_refl _
  · rw [if_neg h2]
    by_cases h1 : cat1 a = true
    · rw [if_pos h1, vm_cat h1 h]
      exact Nat.le_refl _
    · rw [if_neg h1]
      cases v <;> simp [Value.category]
theorem catSum_le {n : Nat} {ρ : Nat → Int} : ∀ {A : List AV} {L : List Value}, al2 (vm n ρ) A L → catSum L ≤ (A.map catA).sum
  | [], [], _ => Nat.le_refl _
  | a :: A, v :: L, h => by
    have h1 := cat_le h.1
    have h2 := catSum_le h.2
    have e : catSum (v :: L) = v.category + catSum L := by simp [catSum]
    rw [e, List.map_cons, List.sum_cons]
    omega
  | [], _ :: _, h => h.elim
  | _ :: _, [], h => h.elim
def tg3 (a : AV) : Bool := a.1 == 1 || a.1 == 2 || a.1 == 3
theorem tg3_of {n : Nat} {ρ : Nat → Int} {a : AV} {v : Value} (ha : tg3 a = true) (h : vm n ρ a v) : argOK v = true ∧ (v.category = 2 ↔ a.1 = 2) := by
  unfold tg3 at ha
  simp only [Bool.or_eq_true, beq_iff_eq] at ha
  rcases ha with (h1 | h1) | h1
  · obtain ⟨x, rfl, -⟩ := vm1 h1 h
    exact ⟨rfl, by rw [h1]; exact ⟨fun e => (by cases e), fun e => (by cases e)⟩⟩
  · obtain ⟨x, rfl, -⟩ := vm2 h1 h
    exact ⟨rfl, by rw [h1]; exact ⟨fun _ => rfl, fun _ => rfl⟩⟩
  · obtain ⟨x, rfl, -⟩ := vm3 h1 h
    exact ⟨rfl, by rw [h1]; exact ⟨fun e => (by cases e), fun e => (by cases e)⟩⟩
theorem args_ok {n : Nat} {ρ : Nat → Int} : ∀ {A : List AV} {L : List Value}, al2 (vm n ρ) A L → A.all tg3 = true → L.all argOK = true ∧ (entL0 L).length = slotsA A
  | [], [], _, _ => ⟨rfl, rfl⟩
  | a :: A, v :: L, h, ha => by
    obtain ⟨h1, h2⟩ := (Bool.and_eq_true _ _).mp ha
    obtain ⟨e1, e2⟩ := tg3_of h1 h.1
    obtain ⟨i1, i2⟩ := args_ok h.2 h2
    refine ⟨Bool.and_eq_true _ _ |>.mpr ⟨e1, i1⟩, ?_⟩
    unfold entL0 slotsA
    by_cases hc : v.category = 2
    · rw [if_pos hc, if_pos (e2.mp hc)]
      simp only [List.length_cons]
      omega
    · rw [if_neg hc, if_neg (fun q => hc (e2.mpr q))]
      simp only [List.length_cons]
      omega
  | [], _ :: _, h, _ => h.elim
  | _ :: _, [], h, _ => h.elim
theorem recv_ok {n : Nat} {ρ : Nat → Int} {h : Hp} {c kd : Nat} {A : List AV} {L : List Value} (hh : HI h) (g : al2 (vm n ρ) A L) (hr : recvA c kd A = true) : (if kd = 2 then true else match (generalizing := false) L with
    | v :: _ => if kd = 0 then recvOK c h v else (match (generalizing := false) v with | .ref a => decide (a < OLDB) | _ => false)
    | [] => false) = true := by
  unfold recvA at hr
  by_cases h2 : kd = 2
  · rw [if_pos h2]
  · rw [if_neg h2] at hr ⊢
    match A, L, g, hr with
    | a :: A, v :: L, g, hr =>
      obtain ⟨h3, hr⟩ := (Bool.and_eq_true _ _).mp hr
      obtain ⟨b, rfl, hb⟩ := vm3 (by simpa using h3) g.1
      by_cases h0 : kd = 0
      · rw [if_pos h0] at hr
        show (if kd = 0 then recvOK c h (.ref b) else _) = true
        rw [if_pos h0]
        unfold recvOK
        rcases (Bool.or_eq_true _ _).mp hr with hr | hr
        · obtain ⟨r1, r2⟩ := (Bool.and_eq_true _ _).mp hr
          have r3 := List.all_eq_true.mp r1 b hb
          obtain ⟨r4, r5⟩ := (Bool.and_eq_true _ _).mp r3
          simp only
          rw [if_pos (of_decide_eq_true r4), hh.1]
          exact Bool.and_eq_true _ _ |>.mpr ⟨r5, r2⟩
        · obtain ⟨r1, r2⟩ := (Bool.and_eq_true _ _).mp hr
          have r3 := List.all_eq_true.mp r2 b hb
          obtain ⟨r4, r5⟩ := (Bool.and_eq_true _ _).mp r3
          have r6 : ¬ b < OLDB := fun q => by
            have := of_decide_eq_true r4
            omega
          simp only
          rw [if_neg r6, r1, r4, r5]
          rfl
      · rw [if_neg h0] at hr
        show (if kd = 0 then _ else decide (b < OLDB)) = true
        rw [if_neg h0]
        exact List.all_eq_true.mp hr b hb
    | [], _, _, hr => cases hr
    | _ :: _, [], g, _ => exact g.elim
theorem refs_ok {ρ : Nat → Int} {x : Nat → Int} : ∀ {σ : List Tm} {B C : Bd} (k : Nat), bOK ρ B → (∀ v, v < σ.length → tOK B.length ρ (σ.getD v (0, 0)) (x (k + v))) → (∀ v q, v < σ.length → C[v]? = some q → q.1 ≤ x (k + v) ∧ x (k + v) ≤ q.2) → ∃ B', refs B σ C = some B' ∧ bOK ρ B' ∧ B'.length = B.length
  | [], B, C, k, hb, _, _ => ⟨B, by unfold refs; rfl, hb, rfl⟩
  | t :: σ, B, [], k, hb, _, _ => ⟨B, by unfold refs; rfl, hb, rfl⟩
  | t :: σ, B, q :: C, k, hb, h1, h2 => by
    have a1 := h1 0 (by simp)
    have a2 := h2 0 q (by simp) rfl
    obtain ⟨B1, e1, b1, n1⟩ := refn_ok hb a1 a2.1 a2.2
    obtain ⟨B2, e2, b2, n2⟩ := refs_ok (σ := σ) (C := C) (k + 1) b1 (fun v hv => by
      have := h1 (v + 1) (by simpa using hv)
      rw [n1, show k + 1 + v = k + (v + 1) by omega]
      simpa using this) (fun v p hv hp => by
      have := h2 (v + 1) p (by simpa using hv) (by simpa using hp)
      rw [show k + 1 + v = k + (v + 1) by omega]
      exact this)
    refine ⟨B2, ?_, b2, n2.trans n1⟩
    unfold refs
    have e1 : refn B t q.1 q.2 = some B1 := e1
    rw [e1]
    exact e2
theorem subA_ok {n : Nat} {ρ ρ' : Nat → Int} {σ : List Tm} (hσ : ∀ v, v < σ.length → tOK n ρ (σ.getD v (0, 0)) (ρ' v)) {a : AV} {v : Value} (h : vm σ.length ρ' a v) : vm n ρ (subA σ a) v := by
  obtain ⟨k, t, u, l⟩ := a
  match k, h with
  | 0, h => exact h
  | 1, ⟨x, e, h⟩ => exact ⟨x, e, sub_ok2 hσ h⟩
  | 2, ⟨x, e, h⟩ => exact ⟨x, e, sub_ok2 hσ h⟩
  | 3, h => exact h
  | 4, ⟨x, y, e, h, h'⟩ => exact ⟨x, y, e, sub_ok2 hσ h, sub_ok2 hσ h'⟩
  | _ + 5, _ => trivial
theorem subAs_ok {n : Nat} {ρ ρ' : Nat → Int} {σ : List Tm} (hσ : ∀ v, v < σ.length → tOK n ρ (σ.getD v (0, 0)) (ρ' v)) : ∀ {A : List AV} {L : List Value}, al2 (vm σ.length ρ') A L → al2 (vm n ρ) (A.map (subA σ)) L
  | [], [], _ => trivial
  | a :: A, v :: L, h => ⟨subA_ok hσ h.1, subAs_ok hσ h.2⟩
  | [], _ :: _, h => h.elim
  | _ :: _, [], h => h.elim
theorem subW_ok {V W : List (Nat × Nat)} (h : subW V W = true) {a k : Nat} (hk : inW W a k = false) : inW V a k = false := by
  cases e : inW V a k with
  | false => rfl
  | true =>
    obtain ⟨q, hq, hm⟩ := List.any_eq_true.mp e
    obtain ⟨w, hw, hm2⟩ := List.any_eq_true.mp (List.all_eq_true.mp h q hq)
    have : inW W a k = true := by
      refine List.any_eq_true.mpr ⟨w, hw, ?_⟩
      simp only [Bool.and_eq_true, Bool.or_eq_true, beq_iff_eq] at hm hm2 ⊢
      omega
    rw [this] at hk
    cases hk
theorem frm_sub {V W : List (Nat × Nat)} {h h' : Hp} (hs : subW V W = true) (hf : frm V h h') : frm W h h' := fun a k hk => hf a k (subW_ok hs hk)
theorem frm_trans {W : List (Nat × Nat)} {h h' h'' : Hp} (h1 : frm W h h') (h2 : frm W h' h'') : frm W h h'' := fun a k hk => ⟨(h2 a k hk).1.trans (h1 a k hk).1, (h2 a k hk).2.1.trans (h1 a k hk).2.1, (h2 a k hk).2.2.trans (h1 a k hk).2.2⟩
end JN44acall
section JN45callok
theorem getD_map_A {l : List Nat} {f : Nat → Tm} {v : Nat} (hv : v < l.length) : (l.map f).getD v (0, 0) = f (l.getD v 0) := by
  rw [List.getD_eq_getElem?_getD, List.getElem?_map, List.getElem?_eq_getElem hv, List.getD_eq_getElem?_getD, List.getElem?_eq_getElem hv]
  rfl
set_option maxHeartbeats 1000000 in
/-- a call that the check lets pass can be made, and what comes behind is of one of its states -/
theorem call_ok {J : JV} {X : Scr} {D dp c na kd : Nat} {W : List (Nat × Nat)} {K : Bool} {S : AS} {L st : List Value} {h : Hp} {ρ : Nat → Int} {T : Ctr} {l : List AS} (hT : Good J T) (g : gam ρ S L st h) (hh : HI h) (hK : K = true → J.1 h) (hD : D ≤ dp + 1) (ha : acall D W K S c na kd T = some l) :
    callOK c na kd st h = true ∧ Ends X dp c 0 (entL (mMaxL c) (st.take na).reverse) [] h (fun rv h1 => HI h1 ∧ frm W h h1 ∧ ∃ S' ∈ l, ∃ ρ', ext S.1.length ρ ρ' ∧ S.1.length ≤ S'.1.length ∧ gam ρ' S' L (rv.toList ++ st.drop na) h1) := by
  unfold acall at ha
  obtain ⟨⟨q1, q2, q3, q4, q5, q6, q7, q8, q9, q10, q11, q12, q13⟩, ha⟩ := inv_if ha
  cases ha
  subst q1
  have gA : al2 (vm S.1.length ρ) (argsA S na) (st.take na).reverse := al2_rev (al2_take na g.2.2.1)
  have gR : al2 (vm S.1.length ρ) (S.2.2.1.drop na) (st.drop na) := al2_drop na g.2.2.1
  have hlen := al2_len g.2.2.1
  have h7 : (argsA S na).all tg3 = true := by
    unfold argsA
    rw [List.all_reverse]
    exact q7
  have hargs := args_ok gA h7
  have hcall : callOK (cY T) na kd st h = true := by
    unfold callOK
    have r5 := recv_ok hh gA q9
    have r1 : decide (na ≤ st.length) = true := decide_eq_true (by omega)
    have r2 : decide (catSum (st.drop na) ≤ 8) = true := decide_eq_true (Nat.le_trans (catSum_le gR) q6)
    have r3 : (st.take na).all argOK = true := by have := hargs.1; rwa [List.all_reverse] at this
    have r4 : decide ((entL0 (st.take na).reverse).length ≤ mMaxL (cY T)) = true := decide_eq_true (by rw [hargs.2]; exact q8)
    rw [r1, r2, r3, r4]
    simp only [Bool.true_and]
    exact r5
  refine ⟨hcall, ?_⟩
  have hsl : (sgA T S na).length = (cV T).length := by simp [sgA]
  have hbl := bdLe_len q11
  have hσ : ∀ v, v < (sgA T S na).length → tOK S.1.length ρ ((sgA T S na).getD v (0, 0)) (ev ρ ((sgA T S na).getD v (0, 0))) := by
    intro v hv
    refine ⟨?_, rfl⟩
    unfold sgA
    rw [hsl] at hv
    rw [getD_map_A hv]
    have hm : (cV T).getD v 0 ∈ cV T := by
      rw [List.getD_eq_getElem?_getD, List.getElem?_eq_getElem hv]
      exact List.getElem_mem hv
    obtain ⟨t, ht⟩ := Option.isSome_iff_exists.mp (List.all_eq_true.mp q10 _ hm)
    rw [ht]
    exact vS_ok g gA ht
  have gC : al2 (vm (cB T).length (fun v => ev ρ ((sgA T S na).getD v (0, 0)))) (cA T) (st.take na).reverse := by
    rw [← hbl]
    exact avsLe_ok hσ q12 gA
  refine (hT X dp (fun v => ev ρ ((sgA T S na).getD v (0, 0))) h (st.take na).reverse (by omega) hh (fun e => hK (by rcases q4 with q | q; · rw [q] at e; cases e
                                                                                                                     · exact q)) (bd_of g.1 hσ q11) gC (fFit_ok g hσ hbl q13)).mono ?_
  rintro rv h1 ⟨hh1, hf, P, hP, ρP, eP, bP, nP, vP, fP⟩
  refine ⟨hh1, frm_sub q3 hf, ?_⟩
  have hnv : (cB T).length = (cV T).length := hbl.symm.trans hsl
  rw [hnv] at eP nP
  obtain ⟨B1, e1, b1, n1⟩ := refs_ok (x := ρP) (σ := sgA T S na) (B := S.1) (C := P.1) 0 g.1 (fun v hv => by
    rw [Nat.zero_add, eP v (by rw [← hsl]; exact hv)]
    exact hσ v hv) (fun v q hv hq => by rw [Nat.zero_add]; exact bP v q hq)
  have hmem : (B1 ++ P.1.drop (cV T).length, S.2.1, P.2.1.map (subA (sgP T S na P)) ++ S.2.2.1.drop na, P.2.2.1.map (fun q => (q.1, q.2.1, sub (sgP T S na P) q.2.2)) ++ S.2.2.2.filter (fun q => !inW (cW T) q.1 q.2.1)) ∈ ((cP T).map (postS T S na)).flatten := by
    refine List.mem_flatten.mpr ⟨_, List.mem_map.mpr ⟨P, hP, rfl⟩, ?_⟩
    unfold postS
    rw [e1]
    exact List.mem_map.mpr ⟨B1, by simp, rfl⟩
  refine ⟨_, hmem, fun v => if v < S.1.length then ρ v else ρP ((cV T).length + (v - S.1.length)), fun v hv => if_pos hv, by simp [n1], ?_⟩
  have hn2 : (B1 ++ P.1.drop (cV T).length).length = S.1.length + (P.1.length - (cV T).length) := by simp [n1]
  have he2 : ext S.1.length ρ (fun v => if v < S.1.length then ρ v else ρP ((cV T).length + (v - S.1.length))) := fun v hv => if_pos hv
  have hspl : (sgP T S na P).length = P.1.length := by
    unfold sgP
    rw [List.length_append, hsl]
    simp
    omega
  have hσ2 : ∀ v, v < (sgP T S na P).length → tOK (B1 ++ P.1.drop (cV T).length).length (fun v => if v < S.1.length then ρ v else ρP ((cV T).length + (v - S.1.length))) ((sgP T S na P).getD v (0, 0)) (ρP v) := by
    intro v hv
    rw [hspl] at hv
    by_cases hc : v < (cV T).length
    · have e : (sgP T S na P).getD v (0, 0) = (sgA T S na).getD v (0, 0) := by
        unfold sgP
        rw [List.getD_eq_getElem?_getD, List.getElem?_append_left (by rw [hsl]; exact hc), List.getD_eq_getElem?_getD]
      rw [e, eP v hc, hn2]
      exact tOK_ext (Nat.le_add_right _ _) he2 (hσ v (by rw [hsl]; exact hc))
    · have e : (sgP T S na P).getD v (0, 0) = (S.1.length + 1 + (v - (cV T).length), 0) := by
        unfold sgP
        rw [List.getD_eq_getElem?_getD, List.getElem?_append_right (by rw [hsl]; omega), hsl, List.getElem?_map, List.getElem?_range (by omega)]
        rfl
      rw [e, hn2]
      refine ⟨by show S.1.length + 1 + (v - (cV T).length) ≤ _; omega, ?_⟩
      rw [show S.1.length + 1 + (v - (cV T).length) = (S.1.length + (v - (cV T).length)) + 1 by omega]
      show ρP v = (if S.1.length + (v - (cV T).length) < S.1.length then ρ (S.1.length + (v - (cV T).length)) else ρP ((cV T).length + (S.1.length + (v - (cV T).length) - S.1.length))) + 0
      rw [if_neg (by omega), show (cV T).length + (S.1.length + (v - (cV T).length) - S.1.length) = v by omega]
      omega
  refine ⟨?_, ?_, ?_, ?_⟩
  · intro v q hq
    by_cases hv : v < S.1.length
    · show q.1 ≤ (if v < S.1.length then ρ v else ρP ((cV T).length + (v - S.1.length))) ∧ (if v < S.1.length then ρ v else ρP ((cV T).length + (v - S.1.length))) ≤ q.2
      rw [if_pos hv]
      have hq : (B1 ++ P.1.drop (cV T).length)[v]? = some q := hq
      rw [List.getElem?_append_left (by rw [n1]; exact hv)] at hq
      exact b1 v q hq
    · show q.1 ≤ (if v < S.1.length then ρ v else ρP ((cV T).length + (v - S.1.length))) ∧ (if v < S.1.length then ρ v else ρP ((cV T).length + (v - S.1.length))) ≤ q.2
      rw [if_neg hv]
      have hq : (B1 ++ P.1.drop (cV T).length)[v]? = some q := hq
      rw [List.getElem?_append_right (by rw [n1]; omega), n1, List.getElem?_drop] at hq
      exact bP _ q hq
  · show al2 (vm (B1 ++ P.1.drop (cV T).length).length _) S.2.1 L
    rw [hn2]
    exact al2_mono (fun _ _ => vm_ext (Nat.le_add_right _ _) he2) g.2.1
  · show al2 (vm (B1 ++ P.1.drop (cV T).length).length _) (P.2.1.map (subA (sgP T S na P)) ++ S.2.2.1.drop na) _
    refine al2_app (subAs_ok hσ2 (by rw [hspl]; exact vP)) ?_
    rw [hn2]
    exact al2_mono (fun _ _ => vm_ext (Nat.le_add_right _ _) he2) gR
  · intro q hq
    show tOK (B1 ++ P.1.drop (cV T).length).length _ _ _ ∧ _
    rcases List.mem_append.mp hq with hq | hq
    · obtain ⟨p, hp, rfl⟩ := List.mem_map.mp hq
      refine ⟨sub_ok2 hσ2 (by rw [hspl]; exact (fP p hp).1), (fP p hp).2⟩
    · obtain ⟨r1, r2⟩ := List.mem_filter.mp hq
      have r3 : inW (cW T) q.1 q.2.1 = false := by simpa using r2
      have r4 := g.2.2.2 q r1
      refine ⟨?_, r4.2⟩
      rw [(hf _ _ r3).1, hn2]
      exact tOK_ext (Nat.le_add_right _ _) he2 r4.1
end JN45callok
section JN46axsound
/-! The check of a method against its contract, and that it is sound. -/
def cutM (C0 : Option Cut) (S : AS) (C : Cut) : Bool := match C0 with
  | some C' => mlt S.1 C'.2.2.1 S.2.1 (kM C') (kM C)
  | none => true
def ay (code : List En) (TB : List Ctr) (T : Ctr) (cal : List (Nat × Nat)) (cuts : List Cut) (C0 : Option Cut) : Nat → Bool → Nat → AS → Bool
  | 0, _, _, _ => false
  | n + 1, fresh, pc, S =>
    if (!fresh && cuts.any (fun C => C.1 == pc)) = true then cuts.any (fun C => (C.1 == pc) && (cutFit (cB T).length S C && cutM C0 S C))
    else match code.find? (fun q => q.1 == pc) with
      | none => false
      | some q => if isRet q.2.1 = true then okRet (cY T) (cB T).length (cP T) q.2.1 S
        else match callO q.2.1 q.2.2.2 with
        | some (c, na, kd) => cal.any (fun p => (p.1 == pc) && (match TB[p.2]? with
          | some T' => (match acall (cD T) (cW T) (cK T) S c na kd T' with
            | some l => l.all (fun S' => ay code TB T cal cuts C0 n false (pc + 3) S')
            | none => false)
          | none => false))
        | none => match asuc (cW T) q.2.1 q.2.2.2 pc S with
          | some l => l.all (fun p => ay code TB T cal cuts C0 n false p.1 p.2)
          | none => false
def Qend (T : Ctr) (h0 : Hp) (ρ0 : Nat → Int) (v : Option Value) (h' : Hp) : Prop := HI h' ∧ frm (cW T) h0 h' ∧ Qpost (cB T).length ρ0 (cP T) v h'
theorem dis_in {SUP W : List (Nat × Nat)} (hd : disW SUP W = true) {a k : Nat} (hs : inW SUP a k = true) : inW W a k = false := by
  cases e : inW W a k with
  | false => rfl
  | true =>
    obtain ⟨q, hq, hm⟩ := List.any_eq_true.mp e
    obtain ⟨s, hs, hm2⟩ := List.any_eq_true.mp hs
    have h1 := List.all_eq_true.mp (List.all_eq_true.mp hd q hq) s hs
    simp only [Bool.and_eq_true, Bool.or_eq_true, beq_iff_eq] at hm hm2
    have h2 : (s.1 == q.1 && (s.2 == q.2 || s.2 == 999 || q.2 == 999)) = true := by
      simp only [Bool.and_eq_true, Bool.or_eq_true, beq_iff_eq]
      omega
    rw [h2] at h1
    cases h1
/-- the invariant hangs on its places alone -/
def JS (J : JV) : Prop := ∀ h h' : Hp, (∀ a k, inW J.2 a k = true → h'.2.1 a k = h.2.1 a k) → J.1 h → J.1 h'
theorem KI_dis {J : JV} (hJ : JS J) {W : List (Nat × Nat)} {h h' : Hp} (hd : disW J.2 W = true) (hf : frm W h h') (hk : J.1 h) : J.1 h' :=
  hJ h h' (fun a k hs => (hf a k (dis_in hd hs)).1) hk
theorem nar_byte {x : Int32} (h1 : -128 ≤ x.toInt) (h2 : x.toInt ≤ 127) : narrow .byte (.int x) = .int x := by
  show Value.int x.toInt8.toInt32 = Value.int x
  have e : x.toInt8.toInt32 = x := by
    apply Int32.toInt.inj
    rw [Int8.toInt_toInt32, Int32.toInt_toInt8, Int.bmod_def]
    split <;> omega
  rw [e]
theorem nar_char {x : Int32} (h1 : 0 ≤ x.toInt) (h2 : x.toInt ≤ 65535) : narrow .char (.int x) = .int x := by
  show Value.int x.toUInt32.toUInt16.toUInt32.toInt32 = Value.int x
  have e : x.toUInt32.toUInt16.toUInt32.toInt32 = x := by
    apply Int32.toBitVec_inj.mp
    apply BitVec.eq_of_toNat_eq
    have h3 : x.toBitVec.toInt = x.toInt := rfl
    rw [BitVec.toInt_eq_toNat_cond] at h3
    have h4 := x.toBitVec.isLt
    have h5 : x.toUInt32.toUInt16.toUInt32.toInt32.toBitVec.toNat = x.toBitVec.toNat % 65536 := by simp
    rw [h5]
    split at h3 <;> omega
  rw [e]
theorem ret_ok {y : Nat} {i : Instr} {S : AS} {L st : List Value} {h : Hp} {ρ : Nat → Int} (g : gam ρ S L st h) (hr : (match i with
  | .ireturn => (match S.2.2.1 with | [a] => a.1 == 1 && retTy y (trg S.1 a.2.1) | _ => false)
  | .lreturn => (match S.2.2.1 with | [a] => a.1 == 2 && decide (mRet y = some .long) | _ => false)
  | .return_ => S.2.2.1.isEmpty && decide (mRet y = none)
  | _ => false) = true) : ∃ v : Option Value, st = v.toList ∧ retO y i st h = some (some (v, h)) := by
  obtain ⟨B, AL, Ast, F⟩ := S
  have g3 : al2 (vm B.length ρ) Ast st := g.2.2.1
  split at hr
  · split at hr
    · rename_i a hA
      have hA : Ast = [a] := hA
      subst hA
      match st, g3 with
      | [v], ⟨g3, _⟩ =>
        obtain ⟨h1, h2⟩ := (Bool.and_eq_true _ _).mp hr
        obtain ⟨x, rfl, hx⟩ := vm1 (by simpa using h1) g3
        refine ⟨some (.int x), rfl, ?_⟩
        show some (retI y [.int x] h) = _
        have hb := tOK_rg g.1 hx
        unfold retTy at h2
        unfold retI
        cases hm : mRet y with
        | none => rw [hm] at h2; cases h2
        | some ty =>
          rw [hm] at h2
          have hn : isRefTy ty = false ∧ narrow ty (.int x) = .int x := by
            cases ty with
            | int => exact ⟨rfl, rfl⟩
            | boolean =>
              refine ⟨rfl, ?_⟩
              have h3 := rng_ok h2 hb.1 hb.2
              have h4 : x = 0 ∨ x = 1 := by
                rcases (show x.toInt = 0 ∨ x.toInt = 1 by omega) with e | e
                · exact Or.inl (Int32.toInt.inj e)
                · exact Or.inr (Int32.toInt.inj e)
              rcases h4 with rfl | rfl <;> rfl
            | char =>
              refine ⟨rfl, ?_⟩
              have h3 := rng_ok h2 hb.1 hb.2
              exact nar_char h3.1 h3.2
            | byte =>
              refine ⟨rfl, ?_⟩
              have h3 := rng_ok h2 hb.1 hb.2
              exact nar_byte h3.1 h3.2
            | _ => cases h2
          simp only
          rw [if_pos hn]
    · cases hr
  · split at hr
    · rename_i a hA
      have hA : Ast = [a] := hA
      subst hA
      match st, g3 with
      | [v], ⟨g3, _⟩ =>
        obtain ⟨h1, h2⟩ := (Bool.and_eq_true _ _).mp hr
        obtain ⟨x, rfl, hx⟩ := vm2 (by simpa using h1) g3
        refine ⟨some (.long x), rfl, ?_⟩
        show some (retL y [.long x] h) = _
        unfold retL
        simp only
        rw [if_pos (of_decide_eq_true h2)]
    · cases hr
  · obtain ⟨h1, h2⟩ := (Bool.and_eq_true _ _).mp hr
    have hA : Ast = [] := by simpa using h1
    subst hA
    match st, g3 with
    | [], _ =>
      refine ⟨none, rfl, ?_⟩
      show some (retV y [] h) = _
      unfold retV
      simp only
      rw [if_pos (of_decide_eq_true h2)]
  · cases hr
theorem isRet_none {y : Nat} {i : Instr} {st : List Value} {h : Hp} (hi : isRet i = false) : retO y i st h = none := by
  cases i <;> first | rfl | cases hi
set_option maxHeartbeats 1000000 in
theorem ay_sound {J : JV} {X : Scr} {TB : List Ctr} {T : Ctr} {cal : List (Nat × Nat)} {cuts : List Cut} {C0 : Option Cut} {dp : Nat} {h0 : Hp} {ρ0 ρC : Nat → Int} {n0 : Nat} {LC : List Value}
    (hJ : JS J) (hG : ∀ T' ∈ TB, Good J T') (hD : cD T ≤ dp) (hKW : cK T = false ∨ disW J.2 (cW T) = true) (hK0 : cK T = true → J.1 h0)
    (hC : ∀ C', C0 = some C' → al2 (vm n0 ρC) C'.2.2.1 LC)
    (hnv : (cB T).length ≤ n0) (he0 : ext (cB T).length ρ0 ρC)
    (rec : ∀ C ∈ cuts, ∀ ρ L h, ext (cB T).length ρ0 ρ → (cB T).length ≤ C.2.1.length → gam ρ (C.2.1, C.2.2.1, [], kF C) L [] h → HI h → frm (cW T) h0 h → (∀ C', C0 = some C' → lxl ((kM C').map (mOne LC)) ((kM C).map (mOne L))) → Ends X dp (cY T) C.1 L [] h (Qend T h0 ρ0)) :
    ∀ (n : Nat) (fresh : Bool) (pc : Nat) (S : AS) (ρ : Nat → Int) (L st : List Value) (h : Hp), ay (progs.getD (cY T) []) TB T cal cuts C0 n fresh pc S = true → gam ρ S L st h → HI h → frm (cW T) h0 h → n0 ≤ S.1.length → ext n0 ρC ρ → Ends X dp (cY T) pc L st h (Qend T h0 ρ0)
  | 0, _, _, _, _, _, _, _, hu, _, _, _, _, _ => by cases hu
  | n + 1, fresh, pc, S, ρ, L, st, h, hu, g, hh, hf, hn, he => by
    have ihn := ay_sound (cal := cal) (cuts := cuts) (C0 := C0) hJ hG hD hKW hK0 hC hnv he0 rec n
    rw [ay] at hu
    by_cases hcut : (!fresh && cuts.any (fun C => C.1 == pc)) = true
    · rw [if_pos hcut] at hu
      obtain ⟨C, hCm, hu⟩ := List.any_eq_true.mp hu
      obtain ⟨h1, hu⟩ := (Bool.and_eq_true _ _).mp hu
      obtain ⟨h2, h3⟩ := (Bool.and_eq_true _ _).mp hu
      have h1 : C.1 = pc := by simpa using h1
      subst h1
      obtain ⟨ρ', e1, g1, rfl, n1⟩ := cutFit_ok g (Nat.le_trans hnv hn) h2
      refine rec C hCm ρ' L h (ext_trans (Nat.le_refl _) (ext_trans hnv he0 he) e1) n1 g1 hh hf ?_
      intro C' hC'
      subst hC'
      exact mlt_ok g.1 (hC C' rfl) g.2.1 hn he h3
    · rw [if_neg hcut] at hu
      split at hu
      · cases hu
      · rename_i q hq
        obtain ⟨pc0, i, len, o⟩ := q
        have hp : pAt (cY T) pc = some (pc0, i, len, o) := hq
        by_cases hret : isRet i = true
        · rw [if_pos hret] at hu
          unfold okRet at hu
          obtain ⟨h1, h2⟩ := (Bool.and_eq_true _ _).mp hu
          obtain ⟨v, rfl, hr⟩ := ret_ok g h1
          exact Ends.ret hp hr ⟨hh, hf, postFit_ok g (Nat.le_trans hnv hn) (ext_trans hnv he0 he) h2⟩
        · rw [if_neg hret] at hu
          have hret : isRet i = false := by cases e : isRet i with
            | false => rfl
            | true => exact absurd e hret
          split at hu
          · rename_i c na kd hc
            obtain ⟨p, -, hu⟩ := List.any_eq_true.mp hu
            obtain ⟨-, hu⟩ := (Bool.and_eq_true _ _).mp hu
            split at hu
            · rename_i T' hT'
              split at hu
              · rename_i l hl
                have hGT := hG T' (List.mem_of_getElem? hT')
                have hKh : cK T = true → J.1 h := fun e => KI_dis hJ (hKW.resolve_left (by rw [e]; decide)) hf (hK0 e)
                cases dp with
                | zero =>
                  exfalso
                  unfold acall at hl
                  obtain ⟨⟨-, q2, -⟩, -⟩ := inv_if hl
                  omega
                | succ dp =>
                  obtain ⟨hok, hE⟩ := call_ok (X := X) (dp := dp) hGT g hh hKh hD hl
                  refine Ends.call hp (isRet_none hret) hc hok (hE.mono ?_)
                  rintro rv h1 ⟨hh1, hf1, S', hS', ρ', e1, n1, g1⟩
                  exact ihn false (pc + 3) S' ρ' L _ h1 (List.all_eq_true.mp hu S' hS') g1 hh1 (frm_trans hf hf1) (Nat.le_trans hn n1) (ext_trans hn he e1)
              · cases hu
            · cases hu
          · rename_i hc
            split at hu
            · rename_i l hl
              obtain ⟨pc', S', ρ', L', st', h', hm, hs, g1, hh1, hf1, e1, n1, -⟩ := asuc_sound (X := X) g hh hl
              exact Ends.step hp (isRet_none hret) hc hs (ihn false pc' S' ρ' L' st' h' (List.all_eq_true.mp hu (pc', S') hm) g1 hh1 (frm_trans hf hf1) (Nat.le_trans hn n1) (ext_trans hn he e1))
            · cases hu
/-- the locals with which a checked method begins -/
def entA : List AV → List AV
  | [] => []
  | a :: l => if a.1 = 2 then a :: jT :: entA l else a :: entA l
def entP (n : Nat) (l : List AV) : List AV := entA l ++ List.replicate (n - (entA l).length) jT
def FU : Nat := 3000
/-- the whole check of a method -/
def chk (TB : List Ctr) (T : Ctr) (cal : List (Nat × Nat)) (cuts : List Cut) (ml : Nat) : Bool :=
  (cA T).all tg3 && cuts.all (fun C => (kM C).length == ml) &&
  ay (progs.getD (cY T) []) TB T cal cuts none FU false 0 (cB T, entP (mMaxL (cY T)) (cA T), [], cF T) &&
  cuts.all (fun C => ay (progs.getD (cY T) []) TB T cal cuts (some C) FU true C.1 (C.2.1, C.2.2.1, [], kF C))
theorem ent_ok {n : Nat} {ρ : Nat → Int} : ∀ {A : List AV} {L : List Value}, al2 (vm n ρ) A L → A.all tg3 = true → al2 (vm n ρ) (entA A) (entL0 L)
  | [], [], _, _ => trivial
  | a :: A, v :: L, h, ha => by
    obtain ⟨h1, h2⟩ := (Bool.and_eq_true _ _).mp ha
    obtain ⟨-, e2⟩ := tg3_of h1 h.1
    have ih := ent_ok h.2 h2
    unfold entA entL0
    by_cases hc : v.category = 2
    · rw [if_pos hc, if_pos (e2.mp hc)]
      exact ⟨h.1, rfl, ih⟩
    · rw [if_neg hc, if_neg (fun q => hc (e2.mpr q))]
      exact ⟨h.1, ih⟩
  | [], _ :: _, h, _ => h.elim
  | _ :: _, [], h, _ => h.elim
theorem rep_ok {n : Nat} {ρ : Nat → Int} : ∀ k : Nat, al2 (vm n ρ) (List.replicate k jT) (List.replicate k (.retAddr 0))
  | 0 => trivial
  | k + 1 => ⟨rfl, rep_ok k⟩
theorem entP_ok {n k : Nat} {ρ : Nat → Int} {A : List AV} {L : List Value} (h : al2 (vm n ρ) A L) (ha : A.all tg3 = true) : al2 (vm n ρ) (entP k A) (entL k L) := by
  have h1 := ent_ok h ha
  unfold entP entL
  rw [al2_len h1]
  exact al2_app h1 (rep_ok _)
theorem chk_good {J : JV} (hJ : JS J) {TB : List Ctr} {T : Ctr} {cal : List (Nat × Nat)} {cuts : List Cut} {ml : Nat} (hG : ∀ T' ∈ TB, Good J T') (hKW : cK T = false ∨ disW J.2 (cW T) = true) (hc : chk TB T cal cuts ml = true) : Good J T := by
  unfold chk at hc
  obtain ⟨h123, h5⟩ := (Bool.and_eq_true _ _).mp hc
  obtain ⟨h12, h4⟩ := (Bool.and_eq_true _ _).mp h123
  obtain ⟨h2, h3⟩ := (Bool.and_eq_true _ _).mp h12
  intro X dp ρ0 h0 as hD hh hK hb ha hF
  have loop : ∀ l : List Nat, l.length = ml → ∀ C ∈ cuts, ∀ ρ L h, (kM C).map (mOne L) = l → ext (cB T).length ρ0 ρ → (cB T).length ≤ C.2.1.length → gam ρ (C.2.1, C.2.2.1, [], kF C) L [] h → HI h → frm (cW T) h0 h → Ends X dp (cY T) C.1 L [] h (Qend T h0 ρ0) := by
    intro l hl
    refine lx_ind (P := fun l => ∀ C ∈ cuts, ∀ ρ L h, (kM C).map (mOne L) = l → ext (cB T).length ρ0 ρ → (cB T).length ≤ C.2.1.length → gam ρ (C.2.1, C.2.2.1, [], kF C) L [] h → HI h → frm (cW T) h0 h → Ends X dp (cY T) C.1 L [] h (Qend T h0 ρ0)) ml l hl ?_
    intro l hl ih C hC ρ L h hm he hn g hh hf
    refine ay_sound (C0 := some C) (n0 := C.2.1.length) (ρC := ρ) (LC := L) hJ hG hD hKW hK ?_ hn he ?_ FU true C.1 _ ρ L [] h (List.all_eq_true.mp h5 C hC) g hh hf (Nat.le_refl _) ext_refl
    · intro C' hC'
      cases hC'
      exact g.2.1
    · intro C1 hC1 ρ1 L1 k1 e1 n1 g1 hh1 hf1 hlx
      have hlx := hlx C rfl
      rw [hm] at hlx
      have hml : ((kM C1).map (mOne L1)).length = ml := by
        rw [List.length_map]
        simpa using List.all_eq_true.mp h3 C1 hC1
      exact ih _ hml hlx C1 hC1 ρ1 L1 k1 rfl e1 n1 g1 hh1 hf1
  refine ay_sound (C0 := none) (n0 := (cB T).length) (ρC := ρ0) (LC := []) hJ hG hD hKW hK (fun C' hC' => by cases hC') (Nat.le_refl _) ext_refl ?_ FU false 0 (cB T, entP (mMaxL (cY T)) (cA T), [], cF T) ρ0 _ [] h0 h4 ⟨hb, entP_ok ha h2, trivial, hF⟩ hh frm_refl (Nat.le_refl _) ext_refl
  intro C hC ρ L h he hn g hh1 hf _
  have hml : ((kM C).map (mOne L)).length = ml := by
    rw [List.length_map]
    simpa using List.all_eq_true.mp h3 C hC
  exact loop _ hml C hC ρ L h rfl he hn g hh1 hf
/-- a method whose j-th argument may be one of several objects: by its contracts for each of them -/
def chkJ (TB : List Ctr) (T : Ctr) (j : Nat) : Bool := match (cA T)[j]? with
  | some a => a.1 == 3 && a.2.2.2.all (fun b => TB.any (fun T' => decide (cY T' = cY T) && decide (cD T' ≤ cD T) && decide (cB T' = cB T) && decide (cA T' = (cA T).set j (rT [b])) && decide (cF T' = cF T) && (cP T').all (fun P => (cP T).contains P) && subW (cW T') (cW T) && (cK T' == false || cK T)))
  | none => false
theorem chkJ_good {J : JV} {TB : List Ctr} {T : Ctr} {j : Nat} (hG : ∀ T' ∈ TB, Good J T') (hc : chkJ TB T j = true) : Good J T := by
  unfold chkJ at hc
  split at hc
  · rename_i a ha
    obtain ⟨h3, hc⟩ := (Bool.and_eq_true _ _).mp hc
    intro X dp ρ h as hD hh hK hb hA hF
    obtain ⟨v, hv, hva⟩ := al2_get hA ha
    obtain ⟨b, rfl, hbm⟩ := vm3 (by simpa using h3) hva
    obtain ⟨T', hT', hc⟩ := List.any_eq_true.mp (List.all_eq_true.mp hc b hbm)
    simp only [Bool.and_eq_true, decide_eq_true_eq, Bool.or_eq_true, beq_iff_eq] at hc
    obtain ⟨⟨⟨⟨⟨⟨⟨c1, c2⟩, c3⟩, c4⟩, c8⟩, c5⟩, c6⟩, c7⟩ := hc
    have hs : as.set j (.ref b) = as := by
      obtain ⟨hj, e⟩ := List.getElem?_eq_some_iff.mp hv
      rw [← e]
      exact List.set_getElem_self hj
    have hA' : al2 (vm (cB T').length ρ) (cA T') as := by
      rw [c3, c4, ← hs]
      exact al2_set hA ⟨b, rfl, List.mem_singleton.mpr rfl⟩
    have := hG T' hT' X dp ρ h as (Nat.le_trans c2 hD) hh (fun e => hK (by
      rcases c7 with q | q
      · rw [q] at e; cases e
      · exact q)) (by rw [c3]; exact hb) hA' (by rw [c8, c3]; exact hF)
    rw [c1] at this
    refine this.mono ?_
    rintro v h' ⟨q1, q2, P, hP, q3⟩
    rw [c3] at q3
    exact ⟨q1, frm_sub c6 q2, P, by simpa using List.all_eq_true.mp c5 P hP, q3⟩
  · cases hc
/-- a method's row: its contract, the contracts of its calls, its cuts, the measure's length; or an argument's place -/
abbrev Row : Type := Ctr × List (Nat × Nat) × List Cut × Nat × Option Nat
end JN46axsound
section JN47fast
/-! The interval machine's step in small pieces, for the kernel's sake. -/
abbrev ZF : Type := List (Nat × Nat) → AS → Option (List (Nat × AS))
def z_iconst (k : Int) (o : List Nat) (pc : Nat) : ZF := fun W S => some [(pc + 1, S.1, S.2.1, iT (0, (Int32.ofInt k).toInt) :: S.2.2.1, S.2.2.2)]
def z_bipush (k : Int) (o : List Nat) (pc : Nat) : ZF := fun W S => some [(pc + 2, S.1, S.2.1, iT (0, (Int8.ofInt k).toInt32.toInt) :: S.2.2.1, S.2.2.2)]
def z_sipush (k : Int) (o : List Nat) (pc : Nat) : ZF := fun W S => some [(pc + 3, S.1, S.2.1, iT (0, (Int16.ofInt k).toInt32.toInt) :: S.2.2.1, S.2.2.2)]
def z_lconst (k : Fin 2) (o : List Nat) (pc : Nat) : ZF := fun W S => some [(pc + 1, S.1, S.2.1, lT (0, (Int64.ofNat (k : Nat)).toInt) :: S.2.2.1, S.2.2.2)]
def z_ldc (o : List Nat) (pc : Nat) : ZF := fun W S => (match o with
    | [0, v, _] => some [(pc + 2, S.1, S.2.1, iT (0, (Int32.ofNat v).toInt) :: S.2.2.1, S.2.2.2)]
    | [1, j, _] => if j < 5 then some [(pc + 2, S.1, S.2.1, rT [OLDB + 3 + j] :: S.2.2.1, S.2.2.2)] else none
    | _ => none)
def z_ldc_w (o : List Nat) (pc : Nat) : ZF := fun W S => (match o with
    | [0, v, _] => some [(pc + 3, S.1, S.2.1, iT (0, (Int32.ofNat v).toInt) :: S.2.2.1, S.2.2.2)]
    | _ => none)
def z_ldc2_w (o : List Nat) (pc : Nat) : ZF := fun W S => (match o with
    | [v, _] => some [(pc + 3, S.1, S.2.1, lT (0, (Int64.ofNat v).toInt) :: S.2.2.1, S.2.2.2)]
    | _ => none)
def z_iload (k : Nat) (o : List Nat) (pc : Nat) : ZF := fun W S => (match S.2.1[k]? with | some a => if a.1 = 1 then some [(pc + 2, S.1, S.2.1, a :: S.2.2.1, S.2.2.2)] else none | none => none)
def z_iload_n (k : Fin 4) (o : List Nat) (pc : Nat) : ZF := fun W S => (match S.2.1[(k : Nat)]? with | some a => if a.1 = 1 then some [(pc + 1, S.1, S.2.1, a :: S.2.2.1, S.2.2.2)] else none | none => none)
def z_lload (k : Nat) (o : List Nat) (pc : Nat) : ZF := fun W S => (match S.2.1[k]? with | some a => if a.1 = 2 then some [(pc + 2, S.1, S.2.1, a :: S.2.2.1, S.2.2.2)] else none | none => none)
def z_lload_n (k : Fin 4) (o : List Nat) (pc : Nat) : ZF := fun W S => (match S.2.1[(k : Nat)]? with | some a => if a.1 = 2 then some [(pc + 1, S.1, S.2.1, a :: S.2.2.1, S.2.2.2)] else none | none => none)
def z_aload (k : Nat) (o : List Nat) (pc : Nat) : ZF := fun W S => (match S.2.1[k]? with | some a => if a.1 = 3 ∧ a.2.2.2.contains (OLDB + 13) = false then some [(pc + 2, S.1, S.2.1, a :: S.2.2.1, S.2.2.2)] else none | none => none)
def z_aload_n (k : Fin 4) (o : List Nat) (pc : Nat) : ZF := fun W S => (match S.2.1[(k : Nat)]? with | some a => if a.1 = 3 ∧ a.2.2.2.contains (OLDB + 13) = false then some [(pc + 1, S.1, S.2.1, a :: S.2.2.1, S.2.2.2)] else none | none => none)
def z_istore (k : Nat) (o : List Nat) (pc : Nat) : ZF := fun W S => (match S.2.2.1 with | a :: st => if a.1 = 1 ∧ k < S.2.1.length ∧ aOkSt S.2.1 k = true then some [(pc + 2, S.1, S.2.1.set k a, st, S.2.2.2)] else none | _ => none)
def z_istore_n (k : Fin 4) (o : List Nat) (pc : Nat) : ZF := fun W S => (match S.2.2.1 with | a :: st => if a.1 = 1 ∧ (k : Nat) < S.2.1.length ∧ aOkSt S.2.1 k = true then some [(pc + 1, S.1, S.2.1.set k a, st, S.2.2.2)] else none | _ => none)
def z_lstore (k : Nat) (o : List Nat) (pc : Nat) : ZF := fun W S => (match S.2.2.1 with | a :: st => if a.1 = 2 ∧ k + 1 < S.2.1.length ∧ aOkSt S.2.1 k = true then some [(pc + 2, S.1, (S.2.1.set k a).set (k + 1) jT, st, S.2.2.2)] else none | _ => none)
def z_lstore_n (k : Fin 4) (o : List Nat) (pc : Nat) : ZF := fun W S => (match S.2.2.1 with | a :: st => if a.1 = 2 ∧ (k : Nat) + 1 < S.2.1.length ∧ aOkSt S.2.1 k = true then some [(pc + 1, S.1, (S.2.1.set k a).set (k + 1) jT, st, S.2.2.2)] else none | _ => none)
def z_astore_n (k : Fin 4) (o : List Nat) (pc : Nat) : ZF := fun W S => (match S.2.2.1 with | a :: st => if a.1 = 3 ∧ a.2.2.2.contains (OLDB + 13) = false ∧ (k : Nat) < S.2.1.length ∧ aOkSt S.2.1 k = true then some [(pc + 1, S.1, S.2.1.set k a, st, S.2.2.2)] else none | _ => none)
def z_iinc (k : Nat) (n : Int) (o : List Nat) (pc : Nat) : ZF := fun W S => (match S.2.1[k]? with | some a => if a.1 = 1 ∧ aOkSt S.2.1 k = true then some [(pc + 3, (tAdd S.1 a.2.1 (0, (Int32.ofInt n).toInt) clampI).1, S.2.1.set k (iT (tAdd S.1 a.2.1 (0, (Int32.ofInt n).toInt) clampI).2), S.2.2.1, S.2.2.2)] else none | none => none)
def z_iadd (o : List Nat) (pc : Nat) : ZF := fun W S => (match S.2.2.1 with | b :: a :: st => if a.1 = 1 ∧ b.1 = 1 then some [(pc + 1, (tAdd S.1 a.2.1 b.2.1 clampI).1, S.2.1, iT (tAdd S.1 a.2.1 b.2.1 clampI).2 :: st, S.2.2.2)] else none | _ => none)
def z_isub (o : List Nat) (pc : Nat) : ZF := fun W S => (match S.2.2.1 with | b :: a :: st => if a.1 = 1 ∧ b.1 = 1 then some [(pc + 1, (tSub S.1 a.2.1 b.2.1 clampI).1, S.2.1, iT (tSub S.1 a.2.1 b.2.1 clampI).2 :: st, S.2.2.2)] else none | _ => none)
def z_ladd (o : List Nat) (pc : Nat) : ZF := fun W S => (match S.2.2.1 with | b :: a :: st => if a.1 = 2 ∧ b.1 = 2 then some [(pc + 1, (tAdd S.1 a.2.1 b.2.1 clampL).1, S.2.1, lT (tAdd S.1 a.2.1 b.2.1 clampL).2 :: st, S.2.2.2)] else none | _ => none)
def z_lsub (o : List Nat) (pc : Nat) : ZF := fun W S => (match S.2.2.1 with | b :: a :: st => if a.1 = 2 ∧ b.1 = 2 then some [(pc + 1, (tSub S.1 a.2.1 b.2.1 clampL).1, S.2.1, lT (tSub S.1 a.2.1 b.2.1 clampL).2 :: st, S.2.2.2)] else none | _ => none)
def z_lcmp (o : List Nat) (pc : Nat) : ZF := fun W S => (match S.2.2.1 with | b :: a :: st => if a.1 = 2 ∧ b.1 = 2 then some [(pc + 1, S.1, S.2.1, cT a.2.1 b.2.1 :: st, S.2.2.2)] else none | _ => none)
def z_i2l (o : List Nat) (pc : Nat) : ZF := fun W S => (match S.2.2.1 with | a :: st => if a.1 = 1 then some [(pc + 1, S.1, S.2.1, lT a.2.1 :: st, S.2.2.2)] else none | _ => none)
def z_l2i (o : List Nat) (pc : Nat) : ZF := fun W S => (match S.2.2.1 with | a :: st => if a.1 = 2 then (if rngOK (trg S.1 a.2.1) fI = true then some [(pc + 1, S.1, S.2.1, iT a.2.1 :: st, S.2.2.2)] else some [(pc + 1, pushI S st fI)]) else none | _ => none)
def z_dup (o : List Nat) (pc : Nat) : ZF := fun W S => (match S.2.2.1 with | a :: st => if cat1 a = true then some [(pc + 1, S.1, S.2.1, a :: a :: st, S.2.2.2)] else none | _ => none)
def z_pop (o : List Nat) (pc : Nat) : ZF := fun W S => (match S.2.2.1 with | a :: st => if cat1 a = true then some [(pc + 1, S.1, S.2.1, st, S.2.2.2)] else none | _ => none)
def z_dup2 (o : List Nat) (pc : Nat) : ZF := fun W S => (match S.2.2.1 with | a :: b :: st => if cat1 a = true ∧ cat1 b = true then some [(pc + 1, S.1, S.2.1, a :: b :: a :: b :: st, S.2.2.2)] else none | _ => none)
def z_pop2 (o : List Nat) (pc : Nat) : ZF := fun W S => (match S.2.2.1 with | a :: st => if a.1 = 2 then some [(pc + 1, S.1, S.2.1, st, S.2.2.2)] else none | _ => none)
def z_ifCond (q : Jvm.ClassFile.Cond) (off : Int) (o : List Nat) (pc : Nat) : ZF := fun W S => (match S.2.2.1 with
    | a :: st => (match jump pc off with
      | some t => if a.1 = 1 then some (brs q S.1 a.2.1 (0, 0) t (pc + 3) S.2.1 st S.2.2.2) else if a.1 = 4 then some (brs q S.1 a.2.1 a.2.2.1 t (pc + 3) S.2.1 st S.2.2.2) else none
      | none => none)
    | _ => none)
def z_if_icmp (q : Jvm.ClassFile.Cond) (off : Int) (o : List Nat) (pc : Nat) : ZF := fun W S => (match S.2.2.1 with
    | b :: a :: st => (match jump pc off with
      | some t => if a.1 = 1 ∧ b.1 = 1 then some (brs q S.1 a.2.1 b.2.1 t (pc + 3) S.2.1 st S.2.2.2) else none
      | none => none)
    | _ => none)
def z_goto (off : Int) (o : List Nat) (pc : Nat) : ZF := fun W S => aJump pc off S
def z_tableswitch (dflt : Int) (lo : Int) (hi : Int) (offs : Array Int) (o : List Nat) (pc : Nat) : ZF := fun W S => (match S.2.2.1 with
    | a :: st => if a.1 = 1 then (match jump pc dflt with
      | some d => if (List.range offs.size).all (fun j => (jump pc (offs.getD j 0)).isSome) = true ∧ hi + 1 - lo ≤ (offs.size : Int) then
          some ((refn S.1 a.2.1 (-BIGI) (lo - 1)).toList.map (fun B => (d, B, S.2.1, st, S.2.2.2)) ++ ((refn S.1 a.2.1 (hi + 1) BIGI).toList.map (fun B => (d, B, S.2.1, st, S.2.2.2)) ++
            ((List.range offs.size).map (fun (j : Nat) => (refn S.1 a.2.1 (lo + (j : Int)) (lo + (j : Int))).toList.map (fun B => ((jump pc (offs.getD j 0)).getD 0, B, S.2.1, st, S.2.2.2)))).flatten))
        else none
      | none => none) else none
    | _ => none)
def z_lookupswitch (dflt : Int) (ps : Array (Int × Int)) (o : List Nat) (pc : Nat) : ZF := fun W S => (match S.2.2.1 with
    | a :: st => if a.1 = 1 ∧ (ps.toList.zip (ps.toList.drop 1)).all (fun (a, next) => a.1 < next.1) = true then (match jump pc dflt with
      | some d => if ps.toList.all (fun q => (jump pc q.2).isSome) = true then
          some ((if (tlo S.1 a.2.1 = thi S.1 a.2.1 ∧ ps.toList.any (fun q => decide (q.1 = tlo S.1 a.2.1)) = true) then [] else [(d, S.1, S.2.1, st, S.2.2.2)]) ++
            (ps.toList.map (fun q => (refn S.1 a.2.1 q.1 q.1).toList.map (fun B => ((jump pc q.2).getD 0, B, S.2.1, st, S.2.2.2)))).flatten)
        else none
      | none => none) else none
    | _ => none)
def z_getfield (o : List Nat) (pc : Nat) : ZF := fun W S => (aGetF o S).map (fun S' => [(pc + 3, S')])
def z_putfield (o : List Nat) (pc : Nat) : ZF := fun W S => (aPutF W o S).map (fun S' => [(pc + 3, S')])
def z_getstatic (o : List Nat) (pc : Nat) : ZF := fun W S => (match o with
    | [0, _, _] => some [(pc + 3, S.1, S.2.1, rT [OLDB + 1] :: S.2.2.1, S.2.2.2)]
    | [1, _, _] => some [(pc + 3, S.1, S.2.1, rT [OLDB + 2] :: S.2.2.1, S.2.2.2)]
    | [2, _, _] => some [(pc + 3, S.1, S.2.1, iT (0, 1) :: S.2.2.1, S.2.2.2)]
    | [3, _, _] => some [(pc + 3, S.1, S.2.1, rT [OLDB + 13] :: S.2.2.1, S.2.2.2)]
    | _ => none)
def z_arraylength (o : List Nat) (pc : Nat) : ZF := fun W S => (match S.2.2.1 with
    | a :: st => if a.1 = 3 ∧ a.2.2.2.isEmpty = false ∧ a.2.2.2.all (fun b => match aLen b with | some q => (decide (q.1 < 5) || decide (OLDB ≤ b)) && decide (q.2 ≤ 1000) | none => false) = true then
        some [(pc + 1, pushI S st (uni (a.2.2.2.map (fun b => match aLen b with | some q => ((q.2 : Int), (q.2 : Int)) | none => fI))))] else none
    | _ => none)
def z_iaload (o : List Nat) (pc : Nat) : ZF := fun W S => (match S.2.2.1 with
    | j :: a :: st => if j.1 = 1 ∧ a.1 = 3 ∧ arrOK a.2.2.2 0 (trg S.1 j.2.1) = true then some [(pc + 1, pushI S st (uni (a.2.2.2.map aIv)))] else none
    | _ => none)
def z_baload (o : List Nat) (pc : Nat) : ZF := fun W S => (match S.2.2.1 with
    | j :: a :: st => if j.1 = 1 ∧ a.1 = 3 ∧ (arrOK a.2.2.2 2 (trg S.1 j.2.1) = true ∧ a.2.2.2.all (fun b => decide (b < OLDB)) = true ∨ arrOK a.2.2.2 5 (trg S.1 j.2.1) = true ∧ a.2.2.2.all (fun b => decide (OLDB ≤ b)) = true) then some [(pc + 1, pushI S st (uni (a.2.2.2.map aIv)))] else none
    | _ => none)
def z_laload (o : List Nat) (pc : Nat) : ZF := fun W S => (match S.2.2.1 with
    | j :: a :: st => if j.1 = 1 ∧ a.1 = 3 ∧ arrOK a.2.2.2 1 (trg S.1 j.2.1) = true ∧ a.2.2.2.all (fun b => decide (b < OLDB)) = true then some [(pc + 1, pushL S st fL)] else none
    | _ => none)
def z_aaload (o : List Nat) (pc : Nat) : ZF := fun W S => (match S.2.2.1 with
    | j :: a :: st => if j.1 = 1 ∧ a.1 = 3 ∧ (arrOK a.2.2.2 3 (trg S.1 j.2.1) = true ∨ arrOK a.2.2.2 4 (trg S.1 j.2.1) = true) ∧ a.2.2.2.all (fun b => decide (b < OLDB) && (!(rst b 0).isEmpty && (rst b 0).all (fun z => decide (z < OLDB)))) = true then
        some [(pc + 1, S.1, S.2.1, rT ((a.2.2.2.map (fun b => rst b 0)).flatten) :: st, S.2.2.2)] else none
    | _ => none)
def z_iastore (o : List Nat) (pc : Nat) : ZF := fun W S => (match S.2.2.1 with
    | x :: j :: a :: st => if x.1 = 1 ∧ j.1 = 1 ∧ a.1 = 3 ∧ arrOK a.2.2.2 0 (trg S.1 j.2.1) = true ∧ a.2.2.2.all (fun b => decide (b < OLDB) && inW W b 999 && rngOK (trg S.1 x.2.1) (ivl b 0)) = true then some [(pc + 1, S.1, S.2.1, st, S.2.2.2)] else none
    | _ => none)
def z_bastore (o : List Nat) (pc : Nat) : ZF := fun W S => (match S.2.2.1 with
    | x :: j :: a :: st => if x.1 = 1 ∧ j.1 = 1 ∧ a.1 = 3 ∧ rngOK (trg S.1 x.2.1) (0, 1) = true ∧ arrOK a.2.2.2 2 (trg S.1 j.2.1) = true ∧ a.2.2.2.all (fun b => decide (b < OLDB) && inW W b 999 && rngOK (trg S.1 x.2.1) (ivl b 0)) = true then some [(pc + 1, S.1, S.2.1, st, S.2.2.2)] else none
    | _ => none)
def z_lastore (o : List Nat) (pc : Nat) : ZF := fun W S => (match S.2.2.1 with
    | x :: j :: a :: st => if x.1 = 2 ∧ j.1 = 1 ∧ a.1 = 3 ∧ arrOK a.2.2.2 1 (trg S.1 j.2.1) = true ∧ a.2.2.2.all (fun b => decide (b < OLDB) && inW W b 999) = true then some [(pc + 1, S.1, S.2.1, st, S.2.2.2)] else none
    | _ => none)
def z_invokestatic (o : List Nat) (pc : Nat) : ZF := fun W S => (match o with
    | [9998, _, _, _, _] => (aCopy W S).map (fun S' => [(pc + 3, S')])
    | _ => none)
def z_b_imul (p q : Int × Int) : Option (Int × Int) := some (if 0 ≤ p.1 ∧ 0 ≤ q.1 then clampI (p.1 * q.1, p.2 * q.2) else fI)
def z_b_idiv (p q : Int × Int) : Option (Int × Int) := if 0 < q.1 ∨ q.2 < 0 then some (if 0 ≤ p.1 ∧ 0 < q.1 then (0, p.2) else fI) else none
def z_b_irem (p q : Int × Int) : Option (Int × Int) := if 0 < q.1 then some (if 0 ≤ p.1 then (0, min p.2 (q.2 - 1)) else (-(q.2 - 1), q.2 - 1)) else if q.2 < 0 then some fI else none
def z_b_iand (p q : Int × Int) : Option (Int × Int) := some (if 0 ≤ p.1 then (if 0 ≤ q.1 then (0, min p.2 q.2) else (0, p.2)) else if 0 ≤ q.1 then (0, q.2) else fI)
def z_b_ior (p q : Int × Int) : Option (Int × Int) := some (if 0 ≤ p.1 ∧ 0 ≤ q.1 then clampI (0, 2 ^ ((max p.2 q.2).toNat.log2 + 1) - 1) else fI)
def z_b_ixor (p q : Int × Int) : Option (Int × Int) := some fI
def z_b_ishl (p q : Int × Int) : Option (Int × Int) := some (if p = (1, 1) ∧ 0 ≤ q.1 ∧ q.2 ≤ 30 then (1, 2 ^ q.2.toNat) else fI)
def z_b_ishr (p q : Int × Int) : Option (Int × Int) := some (if 0 ≤ p.1 then (0, p.2) else fI)
def z_b_iushr (p q : Int × Int) : Option (Int × Int) := some fI
def z_def (fb : Int × Int → Int × Int → Option (Int × Int)) (fu : Option (Int × Int)) (bl bs : Bool) (pc : Nat) : ZF := fun W S => (match S.2.2.1 with
    | b :: a :: st => if a.1 = 1 ∧ b.1 = 1 then (match fb (trg S.1 a.2.1) (trg S.1 b.2.1) with
        | some r => some [(pc + 1, pushI S st r)]
        | none => (match fu with | some r => some [(pc + 1, pushI S (a :: st) r)] | none => none))
      else if a.1 = 2 ∧ b.1 = 2 ∧ bl = true then some [(pc + 1, pushL S st fL)]
      else if a.1 = 2 ∧ b.1 = 1 ∧ bs = true then some [(pc + 1, pushL S st fL)]
      else if b.1 = 1 then (match fu with | some r => some [(pc + 1, pushI S (a :: st) r)] | none => none) else none
    | b :: st => if b.1 = 1 then (match fu with | some r => some [(pc + 1, pushI S st r)] | none => none) else none
    | _ => none)
def z_nb (_ _ : Int × Int) : Option (Int × Int) := none
abbrev PR : Type := Nat × (Nat × Nat × Nat) × ZF
def z_no : ZF := fun _ _ => none
def z_call (o : List Nat) (f : ZF) : PR := match o with
  | [c, na, kd, _, _, _, _] => (1, (c, na, kd), f)
  | _ => (0, (0, 0, 0), f)
def pr (i : Instr) (o : List Nat) (pc : Nat) : PR := match i with
  | .ireturn => (2, (0, 0, 0), z_no)
  | .lreturn => (2, (0, 0, 0), z_no)
  | .return_ => (2, (0, 0, 0), z_no)
  | .invokevirtual _ => z_call o (z_def z_nb none false false pc)
  | .invokespecial _ => z_call o (z_def z_nb none false false pc)
  | .iconst k => (0, (0, 0, 0), z_iconst k o pc)
  | .bipush k => (0, (0, 0, 0), z_bipush k o pc)
  | .sipush k => (0, (0, 0, 0), z_sipush k o pc)
  | .lconst k => (0, (0, 0, 0), z_lconst k o pc)
  | .ldc _ => (0, (0, 0, 0), z_ldc o pc)
  | .ldc_w _ => (0, (0, 0, 0), z_ldc_w o pc)
  | .ldc2_w _ => (0, (0, 0, 0), z_ldc2_w o pc)
  | .iload k => (0, (0, 0, 0), z_iload k o pc)
  | .iload_n k => (0, (0, 0, 0), z_iload_n k o pc)
  | .lload k => (0, (0, 0, 0), z_lload k o pc)
  | .lload_n k => (0, (0, 0, 0), z_lload_n k o pc)
  | .aload k => (0, (0, 0, 0), z_aload k o pc)
  | .aload_n k => (0, (0, 0, 0), z_aload_n k o pc)
  | .istore k => (0, (0, 0, 0), z_istore k o pc)
  | .istore_n k => (0, (0, 0, 0), z_istore_n k o pc)
  | .lstore k => (0, (0, 0, 0), z_lstore k o pc)
  | .lstore_n k => (0, (0, 0, 0), z_lstore_n k o pc)
  | .astore_n k => (0, (0, 0, 0), z_astore_n k o pc)
  | .iinc k n => (0, (0, 0, 0), z_iinc k n o pc)
  | .iadd => (0, (0, 0, 0), z_iadd o pc)
  | .isub => (0, (0, 0, 0), z_isub o pc)
  | .ladd => (0, (0, 0, 0), z_ladd o pc)
  | .lsub => (0, (0, 0, 0), z_lsub o pc)
  | .lcmp => (0, (0, 0, 0), z_lcmp o pc)
  | .i2l => (0, (0, 0, 0), z_i2l o pc)
  | .l2i => (0, (0, 0, 0), z_l2i o pc)
  | .dup => (0, (0, 0, 0), z_dup o pc)
  | .pop => (0, (0, 0, 0), z_pop o pc)
  | .dup2 => (0, (0, 0, 0), z_dup2 o pc)
  | .pop2 => (0, (0, 0, 0), z_pop2 o pc)
  | .ifCond q off => (0, (0, 0, 0), z_ifCond q off o pc)
  | .if_icmp q off => (0, (0, 0, 0), z_if_icmp q off o pc)
  | .goto off => (0, (0, 0, 0), z_goto off o pc)
  | .tableswitch dflt lo hi offs => (0, (0, 0, 0), z_tableswitch dflt lo hi offs o pc)
  | .lookupswitch dflt ps => (0, (0, 0, 0), z_lookupswitch dflt ps o pc)
  | .getfield _ => (0, (0, 0, 0), z_getfield o pc)
  | .putfield _ => (0, (0, 0, 0), z_putfield o pc)
  | .getstatic _ => (0, (0, 0, 0), z_getstatic o pc)
  | .arraylength => (0, (0, 0, 0), z_arraylength o pc)
  | .iaload => (0, (0, 0, 0), z_iaload o pc)
  | .baload => (0, (0, 0, 0), z_baload o pc)
  | .laload => (0, (0, 0, 0), z_laload o pc)
  | .aaload => (0, (0, 0, 0), z_aaload o pc)
  | .iastore => (0, (0, 0, 0), z_iastore o pc)
  | .bastore => (0, (0, 0, 0), z_bastore o pc)
  | .lastore => (0, (0, 0, 0), z_lastore o pc)
  | .invokestatic _ => z_call o (z_invokestatic o pc)
  | .imul => (0, (0, 0, 0), z_def z_b_imul none false false pc)
  | .idiv => (0, (0, 0, 0), z_def z_b_idiv none false false pc)
  | .irem => (0, (0, 0, 0), z_def z_b_irem none false false pc)
  | .iand => (0, (0, 0, 0), z_def z_b_iand none false false pc)
  | .ior => (0, (0, 0, 0), z_def z_b_ior none false false pc)
  | .ixor => (0, (0, 0, 0), z_def z_b_ixor none false false pc)
  | .ishl => (0, (0, 0, 0), z_def z_b_ishl none false false pc)
  | .ishr => (0, (0, 0, 0), z_def z_b_ishr none false false pc)
  | .iushr => (0, (0, 0, 0), z_def z_b_iushr none false false pc)
  | .ineg => (0, (0, 0, 0), z_def z_nb (some fI) false false pc)
  | .i2b => (0, (0, 0, 0), z_def z_nb (some (-128, 127)) false false pc)
  | .i2s => (0, (0, 0, 0), z_def z_nb (some (-32768, 32767)) false false pc)
  | .i2c => (0, (0, 0, 0), z_def z_nb (some (0, 65535)) false false pc)
  | .land => (0, (0, 0, 0), z_def z_nb none true false pc)
  | .lor => (0, (0, 0, 0), z_def z_nb none true false pc)
  | .lxor => (0, (0, 0, 0), z_def z_nb none true false pc)
  | .lshl => (0, (0, 0, 0), z_def z_nb none false true pc)
  | .lshr => (0, (0, 0, 0), z_def z_nb none false true pc)
  | _ => (0, (0, 0, 0), z_def z_nb none false false pc)
theorem z_call_ok {i : Instr} {o : List Nat} {f : ZF} (h : callO i o = (match o with | [c, na, kd, _, _, _, _] => some (c, na, kd) | _ => none)) : (z_call o f).2.2 = f ∧ (match callO i o with | some q => (z_call o f).1 = 1 ∧ (z_call o f).2.1 = q | none => (z_call o f).1 = 0) := by
  rw [h]
  unfold z_call
  split <;> exact ⟨rfl, by simp⟩
theorem pr_ok (i : Instr) (o : List Nat) (pc : Nat) : (isRet i = true → (pr i o pc).1 = 2) ∧ (isRet i = false → (match callO i o with | some q => (pr i o pc).1 = 1 ∧ (pr i o pc).2.1 = q | none => (pr i o pc).1 = 0 ∧ ∀ W S, (pr i o pc).2.2 W S = asuc W i o pc S)) := by
  have k : ∀ {j : Instr} {f : ZF}, (callO j o = (match o with | [c, na, kd, _, _, _, _] => some (c, na, kd) | _ => none)) → (∀ W S, f W S = asuc W j o pc S) → (match callO j o with | some q => (z_call o f).1 = 1 ∧ (z_call o f).2.1 = q | none => (z_call o f).1 = 0 ∧ ∀ W S, (z_call o f).2.2 W S = asuc W j o pc S) := by
    intro j f hj hf
    obtain ⟨h1, h2⟩ := z_call_ok (f := f) hj
    cases e : callO j o with
    | some q =>
      rw [e] at h2
      exact h2
    | none =>
      rw [e] at h2
      exact ⟨h2, fun W S => by rw [h1]; exact hf W S⟩
  cases i <;> first
    | exact ⟨fun _ => rfl, fun h => (by cases h)⟩
    | exact ⟨fun h => (by cases h), fun _ => ⟨rfl, fun _ _ => rfl⟩⟩
    | exact ⟨fun h => (by cases h), fun _ => k rfl (fun _ _ => rfl)⟩
/-- the check, in small pieces -/
def az (code : List En) (TB : List Ctr) (T : Ctr) (cal : List (Nat × Nat)) (cuts : List Cut) (C0 : Option Cut) : Nat → Bool → Nat → AS → Bool
  | 0, _, _, _ => false
  | n + 1, fresh, pc, S =>
    if (!fresh && cuts.any (fun C => C.1 == pc)) = true then cuts.any (fun C => (C.1 == pc) && (cutFit (cB T).length S C && cutM C0 S C))
    else match code.find? (fun q => q.1 == pc) with
      | none => false
      | some q => match (pr q.2.1 q.2.2.2 q.1).1 with
        | 2 => okRet (cY T) (cB T).length (cP T) q.2.1 S
        | 1 => cal.any (fun p => (p.1 == q.1) && (match TB[p.2]? with
          | some T' => (match acall (cD T) (cW T) (cK T) S (pr q.2.1 q.2.2.2 q.1).2.1.1 (pr q.2.1 q.2.2.2 q.1).2.1.2.1 (pr q.2.1 q.2.2.2 q.1).2.1.2.2 T' with
            | some l => l.all (fun S' => az code TB T cal cuts C0 n false (q.1 + 3) S')
            | none => false)
          | none => false))
        | _ => match (pr q.2.1 q.2.2.2 q.1).2.2 (cW T) S with
          | some l => l.all (fun p => az code TB T cal cuts C0 n false p.1 p.2)
          | none => false
theorem az_ay {code : List En} {TB : List Ctr} {T : Ctr} {cal : List (Nat × Nat)} {cuts : List Cut} {C0 : Option Cut} : ∀ (n : Nat) (fresh : Bool) (pc : Nat) (S : AS), az code TB T cal cuts C0 n fresh pc S = ay code TB T cal cuts C0 n fresh pc S
  | 0, _, _, _ => rfl
  | n + 1, fresh, pc, S => by
    have ih : az code TB T cal cuts C0 n = ay code TB T cal cuts C0 n := by
      funext a b c
      exact az_ay n a b c
    rw [az, ay, ih]
    split
    · rfl
    · cases hf : code.find? (fun q => q.1 == pc) with
      | none => rfl
      | some q =>
        have hq : q.1 = pc := by simpa using List.find?_some hf
        subst hq
        obtain ⟨p1, p2⟩ := pr_ok q.2.1 q.2.2.2 q.1
        simp only
        cases hr : isRet q.2.1 with
        | true =>
          rw [p1 hr, if_pos rfl]
          rfl
        | false =>
          have p2 := p2 hr
          rw [if_neg (by decide)]
          cases hc : callO q.2.1 q.2.2.2 with
          | some c =>
            rw [hc] at p2
            obtain ⟨e1, e2⟩ := p2
            rw [e1, e2]
            rfl
          | none =>
            rw [hc] at p2
            obtain ⟨e1, e2⟩ := p2
            rw [e1, e2]
            rfl
def chz (TB : List Ctr) (T : Ctr) (cal : List (Nat × Nat)) (cuts : List Cut) (ml : Nat) : Bool :=
  (cA T).all tg3 && cuts.all (fun C => (kM C).length == ml) &&
  az (progs.getD (cY T) []) TB T cal cuts none FU false 0 (cB T, entP (mMaxL (cY T)) (cA T), [], cF T) &&
  cuts.all (fun C => az (progs.getD (cY T) []) TB T cal cuts (some C) FU true C.1 (C.2.1, C.2.2.1, [], kF C))
theorem chz_chk {TB : List Ctr} {T : Ctr} {cal : List (Nat × Nat)} {cuts : List Cut} {ml : Nat} : chz TB T cal cuts ml = chk TB T cal cuts ml := by
  unfold chz chk
  rw [az_ay]
  congr 1
  congr 1
  funext C
  exact az_ay _ _ _ _
def rowOK (TB : List Ctr) (r : Row) : Bool := match r.2.2.2.2 with
  | none => chz TB r.1 r.2.1 r.2.2.1 r.2.2.2.1
  | some j => chkJ TB r.1 j
theorem rowOK_good {J : JV} (hJ : JS J) {TB : List Ctr} {r : Row} (hG : ∀ T' ∈ TB, Good J T') (hKW : (cK r.1 == false || disW J.2 (cW r.1)) = true) (hc : rowOK TB r = true) : Good J r.1 := by
  have hKW : cK r.1 = false ∨ disW J.2 (cW r.1) = true := by
    rcases (Bool.or_eq_true _ _).mp hKW with q | q
    · exact Or.inl (by simpa using q)
    · exact Or.inr q
  unfold rowOK at hc
  split at hc
  · rw [chz_chk] at hc
    exact chk_good hJ hG hKW hc
  · exact chkJ_good hG hc
theorem tab_good {J : JV} {TB : List Ctr} : ∀ {n : Nat}, n ≤ TB.length → (∀ i (hi : i < TB.length), i < n → (∀ T' ∈ TB.take i, Good J T') → Good J TB[i]) → ∀ T ∈ TB.take n, Good J T
  | 0, _, _, T, hT => by simp at hT
  | n + 1, hn, h, T, hT => by
    have ih := tab_good (n := n) (by omega) (fun i hi hin hG => h i hi (by omega) hG)
    rw [List.take_succ_eq_append_getElem (by omega)] at hT
    rcases List.mem_append.mp hT with q | q
    · exact ih T q
    · rw [List.mem_singleton.mp q]
      exact h n (by omega) (by omega) ih
end JN47fast
section JN50table
/-! The contracts and the rows of their checks: printed by wip/gen/emit.py. -/
def w_0 : List (Nat × Nat) := [(1, 0), (2, 999), (3, 999), (4, 999), (5, 999), (6, 999)]
def w_1 : List (Nat × Nat) := [(18, 0), (18, 7), (18, 8), (18, 9), (18, 11), (18, 12), (19, 999), (20, 999), (21, 999), (22, 999), (23, 999), (24, 999), (25, 999)]
def w_2 : List (Nat × Nat) := [(17, 1), (17, 9), (17, 12), (17, 13), (17, 15), (18, 0), (18, 7), (18, 8), (18, 9), (18, 11), (18, 12), (19, 999), (20, 999), (21, 999), (22, 999), (23, 999), (24, 999), (25, 999)]
def w_3 : List (Nat × Nat) := [(46, 0), (46, 5), (63, 0), (63, 5), (68, 0), (68, 5), (73, 0), (73, 5), (78, 0), (78, 5), (83, 0), (83, 5), (88, 0), (88, 5)]
def w_4 : List (Nat × Nat) := [(46, 5), (50, 999), (63, 5), (67, 999), (68, 5), (72, 999), (73, 5), (77, 999), (78, 5), (82, 999), (83, 5), (87, 999), (88, 5), (92, 999)]
def w_5 : List (Nat × Nat) := [(44, 2), (46, 5), (50, 999), (63, 5), (67, 999), (68, 5), (72, 999), (73, 5), (77, 999), (78, 5), (82, 999), (83, 5), (87, 999), (88, 5), (92, 999)]
def w_6 : List (Nat × Nat) := [(46, 0), (47, 999), (48, 999), (49, 999), (63, 0), (64, 999), (65, 999), (66, 999), (68, 0), (69, 999), (70, 999), (71, 999), (73, 0), (74, 999), (75, 999), (76, 999), (78, 0), (79, 999), (80, 999), (81, 999), (83, 0), (84, 999), (85, 999), (86, 999), (88, 0), (89, 999), (90, 999), (91, 999)]
def w_7 : List (Nat × Nat) := [(44, 2), (46, 0), (46, 5), (47, 999), (48, 999), (49, 999), (50, 999), (63, 0), (63, 5), (64, 999), (65, 999), (66, 999), (67, 999), (68, 0), (68, 5), (69, 999), (70, 999), (71, 999), (72, 999), (73, 0), (73, 5), (74, 999), (75, 999), (76, 999), (77, 999), (78, 0), (78, 5), (79, 999), (80, 999), (81, 999), (82, 999), (83, 0), (83, 5), (84, 999), (85, 999), (86, 999), (87, 999), (88, 0), (88, 5), (89, 999), (90, 999), (91, 999), (92, 999)]
def w_8 : List (Nat × Nat) := [(44, 2), (44, 3), (46, 0), (46, 5), (47, 999), (48, 999), (49, 999), (50, 999), (63, 0), (63, 5), (64, 999), (65, 999), (66, 999), (67, 999), (68, 0), (68, 5), (69, 999), (70, 999), (71, 999), (72, 999), (73, 0), (73, 5), (74, 999), (75, 999), (76, 999), (77, 999), (78, 0), (78, 5), (79, 999), (80, 999), (81, 999), (82, 999), (83, 0), (83, 5), (84, 999), (85, 999), (86, 999), (87, 999), (88, 0), (88, 5), (89, 999), (90, 999), (91, 999), (92, 999)]
def w_9 : List (Nat × Nat) := [(0, 6), (1, 12), (44, 1), (44, 2), (44, 3), (46, 0), (46, 5), (47, 999), (48, 999), (49, 999), (50, 999), (63, 0), (63, 5), (64, 999), (65, 999), (66, 999), (67, 999), (68, 0), (68, 5), (69, 999), (70, 999), (71, 999), (72, 999), (73, 0), (73, 5), (74, 999), (75, 999), (76, 999), (77, 999), (78, 0), (78, 5), (79, 999), (80, 999), (81, 999), (82, 999), (83, 0), (83, 5), (84, 999), (85, 999), (86, 999), (87, 999), (88, 0), (88, 5), (89, 999), (90, 999), (91, 999), (92, 999)]
def w_10 : List (Nat × Nat) := [(9, 0), (9, 7), (9, 8), (9, 9), (9, 11), (9, 12), (10, 999), (11, 999), (12, 999), (13, 999), (14, 999), (15, 999), (16, 999)]
def w_11 : List (Nat × Nat) := [(0, 2), (9, 0), (9, 7), (9, 8), (9, 9), (9, 11), (9, 12), (10, 999), (11, 999), (12, 999), (13, 999), (14, 999), (15, 999), (16, 999)]
def w_12 : List (Nat × Nat) := [(1, 0), (1, 7), (1, 8), (1, 9), (1, 11), (1, 12), (2, 999), (3, 999), (4, 999), (5, 999), (6, 999), (7, 999), (8, 999)]
def w_13 : List (Nat × Nat) := [(57, 999), (58, 999), (59, 999), (60, 999), (61, 999), (62, 999)]
def w_14 : List (Nat × Nat) := [(54, 999), (55, 999), (57, 999), (58, 999), (59, 999), (60, 999), (61, 999), (62, 999)]
def w_15 : List (Nat × Nat) := [(93, 0), (93, 2), (94, 999), (95, 999), (96, 999), (97, 999), (98, 999), (99, 999)]
def w_16 : List (Nat × Nat) := [(93, 44), (93, 45), (93, 46), (93, 47), (93, 48), (93, 49), (93, 50), (115, 999), (116, 999), (117, 999), (118, 999), (119, 999), (120, 999), (121, 999)]
def w_17 : List (Nat × Nat) := [(93, 0), (93, 1), (93, 2), (93, 10), (93, 41), (93, 42), (94, 999), (95, 999), (96, 999), (97, 999), (98, 999), (99, 999), (114, 999)]
def w_18 : List (Nat × Nat) := [(17, 10), (17, 11), (31, 999), (32, 999), (33, 999), (34, 999), (35, 999), (36, 999), (37, 999)]
def w_19 : List (Nat × Nat) := [(17, 1), (17, 9), (17, 10), (17, 11), (17, 12), (17, 13), (17, 15), (18, 0), (18, 7), (18, 8), (18, 9), (18, 11), (18, 12), (19, 999), (20, 999), (21, 999), (22, 999), (23, 999), (24, 999), (25, 999), (31, 999), (32, 999), (33, 999), (34, 999), (35, 999), (36, 999), (37, 999)]
def w_20 : List (Nat × Nat) := [(1, 7), (1, 8), (17, 1), (17, 9), (17, 10), (17, 11), (17, 12), (17, 13), (17, 15), (18, 0), (18, 7), (18, 8), (18, 9), (18, 11), (18, 12), (19, 999), (20, 999), (21, 999), (22, 999), (23, 999), (24, 999), (25, 999), (31, 999), (32, 999), (33, 999), (34, 999), (35, 999), (36, 999), (37, 999)]
def w_21 : List (Nat × Nat) := [(17, 10), (17, 11), (18, 7), (18, 8), (31, 999), (32, 999), (33, 999), (34, 999), (35, 999), (36, 999), (37, 999)]
def w_22 : List (Nat × Nat) := [(17, 1), (17, 9), (17, 10), (17, 11), (17, 12), (17, 13), (17, 14), (17, 15), (18, 0), (18, 7), (18, 8), (18, 9), (18, 11), (18, 12), (19, 999), (20, 999), (21, 999), (22, 999), (23, 999), (24, 999), (25, 999), (31, 999), (32, 999), (33, 999), (34, 999), (35, 999), (36, 999), (37, 999)]
def w_23 : List (Nat × Nat) := [(17, 1), (17, 9), (17, 10), (17, 11), (17, 12), (17, 13), (17, 15), (17, 16), (18, 0), (18, 7), (18, 8), (18, 9), (18, 11), (18, 12), (19, 999), (20, 999), (21, 999), (22, 999), (23, 999), (24, 999), (25, 999), (31, 999), (32, 999), (33, 999), (34, 999), (35, 999), (36, 999), (37, 999)]
def w_24 : List (Nat × Nat) := [(93, 1), (93, 2), (93, 34), (93, 35), (109, 999), (110, 999)]
def w_25 : List (Nat × Nat) := [(93, 1), (93, 2), (93, 34), (93, 35), (93, 36), (93, 37), (109, 999), (110, 999)]
def w_26 : List (Nat × Nat) := [(93, 28), (93, 29), (93, 34), (93, 35), (109, 999), (110, 999)]
def w_27 : List (Nat × Nat) := [(93, 2), (93, 32), (93, 34), (93, 35), (109, 999), (110, 999)]
def k_0 : Ctr := (102, 0, [fI], [iT (1, 0)], [0], [([fI], [iT (0, 0)], [], []), ([(0, 9)], [iT (0, 1)], [], [])], [], false, [])
def k_1 : Ctr := (103, 0, [fI], [iT (1, 0)], [0], [([fI], [iT (0, 0)], [], []), ([(0, 6)], [iT (0, 1)], [], [])], [], false, [])
def k_2 : Ctr := (31, 0, [(0, 6), (0, 9), (0, 6), (0, 9), (0, 9)], [rT [1], iT (1, 0), iT (2, 0), iT (3, 0), iT (4, 0), iT (5, 0)], [1, 2, 3, 4, 5], [([(0, 6), (0, 9), (0, 6), (0, 9), (0, 9)], [iT (0, (-4))], [], []), ([(0, 6), (0, 9), (0, 6), (0, 9), (0, 9), (0, 6)], [iT (6, 0)], [], [(999999, 0)])], w_0, false, [])
def k_3 : Ctr := (63, 1, [fI, fI, fI, fI, fI], [rT [0], iT (1, 0), iT (2, 0), iT (3, 0), iT (4, 0), iT (5, 0)], [1, 2, 3, 4, 5], [([fI, fI, fI, fI, fI, ((-4), 6)], [iT (6, 0)], [], [(999999, 0)])], w_0, false, [])
def k_4 : Ctr := (26, 0, [fI], [rT [1], iT (1, 0)], [1], [([fI], [iT (0, 0)], [], []), ([(0, 6)], [iT (0, 1)], [], [])], [], false, [])
def k_5 : Ctr := (33, 0, [], [rT [18], rT [1]], [], [([], [], [], [])], w_1, false, [])
def k_6 : Ctr := (6, 1, [], [rT [17], rT [1], rT [63, 68, 73, 78, 83, 88]], [], [([], [], [], [])], w_2, false, [])
def k_7 : Ctr := (6, 1, [], [rT [17], rT [1], rT [39]], [], [([], [], [], [])], w_2, false, [])
def k_8 : Ctr := (100, 2, [], [rT [0]], [], [([], [], [], [])], w_2, false, [])
def k_9 : Ctr := (28, 0, [], [rT [18]], [], [([(0, 127)], [iT (1, 0)], [], [(999999, 0)])], [], false, [])
def k_10 : Ctr := (29, 1, [], [rT [18]], [], [([(0, 127)], [iT (1, 0)], [], [(999999, 0)])], [], false, [])
def k_11 : Ctr := (221, 0, [fI], [rT [32], iT (1, 0)], [1], [([fI], [], [], [])], [(32, 999)], false, [])
def k_12 : Ctr := (104, 0, [fI, (0, 6)], [iT (1, 0), iT (2, 0)], [0, 1], [([fI, (0, 6)], [iT (0, 0)], [], []), ([fI, (0, 6)], [iT (0, 1)], [], [])], [], false, [])
def k_13 : Ctr := (57, 0, [(0, 0)], [rT [26], iT (1, 0)], [1], [([(0, 0)], [iT (0, 0)], [], []), ([(0, 0)], [iT (0, 1)], [], [])], [], false, [])
def k_14 : Ctr := (57, 0, [(0, 0)], [rT [39], iT (1, 0)], [1], [([(0, 0)], [iT (0, 0)], [], []), ([(0, 0)], [iT (0, 1)], [], [])], [], false, [])
def k_15 : Ctr := (57, 0, [(0, 0)], [rT [63], iT (1, 0)], [1], [([(0, 0)], [iT (0, 0)], [], []), ([(0, 0)], [iT (0, 1)], [], [])], [], false, [])
def k_16 : Ctr := (57, 0, [(0, 0)], [rT [68], iT (1, 0)], [1], [([(0, 0)], [iT (0, 0)], [], []), ([(0, 0)], [iT (0, 1)], [], [])], [], false, [])
def k_17 : Ctr := (57, 0, [(0, 0)], [rT [73], iT (1, 0)], [1], [([(0, 0)], [iT (0, 0)], [], []), ([(0, 0)], [iT (0, 1)], [], [])], [], false, [])
def k_18 : Ctr := (57, 0, [(0, 0)], [rT [78], iT (1, 0)], [1], [([(0, 0)], [iT (0, 0)], [], []), ([(0, 0)], [iT (0, 1)], [], [])], [], false, [])
def k_19 : Ctr := (57, 0, [(0, 0)], [rT [83], iT (1, 0)], [1], [([(0, 0)], [iT (0, 0)], [], []), ([(0, 0)], [iT (0, 1)], [], [])], [], false, [])
def k_20 : Ctr := (57, 0, [(0, 0)], [rT [88], iT (1, 0)], [1], [([(0, 0)], [iT (0, 0)], [], []), ([(0, 0)], [iT (0, 1)], [], [])], [], false, [])
def k_21 : Ctr := (57, 0, [(0, 0)], [rT [26, 39, 63, 68, 73, 78, 83, 88], iT (1, 0)], [1], [([(0, 0)], [iT (0, 0)], [], []), ([(0, 0)], [iT (0, 1)], [], [])], [], false, [])
def k_22 : Ctr := (207, 0, [fI, (0, 0)], [iT (1, 0), iT (2, 0)], [0, 1], [([(0, 2147483647), (0, 0)], [iT (1, 0)], [], []), ([((-2147483648), (-1)), (0, 0)], [iT (2, 0)], [], [])], [], false, [])
def k_23 : Ctr := (61, 0, [fI], [iT (1, 0), rT [31]], [0], [([fI], [iT (0, 0)], [], []), ([fI], [iT (0, 1)], [], [])], [], false, [])
def k_24 : Ctr := (59, 1, [fI, fI], [rT [26], iT (1, 0), iT (2, 0), rT [31]], [1, 2], [([fI, fI], [iT (0, 0)], [], []), ([fI, fI], [iT (0, 1)], [], [])], [], false, [])
def k_25 : Ctr := (58, 2, [(0, 2)], [rT [26], iT (1, 0), rT [31]], [1], [([(0, 2), fI], [iT (2, 0)], [], [(999999, 0)])], [], false, [])
def k_26 : Ctr := (59, 1, [fI, fI], [rT [39], iT (1, 0), iT (2, 0), rT [31]], [1, 2], [([fI, fI], [iT (0, 0)], [], []), ([fI, fI], [iT (0, 1)], [], [])], [], false, [])
def k_27 : Ctr := (58, 2, [(0, 2)], [rT [39], iT (1, 0), rT [31]], [1], [([(0, 2), fI], [iT (2, 0)], [], [(999999, 0)])], [], false, [])
def k_28 : Ctr := (59, 1, [fI, fI], [rT [63], iT (1, 0), iT (2, 0), rT [31]], [1, 2], [([fI, fI], [iT (0, 0)], [], []), ([fI, fI], [iT (0, 1)], [], [])], [], false, [])
def k_29 : Ctr := (58, 2, [(0, 2)], [rT [63], iT (1, 0), rT [31]], [1], [([(0, 2), fI], [iT (2, 0)], [], [(999999, 0)])], [], false, [])
def k_30 : Ctr := (59, 1, [fI, fI], [rT [68], iT (1, 0), iT (2, 0), rT [31]], [1, 2], [([fI, fI], [iT (0, 0)], [], []), ([fI, fI], [iT (0, 1)], [], [])], [], false, [])
def k_31 : Ctr := (58, 2, [(0, 2)], [rT [68], iT (1, 0), rT [31]], [1], [([(0, 2), fI], [iT (2, 0)], [], [(999999, 0)])], [], false, [])
def k_32 : Ctr := (59, 1, [fI, fI], [rT [73], iT (1, 0), iT (2, 0), rT [31]], [1, 2], [([fI, fI], [iT (0, 0)], [], []), ([fI, fI], [iT (0, 1)], [], [])], [], false, [])
def k_33 : Ctr := (58, 2, [(0, 2)], [rT [73], iT (1, 0), rT [31]], [1], [([(0, 2), fI], [iT (2, 0)], [], [(999999, 0)])], [], false, [])
def k_34 : Ctr := (59, 1, [fI, fI], [rT [78], iT (1, 0), iT (2, 0), rT [31]], [1, 2], [([fI, fI], [iT (0, 0)], [], []), ([fI, fI], [iT (0, 1)], [], [])], [], false, [])
def k_35 : Ctr := (58, 2, [(0, 2)], [rT [78], iT (1, 0), rT [31]], [1], [([(0, 2), fI], [iT (2, 0)], [], [(999999, 0)])], [], false, [])
def k_36 : Ctr := (59, 1, [fI, fI], [rT [83], iT (1, 0), iT (2, 0), rT [31]], [1, 2], [([fI, fI], [iT (0, 0)], [], []), ([fI, fI], [iT (0, 1)], [], [])], [], false, [])
def k_37 : Ctr := (58, 2, [(0, 2)], [rT [83], iT (1, 0), rT [31]], [1], [([(0, 2), fI], [iT (2, 0)], [], [(999999, 0)])], [], false, [])
def k_38 : Ctr := (59, 1, [fI, fI], [rT [88], iT (1, 0), iT (2, 0), rT [31]], [1, 2], [([fI, fI], [iT (0, 0)], [], []), ([fI, fI], [iT (0, 1)], [], [])], [], false, [])
def k_39 : Ctr := (58, 2, [(0, 2)], [rT [88], iT (1, 0), rT [31]], [1], [([(0, 2), fI], [iT (2, 0)], [], [(999999, 0)])], [], false, [])
def k_40 : Ctr := (58, 2, [(0, 2)], [rT [26, 39, 63, 68, 73, 78, 83, 88], iT (1, 0), rT [31]], [1], [([(0, 2), fI], [iT (2, 0)], [], [(999999, 0)])], [], false, [])
def k_41 : Ctr := (206, 0, [((-6), 6)], [iT (1, 0)], [0], [([((-6), (-1)), fI], [iT (2, 0)], [], [(999999, 0)]), ([(0, 6)], [iT (1, 0)], [], [])], [], false, [])
def k_42 : Ctr := (12, 1, [(0, 6)], [rT [17], iT (1, 0)], [1], [([(0, 6)], [], [], [])], [(32, 999)], false, [])
def k_43 : Ctr := (204, 0, [fI], [iT (1, 0)], [0], [([fI, (0, 63)], [iT (2, 0)], [], [(999999, 0)])], [], false, [])
def k_44 : Ctr := (17, 1, [(0, 6)], [rT [17], iT (1, 0)], [1], [([(0, 6), (0, 6)], [iT (2, 0)], [], [(999999, 0)])], [], false, [])
def k_45 : Ctr := (16, 1, [(0, 6)], [rT [17], iT (1, 0)], [1], [([(0, 6), (0, 6)], [iT (2, 0)], [], [(999999, 0)])], [], false, [])
def k_46 : Ctr := (26, 0, [fI], [rT [18], iT (1, 0)], [1], [([fI], [iT (0, 0)], [], []), ([(0, 6)], [iT (0, 1)], [], [])], [], false, [])
def k_47 : Ctr := (208, 0, [(0, 7), (3, 6)], [iT (1, 0), iT (2, 0)], [0, 1], [([(0, 6), (3, 6)], [iT (1, 0)], [], []), ([(4, 7), (3, 6)], [iT (2, 0)], [], [])], [], false, [])
def k_48 : Ctr := (23, 0, [(0, 6)], [rT [17], iT (1, 0)], [1], [([(0, 6), (0, 19)], [iT (2, 0)], [], [(999999, 0)])], [], false, [])
def k_49 : Ctr := (21, 1, [(0, 6), (0, 6)], [rT [17], iT (1, 0), iT (2, 0)], [1, 2], [([(0, 6), (0, 6)], [iT (2, 1)], [], [])], [(37, 999)], false, [])
def k_50 : Ctr := (22, 1, [(0, 7), (0, 6)], [rT [17], iT (1, 0)], [1, 100], [([(0, 7), (0, 6)], [iT (1, 1)], [], [])], [(37, 999)], false, [(17, 15, (2, 0))])
def k_51 : Ctr := (20, 2, [], [rT [17]], [], [([(0, 8)], [iT (1, 0)], [], [(999999, 0)])], [(37, 999)], false, [])
def k_52 : Ctr := (18, 1, [(0, 6)], [rT [17], iT (1, 0)], [1], [([(0, 6)], [iT (0, 0)], [], []), ([(0, 6), fI], [iT (2, 0)], [], [(999999, 0)])], [], false, [])
def k_53 : Ctr := (19, 1, [fI], [rT [17], iT (1, 0)], [1], [([fI, fI], [iT (2, 0)], [], [(999999, 0)])], [], false, [])
def k_54 : Ctr := (27, 1, [(0, 6)], [rT [1], iT (1, 0)], [1], [([(0, 6)], [iT (0, 0)], [], []), ([(0, 6)], [iT (0, 1)], [], [])], [], false, [])
def k_55 : Ctr := (65, 1, [fI, fI, fI], [rT [0], iT (1, 0), iT (2, 0), iT (3, 0)], [1, 2, 3], [([fI, fI, fI], [iT (0, (-1))], [], []), ([(0, 6), (0, 1), fI], [iT (0, (-2))], [], []), ([(0, 6), (0, 1), (0, 9), (0, 9)], [iT (4, 0)], [], [(999999, 0)])], [(4, 999), (6, 999)], false, [])
def k_56 : Ctr := (66, 2, [fI, (0, 1)], [rT [0], iT (1, 0), iT (2, 0)], [1, 2], [([fI, (0, 1)], [iT (0, (-1))], [], []), ([(0, 6), (0, 1)], [iT (0, 0)], [], []), ([(0, 6), (0, 1)], [iT (0, 1)], [], [])], [(1, 7)], false, [])
def k_57 : Ctr := (67, 1, [fI, fI, fI], [rT [0], iT (1, 0), iT (2, 0), iT (3, 0)], [1, 2, 3], [([fI, fI, fI, ((-3), 6)], [iT (4, 0)], [], [(999999, 0)])], [(7, 999)], false, [])
def k_58 : Ctr := (41, 0, [(0, 127)], [rT [44], iT (1, 0)], [1], [([(0, 127)], [iT (0, 0)], [], []), ([(0, 127)], [iT (0, 1)], [], [])], [(44, 1), (45, 999)], false, [])
def k_59 : Ctr := (68, 1, [fI], [rT [0], iT (1, 0)], [1], [([fI], [iT (0, (-2))], [], []), ([(0, 127)], [iT (0, (-4))], [], []), ([(0, 127), (0, 100)], [iT (2, 0)], [], [(999999, 0)])], [(44, 1), (45, 999)], false, [])
def k_60 : Ctr := (54, 0, [], [rT [46]], [], [([], [], [], [])], [(46, 0), (46, 5)], false, [])
def k_61 : Ctr := (54, 0, [], [rT [63]], [], [([], [], [], [])], [(63, 0), (63, 5)], false, [])
def k_62 : Ctr := (54, 0, [], [rT [68]], [], [([], [], [], [])], [(68, 0), (68, 5)], false, [])
def k_63 : Ctr := (54, 0, [], [rT [73]], [], [([], [], [], [])], [(73, 0), (73, 5)], false, [])
def k_64 : Ctr := (54, 0, [], [rT [78]], [], [([], [], [], [])], [(78, 0), (78, 5)], false, [])
def k_65 : Ctr := (54, 0, [], [rT [83]], [], [([], [], [], [])], [(83, 0), (83, 5)], false, [])
def k_66 : Ctr := (54, 0, [], [rT [88]], [], [([], [], [], [])], [(88, 0), (88, 5)], false, [])
def k_67 : Ctr := (54, 0, [], [rT [46, 63, 68, 73, 78, 83, 88]], [], [([], [], [], [])], w_3, false, [])
def k_68 : Ctr := (49, 0, [], [rT [44]], [], [([(0, 100)], [iT (0, 0)], [(44, 2, (1, 0))], [(44, 2)]), ([(0, 99)], [iT (0, 1)], [(44, 2, (1, 0))], [(44, 2)])], [], false, [])
def k_69 : Ctr := (50, 1, [(0, 65535)], [rT [44], iT (1, 0)], [1], [([(0, 65535), (0, 100)], [iT (0, 0)], [(44, 2, (2, 0))], [(44, 2)]), ([(0, 127), (1, 100)], [iT (0, 1)], [(44, 2, (2, 0))], [(44, 2)])], [(44, 2)], false, [])
def k_70 : Ctr := (213, 0, [], [rT [1000003]], [], [([], [iT (0, 0)], [], [])], [], false, [])
def k_71 : Ctr := (209, 1, [], [rT [1000003]], [], [([(0, 4)], [iT (1, 0)], [], [(999999, 0)])], [], false, [])
def k_72 : Ctr := (214, 0, [], [rT [1000003]], [], [([], [iT (0, 1)], [], [])], [], false, [])
def k_73 : Ctr := (222, 0, [(0, 3), (4, 4)], [iT (1, 0), iT (2, 0), rT [1000013]], [0, 1], [([(0, 3), (4, 4)], [iT (1, 0)], [], [])], [], false, [])
def k_74 : Ctr := (215, 1, [(0, 3), (4, 4)], [iT (1, 0), iT (2, 0)], [0, 1], [([(0, 3), (4, 4)], [], [], [])], [], false, [])
def k_75 : Ctr := (216, 2, [(0, 3)], [rT [1000008], iT (1, 0)], [1], [([(0, 3), (0, 65535)], [iT (2, 0)], [], [(999999, 0)])], [], false, [])
def k_76 : Ctr := (210, 3, [(0, 3)], [rT [1000003], iT (1, 0)], [1], [([(0, 3), (0, 65535)], [iT (2, 0)], [], [(999999, 0)])], [], false, [])
def k_77 : Ctr := (51, 4, [], [rT [44], rT [1000003]], [], [([(0, 100)], [iT (0, 0)], [(44, 2, (1, 0))], [(44, 2)]), ([], [iT (0, 1)], [], [])], [(44, 2)], false, [])
def k_78 : Ctr := (213, 0, [], [rT [1000004]], [], [([], [iT (0, 0)], [], [])], [], false, [])
def k_79 : Ctr := (209, 1, [], [rT [1000004]], [], [([(0, 3)], [iT (1, 0)], [], [(999999, 0)])], [], false, [])
def k_80 : Ctr := (214, 0, [], [rT [1000004]], [], [([], [iT (0, 1)], [], [])], [], false, [])
def k_81 : Ctr := (222, 0, [(0, 2), (3, 3)], [iT (1, 0), iT (2, 0), rT [1000013]], [0, 1], [([(0, 2), (3, 3)], [iT (1, 0)], [], [])], [], false, [])
def k_82 : Ctr := (215, 1, [(0, 2), (3, 3)], [iT (1, 0), iT (2, 0)], [0, 1], [([(0, 2), (3, 3)], [], [], [])], [], false, [])
def k_83 : Ctr := (216, 2, [(0, 2)], [rT [1000009], iT (1, 0)], [1], [([(0, 2), (0, 65535)], [iT (2, 0)], [], [(999999, 0)])], [], false, [])
def k_84 : Ctr := (210, 3, [(0, 2)], [rT [1000004], iT (1, 0)], [1], [([(0, 2), (0, 65535)], [iT (2, 0)], [], [(999999, 0)])], [], false, [])
def k_85 : Ctr := (51, 4, [], [rT [44], rT [1000004]], [], [([(0, 100)], [iT (0, 0)], [(44, 2, (1, 0))], [(44, 2)]), ([], [iT (0, 1)], [], [])], [(44, 2)], false, [])
def k_86 : Ctr := (213, 0, [], [rT [1000005]], [], [([], [iT (0, 0)], [], [])], [], false, [])
def k_87 : Ctr := (209, 1, [], [rT [1000005]], [], [([(0, 4)], [iT (1, 0)], [], [(999999, 0)])], [], false, [])
def k_88 : Ctr := (214, 0, [], [rT [1000005]], [], [([], [iT (0, 1)], [], [])], [], false, [])
def k_89 : Ctr := (216, 2, [(0, 3)], [rT [1000010], iT (1, 0)], [1], [([(0, 3), (0, 65535)], [iT (2, 0)], [], [(999999, 0)])], [], false, [])
def k_90 : Ctr := (210, 3, [(0, 3)], [rT [1000005], iT (1, 0)], [1], [([(0, 3), (0, 65535)], [iT (2, 0)], [], [(999999, 0)])], [], false, [])
def k_91 : Ctr := (51, 4, [], [rT [44], rT [1000005]], [], [([(0, 100)], [iT (0, 0)], [(44, 2, (1, 0))], [(44, 2)]), ([], [iT (0, 1)], [], [])], [(44, 2)], false, [])
def k_92 : Ctr := (44, 5, [], [rT [44]], [], [([(0, 100)], [iT (0, (-1))], [(44, 2, (1, 0))], [(44, 2)]), ([], [iT (0, 0)], [], []), ([], [iT (0, 1)], [], []), ([], [iT (0, 2)], [], [])], [(44, 2)], false, [])
def k_93 : Ctr := (45, 1, [], [rT [44]], [], [([(0, 100)], [iT (0, (-1))], [(44, 2, (1, 0))], [(44, 2)]), ([fI], [iT (1, 0)], [], [(999999, 0)])], [(44, 2)], false, [])
def k_94 : Ctr := (214, 0, [], [rT [1000006]], [], [([], [iT (0, 1)], [], [])], [], false, [])
def k_95 : Ctr := (213, 0, [], [rT [1000006]], [], [([], [iT (0, 0)], [], [])], [], false, [])
def k_96 : Ctr := (209, 1, [], [rT [1000006]], [], [([(0, 6)], [iT (1, 0)], [], [(999999, 0)])], [], false, [])
def k_97 : Ctr := (217, 0, [(0, 65535)], [iT (1, 0)], [0], [([(256, 65535)], [iT (0, 0)], [], []), ([(0, 255)], [iT (0, 1)], [], [])], [], false, [])
def k_98 : Ctr := (219, 0, [(0, 255), (0, 0), (1, 6)], [rT [1000011], iT (1, 0), iT (2, 0), iT (3, 0)], [1, 2, 3], [([(0, 255), (0, 0), (1, 6)], [iT (0, (-1))], [], []), ([(0, 255), (0, 0), (1, 6), (0, 5)], [iT (4, 0)], [], [(999999, 0)])], [], false, [])
def k_99 : Ctr := (218, 1, [(0, 65535), (0, 0), (0, 6)], [rT [1000011], iT (1, 0), iT (2, 0), iT (3, 0)], [1, 2, 3], [([(0, 65535), (0, 0), (0, 6)], [iT (0, (-1))], [], []), ([(0, 255), (0, 0), (1, 6), (0, 5)], [iT (4, 0)], [], [(999999, 0)])], [], false, [])
def k_100 : Ctr := (212, 2, [(0, 65535), (0, 0)], [rT [1000006], iT (1, 0), iT (2, 0)], [1, 2], [([(0, 65535), (0, 0)], [iT (0, (-1))], [], []), ([(0, 255), (0, 0), (0, 5)], [iT (3, 0)], [], [(999999, 0)])], [], false, [])
def k_101 : Ctr := (211, 3, [(0, 65535)], [rT [1000006], iT (1, 0)], [1], [([(0, 65535)], [iT (0, (-1))], [], []), ([(0, 255), (0, 5)], [iT (2, 0)], [], [(999999, 0)])], [], false, [])
def k_102 : Ctr := (52, 4, [], [rT [44], rT [1000006]], [], [([(0, 100)], [iT (0, (-1))], [(44, 2, (1, 0))], [(44, 2)]), ([(0, 5), (1, 100)], [iT (1, 0)], [(44, 2, (2, 0))], [(999999, 0), (44, 2)])], [(44, 2)], false, [])
def k_103 : Ctr := (214, 0, [], [rT [1000007]], [], [([], [iT (0, 1)], [], [])], [], false, [])
def k_104 : Ctr := (213, 0, [], [rT [1000007]], [], [([], [iT (0, 0)], [], [])], [], false, [])
def k_105 : Ctr := (209, 1, [], [rT [1000007]], [], [([(0, 3)], [iT (1, 0)], [], [(999999, 0)])], [], false, [])
def k_106 : Ctr := (219, 0, [(0, 255), (0, 0), (1, 3)], [rT [1000012], iT (1, 0), iT (2, 0), iT (3, 0)], [1, 2, 3], [([(0, 255), (0, 0), (1, 3)], [iT (0, (-1))], [], []), ([(0, 255), (0, 0), (1, 3), (0, 2)], [iT (4, 0)], [], [(999999, 0)])], [], false, [])
def k_107 : Ctr := (218, 1, [(0, 65535), (0, 0), (0, 3)], [rT [1000012], iT (1, 0), iT (2, 0), iT (3, 0)], [1, 2, 3], [([(0, 65535), (0, 0), (0, 3)], [iT (0, (-1))], [], []), ([(0, 255), (0, 0), (1, 3), (0, 2)], [iT (4, 0)], [], [(999999, 0)])], [], false, [])
def k_108 : Ctr := (212, 2, [(0, 65535), (0, 0)], [rT [1000007], iT (1, 0), iT (2, 0)], [1, 2], [([(0, 65535), (0, 0)], [iT (0, (-1))], [], []), ([(0, 255), (0, 0), (0, 2)], [iT (3, 0)], [], [(999999, 0)])], [], false, [])
def k_109 : Ctr := (211, 3, [(0, 65535)], [rT [1000007], iT (1, 0)], [1], [([(0, 65535)], [iT (0, (-1))], [], []), ([(0, 255), (0, 2)], [iT (2, 0)], [], [(999999, 0)])], [], false, [])
def k_110 : Ctr := (52, 4, [], [rT [44], rT [1000007]], [], [([(0, 100)], [iT (0, (-1))], [(44, 2, (1, 0))], [(44, 2)]), ([(0, 2), (1, 100)], [iT (1, 0)], [(44, 2, (2, 0))], [(999999, 0), (44, 2)])], [(44, 2)], false, [])
def k_111 : Ctr := (60, 0, [(0, 5), (0, 2), (0, 2147483647)], [iT (1, 0), iT (2, 0), iT (3, 0)], [0, 1, 2], [([(0, 5), (0, 2), (0, 2147483647), fI], [iT (4, 0)], [], [(999999, 0)])], [], false, [])
def k_112 : Ctr := (55, 0, [fI], [rT [46], iT (1, 0)], [1], [([fI], [], [], [])], [(46, 5), (50, 999)], false, [])
def k_113 : Ctr := (55, 0, [fI], [rT [63], iT (1, 0)], [1], [([fI], [], [], [])], [(63, 5), (67, 999)], false, [])
def k_114 : Ctr := (55, 0, [fI], [rT [68], iT (1, 0)], [1], [([fI], [], [], [])], [(68, 5), (72, 999)], false, [])
def k_115 : Ctr := (55, 0, [fI], [rT [73], iT (1, 0)], [1], [([fI], [], [], [])], [(73, 5), (77, 999)], false, [])
def k_116 : Ctr := (55, 0, [fI], [rT [78], iT (1, 0)], [1], [([fI], [], [], [])], [(78, 5), (82, 999)], false, [])
def k_117 : Ctr := (55, 0, [fI], [rT [83], iT (1, 0)], [1], [([fI], [], [], [])], [(83, 5), (87, 999)], false, [])
def k_118 : Ctr := (55, 0, [fI], [rT [88], iT (1, 0)], [1], [([fI], [], [], [])], [(88, 5), (92, 999)], false, [])
def k_119 : Ctr := (55, 0, [fI], [rT [46, 63, 68, 73, 78, 83, 88], iT (1, 0)], [1], [([fI], [], [], [])], w_4, false, [])
def k_120 : Ctr := (48, 5, [], [rT [44], iT (0, 4)], [], [([], [iT (0, 0)], [], []), ([], [iT (0, 1)], [], [])], w_5, false, [])
def k_121 : Ctr := (47, 6, [], [rT [44], iT (0, 4)], [], [([(0, 1)], [iT (1, 0)], [], [(999999, 0)])], w_5, false, [])
def k_122 : Ctr := (46, 7, [], [rT [44], iT (0, 4)], [], [([(0, 1)], [iT (1, 0)], [], [(999999, 0)])], w_5, false, [])
def k_123 : Ctr := (48, 8, [], [rT [44], iT (0, 3)], [], [([], [iT (0, 0)], [], []), ([], [iT (0, 1)], [], [])], w_5, false, [])
def k_124 : Ctr := (47, 9, [], [rT [44], iT (0, 3)], [], [([(0, 1)], [iT (1, 0)], [], [(999999, 0)])], w_5, false, [])
def k_125 : Ctr := (46, 10, [], [rT [44], iT (0, 3)], [], [([(0, 1)], [iT (1, 0)], [], [(999999, 0)])], w_5, false, [])
def k_126 : Ctr := (48, 11, [], [rT [44], iT (0, 2)], [], [([], [iT (0, 0)], [], []), ([], [iT (0, 1)], [], [])], w_5, false, [])
def k_127 : Ctr := (47, 12, [], [rT [44], iT (0, 2)], [], [([(0, 1)], [iT (1, 0)], [], [(999999, 0)])], w_5, false, [])
def k_128 : Ctr := (46, 13, [], [rT [44], iT (0, 2)], [], [([(0, 1)], [iT (1, 0)], [], [(999999, 0)])], w_5, false, [])
def k_129 : Ctr := (48, 14, [], [rT [44], iT (0, 1)], [], [([], [iT (0, 0)], [], []), ([], [iT (0, 1)], [], [])], w_5, false, [])
def k_130 : Ctr := (47, 15, [], [rT [44], iT (0, 1)], [], [([(0, 1)], [iT (1, 0)], [], [(999999, 0)])], w_5, false, [])
def k_131 : Ctr := (46, 16, [], [rT [44], iT (0, 1)], [], [([(0, 1)], [iT (1, 0)], [], [(999999, 0)])], w_5, false, [])
def k_132 : Ctr := (48, 17, [], [rT [44], iT (0, 0)], [], [([], [iT (0, 0)], [], []), ([], [iT (0, 1)], [], [])], w_5, false, [])
def k_133 : Ctr := (47, 18, [], [rT [44], iT (0, 0)], [], [([(0, 1)], [iT (1, 0)], [], [(999999, 0)])], w_5, false, [])
def k_134 : Ctr := (46, 19, [], [rT [44], iT (0, 0)], [], [([(0, 1)], [iT (1, 0)], [], [(999999, 0)])], w_5, false, [])
def k_135 : Ctr := (56, 0, [(0, 2), (0, 2147483647)], [rT [46], iT (1, 0), iT (2, 0)], [1, 2], [([(0, 2), (0, 2147483647)], [], [], [])], [(46, 0), (47, 999), (48, 999), (49, 999)], false, [])
def k_136 : Ctr := (56, 0, [(0, 2), (0, 2147483647)], [rT [63], iT (1, 0), iT (2, 0)], [1, 2], [([(0, 2), (0, 2147483647)], [], [], [])], [(63, 0), (64, 999), (65, 999), (66, 999)], false, [])
def k_137 : Ctr := (56, 0, [(0, 2), (0, 2147483647)], [rT [68], iT (1, 0), iT (2, 0)], [1, 2], [([(0, 2), (0, 2147483647)], [], [], [])], [(68, 0), (69, 999), (70, 999), (71, 999)], false, [])
def k_138 : Ctr := (56, 0, [(0, 2), (0, 2147483647)], [rT [73], iT (1, 0), iT (2, 0)], [1, 2], [([(0, 2), (0, 2147483647)], [], [], [])], [(73, 0), (74, 999), (75, 999), (76, 999)], false, [])
def k_139 : Ctr := (56, 0, [(0, 2), (0, 2147483647)], [rT [78], iT (1, 0), iT (2, 0)], [1, 2], [([(0, 2), (0, 2147483647)], [], [], [])], [(78, 0), (79, 999), (80, 999), (81, 999)], false, [])
def k_140 : Ctr := (56, 0, [(0, 2), (0, 2147483647)], [rT [83], iT (1, 0), iT (2, 0)], [1, 2], [([(0, 2), (0, 2147483647)], [], [], [])], [(83, 0), (84, 999), (85, 999), (86, 999)], false, [])
def k_141 : Ctr := (56, 0, [(0, 2), (0, 2147483647)], [rT [88], iT (1, 0), iT (2, 0)], [1, 2], [([(0, 2), (0, 2147483647)], [], [], [])], [(88, 0), (89, 999), (90, 999), (91, 999)], false, [])
def k_142 : Ctr := (56, 0, [(0, 2), (0, 2147483647)], [rT [46, 63, 68, 73, 78, 83, 88], iT (1, 0), iT (2, 0)], [1, 2], [([(0, 2), (0, 2147483647)], [], [], [])], w_6, false, [])
def k_143 : Ctr := (43, 20, [], [rT [44]], [], [([], [iT (0, 0)], [], []), ([], [iT (0, 1)], [], [])], w_7, false, [])
def k_144 : Ctr := (42, 21, [], [rT [44], rT [63, 68, 73, 78, 83, 88]], [], [([(0, 100)], [iT (0, (-1))], [(44, 2, (1, 0))], [(44, 2)]), ([(0, 100), (0, 100)], [iT (1, 0)], [(44, 2, (2, 0))], [(999999, 0), (44, 2)])], w_8, false, [])
def k_145 : Ctr := (69, 22, [], [rT [0]], [], [([], [iT (0, (-4))], [], []), ([((-110), 5), (0, 100)], [iT (1, 0)], [(44, 2, (2, 0))], [(999999, 0), (44, 2)])], w_9, false, [])
def k_146 : Ctr := (28, 0, [], [rT [1]], [], [([(0, 127)], [iT (1, 0)], [], [(999999, 0)])], [], false, [])
def k_147 : Ctr := (29, 1, [], [rT [1]], [], [([(0, 127)], [iT (1, 0)], [], [(999999, 0)])], [], false, [])
def k_148 : Ctr := (70, 2, [fI], [rT [0], iT (1, 0)], [1], [([fI], [iT (0, (-1))], [], []), ([(0, 2), fI], [iT (2, 0)], [], [(999999, 0)])], [], false, [])
def k_149 : Ctr := (105, 1, [(0, 127)], [iT (1, 0)], [0], [([(0, 127)], [iT (0, (-5))], [], []), ([(0, 127), (0, 6)], [iT (2, 0)], [], [(999999, 0)])], [], false, [])
def k_150 : Ctr := (7, 0, [(0, 6), (0, 6)], [rT [17], iT (1, 0), iT (2, 0)], [1, 2], [([(0, 6), (0, 6)], [], [], [])], [(17, 13), (17, 14)], false, [])
def k_151 : Ctr := (106, 0, [((-2), 3)], [iT (1, 0)], [0], [([((-2), 0)], [iT (0, 1)], [], []), ([(3, 3)], [iT (0, 343)], [], []), ([(2, 2)], [iT (0, 49)], [], []), ([(1, 1)], [iT (0, 7)], [], [])], [], false, [])
def k_152 : Ctr := (8, 0, [(0, 6), (0, 6)], [rT [17], iT (1, 0), iT (2, 0)], [1, 2], [([(0, 6), (0, 6)], [], [], [])], [(17, 15), (17, 16)], false, [])
def k_153 : Ctr := (30, 1, [fI], [rT [1], iT (1, 0)], [1], [([fI], [iT (0, 0)], [], []), ([fI], [iT (0, 1)], [], [])], [], false, [])
def k_154 : Ctr := (82, 2, [fI], [rT [0], iT (1, 0)], [1], [([fI], [iT (0, (-2))], [], []), ([fI, fI], [iT (2, 0)], [], [(999999, 0)])], [(1, 9)], false, [])
def k_155 : Ctr := (107, 0, [fI, (1, 30), (0, 1)], [iT (1, 0), iT (2, 0), iT (3, 0)], [0, 1, 2], [([fI, (1, 30), (0, 1)], [lT (0, (-9223372036854775808))], [], []), ([fI, (1, 30), (0, 1), fI], [lT (4, 0)], [], [(999999, 0)])], [], false, [])
def k_156 : Ctr := (86, 2, [fI], [rT [0], iT (1, 0)], [1], [([fI, ((-4), 12)], [iT (2, 0)], [], [(999999, 0)])], [(1, 11), (8, 999)], false, [])
def k_157 : Ctr := (35, 0, [fI], [rT [53], iT (1, 0)], [1], [([fI], [iT (0, 0)], [], []), ([(0, 5)], [iT (0, 1)], [], [])], [], false, [])
def k_158 : Ctr := (36, 1, [(0, 5), fI], [rT [53], iT (1, 0), lT (2, 0)], [1, 2], [([(0, 5), fI], [iT (0, 0)], [], []), ([(0, 5), (0, 59)], [iT (0, 1)], [], [])], [], false, [])
def k_159 : Ctr := (88, 2, [fI, fI], [rT [0], iT (1, 0), iT (2, 0)], [1, 2], [([fI, fI, ((-12), 106)], [iT (3, 0)], [], [(999999, 0)])], [], false, [])
def k_160 : Ctr := (33, 0, [], [rT [9], rT [1]], [], [([], [], [], [])], w_10, false, [])
def k_161 : Ctr := (89, 1, [], [rT [0]], [], [([(0, 7)], [iT (1, 0)], [], [(999999, 0)])], w_11, false, [])
def k_162 : Ctr := (33, 0, [], [rT [1], rT [9]], [], [([], [], [], [])], w_12, false, [])
def k_163 : Ctr := (90, 1, [], [rT [0]], [], [([], [iT (0, (-3))], [], []), ([(0, 7)], [iT (1, 0)], [], [(999999, 0)])], w_12, false, [])
def k_164 : Ctr := (3, 0, [(0, 2), fI], [iT (1, 0), iT (2, 0)], [0, 1], [([(0, 2), fI], [iT (0, (-1))], [], []), ([(0, 2), fI, (0, 6)], [iT (3, 0)], [], [(999999, 0)])], [], false, [])
def k_165 : Ctr := (4, 0, [(0, 71)], [rT [51], iT (1, 0)], [1], [([(0, 71)], [], [], [])], [(51, 4), (52, 999)], false, [])
def k_166 : Ctr := (2, 1, [(0, 2), fI, fI], [rT [51], iT (1, 0), iT (2, 0), iT (3, 0), iT (0, 41)], [1, 2, 3], [([(0, 2), fI, fI], [iT (0, 0)], [], [])], [], false, [])
def k_167 : Ctr := (2, 2, [(0, 2), fI, fI], [rT [51], iT (1, 0), iT (2, 0), iT (3, 0), iT (0, 40)], [1, 2, 3], [([(0, 2), fI, fI], [iT (0, 0)], [], []), ([(0, 2), fI, fI, fI], [iT (4, 0)], [], [(999999, 0)])], [(51, 4), (52, 999)], false, [])
def k_168 : Ctr := (2, 3, [(0, 2), fI, fI], [rT [51], iT (1, 0), iT (2, 0), iT (3, 0), iT (0, 39)], [1, 2, 3], [([(0, 2), fI, fI], [iT (0, 0)], [], []), ([(0, 2), fI, fI, fI], [iT (4, 0)], [], [(999999, 0)])], [(51, 4), (52, 999)], false, [])
def k_169 : Ctr := (2, 4, [(0, 2), fI, fI], [rT [51], iT (1, 0), iT (2, 0), iT (3, 0), iT (0, 38)], [1, 2, 3], [([(0, 2), fI, fI], [iT (0, 0)], [], []), ([(0, 2), fI, fI, fI], [iT (4, 0)], [], [(999999, 0)])], [(51, 4), (52, 999)], false, [])
def k_170 : Ctr := (2, 5, [(0, 2), fI, fI], [rT [51], iT (1, 0), iT (2, 0), iT (3, 0), iT (0, 37)], [1, 2, 3], [([(0, 2), fI, fI], [iT (0, 0)], [], []), ([(0, 2), fI, fI, fI], [iT (4, 0)], [], [(999999, 0)])], [(51, 4), (52, 999)], false, [])
def k_171 : Ctr := (2, 6, [(0, 2), fI, fI], [rT [51], iT (1, 0), iT (2, 0), iT (3, 0), iT (0, 36)], [1, 2, 3], [([(0, 2), fI, fI], [iT (0, 0)], [], []), ([(0, 2), fI, fI, fI], [iT (4, 0)], [], [(999999, 0)])], [(51, 4), (52, 999)], false, [])
def k_172 : Ctr := (2, 7, [(0, 2), fI, fI], [rT [51], iT (1, 0), iT (2, 0), iT (3, 0), iT (0, 35)], [1, 2, 3], [([(0, 2), fI, fI], [iT (0, 0)], [], []), ([(0, 2), fI, fI, fI], [iT (4, 0)], [], [(999999, 0)])], [(51, 4), (52, 999)], false, [])
def k_173 : Ctr := (2, 8, [(0, 2), fI, fI], [rT [51], iT (1, 0), iT (2, 0), iT (3, 0), iT (0, 34)], [1, 2, 3], [([(0, 2), fI, fI], [iT (0, 0)], [], []), ([(0, 2), fI, fI, fI], [iT (4, 0)], [], [(999999, 0)])], [(51, 4), (52, 999)], false, [])
def k_174 : Ctr := (2, 9, [(0, 2), fI, fI], [rT [51], iT (1, 0), iT (2, 0), iT (3, 0), iT (0, 33)], [1, 2, 3], [([(0, 2), fI, fI], [iT (0, 0)], [], []), ([(0, 2), fI, fI, fI], [iT (4, 0)], [], [(999999, 0)])], [(51, 4), (52, 999)], false, [])
def k_175 : Ctr := (2, 10, [(0, 2), fI, fI], [rT [51], iT (1, 0), iT (2, 0), iT (3, 0), iT (0, 32)], [1, 2, 3], [([(0, 2), fI, fI], [iT (0, 0)], [], []), ([(0, 2), fI, fI, fI], [iT (4, 0)], [], [(999999, 0)])], [(51, 4), (52, 999)], false, [])
def k_176 : Ctr := (2, 11, [(0, 2), fI, fI], [rT [51], iT (1, 0), iT (2, 0), iT (3, 0), iT (0, 31)], [1, 2, 3], [([(0, 2), fI, fI], [iT (0, 0)], [], []), ([(0, 2), fI, fI, fI], [iT (4, 0)], [], [(999999, 0)])], [(51, 4), (52, 999)], false, [])
def k_177 : Ctr := (2, 12, [(0, 2), fI, fI], [rT [51], iT (1, 0), iT (2, 0), iT (3, 0), iT (0, 30)], [1, 2, 3], [([(0, 2), fI, fI], [iT (0, 0)], [], []), ([(0, 2), fI, fI, fI], [iT (4, 0)], [], [(999999, 0)])], [(51, 4), (52, 999)], false, [])
def k_178 : Ctr := (2, 13, [(0, 2), fI, fI], [rT [51], iT (1, 0), iT (2, 0), iT (3, 0), iT (0, 29)], [1, 2, 3], [([(0, 2), fI, fI], [iT (0, 0)], [], []), ([(0, 2), fI, fI, fI], [iT (4, 0)], [], [(999999, 0)])], [(51, 4), (52, 999)], false, [])
def k_179 : Ctr := (2, 14, [(0, 2), fI, fI], [rT [51], iT (1, 0), iT (2, 0), iT (3, 0), iT (0, 28)], [1, 2, 3], [([(0, 2), fI, fI], [iT (0, 0)], [], []), ([(0, 2), fI, fI, fI], [iT (4, 0)], [], [(999999, 0)])], [(51, 4), (52, 999)], false, [])
def k_180 : Ctr := (2, 15, [(0, 2), fI, fI], [rT [51], iT (1, 0), iT (2, 0), iT (3, 0), iT (0, 27)], [1, 2, 3], [([(0, 2), fI, fI], [iT (0, 0)], [], []), ([(0, 2), fI, fI, fI], [iT (4, 0)], [], [(999999, 0)])], [(51, 4), (52, 999)], false, [])
def k_181 : Ctr := (2, 16, [(0, 2), fI, fI], [rT [51], iT (1, 0), iT (2, 0), iT (3, 0), iT (0, 26)], [1, 2, 3], [([(0, 2), fI, fI], [iT (0, 0)], [], []), ([(0, 2), fI, fI, fI], [iT (4, 0)], [], [(999999, 0)])], [(51, 4), (52, 999)], false, [])
def k_182 : Ctr := (2, 17, [(0, 2), fI, fI], [rT [51], iT (1, 0), iT (2, 0), iT (3, 0), iT (0, 25)], [1, 2, 3], [([(0, 2), fI, fI], [iT (0, 0)], [], []), ([(0, 2), fI, fI, fI], [iT (4, 0)], [], [(999999, 0)])], [(51, 4), (52, 999)], false, [])
def k_183 : Ctr := (2, 18, [(0, 2), fI, fI], [rT [51], iT (1, 0), iT (2, 0), iT (3, 0), iT (0, 24)], [1, 2, 3], [([(0, 2), fI, fI], [iT (0, 0)], [], []), ([(0, 2), fI, fI, fI], [iT (4, 0)], [], [(999999, 0)])], [(51, 4), (52, 999)], false, [])
def k_184 : Ctr := (2, 19, [(0, 2), fI, fI], [rT [51], iT (1, 0), iT (2, 0), iT (3, 0), iT (0, 23)], [1, 2, 3], [([(0, 2), fI, fI], [iT (0, 0)], [], []), ([(0, 2), fI, fI, fI], [iT (4, 0)], [], [(999999, 0)])], [(51, 4), (52, 999)], false, [])
def k_185 : Ctr := (2, 20, [(0, 2), fI, fI], [rT [51], iT (1, 0), iT (2, 0), iT (3, 0), iT (0, 22)], [1, 2, 3], [([(0, 2), fI, fI], [iT (0, 0)], [], []), ([(0, 2), fI, fI, fI], [iT (4, 0)], [], [(999999, 0)])], [(51, 4), (52, 999)], false, [])
def k_186 : Ctr := (2, 21, [(0, 2), fI, fI], [rT [51], iT (1, 0), iT (2, 0), iT (3, 0), iT (0, 21)], [1, 2, 3], [([(0, 2), fI, fI], [iT (0, 0)], [], []), ([(0, 2), fI, fI, fI], [iT (4, 0)], [], [(999999, 0)])], [(51, 4), (52, 999)], false, [])
def k_187 : Ctr := (2, 22, [(0, 2), fI, fI], [rT [51], iT (1, 0), iT (2, 0), iT (3, 0), iT (0, 20)], [1, 2, 3], [([(0, 2), fI, fI], [iT (0, 0)], [], []), ([(0, 2), fI, fI, fI], [iT (4, 0)], [], [(999999, 0)])], [(51, 4), (52, 999)], false, [])
def k_188 : Ctr := (2, 23, [(0, 2), fI, fI], [rT [51], iT (1, 0), iT (2, 0), iT (3, 0), iT (0, 19)], [1, 2, 3], [([(0, 2), fI, fI], [iT (0, 0)], [], []), ([(0, 2), fI, fI, fI], [iT (4, 0)], [], [(999999, 0)])], [(51, 4), (52, 999)], false, [])
def k_189 : Ctr := (2, 24, [(0, 2), fI, fI], [rT [51], iT (1, 0), iT (2, 0), iT (3, 0), iT (0, 18)], [1, 2, 3], [([(0, 2), fI, fI], [iT (0, 0)], [], []), ([(0, 2), fI, fI, fI], [iT (4, 0)], [], [(999999, 0)])], [(51, 4), (52, 999)], false, [])
def k_190 : Ctr := (2, 25, [(0, 2), fI, fI], [rT [51], iT (1, 0), iT (2, 0), iT (3, 0), iT (0, 17)], [1, 2, 3], [([(0, 2), fI, fI], [iT (0, 0)], [], []), ([(0, 2), fI, fI, fI], [iT (4, 0)], [], [(999999, 0)])], [(51, 4), (52, 999)], false, [])
def k_191 : Ctr := (2, 26, [(0, 2), fI, fI], [rT [51], iT (1, 0), iT (2, 0), iT (3, 0), iT (0, 16)], [1, 2, 3], [([(0, 2), fI, fI], [iT (0, 0)], [], []), ([(0, 2), fI, fI, fI], [iT (4, 0)], [], [(999999, 0)])], [(51, 4), (52, 999)], false, [])
def k_192 : Ctr := (2, 27, [(0, 2), fI, fI], [rT [51], iT (1, 0), iT (2, 0), iT (3, 0), iT (0, 15)], [1, 2, 3], [([(0, 2), fI, fI], [iT (0, 0)], [], []), ([(0, 2), fI, fI, fI], [iT (4, 0)], [], [(999999, 0)])], [(51, 4), (52, 999)], false, [])
def k_193 : Ctr := (2, 28, [(0, 2), fI, fI], [rT [51], iT (1, 0), iT (2, 0), iT (3, 0), iT (0, 14)], [1, 2, 3], [([(0, 2), fI, fI], [iT (0, 0)], [], []), ([(0, 2), fI, fI, fI], [iT (4, 0)], [], [(999999, 0)])], [(51, 4), (52, 999)], false, [])
def k_194 : Ctr := (2, 29, [(0, 2), fI, fI], [rT [51], iT (1, 0), iT (2, 0), iT (3, 0), iT (0, 13)], [1, 2, 3], [([(0, 2), fI, fI], [iT (0, 0)], [], []), ([(0, 2), fI, fI, fI], [iT (4, 0)], [], [(999999, 0)])], [(51, 4), (52, 999)], false, [])
def k_195 : Ctr := (2, 30, [(0, 2), fI, fI], [rT [51], iT (1, 0), iT (2, 0), iT (3, 0), iT (0, 12)], [1, 2, 3], [([(0, 2), fI, fI], [iT (0, 0)], [], []), ([(0, 2), fI, fI, fI], [iT (4, 0)], [], [(999999, 0)])], [(51, 4), (52, 999)], false, [])
def k_196 : Ctr := (2, 31, [(0, 2), fI, fI], [rT [51], iT (1, 0), iT (2, 0), iT (3, 0), iT (0, 11)], [1, 2, 3], [([(0, 2), fI, fI], [iT (0, 0)], [], []), ([(0, 2), fI, fI, fI], [iT (4, 0)], [], [(999999, 0)])], [(51, 4), (52, 999)], false, [])
def k_197 : Ctr := (2, 32, [(0, 2), fI, fI], [rT [51], iT (1, 0), iT (2, 0), iT (3, 0), iT (0, 10)], [1, 2, 3], [([(0, 2), fI, fI], [iT (0, 0)], [], []), ([(0, 2), fI, fI, fI], [iT (4, 0)], [], [(999999, 0)])], [(51, 4), (52, 999)], false, [])
def k_198 : Ctr := (2, 33, [(0, 2), fI, fI], [rT [51], iT (1, 0), iT (2, 0), iT (3, 0), iT (0, 9)], [1, 2, 3], [([(0, 2), fI, fI], [iT (0, 0)], [], []), ([(0, 2), fI, fI, fI], [iT (4, 0)], [], [(999999, 0)])], [(51, 4), (52, 999)], false, [])
def k_199 : Ctr := (2, 34, [(0, 2), fI, fI], [rT [51], iT (1, 0), iT (2, 0), iT (3, 0), iT (0, 8)], [1, 2, 3], [([(0, 2), fI, fI], [iT (0, 0)], [], []), ([(0, 2), fI, fI, fI], [iT (4, 0)], [], [(999999, 0)])], [(51, 4), (52, 999)], false, [])
def k_200 : Ctr := (2, 35, [(0, 2), fI, fI], [rT [51], iT (1, 0), iT (2, 0), iT (3, 0), iT (0, 7)], [1, 2, 3], [([(0, 2), fI, fI], [iT (0, 0)], [], []), ([(0, 2), fI, fI, fI], [iT (4, 0)], [], [(999999, 0)])], [(51, 4), (52, 999)], false, [])
def k_201 : Ctr := (2, 36, [(0, 2), fI, fI], [rT [51], iT (1, 0), iT (2, 0), iT (3, 0), iT (0, 6)], [1, 2, 3], [([(0, 2), fI, fI], [iT (0, 0)], [], []), ([(0, 2), fI, fI, fI], [iT (4, 0)], [], [(999999, 0)])], [(51, 4), (52, 999)], false, [])
def k_202 : Ctr := (2, 37, [(0, 2), fI, fI], [rT [51], iT (1, 0), iT (2, 0), iT (3, 0), iT (0, 5)], [1, 2, 3], [([(0, 2), fI, fI], [iT (0, 0)], [], []), ([(0, 2), fI, fI, fI], [iT (4, 0)], [], [(999999, 0)])], [(51, 4), (52, 999)], false, [])
def k_203 : Ctr := (2, 38, [(0, 2), fI, fI], [rT [51], iT (1, 0), iT (2, 0), iT (3, 0), iT (0, 4)], [1, 2, 3], [([(0, 2), fI, fI], [iT (0, 0)], [], []), ([(0, 2), fI, fI, fI], [iT (4, 0)], [], [(999999, 0)])], [(51, 4), (52, 999)], false, [])
def k_204 : Ctr := (2, 39, [(0, 2), fI, fI], [rT [51], iT (1, 0), iT (2, 0), iT (3, 0), iT (0, 3)], [1, 2, 3], [([(0, 2), fI, fI], [iT (0, 0)], [], []), ([(0, 2), fI, fI, fI], [iT (4, 0)], [], [(999999, 0)])], [(51, 4), (52, 999)], false, [])
def k_205 : Ctr := (2, 40, [(0, 2), fI, fI], [rT [51], iT (1, 0), iT (2, 0), iT (3, 0), iT (0, 2)], [1, 2, 3], [([(0, 2), fI, fI], [iT (0, 0)], [], []), ([(0, 2), fI, fI, fI], [iT (4, 0)], [], [(999999, 0)])], [(51, 4), (52, 999)], false, [])
def k_206 : Ctr := (2, 41, [(0, 2), fI, fI], [rT [51], iT (1, 0), iT (2, 0), iT (3, 0), iT (0, 1)], [1, 2, 3], [([(0, 2), fI, fI], [iT (0, 0)], [], []), ([(0, 2), fI, fI, fI], [iT (4, 0)], [], [(999999, 0)])], [(51, 4), (52, 999)], false, [])
def k_207 : Ctr := (2, 42, [(0, 2), (0, 6), fI], [rT [51], iT (1, 0), iT (2, 0), iT (3, 0), iT (0, 0)], [1, 2, 3], [([(0, 2), (0, 6), fI], [iT (0, 0)], [], []), ([(0, 2), (0, 6), fI, fI], [iT (4, 0)], [], [(999999, 0)])], [(51, 4), (52, 999)], false, [])
def k_208 : Ctr := (91, 43, [fI, fI, fI], [rT [0], iT (1, 0), iT (2, 0), iT (3, 0)], [1, 2, 3], [([fI, fI, fI], [iT (0, 0)], [], []), ([(0, 6), (0, 2), fI, fI], [iT (4, 0)], [], [(999999, 0)])], [(51, 0), (51, 1), (51, 2), (51, 4), (52, 999)], false, [])
def k_209 : Ctr := (92, 0, [fI], [rT [0], iT (1, 0)], [1], [([fI], [iT (0, (-1))], [], []), ([(0, 19), fI], [iT (2, 0)], [], [(999999, 0)])], [], false, [])
def k_210 : Ctr := (93, 1, [fI, fI], [rT [0], iT (1, 0), iT (2, 0)], [1, 2], [([fI, fI, ((-12), 6)], [iT (3, 0)], [], [(999999, 0)])], [], false, [])
def k_211 : Ctr := (94, 0, [fI], [rT [0], iT (1, 0)], [1], [([fI], [iT (0, (-2))], [], []), ([(0, 4), fI], [iT (2, 0)], [], [(999999, 0)])], [], false, [])
def k_212 : Ctr := (220, 0, [(0, 0)], [rT [57, 58, 59, 60, 61, 62], lT (1, 0)], [1], [([(0, 0)], [], [], [])], w_13, false, [])
def k_213 : Ctr := (38, 1, [(0, 5), ((-1), 4), (0, 60)], [rT [53], iT (1, 0), iT (2, 0), iT (3, 0)], [1, 2, 3], [([(0, 5), ((-1), 4), (0, 60)], [], [], [])], w_14, false, [])
def k_214 : Ctr := (95, 2, [fI, fI, fI], [rT [0], iT (1, 0), iT (2, 0), iT (3, 0)], [1, 2, 3], [([fI, fI, fI], [iT (0, (-1))], [], []), ([(0, 5), (0, 4), ((-2147483648), (-1))], [iT (0, (-14))], [], []), ([(0, 5), fI, fI], [iT (0, (-2))], [], []), ([(0, 5), ((-1), 4), fI], [iT (0, 1)], [], [])], w_14, false, [])
def k_215 : Ctr := (39, 0, [((-1), 4), fL], [iT (1, 0), lT (2, 0)], [0, 1], [([(4, 4), (0, 0)], [lT (0, 0)], [], []), ([(4, 4), fL], [lT (0, 1)], [], []), ([(0, 2), fL, fI], [lT (3, 0)], [], [(999999, 0)]), ([((-1), 3), fL], [lT (2, 0)], [], [])], [], false, [])
def k_216 : Ctr := (96, 2, [fI, fI, fL], [rT [0], iT (1, 0), iT (2, 0), lT (3, 0)], [1, 2, 3], [([fI, fI, fL], [iT (0, (-1))], [], []), ([(0, 5), fI, fL], [iT (0, (-11))], [], []), ([(0, 5), fI, fL], [iT (0, (-13))], [], []), ([(0, 5), (0, 59), fL], [iT (0, 1)], [], [])], w_13, false, [])
def k_217 : Ctr := (97, 2, [fI, fI], [rT [0], iT (1, 0), iT (2, 0)], [1, 2], [([fI, fI], [lT (0, (-9223372036854775808))], [], []), ([(0, 5), (0, 59), fL], [lT (3, 0)], [], [(999999, 0)])], [], false, [])
def k_218 : Ctr := (109, 0, [fI, (0, 0), (6, 6)], [rT [93], iT (1, 0), iT (2, 0), iT (3, 0)], [1, 2, 3], [([fI, (0, 0), (6, 6)], [iT (0, 0)], [], []), ([(0, 6), (0, 0), (6, 6)], [iT (0, 1)], [], [])], [], false, [])
def k_219 : Ctr := (109, 0, [fI, (0, 0), (9, 9)], [rT [93], iT (1, 0), iT (2, 0), iT (3, 0)], [1, 2, 3], [([fI, (0, 0), (9, 9)], [iT (0, 0)], [], []), ([(0, 9), (0, 0), (9, 9)], [iT (0, 1)], [], [])], [], false, [])
def k_220 : Ctr := (114, 1, [fI, fI, fI, fI, fI], [rT [93], iT (1, 0), iT (2, 0), iT (3, 0), iT (4, 0), iT (5, 0)], [1, 2, 3, 4, 5], [([fI, fI, fI, fI, fI, ((-4), 6)], [iT (6, 0)], [], [(999999, 0)])], w_15, false, [])
def k_221 : Ctr := (109, 0, [fI, (0, 0), ((-1), 6)], [rT [93], iT (1, 0), iT (2, 0), iT (3, 0)], [1, 2, 3], [([fI, (0, 0), ((-1), 6)], [iT (0, 0)], [], []), ([(0, 6), (0, 0), (0, 6)], [iT (0, 1)], [], [])], [], false, [])
def k_222 : Ctr := (112, 1, [fI], [rT [93], iT (1, 0)], [1], [([fI], [iT (0, 0)], [], []), ([(0, 6)], [iT (0, 1)], [], [])], [], false, [])
def k_223 : Ctr := (110, 0, [fI, (0, 6)], [rT [93], iT (1, 0), iT (2, 0)], [1, 2], [([fI, (0, 6)], [iT (0, 0)], [], []), ([fI, (0, 6)], [iT (0, 1)], [], [])], [], false, [])
def k_224 : Ctr := (139, 1, [(0, 6)], [rT [93], iT (1, 0)], [1], [([(0, 6)], [iT (0, 0)], [], []), ([(0, 6)], [iT (0, 1)], [], [])], [], false, [])
def k_225 : Ctr := (142, 0, [(0, 6), (0, 6)], [rT [93], iT (1, 0), iT (2, 0)], [1, 2], [([(0, 6), (0, 6), ((-6), 6)], [iT (3, 0)], [], [(999999, 0)])], [], false, [])
def k_226 : Ctr := (145, 2, [(0, 6)], [rT [93], iT (1, 0)], [1], [([(0, 6), (0, 6)], [iT (2, 0)], [], [(999999, 0)])], [], false, [])
def k_227 : Ctr := (109, 0, [fI, (0, 0), (1, 1)], [rT [93], iT (1, 0), iT (2, 0), iT (3, 0)], [1, 2, 3], [([fI, (0, 0), (1, 1)], [iT (0, 0)], [], []), ([(0, 1), (0, 0), (1, 1)], [iT (0, 1)], [], [])], [], false, [])
def k_228 : Ctr := (115, 2, [fI, fI, fI], [rT [93], iT (1, 0), iT (2, 0), iT (3, 0)], [1, 2, 3], [([fI, fI, fI], [iT (0, (-1))], [], []), ([(0, 6), (0, 1), fI], [iT (0, (-2))], [], []), ([(0, 6), (0, 1), (0, 9), (0, 9)], [iT (4, 0)], [], [(999999, 0)])], [(96, 999), (98, 999)], false, [])
def k_229 : Ctr := (116, 2, [fI, (0, 1)], [rT [93], iT (1, 0), iT (2, 0)], [1, 2], [([fI, (0, 1)], [iT (0, (-1))], [], []), ([(0, 6), (0, 1), (0, 1)], [iT (3, 0)], [], [(999999, 0)])], [(93, 2)], false, [])
def k_230 : Ctr := (109, 0, [fI, (0, 0), (3, 3)], [rT [93], iT (1, 0), iT (2, 0), iT (3, 0)], [1, 2, 3], [([fI, (0, 0), (3, 3)], [iT (0, 0)], [], []), ([(0, 3), (0, 0), (3, 3)], [iT (0, 1)], [], [])], [], false, [])
def k_231 : Ctr := (117, 2, [fI, fI, fI], [rT [93], iT (1, 0), iT (2, 0), iT (3, 0)], [1, 2, 3], [([fI, fI, fI, ((-3), 6)], [iT (4, 0)], [], [(999999, 0)])], [(99, 999)], false, [])
def k_232 : Ctr := (109, 0, [fI, (0, 0), (127, 127)], [rT [93], iT (1, 0), iT (2, 0), iT (3, 0)], [1, 2, 3], [([fI, (0, 0), (127, 127)], [iT (0, 0)], [], []), ([(0, 127), (0, 0), (127, 127)], [iT (0, 1)], [], [])], [], false, [])
def k_233 : Ctr := (118, 1, [fI], [rT [93], iT (1, 0)], [1], [([fI], [iT (0, (-2))], [], []), ([(0, 127)], [iT (0, (-4))], [], []), ([(0, 127), (1, 100)], [iT (2, 0)], [], [(999999, 0)])], [(93, 11), (100, 999)], false, [])
def k_234 : Ctr := (113, 0, [], [rT [93]], [], [([(0, 127)], [iT (1, 0)], [], [(999999, 0)])], [], false, [])
def k_235 : Ctr := (150, 1, [fI], [rT [93], iT (1, 0)], [1], [([fI], [iT (0, (-1))], [], []), ([(0, 2), (0, 1100)], [iT (2, 0)], [], [(999999, 0)])], [], false, [])
def k_236 : Ctr := (109, 0, [fI, (0, 0), (30, 30)], [rT [93], iT (1, 0), iT (2, 0), iT (3, 0)], [1, 2, 3], [([fI, (0, 0), (30, 30)], [iT (0, 0)], [], []), ([(0, 30), (0, 0), (30, 30)], [iT (0, 1)], [], [])], [], false, [])
def k_237 : Ctr := (160, 0, [(0, 1100)], [rT [93]], [100], [([(0, 1100)], [], [(93, 1, (1, 0)), (93, 37, (1, 0))], [])], [(93, 36), (93, 37)], false, [(93, 1, (1, 0))])
def k_238 : Ctr := (161, 0, [(0, 1100)], [rT [93]], [100], [([(0, 1100)], [], [(93, 1, (1, 0))], [])], [(93, 1), (93, 2)], false, [(93, 37, (1, 0))])
def k_239 : Ctr := (163, 0, [(0, 127)], [rT [93], iT (1, 0)], [1], [([(0, 127)], [iT (0, (-5))], [], []), ([(1, 64), (0, 6)], [iT (2, 0)], [], [(999999, 0)])], [], false, [])
def k_240 : Ctr := (109, 0, [fI, (0, 0), (0, 127)], [rT [93], iT (1, 0), iT (2, 0), iT (3, 0)], [1, 2, 3], [([fI, (0, 0), (0, 127)], [iT (0, 0)], [], []), ([(0, 127), (0, 0), (0, 127)], [iT (0, 1)], [], [])], [], false, [])
def k_241 : Ctr := (175, 1, [fI], [rT [93], iT (1, 0)], [1], [([fI], [iT (0, (-2))], [], []), ([(0, 127), fI], [iT (2, 0)], [], [(999999, 0)])], [(93, 41)], false, [])
def k_242 : Ctr := (109, 0, [fI, (1, 1), (30, 30)], [rT [93], iT (1, 0), iT (2, 0), iT (3, 0)], [1, 2, 3], [([fI, (1, 1), (30, 30)], [iT (0, 0)], [], []), ([(1, 30), (1, 1), (30, 30)], [iT (0, 1)], [], [])], [], false, [])
def k_243 : Ctr := (181, 1, [fI], [rT [93], iT (1, 0)], [1], [([fI, ((-4), 12)], [iT (2, 0)], [], [(999999, 0)])], [(93, 42), (114, 999)], false, [])
def k_244 : Ctr := (109, 0, [fI, (0, 0), (5, 5)], [rT [93], iT (1, 0), iT (2, 0), iT (3, 0)], [1, 2, 3], [([fI, (0, 0), (5, 5)], [iT (0, 0)], [], []), ([(0, 5), (0, 0), (5, 5)], [iT (0, 1)], [], [])], [], false, [])
def k_245 : Ctr := (198, 1, [fI], [rT [93], iT (1, 0)], [1], [([fI], [iT (0, 0)], [], []), ([(0, 5)], [iT (0, 1)], [], [])], [], false, [])
def k_246 : Ctr := (183, 2, [fI, fI], [rT [93], iT (1, 0), iT (2, 0)], [1, 2], [([fI, fI, ((-12), 106)], [iT (3, 0)], [], [(999999, 0)])], [], false, [])
def k_247 : Ctr := (184, 0, [], [rT [93]], [], [([(0, 7)], [iT (1, 0)], [], [(999999, 0)])], w_16, false, [])
def k_248 : Ctr := (185, 0, [], [rT [93]], [], [([], [iT (0, (-3))], [], []), ([(0, 7)], [iT (1, 0)], [], [(999999, 0)])], w_17, false, [])
def k_249 : Ctr := (109, 0, [fI, (0, 0), (2, 2)], [rT [93], iT (1, 0), iT (2, 0), iT (3, 0)], [1, 2, 3], [([fI, (0, 0), (2, 2)], [iT (0, 0)], [], []), ([(0, 2), (0, 0), (2, 2)], [iT (0, 1)], [], [])], [], false, [])
def k_250 : Ctr := (186, 0, [(10, 71), (0, 99)], [rT [93], iT (1, 0)], [1, 100], [([(10, 71), (0, 99)], [], [(93, 58, (2, 1))], [])], [(93, 58), (122, 999)], false, [(93, 58, (2, 0))])
def k_251 : Ctr := (187, 1, [(0, 6), fI, (0, 90)], [rT [93], iT (1, 0), iT (2, 0)], [1, 2, 100], [([(0, 6), fI, (0, 90), fI], [iT (4, 0)], [(93, 58, (3, 1))], [(999999, 0)])], [(93, 58), (122, 999)], false, [(93, 58, (3, 0))])
def k_252 : Ctr := (188, 2, [(0, 6), fI, (0, 85)], [rT [93], iT (1, 0), iT (2, 0)], [1, 2, 100], [([(0, 6), fI, (0, 85), fI], [iT (4, 0)], [(93, 58, (3, 1))], [(999999, 0)]), ([(0, 6), fI, (0, 85), fI], [iT (4, 0)], [(93, 58, (3, 2))], [(999999, 0)])], [(93, 58), (122, 999)], false, [(93, 58, (3, 0))])
def k_253 : Ctr := (189, 3, [(0, 6), fI, (0, 80)], [rT [93], iT (1, 0), iT (2, 0)], [1, 2, 100], [([(0, 6), fI, (0, 80), fI], [iT (4, 0)], [(93, 58, (3, 2))], [(999999, 0)]), ([(0, 6), fI, (0, 80), fI], [iT (4, 0)], [(93, 58, (3, 3))], [(999999, 0)])], [(93, 58), (122, 999)], false, [(93, 58, (3, 0))])
def k_254 : Ctr := (190, 4, [(0, 6), fI, (0, 75)], [rT [93], iT (1, 0), iT (2, 0)], [1, 2, 100], [([(0, 6), fI, (0, 75), fI], [iT (4, 0)], [(93, 58, (3, 3))], [(999999, 0)]), ([(0, 6), fI, (0, 75), fI], [iT (4, 0)], [(93, 58, (3, 4))], [(999999, 0)])], [(93, 58), (122, 999)], false, [(93, 58, (3, 0))])
def k_255 : Ctr := (191, 5, [(0, 6), fI, (0, 70)], [rT [93], iT (1, 0), iT (2, 0)], [1, 2, 100], [([(0, 6), fI, (0, 70), fI], [iT (4, 0)], [(93, 58, (3, 2))], [(999999, 0)]), ([(0, 6), fI, (0, 70), fI], [iT (4, 0)], [(93, 58, (3, 3))], [(999999, 0)]), ([(0, 6), fI, (0, 70), fI], [iT (4, 0)], [(93, 58, (3, 4))], [(999999, 0)]), ([(0, 6), fI, (0, 70), fI], [iT (4, 0)], [(93, 58, (3, 5))], [(999999, 0)])], [(93, 58), (122, 999)], false, [(93, 58, (3, 0))])
def k_256 : Ctr := (192, 6, [(0, 6), fI, (0, 60)], [rT [93], iT (1, 0), iT (2, 0)], [1, 2, 100], [([(0, 6), fI, (0, 60), fI], [iT (4, 0)], [(93, 58, (3, 3))], [(999999, 0)]), ([(0, 6), fI, (0, 60), fI], [iT (4, 0)], [(93, 58, (3, 4))], [(999999, 0)]), ([(0, 6), fI, (0, 60), fI], [iT (4, 0)], [(93, 58, (3, 5))], [(999999, 0)]), ([(0, 6), fI, (0, 60), fI], [iT (4, 0)], [(93, 58, (3, 6))], [(999999, 0)])], [(93, 58), (122, 999)], false, [(93, 58, (3, 0))])
def k_257 : Ctr := (193, 7, [(0, 6), fI, (0, 50)], [rT [93], iT (1, 0), iT (2, 0)], [1, 2, 100], [([(0, 6), fI, (0, 50), fI], [iT (4, 0)], [(93, 58, (3, 10))], [(999999, 0)]), ([(0, 6), fI, (0, 50), fI], [iT (4, 0)], [(93, 58, (3, 11))], [(999999, 0)]), ([(0, 6), fI, (0, 50), fI], [iT (4, 0)], [(93, 58, (3, 12))], [(999999, 0)]), ([(0, 6), fI, (0, 50), fI], [iT (4, 0)], [(93, 58, (3, 3))], [(999999, 0)]), ([(0, 6), fI, (0, 50), fI], [iT (4, 0)], [(93, 58, (3, 4))], [(999999, 0)]), ([(0, 6), fI, (0, 50), fI], [iT (4, 0)], [(93, 58, (3, 5))], [(999999, 0)]), ([(0, 6), fI, (0, 50), fI], [iT (4, 0)], [(93, 58, (3, 6))], [(999999, 0)]), ([(0, 6), fI, (0, 50), fI], [iT (4, 0)], [(93, 58, (3, 7))], [(999999, 0)]), ([(0, 6), fI, (0, 50), fI], [iT (4, 0)], [(93, 58, (3, 8))], [(999999, 0)]), ([(0, 6), fI, (0, 50), fI], [iT (4, 0)], [(93, 58, (3, 9))], [(999999, 0)])], [(93, 58), (122, 999)], false, [(93, 58, (3, 0))])
def k_258 : Ctr := (194, 8, [fI, fI, fI], [rT [93], iT (1, 0), iT (2, 0), iT (3, 0)], [1, 2, 3], [([fI, fI, fI], [iT (0, 0)], [], []), ([(0, 6), (0, 2), fI, fI], [iT (4, 0)], [], [(999999, 0)])], [(93, 58), (122, 999)], false, [])
def k_259 : Ctr := (109, 0, [fI, (0, 0), (19, 19)], [rT [93], iT (1, 0), iT (2, 0), iT (3, 0)], [1, 2, 3], [([fI, (0, 0), (19, 19)], [iT (0, 0)], [], []), ([(0, 19), (0, 0), (19, 19)], [iT (0, 1)], [], [])], [], false, [])
def k_260 : Ctr := (195, 1, [fI], [rT [93], iT (1, 0)], [1], [([fI], [iT (0, (-1))], [], []), ([(0, 19), fI], [iT (2, 0)], [], [(999999, 0)])], [], false, [])
def k_261 : Ctr := (196, 2, [fI, fI], [rT [93], iT (1, 0), iT (2, 0)], [1, 2], [([fI, fI, ((-12), 6)], [iT (3, 0)], [], [(999999, 0)])], [], false, [])
def k_262 : Ctr := (197, 0, [fI], [rT [93], iT (1, 0)], [1], [([fI], [iT (0, (-2))], [], []), ([(0, 4), (0, 100)], [iT (2, 0)], [], [(999999, 0)])], [], false, [])
def k_263 : Ctr := (109, 0, [fI, ((-1), (-1)), (4, 4)], [rT [93], iT (1, 0), iT (2, 0), iT (3, 0)], [1, 2, 3], [([fI, ((-1), (-1)), (4, 4)], [iT (0, 0)], [], []), ([((-1), 4), ((-1), (-1)), (4, 4)], [iT (0, 1)], [], [])], [], false, [])
def k_264 : Ctr := (199, 2, [fI, fI, fI], [rT [93], iT (1, 0), iT (2, 0), iT (3, 0)], [1, 2, 3], [([fI, fI, fI], [iT (0, (-1))], [], []), ([(0, 5), (0, 4), ((-2147483648), (-1))], [iT (0, (-14))], [], []), ([(0, 5), fI, fI], [iT (0, (-2))], [], []), ([(0, 5), ((-1), 4), fI], [iT (0, 1)], [], [])], [(123, 999), (124, 999), (125, 999)], false, [])
def k_265 : Ctr := (109, 0, [fI, (0, 0), ((-1), 59)], [rT [93], iT (1, 0), iT (2, 0), iT (3, 0)], [1, 2, 3], [([fI, (0, 0), ((-1), 59)], [iT (0, 0)], [], []), ([(0, 59), (0, 0), (0, 59)], [iT (0, 1)], [], [])], [], false, [])
def k_266 : Ctr := (200, 0, [((-1), 4), fL], [rT [93], iT (1, 0), lT (2, 0)], [1, 2], [([(4, 4), (0, 0)], [lT (0, 0)], [], []), ([(4, 4), fL], [lT (0, 1)], [], []), ([(0, 2), fL, fI], [lT (3, 0)], [], [(999999, 0)]), ([((-1), 3), fL], [lT (2, 0)], [], [])], [], false, [])
def k_267 : Ctr := (201, 2, [fI, fI, fL], [rT [93], iT (1, 0), iT (2, 0), lT (3, 0)], [1, 2, 3], [([fI, fI, fL], [iT (0, (-1))], [], []), ([(0, 5), fI, fL], [iT (0, (-11))], [], []), ([(0, 5), fI, fL], [iT (0, (-13))], [], []), ([(0, 5), (0, 59), fL], [iT (0, 1)], [], [])], [(125, 999)], false, [])
def k_268 : Ctr := (202, 2, [fI, fI], [rT [93], iT (1, 0), iT (2, 0)], [1, 2], [([fI, fI], [lT (0, (-9223372036854775808))], [], []), ([(0, 5), (0, 59), fL], [lT (3, 0)], [], [(999999, 0)])], [], false, [])
def k_269 : Ctr := (205, 0, [fI], [iT (1, 0), iT (0, 10)], [0], [([fI, (0, 9)], [iT (2, 0)], [], [(999999, 0)])], [], false, [])
def k_270 : Ctr := (205, 0, [fI], [iT (1, 0), iT (0, 4)], [0], [([fI, (0, 3)], [iT (2, 0)], [], [(999999, 0)])], [], false, [])
def k_271 : Ctr := (205, 0, [(0, 600)], [iT (1, 0), iT (0, 7)], [0], [([(0, 600), (0, 6)], [iT (2, 0)], [], [(999999, 0)])], [], false, [])
def k_272 : Ctr := (138, 5, [(0, 2), (0, 6), (0, 6), (0, 1)], [rT [93], iT (1, 0), iT (2, 0), iT (3, 0), iT (4, 0)], [1, 2, 3, 4], [([(0, 2), (0, 6), (0, 6), (0, 1), fI], [iT (5, 0)], [], [(999999, 0)])], [(109, 999)], true, [])
def k_273 : Ctr := (154, 5, [], [rT [93]], [], [([], [], [], [])], [(110, 999), (93, 34)], true, [])
def k_274 : Ctr := (111, 0, [(0, 127)], [rT [93], iT (1, 0)], [1], [([(0, 127), (0, 32)], [iT (2, 0)], [], [(999999, 0)])], [], false, [])
def k_275 : Ctr := (177, 0, [(0, 1100), (1, 30)], [rT [93], iT (1, 0), iT (2, 0)], [1, 2], [([(0, 1100), (1, 30), (1, 2147483647)], [iT (3, 0)], [], [(999999, 0)])], [], false, [])
def k_276 : Ctr := (140, 6, [(0, 6)], [rT [93], iT (1, 0)], [1], [([(0, 6), fI], [iT (2, 0)], [], [(999999, 0)])], [(109, 999)], true, [])
def k_277 : Ctr := (143, 7, [(0, 6), (0, 6)], [rT [93], iT (1, 0), iT (2, 0)], [1, 2], [([(0, 6), (0, 6)], [iT (0, 0)], [], []), ([(0, 6), (0, 6)], [iT (0, 1)], [], [])], [(109, 999)], true, [])
def k_278 : Ctr := (144, 8, [(0, 6)], [rT [93], iT (1, 0)], [1], [([(0, 6), fI], [iT (2, 0)], [], [(999999, 0)])], [(109, 999)], true, [])
def k_279 : Ctr := (146, 9, [(0, 6)], [rT [93], iT (1, 0)], [1], [([(0, 6), (0, 6)], [iT (2, 0)], [], [(999999, 0)])], [(109, 999)], true, [])
def k_280 : Ctr := (147, 10, [(0, 6)], [rT [93], iT (1, 0)], [1], [([(0, 6)], [iT (0, 0)], [], []), ([(0, 6)], [iT (0, 6)], [], []), ([(0, 6), (0, 6)], [iT (2, 0)], [], [(999999, 0)])], [(109, 999)], true, [])
def k_281 : Ctr := (148, 11, [(0, 6)], [rT [93], iT (1, 0)], [1], [([(0, 6), fI], [iT (2, 0)], [], [(999999, 0)])], [(109, 999)], true, [])
def k_282 : Ctr := (141, 6, [(0, 6)], [rT [93], iT (1, 0)], [1], [([(0, 6), fI], [iT (2, 0)], [], [(999999, 0)])], [(109, 999)], true, [])
def k_283 : Ctr := (156, 8, [(0, 6), (0, 2147483647)], [rT [93], iT (1, 0), iT (2, 0)], [1, 2], [([(0, 6), (0, 2147483647), (0, 2147483647)], [iT (3, 0)], [], [(999999, 0)])], [(109, 999)], true, [])
def k_284 : Ctr := (155, 7, [(0, 2147483647)], [rT [93], iT (1, 0)], [1], [([(0, 2147483647), fI], [iT (2, 0)], [], [(999999, 0)])], [(109, 999)], true, [])
def k_285 : Ctr := (157, 12, [], [rT [93]], [], [([(0, 127)], [iT (1, 0)], [], [(999999, 0)])], [(93, 34), (93, 35), (109, 999), (110, 999)], true, [])
def k_286 : Ctr := (24, 1, [(0, 6), (0, 6)], [rT [17], iT (1, 0), iT (2, 0)], [1, 2], [([(0, 6), (0, 6)], [], [], [])], [(31, 999)], false, [])
def k_287 : Ctr := (11, 3, [], [rT [17]], [], [([], [], [], [])], [(31, 999), (32, 999), (33, 999), (34, 999)], false, [])
def k_288 : Ctr := (15, 2, [(0, 6)], [rT [17], iT (1, 0)], [1], [([(0, 6)], [iT (0, 0)], [], []), ([(0, 6)], [iT (0, 6)], [], []), ([(0, 6), (0, 6)], [iT (2, 0)], [], [(999999, 0)])], [], false, [])
def k_289 : Ctr := (13, 3, [], [rT [17]], [], [([], [], [], [])], [(35, 999)], false, [])
def k_290 : Ctr := (14, 3, [], [rT [17]], [], [([], [], [], [])], [(31, 999), (36, 999)], false, [])
def k_291 : Ctr := (10, 4, [], [rT [17]], [], [([(0, 127)], [iT (1, 0)], [], [(999999, 0)])], w_18, false, [])
def k_292 : Ctr := (99, 5, [(0, 6), (6, 9)], [rT [0], iT (1, 0), iT (2, 0)], [1, 2], [([(0, 6), (6, 9)], [iT (0, (-5))], [], []), ([(0, 6), (6, 9), fI], [iT (3, 0)], [], [(999999, 0)])], w_19, false, [])
def k_293 : Ctr := (64, 6, [fI, fI], [rT [0], iT (1, 0), iT (2, 0)], [1, 2], [([fI, fI, fI], [iT (3, 0)], [], [(999999, 0)])], w_19, false, [])
def k_294 : Ctr := (71, 5, [], [rT [0]], [], [([], [iT (0, (-3))], [], []), ([(0, 127)], [iT (1, 0)], [], [(999999, 0)])], w_20, false, [])
def k_295 : Ctr := (9, 5, [], [rT [17]], [], [([(0, 127)], [iT (1, 0)], [], [(999999, 0)])], w_21, false, [])
def k_296 : Ctr := (72, 6, [fI, fI], [rT [0], iT (1, 0), iT (2, 0)], [1, 2], [([fI, fI], [iT (0, (-1))], [], []), ([fI, (0, 1)], [iT (0, (-2))], [], []), ([(0, 30), (0, 1), fI], [iT (3, 0)], [], [(999999, 0)])], w_19, false, [])
def k_297 : Ctr := (73, 6, [fI], [rT [0], iT (1, 0)], [1], [([fI], [iT (0, (-1))], [], []), ([(0, 1)], [iT (0, (-5))], [], []), ([(0, 1), (0, 30)], [iT (2, 0)], [], [(999999, 0)])], w_19, false, [])
def k_298 : Ctr := (74, 5, [fI], [rT [0], iT (1, 0)], [1], [([fI], [iT (0, (-1))], [], []), ([(0, 1), ((-5), 63)], [iT (2, 0)], [], [(999999, 0)])], w_19, false, [])
def k_299 : Ctr := (101, 5, [(0, 6), (0, 6)], [rT [0], iT (1, 0), iT (2, 0)], [1, 2], [([(0, 6), (0, 6), (0, 127)], [iT (3, 0)], [], [(999999, 0)])], w_19, false, [])
def k_300 : Ctr := (75, 6, [fI, fI], [rT [0], iT (1, 0), iT (2, 0)], [1, 2], [([fI, fI], [iT (0, (-1))], [], []), ([(0, 6), (0, 1)], [iT (0, (-3))], [], []), ([(0, 6), (0, 1), ((-1), 63)], [iT (3, 0)], [], [(999999, 0)])], w_19, false, [])
def k_301 : Ctr := (76, 5, [fI], [rT [0], iT (1, 0)], [1], [([fI], [iT (0, (-1))], [], []), ([(0, 6)], [iT (0, (-3))], [], []), ([(0, 6), (0, 2147483647)], [iT (2, 0)], [], [(999999, 0)])], w_22, false, [])
def k_302 : Ctr := (77, 5, [fI], [rT [0], iT (1, 0)], [1], [([fI, ((-5), 9)], [iT (2, 0)], [], [(999999, 0)])], w_19, false, [])
def k_303 : Ctr := (78, 5, [], [rT [0]], [], [([], [iT (0, (-5))], [], []), ([(0, 6)], [iT (1, 0)], [], [(999999, 0)])], w_19, false, [])
def k_304 : Ctr := (79, 5, [fI], [rT [0], iT (1, 0)], [1], [([fI], [iT (0, (-1))], [], []), ([(0, 6)], [iT (0, (-3))], [], []), ([(0, 6), (0, 63)], [iT (2, 0)], [], [(999999, 0)])], w_19, false, [])
def k_305 : Ctr := (32, 1, [(0, 600)], [rT [18], iT (1, 0)], [1], [([(0, 600)], [], [], [])], [(21, 999)], false, [])
def k_306 : Ctr := (80, 5, [fI], [rT [0], iT (1, 0)], [1], [([fI, ((-9), 63)], [iT (2, 0)], [], [(999999, 0)])], w_19, false, [])
def k_307 : Ctr := (81, 5, [fI, fI], [rT [0], iT (1, 0), iT (2, 0)], [1, 2], [([fI, fI, ((-3), 1)], [iT (3, 0)], [], [(999999, 0)])], w_23, false, [])
def k_308 : Ctr := (83, 6, [fI], [rT [0], iT (1, 0)], [1], [([fI], [iT (0, (-1))], [], []), ([(0, 6)], [iT (0, (-3))], [], []), ([(0, 6), (0, 2147483647)], [iT (2, 0)], [], [(999999, 0)])], w_19, false, [])
def k_309 : Ctr := (84, 6, [fI, fI, fI], [rT [0], iT (1, 0), iT (2, 0), iT (3, 0)], [1, 2, 3], [([fI, fI, fI], [lT (0, (-9223372036854775808))], [], []), ([(0, 6), (0, 6), (0, 1), fI], [lT (4, 0)], [], [(999999, 0)])], w_19, false, [])
def k_310 : Ctr := (85, 6, [fI, fI], [rT [0], iT (1, 0), iT (2, 0)], [1, 2], [([fI, fI], [lT (0, (-9223372036854775808))], [], []), ([(1, 30), (0, 1), fI], [lT (3, 0)], [], [(999999, 0)])], w_19, false, [])
def k_311 : Ctr := (87, 6, [], [rT [0]], [], [([], [iT (0, (-5))], [], []), ([(1, 12)], [iT (1, 0)], [], [(999999, 0)])], w_19, false, [])
def k_312 : Ctr := (149, 12, [fI, fI], [rT [93], iT (1, 0), iT (2, 0)], [1, 2], [([fI, fI, fI], [iT (3, 0)], [], [(999999, 0)])], [(109, 999)], true, [])
def k_313 : Ctr := (158, 13, [(0, 1099)], [rT [93]], [100], [([(0, 1099), (0, 127)], [iT (2, 0)], [(93, 1, (1, 1))], [(999999, 0)])], w_24, true, [(93, 1, (1, 0))])
def k_314 : Ctr := (159, 14, [(0, 999)], [rT [93]], [100], [([(999, 999)], [iT (0, (-3))], [(93, 1, (1, 0))], []), ([(0, 998), (0, 127)], [iT (2, 0)], [(93, 1, (1, 1))], [(999999, 0)])], w_24, true, [(93, 1, (1, 0))])
def k_315 : Ctr := (162, 14, [fI, fI, (0, 999)], [rT [93], iT (1, 0), iT (2, 0)], [1, 2, 100], [([fI, fI, (0, 999), ((-2), 960)], [iT (4, 0)], [(93, 1, (3, 0))], [(999999, 0)])], w_25, true, [(93, 1, (3, 0))])
def k_316 : Ctr := (164, 14, [fI, (0, 999)], [rT [93], iT (1, 0)], [1, 100], [([fI, (0, 999), ((-5), 30)], [iT (3, 0)], [(93, 1, (2, 0))], [(999999, 0)])], w_25, true, [(93, 1, (2, 0))])
def k_317 : Ctr := (165, 13, [fI], [rT [93], iT (1, 0)], [1], [([fI], [iT (0, (-1))], [], []), ([(0, 1), ((-5), 32)], [iT (2, 0)], [], [(999999, 0)])], [(93, 2), (93, 34), (93, 35), (109, 999), (110, 999)], true, [])
def k_318 : Ctr := (166, 13, [fI, fI], [rT [93], iT (1, 0), iT (2, 0)], [1, 2], [([fI, fI], [iT (0, (-1))], [], []), ([(0, 6), (0, 1)], [iT (0, (-3))], [], []), ([(0, 6), (0, 1), ((-1), 32)], [iT (3, 0)], [], [(999999, 0)])], [(93, 34), (93, 35), (96, 999), (109, 999), (110, 999)], true, [])
def k_319 : Ctr := (167, 13, [fI], [rT [93], iT (1, 0)], [1], [([fI], [iT (0, (-1))], [], []), ([(0, 6)], [iT (0, (-3))], [], []), ([(0, 6), (0, 2147483647)], [iT (2, 0)], [], [(999999, 0)])], w_26, true, [])
def k_320 : Ctr := (168, 13, [fI], [rT [93], iT (1, 0)], [1], [([fI], [iT (0, (-1))], [], []), ([(0, 6)], [iT (0, (-3))], [], []), ([(0, 6), ((-5), 9)], [iT (2, 0)], [], [(999999, 0)])], [(93, 34), (93, 35), (98, 999), (109, 999), (110, 999)], true, [])
def k_321 : Ctr := (169, 13, [], [rT [93]], [], [([fI], [iT (1, 0)], [], [(999999, 0)])], [(93, 27), (93, 34), (93, 35), (109, 999), (110, 999)], true, [])
def k_322 : Ctr := (170, 13, [fI], [rT [93], iT (1, 0)], [1], [([fI], [iT (0, (-1))], [], []), ([(0, 6)], [iT (0, (-3))], [], []), ([(0, 6), (0, 32)], [iT (2, 0)], [], [(999999, 0)])], w_27, true, [])
def k_323 : Ctr := (176, 13, [fI], [rT [93], iT (1, 0)], [1], [([fI], [iT (0, (-1))], [], []), ([(0, 6)], [iT (0, (-3))], [], []), ([(0, 6), (0, 2147483647)], [iT (2, 0)], [], [(999999, 0)])], [(93, 34), (93, 35), (96, 999), (109, 999), (110, 999)], true, [])
def k_324 : Ctr := (178, 1, [(0, 1100), (1, 30), (0, 1)], [rT [93], iT (1, 0), iT (2, 0), iT (3, 0)], [1, 2, 3], [([(0, 1100), (1, 30), (0, 1), (0, 1100)], [lT (4, 0)], [], [(999999, 0)])], [], false, [])
def k_325 : Ctr := (179, 13, [fI, fI, fI], [rT [93], iT (1, 0), iT (2, 0), iT (3, 0)], [1, 2, 3], [([fI, fI, fI], [lT (0, (-9223372036854775808))], [], []), ([(0, 6), (0, 6), (0, 1), (0, 1100)], [lT (4, 0)], [], [(999999, 0)])], [(93, 34), (93, 35), (96, 999), (109, 999), (110, 999)], true, [])
def k_326 : Ctr := (180, 14, [fI, fI, (0, 999)], [rT [93], iT (1, 0), iT (2, 0)], [1, 2, 100], [([fI, fI, (0, 999)], [lT (0, (-9223372036854775808))], [(93, 1, (3, 0))], []), ([(1, 30), (0, 1), (0, 999), (0, 1100)], [lT (4, 0)], [(93, 1, (3, 0))], [(999999, 0)])], w_25, true, [(93, 1, (3, 0))])
def k_327 : Ctr := (182, 14, [(0, 999)], [rT [93]], [100], [([(0, 999)], [iT (0, (-5))], [(93, 1, (1, 0))], []), ([(0, 999), ((-5), 11)], [iT (2, 0)], [(93, 1, (1, 0))], [(999999, 0)])], w_25, true, [(93, 1, (1, 0))])
def r_0 : Row := (k_0, [], [], 0, none)
def r_1 : Row := (k_1, [], [], 0, none)
def r_2 : Row := (k_2, [], [], 0, none)
def r_3 : Row := (k_3, [(13, 0), (20, 1), (28, 0), (36, 0), (56, 2)], [], 0, none)
def r_4 : Row := (k_4, [], [], 0, none)
def r_5 : Row := (k_5, [], [], 0, none)
def r_6 : Row := (k_6, [(5, 5)], [], 0, none)
def r_7 : Row := (k_7, [(5, 5)], [], 0, none)
def r_8 : Row := (k_8, [(39, 6), (39, 7)], [], 0, none)
def r_9 : Row := (k_9, [], [], 0, none)
def r_10 : Row := (k_10, [(1, 9)], [], 0, none)
def r_11 : Row := (k_11, [], [(5, [fI, (0, 7)], [rT [32], iT (1, 0), iT (2, 0), iT (0, 7)], [2], [(1, 2, 7)], [])], 1, none)
def r_12 : Row := (k_12, [], [], 0, none)
def r_13 : Row := (k_13, [], [(2, [(0, 0), (0, 10)], [rT [26], iT (1, 0), iT (2, 0)], [2], [(1, 2, 10)], [])], 1, none)
def r_14 : Row := (k_14, [], [(2, [(0, 0), (0, 10)], [rT [39], iT (1, 0), iT (2, 0)], [2], [(1, 2, 10)], [])], 1, none)
def r_15 : Row := (k_15, [], [(2, [(0, 0), (0, 10)], [rT [63], iT (1, 0), iT (2, 0)], [2], [(1, 2, 10)], [])], 1, none)
def r_16 : Row := (k_16, [], [(2, [(0, 0), (0, 10)], [rT [68], iT (1, 0), iT (2, 0)], [2], [(1, 2, 10)], [])], 1, none)
def r_17 : Row := (k_17, [], [(2, [(0, 0), (0, 10)], [rT [73], iT (1, 0), iT (2, 0)], [2], [(1, 2, 10)], [])], 1, none)
def r_18 : Row := (k_18, [], [(2, [(0, 0), (0, 10)], [rT [78], iT (1, 0), iT (2, 0)], [2], [(1, 2, 10)], [])], 1, none)
def r_19 : Row := (k_19, [], [(2, [(0, 0), (0, 10)], [rT [83], iT (1, 0), iT (2, 0)], [2], [(1, 2, 10)], [])], 1, none)
def r_20 : Row := (k_20, [], [(2, [(0, 0), (0, 10)], [rT [88], iT (1, 0), iT (2, 0)], [2], [(1, 2, 10)], [])], 1, none)
def r_21 : Row := (k_21, [], [], 0, some 0)
def r_22 : Row := (k_22, [], [], 0, none)
def r_23 : Row := (k_23, [], [], 0, none)
def r_24 : Row := (k_24, [(5, 22), (104, 23)], [(10, [fI, fI, fL, (0, 2147483647)], [rT [26], iT (1, 0), iT (2, 0), rT [31], lT (3, 0), jT, iT (4, 0), jT, (5, (0, 0), (0, 0), []), jT], [4, 6], [(1, 6, 2147483647)], [])], 1, none)
def r_25 : Row := (k_25, [(46, 24)], [(8, [(0, 2), fI, fI, (0, 10)], [rT [26], iT (1, 0), rT [31], iT (2, 0), iT (3, 0), iT (4, 0)], [3, 4, 5], [(1, 5, 10)], [])], 1, none)
def r_26 : Row := (k_26, [(5, 22), (104, 23)], [(10, [fI, fI, fL, (0, 2147483647)], [rT [39], iT (1, 0), iT (2, 0), rT [31], lT (3, 0), jT, iT (4, 0), jT, (5, (0, 0), (0, 0), []), jT], [4, 6], [(1, 6, 2147483647)], [])], 1, none)
def r_27 : Row := (k_27, [(46, 26)], [(8, [(0, 2), fI, fI, (0, 10)], [rT [39], iT (1, 0), rT [31], iT (2, 0), iT (3, 0), iT (4, 0)], [3, 4, 5], [(1, 5, 10)], [])], 1, none)
def r_28 : Row := (k_28, [(5, 22), (104, 23)], [(10, [fI, fI, fL, (0, 2147483647)], [rT [63], iT (1, 0), iT (2, 0), rT [31], lT (3, 0), jT, iT (4, 0), jT, (5, (0, 0), (0, 0), []), jT], [4, 6], [(1, 6, 2147483647)], [])], 1, none)
def r_29 : Row := (k_29, [(46, 28)], [(8, [(0, 2), fI, fI, (0, 10)], [rT [63], iT (1, 0), rT [31], iT (2, 0), iT (3, 0), iT (4, 0)], [3, 4, 5], [(1, 5, 10)], [])], 1, none)
def r_30 : Row := (k_30, [(5, 22), (104, 23)], [(10, [fI, fI, fL, (0, 2147483647)], [rT [68], iT (1, 0), iT (2, 0), rT [31], lT (3, 0), jT, iT (4, 0), jT, (5, (0, 0), (0, 0), []), jT], [4, 6], [(1, 6, 2147483647)], [])], 1, none)
def r_31 : Row := (k_31, [(46, 30)], [(8, [(0, 2), fI, fI, (0, 10)], [rT [68], iT (1, 0), rT [31], iT (2, 0), iT (3, 0), iT (4, 0)], [3, 4, 5], [(1, 5, 10)], [])], 1, none)
def r_32 : Row := (k_32, [(5, 22), (104, 23)], [(10, [fI, fI, fL, (0, 2147483647)], [rT [73], iT (1, 0), iT (2, 0), rT [31], lT (3, 0), jT, iT (4, 0), jT, (5, (0, 0), (0, 0), []), jT], [4, 6], [(1, 6, 2147483647)], [])], 1, none)
def r_33 : Row := (k_33, [(46, 32)], [(8, [(0, 2), fI, fI, (0, 10)], [rT [73], iT (1, 0), rT [31], iT (2, 0), iT (3, 0), iT (4, 0)], [3, 4, 5], [(1, 5, 10)], [])], 1, none)
def r_34 : Row := (k_34, [(5, 22), (104, 23)], [(10, [fI, fI, fL, (0, 2147483647)], [rT [78], iT (1, 0), iT (2, 0), rT [31], lT (3, 0), jT, iT (4, 0), jT, (5, (0, 0), (0, 0), []), jT], [4, 6], [(1, 6, 2147483647)], [])], 1, none)
def r_35 : Row := (k_35, [(46, 34)], [(8, [(0, 2), fI, fI, (0, 10)], [rT [78], iT (1, 0), rT [31], iT (2, 0), iT (3, 0), iT (4, 0)], [3, 4, 5], [(1, 5, 10)], [])], 1, none)
def r_36 : Row := (k_36, [(5, 22), (104, 23)], [(10, [fI, fI, fL, (0, 2147483647)], [rT [83], iT (1, 0), iT (2, 0), rT [31], lT (3, 0), jT, iT (4, 0), jT, (5, (0, 0), (0, 0), []), jT], [4, 6], [(1, 6, 2147483647)], [])], 1, none)
def r_37 : Row := (k_37, [(46, 36)], [(8, [(0, 2), fI, fI, (0, 10)], [rT [83], iT (1, 0), rT [31], iT (2, 0), iT (3, 0), iT (4, 0)], [3, 4, 5], [(1, 5, 10)], [])], 1, none)
def r_38 : Row := (k_38, [(5, 22), (104, 23)], [(10, [fI, fI, fL, (0, 2147483647)], [rT [88], iT (1, 0), iT (2, 0), rT [31], lT (3, 0), jT, iT (4, 0), jT, (5, (0, 0), (0, 0), []), jT], [4, 6], [(1, 6, 2147483647)], [])], 1, none)
def r_39 : Row := (k_39, [(46, 38)], [(8, [(0, 2), fI, fI, (0, 10)], [rT [88], iT (1, 0), rT [31], iT (2, 0), iT (3, 0), iT (4, 0)], [3, 4, 5], [(1, 5, 10)], [])], 1, none)
def r_40 : Row := (k_40, [], [], 0, some 0)
def r_41 : Row := (k_41, [], [], 0, none)
def r_42 : Row := (k_42, [(19, 41)], [(2, [(0, 6), (0, 7)], [rT [17], iT (1, 0), iT (2, 0)], [2], [(1, 2, 7)], [])], 1, none)
def r_43 : Row := (k_43, [], [], 0, none)
def r_44 : Row := (k_44, [(26, 43), (35, 41)], [(12, [(0, 6), (0, 6), (0, 8), fI, (0, 7)], [rT [17], iT (1, 0), iT (2, 0), iT (3, 0), iT (4, 0), iT (5, 0), jT, jT], [2, 3, 4, 5], [(1, 5, 7)], [])], 1, none)
def r_45 : Row := (k_45, [(37, 12)], [(27, [(0, 6), fI, ((-1), 9), (0, 6), (0, 7)], [rT [17], iT (1, 0), iT (2, 0), iT (3, 0), iT (4, 0), iT (5, 0)], [2, 3, 4, 5], [(1, 5, 7)], [])], 1, none)
def r_46 : Row := (k_46, [], [], 0, none)
def r_47 : Row := (k_47, [], [], 0, none)
def r_48 : Row := (k_48, [], [], 0, none)
def r_49 : Row := (k_49, [(3, 47), (20, 48), (25, 48)], [(7, [(0, 6), (0, 6), (0, 6)], [rT [17], iT (1, 0), iT (2, 0), iT (3, 0)], [3], [(2, 3, 0)], [])], 1, none)
def r_50 : Row := (k_50, [(3, 47)], [(7, [(0, 7), (0, 6), (0, 6)], [rT [17], iT (1, 0), iT (3, 0)], [2], [(2, 2, 0)], [(17, 15, (2, 0))])], 1, none)
def r_51 : Row := (k_51, [(15, 12), (32, 49), (55, 50)], [(4, [], [rT [17], iT (0, 0), iT (0, 0)], [], [(0, 0, 7)], []), (4, [(0, 1)], [rT [17], iT (1, 0), iT (0, 1)], [1], [(0, 0, 6)], []), (4, [(0, 2)], [rT [17], iT (1, 0), iT (0, 2)], [1], [(0, 0, 5)], []), (4, [(0, 3)], [rT [17], iT (1, 0), iT (0, 3)], [1], [(0, 0, 4)], []), (4, [(0, 4)], [rT [17], iT (1, 0), iT (0, 4)], [1], [(0, 0, 3)], []), (4, [(0, 5)], [rT [17], iT (1, 0), iT (0, 5)], [1], [(0, 0, 2)], []), (4, [(0, 6)], [rT [17], iT (1, 0), iT (0, 6)], [1], [(0, 0, 1)], []), (4, [(0, 7)], [rT [17], iT (1, 0), iT (0, 7)], [1], [(0, 0, 0)], [])], 1, none)
def r_52 : Row := (k_52, [(1, 1)], [], 0, none)
def r_53 : Row := (k_53, [(12, 12)], [(4, [fI, fI, (0, 7)], [rT [17], iT (1, 0), iT (2, 0), iT (3, 0)], [2, 3], [(1, 3, 7)], [])], 1, none)
def r_54 : Row := (k_54, [(5, 12)], [], 0, none)
def r_55 : Row := (k_55, [(5, 4), (27, 1), (37, 0)], [], 0, none)
def r_56 : Row := (k_56, [(5, 4), (18, 54)], [], 0, none)
def r_57 : Row := (k_57, [(5, 4), (23, 1)], [], 0, none)
def r_58 : Row := (k_58, [], [], 0, none)
def r_59 : Row := (k_59, [(18, 58)], [], 0, none)
def r_60 : Row := (k_60, [], [], 0, none)
def r_61 : Row := (k_61, [], [], 0, none)
def r_62 : Row := (k_62, [], [], 0, none)
def r_63 : Row := (k_63, [], [], 0, none)
def r_64 : Row := (k_64, [], [], 0, none)
def r_65 : Row := (k_65, [], [], 0, none)
def r_66 : Row := (k_66, [], [], 0, none)
def r_67 : Row := (k_67, [], [], 0, some 0)
def r_68 : Row := (k_68, [], [], 0, none)
def r_69 : Row := (k_69, [(1, 68)], [], 0, none)
def r_70 : Row := (k_70, [], [], 0, none)
def r_71 : Row := (k_71, [(6, 70)], [], 0, none)
def r_72 : Row := (k_72, [], [], 0, none)
def r_73 : Row := (k_73, [], [], 0, none)
def r_74 : Row := (k_74, [(5, 73)], [], 0, none)
def r_75 : Row := (k_75, [(3, 74)], [], 0, none)
def r_76 : Row := (k_76, [(1, 72), (12, 75)], [], 0, none)
def r_77 : Row := (k_77, [(4, 71), (13, 76), (16, 69)], [(2, [(0, 4)], [rT [44], rT [1000003], iT (1, 0)], [2], [(1, 2, 4)], [])], 1, none)
def r_78 : Row := (k_78, [], [], 0, none)
def r_79 : Row := (k_79, [(6, 78)], [], 0, none)
def r_80 : Row := (k_80, [], [], 0, none)
def r_81 : Row := (k_81, [], [], 0, none)
def r_82 : Row := (k_82, [(5, 81)], [], 0, none)
def r_83 : Row := (k_83, [(3, 82)], [], 0, none)
def r_84 : Row := (k_84, [(1, 80), (12, 83)], [], 0, none)
def r_85 : Row := (k_85, [(4, 79), (13, 84), (16, 69)], [(2, [(0, 3)], [rT [44], rT [1000004], iT (1, 0)], [2], [(1, 2, 3)], [])], 1, none)
def r_86 : Row := (k_86, [], [], 0, none)
def r_87 : Row := (k_87, [(6, 86)], [], 0, none)
def r_88 : Row := (k_88, [], [], 0, none)
def r_89 : Row := (k_89, [(3, 74)], [], 0, none)
def r_90 : Row := (k_90, [(1, 88), (12, 89)], [], 0, none)
def r_91 : Row := (k_91, [(4, 87), (13, 90), (16, 69)], [(2, [(0, 4)], [rT [44], rT [1000005], iT (1, 0)], [2], [(1, 2, 4)], [])], 1, none)
def r_92 : Row := (k_92, [(3, 69), (12, 77), (27, 69), (36, 85), (51, 69), (60, 91)], [], 0, none)
def r_93 : Row := (k_93, [(10, 68)], [(4, [fI, (0, 2)], [rT [44], iT (1, 0), iT (2, 0)], [1, 2], [(1, 2, 2)], [])], 1, none)
def r_94 : Row := (k_94, [], [], 0, none)
def r_95 : Row := (k_95, [], [], 0, none)
def r_96 : Row := (k_96, [(6, 95)], [], 0, none)
def r_97 : Row := (k_97, [], [], 0, none)
def r_98 : Row := (k_98, [], [(7, [(0, 255), (0, 0), (1, 6), ((-128), 127), (0, 6)], [rT [1000011], iT (1, 0), iT (2, 0), iT (3, 0), iT (4, 0), iT (5, 0)], [4, 5], [(1, 5, 6)], [])], 1, none)
def r_99 : Row := (k_99, [(1, 97), (11, 22), (18, 47), (33, 98)], [], 0, none)
def r_100 : Row := (k_100, [(1, 94), (14, 96), (17, 99)], [], 0, none)
def r_101 : Row := (k_101, [(3, 100)], [], 0, none)
def r_102 : Row := (k_102, [(1, 68), (18, 101)], [], 0, none)
def r_103 : Row := (k_103, [], [], 0, none)
def r_104 : Row := (k_104, [], [], 0, none)
def r_105 : Row := (k_105, [(6, 104)], [], 0, none)
def r_106 : Row := (k_106, [], [(7, [(0, 255), (0, 0), (1, 3), ((-128), 127), (0, 3)], [rT [1000012], iT (1, 0), iT (2, 0), iT (3, 0), iT (4, 0), iT (5, 0)], [4, 5], [(1, 5, 3)], [])], 1, none)
def r_107 : Row := (k_107, [(1, 97), (11, 22), (18, 47), (33, 106)], [], 0, none)
def r_108 : Row := (k_108, [(1, 103), (14, 105), (17, 107)], [], 0, none)
def r_109 : Row := (k_109, [(3, 108)], [], 0, none)
def r_110 : Row := (k_110, [(1, 68), (18, 109)], [], 0, none)
def r_111 : Row := (k_111, [], [], 0, none)
def r_112 : Row := (k_112, [], [], 0, none)
def r_113 : Row := (k_113, [], [], 0, none)
def r_114 : Row := (k_114, [], [], 0, none)
def r_115 : Row := (k_115, [], [], 0, none)
def r_116 : Row := (k_116, [], [], 0, none)
def r_117 : Row := (k_117, [], [], 0, none)
def r_118 : Row := (k_118, [], [], 0, none)
def r_119 : Row := (k_119, [], [], 0, some 0)
def r_120 : Row := (k_120, [(74, 102), (89, 110), (102, 93), (122, 111), (125, 119)], [], 0, none)
def r_121 : Row := (k_121, [(2, 120), (21, 69), (29, 120), (39, 119)], [(8, [(0, 1), (0, 100)], [rT [44], iT (0, 4), iT (1, 0), iT (2, 0)], [2, 3], [(1, 3, 100)], [])], 1, none)
def r_122 : Row := (k_122, [(2, 121), (21, 69), (29, 121), (39, 119)], [(8, [(0, 1), (0, 100)], [rT [44], iT (0, 4), iT (1, 0), iT (2, 0)], [2, 3], [(1, 3, 100)], [])], 1, none)
def r_123 : Row := (k_123, [(8, 69), (18, 120), (27, 119), (40, 69), (50, 122), (59, 69), (74, 102), (89, 110), (102, 93), (122, 111), (125, 119)], [], 0, none)
def r_124 : Row := (k_124, [(2, 123), (21, 69), (29, 123), (39, 119)], [(8, [(0, 1), (0, 100)], [rT [44], iT (0, 3), iT (1, 0), iT (2, 0)], [2, 3], [(1, 3, 100)], [])], 1, none)
def r_125 : Row := (k_125, [(2, 124), (21, 69), (29, 124), (39, 119)], [(8, [(0, 1), (0, 100)], [rT [44], iT (0, 3), iT (1, 0), iT (2, 0)], [2, 3], [(1, 3, 100)], [])], 1, none)
def r_126 : Row := (k_126, [(8, 69), (18, 123), (27, 119), (40, 69), (50, 125), (59, 69), (74, 102), (89, 110), (102, 93), (122, 111), (125, 119)], [], 0, none)
def r_127 : Row := (k_127, [(2, 126), (21, 69), (29, 126), (39, 119)], [(8, [(0, 1), (0, 100)], [rT [44], iT (0, 2), iT (1, 0), iT (2, 0)], [2, 3], [(1, 3, 100)], [])], 1, none)
def r_128 : Row := (k_128, [(2, 127), (21, 69), (29, 127), (39, 119)], [(8, [(0, 1), (0, 100)], [rT [44], iT (0, 2), iT (1, 0), iT (2, 0)], [2, 3], [(1, 3, 100)], [])], 1, none)
def r_129 : Row := (k_129, [(8, 69), (18, 126), (27, 119), (40, 69), (50, 128), (59, 69), (74, 102), (89, 110), (102, 93), (122, 111), (125, 119)], [], 0, none)
def r_130 : Row := (k_130, [(2, 129), (21, 69), (29, 129), (39, 119)], [(8, [(0, 1), (0, 100)], [rT [44], iT (0, 1), iT (1, 0), iT (2, 0)], [2, 3], [(1, 3, 100)], [])], 1, none)
def r_131 : Row := (k_131, [(2, 130), (21, 69), (29, 130), (39, 119)], [(8, [(0, 1), (0, 100)], [rT [44], iT (0, 1), iT (1, 0), iT (2, 0)], [2, 3], [(1, 3, 100)], [])], 1, none)
def r_132 : Row := (k_132, [(8, 69), (18, 129), (27, 119), (40, 69), (50, 131), (59, 69), (74, 102), (89, 110), (102, 93), (122, 111), (125, 119)], [], 0, none)
def r_133 : Row := (k_133, [(2, 132), (21, 69), (29, 132), (39, 119)], [(8, [(0, 1), (0, 100)], [rT [44], iT (0, 0), iT (1, 0), iT (2, 0)], [2, 3], [(1, 3, 100)], [])], 1, none)
def r_134 : Row := (k_134, [(2, 133), (21, 69), (29, 133), (39, 119)], [(8, [(0, 1), (0, 100)], [rT [44], iT (0, 0), iT (1, 0), iT (2, 0)], [2, 3], [(1, 3, 100)], [])], 1, none)
def r_135 : Row := (k_135, [], [], 0, none)
def r_136 : Row := (k_136, [], [], 0, none)
def r_137 : Row := (k_137, [], [], 0, none)
def r_138 : Row := (k_138, [], [], 0, none)
def r_139 : Row := (k_139, [], [], 0, none)
def r_140 : Row := (k_140, [], [], 0, none)
def r_141 : Row := (k_141, [], [], 0, none)
def r_142 : Row := (k_142, [], [], 0, some 0)
def r_143 : Row := (k_143, [(1, 92), (12, 69), (21, 93), (32, 69), (40, 134), (54, 142)], [], 0, none)
def r_144 : Row := (k_144, [(9, 67), (18, 143), (48, 69), (55, 143)], [(24, [(0, 1), (1, 10)], [rT [44], rT [63, 68, 73, 78, 83, 88], iT (1, 0), iT (2, 0)], [2, 3], [(1, 3, 10)], [])], 1, none)
def r_145 : Row := (k_145, [(25, 144)], [], 0, none)
def r_146 : Row := (k_146, [], [], 0, none)
def r_147 : Row := (k_147, [(1, 146)], [], 0, none)
def r_148 : Row := (k_148, [(40, 147)], [], 0, none)
def r_149 : Row := (k_149, [(10, 12)], [(2, [(0, 127), (0, 7)], [iT (1, 0), iT (2, 0)], [1], [(1, 1, 7)], [])], 1, none)
def r_150 : Row := (k_150, [], [], 0, none)
def r_151 : Row := (k_151, [], [(4, [((-2), 3)], [iT (1, 0), iT (0, 1), iT (0, 0)], [], [(0, 0, 3)], []), (4, [(1, 3)], [iT (1, 0), iT (0, 7), iT (0, 1)], [], [(0, 0, 2)], []), (4, [(2, 3)], [iT (1, 0), iT (0, 49), iT (0, 2)], [], [(0, 0, 1)], []), (4, [(3, 3)], [iT (1, 0), iT (0, 343), iT (0, 3)], [], [(0, 0, 0)], [])], 1, none)
def r_152 : Row := (k_152, [], [], 0, none)
def r_153 : Row := (k_153, [(2, 146)], [], 0, none)
def r_154 : Row := (k_154, [(5, 153)], [], 0, none)
def r_155 : Row := (k_155, [], [(8, [fI, (1, 30), (0, 1), fI, fI, (0, 64)], [iT (1, 0), iT (2, 0), iT (3, 0), iT (4, 0), iT (5, 0), iT (6, 0), jT], [3, 4, 5], [(1, 5, 64)], [])], 1, none)
def r_156 : Row := (k_156, [(20, 153)], [], 0, none)
def r_157 : Row := (k_157, [], [], 0, none)
def r_158 : Row := (k_158, [(2, 157)], [], 0, none)
def r_159 : Row := (k_159, [(5, 157), (73, 158), (116, 54)], [(44, [(0, 5), fI], [rT [0], iT (1, 0), iT (2, 0), iT (0, 0), jT, jT, jT], [], [(0, 0, 7)], []), (44, [(0, 5), (0, 59), (0, 1)], [rT [0], iT (1, 0), iT (2, 0), iT (0, 1), lT (2, 0), jT, iT (3, 0)], [6], [(0, 0, 6)], []), (44, [(0, 5), (0, 58), (0, 1)], [rT [0], iT (1, 0), iT (2, 0), iT (0, 2), lT (2, 1), jT, iT (3, 0)], [6], [(0, 0, 5)], []), (44, [(0, 5), (0, 57), (0, 1)], [rT [0], iT (1, 0), iT (2, 0), iT (0, 3), lT (2, 2), jT, iT (3, 0)], [6], [(0, 0, 4)], []), (44, [(0, 5), (0, 56), (0, 1)], [rT [0], iT (1, 0), iT (2, 0), iT (0, 4), lT (2, 3), jT, iT (3, 0)], [6], [(0, 0, 3)], []), (44, [(0, 5), (0, 55), (0, 1)], [rT [0], iT (1, 0), iT (2, 0), iT (0, 5), lT (2, 4), jT, iT (3, 0)], [6], [(0, 0, 2)], []), (44, [(0, 5), (0, 54), (0, 1)], [rT [0], iT (1, 0), iT (2, 0), iT (0, 6), lT (2, 5), jT, iT (3, 0)], [6], [(0, 0, 1)], []), (44, [(0, 5), (0, 53), (0, 1)], [rT [0], iT (1, 0), iT (2, 0), iT (0, 7), lT (2, 6), jT, iT (3, 0)], [6], [(0, 0, 0)], [])], 1, none)
def r_160 : Row := (k_160, [], [], 0, none)
def r_161 : Row := (k_161, [(8, 160)], [], 0, none)
def r_162 : Row := (k_162, [], [], 0, none)
def r_163 : Row := (k_163, [(18, 162)], [], 0, none)
def r_164 : Row := (k_164, [], [(15, [(0, 2), fI, fI, (0, 7)], [iT (1, 0), iT (2, 0), iT (3, 0), iT (4, 0)], [2, 3], [(1, 3, 7)], [])], 1, none)
def r_165 : Row := (k_165, [], [], 0, none)
def r_166 : Row := (k_166, [(2, 164)], [], 0, none)
def r_167 : Row := (k_167, [(2, 164), (58, 165), (176, 166), (194, 166), (207, 166), (223, 166), (234, 166), (246, 166), (258, 166), (272, 166), (288, 166), (299, 166), (309, 166), (321, 166)], [], 0, none)
def r_168 : Row := (k_168, [(2, 164), (58, 165), (176, 167), (194, 167), (207, 167), (223, 167), (234, 167), (246, 167), (258, 167), (272, 167), (288, 167), (299, 167), (309, 167), (321, 167)], [], 0, none)
def r_169 : Row := (k_169, [(2, 164), (58, 165), (176, 168), (194, 168), (207, 168), (223, 168), (234, 168), (246, 168), (258, 168), (272, 168), (288, 168), (299, 168), (309, 168), (321, 168)], [], 0, none)
def r_170 : Row := (k_170, [(2, 164), (58, 165), (176, 169), (194, 169), (207, 169), (223, 169), (234, 169), (246, 169), (258, 169), (272, 169), (288, 169), (299, 169), (309, 169), (321, 169)], [], 0, none)
def r_171 : Row := (k_171, [(2, 164), (58, 165), (176, 170), (194, 170), (207, 170), (223, 170), (234, 170), (246, 170), (258, 170), (272, 170), (288, 170), (299, 170), (309, 170), (321, 170)], [], 0, none)
def r_172 : Row := (k_172, [(2, 164), (58, 165), (176, 171), (194, 171), (207, 171), (223, 171), (234, 171), (246, 171), (258, 171), (272, 171), (288, 171), (299, 171), (309, 171), (321, 171)], [], 0, none)
def r_173 : Row := (k_173, [(2, 164), (58, 165), (176, 172), (194, 172), (207, 172), (223, 172), (234, 172), (246, 172), (258, 172), (272, 172), (288, 172), (299, 172), (309, 172), (321, 172)], [], 0, none)
def r_174 : Row := (k_174, [(2, 164), (58, 165), (176, 173), (194, 173), (207, 173), (223, 173), (234, 173), (246, 173), (258, 173), (272, 173), (288, 173), (299, 173), (309, 173), (321, 173)], [], 0, none)
def r_175 : Row := (k_175, [(2, 164), (58, 165), (176, 174), (194, 174), (207, 174), (223, 174), (234, 174), (246, 174), (258, 174), (272, 174), (288, 174), (299, 174), (309, 174), (321, 174)], [], 0, none)
def r_176 : Row := (k_176, [(2, 164), (58, 165), (176, 175), (194, 175), (207, 175), (223, 175), (234, 175), (246, 175), (258, 175), (272, 175), (288, 175), (299, 175), (309, 175), (321, 175)], [], 0, none)
def r_177 : Row := (k_177, [(2, 164), (58, 165), (176, 176), (194, 176), (207, 176), (223, 176), (234, 176), (246, 176), (258, 176), (272, 176), (288, 176), (299, 176), (309, 176), (321, 176)], [], 0, none)
def r_178 : Row := (k_178, [(2, 164), (58, 165), (176, 177), (194, 177), (207, 177), (223, 177), (234, 177), (246, 177), (258, 177), (272, 177), (288, 177), (299, 177), (309, 177), (321, 177)], [], 0, none)
def r_179 : Row := (k_179, [(2, 164), (58, 165), (176, 178), (194, 178), (207, 178), (223, 178), (234, 178), (246, 178), (258, 178), (272, 178), (288, 178), (299, 178), (309, 178), (321, 178)], [], 0, none)
def r_180 : Row := (k_180, [(2, 164), (58, 165), (176, 179), (194, 179), (207, 179), (223, 179), (234, 179), (246, 179), (258, 179), (272, 179), (288, 179), (299, 179), (309, 179), (321, 179)], [], 0, none)
def r_181 : Row := (k_181, [(2, 164), (58, 165), (176, 180), (194, 180), (207, 180), (223, 180), (234, 180), (246, 180), (258, 180), (272, 180), (288, 180), (299, 180), (309, 180), (321, 180)], [], 0, none)
def r_182 : Row := (k_182, [(2, 164), (58, 165), (176, 181), (194, 181), (207, 181), (223, 181), (234, 181), (246, 181), (258, 181), (272, 181), (288, 181), (299, 181), (309, 181), (321, 181)], [], 0, none)
def r_183 : Row := (k_183, [(2, 164), (58, 165), (176, 182), (194, 182), (207, 182), (223, 182), (234, 182), (246, 182), (258, 182), (272, 182), (288, 182), (299, 182), (309, 182), (321, 182)], [], 0, none)
def r_184 : Row := (k_184, [(2, 164), (58, 165), (176, 183), (194, 183), (207, 183), (223, 183), (234, 183), (246, 183), (258, 183), (272, 183), (288, 183), (299, 183), (309, 183), (321, 183)], [], 0, none)
def r_185 : Row := (k_185, [(2, 164), (58, 165), (176, 184), (194, 184), (207, 184), (223, 184), (234, 184), (246, 184), (258, 184), (272, 184), (288, 184), (299, 184), (309, 184), (321, 184)], [], 0, none)
def r_186 : Row := (k_186, [(2, 164), (58, 165), (176, 185), (194, 185), (207, 185), (223, 185), (234, 185), (246, 185), (258, 185), (272, 185), (288, 185), (299, 185), (309, 185), (321, 185)], [], 0, none)
def r_187 : Row := (k_187, [(2, 164), (58, 165), (176, 186), (194, 186), (207, 186), (223, 186), (234, 186), (246, 186), (258, 186), (272, 186), (288, 186), (299, 186), (309, 186), (321, 186)], [], 0, none)
def r_188 : Row := (k_188, [(2, 164), (58, 165), (176, 187), (194, 187), (207, 187), (223, 187), (234, 187), (246, 187), (258, 187), (272, 187), (288, 187), (299, 187), (309, 187), (321, 187)], [], 0, none)
def r_189 : Row := (k_189, [(2, 164), (58, 165), (176, 188), (194, 188), (207, 188), (223, 188), (234, 188), (246, 188), (258, 188), (272, 188), (288, 188), (299, 188), (309, 188), (321, 188)], [], 0, none)
def r_190 : Row := (k_190, [(2, 164), (58, 165), (176, 189), (194, 189), (207, 189), (223, 189), (234, 189), (246, 189), (258, 189), (272, 189), (288, 189), (299, 189), (309, 189), (321, 189)], [], 0, none)
def r_191 : Row := (k_191, [(2, 164), (58, 165), (176, 190), (194, 190), (207, 190), (223, 190), (234, 190), (246, 190), (258, 190), (272, 190), (288, 190), (299, 190), (309, 190), (321, 190)], [], 0, none)
def r_192 : Row := (k_192, [(2, 164), (58, 165), (176, 191), (194, 191), (207, 191), (223, 191), (234, 191), (246, 191), (258, 191), (272, 191), (288, 191), (299, 191), (309, 191), (321, 191)], [], 0, none)
def r_193 : Row := (k_193, [(2, 164), (58, 165), (176, 192), (194, 192), (207, 192), (223, 192), (234, 192), (246, 192), (258, 192), (272, 192), (288, 192), (299, 192), (309, 192), (321, 192)], [], 0, none)
def r_194 : Row := (k_194, [(2, 164), (58, 165), (176, 193), (194, 193), (207, 193), (223, 193), (234, 193), (246, 193), (258, 193), (272, 193), (288, 193), (299, 193), (309, 193), (321, 193)], [], 0, none)
def r_195 : Row := (k_195, [(2, 164), (58, 165), (176, 194), (194, 194), (207, 194), (223, 194), (234, 194), (246, 194), (258, 194), (272, 194), (288, 194), (299, 194), (309, 194), (321, 194)], [], 0, none)
def r_196 : Row := (k_196, [(2, 164), (58, 165), (176, 195), (194, 195), (207, 195), (223, 195), (234, 195), (246, 195), (258, 195), (272, 195), (288, 195), (299, 195), (309, 195), (321, 195)], [], 0, none)
def r_197 : Row := (k_197, [(2, 164), (58, 165), (176, 196), (194, 196), (207, 196), (223, 196), (234, 196), (246, 196), (258, 196), (272, 196), (288, 196), (299, 196), (309, 196), (321, 196)], [], 0, none)
def r_198 : Row := (k_198, [(2, 164), (58, 165), (176, 197), (194, 197), (207, 197), (223, 197), (234, 197), (246, 197), (258, 197), (272, 197), (288, 197), (299, 197), (309, 197), (321, 197)], [], 0, none)
def r_199 : Row := (k_199, [(2, 164), (58, 165), (176, 198), (194, 198), (207, 198), (223, 198), (234, 198), (246, 198), (258, 198), (272, 198), (288, 198), (299, 198), (309, 198), (321, 198)], [], 0, none)
def r_200 : Row := (k_200, [(2, 164), (58, 165), (176, 199), (194, 199), (207, 199), (223, 199), (234, 199), (246, 199), (258, 199), (272, 199), (288, 199), (299, 199), (309, 199), (321, 199)], [], 0, none)
def r_201 : Row := (k_201, [(2, 164), (58, 165), (176, 200), (194, 200), (207, 200), (223, 200), (234, 200), (246, 200), (258, 200), (272, 200), (288, 200), (299, 200), (309, 200), (321, 200)], [], 0, none)
def r_202 : Row := (k_202, [(2, 164), (58, 165), (176, 201), (194, 201), (207, 201), (223, 201), (234, 201), (246, 201), (258, 201), (272, 201), (288, 201), (299, 201), (309, 201), (321, 201)], [], 0, none)
def r_203 : Row := (k_203, [(2, 164), (58, 165), (176, 202), (194, 202), (207, 202), (223, 202), (234, 202), (246, 202), (258, 202), (272, 202), (288, 202), (299, 202), (309, 202), (321, 202)], [], 0, none)
def r_204 : Row := (k_204, [(2, 164), (58, 165), (176, 203), (194, 203), (207, 203), (223, 203), (234, 203), (246, 203), (258, 203), (272, 203), (288, 203), (299, 203), (309, 203), (321, 203)], [], 0, none)
def r_205 : Row := (k_205, [(2, 164), (58, 165), (176, 204), (194, 204), (207, 204), (223, 204), (234, 204), (246, 204), (258, 204), (272, 204), (288, 204), (299, 204), (309, 204), (321, 204)], [], 0, none)
def r_206 : Row := (k_206, [(2, 164), (58, 165), (176, 205), (194, 205), (207, 205), (223, 205), (234, 205), (246, 205), (258, 205), (272, 205), (288, 205), (299, 205), (309, 205), (321, 205)], [], 0, none)
def r_207 : Row := (k_207, [(2, 164), (58, 165), (176, 206), (194, 206), (207, 206), (223, 206), (234, 206), (246, 206), (258, 206), (272, 206), (288, 206), (299, 206), (309, 206), (321, 206)], [], 0, none)
def r_208 : Row := (k_208, [(13, 4), (84, 207)], [], 0, none)
def r_209 : Row := (k_209, [], [], 0, none)
def r_210 : Row := (k_210, [(18, 4)], [(43, [(0, 6), (0, 6), (0, 6), ((-1), 6), (0, 7)], [rT [0], iT (1, 0), iT (2, 0), iT (3, 0), iT (4, 0), iT (5, 0)], [3, 4, 5], [(1, 5, 7)], [])], 1, none)
def r_211 : Row := (k_211, [], [], 0, none)
def r_212 : Row := (k_212, [], [(6, [(0, 0), (0, 60)], [rT [57, 58, 59, 60, 61, 62], lT (1, 0), jT, iT (2, 0), iT (0, 60)], [3], [(1, 3, 60)], [])], 1, none)
def r_213 : Row := (k_213, [(2, 157), (29, 212)], [], 0, none)
def r_214 : Row := (k_214, [(5, 157), (25, 213), (62, 213)], [], 0, none)
def r_215 : Row := (k_215, [], [], 0, none)
def r_216 : Row := (k_216, [(5, 157), (36, 158), (65, 215)], [], 0, none)
def r_217 : Row := (k_217, [(5, 157), (18, 158)], [], 0, none)
def r_218 : Row := (k_218, [], [], 0, none)
def r_219 : Row := (k_219, [], [], 0, none)
def r_220 : Row := (k_220, [(5, 218), (18, 219), (29, 218), (41, 219), (53, 219)], [(129, [(0, 6), (0, 9), (0, 6), (0, 9), (0, 9), (0, 4), (0, 6)], [rT [93], iT (1, 0), iT (2, 0), iT (3, 0), iT (4, 0), iT (5, 0), iT (6, 0)], [6, 100], [(1, 6, 4)], [(93, 0, (7, 0))])], 1, none)
def r_221 : Row := (k_221, [], [], 0, none)
def r_222 : Row := (k_222, [(9, 221)], [], 0, none)
def r_223 : Row := (k_223, [], [], 0, none)
def r_224 : Row := (k_224, [(11, 223)], [], 0, none)
def r_225 : Row := (k_225, [], [], 0, none)
def r_226 : Row := (k_226, [(19, 224)], [(4, [(0, 6), ((-1), 6), (0, 7)], [rT [93], iT (1, 0), iT (2, 0), iT (3, 0)], [2, 3], [(1, 3, 7)], [])], 1, none)
def r_227 : Row := (k_227, [], [], 0, none)
def r_228 : Row := (k_228, [(2, 222), (12, 227), (34, 218), (34, 219)], [], 0, none)
def r_229 : Row := (k_229, [(2, 222)], [], 0, none)
def r_230 : Row := (k_230, [], [], 0, none)
def r_231 : Row := (k_231, [(2, 222), (12, 230), (25, 218)], [], 0, none)
def r_232 : Row := (k_232, [], [], 0, none)
def r_233 : Row := (k_233, [(5, 232)], [], 0, none)
def r_234 : Row := (k_234, [], [], 0, none)
def r_235 : Row := (k_235, [(17, 234)], [], 0, none)
def r_236 : Row := (k_236, [], [], 0, none)
def r_237 : Row := (k_237, [], [], 0, none)
def r_238 : Row := (k_238, [], [], 0, none)
def r_239 : Row := (k_239, [], [(2, [(0, 127), (0, 7)], [rT [93], iT (1, 0), iT (2, 0)], [2], [(1, 2, 7)], [])], 1, none)
def r_240 : Row := (k_240, [], [], 0, none)
def r_241 : Row := (k_241, [(4, 234), (7, 240)], [], 0, none)
def r_242 : Row := (k_242, [], [], 0, none)
def r_243 : Row := (k_243, [(16, 234), (19, 240)], [], 0, none)
def r_244 : Row := (k_244, [], [], 0, none)
def r_245 : Row := (k_245, [(4, 244)], [], 0, none)
def r_246 : Row := (k_246, [(2, 245), (89, 224)], [(34, [(0, 5), fI], [rT [93], iT (1, 0), iT (2, 0), iT (0, 0)], [], [(0, 0, 7)], []), (34, [(0, 5), (0, 59)], [rT [93], iT (1, 0), iT (2, 0), iT (0, 1)], [], [(0, 0, 6)], []), (34, [(0, 5), (0, 58)], [rT [93], iT (1, 0), iT (2, 0), iT (0, 2)], [], [(0, 0, 5)], []), (34, [(0, 5), (0, 57)], [rT [93], iT (1, 0), iT (2, 0), iT (0, 3)], [], [(0, 0, 4)], []), (34, [(0, 5), (0, 56)], [rT [93], iT (1, 0), iT (2, 0), iT (0, 4)], [], [(0, 0, 3)], []), (34, [(0, 5), (0, 55)], [rT [93], iT (1, 0), iT (2, 0), iT (0, 5)], [], [(0, 0, 2)], []), (34, [(0, 5), (0, 54)], [rT [93], iT (1, 0), iT (2, 0), iT (0, 6)], [], [(0, 0, 1)], []), (34, [(0, 5), (0, 53)], [rT [93], iT (1, 0), iT (2, 0), iT (0, 7)], [], [(0, 0, 0)], [])], 1, none)
def r_247 : Row := (k_247, [], [(55, [(0, 7)], [rT [93], iT (1, 0)], [1], [(0, 0, 2), (1, 1, 7)], []), (129, [(0, 28)], [rT [93], iT (1, 0)], [1], [(0, 0, 1), (1, 1, 28)], []), (155, [(0, 12)], [rT [93], iT (1, 0)], [1], [(0, 0, 0), (1, 1, 12)], [])], 2, none)
def r_248 : Row := (k_248, [], [(60, [(0, 7)], [rT [93], iT (1, 0)], [1], [(0, 0, 2), (1, 1, 7)], []), (134, [(0, 28)], [rT [93], iT (1, 0)], [1], [(0, 0, 1), (1, 1, 28)], []), (160, [(0, 12)], [rT [93], iT (1, 0)], [1], [(0, 0, 0), (1, 1, 12)], [])], 2, none)
def r_249 : Row := (k_249, [], [], 0, none)
def r_250 : Row := (k_250, [], [], 0, none)
def r_251 : Row := (k_251, [(3, 250)], [], 0, none)
def r_252 : Row := (k_252, [(43, 250), (51, 251), (58, 250), (64, 251), (72, 250), (78, 251), (92, 251)], [], 0, none)
def r_253 : Row := (k_253, [(3, 250), (9, 252)], [], 0, none)
def r_254 : Row := (k_254, [(3, 250), (9, 253)], [], 0, none)
def r_255 : Row := (k_255, [(43, 254), (50, 250), (58, 254), (65, 250), (71, 253), (79, 251), (87, 253)], [], 0, none)
def r_256 : Row := (k_256, [(3, 250), (9, 255)], [], 0, none)
def r_257 : Row := (k_257, [(39, 250), (45, 256), (53, 255), (61, 250), (69, 256), (76, 256)], [], 0, none)
def r_258 : Row := (k_258, [(7, 222), (17, 249), (32, 252), (46, 255), (55, 257)], [], 0, none)
def r_259 : Row := (k_259, [], [], 0, none)
def r_260 : Row := (k_260, [(5, 259)], [], 0, none)
def r_261 : Row := (k_261, [(5, 218), (16, 222)], [], 0, none)
def r_262 : Row := (k_262, [], [], 0, none)
def r_263 : Row := (k_263, [], [], 0, none)
def r_264 : Row := (k_264, [(2, 245), (14, 263)], [(69, [(0, 5), ((-1), 4), fI, (0, 60)], [rT [93], iT (1, 0), iT (2, 0), iT (3, 0), iT (4, 0)], [4], [(1, 4, 60)], [])], 1, none)
def r_265 : Row := (k_265, [], [], 0, none)
def r_266 : Row := (k_266, [], [], 0, none)
def r_267 : Row := (k_267, [(2, 245), (33, 265), (60, 266)], [], 0, none)
def r_268 : Row := (k_268, [(2, 245), (28, 265)], [], 0, none)
def r_276 : Row := (k_276, [(10, 272)], [], 0, none)
def r_277 : Row := (k_277, [(15, 225), (20, 276)], [], 0, none)
def r_278 : Row := (k_278, [(19, 223), (28, 277)], [(4, [(0, 6), fI, (0, 7)], [rT [93], iT (1, 0), iT (2, 0), iT (3, 0)], [2, 3], [(1, 3, 7)], [])], 1, none)
def r_279 : Row := (k_279, [(18, 278), (44, 225), (55, 225)], [(8, [(0, 6), (0, 6), ((-2147483648), 99), (0, 7)], [rT [93], iT (1, 0), iT (2, 0), iT (3, 0), iT (4, 0), jT], [2, 3, 4], [(1, 4, 7)], [])], 1, none)
def r_280 : Row := (k_280, [(75, 226), (81, 279)], [], 0, none)
def r_281 : Row := (k_281, [(18, 280), (22, 272)], [], 0, none)
def r_282 : Row := (k_282, [(16, 272)], [], 0, none)
def r_283 : Row := (k_283, [(22, 223), (32, 223), (42, 277)], [(5, [(0, 6), (0, 2147483647), (0, 2147483647), (0, 7)], [rT [93], iT (1, 0), iT (2, 0), iT (3, 0), iT (4, 0)], [3, 4], [(1, 4, 7)], [])], 1, none)
def r_284 : Row := (k_284, [(16, 223), (24, 282)], [(4, [(0, 2147483647), fI, (0, 7)], [rT [93], iT (1, 0), iT (2, 0), iT (3, 0)], [2, 3], [(1, 3, 7)], [])], 1, none)
def r_285 : Row := (k_285, [(1, 273), (36, 280), (40, 283), (48, 284), (54, 281)], [(16, [(0, 2147483647), (0, 127), (0, 7)], [rT [93], iT (1, 0), iT (2, 0), iT (3, 0), jT, jT], [1, 2, 3], [(1, 3, 7)], [])], 1, none)
def r_286 : Row := (k_286, [(73, 269)], [], 0, none)
def r_287 : Row := (k_287, [(19, 11), (35, 12), (52, 286), (65, 21), (80, 40), (111, 40), (118, 42)], [(24, [(0, 7)], [rT [17], iT (1, 0)], [1], [(1, 1, 7)], [])], 1, none)
def r_288 : Row := (k_288, [(70, 45), (76, 44), (98, 270)], [], 0, none)
def r_289 : Row := (k_289, [(13, 12), (41, 288), (59, 46), (73, 46)], [(2, [(0, 7)], [rT [17], iT (1, 0)], [1], [(1, 1, 7)], [])], 1, none)
def r_290 : Row := (k_290, [(13, 12), (27, 286), (63, 40)], [(2, [(0, 7)], [rT [17], iT (1, 0)], [1], [(1, 1, 7)], [])], 1, none)
def r_291 : Row := (k_291, [(23, 10), (37, 287), (41, 289), (45, 290), (49, 51), (90, 52), (102, 53)], [(60, [(0, 8), fI, (0, 127), (0, 7)], [rT [17], iT (1, 0), iT (2, 0), iT (3, 0), iT (4, 0), jT, jT], [1, 2, 3, 4], [(1, 4, 7)], [])], 1, none)
def r_292 : Row := (k_292, [(1, 8), (8, 291), (17, 54)], [], 0, none)
def r_293 : Row := (k_293, [(5, 4), (123, 54), (138, 292)], [], 0, none)
def r_294 : Row := (k_294, [(17, 8), (24, 291)], [], 0, none)
def r_295 : Row := (k_295, [(1, 291)], [], 0, none)
def r_296 : Row := (k_296, [(25, 8), (44, 295), (47, 43), (69, 10)], [(33, [(0, 30), (0, 1), fI, (0, 30)], [rT [0], iT (1, 0), iT (2, 0), iT (3, 0), iT (4, 0)], [3, 4], [(1, 4, 30)], [])], 1, none)
def r_297 : Row := (k_297, [(12, 8), (30, 10), (35, 43), (47, 149), (59, 295)], [(17, [(0, 1), (0, 31)], [rT [0], iT (1, 0), iT (2, 0), jT], [2], [(1, 2, 31)], [])], 1, none)
def r_298 : Row := (k_298, [(21, 147), (27, 8), (44, 12), (76, 291), (79, 43)], [(33, [(0, 1), ((-5), 6), ((-5), 63), (0, 127), (0, 7)], [rT [0], iT (1, 0), iT (2, 0), iT (3, 0), iT (4, 0), iT (5, 0), jT], [2, 3, 4, 5], [(1, 5, 7)], [])], 1, none)
def r_299 : Row := (k_299, [(1, 8), (21, 291)], [], 0, none)
def r_300 : Row := (k_300, [(5, 4), (27, 54), (55, 299), (58, 43)], [(44, [(0, 6), (0, 1), (0, 6), ((-1), 63), (0, 7)], [rT [0], iT (1, 0), iT (2, 0), iT (3, 0), iT (4, 0), iT (5, 0), jT], [3, 4, 5], [(1, 5, 7)], [])], 1, none)
def r_301 : Row := (k_301, [(5, 4), (18, 54), (38, 8), (47, 150), (54, 291), (58, 12)], [(31, [(0, 6), (0, 2147483647), (0, 7)], [rT [0], iT (1, 0), iT (2, 0), iT (3, 0)], [2, 3], [(1, 3, 7)], [])], 1, none)
def r_302 : Row := (k_302, [(5, 4), (18, 54), (28, 8), (56, 291), (60, 12)], [(33, [(0, 6), (0, 10)], [rT [0], iT (1, 0), iT (2, 0)], [2], [(1, 2, 10)], [])], 1, none)
def r_303 : Row := (k_303, [(1, 8), (16, 291), (19, 149)], [], 0, none)
def r_304 : Row := (k_304, [(5, 4), (18, 54), (28, 8), (55, 291), (58, 43)], [], 0, none)
def r_305 : Row := (k_305, [(14, 12), (28, 271)], [(5, [(0, 600), (0, 600), ((-1), 6)], [rT [18], iT (1, 0), iT (2, 0), iT (3, 0)], [2, 3], [(2, 3, (-1))], [])], 1, none)
def r_306 : Row := (k_306, [(19, 43), (37, 151), (43, 8), (65, 305), (72, 291), (75, 43), (118, 151)], [(49, [((-1), 2), (0, 3), ((-1), 63), (0, 600), (1, 343), (0, 600)], [rT [0], iT (1, 0), iT (2, 0), iT (3, 0), iT (4, 0), iT (5, 0), iT (6, 0), jT], [2, 3, 4, 5, 6], [(1, 6, 600)], [])], 1, none)
def r_307 : Row := (k_307, [(5, 4), (16, 4), (37, 54), (48, 54), (58, 8), (67, 152), (74, 291), (78, 12)], [], 0, none)
def r_308 : Row := (k_308, [(5, 4), (18, 54), (40, 299)], [(31, [(0, 6), (0, 2147483647), (0, 7)], [rT [0], iT (1, 0), iT (2, 0), iT (3, 0)], [2, 3], [(1, 3, 7)], [])], 1, none)
def r_309 : Row := (k_309, [(5, 4), (16, 4), (40, 54), (51, 54), (78, 299), (82, 12), (102, 155)], [(67, [(0, 6), (0, 6), (0, 1), fI, (0, 7)], [rT [0], iT (1, 0), iT (2, 0), iT (3, 0), iT (4, 0), iT (5, 0)], [4, 5], [(1, 5, 7)], [])], 1, none)
def r_310 : Row := (k_310, [(25, 8), (43, 295), (55, 10), (58, 43), (72, 155)], [(33, [(1, 30), (0, 1), fI, (0, 30)], [rT [0], iT (1, 0), iT (2, 0), iT (3, 0), iT (4, 0)], [3, 4], [(1, 4, 30)], [])], 1, none)
def r_311 : Row := (k_311, [(1, 8), (27, 295)], [(6, [(0, 12)], [rT [0], iT (1, 0)], [1], [(1, 1, 12)], [])], 1, none)
def r_312 : Row := (k_312, [(2, 222), (110, 224), (118, 280), (129, 224), (142, 276), (148, 224), (161, 282), (167, 224), (175, 281)], [], 0, none)
def r_313 : Row := (k_313, [(1, 285)], [], 0, none)
def r_314 : Row := (k_314, [(16, 313)], [], 0, none)
def r_315 : Row := (k_315, [(4, 227), (17, 236), (27, 237), (44, 313), (47, 274), (63, 234), (80, 238)], [(35, [(0, 30), (0, 1), (0, 999)], [rT [93], iT (1, 0), iT (2, 0), iT (0, 0), iT (0, 0)], [], [(0, 0, 30)], [(93, 1, (3, 0)), (93, 37, (3, 0))]), (35, [(1, 30), (0, 1), (0, 999), (0, 32)], [rT [93], iT (1, 0), iT (2, 0), iT (4, 0), iT (0, 1)], [3], [(0, 0, 29)], [(93, 1, (3, 1)), (93, 37, (3, 0))]), (35, [(10, 30), (0, 1), (0, 999), (0, 320)], [rT [93], iT (1, 0), iT (2, 0), iT (4, 0), iT (0, 10)], [3], [(0, 0, 20)], [(93, 1, (3, 10)), (93, 37, (3, 0))]), (35, [(11, 30), (0, 1), (0, 999), (0, 352)], [rT [93], iT (1, 0), iT (2, 0), iT (4, 0), iT (0, 11)], [3], [(0, 0, 19)], [(93, 1, (3, 11)), (93, 37, (3, 0))]), (35, [(12, 30), (0, 1), (0, 999), (0, 384)], [rT [93], iT (1, 0), iT (2, 0), iT (4, 0), iT (0, 12)], [3], [(0, 0, 18)], [(93, 1, (3, 12)), (93, 37, (3, 0))]), (35, [(13, 30), (0, 1), (0, 999), (0, 416)], [rT [93], iT (1, 0), iT (2, 0), iT (4, 0), iT (0, 13)], [3], [(0, 0, 17)], [(93, 1, (3, 13)), (93, 37, (3, 0))]), (35, [(14, 30), (0, 1), (0, 999), (0, 448)], [rT [93], iT (1, 0), iT (2, 0), iT (4, 0), iT (0, 14)], [3], [(0, 0, 16)], [(93, 1, (3, 14)), (93, 37, (3, 0))]), (35, [(15, 30), (0, 1), (0, 999), (0, 480)], [rT [93], iT (1, 0), iT (2, 0), iT (4, 0), iT (0, 15)], [3], [(0, 0, 15)], [(93, 1, (3, 15)), (93, 37, (3, 0))]), (35, [(16, 30), (0, 1), (0, 999), (0, 512)], [rT [93], iT (1, 0), iT (2, 0), iT (4, 0), iT (0, 16)], [3], [(0, 0, 14)], [(93, 1, (3, 16)), (93, 37, (3, 0))]), (35, [(17, 30), (0, 1), (0, 999), (0, 544)], [rT [93], iT (1, 0), iT (2, 0), iT (4, 0), iT (0, 17)], [3], [(0, 0, 13)], [(93, 1, (3, 17)), (93, 37, (3, 0))]), (35, [(18, 30), (0, 1), (0, 999), (0, 576)], [rT [93], iT (1, 0), iT (2, 0), iT (4, 0), iT (0, 18)], [3], [(0, 0, 12)], [(93, 1, (3, 18)), (93, 37, (3, 0))]), (35, [(19, 30), (0, 1), (0, 999), (0, 608)], [rT [93], iT (1, 0), iT (2, 0), iT (4, 0), iT (0, 19)], [3], [(0, 0, 11)], [(93, 1, (3, 19)), (93, 37, (3, 0))]), (35, [(2, 30), (0, 1), (0, 999), (0, 64)], [rT [93], iT (1, 0), iT (2, 0), iT (4, 0), iT (0, 2)], [3], [(0, 0, 28)], [(93, 1, (3, 2)), (93, 37, (3, 0))]), (35, [(20, 30), (0, 1), (0, 999), (0, 640)], [rT [93], iT (1, 0), iT (2, 0), iT (4, 0), iT (0, 20)], [3], [(0, 0, 10)], [(93, 1, (3, 20)), (93, 37, (3, 0))]), (35, [(21, 30), (0, 1), (0, 999), (0, 672)], [rT [93], iT (1, 0), iT (2, 0), iT (4, 0), iT (0, 21)], [3], [(0, 0, 9)], [(93, 1, (3, 21)), (93, 37, (3, 0))]), (35, [(22, 30), (0, 1), (0, 999), (0, 704)], [rT [93], iT (1, 0), iT (2, 0), iT (4, 0), iT (0, 22)], [3], [(0, 0, 8)], [(93, 1, (3, 22)), (93, 37, (3, 0))]), (35, [(23, 30), (0, 1), (0, 999), (0, 736)], [rT [93], iT (1, 0), iT (2, 0), iT (4, 0), iT (0, 23)], [3], [(0, 0, 7)], [(93, 1, (3, 23)), (93, 37, (3, 0))]), (35, [(24, 30), (0, 1), (0, 999), (0, 768)], [rT [93], iT (1, 0), iT (2, 0), iT (4, 0), iT (0, 24)], [3], [(0, 0, 6)], [(93, 1, (3, 24)), (93, 37, (3, 0))]), (35, [(25, 30), (0, 1), (0, 999), (0, 800)], [rT [93], iT (1, 0), iT (2, 0), iT (4, 0), iT (0, 25)], [3], [(0, 0, 5)], [(93, 1, (3, 25)), (93, 37, (3, 0))]), (35, [(26, 30), (0, 1), (0, 999), (0, 832)], [rT [93], iT (1, 0), iT (2, 0), iT (4, 0), iT (0, 26)], [3], [(0, 0, 4)], [(93, 1, (3, 26)), (93, 37, (3, 0))]), (35, [(27, 30), (0, 1), (0, 999), (0, 864)], [rT [93], iT (1, 0), iT (2, 0), iT (4, 0), iT (0, 27)], [3], [(0, 0, 3)], [(93, 1, (3, 27)), (93, 37, (3, 0))]), (35, [(28, 30), (0, 1), (0, 999), (0, 896)], [rT [93], iT (1, 0), iT (2, 0), iT (4, 0), iT (0, 28)], [3], [(0, 0, 2)], [(93, 1, (3, 28)), (93, 37, (3, 0))]), (35, [(29, 30), (0, 1), (0, 999), (0, 928)], [rT [93], iT (1, 0), iT (2, 0), iT (4, 0), iT (0, 29)], [3], [(0, 0, 1)], [(93, 1, (3, 29)), (93, 37, (3, 0))]), (35, [(3, 30), (0, 1), (0, 999), (0, 96)], [rT [93], iT (1, 0), iT (2, 0), iT (4, 0), iT (0, 3)], [3], [(0, 0, 27)], [(93, 1, (3, 3)), (93, 37, (3, 0))]), (35, [(30, 30), (0, 1), (0, 999), (0, 960)], [rT [93], iT (1, 0), iT (2, 0), iT (4, 0), iT (0, 30)], [3], [(0, 0, 0)], [(93, 1, (3, 30)), (93, 37, (3, 0))]), (35, [(4, 30), (0, 1), (0, 999), (0, 128)], [rT [93], iT (1, 0), iT (2, 0), iT (4, 0), iT (0, 4)], [3], [(0, 0, 26)], [(93, 1, (3, 4)), (93, 37, (3, 0))]), (35, [(5, 30), (0, 1), (0, 999), (0, 160)], [rT [93], iT (1, 0), iT (2, 0), iT (4, 0), iT (0, 5)], [3], [(0, 0, 25)], [(93, 1, (3, 5)), (93, 37, (3, 0))]), (35, [(6, 30), (0, 1), (0, 999), (0, 192)], [rT [93], iT (1, 0), iT (2, 0), iT (4, 0), iT (0, 6)], [3], [(0, 0, 24)], [(93, 1, (3, 6)), (93, 37, (3, 0))]), (35, [(7, 30), (0, 1), (0, 999), (0, 224)], [rT [93], iT (1, 0), iT (2, 0), iT (4, 0), iT (0, 7)], [3], [(0, 0, 23)], [(93, 1, (3, 7)), (93, 37, (3, 0))]), (35, [(8, 30), (0, 1), (0, 999), (0, 256)], [rT [93], iT (1, 0), iT (2, 0), iT (4, 0), iT (0, 8)], [3], [(0, 0, 22)], [(93, 1, (3, 8)), (93, 37, (3, 0))]), (35, [(9, 30), (0, 1), (0, 999), (0, 288)], [rT [93], iT (1, 0), iT (2, 0), iT (4, 0), iT (0, 9)], [3], [(0, 0, 21)], [(93, 1, (3, 9)), (93, 37, (3, 0))])], 1, none)
def r_316 : Row := (k_316, [(4, 227), (13, 237), (26, 234), (36, 274), (44, 313), (55, 234), (67, 238), (85, 239)], [(18, [(0, 1), (0, 999)], [rT [93], iT (1, 0), iT (0, 0), jT], [], [(0, 0, 31)], [(93, 1, (2, 0)), (93, 37, (2, 0))]), (18, [(0, 1), (0, 999), (0, 127)], [rT [93], iT (1, 0), iT (0, 1), iT (3, 0)], [3], [(0, 0, 30)], [(93, 1, (2, 1)), (93, 37, (2, 0))]), (18, [(0, 1), (0, 999), (0, 127)], [rT [93], iT (1, 0), iT (0, 10), iT (3, 0)], [3], [(0, 0, 21)], [(93, 1, (2, 10)), (93, 37, (2, 0))]), (18, [(0, 1), (0, 999), (0, 127)], [rT [93], iT (1, 0), iT (0, 11), iT (3, 0)], [3], [(0, 0, 20)], [(93, 1, (2, 11)), (93, 37, (2, 0))]), (18, [(0, 1), (0, 999), (0, 127)], [rT [93], iT (1, 0), iT (0, 12), iT (3, 0)], [3], [(0, 0, 19)], [(93, 1, (2, 12)), (93, 37, (2, 0))]), (18, [(0, 1), (0, 999), (0, 127)], [rT [93], iT (1, 0), iT (0, 13), iT (3, 0)], [3], [(0, 0, 18)], [(93, 1, (2, 13)), (93, 37, (2, 0))]), (18, [(0, 1), (0, 999), (0, 127)], [rT [93], iT (1, 0), iT (0, 14), iT (3, 0)], [3], [(0, 0, 17)], [(93, 1, (2, 14)), (93, 37, (2, 0))]), (18, [(0, 1), (0, 999), (0, 127)], [rT [93], iT (1, 0), iT (0, 15), iT (3, 0)], [3], [(0, 0, 16)], [(93, 1, (2, 15)), (93, 37, (2, 0))]), (18, [(0, 1), (0, 999), (0, 127)], [rT [93], iT (1, 0), iT (0, 16), iT (3, 0)], [3], [(0, 0, 15)], [(93, 1, (2, 16)), (93, 37, (2, 0))]), (18, [(0, 1), (0, 999), (0, 127)], [rT [93], iT (1, 0), iT (0, 17), iT (3, 0)], [3], [(0, 0, 14)], [(93, 1, (2, 17)), (93, 37, (2, 0))]), (18, [(0, 1), (0, 999), (0, 127)], [rT [93], iT (1, 0), iT (0, 18), iT (3, 0)], [3], [(0, 0, 13)], [(93, 1, (2, 18)), (93, 37, (2, 0))]), (18, [(0, 1), (0, 999), (0, 127)], [rT [93], iT (1, 0), iT (0, 19), iT (3, 0)], [3], [(0, 0, 12)], [(93, 1, (2, 19)), (93, 37, (2, 0))]), (18, [(0, 1), (0, 999), (0, 127)], [rT [93], iT (1, 0), iT (0, 2), iT (3, 0)], [3], [(0, 0, 29)], [(93, 1, (2, 2)), (93, 37, (2, 0))]), (18, [(0, 1), (0, 999), (0, 127)], [rT [93], iT (1, 0), iT (0, 20), iT (3, 0)], [3], [(0, 0, 11)], [(93, 1, (2, 20)), (93, 37, (2, 0))]), (18, [(0, 1), (0, 999), (0, 127)], [rT [93], iT (1, 0), iT (0, 21), iT (3, 0)], [3], [(0, 0, 10)], [(93, 1, (2, 21)), (93, 37, (2, 0))]), (18, [(0, 1), (0, 999), (0, 127)], [rT [93], iT (1, 0), iT (0, 22), iT (3, 0)], [3], [(0, 0, 9)], [(93, 1, (2, 22)), (93, 37, (2, 0))]), (18, [(0, 1), (0, 999), (0, 127)], [rT [93], iT (1, 0), iT (0, 23), iT (3, 0)], [3], [(0, 0, 8)], [(93, 1, (2, 23)), (93, 37, (2, 0))]), (18, [(0, 1), (0, 999), (0, 127)], [rT [93], iT (1, 0), iT (0, 24), iT (3, 0)], [3], [(0, 0, 7)], [(93, 1, (2, 24)), (93, 37, (2, 0))]), (18, [(0, 1), (0, 999), (0, 127)], [rT [93], iT (1, 0), iT (0, 25), iT (3, 0)], [3], [(0, 0, 6)], [(93, 1, (2, 25)), (93, 37, (2, 0))]), (18, [(0, 1), (0, 999), (0, 127)], [rT [93], iT (1, 0), iT (0, 26), iT (3, 0)], [3], [(0, 0, 5)], [(93, 1, (2, 26)), (93, 37, (2, 0))]), (18, [(0, 1), (0, 999), (0, 127)], [rT [93], iT (1, 0), iT (0, 27), iT (3, 0)], [3], [(0, 0, 4)], [(93, 1, (2, 27)), (93, 37, (2, 0))]), (18, [(0, 1), (0, 999), (0, 127)], [rT [93], iT (1, 0), iT (0, 28), iT (3, 0)], [3], [(0, 0, 3)], [(93, 1, (2, 28)), (93, 37, (2, 0))]), (18, [(0, 1), (0, 999), (0, 127)], [rT [93], iT (1, 0), iT (0, 29), iT (3, 0)], [3], [(0, 0, 2)], [(93, 1, (2, 29)), (93, 37, (2, 0))]), (18, [(0, 1), (0, 999), (0, 127)], [rT [93], iT (1, 0), iT (0, 3), iT (3, 0)], [3], [(0, 0, 28)], [(93, 1, (2, 3)), (93, 37, (2, 0))]), (18, [(0, 1), (0, 999), (0, 127)], [rT [93], iT (1, 0), iT (0, 30), iT (3, 0)], [3], [(0, 0, 1)], [(93, 1, (2, 30)), (93, 37, (2, 0))]), (18, [(0, 1), (0, 999), (0, 127)], [rT [93], iT (1, 0), iT (0, 31), iT (3, 0)], [3], [(0, 0, 0)], [(93, 1, (2, 31)), (93, 37, (2, 0))]), (18, [(0, 1), (0, 999), (0, 127)], [rT [93], iT (1, 0), iT (0, 4), iT (3, 0)], [3], [(0, 0, 27)], [(93, 1, (2, 4)), (93, 37, (2, 0))]), (18, [(0, 1), (0, 999), (0, 127)], [rT [93], iT (1, 0), iT (0, 5), iT (3, 0)], [3], [(0, 0, 26)], [(93, 1, (2, 5)), (93, 37, (2, 0))]), (18, [(0, 1), (0, 999), (0, 127)], [rT [93], iT (1, 0), iT (0, 6), iT (3, 0)], [3], [(0, 0, 25)], [(93, 1, (2, 6)), (93, 37, (2, 0))]), (18, [(0, 1), (0, 999), (0, 127)], [rT [93], iT (1, 0), iT (0, 7), iT (3, 0)], [3], [(0, 0, 24)], [(93, 1, (2, 7)), (93, 37, (2, 0))]), (18, [(0, 1), (0, 999), (0, 127)], [rT [93], iT (1, 0), iT (0, 8), iT (3, 0)], [3], [(0, 0, 23)], [(93, 1, (2, 8)), (93, 37, (2, 0))]), (18, [(0, 1), (0, 999), (0, 127)], [rT [93], iT (1, 0), iT (0, 9), iT (3, 0)], [3], [(0, 0, 22)], [(93, 1, (2, 9)), (93, 37, (2, 0))])], 1, none)
def r_317 : Row := (k_317, [(4, 227), (33, 224), (57, 285), (60, 274)], [(21, [(0, 1), ((-5), 6), ((-5), 32), (0, 7)], [rT [93], iT (1, 0), iT (2, 0), iT (3, 0), iT (4, 0), jT], [2, 3, 4], [(1, 4, 7)], [])], 1, none)
def r_318 : Row := (k_318, [(2, 222), (12, 227), (22, 224), (64, 285), (67, 274)], [(47, [(0, 6), (0, 1), (0, 6), (0, 6), ((-1), 32), (0, 7)], [rT [93], iT (1, 0), iT (2, 0), iT (3, 0), iT (4, 0), iT (5, 0), iT (6, 0), jT], [3, 4, 5, 6], [(1, 6, 7)], [])], 1, none)
def r_319 : Row := (k_319, [(2, 222), (12, 224), (44, 285), (48, 223)], [(30, [(0, 6), (0, 2147483647), (0, 7)], [rT [93], iT (1, 0), iT (2, 0), iT (3, 0)], [2, 3], [(1, 3, 7)], [])], 1, none)
def r_320 : Row := (k_320, [(2, 222), (12, 224), (55, 285), (59, 223)], [(34, [(0, 6), (0, 9), ((-5), 9), (0, 10)], [rT [93], iT (1, 0), iT (2, 0), iT (3, 0), iT (4, 0)], [2, 3, 4], [(1, 4, 10)], [])], 1, none)
def r_321 : Row := (k_321, [(6, 285)], [], 0, none)
def r_322 : Row := (k_322, [(2, 222), (12, 224), (49, 285), (52, 274)], [], 0, none)
def r_323 : Row := (k_323, [(2, 222), (12, 224), (50, 285)], [(33, [(0, 6), (0, 6), (0, 2147483647), (0, 7)], [rT [93], iT (1, 0), iT (2, 0), iT (3, 0), iT (4, 0)], [2, 3, 4], [(1, 4, 7)], [])], 1, none)
def r_324 : Row := (k_324, [(3, 275)], [], 0, none)
def r_325 : Row := (k_325, [(2, 222), (10, 222), (20, 227), (28, 224), (36, 224), (79, 285), (83, 223), (117, 324)], [(60, [(0, 6), (0, 6), (0, 1), (0, 6)], [rT [93], iT (1, 0), iT (2, 0), iT (3, 0), iT (4, 0), iT (0, 0), iT (0, 0)], [4], [(0, 0, 7)], []), (60, [(0, 6), (0, 6), (0, 1), (0, 6), (0, 1)], [rT [93], iT (1, 0), iT (2, 0), iT (3, 0), iT (4, 0), iT (5, 0), iT (0, 1)], [4, 5], [(0, 0, 6)], []), (60, [(0, 6), (0, 6), (0, 1), (0, 6), (0, 2)], [rT [93], iT (1, 0), iT (2, 0), iT (3, 0), iT (4, 0), iT (5, 0), iT (0, 2)], [4, 5], [(0, 0, 5)], []), (60, [(0, 6), (0, 6), (0, 1), (0, 6), (0, 3)], [rT [93], iT (1, 0), iT (2, 0), iT (3, 0), iT (4, 0), iT (5, 0), iT (0, 3)], [4, 5], [(0, 0, 4)], []), (60, [(0, 6), (0, 6), (0, 1), (0, 6), (0, 4)], [rT [93], iT (1, 0), iT (2, 0), iT (3, 0), iT (4, 0), iT (5, 0), iT (0, 4)], [4, 5], [(0, 0, 3)], []), (60, [(0, 6), (0, 6), (0, 1), (0, 6), (0, 5)], [rT [93], iT (1, 0), iT (2, 0), iT (3, 0), iT (4, 0), iT (5, 0), iT (0, 5)], [4, 5], [(0, 0, 2)], []), (60, [(0, 6), (0, 6), (0, 1), (0, 6), (0, 6)], [rT [93], iT (1, 0), iT (2, 0), iT (3, 0), iT (4, 0), iT (5, 0), iT (0, 6)], [4, 5], [(0, 0, 1)], []), (60, [(0, 6), (0, 6), (0, 1), (0, 6), (0, 7)], [rT [93], iT (1, 0), iT (2, 0), iT (3, 0), iT (4, 0), iT (5, 0), iT (0, 7)], [4, 5], [(0, 0, 0)], [])], 1, none)
def r_326 : Row := (k_326, [(5, 242), (15, 227), (26, 237), (41, 313), (49, 234), (59, 274), (71, 238), (78, 324)], [(34, [(1, 30), (0, 1), (0, 999)], [rT [93], iT (1, 0), iT (2, 0), iT (0, 0), iT (0, 0), jT], [], [(0, 0, 30)], [(93, 1, (3, 0)), (93, 37, (3, 0))]), (34, [(1, 30), (0, 1), (0, 999), (0, 32), (0, 127)], [rT [93], iT (1, 0), iT (2, 0), iT (4, 0), iT (0, 1), iT (5, 0)], [3, 5], [(0, 0, 29)], [(93, 1, (3, 1)), (93, 37, (3, 0))]), (34, [(10, 30), (0, 1), (0, 999), (0, 320), (0, 127)], [rT [93], iT (1, 0), iT (2, 0), iT (4, 0), iT (0, 10), iT (5, 0)], [3, 5], [(0, 0, 20)], [(93, 1, (3, 10)), (93, 37, (3, 0))]), (34, [(11, 30), (0, 1), (0, 999), (0, 352), (0, 127)], [rT [93], iT (1, 0), iT (2, 0), iT (4, 0), iT (0, 11), iT (5, 0)], [3, 5], [(0, 0, 19)], [(93, 1, (3, 11)), (93, 37, (3, 0))]), (34, [(12, 30), (0, 1), (0, 999), (0, 384), (0, 127)], [rT [93], iT (1, 0), iT (2, 0), iT (4, 0), iT (0, 12), iT (5, 0)], [3, 5], [(0, 0, 18)], [(93, 1, (3, 12)), (93, 37, (3, 0))]), (34, [(13, 30), (0, 1), (0, 999), (0, 416), (0, 127)], [rT [93], iT (1, 0), iT (2, 0), iT (4, 0), iT (0, 13), iT (5, 0)], [3, 5], [(0, 0, 17)], [(93, 1, (3, 13)), (93, 37, (3, 0))]), (34, [(14, 30), (0, 1), (0, 999), (0, 448), (0, 127)], [rT [93], iT (1, 0), iT (2, 0), iT (4, 0), iT (0, 14), iT (5, 0)], [3, 5], [(0, 0, 16)], [(93, 1, (3, 14)), (93, 37, (3, 0))]), (34, [(15, 30), (0, 1), (0, 999), (0, 480), (0, 127)], [rT [93], iT (1, 0), iT (2, 0), iT (4, 0), iT (0, 15), iT (5, 0)], [3, 5], [(0, 0, 15)], [(93, 1, (3, 15)), (93, 37, (3, 0))]), (34, [(16, 30), (0, 1), (0, 999), (0, 512), (0, 127)], [rT [93], iT (1, 0), iT (2, 0), iT (4, 0), iT (0, 16), iT (5, 0)], [3, 5], [(0, 0, 14)], [(93, 1, (3, 16)), (93, 37, (3, 0))]), (34, [(17, 30), (0, 1), (0, 999), (0, 544), (0, 127)], [rT [93], iT (1, 0), iT (2, 0), iT (4, 0), iT (0, 17), iT (5, 0)], [3, 5], [(0, 0, 13)], [(93, 1, (3, 17)), (93, 37, (3, 0))]), (34, [(18, 30), (0, 1), (0, 999), (0, 576), (0, 127)], [rT [93], iT (1, 0), iT (2, 0), iT (4, 0), iT (0, 18), iT (5, 0)], [3, 5], [(0, 0, 12)], [(93, 1, (3, 18)), (93, 37, (3, 0))]), (34, [(19, 30), (0, 1), (0, 999), (0, 608), (0, 127)], [rT [93], iT (1, 0), iT (2, 0), iT (4, 0), iT (0, 19), iT (5, 0)], [3, 5], [(0, 0, 11)], [(93, 1, (3, 19)), (93, 37, (3, 0))]), (34, [(2, 30), (0, 1), (0, 999), (0, 64), (0, 127)], [rT [93], iT (1, 0), iT (2, 0), iT (4, 0), iT (0, 2), iT (5, 0)], [3, 5], [(0, 0, 28)], [(93, 1, (3, 2)), (93, 37, (3, 0))]), (34, [(20, 30), (0, 1), (0, 999), (0, 640), (0, 127)], [rT [93], iT (1, 0), iT (2, 0), iT (4, 0), iT (0, 20), iT (5, 0)], [3, 5], [(0, 0, 10)], [(93, 1, (3, 20)), (93, 37, (3, 0))]), (34, [(21, 30), (0, 1), (0, 999), (0, 672), (0, 127)], [rT [93], iT (1, 0), iT (2, 0), iT (4, 0), iT (0, 21), iT (5, 0)], [3, 5], [(0, 0, 9)], [(93, 1, (3, 21)), (93, 37, (3, 0))]), (34, [(22, 30), (0, 1), (0, 999), (0, 704), (0, 127)], [rT [93], iT (1, 0), iT (2, 0), iT (4, 0), iT (0, 22), iT (5, 0)], [3, 5], [(0, 0, 8)], [(93, 1, (3, 22)), (93, 37, (3, 0))]), (34, [(23, 30), (0, 1), (0, 999), (0, 736), (0, 127)], [rT [93], iT (1, 0), iT (2, 0), iT (4, 0), iT (0, 23), iT (5, 0)], [3, 5], [(0, 0, 7)], [(93, 1, (3, 23)), (93, 37, (3, 0))]), (34, [(24, 30), (0, 1), (0, 999), (0, 768), (0, 127)], [rT [93], iT (1, 0), iT (2, 0), iT (4, 0), iT (0, 24), iT (5, 0)], [3, 5], [(0, 0, 6)], [(93, 1, (3, 24)), (93, 37, (3, 0))]), (34, [(25, 30), (0, 1), (0, 999), (0, 800), (0, 127)], [rT [93], iT (1, 0), iT (2, 0), iT (4, 0), iT (0, 25), iT (5, 0)], [3, 5], [(0, 0, 5)], [(93, 1, (3, 25)), (93, 37, (3, 0))]), (34, [(26, 30), (0, 1), (0, 999), (0, 832), (0, 127)], [rT [93], iT (1, 0), iT (2, 0), iT (4, 0), iT (0, 26), iT (5, 0)], [3, 5], [(0, 0, 4)], [(93, 1, (3, 26)), (93, 37, (3, 0))]), (34, [(27, 30), (0, 1), (0, 999), (0, 864), (0, 127)], [rT [93], iT (1, 0), iT (2, 0), iT (4, 0), iT (0, 27), iT (5, 0)], [3, 5], [(0, 0, 3)], [(93, 1, (3, 27)), (93, 37, (3, 0))]), (34, [(28, 30), (0, 1), (0, 999), (0, 896), (0, 127)], [rT [93], iT (1, 0), iT (2, 0), iT (4, 0), iT (0, 28), iT (5, 0)], [3, 5], [(0, 0, 2)], [(93, 1, (3, 28)), (93, 37, (3, 0))]), (34, [(29, 30), (0, 1), (0, 999), (0, 928), (0, 127)], [rT [93], iT (1, 0), iT (2, 0), iT (4, 0), iT (0, 29), iT (5, 0)], [3, 5], [(0, 0, 1)], [(93, 1, (3, 29)), (93, 37, (3, 0))]), (34, [(3, 30), (0, 1), (0, 999), (0, 96), (0, 127)], [rT [93], iT (1, 0), iT (2, 0), iT (4, 0), iT (0, 3), iT (5, 0)], [3, 5], [(0, 0, 27)], [(93, 1, (3, 3)), (93, 37, (3, 0))]), (34, [(30, 30), (0, 1), (0, 999), (0, 960), (0, 127)], [rT [93], iT (1, 0), iT (2, 0), iT (4, 0), iT (0, 30), iT (5, 0)], [3, 5], [(0, 0, 0)], [(93, 1, (3, 30)), (93, 37, (3, 0))]), (34, [(4, 30), (0, 1), (0, 999), (0, 128), (0, 127)], [rT [93], iT (1, 0), iT (2, 0), iT (4, 0), iT (0, 4), iT (5, 0)], [3, 5], [(0, 0, 26)], [(93, 1, (3, 4)), (93, 37, (3, 0))]), (34, [(5, 30), (0, 1), (0, 999), (0, 160), (0, 127)], [rT [93], iT (1, 0), iT (2, 0), iT (4, 0), iT (0, 5), iT (5, 0)], [3, 5], [(0, 0, 25)], [(93, 1, (3, 5)), (93, 37, (3, 0))]), (34, [(6, 30), (0, 1), (0, 999), (0, 192), (0, 127)], [rT [93], iT (1, 0), iT (2, 0), iT (4, 0), iT (0, 6), iT (5, 0)], [3, 5], [(0, 0, 24)], [(93, 1, (3, 6)), (93, 37, (3, 0))]), (34, [(7, 30), (0, 1), (0, 999), (0, 224), (0, 127)], [rT [93], iT (1, 0), iT (2, 0), iT (4, 0), iT (0, 7), iT (5, 0)], [3, 5], [(0, 0, 23)], [(93, 1, (3, 7)), (93, 37, (3, 0))]), (34, [(8, 30), (0, 1), (0, 999), (0, 256), (0, 127)], [rT [93], iT (1, 0), iT (2, 0), iT (4, 0), iT (0, 8), iT (5, 0)], [3, 5], [(0, 0, 22)], [(93, 1, (3, 8)), (93, 37, (3, 0))]), (34, [(9, 30), (0, 1), (0, 999), (0, 288), (0, 127)], [rT [93], iT (1, 0), iT (2, 0), iT (4, 0), iT (0, 9), iT (5, 0)], [3, 5], [(0, 0, 21)], [(93, 1, (3, 9)), (93, 37, (3, 0))])], 1, none)
def r_327 : Row := (k_327, [(1, 237), (22, 313), (48, 238)], [(9, [(0, 999)], [rT [93], iT (0, (-5)), iT (0, 0)], [], [(0, 0, 12)], [(93, 1, (1, 0)), (93, 37, (1, 0))]), (9, [(0, 999), ((-5), 0)], [rT [93], iT (2, 0), iT (0, 1)], [1], [(0, 0, 11)], [(93, 1, (1, 1)), (93, 37, (1, 0))]), (9, [(0, 999), ((-5), 9)], [rT [93], iT (2, 0), iT (0, 10)], [1], [(0, 0, 2)], [(93, 1, (1, 10)), (93, 37, (1, 0))]), (9, [(0, 999), ((-5), 10)], [rT [93], iT (2, 0), iT (0, 11)], [1], [(0, 0, 1)], [(93, 1, (1, 11)), (93, 37, (1, 0))]), (9, [(0, 999), ((-5), 11)], [rT [93], iT (2, 0), iT (0, 12)], [1], [(0, 0, 0)], [(93, 1, (1, 12)), (93, 37, (1, 0))]), (9, [(0, 999), ((-5), 1)], [rT [93], iT (2, 0), iT (0, 2)], [1], [(0, 0, 10)], [(93, 1, (1, 2)), (93, 37, (1, 0))]), (9, [(0, 999), ((-5), 2)], [rT [93], iT (2, 0), iT (0, 3)], [1], [(0, 0, 9)], [(93, 1, (1, 3)), (93, 37, (1, 0))]), (9, [(0, 999), ((-5), 3)], [rT [93], iT (2, 0), iT (0, 4)], [1], [(0, 0, 8)], [(93, 1, (1, 4)), (93, 37, (1, 0))]), (9, [(0, 999), ((-5), 4)], [rT [93], iT (2, 0), iT (0, 5)], [1], [(0, 0, 7)], [(93, 1, (1, 5)), (93, 37, (1, 0))]), (9, [(0, 999), ((-5), 5)], [rT [93], iT (2, 0), iT (0, 6)], [1], [(0, 0, 6)], [(93, 1, (1, 6)), (93, 37, (1, 0))]), (9, [(0, 999), ((-5), 6)], [rT [93], iT (2, 0), iT (0, 7)], [1], [(0, 0, 5)], [(93, 1, (1, 7)), (93, 37, (1, 0))]), (9, [(0, 999), ((-5), 7)], [rT [93], iT (2, 0), iT (0, 8)], [1], [(0, 0, 4)], [(93, 1, (1, 8)), (93, 37, (1, 0))]), (9, [(0, 999), ((-5), 8)], [rT [93], iT (2, 0), iT (0, 9)], [1], [(0, 0, 3)], [(93, 1, (1, 9)), (93, 37, (1, 0))])], 1, none)
abbrev h_fm10 : Ctr := k_269
abbrev h_fm4 : Ctr := k_270
abbrev h_fm7 : Ctr := k_271
abbrev h_sum : Ctr := k_272
abbrev h_lay : Ctr := k_273
abbrev h_ones : Ctr := k_274
abbrev h_div : Ctr := k_275
def TBL : List Ctr := [k_0, k_1, k_2, k_3, k_4, k_5, k_6, k_7, k_8, k_9, k_10, k_11, k_12, k_13, k_14, k_15, k_16, k_17, k_18, k_19, k_20, k_21, k_22, k_23, k_24, k_25, k_26, k_27, k_28, k_29, k_30, k_31, k_32, k_33, k_34, k_35, k_36, k_37, k_38, k_39, k_40, k_41, k_42, k_43, k_44, k_45, k_46, k_47, k_48, k_49, k_50, k_51, k_52, k_53, k_54, k_55, k_56, k_57, k_58, k_59, k_60, k_61, k_62, k_63, k_64, k_65, k_66, k_67, k_68, k_69, k_70, k_71, k_72, k_73, k_74, k_75, k_76, k_77, k_78, k_79, k_80, k_81, k_82, k_83, k_84, k_85, k_86, k_87, k_88, k_89, k_90, k_91, k_92, k_93, k_94, k_95, k_96, k_97, k_98, k_99, k_100, k_101, k_102, k_103, k_104, k_105, k_106, k_107, k_108, k_109, k_110, k_111, k_112, k_113, k_114, k_115, k_116, k_117, k_118, k_119, k_120, k_121, k_122, k_123, k_124, k_125, k_126, k_127, k_128, k_129, k_130, k_131, k_132, k_133, k_134, k_135, k_136, k_137, k_138, k_139, k_140, k_141, k_142, k_143, k_144, k_145, k_146, k_147, k_148, k_149, k_150, k_151, k_152, k_153, k_154, k_155, k_156, k_157, k_158, k_159, k_160, k_161, k_162, k_163, k_164, k_165, k_166, k_167, k_168, k_169, k_170, k_171, k_172, k_173, k_174, k_175, k_176, k_177, k_178, k_179, k_180, k_181, k_182, k_183, k_184, k_185, k_186, k_187, k_188, k_189, k_190, k_191, k_192, k_193, k_194, k_195, k_196, k_197, k_198, k_199, k_200, k_201, k_202, k_203, k_204, k_205, k_206, k_207, k_208, k_209, k_210, k_211, k_212, k_213, k_214, k_215, k_216, k_217, k_218, k_219, k_220, k_221, k_222, k_223, k_224, k_225, k_226, k_227, k_228, k_229, k_230, k_231, k_232, k_233, k_234, k_235, k_236, k_237, k_238, k_239, k_240, k_241, k_242, k_243, k_244, k_245, k_246, k_247, k_248, k_249, k_250, k_251, k_252, k_253, k_254, k_255, k_256, k_257, k_258, k_259, k_260, k_261, k_262, k_263, k_264, k_265, k_266, k_267, k_268, k_269, k_270, k_271, k_272, k_273, k_274, k_275, k_276, k_277, k_278, k_279, k_280, k_281, k_282, k_283, k_284, k_285, k_286, k_287, k_288, k_289, k_290, k_291, k_292, k_293, k_294, k_295, k_296, k_297, k_298, k_299, k_300, k_301, k_302, k_303, k_304, k_305, k_306, k_307, k_308, k_309, k_310, k_311, k_312, k_313, k_314, k_315, k_316, k_317, k_318, k_319, k_320, k_321, k_322, k_323, k_324, k_325, k_326, k_327]
end JN50table
