theorem getD_map_A {l : List Nat} {f : Nat → Tm} {v : Nat} (hv : v < l.length) : (l.map f).getD v (0, 0) = f (l.getD v 0) := by
  rw [List.getD_eq_getElem?_getD, List.getElem?_map, List.getElem?_eq_getElem hv, List.getD_eq_getElem?_getD, List.getElem?_eq_getElem hv]
  rfl
set_option maxHeartbeats 1000000 in
/-- a call that the check lets pass can be made, and what comes behind is of one of its states -/
theorem call_ok {J : JV} {X : Scr} {D dp c na kd : Nat} {W : List (Nat × Nat)} {K : Bool} {S : AS} {L st : List Value} {h : Hp} {ρ : Nat → Int} {T : Ctr} {l : List AS} (hT : Good J T) (g : gam ρ S L st h) (hh : HI h) (hK : K = true → J.1 h) (hD : D ≤ dp + 1) (ha : acall D W K S c na kd T = some l) :
    callOK c na kd st h = true ∧ Ends X dp c 0 (entL (mMaxL c) (st.take na).reverse) [] h (fun rv h1 => HI h1 ∧ frm W h h1 ∧ ∃ S' ∈ l, ∃ ρ', ext S.1.length ρ ρ' ∧ S.1.length ≤ S'.1.length ∧ gam ρ' S' L (rv.toList ++ st.drop na) h1) := by
  unfold acall at ha
  obtain ⟨⟨q1, q2, q3, q4, q5, q6, q7, q8, q9, q10, q11, q12, q13⟩, ha⟩ := inv_if ha
  cases ha
  subst q1
  have gA : al2 (vm S.1.length ρ) (argsA S na) (st.take na).reverse := al2_rev (al2_take na g.2.2.1)
  have gR : al2 (vm S.1.length ρ) (S.2.2.1.drop na) (st.drop na) := al2_drop na g.2.2.1
  have hlen := al2_len g.2.2.1
  have h7 : (argsA S na).all tg3 = true := by
    unfold argsA
    rw [List.all_reverse]
    exact q7
  have hargs := args_ok gA h7
  have hcall : callOK (cY T) na kd st h = true := by
    unfold callOK
    have r5 := recv_ok hh gA q9
    have r1 : decide (na ≤ st.length) = true := decide_eq_true (by omega)
    have r2 : decide (catSum (st.drop na) ≤ 8) = true := decide_eq_true (Nat.le_trans (catSum_le gR) q6)
    have r3 : (st.take na).all argOK = true := by have := hargs.1; rwa [List.all_reverse] at this
    have r4 : decide ((entL0 (st.take na).reverse).length ≤ mMaxL (cY T)) = true := decide_eq_true (by rw [hargs.2]; exact q8)
    rw [r1, r2, r3, r4]
    simp only [Bool.true_and]
    exact r5
  refine ⟨hcall, ?_⟩
  have hsl : (sgA T S na).length = (cV T).length := by simp [sgA]
  have hbl := bdLe_len q11
  have hσ : ∀ v, v < (sgA T S na).length → tOK S.1.length ρ ((sgA T S na).getD v (0, 0)) (ev ρ ((sgA T S na).getD v (0, 0))) := by
    intro v hv
    refine ⟨?_, rfl⟩
    unfold sgA
    rw [hsl] at hv
    rw [getD_map_A hv]
    have hm : (cV T).getD v 0 ∈ cV T := by
      rw [List.getD_eq_getElem?_getD, List.getElem?_eq_getElem hv]
      exact List.getElem_mem hv
    obtain ⟨t, ht⟩ := Option.isSome_iff_exists.mp (List.all_eq_true.mp q10 _ hm)
    rw [ht]
    exact vS_ok g gA ht
  have gC : al2 (vm (cB T).length (fun v => ev ρ ((sgA T S na).getD v (0, 0)))) (cA T) (st.take na).reverse := by
    rw [← hbl]
    exact avsLe_ok hσ q12 gA
  refine (hT X dp (fun v => ev ρ ((sgA T S na).getD v (0, 0))) h (st.take na).reverse (by omega) hh (fun e => hK (by rcases q4 with q | q; · rw [q] at e; cases e
                                                                                                                     · exact q)) (bd_of g.1 hσ q11) gC (fFit_ok g hσ hbl q13)).mono ?_
  rintro rv h1 ⟨hh1, hf, P, hP, ρP, eP, bP, nP, vP, fP⟩
  refine ⟨hh1, frm_sub q3 hf, ?_⟩
  have hnv : (cB T).length = (cV T).length := hbl.symm.trans hsl
  rw [hnv] at eP nP
  obtain ⟨B1, e1, b1, n1⟩ := refs_ok (x := ρP) (σ := sgA T S na) (B := S.1) (C := P.1) 0 g.1 (fun v hv => by
    rw [Nat.zero_add, eP v (by rw [← hsl]; exact hv)]
    exact hσ v hv) (fun v q hv hq => by rw [Nat.zero_add]; exact bP v q hq)
  have hmem : (B1 ++ P.1.drop (cV T).length, S.2.1, P.2.1.map (subA (sgP T S na P)) ++ S.2.2.1.drop na, P.2.2.1.map (fun q => (q.1, q.2.1, sub (sgP T S na P) q.2.2)) ++ S.2.2.2.filter (fun q => !inW (cW T) q.1 q.2.1)) ∈ ((cP T).map (postS T S na)).flatten := by
    refine List.mem_flatten.mpr ⟨_, List.mem_map.mpr ⟨P, hP, rfl⟩, ?_⟩
    unfold postS
    rw [e1]
    exact List.mem_map.mpr ⟨B1, by simp, rfl⟩
  refine ⟨_, hmem, fun v => if v < S.1.length then ρ v else ρP ((cV T).length + (v - S.1.length)), fun v hv => if_pos hv, by simp [n1], ?_⟩
  have hn2 : (B1 ++ P.1.drop (cV T).length).length = S.1.length + (P.1.length - (cV T).length) := by simp [n1]
  have he2 : ext S.1.length ρ (fun v => if v < S.1.length then ρ v else ρP ((cV T).length + (v - S.1.length))) := fun v hv => if_pos hv
  have hspl : (sgP T S na P).length = P.1.length := by
    unfold sgP
    rw [List.length_append, hsl]
    simp
    omega
  have hσ2 : ∀ v, v < (sgP T S na P).length → tOK (B1 ++ P.1.drop (cV T).length).length (fun v => if v < S.1.length then ρ v else ρP ((cV T).length + (v - S.1.length))) ((sgP T S na P).getD v (0, 0)) (ρP v) := by
    intro v hv
    rw [hspl] at hv
    by_cases hc : v < (cV T).length
    · have e : (sgP T S na P).getD v (0, 0) = (sgA T S na).getD v (0, 0) := by
        unfold sgP
        rw [List.getD_eq_getElem?_getD, List.getElem?_append_left (by rw [hsl]; exact hc), List.getD_eq_getElem?_getD]
      rw [e, eP v hc, hn2]
      exact tOK_ext (Nat.le_add_right _ _) he2 (hσ v (by rw [hsl]; exact hc))
    · have e : (sgP T S na P).getD v (0, 0) = (S.1.length + 1 + (v - (cV T).length), 0) := by
        unfold sgP
        rw [List.getD_eq_getElem?_getD, List.getElem?_append_right (by rw [hsl]; omega), hsl, List.getElem?_map, List.getElem?_range (by omega)]
        rfl
      rw [e, hn2]
      refine ⟨by show S.1.length + 1 + (v - (cV T).length) ≤ _; omega, ?_⟩
      rw [show S.1.length + 1 + (v - (cV T).length) = (S.1.length + (v - (cV T).length)) + 1 by omega]
      show ρP v = (if S.1.length + (v - (cV T).length) < S.1.length then ρ (S.1.length + (v - (cV T).length)) else ρP ((cV T).length + (S.1.length + (v - (cV T).length) - S.1.length))) + 0
      rw [if_neg (by omega), show (cV T).length + (S.1.length + (v - (cV T).length) - S.1.length) = v by omega]
      omega
  refine ⟨?_, ?_, ?_, ?_⟩
  · intro v q hq
    by_cases hv : v < S.1.length
    · show q.1 ≤ (if v < S.1.length then ρ v else ρP ((cV T).length + (v - S.1.length))) ∧ (if v < S.1.length then ρ v else ρP ((cV T).length + (v - S.1.length))) ≤ q.2
      rw [if_pos hv]
      have hq : (B1 ++ P.1.drop (cV T).length)[v]? = some q := hq
      rw [List.getElem?_append_left (by rw [n1]; exact hv)] at hq
      exact b1 v q hq
    · show q.1 ≤ (if v < S.1.length then ρ v else ρP ((cV T).length + (v - S.1.length))) ∧ (if v < S.1.length then ρ v else ρP ((cV T).length + (v - S.1.length))) ≤ q.2
      rw [if_neg hv]
      have hq : (B1 ++ P.1.drop (cV T).length)[v]? = some q := hq
      rw [List.getElem?_append_right (by rw [n1]; omega), n1, List.getElem?_drop] at hq
      exact bP _ q hq
  · show al2 (vm (B1 ++ P.1.drop (cV T).length).length _) S.2.1 L
    rw [hn2]
    exact al2_mono (fun _ _ => vm_ext (Nat.le_add_right _ _) he2) g.2.1
  · show al2 (vm (B1 ++ P.1.drop (cV T).length).length _) (P.2.1.map (subA (sgP T S na P)) ++ S.2.2.1.drop na) _
    refine al2_app (subAs_ok hσ2 (by rw [hspl]; exact vP)) ?_
    rw [hn2]
    exact al2_mono (fun _ _ => vm_ext (Nat.le_add_right _ _) he2) gR
  · intro q hq
    show tOK (B1 ++ P.1.drop (cV T).length).length _ _ _ ∧ _
    rcases List.mem_append.mp hq with hq | hq
    · obtain ⟨p, hp, rfl⟩ := List.mem_map.mp hq
      refine ⟨sub_ok2 hσ2 (by rw [hspl]; exact (fP p hp).1), (fP p hp).2⟩
    · obtain ⟨r1, r2⟩ := List.mem_filter.mp hq
      have r3 : inW (cW T) q.1 q.2.1 = false := by simpa using r2
      have r4 := g.2.2.2 q r1
      refine ⟨?_, r4.2⟩
      rw [(hf _ _ r3).1, hn2]
      exact tOK_ext (Nat.le_add_right _ _) he2 r4.1
