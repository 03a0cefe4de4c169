theorem wsY_good {c : Nat} (h0 : 0 < c) (hc : c < 223) : GoodIn BIGG (wsY c) := by
  intro q hq
  rcases List.mem_cons.mp hq with rfl | hq
  · exact ⟨ok_codes c h0 hc, good_of_word (BIGG_good _ (ok_codes c h0 hc))⟩
  · exact ⟨hq, good_of_word (BIGG_good _ hq)⟩
theorem take_rev {w : WC} {na : Nat} {st As : List Value} {r : Value} (h : (st.take na).reverse = r :: As) : st.map (tr w) = (As.map (tr w)).reverse ++ tr w r :: (st.drop na).map (tr w) := by
  have h1 : st.take na = As.reverse ++ [r] := by
    have := congrArg List.reverse h
    rw [List.reverse_reverse, List.reverse_cons] at this
    exact this
  conv => lhs; rw [← List.take_append_drop na st, h1]
  simp
theorem take_revS {w : WC} {na : Nat} {st : List Value} : st.map (tr w) = (((st.take na).reverse).map (tr w)).reverse ++ (st.drop na).map (tr w) := by
  conv => lhs; rw [← List.take_append_drop na st]
  simp
theorem o7 {o : List Nat} {c na kd : Nat} (h : (match o with | [c, na, kd, _, _, _, _] => some (c, na, kd) | _ => none) = some (c, na, kd)) : ∃ nest pl a sl, o = [c, na, kd, nest, pl, a, sl] := by
  split at h
  · cases h
    exact ⟨_, _, _, _, rfl⟩
  · cases h
theorem recv_new {c b : Nat} {h : Hp} (hb : b < OLDB) : recvOK c h (.ref b) = (decide (h.1[b]? = some (.inr (mCi c))) && decide (mCi c < 8)) := if_pos hb
theorem recv_old {c b : Nat} {h : Hp} (hb : ¬ b < OLDB) : recvOK c h (.ref b) = (decide (mCi c = 9) && decide (OLDB + 3 ≤ b) && decide (b < OLDB + 8)) := if_neg hb
theorem old_k {b : Nat} (r2 : OLDB + 3 ≤ b) (r3 : b < OLDB + 8) : b - OLDB = 3 + (b - (OLDB + 3)) ∧ b - (OLDB + 3) < 5 ∧ ¬ b = OLDB + 13 := by
  have hB := OLDB_eq
  omega
set_option maxHeartbeats 4000000 in
theorem call_sound {w : WC} {l : Launch} {n : Nat} (IH : RunS w l n) {dp y pc : Nat} {i : Instr} {o : List Nat} {len : Nat} {L st : List Value} {h h1 : Hp} {rv : Option Value} {c na kd : Nat} (hdec : decode (mBytes y) pc = .ok (i, len)) (hlen : ilen i = 0 ∨ ilen i = len) (hlk : lnkE y i o = true) (hco : callO i o = some (c, na, kd)) (hok : callOK c na kd st h = true)
    (hr : run w.2.2.2.2.2 n dp c 0 (entL (mMaxL c) (st.take na).reverse) [] h = some (rv, h1))
    {p : Program} {e : Env} {R : Room} {s : State} {m : MethodId} {args : Array Value} {below : List Frame} {meth : Method} {cd : Code} {H : Heap} {locs : List Loc} {cells slots : Nat} {Q : State → Prop} {ls : Array Slot}
    (M : MC w p s m args meth cd y) (hR : RmOK R (dp + 1)) (hW : WdH w s h H locs) (hl : lv_has ls (mMaxL y) (asL w L)) (hc1 : cells + (h1.1.length - h.1.length) ≤ R.cells) (hs1 : slots + (slotS h1.1 - slotS h.1) ≤ R.slots)
    (kk : ∀ H1 locs1, WdH w s h1 H1 locs1 → c < 223 → W p l e R s m args below meth cd H1 locs1 (cells + (h1.1.length - h.1.length)) (slots + (slotS h1.1 - slotS h.1)) Q (F0 m (pc + 3) ls ((rv.toList ++ st.drop na).map (tr w)))) :
    W p l e R s m args below meth cd H locs cells slots Q (F0 m pc ls (st.map (tr w))) := by
  obtain ⟨hx, hb, -, -, hml, hown, -, hts, hN, hK, hO⟩ := M
  simp only [callOK, Bool.and_eq_true, decide_eq_true_eq] at hok
  obtain ⟨⟨⟨⟨k1, k2⟩, k3⟩, k4⟩, k5⟩ := hok
  have hsum : 2 * (F0 m pc ls (st.map (tr w))).monitorRoom + (((st.drop na).map (tr w)).map fun v => v.category).sum ≤ 8 := by
    refine lv_room (m := m) ?_
    rw [tr_sum hO.zc]
    exact k2
  have hS : CallFix p m cd (mBytes y) (mMaxL y) s args BIGG (mName y).cls := ⟨hx, hb, hml, hown, hts⟩
  have hkk : ∀ H1 locs1, WdH w s h1 H1 locs1 → c < 223 → W p l e R s m args below meth cd H1 locs1 (cells + (h1.1.length - h.1.length)) (slots + (slotS h1.1 - slotS h.1)) Q (F0 m (pc + 3) ls ((rv.map (tr w)).toList ++ (st.drop na).map (tr w))) := by
    intro H1 locs1 a1 a2
    have := kk H1 locs1 a1 a2
    rw [List.map_append] at this
    cases rv with
    | none => exact this
    | some v => exact this
  have hpre : ∀ As : List Value, ∀ U : State, U.heap = H → s.WarmedH U.vm → PcW w As h ((As.map (tr w)).toArray) U := fun As U hU hWm =>
    ⟨rfl, by rw [hU]; exact hW.1, by rw [hU]; exact hW.2.1, va_K.moved hWm.alike hK, hO.to hW.2.2 hU hWm, hN.warm hWm⟩
  have hrm : ∀ mc ms, mMaxL c ≤ 40 → (rmOf dp mc ms).frames + 1 ≤ R.frames ∧ 8 + (mMaxL c + 11) + (rmOf dp mc ms).locals ≤ R.locals := fun mc ms h40 => ⟨by have := hR.1; show 2 * dp + 2 + 1 ≤ _; omega, by have := hR.2; show 8 + (mMaxL c + 11) + (64 * dp + 200) ≤ _; omega⟩
  have link : ∀ {own : String} {idx nest pl a sl : Nat}, calOK own idx c na kd nest pl a sl = true → (if nest = 0 then linkOK pl (.methodLink own idx (mName c)) else nestOK pl (.methodLinkNest own idx (mName c) "PastCatchers")) = true ∧ 0 < c ∧ c < 223 ∧ kdOK c na kd a sl = true := by
    intro own idx nest pl a sl hcal
    unfold calOK at hcal
    obtain ⟨h123, h4⟩ := (Bool.and_eq_true _ _).mp hcal
    obtain ⟨h12, h3⟩ := (Bool.and_eq_true _ _).mp h123
    obtain ⟨h1, h2⟩ := (Bool.and_eq_true _ _).mp h12
    exact ⟨h1, of_decide_eq_true h2, of_decide_eq_true h3, h4⟩
  have pcount : ∀ {na : Nat}, (parseMethodDescriptor (mName c).desc).map (fun d => d.parameters.length + 1) = some na → (parseMethodDescriptor (mName c).desc).map (fun d => d.parameters.length) = some (na - 1) := by
    intro na hp
    cases hd : parseMethodDescriptor (mName c).desc with
    | none => rw [hd] at hp; cases hp
    | some d =>
      rw [hd] at hp
      cases hp
      rfl
  cases i with
  | invokevirtual idx =>
    obtain ⟨nest, pl, a, sl, rfl⟩ := o7 (o := o) (c := c) (na := na) (kd := kd) hco
    obtain ⟨hkd, hcal⟩ := (Bool.and_eq_true _ _).mp (show (kd == 0 && calOK (mName y).cls idx c na kd nest pl a sl) = true from hlk)
    have hkd : kd = 0 := by simpa using hkd
    subst hkd
    obtain ⟨g1, h0, hc, g4⟩ := link hcal
    simp only [kdOK, Bool.and_eq_true, decide_eq_true_eq] at g4
    obtain ⟨⟨⟨g5, g6⟩, g7⟩, g8⟩ := g4
    obtain ⟨f1, f2, -, f4, f5, f6⟩ := mOK_facts h0 hc
    rw [if_neg (by decide)] at k5
    have hM := met_run IH h0 hc k4 hr
    cases hst : (st.take na).reverse with
    | nil => rw [hst] at k5; cases k5
    | cons r As =>
      rw [hst] at k5 hM
      have hAl : As.length = na - 1 := by
        have := congrArg List.length hst
        rw [List.length_reverse, List.length_take, List.length_cons] at this
        omega
      have hrec : recvOK c h r = true := k5
      cases r with
      | ref b =>
        have hcellb : (∃ cellB : Cell, H[match tr w (.ref b) with | .ref q => q | _ => 0]? = some cellB ∧ cellB.vm.isStatics = false ∧ s.vm.findClass (mName c).cls = some cellB.cls) ∧ ∃ q, tr w (.ref b) = .ref q := by
          by_cases hbO : b < OLDB
          · rw [recv_new hbO] at hrec
            simp only [Bool.and_eq_true, decide_eq_true_eq] at hrec
            rw [tr_new hbO]
            refine ⟨?_, _, rfl⟩
            have hcn : (mName c).cls = vwC (mCi c) := by
              rcases f5 with q | q | q
              · exact q.2
              · omega
              · omega
            rw [hcn]
            exact va_recv hK hW.2.1 (cls_tab _ hrec.2) (wsH_get hrec.1)
          · rw [recv_old hbO] at hrec
            simp only [Bool.and_eq_true, decide_eq_true_eq] at hrec
            obtain ⟨⟨r1, r2⟩, r3⟩ := hrec
            have hB := OLDB_eq
            obtain ⟨hk3, hk5, hne⟩ := old_k r2 r3
            rw [tr_old hbO hne, hk3]
            refine ⟨?_, _, rfl⟩
            have hcn : (mName c).cls = "java/lang/String" := by
              rcases f5 with q | q | q
              · omega
              · exact q.2
              · omega
            rw [hcn]
            exact vk_recv (adK := fun i => w.2.2.2.1 (3 + i)) (i := b - (OLDB + 3)) hO.2.2.2.2.2.2.2.2.2.1 hk5 hW.2.2
        obtain ⟨hcellb, q, hq⟩ := hcellb
        rw [hq] at hcellb
        have hpv : PreV s H (mName c).cls q (PcW w (.ref b :: As) h) (As.map (tr w)) := by
          refine ⟨PcW.blind _ _ _, hcellb, fun U hU hWm => ?_⟩
          have := hpre (.ref b :: As) U hU hWm
          rw [List.map_cons, hq] at this
          exact this
        have hstk := take_rev (w := w) hst
        rw [hq] at hstk
        have hd := dl hdec hlen (n := 2) rfl
        by_cases hn0 : nest = 0
        · rw [if_pos hn0] at g1
          have hG : GoodIn BIGG (wsV (mName y).cls idx (mName c).cls (mName c) (wsY c)) := by
            intro z hz
            unfold wsV at hz
            rcases List.mem_append.mp hz with hz | hz
            · have : z ∈ BIGG := by
                simp only [List.mem_cons, List.not_mem_nil, or_false] at hz
                rcases hz with rfl | rfl | rfl | rfl
                · exact linkOK_in g1
                · exact linkOK_in g5
                · exact linkOK_in g6
                · exact f6
              exact ⟨this, good_of_word (BIGG_good _ this)⟩
            · exact wsY_good h0 hc z hz
          exact call_go (va_runV hS hM (cwV (na - 1) hts hG rfl rfl rfl ⟨rfl, f1, f2, pcount g7⟩ (hrm _ _ f4)) hpv rfl (by rw [List.length_map]; exact hAl) hl.1 hstk hsum hd ⟨hc1, hs1⟩) hW.2.2 (fun H1 locs1 hW1 => hkk H1 locs1 hW1 hc)
        · rw [if_neg hn0] at g1
          exact call_go (va_runVN hS hM ⟨va_cnB (na - 1) hts (wsY_good h0 hc) rfl rfl rfl (hN _ (nestOK_in g1)) (hts _ f6) ⟨f1, f2, pcount g7⟩ (hrm _ _ f4), hts _ (linkOK_in g5), hts _ (linkOK_in g6)⟩ hpv rfl (by rw [List.length_map]; exact hAl) hl.1 hstk hsum hd ⟨hc1, hs1⟩) hW.2.2 (fun H1 locs1 hW1 => hkk H1 locs1 hW1 hc)
      | _ => cases hrec
  | invokespecial idx =>
    obtain ⟨nest, pl, a, sl, rfl⟩ := o7 (o := o) (c := c) (na := na) (kd := kd) hco
    obtain ⟨hkd, hcal⟩ := (Bool.and_eq_true _ _).mp (show (kd == 1 && calOK (mName y).cls idx c na kd nest pl a sl) = true by simpa only [lnkE] using hlk)
    have hkd : kd = 1 := by simpa using hkd
    subst hkd
    obtain ⟨g1, h0, hc, g4⟩ := link hcal
    simp only [kdOK, Bool.and_eq_true, decide_eq_true_eq] at g4
    obtain ⟨⟨⟨g5, g6⟩, g7⟩, g8⟩ := g4
    obtain ⟨f1, f2, -, f4, f5, f6⟩ := mOK_facts h0 hc
    rw [if_neg (by decide)] at k5
    have hM := met_run IH h0 hc k4 hr
    cases hst : (st.take na).reverse with
    | nil => rw [hst] at k5; cases k5
    | cons r As =>
      rw [hst] at k5 hM
      have hAl : As.length = na - 1 := by
        have := congrArg List.length hst
        rw [List.length_reverse, List.length_take, List.length_cons] at this
        omega
      cases r with
      | ref b =>
        have hbO : b < OLDB := of_decide_eq_true k5
        have hq := tr_new (w := w) hbO
        have hps : PreS s H (PcW w (.ref b :: As) h) (.ref (w.1 + b) :: As.map (tr w)) := by
          refine ⟨PcW.blind _ _ _, fun U hU hWm => ?_⟩
          have := hpre (.ref b :: As) U hU hWm
          rw [List.map_cons, hq] at this
          exact this
        have hstk := take_rev (w := w) hst
        rw [hq] at hstk
        have hd := dl hdec hlen (n := 2) rfl
        have hwy : wsY c = Jvm.Cond.code (mName c) (mBytes c) (mMaxL c) none :: BIGG := by unfold wsY; rw [g7]
        by_cases hn0 : nest = 0
        · rw [if_pos hn0] at g1
          exact call_go (va_runI hS hM (cwI (na - 1) hts (wsY_good h0 hc) hwy rfl rfl (hts _ f6) (hts _ (linkOK_in g1)) (hts _ (linkOK_in g5)) g6 ⟨f1, f2, pcount g8⟩ (hrm _ _ f4)) hps rfl (by rw [List.length_map]; exact hAl) hl.1 hstk hsum hd ⟨hc1, hs1⟩) hW.2.2 (fun H1 locs1 hW1 => hkk H1 locs1 hW1 hc)
        · rw [if_neg hn0] at g1
          exact call_go (va_runIN hS hM ⟨va_cnB (na - 1) hts (wsY_good h0 hc) hwy rfl rfl (hN _ (nestOK_in g1)) (hts _ f6) ⟨f1, f2, pcount g8⟩ (hrm _ _ f4), g6, hts _ (linkOK_in g5)⟩ hps rfl (by rw [List.length_map]; exact hAl) hl.1 hstk hsum hd ⟨hc1, hs1⟩) hW.2.2 (fun H1 locs1 hW1 => hkk H1 locs1 hW1 hc)
      | _ => cases k5
  | invokestatic idx =>
    obtain ⟨nest, pl, a, sl, rfl⟩ := o7 (o := o) (c := c) (na := na) (kd := kd) hco
    obtain ⟨hkd, hcal⟩ := (Bool.and_eq_true _ _).mp (show (kd == 2 && calOK (mName y).cls idx c na kd nest pl a sl) = true by simpa only [lnkE] using hlk)
    have hkd : kd = 2 := by simpa using hkd
    subst hkd
    obtain ⟨g1, h0, hc, g4⟩ := link hcal
    simp only [kdOK, Bool.and_eq_true, decide_eq_true_eq] at g4
    obtain ⟨g5, g7⟩ := g4
    obtain ⟨f1, f2, -, f4, f5, f6⟩ := mOK_facts h0 hc
    have hM := met_run IH h0 hc k4 hr
    have hAl : ((st.take na).reverse.map (tr w)).length = na := by
      rw [List.length_map, List.length_reverse, List.length_take]
      omega
    have hps : PreS s H (PcW w (st.take na).reverse h) ((st.take na).reverse.map (tr w)) := ⟨PcW.blind _ _ _, fun U hU hWm => hpre _ U hU hWm⟩
    have hstk := take_revS (w := w) (na := na) (st := st)
    have hd := dl hdec hlen (n := 2) rfl
    by_cases hn0 : nest = 0
    · rw [if_pos hn0] at g1
      have hG : GoodIn BIGG (va_wsS (mName y).cls idx (mName c) (wsY c)) := by
        intro z hz
        unfold va_wsS at hz
        rcases List.mem_append.mp hz with hz | hz
        · have : z ∈ BIGG := by
            simp only [List.mem_cons, List.not_mem_nil, or_false] at hz
            rcases hz with rfl | rfl | rfl
            · exact linkOK_in g1
            · exact linkOK_in g5
            · exact f6
          exact ⟨this, good_of_word (BIGG_good _ this)⟩
        · exact wsY_good h0 hc z hz
      exact call_go (va_runS hS hM (va_cwS na hts hG rfl rfl rfl ⟨f1, f2, g7⟩ (hrm _ _ f4)) hps rfl hAl hl.1 hstk hsum hd ⟨hc1, hs1⟩) hW.2.2 (fun H1 locs1 hW1 => hkk H1 locs1 hW1 hc)
    · rw [if_neg hn0] at g1
      exact call_go (va_runSN hS hM ⟨va_cnB na hts (wsY_good h0 hc) rfl rfl rfl (hN _ (nestOK_in g1)) (hts _ f6) ⟨f1, f2, g7⟩ (hrm _ _ f4), hts _ (linkOK_in g5), trivial⟩ hps rfl hAl hl.1 hstk hsum hd ⟨hc1, hs1⟩) hW.2.2 (fun H1 locs1 hW1 => hkk H1 locs1 hW1 hc)
  | _ => cases hco
