theorem tr_sum {w : WC} (hz : w.2.2.2.2.1.category = 1) (st : List Value) : ((st.map (tr w)).map fun v => v.category).sum = (st.map fun v => v.category).sum := by
  rw [List.map_map]
  congr 1
  exact List.map_congr_left (fun v _ => tr_cat hz v)
section HS2
variable {w : WC} {p : Program} {l : Launch} {e : Env} {R : Room} {s : State} {m : MethodId} {args : Array Value} {below : List Frame} {meth : Method} {c : Code} {H : Heap} {locs : List Loc} {cells slots : Nat} {Q : State → Prop}
variable {y pc len : Nat} {L st L' st' : List Value} {i : Instr} {o : List Nat} {pc' : Nat} {ls : Array Slot} {h h' : Hp}
theorem z_aald (M : MC w p s m args meth c y) (hW : WdH w s h H locs) {a t n b : Nat} {j : Int32} (ha : h.1[a]? = some (.inl (t, n))) (ht : t = 3 ∨ t = 4) (hin : inB j n = true) (hr : h.2.2.2 a j.toNatClampNeg = some b) (hbo : b < OLDB) (hd : decode (mBytes y) pc = .ok (.aaload, 1))
    (kk : W p l e R s m args below meth c H locs cells slots Q (F0 m (pc + 1) ls (tr w (.ref b) :: st))) : W p l e R s m args below meth c H locs cells slots Q (F0 m pc ls (.int j :: .ref (w.1 + a) :: st)) := by
  obtain ⟨hx, hb, -, -, -, hown, -, hts, hN, hK, hO⟩ := M
  have hg := wsH_get (w := w) ha
  have hi := inB_in hin
  have hlt : j.toNatClampNeg < n := Nat.not_le.mp fun q => hi (Or.inr q)
  rw [tr_new hbo] at kk
  have hcell : H[w.1 + a]? = some (arrV (w.2.2.1 t) n (fun i => va_rf ((h.2.2.2 a i).map (fun b => w.1 + b)))) := by
    have := hW.2.1 a _ hg
    rcases ht with rfl | rfl <;> exact this
  have hty : ∃ ty, (tysW w)[t]? = some (w.2.2.1 t, ty) ∧ ty.isReference = true := by
    rcases ht with rfl | rfl
    · exact ⟨_, rfl, rfl⟩
    · exact ⟨_, rfl, rfl⟩
  obtain ⟨ty, hty, hrf⟩ := hty
  refine W.aald (v := .ref (w.1 + b)) hx hb hcell ((hK.2 t _ hty).1 n (fun i => va_rf ((h.2.2.2 a i).map (fun b => w.1 + b)))) hrf (fun q => by cases q) (by rw [arrV_size]; exact hi) ?_ rfl rfl hd kk
  rw [arrV_read _ _ hlt, hr]
  rfl
set_option maxHeartbeats 4000000 in
theorem hs_sound (M : MC w p s m args meth c y) (hdec : decode (mBytes y) pc = .ok (i, len)) (hlen : ilen i = 0 ∨ ilen i = len) (hlk : lnkE y i o = true) (hl : lv_has ls (mMaxL y) (asL w L)) (hL : L.length = mMaxL y) (hW : WdH w s h H locs) (hroom : 1 ≤ R.frames ∧ 200 ≤ R.locals)
    (hh : hstep w.2.2.2.2.2 i o pc L st h = some (pc', L', st', h')) (hc : cells + h'.1.length ≤ R.cells + h.1.length) (hsl : slots + slotS h'.1 ≤ R.slots + slotS h.1)
    (kk : ∀ ls' H' locs' cells' slots', lv_has ls' (mMaxL y) (asL w L') → L'.length = mMaxL y → WdH w s h' H' locs' → cells' + h.1.length = cells + h'.1.length → slots' + slotS h.1 = slots + slotS h'.1 → W p l e R s m args below meth c H' locs' cells' slots' Q (F0 m pc' ls' (st'.map (tr w)))) :
    W p l e R s m args below meth c H locs cells slots Q (F0 m pc ls (st.map (tr w))) := by
  have M0 := M
  obtain ⟨hx, hb, -, -, hml, hown, hmn, hts, hN, hK, hO⟩ := M
  have hB := OLDB_eq
  have nochange : h' = h → (∀ ls', lv_has ls' (mMaxL y) (asL w L') → L'.length = mMaxL y → W p l e R s m args below meth c H locs cells slots Q (F0 m pc' ls' (st'.map (tr w)))) := fun eh ls' a1 a2 => kk ls' H locs cells slots a1 a2 (by rw [eh]; exact hW) (by rw [eh]) (by rw [eh])
  have pure : (pstep i o pc L st).map (fun q => (q.1, q.2.1, q.2.2, h)) = some (pc', L', st', h') → W p l e R s m args below meth c H locs cells slots Q (F0 m pc ls (st.map (tr w))) := by
    intro hp
    obtain ⟨⟨p1, p2, p3⟩, hp1, hp2⟩ := Option.map_eq_some_iff.mp hp
    injection hp2 with e1 hp2
    injection hp2 with e2 hp2
    injection hp2 with e3 e4
    subst e1; subst e2; subst e3
    exact ps_sound M0 hdec hlen hlk hl hL hp1 (nochange e4.symm)
  cases i with
  | getfield idx =>
    obtain ⟨st1, hg, hp2⟩ := Option.map_eq_some_iff.mp (show (getF o st h).map (fun st' => (pc + 3, L, st', h)) = some (pc', L', st', h') from hh)
    cases hp2
    have hd := dl hdec hlen (n := 2) rfl
    unfold getF at hg
    split at hg
    · rename_i f n1 pl
      split at hg
      · rename_i a st2
        obtain ⟨ha, hg⟩ := inv_if hg
        cases hg
        exact g_str M0 hW hd hlk ha (nochange rfl ls hl hL)
      · cases hg
    · rename_i ci k nest pl hne
      split at hg
      · rename_i a st2
        obtain ⟨⟨ha, hs, hk⟩, hg⟩ := inv_if hg
        obtain ⟨v, hv, hg⟩ := Option.map_eq_some_iff.mp hg
        cases hg
        have hlk2 : (fldOK (mName y).cls idx ci k nest pl && decide (ci < 8)) = true := by
          simp only [lnkE] at hlk
          exact hlk
        obtain ⟨h1, h2⟩ := (Bool.and_eq_true _ _).mp hlk2
        exact g_new M0 hW (of_decide_eq_true h2) hd h1 ha hs hk hv (nochange rfl ls hl hL)
      · cases hg
    · cases hg
  | putfield idx =>
    obtain ⟨⟨st1, h1⟩, hg, hp2⟩ := Option.map_eq_some_iff.mp (show (putF o st h).map (fun q => (pc + 3, L, q.1, q.2)) = some (pc', L', st', h') from hh)
    cases hp2
    have hd := dl hdec hlen (n := 2) rfl
    unfold putF at hg
    split at hg
    · rename_i ci k nest pl
      split at hg
      · rename_i v a st2
        obtain ⟨⟨ha, hs, hk⟩, hg⟩ := inv_if hg
        have hlk2 : (fldOK (mName y).cls idx ci k nest pl && decide (ci < 8) && ((vwT ci k).2.2.2 == false || (decide (nest = 0) && decide ((mName y).name = "<init>") && decide ((mName y).cls = vwC ci)))) = true := hlk
        obtain ⟨h12, h3⟩ := (Bool.and_eq_true _ _).mp hlk2
        obtain ⟨h1, h2⟩ := (Bool.and_eq_true _ _).mp h12
        have hci := of_decide_eq_true h2
        have h3 : ((vwT ci k).2.2.2 == false || (decide (nest = 0) && decide (meth.name = "<init>") && decide ((mName y).cls = vwC ci))) = true := by
          simp only [Bool.or_eq_true, Bool.and_eq_true, decide_eq_true_eq] at h3 ⊢
          rcases h3 with q | ⟨⟨q1, q2⟩, q3⟩
          · exact Or.inl q
          · exact Or.inr ⟨⟨q1, hmn q2⟩, q3⟩
        cases v with
        | int x =>
          obtain ⟨hr, hg⟩ := inv_ifn hg
          obtain ⟨hbo, hg⟩ := inv_ifn hg
          cases hg
          have hr2 : isRefTy (vwTy ci k) = false := by simpa using hr
          have hnf : narrow (vwTy ci k) (.int x) = .int x ∧ fits (vwTy ci k) (.int x) = true := by
            rcases cls_kind ci hci k hk with q | q | q
            · rw [q]; exact ⟨rfl, rfl⟩
            · have hx01 : x = 0 ∨ x = 1 := by
                rw [q] at hbo
                exact Classical.byContradiction fun hne => hbo ⟨rfl, hne⟩
              rw [q]
              rcases hx01 with rfl | rfl <;> exact ⟨by decide, by decide⟩
            · exact absurd q hr
          show W p l e R s m args below meth c H locs cells slots Q (F0 m pc ls (.int x :: tr w (.ref a) :: st1.map (tr w)))
          rw [tr_new ha]
          refine z_put hx hb hK hts hown hN hW hci hk hs h1 h3 hnf.1 hnf.2 (h' := (h.1, ud h.2.1 a k x, h.2.2.1, h.2.2.2)) rfl (fun b s' hb' => cel_d (ud_ne _ _ hb') s') ?_ ?_ hd (fun H1 locs1 hW1 => kk ls H1 locs1 cells slots hl hL hW1 rfl rfl)
          · rw [cfv_int hr2]
            show Value.int (ud h.2.1 a k x a k) = _
            rw [ud_at]
          · intro j hj
            unfold cfv
            show (if isRefTy (vwTy ci j) = true then va_rf ((h.2.2.2 a j).map (fun b => w.1 + b)) else Value.int (ud h.2.1 a k x a j)) = _
            rw [ud_off _ _ _ hj]
        | ref b =>
          obtain ⟨⟨hr, hbO⟩, hg⟩ := inv_if hg
          cases hg
          have hnf : narrow (vwTy ci k) (.ref (w.1 + b)) = .ref (w.1 + b) ∧ fits (vwTy ci k) (.ref (w.1 + b)) = true := by
            cases hty : vwTy ci k <;> rw [hty] at hr <;> first | exact ⟨rfl, rfl⟩ | cases hr
          show W p l e R s m args below meth c H locs cells slots Q (F0 m pc ls (tr w (.ref b) :: tr w (.ref a) :: st1.map (tr w)))
          rw [tr_new ha, tr_new hbO]
          refine z_put hx hb hK hts hown hN hW hci hk hs h1 h3 hnf.1 hnf.2 (h' := (h.1, h.2.1, h.2.2.1, ud h.2.2.2 a k (some b))) rfl (fun b s' hb' => cel_r (ud_ne _ _ hb') s') ?_ ?_ hd (fun H1 locs1 hW1 => kk ls H1 locs1 cells slots hl hL hW1 rfl rfl)
          · rw [cfv_ref hr]
            show va_rf ((ud h.2.2.2 a k (some b) a k).map (fun b => w.1 + b)) = _
            rw [ud_at]
            rfl
          · intro j hj
            unfold cfv
            show (if isRefTy (vwTy ci j) = true then va_rf ((ud h.2.2.2 a k (some b) a j).map (fun b => w.1 + b)) else Value.int (h.2.1 a j)) = _
            rw [ud_off _ _ _ hj]
        | _ => cases hg
      · cases hg
    · cases hg
  | getstatic idx =>
    have hd := dl hdec hlen (n := 2) rfl
    simp only [hstep] at hh
    split at hh
    · cases hh
      exact sta_get (sid := 0) M0 hW hd hlk (Or.inl ⟨rfl, rfl⟩) (nochange rfl ls hl hL)
    · cases hh
      exact sta_get (sid := 1) M0 hW hd hlk (Or.inr (Or.inl ⟨rfl, rfl⟩)) (nochange rfl ls hl hL)
    · cases hh
      exact sta_get (sid := 2) M0 hW hd hlk (Or.inr (Or.inr (Or.inl ⟨rfl, rfl⟩))) (nochange rfl ls hl hL)
    · cases hh
      exact sta_get (sid := 3) M0 hW hd hlk (Or.inr (Or.inr (Or.inr ⟨rfl, rfl⟩))) (nochange rfl ls hl hL)
    · cases hh
  | arraylength =>
    have hd := dl hdec hlen (n := 0) rfl
    have hq := inv_r hh
    clear hh
    obtain ⟨a, st1, est, hh⟩ := hq
    subst est
    by_cases ha : a < OLDB
    · rw [if_pos ha] at hh
      split at hh
      · rename_i t n hs
        obtain ⟨ht5, hh⟩ := inv_if hh
        cases hh
        show W p l e R s m args below meth c H locs cells slots Q (F0 m pc ls (tr w (.ref a) :: st1.map (tr w)))
        rw [tr_new ha]
        have hg := wsH_get (w := w) hs
        have hkt : t = 0 ∨ t = 1 ∨ t = 2 ∨ t = 3 ∨ t = 4 := by omega
        have hty : ∃ ty, (tysW w)[t]? = some (w.2.2.1 t, ty) := by
          rcases hkt with rfl | rfl | rfl | rfl | rfl <;> exact ⟨_, rfl⟩
        obtain ⟨ty, hty⟩ := hty
        exact va_alen hx hb hK hW.2.1 a t hg hty rfl hd (nochange rfl ls hl hL)
      · cases hh
    · rw [if_neg ha] at hh
      split at hh
      · rename_i t n f ho
        cases hh
        exact old_len M0 hW ha ho hd (nochange rfl ls hl hL)
      · cases hh
  | iaload =>
    have hd := dl hdec hlen (n := 0) rfl
    simp only [hstep] at hh
    split at hh
    · rename_i j a st1
      by_cases ha : a < OLDB
      · rw [if_pos ha] at hh
        split at hh
        · rename_i n hs
          obtain ⟨hin, hh⟩ := inv_if hh
          cases hh
          show W p l e R s m args below meth c H locs cells slots Q (F0 m pc ls (.int j :: tr w (.ref a) :: st1.map (tr w)))
          rw [tr_new ha]
          exact va_iald hx hb hK hW.2.1 a 0 (wsH_get (w := w) hs) rfl (inB_in hin) hd (nochange rfl ls hl hL)
        · cases hh
      · rw [if_neg ha] at hh
        split at hh
        · rename_i n f ho
          obtain ⟨hin, hh⟩ := inv_if hh
          cases hh
          exact old_int M0 hW ha ho hin hd (nochange rfl ls hl hL)
        · cases hh
    · cases hh
  | baload =>
    have hd := dl hdec hlen (n := 0) rfl
    simp only [hstep] at hh
    split at hh
    · rename_i j a st1
      by_cases ha : a < OLDB
      · rw [if_pos ha] at hh
        split at hh
        · rename_i n hs
          obtain ⟨hin, hh⟩ := inv_if hh
          cases hh
          show W p l e R s m args below meth c H locs cells slots Q (F0 m pc ls (.int j :: tr w (.ref a) :: st1.map (tr w)))
          rw [tr_new ha]
          exact va_zald hx hb hK hW.2.1 a 2 (wsH_get (w := w) hs) rfl (inB_in hin) hd (nochange rfl ls hl hL)
        · cases hh
      · rw [if_neg ha] at hh
        split at hh
        · rename_i n f ho
          obtain ⟨hin, hh⟩ := inv_if hh
          cases hh
          exact old_byte M0 hW ha ho hin hd (nochange rfl ls hl hL)
        · cases hh
    · cases hh
  | laload =>
    have hd := dl hdec hlen (n := 0) rfl
    simp only [hstep] at hh
    split at hh
    · rename_i j a st1
      obtain ⟨ha, hh⟩ := inv_if hh
      split at hh
      · rename_i n hs
        obtain ⟨hin, hh⟩ := inv_if hh
        cases hh
        show W p l e R s m args below meth c H locs cells slots Q (F0 m pc ls (.int j :: tr w (.ref a) :: st1.map (tr w)))
        rw [tr_new ha]
        exact va_lald hx hb hK hW.2.1 a 1 (wsH_get (w := w) hs) rfl (inB_in hin) hd (nochange rfl ls hl hL)
      · cases hh
    · cases hh
  | aaload =>
    have hd := dl hdec hlen (n := 0) rfl
    simp only [hstep] at hh
    split at hh
    · rename_i j a st1
      obtain ⟨ha, hh⟩ := inv_if hh
      split at hh
      · rename_i t n hs
        obtain ⟨⟨ht, hin⟩, hh⟩ := inv_if hh
        split at hh
        · rename_i b hr
          obtain ⟨hbO, hh⟩ := inv_if hh
          cases hh
          show W p l e R s m args below meth c H locs cells slots Q (F0 m pc ls (.int j :: tr w (.ref a) :: st1.map (tr w)))
          rw [tr_new ha]
          exact z_aald M0 hW hs ht hin hr hbO hd (nochange rfl ls hl hL)
        · cases hh
      · cases hh
    · cases hh
  | iastore =>
    have hd := dl hdec hlen (n := 0) rfl
    simp only [hstep] at hh
    split at hh
    · rename_i x j a st1
      obtain ⟨ha, hh⟩ := inv_if hh
      split at hh
      · rename_i n hs
        obtain ⟨hin, hh⟩ := inv_if hh
        cases hh
        show W p l e R s m args below meth c H locs cells slots Q (F0 m pc ls (.int x :: .int j :: tr w (.ref a) :: st'.map (tr w)))
        rw [tr_new ha]
        exact z_iast hx hb hK hW hs hin hd (fun H1 locs1 hW1 => kk ls H1 locs1 cells slots hl hL hW1 rfl rfl)
      · cases hh
    · cases hh
  | bastore =>
    have hd := dl hdec hlen (n := 0) rfl
    simp only [hstep] at hh
    split at hh
    · rename_i x j a st1
      obtain ⟨⟨ha, hx01⟩, hh⟩ := inv_if hh
      split at hh
      · rename_i n hs
        obtain ⟨hin, hh⟩ := inv_if hh
        cases hh
        show W p l e R s m args below meth c H locs cells slots Q (F0 m pc ls (.int x :: .int j :: tr w (.ref a) :: st'.map (tr w)))
        rw [tr_new ha]
        exact z_zast hx hb hK hW hx01 hs hin hd (fun H1 locs1 hW1 => kk ls H1 locs1 cells slots hl hL hW1 rfl rfl)
      · cases hh
    · cases hh
  | lastore =>
    have hd := dl hdec hlen (n := 0) rfl
    simp only [hstep] at hh
    split at hh
    · rename_i x j a st1
      obtain ⟨ha, hh⟩ := inv_if hh
      split at hh
      · rename_i n hs
        obtain ⟨hin, hh⟩ := inv_if hh
        cases hh
        show W p l e R s m args below meth c H locs cells slots Q (F0 m pc ls (.long x :: .int j :: tr w (.ref a) :: st'.map (tr w)))
        rw [tr_new ha]
        exact z_last hx hb hK hW hs hin hd (fun H1 locs1 hW1 => kk ls H1 locs1 cells slots hl hL hW1 rfl rfl)
      · cases hh
    · cases hh
  | aastore =>
    have hd := dl hdec hlen (n := 0) rfl
    simp only [hstep] at hh
    split at hh
    · rename_i b j a st1
      obtain ⟨⟨ha, hbO, hbs⟩, hh⟩ := inv_if hh
      split at hh
      · rename_i n hs
        obtain ⟨hin, hh⟩ := inv_if hh
        cases hh
        show W p l e R s m args below meth c H locs cells slots Q (F0 m pc ls (tr w (.ref b) :: .int j :: tr w (.ref a) :: st'.map (tr w)))
        rw [tr_new ha, tr_new hbO]
        exact z_aast hx hb hK hW hs hbs hin hd (fun H1 locs1 hW1 => kk ls H1 locs1 cells slots hl hL hW1 rfl rfl)
      · cases hh
    · cases hh
  | new idx =>
    have hd := dl hdec hlen (n := 2) rfl
    simp only [hstep] at hh
    split at hh
    · rename_i ci pl
      obtain ⟨⟨hlO, hci⟩, hh⟩ := inv_if hh
      cases hh
      have e1 : (objNew h ci).1.length = h.1.length + 1 := by simp [objNew]
      have e2 : slotS (objNew h ci).1 = slotS h.1 + vwN ci := by
        show slotS (h.1 ++ [.inr ci]) = _
        rw [slotS_app]
        simp [slotS, shSz]
      refine z_new hx hb hK hts hown hW hci hlk (by omega) (by omega) hd (fun H1 hW1 => ?_)
      rw [← tr_new hlO]
      exact kk ls H1 locs _ _ hl hL hW1 (by omega) (by omega)
    · cases hh
  | newarray ty =>
    have hd := dl hdec hlen (n := 1) rfl
    have hq := inv_i hh
    clear hh
    obtain ⟨n, st1, est, hh⟩ := hq
    subst est
    split at hh
    · rename_i t htag
      obtain ⟨⟨hlO, hn, hn2⟩, hh⟩ := inv_if hh
      cases hh
      have e1 : (arrNew h t n.toNatClampNeg).1.length = h.1.length + 1 := by simp [arrNew]
      have e2 : slotS (arrNew h t n.toNatClampNeg).1 = slotS h.1 + n.toNatClampNeg := by
        show slotS (h.1 ++ [.inl (t, n.toNatClampNeg)]) = _
        rw [slotS_app]
        simp [slotS, shSz]
      refine z_newa hx hb hK hts hW htag hn hn2 (by omega) (by omega) hd (fun H1 hW1 => ?_)
      rw [← tr_new hlO]
      exact kk ls H1 locs _ _ hl hL hW1 (by omega) (by omega)
    · cases hh
  | anewarray idx =>
    have hd := dl hdec hlen (n := 2) rfl
    have hq := inv_i hh
    clear hh
    obtain ⟨n, st1, est, hh⟩ := hq
    subst est
    obtain ⟨⟨hlO, hn, hn2⟩, hh⟩ := inv_if hh
    cases hh
    have e1 : (arrNew h 3 n.toNatClampNeg).1.length = h.1.length + 1 := by simp [arrNew]
    have e2 : slotS (arrNew h 3 n.toNatClampNeg).1 = slotS h.1 + n.toNatClampNeg := by
      show slotS (h.1 ++ [.inl (3, n.toNatClampNeg)]) = _
      rw [slotS_app]
      simp [slotS, shSz]
    simp only [lnkE] at hlk
    split at hlk
    · refine z_newq hx hb hK hts hown hW hlk hO.2.2.2.2.2.2.2.2.2.2.2.1 hn hn2 (by omega) (by omega) hd (fun H1 hW1 => ?_)
      rw [← tr_new hlO]
      exact kk ls H1 locs _ _ hl hL hW1 (by omega) (by omega)
    · cases hlk
  | multianewarray idx d =>
    simp only [hstep] at hh
    split at hh
    · rename_i k n st1
      obtain ⟨⟨hd2, hlO, hn, hk, hn2, hk2⟩, hh⟩ := inv_if hh
      cases hh
      subst hd2
      have hd := dl hdec hlen (n := 3) rfl
      have e1 : (rowNew h n.toNatClampNeg k.toNatClampNeg).1.length = h.1.length + (1 + n.toNatClampNeg) := by simp [rowNew]; omega
      have e2 : slotS (rowNew h n.toNatClampNeg k.toNatClampNeg).1 = slotS h.1 + (n.toNatClampNeg + n.toNatClampNeg * k.toNatClampNeg) := by
        show slotS (h.1 ++ ([.inl (4, n.toNatClampNeg)] ++ List.replicate n.toNatClampNeg (.inl (1, k.toNatClampNeg)))) = _
        rw [slotS_app, slotS_app, slotS_rep]
        simp [slotS, shSz]
      simp only [lnkE] at hlk
      split at hlk
      · refine z_mna hx hb hK hts hown hW hlk hO.2.2.2.2.2.2.2.2.2.2.2.2.1 hn hk hn2 hk2 (by omega) (by omega) hd (fun H1 locs1 hW1 => ?_)
        rw [← tr_new hlO]
        exact kk ls H1 locs1 _ _ hl hL hW1 (by omega) (by omega)
      · cases hlk
    · cases hh
  | invokespecial idx =>
    have hd := dl hdec hlen (n := 2) rfl
    simp only [hstep] at hh
    split at hh
    · rename_i q1 q2 q3 pl
      have hq := inv_r hh
      clear hh
      obtain ⟨r, st1, est, hh⟩ := hq
      subst est
      obtain ⟨⟨hr, hcs⟩, hh⟩ := inv_if hh
      cases hh
      show W p l e R s m args below meth c H locs cells slots Q (F0 m pc ls (tr w (.ref r) :: st'.map (tr w)))
      rw [tr_new hr]
      have hsum := tr_sum hO.zc st'
      exact W.objInit hx hb hown (hts _ (linkOK_in hlk)) (hts _ obj_inst) (hts _ obj_code) rfl (by rw [hl.1, hml]) rfl hd hroom.1 (by show 2 * 0 + _ + 12 ≤ _; rw [hsum]; unfold catSum at hcs; omega) (nochange rfl ls hl hL)
    · cases hh
  | invokestatic idx =>
    have hd := dl hdec hlen (n := 2) rfl
    simp only [hstep] at hh
    split at hh
    · rename_i q1 q2 q3 pl
      obtain ⟨⟨st1, h1⟩, hg, hp2⟩ := Option.map_eq_some_iff.mp hh
      cases hp2
      unfold copyA at hg
      split at hg
      · rename_i n dp a sp b st2
        obtain ⟨⟨ha, hbO, c1, c2, c3, hcs⟩, hg⟩ := inv_if hg
        split at hg
        · rename_i t m1 t' m2 hs1 hs2
          obtain ⟨⟨ht, c4, c5⟩, hg2⟩ := inv_if hg
          clear hg
          subst ht
          have hsum := tr_sum hO.zc st2
          have hloc : ((st2.map (tr w)).map fun v => v.category).sum + (nativeFrameWords "java/lang/System" "arraycopy" 5 + 11) ≤ R.locals := by
            rw [hsum]
            unfold catSum at hcs
            have hnf : nativeFrameWords "java/lang/System" "arraycopy" 5 ≤ 100 := by decide +kernel
            omega
          show W p l e R s m args below meth c H locs cells slots Q (F0 m pc ls (.int n :: .int dp :: tr w (.ref a) :: .int sp :: tr w (.ref b) :: st2.map (tr w)))
          rw [tr_new ha, tr_new hbO]
          by_cases ht0 : t = 0
          · rw [if_pos ht0] at hg2
            subst ht0
            cases hg2
            refine z_copy hx hb (by rw [hl.1, hml]) hK hts hown hlk hW Value.int (fun f => .inl f) (fun _ _ _ => rfl) (t := 0) (ty := .int) rfl rfl (fun _ => rfl) (fun _ _ q => by cases q) hs1 hs2 (cfa_0 w h b) (cfa_0 w h a) c1 c2 c3 c4 c5 hroom.1 hloc hd (h' := (h.1, (fun x => if x = a then va_cpy (h.2.1 b) (h.2.1 a) sp.toNatClampNeg dp.toNatClampNeg n.toNatClampNeg else h.2.1 x), h.2.2.1, h.2.2.2)) rfl (fun b' s' hb' => cel_d (by show (if b' = a then _ else _) = _; rw [if_neg hb']) s') ?_ (fun H1 locs1 hW1 => kk ls H1 locs1 cells slots hl hL hW1 rfl rfl)
            rw [cfa_0]
            show Sum.inl (if a = a then _ else _) = _
            rw [if_pos rfl]
          · rw [if_neg ht0] at hg2
            obtain ⟨ht1, hg3⟩ := inv_if hg2
            clear hg2
            subst ht1
            cases hg3
            refine z_copy hx hb (by rw [hl.1, hml]) hK hts hown hlk hW Value.long (fun f => .inr (.inl f)) (fun _ _ _ => rfl) (t := 1) (ty := .long) rfl rfl (fun _ => rfl) (fun _ _ q => by cases q) hs1 hs2 (cfa_1 w h b) (cfa_1 w h a) c1 c2 c3 c4 c5 hroom.1 hloc hd (h' := (h.1, h.2.1, (fun x => if x = a then va_cpy (h.2.2.1 b) (h.2.2.1 a) sp.toNatClampNeg dp.toNatClampNeg n.toNatClampNeg else h.2.2.1 x), h.2.2.2)) rfl (fun b' s' hb' => cel_e (by show (if b' = a then _ else _) = _; rw [if_neg hb']) s') ?_ (fun H1 locs1 hW1 => kk ls H1 locs1 cells slots hl hL hW1 rfl rfl)
            rw [cfa_1]
            show Sum.inr (Sum.inl (if a = a then _ else _)) = _
            rw [if_pos rfl]
        · cases hg
      · cases hg
    · cases hh
  | _ => exact pure hh
end HS2
