/-! The steps on the heap are the machine's. -/
theorem slotS_app (a b : List Sh) : slotS (a ++ b) = slotS a + slotS b := by simp [slotS]
theorem slotS_rep (n k : Nat) : slotS (List.replicate n (.inl (1, k))) = n * k := by
  induction n with
  | zero => simp [slotS]
  | succ n ih =>
    rw [List.replicate_succ, show (Sum.inl (1, k) :: List.replicate n (Sum.inl (1, k)) : List Sh) = [Sum.inl (1, k)] ++ List.replicate n (Sum.inl (1, k)) from rfl, slotS_app, ih, Nat.succ_mul]
    simp [slotS, shSz]
    omega
theorem cfv_int {w : WC} {h : Hp} {ci a k : Nat} (hr : isRefTy (vwTy ci k) = false) : cfv w h ci a k = .int (h.2.1 a k) := by
  unfold cfv
  rw [hr]
  rfl
theorem cfv_ref {w : WC} {h : Hp} {ci a k : Nat} (hr : isRefTy (vwTy ci k) = true) : cfv w h ci a k = va_rf ((h.2.2.2 a k).map (fun b => w.1 + b)) := by
  unfold cfv
  rw [hr]
  rfl
section HS
variable {w : WC} {p : Program} {l : Launch} {e : Env} {R : Room} {s : State} {m : MethodId} {args : Array Value} {below : List Frame} {meth : Method} {c : Code} {H : Heap} {locs : List Loc} {cells slots : Nat} {Q : State → Prop}
variable {y pc len : Nat} {L st L' st' : List Value} {i : Instr} {o : List Nat} {pc' : Nat} {ls : Array Slot} {h h' : Hp}
theorem g_new (M : MC w p s m args meth c y) (hW : WdH w s h H locs) {idx ci k nest pl a : Nat} {v : Value} (hci : ci < 8) (hd : decode (mBytes y) pc = .ok (.getfield idx, 3)) (hf : fldOK (mName y).cls idx ci k nest pl = true) (ha : a < OLDB) (hs : h.1[a]? = some (.inr ci)) (hk : k < vwN ci) (hv : fval h ci a k = some v)
    (kk : W p l e R s m args below meth c H locs cells slots Q (F0 m (pc + 3) ls (tr w v :: st))) : W p l e R s m args below meth c H locs cells slots Q (F0 m pc ls (tr w (.ref a) :: st)) := by
  obtain ⟨hx, hb, -, -, -, hown, -, hts, hN, hK, hO⟩ := M
  have hg := wsH_get (w := w) hs
  have hfs : ((List.range (vwN ci)).map (fun j => cfv w h ci a j))[k]? = some (tr w v) := by
    rw [List.getElem?_map, List.getElem?_range hk]
    show some (cfv w h ci a k) = _
    unfold fval at hv
    by_cases hr : isRefTy (vwTy ci k) = true
    · rw [if_pos hr] at hv
      rw [cfv_ref hr]
      cases hq : h.2.2.2 a k with
      | none => rw [hq] at hv; cases hv
      | some b =>
        rw [hq] at hv
        obtain ⟨hb2, hv⟩ := inv_if hv
        cases hv
        rw [tr_new hb2]
        rfl
    · rw [if_neg hr] at hv
      cases hv
      rw [cfv_int (by simpa using hr)]
      rfl
  rw [tr_new ha]
  unfold fldOK at hf
  by_cases hn : nest = 0
  · rw [if_pos hn] at hf
    exact va_get hx hb hts (cls_ws ci hci) hown hK hW.2.1 a hg (cls_tab ci hci) k hk (hts _ (linkOK_in hf)) (fun x hxx => by rw [cls_decl ci hci k hk] at hxx; exact hxx) hfs hd kk
  · rw [if_neg hn] at hf
    exact va_getN hx hb hts (cls_ws ci hci) hown hK hW.2.1 a hg (cls_tab ci hci) k hk (va_Nw.use rfl (hN _ (nestOK_in hf))) (fun x hxx => by rw [cls_decl ci hci k hk] at hxx; exact hxx) hfs hd kk
theorem g_str (M : MC w p s m args meth c y) (hW : WdH w s h H locs) {idx f pl a : Nat} (hd : decode (mBytes y) pc = .ok (.getfield idx, 3)) (hf : linkOK pl (.fieldLink (mName y).cls idx "java/lang/String" (sFld f) (sFldD f)) = true) (ha : OLDB + 3 ≤ a ∧ a < OLDB + 8)
    (kk : W p l e R s m args below meth c H locs cells slots Q (F0 m (pc + 3) ls (tr w (if f = 0 then .ref (a + 5) else .int 0) :: st))) : W p l e R s m args below meth c H locs cells slots Q (F0 m pc ls (tr w (.ref a) :: st)) := by
  obtain ⟨hx, hb, -, -, -, hown, -, hts, hN, hK, hO⟩ := M
  have hB := OLDB_eq
  have hS := hO.2.2.2.2.2.2.2.2.2.1
  rw [tr_old (by omega) (by omega), show a - OLDB = 3 + (a - OLDB - 3) by omega]
  obtain ⟨-, h2, h3, -⟩ := hS.1 (a - OLDB - 3) (by omega)
  by_cases hf0 : f = 0
  · subst hf0
    rw [if_pos rfl, tr_old (by omega) (by omega), show a + 5 - OLDB = 8 + (a - OLDB - 3) by omega] at kk
    exact vk_getf hx hb h3 hW.2.2 hown (hts _ (linkOK_in hf)) (fun _ q => q) hd kk
  · rw [if_neg hf0] at kk
    have e1 : sFld f = "coder" := if_neg hf0
    have e2 : sFldD f = "B" := if_neg hf0
    rw [e1, e2] at hf
    exact vk_getf hx hb h2 hW.2.2 hown (hts _ (linkOK_in hf)) (fun _ q => q) hd kk
theorem old_int (M : MC w p s m args meth c y) (hW : WdH w s h H locs) {a n : Nat} {f : Nat → Int32} {j : Int32} (ha : ¬ a < OLDB) (ho : oldArr w.2.2.2.2.2 (a - OLDB) = some (0, n, f)) (hin : inB j n = true) (hd : decode (mBytes y) pc = .ok (.iaload, 1))
    (kk : W p l e R s m args below meth c H locs cells slots Q (F0 m (pc + 1) ls (.int (f j.toNatClampNeg) :: st))) : W p l e R s m args below meth c H locs cells slots Q (F0 m pc ls (.int j :: tr w (.ref a) :: st)) := by
  obtain ⟨hx, hb, -, -, -, hown, -, hts, hN, hK, hO⟩ := M
  have hB := OLDB_eq
  unfold oldArr at ho
  by_cases h0 : a - OLDB = 0
  · rw [if_pos h0] at ho
    cases ho
    rw [tr_old ha (by omega), h0]
    exact va_sld hx hb hO.1 (Nat.lt_of_lt_of_le hO.2.1 hO.2.2.1) (by show ¬ w.1 ≤ _; have := hO.2.1; omega) hW.2.2 (inB_in hin) hd kk
  · rw [if_neg h0] at ho
    by_cases h1 : a - OLDB = 1
    · rw [if_pos h1] at ho
      cases ho
      rw [tr_old ha (by omega), h1]
      exact va_ti hx hb hO.2.2.2.1 hW.2.2 (inB_in hin) rfl hd kk
    · rw [if_neg h1] at ho
      by_cases h2 : a - OLDB = 2
      · rw [if_pos h2] at ho
        cases ho
        rw [tr_old ha (by omega), h2]
        exact va_ti hx hb hO.2.2.2.2.1 hW.2.2 (inB_in hin) rfl hd kk
      · rw [if_neg h2] at ho
        obtain ⟨-, ho⟩ := inv_if ho
        cases ho
theorem old_byte (M : MC w p s m args meth c y) (hW : WdH w s h H locs) {a n : Nat} {f : Nat → Int32} {j : Int32} (ha : ¬ a < OLDB) (ho : oldArr w.2.2.2.2.2 (a - OLDB) = some (5, n, f)) (hin : inB j n = true) (hd : decode (mBytes y) pc = .ok (.baload, 1))
    (kk : W p l e R s m args below meth c H locs cells slots Q (F0 m (pc + 1) ls (.int (f j.toNatClampNeg) :: st))) : W p l e R s m args below meth c H locs cells slots Q (F0 m pc ls (.int j :: tr w (.ref a) :: st)) := by
  obtain ⟨hx, hb, -, -, -, hown, -, hts, hN, hK, hO⟩ := M
  have hB := OLDB_eq
  unfold oldArr at ho
  by_cases h0 : a - OLDB = 0
  · rw [if_pos h0] at ho
    cases ho
  · rw [if_neg h0] at ho
    by_cases h1 : a - OLDB = 1
    · rw [if_pos h1] at ho
      cases ho
    · rw [if_neg h1] at ho
      by_cases h2 : a - OLDB = 2
      · rw [if_pos h2] at ho
        cases ho
      · rw [if_neg h2] at ho
        obtain ⟨h3, ho⟩ := inv_if ho
        injection ho with ho
        injection ho with e0 ho
        injection ho with e1 e2
        subst e1
        subst e2
        have hS := hO.2.2.2.2.2.2.2.2.2.1
        obtain ⟨-, -, -, h4⟩ := hS.1 (a - OLDB - 8) (by omega)
        rw [tr_old ha (by omega), show a - OLDB = 8 + (a - OLDB - 8) by omega]
        exact va_tb hx hb h4 hW.2.2 (inB_in hin) rfl hd kk
theorem old_len (M : MC w p s m args meth c y) (hW : WdH w s h H locs) {a t n : Nat} {f : Nat → Int32} (ha : ¬ a < OLDB) (ho : oldArr w.2.2.2.2.2 (a - OLDB) = some (t, n, f)) (hd : decode (mBytes y) pc = .ok (.arraylength, 1))
    (kk : W p l e R s m args below meth c H locs cells slots Q (F0 m (pc + 1) ls (.int (Int32.ofNat n) :: st))) : W p l e R s m args below meth c H locs cells slots Q (F0 m pc ls (tr w (.ref a) :: st)) := by
  obtain ⟨hx, hb, -, -, -, hown, -, hts, hN, hK, hO⟩ := M
  have hB := OLDB_eq
  unfold oldArr at ho
  by_cases h0 : a - OLDB = 0
  · rw [if_pos h0] at ho
    cases ho
    rw [tr_old ha (by omega), h0]
    exact va_slen hx hb hO.1 (Nat.lt_of_lt_of_le hO.2.1 hO.2.2.1) (by show ¬ w.1 ≤ _; have := hO.2.1; omega) hW.2.2 hd kk
  · rw [if_neg h0] at ho
    by_cases h1 : a - OLDB = 1
    · rw [if_pos h1] at ho
      cases ho
      rw [tr_old ha (by omega), h1]
      exact va_tlen hx hb hO.2.2.2.1 hW.2.2 rfl hd kk
    · rw [if_neg h1] at ho
      by_cases h2 : a - OLDB = 2
      · rw [if_pos h2] at ho
        cases ho
        rw [tr_old ha (by omega), h2]
        exact va_tlen hx hb hO.2.2.2.2.1 hW.2.2 rfl hd kk
      · rw [if_neg h2] at ho
        obtain ⟨h3, ho⟩ := inv_if ho
        injection ho with ho
        injection ho with e0 ho
        injection ho with e1 e2
        subst e1
        subst e2
        have hS := hO.2.2.2.2.2.2.2.2.2.1
        obtain ⟨-, -, -, h4⟩ := hS.1 (a - OLDB - 8) (by omega)
        rw [tr_old ha (by omega), show a - OLDB = 8 + (a - OLDB - 8) by omega]
        exact va_tlen hx hb h4 hW.2.2 rfl hd kk
theorem sta_get (M : MC w p s m args meth c y) (hW : WdH w s h H locs) {idx sid nest pl : Nat} {v : Value} (hd : decode (mBytes y) pc = .ok (.getstatic idx, 3)) (hf : staOK (mName y).cls idx sid nest pl = true)
    (hv : (sid = 0 ∧ v = .ref (OLDB + 1)) ∨ (sid = 1 ∧ v = .ref (OLDB + 2)) ∨ (sid = 2 ∧ v = .int 1) ∨ (sid = 3 ∧ v = .ref (OLDB + 13)))
    (kk : W p l e R s m args below meth c H locs cells slots Q (F0 m (pc + 3) ls (tr w v :: st))) : W p l e R s m args below meth c H locs cells slots Q (F0 m pc ls st) := by
  obtain ⟨hx, hb, -, -, -, hown, -, hts, hN, hK, hO⟩ := M
  have hB := OLDB_eq
  obtain ⟨-, -, -, -, -, hZ1, hZ2, hZ3, hZ4, -⟩ := hO
  rcases hv with ⟨rfl, rfl⟩ | ⟨rfl, rfl⟩ | ⟨rfl, rfl⟩ | ⟨rfl, rfl⟩
  · rw [tr_old (by omega) (by omega), show OLDB + 1 - OLDB = 1 by omega] at kk
    simp only [staOK] at hf
    by_cases hn : nest = 0
    · rw [if_pos hn] at hf
      exact va_gets hx hb hZ1 hW.2.2 hown (hts _ (linkOK_in hf)) (fun _ q => q) hd kk
    · rw [if_neg hn] at hf
      exact va_getsN hx hb hZ1 hW.2.2 hown (va_Nw.use rfl (hN _ (nestOK_in hf))) (fun _ q => q) hd kk
  · rw [tr_old (by omega) (by omega), show OLDB + 2 - OLDB = 2 by omega] at kk
    exact va_gets hx hb hZ2 hW.2.2 hown (hts _ (linkOK_in ((Bool.and_eq_true _ _).mp hf).2)) (fun _ q => q) hd kk
  · exact va_gets hx hb hZ3 hW.2.2 hown (hts _ (linkOK_in ((Bool.and_eq_true _ _).mp hf).2)) (fun _ q => q) hd kk
  · have e : tr w (.ref (OLDB + 13)) = w.2.2.2.2.1 := by
      show (if OLDB + 13 = OLDB + 13 then w.2.2.2.2.1 else Value.ref (wfi w (OLDB + 13))) = _
      exact if_pos rfl
    rw [e] at kk
    exact va_gets hx hb hZ4 hW.2.2 hown (hts _ (linkOK_in ((Bool.and_eq_true _ _).mp hf).2)) (fun _ q => q) hd kk
end HS
