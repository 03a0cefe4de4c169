/-! A run of the law on the pure machine, from its entry to its return of 1, is the law's walk. -/
theorem mB0 : mBytes 0 = code := rfl
theorem mR0 : mRet 0 = ret := rfl
theorem mM0 : mMaxL 0 = 4 := rfl
theorem mN0 : (mName 0).cls = R_law ∧ (mName 0).name ≠ "<init>" := ⟨rfl, by decide +kernel⟩
theorem lR0 : ret = some .boolean := rfl
def lL0 : List Value := [.ref OLDB, .retAddr 0, .retAddr 0, .retAddr 0]
set_option maxHeartbeats 4000000 in
theorem law_sound {p : Program} {e : Env} {s : State} {m : MethodId} {below : List Frame} {meth : Method} {c : Code} (l : Launch) {b L : Nat} {xs : Nat → Int32} (C0 : lw_At p s m meth c b L xs) {n dp : Nat} {h' : Hp} (hr : run (L, xs) n dp 0 0 lL0 [] hp0 = some (some (.int 1), h')) (hdp : dp ≤ 1000) (hc : h'.1.length ≤ 600000) (hs : slotS h'.1 ≤ 7302250) :
    W p l e room_1 s m #[Value.ref b] below meth c s.heap [] 0 0 (lw_Z below #[Value.ref b] s) (entryFrame m ([Value.ref b] : List Value).toArray 4) := by
  obtain ⟨hx, hb, hrt, hml, hown, hts, hX, hbl, hlocks, hgv⟩ := id C0
  obtain ⟨o, z, ho, hO⟩ := old_tbl hts hX hbl hgv
  have hbg := own_tbl s hts
  obtain ⟨D, cA, hK⟩ := kn_tbl s hbg (va_AO.of (hts (.arrayOver (.object RX5)) (by decide +kernel))) (hts (.arrayOver (.array .long)) (by decide +kernel))
  have hO := hO D cA
  have hK := hK s.heap.size o z (L, xs)
  generalize hw : ((s.heap.size, D, cA, o, z, (L, xs)) : WC) = w at hO hK
  have hwb : w.1 = s.heap.size := by rw [← hw]
  have hwX : w.2.2.2.2.2 = (L, xs) := by rw [← hw]
  have hwo : w.2.2.2.1 0 = b := by rw [← hw]; exact ho
  have hwD : w.2.1 = D := by rw [← hw]
  rw [← hwX] at hr
  have htr : tr w (.ref OLDB) = .ref b := by
    have hB := OLDB_eq
    show (if OLDB = OLDB + 13 then w.2.2.2.2.1 else .ref (wfi w OLDB)) = .ref b
    rw [if_neg (by omega)]
    unfold wfi
    rw [if_neg (Nat.lt_irrefl _), Nat.sub_self, hwo]
  have M : MC w p s m #[Value.ref b] meth c 0 := ⟨hx, by rw [hb, mB0], by rw [hrt, mR0], hlocks, by rw [hml, mM0], by rw [mN0.1]; exact hown, fun q => absurd q mN0.2, hbg, nest_tbl s hts, by rw [hwD]; exact hK, hO⟩
  have hWd : WdH w s hp0 s.heap [] := ⟨by rw [hwb]; rfl, by intro k q hq; exact absurd hq (by simp [wsH, hp0]), va_S.rf⟩
  have hl := entL_has (w := w) hO.zc [.ref OLDB] (n := 4) (by decide)
  rw [lg_entry_eq]
  rw [show [Value.ref OLDB].map (tr w) = [Value.ref b] by rw [List.map_cons, htr]; rfl] at hl
  refine run_sound w l n dp 0 0 lL0 [] hp0 (some (.int 1)) h' hr (by decide) rfl p e room_1 s m #[Value.ref b] below meth c s.heap [] 0 0 _ _ 0 0 M ⟨by show 2 * dp + 2 ≤ 2048; omega, by show 64 * dp + 200 ≤ 84000; omega⟩ hWd hl rfl rfl (by rw [Nat.zero_add]; exact hc) (by rw [Nat.zero_add]; exact hs) ?_
  intro pc len i o' ls H locs cells slots st hdec hlen hret hW hcc hss
  unfold retO at hret
  split at hret
  · replace hret := Option.some.inj hret
    unfold retI at hret
    split at hret
    · rename_i x
      split at hret
      · obtain ⟨-, hret⟩ := inv_if hret
        cases hret
        have hd := dl hdec hlen (n := 0) rfl
        rw [mB0] at hd
        have hQ := lw_ret (p := p) (l := l) (e := e) (s := s) (m := m) (below := below) (meth := meth) (c := c) (b := b) hx hb hrt hlocks (pc := pc) (H := H) (ls := ls) hd
        refine va_forget (fun q hq => ?_) ?_
        · have := hW.2.2.2.2 q hq
          rw [← hwb]
          exact this
        · exact W.widen (k := 600000) (n := 7302250) (by omega) (by omega) hQ
      · cases hret
    · cases hret
  · replace hret := Option.some.inj hret
    unfold retL at hret
    split at hret
    · obtain ⟨-, hret⟩ := inv_if hret
      cases hret
    · cases hret
  · replace hret := Option.some.inj hret
    unfold retV at hret
    split at hret
    · obtain ⟨-, hret⟩ := inv_if hret
      cases hret
    · cases hret
  · cases hret
