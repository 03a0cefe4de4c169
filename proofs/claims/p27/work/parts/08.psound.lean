/-- the facts of one method that its instructions stand on -/
def MC (w : WC) (p : Program) (s : State) (m : MethodId) (args : Array Value) (meth : Method) (c : Code) (y : Nat) : Prop :=
  p.tables.exec = Jvm.exec ∧ c.code = mBytes y ∧ meth.sig.returnType = mRet y ∧ meth.locks = false ∧ c.maxLocals = mMaxL y ∧ s.vm.findClass (mName y).cls = some m.cls ∧ ((mName y).name = "<init>" → meth.name = "<init>") ∧
  (∀ q ∈ BIGG, q.before args s = true) ∧ NestW s ∧ va_K w.2.1 vwCl (tysW w) s ∧ OldW w s
theorem OldW.zc {w : WC} {s : State} (h : OldW w s) : w.2.2.2.2.1.category = 1 := by
  rcases h.2.2.2.2.2.2.2.2.2.2.2.2.2 with e | ⟨t, e⟩ <;> rw [e] <;> rfl
section PS
variable {w : WC} {p : Program} {l : Launch} {e : Env} {R : Room} {s : State} {m : MethodId} {args : Array Value} {below : List Frame} {meth : Method} {c : Code} {H : Heap} {locs : List Loc} {cells slots : Nat} {Q : State → Prop}
variable {y pc len : Nat} {L st L' st' : List Value} {i : Instr} {o : List Nat} {pc' : Nat} {ls : Array Slot}
set_option maxHeartbeats 4000000 in
theorem ps_sound (M : MC w p s m args meth c y) (hdec : decode (mBytes y) pc = .ok (i, len)) (hlen : ilen i = 0 ∨ ilen i = len) (hlk : lnkE y i o = true) (hl : lv_has ls (mMaxL y) (asL w L)) (hL : L.length = mMaxL y) (hps : pstep i o pc L st = some (pc', L', st'))
    (kk : ∀ ls', lv_has ls' (mMaxL y) (asL w L') → L'.length = mMaxL y → W p l e R s m args below meth c H locs cells slots Q (F0 m pc' ls' (st'.map (tr w)))) : W p l e R s m args below meth c H locs cells slots Q (F0 m pc ls (st.map (tr w))) := by
  obtain ⟨hx, hb, -, -, -, hown, -, hts, -, -, hO⟩ := M
  have hz := hO.zc
  cases i with
  | iconst k =>
    cases (show some (pc + 1, L, Value.int (Int32.ofInt k) :: st) = some (pc', L', st') from hps)
    exact lv_iconst hx hb (dl hdec hlen rfl) rfl (kk ls hl hL)
  | bipush k =>
    cases (show some (pc + 2, L, Value.int (Int8.ofInt k).toInt32 :: st) = some (pc', L', st') from hps)
    exact lv_bipush hx hb (dl hdec hlen rfl) rfl (kk ls hl hL)
  | sipush k =>
    cases (show some (pc + 3, L, Value.int (Int16.ofInt k).toInt32 :: st) = some (pc', L', st') from hps)
    exact lv_sipush hx hb (dl hdec hlen rfl) rfl (kk ls hl hL)
  | lconst k =>
    cases (show some (pc + 1, L, Value.long (Int64.ofNat (k : Nat)) :: st) = some (pc', L', st') from hps)
    exact lv_lconst hx hb (dl hdec hlen rfl) rfl (kk ls hl hL)
  | ldc k =>
    simp only [pstep] at hps
    split at hps
    · rename_i v pl
      cases hps
      exact W.ldc hx hb hown (hts _ (linkOK_in hlk)) rfl (dl hdec hlen rfl) (kk ls hl hL)
    · rename_i j pl
      obtain ⟨hj, hps⟩ := inv_if hps
      cases hps
      simp only [lnkE, Bool.and_eq_true, decide_eq_true_eq] at hlk
      obtain ⟨hc, hi⟩ := hlk
      subst hi
      have h3 := hO.2.2.2.2.2.2.2.2.2.2.1 j hj
      refine va_ldcS hx hb (own := RX4) (by rw [← hc]; exact hown) h3 (dl hdec hlen rfl) ?_
      have e : tr w (.ref (OLDB + 3 + j)) = .ref (w.2.2.2.1 (3 + j)) := by
        have hB := OLDB_eq
        have e1 : ¬ (OLDB + 3 + j = OLDB + 13) := by omega
        have e2 : ¬ (OLDB + 3 + j < OLDB) := by omega
        have e3 : OLDB + 3 + j - OLDB = 3 + j := by omega
        show (if OLDB + 3 + j = OLDB + 13 then w.2.2.2.2.1 else Value.ref (if OLDB + 3 + j < OLDB then w.1 + (OLDB + 3 + j) else w.2.2.2.1 (OLDB + 3 + j - OLDB))) = _
        rw [if_neg e1, if_neg e2, e3]
      rw [← e]
      exact kk ls hl hL
    · cases hps
  | ldc_w k =>
    simp only [pstep] at hps
    split at hps
    · rename_i v pl
      cases hps
      exact lv_ldcw hx hb hown (hts _ (linkOK_in hlk)) (dl hdec hlen rfl) (kk ls hl hL)
    · cases hps
  | ldc2_w k =>
    simp only [pstep] at hps
    split at hps
    · rename_i v pl
      cases hps
      exact lv_ldc2 hx hb hown (hts _ (linkOK_in hlk)) (dl hdec hlen rfl) (kk ls hl hL)
    · cases hps
  | iload k =>
    obtain ⟨x, hk, hps⟩ := inv_oi hps
    cases hps
    exact lv_iload hx hb (dl hdec hlen rfl) (asL_at hl hk rfl) (kk ls hl hL)
  | iload_n k =>
    obtain ⟨x, hk, hps⟩ := inv_oi hps
    cases hps
    exact lv_iload_n hx hb (dl hdec hlen rfl) rfl (asL_at hl hk rfl) (kk ls hl hL)
  | lload k =>
    obtain ⟨x, hk, hps⟩ := inv_ol hps
    cases hps
    exact lv_lload hx hb (dl hdec hlen rfl) (asL_at hl hk rfl) (kk ls hl hL)
  | lload_n k =>
    obtain ⟨x, hk, hps⟩ := inv_ol hps
    cases hps
    exact lv_lload_n hx hb (dl hdec hlen rfl) rfl (asL_at hl hk rfl) (kk ls hl hL)
  | aload k =>
    obtain ⟨x, hk, hps⟩ := inv_or hps
    obtain ⟨hn, hps⟩ := inv_ifn hps
    cases hps
    have e : tr w (.ref x) = .ref (wfi w x) := if_neg hn
    have h1 := asL_at hl hk rfl
    rw [e] at h1
    refine lv_aload hx hb (dl hdec hlen rfl) h1 ?_
    rw [← e]
    exact kk ls hl hL
  | aload_n k =>
    obtain ⟨x, hk, hps⟩ := inv_or hps
    obtain ⟨hn, hps⟩ := inv_ifn hps
    cases hps
    have e : tr w (.ref x) = .ref (wfi w x) := if_neg hn
    have h1 := asL_at hl hk rfl
    rw [e] at h1
    refine lv_aload_n hx hb (dl hdec hlen rfl) rfl h1 ?_
    rw [← e]
    exact kk ls hl hL
  | istore k =>
    obtain ⟨x, st1, rfl, hps⟩ := inv_i hps
    obtain ⟨hk, hps⟩ := inv_if hps
    cases hps
    exact lv_istore hx hb (dl hdec hlen rfl) hl (by rw [← hL]; exact hk.1) rfl (fun ls' h' => kk ls' (lv_mono h' (asL_set hz hk.2)) (by simp [hL]))
  | istore_n k =>
    obtain ⟨x, st1, rfl, hps⟩ := inv_i hps
    obtain ⟨hk, hps⟩ := inv_if hps
    cases hps
    exact lv_istore_n hx hb (dl hdec hlen rfl) rfl hl (by rw [← hL]; exact hk.1) rfl (fun ls' h' => kk ls' (lv_mono h' (asL_set hz hk.2)) (by simp [hL]))
  | lstore k =>
    obtain ⟨x, st1, rfl, hps⟩ := inv_l hps
    obtain ⟨hk, hps⟩ := inv_if hps
    cases hps
    exact lv_lstore hx hb (dl hdec hlen rfl) hl (by rw [← hL]; exact hk.1) rfl (fun ls' h' => kk ls' (lv_mono h' (asL_set2 hz hk.2)) (by simp [hL]))
  | lstore_n k =>
    obtain ⟨x, st1, rfl, hps⟩ := inv_l hps
    obtain ⟨hk, hps⟩ := inv_if hps
    cases hps
    exact lv_lstore_n hx hb (dl hdec hlen rfl) rfl hl (by rw [← hL]; exact hk.1) rfl (fun ls' h' => kk ls' (lv_mono h' (asL_set2 hz hk.2)) (by simp [hL]))
  | astore_n k =>
    obtain ⟨x, st1, rfl, hps⟩ := inv_r hps
    obtain ⟨hk, hps⟩ := inv_if hps
    cases hps
    have ee : tr w (.ref x) = .ref (wfi w x) := if_neg hk.2.2
    show W p l e R s m args below meth c H locs cells slots Q (F0 m pc ls (tr w (.ref x) :: st'.map (tr w)))
    rw [ee]
    exact lv_astore_n hx hb (dl hdec hlen rfl) rfl hl (by rw [← hL]; exact hk.1) rfl (fun ls' h' => kk ls' (lv_mono h' (by rw [← ee]; exact asL_set hz hk.2.1)) (by simp [hL]))
  | iinc k n =>
    obtain ⟨x, hk, hps⟩ := inv_oi hps
    obtain ⟨hok, hps⟩ := inv_if hps
    cases hps
    obtain ⟨q, hq⟩ := List.getElem?_of_mem (asL_mem.mpr ⟨_, hk, rfl, rfl⟩ : (k, tr w (.int x)) ∈ asL w L)
    exact lv_iinc hx hb (dl hdec hlen rfl) hl hq rfl (by rw [← hL]; exact (List.getElem?_eq_some_iff.mp hk).1) rfl (fun ls' h' => kk ls' (lv_mono h' (asL_set hz hok)) (by simp [hL]))
  | iadd =>
    obtain ⟨y1, x1, st1, rfl, hps⟩ := inv_ii hps
    cases hps
    exact lv_iadd hx hb (dl hdec hlen rfl) (kk ls hl hL)
  | isub =>
    obtain ⟨y1, x1, st1, rfl, hps⟩ := inv_ii hps
    cases hps
    exact lv_isub hx hb (dl hdec hlen rfl) (kk ls hl hL)
  | imul =>
    obtain ⟨y1, x1, st1, rfl, hps⟩ := inv_ii hps
    cases hps
    exact lv_imul hx hb (dl hdec hlen rfl) (kk ls hl hL)
  | idiv =>
    obtain ⟨y1, x1, st1, rfl, hps⟩ := inv_ii hps
    obtain ⟨hn, hps⟩ := inv_ifn hps
    cases hps
    exact lv_idiv hx hb (dl hdec hlen rfl) hn (kk ls hl hL)
  | irem =>
    obtain ⟨y1, x1, st1, rfl, hps⟩ := inv_ii hps
    obtain ⟨hn, hps⟩ := inv_ifn hps
    cases hps
    exact lv_irem hx hb (dl hdec hlen rfl) hn (kk ls hl hL)
  | ineg =>
    obtain ⟨x1, st1, rfl, hps⟩ := inv_i hps
    cases hps
    exact lv_ineg hx hb (dl hdec hlen rfl) (kk ls hl hL)
  | iand =>
    obtain ⟨y1, x1, st1, rfl, hps⟩ := inv_ii hps
    cases hps
    exact lv_iand hx hb (dl hdec hlen rfl) (kk ls hl hL)
  | ior =>
    obtain ⟨y1, x1, st1, rfl, hps⟩ := inv_ii hps
    cases hps
    exact lv_ior hx hb (dl hdec hlen rfl) (kk ls hl hL)
  | ixor =>
    obtain ⟨y1, x1, st1, rfl, hps⟩ := inv_ii hps
    cases hps
    exact lv_ixor hx hb (dl hdec hlen rfl) (kk ls hl hL)
  | ishl =>
    obtain ⟨y1, x1, st1, rfl, hps⟩ := inv_ii hps
    cases hps
    exact lv_ishl hx hb (dl hdec hlen rfl) (kk ls hl hL)
  | ishr =>
    obtain ⟨y1, x1, st1, rfl, hps⟩ := inv_ii hps
    cases hps
    exact lv_ishr hx hb (dl hdec hlen rfl) (kk ls hl hL)
  | iushr =>
    obtain ⟨y1, x1, st1, rfl, hps⟩ := inv_ii hps
    cases hps
    exact lv_iushr hx hb (dl hdec hlen rfl) rfl (kk ls hl hL)
  | ladd =>
    obtain ⟨y1, x1, st1, rfl, hps⟩ := inv_ll hps
    cases hps
    exact lv_ladd hx hb (dl hdec hlen rfl) (kk ls hl hL)
  | lsub =>
    obtain ⟨y1, x1, st1, rfl, hps⟩ := inv_ll hps
    cases hps
    exact lv_lsub hx hb (dl hdec hlen rfl) (kk ls hl hL)
  | land =>
    obtain ⟨y1, x1, st1, rfl, hps⟩ := inv_ll hps
    cases hps
    exact lv_land hx hb (dl hdec hlen rfl) (kk ls hl hL)
  | lor =>
    obtain ⟨y1, x1, st1, rfl, hps⟩ := inv_ll hps
    cases hps
    exact lv_lor hx hb (dl hdec hlen rfl) (kk ls hl hL)
  | lxor =>
    obtain ⟨y1, x1, st1, rfl, hps⟩ := inv_ll hps
    cases hps
    exact lv_lxor hx hb (dl hdec hlen rfl) (kk ls hl hL)
  | lshl =>
    obtain ⟨y1, x1, st1, rfl, hps⟩ := inv_il hps
    cases hps
    exact lv_lshl hx hb (dl hdec hlen rfl) rfl (kk ls hl hL)
  | lshr =>
    obtain ⟨y1, x1, st1, rfl, hps⟩ := inv_il hps
    cases hps
    exact lv_lshr hx hb (dl hdec hlen rfl) rfl (kk ls hl hL)
  | lcmp =>
    obtain ⟨y1, x1, st1, rfl, hps⟩ := inv_ll hps
    cases hps
    exact W.lcmp hx hb (dl hdec hlen rfl) (kk ls hl hL)
  | i2l =>
    obtain ⟨x1, st1, rfl, hps⟩ := inv_i hps
    cases hps
    exact lv_i2l hx hb (dl hdec hlen rfl) rfl (kk ls hl hL)
  | l2i =>
    obtain ⟨x1, st1, rfl, hps⟩ := inv_l hps
    cases hps
    exact lv_l2i hx hb (dl hdec hlen rfl) rfl (kk ls hl hL)
  | i2b =>
    obtain ⟨x1, st1, rfl, hps⟩ := inv_i hps
    cases hps
    exact lv_i2b hx hb (dl hdec hlen rfl) rfl (kk ls hl hL)
  | i2s =>
    obtain ⟨x1, st1, rfl, hps⟩ := inv_i hps
    cases hps
    exact lv_i2s hx hb (dl hdec hlen rfl) rfl (kk ls hl hL)
  | i2c =>
    obtain ⟨x1, st1, rfl, hps⟩ := inv_i hps
    cases hps
    exact lv_i2c hx hb (dl hdec hlen rfl) rfl (kk ls hl hL)
  | dup =>
    obtain ⟨v1, st1, rfl, hps⟩ := inv_v hps
    obtain ⟨hc, hps⟩ := inv_if hps
    cases hps
    exact lv_dup hx hb (dl hdec hlen rfl) (by rw [tr_cat hz]; exact hc) (kk ls hl hL)
  | pop =>
    obtain ⟨v1, st1, rfl, hps⟩ := inv_v hps
    obtain ⟨hc, hps⟩ := inv_if hps
    cases hps
    exact lv_pop hx hb (dl hdec hlen rfl) (by rw [tr_cat hz]; exact hc) (kk ls hl hL)
  | dup2 =>
    obtain ⟨v1, v2, st1, rfl, hps⟩ := inv_vv hps
    obtain ⟨hc, hps⟩ := inv_if hps
    cases hps
    exact lv_dup2_11 hx hb (dl hdec hlen rfl) (by rw [tr_cat hz]; exact hc.1) (by rw [tr_cat hz]; exact hc.2) (kk ls hl hL)
  | pop2 =>
    obtain ⟨v1, st1, rfl, hps⟩ := inv_v hps
    obtain ⟨hc, hps⟩ := inv_if hps
    cases hps
    exact lv_pop2_2 hx hb (dl hdec hlen rfl) (by rw [tr_cat hz]; exact hc) (kk ls hl hL)
  | ifCond q off =>
    obtain ⟨x1, st1, rfl, hps⟩ := inv_i hps
    obtain ⟨t, ht, hps⟩ := Option.map_eq_some_iff.mp hps
    have hj := jump_eq ht
    cases q
    · cases hps
      exact lv_if_eq hx hb (dl hdec hlen rfl) hj (fun h => by have := kk ls hl hL; rwa [bif_t (by simpa [condB] using h)] at this) (fun h => by have := kk ls hl hL; rwa [bif_f (by simpa [condB] using h)] at this)
    · cases hps
      exact lv_if_ne hx hb (dl hdec hlen rfl) hj (fun h => by have := kk ls hl hL; rwa [bif_t (by simpa [condB] using h)] at this) (fun h => by have := kk ls hl hL; rwa [bif_f (by simpa [condB] using h)] at this)
    · cases hps
      exact lv_if_lt hx hb (dl hdec hlen rfl) hj (fun h => by have := kk ls hl hL; rwa [bif_t (by simpa [condB] using h)] at this) (fun h => by have := kk ls hl hL; rwa [bif_f (by simpa [condB] using h)] at this)
    · cases hps
      exact lv_if_ge hx hb (dl hdec hlen rfl) hj (fun h => by have := kk ls hl hL; rwa [bif_t (by simpa [condB] using h)] at this) (fun h => by have := kk ls hl hL; rwa [bif_f (by simpa [condB] using h)] at this)
    · cases hps
      exact lv_if_gt hx hb (dl hdec hlen rfl) hj (fun h => by have := kk ls hl hL; rwa [bif_t (by simpa [condB] using h)] at this) (fun h => by have := kk ls hl hL; rwa [bif_f (by simpa [condB] using h)] at this)
    · cases hps
      exact lv_if_le hx hb (dl hdec hlen rfl) hj (fun h => by have := kk ls hl hL; rwa [bif_t (by simpa [condB] using h)] at this) (fun h => by have := kk ls hl hL; rwa [bif_f (by simpa [condB] using h)] at this)
  | if_icmp q off =>
    obtain ⟨y1, x1, st1, rfl, hps⟩ := inv_ii hps
    obtain ⟨t, ht, hps⟩ := Option.map_eq_some_iff.mp hps
    have hj := jump_eq ht
    cases q
    · cases hps
      exact lv_icmp_eq hx hb (dl hdec hlen rfl) hj (fun h => by have := kk ls hl hL; rwa [bif_t (by simpa [condB] using h)] at this) (fun h => by have := kk ls hl hL; rwa [bif_f (by simpa [condB] using h)] at this)
    · cases hps
      exact lv_icmp_ne hx hb (dl hdec hlen rfl) hj (fun h => by have := kk ls hl hL; rwa [bif_t (by simpa [condB] using h)] at this) (fun h => by have := kk ls hl hL; rwa [bif_f (by simpa [condB] using h)] at this)
    · cases hps
      exact lv_icmp_lt hx hb (dl hdec hlen rfl) hj (fun h => by have := kk ls hl hL; rwa [bif_t (by simpa [condB] using h)] at this) (fun h => by have := kk ls hl hL; rwa [bif_f (by simpa [condB] using h)] at this)
    · cases hps
      exact lv_icmp_ge hx hb (dl hdec hlen rfl) hj (fun h => by have := kk ls hl hL; rwa [bif_t (by simpa [condB] using h)] at this) (fun h => by have := kk ls hl hL; rwa [bif_f (by simpa [condB] using h)] at this)
    · cases hps
      exact lv_icmp_gt hx hb (dl hdec hlen rfl) hj (fun h => by have := kk ls hl hL; rwa [bif_t (by simpa [condB] using h)] at this) (fun h => by have := kk ls hl hL; rwa [bif_f (by simpa [condB] using h)] at this)
    · cases hps
      exact lv_icmp_le hx hb (dl hdec hlen rfl) hj (fun h => by have := kk ls hl hL; rwa [bif_t (by simpa [condB] using h)] at this) (fun h => by have := kk ls hl hL; rwa [bif_f (by simpa [condB] using h)] at this)
  | goto off =>
    obtain ⟨t, ht, hps⟩ := Option.map_eq_some_iff.mp (show (jump pc off).map (fun t => (t, L, st)) = some (pc', L', st') from hps)
    cases hps
    exact lv_goto hx hb (dl hdec hlen rfl) (jump_eq ht) (kk ls hl hL)
  | tableswitch dflt lo hi offs =>
    obtain ⟨x1, st1, rfl, hp2⟩ := inv_i hps
    clear hps
    by_cases ho : x1.toInt < lo ∨ hi < x1.toInt
    · rw [if_pos ho] at hp2
      obtain ⟨t, ht, hp2⟩ := Option.map_eq_some_iff.mp hp2
      cases hp2
      exact lv_tableOut hx hb hdec ho (jump_eq ht) (kk ls hl hL)
    · rw [if_neg ho] at hp2
      cases hof : offs[(x1.toInt - lo).toNat]? with
      | none => rw [hof] at hp2; cases hp2
      | some off =>
        rw [hof] at hp2
        obtain ⟨t, ht, hp2⟩ := Option.map_eq_some_iff.mp hp2
        cases hp2
        exact lv_tableIn hx hb hdec (fun q => ho (Or.inl q)) (fun q => ho (Or.inr q)) hof (jump_eq ht) (kk ls hl hL)
  | lookupswitch dflt ps =>
    obtain ⟨x1, st1, rfl, hps⟩ := inv_i hps
    obtain ⟨hp, hps⟩ := inv_if hps
    obtain ⟨t, ht, hps⟩ := Option.map_eq_some_iff.mp hps
    cases hps
    exact lv_lookup hx hb hdec hp rfl (jump_eq ht) (kk ls hl hL)
  | _ => exact absurd (show (none : Option (Nat × List Value × List Value)) = some (pc', L', st') from hps) (by simp)
end PS
