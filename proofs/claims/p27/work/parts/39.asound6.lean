theorem lg_cmp_sgn (x y : Int64) : lg_cmp x y = sgn x.toInt y.toInt := by
  unfold lg_cmp sgn
  rcases Int.lt_trichotomy x.toInt y.toInt with h | h | h
  · have h1 : ¬ x > y := fun q => by have := Int64.lt_iff_toInt_lt.mp q; omega
    have h2 : ¬ x = y := fun q => by rw [q] at h; omega
    rw [if_neg h1, if_neg h2, if_pos h]
  · have h2 : x = y := Int64.toInt.inj h
    subst h2
    have h1 : ¬ x > x := fun q => by have := Int64.lt_iff_toInt_lt.mp q; omega
    rw [if_neg h1, if_pos rfl, if_neg (by omega), if_pos rfl]
  · have h1 : x > y := Int64.lt_iff_toInt_lt.mpr h
    rw [if_pos h1, if_neg (by omega), if_neg (by omega)]
set_option maxHeartbeats 4000000 in
/-- what may follow an instruction is what the interval machine says -/
theorem asuc_sound {X : Scr} {W : List (Nat × Nat)} {i : Instr} {o : List Nat} {pc : Nat} {S : AS} {L st : List Value} {h : Hp} {ρ : Nat → Int} {l : List (Nat × AS)} (g : gam ρ S L st h) (hh : HI h) (hu : asuc W i o pc S = some l) : Suc X W i o pc S L st h ρ l := by
  obtain ⟨B, AL, Ast, F⟩ := S
  cases i with
  | iconst k => cases hu; exact suc_push g hh g.2.2.1 ⟨_, rfl, tOK_c _⟩ rfl
  | bipush k => cases hu; exact suc_push g hh g.2.2.1 ⟨_, rfl, tOK_c _⟩ rfl
  | sipush k => cases hu; exact suc_push g hh g.2.2.1 ⟨_, rfl, tOK_c _⟩ rfl
  | lconst k => cases hu; exact suc_push g hh g.2.2.1 ⟨_, rfl, tOK_c _⟩ rfl
  | ldc idx =>
    simp only [asuc] at hu
    split at hu
    · cases hu
      exact suc_push g hh g.2.2.1 (v := .int _) ⟨_, rfl, tOK_c _⟩ rfl
    · rename_i j x
      obtain ⟨hj, hu⟩ := inv_if hu
      cases hu
      refine suc_push g hh g.2.2.1 (v := .ref (OLDB + 3 + j)) ⟨_, rfl, List.mem_singleton.mpr rfl⟩ ?_
      show (if j < 5 then some (pc + 2, L, Value.ref (OLDB + 3 + j) :: st) else none).map _ = _
      rw [if_pos hj]
      rfl
    · cases hu
  | ldc_w idx =>
    simp only [asuc] at hu
    split at hu
    · cases hu
      exact suc_push g hh g.2.2.1 (v := .int _) ⟨_, rfl, tOK_c _⟩ rfl
    · cases hu
  | ldc2_w idx =>
    simp only [asuc] at hu
    split at hu
    · cases hu
      exact suc_push g hh g.2.2.1 (v := .long _) ⟨_, rfl, tOK_c _⟩ rfl
    · cases hu
  | iload k => exact cu_load1 g hh hu (fun x e => by show (match L[k]? with | some (.int x) => some (pc + 2, L, Value.int x :: st) | _ => none).map _ = _; rw [e]; rfl)
  | iload_n k => exact cu_load1 g hh hu (fun x e => by show (match L[(k : Nat)]? with | some (.int x) => some (pc + 1, L, Value.int x :: st) | _ => none).map _ = _; rw [e]; rfl)
  | lload k => exact cu_load2 g hh hu (fun x e => by show (match L[k]? with | some (.long x) => some (pc + 2, L, Value.long x :: st) | _ => none).map _ = _; rw [e]; rfl)
  | lload_n k => exact cu_load2 g hh hu (fun x e => by show (match L[(k : Nat)]? with | some (.long x) => some (pc + 1, L, Value.long x :: st) | _ => none).map _ = _; rw [e]; rfl)
  | aload k => exact cu_load3 g hh hu (fun x e hx => by show (match L[k]? with | some (.ref x) => if x = OLDB + 13 then none else some (pc + 2, L, Value.ref x :: st) | _ => none).map _ = _; rw [e]; simp only; rw [if_neg hx]; rfl)
  | aload_n k => exact cu_load3 g hh hu (fun x e hx => by show (match L[(k : Nat)]? with | some (.ref x) => if x = OLDB + 13 then none else some (pc + 1, L, Value.ref x :: st) | _ => none).map _ = _; rw [e]; simp only; rw [if_neg hx]; rfl)
  | istore k => exact cu_sto1 g hh hu (fun x st2 e hk => by subst e; show (if k < L.length ∧ okSt L k = true then some (pc + 2, L.set k (.int x), st2) else none).map _ = _; rw [if_pos hk]; rfl)
  | istore_n k => exact cu_sto1 g hh hu (fun x st2 e hk => by subst e; show (if (k : Nat) < L.length ∧ okSt L k = true then some (pc + 1, L.set k (.int x), st2) else none).map _ = _; rw [if_pos hk]; rfl)
  | lstore k => exact cu_sto2 g hh hu (fun x st2 e hk => by subst e; show (if k + 1 < L.length ∧ okSt L k = true then some (pc + 2, (L.set k (.long x)).set (k + 1) (.retAddr 0), st2) else none).map _ = _; rw [if_pos hk]; rfl)
  | lstore_n k => exact cu_sto2 g hh hu (fun x st2 e hk => by subst e; show (if (k : Nat) + 1 < L.length ∧ okSt L k = true then some (pc + 1, (L.set k (.long x)).set (k + 1) (.retAddr 0), st2) else none).map _ = _; rw [if_pos hk]; rfl)
  | astore_n k => exact cu_sto3 g hh hu (fun x st2 e hk => by subst e; show (if (k : Nat) < L.length ∧ okSt L k = true ∧ ¬ x = OLDB + 13 then some (pc + 1, L.set k (.ref x), st2) else none).map _ = _; rw [if_pos hk]; rfl)
  | iinc k n =>
    simp only [asuc] at hu
    split at hu
    · rename_i a ha
      obtain ⟨⟨h1, h2⟩, hu⟩ := inv_if hu
      cases hu
      obtain ⟨v, e, hv⟩ := al2_get g.2.1 ha
      obtain ⟨x, rfl, hx⟩ := vm1 h1 hv
      obtain ⟨ρ', e', b, t, nn⟩ := addI_ok (y := Int32.ofInt n) g.1 hx (tOK_c (Int32.ofInt n).toInt)
      have g2 := gam_ext (AL := AL) (Ast := Ast) (F := F) (st := st) g b nn e'
      refine suc_one hh (L' := L.set k (.int (x + Int32.ofInt n))) (List.mem_singleton.mpr rfl) ?_ ⟨g2.1, al2_set g2.2.1 ⟨_, rfl, t⟩, g2.2.2.1, g2.2.2.2⟩ e' nn (List.length_set ..)
      show (match L[k]? with | some (.int x) => if okSt L k = true then some (pc + 3, L.set k (.int (x + Int32.ofInt n)), st) else none | _ => none).map _ = _
      rw [e]
      simp only
      rw [if_pos (aOk_ok g.2.1 h2)]
      rfl
    · cases hu
  | iadd =>
    simp only [asuc] at hu
    match Ast, g, hu with
    | b :: a :: A, g, hu =>
      obtain ⟨⟨h1, h2⟩, hu⟩ := inv_if hu
      cases hu
      obtain ⟨x, y, st2, rfl, hx, hy, hr⟩ := two1 g rfl h1 h2
      exact suc_tm g hh hr (addI_ok g.1 hx hy) rfl
    | [_], _, hu => cases hu
    | [], _, hu => cases hu
  | isub =>
    simp only [asuc] at hu
    match Ast, g, hu with
    | b :: a :: A, g, hu =>
      obtain ⟨⟨h1, h2⟩, hu⟩ := inv_if hu
      cases hu
      obtain ⟨x, y, st2, rfl, hx, hy, hr⟩ := two1 g rfl h1 h2
      exact suc_tm g hh hr (subI_ok g.1 hx hy) rfl
    | [_], _, hu => cases hu
    | [], _, hu => cases hu
  | ladd =>
    simp only [asuc] at hu
    match Ast, g, hu with
    | b :: a :: A, g, hu =>
      obtain ⟨⟨h1, h2⟩, hu⟩ := inv_if hu
      cases hu
      obtain ⟨x, y, st2, rfl, hx, hy, hr⟩ := two2 g rfl h1 h2
      exact suc_tmL g hh hr (addL_ok g.1 hx hy) rfl
    | [_], _, hu => cases hu
    | [], _, hu => cases hu
  | lsub =>
    simp only [asuc] at hu
    match Ast, g, hu with
    | b :: a :: A, g, hu =>
      obtain ⟨⟨h1, h2⟩, hu⟩ := inv_if hu
      cases hu
      obtain ⟨x, y, st2, rfl, hx, hy, hr⟩ := two2 g rfl h1 h2
      exact suc_tmL g hh hr (subL_ok g.1 hx hy) rfl
    | [_], _, hu => cases hu
    | [], _, hu => cases hu
  | lcmp =>
    simp only [asuc] at hu
    match Ast, g, hu with
    | b :: a :: A, g, hu =>
      obtain ⟨⟨h1, h2⟩, hu⟩ := inv_if hu
      cases hu
      obtain ⟨x, y, st2, rfl, hx, hy, hr⟩ := two2 g rfl h1 h2
      refine suc_push g hh (v := .int (lg_cmp x y)) hr ⟨x, y, congrArg Value.int (lg_cmp_sgn x y), hx, hy⟩ rfl
    | [_], _, hu => cases hu
    | [], _, hu => cases hu
  | i2l =>
    simp only [asuc] at hu
    cases Ast with
    | nil => cases hu
    | cons a A =>
      obtain ⟨h1, hu⟩ := inv_if hu
      cases hu
      obtain ⟨x, st2, rfl, hx, hr⟩ := one1 g rfl h1
      exact suc_push g hh (v := .long x.toInt64) hr ⟨_, rfl, by rw [Int32.toInt_toInt64]; exact hx⟩ rfl
  | l2i =>
    simp only [asuc] at hu
    cases Ast with
    | nil => cases hu
    | cons a A =>
      obtain ⟨h1, hu⟩ := inv_if hu
      obtain ⟨x, st2, rfl, hx, hr⟩ := one2 g rfl h1
      have rx : tlo B a.2.1 ≤ x.toInt ∧ x.toInt ≤ thi B a.2.1 := tOK_rg g.1 hx
      by_cases hc : rngOK (trg B a.2.1) fI = true
      · rw [if_pos hc] at hu
        cases hu
        have := rng_ok hc rx.1 rx.2
        simp only [fI] at this
        exact suc_push g hh (v := .int x.toInt32) hr ⟨_, rfl, by rw [Int64.toInt_toInt32, bm32 this.1 this.2]; exact hx⟩ rfl
      · rw [if_neg hc] at hu
        cases hu
        exact suc_new g hh (z := x.toInt32) hr (i32r _).1 (i32r _).2 rfl
  | dup =>
    simp only [asuc] at hu
    cases Ast with
    | nil => cases hu
    | cons a A =>
      obtain ⟨h1, hu⟩ := inv_if hu
      cases hu
      obtain ⟨v, st2, rfl, hv, hr⟩ := al2_cons g.2.2.1
      refine suc_push g hh (st2 := v :: st2) ⟨hv, hr⟩ hv ?_
      show (if v.category = 1 then some (pc + 1, L, v :: v :: st2) else none).map _ = _
      rw [if_pos (vm_cat h1 hv)]
      rfl
  | pop =>
    simp only [asuc] at hu
    cases Ast with
    | nil => cases hu
    | cons a A =>
      obtain ⟨h1, hu⟩ := inv_if hu
      cases hu
      obtain ⟨v, st2, rfl, hv, hr⟩ := al2_cons g.2.2.1
      refine suc_one hh (List.mem_singleton.mpr rfl) ?_ ⟨g.1, g.2.1, hr, g.2.2.2⟩ ext_refl (Nat.le_refl _) rfl
      show (if v.category = 1 then some (pc + 1, L, st2) else none).map _ = _
      rw [if_pos (vm_cat h1 hv)]
      rfl
  | dup2 =>
    simp only [asuc] at hu
    match Ast, g, hu with
    | a :: b :: A, g, hu =>
      obtain ⟨⟨h1, h2⟩, hu⟩ := inv_if hu
      cases hu
      obtain ⟨v, s1, rfl, hv, hr1⟩ := al2_cons g.2.2.1
      obtain ⟨w, st2, rfl, hw, hr⟩ := al2_cons hr1
      refine suc_push g hh (st2 := w :: v :: w :: st2) ⟨hw, hv, hw, hr⟩ hv ?_
      show (if v.category = 1 ∧ w.category = 1 then some (pc + 1, L, v :: w :: v :: w :: st2) else none).map _ = _
      rw [if_pos ⟨vm_cat h1 hv, vm_cat h2 hw⟩]
      rfl
    | [_], _, hu => cases hu
    | [], _, hu => cases hu
  | pop2 =>
    simp only [asuc] at hu
    cases Ast with
    | nil => cases hu
    | cons a A =>
      obtain ⟨h1, hu⟩ := inv_if hu
      cases hu
      obtain ⟨x, st2, rfl, hx, hr⟩ := one2 g rfl h1
      exact suc_one hh (List.mem_singleton.mpr rfl) rfl ⟨g.1, g.2.1, hr, g.2.2.2⟩ ext_refl (Nat.le_refl _) rfl
  | ifCond q off =>
    simp only [asuc] at hu
    cases Ast with
    | nil => cases hu
    | cons a A =>
      simp only at hu
      split at hu
      · rename_i t ht
        have hs : ∀ (x : Int32) st2, hstep X (.ifCond q off) o pc L (.int x :: st2) h = some (if condB q x 0 = true then t else pc + 3, L, st2, h) := by
          intro x st2
          show ((jump pc off).map (fun t => (if condB q x 0 = true then t else pc + 3, L, st2))).map _ = _
          rw [ht]
          rfl
        by_cases h1 : a.1 = 1
        · rw [if_pos h1] at hu
          cases hu
          obtain ⟨x, st2, rfl, hx, hr⟩ := one1 g rfl h1
          refine suc_br g hh hr hx (tOK_c 0) (sm32 x) sm0 ?_
          rw [hs, condB_I]
          rfl
        · rw [if_neg h1] at hu
          obtain ⟨h4, hu⟩ := inv_if hu
          cases hu
          obtain ⟨v, st2, rfl, hv, hr⟩ := al2_cons g.2.2.1
          obtain ⟨x, y, rfl, hx, hy⟩ := vm4 h4 hv
          refine suc_br g hh hr hx hy (sm64 x) (sm64 y) ?_
          rw [hs, condB_sgn]
      · cases hu
  | if_icmp q off =>
    simp only [asuc] at hu
    match Ast, g, hu with
    | b :: a :: A, g, hu =>
      simp only at hu
      split at hu
      · rename_i t ht
        obtain ⟨⟨h1, h2⟩, hu⟩ := inv_if hu
        cases hu
        obtain ⟨x, y, st2, rfl, hx, hy, hr⟩ := two1 g rfl h1 h2
        refine suc_br g hh hr hx hy (sm32 x) (sm32 y) ?_
        show ((jump pc off).map (fun t => (if condB q x y = true then t else pc + 3, L, st2))).map _ = _
        rw [ht, condB_I]
        rfl
      · cases hu
    | [_], _, hu => cases hu
    | [], _, hu => cases hu
  | goto off =>
    obtain ⟨t, ht, hu⟩ := Option.map_eq_some_iff.mp (show (jump pc off).map (fun t => [(t, (B, AL, Ast, F))]) = some l from hu)
    cases hu
    refine suc_one hh (List.mem_singleton.mpr rfl) ?_ g ext_refl (Nat.le_refl _) rfl
    show ((jump pc off).map (fun t => (t, L, st))).map _ = _
    rw [ht]
    rfl
  | tableswitch dflt lo hi offs => exact cu_tsw g hh hu
  | lookupswitch dflt ps => exact cu_lsw g hh hu
  | getfield idx =>
    obtain ⟨S', h1, hu⟩ := Option.map_eq_some_iff.mp (show (aGetF o (B, AL, Ast, F)).map (fun S' => [(pc + 3, S')]) = some l from hu)
    cases hu
    exact cu_get g hh h1
  | putfield idx =>
    obtain ⟨S', h1, hu⟩ := Option.map_eq_some_iff.mp (show (aPutF W o (B, AL, Ast, F)).map (fun S' => [(pc + 3, S')]) = some l from hu)
    cases hu
    exact cu_put g hh h1
  | getstatic idx =>
    simp only [asuc] at hu
    split at hu
    · cases hu
      exact suc_push g hh (v := .ref (OLDB + 1)) g.2.2.1 ⟨_, rfl, List.mem_singleton.mpr rfl⟩ rfl
    · cases hu
      exact suc_push g hh (v := .ref (OLDB + 2)) g.2.2.1 ⟨_, rfl, List.mem_singleton.mpr rfl⟩ rfl
    · cases hu
      exact suc_push g hh (v := .int 1) g.2.2.1 ⟨_, rfl, tOK_c 1⟩ rfl
    · cases hu
      exact suc_push g hh (v := .ref (OLDB + 13)) g.2.2.1 ⟨_, rfl, List.mem_singleton.mpr rfl⟩ rfl
    · cases hu
  | arraylength =>
    simp only [asuc] at hu
    cases Ast with
    | nil => cases hu
    | cons a A =>
      obtain ⟨⟨h1, -, h3⟩, hu⟩ := inv_if hu
      cases hu
      exact cu_len g hh rfl h1 h3
  | iaload =>
    simp only [asuc] at hu
    match Ast, g, hu with
    | j :: a :: A, g, hu =>
      obtain ⟨⟨h1, h2, h3⟩, hu⟩ := inv_if hu
      cases hu
      exact cu_ild g hh rfl h1 h2 h3
    | [_], _, hu => cases hu
    | [], _, hu => cases hu
  | baload =>
    simp only [asuc] at hu
    match Ast, g, hu with
    | j :: a :: A, g, hu =>
      obtain ⟨⟨h1, h2, h3⟩, hu⟩ := inv_if hu
      cases hu
      exact cu_bld g hh rfl h1 h2 h3
    | [_], _, hu => cases hu
    | [], _, hu => cases hu
  | laload =>
    simp only [asuc] at hu
    match Ast, g, hu with
    | j :: a :: A, g, hu =>
      obtain ⟨⟨h1, h2, h3, h4⟩, hu⟩ := inv_if hu
      cases hu
      exact cu_lld g hh rfl h1 h2 h3 h4
    | [_], _, hu => cases hu
    | [], _, hu => cases hu
  | aaload =>
    simp only [asuc] at hu
    match Ast, g, hu with
    | j :: a :: A, g, hu =>
      obtain ⟨⟨h1, h2, h3, h4⟩, hu⟩ := inv_if hu
      cases hu
      rcases h3 with h3 | h3
      · exact cu_ald g hh rfl h1 h2 (Or.inl rfl) h3 h4
      · exact cu_ald g hh rfl h1 h2 (Or.inr rfl) h3 h4
    | [_], _, hu => cases hu
    | [], _, hu => cases hu
  | iastore =>
    simp only [asuc] at hu
    match Ast, g, hu with
    | x :: j :: a :: A, g, hu =>
      obtain ⟨⟨h1, h2, h3, h4, h5⟩, hu⟩ := inv_if hu
      cases hu
      exact cu_ist g hh rfl h1 h2 h3 h4 h5
    | [_, _], _, hu => cases hu
    | [_], _, hu => cases hu
    | [], _, hu => cases hu
  | bastore =>
    simp only [asuc] at hu
    match Ast, g, hu with
    | x :: j :: a :: A, g, hu =>
      obtain ⟨⟨h1, h2, h3, h4, h5, h6⟩, hu⟩ := inv_if hu
      cases hu
      exact cu_bst g hh rfl h1 h2 h3 h4 h5 h6
    | [_, _], _, hu => cases hu
    | [_], _, hu => cases hu
    | [], _, hu => cases hu
  | lastore =>
    simp only [asuc] at hu
    match Ast, g, hu with
    | x :: j :: a :: A, g, hu =>
      obtain ⟨⟨h1, h2, h3, h4, h5⟩, hu⟩ := inv_if hu
      cases hu
      exact cu_lst g hh rfl h1 h2 h3 h4 h5
    | [_, _], _, hu => cases hu
    | [_], _, hu => cases hu
    | [], _, hu => cases hu
  | invokestatic idx =>
    simp only [asuc] at hu
    split at hu
    · obtain ⟨S', h1, hu⟩ := Option.map_eq_some_iff.mp hu
      cases hu
      exact cu_cpy g hh h1
    · cases hu
  | _ => exact cu_dfl g hh hu
