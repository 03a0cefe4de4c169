/-! .. copies, switches; all of them. -/
section SZ
variable {X : Scr} {W : List (Nat × Nat)} {i : Instr} {o : List Nat} {pc pc' : Nat} {B : Bd} {AL Ast : List AV} {F : List (Nat × Nat × Tm)} {L st : List Value} {h : Hp} {ρ : Nat → Int} {l : List (Nat × AS)}
theorem cu_cpy {S' : AS} {idx p1 p2 p3 p4 : Nat} (g : gam ρ (B, AL, Ast, F) L st h) (hh : HI h) (hu : aCopy W (B, AL, Ast, F) = some S') : Suc X W (.invokestatic idx) [9998, p1, p2, p3, p4] pc (B, AL, Ast, F) L st h ρ [(pc + 3, S')] := by
  unfold aCopy at hu
  match Ast, g, hu with
  | n :: dp :: a :: sp :: b :: A, g, hu =>
    obtain ⟨⟨n1, d1, s1, a1, b1, n0, d0, s0, hA, ha, hb⟩, hu⟩ := inv_if hu
    cases hu
    obtain ⟨w1, t1, rfl, k1, r1⟩ := al2_cons g.2.2.1
    obtain ⟨w2, t2, rfl, k2, r2⟩ := al2_cons r1
    obtain ⟨w3, t3, rfl, k3, r3⟩ := al2_cons r2
    obtain ⟨w4, t4, rfl, k4, r4⟩ := al2_cons r3
    obtain ⟨w5, t5, rfl, k5, r5⟩ := al2_cons r4
    obtain ⟨N, rfl, hN⟩ := vm1 n1 k1
    obtain ⟨DP, rfl, hDP⟩ := vm1 d1 k2
    obtain ⟨x, rfl, hx⟩ := vm3 a1 k3
    obtain ⟨SP, rfl, hSP⟩ := vm1 s1 k4
    obtain ⟨y, rfl, hy⟩ := vm3 b1 k5
    have gN : tlo B n.2.1 ≤ N.toInt ∧ N.toInt ≤ thi B n.2.1 := tOK_rg g.1 hN
    have gD : tlo B dp.2.1 ≤ DP.toInt ∧ DP.toInt ≤ thi B dp.2.1 := tOK_rg g.1 hDP
    have gS : tlo B sp.2.1 ≤ SP.toInt ∧ SP.toInt ≤ thi B sp.2.1 := tOK_rg g.1 hSP
    have n0 : 0 ≤ tlo B n.2.1 := n0
    have d0 : 0 ≤ tlo B dp.2.1 := d0
    have s0 : 0 ≤ tlo B sp.2.1 := s0
    have qa := List.all_eq_true.mp ha x hx
    have qb := List.all_eq_true.mp hb y hy
    have hA : A = [] := by simpa using hA
    subst hA
    cases t5 with
    | cons _ _ => exact r5.elim
    | nil =>
    split at qa
    · rename_i m hm
      split at qb
      · rename_i m' hm'
        simp only [Bool.and_eq_true, decide_eq_true_eq] at qa qb
        obtain ⟨⟨⟨xo, xw⟩, xm⟩, xr⟩ := qa
        obtain ⟨yo, ym⟩ := qb
        have xr := List.all_eq_true.mp xr y hy
        have xm : thi B dp.2.1 + thi B n.2.1 ≤ (m : Int) := xm
        have ym : thi B sp.2.1 + thi B n.2.1 ≤ (m' : Int) := ym
        have zN : N.toInt.toNat = N.toNatClampNeg := Int32.toNat_toInt N
        have zD : DP.toInt.toNat = DP.toNatClampNeg := Int32.toNat_toInt DP
        have zS : SP.toInt.toNat = SP.toNatClampNeg := Int32.toNat_toInt SP
        have hz : (0 : Int32).toInt = 0 := rfl
        have pN : ¬ N < 0 := by rw [Int32.lt_iff_toInt_lt]; omega
        have pD : ¬ DP < 0 := by rw [Int32.lt_iff_toInt_lt]; omega
        have pS : ¬ SP < 0 := by rw [Int32.lt_iff_toInt_lt]; omega
        have hst : hstep X (.invokestatic idx) [9998, p1, p2, p3, p4] pc L (.int N :: .int DP :: .ref x :: .int SP :: .ref y :: []) h = some (pc + 3, L, [], (h.1, (fun z => if z = x then va_cpy (h.2.1 y) (h.2.1 x) SP.toNatClampNeg DP.toNatClampNeg N.toNatClampNeg else h.2.1 z), h.2.2.1, h.2.2.2)) := by
          show (copyA (.int N :: .int DP :: .ref x :: .int SP :: .ref y :: []) h).map _ = _
          have : copyA (.int N :: .int DP :: .ref x :: .int SP :: .ref y :: []) h = some ([], (h.1, (fun z => if z = x then va_cpy (h.2.1 y) (h.2.1 x) SP.toNatClampNeg DP.toNatClampNeg N.toNatClampNeg else h.2.1 z), h.2.2.1, h.2.2.2)) := by
            simp only [copyA]
            rw [if_pos ⟨xo, yo, pS, pD, pN, by decide⟩, hh.1, hm, hm']
            simp only
            rw [if_pos ⟨trivial, by omega, by omega⟩]
            rfl
          rw [this]
          rfl
        refine suc_wr g (h' := (h.1, (fun z => if z = x then va_cpy (h.2.1 y) (h.2.1 x) SP.toNatClampNeg DP.toNatClampNeg N.toNatClampNeg else h.2.1 z), h.2.2.1, h.2.2.2)) r5 ⟨hh.1, fun q k => ?_, hh.2.2⟩ (fun q k hq => ⟨?_, rfl, rfl⟩) (fun q hq => ⟨?_, (g.2.2.2 q hq).2⟩) hst
        · show (ivl q k).1 ≤ ((if q = x then va_cpy (h.2.1 y) (h.2.1 x) SP.toNatClampNeg DP.toNatClampNeg N.toNatClampNeg else h.2.1 q) k).toInt ∧ ((if q = x then va_cpy (h.2.1 y) (h.2.1 x) SP.toNatClampNeg DP.toNatClampNeg N.toNatClampNeg else h.2.1 q) k).toInt ≤ (ivl q k).2
          by_cases e : q = x
          · subst e
            rw [if_pos rfl]
            unfold va_cpy
            split
            · have h1 := hh.2.1 y (SP.toNatClampNeg + (k - DP.toNatClampNeg))
              rw [ivl_arr hm'] at h1
              rw [ivl_arr hm]
              exact rng_ok xr h1.1 h1.2
            · exact hh.2.1 q k
          · rw [if_neg e]
            exact hh.2.1 q k
        · show (if q = x then va_cpy (h.2.1 y) (h.2.1 x) SP.toNatClampNeg DP.toNatClampNeg N.toNatClampNeg else h.2.1 q) k = h.2.1 q k
          rw [if_neg]
          intro e
          rw [e, inW_arr xw] at hq
          cases hq
        · show tOK B.length ρ q.2.2 ((if q.1 = x then va_cpy (h.2.1 y) (h.2.1 x) SP.toNatClampNeg DP.toNatClampNeg N.toNatClampNeg else h.2.1 q.1) q.2.1).toInt
          rw [if_neg]
          · exact (g.2.2.2 q hq).1
          · intro e
            exact objF_ne (j := q.2.1) (g.2.2.2 q hq).2 hm ⟨e, rfl⟩
      · cases qb
    · cases qa
  | [], _, hu => cases hu
  | [_], _, hu => cases hu
  | [_, _], _, hu => cases hu
  | [_, _, _], _, hu => cases hu
  | [_, _, _, _], _, hu => cases hu
theorem lk_off : ∀ (ps : List (Int × Int)) (d k : Int), (∃ q ∈ ps, q.1 = k ∧ Op.lookupswitch.offset ps d k = q.2) ∨ ((∀ q ∈ ps, ¬ q.1 = k) ∧ Op.lookupswitch.offset ps d k = d)
  | [], d, k => Or.inr ⟨fun q h => (by cases h), rfl⟩
  | (a, b) :: ps, d, k => by
    have e : Op.lookupswitch.offset ((a, b) :: ps) d k = if a = k then b else Op.lookupswitch.offset ps d k := rfl
    by_cases h : a = k
    · rw [if_pos h] at e
      exact Or.inl ⟨(a, b), List.mem_cons_self, h, e⟩
    · rw [if_neg h] at e
      rcases lk_off ps d k with ⟨q, q1, q2, q3⟩ | ⟨q1, q2⟩
      · exact Or.inl ⟨q, List.mem_cons_of_mem _ q1, q2, e.trans q3⟩
      · refine Or.inr ⟨fun q hq => ?_, e.trans q2⟩
        rcases List.mem_cons.mp hq with rfl | hq
        · exact h
        · exact q1 q hq
theorem suc_rf (g : gam ρ (B, AL, Ast, F) L st h) (hh : HI h) {A : List AV} {st2 : List Value} (hr : al2 (vm B.length ρ) A st2) {B' : Bd} (b : bOK ρ B') (n : B'.length = B.length) (hm : (pc', B', AL, A, F) ∈ l) (hs : hstep X i o pc L st h = some (pc', L, st2, h)) : Suc X W i o pc (B, AL, Ast, F) L st h ρ l := by
  have g2 := gam_ext (B := B) (B' := B') (AL := AL) (Ast := A) (F := F) (st := st2) ⟨g.1, g.2.1, hr, g.2.2.2⟩ b (Nat.le_of_eq n.symm) ext_refl
  exact suc_one hh hm hs g2 ext_refl (Nat.le_of_eq n.symm) rfl
theorem cu_tsw {dflt lo hi : Int} {offs : Array Int} (g : gam ρ (B, AL, Ast, F) L st h) (hh : HI h) (hu : asuc W (.tableswitch dflt lo hi offs) o pc (B, AL, Ast, F) = some l) : Suc X W (.tableswitch dflt lo hi offs) o pc (B, AL, Ast, F) L st h ρ l := by
  simp only [asuc] at hu
  cases Ast with
  | nil => cases hu
  | cons a A =>
    obtain ⟨h1, hu⟩ := inv_if hu
    split at hu
    · rename_i d hd
      obtain ⟨⟨h2, h3⟩, hu⟩ := inv_if hu
      cases hu
      obtain ⟨x, st2, rfl, hx, hr⟩ := one1 g rfl h1
      by_cases ho : x.toInt < lo ∨ hi < x.toInt
      · have hs : hstep X (.tableswitch dflt lo hi offs) o pc L (.int x :: st2) h = some (d, L, st2, h) := by
          show (if x.toInt < lo ∨ hi < x.toInt then (jump pc dflt).map (fun t => (t, L, st2)) else _).map _ = _
          rw [if_pos ho, hd]
          rfl
        rcases ho with ho | ho
        · obtain ⟨B', e, b, n⟩ := refn_ok (lo := -BIGI) (hi := lo - 1) g.1 hx (sm32 x).1 (by omega)
          exact suc_rf g hh hr b n (List.mem_append_left _ (List.mem_map.mpr ⟨B', by rw [show refn (B, AL, a :: A, F).1 a.2.1 (-BIGI) (lo - 1) = some B' from e]; simp, rfl⟩)) hs
        · obtain ⟨B', e, b, n⟩ := refn_ok (lo := hi + 1) (hi := BIGI) g.1 hx (by omega) (sm32 x).2
          exact suc_rf g hh hr b n (List.mem_append_right _ (List.mem_append_left _ (List.mem_map.mpr ⟨B', by rw [show refn (B, AL, a :: A, F).1 a.2.1 (hi + 1) BIGI = some B' from e]; simp, rfl⟩))) hs
      · have hlt : (x.toInt - lo).toNat < offs.size := by omega
        have hj := List.all_eq_true.mp h2 (x.toInt - lo).toNat (List.mem_range.mpr hlt)
        obtain ⟨t, ht⟩ := Option.isSome_iff_exists.mp hj
        have hof : offs[(x.toInt - lo).toNat]? = some (offs.getD (x.toInt - lo).toNat 0) := by
          simp [hlt]
        have hs : hstep X (.tableswitch dflt lo hi offs) o pc L (.int x :: st2) h = some (t, L, st2, h) := by
          show (if x.toInt < lo ∨ hi < x.toInt then _ else (match offs[(x.toInt - lo).toNat]? with | some off => (jump pc off).map (fun t => (t, L, st2)) | none => none)).map _ = _
          rw [if_neg ho, hof]
          simp only
          rw [ht]
          rfl
        obtain ⟨B', e, b, n⟩ := refn_ok (lo := lo + ((x.toInt - lo).toNat : Int)) (hi := lo + ((x.toInt - lo).toNat : Int)) g.1 hx (by omega) (by omega)
        refine suc_rf g hh hr b n (List.mem_append_right _ (List.mem_append_right _ (List.mem_flatten.mpr ⟨_, List.mem_map.mpr ⟨(x.toInt - lo).toNat, List.mem_range.mpr hlt, rfl⟩, List.mem_map.mpr ⟨B', ?_, ?_⟩⟩))) hs
        · rw [show refn (B, AL, a :: A, F).1 a.2.1 (lo + ((x.toInt - lo).toNat : Int)) (lo + ((x.toInt - lo).toNat : Int)) = some B' from e]
          simp
        · rw [ht]
          rfl
    · cases hu
theorem cu_lsw {dflt : Int} {ps : Array (Int × Int)} (g : gam ρ (B, AL, Ast, F) L st h) (hh : HI h) (hu : asuc W (.lookupswitch dflt ps) o pc (B, AL, Ast, F) = some l) : Suc X W (.lookupswitch dflt ps) o pc (B, AL, Ast, F) L st h ρ l := by
  simp only [asuc] at hu
  cases Ast with
  | nil => cases hu
  | cons a A =>
    obtain ⟨⟨h1, hso⟩, hu⟩ := inv_if hu
    split at hu
    · rename_i d hd
      obtain ⟨h2, hu⟩ := inv_if hu
      have hu := Option.some.inj hu
      obtain ⟨x, st2, rfl, hx, hr⟩ := one1 g rfl h1
      have hs : ∀ t, jump pc (Op.lookupswitch.offset ps.toList dflt x.toInt) = some t → hstep X (.lookupswitch dflt ps) o pc L (.int x :: st2) h = some (t, L, st2, h) := by
        intro t ht
        show (if (ps.toList.zip (ps.toList.drop 1)).all (fun (a, next) => a.1 < next.1) = true then (jump pc (Op.lookupswitch.offset ps.toList dflt x.toInt)).map (fun t => (t, L, st2)) else none).map _ = _
        rw [if_pos hso, ht]
        rfl
      rcases lk_off ps.toList dflt x.toInt with ⟨q, q1, q2, q3⟩ | ⟨q1, q2⟩
      · obtain ⟨t, ht⟩ := Option.isSome_iff_exists.mp (List.all_eq_true.mp h2 q q1)
        obtain ⟨B', e, b, n⟩ := refn_ok (lo := q.1) (hi := q.1) g.1 hx (by omega) (by omega)
        refine suc_rf g hh hr b n ?_ (hs t (by rw [q3]; exact ht))
        rw [← hu]
        refine List.mem_append_right _ (List.mem_flatten.mpr ⟨_, List.mem_map.mpr ⟨q, q1, rfl⟩, List.mem_map.mpr ⟨B', ?_, ?_⟩⟩)
        · rw [show refn (B, AL, a :: A, F).1 a.2.1 q.1 q.1 = some B' from e]
          simp
        · rw [ht]
          rfl
      · refine suc_rf g hh hr g.1 rfl ?_ (hs d (by rw [q2]; exact hd))
        rw [← hu]
        refine List.mem_append_left _ ?_
        rw [if_neg]
        · exact List.mem_singleton.mpr rfl
        · rintro ⟨e1, e2⟩
          obtain ⟨q, m1, m2⟩ := List.any_eq_true.mp e2
          have rx : tlo B a.2.1 ≤ x.toInt ∧ x.toInt ≤ thi B a.2.1 := tOK_rg g.1 hx
          refine q1 q m1 ((of_decide_eq_true m2).trans ?_)
          have e1 : tlo B a.2.1 = thi B a.2.1 := e1
          show tlo B a.2.1 = x.toInt
          omega
    · cases hu
theorem cu_dfl (g : gam ρ (B, AL, Ast, F) L st h) (hh : HI h) (hu : (match (generalizing := false) Ast with
    | b :: a :: st => if a.1 = 1 ∧ b.1 = 1 then (match aBin i (trg B a.2.1) (trg B b.2.1) with
        | some r => some [(pc + 1, pushI (B, AL, Ast, F) st r)]
        | none => (match aUn i with | some r => some [(pc + 1, pushI (B, AL, Ast, F) (a :: st) r)] | none => none))
      else if a.1 = 2 ∧ b.1 = 2 ∧ aBinL i = true then some [(pc + 1, pushL (B, AL, Ast, F) st fL)]
      else if a.1 = 2 ∧ b.1 = 1 ∧ aSh i = true then some [(pc + 1, pushL (B, AL, Ast, F) st fL)]
      else if b.1 = 1 then (match aUn i with | some r => some [(pc + 1, pushI (B, AL, Ast, F) (a :: st) r)] | none => none) else none
    | b :: st => if b.1 = 1 then (match aUn i with | some r => some [(pc + 1, pushI (B, AL, Ast, F) st r)] | none => none) else none
    | _ => none) = some l) : Suc X W i o pc (B, AL, Ast, F) L st h ρ l := by
  have un : ∀ (b : AV) (A : List AV), Ast = b :: A → b.1 = 1 → (match aUn i with | some r => some [(pc + 1, pushI (B, AL, Ast, F) A r)] | none => none) = some l → Suc X W i o pc (B, AL, Ast, F) L st h ρ l := by
    intro b A hA hb hu
    cases e : aUn i with
    | none => rw [e] at hu; cases hu
    | some r =>
      rw [e] at hu
      cases hu
      obtain ⟨x, st2, rfl, hx, hr⟩ := one1 g hA hb
      obtain ⟨z, hs, z1, z2⟩ := aUn_ok (X := X) (o := o) (pc := pc) (L := L) (st := st2) (h := h) (x := x) e
      exact suc_new g hh hr z1 z2 hs
  match Ast, g, hu, un with
  | b :: a :: A, g, hu, un =>
    by_cases c1 : a.1 = 1 ∧ b.1 = 1
    · have hu := (if_pos c1).symm.trans hu
      cases e : aBin i (trg B a.2.1) (trg B b.2.1) with
      | none =>
        rw [e] at hu
        exact un b (a :: A) rfl c1.2 hu
      | some r =>
        rw [e] at hu
        cases hu
        obtain ⟨x, y, st2, rfl, hx, hy, hr⟩ := two1 g rfl c1.1 c1.2
        have rx := tOK_rg g.1 hx
        have ry := tOK_rg g.1 hy
        obtain ⟨z, hs, z1, z2⟩ := aBin_ok (X := X) (o := o) (pc := pc) (L := L) (st := st2) (h := h) (x := x) (y := y) e rx.1 rx.2 ry.1 ry.2
        exact suc_new g hh hr z1 z2 hs
    · have hu := (if_neg c1).symm.trans hu
      by_cases c2 : a.1 = 2 ∧ b.1 = 2 ∧ aBinL i = true
      · have hu := (if_pos c2).symm.trans hu
        cases hu
        obtain ⟨x, y, st2, rfl, hx, hy, hr⟩ := two2 g rfl c2.1 c2.2.1
        obtain ⟨z, hs⟩ := aBinL_ok (X := X) (o := o) (pc := pc) (L := L) (st := st2) (h := h) (x := x) (y := y) c2.2.2
        exact suc_newL g hh hr hs
      · have hu := (if_neg c2).symm.trans hu
        by_cases c3 : a.1 = 2 ∧ b.1 = 1 ∧ aSh i = true
        · have hu := (if_pos c3).symm.trans hu
          cases hu
          obtain ⟨w, s1, rfl, hw, hr1⟩ := al2_cons g.2.2.1
          obtain ⟨w2, s2, rfl, hw2, hr⟩ := al2_cons hr1
          obtain ⟨y, rfl, -⟩ := vm1 c3.2.1 hw
          obtain ⟨x, rfl, -⟩ := vm2 c3.1 hw2
          obtain ⟨z, hs⟩ := aSh_ok (X := X) (o := o) (pc := pc) (L := L) (st := s2) (h := h) (x := x) (y := y) c3.2.2
          exact suc_newL g hh hr hs
        · have hu := (if_neg c3).symm.trans hu
          obtain ⟨c4, hu⟩ := inv_if hu
          exact un b (a :: A) rfl c4 hu
  | [b], g, hu, un =>
    obtain ⟨c4, hu⟩ := inv_if hu
    exact un b [] rfl c4 hu
  | [], g, hu, un => cases hu
end SZ
