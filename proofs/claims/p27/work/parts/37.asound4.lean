/-! .. fields, stores, copies. -/
section SY
variable {X : Scr} {W : List (Nat × Nat)} {i : Instr} {o : List Nat} {pc pc' : Nat} {B : Bd} {AL Ast : List AV} {F : List (Nat × Nat × Tm)} {L st : List Value} {h : Hp} {ρ : Nat → Int} {l : List (Nat × AS)}
theorem gF_obj {ci k x y b : Nat} {st : List Value} {h : Hp} (hno : ∀ f x y, [ci, k, x, y] = [9, f, x, y] → False) (h1 : b < OLDB) (h2 : h.1[b]? = some (.inr ci)) (h3 : k < vwN ci) : getF [ci, k, x, y] (.ref b :: st) h = (fval h ci b k).map (· :: st) := by
  unfold getF
  split
  · rename_i f p q e
    exact (hno f x y (by cases e; rfl)).elim
  · rename_i c2 k2 p q hn e
    cases e
    show (if b < OLDB ∧ h.1[b]? = some (.inr ci) ∧ k < vwN ci then (fval h ci b k).map (· :: st) else none) = _
    rw [if_pos ⟨h1, h2, h3⟩]
  · rename_i hn
    exact (hn ci k x y rfl).elim
theorem cu_get {S' : AS} {idx : Nat} (g : gam ρ (B, AL, Ast, F) L st h) (hh : HI h) (hu : aGetF o (B, AL, Ast, F) = some S') : Suc X W (.getfield idx) o pc (B, AL, Ast, F) L st h ρ [(pc + 3, S')] := by
  unfold aGetF at hu
  split at hu
  · rename_i f x y
    cases Ast with
    | nil => cases hu
    | cons a A =>
      obtain ⟨⟨h1, h2⟩, hu⟩ := inv_if hu
      cases hu
      obtain ⟨b, st2, rfl, hb, hr⟩ := one3 g rfl h1
      have hq := List.all_eq_true.mp h2 b hb
      simp only [Bool.and_eq_true, decide_eq_true_eq] at hq
      by_cases hf : f = 0
      · rw [if_pos hf]
        refine suc_push g hh (v := .ref (b + 5)) hr ⟨b + 5, rfl, List.mem_map.mpr ⟨b, hb, rfl⟩⟩ ?_
        show (getF [9, f, x, y] (.ref b :: st2) h).map _ = _
        show (if OLDB + 3 ≤ b ∧ b < OLDB + 8 then some ((if f = 0 then Value.ref (b + 5) else .int 0) :: st2) else none).map _ = _
        rw [if_pos hq, if_pos hf]
        rfl
      · rw [if_neg hf]
        refine suc_push g hh (v := .int 0) hr ⟨0, rfl, tOK_c 0⟩ ?_
        show (getF [9, f, x, y] (.ref b :: st2) h).map _ = _
        show (if OLDB + 3 ≤ b ∧ b < OLDB + 8 then some ((if f = 0 then Value.ref (b + 5) else .int 0) :: st2) else none).map _ = _
        rw [if_pos hq, if_neg hf]
        rfl
  · rename_i ci k x y hno
    cases Ast with
    | nil => cases hu
    | cons a A =>
      obtain ⟨⟨h1, h2, h3, h4⟩, hu⟩ := inv_if hu
      obtain ⟨b, st2, rfl, hb, hr⟩ := one3 g rfl h1
      have hq := List.all_eq_true.mp h3 b hb
      simp only [Bool.and_eq_true, decide_eq_true_eq] at hq
      obtain ⟨hbo, hsh⟩ := hq
      have hg := gF_obj (x := x) (y := y) (st := st2) (h := h) (fun f p q e => hno (by cases e; rfl)) hbo (by rw [hh.1]; exact hsh) h4
      have hst : ∀ v, fval h ci b k = some v → hstep X (.getfield idx) [ci, k, x, y] pc L (.ref b :: st2) h = some (pc + 3, L, v :: st2, h) := by
        intro v hv
        show (getF [ci, k, x, y] (.ref b :: st2) h).map _ = _
        rw [hg, hv]
        rfl
      by_cases hR : isRefTy (vwTy ci k) = true
      · rw [if_pos hR] at hu
        obtain ⟨h5, hu⟩ := inv_if hu
        cases hu
        have hq := List.all_eq_true.mp h5 b hb
        simp only [Bool.and_eq_true, decide_eq_true_eq, Bool.not_eq_true', List.all_eq_true] at hq
        obtain ⟨z, z1, z2⟩ := hh.2.2 b k (fun e => by rw [e] at hq; cases hq.1)
        refine suc_push g hh (v := .ref z) hr ⟨z, rfl, List.mem_flatten.mpr ⟨_, List.mem_map.mpr ⟨b, hb, rfl⟩, z1⟩⟩ (hst _ ?_)
        unfold fval
        rw [if_pos hR, z2]
        show (if z < OLDB then some (Value.ref z) else none) = _
        rw [if_pos (hq.2 z z1)]
      · rw [if_neg hR] at hu
        have hv : fval h ci b k = some (.int (h.2.1 b k)) := by unfold fval; rw [if_neg hR]
        have hb0 := hh.2.1 b k
        split at hu
        · rename_i b' hl
          rw [hl] at hb
          cases List.mem_singleton.mp hb
          split at hu
          · rename_i t ht
            cases hu
            exact suc_push g hh (v := .int (h.2.1 b k)) hr ⟨_, rfl, (g.2.2.2 _ (fGet_in ht)).1⟩ (hst _ hv)
          · cases hu
            obtain ⟨ρ', e, bb, t, n⟩ := frT_ok g.1 hb0.1 hb0.2
            have g2 := gam_ext (AL := AL) (Ast := A) (F := F) (st := st2) (L := L) (h := h) ⟨g.1, g.2.1, hr, g.2.2.2⟩ bb n e
            refine ⟨pc + 3, _, ρ', L, _, h, List.mem_singleton.mpr rfl, hst _ hv, ⟨g2.1, g2.2.1, ⟨⟨_, rfl, t⟩, g2.2.2.1⟩, fun q hq => ?_⟩, hh, frm_refl, e, n, rfl⟩
            rcases List.mem_cons.mp hq with rfl | hq
            · exact ⟨t, ci, hsh⟩
            · exact g2.2.2.2 q hq
        · cases hu
          have hun := uni_ok (List.mem_map.mpr ⟨b, hb, rfl⟩ : ivl b k ∈ a.2.2.2.map (fun b => ivl b k))
          exact suc_tm g hh hr (frT_ok g.1 (by omega) (by omega)) (hst _ hv)
  · cases hu
theorem pF_obj {ci k x y b : Nat} {v : Value} {st : List Value} {h : Hp} (h1 : b < OLDB) (h2 : h.1[b]? = some (.inr ci)) (h3 : k < vwN ci) : putF [ci, k, x, y] (v :: .ref b :: st) h = (match v with
        | .int x => if isRefTy (vwTy ci k) then none else if isBoolTy (vwTy ci k) ∧ ¬ (x = 0 ∨ x = 1) then none else some (st, (h.1, ud h.2.1 b k x, h.2.2.1, h.2.2.2))
        | .ref b' => if isRefTy (vwTy ci k) ∧ b' < OLDB then some (st, (h.1, h.2.1, h.2.2.1, ud h.2.2.2 b k (some b'))) else none
        | _ => none) := by
  show (if b < OLDB ∧ h.1[b]? = some (.inr ci) ∧ k < vwN ci then _ else none) = _
  rw [if_pos ⟨h1, h2, h3⟩]
  cases v <;> rfl
theorem b01 {x : Int32} (h1 : 0 ≤ x.toInt) (h2 : x.toInt ≤ 1) : x = 0 ∨ x = 1 := by
  rcases (show x.toInt = 0 ∨ x.toInt = 1 by omega) with e | e
  · exact Or.inl (Int32.toInt.inj e)
  · exact Or.inr (Int32.toInt.inj e)
theorem cu_put {S' : AS} {idx : Nat} (g : gam ρ (B, AL, Ast, F) L st h) (hh : HI h) (hu : aPutF W o (B, AL, Ast, F) = some S') : Suc X W (.putfield idx) o pc (B, AL, Ast, F) L st h ρ [(pc + 3, S')] := by
  unfold aPutF at hu
  split at hu
  · rename_i ci k x y
    match Ast, g, hu with
    | v :: a :: A, g, hu =>
      obtain ⟨⟨h1, h2, h4⟩, hu⟩ := inv_if hu
      obtain ⟨v0, s1, rfl, hv0, hr1⟩ := al2_cons g.2.2.1
      obtain ⟨a0, s2, rfl, ha0, hr⟩ := al2_cons hr1
      obtain ⟨b, rfl, hb⟩ := vm3 h1 ha0
      have hq := List.all_eq_true.mp h2 b hb
      simp only [Bool.and_eq_true, decide_eq_true_eq] at hq
      obtain ⟨⟨hbo, hsh⟩, hw⟩ := hq
      have hp := fun v => pF_obj (x := x) (y := y) (v := v) (st := s2) (h := h) hbo (by rw [hh.1]; exact hsh) h4
      have hst : ∀ v q, putF [ci, k, x, y] (v :: .ref b :: s2) h = some q → hstep X (.putfield idx) [ci, k, x, y] pc L (v :: .ref b :: s2) h = some (pc + 3, L, q.1, q.2) := by
        intro v q hv
        show (putF [ci, k, x, y] (v :: .ref b :: s2) h).map _ = _
        rw [hv]
        rfl
      by_cases hv1 : v.1 = 1
      · rw [if_pos hv1] at hu
        obtain ⟨⟨h5, h6, h7⟩, hu⟩ := inv_if hu
        obtain ⟨z, rfl, hz⟩ := vm1 hv1 hv0
        have rz := tOK_rg g.1 hz
        have hi := rng_ok (List.all_eq_true.mp h6 b hb) rz.1 rz.2
        have hbb : ¬ (isBoolTy (vwTy ci k) = true ∧ ¬ (z = 0 ∨ z = 1)) := by
          rintro ⟨q1, q2⟩
          rcases h7 with h7 | h7
          · rw [q1] at h7; cases h7
          · have := rng_ok h7 rz.1 rz.2
            exact q2 (b01 this.1 this.2)
        have hst1 := hst (.int z) (s2, (h.1, ud h.2.1 b k z, h.2.2.1, h.2.2.2)) (by
          rw [hp]
          show (if isRefTy (vwTy ci k) = true then none else if isBoolTy (vwTy ci k) = true ∧ ¬ (z = 0 ∨ z = 1) then none else some (s2, (h.1, ud h.2.1 b k z, h.2.2.1, h.2.2.2))) = _
          rw [if_neg (by rw [h5]; decide), if_neg hbb])
        have hH := HI_ud (a := b) (i := k) hh hi.1 hi.2
        have hfr := frm_ud (h := h) (x := z) hw
        split at hu
        · rename_i b' hl
          cases hu
          rw [hl] at hb
          cases List.mem_singleton.mp hb
          refine suc_wr g hr hH hfr (fun q hq => ?_) hst1
          rcases List.mem_cons.mp hq with rfl | hq
          · refine ⟨?_, ci, hsh⟩
            show tOK B.length ρ v.2.1 (ud h.2.1 b k z b k).toInt
            rw [udS]
            exact hz
          · obtain ⟨q1, q2⟩ := fDel_in hq
            refine ⟨?_, (g.2.2.2 q q1).2⟩
            show tOK B.length ρ q.2.2 (ud h.2.1 b k z q.1 q.2.1).toInt
            rw [udN q2]
            exact (g.2.2.2 q q1).1
        · cases hu
          refine suc_wr g hr hH hfr (fun q hq => ?_) hst1
          obtain ⟨q1, q2⟩ := fDels_in hq
          refine ⟨?_, (g.2.2.2 q q1).2⟩
          show tOK B.length ρ q.2.2 (ud h.2.1 b k z q.1 q.2.1).toInt
          rw [udN (q2 b hb)]
          exact (g.2.2.2 q q1).1
      · rw [if_neg hv1] at hu
        obtain ⟨hv3, hu⟩ := inv_if hu
        obtain ⟨⟨h5, h6⟩, hu⟩ := inv_if hu
        cases hu
        obtain ⟨z, rfl, hz⟩ := vm3 hv3 hv0
        have hq := List.all_eq_true.mp h6 z hz
        simp only [Bool.and_eq_true, decide_eq_true_eq, List.all_eq_true] at hq
        have hin : z ∈ rst b k := by simpa using hq.2 b hb
        have hst1 := hst (.ref z) (s2, (h.1, h.2.1, h.2.2.1, ud h.2.2.2 b k (some z))) (by
          rw [hp]
          show (if isRefTy (vwTy ci k) = true ∧ z < OLDB then some (s2, (h.1, h.2.1, h.2.2.1, ud h.2.2.2 b k (some z))) else none) = _
          rw [if_pos ⟨h5, hq.1⟩])
        exact suc_wr g hr (HI_R hh hin) (frm_udR hw) (fun q hq => g.2.2.2 q hq) hst1
    | [], _, hu => cases hu
    | [_], _, hu => cases hu
  · cases hu
theorem idx4 (g : gam ρ (B, AL, Ast, F) L st h) {v j a : AV} {A : List AV} (hA : Ast = v :: j :: a :: A) (hj : j.1 = 1) (ha : a.1 = 3) : ∃ v0 k b st2, st = v0 :: .int k :: .ref b :: st2 ∧ vm B.length ρ v v0 ∧ b ∈ a.2.2.2 ∧ tOK B.length ρ j.2.1 k.toInt ∧ al2 (vm B.length ρ) A st2 := by
  subst hA
  obtain ⟨v0, s0, rfl, hv0, hr0⟩ := al2_cons g.2.2.1
  obtain ⟨w1, s1, rfl, hv, hr1⟩ := al2_cons hr0
  obtain ⟨w2, s2, rfl, hw, hr⟩ := al2_cons hr1
  obtain ⟨k, rfl, tk⟩ := vm1 hj hv
  obtain ⟨b, rfl, hb⟩ := vm3 ha hw
  exact ⟨v0, k, b, s2, rfl, hv0, hb, tk, hr⟩
theorem objF_ne {q : Nat × Nat × Tm} (hq : ∃ ci, SHl[q.1]? = some (.inr ci)) {b t n j : Nat} (hb : SHl[b]? = some (.inl (t, n))) : ¬ (q.1 = b ∧ q.2.1 = j) := by
  rintro ⟨e, -⟩
  obtain ⟨ci, hc⟩ := hq
  rw [e, hb] at hc
  cases hc
theorem cu_ist (g : gam ρ (B, AL, Ast, F) L st h) (hh : HI h) {x j a : AV} {A : List AV} (hA : Ast = x :: j :: a :: A) (hx : x.1 = 1) (hj : j.1 = 1) (ha : a.1 = 3) (hok : arrOK a.2.2.2 0 (trg B j.2.1) = true) (hall : a.2.2.2.all (fun b => decide (b < OLDB) && inW W b 999 && rngOK (trg B x.2.1) (ivl b 0)) = true) :
    Suc X W .iastore o pc (B, AL, Ast, F) L st h ρ [(pc + 1, B, AL, A, F)] := by
  obtain ⟨v0, k, b, st2, rfl, hv0, hb, tk, hr⟩ := idx4 g hA hj ha
  obtain ⟨z, rfl, hz⟩ := vm1 hx hv0
  obtain ⟨n, e1, e2, e3⟩ := arrOK_in hok hb
  have rk := tOK_rg g.1 tk
  have rz := tOK_rg g.1 hz
  have hin : inB k n = true := inB_of (r := trg B j.2.1) rk.1 rk.2 e2 e3
  have hq := List.all_eq_true.mp hall b hb
  simp only [Bool.and_eq_true, decide_eq_true_eq] at hq
  obtain ⟨⟨hbo, hw⟩, hrg⟩ := hq
  have e4 := aLen_new hbo e1
  have hi := rng_ok hrg rz.1 rz.2
  refine suc_wr g (h' := (h.1, ud h.2.1 b k.toNatClampNeg z, h.2.2.1, h.2.2.2)) hr (HI_ud hh (by rw [ivl_arr e4]; exact hi.1) (by rw [ivl_arr e4]; exact hi.2)) (frm_ud (inW_arr hw _)) (fun q hq => ?_) ?_
  · refine ⟨?_, (g.2.2.2 q hq).2⟩
    show tOK B.length ρ q.2.2 (ud h.2.1 b k.toNatClampNeg z q.1 q.2.1).toInt
    rw [udN (objF_ne (g.2.2.2 q hq).2 e4)]
    exact (g.2.2.2 q hq).1
  · simp only [hstep]
    rw [if_pos hbo, hh.1, e4]
    simp only [hin, if_true]
theorem cu_bst (g : gam ρ (B, AL, Ast, F) L st h) (hh : HI h) {x j a : AV} {A : List AV} (hA : Ast = x :: j :: a :: A) (hx : x.1 = 1) (hj : j.1 = 1) (ha : a.1 = 3) (h01 : rngOK (trg B x.2.1) (0, 1) = true) (hok : arrOK a.2.2.2 2 (trg B j.2.1) = true) (hall : a.2.2.2.all (fun b => decide (b < OLDB) && inW W b 999 && rngOK (trg B x.2.1) (ivl b 0)) = true) :
    Suc X W .bastore o pc (B, AL, Ast, F) L st h ρ [(pc + 1, B, AL, A, F)] := by
  obtain ⟨v0, k, b, st2, rfl, hv0, hb, tk, hr⟩ := idx4 g hA hj ha
  obtain ⟨z, rfl, hz⟩ := vm1 hx hv0
  obtain ⟨n, e1, e2, e3⟩ := arrOK_in hok hb
  have rk := tOK_rg g.1 tk
  have rz := tOK_rg g.1 hz
  have hin : inB k n = true := inB_of (r := trg B j.2.1) rk.1 rk.2 e2 e3
  have hq := List.all_eq_true.mp hall b hb
  simp only [Bool.and_eq_true, decide_eq_true_eq] at hq
  obtain ⟨⟨hbo, hw⟩, hrg⟩ := hq
  have e4 := aLen_new hbo e1
  have hi := rng_ok hrg rz.1 rz.2
  have h1 := rng_ok h01 rz.1 rz.2
  have hz1 := b01 h1.1 h1.2
  refine suc_wr g (h' := (h.1, ud h.2.1 b k.toNatClampNeg z, h.2.2.1, h.2.2.2)) hr (HI_ud hh (by rw [ivl_arr e4]; exact hi.1) (by rw [ivl_arr e4]; exact hi.2)) (frm_ud (inW_arr hw _)) (fun q hq => ?_) ?_
  · refine ⟨?_, (g.2.2.2 q hq).2⟩
    show tOK B.length ρ q.2.2 (ud h.2.1 b k.toNatClampNeg z q.1 q.2.1).toInt
    rw [udN (objF_ne (g.2.2.2 q hq).2 e4)]
    exact (g.2.2.2 q hq).1
  · simp only [hstep]
    rw [if_pos ⟨hbo, hz1⟩, hh.1, e4]
    simp only [hin, if_true]
theorem cu_lst (g : gam ρ (B, AL, Ast, F) L st h) (hh : HI h) {x j a : AV} {A : List AV} (hA : Ast = x :: j :: a :: A) (hx : x.1 = 2) (hj : j.1 = 1) (ha : a.1 = 3) (hok : arrOK a.2.2.2 1 (trg B j.2.1) = true) (hall : a.2.2.2.all (fun b => decide (b < OLDB) && inW W b 999) = true) :
    Suc X W .lastore o pc (B, AL, Ast, F) L st h ρ [(pc + 1, B, AL, A, F)] := by
  obtain ⟨v0, k, b, st2, rfl, hv0, hb, tk, hr⟩ := idx4 g hA hj ha
  obtain ⟨z, rfl, hz⟩ := vm2 hx hv0
  obtain ⟨n, e1, e2, e3⟩ := arrOK_in hok hb
  have rk := tOK_rg g.1 tk
  have hin : inB k n = true := inB_of (r := trg B j.2.1) rk.1 rk.2 e2 e3
  have hq := List.all_eq_true.mp hall b hb
  simp only [Bool.and_eq_true, decide_eq_true_eq] at hq
  obtain ⟨hbo, hw⟩ := hq
  have e4 := aLen_new hbo e1
  refine suc_wr g (h' := (h.1, h.2.1, ud h.2.2.1 b k.toNatClampNeg z, h.2.2.2)) hr ⟨hh.1, hh.2.1, hh.2.2⟩ (frm_udL (inW_arr hw _)) (fun q hq => g.2.2.2 q hq) ?_
  simp only [hstep]
  rw [if_pos hbo, hh.1, e4]
  simp only [hin, if_true]
end SY
