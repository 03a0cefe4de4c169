/-! .. on the heap. -/
theorem ivl_arr {a t n : Nat} (h : SHl[a]? = some (.inl (t, n))) (k : Nat) : ivl a k = ivl a 0 := by
  unfold ivl
  rw [h]
  rfl
theorem udS {α : Type} {f : Nat → Nat → α} {a i : Nat} {v : α} : ud f a i v a i = v := by
  unfold ud
  rw [if_pos rfl, if_pos rfl]
theorem udN {α : Type} {f : Nat → Nat → α} {a i a' j : Nat} {v : α} (h : ¬ (a' = a ∧ j = i)) : ud f a i v a' j = f a' j := by
  unfold ud
  by_cases h1 : a' = a
  · subst h1
    rw [if_pos rfl]
    have : ¬ j = i := fun e => h ⟨rfl, e⟩
    exact if_neg this
  · rw [if_neg h1]
theorem HI_ud {h : Hp} {a i : Nat} {x : Int32} (hh : HI h) (h1 : (ivl a i).1 ≤ x.toInt) (h2 : x.toInt ≤ (ivl a i).2) : HI (h.1, ud h.2.1 a i x, h.2.2.1, h.2.2.2) := by
  refine ⟨hh.1, fun a' k => ?_, hh.2.2⟩
  by_cases e : a' = a ∧ k = i
  · obtain ⟨rfl, rfl⟩ := e
    show (ivl a' k).1 ≤ (ud h.2.1 a' k x a' k).toInt ∧ (ud h.2.1 a' k x a' k).toInt ≤ (ivl a' k).2
    rw [udS]
    exact ⟨h1, h2⟩
  · show (ivl a' k).1 ≤ (ud h.2.1 a i x a' k).toInt ∧ (ud h.2.1 a i x a' k).toInt ≤ (ivl a' k).2
    rw [udN e]
    exact hh.2.1 a' k
theorem frm_ud {W : List (Nat × Nat)} {h : Hp} {a i : Nat} {x : Int32} (hw : inW W a i = true) : frm W h (h.1, ud h.2.1 a i x, h.2.2.1, h.2.2.2) := by
  intro a' k hk
  refine ⟨?_, rfl, rfl⟩
  show ud h.2.1 a i x a' k = _
  refine udN fun e => ?_
  rw [e.1, e.2, hw] at hk
  cases hk
theorem frm_udL {W : List (Nat × Nat)} {h : Hp} {a i : Nat} {x : Int64} (hw : inW W a i = true) : frm W h (h.1, h.2.1, ud h.2.2.1 a i x, h.2.2.2) := by
  intro a' k hk
  refine ⟨rfl, ?_, rfl⟩
  show ud h.2.2.1 a i x a' k = _
  refine udN fun e => ?_
  rw [e.1, e.2, hw] at hk
  cases hk
theorem frm_udR {W : List (Nat × Nat)} {h : Hp} {a i : Nat} {x : Option Nat} (hw : inW W a i = true) : frm W h (h.1, h.2.1, h.2.2.1, ud h.2.2.2 a i x) := by
  intro a' k hk
  refine ⟨rfl, rfl, ?_⟩
  show ud h.2.2.2 a i x a' k = _
  refine udN fun e => ?_
  rw [e.1, e.2, hw] at hk
  cases hk
theorem inW_arr {W : List (Nat × Nat)} {a : Nat} (h : inW W a 999 = true) (k : Nat) : inW W a k = true := by
  unfold inW at h ⊢
  obtain ⟨q, hq, h⟩ := List.any_eq_true.mp h
  refine List.any_eq_true.mpr ⟨q, hq, ?_⟩
  simp only [Bool.and_eq_true, Bool.or_eq_true, beq_iff_eq] at h ⊢
  omega
theorem HI_R {h : Hp} {a i b : Nat} (hh : HI h) (hb : b ∈ rst a i) : HI (h.1, h.2.1, h.2.2.1, ud h.2.2.2 a i (some b)) := by
  refine ⟨hh.1, hh.2.1, fun a' k hne => ?_⟩
  by_cases e : a' = a ∧ k = i
  · obtain ⟨rfl, rfl⟩ := e
    refine ⟨b, hb, ?_⟩
    show ud h.2.2.2 a' k (some b) a' k = some b
    rw [udS]
  · obtain ⟨c, hc, e2⟩ := hh.2.2 a' k hne
    refine ⟨c, hc, ?_⟩
    show ud h.2.2.2 a i (some b) a' k = some c
    rw [udN e]
    exact e2
theorem fGet_in {F : List (Nat × Nat × Tm)} {a k : Nat} {t : Tm} (h : fGet F a k = some t) : (a, k, t) ∈ F := by
  unfold fGet at h
  obtain ⟨q, hq, e⟩ := Option.map_eq_some_iff.mp h
  have h1 := List.find?_some hq
  have h2 := List.mem_of_find?_eq_some hq
  simp only [Bool.and_eq_true, beq_iff_eq] at h1
  obtain ⟨q1, q2, q3⟩ := q
  obtain ⟨rfl, rfl⟩ := h1
  subst e
  exact h2
theorem fDel_in {F : List (Nat × Nat × Tm)} {a k : Nat} {q : Nat × Nat × Tm} (h : q ∈ fDel F a k) : q ∈ F ∧ ¬ (q.1 = a ∧ q.2.1 = k) := by
  unfold fDel at h
  obtain ⟨h1, h2⟩ := List.mem_filter.mp h
  refine ⟨h1, fun e => ?_⟩
  rw [e.1, e.2] at h2
  simp at h2
theorem fDels_in : ∀ {l : List Nat} {F : List (Nat × Nat × Tm)} {k : Nat} {q : Nat × Nat × Tm}, q ∈ l.foldl (fun F b => fDel F b k) F → q ∈ F ∧ ∀ b ∈ l, ¬ (q.1 = b ∧ q.2.1 = k)
  | [], F, k, q, h => ⟨h, fun b hb => by cases hb⟩
  | b :: l, F, k, q, h => by
    obtain ⟨h1, h2⟩ := fDels_in (l := l) h
    obtain ⟨h3, h4⟩ := fDel_in h1
    refine ⟨h3, fun c hc => ?_⟩
    rcases List.mem_cons.mp hc with rfl | hc
    · exact h4
    · exact h2 c hc
theorem aLen_new {b t n : Nat} (hb : b < OLDB) (h : aLen b = some (t, n)) : SHl[b]? = some (.inl (t, n)) := by
  unfold aLen at h
  rw [if_pos hb] at h
  split at h
  · rename_i q hq
    cases h
    exact hq
  · cases h
theorem above_rg : ∀ j, j < 7 → (-1 : Int) ≤ (aboveL.getD j 0).toInt ∧ (aboveL.getD j 0).toInt ≤ 3 := by decide
theorem bodies_rg : ∀ j, j < 21 → (0 : Int) ≤ (bodiesL.getD j 0).toInt ∧ (bodiesL.getD j 0).toInt ≤ 71 := by decide
theorem str_rg : ∀ i, i < 5 → ∀ j, j < strL.getD i 0 → (0 : Int) ≤ ((strB.getD i []).getD j 0).toInt ∧ ((strB.getD i []).getD j 0).toInt ≤ 127 := by decide
theorem aLen_old {X : Scr} {b t n : Nat} (hb : ¬ b < OLDB) (h : aLen b = some (t, n)) : ∃ f, oldArr X (b - OLDB) = some (t, n, f) ∧ ∀ j, j < n → (aIv b).1 ≤ (f j).toInt ∧ (f j).toInt ≤ (aIv b).2 := by
  have hB := OLDB_eq
  unfold aLen at h
  rw [if_neg hb] at h
  unfold aIv
  rw [if_neg hb]
  split at h
  · rename_i e
    cases h
    subst e
    rw [if_pos rfl]
    refine ⟨fun i => aboveL.getD i 0, ?_, above_rg⟩
    rw [show OLDB + 1 - OLDB = 1 by omega]
    rfl
  · split at h
    · rename_i e1 e
      cases h
      subst e
      rw [if_neg (by omega), if_pos rfl]
      refine ⟨fun i => bodiesL.getD i 0, ?_, bodies_rg⟩
      rw [show OLDB + 2 - OLDB = 2 by omega]
      rfl
    · split at h
      · rename_i e1 e2 e
        cases h
        rw [if_neg e1, if_neg e2]
        refine ⟨fun i => (strB.getD (b - OLDB - 8) []).getD i 0, ?_, fun j hj => str_rg (b - OLDB - 8) (by omega) j hj⟩
        unfold oldArr
        rw [if_neg (by omega), if_neg (by omega), if_neg (by omega), if_pos (by omega)]
      · cases h
theorem inB_of {j : Int32} {n : Nat} {r : Int × Int} (h1 : r.1 ≤ j.toInt) (h2 : j.toInt ≤ r.2) (h3 : 0 ≤ r.1) (h4 : r.2 < (n : Int)) : inB j n = true := by
  have e : j.toInt.toNat = j.toNatClampNeg := Int32.toNat_toInt j
  have hz : (0 : Int32).toInt = 0 := rfl
  unfold inB
  refine Bool.and_eq_true _ _ |>.mpr ⟨decide_eq_true ?_, decide_eq_true ?_⟩
  · rw [Int32.lt_iff_toInt_lt]
    omega
  · omega
theorem arrOK_in {l : List Nat} {t : Nat} {r : Int × Int} (h : arrOK l t r = true) {b : Nat} (hb : b ∈ l) : ∃ n, aLen b = some (t, n) ∧ 0 ≤ r.1 ∧ r.2 < (n : Int) := by
  have h := (Bool.and_eq_true _ _).mp h |>.2
  have h := List.all_eq_true.mp h b hb
  split at h
  · rename_i q hq
    obtain ⟨q1, q2⟩ := q
    simp only [Bool.and_eq_true, beq_iff_eq, decide_eq_true_eq] at h
    obtain ⟨⟨rfl, h2⟩, h3⟩ := h
    exact ⟨q2, hq, h2, h3⟩
  · cases h
theorem oA_at {X : Scr} {b : Nat} {α : Type} {q : Option (Nat × Nat × (Nat → Int32))} (f : Option (Nat × Nat × (Nat → Int32)) → α) (e : oldArr X (b - OLDB) = q) : f (oldArr X (b - OLDB)) = f q := congrArg f e
theorem hs_iold {X : Scr} {o : List Nat} {pc b n : Nat} {L st : List Value} {h : Hp} {k : Int32} {f : Nat → Int32} (hb : ¬ b < OLDB) (e : oldArr X (b - OLDB) = some (0, n, f)) (hin : inB k n = true) : hstep X .iaload o pc L (.int k :: .ref b :: st) h = some (pc + 1, L, .int (f k.toNatClampNeg) :: st, h) := by
  generalize hr : hstep X .iaload o pc L (.int k :: .ref b :: st) h = r
  simp only [hstep] at hr
  split at hr
  · rename_i hb2
    exact absurd hb2 hb
  · split at hr
    · rename_i n2 f2 e2
      cases e.symm.trans e2
      rw [if_pos hin] at hr
      exact hr.symm
    · rename_i hno
      exact absurd e (hno n f)
theorem hs_bold {X : Scr} {o : List Nat} {pc b n : Nat} {L st : List Value} {h : Hp} {k : Int32} {f : Nat → Int32} (hb : ¬ b < OLDB) (e : oldArr X (b - OLDB) = some (5, n, f)) (hin : inB k n = true) : hstep X .baload o pc L (.int k :: .ref b :: st) h = some (pc + 1, L, .int (f k.toNatClampNeg) :: st, h) := by
  generalize hr : hstep X .baload o pc L (.int k :: .ref b :: st) h = r
  simp only [hstep] at hr
  split at hr
  · rename_i hb2
    exact absurd hb2 hb
  · split at hr
    · rename_i n2 f2 e2
      cases e.symm.trans e2
      rw [if_pos hin] at hr
      exact hr.symm
    · rename_i hno
      exact absurd e (hno n f)
theorem hs_lold {X : Scr} {o : List Nat} {pc b t n : Nat} {L st : List Value} {h : Hp} {f : Nat → Int32} (hb : ¬ b < OLDB) (e : oldArr X (b - OLDB) = some (t, n, f)) : hstep X .arraylength o pc L (.ref b :: st) h = some (pc + 1, L, .int (Int32.ofNat n) :: st, h) := by
  generalize hr : hstep X .arraylength o pc L (.ref b :: st) h = r
  simp only [hstep] at hr
  split at hr
  · rename_i hb2
    exact absurd hb2 hb
  · split at hr
    · rename_i t2 n2 f2 e2
      cases e.symm.trans e2
      exact hr.symm
    · rename_i e2
      cases e.symm.trans e2
theorem hs_lnew {X : Scr} {o : List Nat} {pc b t n : Nat} {L st : List Value} {h : Hp} (hb : b < OLDB) (e : h.1[b]? = some (.inl (t, n))) (ht : t < 5) : hstep X .arraylength o pc L (.ref b :: st) h = some (pc + 1, L, .int (Int32.ofNat n) :: st, h) := by
  unfold hstep
  simp only [hb, e, ht, if_true]
section SX
variable {X : Scr} {W : List (Nat × Nat)} {i : Instr} {o : List Nat} {pc pc' : Nat} {B : Bd} {AL Ast : List AV} {F : List (Nat × Nat × Tm)} {L st : List Value} {h : Hp} {ρ : Nat → Int} {l : List (Nat × AS)}
/-- a step that writes the heap -/
theorem suc_wr (g : gam ρ (B, AL, Ast, F) L st h) {A : List AV} {st2 : List Value} {h' : Hp} {F' : List (Nat × Nat × Tm)} (hr : al2 (vm B.length ρ) A st2) (hh : HI h') (hf : frm W h h') (hF : ∀ q ∈ F', tOK B.length ρ q.2.2 (h'.2.1 q.1 q.2.1).toInt ∧ ∃ ci, SHl[q.1]? = some (.inr ci)) (hs : hstep X i o pc L st h = some (pc', L, st2, h')) :
    Suc X W i o pc (B, AL, Ast, F) L st h ρ [(pc', B, AL, A, F')] :=
  ⟨pc', (B, AL, A, F'), ρ, L, st2, h', List.mem_singleton.mpr rfl, hs, ⟨g.1, g.2.1, hr, hF⟩, hh, hf, ext_refl, Nat.le_refl _, rfl⟩
theorem one3 (g : gam ρ (B, AL, Ast, F) L st h) {a : AV} {A : List AV} (hA : Ast = a :: A) (ha : a.1 = 3) : ∃ b st2, st = .ref b :: st2 ∧ b ∈ a.2.2.2 ∧ al2 (vm B.length ρ) A st2 := by
  subst hA
  obtain ⟨v, s1, rfl, hv, hr⟩ := al2_cons g.2.2.1
  obtain ⟨y, rfl, ty⟩ := vm3 ha hv
  exact ⟨y, s1, rfl, ty, hr⟩
theorem idx3 (g : gam ρ (B, AL, Ast, F) L st h) {j a : AV} {A : List AV} (hA : Ast = j :: a :: A) (hj : j.1 = 1) (ha : a.1 = 3) : ∃ k b st2, st = .int k :: .ref b :: st2 ∧ b ∈ a.2.2.2 ∧ tOK B.length ρ j.2.1 k.toInt ∧ al2 (vm B.length ρ) A st2 := by
  subst hA
  obtain ⟨v, s1, rfl, hv, hr1⟩ := al2_cons g.2.2.1
  obtain ⟨w, s2, rfl, hw, hr⟩ := al2_cons hr1
  obtain ⟨k, rfl, tk⟩ := vm1 hj hv
  obtain ⟨b, rfl, hb⟩ := vm3 ha hw
  exact ⟨k, b, s2, rfl, hb, tk, hr⟩
theorem ref_in {hh : HI h} {b k : Nat} (h1 : (rst b k).isEmpty = false) : ∃ z ∈ rst b k, h.2.2.2 b k = some z := hh.2.2 b k (fun e => by rw [e] at h1; cases h1)
theorem cu_ild (g : gam ρ (B, AL, Ast, F) L st h) (hh : HI h) {j a : AV} {A : List AV} (hA : Ast = j :: a :: A) (hj : j.1 = 1) (ha : a.1 = 3) (hok : arrOK a.2.2.2 0 (trg B j.2.1) = true) : Suc X W .iaload o pc (B, AL, Ast, F) L st h ρ [(pc + 1, pushI (B, AL, Ast, F) A (uni (a.2.2.2.map aIv)))] := by
  obtain ⟨k, b, st2, rfl, hb, tk, hr⟩ := idx3 g hA hj ha
  obtain ⟨n, e1, e2, e3⟩ := arrOK_in hok hb
  have rk := tOK_rg g.1 tk
  have hin : inB k n = true := inB_of (r := trg B j.2.1) rk.1 rk.2 e2 e3
  have hu := uni_ok (List.mem_map.mpr ⟨b, hb, rfl⟩ : aIv b ∈ a.2.2.2.map aIv)
  have hkn : k.toNatClampNeg < n := of_decide_eq_true ((Bool.and_eq_true _ _).mp hin).2
  by_cases hbo : b < OLDB
  · have e4 := aLen_new hbo e1
    have e5 : aIv b = ivl b k.toNatClampNeg := by unfold aIv; rw [if_pos hbo]; exact (ivl_arr e4 _).symm
    have h5 := hh.2.1 b k.toNatClampNeg
    rw [← e5] at h5
    refine suc_new g hh (z := h.2.1 b k.toNatClampNeg) hr (by omega) (by omega) ?_
    simp only [hstep]
    rw [if_pos hbo, hh.1, e4]
    simp only [hin, if_true]
  · obtain ⟨f, e4, h5⟩ := aLen_old (X := X) hbo e1
    have h5 := h5 k.toNatClampNeg hkn
    refine suc_new g hh (z := f k.toNatClampNeg) hr (by omega) (by omega) ?_
    exact hs_iold hbo e4 hin
theorem cu_bld (g : gam ρ (B, AL, Ast, F) L st h) (hh : HI h) {j a : AV} {A : List AV} (hA : Ast = j :: a :: A) (hj : j.1 = 1) (ha : a.1 = 3) (hok : arrOK a.2.2.2 2 (trg B j.2.1) = true ∧ a.2.2.2.all (fun b => decide (b < OLDB)) = true ∨ arrOK a.2.2.2 5 (trg B j.2.1) = true ∧ a.2.2.2.all (fun b => decide (OLDB ≤ b)) = true) : Suc X W .baload o pc (B, AL, Ast, F) L st h ρ [(pc + 1, pushI (B, AL, Ast, F) A (uni (a.2.2.2.map aIv)))] := by
  obtain ⟨k, b, st2, rfl, hb, tk, hr⟩ := idx3 g hA hj ha
  have rk := tOK_rg g.1 tk
  have hu := uni_ok (List.mem_map.mpr ⟨b, hb, rfl⟩ : aIv b ∈ a.2.2.2.map aIv)
  rcases hok with ⟨hok, hall⟩ | ⟨hok, hall⟩
  · obtain ⟨n, e1, e2, e3⟩ := arrOK_in hok hb
    have hin : inB k n = true := inB_of (r := trg B j.2.1) rk.1 rk.2 e2 e3
    have hbo : b < OLDB := of_decide_eq_true (List.all_eq_true.mp hall b hb)
    have e4 := aLen_new hbo e1
    have e5 : aIv b = ivl b k.toNatClampNeg := by unfold aIv; rw [if_pos hbo]; exact (ivl_arr e4 _).symm
    have h5 := hh.2.1 b k.toNatClampNeg
    rw [← e5] at h5
    refine suc_new g hh (z := h.2.1 b k.toNatClampNeg) hr (by omega) (by omega) ?_
    simp only [hstep]
    rw [if_pos hbo, hh.1, e4]
    simp only [hin, if_true]
  · obtain ⟨n, e1, e2, e3⟩ := arrOK_in hok hb
    have hin : inB k n = true := inB_of (r := trg B j.2.1) rk.1 rk.2 e2 e3
    have hkn : k.toNatClampNeg < n := of_decide_eq_true ((Bool.and_eq_true _ _).mp hin).2
    have hbo : OLDB ≤ b := of_decide_eq_true (List.all_eq_true.mp hall b hb)
    obtain ⟨f, e4, h5⟩ := aLen_old (X := X) (Nat.not_lt.mpr hbo) e1
    have h5 := h5 k.toNatClampNeg hkn
    refine suc_new g hh (z := f k.toNatClampNeg) hr (by omega) (by omega) ?_
    exact hs_bold (Nat.not_lt.mpr hbo) e4 hin
theorem cu_lld (g : gam ρ (B, AL, Ast, F) L st h) (hh : HI h) {j a : AV} {A : List AV} (hA : Ast = j :: a :: A) (hj : j.1 = 1) (ha : a.1 = 3) (hok : arrOK a.2.2.2 1 (trg B j.2.1) = true) (hall : a.2.2.2.all (fun b => decide (b < OLDB)) = true) : Suc X W .laload o pc (B, AL, Ast, F) L st h ρ [(pc + 1, pushL (B, AL, Ast, F) A fL)] := by
  obtain ⟨k, b, st2, rfl, hb, tk, hr⟩ := idx3 g hA hj ha
  obtain ⟨n, e1, e2, e3⟩ := arrOK_in hok hb
  have rk := tOK_rg g.1 tk
  have hin : inB k n = true := inB_of (r := trg B j.2.1) rk.1 rk.2 e2 e3
  have hbo : b < OLDB := of_decide_eq_true (List.all_eq_true.mp hall b hb)
  have e4 := aLen_new hbo e1
  refine suc_newL g hh (z := h.2.2.1 b k.toNatClampNeg) hr ?_
  simp only [hstep]
  rw [if_pos hbo, hh.1, e4]
  simp only [hin, if_true]
theorem rst_arr {a t n k : Nat} (h : SHl[a]? = some (.inl (t, n))) (hk : k < n) : rst a k = rst a 0 := by
  unfold rst
  rw [h]
  simp only
  rw [if_pos hk, if_pos (by omega)]
theorem cu_ald (g : gam ρ (B, AL, Ast, F) L st h) (hh : HI h) {j a : AV} {A : List AV} (hA : Ast = j :: a :: A) (hj : j.1 = 1) (ha : a.1 = 3) {t : Nat} (ht : t = 3 ∨ t = 4) (hok : arrOK a.2.2.2 t (trg B j.2.1) = true) (hall : a.2.2.2.all (fun b => decide (b < OLDB) && (!(rst b 0).isEmpty && (rst b 0).all (fun z => decide (z < OLDB)))) = true) :
    Suc X W .aaload o pc (B, AL, Ast, F) L st h ρ [(pc + 1, B, AL, rT ((a.2.2.2.map (fun b => rst b 0)).flatten) :: A, F)] := by
  obtain ⟨k, b, st2, rfl, hb, tk, hr⟩ := idx3 g hA hj ha
  obtain ⟨n, e1, e2, e3⟩ := arrOK_in hok hb
  have rk := tOK_rg g.1 tk
  have hin : inB k n = true := inB_of (r := trg B j.2.1) rk.1 rk.2 e2 e3
  have hq := List.all_eq_true.mp hall b hb
  simp only [Bool.and_eq_true, decide_eq_true_eq, Bool.not_eq_true', List.all_eq_true] at hq
  obtain ⟨hbo, hne, hz⟩ := hq
  have e4 := aLen_new hbo e1
  have hkn : k.toNatClampNeg < n := by
    unfold inB at hin
    simp only [Bool.and_eq_true, decide_eq_true_eq] at hin
    exact hin.2
  obtain ⟨z, z1, z2⟩ := hh.2.2 b k.toNatClampNeg (fun e => by rw [rst_arr e4 hkn] at e; rw [e] at hne; cases hne)
  rw [rst_arr e4 hkn] at z1
  have hzo := hz z z1
  refine suc_push g hh (v := .ref z) hr ⟨z, rfl, List.mem_flatten.mpr ⟨_, List.mem_map.mpr ⟨b, hb, rfl⟩, z1⟩⟩ ?_
  simp only [hstep]
  rw [if_pos hbo, hh.1, e4]
  simp only [hin, z2, ht, hzo, and_self, if_true]
theorem cu_len (g : gam ρ (B, AL, Ast, F) L st h) (hh : HI h) {a : AV} {A : List AV} (hA : Ast = a :: A) (ha : a.1 = 3) (hall : a.2.2.2.all (fun b => match aLen b with | some q => (decide (q.1 < 5) || decide (OLDB ≤ b)) && decide (q.2 ≤ 1000) | none => false) = true) :
    Suc X W .arraylength o pc (B, AL, Ast, F) L st h ρ [(pc + 1, pushI (B, AL, Ast, F) A (uni (a.2.2.2.map (fun b => match aLen b with | some q => ((q.2 : Int), (q.2 : Int)) | none => fI))))] := by
  obtain ⟨b, st2, rfl, hb, hr⟩ := one3 g hA ha
  have hq := List.all_eq_true.mp hall b hb
  have hu := uni_ok (List.mem_map.mpr ⟨b, hb, rfl⟩ : (match aLen b with | some q => ((q.2 : Int), (q.2 : Int)) | none => fI) ∈ a.2.2.2.map (fun b => match aLen b with | some q => ((q.2 : Int), (q.2 : Int)) | none => fI))
  cases e1 : aLen b with
  | none => rw [e1] at hq; cases hq
  | some q =>
    obtain ⟨t, n⟩ := q
    rw [e1] at hq hu
    simp only [Bool.and_eq_true, decide_eq_true_eq, Bool.or_eq_true] at hq hu
    have hnn : (Int32.ofNat n).toInt = n := Int32.toInt_ofNat_of_lt (by omega)
    refine suc_new g hh (z := Int32.ofNat n) hr (by omega) (by omega) ?_
    by_cases hbo : b < OLDB
    · have : t < 5 := hq.1.elim id (fun h5 => absurd hbo (Nat.not_lt.mpr h5))
      exact hs_lnew hbo ((congrArg (·[b]?) hh.1).trans (aLen_new hbo e1)) this
    · obtain ⟨f, e4, -⟩ := aLen_old (X := X) hbo e1
      exact hs_lold hbo e4
end SX
