/-! .. the instructions on locals, stack and numbers, one by one. -/
section SV
variable {X : Scr} {W : List (Nat × Nat)} {i : Instr} {o : List Nat} {pc pc' : Nat} {B : Bd} {AL Ast : List AV} {F : List (Nat × Nat × Tm)} {L st : List Value} {h : Hp} {ρ : Nat → Int} {l : List (Nat × AS)}
theorem al2_cons {P : AV → Value → Prop} {a : AV} {A : List AV} {st : List Value} (h : al2 P (a :: A) st) : ∃ v st2, st = v :: st2 ∧ P a v ∧ al2 P A st2 := by
  cases st with
  | nil => exact h.elim
  | cons v st2 => exact ⟨v, st2, rfl, h.1, h.2⟩
theorem cu_load1 (g : gam ρ (B, AL, Ast, F) L st h) (hh : HI h) {k n : Nat} (hu : (match AL[k]? with | some a => if a.1 = 1 then some [(pc + n, B, AL, a :: Ast, F)] else none | none => none) = some l)
    (hs : ∀ x, L[k]? = some (.int x) → hstep X i o pc L st h = some (pc + n, L, .int x :: st, h)) : Suc X W i o pc (B, AL, Ast, F) L st h ρ l := by
  split at hu
  · rename_i a ha
    obtain ⟨h1, hu⟩ := inv_if hu
    cases hu
    obtain ⟨v, e, hv⟩ := al2_get g.2.1 ha
    obtain ⟨x, rfl, -⟩ := vm1 h1 hv
    exact suc_push g hh g.2.2.1 hv (hs x e)
  · cases hu
theorem cu_load2 (g : gam ρ (B, AL, Ast, F) L st h) (hh : HI h) {k n : Nat} (hu : (match AL[k]? with | some a => if a.1 = 2 then some [(pc + n, B, AL, a :: Ast, F)] else none | none => none) = some l)
    (hs : ∀ x, L[k]? = some (.long x) → hstep X i o pc L st h = some (pc + n, L, .long x :: st, h)) : Suc X W i o pc (B, AL, Ast, F) L st h ρ l := by
  split at hu
  · rename_i a ha
    obtain ⟨h1, hu⟩ := inv_if hu
    cases hu
    obtain ⟨v, e, hv⟩ := al2_get g.2.1 ha
    obtain ⟨x, rfl, -⟩ := vm2 h1 hv
    exact suc_push g hh g.2.2.1 hv (hs x e)
  · cases hu
theorem nin_of {l : List Nat} {z b : Nat} (h : l.contains z = false) (hb : b ∈ l) : ¬ b = z := by
  intro e
  subst e
  simp [hb] at h
theorem cu_load3 (g : gam ρ (B, AL, Ast, F) L st h) (hh : HI h) {k n : Nat} (hu : (match AL[k]? with | some a => if a.1 = 3 ∧ a.2.2.2.contains (OLDB + 13) = false then some [(pc + n, B, AL, a :: Ast, F)] else none | none => none) = some l)
    (hs : ∀ x, L[k]? = some (.ref x) → ¬ x = OLDB + 13 → hstep X i o pc L st h = some (pc + n, L, .ref x :: st, h)) : Suc X W i o pc (B, AL, Ast, F) L st h ρ l := by
  split at hu
  · rename_i a ha
    obtain ⟨⟨h1, h2⟩, hu⟩ := inv_if hu
    cases hu
    obtain ⟨v, e, hv⟩ := al2_get g.2.1 ha
    obtain ⟨x, rfl, hx⟩ := vm3 h1 hv
    exact suc_push g hh g.2.2.1 hv (hs x e (nin_of h2 hx))
  · cases hu
theorem cu_sto1 (g : gam ρ (B, AL, Ast, F) L st h) (hh : HI h) {k n : Nat} (hu : (match (generalizing := false) Ast with | a :: st => if a.1 = 1 ∧ k < AL.length ∧ aOkSt AL k = true then some [(pc + n, B, AL.set k a, st, F)] else none | _ => none) = some l)
    (hs : ∀ x st2, st = .int x :: st2 → k < L.length ∧ okSt L k = true → hstep X i o pc L st h = some (pc + n, L.set k (.int x), st2, h)) : Suc X W i o pc (B, AL, Ast, F) L st h ρ l := by
  cases Ast with
  | nil => cases hu
  | cons a st' =>
    obtain ⟨⟨h1, h2, h3⟩, hu⟩ := inv_if hu
    cases hu
    obtain ⟨v, st2, e, hv, hr⟩ := al2_cons g.2.2.1
    obtain ⟨x, rfl, -⟩ := vm1 h1 hv
    exact suc_store g hh hr hv (hs x st2 e ⟨by rw [← al2_len g.2.1]; exact h2, aOk_ok g.2.1 h3⟩)
theorem cu_sto2 (g : gam ρ (B, AL, Ast, F) L st h) (hh : HI h) {k n : Nat} (hu : (match (generalizing := false) Ast with | a :: st => if a.1 = 2 ∧ k + 1 < AL.length ∧ aOkSt AL k = true then some [(pc + n, B, (AL.set k a).set (k + 1) jT, st, F)] else none | _ => none) = some l)
    (hs : ∀ x st2, st = .long x :: st2 → k + 1 < L.length ∧ okSt L k = true → hstep X i o pc L st h = some (pc + n, (L.set k (.long x)).set (k + 1) (.retAddr 0), st2, h)) : Suc X W i o pc (B, AL, Ast, F) L st h ρ l := by
  cases Ast with
  | nil => cases hu
  | cons a st' =>
    obtain ⟨⟨h1, h2, h3⟩, hu⟩ := inv_if hu
    cases hu
    obtain ⟨v, st2, e, hv, hr⟩ := al2_cons g.2.2.1
    obtain ⟨x, rfl, -⟩ := vm2 h1 hv
    exact suc_storeL g hh hr hv (hs x st2 e ⟨by rw [← al2_len g.2.1]; exact h2, aOk_ok g.2.1 h3⟩)
theorem cu_sto3 (g : gam ρ (B, AL, Ast, F) L st h) (hh : HI h) {k n : Nat} (hu : (match (generalizing := false) Ast with | a :: st => if a.1 = 3 ∧ a.2.2.2.contains (OLDB + 13) = false ∧ k < AL.length ∧ aOkSt AL k = true then some [(pc + n, B, AL.set k a, st, F)] else none | _ => none) = some l)
    (hs : ∀ x st2, st = .ref x :: st2 → k < L.length ∧ okSt L k = true ∧ ¬ x = OLDB + 13 → hstep X i o pc L st h = some (pc + n, L.set k (.ref x), st2, h)) : Suc X W i o pc (B, AL, Ast, F) L st h ρ l := by
  cases Ast with
  | nil => cases hu
  | cons a st' =>
    obtain ⟨⟨h1, h4, h2, h3⟩, hu⟩ := inv_if hu
    cases hu
    obtain ⟨v, st2, e, hv, hr⟩ := al2_cons g.2.2.1
    obtain ⟨x, rfl, hx⟩ := vm3 h1 hv
    exact suc_store g hh hr hv (hs x st2 e ⟨by rw [← al2_len g.2.1]; exact h2, aOk_ok g.2.1 h3, nin_of h4 hx⟩)
/-- two numbers from the stack -/
theorem two1 (g : gam ρ (B, AL, Ast, F) L st h) {b a : AV} {A : List AV} (hA : Ast = b :: a :: A) (ha : a.1 = 1) (hb : b.1 = 1) : ∃ x y st2, st = .int y :: .int x :: st2 ∧ tOK B.length ρ a.2.1 x.toInt ∧ tOK B.length ρ b.2.1 y.toInt ∧ al2 (vm B.length ρ) A st2 := by
  subst hA
  obtain ⟨v, s1, rfl, hv, hr1⟩ := al2_cons g.2.2.1
  obtain ⟨w, s2, rfl, hw, hr⟩ := al2_cons hr1
  obtain ⟨y, rfl, ty⟩ := vm1 hb hv
  obtain ⟨x, rfl, tx⟩ := vm1 ha hw
  exact ⟨x, y, s2, rfl, tx, ty, hr⟩
theorem two2 (g : gam ρ (B, AL, Ast, F) L st h) {b a : AV} {A : List AV} (hA : Ast = b :: a :: A) (ha : a.1 = 2) (hb : b.1 = 2) : ∃ x y st2, st = .long y :: .long x :: st2 ∧ tOK B.length ρ a.2.1 x.toInt ∧ tOK B.length ρ b.2.1 y.toInt ∧ al2 (vm B.length ρ) A st2 := by
  subst hA
  obtain ⟨v, s1, rfl, hv, hr1⟩ := al2_cons g.2.2.1
  obtain ⟨w, s2, rfl, hw, hr⟩ := al2_cons hr1
  obtain ⟨y, rfl, ty⟩ := vm2 hb hv
  obtain ⟨x, rfl, tx⟩ := vm2 ha hw
  exact ⟨x, y, s2, rfl, tx, ty, hr⟩
theorem one1 (g : gam ρ (B, AL, Ast, F) L st h) {a : AV} {A : List AV} (hA : Ast = a :: A) (ha : a.1 = 1) : ∃ x st2, st = .int x :: st2 ∧ tOK B.length ρ a.2.1 x.toInt ∧ al2 (vm B.length ρ) A st2 := by
  subst hA
  obtain ⟨v, s1, rfl, hv, hr⟩ := al2_cons g.2.2.1
  obtain ⟨y, rfl, ty⟩ := vm1 ha hv
  exact ⟨y, s1, rfl, ty, hr⟩
theorem one2 (g : gam ρ (B, AL, Ast, F) L st h) {a : AV} {A : List AV} (hA : Ast = a :: A) (ha : a.1 = 2) : ∃ x st2, st = .long x :: st2 ∧ tOK B.length ρ a.2.1 x.toInt ∧ al2 (vm B.length ρ) A st2 := by
  subst hA
  obtain ⟨v, s1, rfl, hv, hr⟩ := al2_cons g.2.2.1
  obtain ⟨y, rfl, ty⟩ := vm2 ha hv
  exact ⟨y, s1, rfl, ty, hr⟩
theorem suc_tm (g : gam ρ (B, AL, Ast, F) L st h) (hh : HI h) {st2 : List Value} {A : List AV} (hr : al2 (vm B.length ρ) A st2) {q : Bd × Tm} {z : Int32} (hq : ∃ ρ', ext B.length ρ ρ' ∧ bOK ρ' q.1 ∧ tOK q.1.length ρ' q.2 z.toInt ∧ B.length ≤ q.1.length) (hs : hstep X i o pc L st h = some (pc', L, .int z :: st2, h)) :
    Suc X W i o pc (B, AL, Ast, F) L st h ρ [(pc', q.1, AL, iT q.2 :: A, F)] := by
  obtain ⟨ρ', e, b, t, n⟩ := hq
  have g2 := gam_ext (AL := AL) (Ast := A) (F := F) (st := st2) ⟨g.1, g.2.1, hr, g.2.2.2⟩ b n e
  exact suc_one hh (List.mem_singleton.mpr rfl) hs ⟨g2.1, g2.2.1, ⟨⟨z, rfl, t⟩, g2.2.2.1⟩, g2.2.2.2⟩ e n rfl
theorem suc_tmL (g : gam ρ (B, AL, Ast, F) L st h) (hh : HI h) {st2 : List Value} {A : List AV} (hr : al2 (vm B.length ρ) A st2) {q : Bd × Tm} {z : Int64} (hq : ∃ ρ', ext B.length ρ ρ' ∧ bOK ρ' q.1 ∧ tOK q.1.length ρ' q.2 z.toInt ∧ B.length ≤ q.1.length) (hs : hstep X i o pc L st h = some (pc', L, .long z :: st2, h)) :
    Suc X W i o pc (B, AL, Ast, F) L st h ρ [(pc', q.1, AL, lT q.2 :: A, F)] := by
  obtain ⟨ρ', e, b, t, n⟩ := hq
  have g2 := gam_ext (AL := AL) (Ast := A) (F := F) (st := st2) ⟨g.1, g.2.1, hr, g.2.2.2⟩ b n e
  exact suc_one hh (List.mem_singleton.mpr rfl) hs ⟨g2.1, g2.2.1, ⟨⟨z, rfl, t⟩, g2.2.2.1⟩, g2.2.2.2⟩ e n rfl
theorem addI_ok (hb : bOK ρ B) {t u : Tm} {x y : Int32} (ht : tOK B.length ρ t x.toInt) (hu : tOK B.length ρ u y.toInt) : ∃ ρ', ext B.length ρ ρ' ∧ bOK ρ' (tAdd B t u clampI).1 ∧ tOK (tAdd B t u clampI).1.length ρ' (tAdd B t u clampI).2 (x + y).toInt ∧ B.length ≤ (tAdd B t u clampI).1.length := by
  have r1 := tOK_rg hb ht
  have r2 := tOK_rg hb hu
  refine tAdd_ok hb ht hu (fun hc => ?_) (fun hc => ?_)
  · have := clampI_in hc
    simp only at this
    exact i_add (by omega) (by omega)
  · rw [clampI_no hc]
    exact i32r _
theorem subI_ok (hb : bOK ρ B) {t u : Tm} {x y : Int32} (ht : tOK B.length ρ t x.toInt) (hu : tOK B.length ρ u y.toInt) : ∃ ρ', ext B.length ρ ρ' ∧ bOK ρ' (tSub B t u clampI).1 ∧ tOK (tSub B t u clampI).1.length ρ' (tSub B t u clampI).2 (x - y).toInt ∧ B.length ≤ (tSub B t u clampI).1.length := by
  have r1 := tOK_rg hb ht
  have r2 := tOK_rg hb hu
  refine tSub_ok hb ht hu (fun hc => ?_) (fun hc => ?_)
  · have := clampI_in hc
    simp only at this
    exact i_sub (by omega) (by omega)
  · rw [clampI_no hc]
    exact i32r _
theorem addL_ok (hb : bOK ρ B) {t u : Tm} {x y : Int64} (ht : tOK B.length ρ t x.toInt) (hu : tOK B.length ρ u y.toInt) : ∃ ρ', ext B.length ρ ρ' ∧ bOK ρ' (tAdd B t u clampL).1 ∧ tOK (tAdd B t u clampL).1.length ρ' (tAdd B t u clampL).2 (x + y).toInt ∧ B.length ≤ (tAdd B t u clampL).1.length := by
  have r1 := tOK_rg hb ht
  have r2 := tOK_rg hb hu
  refine tAdd_ok hb ht hu (fun hc => ?_) (fun hc => ?_)
  · have := clampL_in hc
    simp only at this
    exact l_add (by omega) (by omega)
  · rw [clampL_no hc]
    exact i64r _
theorem subL_ok (hb : bOK ρ B) {t u : Tm} {x y : Int64} (ht : tOK B.length ρ t x.toInt) (hu : tOK B.length ρ u y.toInt) : ∃ ρ', ext B.length ρ ρ' ∧ bOK ρ' (tSub B t u clampL).1 ∧ tOK (tSub B t u clampL).1.length ρ' (tSub B t u clampL).2 (x - y).toInt ∧ B.length ≤ (tSub B t u clampL).1.length := by
  have r1 := tOK_rg hb ht
  have r2 := tOK_rg hb hu
  refine tSub_ok hb ht hu (fun hc => ?_) (fun hc => ?_)
  · have := clampL_in hc
    simp only at this
    exact l_sub (by omega) (by omega)
  · rw [clampL_no hc]
    exact i64r _
theorem suc_br (g : gam ρ (B, AL, Ast, F) L st h) (hh : HI h) {A : List AV} {st2 : List Value} (hr : al2 (vm B.length ρ) A st2) {q : Jvm.ClassFile.Cond} {t u : Tm} {x y : Int} {tgt nxt : Nat} (ht : tOK B.length ρ t x) (hu : tOK B.length ρ u y) (sx : smI x) (sy : smI y)
    (hs : hstep X i o pc L st h = some (if cndI q x y = true then tgt else nxt, L, st2, h)) : Suc X W i o pc (B, AL, Ast, F) L st h ρ (brs q B t u tgt nxt AL A F) := by
  obtain ⟨B', m, b, n⟩ := brs_ok (q := q) (tgt := tgt) (nxt := nxt) (L := AL) (st := A) (F := F) g.1 ht hu sx sy
  have g2 := gam_ext (B := B) (B' := B') (AL := AL) (Ast := A) (F := F) (st := st2) ⟨g.1, g.2.1, hr, g.2.2.2⟩ b (Nat.le_of_eq n.symm) ext_refl
  exact suc_one hh m hs g2 ext_refl (Nat.le_of_eq n.symm) rfl
theorem jump_some {pc : Nat} {off : Int} {t : Nat} (h : jump pc off = some t) : jump pc off = some t := h
end SV
