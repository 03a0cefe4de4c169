/-! Matching of symbolic states; bounds drawn in. -/
def al2 (P : AV → Value → Prop) : List AV → List Value → Prop
  | [], [] => True
  | a :: l, v :: m => P a v ∧ al2 P l m
  | _, _ => False
theorem al2_len {P : AV → Value → Prop} : ∀ {l : List AV} {m : List Value}, al2 P l m → l.length = m.length
  | [], [], _ => rfl
  | a :: l, v :: m, h => by
    have := al2_len h.2
    simp [this]
  | [], _ :: _, h => h.elim
  | _ :: _, [], h => h.elim
theorem al2_get {P : AV → Value → Prop} : ∀ {l : List AV} {m : List Value}, al2 P l m → ∀ {k : Nat} {a : AV}, l[k]? = some a → ∃ v, m[k]? = some v ∧ P a v
  | a :: l, v :: m, h, 0, a', e => by cases e; exact ⟨v, rfl, h.1⟩
  | a :: l, v :: m, h, k + 1, a', e => al2_get (l := l) (m := m) h.2 (k := k) (by simpa using e)
  | [], [], _, _, _, e => by cases e
  | [], _ :: _, h, _, _, _ => h.elim
  | _ :: _, [], h, _, _, _ => h.elim
theorem al2_set {P : AV → Value → Prop} : ∀ {l : List AV} {m : List Value}, al2 P l m → ∀ {k : Nat} {a : AV} {v : Value}, P a v → al2 P (l.set k a) (m.set k v)
  | a :: l, v :: m, h, 0, _, _, e => ⟨e, h.2⟩
  | a :: l, v :: m, h, k + 1, _, _, e => ⟨h.1, al2_set (l := l) (m := m) h.2 e⟩
  | [], [], _, _, _, _, _ => trivial
  | [], _ :: _, h, _, _, _, _ => h.elim
  | _ :: _, [], h, _, _, _, _ => h.elim
theorem al2_mono {P Q : AV → Value → Prop} (hPQ : ∀ a v, P a v → Q a v) : ∀ {l : List AV} {m : List Value}, al2 P l m → al2 Q l m
  | [], [], _ => trivial
  | a :: l, v :: m, h => ⟨hPQ _ _ h.1, al2_mono hPQ h.2⟩
  | [], _ :: _, h => h.elim
  | _ :: _, [], h => h.elim
def ext (n : Nat) (ρ ρ' : Nat → Int) : Prop := ∀ v, v < n → ρ' v = ρ v
theorem ext_refl {n : Nat} {ρ : Nat → Int} : ext n ρ ρ := fun _ _ => rfl
theorem ext_trans {n m : Nat} {ρ ρ' ρ'' : Nat → Int} (hnm : n ≤ m) (h1 : ext n ρ ρ') (h2 : ext m ρ' ρ'') : ext n ρ ρ'' := fun v hv => (h2 v (Nat.lt_of_lt_of_le hv hnm)).trans (h1 v hv)
theorem tOK_ext {n m : Nat} {ρ ρ' : Nat → Int} {t : Tm} {x : Int} (hnm : n ≤ m) (he : ext n ρ ρ') (h : tOK n ρ t x) : tOK m ρ' t x := by
  obtain ⟨h1, h2⟩ := h
  refine ⟨Nat.le_trans h1 hnm, ?_⟩
  rw [h2]
  obtain ⟨v, c⟩ := t
  cases v with
  | zero => rfl
  | succ v => show ρ v + c = ρ' v + c; rw [he v h1]
theorem vm_ext {n m : Nat} {ρ ρ' : Nat → Int} {a : AV} {v : Value} (hnm : n ≤ m) (he : ext n ρ ρ') (h : vm n ρ a v) : vm m ρ' a v := by
  obtain ⟨k, t, u, l⟩ := a
  match k, h with
  | 0, h => exact h
  | 1, ⟨x, e, h⟩ => exact ⟨x, e, tOK_ext hnm he h⟩
  | 2, ⟨x, e, h⟩ => exact ⟨x, e, tOK_ext hnm he h⟩
  | 3, h => exact h
  | 4, ⟨x, y, e, h, h'⟩ => exact ⟨x, y, e, tOK_ext hnm he h, tOK_ext hnm he h'⟩
  | _ + 5, _ => trivial
def gam (ρ : Nat → Int) (S : AS) (L st : List Value) (h : Hp) : Prop := bOK ρ S.1 ∧ al2 (vm S.1.length ρ) S.2.1 L ∧ al2 (vm S.1.length ρ) S.2.2.1 st ∧ ∀ q ∈ S.2.2.2, tOK S.1.length ρ q.2.2 (h.2.1 q.1 q.2.1).toInt ∧ ∃ ci, SHl[q.1]? = some (.inr ci)
theorem gam_ext {ρ ρ' : Nat → Int} {B B' : Bd} {AL Ast : List AV} {F : List (Nat × Nat × Tm)} {L st : List Value} {h : Hp} (g : gam ρ (B, AL, Ast, F) L st h) (hb : bOK ρ' B') (hl : B.length ≤ B'.length) (he : ext B.length ρ ρ') : gam ρ' (B', AL, Ast, F) L st h :=
  ⟨hb, al2_mono (fun _ _ => vm_ext hl he) g.2.1, al2_mono (fun _ _ => vm_ext hl he) g.2.2.1, fun q hq => ⟨tOK_ext hl he (g.2.2.2 q hq).1, (g.2.2.2 q hq).2⟩⟩
theorem tOK_rg {ρ : Nat → Int} {B : Bd} {t : Tm} {x : Int} (hb : bOK ρ B) (h : tOK B.length ρ t x) : tlo B t ≤ x ∧ x ≤ thi B t := by
  obtain ⟨h1, h2⟩ := h
  obtain ⟨v, c⟩ := t
  cases v with
  | zero =>
    have h2 : x = 0 + c := h2
    exact ⟨by show (0 : Int) + c ≤ x; omega, by show x ≤ (0 : Int) + c; omega⟩
  | succ v =>
    have h1 : v < B.length := h1
    have h2 : x = ρ v + c := h2
    have h3 := hb v B[v] (List.getElem?_eq_getElem h1)
    have h4 : bd B (v + 1) = B[v] := by show B.getD v (0, 0) = _; rw [List.getD_eq_getElem?_getD, List.getElem?_eq_getElem h1]; rfl
    constructor
    · show (bd B (v + 1)).1 + c ≤ x; rw [h4]; omega
    · show x ≤ (bd B (v + 1)).2 + c; rw [h4]; omega
theorem tOK_c {n : Nat} {ρ : Nat → Int} (c : Int) : tOK n ρ (0, c) c := ⟨Nat.zero_le _, by show c = 0 + c; omega⟩
theorem frT_ok {ρ : Nat → Int} {B : Bd} {r : Int × Int} {x : Int} (hb : bOK ρ B) (h1 : r.1 ≤ x) (h2 : x ≤ r.2) : ∃ ρ', ext B.length ρ ρ' ∧ bOK ρ' (frT B r).1 ∧ tOK (frT B r).1.length ρ' (frT B r).2 x ∧ B.length ≤ (frT B r).1.length := by
  unfold frT
  by_cases hr : r.1 = r.2
  · rw [if_pos hr]
    refine ⟨ρ, ext_refl, hb, ?_, Nat.le_refl _⟩
    have : x = r.1 := by omega
    rw [this]
    exact tOK_c _
  · rw [if_neg hr]
    refine ⟨fun v => if v = B.length then x else ρ v, fun v hv => if_neg (Nat.ne_of_lt hv), ?_, ?_, by simp⟩
    · intro v q hq
      by_cases hv : v = B.length
      · subst hv
        have hq : (B ++ [r])[B.length]? = some q := hq
        rw [List.getElem?_append_right (Nat.le_refl _), Nat.sub_self] at hq
        cases hq
        show r.1 ≤ (if B.length = B.length then x else ρ B.length) ∧ (if B.length = B.length then x else ρ B.length) ≤ r.2
        rw [if_pos rfl]
        exact ⟨h1, h2⟩
      · have hl : v < B.length := by
          have := (List.getElem?_eq_some_iff.mp hq).1
          simp at this
          omega
        have hq : (B ++ [r])[v]? = some q := hq
        rw [List.getElem?_append_left hl] at hq
        show q.1 ≤ (if v = B.length then x else ρ v) ∧ (if v = B.length then x else ρ v) ≤ q.2
        rw [if_neg hv]
        exact hb v q hq
    · refine ⟨by simp, ?_⟩
      show x = (if B.length = B.length then x else ρ B.length) + 0
      rw [if_pos rfl]
      omega
theorem refn_ok {ρ : Nat → Int} {B : Bd} {t : Tm} {x lo hi : Int} (hb : bOK ρ B) (ht : tOK B.length ρ t x) (h1 : lo ≤ x) (h2 : x ≤ hi) : ∃ B', refn B t lo hi = some B' ∧ bOK ρ B' ∧ B'.length = B.length := by
  obtain ⟨k1, k2⟩ := ht
  obtain ⟨v, c⟩ := t
  cases v with
  | zero =>
    have k2 : x = 0 + c := k2
    exact ⟨B, by show (if lo ≤ c ∧ c ≤ hi then some B else none) = some B; rw [if_pos (by omega)], hb, rfl⟩
  | succ v =>
    have k1 : v < B.length := k1
    have k2 : x = ρ v + c := k2
    have h4 : B[v]? = some B[v] := List.getElem?_eq_getElem k1
    obtain ⟨g1, g2⟩ := hb v B[v] h4
    refine ⟨B.set v (max B[v].1 (lo - c), min B[v].2 (hi - c)), ?_, ?_, by simp⟩
    · unfold refn
      simp only [h4]
      rw [if_pos (by omega)]
    · intro w q hq
      by_cases hw : w = v
      · subst hw
        rw [List.getElem?_set_self k1] at hq
        cases hq
        constructor
        · show max B[w].1 (lo - c) ≤ ρ w; omega
        · show ρ w ≤ min B[w].2 (hi - c); omega
      · rw [List.getElem?_set_ne (Ne.symm hw)] at hq
        exact hb w q hq
def okB (ρ : Nat → Int) (B : Bd) (o : Option Bd) : Prop := ∃ B', o = some B' ∧ bOK ρ B' ∧ B'.length = B.length
theorem two_ok {ρ : Nat → Int} {B : Bd} {t u : Tm} {x y : Int} {l1 h1 : Int} {l2 h2 : Bd → Int} (hb : bOK ρ B) (ht : tOK B.length ρ t x) (hu : tOK B.length ρ u y) (a1 : l1 ≤ x) (a2 : x ≤ h1) (a3 : ∀ B', bOK ρ B' → B'.length = B.length → l2 B' ≤ y ∧ y ≤ h2 B') :
    okB ρ B (match refn B t l1 h1 with | some B' => refn B' u (l2 B') (h2 B') | none => none) := by
  obtain ⟨B1, e1, b1, n1⟩ := refn_ok hb ht a1 a2
  rw [e1]
  obtain ⟨c1, c2⟩ := a3 B1 b1 n1
  obtain ⟨B2, e2, b2, n2⟩ := refn_ok b1 (by rw [n1]; exact hu) c1 c2
  exact ⟨B2, e2, b2, n2.trans n1⟩
def smI (x : Int) : Prop := -BIGI ≤ x ∧ x ≤ BIGI
theorem lt2_ok {ρ : Nat → Int} {B : Bd} {t u : Tm} {x y : Int} (hb : bOK ρ B) (ht : tOK B.length ρ t x) (hu : tOK B.length ρ u y) (sx : smI x) (sy : smI y) (h : x < y) : okB ρ B (lt2 B t u) :=
  two_ok (l2 := fun B' => tlo B' t + 1) (h2 := fun _ => BIGI) hb ht hu sx.1 (by have := (tOK_rg hb hu).2; omega) (fun B' b' n' => ⟨by have := (tOK_rg b' (by rw [n']; exact ht)).1; show tlo B' t + 1 ≤ y; omega, sy.2⟩)
theorem le2_ok {ρ : Nat → Int} {B : Bd} {t u : Tm} {x y : Int} (hb : bOK ρ B) (ht : tOK B.length ρ t x) (hu : tOK B.length ρ u y) (sx : smI x) (sy : smI y) (h : x ≤ y) : okB ρ B (le2 B t u) :=
  two_ok (l2 := fun B' => tlo B' t) (h2 := fun _ => BIGI) hb ht hu sx.1 (by have := (tOK_rg hb hu).2; omega) (fun B' b' n' => ⟨by have := (tOK_rg b' (by rw [n']; exact ht)).1; show tlo B' t ≤ y; omega, sy.2⟩)
theorem eq2_ok {ρ : Nat → Int} {B : Bd} {t u : Tm} {x y : Int} (hb : bOK ρ B) (ht : tOK B.length ρ t x) (hu : tOK B.length ρ u y) (h : x = y) : okB ρ B (eq2 B t u) :=
  two_ok (l2 := fun B' => tlo B' t) (h2 := fun B' => thi B' t) hb ht hu (by have := (tOK_rg hb hu).1; omega) (by have := (tOK_rg hb hu).2; omega) (fun B' b' n' => by have := tOK_rg b' (show tOK B'.length ρ t x by rw [n']; exact ht); exact ⟨by omega, by omega⟩)
def inB2 (ρ : Nat → Int) (B : Bd) (l : List Bd) : Prop := ∃ B' ∈ l, bOK ρ B' ∧ B'.length = B.length
theorem okB.inB2 {ρ : Nat → Int} {B : Bd} {o : Option Bd} (h : okB ρ B o) : inB2 ρ B o.toList := by
  obtain ⟨B', e, h⟩ := h
  subst e
  exact ⟨B', by simp, h⟩
theorem ne2_ok {ρ : Nat → Int} {B : Bd} {t u : Tm} {x y : Int} (hb : bOK ρ B) (ht : tOK B.length ρ t x) (hu : tOK B.length ρ u y) (sx : smI x) (sy : smI y) (h : ¬ x = y) : inB2 ρ B (ne2 B t u) := by
  unfold ne2
  split
  · split
    · rcases Int.lt_or_gt_of_ne h with h | h
      · obtain ⟨B', m, r⟩ := (lt2_ok hb ht hu sx sy h).inB2
        exact ⟨B', List.mem_append_left _ m, r⟩
      · obtain ⟨B', m, r⟩ := (lt2_ok hb hu ht sy sx h).inB2
        exact ⟨B', List.mem_append_right _ m, r⟩
    · exact ⟨B, by simp, hb, rfl⟩
  · exact ⟨B, by simp, hb, rfl⟩
theorem cnd2_ok {ρ : Nat → Int} {B : Bd} {t u : Tm} {x y : Int} {q : Jvm.ClassFile.Cond} (hb : bOK ρ B) (ht : tOK B.length ρ t x) (hu : tOK B.length ρ u y) (sx : smI x) (sy : smI y) (h : cndI q x y = true) : inB2 ρ B (cnd2 q B t u) := by
  cases q <;> have h := of_decide_eq_true h
  · exact (eq2_ok hb ht hu h).inB2
  · exact ne2_ok hb ht hu sx sy h
  · exact (lt2_ok hb ht hu sx sy h).inB2
  · exact (le2_ok hb hu ht sy sx h).inB2
  · exact (lt2_ok hb hu ht sy sx h).inB2
  · exact (le2_ok hb ht hu sx sy h).inB2
theorem cndI_ngc {q : Jvm.ClassFile.Cond} {x y : Int} (h : cndI q x y = false) : cndI (ngc q) x y = true := by
  cases q <;> have h := of_decide_eq_false h <;> refine decide_eq_true ?_ <;> omega
theorem brs_ok {ρ : Nat → Int} {B : Bd} {t u : Tm} {x y : Int} {q : Jvm.ClassFile.Cond} {tgt nxt : Nat} {L st : List AV} {F : List (Nat × Nat × Tm)} (hb : bOK ρ B) (ht : tOK B.length ρ t x) (hu : tOK B.length ρ u y) (sx : smI x) (sy : smI y) :
    ∃ B', ((if cndI q x y = true then tgt else nxt), B', L, st, F) ∈ brs q B t u tgt nxt L st F ∧ bOK ρ B' ∧ B'.length = B.length := by
  unfold brs
  by_cases h : cndI q x y = true
  · rw [if_pos h]
    obtain ⟨B', m, r⟩ := cnd2_ok hb ht hu sx sy h
    exact ⟨B', List.mem_append_left _ (List.mem_map.mpr ⟨B', m, rfl⟩), r⟩
  · rw [if_neg h]
    obtain ⟨B', m, r⟩ := cnd2_ok hb ht hu sx sy (cndI_ngc (by simpa using h))
    exact ⟨B', List.mem_append_right _ (List.mem_map.mpr ⟨B', m, rfl⟩), r⟩
theorem clampI_ok {r : Int × Int} {z : Int} (x : Int32) (h : clampI r = r → x.toInt = z) (h1 : r.1 ≤ z) (h2 : z ≤ r.2) : (clampI r).1 ≤ x.toInt ∧ x.toInt ≤ (clampI r).2 := by
  by_cases hc : -2147483648 ≤ r.1 ∧ r.2 ≤ 2147483647
  · have e : clampI r = r := if_pos hc
    rw [e, h e]
    exact ⟨h1, h2⟩
  · have e : clampI r = fI := if_neg hc
    rw [e]
    exact i32r x
theorem clampI_in {r : Int × Int} (h : clampI r = r) : -2147483648 ≤ r.1 ∧ r.2 ≤ 2147483647 := by
  by_cases hc : -2147483648 ≤ r.1 ∧ r.2 ≤ 2147483647
  · exact hc
  · have e : clampI r = fI := if_neg hc
    rw [← h, e]
    exact ⟨Int.le_refl _, Int.le_refl _⟩
theorem clampL_in {r : Int × Int} (h : clampL r = r) : -9223372036854775808 ≤ r.1 ∧ r.2 ≤ 9223372036854775807 := by
  by_cases hc : -9223372036854775808 ≤ r.1 ∧ r.2 ≤ 9223372036854775807
  · exact hc
  · have e : clampL r = fL := if_neg hc
    rw [← h, e]
    exact ⟨Int.le_refl _, Int.le_refl _⟩
theorem clampI_no {r : Int × Int} (h : ¬ clampI r = r) : clampI r = fI := by
  by_cases hc : -2147483648 ≤ r.1 ∧ r.2 ≤ 2147483647
  · exact absurd (if_pos hc) h
  · exact if_neg hc
theorem clampL_no {r : Int × Int} (h : ¬ clampL r = r) : clampL r = fL := by
  by_cases hc : -9223372036854775808 ≤ r.1 ∧ r.2 ≤ 9223372036854775807
  · exact absurd (if_pos hc) h
  · exact if_neg hc
/-- a sum: z is what the machine gives, in bounds it is the sum -/
theorem tAdd_ok {ρ : Nat → Int} {B : Bd} {t u : Tm} {x y z : Int} {c : (Int × Int) → (Int × Int)} (hb : bOK ρ B) (ht : tOK B.length ρ t x) (hu : tOK B.length ρ u y) (hz : c (tlo B t + tlo B u, thi B t + thi B u) = (tlo B t + tlo B u, thi B t + thi B u) → z = x + y)
    (hf : ¬ c (tlo B t + tlo B u, thi B t + thi B u) = (tlo B t + tlo B u, thi B t + thi B u) → (c (tlo B t + tlo B u, thi B t + thi B u)).1 ≤ z ∧ z ≤ (c (tlo B t + tlo B u, thi B t + thi B u)).2) :
    ∃ ρ', ext B.length ρ ρ' ∧ bOK ρ' (tAdd B t u c).1 ∧ tOK (tAdd B t u c).1.length ρ' (tAdd B t u c).2 z ∧ B.length ≤ (tAdd B t u c).1.length := by
  unfold tAdd
  have r1 := tOK_rg hb ht
  have r2 := tOK_rg hb hu
  by_cases hc : c (tlo B t + tlo B u, thi B t + thi B u) = (tlo B t + tlo B u, thi B t + thi B u)
  · rw [if_pos hc]
    have hz := hz hc
    obtain ⟨t1, t2⟩ := t
    obtain ⟨u1, u2⟩ := u
    by_cases h1 : u1 = 0
    · subst h1
      rw [if_pos rfl]
      have hu2 : y = 0 + u2 := hu.2
      have ht2 : x = rv ρ t1 + t2 := ht.2
      exact ⟨ρ, ext_refl, hb, ⟨ht.1, by show z = rv ρ t1 + (t2 + u2); omega⟩, Nat.le_refl _⟩
    · rw [if_neg h1]
      by_cases h2 : t1 = 0
      · subst h2
        rw [if_pos rfl]
        have hu2 : y = rv ρ u1 + u2 := hu.2
        have ht2 : x = 0 + t2 := ht.2
        exact ⟨ρ, ext_refl, hb, ⟨hu.1, by show z = rv ρ u1 + (u2 + t2); omega⟩, Nat.le_refl _⟩
      · rw [if_neg h2]
        exact frT_ok hb (show tlo B (t1, t2) + tlo B (u1, u2) ≤ z by omega) (show z ≤ thi B (t1, t2) + thi B (u1, u2) by omega)
  · rw [if_neg hc]
    obtain ⟨f1, f2⟩ := hf hc
    exact frT_ok hb f1 f2
theorem tSub_ok {ρ : Nat → Int} {B : Bd} {t u : Tm} {x y z : Int} {c : (Int × Int) → (Int × Int)} (hb : bOK ρ B) (ht : tOK B.length ρ t x) (hu : tOK B.length ρ u y) (hz : c (tlo B t - thi B u, thi B t - tlo B u) = (tlo B t - thi B u, thi B t - tlo B u) → z = x - y)
    (hf : ¬ c (tlo B t - thi B u, thi B t - tlo B u) = (tlo B t - thi B u, thi B t - tlo B u) → (c (tlo B t - thi B u, thi B t - tlo B u)).1 ≤ z ∧ z ≤ (c (tlo B t - thi B u, thi B t - tlo B u)).2) :
    ∃ ρ', ext B.length ρ ρ' ∧ bOK ρ' (tSub B t u c).1 ∧ tOK (tSub B t u c).1.length ρ' (tSub B t u c).2 z ∧ B.length ≤ (tSub B t u c).1.length := by
  unfold tSub
  have r1 := tOK_rg hb ht
  have r2 := tOK_rg hb hu
  by_cases hc : c (tlo B t - thi B u, thi B t - tlo B u) = (tlo B t - thi B u, thi B t - tlo B u)
  · rw [if_pos hc]
    have hz := hz hc
    obtain ⟨t1, t2⟩ := t
    obtain ⟨u1, u2⟩ := u
    by_cases h1 : u1 = 0
    · subst h1
      rw [if_pos rfl]
      have hu2 : y = 0 + u2 := hu.2
      have ht2 : x = rv ρ t1 + t2 := ht.2
      exact ⟨ρ, ext_refl, hb, ⟨ht.1, by show z = rv ρ t1 + (t2 - u2); omega⟩, Nat.le_refl _⟩
    · rw [if_neg h1]
      exact frT_ok hb (show tlo B (t1, t2) - thi B (u1, u2) ≤ z by omega) (show z ≤ thi B (t1, t2) - tlo B (u1, u2) by omega)
  · rw [if_neg hc]
    obtain ⟨f1, f2⟩ := hf hc
    exact frT_ok hb f1 f2
theorem uni_ok : ∀ {l : List (Int × Int)} {q : Int × Int}, q ∈ l → (uni l).1 ≤ q.1 ∧ q.2 ≤ (uni l).2
  | [p], q, h => by
    cases List.mem_singleton.mp h
    exact ⟨Int.le_refl _, Int.le_refl _⟩
  | p :: p' :: l, q, h => by
    show min p.1 (uni (p' :: l)).1 ≤ q.1 ∧ q.2 ≤ max p.2 (uni (p' :: l)).2
    rcases List.mem_cons.mp h with rfl | h
    · omega
    · have := uni_ok h
      omega
theorem rng_ok {r s : Int × Int} {x : Int} (h : rngOK r s = true) (h1 : r.1 ≤ x) (h2 : x ≤ r.2) : s.1 ≤ x ∧ x ≤ s.2 := by
  obtain ⟨a, b⟩ := (Bool.and_eq_true _ _).mp h
  have a := of_decide_eq_true a
  have b := of_decide_eq_true b
  omega
