/-! What fits a pattern is of it. -/
theorem avLe_ok {n : Nat} {ρ ρ' : Nat → Int} {σ : List Tm} (hσ : ∀ v, v < σ.length → tOK n ρ (σ.getD v (0, 0)) (ρ' v)) {a s : AV} {v : Value} (h : avLe σ a s = true) (hv : vm n ρ s v) : vm σ.length ρ' a v := by
  obtain ⟨k, t, u, l⟩ := a
  match k, h with
  | 0, h => exact vm_cat h hv
  | 1, h =>
    simp only [avLe, Bool.and_eq_true, beq_iff_eq, decide_eq_true_eq] at h
    obtain ⟨⟨h1, h2⟩, h3⟩ := h
    obtain ⟨x, rfl, hx⟩ := vm1 h1 hv
    rw [h2] at hx
    exact ⟨x, rfl, sub_ok hσ h3 hx⟩
  | 2, h =>
    simp only [avLe, Bool.and_eq_true, beq_iff_eq, decide_eq_true_eq] at h
    obtain ⟨⟨h1, h2⟩, h3⟩ := h
    obtain ⟨x, rfl, hx⟩ := vm2 h1 hv
    rw [h2] at hx
    exact ⟨x, rfl, sub_ok hσ h3 hx⟩
  | 3, h =>
    simp only [avLe, Bool.and_eq_true, beq_iff_eq, List.all_eq_true] at h
    obtain ⟨h1, h2⟩ := h
    obtain ⟨b, rfl, hb⟩ := vm3 h1 hv
    exact ⟨b, rfl, by simpa using h2 b hb⟩
  | 4, h => cases h
  | _ + 5, _ => trivial
theorem avsLe_ok {n : Nat} {ρ ρ' : Nat → Int} {σ : List Tm} (hσ : ∀ v, v < σ.length → tOK n ρ (σ.getD v (0, 0)) (ρ' v)) : ∀ {A S : List AV} {L : List Value}, avsLe σ A S = true → al2 (vm n ρ) S L → al2 (vm σ.length ρ') A L
  | [], [], [], _, _ => trivial
  | a :: A, s :: S, v :: L, h, g => ⟨avLe_ok hσ ((Bool.and_eq_true _ _).mp h).1 g.1, avsLe_ok hσ ((Bool.and_eq_true _ _).mp h).2 g.2⟩
  | [], _ :: _, _, h, _ => by cases h
  | _ :: _, [], _, h, _ => by cases h
  | [], [], _ :: _, _, g => g.elim
  | _ :: _, _ :: _, [], _, g => g.elim
theorem num_t {n : Nat} {ρ : Nat → Int} {a : AV} {v : Value} (ha : numA a = true) (h : vm n ρ a v) : a.2.1.1 ≤ n := by
  rcases (Bool.or_eq_true _ _).mp ha with h1 | h1
  · obtain ⟨x, -, hx⟩ := vm1 (by simpa using h1) h
    exact hx.1
  · obtain ⟨x, -, hx⟩ := vm2 (by simpa using h1) h
    exact hx.1
theorem num_at {n : Nat} {ρ : Nat → Int} {A : List AV} {L : List Value} (g : al2 (vm n ρ) A L) {k : Nat} (h : numA (A.getD k jT) = true) : (A.getD k jT).2.1.1 ≤ n ∧ ∃ v, L[k]? = some v ∧ vm n ρ (A.getD k jT) v := by
  cases e : A[k]? with
  | none =>
    rw [List.getD_eq_getElem?_getD, e] at h
    cases h
  | some a =>
    obtain ⟨v, h1, h2⟩ := al2_get g e
    have e2 : A.getD k jT = a := by rw [List.getD_eq_getElem?_getD, e]; rfl
    rw [e2] at h ⊢
    exact ⟨num_t h h2, v, h1, h2⟩
theorem ids_at {n v : Nat} {l : List Tm} (hv : v < n) : (ids n ++ l).getD v (0, 0) = (v + 1, 0) := by
  unfold ids
  rw [List.getD_eq_getElem?_getD, List.getElem?_append_left (by simpa using hv), List.getElem?_map, List.getElem?_range hv]
  rfl
theorem ids_len {n : Nat} {l : List Tm} : (ids n ++ l).length = n + l.length := by simp [ids]
theorem sig_ok {n nv : Nat} {ρ : Nat → Int} {rest : List Tm} (hn : nv ≤ n) (hr : ∀ t ∈ rest, t.1 ≤ n) : (∀ v, v < (ids nv ++ rest).length → tOK n ρ ((ids nv ++ rest).getD v (0, 0)) (ev ρ ((ids nv ++ rest).getD v (0, 0)))) ∧ ext nv ρ (fun v => ev ρ ((ids nv ++ rest).getD v (0, 0))) := by
  constructor
  · intro v hv
    refine ⟨?_, rfl⟩
    by_cases h : v < nv
    · rw [ids_at h]
      show v + 1 ≤ n
      omega
    · have hl : (ids nv).length = nv := by simp [ids]
      have h2 : v - nv < rest.length := by rw [ids_len] at hv; omega
      have e : (ids nv ++ rest).getD v (0, 0) = rest[v - nv] := by
        rw [List.getD_eq_getElem?_getD, List.getElem?_append_right (by omega), hl, List.getElem?_eq_getElem h2]
        rfl
      rw [e]
      exact hr _ (List.getElem_mem h2)
  · intro v hv
    show ev ρ ((ids nv ++ rest).getD v (0, 0)) = ρ v
    rw [ids_at hv]
    show ρ v + 0 = ρ v
    omega
theorem vS_ok {ρ : Nat → Int} {S : AS} {L M st : List Value} {h : Hp} {l : List AV} {F : List (Nat × Nat × Tm)} {j : Nat} {t : Tm} (g : gam ρ S L st h) (gl : al2 (vm S.1.length ρ) l M) (ht : vS S l F j = some t) : t.1 ≤ S.1.length := by
  unfold vS at ht
  split at ht
  · obtain ⟨h1, ht⟩ := inv_if ht
    cases ht
    exact (num_at gl h1).1
  · split at ht
    · exact (g.2.2.2 _ (fGet_in ht)).1.1
    · cases ht
theorem fFit_ok {ρ ρ' : Nat → Int} {S : AS} {L st : List Value} {h : Hp} {σ : List Tm} {n : Nat} {F : List (Nat × Nat × Tm)} (g : gam ρ S L st h) (hσ : ∀ v, v < σ.length → tOK S.1.length ρ (σ.getD v (0, 0)) (ρ' v)) (hn : σ.length = n) (hf : fFit S σ n F = true) :
    ∀ q ∈ F, tOK n ρ' q.2.2 (h.2.1 q.1 q.2.1).toInt ∧ ∃ ci, SHl[q.1]? = some (.inr ci) := by
  intro q hq
  have h5 := List.all_eq_true.mp hf q hq
  simp only [Bool.and_eq_true, decide_eq_true_eq] at h5
  have h6 := g.2.2.2 _ (fGet_in h5.1)
  refine ⟨?_, h6.2⟩
  rw [← hn]
  exact sub_ok hσ (by rw [hn]; exact h5.2) h6.1
theorem cutFit_ok {nv : Nat} {ρ : Nat → Int} {S : AS} {L st : List Value} {h : Hp} {C : Cut} (g : gam ρ S L st h) (hn : nv ≤ S.1.length) (hf : cutFit nv S C = true) :
    ∃ ρ', ext nv ρ ρ' ∧ gam ρ' (C.2.1, C.2.2.1, [], kF C) L [] h ∧ st = [] ∧ nv ≤ C.2.1.length := by
  unfold cutFit at hf
  obtain ⟨h1234, h5⟩ := (Bool.and_eq_true _ _).mp hf
  obtain ⟨h123, h4⟩ := (Bool.and_eq_true _ _).mp h1234
  obtain ⟨h12, h3⟩ := (Bool.and_eq_true _ _).mp h123
  obtain ⟨h1, h2⟩ := (Bool.and_eq_true _ _).mp h12
  have hst : st = [] := by
    have e : S.2.2.1 = [] := by simpa using h1
    have := al2_len g.2.2.1
    rw [e] at this
    exact List.length_eq_zero_iff.mp this.symm
  obtain ⟨k1, k2⟩ := sig_ok (ρ := ρ) (rest := C.2.2.2.1.map (fun k => (vS S S.2.1 (kF C) k).getD (0, 0))) hn (fun t ht => by
    obtain ⟨k, hk, rfl⟩ := List.mem_map.mp ht
    obtain ⟨t, ht⟩ := Option.isSome_iff_exists.mp (List.all_eq_true.mp h2 k hk)
    rw [ht]
    exact vS_ok g g.2.1 ht)
  have hl := bdLe_len h3
  refine ⟨_, k2, ⟨bd_of g.1 k1 h3, ?_, trivial, fFit_ok g k1 hl h5⟩, hst, ?_⟩
  · show al2 (vm C.2.1.length _) C.2.2.1 L
    rw [← hl]
    exact avsLe_ok k1 h4 g.2.1
  · rw [← hl]
    unfold cutSg
    rw [ids_len]
    omega
def Qpost (nv : Nat) (ρ0 : Nat → Int) (posts : List Post) (v : Option Value) (h' : Hp) : Prop :=
  ∃ P ∈ posts, ∃ ρ', ext nv ρ0 ρ' ∧ bOK ρ' P.1 ∧ nv ≤ P.1.length ∧ al2 (vm P.1.length ρ') P.2.1 v.toList ∧ ∀ q ∈ P.2.2.1, tOK P.1.length ρ' q.2.2 (h'.2.1 q.1 q.2.1).toInt ∧ ∃ ci, SHl[q.1]? = some (.inr ci)
theorem postFit_ok {nv : Nat} {ρ0 ρ : Nat → Int} {S : AS} {L : List Value} {h : Hp} {v : Option Value} {posts : List Post} (g : gam ρ S L v.toList h) (hn : nv ≤ S.1.length) (he : ext nv ρ0 ρ) (hf : posts.any (postFit nv S) = true) : Qpost nv ρ0 posts v h := by
  obtain ⟨P, hP, hf⟩ := List.any_eq_true.mp hf
  unfold postFit at hf
  obtain ⟨h123, h4⟩ := (Bool.and_eq_true _ _).mp hf
  obtain ⟨h12, h3⟩ := (Bool.and_eq_true _ _).mp h123
  obtain ⟨h1, h2⟩ := (Bool.and_eq_true _ _).mp h12
  obtain ⟨k1, k2⟩ := sig_ok (ρ := ρ) (rest := P.2.2.2.map (fun q => (srcT S q).getD (0, 0))) hn (fun t ht => by
    obtain ⟨q, hq, rfl⟩ := List.mem_map.mp ht
    obtain ⟨t, ht⟩ := Option.isSome_iff_exists.mp (List.all_eq_true.mp h1 q hq)
    rw [ht]
    show t.1 ≤ _
    unfold srcT at ht
    split at ht
    · split at ht
      · rename_i a A hA
        obtain ⟨ha, ht⟩ := inv_if ht
        cases ht
        have g3 := g.2.2.1
        rw [hA] at g3
        obtain ⟨w, _, -, hw, -⟩ := al2_cons g3
        exact num_t ha hw
      · cases ht
    · exact (g.2.2.2 _ (fGet_in ht)).1.1)
  have hl := bdLe_len h2
  refine ⟨P, hP, _, ext_trans (Nat.le_refl _) he k2, bd_of g.1 k1 h2, ?_, ?_, fun q hq => ?_⟩
  · rw [← hl, ids_len]
    omega
  · rw [← hl]
    exact avsLe_ok k1 h3 g.2.2.1
  · have h5 := List.all_eq_true.mp h4 q hq
    simp only [Bool.and_eq_true, decide_eq_true_eq] at h5
    have h6 := g.2.2.2 _ (fGet_in h5.1)
    refine ⟨?_, h6.2⟩
    rw [← hl]
    exact sub_ok k1 (by rw [hl]; exact h5.2) h6.1
/-- a measure's numbers -/
def intV (v : Value) : Int := match v with
  | .int x => x.toInt
  | .long x => x.toInt
  | _ => 0
def mOne (L : List Value) (x : Nat × Nat × Int) : Nat := match x.1 with
  | 0 => x.2.2.toNat
  | 1 => (x.2.2 - intV (L.getD x.2.1 (.retAddr 0))).toNat
  | _ => (intV (L.getD x.2.1 (.retAddr 0)) - x.2.2).toNat
theorem num_val {n : Nat} {ρ : Nat → Int} {A : List AV} {L : List Value} (g : al2 (vm n ρ) A L) {k : Nat} (h : numA (A.getD k jT) = true) : tOK n ρ (A.getD k jT).2.1 (intV (L.getD k (.retAddr 0))) := by
  obtain ⟨-, v, e, hv⟩ := num_at g h
  have e2 : L.getD k (.retAddr 0) = v := by rw [List.getD_eq_getElem?_getD, e]; rfl
  rw [e2]
  rcases (Bool.or_eq_true _ _).mp h with h1 | h1
  · obtain ⟨x, rfl, hx⟩ := vm1 (by simpa using h1) hv
    exact hx
  · obtain ⟨x, rfl, hx⟩ := vm2 (by simpa using h1) hv
    exact hx
