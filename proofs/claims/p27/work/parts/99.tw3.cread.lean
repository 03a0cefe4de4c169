/-! The class's reading of an E, exactly. -/
theorem cP_len (T : Nat → Int) (n : Nat) : ∀ (k md d a : Nat) (m : List Int), a ≤ n → (cqP T n k md d a m).1 = true → a ≤ (cqP T n k md d a m).2.1 ∧ (cqP T n k md d a m).2.1 ≤ n ∧ (cqP T n k md d a m).2.2.length + a ≤ m.length + (cqP T n k md d a m).2.1
  | 0, md, d, a, m, ha, h => by
    unfold cqP at h
    simp at h
  | k + 1, 0, d, a, m, ha, h => by
    unfold cqP at h ⊢
    split at h
    · rename_i c
      rw [if_pos c]
      have hl : a < n := nx_lt2 c.1 (by decide)
      obtain ⟨i1, i2, i3⟩ := cP_len T n k 0 (d + 1) (a + 1) m (by omega) h
      refine ⟨by dsimp only; omega, i2, ?_⟩
      show ((cqP T n k 0 (d + 1) (a + 1) m).2.2 ++ [-33]).length + a ≤ m.length + (cqP T n k 0 (d + 1) (a + 1) m).2.1
      rw [List.length_append, List.length_singleton]
      omega
    · rename_i c0
      rw [if_neg c0]
      split at h
      · rename_i c
        rw [if_pos c]
        have hl : a < n := nx_lt2 c.1 (by decide)
        split at h
        · rename_i c2
          rw [if_pos c2]
          obtain ⟨i1, i2, i3⟩ := cP_len T n k 2 (d + 1) (a + 1) m (by omega) c2.1
          have hl2 : (cqP T n k 2 (d + 1) (a + 1) m).2.1 < n := nx_lt2 c2.2 (by decide)
          exact ⟨by dsimp only; omega, by dsimp only; omega, by dsimp only; omega⟩
        · simp at h
      · rename_i c
        rw [if_neg c]
        split at h
        · simp at h
        · rename_i b s ht
          have hb := testP_le ht
          refine ⟨by show a ≤ b; omega, hb.2, ?_⟩
          show (m ++ [s]).length + a ≤ m.length + b
          rw [List.length_append, List.length_singleton]
          omega
  | k + 1, 1, d, a, m, ha, h => by
    unfold cqP at h ⊢
    split at h
    · rename_i c
      rw [if_pos c]
      obtain ⟨i1, i2, i3⟩ := cP_len T n k 0 d a m ha c
      obtain ⟨j1, j2, j3⟩ := cP_len T n k 3 d _ _ i2 h
      exact ⟨by omega, j2, by omega⟩
    · rename_i c
      exact absurd h c
  | k + 1, 2, d, a, m, ha, h => by
    unfold cqP at h ⊢
    split at h
    · rename_i c
      rw [if_pos c]
      obtain ⟨i1, i2, i3⟩ := cP_len T n k 1 d a m ha c
      obtain ⟨j1, j2, j3⟩ := cP_len T n k 4 d _ _ i2 h
      exact ⟨by omega, j2, by omega⟩
    · rename_i c
      exact absurd h c
  | k + 1, 3, d, a, m, ha, h => by
    unfold cqP at h ⊢
    split at h
    · rename_i x
      rw [if_pos x]
      have hl : a < n := nx_lt2 x (by decide)
      split at h
      · rename_i c
        rw [if_pos c]
        obtain ⟨i1, i2, i3⟩ := cP_len T n k 0 d (a + 1) m (by omega) c
        obtain ⟨j1, j2, j3⟩ := cP_len T n k 3 d _ _ i2 h
        rw [List.length_append, List.length_singleton] at j3
        exact ⟨by omega, j2, by omega⟩
      · rename_i c
        exact absurd h c
    · rename_i x
      rw [if_neg x]
      exact ⟨Nat.le_refl _, ha, Nat.le_refl _⟩
  | k + 1, md + 4, d, a, m, ha, h => by
    unfold cqP at h ⊢
    split at h
    · rename_i x
      rw [if_pos x]
      have hl : a < n := nx_lt2 x (by decide)
      split at h
      · rename_i c
        rw [if_pos c]
        obtain ⟨i1, i2, i3⟩ := cP_len T n k 1 d (a + 1) m (by omega) c
        obtain ⟨j1, j2, j3⟩ := cP_len T n k 4 d _ _ i2 h
        rw [List.length_append, List.length_singleton] at j3
        exact ⟨by omega, j2, by omega⟩
      · rename_i c
        exact absurd h c
    · rename_i x
      rw [if_neg x]
      exact ⟨Nat.le_refl _, ha, Nat.le_refl _⟩
/-- a mark as the class writes it -/
def trM (s : Int) : Int := if s = -33 then -1 else if s = -38 then -2 else if s = -124 then -3 else 300 * (s / 1000) + s % 1000
def CWE (q : Nat) : List (Nat × Nat) := [(44, 2), (q, 5), (q + 4, 999)]
theorem CWE_n {q a k : Nat} (h1 : ¬ (a = 44 ∧ k = 2)) (h2 : ¬ (a = q ∧ k = 5)) (h3 : ¬ a = q + 4) : inW (CWE q) a k = false := by
  simp only [inW, CWE, List.any_cons, List.any_nil, Bool.or_false, Bool.or_eq_false_iff, Bool.and_eq_false_iff, beq_eq_false_iff_ne, Bool.or_eq_false_iff]
  refine ⟨?_, ?_, ?_⟩
  · by_cases c : 44 = a
    · exact Or.inr ⟨by omega, by decide⟩
    · exact Or.inl c
  · by_cases c : q = a
    · exact Or.inr ⟨by omega, by decide⟩
    · exact Or.inl c
  · exact Or.inl (by omega)
theorem CWE_2 {q : Nat} : inW (CWE q) 44 2 = true := by simp [inW, CWE]
theorem CWE_5 {q : Nat} : inW (CWE q) q 5 = true := by simp [inW, CWE]
theorem CWE_4 {q k : Nat} : inW (CWE q) (q + 4) k = true := by simp [inW, CWE]
theorem CWE_T {q : Nat} (hY : YQ q) (k : Nat) : inW (CWE q) 45 k = false := by
  have := yq_rng hY
  exact CWE_n (by omega) (by omega) (by omega)
theorem CWE_N {q : Nat} (hY : YQ q) : inW (CWE q) 44 1 = false := by
  have := yq_rng hY
  exact CWE_n (by omega) (by omega) (by omega)
theorem CWE_R {q : Nat} (hY : YQ q) : inW (CWE q) 44 3 = false := by
  have := yq_rng hY
  exact CWE_n (by omega) (by omega) (by omega)
theorem sub_A {q : Nat} {h h' : Hp} (hf : frm CWA h h') : frm (CWE q) h h' := frm_sub (W := CWE q) (by simp [subW, CWA, CWE]) hf
/-- what the class has read so far of an E -/
def RSt (q : Nat) (h : Hp) (m : List Int) : Prop := h.2.2.2 44 3 = some q ∧ (h.2.1 q 5).toInt = (m.length : Int) ∧ ∀ j, j < m.length → (h.2.1 (q + 4) j).toInt = trM (m.getD j 0)
theorem iv_q4 {q : Nat} (hY : YQ q) : ∀ j, j < 100 → ivl (q + 4) j = (-2147483648, 2147483647) := by
  have := yq (P := fun q => (List.range 100).all (fun j => decide (ivl (q + 4) j = (-2147483648, 2147483647)))) hY (by decide +kernel)
  exact fun j hj => of_decide_eq_true (List.all_eq_true.mp this j (List.mem_range.mpr hj))
theorem iv_q5 {q : Nat} (hY : YQ q) : ivl q 5 = (0, 100) := of_decide_eq_true (yq (P := fun q => decide (ivl q 5 = (0, 100))) hY (by decide +kernel))
section CRD
variable {X : Scr} {q : Nat} {h : Hp} {Q : Option Value → Hp → Prop}
theorem RSt.fr {h' : Hp} {m : List Int} (hY : YQ q) (hp : RSt q h m) (hf : frm CWA h h') : RSt q h' m := by
  have r := yq_rng hY
  have n1 : inW CWA q 5 = false := by simp [inW, CWA]
  have n2 : ∀ j, inW CWA (q + 4) j = false := fun j => by simp [inW, CWA]; omega
  exact ⟨by rw [(hf 44 3 rfl).2.2]; exact hp.1, by rw [frI hf n1]; exact hp.2.1, fun j hj => by rw [frI hf (n2 j)]; exact hp.2.2 j hj⟩
theorem add_any {dp : Nat} (hY : YQ q) (x : Int32) (hh : HI h) (hQ : ∀ h', HI h' → frm (CWE q) h h' → xA h' = xA h → Q none h') : Ends X dp 55 0 [.ref q, .int x] [] h Q := by
  have r := yq_rng hY
  have b := hh.iv q 5 (r := (0, 100)) (iv_q5 hY)
  have j100 : (100 : Int32).toInt = 100 := rfl
  simp only at b
  refine w_add hY x hh.hs ⟨fun e => hQ h hh frm_refl rfl, fun e => ⟨?_, ?_⟩⟩
  all_goals have e : ¬ (100 : Int32).toInt ≤ (h.2.1 q 5).toInt := of_decide_eq_false (cI e)
  · exact inB_iff (by omega) (by omega)
  · have g : (h.2.1 q 5 + 1).toInt = (h.2.1 q 5).toInt + 1 := by rw [i_add (by rw [i1]; omega) (by rw [i1]; omega), i1]
    have i4 := iv_q4 hY (h.2.1 q 5).toInt.toNat (by omega)
    have i5 := iv_q5 hY
    rw [show (h.2.1 q 5).toNatClampNeg = (h.2.1 q 5).toInt.toNat from rfl]
    generalize (h.2.1 q 5).toInt.toNat = n at i4 ⊢
    generalize h.2.1 q 5 + 1 = u at g ⊢
    have hx := i32r x
    simp only [fI] at hx
    refine hQ _ (HI_put (HI_put hh (by rw [i4]; exact hx.1) (by rw [i4]; exact hx.2)) (by rw [i5]; show (0 : Int) ≤ _; omega) (by rw [i5]; show _ ≤ (100 : Int); omega)) (frm_put (frm_put frm_refl CWE_4) CWE_5) ?_
    unfold xA
    rw [put_ne (by omega), put_ne (by omega)]
theorem add_ok {dp : Nat} (hY : YQ q) (x : Int32) (s : Int) (m : List Int) (hx : x.toInt = trM s) (hl : m.length < 100) (hh : HI h) (hp : RSt q h m) (hQ : ∀ h', HI h' → frm (CWE q) h h' → xA h' = xA h → RSt q h' (m ++ [s]) → Q none h') : Ends X dp 55 0 [.ref q, .int x] [] h Q := by
  have r := yq_rng hY
  have b := hp.2.1
  have j100 : (100 : Int32).toInt = 100 := rfl
  refine w_add hY x hh.hs ⟨fun e => ?_, fun e => ⟨inB_iff (by omega) (by omega), ?_⟩⟩
  · exfalso
    have e : (100 : Int32).toInt ≤ (h.2.1 q 5).toInt := of_decide_eq_true (cI e)
    omega
  · have g : (h.2.1 q 5 + 1).toInt = (m.length : Int) + 1 := by rw [i_add (by rw [i1]; omega) (by rw [i1]; omega), i1, b]
    have i4 := iv_q4 hY m.length hl
    have i5 := iv_q5 hY
    have en : (h.2.1 q 5).toNatClampNeg = m.length := by show (h.2.1 q 5).toInt.toNat = _; omega
    rw [en]
    generalize h.2.1 q 5 + 1 = u at g ⊢
    have hx2 := i32r x
    simp only [fI] at hx2
    refine hQ _ (HI_put (HI_put hh (by rw [i4]; exact hx2.1) (by rw [i4]; exact hx2.2)) (by rw [i5]; show (0 : Int) ≤ _; omega) (by rw [i5]; show _ ≤ (100 : Int); omega)) (frm_put (frm_put frm_refl CWE_4) CWE_5) ?_ ⟨hp.1, ?_, fun j hj => ?_⟩
    · unfold xA
      rw [put_ne (by omega), put_ne (by omega)]
    · rw [put_at, g, List.length_append, List.length_singleton]
      rfl
    · rw [List.length_append, List.length_singleton] at hj
      rw [put_ne (by omega), put_if]
      by_cases c : j = m.length
      · rw [if_pos c, hx, c, getD_app2]
      · rw [if_neg c, getD_app1 (by omega)]
        exact hp.2.2 j (by omega)
end CRD
theorem idxS3 (x : Int) : idxP x (sB 3) 0 = plcP x := by
  have e : sB 3 = [112, 107, 108, 115, 97, 121] := by decide
  rw [e]
  unfold plcP
  simp only [idxP]
  by_cases c0 : x = 112
  · rw [if_pos c0, if_pos c0.symm]
  · rw [if_neg c0, if_neg (fun q => c0 q.symm)]
    by_cases c1 : x = 107
    · rw [if_pos c1, if_pos c1.symm]; rfl
    · rw [if_neg c1, if_neg (fun q => c1 q.symm)]
      by_cases c2 : x = 108
      · rw [if_pos c2, if_pos c2.symm]; rfl
      · rw [if_neg c2, if_neg (fun q => c2 q.symm)]
        by_cases c3 : x = 115
        · rw [if_pos c3, if_pos c3.symm]; rfl
        · rw [if_neg c3, if_neg (fun q => c3 q.symm)]
          by_cases c4 : x = 97
          · rw [if_pos c4, if_pos c4.symm]; rfl
          · rw [if_neg c4, if_neg (fun q => c4 q.symm)]
            by_cases c5 : x = 121
            · rw [if_pos c5, if_pos c5.symm]; rfl
            · rw [if_neg c5, if_neg (fun q => c5 q.symm)]
theorem idxS4 (x : Int) : idxP x (sB 4) 0 = if 60 ≤ x ∧ x ≤ 62 then x - 60 else -1 := by
  have e : sB 4 = [60, 61, 62] := by decide
  rw [e]
  simp only [idxP]
  by_cases c0 : 60 = x
  · rw [if_pos c0, if_pos (by omega)]; omega
  · rw [if_neg c0]
    by_cases c1 : 61 = x
    · rw [if_pos c1, if_pos (by omega)]; omega
    · rw [if_neg c1]
      by_cases c2 : 62 = x
      · rw [if_pos c2, if_pos (by omega)]; omega
      · rw [if_neg c2, if_neg (by omega)]
theorem trM_test {f r v : Int} (h1 : 0 ≤ f) (h2 : f ≤ 5) (h3 : 0 ≤ r) (h4 : r ≤ 2) (h5 : 0 ≤ v) (h6 : v ≤ 99) : trM (1000 * f + 100 * r + v) = 300 * f + 100 * r + v := by
  unfold trM
  rw [if_neg (by omega), if_neg (by omega), if_neg (by omega)]
  omega
section CREC
variable {X : Scr} {q : Nat}
/-- where a reading stands -/
def CST (q : Nat) (T : Nat → Int) (n a : Nat) (m : List Int) (h : Hp) : Prop := HI h ∧ RSt q h m ∧ xT h = T ∧ xN h = n ∧ xA h = a
/-- how it ends -/
def CED (q : Nat) (h : Hp) (r : Bool × Nat × List Int) (h' : Hp) : Prop := HI h' ∧ frm (CWE q) h h' ∧ xA h' = r.2.1 ∧ (r.1 = true → RSt q h' r.2.2)
def C0 (X : Scr) (q : Nat) (T : Nat → Int) (n k : Nat) : Prop := ∀ (D d a : Nat) (m : List Int) (h : Hp) (dI : Int32) (Q : Option Value → Hp → Prop), 17 - 3 * d ≤ D → CST q T n a m h → a ≤ n → m.length ≤ a → 6 * (n + 1 - a) + 1 ≤ k → dI.toInt = d → d ≤ 4 → (∀ h', CED q h (cqP T n k 0 d a m) h' → Q (some (.int (b2i (cqP T n k 0 d a m).1))) h') → Ends X D 48 0 [.ref 44, .int dI, .retAddr 0, .retAddr 0, .retAddr 0] [] h Q
def C1 (X : Scr) (q : Nat) (T : Nat → Int) (n k : Nat) : Prop := ∀ (D d a : Nat) (m : List Int) (h : Hp) (dI : Int32) (Q : Option Value → Hp → Prop), 18 - 3 * d ≤ D → CST q T n a m h → a ≤ n → m.length ≤ a → 6 * (n + 1 - a) + 2 ≤ k → dI.toInt = d → d ≤ 4 → (∀ h', CED q h (cqP T n k 1 d a m) h' → Q (some (.int (b2i (cqP T n k 1 d a m).1))) h') → Ends X D 47 0 [.ref 44, .int dI, .retAddr 0, .retAddr 0] [] h Q
def C2 (X : Scr) (q : Nat) (T : Nat → Int) (n k : Nat) : Prop := ∀ (D d a : Nat) (m : List Int) (h : Hp) (dI : Int32) (Q : Option Value → Hp → Prop), 19 - 3 * d ≤ D → CST q T n a m h → a ≤ n → m.length ≤ a → 6 * (n + 1 - a) + 3 ≤ k → dI.toInt = d → d ≤ 4 → (∀ h', CED q h (cqP T n k 2 d a m) h' → Q (some (.int (b2i (cqP T n k 2 d a m).1))) h') → Ends X D 46 0 [.ref 44, .int dI, .retAddr 0, .retAddr 0] [] h Q
def C3 (X : Scr) (q : Nat) (T : Nat → Int) (n k : Nat) : Prop := ∀ (D d a : Nat) (m : List Int) (h0 h : Hp) (dI i : Int32) (Q : Option Value → Hp → Prop), 18 - 3 * d ≤ D → CST q T n a m h → frm (CWE q) h0 h → a ≤ n → m.length ≤ a → 6 * (n + 1 - a) + 1 ≤ k → dI.toInt = d → d ≤ 4 → 0 ≤ i.toInt → i.toInt ≤ a → (∀ h', CED q h0 (cqP T n k 3 d a m) h' → Q (some (.int (b2i (cqP T n k 3 d a m).1))) h') → Ends X D 47 8 [.ref 44, .int dI, .int 1, .int i] [] h Q
def C4 (X : Scr) (q : Nat) (T : Nat → Int) (n k : Nat) : Prop := ∀ (D d a : Nat) (m : List Int) (h0 h : Hp) (dI i : Int32) (Q : Option Value → Hp → Prop), 19 - 3 * d ≤ D → CST q T n a m h → frm (CWE q) h0 h → a ≤ n → m.length ≤ a → 6 * (n + 1 - a) + 1 ≤ k → dI.toInt = d → d ≤ 4 → 0 ≤ i.toInt → i.toInt ≤ a → (∀ h', CED q h0 (cqP T n k 4 d a m) h' → Q (some (.int (b2i (cqP T n k 4 d a m).1))) h') → Ends X D 46 8 [.ref 44, .int dI, .int 1, .int i] [] h Q
theorem b_rb (hY : YQ q) {dp : Nat} {h : Hp} {Q : Option Value → Hp → Prop} (d i : Int32) (hs : HS h) (hQ : Q (some (.int 0)) h) : Ends X (dp + 1) 47 8 [.ref 44, .int d, .int 0, .int i] [] h Q :=
  w_rb1 hY d 0 i hs ⟨fun _ => ⟨Or.inl rfl, hQ⟩, fun _ => ⟨fun _ => ⟨Or.inl rfl, hQ⟩, fun e => absurd e (by decide)⟩⟩
theorem b_re (hY : YQ q) {dp : Nat} {h : Hp} {Q : Option Value → Hp → Prop} (d i : Int32) (hs : HS h) (hQ : Q (some (.int 0)) h) : Ends X (dp + 1) 46 8 [.ref 44, .int d, .int 0, .int i] [] h Q :=
  w_re1 hY d 0 i hs ⟨fun _ => ⟨Or.inl rfl, hQ⟩, fun _ => ⟨fun _ => ⟨Or.inl rfl, hQ⟩, fun e => absurd e (by decide)⟩⟩
/-- a state behind one more byte -/
theorem CST_A (hY : YQ q) (T : Nat → Int) (n : Nat) {a a' : Nat} {m : List Int} {h h' : Hp} (hc : CST q T n a m h) (hh : HI h') (hf : frm CWA h h') (ha : xA h' = a') : CST q T n a' m h' :=
  ⟨hh, hc.2.1.fr hY hf, by rw [xT_fr hf CWA_T]; exact hc.2.2.1, by rw [xN_fr hf rfl]; exact hc.2.2.2.1, ha⟩
/-- a state behind a part that was read -/
theorem CST_E (hY : YQ q) (T : Nat → Int) (n : Nat) {a a' : Nat} {m m' : List Int} {h h' : Hp} (hc : CST q T n a m h) (hh : HI h') (hf : frm (CWE q) h h') (ha : xA h' = a') (hp : RSt q h' m') : CST q T n a' m' h' :=
  ⟨hh, hp, by rw [xT_fr hf (CWE_T hY)]; exact hc.2.2.1, by rw [xN_fr hf (CWE_N hY)]; exact hc.2.2.2.1, ha⟩
theorem RSt_ref (hY : YQ q) {h h' : Hp} {m : List Int} (hp : RSt q h m) (hf : frm (CWE q) h h') : h'.2.2.2 44 3 = some q := by rw [(hf 44 3 (CWE_R hY)).2.2]; exact hp.1
theorem crec_3 (hY : YQ q) (T : Nat → Int) (n : Nat) (hn : n ≤ 100) (k : Nat) (hs0 : C0 X q T n k) (h3 : C3 X q T n k) : C3 X q T n (k + 1) := by
  intro D d a m hz h dI i Q hD hc hf ha hm hk hd hd4 hi0 hia hQ
  obtain ⟨hh, hp, eT, eN, eA⟩ := id hc
  obtain ⟨e, rfl⟩ : ∃ e, D = e + 1 := ⟨D - 1, by omega⟩
  have j100 : (100 : Int32).toInt = 100 := rfl
  have stop : nxP T n a ≠ 38 → ∀ h', HI h' → frm CWA h h' → xA h' = a → Q (some (.int 1)) h' := by
    intro x h' g1 g2 g3
    unfold cqP at hQ
    rw [if_neg x] at hQ
    exact hQ h' ⟨g1, frm_trans hf (sub_A g2), g3, fun _ => hp.fr hY g2⟩
  refine w_rb1 hY dI 1 i hh.hs ⟨fun c => ⟨Or.inr rfl, stop ?_ h hh frm_refl eA⟩, fun _ => ⟨fun c2 => absurd c2 (by decide), fun _ => Ends.dpl (by omega) (ct_ok (dp := 0) 38 (by decide) hh (fun h1 g1 g2 g3 => ⟨_, rfl, g1.hs, fun c3 => ⟨Or.inr rfl, ?_⟩, fun c3 => ?_⟩))⟩⟩
  · have c : (100 : Int32).toInt ≤ i.toInt := of_decide_eq_true (cI c)
    intro x
    have := nx_lt2 x (by decide)
    omega
  · have c3 := of_decide_eq_false (cz c3)
    rw [if_neg c3, eA] at g3
    rw [eT, eN, eA] at c3
    exact stop c3 h1 g1 g2 g3
  · have c3 := of_decide_eq_true (cn c3)
    rw [if_pos c3, eA] at g3
    rw [eT, eN, eA] at c3
    have x : nxP T n a = 38 := c3
    have hl := nx_lt2 x (by decide)
    have hc1 := CST_A hY T n hc g1 g2 g3
    refine hs0 e d (a + 1) m h1 dI _ (by omega) hc1 (by omega) (by omega) (by omega) hd hd4 (fun h2 hE => ⟨_, rfl, hE.1.hs, RSt_ref hY hc1.2.1 hE.2.1, ?_⟩)
    obtain ⟨k1, k2, k3, k4⟩ := hE
    have f2 : frm (CWE q) hz h2 := frm_trans hf (frm_trans (sub_A g2) k2)
    cases hr : (cqP T n k 0 d (a + 1) m).1 with
    | true =>
      have lens := cP_len T n k 0 d (a + 1) m (by omega) hr
      have e3 : cqP T n (k + 1) 3 d a m = cqP T n k 3 d (cqP T n k 0 d (a + 1) m).2.1 ((cqP T n k 0 d (a + 1) m).2.2 ++ [-38]) := by
        rw [cqP, if_pos x, if_pos hr]
      rw [e3] at hQ
      refine add_ok hY (-2) (-38) _ (by decide) (by omega) k1 (k4 hr) (fun h3' l1 l2 l3 l4 => ⟨rfl, l1.hs, ?_⟩)
      have hc3 := CST_E hY T n hc1 l1 (frm_trans k2 l2) (l3.trans k3) l4
      exact h3 (e + 1) d _ _ hz h3' dI (i + 1) Q hD hc3 (frm_trans f2 l2) lens.2.1 (by rw [List.length_append, List.length_singleton]; omega) (by omega) hd hd4 (by rw [i_add (by rw [i1]; omega) (by rw [i1]; omega), i1]; omega) (by rw [i_add (by rw [i1]; omega) (by rw [i1]; omega), i1]; omega) hQ
    | false =>
      have e3 : cqP T n (k + 1) 3 d a m = cqP T n k 0 d (a + 1) m := by
        rw [cqP, if_pos x, if_neg (by rw [hr]; decide)]
      rw [e3, hr] at hQ
      refine add_any hY (-2) k1 (fun h3' l1 l2 l3 => ⟨rfl, l1.hs, b_rb hY dI (i + 1) l1.hs (hQ h3' ⟨l1, frm_trans f2 l2, l3.trans k3, fun z => by rw [hr] at z; cases z⟩)⟩)
theorem crec_4 (hY : YQ q) (T : Nat → Int) (n : Nat) (hn : n ≤ 100) (k : Nat) (hs0 : C1 X q T n k) (h3 : C4 X q T n k) : C4 X q T n (k + 1) := by
  intro D d a m hz h dI i Q hD hc hf ha hm hk hd hd4 hi0 hia hQ
  obtain ⟨hh, hp, eT, eN, eA⟩ := id hc
  obtain ⟨e, rfl⟩ : ∃ e, D = e + 1 := ⟨D - 1, by omega⟩
  have j100 : (100 : Int32).toInt = 100 := rfl
  have stop : nxP T n a ≠ 124 → ∀ h', HI h' → frm CWA h h' → xA h' = a → Q (some (.int 1)) h' := by
    intro x h' g1 g2 g3
    unfold cqP at hQ
    rw [if_neg x] at hQ
    exact hQ h' ⟨g1, frm_trans hf (sub_A g2), g3, fun _ => hp.fr hY g2⟩
  refine w_re1 hY dI 1 i hh.hs ⟨fun c => ⟨Or.inr rfl, stop ?_ h hh frm_refl eA⟩, fun _ => ⟨fun c2 => absurd c2 (by decide), fun _ => Ends.dpl (by omega) (ct_ok (dp := 0) 124 (by decide) hh (fun h1 g1 g2 g3 => ⟨_, rfl, g1.hs, fun c3 => ⟨Or.inr rfl, ?_⟩, fun c3 => ?_⟩))⟩⟩
  · have c : (100 : Int32).toInt ≤ i.toInt := of_decide_eq_true (cI c)
    intro x
    have := nx_lt2 x (by decide)
    omega
  · have c3 := of_decide_eq_false (cz c3)
    rw [if_neg c3, eA] at g3
    rw [eT, eN, eA] at c3
    exact stop c3 h1 g1 g2 g3
  · have c3 := of_decide_eq_true (cn c3)
    rw [if_pos c3, eA] at g3
    rw [eT, eN, eA] at c3
    have x : nxP T n a = 124 := c3
    have hl := nx_lt2 x (by decide)
    have hc1 := CST_A hY T n hc g1 g2 g3
    refine hs0 e d (a + 1) m h1 dI _ (by omega) hc1 (by omega) (by omega) (by omega) hd hd4 (fun h2 hE => ⟨_, rfl, hE.1.hs, RSt_ref hY hc1.2.1 hE.2.1, ?_⟩)
    obtain ⟨k1, k2, k3, k4⟩ := hE
    have f2 : frm (CWE q) hz h2 := frm_trans hf (frm_trans (sub_A g2) k2)
    cases hr : (cqP T n k 1 d (a + 1) m).1 with
    | true =>
      have lens := cP_len T n k 1 d (a + 1) m (by omega) hr
      have e3 : cqP T n (k + 1) 4 d a m = cqP T n k 4 d (cqP T n k 1 d (a + 1) m).2.1 ((cqP T n k 1 d (a + 1) m).2.2 ++ [-124]) := by
        rw [cqP, if_pos x, if_pos hr]
      rw [e3] at hQ
      refine add_ok hY (-3) (-124) _ (by decide) (by omega) k1 (k4 hr) (fun h3' l1 l2 l3 l4 => ⟨rfl, l1.hs, ?_⟩)
      have hc3 := CST_E hY T n hc1 l1 (frm_trans k2 l2) (l3.trans k3) l4
      exact h3 (e + 1) d _ _ hz h3' dI (i + 1) Q hD hc3 (frm_trans f2 l2) lens.2.1 (by rw [List.length_append, List.length_singleton]; omega) (by omega) hd hd4 (by rw [i_add (by rw [i1]; omega) (by rw [i1]; omega), i1]; omega) (by rw [i_add (by rw [i1]; omega) (by rw [i1]; omega), i1]; omega) hQ
    | false =>
      have e3 : cqP T n (k + 1) 4 d a m = cqP T n k 1 d (a + 1) m := by
        rw [cqP, if_pos x, if_neg (by rw [hr]; decide)]
      rw [e3, hr] at hQ
      refine add_any hY (-3) k1 (fun h3' l1 l2 l3 => ⟨rfl, l1.hs, b_re hY dI (i + 1) l1.hs (hQ h3' ⟨l1, frm_trans f2 l2, l3.trans k3, fun z => by rw [hr] at z; cases z⟩)⟩)
theorem crec_1 (hY : YQ q) (T : Nat → Int) (n : Nat) (k : Nat) (hs0 : C0 X q T n k) (h3 : C3 X q T n k) : C1 X q T n (k + 1) := by
  intro D d a m h dI Q hD hc ha hm hk hd hd4 hQ
  obtain ⟨hh, hp, eT, eN, eA⟩ := id hc
  obtain ⟨e, rfl⟩ : ∃ e, D = e + 1 := ⟨D - 1, by omega⟩
  refine w_rb0 hY dI hh.hs (hs0 e d a m h dI _ (by omega) hc ha hm (by omega) hd hd4 (fun h2 hE => ⟨_, rfl, hE.1.hs, ?_⟩))
  obtain ⟨k1, k2, k3, k4⟩ := hE
  cases hr : (cqP T n k 0 d a m).1 with
  | true =>
    have lens := cP_len T n k 0 d a m ha hr
    have e3 : cqP T n (k + 1) 1 d a m = cqP T n k 3 d (cqP T n k 0 d a m).2.1 (cqP T n k 0 d a m).2.2 := by
      rw [cqP, if_pos hr]
    rw [e3] at hQ
    exact h3 (e + 1) d _ _ h h2 dI 0 Q hD (CST_E hY T n hc k1 k2 k3 (k4 hr)) k2 lens.2.1 (by omega) (by omega) hd hd4 (by decide) (by show (0 : Int) ≤ _; omega) hQ
  | false =>
    have e3 : cqP T n (k + 1) 1 d a m = cqP T n k 0 d a m := by
      rw [cqP, if_neg (by rw [hr]; decide)]
    rw [e3, hr] at hQ
    exact b_rb hY dI 0 k1.hs (hQ h2 ⟨k1, k2, k3, fun z => by rw [hr] at z; cases z⟩)
theorem crec_2 (hY : YQ q) (T : Nat → Int) (n : Nat) (k : Nat) (hs0 : C1 X q T n k) (h3 : C4 X q T n k) : C2 X q T n (k + 1) := by
  intro D d a m h dI Q hD hc ha hm hk hd hd4 hQ
  obtain ⟨hh, hp, eT, eN, eA⟩ := id hc
  obtain ⟨e, rfl⟩ : ∃ e, D = e + 1 := ⟨D - 1, by omega⟩
  refine w_re0 hY dI hh.hs (hs0 e d a m h dI _ (by omega) hc ha hm (by omega) hd hd4 (fun h2 hE => ⟨_, rfl, hE.1.hs, ?_⟩))
  obtain ⟨k1, k2, k3, k4⟩ := hE
  cases hr : (cqP T n k 1 d a m).1 with
  | true =>
    have lens := cP_len T n k 1 d a m ha hr
    have e3 : cqP T n (k + 1) 2 d a m = cqP T n k 4 d (cqP T n k 1 d a m).2.1 (cqP T n k 1 d a m).2.2 := by
      rw [cqP, if_pos hr]
    rw [e3] at hQ
    exact h3 (e + 1) d _ _ h h2 dI 0 Q hD (CST_E hY T n hc k1 k2 k3 (k4 hr)) k2 lens.2.1 (by omega) (by omega) hd hd4 (by decide) (by show (0 : Int) ≤ _; omega) hQ
  | false =>
    have e3 : cqP T n (k + 1) 2 d a m = cqP T n k 1 d a m := by
      rw [cqP, if_neg (by rw [hr]; decide)]
    rw [e3, hr] at hQ
    exact b_re hY dI 0 k1.hs (hQ h2 ⟨k1, k2, k3, fun z => by rw [hr] at z; cases z⟩)
theorem ctest (hY : YQ q) (T : Nat → Int) (n : Nat) (d : Nat) (dI : Int32) {a : Nat} {m : List Int} {h : Hp} {Q : Option Value → Hp → Prop} {D : Nat} (hD : 5 ≤ D) (hc : CST q T n a m h) (ha : a ≤ n) (hn : n ≤ 100) (hm : m.length ≤ a)
    (q0 : ∀ b, testP T n a = (b, none) → ∀ h', HI h' → frm (CWE q) h h' → xA h' = b → Q (some (.int 0)) h')
    (q1 : ∀ b s, testP T n a = (b, some s) → ∀ h', HI h' → frm (CWE q) h h' → xA h' = b → RSt q h' (m ++ [s]) → Q (some (.int 1)) h') : Ends X D 48 71 [.ref 44, .int dI, .retAddr 0, .retAddr 0, .retAddr 0] [] h Q := by
  obtain ⟨hh, hp, eT, eN, eA⟩ := id hc
  obtain ⟨e, rfl⟩ : ∃ e, D = e + 1 := ⟨D - 1, by omega⟩
  have z0 : (0 : Int32).toInt = 0 := rfl
  refine w_ro71 hY dI hh.hs (Ends.dpl (by omega) (tko_ok (dp := 0) (s := 3) (by decide) hh (fun r1 h1 g1 g2 g3 g4 => ⟨r1, rfl, g1.hs, fun c => ?_, fun c => ?_⟩)))
  all_goals
    rw [eT, eN, eA, idxS3] at g3
    rw [eA] at g4
  · have c : 0 ≤ r1.toInt := of_decide_eq_true (cI c)
    have pl := plc_rng (nxP T n a)
    rw [if_neg (by omega)] at g4
    have hc1 := CST_A hY T n hc g1 g2 g4
    refine Ends.dpl (by omega) (tko_ok (dp := 0) (s := 4) (by decide) g1 (fun r2 h2 k1 k2 k3 k4 => ⟨r2, rfl, k1.hs, fun c2 => ?_, fun c2 => ?_⟩))
    all_goals
      rw [hc1.2.2.1, hc1.2.2.2.1, g4, idxS4] at k3
      rw [g4] at k4
    · have c2 : 0 ≤ r2.toInt := of_decide_eq_true (cI c2)
      rw [if_neg (by omega)] at k4
      have rel : 60 ≤ nxP T n (a + 1) ∧ nxP T n (a + 1) ≤ 62 := by
        apply Decidable.byContradiction
        intro x
        rw [if_neg x] at k3
        omega
      rw [if_pos rel] at k3
      have hc2 := CST_A hY T n hc1 k1 k2 k4
      refine Ends.dpl (by omega) (rn_ok (dp := 0) k1 (fun r3 h3 l1 l2 l3 => ⟨r3, rfl, l1.hs, fun c3 => ?_, fun c3 => ?_⟩))
      all_goals rw [hc2.2.2.1, hc2.2.2.2.1, k4] at l3
      · have c3 : 0 ≤ r3.toInt := of_decide_eq_true (cI c3)
        cases hnum : numP T n (a + 1 + 1) with
        | none =>
          rw [hnum] at l3
          exfalso
          have := l3.1
          omega
        | some w =>
          obtain ⟨v, b⟩ := w
          rw [hnum] at l3
          have nv := numP_le hnum
          have nl := numP_le2 hnum
          have ht : testP T n a = (b, some (1000 * plcP (nxP T n a) + 100 * (nxP T n (a + 1) - 60) + v)) := by
            unfold testP
            rw [if_neg (by omega), if_neg (by omega), show a + 2 = a + 1 + 1 from rfl, hnum]
          have hc3 := CST_A hY T n hc2 l1 l2 l3.2
          refine ⟨hc3.2.1.1, w_tm r1 r2 r3 l1.hs ⟨_, rfl, l1.hs, ?_⟩⟩
          have j3 : (3 : Int32).toInt = 3 := rfl
          have j100 : (100 : Int32).toInt = 100 := rfl
          have m1 : (r1 * 3).toInt = r1.toInt * 3 := by rw [i_mul (by rw [j3]; omega) (by rw [j3]; omega), j3]
          have m2 : (r1 * 3 + r2).toInt = r1.toInt * 3 + r2.toInt := by rw [i_add (by omega) (by omega), m1]
          have m3 : ((r1 * 3 + r2) * 100).toInt = (r1.toInt * 3 + r2.toInt) * 100 := by rw [i_mul (by rw [j100]; omega) (by rw [j100]; omega), j100, m2]
          have m4 : ((r1 * 3 + r2) * 100 + r3).toInt = (r1.toInt * 3 + r2.toInt) * 100 + r3.toInt := by rw [i_add (by omega) (by omega), m3]
          have l31 := l3.1
          refine add_ok hY _ (1000 * plcP (nxP T n a) + 100 * (nxP T n (a + 1) - 60) + v) m ?_ (by omega) l1 hc3.2.1 (fun h4 y1 y2 y3 y4 => ⟨rfl, y1.hs, q1 b _ ht h4 y1 (frm_trans (sub_A (frm_trans g2 (frm_trans k2 l2))) y2) (y3.trans l3.2) y4⟩)
          rw [m4, trM_test (by omega) (by omega) (by omega) (by omega) (by omega) (by omega)]
          omega
      · have c3 : ¬ 0 ≤ r3.toInt := of_decide_eq_false (cI c3)
        cases hnum : numP T n (a + 1 + 1) with
        | none =>
          rw [hnum] at l3
          have ht : testP T n a = (a + 2, none) := by
            unfold testP
            rw [if_neg (by omega), if_neg (by omega), show a + 2 = a + 1 + 1 from rfl, hnum]
          exact q0 _ ht h3 l1 (sub_A (frm_trans g2 (frm_trans k2 l2))) l3.2
        | some w =>
          obtain ⟨v, b⟩ := w
          rw [hnum] at l3
          have nv := numP_le hnum
          have := l3.1
          omega
    · have c2 : ¬ 0 ≤ r2.toInt := of_decide_eq_false (cI c2)
      rw [if_pos (by omega)] at k4
      have rel : ¬ (60 ≤ nxP T n (a + 1) ∧ nxP T n (a + 1) ≤ 62) := by
        intro x
        rw [if_pos x] at k3
        omega
      have ht : testP T n a = (a + 1, none) := by
        unfold testP
        rw [if_neg (by omega), if_pos rel]
      exact q0 _ ht h2 k1 (sub_A (frm_trans g2 k2)) k4
  · have c : ¬ 0 ≤ r1.toInt := of_decide_eq_false (cI c)
    rw [if_pos (by omega)] at g4
    have ht : testP T n a = (a, none) := by
      unfold testP
      rw [if_pos (by omega)]
    exact q0 _ ht h1 g1 (sub_A g2) g4
theorem crec_0 (hY : YQ q) (T : Nat → Int) (n : Nat) (hn : n ≤ 100) (k : Nat) (h0 : C0 X q T n k) (h2 : C2 X q T n k) : C0 X q T n (k + 1) := by
  intro D d a m h dI Q hD hc ha hm hk hd hd4 hQ
  obtain ⟨hh, hp, eT, eN, eA⟩ := id hc
  obtain ⟨e, rfl⟩ : ∃ e, D = e + 1 := ⟨D - 1, by omega⟩
  have j4 : (4 : Int32).toInt = 4 := rfl
  have d1 : (dI + 1).toInt = ((d + 1 : Nat) : Int) := by rw [i_add (by rw [i1]; omega) (by rw [i1]; omega), i1]; omega
  -- the test
  have test : ∀ {h1}, ¬ (nxP T n a = 33 ∧ d < 4) → ¬ (nxP T n a = 40 ∧ d < 4) → HI h1 → frm CWA h h1 → xA h1 = a → Ends X (e + 1) 48 71 [.ref 44, .int dI, .retAddr 0, .retAddr 0, .retAddr 0] [] h1 Q := by
    intro h1 x1 x2 g1 g2 g3
    unfold cqP at hQ
    rw [if_neg x1, if_neg x2] at hQ
    refine ctest hY T n d dI (by omega) (CST_A hY T n hc g1 g2 g3) ha hn hm (fun b ht h' l1 l2 l3 => ?_) (fun b s ht h' l1 l2 l3 l4 => ?_)
    · rw [ht] at hQ
      exact hQ h' ⟨l1, frm_trans (sub_A g2) l2, l3, fun z => by simp at z⟩
    · rw [ht] at hQ
      exact hQ h' ⟨l1, frm_trans (sub_A g2) l2, l3, fun _ => l4⟩
  refine w_ro hY dI hh.hs ⟨fun c => ⟨fun _ => ?_, fun c2 => (noc c c2).elim⟩, fun c => Ends.dpl (by omega) (ct_ok (dp := 0) 33 (by decide) hh (fun h1 g1 g2 g3 => ⟨_, rfl, g1.hs, fun c3 => ⟨fun c2 => (noc c2 c).elim, fun _ => Ends.dpl (by omega) (ct_ok (dp := 0) 40 (by decide) g1 (fun h2' k1 k2 k3 => ⟨_, rfl, k1.hs, fun c4 => ?_, fun c4 => ?_⟩))⟩, fun c3 => ?_⟩))⟩
  · have c : (4 : Int32).toInt ≤ dI.toInt := of_decide_eq_true (cI c)
    exact test (fun x => by omega) (fun x => by omega) hh frm_refl eA
  · have c : ¬ (4 : Int32).toInt ≤ dI.toInt := of_decide_eq_false (cI c)
    have c3 := of_decide_eq_false (cz c3)
    rw [if_neg c3, eA] at g3
    rw [eT, eN, eA] at c3
    have hc1 := CST_A hY T n hc g1 g2 g3
    have c4 := of_decide_eq_false (cz c4)
    rw [if_neg c4, g3] at k3
    rw [hc1.2.2.1, hc1.2.2.2.1, g3] at c4
    exact test (fun x => c3 x.1) (fun x => c4 x.1) k1 (frm_trans g2 k2) k3
  · have c : ¬ (4 : Int32).toInt ≤ dI.toInt := of_decide_eq_false (cI c)
    have c3 := of_decide_eq_false (cz c3)
    rw [if_neg c3, eA] at g3
    rw [eT, eN, eA] at c3
    have hc1 := CST_A hY T n hc g1 g2 g3
    have c4 := of_decide_eq_true (cn c4)
    rw [if_pos c4, g3] at k3
    rw [hc1.2.2.1, hc1.2.2.2.1, g3] at c4
    have x : nxP T n a = 40 := c4
    have hl := nx_lt2 x (by decide)
    have hc2 := CST_A hY T n hc1 k1 k2 k3
    unfold cqP at hQ
    rw [if_neg (fun z => c3 z.1), if_pos ⟨x, by omega⟩] at hQ
    have f2 : frm (CWE q) h h2' := sub_A (frm_trans g2 k2)
    refine h2 e (d + 1) (a + 1) m h2' (dI + 1) _ (by omega) hc2 (by omega) (by omega) (by omega) d1 (by omega) (fun h3 hE => ⟨_, rfl, hE.1.hs, fun c5 => ?_, fun c5 => ?_⟩)
    · have c5 := cz c5
      rw [if_neg (fun z => by rw [c5] at z; exact absurd z.1 (by decide))] at hQ
      exact hQ h3 ⟨hE.1, frm_trans f2 hE.2.1, hE.2.2.1, fun z => by simp at z⟩
    · have c5 := cn c5
      have hc3 := CST_E hY T n hc2 hE.1 hE.2.1 hE.2.2.1 (hE.2.2.2 c5)
      refine Ends.dpl (by omega) (ct_ok (dp := 0) 41 (by decide) hE.1 (fun h4 l1 l2 l3 => ⟨_, rfl, l1.hs, fun c6 => ?_, fun c6 => ?_⟩))
      · have c6 := of_decide_eq_false (cz c6)
        rw [if_neg c6, hE.2.2.1] at l3
        rw [hc3.2.2.1, hc3.2.2.2.1, hE.2.2.1] at c6
        rw [if_neg (fun z => c6 z.2)] at hQ
        exact hQ h4 ⟨l1, frm_trans f2 (frm_trans hE.2.1 (sub_A l2)), l3, fun z => by simp at z⟩
      · have c6 := of_decide_eq_true (cn c6)
        rw [if_pos c6, hE.2.2.1] at l3
        rw [hc3.2.2.1, hc3.2.2.2.1, hE.2.2.1] at c6
        rw [if_pos ⟨c5, c6⟩] at hQ
        exact hQ h4 ⟨l1, frm_trans f2 (frm_trans hE.2.1 (sub_A l2)), l3, fun _ => hc3.2.1.fr hY l2⟩
  · have c : ¬ (4 : Int32).toInt ≤ dI.toInt := of_decide_eq_false (cI c)
    have c3 := of_decide_eq_true (cn c3)
    rw [if_pos c3, eA] at g3
    rw [eT, eN, eA] at c3
    have x : nxP T n a = 33 := c3
    have hl := nx_lt2 x (by decide)
    have hc1 := CST_A hY T n hc g1 g2 g3
    unfold cqP at hQ
    rw [if_pos ⟨x, by omega⟩] at hQ
    refine h0 e (d + 1) (a + 1) m h1 (dI + 1) _ (by omega) hc1 (by omega) (by omega) (by omega) d1 (by omega) (fun h3 hE => ⟨_, rfl, hE.1.hs, RSt_ref hY hc1.2.1 hE.2.1, ?_⟩)
    have f3 : frm (CWE q) h h3 := frm_trans (sub_A g2) hE.2.1
    cases hr : (cqP T n k 0 (d + 1) (a + 1) m).1 with
    | true =>
      have lens := cP_len T n k 0 (d + 1) (a + 1) m (by omega) hr
      rw [hr] at hQ
      exact add_ok hY (-1) (-33) _ (by decide) (by omega) hE.1 (hE.2.2.2 hr) (fun h4 l1 l2 l3 l4 => ⟨rfl, l1.hs, b2i_01 _, hQ h4 ⟨l1, frm_trans f3 l2, l3.trans hE.2.2.1, fun _ => l4⟩⟩)
    | false =>
      rw [hr] at hQ
      exact add_any hY (-1) hE.1 (fun h4 l1 l2 l3 => ⟨rfl, l1.hs, b2i_01 _, hQ h4 ⟨l1, frm_trans f3 l2, l3.trans hE.2.2.1, fun z => by simp at z⟩⟩)
theorem crec_all (hY : YQ q) (T : Nat → Int) (n : Nat) (hn : n ≤ 100) : ∀ k, C0 X q T n k ∧ C1 X q T n k ∧ C2 X q T n k ∧ C3 X q T n k ∧ C4 X q T n k
  | 0 => ⟨fun D d a m h dI Q hD hc ha hm hk => by omega, fun D d a m h dI Q hD hc ha hm hk => by omega, fun D d a m h dI Q hD hc ha hm hk => by omega, fun D d a m hz h dI i Q hD hc hf ha hm hk => by omega, fun D d a m hz h dI i Q hD hc hf ha hm hk => by omega⟩
  | k + 1 => by
    obtain ⟨h0, h1, h2, h3, h4⟩ := crec_all hY T n hn k
    exact ⟨crec_0 hY T n hn k h0 h2, crec_1 hY T n k h0 h3, crec_2 hY T n k h1 h4, crec_3 hY T n hn k h0 h3, crec_4 hY T n hn k h1 h4⟩
/-- the class reads an E -/
theorem cE_ok (hY : YQ q) (T : Nat → Int) (n : Nat) (hn : n ≤ 100) {a : Nat} {m : List Int} {h : Hp} {Q : Option Value → Hp → Prop} (hc : CST q T n a m h) (ha : a ≤ n) (hm : m.length ≤ a) (hQ : ∀ h', CED q h (ecP T n a m) h' → Q (some (.int (b2i (ecP T n a m).1))) h') : Ends X 19 46 0 [.ref 44, .int 0, .retAddr 0, .retAddr 0] [] h Q :=
  (crec_all hY T n hn 609).2.2.1 19 0 a m h 0 Q (by decide) hc ha hm (by omega) rfl (by decide) hQ
end CREC
