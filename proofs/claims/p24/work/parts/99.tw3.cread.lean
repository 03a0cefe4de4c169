section JN99tw3cread
/-! The class's reading of an E, exactly. -/
theorem cP_len (T : Nat → Int) (n : Nat) : ∀ (k md d a : Nat) (m : List Int), a ≤ n → (cqP T n k md d a m).1 = true → a ≤ (cqP T n k md d a m).2.1 ∧ (cqP T n k md d a m).2.1 ≤ n ∧ (cqP T n k md d a m).2.2.length + a ≤ m.length + (cqP T n k md d a m).2.1
  | 0, md, d, a, m, ha, h => by
    unfold cqP at h
    simp at h
  | k + 1, 0, d, a, m, ha, h => by
    unfold cqP at h ⊢
    split at h
    · rename_i c
      rw [if_pos c]
      have hl : a < n := nx_lt2 c.1 (by decide)
      obtain ⟨i1, i2, i3⟩ := cP_len T n k 0 (d + 1) (a + 1) m (by omega) h
      refine ⟨by dsimp only; omega, i2, ?_⟩
      show ((cqP T n k 0 (d + 1) (a + 1) m).2.2 ++ [-33]).length + a ≤ m.length + (cqP T n k 0 (d + 1) (a + 1) m).2.1
      rw [List.length_append, List.length_singleton]
      omega
    · rename_i c0
      rw [if_neg c0]
      split at h
      · rename_i c
        rw [if_pos c]
        have hl : a < n := nx_lt2 c.1 (by decide)
        split at h
        · rename_i c2
          rw [if_pos c2]
          obtain ⟨i1, i2, i3⟩ := cP_len T n k 2 (d + 1) (a + 1) m (by omega) c2.1
          have hl2 : (cqP T n k 2 (d + 1) (a + 1) m).2.1 < n := nx_lt2 c2.2 (by decide)
          exact ⟨by dsimp only; omega, by dsimp only; omega, by dsimp only; omega⟩
        · simp at h
      · rename_i c
        rw [if_neg c]
        split at h
        · simp at h
        · rename_i b s ht
          have hb := testP_le ht
          refine ⟨by show a ≤ b; omega, hb.2, ?_⟩
          show (m ++ [s]).length + a ≤ m.length + b
          rw [List.length_append, List.length_singleton]
          omega
  | k + 1, 1, d, a, m, ha, h => by
    unfold cqP at h ⊢
    split at h
    · rename_i c
      rw [if_pos c]
      obtain ⟨i1, i2, i3⟩ := cP_len T n k 0 d a m ha c
      obtain ⟨j1, j2, j3⟩ := cP_len T n k 3 d _ _ i2 h
      exact ⟨by omega, j2, by omega⟩
    · rename_i c
      exact absurd h c
  | k + 1, 2, d, a, m, ha, h => by
    unfold cqP at h ⊢
    split at h
    · rename_i c
      rw [if_pos c]
      obtain ⟨i1, i2, i3⟩ := cP_len T n k 1 d a m ha c
      obtain ⟨j1, j2, j3⟩ := cP_len T n k 4 d _ _ i2 h
      exact ⟨by omega, j2, by omega⟩
    · rename_i c
      exact absurd h c
  | k + 1, 3, d, a, m, ha, h => by
    unfold cqP at h ⊢
    split at h
    · rename_i x
      rw [if_pos x]
      have hl : a < n := nx_lt2 x (by decide)
      split at h
      · rename_i c
        rw [if_pos c]
        obtain ⟨i1, i2, i3⟩ := cP_len T n k 0 d (a + 1) m (by omega) c
        obtain ⟨j1, j2, j3⟩ := cP_len T n k 3 d _ _ i2 h
        rw [List.length_append, List.length_singleton] at j3
        exact ⟨by omega, j2, by omega⟩
      · rename_i c
        exact absurd h c
    · rename_i x
      rw [if_neg x]
      exact ⟨Nat.le_refl _, ha, Nat.le_refl _⟩
  | k + 1, md + 4, d, a, m, ha, h => by
    unfold cqP at h ⊢
    split at h
    · rename_i x
      rw [if_pos x]
      have hl : a < n := nx_lt2 x (by decide)
      split at h
      · rename_i c
        rw [if_pos c]
        obtain ⟨i1, i2, i3⟩ := cP_len T n k 1 d (a + 1) m (by omega) c
        obtain ⟨j1, j2, j3⟩ := cP_len T n k 4 d _ _ i2 h
        rw [List.length_append, List.length_singleton] at j3
        exact ⟨by omega, j2, by omega⟩
      · rename_i c
        exact absurd h c
    · rename_i x
      rw [if_neg x]
      exact ⟨Nat.le_refl _, ha, Nat.le_refl _⟩
/-- a mark as the class writes it -/
def trM (s : Int) : Int := if s = -33 then -1 else if s = -38 then -2 else if s = -124 then -3 else 300 * (s / 1000) + s % 1000
def CWE (q : Nat) : List (Nat × Nat) := [(44, 2), (q, 5), (q + 4, 999)]
theorem CWE_n {q a k : Nat} (h1 : ¬ (a = 44 ∧ k = 2)) (h2 : ¬ (a = q ∧ k = 5)) (h3 : ¬ a = q + 4) : inW (CWE q) a k = false := by
  simp only [inW, CWE, List.any_cons, List.any_nil, Bool.or_false, Bool.or_eq_false_iff, Bool.and_eq_false_iff, beq_eq_false_iff_ne, Bool.or_eq_false_iff]
  refine ⟨?_, ?_, ?_⟩
  · by_cases c : 44 = a
    · exact Or.inr ⟨by omega, by decide⟩
    · exact Or.inl c
  · by_cases c : q = a
    · exact Or.inr ⟨by omega, by decide⟩
    · exact Or.inl c
  · exact Or.inl (by omega)
theorem CWE_2 {q : Nat} : inW (CWE q) 44 2 = true := by simp [inW, CWE]
theorem CWE_5 {q : Nat} : inW (CWE q) q 5 = true := by simp [inW, CWE]
theorem CWE_4 {q k : Nat} : inW (CWE q) (q + 4) k = true := by simp [inW, CWE]
theorem CWE_T {q : Nat} (hY : YQ q) (k : Nat) : inW (CWE q) 45 k = false := by
  have := yq_rng hY
  exact CWE_n (by omega) (by omega) (by omega)
theorem CWE_N {q : Nat} (hY : YQ q) : inW (CWE q) 44 1 = false := by
  have := yq_rng hY
  exact CWE_n (by omega) (by omega) (by omega)
theorem CWE_R {q : Nat} (hY : YQ q) : inW (CWE q) 44 3 = false := by
  have := yq_rng hY
  exact CWE_n (by omega) (by omega) (by omega)
theorem sub_A {q : Nat} {h h' : Hp} (hf : frm CWA h h') : frm (CWE q) h h' := frm_sub (W := CWE q) (by simp [subW, CWA, CWE]) hf
/-- what the class has read so far of an E -/
def RSt (q : Nat) (h : Hp) (m : List Int) : Prop := h.2.2.2 44 3 = some q ∧ (h.2.1 q 5).toInt = (m.length : Int) ∧ ∀ j, j < m.length → (h.2.1 (q + 4) j).toInt = trM (m.getD j 0)
theorem iv_q4 {q : Nat} (hY : YQ q) : ∀ j, j < 100 → ivl (q + 4) j = (-2147483648, 2147483647) := by
  have := yq (P := fun q => (List.range 100).all (fun j => decide (ivl (q + 4) j = (-2147483648, 2147483647)))) hY (by decide +kernel)
  exact fun j hj => of_decide_eq_true (List.all_eq_true.mp this j (List.mem_range.mpr hj))
theorem iv_q5 {q : Nat} (hY : YQ q) : ivl q 5 = (0, 100) := of_decide_eq_true (yq (P := fun q => decide (ivl q 5 = (0, 100))) hY (by decide +kernel))
section CRD
variable {X : Scr} {q : Nat} {h : Hp} {Q : Option Value → Hp → Prop}
theorem RSt.fr {h' : Hp} {m : List Int} (hY : YQ q) (hp : RSt q h m) (hf : frm CWA h h') : RSt q h' m := by
  have r := yq_rng hY
  have n1 : inW CWA q 5 = false := by simp [inW, CWA]
  have n2 : ∀ j, inW CWA (q + 4) j = false := fun j => by simp [inW, CWA]; omega
  exact ⟨by rw [(hf 44 3 rfl).2.2]; exact hp.1, by rw [frI hf n1]; exact hp.2.1, fun j hj => by rw [frI hf (n2 j)]; exact hp.2.2 j hj⟩
theorem add_any {dp : Nat} (hY : YQ q) (x : Int32) (hh : HI h) (hQ : ∀ h', HI h' → frm (CWE q) h h' → xA h' = xA h → Q none h') : Ends X dp 55 0 [.ref q, .int x] [] h Q := by
  have r := yq_rng hY
  have b := hh.iv q 5 (r := (0, 100)) (iv_q5 hY)
  have j100 : (100 : Int32).toInt = 100 := rfl
  simp only at b
  refine w_add hY x hh.hs ⟨fun e => hQ h hh frm_refl rfl, fun e => ⟨?_, ?_⟩⟩
  all_goals have e : ¬ (100 : Int32).toInt ≤ (h.2.1 q 5).toInt := of_decide_eq_false (cI e)
  · exact inB_iff (by omega) (by omega)
  · have g : (h.2.1 q 5 + 1).toInt = (h.2.1 q 5).toInt + 1 := by rw [i_add (by rw [i1]; omega) (by rw [i1]; omega), i1]
    have i4 := iv_q4 hY (h.2.1 q 5).toInt.toNat (by omega)
    have i5 := iv_q5 hY
    rw [show (h.2.1 q 5).toNatClampNeg = (h.2.1 q 5).toInt.toNat from rfl]
    generalize (h.2.1 q 5).toInt.toNat = n at i4 ⊢
    generalize h.2.1 q 5 + 1 = u at g ⊢
    have hx := i32r x
    simp only [fI] at hx
    refine hQ _ (HI_put (HI_put hh (by rw [i4]; exact hx.1) (by rw [i4]; exact hx.2)) (by rw [i5]; show (0 : Int) ≤ _; omega) (by rw [i5]; show _ ≤ (100 : Int); omega)) (frm_put (frm_put frm_refl CWE_4) CWE_5) ?_
    unfold xA
    rw [put_ne (by omega), put_ne (by omega)]
theorem add_ok {dp : Nat} (hY : YQ q) (x : Int32) (s : Int) (m : List Int) (hx : x.toInt = trM s) (hl : m.length < 100) (hh : HI h) (hp : RSt q h m) (hQ : ∀ h', HI h' → frm (CWE q) h h' → xA h' = xA h → RSt q h' (m ++ [s]) → Q none h') : Ends X dp 55 0 [.ref q, .int x] [] h Q := by
  have r := yq_rng hY
  have b := hp.2.1
  have j100 : (100 : Int32).toInt = 100 := rfl
  refine w_add hY x hh.hs ⟨fun e => ?_, fun e => ⟨inB_iff (by omega) (by omega), ?_⟩⟩
  · exfalso
    have e : (100 : Int32).toInt ≤ (h.2.1 q 5).toInt := of_decide_eq_true (cI e)
    omega
  · have g : (h.2.1 q 5 + 1).toInt = (m.length : Int) + 1 := by rw [i_add (by rw [i1]; omega) (by rw [i1]; omega), i1, b]
    have i4 := iv_q4 hY m.length hl
    have i5 := iv_q5 hY
    have en : (h.2.1 q 5).toNatClampNeg = m.length := by show (h.2.1 q 5).toInt.toNat = _; omega
    rw [en]
    generalize h.2.1 q 5 + 1 = u at g ⊢
    have hx2 := i32r x
    simp only [fI] at hx2
    refine hQ _ (HI_put (HI_put hh (by rw [i4]; exact hx2.1) (by rw [i4]; exact hx2.2)) (by rw [i5]; show (0 : Int) ≤ _; omega) (by rw [i5]; show _ ≤ (100 : Int); omega)) (frm_put (frm_put frm_refl CWE_4) CWE_5) ?_ ⟨hp.1, ?_, fun j hj => ?_⟩
    · unfold xA
      rw [put_ne (by omega), put_ne (by omega)]
    · rw [put_at, g, List.length_append, List.length_singleton]
      rfl
    · rw [List.length_append, List.length_singleton] at hj
      rw [put_ne (by omega), put_if]
      by_cases c : j = m.length
      · rw [if_pos c, hx, c, getD_app2]
      · rw [if_neg c, getD_app1 (by omega)]
        exact hp.2.2 j (by omega)
end CRD
theorem idxS3 (x : Int) : idxP x (sB 3) 0 = plcP x := by
  have e : sB 3 = [112, 107, 108, 115, 97, 121] := by decide
  rw [e]
  unfold plcP
  simp only [idxP]
  by_cases c0 : x = 112
  · rw [if_pos c0, if_pos c0.symm]
  · rw [if_neg c0, if_neg (fun q => c0 q.symm)]
    by_cases c1 : x = 107
    · rw [if_pos c1, if_pos c1.symm]; rfl
    · rw [if_neg c1, if_neg (fun q => c1 q.symm)]
      by_cases c2 : x = 108
      · rw [if_pos c2, if_pos c2.symm]; rfl
      · rw [if_neg c2, if_neg (fun q => c2 q.symm)]
        by_cases c3 : x = 115
        · rw [if_pos c3, if_pos c3.symm]; rfl
        · rw [if_neg c3, if_neg (fun q => c3 q.symm)]
          by_cases c4 : x = 97
          · rw [if_pos c4, if_pos c4.symm]; rfl
          · rw [if_neg c4, if_neg (fun q => c4 q.symm)]
            by_cases c5 : x = 121
            · rw [if_pos c5, if_pos c5.symm]; rfl
            · rw [if_neg c5, if_neg (fun q => c5 q.symm)]
theorem idxS4 (x : Int) : idxP x (sB 4) 0 = if 60 ≤ x ∧ x ≤ 62 then x - 60 else -1 := by
  have e : sB 4 = [60, 61, 62] := by decide
  rw [e]
  simp only [idxP]
  by_cases c0 : 60 = x
  · rw [if_pos c0, if_pos (by omega)]; omega
  · rw [if_neg c0]
    by_cases c1 : 61 = x
    · rw [if_pos c1, if_pos (by omega)]; omega
    · rw [if_neg c1]
      by_cases c2 : 62 = x
      · rw [if_pos c2, if_pos (by omega)]; omega
      · rw [if_neg c2, if_neg (by omega)]
theorem trM_test {f r v : Int} (h1 : 0 ≤ f) (h2 : f ≤ 5) (h3 : 0 ≤ r) (h4 : r ≤ 2) (h5 : 0 ≤ v) (h6 : v ≤ 99) : trM (1000 * f + 100 * r + v) = 300 * f + 100 * r + v := by
  unfold trM
  rw [if_neg (by omega), if_neg (by omega), if_neg (by omega)]
  omega
section CREC
variable {X : Scr} {q : Nat}
/-- where a reading stands -/
def CST (q : Nat) (T : Nat → Int) (n a : Nat) (m : List Int) (h : Hp) : Prop := HI h ∧ RSt q h m ∧ xT h = T ∧ xN h = n ∧ xA h = a
/-- how it ends -/
def CED (q : Nat) (h : Hp) (r : Bool × Nat × List Int) (h' : Hp) : Prop := HI h' ∧ frm (CWE q) h h' ∧ xA h' = r.2.1 ∧ (r.1 = true → RSt q h' r.2.2)
def C0 (X : Scr) (q : Nat) (T : Nat → Int) (n k : Nat) : Prop := ∀ (D d a : Nat) (m : List Int) (h : Hp) (dI : Int32) (Q : Option Value → Hp → Prop), 17 - 3 * d ≤ D → CST q T n a m h → a ≤ n → m.length ≤ a → 6 * (n + 1 - a) + 1 ≤ k → dI.toInt = d → d ≤ 4 → (∀ h', CED q h (cqP T n k 0 d a m) h' → Q (some (.int (b2i (cqP T n k 0 d a m).1))) h') → Ends X D 48 0 [.ref 44, .int dI, .retAddr 0, .retAddr 0, .retAddr 0] [] h Q
def C1 (X : Scr) (q : Nat) (T : Nat → Int) (n k : Nat) : Prop := ∀ (D d a : Nat) (m : List Int) (h : Hp) (dI : Int32) (Q : Option Value → Hp → Prop), 18 - 3 * d ≤ D → CST q T n a m h → a ≤ n → m.length ≤ a → 6 * (n + 1 - a) + 2 ≤ k → dI.toInt = d → d ≤ 4 → (∀ h', CED q h (cqP T n k 1 d a m) h' → Q (some (.int (b2i (cqP T n k 1 d a m).1))) h') → Ends X D 47 0 [.ref 44, .int dI, .retAddr 0, .retAddr 0] [] h Q
def C2 (X : Scr) (q : Nat) (T : Nat → Int) (n k : Nat) : Prop := ∀ (D d a : Nat) (m : List Int) (h : Hp) (dI : Int32) (Q : Option Value → Hp → Prop), 19 - 3 * d ≤ D → CST q T n a m h → a ≤ n → m.length ≤ a → 6 * (n + 1 - a) + 3 ≤ k → dI.toInt = d → d ≤ 4 → (∀ h', CED q h (cqP T n k 2 d a m) h' → Q (some (.int (b2i (cqP T n k 2 d a m).1))) h') → Ends X D 46 0 [.ref 44, .int dI, .retAddr 0, .retAddr 0] [] h Q
def C3 (X : Scr) (q : Nat) (T : Nat → Int) (n k : Nat) : Prop := ∀ (D d a : Nat) (m : List Int) (h0 h : Hp) (dI i : Int32) (Q : Option Value → Hp → Prop), 18 - 3 * d ≤ D → CST q T n a m h → frm (CWE q) h0 h → a ≤ n → m.length ≤ a → 6 * (n + 1 - a) + 1 ≤ k → dI.toInt = d → d ≤ 4 → 0 ≤ i.toInt → i.toInt ≤ a → (∀ h', CED q h0 (cqP T n k 3 d a m) h' → Q (some (.int (b2i (cqP T n k 3 d a m).1))) h') → Ends X D 47 8 [.ref 44, .int dI, .int 1, .int i] [] h Q
def C4 (X : Scr) (q : Nat) (T : Nat → Int) (n k : Nat) : Prop := ∀ (D d a : Nat) (m : List Int) (h0 h : Hp) (dI i : Int32) (Q : Option Value → Hp → Prop), 19 - 3 * d ≤ D → CST q T n a m h → frm (CWE q) h0 h → a ≤ n → m.length ≤ a → 6 * (n + 1 - a) + 1 ≤ k → dI.toInt = d → d ≤ 4 → 0 ≤ i.toInt → i.toInt ≤ a → (∀ h', CED q h0 (cqP T n k 4 d a m) h' → Q (some (.int (b2i (cqP T n k 4 d a m).1))) h') → Ends X D 46 8 [.ref 44, .int dI, .int 1, .int i] [] h Q
theorem b_rb (hY : YQ q) {dp : Nat} {h : Hp} {Q : Option Value → Hp → Prop} (d i : Int32) (hs : HS h) (hQ : Q (some (.int 0)) h) : Ends X (dp + 1) 47 8 [.ref 44, .int d, .int 0, .int i] [] h Q :=
  w_rb1 hY d 0 i hs ⟨fun _ => ⟨Or.inl rfl, hQ⟩, fun _ => ⟨fun _ => ⟨Or.inl rfl, hQ⟩, fun e => absurd e (by decide)⟩⟩
theorem b_re (hY : YQ q) {dp : Nat} {h : Hp} {Q : Option Value → Hp → Prop} (d i : Int32) (hs : HS h) (hQ : Q (some (.int 0)) h) : Ends X (dp + 1) 46 8 [.ref 44, .int d, .int 0, .int i] [] h Q :=
  w_re1 hY d 0 i hs ⟨fun _ => ⟨Or.inl rfl, hQ⟩, fun _ => ⟨fun _ => ⟨Or.inl rfl, hQ⟩, fun e => absurd e (by decide)⟩⟩
/-- a state behind one more byte -/
theorem CST_A (hY : YQ q) (T : Nat → Int) (n : Nat) {a a' : Nat} {m : List Int} {h h' : Hp} (hc : CST q T n a m h) (hh : HI h') (hf : frm CWA h h') (ha : xA h' = a') : CST q T n a' m h' :=
  ⟨hh, hc.2.1.fr hY hf, by rw [xT_fr hf CWA_T]; exact hc.2.2.1, by rw [xN_fr hf rfl]; exact hc.2.2.2.1, ha⟩
/-- a state behind a part that was read -/
theorem CST_E (hY : YQ q) (T : Nat → Int) (n : Nat) {a a' : Nat} {m m' : List Int} {h h' : Hp} (hc : CST q T n a m h) (hh : HI h') (hf : frm (CWE q) h h') (ha : xA h' = a') (hp : RSt q h' m') : CST q T n a' m' h' :=
  ⟨hh, hp, by rw [xT_fr hf (CWE_T hY)]; exact hc.2.2.1, by rw [xN_fr hf (CWE_N hY)]; exact hc.2.2.2.1, ha⟩
theorem RSt_ref (hY : YQ q) {h h' : Hp} {m : List Int} (hp : RSt q h m) (hf : frm (CWE q) h h') : h'.2.2.2 44 3 = some q := by rw [(hf 44 3 (CWE_R hY)).2.2]; exact hp.1
theorem crec_3 (hY : YQ q) (T : Nat → Int) (n : Nat) (hn : n ≤ 100) (k : Nat) (hs0 : C0 X q T n k) (h3 : C3 X q T n k) : C3 X q T n (k + 1) := by
  intro D d a m hz h dI i Q hD hc hf ha hm hk hd hd4 hi0 hia hQ
  obtain ⟨hh, hp, eT, eN, eA⟩ := id hc
  obtain ⟨e, rfl⟩ : ∃ e, D = e + 1 := ⟨D - 1, by omega⟩
  have j100 : (100 : Int32).toInt = 100 := rfl
  have stop : nxP T n a ≠ 38 → ∀ h', HI h' → frm CWA h h' → xA h' = a → Q (some (.int 1)) h' := by
    intro x h' g1 g2 g3
    unfold cqP at hQ
    rw [if_neg x] at hQ
    exact hQ h' ⟨g1, frm_trans hf (sub_A g2), g3, fun _ => hp.fr hY g2⟩
  refine w_rb1 hY dI 1 i hh.hs ⟨fun c => ⟨Or.inr rfl, stop ?_ h hh frm_refl eA⟩, fun _ => ⟨fun c2 => absurd c2 (by decide), fun _ => Ends.dpl (by omega) (ct_ok (dp := 0) 38 (by decide) hh (fun h1 g1 g2 g3 => ⟨_, rfl, g1.hs, fun c3 => ⟨Or.inr rfl, ?_⟩, fun c3 => ?_⟩))⟩⟩
  · have c : (100 : Int32).toInt ≤ i.toInt := of_decide_eq_true (cI c)
    intro x
    have := nx_lt2 x (by decide)
    omega
  · have c3 := of_decide_eq_false (cz c3)
    rw [if_neg c3, eA] at g3
    rw [eT, eN, eA] at c3
    exact stop c3 h1 g1 g2 g3
  · have c3 := of_decide_eq_true (cn c3)
    rw [if_pos c3, eA] at g3
    rw [eT, eN, eA] at c3
    have x : nxP T n a = 38 := c3
    have hl := nx_lt2 x (by decide)
    have hc1 := CST_A hY T n hc g1 g2 g3
    refine hs0 e d (a + 1) m h1 dI _ (by omega) hc1 (by omega) (by omega) (by omega) hd hd4 (fun h2 hE => ⟨_, rfl, hE.1.hs, RSt_ref hY hc1.2.1 hE.2.1, ?_⟩)
    obtain ⟨k1, k2, k3, k4⟩ := hE
    have f2 : frm (CWE q) hz h2 := frm_trans hf (frm_trans (sub_A g2) k2)
    cases hr : (cqP T n k 0 d (a + 1) m).1 with
    | true =>
      have lens := cP_len T n k 0 d (a + 1) m (by omega) hr
      have e3 : cqP T n (k + 1) 3 d a m = cqP T n k 3 d (cqP T n k 0 d (a + 1) m).2.1 ((cqP T n k 0 d (a + 1) m).2.2 ++ [-38]) := by
        rw [cqP, if_pos x, if_pos hr]
      rw [e3] at hQ
      refine add_ok hY (-2) (-38) _ (by decide) (by omega) k1 (k4 hr) (fun h3' l1 l2 l3 l4 => ⟨rfl, l1.hs, ?_⟩)
      have hc3 := CST_E hY T n hc1 l1 (frm_trans k2 l2) (l3.trans k3) l4
      exact h3 (e + 1) d _ _ hz h3' dI (i + 1) Q hD hc3 (frm_trans f2 l2) lens.2.1 (by rw [List.length_append, List.length_singleton]; omega) (by omega) hd hd4 (by rw [i_add (by rw [i1]; omega) (by rw [i1]; omega), i1]; omega) (by rw [i_add (by rw [i1]; omega) (by rw [i1]; omega), i1]; omega) hQ
    | false =>
      have e3 : cqP T n (k + 1) 3 d a m = cqP T n k 0 d (a + 1) m := by
        rw [cqP, if_pos x, if_neg (by rw [hr]; decide)]
      rw [e3, hr] at hQ
      refine add_any hY (-2) k1 (fun h3' l1 l2 l3 => ⟨rfl, l1.hs, b_rb hY dI (i + 1) l1.hs (hQ h3' ⟨l1, frm_trans f2 l2, l3.trans k3, fun z => by rw [hr] at z; cases z⟩)⟩)
theorem crec_4 (hY : YQ q) (T : Nat → Int) (n : Nat) (hn : n ≤ 100) (k : Nat) (hs0 : C1 X q T n k) (h3 : C4 X q T n k) : C4 X q T n (k + 1) := by
  intro D d a m hz h dI i Q hD hc hf ha hm hk hd hd4 hi0 hia hQ
  obtain ⟨hh, hp, eT, eN, eA⟩ := id hc
  obtain ⟨e, rfl⟩ : ∃ e, D = e + 1 := ⟨D - 1, by omega⟩
  have j100 : (100 : Int32).toInt = 100 := rfl
  have stop : nxP T n a ≠ 124 → ∀ h', HI h' → frm CWA h h' → xA h' = a → Q (some (.int 1)) h' := by
    intro x h' g1 g2 g3
    unfold cqP at hQ
    rw [if_neg x] at hQ
    exact hQ h' ⟨g1, frm_trans hf (sub_A g2), g3, fun _ => hp.fr hY g2⟩
  refine w_re1 hY dI 1 i hh.hs ⟨fun c => ⟨Or.inr rfl, stop ?_ h hh frm_refl eA⟩, fun _ => ⟨fun c2 => absurd c2 (by decide), fun _ => Ends.dpl (by omega) (ct_ok (dp := 0) 124 (by decide) hh (fun h1 g1 g2 g3 => ⟨_, rfl, g1.hs, fun c3 => ⟨Or.inr rfl, ?_⟩, fun c3 => ?_⟩))⟩⟩
  · have c : (100 : Int32).toInt ≤ i.toInt := of_decide_eq_true (cI c)
    intro x
    have := nx_lt2 x (by decide)
    omega
  · have c3 := of_decide_eq_false (cz c3)
    rw [if_neg c3, eA] at g3
    rw [eT, eN, eA] at c3
    exact stop c3 h1 g1 g2 g3
  · have c3 := of_decide_eq_true (cn c3)
    rw [if_pos c3, eA] at g3
    rw [eT, eN, eA] at c3
    have x : nxP T n a = 124 := c3
    have hl := nx_lt2 x (by decide)
    have hc1 := CST_A hY T n hc g1 g2 g3
    refine hs0 e d (a + 1) m h1 dI _ (by omega) hc1 (by omega) (by omega) (by omega) hd hd4 (fun h2 hE => ⟨_, rfl, hE.1.hs, RSt_ref hY hc1.2.1 hE.2.1, ?_⟩)
    obtain ⟨k1, k2, k3, k4⟩ := hE
    have f2 : frm (CWE q) hz h2 := frm_trans hf (frm_trans (sub_A g2) k2)
    cases hr : (cqP T n k 1 d (a + 1) m).1 with
    | true =>
      have lens := cP_len T n k 1 d (a + 1) m (by omega) hr
      have e3 : cqP T n (k + 1) 4 d a m = cqP T n k 4 d (cqP T n k 1 d (a + 1) m).2.1 ((cqP T n k 1 d (a + 1) m).2.2 ++ [-124]) := by
        rw [cqP, if_pos x, if_pos hr]
      rw [e3] at hQ
      refine add_ok hY (-3) (-124) _ (by decide) (by omega) k1 (k4 hr) (fun h3' l1 l2 l3 l4 => ⟨rfl, l1.hs, ?_⟩)
      have hc3 := CST_E hY T n hc1 l1 (frm_trans k2 l2) (l3.trans k3) l4
      exact h3 (e + 1) d _ _ hz h3' dI (i + 1) Q hD hc3 (frm_trans f2 l2) lens.2.1 (by rw [List.length_append, List.length_singleton]; omega) (by omega) hd hd4 (by rw [i_add (by rw [i1]; omega) (by rw [i1]; omega), i1]; omega) (by rw [i_add (by rw [i1]; omega) (by rw [i1]; omega), i1]; omega) hQ
    | false =>
      have e3 : cqP T n (k + 1) 4 d a m = cqP T n k 1 d (a + 1) m := by
        rw [cqP, if_pos x, if_neg (by rw [hr]; decide)]
      rw [e3, hr] at hQ
      refine add_any hY (-3) k1 (fun h3' l1 l2 l3 => ⟨rfl, l1.hs, b_re hY dI (i + 1) l1.hs (hQ h3' ⟨l1, frm_trans f2 l2, l3.trans k3, fun z => by rw [hr] at z; cases z⟩)⟩)
theorem crec_1 (hY : YQ q) (T : Nat → Int) (n : Nat) (k : Nat) (hs0 : C0 X q T n k) (h3 : C3 X q T n k) : C1 X q T n (k + 1) := by
  intro D d a m h dI Q hD hc ha hm hk hd hd4 hQ
  obtain ⟨hh, hp, eT, eN, eA⟩ := id hc
  obtain ⟨e, rfl⟩ : ∃ e, D = e + 1 := ⟨D - 1, by omega⟩
  refine w_rb0 hY dI hh.hs (hs0 e d a m h dI _ (by omega) hc ha hm (by omega) hd hd4 (fun h2 hE => ⟨_, rfl, hE.1.hs, ?_⟩))
  obtain ⟨k1, k2, k3, k4⟩ := hE
  cases hr : (cqP T n k 0 d a m).1 with
  | true =>
    have lens := cP_len T n k 0 d a m ha hr
    have e3 : cqP T n (k + 1) 1 d a m = cqP T n k 3 d (cqP T n k 0 d a m).2.1 (cqP T n k 0 d a m).2.2 := by
      rw [cqP, if_pos hr]
    rw [e3] at hQ
    exact h3 (e + 1) d _ _ h h2 dI 0 Q hD (CST_E hY T n hc k1 k2 k3 (k4 hr)) k2 lens.2.1 (by omega) (by omega) hd hd4 (by decide) (by show (0 : Int) ≤ _; omega) hQ
  | false =>
    have e3 : cqP T n (k + 1) 1 d a m = cqP T n k 0 d a m := by
      rw [cqP, if_neg (by rw [hr]; decide)]
    rw [e3, hr] at hQ
    exact b_rb hY dI 0 k1.hs (hQ h2 ⟨k1, k2, k3, fun z => by rw [hr] at z; cases z⟩)
theorem crec_2 (hY : YQ q) (T : Nat → Int) (n : Nat) (k : Nat) (hs0 : C1 X q T n k) (h3 : C4 X q T n k) : C2 X q T n (k + 1) := by
  intro D d a m h dI Q hD hc ha hm hk hd hd4 hQ
  obtain ⟨hh, hp, eT, eN, eA⟩ := id hc
  obtain ⟨e, rfl⟩ : ∃ e, D = e + 1 := ⟨D - 1, by omega⟩
  refine w_re0 hY dI hh.hs (hs0 e d a m h dI _ (by omega) hc ha hm (by omega) hd hd4 (fun h2 hE => ⟨_, rfl, hE.1.hs, ?_⟩))
  obtain ⟨k1, k2, k3, k4⟩ := hE
  cases hr : (cqP T n k 1 d a m).1 with
  | true =>
    have lens := cP_len T n k 1 d a m ha hr
    have e3 : cqP T n (k + 1) 2 d a m = cqP T n k 4 d (cqP T n k 1 d a m).2.1 (cqP T n k 1 d a m).2.2 := by
      rw [cqP, if_pos hr]
    rw [e3] at hQ
    exact h3 (e + 1) d _ _ h h2 dI 0 Q hD (CST_E hY T n hc k1 k2 k3 (k4 hr)) k2 lens.2.1 (by omega) (by omega) hd hd4 (by decide) (by show (0 : Int) ≤ _; omega) hQ
  | false =>
    have e3 : cqP T n (k + 1) 2 d a m = cqP T n k 1 d a m := by
      rw [cqP, if_neg (by rw [hr]; decide)]
    rw [e3, hr] at hQ
    exact b_re hY dI 0 k1.hs (hQ h2 ⟨k1, k2, k3, fun z => by rw [hr] at z; cases z⟩)
theorem ctest (hY : YQ q) (T : Nat → Int) (n : Nat) (d : Nat) (dI : Int32) {a : Nat} {m : List Int} {h : Hp} {Q : Option Value → Hp → Prop} {D : Nat} (hD : 5 ≤ D) (hc : CST q T n a m h) (ha : a ≤ n) (hn : n ≤ 100) (hm : m.length ≤ a)
    (q0 : ∀ b, testP T n a = (b, none) → ∀ h', HI h' → frm (CWE q) h h' → xA h' = b → Q (some (.int 0)) h')
    (q1 : ∀ b s, testP T n a = (b, some s) → ∀ h', HI h' → frm (CWE q) h h' → xA h' = b → RSt q h' (m ++ [s]) → Q (some (.int 1)) h') : Ends X D 48 71 [.ref 44, .int dI, .retAddr 0, .retAddr 0, .retAddr 0] [] h Q := by
  obtain ⟨hh, hp, eT, eN, eA⟩ := id hc
  obtain ⟨e, rfl⟩ : ∃ e, D = e + 1 := ⟨D - 1, by omega⟩
  have z0 : (0 : Int32).toInt = 0 := rfl
  refine w_ro71 hY dI hh.hs (Ends.dpl (by omega) (tko_ok (dp := 0) (s := 3) (by decide) hh (fun r1 h1 g1 g2 g3 g4 => ⟨r1, rfl, g1.hs, fun c => ?_, fun c => ?_⟩)))
  all_goals
    rw [eT, eN, eA, idxS3] at g3
    rw [eA] at g4
  · have c : 0 ≤ r1.toInt := of_decide_eq_true (cI c)
    have pl := plc_rng (nxP T n a)
    rw [if_neg (by omega)] at g4
    have hc1 := CST_A hY T n hc g1 g2 g4
    refine Ends.dpl (by omega) (tko_ok (dp := 0) (s := 4) (by decide) g1 (fun r2 h2 k1 k2 k3 k4 => ⟨r2, rfl, k1.hs, fun c2 => ?_, fun c2 => ?_⟩))
    all_goals
      rw [hc1.2.2.1, hc1.2.2.2.1, g4, idxS4] at k3
      rw [g4] at k4
    · have c2 : 0 ≤ r2.toInt := of_decide_eq_true (cI c2)
      rw [if_neg (by omega)] at k4
      have rel : 60 ≤ nxP T n (a + 1) ∧ nxP T n (a + 1) ≤ 62 := by
        apply Decidable.byContradiction
        intro x
        rw [if_neg x] at k3
        omega
      rw [if_pos rel] at k3
      have hc2 := CST_A hY T n hc1 k1 k2 k4
      refine Ends.dpl (by omega) (rn_ok (dp := 0) k1 (fun r3 h3 l1 l2 l3 => ⟨r3, rfl, l1.hs, fun c3 => ?_, fun c3 => ?_⟩))
      all_goals rw [hc2.2.2.1, hc2.2.2.2.1, k4] at l3
      · have c3 : 0 ≤ r3.toInt := of_decide_eq_true (cI c3)
        cases hnum : numP T n (a + 1 + 1) with
        | none =>
          rw [hnum] at l3
          exfalso
          have := l3.1
          omega
        | some w =>
          obtain ⟨v, b⟩ := w
          rw [hnum] at l3
          have nv := numP_le hnum
          have nl := numP_le2 hnum
          have ht : testP T n a = (b, some (1000 * plcP (nxP T n a) + 100 * (nxP T n (a + 1) - 60) + v)) := by
            unfold testP
            rw [if_neg (by omega), if_neg (by omega), show a + 2 = a + 1 + 1 from rfl, hnum]
          have hc3 := CST_A hY T n hc2 l1 l2 l3.2
          refine ⟨hc3.2.1.1, w_tm r1 r2 r3 l1.hs ⟨_, rfl, l1.hs, ?_⟩⟩
          have j3 : (3 : Int32).toInt = 3 := rfl
          have j100 : (100 : Int32).toInt = 100 := rfl
          have m1 : (r1 * 3).toInt = r1.toInt * 3 := by rw [i_mul (by rw [j3]; omega) (by rw [j3]; omega), j3]
          have m2 : (r1 * 3 + r2).toInt = r1.toInt * 3 + r2.toInt := by rw [i_add (by omega) (by omega), m1]
          have m3 : ((r1 * 3 + r2) * 100).toInt = (r1.toInt * 3 + r2.toInt) * 100 := by rw [i_mul (by rw [j100]; omega) (by rw [j100]; omega), j100, m2]
          have m4 : ((r1 * 3 + r2) * 100 + r3).toInt = (r1.toInt * 3 + r2.toInt) * 100 + r3.toInt := by rw [i_add (by omega) (by omega), m3]
          have l31 := l3.1
          refine add_ok hY _ (1000 * plcP (nxP T n a) + 100 * (nxP T n (a + 1) - 60) + v) m ?_ (by omega) l1 hc3.2.1 (fun h4 y1 y2 y3 y4 => ⟨rfl, y1.hs, q1 b _ ht h4 y1 (frm_trans (sub_A (frm_trans g2 (frm_trans k2 l2))) y2) (y3.trans l3.2) y4⟩)
          rw [m4, trM_test (by omega) (by omega) (by omega) (by omega) (by omega) (by omega)]
          omega
      · have c3 : ¬ 0 ≤ r3.toInt := of_decide_eq_false (cI c3)
        cases hnum : numP T n (a + 1 + 1) with
        | none =>
          rw [hnum] at l3
          have ht : testP T n a = (a + 2, none) := by
            unfold testP
            rw [if_neg (by omega), if_neg (by omega), show a + 2 = a + 1 + 1 from rfl, hnum]
          exact q0 _ ht h3 l1 (sub_A (frm_trans g2 (frm_trans k2 l2))) l3.2
        | some w =>
          obtain ⟨v, b⟩ := w
          rw [hnum] at l3
          have nv := numP_le hnum
          have := l3.1
          omega
    · have c2 : ¬ 0 ≤ r2.toInt := of_decide_eq_false (cI c2)
      rw [if_pos (by omega)] at k4
      have rel : ¬ (60 ≤ nxP T n (a + 1) ∧ nxP T n (a + 1) ≤ 62) := by
        intro x
        rw [if_pos x] at k3
        omega
      have ht : testP T n a = (a + 1, none) := by
        unfold testP
        rw [if_neg (by omega), if_pos rel]
      exact q0 _ ht h2 k1 (sub_A (frm_trans g2 k2)) k4
  · have c : ¬ 0 ≤ r1.toInt := of_decide_eq_false (cI c)
    rw [if_pos (by omega)] at g4
    have ht : testP T n a = (a, none) := by
      unfold testP
      rw [if_pos (by omega)]
    exact q0 _ ht h1 g1 (sub_A g2) g4
theorem crec_0 (hY : YQ q) (T : Nat → Int) (n : Nat) (hn : n ≤ 100) (k : Nat) (h0 : C0 X q T n k) (h2 : C2 X q T n k) : C0 X q T n (k + 1) := by
  intro D d a m h dI Q hD hc ha hm hk hd hd4 hQ
  obtain ⟨hh, hp, eT, eN, eA⟩ := id hc
  obtain ⟨e, rfl⟩ : ∃ e, D = e + 1 := ⟨D - 1, by omega⟩
  have j4 : (4 : Int32).toInt = 4 := rfl
  have d1 : (dI + 1).toInt = ((d + 1 : Nat) : Int) := by rw [i_add (by rw [i1]; omega) (by rw [i1]; omega), i1]; omega
  -- the test
  have test : ∀ {h1}, ¬ (nxP T n a = 33 ∧ d < 4) → ¬ (nxP T n a = 40 ∧ d < 4) → HI h1 → frm CWA h h1 → xA h1 = a → Ends X (e + 1) 48 71 [.ref 44, .int dI, .retAddr 0, .retAddr 0, .retAddr 0] [] h1 Q := by
    intro h1 x1 x2 g1 g2 g3
    unfold cqP at hQ
    rw [if_neg x1, if_neg x2] at hQ
    refine ctest hY T n d dI (by omega) (CST_A hY T n hc g1 g2 g3) ha hn hm (fun b ht h' l1 l2 l3 => ?_) (fun b s ht h' l1 l2 l3 l4 => ?_)
    · rw [ht] at hQ
      exact hQ h' ⟨l1, frm_trans (sub_A g2) l2, l3, fun z => by simp at z⟩
    · rw [ht] at hQ
      exact hQ h' ⟨l1, frm_trans (sub_A g2) l2, l3, fun _ => l4⟩
  refine w_ro hY dI hh.hs ⟨fun c => ⟨fun _ => ?_, fun c2 => (noc c c2).elim⟩, fun c => Ends.dpl (by omega) (ct_ok (dp := 0) 33 (by decide) hh (fun h1 g1 g2 g3 => ⟨_, rfl, g1.hs, fun c3 => ⟨fun c2 => (noc c2 c).elim, fun _ => Ends.dpl (by omega) (ct_ok (dp := 0) 40 (by decide) g1 (fun h2' k1 k2 k3 => ⟨_, rfl, k1.hs, fun c4 => ?_, fun c4 => ?_⟩))⟩, fun c3 => ?_⟩))⟩
  · have c : (4 : Int32).toInt ≤ dI.toInt := of_decide_eq_true (cI c)
    exact test (fun x => by omega) (fun x => by omega) hh frm_refl eA
  · have c : ¬ (4 : Int32).toInt ≤ dI.toInt := of_decide_eq_false (cI c)
    have c3 := of_decide_eq_false (cz c3)
    rw [if_neg c3, eA] at g3
    rw [eT, eN, eA] at c3
    have hc1 := CST_A hY T n hc g1 g2 g3
    have c4 := of_decide_eq_false (cz c4)
    rw [if_neg c4, g3] at k3
    rw [hc1.2.2.1, hc1.2.2.2.1, g3] at c4
    exact test (fun x => c3 x.1) (fun x => c4 x.1) k1 (frm_trans g2 k2) k3
  · have c : ¬ (4 : Int32).toInt ≤ dI.toInt := of_decide_eq_false (cI c)
    have c3 := of_decide_eq_false (cz c3)
    rw [if_neg c3, eA] at g3
    rw [eT, eN, eA] at c3
    have hc1 := CST_A hY T n hc g1 g2 g3
    have c4 := of_decide_eq_true (cn c4)
    rw [if_pos c4, g3] at k3
    rw [hc1.2.2.1, hc1.2.2.2.1, g3] at c4
    have x : nxP T n a = 40 := c4
    have hl := nx_lt2 x (by decide)
    have hc2 := CST_A hY T n hc1 k1 k2 k3
    unfold cqP at hQ
    rw [if_neg (fun z => c3 z.1), if_pos ⟨x, by omega⟩] at hQ
    have f2 : frm (CWE q) h h2' := sub_A (frm_trans g2 k2)
    refine h2 e (d + 1) (a + 1) m h2' (dI + 1) _ (by omega) hc2 (by omega) (by omega) (by omega) d1 (by omega) (fun h3 hE => ⟨_, rfl, hE.1.hs, fun c5 => ?_, fun c5 => ?_⟩)
    · have c5 := cz c5
      rw [if_neg (fun z => by rw [c5] at z; exact absurd z.1 (by decide))] at hQ
      exact hQ h3 ⟨hE.1, frm_trans f2 hE.2.1, hE.2.2.1, fun z => by simp at z⟩
    · have c5 := cn c5
      have hc3 := CST_E hY T n hc2 hE.1 hE.2.1 hE.2.2.1 (hE.2.2.2 c5)
      refine Ends.dpl (by omega) (ct_ok (dp := 0) 41 (by decide) hE.1 (fun h4 l1 l2 l3 => ⟨_, rfl, l1.hs, fun c6 => ?_, fun c6 => ?_⟩))
      · have c6 := of_decide_eq_false (cz c6)
        rw [if_neg c6, hE.2.2.1] at l3
        rw [hc3.2.2.1, hc3.2.2.2.1, hE.2.2.1] at c6
        rw [if_neg (fun z => c6 z.2)] at hQ
        exact hQ h4 ⟨l1, frm_trans f2 (frm_trans hE.2.1 (sub_A l2)), l3, fun z => by simp at z⟩
      · have c6 := of_decide_eq_true (cn c6)
        rw [if_pos c6, hE.2.2.1] at l3
        rw [hc3.2.2.1, hc3.2.2.2.1, hE.2.2.1] at c6
        rw [if_pos ⟨c5, c6⟩] at hQ
        exact hQ h4 ⟨l1, frm_trans f2 (frm_trans hE.2.1 (sub_A l2)), l3, fun _ => hc3.2.1.fr hY l2⟩
  · have c : ¬ (4 : Int32).toInt ≤ dI.toInt := of_decide_eq_false (cI c)
    have c3 := of_decide_eq_true (cn c3)
    rw [if_pos c3, eA] at g3
    rw [eT, eN, eA] at c3
    have x : nxP T n a = 33 := c3
    have hl := nx_lt2 x (by decide)
    have hc1 := CST_A hY T n hc g1 g2 g3
    unfold cqP at hQ
    rw [if_pos ⟨x, by omega⟩] at hQ
    refine h0 e (d + 1) (a + 1) m h1 (dI + 1) _ (by omega) hc1 (by omega) (by omega) (by omega) d1 (by omega) (fun h3 hE => ⟨_, rfl, hE.1.hs, RSt_ref hY hc1.2.1 hE.2.1, ?_⟩)
    have f3 : frm (CWE q) h h3 := frm_trans (sub_A g2) hE.2.1
    cases hr : (cqP T n k 0 (d + 1) (a + 1) m).1 with
    | true =>
      have lens := cP_len T n k 0 (d + 1) (a + 1) m (by omega) hr
      rw [hr] at hQ
      exact add_ok hY (-1) (-33) _ (by decide) (by omega) hE.1 (hE.2.2.2 hr) (fun h4 l1 l2 l3 l4 => ⟨rfl, l1.hs, b2i_01 _, hQ h4 ⟨l1, frm_trans f3 l2, l3.trans hE.2.2.1, fun _ => l4⟩⟩)
    | false =>
      rw [hr] at hQ
      exact add_any hY (-1) hE.1 (fun h4 l1 l2 l3 => ⟨rfl, l1.hs, b2i_01 _, hQ h4 ⟨l1, frm_trans f3 l2, l3.trans hE.2.2.1, fun z => by simp at z⟩⟩)
theorem crec_all (hY : YQ q) (T : Nat → Int) (n : Nat) (hn : n ≤ 100) : ∀ k, C0 X q T n k ∧ C1 X q T n k ∧ C2 X q T n k ∧ C3 X q T n k ∧ C4 X q T n k
  | 0 => ⟨fun D d a m h dI Q hD hc ha hm hk => by omega, fun D d a m h dI Q hD hc ha hm hk => by omega, fun D d a m h dI Q hD hc ha hm hk => by omega, fun D d a m hz h dI i Q hD hc hf ha hm hk => by omega, fun D d a m hz h dI i Q hD hc hf ha hm hk => by omega⟩
  | k + 1 => by
    obtain ⟨h0, h1, h2, h3, h4⟩ := crec_all hY T n hn k
    exact ⟨crec_0 hY T n hn k h0 h2, crec_1 hY T n k h0 h3, crec_2 hY T n k h1 h4, crec_3 hY T n hn k h0 h3, crec_4 hY T n hn k h1 h4⟩
/-- the class reads an E -/
theorem cE_ok (hY : YQ q) (T : Nat → Int) (n : Nat) (hn : n ≤ 100) {a : Nat} {m : List Int} {h : Hp} {Q : Option Value → Hp → Prop} (hc : CST q T n a m h) (ha : a ≤ n) (hm : m.length ≤ a) (hQ : ∀ h', CED q h (ecP T n a m) h' → Q (some (.int (b2i (ecP T n a m).1))) h') : Ends X 19 46 0 [.ref 44, .int 0, .retAddr 0, .retAddr 0] [] h Q :=
  (crec_all hY T n hn 609).2.2.1 19 0 a m h 0 Q (by decide) hc ha hm (by omega) rfl (by decide) hQ
end CREC
end JN99tw3cread
section JN99tw4ctext
/-! The class reads a yard, exactly. -/
/-- a clause: its word, its number, where its marks begin and end -/
abbrev Cl : Type := Int × Int × Nat × Nat
def cl0 : Cl := (0, 0, 0, 0)
/-- a clause, read from a on behind the marks m: whether, the place, the marks, word and number -/
def clP (T : Nat → Int) (n a : Nat) (m : List Int) : Bool × Nat × List Int × Int × Int :=
  if (wdP T n a).1 < 0 then (false, (wdP T n a).2, m, 0, 0)
  else if nxP T n (wdP T n a).2 = 32 then (match numP T n ((wdP T n a).2 + 1) with
    | none => (false, (wdP T n a).2 + 1, m, 0, 0)
    | some (v, b) => if nxP T n b = 32 then ((ecP T n (b + 1) m).1, (ecP T n (b + 1) m).2.1, (ecP T n (b + 1) m).2.2, (wdP T n a).1, v) else (false, b, m, 0, 0))
  else (false, (wdP T n a).2, m, 0, 0)
/-- one clause more -/
def snC (cs : List Cl) (m m' : List Int) (w v : Int) : List Cl := cs ++ [(w, v, m.length, m'.length)]
/-- a yard: k clauses may come -/
def gtP (T : Nat → Int) (n : Nat) : Nat → Nat → List Cl → List Int → Bool × Nat × List Cl × List Int
  | 0, a, cs, m => (false, a, cs, m)
  | k + 1, a, cs, m => if (clP T n a m).1 = true then (if (clP T n a m).2.1 = n then (true, n, snC cs m (clP T n a m).2.2.1 (clP T n a m).2.2.2.1 (clP T n a m).2.2.2.2, (clP T n a m).2.2.1)
      else if k = 0 then (false, (clP T n a m).2.1, snC cs m (clP T n a m).2.2.1 (clP T n a m).2.2.2.1 (clP T n a m).2.2.2.2, (clP T n a m).2.2.1)
      else if nxP T n (clP T n a m).2.1 = 59 then gtP T n k ((clP T n a m).2.1 + 1) (snC cs m (clP T n a m).2.2.1 (clP T n a m).2.2.2.1 (clP T n a m).2.2.2.2) (clP T n a m).2.2.1
      else (false, (clP T n a m).2.1, snC cs m (clP T n a m).2.2.1 (clP T n a m).2.2.2.1 (clP T n a m).2.2.2.2, (clP T n a m).2.2.1))
    else (false, (clP T n a m).2.1, cs, m)
/-- what comes behind a clause -/
def afP (T : Nat → Int) (n k a : Nat) (cs : List Cl) (m : List Int) : Bool × Nat × List Cl × List Int := if a = n then (true, n, cs, m) else if k = 0 then (false, a, cs, m) else if nxP T n a = 59 then gtP T n k (a + 1) cs m else (false, a, cs, m)
theorem gt_af {T : Nat → Int} {n k a : Nat} {cs : List Cl} {m : List Int} : gtP T n (k + 1) a cs m = if (clP T n a m).1 = true then afP T n k (clP T n a m).2.1 (snC cs m (clP T n a m).2.2.1 (clP T n a m).2.2.2.1 (clP T n a m).2.2.2.2) (clP T n a m).2.2.1 else (false, (clP T n a m).2.1, cs, m) := rfl
theorem lst_le (T : Nat → Int) (n : Nat) : ∀ (l : List Int) (a : Nat), a ≤ n → (∀ c ∈ l, 0 ≤ c) → a ≤ (lstP T n l a).2 ∧ (lstP T n l a).2 ≤ n
  | [], a, h, _ => ⟨Nat.le_refl _, h⟩
  | c :: l, a, h, hc => by
    unfold lstP
    split
    · rename_i x
      have c0 := hc c List.mem_cons_self
      have hl := nx_lt2 x (by omega)
      have := lst_le T n l (a + 1) (by omega) (fun d hd => hc d (List.mem_cons_of_mem _ hd))
      omega
    · exact ⟨Nat.le_refl _, h⟩
theorem sB_nn : ∀ s, s < 5 → ∀ c ∈ sB s, 0 ≤ c := by decide
theorem wd_le {T : Nat → Int} {n a : Nat} (h : a ≤ n) : a ≤ (wdP T n a).2 ∧ (wdP T n a).2 ≤ n ∧ -1 ≤ (wdP T n a).1 ∧ (wdP T n a).1 ≤ 2 := by
  unfold wdP
  split
  · rename_i x
    have hl := nx_lt2 x (by decide)
    have l := lst_le T n (sB 0) (a + 1) (by omega) (sB_nn 0 (by decide))
    refine ⟨by show a ≤ (lstP T n (sB 0) (a + 1)).2; omega, l.2, ?_, ?_⟩ <;> split <;> (dsimp only; decide)
  · split
    · rename_i x
      have hl := nx_lt2 x (by decide)
      have l := lst_le T n (sB 1) (a + 1) (by omega) (sB_nn 1 (by decide))
      refine ⟨by show a ≤ (lstP T n (sB 1) (a + 1)).2; omega, l.2, ?_, ?_⟩ <;> split <;> (dsimp only; decide)
    · split
      · rename_i x
        have hl := nx_lt2 x (by decide)
        have l := lst_le T n (sB 2) (a + 1) (by omega) (sB_nn 2 (by decide))
        refine ⟨by show a ≤ (lstP T n (sB 2) (a + 1)).2; omega, l.2, ?_, ?_⟩ <;> split <;> (dsimp only; decide)
      · exact ⟨Nat.le_refl _, h, by show (-1 : Int) ≤ -1; decide, by show (-1 : Int) ≤ 2; decide⟩
/-- what a clause that is read has of it -/
theorem clP_ok {T : Nat → Int} {n a : Nat} {m : List Int} (h : a ≤ n) (hok : (clP T n a m).1 = true) : a < (clP T n a m).2.1 ∧ (clP T n a m).2.1 ≤ n ∧ (clP T n a m).2.2.1.length + a ≤ m.length + (clP T n a m).2.1 ∧ 0 ≤ (clP T n a m).2.2.2.1 ∧ (clP T n a m).2.2.2.1 ≤ 2 ∧ 0 ≤ (clP T n a m).2.2.2.2 ∧ (clP T n a m).2.2.2.2 ≤ 99 := by
  have w := wd_le (T := T) h
  unfold clP at hok ⊢
  by_cases c1 : (wdP T n a).1 < 0
  · rw [if_pos c1] at hok
    simp at hok
  · rw [if_neg c1] at hok ⊢
    by_cases c2 : nxP T n (wdP T n a).2 = 32
    · rw [if_pos c2] at hok ⊢
      have l2 := nx_lt2 c2 (by decide)
      cases hnum : numP T n ((wdP T n a).2 + 1) with
      | none =>
        rw [hnum] at hok
        simp at hok
      | some q =>
        obtain ⟨v, b⟩ := q
        rw [hnum] at hok
        have nv := numP_le hnum
        have nl := numP_le2 hnum
        simp only at hok ⊢
        by_cases c3 : nxP T n b = 32
        · rw [if_pos c3] at hok ⊢
          have l3 := nx_lt2 c3 (by decide)
          have e := cP_len T n 609 2 0 (b + 1) m (by omega) hok
          refine ⟨by show a < (ecP T n (b + 1) m).2.1; unfold ecP; omega, e.2.1, ?_, by show 0 ≤ (wdP T n a).1; omega, w.2.2.2, nv.2.1, nv.2.2⟩
          show (ecP T n (b + 1) m).2.2.length + a ≤ m.length + (ecP T n (b + 1) m).2.1
          unfold ecP
          omega
        · rw [if_neg c3] at hok
          simp at hok
    · rw [if_neg c2] at hok
      simp at hok
def CWC (q : Nat) : List (Nat × Nat) := [(44, 2), (q, 0), (q, 5), (q + 1, 999), (q + 2, 999), (q + 3, 999), (q + 4, 999)]
theorem CWC_E {q : Nat} {h h' : Hp} (hf : frm (CWE q) h h') : frm (CWC q) h h' := frm_sub (W := CWC q) (by simp [subW, CWE, CWC]) hf
theorem CWC_A {q : Nat} {h h' : Hp} (hf : frm CWA h h') : frm (CWC q) h h' := frm_sub (W := CWC q) (by simp [subW, CWA, CWC]) hf
theorem CWC_n {q a k : Nat} (h1 : ¬ (a = 44 ∧ k = 2)) (h2 : a < q ∨ q + 4 < a) : inW (CWC q) a k = false := by
  simp only [inW, CWC, List.any_cons, List.any_nil, Bool.or_false, Bool.or_eq_false_iff, Bool.and_eq_false_iff, beq_eq_false_iff_ne]
  refine ⟨?_, ?_, ?_, ?_, ?_, ?_, ?_⟩
  · by_cases c : 44 = a
    · exact Or.inr ⟨by omega, by decide⟩
    · exact Or.inl c
  all_goals exact Or.inl (by omega)
theorem CWC_i {q j k : Nat} (hj : 1 ≤ j ∧ j ≤ 4) : inW (CWC q) (q + j) k = true := by
  match j, hj with
  | 0, h => omega
  | 1, _ => simp [inW, CWC]
  | 2, _ => simp [inW, CWC]
  | 3, _ => simp [inW, CWC]
  | 4, _ => simp [inW, CWC]
  | j + 5, h => omega
theorem CWC_0 {q : Nat} : inW (CWC q) q 0 = true := by simp [inW, CWC]
/-- what the class has read so far of a yard -/
def RCl (q : Nat) (h : Hp) (cs : List Cl) (m : List Int) : Prop := RSt q h m ∧ (h.2.1 q 0).toInt = (cs.length : Int) ∧ ∀ c, c < cs.length → (h.2.1 (q + 1) c).toInt = (cs.getD c cl0).1 ∧ (h.2.1 (q + 2) c).toInt = (cs.getD c cl0).2.1 ∧ (h.2.1 (q + 3) c).toInt = ((cs.getD c cl0).2.2.2 : Int)
theorem iv_q0 {q : Nat} (hY : YQ q) : ivl q 0 = (0, 10) := of_decide_eq_true (yq (P := fun q => decide (ivl q 0 = (0, 10))) hY (by decide +kernel))
theorem iv_qa {q : Nat} (hY : YQ q) : ∀ j, j < 10 → ivl (q + 1) j = (-2147483648, 2147483647) ∧ ivl (q + 2) j = (-2147483648, 2147483647) ∧ ivl (q + 3) j = (-2147483648, 2147483647) := by
  have := yq (P := fun q => (List.range 10).all (fun j => decide (ivl (q + 1) j = (-2147483648, 2147483647)) && decide (ivl (q + 2) j = (-2147483648, 2147483647)) && decide (ivl (q + 3) j = (-2147483648, 2147483647)))) hY (by decide +kernel)
  intro j hj
  have q := List.all_eq_true.mp this j (List.mem_range.mpr hj)
  simp only [Bool.and_eq_true, decide_eq_true_eq] at q
  exact ⟨q.1.1, q.1.2, q.2⟩
section CTX
variable {X : Scr} {q : Nat}
theorem getC1 {l : List Cl} {x : Cl} {j : Nat} (h : j < l.length) : (l ++ [x]).getD j cl0 = l.getD j cl0 := by
  rw [List.getD_eq_getElem?_getD, List.getElem?_append_left h, List.getD_eq_getElem?_getD]
theorem getC2 {l : List Cl} {x : Cl} : (l ++ [x]).getD l.length cl0 = x := by
  rw [List.getD_eq_getElem?_getD, List.getElem?_append_right (Nat.le_refl _), Nat.sub_self]
  rfl
theorem RCl.frE (hY : YQ q) {h h' : Hp} {cs : List Cl} {m m' : List Int} (hp : RCl q h cs m) (hf : frm (CWE q) h h') (hm : RSt q h' m') : RCl q h' cs m' := by
  have r := yq_rng hY
  refine ⟨hm, by rw [frI hf (CWE_n (by omega) (by omega) (by omega))]; exact hp.2.1, fun c hc => ?_⟩
  rw [frI hf (a := q + 1) (CWE_n (by omega) (by omega) (by omega)), frI hf (a := q + 2) (CWE_n (by omega) (by omega) (by omega)), frI hf (a := q + 3) (CWE_n (by omega) (by omega) (by omega))]
  exact hp.2.2 c hc
theorem cls_x (hY : YQ q) {dp : Nat} {h : Hp} {Q : Option Value → Hp → Prop} (w v : Int32) (f0 : Nat) (cs : List Cl) (m : List Int) (hh : HI h) (hp : RCl q h cs m) (hl : cs.length < 10) (hm : m.length ≤ 100)
    (hQ : ∀ h', HI h' → frm (CWC q) h h' → xA h' = xA h → RCl q h' (cs ++ [(w.toInt, v.toInt, f0, m.length)]) m → Q none h') : Ends X dp 56 0 [.ref q, .int w, .int v] [] h Q := by
  have r := yq_rng hY
  obtain ⟨⟨p1, p2, p3⟩, p4, p5⟩ := hp
  have j10 : (10 : Int32).toInt = 10 := rfl
  refine w_cls hY w v hh.hs ⟨fun e => ?_, fun e => ?_⟩
  · exfalso
    have e : (10 : Int32).toInt ≤ (h.2.1 q 0).toInt := of_decide_eq_true (cI e)
    omega
  · have ib : inB (h.2.1 q 0) 10 = true := inB_iff (by omega) (by omega)
    refine ⟨ib, ib, ib, ?_⟩
    have g : (h.2.1 q 0 + 1).toInt = (cs.length : Int) + 1 := by rw [i_add (by rw [i1]; omega) (by rw [i1]; omega), i1, p4]
    obtain ⟨i1', i2', i3'⟩ := iv_qa hY cs.length hl
    have i0 := iv_q0 hY
    have en : (h.2.1 q 0).toNatClampNeg = cs.length := by show (h.2.1 q 0).toInt.toNat = _; omega
    rw [en]
    generalize h.2.1 q 0 + 1 = u at g ⊢
    have hw := i32r w
    have hv := i32r v
    have h5 := i32r (h.2.1 q 5)
    simp only [fI] at hw hv h5
    generalize hz : h.2.1 q 5 = z at p2 h5 ⊢
    refine hQ _ (HI_put (HI_put (HI_put (HI_put hh (by rw [i1']; exact hw.1) (by rw [i1']; exact hw.2)) (by rw [i2']; exact hv.1) (by rw [i2']; exact hv.2)) (by rw [i3']; exact h5.1) (by rw [i3']; exact h5.2)) (by rw [i0]; show (0 : Int) ≤ _; omega) (by rw [i0]; show _ ≤ (10 : Int); omega))
      (frm_put (frm_put (frm_put (frm_put frm_refl (CWC_i (by omega))) (CWC_i (by omega))) (CWC_i (by omega))) CWC_0) ?_ ⟨⟨p1, ?_, fun j hj => ?_⟩, ?_, fun c hc => ?_⟩
    · unfold xA
      rw [put_ne (by omega), put_ne (by omega), put_ne (by omega), put_ne (by omega)]
    · rw [put_ne (by omega), put_ne (by omega), put_ne (by omega), put_ne (by omega), hz]
      exact p2
    · rw [put_ne (by omega), put_ne (by omega), put_ne (by omega), put_ne (by omega)]
      exact p3 j hj
    · rw [put_at, g, List.length_append, List.length_singleton]
      rfl
    · rw [List.length_append, List.length_singleton] at hc
      rw [put_ne (a := q) (by omega), put_ne (a := q + 3) (by omega), put_ne (a := q + 2) (by omega), put_if, put_ne (a := q) (b := q + 2) (by omega), put_ne (a := q + 3) (b := q + 2) (by omega), put_if, put_ne (a := q) (b := q + 3) (by omega), put_if]
      by_cases d : c = cs.length
      · rw [if_pos d, if_pos d, if_pos d, d, getC2]
        exact ⟨rfl, rfl, p2⟩
      · rw [if_neg d, if_neg d, if_neg d, getC1 (by omega), put_ne (by omega), put_ne (by omega), put_ne (by omega)]
        exact p5 c (by omega)
/-- the class reads a clause -/
theorem cC_ok (hY : YQ q) (T : Nat → Int) (n : Nat) (hn : n ≤ 100) {a : Nat} (cs : List Cl) (m : List Int) {h : Hp} {Q : Option Value → Hp → Prop} (hc : CST q T n a m h) (hcs : RCl q h cs m) (hl : cs.length < 10) (ha : a ≤ n) (hm : m.length ≤ a)
    (hQ : ∀ h', HI h' → frm (CWC q) h h' → xA h' = (clP T n a m).2.1 → ((clP T n a m).1 = true → RCl q h' (snC cs m (clP T n a m).2.2.1 (clP T n a m).2.2.2.1 (clP T n a m).2.2.2.2) (clP T n a m).2.2.1) → Q (some (.int (b2i (clP T n a m).1))) h') : Ends X 20 43 0 [.ref 44, .retAddr 0, .retAddr 0] [] h Q := by
  obtain ⟨hh, hp, eT, eN, eA⟩ := id hc
  have j32 : (32 : Int32).toInt = 32 := rfl
  have z0 : (0 : Int32).toInt = 0 := rfl
  unfold clP at hQ
  have wl := wd_le (T := T) ha
  refine w_rc (dp := 19) hY hh.hs (Ends.dpl (by decide) (rw_ok (dp := 0) hh (fun r1 h1 g1 g2 g3 g4 => ⟨r1, rfl, g1.hs, fun c => ?_, fun c => ?_⟩)))
  all_goals
    rw [eT, eN, eA] at g3 g4
  · have c : r1.toInt < 0 := of_decide_eq_true (cI c)
    rw [if_pos (by omega)] at hQ
    exact hQ h1 g1 (CWC_A g2) g4 (fun z => by simp at z)
  · have c : ¬ r1.toInt < 0 := of_decide_eq_false (cI c)
    rw [if_neg (by omega)] at hQ
    have hc1 := CST_A hY T n hc g1 g2 g4
    refine Ends.dpl (by decide) (ct_ok (dp := 0) 32 (by decide) g1 (fun h2 k1 k2 k3 => ⟨_, rfl, k1.hs, fun c2 => ?_, fun c2 => ?_⟩))
    · have c2 := of_decide_eq_true (cn2 c2)
      rw [if_pos c2, g4] at k3
      rw [hc1.2.2.1, hc1.2.2.2.1, g4] at c2
      have c2 : nxP T n (wdP T n a).2 = 32 := c2
      have l2 := nx_lt2 c2 (by decide)
      rw [if_pos c2] at hQ
      have hc2 := CST_A hY T n hc1 k1 k2 k3
      refine Ends.dpl (by decide) (rn_ok (dp := 0) k1 (fun r3 h3 l1 l2' l3 => ⟨r3, rfl, l1.hs, fun c3 => ?_, fun c3 => ?_⟩))
      all_goals rw [hc2.2.2.1, hc2.2.2.2.1, k3] at l3
      · have c3 : r3.toInt < 0 := of_decide_eq_true (cI c3)
        cases hnum : numP T n ((wdP T n a).2 + 1) with
        | none =>
          rw [hnum] at l3 hQ
          exact hQ h3 l1 (CWC_A (frm_trans g2 (frm_trans k2 l2'))) l3.2 (fun z => by simp at z)
        | some w =>
          obtain ⟨v, b⟩ := w
          rw [hnum] at l3
          have nv := numP_le hnum
          have := l3.1
          omega
      · have c3 : ¬ r3.toInt < 0 := of_decide_eq_false (cI c3)
        cases hnum : numP T n ((wdP T n a).2 + 1) with
        | none =>
          rw [hnum] at l3
          have := l3.1
          omega
        | some w =>
          obtain ⟨v, b⟩ := w
          rw [hnum] at l3 hQ
          simp only at hQ
          have nl := numP_le2 hnum
          have hc3 := CST_A hY T n hc2 l1 l2' l3.2
          have f3 : frm CWA h h3 := frm_trans g2 (frm_trans k2 l2')
          refine Ends.dpl (by decide) (ct_ok (dp := 0) 32 (by decide) l1 (fun h4 y1 y2 y3 => ⟨_, rfl, y1.hs, fun c4 => ?_, fun c4 => ?_⟩))
          · have c4 := of_decide_eq_false (cz c4)
            rw [if_neg c4, l3.2] at y3
            rw [hc3.2.2.1, hc3.2.2.2.1, l3.2] at c4
            rw [if_neg (show ¬ nxP T n b = 32 from c4)] at hQ
            exact hQ h4 y1 (CWC_A (frm_trans f3 y2)) y3 (fun z => by simp at z)
          · have c4 := of_decide_eq_true (cn c4)
            rw [if_pos c4, l3.2] at y3
            rw [hc3.2.2.1, hc3.2.2.2.1, l3.2] at c4
            have c4 : nxP T n b = 32 := c4
            have l4 := nx_lt2 c4 (by decide)
            rw [if_pos c4] at hQ
            have hc4 := CST_A hY T n hc3 y1 y2 y3
            have f4 : frm CWA h h4 := frm_trans f3 y2
            have hcs4 : RCl q h4 cs m := RCl.frE hY hcs (sub_A f4) hc4.2.1
            refine cE_ok hY T n hn hc4 (by omega) (by omega) (fun h5 hE => ⟨_, rfl, hE.1.hs, fun c5 => ⟨RSt_ref hY hc4.2.1 hE.2.1, ?_⟩, fun c5 => ?_⟩)
            · have c5 := cn2 c5
              have le5 := cP_len T n 609 2 0 (b + 1) m (by omega) c5
              have hc5 : RCl q h5 cs (ecP T n (b + 1) m).2.2 := RCl.frE hY hcs4 hE.2.1 (hE.2.2.2 c5)
              refine cls_x hY r1 r3 m.length cs (ecP T n (b + 1) m).2.2 hE.1 hc5 hl (by unfold ecP; omega) (fun h6 x1 x2 x3 x4 => ⟨rfl, x1.hs, ?_⟩)
              rw [c5] at hQ
              refine hQ h6 x1 (frm_trans (CWC_A f4) (frm_trans (CWC_E hE.2.1) x2)) (x3.trans hE.2.2.1) (fun _ => ?_)
              have e1 : r1.toInt = (wdP T n a).1 := g3
              have e2 : r3.toInt = v := l3.1
              rw [e1, e2] at x4
              exact x4
            · have c5 := cz2 c5
              rw [c5] at hQ
              exact hQ h5 hE.1 (frm_trans (CWC_A f4) (CWC_E hE.2.1)) hE.2.2.1 (fun z => by simp at z)
    · have c2 := of_decide_eq_false (cz2 c2)
      rw [if_neg c2, g4] at k3
      rw [hc1.2.2.1, hc1.2.2.2.1, g4] at c2
      rw [if_neg (show ¬ nxP T n (wdP T n a).2 = 32 from c2)] at hQ
      exact hQ h2 k1 (CWC_A (frm_trans g2 k2)) k3 (fun z => by simp at z)
/-- how the reading of a yard ends -/
def GED (q : Nat) (h : Hp) (r : Bool × Nat × List Cl × List Int) (v : Int32) (h' : Hp) : Prop := HI h' ∧ frm (CWC q) h h' ∧ (v.toInt = (if r.1 = true then -1 else (r.2.1 : Int)) ∧ v.toInt ≤ 100) ∧ (r.1 = true → RCl q h' r.2.2.1 r.2.2.2)
theorem b_ri (hY : YQ q) {dp : Nat} {h : Hp} {Q : Option Value → Hp → Prop} (i : Int32) (hs : HS h) (hQ : Q (some (.int (h.2.1 44 2))) h) : Ends X (dp + 1) 42 24 [.ref 44, .ref q, .int 0, .int i] [] h Q :=
  w_ri1 hY 0 i hs ⟨fun _ => ⟨fun _ => hQ, fun e => absurd e (by decide)⟩, fun _ => ⟨fun _ => ⟨fun _ => hQ, fun e => absurd e (by decide)⟩, fun e => absurd e (by decide)⟩⟩
theorem ri_go (hY : YQ q) (T : Nat → Int) (n : Nat) (hn : n ≤ 100) {h0 : Hp} {Q : Option Value → Hp → Prop} : ∀ (k a : Nat) (cs : List Cl) (m : List Int) (i : Int32) (h : Hp), CST q T n a m h → frm (CWC q) h0 h → RCl q h cs m → cs.length + k = 10 → i.toInt = (cs.length : Int) → a ≤ n → m.length ≤ a →
    (∀ (v : Int32) h', GED q h0 (afP T n k a cs m) v h' → Q (some (.int v)) h') → Ends X 21 42 24 [.ref 44, .ref q, .int 1, .int i] [] h Q
  | k, a, cs, m, i, h, hc, hf, hcs, hk, hi, ha, hm, hQ => by
    obtain ⟨hh, hp, eT, eN, eA⟩ := id hc
    have j10 : (10 : Int32).toInt = 10 := rfl
    have j59 : (59 : Int32).toInt = 59 := rfl
    obtain ⟨a1, a2⟩ := xA_v hh
    obtain ⟨b1, b2⟩ := xN_v hh
    rw [eA] at a1
    rw [eN] at b1
    -- at the end
    have done : a = n → Q (some (.int (-1))) h := fun x => by
      unfold afP at hQ
      rw [if_pos x] at hQ
      exact hQ (-1) h ⟨hh, hf, ⟨by rw [if_pos rfl]; rfl, by decide⟩, fun _ => hcs⟩
    have out : ∀ h', HI h' → frm CWA h h' → xA h' = a → ¬ a = n → (k = 0 ∨ nxP T n a ≠ 59) → Q (some (.int (h'.2.1 44 2))) h' := by
      intro h' g1 g2 g3 x y
      unfold afP at hQ
      rw [if_neg x] at hQ
      have v := (xA_v g1).1
      have v2 := (xA_v g1).2
      by_cases k0 : k = 0
      · rw [if_pos k0] at hQ
        exact hQ _ h' ⟨g1, frm_trans hf (CWC_A g2), ⟨by rw [v, g3]; rfl, by rw [v]; omega⟩, fun z => by simp at z⟩
      · rw [if_neg k0, if_neg (by rcases y with y | y; exact absurd y k0; exact y)] at hQ
        exact hQ _ h' ⟨g1, frm_trans hf (CWC_A g2), ⟨by rw [v, g3]; rfl, by rw [v]; omega⟩, fun z => by simp at z⟩
    have fin : (k = 0 ∨ a = n) → (condB .ne (h.2.1 44 2) (h.2.1 44 1) = true → Q (some (.int (h.2.1 44 2))) h) ∧ (condB .ne (h.2.1 44 2) (h.2.1 44 1) = false → Q (some (.int (-1))) h) := by
      intro kk
      refine ⟨fun e => ?_, fun e => ?_⟩
      · have e : ¬ (h.2.1 44 2).toInt = (h.2.1 44 1).toInt := of_decide_eq_true (cI e)
        exact out h hh frm_refl eA (by omega) (by rcases kk with kk | kk; exact Or.inl kk; omega)
      · have e : ¬ ¬ (h.2.1 44 2).toInt = (h.2.1 44 1).toInt := of_decide_eq_false (cI e)
        exact done (by omega)
    refine w_ri1 (dp := 20) hY 1 i hh.hs ⟨fun c => ⟨fun e => absurd e (by decide), fun _ => fin ?_⟩, fun c => ⟨fun e => absurd e (by decide), fun _ => ⟨fun c2 => ⟨fun e => absurd e (by decide), fun _ => fin ?_⟩, fun c2 => Ends.dpl (by decide) (ct_ok (dp := 0) 59 (by decide) hh (fun h1 g1 g2 g3 => ⟨_, rfl, g1.hs, fun c3 => ?_, fun c3 => ?_⟩))⟩⟩⟩
    · have c : (10 : Int32).toInt ≤ i.toInt := of_decide_eq_true (cI c)
      exact Or.inl (by omega)
    · have c2 : (h.2.1 44 1).toInt ≤ (h.2.1 44 2).toInt := of_decide_eq_true (cI c2)
      exact Or.inr (by omega)
    · have c : ¬ (10 : Int32).toInt ≤ i.toInt := of_decide_eq_false (cI c)
      have c2 : ¬ (h.2.1 44 1).toInt ≤ (h.2.1 44 2).toInt := of_decide_eq_false (cI c2)
      have c3 := of_decide_eq_false (cz c3)
      rw [if_neg c3, eA] at g3
      rw [eT, eN, eA] at c3
      exact b_ri hY (i + 1) g1.hs (out h1 g1 g2 g3 (by omega) (Or.inr c3))
    · have c : ¬ (10 : Int32).toInt ≤ i.toInt := of_decide_eq_false (cI c)
      have c2 : ¬ (h.2.1 44 1).toInt ≤ (h.2.1 44 2).toInt := of_decide_eq_false (cI c2)
      have c3 := of_decide_eq_true (cn c3)
      rw [if_pos c3, eA] at g3
      rw [eT, eN, eA] at c3
      have x : nxP T n a = 59 := c3
      have hl := nx_lt2 x (by decide)
      have hc1 := CST_A hY T n hc g1 g2 g3
      have hcs1 : RCl q h1 cs m := RCl.frE hY hcs (sub_A g2) hc1.2.1
      have f1 : frm (CWC q) h0 h1 := frm_trans hf (CWC_A g2)
      have i1' : (i + 1).toInt = i.toInt + 1 := by rw [i_add (by rw [i1]; omega) (by rw [i1]; omega), i1]
      match k, hk with
      | 0, hk => omega
      | k + 1, hk =>
        unfold afP at hQ
        rw [if_neg (by omega), if_neg (by omega), if_pos x, gt_af] at hQ
        refine cC_ok hY T n hn cs m hc1 hcs1 (by omega) (by omega) (by omega) (fun h2 k1 k2 k3 k4 => ⟨_, rfl, k1.hs, fun c5 => ?_, fun c5 => ?_⟩)
        · have c5 := cz c5
          rw [if_neg (by rw [c5]; decide)] at hQ
          refine b_ri hY (i + 1) k1.hs (hQ _ h2 ⟨k1, frm_trans f1 k2, ?_, fun z => by simp at z⟩)
          have v2 := xA_v k1
          refine ⟨?_, by omega⟩
          rw [v2.1, k3]
          rfl
        · have c5 := cn c5
          rw [if_pos c5] at hQ
          have le := clP_ok (m := m) (by omega : a + 1 ≤ n) c5
          have hc2 : CST q T n (clP T n (a + 1) m).2.1 (clP T n (a + 1) m).2.2.1 h2 := by
            have r := yq_rng hY
            exact ⟨k1, (k4 c5).1, by rw [← hc1.2.2.1]; funext j; unfold xT; rw [frI k2 (CWC_n (by omega) (by omega))], by rw [← hc1.2.2.2.1]; unfold xN; rw [frI k2 (CWC_n (by omega) (by omega))], k3⟩
          refine ri_go hY T n hn k (clP T n (a + 1) m).2.1 _ (clP T n (a + 1) m).2.2.1 (i + 1) h2 hc2 (frm_trans f1 k2) (k4 c5) ?_ ?_ le.2.1 (by omega) hQ
          · unfold snC
            rw [List.length_append, List.length_singleton]
            omega
          · unfold snC
            rw [List.length_append, List.length_singleton, i1', hi]
            rfl
/-- the class reads a yard -/
theorem cI_ok (hY : YQ q) {h : Hp} {Q : Option Value → Hp → Prop} (hh : HI h) (hQ : ∀ (v : Int32) h', HI h' → frm (CWC q ++ [(44, 3)]) h h' → v.toInt = (if (gtP (xT h) (xN h) 10 0 [] []).1 = true then -1 else ((gtP (xT h) (xN h) 10 0 [] []).2.1 : Int)) ∧ v.toInt ≤ 100 → ((gtP (xT h) (xN h) 10 0 [] []).1 = true → RCl q h' (gtP (xT h) (xN h) 10 0 [] []).2.2.1 (gtP (xT h) (xN h) 10 0 [] []).2.2.2) → Q (some (.int v)) h') : Ends X 21 42 0 [.ref 44, .ref q, .retAddr 0, .retAddr 0] [] h Q := by
  have r := yq_rng hY
  have hn := (xN_v hh).2
  have i0 := iv_q0 hY
  have i5 := iv_q5 hY
  have hh1 : HI (hpI (hpI (hpI (hpQ h q) q 0 0) q 5 0) 44 2 0) := HI_put (HI_put (HI_put (HI_Q hY hh) (by rw [i0]; decide) (by rw [i0]; decide)) (by rw [i5]; decide) (by rw [i5]; decide)) (by show (0 : Int) ≤ 0; decide) (by show (0 : Int) ≤ 100; decide)
  have fQ : frm [(44, 3)] h (hpQ h q) := by
    intro a k hk
    refine ⟨rfl, rfl, ?_⟩
    show ud h.2.2.2 44 3 (some q) a k = _
    unfold ud
    by_cases d : a = 44 ∧ k = 3
    · rw [d.1, d.2] at hk
      simp [inW] at hk
    · by_cases e : a = 44
      · have : ¬ k = 3 := fun z => d ⟨e, z⟩
        rw [if_pos e]
        subst e
        exact if_neg this
      · rw [if_neg e]
  have f1 : frm (CWC q ++ [(44, 3)]) h (hpI (hpI (hpI (hpQ h q) q 0 0) q 5 0) 44 2 0) := by
    have s1 : inW (CWC q ++ [(44, 3)]) q 0 = true := by simp [inW, CWC]
    have s2 : inW (CWC q ++ [(44, 3)]) q 5 = true := by simp [inW, CWC]
    have s3 : inW (CWC q ++ [(44, 3)]) 44 2 = true := by simp [inW, CWC]
    exact frm_put (frm_put (frm_put (frm_sub (V := [(44, 3)]) (by simp [subW]) fQ) s1) s2) s3
  have eT : xT (hpI (hpI (hpI (hpQ h q) q 0 0) q 5 0) 44 2 0) = xT h := by
    funext j
    unfold xT
    rw [put_ne (by omega), put_ne (by omega), put_ne (by omega)]
    rfl
  have eN : xN (hpI (hpI (hpI (hpQ h q) q 0 0) q 5 0) 44 2 0) = xN h := by
    unfold xN
    rw [put_ne (by omega), put_ne (by omega), put_ne (by omega)]
    rfl
  have eA : xA (hpI (hpI (hpI (hpQ h q) q 0 0) q 5 0) 44 2 0) = 0 := by
    unfold xA
    rw [put_at]
    rfl
  have rs : RSt q (hpI (hpI (hpI (hpQ h q) q 0 0) q 5 0) 44 2 0) [] := ⟨hpQ_at (h := h), by rw [put_ne (by omega), put_at]; rfl, fun j hj => absurd hj (Nat.not_lt_zero j)⟩
  have rc : RCl q (hpI (hpI (hpI (hpQ h q) q 0 0) q 5 0) 44 2 0) [] [] := ⟨rs, by rw [put_ne (by omega), put_ne (by omega), put_at]; rfl, fun j hj => absurd hj (Nat.not_lt_zero j)⟩
  have sub : ∀ {h1 h2 : Hp}, frm (CWC q) h1 h2 → frm (CWC q ++ [(44, 3)]) h1 h2 := fun {h1 h2} hf a k hk => hf a k (by
    simp only [inW, List.any_append, Bool.or_eq_false_iff] at hk
    exact hk.1)
  refine w_ri0 (dp := 20) hY hh.hs ⟨hpQ_at, w_clr hY (hs_Q hY hh.hs) ⟨rfl, (HI_Q hY hh).hs, ?_⟩⟩
  generalize hpI (hpI (hpI (hpQ h q) q 0 0) q 5 0) 44 2 0 = h1 at hh1 f1 eT eN eA rs rc ⊢
  have hc : CST q (xT h) (xN h) 0 [] h1 := ⟨hh1, rs, eT, eN, eA⟩
  rw [gt_af] at hQ
  refine cC_ok hY (xT h) (xN h) hn [] [] hc rc (by decide) (Nat.zero_le _) (Nat.le_refl _) (fun h2 k1 k2 k3 k4 => ⟨_, rfl, k1.hs, ?_⟩)
  cases c5 : (clP (xT h) (xN h) 0 []).1 with
  | false =>
    rw [c5, if_neg Bool.false_ne_true] at hQ
    refine b_ri hY 1 k1.hs (hQ _ h2 k1 (frm_trans f1 (sub k2)) ?_ (fun z => by simp at z))
    have v2 := xA_v k1
    refine ⟨?_, by omega⟩
    rw [v2.1, k3]
    rfl
  | true =>
    rw [if_pos c5] at hQ
    have le := clP_ok (m := []) (Nat.zero_le (xN h)) c5
    have hc2 : CST q (xT h) (xN h) (clP (xT h) (xN h) 0 []).2.1 (clP (xT h) (xN h) 0 []).2.2.1 h2 :=
      ⟨k1, (k4 c5).1, by rw [← hc.2.2.1]; funext j; unfold xT; rw [frI k2 (CWC_n (by omega) (by omega))], by rw [← hc.2.2.2.1]; unfold xN; rw [frI k2 (CWC_n (by omega) (by omega))], k3⟩
    exact ri_go hY (xT h) (xN h) hn (h0 := h1) 9 (clP (xT h) (xN h) 0 []).2.1 _ (clP (xT h) (xN h) 0 []).2.2.1 1 h2 hc2 k2 (k4 c5) rfl rfl le.2.1 (by have := le.2.2.1; simpa using this) (fun v h' g => hQ v h' g.1 (frm_trans f1 (sub g.2.1)) g.2.2.1 g.2.2.2)
end CTX
end JN99tw4ctext
section JN99tw5mtext
/-! The reference reads a yard, exactly. -/
/-- the letters of the words -/
def LTR (h : Hp) : Prop := ∀ j, j < 14 → (h.2.1 108 j).toInt = [114, 101, 97, 99, 104, 104, 111, 108, 100, 100, 111, 100, 103, 101].getD j 0
theorem LTR.fr {W : List (Nat × Nat)} {h h' : Hp} (hl : LTR h) (hf : frm W h h') (hw : ∀ k, inW W 108 k = false) : LTR h' := fun j hj => by rw [frI hf (hw j)]; exact hl j hj
/-- a clause's head: whether, the place -/
def hdP (T : Nat → Int) (n a : Nat) : Bool × Nat := if (wdP T n a).1 < 0 then (false, (wdP T n a).2) else if nxP T n (wdP T n a).2 = 32 then (true, (wdP T n a).2 + 1) else (false, (wdP T n a).2)
theorem wrd_hd {T : Nat → Int} {n a : Nat} {s : Nat} {c w : Int} (hx : nxP T n a = c) (hw : 0 ≤ w) (he : wdP T n a = (if (lstP T n (sB s) (a + 1)).1 = true then w else -1, (lstP T n (sB s) (a + 1)).2)) : wrdP T n (c :: sB s) a = hdP T n a := by
  rw [lst_wrd]
  unfold hdP
  rw [he]
  have e : lstP T n (c :: sB s) a = lstP T n (sB s) (a + 1) := by
    rw [lstP, if_pos hx]
  rw [e]
  generalize lstP T n (sB s) (a + 1) = r
  obtain ⟨b, p⟩ := r
  cases b with
  | true =>
    show (if nxP T n p = 32 then (true, p + 1) else (false, p)) = if w < 0 then (false, p) else if nxP T n p = 32 then (true, p + 1) else (false, p)
    rw [if_neg (show ¬ w < 0 by omega)]
  | false => rfl
theorem hd_r {T : Nat → Int} {n a : Nat} (hx : nxP T n a = 114) : wrdP T n [114, 101, 97, 99, 104] a = hdP T n a ∧ ((hdP T n a).1 = true → (wdP T n a).1 = 0) := by
  have he : wdP T n a = (if (lstP T n (sB 0) (a + 1)).1 = true then 0 else -1, (lstP T n (sB 0) (a + 1)).2) := by unfold wdP; rw [if_pos hx]
  refine ⟨wrd_hd (s := 0) (w := 0) hx (by decide) he, fun q => ?_⟩
  unfold hdP at q
  rw [he] at q ⊢
  cases hb : (lstP T n (sB 0) (a + 1)).1 with
  | true => rfl
  | false =>
    rw [hb] at q
    simp at q
theorem hd_h {T : Nat → Int} {n a : Nat} (hx : nxP T n a = 104) : wrdP T n [104, 111, 108, 100] a = hdP T n a ∧ ((hdP T n a).1 = true → (wdP T n a).1 = 1) := by
  have he : wdP T n a = (if (lstP T n (sB 1) (a + 1)).1 = true then 1 else -1, (lstP T n (sB 1) (a + 1)).2) := by unfold wdP; rw [if_neg (by omega), if_pos hx]
  refine ⟨wrd_hd (s := 1) (w := 1) hx (by decide) he, fun q => ?_⟩
  unfold hdP at q
  rw [he] at q ⊢
  cases hb : (lstP T n (sB 1) (a + 1)).1 with
  | true => rfl
  | false =>
    rw [hb] at q
    simp at q
theorem hd_d {T : Nat → Int} {n a : Nat} (h1 : nxP T n a ≠ 114) (h2 : nxP T n a ≠ 104) : wrdP T n [100, 111, 100, 103, 101] a = hdP T n a ∧ ((hdP T n a).1 = true → (wdP T n a).1 = 2) := by
  by_cases hx : nxP T n a = 100
  · have he : wdP T n a = (if (lstP T n (sB 2) (a + 1)).1 = true then 2 else -1, (lstP T n (sB 2) (a + 1)).2) := by unfold wdP; rw [if_neg h1, if_neg h2, if_pos hx]
    refine ⟨wrd_hd (s := 2) (w := 2) hx (by decide) he, fun q => ?_⟩
    unfold hdP at q
    rw [he] at q ⊢
    cases hb : (lstP T n (sB 2) (a + 1)).1 with
    | true => rfl
    | false =>
      rw [hb] at q
      simp at q
  · have he : wdP T n a = (-1, a) := by unfold wdP; rw [if_neg h1, if_neg h2, if_neg hx]
    have e : hdP T n a = (false, a) := by
      unfold hdP
      rw [he]
      rfl
    rw [e]
    refine ⟨?_, fun q => by simp at q⟩
    rw [wrdP, if_neg hx]
theorem clP_hd {T : Nat → Int} {n a : Nat} {m : List Int} : clP T n a m = if (hdP T n a).1 = true then (match numP T n (hdP T n a).2 with
    | none => (false, (hdP T n a).2, m, 0, 0)
    | some (v, b) => if nxP T n b = 32 then ((ecP T n (b + 1) m).1, (ecP T n (b + 1) m).2.1, (ecP T n (b + 1) m).2.2, (wdP T n a).1, v) else (false, b, m, 0, 0)) else (false, (hdP T n a).2, m, 0, 0) := by
  unfold clP hdP
  by_cases c1 : (wdP T n a).1 < 0
  · rw [if_pos c1, if_pos c1]
    rfl
  · rw [if_neg c1, if_neg c1]
    by_cases c2 : nxP T n (wdP T n a).2 = 32
    · rw [if_pos c2, if_pos c2]
      rfl
    · rw [if_neg c2, if_neg c2]
      rfl
theorem cnF {b : Bool} (h : condB .eq (b2i b) 0 = false) : b = true := nb.mp (of_decide_eq_false (cI h))
def WTX (cn : Nat) : List (Nat × Nat) := [(93, 12), (93, 13), (93, 22), (93, 23), (93, 24), (106, 999), (107, 999), (105, cn), (104, cn)]
theorem WTX_104 {cn : Nat} : inW (WTX cn) 104 cn = true := by simp [inW, WTX]
theorem sub_TX {cn : Nat} {h h' : Hp} (hf : frm (WTX cn) h h') : frm (WCL cn) h h' := frm_sub (W := WCL cn) (by simp [subW, WTX, WCL]) hf
theorem sub_TE3 {cn : Nat} {h h' : Hp} (hf : frm (WTE cn) h h') : frm (WTX cn) h h' := frm_sub (W := WTX cn) (by simp [subW, WTE, WTX]) hf
section CLX
variable {X : Scr} {dp f : Nat} {h : Hp} {Q : Option Value → Hp → Prop}
theorem hd_x (c : Int32) (cn : Nat) (hc : c.toInt = cn) (hcn : cn < 60) (hh : HI h) (hL : LTR h)
    (hQ : ∀ (ok : Bool) h', HI h' → frm (WHD cn) h h' → (ok, tA h') = hdP (tT h) (tN h) (tA h) → (ok = true → (h'.2.1 102 cn).toInt = (wdP (tT h) (tN h) (tA h)).1) → Q (some (.int (b2i ok))) h') : Ends X (dp + 1 + 1 + 1) 130 0 [.ref 93, .int c] [] h Q := by
  have hcc : c.toNatClampNeg = cn := by show c.toInt.toNat = _; omega
  have hi : inB c 60 = true := inB_iff (by omega) (by omega)
  have go : ∀ (a b v : Int32) (an bn : Nat) (l : List Int), a.toInt = an → b.toInt = bn → an + bn ≤ 14 → 0 ≤ v.toInt → v.toInt ≤ 2 → ((List.range bn).map (fun k => (h.2.1 108 (an + k)).toInt)) = l → wrdP (tT h) (tN h) l (tA h) = hdP (tT h) (tN h) (tA h) ∧ ((hdP (tT h) (tN h) (tA h)).1 = true → (wdP (tT h) (tN h) (tA h)).1 = v.toInt) → Ends X (dp + 1 + 1) 121 0 [.ref 93, .int a, .int b, .retAddr 0] [] (hpI h 102 c.toNatClampNeg v) (fun rv h6 => ∃ r7, rv = some (.int r7) ∧ HS h6 ∧ (r7 = 0 ∨ r7 = 1) ∧ Q (some (.int r7)) h6) := by
    intro a b v an bn l ha hb hab hv1 hv2 hl he
    rw [hcc]
    have hh1 : HI (hpI h 102 cn v) := HI_put hh (by show (0 : Int) ≤ _; omega) (by show _ ≤ (2 : Int); omega)
    have eA : tA (hpI h 102 cn v) = tA h := by unfold tA; rw [put_ne (by omega)]
    have eN : tN (hpI h 102 cn v) = tN h := by unfold tN; rw [put_ne (by omega)]
    have eT : tT (hpI h 102 cn v) = tT h := by funext i; unfold tT; rw [put_ne (by omega)]
    refine tw_ok a b an bn ha hb hab hh1 (fun ok h' a1 a2 a3 => ⟨_, rfl, a1.hs, b2i_01 _, ?_⟩)
    have el : ((List.range bn).map (fun k => ((hpI h 102 cn v).2.1 108 (an + k)).toInt)) = l := by
      rw [← hl]
      apply List.map_congr_left
      intro k _
      rw [put_ne (by omega)]
    rw [el, eT, eN, eA, he.1] at a3
    refine hQ ok h' a1 (frm_trans (frm_put frm_refl (by simp [inW, WHD])) (frm_sub (V := WA) (by simp [subW, WA, WHD]) a2)) a3 (fun q => ?_)
    rw [frI a2 (by rfl), put_at]
    exact (he.2 (by rw [← a3]; exact q)).symm
  have nr := nx_rng hh
  have l1 : ((List.range 5).map (fun k => (h.2.1 108 (0 + k)).toInt)) = [114, 101, 97, 99, 104] := by
    simp only [List.range, List.range.loop, List.map]
    rw [hL 0 (by decide), hL 1 (by decide), hL 2 (by decide), hL 3 (by decide), hL 4 (by decide)]
    rfl
  have l2 : ((List.range 4).map (fun k => (h.2.1 108 (5 + k)).toInt)) = [104, 111, 108, 100] := by
    simp only [List.range, List.range.loop, List.map]
    rw [hL 5 (by decide), hL 6 (by decide), hL 7 (by decide), hL 8 (by decide)]
    rfl
  have l3 : ((List.range 5).map (fun k => (h.2.1 108 (9 + k)).toInt)) = [100, 111, 100, 103, 101] := by
    simp only [List.range, List.range.loop, List.map]
    rw [hL 9 (by decide), hL 10 (by decide), hL 11 (by decide), hL 12 (by decide), hL 13 (by decide)]
    rfl
  refine w_head c hh.hs (nx_ok hh (fun r hr => ⟨r, rfl, hh.hs, fun e => ⟨hi, ?_⟩, fun e => ⟨hi, ?_⟩, fun e => ⟨hi, ?_⟩⟩))
  · exact go 9 5 2 9 5 _ rfl rfl (by omega) (by decide) (by decide) l3 (hd_d (by omega) (by omega))
  · exact go 5 4 1 5 4 _ rfl rfl (by omega) (by decide) (by decide) l2 (hd_h (by omega))
  · exact go 0 5 0 0 5 _ rfl rfl (by omega) (by decide) (by decide) l1 (hd_r (by omega))
theorem te_x (c : Int32) (cn : Nat) (hc : c.toInt = cn) (hcn : cn < 60) (hf5 : f ≤ 5) (sg : List Int) (hh : HI h) (hp : SGp f h sg) (hl : sg.length ≤ tA h) (hle : tA h ≤ tN h)
    (q0 : ∀ h', HI h' → frm (WTX cn) h h' → LW f h h' → (ecP (tT h) (tN h) (tA h) sg).1 = false → tA h' = (ecP (tT h) (tN h) (tA h) sg).2.1 → Q (some (.int 0)) h')
    (q1 : ∀ h', HI h' → frm (WTX cn) h h' → LW f h h' → (ecP (tT h) (tN h) (tA h) sg).1 = true → tA h' = (ecP (tT h) (tN h) (tA h) sg).2.1 → SGp f h' (ecP (tT h) (tN h) (tA h) sg).2.2 → (h'.2.1 104 cn).toInt = ((100 * f + sg.length : Nat) : Int) → (h'.2.1 105 cn).toInt = ((100 * f + (ecP (tT h) (tN h) (tA h) sg).2.2.length : Nat) : Int) → Q (some (.int 1)) h') :
    Ends X (dp + 1 + 1 + 1 + 1) 129 0 [.ref 93, .int c, .retAddr 0, .retAddr 0] [] h Q := by
  have hcc : c.toNatClampNeg = cn := by show c.toInt.toNat = _; omega
  refine w_te0 c hh.hs ⟨inB_iff (by omega) (by omega), ?_⟩
  rw [hcc]
  have v22 : (hpI (hpI h 93 23 0) 93 24 0).2.1 93 22 = h.2.1 93 22 := by rw [put_ne (by omega), put_ne (by omega)]
  rw [v22]
  have b22 := hh.iv 93 22 (r := (0, 600)) rfl
  have hh1 : HI (hpI (hpI (hpI h 93 23 0) 93 24 0) 104 cn (h.2.1 93 22)) := HI_put (HI_put (HI_put hh (by show (0 : Int) ≤ 0; decide) (by show (0 : Int) ≤ 101; decide)) (i32r 0).1 (i32r 0).2) (by show (0 : Int) ≤ _; exact b22.1) (by show _ ≤ (600 : Int); exact b22.2)
  have f1 : frm (WTX cn) h (hpI (hpI (hpI h 93 23 0) 93 24 0) 104 cn (h.2.1 93 22)) := frm_put (frm_put (frm_put frm_refl rfl) rfl) WTX_104
  have l1 : LW f h (hpI (hpI (hpI h 93 23 0) 93 24 0) 104 cn (h.2.1 93 22)) := LW.tr (LW.tr (LW.put (by decide)) (LW.put (by decide))) (LW.put (by decide))
  have e104 : ((hpI (hpI (hpI h 93 23 0) 93 24 0) 104 cn (h.2.1 93 22)).2.1 104 cn).toInt = ((100 * f + sg.length : Nat) : Int) := by rw [put_at]; exact hp.1
  have eA : tA (hpI (hpI (hpI h 93 23 0) 93 24 0) 104 cn (h.2.1 93 22)) = tA h := by unfold tA; rw [put_ne (by omega), put_ne (by omega), put_ne (by omega)]
  have eN : tN (hpI (hpI (hpI h 93 23 0) 93 24 0) 104 cn (h.2.1 93 22)) = tN h := by unfold tN; rw [put_ne (by omega), put_ne (by omega), put_ne (by omega)]
  have eT : tT (hpI (hpI (hpI h 93 23 0) 93 24 0) 104 cn (h.2.1 93 22)) = tT h := by funext i; unfold tT; rw [put_ne (by omega), put_ne (by omega), put_ne (by omega)]
  have s1 : PSt f (hpI (hpI (hpI h 93 23 0) 93 24 0) 104 cn (h.2.1 93 22)) [] sg := ⟨by rw [put_ne (by omega), put_ne (by omega), put_at]; rfl, by rw [put_ne (by omega), put_at]; rfl, by rw [put_ne (by omega), put_ne (by omega), put_ne (by omega)]; exact hp.1, fun j hj => by simp at hj, fun j hj => by rw [put_ne (by omega), put_ne (by omega), put_ne (by omega)]; exact hp.2 j hj⟩
  generalize hpI (hpI (hpI h 93 23 0) 93 24 0) 104 cn (h.2.1 93 22) = h1 at *
  refine te_loop (h0 := h1) c cn hc hcn hf5 (tN h1 + 1) (tA h1) [] sg true (fun ok h' ws' sg' a1 a2 a3 a4 a5 a6 => ?_) (tN h1 + 1) [] sg true 1 _ h1 hh1 frm_refl LW.rf s1 (fun w hw => by cases hw) (by rw [eA]; simpa using hl) (by rw [eA, eN]; exact hle) (by omega) (by constructor <;> intro q <;> cases q) rfl
  have f2 := frm_trans f1 (sub_TE3 a2)
  have l2 := LW.tr l1 a3
  rw [eT, eN, eA] at a5
  have hn := (tN_v hh).2
  have sim := ec_sim (tT h) (tN h) hn (tA h) sg hle
  rw [eP_irr (tT h) (tN h) (tN h + 1) (tN h + 1 - tA h) (tA h) [] sg true hle (by omega) (by omega)] at a5
  change eC (tT h) (tN h) (tA h) [] sg true = _ at a5
  cases hr : (ecP (tT h) (tN h) (tA h) sg).1 with
  | true =>
    obtain ⟨i1, i2, i3⟩ := sim.1 hr
    rw [a5] at i3
    injection i3 with j1 j2
    injection j2 with j2 j3
    injection j3 with j3 j4
    subst j1 j3 j4
    have a6 := a6 rfl
    refine q1 h' a1 f2 l2 hr j2 ⟨a4.2.2.1, a4.2.2.2.2⟩ ?_ ?_
    · rw [frI a2 (by rfl)]
      exact e104
    · rw [a6]
      exact a4.2.2.1
  | false =>
    obtain ⟨i1, i2⟩ := sim.2 hr
    rw [a5] at i1 i2
    have i1 : ok = false := i1
    subst i1
    exact q0 h' a1 f2 l2 hr i2
theorem cl_x (c : Int32) (cn : Nat) (hc : c.toInt = cn) (hcn : cn < 60) (hf5 : f ≤ 5) (sg : List Int) (hh : HI h) (hL : LTR h) (hp : SGp f h sg) (hl : sg.length ≤ tA h) (hle : tA h ≤ tN h)
    (q0 : ∀ h', HI h' → frm (WCL cn) h h' → LW f h h' → (clP (tT h) (tN h) (tA h) sg).1 = false → tA h' = (clP (tT h) (tN h) (tA h) sg).2.1 → Q (some (.int 0)) h')
    (q1 : ∀ h', HI h' → frm (WCL cn) h h' → LW f h h' → (clP (tT h) (tN h) (tA h) sg).1 = true → tA h' = (clP (tT h) (tN h) (tA h) sg).2.1 → SGp f h' (clP (tT h) (tN h) (tA h) sg).2.2.1 → (h'.2.1 102 cn).toInt = (clP (tT h) (tN h) (tA h) sg).2.2.2.1 → (h'.2.1 103 cn).toInt = (clP (tT h) (tN h) (tA h) sg).2.2.2.2 → (h'.2.1 104 cn).toInt = ((100 * f + sg.length : Nat) : Int) → (h'.2.1 105 cn).toInt = ((100 * f + (clP (tT h) (tN h) (tA h) sg).2.2.1.length : Nat) : Int) → Q (some (.int 1)) h') :
    Ends X (dp + 1 + 1 + 1 + 1 + 1) 131 0 [.ref 93, .int c] [] h Q := by
  have hcc : c.toNatClampNeg = cn := by show c.toInt.toNat = _; omega
  have hi : inB c 60 = true := inB_iff (by omega) (by omega)
  rw [clP_hd] at q0 q1
  refine w_clause c hh.hs (hd_x c cn hc hcn hh hL (fun ok h1 hh1 f1 t1 t2 => ⟨_, rfl, hh1.hs, fun e => ?_, fun e => ?_⟩))
  · have e := cz e
    subst e
    rw [← t1, if_neg (show ¬ ((false, tA h1) : Bool × Nat).1 = true from Bool.false_ne_true)] at q0
    exact q0 h1 hh1 (sub_HD f1) (LW.fr f1 (fun _ => rfl)) rfl rfl
  · have e := cnF e
    subst e
    have t2 := t2 rfl
    rw [← t1, if_pos rfl] at q0 q1
    have l1 : LW f h h1 := LW.fr f1 (fun k => rfl)
    have eN1 : tN h1 = tN h := tN_fr f1 rfl
    have eT1 : tT h1 = tT h := tT_fr f1 (fun _ => rfl)
    have s1 : SGp f h1 sg := hp.fr f1 rfl (fun k => rfl)
    refine tn_ok hh1 (fun ok2 h2 hh2 f2 hm => ⟨_, rfl, hh2.hs, fun e2 => ⟨hi, ?_⟩, fun e2 => ?_⟩)
    all_goals rw [eT1, eN1] at hm
    · have e2 := cn2 e2
      subst e2
      have l2 : LW f h h2 := LW.tr l1 (LW.fr f2 (fun k => rfl))
      have eN2 : tN h2 = tN h := (tN_fr f2 rfl).trans eN1
      have eT2 : tT h2 = tT h := (tT_fr f2 (fun _ => rfl)).trans eT1
      have s2 : SGp f h2 sg := s1.fr f2 rfl (fun k => rfl)
      have fr2 := frm_trans (sub_HD f1) (sub_WD2 f2)
      cases hnum : numP (tT h) (tN h) (tA h1) with
      | none =>
        rw [hnum] at hm
        exact absurd hm.1 (by decide)
      | some q =>
        obtain ⟨v, b⟩ := q
        rw [hnum] at hm q0 q1
        simp only at q0 q1
        obtain ⟨-, m1, m2⟩ := hm
        have nl := numP_le2 hnum
        have nv := numP_le hnum
        rw [hcc]
        have b13 := hh2.iv 93 13 (r := (0, 99)) rfl
        have hh3 : HI (hpI h2 103 cn (h2.2.1 93 13)) := HI_put hh2 (by show (0 : Int) ≤ _; exact b13.1) (by show _ ≤ (99 : Int); exact b13.2)
        have f3 : frm (WCL cn) h (hpI h2 103 cn (h2.2.1 93 13)) := frm_put fr2 WCL_103
        have l3 : LW f h (hpI h2 103 cn (h2.2.1 93 13)) := LW.tr l2 (LW.put (by decide))
        have s3 : SGp f (hpI h2 103 cn (h2.2.1 93 13)) sg := ⟨by rw [put_ne (by omega)]; exact s2.1, fun j hj => by rw [put_ne (by omega)]; exact s2.2 j hj⟩
        have eA3 : tA (hpI h2 103 cn (h2.2.1 93 13)) = b := by rw [← m1]; unfold tA; rw [put_ne (by omega)]
        have eN3 : tN (hpI h2 103 cn (h2.2.1 93 13)) = tN h := by rw [← eN2]; unfold tN; rw [put_ne (by omega)]
        have eT3 : tT (hpI h2 103 cn (h2.2.1 93 13)) = tT h := by rw [← eT2]; funext i; unfold tT; rw [put_ne (by omega)]
        have v103 : ((hpI h2 103 cn (h2.2.1 93 13)).2.1 103 cn).toInt = v := by rw [put_at]; exact m2
        have v102 : ((hpI h2 103 cn (h2.2.1 93 13)).2.1 102 cn).toInt = (wdP (tT h) (tN h) (tA h)).1 := by rw [put_ne (by omega), frI f2 (by rfl)]; exact t2
        generalize hpI h2 103 cn (h2.2.1 93 13) = h3 at *
        have r3 := nx_rng hh3
        refine tk_ok 32 (by decide) hh3 (fun h4 hh4 f4 a4 => ⟨_, rfl, hh4.hs, fun e3 => ?_, fun e3 => ?_⟩)
        all_goals rw [eT3, eN3, eA3] at a4 e3
        · have e3 := of_decide_eq_false (cz e3)
          rw [if_neg e3] at a4
          have e3 : ¬ nxP (tT h) (tN h) b = 32 := e3
          rw [if_neg e3] at q0
          exact q0 h4 hh4 (frm_trans f3 (sub_WA2 f4)) (LW.tr l3 (LW.fr f4 (fun k => rfl))) rfl a4
        · have e3 := of_decide_eq_true (cnF e3)
          rw [if_pos e3] at a4
          have e3 : nxP (tT h) (tN h) b = 32 := e3
          have lt := nx_lt2 e3 (by decide)
          rw [if_pos e3] at q0 q1
          have l4 : LW f h h4 := LW.tr l3 (LW.fr f4 (fun k => rfl))
          have eN4 : tN h4 = tN h := (tN_fr f4 rfl).trans eN3
          have eT4 : tT h4 = tT h := (tT_fr f4 (fun _ => rfl)).trans eT3
          have s4 : SGp f h4 sg := s3.fr f4 rfl (fun k => rfl)
          have fr4 := frm_trans f3 (sub_WA2 f4)
          have hl1 : tA h ≤ tA h1 := by
            have w := wd_le (T := tT h) hle
            have := congrArg Prod.snd t1
            have this : tA h1 = (hdP (tT h) (tN h) (tA h)).2 := this
            rw [this]
            unfold hdP
            split
            · exact w.1
            · split
              · show tA h ≤ _ + 1; omega
              · exact w.1
          have te := te_x (X := X) (dp := dp) (Q := fun rv h14 => ∃ r15, rv = some (.int r15) ∧ HS h14 ∧ ((condB .eq r15 0 = true → Q (some (.int 0)) h14) ∧ (condB .eq r15 0 = false → Q (some (.int 1)) h14))) c cn hc hcn hf5 sg hh4 s4 (by omega) (by rw [eN4]; omega)
          rw [eT4, eN4, a4] at te
          refine te (fun h5 b1 b2 b3 b4 b5 => ⟨0, rfl, b1.hs, fun _ => q0 h5 b1 (frm_trans fr4 (sub_TX b2)) (LW.tr l4 b3) b4 b5, fun x => absurd x (by decide)⟩) (fun h5 b1 b2 b3 b4 b5 b6 b7 b8 => ⟨1, rfl, b1.hs, fun x => absurd x (by decide), fun _ => ?_⟩)
          refine q1 h5 b1 (frm_trans fr4 (sub_TX b2)) (LW.tr l4 b3) b4 b5 b6 ?_ ?_ b7 b8
          · rw [frI b2 (by rfl), frI f4 rfl]
            exact v102
          · rw [frI b2 (by rfl), frI f4 rfl]
            exact v103
    · have e2 := cz2 e2
      subst e2
      cases hnum : numP (tT h) (tN h) (tA h1) with
      | some q =>
        rw [hnum] at hm
        exact absurd hm.1 (by decide)
      | none =>
        rw [hnum] at hm q0
        exact q0 h2 hh2 (frm_trans (sub_HD f1) (sub_WD2 f2)) (LW.tr l1 (LW.fr f2 (fun k => rfl))) rfl hm.2
end CLX
/-- the clauses that were read into yard f -/
def YMc (f : Nat) (h : Hp) (cs : List Cl) : Prop := ∀ c, c < cs.length → (h.2.1 102 (10 * f + c)).toInt = (cs.getD c cl0).1 ∧ (h.2.1 103 (10 * f + c)).toInt = (cs.getD c cl0).2.1 ∧ (h.2.1 104 (10 * f + c)).toInt = ((100 * f + (cs.getD c cl0).2.2.1 : Nat) : Int) ∧ (h.2.1 105 (10 * f + c)).toInt = ((100 * f + (cs.getD c cl0).2.2.2 : Nat) : Int)
/-- yard f of the reference is these clauses and marks -/
def YM (f : Nat) (h : Hp) (cs : List Cl) (m : List Int) : Prop := (h.2.1 101 f).toInt = (cs.length : Int) ∧ YMc f h cs ∧ ∀ j, j < m.length → (h.2.1 106 (100 * f + j)).toInt = m.getD j 0
/-- the yards below f are left as they were -/
def LOX (f : Nat) (h h' : Hp) : Prop := LW f h h' ∧ (∀ g, g ≠ f → h'.2.1 101 g = h.2.1 101 g) ∧ ∀ c, c < 10 * f → c < 900 → h'.2.1 102 c = h.2.1 102 c ∧ h'.2.1 103 c = h.2.1 103 c ∧ h'.2.1 104 c = h.2.1 104 c ∧ h'.2.1 105 c = h.2.1 105 c
theorem LOX.rf {f : Nat} {h : Hp} : LOX f h h := ⟨LW.rf, fun _ _ => rfl, fun _ _ _ => ⟨rfl, rfl, rfl, rfl⟩⟩
theorem LOX.tr {f : Nat} {h h' h'' : Hp} (a : LOX f h h') (b : LOX f h' h'') : LOX f h h'' := ⟨LW.tr a.1 b.1, fun g h1 => (b.2.1 g h1).trans (a.2.1 g h1), fun c h1 h2 => ⟨(b.2.2 c h1 h2).1.trans (a.2.2 c h1 h2).1, (b.2.2 c h1 h2).2.1.trans (a.2.2 c h1 h2).2.1, (b.2.2 c h1 h2).2.2.1.trans (a.2.2 c h1 h2).2.2.1, (b.2.2 c h1 h2).2.2.2.trans (a.2.2 c h1 h2).2.2.2⟩⟩
theorem WCL_o {cn a k : Nat} (hk : k < 900) (hcn : cn < 900) (ha : a = 102 ∨ a = 103 ∨ a = 104 ∨ a = 105) (hn : k ≠ cn) : inW (WCL cn) a k = false := by
  have h1 : (cn == k) = false := by simpa using fun q => hn q.symm
  rcases ha with rfl | rfl | rfl | rfl
  all_goals
    simp [inW, WCL, h1]
    omega
theorem LOX.cl {f cn : Nat} {h h' : Hp} (hf : frm (WCL cn) h h') (hl : LW f h h') (hcn : 10 * f ≤ cn) (hc9 : cn < 900) : LOX f h h' :=
  ⟨hl, fun g _ => frI hf rfl, fun c h1 h2 => ⟨frI hf (WCL_o h2 hc9 (Or.inl rfl) (by omega)), frI hf (WCL_o h2 hc9 (Or.inr (Or.inl rfl)) (by omega)), frI hf (WCL_o h2 hc9 (Or.inr (Or.inr (Or.inl rfl))) (by omega)), frI hf (WCL_o h2 hc9 (Or.inr (Or.inr (Or.inr rfl))) (by omega))⟩⟩
theorem LOX.A {f : Nat} {h h' : Hp} (hf : frm WA h h') : LOX f h h' := ⟨LW.fr hf (fun _ => rfl), fun g _ => frI hf rfl, fun c _ _ => ⟨frI hf rfl, frI hf rfl, frI hf rfl, frI hf rfl⟩⟩
section GTX
variable {X : Scr} {dp f : Nat} {h0 : Hp} {Q : Option Value → Hp → Prop}
theorem gtx_go (fv : Int32) (hfv : fv.toInt = f) (hf5 : f ≤ 5) (T : Nat → Int) (n : Nat) :
    ∀ (k : Nat) (nv : Int32) (cs : List Cl) (sg : List Int) (h : Hp), HI h → LTR h → frm WGT h0 h → LOX f h0 h → tT h = T → tN h = n → nv.toInt = (cs.length : Int) → cs.length + k = 9 → SGp f h sg → YMc f h cs → sg.length ≤ tA h → tA h ≤ n →
    (∀ h', HI h' → frm WGT h0 h' → LOX f h0 h' → (gtP T n (k + 1) (tA h) cs sg).1 = false → tA h' = (gtP T n (k + 1) (tA h) cs sg).2.1 → Q (some (.int 0)) h') →
    (∀ h', HI h' → frm WGT h0 h' → LOX f h0 h' → (gtP T n (k + 1) (tA h) cs sg).1 = true → YM f h' (gtP T n (k + 1) (tA h) cs sg).2.2.1 (gtP T n (k + 1) (tA h) cs sg).2.2.2 → Q (some (.int 1)) h') →
    Ends X (dp + 1 + 1 + 1 + 1 + 1 + 1) 132 15 [.ref 93, .int fv, .int nv] [] h Q
  | k, nv, cs, sg, h, hh, hL, hf, hlo, eT, eN, hnv, hk, hs, hy, hl, hle, q0, q1 => by
    have e1 : (10 * fv).toInt = ((10 * f : Nat) : Int) := by rw [i_mul (by rw [i10]; omega) (by rw [i10]; omega), i10, hfv]; omega
    have e2 : (10 * fv + nv).toInt = ((10 * f + cs.length : Nat) : Int) := by rw [i_add (by omega) (by omega), e1, hnv]; omega
    have n1 : (nv + 1).toInt = ((cs.length + 1 : Nat) : Int) := by rw [i_add (by rw [i1]; omega) (by rw [i1]; omega), i1]; omega
    have hff : fv.toNatClampNeg = f := by show fv.toInt.toNat = _; omega
    have hn := (tN_v hh).2
    rw [eN] at hn
    rw [gt_af] at q0 q1
    refine w_gt1 fv nv hh.hs ?_
    generalize 10 * fv + nv = cv at e2 ⊢
    generalize nv + 1 = nw at n1 ⊢
    have cx := cl_x (X := X) (dp := dp) (Q := fun rv h1 => ∃ r2, rv = some (.int r2) ∧ HS h1 ∧ ((condB .ne r2 0 = true → (inB fv 6 = true ∧ ((condB .ne ((hpI h1 101 fv.toNatClampNeg nw).2.1 93 12) ((hpI h1 101 fv.toNatClampNeg nw).2.1 93 11) = true → ((condB .eq nw 10 = true → Q (some (.int 0)) (hpI h1 101 fv.toNatClampNeg nw)) ∧ (condB .eq nw 10 = false → Ends X (dp + 1 + 1 + 1 + 1 + 1) 120 0 [.ref 93, .int 59] [] (hpI h1 101 fv.toNatClampNeg nw) (fun rv h8 => ∃ r9, rv = some (.int r9) ∧ HS h8 ∧ ((condB .ne r9 0 = true → Ends X (dp + 1 + 1 + 1 + 1 + 1 + 1) 132 15 [.ref 93, .int fv, .int nw] [] h8 Q) ∧ (condB .ne r9 0 = false → Q (some (.int 0)) h8)))))) ∧ (condB .ne ((hpI h1 101 fv.toNatClampNeg nw).2.1 93 12) ((hpI h1 101 fv.toNatClampNeg nw).2.1 93 11) = false → Q (some (.int 1)) (hpI h1 101 fv.toNatClampNeg nw))))) ∧ (condB .ne r2 0 = false → Q (some (.int 0)) h1))) cv (10 * f + cs.length) e2 (by omega) hf5 sg hh hL hs hl (by rw [eN]; exact hle)
    rw [eT, eN] at cx
    refine cx (fun h1 a1 a2 a3 a4 a5 => ⟨0, rfl, a1.hs, fun x => absurd x (by decide), fun _ => ?_⟩) (fun h1 a1 a2 a3 a4 a5 a6 a7 a8 a9 a10 => ⟨1, rfl, a1.hs, fun _ => ⟨inB_iff (by omega) (by omega), ?_⟩, fun x => absurd x (by decide)⟩)
    · rw [if_neg (by rw [a4]; decide)] at q0
      exact q0 h1 a1 (frm_trans hf (sub_CL a2)) (LOX.tr hlo (LOX.cl a2 a3 (by omega) (by omega))) rfl a5
    · rw [if_pos a4] at q0 q1
      have le := clP_ok (m := sg) hle a4
      generalize clP T n (tA h) sg = r at a4 a5 a6 a7 a8 a9 a10 q0 q1 le
      rw [hff]
      have hh2 : HI (hpI h1 101 f nw) := HI_put a1 (by show (0 : Int) ≤ _; omega) (by show _ ≤ (10 : Int); omega)
      have f2 : frm WGT h0 (hpI h1 101 f nw) := frm_put (frm_trans hf (sub_CL a2)) (by simp [inW, WGT])
      have lo2 : LOX f h0 (hpI h1 101 f nw) := LOX.tr (LOX.tr hlo (LOX.cl a2 a3 (by omega) (by omega))) ⟨LW.put (by decide), fun g h1 => put_ne (by omega), fun c _ _ => ⟨put_ne (by omega), put_ne (by omega), put_ne (by omega), put_ne (by omega)⟩⟩
      have s2 : SGp f (hpI h1 101 f nw) r.2.2.1 := ⟨by rw [put_ne (by omega)]; exact a6.1, fun j hj => by rw [put_ne (by omega)]; exact a6.2 j hj⟩
      have eA : tA (hpI h1 101 f nw) = r.2.1 := by rw [← a5]; unfold tA; rw [put_ne (by omega)]
      have eN2 : tN (hpI h1 101 f nw) = n := by rw [← eN, ← tN_fr (h := h) (h' := h1) a2 rfl]; unfold tN; rw [put_ne (by omega)]
      have eT2 : tT (hpI h1 101 f nw) = T := by rw [← eT, ← tT_fr (h := h) (h' := h1) a2 (fun _ => rfl)]; funext i; unfold tT; rw [put_ne (by omega)]
      have L2 : LTR (hpI h1 101 f nw) := fun j hj => by rw [put_ne (by omega), frI a2 (by rfl)]; exact hL j hj
      have y2 : YMc f (hpI h1 101 f nw) (snC cs sg r.2.2.1 r.2.2.2.1 r.2.2.2.2) := by
        intro c hc
        unfold snC at hc ⊢
        rw [List.length_append, List.length_singleton] at hc
        rw [put_ne (by omega), put_ne (by omega), put_ne (by omega), put_ne (by omega)]
        by_cases d : c = cs.length
        · subst d
          rw [getC2]
          exact ⟨a7, a8, a9, a10⟩
        · rw [getC1 (by omega)]
          rw [frI a2 (WCL_o (by omega) (by omega) (Or.inl rfl) (by omega)), frI a2 (WCL_o (by omega) (by omega) (Or.inr (Or.inl rfl)) (by omega)), frI a2 (WCL_o (by omega) (by omega) (Or.inr (Or.inr (Or.inl rfl))) (by omega)), frI a2 (WCL_o (by omega) (by omega) (Or.inr (Or.inr (Or.inr rfl))) (by omega))]
          exact hy c (by omega)
      have lenC : (snC cs sg r.2.2.1 r.2.2.2.1 r.2.2.2.2).length = cs.length + 1 := by unfold snC; rw [List.length_append, List.length_singleton]
      have v101 : (hpI h1 101 f nw).2.1 101 f = nw := put_at
      generalize hpI h1 101 f nw = h2 at *
      have va := (tA_v hh2).1
      have vn := (tN_v hh2).1
      rw [eA] at va
      rw [eN2] at vn
      generalize snC cs sg r.2.2.1 r.2.2.2.1 r.2.2.2.2 = cs2 at y2 lenC q0 q1 ⊢
      unfold afP at q0 q1
      refine ⟨fun e => ⟨fun e2 => ?_, fun e2 => ?_⟩, fun e => ?_⟩
      · have e : ¬ (h2.2.1 93 12).toInt = (h2.2.1 93 11).toInt := of_decide_eq_true (cI e)
        have e2 : nw.toInt = (10 : Int32).toInt := of_decide_eq_true (cI e2)
        rw [i10] at e2
        rw [if_neg (by omega), if_pos (by omega)] at q0
        exact q0 h2 hh2 f2 lo2 rfl eA
      · have e : ¬ (h2.2.1 93 12).toInt = (h2.2.1 93 11).toInt := of_decide_eq_true (cI e)
        have e2 : ¬ nw.toInt = (10 : Int32).toInt := of_decide_eq_false (cI e2)
        rw [i10] at e2
        rw [if_neg (by omega), if_neg (by omega)] at q0 q1
        refine tk_ok 59 (by decide) hh2 (fun h3 b1 b2 b3 => ⟨_, rfl, b1.hs, fun e3 => ?_, fun e3 => ?_⟩)
        all_goals rw [eT2, eN2, eA] at b3 e3
        · have e3 := of_decide_eq_true (cn2 e3)
          rw [if_pos e3] at b3
          have e3 : nxP T n r.2.1 = 59 := e3
          have lt := nx_lt2 e3 (by decide)
          rw [if_pos e3] at q0 q1
          match k, hk with
          | 0, hk => omega
          | k + 1, hk =>
            have go := gtx_go fv hfv hf5 T n k nw cs2 r.2.2.1 h3 b1 (L2.fr b2 (fun _ => rfl)) (frm_trans f2 (frm_sub (V := WA) (by decide) b2)) (LOX.tr lo2 (LOX.A b2)) ((tT_fr b2 (fun _ => rfl)).trans eT2) ((tN_fr b2 rfl).trans eN2) (by omega) (by omega) (s2.fr b2 rfl (fun _ => rfl)) (fun c hc => by rw [frI b2 (a := 102) rfl, frI b2 (a := 103) rfl, frI b2 (a := 104) rfl, frI b2 (a := 105) rfl]; exact y2 c hc) (by omega) (by omega)
            rw [b3] at go
            exact go q0 q1
        · have e3 := of_decide_eq_false (cz2 e3)
          rw [if_neg e3] at b3
          have e3 : ¬ nxP T n r.2.1 = 59 := e3
          rw [if_neg e3] at q0
          exact q0 h3 b1 (frm_trans f2 (frm_sub (V := WA) (by decide) b2)) (LOX.tr lo2 (LOX.A b2)) rfl b3
      · have e : ¬ ¬ (h2.2.1 93 12).toInt = (h2.2.1 93 11).toInt := of_decide_eq_false (cI e)
        rw [if_pos (by omega)] at q1
        exact q1 h2 hh2 f2 lo2 rfl ⟨by rw [v101, n1, lenC], y2, s2.2⟩
theorem gt_x (fv : Int32) (hfv : fv.toInt = f) (hf5 : f ≤ 5) (hh : HI h0) (hL : LTR h0)
    (q0 : ∀ h', HI h' → frm WGT h0 h' → LOX f h0 h' → (gtP (tT h0) (tN h0) 10 0 [] []).1 = false → tA h' = (gtP (tT h0) (tN h0) 10 0 [] []).2.1 → Q (some (.int 0)) h')
    (q1 : ∀ h', HI h' → frm WGT h0 h' → LOX f h0 h' → (gtP (tT h0) (tN h0) 10 0 [] []).1 = true → YM f h' (gtP (tT h0) (tN h0) 10 0 [] []).2.2.1 (gtP (tT h0) (tN h0) 10 0 [] []).2.2.2 → Q (some (.int 1)) h') :
    Ends X (dp + 1 + 1 + 1 + 1 + 1 + 1) 132 0 [.ref 93, .int fv, .retAddr 0] [] h0 Q := by
  have i100 : (100 : Int32).toInt = 100 := rfl
  have e1 : (100 * fv).toInt = ((100 * f : Nat) : Int) := by rw [i_mul (by rw [i100]; omega) (by rw [i100]; omega), i100, hfv]; omega
  refine w_gt0 fv hh.hs ?_
  generalize 100 * fv = v at e1 ⊢
  have eA : tA (hpI (hpI h0 93 12 0) 93 22 v) = 0 := by
    unfold tA
    rw [put_ne (by omega), put_at]
    rfl
  have eT : tT (hpI (hpI h0 93 12 0) 93 22 v) = tT h0 := by funext i; unfold tT; rw [put_ne (by omega), put_ne (by omega)]
  have eN : tN (hpI (hpI h0 93 12 0) 93 22 v) = tN h0 := by unfold tN; rw [put_ne (by omega), put_ne (by omega)]
  have hh1 : HI (hpI (hpI h0 93 12 0) 93 22 v) := HI_put (HI_put hh (by show (0 : Int) ≤ 0; decide) (by show (0 : Int) ≤ 100; decide)) (by show (0 : Int) ≤ _; omega) (by show _ ≤ (600 : Int); omega)
  have L1 : LTR (hpI (hpI h0 93 12 0) 93 22 v) := fun j hj => by rw [put_ne (by omega), put_ne (by omega)]; exact hL j hj
  have lo1 : LOX f h0 (hpI (hpI h0 93 12 0) 93 22 v) := ⟨LW.tr (LW.put (by decide)) (LW.put (by decide)), fun g _ => by rw [put_ne (by omega), put_ne (by omega)], fun c _ _ => ⟨by rw [put_ne (by omega), put_ne (by omega)], by rw [put_ne (by omega), put_ne (by omega)], by rw [put_ne (by omega), put_ne (by omega)], by rw [put_ne (by omega), put_ne (by omega)]⟩⟩
  have go := gtx_go (X := X) (dp := dp) (h0 := h0) (Q := Q) fv hfv hf5 (tT h0) (tN h0) 9 0 [] [] _ hh1 L1 (frm_put (frm_put frm_refl rfl) rfl) lo1 eT eN rfl rfl ⟨by rw [put_at]; exact e1, fun j hj => absurd hj (Nat.not_lt_zero j)⟩ (fun c hc => absurd hc (Nat.not_lt_zero c)) (by rw [eA]; exact Nat.le_refl _) (by rw [eA]; exact Nat.zero_le _)
  rw [eA] at go
  exact go q0 q1
end GTX
theorem yard_x {X : Scr} {dp : Nat} {h : Hp} {Q : Option Value → Hp → Prop} (hh : HI h) (hL : LTR h)
    (q4 : (h.2.1 93 9).toInt = 6 → Q (some (.int (-4))) h)
    (q0 : ¬ (h.2.1 93 9).toInt = 6 → (gtP (tT h) (tN h) 10 0 [] []).1 = false → ∀ (r : Int32) h', HI h' → frm WY h h' → LOX (h.2.1 93 9).toInt.toNat h h' → r.toInt = -10 - ((gtP (tT h) (tN h) 10 0 [] []).2.1 : Int) → h'.2.1 93 9 = h.2.1 93 9 → h'.2.1 93 10 = h.2.1 93 10 → h'.2.1 93 11 = 0 → Q (some (.int r)) h')
    (q1 : ¬ (h.2.1 93 9).toInt = 6 → (gtP (tT h) (tN h) 10 0 [] []).1 = true → ∀ h', HI h' → frm WY h h' → LOX (h.2.1 93 9).toInt.toNat h h' → h'.2.1 93 9 = h.2.1 93 9 + 1 → h'.2.1 93 10 = h.2.1 93 9 → h'.2.1 93 11 = 0 → YM (h.2.1 93 9).toInt.toNat h' (gtP (tT h) (tN h) 10 0 [] []).2.2.1 (gtP (tT h) (tN h) 10 0 [] []).2.2.2 → Q (some (.int (h.2.1 93 9))) h') :
    Ends X (dp + 1 + 1 + 1 + 1 + 1 + 1 + 1) 133 0 [.ref 93, .retAddr 0] [] h Q := by
  have y6 := hh.iv 93 9 (r := (0, 6)) rfl
  simp only at y6
  have i6' : (6 : Int32).toInt = 6 := rfl
  refine w_yard hh.hs ⟨fun e => ?_, fun e => q4 (Decidable.not_not.mp (of_decide_eq_false (cI e)))⟩
  have e : ¬ (h.2.1 93 9).toInt = 6 := of_decide_eq_true (cI e)
  have hf5 : (h.2.1 93 9).toInt.toNat ≤ 5 := by omega
  have sub : ∀ {h'}, frm WGT h h' → frm WY h h' := fun q => frm_sub (V := WGT) (by decide) q
  refine gt_x (f := (h.2.1 93 9).toInt.toNat) (h.2.1 93 9) (by omega) hf5 hh hL (fun h1 a1 a2 a3 a4 a5 => ⟨0, rfl, a1.hs, fun x => absurd x (by decide), fun _ => ?_⟩) (fun h1 a1 a2 a3 a4 a5 => ⟨1, rfl, a1.hs, fun _ => ?_, fun x => absurd x (by decide)⟩)
  · have v12 : (hpI h1 93 11 0).2.1 93 12 = h1.2.1 93 12 := put_ne (by omega)
    rw [v12]
    have ta := tA_v a1
    have j10 : (-10 : Int32).toInt = -10 := rfl
    refine q0 e a4 _ _ (HI_put a1 (by show (0 : Int) ≤ 0; decide) (by show (0 : Int) ≤ 100; decide)) (frm_put (sub a2) rfl) (LOX.tr a3 ⟨LW.put (by decide), fun g _ => put_ne (by omega), fun c _ _ => ⟨put_ne (by omega), put_ne (by omega), put_ne (by omega), put_ne (by omega)⟩⟩) ?_ ?_ ?_ put_at
    · rw [i_sub (by rw [j10]; omega) (by rw [j10]; omega), j10, ta.1, a5]
    · rw [put_ne (by omega), frI a2 rfl]
    · rw [put_ne (by omega), frI a2 rfl]
  · have v9 : (hpI h1 93 11 0).2.1 93 9 = h.2.1 93 9 := by rw [put_ne (by omega), frI a2 rfl]
    rw [v9]
    have v9b : (hpI (hpI h1 93 11 0) 93 10 (h.2.1 93 9)).2.1 93 9 = h.2.1 93 9 := by rw [put_ne (by omega), v9]
    rw [v9b]
    have g : (h.2.1 93 9 + 1).toInt = (h.2.1 93 9).toInt + 1 := by rw [i_add (by rw [i1]; omega) (by rw [i1]; omega), i1]
    generalize hy : h.2.1 93 9 + 1 = y at g q1 ⊢
    have v10 : (hpI (hpI (hpI h1 93 11 0) 93 10 (h.2.1 93 9)) 93 9 y).2.1 93 10 = h.2.1 93 9 := by rw [put_ne (by omega), put_at]
    rw [v10]
    have pn : ∀ a k, ¬ a = 93 → (hpI (hpI (hpI h1 93 11 0) 93 10 (h.2.1 93 9)) 93 9 y).2.1 a k = h1.2.1 a k := fun a k hn => by rw [put_ne (by omega), put_ne (by omega), put_ne (by omega)]
    refine q1 e a4 _ (HI_put (HI_put (HI_put a1 (by show (0 : Int) ≤ 0; decide) (by show (0 : Int) ≤ 100; decide)) (by show (-1 : Int) ≤ _; omega) (by show _ ≤ (5 : Int); omega)) (by show (0 : Int) ≤ _; omega) (by show _ ≤ (6 : Int); omega)) (frm_put (frm_put (frm_put (sub a2) rfl) rfl) rfl) (LOX.tr a3 ⟨fun x _ => pn _ _ (by decide), fun g _ => pn _ _ (by decide), fun c _ _ => ⟨pn _ _ (by decide), pn _ _ (by decide), pn _ _ (by decide), pn _ _ (by decide)⟩⟩) put_at v10 (by rw [put_ne (by omega), put_ne (by omega), put_at]) ⟨by rw [pn _ _ (by decide)]; exact a5.1, fun c hc => by rw [pn _ _ (by decide), pn _ _ (by decide), pn _ _ (by decide), pn _ _ (by decide)]; exact a5.2.1 c hc, fun j hj => by rw [pn _ _ (by decide)]; exact a5.2.2 j hj⟩
end JN99tw5mtext
section JN99tw6eqc
/-! What a yard that was read is: its parts stand well. -/
/-- a test's mark -/
theorem testP_sh {T : Nat → Int} {n a b : Nat} {s : Int} (hn : testP T n a = (b, some s)) : 0 ≤ s ∧ s < 6000 ∧ s / 100 % 10 ≤ 2 := by
  unfold testP at hn
  split at hn
  · cases hn
  · rename_i h1
    split at hn
    · cases hn
    · rename_i h2
      split at hn
      · cases hn
      · rename_i v b' e
        cases hn
        have := numP_le e
        have := plc_rng (nxP T n a)
        omega
/-- how many values stand behind these marks, h before; none of it beyond 60, and all are marks -/
def pk : List Int → Nat → Option Nat
  | [], h => some h
  | s :: l, h => if s = -33 then (if 1 ≤ h then pk l h else none) else if s = -38 ∨ s = -124 then (if 2 ≤ h then pk l (h - 1) else none) else (if h < 60 ∧ 0 ≤ s ∧ s < 6000 ∧ s / 100 % 10 ≤ 2 then pk l (h + 1) else none)
theorem pk_app : ∀ (l m : List Int) (h : Nat), pk (l ++ m) h = (pk l h).bind (pk m)
  | [], m, h => rfl
  | s :: l, m, h => by
    show pk (s :: (l ++ m)) h = _
    unfold pk
    split
    · split
      · exact pk_app l m h
      · rfl
    · split
      · split
        · exact pk_app l m (h - 1)
        · rfl
      · split
        · exact pk_app l m (h + 1)
        · rfl
def KH (md d : Nat) : Nat := 2 * (4 - d) + 1 + (if md = 0 then 0 else if md = 1 then 1 else if md = 2 then 2 else if md = 3 then 1 else 2)
def st0 (md : Nat) : Nat := if 3 ≤ md then 1 else 0
theorem cP_pk (T : Nat → Int) (n : Nat) : ∀ (k md d a : Nat) (m : List Int), d ≤ 4 → md ≤ 4 → (cqP T n k md d a m).1 = true → ∃ e, (cqP T n k md d a m).2.2 = m ++ e ∧ ∀ c, c + KH md d ≤ 60 → pk e (c + st0 md) = some (c + 1)
  | 0, md, d, a, m, hd, hmd, h => by
    unfold cqP at h
    simp at h
  | k + 1, 0, d, a, m, hd, hmd, h => by
    unfold cqP at h ⊢
    split at h
    · rename_i c
      rw [if_pos c]
      obtain ⟨e, i1, i2⟩ := cP_pk T n k 0 (d + 1) (a + 1) m (by omega) (by decide) h
      refine ⟨e ++ [-33], by show _ ++ [-33] = _; rw [i1, List.append_assoc], fun x hx => ?_⟩
      rw [pk_app, i2 x (by unfold KH at hx ⊢; simp only [if_true] at hx ⊢; omega)]
      show pk [-33] (x + 1) = _
      unfold pk
      rw [if_pos rfl, if_pos (by omega)]
      rfl
    · rename_i c0
      rw [if_neg c0]
      split at h
      · rename_i c
        rw [if_pos c]
        split at h
        · rename_i c2
          rw [if_pos c2]
          obtain ⟨e, i1, i2⟩ := cP_pk T n k 2 (d + 1) (a + 1) m (by omega) (by decide) c2.1
          exact ⟨e, i1, fun x hx => i2 x (by unfold KH at hx ⊢; simp only [if_true] at hx; rw [if_neg (by decide), if_neg (by decide), if_pos rfl]; omega)⟩
        · simp at h
      · rename_i c
        rw [if_neg c]
        split at h
        · simp at h
        · rename_i b s ht
          have hs := testP_sh ht
          refine ⟨[s], rfl, fun x hx => ?_⟩
          unfold KH at hx
          show pk [s] (x + 0) = _
          unfold pk
          rw [if_neg (by omega), if_neg (by omega), if_pos ⟨by omega, hs⟩]
          rfl
  | k + 1, 1, d, a, m, hd, hmd, h => by
    unfold cqP at h ⊢
    split at h
    · rename_i c
      rw [if_pos c]
      obtain ⟨e, i1, i2⟩ := cP_pk T n k 0 d a m hd (by decide) c
      obtain ⟨e', j1, j2⟩ := cP_pk T n k 3 d _ _ hd (by decide) h
      refine ⟨e ++ e', by rw [j1, i1, List.append_assoc], fun x hx => ?_⟩
      unfold KH at hx
      simp only [show ¬ (1 : Nat) = 0 by decide, if_true, if_false] at hx
      have := i2 x (by unfold KH; simp only [if_true]; omega)
      have z := j2 x (by unfold KH; rw [if_neg (by decide), if_neg (by decide), if_neg (by decide), if_pos rfl]; omega)
      rw [pk_app]
      show (pk e (x + 0)).bind (pk e') = _
      have q0 : pk e (x + 0) = some (x + 1) := this
      rw [q0]
      exact z
    · rename_i c
      exact absurd h c
  | k + 1, 2, d, a, m, hd, hmd, h => by
    unfold cqP at h ⊢
    split at h
    · rename_i c
      rw [if_pos c]
      obtain ⟨e, i1, i2⟩ := cP_pk T n k 1 d a m hd (by decide) c
      obtain ⟨e', j1, j2⟩ := cP_pk T n k 4 d _ _ hd (by decide) h
      refine ⟨e ++ e', by rw [j1, i1, List.append_assoc], fun x hx => ?_⟩
      unfold KH at hx
      rw [if_neg (by decide), if_neg (by decide), if_pos rfl] at hx
      have q0 : pk e (x + 0) = some (x + 1) := i2 x (by unfold KH; rw [if_neg (by decide), if_pos rfl]; omega)
      have z := j2 x (by unfold KH; rw [if_neg (by decide), if_neg (by decide), if_neg (by decide), if_neg (by decide)]; omega)
      rw [pk_app]
      show (pk e (x + 0)).bind (pk e') = _
      rw [q0]
      exact z
    · rename_i c
      exact absurd h c
  | k + 1, 3, d, a, m, hd, hmd, h => by
    unfold cqP at h ⊢
    split at h
    · rename_i x
      rw [if_pos x]
      split at h
      · rename_i c
        rw [if_pos c]
        obtain ⟨e, i1, i2⟩ := cP_pk T n k 0 d (a + 1) m hd (by decide) c
        obtain ⟨e', j1, j2⟩ := cP_pk T n k 3 d _ _ hd (by decide) h
        refine ⟨e ++ ([-38] ++ e'), by rw [j1, i1, List.append_assoc, List.append_assoc], fun y hy => ?_⟩
        unfold KH at hy
        rw [if_neg (by decide), if_neg (by decide), if_neg (by decide), if_pos rfl] at hy
        have q0 : pk e (y + 1 + 0) = some (y + 1 + 1) := i2 (y + 1) (by unfold KH; rw [if_pos rfl]; omega)
        have z : pk e' (y + 1) = some (y + 1) := j2 y (by unfold KH; rw [if_neg (by decide), if_neg (by decide), if_neg (by decide), if_pos rfl]; omega)
        rw [pk_app]
        show (pk e (y + 1 + 0)).bind (pk ([-38] ++ e')) = _
        rw [q0]
        show pk (-38 :: e') (y + 1 + 1) = _
        unfold pk
        rw [if_neg (by decide), if_pos (by decide), if_pos (by omega)]
        exact z
      · rename_i c
        exact absurd h c
    · rename_i x
      rw [if_neg x]
      exact ⟨[], (List.append_nil m).symm, fun y _ => rfl⟩
  | k + 1, 4, d, a, m, hd, hmd, h => by
    unfold cqP at h ⊢
    split at h
    · rename_i x
      rw [if_pos x]
      split at h
      · rename_i c
        rw [if_pos c]
        obtain ⟨e, i1, i2⟩ := cP_pk T n k 1 d (a + 1) m hd (by decide) c
        obtain ⟨e', j1, j2⟩ := cP_pk T n k 4 d _ _ hd (by decide) h
        refine ⟨e ++ ([-124] ++ e'), by rw [j1, i1, List.append_assoc, List.append_assoc], fun y hy => ?_⟩
        unfold KH at hy
        rw [if_neg (by decide), if_neg (by decide), if_neg (by decide), if_neg (by decide)] at hy
        have q0 : pk e (y + 1 + 0) = some (y + 1 + 1) := i2 (y + 1) (by unfold KH; rw [if_neg (by decide), if_pos rfl]; omega)
        have z : pk e' (y + 1) = some (y + 1) := j2 y (by unfold KH; rw [if_neg (by decide), if_neg (by decide), if_neg (by decide), if_neg (by decide)]; omega)
        rw [pk_app]
        show (pk e (y + 1 + 0)).bind (pk ([-124] ++ e')) = _
        rw [q0]
        show pk (-124 :: e') (y + 1 + 1) = _
        unfold pk
        rw [if_neg (by decide), if_pos (by decide), if_pos (by omega)]
        exact z
      · rename_i c
        exact absurd h c
    · rename_i x
      rw [if_neg x]
      exact ⟨[], (List.append_nil m).symm, fun y _ => rfl⟩
  | k + 1, md + 5, d, a, m, hd, hmd, h => by omega
theorem clP_pk {T : Nat → Int} {n a : Nat} {m : List Int} (hok : (clP T n a m).1 = true) : ∃ e, (clP T n a m).2.2.1 = m ++ e ∧ pk e 0 = some 1 := by
  unfold clP at hok ⊢
  by_cases c1 : (wdP T n a).1 < 0
  · rw [if_pos c1] at hok
    simp at hok
  · rw [if_neg c1] at hok ⊢
    by_cases c2 : nxP T n (wdP T n a).2 = 32
    · rw [if_pos c2] at hok ⊢
      cases hnum : numP T n ((wdP T n a).2 + 1) with
      | none =>
        rw [hnum] at hok
        simp at hok
      | some q =>
        obtain ⟨v, b⟩ := q
        rw [hnum] at hok
        simp only at hok ⊢
        by_cases c3 : nxP T n b = 32
        · rw [if_pos c3] at hok ⊢
          obtain ⟨e, i1, i2⟩ := cP_pk T n 609 2 0 (b + 1) m (by decide) (by decide) hok
          exact ⟨e, i1, i2 0 (by decide)⟩
        · rw [if_neg c3] at hok
          simp at hok
    · rw [if_neg c2] at hok
      simp at hok
/-- the clauses and marks of a yard stand well -/
def WFC (cs : List Cl) (m : List Int) : Prop := (∀ c, c < cs.length → (cs.getD c cl0).2.2.1 = (if c = 0 then 0 else (cs.getD (c - 1) cl0).2.2.2) ∧ 0 ≤ (cs.getD c cl0).1 ∧ (cs.getD c cl0).1 ≤ 2 ∧ 0 ≤ (cs.getD c cl0).2.1 ∧ (cs.getD c cl0).2.1 ≤ 99 ∧ ∃ pre e post, m = pre ++ (e ++ post) ∧ pre.length = (cs.getD c cl0).2.2.1 ∧ (cs.getD c cl0).2.2.1 + e.length = (cs.getD c cl0).2.2.2 ∧ pk e 0 = some 1) ∧ m.length = (if cs.length = 0 then 0 else (cs.getD (cs.length - 1) cl0).2.2.2)
theorem WFC_0 : WFC [] [] := ⟨fun c hc => absurd hc (Nat.not_lt_zero c), rfl⟩
theorem WFC_sn {cs : List Cl} {m e : List Int} {w v : Int} (h : WFC cs m) (h1 : 0 ≤ w) (h2 : w ≤ 2) (h3 : 0 ≤ v) (h4 : v ≤ 99) (he : pk e 0 = some 1) : WFC (snC cs m (m ++ e) w v) (m ++ e) := by
  have ll : (snC cs m (m ++ e) w v).length = cs.length + 1 := by unfold snC; rw [List.length_append, List.length_singleton]
  have lst : (snC cs m (m ++ e) w v).getD cs.length cl0 = (w, v, m.length, (m ++ e).length) := by unfold snC; exact getC2
  have old : ∀ c, c < cs.length → (snC cs m (m ++ e) w v).getD c cl0 = cs.getD c cl0 := fun c hc => by unfold snC; exact getC1 hc
  refine ⟨fun c hc => ?_, ?_⟩
  · rw [ll] at hc
    by_cases d : c = cs.length
    · subst d
      rw [lst]
      refine ⟨?_, h1, h2, h3, h4, m, e, [], by rw [List.append_nil], rfl, by show m.length + e.length = (m ++ e).length; rw [List.length_append], he⟩
      show m.length = _
      rw [h.2]
      by_cases z : cs.length = 0
      · rw [if_pos z, if_pos z]
      · rw [if_neg z, if_neg z, old _ (by omega)]
    · obtain ⟨i1, i2, i3, i4, i5, pre, e', post, j1, j2, j3, j4⟩ := h.1 c (by omega)
      rw [old c (by omega)]
      refine ⟨?_, i2, i3, i4, i5, pre, e', post ++ e, by rw [j1]; simp [List.append_assoc], j2, j3, j4⟩
      rw [i1]
      by_cases z : c = 0
      · rw [if_pos z, if_pos z]
      · rw [if_neg z, if_neg z, old _ (by omega)]
  · rw [ll, if_neg (by omega), show cs.length + 1 - 1 = cs.length by omega, lst]
theorem gtP_wf (T : Nat → Int) (n : Nat) : ∀ (k a : Nat) (cs : List Cl) (m : List Int), a ≤ n → m.length ≤ a → WFC cs m → (gtP T n k a cs m).1 = true → WFC (gtP T n k a cs m).2.2.1 (gtP T n k a cs m).2.2.2 ∧ (gtP T n k a cs m).2.2.2.length ≤ n
  | 0, a, cs, m, ha, hm, hw, h => by
    unfold gtP at h
    simp at h
  | k + 1, a, cs, m, ha, hm, hw, h => by
    rw [gt_af] at h ⊢
    by_cases c : (clP T n a m).1 = true
    · rw [if_pos c] at h ⊢
      have le := clP_ok ha c
      obtain ⟨e, p1, p2⟩ := clP_pk c
      generalize clP T n a m = r at *
      have w2 : WFC (snC cs m r.2.2.1 r.2.2.2.1 r.2.2.2.2) r.2.2.1 := by
        rw [p1]
        exact WFC_sn hw le.2.2.2.1 le.2.2.2.2.1 le.2.2.2.2.2.1 le.2.2.2.2.2.2 p2
      have l3 : r.2.2.1.length ≤ n := by omega
      unfold afP at h ⊢
      by_cases x : r.2.1 = n
      · rw [if_pos x] at h ⊢
        exact ⟨w2, l3⟩
      · rw [if_neg x] at h ⊢
        by_cases y : k = 0
        · rw [if_pos y] at h
          simp at h
        · rw [if_neg y] at h ⊢
          by_cases z : nxP T n r.2.1 = 59
          · rw [if_pos z] at h ⊢
            have hl := nx_lt2 z (by decide)
            exact gtP_wf T n k (r.2.1 + 1) _ _ (by omega) (by omega) w2 h
          · rw [if_neg z] at h
            simp at h
    · rw [if_neg c] at h
      simp at h
/-! What both sides hold alike of texts and yards. -/
/-- yard q of the class is these clauses and marks -/
def RY (q : Nat) (h : Hp) (cs : List Cl) (m : List Int) : Prop := (h.2.1 q 0).toInt = (cs.length : Int) ∧ (∀ c, c < cs.length → (h.2.1 (q + 1) c).toInt = (cs.getD c cl0).1 ∧ (h.2.1 (q + 2) c).toInt = (cs.getD c cl0).2.1 ∧ (h.2.1 (q + 3) c).toInt = ((cs.getD c cl0).2.2.2 : Int)) ∧ ∀ j, j < m.length → (h.2.1 (q + 4) j).toInt = trM (m.getD j 0)
def YE (i : Nat) (h : Hp) : Prop := ∃ cs m, RY (63 + 5 * i) h cs m ∧ YM i h cs m ∧ WFC cs m ∧ cs.length ≤ 10 ∧ m.length ≤ 100
theorem yq_i {i : Nat} (hi : i < 6) : YQ (63 + 5 * i) := by
  unfold YQ
  simp only [List.mem_cons, List.not_mem_nil, or_false]
  omega
def EQC (h : Hp) : Prop := h.2.1 44 1 = h.2.1 93 11 ∧ (∀ j, h.2.1 45 j = h.2.1 100 j) ∧ h.2.1 0 6 = h.2.1 93 9 ∧ (∀ i : Nat, i < (h.2.1 93 9).toInt.toNat → YE i h) ∧ h.2.1 1 12 = h.2.1 93 10 ∧ h.2.1 9 12 = h.2.1 93 45 ∧ LTR h
/-- all cells of the yards of both sides -/
def SYA : List (Nat × Nat) := [(101, 999), (102, 999), (103, 999), (104, 999), (105, 999), (106, 999), (63, 0), (64, 999), (65, 999), (66, 999), (67, 999), (68, 0), (69, 999), (70, 999), (71, 999), (72, 999), (73, 0), (74, 999), (75, 999), (76, 999), (77, 999), (78, 0), (79, 999), (80, 999), (81, 999), (82, 999), (83, 0), (84, 999), (85, 999), (86, 999), (87, 999), (88, 0), (89, 999), (90, 999), (91, 999), (92, 999)]
theorem sya_0 : ∀ i, i < 6 → inW SYA (63 + 5 * i) 0 = true := by decide
theorem sya_j {i j k : Nat} (hi : i < 6) (hj : 1 ≤ j ∧ j ≤ 4) : inW SYA (63 + 5 * i + j) k = true := by
  have h : ∀ i, i < 6 → ∀ j, j < 5 → 1 ≤ j → inW SYA (63 + 5 * i + j) 999 = true := by decide
  exact inW_arr (h i hi j (by omega) hj.1) k
theorem YE_fr {i : Nat} {h h' : Hp} (hi : i < 6) (he : ∀ a k, inW SYA a k = true → h'.2.1 a k = h.2.1 a k) (hy : YE i h) : YE i h' := by
  obtain ⟨cs, m, ⟨r1, r2, r3⟩, ⟨y1, y2, y3⟩, w⟩ := hy
  have s : ∀ a, (a = 101 ∨ a = 102 ∨ a = 103 ∨ a = 104 ∨ a = 105 ∨ a = 106) → ∀ k, h'.2.1 a k = h.2.1 a k := fun a ha k => he a k (by rcases ha with rfl | rfl | rfl | rfl | rfl | rfl <;> simp [inW, SYA])
  refine ⟨cs, m, ⟨by rw [he _ _ (sya_0 i hi)]; exact r1, fun c hc => ?_, fun j hj => by rw [he _ _ (sya_j hi (by omega))]; exact r3 j hj⟩, ⟨by rw [s 101 (by omega)]; exact y1, fun c hc => ?_, fun j hj => by rw [s 106 (by omega)]; exact y3 j hj⟩, w⟩
  · rw [he _ _ (sya_j hi (by omega : 1 ≤ 1 ∧ 1 ≤ 4)), he _ _ (sya_j hi (by omega : 1 ≤ 2 ∧ 2 ≤ 4)), he _ _ (sya_j hi (by omega : 1 ≤ 3 ∧ 3 ≤ 4))]
    exact r2 c hc
  · rw [s 102 (by omega), s 103 (by omega), s 104 (by omega), s 105 (by omega)]
    exact y2 c hc
def SUPC : List (Nat × Nat) := SYA ++ [(44, 1), (93, 11), (45, 999), (100, 999), (0, 6), (93, 9), (1, 12), (93, 10), (9, 12), (93, 45), (108, 999)]
theorem EQC_f {W : List (Nat × Nat)} {h h' : Hp} (hh : HI h) (hd : disW SUPC W = true) (hf : frm W h h') (e : EQC h) : EQC h' := by
  have g : ∀ a k, inW SUPC a k = true → h'.2.1 a k = h.2.1 a k := fun a k hs => (hf a k (dis_in hd hs)).1
  have gy : ∀ a k, inW SYA a k = true → h'.2.1 a k = h.2.1 a k := fun a k hs => g a k (by unfold SUPC; rw [inW, List.any_append]; simp only [Bool.or_eq_true]; exact Or.inl hs)
  have y6 := hh.iv 93 9 (r := (0, 6)) rfl
  simp only at y6
  obtain ⟨e1, e2, e3, e4, e5, e6, e7⟩ := e
  refine ⟨by rw [g 44 1 rfl, g 93 11 rfl]; exact e1, fun j => by rw [g 45 j (by simp [inW, SUPC, SYA]), g 100 j (by simp [inW, SUPC, SYA])]; exact e2 j, by rw [g 0 6 rfl, g 93 9 rfl]; exact e3, fun i hi => ?_, by rw [g 1 12 rfl, g 93 10 rfl]; exact e5, by rw [g 9 12 rfl, g 93 45 rfl]; exact e6, fun j hj => by rw [g 108 j (by simp [inW, SUPC, SYA])]; exact e7 j hj⟩
  rw [g 93 9 rfl] at hi
  exact YE_fr (by omega) gy (e4 i hi)
def INVC (h : Hp) : Prop := INVE h ∧ EQC h
end JN99tw6eqc
