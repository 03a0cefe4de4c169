section JN93inv
/-! The heap at the law's loop: its invariant at first. -/
theorem SHl_len : SHl.length = 127 := by decide +kernel
def slA (a : Nat) : Nat := match SHl[a]? with | some s => slen s | none => 0
theorem slA_s (a : Nat) (s) (e : SHl[a]? = some s) : slA a = slen s := by unfold slA; rw [e]
set_option maxRecDepth 20000 in
theorem HI_0 : HI hI0 := by
  have hs := mk2_eq.2
  have zb : ∀ a k, outB hI0 a k → hI0.2.1 a k = 0 ∧ hI0.2.2.1 a k = 0 ∧ hI0.2.2.2 a k = none := hI_ZB
  have inr : ∀ a k, a < 127 → k < slA a → cellOK hI0 a k = true := by
    intro a k ha hk
    exact List.all_eq_true.mp (List.all_eq_true.mp cells_ok a (List.mem_range.mpr ha)) k (List.mem_range.mpr hk)
  have out : ∀ a k, ¬ (a < 127 ∧ k < slA a) → outB hI0 a k := by
    intro a k hn
    unfold outB
    rw [hs]
    cases e : SHl[a]? with
    | none => trivial
    | some s =>
      have ha : a < 127 := by rw [← SHl_len]; exact (List.getElem?_eq_some_iff.mp e).1
      rw [slA_s a s e] at hn
      show slen s ≤ k
      omega
  have big : ∀ a, ¬ a < 127 → (IVT.getD a []) = [] ∧ (RFT.getD a []) = [] := by
    intro a ha
    have l1 : IVT.length = 127 := by decide +kernel
    have l2 : RFT.length = 127 := by decide +kernel
    exact ⟨by rw [List.getD_eq_getElem?_getD, List.getElem?_eq_none (by omega)]; rfl, by rw [List.getD_eq_getElem?_getD, List.getElem?_eq_none (by omega)]; rfl⟩
  refine ⟨hs, fun a k => ?_, fun a k hr => ?_⟩
  · by_cases h : a < 127 ∧ k < slA a
    · have := inr a k h.1 h.2
      unfold cellOK at this
      simp only [Bool.and_eq_true, decide_eq_true_eq] at this
      exact this.1
    · have ob : outB hI0 a k := out a k h
      have z := (zb a k ob).1
      rw [z, z0]
      by_cases ha : a < 127
      · have o := List.all_eq_true.mp outs_ok a (List.mem_range.mpr ha)
        unfold ivl
        cases e : SHl[a]? with
        | none => rw [e] at o; cases o
        | some s =>
          rw [e] at o
          rw [slA_s a s e] at h
          cases s with
          | inl q =>
            simp only [Bool.and_eq_true, decide_eq_true_eq] at o
            unfold ivl at o
            rw [e] at o
            exact o
          | inr c =>
            simp only [Bool.and_eq_true, decide_eq_true_eq] at o
            have hk : vwN c ≤ k := by
              have : ¬ k < slen (.inr c) := fun q => h ⟨ha, q⟩
              show slen (.inr c) ≤ k
              omega
            show (((IVT.getD a []).getD k fI).1 : Int) ≤ 0 ∧ (0 : Int) ≤ ((IVT.getD a []).getD k fI).2
            rw [List.getD_eq_getElem?_getD (l := IVT.getD a []), List.getElem?_eq_none (by omega)]
            exact ⟨by decide, by decide⟩
      · unfold ivl
        rw [(big a ha).1]
        exact ⟨by show (-2147483648 : Int) ≤ 0; decide, by show (0 : Int) ≤ 2147483647; decide⟩
  · by_cases h : a < 127 ∧ k < slA a
    · have := inr a k h.1 h.2
      unfold cellOK at this
      simp only [Bool.and_eq_true, Bool.or_eq_true, decide_eq_true_eq, List.isEmpty_iff, List.any_eq_true] at this
      rcases this.2 with q | ⟨b, b1, b2⟩
      · exact absurd q hr
      · exact ⟨b, b1, b2⟩
    · exfalso
      apply hr
      unfold rst
      by_cases ha : a < 127
      · have o := List.all_eq_true.mp outs_ok a (List.mem_range.mpr ha)
        cases e : SHl[a]? with
        | none => rw [e] at o; cases o
        | some s =>
          rw [e] at o
          rw [slA_s a s e] at h
          cases s with
          | inl q =>
            obtain ⟨t, n⟩ := q
            have hk : ¬ k < n := fun q => h ⟨ha, q⟩
            simp only
            rw [if_neg hk]
          | inr c =>
            simp only [Bool.and_eq_true, decide_eq_true_eq] at o
            have hk : vwN c ≤ k := by
              have : ¬ k < slen (.inr c) := fun q => h ⟨ha, q⟩
              show slen (.inr c) ≤ k
              omega
            simp only
            rw [List.getD_eq_getElem?_getD (l := RFT.getD a []), List.getElem?_eq_none (by omega)]
            rfl
      · have : SHl[a]? = none := List.getElem?_eq_none (by rw [SHl_len]; omega)
        rw [this]
        simp only
        rw [(big a ha).2]
        rfl
def cellsAre (h : Hp) (l : List (Nat × Nat × Int)) : Bool := l.all (fun q => decide ((h.2.1 q.1 q.2.1).toInt = q.2.2))
theorem cells_0 : cellsAre hI0 [(1, 0, 0), (9, 0, 0), (0, 2, 0), (93, 0, 0), (93, 46, 0), (93, 44, 0), (93, 9, 0), (93, 10, -1), (93, 45, -1), (93, 30, -1), (93, 32, 0), (93, 1, 0), (93, 47, 0), (93, 27, 0), (93, 28, -1)] = true := by decide +kernel
theorem refs_0 : ((List.range 6).all (fun i => decide (hI0.2.2.2 56 i = some (57 + i)) && decide (hI0.2.2.2 38 i = some (63 + 5 * i)))) = true := by decide +kernel
end JN93inv
section JN94inv2
/-! What holds at every pass of the law's loop. -/
def INV (h : Hp) : Prop := HI h ∧ J1.1 h ∧ h.2.1 93 32 = 0 ∧ (h.2.1 93 1).toInt ≤ 999 ∧ (h.2.1 93 47).toInt ≤ 999 ∧ RX h ∧ h.2.1 1 0 = h.2.1 93 0 ∧ h.2.1 9 0 = h.2.1 93 46 ∧ h.2.1 0 2 = h.2.1 93 44
theorem ar_0 {h : Hp} {l : List (Nat × Nat × Int)} (hc : cellsAre h l = true) {a k : Nat} {v : Int} (hm : (a, k, v) ∈ l) : (h.2.1 a k).toInt = v := of_decide_eq_true (List.all_eq_true.mp hc _ hm)
theorem refs_1 : RX hI0 := by
  have := refs_0
  refine ⟨fun i hi => ?_, fun i hi => ?_⟩
  · have t := List.all_eq_true.mp this i (List.mem_range.mpr hi)
    rw [Bool.and_eq_true] at t
    exact of_decide_eq_true t.1
  · have t := List.all_eq_true.mp this i (List.mem_range.mpr hi)
    rw [Bool.and_eq_true] at t
    exact of_decide_eq_true t.2
theorem INV_0 : INV hI0 := by
  have c := cells_0
  have y0 : (hI0.2.1 93 9).toInt = 0 := ar_0 c (by simp)
  have y1 : (hI0.2.1 93 10).toInt = -1 := ar_0 c (by simp)
  have y2 : (hI0.2.1 93 45).toInt = -1 := ar_0 c (by simp)
  have f0 : (hI0.2.1 93 30).toInt = -1 := ar_0 c (by simp)
  have eq : ∀ {a k b j : Nat}, (hI0.2.1 a k).toInt = 0 → (hI0.2.1 b j).toInt = 0 → hI0.2.1 a k = hI0.2.1 b j := fun p q => Int32.toInt_inj.mp (by rw [p, q])
  refine ⟨HI_0, ⟨⟨by rw [y1, y0]; decide, by rw [y2, y0]; decide, fun f cc hf hc => ?_⟩, f0⟩, ?_, ?_, ?_, refs_1, eq (ar_0 c (by simp)) (ar_0 c (by simp)), eq (ar_0 c (by simp)) (ar_0 c (by simp)), eq (ar_0 c (by simp)) (ar_0 c (by simp))⟩
  · exfalso
    rw [y0] at hf
    omega
  · exact Int32.toInt_inj.mp (by rw [ar_0 c (v := 0) (by simp)]; rfl)
  · rw [ar_0 c (v := 0) (by simp)]; decide
  · rw [ar_0 c (v := 0) (by simp)]; decide
/-- all cells it speaks of -/
def SUPI : List (Nat × Nat) := [(93, 9), (93, 10), (93, 45), (101, 999), (104, 999), (105, 999), (106, 999), (93, 30), (93, 32), (93, 1), (93, 47), (1, 0), (93, 0), (9, 0), (93, 46), (0, 2), (93, 44), (56, 999), (38, 999)]
theorem supi1 {a k : Nat} (h : inW SUP1 a k = true) : inW SUPI a k = true := by
  have : SUPI = SUP1 ++ [(93, 32), (93, 1), (93, 47), (1, 0), (93, 0), (9, 0), (93, 46), (0, 2), (93, 44), (56, 999), (38, 999)] := rfl
  unfold inW at h ⊢
  rw [this, List.any_append, h]
  rfl
theorem INV_fr {W : List (Nat × Nat)} {h h' : Hp} (hd : disW SUPI W = true) (hh : HI h') (hf : frm W h h') (hi : INV h) : INV h' := by
  obtain ⟨-, j1, g, s, q, ⟨x1, x2⟩, r1, r2, r3⟩ := hi
  have e : ∀ a k, inW SUPI a k = true → h'.2.1 a k = h.2.1 a k := fun a k hs => (hf a k (dis_in hd hs)).1
  have er : ∀ a k, inW SUPI a k = true → h'.2.2.2 a k = h.2.2.2 a k := fun a k hs => (hf a k (dis_in hd hs)).2.2
  refine ⟨hh, JS1 h h' (fun a k q => e a k (supi1 q)) j1, by rw [e 93 32 rfl]; exact g, by rw [e 93 1 rfl]; exact s, by rw [e 93 47 rfl]; exact q, ⟨fun i hi => ?_, fun i hi => ?_⟩, ?_, ?_, ?_⟩
  · rw [er 56 i (by simp [inW, SUPI])]; exact x1 i hi
  · rw [er 38 i (by simp [inW, SUPI])]; exact x2 i hi
  · rw [e 1 0 rfl, e 93 0 rfl]; exact r1
  · rw [e 9 0 rfl, e 93 46 rfl]; exact r2
  · rw [e 0 2 rfl, e 93 44 rfl]; exact r3
end JN94inv2
section JN95steps
/-! A call of a public method keeps what holds at every pass. -/
theorem st_plain {T : Ctr} (i : Nat) (hT : (TBL.take 328)[i]? = some T) (hd : disW SUPI (cW T) = true) {X : Scr} {dp : Nat} {ρ : Nat → Int} {h : Hp} {as : List Value} {Q : Option Value → Hp → Prop} (hD : cD T ≤ dp) (hi : INV h) (hb : bOK ρ (cB T)) (ha : al2 (vm (cB T).length ρ) (cA T) as) (hF : cF T = []) (hQ : ∀ v h', INV h' → Qpost (cB T).length ρ (cP T) v h' → Q v h') : Ends X dp (cY T) 0 (entL (mMaxL (cY T)) as) [] h Q :=
  (gd1 i hT X dp ρ h as hD hi.1 (fun _ => hi.2.1) hb ha (by rw [hF]; intro q hq; cases hq)).mono (fun v h' q => hQ v h' (INV_fr hd q.1 q.2.1 hi) q.2.2)
def SUPS : List (Nat × Nat) := [(93, 9), (93, 10), (93, 45), (101, 999), (104, 999), (105, 999), (106, 999), (93, 30), (93, 32), (93, 47), (1, 0), (93, 0), (9, 0), (93, 46), (0, 2), (93, 44), (56, 999), (38, 999)]
theorem sups1 {a k : Nat} (h : inW SUP1 a k = true) : inW SUPS a k = true := by
  have : SUPS = SUP1 ++ [(93, 32), (93, 47), (1, 0), (93, 0), (9, 0), (93, 46), (0, 2), (93, 44), (56, 999), (38, 999)] := rfl
  unfold inW at h ⊢
  rw [this, List.any_append, h]
  rfl
theorem INV_frS {W : List (Nat × Nat)} {h h' : Hp} (hd : disW SUPS W = true) (hh : HI h') (hf : frm W h h') (hs : (h'.2.1 93 1).toInt ≤ 999) (hi : INV h) : INV h' := by
  obtain ⟨-, j1, g, -, q, ⟨x1, x2⟩, r1, r2, r3⟩ := hi
  have e : ∀ a k, inW SUPS a k = true → h'.2.1 a k = h.2.1 a k := fun a k hs => (hf a k (dis_in hd hs)).1
  have er : ∀ a k, inW SUPS a k = true → h'.2.2.2 a k = h.2.2.2 a k := fun a k hs => (hf a k (dis_in hd hs)).2.2
  refine ⟨hh, JS1 h h' (fun a k q => e a k (sups1 q)) j1, by rw [e 93 32 rfl]; exact g, hs, by rw [e 93 47 rfl]; exact q, ⟨fun i hi => ?_, fun i hi => ?_⟩, ?_, ?_, ?_⟩
  · rw [er 56 i (by simp [inW, SUPS])]; exact x1 i hi
  · rw [er 38 i (by simp [inW, SUPS])]; exact x2 i hi
  · rw [e 1 0 rfl, e 93 0 rfl]; exact r1
  · rw [e 9 0 rfl, e 93 46 rfl]; exact r2
  · rw [e 0 2 rfl, e 93 44 rfl]; exact r3
theorem qp_fact {nv : Nat} {ρ : Nat → Int} {posts : List Post} {v : Option Value} {h : Hp} {a k : Nat} {lo hi : Int} (hq : Qpost nv ρ posts v h) (hp : posts.all (fun P => P.2.2.1.any (fun q => q.1 == a && q.2.1 == k && rngOK (trg P.1 q.2.2) (lo, hi))) = true) : lo ≤ (h.2.1 a k).toInt ∧ (h.2.1 a k).toInt ≤ hi := by
  obtain ⟨P, hP, ρ', e, hb, hn, ha, hf⟩ := hq
  obtain ⟨q, hq, h1⟩ := List.any_eq_true.mp (List.all_eq_true.mp hp P hP)
  simp only [Bool.and_eq_true, beq_iff_eq] at h1
  obtain ⟨⟨rfl, rfl⟩, h3⟩ := h1
  have hr := tOK_rg hb (hf q hq).1
  exact rng_ok h3 hr.1 hr.2
/-- a call that may shout -/
theorem st_shout {T : Ctr} (i : Nat) (hT : (TBL.take 328)[i]? = some T) (hd : disW SUPS (cW T) = true) (hp : (cP T).all (fun P => P.2.2.1.any (fun q => q.1 == 93 && q.2.1 == 1 && rngOK (trg P.1 q.2.2) (0, 999))) = true) {X : Scr} {dp : Nat} {ρ : Nat → Int} {h : Hp} {as : List Value} {Q : Option Value → Hp → Prop} (hD : cD T ≤ dp) (hi : INV h) (hb : bOK ρ (cB T)) (ha : al2 (vm (cB T).length ρ) (cA T) as) (hF : ∀ q ∈ cF T, tOK (cB T).length ρ q.2.2 (h.2.1 q.1 q.2.1).toInt ∧ ∃ ci, SHl[q.1]? = some (.inr ci)) (hQ : ∀ v h', INV h' → Qpost (cB T).length ρ (cP T) v h' → Q v h') : Ends X dp (cY T) 0 (entL (mMaxL (cY T)) as) [] h Q :=
  (gd1 i hT X dp ρ h as hD hi.1 (fun _ => hi.2.1) hb ha hF).mono (fun v h' q => hQ v h' (INV_frS hd q.1 q.2.1 (qp_fact q.2.2 hp).2 hi) q.2.2)
end JN95steps
section JN96steps2
/-! The calls that may shout. -/
theorem cls93 : ∃ ci, SHl[93]? = some (.inr ci) := ⟨_, by rfl⟩
theorem lo931 {h : Hp} (hi : INV h) : 0 ≤ (h.2.1 93 1).toInt := by
  have : (0 : Int) ≤ (ivl 93 1).1 := by decide +kernel
  exact Int.le_trans this (hi.1.2.1 93 1).1
theorem shout_s {X : Scr} {dp : Nat} {h : Hp} {Q : Option Value → Hp → Prop} (hD : cD k_314 ≤ dp) (hi : INV h) (hQ : ∀ (r : Int32) h', INV h' → Q (some (.int r)) h') : Ends X dp 159 0 (entL (mMaxL 159) [.ref 93]) [] h Q := by
  refine st_shout (T := k_314) 314 (by rfl) (by decide +kernel) (by decide +kernel) (ρ := fun _ => (h.2.1 93 1).toInt) hD hi ?_ ⟨⟨93, rfl, List.mem_singleton.mpr rfl⟩, trivial⟩ ?_ ?_
  · intro v q hq
    match v, hq with
    | 0, hq => cases hq; exact ⟨lo931 hi, hi.2.2.2.1⟩
    | v + 1, hq => cases hq
  · intro q hq
    cases hq with
    | head => exact ⟨⟨by decide, by show (h.2.1 93 1).toInt = (h.2.1 93 1).toInt + 0; omega⟩, cls93⟩
    | tail _ t => cases t
  · intro v h' a b
    obtain ⟨r, e, -⟩ := qp_int (lo := -3) (hi := 127) b (by decide +kernel)
    exact e ▸ hQ r h' a
theorem looked_s {X : Scr} {dp : Nat} {h : Hp} {Q : Option Value → Hp → Prop} (hD : cD k_327 ≤ dp) (hi : INV h) (hQ : ∀ (r : Int32) h', INV h' → Q (some (.int r)) h') : Ends X dp 182 0 (entL (mMaxL 182) [.ref 93]) [] h Q := by
  refine st_shout (T := k_327) 327 (by rfl) (by decide +kernel) (by decide +kernel) (ρ := fun _ => (h.2.1 93 1).toInt) hD hi ?_ ⟨⟨93, rfl, List.mem_singleton.mpr rfl⟩, trivial⟩ ?_ ?_
  · intro v q hq
    match v, hq with
    | 0, hq => cases hq; exact ⟨lo931 hi, hi.2.2.2.1⟩
    | v + 1, hq => cases hq
  · intro q hq
    cases hq with
    | head => exact ⟨⟨by decide, by show (h.2.1 93 1).toInt = (h.2.1 93 1).toInt + 0; omega⟩, cls93⟩
    | tail _ t => cases t
  · intro v h' a b
    obtain ⟨r, e, -⟩ := qp_int (lo := -100) (hi := 127) b (by decide +kernel)
    exact e ▸ hQ r h' a
theorem bo3 {a b s : Int32} (h1 : 0 ≤ s.toInt) (h2 : s.toInt ≤ 999) : bOK (fun v => if v = 0 then a.toInt else if v = 1 then b.toInt else s.toInt) [fI, fI, (0, 999)] := by
  intro v q hq
  match v, hq with
  | 0, hq => cases hq; exact i32r a
  | 1, hq => cases hq; exact i32r b
  | 2, hq => cases hq; exact ⟨h1, h2⟩
  | v + 3, hq => cases hq
theorem on_s {X : Scr} {dp : Nat} {h : Hp} {Q : Option Value → Hp → Prop} (a b : Int32) (hD : cD k_315 ≤ dp) (hi : INV h) (hQ : ∀ (r : Int32) h', INV h' → Q (some (.int r)) h') : Ends X dp 162 0 (entL (mMaxL 162) [.ref 93, .int a, .int b]) [] h Q := by
  refine st_shout (T := k_315) 315 (by rfl) (by decide +kernel) (by decide +kernel) (ρ := fun v => if v = 0 then a.toInt else if v = 1 then b.toInt else (h.2.1 93 1).toInt) hD hi (bo3 (lo931 hi) hi.2.2.2.1) ⟨⟨93, rfl, List.mem_singleton.mpr rfl⟩, ⟨a, rfl, by decide, by show a.toInt = a.toInt + 0; omega⟩, ⟨b, rfl, by decide, by show b.toInt = b.toInt + 0; omega⟩, trivial⟩ ?_ ?_
  · intro q hq
    cases hq with
    | head => exact ⟨⟨by decide, by show (h.2.1 93 1).toInt = (h.2.1 93 1).toInt + 0; omega⟩, cls93⟩
    | tail _ t => cases t
  · intro v h' a b
    obtain ⟨r, e, -⟩ := qp_int (lo := -2) (hi := 960) b (by decide +kernel)
    exact e ▸ hQ r h' a
theorem last_s {X : Scr} {dp : Nat} {h : Hp} {Q : Option Value → Hp → Prop} (a : Int32) (hD : cD k_316 ≤ dp) (hi : INV h) (hQ : ∀ (r : Int32) h', INV h' → Q (some (.int r)) h') : Ends X dp 164 0 (entL (mMaxL 164) [.ref 93, .int a]) [] h Q := by
  refine st_shout (T := k_316) 316 (by rfl) (by decide +kernel) (by decide +kernel) (ρ := fun v => if v = 0 then a.toInt else (h.2.1 93 1).toInt) hD hi ?_ ⟨⟨93, rfl, List.mem_singleton.mpr rfl⟩, ⟨a, rfl, by decide, by show a.toInt = a.toInt + 0; omega⟩, trivial⟩ ?_ ?_
  · intro v q hq
    match v, hq with
    | 0, hq => cases hq; exact i32r a
    | 1, hq => cases hq; exact ⟨lo931 hi, hi.2.2.2.1⟩
    | v + 2, hq => cases hq
  · intro q hq
    cases hq with
    | head => exact ⟨⟨by decide, by show (h.2.1 93 1).toInt = (h.2.1 93 1).toInt + 0; omega⟩, cls93⟩
    | tail _ t => cases t
  · intro v h' a b
    obtain ⟨r, e, -⟩ := qp_int (lo := -5) (hi := 30) b (by decide +kernel)
    exact e ▸ hQ r h' a
theorem qp_lng {nv : Nat} {ρ : Nat → Int} {posts : List Post} {v : Option Value} {h : Hp} (hq : Qpost nv ρ posts v h) (hp : posts.all (fun P => match P.2.1 with | [a] => a.1 == 2 | _ => false) = true) : ∃ r : Int64, v = some (.long r) := by
  obtain ⟨P, hP, ρ', e, hb, hn, ha, hf⟩ := hq
  have h1 := List.all_eq_true.mp hp P hP
  obtain ⟨B, A, F, S⟩ := P
  simp only at h1 ha hb
  match A, h1, ha with
  | [a], h1, ha =>
    match hv : v, ha with
    | some w, ha =>
      have h2 := ha.1
      unfold vm at h2
      rw [beq_iff_eq] at h1
      rw [h1] at h2
      obtain ⟨x, e, -⟩ := h2
      exact ⟨x, by rw [e]⟩
    | none, ha => exact ha.elim
theorem mean_s {X : Scr} {dp : Nat} {h : Hp} {Q : Option Value → Hp → Prop} (a b : Int32) (hD : cD k_326 ≤ dp) (hi : INV h) (hQ : ∀ (r : Int64) h', INV h' → Q (some (.long r)) h') : Ends X dp 180 0 (entL (mMaxL 180) [.ref 93, .int a, .int b]) [] h Q := by
  refine st_shout (T := k_326) 326 (by rfl) (by decide +kernel) (by decide +kernel) (ρ := fun v => if v = 0 then a.toInt else if v = 1 then b.toInt else (h.2.1 93 1).toInt) hD hi (bo3 (lo931 hi) hi.2.2.2.1) ⟨⟨93, rfl, List.mem_singleton.mpr rfl⟩, ⟨a, rfl, by decide, by show a.toInt = a.toInt + 0; omega⟩, ⟨b, rfl, by decide, by show b.toInt = b.toInt + 0; omega⟩, trivial⟩ ?_ ?_
  · intro q hq
    cases hq with
    | head => exact ⟨⟨by decide, by show (h.2.1 93 1).toInt = (h.2.1 93 1).toInt + 0; omega⟩, cls93⟩
    | tail _ t => cases t
  · intro v h' a b
    obtain ⟨r, e⟩ := qp_lng b (by decide +kernel)
    exact e ▸ hQ r h' a
end JN96steps2
