/-! Texts and yards: the calls that leave them alone. -/
def SUPC2 : List (Nat × Nat) := SYA ++ [(44, 1), (93, 11), (45, 999), (100, 999), (0, 6), (93, 9), (108, 999)]
theorem EQC_g {W : List (Nat × Nat)} {h h' : Hp} (hh : HI h) (hd : disW SUPC2 W = true) (hf : frm W h h') (e : EQC h) (n5 : h'.2.1 1 12 = h'.2.1 93 10) (n6 : h'.2.1 9 12 = h'.2.1 93 45) : EQC h' := by
  have g : ∀ a k, inW SUPC2 a k = true → h'.2.1 a k = h.2.1 a k := fun a k hs => (hf a k (dis_in hd hs)).1
  have gy : ∀ a k, inW SYA a k = true → h'.2.1 a k = h.2.1 a k := fun a k hs => g a k (by unfold SUPC2; rw [inW, List.any_append]; simp only [Bool.or_eq_true]; exact Or.inl hs)
  have y6 := hh.iv 93 9 (r := (0, 6)) rfl
  simp only at y6
  obtain ⟨e1, e2, e3, e4, e5, e6, e7⟩ := e
  refine ⟨by rw [g 44 1 rfl, g 93 11 rfl]; exact e1, fun j => by rw [g 45 j (by simp [inW, SUPC2, SYA]), g 100 j (by simp [inW, SUPC2, SYA])]; exact e2 j, by rw [g 0 6 rfl, g 93 9 rfl]; exact e3, fun i hi => ?_, n5, n6, fun j hj => by rw [g 108 j (by simp [inW, SUPC2, SYA])]; exact e7 j hj⟩
  rw [g 93 9 rfl] at hi
  exact YE_fr (by omega) gy (e4 i hi)
theorem st_plainC {T : Ctr} (i : Nat) (hT : (TBL.take 328)[i]? = some T) (hd : disW SUPI (cW T) = true) (hd2 : disW SUPE (cW T) = true) (hd3 : disW SUPC (cW T) = true) {X : Scr} {dp : Nat} {ρ : Nat → Int} {h : Hp} {as : List Value} {Q : Option Value → Hp → Prop} (hD : cD T ≤ dp) (hi : INVC h) (hb : bOK ρ (cB T)) (ha : al2 (vm (cB T).length ρ) (cA T) as) (hF : cF T = []) (hQ : ∀ v h', INVC h' → Qpost (cB T).length ρ (cP T) v h' → Q v h') : Ends X dp (cY T) 0 (entL (mMaxL (cY T)) as) [] h Q :=
  (gd1 i hT X dp ρ h as hD hi.1.1.1 (fun _ => hi.1.1.2.1) hb ha (by rw [hF]; intro q hq; cases hq)).mono (fun v h' q => hQ v h' ⟨⟨INV_fr hd q.1 q.2.1 hi.1.1, EQV_f hd2 q.2.1 hi.1.2⟩, EQC_f hi.1.1.1 hd3 q.2.1 hi.2⟩ q.2.2)
theorem st_shoutC {T : Ctr} (i : Nat) (hT : (TBL.take 328)[i]? = some T) (hd : disW SUPS (cW T) = true) (hd2 : disW SUPE (cW T) = true) (hd3 : disW SUPC (cW T) = true) (hp : (cP T).all (fun P => P.2.2.1.any (fun q => q.1 == 93 && q.2.1 == 1 && rngOK (trg P.1 q.2.2) (0, 999))) = true) {X : Scr} {dp : Nat} {ρ : Nat → Int} {h : Hp} {as : List Value} {Q : Option Value → Hp → Prop} (hD : cD T ≤ dp) (hi : INVC h) (hb : bOK ρ (cB T)) (ha : al2 (vm (cB T).length ρ) (cA T) as) (hF : ∀ q ∈ cF T, tOK (cB T).length ρ q.2.2 (h.2.1 q.1 q.2.1).toInt ∧ ∃ ci, SHl[q.1]? = some (.inr ci)) (hQ : ∀ v h', INVC h' → Qpost (cB T).length ρ (cP T) v h' → Q v h') : Ends X dp (cY T) 0 (entL (mMaxL (cY T)) as) [] h Q :=
  (gd1 i hT X dp ρ h as hD hi.1.1.1 (fun _ => hi.1.1.2.1) hb ha hF).mono (fun v h' q => hQ v h' ⟨⟨INV_frS hd q.1 q.2.1 (qp_fact q.2.2 hp).2 hi.1.1, EQV_f hd2 q.2.1 hi.1.2⟩, EQC_f hi.1.1.1 hd3 q.2.1 hi.2⟩ q.2.2)
theorem pc_55 {X : Scr} {dp : Nat} {h : Hp} {Q : Option Value → Hp → Prop} (a b c : Int32) (hD : cD k_55 ≤ dp) (hi : INVC h) (hQ : ∀ (r : Int32) h', INVC h' → Q (some (.int r)) h') : Ends X dp 65 0 (entL (mMaxL 65) [.ref 0, .int a, .int b, .int c]) [] h Q := by
  refine st_plainC (T := k_55) 55 (by rfl) (by decide +kernel) (by decide +kernel) (by decide +kernel) (ρ := fun v => if v = 0 then a.toInt else if v = 1 then b.toInt else c.toInt) hD hi ?_ ⟨⟨0, rfl, List.mem_singleton.mpr rfl⟩, ⟨a, rfl, by decide, by show a.toInt = a.toInt + 0; omega⟩, ⟨b, rfl, by decide, by show b.toInt = b.toInt + 0; omega⟩, ⟨c, rfl, by decide, by show c.toInt = c.toInt + 0; omega⟩, trivial⟩ rfl ?_
  · intro v q hq
    match v, hq with
    | 0, hq => cases hq; exact fI_ok a
    | 1, hq => cases hq; exact fI_ok b
    | 2, hq => cases hq; exact fI_ok c
    | v + 3, hq => cases hq
  · intro v h' p q
    obtain ⟨r, e, -⟩ := qp_int (lo := -2147483648) (hi := 2147483647) q (by decide +kernel)
    exact e ▸ hQ r h' p
theorem pc_148 {X : Scr} {dp : Nat} {h : Hp} {Q : Option Value → Hp → Prop} (a : Int32) (hD : cD k_148 ≤ dp) (hi : INVC h) (hQ : ∀ (r : Int32) h', INVC h' → Q (some (.int r)) h') : Ends X dp 70 0 (entL (mMaxL 70) [.ref 0, .int a]) [] h Q := by
  refine st_plainC (T := k_148) 148 (by rfl) (by decide +kernel) (by decide +kernel) (by decide +kernel) (ρ := fun _ => a.toInt) hD hi ?_ ⟨⟨0, rfl, List.mem_singleton.mpr rfl⟩, ⟨a, rfl, by decide, by show a.toInt = a.toInt + 0; omega⟩, trivial⟩ rfl ?_
  · intro v q hq
    match v, hq with
    | 0, hq => cases hq; exact fI_ok a
    | v + 1, hq => cases hq
  · intro v h' p q
    obtain ⟨r, e, -⟩ := qp_int (lo := -2147483648) (hi := 2147483647) q (by decide +kernel)
    exact e ▸ hQ r h' p
theorem pc_159 {X : Scr} {dp : Nat} {h : Hp} {Q : Option Value → Hp → Prop} (a b : Int32) (hD : cD k_159 ≤ dp) (hi : INVC h) (hQ : ∀ (r : Int32) h', INVC h' → Q (some (.int r)) h') : Ends X dp 88 0 (entL (mMaxL 88) [.ref 0, .int a, .int b]) [] h Q := by
  refine st_plainC (T := k_159) 159 (by rfl) (by decide +kernel) (by decide +kernel) (by decide +kernel) (ρ := fun v => if v = 0 then a.toInt else b.toInt) hD hi ?_ ⟨⟨0, rfl, List.mem_singleton.mpr rfl⟩, ⟨a, rfl, by decide, by show a.toInt = a.toInt + 0; omega⟩, ⟨b, rfl, by decide, by show b.toInt = b.toInt + 0; omega⟩, trivial⟩ rfl ?_
  · intro v q hq
    match v, hq with
    | 0, hq => cases hq; exact fI_ok a
    | 1, hq => cases hq; exact fI_ok b
    | v + 2, hq => cases hq
  · intro v h' p q
    obtain ⟨r, e, -⟩ := qp_int (lo := -2147483648) (hi := 2147483647) q (by decide +kernel)
    exact e ▸ hQ r h' p
theorem pc_228 {X : Scr} {dp : Nat} {h : Hp} {Q : Option Value → Hp → Prop} (a b c : Int32) (hD : cD k_228 ≤ dp) (hi : INVC h) (hQ : ∀ (r : Int32) h', INVC h' → Q (some (.int r)) h') : Ends X dp 115 0 (entL (mMaxL 115) [.ref 93, .int a, .int b, .int c]) [] h Q := by
  refine st_plainC (T := k_228) 228 (by rfl) (by decide +kernel) (by decide +kernel) (by decide +kernel) (ρ := fun v => if v = 0 then a.toInt else if v = 1 then b.toInt else c.toInt) hD hi ?_ ⟨⟨93, rfl, List.mem_singleton.mpr rfl⟩, ⟨a, rfl, by decide, by show a.toInt = a.toInt + 0; omega⟩, ⟨b, rfl, by decide, by show b.toInt = b.toInt + 0; omega⟩, ⟨c, rfl, by decide, by show c.toInt = c.toInt + 0; omega⟩, trivial⟩ rfl ?_
  · intro v q hq
    match v, hq with
    | 0, hq => cases hq; exact fI_ok a
    | 1, hq => cases hq; exact fI_ok b
    | 2, hq => cases hq; exact fI_ok c
    | v + 3, hq => cases hq
  · intro v h' p q
    obtain ⟨r, e, -⟩ := qp_int (lo := -2147483648) (hi := 2147483647) q (by decide +kernel)
    exact e ▸ hQ r h' p
theorem pc_235 {X : Scr} {dp : Nat} {h : Hp} {Q : Option Value → Hp → Prop} (a : Int32) (hD : cD k_235 ≤ dp) (hi : INVC h) (hQ : ∀ (r : Int32) h', INVC h' → Q (some (.int r)) h') : Ends X dp 150 0 (entL (mMaxL 150) [.ref 93, .int a]) [] h Q := by
  refine st_plainC (T := k_235) 235 (by rfl) (by decide +kernel) (by decide +kernel) (by decide +kernel) (ρ := fun _ => a.toInt) hD hi ?_ ⟨⟨93, rfl, List.mem_singleton.mpr rfl⟩, ⟨a, rfl, by decide, by show a.toInt = a.toInt + 0; omega⟩, trivial⟩ rfl ?_
  · intro v q hq
    match v, hq with
    | 0, hq => cases hq; exact fI_ok a
    | v + 1, hq => cases hq
  · intro v h' p q
    obtain ⟨r, e, -⟩ := qp_int (lo := -2147483648) (hi := 2147483647) q (by decide +kernel)
    exact e ▸ hQ r h' p
theorem pc_246 {X : Scr} {dp : Nat} {h : Hp} {Q : Option Value → Hp → Prop} (a b : Int32) (hD : cD k_246 ≤ dp) (hi : INVC h) (hQ : ∀ (r : Int32) h', INVC h' → Q (some (.int r)) h') : Ends X dp 183 0 (entL (mMaxL 183) [.ref 93, .int a, .int b]) [] h Q := by
  refine st_plainC (T := k_246) 246 (by rfl) (by decide +kernel) (by decide +kernel) (by decide +kernel) (ρ := fun v => if v = 0 then a.toInt else b.toInt) hD hi ?_ ⟨⟨93, rfl, List.mem_singleton.mpr rfl⟩, ⟨a, rfl, by decide, by show a.toInt = a.toInt + 0; omega⟩, ⟨b, rfl, by decide, by show b.toInt = b.toInt + 0; omega⟩, trivial⟩ rfl ?_
  · intro v q hq
    match v, hq with
    | 0, hq => cases hq; exact fI_ok a
    | 1, hq => cases hq; exact fI_ok b
    | v + 2, hq => cases hq
  · intro v h' p q
    obtain ⟨r, e, -⟩ := qp_int (lo := -2147483648) (hi := 2147483647) q (by decide +kernel)
    exact e ▸ hQ r h' p
theorem pc_293 {X : Scr} {dp : Nat} {h : Hp} {Q : Option Value → Hp → Prop} (a b : Int32) (hD : cD k_293 ≤ dp) (hi : INVC h) (hQ : ∀ (r : Int32) h', INVC h' → Q (some (.int r)) h') : Ends X dp 64 0 (entL (mMaxL 64) [.ref 0, .int a, .int b]) [] h Q := by
  refine st_plainC (T := k_293) 293 (by rfl) (by decide +kernel) (by decide +kernel) (by decide +kernel) (ρ := fun v => if v = 0 then a.toInt else b.toInt) hD hi ?_ ⟨⟨0, rfl, List.mem_singleton.mpr rfl⟩, ⟨a, rfl, by decide, by show a.toInt = a.toInt + 0; omega⟩, ⟨b, rfl, by decide, by show b.toInt = b.toInt + 0; omega⟩, trivial⟩ rfl ?_
  · intro v q hq
    match v, hq with
    | 0, hq => cases hq; exact fI_ok a
    | 1, hq => cases hq; exact fI_ok b
    | v + 2, hq => cases hq
  · intro v h' p q
    obtain ⟨r, e, -⟩ := qp_int (lo := -2147483648) (hi := 2147483647) q (by decide +kernel)
    exact e ▸ hQ r h' p
theorem pc_294 {X : Scr} {dp : Nat} {h : Hp} {Q : Option Value → Hp → Prop} (hD : cD k_294 ≤ dp) (hi : INVC h) (hQ : ∀ (r : Int32) h', INVC h' → Q (some (.int r)) h') : Ends X dp 71 0 (entL (mMaxL 71) [.ref 0]) [] h Q := by
  refine st_plainC (T := k_294) 294 (by rfl) (by decide +kernel) (by decide +kernel) (by decide +kernel) (ρ := fun _ => 0) hD hi ?_ ⟨⟨0, rfl, List.mem_singleton.mpr rfl⟩, trivial⟩ rfl ?_
  · intro v q hq
    match v, hq with
    | v, hq => cases hq
  · intro v h' p q
    obtain ⟨r, e, -⟩ := qp_int (lo := -2147483648) (hi := 2147483647) q (by decide +kernel)
    exact e ▸ hQ r h' p
theorem pc_296 {X : Scr} {dp : Nat} {h : Hp} {Q : Option Value → Hp → Prop} (a b : Int32) (hD : cD k_296 ≤ dp) (hi : INVC h) (hQ : ∀ (r : Int32) h', INVC h' → Q (some (.int r)) h') : Ends X dp 72 0 (entL (mMaxL 72) [.ref 0, .int a, .int b]) [] h Q := by
  refine st_plainC (T := k_296) 296 (by rfl) (by decide +kernel) (by decide +kernel) (by decide +kernel) (ρ := fun v => if v = 0 then a.toInt else b.toInt) hD hi ?_ ⟨⟨0, rfl, List.mem_singleton.mpr rfl⟩, ⟨a, rfl, by decide, by show a.toInt = a.toInt + 0; omega⟩, ⟨b, rfl, by decide, by show b.toInt = b.toInt + 0; omega⟩, trivial⟩ rfl ?_
  · intro v q hq
    match v, hq with
    | 0, hq => cases hq; exact fI_ok a
    | 1, hq => cases hq; exact fI_ok b
    | v + 2, hq => cases hq
  · intro v h' p q
    obtain ⟨r, e, -⟩ := qp_int (lo := -2147483648) (hi := 2147483647) q (by decide +kernel)
    exact e ▸ hQ r h' p
theorem pc_297 {X : Scr} {dp : Nat} {h : Hp} {Q : Option Value → Hp → Prop} (a : Int32) (hD : cD k_297 ≤ dp) (hi : INVC h) (hQ : ∀ (r : Int32) h', INVC h' → Q (some (.int r)) h') : Ends X dp 73 0 (entL (mMaxL 73) [.ref 0, .int a]) [] h Q := by
  refine st_plainC (T := k_297) 297 (by rfl) (by decide +kernel) (by decide +kernel) (by decide +kernel) (ρ := fun _ => a.toInt) hD hi ?_ ⟨⟨0, rfl, List.mem_singleton.mpr rfl⟩, ⟨a, rfl, by decide, by show a.toInt = a.toInt + 0; omega⟩, trivial⟩ rfl ?_
  · intro v q hq
    match v, hq with
    | 0, hq => cases hq; exact fI_ok a
    | v + 1, hq => cases hq
  · intro v h' p q
    obtain ⟨r, e, -⟩ := qp_int (lo := -2147483648) (hi := 2147483647) q (by decide +kernel)
    exact e ▸ hQ r h' p
theorem pc_298 {X : Scr} {dp : Nat} {h : Hp} {Q : Option Value → Hp → Prop} (a : Int32) (hD : cD k_298 ≤ dp) (hi : INVC h) (hQ : ∀ (r : Int32) h', INVC h' → Q (some (.int r)) h') : Ends X dp 74 0 (entL (mMaxL 74) [.ref 0, .int a]) [] h Q := by
  refine st_plainC (T := k_298) 298 (by rfl) (by decide +kernel) (by decide +kernel) (by decide +kernel) (ρ := fun _ => a.toInt) hD hi ?_ ⟨⟨0, rfl, List.mem_singleton.mpr rfl⟩, ⟨a, rfl, by decide, by show a.toInt = a.toInt + 0; omega⟩, trivial⟩ rfl ?_
  · intro v q hq
    match v, hq with
    | 0, hq => cases hq; exact fI_ok a
    | v + 1, hq => cases hq
  · intro v h' p q
    obtain ⟨r, e, -⟩ := qp_int (lo := -2147483648) (hi := 2147483647) q (by decide +kernel)
    exact e ▸ hQ r h' p
theorem pc_300 {X : Scr} {dp : Nat} {h : Hp} {Q : Option Value → Hp → Prop} (a b : Int32) (hD : cD k_300 ≤ dp) (hi : INVC h) (hQ : ∀ (r : Int32) h', INVC h' → Q (some (.int r)) h') : Ends X dp 75 0 (entL (mMaxL 75) [.ref 0, .int a, .int b]) [] h Q := by
  refine st_plainC (T := k_300) 300 (by rfl) (by decide +kernel) (by decide +kernel) (by decide +kernel) (ρ := fun v => if v = 0 then a.toInt else b.toInt) hD hi ?_ ⟨⟨0, rfl, List.mem_singleton.mpr rfl⟩, ⟨a, rfl, by decide, by show a.toInt = a.toInt + 0; omega⟩, ⟨b, rfl, by decide, by show b.toInt = b.toInt + 0; omega⟩, trivial⟩ rfl ?_
  · intro v q hq
    match v, hq with
    | 0, hq => cases hq; exact fI_ok a
    | 1, hq => cases hq; exact fI_ok b
    | v + 2, hq => cases hq
  · intro v h' p q
    obtain ⟨r, e, -⟩ := qp_int (lo := -2147483648) (hi := 2147483647) q (by decide +kernel)
    exact e ▸ hQ r h' p
theorem pc_301 {X : Scr} {dp : Nat} {h : Hp} {Q : Option Value → Hp → Prop} (a : Int32) (hD : cD k_301 ≤ dp) (hi : INVC h) (hQ : ∀ (r : Int32) h', INVC h' → Q (some (.int r)) h') : Ends X dp 76 0 (entL (mMaxL 76) [.ref 0, .int a]) [] h Q := by
  refine st_plainC (T := k_301) 301 (by rfl) (by decide +kernel) (by decide +kernel) (by decide +kernel) (ρ := fun _ => a.toInt) hD hi ?_ ⟨⟨0, rfl, List.mem_singleton.mpr rfl⟩, ⟨a, rfl, by decide, by show a.toInt = a.toInt + 0; omega⟩, trivial⟩ rfl ?_
  · intro v q hq
    match v, hq with
    | 0, hq => cases hq; exact fI_ok a
    | v + 1, hq => cases hq
  · intro v h' p q
    obtain ⟨r, e, -⟩ := qp_int (lo := -2147483648) (hi := 2147483647) q (by decide +kernel)
    exact e ▸ hQ r h' p
theorem pc_302 {X : Scr} {dp : Nat} {h : Hp} {Q : Option Value → Hp → Prop} (a : Int32) (hD : cD k_302 ≤ dp) (hi : INVC h) (hQ : ∀ (r : Int32) h', INVC h' → Q (some (.int r)) h') : Ends X dp 77 0 (entL (mMaxL 77) [.ref 0, .int a]) [] h Q := by
  refine st_plainC (T := k_302) 302 (by rfl) (by decide +kernel) (by decide +kernel) (by decide +kernel) (ρ := fun _ => a.toInt) hD hi ?_ ⟨⟨0, rfl, List.mem_singleton.mpr rfl⟩, ⟨a, rfl, by decide, by show a.toInt = a.toInt + 0; omega⟩, trivial⟩ rfl ?_
  · intro v q hq
    match v, hq with
    | 0, hq => cases hq; exact fI_ok a
    | v + 1, hq => cases hq
  · intro v h' p q
    obtain ⟨r, e, -⟩ := qp_int (lo := -2147483648) (hi := 2147483647) q (by decide +kernel)
    exact e ▸ hQ r h' p
theorem pc_303 {X : Scr} {dp : Nat} {h : Hp} {Q : Option Value → Hp → Prop} (hD : cD k_303 ≤ dp) (hi : INVC h) (hQ : ∀ (r : Int32) h', INVC h' → Q (some (.int r)) h') : Ends X dp 78 0 (entL (mMaxL 78) [.ref 0]) [] h Q := by
  refine st_plainC (T := k_303) 303 (by rfl) (by decide +kernel) (by decide +kernel) (by decide +kernel) (ρ := fun _ => 0) hD hi ?_ ⟨⟨0, rfl, List.mem_singleton.mpr rfl⟩, trivial⟩ rfl ?_
  · intro v q hq
    match v, hq with
    | v, hq => cases hq
  · intro v h' p q
    obtain ⟨r, e, -⟩ := qp_int (lo := -2147483648) (hi := 2147483647) q (by decide +kernel)
    exact e ▸ hQ r h' p
theorem pc_304 {X : Scr} {dp : Nat} {h : Hp} {Q : Option Value → Hp → Prop} (a : Int32) (hD : cD k_304 ≤ dp) (hi : INVC h) (hQ : ∀ (r : Int32) h', INVC h' → Q (some (.int r)) h') : Ends X dp 79 0 (entL (mMaxL 79) [.ref 0, .int a]) [] h Q := by
  refine st_plainC (T := k_304) 304 (by rfl) (by decide +kernel) (by decide +kernel) (by decide +kernel) (ρ := fun _ => a.toInt) hD hi ?_ ⟨⟨0, rfl, List.mem_singleton.mpr rfl⟩, ⟨a, rfl, by decide, by show a.toInt = a.toInt + 0; omega⟩, trivial⟩ rfl ?_
  · intro v q hq
    match v, hq with
    | 0, hq => cases hq; exact fI_ok a
    | v + 1, hq => cases hq
  · intro v h' p q
    obtain ⟨r, e, -⟩ := qp_int (lo := -2147483648) (hi := 2147483647) q (by decide +kernel)
    exact e ▸ hQ r h' p
theorem pc_306 {X : Scr} {dp : Nat} {h : Hp} {Q : Option Value → Hp → Prop} (a : Int32) (hD : cD k_306 ≤ dp) (hi : INVC h) (hQ : ∀ (r : Int32) h', INVC h' → Q (some (.int r)) h') : Ends X dp 80 0 (entL (mMaxL 80) [.ref 0, .int a]) [] h Q := by
  refine st_plainC (T := k_306) 306 (by rfl) (by decide +kernel) (by decide +kernel) (by decide +kernel) (ρ := fun _ => a.toInt) hD hi ?_ ⟨⟨0, rfl, List.mem_singleton.mpr rfl⟩, ⟨a, rfl, by decide, by show a.toInt = a.toInt + 0; omega⟩, trivial⟩ rfl ?_
  · intro v q hq
    match v, hq with
    | 0, hq => cases hq; exact fI_ok a
    | v + 1, hq => cases hq
  · intro v h' p q
    obtain ⟨r, e, -⟩ := qp_int (lo := -2147483648) (hi := 2147483647) q (by decide +kernel)
    exact e ▸ hQ r h' p
theorem pc_307 {X : Scr} {dp : Nat} {h : Hp} {Q : Option Value → Hp → Prop} (a b : Int32) (hD : cD k_307 ≤ dp) (hi : INVC h) (hQ : ∀ (r : Int32) h', INVC h' → Q (some (.int r)) h') : Ends X dp 81 0 (entL (mMaxL 81) [.ref 0, .int a, .int b]) [] h Q := by
  refine st_plainC (T := k_307) 307 (by rfl) (by decide +kernel) (by decide +kernel) (by decide +kernel) (ρ := fun v => if v = 0 then a.toInt else b.toInt) hD hi ?_ ⟨⟨0, rfl, List.mem_singleton.mpr rfl⟩, ⟨a, rfl, by decide, by show a.toInt = a.toInt + 0; omega⟩, ⟨b, rfl, by decide, by show b.toInt = b.toInt + 0; omega⟩, trivial⟩ rfl ?_
  · intro v q hq
    match v, hq with
    | 0, hq => cases hq; exact fI_ok a
    | 1, hq => cases hq; exact fI_ok b
    | v + 2, hq => cases hq
  · intro v h' p q
    obtain ⟨r, e, -⟩ := qp_int (lo := -2147483648) (hi := 2147483647) q (by decide +kernel)
    exact e ▸ hQ r h' p
theorem pc_308 {X : Scr} {dp : Nat} {h : Hp} {Q : Option Value → Hp → Prop} (a : Int32) (hD : cD k_308 ≤ dp) (hi : INVC h) (hQ : ∀ (r : Int32) h', INVC h' → Q (some (.int r)) h') : Ends X dp 83 0 (entL (mMaxL 83) [.ref 0, .int a]) [] h Q := by
  refine st_plainC (T := k_308) 308 (by rfl) (by decide +kernel) (by decide +kernel) (by decide +kernel) (ρ := fun _ => a.toInt) hD hi ?_ ⟨⟨0, rfl, List.mem_singleton.mpr rfl⟩, ⟨a, rfl, by decide, by show a.toInt = a.toInt + 0; omega⟩, trivial⟩ rfl ?_
  · intro v q hq
    match v, hq with
    | 0, hq => cases hq; exact fI_ok a
    | v + 1, hq => cases hq
  · intro v h' p q
    obtain ⟨r, e, -⟩ := qp_int (lo := -2147483648) (hi := 2147483647) q (by decide +kernel)
    exact e ▸ hQ r h' p
theorem pc_309 {X : Scr} {dp : Nat} {h : Hp} {Q : Option Value → Hp → Prop} (a b c : Int32) (hD : cD k_309 ≤ dp) (hi : INVC h) (hQ : ∀ (r : Int64) h', INVC h' → Q (some (.long r)) h') : Ends X dp 84 0 (entL (mMaxL 84) [.ref 0, .int a, .int b, .int c]) [] h Q := by
  refine st_plainC (T := k_309) 309 (by rfl) (by decide +kernel) (by decide +kernel) (by decide +kernel) (ρ := fun v => if v = 0 then a.toInt else if v = 1 then b.toInt else c.toInt) hD hi ?_ ⟨⟨0, rfl, List.mem_singleton.mpr rfl⟩, ⟨a, rfl, by decide, by show a.toInt = a.toInt + 0; omega⟩, ⟨b, rfl, by decide, by show b.toInt = b.toInt + 0; omega⟩, ⟨c, rfl, by decide, by show c.toInt = c.toInt + 0; omega⟩, trivial⟩ rfl ?_
  · intro v q hq
    match v, hq with
    | 0, hq => cases hq; exact fI_ok a
    | 1, hq => cases hq; exact fI_ok b
    | 2, hq => cases hq; exact fI_ok c
    | v + 3, hq => cases hq
  · intro v h' p q
    obtain ⟨r, e⟩ := qp_lng q (by decide +kernel)
    exact e ▸ hQ r h' p
theorem pc_310 {X : Scr} {dp : Nat} {h : Hp} {Q : Option Value → Hp → Prop} (a b : Int32) (hD : cD k_310 ≤ dp) (hi : INVC h) (hQ : ∀ (r : Int64) h', INVC h' → Q (some (.long r)) h') : Ends X dp 85 0 (entL (mMaxL 85) [.ref 0, .int a, .int b]) [] h Q := by
  refine st_plainC (T := k_310) 310 (by rfl) (by decide +kernel) (by decide +kernel) (by decide +kernel) (ρ := fun v => if v = 0 then a.toInt else b.toInt) hD hi ?_ ⟨⟨0, rfl, List.mem_singleton.mpr rfl⟩, ⟨a, rfl, by decide, by show a.toInt = a.toInt + 0; omega⟩, ⟨b, rfl, by decide, by show b.toInt = b.toInt + 0; omega⟩, trivial⟩ rfl ?_
  · intro v q hq
    match v, hq with
    | 0, hq => cases hq; exact fI_ok a
    | 1, hq => cases hq; exact fI_ok b
    | v + 2, hq => cases hq
  · intro v h' p q
    obtain ⟨r, e⟩ := qp_lng q (by decide +kernel)
    exact e ▸ hQ r h' p
theorem pc_311 {X : Scr} {dp : Nat} {h : Hp} {Q : Option Value → Hp → Prop} (hD : cD k_311 ≤ dp) (hi : INVC h) (hQ : ∀ (r : Int32) h', INVC h' → Q (some (.int r)) h') : Ends X dp 87 0 (entL (mMaxL 87) [.ref 0]) [] h Q := by
  refine st_plainC (T := k_311) 311 (by rfl) (by decide +kernel) (by decide +kernel) (by decide +kernel) (ρ := fun _ => 0) hD hi ?_ ⟨⟨0, rfl, List.mem_singleton.mpr rfl⟩, trivial⟩ rfl ?_
  · intro v q hq
    match v, hq with
    | v, hq => cases hq
  · intro v h' p q
    obtain ⟨r, e, -⟩ := qp_int (lo := -2147483648) (hi := 2147483647) q (by decide +kernel)
    exact e ▸ hQ r h' p
theorem pc_312 {X : Scr} {dp : Nat} {h : Hp} {Q : Option Value → Hp → Prop} (a b : Int32) (hD : cD k_312 ≤ dp) (hi : INVC h) (hQ : ∀ (r : Int32) h', INVC h' → Q (some (.int r)) h') : Ends X dp 149 0 (entL (mMaxL 149) [.ref 93, .int a, .int b]) [] h Q := by
  refine st_plainC (T := k_312) 312 (by rfl) (by decide +kernel) (by decide +kernel) (by decide +kernel) (ρ := fun v => if v = 0 then a.toInt else b.toInt) hD hi ?_ ⟨⟨93, rfl, List.mem_singleton.mpr rfl⟩, ⟨a, rfl, by decide, by show a.toInt = a.toInt + 0; omega⟩, ⟨b, rfl, by decide, by show b.toInt = b.toInt + 0; omega⟩, trivial⟩ rfl ?_
  · intro v q hq
    match v, hq with
    | 0, hq => cases hq; exact fI_ok a
    | 1, hq => cases hq; exact fI_ok b
    | v + 2, hq => cases hq
  · intro v h' p q
    obtain ⟨r, e, -⟩ := qp_int (lo := -2147483648) (hi := 2147483647) q (by decide +kernel)
    exact e ▸ hQ r h' p
theorem pc_317 {X : Scr} {dp : Nat} {h : Hp} {Q : Option Value → Hp → Prop} (a : Int32) (hD : cD k_317 ≤ dp) (hi : INVC h) (hQ : ∀ (r : Int32) h', INVC h' → Q (some (.int r)) h') : Ends X dp 165 0 (entL (mMaxL 165) [.ref 93, .int a]) [] h Q := by
  refine st_plainC (T := k_317) 317 (by rfl) (by decide +kernel) (by decide +kernel) (by decide +kernel) (ρ := fun _ => a.toInt) hD hi ?_ ⟨⟨93, rfl, List.mem_singleton.mpr rfl⟩, ⟨a, rfl, by decide, by show a.toInt = a.toInt + 0; omega⟩, trivial⟩ rfl ?_
  · intro v q hq
    match v, hq with
    | 0, hq => cases hq; exact fI_ok a
    | v + 1, hq => cases hq
  · intro v h' p q
    obtain ⟨r, e, -⟩ := qp_int (lo := -2147483648) (hi := 2147483647) q (by decide +kernel)
    exact e ▸ hQ r h' p
theorem pc_318 {X : Scr} {dp : Nat} {h : Hp} {Q : Option Value → Hp → Prop} (a b : Int32) (hD : cD k_318 ≤ dp) (hi : INVC h) (hQ : ∀ (r : Int32) h', INVC h' → Q (some (.int r)) h') : Ends X dp 166 0 (entL (mMaxL 166) [.ref 93, .int a, .int b]) [] h Q := by
  refine st_plainC (T := k_318) 318 (by rfl) (by decide +kernel) (by decide +kernel) (by decide +kernel) (ρ := fun v => if v = 0 then a.toInt else b.toInt) hD hi ?_ ⟨⟨93, rfl, List.mem_singleton.mpr rfl⟩, ⟨a, rfl, by decide, by show a.toInt = a.toInt + 0; omega⟩, ⟨b, rfl, by decide, by show b.toInt = b.toInt + 0; omega⟩, trivial⟩ rfl ?_
  · intro v q hq
    match v, hq with
    | 0, hq => cases hq; exact fI_ok a
    | 1, hq => cases hq; exact fI_ok b
    | v + 2, hq => cases hq
  · intro v h' p q
    obtain ⟨r, e, -⟩ := qp_int (lo := -2147483648) (hi := 2147483647) q (by decide +kernel)
    exact e ▸ hQ r h' p
theorem pc_319 {X : Scr} {dp : Nat} {h : Hp} {Q : Option Value → Hp → Prop} (a : Int32) (hD : cD k_319 ≤ dp) (hi : INVC h) (hQ : ∀ (r : Int32) h', INVC h' → Q (some (.int r)) h') : Ends X dp 167 0 (entL (mMaxL 167) [.ref 93, .int a]) [] h Q := by
  refine st_plainC (T := k_319) 319 (by rfl) (by decide +kernel) (by decide +kernel) (by decide +kernel) (ρ := fun _ => a.toInt) hD hi ?_ ⟨⟨93, rfl, List.mem_singleton.mpr rfl⟩, ⟨a, rfl, by decide, by show a.toInt = a.toInt + 0; omega⟩, trivial⟩ rfl ?_
  · intro v q hq
    match v, hq with
    | 0, hq => cases hq; exact fI_ok a
    | v + 1, hq => cases hq
  · intro v h' p q
    obtain ⟨r, e, -⟩ := qp_int (lo := -2147483648) (hi := 2147483647) q (by decide +kernel)
    exact e ▸ hQ r h' p
theorem pc_320 {X : Scr} {dp : Nat} {h : Hp} {Q : Option Value → Hp → Prop} (a : Int32) (hD : cD k_320 ≤ dp) (hi : INVC h) (hQ : ∀ (r : Int32) h', INVC h' → Q (some (.int r)) h') : Ends X dp 168 0 (entL (mMaxL 168) [.ref 93, .int a]) [] h Q := by
  refine st_plainC (T := k_320) 320 (by rfl) (by decide +kernel) (by decide +kernel) (by decide +kernel) (ρ := fun _ => a.toInt) hD hi ?_ ⟨⟨93, rfl, List.mem_singleton.mpr rfl⟩, ⟨a, rfl, by decide, by show a.toInt = a.toInt + 0; omega⟩, trivial⟩ rfl ?_
  · intro v q hq
    match v, hq with
    | 0, hq => cases hq; exact fI_ok a
    | v + 1, hq => cases hq
  · intro v h' p q
    obtain ⟨r, e, -⟩ := qp_int (lo := -2147483648) (hi := 2147483647) q (by decide +kernel)
    exact e ▸ hQ r h' p
theorem pc_321 {X : Scr} {dp : Nat} {h : Hp} {Q : Option Value → Hp → Prop} (hD : cD k_321 ≤ dp) (hi : INVC h) (hQ : ∀ (r : Int32) h', INVC h' → Q (some (.int r)) h') : Ends X dp 169 0 (entL (mMaxL 169) [.ref 93]) [] h Q := by
  refine st_plainC (T := k_321) 321 (by rfl) (by decide +kernel) (by decide +kernel) (by decide +kernel) (ρ := fun _ => 0) hD hi ?_ ⟨⟨93, rfl, List.mem_singleton.mpr rfl⟩, trivial⟩ rfl ?_
  · intro v q hq
    match v, hq with
    | v, hq => cases hq
  · intro v h' p q
    obtain ⟨r, e, -⟩ := qp_int (lo := -2147483648) (hi := 2147483647) q (by decide +kernel)
    exact e ▸ hQ r h' p
theorem pc_323 {X : Scr} {dp : Nat} {h : Hp} {Q : Option Value → Hp → Prop} (a : Int32) (hD : cD k_323 ≤ dp) (hi : INVC h) (hQ : ∀ (r : Int32) h', INVC h' → Q (some (.int r)) h') : Ends X dp 176 0 (entL (mMaxL 176) [.ref 93, .int a]) [] h Q := by
  refine st_plainC (T := k_323) 323 (by rfl) (by decide +kernel) (by decide +kernel) (by decide +kernel) (ρ := fun _ => a.toInt) hD hi ?_ ⟨⟨93, rfl, List.mem_singleton.mpr rfl⟩, ⟨a, rfl, by decide, by show a.toInt = a.toInt + 0; omega⟩, trivial⟩ rfl ?_
  · intro v q hq
    match v, hq with
    | 0, hq => cases hq; exact fI_ok a
    | v + 1, hq => cases hq
  · intro v h' p q
    obtain ⟨r, e, -⟩ := qp_int (lo := -2147483648) (hi := 2147483647) q (by decide +kernel)
    exact e ▸ hQ r h' p
theorem pc_325 {X : Scr} {dp : Nat} {h : Hp} {Q : Option Value → Hp → Prop} (a b c : Int32) (hD : cD k_325 ≤ dp) (hi : INVC h) (hQ : ∀ (r : Int64) h', INVC h' → Q (some (.long r)) h') : Ends X dp 179 0 (entL (mMaxL 179) [.ref 93, .int a, .int b, .int c]) [] h Q := by
  refine st_plainC (T := k_325) 325 (by rfl) (by decide +kernel) (by decide +kernel) (by decide +kernel) (ρ := fun v => if v = 0 then a.toInt else if v = 1 then b.toInt else c.toInt) hD hi ?_ ⟨⟨93, rfl, List.mem_singleton.mpr rfl⟩, ⟨a, rfl, by decide, by show a.toInt = a.toInt + 0; omega⟩, ⟨b, rfl, by decide, by show b.toInt = b.toInt + 0; omega⟩, ⟨c, rfl, by decide, by show c.toInt = c.toInt + 0; omega⟩, trivial⟩ rfl ?_
  · intro v q hq
    match v, hq with
    | 0, hq => cases hq; exact fI_ok a
    | 1, hq => cases hq; exact fI_ok b
    | 2, hq => cases hq; exact fI_ok c
    | v + 3, hq => cases hq
  · intro v h' p q
    obtain ⟨r, e⟩ := qp_lng q (by decide +kernel)
    exact e ▸ hQ r h' p
theorem pc_56 {X : Scr} {dp : Nat} {h : Hp} {Q : Option Value → Hp → Prop} (a b : Int32) (h1 : 0 ≤ b.toInt) (h2 : b.toInt ≤ 1) (hD : cD k_56 ≤ dp) (hi : INVC h) (hQ : ∀ (r : Int32) h', INVC h' → Q (some (.int r)) h') : Ends X dp 66 0 (entL (mMaxL 66) [.ref 0, .int a, .int b]) [] h Q := by
  refine st_plainC (T := k_56) 56 (by rfl) (by decide +kernel) (by decide +kernel) (by decide +kernel) (ρ := fun v => if v = 0 then a.toInt else b.toInt) hD hi (bo2 h1 h2) ⟨⟨0, rfl, List.mem_singleton.mpr rfl⟩, ⟨a, rfl, by decide, by show a.toInt = a.toInt + 0; omega⟩, ⟨b, rfl, by decide, by show b.toInt = b.toInt + 0; omega⟩, trivial⟩ rfl ?_
  intro v h' p q
  obtain ⟨r, e, -⟩ := qp_int (lo := -2147483648) (hi := 2147483647) q (by decide +kernel)
  exact e ▸ hQ r h' p
theorem pc_229 {X : Scr} {dp : Nat} {h : Hp} {Q : Option Value → Hp → Prop} (a b : Int32) (h1 : 0 ≤ b.toInt) (h2 : b.toInt ≤ 1) (hD : cD k_229 ≤ dp) (hi : INVC h) (hQ : ∀ (r : Int32) h', INVC h' → Q (some (.int r)) h') : Ends X dp 116 0 (entL (mMaxL 116) [.ref 93, .int a, .int b]) [] h Q := by
  refine st_plainC (T := k_229) 229 (by rfl) (by decide +kernel) (by decide +kernel) (by decide +kernel) (ρ := fun v => if v = 0 then a.toInt else b.toInt) hD hi (bo2 h1 h2) ⟨⟨93, rfl, List.mem_singleton.mpr rfl⟩, ⟨a, rfl, by decide, by show a.toInt = a.toInt + 0; omega⟩, ⟨b, rfl, by decide, by show b.toInt = b.toInt + 0; omega⟩, trivial⟩ rfl ?_
  intro v h' p q
  obtain ⟨r, e, -⟩ := qp_int (lo := -2147483648) (hi := 2147483647) q (by decide +kernel)
  exact e ▸ hQ r h' p
theorem shout_c {X : Scr} {dp : Nat} {h : Hp} {Q : Option Value → Hp → Prop} (hD : cD k_314 ≤ dp) (hi : INVC h) (hQ : ∀ (r : Int32) h', INVC h' → Q (some (.int r)) h') : Ends X dp 159 0 (entL (mMaxL 159) [.ref 93]) [] h Q := by
  refine st_shoutC (T := k_314) 314 (by rfl) (by decide +kernel) (by decide +kernel) (by decide +kernel) (by decide +kernel) (ρ := fun _ => (h.2.1 93 1).toInt) hD hi ?_ ⟨⟨93, rfl, List.mem_singleton.mpr rfl⟩, trivial⟩ ?_ ?_
  · intro v q hq
    match v, hq with
    | 0, hq => cases hq; exact ⟨lo931 hi.1.1, hi.1.1.2.2.2.1⟩
    | v + 1, hq => cases hq
  · intro q hq
    cases hq with
    | head => exact ⟨⟨by decide, by show (h.2.1 93 1).toInt = (h.2.1 93 1).toInt + 0; omega⟩, cls93⟩
    | tail _ t => cases t
  · intro v h' a b
    obtain ⟨r, e, -⟩ := qp_int (lo := -3) (hi := 127) b (by decide +kernel)
    exact e ▸ hQ r h' a
theorem looked_c {X : Scr} {dp : Nat} {h : Hp} {Q : Option Value → Hp → Prop} (hD : cD k_327 ≤ dp) (hi : INVC h) (hQ : ∀ (r : Int32) h', INVC h' → Q (some (.int r)) h') : Ends X dp 182 0 (entL (mMaxL 182) [.ref 93]) [] h Q := by
  refine st_shoutC (T := k_327) 327 (by rfl) (by decide +kernel) (by decide +kernel) (by decide +kernel) (by decide +kernel) (ρ := fun _ => (h.2.1 93 1).toInt) hD hi ?_ ⟨⟨93, rfl, List.mem_singleton.mpr rfl⟩, trivial⟩ ?_ ?_
  · intro v q hq
    match v, hq with
    | 0, hq => cases hq; exact ⟨lo931 hi.1.1, hi.1.1.2.2.2.1⟩
    | v + 1, hq => cases hq
  · intro q hq
    cases hq with
    | head => exact ⟨⟨by decide, by show (h.2.1 93 1).toInt = (h.2.1 93 1).toInt + 0; omega⟩, cls93⟩
    | tail _ t => cases t
  · intro v h' a b
    obtain ⟨r, e, -⟩ := qp_int (lo := -100) (hi := 127) b (by decide +kernel)
    exact e ▸ hQ r h' a
theorem on_c {X : Scr} {dp : Nat} {h : Hp} {Q : Option Value → Hp → Prop} (a b : Int32) (hD : cD k_315 ≤ dp) (hi : INVC h) (hQ : ∀ (r : Int32) h', INVC h' → Q (some (.int r)) h') : Ends X dp 162 0 (entL (mMaxL 162) [.ref 93, .int a, .int b]) [] h Q := by
  refine st_shoutC (T := k_315) 315 (by rfl) (by decide +kernel) (by decide +kernel) (by decide +kernel) (by decide +kernel) (ρ := fun v => if v = 0 then a.toInt else if v = 1 then b.toInt else (h.2.1 93 1).toInt) hD hi (bo3 (lo931 hi.1.1) hi.1.1.2.2.2.1) ⟨⟨93, rfl, List.mem_singleton.mpr rfl⟩, ⟨a, rfl, by decide, by show a.toInt = a.toInt + 0; omega⟩, ⟨b, rfl, by decide, by show b.toInt = b.toInt + 0; omega⟩, trivial⟩ ?_ ?_
  · intro q hq
    cases hq with
    | head => exact ⟨⟨by decide, by show (h.2.1 93 1).toInt = (h.2.1 93 1).toInt + 0; omega⟩, cls93⟩
    | tail _ t => cases t
  · intro v h' a b
    obtain ⟨r, e, -⟩ := qp_int (lo := -2) (hi := 960) b (by decide +kernel)
    exact e ▸ hQ r h' a
theorem last_c {X : Scr} {dp : Nat} {h : Hp} {Q : Option Value → Hp → Prop} (a : Int32) (hD : cD k_316 ≤ dp) (hi : INVC h) (hQ : ∀ (r : Int32) h', INVC h' → Q (some (.int r)) h') : Ends X dp 164 0 (entL (mMaxL 164) [.ref 93, .int a]) [] h Q := by
  refine st_shoutC (T := k_316) 316 (by rfl) (by decide +kernel) (by decide +kernel) (by decide +kernel) (by decide +kernel) (ρ := fun v => if v = 0 then a.toInt else (h.2.1 93 1).toInt) hD hi ?_ ⟨⟨93, rfl, List.mem_singleton.mpr rfl⟩, ⟨a, rfl, by decide, by show a.toInt = a.toInt + 0; omega⟩, trivial⟩ ?_ ?_
  · intro v q hq
    match v, hq with
    | 0, hq => cases hq; exact i32r a
    | 1, hq => cases hq; exact ⟨lo931 hi.1.1, hi.1.1.2.2.2.1⟩
    | v + 2, hq => cases hq
  · intro q hq
    cases hq with
    | head => exact ⟨⟨by decide, by show (h.2.1 93 1).toInt = (h.2.1 93 1).toInt + 0; omega⟩, cls93⟩
    | tail _ t => cases t
  · intro v h' a b
    obtain ⟨r, e, -⟩ := qp_int (lo := -5) (hi := 30) b (by decide +kernel)
    exact e ▸ hQ r h' a
theorem mean_c {X : Scr} {dp : Nat} {h : Hp} {Q : Option Value → Hp → Prop} (a b : Int32) (hD : cD k_326 ≤ dp) (hi : INVC h) (hQ : ∀ (r : Int64) h', INVC h' → Q (some (.long r)) h') : Ends X dp 180 0 (entL (mMaxL 180) [.ref 93, .int a, .int b]) [] h Q := by
  refine st_shoutC (T := k_326) 326 (by rfl) (by decide +kernel) (by decide +kernel) (by decide +kernel) (by decide +kernel) (ρ := fun v => if v = 0 then a.toInt else if v = 1 then b.toInt else (h.2.1 93 1).toInt) hD hi (bo3 (lo931 hi.1.1) hi.1.1.2.2.2.1) ⟨⟨93, rfl, List.mem_singleton.mpr rfl⟩, ⟨a, rfl, by decide, by show a.toInt = a.toInt + 0; omega⟩, ⟨b, rfl, by decide, by show b.toInt = b.toInt + 0; omega⟩, trivial⟩ ?_ ?_
  · intro q hq
    cases hq with
    | head => exact ⟨⟨by decide, by show (h.2.1 93 1).toInt = (h.2.1 93 1).toInt + 0; omega⟩, cls93⟩
    | tail _ t => cases t
  · intro v h' a b
    obtain ⟨r, e⟩ := qp_lng b (by decide +kernel)
    exact e ▸ hQ r h' a
theorem alone_c {X : Scr} {dp : Nat} {h : Hp} {Q : Option Value → Hp → Prop} (w : Int32) (hd : 40 ≤ dp) (hi : INVC h) (hQ : ∀ (r : Int32) h', INVC h' → Q (some (.int r)) h') : Ends X (dp + 1) 170 0 [.ref 93, .int w, .retAddr 0, .retAddr 0] [] h Q :=
  alone_f w hd hi.1.1 (fun r h' a f => hQ r h' ⟨⟨a, EQV_f (W := WAL) (by decide) f hi.1.2⟩, EQC_f (W := WAL) hi.1.1.1 (by decide) f hi.2⟩)
theorem spread_c {X : Scr} {dp : Nat} {h : Hp} {Q : Option Value → Hp → Prop} (k : Int32) (hd : 40 ≤ dp) (hi : INVC h) (hQ : ∀ (r : Int32) h', INVC h' → Q (some (.int r)) h') : Ends X (dp + 1 + 1 + 1) 173 0 [.ref 93, .int k, .retAddr 0, .retAddr 0, .retAddr 0, .retAddr 0, .retAddr 0] [] h Q :=
  spread_s k hd hi.1.1.1 hi.1.1.2.1 (by rw [hi.1.1.2.2.1]; rfl) (fun r h' a b _ => hQ r h' ⟨⟨INV_fr (W := WSP) (by decide) a b hi.1.1, EQV_f (W := WSP) (by decide) b hi.1.2⟩, EQC_f (W := WSP) hi.1.1.1 (by decide) b hi.2⟩)
theorem behind_c {X : Scr} {dp : Nat} {h : Hp} {Q : Option Value → Hp → Prop} (p o : Int32) (hd : 40 ≤ dp) (hi : INVC h) (hQ : ∀ (r : Int32) h', INVC h' → Q (some (.int r)) h') : Ends X (dp + 1) 174 0 [.ref 93, .int p, .int o, .retAddr 0, .retAddr 0] [] h Q :=
  behind_s p o hd hi.1.1.1 hi.1.1.2.1 (fun r h' a b => hQ r h' ⟨⟨INV_fr (W := WBH) (by decide) a b hi.1.1, EQV_f (W := WBH) (by decide) b hi.1.2⟩, EQC_f (W := WBH) hi.1.1.1 (by decide) b hi.2⟩)
section CP2
variable {X : Scr} {dp : Nat} {h h0 : Hp} {Q : Option Value → Hp → Prop}
theorem row_pairC (p a n : Int32) (hi : INVC h) {K : Hp → Int32 → Int32 → Prop} (hK : ∀ r h', INVC h' → K h' r r) (hQ : ∀ r h1, HI h1 → REF X (dp + 1 + 1) 117 [.ref 93, .int p, .int a, .int n, .retAddr 0] K r h1 → Q (some (.int r)) h1) : Ends X (dp + 1 + 1) 67 0 [.ref 0, .int p, .int a, .int n, .retAddr 0] [] h Q :=
  row_pair p a n hi.1 (fun r h' a f => hK r h' ⟨a, EQC_f (W := WRW) hi.1.1.1 (by decide) f hi.2⟩) hQ
theorem see_pairC (a : Int32) (hi : INVC h) {K : Hp → Int32 → Int32 → Prop} (hK : ∀ r h', INVC h' → K h' r r) (hQ : ∀ r h1, HI h1 → REF X (dp + 1 + 1) 175 [.ref 93, .int a, .retAddr 0] K r h1 → Q (some (.int r)) h1) : Ends X (dp + 1 + 1) 82 0 [.ref 0, .int a, .retAddr 0] [] h Q :=
  see_pair a hi.1 (fun r h' a f => hK r h' ⟨a, EQC_f (W := WSE) hi.1.1.1 (by decide) f hi.2⟩) hQ
theorem book_pairC (a : Int32) (hi : INVC h) {K : Hp → Int32 → Int32 → Prop} (hK : ∀ r h', INVC h' → K h' r r) (hQ : ∀ r h1, HI h1 → REF X (dp + 1 + 1) 181 [.ref 93, .int a] K r h1 → Q (some (.int r)) h1) : Ends X (dp + 1 + 1) 86 0 [.ref 0, .int a] [] h Q :=
  book_pair a hi.1 (fun r h' a f => hK r h' ⟨a, EQC_f (W := WBO) hi.1.1.1 (by decide) f hi.2⟩) hQ
theorem tape_pairC (t s n : Int32) (hi : INVC h) {K : Hp → Int32 → Int32 → Prop} (hK : ∀ r h', INVC h' → K h' r r) (hQ : ∀ r h1, HI h1 → REF X (dp + 1 + 1) 199 [.ref 93, .int t, .int s, .int n, .retAddr 0] K r h1 → Q (some (.int r)) h1) : Ends X (dp + 1 + 1) 95 0 [.ref 0, .int t, .int s, .int n] [] h Q :=
  tape_pair t s n hi.1 (fun r h' a f => hK r h' ⟨a, EQC_f (W := WTA) hi.1.1.1 (by decide) f hi.2⟩) hQ
theorem item_pairC (t i : Int32) (v : Int64) (hi : INVC h) {K : Hp → Int32 → Int32 → Prop} (hK : ∀ r h', INVC h' → K h' r r) (hQ : ∀ r h1, HI h1 → REF X (dp + 1 + 1) 201 [.ref 93, .int t, .int i, .long v, .retAddr 0] K r h1 → Q (some (.int r)) h1) : Ends X (dp + 1 + 1) 96 0 [.ref 0, .int t, .int i, .long v, .retAddr 0] [] h Q :=
  item_pair t i v hi.1 (fun r h' a f => hK r h' ⟨a, EQC_f (W := WIT) hi.1.1.1 (by decide) f hi.2⟩) hQ
theorem shift_pairC (t i o j n : Int32) (hi : INVC h) {K : Hp → Int32 → Int32 → Prop} (hK : ∀ r h', INVC h' → K h' r r) (hQ : ∀ r h1, HI h1 → REF X (dp + 1 + 1) 203 [.ref 93, .int t, .int i, .int o, .int j, .int n, .retAddr 0] K r h1 → Q (some (.int r)) h1) : Ends X (dp + 1 + 1) 98 0 [.ref 0, .int t, .int i, .int o, .int j, .int n] [] h Q :=
  shift_pair t i o j n hi.1 (fun r h' a f => hK r h' ⟨a, EQC_f (W := WSF) hi.1.1.1 (by decide) f hi.2⟩) hQ
theorem read_pairC (t i : Int32) (hi : INVC h) {K : Hp → Int64 → Int64 → Prop} (hK : ∀ r h', INVC h' → K h' r r) (hQ : ∀ r h1, HI h1 → REFL X (dp + 1 + 1) 202 [.ref 93, .int t, .int i] K r h1 → Q (some (.long r)) h1) : Ends X (dp + 1 + 1) 97 0 [.ref 0, .int t, .int i] [] h Q :=
  read_pair t i hi.1 (fun r h' a f => hK r h' ⟨a, EQC_f (W := []) hi.1.1.1 (by decide) f hi.2⟩) hQ
theorem act_pairC (p a x : Int32) (hd : 8 ≤ dp) (hi : INVC h) {K : Hp → Int32 → Int32 → Prop} (hK : ∀ r h', INVC h' → K h' r r) (hQ : ∀ r h1, HI h1 → REF X dp 194 [.ref 93, .int p, .int a, .int x] K r h1 → Q (some (.int r)) h1) : Ends X dp 91 0 [.ref 0, .int p, .int a, .int x] [] h Q :=
  act_pair p a x hd hi.1 (fun r h' a f => hK r h' ⟨a, EQC_f (W := WAC) hi.1.1.1 (by decide) f hi.2⟩) hQ
theorem trace_pairC (i : Int32) (hi : INVC h) {K : Hp → Int32 → Int32 → Prop} (hK : ∀ r h', INVC h' → K h' r r) (hQ : ∀ r h1, HI h1 → REF X (dp + 1) 195 [.ref 93, .int i] K r h1 → Q (some (.int r)) h1) : Ends X (dp + 1) 92 0 [.ref 0, .int i] [] h Q :=
  trace_pair i hi.1 (fun r h' a f => hK r h' ⟨a, EQC_f (W := []) hi.1.1.1 (by decide) f hi.2⟩) hQ
theorem taken_pairC (p k : Int32) (hi : INVC h) {K : Hp → Int32 → Int32 → Prop} (hK : ∀ r h', INVC h' → K h' r r) (hQ : ∀ r h1, HI h1 → REF X (dp + 1 + 1) 196 [.ref 93, .int p, .int k, .retAddr 0] K r h1 → Q (some (.int r)) h1) : Ends X (dp + 1 + 1) 93 0 [.ref 0, .int p, .int k, .retAddr 0, .retAddr 0, .retAddr 0] [] h Q :=
  taken_pair p k hi.1 (fun r h' a f => hK r h' ⟨a, EQC_f (W := []) hi.1.1.1 (by decide) f hi.2⟩) hQ
theorem per_pairC (k v l p s : Int32) (hi : INVC h) {K : Hp → Int32 → Int32 → Prop} (hK : ∀ r h', INVC h' → K h' r r) (hQ : ∀ r h1, HI h1 → REF X (dp + 1) 114 [.ref 93, .int k, .int v, .int l, .int p, .int s, .retAddr 0] K r h1 → Q (some (.int r)) h1) : Ends X (dp + 1) 63 0 [.ref 0, .int k, .int v, .int l, .int p, .int s] [] h Q :=
  per_pairE k v l p s hi.1 (fun r h' a f => hK r h' ⟨a, EQC_f (W := WPJ) hi.1.1.1 (by decide) f hi.2⟩) hQ
theorem img_pairC (hi : INVC h) {K : Hp → Int32 → Int32 → Prop} (hK : ∀ r h', INVC h' → K h' r r) (hQ : ∀ r h1, HI h1 → REF X (dp + 1) 184 [.ref 93, .retAddr 0] K r h1 → Q (some (.int r)) h1) : Ends X (dp + 1) 89 0 [.ref 0] [] h Q :=
  img_pairE hi.1 (fun r h' a f p q => hK r h' ⟨a, EQC_g (W := WIM) hi.1.1.1 (by decide) f hi.2 (by rw [frI f (by rfl), frI f (by rfl)]; exact hi.2.2.2.2.2.1) (by rw [p, q]; exact hi.2.2.2.2.2.1)⟩) hQ
theorem und_pairC (hi : INVC h) {K : Hp → Int32 → Int32 → Prop} (hK : ∀ r h', INVC h' → K h' r r) (hQ : ∀ r h1, HI h1 → REF X (dp + 1) 185 [.ref 93, .retAddr 0] K r h1 → Q (some (.int r)) h1) : Ends X (dp + 1) 90 0 [.ref 0] [] h Q :=
  und_pairE hi.1 (fun r h' a f p => hK r h' (by
    rcases p with rfl | ⟨p, q⟩
    · exact ⟨a, hi.2⟩
    · exact ⟨a, EQC_g (W := WUN) hi.1.1.1 (by decide) f hi.2 (by rw [p, q]; exact hi.2.2.2.2.2.2.1) (by rw [frI f (by rfl), frI f (by rfl)]; exact hi.2.2.2.2.2.2.1)⟩)) hQ
end CP2
theorem ltr_ok : ((List.range 14).all (fun j => decide ((hI0.2.1 108 j).toInt = [114, 101, 97, 99, 104, 104, 111, 108, 100, 100, 111, 100, 103, 101].getD j 0))) = true := by decide +kernel
theorem txt_ok : (eqB hI0 45 100 100 && decide (hI0.2.1 44 1 = hI0.2.1 93 11) && decide (hI0.2.1 0 6 = hI0.2.1 93 9) && decide (hI0.2.1 93 9 = 0) && decide (hI0.2.1 1 12 = hI0.2.1 93 10) && decide (hI0.2.1 9 12 = hI0.2.1 93 45)) = true := by decide +kernel
set_option maxRecDepth 20000 in
theorem out_100 : ∀ a : Nat, (a = 45 ∨ a = 100) → ∀ j : Nat, 100 ≤ j → hI0.2.1 a j = 0 := by
  have hs := mk2_eq.2
  have zb : ∀ a k, outB hI0 a k → hI0.2.1 a k = 0 ∧ hI0.2.2.1 a k = 0 ∧ hI0.2.2.2 a k = none := hI_ZB
  intro a ha j hj
  refine (zb a j ?_).1
  unfold outB
  rw [hs]
  rcases ha with rfl | rfl
  · have e : SHl[45]? = some (.inl (0, 100)) := by decide +kernel
    rw [e]
    exact hj
  · have e : SHl[100]? = some (.inl (0, 100)) := by decide +kernel
    rw [e]
    exact hj
theorem INVC_0 : INVC hI0 := by
  have f := txt_ok
  simp only [Bool.and_eq_true, decide_eq_true_eq] at f
  obtain ⟨⟨⟨⟨⟨f1, f2⟩, f3⟩, f4⟩, f5⟩, f6⟩ := f
  refine ⟨INVE_0, f2, fun j => ?_, f3, fun i hi => ?_, f5, f6, fun j hj => of_decide_eq_true (List.all_eq_true.mp ltr_ok j (List.mem_range.mpr hj))⟩
  · by_cases c : j < 100
    · exact eqB_ok f1 j c
    · rw [out_100 45 (Or.inl rfl) j (by omega), out_100 100 (Or.inr rfl) j (by omega)]
  · rw [f4] at hi
    exact absurd hi (Nat.not_lt_zero _)
