/-! The calls that touch nothing of what both sides hold alike. -/
theorem st_plainE {T : Ctr} (i : Nat) (hT : (TBL.take 328)[i]? = some T) (hd : disW SUPI (cW T) = true) (hd2 : disW SUPE (cW T) = true) {X : Scr} {dp : Nat} {ρ : Nat → Int} {h : Hp} {as : List Value} {Q : Option Value → Hp → Prop} (hD : cD T ≤ dp) (hi : INVE h) (hb : bOK ρ (cB T)) (ha : al2 (vm (cB T).length ρ) (cA T) as) (hF : cF T = []) (hQ : ∀ v h', INVE h' → Qpost (cB T).length ρ (cP T) v h' → Q v h') : Ends X dp (cY T) 0 (entL (mMaxL (cY T)) as) [] h Q :=
  (gd1 i hT X dp ρ h as hD hi.1.1 (fun _ => hi.1.2.1) hb ha (by rw [hF]; intro q hq; cases hq)).mono (fun v h' q => hQ v h' ⟨INV_fr hd q.1 q.2.1 hi.1, EQV_f hd2 q.2.1 hi.2⟩ q.2.2)
theorem st_shoutE {T : Ctr} (i : Nat) (hT : (TBL.take 328)[i]? = some T) (hd : disW SUPS (cW T) = true) (hd2 : disW SUPE (cW T) = true) (hp : (cP T).all (fun P => P.2.2.1.any (fun q => q.1 == 93 && q.2.1 == 1 && rngOK (trg P.1 q.2.2) (0, 999))) = true) {X : Scr} {dp : Nat} {ρ : Nat → Int} {h : Hp} {as : List Value} {Q : Option Value → Hp → Prop} (hD : cD T ≤ dp) (hi : INVE h) (hb : bOK ρ (cB T)) (ha : al2 (vm (cB T).length ρ) (cA T) as) (hF : ∀ q ∈ cF T, tOK (cB T).length ρ q.2.2 (h.2.1 q.1 q.2.1).toInt ∧ ∃ ci, SHl[q.1]? = some (.inr ci)) (hQ : ∀ v h', INVE h' → Qpost (cB T).length ρ (cP T) v h' → Q v h') : Ends X dp (cY T) 0 (entL (mMaxL (cY T)) as) [] h Q :=
  (gd1 i hT X dp ρ h as hD hi.1.1 (fun _ => hi.1.2.1) hb ha hF).mono (fun v h' q => hQ v h' ⟨INV_frS hd q.1 q.2.1 (qp_fact q.2.2 hp).2 hi.1, EQV_f hd2 q.2.1 hi.2⟩ q.2.2)
theorem pe_55 {X : Scr} {dp : Nat} {h : Hp} {Q : Option Value → Hp → Prop} (a b c : Int32) (hD : cD k_55 ≤ dp) (hi : INVE h) (hQ : ∀ (r : Int32) h', INVE h' → Q (some (.int r)) h') : Ends X dp 65 0 (entL (mMaxL 65) [.ref 0, .int a, .int b, .int c]) [] h Q := by
  refine st_plainE (T := k_55) 55 (by rfl) (by decide +kernel) (by decide +kernel) (ρ := fun v => if v = 0 then a.toInt else if v = 1 then b.toInt else c.toInt) hD hi ?_ ⟨⟨0, rfl, List.mem_singleton.mpr rfl⟩, ⟨a, rfl, by decide, by show a.toInt = a.toInt + 0; omega⟩, ⟨b, rfl, by decide, by show b.toInt = b.toInt + 0; omega⟩, ⟨c, rfl, by decide, by show c.toInt = c.toInt + 0; omega⟩, trivial⟩ rfl ?_
  · intro v q hq
    match v, hq with
    | 0, hq => cases hq; exact fI_ok a
    | 1, hq => cases hq; exact fI_ok b
    | 2, hq => cases hq; exact fI_ok c
    | v + 3, hq => cases hq
  · intro v h' p q
    obtain ⟨r, e, -⟩ := qp_int (lo := -2147483648) (hi := 2147483647) q (by decide +kernel)
    exact e ▸ hQ r h' p
theorem pe_59 {X : Scr} {dp : Nat} {h : Hp} {Q : Option Value → Hp → Prop} (a : Int32) (hD : cD k_59 ≤ dp) (hi : INVE h) (hQ : ∀ (r : Int32) h', INVE h' → Q (some (.int r)) h') : Ends X dp 68 0 (entL (mMaxL 68) [.ref 0, .int a]) [] h Q := by
  refine st_plainE (T := k_59) 59 (by rfl) (by decide +kernel) (by decide +kernel) (ρ := fun _ => a.toInt) hD hi ?_ ⟨⟨0, rfl, List.mem_singleton.mpr rfl⟩, ⟨a, rfl, by decide, by show a.toInt = a.toInt + 0; omega⟩, trivial⟩ rfl ?_
  · intro v q hq
    match v, hq with
    | 0, hq => cases hq; exact fI_ok a
    | v + 1, hq => cases hq
  · intro v h' p q
    obtain ⟨r, e, -⟩ := qp_int (lo := -2147483648) (hi := 2147483647) q (by decide +kernel)
    exact e ▸ hQ r h' p
theorem pe_145 {X : Scr} {dp : Nat} {h : Hp} {Q : Option Value → Hp → Prop} (hD : cD k_145 ≤ dp) (hi : INVE h) (hQ : ∀ (r : Int32) h', INVE h' → Q (some (.int r)) h') : Ends X dp 69 0 (entL (mMaxL 69) [.ref 0]) [] h Q := by
  refine st_plainE (T := k_145) 145 (by rfl) (by decide +kernel) (by decide +kernel) (ρ := fun _ => 0) hD hi ?_ ⟨⟨0, rfl, List.mem_singleton.mpr rfl⟩, trivial⟩ rfl ?_
  · intro v q hq
    match v, hq with
    | v, hq => cases hq
  · intro v h' p q
    obtain ⟨r, e, -⟩ := qp_int (lo := -2147483648) (hi := 2147483647) q (by decide +kernel)
    exact e ▸ hQ r h' p
theorem pe_148 {X : Scr} {dp : Nat} {h : Hp} {Q : Option Value → Hp → Prop} (a : Int32) (hD : cD k_148 ≤ dp) (hi : INVE h) (hQ : ∀ (r : Int32) h', INVE h' → Q (some (.int r)) h') : Ends X dp 70 0 (entL (mMaxL 70) [.ref 0, .int a]) [] h Q := by
  refine st_plainE (T := k_148) 148 (by rfl) (by decide +kernel) (by decide +kernel) (ρ := fun _ => a.toInt) hD hi ?_ ⟨⟨0, rfl, List.mem_singleton.mpr rfl⟩, ⟨a, rfl, by decide, by show a.toInt = a.toInt + 0; omega⟩, trivial⟩ rfl ?_
  · intro v q hq
    match v, hq with
    | 0, hq => cases hq; exact fI_ok a
    | v + 1, hq => cases hq
  · intro v h' p q
    obtain ⟨r, e, -⟩ := qp_int (lo := -2147483648) (hi := 2147483647) q (by decide +kernel)
    exact e ▸ hQ r h' p
theorem pe_159 {X : Scr} {dp : Nat} {h : Hp} {Q : Option Value → Hp → Prop} (a b : Int32) (hD : cD k_159 ≤ dp) (hi : INVE h) (hQ : ∀ (r : Int32) h', INVE h' → Q (some (.int r)) h') : Ends X dp 88 0 (entL (mMaxL 88) [.ref 0, .int a, .int b]) [] h Q := by
  refine st_plainE (T := k_159) 159 (by rfl) (by decide +kernel) (by decide +kernel) (ρ := fun v => if v = 0 then a.toInt else b.toInt) hD hi ?_ ⟨⟨0, rfl, List.mem_singleton.mpr rfl⟩, ⟨a, rfl, by decide, by show a.toInt = a.toInt + 0; omega⟩, ⟨b, rfl, by decide, by show b.toInt = b.toInt + 0; omega⟩, trivial⟩ rfl ?_
  · intro v q hq
    match v, hq with
    | 0, hq => cases hq; exact fI_ok a
    | 1, hq => cases hq; exact fI_ok b
    | v + 2, hq => cases hq
  · intro v h' p q
    obtain ⟨r, e, -⟩ := qp_int (lo := -2147483648) (hi := 2147483647) q (by decide +kernel)
    exact e ▸ hQ r h' p
theorem pe_211 {X : Scr} {dp : Nat} {h : Hp} {Q : Option Value → Hp → Prop} (a : Int32) (hD : cD k_211 ≤ dp) (hi : INVE h) (hQ : ∀ (r : Int32) h', INVE h' → Q (some (.int r)) h') : Ends X dp 94 0 (entL (mMaxL 94) [.ref 0, .int a]) [] h Q := by
  refine st_plainE (T := k_211) 211 (by rfl) (by decide +kernel) (by decide +kernel) (ρ := fun _ => a.toInt) hD hi ?_ ⟨⟨0, rfl, List.mem_singleton.mpr rfl⟩, ⟨a, rfl, by decide, by show a.toInt = a.toInt + 0; omega⟩, trivial⟩ rfl ?_
  · intro v q hq
    match v, hq with
    | 0, hq => cases hq; exact fI_ok a
    | v + 1, hq => cases hq
  · intro v h' p q
    obtain ⟨r, e, -⟩ := qp_int (lo := -2147483648) (hi := 2147483647) q (by decide +kernel)
    exact e ▸ hQ r h' p
theorem pe_228 {X : Scr} {dp : Nat} {h : Hp} {Q : Option Value → Hp → Prop} (a b c : Int32) (hD : cD k_228 ≤ dp) (hi : INVE h) (hQ : ∀ (r : Int32) h', INVE h' → Q (some (.int r)) h') : Ends X dp 115 0 (entL (mMaxL 115) [.ref 93, .int a, .int b, .int c]) [] h Q := by
  refine st_plainE (T := k_228) 228 (by rfl) (by decide +kernel) (by decide +kernel) (ρ := fun v => if v = 0 then a.toInt else if v = 1 then b.toInt else c.toInt) hD hi ?_ ⟨⟨93, rfl, List.mem_singleton.mpr rfl⟩, ⟨a, rfl, by decide, by show a.toInt = a.toInt + 0; omega⟩, ⟨b, rfl, by decide, by show b.toInt = b.toInt + 0; omega⟩, ⟨c, rfl, by decide, by show c.toInt = c.toInt + 0; omega⟩, trivial⟩ rfl ?_
  · intro v q hq
    match v, hq with
    | 0, hq => cases hq; exact fI_ok a
    | 1, hq => cases hq; exact fI_ok b
    | 2, hq => cases hq; exact fI_ok c
    | v + 3, hq => cases hq
  · intro v h' p q
    obtain ⟨r, e, -⟩ := qp_int (lo := -2147483648) (hi := 2147483647) q (by decide +kernel)
    exact e ▸ hQ r h' p
theorem pe_233 {X : Scr} {dp : Nat} {h : Hp} {Q : Option Value → Hp → Prop} (a : Int32) (hD : cD k_233 ≤ dp) (hi : INVE h) (hQ : ∀ (r : Int32) h', INVE h' → Q (some (.int r)) h') : Ends X dp 118 0 (entL (mMaxL 118) [.ref 93, .int a]) [] h Q := by
  refine st_plainE (T := k_233) 233 (by rfl) (by decide +kernel) (by decide +kernel) (ρ := fun _ => a.toInt) hD hi ?_ ⟨⟨93, rfl, List.mem_singleton.mpr rfl⟩, ⟨a, rfl, by decide, by show a.toInt = a.toInt + 0; omega⟩, trivial⟩ rfl ?_
  · intro v q hq
    match v, hq with
    | 0, hq => cases hq; exact fI_ok a
    | v + 1, hq => cases hq
  · intro v h' p q
    obtain ⟨r, e, -⟩ := qp_int (lo := -2147483648) (hi := 2147483647) q (by decide +kernel)
    exact e ▸ hQ r h' p
theorem pe_235 {X : Scr} {dp : Nat} {h : Hp} {Q : Option Value → Hp → Prop} (a : Int32) (hD : cD k_235 ≤ dp) (hi : INVE h) (hQ : ∀ (r : Int32) h', INVE h' → Q (some (.int r)) h') : Ends X dp 150 0 (entL (mMaxL 150) [.ref 93, .int a]) [] h Q := by
  refine st_plainE (T := k_235) 235 (by rfl) (by decide +kernel) (by decide +kernel) (ρ := fun _ => a.toInt) hD hi ?_ ⟨⟨93, rfl, List.mem_singleton.mpr rfl⟩, ⟨a, rfl, by decide, by show a.toInt = a.toInt + 0; omega⟩, trivial⟩ rfl ?_
  · intro v q hq
    match v, hq with
    | 0, hq => cases hq; exact fI_ok a
    | v + 1, hq => cases hq
  · intro v h' p q
    obtain ⟨r, e, -⟩ := qp_int (lo := -2147483648) (hi := 2147483647) q (by decide +kernel)
    exact e ▸ hQ r h' p
theorem pe_246 {X : Scr} {dp : Nat} {h : Hp} {Q : Option Value → Hp → Prop} (a b : Int32) (hD : cD k_246 ≤ dp) (hi : INVE h) (hQ : ∀ (r : Int32) h', INVE h' → Q (some (.int r)) h') : Ends X dp 183 0 (entL (mMaxL 183) [.ref 93, .int a, .int b]) [] h Q := by
  refine st_plainE (T := k_246) 246 (by rfl) (by decide +kernel) (by decide +kernel) (ρ := fun v => if v = 0 then a.toInt else b.toInt) hD hi ?_ ⟨⟨93, rfl, List.mem_singleton.mpr rfl⟩, ⟨a, rfl, by decide, by show a.toInt = a.toInt + 0; omega⟩, ⟨b, rfl, by decide, by show b.toInt = b.toInt + 0; omega⟩, trivial⟩ rfl ?_
  · intro v q hq
    match v, hq with
    | 0, hq => cases hq; exact fI_ok a
    | 1, hq => cases hq; exact fI_ok b
    | v + 2, hq => cases hq
  · intro v h' p q
    obtain ⟨r, e, -⟩ := qp_int (lo := -2147483648) (hi := 2147483647) q (by decide +kernel)
    exact e ▸ hQ r h' p
theorem pe_262 {X : Scr} {dp : Nat} {h : Hp} {Q : Option Value → Hp → Prop} (a : Int32) (hD : cD k_262 ≤ dp) (hi : INVE h) (hQ : ∀ (r : Int32) h', INVE h' → Q (some (.int r)) h') : Ends X dp 197 0 (entL (mMaxL 197) [.ref 93, .int a]) [] h Q := by
  refine st_plainE (T := k_262) 262 (by rfl) (by decide +kernel) (by decide +kernel) (ρ := fun _ => a.toInt) hD hi ?_ ⟨⟨93, rfl, List.mem_singleton.mpr rfl⟩, ⟨a, rfl, by decide, by show a.toInt = a.toInt + 0; omega⟩, trivial⟩ rfl ?_
  · intro v q hq
    match v, hq with
    | 0, hq => cases hq; exact fI_ok a
    | v + 1, hq => cases hq
  · intro v h' p q
    obtain ⟨r, e, -⟩ := qp_int (lo := -2147483648) (hi := 2147483647) q (by decide +kernel)
    exact e ▸ hQ r h' p
theorem pe_293 {X : Scr} {dp : Nat} {h : Hp} {Q : Option Value → Hp → Prop} (a b : Int32) (hD : cD k_293 ≤ dp) (hi : INVE h) (hQ : ∀ (r : Int32) h', INVE h' → Q (some (.int r)) h') : Ends X dp 64 0 (entL (mMaxL 64) [.ref 0, .int a, .int b]) [] h Q := by
  refine st_plainE (T := k_293) 293 (by rfl) (by decide +kernel) (by decide +kernel) (ρ := fun v => if v = 0 then a.toInt else b.toInt) hD hi ?_ ⟨⟨0, rfl, List.mem_singleton.mpr rfl⟩, ⟨a, rfl, by decide, by show a.toInt = a.toInt + 0; omega⟩, ⟨b, rfl, by decide, by show b.toInt = b.toInt + 0; omega⟩, trivial⟩ rfl ?_
  · intro v q hq
    match v, hq with
    | 0, hq => cases hq; exact fI_ok a
    | 1, hq => cases hq; exact fI_ok b
    | v + 2, hq => cases hq
  · intro v h' p q
    obtain ⟨r, e, -⟩ := qp_int (lo := -2147483648) (hi := 2147483647) q (by decide +kernel)
    exact e ▸ hQ r h' p
theorem pe_294 {X : Scr} {dp : Nat} {h : Hp} {Q : Option Value → Hp → Prop} (hD : cD k_294 ≤ dp) (hi : INVE h) (hQ : ∀ (r : Int32) h', INVE h' → Q (some (.int r)) h') : Ends X dp 71 0 (entL (mMaxL 71) [.ref 0]) [] h Q := by
  refine st_plainE (T := k_294) 294 (by rfl) (by decide +kernel) (by decide +kernel) (ρ := fun _ => 0) hD hi ?_ ⟨⟨0, rfl, List.mem_singleton.mpr rfl⟩, trivial⟩ rfl ?_
  · intro v q hq
    match v, hq with
    | v, hq => cases hq
  · intro v h' p q
    obtain ⟨r, e, -⟩ := qp_int (lo := -2147483648) (hi := 2147483647) q (by decide +kernel)
    exact e ▸ hQ r h' p
theorem pe_296 {X : Scr} {dp : Nat} {h : Hp} {Q : Option Value → Hp → Prop} (a b : Int32) (hD : cD k_296 ≤ dp) (hi : INVE h) (hQ : ∀ (r : Int32) h', INVE h' → Q (some (.int r)) h') : Ends X dp 72 0 (entL (mMaxL 72) [.ref 0, .int a, .int b]) [] h Q := by
  refine st_plainE (T := k_296) 296 (by rfl) (by decide +kernel) (by decide +kernel) (ρ := fun v => if v = 0 then a.toInt else b.toInt) hD hi ?_ ⟨⟨0, rfl, List.mem_singleton.mpr rfl⟩, ⟨a, rfl, by decide, by show a.toInt = a.toInt + 0; omega⟩, ⟨b, rfl, by decide, by show b.toInt = b.toInt + 0; omega⟩, trivial⟩ rfl ?_
  · intro v q hq
    match v, hq with
    | 0, hq => cases hq; exact fI_ok a
    | 1, hq => cases hq; exact fI_ok b
    | v + 2, hq => cases hq
  · intro v h' p q
    obtain ⟨r, e, -⟩ := qp_int (lo := -2147483648) (hi := 2147483647) q (by decide +kernel)
    exact e ▸ hQ r h' p
theorem pe_297 {X : Scr} {dp : Nat} {h : Hp} {Q : Option Value → Hp → Prop} (a : Int32) (hD : cD k_297 ≤ dp) (hi : INVE h) (hQ : ∀ (r : Int32) h', INVE h' → Q (some (.int r)) h') : Ends X dp 73 0 (entL (mMaxL 73) [.ref 0, .int a]) [] h Q := by
  refine st_plainE (T := k_297) 297 (by rfl) (by decide +kernel) (by decide +kernel) (ρ := fun _ => a.toInt) hD hi ?_ ⟨⟨0, rfl, List.mem_singleton.mpr rfl⟩, ⟨a, rfl, by decide, by show a.toInt = a.toInt + 0; omega⟩, trivial⟩ rfl ?_
  · intro v q hq
    match v, hq with
    | 0, hq => cases hq; exact fI_ok a
    | v + 1, hq => cases hq
  · intro v h' p q
    obtain ⟨r, e, -⟩ := qp_int (lo := -2147483648) (hi := 2147483647) q (by decide +kernel)
    exact e ▸ hQ r h' p
theorem pe_298 {X : Scr} {dp : Nat} {h : Hp} {Q : Option Value → Hp → Prop} (a : Int32) (hD : cD k_298 ≤ dp) (hi : INVE h) (hQ : ∀ (r : Int32) h', INVE h' → Q (some (.int r)) h') : Ends X dp 74 0 (entL (mMaxL 74) [.ref 0, .int a]) [] h Q := by
  refine st_plainE (T := k_298) 298 (by rfl) (by decide +kernel) (by decide +kernel) (ρ := fun _ => a.toInt) hD hi ?_ ⟨⟨0, rfl, List.mem_singleton.mpr rfl⟩, ⟨a, rfl, by decide, by show a.toInt = a.toInt + 0; omega⟩, trivial⟩ rfl ?_
  · intro v q hq
    match v, hq with
    | 0, hq => cases hq; exact fI_ok a
    | v + 1, hq => cases hq
  · intro v h' p q
    obtain ⟨r, e, -⟩ := qp_int (lo := -2147483648) (hi := 2147483647) q (by decide +kernel)
    exact e ▸ hQ r h' p
theorem pe_300 {X : Scr} {dp : Nat} {h : Hp} {Q : Option Value → Hp → Prop} (a b : Int32) (hD : cD k_300 ≤ dp) (hi : INVE h) (hQ : ∀ (r : Int32) h', INVE h' → Q (some (.int r)) h') : Ends X dp 75 0 (entL (mMaxL 75) [.ref 0, .int a, .int b]) [] h Q := by
  refine st_plainE (T := k_300) 300 (by rfl) (by decide +kernel) (by decide +kernel) (ρ := fun v => if v = 0 then a.toInt else b.toInt) hD hi ?_ ⟨⟨0, rfl, List.mem_singleton.mpr rfl⟩, ⟨a, rfl, by decide, by show a.toInt = a.toInt + 0; omega⟩, ⟨b, rfl, by decide, by show b.toInt = b.toInt + 0; omega⟩, trivial⟩ rfl ?_
  · intro v q hq
    match v, hq with
    | 0, hq => cases hq; exact fI_ok a
    | 1, hq => cases hq; exact fI_ok b
    | v + 2, hq => cases hq
  · intro v h' p q
    obtain ⟨r, e, -⟩ := qp_int (lo := -2147483648) (hi := 2147483647) q (by decide +kernel)
    exact e ▸ hQ r h' p
theorem pe_301 {X : Scr} {dp : Nat} {h : Hp} {Q : Option Value → Hp → Prop} (a : Int32) (hD : cD k_301 ≤ dp) (hi : INVE h) (hQ : ∀ (r : Int32) h', INVE h' → Q (some (.int r)) h') : Ends X dp 76 0 (entL (mMaxL 76) [.ref 0, .int a]) [] h Q := by
  refine st_plainE (T := k_301) 301 (by rfl) (by decide +kernel) (by decide +kernel) (ρ := fun _ => a.toInt) hD hi ?_ ⟨⟨0, rfl, List.mem_singleton.mpr rfl⟩, ⟨a, rfl, by decide, by show a.toInt = a.toInt + 0; omega⟩, trivial⟩ rfl ?_
  · intro v q hq
    match v, hq with
    | 0, hq => cases hq; exact fI_ok a
    | v + 1, hq => cases hq
  · intro v h' p q
    obtain ⟨r, e, -⟩ := qp_int (lo := -2147483648) (hi := 2147483647) q (by decide +kernel)
    exact e ▸ hQ r h' p
theorem pe_302 {X : Scr} {dp : Nat} {h : Hp} {Q : Option Value → Hp → Prop} (a : Int32) (hD : cD k_302 ≤ dp) (hi : INVE h) (hQ : ∀ (r : Int32) h', INVE h' → Q (some (.int r)) h') : Ends X dp 77 0 (entL (mMaxL 77) [.ref 0, .int a]) [] h Q := by
  refine st_plainE (T := k_302) 302 (by rfl) (by decide +kernel) (by decide +kernel) (ρ := fun _ => a.toInt) hD hi ?_ ⟨⟨0, rfl, List.mem_singleton.mpr rfl⟩, ⟨a, rfl, by decide, by show a.toInt = a.toInt + 0; omega⟩, trivial⟩ rfl ?_
  · intro v q hq
    match v, hq with
    | 0, hq => cases hq; exact fI_ok a
    | v + 1, hq => cases hq
  · intro v h' p q
    obtain ⟨r, e, -⟩ := qp_int (lo := -2147483648) (hi := 2147483647) q (by decide +kernel)
    exact e ▸ hQ r h' p
theorem pe_303 {X : Scr} {dp : Nat} {h : Hp} {Q : Option Value → Hp → Prop} (hD : cD k_303 ≤ dp) (hi : INVE h) (hQ : ∀ (r : Int32) h', INVE h' → Q (some (.int r)) h') : Ends X dp 78 0 (entL (mMaxL 78) [.ref 0]) [] h Q := by
  refine st_plainE (T := k_303) 303 (by rfl) (by decide +kernel) (by decide +kernel) (ρ := fun _ => 0) hD hi ?_ ⟨⟨0, rfl, List.mem_singleton.mpr rfl⟩, trivial⟩ rfl ?_
  · intro v q hq
    match v, hq with
    | v, hq => cases hq
  · intro v h' p q
    obtain ⟨r, e, -⟩ := qp_int (lo := -2147483648) (hi := 2147483647) q (by decide +kernel)
    exact e ▸ hQ r h' p
theorem pe_304 {X : Scr} {dp : Nat} {h : Hp} {Q : Option Value → Hp → Prop} (a : Int32) (hD : cD k_304 ≤ dp) (hi : INVE h) (hQ : ∀ (r : Int32) h', INVE h' → Q (some (.int r)) h') : Ends X dp 79 0 (entL (mMaxL 79) [.ref 0, .int a]) [] h Q := by
  refine st_plainE (T := k_304) 304 (by rfl) (by decide +kernel) (by decide +kernel) (ρ := fun _ => a.toInt) hD hi ?_ ⟨⟨0, rfl, List.mem_singleton.mpr rfl⟩, ⟨a, rfl, by decide, by show a.toInt = a.toInt + 0; omega⟩, trivial⟩ rfl ?_
  · intro v q hq
    match v, hq with
    | 0, hq => cases hq; exact fI_ok a
    | v + 1, hq => cases hq
  · intro v h' p q
    obtain ⟨r, e, -⟩ := qp_int (lo := -2147483648) (hi := 2147483647) q (by decide +kernel)
    exact e ▸ hQ r h' p
theorem pe_306 {X : Scr} {dp : Nat} {h : Hp} {Q : Option Value → Hp → Prop} (a : Int32) (hD : cD k_306 ≤ dp) (hi : INVE h) (hQ : ∀ (r : Int32) h', INVE h' → Q (some (.int r)) h') : Ends X dp 80 0 (entL (mMaxL 80) [.ref 0, .int a]) [] h Q := by
  refine st_plainE (T := k_306) 306 (by rfl) (by decide +kernel) (by decide +kernel) (ρ := fun _ => a.toInt) hD hi ?_ ⟨⟨0, rfl, List.mem_singleton.mpr rfl⟩, ⟨a, rfl, by decide, by show a.toInt = a.toInt + 0; omega⟩, trivial⟩ rfl ?_
  · intro v q hq
    match v, hq with
    | 0, hq => cases hq; exact fI_ok a
    | v + 1, hq => cases hq
  · intro v h' p q
    obtain ⟨r, e, -⟩ := qp_int (lo := -2147483648) (hi := 2147483647) q (by decide +kernel)
    exact e ▸ hQ r h' p
theorem pe_307 {X : Scr} {dp : Nat} {h : Hp} {Q : Option Value → Hp → Prop} (a b : Int32) (hD : cD k_307 ≤ dp) (hi : INVE h) (hQ : ∀ (r : Int32) h', INVE h' → Q (some (.int r)) h') : Ends X dp 81 0 (entL (mMaxL 81) [.ref 0, .int a, .int b]) [] h Q := by
  refine st_plainE (T := k_307) 307 (by rfl) (by decide +kernel) (by decide +kernel) (ρ := fun v => if v = 0 then a.toInt else b.toInt) hD hi ?_ ⟨⟨0, rfl, List.mem_singleton.mpr rfl⟩, ⟨a, rfl, by decide, by show a.toInt = a.toInt + 0; omega⟩, ⟨b, rfl, by decide, by show b.toInt = b.toInt + 0; omega⟩, trivial⟩ rfl ?_
  · intro v q hq
    match v, hq with
    | 0, hq => cases hq; exact fI_ok a
    | 1, hq => cases hq; exact fI_ok b
    | v + 2, hq => cases hq
  · intro v h' p q
    obtain ⟨r, e, -⟩ := qp_int (lo := -2147483648) (hi := 2147483647) q (by decide +kernel)
    exact e ▸ hQ r h' p
theorem pe_308 {X : Scr} {dp : Nat} {h : Hp} {Q : Option Value → Hp → Prop} (a : Int32) (hD : cD k_308 ≤ dp) (hi : INVE h) (hQ : ∀ (r : Int32) h', INVE h' → Q (some (.int r)) h') : Ends X dp 83 0 (entL (mMaxL 83) [.ref 0, .int a]) [] h Q := by
  refine st_plainE (T := k_308) 308 (by rfl) (by decide +kernel) (by decide +kernel) (ρ := fun _ => a.toInt) hD hi ?_ ⟨⟨0, rfl, List.mem_singleton.mpr rfl⟩, ⟨a, rfl, by decide, by show a.toInt = a.toInt + 0; omega⟩, trivial⟩ rfl ?_
  · intro v q hq
    match v, hq with
    | 0, hq => cases hq; exact fI_ok a
    | v + 1, hq => cases hq
  · intro v h' p q
    obtain ⟨r, e, -⟩ := qp_int (lo := -2147483648) (hi := 2147483647) q (by decide +kernel)
    exact e ▸ hQ r h' p
theorem pe_309 {X : Scr} {dp : Nat} {h : Hp} {Q : Option Value → Hp → Prop} (a b c : Int32) (hD : cD k_309 ≤ dp) (hi : INVE h) (hQ : ∀ (r : Int64) h', INVE h' → Q (some (.long r)) h') : Ends X dp 84 0 (entL (mMaxL 84) [.ref 0, .int a, .int b, .int c]) [] h Q := by
  refine st_plainE (T := k_309) 309 (by rfl) (by decide +kernel) (by decide +kernel) (ρ := fun v => if v = 0 then a.toInt else if v = 1 then b.toInt else c.toInt) hD hi ?_ ⟨⟨0, rfl, List.mem_singleton.mpr rfl⟩, ⟨a, rfl, by decide, by show a.toInt = a.toInt + 0; omega⟩, ⟨b, rfl, by decide, by show b.toInt = b.toInt + 0; omega⟩, ⟨c, rfl, by decide, by show c.toInt = c.toInt + 0; omega⟩, trivial⟩ rfl ?_
  · intro v q hq
    match v, hq with
    | 0, hq => cases hq; exact fI_ok a
    | 1, hq => cases hq; exact fI_ok b
    | 2, hq => cases hq; exact fI_ok c
    | v + 3, hq => cases hq
  · intro v h' p q
    obtain ⟨r, e⟩ := qp_lng q (by decide +kernel)
    exact e ▸ hQ r h' p
theorem pe_310 {X : Scr} {dp : Nat} {h : Hp} {Q : Option Value → Hp → Prop} (a b : Int32) (hD : cD k_310 ≤ dp) (hi : INVE h) (hQ : ∀ (r : Int64) h', INVE h' → Q (some (.long r)) h') : Ends X dp 85 0 (entL (mMaxL 85) [.ref 0, .int a, .int b]) [] h Q := by
  refine st_plainE (T := k_310) 310 (by rfl) (by decide +kernel) (by decide +kernel) (ρ := fun v => if v = 0 then a.toInt else b.toInt) hD hi ?_ ⟨⟨0, rfl, List.mem_singleton.mpr rfl⟩, ⟨a, rfl, by decide, by show a.toInt = a.toInt + 0; omega⟩, ⟨b, rfl, by decide, by show b.toInt = b.toInt + 0; omega⟩, trivial⟩ rfl ?_
  · intro v q hq
    match v, hq with
    | 0, hq => cases hq; exact fI_ok a
    | 1, hq => cases hq; exact fI_ok b
    | v + 2, hq => cases hq
  · intro v h' p q
    obtain ⟨r, e⟩ := qp_lng q (by decide +kernel)
    exact e ▸ hQ r h' p
theorem pe_311 {X : Scr} {dp : Nat} {h : Hp} {Q : Option Value → Hp → Prop} (hD : cD k_311 ≤ dp) (hi : INVE h) (hQ : ∀ (r : Int32) h', INVE h' → Q (some (.int r)) h') : Ends X dp 87 0 (entL (mMaxL 87) [.ref 0]) [] h Q := by
  refine st_plainE (T := k_311) 311 (by rfl) (by decide +kernel) (by decide +kernel) (ρ := fun _ => 0) hD hi ?_ ⟨⟨0, rfl, List.mem_singleton.mpr rfl⟩, trivial⟩ rfl ?_
  · intro v q hq
    match v, hq with
    | v, hq => cases hq
  · intro v h' p q
    obtain ⟨r, e, -⟩ := qp_int (lo := -2147483648) (hi := 2147483647) q (by decide +kernel)
    exact e ▸ hQ r h' p
theorem pe_312 {X : Scr} {dp : Nat} {h : Hp} {Q : Option Value → Hp → Prop} (a b : Int32) (hD : cD k_312 ≤ dp) (hi : INVE h) (hQ : ∀ (r : Int32) h', INVE h' → Q (some (.int r)) h') : Ends X dp 149 0 (entL (mMaxL 149) [.ref 93, .int a, .int b]) [] h Q := by
  refine st_plainE (T := k_312) 312 (by rfl) (by decide +kernel) (by decide +kernel) (ρ := fun v => if v = 0 then a.toInt else b.toInt) hD hi ?_ ⟨⟨93, rfl, List.mem_singleton.mpr rfl⟩, ⟨a, rfl, by decide, by show a.toInt = a.toInt + 0; omega⟩, ⟨b, rfl, by decide, by show b.toInt = b.toInt + 0; omega⟩, trivial⟩ rfl ?_
  · intro v q hq
    match v, hq with
    | 0, hq => cases hq; exact fI_ok a
    | 1, hq => cases hq; exact fI_ok b
    | v + 2, hq => cases hq
  · intro v h' p q
    obtain ⟨r, e, -⟩ := qp_int (lo := -2147483648) (hi := 2147483647) q (by decide +kernel)
    exact e ▸ hQ r h' p
theorem pe_317 {X : Scr} {dp : Nat} {h : Hp} {Q : Option Value → Hp → Prop} (a : Int32) (hD : cD k_317 ≤ dp) (hi : INVE h) (hQ : ∀ (r : Int32) h', INVE h' → Q (some (.int r)) h') : Ends X dp 165 0 (entL (mMaxL 165) [.ref 93, .int a]) [] h Q := by
  refine st_plainE (T := k_317) 317 (by rfl) (by decide +kernel) (by decide +kernel) (ρ := fun _ => a.toInt) hD hi ?_ ⟨⟨93, rfl, List.mem_singleton.mpr rfl⟩, ⟨a, rfl, by decide, by show a.toInt = a.toInt + 0; omega⟩, trivial⟩ rfl ?_
  · intro v q hq
    match v, hq with
    | 0, hq => cases hq; exact fI_ok a
    | v + 1, hq => cases hq
  · intro v h' p q
    obtain ⟨r, e, -⟩ := qp_int (lo := -2147483648) (hi := 2147483647) q (by decide +kernel)
    exact e ▸ hQ r h' p
theorem pe_318 {X : Scr} {dp : Nat} {h : Hp} {Q : Option Value → Hp → Prop} (a b : Int32) (hD : cD k_318 ≤ dp) (hi : INVE h) (hQ : ∀ (r : Int32) h', INVE h' → Q (some (.int r)) h') : Ends X dp 166 0 (entL (mMaxL 166) [.ref 93, .int a, .int b]) [] h Q := by
  refine st_plainE (T := k_318) 318 (by rfl) (by decide +kernel) (by decide +kernel) (ρ := fun v => if v = 0 then a.toInt else b.toInt) hD hi ?_ ⟨⟨93, rfl, List.mem_singleton.mpr rfl⟩, ⟨a, rfl, by decide, by show a.toInt = a.toInt + 0; omega⟩, ⟨b, rfl, by decide, by show b.toInt = b.toInt + 0; omega⟩, trivial⟩ rfl ?_
  · intro v q hq
    match v, hq with
    | 0, hq => cases hq; exact fI_ok a
    | 1, hq => cases hq; exact fI_ok b
    | v + 2, hq => cases hq
  · intro v h' p q
    obtain ⟨r, e, -⟩ := qp_int (lo := -2147483648) (hi := 2147483647) q (by decide +kernel)
    exact e ▸ hQ r h' p
theorem pe_319 {X : Scr} {dp : Nat} {h : Hp} {Q : Option Value → Hp → Prop} (a : Int32) (hD : cD k_319 ≤ dp) (hi : INVE h) (hQ : ∀ (r : Int32) h', INVE h' → Q (some (.int r)) h') : Ends X dp 167 0 (entL (mMaxL 167) [.ref 93, .int a]) [] h Q := by
  refine st_plainE (T := k_319) 319 (by rfl) (by decide +kernel) (by decide +kernel) (ρ := fun _ => a.toInt) hD hi ?_ ⟨⟨93, rfl, List.mem_singleton.mpr rfl⟩, ⟨a, rfl, by decide, by show a.toInt = a.toInt + 0; omega⟩, trivial⟩ rfl ?_
  · intro v q hq
    match v, hq with
    | 0, hq => cases hq; exact fI_ok a
    | v + 1, hq => cases hq
  · intro v h' p q
    obtain ⟨r, e, -⟩ := qp_int (lo := -2147483648) (hi := 2147483647) q (by decide +kernel)
    exact e ▸ hQ r h' p
theorem pe_320 {X : Scr} {dp : Nat} {h : Hp} {Q : Option Value → Hp → Prop} (a : Int32) (hD : cD k_320 ≤ dp) (hi : INVE h) (hQ : ∀ (r : Int32) h', INVE h' → Q (some (.int r)) h') : Ends X dp 168 0 (entL (mMaxL 168) [.ref 93, .int a]) [] h Q := by
  refine st_plainE (T := k_320) 320 (by rfl) (by decide +kernel) (by decide +kernel) (ρ := fun _ => a.toInt) hD hi ?_ ⟨⟨93, rfl, List.mem_singleton.mpr rfl⟩, ⟨a, rfl, by decide, by show a.toInt = a.toInt + 0; omega⟩, trivial⟩ rfl ?_
  · intro v q hq
    match v, hq with
    | 0, hq => cases hq; exact fI_ok a
    | v + 1, hq => cases hq
  · intro v h' p q
    obtain ⟨r, e, -⟩ := qp_int (lo := -2147483648) (hi := 2147483647) q (by decide +kernel)
    exact e ▸ hQ r h' p
theorem pe_321 {X : Scr} {dp : Nat} {h : Hp} {Q : Option Value → Hp → Prop} (hD : cD k_321 ≤ dp) (hi : INVE h) (hQ : ∀ (r : Int32) h', INVE h' → Q (some (.int r)) h') : Ends X dp 169 0 (entL (mMaxL 169) [.ref 93]) [] h Q := by
  refine st_plainE (T := k_321) 321 (by rfl) (by decide +kernel) (by decide +kernel) (ρ := fun _ => 0) hD hi ?_ ⟨⟨93, rfl, List.mem_singleton.mpr rfl⟩, trivial⟩ rfl ?_
  · intro v q hq
    match v, hq with
    | v, hq => cases hq
  · intro v h' p q
    obtain ⟨r, e, -⟩ := qp_int (lo := -2147483648) (hi := 2147483647) q (by decide +kernel)
    exact e ▸ hQ r h' p
theorem pe_323 {X : Scr} {dp : Nat} {h : Hp} {Q : Option Value → Hp → Prop} (a : Int32) (hD : cD k_323 ≤ dp) (hi : INVE h) (hQ : ∀ (r : Int32) h', INVE h' → Q (some (.int r)) h') : Ends X dp 176 0 (entL (mMaxL 176) [.ref 93, .int a]) [] h Q := by
  refine st_plainE (T := k_323) 323 (by rfl) (by decide +kernel) (by decide +kernel) (ρ := fun _ => a.toInt) hD hi ?_ ⟨⟨93, rfl, List.mem_singleton.mpr rfl⟩, ⟨a, rfl, by decide, by show a.toInt = a.toInt + 0; omega⟩, trivial⟩ rfl ?_
  · intro v q hq
    match v, hq with
    | 0, hq => cases hq; exact fI_ok a
    | v + 1, hq => cases hq
  · intro v h' p q
    obtain ⟨r, e, -⟩ := qp_int (lo := -2147483648) (hi := 2147483647) q (by decide +kernel)
    exact e ▸ hQ r h' p
theorem pe_325 {X : Scr} {dp : Nat} {h : Hp} {Q : Option Value → Hp → Prop} (a b c : Int32) (hD : cD k_325 ≤ dp) (hi : INVE h) (hQ : ∀ (r : Int64) h', INVE h' → Q (some (.long r)) h') : Ends X dp 179 0 (entL (mMaxL 179) [.ref 93, .int a, .int b, .int c]) [] h Q := by
  refine st_plainE (T := k_325) 325 (by rfl) (by decide +kernel) (by decide +kernel) (ρ := fun v => if v = 0 then a.toInt else if v = 1 then b.toInt else c.toInt) hD hi ?_ ⟨⟨93, rfl, List.mem_singleton.mpr rfl⟩, ⟨a, rfl, by decide, by show a.toInt = a.toInt + 0; omega⟩, ⟨b, rfl, by decide, by show b.toInt = b.toInt + 0; omega⟩, ⟨c, rfl, by decide, by show c.toInt = c.toInt + 0; omega⟩, trivial⟩ rfl ?_
  · intro v q hq
    match v, hq with
    | 0, hq => cases hq; exact fI_ok a
    | 1, hq => cases hq; exact fI_ok b
    | 2, hq => cases hq; exact fI_ok c
    | v + 3, hq => cases hq
  · intro v h' p q
    obtain ⟨r, e⟩ := qp_lng q (by decide +kernel)
    exact e ▸ hQ r h' p
theorem pe_56 {X : Scr} {dp : Nat} {h : Hp} {Q : Option Value → Hp → Prop} (a b : Int32) (h1 : 0 ≤ b.toInt) (h2 : b.toInt ≤ 1) (hD : cD k_56 ≤ dp) (hi : INVE h) (hQ : ∀ (r : Int32) h', INVE h' → Q (some (.int r)) h') : Ends X dp 66 0 (entL (mMaxL 66) [.ref 0, .int a, .int b]) [] h Q := by
  refine st_plainE (T := k_56) 56 (by rfl) (by decide +kernel) (by decide +kernel) (ρ := fun v => if v = 0 then a.toInt else b.toInt) hD hi (bo2 h1 h2) ⟨⟨0, rfl, List.mem_singleton.mpr rfl⟩, ⟨a, rfl, by decide, by show a.toInt = a.toInt + 0; omega⟩, ⟨b, rfl, by decide, by show b.toInt = b.toInt + 0; omega⟩, trivial⟩ rfl ?_
  intro v h' p q
  obtain ⟨r, e, -⟩ := qp_int (lo := -2147483648) (hi := 2147483647) q (by decide +kernel)
  exact e ▸ hQ r h' p
theorem pe_229 {X : Scr} {dp : Nat} {h : Hp} {Q : Option Value → Hp → Prop} (a b : Int32) (h1 : 0 ≤ b.toInt) (h2 : b.toInt ≤ 1) (hD : cD k_229 ≤ dp) (hi : INVE h) (hQ : ∀ (r : Int32) h', INVE h' → Q (some (.int r)) h') : Ends X dp 116 0 (entL (mMaxL 116) [.ref 93, .int a, .int b]) [] h Q := by
  refine st_plainE (T := k_229) 229 (by rfl) (by decide +kernel) (by decide +kernel) (ρ := fun v => if v = 0 then a.toInt else b.toInt) hD hi (bo2 h1 h2) ⟨⟨93, rfl, List.mem_singleton.mpr rfl⟩, ⟨a, rfl, by decide, by show a.toInt = a.toInt + 0; omega⟩, ⟨b, rfl, by decide, by show b.toInt = b.toInt + 0; omega⟩, trivial⟩ rfl ?_
  intro v h' p q
  obtain ⟨r, e, -⟩ := qp_int (lo := -2147483648) (hi := 2147483647) q (by decide +kernel)
  exact e ▸ hQ r h' p
theorem shout_e {X : Scr} {dp : Nat} {h : Hp} {Q : Option Value → Hp → Prop} (hD : cD k_314 ≤ dp) (hi : INVE h) (hQ : ∀ (r : Int32) h', INVE h' → Q (some (.int r)) h') : Ends X dp 159 0 (entL (mMaxL 159) [.ref 93]) [] h Q := by
  refine st_shoutE (T := k_314) 314 (by rfl) (by decide +kernel) (by decide +kernel) (by decide +kernel) (ρ := fun _ => (h.2.1 93 1).toInt) hD hi ?_ ⟨⟨93, rfl, List.mem_singleton.mpr rfl⟩, trivial⟩ ?_ ?_
  · intro v q hq
    match v, hq with
    | 0, hq => cases hq; exact ⟨lo931 hi.1, hi.1.2.2.2.1⟩
    | v + 1, hq => cases hq
  · intro q hq
    cases hq with
    | head => exact ⟨⟨by decide, by show (h.2.1 93 1).toInt = (h.2.1 93 1).toInt + 0; omega⟩, cls93⟩
    | tail _ t => cases t
  · intro v h' a b
    obtain ⟨r, e, -⟩ := qp_int (lo := -3) (hi := 127) b (by decide +kernel)
    exact e ▸ hQ r h' a
theorem looked_e {X : Scr} {dp : Nat} {h : Hp} {Q : Option Value → Hp → Prop} (hD : cD k_327 ≤ dp) (hi : INVE h) (hQ : ∀ (r : Int32) h', INVE h' → Q (some (.int r)) h') : Ends X dp 182 0 (entL (mMaxL 182) [.ref 93]) [] h Q := by
  refine st_shoutE (T := k_327) 327 (by rfl) (by decide +kernel) (by decide +kernel) (by decide +kernel) (ρ := fun _ => (h.2.1 93 1).toInt) hD hi ?_ ⟨⟨93, rfl, List.mem_singleton.mpr rfl⟩, trivial⟩ ?_ ?_
  · intro v q hq
    match v, hq with
    | 0, hq => cases hq; exact ⟨lo931 hi.1, hi.1.2.2.2.1⟩
    | v + 1, hq => cases hq
  · intro q hq
    cases hq with
    | head => exact ⟨⟨by decide, by show (h.2.1 93 1).toInt = (h.2.1 93 1).toInt + 0; omega⟩, cls93⟩
    | tail _ t => cases t
  · intro v h' a b
    obtain ⟨r, e, -⟩ := qp_int (lo := -100) (hi := 127) b (by decide +kernel)
    exact e ▸ hQ r h' a
theorem on_e {X : Scr} {dp : Nat} {h : Hp} {Q : Option Value → Hp → Prop} (a b : Int32) (hD : cD k_315 ≤ dp) (hi : INVE h) (hQ : ∀ (r : Int32) h', INVE h' → Q (some (.int r)) h') : Ends X dp 162 0 (entL (mMaxL 162) [.ref 93, .int a, .int b]) [] h Q := by
  refine st_shoutE (T := k_315) 315 (by rfl) (by decide +kernel) (by decide +kernel) (by decide +kernel) (ρ := fun v => if v = 0 then a.toInt else if v = 1 then b.toInt else (h.2.1 93 1).toInt) hD hi (bo3 (lo931 hi.1) hi.1.2.2.2.1) ⟨⟨93, rfl, List.mem_singleton.mpr rfl⟩, ⟨a, rfl, by decide, by show a.toInt = a.toInt + 0; omega⟩, ⟨b, rfl, by decide, by show b.toInt = b.toInt + 0; omega⟩, trivial⟩ ?_ ?_
  · intro q hq
    cases hq with
    | head => exact ⟨⟨by decide, by show (h.2.1 93 1).toInt = (h.2.1 93 1).toInt + 0; omega⟩, cls93⟩
    | tail _ t => cases t
  · intro v h' a b
    obtain ⟨r, e, -⟩ := qp_int (lo := -2) (hi := 960) b (by decide +kernel)
    exact e ▸ hQ r h' a
theorem last_e {X : Scr} {dp : Nat} {h : Hp} {Q : Option Value → Hp → Prop} (a : Int32) (hD : cD k_316 ≤ dp) (hi : INVE h) (hQ : ∀ (r : Int32) h', INVE h' → Q (some (.int r)) h') : Ends X dp 164 0 (entL (mMaxL 164) [.ref 93, .int a]) [] h Q := by
  refine st_shoutE (T := k_316) 316 (by rfl) (by decide +kernel) (by decide +kernel) (by decide +kernel) (ρ := fun v => if v = 0 then a.toInt else (h.2.1 93 1).toInt) hD hi ?_ ⟨⟨93, rfl, List.mem_singleton.mpr rfl⟩, ⟨a, rfl, by decide, by show a.toInt = a.toInt + 0; omega⟩, trivial⟩ ?_ ?_
  · intro v q hq
    match v, hq with
    | 0, hq => cases hq; exact i32r a
    | 1, hq => cases hq; exact ⟨lo931 hi.1, hi.1.2.2.2.1⟩
    | v + 2, hq => cases hq
  · intro q hq
    cases hq with
    | head => exact ⟨⟨by decide, by show (h.2.1 93 1).toInt = (h.2.1 93 1).toInt + 0; omega⟩, cls93⟩
    | tail _ t => cases t
  · intro v h' a b
    obtain ⟨r, e, -⟩ := qp_int (lo := -5) (hi := 30) b (by decide +kernel)
    exact e ▸ hQ r h' a
theorem mean_e {X : Scr} {dp : Nat} {h : Hp} {Q : Option Value → Hp → Prop} (a b : Int32) (hD : cD k_326 ≤ dp) (hi : INVE h) (hQ : ∀ (r : Int64) h', INVE h' → Q (some (.long r)) h') : Ends X dp 180 0 (entL (mMaxL 180) [.ref 93, .int a, .int b]) [] h Q := by
  refine st_shoutE (T := k_326) 326 (by rfl) (by decide +kernel) (by decide +kernel) (by decide +kernel) (ρ := fun v => if v = 0 then a.toInt else if v = 1 then b.toInt else (h.2.1 93 1).toInt) hD hi (bo3 (lo931 hi.1) hi.1.2.2.2.1) ⟨⟨93, rfl, List.mem_singleton.mpr rfl⟩, ⟨a, rfl, by decide, by show a.toInt = a.toInt + 0; omega⟩, ⟨b, rfl, by decide, by show b.toInt = b.toInt + 0; omega⟩, trivial⟩ ?_ ?_
  · intro q hq
    cases hq with
    | head => exact ⟨⟨by decide, by show (h.2.1 93 1).toInt = (h.2.1 93 1).toInt + 0; omega⟩, cls93⟩
    | tail _ t => cases t
  · intro v h' a b
    obtain ⟨r, e⟩ := qp_lng b (by decide +kernel)
    exact e ▸ hQ r h' a
theorem alone_e {X : Scr} {dp : Nat} {h : Hp} {Q : Option Value → Hp → Prop} (w : Int32) (hd : 40 ≤ dp) (hi : INVE h) (hQ : ∀ (r : Int32) h', INVE h' → Q (some (.int r)) h') : Ends X (dp + 1) 170 0 [.ref 93, .int w, .retAddr 0, .retAddr 0] [] h Q :=
  alone_f w hd hi.1 (fun r h' a f => hQ r h' ⟨a, EQV_f (W := WAL) (by decide) f hi.2⟩)
theorem spread_e {X : Scr} {dp : Nat} {h : Hp} {Q : Option Value → Hp → Prop} (k : Int32) (hd : 40 ≤ dp) (hi : INVE h) (hQ : ∀ (r : Int32) h', INVE h' → Q (some (.int r)) h') : Ends X (dp + 1 + 1 + 1) 173 0 [.ref 93, .int k, .retAddr 0, .retAddr 0, .retAddr 0, .retAddr 0, .retAddr 0] [] h Q :=
  spread_s k hd hi.1.1 hi.1.2.1 (by rw [hi.1.2.2.1]; rfl) (fun r h' a b _ => hQ r h' ⟨INV_fr (W := WSP) (by decide) a b hi.1, EQV_f (W := WSP) (by decide) b hi.2⟩)
theorem behind_e {X : Scr} {dp : Nat} {h : Hp} {Q : Option Value → Hp → Prop} (p o : Int32) (hd : 40 ≤ dp) (hi : INVE h) (hQ : ∀ (r : Int32) h', INVE h' → Q (some (.int r)) h') : Ends X (dp + 1) 174 0 [.ref 93, .int p, .int o, .retAddr 0, .retAddr 0] [] h Q :=
  behind_s p o hd hi.1.1 hi.1.2.1 (fun r h' a b => hQ r h' ⟨INV_fr (W := WBH) (by decide) a b hi.1, EQV_f (W := WBH) (by decide) b hi.2⟩)
theorem yard_e {X : Scr} {dp : Nat} {h : Hp} {Q : Option Value → Hp → Prop} (hi : INVE h) (hQ : ∀ (r : Int32) h', INVE h' → Q (some (.int r)) h') : Ends X (dp + 1 + 1 + 1 + 1 + 1 + 1 + 1) 133 0 [.ref 93, .retAddr 0] [] h Q := by
  obtain ⟨hi, hq⟩ := hi
  refine yard_s hi.1 hi.2.1.1 (fun r h' a b c => hQ r h' ⟨?_, EQV_f (W := WY) (by decide) b hq⟩)
  obtain ⟨-, j1, g, s, q, ⟨x1, x2⟩, r1, r2, r3⟩ := hi
  have e : ∀ a k, inW WY a k = false → h'.2.1 a k = h.2.1 a k := fun a k hs => (b a k hs).1
  have er : ∀ a k, inW WY a k = false → h'.2.2.2 a k = h.2.2.2 a k := fun a k hs => (b a k hs).2.2
  refine ⟨a, ⟨c, by rw [e 93 30 rfl]; exact j1.2⟩, by rw [e 93 32 rfl]; exact g, by rw [e 93 1 rfl]; exact s, by rw [e 93 47 rfl]; exact q, ⟨fun i hi => ?_, fun i hi => ?_⟩, ?_, ?_, ?_⟩
  · rw [er 56 i (by simp [inW, WY])]; exact x1 i hi
  · rw [er 38 i (by simp [inW, WY])]; exact x2 i hi
  · rw [e 1 0 rfl, e 93 0 rfl]; exact r1
  · rw [e 9 0 rfl, e 93 46 rfl]; exact r2
  · rw [e 0 2 rfl, e 93 44 rfl]; exact r3
/-! At first. -/
def eqB (h : Hp) (a b n : Nat) : Bool := (List.range n).all (fun j => decide (h.2.1 a j = h.2.1 b j))
theorem eqB_ok {h : Hp} {a b n : Nat} (e : eqB h a b n = true) : eqr h a b n := fun j hj => of_decide_eq_true (List.all_eq_true.mp e j (List.mem_range.mpr hj))
def zB (h : Hp) (a : Nat) : Bool := (List.range 28).all (fun j => decide (h.2.1 a j = 0))
theorem zB_ok {h : Hp} {a : Nat} {s : Int32} (e : zB h a = true) : zrr h a s := fun j _ hj => of_decide_eq_true (List.all_eq_true.mp e j (List.mem_range.mpr hj))
def tB (h : Hp) : Bool := (List.range 6).all (fun t => (List.range 60).all (fun k => decide (h.2.2.1 (57 + t) k = h.2.2.1 125 (60 * t + k)))) && (List.range 6).all (fun t => decide (h.2.1 55 t = 0) && decide (h.2.1 54 t = -1))
theorem first_ok : (eqB hI0 2 94 7 && eqB hI0 3 95 7 && eqB hI0 5 97 7 && eqB hI0 10 115 7 && eqB hI0 11 116 7 && eqB hI0 13 118 7 && (eqB hI0 7 99 28 && eqB hI0 15 120 28 && zB hI0 7 && zB hI0 15) && (eqB hI0 8 114 12 && eqB hI0 16 121 12 && decide (hI0.2.1 1 11 = hI0.2.1 93 42) && decide (hI0.2.1 9 11 = hI0.2.1 93 50)) && (decide (hI0.2.1 1 9 = hI0.2.1 93 41) && decide (hI0.2.1 9 9 = hI0.2.1 93 49)) && (eqB hI0 52 122 20 && decide (hI0.2.1 51 4 = hI0.2.1 93 58)) && (eqB hI0 54 123 6 && eqB hI0 55 124 6 && tB hI0)) = true := by decide +kernel
theorem INVE_0 : INVE hI0 := by
  have f := first_ok
  simp only [Bool.and_eq_true, decide_eq_true_eq] at f
  obtain ⟨⟨⟨⟨⟨⟨⟨⟨⟨⟨a1, a2⟩, a3⟩, a4⟩, a5⟩, a6⟩, ⟨⟨b1, b2⟩, b3⟩, b4⟩, ⟨⟨c1, c2⟩, c3⟩, c4⟩, d1, d2⟩, e1, e2⟩, ⟨g1, g2⟩, g3⟩ := f
  unfold tB at g3
  rw [Bool.and_eq_true] at g3
  refine ⟨INV_0, ⟨eqB_ok a1, eqB_ok a2, eqB_ok a3, eqB_ok a4, eqB_ok a5, eqB_ok a6⟩, ⟨eqB_ok b1, eqB_ok b2, zB_ok b3, zB_ok b4⟩, ⟨eqB_ok c1, eqB_ok c2, c3, c4⟩, ⟨d1, d2⟩, ⟨eqB_ok e1, e2⟩, eqB_ok g1, eqB_ok g2, fun t k ht hk => ?_, fun t ht _ => ?_, fun t k ht hk q => ?_⟩
  · exact of_decide_eq_true (List.all_eq_true.mp (List.all_eq_true.mp g3.1 t (List.mem_range.mpr ht)) k (List.mem_range.mpr hk))
  · have := List.all_eq_true.mp g3.2 t (List.mem_range.mpr ht)
    rw [Bool.and_eq_true] at this
    exact of_decide_eq_true this.1
  · have := List.all_eq_true.mp g3.2 t (List.mem_range.mpr ht)
    rw [Bool.and_eq_true] at this
    rw [of_decide_eq_true this.2] at q
    cases q
