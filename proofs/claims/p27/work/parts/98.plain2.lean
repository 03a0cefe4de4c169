/-! The plain calls with a truth or a long. -/
theorem bo2 {a b : Int32} (h1 : 0 ≤ b.toInt) (h2 : b.toInt ≤ 1) : bOK (fun v => if v = 0 then a.toInt else b.toInt) [fI, (0, 1)] := by
  intro v q hq
  match v, hq with
  | 0, hq => cases hq; exact i32r a
  | 1, hq => cases hq; exact ⟨h1, h2⟩
  | v + 2, hq => cases hq
theorem pl_56 {X : Scr} {dp : Nat} {h : Hp} {Q : Option Value → Hp → Prop} (a b : Int32) (h1 : 0 ≤ b.toInt) (h2 : b.toInt ≤ 1) (hD : cD k_56 ≤ dp) (hi : INV h) (hQ : ∀ (r : Int32) h', INV h' → Q (some (.int r)) h') : Ends X dp 66 0 (entL (mMaxL 66) [.ref 0, .int a, .int b]) [] h Q := by
  refine st_plain (T := k_56) 56 (by rfl) (by decide +kernel) (ρ := fun v => if v = 0 then a.toInt else b.toInt) hD hi (bo2 h1 h2) ⟨⟨0, rfl, List.mem_singleton.mpr rfl⟩, ⟨a, rfl, by decide, by show a.toInt = a.toInt + 0; omega⟩, ⟨b, rfl, by decide, by show b.toInt = b.toInt + 0; omega⟩, trivial⟩ rfl ?_
  intro v h' p q
  obtain ⟨r, e, -⟩ := qp_int (lo := -2147483648) (hi := 2147483647) q (by decide +kernel)
  exact e ▸ hQ r h' p
theorem pl_229 {X : Scr} {dp : Nat} {h : Hp} {Q : Option Value → Hp → Prop} (a b : Int32) (h1 : 0 ≤ b.toInt) (h2 : b.toInt ≤ 1) (hD : cD k_229 ≤ dp) (hi : INV h) (hQ : ∀ (r : Int32) h', INV h' → Q (some (.int r)) h') : Ends X dp 116 0 (entL (mMaxL 116) [.ref 93, .int a, .int b]) [] h Q := by
  refine st_plain (T := k_229) 229 (by rfl) (by decide +kernel) (ρ := fun v => if v = 0 then a.toInt else b.toInt) hD hi (bo2 h1 h2) ⟨⟨93, rfl, List.mem_singleton.mpr rfl⟩, ⟨a, rfl, by decide, by show a.toInt = a.toInt + 0; omega⟩, ⟨b, rfl, by decide, by show b.toInt = b.toInt + 0; omega⟩, trivial⟩ rfl ?_
  intro v h' p q
  obtain ⟨r, e, -⟩ := qp_int (lo := -2147483648) (hi := 2147483647) q (by decide +kernel)
  exact e ▸ hQ r h' p
theorem bo3l {a b : Int32} {c : Int64} : bOK (fun v => if v = 0 then a.toInt else if v = 1 then b.toInt else c.toInt) [fI, fI, fL] := by
  intro v q hq
  match v, hq with
  | 0, hq => cases hq; exact i32r a
  | 1, hq => cases hq; exact i32r b
  | 2, hq => cases hq; exact ⟨Int64.le_toInt c, Int64.toInt_le c⟩
  | v + 3, hq => cases hq
theorem pl_216 {X : Scr} {dp : Nat} {h : Hp} {Q : Option Value → Hp → Prop} (a b : Int32) (c : Int64) (hD : cD k_216 ≤ dp) (hi : INV h) (hQ : ∀ (r : Int32) h', INV h' → Q (some (.int r)) h') : Ends X dp 96 0 (entL (mMaxL 96) [.ref 0, .int a, .int b, .long c]) [] h Q := by
  refine st_plain (T := k_216) 216 (by rfl) (by decide +kernel) (ρ := fun v => if v = 0 then a.toInt else if v = 1 then b.toInt else c.toInt) hD hi bo3l ⟨⟨0, rfl, List.mem_singleton.mpr rfl⟩, ⟨a, rfl, by decide, by show a.toInt = a.toInt + 0; omega⟩, ⟨b, rfl, by decide, by show b.toInt = b.toInt + 0; omega⟩, ⟨c, rfl, by decide, by show c.toInt = c.toInt + 0; omega⟩, trivial⟩ rfl ?_
  intro v h' p q
  obtain ⟨r, e, -⟩ := qp_int (lo := -2147483648) (hi := 2147483647) q (by decide +kernel)
  exact e ▸ hQ r h' p
theorem pl_267 {X : Scr} {dp : Nat} {h : Hp} {Q : Option Value → Hp → Prop} (a b : Int32) (c : Int64) (hD : cD k_267 ≤ dp) (hi : INV h) (hQ : ∀ (r : Int32) h', INV h' → Q (some (.int r)) h') : Ends X dp 201 0 (entL (mMaxL 201) [.ref 93, .int a, .int b, .long c]) [] h Q := by
  refine st_plain (T := k_267) 267 (by rfl) (by decide +kernel) (ρ := fun v => if v = 0 then a.toInt else if v = 1 then b.toInt else c.toInt) hD hi bo3l ⟨⟨93, rfl, List.mem_singleton.mpr rfl⟩, ⟨a, rfl, by decide, by show a.toInt = a.toInt + 0; omega⟩, ⟨b, rfl, by decide, by show b.toInt = b.toInt + 0; omega⟩, ⟨c, rfl, by decide, by show c.toInt = c.toInt + 0; omega⟩, trivial⟩ rfl ?_
  intro v h' p q
  obtain ⟨r, e, -⟩ := qp_int (lo := -2147483648) (hi := 2147483647) q (by decide +kernel)
  exact e ▸ hQ r h' p
