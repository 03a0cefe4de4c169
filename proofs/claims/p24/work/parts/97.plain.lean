section JN97plain
/-! The plain calls. -/
theorem fI_ok (r : Int32) : fI.1 ≤ r.toInt ∧ r.toInt ≤ fI.2 := i32r r
theorem pl_55 {X : Scr} {dp : Nat} {h : Hp} {Q : Option Value → Hp → Prop} (a b c : Int32) (hD : cD k_55 ≤ dp) (hi : INV h) (hQ : ∀ (r : Int32) h', INV h' → Q (some (.int r)) h') : Ends X dp 65 0 (entL (mMaxL 65) [.ref 0, .int a, .int b, .int c]) [] h Q := by
  refine st_plain (T := k_55) 55 (by rfl) (by decide +kernel) (ρ := fun v => if v = 0 then a.toInt else if v = 1 then b.toInt else c.toInt) hD hi ?_ ⟨⟨0, rfl, List.mem_singleton.mpr rfl⟩, ⟨a, rfl, by decide, by show a.toInt = a.toInt + 0; omega⟩, ⟨b, rfl, by decide, by show b.toInt = b.toInt + 0; omega⟩, ⟨c, rfl, by decide, by show c.toInt = c.toInt + 0; omega⟩, trivial⟩ rfl ?_
  · intro v q hq
    match v, hq with
    | 0, hq => cases hq; exact fI_ok a
    | 1, hq => cases hq; exact fI_ok b
    | 2, hq => cases hq; exact fI_ok c
    | v + 3, hq => cases hq
  · intro v h' p q
    obtain ⟨r, e, -⟩ := qp_int (lo := -2147483648) (hi := 2147483647) q (by decide +kernel)
    exact e ▸ hQ r h' p
theorem pl_57 {X : Scr} {dp : Nat} {h : Hp} {Q : Option Value → Hp → Prop} (a b c : Int32) (hD : cD k_57 ≤ dp) (hi : INV h) (hQ : ∀ (r : Int32) h', INV h' → Q (some (.int r)) h') : Ends X dp 67 0 (entL (mMaxL 67) [.ref 0, .int a, .int b, .int c]) [] h Q := by
  refine st_plain (T := k_57) 57 (by rfl) (by decide +kernel) (ρ := fun v => if v = 0 then a.toInt else if v = 1 then b.toInt else c.toInt) hD hi ?_ ⟨⟨0, rfl, List.mem_singleton.mpr rfl⟩, ⟨a, rfl, by decide, by show a.toInt = a.toInt + 0; omega⟩, ⟨b, rfl, by decide, by show b.toInt = b.toInt + 0; omega⟩, ⟨c, rfl, by decide, by show c.toInt = c.toInt + 0; omega⟩, trivial⟩ rfl ?_
  · intro v q hq
    match v, hq with
    | 0, hq => cases hq; exact fI_ok a
    | 1, hq => cases hq; exact fI_ok b
    | 2, hq => cases hq; exact fI_ok c
    | v + 3, hq => cases hq
  · intro v h' p q
    obtain ⟨r, e, -⟩ := qp_int (lo := -2147483648) (hi := 2147483647) q (by decide +kernel)
    exact e ▸ hQ r h' p
theorem pl_59 {X : Scr} {dp : Nat} {h : Hp} {Q : Option Value → Hp → Prop} (a : Int32) (hD : cD k_59 ≤ dp) (hi : INV h) (hQ : ∀ (r : Int32) h', INV h' → Q (some (.int r)) h') : Ends X dp 68 0 (entL (mMaxL 68) [.ref 0, .int a]) [] h Q := by
  refine st_plain (T := k_59) 59 (by rfl) (by decide +kernel) (ρ := fun _ => a.toInt) hD hi ?_ ⟨⟨0, rfl, List.mem_singleton.mpr rfl⟩, ⟨a, rfl, by decide, by show a.toInt = a.toInt + 0; omega⟩, trivial⟩ rfl ?_
  · intro v q hq
    match v, hq with
    | 0, hq => cases hq; exact fI_ok a
    | v + 1, hq => cases hq
  · intro v h' p q
    obtain ⟨r, e, -⟩ := qp_int (lo := -2147483648) (hi := 2147483647) q (by decide +kernel)
    exact e ▸ hQ r h' p
theorem pl_145 {X : Scr} {dp : Nat} {h : Hp} {Q : Option Value → Hp → Prop} (hD : cD k_145 ≤ dp) (hi : INV h) (hQ : ∀ (r : Int32) h', INV h' → Q (some (.int r)) h') : Ends X dp 69 0 (entL (mMaxL 69) [.ref 0]) [] h Q := by
  refine st_plain (T := k_145) 145 (by rfl) (by decide +kernel) (ρ := fun _ => 0) hD hi ?_ ⟨⟨0, rfl, List.mem_singleton.mpr rfl⟩, trivial⟩ rfl ?_
  · intro v q hq
    match v, hq with
    | v, hq => cases hq
  · intro v h' p q
    obtain ⟨r, e, -⟩ := qp_int (lo := -2147483648) (hi := 2147483647) q (by decide +kernel)
    exact e ▸ hQ r h' p
theorem pl_148 {X : Scr} {dp : Nat} {h : Hp} {Q : Option Value → Hp → Prop} (a : Int32) (hD : cD k_148 ≤ dp) (hi : INV h) (hQ : ∀ (r : Int32) h', INV h' → Q (some (.int r)) h') : Ends X dp 70 0 (entL (mMaxL 70) [.ref 0, .int a]) [] h Q := by
  refine st_plain (T := k_148) 148 (by rfl) (by decide +kernel) (ρ := fun _ => a.toInt) hD hi ?_ ⟨⟨0, rfl, List.mem_singleton.mpr rfl⟩, ⟨a, rfl, by decide, by show a.toInt = a.toInt + 0; omega⟩, trivial⟩ rfl ?_
  · intro v q hq
    match v, hq with
    | 0, hq => cases hq; exact fI_ok a
    | v + 1, hq => cases hq
  · intro v h' p q
    obtain ⟨r, e, -⟩ := qp_int (lo := -2147483648) (hi := 2147483647) q (by decide +kernel)
    exact e ▸ hQ r h' p
theorem pl_154 {X : Scr} {dp : Nat} {h : Hp} {Q : Option Value → Hp → Prop} (a : Int32) (hD : cD k_154 ≤ dp) (hi : INV h) (hQ : ∀ (r : Int32) h', INV h' → Q (some (.int r)) h') : Ends X dp 82 0 (entL (mMaxL 82) [.ref 0, .int a]) [] h Q := by
  refine st_plain (T := k_154) 154 (by rfl) (by decide +kernel) (ρ := fun _ => a.toInt) hD hi ?_ ⟨⟨0, rfl, List.mem_singleton.mpr rfl⟩, ⟨a, rfl, by decide, by show a.toInt = a.toInt + 0; omega⟩, trivial⟩ rfl ?_
  · intro v q hq
    match v, hq with
    | 0, hq => cases hq; exact fI_ok a
    | v + 1, hq => cases hq
  · intro v h' p q
    obtain ⟨r, e, -⟩ := qp_int (lo := -2147483648) (hi := 2147483647) q (by decide +kernel)
    exact e ▸ hQ r h' p
theorem pl_156 {X : Scr} {dp : Nat} {h : Hp} {Q : Option Value → Hp → Prop} (a : Int32) (hD : cD k_156 ≤ dp) (hi : INV h) (hQ : ∀ (r : Int32) h', INV h' → Q (some (.int r)) h') : Ends X dp 86 0 (entL (mMaxL 86) [.ref 0, .int a]) [] h Q := by
  refine st_plain (T := k_156) 156 (by rfl) (by decide +kernel) (ρ := fun _ => a.toInt) hD hi ?_ ⟨⟨0, rfl, List.mem_singleton.mpr rfl⟩, ⟨a, rfl, by decide, by show a.toInt = a.toInt + 0; omega⟩, trivial⟩ rfl ?_
  · intro v q hq
    match v, hq with
    | 0, hq => cases hq; exact fI_ok a
    | v + 1, hq => cases hq
  · intro v h' p q
    obtain ⟨r, e, -⟩ := qp_int (lo := -2147483648) (hi := 2147483647) q (by decide +kernel)
    exact e ▸ hQ r h' p
theorem pl_159 {X : Scr} {dp : Nat} {h : Hp} {Q : Option Value → Hp → Prop} (a b : Int32) (hD : cD k_159 ≤ dp) (hi : INV h) (hQ : ∀ (r : Int32) h', INV h' → Q (some (.int r)) h') : Ends X dp 88 0 (entL (mMaxL 88) [.ref 0, .int a, .int b]) [] h Q := by
  refine st_plain (T := k_159) 159 (by rfl) (by decide +kernel) (ρ := fun v => if v = 0 then a.toInt else b.toInt) hD hi ?_ ⟨⟨0, rfl, List.mem_singleton.mpr rfl⟩, ⟨a, rfl, by decide, by show a.toInt = a.toInt + 0; omega⟩, ⟨b, rfl, by decide, by show b.toInt = b.toInt + 0; omega⟩, trivial⟩ rfl ?_
  · intro v q hq
    match v, hq with
    | 0, hq => cases hq; exact fI_ok a
    | 1, hq => cases hq; exact fI_ok b
    | v + 2, hq => cases hq
  · intro v h' p q
    obtain ⟨r, e, -⟩ := qp_int (lo := -2147483648) (hi := 2147483647) q (by decide +kernel)
    exact e ▸ hQ r h' p
theorem pl_208 {X : Scr} {dp : Nat} {h : Hp} {Q : Option Value → Hp → Prop} (a b c : Int32) (hD : cD k_208 ≤ dp) (hi : INV h) (hQ : ∀ (r : Int32) h', INV h' → Q (some (.int r)) h') : Ends X dp 91 0 (entL (mMaxL 91) [.ref 0, .int a, .int b, .int c]) [] h Q := by
  refine st_plain (T := k_208) 208 (by rfl) (by decide +kernel) (ρ := fun v => if v = 0 then a.toInt else if v = 1 then b.toInt else c.toInt) hD hi ?_ ⟨⟨0, rfl, List.mem_singleton.mpr rfl⟩, ⟨a, rfl, by decide, by show a.toInt = a.toInt + 0; omega⟩, ⟨b, rfl, by decide, by show b.toInt = b.toInt + 0; omega⟩, ⟨c, rfl, by decide, by show c.toInt = c.toInt + 0; omega⟩, trivial⟩ rfl ?_
  · intro v q hq
    match v, hq with
    | 0, hq => cases hq; exact fI_ok a
    | 1, hq => cases hq; exact fI_ok b
    | 2, hq => cases hq; exact fI_ok c
    | v + 3, hq => cases hq
  · intro v h' p q
    obtain ⟨r, e, -⟩ := qp_int (lo := -2147483648) (hi := 2147483647) q (by decide +kernel)
    exact e ▸ hQ r h' p
theorem pl_209 {X : Scr} {dp : Nat} {h : Hp} {Q : Option Value → Hp → Prop} (a : Int32) (hD : cD k_209 ≤ dp) (hi : INV h) (hQ : ∀ (r : Int32) h', INV h' → Q (some (.int r)) h') : Ends X dp 92 0 (entL (mMaxL 92) [.ref 0, .int a]) [] h Q := by
  refine st_plain (T := k_209) 209 (by rfl) (by decide +kernel) (ρ := fun _ => a.toInt) hD hi ?_ ⟨⟨0, rfl, List.mem_singleton.mpr rfl⟩, ⟨a, rfl, by decide, by show a.toInt = a.toInt + 0; omega⟩, trivial⟩ rfl ?_
  · intro v q hq
    match v, hq with
    | 0, hq => cases hq; exact fI_ok a
    | v + 1, hq => cases hq
  · intro v h' p q
    obtain ⟨r, e, -⟩ := qp_int (lo := -2147483648) (hi := 2147483647) q (by decide +kernel)
    exact e ▸ hQ r h' p
theorem pl_210 {X : Scr} {dp : Nat} {h : Hp} {Q : Option Value → Hp → Prop} (a b : Int32) (hD : cD k_210 ≤ dp) (hi : INV h) (hQ : ∀ (r : Int32) h', INV h' → Q (some (.int r)) h') : Ends X dp 93 0 (entL (mMaxL 93) [.ref 0, .int a, .int b]) [] h Q := by
  refine st_plain (T := k_210) 210 (by rfl) (by decide +kernel) (ρ := fun v => if v = 0 then a.toInt else b.toInt) hD hi ?_ ⟨⟨0, rfl, List.mem_singleton.mpr rfl⟩, ⟨a, rfl, by decide, by show a.toInt = a.toInt + 0; omega⟩, ⟨b, rfl, by decide, by show b.toInt = b.toInt + 0; omega⟩, trivial⟩ rfl ?_
  · intro v q hq
    match v, hq with
    | 0, hq => cases hq; exact fI_ok a
    | 1, hq => cases hq; exact fI_ok b
    | v + 2, hq => cases hq
  · intro v h' p q
    obtain ⟨r, e, -⟩ := qp_int (lo := -2147483648) (hi := 2147483647) q (by decide +kernel)
    exact e ▸ hQ r h' p
theorem pl_211 {X : Scr} {dp : Nat} {h : Hp} {Q : Option Value → Hp → Prop} (a : Int32) (hD : cD k_211 ≤ dp) (hi : INV h) (hQ : ∀ (r : Int32) h', INV h' → Q (some (.int r)) h') : Ends X dp 94 0 (entL (mMaxL 94) [.ref 0, .int a]) [] h Q := by
  refine st_plain (T := k_211) 211 (by rfl) (by decide +kernel) (ρ := fun _ => a.toInt) hD hi ?_ ⟨⟨0, rfl, List.mem_singleton.mpr rfl⟩, ⟨a, rfl, by decide, by show a.toInt = a.toInt + 0; omega⟩, trivial⟩ rfl ?_
  · intro v q hq
    match v, hq with
    | 0, hq => cases hq; exact fI_ok a
    | v + 1, hq => cases hq
  · intro v h' p q
    obtain ⟨r, e, -⟩ := qp_int (lo := -2147483648) (hi := 2147483647) q (by decide +kernel)
    exact e ▸ hQ r h' p
theorem pl_214 {X : Scr} {dp : Nat} {h : Hp} {Q : Option Value → Hp → Prop} (a b c : Int32) (hD : cD k_214 ≤ dp) (hi : INV h) (hQ : ∀ (r : Int32) h', INV h' → Q (some (.int r)) h') : Ends X dp 95 0 (entL (mMaxL 95) [.ref 0, .int a, .int b, .int c]) [] h Q := by
  refine st_plain (T := k_214) 214 (by rfl) (by decide +kernel) (ρ := fun v => if v = 0 then a.toInt else if v = 1 then b.toInt else c.toInt) hD hi ?_ ⟨⟨0, rfl, List.mem_singleton.mpr rfl⟩, ⟨a, rfl, by decide, by show a.toInt = a.toInt + 0; omega⟩, ⟨b, rfl, by decide, by show b.toInt = b.toInt + 0; omega⟩, ⟨c, rfl, by decide, by show c.toInt = c.toInt + 0; omega⟩, trivial⟩ rfl ?_
  · intro v q hq
    match v, hq with
    | 0, hq => cases hq; exact fI_ok a
    | 1, hq => cases hq; exact fI_ok b
    | 2, hq => cases hq; exact fI_ok c
    | v + 3, hq => cases hq
  · intro v h' p q
    obtain ⟨r, e, -⟩ := qp_int (lo := -2147483648) (hi := 2147483647) q (by decide +kernel)
    exact e ▸ hQ r h' p
theorem pl_217 {X : Scr} {dp : Nat} {h : Hp} {Q : Option Value → Hp → Prop} (a b : Int32) (hD : cD k_217 ≤ dp) (hi : INV h) (hQ : ∀ (r : Int64) h', INV h' → Q (some (.long r)) h') : Ends X dp 97 0 (entL (mMaxL 97) [.ref 0, .int a, .int b]) [] h Q := by
  refine st_plain (T := k_217) 217 (by rfl) (by decide +kernel) (ρ := fun v => if v = 0 then a.toInt else b.toInt) hD hi ?_ ⟨⟨0, rfl, List.mem_singleton.mpr rfl⟩, ⟨a, rfl, by decide, by show a.toInt = a.toInt + 0; omega⟩, ⟨b, rfl, by decide, by show b.toInt = b.toInt + 0; omega⟩, trivial⟩ rfl ?_
  · intro v q hq
    match v, hq with
    | 0, hq => cases hq; exact fI_ok a
    | 1, hq => cases hq; exact fI_ok b
    | v + 2, hq => cases hq
  · intro v h' p q
    obtain ⟨r, e⟩ := qp_lng q (by decide +kernel)
    exact e ▸ hQ r h' p
theorem pl_228 {X : Scr} {dp : Nat} {h : Hp} {Q : Option Value → Hp → Prop} (a b c : Int32) (hD : cD k_228 ≤ dp) (hi : INV h) (hQ : ∀ (r : Int32) h', INV h' → Q (some (.int r)) h') : Ends X dp 115 0 (entL (mMaxL 115) [.ref 93, .int a, .int b, .int c]) [] h Q := by
  refine st_plain (T := k_228) 228 (by rfl) (by decide +kernel) (ρ := fun v => if v = 0 then a.toInt else if v = 1 then b.toInt else c.toInt) hD hi ?_ ⟨⟨93, rfl, List.mem_singleton.mpr rfl⟩, ⟨a, rfl, by decide, by show a.toInt = a.toInt + 0; omega⟩, ⟨b, rfl, by decide, by show b.toInt = b.toInt + 0; omega⟩, ⟨c, rfl, by decide, by show c.toInt = c.toInt + 0; omega⟩, trivial⟩ rfl ?_
  · intro v q hq
    match v, hq with
    | 0, hq => cases hq; exact fI_ok a
    | 1, hq => cases hq; exact fI_ok b
    | 2, hq => cases hq; exact fI_ok c
    | v + 3, hq => cases hq
  · intro v h' p q
    obtain ⟨r, e, -⟩ := qp_int (lo := -2147483648) (hi := 2147483647) q (by decide +kernel)
    exact e ▸ hQ r h' p
theorem pl_231 {X : Scr} {dp : Nat} {h : Hp} {Q : Option Value → Hp → Prop} (a b c : Int32) (hD : cD k_231 ≤ dp) (hi : INV h) (hQ : ∀ (r : Int32) h', INV h' → Q (some (.int r)) h') : Ends X dp 117 0 (entL (mMaxL 117) [.ref 93, .int a, .int b, .int c]) [] h Q := by
  refine st_plain (T := k_231) 231 (by rfl) (by decide +kernel) (ρ := fun v => if v = 0 then a.toInt else if v = 1 then b.toInt else c.toInt) hD hi ?_ ⟨⟨93, rfl, List.mem_singleton.mpr rfl⟩, ⟨a, rfl, by decide, by show a.toInt = a.toInt + 0; omega⟩, ⟨b, rfl, by decide, by show b.toInt = b.toInt + 0; omega⟩, ⟨c, rfl, by decide, by show c.toInt = c.toInt + 0; omega⟩, trivial⟩ rfl ?_
  · intro v q hq
    match v, hq with
    | 0, hq => cases hq; exact fI_ok a
    | 1, hq => cases hq; exact fI_ok b
    | 2, hq => cases hq; exact fI_ok c
    | v + 3, hq => cases hq
  · intro v h' p q
    obtain ⟨r, e, -⟩ := qp_int (lo := -2147483648) (hi := 2147483647) q (by decide +kernel)
    exact e ▸ hQ r h' p
theorem pl_233 {X : Scr} {dp : Nat} {h : Hp} {Q : Option Value → Hp → Prop} (a : Int32) (hD : cD k_233 ≤ dp) (hi : INV h) (hQ : ∀ (r : Int32) h', INV h' → Q (some (.int r)) h') : Ends X dp 118 0 (entL (mMaxL 118) [.ref 93, .int a]) [] h Q := by
  refine st_plain (T := k_233) 233 (by rfl) (by decide +kernel) (ρ := fun _ => a.toInt) hD hi ?_ ⟨⟨93, rfl, List.mem_singleton.mpr rfl⟩, ⟨a, rfl, by decide, by show a.toInt = a.toInt + 0; omega⟩, trivial⟩ rfl ?_
  · intro v q hq
    match v, hq with
    | 0, hq => cases hq; exact fI_ok a
    | v + 1, hq => cases hq
  · intro v h' p q
    obtain ⟨r, e, -⟩ := qp_int (lo := -2147483648) (hi := 2147483647) q (by decide +kernel)
    exact e ▸ hQ r h' p
theorem pl_235 {X : Scr} {dp : Nat} {h : Hp} {Q : Option Value → Hp → Prop} (a : Int32) (hD : cD k_235 ≤ dp) (hi : INV h) (hQ : ∀ (r : Int32) h', INV h' → Q (some (.int r)) h') : Ends X dp 150 0 (entL (mMaxL 150) [.ref 93, .int a]) [] h Q := by
  refine st_plain (T := k_235) 235 (by rfl) (by decide +kernel) (ρ := fun _ => a.toInt) hD hi ?_ ⟨⟨93, rfl, List.mem_singleton.mpr rfl⟩, ⟨a, rfl, by decide, by show a.toInt = a.toInt + 0; omega⟩, trivial⟩ rfl ?_
  · intro v q hq
    match v, hq with
    | 0, hq => cases hq; exact fI_ok a
    | v + 1, hq => cases hq
  · intro v h' p q
    obtain ⟨r, e, -⟩ := qp_int (lo := -2147483648) (hi := 2147483647) q (by decide +kernel)
    exact e ▸ hQ r h' p
theorem pl_241 {X : Scr} {dp : Nat} {h : Hp} {Q : Option Value → Hp → Prop} (a : Int32) (hD : cD k_241 ≤ dp) (hi : INV h) (hQ : ∀ (r : Int32) h', INV h' → Q (some (.int r)) h') : Ends X dp 175 0 (entL (mMaxL 175) [.ref 93, .int a]) [] h Q := by
  refine st_plain (T := k_241) 241 (by rfl) (by decide +kernel) (ρ := fun _ => a.toInt) hD hi ?_ ⟨⟨93, rfl, List.mem_singleton.mpr rfl⟩, ⟨a, rfl, by decide, by show a.toInt = a.toInt + 0; omega⟩, trivial⟩ rfl ?_
  · intro v q hq
    match v, hq with
    | 0, hq => cases hq; exact fI_ok a
    | v + 1, hq => cases hq
  · intro v h' p q
    obtain ⟨r, e, -⟩ := qp_int (lo := -2147483648) (hi := 2147483647) q (by decide +kernel)
    exact e ▸ hQ r h' p
theorem pl_243 {X : Scr} {dp : Nat} {h : Hp} {Q : Option Value → Hp → Prop} (a : Int32) (hD : cD k_243 ≤ dp) (hi : INV h) (hQ : ∀ (r : Int32) h', INV h' → Q (some (.int r)) h') : Ends X dp 181 0 (entL (mMaxL 181) [.ref 93, .int a]) [] h Q := by
  refine st_plain (T := k_243) 243 (by rfl) (by decide +kernel) (ρ := fun _ => a.toInt) hD hi ?_ ⟨⟨93, rfl, List.mem_singleton.mpr rfl⟩, ⟨a, rfl, by decide, by show a.toInt = a.toInt + 0; omega⟩, trivial⟩ rfl ?_
  · intro v q hq
    match v, hq with
    | 0, hq => cases hq; exact fI_ok a
    | v + 1, hq => cases hq
  · intro v h' p q
    obtain ⟨r, e, -⟩ := qp_int (lo := -2147483648) (hi := 2147483647) q (by decide +kernel)
    exact e ▸ hQ r h' p
theorem pl_246 {X : Scr} {dp : Nat} {h : Hp} {Q : Option Value → Hp → Prop} (a b : Int32) (hD : cD k_246 ≤ dp) (hi : INV h) (hQ : ∀ (r : Int32) h', INV h' → Q (some (.int r)) h') : Ends X dp 183 0 (entL (mMaxL 183) [.ref 93, .int a, .int b]) [] h Q := by
  refine st_plain (T := k_246) 246 (by rfl) (by decide +kernel) (ρ := fun v => if v = 0 then a.toInt else b.toInt) hD hi ?_ ⟨⟨93, rfl, List.mem_singleton.mpr rfl⟩, ⟨a, rfl, by decide, by show a.toInt = a.toInt + 0; omega⟩, ⟨b, rfl, by decide, by show b.toInt = b.toInt + 0; omega⟩, trivial⟩ rfl ?_
  · intro v q hq
    match v, hq with
    | 0, hq => cases hq; exact fI_ok a
    | 1, hq => cases hq; exact fI_ok b
    | v + 2, hq => cases hq
  · intro v h' p q
    obtain ⟨r, e, -⟩ := qp_int (lo := -2147483648) (hi := 2147483647) q (by decide +kernel)
    exact e ▸ hQ r h' p
theorem pl_258 {X : Scr} {dp : Nat} {h : Hp} {Q : Option Value → Hp → Prop} (a b c : Int32) (hD : cD k_258 ≤ dp) (hi : INV h) (hQ : ∀ (r : Int32) h', INV h' → Q (some (.int r)) h') : Ends X dp 194 0 (entL (mMaxL 194) [.ref 93, .int a, .int b, .int c]) [] h Q := by
  refine st_plain (T := k_258) 258 (by rfl) (by decide +kernel) (ρ := fun v => if v = 0 then a.toInt else if v = 1 then b.toInt else c.toInt) hD hi ?_ ⟨⟨93, rfl, List.mem_singleton.mpr rfl⟩, ⟨a, rfl, by decide, by show a.toInt = a.toInt + 0; omega⟩, ⟨b, rfl, by decide, by show b.toInt = b.toInt + 0; omega⟩, ⟨c, rfl, by decide, by show c.toInt = c.toInt + 0; omega⟩, trivial⟩ rfl ?_
  · intro v q hq
    match v, hq with
    | 0, hq => cases hq; exact fI_ok a
    | 1, hq => cases hq; exact fI_ok b
    | 2, hq => cases hq; exact fI_ok c
    | v + 3, hq => cases hq
  · intro v h' p q
    obtain ⟨r, e, -⟩ := qp_int (lo := -2147483648) (hi := 2147483647) q (by decide +kernel)
    exact e ▸ hQ r h' p
theorem pl_260 {X : Scr} {dp : Nat} {h : Hp} {Q : Option Value → Hp → Prop} (a : Int32) (hD : cD k_260 ≤ dp) (hi : INV h) (hQ : ∀ (r : Int32) h', INV h' → Q (some (.int r)) h') : Ends X dp 195 0 (entL (mMaxL 195) [.ref 93, .int a]) [] h Q := by
  refine st_plain (T := k_260) 260 (by rfl) (by decide +kernel) (ρ := fun _ => a.toInt) hD hi ?_ ⟨⟨93, rfl, List.mem_singleton.mpr rfl⟩, ⟨a, rfl, by decide, by show a.toInt = a.toInt + 0; omega⟩, trivial⟩ rfl ?_
  · intro v q hq
    match v, hq with
    | 0, hq => cases hq; exact fI_ok a
    | v + 1, hq => cases hq
  · intro v h' p q
    obtain ⟨r, e, -⟩ := qp_int (lo := -2147483648) (hi := 2147483647) q (by decide +kernel)
    exact e ▸ hQ r h' p
theorem pl_261 {X : Scr} {dp : Nat} {h : Hp} {Q : Option Value → Hp → Prop} (a b : Int32) (hD : cD k_261 ≤ dp) (hi : INV h) (hQ : ∀ (r : Int32) h', INV h' → Q (some (.int r)) h') : Ends X dp 196 0 (entL (mMaxL 196) [.ref 93, .int a, .int b]) [] h Q := by
  refine st_plain (T := k_261) 261 (by rfl) (by decide +kernel) (ρ := fun v => if v = 0 then a.toInt else b.toInt) hD hi ?_ ⟨⟨93, rfl, List.mem_singleton.mpr rfl⟩, ⟨a, rfl, by decide, by show a.toInt = a.toInt + 0; omega⟩, ⟨b, rfl, by decide, by show b.toInt = b.toInt + 0; omega⟩, trivial⟩ rfl ?_
  · intro v q hq
    match v, hq with
    | 0, hq => cases hq; exact fI_ok a
    | 1, hq => cases hq; exact fI_ok b
    | v + 2, hq => cases hq
  · intro v h' p q
    obtain ⟨r, e, -⟩ := qp_int (lo := -2147483648) (hi := 2147483647) q (by decide +kernel)
    exact e ▸ hQ r h' p
theorem pl_262 {X : Scr} {dp : Nat} {h : Hp} {Q : Option Value → Hp → Prop} (a : Int32) (hD : cD k_262 ≤ dp) (hi : INV h) (hQ : ∀ (r : Int32) h', INV h' → Q (some (.int r)) h') : Ends X dp 197 0 (entL (mMaxL 197) [.ref 93, .int a]) [] h Q := by
  refine st_plain (T := k_262) 262 (by rfl) (by decide +kernel) (ρ := fun _ => a.toInt) hD hi ?_ ⟨⟨93, rfl, List.mem_singleton.mpr rfl⟩, ⟨a, rfl, by decide, by show a.toInt = a.toInt + 0; omega⟩, trivial⟩ rfl ?_
  · intro v q hq
    match v, hq with
    | 0, hq => cases hq; exact fI_ok a
    | v + 1, hq => cases hq
  · intro v h' p q
    obtain ⟨r, e, -⟩ := qp_int (lo := -2147483648) (hi := 2147483647) q (by decide +kernel)
    exact e ▸ hQ r h' p
theorem pl_264 {X : Scr} {dp : Nat} {h : Hp} {Q : Option Value → Hp → Prop} (a b c : Int32) (hD : cD k_264 ≤ dp) (hi : INV h) (hQ : ∀ (r : Int32) h', INV h' → Q (some (.int r)) h') : Ends X dp 199 0 (entL (mMaxL 199) [.ref 93, .int a, .int b, .int c]) [] h Q := by
  refine st_plain (T := k_264) 264 (by rfl) (by decide +kernel) (ρ := fun v => if v = 0 then a.toInt else if v = 1 then b.toInt else c.toInt) hD hi ?_ ⟨⟨93, rfl, List.mem_singleton.mpr rfl⟩, ⟨a, rfl, by decide, by show a.toInt = a.toInt + 0; omega⟩, ⟨b, rfl, by decide, by show b.toInt = b.toInt + 0; omega⟩, ⟨c, rfl, by decide, by show c.toInt = c.toInt + 0; omega⟩, trivial⟩ rfl ?_
  · intro v q hq
    match v, hq with
    | 0, hq => cases hq; exact fI_ok a
    | 1, hq => cases hq; exact fI_ok b
    | 2, hq => cases hq; exact fI_ok c
    | v + 3, hq => cases hq
  · intro v h' p q
    obtain ⟨r, e, -⟩ := qp_int (lo := -2147483648) (hi := 2147483647) q (by decide +kernel)
    exact e ▸ hQ r h' p
theorem pl_268 {X : Scr} {dp : Nat} {h : Hp} {Q : Option Value → Hp → Prop} (a b : Int32) (hD : cD k_268 ≤ dp) (hi : INV h) (hQ : ∀ (r : Int64) h', INV h' → Q (some (.long r)) h') : Ends X dp 202 0 (entL (mMaxL 202) [.ref 93, .int a, .int b]) [] h Q := by
  refine st_plain (T := k_268) 268 (by rfl) (by decide +kernel) (ρ := fun v => if v = 0 then a.toInt else b.toInt) hD hi ?_ ⟨⟨93, rfl, List.mem_singleton.mpr rfl⟩, ⟨a, rfl, by decide, by show a.toInt = a.toInt + 0; omega⟩, ⟨b, rfl, by decide, by show b.toInt = b.toInt + 0; omega⟩, trivial⟩ rfl ?_
  · intro v q hq
    match v, hq with
    | 0, hq => cases hq; exact fI_ok a
    | 1, hq => cases hq; exact fI_ok b
    | v + 2, hq => cases hq
  · intro v h' p q
    obtain ⟨r, e⟩ := qp_lng q (by decide +kernel)
    exact e ▸ hQ r h' p
theorem pl_293 {X : Scr} {dp : Nat} {h : Hp} {Q : Option Value → Hp → Prop} (a b : Int32) (hD : cD k_293 ≤ dp) (hi : INV h) (hQ : ∀ (r : Int32) h', INV h' → Q (some (.int r)) h') : Ends X dp 64 0 (entL (mMaxL 64) [.ref 0, .int a, .int b]) [] h Q := by
  refine st_plain (T := k_293) 293 (by rfl) (by decide +kernel) (ρ := fun v => if v = 0 then a.toInt else b.toInt) hD hi ?_ ⟨⟨0, rfl, List.mem_singleton.mpr rfl⟩, ⟨a, rfl, by decide, by show a.toInt = a.toInt + 0; omega⟩, ⟨b, rfl, by decide, by show b.toInt = b.toInt + 0; omega⟩, trivial⟩ rfl ?_
  · intro v q hq
    match v, hq with
    | 0, hq => cases hq; exact fI_ok a
    | 1, hq => cases hq; exact fI_ok b
    | v + 2, hq => cases hq
  · intro v h' p q
    obtain ⟨r, e, -⟩ := qp_int (lo := -2147483648) (hi := 2147483647) q (by decide +kernel)
    exact e ▸ hQ r h' p
theorem pl_294 {X : Scr} {dp : Nat} {h : Hp} {Q : Option Value → Hp → Prop} (hD : cD k_294 ≤ dp) (hi : INV h) (hQ : ∀ (r : Int32) h', INV h' → Q (some (.int r)) h') : Ends X dp 71 0 (entL (mMaxL 71) [.ref 0]) [] h Q := by
  refine st_plain (T := k_294) 294 (by rfl) (by decide +kernel) (ρ := fun _ => 0) hD hi ?_ ⟨⟨0, rfl, List.mem_singleton.mpr rfl⟩, trivial⟩ rfl ?_
  · intro v q hq
    match v, hq with
    | v, hq => cases hq
  · intro v h' p q
    obtain ⟨r, e, -⟩ := qp_int (lo := -2147483648) (hi := 2147483647) q (by decide +kernel)
    exact e ▸ hQ r h' p
theorem pl_296 {X : Scr} {dp : Nat} {h : Hp} {Q : Option Value → Hp → Prop} (a b : Int32) (hD : cD k_296 ≤ dp) (hi : INV h) (hQ : ∀ (r : Int32) h', INV h' → Q (some (.int r)) h') : Ends X dp 72 0 (entL (mMaxL 72) [.ref 0, .int a, .int b]) [] h Q := by
  refine st_plain (T := k_296) 296 (by rfl) (by decide +kernel) (ρ := fun v => if v = 0 then a.toInt else b.toInt) hD hi ?_ ⟨⟨0, rfl, List.mem_singleton.mpr rfl⟩, ⟨a, rfl, by decide, by show a.toInt = a.toInt + 0; omega⟩, ⟨b, rfl, by decide, by show b.toInt = b.toInt + 0; omega⟩, trivial⟩ rfl ?_
  · intro v q hq
    match v, hq with
    | 0, hq => cases hq; exact fI_ok a
    | 1, hq => cases hq; exact fI_ok b
    | v + 2, hq => cases hq
  · intro v h' p q
    obtain ⟨r, e, -⟩ := qp_int (lo := -2147483648) (hi := 2147483647) q (by decide +kernel)
    exact e ▸ hQ r h' p
theorem pl_297 {X : Scr} {dp : Nat} {h : Hp} {Q : Option Value → Hp → Prop} (a : Int32) (hD : cD k_297 ≤ dp) (hi : INV h) (hQ : ∀ (r : Int32) h', INV h' → Q (some (.int r)) h') : Ends X dp 73 0 (entL (mMaxL 73) [.ref 0, .int a]) [] h Q := by
  refine st_plain (T := k_297) 297 (by rfl) (by decide +kernel) (ρ := fun _ => a.toInt) hD hi ?_ ⟨⟨0, rfl, List.mem_singleton.mpr rfl⟩, ⟨a, rfl, by decide, by show a.toInt = a.toInt + 0; omega⟩, trivial⟩ rfl ?_
  · intro v q hq
    match v, hq with
    | 0, hq => cases hq; exact fI_ok a
    | v + 1, hq => cases hq
  · intro v h' p q
    obtain ⟨r, e, -⟩ := qp_int (lo := -2147483648) (hi := 2147483647) q (by decide +kernel)
    exact e ▸ hQ r h' p
theorem pl_298 {X : Scr} {dp : Nat} {h : Hp} {Q : Option Value → Hp → Prop} (a : Int32) (hD : cD k_298 ≤ dp) (hi : INV h) (hQ : ∀ (r : Int32) h', INV h' → Q (some (.int r)) h') : Ends X dp 74 0 (entL (mMaxL 74) [.ref 0, .int a]) [] h Q := by
  refine st_plain (T := k_298) 298 (by rfl) (by decide +kernel) (ρ := fun _ => a.toInt) hD hi ?_ ⟨⟨0, rfl, List.mem_singleton.mpr rfl⟩, ⟨a, rfl, by decide, by show a.toInt = a.toInt + 0; omega⟩, trivial⟩ rfl ?_
  · intro v q hq
    match v, hq with
    | 0, hq => cases hq; exact fI_ok a
    | v + 1, hq => cases hq
  · intro v h' p q
    obtain ⟨r, e, -⟩ := qp_int (lo := -2147483648) (hi := 2147483647) q (by decide +kernel)
    exact e ▸ hQ r h' p
theorem pl_300 {X : Scr} {dp : Nat} {h : Hp} {Q : Option Value → Hp → Prop} (a b : Int32) (hD : cD k_300 ≤ dp) (hi : INV h) (hQ : ∀ (r : Int32) h', INV h' → Q (some (.int r)) h') : Ends X dp 75 0 (entL (mMaxL 75) [.ref 0, .int a, .int b]) [] h Q := by
  refine st_plain (T := k_300) 300 (by rfl) (by decide +kernel) (ρ := fun v => if v = 0 then a.toInt else b.toInt) hD hi ?_ ⟨⟨0, rfl, List.mem_singleton.mpr rfl⟩, ⟨a, rfl, by decide, by show a.toInt = a.toInt + 0; omega⟩, ⟨b, rfl, by decide, by show b.toInt = b.toInt + 0; omega⟩, trivial⟩ rfl ?_
  · intro v q hq
    match v, hq with
    | 0, hq => cases hq; exact fI_ok a
    | 1, hq => cases hq; exact fI_ok b
    | v + 2, hq => cases hq
  · intro v h' p q
    obtain ⟨r, e, -⟩ := qp_int (lo := -2147483648) (hi := 2147483647) q (by decide +kernel)
    exact e ▸ hQ r h' p
theorem pl_301 {X : Scr} {dp : Nat} {h : Hp} {Q : Option Value → Hp → Prop} (a : Int32) (hD : cD k_301 ≤ dp) (hi : INV h) (hQ : ∀ (r : Int32) h', INV h' → Q (some (.int r)) h') : Ends X dp 76 0 (entL (mMaxL 76) [.ref 0, .int a]) [] h Q := by
  refine st_plain (T := k_301) 301 (by rfl) (by decide +kernel) (ρ := fun _ => a.toInt) hD hi ?_ ⟨⟨0, rfl, List.mem_singleton.mpr rfl⟩, ⟨a, rfl, by decide, by show a.toInt = a.toInt + 0; omega⟩, trivial⟩ rfl ?_
  · intro v q hq
    match v, hq with
    | 0, hq => cases hq; exact fI_ok a
    | v + 1, hq => cases hq
  · intro v h' p q
    obtain ⟨r, e, -⟩ := qp_int (lo := -2147483648) (hi := 2147483647) q (by decide +kernel)
    exact e ▸ hQ r h' p
theorem pl_302 {X : Scr} {dp : Nat} {h : Hp} {Q : Option Value → Hp → Prop} (a : Int32) (hD : cD k_302 ≤ dp) (hi : INV h) (hQ : ∀ (r : Int32) h', INV h' → Q (some (.int r)) h') : Ends X dp 77 0 (entL (mMaxL 77) [.ref 0, .int a]) [] h Q := by
  refine st_plain (T := k_302) 302 (by rfl) (by decide +kernel) (ρ := fun _ => a.toInt) hD hi ?_ ⟨⟨0, rfl, List.mem_singleton.mpr rfl⟩, ⟨a, rfl, by decide, by show a.toInt = a.toInt + 0; omega⟩, trivial⟩ rfl ?_
  · intro v q hq
    match v, hq with
    | 0, hq => cases hq; exact fI_ok a
    | v + 1, hq => cases hq
  · intro v h' p q
    obtain ⟨r, e, -⟩ := qp_int (lo := -2147483648) (hi := 2147483647) q (by decide +kernel)
    exact e ▸ hQ r h' p
theorem pl_303 {X : Scr} {dp : Nat} {h : Hp} {Q : Option Value → Hp → Prop} (hD : cD k_303 ≤ dp) (hi : INV h) (hQ : ∀ (r : Int32) h', INV h' → Q (some (.int r)) h') : Ends X dp 78 0 (entL (mMaxL 78) [.ref 0]) [] h Q := by
  refine st_plain (T := k_303) 303 (by rfl) (by decide +kernel) (ρ := fun _ => 0) hD hi ?_ ⟨⟨0, rfl, List.mem_singleton.mpr rfl⟩, trivial⟩ rfl ?_
  · intro v q hq
    match v, hq with
    | v, hq => cases hq
  · intro v h' p q
    obtain ⟨r, e, -⟩ := qp_int (lo := -2147483648) (hi := 2147483647) q (by decide +kernel)
    exact e ▸ hQ r h' p
theorem pl_304 {X : Scr} {dp : Nat} {h : Hp} {Q : Option Value → Hp → Prop} (a : Int32) (hD : cD k_304 ≤ dp) (hi : INV h) (hQ : ∀ (r : Int32) h', INV h' → Q (some (.int r)) h') : Ends X dp 79 0 (entL (mMaxL 79) [.ref 0, .int a]) [] h Q := by
  refine st_plain (T := k_304) 304 (by rfl) (by decide +kernel) (ρ := fun _ => a.toInt) hD hi ?_ ⟨⟨0, rfl, List.mem_singleton.mpr rfl⟩, ⟨a, rfl, by decide, by show a.toInt = a.toInt + 0; omega⟩, trivial⟩ rfl ?_
  · intro v q hq
    match v, hq with
    | 0, hq => cases hq; exact fI_ok a
    | v + 1, hq => cases hq
  · intro v h' p q
    obtain ⟨r, e, -⟩ := qp_int (lo := -2147483648) (hi := 2147483647) q (by decide +kernel)
    exact e ▸ hQ r h' p
theorem pl_306 {X : Scr} {dp : Nat} {h : Hp} {Q : Option Value → Hp → Prop} (a : Int32) (hD : cD k_306 ≤ dp) (hi : INV h) (hQ : ∀ (r : Int32) h', INV h' → Q (some (.int r)) h') : Ends X dp 80 0 (entL (mMaxL 80) [.ref 0, .int a]) [] h Q := by
  refine st_plain (T := k_306) 306 (by rfl) (by decide +kernel) (ρ := fun _ => a.toInt) hD hi ?_ ⟨⟨0, rfl, List.mem_singleton.mpr rfl⟩, ⟨a, rfl, by decide, by show a.toInt = a.toInt + 0; omega⟩, trivial⟩ rfl ?_
  · intro v q hq
    match v, hq with
    | 0, hq => cases hq; exact fI_ok a
    | v + 1, hq => cases hq
  · intro v h' p q
    obtain ⟨r, e, -⟩ := qp_int (lo := -2147483648) (hi := 2147483647) q (by decide +kernel)
    exact e ▸ hQ r h' p
theorem pl_307 {X : Scr} {dp : Nat} {h : Hp} {Q : Option Value → Hp → Prop} (a b : Int32) (hD : cD k_307 ≤ dp) (hi : INV h) (hQ : ∀ (r : Int32) h', INV h' → Q (some (.int r)) h') : Ends X dp 81 0 (entL (mMaxL 81) [.ref 0, .int a, .int b]) [] h Q := by
  refine st_plain (T := k_307) 307 (by rfl) (by decide +kernel) (ρ := fun v => if v = 0 then a.toInt else b.toInt) hD hi ?_ ⟨⟨0, rfl, List.mem_singleton.mpr rfl⟩, ⟨a, rfl, by decide, by show a.toInt = a.toInt + 0; omega⟩, ⟨b, rfl, by decide, by show b.toInt = b.toInt + 0; omega⟩, trivial⟩ rfl ?_
  · intro v q hq
    match v, hq with
    | 0, hq => cases hq; exact fI_ok a
    | 1, hq => cases hq; exact fI_ok b
    | v + 2, hq => cases hq
  · intro v h' p q
    obtain ⟨r, e, -⟩ := qp_int (lo := -2147483648) (hi := 2147483647) q (by decide +kernel)
    exact e ▸ hQ r h' p
theorem pl_308 {X : Scr} {dp : Nat} {h : Hp} {Q : Option Value → Hp → Prop} (a : Int32) (hD : cD k_308 ≤ dp) (hi : INV h) (hQ : ∀ (r : Int32) h', INV h' → Q (some (.int r)) h') : Ends X dp 83 0 (entL (mMaxL 83) [.ref 0, .int a]) [] h Q := by
  refine st_plain (T := k_308) 308 (by rfl) (by decide +kernel) (ρ := fun _ => a.toInt) hD hi ?_ ⟨⟨0, rfl, List.mem_singleton.mpr rfl⟩, ⟨a, rfl, by decide, by show a.toInt = a.toInt + 0; omega⟩, trivial⟩ rfl ?_
  · intro v q hq
    match v, hq with
    | 0, hq => cases hq; exact fI_ok a
    | v + 1, hq => cases hq
  · intro v h' p q
    obtain ⟨r, e, -⟩ := qp_int (lo := -2147483648) (hi := 2147483647) q (by decide +kernel)
    exact e ▸ hQ r h' p
theorem pl_309 {X : Scr} {dp : Nat} {h : Hp} {Q : Option Value → Hp → Prop} (a b c : Int32) (hD : cD k_309 ≤ dp) (hi : INV h) (hQ : ∀ (r : Int64) h', INV h' → Q (some (.long r)) h') : Ends X dp 84 0 (entL (mMaxL 84) [.ref 0, .int a, .int b, .int c]) [] h Q := by
  refine st_plain (T := k_309) 309 (by rfl) (by decide +kernel) (ρ := fun v => if v = 0 then a.toInt else if v = 1 then b.toInt else c.toInt) hD hi ?_ ⟨⟨0, rfl, List.mem_singleton.mpr rfl⟩, ⟨a, rfl, by decide, by show a.toInt = a.toInt + 0; omega⟩, ⟨b, rfl, by decide, by show b.toInt = b.toInt + 0; omega⟩, ⟨c, rfl, by decide, by show c.toInt = c.toInt + 0; omega⟩, trivial⟩ rfl ?_
  · intro v q hq
    match v, hq with
    | 0, hq => cases hq; exact fI_ok a
    | 1, hq => cases hq; exact fI_ok b
    | 2, hq => cases hq; exact fI_ok c
    | v + 3, hq => cases hq
  · intro v h' p q
    obtain ⟨r, e⟩ := qp_lng q (by decide +kernel)
    exact e ▸ hQ r h' p
theorem pl_310 {X : Scr} {dp : Nat} {h : Hp} {Q : Option Value → Hp → Prop} (a b : Int32) (hD : cD k_310 ≤ dp) (hi : INV h) (hQ : ∀ (r : Int64) h', INV h' → Q (some (.long r)) h') : Ends X dp 85 0 (entL (mMaxL 85) [.ref 0, .int a, .int b]) [] h Q := by
  refine st_plain (T := k_310) 310 (by rfl) (by decide +kernel) (ρ := fun v => if v = 0 then a.toInt else b.toInt) hD hi ?_ ⟨⟨0, rfl, List.mem_singleton.mpr rfl⟩, ⟨a, rfl, by decide, by show a.toInt = a.toInt + 0; omega⟩, ⟨b, rfl, by decide, by show b.toInt = b.toInt + 0; omega⟩, trivial⟩ rfl ?_
  · intro v q hq
    match v, hq with
    | 0, hq => cases hq; exact fI_ok a
    | 1, hq => cases hq; exact fI_ok b
    | v + 2, hq => cases hq
  · intro v h' p q
    obtain ⟨r, e⟩ := qp_lng q (by decide +kernel)
    exact e ▸ hQ r h' p
theorem pl_311 {X : Scr} {dp : Nat} {h : Hp} {Q : Option Value → Hp → Prop} (hD : cD k_311 ≤ dp) (hi : INV h) (hQ : ∀ (r : Int32) h', INV h' → Q (some (.int r)) h') : Ends X dp 87 0 (entL (mMaxL 87) [.ref 0]) [] h Q := by
  refine st_plain (T := k_311) 311 (by rfl) (by decide +kernel) (ρ := fun _ => 0) hD hi ?_ ⟨⟨0, rfl, List.mem_singleton.mpr rfl⟩, trivial⟩ rfl ?_
  · intro v q hq
    match v, hq with
    | v, hq => cases hq
  · intro v h' p q
    obtain ⟨r, e, -⟩ := qp_int (lo := -2147483648) (hi := 2147483647) q (by decide +kernel)
    exact e ▸ hQ r h' p
theorem pl_312 {X : Scr} {dp : Nat} {h : Hp} {Q : Option Value → Hp → Prop} (a b : Int32) (hD : cD k_312 ≤ dp) (hi : INV h) (hQ : ∀ (r : Int32) h', INV h' → Q (some (.int r)) h') : Ends X dp 149 0 (entL (mMaxL 149) [.ref 93, .int a, .int b]) [] h Q := by
  refine st_plain (T := k_312) 312 (by rfl) (by decide +kernel) (ρ := fun v => if v = 0 then a.toInt else b.toInt) hD hi ?_ ⟨⟨93, rfl, List.mem_singleton.mpr rfl⟩, ⟨a, rfl, by decide, by show a.toInt = a.toInt + 0; omega⟩, ⟨b, rfl, by decide, by show b.toInt = b.toInt + 0; omega⟩, trivial⟩ rfl ?_
  · intro v q hq
    match v, hq with
    | 0, hq => cases hq; exact fI_ok a
    | 1, hq => cases hq; exact fI_ok b
    | v + 2, hq => cases hq
  · intro v h' p q
    obtain ⟨r, e, -⟩ := qp_int (lo := -2147483648) (hi := 2147483647) q (by decide +kernel)
    exact e ▸ hQ r h' p
theorem pl_317 {X : Scr} {dp : Nat} {h : Hp} {Q : Option Value → Hp → Prop} (a : Int32) (hD : cD k_317 ≤ dp) (hi : INV h) (hQ : ∀ (r : Int32) h', INV h' → Q (some (.int r)) h') : Ends X dp 165 0 (entL (mMaxL 165) [.ref 93, .int a]) [] h Q := by
  refine st_plain (T := k_317) 317 (by rfl) (by decide +kernel) (ρ := fun _ => a.toInt) hD hi ?_ ⟨⟨93, rfl, List.mem_singleton.mpr rfl⟩, ⟨a, rfl, by decide, by show a.toInt = a.toInt + 0; omega⟩, trivial⟩ rfl ?_
  · intro v q hq
    match v, hq with
    | 0, hq => cases hq; exact fI_ok a
    | v + 1, hq => cases hq
  · intro v h' p q
    obtain ⟨r, e, -⟩ := qp_int (lo := -2147483648) (hi := 2147483647) q (by decide +kernel)
    exact e ▸ hQ r h' p
theorem pl_318 {X : Scr} {dp : Nat} {h : Hp} {Q : Option Value → Hp → Prop} (a b : Int32) (hD : cD k_318 ≤ dp) (hi : INV h) (hQ : ∀ (r : Int32) h', INV h' → Q (some (.int r)) h') : Ends X dp 166 0 (entL (mMaxL 166) [.ref 93, .int a, .int b]) [] h Q := by
  refine st_plain (T := k_318) 318 (by rfl) (by decide +kernel) (ρ := fun v => if v = 0 then a.toInt else b.toInt) hD hi ?_ ⟨⟨93, rfl, List.mem_singleton.mpr rfl⟩, ⟨a, rfl, by decide, by show a.toInt = a.toInt + 0; omega⟩, ⟨b, rfl, by decide, by show b.toInt = b.toInt + 0; omega⟩, trivial⟩ rfl ?_
  · intro v q hq
    match v, hq with
    | 0, hq => cases hq; exact fI_ok a
    | 1, hq => cases hq; exact fI_ok b
    | v + 2, hq => cases hq
  · intro v h' p q
    obtain ⟨r, e, -⟩ := qp_int (lo := -2147483648) (hi := 2147483647) q (by decide +kernel)
    exact e ▸ hQ r h' p
theorem pl_319 {X : Scr} {dp : Nat} {h : Hp} {Q : Option Value → Hp → Prop} (a : Int32) (hD : cD k_319 ≤ dp) (hi : INV h) (hQ : ∀ (r : Int32) h', INV h' → Q (some (.int r)) h') : Ends X dp 167 0 (entL (mMaxL 167) [.ref 93, .int a]) [] h Q := by
  refine st_plain (T := k_319) 319 (by rfl) (by decide +kernel) (ρ := fun _ => a.toInt) hD hi ?_ ⟨⟨93, rfl, List.mem_singleton.mpr rfl⟩, ⟨a, rfl, by decide, by show a.toInt = a.toInt + 0; omega⟩, trivial⟩ rfl ?_
  · intro v q hq
    match v, hq with
    | 0, hq => cases hq; exact fI_ok a
    | v + 1, hq => cases hq
  · intro v h' p q
    obtain ⟨r, e, -⟩ := qp_int (lo := -2147483648) (hi := 2147483647) q (by decide +kernel)
    exact e ▸ hQ r h' p
theorem pl_320 {X : Scr} {dp : Nat} {h : Hp} {Q : Option Value → Hp → Prop} (a : Int32) (hD : cD k_320 ≤ dp) (hi : INV h) (hQ : ∀ (r : Int32) h', INV h' → Q (some (.int r)) h') : Ends X dp 168 0 (entL (mMaxL 168) [.ref 93, .int a]) [] h Q := by
  refine st_plain (T := k_320) 320 (by rfl) (by decide +kernel) (ρ := fun _ => a.toInt) hD hi ?_ ⟨⟨93, rfl, List.mem_singleton.mpr rfl⟩, ⟨a, rfl, by decide, by show a.toInt = a.toInt + 0; omega⟩, trivial⟩ rfl ?_
  · intro v q hq
    match v, hq with
    | 0, hq => cases hq; exact fI_ok a
    | v + 1, hq => cases hq
  · intro v h' p q
    obtain ⟨r, e, -⟩ := qp_int (lo := -2147483648) (hi := 2147483647) q (by decide +kernel)
    exact e ▸ hQ r h' p
theorem pl_321 {X : Scr} {dp : Nat} {h : Hp} {Q : Option Value → Hp → Prop} (hD : cD k_321 ≤ dp) (hi : INV h) (hQ : ∀ (r : Int32) h', INV h' → Q (some (.int r)) h') : Ends X dp 169 0 (entL (mMaxL 169) [.ref 93]) [] h Q := by
  refine st_plain (T := k_321) 321 (by rfl) (by decide +kernel) (ρ := fun _ => 0) hD hi ?_ ⟨⟨93, rfl, List.mem_singleton.mpr rfl⟩, trivial⟩ rfl ?_
  · intro v q hq
    match v, hq with
    | v, hq => cases hq
  · intro v h' p q
    obtain ⟨r, e, -⟩ := qp_int (lo := -2147483648) (hi := 2147483647) q (by decide +kernel)
    exact e ▸ hQ r h' p
theorem pl_323 {X : Scr} {dp : Nat} {h : Hp} {Q : Option Value → Hp → Prop} (a : Int32) (hD : cD k_323 ≤ dp) (hi : INV h) (hQ : ∀ (r : Int32) h', INV h' → Q (some (.int r)) h') : Ends X dp 176 0 (entL (mMaxL 176) [.ref 93, .int a]) [] h Q := by
  refine st_plain (T := k_323) 323 (by rfl) (by decide +kernel) (ρ := fun _ => a.toInt) hD hi ?_ ⟨⟨93, rfl, List.mem_singleton.mpr rfl⟩, ⟨a, rfl, by decide, by show a.toInt = a.toInt + 0; omega⟩, trivial⟩ rfl ?_
  · intro v q hq
    match v, hq with
    | 0, hq => cases hq; exact fI_ok a
    | v + 1, hq => cases hq
  · intro v h' p q
    obtain ⟨r, e, -⟩ := qp_int (lo := -2147483648) (hi := 2147483647) q (by decide +kernel)
    exact e ▸ hQ r h' p
theorem pl_325 {X : Scr} {dp : Nat} {h : Hp} {Q : Option Value → Hp → Prop} (a b c : Int32) (hD : cD k_325 ≤ dp) (hi : INV h) (hQ : ∀ (r : Int64) h', INV h' → Q (some (.long r)) h') : Ends X dp 179 0 (entL (mMaxL 179) [.ref 93, .int a, .int b, .int c]) [] h Q := by
  refine st_plain (T := k_325) 325 (by rfl) (by decide +kernel) (ρ := fun v => if v = 0 then a.toInt else if v = 1 then b.toInt else c.toInt) hD hi ?_ ⟨⟨93, rfl, List.mem_singleton.mpr rfl⟩, ⟨a, rfl, by decide, by show a.toInt = a.toInt + 0; omega⟩, ⟨b, rfl, by decide, by show b.toInt = b.toInt + 0; omega⟩, ⟨c, rfl, by decide, by show c.toInt = c.toInt + 0; omega⟩, trivial⟩ rfl ?_
  · intro v q hq
    match v, hq with
    | 0, hq => cases hq; exact fI_ok a
    | 1, hq => cases hq; exact fI_ok b
    | 2, hq => cases hq; exact fI_ok c
    | v + 3, hq => cases hq
  · intro v h' p q
    obtain ⟨r, e⟩ := qp_lng q (by decide +kernel)
    exact e ▸ hQ r h' p
end JN97plain
section JN98plain2
/-! The plain calls with a truth or a long. -/
theorem bo2 {a b : Int32} (h1 : 0 ≤ b.toInt) (h2 : b.toInt ≤ 1) : bOK (fun v => if v = 0 then a.toInt else b.toInt) [fI, (0, 1)] := by
  intro v q hq
  match v, hq with
  | 0, hq => cases hq; exact i32r a
  | 1, hq => cases hq; exact ⟨h1, h2⟩
  | v + 2, hq => cases hq
theorem pl_56 {X : Scr} {dp : Nat} {h : Hp} {Q : Option Value → Hp → Prop} (a b : Int32) (h1 : 0 ≤ b.toInt) (h2 : b.toInt ≤ 1) (hD : cD k_56 ≤ dp) (hi : INV h) (hQ : ∀ (r : Int32) h', INV h' → Q (some (.int r)) h') : Ends X dp 66 0 (entL (mMaxL 66) [.ref 0, .int a, .int b]) [] h Q := by
  refine st_plain (T := k_56) 56 (by rfl) (by decide +kernel) (ρ := fun v => if v = 0 then a.toInt else b.toInt) hD hi (bo2 h1 h2) ⟨⟨0, rfl, List.mem_singleton.mpr rfl⟩, ⟨a, rfl, by decide, by show a.toInt = a.toInt + 0; omega⟩, ⟨b, rfl, by decide, by show b.toInt = b.toInt + 0; omega⟩, trivial⟩ rfl ?_
  intro v h' p q
  obtain ⟨r, e, -⟩ := qp_int (lo := -2147483648) (hi := 2147483647) q (by decide +kernel)
  exact e ▸ hQ r h' p
theorem pl_229 {X : Scr} {dp : Nat} {h : Hp} {Q : Option Value → Hp → Prop} (a b : Int32) (h1 : 0 ≤ b.toInt) (h2 : b.toInt ≤ 1) (hD : cD k_229 ≤ dp) (hi : INV h) (hQ : ∀ (r : Int32) h', INV h' → Q (some (.int r)) h') : Ends X dp 116 0 (entL (mMaxL 116) [.ref 93, .int a, .int b]) [] h Q := by
  refine st_plain (T := k_229) 229 (by rfl) (by decide +kernel) (ρ := fun v => if v = 0 then a.toInt else b.toInt) hD hi (bo2 h1 h2) ⟨⟨93, rfl, List.mem_singleton.mpr rfl⟩, ⟨a, rfl, by decide, by show a.toInt = a.toInt + 0; omega⟩, ⟨b, rfl, by decide, by show b.toInt = b.toInt + 0; omega⟩, trivial⟩ rfl ?_
  intro v h' p q
  obtain ⟨r, e, -⟩ := qp_int (lo := -2147483648) (hi := 2147483647) q (by decide +kernel)
  exact e ▸ hQ r h' p
theorem bo3l {a b : Int32} {c : Int64} : bOK (fun v => if v = 0 then a.toInt else if v = 1 then b.toInt else c.toInt) [fI, fI, fL] := by
  intro v q hq
  match v, hq with
  | 0, hq => cases hq; exact i32r a
  | 1, hq => cases hq; exact i32r b
  | 2, hq => cases hq; exact ⟨Int64.le_toInt c, Int64.toInt_le c⟩
  | v + 3, hq => cases hq
theorem pl_216 {X : Scr} {dp : Nat} {h : Hp} {Q : Option Value → Hp → Prop} (a b : Int32) (c : Int64) (hD : cD k_216 ≤ dp) (hi : INV h) (hQ : ∀ (r : Int32) h', INV h' → Q (some (.int r)) h') : Ends X dp 96 0 (entL (mMaxL 96) [.ref 0, .int a, .int b, .long c]) [] h Q := by
  refine st_plain (T := k_216) 216 (by rfl) (by decide +kernel) (ρ := fun v => if v = 0 then a.toInt else if v = 1 then b.toInt else c.toInt) hD hi bo3l ⟨⟨0, rfl, List.mem_singleton.mpr rfl⟩, ⟨a, rfl, by decide, by show a.toInt = a.toInt + 0; omega⟩, ⟨b, rfl, by decide, by show b.toInt = b.toInt + 0; omega⟩, ⟨c, rfl, by decide, by show c.toInt = c.toInt + 0; omega⟩, trivial⟩ rfl ?_
  intro v h' p q
  obtain ⟨r, e, -⟩ := qp_int (lo := -2147483648) (hi := 2147483647) q (by decide +kernel)
  exact e ▸ hQ r h' p
theorem pl_267 {X : Scr} {dp : Nat} {h : Hp} {Q : Option Value → Hp → Prop} (a b : Int32) (c : Int64) (hD : cD k_267 ≤ dp) (hi : INV h) (hQ : ∀ (r : Int32) h', INV h' → Q (some (.int r)) h') : Ends X dp 201 0 (entL (mMaxL 201) [.ref 93, .int a, .int b, .long c]) [] h Q := by
  refine st_plain (T := k_267) 267 (by rfl) (by decide +kernel) (ρ := fun v => if v = 0 then a.toInt else if v = 1 then b.toInt else c.toInt) hD hi bo3l ⟨⟨93, rfl, List.mem_singleton.mpr rfl⟩, ⟨a, rfl, by decide, by show a.toInt = a.toInt + 0; omega⟩, ⟨b, rfl, by decide, by show b.toInt = b.toInt + 0; omega⟩, ⟨c, rfl, by decide, by show c.toInt = c.toInt + 0; omega⟩, trivial⟩ rfl ?_
  intro v h' p q
  obtain ⟨r, e, -⟩ := qp_int (lo := -2147483648) (hi := 2147483647) q (by decide +kernel)
  exact e ▸ hQ r h' p
end JN98plain2
section JN99shift3
/-! The shift of either side keeps the loop's invariant. -/
theorem INV_C {h : Hp} {a b c d e : Nat} (hi : INV h) : INV (hpC h a b c d e) := hi
theorem csh_i {X : Scr} {dp : Nat} {h : Hp} {Q : Option Value → Hp → Prop} (t i o j n : Int32) (hi : INV h) (hQ : ∀ (r : Int32) h', INV h' → Q (some (.int r)) h') : Ends X (dp + 1 + 1) 98 0 [.ref 0, .int t, .int i, .int o, .int j, .int n] [] h Q := by
  refine csh_ok t i o j n hi.1 hi.2.2.2.2.2.1 (hQ _ _ ?_)
  split
  · exact INV_C hi
  · exact hi
theorem msh_i {X : Scr} {dp : Nat} {h : Hp} {Q : Option Value → Hp → Prop} (t i o j n : Int32) (hi : INV h) (hQ : ∀ (r : Int32) h', INV h' → Q (some (.int r)) h') : Ends X (dp + 1 + 1) 203 0 [.ref 93, .int t, .int i, .int o, .int j, .int n, .retAddr 0] [] h Q :=
  msh_ok t i o j n hi.1 (fun h' a b _ _ => hQ _ _ (INV_fr (W := WSh) (by decide) a b hi))
theorem spread_i {X : Scr} {dp : Nat} {h : Hp} {Q : Option Value → Hp → Prop} (k : Int32) (hd : 40 ≤ dp) (hi : INV h) (hQ : ∀ (r : Int32) h', INV h' → Q (some (.int r)) h') : Ends X (dp + 1 + 1 + 1) 173 0 [.ref 93, .int k, .retAddr 0, .retAddr 0, .retAddr 0, .retAddr 0, .retAddr 0] [] h Q :=
  spread_s k hd hi.1 hi.2.1 (by rw [hi.2.2.1]; rfl) (fun r h' a b _ => hQ r h' (INV_fr (W := WSP) (by decide) a b hi))
theorem behind_i {X : Scr} {dp : Nat} {h : Hp} {Q : Option Value → Hp → Prop} (p o : Int32) (hd : 40 ≤ dp) (hi : INV h) (hQ : ∀ (r : Int32) h', INV h' → Q (some (.int r)) h') : Ends X (dp + 1) 174 0 [.ref 93, .int p, .int o, .retAddr 0, .retAddr 0] [] h Q :=
  behind_s p o hd hi.1 hi.2.1 (fun r h' a b => hQ r h' (INV_fr (W := WBH) (by decide) a b hi))
theorem yard_i {X : Scr} {dp : Nat} {h : Hp} {Q : Option Value → Hp → Prop} (hi : INV h) (hQ : ∀ (r : Int32) h', INV h' → Q (some (.int r)) h') : Ends X (dp + 1 + 1 + 1 + 1 + 1 + 1 + 1) 133 0 [.ref 93, .retAddr 0] [] h Q := by
  refine yard_s hi.1 hi.2.1.1 (fun r h' a b c => hQ r h' ?_)
  obtain ⟨-, j1, g, s, q, ⟨x1, x2⟩, r1, r2, r3⟩ := hi
  have e : ∀ a k, inW WY a k = false → h'.2.1 a k = h.2.1 a k := fun a k hs => (b a k hs).1
  have er : ∀ a k, inW WY a k = false → h'.2.2.2 a k = h.2.2.2 a k := fun a k hs => (b a k hs).2.2
  refine ⟨a, ⟨c, by rw [e 93 30 rfl]; exact j1.2⟩, by rw [e 93 32 rfl]; exact g, by rw [e 93 1 rfl]; exact s, by rw [e 93 47 rfl]; exact q, ⟨fun i hi => ?_, fun i hi => ?_⟩, ?_, ?_, ?_⟩
  · rw [er 56 i (by simp [inW, WY])]; exact x1 i hi
  · rw [er 38 i (by simp [inW, WY])]; exact x2 i hi
  · rw [e 1 0 rfl, e 93 0 rfl]; exact r1
  · rw [e 9 0 rfl, e 93 46 rfl]; exact r2
  · rw [e 0 2 rfl, e 93 44 rfl]; exact r3
end JN99shift3
section JN99t0more
/-! A few more instructions: lengths, the tables ABOVE and BODIES, bytes and shorts. -/
section WALK2
variable {X : Scr} {dp y pc p0 len t : Nat} {o : List Nat} {L st : List Value} {h : Hp} {Q : Option Value → Hp → Prop}
theorem e_alen {a n : Nat} {v : Int32} (he : pAt y pc = some (p0, .arraylength, len, o)) (hs : HS h) (ha : (decide (a < 1000) && (match SHl[a]? with | some (.inl (t, m)) => decide (t < 5) && decide (m = n) | _ => false)) = true) (hv : Int32.ofNat n = v) (e : Ends X dp y (pc + 1) L (.int v :: st) h Q) : Ends X dp y pc L (.ref a :: st) h Q := by
  rw [Bool.and_eq_true, decide_eq_true_eq] at ha
  obtain ⟨ha, hb⟩ := ha
  refine e_pure he rfl rfl ?_ e
  have hB := OLDB_eq
  have h6 : a < OLDB := by omega
  simp only [hstep]
  rw [if_pos h6, hs.1]
  split at hb
  · rename_i t m hm
    rw [hm]
    rw [Bool.and_eq_true, decide_eq_true_eq, decide_eq_true_eq] at hb
    simp only
    rw [if_pos hb.1, hb.2, hv]
  · cases hb
theorem e_alenL {a : Nat} (he : pAt y pc = some (p0, .arraylength, len, o)) (hs : HS h) (ha : (decide (a < 1000) && decide (SHl[a]? = some (.inl (1, 60)))) = true) (e : Ends X dp y (pc + 1) L (.int 60 :: st) h Q) : Ends X dp y pc L (.ref a :: st) h Q := by
  simp only [Bool.and_eq_true, decide_eq_true_eq] at ha
  refine e_alen (n := 60) he hs ?_ rfl e
  rw [ha.2]
  simp [ha.1]
theorem e_gs1 {idx z w : Nat} (he : pAt y pc = some (p0, .getstatic idx, len, [0, z, w])) (e : Ends X dp y (pc + 3) L (.ref (OLDB + 1) :: st) h Q) : Ends X dp y pc L st h Q := e_pure he rfl rfl rfl e
theorem e_gs2 {idx z w : Nat} (he : pAt y pc = some (p0, .getstatic idx, len, [1, z, w])) (e : Ends X dp y (pc + 3) L (.ref (OLDB + 2) :: st) h Q) : Ends X dp y pc L st h Q := e_pure he rfl rfl rfl e
theorem e_i2b {a : Int32} (he : pAt y pc = some (p0, .i2b, len, o)) (e : Ends X dp y (pc + 1) L (.int a.toInt8.toInt32 :: st) h Q) : Ends X dp y pc L (.int a :: st) h Q := e_pure he rfl rfl rfl e
theorem e_i2s {a : Int32} (he : pAt y pc = some (p0, .i2s, len, o)) (e : Ends X dp y (pc + 1) L (.int a.toInt16.toInt32 :: st) h Q) : Ends X dp y pc L (.int a :: st) h Q := e_pure he rfl rfl rfl e
theorem e_so1 {j : Int32} (he : pAt y pc = some (p0, .iaload, len, o)) (hj : inB j 7 = true) (e : Ends X dp y (pc + 1) L (.int (aboveL.getD j.toNatClampNeg 0) :: st) h Q) : Ends X dp y pc L (.int j :: .ref (OLDB + 1) :: st) h Q := by
  refine e_pure he rfl rfl ?_ e
  simp only [hstep]
  have h7 : oldArr X 1 = some (0, 7, fun i => aboveL.getD i 0) := rfl
  have hn : ¬ OLDB + 1 < OLDB := by omega
  rw [if_neg hn, show OLDB + 1 - OLDB = 1 by omega, h7]
  simp only
  rw [if_pos hj]
theorem e_so2 {j : Int32} (he : pAt y pc = some (p0, .iaload, len, o)) (hj : inB j 21 = true) (e : Ends X dp y (pc + 1) L (.int (bodiesL.getD j.toNatClampNeg 0) :: st) h Q) : Ends X dp y pc L (.int j :: .ref (OLDB + 2) :: st) h Q := by
  refine e_pure he rfl rfl ?_ e
  simp only [hstep]
  have h7 : oldArr X 2 = some (0, 21, fun i => bodiesL.getD i 0) := rfl
  have hn : ¬ OLDB + 2 < OLDB := by omega
  rw [if_neg hn, show OLDB + 2 - OLDB = 2 by omega, h7]
  simp only
  rw [if_pos hj]
end WALK2
/-- more depth does no harm -/
theorem run_dp {X : Scr} : ∀ (n dp y pc : Nat) (L st : List Value) (h : Hp) (r : Option Value × Hp), run X n dp y pc L st h = some r → run X n (dp + 1) y pc L st h = some r
  | 0, _, _, _, _, _, _, _, hr => by cases hr
  | n + 1, dp, y, pc, L, st, h, r, hr => by
    rw [run] at hr ⊢
    split at hr
    · cases hr
    · rename_i pc0 i len o he
      try rw [he]
      try simp only
      split at hr
      · rename_i q hq
        try rw [hq]
        exact hr
      · rename_i hq
        try rw [hq]
        try simp only
        split at hr
        · rename_i c na kd hc
          try rw [hc]
          try simp only
          split at hr
          · cases hr
          · rename_i dp'
            obtain ⟨hok, hr⟩ := inv_if hr
            try simp only
            rw [if_pos hok]
            split at hr
            · rename_i rv h1 h1e
              rw [run_dp n _ _ _ _ _ _ _ h1e]
              exact run_dp n _ _ _ _ _ _ _ hr
            · cases hr
        · rename_i hc
          try rw [hc]
          try simp only
          split at hr
          · rename_i pc' L' st' h1 h1e
            try rw [h1e]
            exact run_dp n _ _ _ _ _ _ _ hr
          · cases hr
theorem run_dpl {X : Scr} {n dp dq y pc : Nat} {L st : List Value} {h : Hp} {r : Option Value × Hp} (hd : dp ≤ dq) (hr : run X n dp y pc L st h = some r) : run X n dq y pc L st h = some r := by
  induction hd with
  | refl => exact hr
  | step _ ih => exact run_dp _ _ _ _ _ _ _ _ ih
end JN99t0more
