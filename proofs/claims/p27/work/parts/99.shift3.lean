/-! The shift of either side keeps the loop's invariant. -/
theorem INV_C {h : Hp} {a b c d e : Nat} (hi : INV h) : INV (hpC h a b c d e) := hi
theorem csh_i {X : Scr} {dp : Nat} {h : Hp} {Q : Option Value → Hp → Prop} (t i o j n : Int32) (hi : INV h) (hQ : ∀ (r : Int32) h', INV h' → Q (some (.int r)) h') : Ends X (dp + 1 + 1) 98 0 [.ref 0, .int t, .int i, .int o, .int j, .int n] [] h Q := by
  refine csh_ok t i o j n hi.1 hi.2.2.2.2.2.1 (hQ _ _ ?_)
  split
  · exact INV_C hi
  · exact hi
theorem msh_i {X : Scr} {dp : Nat} {h : Hp} {Q : Option Value → Hp → Prop} (t i o j n : Int32) (hi : INV h) (hQ : ∀ (r : Int32) h', INV h' → Q (some (.int r)) h') : Ends X (dp + 1 + 1) 203 0 [.ref 93, .int t, .int i, .int o, .int j, .int n, .retAddr 0] [] h Q :=
  msh_ok t i o j n hi.1 (fun h' a b _ _ => hQ _ _ (INV_fr (W := WSh) (by decide) a b hi))
theorem spread_i {X : Scr} {dp : Nat} {h : Hp} {Q : Option Value → Hp → Prop} (k : Int32) (hd : 40 ≤ dp) (hi : INV h) (hQ : ∀ (r : Int32) h', INV h' → Q (some (.int r)) h') : Ends X (dp + 1 + 1 + 1) 173 0 [.ref 93, .int k, .retAddr 0, .retAddr 0, .retAddr 0, .retAddr 0, .retAddr 0] [] h Q :=
  spread_s k hd hi.1 hi.2.1 (by rw [hi.2.2.1]; rfl) (fun r h' a b _ => hQ r h' (INV_fr (W := WSP) (by decide) a b hi))
theorem behind_i {X : Scr} {dp : Nat} {h : Hp} {Q : Option Value → Hp → Prop} (p o : Int32) (hd : 40 ≤ dp) (hi : INV h) (hQ : ∀ (r : Int32) h', INV h' → Q (some (.int r)) h') : Ends X (dp + 1) 174 0 [.ref 93, .int p, .int o, .retAddr 0, .retAddr 0] [] h Q :=
  behind_s p o hd hi.1 hi.2.1 (fun r h' a b => hQ r h' (INV_fr (W := WBH) (by decide) a b hi))
theorem yard_i {X : Scr} {dp : Nat} {h : Hp} {Q : Option Value → Hp → Prop} (hi : INV h) (hQ : ∀ (r : Int32) h', INV h' → Q (some (.int r)) h') : Ends X (dp + 1 + 1 + 1 + 1 + 1 + 1 + 1) 133 0 [.ref 93, .retAddr 0] [] h Q := by
  refine yard_s hi.1 hi.2.1.1 (fun r h' a b c => hQ r h' ?_)
  obtain ⟨-, j1, g, s, q, ⟨x1, x2⟩, r1, r2, r3⟩ := hi
  have e : ∀ a k, inW WY a k = false → h'.2.1 a k = h.2.1 a k := fun a k hs => (b a k hs).1
  have er : ∀ a k, inW WY a k = false → h'.2.2.2 a k = h.2.2.2 a k := fun a k hs => (b a k hs).2.2
  refine ⟨a, ⟨c, by rw [e 93 30 rfl]; exact j1.2⟩, by rw [e 93 32 rfl]; exact g, by rw [e 93 1 rfl]; exact s, by rw [e 93 47 rfl]; exact q, ⟨fun i hi => ?_, fun i hi => ?_⟩, ?_, ?_, ?_⟩
  · rw [er 56 i (by simp [inW, WY])]; exact x1 i hi
  · rw [er 38 i (by simp [inW, WY])]; exact x2 i hi
  · rw [e 1 0 rfl, e 93 0 rfl]; exact r1
  · rw [e 9 0 rfl, e 93 46 rfl]; exact r2
  · rw [e 0 2 rfl, e 93 44 rfl]; exact r3
