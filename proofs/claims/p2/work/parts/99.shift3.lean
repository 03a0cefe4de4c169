/-! The shift of either side keeps the loop's invariant. -/
theorem INV_C {h : Hp} {a b c d e : Nat} (hi : INV h) : INV (hpC h a b c d e) := hi
theorem csh_i {X : Scr} {dp : Nat} {h : Hp} {Q : Option Value → Hp → Prop} (t i o j n : Int32) (hi : INV h) (hQ : ∀ (r : Int32) h', INV h' → Q (some (.int r)) h') : Ends X (dp + 1 + 1) 98 0 [.ref 0, .int t, .int i, .int o, .int j, .int n] [] h Q := by
  refine csh_ok t i o j n hi.1 hi.2.2.2.2.2.1 (hQ _ _ ?_)
  split
  · exact INV_C hi
  · exact hi
theorem msh_i {X : Scr} {dp : Nat} {h : Hp} {Q : Option Value → Hp → Prop} (t i o j n : Int32) (hi : INV h) (hQ : ∀ (r : Int32) h', INV h' → Q (some (.int r)) h') : Ends X (dp + 1 + 1) 203 0 [.ref 93, .int t, .int i, .int o, .int j, .int n, .retAddr 0] [] h Q :=
  msh_ok t i o j n hi.1 (fun h' a b _ _ => hQ _ _ (INV_fr (W := WSh) (by decide) a b hi))
theorem spread_i {X : Scr} {dp : Nat} {h : Hp} {Q : Option Value → Hp → Prop} (k : Int32) (hd : 40 ≤ dp) (hi : INV h) (hQ : ∀ (r : Int32) h', INV h' → Q (some (.int r)) h') : Ends X (dp + 1 + 1 + 1) 173 0 [.ref 93, .int k, .retAddr 0, .retAddr 0, .retAddr 0, .retAddr 0, .retAddr 0] [] h Q :=
  spread_s k hd hi.1 hi.2.1 (by rw [hi.2.2.1]; rfl) (fun r h' a b _ => hQ r h' (INV_fr (W := WSP) (by decide) a b hi))
theorem behind_i {X : Scr} {dp : Nat} {h : Hp} {Q : Option Value → Hp → Prop} (p o : Int32) (hd : 40 ≤ dp) (hi : INV h) (hQ : ∀ (r : Int32) h', INV h' → Q (some (.int r)) h') : Ends X (dp + 1) 174 0 [.ref 93, .int p, .int o, .retAddr 0, .retAddr 0] [] h Q :=
  behind_s p o hd hi.1 hi.2.1 (fun r h' a b => hQ r h' (INV_fr (W := WBH) (by decide) a b hi))
