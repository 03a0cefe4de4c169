/-! Sets of people as bits. -/
theorem bit_t : ∀ n, n < 128 → ∀ p, p < 7 → decide (((Int32.ofNat n >>> (Int32.ofNat p &&& 31)) &&& 1).toInt = 1) = n.testBit p := by decide +kernel
theorem bor_t : ∀ n, n < 128 → ∀ m, m < 128 → Int32.ofNat n ||| Int32.ofNat m = Int32.ofNat (n ||| m) := by decide +kernel
theorem ban_t : ∀ n, n < 128 → ∀ m, m < 128 → Int32.ofNat n &&& (Int32.ofNat m ^^^ (-1)) = Int32.ofNat (n &&& (127 ^^^ m)) := by decide +kernel
theorem shl_t : ∀ p, p < 7 → ((1 : Int32) <<< (Int32.ofNat p &&& 31)) = Int32.ofNat (2 ^ p) := by decide +kernel
theorem evy_t : ∀ n, n < 8 → ((1 : Int32) <<< (Int32.ofNat n &&& 31)) - 1 = Int32.ofNat (2 ^ n - 1) := by decide +kernel
theorem b127 : ∀ p, p < 7 → Nat.testBit 127 p = true := by decide
theorem bpow : ∀ p, p < 7 → ∀ q, q < 7 → Nat.testBit (2 ^ p) q = decide (q = p) := by decide
theorem bevy : ∀ n, n < 8 → ∀ q, q < 7 → Nat.testBit (2 ^ n - 1) q = decide (q < n) := by decide
/-- r is the set f of people -/
def BSET (r : Int32) (f : Nat → Bool) : Prop := ∃ n, n < 128 ∧ r = Int32.ofNat n ∧ ∀ p, p < 7 → n.testBit p = f p
theorem BSET.cg {r : Int32} {f g : Nat → Bool} (h : BSET r f) (e : ∀ p, p < 7 → f p = g p) : BSET r g := by
  obtain ⟨n, hn, rfl, hf⟩ := h
  exact ⟨n, hn, rfl, fun p hp => (hf p hp).trans (e p hp)⟩
theorem BSET.or {a b : Int32} {f g : Nat → Bool} (ha : BSET a f) (hb : BSET b g) : BSET (a ||| b) (fun p => f p || g p) := by
  obtain ⟨n, hn, rfl, hf⟩ := ha
  obtain ⟨m, hm, rfl, hg⟩ := hb
  exact ⟨n ||| m, Nat.or_lt_two_pow (n := 7) hn hm, bor_t n hn m hm, fun p hp => by rw [Nat.testBit_or, hf p hp, hg p hp]⟩
theorem BSET.no {a b : Int32} {f g : Nat → Bool} (ha : BSET a f) (hb : BSET b g) : BSET (a &&& (b ^^^ (-1))) (fun p => f p && !g p) := by
  obtain ⟨n, hn, rfl, hf⟩ := ha
  obtain ⟨m, hm, rfl, hg⟩ := hb
  refine ⟨n &&& (127 ^^^ m), Nat.and_lt_two_pow (n := 7) _ (Nat.xor_lt_two_pow (n := 7) (by decide) hm), ban_t n hn m hm, fun p hp => ?_⟩
  rw [Nat.testBit_and, Nat.testBit_xor, hf p hp, hg p hp, b127 p hp, Bool.true_xor]
theorem BSET.one {p : Int32} {pn : Nat} (hp : p.toInt = pn) (h7 : pn < 7) : BSET (1 <<< (p &&& 31)) (fun q => decide (q = pn)) := by
  have e := ofn hp
  subst e
  exact ⟨2 ^ pn, Nat.pow_lt_pow_right (by decide) h7, shl_t pn h7, fun q hq => bpow pn h7 q hq⟩
theorem BSET.zero : BSET 0 (fun _ => false) := ⟨0, by decide, rfl, fun p _ => Nat.zero_testBit p⟩
theorem BSET.every {n : Int32} {N : Nat} (hn : n.toInt = N) (h7 : N ≤ 7) : BSET ((1 <<< (n &&& 31)) - 1) (fun p => decide (p < N)) := by
  have e := ofn hn
  subst e
  refine ⟨2 ^ N - 1, ?_, evy_t N (by omega), fun q hq => bevy N (by omega) q hq⟩
  have : 2 ^ N ≤ 2 ^ 7 := Nat.pow_le_pow_right (by decide) h7
  omega
theorem BSET.inj {a b : Int32} {f : Nat → Bool} (ha : BSET a f) (hb : BSET b f) : a = b := by
  obtain ⟨n, hn, rfl, hf⟩ := ha
  obtain ⟨m, hm, rfl, hg⟩ := hb
  have e : n = m := by
    apply Nat.eq_of_testBit_eq
    intro i
    by_cases c : i < 7
    · rw [hf i c, hg i c]
    · have h2 : 2 ^ 7 ≤ 2 ^ i := Nat.pow_le_pow_right (by decide) (by omega)
      rw [Nat.testBit_lt_two_pow (by omega), Nat.testBit_lt_two_pow (by omega)]
  rw [e]
theorem BSET.bit {b p : Int32} {f : Nat → Bool} {pn : Nat} (hb : BSET b f) (hp : p.toInt = pn) (h7 : pn < 7) : decide (((b >>> (p &&& 31)) &&& 1).toInt = 1) = f pn := by
  have e := ofn hp
  subst e
  obtain ⟨n, hn, rfl, hf⟩ := hb
  rw [bit_t n hn pn h7, hf pn h7]
theorem BSET.rng {b : Int32} {f : Nat → Bool} (hb : BSET b f) : 0 ≤ b.toInt ∧ b.toInt < 128 := by
  obtain ⟨n, hn, rfl, hf⟩ := hb
  rw [Int32.toInt_ofNat_of_lt (by omega)]
  omega
/-- how many are in it -/
def pop (f : Nat → Bool) : Nat := (f 0).toNat + (f 1).toNat + (f 2).toNat + (f 3).toNat + (f 4).toNat + (f 5).toNat + (f 6).toNat
theorem pop_le (f : Nat → Bool) : pop f ≤ 7 := by
  have h : ∀ b : Bool, b.toNat ≤ 1 := by decide
  have := h (f 0); have := h (f 1); have := h (f 2); have := h (f 3); have := h (f 4); have := h (f 5); have := h (f 6)
  unfold pop
  omega
theorem pop_cg {f g : Nat → Bool} (e : ∀ p, p < 7 → f p = g p) : pop f = pop g := by
  unfold pop
  rw [e 0 (by decide), e 1 (by decide), e 2 (by decide), e 3 (by decide), e 4 (by decide), e 5 (by decide), e 6 (by decide)]
theorem bct_t : ∀ n, n < 128 → bctE (Int32.ofNat n) = Int32.ofNat (pop n.testBit) := by decide +kernel
section BITS
variable {X : Scr} {dp : Nat} {h : Hp} {Q : Option Value → Hp → Prop}
theorem isin_ok {b p : Int32} {f : Nat → Bool} {pn : Nat} (hb : BSET b f) (hp : p.toInt = pn) (h7 : pn < 7) (hs : HS h) (hQ : Q (some (.int (b2i (f pn)))) h) : Ends X dp 104 0 [.int b, .int p] [] h Q := by
  have t := hb.bit hp h7
  rw [← t] at hQ
  refine w_isin b p hs ⟨fun e => ?_, fun e => ?_⟩
  · have e : ¬ ((b >>> (p &&& 31)) &&& 1).toInt = 1 := of_decide_eq_true (cI e)
    rw [decide_eq_false e] at hQ
    exact hQ
  · have e : ¬ ¬ ((b >>> (p &&& 31)) &&& 1).toInt = 1 := of_decide_eq_false (cI e)
    rw [decide_eq_true (Decidable.not_not.mp e)] at hQ
    exact hQ
theorem bct_ok {b : Int32} {f : Nat → Bool} (hb : BSET b f) (hs : HS h) (hQ : ∀ r : Int32, r.toInt = (pop f : Int) → Q (some (.int r)) h) : Ends X dp 204 0 [.int b] [] h Q := by
  obtain ⟨n, hn, rfl, hf⟩ := hb
  refine w_bct _ hs ?_
  rw [bct_t n hn, pop_cg hf]
  have := pop_le f
  exact hQ _ (Int32.toInt_ofNat_of_lt (by omega))
theorem abs_ok {a : Int32} (hs : HS h) (ha : -1000000 ≤ a.toInt) (hQ : ∀ r : Int32, r.toInt = (if 0 ≤ a.toInt then a.toInt else -a.toInt) → Q (some (.int r)) h) : Ends X dp 206 0 [.int a] [] h Q := by
  have hr := i32r a
  simp only [fI] at hr
  have z0 : (0 : Int32).toInt = 0 := rfl
  refine w_abs a hs ⟨fun e => ?_, fun e => ?_⟩
  · have e : (0 : Int32).toInt ≤ a.toInt := of_decide_eq_true (cI e)
    exact hQ a (by rw [if_pos (by omega)])
  · have e : ¬ (0 : Int32).toInt ≤ a.toInt := of_decide_eq_false (cI e)
    refine hQ (-a) ?_
    rw [if_neg (by omega), i_neg (by omega)]
end BITS
