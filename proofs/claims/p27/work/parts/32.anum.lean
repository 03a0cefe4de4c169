/-! Numbers of 32 and 64 bits within bounds. -/
theorem bm32 {z : Int} (h1 : -2147483648 ≤ z) (h2 : z ≤ 2147483647) : z.bmod (2 ^ 32) = z := by
  apply Int.bmod_eq_of_le <;> omega
theorem bm64 {z : Int} (h1 : -9223372036854775808 ≤ z) (h2 : z ≤ 9223372036854775807) : z.bmod (2 ^ 64) = z := by
  apply Int.bmod_eq_of_le <;> omega
theorem i32r (x : Int32) : fI.1 ≤ x.toInt ∧ x.toInt ≤ fI.2 := by
  have h1 := x.le_toInt
  have h2 := x.toInt_lt
  constructor
  · show (-2147483648 : Int) ≤ _; omega
  · show _ ≤ (2147483647 : Int); omega
theorem i64r (x : Int64) : fL.1 ≤ x.toInt ∧ x.toInt ≤ fL.2 := by
  have h1 := x.le_toInt
  have h2 := x.toInt_lt
  constructor
  · show (-9223372036854775808 : Int) ≤ _; omega
  · show _ ≤ (9223372036854775807 : Int); omega
theorem i_add {x y : Int32} (h1 : -2147483648 ≤ x.toInt + y.toInt) (h2 : x.toInt + y.toInt ≤ 2147483647) : (x + y).toInt = x.toInt + y.toInt := by
  rw [Int32.toInt_add]; exact bm32 h1 h2
theorem i_sub {x y : Int32} (h1 : -2147483648 ≤ x.toInt - y.toInt) (h2 : x.toInt - y.toInt ≤ 2147483647) : (x - y).toInt = x.toInt - y.toInt := by
  rw [Int32.toInt_sub]; exact bm32 h1 h2
theorem i_mul {x y : Int32} (h1 : -2147483648 ≤ x.toInt * y.toInt) (h2 : x.toInt * y.toInt ≤ 2147483647) : (x * y).toInt = x.toInt * y.toInt := by
  rw [Int32.toInt_mul]; exact bm32 h1 h2
theorem l_add {x y : Int64} (h1 : -9223372036854775808 ≤ x.toInt + y.toInt) (h2 : x.toInt + y.toInt ≤ 9223372036854775807) : (x + y).toInt = x.toInt + y.toInt := by
  rw [Int64.toInt_add]; exact bm64 h1 h2
theorem l_sub {x y : Int64} (h1 : -9223372036854775808 ≤ x.toInt - y.toInt) (h2 : x.toInt - y.toInt ≤ 9223372036854775807) : (x - y).toInt = x.toInt - y.toInt := by
  rw [Int64.toInt_sub]; exact bm64 h1 h2
theorem bn (x : Int32) : x.toInt = if 2 * x.toBitVec.toNat < 2 ^ 32 then (x.toBitVec.toNat : Int) else (x.toBitVec.toNat : Int) - ((2 ^ 32 : Nat) : Int) := BitVec.toInt_eq_toNat_cond _
theorem bn_of {x : Int32} (h : 0 ≤ x.toInt) : (x.toBitVec.toNat : Int) = x.toInt ∧ x.toBitVec.toNat < 2 ^ 31 := by
  have h1 := bn x
  have h2 := x.toBitVec.isLt
  split at h1
  · omega
  · omega
theorem bn_to {x : Int32} (h : x.toBitVec.toNat < 2 ^ 31) : x.toInt = (x.toBitVec.toNat : Int) := by
  have h1 := bn x
  split at h1
  · exact h1
  · omega
theorem i_and1 {x y : Int32} (h : 0 ≤ x.toInt) : 0 ≤ (x &&& y).toInt ∧ (x &&& y).toInt ≤ x.toInt := by
  obtain ⟨h1, h2⟩ := bn_of h
  have h3 : (x &&& y).toBitVec.toNat = x.toBitVec.toNat &&& y.toBitVec.toNat := rfl
  have h4 : (x &&& y).toBitVec.toNat ≤ x.toBitVec.toNat := by rw [h3]; exact Nat.and_le_left
  have h5 := bn_to (x := x &&& y) (by omega)
  omega
theorem i_and2 {x y : Int32} (h : 0 ≤ y.toInt) : 0 ≤ (x &&& y).toInt ∧ (x &&& y).toInt ≤ y.toInt := by
  obtain ⟨h1, h2⟩ := bn_of h
  have h3 : (x &&& y).toBitVec.toNat = x.toBitVec.toNat &&& y.toBitVec.toNat := rfl
  have h4 : (x &&& y).toBitVec.toNat ≤ y.toBitVec.toNat := by rw [h3]; exact Nat.and_le_right
  have h5 := bn_to (x := x &&& y) (by omega)
  omega
theorem i_or {x y : Int32} {m : Int} (h1 : 0 ≤ x.toInt) (h2 : 0 ≤ y.toInt) (h3 : x.toInt ≤ m) (h4 : y.toInt ≤ m) (h5 : m ≤ 2147483647) : 0 ≤ (x ||| y).toInt ∧ (x ||| y).toInt ≤ 2 ^ (m.toNat.log2 + 1) - 1 := by
  obtain ⟨a1, a2⟩ := bn_of h1
  obtain ⟨b1, b2⟩ := bn_of h2
  have c1 : (x ||| y).toBitVec.toNat = x.toBitVec.toNat ||| y.toBitVec.toNat := rfl
  have e1 : m.toNat < 2 ^ (m.toNat.log2 + 1) := Nat.lt_log2_self
  have c2 : x.toBitVec.toNat ||| y.toBitVec.toNat < 2 ^ (m.toNat.log2 + 1) := Nat.or_lt_two_pow (by omega) (by omega)
  have c3 : x.toBitVec.toNat ||| y.toBitVec.toNat < 2 ^ 31 := Nat.or_lt_two_pow a2 b2
  have c4 := bn_to (x := x ||| y) (by omega)
  have c5 : ((2 ^ (m.toNat.log2 + 1) : Nat) : Int) = (2 : Int) ^ (m.toNat.log2 + 1) := by simp
  rw [c4, c1]
  constructor
  · omega
  · rw [← c5]; omega
theorem i_div {x y : Int32} (h1 : 0 ≤ x.toInt) (h2 : 0 < y.toInt) : 0 ≤ (x / y).toInt ∧ (x / y).toInt ≤ x.toInt := by
  have h3 := i32r x
  have e : (x / y).toInt = x.toInt.tdiv y.toInt := by
    rw [Int32.toInt_div]
    have q1 : 0 ≤ x.toInt.tdiv y.toInt := Int.tdiv_nonneg h1 (by omega)
    have q2 : x.toInt.tdiv y.toInt ≤ x.toInt := Int.tdiv_le_self _ h1
    exact bm32 (by omega) (by have := h3.2; simp only [fI] at this; omega)
  rw [e]
  exact ⟨Int.tdiv_nonneg h1 (by omega), Int.tdiv_le_self _ h1⟩
theorem i_rem {x y : Int32} (h2 : 0 < y.toInt) : (x - x / y * y).toInt = x.toInt.tmod y.toInt := by
  have h3 := i32r x
  have h4 := i32r y
  simp only [fI] at h3 h4
  have hm : x.toInt.tmod y.toInt + y.toInt * x.toInt.tdiv y.toInt = x.toInt := Int.tmod_add_mul_tdiv _ _
  have hl : x.toInt.tmod y.toInt < y.toInt := Int.tmod_lt_of_pos _ h2
  have hg : -y.toInt < x.toInt.tmod y.toInt := by
    rcases Int.lt_or_le x.toInt 0 with h | h
    · have := Int.tmod_lt_of_pos (-x.toInt) h2
      rw [Int.neg_tmod] at this
      omega
    · have := Int.tmod_nonneg y.toInt h
      omega
  have hd : (x / y).toInt = x.toInt.tdiv y.toInt := by
    rw [Int32.toInt_div]
    rcases Int.lt_or_le x.toInt 0 with h | h
    · have q1 : 0 ≤ (-x.toInt).tdiv y.toInt := Int.tdiv_nonneg (by omega) (by omega)
      have q2 : (-x.toInt).tdiv y.toInt ≤ -x.toInt := Int.tdiv_le_self _ (by omega)
      rw [Int.neg_tdiv] at q1 q2
      exact bm32 (by omega) (by omega)
    · have q1 : 0 ≤ x.toInt.tdiv y.toInt := Int.tdiv_nonneg h (by omega)
      have q2 : x.toInt.tdiv y.toInt ≤ x.toInt := Int.tdiv_le_self _ h
      exact bm32 (by omega) (by omega)
  have hsg : (x.toInt.tmod y.toInt = 0) ∨ (0 ≤ x.toInt ∧ 0 ≤ x.toInt.tmod y.toInt) ∨ (x.toInt ≤ 0 ∧ x.toInt.tmod y.toInt ≤ 0) := by
    rcases Int.lt_or_le x.toInt 0 with h | h
    · right; right
      refine ⟨by omega, ?_⟩
      have := Int.tmod_nonneg y.toInt (show 0 ≤ -x.toInt by omega)
      rw [Int.neg_tmod] at this
      omega
    · right; left
      exact ⟨h, Int.tmod_nonneg _ h⟩
  have hmu : (x / y * y).toInt = x.toInt.tdiv y.toInt * y.toInt := by
    rw [i_mul (by rw [hd, Int.mul_comm]; omega) (by rw [hd, Int.mul_comm]; omega), hd]
  rw [i_sub (by rw [hmu, Int.mul_comm]; omega) (by rw [hmu, Int.mul_comm]; omega), hmu, Int.mul_comm]
  omega
theorem i_shr {x y : Int32} (h : 0 ≤ x.toInt) : 0 ≤ (x >>> (y &&& 31)).toInt ∧ (x >>> (y &&& 31)).toInt ≤ x.toInt := by
  have e : ∃ k : Nat, (x >>> (y &&& 31)).toInt = x.toInt >>> k := ⟨_, BitVec.toInt_sshiftRight'⟩
  obtain ⟨k, e⟩ := e
  rw [e, Int.shiftRight_eq_div_pow]
  constructor
  · exact Int.ediv_nonneg h (by exact_mod_cast Nat.zero_le _)
  · exact Int.ediv_le_self _ h
theorem i_shl {y : Int32} (h1 : 0 ≤ y.toInt) (h2 : y.toInt ≤ 30) : ((1 : Int32) <<< (y &&& 31)).toInt = 2 ^ y.toInt.toNat := by
  have key : ∀ n : Nat, n ≤ 30 → ((1 : Int32) <<< ((Int32.ofNat n) &&& 31)).toInt = 2 ^ n := by decide
  have hy : y = Int32.ofNat y.toInt.toNat := by
    apply Int32.toInt.inj
    rw [Int32.toInt_ofNat_of_lt (by omega)]
    omega
  have := key y.toInt.toNat (by omega)
  rw [← hy] at this
  exact this
