/-! Small contracts by hand. -/
theorem qp_new {B : Bd} {r : Int × Int} {src : List (Nat × Nat)} {ρ : Nat → Int} {x : Int32} {h : Hp} (hb : bOK ρ B) (h1 : r.1 ≤ x.toInt) (h2 : x.toInt ≤ r.2) : Qpost B.length ρ [(B ++ [r], [iT (B.length + 1, 0)], [], src)] (some (.int x)) h := by
  have he : ext B.length ρ (fun v => if v < B.length then ρ v else x.toInt) := fun v hv => if_pos hv
  refine ⟨_, List.mem_singleton.mpr rfl, fun v => if v < B.length then ρ v else x.toInt, he, ?_, ?_, ⟨⟨x, rfl, ?_, ?_⟩, trivial⟩, fun q hq => by cases hq⟩
  · intro v q hq
    have hq : (B ++ [r])[v]? = some q := hq
    by_cases hv : v < B.length
    · rw [List.getElem?_append_left hv] at hq
      simp only [if_pos hv]
      exact hb v q hq
    · rw [List.getElem?_append_right (by omega)] at hq
      simp only [if_neg hv]
      have hz : v - B.length = 0 := by
        have := (List.getElem?_eq_some_iff.mp hq).1
        simp at this
        omega
      rw [hz] at hq
      cases hq
      exact ⟨h1, h2⟩
  · show B.length ≤ (B ++ [r]).length
    simp
  · show B.length + 1 ≤ (B ++ [r]).length
    simp
  · show x.toInt = (if B.length < B.length then ρ B.length else x.toInt) + 0
    rw [if_neg (Nat.lt_irrefl _)]
    omega
theorem cI {q : Jvm.ClassFile.Cond} {x y : Int32} {b : Bool} (h : condB q x y = b) : cndI q x.toInt y.toInt = b := by rw [← condB_I]; exact h
theorem z0 : (0 : Int32).toInt = 0 := rfl
/-- the rest of a division by a number above 0, as floorMod has it -/
theorem fm_ok {X : Scr} {dp : Nat} {h : Hp} {Q : Option Value → Hp → Prop} (x z : Int32) (hs : HS h) (hz : 0 < z.toInt) (hQ : ∀ r : Int32, r.toInt = x.toInt % z.toInt → Q (some (.int r)) h) : Ends X dp 205 0 [.int x, .int z, .retAddr 0] [] h Q := by
  have hr := i_rem (x := x) hz
  have h1 : x.toInt % z.toInt = if 0 ≤ x.toInt.tmod z.toInt then x.toInt.tmod z.toInt else x.toInt.tmod z.toInt + z.toInt := by
    have e1 := Int.tmod_eq_emod (a := x.toInt) (b := z.toInt)
    have b1 := Int.emod_nonneg x.toInt (b := z.toInt) (by omega)
    have b2 := Int.emod_lt_of_pos x.toInt hz
    rw [e1]
    split <;> split <;> omega
  have hb := i32r x
  have hb2 := i32r z
  simp only [fI] at hb hb2
  have t1 : x.toInt.tmod z.toInt < z.toInt := Int.tmod_lt_of_pos _ hz
  have t2 : -z.toInt < x.toInt.tmod z.toInt := by
    have := Int.tmod_eq_emod (a := x.toInt) (b := z.toInt)
    have b1 := Int.emod_nonneg x.toInt (b := z.toInt) (by omega)
    have b2 := Int.emod_lt_of_pos x.toInt hz
    rw [this]
    split <;> omega
  have hx : ∀ r : Int32, (0 ≤ (r ^^^ z).toInt ↔ (0 ≤ r.toInt ↔ 0 ≤ z.toInt)) := by
    intro r
    have e : (r ^^^ z).toBitVec = r.toBitVec ^^^ z.toBitVec := rfl
    have m : ∀ w : Int32, (0 ≤ w.toInt ↔ w.toBitVec.msb = false) := by
      intro w
      have h1 := bn w
      have h2 : w.toBitVec.msb = decide (2 ^ (32 - 1) ≤ w.toBitVec.toNat) := BitVec.msb_eq_decide _
      have h3 := w.toBitVec.isLt
      rw [h2, decide_eq_false_iff_not]
      split at h1 <;> omega
    rw [m, m, m, e, BitVec.msb_xor]
    cases r.toBitVec.msb <;> cases z.toBitVec.msb <;> decide
  refine w_fm x z hs ⟨fun e => by rw [e] at hz; exact absurd hz (by decide), fun c => ?_, fun c => ⟨fun d => ?_, fun d => ?_⟩⟩
  · have c := cI c
    rw [z0] at c
    have c : 0 ≤ (x ^^^ z).toInt := of_decide_eq_true c
    refine hQ _ ?_
    rw [hr, h1]
    by_cases hn : 0 ≤ x.toInt.tmod z.toInt
    · rw [if_pos hn]
    · exfalso
      have hxn : ¬ 0 ≤ x.toInt := fun q => hn (by
        have := Int.tmod_eq_emod (a := x.toInt) (b := z.toInt)
        have b1 := Int.emod_nonneg x.toInt (b := z.toInt) (by omega)
        rw [this, if_pos (Or.inl q)]
        omega)
      have := (hx x).mp c
      omega
  · have d := cI d
    rw [z0] at d
    have d : (x - x / z * z).toInt = 0 := of_decide_eq_true d
    refine hQ _ ?_
    rw [d]
    rw [hr] at d
    rw [h1, d, if_pos (Int.le_refl _)]
  · have c := cI c
    have d := cI d
    rw [z0] at c d
    have c : ¬ 0 ≤ (x ^^^ z).toInt := of_decide_eq_false c
    have d : ¬ (x - x / z * z).toInt = 0 := of_decide_eq_false d
    have hxn : ¬ 0 ≤ x.toInt := fun q => c ((hx x).mpr ⟨fun _ => by omega, fun _ => q⟩)
    refine hQ _ ?_
    rw [hr] at d
    have hn : ¬ 0 ≤ x.toInt.tmod z.toInt := fun q => by
      have := Int.tmod_eq_emod (a := x.toInt) (b := z.toInt)
      have e : ¬ z.toInt ∣ x.toInt := fun w => d (Int.tmod_eq_zero_of_dvd w)
      rw [if_neg (by rintro (u | u); exact hxn u; exact e u)] at this
      have b2 := Int.emod_lt_of_pos x.toInt hz
      omega
    rw [i_add (by rw [hr]; omega) (by rw [hr]; omega), hr, h1, if_neg hn]

/-- a number by its bits, up to seven of them -/
def popN (n : Nat) : Nat := ((List.range 7).filter (fun i => n.testBit i)).length
theorem pop_step : ∀ n, n < 128 → n ≠ 0 → (n &&& (n - 1)) < n ∧ popN (n &&& (n - 1)) + 1 = popN n ∧ popN n ≤ 7 := by decide +kernel
theorem i_pred {x : Int32} (h1 : 0 < x.toInt) (h2 : x.toInt < 128) : (x &&& (x - 1)).toInt = ((x.toInt.toNat &&& (x.toInt.toNat - 1) : Nat) : Int) := by
  have e1 : (x - 1).toInt = x.toInt - 1 := i_sub (by have : (1 : Int32).toInt = 1 := rfl; omega) (by have : (1 : Int32).toInt = 1 := rfl; omega)
  obtain ⟨a1, a2⟩ := bn_of (x := x) (by omega)
  obtain ⟨b1, b2⟩ := bn_of (x := x - 1) (by omega)
  have e3 : (x &&& (x - 1)).toBitVec.toNat = x.toBitVec.toNat &&& (x - 1).toBitVec.toNat := by
    show (x.toBitVec &&& (x - 1).toBitVec).toNat = _
    exact BitVec.toNat_and ..
  have e4 : (x &&& (x - 1)).toBitVec.toNat < 2 ^ 31 := by
    rw [e3]
    exact Nat.lt_of_le_of_lt Nat.and_le_left a2
  rw [bn_to e4, e3]
  have e5 : x.toBitVec.toNat = x.toInt.toNat := by omega
  have e6 : (x - 1).toBitVec.toNat = x.toInt.toNat - 1 := by omega
  rw [e5, e6]
theorem ones_loop {X : Scr} {dp : Nat} {h : Hp} {Q : Option Value → Hp → Prop} (a : Int32) (hs : HS h) : ∀ (m : Nat) (n l : Int32), l.toInt = m → m < 128 → 0 ≤ n.toInt → n.toInt + popN m ≤ 1000 → (∀ r : Int32, r.toInt = n.toInt + popN m → Q (some (.int r)) h) → Ends X dp 111 4 [.ref 93, .int a, .int n, .int l] [] h Q := by
  intro m
  induction m using Nat.strongRecOn with
  | ind m ih =>
    intro n l hl hm h0 hn hQ
    refine w_on1 a n l hs ⟨fun c => ?_, fun c => ?_⟩
    · have c : l.toInt = 0 := of_decide_eq_true (cI c)
      have : m = 0 := by omega
      subst this
      exact hQ n (by show n.toInt = n.toInt + 0; omega)
    · have c : ¬ l.toInt = 0 := of_decide_eq_false (cI c)
      have hm0 : m ≠ 0 := by omega
      obtain ⟨p1, p2, p3⟩ := pop_step m hm hm0
      have o1 : (1 : Int32).toInt = 1 := rfl
      have e1 : (n + 1).toInt = n.toInt + 1 := i_add (by omega) (by omega)
      have e2 := i_pred (x := l) (by omega) (by omega)
      have e3 : l.toInt.toNat = m := by omega
      rw [e3] at e2
      exact ih _ p1 (n + 1) _ e2 (by omega) (by omega) (by omega) (fun r hr => hQ r (by omega))
theorem ones_ok {X : Scr} {dp : Nat} {h : Hp} {Q : Option Value → Hp → Prop} (a : Int32) (hs : HS h) (h1 : 0 ≤ a.toInt) (h2 : a.toInt < 128) (hQ : ∀ r : Int32, r.toInt = popN a.toInt.toNat → Q (some (.int r)) h) : Ends X dp 111 0 [.ref 93, .int a, .retAddr 0, .retAddr 0] [] h Q := by
  refine w_on0 a hs ?_
  have hp : popN a.toInt.toNat ≤ 7 := by
    have : (List.range 7).length = 7 := rfl
    exact Nat.le_trans (List.length_filter_le _ _) (Nat.le_of_eq this)
  have z : (0 : Int32).toInt = 0 := rfl
  refine ones_loop a hs a.toInt.toNat 0 a (by omega) (by omega) (by omega) (by omega) (fun r hr => hQ r (by omega))
/-- Euclid's way -/
theorem dv_loop {X : Scr} {dp : Nat} {h : Hp} {Q : Option Value → Hp → Prop} (a b : Int32) (hs : HS h) : ∀ (m : Nat) (p q : Int32) (v : Value), q.toInt = m → 0 ≤ p.toInt → (∀ r : Int32, r.toInt = Nat.gcd p.toInt.toNat m → Q (some (.int r)) h) → Ends X dp 177 5 [.ref 93, .int a, .int b, .int p, .int q, v] [] h Q := by
  intro m
  induction m using Nat.strongRecOn with
  | ind m ih =>
    intro p q v hq hp hQ
    refine w_dv5 a b p q v hs ⟨fun c => ?_, fun c => ⟨fun e => ?_, ?_⟩⟩
    · have c : q.toInt = 0 := of_decide_eq_true (cI c)
      have : m = 0 := by omega
      subst this
      exact hQ p (by rw [Nat.gcd_zero_right]; omega)
    · have c : ¬ q.toInt = 0 := of_decide_eq_false (cI c)
      rw [e] at c
      exact c rfl
    · have c : ¬ q.toInt = 0 := of_decide_eq_false (cI c)
      have e1 := i_rem (x := p) (y := q) (by omega)
      have e2 : p.toInt.tmod q.toInt = ((p.toInt.toNat % m : Nat) : Int) := by
        obtain ⟨k, hk⟩ := Int.eq_ofNat_of_zero_le hp
        rw [hk, hq]
        show (((k % m : Nat)) : Int) = _
        rw [Int.toNat_natCast]
      have hl : p.toInt.toNat % m < m := Nat.mod_lt _ (by omega)
      refine ih _ hl q _ _ (e1.trans e2) (by omega) (fun r hr => hQ r ?_)
      rw [hr, show q.toInt.toNat = m by omega]
      have : Nat.gcd m (p.toInt.toNat % m) = Nat.gcd p.toInt.toNat m := by rw [Nat.gcd_comm m (p.toInt.toNat % m), ← Nat.gcd_rec, Nat.gcd_comm]
      rw [this]
theorem dv_ok {X : Scr} {dp : Nat} {h : Hp} {Q : Option Value → Hp → Prop} (a b : Int32) (hs : HS h) (h1 : 0 ≤ a.toInt) (h2 : 0 ≤ b.toInt) (hQ : ∀ r : Int32, r.toInt = Nat.gcd a.toInt.toNat b.toInt.toNat → Q (some (.int r)) h) : Ends X dp 177 0 [.ref 93, .int a, .int b, .retAddr 0, .retAddr 0, .retAddr 0] [] h Q :=
  w_dv0 a b hs (dv_loop a b hs b.toInt.toNat a b _ (by omega) h1 hQ)
theorem g_fm10 {J : JV} : Good J h_fm10 := by
  intro X dp ρ h as hD hh hK hb hA hF
  match as, hA with
  | [_, _], ⟨⟨x, rfl, hx⟩, ⟨z, rfl, hz⟩, _⟩ =>
    have hz : z.toInt = 10 := hz.2
    refine fm_ok x z hh.hs (by omega) (fun r hr => ⟨hh, frm_refl, ?_⟩)
    rw [hz] at hr
    exact qp_new (B := [fI]) (r := (0, 9)) hb (by show (0 : Int) ≤ _; omega) (by show _ ≤ (9 : Int); omega)
theorem g_fm4 {J : JV} : Good J h_fm4 := by
  intro X dp ρ h as hD hh hK hb hA hF
  match as, hA with
  | [_, _], ⟨⟨x, rfl, hx⟩, ⟨z, rfl, hz⟩, _⟩ =>
    have hz : z.toInt = 4 := hz.2
    refine fm_ok x z hh.hs (by omega) (fun r hr => ⟨hh, frm_refl, ?_⟩)
    rw [hz] at hr
    exact qp_new (B := [fI]) (r := (0, 3)) hb (by show (0 : Int) ≤ _; omega) (by show _ ≤ (3 : Int); omega)
theorem g_fm7 {J : JV} : Good J h_fm7 := by
  intro X dp ρ h as hD hh hK hb hA hF
  match as, hA with
  | [_, _], ⟨⟨x, rfl, hx⟩, ⟨z, rfl, hz⟩, _⟩ =>
    have hz : z.toInt = 7 := hz.2
    refine fm_ok x z hh.hs (by omega) (fun r hr => ⟨hh, frm_refl, ?_⟩)
    rw [hz] at hr
    exact qp_new (B := [(0, 600)]) (r := (0, 6)) hb (by show (0 : Int) ≤ _; omega) (by show _ ≤ (6 : Int); omega)
theorem g_ones {J : JV} : Good J h_ones := by
  intro X dp ρ h as hD hh hK hb hA hF
  match as, hA with
  | [_, _], ⟨⟨a, rfl, ha⟩, ⟨x, rfl, hx⟩, _⟩ =>
    have ha : a = 93 := List.mem_singleton.mp ha
    subst ha
    have hx : x.toInt = ρ 0 + 0 := hx.2
    have h0 := hb 0 _ rfl
    simp only at h0
    refine ones_ok x hh.hs (by omega) (by omega) (fun r hr => ⟨hh, frm_refl, ?_⟩)
    have hp : popN x.toInt.toNat ≤ 7 := by
      have : (List.range 7).length = 7 := rfl
      exact Nat.le_trans (List.length_filter_le _ _) (Nat.le_of_eq this)
    exact qp_new (B := [(0, 127)]) (r := (0, 32)) hb (by show (0 : Int) ≤ _; omega) (by show _ ≤ (32 : Int); omega)
theorem g_div {J : JV} : Good J h_div := by
  intro X dp ρ h as hD hh hK hb hA hF
  match as, hA with
  | [_, _, _], ⟨⟨a, rfl, ha⟩, ⟨x, rfl, hx⟩, ⟨z, rfl, hz⟩, _⟩ =>
    have ha : a = 93 := List.mem_singleton.mp ha
    subst ha
    have hx : x.toInt = ρ 0 + 0 := hx.2
    have hz : z.toInt = ρ 1 + 0 := hz.2
    have h0 := hb 0 _ rfl
    have h1 := hb 1 _ rfl
    simp only at h0 h1
    refine dv_ok x z hh.hs (by omega) (by omega) (fun r hr => ⟨hh, frm_refl, ?_⟩)
    have hp := Nat.gcd_pos_of_pos_right x.toInt.toNat (n := z.toInt.toNat) (by omega)
    have hp2 := i32r r
    simp only [fI] at hp2
    exact qp_new (B := [(0, 1100), (1, 30)]) (r := (1, 2147483647)) hb (by show (1 : Int) ≤ _; omega) (by show _ ≤ (2147483647 : Int); omega)
