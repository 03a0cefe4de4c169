section JN99tz4ccalls2
/-! The class's calls: moved, odds, best, need, hands, alone, behind. -/
section CALLS2
variable {X : Scr} {Q : Option Value → Hp → Prop} {q : Nat} {S : Nat → Nat → Int} {Y : Int} {cs : List Cl} {m : List Int} {N : Nat} {K : Nat → Bool} {h : Hp}
/-- those whom a lane of one lets be caught -/
def zLan (S : Nat → Nat → Int) (Y : Int) (cs : List Cl) (m : List Int) (N : Nat) (K : Nat → Bool) (c l : Nat) : Nat → Bool := zC (upS S 2 c l) Y cs m N K
def zMovF (S : Nat → Nat → Int) (Y : Int) (cs : List Cl) (m : List Int) (N : Nat) (K : Nat → Bool) (sn : Int) (c : Nat) : Nat → Bool := fun l => decide (zint (zLan S Y cs m N K c l) = sn)
def zMov (S : Nat → Nat → Int) (Y : Int) (cs : List Cl) (m : List Int) (N : Nat) (K : Nat → Bool) (sn : Int) (pI : Int32) : Int := if ¬ isP N pI then -1 else if K pI.toInt.toNat = false then -3 else zint (zset (zMovF S Y cs m N K sn pI.toInt.toNat) 7)
theorem zset_S {f : Nat → Bool} {sI lI : Int32} {l : Nat} (hs : BSET sI (zset f l)) (hl : lI.toInt = l) (l7 : l < 7) : (f l = true → BSET (sI ||| (1 <<< (lI &&& 31))) (zset f (l + 1))) ∧ (f l = false → BSET sI (zset f (l + 1))) := by
  constructor
  · intro c
    refine (hs.or (BSET.one hl l7)).cg (fun x _ => ?_)
    show _ = (zset f l x || (f l && decide (x = l)))
    rw [c, Bool.true_and]
  · intro c
    refine hs.cg (fun x _ => ?_)
    show _ = (zset f l x || (f l && decide (x = l)))
    rw [c, Bool.false_and, Bool.or_false]
theorem cmov_go {dp : Nat} (mk : MOK S Y N) (yk : YOK cs m) (sn : Int) (pI : Int32) (p : Nat) (hp : pI.toInt = p) (p7 : p < 7) : ∀ (n l : Nat) (sI lI : Int32) (h : Hp), l + n = 7 → lI.toInt = l → BSET sI (zset (zMovF S Y cs m N K sn p) l) → (h.2.1 1 9).toInt = sn → AST q S Y cs m N K h → HI h → (∀ (r : Int32) h1, HI h1 → frm WTQ h h1 → BSET r (zset (zMovF S Y cs m N K sn p) 7) → Q (some (.int r)) h1) → Ends X (dp + 1 + 1 + 1 + 1 + 1 + 1) 83 31 [.ref 0, .int pI, .int sI, .int lI] [] h Q
  | n, l, sI, lI, h, hn, hl, hs, h9, ha, hh, hQ => by
    have j7 : (7 : Int32).toInt = 7 := rfl
    refine w_cmov1 pI sI lI hh.hs ⟨fun e => ?_, fun e => ?_⟩
    · have e : (7 : Int32).toInt ≤ lI.toInt := of_decide_eq_true (cJ e)
      have : l = 7 := by omega
      subst this
      exact hQ sI h hh frm_refl hs
    have e : ¬ (7 : Int32).toInt ≤ lI.toInt := of_decide_eq_false (cJ e)
    obtain ⟨n, rfl⟩ : ∃ k, n = k + 1 := ⟨n - 1, by omega⟩
    have n1 : (lI + 1).toInt = ((l + 1 : Nat) : Int) := by rw [i_add (by rw [i1]; omega) (by rw [i1]; omega), i1]; omega
    have st := zset_S hs hl (by omega)
    refine cfrm_ok ha mk yk hh pI lI p l hp p7 hl (by omega) (fun r3 h2 g2 f2 b3 => ⟨r3, rfl, g2.hs, ?_⟩)
    have e9 : h2.2.1 1 9 = h.2.1 1 9 := frI f2 rfl
    rw [e9]
    have go := fun sI' hs' => cmov_go (dp := dp) mk yk sn pI p hp p7 n (l + 1) sI' (lI + 1) h2 (by omega) n1 hs' (by rw [e9]; exact h9) (ha.fr f2) g2 (fun r h1 d1 d2 d3 => hQ r h1 d1 (frm_trans f2 d2) d3)
    have bv : r3.toInt = zint (zLan S Y cs m N K p l) := b3.val
    refine ⟨fun c => go _ (st.2 ?_), fun c => go _ (st.1 ?_)⟩
    · have c : ¬ r3.toInt = (h.2.1 1 9).toInt := of_decide_eq_true (cJ c)
      exact decide_eq_false (by omega)
    · have c : ¬ ¬ r3.toInt = (h.2.1 1 9).toInt := of_decide_eq_false (cJ c)
      exact decide_eq_true (by omega)
theorem cmov_ok {dp : Nat} (ha : AST q S Y cs m N K h) (mk : MOK S Y N) (yk : YOK cs m) (hh : HI h) (pI : Int32) (hQ : ∀ (r : Int32) h1, HI h1 → frm WTQ h h1 → r.toInt = zMov S Y cs m N K (h.2.1 1 9).toInt pI → Q (some (.int r)) h1) : Ends X (dp + 1 + 1 + 1 + 1 + 1 + 1) 83 0 [.ref 0, .int pI, .retAddr 0, .retAddr 0] [] h Q := by
  have N7 := mk.2.2.2
  unfold zMov at hQ
  refine w_cmov0 pI hh.hs (cis_ok ha hh pI ⟨_, rfl, hh.hs, fun e => ?_, fun e => ?_⟩)
  · have e := of_decide_eq_true (cn2 e)
    have hp : pI.toInt = (pI.toInt.toNat : Int) := by omega
    rw [if_neg (fun z => z e)] at hQ
    refine dct_ok ha hh.hs pI pI.toInt.toNat hp (by omega) ⟨_, rfl, hh.hs, fun e4 => ?_, fun e4 => ?_⟩
    · rw [if_neg (by rw [cn2 e4]; decide)] at hQ
      exact cmov_go mk yk _ pI pI.toInt.toNat hp (by omega) 7 0 0 0 h (by decide) rfl BSET.zero rfl ha hh (fun r h1 d1 d2 d3 => hQ r h1 d1 d2 d3.val)
    · rw [if_pos (cz2 e4)] at hQ
      exact hQ _ h hh frm_refl rfl
  · have e := of_decide_eq_false (cz2 e)
    exact hQ _ h hh frm_refl (by rw [if_pos e]; rfl)
/-- lowest terms -/
def zLow (a b : Int) (p : Int) : Int := if p = 0 then a / (Nat.gcd a.toNat b.toNat : Int) else b / (Nat.gcd a.toNat b.toNat : Int)
theorem clow_go {dp : Nat} (hs : HS h) (aI bI pI : Int32) (a b : Nat) (hA : aI.toInt = a) (hB : bI.toInt = b) (hb0 : 0 < b) (hb : b ≤ 30) (hQ : ∀ r : Int64, r.toInt = zLow a b pI.toInt → Q (some (.long r)) h) : ∀ (t : Nat) (d r : Nat) (dI rI iI : Int32) (x : Value), dI.toInt = d → rI.toInt = r → iI.toInt + t = 64 → 0 ≤ iI.toInt → (r ≤ t ∨ (iI.toInt = 0 ∧ d ≤ 30 ∧ r ≤ 1000)) → 0 < d → d ≤ 1000 → r ≤ 1000 → Nat.gcd d r = Nat.gcd a b → Ends X dp 107 8 [.int aI, .int bI, .int pI, .int dI, .int rI, .int iI, x] [] h Q
  | t, d, r, dI, rI, iI, x, hd, hr, hi, hi0, hrt, hd0, hd9, hr9, hg => by
    have z0' : (0 : Int32).toInt = 0 := rfl
    have j64 : (64 : Int32).toInt = 64 := rfl
    -- the end
    have fin : r = 0 → ((condB .ne dI 0 = true → ((condB .ne pI 0 = true → (¬ dI = 0 ∧ Q (some (.long ((bI / dI).toInt64))) h)) ∧ (condB .ne pI 0 = false → (¬ dI = 0 ∧ Q (some (.long ((aI / dI).toInt64))) h)))) ∧ (condB .ne dI 0 = false → Q (some (.long (-9223372036854775808))) h)) := by
      intro r0
      subst r0
      rw [Nat.gcd_zero_right] at hg
      have d0 : ¬ dI = 0 := fun z => by rw [z] at hd; omega
      refine ⟨fun _ => ⟨fun c => ⟨d0, hQ _ ?_⟩, fun c => ⟨d0, hQ _ ?_⟩⟩, fun c => ?_⟩
      · have c : ¬ pI.toInt = (0 : Int32).toInt := of_decide_eq_true (cJ c)
        unfold zLow
        rw [Int32.toInt_toInt64, if_neg (by omega), i_dv (by omega) (by omega), hB, hd, show Int.toNat (a : Int) = a from rfl, show Int.toNat (b : Int) = b from rfl, hg]
      · have c : ¬ ¬ pI.toInt = (0 : Int32).toInt := of_decide_eq_false (cJ c)
        unfold zLow
        rw [Int32.toInt_toInt64, if_pos (by omega), i_dv (by omega) (by omega), hA, hd, show Int.toNat (a : Int) = a from rfl, show Int.toNat (b : Int) = b from rfl, hg]
      · exfalso
        have c : ¬ ¬ dI.toInt = (0 : Int32).toInt := of_decide_eq_false (cJ c)
        omega
    refine w_clow1 aI bI pI dI rI iI x hs ⟨fun e => ?_, fun e => ⟨fun e2 => ?_, fun e2 => ?_⟩⟩
    · have e : (64 : Int32).toInt ≤ iI.toInt := of_decide_eq_true (cJ e)
      exact fin (by omega)
    · have e2 : rI.toInt = (0 : Int32).toInt := of_decide_eq_true (cJ e2)
      exact fin (by omega)
    · have e : ¬ (64 : Int32).toInt ≤ iI.toInt := of_decide_eq_false (cJ e)
      have e2 : ¬ rI.toInt = (0 : Int32).toInt := of_decide_eq_false (cJ e2)
      have r0 : 0 < r := by omega
      have q1 : (dI / rI).toInt = ((d / r : Nat) : Int) := by rw [i_dv (by omega) (by omega), hd, hr]; rfl
      have le1 : d / r * r ≤ d := Nat.div_mul_le_self d r
      have le2 : ((d / r : Nat) : Int) * (r : Int) = ((d / r * r : Nat) : Int) := (Int.natCast_mul _ _).symm
      have q2 : (dI / rI * rI).toInt = ((d / r * r : Nat) : Int) := by rw [i_mul (by rw [q1, hr, le2]; omega) (by rw [q1, hr, le2]; omega), q1, hr, le2]
      have md : d % r = d - d / r * r := by rw [Nat.mul_comm]; exact Nat.mod_def d r
      have q3 : (dI - dI / rI * rI).toInt = ((d % r : Nat) : Int) := by rw [i_sub (by omega) (by omega), q2, hd, md]; omega
      have lt : d % r < r := Nat.mod_lt d r0
      have n1 : (iI + 1).toInt = iI.toInt + 1 := by rw [i_add (by rw [i1]; omega) (by rw [i1]; omega), i1]
      obtain ⟨t, rfl⟩ : ∃ k, t = k + 1 := ⟨t - 1, by omega⟩
      have lt2 : d % r ≤ d := Nat.mod_le d r
      refine ⟨fun z => by rw [z] at hr; omega, clow_go hs aI bI pI a b hA hB hb0 hb hQ t r (d % r) _ _ _ _ hr q3 (by omega) (by omega) (Or.inl (by omega)) r0 hr9 (by omega) ?_⟩
      rw [← hg, Nat.gcd_comm r (d % r), ← Nat.gcd_rec r d, Nat.gcd_comm]
theorem clow_ok {dp : Nat} (hs : HS h) (aI bI pI : Int32) (a b : Nat) (hA : aI.toInt = a) (hB : bI.toInt = b) (hb0 : 0 < b) (hb : b ≤ 30) (ha : a ≤ 1000) (hQ : ∀ r : Int64, r.toInt = zLow a b pI.toInt → Q (some (.long r)) h) : Ends X dp 107 0 [.int aI, .int bI, .int pI, .retAddr 0, .retAddr 0, .retAddr 0, .retAddr 0] [] h Q :=
  w_clow0 aI bI pI hs (clow_go hs aI bI pI a b hA hB hb0 hb hQ 64 b a _ _ _ _ hB hA rfl (by decide) (Or.inr ⟨rfl, hb, ha⟩) hb0 (by omega) ha (Nat.gcd_comm b a))
/-- how many of the first so many have f -/
def zct (f : Nat → Bool) : Nat → Nat
  | 0 => 0
  | l + 1 => zct f l + (f l).toNat
theorem zct_le (f : Nat → Bool) : ∀ l, zct f l ≤ l
  | 0 => Nat.le_refl _
  | l + 1 => by
    have i := zct_le f l
    have : (f l).toNat ≤ 1 := by cases f l <;> decide
    show zct f l + (f l).toNat ≤ _
    omega
def zOddF (S : Nat → Nat → Int) (Y : Int) (cs : List Cl) (m : List Int) (N : Nat) (K : Nat → Bool) (p c : Nat) : Nat → Bool := fun l => zLan S Y cs m N K c l p
def zNO : Int := -9223372036854775808
def zOdd (S : Nat → Nat → Int) (Y : Int) (cs : List Cl) (m : List Int) (N : Nat) (K : Nat → Bool) (pI cI aI : Int32) : Int := if ¬ isP N pI ∨ ¬ isP N cI ∨ ¬ is01 aI then zNO else if K pI.toInt.toNat = true ∨ K cI.toInt.toNat = false then zNO else zLow (zct (zOddF S Y cs m N K pI.toInt.toNat cI.toInt.toNat) 7) 7 aI.toInt
theorem codd_go {dp : Nat} (mk : MOK S Y N) (yk : YOK cs m) (pI cI aI : Int32) (p c : Nat) (hp : pI.toInt = p) (p7 : p < 7) (hc : cI.toInt = c) (c7 : c < 7) : ∀ (n l : Nat) (nI lI : Int32) (h : Hp), l + n = 7 → lI.toInt = l → nI.toInt = zct (zOddF S Y cs m N K p c) l → AST q S Y cs m N K h → HI h → (∀ (r : Int64) h1, HI h1 → frm WTQ h h1 → r.toInt = zLow (zct (zOddF S Y cs m N K p c) 7) 7 aI.toInt → Q (some (.long r)) h1) → Ends X (dp + 1 + 1 + 1 + 1 + 1 + 1) 84 67 [.ref 0, .int pI, .int cI, .int aI, .int nI, .int lI] [] h Q
  | n, l, nI, lI, h, hn, hl, hv, ha, hh, hQ => by
    have j7 : (7 : Int32).toInt = 7 := rfl
    have zl := zct_le (zOddF S Y cs m N K p c) l
    refine w_codd1 pI cI aI nI lI hh.hs ⟨fun e => ?_, fun e => ?_⟩
    · have e : (7 : Int32).toInt ≤ lI.toInt := of_decide_eq_true (cJ e)
      have : l = 7 := by omega
      subst this
      exact clow_ok hh.hs nI 7 aI _ 7 hv rfl (by decide) (by decide) (by omega) (fun r hr => ⟨r, rfl, hh.hs, hQ r h hh frm_refl hr⟩)
    have e : ¬ (7 : Int32).toInt ≤ lI.toInt := of_decide_eq_false (cJ e)
    obtain ⟨n, rfl⟩ : ∃ k, n = k + 1 := ⟨n - 1, by omega⟩
    have n1 : (lI + 1).toInt = ((l + 1 : Nat) : Int) := by rw [i_add (by rw [i1]; omega) (by rw [i1]; omega), i1]; omega
    have pS : zct (zOddF S Y cs m N K p c) (l + 1) = zct (zOddF S Y cs m N K p c) l + (zOddF S Y cs m N K p c l).toNat := rfl
    refine cfrm_ok ha mk yk hh cI lI c l hc c7 hl (by omega) (fun r6 h5 g5 f5 b6 => ⟨r6, rfl, g5.hs, isin_ok b6 hp p7 g5.hs ⟨_, rfl, g5.hs, fun e2 => ?_, fun e2 => ?_⟩⟩)
    · have e2 : zOddF S Y cs m N K p c l = false := cz e2
      exact codd_go mk yk pI cI aI p c hp p7 hc c7 n (l + 1) _ _ h5 (by omega) n1 (by rw [pS, e2]; exact hv) (ha.fr f5) g5 (fun r h1 d1 d2 d3 => hQ r h1 d1 (frm_trans f5 d2) d3)
    · have e2 : zOddF S Y cs m N K p c l = true := cn e2
      refine codd_go mk yk pI cI aI p c hp p7 hc c7 n (l + 1) _ _ h5 (by omega) n1 ?_ (ha.fr f5) g5 (fun r h1 d1 d2 d3 => hQ r h1 d1 (frm_trans f5 d2) d3)
      rw [pS, e2, i_add (by rw [i1]; omega) (by rw [i1]; omega), i1, hv]
      rfl
theorem codd_ok {dp : Nat} (ha : AST q S Y cs m N K h) (mk : MOK S Y N) (yk : YOK cs m) (hh : HI h) (pI cI aI : Int32) (hQ : ∀ (r : Int64) h1, HI h1 → frm WTQ h h1 → r.toInt = zOdd S Y cs m N K pI cI aI → Q (some (.long r)) h1) : Ends X (dp + 1 + 1 + 1 + 1 + 1 + 1) 84 0 [.ref 0, .int pI, .int cI, .int aI, .retAddr 0, .retAddr 0] [] h Q := by
  have N7 := mk.2.2.2
  have z0' : (0 : Int32).toInt = 0 := rfl
  have no : ((-9223372036854775808 : Int64)).toInt = zNO := rfl
  unfold zOdd at hQ
  refine w_codd0 pI cI aI hh.hs (cis_ok ha hh pI ⟨_, rfl, hh.hs, fun e => ?_, fun e => cis_ok ha hh cI ⟨_, rfl, hh.hs, fun e2 => ?_, fun e2 => ⟨fun e3 => ?_, fun e3 => ⟨fun e4 => ?_, fun e4 => ?_⟩⟩⟩⟩)
  · exact hQ _ h hh frm_refl (by rw [if_pos (Or.inl (of_decide_eq_false (cz e)))]; exact no)
  · exact hQ _ h hh frm_refl (by rw [if_pos (Or.inr (Or.inl (of_decide_eq_false (cz e2))))]; exact no)
  · have e3 : aI.toInt < (0 : Int32).toInt := of_decide_eq_true (cJ e3)
    exact hQ _ h hh frm_refl (by rw [if_pos (Or.inr (Or.inr (by omega)))]; exact no)
  · have e3 : ¬ aI.toInt < (0 : Int32).toInt := of_decide_eq_false (cJ e3)
    have e4 : aI.toInt ≤ (1 : Int32).toInt := of_decide_eq_true (cJ e4)
    rw [i1] at e4
    have e := of_decide_eq_true (cn e)
    have e2 := of_decide_eq_true (cn e2)
    have hp : pI.toInt = (pI.toInt.toNat : Int) := by omega
    have hc : cI.toInt = (cI.toInt.toNat : Int) := by omega
    rw [if_neg (by omega)] at hQ
    refine dct_ok ha hh.hs pI pI.toInt.toNat hp (by omega) ⟨_, rfl, hh.hs, fun e5 => ?_, fun e5 => dct_ok ha hh.hs cI cI.toInt.toNat hc (by omega) ⟨_, rfl, hh.hs, fun e6 => ?_, fun e6 => ?_⟩⟩
    · exact hQ _ h hh frm_refl (by rw [if_pos (Or.inl (cn2 e5))]; exact no)
    · rw [if_neg (by rw [cz2 e5, cn2 e6]; decide)] at hQ
      exact codd_go mk yk pI cI aI _ _ hp (by omega) hc (by omega) 7 0 0 0 h (by decide) rfl rfl ha hh hQ
    · exact hQ _ h hh frm_refl (by rw [if_pos (Or.inr (cz2 e6))]; exact no)
  · have e4 : ¬ aI.toInt ≤ (1 : Int32).toInt := of_decide_eq_false (cJ e4)
    rw [i1] at e4
    exact hQ _ h hh frm_refl (by rw [if_pos (Or.inr (Or.inr (by omega)))]; exact no)
/-- best: one sent to a lane isn't caught -/
def zBesF (S : Nat → Nat → Int) (Y : Int) (cs : List Cl) (m : List Int) (N : Nat) (K : Nat → Bool) (p : Nat) : Nat → Bool := fun l => !zcau S Y cs m K (zR N K) false p l (-1) 0 p
def zBes (S : Nat → Nat → Int) (Y : Int) (cs : List Cl) (m : List Int) (N : Nat) (K : Nat → Bool) (pI : Int32) : Int := if ¬ isP N pI then -1 else if K pI.toInt.toNat = true then -3 else zint (zset (zBesF S Y cs m N K pI.toInt.toNat) 7)
theorem NCS.one (hY : YB q) (hn : NCS q S Y cs m N K h) (pI lI : Int32) : DCS q S Y cs m N K (zR N K) false pI.toInt lI.toInt (-1) 0 (hpI (hpI h 17 13 pI) 17 14 lI) := by
  obtain ⟨⟨c1, c2, c3⟩, a2, a3, a4, a5, a6, a7, a8⟩ := hn
  refine ⟨⟨fun p hp => ?_, fun i hi => by rw [put_ne (by omega), put_ne (by omega)]; exact c2 i hi, by rw [put_ne (by omega), put_ne (by omega)]; exact c3⟩, (a2.put hY (by decide)).put hY (by decide), by rw [put_ne (by omega), put_ne (by omega)]; exact a3, ⟨K, fun _ => false, by rw [put_ne (by omega), put_ne (by omega)]; exact a4, by rw [put_ne (by omega), put_ne (by omega), a5]; exact BSET.zero, fun p _ => by rw [Bool.not_false, Bool.and_true], fun p _ => by rw [Bool.not_false, Bool.and_true]; rfl⟩, by rw [put_ne (by omega), put_ne (by omega)]; exact a6, by rw [put_ne (by omega), put_at], by rw [put_at], by rw [put_ne (by omega), put_ne (by omega)]; exact a8, fun z => absurd z (by decide)⟩
  rw [put_ne (by omega), put_ne (by omega), put_ne (by omega), put_ne (by omega), put_ne (by omega), put_ne (by omega), put_ne (by omega), put_ne (by omega), put_ne (by omega), put_ne (by omega)]
  exact c1 p hp
theorem iv_1714 : ivl 17 13 = (-2147483648, 2147483647) ∧ ivl 17 14 = (0, 6) ∧ ivl 17 12 = (0, 1) ∧ ivl 17 9 = (-2147483648, 2147483647) ∧ ivl 17 15 = (-1, 6) ∧ ivl 17 16 = (-2147483648, 2147483647) := by decide +kernel
theorem cbes_go {dp : Nat} (mk : MOK S Y N) (yk : YOK cs m) (pI : Int32) (p : Nat) (hp : pI.toInt = p) (p7 : p < 7) : ∀ (n l : Nat) (sI lI : Int32) (h : Hp), l + n = 7 → lI.toInt = l → BSET sI (zset (zBesF S Y cs m N K p) l) → AST q S Y cs m N K h → HI h → (∀ (r : Int32) h1, HI h1 → frm WTQ h h1 → BSET r (zset (zBesF S Y cs m N K p) 7) → Q (some (.int r)) h1) → Ends X (dp + 1 + 1 + 1 + 1 + 1) 76 31 [.ref 0, .int pI, .int sI, .int lI] [] h Q
  | n, l, sI, lI, h, hn, hl, hs, ha, hh, hQ => by
    have j7 : (7 : Int32).toInt = 7 := rfl
    refine w_cbes1 pI sI lI hh.hs ⟨fun e => ?_, fun e => ?_⟩
    · have e : (7 : Int32).toInt ≤ lI.toInt := of_decide_eq_true (cJ e)
      have : l = 7 := by omega
      subst this
      exact hQ sI h hh frm_refl hs
    have e : ¬ (7 : Int32).toInt ≤ lI.toInt := of_decide_eq_false (cJ e)
    obtain ⟨n, rfl⟩ : ∃ k, n = k + 1 := ⟨n - 1, by omega⟩
    have n1 : (lI + 1).toInt = ((l + 1 : Nat) : Int) := by rw [i_add (by rw [i1]; omega) (by rw [i1]; omega), i1]; omega
    have st := zset_S hs hl (by omega)
    refine asks_ok ha hh (fun h2 g2 f2 n2 => ⟨rfl, g2.hs, w_snd pI lI g2.hs ⟨rfl, g2.hs, ?_⟩⟩)
    have d2 := n2.one ha.1 pI lI
    rw [hp, hl] at d2
    have g5 : HI (hpI (hpI h2 17 13 pI) 17 14 lI) := HI_put (HI_full g2 iv_1714.1) (by rw [iv_1714.2.1]; omega) (by rw [iv_1714.2.1]; omega)
    have f5 : frm WTQ h (hpI (hpI h2 17 13 pI) 17 14 lI) := frm_put (frm_put f2 rfl) rfl
    refine cau_ok ha.1 mk.1 mk.2.1 yk mk.2.2.1 mk.2.2.2 (Or.inl rfl) g5 d2 (fun r9 h8 g8 f8 _ b9 => ⟨r9, rfl, g8.hs, isin_ok b9 hp p7 g8.hs ⟨_, rfl, g8.hs, ?_⟩⟩)
    have f := frm_trans f5 (WCX_T f8)
    have go := fun sI' hs' => cbes_go (dp := dp) mk yk pI p hp p7 n (l + 1) sI' (lI + 1) h8 (by omega) n1 hs' (ha.fr f) g8 (fun r h1 d1 d2 d3 => hQ r h1 d1 (frm_trans f d2) d3)
    refine ⟨fun c => go _ (st.2 ?_), fun c => go _ (st.1 ?_)⟩
    · unfold zBesF
      rw [cn2 c]
      rfl
    · unfold zBesF
      rw [cz2 c]
      rfl
theorem cbes_ok {dp : Nat} (ha : AST q S Y cs m N K h) (mk : MOK S Y N) (yk : YOK cs m) (hh : HI h) (pI : Int32) (hQ : ∀ (r : Int32) h1, HI h1 → frm WTQ h h1 → r.toInt = zBes S Y cs m N K pI → Q (some (.int r)) h1) : Ends X (dp + 1 + 1 + 1 + 1 + 1) 76 0 [.ref 0, .int pI, .retAddr 0, .retAddr 0] [] h Q := by
  have N7 := mk.2.2.2
  unfold zBes at hQ
  refine w_cbes0 pI hh.hs (cis_ok ha hh pI ⟨_, rfl, hh.hs, fun e => ?_, fun e => ?_⟩)
  · have e := of_decide_eq_true (cn2 e)
    have hp : pI.toInt = (pI.toInt.toNat : Int) := by omega
    rw [if_neg (fun z => z e)] at hQ
    refine dct_ok ha hh.hs pI pI.toInt.toNat hp (by omega) ⟨_, rfl, hh.hs, fun e4 => ?_, fun e4 => ?_⟩
    · rw [if_neg (by rw [cz e4]; decide)] at hQ
      exact cbes_go mk yk pI pI.toInt.toNat hp (by omega) 7 0 0 0 h (by decide) rfl BSET.zero ha hh (fun r h1 d1 d2 d3 => hQ r h1 d1 d2 d3.val)
    · rw [if_pos (cn e4)] at hQ
      exact hQ _ h hh frm_refl rfl
  · have e := of_decide_eq_false (cz2 e)
    exact hQ _ h hh frm_refl (by rw [if_pos e]; rfl)
/-- need: with this strength it isn't caught -/
def zNeeF (S : Nat → Nat → Int) (Y : Int) (cs : List Cl) (m : List Int) (N : Nat) (K : Nat → Bool) (p : Nat) : Nat → Bool := fun s => !zC (upS S 4 p s) Y cs m N K p
def zNee (S : Nat → Nat → Int) (Y : Int) (cs : List Cl) (m : List Int) (N : Nat) (K : Nat → Bool) (pI : Int32) : Int := if ¬ isP N pI then -1 else if K pI.toInt.toNat = true then -3 else zff (zNeeF S Y cs m N K pI.toInt.toNat) 10 0
theorem cnee_go {dp : Nat} (hY : YB q) (mk : MOK S Y N) (yk : YOK cs m) (pI : Int32) (p : Nat) (hp : pI.toInt = p) (p7 : p < 7) : ∀ (n s : Nat) (sI : Int32) (S' : Nat → Nat → Int) (h : Hp), s + n = 10 → sI.toInt = s → (∀ v, upS S' 4 p v = upS S 4 p v) → NCS q S' Y cs m N K h → HI h → (∀ (r : Int32) h1, HI h1 → frm WTQ h h1 → r.toInt = zff (zNeeF S Y cs m N K p) n s → Q (some (.int r)) h1) → Ends X (dp + 1 + 1 + 1 + 1 + 1) 77 33 [.ref 0, .int pI, .int sI] [] h Q
  | n, s, sI, S', h, hn, hl, hS, hc, hh, hQ => by
    have j9 : (9 : Int32).toInt = 9 := rfl
    refine w_cnee1 pI sI hh.hs ⟨fun e => ?_, fun e => ⟨inB_iff (by omega) (by omega), ?_⟩⟩
    · have e : (9 : Int32).toInt < sI.toInt := of_decide_eq_true (cJ e)
      have : n = 0 := by omega
      subst this
      exact hQ _ h hh frm_refl rfl
    have e : ¬ (9 : Int32).toInt < sI.toInt := of_decide_eq_false (cJ e)
    obtain ⟨n, rfl⟩ : ∃ k, n = k + 1 := ⟨n - 1, by omega⟩
    have n1 : (sI + 1).toInt = ((s + 1 : Nat) : Int) := by rw [i_add (by rw [i1]; omega) (by rw [i1]; omega), i1]; omega
    rw [show pI.toNatClampNeg = p by show pI.toInt.toNat = _; omega]
    have g2 : HI (hpI h 23 p sI) := HI_put hh (by rw [iv_23 p p7]; omega) (by rw [iv_23 p p7]; omega)
    have f2 : frm WTQ h (hpI h 23 p sI) := frm_put frm_refl (by simp [inW, WTQ])
    have n2 := hc.up4 (p := p) (v := sI) hY
    rw [hl, hS] at n2
    unfold zff at hQ
    refine ncau_ok hY (mk.up4 (by omega)) yk g2 n2 (fun r4 h3 g3 f3 n3 _ b4 => ⟨r4, rfl, g3.hs, isin_ok b4 hp p7 g3.hs ⟨_, rfl, g3.hs, fun c => ?_, fun c => ?_⟩⟩)
    · have c := cn2 c
      have f := frm_trans f2 (WCX_T f3)
      refine cnee_go hY mk yk pI p hp p7 n (s + 1) _ (upS S 4 p s) h3 (by omega) n1 (fun v => upS_up) n3 g3 (fun r h1 d1 d2 d3 => hQ r h1 d1 (frm_trans f d2) ?_)
      rw [if_neg]
      · exact d3
      · unfold zNeeF
        rw [c]
        decide
    · have c := cz2 c
      refine hQ _ h3 g3 (frm_trans f2 (WCX_T f3)) ?_
      rw [if_pos]
      · exact hl
      · unfold zNeeF
        rw [c]
        rfl
theorem cnee_ok {dp : Nat} (ha : AST q S Y cs m N K h) (mk : MOK S Y N) (yk : YOK cs m) (hh : HI h) (pI : Int32) (hQ : ∀ (r : Int32) h1, HI h1 → frm WTQ h h1 → r.toInt = zNee S Y cs m N K pI → Q (some (.int r)) h1) : Ends X (dp + 1 + 1 + 1 + 1 + 1) 77 0 [.ref 0, .int pI, .retAddr 0] [] h Q := by
  have N7 := mk.2.2.2
  unfold zNee at hQ
  refine w_cnee0 pI hh.hs (cis_ok ha hh pI ⟨_, rfl, hh.hs, fun e => ?_, fun e => ?_⟩)
  · have e := of_decide_eq_true (cn2 e)
    have hp : pI.toInt = (pI.toInt.toNat : Int) := by omega
    rw [if_neg (fun z => z e)] at hQ
    refine dct_ok ha hh.hs pI pI.toInt.toNat hp (by omega) ⟨_, rfl, hh.hs, fun e4 => ?_, fun e4 => ?_⟩
    · rw [if_neg (by rw [cz e4]; decide)] at hQ
      exact asks_ok ha hh (fun h9 g9 f9 n9 => ⟨rfl, g9.hs, cnee_go ha.1 mk yk pI pI.toInt.toNat hp (by omega) 10 0 0 S h9 (by decide) rfl (fun _ => rfl) n9 g9 (fun r h1 d1 d2 d3 => hQ r h1 d1 (frm_trans f9 d2) d3)⟩)
    · rw [if_pos (cn e4)] at hQ
      exact hQ _ h hh frm_refl rfl
  · have e := of_decide_eq_false (cz2 e)
    exact hQ _ h hh frm_refl (by rw [if_pos e]; rfl)
/-- hands -/
def zHan (S : Nat → Nat → Int) (Y : Int) (cs : List Cl) (m : List Int) (N : Nat) (K : Nat → Bool) : Int := zff (zcau S Y cs m K (zR N K) true (-1) 0 (-1) 0) 7 0
theorem cfin_go {dp : Nat} (hs : HS h) (bI : Int32) (f : Nat → Bool) (hb : BSET bI f) (hQ0 : ∀ r : Int32, r.toInt = zff f 7 0 → Q (some (.int r)) h) : ∀ (n p : Nat) (pI : Int32), p + n = 7 → pI.toInt = p → zff f n p = zff f 7 0 → Ends X (dp + 1) 105 2 [.int bI, .int pI] [] h Q
  | n, p, pI, hn, hp, hz => by
    have j7 : (7 : Int32).toInt = 7 := rfl
    refine w_cfin1 bI pI hs ⟨fun e => ?_, fun e => ?_⟩
    · have e : (7 : Int32).toInt ≤ pI.toInt := of_decide_eq_true (cJ e)
      have : n = 0 := by omega
      subst this
      exact hQ0 _ hz
    have e : ¬ (7 : Int32).toInt ≤ pI.toInt := of_decide_eq_false (cJ e)
    obtain ⟨n, rfl⟩ : ∃ k, n = k + 1 := ⟨n - 1, by omega⟩
    have n1 : (pI + 1).toInt = ((p + 1 : Nat) : Int) := by rw [i_add (by rw [i1]; omega) (by rw [i1]; omega), i1]; omega
    have hz : (if f p = true then (p : Int) else zff f n (p + 1)) = zff f 7 0 := hz
    refine isin_ok hb hp (by omega) hs ⟨_, rfl, hs, fun c => ?_, fun c => ?_⟩
    · rw [if_neg (by rw [cz c]; decide)] at hz
      exact cfin_go hs bI f hb hQ0 n (p + 1) _ (by omega) n1 hz
    · rw [if_pos (cn c)] at hz
      exact hQ0 _ (by rw [← hz]; exact hp)
theorem cfin_ok {dp : Nat} (hs : HS h) (bI : Int32) (f : Nat → Bool) (hb : BSET bI f) (hQ0 : ∀ r : Int32, r.toInt = zff f 7 0 → Q (some (.int r)) h) : Ends X (dp + 1) 105 0 [.int bI, .retAddr 0] [] h Q :=
  w_cfin0 bI hs (cfin_go hs bI f hb hQ0 7 0 0 (by decide) rfl rfl)
theorem NCS.cg17 (hn : NCS q S Y cs m N K h) {k : Nat} {v : Int32} : CG (hpI h 17 k v) S Y := by
  obtain ⟨⟨c1, c2, c3⟩, -⟩ := hn
  refine ⟨fun p hp => ?_, fun i hi => by rw [put_ne (by omega)]; exact c2 i hi, by rw [put_ne (by omega)]; exact c3⟩
  rw [put_ne (by omega), put_ne (by omega), put_ne (by omega), put_ne (by omega), put_ne (by omega)]
  exact c1 p hp
theorem chan_ok {dp : Nat} (ha : AST q S Y cs m N K h) (mk : MOK S Y N) (yk : YOK cs m) (hh : HI h) (hQ : ∀ (r : Int32) h1, HI h1 → frm WTQ h h1 → r.toInt = zHan S Y cs m N K → Q (some (.int r)) h1) : Ends X (dp + 1 + 1 + 1 + 1 + 1) 78 0 [.ref 0] [] h Q := by
  refine w_chan hh.hs (asks_ok ha hh (fun h1 g1 f1 n1 => ⟨rfl, g1.hs, ?_⟩))
  have g2 : HI (hpI h1 17 12 1) := HI_put g1 (by rw [iv_1714.2.2.1]; decide) (by rw [iv_1714.2.2.1]; decide)
  have cg := n1.cg17 (k := 12) (v := 1)
  obtain ⟨a1, a2, a3, a4, a5, a6, a7, a8⟩ := n1
  have d2 : DCS q S Y cs m N K (zR N K) true (-1) ((hpI h1 17 12 1).2.1 17 14).toInt (-1) 0 (hpI h1 17 12 1) := ⟨cg, a2.put ha.1 (by decide), by rw [put_ne (by omega)]; exact a3, ⟨K, fun _ => false, by rw [put_ne (by omega)]; exact a4, by rw [put_ne (by omega), a5]; exact BSET.zero, fun p _ => by rw [Bool.not_false, Bool.and_true], fun p _ => by rw [Bool.not_false, Bool.and_true]; rfl⟩, by rw [put_at]; rfl, by rw [put_ne (by omega)]; exact a7, rfl, by rw [put_ne (by omega)]; exact a8, fun z => absurd z (by decide)⟩
  refine cau_ok ha.1 mk.1 mk.2.1 yk mk.2.2.1 mk.2.2.2 (Or.inl rfl) g2 d2 (fun r5 h4 g4 f4 _ b5 => ⟨r5, rfl, g4.hs, ?_⟩)
  rw [zcau_t (t' := 0) (by decide)] at b5
  exact cfin_ok g4.hs r5 _ b5 (fun r hr => ⟨r, rfl, g4.hs, hQ r h4 g4 (frm_trans (frm_put f1 rfl) (WCX_T f4)) hr⟩)
/-- alone: that one catches alone, the others who catch are not there -/
def zAlo (S : Nat → Nat → Int) (Y : Int) (cs : List Cl) (m : List Int) (N : Nat) (K : Nat → Bool) (pI : Int32) : Int := if ¬ isP N pI then -1 else if K pI.toInt.toNat = false then -3 else (pop (zcau S Y cs m (fun x => decide (x = pI.toInt.toNat)) (zR N K) false (-1) 0 (-1) 0) : Int)
theorem calo_ok {dp : Nat} (ha : AST q S Y cs m N K h) (mk : MOK S Y N) (yk : YOK cs m) (hh : HI h) (pI : Int32) (hQ : ∀ (r : Int32) h1, HI h1 → frm WTQ h h1 → r.toInt = zAlo S Y cs m N K pI → Q (some (.int r)) h1) : Ends X (dp + 1 + 1 + 1 + 1 + 1) 79 0 [.ref 0, .int pI] [] h Q := by
  have N7 := mk.2.2.2
  unfold zAlo at hQ
  refine w_calo pI hh.hs (cis_ok ha hh pI ⟨_, rfl, hh.hs, fun e => ?_, fun e => ?_⟩)
  · have e := of_decide_eq_true (cn2 e)
    have hp : pI.toInt = (pI.toInt.toNat : Int) := by omega
    rw [if_neg (fun z => z e)] at hQ
    refine dct_ok ha hh.hs pI pI.toInt.toNat hp (by omega) ⟨_, rfl, hh.hs, fun e4 => ?_, fun e4 => ?_⟩
    · have kp := cn2 e4
      rw [if_neg (by rw [kp]; decide)] at hQ
      generalize pI.toInt.toNat = p at hp kp hQ
      refine asks_ok ha hh (fun h9 g9 f9 n9 => ⟨rfl, g9.hs, ?_⟩)
      have K9 := (ha.fr f9).2.2.2.2.2.1
      have A9 := K9.no (BSET.one hp (by omega))
      generalize h9.2.1 1 7 &&& ((1 <<< (pI &&& 31)) ^^^ (-1)) = aI at A9
      have g2 : HI (hpI h9 17 9 aI) := HI_full g9 iv_1714.2.2.2.1
      have cg := n9.cg17 (k := 9) (v := aI)
      obtain ⟨a1, a2, a3, a4, a5, a6, a7, a8⟩ := n9
      have d2 : DCS q S Y cs m N (fun x => decide (x = p)) (zR N K) false (-1) ((hpI h9 17 9 aI).2.1 17 14).toInt (-1) 0 (hpI h9 17 9 aI) := ⟨cg, a2.put ha.1 (by decide), by rw [put_ne (by omega)]; exact a3, ⟨K, fun x => K x && !decide (x = p), by rw [put_ne (by omega)]; exact a4, by rw [put_at]; exact A9, fun x _ => by
        show (K x && !(K x && !decide (x = p))) = decide (x = p)
        by_cases d : x = p
        · rw [d, kp, decide_eq_true (rfl : p = p)]
          rfl
        · rw [decide_eq_false d]
          cases K x <;> rfl, fun x _ => by
        show ((decide (x < N) && !K x) && !(K x && !decide (x = p))) = (decide (x < N) && !K x)
        cases K x <;> cases decide (x < N) <;> rfl⟩, by rw [put_ne (by omega)]; exact a6, by rw [put_ne (by omega)]; exact a7, rfl, by rw [put_ne (by omega)]; exact a8, fun z => absurd z (by decide)⟩
      refine cau_ok ha.1 mk.1 mk.2.1 yk mk.2.2.1 mk.2.2.2 (Or.inl rfl) g2 d2 (fun r5 h4 g4 f4 _ b5 => ⟨r5, rfl, g4.hs, ?_⟩)
      rw [zcau_t (t' := 0) (by decide)] at b5
      exact bct_ok b5 g4.hs (fun r hr => ⟨r, rfl, g4.hs, hQ r h4 g4 (frm_trans (frm_put f9 rfl) (WCX_T f4)) hr⟩)
    · rw [if_pos (cz2 e4)] at hQ
      exact hQ _ h hh frm_refl rfl
  · have e := of_decide_eq_false (cz2 e)
    exact hQ _ h hh frm_refl (by rw [if_pos e]; rfl)
/-- behind -/
def zBeh (S : Nat → Nat → Int) (Y : Int) (cs : List Cl) (m : List Int) (N : Nat) (K : Nat → Bool) (pI oI : Int32) : Int := if ¬ isP N pI ∨ ¬ isP N oI then -1 else if pI.toInt = oI.toInt then -2 else if K pI.toInt.toNat = true ∨ K oI.toInt.toNat = true then -3 else if zcau S Y cs m K (zR N K) false (-1) 0 pI.toInt oI.toInt pI.toInt.toNat = true then 0 else 1
theorem cbeh_ok {dp : Nat} (ha : AST q S Y cs m N K h) (mk : MOK S Y N) (yk : YOK cs m) (hh : HI h) (pI oI : Int32) (hQ : ∀ (r : Int32) h1, HI h1 → frm WTQ h h1 → r.toInt = zBeh S Y cs m N K pI oI → Q (some (.int r)) h1) : Ends X (dp + 1 + 1 + 1 + 1 + 1) 81 0 [.ref 0, .int pI, .int oI] [] h Q := by
  have N7 := mk.2.2.2
  unfold zBeh at hQ
  refine w_cbeh pI oI hh.hs (cis_ok ha hh pI ⟨_, rfl, hh.hs, fun e => ?_, fun e => cis_ok ha hh oI ⟨_, rfl, hh.hs, fun e2 => ⟨fun e3 => ?_, fun e3 => ?_⟩, fun e2 => ?_⟩⟩)
  · exact hQ _ h hh frm_refl (by rw [if_pos (Or.inl (of_decide_eq_false (cz e)))]; rfl)
  · have e := of_decide_eq_true (cn e)
    have e2 := of_decide_eq_true (cn2 e2)
    have e3 : ¬ pI.toInt = oI.toInt := of_decide_eq_true (cJ e3)
    have hp : pI.toInt = (pI.toInt.toNat : Int) := by omega
    have ho : oI.toInt = (oI.toInt.toNat : Int) := by omega
    rw [if_neg (fun z => z.elim (fun z => z e) (fun z => z e2)), if_neg e3] at hQ
    refine dct_ok ha hh.hs pI pI.toInt.toNat hp (by omega) ⟨_, rfl, hh.hs, fun e4 => ?_, fun e4 => dct_ok ha hh.hs oI oI.toInt.toNat ho (by omega) ⟨_, rfl, hh.hs, fun e5 => ?_, fun e5 => ?_⟩⟩
    · rw [if_pos (Or.inl (cn2 e4))] at hQ
      exact hQ _ h hh frm_refl rfl
    · have kp := cz2 e4
      have ko := cz e5
      rw [if_neg (by rw [kp, ko]; decide)] at hQ
      refine asks_ok ha hh (fun h9 g9 f9 n9 => ⟨rfl, g9.hs, w_puts pI oI g9.hs ⟨rfl, g9.hs, ?_⟩⟩)
      have g2 : HI (hpI (hpI h9 17 15 pI) 17 16 oI) := HI_full (HI_put g9 (by rw [iv_1714.2.2.2.2.1]; omega) (by rw [iv_1714.2.2.2.2.1]; omega)) iv_1714.2.2.2.2.2
      have f2 : frm WTQ h (hpI (hpI h9 17 15 pI) 17 16 oI) := frm_put (frm_put f9 rfl) rfl
      obtain ⟨⟨c1, c2, c3⟩, a2, a3, a4, a5, a6, a7, a8⟩ := n9
      have d2 : DCS q S Y cs m N K (zR N K) false (-1) ((hpI (hpI h9 17 15 pI) 17 16 oI).2.1 17 14).toInt pI.toInt oI.toInt (hpI (hpI h9 17 15 pI) 17 16 oI) := ⟨⟨fun x hx => by
        rw [put_ne (by omega), put_ne (by omega), put_ne (by omega), put_ne (by omega), put_ne (by omega), put_ne (by omega), put_ne (by omega), put_ne (by omega), put_ne (by omega), put_ne (by omega)]
        exact c1 x hx, fun i hi => by rw [put_ne (by omega), put_ne (by omega)]; exact c2 i hi, by rw [put_ne (by omega), put_ne (by omega)]; exact c3⟩, (a2.put ha.1 (by decide)).put ha.1 (by decide), by rw [put_ne (by omega), put_ne (by omega)]; exact a3, ⟨K, fun _ => false, by rw [put_ne (by omega), put_ne (by omega)]; exact a4, by rw [put_ne (by omega), put_ne (by omega), a5]; exact BSET.zero, fun p _ => by rw [Bool.not_false, Bool.and_true], fun p _ => by rw [Bool.not_false, Bool.and_true]; rfl⟩, by rw [put_ne (by omega), put_ne (by omega)]; exact a6, by rw [put_ne (by omega), put_ne (by omega)]; exact a7, rfl, by rw [put_ne (by omega), put_at], fun _ => by rw [put_at]⟩
      have fo : FOK pI.toInt oI.toInt N (zR N K) := Or.inr ⟨e.1, e.2, e2.1, e2.2, e3, by unfold zR; rw [kp, decide_eq_true (by omega)]; rfl, by unfold zR; rw [ko, decide_eq_true (by omega)]; rfl⟩
      refine cau_ok ha.1 mk.1 mk.2.1 yk mk.2.2.1 mk.2.2.2 fo g2 d2 (fun r5 h4 g4 f4 _ b5 => ⟨r5, rfl, g4.hs, ?_⟩)
      rw [zcau_t (t' := 0) (by decide)] at b5
      have f := frm_trans f2 (WCX_T f4)
      refine isin_ok b5 hp (by omega) g4.hs ⟨_, rfl, g4.hs, fun c => ?_, fun c => ?_⟩
      · exact hQ _ h4 g4 f (by rw [if_neg (by rw [cz c]; decide)]; rfl)
      · exact hQ _ h4 g4 f (by rw [if_pos (cn c)]; rfl)
    · rw [if_pos (Or.inr (cn e5))] at hQ
      exact hQ _ h hh frm_refl rfl
  · have e := of_decide_eq_true (cn e)
    have e2 := of_decide_eq_true (cn2 e2)
    have e3 : ¬ ¬ pI.toInt = oI.toInt := of_decide_eq_false (cJ e3)
    exact hQ _ h hh frm_refl (by rw [if_neg (fun z => z.elim (fun z => z e) (fun z => z e2)), if_pos (Decidable.not_not.mp e3)]; rfl)
  · exact hQ _ h hh frm_refl (by rw [if_pos (Or.inr (of_decide_eq_false (cz2 e2)))]; rfl)
end CALLS2
end JN99tz4ccalls2
section JN99tz5ccalls3
/-! The class's calls: on, last, mean, first, shout, of, set, catches. -/
def zKn (S : Nat → Nat → Int) (Y : Int) (cs : List Cl) (m : List Int) (N : Nat) (K : Nat → Bool) : Nat → Nat → Bool
  | 0 => K
  | n + 1 => fun p => zKn S Y cs m N K n p || zC S (Y + n) cs m N (zKn S Y cs m N K n) p
def zTn (S : Nat → Nat → Int) (Y : Int) (cs : List Cl) (m : List Int) (N : Nat) (K : Nat → Bool) : Nat → Nat
  | 0 => 0
  | n + 1 => zTn S Y cs m N K n + pop (zC S (Y + n) cs m N (zKn S Y cs m N K n))
def zMn (S : Nat → Nat → Int) (Y : Int) (cs : List Cl) (m : List Int) (N : Nat) (K : Nat → Bool) : Nat → Nat
  | 0 => 0
  | n + 1 => zMn S Y cs m N K n + pop (zR N (zKn S Y cs m N K (n + 1)))
theorem zTn_le (S : Nat → Nat → Int) (Y : Int) (cs : List Cl) (m : List Int) (N : Nat) (K : Nat → Bool) : ∀ n, zTn S Y cs m N K n ≤ 7 * n
  | 0 => Nat.le_refl _
  | n + 1 => by
    have i := zTn_le S Y cs m N K n
    have p := pop_le (zC S (Y + n) cs m N (zKn S Y cs m N K n))
    show zTn S Y cs m N K n + pop _ ≤ _
    omega
theorem zMn_le (S : Nat → Nat → Int) (Y : Int) (cs : List Cl) (m : List Int) (N : Nat) (K : Nat → Bool) : ∀ n, zMn S Y cs m N K n ≤ 7 * n
  | 0 => Nat.le_refl _
  | n + 1 => by
    have i := zMn_le S Y cs m N K n
    have p := pop_le (zR N (zKn S Y cs m N K (n + 1)))
    show zMn S Y cs m N K n + pop _ ≤ _
    omega
theorem MOK.y {S : Nat → Nat → Int} {Y : Int} {N : Nat} (mk : MOK S Y N) (n : Nat) : MOK S (Y + n) N := ⟨mk.1, mk.2.1, by have := mk.2.2.1; omega, mk.2.2.2⟩
/-- the first n from a on behind which one alone runs, or nobody -/
def zls (S : Nat → Nat → Int) (Y : Int) (cs : List Cl) (m : List Int) (N : Nat) (K : Nat → Bool) : Nat → Nat → Option Nat
  | 0, _ => none
  | k + 1, n => if pop (zR N (zKn S Y cs m N K n)) ≤ 1 then some n else zls S Y cs m N K k (n + 1)
section CALLS3
variable {X : Scr} {Q : Option Value → Hp → Prop} {q : Nat} {S : Nat → Nat → Int} {Y : Int} {cs : List Cl} {m : List Int} {N : Nat} {K : Nat → Bool} {h : Hp}
def zOn (S : Nat → Nat → Int) (Y : Int) (cs : List Cl) (m : List Int) (N : Nat) (K : Nat → Bool) (nI wI : Int32) : Int := if ¬ is01 wI then -1 else if ¬ (0 ≤ nI.toInt ∧ nI.toInt ≤ 30) then -2 else if wI.toInt = 0 then zint (zR N (zKn S Y cs m N K nI.toInt.toNat)) else (zTn S Y cs m N K nI.toInt.toNat : Int)
theorem con_go {dp : Nat} (hY : YB q) (mk : MOK S Y N) (yk : YOK cs m) (hY9 : Y ≤ 999) (nI wI : Int32) (b : Nat) (hb : nI.toInt = b) (b30 : b ≤ 30) : ∀ (n i : Nat) (cI iI : Int32) (h : Hp), i + n = b → iI.toInt = i → cI.toInt = zTn S Y cs m N K i → NCS q S (Y + i) cs m N (zKn S Y cs m N K i) h → HI h → (∀ (r : Int32) h1, HI h1 → frm WTQ h h1 → r.toInt = (if wI.toInt = 0 then zint (zR N (zKn S Y cs m N K b)) else (zTn S Y cs m N K b : Int)) → Q (some (.int r)) h1) → Ends X (dp + 1 + 1 + 1 + 1 + 1 + 1) 72 33 [.ref 0, .int nI, .int wI, .int cI, .int iI] [] h Q
  | n, i, cI, iI, h, hn, hi, hc, hs, hh, hQ => by
    have z0' : (0 : Int32).toInt = 0 := rfl
    have tl := zTn_le S Y cs m N K i
    refine w_con1 nI wI cI iI hh.hs ⟨fun e => ⟨fun c => ?_, fun c => ?_⟩, fun e => ?_⟩
    · have e : nI.toInt ≤ iI.toInt := of_decide_eq_true (cJ e)
      have c : ¬ wI.toInt = (0 : Int32).toInt := of_decide_eq_true (cJ c)
      have : i = b := by omega
      subst this
      exact hQ cI h hh frm_refl (by rw [if_neg (by omega)]; exact hc)
    · have e : nI.toInt ≤ iI.toInt := of_decide_eq_true (cJ e)
      have c : ¬ ¬ wI.toInt = (0 : Int32).toInt := of_decide_eq_false (cJ c)
      have : i = b := by omega
      subst this
      exact crun18_ok hs mk.2.2.2 hh.hs (fun r hr => ⟨r, rfl, hh.hs, hQ r h hh frm_refl (by rw [if_pos (by omega)]; exact hr.val)⟩)
    have e : ¬ nI.toInt ≤ iI.toInt := of_decide_eq_false (cJ e)
    obtain ⟨n, rfl⟩ : ∃ k, n = k + 1 := ⟨n - 1, by omega⟩
    have n1 : (iI + 1).toInt = ((i + 1 : Nat) : Int) := by rw [i_add (by rw [i1]; omega) (by rw [i1]; omega), i1]; omega
    refine goes_ok hY (mk.y i) yk (by omega) hh hs (fun r7 h6 g6 f6 n6 b7 => ⟨r7, rfl, g6.hs, bct_ok b7 g6.hs (fun r10 h10 => ⟨r10, rfl, g6.hs, ?_⟩)⟩)
    have pl := pop_le (zC S (Y + i) cs m N (zKn S Y cs m N K i))
    rw [show Y + (i : Int) + 1 = Y + ((i + 1 : Nat) : Int) by omega] at n6
    refine con_go hY mk yk hY9 nI wI b hb b30 n (i + 1) _ _ h6 (by omega) n1 ?_ n6 g6 (fun r h1 d1 d2 d3 => hQ r h1 d1 (frm_trans f6 d2) d3)
    rw [i_add (by omega) (by omega), hc, h10]
    rfl
theorem con_ok {dp : Nat} (ha : AST q S Y cs m N K h) (mk : MOK S Y N) (yk : YOK cs m) (hY9 : Y ≤ 999) (hh : HI h) (nI wI : Int32) (hQ : ∀ (r : Int32) h1, HI h1 → frm WTQ h h1 → r.toInt = zOn S Y cs m N K nI wI → Q (some (.int r)) h1) : Ends X (dp + 1 + 1 + 1 + 1 + 1 + 1) 72 0 [.ref 0, .int nI, .int wI, .retAddr 0, .retAddr 0] [] h Q := by
  have z0' : (0 : Int32).toInt = 0 := rfl
  have j30 : (30 : Int32).toInt = 30 := rfl
  unfold zOn at hQ
  refine w_con0 nI wI hh.hs ⟨fun e => ?_, fun e => ⟨fun e2 => ⟨fun e3 => ?_, fun e3 => ⟨fun e4 => ?_, fun e4 => ?_⟩⟩, fun e2 => ?_⟩⟩
  · have e : wI.toInt < (0 : Int32).toInt := of_decide_eq_true (cJ e)
    exact hQ _ h hh frm_refl (by rw [if_pos (by omega)]; rfl)
  · have e : ¬ wI.toInt < (0 : Int32).toInt := of_decide_eq_false (cJ e)
    have e2 : wI.toInt ≤ (1 : Int32).toInt := of_decide_eq_true (cJ e2)
    have e3 : nI.toInt < (0 : Int32).toInt := of_decide_eq_true (cJ e3)
    rw [i1] at e2
    exact hQ _ h hh frm_refl (by rw [if_neg (by omega), if_pos (by omega)]; rfl)
  · have e : ¬ wI.toInt < (0 : Int32).toInt := of_decide_eq_false (cJ e)
    have e2 : wI.toInt ≤ (1 : Int32).toInt := of_decide_eq_true (cJ e2)
    have e3 : ¬ nI.toInt < (0 : Int32).toInt := of_decide_eq_false (cJ e3)
    have e4 : nI.toInt ≤ (30 : Int32).toInt := of_decide_eq_true (cJ e4)
    rw [i1] at e2
    rw [if_neg (by omega), if_neg (by omega)] at hQ
    refine asks_ok ha hh (fun h5 g5 f5 n5 => ⟨rfl, g5.hs, ?_⟩)
    rw [show Y = Y + ((0 : Nat) : Int) by omega] at n5
    exact con_go ha.1 mk yk hY9 nI wI nI.toInt.toNat (by omega) (by omega) nI.toInt.toNat 0 0 0 h5 (by omega) rfl rfl n5 g5 (fun r h1 d1 d2 d3 => hQ r h1 d1 (frm_trans f5 d2) d3)
  · have e : ¬ wI.toInt < (0 : Int32).toInt := of_decide_eq_false (cJ e)
    have e2 : wI.toInt ≤ (1 : Int32).toInt := of_decide_eq_true (cJ e2)
    have e4 : ¬ nI.toInt ≤ (30 : Int32).toInt := of_decide_eq_false (cJ e4)
    rw [i1] at e2
    exact hQ _ h hh frm_refl (by rw [if_neg (by omega), if_pos (by omega)]; rfl)
  · have e2 : ¬ wI.toInt ≤ (1 : Int32).toInt := of_decide_eq_false (cJ e2)
    rw [i1] at e2
    exact hQ _ h hh frm_refl (by rw [if_pos (by omega)]; rfl)
/-- last -/
def zLasA (S : Nat → Nat → Int) (Y : Int) (cs : List Cl) (m : List Int) (N : Nat) (K : Nat → Bool) (w : Int) (o : Option Nat) : Int := match o with
  | none => -5
  | some n => if w = 0 then zff (zR N (zKn S Y cs m N K n)) 7 0 else (n : Int)
def zLas (S : Nat → Nat → Int) (Y : Int) (cs : List Cl) (m : List Int) (N : Nat) (K : Nat → Bool) (wI : Int32) : Int := if ¬ is01 wI then -1 else zLasA S Y cs m N K wI.toInt (zls S Y cs m N K 31 0)
theorem clas_go {dp : Nat} (hY : YB q) (mk : MOK S Y N) (yk : YOK cs m) (hY9 : Y ≤ 999) (wI : Int32) : ∀ (k n : Nat) (nI : Int32) (x : Value) (h : Hp), n + k = 31 → nI.toInt = n → NCS q S (Y + n) cs m N (zKn S Y cs m N K n) h → HI h → (∀ (r : Int32) h1, HI h1 → frm WTQ h h1 → r.toInt = zLasA S Y cs m N K wI.toInt (zls S Y cs m N K k n) → Q (some (.int r)) h1) → Ends X (dp + 1 + 1 + 1 + 1 + 1 + 1) 73 17 [.ref 0, .int wI, .int nI, x] [] h Q
  | k, n, nI, x, h, hk, hi, hs, hh, hQ => by
    have z0' : (0 : Int32).toInt = 0 := rfl
    have j30 : (30 : Int32).toInt = 30 := rfl
    refine w_clas1 wI nI x hh.hs ⟨fun e => ?_, fun e => ?_⟩
    · have e : (30 : Int32).toInt < nI.toInt := of_decide_eq_true (cJ e)
      have : k = 0 := by omega
      subst this
      exact hQ _ h hh frm_refl rfl
    have e : ¬ (30 : Int32).toInt < nI.toInt := of_decide_eq_false (cJ e)
    obtain ⟨k, rfl⟩ : ∃ j, k = j + 1 := ⟨k - 1, by omega⟩
    have n1 : (nI + 1).toInt = ((n + 1 : Nat) : Int) := by rw [i_add (by rw [i1]; omega) (by rw [i1]; omega), i1]; omega
    unfold zls at hQ
    refine crun18_ok hs mk.2.2.2 hh.hs (fun r3 b3 => ⟨r3, rfl, hh.hs, bct_ok b3 hh.hs (fun r6 h6 => ⟨r6, rfl, hh.hs, fun c => ?_, fun c => ⟨fun c2 => ?_, fun c2 => ?_⟩⟩)⟩)
    · have c : (1 : Int32).toInt < r6.toInt := of_decide_eq_true (cJ c)
      rw [i1] at c
      rw [if_neg (by omega)] at hQ
      refine goes_ok hY (mk.y n) yk (by omega) hh hs (fun r10 h9 g9 f9 n9 _ => ⟨r10, rfl, g9.hs, ?_⟩)
      rw [show Y + (n : Int) + 1 = Y + ((n + 1 : Nat) : Int) by omega] at n9
      exact clas_go hY mk yk hY9 wI k (n + 1) _ _ h9 (by omega) n1 n9 g9 (fun r h1 d1 d2 d3 => hQ r h1 d1 (frm_trans f9 d2) d3)
    all_goals
      have c : ¬ (1 : Int32).toInt < r6.toInt := of_decide_eq_false (cJ c)
      rw [i1] at c
      rw [if_pos (by omega)] at hQ
    · have c2 : ¬ wI.toInt = (0 : Int32).toInt := of_decide_eq_true (cJ c2)
      exact hQ nI h hh frm_refl (by unfold zLasA; simp only; rw [if_neg (by omega)]; exact hi)
    · have c2 : ¬ ¬ wI.toInt = (0 : Int32).toInt := of_decide_eq_false (cJ c2)
      exact cfin_ok hh.hs r3 _ b3 (fun r14 h14 => ⟨r14, rfl, hh.hs, hQ r14 h hh frm_refl (by unfold zLasA; simp only; rw [if_pos (by omega)]; exact h14)⟩)
theorem clas_ok {dp : Nat} (ha : AST q S Y cs m N K h) (mk : MOK S Y N) (yk : YOK cs m) (hY9 : Y ≤ 999) (hh : HI h) (wI : Int32) (hQ : ∀ (r : Int32) h1, HI h1 → frm WTQ h h1 → r.toInt = zLas S Y cs m N K wI → Q (some (.int r)) h1) : Ends X (dp + 1 + 1 + 1 + 1 + 1 + 1) 73 0 [.ref 0, .int wI, .retAddr 0, .retAddr 0] [] h Q := by
  have z0' : (0 : Int32).toInt = 0 := rfl
  unfold zLas at hQ
  refine w_clas0 wI hh.hs ⟨fun e => ?_, fun e => ⟨fun e2 => ?_, fun e2 => ?_⟩⟩
  · have e : wI.toInt < (0 : Int32).toInt := of_decide_eq_true (cJ e)
    exact hQ _ h hh frm_refl (by rw [if_pos (by omega)]; rfl)
  · have e : ¬ wI.toInt < (0 : Int32).toInt := of_decide_eq_false (cJ e)
    have e2 : wI.toInt ≤ (1 : Int32).toInt := of_decide_eq_true (cJ e2)
    rw [i1] at e2
    rw [if_neg (by omega)] at hQ
    refine asks_ok ha hh (fun h5 g5 f5 n5 => ⟨rfl, g5.hs, ?_⟩)
    rw [show Y = Y + ((0 : Nat) : Int) by omega] at n5
    exact clas_go ha.1 mk yk hY9 wI 31 0 0 _ h5 (by omega) rfl n5 g5 (fun r h1 d1 d2 d3 => hQ r h1 d1 (frm_trans f5 d2) d3)
  · have e2 : ¬ wI.toInt ≤ (1 : Int32).toInt := of_decide_eq_false (cJ e2)
    rw [i1] at e2
    exact hQ _ h hh frm_refl (by rw [if_pos (by omega)]; rfl)
/-- mean -/
def zMea (S : Nat → Nat → Int) (Y : Int) (cs : List Cl) (m : List Int) (N : Nat) (K : Nat → Bool) (nI aI : Int32) : Int := if ¬ (1 ≤ nI.toInt ∧ nI.toInt ≤ 30) ∨ ¬ is01 aI then zNO else zLow (zMn S Y cs m N K nI.toInt.toNat) nI.toInt aI.toInt
theorem cmea_go {dp : Nat} (hY : YB q) (mk : MOK S Y N) (yk : YOK cs m) (hY9 : Y ≤ 999) (nI aI : Int32) (b : Nat) (hb : nI.toInt = b) (b0 : 0 < b) (b30 : b ≤ 30) : ∀ (n i : Nat) (tI iI : Int32) (h : Hp), i + n = b → iI.toInt = i → tI.toInt = zMn S Y cs m N K i → NCS q S (Y + i) cs m N (zKn S Y cs m N K i) h → HI h → (∀ (r : Int64) h1, HI h1 → frm WTQ h h1 → r.toInt = zLow (zMn S Y cs m N K b) nI.toInt aI.toInt → Q (some (.long r)) h1) → Ends X (dp + 1 + 1 + 1 + 1 + 1 + 1) 85 33 [.ref 0, .int nI, .int aI, .int tI, .int iI] [] h Q
  | n, i, tI, iI, h, hn, hi, hc, hs, hh, hQ => by
    have tl := zMn_le S Y cs m N K i
    refine w_cmea1 nI aI tI iI hh.hs ⟨fun e => ?_, fun e => ?_⟩
    · have e : nI.toInt ≤ iI.toInt := of_decide_eq_true (cJ e)
      have : i = b := by omega
      subst this
      exact clow_ok hh.hs tI nI aI _ i hc hb b0 b30 (by omega) (fun r hr => ⟨r, rfl, hh.hs, hQ r h hh frm_refl (by rw [hb]; exact hr)⟩)
    have e : ¬ nI.toInt ≤ iI.toInt := of_decide_eq_false (cJ e)
    obtain ⟨n, rfl⟩ : ∃ k, n = k + 1 := ⟨n - 1, by omega⟩
    have n1 : (iI + 1).toInt = ((i + 1 : Nat) : Int) := by rw [i_add (by rw [i1]; omega) (by rw [i1]; omega), i1]; omega
    refine goes_ok hY (mk.y i) yk (by omega) hh hs (fun r6 h5 g5 f5 n5 _ => ⟨r6, rfl, g5.hs, crun18_ok n5 mk.2.2.2 g5.hs (fun r9 b9 => ⟨r9, rfl, g5.hs, bct_ok b9 g5.hs (fun r12 h12 => ⟨r12, rfl, g5.hs, ?_⟩)⟩)⟩)
    rw [show Y + (i : Int) + 1 = Y + ((i + 1 : Nat) : Int) by omega] at n5
    have h12 : r12.toInt = (pop (zR N (zKn S Y cs m N K (i + 1))) : Int) := h12
    have pl := pop_le (zR N (zKn S Y cs m N K (i + 1)))
    refine cmea_go hY mk yk hY9 nI aI b hb b0 b30 n (i + 1) _ _ h5 (by omega) n1 ?_ n5 g5 (fun r h1 d1 d2 d3 => hQ r h1 d1 (frm_trans f5 d2) d3)
    rw [i_add (by omega) (by omega), hc, h12]
    rfl
theorem cmea_ok {dp : Nat} (ha : AST q S Y cs m N K h) (mk : MOK S Y N) (yk : YOK cs m) (hY9 : Y ≤ 999) (hh : HI h) (nI aI : Int32) (hQ : ∀ (r : Int64) h1, HI h1 → frm WTQ h h1 → r.toInt = zMea S Y cs m N K nI aI → Q (some (.long r)) h1) : Ends X (dp + 1 + 1 + 1 + 1 + 1 + 1) 85 0 [.ref 0, .int nI, .int aI, .retAddr 0, .retAddr 0] [] h Q := by
  have z0' : (0 : Int32).toInt = 0 := rfl
  have j30 : (30 : Int32).toInt = 30 := rfl
  have no : ((-9223372036854775808 : Int64)).toInt = zNO := rfl
  unfold zMea at hQ
  refine w_cmea0 nI aI hh.hs ⟨fun e => ?_, fun e => ⟨fun e2 => ?_, fun e2 => ⟨fun e3 => ?_, fun e3 => ⟨fun e4 => ?_, fun e4 => ?_⟩⟩⟩⟩
  · have e : nI.toInt < (1 : Int32).toInt := of_decide_eq_true (cJ e)
    rw [i1] at e
    exact hQ _ h hh frm_refl (by rw [if_pos (by omega)]; exact no)
  · have e2 : (30 : Int32).toInt < nI.toInt := of_decide_eq_true (cJ e2)
    exact hQ _ h hh frm_refl (by rw [if_pos (by omega)]; exact no)
  · have e3 : aI.toInt < (0 : Int32).toInt := of_decide_eq_true (cJ e3)
    exact hQ _ h hh frm_refl (by rw [if_pos (by omega)]; exact no)
  · have e : ¬ nI.toInt < (1 : Int32).toInt := of_decide_eq_false (cJ e)
    have e2 : ¬ (30 : Int32).toInt < nI.toInt := of_decide_eq_false (cJ e2)
    have e3 : ¬ aI.toInt < (0 : Int32).toInt := of_decide_eq_false (cJ e3)
    have e4 : aI.toInt ≤ (1 : Int32).toInt := of_decide_eq_true (cJ e4)
    rw [i1] at e e4
    rw [if_neg (by omega)] at hQ
    refine asks_ok ha hh (fun h5 g5 f5 n5 => ⟨rfl, g5.hs, ?_⟩)
    rw [show Y = Y + ((0 : Nat) : Int) by omega] at n5
    exact cmea_go ha.1 mk yk hY9 nI aI nI.toInt.toNat (by omega) (by omega) (by omega) nI.toInt.toNat 0 0 0 h5 (by omega) rfl rfl n5 g5 (fun r h1 d1 d2 d3 => hQ r h1 d1 (frm_trans f5 d2) d3)
  · have e4 : ¬ aI.toInt ≤ (1 : Int32).toInt := of_decide_eq_false (cJ e4)
    rw [i1] at e4
    exact hQ _ h hh frm_refl (by rw [if_pos (by omega)]; exact no)
/-- first -/
def zFirC (S : Nat → Nat → Int) (Y : Int) (cs : List Cl) (m : List Int) (N : Nat) (K : Nat → Bool) : Nat → Nat := fun p => pop (zC S Y cs m N (fun x => K x || decide (x = p)))
def zFir (S : Nat → Nat → Int) (Y : Int) (cs : List Cl) (m : List Int) (N : Nat) (K : Nat → Bool) (wI : Int32) : Int := if ¬ is01 wI then -1 else if wI.toInt = 0 then (zmf (zR N K) (zFirC S Y cs m N K) 7).1 else (zmf (zR N K) (zFirC S Y cs m N K) 7).2
theorem NCS.k (hY : YB q) {K0 K1 : Nat → Bool} {v : Int32} (hn : NCS q S Y cs m N K0 h) (hv : BSET v K1) : NCS q S Y cs m N K1 (hpI h 18 7 v) := by
  obtain ⟨⟨c1, c2, c3⟩, a2, a3, a4, a5, a6, a7, a8⟩ := hn
  refine ⟨⟨fun p hp => ?_, fun i hi => by rw [put_ne (by omega)]; exact c2 i hi, by rw [put_ne (by omega)]; exact c3⟩, a2.put hY (by decide), by rw [put_ne (by omega)]; exact a3, by rw [put_at]; exact hv, by rw [put_ne (by omega)]; exact a5, by rw [put_ne (by omega)]; exact a6, by rw [put_ne (by omega)]; exact a7, by rw [put_ne (by omega)]; exact a8⟩
  rw [put_ne (by omega), put_ne (by omega), put_ne (by omega), put_ne (by omega), put_ne (by omega)]
  exact c1 p hp
theorem zmf_b (R : Nat → Bool) (cnt : Nat → Nat) : ∀ n, (zmf R cnt n).2 = -5 ∨ 0 ≤ (zmf R cnt n).2
  | 0 => Or.inl rfl
  | n + 1 => by
    have i := zmf_b R cnt n
    unfold zmf
    split
    · right
      show (0 : Int) ≤ (cnt n : Int)
      omega
    · exact i
theorem cfir_go {dp : Nat} (mk : MOK S Y N) (yk : YOK cs m) (wI rI : Int32) (hr : BSET rI (zR N K)) : ∀ (n p : Nat) (oI mI pI : Int32) (x : Value) (K0 : Nat → Bool) (h : Hp), p + n = 7 → pI.toInt = p → oI.toInt = (zmf (zR N K) (zFirC S Y cs m N K) p).1 → mI.toInt = (zmf (zR N K) (zFirC S Y cs m N K) p).2 → AST q S Y cs m N K h → NCS q S Y cs m N K0 h → HI h → (∀ (r : Int32) h1, HI h1 → frm WTQ h h1 → r.toInt = (if wI.toInt = 0 then (zmf (zR N K) (zFirC S Y cs m N K) 7).1 else (zmf (zR N K) (zFirC S Y cs m N K) 7).2) → Q (some (.int r)) h1) → Ends X (dp + 1 + 1 + 1 + 1 + 1) 74 33 [.ref 0, .int wI, .int oI, .int mI, .int rI, .int pI, x] [] h Q
  | n, p, oI, mI, pI, x, K0, h, hn, hp, ho, hm, ha, hs, hh, hQ => by
    have z0' : (0 : Int32).toInt = 0 := rfl
    have j7 : (7 : Int32).toInt = 7 := rfl
    refine w_cfir1 wI oI mI rI pI x hh.hs ⟨fun e => ⟨fun c => ?_, fun c => ?_⟩, fun e => ?_⟩
    · have e : (7 : Int32).toInt ≤ pI.toInt := of_decide_eq_true (cJ e)
      have c : ¬ wI.toInt = (0 : Int32).toInt := of_decide_eq_true (cJ c)
      have : p = 7 := by omega
      subst this
      exact hQ mI h hh frm_refl (by rw [if_neg (by omega)]; exact hm)
    · have e : (7 : Int32).toInt ≤ pI.toInt := of_decide_eq_true (cJ e)
      have c : ¬ ¬ wI.toInt = (0 : Int32).toInt := of_decide_eq_false (cJ c)
      have : p = 7 := by omega
      subst this
      exact hQ oI h hh frm_refl (by rw [if_pos (by omega)]; exact ho)
    have e : ¬ (7 : Int32).toInt ≤ pI.toInt := of_decide_eq_false (cJ e)
    obtain ⟨n, rfl⟩ : ∃ k, n = k + 1 := ⟨n - 1, by omega⟩
    have n1 : (pI + 1).toInt = ((p + 1 : Nat) : Int) := by rw [i_add (by rw [i1]; omega) (by rw [i1]; omega), i1]; omega
    refine isin_ok hr hp (by omega) hh.hs ⟨_, rfl, hh.hs, fun c => ?_, fun c => ?_⟩
    · have c := cz c
      have st : zmf (zR N K) (zFirC S Y cs m N K) (p + 1) = zmf (zR N K) (zFirC S Y cs m N K) p := if_neg (fun z => by rw [c] at z; exact absurd z.1 Bool.false_ne_true)
      exact cfir_go mk yk wI rI hr n (p + 1) _ _ _ _ K0 h (by omega) n1 (by rw [st]; exact ho) (by rw [st]; exact hm) ha hs hh hQ
    · have c := cn c
      have kv := ha.2.2.2.2.2.1.or (BSET.one hp (by omega))
      generalize h.2.1 1 7 ||| (1 <<< (pI &&& 31)) = v at kv
      have g2 : HI (hpI h 18 7 v) := HI_full hh iv_187.1
      have f2 : frm WTQ h (hpI h 18 7 v) := frm_put frm_refl rfl
      refine ncau_ok ha.1 mk yk g2 (hs.k ha.1 kv) (fun r8 h7 g7 f7 n7 _ b8 => ⟨r8, rfl, g7.hs, bct_ok b8 g7.hs (fun r11 h11 => ⟨r11, rfl, g7.hs, ?_⟩)⟩)
      have f := frm_trans f2 (WCX_T f7)
      have h11 : r11.toInt = (zFirC S Y cs m N K p : Int) := h11
      refine ⟨fun c2 => ?_, fun c2 => ?_⟩
      · have c2 : r11.toInt ≤ mI.toInt := of_decide_eq_true (cJ c2)
        have st : zmf (zR N K) (zFirC S Y cs m N K) (p + 1) = zmf (zR N K) (zFirC S Y cs m N K) p := if_neg (fun z => by have := z.2; omega)
        exact cfir_go mk yk wI rI hr n (p + 1) _ _ _ _ _ h7 (by omega) n1 (by rw [st]; exact ho) (by rw [st]; exact hm) (ha.fr f) n7 g7 (fun r h1 d1 d2 d3 => hQ r h1 d1 (frm_trans f d2) d3)
      · have c2 : ¬ r11.toInt ≤ mI.toInt := of_decide_eq_false (cJ c2)
        have st : zmf (zR N K) (zFirC S Y cs m N K) (p + 1) = ((p : Int), (zFirC S Y cs m N K p : Int)) := if_pos ⟨c, by omega⟩
        exact cfir_go mk yk wI rI hr n (p + 1) _ _ _ _ _ h7 (by omega) n1 (by rw [st]; exact hp) (by rw [st]; exact h11) (ha.fr f) n7 g7 (fun r h1 d1 d2 d3 => hQ r h1 d1 (frm_trans f d2) d3)
theorem cfir_ok {dp : Nat} (ha : AST q S Y cs m N K h) (mk : MOK S Y N) (yk : YOK cs m) (hh : HI h) (wI : Int32) (hQ : ∀ (r : Int32) h1, HI h1 → frm WTQ h h1 → r.toInt = zFir S Y cs m N K wI → Q (some (.int r)) h1) : Ends X (dp + 1 + 1 + 1 + 1 + 1) 74 0 [.ref 0, .int wI, .retAddr 0, .retAddr 0, .retAddr 0, .retAddr 0, .retAddr 0] [] h Q := by
  have z0' : (0 : Int32).toInt = 0 := rfl
  unfold zFir at hQ
  refine w_cfir0 wI hh.hs ⟨fun e => ?_, fun e => ⟨fun e2 => ?_, fun e2 => ?_⟩⟩
  · have e : wI.toInt < (0 : Int32).toInt := of_decide_eq_true (cJ e)
    exact hQ _ h hh frm_refl (by rw [if_pos (by omega)]; rfl)
  · have e : ¬ wI.toInt < (0 : Int32).toInt := of_decide_eq_false (cJ e)
    have e2 : wI.toInt ≤ (1 : Int32).toInt := of_decide_eq_true (cJ e2)
    rw [i1] at e2
    rw [if_neg (by omega)] at hQ
    exact crun_ok ha mk.2.2.2 hh.hs (fun r4 b4 => ⟨r4, rfl, hh.hs, asks_ok ha hh (fun h6 g6 f6 n6 => ⟨rfl, g6.hs, cfir_go mk yk wI r4 b4 7 0 (-5) (-5) 0 _ K h6 (by decide) rfl rfl rfl (ha.fr f6) n6 g6 (fun r h1 d1 d2 d3 => hQ r h1 d1 (frm_trans f6 d2) d3)⟩)⟩)
  · have e2 : ¬ wI.toInt ≤ (1 : Int32).toInt := of_decide_eq_false (cJ e2)
    rw [i1] at e2
    exact hQ _ h hh frm_refl (by rw [if_pos (by omega)]; rfl)
/-- a shout -/
theorem csho_ok {dp : Nat} (ha : AST q S Y cs m N K h) (mk : MOK S Y N) (yk : YOK cs m) (hh : HI h) (q0 : ¬ Y < 999 → Q (some (.int (-3))) h) (hQ : Y < 999 → ∀ (r : Int32) h1, HI h1 → frm WTQ h h1 → BSET r (zC S Y cs m N K) → Q (some (.int r)) (hpI (hpI h1 1 7 (h.2.1 1 7 ||| r)) 1 8 (h.2.1 1 8 + 1))) : Ends X (dp + 1 + 1 + 1 + 1 + 1) 71 0 [.ref 0, .retAddr 0] [] h Q := by
  have j9 : (999 : Int32).toInt = 999 := rfl
  have y := ha.2.2.2.1
  refine w_cshout hh.hs ⟨fun e => ?_, fun e => ?_⟩
  · have e : (h.2.1 1 8).toInt < (999 : Int32).toInt := of_decide_eq_true (cJ e)
    refine asks_ok ha hh (fun h2 g2 f2 n2 => ⟨rfl, g2.hs, ncau_ok ha.1 mk yk g2 n2 (fun r6 h5 g5 f5 _ _ b6 => ⟨r6, rfl, g5.hs, ?_⟩)⟩)
    have f := frm_trans f2 (WCX_T f5)
    rw [frI f (a := 1) rfl, frI f (a := 1) rfl]
    exact hQ (by omega) r6 h5 g5 f b6
  · have e : ¬ (h.2.1 1 8).toInt < (999 : Int32).toInt := of_decide_eq_false (cJ e)
    exact q0 (by omega)
/-- of -/
def zOfM (S : Nat → Nat → Int) (Y : Int) (cs : List Cl) (m : List Int) (N : Nat) (K : Nat → Bool) (p : Nat) (w : Int) : Int := if K p = true then (if w = 7 then zreach S Y cs m p else if w = 8 then zhold S Y cs m p else -5) else (if w = 6 then zW S Y cs m K (zR N K) false (-1) 0 (-1) 0 p else if w = 9 then zslip S Y cs m (zW S Y cs m K (zR N K) false (-1) 0 (-1) 0) p else -5)
def zOf (S : Nat → Nat → Int) (Y : Int) (cs : List Cl) (m : List Int) (N : Nat) (K : Nat → Bool) (pI wI : Int32) : Int := if ¬ isP N pI then -1 else if ¬ (0 ≤ wI.toInt ∧ wI.toInt ≤ 9) then -1 else if wI.toInt ≤ 4 then S wI.toInt.toNat pI.toInt.toNat else if wI.toInt = 5 then ((K pI.toInt.toNat).toNat : Int) else zOfM S Y cs m N K pI.toInt.toNat wI.toInt
theorem cmsd_ok {dp : Nat} (ha : AST q S Y cs m N K h) (mk : MOK S Y N) (yk : YOK cs m) (hh : HI h) (pI wI : Int32) (p : Nat) (hp : pI.toInt = p) (hN : p < N) (hw : 6 ≤ wI.toInt ∧ wI.toInt ≤ 9) (hQ : ∀ (r : Int32) h1, HI h1 → frm WTQ h h1 → r.toInt = zOfM S Y cs m N K p wI.toInt → Q (some (.int r)) h1) : Ends X (dp + 1 + 1 + 1 + 1 + 1) 99 0 [.ref 0, .int pI, .int wI] [] h Q := by
  have N7 := mk.2.2.2
  have j6 : (6 : Int32).toInt = 6 := rfl
  have j7 : (7 : Int32).toInt = 7 := rfl
  have j8 : (8 : Int32).toInt = 8 := rfl
  have j9 : (9 : Int32).toInt = 9 := rfl
  have ip : inB pI 7 = true := inB_iff (by omega) (by omega)
  have en : pI.toNatClampNeg = p := by show pI.toInt.toNat = _; omega
  unfold zOfM at hQ
  refine w_cmsd pI wI hh.hs (asks_ok ha hh (fun h1 g1 f1 n1 => ⟨rfl, g1.hs, ncau_ok ha.1 mk yk g1 n1 (fun r5 h4 g4 f4 n4 ms _ => ⟨r5, rfl, g4.hs, ?_⟩)⟩))
  have f := frm_trans f1 (WCX_T f4)
  have ha4 := ha.fr f
  refine dct_ok ha4 g4.hs pI p hp (by omega) ⟨_, rfl, g4.hs, fun e => ?_, fun e => ?_⟩
  · have e := cz e
    have rp : zR N K p = true := by unfold zR; rw [e, decide_eq_true hN]; rfl
    have mr := ms.2 p (by omega) rp
    rw [if_neg (by rw [e]; decide)] at hQ
    rw [en]
    refine ⟨fun c => ⟨fun c2 => ?_, fun c2 => ⟨ip, ?_⟩⟩, fun c => ⟨ip, ?_⟩⟩
    · have c : ¬ wI.toInt = (6 : Int32).toInt := of_decide_eq_true (cJ c)
      have c2 : ¬ wI.toInt = (9 : Int32).toInt := of_decide_eq_true (cJ c2)
      exact hQ _ h4 g4 f (by rw [if_neg (by omega), if_neg (by omega)]; rfl)
    · have c : ¬ wI.toInt = (6 : Int32).toInt := of_decide_eq_true (cJ c)
      have c2 : ¬ ¬ wI.toInt = (9 : Int32).toInt := of_decide_eq_false (cJ c2)
      exact hQ _ h4 g4 f (by rw [if_neg (by omega), if_pos (by omega)]; exact mr.2)
    · have c : ¬ ¬ wI.toInt = (6 : Int32).toInt := of_decide_eq_false (cJ c)
      exact hQ _ h4 g4 f (by rw [if_pos (by omega)]; exact mr.1)
  · have e := cn e
    have mc := ms.1 p (by omega) e
    rw [if_pos e] at hQ
    rw [en]
    refine ⟨fun c => ⟨fun c2 => ?_, fun c2 => ⟨ip, ?_⟩⟩, fun c => ⟨ip, ?_⟩⟩
    · have c : ¬ wI.toInt = (7 : Int32).toInt := of_decide_eq_true (cJ c)
      have c2 : ¬ wI.toInt = (8 : Int32).toInt := of_decide_eq_true (cJ c2)
      exact hQ _ h4 g4 f (by rw [if_neg (by omega), if_neg (by omega)]; rfl)
    · have c : ¬ wI.toInt = (7 : Int32).toInt := of_decide_eq_true (cJ c)
      have c2 : ¬ ¬ wI.toInt = (8 : Int32).toInt := of_decide_eq_false (cJ c2)
      exact hQ _ h4 g4 f (by rw [if_neg (by omega), if_pos (by omega)]; exact mc.2)
    · have c : ¬ ¬ wI.toInt = (7 : Int32).toInt := of_decide_eq_false (cJ c)
      exact hQ _ h4 g4 f (by rw [if_pos (by omega)]; exact mc.1)
theorem cof_ok {dp : Nat} (ha : AST q S Y cs m N K h) (mk : MOK S Y N) (yk : YOK cs m) (hh : HI h) (pI wI : Int32) (hQ : ∀ (r : Int32) h1, HI h1 → frm WTQ h h1 → r.toInt = zOf S Y cs m N K pI wI → Q (some (.int r)) h1) : Ends X (dp + 1 + 1 + 1 + 1 + 1 + 1) 64 0 [.ref 0, .int pI, .int wI] [] h Q := by
  have N7 := mk.2.2.2
  unfold zOf at hQ
  refine w_cof pI wI hh.hs (cis_ok ha hh pI ⟨_, rfl, hh.hs, fun e => ?_, fun e => ?_⟩)
  · have e := of_decide_eq_true (cn2 e)
    have hp : pI.toInt = (pI.toInt.toNat : Int) := by omega
    have hpN : pI.toInt.toNat < N := by omega
    rw [if_neg (fun z => z e)] at hQ
    have ip : inB pI 7 = true := inB_iff (by omega) (by omega)
    have en : pI.toNatClampNeg = pI.toInt.toNat := rfl
    rw [en]
    generalize pI.toInt.toNat = p at hp hpN hQ
    obtain ⟨k0, k1, k2, k3, k4⟩ := ha.2.1 p (by omega)
    have dv := fun (v : Nat) (w : wI.toInt = v) (v4 : v ≤ 4) => (show (if ¬ (0 ≤ wI.toInt ∧ wI.toInt ≤ 9) then (-1 : Int) else if wI.toInt ≤ 4 then S wI.toInt.toNat p else if wI.toInt = 5 then ((K p).toNat : Int) else zOfM S Y cs m N K p wI.toInt) = S v p by rw [if_neg (by omega), if_pos (by omega), w]; rfl)
    have dm := fun (w : 6 ≤ wI.toInt ∧ wI.toInt ≤ 9) => (show (if ¬ (0 ≤ wI.toInt ∧ wI.toInt ≤ 9) then (-1 : Int) else if wI.toInt ≤ 4 then S wI.toInt.toNat p else if wI.toInt = 5 then ((K p).toNat : Int) else zOfM S Y cs m N K p wI.toInt) = zOfM S Y cs m N K p wI.toInt by rw [if_neg (by omega), if_neg (by omega), if_neg (by omega)])
    refine ⟨fun c => ?_, fun c => ⟨ip, ?_⟩, fun c => ⟨ip, ?_⟩, fun c => ⟨ip, ?_⟩, fun c => ⟨ip, ?_⟩, fun c => ⟨ip, ?_⟩, fun c => ?_, fun c => ?_, fun c => ?_, fun c => ?_, fun c => ?_⟩
    · exact hQ _ h hh frm_refl (by rw [if_pos (by omega)]; rfl)
    · exact hQ _ h hh frm_refl (by rw [dv 0 c (by decide)]; exact k0)
    · exact hQ _ h hh frm_refl (by rw [dv 1 c (by decide)]; exact k1)
    · exact hQ _ h hh frm_refl (by rw [dv 2 c (by decide)]; exact k2)
    · exact hQ _ h hh frm_refl (by rw [dv 3 c (by decide)]; exact k3)
    · exact hQ _ h hh frm_refl (by rw [dv 4 c (by decide)]; exact k4)
    · rw [if_neg (by omega), if_neg (by omega), if_pos c] at hQ
      refine dct_ok ha hh.hs pI p hp (by omega) ⟨_, rfl, hh.hs, fun e2 => ?_, fun e2 => ?_⟩
      · exact hQ _ h hh frm_refl (by rw [cz e2]; rfl)
      · exact hQ _ h hh frm_refl (by rw [cn e2]; rfl)
    all_goals
      rw [dm (by omega)] at hQ
      exact cmsd_ok ha mk yk hh pI wI p hp hpN (by omega) (fun r h1 d1 d2 d3 => ⟨r, rfl, d1.hs, hQ r h1 d1 d2 d3⟩)
  · have e := of_decide_eq_false (cz2 e)
    exact hQ _ h hh frm_refl (by rw [if_pos e]; rfl)
end CALLS3
end JN99tz5ccalls3
