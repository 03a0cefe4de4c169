/-! The class's calls: moved, odds, best, need, hands, alone, behind. -/
section CALLS2
variable {X : Scr} {Q : Option Value → Hp → Prop} {q : Nat} {S : Nat → Nat → Int} {Y : Int} {cs : List Cl} {m : List Int} {N : Nat} {K : Nat → Bool} {h : Hp}
/-- those whom a lane of one lets be caught -/
def zLan (S : Nat → Nat → Int) (Y : Int) (cs : List Cl) (m : List Int) (N : Nat) (K : Nat → Bool) (c l : Nat) : Nat → Bool := zC (upS S 2 c l) Y cs m N K
def zMovF (S : Nat → Nat → Int) (Y : Int) (cs : List Cl) (m : List Int) (N : Nat) (K : Nat → Bool) (sn : Int) (c : Nat) : Nat → Bool := fun l => decide (zint (zLan S Y cs m N K c l) = sn)
def zMov (S : Nat → Nat → Int) (Y : Int) (cs : List Cl) (m : List Int) (N : Nat) (K : Nat → Bool) (sn : Int) (pI : Int32) : Int := if ¬ isP N pI then -1 else if K pI.toInt.toNat = false then -3 else zint (zset (zMovF S Y cs m N K sn pI.toInt.toNat) 7)
theorem zset_S {f : Nat → Bool} {sI lI : Int32} {l : Nat} (hs : BSET sI (zset f l)) (hl : lI.toInt = l) (l7 : l < 7) : (f l = true → BSET (sI ||| (1 <<< (lI &&& 31))) (zset f (l + 1))) ∧ (f l = false → BSET sI (zset f (l + 1))) := by
  constructor
  · intro c
    refine (hs.or (BSET.one hl l7)).cg (fun x _ => ?_)
    show _ = (zset f l x || (f l && decide (x = l)))
    rw [c, Bool.true_and]
  · intro c
    refine hs.cg (fun x _ => ?_)
    show _ = (zset f l x || (f l && decide (x = l)))
    rw [c, Bool.false_and, Bool.or_false]
theorem cmov_go {dp : Nat} (mk : MOK S Y N) (yk : YOK cs m) (sn : Int) (pI : Int32) (p : Nat) (hp : pI.toInt = p) (p7 : p < 7) : ∀ (n l : Nat) (sI lI : Int32) (h : Hp), l + n = 7 → lI.toInt = l → BSET sI (zset (zMovF S Y cs m N K sn p) l) → (h.2.1 1 9).toInt = sn → AST q S Y cs m N K h → HI h → (∀ (r : Int32) h1, HI h1 → frm WTQ h h1 → BSET r (zset (zMovF S Y cs m N K sn p) 7) → Q (some (.int r)) h1) → Ends X (dp + 1 + 1 + 1 + 1 + 1 + 1) 83 31 [.ref 0, .int pI, .int sI, .int lI] [] h Q
  | n, l, sI, lI, h, hn, hl, hs, h9, ha, hh, hQ => by
    have j7 : (7 : Int32).toInt = 7 := rfl
    refine w_cmov1 pI sI lI hh.hs ⟨fun e => ?_, fun e => ?_⟩
    · have e : (7 : Int32).toInt ≤ lI.toInt := of_decide_eq_true (cJ e)
      have : l = 7 := by omega
      subst this
      exact hQ sI h hh frm_refl hs
    have e : ¬ (7 : Int32).toInt ≤ lI.toInt := of_decide_eq_false (cJ e)
    obtain ⟨n, rfl⟩ : ∃ k, n = k + 1 := ⟨n - 1, by omega⟩
    have n1 : (lI + 1).toInt = ((l + 1 : Nat) : Int) := by rw [i_add (by rw [i1]; omega) (by rw [i1]; omega), i1]; omega
    have st := zset_S hs hl (by omega)
    refine cfrm_ok ha mk yk hh pI lI p l hp p7 hl (by omega) (fun r3 h2 g2 f2 b3 => ⟨r3, rfl, g2.hs, ?_⟩)
    have e9 : h2.2.1 1 9 = h.2.1 1 9 := frI f2 rfl
    rw [e9]
    have go := fun sI' hs' => cmov_go (dp := dp) mk yk sn pI p hp p7 n (l + 1) sI' (lI + 1) h2 (by omega) n1 hs' (by rw [e9]; exact h9) (ha.fr f2) g2 (fun r h1 d1 d2 d3 => hQ r h1 d1 (frm_trans f2 d2) d3)
    have bv : r3.toInt = zint (zLan S Y cs m N K p l) := b3.val
    refine ⟨fun c => go _ (st.2 ?_), fun c => go _ (st.1 ?_)⟩
    · have c : ¬ r3.toInt = (h.2.1 1 9).toInt := of_decide_eq_true (cJ c)
      exact decide_eq_false (by omega)
    · have c : ¬ ¬ r3.toInt = (h.2.1 1 9).toInt := of_decide_eq_false (cJ c)
      exact decide_eq_true (by omega)
theorem cmov_ok {dp : Nat} (ha : AST q S Y cs m N K h) (mk : MOK S Y N) (yk : YOK cs m) (hh : HI h) (pI : Int32) (hQ : ∀ (r : Int32) h1, HI h1 → frm WTQ h h1 → r.toInt = zMov S Y cs m N K (h.2.1 1 9).toInt pI → Q (some (.int r)) h1) : Ends X (dp + 1 + 1 + 1 + 1 + 1 + 1) 83 0 [.ref 0, .int pI, .retAddr 0, .retAddr 0] [] h Q := by
  have N7 := mk.2.2.2
  unfold zMov at hQ
  refine w_cmov0 pI hh.hs (cis_ok ha hh pI ⟨_, rfl, hh.hs, fun e => ?_, fun e => ?_⟩)
  · have e := of_decide_eq_true (cn2 e)
    have hp : pI.toInt = (pI.toInt.toNat : Int) := by omega
    rw [if_neg (fun z => z e)] at hQ
    refine dct_ok ha hh.hs pI pI.toInt.toNat hp (by omega) ⟨_, rfl, hh.hs, fun e4 => ?_, fun e4 => ?_⟩
    · rw [if_neg (by rw [cn2 e4]; decide)] at hQ
      exact cmov_go mk yk _ pI pI.toInt.toNat hp (by omega) 7 0 0 0 h (by decide) rfl BSET.zero rfl ha hh (fun r h1 d1 d2 d3 => hQ r h1 d1 d2 d3.val)
    · rw [if_pos (cz2 e4)] at hQ
      exact hQ _ h hh frm_refl rfl
  · have e := of_decide_eq_false (cz2 e)
    exact hQ _ h hh frm_refl (by rw [if_pos e]; rfl)
/-- lowest terms -/
def zLow (a b : Int) (p : Int) : Int := if p = 0 then a / (Nat.gcd a.toNat b.toNat : Int) else b / (Nat.gcd a.toNat b.toNat : Int)
theorem clow_go {dp : Nat} (hs : HS h) (aI bI pI : Int32) (a b : Nat) (hA : aI.toInt = a) (hB : bI.toInt = b) (hb0 : 0 < b) (hb : b ≤ 30) (hQ : ∀ r : Int64, r.toInt = zLow a b pI.toInt → Q (some (.long r)) h) : ∀ (t : Nat) (d r : Nat) (dI rI iI : Int32) (x : Value), dI.toInt = d → rI.toInt = r → iI.toInt + t = 64 → 0 ≤ iI.toInt → (r ≤ t ∨ (iI.toInt = 0 ∧ d ≤ 30 ∧ r ≤ 1000)) → 0 < d → d ≤ 1000 → r ≤ 1000 → Nat.gcd d r = Nat.gcd a b → Ends X dp 107 8 [.int aI, .int bI, .int pI, .int dI, .int rI, .int iI, x] [] h Q
  | t, d, r, dI, rI, iI, x, hd, hr, hi, hi0, hrt, hd0, hd9, hr9, hg => by
    have z0' : (0 : Int32).toInt = 0 := rfl
    have j64 : (64 : Int32).toInt = 64 := rfl
    -- the end
    have fin : r = 0 → ((condB .ne dI 0 = true → ((condB .ne pI 0 = true → (¬ dI = 0 ∧ Q (some (.long ((bI / dI).toInt64))) h)) ∧ (condB .ne pI 0 = false → (¬ dI = 0 ∧ Q (some (.long ((aI / dI).toInt64))) h)))) ∧ (condB .ne dI 0 = false → Q (some (.long (-9223372036854775808))) h)) := by
      intro r0
      subst r0
      rw [Nat.gcd_zero_right] at hg
      have d0 : ¬ dI = 0 := fun z => by rw [z] at hd; omega
      refine ⟨fun _ => ⟨fun c => ⟨d0, hQ _ ?_⟩, fun c => ⟨d0, hQ _ ?_⟩⟩, fun c => ?_⟩
      · have c : ¬ pI.toInt = (0 : Int32).toInt := of_decide_eq_true (cJ c)
        unfold zLow
        rw [Int32.toInt_toInt64, if_neg (by omega), i_dv (by omega) (by omega), hB, hd, show Int.toNat (a : Int) = a from rfl, show Int.toNat (b : Int) = b from rfl, hg]
      · have c : ¬ ¬ pI.toInt = (0 : Int32).toInt := of_decide_eq_false (cJ c)
        unfold zLow
        rw [Int32.toInt_toInt64, if_pos (by omega), i_dv (by omega) (by omega), hA, hd, show Int.toNat (a : Int) = a from rfl, show Int.toNat (b : Int) = b from rfl, hg]
      · exfalso
        have c : ¬ ¬ dI.toInt = (0 : Int32).toInt := of_decide_eq_false (cJ c)
        omega
    refine w_clow1 aI bI pI dI rI iI x hs ⟨fun e => ?_, fun e => ⟨fun e2 => ?_, fun e2 => ?_⟩⟩
    · have e : (64 : Int32).toInt ≤ iI.toInt := of_decide_eq_true (cJ e)
      exact fin (by omega)
    · have e2 : rI.toInt = (0 : Int32).toInt := of_decide_eq_true (cJ e2)
      exact fin (by omega)
    · have e : ¬ (64 : Int32).toInt ≤ iI.toInt := of_decide_eq_false (cJ e)
      have e2 : ¬ rI.toInt = (0 : Int32).toInt := of_decide_eq_false (cJ e2)
      have r0 : 0 < r := by omega
      have q1 : (dI / rI).toInt = ((d / r : Nat) : Int) := by rw [i_dv (by omega) (by omega), hd, hr]; rfl
      have le1 : d / r * r ≤ d := Nat.div_mul_le_self d r
      have le2 : ((d / r : Nat) : Int) * (r : Int) = ((d / r * r : Nat) : Int) := (Int.natCast_mul _ _).symm
      have q2 : (dI / rI * rI).toInt = ((d / r * r : Nat) : Int) := by rw [i_mul (by rw [q1, hr, le2]; omega) (by rw [q1, hr, le2]; omega), q1, hr, le2]
      have md : d % r = d - d / r * r := by rw [Nat.mul_comm]; exact Nat.mod_def d r
      have q3 : (dI - dI / rI * rI).toInt = ((d % r : Nat) : Int) := by rw [i_sub (by omega) (by omega), q2, hd, md]; omega
      have lt : d % r < r := Nat.mod_lt d r0
      have n1 : (iI + 1).toInt = iI.toInt + 1 := by rw [i_add (by rw [i1]; omega) (by rw [i1]; omega), i1]
      obtain ⟨t, rfl⟩ : ∃ k, t = k + 1 := ⟨t - 1, by omega⟩
      have lt2 : d % r ≤ d := Nat.mod_le d r
      refine ⟨fun z => by rw [z] at hr; omega, clow_go hs aI bI pI a b hA hB hb0 hb hQ t r (d % r) _ _ _ _ hr q3 (by omega) (by omega) (Or.inl (by omega)) r0 hr9 (by omega) ?_⟩
      rw [← hg, Nat.gcd_comm r (d % r), ← Nat.gcd_rec r d, Nat.gcd_comm]
theorem clow_ok {dp : Nat} (hs : HS h) (aI bI pI : Int32) (a b : Nat) (hA : aI.toInt = a) (hB : bI.toInt = b) (hb0 : 0 < b) (hb : b ≤ 30) (ha : a ≤ 1000) (hQ : ∀ r : Int64, r.toInt = zLow a b pI.toInt → Q (some (.long r)) h) : Ends X dp 107 0 [.int aI, .int bI, .int pI, .retAddr 0, .retAddr 0, .retAddr 0, .retAddr 0] [] h Q :=
  w_clow0 aI bI pI hs (clow_go hs aI bI pI a b hA hB hb0 hb hQ 64 b a _ _ _ _ hB hA rfl (by decide) (Or.inr ⟨rfl, hb, ha⟩) hb0 (by omega) ha (Nat.gcd_comm b a))
/-- how many of the first so many have f -/
def zct (f : Nat → Bool) : Nat → Nat
  | 0 => 0
  | l + 1 => zct f l + (f l).toNat
theorem zct_le (f : Nat → Bool) : ∀ l, zct f l ≤ l
  | 0 => Nat.le_refl _
  | l + 1 => by
    have i := zct_le f l
    have : (f l).toNat ≤ 1 := by cases f l <;> decide
    show zct f l + (f l).toNat ≤ _
    omega
def zOddF (S : Nat → Nat → Int) (Y : Int) (cs : List Cl) (m : List Int) (N : Nat) (K : Nat → Bool) (p c : Nat) : Nat → Bool := fun l => zLan S Y cs m N K c l p
def zNO : Int := -9223372036854775808
def zOdd (S : Nat → Nat → Int) (Y : Int) (cs : List Cl) (m : List Int) (N : Nat) (K : Nat → Bool) (pI cI aI : Int32) : Int := if ¬ isP N pI ∨ ¬ isP N cI ∨ ¬ is01 aI then zNO else if K pI.toInt.toNat = true ∨ K cI.toInt.toNat = false then zNO else zLow (zct (zOddF S Y cs m N K pI.toInt.toNat cI.toInt.toNat) 7) 7 aI.toInt
theorem codd_go {dp : Nat} (mk : MOK S Y N) (yk : YOK cs m) (pI cI aI : Int32) (p c : Nat) (hp : pI.toInt = p) (p7 : p < 7) (hc : cI.toInt = c) (c7 : c < 7) : ∀ (n l : Nat) (nI lI : Int32) (h : Hp), l + n = 7 → lI.toInt = l → nI.toInt = zct (zOddF S Y cs m N K p c) l → AST q S Y cs m N K h → HI h → (∀ (r : Int64) h1, HI h1 → frm WTQ h h1 → r.toInt = zLow (zct (zOddF S Y cs m N K p c) 7) 7 aI.toInt → Q (some (.long r)) h1) → Ends X (dp + 1 + 1 + 1 + 1 + 1 + 1) 84 67 [.ref 0, .int pI, .int cI, .int aI, .int nI, .int lI] [] h Q
  | n, l, nI, lI, h, hn, hl, hv, ha, hh, hQ => by
    have j7 : (7 : Int32).toInt = 7 := rfl
    have zl := zct_le (zOddF S Y cs m N K p c) l
    refine w_codd1 pI cI aI nI lI hh.hs ⟨fun e => ?_, fun e => ?_⟩
    · have e : (7 : Int32).toInt ≤ lI.toInt := of_decide_eq_true (cJ e)
      have : l = 7 := by omega
      subst this
      exact clow_ok hh.hs nI 7 aI _ 7 hv rfl (by decide) (by decide) (by omega) (fun r hr => ⟨r, rfl, hh.hs, hQ r h hh frm_refl hr⟩)
    have e : ¬ (7 : Int32).toInt ≤ lI.toInt := of_decide_eq_false (cJ e)
    obtain ⟨n, rfl⟩ : ∃ k, n = k + 1 := ⟨n - 1, by omega⟩
    have n1 : (lI + 1).toInt = ((l + 1 : Nat) : Int) := by rw [i_add (by rw [i1]; omega) (by rw [i1]; omega), i1]; omega
    have pS : zct (zOddF S Y cs m N K p c) (l + 1) = zct (zOddF S Y cs m N K p c) l + (zOddF S Y cs m N K p c l).toNat := rfl
    refine cfrm_ok ha mk yk hh cI lI c l hc c7 hl (by omega) (fun r6 h5 g5 f5 b6 => ⟨r6, rfl, g5.hs, isin_ok b6 hp p7 g5.hs ⟨_, rfl, g5.hs, fun e2 => ?_, fun e2 => ?_⟩⟩)
    · have e2 : zOddF S Y cs m N K p c l = false := cz e2
      exact codd_go mk yk pI cI aI p c hp p7 hc c7 n (l + 1) _ _ h5 (by omega) n1 (by rw [pS, e2]; exact hv) (ha.fr f5) g5 (fun r h1 d1 d2 d3 => hQ r h1 d1 (frm_trans f5 d2) d3)
    · have e2 : zOddF S Y cs m N K p c l = true := cn e2
      refine codd_go mk yk pI cI aI p c hp p7 hc c7 n (l + 1) _ _ h5 (by omega) n1 ?_ (ha.fr f5) g5 (fun r h1 d1 d2 d3 => hQ r h1 d1 (frm_trans f5 d2) d3)
      rw [pS, e2, i_add (by rw [i1]; omega) (by rw [i1]; omega), i1, hv]
      rfl
theorem codd_ok {dp : Nat} (ha : AST q S Y cs m N K h) (mk : MOK S Y N) (yk : YOK cs m) (hh : HI h) (pI cI aI : Int32) (hQ : ∀ (r : Int64) h1, HI h1 → frm WTQ h h1 → r.toInt = zOdd S Y cs m N K pI cI aI → Q (some (.long r)) h1) : Ends X (dp + 1 + 1 + 1 + 1 + 1 + 1) 84 0 [.ref 0, .int pI, .int cI, .int aI, .retAddr 0, .retAddr 0] [] h Q := by
  have N7 := mk.2.2.2
  have z0' : (0 : Int32).toInt = 0 := rfl
  have no : ((-9223372036854775808 : Int64)).toInt = zNO := rfl
  unfold zOdd at hQ
  refine w_codd0 pI cI aI hh.hs (cis_ok ha hh pI ⟨_, rfl, hh.hs, fun e => ?_, fun e => cis_ok ha hh cI ⟨_, rfl, hh.hs, fun e2 => ?_, fun e2 => ⟨fun e3 => ?_, fun e3 => ⟨fun e4 => ?_, fun e4 => ?_⟩⟩⟩⟩)
  · exact hQ _ h hh frm_refl (by rw [if_pos (Or.inl (of_decide_eq_false (cz e)))]; exact no)
  · exact hQ _ h hh frm_refl (by rw [if_pos (Or.inr (Or.inl (of_decide_eq_false (cz e2))))]; exact no)
  · have e3 : aI.toInt < (0 : Int32).toInt := of_decide_eq_true (cJ e3)
    exact hQ _ h hh frm_refl (by rw [if_pos (Or.inr (Or.inr (by omega)))]; exact no)
  · have e3 : ¬ aI.toInt < (0 : Int32).toInt := of_decide_eq_false (cJ e3)
    have e4 : aI.toInt ≤ (1 : Int32).toInt := of_decide_eq_true (cJ e4)
    rw [i1] at e4
    have e := of_decide_eq_true (cn e)
    have e2 := of_decide_eq_true (cn e2)
    have hp : pI.toInt = (pI.toInt.toNat : Int) := by omega
    have hc : cI.toInt = (cI.toInt.toNat : Int) := by omega
    rw [if_neg (by omega)] at hQ
    refine dct_ok ha hh.hs pI pI.toInt.toNat hp (by omega) ⟨_, rfl, hh.hs, fun e5 => ?_, fun e5 => dct_ok ha hh.hs cI cI.toInt.toNat hc (by omega) ⟨_, rfl, hh.hs, fun e6 => ?_, fun e6 => ?_⟩⟩
    · exact hQ _ h hh frm_refl (by rw [if_pos (Or.inl (cn2 e5))]; exact no)
    · rw [if_neg (by rw [cz2 e5, cn2 e6]; decide)] at hQ
      exact codd_go mk yk pI cI aI _ _ hp (by omega) hc (by omega) 7 0 0 0 h (by decide) rfl rfl ha hh hQ
    · exact hQ _ h hh frm_refl (by rw [if_pos (Or.inr (cz2 e6))]; exact no)
  · have e4 : ¬ aI.toInt ≤ (1 : Int32).toInt := of_decide_eq_false (cJ e4)
    rw [i1] at e4
    exact hQ _ h hh frm_refl (by rw [if_pos (Or.inr (Or.inr (by omega)))]; exact no)
/-- best: one sent to a lane isn't caught -/
def zBesF (S : Nat → Nat → Int) (Y : Int) (cs : List Cl) (m : List Int) (N : Nat) (K : Nat → Bool) (p : Nat) : Nat → Bool := fun l => !zcau S Y cs m K (zR N K) false p l (-1) 0 p
def zBes (S : Nat → Nat → Int) (Y : Int) (cs : List Cl) (m : List Int) (N : Nat) (K : Nat → Bool) (pI : Int32) : Int := if ¬ isP N pI then -1 else if K pI.toInt.toNat = true then -3 else zint (zset (zBesF S Y cs m N K pI.toInt.toNat) 7)
theorem NCS.one (hY : YB q) (hn : NCS q S Y cs m N K h) (pI lI : Int32) : DCS q S Y cs m N K (zR N K) false pI.toInt lI.toInt (-1) 0 (hpI (hpI h 17 13 pI) 17 14 lI) := by
  obtain ⟨⟨c1, c2, c3⟩, a2, a3, a4, a5, a6, a7, a8⟩ := hn
  refine ⟨⟨fun p hp => ?_, fun i hi => by rw [put_ne (by omega), put_ne (by omega)]; exact c2 i hi, by rw [put_ne (by omega), put_ne (by omega)]; exact c3⟩, (a2.put hY (by decide)).put hY (by decide), by rw [put_ne (by omega), put_ne (by omega)]; exact a3, ⟨K, fun _ => false, by rw [put_ne (by omega), put_ne (by omega)]; exact a4, by rw [put_ne (by omega), put_ne (by omega), a5]; exact BSET.zero, fun p _ => by rw [Bool.not_false, Bool.and_true], fun p _ => by rw [Bool.not_false, Bool.and_true]; rfl⟩, by rw [put_ne (by omega), put_ne (by omega)]; exact a6, by rw [put_ne (by omega), put_at], by rw [put_at], by rw [put_ne (by omega), put_ne (by omega)]; exact a8, fun z => absurd z (by decide)⟩
  rw [put_ne (by omega), put_ne (by omega), put_ne (by omega), put_ne (by omega), put_ne (by omega), put_ne (by omega), put_ne (by omega), put_ne (by omega), put_ne (by omega), put_ne (by omega)]
  exact c1 p hp
theorem iv_1714 : ivl 17 13 = (-2147483648, 2147483647) ∧ ivl 17 14 = (0, 6) ∧ ivl 17 12 = (0, 1) ∧ ivl 17 9 = (-2147483648, 2147483647) ∧ ivl 17 15 = (-1, 6) ∧ ivl 17 16 = (-2147483648, 2147483647) := by decide +kernel
theorem cbes_go {dp : Nat} (mk : MOK S Y N) (yk : YOK cs m) (pI : Int32) (p : Nat) (hp : pI.toInt = p) (p7 : p < 7) : ∀ (n l : Nat) (sI lI : Int32) (h : Hp), l + n = 7 → lI.toInt = l → BSET sI (zset (zBesF S Y cs m N K p) l) → AST q S Y cs m N K h → HI h → (∀ (r : Int32) h1, HI h1 → frm WTQ h h1 → BSET r (zset (zBesF S Y cs m N K p) 7) → Q (some (.int r)) h1) → Ends X (dp + 1 + 1 + 1 + 1 + 1) 76 31 [.ref 0, .int pI, .int sI, .int lI] [] h Q
  | n, l, sI, lI, h, hn, hl, hs, ha, hh, hQ => by
    have j7 : (7 : Int32).toInt = 7 := rfl
    refine w_cbes1 pI sI lI hh.hs ⟨fun e => ?_, fun e => ?_⟩
    · have e : (7 : Int32).toInt ≤ lI.toInt := of_decide_eq_true (cJ e)
      have : l = 7 := by omega
      subst this
      exact hQ sI h hh frm_refl hs
    have e : ¬ (7 : Int32).toInt ≤ lI.toInt := of_decide_eq_false (cJ e)
    obtain ⟨n, rfl⟩ : ∃ k, n = k + 1 := ⟨n - 1, by omega⟩
    have n1 : (lI + 1).toInt = ((l + 1 : Nat) : Int) := by rw [i_add (by rw [i1]; omega) (by rw [i1]; omega), i1]; omega
    have st := zset_S hs hl (by omega)
    refine asks_ok ha hh (fun h2 g2 f2 n2 => ⟨rfl, g2.hs, w_snd pI lI g2.hs ⟨rfl, g2.hs, ?_⟩⟩)
    have d2 := n2.one ha.1 pI lI
    rw [hp, hl] at d2
    have g5 : HI (hpI (hpI h2 17 13 pI) 17 14 lI) := HI_put (HI_full g2 iv_1714.1) (by rw [iv_1714.2.1]; omega) (by rw [iv_1714.2.1]; omega)
    have f5 : frm WTQ h (hpI (hpI h2 17 13 pI) 17 14 lI) := frm_put (frm_put f2 rfl) rfl
    refine cau_ok ha.1 mk.1 mk.2.1 yk mk.2.2.1 mk.2.2.2 (Or.inl rfl) g5 d2 (fun r9 h8 g8 f8 _ b9 => ⟨r9, rfl, g8.hs, isin_ok b9 hp p7 g8.hs ⟨_, rfl, g8.hs, ?_⟩⟩)
    have f := frm_trans f5 (WCX_T f8)
    have go := fun sI' hs' => cbes_go (dp := dp) mk yk pI p hp p7 n (l + 1) sI' (lI + 1) h8 (by omega) n1 hs' (ha.fr f) g8 (fun r h1 d1 d2 d3 => hQ r h1 d1 (frm_trans f d2) d3)
    refine ⟨fun c => go _ (st.2 ?_), fun c => go _ (st.1 ?_)⟩
    · unfold zBesF
      rw [cn2 c]
      rfl
    · unfold zBesF
      rw [cz2 c]
      rfl
theorem cbes_ok {dp : Nat} (ha : AST q S Y cs m N K h) (mk : MOK S Y N) (yk : YOK cs m) (hh : HI h) (pI : Int32) (hQ : ∀ (r : Int32) h1, HI h1 → frm WTQ h h1 → r.toInt = zBes S Y cs m N K pI → Q (some (.int r)) h1) : Ends X (dp + 1 + 1 + 1 + 1 + 1) 76 0 [.ref 0, .int pI, .retAddr 0, .retAddr 0] [] h Q := by
  have N7 := mk.2.2.2
  unfold zBes at hQ
  refine w_cbes0 pI hh.hs (cis_ok ha hh pI ⟨_, rfl, hh.hs, fun e => ?_, fun e => ?_⟩)
  · have e := of_decide_eq_true (cn2 e)
    have hp : pI.toInt = (pI.toInt.toNat : Int) := by omega
    rw [if_neg (fun z => z e)] at hQ
    refine dct_ok ha hh.hs pI pI.toInt.toNat hp (by omega) ⟨_, rfl, hh.hs, fun e4 => ?_, fun e4 => ?_⟩
    · rw [if_neg (by rw [cz e4]; decide)] at hQ
      exact cbes_go mk yk pI pI.toInt.toNat hp (by omega) 7 0 0 0 h (by decide) rfl BSET.zero ha hh (fun r h1 d1 d2 d3 => hQ r h1 d1 d2 d3.val)
    · rw [if_pos (cn e4)] at hQ
      exact hQ _ h hh frm_refl rfl
  · have e := of_decide_eq_false (cz2 e)
    exact hQ _ h hh frm_refl (by rw [if_pos e]; rfl)
/-- need: with this strength it isn't caught -/
def zNeeF (S : Nat → Nat → Int) (Y : Int) (cs : List Cl) (m : List Int) (N : Nat) (K : Nat → Bool) (p : Nat) : Nat → Bool := fun s => !zC (upS S 4 p s) Y cs m N K p
def zNee (S : Nat → Nat → Int) (Y : Int) (cs : List Cl) (m : List Int) (N : Nat) (K : Nat → Bool) (pI : Int32) : Int := if ¬ isP N pI then -1 else if K pI.toInt.toNat = true then -3 else zff (zNeeF S Y cs m N K pI.toInt.toNat) 10 0
theorem cnee_go {dp : Nat} (hY : YB q) (mk : MOK S Y N) (yk : YOK cs m) (pI : Int32) (p : Nat) (hp : pI.toInt = p) (p7 : p < 7) : ∀ (n s : Nat) (sI : Int32) (S' : Nat → Nat → Int) (h : Hp), s + n = 10 → sI.toInt = s → (∀ v, upS S' 4 p v = upS S 4 p v) → NCS q S' Y cs m N K h → HI h → (∀ (r : Int32) h1, HI h1 → frm WTQ h h1 → r.toInt = zff (zNeeF S Y cs m N K p) n s → Q (some (.int r)) h1) → Ends X (dp + 1 + 1 + 1 + 1 + 1) 77 33 [.ref 0, .int pI, .int sI] [] h Q
  | n, s, sI, S', h, hn, hl, hS, hc, hh, hQ => by
    have j9 : (9 : Int32).toInt = 9 := rfl
    refine w_cnee1 pI sI hh.hs ⟨fun e => ?_, fun e => ⟨inB_iff (by omega) (by omega), ?_⟩⟩
    · have e : (9 : Int32).toInt < sI.toInt := of_decide_eq_true (cJ e)
      have : n = 0 := by omega
      subst this
      exact hQ _ h hh frm_refl rfl
    have e : ¬ (9 : Int32).toInt < sI.toInt := of_decide_eq_false (cJ e)
    obtain ⟨n, rfl⟩ : ∃ k, n = k + 1 := ⟨n - 1, by omega⟩
    have n1 : (sI + 1).toInt = ((s + 1 : Nat) : Int) := by rw [i_add (by rw [i1]; omega) (by rw [i1]; omega), i1]; omega
    rw [show pI.toNatClampNeg = p by show pI.toInt.toNat = _; omega]
    have g2 : HI (hpI h 23 p sI) := HI_put hh (by rw [iv_23 p p7]; omega) (by rw [iv_23 p p7]; omega)
    have f2 : frm WTQ h (hpI h 23 p sI) := frm_put frm_refl (by simp [inW, WTQ])
    have n2 := hc.up4 (p := p) (v := sI) hY
    rw [hl, hS] at n2
    unfold zff at hQ
    refine ncau_ok hY (mk.up4 (by omega)) yk g2 n2 (fun r4 h3 g3 f3 n3 _ b4 => ⟨r4, rfl, g3.hs, isin_ok b4 hp p7 g3.hs ⟨_, rfl, g3.hs, fun c => ?_, fun c => ?_⟩⟩)
    · have c := cn2 c
      have f := frm_trans f2 (WCX_T f3)
      refine cnee_go hY mk yk pI p hp p7 n (s + 1) _ (upS S 4 p s) h3 (by omega) n1 (fun v => upS_up) n3 g3 (fun r h1 d1 d2 d3 => hQ r h1 d1 (frm_trans f d2) ?_)
      rw [if_neg]
      · exact d3
      · unfold zNeeF
        rw [c]
        decide
    · have c := cz2 c
      refine hQ _ h3 g3 (frm_trans f2 (WCX_T f3)) ?_
      rw [if_pos]
      · exact hl
      · unfold zNeeF
        rw [c]
        rfl
theorem cnee_ok {dp : Nat} (ha : AST q S Y cs m N K h) (mk : MOK S Y N) (yk : YOK cs m) (hh : HI h) (pI : Int32) (hQ : ∀ (r : Int32) h1, HI h1 → frm WTQ h h1 → r.toInt = zNee S Y cs m N K pI → Q (some (.int r)) h1) : Ends X (dp + 1 + 1 + 1 + 1 + 1) 77 0 [.ref 0, .int pI, .retAddr 0] [] h Q := by
  have N7 := mk.2.2.2
  unfold zNee at hQ
  refine w_cnee0 pI hh.hs (cis_ok ha hh pI ⟨_, rfl, hh.hs, fun e => ?_, fun e => ?_⟩)
  · have e := of_decide_eq_true (cn2 e)
    have hp : pI.toInt = (pI.toInt.toNat : Int) := by omega
    rw [if_neg (fun z => z e)] at hQ
    refine dct_ok ha hh.hs pI pI.toInt.toNat hp (by omega) ⟨_, rfl, hh.hs, fun e4 => ?_, fun e4 => ?_⟩
    · rw [if_neg (by rw [cz e4]; decide)] at hQ
      exact asks_ok ha hh (fun h9 g9 f9 n9 => ⟨rfl, g9.hs, cnee_go ha.1 mk yk pI pI.toInt.toNat hp (by omega) 10 0 0 S h9 (by decide) rfl (fun _ => rfl) n9 g9 (fun r h1 d1 d2 d3 => hQ r h1 d1 (frm_trans f9 d2) d3)⟩)
    · rw [if_pos (cn e4)] at hQ
      exact hQ _ h hh frm_refl rfl
  · have e := of_decide_eq_false (cz2 e)
    exact hQ _ h hh frm_refl (by rw [if_pos e]; rfl)
/-- hands -/
def zHan (S : Nat → Nat → Int) (Y : Int) (cs : List Cl) (m : List Int) (N : Nat) (K : Nat → Bool) : Int := zff (zcau S Y cs m K (zR N K) true (-1) 0 (-1) 0) 7 0
theorem cfin_go {dp : Nat} (hs : HS h) (bI : Int32) (f : Nat → Bool) (hb : BSET bI f) (hQ0 : ∀ r : Int32, r.toInt = zff f 7 0 → Q (some (.int r)) h) : ∀ (n p : Nat) (pI : Int32), p + n = 7 → pI.toInt = p → zff f n p = zff f 7 0 → Ends X (dp + 1) 105 2 [.int bI, .int pI] [] h Q
  | n, p, pI, hn, hp, hz => by
    have j7 : (7 : Int32).toInt = 7 := rfl
    refine w_cfin1 bI pI hs ⟨fun e => ?_, fun e => ?_⟩
    · have e : (7 : Int32).toInt ≤ pI.toInt := of_decide_eq_true (cJ e)
      have : n = 0 := by omega
      subst this
      exact hQ0 _ hz
    have e : ¬ (7 : Int32).toInt ≤ pI.toInt := of_decide_eq_false (cJ e)
    obtain ⟨n, rfl⟩ : ∃ k, n = k + 1 := ⟨n - 1, by omega⟩
    have n1 : (pI + 1).toInt = ((p + 1 : Nat) : Int) := by rw [i_add (by rw [i1]; omega) (by rw [i1]; omega), i1]; omega
    have hz : (if f p = true then (p : Int) else zff f n (p + 1)) = zff f 7 0 := hz
    refine isin_ok hb hp (by omega) hs ⟨_, rfl, hs, fun c => ?_, fun c => ?_⟩
    · rw [if_neg (by rw [cz c]; decide)] at hz
      exact cfin_go hs bI f hb hQ0 n (p + 1) _ (by omega) n1 hz
    · rw [if_pos (cn c)] at hz
      exact hQ0 _ (by rw [← hz]; exact hp)
theorem cfin_ok {dp : Nat} (hs : HS h) (bI : Int32) (f : Nat → Bool) (hb : BSET bI f) (hQ0 : ∀ r : Int32, r.toInt = zff f 7 0 → Q (some (.int r)) h) : Ends X (dp + 1) 105 0 [.int bI, .retAddr 0] [] h Q :=
  w_cfin0 bI hs (cfin_go hs bI f hb hQ0 7 0 0 (by decide) rfl rfl)
theorem NCS.cg17 (hn : NCS q S Y cs m N K h) {k : Nat} {v : Int32} : CG (hpI h 17 k v) S Y := by
  obtain ⟨⟨c1, c2, c3⟩, -⟩ := hn
  refine ⟨fun p hp => ?_, fun i hi => by rw [put_ne (by omega)]; exact c2 i hi, by rw [put_ne (by omega)]; exact c3⟩
  rw [put_ne (by omega), put_ne (by omega), put_ne (by omega), put_ne (by omega), put_ne (by omega)]
  exact c1 p hp
theorem chan_ok {dp : Nat} (ha : AST q S Y cs m N K h) (mk : MOK S Y N) (yk : YOK cs m) (hh : HI h) (hQ : ∀ (r : Int32) h1, HI h1 → frm WTQ h h1 → r.toInt = zHan S Y cs m N K → Q (some (.int r)) h1) : Ends X (dp + 1 + 1 + 1 + 1 + 1) 78 0 [.ref 0] [] h Q := by
  refine w_chan hh.hs (asks_ok ha hh (fun h1 g1 f1 n1 => ⟨rfl, g1.hs, ?_⟩))
  have g2 : HI (hpI h1 17 12 1) := HI_put g1 (by rw [iv_1714.2.2.1]; decide) (by rw [iv_1714.2.2.1]; decide)
  have cg := n1.cg17 (k := 12) (v := 1)
  obtain ⟨a1, a2, a3, a4, a5, a6, a7, a8⟩ := n1
  have d2 : DCS q S Y cs m N K (zR N K) true (-1) ((hpI h1 17 12 1).2.1 17 14).toInt (-1) 0 (hpI h1 17 12 1) := ⟨cg, a2.put ha.1 (by decide), by rw [put_ne (by omega)]; exact a3, ⟨K, fun _ => false, by rw [put_ne (by omega)]; exact a4, by rw [put_ne (by omega), a5]; exact BSET.zero, fun p _ => by rw [Bool.not_false, Bool.and_true], fun p _ => by rw [Bool.not_false, Bool.and_true]; rfl⟩, by rw [put_at]; rfl, by rw [put_ne (by omega)]; exact a7, rfl, by rw [put_ne (by omega)]; exact a8, fun z => absurd z (by decide)⟩
  refine cau_ok ha.1 mk.1 mk.2.1 yk mk.2.2.1 mk.2.2.2 (Or.inl rfl) g2 d2 (fun r5 h4 g4 f4 _ b5 => ⟨r5, rfl, g4.hs, ?_⟩)
  rw [zcau_t (t' := 0) (by decide)] at b5
  exact cfin_ok g4.hs r5 _ b5 (fun r hr => ⟨r, rfl, g4.hs, hQ r h4 g4 (frm_trans (frm_put f1 rfl) (WCX_T f4)) hr⟩)
/-- alone: that one catches alone, the others who catch are not there -/
def zAlo (S : Nat → Nat → Int) (Y : Int) (cs : List Cl) (m : List Int) (N : Nat) (K : Nat → Bool) (pI : Int32) : Int := if ¬ isP N pI then -1 else if K pI.toInt.toNat = false then -3 else (pop (zcau S Y cs m (fun x => decide (x = pI.toInt.toNat)) (zR N K) false (-1) 0 (-1) 0) : Int)
theorem calo_ok {dp : Nat} (ha : AST q S Y cs m N K h) (mk : MOK S Y N) (yk : YOK cs m) (hh : HI h) (pI : Int32) (hQ : ∀ (r : Int32) h1, HI h1 → frm WTQ h h1 → r.toInt = zAlo S Y cs m N K pI → Q (some (.int r)) h1) : Ends X (dp + 1 + 1 + 1 + 1 + 1) 79 0 [.ref 0, .int pI] [] h Q := by
  have N7 := mk.2.2.2
  unfold zAlo at hQ
  refine w_calo pI hh.hs (cis_ok ha hh pI ⟨_, rfl, hh.hs, fun e => ?_, fun e => ?_⟩)
  · have e := of_decide_eq_true (cn2 e)
    have hp : pI.toInt = (pI.toInt.toNat : Int) := by omega
    rw [if_neg (fun z => z e)] at hQ
    refine dct_ok ha hh.hs pI pI.toInt.toNat hp (by omega) ⟨_, rfl, hh.hs, fun e4 => ?_, fun e4 => ?_⟩
    · have kp := cn2 e4
      rw [if_neg (by rw [kp]; decide)] at hQ
      generalize pI.toInt.toNat = p at hp kp hQ
      refine asks_ok ha hh (fun h9 g9 f9 n9 => ⟨rfl, g9.hs, ?_⟩)
      have K9 := (ha.fr f9).2.2.2.2.2.1
      have A9 := K9.no (BSET.one hp (by omega))
      generalize h9.2.1 1 7 &&& ((1 <<< (pI &&& 31)) ^^^ (-1)) = aI at A9
      have g2 : HI (hpI h9 17 9 aI) := HI_full g9 iv_1714.2.2.2.1
      have cg := n9.cg17 (k := 9) (v := aI)
      obtain ⟨a1, a2, a3, a4, a5, a6, a7, a8⟩ := n9
      have d2 : DCS q S Y cs m N (fun x => decide (x = p)) (zR N K) false (-1) ((hpI h9 17 9 aI).2.1 17 14).toInt (-1) 0 (hpI h9 17 9 aI) := ⟨cg, a2.put ha.1 (by decide), by rw [put_ne (by omega)]; exact a3, ⟨K, fun x => K x && !decide (x = p), by rw [put_ne (by omega)]; exact a4, by rw [put_at]; exact A9, fun x _ => by
        show (K x && !(K x && !decide (x = p))) = decide (x = p)
        by_cases d : x = p
        · rw [d, kp, decide_eq_true (rfl : p = p)]
          rfl
        · rw [decide_eq_false d]
          cases K x <;> rfl, fun x _ => by
        show ((decide (x < N) && !K x) && !(K x && !decide (x = p))) = (decide (x < N) && !K x)
        cases K x <;> cases decide (x < N) <;> rfl⟩, by rw [put_ne (by omega)]; exact a6, by rw [put_ne (by omega)]; exact a7, rfl, by rw [put_ne (by omega)]; exact a8, fun z => absurd z (by decide)⟩
      refine cau_ok ha.1 mk.1 mk.2.1 yk mk.2.2.1 mk.2.2.2 (Or.inl rfl) g2 d2 (fun r5 h4 g4 f4 _ b5 => ⟨r5, rfl, g4.hs, ?_⟩)
      rw [zcau_t (t' := 0) (by decide)] at b5
      exact bct_ok b5 g4.hs (fun r hr => ⟨r, rfl, g4.hs, hQ r h4 g4 (frm_trans (frm_put f9 rfl) (WCX_T f4)) hr⟩)
    · rw [if_pos (cz2 e4)] at hQ
      exact hQ _ h hh frm_refl rfl
  · have e := of_decide_eq_false (cz2 e)
    exact hQ _ h hh frm_refl (by rw [if_pos e]; rfl)
/-- behind -/
def zBeh (S : Nat → Nat → Int) (Y : Int) (cs : List Cl) (m : List Int) (N : Nat) (K : Nat → Bool) (pI oI : Int32) : Int := if ¬ isP N pI ∨ ¬ isP N oI then -1 else if pI.toInt = oI.toInt then -2 else if K pI.toInt.toNat = true ∨ K oI.toInt.toNat = true then -3 else if zcau S Y cs m K (zR N K) false (-1) 0 pI.toInt oI.toInt pI.toInt.toNat = true then 0 else 1
theorem cbeh_ok {dp : Nat} (ha : AST q S Y cs m N K h) (mk : MOK S Y N) (yk : YOK cs m) (hh : HI h) (pI oI : Int32) (hQ : ∀ (r : Int32) h1, HI h1 → frm WTQ h h1 → r.toInt = zBeh S Y cs m N K pI oI → Q (some (.int r)) h1) : Ends X (dp + 1 + 1 + 1 + 1 + 1) 81 0 [.ref 0, .int pI, .int oI] [] h Q := by
  have N7 := mk.2.2.2
  unfold zBeh at hQ
  refine w_cbeh pI oI hh.hs (cis_ok ha hh pI ⟨_, rfl, hh.hs, fun e => ?_, fun e => cis_ok ha hh oI ⟨_, rfl, hh.hs, fun e2 => ⟨fun e3 => ?_, fun e3 => ?_⟩, fun e2 => ?_⟩⟩)
  · exact hQ _ h hh frm_refl (by rw [if_pos (Or.inl (of_decide_eq_false (cz e)))]; rfl)
  · have e := of_decide_eq_true (cn e)
    have e2 := of_decide_eq_true (cn2 e2)
    have e3 : ¬ pI.toInt = oI.toInt := of_decide_eq_true (cJ e3)
    have hp : pI.toInt = (pI.toInt.toNat : Int) := by omega
    have ho : oI.toInt = (oI.toInt.toNat : Int) := by omega
    rw [if_neg (fun z => z.elim (fun z => z e) (fun z => z e2)), if_neg e3] at hQ
    refine dct_ok ha hh.hs pI pI.toInt.toNat hp (by omega) ⟨_, rfl, hh.hs, fun e4 => ?_, fun e4 => dct_ok ha hh.hs oI oI.toInt.toNat ho (by omega) ⟨_, rfl, hh.hs, fun e5 => ?_, fun e5 => ?_⟩⟩
    · rw [if_pos (Or.inl (cn2 e4))] at hQ
      exact hQ _ h hh frm_refl rfl
    · have kp := cz2 e4
      have ko := cz e5
      rw [if_neg (by rw [kp, ko]; decide)] at hQ
      refine asks_ok ha hh (fun h9 g9 f9 n9 => ⟨rfl, g9.hs, w_puts pI oI g9.hs ⟨rfl, g9.hs, ?_⟩⟩)
      have g2 : HI (hpI (hpI h9 17 15 pI) 17 16 oI) := HI_full (HI_put g9 (by rw [iv_1714.2.2.2.2.1]; omega) (by rw [iv_1714.2.2.2.2.1]; omega)) iv_1714.2.2.2.2.2
      have f2 : frm WTQ h (hpI (hpI h9 17 15 pI) 17 16 oI) := frm_put (frm_put f9 rfl) rfl
      obtain ⟨⟨c1, c2, c3⟩, a2, a3, a4, a5, a6, a7, a8⟩ := n9
      have d2 : DCS q S Y cs m N K (zR N K) false (-1) ((hpI (hpI h9 17 15 pI) 17 16 oI).2.1 17 14).toInt pI.toInt oI.toInt (hpI (hpI h9 17 15 pI) 17 16 oI) := ⟨⟨fun x hx => by
        rw [put_ne (by omega), put_ne (by omega), put_ne (by omega), put_ne (by omega), put_ne (by omega), put_ne (by omega), put_ne (by omega), put_ne (by omega), put_ne (by omega), put_ne (by omega)]
        exact c1 x hx, fun i hi => by rw [put_ne (by omega), put_ne (by omega)]; exact c2 i hi, by rw [put_ne (by omega), put_ne (by omega)]; exact c3⟩, (a2.put ha.1 (by decide)).put ha.1 (by decide), by rw [put_ne (by omega), put_ne (by omega)]; exact a3, ⟨K, fun _ => false, by rw [put_ne (by omega), put_ne (by omega)]; exact a4, by rw [put_ne (by omega), put_ne (by omega), a5]; exact BSET.zero, fun p _ => by rw [Bool.not_false, Bool.and_true], fun p _ => by rw [Bool.not_false, Bool.and_true]; rfl⟩, by rw [put_ne (by omega), put_ne (by omega)]; exact a6, by rw [put_ne (by omega), put_ne (by omega)]; exact a7, rfl, by rw [put_ne (by omega), put_at], fun _ => by rw [put_at]⟩
      have fo : FOK pI.toInt oI.toInt N (zR N K) := Or.inr ⟨e.1, e.2, e2.1, e2.2, e3, by unfold zR; rw [kp, decide_eq_true (by omega)]; rfl, by unfold zR; rw [ko, decide_eq_true (by omega)]; rfl⟩
      refine cau_ok ha.1 mk.1 mk.2.1 yk mk.2.2.1 mk.2.2.2 fo g2 d2 (fun r5 h4 g4 f4 _ b5 => ⟨r5, rfl, g4.hs, ?_⟩)
      rw [zcau_t (t' := 0) (by decide)] at b5
      have f := frm_trans f2 (WCX_T f4)
      refine isin_ok b5 hp (by omega) g4.hs ⟨_, rfl, g4.hs, fun c => ?_, fun c => ?_⟩
      · exact hQ _ h4 g4 f (by rw [if_neg (by rw [cz c]; decide)]; rfl)
      · exact hQ _ h4 g4 f (by rw [if_pos (cn c)]; rfl)
    · rw [if_pos (Or.inr (cn e5))] at hQ
      exact hQ _ h hh frm_refl rfl
  · have e := of_decide_eq_true (cn e)
    have e2 := of_decide_eq_true (cn2 e2)
    have e3 : ¬ ¬ pI.toInt = oI.toInt := of_decide_eq_false (cJ e3)
    exact hQ _ h hh frm_refl (by rw [if_neg (fun z => z.elim (fun z => z e) (fun z => z e2)), if_pos (Decidable.not_not.mp e3)]; rfl)
  · exact hQ _ h hh frm_refl (by rw [if_pos (Or.inr (of_decide_eq_false (cz2 e2)))]; rfl)
end CALLS2
