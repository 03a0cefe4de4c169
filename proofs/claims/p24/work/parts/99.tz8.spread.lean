section JN99tz8spread
/-! spread, set, catches: the class. -/
/-- how many of f stand behind p -/
def zab (f : Nat → Bool) (p : Nat) : Nat := zct f 7 - zct f (p + 1)
/-- those who catch, on the row-th of all rows of lanes -/
def zSp (S : Nat → Nat → Int) (K : Nat → Bool) (row : Nat) : Nat → Nat → Int := fun a x => if a = 2 ∧ x < 7 ∧ K x = true then ((row / 7 ^ zab K x % 7 : Nat) : Int) else S a x
theorem zSp_sp {S : Nat → Nat → Int} {K : Nat → Bool} {r r' : Nat} : zSp (zSp S K r) K r' = zSp S K r' := by
  funext a x
  unfold zSp
  by_cases c : a = 2 ∧ x < 7 ∧ K x = true
  · rw [if_pos c, if_pos c]
  · rw [if_neg c, if_neg c, if_neg c]
theorem zct_7 (f : Nat → Bool) : zct f 7 = pop f := by
  unfold pop
  simp only [zct, Nat.zero_add]
theorem zct_mono (f : Nat → Bool) : ∀ k l, zct f l ≤ zct f (l + k)
  | 0, l => Nat.le_refl _
  | k + 1, l => by
    have i := zct_mono f k l
    show zct f l ≤ zct f (l + k) + (f (l + k)).toNat
    omega
theorem MOK.sp {S : Nat → Nat → Int} {Y : Int} {N : Nat} {K : Nat → Bool} {row : Nat} (mk : MOK S Y N) : MOK (zSp S K row) Y N := by
  refine ⟨fun x hx => ?_, fun i hi => ?_, mk.2.2⟩
  · obtain ⟨s1, s2, s3, s4, s5⟩ := mk.1 x hx
    unfold zSp
    refine ⟨by rw [if_neg (by omega)]; exact s1, by rw [if_neg (by omega)]; exact s2, ?_, by rw [if_neg (by omega)]; exact s4, by rw [if_neg (by omega)]; exact s5⟩
    split
    · have := Nat.mod_lt (row / 7 ^ zab K x) (by decide : 7 > 0)
      omega
    · exact s3
  · unfold zSp
    rw [if_neg (by omega)]
    exact mk.2.1 i hi
section SPREAD
variable {X : Scr} {Q : Option Value → Hp → Prop} {q : Nat} {S : Nat → Nat → Int} {Y : Int} {cs : List Cl} {m : List Int} {N : Nat} {K : Nat → Bool} {h : Hp}
/-- on the way: those from j on stand -/
def zSpJ (S : Nat → Nat → Int) (K : Nat → Bool) (row j : Nat) : Nat → Nat → Int := fun a x => if a = 2 ∧ (j ≤ x ∧ x < 7) ∧ K x = true then ((row / 7 ^ zab K x % 7 : Nat) : Int) else S a x
theorem NCS.cgs {S' : Nat → Nat → Int} (hn : NCS q S Y cs m N K h) (e : S' = S) : NCS q S' Y cs m N K h := by
  subst e
  exact hn
theorem cspo_go {dp : Nat} (hY : YB q) (rI : Int32) (row : Nat) (hr : row < 343) : ∀ (j : Nat) (lI pI : Int32) (h : Hp), j ≤ 7 → pI.toInt = (j : Int) - 1 → lI.toInt = ((row / 7 ^ (zct K 7 - zct K j) : Nat) : Int) → NCS q (zSpJ S K row j) Y cs m N K h → HI h → (∀ h', HI h' → frm WTQ h h' → NCS q (zSpJ S K row 0) Y cs m N K h' → Q none h') → Ends X (dp + 1) 32 5 [.ref 18, .int rI, .int lI, .int pI] [] h Q
  | 0, lI, pI, h, hj, hp, hl, hn, hh, hQ => by
    refine w_cspo1 rI lI pI hh.hs ⟨fun e => hQ h hh frm_refl hn, fun e => ?_⟩
    exfalso
    have e : ¬ pI.toInt < (0 : Int32).toInt := of_decide_eq_false (cJ e)
    rw [z0] at e
    omega
  | p + 1, lI, pI, h, hj, hp, hl, hn, hh, hQ => by
    have hp : pI.toInt = p := by omega
    have p7 : p < 7 := by omega
    have j7 : (7 : Int32).toInt = 7 := rfl
    have pm : (pI + (-1)).toInt = (p : Int) - 1 := by rw [i_add (by rw [im1]; omega) (by rw [im1]; omega), im1]; omega
    have cS : zct K (p + 1) = zct K p + (K p).toNat := rfl
    have mo := zct_mono K (7 - (p + 1)) (p + 1)
    rw [show p + 1 + (7 - (p + 1)) = 7 by omega] at mo
    have dl : row / 7 ^ (zct K 7 - zct K (p + 1)) ≤ row := Nat.div_le_self _ _
    refine w_cspo1 rI lI pI hh.hs ⟨fun e => ?_, fun e => isin_ok hn.2.2.2.1 hp p7 hh.hs ⟨_, rfl, hh.hs, fun c => ?_, fun c => fm_ok lI 7 hh.hs (by decide) (fun r7 h7 => ⟨r7, rfl, hh.hs, inB_iff (by omega) (by omega), ?_⟩)⟩⟩
    · exfalso
      have e : pI.toInt < (0 : Int32).toInt := of_decide_eq_true (cJ e)
      rw [z0] at e
      omega
    · have c := cz c
      rw [c] at cS
      have cS : zct K (p + 1) = zct K p := cS
      rw [cS] at hl
      refine cspo_go hY rI row hr p lI _ h (by omega) pm hl (hn.cgs ?_) hh hQ
      funext a x
      unfold zSpJ
      by_cases d : x = p
      · rw [if_neg (fun z => by rw [d, c] at z; exact absurd z.2.2 Bool.false_ne_true), if_neg (fun z => by rw [d, c] at z; exact absurd z.2.2 Bool.false_ne_true)]
      · by_cases e2 : a = 2 ∧ (p ≤ x ∧ x < 7) ∧ K x = true
        · rw [if_pos e2, if_pos ⟨e2.1, ⟨by omega, e2.2.1.2⟩, e2.2.2⟩]
        · rw [if_neg e2, if_neg (fun z => e2 ⟨z.1, ⟨by omega, z.2.1.2⟩, z.2.2⟩)]
    · have c := cn c
      rw [c] at cS
      have cS : zct K (p + 1) = zct K p + 1 := cS
      rw [j7, hl] at h7
      have r7v : r7.toInt = ((row / 7 ^ zab K p % 7 : Nat) : Int) := by
        rw [h7]
        unfold zab
        omega
      have ml := Nat.mod_lt (row / 7 ^ zab K p) (by decide : 7 > 0)
      rw [show pI.toNatClampNeg = p by show pI.toInt.toNat = _; omega]
      have g2 : HI (hpI h 21 p r7) := HI_put hh (by rw [iv_21 p p7]; omega) (by rw [iv_21 p p7]; omega)
      have n2 := hn.up2 (p := p) (v := r7) hY
      rw [r7v] at n2
      have lv : (lI / 7).toInt = ((row / 7 ^ (zct K 7 - zct K p) : Nat) : Int) := by
        rw [i_dv (by rw [hl]; exact Int.natCast_nonneg _) (by decide), j7, hl, show zct K 7 - zct K p = (zct K 7 - zct K (p + 1)) + 1 by omega, Nat.pow_succ, ← Nat.div_div_eq_div_mul]
        rfl
      refine cspo_go hY rI row hr p _ _ _ (by omega) pm lv (n2.cgs ?_) g2 (fun h' d1 d2 d3 => hQ h' d1 (frm_trans (frm_put frm_refl (by simp [inW, WTQ])) d2) d3)
      funext a x
      unfold upS zSpJ
      try dsimp only
      by_cases d : a = 2 ∧ x = p
      · rw [if_pos d, d.2, if_pos ⟨d.1, ⟨Nat.le_refl _, p7⟩, c⟩]
      · rw [if_neg d]
        by_cases e2 : a = 2 ∧ (p ≤ x ∧ x < 7) ∧ K x = true
        · have : x ≠ p := fun z => d ⟨e2.1, z⟩
          rw [if_pos e2, if_pos ⟨e2.1, ⟨by omega, e2.2.1.2⟩, e2.2.2⟩]
        · rw [if_neg e2, if_neg (fun z => e2 ⟨z.1, ⟨by omega, z.2.1.2⟩, z.2.2⟩)]
theorem cspo_ok {dp : Nat} (hY : YB q) (rI : Int32) (row : Nat) (hrI : rI.toInt = row) (hr : row < 343) (hn : NCS q S Y cs m N K h) (hh : HI h) (hQ : ∀ h', HI h' → frm WTQ h h' → NCS q (zSp S K row) Y cs m N K h' → Q none h') : Ends X (dp + 1) 32 0 [.ref 18, .int rI, .retAddr 0, .retAddr 0] [] h Q := by
  refine w_cspo0 rI hh.hs (cspo_go (S := S) hY rI row hr 7 rI 6 h (by decide) rfl (by rw [Nat.sub_self, hrI, Nat.pow_zero, Nat.div_one]) (hn.cgs ?_) hh (fun h' d1 d2 d3 => hQ h' d1 d2 (d3.cgs ?_)))
  · funext a x
    unfold zSpJ
    rw [if_neg (by omega)]
  · funext a x
    unfold zSpJ zSp
    by_cases e2 : a = 2 ∧ x < 7 ∧ K x = true
    · rw [if_pos e2, if_pos ⟨e2.1, ⟨Nat.zero_le _, e2.2.1⟩, e2.2.2⟩]
    · rw [if_neg e2, if_neg (fun z => e2 ⟨z.1, z.2.1.2, z.2.2⟩)]
theorem p7_le : ∀ b, b ≤ 3 → 7 ^ b ≤ 343 := by decide
theorem clrw_go {dp : Nat} (hs : HS h) (nI : Int32) (b : Nat) (hb : nI.toInt = b) (b3 : b ≤ 3) (hQ : ∀ r : Int32, r.toInt = ((7 ^ b : Nat) : Int) → Q (some (.int r)) h) : ∀ (n i : Nat) (rI iI : Int32), i + n = b → iI.toInt = i → rI.toInt = ((7 ^ i : Nat) : Int) → Ends X dp 106 4 [.int nI, .int rI, .int iI] [] h Q
  | n, i, rI, iI, hn, hi, hr => by
    have j7 : (7 : Int32).toInt = 7 := rfl
    refine w_clrw1 nI rI iI hs ⟨fun e => ?_, fun e => ?_⟩
    · have e : nI.toInt ≤ iI.toInt := of_decide_eq_true (cJ e)
      have : i = b := by omega
      subst this
      exact hQ rI hr
    have e : ¬ nI.toInt ≤ iI.toInt := of_decide_eq_false (cJ e)
    obtain ⟨n, rfl⟩ : ∃ k, n = k + 1 := ⟨n - 1, by omega⟩
    have n1 : (iI + 1).toInt = ((i + 1 : Nat) : Int) := by rw [i_add (by rw [i1]; omega) (by rw [i1]; omega), i1]; omega
    have pl := p7_le i (by omega)
    have pS : 7 ^ (i + 1) = 7 ^ i * 7 := Nat.pow_succ ..
    refine clrw_go hs nI b hb b3 hQ n (i + 1) _ _ (by omega) n1 ?_
    rw [i_mul (by rw [hr, j7]; omega) (by rw [hr, j7]; omega), hr, j7, pS]
    omega
theorem clrw_ok {dp : Nat} (hs : HS h) (nI : Int32) (b : Nat) (hb : nI.toInt = b) (b3 : b ≤ 3) (hQ : ∀ r : Int32, r.toInt = ((7 ^ b : Nat) : Int) → Q (some (.int r)) h) : Ends X dp 106 0 [.int nI, .retAddr 0, .retAddr 0] [] h Q :=
  w_clrw0 nI hs (clrw_go hs nI b hb b3 hQ b 0 1 0 (by omega) rfl rfl)
def zSprC (S : Nat → Nat → Int) (Y : Int) (cs : List Cl) (m : List Int) (N : Nat) (K : Nat → Bool) : Nat → Nat := fun row => pop (zC (zSp S K row) Y cs m N K)
def zSprA (S : Nat → Nat → Int) (Y : Int) (cs : List Cl) (m : List Int) (N : Nat) (K : Nat → Bool) (k : Int) : Int := if k = -1 then (zmx (zSprC S Y cs m N K) (7 ^ pop K)).2 else if k < (pop K : Int) then (((zmx (zSprC S Y cs m N K) (7 ^ pop K)).1 / 7 ^ (pop K - 1 - k.toNat) % 7 : Nat) : Int) else -5
def zSpr (S : Nat → Nat → Int) (Y : Int) (cs : List Cl) (m : List Int) (N : Nat) (K : Nat → Bool) (kI : Int32) : Int := if ¬ (-1 ≤ kI.toInt ∧ kI.toInt ≤ 2) then -1 else if 3 < pop K then -9 else zSprA S Y cs m N K kI.toInt
theorem zmx_lt (cnt : Nat → Nat) : ∀ n, 0 < n → (zmx cnt n).1 < n
  | 0, h => absurd h (Nat.lt_irrefl 0)
  | n + 1, _ => by
    show (if (zmx cnt n).2 < (cnt n : Int) then (n, (cnt n : Int)) else zmx cnt n).1 < n + 1
    split
    · exact Nat.lt_succ_self n
    · by_cases c : 0 < n
      · exact Nat.lt_succ_of_lt (zmx_lt cnt n c)
      · have : n = 0 := by omega
        subst this
        exact Nat.zero_lt_succ 0
theorem cspr_go {dp : Nat} (hY : YB q) (mk : MOK S Y N) (yk : YOK cs m) (kI cI rI : Int32) (p3 : pop K ≤ 3) (hc : cI.toInt = (pop K : Int)) (hr : rI.toInt = ((7 ^ pop K : Nat) : Int)) (hk : -1 ≤ kI.toInt ∧ kI.toInt ≤ 2) : ∀ (n o : Nat) (mI wI oI : Int32) (x : Value) (S' : Nat → Nat → Int) (h : Hp), o + n = 7 ^ pop K → oI.toInt = o → wI.toInt = (zmx (zSprC S Y cs m N K) o).1 → mI.toInt = (zmx (zSprC S Y cs m N K) o).2 → (∀ r, zSp S' K r = zSp S K r) → NCS q S' Y cs m N K h → HI h → (∀ (r : Int32) h1, HI h1 → frm WTQ h h1 → r.toInt = zSprA S Y cs m N K kI.toInt → Q (some (.int r)) h1) → Ends X (dp + 1 + 1 + 1 + 1 + 1) 80 49 [.ref 0, .int kI, .int cI, .int mI, .int wI, .int rI, .int oI, x] [] h Q
  | n, o, mI, wI, oI, x, S', h, hn, ho, hw, hm, hS, hs, hh, hQ => by
    have p343 := p7_le (pop K) p3
    refine w_cspr1 kI cI mI wI rI oI x hh.hs ⟨fun e => ⟨fun e2 => ⟨fun e3 => ?_, fun e3 => ?_⟩, fun e2 => ?_⟩, fun e => ?_⟩
    · have e : rI.toInt ≤ oI.toInt := of_decide_eq_true (cJ e)
      have e2 : ¬ kI.toInt = (-1 : Int32).toInt := of_decide_eq_true (cJ e2)
      have e3 : cI.toInt ≤ kI.toInt := of_decide_eq_true (cJ e3)
      rw [im1] at e2
      exact hQ _ h hh frm_refl (by unfold zSprA; rw [if_neg e2, if_neg (by omega)]; rfl)
    · have e : rI.toInt ≤ oI.toInt := of_decide_eq_true (cJ e)
      have e2 : ¬ kI.toInt = (-1 : Int32).toInt := of_decide_eq_true (cJ e2)
      have e3 : ¬ cI.toInt ≤ kI.toInt := of_decide_eq_false (cJ e3)
      rw [im1] at e2
      have oe : o = 7 ^ pop K := by omega
      have d1 : (cI - 1).toInt = (pop K : Int) - 1 := by rw [i_sub (by rw [i1]; omega) (by rw [i1]; omega), i1, hc]
      have d2 : (cI - 1 - kI).toInt = ((pop K - 1 - kI.toInt.toNat : Nat) : Int) := by rw [i_sub (by omega) (by omega), d1]; omega
      refine clrw_ok hh.hs _ _ d2 (by omega) (fun r5 h5 => ⟨r5, rfl, hh.hs, ?_⟩)
      have pp : 0 < 7 ^ (pop K - 1 - kI.toInt.toNat) := Nat.pow_pos (by decide)
      have j7 : (7 : Int32).toInt = 7 := rfl
      have zl := zmx_lt (zSprC S Y cs m N K) (7 ^ pop K) (Nat.pow_pos (by decide))
      rw [← oe] at zl
      have q1 : (wI / r5).toInt = (((zmx (zSprC S Y cs m N K) o).1 / 7 ^ (pop K - 1 - kI.toInt.toNat) : Nat) : Int) := by rw [i_dv (by omega) (by omega), hw, h5]; rfl
      have dl : (zmx (zSprC S Y cs m N K) o).1 / 7 ^ (pop K - 1 - kI.toInt.toNat) ≤ (zmx (zSprC S Y cs m N K) o).1 := Nat.div_le_self _ _
      have gn := Int.natCast_nonneg ((zmx (zSprC S Y cs m N K) o).1 / 7 ^ (pop K - 1 - kI.toInt.toNat))
      have q2 : (wI / r5 / 7).toInt = (((zmx (zSprC S Y cs m N K) o).1 / 7 ^ (pop K - 1 - kI.toInt.toNat) / 7 : Nat) : Int) := by rw [i_dv (by rw [q1]; exact Int.natCast_nonneg _) (by decide), q1, j7]; rfl
      have q3 : (wI / r5 / 7 * 7).toInt = (((zmx (zSprC S Y cs m N K) o).1 / 7 ^ (pop K - 1 - kI.toInt.toNat) / 7 * 7 : Nat) : Int) := by rw [i_mul (by rw [q2, j7]; omega) (by rw [q2, j7]; omega), q2, j7]; omega
      refine ⟨fun z => by rw [z, z0] at h5; omega, hQ _ h hh frm_refl ?_⟩
      unfold zSprA
      rw [if_neg e2, if_pos (by omega), ← oe, i_sub (by omega) (by omega), q1, q3]
      omega
    · have e : rI.toInt ≤ oI.toInt := of_decide_eq_true (cJ e)
      have e2 : ¬ ¬ kI.toInt = (-1 : Int32).toInt := of_decide_eq_false (cJ e2)
      rw [im1] at e2
      have oe : o = 7 ^ pop K := by omega
      exact hQ mI h hh frm_refl (by unfold zSprA; rw [if_pos (Decidable.not_not.mp e2), ← oe]; exact hm)
    have e : ¬ rI.toInt ≤ oI.toInt := of_decide_eq_false (cJ e)
    obtain ⟨n, rfl⟩ : ∃ k, n = k + 1 := ⟨n - 1, by omega⟩
    have n1 : (oI + 1).toInt = ((o + 1 : Nat) : Int) := by rw [i_add (by rw [i1]; omega) (by rw [i1]; omega), i1]; omega
    refine cspo_ok hY oI o ho (by omega) hs hh (fun h8 g8 f8 n8 => ⟨rfl, g8.hs, ?_⟩)
    rw [hS] at n8
    refine ncau_ok hY mk.sp yk g8 n8 (fun r12 h11 g11 f11 n11 _ b12 => ⟨r12, rfl, g11.hs, bct_ok b12 g11.hs (fun r15 h15 => ⟨r15, rfl, g11.hs, ?_⟩)⟩)
    have h15 : r15.toInt = (zSprC S Y cs m N K o : Int) := h15
    have f := frm_trans f8 (WCX_T f11)
    refine ⟨fun c => ?_, fun c => ?_⟩
    · have c : r15.toInt ≤ mI.toInt := of_decide_eq_true (cJ c)
      have st : zmx (zSprC S Y cs m N K) (o + 1) = zmx (zSprC S Y cs m N K) o := if_neg (by omega)
      exact cspr_go hY mk yk kI cI rI p3 hc hr hk n (o + 1) _ _ _ _ _ h11 (by omega) n1 (by rw [st]; exact hw) (by rw [st]; exact hm) (fun r => zSp_sp) n11 g11 (fun r h1 d1 d2 d3 => hQ r h1 d1 (frm_trans f d2) d3)
    · have c : ¬ r15.toInt ≤ mI.toInt := of_decide_eq_false (cJ c)
      have st : zmx (zSprC S Y cs m N K) (o + 1) = (o, (zSprC S Y cs m N K o : Int)) := if_pos (by omega)
      exact cspr_go hY mk yk kI cI rI p3 hc hr hk n (o + 1) _ _ _ _ _ h11 (by omega) n1 (by rw [st]; exact ho) (by rw [st]; exact h15) (fun r => zSp_sp) n11 g11 (fun r h1 d1 d2 d3 => hQ r h1 d1 (frm_trans f d2) d3)
theorem cspr_ok {dp : Nat} (ha : AST q S Y cs m N K h) (mk : MOK S Y N) (yk : YOK cs m) (hh : HI h) (kI : Int32) (hQ : ∀ (r : Int32) h1, HI h1 → frm WTQ h h1 → r.toInt = zSpr S Y cs m N K kI → Q (some (.int r)) h1) : Ends X (dp + 1 + 1 + 1 + 1 + 1) 80 0 [.ref 0, .int kI, .retAddr 0, .retAddr 0, .retAddr 0, .retAddr 0, .retAddr 0, .retAddr 0] [] h Q := by
  have j3 : (3 : Int32).toInt = 3 := rfl
  unfold zSpr at hQ
  refine w_cspr0 kI hh.hs ⟨fun e => ?_, fun e => ⟨fun e2 => ?_, fun e2 => ?_⟩⟩
  · have e : kI.toInt < (-1 : Int32).toInt := of_decide_eq_true (cJ e)
    rw [im1] at e
    exact hQ _ h hh frm_refl (by rw [if_pos (by omega)]; rfl)
  · have e : ¬ kI.toInt < (-1 : Int32).toInt := of_decide_eq_false (cJ e)
    have e2 : kI.toInt < (3 : Int32).toInt := of_decide_eq_true (cJ e2)
    rw [im1] at e
    rw [if_neg (by omega)] at hQ
    refine bct_ok ha.2.2.2.2.2.1 hh.hs (fun r4 h4 => ⟨r4, rfl, hh.hs, fun e3 => ?_, fun e3 => ?_⟩)
    · have e3 : r4.toInt ≤ (3 : Int32).toInt := of_decide_eq_true (cJ e3)
      rw [if_neg (by omega)] at hQ
      exact clrw_ok hh.hs r4 (pop K) h4 (by omega) (fun r8 h8 => ⟨r8, rfl, hh.hs, asks_ok ha hh (fun h10 g10 f10 n10 => ⟨rfl, g10.hs, cspr_go ha.1 mk yk kI r4 r8 (by omega) h4 h8 (by omega) (7 ^ pop K) 0 (-1) 0 0 _ S h10 (by omega) rfl rfl rfl (fun _ => rfl) n10 g10 (fun r h1 d1 d2 d3 => hQ r h1 d1 (frm_trans f10 d2) d3)⟩)⟩)
    · have e3 : ¬ r4.toInt ≤ (3 : Int32).toInt := of_decide_eq_false (cJ e3)
      rw [if_pos (by omega)] at hQ
      exact hQ _ h hh frm_refl rfl
  · have e2 : ¬ kI.toInt < (3 : Int32).toInt := of_decide_eq_false (cJ e2)
    exact hQ _ h hh frm_refl (by rw [if_pos (by omega)]; rfl)
/-- set -/
def setBad (wI nI : Int32) : Prop := (wI.toInt = 0 ∧ ¬ (0 ≤ nI.toInt ∧ nI.toInt ≤ 6)) ∨ (wI.toInt = 1 ∧ ¬ (0 ≤ nI.toInt ∧ nI.toInt ≤ 9))
theorem inR_d {x : Int32} {a b : Int} : inR x a b = decide (a ≤ x.toInt ∧ x.toInt ≤ b) := by
  unfold inR
  rw [← Bool.decide_and]
theorem cset_ok {dp : Nat} (hN : (h.2.1 1 0).toInt = N) (hN7 : N ≤ 7) (hh : HI h) (pI wI nI : Int32) (q1 : ¬ (isP N pI ∧ is01 wI) → Q (some (.int (-1))) h) (q2 : isP N pI → is01 wI → setBad wI nI → Q (some (.int (-2))) h) (q3 : isP N pI → wI.toInt = 0 → (0 ≤ nI.toInt ∧ nI.toInt ≤ 6) → Q (some (.int (h.2.1 4 pI.toInt.toNat))) (hpI h 4 pI.toInt.toNat nI)) (q4 : isP N pI → wI.toInt = 1 → (0 ≤ nI.toInt ∧ nI.toInt ≤ 9) → Q (some (.int (h.2.1 6 pI.toInt.toNat))) (hpI h 6 pI.toInt.toNat nI)) : Ends X (dp + 1) 65 0 [.ref 0, .int pI, .int wI, .int nI, .retAddr 0] [] h Q := by
  refine w_cset pI wI nI hh.hs (chas_ok pI hh ?_)
  rw [hN, ← Bool.decide_and]
  refine ⟨_, rfl, hh.hs, fun e => ?_, fun e => ⟨fun e2 => ?_, fun e2 => ⟨fun e3 => ⟨fun e4 => isDigit_ok nI hh.hs ⟨_, rfl, hh.hs, fun e5 => ?_, fun e5 => ?_⟩, fun e4 => isLane_ok nI hh.hs ⟨_, rfl, hh.hs, fun e5 => ?_, fun e5 => ?_⟩⟩, fun e3 => ?_⟩⟩⟩
  · have e := of_decide_eq_false (cz e)
    exact q1 (fun z => e z.1)
  · have e2 : wI.toInt < (0 : Int32).toInt := of_decide_eq_true (cJ e2)
    rw [z0] at e2
    exact q1 (fun z => by have := z.2.1; omega)
  all_goals
    have e : isP N pI := of_decide_eq_true (cn e)
    have e2 : ¬ wI.toInt < (0 : Int32).toInt := of_decide_eq_false (cJ e2)
    rw [z0] at e2
  · have e3 : wI.toInt ≤ (1 : Int32).toInt := of_decide_eq_true (cJ e3)
    have e4 : ¬ wI.toInt = (0 : Int32).toInt := of_decide_eq_true (cJ e4)
    rw [i1] at e3
    rw [z0] at e4
    have e5 := cn2 e5
    rw [inR_d] at e5
    have e5 := of_decide_eq_true e5
    have ip : inB pI 7 = true := inB_iff (by omega) (by omega)
    have w1 : wI.toInt = 1 := by omega
    have ne : ¬ condB .ne wI 0 = false := fun z => by
      have z : ¬ ¬ wI.toInt = (0 : Int32).toInt := of_decide_eq_false (cJ z)
      rw [z0] at z
      omega
    exact ⟨fun _ => ⟨ip, fun _ => ⟨ip, q4 e w1 e5⟩, fun z => absurd z ne⟩, fun z => absurd z ne⟩
  · have e3 : wI.toInt ≤ (1 : Int32).toInt := of_decide_eq_true (cJ e3)
    have e4 : ¬ wI.toInt = (0 : Int32).toInt := of_decide_eq_true (cJ e4)
    rw [i1] at e3
    rw [z0] at e4
    have e5 := cz2 e5
    rw [inR_d] at e5
    exact q2 e ⟨by omega, e3⟩ (Or.inr ⟨by omega, of_decide_eq_false e5⟩)
  · have e4 : ¬ ¬ wI.toInt = (0 : Int32).toInt := of_decide_eq_false (cJ e4)
    rw [z0] at e4
    have e5 := cn2 e5
    rw [inR_d] at e5
    have e5 := of_decide_eq_true e5
    have ip : inB pI 7 = true := inB_iff (by omega) (by omega)
    have ne : ¬ condB .ne wI 0 = true := fun z => by
      have z : ¬ wI.toInt = (0 : Int32).toInt := of_decide_eq_true (cJ z)
      rw [z0] at z
      omega
    exact ⟨fun z => absurd z ne, fun _ => ⟨ip, fun z => absurd z ne, fun _ => ⟨ip, q3 e (Decidable.not_not.mp e4) e5⟩⟩⟩
  · have e4 : ¬ ¬ wI.toInt = (0 : Int32).toInt := of_decide_eq_false (cJ e4)
    rw [z0] at e4
    have e5 := cz2 e5
    rw [inR_d] at e5
    exact q2 e ⟨by omega, by omega⟩ (Or.inl ⟨Decidable.not_not.mp e4, of_decide_eq_false e5⟩)
  · have e3 : ¬ wI.toInt ≤ (1 : Int32).toInt := of_decide_eq_false (cJ e3)
    rw [i1] at e3
    exact q1 (fun z => by have := z.2.2; omega)
/-- catches -/
theorem ccat_ok {dp : Nat} (hN : (h.2.1 1 0).toInt = N) (hN7 : N ≤ 7) (hK : BSET (h.2.1 1 7) K) (hh : HI h) (pI dI : Int32) (q1 : ¬ isP N pI → Q (some (.int (-1))) h) (q2 : isP N pI → dI.toInt = 0 → Q (some (.int (b2i (K pI.toInt.toNat)))) (hpI h 1 7 (h.2.1 1 7 &&& ((1 <<< (pI &&& 31)) ^^^ (-1))))) (q3 : isP N pI → ¬ dI.toInt = 0 → Q (some (.int (b2i (K pI.toInt.toNat)))) (hpI h 1 7 (h.2.1 1 7 ||| (1 <<< (pI &&& 31))))) : Ends X (dp + 1 + 1) 66 0 [.ref 0, .int pI, .int dI, .retAddr 0] [] h Q := by
  refine w_ccat pI dI hh.hs (chas_ok pI hh ?_)
  rw [hN, ← Bool.decide_and]
  refine ⟨_, rfl, hh.hs, fun e => ?_, fun e => ?_⟩
  · have e : isP N pI := of_decide_eq_true (cn2 e)
    refine w_dct pI hh.hs (isin_ok hK (pn := pI.toInt.toNat) (by omega) (by omega) hh.hs ⟨_, rfl, hh.hs, b2i_01 _, ⟨_, rfl, hh.hs, fun e2 => ⟨fun e3 => ?_, fun e3 => ?_⟩, fun e2 => ⟨fun e3 => ?_, fun e3 => ?_⟩⟩⟩)
    · have e3 : dI.toInt = (0 : Int32).toInt := of_decide_eq_true (cJ e3)
      have := q2 e e3
      rw [cz e2] at this
      exact this
    · have e3 : ¬ dI.toInt = (0 : Int32).toInt := of_decide_eq_false (cJ e3)
      have := q3 e e3
      rw [cz e2] at this
      exact this
    · have e3 : dI.toInt = (0 : Int32).toInt := of_decide_eq_true (cJ e3)
      have := q2 e e3
      rw [cn e2] at this
      exact this
    · have e3 : ¬ dI.toInt = (0 : Int32).toInt := of_decide_eq_false (cJ e3)
      have := q3 e e3
      rw [cn e2] at this
      exact this
  · exact q1 (of_decide_eq_false (cz2 e))
end SPREAD
end JN99tz8spread
section JN99tz9mspread
/-! spread, set, catches: the reference. -/
def WSPR : List (Nat × Nat) := WMX ++ [(96, 999), (111, 999), (112, 999), (113, 999)]
/-- the row now, as digits -/
def DIG (h : Hp) (a n row : Nat) : Prop := ∀ j, j < 3 → (h.2.1 a j).toInt = if j < n then ((row / 7 ^ (n - 1 - j) % 7 : Nat) : Int) else 0
theorem iv_111 : ∀ k, k < 3 → ivl 111 k = (0, 7) ∧ ivl 112 k = (0, 6) := by decide +kernel
theorem iv_113 : ∀ k, k < 7 → ivl 113 k = (0, 6) := by decide +kernel
section MSPREAD
variable {X : Scr} {Q : Option Value → Hp → Prop} {S : Nat → Nat → Int} {Y : Int} {cs : List Cl} {m : List Int} {N : Nat} {K : Nat → Bool} {h : Hp}
theorem NMS.cgs {S' : Nat → Nat → Int} (hn : NMS S Y cs m N K h) (e : S' = S) : NMS S' Y cs m N K h := by
  subst e
  exact hn
theorem MG.pR {a p : Nat} {v : Int32} {h : Hp} {S : Nat → Nat → Int} {Y : Int} (hg : MG h S Y) (ha : 100 ≤ a) : MG (hpI h a p v) S Y := by
  obtain ⟨g1, g2, g3⟩ := hg
  refine ⟨fun x hx => ?_, fun i hi => by rw [put_ne (by omega)]; exact g2 i hi, by rw [put_ne (by omega)]; exact g3⟩
  rw [put_ne (by omega), put_ne (by omega), put_ne (by omega), put_ne (by omega), put_ne (by omega)]
  exact g1 x hx
theorem NMS.pR {a p : Nat} {v : Int32} (hn : NMS S Y cs m N K h) (ha : 111 ≤ a ∧ a ≤ 113) : NMS S Y cs m N K (hpI h a p v) := by
  obtain ⟨a1, a2, a3, a4, a5, a6, a7, a8, a9, a10⟩ := hn
  refine ⟨a1.pR (by omega), ?_, ?_, by rw [put_ne (by omega)]; exact a4, by rw [put_ne (by omega)]; exact a5, a6, by rw [put_ne (by omega)]; exact a7, by rw [put_ne (by omega)]; exact a8, by rw [put_ne (by omega)]; exact a9, by rw [put_ne (by omega)]; exact a10⟩
  · refine ⟨a2.1, ?_⟩
    rw [put_ne (by omega)]
    rcases a2.2 with c | ⟨g, g1, g2, y1, y2, y3⟩
    · exact Or.inl c
    · refine Or.inr ⟨g, g1, g2, by rw [put_ne (by omega)]; exact y1, fun c hc => ?_, fun j hj => by rw [put_ne (by omega)]; exact y3 j hj⟩
      rw [put_ne (by omega), put_ne (by omega), put_ne (by omega), put_ne (by omega)]
      exact y2 c hc
  · exact TX_fr (fun a k hs => put_ne (by
      simp only [inW, SUP1, List.any_cons, List.any_nil, Bool.or_false, Bool.or_eq_true, Bool.and_eq_true, beq_iff_eq] at hs
      omega)) a3
/-- the others stand -/
theorem sa_go {dp : Nat} (mk : MOK S Y N) (row n : Nat) (hK : pop K = n) (n3 : n ≤ 3) : ∀ (k c : Nat) (kI cI : Int32) (h : Hp), c + k = N → cI.toInt = c → kI.toInt = zct K c → DIG h 111 n row → NMS (fun a x => if a = 2 ∧ x < c ∧ K x = true then ((row / 7 ^ zab K x % 7 : Nat) : Int) else S a x) Y cs m N K h → HI h → (∀ h', HI h' → frm WSPR h h' → (∀ a k, (a ≠ 96 ∨ 7 ≤ k) → h'.2.1 a k = h.2.1 a k) → NMS (fun a x => if a = 2 ∧ x < N ∧ K x = true then ((row / 7 ^ zab K x % 7 : Nat) : Int) else S a x) Y cs m N K h' → Q none h') → Ends X (dp + 1 + 1) 171 4 [.ref 93, .int kI, .int cI] [] h Q
  | k, c, kI, cI, h, hk, hc, hv, hd, hs, hh, hQ => by
    have N7 := mk.2.2.2
    refine w_sa1 kI cI hh.hs ⟨fun e => ?_, fun e => ?_⟩
    · have e : (h.2.1 93 0).toInt ≤ cI.toInt := of_decide_eq_true (cJ e)
      have a4 := hs.2.2.2.1
      have : c = N := by omega
      subst this
      exact hQ h hh frm_refl (fun _ _ _ => rfl) hs
    have e : ¬ (h.2.1 93 0).toInt ≤ cI.toInt := of_decide_eq_false (cJ e)
    have a4 := hs.2.2.2.1
    obtain ⟨k, rfl⟩ : ∃ j, k = j + 1 := ⟨k - 1, by omega⟩
    have n1 : (cI + 1).toInt = ((c + 1 : Nat) : Int) := by rw [i_add (by rw [i1]; omega) (by rw [i1]; omega), i1]; omega
    have cS : zct K (c + 1) = zct K c + (K c).toNat := rfl
    have mo := zct_mono K (7 - (c + 1)) (c + 1)
    rw [show c + 1 + (7 - (c + 1)) = 7 by omega, zct_7, hK] at mo
    refine mrn_ok hs hh cI c hc (by omega) (by omega) ⟨_, rfl, hh.hs, fun d => ?_, fun d => ?_⟩
    · have d := cz d
      rw [Bool.not_eq_false'] at d
      rw [d] at cS
      have cS : zct K (c + 1) = zct K c + 1 := cS
      have kn : kI.toNatClampNeg = zct K c := by show kI.toInt.toNat = _; omega
      have k1 : (kI + 1).toInt = ((zct K (c + 1) : Nat) : Int) := by rw [i_add (by rw [i1]; omega) (by rw [i1]; omega), i1]; omega
      have dv := hd (zct K c) (by omega)
      rw [if_pos (by omega)] at dv
      have zb : zab K c = n - 1 - zct K c := by unfold zab; rw [zct_7, hK]; omega
      have ml := Nat.mod_lt (row / 7 ^ zab K c) (by decide : 7 > 0)
      rw [← zb] at dv
      refine ⟨inB_iff (by omega) (by omega), inB_iff (by omega) (by omega), ?_⟩
      rw [kn, show cI.toNatClampNeg = c by show cI.toInt.toNat = _; omega]
      generalize h.2.1 111 (zct K c) = v at dv ⊢
      have g2 : HI (hpI h 96 c v) := HI_put hh (by rw [iv_96 c (by omega)]; omega) (by rw [iv_96 c (by omega)]; omega)
      have n2 := hs.up2 (p := c) (v := v)
      rw [dv] at n2
      refine sa_go mk row n hK n3 k (c + 1) _ _ _ (by omega) n1 k1 (fun j hj => by rw [put_ne (by omega)]; exact hd j hj) (n2.cgs ?_) g2 (fun h' d1 d2 d3 d4 => hQ h' d1 (frm_trans (frm_put frm_refl (by simp [inW, WSPR, WMX])) d2) (fun a j ha => by rw [d3 a j ha, put_ne (by omega)]) d4)
      funext a x
      unfold upS
      try dsimp only
      by_cases q : a = 2 ∧ x = c
      · rw [if_pos q, q.2, if_pos ⟨q.1, by omega, d⟩]
      · rw [if_neg q]
        by_cases q2 : a = 2 ∧ x < c ∧ K x = true
        · rw [if_pos q2, if_pos ⟨q2.1, by omega, q2.2.2⟩]
        · rw [if_neg q2, if_neg (fun z => q2 ⟨z.1, by
            have : x ≠ c := fun w => q ⟨z.1, w⟩
            omega, z.2.2⟩)]
    · have d := cn d
      rw [Bool.not_eq_true'] at d
      rw [d] at cS
      have cS : zct K (c + 1) = zct K c := cS
      refine sa_go mk row n hK n3 k (c + 1) _ _ h (by omega) n1 (by rw [cS]; exact hv) hd (hs.cgs ?_) hh hQ
      funext a x
      by_cases q2 : a = 2 ∧ x < c ∧ K x = true
      · rw [if_pos q2, if_pos ⟨q2.1, by omega, q2.2.2⟩]
      · rw [if_neg q2, if_neg (fun z => q2 ⟨z.1, by
          have : x ≠ c := fun w => by rw [w, d] at z; exact absurd z.2.2 Bool.false_ne_true
          omega, z.2.2⟩)]
theorem sa_ok {dp : Nat} (mk : MOK S Y N) (row n : Nat) (hK : pop K = n) (n3 : n ≤ 3) (hs : NMS S Y cs m N K h) (hh : HI h) (hd : DIG h 111 n row) (hQ : ∀ h', HI h' → frm WSPR h h' → (∀ a k, (a ≠ 96 ∨ 7 ≤ k) → h'.2.1 a k = h.2.1 a k) → NMS (zSp S K row) Y cs m N K h' → Q none h') : Ends X (dp + 1 + 1) 171 0 [.ref 93, .retAddr 0, .retAddr 0] [] h Q := by
  refine w_sa0 hh.hs (sa_go mk row n hK n3 N 0 0 0 h (by omega) rfl rfl hd (hs.cgs ?_) hh (fun h' d1 d2 d3 d4 => hQ h' d1 d2 d3 (d4.cgs ?_)))
  · funext a x
    rw [if_neg (by omega)]
  · funext a x
    unfold zSp
    have N7 := mk.2.2.2
    by_cases q2 : a = 2 ∧ x < 7 ∧ K x = true
    · rw [if_pos q2, if_pos ⟨q2.1, hs.2.2.2.2.2.1 x q2.2.1 q2.2.2, q2.2.2⟩]
    · rw [if_neg q2, if_neg (fun z => q2 ⟨z.1, by omega, z.2.2⟩)]
/-- the next row: its places behind j are full -/
def MDF (row k : Nat) : Prop := row % 7 ^ k = 7 ^ k - 1
def nrT (n j row i : Nat) : Nat := if i < j then row / 7 ^ (n - 1 - i) % 7 else if i = j then row / 7 ^ (n - 1 - j) % 7 + 1 else 0
def nrE (n row i : Nat) : Nat := if i < n then row / 7 ^ (n - 1 - i) % 7 else 0
def nrB (n j row : Nat) : Bool := !(decide (row < 7 ^ n)) || (!(row % 7 ^ (n - 1 - j) == 7 ^ (n - 1 - j) - 1) || (if row / 7 ^ (n - 1 - j) % 7 = 6 then row % 7 ^ (n - j) == 7 ^ (n - j) - 1 else decide (row + 1 < 7 ^ n) && (nrE n (row + 1) 0 == nrT n j row 0 && (nrE n (row + 1) 1 == nrT n j row 1 && nrE n (row + 1) 2 == nrT n j row 2))))
theorem nr_al : ((List.range 4).all fun n => (List.range n).all fun j => (List.range 343).all fun row => nrB n j row) = true := by decide +kernel
theorem nr_ar (n : Nat) (n3 : n ≤ 3) (j : Nat) (hj : j < n) (row : Nat) (r3 : row < 343) (hr : row < 7 ^ n) (hm : MDF row (n - 1 - j)) : (row / 7 ^ (n - 1 - j) % 7 = 6 → MDF row (n - j)) ∧ (row / 7 ^ (n - 1 - j) % 7 < 6 → row + 1 < 7 ^ n ∧ ∀ i, i < 3 → nrE n (row + 1) i = nrT n j row i) := by
  have a : nrB n j row = true := List.all_eq_true.mp (List.all_eq_true.mp (List.all_eq_true.mp nr_al n (List.mem_range.mpr (Nat.lt_succ_of_le n3))) j (List.mem_range.mpr hj)) row (List.mem_range.mpr r3)
  have e : (row % 7 ^ (n - 1 - j) == 7 ^ (n - 1 - j) - 1) = true := beq_iff_eq.mpr hm
  unfold nrB at a
  rw [decide_eq_true hr, e, Bool.not_true, Bool.false_or, Bool.false_or] at a
  by_cases c : row / 7 ^ (n - 1 - j) % 7 = 6
  · rw [if_pos c] at a
    exact ⟨fun _ => beq_iff_eq.mp a, fun z => absurd z (by rw [c]; exact Nat.lt_irrefl 6)⟩
  · rw [if_neg c] at a
    simp only [Bool.and_eq_true, decide_eq_true_eq, beq_iff_eq] at a
    obtain ⟨a1, a2, a3, a4⟩ := a
    refine ⟨fun z => absurd z c, fun _ => ⟨a1, fun i hi => ?_⟩⟩
    match i, hi with
    | 0, _ => exact a2
    | 1, _ => exact a3
    | 2, _ => exact a4
theorem nr_go {dp : Nat} (nI : Int32) (n row : Nat) (n3 : n ≤ 3) (hr : row < 7 ^ n) : ∀ (j : Nat) (kI : Int32) (h : Hp), j ≤ n → kI.toInt = (j : Int) - 1 → MDF row (n - j) → (∀ i, i < 3 → (h.2.1 111 i).toInt = if i < j then ((row / 7 ^ (n - 1 - i) % 7 : Nat) : Int) else 0) → HI h → (row + 1 = 7 ^ n → ∀ h', HI h' → (∀ a k, a ≠ 111 → h'.2.1 a k = h.2.1 a k) → frm WSPR h h' → Q (some (.int 0)) h') → (row + 1 < 7 ^ n → ∀ h', HI h' → (∀ a k, a ≠ 111 → h'.2.1 a k = h.2.1 a k) → frm WSPR h h' → DIG h' 111 n (row + 1) → Q (some (.int 1)) h') → Ends X dp 172 4 [.ref 93, .int nI, .int kI] [] h Q
  | 0, kI, h, hj, hk, hm, hd, hh, q0, q1 => by
    refine w_nr1 nI kI hh.hs ⟨fun e => q0 ?_ h hh (fun _ _ _ => rfl) frm_refl, fun e => ?_⟩
    · unfold MDF at hm
      rw [Nat.sub_zero, Nat.mod_eq_of_lt hr] at hm
      omega
    · exfalso
      have e : ¬ kI.toInt < (0 : Int32).toInt := of_decide_eq_false (cJ e)
      rw [z0] at e
      omega
  | j + 1, kI, h, hj, hk, hm, hd, hh, q0, q1 => by
    have hk : kI.toInt = j := by omega
    have j7 : (7 : Int32).toInt = 7 := rfl
    have ik : inB kI 3 = true := inB_iff (by omega) (by omega)
    have kn : kI.toNatClampNeg = j := by show kI.toInt.toNat = _; omega
    have km : (kI + (-1)).toInt = (j : Int) - 1 := by rw [i_add (by rw [im1]; omega) (by rw [im1]; omega), im1]; omega
    have dj := hd j (by omega)
    rw [if_pos (Nat.lt_succ_self j)] at dj
    have r343 : row < 343 := by have := p7_le n n3; omega
    have ar := nr_ar n n3 j (by omega) row r343 hr (by rw [show n - 1 - j = n - (j + 1) by omega]; exact hm)
    have ml := Nat.mod_lt (row / 7 ^ (n - 1 - j)) (by decide : 7 > 0)
    have v1 : (h.2.1 111 j + 1).toInt = ((row / 7 ^ (n - 1 - j) % 7 + 1 : Nat) : Int) := by rw [i_add (by rw [i1]; omega) (by rw [i1]; omega), i1, dj]; omega
    have iv := (iv_111 j (by omega)).1
    refine w_nr1 nI kI hh.hs ⟨fun e => ?_, fun e => ⟨ik, ik, ik, ?_⟩⟩
    · exfalso
      have e : kI.toInt < (0 : Int32).toInt := of_decide_eq_true (cJ e)
      rw [z0] at e
      omega
    rw [kn, put_at]
    generalize h.2.1 111 j + 1 = v at v1 ⊢
    have g1 : HI (hpI h 111 j v) := HI_put hh (by rw [iv]; omega) (by rw [iv]; omega)
    have f1 : frm WSPR h (hpI h 111 j v) := frm_put frm_refl (by simp [inW, WSPR, WMX])
    refine ⟨fun c => ⟨ik, ?_⟩, fun c => ?_⟩
    · have c : (7 : Int32).toInt ≤ v.toInt := of_decide_eq_true (cJ c)
      have g2 : HI (hpI (hpI h 111 j v) 111 j 0) := HI_put g1 (by rw [iv]; decide) (by rw [iv]; decide)
      refine nr_go nI n row n3 hr j _ _ (by omega) km (ar.1 (by omega)) (fun i hi => ?_) g2 (fun a h' b1 b2 b3 => q0 a h' b1 (fun x k hx => by rw [b2 x k hx, put_ne (by omega), put_ne (by omega)]) (frm_trans (frm_put f1 (by simp [inW, WSPR, WMX])) b3)) (fun a h' b1 b2 b3 b4 => q1 a h' b1 (fun x k hx => by rw [b2 x k hx, put_ne (by omega), put_ne (by omega)]) (frm_trans (frm_put f1 (by simp [inW, WSPR, WMX])) b3) b4)
      rw [put_if]
      by_cases d : i = j
      · rw [if_pos d, if_neg (by omega)]
        rfl
      · rw [if_neg d, put_ne (by omega), hd i hi]
        by_cases d2 : i < j
        · rw [if_pos (by omega), if_pos d2]
        · rw [if_neg (by omega), if_neg d2]
    · have c : ¬ (7 : Int32).toInt ≤ v.toInt := of_decide_eq_false (cJ c)
      have a2 := ar.2 (by omega)
      refine q1 a2.1 _ g1 (fun x k hx => put_ne (by omega)) f1 (fun i hi => ?_)
      have a3 := a2.2 i hi
      unfold nrE nrT at a3
      rw [put_if]
      by_cases d : i = j
      · rw [if_pos d, v1]
        rw [d, if_neg (Nat.lt_irrefl j), if_pos rfl, if_pos (by omega)] at a3
        rw [d, if_pos (by omega), a3]
      · rw [if_neg d, hd i hi]
        rw [if_neg d] at a3
        by_cases d2 : i < j
        · rw [if_pos (by omega)]
          rw [if_pos d2, if_pos (by omega)] at a3
          rw [if_pos (by omega), a3]
        · rw [if_neg (by omega)]
          rw [if_neg d2] at a3
          by_cases d3 : i < n
          · rw [if_pos d3] at a3
            rw [if_pos d3, a3] <;> rfl
          · rw [if_neg d3]
theorem nr_ok {dp : Nat} (nI : Int32) (n row : Nat) (hn : nI.toInt = n) (n3 : n ≤ 3) (hr : row < 7 ^ n) (hd : DIG h 111 n row) (hh : HI h) (q0 : row + 1 = 7 ^ n → ∀ h', HI h' → (∀ a k, a ≠ 111 → h'.2.1 a k = h.2.1 a k) → frm WSPR h h' → Q (some (.int 0)) h') (q1 : row + 1 < 7 ^ n → ∀ h', HI h' → (∀ a k, a ≠ 111 → h'.2.1 a k = h.2.1 a k) → frm WSPR h h' → DIG h' 111 n (row + 1) → Q (some (.int 1)) h') : Ends X dp 172 0 [.ref 93, .int nI, .retAddr 0] [] h Q :=
  w_nr0 nI hh.hs (nr_go nI n row n3 hr n (nI - 1) h (Nat.le_refl _) (by rw [i_sub (by rw [i1]; omega) (by rw [i1]; omega), i1, hn]) (by show row % 7 ^ (n - n) = 7 ^ (n - n) - 1; rw [Nat.sub_self]; exact Nat.mod_one row) hd hh q0 q1)
/-- the old lanes, kept -/
def OLN (h0 h : Hp) : Prop := ∀ p, p < 7 → h.2.1 113 p = h0.2.1 96 p
theorem NMS.fS {h' : Hp} (hn : NMS S Y cs m N K h) (he : ∀ a k, 93 ≤ a → ¬ (111 ≤ a ∧ a ≤ 113) → h'.2.1 a k = h.2.1 a k) : NMS S Y cs m N K h' := by
  obtain ⟨⟨g1, g2, g3⟩, a2, a3, a4, a5, a6, a7, a8, a9, a10⟩ := hn
  have e := fun a k (z : 93 ≤ a ∧ a < 111) => he a k z.1 (by omega)
  refine ⟨⟨fun x hx => ?_, fun i hi => by rw [e _ _ (by omega)]; exact g2 i hi, by rw [e _ _ (by omega)]; exact g3⟩, ⟨a2.1, ?_⟩, TX_fr (fun a k hs => e a k (by
    simp only [inW, SUP1, List.any_cons, List.any_nil, Bool.or_false, Bool.or_eq_true, Bool.and_eq_true, beq_iff_eq] at hs
    omega)) a3, by rw [e _ _ (by omega)]; exact a4, by rw [e _ _ (by omega)]; exact a5, a6, by rw [e _ _ (by omega)]; exact a7, by rw [e _ _ (by omega)]; exact a8, by rw [e _ _ (by omega)]; exact a9, by rw [e _ _ (by omega)]; exact a10⟩
  · rw [e _ _ (by omega), e _ _ (by omega), e _ _ (by omega), e _ _ (by omega), e _ _ (by omega)]
    exact g1 x hx
  · rw [e _ _ (by omega)]
    rcases a2.2 with c | ⟨g, y0, y6, y1, y2, y3⟩
    · exact Or.inl c
    · refine Or.inr ⟨g, y0, y6, by rw [e _ _ (by omega)]; exact y1, fun c hc => ?_, fun j hj => by rw [e _ _ (by omega)]; exact y3 j hj⟩
      rw [e _ _ (by omega), e _ _ (by omega), e _ _ (by omega), e _ _ (by omega)]
      exact y2 c hc
/-- the end: the lanes put back, the answer -/
theorem sp150_go {dp : Nat} (h0 : Hp) (hh0 : HI h0) (kI nI : Int32) (n : Nat) (hn : nI.toInt = n) (n3 : n ≤ 3) (hk : -1 ≤ kI.toInt ∧ kI.toInt ≤ 2) (mI gI : Int32) (bv : Value) (A : Int) (bst : Nat) : ∀ (c p : Nat) (pI : Int32) (h : Hp), p + c = 7 → pI.toInt = p → HI h → frm WSPR h0 h → OLN h0 h → (∀ x, x < p → h.2.1 96 x = h0.2.1 96 x) → (∀ x, 7 ≤ x → h.2.1 96 x = h0.2.1 96 x) → DIG h 112 n bst → (kI.toInt = -1 → mI.toInt = A) → (¬ kI.toInt = -1 → kI.toInt < (n : Int) → A = ((bst / 7 ^ (n - 1 - kI.toInt.toNat) % 7 : Nat) : Int)) → (¬ kI.toInt = -1 → ¬ kI.toInt < (n : Int) → A = -5) → (∀ (r : Int32) h', HI h' → RST h0 h' → r.toInt = A → Q (some (.int r)) h') → Ends X dp 173 150 [.ref 93, .int kI, .int nI, .int mI, .int gI, .int pI, bv] [] h Q
  | c, p, pI, h, hc, hp, hh, hf, ho, hl, hl7, hd, a1, a2, a3, hQ => by
    have j7 : (7 : Int32).toInt = 7 := rfl
    refine w_sp150 kI nI mI gI pI bv hh.hs ⟨fun e => ?_, fun e => ⟨inB_iff ?_ ?_, inB_iff ?_ ?_, ?_⟩⟩
    · have e : (7 : Int32).toInt ≤ pI.toInt := of_decide_eq_true (cJ e)
      have : p = 7 := by omega
      subst this
      have rs : RST h0 h := RST.of (W := WSPR) (by decide) hf (fun a k k1 k2 => by
        have k1 := SUPR_in k1
        have k2 := WX_in k2
        simp only [inW, List.any_cons, List.any_nil, Bool.or_false, Bool.or_eq_true, Bool.and_eq_true, beq_iff_eq] at k2
        have : a = 96 ∨ (a = 93 ∧ k = 999) := by omega
        rcases this with rfl | ⟨rfl, rfl⟩
        · by_cases x7 : k < 7
          · exact hl k x7
          · exact hl7 k (by omega)
        · exact frI hf rfl)
      refine ⟨fun e2 => ⟨fun e3 => ?_, fun e3 => ⟨inB_iff ?_ ?_, ?_⟩⟩, fun e2 => ?_⟩
      · have e2 : (0 : Int32).toInt ≤ kI.toInt := of_decide_eq_true (cJ e2)
        have e3 : nI.toInt ≤ kI.toInt := of_decide_eq_true (cJ e3)
        rw [z0] at e2
        exact hQ _ h hh rs (by rw [a3 (by omega) (by omega)]; rfl)
      · have e2 : (0 : Int32).toInt ≤ kI.toInt := of_decide_eq_true (cJ e2)
        rw [z0] at e2
        exact e2
      · have e3 : ¬ nI.toInt ≤ kI.toInt := of_decide_eq_false (cJ e3)
        show kI.toInt < ((3 : Nat) : Int)
        omega
      · have e2 : (0 : Int32).toInt ≤ kI.toInt := of_decide_eq_true (cJ e2)
        have e3 : ¬ nI.toInt ≤ kI.toInt := of_decide_eq_false (cJ e3)
        rw [z0] at e2
        refine hQ _ h hh rs ?_
        rw [show kI.toNatClampNeg = kI.toInt.toNat from rfl, hd kI.toInt.toNat (by omega), if_pos (by omega), a2 (by omega) (by omega)]
      · have e2 : ¬ (0 : Int32).toInt ≤ kI.toInt := of_decide_eq_false (cJ e2)
        rw [z0] at e2
        exact hQ mI h hh rs (a1 (by omega))
    all_goals have e : ¬ (7 : Int32).toInt ≤ pI.toInt := of_decide_eq_false (cJ e)
    · omega
    · show pI.toInt < ((7 : Nat) : Int)
      omega
    · omega
    · show pI.toInt < ((7 : Nat) : Int)
      omega
    · obtain ⟨c, rfl⟩ : ∃ j, c = j + 1 := ⟨c - 1, by omega⟩
      have n1 : (pI + 1).toInt = ((p + 1 : Nat) : Int) := by rw [i_add (by rw [i1]; omega) (by rw [i1]; omega), i1]; omega
      have lv := hh0.iv 96 p (iv_96 p (by omega))
      rw [show pI.toNatClampNeg = p by show pI.toInt.toNat = _; omega, ho p (by omega)]
      refine sp150_go h0 hh0 kI nI n hn n3 hk mI gI bv A bst c (p + 1) _ _ (by omega) n1 (HI_put hh (by rw [iv_96 p (by omega)]; exact lv.1) (by rw [iv_96 p (by omega)]; exact lv.2)) (frm_put hf (by simp [inW, WSPR, WMX])) (fun x hx => by rw [put_ne (by omega)]; exact ho x hx) (fun x hx => ?_) (fun x hx => by rw [put_ne (by omega)]; exact hl7 x hx) (fun j hj => by rw [put_ne (by omega)]; exact hd j hj) a1 a2 a3 hQ
      rw [put_if]
      by_cases d : x = p
      · rw [if_pos d, d]
      · rw [if_neg d]
        exact hl x (by omega)
/-- behind a better row: it is kept, and the next one -/
theorem sp111_go {dp : Nat} (kI nI mI gI iI : Int32) (n row : Nat) (hn : nI.toInt = n) (n3 : n ≤ 3) (hr : row < 7 ^ n) : ∀ (c j : Nat) (jI : Int32) (h : Hp), j + c = 3 → jI.toInt = j → HI h → DIG h 111 n row → (∀ x, x < j → h.2.1 112 x = h.2.1 111 x) → (row + 1 = 7 ^ n → ∀ (v : Value) h', HI h' → (∀ a k, a ≠ 111 → a ≠ 112 → h'.2.1 a k = h.2.1 a k) → frm WSPR h h' → DIG h' 112 n row → Ends X (dp + 1) 173 80 [.ref 93, .int kI, .int nI, .int mI, .int 0, .int iI, v] [] h' Q) → (row + 1 < 7 ^ n → ∀ (v : Value) h', HI h' → (∀ a k, a ≠ 111 → a ≠ 112 → h'.2.1 a k = h.2.1 a k) → frm WSPR h h' → DIG h' 112 n row → DIG h' 111 n (row + 1) → Ends X (dp + 1) 173 80 [.ref 93, .int kI, .int nI, .int mI, .int 1, .int iI, v] [] h' Q) → Ends X (dp + 1) 173 111 [.ref 93, .int kI, .int nI, .int mI, .int gI, .int iI, .int jI] [] h Q
  | c, j, jI, h, hc, hj, hh, hd, hb, q0, q1 => by
    have j3 : (3 : Int32).toInt = 3 := rfl
    refine w_sp111 kI nI mI gI iI jI hh.hs ⟨fun e => ?_, fun e => ?_⟩
    · have e : (3 : Int32).toInt ≤ jI.toInt := of_decide_eq_true (cJ e)
      have : j = 3 := by omega
      subst this
      have d2 : DIG h 112 n row := fun x hx => by rw [hb x hx]; exact hd x hx
      refine nr_ok nI n row hn n3 hr hd hh (fun z h' b1 b2 b3 => ⟨_, rfl, b1.hs, q0 z _ h' b1 (fun a k x1 x2 => b2 a k x1) b3 (fun x hx => by rw [b2 112 x (by decide)]; exact d2 x hx)⟩) (fun z h' b1 b2 b3 b4 => ⟨_, rfl, b1.hs, q1 z _ h' b1 (fun a k x1 x2 => b2 a k x1) b3 (fun x hx => by rw [b2 112 x (by decide)]; exact d2 x hx) b4⟩)
    have e : ¬ (3 : Int32).toInt ≤ jI.toInt := of_decide_eq_false (cJ e)
    obtain ⟨c, rfl⟩ : ∃ k, c = k + 1 := ⟨c - 1, by omega⟩
    have n1 : (jI + 1).toInt = ((j + 1 : Nat) : Int) := by rw [i_add (by rw [i1]; omega) (by rw [i1]; omega), i1]; omega
    have ij : inB jI 3 = true := inB_iff (by omega) (by omega)
    refine ⟨ij, ij, ?_⟩
    rw [show jI.toNatClampNeg = j by show jI.toInt.toNat = _; omega]
    have dj := hd j (by omega)
    have b6 : 0 ≤ (h.2.1 111 j).toInt ∧ (h.2.1 111 j).toInt ≤ 6 := by
      rw [dj]
      split
      · have := Nat.mod_lt (row / 7 ^ (n - 1 - j)) (by decide : 7 > 0)
        omega
      · decide
    have g2 : HI (hpI h 112 j (h.2.1 111 j)) := HI_put hh (by rw [(iv_111 j (by omega)).2]; exact b6.1) (by rw [(iv_111 j (by omega)).2]; exact b6.2)
    have f2 : frm WSPR h (hpI h 112 j (h.2.1 111 j)) := frm_put frm_refl (by simp [inW, WSPR, WMX])
    refine sp111_go kI nI mI gI iI n row hn n3 hr c (j + 1) _ _ (by omega) n1 g2 (fun x hx => by rw [put_ne (by omega)]; exact hd x hx) (fun x hx => ?_) (fun z v h' b1 b2 b3 b4 => q0 z v h' b1 (fun a k x1 x2 => by rw [b2 a k x1 x2, put_ne (by omega)]) (frm_trans f2 b3) b4) (fun z v h' b1 b2 b3 b4 b5 => q1 z v h' b1 (fun a k x1 x2 => by rw [b2 a k x1 x2, put_ne (by omega)]) (frm_trans f2 b3) b4 b5)
    rw [put_if, put_ne (by omega)]
    by_cases d : x = j
    · rw [if_pos d, d]
    · rw [if_neg d]
      exact hb x (by omega)
/-- all rows, one by one -/
theorem sp80_go {dp : Nat} (mk : MOK S Y N) (h0 : Hp) (hh0 : HI h0) (kI nI : Int32) (n : Nat) (hK : pop K = n) (hn : nI.toInt = n) (n3 : n ≤ 3) (hk : -1 ≤ kI.toInt ∧ kI.toInt ≤ 2) : ∀ (c row : Nat) (mI gI : Int32) (av bv : Value) (S' : Nat → Nat → Int) (h : Hp), row + c = 7 ^ n → (0 < c → gI.toInt = 1 ∧ DIG h 111 n row) → (c = 0 → gI.toInt = 0) → mI.toInt = (zmx (zSprC S Y cs m N K) row).2 → (0 < row → DIG h 112 n (zmx (zSprC S Y cs m N K) row).1) → (∀ r, zSp S' K r = zSp S K r) → NMS S' Y cs m N K h → MOK S' Y N → HI h → frm WSPR h0 h → OLN h0 h → (∀ x, 7 ≤ x → h.2.1 96 x = h0.2.1 96 x) → (∀ (r : Int32) h', HI h' → RST h0 h' → r.toInt = zSprA S Y cs m N K kI.toInt → Q (some (.int r)) h') → Ends X (dp + 1 + 1 + 1 + 1 + 1 + 1 + 1 + 1 + 1 + 1) 173 80 [.ref 93, .int kI, .int nI, .int mI, .int gI, av, bv] [] h Q
  | c, row, mI, gI, av, bv, S', h, hc, hg1, hg0, hm, hb, hS, hs, mk', hh, hf, ho, h7, hQ => by
    have pp : 0 < 7 ^ n := Nat.pow_pos (by decide)
    have p343 := p7_le n n3
    refine w_sp80 kI nI mI gI av bv hh.hs ⟨fun e => ?_, fun e => ?_⟩
    · have e : gI.toInt = (0 : Int32).toInt := of_decide_eq_true (cJ e)
      rw [z0] at e
      have c0 : c = 0 := by
        rcases Nat.eq_zero_or_pos c with z | z
        · exact z
        · have := (hg1 z).1
          omega
      have re : row = 7 ^ n := by omega
      refine sp150_go h0 hh0 kI nI n hn n3 hk mI gI bv (zSprA S Y cs m N K kI.toInt) (zmx (zSprC S Y cs m N K) row).1 7 0 0 h (by decide) rfl hh hf ho (fun x hx => absurd hx (Nat.not_lt_zero x)) h7 (hb (by omega)) (fun z => ?_) (fun z1 z2 => ?_) (fun z1 z2 => ?_) hQ
      · unfold zSprA
        rw [if_pos z, hK, ← re]
        exact hm
      · unfold zSprA
        rw [if_neg z1, hK, if_pos z2, re]
      · unfold zSprA
        rw [if_neg z1, hK, if_neg z2]
    · have e : ¬ gI.toInt = (0 : Int32).toInt := of_decide_eq_false (cJ e)
      rw [z0] at e
      have cp : 0 < c := by
        rcases Nat.eq_zero_or_pos c with z | z
        · exact absurd (hg0 z) e
        · exact z
      have hd := (hg1 cp).2
      obtain ⟨c, rfl⟩ : ∃ k, c = k + 1 := ⟨c - 1, by omega⟩
      have rl : row < 7 ^ n := by omega
      refine sa_ok mk' row n hK n3 hs hh hd (fun h2 g2 f2 e2 n2 => ⟨rfl, g2.hs, ?_⟩)
      rw [hS] at n2
      refine nmcn_ok mk.sp n2 g2 (fun r6 h5 g5 f5 n5 b6 => ⟨r6, rfl, g5.hs, onesb_ok g5.hs b6 (fun r9 h9 => ⟨r9, rfl, g5.hs, ?_⟩)⟩)
      have h9 : r9.toInt = (zSprC S Y cs m N K row : Int) := h9
      have f05 : frm WSPR h0 h5 := frm_trans (frm_trans hf f2) (WX_sub f5)
      have e5 : ∀ a k, 111 ≤ a → h5.2.1 a k = h.2.1 a k := fun a k ha => by
        rw [frI f5 (a := a) (k := k) (by
          cases z : inW WMX a k with
          | false => rfl
          | true =>
            exfalso
            simp only [inW, WMX, List.any_cons, List.any_nil, Bool.or_false, Bool.or_eq_true, Bool.and_eq_true, beq_iff_eq] at z
            omega)]
        exact e2 a k (Or.inl (by omega))
      have d5 : DIG h5 111 n row := fun x hx => by rw [e5 111 x (by decide)]; exact hd x hx
      have h75 : ∀ x, 7 ≤ x → h5.2.1 96 x = h0.2.1 96 x := fun x hx => by
        rw [frI f5 (a := 96) rfl, e2 96 x (Or.inr hx)]
        exact h7 x hx
      have o5 : OLN h0 h5 := fun x hx => by rw [e5 113 x (by decide)]; exact ho x hx
      refine ⟨fun d => ?_, fun d => ?_⟩
      · have d : r9.toInt ≤ mI.toInt := of_decide_eq_true (cJ d)
        have st : zmx (zSprC S Y cs m N K) (row + 1) = zmx (zSprC S Y cs m N K) row := if_neg (by omega)
        have r0 : 0 < row := by
          rcases Nat.eq_zero_or_pos row with z | z
          · exfalso
            rw [z] at hm
            have hm : mI.toInt = -1 := hm
            omega
          · exact z
        refine nr_ok nI n row hn n3 rl d5 g5 (fun z h' b1 b2 b3 => ⟨_, rfl, b1.hs, ?_⟩) (fun z h' b1 b2 b3 b4 => ⟨_, rfl, b1.hs, ?_⟩)
        · exact sp80_go mk h0 hh0 kI nI n hK hn n3 hk c (row + 1) mI 0 _ bv _ h' (by omega) (fun y => by omega) (fun _ => rfl) (by rw [st]; exact hm) (fun _ x hx => by rw [st, b2 112 x (by decide), e5 112 x (by decide)]; exact hb r0 x hx) (fun r => zSp_sp) (n5.fS (fun a k _ ha => b2 a k (by omega))) mk.sp b1 (frm_trans f05 b3) (fun x hx => by rw [b2 113 x (by decide)]; exact o5 x hx) (fun x hx => by rw [b2 96 x (by decide)]; exact h75 x hx) hQ
        · exact sp80_go mk h0 hh0 kI nI n hK hn n3 hk c (row + 1) mI 1 _ bv _ h' (by omega) (fun _ => ⟨rfl, b4⟩) (fun y => by omega) (by rw [st]; exact hm) (fun _ x hx => by rw [st, b2 112 x (by decide), e5 112 x (by decide)]; exact hb r0 x hx) (fun r => zSp_sp) (n5.fS (fun a k _ ha => b2 a k (by omega))) mk.sp b1 (frm_trans f05 b3) (fun x hx => by rw [b2 113 x (by decide)]; exact o5 x hx) (fun x hx => by rw [b2 96 x (by decide)]; exact h75 x hx) hQ
      · have d : ¬ r9.toInt ≤ mI.toInt := of_decide_eq_false (cJ d)
        have st : zmx (zSprC S Y cs m N K) (row + 1) = (row, (zSprC S Y cs m N K row : Int)) := if_pos (by omega)
        refine sp111_go kI nI r9 gI r9 n row hn n3 rl 3 0 0 h5 (by decide) rfl g5 d5 (fun x hx => absurd hx (Nat.not_lt_zero x)) (fun z v h' b1 b2 b3 b4 => ?_) (fun z v h' b1 b2 b3 b4 b5 => ?_)
        · exact sp80_go mk h0 hh0 kI nI n hK hn n3 hk c (row + 1) r9 0 _ v _ h' (by omega) (fun y => by omega) (fun _ => rfl) (by rw [st]; exact h9) (fun _ x hx => by rw [st]; exact b4 x hx) (fun r => zSp_sp) (n5.fS (fun a k _ ha => b2 a k (by omega) (by omega))) mk.sp b1 (frm_trans f05 b3) (fun x hx => by rw [b2 113 x (by decide) (by decide)]; exact o5 x hx) (fun x hx => by rw [b2 96 x (by decide) (by decide)]; exact h75 x hx) hQ
        · exact sp80_go mk h0 hh0 kI nI n hK hn n3 hk c (row + 1) r9 1 _ v _ h' (by omega) (fun _ => ⟨rfl, b5⟩) (fun y => by omega) (by rw [st]; exact h9) (fun _ x hx => by rw [st]; exact b4 x hx) (fun r => zSp_sp) (n5.fS (fun a k _ ha => b2 a k (by omega) (by omega))) mk.sp b1 (frm_trans f05 b3) (fun x hx => by rw [b2 113 x (by decide) (by decide)]; exact o5 x hx) (fun x hx => by rw [b2 96 x (by decide) (by decide)]; exact h75 x hx) hQ
theorem sp57_go {dp : Nat} (kI nI : Int32) (n : Nat) : ∀ (c p : Nat) (pI : Int32) (h : Hp), p + c = 3 → pI.toInt = p → HI h → (∀ x, x < p → h.2.1 111 x = 0) → (∀ h', HI h' → frm WSPR h h' → (∀ a k, a ≠ 111 → h'.2.1 a k = h.2.1 a k) → DIG h' 111 n 0 → Ends X dp 173 80 [.ref 93, .int kI, .int nI, .int (-1), .int 1, .retAddr 0, .retAddr 0] [] h' Q) → Ends X dp 173 57 [.ref 93, .int kI, .int nI, .int pI, .retAddr 0, .retAddr 0, .retAddr 0] [] h Q
  | c, p, pI, h, hc, hp, hh, hz, hQ => by
    have j3 : (3 : Int32).toInt = 3 := rfl
    refine w_sp57 kI nI pI hh.hs ⟨fun e => ?_, fun e => ?_⟩
    · have e : (3 : Int32).toInt ≤ pI.toInt := of_decide_eq_true (cJ e)
      have : p = 3 := by omega
      subst this
      refine hQ h hh frm_refl (fun _ _ _ => rfl) (fun x hx => ?_)
      rw [hz x hx, Nat.zero_div, Nat.zero_mod]
      split <;> rfl
    have e : ¬ (3 : Int32).toInt ≤ pI.toInt := of_decide_eq_false (cJ e)
    obtain ⟨c, rfl⟩ : ∃ j, c = j + 1 := ⟨c - 1, by omega⟩
    have n1 : (pI + 1).toInt = ((p + 1 : Nat) : Int) := by rw [i_add (by rw [i1]; omega) (by rw [i1]; omega), i1]; omega
    refine ⟨inB_iff (by omega) (by omega), ?_⟩
    rw [show pI.toNatClampNeg = p by show pI.toInt.toNat = _; omega]
    refine sp57_go kI nI n c (p + 1) _ _ (by omega) n1 (HI_put hh (by rw [(iv_111 p (by omega)).1]; decide) (by rw [(iv_111 p (by omega)).1]; decide)) (fun x hx => ?_) (fun h' b1 b2 b3 b4 => hQ h' b1 (frm_trans (frm_put frm_refl (by simp [inW, WSPR, WMX])) b2) (fun a k ha => by rw [b3 a k ha, put_ne (by omega)]) b4)
    rw [put_if]
    by_cases d : x = p
    · rw [if_pos d]
    · rw [if_neg d]
      exact hz x (by omega)
theorem sp31_go {dp : Nat} (h0 : Hp) (kI nI : Int32) : ∀ (c p : Nat) (pI : Int32) (h : Hp), p + c = 7 → pI.toInt = p → HI h → (∀ x, x < p → h.2.1 113 x = h0.2.1 96 x) → (∀ x, h.2.1 96 x = h0.2.1 96 x) → (∀ h', HI h' → frm WSPR h h' → (∀ a k, a ≠ 113 → h'.2.1 a k = h.2.1 a k) → OLN h0 h' → Ends X dp 173 57 [.ref 93, .int kI, .int nI, .int 0, .retAddr 0, .retAddr 0, .retAddr 0] [] h' Q) → Ends X dp 173 31 [.ref 93, .int kI, .int nI, .int pI, .retAddr 0, .retAddr 0, .retAddr 0] [] h Q
  | c, p, pI, h, hc, hp, hh, hz, h96, hQ => by
    have j7 : (7 : Int32).toInt = 7 := rfl
    refine w_sp31 kI nI pI hh.hs ⟨fun e => ?_, fun e => ?_⟩
    · have e : (7 : Int32).toInt ≤ pI.toInt := of_decide_eq_true (cJ e)
      have : p = 7 := by omega
      subst this
      exact hQ h hh frm_refl (fun _ _ _ => rfl) hz
    have e : ¬ (7 : Int32).toInt ≤ pI.toInt := of_decide_eq_false (cJ e)
    obtain ⟨c, rfl⟩ : ∃ j, c = j + 1 := ⟨c - 1, by omega⟩
    have n1 : (pI + 1).toInt = ((p + 1 : Nat) : Int) := by rw [i_add (by rw [i1]; omega) (by rw [i1]; omega), i1]; omega
    have ip : inB pI 7 = true := inB_iff (by omega) (by omega)
    have lv := hh.iv 96 p (iv_96 p (by omega))
    refine ⟨ip, ip, ?_⟩
    rw [show pI.toNatClampNeg = p by show pI.toInt.toNat = _; omega]
    refine sp31_go h0 kI nI c (p + 1) _ _ (by omega) n1 (HI_put hh (by rw [iv_113 p (by omega)]; exact lv.1) (by rw [iv_113 p (by omega)]; exact lv.2)) (fun x hx => ?_) (fun x => by rw [put_ne (by omega)]; exact h96 x) (fun h' b1 b2 b3 b4 => hQ h' b1 (frm_trans (frm_put frm_refl (by simp [inW, WSPR, WMX])) b2) (fun a k ha => by rw [b3 a k ha, put_ne (by omega)]) b4)
    rw [put_if]
    by_cases d : x = p
    · rw [if_pos d, d, h96 p]
    · rw [if_neg d]
      exact hz x (by omega)
theorem in12_ok {dp : Nat} (hs : HS h) (kI : Int32) (hQ : Q (some (.int (b2i (decide (-1 ≤ kI.toInt ∧ kI.toInt ≤ 2))))) h) : Ends X dp 109 0 [.ref 93, .int kI, .int (-1), .int 2] [] h Q := by
  refine in_ok kI (-1) 2 hs ?_
  rw [← Bool.decide_and]
  exact hQ
theorem mspr_ok {dp : Nat} (hn : NMS S Y cs m N K h) (mk : MOK S Y N) (hh : HI h) (kI : Int32) (hQ : ∀ (r : Int32) h', HI h' → RST h h' → r.toInt = zSpr S Y cs m N K kI → Q (some (.int r)) h') : Ends X (dp + 1 + 1 + 1 + 1 + 1 + 1 + 1 + 1 + 1 + 1) 173 0 [.ref 93, .int kI, .retAddr 0, .retAddr 0, .retAddr 0, .retAddr 0, .retAddr 0] [] h Q := by
  have j3 : (3 : Int32).toInt = 3 := rfl
  unfold zSpr at hQ
  refine w_sp0 kI hh.hs (in12_ok hh.hs kI ⟨_, rfl, hh.hs, fun e => ?_, fun e => ?_⟩)
  · have e := of_decide_eq_true (cn2 e)
    rw [if_neg (fun z => z e)] at hQ
    refine onesb_ok hh.hs hn.2.2.2.2.1 (fun r6 h6 => ⟨r6, rfl, hh.hs, fun e3 => ?_, fun e3 => ?_⟩)
    · have e3 : r6.toInt ≤ (3 : Int32).toInt := of_decide_eq_true (cJ e3)
      rw [if_neg (by omega)] at hQ
      refine sp31_go h kI r6 7 0 0 h (by decide) rfl hh (fun x hx => absurd hx (Nat.not_lt_zero x)) (fun _ => rfl) (fun h1 g1 f1 e1 o1 => ?_)
      refine sp57_go kI r6 (pop K) 3 0 0 h1 (by decide) rfl g1 (fun x hx => absurd hx (Nat.not_lt_zero x)) (fun h2 g2 f2 e2 d2 => ?_)
      exact sp80_go mk h hh kI r6 (pop K) rfl h6 (by omega) e (7 ^ pop K) 0 (-1) 1 _ _ S h2 (by omega) (fun _ => ⟨rfl, d2⟩) (fun z => absurd z (Nat.pos_iff_ne_zero.mp (Nat.pow_pos (by decide)))) rfl (fun z => absurd z (Nat.lt_irrefl 0)) (fun _ => rfl) (hn.fS (fun a k _ ha => by rw [e2 a k (by omega), e1 a k (by omega)])) mk g2 (frm_trans f1 f2) (fun x hx => by rw [e2 113 x (by decide)]; exact o1 x hx) (fun x hx => by rw [e2 96 x (by decide), e1 96 x (by decide)]) hQ
    · have e3 : ¬ r6.toInt ≤ (3 : Int32).toInt := of_decide_eq_false (cJ e3)
      rw [if_pos (by omega)] at hQ
      exact hQ _ h hh RST.rf rfl
  · exact hQ _ h hh RST.rf (by rw [if_pos (of_decide_eq_false (cz2 e))]; rfl)
/-- set -/
theorem mset_ok {dp : Nat} (hN : (h.2.1 93 0).toInt = N) (hN7 : N ≤ 7) (hh : HI h) (pI wI nI : Int32) (q1 : ¬ (isP N pI ∧ is01 wI) → Q (some (.int (-1))) h) (q2 : isP N pI → is01 wI → setBad wI nI → Q (some (.int (-2))) h) (q3 : isP N pI → wI.toInt = 0 → (0 ≤ nI.toInt ∧ nI.toInt ≤ 6) → Q (some (.int (h.2.1 96 pI.toInt.toNat))) (hpI h 96 pI.toInt.toNat nI)) (q4 : isP N pI → wI.toInt = 1 → (0 ≤ nI.toInt ∧ nI.toInt ≤ 9) → Q (some (.int (h.2.1 98 pI.toInt.toNat))) (hpI h 98 pI.toInt.toNat nI)) : Ends X (dp + 1 + 1) 115 0 [.ref 93, .int pI, .int wI, .int nI, .retAddr 0] [] h Q := by
  refine w_mset pI wI nI hh.hs (person_ok pI hh ?_)
  rw [hN, ← Bool.decide_and]
  refine ⟨_, rfl, hh.hs, fun e => ?_, fun e => in01_ok hh.hs wI ⟨_, rfl, hh.hs, fun e2 => ⟨fun e4 => in_ok nI 0 9 hh.hs ⟨_, rfl, hh.hs, fun e5 => ?_, fun e5 => ?_⟩, fun e4 => in_ok nI 0 6 hh.hs ⟨_, rfl, hh.hs, fun e5 => ?_, fun e5 => ?_⟩⟩, fun e2 => ?_⟩⟩
  · have e := of_decide_eq_false (cz e)
    exact q1 (fun z => e z.1)
  all_goals
    have e : isP N pI := of_decide_eq_true (cn e)
  · have e2 : is01 wI := of_decide_eq_true (cn2 e2)
    have e4 : ¬ wI.toInt = (0 : Int32).toInt := of_decide_eq_true (cJ e4)
    rw [z0] at e4
    have e5 : 0 ≤ nI.toInt ∧ nI.toInt ≤ 9 := band (cn2 e5)
    have ip : inB pI 7 = true := inB_iff (by omega) (by omega)
    have w1 : wI.toInt = 1 := by omega
    have ne : ¬ condB .ne wI 0 = false := fun z => by
      have z : ¬ ¬ wI.toInt = (0 : Int32).toInt := of_decide_eq_false (cJ z)
      rw [z0] at z
      omega
    exact ⟨fun _ => ⟨ip, fun _ => ⟨ip, q4 e w1 e5⟩, fun z => absurd z ne⟩, fun z => absurd z ne⟩
  · have e2 : is01 wI := of_decide_eq_true (cn2 e2)
    have e4 : ¬ wI.toInt = (0 : Int32).toInt := of_decide_eq_true (cJ e4)
    rw [z0] at e4
    have e5 : ¬ (0 ≤ nI.toInt ∧ nI.toInt ≤ 9) := bnand (cz2 e5)
    exact q2 e e2 (Or.inr ⟨by omega, e5⟩)
  · have e2 : is01 wI := of_decide_eq_true (cn2 e2)
    have e4 : ¬ ¬ wI.toInt = (0 : Int32).toInt := of_decide_eq_false (cJ e4)
    rw [z0] at e4
    have e5 : 0 ≤ nI.toInt ∧ nI.toInt ≤ 6 := band (cn2 e5)
    have ip : inB pI 7 = true := inB_iff (by omega) (by omega)
    have ne : ¬ condB .ne wI 0 = true := fun z => by
      have z : ¬ wI.toInt = (0 : Int32).toInt := of_decide_eq_true (cJ z)
      rw [z0] at z
      omega
    exact ⟨fun z => absurd z ne, fun _ => ⟨ip, fun z => absurd z ne, fun _ => ⟨ip, q3 e (Decidable.not_not.mp e4) e5⟩⟩⟩
  · have e2 : is01 wI := of_decide_eq_true (cn2 e2)
    have e4 : ¬ ¬ wI.toInt = (0 : Int32).toInt := of_decide_eq_false (cJ e4)
    rw [z0] at e4
    have e5 : ¬ (0 ≤ nI.toInt ∧ nI.toInt ≤ 6) := bnand (cz2 e5)
    exact q2 e e2 (Or.inl ⟨Decidable.not_not.mp e4, e5⟩)
  · have e2 : ¬ is01 wI := of_decide_eq_false (cz2 e2)
    exact q1 (fun z => e2 z.2)
/-- catches -/
theorem mcat_ok {dp : Nat} (hN : (h.2.1 93 0).toInt = N) (hN7 : N ≤ 7) (hK : BSET (h.2.1 93 2) K) (hh : HI h) (pI dI : Int32) (q1 : ¬ isP N pI → Q (some (.int (-1))) h) (q2 : isP N pI → dI.toInt = 0 → Q (some (.int (b2i (K pI.toInt.toNat)))) (hpI h 93 2 (h.2.1 93 2 &&& ((1 <<< (pI &&& 31)) ^^^ (-1))))) (q3 : isP N pI → ¬ dI.toInt = 0 → Q (some (.int (b2i (K pI.toInt.toNat)))) (hpI h 93 2 (h.2.1 93 2 ||| (1 <<< (pI &&& 31))))) : Ends X (dp + 1 + 1) 116 0 [.ref 93, .int pI, .int dI, .retAddr 0] [] h Q := by
  refine w_mcat pI dI hh.hs (person_ok pI hh ?_)
  rw [hN, ← Bool.decide_and]
  refine ⟨_, rfl, hh.hs, fun e => ?_, fun e => ?_⟩
  · have e : isP N pI := of_decide_eq_true (cn2 e)
    rw [hK.bitv (pn := pI.toInt.toNat) (by omega) (by omega)]
    refine ⟨fun e3 => ?_, fun e3 => ?_⟩
    · have e3 : dI.toInt = (0 : Int32).toInt := of_decide_eq_true (cJ e3)
      exact q2 e e3
    · have e3 : ¬ dI.toInt = (0 : Int32).toInt := of_decide_eq_false (cJ e3)
      exact q3 e e3
  · exact q1 (of_decide_eq_false (cz2 e))
end MSPREAD
end JN99tz9mspread
