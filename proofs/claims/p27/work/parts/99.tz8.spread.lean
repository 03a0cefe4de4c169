/-! spread, set, catches: the class. -/
/-- how many of f stand behind p -/
def zab (f : Nat → Bool) (p : Nat) : Nat := zct f 7 - zct f (p + 1)
/-- those who catch, on the row-th of all rows of lanes -/
def zSp (S : Nat → Nat → Int) (K : Nat → Bool) (row : Nat) : Nat → Nat → Int := fun a x => if a = 2 ∧ x < 7 ∧ K x = true then ((row / 7 ^ zab K x % 7 : Nat) : Int) else S a x
theorem zSp_sp {S : Nat → Nat → Int} {K : Nat → Bool} {r r' : Nat} : zSp (zSp S K r) K r' = zSp S K r' := by
  funext a x
  unfold zSp
  by_cases c : a = 2 ∧ x < 7 ∧ K x = true
  · rw [if_pos c, if_pos c]
  · rw [if_neg c, if_neg c, if_neg c]
theorem zct_7 (f : Nat → Bool) : zct f 7 = pop f := by
  unfold pop
  simp only [zct, Nat.zero_add]
theorem zct_mono (f : Nat → Bool) : ∀ k l, zct f l ≤ zct f (l + k)
  | 0, l => Nat.le_refl _
  | k + 1, l => by
    have i := zct_mono f k l
    show zct f l ≤ zct f (l + k) + (f (l + k)).toNat
    omega
theorem MOK.sp {S : Nat → Nat → Int} {Y : Int} {N : Nat} {K : Nat → Bool} {row : Nat} (mk : MOK S Y N) : MOK (zSp S K row) Y N := by
  refine ⟨fun x hx => ?_, fun i hi => ?_, mk.2.2⟩
  · obtain ⟨s1, s2, s3, s4, s5⟩ := mk.1 x hx
    unfold zSp
    refine ⟨by rw [if_neg (by omega)]; exact s1, by rw [if_neg (by omega)]; exact s2, ?_, by rw [if_neg (by omega)]; exact s4, by rw [if_neg (by omega)]; exact s5⟩
    split
    · have := Nat.mod_lt (row / 7 ^ zab K x) (by decide : 7 > 0)
      omega
    · exact s3
  · unfold zSp
    rw [if_neg (by omega)]
    exact mk.2.1 i hi
section SPREAD
variable {X : Scr} {Q : Option Value → Hp → Prop} {q : Nat} {S : Nat → Nat → Int} {Y : Int} {cs : List Cl} {m : List Int} {N : Nat} {K : Nat → Bool} {h : Hp}
/-- on the way: those from j on stand -/
def zSpJ (S : Nat → Nat → Int) (K : Nat → Bool) (row j : Nat) : Nat → Nat → Int := fun a x => if a = 2 ∧ (j ≤ x ∧ x < 7) ∧ K x = true then ((row / 7 ^ zab K x % 7 : Nat) : Int) else S a x
theorem NCS.cgs {S' : Nat → Nat → Int} (hn : NCS q S Y cs m N K h) (e : S' = S) : NCS q S' Y cs m N K h := by
  subst e
  exact hn
theorem cspo_go {dp : Nat} (hY : YB q) (rI : Int32) (row : Nat) (hr : row < 343) : ∀ (j : Nat) (lI pI : Int32) (h : Hp), j ≤ 7 → pI.toInt = (j : Int) - 1 → lI.toInt = ((row / 7 ^ (zct K 7 - zct K j) : Nat) : Int) → NCS q (zSpJ S K row j) Y cs m N K h → HI h → (∀ h', HI h' → frm WTQ h h' → NCS q (zSpJ S K row 0) Y cs m N K h' → Q none h') → Ends X (dp + 1) 32 5 [.ref 18, .int rI, .int lI, .int pI] [] h Q
  | 0, lI, pI, h, hj, hp, hl, hn, hh, hQ => by
    refine w_cspo1 rI lI pI hh.hs ⟨fun e => hQ h hh frm_refl hn, fun e => ?_⟩
    exfalso
    have e : ¬ pI.toInt < (0 : Int32).toInt := of_decide_eq_false (cJ e)
    rw [z0] at e
    omega
  | p + 1, lI, pI, h, hj, hp, hl, hn, hh, hQ => by
    have hp : pI.toInt = p := by omega
    have p7 : p < 7 := by omega
    have j7 : (7 : Int32).toInt = 7 := rfl
    have pm : (pI + (-1)).toInt = (p : Int) - 1 := by rw [i_add (by rw [im1]; omega) (by rw [im1]; omega), im1]; omega
    have cS : zct K (p + 1) = zct K p + (K p).toNat := rfl
    have mo := zct_mono K (7 - (p + 1)) (p + 1)
    rw [show p + 1 + (7 - (p + 1)) = 7 by omega] at mo
    have dl : row / 7 ^ (zct K 7 - zct K (p + 1)) ≤ row := Nat.div_le_self _ _
    refine w_cspo1 rI lI pI hh.hs ⟨fun e => ?_, fun e => isin_ok hn.2.2.2.1 hp p7 hh.hs ⟨_, rfl, hh.hs, fun c => ?_, fun c => fm_ok lI 7 hh.hs (by decide) (fun r7 h7 => ⟨r7, rfl, hh.hs, inB_iff (by omega) (by omega), ?_⟩)⟩⟩
    · exfalso
      have e : pI.toInt < (0 : Int32).toInt := of_decide_eq_true (cJ e)
      rw [z0] at e
      omega
    · have c := cz c
      rw [c] at cS
      have cS : zct K (p + 1) = zct K p := cS
      rw [cS] at hl
      refine cspo_go hY rI row hr p lI _ h (by omega) pm hl (hn.cgs ?_) hh hQ
      funext a x
      unfold zSpJ
      by_cases d : x = p
      · rw [if_neg (fun z => by rw [d, c] at z; exact absurd z.2.2 Bool.false_ne_true), if_neg (fun z => by rw [d, c] at z; exact absurd z.2.2 Bool.false_ne_true)]
      · by_cases e2 : a = 2 ∧ (p ≤ x ∧ x < 7) ∧ K x = true
        · rw [if_pos e2, if_pos ⟨e2.1, ⟨by omega, e2.2.1.2⟩, e2.2.2⟩]
        · rw [if_neg e2, if_neg (fun z => e2 ⟨z.1, ⟨by omega, z.2.1.2⟩, z.2.2⟩)]
    · have c := cn c
      rw [c] at cS
      have cS : zct K (p + 1) = zct K p + 1 := cS
      rw [j7, hl] at h7
      have r7v : r7.toInt = ((row / 7 ^ zab K p % 7 : Nat) : Int) := by
        rw [h7]
        unfold zab
        omega
      have ml := Nat.mod_lt (row / 7 ^ zab K p) (by decide : 7 > 0)
      rw [show pI.toNatClampNeg = p by show pI.toInt.toNat = _; omega]
      have g2 : HI (hpI h 21 p r7) := HI_put hh (by rw [iv_21 p p7]; omega) (by rw [iv_21 p p7]; omega)
      have n2 := hn.up2 (p := p) (v := r7) hY
      rw [r7v] at n2
      have lv : (lI / 7).toInt = ((row / 7 ^ (zct K 7 - zct K p) : Nat) : Int) := by
        rw [i_dv (by rw [hl]; exact Int.natCast_nonneg _) (by decide), j7, hl, show zct K 7 - zct K p = (zct K 7 - zct K (p + 1)) + 1 by omega, Nat.pow_succ, ← Nat.div_div_eq_div_mul]
        rfl
      refine cspo_go hY rI row hr p _ _ _ (by omega) pm lv (n2.cgs ?_) g2 (fun h' d1 d2 d3 => hQ h' d1 (frm_trans (frm_put frm_refl (by simp [inW, WTQ])) d2) d3)
      funext a x
      unfold upS zSpJ
      try dsimp only
      by_cases d : a = 2 ∧ x = p
      · rw [if_pos d, d.2, if_pos ⟨d.1, ⟨Nat.le_refl _, p7⟩, c⟩]
      · rw [if_neg d]
        by_cases e2 : a = 2 ∧ (p ≤ x ∧ x < 7) ∧ K x = true
        · have : x ≠ p := fun z => d ⟨e2.1, z⟩
          rw [if_pos e2, if_pos ⟨e2.1, ⟨by omega, e2.2.1.2⟩, e2.2.2⟩]
        · rw [if_neg e2, if_neg (fun z => e2 ⟨z.1, ⟨by omega, z.2.1.2⟩, z.2.2⟩)]
theorem cspo_ok {dp : Nat} (hY : YB q) (rI : Int32) (row : Nat) (hrI : rI.toInt = row) (hr : row < 343) (hn : NCS q S Y cs m N K h) (hh : HI h) (hQ : ∀ h', HI h' → frm WTQ h h' → NCS q (zSp S K row) Y cs m N K h' → Q none h') : Ends X (dp + 1) 32 0 [.ref 18, .int rI, .retAddr 0, .retAddr 0] [] h Q := by
  refine w_cspo0 rI hh.hs (cspo_go (S := S) hY rI row hr 7 rI 6 h (by decide) rfl (by rw [Nat.sub_self, hrI, Nat.pow_zero, Nat.div_one]) (hn.cgs ?_) hh (fun h' d1 d2 d3 => hQ h' d1 d2 (d3.cgs ?_)))
  · funext a x
    unfold zSpJ
    rw [if_neg (by omega)]
  · funext a x
    unfold zSpJ zSp
    by_cases e2 : a = 2 ∧ x < 7 ∧ K x = true
    · rw [if_pos e2, if_pos ⟨e2.1, ⟨Nat.zero_le _, e2.2.1⟩, e2.2.2⟩]
    · rw [if_neg e2, if_neg (fun z => e2 ⟨z.1, z.2.1.2, z.2.2⟩)]
theorem p7_le : ∀ b, b ≤ 3 → 7 ^ b ≤ 343 := by decide
theorem clrw_go {dp : Nat} (hs : HS h) (nI : Int32) (b : Nat) (hb : nI.toInt = b) (b3 : b ≤ 3) (hQ : ∀ r : Int32, r.toInt = ((7 ^ b : Nat) : Int) → Q (some (.int r)) h) : ∀ (n i : Nat) (rI iI : Int32), i + n = b → iI.toInt = i → rI.toInt = ((7 ^ i : Nat) : Int) → Ends X dp 106 4 [.int nI, .int rI, .int iI] [] h Q
  | n, i, rI, iI, hn, hi, hr => by
    have j7 : (7 : Int32).toInt = 7 := rfl
    refine w_clrw1 nI rI iI hs ⟨fun e => ?_, fun e => ?_⟩
    · have e : nI.toInt ≤ iI.toInt := of_decide_eq_true (cJ e)
      have : i = b := by omega
      subst this
      exact hQ rI hr
    have e : ¬ nI.toInt ≤ iI.toInt := of_decide_eq_false (cJ e)
    obtain ⟨n, rfl⟩ : ∃ k, n = k + 1 := ⟨n - 1, by omega⟩
    have n1 : (iI + 1).toInt = ((i + 1 : Nat) : Int) := by rw [i_add (by rw [i1]; omega) (by rw [i1]; omega), i1]; omega
    have pl := p7_le i (by omega)
    have pS : 7 ^ (i + 1) = 7 ^ i * 7 := Nat.pow_succ ..
    refine clrw_go hs nI b hb b3 hQ n (i + 1) _ _ (by omega) n1 ?_
    rw [i_mul (by rw [hr, j7]; omega) (by rw [hr, j7]; omega), hr, j7, pS]
    omega
theorem clrw_ok {dp : Nat} (hs : HS h) (nI : Int32) (b : Nat) (hb : nI.toInt = b) (b3 : b ≤ 3) (hQ : ∀ r : Int32, r.toInt = ((7 ^ b : Nat) : Int) → Q (some (.int r)) h) : Ends X dp 106 0 [.int nI, .retAddr 0, .retAddr 0] [] h Q :=
  w_clrw0 nI hs (clrw_go hs nI b hb b3 hQ b 0 1 0 (by omega) rfl rfl)
def zSprC (S : Nat → Nat → Int) (Y : Int) (cs : List Cl) (m : List Int) (N : Nat) (K : Nat → Bool) : Nat → Nat := fun row => pop (zC (zSp S K row) Y cs m N K)
def zSprA (S : Nat → Nat → Int) (Y : Int) (cs : List Cl) (m : List Int) (N : Nat) (K : Nat → Bool) (k : Int) : Int := if k = -1 then (zmx (zSprC S Y cs m N K) (7 ^ pop K)).2 else if k < (pop K : Int) then (((zmx (zSprC S Y cs m N K) (7 ^ pop K)).1 / 7 ^ (pop K - 1 - k.toNat) % 7 : Nat) : Int) else -5
def zSpr (S : Nat → Nat → Int) (Y : Int) (cs : List Cl) (m : List Int) (N : Nat) (K : Nat → Bool) (kI : Int32) : Int := if ¬ (-1 ≤ kI.toInt ∧ kI.toInt ≤ 2) then -1 else if 3 < pop K then -9 else zSprA S Y cs m N K kI.toInt
theorem zmx_lt (cnt : Nat → Nat) : ∀ n, 0 < n → (zmx cnt n).1 < n
  | 0, h => absurd h (Nat.lt_irrefl 0)
  | n + 1, _ => by
    show (if (zmx cnt n).2 < (cnt n : Int) then (n, (cnt n : Int)) else zmx cnt n).1 < n + 1
    split
    · exact Nat.lt_succ_self n
    · by_cases c : 0 < n
      · exact Nat.lt_succ_of_lt (zmx_lt cnt n c)
      · have : n = 0 := by omega
        subst this
        exact Nat.zero_lt_succ 0
theorem cspr_go {dp : Nat} (hY : YB q) (mk : MOK S Y N) (yk : YOK cs m) (kI cI rI : Int32) (p3 : pop K ≤ 3) (hc : cI.toInt = (pop K : Int)) (hr : rI.toInt = ((7 ^ pop K : Nat) : Int)) (hk : -1 ≤ kI.toInt ∧ kI.toInt ≤ 2) : ∀ (n o : Nat) (mI wI oI : Int32) (x : Value) (S' : Nat → Nat → Int) (h : Hp), o + n = 7 ^ pop K → oI.toInt = o → wI.toInt = (zmx (zSprC S Y cs m N K) o).1 → mI.toInt = (zmx (zSprC S Y cs m N K) o).2 → (∀ r, zSp S' K r = zSp S K r) → NCS q S' Y cs m N K h → HI h → (∀ (r : Int32) h1, HI h1 → frm WTQ h h1 → r.toInt = zSprA S Y cs m N K kI.toInt → Q (some (.int r)) h1) → Ends X (dp + 1 + 1 + 1 + 1 + 1) 80 49 [.ref 0, .int kI, .int cI, .int mI, .int wI, .int rI, .int oI, x] [] h Q
  | n, o, mI, wI, oI, x, S', h, hn, ho, hw, hm, hS, hs, hh, hQ => by
    have p343 := p7_le (pop K) p3
    refine w_cspr1 kI cI mI wI rI oI x hh.hs ⟨fun e => ⟨fun e2 => ⟨fun e3 => ?_, fun e3 => ?_⟩, fun e2 => ?_⟩, fun e => ?_⟩
    · have e : rI.toInt ≤ oI.toInt := of_decide_eq_true (cJ e)
      have e2 : ¬ kI.toInt = (-1 : Int32).toInt := of_decide_eq_true (cJ e2)
      have e3 : cI.toInt ≤ kI.toInt := of_decide_eq_true (cJ e3)
      rw [im1] at e2
      exact hQ _ h hh frm_refl (by unfold zSprA; rw [if_neg e2, if_neg (by omega)]; rfl)
    · have e : rI.toInt ≤ oI.toInt := of_decide_eq_true (cJ e)
      have e2 : ¬ kI.toInt = (-1 : Int32).toInt := of_decide_eq_true (cJ e2)
      have e3 : ¬ cI.toInt ≤ kI.toInt := of_decide_eq_false (cJ e3)
      rw [im1] at e2
      have oe : o = 7 ^ pop K := by omega
      have d1 : (cI - 1).toInt = (pop K : Int) - 1 := by rw [i_sub (by rw [i1]; omega) (by rw [i1]; omega), i1, hc]
      have d2 : (cI - 1 - kI).toInt = ((pop K - 1 - kI.toInt.toNat : Nat) : Int) := by rw [i_sub (by omega) (by omega), d1]; omega
      refine clrw_ok hh.hs _ _ d2 (by omega) (fun r5 h5 => ⟨r5, rfl, hh.hs, ?_⟩)
      have pp : 0 < 7 ^ (pop K - 1 - kI.toInt.toNat) := Nat.pow_pos (by decide)
      have j7 : (7 : Int32).toInt = 7 := rfl
      have zl := zmx_lt (zSprC S Y cs m N K) (7 ^ pop K) (Nat.pow_pos (by decide))
      rw [← oe] at zl
      have q1 : (wI / r5).toInt = (((zmx (zSprC S Y cs m N K) o).1 / 7 ^ (pop K - 1 - kI.toInt.toNat) : Nat) : Int) := by rw [i_dv (by omega) (by omega), hw, h5]; rfl
      have dl : (zmx (zSprC S Y cs m N K) o).1 / 7 ^ (pop K - 1 - kI.toInt.toNat) ≤ (zmx (zSprC S Y cs m N K) o).1 := Nat.div_le_self _ _
      have gn := Int.natCast_nonneg ((zmx (zSprC S Y cs m N K) o).1 / 7 ^ (pop K - 1 - kI.toInt.toNat))
      have q2 : (wI / r5 / 7).toInt = (((zmx (zSprC S Y cs m N K) o).1 / 7 ^ (pop K - 1 - kI.toInt.toNat) / 7 : Nat) : Int) := by rw [i_dv (by rw [q1]; exact Int.natCast_nonneg _) (by decide), q1, j7]; rfl
      have q3 : (wI / r5 / 7 * 7).toInt = (((zmx (zSprC S Y cs m N K) o).1 / 7 ^ (pop K - 1 - kI.toInt.toNat) / 7 * 7 : Nat) : Int) := by rw [i_mul (by rw [q2, j7]; omega) (by rw [q2, j7]; omega), q2, j7]; omega
      refine ⟨fun z => by rw [z, z0] at h5; omega, hQ _ h hh frm_refl ?_⟩
      unfold zSprA
      rw [if_neg e2, if_pos (by omega), ← oe, i_sub (by omega) (by omega), q1, q3]
      omega
    · have e : rI.toInt ≤ oI.toInt := of_decide_eq_true (cJ e)
      have e2 : ¬ ¬ kI.toInt = (-1 : Int32).toInt := of_decide_eq_false (cJ e2)
      rw [im1] at e2
      have oe : o = 7 ^ pop K := by omega
      exact hQ mI h hh frm_refl (by unfold zSprA; rw [if_pos (Decidable.not_not.mp e2), ← oe]; exact hm)
    have e : ¬ rI.toInt ≤ oI.toInt := of_decide_eq_false (cJ e)
    obtain ⟨n, rfl⟩ : ∃ k, n = k + 1 := ⟨n - 1, by omega⟩
    have n1 : (oI + 1).toInt = ((o + 1 : Nat) : Int) := by rw [i_add (by rw [i1]; omega) (by rw [i1]; omega), i1]; omega
    refine cspo_ok hY oI o ho (by omega) hs hh (fun h8 g8 f8 n8 => ⟨rfl, g8.hs, ?_⟩)
    rw [hS] at n8
    refine ncau_ok hY mk.sp yk g8 n8 (fun r12 h11 g11 f11 n11 _ b12 => ⟨r12, rfl, g11.hs, bct_ok b12 g11.hs (fun r15 h15 => ⟨r15, rfl, g11.hs, ?_⟩)⟩)
    have h15 : r15.toInt = (zSprC S Y cs m N K o : Int) := h15
    have f := frm_trans f8 (WCX_T f11)
    refine ⟨fun c => ?_, fun c => ?_⟩
    · have c : r15.toInt ≤ mI.toInt := of_decide_eq_true (cJ c)
      have st : zmx (zSprC S Y cs m N K) (o + 1) = zmx (zSprC S Y cs m N K) o := if_neg (by omega)
      exact cspr_go hY mk yk kI cI rI p3 hc hr hk n (o + 1) _ _ _ _ _ h11 (by omega) n1 (by rw [st]; exact hw) (by rw [st]; exact hm) (fun r => zSp_sp) n11 g11 (fun r h1 d1 d2 d3 => hQ r h1 d1 (frm_trans f d2) d3)
    · have c : ¬ r15.toInt ≤ mI.toInt := of_decide_eq_false (cJ c)
      have st : zmx (zSprC S Y cs m N K) (o + 1) = (o, (zSprC S Y cs m N K o : Int)) := if_pos (by omega)
      exact cspr_go hY mk yk kI cI rI p3 hc hr hk n (o + 1) _ _ _ _ _ h11 (by omega) n1 (by rw [st]; exact ho) (by rw [st]; exact h15) (fun r => zSp_sp) n11 g11 (fun r h1 d1 d2 d3 => hQ r h1 d1 (frm_trans f d2) d3)
theorem cspr_ok {dp : Nat} (ha : AST q S Y cs m N K h) (mk : MOK S Y N) (yk : YOK cs m) (hh : HI h) (kI : Int32) (hQ : ∀ (r : Int32) h1, HI h1 → frm WTQ h h1 → r.toInt = zSpr S Y cs m N K kI → Q (some (.int r)) h1) : Ends X (dp + 1 + 1 + 1 + 1 + 1) 80 0 [.ref 0, .int kI, .retAddr 0, .retAddr 0, .retAddr 0, .retAddr 0, .retAddr 0, .retAddr 0] [] h Q := by
  have j3 : (3 : Int32).toInt = 3 := rfl
  unfold zSpr at hQ
  refine w_cspr0 kI hh.hs ⟨fun e => ?_, fun e => ⟨fun e2 => ?_, fun e2 => ?_⟩⟩
  · have e : kI.toInt < (-1 : Int32).toInt := of_decide_eq_true (cJ e)
    rw [im1] at e
    exact hQ _ h hh frm_refl (by rw [if_pos (by omega)]; rfl)
  · have e : ¬ kI.toInt < (-1 : Int32).toInt := of_decide_eq_false (cJ e)
    have e2 : kI.toInt < (3 : Int32).toInt := of_decide_eq_true (cJ e2)
    rw [im1] at e
    rw [if_neg (by omega)] at hQ
    refine bct_ok ha.2.2.2.2.2.1 hh.hs (fun r4 h4 => ⟨r4, rfl, hh.hs, fun e3 => ?_, fun e3 => ?_⟩)
    · have e3 : r4.toInt ≤ (3 : Int32).toInt := of_decide_eq_true (cJ e3)
      rw [if_neg (by omega)] at hQ
      exact clrw_ok hh.hs r4 (pop K) h4 (by omega) (fun r8 h8 => ⟨r8, rfl, hh.hs, asks_ok ha hh (fun h10 g10 f10 n10 => ⟨rfl, g10.hs, cspr_go ha.1 mk yk kI r4 r8 (by omega) h4 h8 (by omega) (7 ^ pop K) 0 (-1) 0 0 _ S h10 (by omega) rfl rfl rfl (fun _ => rfl) n10 g10 (fun r h1 d1 d2 d3 => hQ r h1 d1 (frm_trans f10 d2) d3)⟩)⟩)
    · have e3 : ¬ r4.toInt ≤ (3 : Int32).toInt := of_decide_eq_false (cJ e3)
      rw [if_pos (by omega)] at hQ
      exact hQ _ h hh frm_refl rfl
  · have e2 : ¬ kI.toInt < (3 : Int32).toInt := of_decide_eq_false (cJ e2)
    exact hQ _ h hh frm_refl (by rw [if_pos (by omega)]; rfl)
/-- set -/
def setBad (wI nI : Int32) : Prop := (wI.toInt = 0 ∧ ¬ (0 ≤ nI.toInt ∧ nI.toInt ≤ 6)) ∨ (wI.toInt = 1 ∧ ¬ (0 ≤ nI.toInt ∧ nI.toInt ≤ 9))
theorem inR_d {x : Int32} {a b : Int} : inR x a b = decide (a ≤ x.toInt ∧ x.toInt ≤ b) := by
  unfold inR
  rw [← Bool.decide_and]
theorem cset_ok {dp : Nat} (hN : (h.2.1 1 0).toInt = N) (hN7 : N ≤ 7) (hh : HI h) (pI wI nI : Int32) (q1 : ¬ (isP N pI ∧ is01 wI) → Q (some (.int (-1))) h) (q2 : isP N pI → is01 wI → setBad wI nI → Q (some (.int (-2))) h) (q3 : isP N pI → wI.toInt = 0 → (0 ≤ nI.toInt ∧ nI.toInt ≤ 6) → Q (some (.int (h.2.1 4 pI.toInt.toNat))) (hpI h 4 pI.toInt.toNat nI)) (q4 : isP N pI → wI.toInt = 1 → (0 ≤ nI.toInt ∧ nI.toInt ≤ 9) → Q (some (.int (h.2.1 6 pI.toInt.toNat))) (hpI h 6 pI.toInt.toNat nI)) : Ends X (dp + 1) 65 0 [.ref 0, .int pI, .int wI, .int nI, .retAddr 0] [] h Q := by
  refine w_cset pI wI nI hh.hs (chas_ok pI hh ?_)
  rw [hN, ← Bool.decide_and]
  refine ⟨_, rfl, hh.hs, fun e => ?_, fun e => ⟨fun e2 => ?_, fun e2 => ⟨fun e3 => ⟨fun e4 => isDigit_ok nI hh.hs ⟨_, rfl, hh.hs, fun e5 => ?_, fun e5 => ?_⟩, fun e4 => isLane_ok nI hh.hs ⟨_, rfl, hh.hs, fun e5 => ?_, fun e5 => ?_⟩⟩, fun e3 => ?_⟩⟩⟩
  · have e := of_decide_eq_false (cz e)
    exact q1 (fun z => e z.1)
  · have e2 : wI.toInt < (0 : Int32).toInt := of_decide_eq_true (cJ e2)
    rw [z0] at e2
    exact q1 (fun z => by have := z.2.1; omega)
  all_goals
    have e : isP N pI := of_decide_eq_true (cn e)
    have e2 : ¬ wI.toInt < (0 : Int32).toInt := of_decide_eq_false (cJ e2)
    rw [z0] at e2
  · have e3 : wI.toInt ≤ (1 : Int32).toInt := of_decide_eq_true (cJ e3)
    have e4 : ¬ wI.toInt = (0 : Int32).toInt := of_decide_eq_true (cJ e4)
    rw [i1] at e3
    rw [z0] at e4
    have e5 := cn2 e5
    rw [inR_d] at e5
    have e5 := of_decide_eq_true e5
    have ip : inB pI 7 = true := inB_iff (by omega) (by omega)
    have w1 : wI.toInt = 1 := by omega
    have ne : ¬ condB .ne wI 0 = false := fun z => by
      have z : ¬ ¬ wI.toInt = (0 : Int32).toInt := of_decide_eq_false (cJ z)
      rw [z0] at z
      omega
    exact ⟨fun _ => ⟨ip, fun _ => ⟨ip, q4 e w1 e5⟩, fun z => absurd z ne⟩, fun z => absurd z ne⟩
  · have e3 : wI.toInt ≤ (1 : Int32).toInt := of_decide_eq_true (cJ e3)
    have e4 : ¬ wI.toInt = (0 : Int32).toInt := of_decide_eq_true (cJ e4)
    rw [i1] at e3
    rw [z0] at e4
    have e5 := cz2 e5
    rw [inR_d] at e5
    exact q2 e ⟨by omega, e3⟩ (Or.inr ⟨by omega, of_decide_eq_false e5⟩)
  · have e4 : ¬ ¬ wI.toInt = (0 : Int32).toInt := of_decide_eq_false (cJ e4)
    rw [z0] at e4
    have e5 := cn2 e5
    rw [inR_d] at e5
    have e5 := of_decide_eq_true e5
    have ip : inB pI 7 = true := inB_iff (by omega) (by omega)
    have ne : ¬ condB .ne wI 0 = true := fun z => by
      have z : ¬ wI.toInt = (0 : Int32).toInt := of_decide_eq_true (cJ z)
      rw [z0] at z
      omega
    exact ⟨fun z => absurd z ne, fun _ => ⟨ip, fun z => absurd z ne, fun _ => ⟨ip, q3 e (Decidable.not_not.mp e4) e5⟩⟩⟩
  · have e4 : ¬ ¬ wI.toInt = (0 : Int32).toInt := of_decide_eq_false (cJ e4)
    rw [z0] at e4
    have e5 := cz2 e5
    rw [inR_d] at e5
    exact q2 e ⟨by omega, by omega⟩ (Or.inl ⟨Decidable.not_not.mp e4, of_decide_eq_false e5⟩)
  · have e3 : ¬ wI.toInt ≤ (1 : Int32).toInt := of_decide_eq_false (cJ e3)
    rw [i1] at e3
    exact q1 (fun z => by have := z.2.2; omega)
/-- catches -/
theorem ccat_ok {dp : Nat} (hN : (h.2.1 1 0).toInt = N) (hN7 : N ≤ 7) (hK : BSET (h.2.1 1 7) K) (hh : HI h) (pI dI : Int32) (q1 : ¬ isP N pI → Q (some (.int (-1))) h) (q2 : isP N pI → dI.toInt = 0 → Q (some (.int (b2i (K pI.toInt.toNat)))) (hpI h 1 7 (h.2.1 1 7 &&& ((1 <<< (pI &&& 31)) ^^^ (-1))))) (q3 : isP N pI → ¬ dI.toInt = 0 → Q (some (.int (b2i (K pI.toInt.toNat)))) (hpI h 1 7 (h.2.1 1 7 ||| (1 <<< (pI &&& 31))))) : Ends X (dp + 1 + 1) 66 0 [.ref 0, .int pI, .int dI, .retAddr 0] [] h Q := by
  refine w_ccat pI dI hh.hs (chas_ok pI hh ?_)
  rw [hN, ← Bool.decide_and]
  refine ⟨_, rfl, hh.hs, fun e => ?_, fun e => ?_⟩
  · have e : isP N pI := of_decide_eq_true (cn2 e)
    refine w_dct pI hh.hs (isin_ok hK (pn := pI.toInt.toNat) (by omega) (by omega) hh.hs ⟨_, rfl, hh.hs, b2i_01 _, ⟨_, rfl, hh.hs, fun e2 => ⟨fun e3 => ?_, fun e3 => ?_⟩, fun e2 => ⟨fun e3 => ?_, fun e3 => ?_⟩⟩⟩)
    · have e3 : dI.toInt = (0 : Int32).toInt := of_decide_eq_true (cJ e3)
      have := q2 e e3
      rw [cz e2] at this
      exact this
    · have e3 : ¬ dI.toInt = (0 : Int32).toInt := of_decide_eq_false (cJ e3)
      have := q3 e e3
      rw [cz e2] at this
      exact this
    · have e3 : dI.toInt = (0 : Int32).toInt := of_decide_eq_true (cJ e3)
      have := q2 e e3
      rw [cn e2] at this
      exact this
    · have e3 : ¬ dI.toInt = (0 : Int32).toInt := of_decide_eq_false (cJ e3)
      have := q3 e e3
      rw [cn e2] at this
      exact this
  · exact q1 (of_decide_eq_false (cz2 e))
end SPREAD
