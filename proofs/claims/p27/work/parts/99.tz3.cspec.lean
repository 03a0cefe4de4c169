/-! What the calls answer, and the class's calls. -/
/-- a set as a number -/
def zint (f : Nat → Bool) : Int := ((f 0).toNat + 2 * (f 1).toNat + 4 * (f 2).toNat + 8 * (f 3).toNat + 16 * (f 4).toNat + 32 * (f 5).toNat + 64 * (f 6).toNat : Nat)
theorem zint_t : ∀ n, n < 128 → n = (n.testBit 0).toNat + 2 * (n.testBit 1).toNat + 4 * (n.testBit 2).toNat + 8 * (n.testBit 3).toNat + 16 * (n.testBit 4).toNat + 32 * (n.testBit 5).toNat + 64 * (n.testBit 6).toNat := by decide +kernel
theorem BSET.val {b : Int32} {f : Nat → Bool} (hb : BSET b f) : b.toInt = zint f := by
  obtain ⟨n, hn, rfl, hf⟩ := hb
  rw [i32n hn]
  unfold zint
  rw [← hf 0 (by decide), ← hf 1 (by decide), ← hf 2 (by decide), ← hf 3 (by decide), ← hf 4 (by decide), ← hf 5 (by decide), ← hf 6 (by decide)]
  exact congrArg _ (zint_t n hn)
abbrev isP (N : Nat) (a : Int32) : Prop := 0 ≤ a.toInt ∧ a.toInt < (N : Int)
abbrev is01 (a : Int32) : Prop := 0 ≤ a.toInt ∧ a.toInt ≤ 1
/-- most, and where first -/
def zmx (cnt : Nat → Nat) : Nat → Nat × Int
  | 0 => (0, -1)
  | l + 1 => if (zmx cnt l).2 < cnt l then (l, cnt l) else zmx cnt l
/-- the same over some alone, from nobody on -/
def zmf (R : Nat → Bool) (cnt : Nat → Nat) : Nat → Int × Int
  | 0 => (-5, -5)
  | p + 1 => if R p = true ∧ (zmf R cnt p).2 < cnt p then ((p : Int), (cnt p : Int)) else zmf R cnt p
/-- those of the first so many that have f -/
def zset (f : Nat → Bool) : Nat → (Nat → Bool)
  | 0 => fun _ => false
  | l + 1 => fun x => zset f l x || (f l && decide (x = l))
/-- the first of those that has f, from a on -/
def zff (f : Nat → Bool) : Nat → Nat → Int
  | 0, _ => -5
  | n + 1, a => if f a = true then (a : Int) else zff f n (a + 1)
section CALLS
variable {X : Scr} {Q : Option Value → Hp → Prop} {q : Nat} {S : Nat → Nat → Int} {Y : Int} {cs : List Cl} {m : List Int} {N : Nat} {K : Nat → Bool} {h : Hp}
theorem cis_ok {dp : Nat} (ha : AST q S Y cs m N K h) (hh : HI h) (pI : Int32) (hQ : Q (some (.int (b2i (decide (isP N pI))))) h) : Ends X dp 26 0 [.ref 1, .int pI] [] h Q := by
  refine chas_ok pI hh ?_
  rw [ha.2.2.2.2.1, ← Bool.decide_and]
  exact hQ
theorem crun_ok {dp : Nat} (ha : AST q S Y cs m N K h) (hN7 : N ≤ 7) (hs : HS h) (hQ : ∀ r : Int32, BSET r (zR N K) → Q (some (.int r)) h) : Ends X (dp + 1) 29 0 [.ref 1] [] h Q :=
  w_rng hs (w_evy hs ⟨_, rfl, hs, hQ _ ((BSET.every ha.2.2.2.2.1 hN7).no ha.2.2.2.2.2.1)⟩)
theorem crun18_ok {dp : Nat} (hn : NCS q S Y cs m N K h) (hN7 : N ≤ 7) (hs : HS h) (hQ : ∀ r : Int32, BSET r (zR N K) → Q (some (.int r)) h) : Ends X (dp + 1) 29 0 [.ref 18] [] h Q :=
  w_rng18 hs (w_evy18 hs ⟨_, rfl, hs, hQ _ ((BSET.every hn.2.2.1 hN7).no hn.2.2.2.1)⟩)
def zTold (Y : Int) (N : Nat) (K : Nat → Bool) (w : Int) : Int := if w = 0 then Y else if w = 1 then zint (zR N K) else if w = 2 then zint K else -1
theorem ctold_ok {dp : Nat} (ha : AST q S Y cs m N K h) (hN7 : N ≤ 7) (hh : HI h) (wI : Int32) (hQ : ∀ r : Int32, r.toInt = zTold Y N K wI.toInt → Q (some (.int r)) h) : Ends X (dp + 1 + 1) 70 0 [.ref 0, .int wI] [] h Q := by
  unfold zTold at hQ
  refine w_ctold wI hh.hs ⟨fun e => hQ _ ?_, fun e => hQ _ ?_, fun e => crun_ok ha hN7 hh.hs (fun r hr => ⟨r, rfl, hh.hs, hQ _ ?_⟩), fun e => hQ _ ?_⟩
  · rw [if_neg (by omega), if_neg (by omega), if_neg (by omega)]; rfl
  · rw [if_pos e]; exact ha.2.2.2.1
  · rw [if_neg (by omega), if_pos e]; exact hr.val
  · rw [if_neg (by omega), if_neg (by omega), if_pos e]; exact ha.2.2.2.2.2.1.val
theorem iv_21 : ∀ k, k < 7 → ivl 21 k = (0, 6) := by
  have : ((List.range 7).all (fun k => decide (ivl 21 k = (0, 6)))) = true := by decide +kernel
  exact fun k hk => of_decide_eq_true (List.all_eq_true.mp this k (List.mem_range.mpr hk))
theorem iv_23 : ∀ k, k < 7 → ivl 23 k = (0, 9) := by
  have : ((List.range 7).all (fun k => decide (ivl 23 k = (0, 9)))) = true := by decide +kernel
  exact fun k hk => of_decide_eq_true (List.all_eq_true.mp this k (List.mem_range.mpr hk))
theorem YR.put {a p : Nat} {v : Int32} (hY : YB q) (hr : YR q h cs m) (ha : a < 39) : YR q (hpI h a p v) cs m := by
  have rq := yb_rng hY
  obtain ⟨r0, r1, r2, r3⟩ := hr
  refine ⟨r0, by rw [put_ne (by omega)]; exact r1, fun c hc => ?_, fun j hj => by rw [put_ne (by omega)]; exact r3 j hj⟩
  rw [put_ne (by omega), put_ne (by omega), put_ne (by omega)]
  exact r2 c hc
theorem NCS.up2 (hY : YB q) {p : Nat} {v : Int32} (hn : NCS q S Y cs m N K h) : NCS q (upS S 2 p v.toInt) Y cs m N K (hpI h 21 p v) := by
  obtain ⟨a1, a2, a3, a4, a5, a6, a7, a8⟩ := hn
  exact ⟨a1.up2, a2.put hY (by decide), by rw [put_ne (by omega)]; exact a3, by rw [put_ne (by omega)]; exact a4, by rw [put_ne (by omega)]; exact a5, by rw [put_ne (by omega)]; exact a6, by rw [put_ne (by omega)]; exact a7, by rw [put_ne (by omega)]; exact a8⟩
theorem NCS.up4 (hY : YB q) {p : Nat} {v : Int32} (hn : NCS q S Y cs m N K h) : NCS q (upS S 4 p v.toInt) Y cs m N K (hpI h 23 p v) := by
  obtain ⟨a1, a2, a3, a4, a5, a6, a7, a8⟩ := hn
  exact ⟨a1.up4, a2.put hY (by decide), by rw [put_ne (by omega)]; exact a3, by rw [put_ne (by omega)]; exact a4, by rw [put_ne (by omega)]; exact a5, by rw [put_ne (by omega)]; exact a6, by rw [put_ne (by omega)]; exact a7, by rw [put_ne (by omega)]; exact a8⟩
theorem MOK.up2 {p : Nat} {v : Int} (mk : MOK S Y N) (hv : 0 ≤ v ∧ v ≤ 6) : MOK (upS S 2 p v) Y N := ⟨upS_rg mk.1 hv, upS_5 (by decide) mk.2.1, mk.2.2⟩
theorem MOK.up4 {p : Nat} {v : Int} (mk : MOK S Y N) (hv : 0 ≤ v ∧ v ≤ 9) : MOK (upS S 4 p v) Y N := ⟨upS_rg4 mk.1 hv, upS_5 (by decide) mk.2.1, mk.2.2⟩
theorem cfrm_ok {dp : Nat} (ha : AST q S Y cs m N K h) (mk : MOK S Y N) (yk : YOK cs m) (hh : HI h) (cI lI : Int32) (c l : Nat) (hc : cI.toInt = c) (c7 : c < 7) (hl : lI.toInt = l) (l7 : l < 7) (hQ : ∀ (r : Int32) h1, HI h1 → frm WTQ h h1 → BSET r (zC (upS S 2 c l) Y cs m N K) → Q (some (.int r)) h1) : Ends X (dp + 1 + 1 + 1 + 1 + 1) 101 0 [.ref 0, .int cI, .int lI] [] h Q := by
  refine w_cfrm cI lI hh.hs (asks_ok ha hh (fun h1 g1 f1 n1 => ⟨rfl, g1.hs, inB_iff (by omega) (by omega), ?_⟩))
  rw [show cI.toNatClampNeg = c by show cI.toInt.toNat = _; omega]
  have g2 : HI (hpI h1 21 c lI) := HI_put g1 (by rw [iv_21 c c7]; omega) (by rw [iv_21 c c7]; omega)
  have n2 := n1.up2 (p := c) (v := lI) ha.1
  rw [hl] at n2
  exact ncau_ok ha.1 (mk.up2 (by omega)) yk g2 n2 (fun r h' g f _ _ hr => ⟨r, rfl, g.hs, hQ r h' g (frm_trans (frm_put f1 (by simp [inW, WTQ])) (WCX_T f)) hr⟩)
/-- stand -/
def zStaC (S : Nat → Nat → Int) (Y : Int) (cs : List Cl) (m : List Int) (N : Nat) (K : Nat → Bool) (p : Nat) : Nat → Nat := fun l => pop (zC (upS S 2 p l) Y cs m N K)
def zSta (S : Nat → Nat → Int) (Y : Int) (cs : List Cl) (m : List Int) (N : Nat) (K : Nat → Bool) (pI wI : Int32) : Int := if ¬ isP N pI then -1 else if ¬ is01 wI then -1 else if K pI.toInt.toNat = false then -3 else if wI.toInt = 0 then ((zmx (zStaC S Y cs m N K pI.toInt.toNat) 7).1 : Int) else (zmx (zStaC S Y cs m N K pI.toInt.toNat) 7).2
theorem csta_go {dp : Nat} (mk : MOK S Y N) (yk : YOK cs m) (pI wI : Int32) (p : Nat) (hp : pI.toInt = p) (p7 : p < 7) : ∀ (n l : Nat) (eI mI lI : Int32) (x : Value) (h : Hp), l + n = 7 → lI.toInt = l → eI.toInt = (zmx (zStaC S Y cs m N K p) l).1 → mI.toInt = (zmx (zStaC S Y cs m N K p) l).2 → AST q S Y cs m N K h → HI h → (∀ (r : Int32) h1, HI h1 → frm WTQ h h1 → r.toInt = (if wI.toInt = 0 then ((zmx (zStaC S Y cs m N K p) 7).1 : Int) else (zmx (zStaC S Y cs m N K p) 7).2) → Q (some (.int r)) h1) → Ends X (dp + 1 + 1 + 1 + 1 + 1 + 1) 75 44 [.ref 0, .int pI, .int wI, .int eI, .int mI, .int lI, x] [] h Q
  | n, l, eI, mI, lI, x, h, hn, hl, he, hm, ha, hh, hQ => by
    have j7 : (7 : Int32).toInt = 7 := rfl
    have z0' : (0 : Int32).toInt = 0 := rfl
    refine w_csta1 pI wI eI mI lI x hh.hs ⟨fun e => ⟨fun c => ?_, fun c => ?_⟩, fun e => ?_⟩
    · have e : (7 : Int32).toInt ≤ lI.toInt := of_decide_eq_true (cJ e)
      have c : ¬ wI.toInt = (0 : Int32).toInt := of_decide_eq_true (cJ c)
      have : l = 7 := by omega
      subst this
      exact hQ mI h hh frm_refl (by rw [if_neg (by omega)]; exact hm)
    · have e : (7 : Int32).toInt ≤ lI.toInt := of_decide_eq_true (cJ e)
      have c : ¬ ¬ wI.toInt = (0 : Int32).toInt := of_decide_eq_false (cJ c)
      have : l = 7 := by omega
      subst this
      exact hQ eI h hh frm_refl (by rw [if_pos (by omega)]; exact he)
    have e : ¬ (7 : Int32).toInt ≤ lI.toInt := of_decide_eq_false (cJ e)
    obtain ⟨n, rfl⟩ : ∃ k, n = k + 1 := ⟨n - 1, by omega⟩
    have n1 : (lI + 1).toInt = ((l + 1 : Nat) : Int) := by rw [i_add (by rw [i1]; omega) (by rw [i1]; omega), i1]; omega
    refine cfrm_ok ha mk yk hh pI lI p l hp p7 hl (by omega) (fun r4 h3 g3 f3 b4 => ⟨r4, rfl, g3.hs, bct_ok b4 g3.hs (fun r7 h7 => ⟨r7, rfl, g3.hs, fun c => ?_, fun c => ?_⟩)⟩)
    all_goals have h7 : r7.toInt = (zStaC S Y cs m N K p l : Int) := h7
    · have c : r7.toInt ≤ mI.toInt := of_decide_eq_true (cJ c)
      have st : zmx (zStaC S Y cs m N K p) (l + 1) = zmx (zStaC S Y cs m N K p) l := if_neg (by omega)
      exact csta_go mk yk pI wI p hp p7 n (l + 1) _ _ _ _ h3 (by omega) n1 (by rw [st]; exact he) (by rw [st]; exact hm) (ha.fr f3) g3 (fun r h1 d1 d2 d3 => hQ r h1 d1 (frm_trans f3 d2) d3)
    · have c : ¬ r7.toInt ≤ mI.toInt := of_decide_eq_false (cJ c)
      have st : zmx (zStaC S Y cs m N K p) (l + 1) = (l, (zStaC S Y cs m N K p l : Int)) := if_pos (by omega)
      exact csta_go mk yk pI wI p hp p7 n (l + 1) _ _ _ _ h3 (by omega) n1 (by rw [st]; exact hl) (by rw [st]; exact h7) (ha.fr f3) g3 (fun r h1 d1 d2 d3 => hQ r h1 d1 (frm_trans f3 d2) d3)
theorem csta_ok {dp : Nat} (ha : AST q S Y cs m N K h) (mk : MOK S Y N) (yk : YOK cs m) (hh : HI h) (pI wI : Int32) (hQ : ∀ (r : Int32) h1, HI h1 → frm WTQ h h1 → r.toInt = zSta S Y cs m N K pI wI → Q (some (.int r)) h1) : Ends X (dp + 1 + 1 + 1 + 1 + 1 + 1) 75 0 [.ref 0, .int pI, .int wI, .retAddr 0, .retAddr 0, .retAddr 0, .retAddr 0] [] h Q := by
  have z0' : (0 : Int32).toInt = 0 := rfl
  have N7 := mk.2.2.2
  unfold zSta at hQ
  refine w_csta0 pI wI hh.hs (cis_ok ha hh pI ⟨_, rfl, hh.hs, fun e => ?_, fun e => ⟨fun e2 => ?_, fun e2 => ⟨fun e3 => ?_, fun e3 => ?_⟩⟩⟩)
  · have e := of_decide_eq_false (cz e)
    exact hQ _ h hh frm_refl (by rw [if_pos e]; rfl)
  all_goals
    have e := of_decide_eq_true (cn e)
    rw [if_neg (fun z => z e)] at hQ
  · have e2 : wI.toInt < (0 : Int32).toInt := of_decide_eq_true (cJ e2)
    exact hQ _ h hh frm_refl (by rw [if_pos (by omega)]; rfl)
  · have e2 : ¬ wI.toInt < (0 : Int32).toInt := of_decide_eq_false (cJ e2)
    have e3 : wI.toInt ≤ (1 : Int32).toInt := of_decide_eq_true (cJ e3)
    rw [i1] at e3
    have hp : pI.toInt = (pI.toInt.toNat : Int) := by omega
    rw [if_neg (by omega)] at hQ
    refine dct_ok ha hh.hs pI pI.toInt.toNat hp (by omega) ⟨_, rfl, hh.hs, fun e4 => ?_, fun e4 => ?_⟩
    · rw [if_neg (by rw [cn2 e4]; decide)] at hQ
      exact csta_go mk yk pI wI pI.toInt.toNat hp (by omega) 7 0 0 (-1) 0 _ h (by decide) rfl rfl rfl ha hh hQ
    · rw [if_pos (cz2 e4)] at hQ
      exact hQ _ h hh frm_refl rfl
  · have e3 : ¬ wI.toInt ≤ (1 : Int32).toInt := of_decide_eq_false (cJ e3)
    rw [i1] at e3
    exact hQ _ h hh frm_refl (by rw [if_pos (by omega)]; rfl)
end CALLS
