/-! shift of both sides, exactly. -/
section SH
variable {X : Scr} {dp : Nat} {h : Hp} {Q : Option Value → Hp → Prop}
theorem in_ok (x lo hi : Int32) (hs : HS h) (hQ : Q (some (.int (b2i (decide (lo.toInt ≤ x.toInt) && decide (x.toInt ≤ hi.toInt))))) h) : Ends X dp 109 0 [.ref 93, .int x, .int lo, .int hi] [] h Q := by
  refine w_in x lo hi hs ⟨fun e => ?_, fun e => ⟨fun e2 => ?_, fun e2 => ?_⟩⟩
  · have e : x.toInt < lo.toInt := of_decide_eq_true (cI e)
    rwa [decide_eq_false (by omega : ¬ lo.toInt ≤ x.toInt)] at hQ
  · have e : ¬ x.toInt < lo.toInt := of_decide_eq_false (cI e)
    have e2 : hi.toInt < x.toInt := of_decide_eq_true (cI e2)
    rwa [decide_eq_true (by omega : lo.toInt ≤ x.toInt), decide_eq_false (by omega : ¬ x.toInt ≤ hi.toInt)] at hQ
  · have e : ¬ x.toInt < lo.toInt := of_decide_eq_false (cI e)
    have e2 : ¬ hi.toInt < x.toInt := of_decide_eq_false (cI e2)
    rwa [decide_eq_true (by omega : lo.toInt ≤ x.toInt), decide_eq_true (by omega : x.toInt ≤ hi.toInt)] at hQ
theorem person_ok (p : Int32) (hh : HI h) (hQ : Q (some (.int (b2i (decide (0 ≤ p.toInt) && decide (p.toInt < (h.2.1 93 0).toInt))))) h) : Ends X (dp + 1) 112 0 [.ref 93, .int p] [] h Q := by
  have hp := hh.iv 93 0 (r := (0, 7)) rfl
  simp only at hp
  refine w_isPerson p hh.hs (in_ok _ _ _ hh.hs ⟨_, rfl, hh.hs, b2i_01 _, ?_⟩)
  have e : (h.2.1 93 0 - 1).toInt = (h.2.1 93 0).toInt - 1 := by rw [i_sub (by rw [i1]; omega) (by rw [i1]; omega), i1]
  rw [e, z0]
  have : decide (p.toInt ≤ (h.2.1 93 0).toInt - 1) = decide (p.toInt < (h.2.1 93 0).toInt) := by
    apply decide_eq_decide.mpr
    omega
  rw [this]
  exact hQ
theorem i5 : (5 : Int32).toInt = 5 := rfl
theorem i6 : (6 : Int32).toInt = 6 := rfl
theorem i60 : (60 : Int32).toInt = 60 := rfl
theorem tape_ok (t : Int32) (hs : HS h) (hQ : Q (some (.int (b2i (decide (0 ≤ t.toInt) && decide (t.toInt ≤ 5))))) h) : Ends X (dp + 1) 198 0 [.ref 93, .int t] [] h Q :=
  w_tp t hs (in_ok _ _ _ hs ⟨_, rfl, hs, b2i_01 _, hQ⟩)
theorem cex_ok (t : Int32) (hs : HS h) (hQ : Q (some (.int (b2i (decide (0 ≤ t.toInt) && decide (t.toInt ≤ 5))))) h) : Ends X dp 35 0 [.ref 53, .int t] [] h Q := by
  refine w_cex t hs ⟨fun e => ?_, fun e => ⟨fun e2 => ?_, fun e2 => ?_⟩⟩
  · have e : t.toInt < 0 := of_decide_eq_true (cI e)
    rwa [decide_eq_false (by omega : ¬ 0 ≤ t.toInt)] at hQ
  · have e : ¬ t.toInt < 0 := of_decide_eq_false (cI e)
    have e2 : 6 ≤ t.toInt := of_decide_eq_true (cI e2)
    rwa [decide_eq_true (by omega : 0 ≤ t.toInt), decide_eq_false (by omega : ¬ t.toInt ≤ 5)] at hQ
  · have e : ¬ t.toInt < 0 := of_decide_eq_false (cI e)
    have e2 : ¬ 6 ≤ t.toInt := of_decide_eq_false (cI e2)
    rwa [decide_eq_true (by omega : 0 ≤ t.toInt), decide_eq_true (by omega : t.toInt ≤ 5)] at hQ
theorem lgc {x y : Int64} : (lg_cmp x y).toInt = if x.toInt < y.toInt then -1 else if x.toInt = y.toInt then 0 else 1 := by
  rw [lg_cmp_sgn]
  unfold sgn
  split
  · rfl
  · split <;> rfl
theorem cpt_ok (t f n : Int32) (hh : HI h) (hQ : Q (some (.int (b2i (decide (0 ≤ t.toInt) && decide (t.toInt ≤ 5) && decide (0 ≤ f.toInt) && decide (0 ≤ n.toInt) && decide (f.toInt + n.toInt ≤ (h.2.1 55 t.toInt.toNat).toInt))))) h) : Ends X (dp + 1) 37 0 [.ref 53, .int t, .int f, .int n] [] h Q := by
  refine w_cpt t f n hh.hs (cex_ok t hh.hs ⟨_, rfl, hh.hs, fun e => ?_, fun e => ⟨fun e2 => ?_, fun e2 => ⟨fun e3 => ?_, fun e3 => ?_⟩⟩⟩)
  · have e : (b2i (decide (0 ≤ t.toInt) && decide (t.toInt ≤ 5))).toInt = 0 := of_decide_eq_true (cI e)
    rw [b2i_z] at e
    rwa [e] at hQ
  all_goals
    have e : ¬ (b2i (decide (0 ≤ t.toInt) && decide (t.toInt ≤ 5))).toInt = 0 := of_decide_eq_false (cI e)
    rw [b2i_z, Bool.not_eq_false] at e
    rw [e] at hQ
    simp only [Bool.and_eq_true, decide_eq_true_eq] at e
  · have e2 : f.toInt < 0 := of_decide_eq_true (cI e2)
    rwa [decide_eq_false (by omega : ¬ 0 ≤ f.toInt)] at hQ
  · have e2 : ¬ f.toInt < 0 := of_decide_eq_false (cI e2)
    have e3 : n.toInt < 0 := of_decide_eq_true (cI e3)
    rwa [decide_eq_true (by omega : 0 ≤ f.toInt), decide_eq_false (by omega : ¬ 0 ≤ n.toInt)] at hQ
  · have e2 : ¬ f.toInt < 0 := of_decide_eq_false (cI e2)
    have e3 : ¬ n.toInt < 0 := of_decide_eq_false (cI e3)
    have hf := i32r f
    have hn := i32r n
    simp only [fI] at hf hn
    have hl : (f.toInt64 + n.toInt64).toInt = f.toInt + n.toInt := by
      have a1 : f.toInt64.toInt = f.toInt := Int32.toInt_toInt64 f
      have a2 : n.toInt64.toInt = n.toInt := Int32.toInt_toInt64 n
      rw [l_add (by rw [a1, a2]; omega) (by rw [a1, a2]; omega), a1, a2]
    have hL : (h.2.1 55 t.toNatClampNeg).toInt64.toInt = (h.2.1 55 t.toInt.toNat).toInt := Int32.toInt_toInt64 _
    refine ⟨inB_iff (by omega) (by omega), fun e4 => ?_, fun e4 => ?_⟩
    · have e4 : 0 < (lg_cmp (f.toInt64 + n.toInt64) (h.2.1 55 t.toNatClampNeg).toInt64).toInt := of_decide_eq_true (cI e4)
      rw [lgc, hl, hL] at e4
      have : ¬ f.toInt + n.toInt ≤ (h.2.1 55 t.toInt.toNat).toInt := by
        split at e4
        · omega
        · split at e4 <;> omega
      rwa [decide_eq_false this, Bool.and_false] at hQ
    · have e4 : ¬ 0 < (lg_cmp (f.toInt64 + n.toInt64) (h.2.1 55 t.toNatClampNeg).toInt64).toInt := of_decide_eq_false (cI e4)
      rw [lgc, hl, hL] at e4
      have : f.toInt + n.toInt ≤ (h.2.1 55 t.toInt.toNat).toInt := by
        split at e4
        · omega
        · split at e4 <;> omega
      rwa [decide_eq_true this, decide_eq_true (by omega : 0 ≤ f.toInt), decide_eq_true (by omega : 0 ≤ n.toInt)] at hQ
end SH
/-- what shift answers, and whether it copies -/
def shAns (S L : Nat → Int32) (t i o j n : Int32) : Int32 × Bool :=
  if ¬ (0 ≤ t.toInt ∧ t.toInt ≤ 5) then (-1, false) else if ¬ (0 ≤ o.toInt ∧ o.toInt ≤ 5) then (-1, false)
  else if (S t.toInt.toNat).toInt < 0 then (-11, false) else if (S o.toInt.toNat).toInt < 0 then (-11, false)
  else if ¬ (S t.toInt.toNat).toInt = (S o.toInt.toNat).toInt then (-12, false)
  else if ¬ (0 ≤ i.toInt ∧ 0 ≤ n.toInt ∧ i.toInt + n.toInt ≤ (L t.toInt.toNat).toInt) then (-13, false)
  else if ¬ (0 ≤ j.toInt ∧ 0 ≤ n.toInt ∧ j.toInt + n.toInt ≤ (L o.toInt.toNat).toInt) then (-13, false) else (n, true)
/-- one array's stretch copied into another's -/
def hpC (h : Hp) (a b sp dp n : Nat) : Hp := (h.1, h.2.1, (fun x => if x = a then va_cpy (h.2.2.1 b) (h.2.2.1 a) sp dp n else h.2.2.1 x), h.2.2.2)
/-- the tapes' rows and the yards stand where they were laid -/
def RX (h : Hp) : Prop := (∀ i, i < 6 → h.2.2.2 56 i = some (57 + i)) ∧ ∀ i, i < 6 → h.2.2.2 38 i = some (63 + 5 * i)
theorem sh_rows : ∀ i, i < 6 → SHl[57 + i]? = some (.inl (1, 60)) := by decide +kernel
section SH2
variable {X : Scr} {dp y pc p0 len t : Nat} {o : List Nat} {L st : List Value} {h : Hp} {Q : Option Value → Hp → Prop}
theorem e_aald {a n b t : Nat} {j : Int32} (he : pAt y pc = some (p0, .aaload, len, o)) (hs : HS h) (ha : (decide (a < 1000) && decide (SHl[a]? = some (.inl (t, n))) && (decide (t = 3) || decide (t = 4))) = true) (hj : inB j n = true) (hb : h.2.2.2 a j.toNatClampNeg = some b) (hb2 : b < 1000) (e : Ends X dp y (pc + 1) L (.ref b :: st) h Q) : Ends X dp y pc L (.int j :: .ref a :: st) h Q := by
  simp only [Bool.and_eq_true, decide_eq_true_eq, Bool.or_eq_true] at ha
  refine e_pure he rfl rfl ?_ e
  have hB := OLDB_eq
  have h6 : a < OLDB := by omega
  have h7 : b < OLDB := by omega
  simp only [hstep]
  rw [if_pos h6, hs.1, ha.1.2]
  simp only
  rw [if_pos ⟨ha.2, hj⟩, hb]
  simp only
  rw [if_pos h7]
theorem e_cpyL {a b m m' idx z w v : Nat} {n dpi sp : Int32} (he : pAt y pc = some (p0, .invokestatic idx, len, [9998, z, w, v, t])) (hs : HS h) (ha : a < 1000) (hb : b < 1000) (hsa : SHl[a]? = some (.inl (1, m))) (hsb : SHl[b]? = some (.inl (1, m'))) (h1 : 0 ≤ sp.toInt) (h2 : 0 ≤ dpi.toInt) (h3 : 0 ≤ n.toInt) (h4 : sp.toInt.toNat + n.toInt.toNat ≤ m') (h5 : dpi.toInt.toNat + n.toInt.toNat ≤ m)
    (e : Ends X dp y (pc + 3) L [] (hpC h a b sp.toInt.toNat dpi.toInt.toNat n.toInt.toNat) Q) : Ends X dp y pc L [.int n, .int dpi, .ref a, .int sp, .ref b] h Q := by
  have neg : ∀ x : Int32, 0 ≤ x.toInt → ¬ x < 0 := fun x hx q => by
    have := Int32.lt_iff_toInt_lt.mp q
    rw [z0] at this
    omega
  have hB := OLDB_eq
  have hc : copyA [.int n, .int dpi, .ref a, .int sp, .ref b] h = some ([], hpC h a b sp.toInt.toNat dpi.toInt.toNat n.toInt.toNat) := by
    have g : a < OLDB ∧ b < OLDB ∧ ¬ sp < 0 ∧ ¬ dpi < 0 ∧ ¬ n < 0 ∧ catSum [] ≤ 8 := ⟨by omega, by omega, neg _ h1, neg _ h2, neg _ h3, by decide⟩
    simp only [copyA]
    rw [if_pos g, hs.1, hsa, hsb]
    simp only
    have g2 : True ∧ sp.toNatClampNeg + n.toNatClampNeg ≤ m' ∧ dpi.toNatClampNeg + n.toNatClampNeg ≤ m := ⟨trivial, h4, h5⟩
    rw [if_pos g2, if_neg (by decide), if_pos trivial]
    unfold hpC
    rw [hs.1]
    rfl
  refine Ends.step he (isRet_none rfl) rfl (pc' := pc + 3) (L' := L) (st' := []) (h' := hpC h a b sp.toInt.toNat dpi.toInt.toNat n.toInt.toNat) ?_ e
  show (copyA [.int n, .int dpi, .ref a, .int sp, .ref b] h).map _ = _
  rw [hc]
  rfl
end SH2
