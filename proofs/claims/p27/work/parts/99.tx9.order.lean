/-! Who goes when; the class's way. -/
theorem tws {f : Int32 → Bool} : ∀ {l : List Int32}, (∀ j, j < (l.takeWhile f).length → f (l.getD j 0) = true) ∧ ((l.takeWhile f).length = l.length ∨ f (l.getD (l.takeWhile f).length 0) = false) ∧ (l.takeWhile f).length ≤ l.length
  | [] => ⟨fun j hj => absurd hj (Nat.not_lt_zero j), Or.inl rfl, Nat.le_refl _⟩
  | x :: l => by
    obtain ⟨i1, i2, i3⟩ := tws (f := f) (l := l)
    cases c : f x with
    | true =>
      rw [List.takeWhile_cons_of_pos c]
      refine ⟨fun j hj => ?_, ?_, ?_⟩
      · match j with
        | 0 => exact c
        | j + 1 => exact i1 j (by rw [List.length_cons] at hj; omega)
      · rcases i2 with i2 | i2
        · exact Or.inl (by rw [List.length_cons, List.length_cons, i2])
        · exact Or.inr i2
      · rw [List.length_cons, List.length_cons]; omega
    | false =>
      rw [List.takeWhile_cons_of_neg (by rw [c]; exact Bool.false_ne_true)]
      exact ⟨fun j hj => absurd hj (Nat.not_lt_zero j), Or.inr c, Nat.zero_le _⟩
/-- one behind another, all of them -/
def PWR (r : Int32 → Int32 → Prop) (l : List Int32) : Prop := ∀ i j, i < j → j < l.length → r (l.getD i 0) (l.getD j 0)
theorem PWR.ins {r : Int32 → Int32 → Prop} {l : List Int32} {k : Nat} {p : Int32} (h : PWR r l) (hk : k ≤ l.length) (h1 : ∀ i, i < k → r (l.getD i 0) p) (h2 : ∀ j, k ≤ j → j < l.length → r p (l.getD j 0)) : PWR r (ins l k p) := by
  intro i j hij hj
  rw [ins_len hk] at hj
  rw [ins_get hk i, ins_get hk j]
  by_cases a : i < k
  · rw [if_pos a]
    by_cases b : j < k
    · rw [if_pos b]
      exact h i j hij (by omega)
    · rw [if_neg b]
      by_cases c : j = k
      · rw [if_pos c]
        exact h1 i a
      · rw [if_neg c]
        exact h i (j - 1) (by omega) (by omega)
  · rw [if_neg a]
    by_cases b : i = k
    · rw [if_pos b, if_neg (by omega), if_neg (by omega)]
      exact h2 (j - 1) (by omega) (by omega)
    · rw [if_neg b, if_neg (by omega), if_neg (by omega)]
      exact h (i - 1) (j - 1) (by omega) (by omega)
def zhst (S : Nat → Nat → Int) (p : Nat) : Int := if S 0 p = 3 ∨ S 0 p = 6 then S 3 p else S 3 p + 10
def zpos (H : Nat → Int) (l : List Int32) (p : Nat) : Nat := (l.takeWhile (fun a => decide (H p ≤ H a.toInt.toNat))).length
def zst (H : Nat → Int) (R : Nat → Bool) (fo : Int) (l : List Int32) (p : Nat) : List Int32 := if (R p && !decide ((p : Int) = fo)) = true then ins l (zpos H l p) (Int32.ofNat p) else l
/-- the row behind the first n of the people -/
def zlay (H : Nat → Int) (R : Nat → Bool) (fo : Int) : Nat → List Int32
  | 0 => []
  | n + 1 => zst H R fo (zlay H R fo n) n
def zidx (l : List Int32) (le : Int) : Nat := (l.takeWhile (fun a => !decide (a.toInt = le))).length
/-- the whole row -/
def zord (H : Nat → Int) (R : Nat → Bool) (fo le : Int) : List Int32 := if 0 ≤ fo then ins (zlay H R fo 7) (zidx (zlay H R fo 7) le + 1) (Int32.ofNat fo.toNat) else zlay H R fo 7
theorem zpos_le {H : Nat → Int} {l : List Int32} {p : Nat} : zpos H l p ≤ l.length := tws.2.2
theorem zlay_len (H : Nat → Int) (R : Nat → Bool) (fo : Int) : ∀ n, (zlay H R fo n).length + (if 0 ≤ fo ∧ fo < n then 1 else 0) ≤ n
  | 0 => by
    rw [if_neg (by omega)]
    exact Nat.le_refl _
  | n + 1 => by
    have i := zlay_len H R fo n
    show (zst H R fo (zlay H R fo n) n).length + _ ≤ _
    unfold zst
    by_cases c : (R n && !decide ((n : Int) = fo)) = true
    · have c2 := (Bool.and_eq_true _ _ ▸ c : R n = true ∧ (!decide ((n : Int) = fo)) = true).2
      have c3 : ¬ (n : Int) = fo := by
        intro z
        rw [decide_eq_true z] at c2
        cases c2
      rw [if_pos c, ins_len zpos_le]
      split at i
      · rw [if_pos (by omega)]; omega
      · rw [if_neg (by omega)]; omega
    · rw [if_neg c]
      split at i
      · rw [if_pos (by omega)]; omega
      · split <;> omega
theorem i32n {n : Nat} (h : n < 128) : (Int32.ofNat n).toInt = n := Int32.toInt_ofNat_of_lt (by omega)
theorem zmem (H : Nat → Int) (R : Nat → Bool) (fo : Int) : ∀ (n : Nat), n ≤ 7 → ∀ a, a ∈ zlay H R fo n ↔ ∃ i, i < n ∧ a = Int32.ofNat i ∧ R i = true ∧ ¬ (i : Int) = fo
  | 0, _, a => ⟨fun h => (by cases h), fun ⟨i, hi, _⟩ => absurd hi (Nat.not_lt_zero i)⟩
  | n + 1, h7, a => by
    have ih := zmem H R fo n (by omega) a
    show a ∈ zst H R fo (zlay H R fo n) n ↔ _
    unfold zst
    by_cases c : (R n && !decide ((n : Int) = fo)) = true
    · rw [if_pos c, mem_ins, ih]
      rw [Bool.and_eq_true] at c
      have c3 : ¬ (n : Int) = fo := by
        intro z
        rw [decide_eq_true z] at c
        exact absurd c.2 (by decide)
      constructor
      · rintro (⟨i, h1, h2⟩ | h)
        · exact ⟨i, by omega, h2⟩
        · exact ⟨n, by omega, h, c.1, c3⟩
      · rintro ⟨i, h1, h2, h3⟩
        by_cases d : i = n
        · exact Or.inr (by rw [h2, d])
        · exact Or.inl ⟨i, by omega, h2, h3⟩
    · rw [if_neg c, ih]
      constructor
      · rintro ⟨i, h1, h2⟩
        exact ⟨i, by omega, h2⟩
      · rintro ⟨i, h1, h2, h3, h4⟩
        by_cases d : i = n
        · subst d
          rw [h3, decide_eq_false h4] at c
          exact absurd rfl c
        · exact ⟨i, by omega, h2, h3, h4⟩
theorem gmem {l : List Int32} {j : Nat} (h : j < l.length) : l.getD j 0 ∈ l := by
  rw [List.getD_eq_getElem?_getD, List.getElem?_eq_getElem h]
  exact List.getElem_mem h
/-- in order, and nobody twice -/
theorem zlay_pw (H : Nat → Int) (R : Nat → Bool) (fo : Int) : ∀ n, n ≤ 7 → PWR (fun a b => H b.toInt.toNat ≤ H a.toInt.toNat ∧ a ≠ b) (zlay H R fo n)
  | 0, _ => fun i j _ hj => absurd hj (Nat.not_lt_zero j)
  | n + 1, h7 => by
    have ih := zlay_pw H R fo n (by omega)
    show PWR _ (zst H R fo (zlay H R fo n) n)
    unfold zst
    by_cases c : (R n && !decide ((n : Int) = fo)) = true
    · rw [if_pos c]
      obtain ⟨t1, t2, t3⟩ := tws (f := fun a => decide (H n ≤ H a.toInt.toNat)) (l := zlay H R fo n)
      have en := i32n (by omega : n < 128)
      have ne : ∀ j, j < (zlay H R fo n).length → (zlay H R fo n).getD j 0 ≠ Int32.ofNat n := by
        intro j hj q
        obtain ⟨i, h1, h2, _⟩ := (zmem H R fo n (by omega) _).mp (gmem hj)
        rw [q] at h2
        have := congrArg Int32.toInt h2
        rw [en, i32n (by omega)] at this
        omega
      refine PWR.ins ih zpos_le (fun i hi => ⟨?_, ne i (Nat.lt_of_lt_of_le hi zpos_le)⟩) (fun j hj hl => ⟨?_, fun q => ne j hl q.symm⟩)
      · rw [en]
        exact of_decide_eq_true (t1 i hi)
      · rw [en]
        rcases t2 with t2 | t2
        · exfalso
          have : zpos H (zlay H R fo n) n = (zlay H R fo n).length := t2
          omega
        · have t2 := of_decide_eq_false t2
          have t2 : ¬ H n ≤ H (((zlay H R fo n).getD (zpos H (zlay H R fo n) n) 0).toInt.toNat) := t2
          have e : Int.toNat (n : Int) = n := rfl
          rw [e]
          by_cases d : j = zpos H (zlay H R fo n) n
          · rw [d]; omega
          · have := (ih (zpos H (zlay H R fo n) n) j (by omega) hl).1
            omega
    · rw [if_neg c]
      exact ih
theorem iv_37 : ∀ k, k < 7 → ivl 37 k = (0, 6) := by
  have : ((List.range 7).all (fun k => decide (ivl 37 k = (0, 6)))) = true := by decide +kernel
  exact fun k hk => of_decide_eq_true (List.all_eq_true.mp this k (List.mem_range.mpr hk))
theorem HI_37 {h : Hp} {k : Nat} {x : Int32} (hh : HI h) (hk : k < 7) (h0 : 0 ≤ x.toInt) (h6 : x.toInt ≤ 6) : HI (hpI h 37 k x) := HI_put hh (by rw [iv_37 k hk]; exact h0) (by rw [iv_37 k hk]; exact h6)
def WOD : List (Nat × Nat) := [(37, 999)]
theorem WOD_X {h h' : Hp} (hf : frm WOD h h') : frm WCX h h' := frm_sub (V := WOD) (by decide) hf
theorem WOD_in {k : Nat} : inW WOD 37 k = true := by simp [inW, WOD]
/-- the class's row -/
def OLC (h : Hp) (l : List Int32) : Prop := ∀ j, j < l.length → h.2.1 37 j = l.getD j 0
section ORD
variable {X : Scr} {Q : Option Value → Hp → Prop}
theorem mn6_ok {dp : Nat} {h : Hp} (mI : Int32) (hm : mI.toInt ≤ 6) (hs : HS h) (hQ : Q (some (.int mI)) h) : Ends X dp 208 0 [.int mI, .int 6] [] h Q := by
  have j6 : (6 : Int32).toInt = 6 := rfl
  refine w_min mI 6 hs ?_
  refine ⟨fun e => ?_, fun e => hQ⟩
  exfalso
  have e : (6 : Int32).toInt < mI.toInt := of_decide_eq_true (cI e)
  omega
theorem hst_ok {dp : Nat} {h : Hp} {S : Nat → Nat → Int} {Y : Int} (hsr : SRG S) (hg : CG h S Y) (hh : HI h) (pI : Int32) (p : Nat) (hp : pI.toInt = p) (h7 : p < 7) (hQ : ∀ r : Int32, r.toInt = zhst S p → Q (some (.int r)) h) : Ends X dp 23 0 [.ref 17, .int pI, .retAddr 0] [] h Q := by
  have ip : inB pI 7 = true := inB_iff (by omega) (by omega)
  have en : pI.toNatClampNeg = p := by show pI.toInt.toNat = _; omega
  obtain ⟨g1, g2, g3, g4, g5⟩ := hg.1 p h7
  have sr := hsr p h7
  have j3 : (3 : Int32).toInt = 3 := rfl
  have j6 : (6 : Int32).toInt = 6 := rfl
  have j9 : (9 : Int32).toInt = 9 := rfl
  unfold zhst at hQ
  refine w_hst pI hh.hs ⟨ip, ?_⟩
  rw [en]
  refine ⟨fun c => ⟨ip, ?_⟩, fun c => ⟨ip, fun c2 => ⟨ip, ?_⟩, fun c2 => ⟨ip, ?_⟩⟩⟩
  · have c : (h.2.1 19 p).toInt = (3 : Int32).toInt := of_decide_eq_true (cI c)
    rw [if_pos (Or.inl (by omega))] at hQ
    exact hQ _ g4
  · have c : ¬ (h.2.1 19 p).toInt = (3 : Int32).toInt := of_decide_eq_false (cI c)
    have c2 : ¬ (h.2.1 19 p).toInt = (6 : Int32).toInt := of_decide_eq_true (cI c2)
    rw [if_neg (by omega)] at hQ
    have s1 : (h.2.1 22 p + 9).toInt = S 3 p + 9 := by rw [i_add (by omega) (by omega), g4, j9]
    refine hQ _ ?_
    rw [i_add (by rw [i1]; omega) (by rw [i1]; omega), s1, i1]
    omega
  · have c2 : ¬ ¬ (h.2.1 19 p).toInt = (6 : Int32).toInt := of_decide_eq_false (cI c2)
    rw [if_pos (Or.inr (by omega))] at hQ
    exact hQ _ g4
/-- the places from a on stand one further behind -/
def SHF (h : Hp) (l : List Int32) (a : Nat) : Prop := (∀ j, j < a → h.2.1 37 j = l.getD j 0) ∧ ∀ j, a < j → j ≤ l.length → h.2.1 37 j = l.getD (j - 1) 0
theorem SHF.end {h : Hp} {l : List Int32} {a : Nat} {p : Int32} (hs : SHF h l a) (ha : a ≤ l.length) : OLC (hpI h 37 a p) (ins l a p) := by
  intro j hj
  rw [ins_len ha] at hj
  rw [ins_get ha, put_if]
  by_cases c : j = a
  · rw [if_pos c, if_neg (by omega), if_pos c]
  · rw [if_neg c]
    by_cases d : j < a
    · rw [if_pos d]
      exact hs.1 j d
    · rw [if_neg d, if_neg c]
      exact hs.2 j (by omega) (by omega)
theorem SHF.on {h : Hp} {l : List Int32} {a : Nat} (hs : SHF h l (a + 1)) : SHF (hpI h 37 (a + 1) (h.2.1 37 a)) l a := by
  refine ⟨fun j hj => ?_, fun j h1 h2 => ?_⟩
  · rw [put_ne (by omega)]
    exact hs.1 j (by omega)
  · rw [put_if]
    by_cases c : j = a + 1
    · rw [if_pos c, c]
      exact hs.1 a (by omega)
    · rw [if_neg c]
      exact hs.2 j (by omega) h2
theorem stp_go {dp : Nat} {S : Nat → Nat → Int} {Y : Int} (hsr : SRG S) (pI mI : Int32) (p : Nat) (hp : pI.toInt = p) (h7 : p < 7) (l : List Int32) (hl : l.length ≤ 6) (hel : ∀ j, j < l.length → 0 ≤ (l.getD j 0).toInt ∧ (l.getD j 0).toInt ≤ 6) (hpw : PWR (fun a b => zhst S b.toInt.toNat ≤ zhst S a.toInt.toNat ∧ a ≠ b) l) : ∀ (k a : Nat) (aI : Int32) (h : Hp), a = zpos (zhst S) l p + k → aI.toInt = a → a ≤ l.length → HI h → CG h S Y → SHF h l a → (∀ h', HI h' → frm WOD h h' → OLC h' (ins l (zpos (zhst S) l p) pI) → Q (some (.int (mI + 1))) h') → Ends X (dp + 1) 21 7 [.ref 17, .int pI, .int mI, .int aI] [] h Q
  | k, a, aI, h, hk, ha, hal, hh, hg, hsh, hQ => by
    obtain ⟨t1, t2, t3⟩ := tws (f := fun x => decide (zhst S p ≤ zhst S x.toInt.toNat)) (l := l)
    have ia : inB aI 7 = true := inB_iff (by omega) (by omega)
    have ea : aI.toNatClampNeg = a := by show aI.toInt.toNat = _; omega
    have z0' : (0 : Int32).toInt = 0 := rfl
    refine w_stp1 pI mI aI hh.hs ⟨fun e => ⟨ia, ?_⟩, fun e => ?_⟩
    · have e : aI.toInt ≤ (0 : Int32).toInt := of_decide_eq_true (cI e)
      rw [ea]
      have : a = zpos (zhst S) l p := by omega
      refine hQ _ (HI_37 hh (by omega) (by omega) (by omega)) (frm_put frm_refl WOD_in) ?_
      rw [← this]
      exact hsh.end hal
    have e : ¬ aI.toInt ≤ (0 : Int32).toInt := of_decide_eq_false (cI e)
    obtain ⟨b, rfl⟩ : ∃ b, a = b + 1 := ⟨a - 1, by omega⟩
    have d1 : (aI - 1).toInt = b := by rw [i_sub (by rw [i1]; omega) (by rw [i1]; omega), i1]; omega
    have ib : inB (aI - 1) 7 = true := inB_iff (by omega) (by omega)
    have eb : (aI - 1).toNatClampNeg = b := by show (aI - 1).toInt.toNat = _; omega
    have cb := hsh.1 b (Nat.lt_succ_self b)
    have rb := hel b (by omega)
    have b7 : b + 1 < 7 := by omega
    refine ⟨ib, ?_⟩
    rw [ea, eb, cb]
    obtain ⟨x, hx⟩ : ∃ x : Nat, (l.getD b 0).toInt = x := ⟨(l.getD b 0).toInt.toNat, by omega⟩
    have ex : (l.getD b 0).toInt.toNat = x := by omega
    refine hst_ok hsr hg hh _ x hx (by omega) (fun r5 h5 => ⟨r5, rfl, hh.hs, hst_ok hsr hg hh pI p hp h7 (fun r8 h8 => ⟨r8, rfl, hh.hs, fun c => ⟨ia, ?_⟩, fun c => ⟨ib, ia, ?_⟩⟩)⟩)
    · have c : r8.toInt ≤ r5.toInt := of_decide_eq_true (cI c)
      have : b + 1 = zpos (zhst S) l p := by
        apply Decidable.byContradiction
        intro q
        have q2 : zpos (zhst S) l p ≤ b := by omega
        rcases t2 with t2 | t2
        · have : zpos (zhst S) l p = l.length := t2
          omega
        · have t2 : ¬ zhst S p ≤ zhst S ((l.getD (zpos (zhst S) l p) 0).toInt.toNat) := of_decide_eq_false t2
          by_cases d : zpos (zhst S) l p = b
          · rw [d, ex] at t2
            omega
          · have := (hpw (zpos (zhst S) l p) b (by omega) (by omega)).1
            rw [ex] at this
            omega
      refine hQ _ (HI_37 hh (by omega) (by omega) (by omega)) (frm_put frm_refl WOD_in) ?_
      rw [← this]
      exact hsh.end hal
    · have c : ¬ r8.toInt ≤ r5.toInt := of_decide_eq_false (cI c)
      have hkb : zpos (zhst S) l p ≤ b := by
        apply Decidable.byContradiction
        intro q
        have := of_decide_eq_true (t1 b (by show b < zpos (zhst S) l p; omega))
        rw [ex] at this
        omega
      have f1 : frm WOD h (hpI h 37 (b + 1) (h.2.1 37 b)) := frm_put frm_refl WOD_in
      have am : (aI + (-1)).toInt = b := by rw [i_add (by rw [im1]; omega) (by rw [im1]; omega), im1]; omega
      have g37 : HI (hpI h 37 (b + 1) (h.2.1 37 b)) := HI_37 hh b7 (by rw [cb]; exact rb.1) (by rw [cb]; exact rb.2)
      match k, hk with
      | 0, hk => omega
      | k + 1, hk => exact stp_go hsr pI mI p hp h7 l hl hel hpw k b (aI + (-1)) _ (Nat.succ.inj hk) am (Nat.le_of_succ_le hal) g37 (hg.fr (WOD_X f1)) hsh.on (fun h' g1 g2 g3 => hQ h' g1 (frm_trans f1 g2) g3)
end ORD
