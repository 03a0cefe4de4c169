/-! Which way each goes; the class's way. -/
def zbt (S : Nat → Nat → Int) (f : Option Nat) (o : Nat) : Bool := match f with
  | none => true
  | some g => decide (S 4 g < S 4 o)
/-- the strongest of the others who run, among the first so many -/
def zsh (S : Nat → Nat → Int) (R : Nat → Bool) (p : Nat) : Nat → Option Nat
  | 0 => none
  | o + 1 => if ((R o && !decide (o = p)) && zbt S (zsh S R p o) o) = true then some o else zsh S R p o
def zshl (S : Nat → Nat → Int) (R : Nat → Bool) (p : Nat) (n : Nat) : Int := match zsh S R p n with
  | none => S 2 p
  | some o => S 2 o
def apt (a b : Int) : Int := if 0 ≤ a - b then a - b else -(a - b)
/-- where fewest reach, nearest first -/
def zsk (M : Nat → Nat) (own : Int) : Nat → Nat × Nat
  | 0 => (0, 99)
  | l + 1 => if (zsk M own l).2 < M l ∨ (M l = (zsk M own l).2 ∧ apt (zsk M own l).1 own ≤ apt l own) then zsk M own l else (l, M l)
/-- the way of one, as it is -/
def zway (S : Nat → Nat → Int) (Y : Int) (R : Nat → Bool) (M : Nat → Nat) (p : Nat) : Int := if S 0 p = 1 ∨ S 0 p = 4 then (if S 2 p ≤ 3 then 0 else 6) else if S 0 p = 2 then zshl S R p 7 else if S 0 p = 5 then (zsk M (S 2 p) 7).1 else if S 0 p = 6 then S 5 (4 * p + (Y % 4).toNat) else S 2 p
theorem zsk_b (M : Nat → Nat) (hM : ∀ l, M l ≤ 7) (own : Int) : ∀ l, (zsk M own l).1 ≤ 6 + l ∧ (0 < l → (zsk M own l).1 < l ∧ (zsk M own l).2 ≤ 7)
  | 0 => ⟨Nat.zero_le _, fun h => absurd h (Nat.lt_irrefl 0)⟩
  | l + 1 => by
    have i := zsk_b M hM own l
    have m := hM l
    unfold zsk
    split
    · rename_i c
      refine ⟨by omega, fun _ => ?_⟩
      by_cases z : l = 0
      · subst z
        unfold zsk at c
        simp only at c
        omega
      · have := i.2 (by omega)
        omega
    · exact ⟨by show l ≤ _; omega, fun _ => ⟨by show l < _; omega, m⟩⟩
section WAYS
variable {X : Scr} {Q : Option Value → Hp → Prop} {h : Hp}
theorem str_go {dp : Nat} {S : Nat → Nat → Int} {Y : Int} (hsr : SRG S) (hg : CG h S Y) (hh : HI h) (R : Nat → Bool) (pI oI : Int32) (p : Nat) (h7 : p < 7) (ho : BSET oI (fun x => R x && !decide (x = p))) (hQ : ∀ r : Int32, r.toInt = zshl S R p 7 → Q (some (.int r)) h) : ∀ (n q : Nat) (qI sI lI : Int32), q + n = 7 → qI.toInt = q → sI.toInt = (match zsh S R p q with | none => -1 | some g => S 4 g) → lI.toInt = zshl S R p q → Ends X (dp + 1) 16 27 [.ref 17, .int pI, .int oI, .int sI, .int lI, .int qI] [] h Q
  | n, q, qI, sI, lI, hn, hq, hs, hl => by
    have j7 : (7 : Int32).toInt = 7 := rfl
    refine w_str1 pI oI sI lI qI hh.hs ⟨fun e => ?_, fun e => ?_⟩
    · have e : (7 : Int32).toInt ≤ qI.toInt := of_decide_eq_true (cI e)
      have : q = 7 := by omega
      subst this
      exact hQ lI hl
    have e : ¬ (7 : Int32).toInt ≤ qI.toInt := of_decide_eq_false (cI e)
    have q7 : q < 7 := by omega
    have iq : inB qI 7 = true := inB_iff (by omega) (by omega)
    have en : qI.toNatClampNeg = q := by show qI.toInt.toNat = _; omega
    have n1 : (qI + 1).toInt = ((q + 1 : Nat) : Int) := by rw [i_add (by rw [i1]; omega) (by rw [i1]; omega), i1]; omega
    obtain ⟨n, rfl⟩ : ∃ k, n = k + 1 := ⟨n - 1, by omega⟩
    obtain ⟨g1, g2, g3, g4, g5⟩ := hg.1 q q7
    have sr := (hsr q q7).2.2.2.2
    refine isin_ok ho hq q7 hh.hs ⟨_, rfl, hh.hs, fun c => ?_, fun c => ⟨iq, fun c2 => ?_, fun c2 => ⟨iq, iq, ?_⟩⟩⟩
    · have c : (R q && !decide (q = p)) = false := cz c
      have st : zsh S R p (q + 1) = zsh S R p q := by
        rw [zsh, if_neg]
        intro z
        rw [c, Bool.false_and] at z
        exact absurd z Bool.false_ne_true
      exact str_go hsr hg hh R pI oI p h7 ho hQ n (q + 1) (qI + 1) sI lI (by omega) n1 (by rw [st]; exact hs) (by unfold zshl; rw [st]; exact hl)
    all_goals
      have c : (R q && !decide (q = p)) = true := cn c
      rw [en] at c2
    · have c2 : (h.2.1 23 q).toInt ≤ sI.toInt := of_decide_eq_true (cI c2)
      rw [g5] at c2
      have st : zsh S R p (q + 1) = zsh S R p q := by
        rw [zsh, if_neg]
        intro z
        rw [c, Bool.true_and] at z
        cases hz : zsh S R p q with
        | none =>
          rw [hz] at hs
          simp only at hs
          omega
        | some g =>
          rw [hz] at z hs
          have z : S 4 g < S 4 q := of_decide_eq_true z
          simp only at hs
          omega
      exact str_go hsr hg hh R pI oI p h7 ho hQ n (q + 1) (qI + 1) sI lI (by omega) n1 (by rw [st]; exact hs) (by unfold zshl; rw [st]; exact hl)
    · have c2 : ¬ (h.2.1 23 q).toInt ≤ sI.toInt := of_decide_eq_false (cI c2)
      rw [g5] at c2
      have st : zsh S R p (q + 1) = some q := by
        rw [zsh, if_pos]
        rw [c, Bool.true_and]
        cases hz : zsh S R p q with
        | none => rfl
        | some g =>
          rw [hz] at hs
          simp only at hs
          exact decide_eq_true (by omega)
      rw [en]
      exact str_go hsr hg hh R pI oI p h7 ho hQ n (q + 1) (qI + 1) _ _ (by omega) n1 (by rw [st]; exact g5) (by unfold zshl; rw [st]; exact g3)
theorem str_ok {dp : Nat} {S : Nat → Nat → Int} {Y : Int} (hsr : SRG S) (hg : CG h S Y) (hh : HI h) (R : Nat → Bool) (pI : Int32) (p : Nat) (hp : pI.toInt = p) (h7 : p < 7) (hR : BSET (h.2.1 17 11) R) (hQ : ∀ r : Int32, r.toInt = zshl S R p 7 → Q (some (.int r)) h) : Ends X (dp + 1) 16 0 [.ref 17, .int pI, .retAddr 0, .retAddr 0, .retAddr 0, .retAddr 0] [] h Q := by
  have en : pI.toNatClampNeg = p := by show pI.toInt.toNat = _; omega
  refine w_str0 pI hh.hs ⟨inB_iff (by omega) (by omega), ?_⟩
  rw [en]
  exact str_go hsr hg hh R pI _ p h7 (hR.no (BSET.one hp h7)) hQ 7 0 0 (-1) _ (by decide) rfl rfl (hg.1 p h7).2.2.1
theorem lon_go {dp : Nat} (hh : HI h) (Z : Nat → Nat → Bool) (hB : ∀ j, j < 7 → BSET (h.2.1 32 j) (Z j)) (oI : Int32) (own : Int) (ho : oI.toInt = own) (o0 : 0 ≤ own) (o6 : own ≤ 6) (hQ : ∀ r : Int32, r.toInt = (zsk (fun l => pop (Z l)) own 7).1 → Q (some (.int r)) h) : ∀ (n l : Nat) (bI fI' nI lI : Int32) (x y : Value), l + n = 7 → lI.toInt = l → bI.toInt = (zsk (fun l => pop (Z l)) own l).1 → fI'.toInt = (if l = 0 then 8 else (zsk (fun l => pop (Z l)) own l).2 : Nat) → nI.toInt = (if l = 0 then 7 else apt (zsk (fun l => pop (Z l)) own l).1 own) → Ends X (dp + 1) 17 12 [.ref 17, .int oI, .int bI, .int fI', .int nI, .int lI, x, y] [] h Q
  | n, l, bI, fI', nI, lI, x, y, hn, hl, hb, hf, hnr => by
    have j7 : (7 : Int32).toInt = 7 := rfl
    refine w_lon1 oI bI fI' nI lI x y hh.hs ⟨fun e => ?_, fun e => ?_⟩
    · have e : (7 : Int32).toInt ≤ lI.toInt := of_decide_eq_true (cI e)
      have : l = 7 := by omega
      subst this
      exact hQ bI hb
    have e : ¬ (7 : Int32).toInt ≤ lI.toInt := of_decide_eq_false (cI e)
    have l7 : l < 7 := by omega
    have il : inB lI 7 = true := inB_iff (by omega) (by omega)
    have en : lI.toNatClampNeg = l := by show lI.toInt.toNat = _; omega
    have n1 : (lI + 1).toInt = ((l + 1 : Nat) : Int) := by rw [i_add (by rw [i1]; omega) (by rw [i1]; omega), i1]; omega
    obtain ⟨n, rfl⟩ : ∃ k, n = k + 1 := ⟨n - 1, by omega⟩
    have dv : (lI - oI).toInt = (l : Int) - own := by rw [i_sub (by omega) (by omega), hl, ho]
    have zb := zsk_b (fun l => pop (Z l)) (fun l => pop_le _) own l
    refine ⟨il, ?_⟩
    rw [en]
    refine bct_ok (hB l l7) hh.hs (fun r4 h4 => ⟨r4, rfl, hh.hs, abs_ok hh.hs (by omega) (fun r7 hr7 => ⟨r7, rfl, hh.hs, ?_⟩)⟩)
    rw [dv] at hr7
    have hr7 : r7.toInt = apt l own := hr7
    have m7 := pop_le (Z l)
    have upd : (r4.toInt < fI'.toInt ∨ (r4.toInt = fI'.toInt ∧ r7.toInt < nI.toInt)) → Ends X (dp + 1) 17 12 [.ref 17, .int oI, .int lI, .int r4, .int r7, .int (lI + 1), .int r4, .int r7] [] h Q := by
      intro c
      have st : zsk (fun l => pop (Z l)) own (l + 1) = (l, pop (Z l)) := by
        rw [zsk, if_neg]
        by_cases z : l = 0
        · subst z
          unfold zsk
          simp only
          omega
        · rw [if_neg z] at hf hnr
          omega
      refine lon_go hh Z hB oI own ho o0 o6 hQ n (l + 1) lI r4 r7 (lI + 1) _ _ (by omega) n1 ?_ ?_ ?_
      · rw [st]; exact hl
      · rw [if_neg (by omega), st]; exact h4
      · rw [if_neg (by omega), st]; exact hr7
    have keep : ¬ (r4.toInt < fI'.toInt ∨ (r4.toInt = fI'.toInt ∧ r7.toInt < nI.toInt)) → Ends X (dp + 1) 17 12 [.ref 17, .int oI, .int bI, .int fI', .int nI, .int (lI + 1), .int r4, .int r7] [] h Q := by
      intro c
      have z : ¬ l = 0 := by
        intro z
        rw [if_pos z] at hf
        omega
      rw [if_neg z] at hf hnr
      have st : zsk (fun l => pop (Z l)) own (l + 1) = zsk (fun l => pop (Z l)) own l := by
        rw [zsk, if_pos]
        omega
      refine lon_go hh Z hB oI own ho o0 o6 hQ n (l + 1) bI fI' nI (lI + 1) _ _ (by omega) n1 ?_ ?_ ?_
      · rw [st]; exact hb
      · rw [if_neg (by omega), st]; exact hf
      · rw [if_neg (by omega), st]; exact hnr
    refine ⟨fun c => upd (Or.inl ?_), fun c => ⟨fun c2 => keep ?_, fun c2 => ⟨fun c3 => keep ?_, fun c3 => upd (Or.inr ?_)⟩⟩⟩
    · exact of_decide_eq_true (cI c)
    · have c : ¬ r4.toInt < fI'.toInt := of_decide_eq_false (cI c)
      have c2 : ¬ r4.toInt = fI'.toInt := of_decide_eq_true (cI c2)
      omega
    · have c : ¬ r4.toInt < fI'.toInt := of_decide_eq_false (cI c)
      have c3 : nI.toInt ≤ r7.toInt := of_decide_eq_true (cI c3)
      omega
    · have c2 : ¬ ¬ r4.toInt = fI'.toInt := of_decide_eq_false (cI c2)
      have c3 : ¬ nI.toInt ≤ r7.toInt := of_decide_eq_false (cI c3)
      omega
theorem lon_ok {dp : Nat} (hh : HI h) (Z : Nat → Nat → Bool) (hB : ∀ j, j < 7 → BSET (h.2.1 32 j) (Z j)) (oI : Int32) (own : Int) (ho : oI.toInt = own) (o0 : 0 ≤ own) (o6 : own ≤ 6) (hQ : ∀ r : Int32, r.toInt = (zsk (fun l => pop (Z l)) own 7).1 → Q (some (.int r)) h) : Ends X (dp + 1) 17 0 [.ref 17, .int oI, .retAddr 0, .retAddr 0, .retAddr 0, .retAddr 0, .retAddr 0, .retAddr 0] [] h Q :=
  w_lon0 oI hh.hs (lon_go hh Z hB oI own ho o0 o6 hQ 7 0 0 8 7 0 _ _ (by decide) rfl rfl rfl rfl)
theorem way_ok {dp : Nat} {S : Nat → Nat → Int} {Y : Int} (hsr : SRG S) (hg : CG h S Y) (hh : HI h) (R : Nat → Bool) (Z : Nat → Nat → Bool) (hB : ∀ j, j < 7 → BSET (h.2.1 32 j) (Z j)) (pI : Int32) (p : Nat) (hp : pI.toInt = p) (h7 : p < 7) (hR : BSET (h.2.1 17 11) R) (hY0 : 0 ≤ Y) (hQ : ∀ r : Int32, r.toInt = zway S Y R (fun l => pop (Z l)) p → Q (some (.int r)) h) : Ends X (dp + 1 + 1) 15 0 [.ref 17, .int pI, .retAddr 0] [] h Q := by
  have en : pI.toNatClampNeg = p := by show pI.toInt.toNat = _; omega
  have ip : inB pI 7 = true := inB_iff (by omega) (by omega)
  obtain ⟨g1, g2, g3, g4, g5⟩ := hg.1 p h7
  have sr := hsr p h7
  have j3 : (3 : Int32).toInt = 3 := rfl
  have j4 : (4 : Int32).toInt = 4 := rfl
  unfold zway at hQ
  refine w_way pI hh.hs ⟨ip, ip, ?_⟩
  rw [en, g1]
  refine ⟨fun c => ?_, fun c => ⟨fun e => ?_, fun e => ?_⟩, fun c => ?_, fun c => ?_, fun c => ⟨fun e => ?_, fun e => ?_⟩, fun c => ?_, fun c => ?_⟩
  · rw [if_neg (by omega), if_neg (by omega), if_neg (by omega), if_neg (by omega)] at hQ
    exact hQ _ g3
  · have e : (3 : Int32).toInt < (h.2.1 21 p).toInt := of_decide_eq_true (cI e)
    rw [if_pos (Or.inl c), if_neg (by omega)] at hQ
    exact hQ 6 rfl
  · have e : ¬ (3 : Int32).toInt < (h.2.1 21 p).toInt := of_decide_eq_false (cI e)
    rw [if_pos (Or.inl c), if_pos (by omega)] at hQ
    exact hQ 0 rfl
  · rw [if_neg (by omega), if_pos c] at hQ
    exact str_ok hsr hg hh R pI p hp h7 hR (fun r hr => ⟨r, rfl, hh.hs, hQ r hr⟩)
  · rw [if_neg (by omega), if_neg (by omega), if_neg (by omega), if_neg (by omega)] at hQ
    exact hQ _ g3
  · have e : (3 : Int32).toInt < (h.2.1 21 p).toInt := of_decide_eq_true (cI e)
    rw [if_pos (Or.inr c), if_neg (by omega)] at hQ
    exact hQ 6 rfl
  · have e : ¬ (3 : Int32).toInt < (h.2.1 21 p).toInt := of_decide_eq_false (cI e)
    rw [if_pos (Or.inr c), if_pos (by omega)] at hQ
    exact hQ 0 rfl
  · rw [if_neg (by omega), if_neg (by omega), if_pos c] at hQ
    exact lon_ok hh Z hB _ (S 2 p) g3 sr.2.2.1.1 sr.2.2.1.2 (fun r hr => ⟨r, rfl, hh.hs, hQ r hr⟩)
  · rw [if_neg (by omega), if_neg (by omega), if_neg (by omega), if_pos c] at hQ
    refine fm_ok _ 4 hh.hs (by decide) (fun r hr => ⟨r, rfl, hh.hs, ?_⟩)
    rw [j4, hg.2.2] at hr
    have m4 : (pI * 4).toInt = 4 * (p : Int) := by rw [i_mul (by rw [j4]; omega) (by rw [j4]; omega), j4]; omega
    have a4 : (pI * 4 + r).toInt = 4 * (p : Int) + Y % 4 := by rw [i_add (by omega) (by omega), m4, hr]
    refine ⟨inB_iff (by omega) (by omega), ?_⟩
    have e4 : (pI * 4 + r).toNatClampNeg = 4 * p + (Y % 4).toNat := by show (pI * 4 + r).toInt.toNat = _; omega
    rw [e4]
    exact hQ _ (hg.2.1 _ (by omega))
end WAYS
