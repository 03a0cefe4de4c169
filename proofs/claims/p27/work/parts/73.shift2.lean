/-! shift of both sides, exactly: the walks. -/
theorem m1 : (-1 : Int32).toInt = -1 := rfl
theorem nb {b : Bool} : ¬ (b2i b).toInt = 0 ↔ b = true := by rw [b2i_z, Bool.not_eq_false]
theorem cz {b : Bool} (h : condB .eq (b2i b) 0 = true) : b = false := b2i_z.mp (of_decide_eq_true (cI h))
theorem cn {b : Bool} (h : condB .eq (b2i b) 0 = false) : b = true := nb.mp (of_decide_eq_false (cI h))
theorem cz2 {b : Bool} (h : condB .ne (b2i b) 0 = false) : b = false := b2i_z.mp (Decidable.not_not.mp (of_decide_eq_false (cI h)))
theorem cn2 {b : Bool} (h : condB .ne (b2i b) 0 = true) : b = true := nb.mp (of_decide_eq_true (cI h))
theorem csh_ok {X : Scr} {dp : Nat} {h : Hp} {Q : Option Value → Hp → Prop} (t i o j n : Int32) (hh : HI h) (hr : RX h)
    (hQ : Q (some (.int (shAns (h.2.1 54) (h.2.1 55) t i o j n).1)) (if (shAns (h.2.1 54) (h.2.1 55) t i o j n).2 = true then hpC h (57 + o.toInt.toNat) (57 + t.toInt.toNat) i.toInt.toNat j.toInt.toNat n.toInt.toNat else h)) :
    Ends X (dp + 1 + 1) 98 0 [.ref 0, .int t, .int i, .int o, .int j, .int n] [] h Q := by
  have hs := hh.hs
  unfold shAns at hQ
  refine w_csh t i o j n hs (cex_ok t hs ⟨_, rfl, hs, fun e1 => ?_, fun e1 => cex_ok o hs ⟨_, rfl, hs, fun e2 => ?_, fun e2 => ?_⟩⟩)
  · have e1 := cz e1
    rw [if_pos (by simpa using e1)] at hQ
    exact hQ
  · have e1 := cn e1
    have e2 := cn2 e2
    rw [Bool.and_eq_true, decide_eq_true_eq, decide_eq_true_eq] at e1 e2
    rw [if_neg (Decidable.not_not.mpr e1), if_neg (Decidable.not_not.mpr e2)] at hQ
    have hst := hh.iv 54 t.toInt.toNat (r := (-1, 4)) rfl
    have hso := hh.iv 54 o.toInt.toNat (r := (-1, 4)) rfl
    simp only at hst hso
    refine ⟨inB_iff (by omega) (by omega), fun e3 => ?_, fun e3 => ⟨inB_iff (by omega) (by omega), fun e4 => ⟨inB_iff (by omega) (by omega), inB_iff (by omega) (by omega), fun e5 => ?_, fun e5 => ?_⟩, fun e4 => ?_⟩⟩
    · have e3 : (h.2.1 54 t.toInt.toNat).toInt = -1 := of_decide_eq_true (cI e3)
      rw [if_pos (by omega)] at hQ
      exact hQ
    · have e3 : ¬ (h.2.1 54 t.toInt.toNat).toInt = -1 := of_decide_eq_false (cI e3)
      have e4 : ¬ (h.2.1 54 o.toInt.toNat).toInt = -1 := of_decide_eq_true (cI e4)
      have e5 : (h.2.1 54 t.toInt.toNat).toInt = (h.2.1 54 o.toInt.toNat).toInt := of_decide_eq_true (cI e5)
      rw [if_neg (by omega), if_neg (by omega), if_neg (Decidable.not_not.mpr e5)] at hQ
      refine cpt_ok t i n hh ⟨_, rfl, hs, fun e6 => ?_, fun e6 => cpt_ok o j n hh ⟨_, rfl, hs, fun e7 => ?_, fun e7 => ?_⟩⟩
      · have e6 := cz e6
        rw [decide_eq_true e1.1, decide_eq_true e1.2] at e6
        simp only [Bool.true_and, Bool.and_eq_false_iff, decide_eq_false_iff_not] at e6
        rw [if_pos (by omega)] at hQ
        exact hQ
      · have e6 := cn e6
        have e7 := cn2 e7
        simp only [Bool.and_eq_true, decide_eq_true_eq] at e6 e7
        rw [if_neg (by omega), if_neg (by omega), if_pos rfl] at hQ
        have l1 := hh.iv 55 t.toInt.toNat (r := (0, 60)) rfl
        have l2 := hh.iv 55 o.toInt.toNat (r := (0, 60)) rfl
        simp only at l1 l2
        have r1 := hr.1 t.toInt.toNat (by omega)
        have r2 := hr.1 o.toInt.toNat (by omega)
        have z1 := sh_rows t.toInt.toNat (by omega)
        have z2 := sh_rows o.toInt.toNat (by omega)
        exact w_cshT t i o j n hs ⟨57 + t.toInt.toNat, inB_iff (by omega) (by omega), r1, by omega, 57 + o.toInt.toNat, inB_iff (by omega) (by omega), r2, by omega, z2, z1, by omega, by omega, by omega, by omega, by omega, by omega, by omega, hQ⟩
      · have e6 := cn e6
        have e7 := cz2 e7
        simp only [Bool.and_eq_true, decide_eq_true_eq] at e6
        rw [decide_eq_true e2.1, decide_eq_true e2.2] at e7
        simp only [Bool.true_and, Bool.and_eq_false_iff, decide_eq_false_iff_not] at e7
        rw [if_neg (by omega), if_pos (by omega)] at hQ
        exact hQ
    · have e3 : ¬ (h.2.1 54 t.toInt.toNat).toInt = -1 := of_decide_eq_false (cI e3)
      have e4 : ¬ (h.2.1 54 o.toInt.toNat).toInt = -1 := of_decide_eq_true (cI e4)
      have e5 : ¬ (h.2.1 54 t.toInt.toNat).toInt = (h.2.1 54 o.toInt.toNat).toInt := of_decide_eq_false (cI e5)
      rw [if_neg (by omega), if_neg (by omega), if_pos e5] at hQ
      exact hQ
    · have e3 : ¬ (h.2.1 54 t.toInt.toNat).toInt = -1 := of_decide_eq_false (cI e3)
      have e4 : ¬ ¬ (h.2.1 54 o.toInt.toNat).toInt = -1 := of_decide_eq_false (cI e4)
      rw [if_neg (by omega), if_pos (by omega)] at hQ
      exact hQ
  · have e1 := cn e1
    have e2 := cz2 e2
    rw [Bool.and_eq_true, decide_eq_true_eq, decide_eq_true_eq] at e1
    rw [if_neg (Decidable.not_not.mpr e1), if_pos (by simpa using e2)] at hQ
    exact hQ
def WSh : List (Nat × Nat) := [(125, 999), (126, 999)]
theorem WSh_1 {k : Nat} : inW WSh 125 k = true := by simp [inW, WSh]
theorem WSh_2 {k : Nat} : inW WSh 126 k = true := by simp [inW, WSh]
theorem frm_putL {W : List (Nat × Nat)} {h0 h : Hp} {a k : Nat} {x : Int64} (hf : frm W h0 h) (hw : inW W a k = true) : frm W h0 (hpL h a k x) := frm_trans hf (frm_udL hw)
theorem HI_putL {h : Hp} {a k : Nat} {x : Int64} (hh : HI h) : HI (hpL h a k x) := hh
theorem putL_at {h : Hp} {a k : Nat} {x : Int64} : (hpL h a k x).2.2.1 a k = x := by
  show ud h.2.2.1 a k x a k = x
  simp [ud]
theorem putL_ne {h : Hp} {a k b j : Nat} {x : Int64} (hn : ¬ (b = a ∧ j = k)) : (hpL h a k x).2.2.1 b j = h.2.2.1 b j := by
  show ud h.2.2.1 a k x b j = _
  unfold ud
  by_cases hb : b = a
  · rw [if_pos hb]
    by_cases hj : j = k
    · exact absurd ⟨hb, hj⟩ hn
    · simp only [if_neg hj]
      rw [hb]
  · rw [if_neg hb]
section MSH
variable {X : Scr} {dp : Nat} {h0 : Hp} {Q : Option Value → Hp → Prop}
theorem idx_ok {t i k : Int32} {tn i_n kn : Nat} (ht : t.toInt = tn) (hi : i.toInt = i_n) (hk : k.toInt = kn) (h1 : tn ≤ 5) (h2 : i_n + kn < 60) : (60 * t + i + k).toInt = ((60 * tn + i_n + kn : Nat) : Int) := by
  have e1 : (60 * t).toInt = 60 * (tn : Int) := by rw [i_mul (by rw [i60]; omega) (by rw [i60]; omega), i60, ht]
  generalize 60 * t = u at e1 ⊢
  have e2 : (u + i).toInt = 60 * (tn : Int) + i_n := by rw [i_add (by omega) (by omega)]; omega
  generalize u + i = v at e2 ⊢
  rw [i_add (by omega) (by omega)]
  omega
theorem msh_2 (t i o j n : Int32) (tn i_n on jn nn : Nat) (ht : t.toInt = tn) (hi : i.toInt = i_n) (ho : o.toInt = on) (hj : j.toInt = jn) (hn : n.toInt = nn) (h1 : tn ≤ 5) (h2 : on ≤ 5) (h3 : i_n + nn ≤ 60) (h4 : jn + nn ≤ 60)
    (hQ : ∀ h', HI h' → frm WSh h0 h' → (∀ x, h'.2.2.1 125 x = va_cpy (h0.2.2.1 125) (h0.2.2.1 125) (60 * tn + i_n) (60 * on + jn) nn x) → Q (some (.int n)) h') :
    ∀ (m kn : Nat) (k : Int32) (h : Hp), HI h → frm WSh h0 h → k.toInt = kn → kn + m = nn → (∀ q, q < nn → h.2.2.1 126 q = h0.2.2.1 125 (60 * tn + i_n + q)) → (∀ x, h.2.2.1 125 x = va_cpy (h0.2.2.1 125) (h0.2.2.1 125) (60 * tn + i_n) (60 * on + jn) kn x) →
    Ends X dp 203 141 [.ref 93, .int t, .int i, .int o, .int j, .int n, .int k] [] h Q
  | m, kn, k, h, hh, hf, hk, hm, ha, hb => by
    refine w_sh2 t i o j n k hh.hs ⟨fun e => ?_, fun e => ?_⟩
    · have e : n.toInt ≤ k.toInt := of_decide_eq_true (cI e)
      have : kn = nn := by omega
      rw [this] at hb
      exact hQ h hh hf hb
    · have e : ¬ n.toInt ≤ k.toInt := of_decide_eq_false (cI e)
      match m, hm with
      | 0, hm => omega
      | m + 1, hm =>
        have hx := idx_ok ho hj hk h2 (by omega)
        have hk1 : (k + 1).toInt = ((kn + 1 : Nat) : Int) := by rw [i_add (by rw [i1]; omega) (by rw [i1]; omega), i1]; omega
        generalize 60 * o + j + k = u at hx ⊢
        generalize k + 1 = k1 at hk1 ⊢
        have q1 : u.toNatClampNeg = 60 * on + jn + kn := by show u.toInt.toNat = _; omega
        have q2 : k.toNatClampNeg = kn := by show k.toInt.toNat = _; omega
        refine ⟨inB_iff (by omega) (by omega), inB_iff (by omega) (by omega), ?_⟩
        rw [q1, q2, ha kn (by omega)]
        refine msh_2 t i o j n tn i_n on jn nn ht hi ho hj hn h1 h2 h3 h4 hQ m (kn + 1) k1 _ (HI_putL hh) (frm_putL hf WSh_1) hk1 (by omega) (fun q hq => ?_) (fun x => ?_)
        · rw [putL_ne (by omega)]
          exact ha q hq
        · by_cases c : x = 60 * on + jn + kn
          · rw [c, putL_at]
            unfold va_cpy
            rw [if_pos (by omega), show 60 * on + jn + kn - (60 * on + jn) = kn by omega]
          · rw [putL_ne (by omega), hb x]
            unfold va_cpy
            by_cases d : 60 * on + jn ≤ x ∧ x < 60 * on + jn + kn
            · rw [if_pos d, if_pos (by omega)]
            · rw [if_neg d, if_neg (by omega)]
theorem msh_1 (t i o j n : Int32) (tn i_n on jn nn : Nat) (ht : t.toInt = tn) (hi : i.toInt = i_n) (ho : o.toInt = on) (hj : j.toInt = jn) (hn : n.toInt = nn) (h1 : tn ≤ 5) (h2 : on ≤ 5) (h3 : i_n + nn ≤ 60) (h4 : jn + nn ≤ 60)
    (hQ : ∀ h', HI h' → frm WSh h0 h' → (∀ x, h'.2.2.1 125 x = va_cpy (h0.2.2.1 125) (h0.2.2.1 125) (60 * tn + i_n) (60 * on + jn) nn x) → Q (some (.int n)) h') :
    ∀ (m kn : Nat) (k : Int32) (h : Hp), HI h → frm WSh h0 h → k.toInt = kn → kn + m = nn → (∀ q, q < kn → h.2.2.1 126 q = h0.2.2.1 125 (60 * tn + i_n + q)) → (∀ x, h.2.2.1 125 x = h0.2.2.1 125 x) →
    Ends X dp 203 104 [.ref 93, .int t, .int i, .int o, .int j, .int n, .int k] [] h Q
  | m, kn, k, h, hh, hf, hk, hm, ha, hb => by
    refine w_sh1 t i o j n k hh.hs ⟨fun e => ?_, fun e => ?_⟩
    · have e : n.toInt ≤ k.toInt := of_decide_eq_true (cI e)
      have : kn = nn := by omega
      refine msh_2 t i o j n tn i_n on jn nn ht hi ho hj hn h1 h2 h3 h4 hQ nn 0 0 h hh hf rfl (by omega) (fun q hq => ha q (by omega)) (fun x => ?_)
      rw [hb x]
      unfold va_cpy
      rw [if_neg (by omega)]
    · have e : ¬ n.toInt ≤ k.toInt := of_decide_eq_false (cI e)
      match m, hm with
      | 0, hm => omega
      | m + 1, hm =>
        have hx := idx_ok ht hi hk h1 (by omega)
        have hk1 : (k + 1).toInt = ((kn + 1 : Nat) : Int) := by rw [i_add (by rw [i1]; omega) (by rw [i1]; omega), i1]; omega
        generalize 60 * t + i + k = u at hx ⊢
        generalize k + 1 = k1 at hk1 ⊢
        have q1 : u.toNatClampNeg = 60 * tn + i_n + kn := by show u.toInt.toNat = _; omega
        have q2 : k.toNatClampNeg = kn := by show k.toInt.toNat = _; omega
        refine ⟨inB_iff (by omega) (by omega), inB_iff (by omega) (by omega), ?_⟩
        rw [q1, q2, hb]
        refine msh_1 t i o j n tn i_n on jn nn ht hi ho hj hn h1 h2 h3 h4 hQ m (kn + 1) k1 _ (HI_putL hh) (frm_putL hf WSh_2) hk1 (by omega) (fun q hq => ?_) (fun x => ?_)
        · by_cases c : q = kn
          · rw [c, putL_at]
          · rw [putL_ne (by omega)]
            exact ha q (by omega)
        · rw [putL_ne (by omega)]
          exact hb x
end MSH
/-- the reference's shift -/
theorem msh_ok {X : Scr} {dp : Nat} {h : Hp} {Q : Option Value → Hp → Prop} (t i o j n : Int32) (hh : HI h)
    (hQ : ∀ h', HI h' → frm WSh h h' → ((shAns (h.2.1 123) (h.2.1 124) t i o j n).2 = false → h' = h) → ((shAns (h.2.1 123) (h.2.1 124) t i o j n).2 = true → ∀ x, h'.2.2.1 125 x = va_cpy (h.2.2.1 125) (h.2.2.1 125) (60 * t.toInt.toNat + i.toInt.toNat) (60 * o.toInt.toNat + j.toInt.toNat) n.toInt.toNat x) → Q (some (.int (shAns (h.2.1 123) (h.2.1 124) t i o j n).1)) h') :
    Ends X (dp + 1 + 1) 203 0 [.ref 93, .int t, .int i, .int o, .int j, .int n, .retAddr 0] [] h Q := by
  have hs := hh.hs
  have no : (shAns (h.2.1 123) (h.2.1 124) t i o j n).2 = false → Q (some (.int (shAns (h.2.1 123) (h.2.1 124) t i o j n).1)) h := fun e => hQ h hh frm_refl (fun _ => rfl) (fun e2 => by rw [e] at e2; cases e2)
  unfold shAns at no hQ
  refine w_sh0 t i o j n hs (tape_ok t hs ⟨_, rfl, hs, fun e1 => ?_, fun e1 => tape_ok o hs ⟨_, rfl, hs, fun e2 => ?_, fun e2 => ?_⟩⟩)
  · have e1 := cz e1
    rw [if_pos (by simpa using e1)] at no
    exact no rfl
  · have e1 := cn e1
    have e2 := cn2 e2
    rw [Bool.and_eq_true, decide_eq_true_eq, decide_eq_true_eq] at e1 e2
    rw [if_neg (Decidable.not_not.mpr e1), if_neg (Decidable.not_not.mpr e2)] at no hQ
    have hst := hh.iv 123 t.toInt.toNat (r := (-1, 4)) rfl
    have hso := hh.iv 123 o.toInt.toNat (r := (-1, 4)) rfl
    have l1 := hh.iv 124 t.toInt.toNat (r := (0, 60)) rfl
    have l2 := hh.iv 124 o.toInt.toNat (r := (0, 60)) rfl
    simp only at hst hso l1 l2
    refine ⟨inB_iff (by omega) (by omega), fun e3 => ?_, fun e3 => ⟨inB_iff (by omega) (by omega), fun e4 => ⟨inB_iff (by omega) (by omega), inB_iff (by omega) (by omega), fun e5 => ⟨fun e6 => ?_, fun e6 => ⟨fun e7 => ?_, fun e7 => ⟨fun e8 => ?_, fun e8 => ⟨inB_iff (by omega) (by omega), fun e9 => ?_, fun e9 => ⟨inB_iff (by omega) (by omega), fun e10 => ?_, fun e10 => ?_⟩⟩⟩⟩⟩, fun e5 => ?_⟩, fun e4 => ?_⟩⟩
    · have e3 : (h.2.1 123 t.toInt.toNat).toInt < 0 := of_decide_eq_true (cI e3)
      rw [if_pos e3] at no
      exact no rfl
    all_goals have e3 : ¬ (h.2.1 123 t.toInt.toNat).toInt < 0 := of_decide_eq_false (cI e3)
    all_goals rw [if_neg e3] at no hQ
    all_goals try
      have e4 : 0 ≤ (h.2.1 123 o.toInt.toNat).toInt := of_decide_eq_true (cI e4)
      rw [if_neg (by omega)] at no hQ
    all_goals try
      have e5 : (h.2.1 123 t.toInt.toNat).toInt = (h.2.1 123 o.toInt.toNat).toInt := of_decide_eq_true (cI e5)
      rw [if_neg (Decidable.not_not.mpr e5)] at no hQ
    · have e6 : n.toInt < 0 := of_decide_eq_true (cI e6)
      rw [if_pos (by omega)] at no
      exact no rfl
    · have e6 : ¬ n.toInt < 0 := of_decide_eq_false (cI e6)
      have e7 : i.toInt < 0 := of_decide_eq_true (cI e7)
      rw [if_pos (by omega)] at no
      exact no rfl
    all_goals try
      have e6 : ¬ n.toInt < 0 := of_decide_eq_false (cI e6)
      have e7 : ¬ i.toInt < 0 := of_decide_eq_false (cI e7)
    · have e8 : j.toInt < 0 := of_decide_eq_true (cI e8)
      by_cases c : 0 ≤ i.toInt ∧ 0 ≤ n.toInt ∧ i.toInt + n.toInt ≤ (h.2.1 124 t.toInt.toNat).toInt
      · rw [if_neg (Decidable.not_not.mpr c), if_pos (by omega)] at no
        exact no rfl
      · rw [if_pos c] at no
        exact no rfl
    · have e8 : ¬ j.toInt < 0 := of_decide_eq_false (cI e8)
      have hn := i32r n
      simp only [fI] at hn
      have sb : (h.2.1 124 t.toInt.toNat - n).toInt = (h.2.1 124 t.toInt.toNat).toInt - n.toInt := i_sub (by omega) (by omega)
      have e9 : (h.2.1 124 t.toInt.toNat - n).toInt < i.toInt := of_decide_eq_true (cI e9)
      rw [sb] at e9
      rw [if_pos (by omega)] at no
      exact no rfl
    · have e8 : ¬ j.toInt < 0 := of_decide_eq_false (cI e8)
      have hn := i32r n
      simp only [fI] at hn
      have sb : (h.2.1 124 t.toInt.toNat - n).toInt = (h.2.1 124 t.toInt.toNat).toInt - n.toInt := i_sub (by omega) (by omega)
      have sb2 : (h.2.1 124 o.toInt.toNat - n).toInt = (h.2.1 124 o.toInt.toNat).toInt - n.toInt := i_sub (by omega) (by omega)
      have e9 : ¬ (h.2.1 124 t.toInt.toNat - n).toInt < i.toInt := of_decide_eq_false (cI e9)
      have e10 : j.toInt ≤ (h.2.1 124 o.toInt.toNat - n).toInt := of_decide_eq_true (cI e10)
      rw [sb] at e9
      rw [sb2] at e10
      rw [if_neg (by omega), if_neg (by omega)] at hQ
      exact msh_1 (h0 := h) t i o j n t.toInt.toNat i.toInt.toNat o.toInt.toNat j.toInt.toNat n.toInt.toNat (by omega) (by omega) (by omega) (by omega) (by omega) (by omega) (by omega) (by omega) (by omega) (fun h' a1 a2 a3 => hQ h' a1 a2 (fun q => by cases q) (fun _ => a3)) n.toInt.toNat 0 0 h hh frm_refl rfl (by omega) (fun q hq => by omega) (fun _ => rfl)
    · have e8 : ¬ j.toInt < 0 := of_decide_eq_false (cI e8)
      have hn := i32r n
      simp only [fI] at hn
      have sb : (h.2.1 124 t.toInt.toNat - n).toInt = (h.2.1 124 t.toInt.toNat).toInt - n.toInt := i_sub (by omega) (by omega)
      have sb2 : (h.2.1 124 o.toInt.toNat - n).toInt = (h.2.1 124 o.toInt.toNat).toInt - n.toInt := i_sub (by omega) (by omega)
      have e9 : ¬ (h.2.1 124 t.toInt.toNat - n).toInt < i.toInt := of_decide_eq_false (cI e9)
      have e10 : ¬ j.toInt ≤ (h.2.1 124 o.toInt.toNat - n).toInt := of_decide_eq_false (cI e10)
      rw [sb] at e9
      rw [sb2] at e10
      rw [if_neg (by omega), if_pos (by omega)] at no
      exact no rfl
    · have e5 : ¬ (h.2.1 123 t.toInt.toNat).toInt = (h.2.1 123 o.toInt.toNat).toInt := of_decide_eq_false (cI e5)
      rw [if_pos e5] at no
      exact no rfl
    · have e4 : ¬ 0 ≤ (h.2.1 123 o.toInt.toNat).toInt := of_decide_eq_false (cI e4)
      rw [if_pos (by omega)] at no
      exact no rfl
  · have e1 := cn e1
    have e2 := cz2 e2
    rw [Bool.and_eq_true, decide_eq_true_eq, decide_eq_true_eq] at e1
    rw [if_neg (Decidable.not_not.mpr e1), if_pos (by simpa using e2)] at no
    exact no rfl
