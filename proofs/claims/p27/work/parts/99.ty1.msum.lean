/-! The reference's sums of clauses are those told. -/
theorem tst_z {t x : Int32} (h0 : 0 ≤ t.toInt) (h6 : t.toInt < 6000) : tst t x = ztst t.toInt x.toInt := by
  have j100 : (100 : Int32).toInt = 100 := rfl
  have j10 : (10 : Int32).toInt = 10 := rfl
  have a1 : (t / 100).toInt = t.toInt / 100 := i_dv h0 (by decide)
  have a2 : (t / 100 / 10).toInt = t.toInt / 100 / 10 := by rw [i_dv (by omega) (by decide), a1, j10]
  have a3 : (t / 100 / 10 * 10).toInt = t.toInt / 100 / 10 * 10 := by rw [i_mul (by rw [a2, j10]; omega) (by rw [a2, j10]; omega), a2, j10]
  have a4 : (t / 100 - t / 100 / 10 * 10).toInt = t.toInt / 100 - t.toInt / 100 / 10 * 10 := by rw [i_sub (by rw [a1, a3]; omega) (by rw [a1, a3]; omega), a1, a3]
  have a5 : (t / 100 * 100).toInt = t.toInt / 100 * 100 := by rw [i_mul (by rw [a1, j100]; omega) (by rw [a1, j100]; omega), a1, j100]
  have a6 : (t - t / 100 * 100).toInt = t.toInt - t.toInt / 100 * 100 := by rw [i_sub (by rw [a5]; omega) (by rw [a5]; omega), a5]
  have v2 : (t / 100 - t / 100 / 10 * 10).toInt = t.toInt / 100 % 10 := by omega
  have v3 : (t - t / 100 * 100).toInt = t.toInt % 100 := by omega
  unfold tst ztst
  rw [v2, v3]
theorem ev_eq {s : Nat → Int32} {F : Int32 → Int32} {fc : Int → Int} (hF : ∀ t : Int32, 0 ≤ t.toInt → t.toInt < 6000 → (F t).toInt = fc (t.toInt / 1000)) : ∀ (e : List Int) (i : Nat) (st : List Bool), (∀ j, j < e.length → (s (i + j)).toInt = e.getD j 0) → (∃ r, pk e st.length = some r) → evS s F e.length i st = zev e fc st
  | [], i, st, hs, hp => rfl
  | x :: e, i, st, hs, hp => by
    have c0 := hs 0 (by show 0 < e.length + 1; omega)
    have c0 : (s i).toInt = x := c0
    have nx : ∀ j, j < e.length → (s (i + 1 + j)).toInt = e.getD j 0 := fun j hj => by
      have := hs (j + 1) (by show j + 1 < e.length + 1; omega)
      rw [gdC] at this
      rw [show i + 1 + j = i + (j + 1) by omega]
      exact this
    show evS s F (e.length + 1) i st = _
    rw [evS_s, c0]
    unfold zev
    unfold pk at hp
    by_cases c1 : x = -33
    · rw [if_pos c1, if_pos c1]
      rw [if_pos c1] at hp
      match st, hp with
      | [], hp => obtain ⟨r, hp⟩ := hp; simp at hp
      | b :: st, hp =>
        rw [if_pos (by show 1 ≤ st.length + 1; omega)] at hp
        simp only
        exact ev_eq hF e (i + 1) ((!b) :: st) nx hp
    · rw [if_neg c1, if_neg c1]
      rw [if_neg c1] at hp
      by_cases c2 : x = -38 ∨ x = -124
      · rw [if_pos c2] at hp
        rw [if_pos (by omega), if_pos (by omega)]
        match st, hp with
        | [], hp => obtain ⟨r, hp⟩ := hp; simp at hp
        | [_], hp => obtain ⟨r, hp⟩ := hp; simp at hp
        | b :: a :: st, hp =>
          rw [if_pos (by show 2 ≤ st.length + 1 + 1; omega)] at hp
          simp only
          exact ev_eq hF e (i + 1) (_ :: st) nx hp
      · rw [if_neg c2] at hp
        by_cases c3 : st.length < 60 ∧ 0 ≤ x ∧ x < 6000 ∧ x / 100 % 10 ≤ 2
        · rw [if_pos c3] at hp
          rw [if_neg (by omega), if_neg (by omega), tst_z (by omega) (by omega), hF (s i) (by omega) (by omega), c0]
          exact ev_eq hF e (i + 1) (_ :: st) nx hp
        · rw [if_neg c3] at hp
          obtain ⟨r, hp⟩ := hp
          cases hp
/-- the reference holds S -/
def MG (h : Hp) (S : Nat → Nat → Int) (Y : Int) : Prop := (∀ p, p < 7 → (h.2.1 94 p).toInt = S 0 p ∧ (h.2.1 95 p).toInt = S 1 p ∧ (h.2.1 96 p).toInt = S 2 p ∧ (h.2.1 97 p).toInt = S 3 p ∧ (h.2.1 98 p).toInt = S 4 p) ∧ (∀ i, i < 28 → (h.2.1 99 i).toInt = S 5 i) ∧ (h.2.1 93 1).toInt = Y
/-- the yard that holds in the reference -/
def MY (h : Hp) (cs : List Cl) (m : List Int) : Prop := YOK cs m ∧ (((h.2.1 93 10).toInt < 0 ∧ cs = []) ∨ ∃ f : Nat, (h.2.1 93 10).toInt = f ∧ f < 6 ∧ YM f h cs m)
def WMX : List (Nat × Nat) := [(109, 999), (110, 999), (93, 34), (93, 35)]
theorem WMX_n {a k : Nat} (h1 : a < 109) (h2 : ¬ (a = 93 ∧ (k = 34 ∨ k = 35))) : inW WMX a k = false := by
  cases c : inW WMX a k with
  | false => rfl
  | true =>
    simp only [inW, WMX, List.any_cons, List.any_nil, Bool.or_false, Bool.or_eq_true, Bool.and_eq_true, beq_iff_eq] at c
    omega
theorem WPi_X {h h' : Hp} (hf : frm WPi h h') : frm WMX h h' := frm_sub (V := WPi) (by decide) hf
theorem WO_X {h h' : Hp} (hf : frm WO h h') : frm WMX h h' := frm_sub (V := WO) (by decide) hf
theorem MG.fr {h h' : Hp} {S : Nat → Nat → Int} {Y : Int} (hg : MG h S Y) (hf : frm WMX h h') : MG h' S Y := by
  have f : ∀ a k, 94 ≤ a → a < 109 → h'.2.1 a k = h.2.1 a k := fun a k h1 h2 => frI hf (WMX_n h2 (by omega))
  refine ⟨fun p hp => ?_, fun i hi => ?_, ?_⟩
  · rw [f 94 p (by decide) (by decide), f 95 p (by decide) (by decide), f 96 p (by decide) (by decide), f 97 p (by decide) (by decide), f 98 p (by decide) (by decide)]
    exact hg.1 p hp
  · rw [f 99 i (by decide) (by decide)]
    exact hg.2.1 i hi
  · rw [frI hf (a := 93) rfl]
    exact hg.2.2
theorem MY.fr {h h' : Hp} {cs : List Cl} {m : List Int} (hy : MY h cs m) (hf : frm WMX h h') : MY h' cs m := by
  have f : ∀ a k, 94 ≤ a → a < 109 → h'.2.1 a k = h.2.1 a k := fun a k h1 h2 => frI hf (WMX_n h2 (by omega))
  refine ⟨hy.1, ?_⟩
  rw [frI hf (a := 93) rfl]
  rcases hy.2 with c | ⟨g, g1, g2, y1, y2, y3⟩
  · exact Or.inl c
  · refine Or.inr ⟨g, g1, g2, by rw [f 101 g (by decide) (by decide)]; exact y1, fun c hc => ?_, fun j hj => by rw [f 106 _ (by decide) (by decide)]; exact y3 j hj⟩
    rw [f 102 _ (by decide) (by decide), f 103 _ (by decide) (by decide), f 104 _ (by decide) (by decide), f 105 _ (by decide) (by decide)]
    exact y2 c hc
theorem TX.fr {h h' : Hp} (ht : TX h) (hf : frm WMX h h') : TX h' := TX_fr (fun a k hs => frI hf (dis_in (SUP := SUP1) (by decide) hs)) ht
theorem so_z {h : Hp} {S : Nat → Nat → Int} {Y : Int} (hg : MG h S Y) (hY0 : 0 ≤ Y) {pI lI : Int32} {p : Nat} (hp : pI.toInt = p) (h7 : p < 7) {cn a : Nat} {e : List Int} (h4 : (h.2.1 104 cn).toInt = a) (h5 : (h.2.1 105 cn).toInt = ((a + e.length : Nat) : Int)) (he : ∀ j, j < e.length → (h.2.1 106 (a + j)).toInt = e.getD j 0) (hk : pk e 0 = some 1) : soB h pI lI cn = zso e (zfc S Y p lI.toInt) := by
  unfold soB zso
  have k1 : ((h.2.1 105 cn).toInt - (h.2.1 104 cn).toInt).toNat = e.length := by omega
  have k2 : (h.2.1 104 cn).toInt.toNat = a := by omega
  have j1000 : (1000 : Int32).toInt = 1000 := rfl
  have j10 : (10 : Int32).toInt = 10 := rfl
  have en : pI.toNatClampNeg = p := by show pI.toInt.toNat = _; omega
  obtain ⟨g1, g2, g3, g4, g5⟩ := hg.1 p h7
  rw [k1, k2, ev_eq (fc := zfc S Y p lI.toInt) (fun t h0 h6 => ?_) e a [] he ⟨1, hk⟩]
  have a1 : (t / 1000).toInt = t.toInt / 1000 := i_dv h0 (by decide)
  have y := hg.2.2
  have a2 : (h.2.1 93 1 / 10).toInt = Y / 10 := by rw [i_dv (by omega) (by decide), y, j10]
  have yb := i32r (h.2.1 93 1)
  simp only [fI] at yb
  have a3 : (h.2.1 93 1 / 10 * 10).toInt = Y / 10 * 10 := by rw [i_mul (by rw [a2, j10]; omega) (by rw [a2, j10]; omega), a2, j10]
  have a4 : (h.2.1 93 1 - h.2.1 93 1 / 10 * 10).toInt = Y % 10 := by rw [i_sub (by omega) (by omega), a3, y]; omega
  unfold factM zfc
  rw [en, a1]
  split
  · exact hp
  · split
    · exact g1
    · split
      · rfl
      · split
        · exact g5
        · split
          · exact g4
          · exact a4
theorem zsum_no {m : List Int} {fc : Int → Int} {w : Int} : ∀ {l : List Cl}, zhas w l = false → zsum m fc w l = 0
  | [], _ => rfl
  | c :: l, h => by
    unfold zhas at h
    unfold zsum
    by_cases d : c.1 = w
    · rw [if_pos d] at h
      cases h
    · rw [if_neg d] at h
      rw [if_neg (fun z => d z.1), zsum_no h]
      rfl
theorem sumF_z {h : Hp} {S : Nat → Nat → Int} {Y : Int} {cs : List Cl} {m : List Int} {f : Nat} (hg : MG h S Y) (hY0 : 0 ≤ Y) (hw : YOK cs m) (hy : YM f h cs m) {wI pI lI : Int32} {p : Nat} (hp : pI.toInt = p) (h7 : p < 7) : ∀ (k c : Nat) (s g : Int32) (V : Int), c + k = cs.length → s.toInt = V → 0 ≤ V → V ≤ 99 * c → ((sumF h wI pI lI k (10 * f + c) s g).1.toInt = V + zsum m (zfc S Y p lI.toInt) wI.toInt (cs.drop c)) ∧ ((sumF h wI pI lI k (10 * f + c) s g).2.toInt = 0 ↔ (g.toInt = 0 ∧ zhas wI.toInt (cs.drop c) = false))
  | 0, c, s, g, V, hk, hs, h0, h9 => by
    rw [List.drop_eq_nil_of_le (by omega)]
    unfold sumF zsum zhas
    exact ⟨by show s.toInt = V + 0; omega, ⟨fun z => ⟨z, rfl⟩, fun z => z.1⟩⟩
  | k + 1, c, s, g, V, hk, hs, h0, h9 => by
    have hlt : c < cs.length := by omega
    have hl := hw.2.1
    obtain ⟨y1, y2, y3⟩ := hy
    obtain ⟨x1, x2, x3, x4⟩ := y2 c hlt
    obtain ⟨u1, u2, u3, u4, u5, pre, ee, post, p1, p2, p3, p4⟩ := hw.1.1 c hlt
    have sl : zsl m (cs.getD c cl0) = ee := by rw [p1]; exact zsl_eq p2 p3
    have ml : m.length = pre.length + (ee.length + post.length) := by rw [p1, List.length_append, List.length_append]
    have mk : ∀ j, j < ee.length → (h.2.1 106 ((100 * f + (cs.getD c cl0).2.2.1) + j)).toInt = ee.getD j 0 := fun j hj => by
      rw [show 100 * f + (cs.getD c cl0).2.2.1 + j = 100 * f + ((cs.getD c cl0).2.2.1 + j) by omega, y3 _ (by omega), p1, ← p2]
      rw [List.getD_eq_getElem?_getD, List.getElem?_append_right (by omega), show pre.length + j - pre.length = j by omega, List.getElem?_append_left hj, ← List.getD_eq_getElem?_getD]
    have so := so_z (lI := lI) hg hY0 hp h7 x3 (by rw [x4]; omega) mk p4
    rw [dropC hlt]
    unfold sumF zsum zhas
    rw [sl, x1, so]
    by_cases d : (cs.getD c cl0).1 = wI.toInt
    · rw [if_pos d, if_pos d]
      have one : (1 : Int32).toInt = 1 := rfl
      by_cases t : zso ee (zfc S Y p lI.toInt) = true
      · rw [if_pos t, if_pos ⟨d, t⟩]
        have sv : (s + h.2.1 103 (10 * f + c)).toInt = V + (cs.getD c cl0).2.1 := by rw [i_add (by rw [hs, x2]; omega) (by rw [hs, x2]; omega), hs, x2]
        have i := sumF_z hg hY0 hw ⟨y1, y2, y3⟩ (wI := wI) (lI := lI) hp h7 k (c + 1) _ 1 _ (by omega) sv (by omega) (by omega)
        rw [show 10 * f + (c + 1) = 10 * f + c + 1 by omega] at i
        exact ⟨by rw [i.1]; omega, ⟨fun z => by have := (i.2.mp z).1; omega, fun z => absurd z.2 (by simp)⟩⟩
      · rw [if_neg t, if_neg (fun z => t z.2)]
        have sv : (s + 0).toInt = V := by rw [i_add (by rw [z0]; omega) (by rw [z0]; omega), z0]; omega
        have i := sumF_z hg hY0 hw ⟨y1, y2, y3⟩ (wI := wI) (lI := lI) hp h7 k (c + 1) _ 1 _ (by omega) sv (by omega) (by omega)
        rw [show 10 * f + (c + 1) = 10 * f + c + 1 by omega] at i
        exact ⟨by rw [i.1]; omega, ⟨fun z => by have := (i.2.mp z).1; omega, fun z => absurd z.2 (by simp)⟩⟩
    · rw [if_neg d, if_neg d, if_neg (fun z => d z.1)]
      have i := sumF_z hg hY0 hw ⟨y1, y2, y3⟩ (wI := wI) (lI := lI) hp h7 k (c + 1) s g V (by omega) hs (by omega) (by omega)
      rw [show 10 * f + (c + 1) = 10 * f + c + 1 by omega] at i
      exact ⟨by rw [i.1]; omega, i.2⟩
theorem sumM_z {h : Hp} {S : Nat → Nat → Int} {Y : Int} {cs : List Cl} {m : List Int} (hg : MG h S Y) (hY0 : 0 ≤ Y) (hy : MY h cs m) {wI pI lI zI : Int32} {p : Nat} (hp : pI.toInt = p) (h7 : p < 7) : (sumM h wI pI lI zI).toInt = if zhas wI.toInt cs = true then zsum m (zfc S Y p lI.toInt) wI.toInt cs else zI.toInt := by
  unfold sumM
  rcases hy.2 with ⟨c1, rfl⟩ | ⟨f, f1, f6, ym⟩
  · have n0 : cN0 h = 0 := by unfold cN0; rw [if_neg (by omega)]
    rw [n0]
    unfold sumF
    simp only
    rw [if_pos z0]
    rfl
  · have n0 : cN0 h = cs.length := by
      unfold cN0
      rw [if_pos (by omega), show (h.2.1 93 10).toInt.toNat = f by omega, ym.1]
      rfl
    have b0 : cB0 h = 10 * f := by
      unfold cB0
      rw [if_pos (by omega), show (h.2.1 93 10).toInt.toNat = f by omega]
    have i := sumF_z hg hY0 hy.1 ym (wI := wI) (lI := lI) hp h7 cs.length 0 0 0 0 (by omega) rfl (by decide) (by decide)
    rw [n0, b0]
    rw [Nat.add_zero, List.drop_zero, Int.zero_add] at i
    cases z : zhas wI.toInt cs with
    | true =>
      rw [if_neg (fun q => by have := (i.2.mp q).2; rw [z] at this; cases this), if_pos rfl]
      exact i.1
    | false =>
      rw [if_pos (i.2.mpr ⟨rfl, z⟩), if_neg Bool.false_ne_true]
