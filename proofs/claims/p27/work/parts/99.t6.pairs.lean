/-! Acts, the trace, kinds taken, people, the image: the pairs of calls. -/
section PAIRS
variable {X : Scr} {dp : Nat} {h h0 : Hp} {Q : Option Value → Hp → Prop}
def aA (a k p v x : Int32) : Int32 := if a = 0 then aRA k p v x else if a = 1 then aHA k k p v x else aTA k k p v x
def aL (a k : Int32) : List Int32 := if a = 0 then lRL k else if a = 1 then lHL k k else lTL k k
theorem lTL_len {k : Int32} : (lTL k k).length ≤ 12 := by
  have q1 := lT1_len (k := k)
  have q2 := lHL_len (f := k) (k := k)
  unfold lTL
  split
  · rw [List.length_cons, List.length_append]; omega
  · split
    · rw [List.length_cons]; omega
    · split
      · rw [List.length_cons, List.length_append]; omega
      · omega
theorem aL_len {a k : Int32} : (aL a k).length ≤ 12 := by
  have q1 := lRL_len (k := k)
  have q2 := lHL_len (f := k) (k := k)
  have q3 := lTL_len (k := k)
  unfold aL
  split
  · omega
  · split <;> omega
theorem AP_i {a k b : Nat} {g : Hp} (hh : HI g) (hz : (g.2.1 a k).toInt = 0) : AP a k b g [] g := ⟨hh, frm_refl, by rw [hz]; rfl, fun j => by rw [if_neg (show ¬ j < ([] : List Int32).length from Nat.not_lt_zero j)]⟩
theorem acases {a : Int32} (h1 : 0 ≤ a.toInt) (h2 : a.toInt ≤ 2) : a = 0 ∨ a = 1 ∨ a = 2 := by
  have c0 : (0 : Int32).toInt = 0 := rfl
  have c1 : (1 : Int32).toInt = 1 := rfl
  have c2 : (2 : Int32).toInt = 2 := rfl
  rcases (show a.toInt = 0 ∨ a.toInt = 1 ∨ a.toInt = 2 by omega) with q | q | q
  · exact Or.inl (Int32.toInt_inj.mp (by rw [q, c0]))
  · exact Or.inr (Or.inl (Int32.toInt_inj.mp (by rw [q, c1])))
  · exact Or.inr (Or.inr (Int32.toInt_inj.mp (by rw [q, c2])))
def WCA : List (Nat × Nat) := [(51, 0), (51, 1), (51, 2), (51, 4), (52, 999)]
def pOK (p s : Int32) : Prop := 0 ≤ p.toInt ∧ p.toInt < s.toInt
def cOK (a : Int32) : Prop := 0 ≤ a.toInt ∧ a.toInt ≤ 2
theorem cact_ok (p a x : Int32) (hh : HI h) (q1 : ¬ (pOK p (h.2.1 1 0) ∧ cOK a) → Q (some (.int 0)) (hpI h 51 4 0))
    (q2 : pOK p (h.2.1 1 0) → cOK a → ∀ h', HI h' → frm WCA h h' → (h'.2.1 51 4).toInt = ((aL a (h.2.1 2 p.toInt.toNat)).length : Int) → (∀ j, h'.2.1 52 j = if j < (aL a (h.2.1 2 p.toInt.toNat)).length then (aL a (h.2.1 2 p.toInt.toNat)).getD j 0 else h.2.1 52 j) → Q (some (.int (aA a (h.2.1 2 p.toInt.toNat) p (h.2.1 3 p.toInt.toNat) x))) h') : Ends X 8 91 0 [.ref 0, .int p, .int a, .int x] [] h Q := by
  have b := hh.iv 1 0 (r := (0, 7)) rfl
  simp only at b
  have r4 := fIr 51 4 0 (by decide +kernel)
  have g0 : HI (hpI h 51 4 0) := HI_put hh r4.1 r4.2
  have e10 : (hpI h 51 4 0).2.1 1 0 = h.2.1 1 0 := put_ne (by omega)
  refine w_cact (dp := 7) p a x hh.hs (chas_ok p g0 ⟨_, rfl, g0.hs, fun e => q1 ?_, fun e => ⟨fun e2 => q1 ?_, fun e2 => ⟨fun e3 => ?_, fun e3 => q1 ?_⟩⟩⟩)
  · have e := bnand (cz e)
    rw [e10] at e
    exact fun d => e d.1
  · have e2 : a.toInt < 0 := of_decide_eq_true (cI e2)
    exact fun d => by have := d.2.1; omega
  · have e := band (cn e)
    rw [e10] at e
    have e2 : ¬ a.toInt < 0 := of_decide_eq_false (cI e2)
    have e3 : a.toInt ≤ 2 := of_decide_eq_true (cI e3)
    have ip : inB p 7 = true := inB_iff e.1 (by have := e.2; omega)
    refine ⟨ip, ip, ?_⟩
    have q3 := q2 e ⟨by omega, e3⟩
    clear q1 q2
    rw [show p.toNatClampNeg = p.toInt.toNat from rfl]
    have ek : (hpI h 51 4 0).2.1 2 p.toInt.toNat = h.2.1 2 p.toInt.toNat := put_ne (by omega)
    have ev : (hpI h 51 4 0).2.1 3 p.toInt.toNat = h.2.1 3 p.toInt.toNat := put_ne (by omega)
    rw [ek, ev]
    have bk := hh.iv 2 p.toInt.toNat (r := (0, 6)) rfl
    simp only at bk
    generalize h.2.1 2 p.toInt.toNat = k at bk q3 ⊢
    generalize h.2.1 3 p.toInt.toNat = v at q3 ⊢
    have i0 := fIr 51 0 p (by decide +kernel)
    have i1' := fIr 51 1 k (by decide +kernel)
    have i2 := fIr 51 2 v (by decide +kernel)
    have g1 : HI (hpI (hpI (hpI (hpI h 51 4 0) 51 0 p) 51 1 k) 51 2 v) := HI_put (HI_put (HI_put g0 i0.1 i0.2) i1'.1 i1'.2) i2.1 i2.2
    have f1 : frm WCA h (hpI (hpI (hpI (hpI h 51 4 0) 51 0 p) 51 1 k) 51 2 v) := frm_put (frm_put (frm_put (frm_put frm_refl rfl) rfl) rfl) rfl
    have hc : CK (hpI (hpI (hpI (hpI h 51 4 0) 51 0 p) 51 1 k) 51 2 v) k p v := ⟨by rw [put_ne (by omega), put_ne (by omega), put_at], by rw [put_ne (by omega), put_at], put_at⟩
    have hp : AP 51 4 52 (hpI (hpI (hpI (hpI h 51 4 0) 51 0 p) 51 1 k) 51 2 v) [] (hpI (hpI (hpI (hpI h 51 4 0) 51 0 p) 51 1 k) 51 2 v) := AP_i g1 (by rw [put_ne (by omega), put_ne (by omega), put_ne (by omega), put_at]; rfl)
    have e52 : ∀ j, (hpI (hpI (hpI (hpI h 51 4 0) 51 0 p) 51 1 k) 51 2 v).2.1 52 j = h.2.1 52 j := fun j => by rw [put_ne (by omega), put_ne (by omega), put_ne (by omega), put_ne (by omega)]
    generalize hpI (hpI (hpI (hpI h 51 4 0) 51 0 p) 51 1 k) 51 2 v = g at g1 f1 hc hp e52
    have fin : ∀ h', AP 51 4 52 g (aL a k) h' → ∃ r, some (Value.int (aA a k p v x)) = some (.int r) ∧ HS h' ∧ Q (some (.int r)) h' := fun h' z => ⟨_, rfl, z.1.hs, q3 h' z.1 (frm_trans f1 (frm_mono (by decide) z.2.1)) z.2.2.1 (fun j => by rw [z.2.2.2 j, e52 j])⟩
    rcases acases (by omega : 0 ≤ a.toInt) e3 with rfl | rfl | rfl
    · exact Ends.dpl (by decide) (DR k x 0 bk bk hc (by decide) (by decide) (by decide) hp fin)
    · exact Ends.dpl (by decide) (DH k x 0 bk bk hc (by decide) (by decide) (by decide) hp fin)
    · exact Ends.dpl (by decide) (DT k x 0 bk bk hc (by decide) (by decide) (by decide) hp fin)
  · have e3 : ¬ a.toInt ≤ 2 := of_decide_eq_false (cI e3)
    exact fun d => by have := d.2.2; omega
def WMA : List (Nat × Nat) := [(93, 58), (122, 999)]
theorem mact_ok (p a x : Int32) (hh : HI h) (q1 : ¬ (pOK p (h.2.1 93 0) ∧ cOK a) → Q (some (.int 0)) (hpI h 93 58 0))
    (q2 : pOK p (h.2.1 93 0) → cOK a → ∀ h', HI h' → frm WMA h h' → (h'.2.1 93 58).toInt = ((aL a (h.2.1 94 p.toInt.toNat)).length : Int) → (∀ j, h'.2.1 122 j = if j < (aL a (h.2.1 94 p.toInt.toNat)).length then (aL a (h.2.1 94 p.toInt.toNat)).getD j 0 else h.2.1 122 j) → Q (some (.int (aA a (h.2.1 94 p.toInt.toNat) p (h.2.1 95 p.toInt.toNat) x))) h') : Ends X 8 194 0 [.ref 93, .int p, .int a, .int x] [] h Q := by
  have b := hh.iv 93 0 (r := (0, 7)) rfl
  have j0 : (0 : Int32).toInt = 0 := rfl
  have j2 : (2 : Int32).toInt = 2 := rfl
  simp only at b
  have g0 : HI (hpI h 93 58 0) := HI_put hh (by show (0 : Int) ≤ 0; decide) (by show (0 : Int) ≤ 100; decide)
  have e10 : (hpI h 93 58 0).2.1 93 0 = h.2.1 93 0 := put_ne (by omega)
  refine w_mact (dp := 7) p a x hh.hs (person_ok p g0 ⟨_, rfl, g0.hs, fun e => q1 ?_, fun e => in_ok _ _ _ g0.hs ⟨_, rfl, g0.hs, fun e3 => ?_, fun e3 => q1 ?_⟩⟩)
  · have e := bnand (cz e)
    rw [e10] at e
    exact fun d => e d.1
  · have e := band (cn e)
    rw [e10] at e
    have e3 := band (cn2 e3)
    rw [j0, j2] at e3
    have q3 := q2 e e3
    have hp7 : 0 ≤ p.toInt ∧ p.toInt < 7 := ⟨e.1, by have := e.2; omega⟩
    clear q1 q2
    have ek : (hpI h 93 58 0).2.1 94 p.toNatClampNeg = h.2.1 94 p.toInt.toNat := put_ne (by omega)
    have ev : (hpI h 93 58 0).2.1 95 p.toNatClampNeg = h.2.1 95 p.toInt.toNat := put_ne (by omega)
    have bk := hh.iv 94 p.toInt.toNat (r := (0, 6)) rfl
    simp only at bk
    generalize h.2.1 94 p.toInt.toNat = k at bk q3 ek
    generalize h.2.1 95 p.toInt.toNat = v at q3 ev
    have f1 : frm WMA h (hpI h 93 58 0) := frm_put frm_refl rfl
    have hp : AP 93 58 122 (hpI h 93 58 0) [] (hpI h 93 58 0) := AP_i g0 (by rw [put_at]; rfl)
    have e52 : ∀ j, (hpI h 93 58 0).2.1 122 j = h.2.1 122 j := fun j => put_ne (by omega)
    generalize hpI h 93 58 0 = g at g0 f1 ek ev hp e52
    have fin : ∀ h', AP 93 58 122 g (aL a k) h' → ∃ r, some (Value.int (aA a k p v x)) = some (.int r) ∧ HS h' ∧ Q (some (.int r)) h' := fun h' z => ⟨_, rfl, z.1.hs, q3 h' z.1 (frm_trans f1 (frm_mono (by decide) z.2.1)) z.2.2.1 (fun j => by rw [z.2.2.2 j, e52 j])⟩
    rcases acases e3.1 e3.2 with rfl | rfl | rfl
    · exact ⟨fun e => absurd e (by decide), fun _ => Ends.dpl (by decide) (ra_ok p x hp7 bk ek ev (by decide) hp fin)⟩
    · exact ⟨fun _ => ⟨fun e => absurd e (by decide), fun _ => Ends.dpl (by decide) (ha_ok p x hp7 bk ek ev (by decide) hp fin)⟩, fun e => absurd e (by decide)⟩
    · exact ⟨fun _ => ⟨fun _ => Ends.dpl (by decide) (ta_ok p x hp7 bk ek ev (by decide) hp fin), fun e => absurd e (by decide)⟩, fun e => absurd e (by decide)⟩
  · have e3 := bnand (cz2 e3)
    rw [j0, j2] at e3
    exact fun d => e3 d.2
def WAC : List (Nat × Nat) := WCA ++ WMA
theorem act_pair (p a x : Int32) (hd : 8 ≤ dp) (hi : INVE h) {K : Hp → Int32 → Int32 → Prop} (hK : ∀ r h', INVE h' → frm WAC h h' → K h' r r) (hQ : ∀ r h1, HI h1 → REF X dp 194 [.ref 93, .int p, .int a, .int x] K r h1 → Q (some (.int r)) h1) : Ends X dp 91 0 [.ref 0, .int p, .int a, .int x] [] h Q := by
  have hh := hi.1.1
  have r1 : h.2.1 1 0 = h.2.1 93 0 := hi.1.2.2.2.2.2.2.1
  have b := hh.iv 1 0 (r := (0, 7)) rfl
  simp only at b
  obtain ⟨p1, p2, p3, p4, ⟨a1, a2⟩, p6⟩ := id hi.2
  refine Ends.dpl hd (cact_ok p a x hh (fun c => ?_) (fun c c2 h1 z1 z2 z3 z4 => ?_))
  · have r4 := fIr 51 4 0 (by decide +kernel)
    have g1 : HI (hpI h 51 4 0) := HI_put hh r4.1 r4.2
    have g2 : HI (hpI (hpI h 51 4 0) 93 58 0) := HI_put g1 (by show (0 : Int) ≤ 0; decide) (by show (0 : Int) ≤ 100; decide)
    have f : frm WAC h (hpI (hpI h 51 4 0) 93 58 0) := frm_put (frm_put frm_refl rfl) rfl
    have e0 : (hpI h 51 4 0).2.1 93 0 = h.2.1 1 0 := by rw [put_ne (by omega), r1]
    refine hQ _ _ g1 (Ends.dpl hd (mact_ok p a x g1 (fun _ => ⟨_, rfl, g1.hs, hK _ _ ⟨INV_fr (W := WAC) (by decide) g2 f hi.1, EK_f (W := WAC) (by decide) f p1, ER_f (W := WAC) (by decide) f p2, EB_f (W := WAC) (by decide) f p3, ES_f (W := WAC) (by decide) f p4, ⟨?_, ?_⟩, ET_f (W := WAC) (by decide) f p6⟩ f⟩) (fun d d2 => absurd ⟨by rw [e0] at d; exact d, d2⟩ c)))
    · exact eqr_fr (fun j => by rw [put_ne (by omega), put_ne (by omega)]) (fun j => by rw [put_ne (by omega), put_ne (by omega)]) a1
    · rw [put_ne (by omega), put_at, put_at]
  · have hn : p.toInt.toNat < 7 := by have := c.1; have := c.2; omega
    have e0 : h1.2.1 93 0 = h.2.1 1 0 := by rw [frI z2 rfl, r1]
    have ek : h1.2.1 94 p.toInt.toNat = h.2.1 2 p.toInt.toNat := by rw [frI z2 (by simp [inW, WCA])]; exact (p1.1 _ hn).symm
    have ev : h1.2.1 95 p.toInt.toNat = h.2.1 3 p.toInt.toNat := by rw [frI z2 (by simp [inW, WCA])]; exact (p1.2.1 _ hn).symm
    refine hQ _ h1 z1 (Ends.dpl hd (mact_ok p a x z1 (fun d => absurd ⟨by rw [e0]; exact c, c2⟩ d) (fun _ _ h2 y1 y2 y3 y4 => ⟨_, rfl, y1.hs, ?_⟩)))
    rw [ek] at y3 y4 ⊢
    rw [ev]
    have f : frm WAC h h2 := frm_trans (frm_mono (by decide) z2) (frm_mono (by decide) y2)
    refine hK _ h2 ⟨INV_fr (W := WAC) (by decide) y1 f hi.1, EK_f (W := WAC) (by decide) f p1, ER_f (W := WAC) (by decide) f p2, EB_f (W := WAC) (by decide) f p3, ES_f (W := WAC) (by decide) f p4, ⟨fun j hj => ?_, ?_⟩, ET_f (W := WAC) (by decide) f p6⟩ f
    · rw [frI y2 (a := 52) (by simp [inW, WMA]), z4 j, y4 j, frI z2 (a := 122) (by simp [inW, WCA])]
      split
      · rfl
      · exact a1 j hj
    · rw [frI y2 (a := 51) rfl]
      exact Int32.toInt_inj.mp (by rw [z3, y3])
/-! the trace -/
theorem ctrc_ok (i : Int32) (hh : HI h) (q1 : ¬ (0 ≤ i.toInt ∧ i.toInt < 20 ∧ i.toInt < (h.2.1 51 4).toInt) → Q (some (.int (-1))) h) (q2 : (0 ≤ i.toInt ∧ i.toInt < 20 ∧ i.toInt < (h.2.1 51 4).toInt) → Q (some (.int (h.2.1 52 i.toInt.toNat))) h) : Ends X dp 92 0 [.ref 0, .int i] [] h Q := by
  have j20 : (20 : Int32).toInt = 20 := rfl
  refine w_ctrc i hh.hs ⟨fun e => q1 ?_, fun e => ⟨fun e2 => q1 ?_, fun e2 => ⟨fun e3 => q1 ?_, fun e3 => ?_⟩⟩⟩
  · have e : i.toInt < 0 := of_decide_eq_true (cI e)
    omega
  · have e2 : 20 ≤ i.toInt := of_decide_eq_true (cI e2)
    omega
  · have e3 : (h.2.1 51 4).toInt ≤ i.toInt := of_decide_eq_true (cI e3)
    omega
  · have e : ¬ i.toInt < 0 := of_decide_eq_false (cI e)
    have e2 : ¬ 20 ≤ i.toInt := of_decide_eq_false (cI e2)
    have e3 : ¬ (h.2.1 51 4).toInt ≤ i.toInt := of_decide_eq_false (cI e3)
    exact ⟨inB_iff (by omega) (by omega), q2 (by omega)⟩
theorem mtrc_ok (i : Int32) (hh : HI h) (q1 : ¬ (0 ≤ i.toInt ∧ i.toInt < 20 ∧ i.toInt < (h.2.1 93 58).toInt) → Q (some (.int (-1))) h) (q2 : (0 ≤ i.toInt ∧ i.toInt < 20 ∧ i.toInt < (h.2.1 93 58).toInt) → Q (some (.int (h.2.1 122 i.toInt.toNat))) h) : Ends X (dp + 1) 195 0 [.ref 93, .int i] [] h Q := by
  have j0 : (0 : Int32).toInt = 0 := rfl
  have j19 : (19 : Int32).toInt = 19 := rfl
  refine w_mtrc i hh.hs (in_ok _ _ _ hh.hs ⟨_, rfl, hh.hs, fun e => q1 ?_, fun e => ⟨fun e3 => q1 ?_, fun e3 => ?_⟩⟩)
  · have e := bnand (cz e)
    rw [j0, j19] at e
    omega
  · have e3 : (h.2.1 93 58).toInt ≤ i.toInt := of_decide_eq_true (cI e3)
    omega
  · have e := band (cn e)
    rw [j0, j19] at e
    have e3 : ¬ (h.2.1 93 58).toInt ≤ i.toInt := of_decide_eq_false (cI e3)
    exact ⟨inB_iff (by omega) (by omega), q2 (by omega)⟩
theorem trace_pair (i : Int32) (hi : INVE h) {K : Hp → Int32 → Int32 → Prop} (hK : ∀ r h', INVE h' → frm [] h h' → K h' r r) (hQ : ∀ r h1, HI h1 → REF X (dp + 1) 195 [.ref 93, .int i] K r h1 → Q (some (.int r)) h1) : Ends X (dp + 1) 92 0 [.ref 0, .int i] [] h Q := by
  have hh := hi.1.1
  obtain ⟨p1, p2, p3, p4, ⟨a1, a2⟩, p6⟩ := id hi.2
  refine ctrc_ok i hh (fun c => ?_) (fun c => ?_)
  · rw [a2] at c
    exact hQ _ h hh (mtrc_ok i hh (fun _ => ⟨_, rfl, hh.hs, hK _ h hi frm_refl⟩) (fun d => absurd d c))
  · rw [a1 i.toInt.toNat (by omega)]
    rw [a2] at c
    exact hQ _ h hh (mtrc_ok i hh (fun d => absurd c d) (fun _ => ⟨_, rfl, hh.hs, hK _ h hi frm_refl⟩))
/-! kinds taken -/
def chn (c : Int32) : List Int32 := if c = 0 then [0] else if c = 4 then [4, 1, 0] else if c = 5 then [5, 2, 0] else if c = 6 then [6, 3, 0] else [c, 0]
def tkA (c k : Int32) : Int32 := if (chn c).contains k then c else -12
theorem ctk_ok (p c k : Int32) (hs : HS h) (hc : 0 ≤ c.toInt ∧ c.toInt ≤ 6) (hk : 0 ≤ k.toInt ∧ k.toInt ≤ 6) (hQ : Q (some (.int (tkA c k))) h) : Ends X dp 93 43 [.ref 0, .int p, .int k, .int c, .int c, .int 0] [] h Q := by
  rcases kcases hc.1 hc.2 with rfl | rfl | rfl | rfl | rfl | rfl | rfl
  · rcases kcases hk.1 hk.2 with rfl | rfl | rfl | rfl | rfl | rfl | rfl
    · rw [show tkA 0 0 = 0 from by decide] at hQ; exact w_ctk0 p 0 hs ⟨fun e => absurd e (by decide), fun _ => hQ⟩
    · rw [show tkA 0 1 = -12 from by decide] at hQ; exact w_ctk0 p 1 hs ⟨fun _ => hQ, fun e => absurd e (by decide)⟩
    · rw [show tkA 0 2 = -12 from by decide] at hQ; exact w_ctk0 p 2 hs ⟨fun _ => hQ, fun e => absurd e (by decide)⟩
    · rw [show tkA 0 3 = -12 from by decide] at hQ; exact w_ctk0 p 3 hs ⟨fun _ => hQ, fun e => absurd e (by decide)⟩
    · rw [show tkA 0 4 = -12 from by decide] at hQ; exact w_ctk0 p 4 hs ⟨fun _ => hQ, fun e => absurd e (by decide)⟩
    · rw [show tkA 0 5 = -12 from by decide] at hQ; exact w_ctk0 p 5 hs ⟨fun _ => hQ, fun e => absurd e (by decide)⟩
    · rw [show tkA 0 6 = -12 from by decide] at hQ; exact w_ctk0 p 6 hs ⟨fun _ => hQ, fun e => absurd e (by decide)⟩
  · rcases kcases hk.1 hk.2 with rfl | rfl | rfl | rfl | rfl | rfl | rfl
    · rw [show tkA 1 0 = 1 from by decide] at hQ; exact w_ctk1 p 0 hs ⟨fun _ => ⟨fun e => absurd e (by decide), fun _ => hQ⟩, fun e => absurd e (by decide)⟩
    · rw [show tkA 1 1 = 1 from by decide] at hQ; exact w_ctk1 p 1 hs ⟨fun e => absurd e (by decide), fun _ => hQ⟩
    · rw [show tkA 1 2 = -12 from by decide] at hQ; exact w_ctk1 p 2 hs ⟨fun _ => ⟨fun _ => hQ, fun e => absurd e (by decide)⟩, fun e => absurd e (by decide)⟩
    · rw [show tkA 1 3 = -12 from by decide] at hQ; exact w_ctk1 p 3 hs ⟨fun _ => ⟨fun _ => hQ, fun e => absurd e (by decide)⟩, fun e => absurd e (by decide)⟩
    · rw [show tkA 1 4 = -12 from by decide] at hQ; exact w_ctk1 p 4 hs ⟨fun _ => ⟨fun _ => hQ, fun e => absurd e (by decide)⟩, fun e => absurd e (by decide)⟩
    · rw [show tkA 1 5 = -12 from by decide] at hQ; exact w_ctk1 p 5 hs ⟨fun _ => ⟨fun _ => hQ, fun e => absurd e (by decide)⟩, fun e => absurd e (by decide)⟩
    · rw [show tkA 1 6 = -12 from by decide] at hQ; exact w_ctk1 p 6 hs ⟨fun _ => ⟨fun _ => hQ, fun e => absurd e (by decide)⟩, fun e => absurd e (by decide)⟩
  · rcases kcases hk.1 hk.2 with rfl | rfl | rfl | rfl | rfl | rfl | rfl
    · rw [show tkA 2 0 = 2 from by decide] at hQ; exact w_ctk2 p 0 hs ⟨fun _ => ⟨fun e => absurd e (by decide), fun _ => hQ⟩, fun e => absurd e (by decide)⟩
    · rw [show tkA 2 1 = -12 from by decide] at hQ; exact w_ctk2 p 1 hs ⟨fun _ => ⟨fun _ => hQ, fun e => absurd e (by decide)⟩, fun e => absurd e (by decide)⟩
    · rw [show tkA 2 2 = 2 from by decide] at hQ; exact w_ctk2 p 2 hs ⟨fun e => absurd e (by decide), fun _ => hQ⟩
    · rw [show tkA 2 3 = -12 from by decide] at hQ; exact w_ctk2 p 3 hs ⟨fun _ => ⟨fun _ => hQ, fun e => absurd e (by decide)⟩, fun e => absurd e (by decide)⟩
    · rw [show tkA 2 4 = -12 from by decide] at hQ; exact w_ctk2 p 4 hs ⟨fun _ => ⟨fun _ => hQ, fun e => absurd e (by decide)⟩, fun e => absurd e (by decide)⟩
    · rw [show tkA 2 5 = -12 from by decide] at hQ; exact w_ctk2 p 5 hs ⟨fun _ => ⟨fun _ => hQ, fun e => absurd e (by decide)⟩, fun e => absurd e (by decide)⟩
    · rw [show tkA 2 6 = -12 from by decide] at hQ; exact w_ctk2 p 6 hs ⟨fun _ => ⟨fun _ => hQ, fun e => absurd e (by decide)⟩, fun e => absurd e (by decide)⟩
  · rcases kcases hk.1 hk.2 with rfl | rfl | rfl | rfl | rfl | rfl | rfl
    · rw [show tkA 3 0 = 3 from by decide] at hQ; exact w_ctk3 p 0 hs ⟨fun _ => ⟨fun e => absurd e (by decide), fun _ => hQ⟩, fun e => absurd e (by decide)⟩
    · rw [show tkA 3 1 = -12 from by decide] at hQ; exact w_ctk3 p 1 hs ⟨fun _ => ⟨fun _ => hQ, fun e => absurd e (by decide)⟩, fun e => absurd e (by decide)⟩
    · rw [show tkA 3 2 = -12 from by decide] at hQ; exact w_ctk3 p 2 hs ⟨fun _ => ⟨fun _ => hQ, fun e => absurd e (by decide)⟩, fun e => absurd e (by decide)⟩
    · rw [show tkA 3 3 = 3 from by decide] at hQ; exact w_ctk3 p 3 hs ⟨fun e => absurd e (by decide), fun _ => hQ⟩
    · rw [show tkA 3 4 = -12 from by decide] at hQ; exact w_ctk3 p 4 hs ⟨fun _ => ⟨fun _ => hQ, fun e => absurd e (by decide)⟩, fun e => absurd e (by decide)⟩
    · rw [show tkA 3 5 = -12 from by decide] at hQ; exact w_ctk3 p 5 hs ⟨fun _ => ⟨fun _ => hQ, fun e => absurd e (by decide)⟩, fun e => absurd e (by decide)⟩
    · rw [show tkA 3 6 = -12 from by decide] at hQ; exact w_ctk3 p 6 hs ⟨fun _ => ⟨fun _ => hQ, fun e => absurd e (by decide)⟩, fun e => absurd e (by decide)⟩
  · rcases kcases hk.1 hk.2 with rfl | rfl | rfl | rfl | rfl | rfl | rfl
    · rw [show tkA 4 0 = 4 from by decide] at hQ; exact w_ctk4 p 0 hs ⟨fun _ => ⟨fun _ => ⟨fun e => absurd e (by decide), fun _ => hQ⟩, fun e => absurd e (by decide)⟩, fun e => absurd e (by decide)⟩
    · rw [show tkA 4 1 = 4 from by decide] at hQ; exact w_ctk4 p 1 hs ⟨fun _ => ⟨fun e => absurd e (by decide), fun _ => hQ⟩, fun e => absurd e (by decide)⟩
    · rw [show tkA 4 2 = -12 from by decide] at hQ; exact w_ctk4 p 2 hs ⟨fun _ => ⟨fun _ => ⟨fun _ => hQ, fun e => absurd e (by decide)⟩, fun e => absurd e (by decide)⟩, fun e => absurd e (by decide)⟩
    · rw [show tkA 4 3 = -12 from by decide] at hQ; exact w_ctk4 p 3 hs ⟨fun _ => ⟨fun _ => ⟨fun _ => hQ, fun e => absurd e (by decide)⟩, fun e => absurd e (by decide)⟩, fun e => absurd e (by decide)⟩
    · rw [show tkA 4 4 = 4 from by decide] at hQ; exact w_ctk4 p 4 hs ⟨fun e => absurd e (by decide), fun _ => hQ⟩
    · rw [show tkA 4 5 = -12 from by decide] at hQ; exact w_ctk4 p 5 hs ⟨fun _ => ⟨fun _ => ⟨fun _ => hQ, fun e => absurd e (by decide)⟩, fun e => absurd e (by decide)⟩, fun e => absurd e (by decide)⟩
    · rw [show tkA 4 6 = -12 from by decide] at hQ; exact w_ctk4 p 6 hs ⟨fun _ => ⟨fun _ => ⟨fun _ => hQ, fun e => absurd e (by decide)⟩, fun e => absurd e (by decide)⟩, fun e => absurd e (by decide)⟩
  · rcases kcases hk.1 hk.2 with rfl | rfl | rfl | rfl | rfl | rfl | rfl
    · rw [show tkA 5 0 = 5 from by decide] at hQ; exact w_ctk5 p 0 hs ⟨fun _ => ⟨fun _ => ⟨fun e => absurd e (by decide), fun _ => hQ⟩, fun e => absurd e (by decide)⟩, fun e => absurd e (by decide)⟩
    · rw [show tkA 5 1 = -12 from by decide] at hQ; exact w_ctk5 p 1 hs ⟨fun _ => ⟨fun _ => ⟨fun _ => hQ, fun e => absurd e (by decide)⟩, fun e => absurd e (by decide)⟩, fun e => absurd e (by decide)⟩
    · rw [show tkA 5 2 = 5 from by decide] at hQ; exact w_ctk5 p 2 hs ⟨fun _ => ⟨fun e => absurd e (by decide), fun _ => hQ⟩, fun e => absurd e (by decide)⟩
    · rw [show tkA 5 3 = -12 from by decide] at hQ; exact w_ctk5 p 3 hs ⟨fun _ => ⟨fun _ => ⟨fun _ => hQ, fun e => absurd e (by decide)⟩, fun e => absurd e (by decide)⟩, fun e => absurd e (by decide)⟩
    · rw [show tkA 5 4 = -12 from by decide] at hQ; exact w_ctk5 p 4 hs ⟨fun _ => ⟨fun _ => ⟨fun _ => hQ, fun e => absurd e (by decide)⟩, fun e => absurd e (by decide)⟩, fun e => absurd e (by decide)⟩
    · rw [show tkA 5 5 = 5 from by decide] at hQ; exact w_ctk5 p 5 hs ⟨fun e => absurd e (by decide), fun _ => hQ⟩
    · rw [show tkA 5 6 = -12 from by decide] at hQ; exact w_ctk5 p 6 hs ⟨fun _ => ⟨fun _ => ⟨fun _ => hQ, fun e => absurd e (by decide)⟩, fun e => absurd e (by decide)⟩, fun e => absurd e (by decide)⟩
  · rcases kcases hk.1 hk.2 with rfl | rfl | rfl | rfl | rfl | rfl | rfl
    · rw [show tkA 6 0 = 6 from by decide] at hQ; exact w_ctk6 p 0 hs ⟨fun _ => ⟨fun _ => ⟨fun e => absurd e (by decide), fun _ => hQ⟩, fun e => absurd e (by decide)⟩, fun e => absurd e (by decide)⟩
    · rw [show tkA 6 1 = -12 from by decide] at hQ; exact w_ctk6 p 1 hs ⟨fun _ => ⟨fun _ => ⟨fun _ => hQ, fun e => absurd e (by decide)⟩, fun e => absurd e (by decide)⟩, fun e => absurd e (by decide)⟩
    · rw [show tkA 6 2 = -12 from by decide] at hQ; exact w_ctk6 p 2 hs ⟨fun _ => ⟨fun _ => ⟨fun _ => hQ, fun e => absurd e (by decide)⟩, fun e => absurd e (by decide)⟩, fun e => absurd e (by decide)⟩
    · rw [show tkA 6 3 = 6 from by decide] at hQ; exact w_ctk6 p 3 hs ⟨fun _ => ⟨fun e => absurd e (by decide), fun _ => hQ⟩, fun e => absurd e (by decide)⟩
    · rw [show tkA 6 4 = -12 from by decide] at hQ; exact w_ctk6 p 4 hs ⟨fun _ => ⟨fun _ => ⟨fun _ => hQ, fun e => absurd e (by decide)⟩, fun e => absurd e (by decide)⟩, fun e => absurd e (by decide)⟩
    · rw [show tkA 6 5 = -12 from by decide] at hQ; exact w_ctk6 p 5 hs ⟨fun _ => ⟨fun _ => ⟨fun _ => hQ, fun e => absurd e (by decide)⟩, fun e => absurd e (by decide)⟩, fun e => absurd e (by decide)⟩
    · rw [show tkA 6 6 = 6 from by decide] at hQ; exact w_ctk6 p 6 hs ⟨fun e => absurd e (by decide), fun _ => hQ⟩
theorem ctak_ok (p k : Int32) (hh : HI h) (q1 : ¬ (0 ≤ k.toInt ∧ k.toInt ≤ 6) → Q (some (.int (-2))) h) (q2 : (0 ≤ k.toInt ∧ k.toInt ≤ 6) → ¬ pOK p (h.2.1 1 0) → Q (some (.int (-11))) h) (q3 : (0 ≤ k.toInt ∧ k.toInt ≤ 6) → pOK p (h.2.1 1 0) → Q (some (.int (tkA (h.2.1 2 p.toInt.toNat) k))) h) : Ends X (dp + 1) 93 0 [.ref 0, .int p, .int k, .retAddr 0, .retAddr 0, .retAddr 0] [] h Q := by
  have hs := hh.hs
  have j7 : (7 : Int32).toInt = 7 := rfl
  have b := hh.iv 1 0 (r := (0, 7)) rfl
  simp only at b
  refine w_ctak p k hs ⟨fun e => q1 ?_, fun e => ⟨fun e2 => chas_ok p hh ⟨_, rfl, hs, fun e3 => ?_, fun e3 => ?_⟩, fun e2 => q1 ?_⟩⟩
  · have e : k.toInt < 0 := of_decide_eq_true (cI e)
    omega
  · have e : ¬ k.toInt < 0 := of_decide_eq_false (cI e)
    have e2 : k.toInt < 7 := of_decide_eq_true (cI e2)
    have e3 : pOK p (h.2.1 1 0) := band (cn2 e3)
    have bk := hh.iv 2 p.toInt.toNat (r := (0, 6)) rfl
    simp only at bk
    exact ⟨inB_iff e3.1 (by have := e3.2; omega), ctk_ok p _ k hs bk (by omega) (q3 (by omega) e3)⟩
  · have e : ¬ k.toInt < 0 := of_decide_eq_false (cI e)
    have e2 : k.toInt < 7 := of_decide_eq_true (cI e2)
    exact q2 (by omega) (bnand (cz2 e3))
  · have e2 : ¬ k.toInt < 7 := of_decide_eq_false (cI e2)
    omega
theorem mtak_ok (p k : Int32) (hh : HI h) (q1 : ¬ (0 ≤ k.toInt ∧ k.toInt ≤ 6) → Q (some (.int (-2))) h) (q2 : (0 ≤ k.toInt ∧ k.toInt ≤ 6) → ¬ pOK p (h.2.1 93 0) → Q (some (.int (-11))) h) (q3 : (0 ≤ k.toInt ∧ k.toInt ≤ 6) → pOK p (h.2.1 93 0) → Q (some (.int (tkA (h.2.1 94 p.toInt.toNat) k))) h) : Ends X (dp + 1 + 1) 196 0 [.ref 93, .int p, .int k, .retAddr 0] [] h Q := by
  have hs := hh.hs
  have j0 : (0 : Int32).toInt = 0 := rfl
  have j6 : (6 : Int32).toInt = 6 := rfl
  have b := hh.iv 93 0 (r := (0, 7)) rfl
  simp only at b
  refine w_mtak p k hs (in_ok _ _ _ hs ⟨_, rfl, hs, fun e => person_ok p hh ⟨_, rfl, hs, fun e2 => ?_, fun e2 => ?_⟩, fun e => q1 ?_⟩)
  · have e := band (cn2 e)
    rw [j0, j6] at e
    have e2 : pOK p (h.2.1 93 0) := band (cn2 e2)
    have bk := hh.iv 94 p.toInt.toNat (r := (0, 6)) rfl
    simp only at bk
    refine ⟨inB_iff e2.1 (by have := e2.2; omega), ?_⟩
    have hQ := q3 e e2
    rw [show p.toNatClampNeg = p.toInt.toNat from rfl]
    clear q1 q2 q3
    generalize h.2.1 94 p.toInt.toNat = s at bk hQ ⊢
    rcases kcases bk.1 bk.2 with rfl | rfl | rfl | rfl | rfl | rfl | rfl
    · rcases kcases e.1 e.2 with rfl | rfl | rfl | rfl | rfl | rfl | rfl
      · rw [show tkA 0 0 = 0 from by decide] at hQ; exact ⟨fun _ => hQ, fun e => absurd e (by decide)⟩
      · rw [show tkA 0 1 = -12 from by decide] at hQ; exact ⟨fun e => absurd e (by decide), fun _ => ⟨fun e => absurd e (by decide), fun _ => ⟨fun e => absurd e (by decide), fun _ => ⟨fun e => absurd e (by decide), fun _ => ⟨fun _ => ⟨fun _ => hQ, fun e => absurd e (by decide)⟩, fun e => absurd e (by decide)⟩⟩⟩⟩⟩
      · rw [show tkA 0 2 = -12 from by decide] at hQ; exact ⟨fun e => absurd e (by decide), fun _ => ⟨fun e => absurd e (by decide), fun _ => ⟨fun _ => ⟨fun e => absurd e (by decide), fun _ => ⟨fun e => absurd e (by decide), fun _ => ⟨fun _ => hQ, fun e => absurd e (by decide)⟩⟩⟩, fun e => absurd e (by decide)⟩⟩⟩
      · rw [show tkA 0 3 = -12 from by decide] at hQ; exact ⟨fun e => absurd e (by decide), fun _ => ⟨fun e => absurd e (by decide), fun _ => ⟨fun _ => ⟨fun _ => ⟨fun e => absurd e (by decide), fun _ => ⟨fun _ => hQ, fun e => absurd e (by decide)⟩⟩, fun e => absurd e (by decide)⟩, fun e => absurd e (by decide)⟩⟩⟩
      · rw [show tkA 0 4 = -12 from by decide] at hQ; exact ⟨fun e => absurd e (by decide), fun _ => ⟨fun e => absurd e (by decide), fun _ => ⟨fun _ => ⟨fun _ => ⟨fun _ => hQ, fun e => absurd e (by decide)⟩, fun e => absurd e (by decide)⟩, fun e => absurd e (by decide)⟩⟩⟩
      · rw [show tkA 0 5 = -12 from by decide] at hQ; exact ⟨fun e => absurd e (by decide), fun _ => ⟨fun e => absurd e (by decide), fun _ => ⟨fun _ => ⟨fun _ => ⟨fun _ => hQ, fun e => absurd e (by decide)⟩, fun e => absurd e (by decide)⟩, fun e => absurd e (by decide)⟩⟩⟩
      · rw [show tkA 0 6 = -12 from by decide] at hQ; exact ⟨fun e => absurd e (by decide), fun _ => ⟨fun e => absurd e (by decide), fun _ => ⟨fun _ => ⟨fun _ => ⟨fun _ => hQ, fun e => absurd e (by decide)⟩, fun e => absurd e (by decide)⟩, fun e => absurd e (by decide)⟩⟩⟩
    · rcases kcases e.1 e.2 with rfl | rfl | rfl | rfl | rfl | rfl | rfl
      · rw [show tkA 1 0 = 1 from by decide] at hQ; exact ⟨fun _ => hQ, fun e => absurd e (by decide)⟩
      · rw [show tkA 1 1 = 1 from by decide] at hQ; exact ⟨fun e => absurd e (by decide), fun _ => ⟨fun _ => hQ, fun e => absurd e (by decide)⟩⟩
      · rw [show tkA 1 2 = -12 from by decide] at hQ; exact ⟨fun e => absurd e (by decide), fun _ => ⟨fun e => absurd e (by decide), fun _ => ⟨fun _ => ⟨fun e => absurd e (by decide), fun _ => ⟨fun e => absurd e (by decide), fun _ => ⟨fun _ => hQ, fun e => absurd e (by decide)⟩⟩⟩, fun e => absurd e (by decide)⟩⟩⟩
      · rw [show tkA 1 3 = -12 from by decide] at hQ; exact ⟨fun e => absurd e (by decide), fun _ => ⟨fun e => absurd e (by decide), fun _ => ⟨fun _ => ⟨fun _ => ⟨fun e => absurd e (by decide), fun _ => ⟨fun _ => hQ, fun e => absurd e (by decide)⟩⟩, fun e => absurd e (by decide)⟩, fun e => absurd e (by decide)⟩⟩⟩
      · rw [show tkA 1 4 = -12 from by decide] at hQ; exact ⟨fun e => absurd e (by decide), fun _ => ⟨fun e => absurd e (by decide), fun _ => ⟨fun _ => ⟨fun _ => ⟨fun _ => hQ, fun e => absurd e (by decide)⟩, fun e => absurd e (by decide)⟩, fun e => absurd e (by decide)⟩⟩⟩
      · rw [show tkA 1 5 = -12 from by decide] at hQ; exact ⟨fun e => absurd e (by decide), fun _ => ⟨fun e => absurd e (by decide), fun _ => ⟨fun _ => ⟨fun _ => ⟨fun _ => hQ, fun e => absurd e (by decide)⟩, fun e => absurd e (by decide)⟩, fun e => absurd e (by decide)⟩⟩⟩
      · rw [show tkA 1 6 = -12 from by decide] at hQ; exact ⟨fun e => absurd e (by decide), fun _ => ⟨fun e => absurd e (by decide), fun _ => ⟨fun _ => ⟨fun _ => ⟨fun _ => hQ, fun e => absurd e (by decide)⟩, fun e => absurd e (by decide)⟩, fun e => absurd e (by decide)⟩⟩⟩
    · rcases kcases e.1 e.2 with rfl | rfl | rfl | rfl | rfl | rfl | rfl
      · rw [show tkA 2 0 = 2 from by decide] at hQ; exact ⟨fun _ => hQ, fun e => absurd e (by decide)⟩
      · rw [show tkA 2 1 = -12 from by decide] at hQ; exact ⟨fun e => absurd e (by decide), fun _ => ⟨fun e => absurd e (by decide), fun _ => ⟨fun e => absurd e (by decide), fun _ => ⟨fun e => absurd e (by decide), fun _ => ⟨fun _ => ⟨fun _ => hQ, fun e => absurd e (by decide)⟩, fun e => absurd e (by decide)⟩⟩⟩⟩⟩
      · rw [show tkA 2 2 = 2 from by decide] at hQ; exact ⟨fun e => absurd e (by decide), fun _ => ⟨fun _ => hQ, fun e => absurd e (by decide)⟩⟩
      · rw [show tkA 2 3 = -12 from by decide] at hQ; exact ⟨fun e => absurd e (by decide), fun _ => ⟨fun e => absurd e (by decide), fun _ => ⟨fun _ => ⟨fun _ => ⟨fun e => absurd e (by decide), fun _ => ⟨fun _ => hQ, fun e => absurd e (by decide)⟩⟩, fun e => absurd e (by decide)⟩, fun e => absurd e (by decide)⟩⟩⟩
      · rw [show tkA 2 4 = -12 from by decide] at hQ; exact ⟨fun e => absurd e (by decide), fun _ => ⟨fun e => absurd e (by decide), fun _ => ⟨fun _ => ⟨fun _ => ⟨fun _ => hQ, fun e => absurd e (by decide)⟩, fun e => absurd e (by decide)⟩, fun e => absurd e (by decide)⟩⟩⟩
      · rw [show tkA 2 5 = -12 from by decide] at hQ; exact ⟨fun e => absurd e (by decide), fun _ => ⟨fun e => absurd e (by decide), fun _ => ⟨fun _ => ⟨fun _ => ⟨fun _ => hQ, fun e => absurd e (by decide)⟩, fun e => absurd e (by decide)⟩, fun e => absurd e (by decide)⟩⟩⟩
      · rw [show tkA 2 6 = -12 from by decide] at hQ; exact ⟨fun e => absurd e (by decide), fun _ => ⟨fun e => absurd e (by decide), fun _ => ⟨fun _ => ⟨fun _ => ⟨fun _ => hQ, fun e => absurd e (by decide)⟩, fun e => absurd e (by decide)⟩, fun e => absurd e (by decide)⟩⟩⟩
    · rcases kcases e.1 e.2 with rfl | rfl | rfl | rfl | rfl | rfl | rfl
      · rw [show tkA 3 0 = 3 from by decide] at hQ; exact ⟨fun _ => hQ, fun e => absurd e (by decide)⟩
      · rw [show tkA 3 1 = -12 from by decide] at hQ; exact ⟨fun e => absurd e (by decide), fun _ => ⟨fun e => absurd e (by decide), fun _ => ⟨fun e => absurd e (by decide), fun _ => ⟨fun e => absurd e (by decide), fun _ => ⟨fun _ => ⟨fun _ => hQ, fun e => absurd e (by decide)⟩, fun e => absurd e (by decide)⟩⟩⟩⟩⟩
      · rw [show tkA 3 2 = -12 from by decide] at hQ; exact ⟨fun e => absurd e (by decide), fun _ => ⟨fun e => absurd e (by decide), fun _ => ⟨fun _ => ⟨fun e => absurd e (by decide), fun _ => ⟨fun e => absurd e (by decide), fun _ => ⟨fun _ => hQ, fun e => absurd e (by decide)⟩⟩⟩, fun e => absurd e (by decide)⟩⟩⟩
      · rw [show tkA 3 3 = 3 from by decide] at hQ; exact ⟨fun e => absurd e (by decide), fun _ => ⟨fun _ => hQ, fun e => absurd e (by decide)⟩⟩
      · rw [show tkA 3 4 = -12 from by decide] at hQ; exact ⟨fun e => absurd e (by decide), fun _ => ⟨fun e => absurd e (by decide), fun _ => ⟨fun _ => ⟨fun _ => ⟨fun _ => hQ, fun e => absurd e (by decide)⟩, fun e => absurd e (by decide)⟩, fun e => absurd e (by decide)⟩⟩⟩
      · rw [show tkA 3 5 = -12 from by decide] at hQ; exact ⟨fun e => absurd e (by decide), fun _ => ⟨fun e => absurd e (by decide), fun _ => ⟨fun _ => ⟨fun _ => ⟨fun _ => hQ, fun e => absurd e (by decide)⟩, fun e => absurd e (by decide)⟩, fun e => absurd e (by decide)⟩⟩⟩
      · rw [show tkA 3 6 = -12 from by decide] at hQ; exact ⟨fun e => absurd e (by decide), fun _ => ⟨fun e => absurd e (by decide), fun _ => ⟨fun _ => ⟨fun _ => ⟨fun _ => hQ, fun e => absurd e (by decide)⟩, fun e => absurd e (by decide)⟩, fun e => absurd e (by decide)⟩⟩⟩
    · rcases kcases e.1 e.2 with rfl | rfl | rfl | rfl | rfl | rfl | rfl
      · rw [show tkA 4 0 = 4 from by decide] at hQ; exact ⟨fun _ => hQ, fun e => absurd e (by decide)⟩
      · rw [show tkA 4 1 = 4 from by decide] at hQ; exact ⟨fun e => absurd e (by decide), fun _ => ⟨fun e => absurd e (by decide), fun _ => ⟨fun e => absurd e (by decide), fun _ => ⟨fun _ => hQ, fun e => absurd e (by decide)⟩⟩⟩⟩
      · rw [show tkA 4 2 = -12 from by decide] at hQ; exact ⟨fun e => absurd e (by decide), fun _ => ⟨fun e => absurd e (by decide), fun _ => ⟨fun _ => ⟨fun e => absurd e (by decide), fun _ => ⟨fun e => absurd e (by decide), fun _ => ⟨fun _ => hQ, fun e => absurd e (by decide)⟩⟩⟩, fun e => absurd e (by decide)⟩⟩⟩
      · rw [show tkA 4 3 = -12 from by decide] at hQ; exact ⟨fun e => absurd e (by decide), fun _ => ⟨fun e => absurd e (by decide), fun _ => ⟨fun _ => ⟨fun _ => ⟨fun e => absurd e (by decide), fun _ => ⟨fun _ => hQ, fun e => absurd e (by decide)⟩⟩, fun e => absurd e (by decide)⟩, fun e => absurd e (by decide)⟩⟩⟩
      · rw [show tkA 4 4 = 4 from by decide] at hQ; exact ⟨fun e => absurd e (by decide), fun _ => ⟨fun _ => hQ, fun e => absurd e (by decide)⟩⟩
      · rw [show tkA 4 5 = -12 from by decide] at hQ; exact ⟨fun e => absurd e (by decide), fun _ => ⟨fun e => absurd e (by decide), fun _ => ⟨fun _ => ⟨fun _ => ⟨fun _ => hQ, fun e => absurd e (by decide)⟩, fun e => absurd e (by decide)⟩, fun e => absurd e (by decide)⟩⟩⟩
      · rw [show tkA 4 6 = -12 from by decide] at hQ; exact ⟨fun e => absurd e (by decide), fun _ => ⟨fun e => absurd e (by decide), fun _ => ⟨fun _ => ⟨fun _ => ⟨fun _ => hQ, fun e => absurd e (by decide)⟩, fun e => absurd e (by decide)⟩, fun e => absurd e (by decide)⟩⟩⟩
    · rcases kcases e.1 e.2 with rfl | rfl | rfl | rfl | rfl | rfl | rfl
      · rw [show tkA 5 0 = 5 from by decide] at hQ; exact ⟨fun _ => hQ, fun e => absurd e (by decide)⟩
      · rw [show tkA 5 1 = -12 from by decide] at hQ; exact ⟨fun e => absurd e (by decide), fun _ => ⟨fun e => absurd e (by decide), fun _ => ⟨fun e => absurd e (by decide), fun _ => ⟨fun e => absurd e (by decide), fun _ => ⟨fun _ => ⟨fun _ => hQ, fun e => absurd e (by decide)⟩, fun e => absurd e (by decide)⟩⟩⟩⟩⟩
      · rw [show tkA 5 2 = 5 from by decide] at hQ; exact ⟨fun e => absurd e (by decide), fun _ => ⟨fun e => absurd e (by decide), fun _ => ⟨fun _ => ⟨fun e => absurd e (by decide), fun _ => ⟨fun _ => hQ, fun e => absurd e (by decide)⟩⟩, fun e => absurd e (by decide)⟩⟩⟩
      · rw [show tkA 5 3 = -12 from by decide] at hQ; exact ⟨fun e => absurd e (by decide), fun _ => ⟨fun e => absurd e (by decide), fun _ => ⟨fun _ => ⟨fun _ => ⟨fun e => absurd e (by decide), fun _ => ⟨fun _ => hQ, fun e => absurd e (by decide)⟩⟩, fun e => absurd e (by decide)⟩, fun e => absurd e (by decide)⟩⟩⟩
      · rw [show tkA 5 4 = -12 from by decide] at hQ; exact ⟨fun e => absurd e (by decide), fun _ => ⟨fun e => absurd e (by decide), fun _ => ⟨fun _ => ⟨fun _ => ⟨fun _ => hQ, fun e => absurd e (by decide)⟩, fun e => absurd e (by decide)⟩, fun e => absurd e (by decide)⟩⟩⟩
      · rw [show tkA 5 5 = 5 from by decide] at hQ; exact ⟨fun e => absurd e (by decide), fun _ => ⟨fun _ => hQ, fun e => absurd e (by decide)⟩⟩
      · rw [show tkA 5 6 = -12 from by decide] at hQ; exact ⟨fun e => absurd e (by decide), fun _ => ⟨fun e => absurd e (by decide), fun _ => ⟨fun _ => ⟨fun _ => ⟨fun _ => hQ, fun e => absurd e (by decide)⟩, fun e => absurd e (by decide)⟩, fun e => absurd e (by decide)⟩⟩⟩
    · rcases kcases e.1 e.2 with rfl | rfl | rfl | rfl | rfl | rfl | rfl
      · rw [show tkA 6 0 = 6 from by decide] at hQ; exact ⟨fun _ => hQ, fun e => absurd e (by decide)⟩
      · rw [show tkA 6 1 = -12 from by decide] at hQ; exact ⟨fun e => absurd e (by decide), fun _ => ⟨fun e => absurd e (by decide), fun _ => ⟨fun e => absurd e (by decide), fun _ => ⟨fun e => absurd e (by decide), fun _ => ⟨fun _ => ⟨fun _ => hQ, fun e => absurd e (by decide)⟩, fun e => absurd e (by decide)⟩⟩⟩⟩⟩
      · rw [show tkA 6 2 = -12 from by decide] at hQ; exact ⟨fun e => absurd e (by decide), fun _ => ⟨fun e => absurd e (by decide), fun _ => ⟨fun _ => ⟨fun e => absurd e (by decide), fun _ => ⟨fun e => absurd e (by decide), fun _ => ⟨fun _ => hQ, fun e => absurd e (by decide)⟩⟩⟩, fun e => absurd e (by decide)⟩⟩⟩
      · rw [show tkA 6 3 = 6 from by decide] at hQ; exact ⟨fun e => absurd e (by decide), fun _ => ⟨fun e => absurd e (by decide), fun _ => ⟨fun _ => ⟨fun _ => ⟨fun e => absurd e (by decide), fun _ => ⟨fun e => absurd e (by decide), fun _ => hQ⟩⟩, fun e => absurd e (by decide)⟩, fun e => absurd e (by decide)⟩⟩⟩
      · rw [show tkA 6 4 = -12 from by decide] at hQ; exact ⟨fun e => absurd e (by decide), fun _ => ⟨fun e => absurd e (by decide), fun _ => ⟨fun _ => ⟨fun _ => ⟨fun _ => hQ, fun e => absurd e (by decide)⟩, fun e => absurd e (by decide)⟩, fun e => absurd e (by decide)⟩⟩⟩
      · rw [show tkA 6 5 = -12 from by decide] at hQ; exact ⟨fun e => absurd e (by decide), fun _ => ⟨fun e => absurd e (by decide), fun _ => ⟨fun _ => ⟨fun _ => ⟨fun _ => hQ, fun e => absurd e (by decide)⟩, fun e => absurd e (by decide)⟩, fun e => absurd e (by decide)⟩⟩⟩
      · rw [show tkA 6 6 = 6 from by decide] at hQ; exact ⟨fun e => absurd e (by decide), fun _ => ⟨fun _ => hQ, fun e => absurd e (by decide)⟩⟩
  · have e := band (cn2 e)
    rw [j0, j6] at e
    exact q2 e (bnand (cz2 e2))
  · have e := bnand (cz2 e)
    rw [j0, j6] at e
    exact e
theorem taken_pair (p k : Int32) (hi : INVE h) {K : Hp → Int32 → Int32 → Prop} (hK : ∀ r h', INVE h' → frm [] h h' → K h' r r) (hQ : ∀ r h1, HI h1 → REF X (dp + 1 + 1) 196 [.ref 93, .int p, .int k, .retAddr 0] K r h1 → Q (some (.int r)) h1) : Ends X (dp + 1 + 1) 93 0 [.ref 0, .int p, .int k, .retAddr 0, .retAddr 0, .retAddr 0] [] h Q := by
  have hh := hi.1.1
  have r1 : h.2.1 1 0 = h.2.1 93 0 := hi.1.2.2.2.2.2.2.1
  have b := hh.iv 1 0 (r := (0, 7)) rfl
  simp only at b
  refine ctak_ok p k hh (fun c => ?_) (fun c c2 => ?_) (fun c c2 => ?_)
  · exact hQ _ h hh (mtak_ok p k hh (fun _ => ⟨_, rfl, hh.hs, hK _ h hi frm_refl⟩) (fun d => absurd d c) (fun d => absurd d c))
  · rw [r1] at c2
    exact hQ _ h hh (mtak_ok p k hh (fun d => absurd c d) (fun _ _ => ⟨_, rfl, hh.hs, hK _ h hi frm_refl⟩) (fun _ d => absurd d c2))
  · have hn : p.toInt.toNat < 7 := by have := c2.1; have := c2.2; omega
    rw [hi.2.1.1 _ hn]
    rw [r1] at c2
    exact hQ _ h hh (mtak_ok p k hh (fun d => absurd c d) (fun _ d => absurd c2 d) (fun _ _ => ⟨_, rfl, hh.hs, hK _ h hi frm_refl⟩))
/-! people -/
theorem joinH_r {k v l p s : Int32} (j : Nat) : (joinH h k v l p s).2.1 2 j = (if j = (h.2.1 1 0).toInt.toNat then k else h.2.1 2 j) ∧ (joinH h k v l p s).2.1 3 j = (if j = (h.2.1 1 0).toInt.toNat then v else h.2.1 3 j) ∧ (joinH h k v l p s).2.1 5 j = (if j = (h.2.1 1 0).toInt.toNat then p else h.2.1 5 j) := by
  unfold joinH
  refine ⟨?_, ?_, ?_⟩
  · rw [put_ne (by omega), put_ne (by omega), put_ne (by omega), put_ne (by omega), put_ne (by omega), put_if]
  · rw [put_ne (by omega), put_ne (by omega), put_ne (by omega), put_ne (by omega), put_if, put_ne (by omega)]
  · rw [put_ne (by omega), put_ne (by omega), put_if, put_ne (by omega), put_ne (by omega), put_ne (by omega)]
theorem joinH_f {k v l p s : Int32} {a j : Nat} (q : inW [(2, 999), (3, 999), (4, 999), (5, 999), (6, 999), (1, 0)] a j = false) : (joinH h k v l p s).2.1 a j = h.2.1 a j := by
  simp [inW] at q
  unfold joinH
  rw [put_ne (by omega), put_ne (by omega), put_ne (by omega), put_ne (by omega), put_ne (by omega), put_ne (by omega)]
theorem per_pairE (k v l p s : Int32) (hi : INVE h) {K : Hp → Int32 → Int32 → Prop} (hK : ∀ r h', INVE h' → frm WPJ h h' → K h' r r) (hQ : ∀ r h1, HI h1 → REF X (dp + 1) 114 [.ref 93, .int k, .int v, .int l, .int p, .int s, .retAddr 0] K r h1 → Q (some (.int r)) h1) : Ends X (dp + 1) 63 0 [.ref 0, .int k, .int v, .int l, .int p, .int s] [] h Q := by
  have hh := hi.1.1
  have r1 : h.2.1 1 0 = h.2.1 93 0 := hi.1.2.2.2.2.2.2.1
  have b := hh.iv 1 0 (r := (0, 7)) rfl
  simp only at b
  obtain ⟨⟨k1, k2, k3, k4, k5, k6⟩, ⟨w1, w2, w3, w4⟩, p3, p4, p5, p6⟩ := id hi.2
  refine cper_ok k v l p s hh ?_
  by_cases c : perOK (h.2.1 1 0) k v l p s = true
  · rw [if_pos c]
    obtain ⟨gc, fc, c1, c0⟩ := joinH_ok hh c
    have uh : ∀ a j, inW [(2, 999), (3, 999), (4, 999), (5, 999), (6, 999), (1, 0)] a j = false → (joinH h k v l p s).2.1 a j = h.2.1 a j := fun a j q => joinH_f q
    have jr := fun j => joinH_r (h := h) (k := k) (v := v) (l := l) (p := p) (s := s) j
    have n7 : ¬ (h.2.1 1 0).toInt = 7 := by
      have := c
      unfold perOK at this
      simp only [Bool.and_eq_true, Bool.not_eq_true', decide_eq_false_iff_not] at this
      exact this.2
    generalize joinH h k v l p s = hc at gc fc c1 c0 jr uh
    refine hQ _ hc gc ?_
    refine mper_ok k v l p s gc (fun h' z1 z2 z3 => ⟨_, rfl, z1.hs, ?_⟩)
    rw [c0, ← r1] at z3 ⊢
    rw [if_pos c] at z3
    refine hK _ h' ?_ (frm_trans fc (frm_mono (by decide) z2))
    obtain ⟨y0, y1, y2, y3, y4, y5, y6, y7⟩ := z3
    rw [c0, ← r1] at y2 y3 y5 y7 y0
    have f : frm WPJ h h' := frm_trans fc (frm_mono (by decide) z2)
    have u : ∀ a j, inW WPE a j = false → h'.2.1 a j = hc.2.1 a j := fun a j q => frI z2 q
    have u2 : ∀ a j, inW WPJ a j = false → hc.2.1 a j = h.2.1 a j := fun a j q => frI fc q
    have e10 : h'.2.1 1 0 = h.2.1 1 0 + 1 := by rw [u 1 0 rfl, c1]
    have g1 : (h.2.1 1 0 + 1).toInt = (h.2.1 1 0).toInt + 1 := by rw [i_add (by rw [i1]; omega) (by rw [i1]; omega), i1]
    refine ⟨INV_of (W := WPJ) (by decide) hi.1 z1 f ?_ ?_ ?_ ?_ ?_ ?_ ?_ ?_, ⟨fun j hj => ?_, fun j hj => ?_, fun j hj => ?_, ?_, ?_, ?_⟩, ⟨fun j hj => ?_, ?_, fun j q1 q2 => ?_, ?_⟩, EB_f (W := WPJ) (by decide) f p3, ES_f (W := WPJ) (by decide) f p4, EA_f (W := WPJ) (by decide) f p5, ET_f (W := WPJ) (by decide) f p6⟩
    · rw [frI f rfl]; exact hi.1.2.1.1.1
    · rw [frI f rfl]; exact hi.1.2.1.1.2.1
    · rw [frI f rfl]; exact hi.1.2.2.1
    · rw [frI f rfl]; exact hi.1.2.2.2.1
    · rw [frI f rfl]; exact hi.1.2.2.2.2.1
    · rw [e10, y0]
    · rw [frI f rfl, frI f rfl]; exact hi.1.2.2.2.2.2.2.2.1
    · rw [frI f rfl, frI f rfl]; exact hi.1.2.2.2.2.2.2.2.2
    · rw [u 2 j (by simp [inW, WPE]), (jr j).1, y2 j, show hc.2.1 94 j = h.2.1 94 j from uh 94 j (by simp [inW])]
      split
      · rfl
      · exact k1 j hj
    · rw [u 3 j (by simp [inW, WPE]), (jr j).2.1, y3 j, show hc.2.1 95 j = h.2.1 95 j from uh 95 j (by simp [inW])]
      split
      · rfl
      · exact k2 j hj
    · rw [u 5 j (by simp [inW, WPE]), (jr j).2.2, y5 j, show hc.2.1 97 j = h.2.1 97 j from uh 97 j (by simp [inW])]
      split
      · rfl
      · exact k3 j hj
    · exact eqr_fr (fun j => frI f (by simp [inW, WPJ])) (fun j => frI f (by simp [inW, WPJ])) k4
    · exact eqr_fr (fun j => frI f (by simp [inW, WPJ])) (fun j => frI f (by simp [inW, WPJ])) k5
    · exact eqr_fr (fun j => frI f (by simp [inW, WPJ])) (fun j => frI f (by simp [inW, WPJ])) k6
    · rw [frI f (a := 7) (by simp [inW, WPJ]), y7 j, show hc.2.1 99 j = h.2.1 99 j from uh 99 j (by simp [inW])]
      split
      · exact w3 j (by omega) hj
      · exact w1 j hj
    · exact eqr_fr (fun j => frI f (by simp [inW, WPJ])) (fun j => frI f (by simp [inW, WPJ])) w2
    · rw [e10, g1] at q1
      rw [frI f (a := 7) (by simp [inW, WPJ])]
      exact w3 j (by omega) q2
    · exact zrr_fr (fun j => frI f (by simp [inW, WPJ])) (frI f rfl) w4
  · rw [if_neg c]
    refine hQ _ h hh (mper_ok k v l p s hh (fun h' z1 z2 z3 => ⟨_, rfl, z1.hs, ?_⟩))
    rw [← r1] at z3 ⊢
    rw [if_neg c] at z3
    rw [z3]
    exact hK _ h hi frm_refl
/-! the image -/
theorem hpM_at {a b n k : Nat} (hk : k < n) : (hpM h a b 0 0 n).2.1 a k = h.2.1 b k := by
  show (if a = a then va_cpy (h.2.1 b) (h.2.1 a) 0 0 n else h.2.1 a) k = _
  rw [if_pos rfl]
  unfold va_cpy
  rw [if_pos (by omega), Nat.zero_add, Nat.sub_zero]
theorem bec_1 {a b j : Nat} (hab : a + 8 ≤ b ∨ b + 8 ≤ a) (hj : j < 7) : (bec h a b).2.1 (a + 1) j = h.2.1 (b + 1) j := by
  unfold bec
  rw [put_ne (by omega), put_ne (by omega), hpM_ne (by omega), put_ne (by omega), put_ne (by omega), put_ne (by omega), hpM_ne (by omega), hpM_ne (by omega), hpM_ne (by omega), hpM_ne (by omega), hpM_ne (by omega), hpM_at hj, put_ne (by omega)]
theorem bec_2 {a b j : Nat} (hab : a + 8 ≤ b ∨ b + 8 ≤ a) (hj : j < 7) : (bec h a b).2.1 (a + 2) j = h.2.1 (b + 2) j := by
  unfold bec
  rw [put_ne (by omega), put_ne (by omega), hpM_ne (by omega), put_ne (by omega), put_ne (by omega), put_ne (by omega), hpM_ne (by omega), hpM_ne (by omega), hpM_ne (by omega), hpM_ne (by omega), hpM_at hj, hpM_ne (by omega), put_ne (by omega)]
theorem bec_3 {a b j : Nat} (hab : a + 8 ≤ b ∨ b + 8 ≤ a) (hj : j < 7) : (bec h a b).2.1 (a + 3) j = h.2.1 (b + 3) j := by
  unfold bec
  rw [put_ne (by omega), put_ne (by omega), hpM_ne (by omega), put_ne (by omega), put_ne (by omega), put_ne (by omega), hpM_ne (by omega), hpM_ne (by omega), hpM_ne (by omega), hpM_at hj, hpM_ne (by omega), hpM_ne (by omega), put_ne (by omega)]
theorem bec_4 {a b j : Nat} (hab : a + 8 ≤ b ∨ b + 8 ≤ a) (hj : j < 7) : (bec h a b).2.1 (a + 4) j = h.2.1 (b + 4) j := by
  unfold bec
  rw [put_ne (by omega), put_ne (by omega), hpM_ne (by omega), put_ne (by omega), put_ne (by omega), put_ne (by omega), hpM_ne (by omega), hpM_ne (by omega), hpM_at hj, hpM_ne (by omega), hpM_ne (by omega), hpM_ne (by omega), put_ne (by omega)]
theorem bec_5 {a b j : Nat} (hab : a + 8 ≤ b ∨ b + 8 ≤ a) (hj : j < 7) : (bec h a b).2.1 (a + 5) j = h.2.1 (b + 5) j := by
  unfold bec
  rw [put_ne (by omega), put_ne (by omega), hpM_ne (by omega), put_ne (by omega), put_ne (by omega), put_ne (by omega), hpM_ne (by omega), hpM_at hj, hpM_ne (by omega), hpM_ne (by omega), hpM_ne (by omega), hpM_ne (by omega), put_ne (by omega)]
theorem bec_6 {a b j : Nat} (hab : a + 8 ≤ b ∨ b + 8 ≤ a) (hj : j < 28) : (bec h a b).2.1 (a + 6) j = h.2.1 (b + 6) j := by
  unfold bec
  rw [put_ne (by omega), put_ne (by omega), hpM_ne (by omega), put_ne (by omega), put_ne (by omega), put_ne (by omega), hpM_at hj, hpM_ne (by omega), hpM_ne (by omega), hpM_ne (by omega), hpM_ne (by omega), hpM_ne (by omega), put_ne (by omega)]
theorem bec_7 {a b j : Nat} (hab : a + 8 ≤ b ∨ b + 8 ≤ a) (hj : j < 12) : (bec h a b).2.1 (a + 7) j = h.2.1 (b + 7) j := by
  unfold bec
  rw [put_ne (by omega), put_ne (by omega), hpM_at hj, put_ne (by omega), put_ne (by omega), put_ne (by omega), hpM_ne (by omega), hpM_ne (by omega), hpM_ne (by omega), hpM_ne (by omega), hpM_ne (by omega), hpM_ne (by omega), put_ne (by omega)]
theorem bec_f9 {a b : Nat} : (bec h a b).2.1 a 9 = h.2.1 b 9 := by
  unfold bec
  rw [put_ne (by omega), put_ne (by omega), hpM_ne (by omega), put_at]
theorem bec_f11 {a b : Nat} : (bec h a b).2.1 a 11 = h.2.1 b 11 := by
  unfold bec
  rw [put_ne (by omega), put_at]
theorem bec_f12 {a b : Nat} : (bec h a b).2.1 a 12 = h.2.1 b 12 := by
  unfold bec
  rw [put_at]
theorem bec_o {a b c k : Nat} (hc : c < a ∨ a + 8 ≤ c) : (bec h a b).2.1 c k = h.2.1 c k := by
  unfold bec
  rw [put_ne (by omega), put_ne (by omega), hpM_ne (by omega), put_ne (by omega), put_ne (by omega), put_ne (by omega), hpM_ne (by omega), hpM_ne (by omega), hpM_ne (by omega), hpM_ne (by omega), hpM_ne (by omega), hpM_ne (by omega), put_ne (by omega)]
theorem img_pairE (hi : INVE h) {K : Hp → Int32 → Int32 → Prop} (hK : ∀ r h', INVE h' → frm WIM h h' → h'.2.1 9 12 = h.2.1 1 12 → h'.2.1 93 45 = h.2.1 93 10 → K h' r r) (hQ : ∀ r h1, HI h1 → REF X (dp + 1) 184 [.ref 93, .retAddr 0] K r h1 → Q (some (.int r)) h1) : Ends X (dp + 1) 89 0 [.ref 0] [] h Q := by
  have hh := hi.1.1
  obtain ⟨-, ⟨⟨t1, t2, t3⟩, j1⟩, hg, hs9, hq9, hrx, r1, r2, r3⟩ := id hi.1
  obtain ⟨⟨k1, k2, k3, k4, k5, k6⟩, ⟨w1, w2, w3, w4⟩, ⟨s1, s2, s3, s4⟩, ⟨v1, v2⟩, p5, p6⟩ := id hi.2
  have e1 := cimg_ok (X := X) (dp := dp) (h := h) (Q := fun v h' => v = some (.int (h.2.1 1 0)) ∧ h' = hpI (bec h 9 1) 0 2 1) hh.hs ⟨rfl, rfl⟩
  have e2 := gd1 161 (T := k_161) (by rfl) X (dp + 1) (fun _ => 0) h [.ref 0] (by show 1 ≤ dp + 1; omega) hh (fun q => by cases q) (fun v q hq => by cases hq) ⟨⟨0, rfl, List.mem_singleton.mpr rfl⟩, trivial⟩ (fun q hq => by cases hq)
  refine (e1.and e2).mono ?_
  rintro v hc ⟨⟨rfl, rfl⟩, gc, fc, -⟩
  have c9 : (hpI (bec h 9 1) 0 2 1).2.1 9 0 = h.2.1 1 0 := by rw [put_ne (by omega), bec_0]
  have c2 : (hpI (bec h 9 1) 0 2 1).2.1 0 2 = 1 := put_at
  have ce1 : ∀ j, j < 7 → (hpI (bec h 9 1) 0 2 1).2.1 10 j = h.2.1 2 j := fun j hj => by rw [put_ne (by omega)]; exact bec_1 (a := 9) (b := 1) (by omega) hj
  have ce2 : ∀ j, j < 7 → (hpI (bec h 9 1) 0 2 1).2.1 11 j = h.2.1 3 j := fun j hj => by rw [put_ne (by omega)]; exact bec_2 (a := 9) (b := 1) (by omega) hj
  have ce4 : ∀ j, j < 7 → (hpI (bec h 9 1) 0 2 1).2.1 13 j = h.2.1 5 j := fun j hj => by rw [put_ne (by omega)]; exact bec_4 (a := 9) (b := 1) (by omega) hj
  have ce6 : ∀ j, j < 28 → (hpI (bec h 9 1) 0 2 1).2.1 15 j = h.2.1 7 j := fun j hj => by rw [put_ne (by omega)]; exact bec_6 (a := 9) (b := 1) (by omega) hj
  have ce7 : ∀ j, j < 12 → (hpI (bec h 9 1) 0 2 1).2.1 16 j = h.2.1 8 j := fun j hj => by rw [put_ne (by omega)]; exact bec_7 (a := 9) (b := 1) (by omega) hj
  have cf9 : (hpI (bec h 9 1) 0 2 1).2.1 9 9 = h.2.1 1 9 := by rw [put_ne (by omega)]; exact bec_f9
  have cf11 : (hpI (bec h 9 1) 0 2 1).2.1 9 11 = h.2.1 1 11 := by rw [put_ne (by omega)]; exact bec_f11
  have cf12 : (hpI (bec h 9 1) 0 2 1).2.1 9 12 = h.2.1 1 12 := by rw [put_ne (by omega)]; exact bec_f12
  have uh : ∀ c k, 93 ≤ c → (hpI (bec h 9 1) 0 2 1).2.1 c k = h.2.1 c k := fun c k q => by rw [put_ne (by omega)]; exact bec_o (by omega)
  generalize hpI (bec h 9 1) 0 2 1 = hc at *
  have fc : frm (cW k_161) h hc := fc
  have c0 : hc.2.1 93 0 = h.2.1 93 0 := uh 93 0 (by omega)
  refine hQ _ hc gc (mimg_ok gc (fun h' z1 z2 z3 x7 x6 x1 x2 x3 x4 x5 => ⟨_, rfl, z1.hs, ?_⟩))
  rw [c0, ← r1]
  refine hK _ h' ?_ (frm_trans (frm_mono (by decide) fc) (frm_mono (by decide) z2)) (by rw [frI z2 (a := 9) rfl]; exact cf12) (by rw [z3.2.1]; exact uh 93 10 (by omega))
  have f : frm WIM h h' := frm_trans (frm_mono (by decide) fc) (frm_mono (by decide) z2)
  obtain ⟨y1, y2, y3, y4, y5, y6, y7⟩ := z3
  have sz : h'.2.1 9 0 = h.2.1 1 0 := by rw [frI z2 (a := 9) rfl, c9]
  have iv : INV h' := by
    refine INV_of (W := WIM) (by decide) hi.1 z1 f ?_ ?_ ?_ ?_ ?_ ?_ ?_ ?_
    · rw [frI f rfl]; exact t1
    · rw [y2, frI fc rfl]; exact t1
    · rw [frI f rfl]; exact hg
    · rw [frI f rfl]; exact hs9
    · rw [y4, frI fc rfl]; exact hs9
    · rw [frI f rfl, frI f rfl]; exact r1
    · rw [sz, y3, c0]; exact r1
    · rw [frI z2 (a := 0) rfl, c2, y1]
  exact ⟨iv, ⟨eqr_fr (fun j => frI f (by simp [inW, WIM, cW, k_161, Wmig, w_11])) (fun j => frI f (by simp [inW, WIM, cW, k_161, Wmig, w_11])) k1, eqr_fr (fun j => frI f (by simp [inW, WIM, cW, k_161, Wmig, w_11])) (fun j => frI f (by simp [inW, WIM, cW, k_161, Wmig, w_11])) k2, eqr_fr (fun j => frI f (by simp [inW, WIM, cW, k_161, Wmig, w_11])) (fun j => frI f (by simp [inW, WIM, cW, k_161, Wmig, w_11])) k3, fun j hj => by
      rw [frI z2 (a := 10) (by simp [inW, Wmig]), ce1 j hj, x1 j hj, uh 94 j (by omega)]
      exact k1 j hj, fun j hj => by
      rw [frI z2 (a := 11) (by simp [inW, Wmig]), ce2 j hj, x2 j hj, uh 95 j (by omega)]
      exact k2 j hj, fun j hj => by
      rw [frI z2 (a := 13) (by simp [inW, Wmig]), ce4 j hj, x4 j hj, uh 97 j (by omega)]
      exact k3 j hj⟩, ⟨eqr_fr (fun j => frI f (by simp [inW, WIM, cW, k_161, Wmig, w_11])) (fun j => frI f (by simp [inW, WIM, cW, k_161, Wmig, w_11])) w1, fun j hj => by
      rw [frI z2 (a := 15) (by simp [inW, Wmig]), ce6 j hj, x6 j hj, uh 99 j (by omega)]
      exact w1 j hj, zrr_fr (fun j => frI f (by simp [inW, WIM, cW, k_161, Wmig, w_11])) (frI f (by simp [inW, WIM, cW, k_161, Wmig, w_11])) w3, fun j q1 q2 => by
      rw [sz] at q1
      rw [frI z2 (a := 15) (by simp [inW, Wmig]), ce6 j q2]
      exact w3 j q1 q2⟩, ⟨eqr_fr (fun j => frI f (by simp [inW, WIM, cW, k_161, Wmig, w_11])) (fun j => frI f (by simp [inW, WIM, cW, k_161, Wmig, w_11])) s1, fun j hj => by
      rw [frI z2 (a := 16) (by simp [inW, Wmig]), ce7 j hj, x7 j hj, uh 114 j (by omega)]
      exact s1 j hj, by rw [frI f (a := 1) (by simp [inW, WIM, cW, k_161, Wmig, w_11]), frI f (a := 93) (k := 42) (by simp [inW, WIM, cW, k_161, Wmig, w_11])]; exact s3, by rw [frI z2 (a := 9) (by simp [inW, Wmig]), cf11, y7, uh 93 42 (by omega)]; exact s3⟩, ⟨by rw [frI f (a := 1) (by simp [inW, WIM, cW, k_161, Wmig, w_11]), frI f (a := 93) (k := 41) (by simp [inW, WIM, cW, k_161, Wmig, w_11])]; exact v1, by rw [frI z2 (a := 9) (by simp [inW, Wmig]), cf9, y6, uh 93 41 (by omega)]; exact v1⟩, EA_f (W := WIM) (by decide) f p5, ET_f (W := WIM) (by decide) f p6⟩
theorem und_pairE (hi : INVE h) {K : Hp → Int32 → Int32 → Prop} (hK : ∀ r h', INVE h' → frm WUN h h' → (h' = h ∨ (h'.2.1 1 12 = h.2.1 9 12 ∧ h'.2.1 93 10 = h.2.1 93 45)) → K h' r r) (hQ : ∀ r h1, HI h1 → REF X (dp + 1) 185 [.ref 93, .retAddr 0] K r h1 → Q (some (.int r)) h1) : Ends X (dp + 1) 90 0 [.ref 0] [] h Q := by
  have hh := hi.1.1
  obtain ⟨-, ⟨⟨t1, t2, t3⟩, j1⟩, hg, hs9, hq9, hrx, r1, r2, r3⟩ := id hi.1
  obtain ⟨⟨k1, k2, k3, k4, k5, k6⟩, ⟨w1, w2, w3, w4⟩, ⟨s1, s2, s3, s4⟩, ⟨v1, v2⟩, p5, p6⟩ := id hi.2
  have e1 := cund_ok (X := X) (dp := dp) (h := h) (Q := fun v h' => ((h.2.1 0 2).toInt = 0 ∧ v = some (.int (-3)) ∧ h' = h) ∨ (¬ (h.2.1 0 2).toInt = 0 ∧ v = some (.int (h.2.1 9 0)) ∧ h' = bec h 1 9)) hh.hs (fun q => Or.inl ⟨q, rfl, rfl⟩) (fun q => Or.inr ⟨q, rfl, rfl⟩)
  have e2 := gd1 163 (T := k_163) (by rfl) X (dp + 1) (fun _ => 0) h [.ref 0] (by show 1 ≤ dp + 1; omega) hh (fun q => by cases q) (fun v q hq => by cases hq) ⟨⟨0, rfl, List.mem_singleton.mpr rfl⟩, trivial⟩ (fun q hq => by cases hq)
  refine (e1.and e2).mono ?_
  rintro v hc ⟨⟨q, rfl, rfl⟩ | ⟨q, rfl, rfl⟩, gc, fc, -⟩
  · refine hQ _ _ gc (mund_ok gc (fun _ => ⟨_, rfl, gc.hs, hK _ _ hi frm_refl (Or.inl rfl)⟩) (fun n => absurd q ?_))
    rw [r3]
    exact n
  · have c1 : (bec h 1 9).2.1 1 0 = h.2.1 9 0 := bec_0
    have ce1 : ∀ j, j < 7 → (bec h 1 9).2.1 2 j = h.2.1 10 j := fun j hj => bec_1 (a := 1) (b := 9) (by omega) hj
    have ce2 : ∀ j, j < 7 → (bec h 1 9).2.1 3 j = h.2.1 11 j := fun j hj => bec_2 (a := 1) (b := 9) (by omega) hj
    have ce4 : ∀ j, j < 7 → (bec h 1 9).2.1 5 j = h.2.1 13 j := fun j hj => bec_4 (a := 1) (b := 9) (by omega) hj
    have ce6 : ∀ j, j < 28 → (bec h 1 9).2.1 7 j = h.2.1 15 j := fun j hj => bec_6 (a := 1) (b := 9) (by omega) hj
    have ce7 : ∀ j, j < 12 → (bec h 1 9).2.1 8 j = h.2.1 16 j := fun j hj => bec_7 (a := 1) (b := 9) (by omega) hj
    have cf9 : (bec h 1 9).2.1 1 9 = h.2.1 9 9 := bec_f9
    have cf11 : (bec h 1 9).2.1 1 11 = h.2.1 9 11 := bec_f11
    have cf12 : (bec h 1 9).2.1 1 12 = h.2.1 9 12 := bec_f12
    have uh : ∀ c k, 93 ≤ c → (bec h 1 9).2.1 c k = h.2.1 c k := fun c k q => bec_o (by omega)
    generalize bec h 1 9 = hc at *
    have fc : frm (cW k_163) h hc := fc
    have c44 : hc.2.1 93 44 = h.2.1 93 44 := uh 93 44 (by omega)
    have c46 : hc.2.1 93 46 = h.2.1 93 46 := uh 93 46 (by omega)
    refine hQ _ hc gc (mund_ok gc (fun n => absurd n (by rw [c44, ← r3]; exact q)) (fun _ h' z1 z2 z3 x7 x6 x1 x2 x3 x4 x5 => ⟨_, rfl, z1.hs, ?_⟩))
    rw [c46, ← r2]
    refine hK _ h' ?_ (frm_trans (frm_mono (by decide) fc) (frm_mono (by decide) z2)) (Or.inr ⟨by rw [frI z2 (a := 1) rfl]; exact cf12, by rw [z3.1]; exact uh 93 45 (by omega)⟩)
    have f : frm WUN h h' := frm_trans (frm_mono (by decide) fc) (frm_mono (by decide) z2)
    obtain ⟨y1, y2, y3, y4, y5, y6⟩ := z3
    have sz : h'.2.1 1 0 = h.2.1 9 0 := by rw [frI z2 (a := 1) rfl, c1]
    have iv : INV h' := by
      refine INV_of (W := WUN) (by decide) hi.1 z1 f ?_ ?_ ?_ ?_ ?_ ?_ ?_ ?_
      · rw [y1, frI fc rfl]; exact t2
      · rw [frI f rfl]; exact t2
      · rw [frI f rfl]; exact hg
      · rw [y3, frI fc rfl]; exact hq9
      · rw [frI f rfl]; exact hq9
      · rw [sz, y2, c46, r2]
      · rw [frI f rfl, frI f rfl]; exact r2
      · rw [frI f rfl, frI f rfl]; exact r3
    exact ⟨iv, ⟨fun j hj => by
      rw [frI z2 (a := 2) (by simp [inW, Wmun]), ce1 j hj, x1 j hj, uh 115 j (by omega)]
      exact k4 j hj, fun j hj => by
      rw [frI z2 (a := 3) (by simp [inW, Wmun]), ce2 j hj, x2 j hj, uh 116 j (by omega)]
      exact k5 j hj, fun j hj => by
      rw [frI z2 (a := 5) (by simp [inW, Wmun]), ce4 j hj, x4 j hj, uh 118 j (by omega)]
      exact k6 j hj, eqr_fr (fun j => frI f (by simp [inW, WUN, cW, k_163, Wmun, w_12])) (fun j => frI f (by simp [inW, WUN, cW, k_163, Wmun, w_12])) k4, eqr_fr (fun j => frI f (by simp [inW, WUN, cW, k_163, Wmun, w_12])) (fun j => frI f (by simp [inW, WUN, cW, k_163, Wmun, w_12])) k5, eqr_fr (fun j => frI f (by simp [inW, WUN, cW, k_163, Wmun, w_12])) (fun j => frI f (by simp [inW, WUN, cW, k_163, Wmun, w_12])) k6⟩, ⟨fun j hj => by
      rw [frI z2 (a := 7) (by simp [inW, Wmun]), ce6 j hj, x6 j hj, uh 120 j (by omega)]
      exact w2 j hj, eqr_fr (fun j => frI f (by simp [inW, WUN, cW, k_163, Wmun, w_12])) (fun j => frI f (by simp [inW, WUN, cW, k_163, Wmun, w_12])) w2, fun j q1 q2 => by
      rw [sz] at q1
      rw [frI z2 (a := 7) (by simp [inW, Wmun]), ce6 j q2]
      exact w4 j q1 q2, zrr_fr (fun j => frI f (by simp [inW, WUN, cW, k_163, Wmun, w_12])) (frI f (by simp [inW, WUN, cW, k_163, Wmun, w_12])) w4⟩, ⟨fun j hj => by
      rw [frI z2 (a := 8) (by simp [inW, Wmun]), ce7 j hj, x7 j hj, uh 121 j (by omega)]
      exact s2 j hj, eqr_fr (fun j => frI f (by simp [inW, WUN, cW, k_163, Wmun, w_12])) (fun j => frI f (by simp [inW, WUN, cW, k_163, Wmun, w_12])) s2, by rw [frI z2 (a := 1) (by simp [inW, Wmun]), cf11, y6, uh 93 50 (by omega)]; exact s4, by rw [frI f (a := 9) (by simp [inW, WUN, cW, k_163, Wmun, w_12]), frI f (a := 93) (k := 50) (by simp [inW, WUN, cW, k_163, Wmun, w_12])]; exact s4⟩, ⟨by rw [frI z2 (a := 1) (by simp [inW, Wmun]), cf9, y5, uh 93 49 (by omega)]; exact v2, by rw [frI f (a := 9) (by simp [inW, WUN, cW, k_163, Wmun, w_12]), frI f (a := 93) (k := 49) (by simp [inW, WUN, cW, k_163, Wmun, w_12])]; exact v2⟩, EA_f (W := WUN) (by decide) f p5, ET_f (W := WUN) (by decide) f p6⟩
end PAIRS
