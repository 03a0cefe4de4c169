/-! What both sides hold alike of who stands where, who catches, and shouts. -/
def CSN (c n : Int32) : Prop := ∀ p, p < 7 → c.toInt.toNat.testBit p = true → (p : Int) < n.toInt
def EQD (h : Hp) : Prop := eqr h 4 96 7 ∧ eqr h 6 98 7 ∧ eqr h 12 117 7 ∧ eqr h 14 119 7 ∧ h.2.1 1 7 = h.2.1 93 2 ∧ h.2.1 1 8 = h.2.1 93 1 ∧ h.2.1 9 7 = h.2.1 93 48 ∧ h.2.1 9 8 = h.2.1 93 47 ∧ CSN (h.2.1 93 2) (h.2.1 93 0) ∧ CSN (h.2.1 93 48) (h.2.1 93 46) ∧ h.2.1 39 0 = 0 ∧ h.2.1 93 27 = 0 ∧ (h.2.1 93 28).toInt = -1
def SUPD : List (Nat × Nat) := [(4, 999), (96, 999), (6, 999), (98, 999), (12, 999), (117, 999), (14, 999), (119, 999), (1, 7), (93, 2), (1, 8), (93, 1), (9, 7), (93, 48), (9, 8), (93, 47), (93, 0), (93, 46), (39, 0), (93, 27), (93, 28)]
theorem EQD_e {h h' : Hp} (g : ∀ a k, inW SUPD a k = true → h'.2.1 a k = h.2.1 a k) (e : EQD h) : EQD h' := by
  obtain ⟨e1, e2, e3, e4, e5, e6, e7, e8, e9, e10, e11, e12, e13⟩ := e
  have ga : ∀ a, (a = 4 ∨ a = 96 ∨ a = 6 ∨ a = 98 ∨ a = 12 ∨ a = 117 ∨ a = 14 ∨ a = 119) → ∀ j, h'.2.1 a j = h.2.1 a j := fun a ha j => g a j (by rcases ha with rfl | rfl | rfl | rfl | rfl | rfl | rfl | rfl <;> simp [inW, SUPD])
  exact ⟨eqr_fr (ga 4 (by decide)) (ga 96 (by decide)) e1, eqr_fr (ga 6 (by decide)) (ga 98 (by decide)) e2, eqr_fr (ga 12 (by decide)) (ga 117 (by decide)) e3, eqr_fr (ga 14 (by decide)) (ga 119 (by decide)) e4, by rw [g 1 7 rfl, g 93 2 rfl]; exact e5, by rw [g 1 8 rfl, g 93 1 rfl]; exact e6, by rw [g 9 7 rfl, g 93 48 rfl]; exact e7, by rw [g 9 8 rfl, g 93 47 rfl]; exact e8, by rw [g 93 2 rfl, g 93 0 rfl]; exact e9, by rw [g 93 48 rfl, g 93 46 rfl]; exact e10, by rw [g 39 0 rfl]; exact e11, by rw [g 93 27 rfl]; exact e12, by rw [g 93 28 rfl]; exact e13⟩
theorem EQD_f {W : List (Nat × Nat)} {h h' : Hp} (hd : disW SUPD W = true) (hf : frm W h h') (e : EQD h) : EQD h' := EQD_e (fun a k hs => (hf a k (dis_in hd hs)).1) e
theorem EQD_r {h h' : Hp} (rs : RST h h') (e : EQD h) : EQD h' := by
  have g : ∀ a k, (inW SUPR a k = true ∨ inW WMV a k = false) → h'.2.1 a k = h.2.1 a k := fun a k c => c.elim (rs.2 a k) (fun c => frI rs.1 c)
  have g1 : ∀ a, (a = 96 ∨ a = 98) → ∀ j, h'.2.1 a j = h.2.1 a j := fun a ha j => g a j (Or.inl (by rcases ha with rfl | rfl <;> simp [inW, SUPR]))
  have g2 : ∀ a, (a = 4 ∨ a = 6 ∨ a = 12 ∨ a = 117 ∨ a = 14 ∨ a = 119) → ∀ j, h'.2.1 a j = h.2.1 a j := fun a ha j => g a j (Or.inr (by rcases ha with rfl | rfl | rfl | rfl | rfl | rfl <;> simp [inW, WMV]))
  obtain ⟨e1, e2, e3, e4, e5, e6, e7, e8, e9, e10, e11, e12, e13⟩ := e
  exact ⟨eqr_fr (g2 4 (by decide)) (g1 96 (by decide)) e1, eqr_fr (g2 6 (by decide)) (g1 98 (by decide)) e2, eqr_fr (g2 12 (by decide)) (g2 117 (by decide)) e3, eqr_fr (g2 14 (by decide)) (g2 119 (by decide)) e4, by rw [g 1 7 (Or.inr rfl), g 93 2 (Or.inl rfl)]; exact e5, by rw [g 1 8 (Or.inr rfl), g 93 1 (Or.inl rfl)]; exact e6, by rw [g 9 7 (Or.inr rfl), g 93 48 (Or.inr rfl)]; exact e7, by rw [g 9 8 (Or.inr rfl), g 93 47 (Or.inr rfl)]; exact e8, by rw [g 93 2 (Or.inl rfl), g 93 0 (Or.inr rfl)]; exact e9, by rw [g 93 48 (Or.inr rfl), g 93 46 (Or.inr rfl)]; exact e10, by rw [g 39 0 (Or.inr rfl)]; exact e11, by rw [g 93 27 (Or.inl rfl)]; exact e12, by rw [g 93 28 (Or.inl rfl)]; exact e13⟩
def INVD (h : Hp) : Prop := INVC h ∧ EQD h
theorem INVD.hh {h : Hp} (hi : INVD h) : HI h := hi.1.1.1.1
/-- the people of the reference -/
def SM (h : Hp) : Nat → Nat → Int := fun a p => if a = 0 then (h.2.1 94 p).toInt else if a = 1 then (h.2.1 95 p).toInt else if a = 2 then (h.2.1 96 p).toInt else if a = 3 then (h.2.1 97 p).toInt else if a = 4 then (h.2.1 98 p).toInt else (h.2.1 99 p).toInt
theorem iv_S : (∀ k, k < 7 → ivl 94 k = (0, 6) ∧ ivl 95 k = (0, 9) ∧ ivl 96 k = (0, 6) ∧ ivl 97 k = (0, 9) ∧ ivl 98 k = (0, 9)) ∧ ∀ k, k < 28 → ivl 99 k = (0, 6) := by
  have a : ((List.range 7).all (fun k => decide (ivl 94 k = (0, 6)) && decide (ivl 95 k = (0, 9)) && decide (ivl 96 k = (0, 6)) && decide (ivl 97 k = (0, 9)) && decide (ivl 98 k = (0, 9)))) = true := by decide +kernel
  have b : ((List.range 28).all (fun k => decide (ivl 99 k = (0, 6)))) = true := by decide +kernel
  refine ⟨fun k hk => ?_, fun k hk => of_decide_eq_true (List.all_eq_true.mp b k (List.mem_range.mpr hk))⟩
  have := List.all_eq_true.mp a k (List.mem_range.mpr hk)
  simp only [Bool.and_eq_true, decide_eq_true_eq] at this
  obtain ⟨⟨⟨⟨t1, t2⟩, t3⟩, t4⟩, t5⟩ := this
  exact ⟨t1, t2, t3, t4, t5⟩
theorem BSET.tb {b : Int32} {f : Nat → Bool} (hb : BSET b f) : ∀ p, p < 7 → b.toInt.toNat.testBit p = f p := by
  obtain ⟨n, hn, rfl, hf⟩ := hb
  intro p hp
  rw [i32n hn, Int.toNat_natCast]
  exact hf p hp
theorem bset_of {b : Int32} (h0 : 0 ≤ b.toInt) (h1 : b.toInt < 128) : BSET b (fun p => b.toInt.toNat.testBit p) :=
  ⟨b.toInt.toNat, by omega, (ofn (by omega)).symm, fun p _ => rfl⟩
/-- both sides, as a call finds them -/
theorem INVD.duo {h : Hp} (hi : INVD h) : ∃ q cs m, ∃ N : Nat, ∃ K : Nat → Bool, AST q (SM h) (h.2.1 93 1).toInt cs m N K h ∧ NMS (SM h) (h.2.1 93 1).toInt cs m N K h ∧ MOK (SM h) (h.2.1 93 1).toInt N ∧ YOK cs m ∧ (h.2.1 93 1).toInt ≤ 999 := by
  have hh := hi.hh
  obtain ⟨⟨⟨iv, ⟨k1, k2, k3, -⟩, ⟨w1, -⟩, -⟩, ec⟩, ed⟩ := hi
  obtain ⟨c1, c2, c3, c4, c5, c6, c7⟩ := ec
  obtain ⟨e1, e2, e3, e4, e5, e6, e7, e8, e9, e10, e11, e12, e13⟩ := ed
  obtain ⟨-, ⟨tx, j30⟩, g32, s999, -, ⟨-, x38⟩, r10, -⟩ := iv
  have n7 := hh.iv 93 0 (r := (0, 7)) rfl
  have kv := hh.iv 93 2 iv_93.2.1
  have yv := hh.iv 93 1 iv_93.1
  have h10 := hh.iv 93 10 (r := (-1, 5)) rfl
  have h9 := hh.iv 93 9 (r := (0, 6)) rfl
  simp only at n7 kv yv h10 h9
  have bs := bset_of (b := h.2.1 93 2) kv.1 (by omega)
  have mk : MOK (SM h) (h.2.1 93 1).toInt (h.2.1 93 0).toInt.toNat := by
    refine ⟨fun p hp => ?_, fun i hi => hh.iv 99 i (iv_S.2 i hi), yv.1, by omega⟩
    obtain ⟨t1, t2, t3, t4, t5⟩ := iv_S.1 p hp
    exact ⟨hh.iv 94 p t1, hh.iv 95 p t2, hh.iv 96 p t3, hh.iv 97 p t4, hh.iv 98 p t5⟩
  have yard : ∃ q cs m, YB q ∧ RY q h cs m ∧ YOK cs m ∧ (((h.2.1 1 12).toInt < 0 ∧ q = 39) ∨ ∃ f : Nat, (h.2.1 1 12).toInt = f ∧ f < 6 ∧ h.2.2.2 38 f = some q) ∧ (((h.2.1 93 10).toInt < 0 ∧ cs = []) ∨ ∃ f : Nat, (h.2.1 93 10).toInt = f ∧ f < 6 ∧ YM f h cs m) := by
    by_cases c : (h.2.1 93 10).toInt < 0
    · refine ⟨39, [], [], by unfold YB; decide, ⟨by rw [e11]; rfl, fun c hc => absurd hc (Nat.not_lt_zero c), fun j hj => absurd hj (Nat.not_lt_zero j)⟩, ⟨WFC_0, by decide, by decide⟩, Or.inl ⟨by rw [c5]; exact c, rfl⟩, Or.inl ⟨c, rfl⟩⟩
    · obtain ⟨f, hf⟩ : ∃ f : Nat, (h.2.1 93 10).toInt = f := ⟨(h.2.1 93 10).toInt.toNat, by omega⟩
      have t1 := tx.1
      obtain ⟨cs, m, y1, y2, y3, y4, y5⟩ := c4 f (by omega)
      refine ⟨63 + 5 * f, cs, m, ?_, y1, ⟨y3, y4, y5⟩, Or.inr ⟨f, by rw [c5]; exact hf, by omega, x38 f (by omega)⟩, Or.inr ⟨f, hf, by omega, y2⟩⟩
      have : f = 0 ∨ f = 1 ∨ f = 2 ∨ f = 3 ∨ f = 4 ∨ f = 5 := by omega
      rcases this with rfl | rfl | rfl | rfl | rfl | rfl <;> (unfold YB; decide)
  obtain ⟨q, cs, m, y1, y2, y3, y4, y5⟩ := yard
  have sz : (h.2.1 93 0).toInt = ((h.2.1 93 0).toInt.toNat : Int) := by omega
  refine ⟨q, cs, m, (h.2.1 93 0).toInt.toNat, fun p => (h.2.1 93 2).toInt.toNat.testBit p, ⟨y1, fun p hp => ?_, fun i hi => ?_, ?_, ?_, ?_, y2, y4⟩, ⟨⟨fun p _ => ⟨rfl, rfl, rfl, rfl, rfl⟩, fun i _ => rfl, rfl⟩, ⟨y3, y5⟩, tx, sz, bs, fun p hp z => ?_, g32, e12, e13, j30⟩, mk, y3, s999⟩
  · rw [k1 p hp, k2 p hp, e1 p hp, k3 p hp, e2 p hp]
    exact ⟨rfl, rfl, rfl, rfl, rfl⟩
  · rw [w1 i hi]
    rfl
  · rw [e6]
  · rw [r10]
    exact sz
  · rw [e5]
    exact bs
  · have := e9 p hp z
    omega
theorem NMS.frT {S : Nat → Nat → Int} {Y : Int} {cs : List Cl} {m : List Int} {N : Nat} {K : Nat → Bool} {h h' : Hp} (hn : NMS S Y cs m N K h) (hf : frm WTQ h h') : NMS S Y cs m N K h' := hn.fS (fun a k ha _ => frI hf (WTQ_n (by omega)))
/-- two calls that answer alike, the second putting all back -/
theorem prD {X : Scr} {dC dM C M : Nat} {LC LM : List Value} {h : Hp} {Q : Option Value → Hp → Prop} (hi : INVD h) {P : Int32 → Prop} (uq : ∀ r r2, P r → P r2 → r = r2) (c1 : Ends X dC C 0 LC [] h (fun v h1 => ∃ r, v = some (.int r) ∧ HI h1 ∧ frm WTQ h h1 ∧ P r)) (c2 : Ends X dC C 0 LC [] h (fun _ h1 => INVC h1)) (m1 : ∀ h1, INVD h1 → frm WTQ h h1 → Ends X dM M 0 LM [] h1 (fun v h2 => ∃ r, v = some (.int r) ∧ HI h2 ∧ RST h1 h2 ∧ P r)) (m2 : ∀ h1, INVD h1 → Ends X dM M 0 LM [] h1 (fun _ h2 => INVC h2)) {K : Hp → Int32 → Int32 → Prop} (hK : ∀ r h', INVD h' → K h' r r) (hQ : ∀ r h1, HI h1 → REF X dM M LM K r h1 → Q (some (.int r)) h1) : Ends X dC C 0 LC [] h Q := by
  refine (c1.and c2).mono ?_
  rintro v h1 ⟨⟨r, rfl, g1, f1, p1⟩, i1⟩
  have d1 : INVD h1 := ⟨i1, EQD_f (W := WTQ) (by decide) f1 hi.2⟩
  refine hQ r h1 g1 (((m1 h1 d1 f1).and (m2 h1 d1)).mono ?_)
  rintro w h2 ⟨⟨r2, rfl, g2, rs, p2⟩, i2⟩
  have e := uq _ _ p1 p2
  subst e
  exact ⟨_, rfl, g2.hs, hK _ h2 ⟨i2, EQD_r rs d1.2⟩⟩
theorem prDL {X : Scr} {dC dM C M : Nat} {LC LM : List Value} {h : Hp} {Q : Option Value → Hp → Prop} (hi : INVD h) {P : Int64 → Prop} (uq : ∀ r r2, P r → P r2 → r = r2) (c1 : Ends X dC C 0 LC [] h (fun v h1 => ∃ r, v = some (.long r) ∧ HI h1 ∧ frm WTQ h h1 ∧ P r)) (c2 : Ends X dC C 0 LC [] h (fun _ h1 => INVC h1)) (m1 : ∀ h1, INVD h1 → frm WTQ h h1 → Ends X dM M 0 LM [] h1 (fun v h2 => ∃ r, v = some (.long r) ∧ HI h2 ∧ RST h1 h2 ∧ P r)) (m2 : ∀ h1, INVD h1 → Ends X dM M 0 LM [] h1 (fun _ h2 => INVC h2)) {K : Hp → Int64 → Int64 → Prop} (hK : ∀ r h', INVD h' → K h' r r) (hQ : ∀ r h1, HI h1 → REFL X dM M LM K r h1 → Q (some (.long r)) h1) : Ends X dC C 0 LC [] h Q := by
  refine (c1.and c2).mono ?_
  rintro v h1 ⟨⟨r, rfl, g1, f1, p1⟩, i1⟩
  have d1 : INVD h1 := ⟨i1, EQD_f (W := WTQ) (by decide) f1 hi.2⟩
  refine hQ r h1 g1 (((m1 h1 d1 f1).and (m2 h1 d1)).mono ?_)
  rintro w h2 ⟨⟨r2, rfl, g2, rs, p2⟩, i2⟩
  have e := uq _ _ p1 p2
  subst e
  exact ⟨_, rfl, g2.hs, hK _ h2 ⟨i2, EQD_r rs d1.2⟩⟩
theorem uqI {v : Int} : ∀ r r2 : Int32, r.toInt = v → r2.toInt = v → r = r2 := fun _ _ a b => Int32.toInt.inj (a.trans b.symm)
theorem uqL {v : Int} : ∀ r r2 : Int64, r.toInt = v → r2.toInt = v → r = r2 := fun _ _ a b => Int64.toInt.inj (a.trans b.symm)
