section JN99tzAinvd
/-! What both sides hold alike of who stands where, who catches, and shouts. -/
def CSN (c n : Int32) : Prop := ∀ p, p < 7 → c.toInt.toNat.testBit p = true → (p : Int) < n.toInt
def EQD (h : Hp) : Prop := eqr h 4 96 7 ∧ eqr h 6 98 7 ∧ eqr h 12 117 7 ∧ eqr h 14 119 7 ∧ h.2.1 1 7 = h.2.1 93 2 ∧ h.2.1 1 8 = h.2.1 93 1 ∧ h.2.1 9 7 = h.2.1 93 48 ∧ h.2.1 9 8 = h.2.1 93 47 ∧ CSN (h.2.1 93 2) (h.2.1 93 0) ∧ CSN (h.2.1 93 48) (h.2.1 93 46) ∧ h.2.1 39 0 = 0 ∧ h.2.1 93 27 = 0 ∧ (h.2.1 93 28).toInt = -1
def SUPD : List (Nat × Nat) := [(4, 999), (96, 999), (6, 999), (98, 999), (12, 999), (117, 999), (14, 999), (119, 999), (1, 7), (93, 2), (1, 8), (93, 1), (9, 7), (93, 48), (9, 8), (93, 47), (93, 0), (93, 46), (39, 0), (93, 27), (93, 28)]
theorem EQD_e {h h' : Hp} (g : ∀ a k, inW SUPD a k = true → h'.2.1 a k = h.2.1 a k) (e : EQD h) : EQD h' := by
  obtain ⟨e1, e2, e3, e4, e5, e6, e7, e8, e9, e10, e11, e12, e13⟩ := e
  have ga : ∀ a, (a = 4 ∨ a = 96 ∨ a = 6 ∨ a = 98 ∨ a = 12 ∨ a = 117 ∨ a = 14 ∨ a = 119) → ∀ j, h'.2.1 a j = h.2.1 a j := fun a ha j => g a j (by rcases ha with rfl | rfl | rfl | rfl | rfl | rfl | rfl | rfl <;> simp [inW, SUPD])
  exact ⟨eqr_fr (ga 4 (by decide)) (ga 96 (by decide)) e1, eqr_fr (ga 6 (by decide)) (ga 98 (by decide)) e2, eqr_fr (ga 12 (by decide)) (ga 117 (by decide)) e3, eqr_fr (ga 14 (by decide)) (ga 119 (by decide)) e4, by rw [g 1 7 rfl, g 93 2 rfl]; exact e5, by rw [g 1 8 rfl, g 93 1 rfl]; exact e6, by rw [g 9 7 rfl, g 93 48 rfl]; exact e7, by rw [g 9 8 rfl, g 93 47 rfl]; exact e8, by rw [g 93 2 rfl, g 93 0 rfl]; exact e9, by rw [g 93 48 rfl, g 93 46 rfl]; exact e10, by rw [g 39 0 rfl]; exact e11, by rw [g 93 27 rfl]; exact e12, by rw [g 93 28 rfl]; exact e13⟩
theorem EQD_f {W : List (Nat × Nat)} {h h' : Hp} (hd : disW SUPD W = true) (hf : frm W h h') (e : EQD h) : EQD h' := EQD_e (fun a k hs => (hf a k (dis_in hd hs)).1) e
theorem EQD_r {h h' : Hp} (rs : RST h h') (e : EQD h) : EQD h' := by
  have g : ∀ a k, (inW SUPR a k = true ∨ inW WMV a k = false) → h'.2.1 a k = h.2.1 a k := fun a k c => c.elim (rs.2 a k) (fun c => frI rs.1 c)
  have g1 : ∀ a, (a = 96 ∨ a = 98) → ∀ j, h'.2.1 a j = h.2.1 a j := fun a ha j => g a j (Or.inl (by rcases ha with rfl | rfl <;> simp [inW, SUPR]))
  have g2 : ∀ a, (a = 4 ∨ a = 6 ∨ a = 12 ∨ a = 117 ∨ a = 14 ∨ a = 119) → ∀ j, h'.2.1 a j = h.2.1 a j := fun a ha j => g a j (Or.inr (by rcases ha with rfl | rfl | rfl | rfl | rfl | rfl <;> simp [inW, WMV]))
  obtain ⟨e1, e2, e3, e4, e5, e6, e7, e8, e9, e10, e11, e12, e13⟩ := e
  exact ⟨eqr_fr (g2 4 (by decide)) (g1 96 (by decide)) e1, eqr_fr (g2 6 (by decide)) (g1 98 (by decide)) e2, eqr_fr (g2 12 (by decide)) (g2 117 (by decide)) e3, eqr_fr (g2 14 (by decide)) (g2 119 (by decide)) e4, by rw [g 1 7 (Or.inr rfl), g 93 2 (Or.inl rfl)]; exact e5, by rw [g 1 8 (Or.inr rfl), g 93 1 (Or.inl rfl)]; exact e6, by rw [g 9 7 (Or.inr rfl), g 93 48 (Or.inr rfl)]; exact e7, by rw [g 9 8 (Or.inr rfl), g 93 47 (Or.inr rfl)]; exact e8, by rw [g 93 2 (Or.inl rfl), g 93 0 (Or.inr rfl)]; exact e9, by rw [g 93 48 (Or.inr rfl), g 93 46 (Or.inr rfl)]; exact e10, by rw [g 39 0 (Or.inr rfl)]; exact e11, by rw [g 93 27 (Or.inl rfl)]; exact e12, by rw [g 93 28 (Or.inl rfl)]; exact e13⟩
def INVD (h : Hp) : Prop := INVC h ∧ EQD h
theorem INVD.hh {h : Hp} (hi : INVD h) : HI h := hi.1.1.1.1
/-- the people of the reference -/
def SM (h : Hp) : Nat → Nat → Int := fun a p => if a = 0 then (h.2.1 94 p).toInt else if a = 1 then (h.2.1 95 p).toInt else if a = 2 then (h.2.1 96 p).toInt else if a = 3 then (h.2.1 97 p).toInt else if a = 4 then (h.2.1 98 p).toInt else (h.2.1 99 p).toInt
theorem iv_S : (∀ k, k < 7 → ivl 94 k = (0, 6) ∧ ivl 95 k = (0, 9) ∧ ivl 96 k = (0, 6) ∧ ivl 97 k = (0, 9) ∧ ivl 98 k = (0, 9)) ∧ ∀ k, k < 28 → ivl 99 k = (0, 6) := by
  have a : ((List.range 7).all (fun k => decide (ivl 94 k = (0, 6)) && decide (ivl 95 k = (0, 9)) && decide (ivl 96 k = (0, 6)) && decide (ivl 97 k = (0, 9)) && decide (ivl 98 k = (0, 9)))) = true := by decide +kernel
  have b : ((List.range 28).all (fun k => decide (ivl 99 k = (0, 6)))) = true := by decide +kernel
  refine ⟨fun k hk => ?_, fun k hk => of_decide_eq_true (List.all_eq_true.mp b k (List.mem_range.mpr hk))⟩
  have := List.all_eq_true.mp a k (List.mem_range.mpr hk)
  simp only [Bool.and_eq_true, decide_eq_true_eq] at this
  obtain ⟨⟨⟨⟨t1, t2⟩, t3⟩, t4⟩, t5⟩ := this
  exact ⟨t1, t2, t3, t4, t5⟩
theorem BSET.tb {b : Int32} {f : Nat → Bool} (hb : BSET b f) : ∀ p, p < 7 → b.toInt.toNat.testBit p = f p := by
  obtain ⟨n, hn, rfl, hf⟩ := hb
  intro p hp
  rw [i32n hn, Int.toNat_natCast]
  exact hf p hp
theorem bset_of {b : Int32} (h0 : 0 ≤ b.toInt) (h1 : b.toInt < 128) : BSET b (fun p => b.toInt.toNat.testBit p) :=
  ⟨b.toInt.toNat, by omega, (ofn (by omega)).symm, fun p _ => rfl⟩
/-- both sides, as a call finds them -/
theorem INVD.duo {h : Hp} (hi : INVD h) : ∃ q cs m, ∃ N : Nat, ∃ K : Nat → Bool, AST q (SM h) (h.2.1 93 1).toInt cs m N K h ∧ NMS (SM h) (h.2.1 93 1).toInt cs m N K h ∧ MOK (SM h) (h.2.1 93 1).toInt N ∧ YOK cs m ∧ (h.2.1 93 1).toInt ≤ 999 := by
  have hh := hi.hh
  obtain ⟨⟨⟨iv, ⟨k1, k2, k3, -⟩, ⟨w1, -⟩, -⟩, ec⟩, ed⟩ := hi
  obtain ⟨c1, c2, c3, c4, c5, c6, c7⟩ := ec
  obtain ⟨e1, e2, e3, e4, e5, e6, e7, e8, e9, e10, e11, e12, e13⟩ := ed
  obtain ⟨-, ⟨tx, j30⟩, g32, s999, -, ⟨-, x38⟩, r10, -⟩ := iv
  have n7 := hh.iv 93 0 (r := (0, 7)) rfl
  have kv := hh.iv 93 2 iv_93.2.1
  have yv := hh.iv 93 1 iv_93.1
  have h10 := hh.iv 93 10 (r := (-1, 5)) rfl
  have h9 := hh.iv 93 9 (r := (0, 6)) rfl
  simp only at n7 kv yv h10 h9
  have bs := bset_of (b := h.2.1 93 2) kv.1 (by omega)
  have mk : MOK (SM h) (h.2.1 93 1).toInt (h.2.1 93 0).toInt.toNat := by
    refine ⟨fun p hp => ?_, fun i hi => hh.iv 99 i (iv_S.2 i hi), yv.1, by omega⟩
    obtain ⟨t1, t2, t3, t4, t5⟩ := iv_S.1 p hp
    exact ⟨hh.iv 94 p t1, hh.iv 95 p t2, hh.iv 96 p t3, hh.iv 97 p t4, hh.iv 98 p t5⟩
  have yard : ∃ q cs m, YB q ∧ RY q h cs m ∧ YOK cs m ∧ (((h.2.1 1 12).toInt < 0 ∧ q = 39) ∨ ∃ f : Nat, (h.2.1 1 12).toInt = f ∧ f < 6 ∧ h.2.2.2 38 f = some q) ∧ (((h.2.1 93 10).toInt < 0 ∧ cs = []) ∨ ∃ f : Nat, (h.2.1 93 10).toInt = f ∧ f < 6 ∧ YM f h cs m) := by
    by_cases c : (h.2.1 93 10).toInt < 0
    · refine ⟨39, [], [], by unfold YB; decide, ⟨by rw [e11]; rfl, fun c hc => absurd hc (Nat.not_lt_zero c), fun j hj => absurd hj (Nat.not_lt_zero j)⟩, ⟨WFC_0, by decide, by decide⟩, Or.inl ⟨by rw [c5]; exact c, rfl⟩, Or.inl ⟨c, rfl⟩⟩
    · obtain ⟨f, hf⟩ : ∃ f : Nat, (h.2.1 93 10).toInt = f := ⟨(h.2.1 93 10).toInt.toNat, by omega⟩
      have t1 := tx.1
      obtain ⟨cs, m, y1, y2, y3, y4, y5⟩ := c4 f (by omega)
      refine ⟨63 + 5 * f, cs, m, ?_, y1, ⟨y3, y4, y5⟩, Or.inr ⟨f, by rw [c5]; exact hf, by omega, x38 f (by omega)⟩, Or.inr ⟨f, hf, by omega, y2⟩⟩
      have : f = 0 ∨ f = 1 ∨ f = 2 ∨ f = 3 ∨ f = 4 ∨ f = 5 := by omega
      rcases this with rfl | rfl | rfl | rfl | rfl | rfl <;> (unfold YB; decide)
  obtain ⟨q, cs, m, y1, y2, y3, y4, y5⟩ := yard
  have sz : (h.2.1 93 0).toInt = ((h.2.1 93 0).toInt.toNat : Int) := by omega
  refine ⟨q, cs, m, (h.2.1 93 0).toInt.toNat, fun p => (h.2.1 93 2).toInt.toNat.testBit p, ⟨y1, fun p hp => ?_, fun i hi => ?_, ?_, ?_, ?_, y2, y4⟩, ⟨⟨fun p _ => ⟨rfl, rfl, rfl, rfl, rfl⟩, fun i _ => rfl, rfl⟩, ⟨y3, y5⟩, tx, sz, bs, fun p hp z => ?_, g32, e12, e13, j30⟩, mk, y3, s999⟩
  · rw [k1 p hp, k2 p hp, e1 p hp, k3 p hp, e2 p hp]
    exact ⟨rfl, rfl, rfl, rfl, rfl⟩
  · rw [w1 i hi]
    rfl
  · rw [e6]
  · rw [r10]
    exact sz
  · rw [e5]
    exact bs
  · have := e9 p hp z
    omega
theorem NMS.frT {S : Nat → Nat → Int} {Y : Int} {cs : List Cl} {m : List Int} {N : Nat} {K : Nat → Bool} {h h' : Hp} (hn : NMS S Y cs m N K h) (hf : frm WTQ h h') : NMS S Y cs m N K h' := hn.fS (fun a k ha _ => frI hf (WTQ_n (by omega)))
/-- two calls that answer alike, the second putting all back -/
theorem prD {X : Scr} {dC dM C M : Nat} {LC LM : List Value} {h : Hp} {Q : Option Value → Hp → Prop} (hi : INVD h) {P : Int32 → Prop} (uq : ∀ r r2, P r → P r2 → r = r2) (c1 : Ends X dC C 0 LC [] h (fun v h1 => ∃ r, v = some (.int r) ∧ HI h1 ∧ frm WTQ h h1 ∧ P r)) (c2 : Ends X dC C 0 LC [] h (fun _ h1 => INVC h1)) (m1 : ∀ h1, INVD h1 → frm WTQ h h1 → Ends X dM M 0 LM [] h1 (fun v h2 => ∃ r, v = some (.int r) ∧ HI h2 ∧ RST h1 h2 ∧ P r)) (m2 : ∀ h1, INVD h1 → Ends X dM M 0 LM [] h1 (fun _ h2 => INVC h2)) {K : Hp → Int32 → Int32 → Prop} (hK : ∀ r h', INVD h' → K h' r r) (hQ : ∀ r h1, HI h1 → REF X dM M LM K r h1 → Q (some (.int r)) h1) : Ends X dC C 0 LC [] h Q := by
  refine (c1.and c2).mono ?_
  rintro v h1 ⟨⟨r, rfl, g1, f1, p1⟩, i1⟩
  have d1 : INVD h1 := ⟨i1, EQD_f (W := WTQ) (by decide) f1 hi.2⟩
  refine hQ r h1 g1 (((m1 h1 d1 f1).and (m2 h1 d1)).mono ?_)
  rintro w h2 ⟨⟨r2, rfl, g2, rs, p2⟩, i2⟩
  have e := uq _ _ p1 p2
  subst e
  exact ⟨_, rfl, g2.hs, hK _ h2 ⟨i2, EQD_r rs d1.2⟩⟩
theorem prDL {X : Scr} {dC dM C M : Nat} {LC LM : List Value} {h : Hp} {Q : Option Value → Hp → Prop} (hi : INVD h) {P : Int64 → Prop} (uq : ∀ r r2, P r → P r2 → r = r2) (c1 : Ends X dC C 0 LC [] h (fun v h1 => ∃ r, v = some (.long r) ∧ HI h1 ∧ frm WTQ h h1 ∧ P r)) (c2 : Ends X dC C 0 LC [] h (fun _ h1 => INVC h1)) (m1 : ∀ h1, INVD h1 → frm WTQ h h1 → Ends X dM M 0 LM [] h1 (fun v h2 => ∃ r, v = some (.long r) ∧ HI h2 ∧ RST h1 h2 ∧ P r)) (m2 : ∀ h1, INVD h1 → Ends X dM M 0 LM [] h1 (fun _ h2 => INVC h2)) {K : Hp → Int64 → Int64 → Prop} (hK : ∀ r h', INVD h' → K h' r r) (hQ : ∀ r h1, HI h1 → REFL X dM M LM K r h1 → Q (some (.long r)) h1) : Ends X dC C 0 LC [] h Q := by
  refine (c1.and c2).mono ?_
  rintro v h1 ⟨⟨r, rfl, g1, f1, p1⟩, i1⟩
  have d1 : INVD h1 := ⟨i1, EQD_f (W := WTQ) (by decide) f1 hi.2⟩
  refine hQ r h1 g1 (((m1 h1 d1 f1).and (m2 h1 d1)).mono ?_)
  rintro w h2 ⟨⟨r2, rfl, g2, rs, p2⟩, i2⟩
  have e := uq _ _ p1 p2
  subst e
  exact ⟨_, rfl, g2.hs, hK _ h2 ⟨i2, EQD_r rs d1.2⟩⟩
theorem uqI {v : Int} : ∀ r r2 : Int32, r.toInt = v → r2.toInt = v → r = r2 := fun _ _ a b => Int32.toInt.inj (a.trans b.symm)
theorem uqL {v : Int} : ∀ r r2 : Int64, r.toInt = v → r2.toInt = v → r = r2 := fun _ _ a b => Int64.toInt.inj (a.trans b.symm)
end JN99tzAinvd
section JN99tzBdpairs
/-! Level D: the pairs of calls. -/
theorem st_plainD {T : Ctr} (i : Nat) (hT : (TBL.take 328)[i]? = some T) (hd : disW SUPI (cW T) = true) (hd2 : disW SUPE (cW T) = true) (hd3 : disW SUPC (cW T) = true) (hd4 : disW SUPD (cW T) = true) {X : Scr} {dp : Nat} {ρ : Nat → Int} {h : Hp} {as : List Value} {Q : Option Value → Hp → Prop} (hD : cD T ≤ dp) (hi : INVD h) (hb : bOK ρ (cB T)) (ha : al2 (vm (cB T).length ρ) (cA T) as) (hF : cF T = []) (hQ : ∀ v h', INVD h' → Qpost (cB T).length ρ (cP T) v h' → Q v h') : Ends X dp (cY T) 0 (entL (mMaxL (cY T)) as) [] h Q :=
  (gd1 i hT X dp ρ h as hD hi.hh (fun _ => hi.1.1.1.2.1) hb ha (by rw [hF]; intro q hq; cases hq)).mono (fun v h' q => hQ v h' ⟨⟨⟨INV_fr hd q.1 q.2.1 hi.1.1.1, EQV_f hd2 q.2.1 hi.1.1.2⟩, EQC_f hi.hh hd3 q.2.1 hi.1.2⟩, EQD_f hd4 q.2.1 hi.2⟩ q.2.2)
theorem pd_311 {X : Scr} {dp : Nat} {h : Hp} {Q : Option Value → Hp → Prop} (hD : cD k_311 ≤ dp) (hi : INVD h) (hQ : ∀ (r : Int32) h', INVD h' → Q (some (.int r)) h') : Ends X dp 87 0 (entL (mMaxL 87) [.ref 0]) [] h Q := by
  refine st_plainD (T := k_311) 311 (by rfl) (by decide +kernel) (by decide +kernel) (by decide +kernel) (by decide +kernel) (ρ := fun _ => 0) hD hi ?_ ⟨⟨0, rfl, List.mem_singleton.mpr rfl⟩, trivial⟩ rfl ?_
  · intro v q hq
    match v, hq with
    | v, hq => cases hq
  · intro v h' p q
    obtain ⟨r, e, -⟩ := qp_int (lo := -2147483648) (hi := 2147483647) q (by decide +kernel)
    exact e ▸ hQ r h' p
theorem pd_159 {X : Scr} {dp : Nat} {h : Hp} {Q : Option Value → Hp → Prop} (a b : Int32) (hD : cD k_159 ≤ dp) (hi : INVD h) (hQ : ∀ (r : Int32) h', INVD h' → Q (some (.int r)) h') : Ends X dp 88 0 (entL (mMaxL 88) [.ref 0, .int a, .int b]) [] h Q := by
  refine st_plainD (T := k_159) 159 (by rfl) (by decide +kernel) (by decide +kernel) (by decide +kernel) (by decide +kernel) (ρ := fun v => if v = 0 then a.toInt else b.toInt) hD hi ?_ ⟨⟨0, rfl, List.mem_singleton.mpr rfl⟩, ⟨a, rfl, by decide, by show a.toInt = a.toInt + 0; omega⟩, ⟨b, rfl, by decide, by show b.toInt = b.toInt + 0; omega⟩, trivial⟩ rfl ?_
  · intro v q hq
    match v, hq with
    | 0, hq => cases hq; exact fI_ok a
    | 1, hq => cases hq; exact fI_ok b
    | v + 2, hq => cases hq
  · intro v h' p q
    obtain ⟨r, e, -⟩ := qp_int (lo := -2147483648) (hi := 2147483647) q (by decide +kernel)
    exact e ▸ hQ r h' p
theorem pd_246 {X : Scr} {dp : Nat} {h : Hp} {Q : Option Value → Hp → Prop} (a b : Int32) (hD : cD k_246 ≤ dp) (hi : INVD h) (hQ : ∀ (r : Int32) h', INVD h' → Q (some (.int r)) h') : Ends X dp 183 0 (entL (mMaxL 183) [.ref 93, .int a, .int b]) [] h Q := by
  refine st_plainD (T := k_246) 246 (by rfl) (by decide +kernel) (by decide +kernel) (by decide +kernel) (by decide +kernel) (ρ := fun v => if v = 0 then a.toInt else b.toInt) hD hi ?_ ⟨⟨93, rfl, List.mem_singleton.mpr rfl⟩, ⟨a, rfl, by decide, by show a.toInt = a.toInt + 0; omega⟩, ⟨b, rfl, by decide, by show b.toInt = b.toInt + 0; omega⟩, trivial⟩ rfl ?_
  · intro v q hq
    match v, hq with
    | 0, hq => cases hq; exact fI_ok a
    | 1, hq => cases hq; exact fI_ok b
    | v + 2, hq => cases hq
  · intro v h' p q
    obtain ⟨r, e, -⟩ := qp_int (lo := -2147483648) (hi := 2147483647) q (by decide +kernel)
    exact e ▸ hQ r h' p
section DPAIRS
variable {X : Scr} {h : Hp} {Q : Option Value → Hp → Prop}
theorem of_pairD (a b : Int32) (hi : INVD h) {K : Hp → Int32 → Int32 → Prop} (hK : ∀ r h', INVD h' → K h' r r) (hQ : ∀ r h1, HI h1 → REF X 999 149 [.ref 93, .int a, .int b] K r h1 → Q (some (.int r)) h1) : Ends X 999 64 0 [.ref 0, .int a, .int b] [] h Q := by
  obtain ⟨q, cs, m, N, KK, ha, hn, mk, yk, y9⟩ := hi.duo
  refine prD hi (P := fun r => r.toInt = zOf (SM h) (h.2.1 93 1).toInt cs m N KK a b) uqI ?_ (pc_293 a b (by decide +kernel) hi.1 (fun _ _ i => i)) (fun h1 i1 f1 => ?_) (fun h1 i1 => pc_312 a b (by decide +kernel) i1.1 (fun _ _ i => i)) hK hQ
  · exact cof_ok ha mk yk hi.hh a b (fun r h1 g f v => ⟨r, rfl, g, f, v⟩)
  · exact mof_ok (hn.frT f1) mk i1.hh a b (fun r h2 g rs v => ⟨r, rfl, g, rs, v⟩)
theorem told_pairD (a : Int32) (hi : INVD h) {K : Hp → Int32 → Int32 → Prop} (hK : ∀ r h', INVD h' → K h' r r) (hQ : ∀ r h1, HI h1 → REF X 999 150 [.ref 93, .int a] K r h1 → Q (some (.int r)) h1) : Ends X 999 70 0 [.ref 0, .int a] [] h Q := by
  obtain ⟨q, cs, m, N, KK, ha, hn, mk, yk, y9⟩ := hi.duo
  refine prD hi (P := fun r => r.toInt = zTold (h.2.1 93 1).toInt N KK a.toInt) uqI ?_ (pc_148 a (by decide +kernel) hi.1 (fun _ _ i => i)) (fun h1 i1 f1 => ?_) (fun h1 i1 => pc_235 a (by decide +kernel) i1.1 (fun _ _ i => i)) hK hQ
  · exact ctold_ok ha mk.2.2.2 hi.hh a (fun r v => ⟨r, rfl, hi.hh, frm_refl, v⟩)
  · exact mtold_ok (hn.frT f1) mk.2.2.2 i1.hh a (fun r v => ⟨r, rfl, i1.hh, RST.rf, v⟩)
theorem on_pairD (a b : Int32) (hi : INVD h) {K : Hp → Int32 → Int32 → Prop} (hK : ∀ r h', INVD h' → K h' r r) (hQ : ∀ r h1, HI h1 → REF X 999 162 [.ref 93, .int a, .int b, .retAddr 0, .retAddr 0] K r h1 → Q (some (.int r)) h1) : Ends X 999 72 0 [.ref 0, .int a, .int b, .retAddr 0, .retAddr 0] [] h Q := by
  obtain ⟨q, cs, m, N, KK, ha, hn, mk, yk, y9⟩ := hi.duo
  refine prD hi (P := fun r => r.toInt = zOn (SM h) (h.2.1 93 1).toInt cs m N KK a b) uqI ?_ (pc_296 a b (by decide +kernel) hi.1 (fun _ _ i => i)) (fun h1 i1 f1 => ?_) (fun h1 i1 => on_c a b (by decide +kernel) i1.1 (fun _ _ i => i)) hK hQ
  · exact con_ok ha mk yk y9 hi.hh a b (fun r h1 g f v => ⟨r, rfl, g, f, v⟩)
  · exact mon_ok (hn.frT f1) mk y9 i1.hh a b (fun r h2 g rs v => ⟨r, rfl, g, rs, v⟩)
theorem last_pairD (a : Int32) (hi : INVD h) {K : Hp → Int32 → Int32 → Prop} (hK : ∀ r h', INVD h' → K h' r r) (hQ : ∀ r h1, HI h1 → REF X 999 164 [.ref 93, .int a, .retAddr 0, .retAddr 0] K r h1 → Q (some (.int r)) h1) : Ends X 999 73 0 [.ref 0, .int a, .retAddr 0, .retAddr 0] [] h Q := by
  obtain ⟨q, cs, m, N, KK, ha, hn, mk, yk, y9⟩ := hi.duo
  refine prD hi (P := fun r => r.toInt = zLas (SM h) (h.2.1 93 1).toInt cs m N KK a) uqI ?_ (pc_297 a (by decide +kernel) hi.1 (fun _ _ i => i)) (fun h1 i1 f1 => ?_) (fun h1 i1 => last_c a (by decide +kernel) i1.1 (fun _ _ i => i)) hK hQ
  · exact clas_ok ha mk yk y9 hi.hh a (fun r h1 g f v => ⟨r, rfl, g, f, v⟩)
  · exact mlas_ok (hn.frT f1) mk y9 i1.hh a (fun r h2 g rs v => ⟨r, rfl, g, rs, v⟩)
theorem first_pairD (a : Int32) (hi : INVD h) {K : Hp → Int32 → Int32 → Prop} (hK : ∀ r h', INVD h' → K h' r r) (hQ : ∀ r h1, HI h1 → REF X 999 165 [.ref 93, .int a, .retAddr 0, .retAddr 0, .retAddr 0, .retAddr 0] K r h1 → Q (some (.int r)) h1) : Ends X 999 74 0 [.ref 0, .int a, .retAddr 0, .retAddr 0, .retAddr 0, .retAddr 0, .retAddr 0] [] h Q := by
  obtain ⟨q, cs, m, N, KK, ha, hn, mk, yk, y9⟩ := hi.duo
  refine prD hi (P := fun r => r.toInt = zFir (SM h) (h.2.1 93 1).toInt cs m N KK a) uqI ?_ (pc_298 a (by decide +kernel) hi.1 (fun _ _ i => i)) (fun h1 i1 f1 => ?_) (fun h1 i1 => pc_317 a (by decide +kernel) i1.1 (fun _ _ i => i)) hK hQ
  · exact cfir_ok ha mk yk hi.hh a (fun r h1 g f v => ⟨r, rfl, g, f, v⟩)
  · exact mfir_ok (hn.frT f1) mk i1.hh a (fun r h2 g rs v => ⟨r, rfl, g, rs, v⟩)
theorem stand_pairD (a b : Int32) (hi : INVD h) {K : Hp → Int32 → Int32 → Prop} (hK : ∀ r h', INVD h' → K h' r r) (hQ : ∀ r h1, HI h1 → REF X 999 166 [.ref 93, .int a, .int b, .retAddr 0, .retAddr 0, .retAddr 0, .retAddr 0, .retAddr 0] K r h1 → Q (some (.int r)) h1) : Ends X 999 75 0 [.ref 0, .int a, .int b, .retAddr 0, .retAddr 0, .retAddr 0, .retAddr 0] [] h Q := by
  obtain ⟨q, cs, m, N, KK, ha, hn, mk, yk, y9⟩ := hi.duo
  refine prD hi (P := fun r => r.toInt = zSta (SM h) (h.2.1 93 1).toInt cs m N KK a b) uqI ?_ (pc_300 a b (by decide +kernel) hi.1 (fun _ _ i => i)) (fun h1 i1 f1 => ?_) (fun h1 i1 => pc_318 a b (by decide +kernel) i1.1 (fun _ _ i => i)) hK hQ
  · exact csta_ok ha mk yk hi.hh a b (fun r h1 g f v => ⟨r, rfl, g, f, v⟩)
  · exact msta_ok (hn.frT f1) mk i1.hh a b (fun r h2 g rs v => ⟨r, rfl, g, rs, v⟩)
theorem best_pairD (a : Int32) (hi : INVD h) {K : Hp → Int32 → Int32 → Prop} (hK : ∀ r h', INVD h' → K h' r r) (hQ : ∀ r h1, HI h1 → REF X 999 167 [.ref 93, .int a, .retAddr 0, .retAddr 0] K r h1 → Q (some (.int r)) h1) : Ends X 999 76 0 [.ref 0, .int a, .retAddr 0, .retAddr 0] [] h Q := by
  obtain ⟨q, cs, m, N, KK, ha, hn, mk, yk, y9⟩ := hi.duo
  refine prD hi (P := fun r => r.toInt = zBes (SM h) (h.2.1 93 1).toInt cs m N KK a) uqI ?_ (pc_301 a (by decide +kernel) hi.1 (fun _ _ i => i)) (fun h1 i1 f1 => ?_) (fun h1 i1 => pc_319 a (by decide +kernel) i1.1 (fun _ _ i => i)) hK hQ
  · exact cbes_ok ha mk yk hi.hh a (fun r h1 g f v => ⟨r, rfl, g, f, v⟩)
  · exact mbes_ok (hn.frT f1) mk i1.hh a (fun r h2 g rs v => ⟨r, rfl, g, rs, v⟩)
theorem need_pairD (a : Int32) (hi : INVD h) {K : Hp → Int32 → Int32 → Prop} (hK : ∀ r h', INVD h' → K h' r r) (hQ : ∀ r h1, HI h1 → REF X 999 168 [.ref 93, .int a, .retAddr 0, .retAddr 0, .retAddr 0] K r h1 → Q (some (.int r)) h1) : Ends X 999 77 0 [.ref 0, .int a, .retAddr 0] [] h Q := by
  obtain ⟨q, cs, m, N, KK, ha, hn, mk, yk, y9⟩ := hi.duo
  refine prD hi (P := fun r => r.toInt = zNee (SM h) (h.2.1 93 1).toInt cs m N KK a) uqI ?_ (pc_302 a (by decide +kernel) hi.1 (fun _ _ i => i)) (fun h1 i1 f1 => ?_) (fun h1 i1 => pc_320 a (by decide +kernel) i1.1 (fun _ _ i => i)) hK hQ
  · exact cnee_ok ha mk yk hi.hh a (fun r h1 g f v => ⟨r, rfl, g, f, v⟩)
  · exact mnee_ok (hn.frT f1) mk i1.hh a (fun r h2 g rs v => ⟨r, rfl, g, rs, v⟩)
theorem hands_pairD (hi : INVD h) {K : Hp → Int32 → Int32 → Prop} (hK : ∀ r h', INVD h' → K h' r r) (hQ : ∀ r h1, HI h1 → REF X 999 169 [.ref 93, .retAddr 0] K r h1 → Q (some (.int r)) h1) : Ends X 999 78 0 [.ref 0] [] h Q := by
  obtain ⟨q, cs, m, N, KK, ha, hn, mk, yk, y9⟩ := hi.duo
  refine prD hi (P := fun r => r.toInt = zHan (SM h) (h.2.1 93 1).toInt cs m N KK) uqI ?_ (pc_303 (by decide +kernel) hi.1 (fun _ _ i => i)) (fun h1 i1 f1 => ?_) (fun h1 i1 => pc_321 (by decide +kernel) i1.1 (fun _ _ i => i)) hK hQ
  · exact chan_ok ha mk yk hi.hh (fun r h1 g f v => ⟨r, rfl, g, f, v⟩)
  · exact mhan_ok (hn.frT f1) mk i1.hh (fun r h2 g rs v => ⟨r, rfl, g, rs, v⟩)
theorem alone_pairD (a : Int32) (hi : INVD h) {K : Hp → Int32 → Int32 → Prop} (hK : ∀ r h', INVD h' → K h' r r) (hQ : ∀ r h1, HI h1 → REF X 999 170 [.ref 93, .int a, .retAddr 0, .retAddr 0] K r h1 → Q (some (.int r)) h1) : Ends X 999 79 0 [.ref 0, .int a] [] h Q := by
  obtain ⟨q, cs, m, N, KK, ha, hn, mk, yk, y9⟩ := hi.duo
  refine prD hi (P := fun r => r.toInt = zAlo (SM h) (h.2.1 93 1).toInt cs m N KK a) uqI ?_ (pc_304 a (by decide +kernel) hi.1 (fun _ _ i => i)) (fun h1 i1 f1 => ?_) (fun h1 i1 => alone_c a (by decide) i1.1 (fun _ _ i => i)) hK hQ
  · exact calo_ok ha mk yk hi.hh a (fun r h1 g f v => ⟨r, rfl, g, f, v⟩)
  · exact malo_ok (hn.frT f1) mk i1.hh a (fun r h2 g rs v => ⟨r, rfl, g, rs, v⟩)
theorem spread_pairD (a : Int32) (hi : INVD h) {K : Hp → Int32 → Int32 → Prop} (hK : ∀ r h', INVD h' → K h' r r) (hQ : ∀ r h1, HI h1 → REF X 999 173 [.ref 93, .int a, .retAddr 0, .retAddr 0, .retAddr 0, .retAddr 0, .retAddr 0] K r h1 → Q (some (.int r)) h1) : Ends X 999 80 0 [.ref 0, .int a, .retAddr 0, .retAddr 0, .retAddr 0, .retAddr 0, .retAddr 0, .retAddr 0] [] h Q := by
  obtain ⟨q, cs, m, N, KK, ha, hn, mk, yk, y9⟩ := hi.duo
  refine prD hi (P := fun r => r.toInt = zSpr (SM h) (h.2.1 93 1).toInt cs m N KK a) uqI ?_ (pc_306 a (by decide +kernel) hi.1 (fun _ _ i => i)) (fun h1 i1 f1 => ?_) (fun h1 i1 => spread_c a (by decide) i1.1 (fun _ _ i => i)) hK hQ
  · exact cspr_ok ha mk yk hi.hh a (fun r h1 g f v => ⟨r, rfl, g, f, v⟩)
  · exact mspr_ok (hn.frT f1) mk i1.hh a (fun r h2 g rs v => ⟨r, rfl, g, rs, v⟩)
theorem behind_pairD (a b : Int32) (hi : INVD h) {K : Hp → Int32 → Int32 → Prop} (hK : ∀ r h', INVD h' → K h' r r) (hQ : ∀ r h1, HI h1 → REF X 999 174 [.ref 93, .int a, .int b, .retAddr 0, .retAddr 0] K r h1 → Q (some (.int r)) h1) : Ends X 999 81 0 [.ref 0, .int a, .int b] [] h Q := by
  obtain ⟨q, cs, m, N, KK, ha, hn, mk, yk, y9⟩ := hi.duo
  refine prD hi (P := fun r => r.toInt = zBeh (SM h) (h.2.1 93 1).toInt cs m N KK a b) uqI ?_ (pc_307 a b (by decide +kernel) hi.1 (fun _ _ i => i)) (fun h1 i1 f1 => ?_) (fun h1 i1 => behind_c a b (by decide) i1.1 (fun _ _ i => i)) hK hQ
  · exact cbeh_ok ha mk yk hi.hh a b (fun r h1 g f v => ⟨r, rfl, g, f, v⟩)
  · exact mbeh_ok (hn.frT f1) mk i1.hh a b (fun r h2 g rs v => ⟨r, rfl, g, rs, v⟩)
theorem moved_pairD (a : Int32) (hi : INVD h) {K : Hp → Int32 → Int32 → Prop} (hK : ∀ r h', INVD h' → K h' r r) (hQ : ∀ r h1, HI h1 → REF X 999 176 [.ref 93, .int a, .retAddr 0, .retAddr 0, .retAddr 0] K r h1 → Q (some (.int r)) h1) : Ends X 999 83 0 [.ref 0, .int a, .retAddr 0, .retAddr 0] [] h Q := by
  obtain ⟨q, cs, m, N, KK, ha, hn, mk, yk, y9⟩ := hi.duo
  refine prD hi (P := fun r => r.toInt = zMov (SM h) (h.2.1 93 1).toInt cs m N KK (h.2.1 1 9).toInt a) uqI ?_ (pc_308 a (by decide +kernel) hi.1 (fun _ _ i => i)) (fun h1 i1 f1 => ?_) (fun h1 i1 => pc_323 a (by decide +kernel) i1.1 (fun _ _ i => i)) hK hQ
  · exact cmov_ok ha mk yk hi.hh a (fun r h1 g f v => ⟨r, rfl, g, f, v⟩)
  · exact mmov_ok (hn.frT f1) mk i1.hh a (fun r h2 g rs v => ⟨r, rfl, g, rs, by
      rw [v, frI f1 (a := 93) (k := 41) rfl, ← hi.1.1.2.2.2.2.1.1]⟩)
theorem odds_pairD (a b c : Int32) (hi : INVD h) {K : Hp → Int64 → Int64 → Prop} (hK : ∀ r h', INVD h' → K h' r r) (hQ : ∀ r h1, HI h1 → REFL X 999 179 [.ref 93, .int a, .int b, .int c, .retAddr 0, .retAddr 0, .retAddr 0] K r h1 → Q (some (.long r)) h1) : Ends X 999 84 0 [.ref 0, .int a, .int b, .int c, .retAddr 0, .retAddr 0] [] h Q := by
  obtain ⟨q, cs, m, N, KK, ha, hn, mk, yk, y9⟩ := hi.duo
  refine prDL hi (P := fun r => r.toInt = zOdd (SM h) (h.2.1 93 1).toInt cs m N KK a b c) uqL ?_ (pc_309 a b c (by decide +kernel) hi.1 (fun _ _ i => i)) (fun h1 i1 f1 => ?_) (fun h1 i1 => pc_325 a b c (by decide +kernel) i1.1 (fun _ _ i => i)) hK hQ
  · exact codd_ok ha mk yk hi.hh a b c (fun r h1 g f v => ⟨r, rfl, g, f, v⟩)
  · exact modd_ok (hn.frT f1) mk i1.hh a b c (fun r h2 g rs v => ⟨r, rfl, g, rs, v⟩)
theorem mean_pairD (a b : Int32) (hi : INVD h) {K : Hp → Int64 → Int64 → Prop} (hK : ∀ r h', INVD h' → K h' r r) (hQ : ∀ r h1, HI h1 → REFL X 999 180 [.ref 93, .int a, .int b, .retAddr 0, .retAddr 0, .retAddr 0] K r h1 → Q (some (.long r)) h1) : Ends X 999 85 0 [.ref 0, .int a, .int b, .retAddr 0, .retAddr 0] [] h Q := by
  obtain ⟨q, cs, m, N, KK, ha, hn, mk, yk, y9⟩ := hi.duo
  refine prDL hi (P := fun r => r.toInt = zMea (SM h) (h.2.1 93 1).toInt cs m N KK a b) uqL ?_ (pc_310 a b (by decide +kernel) hi.1 (fun _ _ i => i)) (fun h1 i1 f1 => ?_) (fun h1 i1 => mean_c a b (by decide +kernel) i1.1 (fun _ _ i => i)) hK hQ
  · exact cmea_ok ha mk yk y9 hi.hh a b (fun r h1 g f v => ⟨r, rfl, g, f, v⟩)
  · exact mmea_ok (hn.frT f1) mk y9 i1.hh a b (fun r h2 g rs v => ⟨r, rfl, g, rs, v⟩)
/-- looked: all is put back; the answers are not compared -/
theorem looked_pairD (hi : INVD h) {K : Hp → Int32 → Int32 → Prop} (hK : ∀ r r2 h', INVD h' → K h' r r2) (hQ : ∀ r h1, HI h1 → REF X 999 182 [.ref 93, .retAddr 0, .retAddr 0] K r h1 → Q (some (.int r)) h1) : Ends X 999 87 0 [.ref 0, .retAddr 0] [] h Q := by
  refine pd_311 (by decide +kernel) hi (fun r h1 i1 => hQ r h1 i1.hh ?_)
  obtain ⟨q, cs, m, N, KK, ha, hn, mk, yk, y9⟩ := i1.duo
  refine ((mloo_ok (Q := fun v h2 => ∃ r, v = some (.int r) ∧ HI h2 ∧ RST h1 h2) hn mk y9 i1.hh (fun r h2 g rs => ⟨r, rfl, g, rs⟩)).and (looked_c (Q := fun _ h2 => INVC h2) (by decide +kernel) i1.1 (fun _ _ i => i))).mono ?_
  rintro w h2 ⟨⟨r2, rfl, g2, rs⟩, i2⟩
  exact ⟨_, rfl, g2.hs, hK r _ h2 ⟨i2, EQD_r rs i1.2⟩⟩
theorem judge_pairD (a b : Int32) (hi : INVD h) {K : Hp → Int32 → Int32 → Prop} (hK : ∀ r r2 h', INVD h' → K h' r r2) (hQ : ∀ r h1, HI h1 → REF X 999 183 [.ref 93, .int a, .int b, .retAddr 0] K r h1 → Q (some (.int r)) h1) : Ends X 999 88 0 [.ref 0, .int a, .int b, .retAddr 0, .retAddr 0, .retAddr 0, .retAddr 0] [] h Q :=
  pd_159 a b (by decide +kernel) hi (fun r h1 i1 => hQ r h1 i1.hh (pd_246 a b (by decide +kernel) i1 (fun r2 h2 i2 => ⟨r2, rfl, i2.hh.hs, hK r r2 h2 i2⟩)))
theorem shout_pairD (hi : INVD h) {K : Hp → Int32 → Int32 → Prop} (hK : ∀ r h', INVD h' → K h' r r) (hQ : ∀ r h1, HI h1 → REF X 999 159 [.ref 93] K r h1 → Q (some (.int r)) h1) : Ends X 999 71 0 [.ref 0, .retAddr 0] [] h Q := by
  obtain ⟨q, cs, m, N, KK, ha, hn, mk, yk, y9⟩ := hi.duo
  have e1 := csho_ok (X := X) (dp := 994) (Q := fun v h1 => (¬ (h.2.1 93 1).toInt < 999 ∧ v = some (.int (-3)) ∧ h1 = h) ∨ ((h.2.1 93 1).toInt < 999 ∧ ∃ r h0, v = some (.int r) ∧ frm WTQ h h0 ∧ BSET r (zC (SM h) (h.2.1 93 1).toInt cs m N KK) ∧ h1 = hpI (hpI h0 1 7 (h.2.1 1 7 ||| r)) 1 8 (h.2.1 1 8 + 1))) ha mk yk hi.hh (fun c => Or.inl ⟨c, rfl, rfl⟩) (fun c r h0 _ f b => Or.inr ⟨c, r, h0, rfl, f, b, rfl⟩)
  have e2 := pc_294 (X := X) (dp := 999) (Q := fun _ h1 => INVC h1) (by decide +kernel) hi.1 (fun _ _ i => i)
  refine (e1.and e2).mono ?_
  rintro v h1 ⟨⟨c, rfl, rfl⟩ | ⟨c, r, h0, rfl, f0, b, rfl⟩, i1⟩
  · refine hQ _ _ hi.hh ?_
    exact msho_ok (dp := 988) hn mk y9 hi.hh (fun _ => ⟨_, rfl, hi.hh.hs, hK _ _ hi⟩) (fun d => absurd d c)
  · have g1 : HI (hpI (hpI h0 1 7 (h.2.1 1 7 ||| r)) 1 8 (h.2.1 1 8 + 1)) := i1.1.1.1
    have uh : ∀ a k, a ≠ 1 → (a < 17 ∨ 37 < a) → (hpI (hpI h0 1 7 (h.2.1 1 7 ||| r)) 1 8 (h.2.1 1 8 + 1)).2.1 a k = h.2.1 a k := fun a k q1 q2 => by
      rw [put_ne (by omega), put_ne (by omega)]
      exact frI f0 (WTQ_n (by omega))
    have v7 : (hpI (hpI h0 1 7 (h.2.1 1 7 ||| r)) 1 8 (h.2.1 1 8 + 1)).2.1 1 7 = h.2.1 1 7 ||| r := by rw [put_ne (by omega), put_at]
    have v8 : (hpI (hpI h0 1 7 (h.2.1 1 7 ||| r)) 1 8 (h.2.1 1 8 + 1)).2.1 1 8 = h.2.1 1 8 + 1 := put_at
    generalize hpI (hpI h0 1 7 (h.2.1 1 7 ||| r)) 1 8 (h.2.1 1 8 + 1) = h1 at i1 g1 uh v7 v8 ⊢
    have n1 : NMS (SM h) (h.2.1 93 1).toInt cs m N KK h1 := hn.fS (fun a k ha _ => uh a k (by omega) (by omega))
    refine hQ r h1 g1 ?_
    refine ((msho_ok (X := X) (dp := 988) (Q := fun v h2 => ∃ r2, v = some (.int r2) ∧ HI h2 ∧ frm W12 h1 h2 ∧ BSET r2 (zC (SM h) (h.2.1 93 1).toInt cs m N KK) ∧ h2.2.1 93 2 = h1.2.1 93 2 ||| r2 ∧ h2.2.1 93 1 = h1.2.1 93 1 + 1 ∧ ∀ p, p < 7 → zC (SM h) (h.2.1 93 1).toInt cs m N KK p = true → p < N) n1 mk y9 g1 (fun d => absurd c d) (fun _ r2 h2 g2 f2 b2 v2 v1 zn => ⟨r2, rfl, g2, f2, b2, v2, v1, zn⟩)).and (shout_c (Q := fun _ h2 => INVC h2) (by decide +kernel) i1 (fun _ _ i => i))).mono ?_
    rintro w h2 ⟨⟨r2, rfl, g2, f2, b2, x2, x1, zn⟩, i2⟩
    have er : r = r2 := b.inj b2
    subst er
    refine ⟨_, rfl, g2.hs, hK _ h2 ⟨i2, ?_⟩⟩
    obtain ⟨d1, d2, d3, d4, d5, d6, d7, d8, d9, d10, d11, d12, d13⟩ := hi.2
    have u2 : ∀ a k, a ≠ 1 → (a < 17 ∨ 37 < a) → inW W12 a k = false → h2.2.1 a k = h.2.1 a k := fun a k q1 q2 q3 => by rw [frI f2 q3]; exact uh a k q1 q2
    have ks := (hn.2.2.2.2.1.or b)
    refine ⟨eqr_fr (fun j => u2 4 j (by decide) (by decide) (by simp [inW, W12, WMX])) (fun j => u2 96 j (by decide) (by decide) (by simp [inW, W12, WMX])) d1, eqr_fr (fun j => u2 6 j (by decide) (by decide) (by simp [inW, W12, WMX])) (fun j => u2 98 j (by decide) (by decide) (by simp [inW, W12, WMX])) d2, eqr_fr (fun j => u2 12 j (by decide) (by decide) (by simp [inW, W12, WMX])) (fun j => u2 117 j (by decide) (by decide) (by simp [inW, W12, WMX])) d3, eqr_fr (fun j => u2 14 j (by decide) (by decide) (by simp [inW, W12, WMX])) (fun j => u2 119 j (by decide) (by decide) (by simp [inW, W12, WMX])) d4, ?_, ?_, ?_, ?_, ?_, ?_, ?_, ?_, ?_⟩
    · rw [frI f2 (a := 1) rfl, v7, x2, uh 93 2 (by decide) (by decide), d5]
    · rw [frI f2 (a := 1) rfl, v8, x1, uh 93 1 (by decide) (by decide), d6]
    · rw [u2 9 7 (by decide) (by decide) rfl, u2 93 48 (by decide) (by decide) rfl]; exact d7
    · rw [u2 9 8 (by decide) (by decide) rfl, u2 93 47 (by decide) (by decide) rfl]; exact d8
    · rw [x2, uh 93 2 (by decide) (by decide), u2 93 0 (by decide) (by decide) rfl]
      intro p hp z
      rw [ks.tb p hp, Bool.or_eq_true] at z
      rw [hn.2.2.2.1]
      rcases z with z | z
      · exact Int.ofNat_lt.mpr (hn.2.2.2.2.2.1 p hp z)
      · exact Int.ofNat_lt.mpr (zn p hp z)
    · rw [u2 93 48 (by decide) (by decide) rfl, u2 93 46 (by decide) (by decide) rfl]; exact d10
    · rw [u2 39 0 (by decide) (by decide) rfl]; exact d11
    · rw [u2 93 27 (by decide) (by decide) rfl]; exact d12
    · rw [u2 93 28 (by decide) (by decide) rfl]; exact d13
/-- set -/
theorem EQD_2 {h1 h2 : Hp} (hi : EQD h) (a b p : Nat) (v : Int32) (hab : (a = 4 ∧ b = 96) ∨ (a = 6 ∧ b = 98)) (e1 : h1 = hpI h a p v) (e2 : h2 = hpI h1 b p v) : EQD h2 := by
  subst e1 e2
  obtain ⟨d1, d2, d3, d4, d5, d6, d7, d8, d9, d10, d11, d12, d13⟩ := hi
  have u : ∀ c k, c ≠ a → c ≠ b → (hpI (hpI h a p v) b p v).2.1 c k = h.2.1 c k := fun c k q1 q2 => by rw [put_ne (by omega), put_ne (by omega)]
  have ab : ∀ j, j < 7 → h.2.1 a j = h.2.1 b j → (hpI (hpI h a p v) b p v).2.1 a j = (hpI (hpI h a p v) b p v).2.1 b j := fun j hj q => by
    rw [put_ne (by omega), put_if, put_if, put_ne (by omega)]
    split
    · rfl
    · exact q
  have o : ∀ c d n, c ≠ a → c ≠ b → d ≠ a → d ≠ b → eqr h c d n → eqr (hpI (hpI h a p v) b p v) c d n := fun c d n q1 q2 q3 q4 q => eqr_fr (fun j => u c j q1 q2) (fun j => u d j q3 q4) q
  refine ⟨?_, ?_, o 12 117 7 (by omega) (by omega) (by omega) (by omega) d3, o 14 119 7 (by omega) (by omega) (by omega) (by omega) d4, by rw [u 1 7 (by omega) (by omega), u 93 2 (by omega) (by omega)]; exact d5, by rw [u 1 8 (by omega) (by omega), u 93 1 (by omega) (by omega)]; exact d6, by rw [u 9 7 (by omega) (by omega), u 93 48 (by omega) (by omega)]; exact d7, by rw [u 9 8 (by omega) (by omega), u 93 47 (by omega) (by omega)]; exact d8, by rw [u 93 2 (by omega) (by omega), u 93 0 (by omega) (by omega)]; exact d9, by rw [u 93 48 (by omega) (by omega), u 93 46 (by omega) (by omega)]; exact d10, by rw [u 39 0 (by omega) (by omega)]; exact d11, by rw [u 93 27 (by omega) (by omega)]; exact d12, by rw [u 93 28 (by omega) (by omega)]; exact d13⟩
  · rcases hab with ⟨rfl, rfl⟩ | ⟨rfl, rfl⟩
    · exact fun j hj => ab j hj (d1 j hj)
    · exact o 4 96 7 (by decide) (by decide) (by decide) (by decide) d1
  · rcases hab with ⟨rfl, rfl⟩ | ⟨rfl, rfl⟩
    · exact o 6 98 7 (by decide) (by decide) (by decide) (by decide) d2
    · exact fun j hj => ab j hj (d2 j hj)
theorem set_pairD (a b c : Int32) (hi : INVD h) {K : Hp → Int32 → Int32 → Prop} (hK : ∀ r h', INVD h' → K h' r r) (hQ : ∀ r h1, HI h1 → REF X 999 115 [.ref 93, .int a, .int b, .int c, .retAddr 0] K r h1 → Q (some (.int r)) h1) : Ends X 999 65 0 [.ref 0, .int a, .int b, .int c, .retAddr 0] [] h Q := by
  obtain ⟨q, cs, m, N, KK, ha, hn, mk, yk, y9⟩ := hi.duo
  have N7 := mk.2.2.2
  have hc := ha.2.2.2.2.1
  have hm := hn.2.2.2.1
  have e1 := cset_ok (X := X) (dp := 998) (Q := fun v h1 => (¬ (isP N a ∧ is01 b) ∧ v = some (.int (-1)) ∧ h1 = h) ∨ (isP N a ∧ is01 b ∧ setBad b c ∧ v = some (.int (-2)) ∧ h1 = h) ∨ (isP N a ∧ b.toInt = 0 ∧ (0 ≤ c.toInt ∧ c.toInt ≤ 6) ∧ v = some (.int (h.2.1 4 a.toInt.toNat)) ∧ h1 = hpI h 4 a.toInt.toNat c) ∨ (isP N a ∧ b.toInt = 1 ∧ (0 ≤ c.toInt ∧ c.toInt ≤ 9) ∧ v = some (.int (h.2.1 6 a.toInt.toNat)) ∧ h1 = hpI h 6 a.toInt.toNat c)) hc N7 hi.hh a b c (fun z => Or.inl ⟨z, rfl, rfl⟩) (fun z1 z2 z3 => Or.inr (Or.inl ⟨z1, z2, z3, rfl, rfl⟩)) (fun z1 z2 z3 => Or.inr (Or.inr (Or.inl ⟨z1, z2, z3, rfl, rfl⟩))) (fun z1 z2 z3 => Or.inr (Or.inr (Or.inr ⟨z1, z2, z3, rfl, rfl⟩)))
  have e2 := pc_55 (X := X) (dp := 999) (Q := fun _ h1 => INVC h1) a b c (by decide +kernel) hi.1 (fun _ _ i => i)
  refine (e1.and e2).mono ?_
  have mm := fun h1 (i1 : INVC h1) => pc_228 (X := X) (dp := 999) (Q := fun _ h2 => INVC h2) a b c (by decide +kernel) i1 (fun _ _ i => i)
  rintro v h1 ⟨⟨z, rfl, rfl⟩ | ⟨z1, z2, z3, rfl, rfl⟩ | ⟨z1, z2, z3, rfl, rfl⟩ | ⟨z1, z2, z3, rfl, rfl⟩, i1⟩
  · exact hQ _ _ hi.hh (mset_ok (dp := 997) hm N7 hi.hh a b c (fun _ => ⟨_, rfl, hi.hh.hs, hK _ _ hi⟩) (fun y1 y2 => absurd ⟨y1, y2⟩ z) (fun y1 y2 => absurd ⟨y1, by omega⟩ z) (fun y1 y2 => absurd ⟨y1, by omega⟩ z))
  · exact hQ _ _ hi.hh (mset_ok (dp := 997) hm N7 hi.hh a b c (fun y => absurd ⟨z1, z2⟩ y) (fun _ _ _ => ⟨_, rfl, hi.hh.hs, hK _ _ hi⟩) (fun _ y2 y3 => by
      rcases z3 with z3 | z3
      · exact absurd y3 z3.2
      · omega) (fun _ y2 y3 => by
      rcases z3 with z3 | z3
      · omega
      · exact absurd y3 z3.2))
  · refine hQ _ _ i1.1.1.1 (((mset_ok (X := X) (dp := 997) (N := N) (Q := fun v h2 => v = some (.int ((hpI h 4 a.toInt.toNat c).2.1 96 a.toInt.toNat)) ∧ h2 = hpI (hpI h 4 a.toInt.toNat c) 96 a.toInt.toNat c) (by rw [put_ne (by omega)]; exact hm) N7 i1.1.1.1 a b c (fun y => absurd ⟨z1, by omega⟩ y) (fun _ _ y => by
      rcases y with y | y
      · exact absurd z3 y.2
      · omega) (fun _ _ _ => ⟨rfl, rfl⟩) (fun _ y _ => by omega)).and (mm _ i1)).mono ?_)
    rintro w h2 ⟨⟨rfl, rfl⟩, i2⟩
    refine ⟨_, rfl, i2.1.1.1.hs, ?_⟩
    have e : (hpI h 4 a.toInt.toNat c).2.1 96 a.toInt.toNat = h.2.1 4 a.toInt.toNat := by rw [put_ne (by omega)]; exact (hi.2.1 _ (by omega)).symm
    rw [e]
    exact hK _ _ ⟨i2, EQD_2 hi.2 4 96 _ c (Or.inl ⟨rfl, rfl⟩) rfl rfl⟩
  · refine hQ _ _ i1.1.1.1 (((mset_ok (X := X) (dp := 997) (N := N) (Q := fun v h2 => v = some (.int ((hpI h 6 a.toInt.toNat c).2.1 98 a.toInt.toNat)) ∧ h2 = hpI (hpI h 6 a.toInt.toNat c) 98 a.toInt.toNat c) (by rw [put_ne (by omega)]; exact hm) N7 i1.1.1.1 a b c (fun y => absurd ⟨z1, by omega⟩ y) (fun _ _ y => by
      rcases y with y | y
      · omega
      · exact absurd z3 y.2) (fun _ y _ => by omega) (fun _ _ _ => ⟨rfl, rfl⟩)).and (mm _ i1)).mono ?_)
    rintro w h2 ⟨⟨rfl, rfl⟩, i2⟩
    refine ⟨_, rfl, i2.1.1.1.hs, ?_⟩
    have e : (hpI h 6 a.toInt.toNat c).2.1 98 a.toInt.toNat = h.2.1 6 a.toInt.toNat := by rw [put_ne (by omega)]; exact (hi.2.2.1 _ (by omega)).symm
    rw [e]
    exact hK _ _ ⟨i2, EQD_2 hi.2 6 98 _ c (Or.inr ⟨rfl, rfl⟩) rfl rfl⟩
/-- catches -/
theorem EQD_k {v : Int32} {f : Nat → Bool} (hi : EQD h) (hv : BSET v f) (hf : ∀ p, p < 7 → f p = true → (p : Int) < (h.2.1 93 0).toInt) : EQD (hpI (hpI h 1 7 v) 93 2 v) := by
  obtain ⟨d1, d2, d3, d4, d5, d6, d7, d8, d9, d10, d11, d12, d13⟩ := hi
  have u : ∀ c k, ¬ (c = 1 ∧ k = 7) → ¬ (c = 93 ∧ k = 2) → (hpI (hpI h 1 7 v) 93 2 v).2.1 c k = h.2.1 c k := fun c k q1 q2 => by rw [put_ne q2, put_ne q1]
  have o : ∀ c d n, c ≠ 1 → c ≠ 93 → d ≠ 1 → d ≠ 93 → eqr h c d n → eqr (hpI (hpI h 1 7 v) 93 2 v) c d n := fun c d n q1 q2 q3 q4 q => eqr_fr (fun j => u c j (by omega) (by omega)) (fun j => u d j (by omega) (by omega)) q
  refine ⟨o 4 96 7 (by decide) (by decide) (by decide) (by decide) d1, o 6 98 7 (by decide) (by decide) (by decide) (by decide) d2, o 12 117 7 (by decide) (by decide) (by decide) (by decide) d3, o 14 119 7 (by decide) (by decide) (by decide) (by decide) d4, by rw [put_ne (by omega), put_at, put_at], by rw [u 1 8 (by omega) (by omega), u 93 1 (by omega) (by omega)]; exact d6, by rw [u 9 7 (by omega) (by omega), u 93 48 (by omega) (by omega)]; exact d7, by rw [u 9 8 (by omega) (by omega), u 93 47 (by omega) (by omega)]; exact d8, ?_, by rw [u 93 48 (by omega) (by omega), u 93 46 (by omega) (by omega)]; exact d10, by rw [u 39 0 (by omega) (by omega)]; exact d11, by rw [u 93 27 (by omega) (by omega)]; exact d12, by rw [u 93 28 (by omega) (by omega)]; exact d13⟩
  rw [put_at, u 93 0 (by omega) (by omega)]
  intro p hp z
  rw [hv.tb p hp] at z
  exact hf p hp z
theorem catches_pairD (a b : Int32) (b0 : 0 ≤ b.toInt) (b1 : b.toInt ≤ 1) (hi : INVD h) {K : Hp → Int32 → Int32 → Prop} (hK : ∀ r h', INVD h' → K h' r r) (hQ : ∀ r h1, HI h1 → REF X 999 116 [.ref 93, .int a, .int b, .retAddr 0] K r h1 → Q (some (.int r)) h1) : Ends X 999 66 0 [.ref 0, .int a, .int b, .retAddr 0] [] h Q := by
  obtain ⟨q, cs, m, N, KK, ha, hn, mk, yk, y9⟩ := hi.duo
  have N7 := mk.2.2.2
  have hc := ha.2.2.2.2.1
  have hm := hn.2.2.2.1
  have bk := hn.2.2.2.2.1
  have kN := hn.2.2.2.2.2.1
  have e17 : h.2.1 1 7 = h.2.1 93 2 := hi.2.2.2.2.2.1
  have e1 := ccat_ok (X := X) (dp := 997) (Q := fun v h1 => (¬ isP N a ∧ v = some (.int (-1)) ∧ h1 = h) ∨ (isP N a ∧ b.toInt = 0 ∧ v = some (.int (b2i (KK a.toInt.toNat))) ∧ h1 = hpI h 1 7 (h.2.1 1 7 &&& ((1 <<< (a &&& 31)) ^^^ (-1)))) ∨ (isP N a ∧ ¬ b.toInt = 0 ∧ v = some (.int (b2i (KK a.toInt.toNat))) ∧ h1 = hpI h 1 7 (h.2.1 1 7 ||| (1 <<< (a &&& 31))))) hc N7 ha.2.2.2.2.2.1 hi.hh a b (fun z => Or.inl ⟨z, rfl, rfl⟩) (fun z1 z2 => Or.inr (Or.inl ⟨z1, z2, rfl, rfl⟩)) (fun z1 z2 => Or.inr (Or.inr ⟨z1, z2, rfl, rfl⟩))
  have e2 := pc_56 (X := X) (dp := 999) (Q := fun _ h1 => INVC h1) a b b0 b1 (by decide +kernel) hi.1 (fun _ _ i => i)
  refine (e1.and e2).mono ?_
  have mm := fun h1 (i1 : INVC h1) => pc_229 (X := X) (dp := 999) (Q := fun _ h2 => INVC h2) a b b0 b1 (by decide +kernel) i1 (fun _ _ i => i)
  rintro v h1 ⟨⟨z, rfl, rfl⟩ | ⟨z1, z2, rfl, rfl⟩ | ⟨z1, z2, rfl, rfl⟩, i1⟩
  · exact hQ _ _ hi.hh (mcat_ok (dp := 997) hm N7 bk hi.hh a b (fun _ => ⟨_, rfl, hi.hh.hs, hK _ _ hi⟩) (fun y _ => absurd y z) (fun y _ => absurd y z))
  · have hp : a.toInt = (a.toInt.toNat : Int) := by omega
    have bv := bk.no (BSET.one hp (by omega))
    rw [e17] at i1 ⊢
    generalize hv : h.2.1 93 2 &&& ((1 <<< (a &&& 31)) ^^^ (-1)) = v at bv i1 ⊢
    have h2e : (hpI h 1 7 v).2.1 93 2 = h.2.1 93 2 := put_ne (by omega)
    refine hQ _ _ i1.1.1.1 (((mcat_ok (X := X) (dp := 997) (N := N) (K := KK) (Q := fun w h2 => w = some (.int (b2i (KK a.toInt.toNat))) ∧ h2 = hpI (hpI h 1 7 v) 93 2 v) (by rw [put_ne (by omega)]; exact hm) N7 (by rw [h2e]; exact bk) i1.1.1.1 a b (fun y => absurd z1 y) (fun _ _ => ⟨rfl, by rw [h2e, hv]⟩) (fun _ y => absurd z2 y)).and (mm _ i1)).mono ?_)
    rintro w h2 ⟨⟨rfl, rfl⟩, i2⟩
    refine ⟨_, rfl, i2.1.1.1.hs, hK _ _ ⟨i2, EQD_k hi.2 bv (fun p hp' z => ?_)⟩⟩
    rw [Bool.and_eq_true] at z
    have := kN p hp' z.1
    omega
  · have hp : a.toInt = (a.toInt.toNat : Int) := by omega
    have bv := bk.or (BSET.one hp (by omega))
    rw [e17] at i1 ⊢
    generalize hv : h.2.1 93 2 ||| (1 <<< (a &&& 31)) = v at bv i1 ⊢
    have h2e : (hpI h 1 7 v).2.1 93 2 = h.2.1 93 2 := put_ne (by omega)
    refine hQ _ _ i1.1.1.1 (((mcat_ok (X := X) (dp := 997) (N := N) (K := KK) (Q := fun w h2 => w = some (.int (b2i (KK a.toInt.toNat))) ∧ h2 = hpI (hpI h 1 7 v) 93 2 v) (by rw [put_ne (by omega)]; exact hm) N7 (by rw [h2e]; exact bk) i1.1.1.1 a b (fun y => absurd z1 y) (fun _ y => absurd y z2) (fun _ _ => ⟨rfl, by rw [h2e, hv]⟩)).and (mm _ i1)).mono ?_)
    rintro w h2 ⟨⟨rfl, rfl⟩, i2⟩
    refine ⟨_, rfl, i2.1.1.1.hs, hK _ _ ⟨i2, EQD_k hi.2 bv (fun p hp' z => ?_)⟩⟩
    rw [Bool.or_eq_true] at z
    rcases z with z | z
    · have := kN p hp' z
      omega
    · rw [of_decide_eq_true z]
      omega
/-- person -/
theorem per_pairD (k v l p s : Int32) (hi : INVD h) {K : Hp → Int32 → Int32 → Prop} (hK : ∀ r h', INVD h' → K h' r r) (hQ : ∀ r h1, HI h1 → REF X 999 114 [.ref 93, .int k, .int v, .int l, .int p, .int s, .retAddr 0] K r h1 → Q (some (.int r)) h1) : Ends X 999 63 0 [.ref 0, .int k, .int v, .int l, .int p, .int s] [] h Q := by
  obtain ⟨q, cs, m, N, KK, ha, hn, mk, yk, y9⟩ := hi.duo
  have N7 := mk.2.2.2
  have r1 : h.2.1 1 0 = h.2.1 93 0 := hi.1.1.1.2.2.2.2.2.2.1
  have e1 := per_pairC (X := X) (dp := 998) (Q := fun w h1 => ∃ r, w = some (.int r) ∧ HI h1 ∧ REF X 999 114 [.ref 93, .int k, .int v, .int l, .int p, .int s, .retAddr 0] (fun h' r r2 => INVC h' ∧ r2 = r) r h1) (K := fun h' r r2 => INVC h' ∧ r2 = r) k v l p s hi.1 (fun r h' i => ⟨i, rfl⟩) (fun r h1 g e => ⟨r, rfl, g, e⟩)
  have e2 := cper_ok (X := X) (dp := 998) (Q := fun w h1 => h1 = if perOK (h.2.1 1 0) k v l p s = true then joinH h k v l p s else h) k v l p s hi.hh rfl
  refine (e1.and e2).mono ?_
  rintro w h1 ⟨⟨r, rfl, g1, e⟩, e0⟩
  refine hQ r _ g1 ?_
  have e3 := mper_ok (X := X) (dp := 998) (h := h1) (Q := fun _ h' => frm WPE h1 h' ∧ if perOK (h1.2.1 93 0) k v l p s = true then PER h1 h' k v l p s else h' = h1) k v l p s g1 (fun h' _ z2 z3 => ⟨z2, z3⟩)
  unfold REF at e ⊢
  refine (e.and e3).mono ?_
  rintro w h' ⟨⟨r2, rfl, hs2, i2, rfl⟩, f2, z⟩
  refine ⟨_, rfl, hs2, hK _ h' ⟨i2, ?_⟩⟩
  by_cases c : perOK (h.2.1 1 0) k v l p s = true
  · rw [if_pos c] at e0
    subst e0
    obtain ⟨gc, fc, c1, c0⟩ := joinH_ok hi.hh c
    rw [c0, ← r1, if_pos c] at z
    obtain ⟨y0, y2, -, -, y5, -, y7, -⟩ := z
    rw [c0, ← r1] at y0 y2 y5 y7
    have n7 : ¬ (h.2.1 1 0).toInt = 7 := by
      unfold perOK at c
      simp only [Bool.and_eq_true, Bool.not_eq_true', decide_eq_false_iff_not] at c
      exact c.2
    have hc := ha.2.2.2.2.1
    have j96 : ∀ j, (joinH h k v l p s).2.1 96 j = h.2.1 96 j := fun j => joinH_f (by simp [inW])
    have j98 : ∀ j, (joinH h k v l p s).2.1 98 j = h.2.1 98 j := fun j => joinH_f (by simp [inW])
    have j4 : ∀ j, (joinH h k v l p s).2.1 4 j = if j = (h.2.1 1 0).toInt.toNat then l else h.2.1 4 j := fun j => by
      unfold joinH
      rw [put_ne (by omega), put_ne (by omega), put_ne (by omega), put_if, put_ne (by omega), put_ne (by omega)]
    have j6 : ∀ j, (joinH h k v l p s).2.1 6 j = if j = (h.2.1 1 0).toInt.toNat then s else h.2.1 6 j := fun j => by
      unfold joinH
      rw [put_ne (by omega), put_if, put_ne (by omega), put_ne (by omega), put_ne (by omega), put_ne (by omega)]
    have jo : ∀ a k', inW [(2, 999), (3, 999), (4, 999), (5, 999), (6, 999), (1, 0)] a k' = false → (joinH h k v l p s).2.1 a k' = h.2.1 a k' := fun a k' q => joinH_f q
    generalize joinH h k v l p s = hj at *
    have e932 : hj.2.1 93 2 = h.2.1 93 2 := jo 93 2 rfl
    have kb := hn.2.2.2.2.1.no (BSET.one hc (by omega))
    have k2 : h.2.1 93 2 &&& ((1 <<< (h.2.1 1 0 &&& 31)) ^^^ (-1)) = h.2.1 93 2 := by
      refine (kb.cg (fun x hx => ?_)).inj hn.2.2.2.2.1
      cases z : KK x with
      | false => rfl
      | true =>
        have := hn.2.2.2.2.2.1 x hx z
        rw [decide_eq_false (by omega)]
        rfl
    rw [e932, k2] at y2
    obtain ⟨d1, d2, d3, d4, d5, d6, d7, d8, d9, d10, d11, d12, d13⟩ := hi.2
    have u : ∀ a k', inW WPJ a k' = false → h'.2.1 a k' = h.2.1 a k' := fun a k' q => by
      rw [frI f2 (by
        simp only [inW, WPE, WPJ, List.any_cons, List.any_nil, Bool.or_false, Bool.or_eq_false_iff, Bool.and_eq_false_iff, beq_eq_false_iff_ne] at q ⊢
        omega)]
      exact frI fc q
    have g1 : (h.2.1 1 0 + 1).toInt = (h.2.1 1 0).toInt + 1 := by rw [i_add (by rw [i1]; omega) (by rw [i1]; omega), i1]
    refine ⟨fun j hj7 => ?_, fun j hj7 => ?_, eqr_fr (fun j => u 12 j (by simp [inW, WPJ])) (fun j => u 117 j (by simp [inW, WPJ])) d3, eqr_fr (fun j => u 14 j (by simp [inW, WPJ])) (fun j => u 119 j (by simp [inW, WPJ])) d4, by rw [u 1 7 rfl, y2]; exact d5, by rw [u 1 8 rfl, u 93 1 rfl]; exact d6, by rw [u 9 7 rfl, u 93 48 rfl]; exact d7, by rw [u 9 8 rfl, u 93 47 rfl]; exact d8, ?_, by rw [u 93 48 rfl, u 93 46 rfl]; exact d10, by rw [u 39 0 rfl]; exact d11, by rw [u 93 27 rfl]; exact d12, by rw [u 93 28 rfl]; exact d13⟩
    · rw [frI f2 (a := 4) (by simp [inW, WPE]), j4 j, y5 j, j96 j]
      split
      · rfl
      · exact d1 j hj7
    · rw [frI f2 (a := 6) (by simp [inW, WPE]), j6 j, y7 j, j98 j]
      split
      · rfl
      · exact d2 j hj7
    · rw [y2, y0]
      intro x hx z
      have := d9 x hx z
      rw [← r1] at this
      omega
  · rw [if_neg c] at e0
    subst e0
    rw [r1] at c
    rw [if_neg c] at z
    rw [z]
    exact hi.2
/-- image -/
theorem img_pairD (hi : INVD h) {K : Hp → Int32 → Int32 → Prop} (hK : ∀ r h', INVD h' → K h' r r) (hQ : ∀ r h1, HI h1 → REF X 999 184 [.ref 93, .retAddr 0] K r h1 → Q (some (.int r)) h1) : Ends X 999 89 0 [.ref 0] [] h Q := by
  have e1 := img_pairC (X := X) (dp := 998) (Q := fun w h1 => ∃ r, w = some (.int r) ∧ HI h1 ∧ REF X 999 184 [.ref 93, .retAddr 0] (fun h' r r2 => INVC h' ∧ r2 = r) r h1) (K := fun h' r r2 => INVC h' ∧ r2 = r) hi.1 (fun r h' i => ⟨i, rfl⟩) (fun r h1 g e => ⟨r, rfl, g, e⟩)
  have e2 := cimg_ok (X := X) (dp := 998) (h := h) (Q := fun _ h1 => h1 = hpI (bec h 9 1) 0 2 1) hi.hh.hs rfl
  refine (e1.and e2).mono ?_
  rintro w h1 ⟨⟨r, rfl, g1, e⟩, rfl⟩
  refine hQ r _ g1 ?_
  have c12 : ∀ j, j < 7 → (hpI (bec h 9 1) 0 2 1).2.1 12 j = h.2.1 4 j := fun j hj => by rw [put_ne (by omega)]; exact bec_3 (a := 9) (b := 1) (by omega) hj
  have c14 : ∀ j, j < 7 → (hpI (bec h 9 1) 0 2 1).2.1 14 j = h.2.1 6 j := fun j hj => by rw [put_ne (by omega)]; exact bec_5 (a := 9) (b := 1) (by omega) hj
  have c7 : (hpI (bec h 9 1) 0 2 1).2.1 9 7 = h.2.1 1 7 := by rw [put_ne (by omega)]; exact bec_f7
  have c8 : (hpI (bec h 9 1) 0 2 1).2.1 9 8 = h.2.1 1 8 := by rw [put_ne (by omega)]; exact bec_f8
  have uo : ∀ c k, (c < 9 ∨ 17 ≤ c) → ¬ (c = 0 ∧ k = 2) → (hpI (bec h 9 1) 0 2 1).2.1 c k = h.2.1 c k := fun c k q1 q2 => by rw [put_ne q2]; exact bec_o (by omega)
  generalize hpI (bec h 9 1) 0 2 1 = hc at *
  have e3 := mimg_ok (X := X) (dp := 999) (h := hc) (Q := fun _ h' => frm Wmig hc h' ∧ KIm hc h' ∧ AEq hc h' 117 96 7 ∧ AEq hc h' 119 98 7) g1 (fun h' _ z2 z3 _ _ _ _ x3 _ x5 => ⟨z2, z3, x3, x5⟩)
  unfold REF at e ⊢
  refine (e.and e3).mono ?_
  rintro w h' ⟨⟨r2, rfl, hs2, i2, rfl⟩, f2, ⟨-, -, y3, y4, y5, -, -⟩, x3, x5⟩
  refine ⟨_, rfl, hs2, hK _ h' ⟨i2, ?_⟩⟩
  obtain ⟨d1, d2, d3, d4, d5, d6, d7, d8, d9, d10, d11, d12, d13⟩ := hi.2
  have u : ∀ a k, (a < 9 ∨ 17 ≤ a) → ¬ (a = 0 ∧ k = 2) → inW Wmig a k = false → h'.2.1 a k = h.2.1 a k := fun a k q1 q2 q3 => by rw [frI f2 q3]; exact uo a k q1 q2
  refine ⟨eqr_fr (fun j => u 4 j (by decide) (by omega) (by simp [inW, Wmig])) (fun j => u 96 j (by decide) (by omega) (by simp [inW, Wmig])) d1, eqr_fr (fun j => u 6 j (by decide) (by omega) (by simp [inW, Wmig])) (fun j => u 98 j (by decide) (by omega) (by simp [inW, Wmig])) d2, fun j hj => ?_, fun j hj => ?_, by rw [u 1 7 (by decide) (by omega) rfl, u 93 2 (by decide) (by omega) rfl]; exact d5, by rw [u 1 8 (by decide) (by omega) rfl, u 93 1 (by decide) (by omega) rfl]; exact d6, ?_, ?_, by rw [u 93 2 (by decide) (by omega) rfl, u 93 0 (by decide) (by omega) rfl]; exact d9, ?_, by rw [u 39 0 (by decide) (by omega) rfl]; exact d11, by rw [u 93 27 (by decide) (by omega) rfl]; exact d12, by rw [u 93 28 (by decide) (by omega) rfl]; exact d13⟩
  · rw [frI f2 (a := 12) (by simp [inW, Wmig]), c12 j hj, x3 j hj, uo 96 j (by decide) (by omega)]
    exact d1 j hj
  · rw [frI f2 (a := 14) (by simp [inW, Wmig]), c14 j hj, x5 j hj, uo 98 j (by decide) (by omega)]
    exact d2 j hj
  · rw [frI f2 (a := 9) rfl, c7, y5, uo 93 2 (by decide) (by omega)]; exact d5
  · rw [frI f2 (a := 9) rfl, c8, y4, uo 93 1 (by decide) (by omega)]; exact d6
  · rw [y5, y3, uo 93 2 (by decide) (by omega), uo 93 0 (by decide) (by omega)]; exact d9
/-- undo -/
theorem und_pairD (hi : INVD h) {K : Hp → Int32 → Int32 → Prop} (hK : ∀ r h', INVD h' → K h' r r) (hQ : ∀ r h1, HI h1 → REF X 999 185 [.ref 93, .retAddr 0] K r h1 → Q (some (.int r)) h1) : Ends X 999 90 0 [.ref 0] [] h Q := by
  have r3 : h.2.1 0 2 = h.2.1 93 44 := hi.1.1.1.2.2.2.2.2.2.2.2
  have e1 := und_pairC (X := X) (dp := 998) (Q := fun w h1 => ∃ r, w = some (.int r) ∧ HI h1 ∧ REF X 999 185 [.ref 93, .retAddr 0] (fun h' r r2 => INVC h' ∧ r2 = r) r h1) (K := fun h' r r2 => INVC h' ∧ r2 = r) hi.1 (fun r h' i => ⟨i, rfl⟩) (fun r h1 g e => ⟨r, rfl, g, e⟩)
  have e2 := cund_ok (X := X) (dp := 998) (h := h) (Q := fun _ h1 => ((h.2.1 0 2).toInt = 0 ∧ h1 = h) ∨ (¬ (h.2.1 0 2).toInt = 0 ∧ h1 = bec h 1 9)) hi.hh.hs (fun q => Or.inl ⟨q, rfl⟩) (fun q => Or.inr ⟨q, rfl⟩)
  refine (e1.and e2).mono ?_
  rintro w h1 ⟨⟨r, rfl, g1, e⟩, ⟨q, rfl⟩ | ⟨q, rfl⟩⟩
  · refine hQ r _ g1 ?_
    have e3 := mund_ok (X := X) (dp := 999) (h := h1) (Q := fun _ h' => h' = h1) g1 (fun _ => rfl) (fun n => absurd (by rw [← r3]; exact q) n)
    unfold REF at e ⊢
    refine (e.and e3).mono ?_
    rintro w h' ⟨⟨r2, rfl, hs2, i2, rfl⟩, rfl⟩
    exact ⟨_, rfl, hs2, hK _ _ hi⟩
  · refine hQ r _ g1 ?_
    have c4 : ∀ j, j < 7 → (bec h 1 9).2.1 4 j = h.2.1 12 j := fun j hj => bec_3 (a := 1) (b := 9) (by omega) hj
    have c6 : ∀ j, j < 7 → (bec h 1 9).2.1 6 j = h.2.1 14 j := fun j hj => bec_5 (a := 1) (b := 9) (by omega) hj
    have c7 : (bec h 1 9).2.1 1 7 = h.2.1 9 7 := bec_f7
    have c8 : (bec h 1 9).2.1 1 8 = h.2.1 9 8 := bec_f8
    have uo : ∀ c k, (c < 1 ∨ 9 ≤ c) → (bec h 1 9).2.1 c k = h.2.1 c k := fun c k q1 => bec_o (by omega)
    generalize bec h 1 9 = hc at *
    have e3 := mund_ok (X := X) (dp := 999) (h := hc) (Q := fun _ h' => frm Wmun hc h' ∧ KUn hc h' ∧ AEq hc h' 96 117 7 ∧ AEq hc h' 98 119 7) g1 (fun n => absurd n (by rw [uo 93 44 (by decide), ← r3]; exact q)) (fun _ h' _ z2 z3 _ _ _ _ x3 _ x5 => ⟨z2, z3, x3, x5⟩)
    unfold REF at e ⊢
    refine (e.and e3).mono ?_
    rintro w h' ⟨⟨r2, rfl, hs2, i2, rfl⟩, f2, ⟨-, y2, y3, y4, -, -⟩, x3, x5⟩
    refine ⟨_, rfl, hs2, hK _ h' ⟨i2, ?_⟩⟩
    obtain ⟨d1, d2, d3, d4, d5, d6, d7, d8, d9, d10, d11, d12, d13⟩ := hi.2
    have u : ∀ a k, (a < 1 ∨ 9 ≤ a) → inW Wmun a k = false → h'.2.1 a k = h.2.1 a k := fun a k q1 q3 => by rw [frI f2 q3]; exact uo a k q1
    refine ⟨fun j hj => ?_, fun j hj => ?_, eqr_fr (fun j => u 12 j (by decide) (by simp [inW, Wmun])) (fun j => u 117 j (by decide) (by simp [inW, Wmun])) d3, eqr_fr (fun j => u 14 j (by decide) (by simp [inW, Wmun])) (fun j => u 119 j (by decide) (by simp [inW, Wmun])) d4, ?_, ?_, by rw [u 9 7 (by decide) rfl, u 93 48 (by decide) rfl]; exact d7, by rw [u 9 8 (by decide) rfl, u 93 47 (by decide) rfl]; exact d8, ?_, by rw [u 93 48 (by decide) rfl, u 93 46 (by decide) rfl]; exact d10, by rw [u 39 0 (by decide) rfl]; exact d11, by rw [u 93 27 (by decide) rfl]; exact d12, by rw [u 93 28 (by decide) rfl]; exact d13⟩
    · rw [frI f2 (a := 4) (by simp [inW, Wmun]), c4 j hj, x3 j hj, uo 117 j (by decide)]
      exact d3 j hj
    · rw [frI f2 (a := 6) (by simp [inW, Wmun]), c6 j hj, x5 j hj, uo 119 j (by decide)]
      exact d4 j hj
    · rw [frI f2 (a := 1) rfl, c7, y4, uo 93 48 (by decide)]; exact d7
    · rw [frI f2 (a := 1) rfl, c8, y3, uo 93 47 (by decide)]; exact d8
    · rw [y4, y2, uo 93 48 (by decide), uo 93 46 (by decide)]; exact d10
end DPAIRS
section DP2
variable {X : Scr} {dp : Nat} {h h0 : Hp} {Q : Option Value → Hp → Prop}
theorem row_pairD (p a n : Int32) (hi : INVD h) {K : Hp → Int32 → Int32 → Prop} (hK : ∀ r h', INVD h' → K h' r r) (hQ : ∀ r h1, HI h1 → REF X (dp + 1 + 1) 117 [.ref 93, .int p, .int a, .int n, .retAddr 0] K r h1 → Q (some (.int r)) h1) : Ends X (dp + 1 + 1) 67 0 [.ref 0, .int p, .int a, .int n, .retAddr 0] [] h Q :=
  row_pair p a n hi.1.1 (fun r h' a f => hK r h' ⟨⟨a, EQC_f (W := WRW) hi.hh (by decide) f hi.1.2⟩, EQD_f (W := WRW) (by decide) f hi.2⟩) hQ
theorem see_pairD (a : Int32) (hi : INVD h) {K : Hp → Int32 → Int32 → Prop} (hK : ∀ r h', INVD h' → K h' r r) (hQ : ∀ r h1, HI h1 → REF X (dp + 1 + 1) 175 [.ref 93, .int a, .retAddr 0] K r h1 → Q (some (.int r)) h1) : Ends X (dp + 1 + 1) 82 0 [.ref 0, .int a, .retAddr 0] [] h Q :=
  see_pair a hi.1.1 (fun r h' a f => hK r h' ⟨⟨a, EQC_f (W := WSE) hi.hh (by decide) f hi.1.2⟩, EQD_f (W := WSE) (by decide) f hi.2⟩) hQ
theorem book_pairD (a : Int32) (hi : INVD h) {K : Hp → Int32 → Int32 → Prop} (hK : ∀ r h', INVD h' → K h' r r) (hQ : ∀ r h1, HI h1 → REF X (dp + 1 + 1) 181 [.ref 93, .int a] K r h1 → Q (some (.int r)) h1) : Ends X (dp + 1 + 1) 86 0 [.ref 0, .int a] [] h Q :=
  book_pair a hi.1.1 (fun r h' a f => hK r h' ⟨⟨a, EQC_f (W := WBO) hi.hh (by decide) f hi.1.2⟩, EQD_f (W := WBO) (by decide) f hi.2⟩) hQ
theorem tape_pairD (t s n : Int32) (hi : INVD h) {K : Hp → Int32 → Int32 → Prop} (hK : ∀ r h', INVD h' → K h' r r) (hQ : ∀ r h1, HI h1 → REF X (dp + 1 + 1) 199 [.ref 93, .int t, .int s, .int n, .retAddr 0] K r h1 → Q (some (.int r)) h1) : Ends X (dp + 1 + 1) 95 0 [.ref 0, .int t, .int s, .int n] [] h Q :=
  tape_pair t s n hi.1.1 (fun r h' a f => hK r h' ⟨⟨a, EQC_f (W := WTA) hi.hh (by decide) f hi.1.2⟩, EQD_f (W := WTA) (by decide) f hi.2⟩) hQ
theorem item_pairD (t i : Int32) (v : Int64) (hi : INVD h) {K : Hp → Int32 → Int32 → Prop} (hK : ∀ r h', INVD h' → K h' r r) (hQ : ∀ r h1, HI h1 → REF X (dp + 1 + 1) 201 [.ref 93, .int t, .int i, .long v, .retAddr 0] K r h1 → Q (some (.int r)) h1) : Ends X (dp + 1 + 1) 96 0 [.ref 0, .int t, .int i, .long v, .retAddr 0] [] h Q :=
  item_pair t i v hi.1.1 (fun r h' a f => hK r h' ⟨⟨a, EQC_f (W := WIT) hi.hh (by decide) f hi.1.2⟩, EQD_f (W := WIT) (by decide) f hi.2⟩) hQ
theorem shift_pairD (t i o j n : Int32) (hi : INVD h) {K : Hp → Int32 → Int32 → Prop} (hK : ∀ r h', INVD h' → K h' r r) (hQ : ∀ r h1, HI h1 → REF X (dp + 1 + 1) 203 [.ref 93, .int t, .int i, .int o, .int j, .int n, .retAddr 0] K r h1 → Q (some (.int r)) h1) : Ends X (dp + 1 + 1) 98 0 [.ref 0, .int t, .int i, .int o, .int j, .int n] [] h Q :=
  shift_pair t i o j n hi.1.1 (fun r h' a f => hK r h' ⟨⟨a, EQC_f (W := WSF) hi.hh (by decide) f hi.1.2⟩, EQD_f (W := WSF) (by decide) f hi.2⟩) hQ
theorem read_pairD (t i : Int32) (hi : INVD h) {K : Hp → Int64 → Int64 → Prop} (hK : ∀ r h', INVD h' → K h' r r) (hQ : ∀ r h1, HI h1 → REFL X (dp + 1 + 1) 202 [.ref 93, .int t, .int i] K r h1 → Q (some (.long r)) h1) : Ends X (dp + 1 + 1) 97 0 [.ref 0, .int t, .int i] [] h Q :=
  read_pair t i hi.1.1 (fun r h' a f => hK r h' ⟨⟨a, EQC_f (W := []) hi.hh (by decide) f hi.1.2⟩, EQD_f (W := []) (by decide) f hi.2⟩) hQ
theorem act_pairD (p a x : Int32) (hd : 8 ≤ dp) (hi : INVD h) {K : Hp → Int32 → Int32 → Prop} (hK : ∀ r h', INVD h' → K h' r r) (hQ : ∀ r h1, HI h1 → REF X dp 194 [.ref 93, .int p, .int a, .int x] K r h1 → Q (some (.int r)) h1) : Ends X dp 91 0 [.ref 0, .int p, .int a, .int x] [] h Q :=
  act_pair p a x hd hi.1.1 (fun r h' a f => hK r h' ⟨⟨a, EQC_f (W := WAC) hi.hh (by decide) f hi.1.2⟩, EQD_f (W := WAC) (by decide) f hi.2⟩) hQ
theorem trace_pairD (i : Int32) (hi : INVD h) {K : Hp → Int32 → Int32 → Prop} (hK : ∀ r h', INVD h' → K h' r r) (hQ : ∀ r h1, HI h1 → REF X (dp + 1) 195 [.ref 93, .int i] K r h1 → Q (some (.int r)) h1) : Ends X (dp + 1) 92 0 [.ref 0, .int i] [] h Q :=
  trace_pair i hi.1.1 (fun r h' a f => hK r h' ⟨⟨a, EQC_f (W := []) hi.hh (by decide) f hi.1.2⟩, EQD_f (W := []) (by decide) f hi.2⟩) hQ
theorem taken_pairD (p k : Int32) (hi : INVD h) {K : Hp → Int32 → Int32 → Prop} (hK : ∀ r h', INVD h' → K h' r r) (hQ : ∀ r h1, HI h1 → REF X (dp + 1 + 1) 196 [.ref 93, .int p, .int k, .retAddr 0] K r h1 → Q (some (.int r)) h1) : Ends X (dp + 1 + 1) 93 0 [.ref 0, .int p, .int k, .retAddr 0, .retAddr 0, .retAddr 0] [] h Q :=
  taken_pair p k hi.1.1 (fun r h' a f => hK r h' ⟨⟨a, EQC_f (W := []) hi.hh (by decide) f hi.1.2⟩, EQD_f (W := []) (by decide) f hi.2⟩) hQ
theorem feed_pairD (a : Int32) (hi : INVD h) {K : Hp → Int32 → Int32 → Prop} (hK : ∀ r h', INVD h' → K h' r r) (hQ : ∀ r h1, HI h1 → REF X (dp + 1) 118 [.ref 93, .int a] K r h1 → Q (some (.int r)) h1) : Ends X (dp + 1) 68 0 [.ref 0, .int a] [] h Q :=
  feed_pair a hi.1 (fun r h' a f => hK r h' ⟨a, EQD_f (W := WFE) (by decide) f hi.2⟩) hQ
theorem yard_pairD (hd : 30 ≤ dp) (hi : INVD h) {K : Hp → Int32 → Int32 → Prop} (hK : ∀ r h', INVD h' → K h' r r) (hQ : ∀ r h1, HI h1 → REF X (dp + 1) 133 [.ref 93, .retAddr 0] K r h1 → Q (some (.int r)) h1) : Ends X (dp + 1) 69 0 [.ref 0, .retAddr 0] [] h Q :=
  yard_pair  hd hi.1 (fun r h' a f => hK r h' ⟨a, EQD_f (W := WYA) (by decide) f hi.2⟩) hQ
theorem count_pairD (a : Int32) (hi : INVD h) {K : Hp → Int32 → Int32 → Prop} (hK : ∀ r h', INVD h' → K h' r r) (hQ : ∀ r h1, HI h1 → REF X dp 197 [.ref 93, .int a] K r h1 → Q (some (.int r)) h1) : Ends X dp 94 0 [.ref 0, .int a] [] h Q :=
  count_pair a hi.1 (fun r h' a f => hK r h' ⟨a, EQD_f (W := []) (by decide) f hi.2⟩) hQ
end DP2
theorem first_d : (eqB hI0 4 96 7 && eqB hI0 6 98 7 && eqB hI0 12 117 7 && eqB hI0 14 119 7 && decide (hI0.2.1 1 7 = hI0.2.1 93 2) && decide (hI0.2.1 1 8 = hI0.2.1 93 1) && decide (hI0.2.1 9 7 = hI0.2.1 93 48) && decide (hI0.2.1 9 8 = hI0.2.1 93 47) && decide (hI0.2.1 93 2 = 0) && decide (hI0.2.1 93 48 = 0) && decide (hI0.2.1 39 0 = 0) && decide (hI0.2.1 93 27 = 0) && decide ((hI0.2.1 93 28).toInt = -1)) = true := by decide +kernel
theorem INVD_0 : INVD hI0 := by
  have f := first_d
  simp only [Bool.and_eq_true, decide_eq_true_eq] at f
  obtain ⟨⟨⟨⟨⟨⟨⟨⟨⟨⟨⟨⟨f1, f2⟩, f3⟩, f4⟩, f5⟩, f6⟩, f7⟩, f8⟩, f9⟩, f10⟩, f11⟩, f12⟩, f13⟩ := f
  refine ⟨INVC_0, eqB_ok f1, eqB_ok f2, eqB_ok f3, eqB_ok f4, f5, f6, f7, f8, ?_, ?_, f11, f12, f13⟩
  · rw [f9]
    intro p _ z
    rw [show (0 : Int32).toInt.toNat = 0 from rfl, Nat.zero_testBit] at z
    cases z
  · rw [f10]
    intro p _ z
    rw [show (0 : Int32).toInt.toNat = 0 from rfl, Nat.zero_testBit] at z
    cases z
end JN99tzBdpairs
