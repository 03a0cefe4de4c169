/-! The class's reading of texts, exactly: its leaves. -/
def xT (h : Hp) : Nat → Int := fun i => (h.2.1 45 i).toInt
def xN (h : Hp) : Nat := (h.2.1 44 1).toInt.toNat
def xA (h : Hp) : Nat := (h.2.1 44 2).toInt.toNat
def CWA : List (Nat × Nat) := [(44, 2)]
def lstP (T : Nat → Int) (n : Nat) : List Int → Nat → Bool × Nat
  | [], a => (true, a)
  | c :: l, a => if nxP T n a = c then lstP T n l (a + 1) else (false, a)
theorem lst_cons (T : Nat → Int) (n : Nat) (c : Int) (l : List Int) (a : Nat) : lstP T n (c :: l) a = if nxP T n a = c then lstP T n l (a + 1) else (false, a) := rfl
theorem lst_wrd (T : Nat → Int) (n : Nat) : ∀ (l : List Int) (a : Nat), wrdP T n l a = if (lstP T n l a).1 = true then (if nxP T n (lstP T n l a).2 = 32 then (true, (lstP T n l a).2 + 1) else (false, (lstP T n l a).2)) else (false, (lstP T n l a).2)
  | [], a => by
    unfold wrdP lstP
    rw [if_pos rfl]
  | c :: l, a => by
    unfold wrdP lstP
    by_cases x : nxP T n a = c
    · rw [if_pos x, if_pos x]
      exact lst_wrd T n l (a + 1)
    · rw [if_neg x, if_neg x, if_neg (show ¬ ((false, a) : Bool × Nat).1 = true from Bool.false_ne_true)]
theorem c_nat {c : Int32} (h1 : 0 ≤ c.toInt) (h2 : c.toInt ≤ 127) : c = Int32.ofNat c.toInt.toNat ∧ c.toInt.toNat < 128 := by
  refine ⟨Int32.toInt_inj.mp ?_, by omega⟩
  rw [Int32.toInt_ofNat_of_lt (by omega)]
  omega
section CLV
variable {X : Scr} {dp : Nat} {h : Hp} {Q : Option Value → Hp → Prop}
theorem xA_v (hh : HI h) : (h.2.1 44 2).toInt = xA h ∧ xA h ≤ 100 := by
  have b := hh.iv 44 2 (r := (0, 100)) rfl
  simp only at b
  unfold xA
  omega
theorem xN_v (hh : HI h) : (h.2.1 44 1).toInt = xN h ∧ xN h ≤ 100 := by
  have b := hh.iv 44 1 (r := (0, 100)) rfl
  simp only at b
  unfold xN
  omega
theorem xT_v (hh : HI h) (i : Nat) : 0 ≤ xT h i ∧ xT h i ≤ 127 := by
  have b := hh.iv 45 i (r := (0, 127)) rfl
  exact b
theorem xT_fr {W : List (Nat × Nat)} {h' : Hp} (hf : frm W h h') (hw : ∀ k, inW W 45 k = false) : xT h' = xT h := by
  funext i
  unfold xT
  rw [frI hf (hw i)]
theorem xN_fr {W : List (Nat × Nat)} {h' : Hp} (hf : frm W h h') (hw : inW W 44 1 = false) : xN h' = xN h := by
  unfold xN
  rw [frI hf hw]
theorem CWA_T (k : Nat) : inW CWA 45 k = false := rfl
theorem iw_ok (hh : HI h) (hQ : Q (some (.int (b2i (decide (xA h < xN h))))) h) : Ends X dp 49 0 [.ref 44] [] h Q := by
  obtain ⟨a1, a2⟩ := xA_v hh
  obtain ⟨b1, b2⟩ := xN_v hh
  have j100 : (100 : Int32).toInt = 100 := rfl
  refine w_iw hh.hs ⟨fun e => ?_, fun e => ⟨fun e2 => ?_, fun e2 => ⟨fun e3 => ?_, fun e3 => ?_⟩⟩⟩
  · exfalso
    have e : (h.2.1 44 2).toInt < 0 := of_decide_eq_true (cI e)
    omega
  · have e2 : (h.2.1 44 1).toInt ≤ (h.2.1 44 2).toInt := of_decide_eq_true (cI e2)
    rwa [decide_eq_false (by omega : ¬ xA h < xN h)] at hQ
  · exfalso
    have e2 : ¬ (h.2.1 44 1).toInt ≤ (h.2.1 44 2).toInt := of_decide_eq_false (cI e2)
    have e3 : (100 : Int32).toInt ≤ (h.2.1 44 2).toInt := of_decide_eq_true (cI e3)
    omega
  · have e2 : ¬ (h.2.1 44 1).toInt ≤ (h.2.1 44 2).toInt := of_decide_eq_false (cI e2)
    rwa [decide_eq_true (by omega : xA h < xN h)] at hQ
theorem nx_in (hh : HI h) (hl : xA h < xN h) : nxP (xT h) (xN h) (xA h) = (h.2.1 45 (xA h)).toInt := by
  unfold nxP
  rw [if_pos hl]
  rfl
theorem nx_out (hl : ¬ xA h < xN h) : nxP (xT h) (xN h) (xA h) = -1 := by
  unfold nxP
  rw [if_neg hl]
theorem nxc_rng (hh : HI h) : -1 ≤ nxP (xT h) (xN h) (xA h) ∧ nxP (xT h) (xN h) (xA h) ≤ 127 := by
  by_cases hl : xA h < xN h
  · rw [nx_in hh hl]
    have := xT_v hh (xA h)
    unfold xT at this
    omega
  · rw [nx_out hl]
    decide
/-- one place on -/
theorem cadv (hh : HI h) (hl : xA h < xN h) : HI (hpI h 44 2 (h.2.1 44 2 + 1)) ∧ frm CWA h (hpI h 44 2 (h.2.1 44 2 + 1)) ∧ xA (hpI h 44 2 (h.2.1 44 2 + 1)) = xA h + 1 := by
  obtain ⟨a1, a2⟩ := xA_v hh
  obtain ⟨b1, b2⟩ := xN_v hh
  have g : (h.2.1 44 2 + 1).toInt = ((xA h + 1 : Nat) : Int) := by rw [i_add (by rw [i1]; omega) (by rw [i1]; omega), i1]; omega
  generalize h.2.1 44 2 + 1 = u at g ⊢
  refine ⟨HI_put hh (by show (0 : Int) ≤ _; omega) (by show _ ≤ (100 : Int); omega), frm_put frm_refl rfl, ?_⟩
  show ((hpI h 44 2 u).2.1 44 2).toInt.toNat = _
  rw [put_at]
  omega
theorem cA_nat (hh : HI h) : (h.2.1 44 2).toNatClampNeg = xA h := rfl
theorem ct_ok (c : Int32) (hc : 0 ≤ c.toInt) (hh : HI h)
    (hQ : ∀ h', HI h' → frm CWA h h' → xA h' = (if nxP (xT h) (xN h) (xA h) = c.toInt then xA h + 1 else xA h) → Q (some (.int (b2i (decide (nxP (xT h) (xN h) (xA h) = c.toInt))))) h') : Ends X (dp + 1) 50 0 [.ref 44, .int c] [] h Q := by
  obtain ⟨a1, a2⟩ := xA_v hh
  obtain ⟨b1, b2⟩ := xN_v hh
  refine w_tak c hh.hs (iw_ok hh ⟨_, rfl, hh.hs, fun e => ?_, fun e => ?_⟩)
  · have e := of_decide_eq_false (cz e)
    rw [nx_out e, decide_eq_false (by omega : ¬ (-1 : Int) = c.toInt), if_neg (by omega : ¬ (-1 : Int) = c.toInt)] at hQ
    exact hQ h hh frm_refl rfl
  · have e := of_decide_eq_true (cn e)
    rw [nx_in hh e] at hQ
    obtain ⟨g1, g2, g3⟩ := cadv hh e
    refine ⟨inB_iff (by omega) (by omega), fun e2 => ?_, fun e2 => ?_⟩
    · have e2 : (h.2.1 45 (xA h)).toInt = c.toInt := of_decide_eq_true (cI e2)
      rw [decide_eq_true e2, if_pos e2] at hQ
      exact hQ _ g1 g2 g3
    · have e2 : ¬ (h.2.1 45 (xA h)).toInt = c.toInt := of_decide_eq_false (cI e2)
      rw [decide_eq_false e2, if_neg e2] at hQ
      exact hQ h hh frm_refl rfl
/-! constant texts -/
theorem sl_rng : ∀ s, s < 5 → strL.getD s 0 ≤ 6 := by decide
theorem slen_ok {s : Nat} (hs5 : s < 5) (hs : HS h) (hQ : Q (some (.int (Int32.ofNat (strL.getD s 0)))) h) : Ends X (dp + 1) 209 0 [.ref (OLDB + 3 + s)] [] h Q := by
  refine w_slen hs5 hs (w_scod hs5 hs ⟨rfl, _, rfl, hs, ?_⟩)
  have e : Int32.ofNat (strL.getD s 0) >>> ((0 : Int32) &&& 31) = Int32.ofNat (strL.getD s 0) := by
    match s, hs5 with
    | 0, _ => decide
    | 1, _ => decide
    | 2, _ => decide
    | 3, _ => decide
    | 4, _ => decide
    | s + 5, h => omega
  rw [e]
  exact hQ
theorem slat_ok {s : Nat} (hs5 : s < 5) (hs : HS h) (hQ : Q (some (.int 1)) h) : Ends X dp 214 0 [.ref (OLDB + 3 + s)] [] h Q :=
  w_slat hs5 hs hQ
theorem chr_nar : ∀ s, s < 5 → ∀ j, j < strL.getD s 0 → narrow .char (.int ((strB.getD s []).getD j 0)) = .int ((strB.getD s []).getD j 0) := by decide
theorem chr_val : ∀ s, s < 5 → ∀ j, j < strL.getD s 0 → ((((strB.getD s []).getD j 0) &&& 255).toUInt32 % 65536).toInt32 = (strB.getD s []).getD j 0 := by decide
theorem sch_ok {s : Nat} (hs5 : s < 5) (i : Int32) (j : Nat) (hi : i.toInt = j) (hj : j < strL.getD s 0) (hs : HS h) (hQ : Q (some (.int ((strB.getD s []).getD j 0))) h) : Ends X (dp + 1 + 1 + 1 + 1) 210 0 [.ref (OLDB + 3 + s), .int i] [] h Q := by
  have hl := sl_rng s hs5
  have en : (Int32.ofNat (strL.getD s 0)).toInt = strL.getD s 0 := Int32.toInt_ofNat_of_lt (by omega)
  have ib : inB i (strL.getD s 0) = true := inB_iff (by omega) (by omega)
  refine w_sch hs5 i hs (slat_ok hs5 hs ⟨_, rfl, hs, fun e => absurd e (by decide), fun _ => w_lch hs5 i hs (w_sci i _ hs (w_pci i _ hs ?_))⟩)
  refine ⟨fun e => ?_, fun e => ⟨fun e2 => ⟨_, rfl, hs, rfl, hs, ib, ?_⟩, fun e2 => ?_⟩⟩
  · exfalso
    have e : i.toInt < 0 := of_decide_eq_true (cI e)
    omega
  · have ej : i.toNatClampNeg = j := by show i.toInt.toNat = _; omega
    rw [ej, chr_val s hs5 j hj]
    exact ⟨chr_nar s hs5 j hj, _, rfl, hs, chr_nar s hs5 j hj, hQ⟩
  · exfalso
    have e2 : ¬ i.toInt < (Int32.ofNat (strL.getD s 0)).toInt := of_decide_eq_false (cI e2)
    omega
/-- the bytes of the s-th text -/
def sB (s : Nat) : List Int := (strB.getD s []).map (fun x => x.toInt)
theorem tka_go {s : Nat} (hs5 : s < 5) (T : Nat → Int) (n : Nat) (h0 : Hp) (hT : xT h0 = T) (hN : xN h0 = n)
    (hQ : ∀ (ok : Bool) h', HI h' → frm CWA h0 h' → (ok, xA h') = lstP T n (sB s) (xA h0) → Q (some (.int (b2i ok))) h') :
    ∀ (m j : Nat) (i : Int32) (h : Hp), HI h → frm CWA h0 h → i.toInt = j → j + m = strL.getD s 0 → lstP T n (sB s) (xA h0) = lstP T n ((sB s).drop j) (xA h) → Ends X (dp + 1 + 1 + 1 + 1 + 1) 51 2 [.ref 44, .ref (OLDB + 3 + s), .int i] [] h Q
  | m, j, i, h, hh, hf, hi, hm, he => by
    have hl := sl_rng s hs5
    have en : (Int32.ofNat (strL.getD s 0)).toInt = strL.getD s 0 := Int32.toInt_ofNat_of_lt (by omega)
    have lenB : (sB s).length = strL.getD s 0 := by
      match s, hs5 with
      | 0, _ => rfl
      | 1, _ => rfl
      | 2, _ => rfl
      | 3, _ => rfl
      | 4, _ => rfl
      | s + 5, h => omega
    refine w_tka1 hs5 i hh.hs (slen_ok hs5 hh.hs ⟨_, rfl, hh.hs, fun e => ?_, fun e => ?_⟩)
    · have e : (Int32.ofNat (strL.getD s 0)).toInt ≤ i.toInt := of_decide_eq_true (cI e)
      rw [List.drop_eq_nil_of_le (by omega)] at he
      exact hQ true h hh hf (by rw [he]; rfl)
    · have e : ¬ (Int32.ofNat (strL.getD s 0)).toInt ≤ i.toInt := of_decide_eq_false (cI e)
      have hj : j < strL.getD s 0 := by omega
      have cv : ∀ s, s < 5 → ∀ j, j < strL.getD s 0 → 0 ≤ ((strB.getD s []).getD j 0).toInt ∧ (sB s).drop j = ((strB.getD s []).getD j 0).toInt :: (sB s).drop (j + 1) := by decide
      obtain ⟨c1, c2⟩ := cv s hs5 j hj
      rw [c2, lst_cons] at he
      refine sch_ok hs5 i j hi hj hh.hs ⟨_, rfl, hh.hs, ct_ok _ c1 hh (fun h1 a1 a2 a3 => ⟨_, rfl, a1.hs, fun e2 => ?_, fun e2 => ?_⟩)⟩
      · have e2 := of_decide_eq_true (cn2 e2)
        rw [if_pos e2] at a3
        have eT : xT h = T := by rw [← hT]; exact xT_fr hf CWA_T
        have eN : xN h = n := by rw [← hN]; exact xN_fr hf rfl
        rw [eT, eN] at e2
        rw [if_pos e2] at he
        match m, hm with
        | 0, hm => omega
        | m + 1, hm => exact tka_go hs5 T n h0 hT hN hQ m (j + 1) (i + 1) h1 a1 (frm_trans hf a2) (by rw [i_add (by rw [i1]; omega) (by rw [i1]; omega), i1]; omega) (by omega) (by rw [he, a3])
      · have e2 := of_decide_eq_false (cz2 e2)
        rw [if_neg e2] at a3
        have eT : xT h = T := by rw [← hT]; exact xT_fr hf CWA_T
        have eN : xN h = n := by rw [← hN]; exact xN_fr hf rfl
        rw [eT, eN] at e2
        rw [if_neg e2] at he
        exact hQ false h1 a1 (frm_trans hf a2) (by rw [he, a3])
theorem tka_ok {s : Nat} (hs5 : s < 5) (hh : HI h) (hQ : ∀ (ok : Bool) h', HI h' → frm CWA h h' → (ok, xA h') = lstP (xT h) (xN h) (sB s) (xA h) → Q (some (.int (b2i ok))) h') : Ends X (dp + 1 + 1 + 1 + 1 + 1) 51 0 [.ref 44, .ref (OLDB + 3 + s), .retAddr 0] [] h Q :=
  w_tka0 hs5 hh.hs (tka_go hs5 (xT h) (xN h) h rfl rfl hQ (strL.getD s 0) 0 0 h hh frm_refl rfl (by omega) rfl)
/-! which of a text's bytes comes next -/
/-- where a byte first stands, from place j on -/
def idxP (c : Int) : List Int → Int → Int
  | [], _ => -1
  | x :: l, j => if x = c then j else idxP c l (j + 1)
theorem idx_cons (c x : Int) (l : List Int) (j : Int) : idxP c (x :: l) j = if x = c then j else idxP c l (j + 1) := rfl
theorem ioc_go {s : Nat} (hs5 : s < 5) (c f b : Int32) (t : Int32) (ht : t.toInt = strL.getD s 0) (hs : HS h) (hQ : ∀ r : Int32, r.toInt = idxP b.toInt (sB s) 0 → Q (some (.int r)) h) :
    ∀ (m j : Nat) (i : Int32), i.toInt = j → j + m = strL.getD s 0 → idxP b.toInt (sB s) 0 = idxP b.toInt ((sB s).drop j) j → Ends X dp 219 7 [.ref (OLDB + 8 + s), .int c, .int f, .int t, .int b, .int i] [] h Q
  | m, j, i, hi, hm, he => by
    have hl := sl_rng s hs5
    have lenB : (sB s).length = strL.getD s 0 := by
      match s, hs5 with
      | 0, _ => rfl
      | 1, _ => rfl
      | 2, _ => rfl
      | 3, _ => rfl
      | 4, _ => rfl
      | s + 5, h => omega
    refine w_ioc1 hs5 c f t b i hs ⟨fun e => ?_, fun e => ?_⟩
    · have e : t.toInt ≤ i.toInt := of_decide_eq_true (cI e)
      rw [List.drop_eq_nil_of_le (by omega)] at he
      exact hQ _ (by rw [he]; rfl)
    · have e : ¬ t.toInt ≤ i.toInt := of_decide_eq_false (cI e)
      have hj : j < strL.getD s 0 := by omega
      have cv : ∀ s, s < 5 → ∀ j, j < strL.getD s 0 → (sB s).drop j = ((strB.getD s []).getD j 0).toInt :: (sB s).drop (j + 1) := by decide
      have ej : i.toNatClampNeg = j := by show i.toInt.toNat = _; omega
      rw [cv s hs5 j hj, idx_cons] at he
      refine ⟨inB_iff (by omega) (by omega), ?_⟩
      rw [ej]
      refine ⟨fun e2 => ?_, fun e2 => ?_⟩
      · have e2 : ¬ ((strB.getD s []).getD j 0).toInt = b.toInt := of_decide_eq_true (cI e2)
        rw [if_neg e2] at he
        match m, hm with
        | 0, hm => omega
        | m + 1, hm => exact ioc_go hs5 c f b t ht hs hQ m (j + 1) (i + 1) (by rw [i_add (by rw [i1]; omega) (by rw [i1]; omega), i1]; omega) (by omega) he
      · have e2 : ¬ ¬ ((strB.getD s []).getD j 0).toInt = b.toInt := of_decide_eq_false (cI e2)
        rw [if_pos (Decidable.not_not.mp e2)] at he
        exact hQ i (by rw [hi, he])
theorem six_ok {s : Nat} (hs5 : s < 5) (c : Int32) (hc1 : 0 ≤ c.toInt) (hc2 : c.toInt ≤ 127) (hs : HS h) (hQ : ∀ r : Int32, r.toInt = idxP c.toInt (sB s) 0 → Q (some (.int r)) h) : Ends X (dp + 1 + 1 + 1) 211 0 [.ref (OLDB + 3 + s), .int c] [] h Q := by
  have hl := sl_rng s hs5
  have en : (Int32.ofNat (strL.getD s 0)).toInt = strL.getD s 0 := Int32.toInt_ofNat_of_lt (by omega)
  have h0 : 0 < strL.getD s 0 := by
    match s, hs5 with
    | 0, _ => decide
    | 1, _ => decide
    | 2, _ => decide
    | 3, _ => decide
    | 4, _ => decide
    | s + 5, h => omega
  have z0 : (0 : Int32).toInt = 0 := rfl
  have j255 : (255 : Int32).toInt = 255 := rfl
  have v8 : ∀ n, n < 128 → (Int32.ofNat n).toInt8.toInt32 = Int32.ofNat n := by decide
  have eb : c.toInt8.toInt32 = c := by
    have e := c_nat hc1 hc2
    rw [e.1]
    exact v8 _ e.2
  refine w_six hs5 c hs (w_sio hs5 c 0 hs (slat_ok hs5 hs ⟨_, rfl, hs, fun e => absurd e (by decide), fun _ => slen_ok hs5 hs ⟨_, rfl, hs, w_lio hs5 c 0 _ hs (w_can c hs ?_)⟩⟩))
  refine ⟨fun e => ?_, fun e => ⟨fun e2 => ?_, fun e2 => ⟨_, rfl, hs, fun _ => ?_, fun e3 => absurd e3 (by decide)⟩⟩⟩
  · exfalso
    have e : c.toInt < 0 := of_decide_eq_true (cI e)
    omega
  · exfalso
    have e2 : (255 : Int32).toInt < c.toInt := of_decide_eq_true (cI e2)
    omega
  · refine w_max 0 0 hs ⟨fun e => absurd e (by decide), fun _ => ⟨_, rfl, hs, w_min _ _ hs ?_⟩⟩
    have lt : condB .lt 0 (Int32.ofNat (strL.getD s 0)) = true := by
      match s, hs5 with
      | 0, _ => decide
      | 1, _ => decide
      | 2, _ => decide
      | 3, _ => decide
      | 4, _ => decide
      | s + 5, h => omega
    have go : ∀ {Q' : Option Value → Hp → Prop}, (∀ r : Int32, r.toInt = idxP c.toInt (sB s) 0 → Q' (some (.int r)) h) → Ends X dp 219 0 [.ref (OLDB + 8 + s), .int c, .int 0, .int (Int32.ofNat (strL.getD s 0)), .retAddr 0, .retAddr 0] [] h Q' := fun hq => by
      refine w_ioc0 hs5 c 0 _ hs ?_
      rw [eb]
      exact ioc_go hs5 c 0 c _ en hs hq (strL.getD s 0) 0 0 rfl (by omega) rfl
    exact ⟨fun _ => ⟨_, rfl, hs, fun _ => go (fun r hr => ⟨r, rfl, hs, r, rfl, hs, r, rfl, hs, hQ r hr⟩), fun e4 => (noc lt e4).elim⟩, fun _ => ⟨_, rfl, hs, fun _ => go (fun r hr => ⟨r, rfl, hs, r, rfl, hs, r, rfl, hs, hQ r hr⟩), fun e4 => (noc lt e4).elim⟩⟩
theorem idx_neg : ∀ s, s < 5 → idxP (-1) (sB s) 0 = -1 := by decide
theorem idx_ge : ∀ (c : Int) (l : List Int) (j : Int), 0 ≤ j → -1 ≤ idxP c l j
  | _, [], _, _ => Int.le_refl _
  | c, x :: l, j, hj => by
    unfold idxP
    split
    · omega
    · exact idx_ge c l (j + 1) (by omega)
theorem tko_ok {s : Nat} (hs5 : s < 5) (hh : HI h) (hQ : ∀ (r : Int32) h', HI h' → frm CWA h h' → r.toInt = idxP (nxP (xT h) (xN h) (xA h)) (sB s) 0 → xA h' = (if r.toInt < 0 then xA h else xA h + 1) → Q (some (.int r)) h') : Ends X (dp + 1 + 1 + 1 + 1) 52 0 [.ref 44, .ref (OLDB + 3 + s), .retAddr 0] [] h Q := by
  obtain ⟨a1, a2⟩ := xA_v hh
  obtain ⟨b1, b2⟩ := xN_v hh
  refine w_tko hs5 hh.hs (iw_ok hh ⟨_, rfl, hh.hs, fun e => ?_, fun e => ?_⟩)
  · have e := of_decide_eq_false (cz e)
    rw [nx_out e, idx_neg s hs5] at hQ
    exact hQ (-1) h hh frm_refl rfl (by rw [if_pos (by decide)])
  · have e := of_decide_eq_true (cn e)
    obtain ⟨g1, g2, g3⟩ := cadv hh e
    have v := xT_v hh (xA h)
    unfold xT at v
    have v16 : ∀ n, n < 128 → ((Int32.ofNat n).toUInt32 % 65536).toInt32 = Int32.ofNat n := by decide
    have ec : ((h.2.1 45 (h.2.1 44 2).toNatClampNeg).toUInt32 % 65536).toInt32 = h.2.1 45 (xA h) := by
      show ((h.2.1 45 (xA h)).toUInt32 % 65536).toInt32 = _
      have e := c_nat v.1 v.2
      rw [e.1]
      exact v16 _ e.2
    refine ⟨inB_iff (by omega) (by omega), ?_⟩
    rw [ec]
    rw [nx_in hh e] at hQ
    refine six_ok hs5 _ v.1 v.2 hh.hs (fun r hr => ⟨r, rfl, hh.hs, fun e2 => ?_, fun e2 => ?_⟩)
    · have e2 : r.toInt < 0 := of_decide_eq_true (cI e2)
      exact hQ r h hh frm_refl hr (by rw [if_pos e2])
    · have e2 : ¬ r.toInt < 0 := of_decide_eq_false (cI e2)
      exact hQ r _ g1 g2 hr (by rw [if_neg e2]; exact g3)
/-! numbers -/
theorem rn_go (nv : Int32) (d : Int32) (hh : HI h) (hd0 : 0 ≤ d.toInt) (hd : d.toInt < 2)
    (e0 : isD (nxP (xT h) (xN h) (xA h)) = false → Q (some (.int (if d.toInt = 0 then -1 else nv))) h)
    (e1 : isD (nxP (xT h) (xN h) (xA h)) = true → ∀ h', HI h' → frm CWA h h' → xA h' = xA h + 1 → Ends X (dp + 1) 45 4 [.ref 44, .int (((nv * 10) + (h.2.1 45 (xA h))) - 48), .int (d + 1)] [] h' Q) : Ends X (dp + 1) 45 4 [.ref 44, .int nv, .int d] [] h Q := by
  obtain ⟨a1, a2⟩ := xA_v hh
  obtain ⟨b1, b2⟩ := xN_v hh
  have z0 : (0 : Int32).toInt = 0 := rfl
  have j2 : (2 : Int32).toInt = 2 := rfl
  have j48 : (48 : Int32).toInt = 48 := rfl
  have j57 : (57 : Int32).toInt = 57 := rfl
  have no : isD (nxP (xT h) (xN h) (xA h)) = false → (condB .ne d 0 = true → Q (some (.int nv)) h) ∧ (condB .ne d 0 = false → Q (some (.int (-1))) h) := by
    intro q
    have q := e0 q
    refine ⟨fun e => ?_, fun e => ?_⟩
    · have e : ¬ d.toInt = (0 : Int32).toInt := of_decide_eq_true (cI e)
      rw [z0] at e
      rwa [if_neg e] at q
    · have e : ¬ ¬ d.toInt = (0 : Int32).toInt := of_decide_eq_false (cI e)
      rw [z0] at e
      rwa [if_pos (Decidable.not_not.mp e)] at q
  refine w_rn1 nv d hh.hs ⟨fun e => ?_, fun e => iw_ok hh ⟨_, rfl, hh.hs, fun e2 => ?_, fun e2 => ?_⟩⟩
  · exfalso
    have e : (2 : Int32).toInt ≤ d.toInt := of_decide_eq_true (cI e)
    omega
  · have e2 := of_decide_eq_false (cz e2)
    exact no (by rw [nx_out e2]; decide)
  · have e2 := of_decide_eq_true (cn e2)
    have ib : inB (h.2.1 44 2) 100 = true := inB_iff (by omega) (by omega)
    rw [nx_in hh e2] at no e1
    have en : (h.2.1 44 2).toNatClampNeg = xA h := rfl
    rw [en]
    refine ⟨ib, fun e3 => no ?_, fun e3 => ⟨ib, fun e4 => no ?_, fun e4 => ⟨ib, ?_⟩⟩⟩
    · have e3 : (h.2.1 45 (xA h)).toInt < 48 := of_decide_eq_true (cI e3)
      unfold isD
      rw [decide_eq_false (by omega : ¬ 48 ≤ (h.2.1 45 (xA h)).toInt), Bool.false_and]
    · have e4 : 57 < (h.2.1 45 (xA h)).toInt := of_decide_eq_true (cI e4)
      unfold isD
      rw [decide_eq_false (by omega : ¬ (h.2.1 45 (xA h)).toInt ≤ 57), Bool.and_false]
    · have e3 : ¬ (h.2.1 45 (xA h)).toInt < 48 := of_decide_eq_false (cI e3)
      have e4 : ¬ 57 < (h.2.1 45 (xA h)).toInt := of_decide_eq_false (cI e4)
      obtain ⟨g1, g2, g3⟩ := cadv hh e2
      exact e1 (by unfold isD; rw [decide_eq_true (by omega : 48 ≤ (h.2.1 45 (xA h)).toInt), decide_eq_true (by omega : (h.2.1 45 (xA h)).toInt ≤ 57)]; rfl) _ g1 g2 g3
theorem rn_end (nv d : Int32) (hd : d.toInt = 2) (hh : HI h) (hQ : Q (some (.int nv)) h) : Ends X (dp + 1) 45 4 [.ref 44, .int nv, .int d] [] h Q := by
  have z0 : (0 : Int32).toInt = 0 := rfl
  have j2 : (2 : Int32).toInt = 2 := rfl
  refine w_rn1 nv d hh.hs ⟨fun _ => ⟨fun _ => hQ, fun e => ?_⟩, fun e => ?_⟩
  · exfalso
    have e : ¬ ¬ d.toInt = (0 : Int32).toInt := of_decide_eq_false (cI e)
    omega
  · exfalso
    have e : ¬ (2 : Int32).toInt ≤ d.toInt := of_decide_eq_false (cI e)
    omega
theorem rn_ok (hh : HI h) (hQ : ∀ (r : Int32) h', HI h' → frm CWA h h' → (match numP (xT h) (xN h) (xA h) with | some (v, b) => r.toInt = v ∧ xA h' = b | none => r.toInt = -1 ∧ xA h' = xA h) → Q (some (.int r)) h') : Ends X (dp + 1) 45 0 [.ref 44, .retAddr 0, .retAddr 0] [] h Q := by
  have j48 : (48 : Int32).toInt = 48 := rfl
  have z0 : (0 : Int32).toInt = 0 := rfl
  unfold numP at hQ
  have dig : ∀ {h : Hp} {x : Int}, HI h → isD (nxP (xT h) (xN h) (xA h)) = true → (h.2.1 45 (xA h)).toInt = nxP (xT h) (xN h) (xA h) ∧ 48 ≤ nxP (xT h) (xN h) (xA h) ∧ nxP (xT h) (xN h) (xA h) ≤ 57 := by
    intro h x hh q
    unfold isD at q
    have q := band q
    have hl : xA h < xN h := by
      apply Decidable.byContradiction
      intro c
      rw [nx_out c] at q
      omega
    exact ⟨(nx_in hh hl).symm, q.1, q.2⟩
  refine w_rn0 hh.hs (rn_go 0 0 hh (by decide) (by decide) (fun q => ?_) (fun q h1 g1 g2 g3 => ?_))
  · rw [if_neg (by rw [q]; decide)] at hQ
    rw [if_pos z0]
    exact hQ (-1) h hh frm_refl ⟨rfl, rfl⟩
  · rw [if_pos q] at hQ
    obtain ⟨d1, d2, d3⟩ := dig (x := 0) hh q
    have eT : xT h1 = xT h := xT_fr g2 CWA_T
    have eN : xN h1 = xN h := xN_fr g2 rfl
    have v1 : (((0 : Int32) * 10) + (h.2.1 45 (xA h)) - 48).toInt = nxP (xT h) (xN h) (xA h) - 48 := by
      have m0 : (0 : Int32) * 10 = 0 := by decide
      rw [m0]
      have e1 : (0 + h.2.1 45 (xA h)).toInt = (h.2.1 45 (xA h)).toInt := by rw [i_add (by rw [z0]; omega) (by rw [z0]; omega), z0]; omega
      rw [i_sub (by rw [e1, j48]; omega) (by rw [e1, j48]; omega), e1, j48, d1]
    generalize ((0 : Int32) * 10) + (h.2.1 45 (xA h)) - 48 = u at v1 ⊢
    refine rn_go u (0 + 1) g1 (by decide) (by decide) (fun q2 => ?_) (fun q2 h2 k1 k2 k3 => ?_)
    · rw [eT, eN, g3] at q2
      rw [if_neg (by rw [q2]; decide)] at hQ
      rw [if_neg (by decide)]
      exact hQ u h1 g1 g2 ⟨v1, g3⟩
    · obtain ⟨c1, c2, c3⟩ := dig (x := 0) g1 q2
      rw [eT, eN, g3] at q2 c1 c2 c3
      rw [if_pos q2] at hQ
      have v2 : ((u * 10) + (h1.2.1 45 (xA h + 1)) - 48).toInt = 10 * (nxP (xT h) (xN h) (xA h) - 48) + (nxP (xT h) (xN h) (xA h + 1) - 48) := by
        have j10 : (10 : Int32).toInt = 10 := rfl
        have e0 : (u * 10).toInt = u.toInt * 10 := by rw [i_mul (by rw [j10]; omega) (by rw [j10]; omega), j10]
        have e1 : (u * 10 + h1.2.1 45 (xA h + 1)).toInt = (u * 10).toInt + (h1.2.1 45 (xA h + 1)).toInt := i_add (by omega) (by omega)
        rw [i_sub (by rw [e1, j48]; omega) (by rw [e1, j48]; omega), e1, j48]
        omega
      rw [g3]
      generalize (u * 10) + (h1.2.1 45 (xA h + 1)) - 48 = w at v2 ⊢
      exact rn_end w (0 + 1 + 1) (by decide) k1 (hQ w h2 k1 (frm_trans g2 k2) ⟨v2, by rw [k3, g3]⟩)
/-! words -/
def wdP (T : Nat → Int) (n a : Nat) : Int × Nat := if nxP T n a = 114 then (if (lstP T n (sB 0) (a + 1)).1 = true then 0 else -1, (lstP T n (sB 0) (a + 1)).2) else if nxP T n a = 104 then (if (lstP T n (sB 1) (a + 1)).1 = true then 1 else -1, (lstP T n (sB 1) (a + 1)).2) else if nxP T n a = 100 then (if (lstP T n (sB 2) (a + 1)).1 = true then 2 else -1, (lstP T n (sB 2) (a + 1)).2) else (-1, a)
theorem rw_ok (hh : HI h) (hQ : ∀ (r : Int32) h', HI h' → frm CWA h h' → r.toInt = (wdP (xT h) (xN h) (xA h)).1 → xA h' = (wdP (xT h) (xN h) (xA h)).2 → Q (some (.int r)) h') : Ends X (dp + 1 + 1 + 1 + 1 + 1 + 1) 44 0 [.ref 44] [] h Q := by
  unfold wdP at hQ
  have j114 : (114 : Int32).toInt = 114 := rfl
  have j104 : (104 : Int32).toInt = 104 := rfl
  have j100 : (100 : Int32).toInt = 100 := rfl
  refine w_rw hh.hs (ct_ok 114 (by decide) hh (fun h1 a1 a2 a3 => ⟨_, rfl, a1.hs, fun e => ?_, fun e => ?_⟩))
  · have e := of_decide_eq_false (cz e)
    rw [if_neg e] at a3
    rw [j114] at e
    rw [if_neg e] at hQ
    have eT : xT h1 = xT h := xT_fr a2 CWA_T
    have eN : xN h1 = xN h := xN_fr a2 rfl
    refine ct_ok 104 (by decide) a1 (fun h2 b1 b2 b3 => ⟨_, rfl, b1.hs, fun e => ?_, fun e => ?_⟩)
    · have e := of_decide_eq_false (cz e)
      rw [if_neg e] at b3
      rw [j104, eT, eN, a3] at e
      rw [if_neg e] at hQ
      have eT2 : xT h2 = xT h := (xT_fr b2 CWA_T).trans eT
      have eN2 : xN h2 = xN h := (xN_fr b2 rfl).trans eN
      refine ct_ok 100 (by decide) b1 (fun h3 c1 c2 c3 => ⟨_, rfl, c1.hs, fun e => ?_, fun e => ?_⟩)
      · have e := of_decide_eq_false (cz e)
        rw [if_neg e] at c3
        rw [j100, eT2, eN2, b3, a3] at e
        rw [if_neg e] at hQ
        exact hQ (-1) h3 c1 (frm_trans a2 (frm_trans b2 c2)) rfl (by rw [c3, b3, a3])
      · have e := of_decide_eq_true (cn e)
        rw [if_pos e] at c3
        rw [j100, eT2, eN2, b3, a3] at e
        rw [if_pos e] at hQ
        refine tka_ok (s := 2) (by decide) c1 (fun ok h4 d1 d2 d3 => ⟨_, rfl, d1.hs, fun e2 => ?_, fun e2 => ?_⟩)
        all_goals
          rw [xT_fr c2 CWA_T, xN_fr c2 rfl, eT2, eN2, c3, b3, a3] at d3
          rw [← d3] at hQ
        · have e2 := cz e2
          subst e2
          exact hQ (-1) h4 d1 (frm_trans a2 (frm_trans b2 (frm_trans c2 d2))) rfl rfl
        · have e2 := cn e2
          subst e2
          exact hQ 2 h4 d1 (frm_trans a2 (frm_trans b2 (frm_trans c2 d2))) rfl rfl
    · have e := of_decide_eq_true (cn e)
      rw [if_pos e] at b3
      rw [j104, eT, eN, a3] at e
      rw [if_pos e] at hQ
      refine tka_ok (s := 1) (by decide) b1 (fun ok h4 d1 d2 d3 => ⟨_, rfl, d1.hs, fun e2 => ?_, fun e2 => ?_⟩)
      all_goals
        rw [xT_fr b2 CWA_T, xN_fr b2 rfl, eT, eN, b3, a3] at d3
        rw [← d3] at hQ
      · have e2 := cz e2
        subst e2
        exact hQ (-1) h4 d1 (frm_trans a2 (frm_trans b2 d2)) rfl rfl
      · have e2 := cn e2
        subst e2
        exact hQ 1 h4 d1 (frm_trans a2 (frm_trans b2 d2)) rfl rfl
  · have e := of_decide_eq_true (cn e)
    rw [if_pos e] at a3
    rw [j114] at e
    rw [if_pos e] at hQ
    refine tka_ok (s := 0) (by decide) a1 (fun ok h4 d1 d2 d3 => ⟨_, rfl, d1.hs, fun e2 => ?_, fun e2 => ?_⟩)
    all_goals
      rw [xT_fr a2 CWA_T, xN_fr a2 rfl, a3] at d3
      rw [← d3] at hQ
    · have e2 := cz e2
      subst e2
      exact hQ (-1) h4 d1 (frm_trans a2 d2) rfl rfl
    · have e2 := cn e2
      subst e2
      exact hQ 0 h4 d1 (frm_trans a2 d2) rfl rfl
end CLV
