/-! A shout, as it is told, and the class's way. -/
/-- those who meet one in the way w -/
def zmeet (Z : Nat → Nat → Bool) (b : Nat → Bool) (w : Int) : Nat → Bool := fun x => Z w.toNat x && !b x
/-- who is caught, the row gone through -/
def zgo (Z : Nat → Nat → Bool) (H W SL : Nat → Int) : List Int32 → (Nat → Bool) → (Nat → Bool) → Nat → Bool
  | [], _, c => c
  | a :: l, b, c => if SL a.toInt.toNat < zheld H (zmeet Z b (W a.toInt.toNat)) 7 then zgo Z H W SL l (fun x => b x || zmeet Z b (W a.toInt.toNat) x) (fun x => c x || decide (x = a.toInt.toNat)) else zgo Z H W SL l b c
def zW (S : Nat → Nat → Int) (Y : Int) (cs : List Cl) (m : List Int) (K R : Nat → Bool) (hd : Bool) (one tol fo le : Int) : Nat → Int := zcw (zsnt (zway S Y R (fun l => pop (zin S Y cs m K hd l))) one tol) fo le
def zcau (S : Nat → Nat → Int) (Y : Int) (cs : List Cl) (m : List Int) (K R : Nat → Bool) (hd : Bool) (one tol fo le : Int) : Nat → Bool := zgo (zin S Y cs m K hd) (zhold S Y cs m) (zW S Y cs m K R hd one tol fo le) (zslip S Y cs m (zW S Y cs m K R hd one tol fo le)) (zord (zhst S) R fo le) (fun _ => false) (fun _ => false)
theorem zhold_b {S : Nat → Nat → Int} {Y : Int} {cs : List Cl} {m : List Int} (hsr : SRG S) (hw : YOK cs m) {x : Nat} (h7 : x < 7) : 0 ≤ zhold S Y cs m x ∧ zhold S Y cs m x ≤ 1000 := by
  have b := hw.b (zfc S Y x (S 2 x)) 1
  have s := (hsr x h7).2.2.2.2
  unfold zhold
  omega
theorem zW_b {S : Nat → Nat → Int} {Y : Int} {cs : List Cl} {m : List Int} {K R : Nat → Bool} {hd : Bool} {one tol fo le : Int} {N : Nat} (hsr : SRG S) (h5 : SR5 S) (hN7 : N ≤ 7) (hfo : FOK fo le N R) (ht : 0 ≤ tol ∧ tol ≤ 6) {x : Nat} (h7 : x < 7) : 0 ≤ zW S Y cs m K R hd one tol fo le x ∧ zW S Y cs m K R hd one tol fo le x ≤ 6 := by
  have sn : ∀ y, y < 7 → 0 ≤ zsnt (zway S Y R (fun l => pop (zin S Y cs m K hd l))) one tol y ∧ zsnt (zway S Y R (fun l => pop (zin S Y cs m K hd l))) one tol y ≤ 6 := fun y hy => by
    unfold zsnt
    split
    · exact ht
    · exact zway_b hsr h5 (fun l => pop_le _) hy
  unfold zW zcw
  split
  · rename_i c
    refine sn _ ?_
    rcases hfo with f | f
    · omega
    · omega
  · exact sn x h7
theorem zord_el {H : Nat → Int} {R : Nat → Bool} {fo le : Int} {N : Nat} (hN7 : N ≤ 7) (hfo : FOK fo le N R) : ∀ j, j < (zord H R fo le).length → ∃ x : Nat, x < 7 ∧ ((zord H R fo le).getD j 0).toInt = x ∧ R x = true := by
  intro j hj
  unfold zord at hj ⊢
  by_cases c : 0 ≤ fo
  · rw [if_pos c] at hj ⊢
    have f := hfo.resolve_left (by omega)
    have hin := zidx_lt (H := H) (fo := fo) (n := 7) (by decide) f.2.2.1 (by omega) f.2.2.2.2.2.2 f.2.2.2.2.1
    have hk : zidx (zlay H R fo 7) le + 1 ≤ (zlay H R fo 7).length := by omega
    rw [ins_len hk] at hj
    rw [ins_get hk]
    split
    · obtain ⟨x, x1, x2, x3, -⟩ := zlay_el (H := H) (R := R) (fo := fo) (n := 7) (by decide) j (by omega)
      exact ⟨x, x1, x2, x3⟩
    · split
      · exact ⟨fo.toNat, by omega, by rw [i32n (by omega)], f.2.2.2.2.2.1⟩
      · obtain ⟨x, x1, x2, x3, -⟩ := zlay_el (H := H) (R := R) (fo := fo) (n := 7) (by decide) (j - 1) (by omega)
        exact ⟨x, x1, x2, x3⟩
  · rw [if_neg c] at hj ⊢
    obtain ⟨x, x1, x2, x3, -⟩ := zlay_el (H := H) (R := R) (fo := fo) (n := 7) (by decide) j hj
    exact ⟨x, x1, x2, x3⟩
theorem zord_len {H : Nat → Int} {R : Nat → Bool} {fo le : Int} {N : Nat} (hN7 : N ≤ 7) (hfo : FOK fo le N R) : (zord H R fo le).length ≤ 7 := by
  have zl := zlay_len H R fo 7
  unfold zord
  by_cases c : 0 ≤ fo
  · rw [if_pos c]
    have f := hfo.resolve_left (by omega)
    have hin := zidx_lt (H := H) (fo := fo) (n := 7) (by decide) f.2.2.1 (by omega) f.2.2.2.2.2.2 f.2.2.2.2.1
    rw [ins_len (by omega)]
    rw [if_pos (by omega)] at zl
    omega
  · rw [if_neg c]
    split at zl <;> omega
theorem dropI {l : List Int32} {c : Nat} (h : c < l.length) : l.drop c = l.getD c 0 :: l.drop (c + 1) := by
  rw [List.drop_eq_getElem_cons h, List.getD_eq_getElem?_getD, List.getElem?_eq_getElem h]
  rfl
section CROSS
variable {X : Scr} {Q : Option Value → Hp → Prop}
theorem rof_ok {dp : Nat} {h : Hp} (hs : HS h) (lI : Int32) (l : Nat) (hl : lI.toInt = l) (h7 : l < 7) (hQ : Q (some (.int (h.2.1 32 l))) h) : Ends X (dp + 1) 18 0 [.ref 17, .int lI] [] h Q := by
  have en : lI.toNatClampNeg = l := by show lI.toInt.toNat = _; omega
  refine w_rof lI hs (isLane_ok lI hs ⟨_, rfl, hs, fun e => ?_, fun e => ⟨inB_iff (by omega) (by omega), ?_⟩⟩)
  · exfalso
    have e := cz e
    unfold inR at e
    rw [decide_eq_true (by omega : 0 ≤ lI.toInt), decide_eq_true (by omega : lI.toInt ≤ 6)] at e
    cases e
  · rw [en]
    exact hQ
theorem cau_go {dp : Nat} {h : Hp} (hh : HI h) (Z : Nat → Nat → Bool) (H W SL : Nat → Int) (R : Nat → Bool) (l : List Int32) (hl : l.length ≤ 7) (ho : OLC h l) (hel : ∀ j, j < l.length → ∃ x : Nat, x < 7 ∧ (l.getD j 0).toInt = x ∧ R x = true) (hZ : ∀ j, j < 7 → BSET (h.2.1 32 j) (Z j)) (hW : ∀ x, x < 7 → R x = true → (h.2.1 35 x).toInt = W x ∧ 0 ≤ W x ∧ W x ≤ 6) (hS : ∀ x, x < 7 → R x = true → (h.2.1 36 x).toInt = SL x) (hH : ∀ x, x < 7 → ∀ j, j < 7 → Z j x = true → (h.2.1 34 x).toInt = H x ∧ 0 ≤ H x ∧ H x ≤ 1000) (rI : Int32) (hr : rI.toInt = l.length) : ∀ (n i : Nat) (iI bI cI : Int32) (b c : Nat → Bool) (x y : Value), i + n = l.length → iI.toInt = i → BSET bI b → BSET cI c → (∀ r : Int32, BSET r (zgo Z H W SL (l.drop i) b c) → Q (some (.int r)) h) → Ends X (dp + 1 + 1) 10 60 [.ref 17, .int rI, .int bI, .int cI, .int iI, x, y] [] h Q
  | n, i, iI, bI, cI, b, c, x, y, hn, hi, hb, hc, hQ => by
    have j7 : (7 : Int32).toInt = 7 := rfl
    refine w_cau1 rI bI cI iI x y hh.hs ⟨fun e => ?_, fun e => ⟨fun e2 => ?_, fun e2 => ?_⟩⟩
    · have e : rI.toInt ≤ iI.toInt := of_decide_eq_true (cJ e)
      rw [List.drop_eq_nil_of_le (by omega)] at hQ
      exact hQ cI hc
    · exfalso
      have e : ¬ rI.toInt ≤ iI.toInt := of_decide_eq_false (cJ e)
      have e2 : (7 : Int32).toInt ≤ iI.toInt := of_decide_eq_true (cJ e2)
      omega
    have e : ¬ rI.toInt ≤ iI.toInt := of_decide_eq_false (cJ e)
    have hil : i < l.length := by omega
    have en : iI.toNatClampNeg = i := by show iI.toInt.toNat = _; omega
    obtain ⟨p, p7, pe, pr⟩ := hel i hil
    have oi := ho i hil
    obtain ⟨n, rfl⟩ : ∃ k, n = k + 1 := ⟨n - 1, by omega⟩
    have n1 : (iI + 1).toInt = ((i + 1 : Nat) : Int) := by rw [i_add (by rw [i1]; omega) (by rw [i1]; omega), i1]; omega
    rw [dropI hil] at hQ
    unfold zgo at hQ
    have pt : (l.getD i 0).toInt.toNat = p := by omega
    rw [pt] at hQ
    have pn : (l.getD i 0).toNatClampNeg = p := pt
    obtain ⟨w1, w2, w3⟩ := hW p p7 pr
    refine ⟨inB_iff (by omega) (by omega), ?_⟩
    rw [en, oi]
    refine ⟨inB_iff (by omega) (by omega), ?_⟩
    rw [pn]
    refine rof_ok hh.hs _ (W p).toNat (by omega) (by omega) ⟨_, rfl, hh.hs, ?_⟩
    have hm : BSET (h.2.1 32 (W p).toNat &&& (bI ^^^ (-1))) (zmeet Z b (W p)) := (hZ _ (by omega)).no hb
    have hz : ∀ x, x < 7 → zmeet Z b (W p) x = true → (h.2.1 34 x).toInt = H x ∧ 0 ≤ H x ∧ H x ≤ 1000 := fun x hx q => hH x hx (W p).toNat (by omega) (by
      unfold zmeet at q
      rw [Bool.and_eq_true] at q
      exact q.1)
    refine hof_ok hh _ _ hm H (fun x hx q => (hz x hx q).2) (fun x hx q => (hz x hx q).1) (fun r9 h9 => ⟨r9, rfl, hh.hs, inB_iff (by omega) (by omega), fun c1 => ?_, fun c1 => ?_⟩)
    · have c1 : r9.toInt ≤ (h.2.1 36 p).toInt := of_decide_eq_true (cJ c1)
      rw [hS p p7 pr, h9] at c1
      rw [if_neg (by omega)] at hQ
      exact cau_go hh Z H W SL R l hl ho hel hZ hW hS hH rI hr n (i + 1) (iI + 1) bI cI b c _ _ (by omega) n1 hb hc hQ
    · have c1 : ¬ r9.toInt ≤ (h.2.1 36 p).toInt := of_decide_eq_false (cJ c1)
      rw [hS p p7 pr, h9] at c1
      rw [if_pos (by omega)] at hQ
      exact cau_go hh Z H W SL R l hl ho hel hZ hW hS hH rI hr n (i + 1) (iI + 1) _ _ _ _ _ _ (by omega) n1 (hb.or hm) (hc.or (BSET.one pe p7)) hQ
/-- what stands for a shout in the copy: the people, the yard, who is there, one sent, one behind another -/
def DCS (q : Nat) (S : Nat → Nat → Int) (Y : Int) (cs : List Cl) (m : List Int) (N : Nat) (K R : Nat → Bool) (hd : Bool) (one tol fo le : Int) (h : Hp) : Prop := CG h S Y ∧ YR q h cs m ∧ (h.2.1 18 0).toInt = N ∧ (∃ C A, BSET (h.2.1 18 7) C ∧ BSET (h.2.1 17 9) A ∧ (∀ p, p < 7 → (C p && !A p) = K p) ∧ ∀ p, p < 7 → ((decide (p < N) && !C p) && !A p) = R p) ∧ h.2.1 17 12 = b2i hd ∧ (h.2.1 17 13).toInt = one ∧ (h.2.1 17 14).toInt = tol ∧ (h.2.1 17 15).toInt = fo ∧ (0 ≤ fo → (h.2.1 17 16).toInt = le)
theorem DCS.fr {q : Nat} (hY : YB q) {S : Nat → Nat → Int} {Y : Int} {cs : List Cl} {m : List Int} {N : Nat} {K R : Nat → Bool} {hd : Bool} {one tol fo le : Int} {h h' : Hp} (hc : DCS q S Y cs m N K R hd one tol fo le h) (hf : frm WCX h h') : DCS q S Y cs m N K R hd one tol fo le h' := by
  obtain ⟨a1, a2, a3, ⟨C, A, c1, c2, c3, c4⟩, a5, a6, a7, a8, a9⟩ := hc
  exact ⟨a1.fr hf, a2.fr hY hf, by rw [frI hf (a := 18) rfl]; exact a3, ⟨C, A, by rw [frI hf (a := 18) rfl]; exact c1, by rw [frI hf (a := 17) rfl]; exact c2, c3, c4⟩, by rw [frI hf (a := 17) rfl]; exact a5, by rw [frI hf (a := 17) rfl]; exact a6, by rw [frI hf (a := 17) rfl]; exact a7, by rw [frI hf (a := 17) rfl]; exact a8, fun z => by rw [frI hf (a := 17) rfl]; exact a9 z⟩
/-- what a shout leaves measured -/
def MSR (S : Nat → Nat → Int) (Y : Int) (cs : List Cl) (m : List Int) (K R : Nat → Bool) (hd : Bool) (one tol fo le : Int) (h : Hp) : Prop := (∀ x, x < 7 → K x = true → (h.2.1 33 x).toInt = zreach S Y cs m x ∧ (h.2.1 34 x).toInt = zhold S Y cs m x) ∧ ∀ x, x < 7 → R x = true → (h.2.1 35 x).toInt = zW S Y cs m K R hd one tol fo le x ∧ (h.2.1 36 x).toInt = zslip S Y cs m (zW S Y cs m K R hd one tol fo le) x
theorem iv_17 : ivl 17 10 = (-2147483648, 2147483647) ∧ ivl 17 11 = (-2147483648, 2147483647) := by decide +kernel
theorem cau_ok {dp q : Nat} (hY : YB q) {S : Nat → Nat → Int} {Y : Int} {cs : List Cl} {m : List Int} {N : Nat} {K R : Nat → Bool} {hd : Bool} {one tol fo le : Int} (hsr : SRG S) (h5 : SR5 S) (hw : YOK cs m) (hY0 : 0 ≤ Y) (hN7 : N ≤ 7) (hfo : FOK fo le N R) {h : Hp} (hh : HI h) (hc : DCS q S Y cs m N K R hd one tol fo le h) (hQ : ∀ (r : Int32) h', HI h' → frm WCX h h' → MSR S Y cs m K R hd one tol fo le h' → BSET r (zcau S Y cs m K R hd one tol fo le) → Q (some (.int r)) h') : Ends X (dp + 1 + 1 + 1 + 1) 10 0 [.ref 17, .retAddr 0, .retAddr 0, .retAddr 0, .retAddr 0, .retAddr 0, .retAddr 0] [] h Q := by
  obtain ⟨a1, a2, a3, ⟨C, A, c1, c2, c3, c4⟩, a5, a6, a7, a8, a9⟩ := id hc
  have t6 := hh.iv 17 14 (r := (0, 6)) rfl
  rw [a7] at t6
  refine w_cau0 hh.hs ?_
  have hK1 : BSET (h.2.1 18 7 &&& (h.2.1 17 9 ^^^ (-1))) K := (c1.no c2).cg c3
  generalize h.2.1 18 7 &&& (h.2.1 17 9 ^^^ (-1)) = kI at hK1
  have g1 : HI (hpI h 17 10 kI) := HI_full hh iv_17.1
  have f1 : frm WCX h (hpI h 17 10 kI) := frm_put frm_refl rfl
  have e18 : (hpI h 17 10 kI).2.1 18 0 = h.2.1 18 0 := put_ne (by omega)
  refine w_rng18 g1.hs (w_evy18 g1.hs ⟨_, rfl, g1.hs, ?_⟩)
  refine ⟨_, rfl, g1.hs, ?_⟩
  rw [e18, put_ne (by omega : ¬ (18 = 17 ∧ 7 = 10)), put_ne (by omega : ¬ (17 = 17 ∧ 9 = 10))]
  have hR1 : BSET ((((1 <<< (h.2.1 18 0 &&& 31)) - 1) &&& (h.2.1 18 7 ^^^ (-1))) &&& (h.2.1 17 9 ^^^ (-1))) R := (((BSET.every a3 hN7).no c1).no c2).cg c4
  generalize (((1 <<< (h.2.1 18 0 &&& 31)) - 1) &&& (h.2.1 18 7 ^^^ (-1))) &&& (h.2.1 17 9 ^^^ (-1)) = rI at hR1
  have g2 : HI (hpI (hpI h 17 10 kI) 17 11 rI) := HI_full g1 iv_17.2
  have f2 : frm WCX h (hpI (hpI h 17 10 kI) 17 11 rI) := frm_put f1 rfl
  have k10 : (hpI (hpI h 17 10 kI) 17 11 rI).2.1 17 10 = kI := by rw [put_ne (by omega), put_at]
  have k11 : (hpI (hpI h 17 10 kI) 17 11 rI).2.1 17 11 = rI := put_at
  generalize hpI (hpI h 17 10 kI) 17 11 rI = h2 at g2 f2 k10 k11
  obtain ⟨b1, b2, b3, -, b5, b6, b7, b8, b9⟩ := id (hc.fr hY f2)
  refine mc_ok hY hsr hw K hd g2 b1 b2 (by rw [k10]; exact hK1) b5 (fun h4 g4 f4 m1 m2 => ⟨rfl, g4.hs, ?_⟩)
  have fx4 := WMC_X f4
  refine cw_ok hsr h5 hY0 R (zin S Y cs m K hd) one tol fo le N hN7 hfo g4 (b1.fr fx4) m2 (by rw [frI f4 (a := 17) rfl, k11]; exact hR1) (by rw [frI f4 (a := 18) rfl]; exact b3) (by rw [frI f4 (a := 17) rfl]; exact b6) (by rw [frI f4 (a := 17) rfl]; exact b7) (by rw [frI f4 (a := 17) rfl]; exact b8) (fun z => by rw [frI f4 (a := 17) rfl]; exact b9 z) (fun h7 g7 f7 w1 => ⟨rfl, g7.hs, ?_⟩)
  have fx7 := frm_trans fx4 (WCW_X f7)
  refine mr_ok hY hsr hw R (zW S Y cs m K R hd one tol fo le) g7 (b1.fr fx7) (b2.fr hY fx7) (by rw [frI f7 (a := 17) rfl, frI f4 (a := 17) rfl, k11]; exact hR1) w1 (fun h10 g10 f10 w2 => ⟨rfl, g10.hs, ?_⟩)
  have fx10 := frm_trans fx7 (WMR_X f10)
  refine lin_ok hsr R fo le N hN7 hfo g10 (b1.fr fx10) (by rw [frI f10 (a := 17) rfl, frI f7 (a := 17) rfl, frI f4 (a := 17) rfl, k11]; exact hR1) (by rw [frI f10 (a := 17) rfl, frI f7 (a := 17) rfl, frI f4 (a := 17) rfl]; exact b8) (fun z => by rw [frI f10 (a := 17) rfl, frI f7 (a := 17) rfl, frI f4 (a := 17) rfl]; exact b9 z) (fun r14 h13 g13 f13 hr14 ol => ⟨r14, rfl, g13.hs, ?_⟩)
  have fx13 := frm_trans fx10 (WOD_X f13)
  have ms : MSR S Y cs m K R hd one tol fo le h13 := ⟨fun x hx hk => by
    rw [frI f13 (a := 33) rfl, frI f13 (a := 34) rfl, frI f10 (a := 33) rfl, frI f10 (a := 34) rfl, frI f7 (a := 33) rfl, frI f7 (a := 34) rfl]
    exact m1 x hx hk, fun x hx hk => by
    rw [frI f13 (a := 35) rfl, frI f13 (a := 36) rfl, frI f10 (a := 35) rfl]
    exact ⟨w1 x hx hk, w2 x hx hk⟩⟩
  have zb := fun x (hx : x < 7) => zW_b (Y := Y) (cs := cs) (m := m) (K := K) (hd := hd) (one := one) hsr h5 hN7 hfo t6 hx
  refine cau_go g13 (zin S Y cs m K hd) (zhold S Y cs m) (zW S Y cs m K R hd one tol fo le) (zslip S Y cs m (zW S Y cs m K R hd one tol fo le)) R _ (zord_len hN7 hfo) ol (zord_el hN7 hfo) (fun j hj => by rw [frI f13 (a := 32) rfl, frI f10 (a := 32) rfl, frI f7 (a := 32) rfl]; exact m2 j hj) (fun x hx hk => ⟨(ms.2 x hx hk).1, zb x hx⟩) (fun x hx hk => (ms.2 x hx hk).2) (fun x hx j hj hz => ?_) r14 hr14 (zord (zhst S) R fo le).length 0 0 0 0 _ _ _ _ (by omega) rfl BSET.zero BSET.zero (fun r hr => hQ r h13 g13 (frm_trans f2 fx13) ms hr)
  have kx : K x = true := by
    unfold zin at hz
    rw [Bool.and_eq_true] at hz
    exact hz.1
  exact ⟨(ms.1 x hx kx).2, zhold_b hsr hw hx⟩
end CROSS
