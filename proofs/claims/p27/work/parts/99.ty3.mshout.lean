/-! The reference's order is the one told; its shout. -/
theorem tw_cg {f g : Int32 → Bool} : ∀ {l : List Int32}, (∀ a, a ∈ l → f a = g a) → l.takeWhile f = l.takeWhile g
  | [], _ => rfl
  | a :: l, h => by
    have i := tw_cg (f := f) (g := g) (l := l) (fun x hx => h x (List.mem_cons_of_mem _ hx))
    rw [List.takeWhile_cons, List.takeWhile_cons, h a (List.mem_cons_self ..), i]
theorem wait_z {h : Hp} {S : Nat → Nat → Int} {Y : Int} (hg : MG h S Y) {a : Int32} {x : Nat} (ha : a.toInt = x) (h7 : x < 7) : waitM h a = decide (S 0 x = 3 ∨ S 0 x = 6) := by
  have en : a.toNatClampNeg = x := by show a.toInt.toNat = _; omega
  unfold waitM
  rw [en, (hg.1 x h7).1, Bool.decide_or]
theorem ahead_z {h : Hp} {S : Nat → Nat → Int} {Y : Int} (hg : MG h S Y) (hsr : SRG S) {a b : Int32} {x y : Nat} (ha : a.toInt = x) (hb : b.toInt = y) (y7 : y < 7) (hxy : x < y) : aheadM h a b = decide (zhst S y ≤ zhst S x) := by
  have ea : a.toNatClampNeg = x := by show a.toInt.toNat = _; omega
  have eb : b.toNatClampNeg = y := by show b.toInt.toNat = _; omega
  have gx := (hg.1 x (by omega)).2.2.2.1
  have gy := (hg.1 y y7).2.2.2.1
  have sx := (hsr x (by omega)).2.2.2.1
  have sy := (hsr y y7).2.2.2.1
  unfold aheadM
  rw [wait_z hg ha (by omega), wait_z hg hb y7, ea, eb, gx, gy]
  unfold zhst
  have ab : decide (a.toInt < b.toInt) = true := decide_eq_true (by omega)
  rw [ab, Bool.and_true]
  by_cases c : S 0 x = 3 ∨ S 0 x = 6
  · by_cases d : S 0 y = 3 ∨ S 0 y = 6
    · rw [decide_eq_true c, decide_eq_true d, if_pos rfl, if_pos c, if_pos d, ← Bool.decide_or]
      exact decide_eq_decide.mpr (by omega)
    · rw [decide_eq_true c, decide_eq_false d, if_neg (by decide), if_pos c, if_neg d, decide_eq_false (by omega)]
  · by_cases d : S 0 y = 3 ∨ S 0 y = 6
    · rw [decide_eq_false c, decide_eq_true d, if_neg (by decide), if_neg c, if_pos d, decide_eq_true (by omega)]
    · rw [decide_eq_false c, decide_eq_false d, if_pos rfl, if_neg c, if_neg d, ← Bool.decide_or]
      exact decide_eq_decide.mpr (by omega)
theorem zlay_ext {H : Nat → Int} {R : Nat → Bool} {fo : Int} {N : Nat} (hR : ∀ p, p < 7 → R p = true → p < N) : ∀ k, N + k ≤ 7 → zlay H R fo (N + k) = zlay H R fo N
  | 0, _ => rfl
  | k + 1, h => by
    have i := zlay_ext (H := H) (fo := fo) hR k (by omega)
    show zst H R fo (zlay H R fo (N + k)) (N + k) = _
    unfold zst
    rw [if_neg, i]
    intro z
    rw [Bool.and_eq_true] at z
    have := hR (N + k) (by omega) z.1
    omega
section MLAY
variable {X : Scr} {Q : Option Value → Hp → Prop} {S : Nat → Nat → Int} {Y : Int} {cs : List Cl} {m : List Int} {N : Nat} {K R : Nat → Bool} {hd : Bool} {one tol fo le : Int} {h : Hp}
theorem runM_z (hm : MST S Y cs m N K R hd one tol fo le h) {pI : Int32} {p : Nat} (hp : pI.toInt = p) (h7 : p < 7) (hN : p < N) : runM h pI = R p := by
  obtain ⟨-, -, -, -, a5, -, ⟨G, c1, c2⟩, -⟩ := hm
  unfold runM
  rw [bitB_s (a5.or c1) hp h7]
  have := c2 p h7
  rw [decide_eq_true hN, Bool.true_and] at this
  exact this
theorem layL_z (mk : MOK S Y N) (hm : MST S Y cs m N K R hd one tol fo le h) : ∀ n, n ≤ N → layL h n = zlay (zhst S) R fo n
  | 0, _ => rfl
  | n + 1, hn => by
    have i := layL_z mk hm n (by omega)
    have n7 := mk.2.2.2
    obtain ⟨a1, a2, a3, a4, a5, a6, a7, a8, a9, a10, a11, a12⟩ := id hm
    have en := i32n (n := n) (by omega)
    show stepL h (layL h n) (Int32.ofNat n) = zst (zhst S) R fo (zlay (zhst S) R fo n) n
    rw [i]
    unfold stepL zst
    have pe : posL h (zlay (zhst S) R fo n) (Int32.ofNat n) = zpos (zhst S) (zlay (zhst S) R fo n) n := by
      unfold posL zpos
      rw [tw_cg]
      intro a ha
      obtain ⟨x, x1, x2, -⟩ := (zmem (zhst S) R fo n (by omega) a).mp ha
      have ax : a.toInt = x := by rw [x2, i32n (by omega)]
      rw [ahead_z a1 mk.1 ax en (by omega) x1, ax]
      rfl
    rw [pe, runM_z hm en (by omega) (by omega), en, a11]
theorem fol_z (mk : MOK S Y N) (hm : MST S Y cs m N K R hd one tol fo le h) (hfo : FOK fo le N R) : FOL h := by
  obtain ⟨a1, a2, a3, a4, a5, a6, a7, a8, a9, a10, a11, a12⟩ := id hm
  have n7 := mk.2.2.2
  intro z
  rw [a11] at z
  have f := hfo.resolve_left (by omega)
  have l := a12 z
  rw [a11, a4, l]
  refine ⟨f.2.1, f.2.2.1, f.2.2.2.1, ?_, fun q => f.2.2.2.2.1 q.symm⟩
  rw [runM_z hm (p := le.toNat) (by omega) (by omega) (by omega)]
  exact f.2.2.2.2.2.2
theorem layM_z (mk : MOK S Y N) (hm : MST S Y cs m N K R hd one tol fo le h) (hfo : FOK fo le N R) : layM h = zord (zhst S) R fo le := by
  obtain ⟨a1, a2, a3, a4, a5, a6, a7, a8, a9, a10, a11, a12⟩ := id hm
  have n7 := mk.2.2.2
  have e7 : zlay (zhst S) R fo N = zlay (zhst S) R fo 7 := by
    rw [← zlay_ext (mR_N hm) (7 - N) (by omega), show N + (7 - N) = 7 by omega]
  unfold layM zord
  rw [a11, show (h.2.1 93 0).toInt.toNat = N by omega, layL_z mk hm N (Nat.le_refl _), e7]
  by_cases c : 0 ≤ fo
  · rw [if_pos c, if_pos c, ofn (x := h.2.1 93 30) (n := fo.toNat) (by omega)]
    unfold idxL zidx
    rw [a12 c]
  · rw [if_neg c, if_neg c]
/-- the first who is caught -/
def zfs (Z : Nat → Nat → Bool) (H W SL : Nat → Int) : List Int32 → (Nat → Bool) → Int → Int
  | [], _, f => f
  | a :: l, b, f => if SL a.toInt.toNat < zheld H (zmeet Z b (W a.toInt.toNat)) 7 then zfs Z H W SL l (fun x => b x || zmeet Z b (W a.toInt.toNat) x) (if f = -5 then a.toInt else f) else zfs Z H W SL l b f
theorem iv_9335 : ivl 93 35 = (-2147483648, 2147483647) := by decide +kernel
theorem BSET.ne0 {b : Int32} {f : Nat → Bool} (hb : BSET b f) {p : Nat} (h7 : p < 7) (hp : f p = true) : ¬ b = 0 := by
  intro z
  subst z
  obtain ⟨n, hn, e, hf⟩ := hb
  have e2 : n = 0 := by
    have := congrArg Int32.toInt e
    rw [i32n hn] at this
    have z0' : (0 : Int32).toInt = 0 := rfl
    omega
  subst e2
  have := hf p h7
  rw [Nat.zero_testBit, hp] at this
  cases this
theorem mcn_go {dp : Nat} (mk : MOK S Y N) (ht : 0 ≤ tol ∧ tol ≤ 6) (l : List Int32) (hl : l.length ≤ 7) (hel : ∀ j, j < l.length → ∃ x : Nat, x < 7 ∧ (l.getD j 0).toInt = x ∧ R x = true) : ∀ (n k : Nat) (bI cI kI : Int32) (b c : Nat → Bool) (f : Int) (x y : Value) (h : Hp), k + n = l.length → kI.toInt = k → BSET bI b → BSET cI c → (cI = 0 ↔ f = -5) → (h.2.1 93 35).toInt = f → OL h l → MST S Y cs m N K R hd one tol fo le h → HI h → (∀ (r : Int32) h', HI h' → frm WMX h h' → BSET r (zgo (zin S Y cs m K hd) (zhold S Y cs m) (mW S Y cs m K R hd one tol) (zslip S Y cs m (mW S Y cs m K R hd one tol)) (l.drop k) b c) → (h'.2.1 93 35).toInt = zfs (zin S Y cs m K hd) (zhold S Y cs m) (mW S Y cs m K R hd one tol) (zslip S Y cs m (mW S Y cs m K R hd one tol)) (l.drop k) b f → Q (some (.int r)) h') → Ends X (dp + 1 + 1 + 1 + 1 + 1 + 1 + 1 + 1 + 1) 157 16 [.ref 93, .int bI, .int cI, .int kI, x, y] [] h Q
  | n, k, bI, cI, kI, b, c, f, x, y, h, hn, hk, hb, hc, hf0, hf, ho, hm, hh, hQ => by
    obtain ⟨o1, o2⟩ := id ho
    refine w_mcn1 bI cI kI x y hh.hs ⟨fun e => ?_, fun e => ?_⟩
    · have e : (h.2.1 93 34).toInt ≤ kI.toInt := of_decide_eq_true (cJ e)
      rw [List.drop_eq_nil_of_le (by omega)] at hQ
      exact hQ cI h hh frm_refl hc hf
    have e : ¬ (h.2.1 93 34).toInt ≤ kI.toInt := of_decide_eq_false (cJ e)
    have hkl : k < l.length := by omega
    have en : kI.toNatClampNeg = k := by show kI.toInt.toNat = _; omega
    obtain ⟨p, p7, pe, pr⟩ := hel k hkl
    obtain ⟨n, rfl⟩ : ∃ q, n = q + 1 := ⟨n - 1, by omega⟩
    have n1 : (kI + 1).toInt = ((k + 1 : Nat) : Int) := by rw [i_add (by rw [i1]; omega) (by rw [i1]; omega), i1]; omega
    rw [dropI hkl] at hQ
    unfold zgo zfs at hQ
    have pt : (l.getD k 0).toInt.toNat = p := by omega
    rw [pt] at hQ
    refine ⟨inB_iff (by omega) (by omega), ?_⟩
    rw [en, o2 k hkl]
    have wb := mW_b (Y := Y) (cs := cs) (m := m) (K := K) (R := R) (hd := hd) (one := one) mk.1 mk.2.1 ht p7
    refine mway_ok mk hm hh _ p pe p7 (fun r4 h3 g3 f3 v4 => ⟨r4, rfl, g3.hs, ?_⟩)
    have m3 := hm.fr (WPi_X f3)
    refine mmt_ok mk m3 g3 r4 bI _ b v4 wb.1 wb.2 hb (fun r7 h6 g6 f6 v7 => ⟨r7, rfl, g6.hs, ?_⟩)
    have m6 := m3.fr (WPi_X f6)
    refine mhb_ok mk m6 g6 r7 _ v7 (fun q hq z => ?_) (fun r10 h9 g9 f9 v10 => ⟨r10, rfl, g9.hs, ?_⟩)
    · unfold zmeet at z
      rw [Bool.and_eq_true] at z
      exact zin_N hm _ q hq z.1
    have m9 := m6.fr (WPi_X f9)
    refine mslp_ok mk m9 g9 _ p pe p7 (fun r13 h12 g12 f12 v13 => ⟨r13, rfl, g12.hs, ?_⟩)
    have fa : frm WPi h h12 := frm_trans (frm_trans (frm_trans f3 f6) f9) f12
    have m12 := hm.fr (WPi_X fa)
    have o12 : OL h12 l := ⟨by rw [frI fa (a := 93) rfl]; exact o1, fun j hj => by rw [frI fa (a := 110) rfl]; exact o2 j hj⟩
    have f35 : h12.2.1 93 35 = h.2.1 93 35 := frI fa rfl
    refine ⟨fun d => ?_, fun d => ?_⟩
    · have d : r13.toInt < r10.toInt := of_decide_eq_true (cJ d)
      rw [if_pos (by omega), if_pos (by omega)] at hQ
      have cb : BSET (cI ||| (1 <<< ((l.getD k 0) &&& 31))) (fun x => c x || decide (x = p)) := hc.or (BSET.one pe p7)
      have cn0 : ¬ (cI ||| (1 <<< ((l.getD k 0) &&& 31))) = 0 := cb.ne0 p7 (by rw [decide_eq_true (rfl : p = p), Bool.or_true])
      have go : ∀ v : Int32, v.toInt = (if f = -5 then (l.getD k 0).toInt else f) → Ends X (dp + 1 + 1 + 1 + 1 + 1 + 1 + 1 + 1 + 1) 157 16 [.ref 93, .int (bI ||| r7), .int (cI ||| (1 <<< ((l.getD k 0) &&& 31))), .int (kI + 1), .int (l.getD k 0), .int r7] [] (hpI h12 93 35 v) Q := fun v hv => by
        have gv : HI (hpI h12 93 35 v) := HI_full g12 iv_9335
        have fv : frm WMX h (hpI h12 93 35 v) := frm_put (WPi_X fa) rfl
        refine mcn_go mk ht l hl hel n (k + 1) _ _ _ _ _ (if f = -5 then (l.getD k 0).toInt else f) _ _ _ (by omega) n1 (hb.or v7) cb ⟨fun z => absurd z cn0, fun z => ?_⟩ (by rw [put_at]; exact hv) ⟨by rw [put_ne (by omega)]; exact o12.1, fun j hj => by rw [put_ne (by omega)]; exact o12.2 j hj⟩ (hm.fr fv) gv (fun r h' b1 b2 b3 b4 => hQ r h' b1 (frm_trans fv b2) b3 b4)
        exfalso
        split at z
        · omega
        · contradiction
      refine ⟨fun d2 => go _ ?_, fun d2 => go _ ?_⟩
      · have d2 : ¬ cI.toInt = (0 : Int32).toInt := of_decide_eq_true (cJ d2)
        rw [if_neg (fun z => d2 (by rw [hf0.mpr z])), f35]
        exact hf
      · have d2 : ¬ ¬ cI.toInt = (0 : Int32).toInt := of_decide_eq_false (cJ d2)
        rw [if_pos (hf0.mp (Int32.toInt.inj (Decidable.not_not.mp d2)))]
    · have d : ¬ r13.toInt < r10.toInt := of_decide_eq_false (cJ d)
      rw [if_neg (by omega), if_neg (by omega)] at hQ
      exact mcn_go mk ht l hl hel n (k + 1) _ _ _ _ _ f _ _ _ (by omega) n1 hb hc hf0 (by rw [f35]; exact hf) o12 m12 g12 (fun r h' b1 b2 b3 b4 => hQ r h' b1 (frm_trans (WPi_X fa) b2) b3 b4)
/-- who is caught, in the reference's ways -/
def mcau (S : Nat → Nat → Int) (Y : Int) (cs : List Cl) (m : List Int) (K R : Nat → Bool) (hd : Bool) (one tol fo le : Int) : Nat → Bool := zgo (zin S Y cs m K hd) (zhold S Y cs m) (mW S Y cs m K R hd one tol) (zslip S Y cs m (mW S Y cs m K R hd one tol)) (zord (zhst S) R fo le) (fun _ => false) (fun _ => false)
def mfst (S : Nat → Nat → Int) (Y : Int) (cs : List Cl) (m : List Int) (K R : Nat → Bool) (hd : Bool) (one tol fo le : Int) : Int := zfs (zin S Y cs m K hd) (zhold S Y cs m) (mW S Y cs m K R hd one tol) (zslip S Y cs m (mW S Y cs m K R hd one tol)) (zord (zhst S) R fo le) (fun _ => false) (-5)
theorem mcn_ok {dp : Nat} (mk : MOK S Y N) (hm : MST S Y cs m N K R hd one tol fo le h) (hfo : FOK fo le N R) (hh : HI h) (hQ : ∀ (r : Int32) h', HI h' → frm WMX h h' → BSET r (mcau S Y cs m K R hd one tol fo le) → (h'.2.1 93 35).toInt = mfst S Y cs m K R hd one tol fo le → Q (some (.int r)) h') : Ends X (dp + 1 + 1 + 1 + 1 + 1 + 1 + 1 + 1 + 1) 157 0 [.ref 93, .retAddr 0, .retAddr 0, .retAddr 0, .retAddr 0, .retAddr 0] [] h Q := by
  have ht := hh.iv 93 29 (r := (0, 6)) rfl
  rw [hm.2.2.2.2.2.2.2.2.2.1] at ht
  have n7 := mk.2.2.2
  refine w_mcn0 hh.hs (lay_ok hh (fol_z mk hm hfo) (fun h1 g1 f1 o1 => ⟨rfl, g1.hs, ?_⟩))
  rw [layM_z mk hm hfo] at o1
  have gv : HI (hpI h1 93 35 (-5)) := HI_full g1 iv_9335
  have fv : frm WMX h (hpI h1 93 35 (-5)) := frm_put (WO_X f1) rfl
  exact mcn_go mk ht _ (zord_len n7 hfo) (zord_el n7 hfo) (zord (zhst S) R fo le).length 0 0 0 0 (fun _ => false) (fun _ => false) (-5) _ _ _ (by omega) rfl BSET.zero BSET.zero ⟨fun _ => rfl, fun _ => rfl⟩ (by rw [put_at]; rfl) ⟨by rw [put_ne (by omega)]; exact o1.1, fun j hj => by rw [put_ne (by omega)]; exact o1.2 j hj⟩ (hm.fr fv) gv (fun r h' b1 b2 b3 b4 => hQ r h' b1 (frm_trans fv b2) b3 b4)
end MLAY
