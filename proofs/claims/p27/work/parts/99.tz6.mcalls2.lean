/-! The reference's calls. -/
/-- the reference, as all is at a call -/
def NMS (S : Nat → Nat → Int) (Y : Int) (cs : List Cl) (m : List Int) (N : Nat) (K : Nat → Bool) (h : Hp) : Prop := MG h S Y ∧ MY h cs m ∧ TX h ∧ (h.2.1 93 0).toInt = N ∧ BSET (h.2.1 93 2) K ∧ (∀ p, p < 7 → K p = true → p < N) ∧ h.2.1 93 32 = 0 ∧ h.2.1 93 27 = 0 ∧ (h.2.1 93 28).toInt = -1 ∧ (h.2.1 93 30).toInt = -1
theorem zR_0 {N : Nat} {K : Nat → Bool} (p : Nat) : (decide (p < N) && !(K p || false)) = zR N K p := by rw [Bool.or_false]; rfl
theorem NMS.d {S : Nat → Nat → Int} {Y : Int} {cs : List Cl} {m : List Int} {N : Nat} {K : Nat → Bool} {h : Hp} (hn : NMS S Y cs m N K h) : MST S Y cs m N K (zR N K) false (-1) (h.2.1 93 29).toInt (-1) 0 h := by
  obtain ⟨a1, a2, a3, a4, a5, a6, a7, a8, a9, a10⟩ := hn
  exact ⟨a1, a2, a3, a4, a5, a6, ⟨fun _ => false, by rw [a7]; exact BSET.zero, fun p _ => zR_0 p⟩, a8, a9, rfl, a10, fun z => absurd z (by decide)⟩
theorem NMS.fr {S : Nat → Nat → Int} {Y : Int} {cs : List Cl} {m : List Int} {N : Nat} {K : Nat → Bool} {h h' : Hp} (hn : NMS S Y cs m N K h) (hf : frm WMX h h') : NMS S Y cs m N K h' := by
  obtain ⟨a1, a2, a3, a4, a5, a6, a7, a8, a9, a10⟩ := hn
  exact ⟨a1.fr hf, a2.fr hf, a3.fr hf, by rw [frI hf (a := 93) rfl]; exact a4, by rw [frI hf (a := 93) rfl]; exact a5, a6, by rw [frI hf (a := 93) rfl]; exact a7, by rw [frI hf (a := 93) rfl]; exact a8, by rw [frI hf (a := 93) rfl]; exact a9, by rw [frI hf (a := 93) rfl]; exact a10⟩
theorem zcw_n {W : Nat → Int} {fo le : Int} (h : fo < 0) : zcw W fo le = W := by
  funext x
  unfold zcw
  rw [if_neg (by omega)]
theorem mcau_z {S : Nat → Nat → Int} {Y : Int} {cs : List Cl} {m : List Int} {K R : Nat → Bool} {hd : Bool} {one tol fo le : Int} (h : fo < 0) : mcau S Y cs m K R hd one tol fo le = zcau S Y cs m K R hd one tol fo le := by
  unfold mcau zcau zW
  rw [zcw_n h]
  rfl
theorem mW_z {S : Nat → Nat → Int} {Y : Int} {cs : List Cl} {m : List Int} {K R : Nat → Bool} {hd : Bool} {tol : Int} : mW S Y cs m K R hd (-1) tol = zW S Y cs m K R hd (-1) 0 (-1) 0 := by
  unfold mW zW
  rw [zcw_n (by decide), zsnt_t (by decide)]
/-- the caught run -/
theorem zgo_el {Z : Nat → Nat → Bool} {H W SL : Nat → Int} : ∀ {l : List Int32} {b c : Nat → Bool} {x : Nat}, zgo Z H W SL l b c x = true → c x = true ∨ ∃ a ∈ l, x = a.toInt.toNat
  | [], b, c, x, h => Or.inl h
  | a :: l, b, c, x, h => by
    unfold zgo at h
    split at h
    · rcases zgo_el h with q | ⟨y, y1, y2⟩
      · rw [Bool.or_eq_true] at q
        rcases q with q | q
        · exact Or.inl q
        · exact Or.inr ⟨a, List.mem_cons_self .., of_decide_eq_true q⟩
      · exact Or.inr ⟨y, List.mem_cons_of_mem _ y1, y2⟩
    · rcases zgo_el h with q | ⟨y, y1, y2⟩
      · exact Or.inl q
      · exact Or.inr ⟨y, List.mem_cons_of_mem _ y1, y2⟩
theorem zC_R {S : Nat → Nat → Int} {Y : Int} {cs : List Cl} {m : List Int} {N : Nat} {K : Nat → Bool} (hN7 : N ≤ 7) {x : Nat} (h : zC S Y cs m N K x = true) : x < N := by
  unfold zC zcau at h
  rcases zgo_el h with q | ⟨a, a1, a2⟩
  · cases q
  · obtain ⟨j, hj, e⟩ := List.getElem_of_mem a1
    obtain ⟨y, y1, y2, y3⟩ := zord_el (H := zhst S) (R := zR N K) (fo := -1) (le := 0) hN7 (Or.inl rfl) j hj
    rw [List.getD_eq_getElem?_getD, List.getElem?_eq_getElem hj] at y2
    simp only [Option.getD_some, e] at y2
    unfold zR at y3
    rw [Bool.and_eq_true] at y3
    have := of_decide_eq_true y3.1
    omega
theorem popN_t : ∀ n, n < 128 → popN n = pop n.testBit := by decide +kernel
theorem bitv_t : ∀ n, n < 128 → ∀ p, p < 7 → ((Int32.ofNat n >>> (Int32.ofNat p &&& 31)) &&& 1) = b2i (n.testBit p) := by decide +kernel
theorem BSET.bitv {b p : Int32} {f : Nat → Bool} {pn : Nat} (hb : BSET b f) (hp : p.toInt = pn) (h7 : pn < 7) : ((b >>> (p &&& 31)) &&& 1) = b2i (f pn) := by
  have e := ofn hp
  subst e
  obtain ⟨n, hn, rfl, hf⟩ := hb
  rw [bitv_t n hn pn h7, hf pn h7]
/-- what a call of the reference may write on its way -/
def WMV : List (Nat × Nat) := [(109, 999), (110, 999), (93, 34), (93, 35), (96, 999), (98, 999), (93, 1), (93, 2), (93, 27), (93, 28), (93, 29), (93, 30), (93, 31), (93, 32), (93, 36), (93, 37), (111, 999), (112, 999), (113, 999)]
/-- what stands again in the end -/
def SUPR : List (Nat × Nat) := [(96, 999), (98, 999), (93, 1), (93, 2), (93, 27), (93, 28), (93, 30)]
def RST (h h' : Hp) : Prop := frm WMV h h' ∧ ∀ a k, inW SUPR a k = true → h'.2.1 a k = h.2.1 a k
theorem RST.rf {h : Hp} : RST h h := ⟨frm_refl, fun _ _ _ => rfl⟩
theorem RST.x {h h' : Hp} (hf : frm WMX h h') : RST h h' := ⟨frm_sub (V := WMX) (by decide) hf, fun a k hs => frI hf (dis_in (SUP := SUPR) (by decide) hs)⟩
/-- one cell was another on the way -/
theorem RST.one {h h' : Hp} {b j : Nat} (hj : j < 900) (hb : subW [(b, j)] WMV = true) (hf : frm (WMX ++ [(b, j)]) h h') (he : h'.2.1 b j = h.2.1 b j) : RST h h' := by
  refine ⟨fun a k hk => hf a k ?_, fun a k hs => ?_⟩
  · have s : subW (WMX ++ [(b, j)]) WMV = true := by
      unfold subW at hb ⊢
      rw [List.all_append, hb, Bool.and_true]
      decide
    exact subW_ok s hk
  · by_cases c : a = b ∧ k = j
    · rw [c.1, c.2]; exact he
    · refine frI hf ?_
      have d := dis_in (SUP := SUPR) (W := WMX) (by decide) hs
      unfold inW at d ⊢
      rw [List.any_append, d]
      simp only [List.any_cons, List.any_nil, Bool.or_false, Bool.false_or, Bool.and_eq_false_iff, Bool.or_eq_false_iff, beq_eq_false_iff_ne]
      by_cases ab : a = b
      · right
        exact ⟨fun z => c ⟨ab, z.symm⟩, by omega⟩
      · left
        exact fun z => ab z.symm
theorem W1_in {b j : Nat} : inW (WMX ++ [(b, j)]) b j = true := by
  unfold inW
  rw [List.any_append]
  simp
theorem W1_x {b j : Nat} {h h' : Hp} (hf : frm WMX h h') : frm (WMX ++ [(b, j)]) h h' := fun a k hk => hf a k (by
  unfold inW at hk ⊢
  rw [List.any_append, Bool.or_eq_false_iff] at hk
  exact hk.1)
theorem W1_n {b j a k : Nat} (h1 : inW WMX a k = false) (h2 : ¬ (b = a ∧ (j = k ∨ j = 999))) : inW (WMX ++ [(b, j)]) a k = false := by
  unfold inW at h1 ⊢
  rw [List.any_append, h1]
  simp only [List.any_cons, List.any_nil, Bool.or_false, Bool.false_or, Bool.and_eq_false_iff, Bool.or_eq_false_iff, beq_eq_false_iff_ne]
  by_cases ab : b = a
  · right
    exact ⟨fun z => h2 ⟨ab, Or.inl z⟩, fun z => h2 ⟨ab, Or.inr z⟩⟩
  · exact Or.inl ab
section MCALLS
variable {X : Scr} {Q : Option Value → Hp → Prop} {S : Nat → Nat → Int} {Y : Int} {cs : List Cl} {m : List Int} {N : Nat} {K : Nat → Bool} {h : Hp}
theorem onesb_ok {dp : Nat} (hs : HS h) {aI : Int32} {f : Nat → Bool} (hb : BSET aI f) (hQ : ∀ r : Int32, r.toInt = (pop f : Int) → Q (some (.int r)) h) : Ends X dp 111 0 [.ref 93, .int aI, .retAddr 0, .retAddr 0] [] h Q := by
  have rg := hb.rng
  obtain ⟨n, hn, rfl, hf⟩ := hb
  refine ones_ok _ hs rg.1 rg.2 (fun r hr => hQ r ?_)
  rw [hr, i32n hn, Int.toNat_natCast, popN_t n hn, pop_cg hf]
theorem nmcn_ok {dp : Nat} (mk : MOK S Y N) (hn : NMS S Y cs m N K h) (hh : HI h) (hQ : ∀ (r : Int32) h', HI h' → frm WMX h h' → NMS S Y cs m N K h' → BSET r (zC S Y cs m N K) → Q (some (.int r)) h') : Ends X (dp + 1 + 1 + 1 + 1 + 1 + 1 + 1 + 1 + 1) 157 0 [.ref 93, .retAddr 0, .retAddr 0, .retAddr 0, .retAddr 0, .retAddr 0] [] h Q := by
  refine mcn_ok mk hn.d (Or.inl rfl) hh (fun r h' g f hr _ => hQ r h' g f (hn.fr f) ?_)
  rw [mcau_z (by decide), zcau_t (t' := 0) (by decide)] at hr
  exact hr
theorem mis_ok {dp : Nat} (hn : NMS S Y cs m N K h) (hh : HI h) (pI : Int32) (hQ : Q (some (.int (b2i (decide (isP N pI))))) h) : Ends X (dp + 1) 112 0 [.ref 93, .int pI] [] h Q := by
  refine person_ok pI hh ?_
  rw [hn.2.2.2.1, ← Bool.decide_and]
  exact hQ
theorem mrn_ok {dp : Nat} (hn : NMS S Y cs m N K h) (hh : HI h) (pI : Int32) (p : Nat) (hp : pI.toInt = p) (h7 : p < 7) (hN : p < N) (hQ : Q (some (.int (b2i (!K p)))) h) : Ends X (dp + 1) 139 0 [.ref 93, .int pI] [] h Q := by
  refine mrun_ok hn.d hh pI p hp h7 hN ?_
  unfold zR
  rw [decide_eq_true hN, Bool.true_and]
  exact hQ
theorem in01_ok {dp : Nat} (hs : HS h) (wI : Int32) (hQ : Q (some (.int (b2i (decide (is01 wI))))) h) : Ends X dp 109 0 [.ref 93, .int wI, .int 0, .int 1] [] h Q := by
  refine in_ok wI 0 1 hs ?_
  rw [← Bool.decide_and]
  exact hQ
theorem NMS.up2 {p : Nat} {v : Int32} (hn : NMS S Y cs m N K h) : NMS (upS S 2 p v.toInt) Y cs m N K (hpI h 96 p v) := by
  obtain ⟨a1, a2, a3, a4, a5, a6, a7, a8, a9, a10⟩ := hn
  refine ⟨a1.up2, ?_, ?_, by rw [put_ne (by omega)]; exact a4, by rw [put_ne (by omega)]; exact a5, a6, by rw [put_ne (by omega)]; exact a7, by rw [put_ne (by omega)]; exact a8, by rw [put_ne (by omega)]; exact a9, by rw [put_ne (by omega)]; exact a10⟩
  · refine ⟨a2.1, ?_⟩
    rw [put_ne (by omega)]
    rcases a2.2 with c | ⟨g, g1, g2, y1, y2, y3⟩
    · exact Or.inl c
    · refine Or.inr ⟨g, g1, g2, by rw [put_ne (by omega)]; exact y1, fun c hc => ?_, fun j hj => by rw [put_ne (by omega)]; exact y3 j hj⟩
      rw [put_ne (by omega), put_ne (by omega), put_ne (by omega), put_ne (by omega)]
      exact y2 c hc
  · exact TX_fr (fun a k hs => put_ne (by
      simp only [inW, SUP1, List.any_cons, List.any_nil, Bool.or_false, Bool.or_eq_true, Bool.and_eq_true, beq_iff_eq] at hs
      omega)) a3
theorem NMS.up4 {p : Nat} {v : Int32} (hn : NMS S Y cs m N K h) : NMS (upS S 4 p v.toInt) Y cs m N K (hpI h 98 p v) := by
  obtain ⟨a1, a2, a3, a4, a5, a6, a7, a8, a9, a10⟩ := hn
  refine ⟨a1.up4, ?_, ?_, by rw [put_ne (by omega)]; exact a4, by rw [put_ne (by omega)]; exact a5, a6, by rw [put_ne (by omega)]; exact a7, by rw [put_ne (by omega)]; exact a8, by rw [put_ne (by omega)]; exact a9, by rw [put_ne (by omega)]; exact a10⟩
  · refine ⟨a2.1, ?_⟩
    rw [put_ne (by omega)]
    rcases a2.2 with c | ⟨g, g1, g2, y1, y2, y3⟩
    · exact Or.inl c
    · refine Or.inr ⟨g, g1, g2, by rw [put_ne (by omega)]; exact y1, fun c hc => ?_, fun j hj => by rw [put_ne (by omega)]; exact y3 j hj⟩
      rw [put_ne (by omega), put_ne (by omega), put_ne (by omega), put_ne (by omega)]
      exact y2 c hc
  · exact TX_fr (fun a k hs => put_ne (by
      simp only [inW, SUP1, List.any_cons, List.any_nil, Bool.or_false, Bool.or_eq_true, Bool.and_eq_true, beq_iff_eq] at hs
      omega)) a3
/-- cells of the reference's own -/
theorem MG.p93 {k : Nat} {v : Int32} {h : Hp} {S : Nat → Nat → Int} {Y : Int} (hg : MG h S Y) (hk : k ≠ 1) : MG (hpI h 93 k v) S Y := by
  obtain ⟨g1, g2, g3⟩ := hg
  refine ⟨fun x hx => ?_, fun i hi => by rw [put_ne (by omega)]; exact g2 i hi, by rw [put_ne (by omega)]; exact g3⟩
  rw [put_ne (by omega), put_ne (by omega), put_ne (by omega), put_ne (by omega), put_ne (by omega)]
  exact g1 x hx
theorem MY.p93 {k : Nat} {v : Int32} (hy : MY h cs m) (hk : k ≠ 10) : MY (hpI h 93 k v) cs m := by
  refine ⟨hy.1, ?_⟩
  rw [put_ne (by omega)]
  rcases hy.2 with c | ⟨g, g1, g2, y1, y2, y3⟩
  · exact Or.inl c
  · refine Or.inr ⟨g, g1, g2, by rw [put_ne (by omega)]; exact y1, fun c hc => ?_, fun j hj => by rw [put_ne (by omega)]; exact y3 j hj⟩
    rw [put_ne (by omega), put_ne (by omega), put_ne (by omega), put_ne (by omega)]
    exact y2 c hc
theorem TX.p93 {k : Nat} {v : Int32} (ht : TX h) (hk : k ≠ 9 ∧ k ≠ 10 ∧ k ≠ 45 ∧ k ≠ 30) : TX (hpI h 93 k v) := TX_fr (fun a j hs => put_ne (by
  simp only [inW, SUP1, List.any_cons, List.any_nil, Bool.or_false, Bool.or_eq_true, Bool.and_eq_true, beq_iff_eq] at hs
  omega)) ht
theorem TX.p9330 {v : Int32} (ht : TX h) : TX (hpI h 93 30 v) := by
  obtain ⟨t1, t2, t3⟩ := ht
  refine ⟨by rw [put_ne (by omega), put_ne (by omega)]; exact t1, by rw [put_ne (by omega), put_ne (by omega)]; exact t2, fun f c hf hc => ?_⟩
  rw [put_ne (by omega)] at hf hc
  obtain ⟨⟨a, mm, k1, k2, k3, k4, k5⟩, k6⟩ := t3 f c hf hc
  refine ⟨⟨a, mm, by rw [put_ne (by omega)]; exact k1, by rw [put_ne (by omega)]; exact k2, k3, k4, ?_⟩, by rw [put_ne (by omega)]; exact k6⟩
  have : (hpI h 93 30 v).2.1 106 = h.2.1 106 := by funext j; exact put_ne (by omega)
  rw [this]
  exact k5
theorem iv_96 : ∀ k, k < 7 → ivl 96 k = (0, 6) := by
  have : ((List.range 7).all (fun k => decide (ivl 96 k = (0, 6)))) = true := by decide +kernel
  exact fun k hk => of_decide_eq_true (List.all_eq_true.mp this k (List.mem_range.mpr hk))
theorem iv_98 : ∀ k, k < 7 → ivl 98 k = (0, 9) := by
  have : ((List.range 7).all (fun k => decide (ivl 98 k = (0, 9)))) = true := by decide +kernel
  exact fun k hk => of_decide_eq_true (List.all_eq_true.mp this k (List.mem_range.mpr hk))
theorem sub_96 {c : Nat} (c7 : c < 7) : subW [(96, c)] WMV = true := by
  have : ∀ c, c < 7 → subW [(96, c)] WMV = true := by decide
  exact this c c7
theorem sub_98 {c : Nat} (c7 : c < 7) : subW [(98, c)] WMV = true := by
  have : ∀ c, c < 7 → subW [(98, c)] WMV = true := by decide
  exact this c c7
theorem mtold_ok {dp : Nat} (hn : NMS S Y cs m N K h) (hN7 : N ≤ 7) (hh : HI h) (wI : Int32) (hQ : ∀ r : Int32, r.toInt = zTold Y N K wI.toInt → Q (some (.int r)) h) : Ends X (dp + 1 + 1) 150 0 [.ref 93, .int wI] [] h Q := by
  unfold zTold at hQ
  have j2 : (2 : Int32).toInt = 2 := rfl
  refine w_mtold wI hh.hs ⟨fun e => ⟨fun e2 => ⟨fun e3 => ?_, fun e3 => ?_⟩, fun e2 => ?_⟩, fun e => ?_⟩
  · have e : ¬ wI.toInt = (0 : Int32).toInt := of_decide_eq_true (cJ e)
    have e2 : ¬ wI.toInt = (1 : Int32).toInt := of_decide_eq_true (cJ e2)
    have e3 : ¬ wI.toInt = (2 : Int32).toInt := of_decide_eq_true (cJ e3)
    rw [z0] at e; rw [i1] at e2
    exact hQ _ (by rw [if_neg (by omega), if_neg (by omega), if_neg (by omega)]; rfl)
  · have e : ¬ wI.toInt = (0 : Int32).toInt := of_decide_eq_true (cJ e)
    have e2 : ¬ wI.toInt = (1 : Int32).toInt := of_decide_eq_true (cJ e2)
    have e3 : ¬ ¬ wI.toInt = (2 : Int32).toInt := of_decide_eq_false (cJ e3)
    rw [z0] at e; rw [i1] at e2
    exact hQ _ (by rw [if_neg (by omega), if_neg (by omega), if_pos (by omega)]; exact hn.2.2.2.2.1.val)
  · have e : ¬ wI.toInt = (0 : Int32).toInt := of_decide_eq_true (cJ e)
    have e2 : ¬ ¬ wI.toInt = (1 : Int32).toInt := of_decide_eq_false (cJ e2)
    rw [z0] at e; rw [i1] at e2
    exact w_allSet hh.hs ⟨_, rfl, hh.hs, hQ _ (by rw [if_neg (by omega), if_pos (by omega)]; exact ((BSET.every hn.2.2.2.1 hN7).no hn.2.2.2.2.1).val)⟩
  · have e : ¬ ¬ wI.toInt = (0 : Int32).toInt := of_decide_eq_false (cJ e)
    rw [z0] at e
    exact hQ _ (by rw [if_pos (by omega)]; exact hn.1.2.2)
/-- stand -/
theorem msta_go {dp : Nat} (mk : MOK S Y N) (h0 : Hp) (cI wI oI : Int32) (c : Nat) (hc : cI.toInt = c) (c7 : c < 7) (ho : h0.2.1 96 c = oI) (o6 : 0 ≤ oI.toInt ∧ oI.toInt ≤ 6) : ∀ (n l : Nat) (fI' mI lI : Int32) (x : Value) (S' : Nat → Nat → Int) (h : Hp), l + n = 7 → lI.toInt = l → fI'.toInt = (zmx (zStaC S Y cs m N K c) l).1 → mI.toInt = (zmx (zStaC S Y cs m N K c) l).2 → (∀ v, upS S' 2 c v = upS S 2 c v) → NMS S' Y cs m N K h → HI h → frm (WMX ++ [(96, c)]) h0 h → (∀ (r : Int32) h', HI h' → RST h0 h' → r.toInt = (if wI.toInt = 0 then ((zmx (zStaC S Y cs m N K c) 7).1 : Int) else (zmx (zStaC S Y cs m N K c) 7).2) → Q (some (.int r)) h') → Ends X (dp + 1 + 1 + 1 + 1 + 1 + 1 + 1 + 1 + 1 + 1) 166 47 [.ref 93, .int cI, .int wI, .int oI, .int fI', .int mI, .int lI, x] [] h Q
  | n, l, fI', mI, lI, x, S', h, hn, hl, hf, hm, hS, hs, hh, hfr, hQ => by
    have j7 : (7 : Int32).toInt = 7 := rfl
    have ic : inB cI 7 = true := inB_iff (by omega) (by omega)
    have en : cI.toNatClampNeg = c := by show cI.toInt.toNat = _; omega
    have gB : HI (hpI h 96 c oI) := HI_put hh (by rw [iv_96 c c7]; exact o6.1) (by rw [iv_96 c c7]; exact o6.2)
    have rB : RST h0 (hpI h 96 c oI) := RST.one (b := 96) (j := c) (by omega) (sub_96 c7) (frm_put hfr W1_in) (by rw [put_at]; exact ho.symm)
    refine w_msta1 cI wI oI fI' mI lI x hh.hs ⟨fun e => ⟨ic, ?_⟩, fun e => ⟨ic, ?_⟩⟩
    · have e : (7 : Int32).toInt ≤ lI.toInt := of_decide_eq_true (cJ e)
      have : l = 7 := by omega
      subst this
      rw [en]
      refine ⟨fun d => ?_, fun d => ?_⟩
      · have d : ¬ wI.toInt = (0 : Int32).toInt := of_decide_eq_true (cJ d)
        rw [z0] at d
        exact hQ mI _ gB rB (by rw [if_neg d]; exact hm)
      · have d : ¬ ¬ wI.toInt = (0 : Int32).toInt := of_decide_eq_false (cJ d)
        rw [z0] at d
        exact hQ fI' _ gB rB (by rw [if_pos (Decidable.not_not.mp d)]; exact hf)
    have e : ¬ (7 : Int32).toInt ≤ lI.toInt := of_decide_eq_false (cJ e)
    obtain ⟨n, rfl⟩ : ∃ k, n = k + 1 := ⟨n - 1, by omega⟩
    have n1 : (lI + 1).toInt = ((l + 1 : Nat) : Int) := by rw [i_add (by rw [i1]; omega) (by rw [i1]; omega), i1]; omega
    rw [en]
    have g2 : HI (hpI h 96 c lI) := HI_put hh (by rw [iv_96 c c7]; omega) (by rw [iv_96 c c7]; omega)
    have n2 := hs.up2 (p := c) (v := lI)
    rw [hl, hS] at n2
    refine nmcn_ok (mk.up2 (by omega)) n2 g2 (fun r6 h5 g5 f5 n5 b6 => ⟨r6, rfl, g5.hs, onesb_ok g5.hs b6 (fun r9 h9 => ⟨r9, rfl, g5.hs, ?_⟩)⟩)
    have h9 : r9.toInt = (zStaC S Y cs m N K c l : Int) := h9
    have f : frm (WMX ++ [(96, c)]) h0 h5 := frm_trans (frm_put hfr W1_in) (W1_x f5)
    refine ⟨fun d => ?_, fun d => ?_⟩
    · have d : mI.toInt < r9.toInt := of_decide_eq_true (cJ d)
      have st : zmx (zStaC S Y cs m N K c) (l + 1) = (l, (zStaC S Y cs m N K c l : Int)) := if_pos (by omega)
      exact msta_go mk h0 cI wI oI c hc c7 ho o6 n (l + 1) _ _ _ _ _ h5 (by omega) n1 (by rw [st]; exact hl) (by rw [st]; exact h9) (fun v => upS_up) n5 g5 f hQ
    · have d : ¬ mI.toInt < r9.toInt := of_decide_eq_false (cJ d)
      have st : zmx (zStaC S Y cs m N K c) (l + 1) = zmx (zStaC S Y cs m N K c) l := if_neg (by omega)
      exact msta_go mk h0 cI wI oI c hc c7 ho o6 n (l + 1) _ _ _ _ _ h5 (by omega) n1 (by rw [st]; exact hf) (by rw [st]; exact hm) (fun v => upS_up) n5 g5 f hQ
theorem msta_ok {dp : Nat} (hn : NMS S Y cs m N K h) (mk : MOK S Y N) (hh : HI h) (cI wI : Int32) (hQ : ∀ (r : Int32) h', HI h' → RST h h' → r.toInt = zSta S Y cs m N K cI wI → Q (some (.int r)) h') : Ends X (dp + 1 + 1 + 1 + 1 + 1 + 1 + 1 + 1 + 1 + 1) 166 0 [.ref 93, .int cI, .int wI, .retAddr 0, .retAddr 0, .retAddr 0, .retAddr 0, .retAddr 0] [] h Q := by
  have N7 := mk.2.2.2
  unfold zSta at hQ
  refine w_msta0 cI wI hh.hs (mis_ok hn hh cI ⟨_, rfl, hh.hs, fun e => ?_, fun e => in01_ok hh.hs wI ⟨_, rfl, hh.hs, fun e2 => ?_, fun e2 => ?_⟩⟩)
  · exact hQ _ h hh RST.rf (by rw [if_pos (of_decide_eq_false (cz e))]; rfl)
  · have e := of_decide_eq_true (cn e)
    have e2 := of_decide_eq_true (cn2 e2)
    have hc : cI.toInt = (cI.toInt.toNat : Int) := by omega
    rw [if_neg (fun z => z e), if_neg (fun z => z e2)] at hQ
    refine mrn_ok hn hh cI cI.toInt.toNat hc (by omega) (by omega) ⟨_, rfl, hh.hs, fun e3 => ⟨inB_iff (by omega) (by omega), ?_⟩, fun e3 => ?_⟩
    · have e3 := cz e3
      rw [Bool.not_eq_false'] at e3
      rw [if_neg (by rw [e3]; decide)] at hQ
      have lv := hh.iv 96 cI.toInt.toNat (iv_96 _ (by omega))
      exact msta_go mk h cI wI _ cI.toInt.toNat hc (by omega) rfl lv 7 0 0 (-1) 0 _ S h (by decide) rfl rfl rfl (fun _ => rfl) hn hh frm_refl hQ
    · have e3 := cn e3
      rw [Bool.not_eq_true'] at e3
      rw [if_pos e3] at hQ
      exact hQ _ h hh RST.rf rfl
  · have e := of_decide_eq_true (cn e)
    have e2 := of_decide_eq_false (cz2 e2)
    exact hQ _ h hh RST.rf (by rw [if_neg (fun z => z e), if_pos e2]; rfl)
/-- moved -/
theorem mmov_go {dp : Nat} (mk : MOK S Y N) (h0 : Hp) (sn : Int) (cI oI : Int32) (c : Nat) (hc : cI.toInt = c) (c7 : c < 7) (ho : h0.2.1 96 c = oI) (o6 : 0 ≤ oI.toInt ∧ oI.toInt ≤ 6) (h9 : (h0.2.1 93 41).toInt = sn) : ∀ (n l : Nat) (sI lI : Int32) (S' : Nat → Nat → Int) (h : Hp), l + n = 7 → lI.toInt = l → BSET sI (zset (zMovF S Y cs m N K sn c) l) → (∀ v, upS S' 2 c v = upS S 2 c v) → NMS S' Y cs m N K h → HI h → frm (WMX ++ [(96, c)]) h0 h → (∀ (r : Int32) h', HI h' → RST h0 h' → BSET r (zset (zMovF S Y cs m N K sn c) 7) → Q (some (.int r)) h') → Ends X (dp + 1 + 1 + 1 + 1 + 1 + 1 + 1 + 1 + 1 + 1) 176 33 [.ref 93, .int cI, .int oI, .int sI, .int lI] [] h Q
  | n, l, sI, lI, S', h, hn, hl, hb, hS, hs, hh, hfr, hQ => by
    have j7 : (7 : Int32).toInt = 7 := rfl
    have ic : inB cI 7 = true := inB_iff (by omega) (by omega)
    have en : cI.toNatClampNeg = c := by show cI.toInt.toNat = _; omega
    have gB : HI (hpI h 96 c oI) := HI_put hh (by rw [iv_96 c c7]; exact o6.1) (by rw [iv_96 c c7]; exact o6.2)
    have rB : RST h0 (hpI h 96 c oI) := RST.one (b := 96) (j := c) (by omega) (sub_96 c7) (frm_put hfr W1_in) (by rw [put_at]; exact ho.symm)
    refine w_mmov1 cI oI sI lI hh.hs ⟨fun e => ⟨ic, ?_⟩, fun e => ⟨ic, ?_⟩⟩
    · have e : (7 : Int32).toInt ≤ lI.toInt := of_decide_eq_true (cJ e)
      have : l = 7 := by omega
      subst this
      rw [en]
      exact hQ sI _ gB rB hb
    have e : ¬ (7 : Int32).toInt ≤ lI.toInt := of_decide_eq_false (cJ e)
    obtain ⟨n, rfl⟩ : ∃ k, n = k + 1 := ⟨n - 1, by omega⟩
    have n1 : (lI + 1).toInt = ((l + 1 : Nat) : Int) := by rw [i_add (by rw [i1]; omega) (by rw [i1]; omega), i1]; omega
    rw [en]
    have g2 : HI (hpI h 96 c lI) := HI_put hh (by rw [iv_96 c c7]; omega) (by rw [iv_96 c c7]; omega)
    have n2 := hs.up2 (p := c) (v := lI)
    rw [hl, hS] at n2
    refine nmcn_ok (mk.up2 (by omega)) n2 g2 (fun r5 h4 g4 f4 n4 b5 => ⟨r5, rfl, g4.hs, ?_⟩)
    have f : frm (WMX ++ [(96, c)]) h0 h4 := frm_trans (frm_put hfr W1_in) (W1_x f4)
    have e41 : h4.2.1 93 41 = h0.2.1 93 41 := frI f (W1_n rfl (by omega))
    rw [e41]
    have st := zset_S hb hl (by omega)
    have bv : r5.toInt = zint (zLan S Y cs m N K c l) := b5.val
    have go := fun sI' hs' => mmov_go (dp := dp) mk h0 sn cI oI c hc c7 ho o6 h9 n (l + 1) sI' (lI + 1) _ h4 (by omega) n1 hs' (fun v => upS_up) n4 g4 f hQ
    refine ⟨fun d => go _ (bor0 (st.2 ?_)), fun d => go _ (st.1 ?_)⟩
    · have d : ¬ r5.toInt = (h0.2.1 93 41).toInt := of_decide_eq_true (cJ d)
      exact decide_eq_false (by omega)
    · have d : ¬ ¬ r5.toInt = (h0.2.1 93 41).toInt := of_decide_eq_false (cJ d)
      exact decide_eq_true (by omega)
theorem mmov_ok {dp : Nat} (hn : NMS S Y cs m N K h) (mk : MOK S Y N) (hh : HI h) (cI : Int32) (hQ : ∀ (r : Int32) h', HI h' → RST h h' → r.toInt = zMov S Y cs m N K (h.2.1 93 41).toInt cI → Q (some (.int r)) h') : Ends X (dp + 1 + 1 + 1 + 1 + 1 + 1 + 1 + 1 + 1 + 1) 176 0 [.ref 93, .int cI, .retAddr 0, .retAddr 0, .retAddr 0] [] h Q := by
  have N7 := mk.2.2.2
  unfold zMov at hQ
  refine w_mmov0 cI hh.hs (mis_ok hn hh cI ⟨_, rfl, hh.hs, fun e => ?_, fun e => ?_⟩)
  · have e := of_decide_eq_true (cn2 e)
    have hc : cI.toInt = (cI.toInt.toNat : Int) := by omega
    rw [if_neg (fun z => z e)] at hQ
    refine mrn_ok hn hh cI cI.toInt.toNat hc (by omega) (by omega) ⟨_, rfl, hh.hs, fun e3 => ⟨inB_iff (by omega) (by omega), ?_⟩, fun e3 => ?_⟩
    · have e3 := cz e3
      rw [Bool.not_eq_false'] at e3
      rw [if_neg (by rw [e3]; decide)] at hQ
      have lv := hh.iv 96 cI.toInt.toNat (iv_96 _ (by omega))
      exact mmov_go mk h _ cI _ cI.toInt.toNat hc (by omega) rfl lv rfl 7 0 0 0 S h (by decide) rfl BSET.zero (fun _ => rfl) hn hh frm_refl (fun r h' d1 d2 d3 => hQ r h' d1 d2 d3.val)
    · have e3 := cn e3
      rw [Bool.not_eq_true'] at e3
      rw [if_pos e3] at hQ
      exact hQ _ h hh RST.rf rfl
  · exact hQ _ h hh RST.rf (by rw [if_pos (of_decide_eq_false (cz2 e))]; rfl)
theorem mlow_ok {dp : Nat} (hs : HS h) (aI bI pI : Int32) (a b : Nat) (hA : aI.toInt = a) (hB : bI.toInt = b) (hb0 : 0 < b) (hb : b ≤ 30) (ha : a ≤ 1000) (hQ : ∀ r : Int64, r.toInt = zLow a b pI.toInt → Q (some (.long r)) h) : Ends X (dp + 1) 178 0 [.ref 93, .int aI, .int bI, .int pI, .retAddr 0] [] h Q := by
  refine w_mlow aI bI pI hs (dv_ok aI bI hs (by omega) (by omega) (fun r2 h2 => ⟨r2, rfl, hs, ?_⟩))
  have gp := Nat.gcd_pos_of_pos_right a hb0
  have e2 : r2.toInt = (Nat.gcd a b : Int) := by rw [h2, hA, hB]; rfl
  have r0 : ¬ r2 = 0 := fun z => by rw [z, z0] at e2; omega
  unfold zLow at hQ
  have ea : Int.toNat (a : Int) = a := rfl
  have eb : Int.toNat (b : Int) = b := rfl
  rw [ea, eb] at hQ
  refine ⟨fun c => ⟨r0, hQ _ ?_⟩, fun c => ⟨r0, hQ _ ?_⟩⟩
  · have c : ¬ pI.toInt = (0 : Int32).toInt := of_decide_eq_true (cJ c)
    rw [z0] at c
    rw [Int32.toInt_toInt64, if_neg c, i_dv (by omega) (by omega), hB, e2]
  · have c : ¬ ¬ pI.toInt = (0 : Int32).toInt := of_decide_eq_false (cJ c)
    rw [z0] at c
    rw [Int32.toInt_toInt64, if_pos (Decidable.not_not.mp c), i_dv (by omega) (by omega), hA, e2]
/-- odds -/
theorem modd_go {dp : Nat} (mk : MOK S Y N) (h0 : Hp) (pI cI aI oI : Int32) (p c : Nat) (hp : pI.toInt = p) (p7 : p < 7) (hc : cI.toInt = c) (c7 : c < 7) (ho : h0.2.1 96 c = oI) (o6 : 0 ≤ oI.toInt ∧ oI.toInt ≤ 6) : ∀ (n l : Nat) (nI lI : Int32) (S' : Nat → Nat → Int) (h : Hp), l + n = 7 → lI.toInt = l → nI.toInt = zct (zOddF S Y cs m N K p c) l → (∀ v, upS S' 2 c v = upS S 2 c v) → NMS S' Y cs m N K h → HI h → frm (WMX ++ [(96, c)]) h0 h → (∀ (r : Int64) h', HI h' → RST h0 h' → r.toInt = zLow (zct (zOddF S Y cs m N K p c) 7) 7 aI.toInt → Q (some (.long r)) h') → Ends X (dp + 1 + 1 + 1 + 1 + 1 + 1 + 1 + 1 + 1 + 1) 179 60 [.ref 93, .int pI, .int cI, .int aI, .int oI, .int nI, .int lI] [] h Q
  | n, l, nI, lI, S', h, hn, hl, hv, hS, hs, hh, hfr, hQ => by
    have j7 : (7 : Int32).toInt = 7 := rfl
    have ic : inB cI 7 = true := inB_iff (by omega) (by omega)
    have en : cI.toNatClampNeg = c := by show cI.toInt.toNat = _; omega
    have gB : HI (hpI h 96 c oI) := HI_put hh (by rw [iv_96 c c7]; exact o6.1) (by rw [iv_96 c c7]; exact o6.2)
    have rB : RST h0 (hpI h 96 c oI) := RST.one (b := 96) (j := c) (by omega) (sub_96 c7) (frm_put hfr W1_in) (by rw [put_at]; exact ho.symm)
    have zl := zct_le (zOddF S Y cs m N K p c) l
    refine w_modd1 pI cI aI oI nI lI hh.hs ⟨fun e => ⟨ic, ?_⟩, fun e => ⟨ic, ?_⟩⟩
    · have e : (7 : Int32).toInt ≤ lI.toInt := of_decide_eq_true (cJ e)
      have : l = 7 := by omega
      subst this
      rw [en]
      exact mlow_ok gB.hs nI 7 aI _ 7 hv rfl (by decide) (by decide) (by omega) (fun r hr => ⟨r, rfl, gB.hs, hQ r _ gB rB hr⟩)
    have e : ¬ (7 : Int32).toInt ≤ lI.toInt := of_decide_eq_false (cJ e)
    obtain ⟨n, rfl⟩ : ∃ k, n = k + 1 := ⟨n - 1, by omega⟩
    have n1 : (lI + 1).toInt = ((l + 1 : Nat) : Int) := by rw [i_add (by rw [i1]; omega) (by rw [i1]; omega), i1]; omega
    rw [en]
    have g2 : HI (hpI h 96 c lI) := HI_put hh (by rw [iv_96 c c7]; omega) (by rw [iv_96 c c7]; omega)
    have n2 := hs.up2 (p := c) (v := lI)
    rw [hl, hS] at n2
    have pS : zct (zOddF S Y cs m N K p c) (l + 1) = zct (zOddF S Y cs m N K p c) l + (zOddF S Y cs m N K p c l).toNat := rfl
    refine nmcn_ok (mk.up2 (by omega)) n2 g2 (fun r8 h7 g7 f7 n7 b8 => ⟨r8, rfl, g7.hs, has_ok r8 pI g7.hs ⟨_, rfl, g7.hs, ?_⟩⟩)
    have f : frm (WMX ++ [(96, c)]) h0 h7 := frm_trans (frm_put hfr W1_in) (W1_x f7)
    rw [bitB_s b8 hp p7]
    refine ⟨fun d => ?_, fun d => ?_⟩
    · have d : zOddF S Y cs m N K p c l = false := cz d
      refine modd_go mk h0 pI cI aI oI p c hp p7 hc c7 ho o6 n (l + 1) _ _ _ h7 (by omega) n1 ?_ (fun v => upS_up) n7 g7 f hQ
      rw [pS, d, i_add (by rw [z0]; omega) (by rw [z0]; omega), z0, hv]
      rfl
    · have d : zOddF S Y cs m N K p c l = true := cn d
      refine modd_go mk h0 pI cI aI oI p c hp p7 hc c7 ho o6 n (l + 1) _ _ _ h7 (by omega) n1 ?_ (fun v => upS_up) n7 g7 f hQ
      rw [pS, d, i_add (by rw [i1]; omega) (by rw [i1]; omega), i1, hv]
      rfl
theorem modd_ok {dp : Nat} (hn : NMS S Y cs m N K h) (mk : MOK S Y N) (hh : HI h) (pI cI aI : Int32) (hQ : ∀ (r : Int64) h', HI h' → RST h h' → r.toInt = zOdd S Y cs m N K pI cI aI → Q (some (.long r)) h') : Ends X (dp + 1 + 1 + 1 + 1 + 1 + 1 + 1 + 1 + 1 + 1) 179 0 [.ref 93, .int pI, .int cI, .int aI, .retAddr 0, .retAddr 0, .retAddr 0] [] h Q := by
  have N7 := mk.2.2.2
  have no : ((-9223372036854775808 : Int64)).toInt = zNO := rfl
  unfold zOdd at hQ
  refine w_modd0 pI cI aI hh.hs (mis_ok hn hh pI ⟨_, rfl, hh.hs, fun e => ?_, fun e => mis_ok hn hh cI ⟨_, rfl, hh.hs, fun e2 => ?_, fun e2 => in01_ok hh.hs aI ⟨_, rfl, hh.hs, fun e3 => ?_, fun e3 => ?_⟩⟩⟩)
  · exact hQ _ h hh RST.rf (by rw [if_pos (Or.inl (of_decide_eq_false (cz e)))]; exact no)
  · exact hQ _ h hh RST.rf (by rw [if_pos (Or.inr (Or.inl (of_decide_eq_false (cz e2))))]; exact no)
  · exact hQ _ h hh RST.rf (by rw [if_pos (Or.inr (Or.inr (of_decide_eq_false (cz e3))))]; exact no)
  · have e := of_decide_eq_true (cn e)
    have e2 := of_decide_eq_true (cn e2)
    have e3 := of_decide_eq_true (cn e3)
    have hp : pI.toInt = (pI.toInt.toNat : Int) := by omega
    have hc : cI.toInt = (cI.toInt.toNat : Int) := by omega
    rw [if_neg (by omega)] at hQ
    refine mrn_ok hn hh pI pI.toInt.toNat hp (by omega) (by omega) ⟨_, rfl, hh.hs, fun e4 => ?_, fun e4 => mrn_ok hn hh cI cI.toInt.toNat hc (by omega) (by omega) ⟨_, rfl, hh.hs, fun e5 => ⟨inB_iff (by omega) (by omega), ?_⟩, fun e5 => ?_⟩⟩
    · have e4 := cz e4
      rw [Bool.not_eq_false'] at e4
      exact hQ _ h hh RST.rf (by rw [if_pos (Or.inl e4)]; exact no)
    · have e4 := cn e4
      have e5 := cz e5
      rw [Bool.not_eq_true'] at e4
      rw [Bool.not_eq_false'] at e5
      rw [if_neg (by rw [e4, e5]; decide)] at hQ
      have lv := hh.iv 96 cI.toInt.toNat (iv_96 _ (by omega))
      exact modd_go mk h pI cI aI _ _ _ hp (by omega) hc (by omega) rfl lv 7 0 0 0 S h (by decide) rfl rfl (fun _ => rfl) hn hh frm_refl hQ
    · have e5 := cn e5
      rw [Bool.not_eq_true'] at e5
      exact hQ _ h hh RST.rf (by rw [if_pos (Or.inr e5)]; exact no)
/-- need -/
theorem mnee_go {dp : Nat} (mk : MOK S Y N) (h0 : Hp) (pI oI : Int32) (p : Nat) (hp : pI.toInt = p) (p7 : p < 7) (ho : h0.2.1 98 p = oI) (o9 : 0 ≤ oI.toInt ∧ oI.toInt ≤ 9) : ∀ (n s : Nat) (fI' sI : Int32) (S' : Nat → Nat → Int) (h : Hp), s + n = 10 → sI.toInt = s → ((0 ≤ fI'.toInt ∧ fI'.toInt = zff (zNeeF S Y cs m N K p) 10 0) ∨ (fI'.toInt = -5 ∧ zff (zNeeF S Y cs m N K p) n s = zff (zNeeF S Y cs m N K p) 10 0)) → (∀ v, upS S' 4 p v = upS S 4 p v) → NMS S' Y cs m N K h → HI h → frm (WMX ++ [(98, p)]) h0 h → (∀ (r : Int32) h', HI h' → RST h0 h' → r.toInt = zff (zNeeF S Y cs m N K p) 10 0 → Q (some (.int r)) h') → Ends X (dp + 1 + 1 + 1 + 1 + 1 + 1 + 1 + 1 + 1 + 1) 168 34 [.ref 93, .int pI, .int oI, .int fI', .int sI] [] h Q
  | n, s, fI', sI, S', h, hn, hl, hf, hS, hs, hh, hfr, hQ => by
    have j10 : (10 : Int32).toInt = 10 := rfl
    have ic : inB pI 7 = true := inB_iff (by omega) (by omega)
    have en : pI.toNatClampNeg = p := by show pI.toInt.toNat = _; omega
    have gB : HI (hpI h 98 p oI) := HI_put hh (by rw [iv_98 p p7]; exact o9.1) (by rw [iv_98 p p7]; exact o9.2)
    have rB : RST h0 (hpI h 98 p oI) := RST.one (b := 98) (j := p) (by omega) (sub_98 p7) (frm_put hfr W1_in) (by rw [put_at]; exact ho.symm)
    refine w_mnee1 pI oI fI' sI hh.hs ⟨fun e => ⟨ic, ?_⟩, fun e => ⟨fun e2 => ⟨ic, ?_⟩, fun e2 => ⟨ic, ?_⟩⟩⟩
    · have e : (10 : Int32).toInt ≤ sI.toInt := of_decide_eq_true (cJ e)
      have : n = 0 := by omega
      subst this
      rw [en]
      rcases hf with c | c
      · exact hQ fI' _ gB rB c.2
      · exact hQ fI' _ gB rB (by rw [c.1, ← c.2]; rfl)
    · have e2 : (0 : Int32).toInt ≤ fI'.toInt := of_decide_eq_true (cJ e2)
      rw [z0] at e2
      rw [en]
      rcases hf with c | c
      · exact hQ fI' _ gB rB c.2
      · omega
    have e : ¬ (10 : Int32).toInt ≤ sI.toInt := of_decide_eq_false (cJ e)
    have e2 : ¬ (0 : Int32).toInt ≤ fI'.toInt := of_decide_eq_false (cJ e2)
    rw [z0] at e2
    have c := hf.resolve_left (fun z => e2 z.1)
    obtain ⟨n, rfl⟩ : ∃ k, n = k + 1 := ⟨n - 1, by omega⟩
    have n1 : (sI + 1).toInt = ((s + 1 : Nat) : Int) := by rw [i_add (by rw [i1]; omega) (by rw [i1]; omega), i1]; omega
    rw [en]
    have g2 : HI (hpI h 98 p sI) := HI_put hh (by rw [iv_98 p p7]; omega) (by rw [iv_98 p p7]; omega)
    have n2 := hs.up4 (p := p) (v := sI)
    rw [hl, hS] at n2
    have zs : zff (zNeeF S Y cs m N K p) (n + 1) s = if zNeeF S Y cs m N K p s = true then (s : Int) else zff (zNeeF S Y cs m N K p) n (s + 1) := rfl
    rw [zs] at c
    refine nmcn_ok (mk.up4 (by omega)) n2 g2 (fun r7 h6 g6 f6 n6 b7 => ⟨r7, rfl, g6.hs, has_ok r7 pI g6.hs ⟨_, rfl, g6.hs, ?_⟩⟩)
    have f : frm (WMX ++ [(98, p)]) h0 h6 := frm_trans (frm_put hfr W1_in) (W1_x f6)
    rw [bitB_s b7 hp p7]
    refine ⟨fun d => ?_, fun d => ?_⟩
    · have d : zNeeF S Y cs m N K p s = true := by
        show (!zC (upS S 4 p s) Y cs m N K p) = true
        rw [cz d]
        rfl
      rw [if_pos d] at c
      exact mnee_go mk h0 pI oI p hp p7 ho o9 n (s + 1) _ _ _ h6 (by omega) n1 (Or.inl ⟨by omega, by rw [hl]; exact c.2⟩) (fun v => upS_up) n6 g6 f hQ
    · have d : zNeeF S Y cs m N K p s = false := by
        show (!zC (upS S 4 p s) Y cs m N K p) = false
        rw [cn d]
        rfl
      rw [if_neg (by rw [d]; decide)] at c
      exact mnee_go mk h0 pI oI p hp p7 ho o9 n (s + 1) _ _ _ h6 (by omega) n1 (Or.inr ⟨rfl, c.2⟩) (fun v => upS_up) n6 g6 f hQ
theorem mnee_ok {dp : Nat} (hn : NMS S Y cs m N K h) (mk : MOK S Y N) (hh : HI h) (pI : Int32) (hQ : ∀ (r : Int32) h', HI h' → RST h h' → r.toInt = zNee S Y cs m N K pI → Q (some (.int r)) h') : Ends X (dp + 1 + 1 + 1 + 1 + 1 + 1 + 1 + 1 + 1 + 1) 168 0 [.ref 93, .int pI, .retAddr 0, .retAddr 0, .retAddr 0] [] h Q := by
  have N7 := mk.2.2.2
  unfold zNee at hQ
  refine w_mnee0 pI hh.hs (mis_ok hn hh pI ⟨_, rfl, hh.hs, fun e => ?_, fun e => ?_⟩)
  · have e := of_decide_eq_true (cn2 e)
    have hc : pI.toInt = (pI.toInt.toNat : Int) := by omega
    rw [if_neg (fun z => z e)] at hQ
    refine mrn_ok hn hh pI pI.toInt.toNat hc (by omega) (by omega) ⟨_, rfl, hh.hs, fun e3 => ⟨inB_iff (by omega) (by omega), ?_⟩, fun e3 => ?_⟩
    · have e3 := cn2 e3
      rw [Bool.not_eq_true'] at e3
      rw [if_neg (by rw [e3]; decide)] at hQ
      have lv := hh.iv 98 pI.toInt.toNat (iv_98 _ (by omega))
      exact mnee_go mk h pI _ pI.toInt.toNat hc (by omega) rfl lv 10 0 (-5) 0 S h (by decide) rfl (Or.inr ⟨rfl, rfl⟩) (fun _ => rfl) hn hh frm_refl hQ
    · have e3 := cz2 e3
      rw [Bool.not_eq_false'] at e3
      rw [if_pos e3] at hQ
      exact hQ _ h hh RST.rf rfl
  · exact hQ _ h hh RST.rf (by rw [if_pos (of_decide_eq_false (cz2 e))]; rfl)
end MCALLS
