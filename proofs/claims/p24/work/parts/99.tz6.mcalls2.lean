section JN99tz6mcalls2
/-! The reference's calls. -/
/-- the reference, as all is at a call -/
def NMS (S : Nat → Nat → Int) (Y : Int) (cs : List Cl) (m : List Int) (N : Nat) (K : Nat → Bool) (h : Hp) : Prop := MG h S Y ∧ MY h cs m ∧ TX h ∧ (h.2.1 93 0).toInt = N ∧ BSET (h.2.1 93 2) K ∧ (∀ p, p < 7 → K p = true → p < N) ∧ h.2.1 93 32 = 0 ∧ h.2.1 93 27 = 0 ∧ (h.2.1 93 28).toInt = -1 ∧ (h.2.1 93 30).toInt = -1
theorem zR_0 {N : Nat} {K : Nat → Bool} (p : Nat) : (decide (p < N) && !(K p || false)) = zR N K p := by rw [Bool.or_false]; rfl
theorem NMS.d {S : Nat → Nat → Int} {Y : Int} {cs : List Cl} {m : List Int} {N : Nat} {K : Nat → Bool} {h : Hp} (hn : NMS S Y cs m N K h) : MST S Y cs m N K (zR N K) false (-1) (h.2.1 93 29).toInt (-1) 0 h := by
  obtain ⟨a1, a2, a3, a4, a5, a6, a7, a8, a9, a10⟩ := hn
  exact ⟨a1, a2, a3, a4, a5, a6, ⟨fun _ => false, by rw [a7]; exact BSET.zero, fun p _ => zR_0 p⟩, a8, a9, rfl, a10, fun z => absurd z (by decide)⟩
theorem NMS.fr {S : Nat → Nat → Int} {Y : Int} {cs : List Cl} {m : List Int} {N : Nat} {K : Nat → Bool} {h h' : Hp} (hn : NMS S Y cs m N K h) (hf : frm WMX h h') : NMS S Y cs m N K h' := by
  obtain ⟨a1, a2, a3, a4, a5, a6, a7, a8, a9, a10⟩ := hn
  exact ⟨a1.fr hf, a2.fr hf, a3.fr hf, by rw [frI hf (a := 93) rfl]; exact a4, by rw [frI hf (a := 93) rfl]; exact a5, a6, by rw [frI hf (a := 93) rfl]; exact a7, by rw [frI hf (a := 93) rfl]; exact a8, by rw [frI hf (a := 93) rfl]; exact a9, by rw [frI hf (a := 93) rfl]; exact a10⟩
theorem zcw_n {W : Nat → Int} {fo le : Int} (h : fo < 0) : zcw W fo le = W := by
  funext x
  unfold zcw
  rw [if_neg (by omega)]
theorem mcau_z {S : Nat → Nat → Int} {Y : Int} {cs : List Cl} {m : List Int} {K R : Nat → Bool} {hd : Bool} {one tol fo le : Int} (h : fo < 0) : mcau S Y cs m K R hd one tol fo le = zcau S Y cs m K R hd one tol fo le := by
  unfold mcau zcau zW
  rw [zcw_n h]
  rfl
theorem mW_z {S : Nat → Nat → Int} {Y : Int} {cs : List Cl} {m : List Int} {K R : Nat → Bool} {hd : Bool} {tol : Int} : mW S Y cs m K R hd (-1) tol = zW S Y cs m K R hd (-1) 0 (-1) 0 := by
  unfold mW zW
  rw [zcw_n (by decide), zsnt_t (by decide)]
/-- the caught run -/
theorem zgo_el {Z : Nat → Nat → Bool} {H W SL : Nat → Int} : ∀ {l : List Int32} {b c : Nat → Bool} {x : Nat}, zgo Z H W SL l b c x = true → c x = true ∨ ∃ a ∈ l, x = a.toInt.toNat
  | [], b, c, x, h => Or.inl h
  | a :: l, b, c, x, h => by
    unfold zgo at h
    split at h
    · rcases zgo_el h with q | ⟨y, y1, y2⟩
      · rw [Bool.or_eq_true] at q
        rcases q with q | q
        · exact Or.inl q
        · exact Or.inr ⟨a, List.mem_cons_self .., of_decide_eq_true q⟩
      · exact Or.inr ⟨y, List.mem_cons_of_mem _ y1, y2⟩
    · rcases zgo_el h with q | ⟨y, y1, y2⟩
      · exact Or.inl q
      · exact Or.inr ⟨y, List.mem_cons_of_mem _ y1, y2⟩
theorem zC_R {S : Nat → Nat → Int} {Y : Int} {cs : List Cl} {m : List Int} {N : Nat} {K : Nat → Bool} (hN7 : N ≤ 7) {x : Nat} (h : zC S Y cs m N K x = true) : x < N := by
  unfold zC zcau at h
  rcases zgo_el h with q | ⟨a, a1, a2⟩
  · cases q
  · obtain ⟨j, hj, e⟩ := List.getElem_of_mem a1
    obtain ⟨y, y1, y2, y3⟩ := zord_el (H := zhst S) (R := zR N K) (fo := -1) (le := 0) hN7 (Or.inl rfl) j hj
    rw [List.getD_eq_getElem?_getD, List.getElem?_eq_getElem hj] at y2
    simp only [Option.getD_some, e] at y2
    unfold zR at y3
    rw [Bool.and_eq_true] at y3
    have := of_decide_eq_true y3.1
    omega
theorem popN_t : ∀ n, n < 128 → popN n = pop n.testBit := by decide +kernel
theorem bitv_t : ∀ n, n < 128 → ∀ p, p < 7 → ((Int32.ofNat n >>> (Int32.ofNat p &&& 31)) &&& 1) = b2i (n.testBit p) := by decide +kernel
theorem BSET.bitv {b p : Int32} {f : Nat → Bool} {pn : Nat} (hb : BSET b f) (hp : p.toInt = pn) (h7 : pn < 7) : ((b >>> (p &&& 31)) &&& 1) = b2i (f pn) := by
  have e := ofn hp
  subst e
  obtain ⟨n, hn, rfl, hf⟩ := hb
  rw [bitv_t n hn pn h7, hf pn h7]
/-- what a call of the reference may write on its way -/
def WMV : List (Nat × Nat) := [(109, 999), (110, 999), (93, 34), (93, 35), (96, 999), (98, 999), (93, 1), (93, 2), (93, 27), (93, 28), (93, 29), (93, 30), (93, 31), (93, 32), (93, 36), (93, 37), (111, 999), (112, 999), (113, 999)]
/-- what stands again in the end -/
def SUPR : List (Nat × Nat) := [(96, 999), (98, 999), (93, 1), (93, 2), (93, 27), (93, 28), (93, 30)]
def RST (h h' : Hp) : Prop := frm WMV h h' ∧ ∀ a k, inW SUPR a k = true → h'.2.1 a k = h.2.1 a k
theorem RST.rf {h : Hp} : RST h h := ⟨frm_refl, fun _ _ _ => rfl⟩
theorem RST.x {h h' : Hp} (hf : frm WMX h h') : RST h h' := ⟨frm_sub (V := WMX) (by decide) hf, fun a k hs => frI hf (dis_in (SUP := SUPR) (by decide) hs)⟩
/-- one cell was another on the way -/
theorem RST.one {h h' : Hp} {b j : Nat} (hj : j < 900) (hb : subW [(b, j)] WMV = true) (hf : frm (WMX ++ [(b, j)]) h h') (he : h'.2.1 b j = h.2.1 b j) : RST h h' := by
  refine ⟨fun a k hk => hf a k ?_, fun a k hs => ?_⟩
  · have s : subW (WMX ++ [(b, j)]) WMV = true := by
      unfold subW at hb ⊢
      rw [List.all_append, hb, Bool.and_true]
      decide
    exact subW_ok s hk
  · by_cases c : a = b ∧ k = j
    · rw [c.1, c.2]; exact he
    · refine frI hf ?_
      have d := dis_in (SUP := SUPR) (W := WMX) (by decide) hs
      unfold inW at d ⊢
      rw [List.any_append, d]
      simp only [List.any_cons, List.any_nil, Bool.or_false, Bool.false_or, Bool.and_eq_false_iff, Bool.or_eq_false_iff, beq_eq_false_iff_ne]
      by_cases ab : a = b
      · right
        exact ⟨fun z => c ⟨ab, z.symm⟩, by omega⟩
      · left
        exact fun z => ab z.symm
theorem W1_in {b j : Nat} : inW (WMX ++ [(b, j)]) b j = true := by
  unfold inW
  rw [List.any_append]
  simp
theorem W1_x {b j : Nat} {h h' : Hp} (hf : frm WMX h h') : frm (WMX ++ [(b, j)]) h h' := fun a k hk => hf a k (by
  unfold inW at hk ⊢
  rw [List.any_append, Bool.or_eq_false_iff] at hk
  exact hk.1)
theorem W1_n {b j a k : Nat} (h1 : inW WMX a k = false) (h2 : ¬ (b = a ∧ (j = k ∨ j = 999))) : inW (WMX ++ [(b, j)]) a k = false := by
  unfold inW at h1 ⊢
  rw [List.any_append, h1]
  simp only [List.any_cons, List.any_nil, Bool.or_false, Bool.false_or, Bool.and_eq_false_iff, Bool.or_eq_false_iff, beq_eq_false_iff_ne]
  by_cases ab : b = a
  · right
    exact ⟨fun z => h2 ⟨ab, Or.inl z⟩, fun z => h2 ⟨ab, Or.inr z⟩⟩
  · exact Or.inl ab
section MCALLS
variable {X : Scr} {Q : Option Value → Hp → Prop} {S : Nat → Nat → Int} {Y : Int} {cs : List Cl} {m : List Int} {N : Nat} {K : Nat → Bool} {h : Hp}
theorem onesb_ok {dp : Nat} (hs : HS h) {aI : Int32} {f : Nat → Bool} (hb : BSET aI f) (hQ : ∀ r : Int32, r.toInt = (pop f : Int) → Q (some (.int r)) h) : Ends X dp 111 0 [.ref 93, .int aI, .retAddr 0, .retAddr 0] [] h Q := by
  have rg := hb.rng
  obtain ⟨n, hn, rfl, hf⟩ := hb
  refine ones_ok _ hs rg.1 rg.2 (fun r hr => hQ r ?_)
  rw [hr, i32n hn, Int.toNat_natCast, popN_t n hn, pop_cg hf]
theorem nmcn_ok {dp : Nat} (mk : MOK S Y N) (hn : NMS S Y cs m N K h) (hh : HI h) (hQ : ∀ (r : Int32) h', HI h' → frm WMX h h' → NMS S Y cs m N K h' → BSET r (zC S Y cs m N K) → Q (some (.int r)) h') : Ends X (dp + 1 + 1 + 1 + 1 + 1 + 1 + 1 + 1 + 1) 157 0 [.ref 93, .retAddr 0, .retAddr 0, .retAddr 0, .retAddr 0, .retAddr 0] [] h Q := by
  refine mcn_ok mk hn.d (Or.inl rfl) hh (fun r h' g f hr _ => hQ r h' g f (hn.fr f) ?_)
  rw [mcau_z (by decide), zcau_t (t' := 0) (by decide)] at hr
  exact hr
theorem mis_ok {dp : Nat} (hn : NMS S Y cs m N K h) (hh : HI h) (pI : Int32) (hQ : Q (some (.int (b2i (decide (isP N pI))))) h) : Ends X (dp + 1) 112 0 [.ref 93, .int pI] [] h Q := by
  refine person_ok pI hh ?_
  rw [hn.2.2.2.1, ← Bool.decide_and]
  exact hQ
theorem mrn_ok {dp : Nat} (hn : NMS S Y cs m N K h) (hh : HI h) (pI : Int32) (p : Nat) (hp : pI.toInt = p) (h7 : p < 7) (hN : p < N) (hQ : Q (some (.int (b2i (!K p)))) h) : Ends X (dp + 1) 139 0 [.ref 93, .int pI] [] h Q := by
  refine mrun_ok hn.d hh pI p hp h7 hN ?_
  unfold zR
  rw [decide_eq_true hN, Bool.true_and]
  exact hQ
theorem in01_ok {dp : Nat} (hs : HS h) (wI : Int32) (hQ : Q (some (.int (b2i (decide (is01 wI))))) h) : Ends X dp 109 0 [.ref 93, .int wI, .int 0, .int 1] [] h Q := by
  refine in_ok wI 0 1 hs ?_
  rw [← Bool.decide_and]
  exact hQ
theorem NMS.up2 {p : Nat} {v : Int32} (hn : NMS S Y cs m N K h) : NMS (upS S 2 p v.toInt) Y cs m N K (hpI h 96 p v) := by
  obtain ⟨a1, a2, a3, a4, a5, a6, a7, a8, a9, a10⟩ := hn
  refine ⟨a1.up2, ?_, ?_, by rw [put_ne (by omega)]; exact a4, by rw [put_ne (by omega)]; exact a5, a6, by rw [put_ne (by omega)]; exact a7, by rw [put_ne (by omega)]; exact a8, by rw [put_ne (by omega)]; exact a9, by rw [put_ne (by omega)]; exact a10⟩
  · refine ⟨a2.1, ?_⟩
    rw [put_ne (by omega)]
    rcases a2.2 with c | ⟨g, g1, g2, y1, y2, y3⟩
    · exact Or.inl c
    · refine Or.inr ⟨g, g1, g2, by rw [put_ne (by omega)]; exact y1, fun c hc => ?_, fun j hj => by rw [put_ne (by omega)]; exact y3 j hj⟩
      rw [put_ne (by omega), put_ne (by omega), put_ne (by omega), put_ne (by omega)]
      exact y2 c hc
  · exact TX_fr (fun a k hs => put_ne (by
      simp only [inW, SUP1, List.any_cons, List.any_nil, Bool.or_false, Bool.or_eq_true, Bool.and_eq_true, beq_iff_eq] at hs
      omega)) a3
theorem NMS.up4 {p : Nat} {v : Int32} (hn : NMS S Y cs m N K h) : NMS (upS S 4 p v.toInt) Y cs m N K (hpI h 98 p v) := by
  obtain ⟨a1, a2, a3, a4, a5, a6, a7, a8, a9, a10⟩ := hn
  refine ⟨a1.up4, ?_, ?_, by rw [put_ne (by omega)]; exact a4, by rw [put_ne (by omega)]; exact a5, a6, by rw [put_ne (by omega)]; exact a7, by rw [put_ne (by omega)]; exact a8, by rw [put_ne (by omega)]; exact a9, by rw [put_ne (by omega)]; exact a10⟩
  · refine ⟨a2.1, ?_⟩
    rw [put_ne (by omega)]
    rcases a2.2 with c | ⟨g, g1, g2, y1, y2, y3⟩
    · exact Or.inl c
    · refine Or.inr ⟨g, g1, g2, by rw [put_ne (by omega)]; exact y1, fun c hc => ?_, fun j hj => by rw [put_ne (by omega)]; exact y3 j hj⟩
      rw [put_ne (by omega), put_ne (by omega), put_ne (by omega), put_ne (by omega)]
      exact y2 c hc
  · exact TX_fr (fun a k hs => put_ne (by
      simp only [inW, SUP1, List.any_cons, List.any_nil, Bool.or_false, Bool.or_eq_true, Bool.and_eq_true, beq_iff_eq] at hs
      omega)) a3
/-- cells of the reference's own -/
theorem MG.p93 {k : Nat} {v : Int32} {h : Hp} {S : Nat → Nat → Int} {Y : Int} (hg : MG h S Y) (hk : k ≠ 1) : MG (hpI h 93 k v) S Y := by
  obtain ⟨g1, g2, g3⟩ := hg
  refine ⟨fun x hx => ?_, fun i hi => by rw [put_ne (by omega)]; exact g2 i hi, by rw [put_ne (by omega)]; exact g3⟩
  rw [put_ne (by omega), put_ne (by omega), put_ne (by omega), put_ne (by omega), put_ne (by omega)]
  exact g1 x hx
theorem MY.p93 {k : Nat} {v : Int32} (hy : MY h cs m) (hk : k ≠ 10) : MY (hpI h 93 k v) cs m := by
  refine ⟨hy.1, ?_⟩
  rw [put_ne (by omega)]
  rcases hy.2 with c | ⟨g, g1, g2, y1, y2, y3⟩
  · exact Or.inl c
  · refine Or.inr ⟨g, g1, g2, by rw [put_ne (by omega)]; exact y1, fun c hc => ?_, fun j hj => by rw [put_ne (by omega)]; exact y3 j hj⟩
    rw [put_ne (by omega), put_ne (by omega), put_ne (by omega), put_ne (by omega)]
    exact y2 c hc
theorem TX.p93 {k : Nat} {v : Int32} (ht : TX h) (hk : k ≠ 9 ∧ k ≠ 10 ∧ k ≠ 45 ∧ k ≠ 30) : TX (hpI h 93 k v) := TX_fr (fun a j hs => put_ne (by
  simp only [inW, SUP1, List.any_cons, List.any_nil, Bool.or_false, Bool.or_eq_true, Bool.and_eq_true, beq_iff_eq] at hs
  omega)) ht
theorem TX.p9330 {v : Int32} (ht : TX h) : TX (hpI h 93 30 v) := by
  obtain ⟨t1, t2, t3⟩ := ht
  refine ⟨by rw [put_ne (by omega), put_ne (by omega)]; exact t1, by rw [put_ne (by omega), put_ne (by omega)]; exact t2, fun f c hf hc => ?_⟩
  rw [put_ne (by omega)] at hf hc
  obtain ⟨⟨a, mm, k1, k2, k3, k4, k5⟩, k6⟩ := t3 f c hf hc
  refine ⟨⟨a, mm, by rw [put_ne (by omega)]; exact k1, by rw [put_ne (by omega)]; exact k2, k3, k4, ?_⟩, by rw [put_ne (by omega)]; exact k6⟩
  have : (hpI h 93 30 v).2.1 106 = h.2.1 106 := by funext j; exact put_ne (by omega)
  rw [this]
  exact k5
theorem iv_96 : ∀ k, k < 7 → ivl 96 k = (0, 6) := by
  have : ((List.range 7).all (fun k => decide (ivl 96 k = (0, 6)))) = true := by decide +kernel
  exact fun k hk => of_decide_eq_true (List.all_eq_true.mp this k (List.mem_range.mpr hk))
theorem iv_98 : ∀ k, k < 7 → ivl 98 k = (0, 9) := by
  have : ((List.range 7).all (fun k => decide (ivl 98 k = (0, 9)))) = true := by decide +kernel
  exact fun k hk => of_decide_eq_true (List.all_eq_true.mp this k (List.mem_range.mpr hk))
theorem sub_96 {c : Nat} (c7 : c < 7) : subW [(96, c)] WMV = true := by
  have : ∀ c, c < 7 → subW [(96, c)] WMV = true := by decide
  exact this c c7
theorem sub_98 {c : Nat} (c7 : c < 7) : subW [(98, c)] WMV = true := by
  have : ∀ c, c < 7 → subW [(98, c)] WMV = true := by decide
  exact this c c7
theorem mtold_ok {dp : Nat} (hn : NMS S Y cs m N K h) (hN7 : N ≤ 7) (hh : HI h) (wI : Int32) (hQ : ∀ r : Int32, r.toInt = zTold Y N K wI.toInt → Q (some (.int r)) h) : Ends X (dp + 1 + 1) 150 0 [.ref 93, .int wI] [] h Q := by
  unfold zTold at hQ
  have j2 : (2 : Int32).toInt = 2 := rfl
  refine w_mtold wI hh.hs ⟨fun e => ⟨fun e2 => ⟨fun e3 => ?_, fun e3 => ?_⟩, fun e2 => ?_⟩, fun e => ?_⟩
  · have e : ¬ wI.toInt = (0 : Int32).toInt := of_decide_eq_true (cJ e)
    have e2 : ¬ wI.toInt = (1 : Int32).toInt := of_decide_eq_true (cJ e2)
    have e3 : ¬ wI.toInt = (2 : Int32).toInt := of_decide_eq_true (cJ e3)
    rw [z0] at e; rw [i1] at e2
    exact hQ _ (by rw [if_neg (by omega), if_neg (by omega), if_neg (by omega)]; rfl)
  · have e : ¬ wI.toInt = (0 : Int32).toInt := of_decide_eq_true (cJ e)
    have e2 : ¬ wI.toInt = (1 : Int32).toInt := of_decide_eq_true (cJ e2)
    have e3 : ¬ ¬ wI.toInt = (2 : Int32).toInt := of_decide_eq_false (cJ e3)
    rw [z0] at e; rw [i1] at e2
    exact hQ _ (by rw [if_neg (by omega), if_neg (by omega), if_pos (by omega)]; exact hn.2.2.2.2.1.val)
  · have e : ¬ wI.toInt = (0 : Int32).toInt := of_decide_eq_true (cJ e)
    have e2 : ¬ ¬ wI.toInt = (1 : Int32).toInt := of_decide_eq_false (cJ e2)
    rw [z0] at e; rw [i1] at e2
    exact w_allSet hh.hs ⟨_, rfl, hh.hs, hQ _ (by rw [if_neg (by omega), if_pos (by omega)]; exact ((BSET.every hn.2.2.2.1 hN7).no hn.2.2.2.2.1).val)⟩
  · have e : ¬ ¬ wI.toInt = (0 : Int32).toInt := of_decide_eq_false (cJ e)
    rw [z0] at e
    exact hQ _ (by rw [if_pos (by omega)]; exact hn.1.2.2)
/-- stand -/
theorem msta_go {dp : Nat} (mk : MOK S Y N) (h0 : Hp) (cI wI oI : Int32) (c : Nat) (hc : cI.toInt = c) (c7 : c < 7) (ho : h0.2.1 96 c = oI) (o6 : 0 ≤ oI.toInt ∧ oI.toInt ≤ 6) : ∀ (n l : Nat) (fI' mI lI : Int32) (x : Value) (S' : Nat → Nat → Int) (h : Hp), l + n = 7 → lI.toInt = l → fI'.toInt = (zmx (zStaC S Y cs m N K c) l).1 → mI.toInt = (zmx (zStaC S Y cs m N K c) l).2 → (∀ v, upS S' 2 c v = upS S 2 c v) → NMS S' Y cs m N K h → HI h → frm (WMX ++ [(96, c)]) h0 h → (∀ (r : Int32) h', HI h' → RST h0 h' → r.toInt = (if wI.toInt = 0 then ((zmx (zStaC S Y cs m N K c) 7).1 : Int) else (zmx (zStaC S Y cs m N K c) 7).2) → Q (some (.int r)) h') → Ends X (dp + 1 + 1 + 1 + 1 + 1 + 1 + 1 + 1 + 1 + 1) 166 47 [.ref 93, .int cI, .int wI, .int oI, .int fI', .int mI, .int lI, x] [] h Q
  | n, l, fI', mI, lI, x, S', h, hn, hl, hf, hm, hS, hs, hh, hfr, hQ => by
    have j7 : (7 : Int32).toInt = 7 := rfl
    have ic : inB cI 7 = true := inB_iff (by omega) (by omega)
    have en : cI.toNatClampNeg = c := by show cI.toInt.toNat = _; omega
    have gB : HI (hpI h 96 c oI) := HI_put hh (by rw [iv_96 c c7]; exact o6.1) (by rw [iv_96 c c7]; exact o6.2)
    have rB : RST h0 (hpI h 96 c oI) := RST.one (b := 96) (j := c) (by omega) (sub_96 c7) (frm_put hfr W1_in) (by rw [put_at]; exact ho.symm)
    refine w_msta1 cI wI oI fI' mI lI x hh.hs ⟨fun e => ⟨ic, ?_⟩, fun e => ⟨ic, ?_⟩⟩
    · have e : (7 : Int32).toInt ≤ lI.toInt := of_decide_eq_true (cJ e)
      have : l = 7 := by omega
      subst this
      rw [en]
      refine ⟨fun d => ?_, fun d => ?_⟩
      · have d : ¬ wI.toInt = (0 : Int32).toInt := of_decide_eq_true (cJ d)
        rw [z0] at d
        exact hQ mI _ gB rB (by rw [if_neg d]; exact hm)
      · have d : ¬ ¬ wI.toInt = (0 : Int32).toInt := of_decide_eq_false (cJ d)
        rw [z0] at d
        exact hQ fI' _ gB rB (by rw [if_pos (Decidable.not_not.mp d)]; exact hf)
    have e : ¬ (7 : Int32).toInt ≤ lI.toInt := of_decide_eq_false (cJ e)
    obtain ⟨n, rfl⟩ : ∃ k, n = k + 1 := ⟨n - 1, by omega⟩
    have n1 : (lI + 1).toInt = ((l + 1 : Nat) : Int) := by rw [i_add (by rw [i1]; omega) (by rw [i1]; omega), i1]; omega
    rw [en]
    have g2 : HI (hpI h 96 c lI) := HI_put hh (by rw [iv_96 c c7]; omega) (by rw [iv_96 c c7]; omega)
    have n2 := hs.up2 (p := c) (v := lI)
    rw [hl, hS] at n2
    refine nmcn_ok (mk.up2 (by omega)) n2 g2 (fun r6 h5 g5 f5 n5 b6 => ⟨r6, rfl, g5.hs, onesb_ok g5.hs b6 (fun r9 h9 => ⟨r9, rfl, g5.hs, ?_⟩)⟩)
    have h9 : r9.toInt = (zStaC S Y cs m N K c l : Int) := h9
    have f : frm (WMX ++ [(96, c)]) h0 h5 := frm_trans (frm_put hfr W1_in) (W1_x f5)
    refine ⟨fun d => ?_, fun d => ?_⟩
    · have d : mI.toInt < r9.toInt := of_decide_eq_true (cJ d)
      have st : zmx (zStaC S Y cs m N K c) (l + 1) = (l, (zStaC S Y cs m N K c l : Int)) := if_pos (by omega)
      exact msta_go mk h0 cI wI oI c hc c7 ho o6 n (l + 1) _ _ _ _ _ h5 (by omega) n1 (by rw [st]; exact hl) (by rw [st]; exact h9) (fun v => upS_up) n5 g5 f hQ
    · have d : ¬ mI.toInt < r9.toInt := of_decide_eq_false (cJ d)
      have st : zmx (zStaC S Y cs m N K c) (l + 1) = zmx (zStaC S Y cs m N K c) l := if_neg (by omega)
      exact msta_go mk h0 cI wI oI c hc c7 ho o6 n (l + 1) _ _ _ _ _ h5 (by omega) n1 (by rw [st]; exact hf) (by rw [st]; exact hm) (fun v => upS_up) n5 g5 f hQ
theorem msta_ok {dp : Nat} (hn : NMS S Y cs m N K h) (mk : MOK S Y N) (hh : HI h) (cI wI : Int32) (hQ : ∀ (r : Int32) h', HI h' → RST h h' → r.toInt = zSta S Y cs m N K cI wI → Q (some (.int r)) h') : Ends X (dp + 1 + 1 + 1 + 1 + 1 + 1 + 1 + 1 + 1 + 1) 166 0 [.ref 93, .int cI, .int wI, .retAddr 0, .retAddr 0, .retAddr 0, .retAddr 0, .retAddr 0] [] h Q := by
  have N7 := mk.2.2.2
  unfold zSta at hQ
  refine w_msta0 cI wI hh.hs (mis_ok hn hh cI ⟨_, rfl, hh.hs, fun e => ?_, fun e => in01_ok hh.hs wI ⟨_, rfl, hh.hs, fun e2 => ?_, fun e2 => ?_⟩⟩)
  · exact hQ _ h hh RST.rf (by rw [if_pos (of_decide_eq_false (cz e))]; rfl)
  · have e := of_decide_eq_true (cn e)
    have e2 := of_decide_eq_true (cn2 e2)
    have hc : cI.toInt = (cI.toInt.toNat : Int) := by omega
    rw [if_neg (fun z => z e), if_neg (fun z => z e2)] at hQ
    refine mrn_ok hn hh cI cI.toInt.toNat hc (by omega) (by omega) ⟨_, rfl, hh.hs, fun e3 => ⟨inB_iff (by omega) (by omega), ?_⟩, fun e3 => ?_⟩
    · have e3 := cz e3
      rw [Bool.not_eq_false'] at e3
      rw [if_neg (by rw [e3]; decide)] at hQ
      have lv := hh.iv 96 cI.toInt.toNat (iv_96 _ (by omega))
      exact msta_go mk h cI wI _ cI.toInt.toNat hc (by omega) rfl lv 7 0 0 (-1) 0 _ S h (by decide) rfl rfl rfl (fun _ => rfl) hn hh frm_refl hQ
    · have e3 := cn e3
      rw [Bool.not_eq_true'] at e3
      rw [if_pos e3] at hQ
      exact hQ _ h hh RST.rf rfl
  · have e := of_decide_eq_true (cn e)
    have e2 := of_decide_eq_false (cz2 e2)
    exact hQ _ h hh RST.rf (by rw [if_neg (fun z => z e), if_pos e2]; rfl)
/-- moved -/
theorem mmov_go {dp : Nat} (mk : MOK S Y N) (h0 : Hp) (sn : Int) (cI oI : Int32) (c : Nat) (hc : cI.toInt = c) (c7 : c < 7) (ho : h0.2.1 96 c = oI) (o6 : 0 ≤ oI.toInt ∧ oI.toInt ≤ 6) (h9 : (h0.2.1 93 41).toInt = sn) : ∀ (n l : Nat) (sI lI : Int32) (S' : Nat → Nat → Int) (h : Hp), l + n = 7 → lI.toInt = l → BSET sI (zset (zMovF S Y cs m N K sn c) l) → (∀ v, upS S' 2 c v = upS S 2 c v) → NMS S' Y cs m N K h → HI h → frm (WMX ++ [(96, c)]) h0 h → (∀ (r : Int32) h', HI h' → RST h0 h' → BSET r (zset (zMovF S Y cs m N K sn c) 7) → Q (some (.int r)) h') → Ends X (dp + 1 + 1 + 1 + 1 + 1 + 1 + 1 + 1 + 1 + 1) 176 33 [.ref 93, .int cI, .int oI, .int sI, .int lI] [] h Q
  | n, l, sI, lI, S', h, hn, hl, hb, hS, hs, hh, hfr, hQ => by
    have j7 : (7 : Int32).toInt = 7 := rfl
    have ic : inB cI 7 = true := inB_iff (by omega) (by omega)
    have en : cI.toNatClampNeg = c := by show cI.toInt.toNat = _; omega
    have gB : HI (hpI h 96 c oI) := HI_put hh (by rw [iv_96 c c7]; exact o6.1) (by rw [iv_96 c c7]; exact o6.2)
    have rB : RST h0 (hpI h 96 c oI) := RST.one (b := 96) (j := c) (by omega) (sub_96 c7) (frm_put hfr W1_in) (by rw [put_at]; exact ho.symm)
    refine w_mmov1 cI oI sI lI hh.hs ⟨fun e => ⟨ic, ?_⟩, fun e => ⟨ic, ?_⟩⟩
    · have e : (7 : Int32).toInt ≤ lI.toInt := of_decide_eq_true (cJ e)
      have : l = 7 := by omega
      subst this
      rw [en]
      exact hQ sI _ gB rB hb
    have e : ¬ (7 : Int32).toInt ≤ lI.toInt := of_decide_eq_false (cJ e)
    obtain ⟨n, rfl⟩ : ∃ k, n = k + 1 := ⟨n - 1, by omega⟩
    have n1 : (lI + 1).toInt = ((l + 1 : Nat) : Int) := by rw [i_add (by rw [i1]; omega) (by rw [i1]; omega), i1]; omega
    rw [en]
    have g2 : HI (hpI h 96 c lI) := HI_put hh (by rw [iv_96 c c7]; omega) (by rw [iv_96 c c7]; omega)
    have n2 := hs.up2 (p := c) (v := lI)
    rw [hl, hS] at n2
    refine nmcn_ok (mk.up2 (by omega)) n2 g2 (fun r5 h4 g4 f4 n4 b5 => ⟨r5, rfl, g4.hs, ?_⟩)
    have f : frm (WMX ++ [(96, c)]) h0 h4 := frm_trans (frm_put hfr W1_in) (W1_x f4)
    have e41 : h4.2.1 93 41 = h0.2.1 93 41 := frI f (W1_n rfl (by omega))
    rw [e41]
    have st := zset_S hb hl (by omega)
    have bv : r5.toInt = zint (zLan S Y cs m N K c l) := b5.val
    have go := fun sI' hs' => mmov_go (dp := dp) mk h0 sn cI oI c hc c7 ho o6 h9 n (l + 1) sI' (lI + 1) _ h4 (by omega) n1 hs' (fun v => upS_up) n4 g4 f hQ
    refine ⟨fun d => go _ (bor0 (st.2 ?_)), fun d => go _ (st.1 ?_)⟩
    · have d : ¬ r5.toInt = (h0.2.1 93 41).toInt := of_decide_eq_true (cJ d)
      exact decide_eq_false (by omega)
    · have d : ¬ ¬ r5.toInt = (h0.2.1 93 41).toInt := of_decide_eq_false (cJ d)
      exact decide_eq_true (by omega)
theorem mmov_ok {dp : Nat} (hn : NMS S Y cs m N K h) (mk : MOK S Y N) (hh : HI h) (cI : Int32) (hQ : ∀ (r : Int32) h', HI h' → RST h h' → r.toInt = zMov S Y cs m N K (h.2.1 93 41).toInt cI → Q (some (.int r)) h') : Ends X (dp + 1 + 1 + 1 + 1 + 1 + 1 + 1 + 1 + 1 + 1) 176 0 [.ref 93, .int cI, .retAddr 0, .retAddr 0, .retAddr 0] [] h Q := by
  have N7 := mk.2.2.2
  unfold zMov at hQ
  refine w_mmov0 cI hh.hs (mis_ok hn hh cI ⟨_, rfl, hh.hs, fun e => ?_, fun e => ?_⟩)
  · have e := of_decide_eq_true (cn2 e)
    have hc : cI.toInt = (cI.toInt.toNat : Int) := by omega
    rw [if_neg (fun z => z e)] at hQ
    refine mrn_ok hn hh cI cI.toInt.toNat hc (by omega) (by omega) ⟨_, rfl, hh.hs, fun e3 => ⟨inB_iff (by omega) (by omega), ?_⟩, fun e3 => ?_⟩
    · have e3 := cz e3
      rw [Bool.not_eq_false'] at e3
      rw [if_neg (by rw [e3]; decide)] at hQ
      have lv := hh.iv 96 cI.toInt.toNat (iv_96 _ (by omega))
      exact mmov_go mk h _ cI _ cI.toInt.toNat hc (by omega) rfl lv rfl 7 0 0 0 S h (by decide) rfl BSET.zero (fun _ => rfl) hn hh frm_refl (fun r h' d1 d2 d3 => hQ r h' d1 d2 d3.val)
    · have e3 := cn e3
      rw [Bool.not_eq_true'] at e3
      rw [if_pos e3] at hQ
      exact hQ _ h hh RST.rf rfl
  · exact hQ _ h hh RST.rf (by rw [if_pos (of_decide_eq_false (cz2 e))]; rfl)
theorem mlow_ok {dp : Nat} (hs : HS h) (aI bI pI : Int32) (a b : Nat) (hA : aI.toInt = a) (hB : bI.toInt = b) (hb0 : 0 < b) (hb : b ≤ 30) (ha : a ≤ 1000) (hQ : ∀ r : Int64, r.toInt = zLow a b pI.toInt → Q (some (.long r)) h) : Ends X (dp + 1) 178 0 [.ref 93, .int aI, .int bI, .int pI, .retAddr 0] [] h Q := by
  refine w_mlow aI bI pI hs (dv_ok aI bI hs (by omega) (by omega) (fun r2 h2 => ⟨r2, rfl, hs, ?_⟩))
  have gp := Nat.gcd_pos_of_pos_right a hb0
  have e2 : r2.toInt = (Nat.gcd a b : Int) := by rw [h2, hA, hB]; rfl
  have r0 : ¬ r2 = 0 := fun z => by rw [z, z0] at e2; omega
  unfold zLow at hQ
  have ea : Int.toNat (a : Int) = a := rfl
  have eb : Int.toNat (b : Int) = b := rfl
  rw [ea, eb] at hQ
  refine ⟨fun c => ⟨r0, hQ _ ?_⟩, fun c => ⟨r0, hQ _ ?_⟩⟩
  · have c : ¬ pI.toInt = (0 : Int32).toInt := of_decide_eq_true (cJ c)
    rw [z0] at c
    rw [Int32.toInt_toInt64, if_neg c, i_dv (by omega) (by omega), hB, e2]
  · have c : ¬ ¬ pI.toInt = (0 : Int32).toInt := of_decide_eq_false (cJ c)
    rw [z0] at c
    rw [Int32.toInt_toInt64, if_pos (Decidable.not_not.mp c), i_dv (by omega) (by omega), hA, e2]
/-- odds -/
theorem modd_go {dp : Nat} (mk : MOK S Y N) (h0 : Hp) (pI cI aI oI : Int32) (p c : Nat) (hp : pI.toInt = p) (p7 : p < 7) (hc : cI.toInt = c) (c7 : c < 7) (ho : h0.2.1 96 c = oI) (o6 : 0 ≤ oI.toInt ∧ oI.toInt ≤ 6) : ∀ (n l : Nat) (nI lI : Int32) (S' : Nat → Nat → Int) (h : Hp), l + n = 7 → lI.toInt = l → nI.toInt = zct (zOddF S Y cs m N K p c) l → (∀ v, upS S' 2 c v = upS S 2 c v) → NMS S' Y cs m N K h → HI h → frm (WMX ++ [(96, c)]) h0 h → (∀ (r : Int64) h', HI h' → RST h0 h' → r.toInt = zLow (zct (zOddF S Y cs m N K p c) 7) 7 aI.toInt → Q (some (.long r)) h') → Ends X (dp + 1 + 1 + 1 + 1 + 1 + 1 + 1 + 1 + 1 + 1) 179 60 [.ref 93, .int pI, .int cI, .int aI, .int oI, .int nI, .int lI] [] h Q
  | n, l, nI, lI, S', h, hn, hl, hv, hS, hs, hh, hfr, hQ => by
    have j7 : (7 : Int32).toInt = 7 := rfl
    have ic : inB cI 7 = true := inB_iff (by omega) (by omega)
    have en : cI.toNatClampNeg = c := by show cI.toInt.toNat = _; omega
    have gB : HI (hpI h 96 c oI) := HI_put hh (by rw [iv_96 c c7]; exact o6.1) (by rw [iv_96 c c7]; exact o6.2)
    have rB : RST h0 (hpI h 96 c oI) := RST.one (b := 96) (j := c) (by omega) (sub_96 c7) (frm_put hfr W1_in) (by rw [put_at]; exact ho.symm)
    have zl := zct_le (zOddF S Y cs m N K p c) l
    refine w_modd1 pI cI aI oI nI lI hh.hs ⟨fun e => ⟨ic, ?_⟩, fun e => ⟨ic, ?_⟩⟩
    · have e : (7 : Int32).toInt ≤ lI.toInt := of_decide_eq_true (cJ e)
      have : l = 7 := by omega
      subst this
      rw [en]
      exact mlow_ok gB.hs nI 7 aI _ 7 hv rfl (by decide) (by decide) (by omega) (fun r hr => ⟨r, rfl, gB.hs, hQ r _ gB rB hr⟩)
    have e : ¬ (7 : Int32).toInt ≤ lI.toInt := of_decide_eq_false (cJ e)
    obtain ⟨n, rfl⟩ : ∃ k, n = k + 1 := ⟨n - 1, by omega⟩
    have n1 : (lI + 1).toInt = ((l + 1 : Nat) : Int) := by rw [i_add (by rw [i1]; omega) (by rw [i1]; omega), i1]; omega
    rw [en]
    have g2 : HI (hpI h 96 c lI) := HI_put hh (by rw [iv_96 c c7]; omega) (by rw [iv_96 c c7]; omega)
    have n2 := hs.up2 (p := c) (v := lI)
    rw [hl, hS] at n2
    have pS : zct (zOddF S Y cs m N K p c) (l + 1) = zct (zOddF S Y cs m N K p c) l + (zOddF S Y cs m N K p c l).toNat := rfl
    refine nmcn_ok (mk.up2 (by omega)) n2 g2 (fun r8 h7 g7 f7 n7 b8 => ⟨r8, rfl, g7.hs, has_ok r8 pI g7.hs ⟨_, rfl, g7.hs, ?_⟩⟩)
    have f : frm (WMX ++ [(96, c)]) h0 h7 := frm_trans (frm_put hfr W1_in) (W1_x f7)
    rw [bitB_s b8 hp p7]
    refine ⟨fun d => ?_, fun d => ?_⟩
    · have d : zOddF S Y cs m N K p c l = false := cz d
      refine modd_go mk h0 pI cI aI oI p c hp p7 hc c7 ho o6 n (l + 1) _ _ _ h7 (by omega) n1 ?_ (fun v => upS_up) n7 g7 f hQ
      rw [pS, d, i_add (by rw [z0]; omega) (by rw [z0]; omega), z0, hv]
      rfl
    · have d : zOddF S Y cs m N K p c l = true := cn d
      refine modd_go mk h0 pI cI aI oI p c hp p7 hc c7 ho o6 n (l + 1) _ _ _ h7 (by omega) n1 ?_ (fun v => upS_up) n7 g7 f hQ
      rw [pS, d, i_add (by rw [i1]; omega) (by rw [i1]; omega), i1, hv]
      rfl
theorem modd_ok {dp : Nat} (hn : NMS S Y cs m N K h) (mk : MOK S Y N) (hh : HI h) (pI cI aI : Int32) (hQ : ∀ (r : Int64) h', HI h' → RST h h' → r.toInt = zOdd S Y cs m N K pI cI aI → Q (some (.long r)) h') : Ends X (dp + 1 + 1 + 1 + 1 + 1 + 1 + 1 + 1 + 1 + 1) 179 0 [.ref 93, .int pI, .int cI, .int aI, .retAddr 0, .retAddr 0, .retAddr 0] [] h Q := by
  have N7 := mk.2.2.2
  have no : ((-9223372036854775808 : Int64)).toInt = zNO := rfl
  unfold zOdd at hQ
  refine w_modd0 pI cI aI hh.hs (mis_ok hn hh pI ⟨_, rfl, hh.hs, fun e => ?_, fun e => mis_ok hn hh cI ⟨_, rfl, hh.hs, fun e2 => ?_, fun e2 => in01_ok hh.hs aI ⟨_, rfl, hh.hs, fun e3 => ?_, fun e3 => ?_⟩⟩⟩)
  · exact hQ _ h hh RST.rf (by rw [if_pos (Or.inl (of_decide_eq_false (cz e)))]; exact no)
  · exact hQ _ h hh RST.rf (by rw [if_pos (Or.inr (Or.inl (of_decide_eq_false (cz e2))))]; exact no)
  · exact hQ _ h hh RST.rf (by rw [if_pos (Or.inr (Or.inr (of_decide_eq_false (cz e3))))]; exact no)
  · have e := of_decide_eq_true (cn e)
    have e2 := of_decide_eq_true (cn e2)
    have e3 := of_decide_eq_true (cn e3)
    have hp : pI.toInt = (pI.toInt.toNat : Int) := by omega
    have hc : cI.toInt = (cI.toInt.toNat : Int) := by omega
    rw [if_neg (by omega)] at hQ
    refine mrn_ok hn hh pI pI.toInt.toNat hp (by omega) (by omega) ⟨_, rfl, hh.hs, fun e4 => ?_, fun e4 => mrn_ok hn hh cI cI.toInt.toNat hc (by omega) (by omega) ⟨_, rfl, hh.hs, fun e5 => ⟨inB_iff (by omega) (by omega), ?_⟩, fun e5 => ?_⟩⟩
    · have e4 := cz e4
      rw [Bool.not_eq_false'] at e4
      exact hQ _ h hh RST.rf (by rw [if_pos (Or.inl e4)]; exact no)
    · have e4 := cn e4
      have e5 := cz e5
      rw [Bool.not_eq_true'] at e4
      rw [Bool.not_eq_false'] at e5
      rw [if_neg (by rw [e4, e5]; decide)] at hQ
      have lv := hh.iv 96 cI.toInt.toNat (iv_96 _ (by omega))
      exact modd_go mk h pI cI aI _ _ _ hp (by omega) hc (by omega) rfl lv 7 0 0 0 S h (by decide) rfl rfl (fun _ => rfl) hn hh frm_refl hQ
    · have e5 := cn e5
      rw [Bool.not_eq_true'] at e5
      exact hQ _ h hh RST.rf (by rw [if_pos (Or.inr e5)]; exact no)
/-- need -/
theorem mnee_go {dp : Nat} (mk : MOK S Y N) (h0 : Hp) (pI oI : Int32) (p : Nat) (hp : pI.toInt = p) (p7 : p < 7) (ho : h0.2.1 98 p = oI) (o9 : 0 ≤ oI.toInt ∧ oI.toInt ≤ 9) : ∀ (n s : Nat) (fI' sI : Int32) (S' : Nat → Nat → Int) (h : Hp), s + n = 10 → sI.toInt = s → ((0 ≤ fI'.toInt ∧ fI'.toInt = zff (zNeeF S Y cs m N K p) 10 0) ∨ (fI'.toInt = -5 ∧ zff (zNeeF S Y cs m N K p) n s = zff (zNeeF S Y cs m N K p) 10 0)) → (∀ v, upS S' 4 p v = upS S 4 p v) → NMS S' Y cs m N K h → HI h → frm (WMX ++ [(98, p)]) h0 h → (∀ (r : Int32) h', HI h' → RST h0 h' → r.toInt = zff (zNeeF S Y cs m N K p) 10 0 → Q (some (.int r)) h') → Ends X (dp + 1 + 1 + 1 + 1 + 1 + 1 + 1 + 1 + 1 + 1) 168 34 [.ref 93, .int pI, .int oI, .int fI', .int sI] [] h Q
  | n, s, fI', sI, S', h, hn, hl, hf, hS, hs, hh, hfr, hQ => by
    have j10 : (10 : Int32).toInt = 10 := rfl
    have ic : inB pI 7 = true := inB_iff (by omega) (by omega)
    have en : pI.toNatClampNeg = p := by show pI.toInt.toNat = _; omega
    have gB : HI (hpI h 98 p oI) := HI_put hh (by rw [iv_98 p p7]; exact o9.1) (by rw [iv_98 p p7]; exact o9.2)
    have rB : RST h0 (hpI h 98 p oI) := RST.one (b := 98) (j := p) (by omega) (sub_98 p7) (frm_put hfr W1_in) (by rw [put_at]; exact ho.symm)
    refine w_mnee1 pI oI fI' sI hh.hs ⟨fun e => ⟨ic, ?_⟩, fun e => ⟨fun e2 => ⟨ic, ?_⟩, fun e2 => ⟨ic, ?_⟩⟩⟩
    · have e : (10 : Int32).toInt ≤ sI.toInt := of_decide_eq_true (cJ e)
      have : n = 0 := by omega
      subst this
      rw [en]
      rcases hf with c | c
      · exact hQ fI' _ gB rB c.2
      · exact hQ fI' _ gB rB (by rw [c.1, ← c.2]; rfl)
    · have e2 : (0 : Int32).toInt ≤ fI'.toInt := of_decide_eq_true (cJ e2)
      rw [z0] at e2
      rw [en]
      rcases hf with c | c
      · exact hQ fI' _ gB rB c.2
      · omega
    have e : ¬ (10 : Int32).toInt ≤ sI.toInt := of_decide_eq_false (cJ e)
    have e2 : ¬ (0 : Int32).toInt ≤ fI'.toInt := of_decide_eq_false (cJ e2)
    rw [z0] at e2
    have c := hf.resolve_left (fun z => e2 z.1)
    obtain ⟨n, rfl⟩ : ∃ k, n = k + 1 := ⟨n - 1, by omega⟩
    have n1 : (sI + 1).toInt = ((s + 1 : Nat) : Int) := by rw [i_add (by rw [i1]; omega) (by rw [i1]; omega), i1]; omega
    rw [en]
    have g2 : HI (hpI h 98 p sI) := HI_put hh (by rw [iv_98 p p7]; omega) (by rw [iv_98 p p7]; omega)
    have n2 := hs.up4 (p := p) (v := sI)
    rw [hl, hS] at n2
    have zs : zff (zNeeF S Y cs m N K p) (n + 1) s = if zNeeF S Y cs m N K p s = true then (s : Int) else zff (zNeeF S Y cs m N K p) n (s + 1) := rfl
    rw [zs] at c
    refine nmcn_ok (mk.up4 (by omega)) n2 g2 (fun r7 h6 g6 f6 n6 b7 => ⟨r7, rfl, g6.hs, has_ok r7 pI g6.hs ⟨_, rfl, g6.hs, ?_⟩⟩)
    have f : frm (WMX ++ [(98, p)]) h0 h6 := frm_trans (frm_put hfr W1_in) (W1_x f6)
    rw [bitB_s b7 hp p7]
    refine ⟨fun d => ?_, fun d => ?_⟩
    · have d : zNeeF S Y cs m N K p s = true := by
        show (!zC (upS S 4 p s) Y cs m N K p) = true
        rw [cz d]
        rfl
      rw [if_pos d] at c
      exact mnee_go mk h0 pI oI p hp p7 ho o9 n (s + 1) _ _ _ h6 (by omega) n1 (Or.inl ⟨by omega, by rw [hl]; exact c.2⟩) (fun v => upS_up) n6 g6 f hQ
    · have d : zNeeF S Y cs m N K p s = false := by
        show (!zC (upS S 4 p s) Y cs m N K p) = false
        rw [cn d]
        rfl
      rw [if_neg (by rw [d]; decide)] at c
      exact mnee_go mk h0 pI oI p hp p7 ho o9 n (s + 1) _ _ _ h6 (by omega) n1 (Or.inr ⟨rfl, c.2⟩) (fun v => upS_up) n6 g6 f hQ
theorem mnee_ok {dp : Nat} (hn : NMS S Y cs m N K h) (mk : MOK S Y N) (hh : HI h) (pI : Int32) (hQ : ∀ (r : Int32) h', HI h' → RST h h' → r.toInt = zNee S Y cs m N K pI → Q (some (.int r)) h') : Ends X (dp + 1 + 1 + 1 + 1 + 1 + 1 + 1 + 1 + 1 + 1) 168 0 [.ref 93, .int pI, .retAddr 0, .retAddr 0, .retAddr 0] [] h Q := by
  have N7 := mk.2.2.2
  unfold zNee at hQ
  refine w_mnee0 pI hh.hs (mis_ok hn hh pI ⟨_, rfl, hh.hs, fun e => ?_, fun e => ?_⟩)
  · have e := of_decide_eq_true (cn2 e)
    have hc : pI.toInt = (pI.toInt.toNat : Int) := by omega
    rw [if_neg (fun z => z e)] at hQ
    refine mrn_ok hn hh pI pI.toInt.toNat hc (by omega) (by omega) ⟨_, rfl, hh.hs, fun e3 => ⟨inB_iff (by omega) (by omega), ?_⟩, fun e3 => ?_⟩
    · have e3 := cn2 e3
      rw [Bool.not_eq_true'] at e3
      rw [if_neg (by rw [e3]; decide)] at hQ
      have lv := hh.iv 98 pI.toInt.toNat (iv_98 _ (by omega))
      exact mnee_go mk h pI _ pI.toInt.toNat hc (by omega) rfl lv 10 0 (-5) 0 S h (by decide) rfl (Or.inr ⟨rfl, rfl⟩) (fun _ => rfl) hn hh frm_refl hQ
    · have e3 := cz2 e3
      rw [Bool.not_eq_false'] at e3
      rw [if_pos e3] at hQ
      exact hQ _ h hh RST.rf rfl
  · exact hQ _ h hh RST.rf (by rw [if_pos (of_decide_eq_false (cz2 e))]; rfl)
end MCALLS
end JN99tz6mcalls2
section JN99tz7mcalls3
/-! The reference's calls: best, hands, alone, behind, first, on, last, mean, looked, shout, of. -/
theorem RST.of {W : List (Nat × Nat)} {h h' : Hp} (hs : subW W WMV = true) (hf : frm W h h') (hd : ∀ a k, inW SUPR a k = true → inW W a k = true → h'.2.1 a k = h.2.1 a k) : RST h h' :=
  ⟨frm_sub hs hf, fun a k hk => by
    cases c : inW W a k with
    | false => exact frI hf c
    | true => exact hd a k hk c⟩
theorem SUPR_in {a k : Nat} (h : inW SUPR a k = true) : a = 96 ∨ a = 98 ∨ (a = 93 ∧ (k = 1 ∨ k = 2 ∨ k = 27 ∨ k = 28 ∨ k = 30)) ∨ (a = 93 ∧ k = 999) := by
  simp only [inW, SUPR, List.any_cons, List.any_nil, Bool.or_false, Bool.or_eq_true, Bool.and_eq_true, beq_iff_eq] at h
  omega
theorem iv_93 : ivl 93 1 = (0, 1100) ∧ ivl 93 2 = (0, 127) ∧ ivl 93 27 = (0, 1) ∧ ivl 93 28 = (-2147483648, 2147483647) ∧ ivl 93 29 = (0, 6) ∧ ivl 93 30 = (-1, 6) ∧ ivl 93 31 = (-2147483648, 2147483647) ∧ ivl 93 32 = (-2147483648, 2147483647) ∧ ivl 93 36 = (0, 127) ∧ ivl 93 37 = (0, 1100) := by decide +kernel
def W28 : List (Nat × Nat) := WMX ++ [(93, 28), (93, 29)]
def W27 : List (Nat × Nat) := WMX ++ [(93, 27)]
def W32 : List (Nat × Nat) := WMX ++ [(93, 32), (93, 2)]
def W30 : List (Nat × Nat) := WMX ++ [(93, 28), (93, 29), (93, 30), (93, 31)]
def W2 : List (Nat × Nat) := WMX ++ [(93, 2)]
def W12 : List (Nat × Nat) := WMX ++ [(93, 1), (93, 2)]
def W36 : List (Nat × Nat) := WMX ++ [(93, 1), (93, 2), (93, 36), (93, 37)]
theorem WX_in {a k : Nat} {l : List (Nat × Nat)} (h : inW (WMX ++ l) a k = true) : a = 109 ∨ a = 110 ∨ (a = 93 ∧ (k = 34 ∨ k = 35 ∨ k = 999)) ∨ inW l a k = true := by
  unfold inW at h
  rw [List.any_append, Bool.or_eq_true] at h
  rcases h with h | h
  · simp only [WMX, List.any_cons, List.any_nil, Bool.or_false, Bool.or_eq_true, Bool.and_eq_true, beq_iff_eq] at h
    omega
  · exact Or.inr (Or.inr (Or.inr h))
section MCALLS3
variable {X : Scr} {Q : Option Value → Hp → Prop} {S : Nat → Nat → Int} {Y : Int} {cs : List Cl} {m : List Int} {N : Nat} {K R : Nat → Bool} {hd : Bool} {one tol fo le : Int} {h : Hp}
theorem MST.ptol (hm : MST S Y cs m N K R hd one tol fo le h) (v : Int32) : MST S Y cs m N K R hd one v.toInt fo le (hpI h 93 29 v) := by
  obtain ⟨a1, a2, a3, a4, a5, a6, ⟨G, c1, c2⟩, a8, a9, a10, a11, a12⟩ := hm
  exact ⟨a1.p93 (by decide), a2.p93 (by decide), a3.p93 (by decide), by rw [put_ne (by omega)]; exact a4, by rw [put_ne (by omega)]; exact a5, a6, ⟨G, by rw [put_ne (by omega)]; exact c1, c2⟩, by rw [put_ne (by omega)]; exact a8, by rw [put_ne (by omega)]; exact a9, by rw [put_at], by rw [put_ne (by omega)]; exact a11, fun z => by rw [put_ne (by omega)]; exact a12 z⟩
theorem MST.pone (hm : MST S Y cs m N K R hd one tol fo le h) (v : Int32) : MST S Y cs m N K R hd v.toInt tol fo le (hpI h 93 28 v) := by
  obtain ⟨a1, a2, a3, a4, a5, a6, ⟨G, c1, c2⟩, a8, a9, a10, a11, a12⟩ := hm
  exact ⟨a1.p93 (by decide), a2.p93 (by decide), a3.p93 (by decide), by rw [put_ne (by omega)]; exact a4, by rw [put_ne (by omega)]; exact a5, a6, ⟨G, by rw [put_ne (by omega)]; exact c1, c2⟩, by rw [put_ne (by omega)]; exact a8, by rw [put_at], by rw [put_ne (by omega)]; exact a10, by rw [put_ne (by omega)]; exact a11, fun z => by rw [put_ne (by omega)]; exact a12 z⟩
theorem WX_sub {l : List (Nat × Nat)} {h h' : Hp} (hf : frm WMX h h') : frm (WMX ++ l) h h' := fun a k hk => hf a k (by
  unfold inW at hk ⊢
  rw [List.any_append, Bool.or_eq_false_iff] at hk
  exact hk.1)
/-- best -/
theorem mbes_go {dp : Nat} (mk : MOK S Y N) (h0 : Hp) (b28 : h0.2.1 93 28 = -1) (pI : Int32) (p : Nat) (hp : pI.toInt = p) (p7 : p < 7) : ∀ (n l : Nat) (sI lI : Int32) (t : Int) (h : Hp), l + n = 7 → lI.toInt = l → BSET sI (zset (zBesF S Y cs m N K p) l) → MST S Y cs m N K (zR N K) false p t (-1) 0 h → HI h → frm W28 h0 h → (∀ (r : Int32) h', HI h' → RST h0 h' → BSET r (zset (zBesF S Y cs m N K p) 7) → Q (some (.int r)) h') → Ends X (dp + 1 + 1 + 1 + 1 + 1 + 1 + 1 + 1 + 1 + 1) 167 30 [.ref 93, .int pI, .int sI, .int lI] [] h Q
  | n, l, sI, lI, t, h, hn, hl, hb, hs, hh, hfr, hQ => by
    have j7 : (7 : Int32).toInt = 7 := rfl
    refine w_mbes1 pI sI lI hh.hs ⟨fun e => ?_, fun e => ?_⟩
    · have e : (7 : Int32).toInt ≤ lI.toInt := of_decide_eq_true (cJ e)
      have : l = 7 := by omega
      subst this
      refine hQ sI _ (HI_full hh iv_93.2.2.2.1) (RST.of (W := W28) (by decide) (frm_put hfr rfl) (fun a k k1 k2 => ?_)) hb
      have k1 := SUPR_in k1
      have k2 := WX_in k2
      simp only [inW, List.any_cons, List.any_nil, Bool.or_false, Bool.or_eq_true, Bool.and_eq_true, beq_iff_eq] at k2
      have : a = 93 ∧ (k = 28 ∨ k = 999) := by omega
      obtain ⟨rfl, k3 | k3⟩ := this
      · subst k3
        rw [put_at, b28]
      · subst k3
        rw [put_ne (by omega)]
        exact frI hfr rfl
    have e : ¬ (7 : Int32).toInt ≤ lI.toInt := of_decide_eq_false (cJ e)
    obtain ⟨n, rfl⟩ : ∃ k, n = k + 1 := ⟨n - 1, by omega⟩
    have n1 : (lI + 1).toInt = ((l + 1 : Nat) : Int) := by rw [i_add (by rw [i1]; omega) (by rw [i1]; omega), i1]; omega
    have g2 : HI (hpI h 93 29 lI) := HI_put hh (by rw [iv_93.2.2.2.2.1]; omega) (by rw [iv_93.2.2.2.2.1]; omega)
    have m2 := hs.ptol lI
    rw [hl] at m2
    have st := zset_S hb hl (by omega)
    refine mcn_ok mk m2 (Or.inl rfl) g2 (fun r3 h2 g2' f2 b3 _ => ⟨r3, rfl, g2'.hs, has_ok r3 pI g2'.hs ⟨_, rfl, g2'.hs, ?_⟩⟩)
    rw [mcau_z (by decide)] at b3
    rw [bitB_s b3 hp p7]
    have f : frm W28 h0 h2 := frm_trans (frm_put hfr rfl) (WX_sub f2)
    have go := fun sI' hs' => mbes_go (dp := dp) mk h0 b28 pI p hp p7 n (l + 1) sI' (lI + 1) l h2 (by omega) n1 hs' (m2.fr f2) g2' f hQ
    refine ⟨fun d => go _ (st.1 ?_), fun d => go _ (bor0 (st.2 ?_))⟩
    · show (!zcau S Y cs m K (zR N K) false p l (-1) 0 p) = true
      rw [cz d]
      rfl
    · show (!zcau S Y cs m K (zR N K) false p l (-1) 0 p) = false
      rw [cn d]
      rfl
theorem mbes_ok {dp : Nat} (hn : NMS S Y cs m N K h) (mk : MOK S Y N) (hh : HI h) (pI : Int32) (hQ : ∀ (r : Int32) h', HI h' → RST h h' → r.toInt = zBes S Y cs m N K pI → Q (some (.int r)) h') : Ends X (dp + 1 + 1 + 1 + 1 + 1 + 1 + 1 + 1 + 1 + 1) 167 0 [.ref 93, .int pI, .retAddr 0, .retAddr 0] [] h Q := by
  have N7 := mk.2.2.2
  unfold zBes at hQ
  refine w_mbes0 pI hh.hs (mis_ok hn hh pI ⟨_, rfl, hh.hs, fun e => ?_, fun e => ?_⟩)
  · have e := of_decide_eq_true (cn2 e)
    have hc : pI.toInt = (pI.toInt.toNat : Int) := by omega
    rw [if_neg (fun z => z e)] at hQ
    refine mrn_ok hn hh pI pI.toInt.toNat hc (by omega) (by omega) ⟨_, rfl, hh.hs, fun e3 => ?_, fun e3 => ?_⟩
    · have e3 := cn2 e3
      rw [Bool.not_eq_true'] at e3
      rw [if_neg (by rw [e3]; decide)] at hQ
      have m1 := hn.d.pone pI
      rw [hc] at m1
      exact mbes_go mk h (Int32.toInt.inj hn.2.2.2.2.2.2.2.2.1) pI pI.toInt.toNat hc (by omega) 7 0 0 0 _ _ (by decide) rfl BSET.zero m1 (HI_full hh iv_93.2.2.2.1) (frm_put frm_refl rfl) (fun r h' d1 d2 d3 => hQ r h' d1 d2 d3.val)
    · have e3 := cz2 e3
      rw [Bool.not_eq_false'] at e3
      rw [if_pos e3] at hQ
      exact hQ _ h hh RST.rf rfl
  · exact hQ _ h hh RST.rf (by rw [if_pos (of_decide_eq_false (cz2 e))]; rfl)
/-- all hands out: one alone is caught -/
theorem zheld_no {H : Nat → Int} {f : Nat → Bool} : ∀ n, (∀ x, x < n → f x = false) → zheld H f n = 0
  | 0, _ => rfl
  | n + 1, h => by
    show zheld H f n + (if f n = true then H n else 0) = 0
    rw [zheld_no n (fun x hx => h x (by omega)), if_neg (by rw [h n (Nat.lt_succ_self n)]; exact Bool.false_ne_true)]
    rfl
theorem zgo_bz {Z : Nat → Nat → Bool} {H W SL : Nat → Int} {K : Nat → Bool} (hZ : ∀ l x, Z l x = K x) : ∀ {l : List Int32} {b c : Nat → Bool} {f : Int}, (∀ a ∈ l, 0 ≤ SL a.toInt.toNat) → (∀ x, K x = true → b x = true) → zgo Z H W SL l b c = c ∧ zfs Z H W SL l b f = f
  | [], _, _, _, _, _ => ⟨rfl, rfl⟩
  | a :: l, b, c, f, hs, hb => by
    have z : zheld H (zmeet Z b (W a.toInt.toNat)) 7 = 0 := zheld_no 7 (fun x _ => by
      unfold zmeet
      rw [hZ]
      cases k : K x with
      | false => rfl
      | true => rw [hb x k]; rfl)
    have s := hs a (List.mem_cons_self ..)
    unfold zgo zfs
    rw [if_neg (by omega), if_neg (by omega)]
    exact zgo_bz hZ (fun x hx => hs x (List.mem_cons_of_mem _ hx)) hb
theorem zgo_h1 {Z : Nat → Nat → Bool} {H W SL : Nat → Int} {K : Nat → Bool} (hZ : ∀ l x, Z l x = K x) : ∀ {l : List Int32}, (∀ a ∈ l, 0 ≤ SL a.toInt.toNat) → (∀ a ∈ l, 0 ≤ a.toInt) → (zgo Z H W SL l (fun _ => false) (fun _ => false) = (fun _ => false) ∧ zfs Z H W SL l (fun _ => false) (-5) = -5) ∨ ∃ a ∈ l, zgo Z H W SL l (fun _ => false) (fun _ => false) = (fun x => decide (x = a.toInt.toNat)) ∧ zfs Z H W SL l (fun _ => false) (-5) = a.toInt
  | [], _, _ => Or.inl ⟨rfl, rfl⟩
  | a :: l, hs, h0 => by
    unfold zgo zfs
    by_cases c : SL a.toInt.toNat < zheld H (zmeet Z (fun _ => false) (W a.toInt.toNat)) 7
    · rw [if_pos c, if_pos c, if_pos rfl]
      have b := zgo_bz (H := H) (W := W) (SL := SL) hZ (l := l) (b := fun x => false || zmeet Z (fun _ => false) (W a.toInt.toNat) x) (c := fun x => false || decide (x = a.toInt.toNat)) (f := a.toInt) (fun x hx => hs x (List.mem_cons_of_mem _ hx)) (fun x hx => by
        unfold zmeet
        rw [hZ, hx]
        rfl)
      refine Or.inr ⟨a, List.mem_cons_self .., ?_, b.2⟩
      rw [b.1]
      funext x
      rw [Bool.false_or]
    · rw [if_neg c, if_neg c]
      rcases zgo_h1 hZ (l := l) (fun x hx => hs x (List.mem_cons_of_mem _ hx)) (fun x hx => h0 x (List.mem_cons_of_mem _ hx)) with q | ⟨y, y1, y2⟩
      · exact Or.inl q
      · exact Or.inr ⟨y, List.mem_cons_of_mem _ y1, y2⟩
theorem zff_one {a : Nat} (h : a < 7) : zff (fun x => decide (x = a)) 7 0 = a := by
  match a, h with
  | 0, _ => rfl
  | 1, _ => rfl
  | 2, _ => rfl
  | 3, _ => rfl
  | 4, _ => rfl
  | 5, _ => rfl
  | 6, _ => rfl
  | a + 7, h => omega
theorem zslip_b {wy : Nat → Int} (hsr : SRG S) (hw : YOK cs m) {x : Nat} (h7 : x < 7) : 0 ≤ zslip S Y cs m wy x := by
  have b := hw.b (zfc S Y x (wy x)) 2
  have s := hsr x h7
  unfold zslip
  split <;> omega
theorem mfst_z {t : Int} (mk : MOK S Y N) (yk : YOK cs m) : mfst S Y cs m K (zR N K) true (-1) t (-1) 0 = zHan S Y cs m N K := by
  have N7 := mk.2.2.2
  have hz : ∀ l x, zin S Y cs m K true l x = K x := fun l x => by
    unfold zin
    rw [Bool.true_or, Bool.and_true]
  have el := zord_el (H := zhst S) (R := zR N K) (fo := -1) (le := 0) N7 (Or.inl rfl)
  have mem : ∀ a ∈ zord (zhst S) (zR N K) (-1) 0, ∃ x : Nat, x < 7 ∧ a.toInt = x := fun a ha => by
    obtain ⟨j, hj, e⟩ := List.getElem_of_mem ha
    obtain ⟨y, y1, y2, y3⟩ := el j hj
    rw [List.getD_eq_getElem?_getD, List.getElem?_eq_getElem hj] at y2
    simp only [Option.getD_some, e] at y2
    exact ⟨y, y1, y2⟩
  have e0 : zHan S Y cs m N K = zff (mcau S Y cs m K (zR N K) true (-1) t (-1) 0) 7 0 := by
    unfold zHan
    rw [mcau_z (by decide), zcau_t (t' := t) (by decide)]
  rw [e0]
  unfold mfst mcau
  rcases zgo_h1 (H := zhold S Y cs m) (W := mW S Y cs m K (zR N K) true (-1) t) (SL := zslip S Y cs m (mW S Y cs m K (zR N K) true (-1) t)) hz (l := zord (zhst S) (zR N K) (-1) 0) (fun a ha => by
    obtain ⟨x, x1, x2⟩ := mem a ha
    exact zslip_b mk.1 yk (by omega)) (fun a ha => by
    obtain ⟨x, x1, x2⟩ := mem a ha
    omega) with q | ⟨a, a1, a2, a3⟩
  · rw [q.1, q.2]
    rfl
  · obtain ⟨x, x1, x2⟩ := mem a a1
    rw [a2, a3, x2]
    exact (zff_one (a := x) x1).symm
theorem mhan_ok {dp : Nat} (hn : NMS S Y cs m N K h) (mk : MOK S Y N) (hh : HI h) (hQ : ∀ (r : Int32) h', HI h' → RST h h' → r.toInt = zHan S Y cs m N K → Q (some (.int r)) h') : Ends X (dp + 1 + 1 + 1 + 1 + 1 + 1 + 1 + 1 + 1 + 1) 169 0 [.ref 93, .retAddr 0] [] h Q := by
  refine w_mhan hh.hs ?_
  obtain ⟨a1, a2, a3, a4, a5, a6, a7, a8, a9, a10⟩ := id hn
  have g1 : HI (hpI h 93 27 1) := HI_put hh (by rw [iv_93.2.2.1]; decide) (by rw [iv_93.2.2.1]; decide)
  have m1 : MST S Y cs m N K (zR N K) true (-1) (h.2.1 93 29).toInt (-1) 0 (hpI h 93 27 1) := ⟨a1.p93 (by decide), a2.p93 (by decide), a3.p93 (by decide), by rw [put_ne (by omega)]; exact a4, by rw [put_ne (by omega)]; exact a5, a6, ⟨fun _ => false, by rw [put_ne (by omega), a7]; exact BSET.zero, fun p _ => zR_0 p⟩, by rw [put_at]; rfl, by rw [put_ne (by omega)]; exact a9, by rw [put_ne (by omega)], by rw [put_ne (by omega)]; exact a10, fun z => absurd z (by decide)⟩
  refine mcn_ok mk m1 (Or.inl rfl) g1 (fun r h2 g2 f2 _ b35 => ⟨r, rfl, g2.hs, ?_⟩)
  rw [mfst_z mk a2.1] at b35
  have f : frm W27 h h2 := frm_trans (frm_put frm_refl rfl) (WX_sub f2)
  have g3 : HI (hpI h2 93 27 0) := HI_put g2 (by rw [iv_93.2.2.1]; decide) (by rw [iv_93.2.2.1]; decide)
  have fin := hQ (h2.2.1 93 35) (hpI h2 93 27 0) g3 (RST.of (W := W27) (by decide) (frm_put f rfl) (fun a k k1 k2 => by
    have k1 := SUPR_in k1
    have k2 := WX_in k2
    simp only [inW, List.any_cons, List.any_nil, Bool.or_false, Bool.or_eq_true, Bool.and_eq_true, beq_iff_eq] at k2
    have : a = 93 ∧ (k = 27 ∨ k = 999) := by omega
    obtain ⟨rfl, k3 | k3⟩ := this
    · subst k3
      rw [put_at, a8]
    · subst k3
      rw [put_ne (by omega)]
      exact frI f rfl)) b35
  exact fin
/-- alone -/
theorem malo_ok {dp : Nat} (hn : NMS S Y cs m N K h) (mk : MOK S Y N) (hh : HI h) (pI : Int32) (hQ : ∀ (r : Int32) h', HI h' → RST h h' → r.toInt = zAlo S Y cs m N K pI → Q (some (.int r)) h') : Ends X (dp + 1 + 1 + 1 + 1 + 1 + 1 + 1 + 1 + 1 + 1) 170 0 [.ref 93, .int pI, .retAddr 0, .retAddr 0] [] h Q := by
  have N7 := mk.2.2.2
  unfold zAlo at hQ
  refine w_alone pI hh.hs (mis_ok hn hh pI ⟨_, rfl, hh.hs, fun e => ?_, fun e => ?_⟩)
  · have e := of_decide_eq_true (cn2 e)
    have hp : pI.toInt = (pI.toInt.toNat : Int) := by omega
    rw [if_neg (fun z => z e)] at hQ
    refine mrn_ok hn hh pI pI.toInt.toNat hp (by omega) (by omega) ⟨_, rfl, hh.hs, fun e3 => ?_, fun e3 => ?_⟩
    · have kp := cz e3
      rw [Bool.not_eq_false'] at kp
      rw [if_neg (by rw [kp]; decide)] at hQ
      have pN : pI.toInt.toNat < N := by omega
      generalize pI.toInt.toNat = p at hp kp hQ pN
      obtain ⟨a1, a2, a3, a4, a5, a6, a7, a8, a9, a10⟩ := id hn
      have A := a5.no (BSET.one hp (by omega))
      have O := BSET.one hp (by omega)
      generalize h.2.1 93 2 &&& ((1 <<< (pI &&& 31)) ^^^ (-1)) = aI at A
      generalize (1 <<< (pI &&& 31) : Int32) = oI at O
      have or := O.rng
      have g1 : HI (hpI (hpI h 93 32 aI) 93 2 oI) := HI_put (HI_full hh iv_93.2.2.2.2.2.2.2.1) (by rw [iv_93.2.1]; exact or.1) (by rw [iv_93.2.1]; omega)
      have m1 : MST S Y cs m N (fun x => decide (x = p)) (zR N K) false (-1) (h.2.1 93 29).toInt (-1) 0 (hpI (hpI h 93 32 aI) 93 2 oI) := ⟨(a1.p93 (by decide)).p93 (by decide), (a2.p93 (by decide)).p93 (by decide), (a3.p93 (by decide)).p93 (by decide), by rw [put_ne (by omega), put_ne (by omega)]; exact a4, by rw [put_at]; exact O, fun x _ hx => by rw [of_decide_eq_true hx]; exact pN, ⟨fun x => K x && !decide (x = p), by rw [put_ne (by omega), put_at]; exact A, fun x _ => by
        show (decide (x < N) && !(decide (x = p) || (K x && !decide (x = p)))) = (decide (x < N) && !K x)
        by_cases d : x = p
        · rw [d, kp, decide_eq_true (rfl : p = p)]
          rfl
        · rw [decide_eq_false d]
          cases K x <;> rfl⟩, by rw [put_ne (by omega), put_ne (by omega)]; exact a8, by rw [put_ne (by omega), put_ne (by omega)]; exact a9, by rw [put_ne (by omega), put_ne (by omega)], by rw [put_ne (by omega), put_ne (by omega)]; exact a10, fun z => absurd z (by decide)⟩
      refine mcn_ok mk m1 (Or.inl rfl) g1 (fun r10 h9 g9 f9 b10 _ => ⟨r10, rfl, g9.hs, ?_⟩)
      rw [mcau_z (by decide), zcau_t (t' := 0) (by decide)] at b10
      refine onesb_ok g9.hs b10 (fun r13 h13 => ⟨r13, rfl, g9.hs, ?_⟩)
      have f : frm W32 h h9 := frm_trans (frm_put (frm_put frm_refl rfl) rfl) (WX_sub f9)
      have kr := a5.rng
      refine hQ r13 _ (HI_put (HI_full g9 iv_93.2.2.2.2.2.2.2.1) (by rw [iv_93.2.1]; exact kr.1) (by rw [iv_93.2.1]; omega)) (RST.of (W := W32) (by decide) (frm_put (frm_put f rfl) rfl) (fun a k k1 k2 => ?_)) h13
      have k1 := SUPR_in k1
      have k2 := WX_in k2
      simp only [inW, List.any_cons, List.any_nil, Bool.or_false, Bool.or_eq_true, Bool.and_eq_true, beq_iff_eq] at k2
      have : a = 93 ∧ (k = 2 ∨ k = 999) := by omega
      obtain ⟨rfl, k3 | k3⟩ := this
      · subst k3
        rw [put_at]
      · subst k3
        rw [put_ne (by omega), put_ne (by omega)]
        exact frI f rfl
    · have e3 := cn e3
      rw [Bool.not_eq_true'] at e3
      rw [if_pos e3] at hQ
      exact hQ _ h hh RST.rf rfl
  · exact hQ _ h hh RST.rf (by rw [if_pos (of_decide_eq_false (cz2 e))]; rfl)
/-- behind -/
theorem mbeh_z {p o : Nat} {t : Int} (po : p ≠ o) : mW S Y cs m K R hd p (mW S Y cs m K R hd (-1) t o) = zW S Y cs m K R hd (-1) 0 p o := by
  funext x
  unfold mW zW zcw zsnt
  by_cases c : (x : Int) = p
  · rw [if_pos c, if_pos c, if_neg (by omega), if_neg (by omega), show Int.toNat (o : Int) = o from rfl]
  · rw [if_neg c, if_neg c, if_neg (by omega)]
theorem mbeh_ok {dp : Nat} (hn : NMS S Y cs m N K h) (mk : MOK S Y N) (hh : HI h) (pI oI : Int32) (hQ : ∀ (r : Int32) h', HI h' → RST h h' → r.toInt = zBeh S Y cs m N K pI oI → Q (some (.int r)) h') : Ends X (dp + 1 + 1 + 1 + 1 + 1 + 1 + 1 + 1 + 1 + 1) 174 0 [.ref 93, .int pI, .int oI, .retAddr 0, .retAddr 0] [] h Q := by
  have N7 := mk.2.2.2
  unfold zBeh at hQ
  refine w_bh pI oI hh.hs (mis_ok hn hh pI ⟨_, rfl, hh.hs, fun e => ?_, fun e => mis_ok hn hh oI ⟨_, rfl, hh.hs, fun e2 => ⟨fun e3 => ?_, fun e3 => ?_⟩, fun e2 => ?_⟩⟩)
  · exact hQ _ h hh RST.rf (by rw [if_pos (Or.inl (of_decide_eq_false (cz e)))]; rfl)
  · have e := of_decide_eq_true (cn e)
    have e2 := of_decide_eq_true (cn2 e2)
    have e3 : ¬ pI.toInt = oI.toInt := of_decide_eq_true (cJ e3)
    have hp : pI.toInt = (pI.toInt.toNat : Int) := by omega
    have ho : oI.toInt = (oI.toInt.toNat : Int) := by omega
    rw [if_neg (fun z => z.elim (fun z => z e) (fun z => z e2)), if_neg e3] at hQ
    refine mrn_ok hn hh pI pI.toInt.toNat hp (by omega) (by omega) ⟨_, rfl, hh.hs, fun e4 => ?_, fun e4 => mrn_ok hn hh oI oI.toInt.toNat ho (by omega) (by omega) ⟨_, rfl, hh.hs, fun e5 => ?_, fun e5 => ?_⟩⟩
    · have e4 := cz e4
      rw [Bool.not_eq_false'] at e4
      rw [if_pos (Or.inl e4)] at hQ
      exact hQ _ h hh RST.rf rfl
    · have kp := cn e4
      have ko := cn2 e5
      rw [Bool.not_eq_true'] at kp ko
      rw [if_neg (by rw [kp, ko]; decide)] at hQ
      have md := hn.d
      obtain ⟨p, hpn⟩ : ∃ p, pI.toInt.toNat = p := ⟨_, rfl⟩
      obtain ⟨o, hon⟩ : ∃ o, oI.toInt.toNat = o := ⟨_, rfl⟩
      rw [hpn] at hp kp hQ
      rw [hon] at ho ko
      refine mway_ok mk md hh oI o ho (by omega) (fun r19 h18 g18 f18 b19 => ⟨r19, rfl, g18.hs, ?_⟩)
      obtain ⟨a1, a2, a3, a4, a5, a6, a7, a8, a9, a10⟩ := hn.fr (WPi_X f18)
      have wb := mW_b (Y := Y) (cs := cs) (m := m) (K := K) (R := zR N K) (hd := false) (one := -1) mk.1 mk.2.1 (hh.iv 93 29 iv_93.2.2.2.2.1) (x := o) (by omega)
      have g1 : HI (hpI (hpI (hpI (hpI h18 93 28 pI) 93 29 r19) 93 30 pI) 93 31 oI) := HI_full (HI_put (HI_put (HI_full g18 iv_93.2.2.2.1) (by rw [iv_93.2.2.2.2.1, b19]; exact wb.1) (by rw [iv_93.2.2.2.2.1, b19]; exact wb.2)) (by rw [iv_93.2.2.2.2.2.1]; omega) (by rw [iv_93.2.2.2.2.2.1]; omega)) iv_93.2.2.2.2.2.2.1
      have f1 : frm W30 h (hpI (hpI (hpI (hpI h18 93 28 pI) 93 29 r19) 93 30 pI) 93 31 oI) := frm_put (frm_put (frm_put (frm_put (WX_sub (WPi_X f18)) rfl) rfl) rfl) rfl
      have m1 : MST S Y cs m N K (zR N K) false p (mW S Y cs m K (zR N K) false (-1) (h.2.1 93 29).toInt o) p o (hpI (hpI (hpI (hpI h18 93 28 pI) 93 29 r19) 93 30 pI) 93 31 oI) := ⟨(((a1.p93 (by decide)).p93 (by decide)).p93 (by decide)).p93 (by decide), (((a2.p93 (by decide)).p93 (by decide)).p93 (by decide)).p93 (by decide), (((a3.p93 (by decide)).p93 (by decide)).p9330).p93 (by decide), by rw [put_ne (by omega), put_ne (by omega), put_ne (by omega), put_ne (by omega)]; exact a4, by rw [put_ne (by omega), put_ne (by omega), put_ne (by omega), put_ne (by omega)]; exact a5, a6, ⟨fun _ => false, by rw [put_ne (by omega), put_ne (by omega), put_ne (by omega), put_ne (by omega), a7]; exact BSET.zero, fun p _ => zR_0 p⟩, by rw [put_ne (by omega), put_ne (by omega), put_ne (by omega), put_ne (by omega)]; exact a8, by rw [put_ne (by omega), put_ne (by omega), put_ne (by omega), put_at]; exact hp, by rw [put_ne (by omega), put_ne (by omega), put_at]; exact b19, by rw [put_ne (by omega), put_at]; exact hp, fun _ => by rw [put_at]; exact ho⟩
      have fo : FOK (p : Int) (o : Int) N (zR N K) := Or.inr ⟨by omega, by omega, by omega, by omega, by omega, by unfold zR; rw [show Int.toNat (p : Int) = p from rfl, kp, decide_eq_true (by omega)]; rfl, by unfold zR; rw [show Int.toNat (o : Int) = o from rfl, ko, decide_eq_true (by omega)]; rfl⟩
      refine mcn_ok mk m1 fo g1 (fun r22 h21 g21 f21 b22 _ => ⟨r22, rfl, g21.hs, ?_⟩)
      have bz : mcau S Y cs m K (zR N K) false p (mW S Y cs m K (zR N K) false (-1) (h.2.1 93 29).toInt o) p o = zcau S Y cs m K (zR N K) false (-1) 0 pI.toInt oI.toInt := by
        unfold mcau zcau
        rw [mbeh_z (by omega), hp, ho]
      rw [bz] at b22
      have f2 : frm W30 h (hpI (hpI h21 93 28 (-1)) 93 30 (-1)) := frm_put (frm_put (frm_trans f1 (WX_sub f21)) rfl) rfl
      have g2 : HI (hpI (hpI h21 93 28 (-1)) 93 30 (-1)) := HI_put (HI_full g21 iv_93.2.2.2.1) (by rw [iv_93.2.2.2.2.2.1]; decide) (by rw [iv_93.2.2.2.2.2.1]; decide)
      have rs : RST h (hpI (hpI h21 93 28 (-1)) 93 30 (-1)) := RST.of (W := W30) (by decide) f2 (fun a k k1 k2 => by
        have k1 := SUPR_in k1
        have k2 := WX_in k2
        simp only [inW, List.any_cons, List.any_nil, Bool.or_false, Bool.or_eq_true, Bool.and_eq_true, beq_iff_eq] at k2
        have : a = 93 ∧ (k = 28 ∨ k = 30 ∨ k = 999) := by omega
        obtain ⟨rfl, k3 | k3 | k3⟩ := this
        · subst k3
          rw [put_ne (by omega), put_at]
          exact (Int32.toInt.inj hn.2.2.2.2.2.2.2.2.1).symm
        · subst k3
          rw [put_at]
          exact (Int32.toInt.inj hn.2.2.2.2.2.2.2.2.2).symm
        · subst k3
          exact frI f2 rfl)
      refine has_ok r22 pI g2.hs ⟨_, rfl, g2.hs, ?_⟩
      rw [bitB_s b22 hp (by omega)]
      refine ⟨fun d => hQ _ _ g2 rs ?_, fun d => hQ _ _ g2 rs ?_⟩
      · rw [if_neg (by rw [cz d]; decide)]; rfl
      · rw [if_pos (cn d)]; rfl
    · have e5 := cz2 e5
      rw [Bool.not_eq_false'] at e5
      rw [if_pos (Or.inr e5)] at hQ
      exact hQ _ h hh RST.rf rfl
  · have e := of_decide_eq_true (cn e)
    have e2 := of_decide_eq_true (cn2 e2)
    have e3 : ¬ ¬ pI.toInt = oI.toInt := of_decide_eq_false (cJ e3)
    exact hQ _ h hh RST.rf (by rw [if_neg (fun z => z.elim (fun z => z e) (fun z => z e2)), if_pos (Decidable.not_not.mp e3)]; rfl)
  · exact hQ _ h hh RST.rf (by rw [if_pos (Or.inr (of_decide_eq_false (cz2 e2)))]; rfl)
theorem zR_N {N : Nat} {K : Nat → Bool} : ∀ p, p < 7 → zR N K p = true → p < N := fun p _ z => by
  unfold zR at z
  rw [Bool.and_eq_true] at z
  exact of_decide_eq_true z.1
/-- first -/
theorem zmf_ext {R : Nat → Bool} {cnt : Nat → Nat} {N : Nat} (hR : ∀ p, p < 7 → R p = true → p < N) : ∀ k, N + k ≤ 7 → zmf R cnt (N + k) = zmf R cnt N
  | 0, _ => rfl
  | k + 1, h => by
    have i := zmf_ext (cnt := cnt) hR k (by omega)
    show zmf R cnt (N + k + 1) = _
    rw [zmf, if_neg (fun z => by have := hR (N + k) (by omega) z.1; omega), i]
theorem NMS.kk (hn : NMS S Y cs m N K h) {v : Int32} {K1 : Nat → Bool} (hv : BSET v K1) (hk : ∀ p, p < 7 → K1 p = true → p < N) : NMS S Y cs m N K1 (hpI h 93 2 v) := by
  obtain ⟨a1, a2, a3, a4, a5, a6, a7, a8, a9, a10⟩ := hn
  exact ⟨a1.p93 (by decide), a2.p93 (by decide), a3.p93 (by decide), by rw [put_ne (by omega)]; exact a4, by rw [put_at]; exact hv, hk, by rw [put_ne (by omega)]; exact a7, by rw [put_ne (by omega)]; exact a8, by rw [put_ne (by omega)]; exact a9, by rw [put_ne (by omega)]; exact a10⟩
theorem mfir_go {dp : Nat} (mk : MOK S Y N) (h0 : Hp) (hK0 : BSET (h0.2.1 93 2) K) (wI : Int32) : ∀ (n p : Nat) (fI' mI pI : Int32) (x : Value) (h : Hp), p + n = N → pI.toInt = p → fI'.toInt = (zmf (zR N K) (zFirC S Y cs m N K) p).1 → mI.toInt = (zmf (zR N K) (zFirC S Y cs m N K) p).2 → NMS S Y cs m N K h → HI h → frm W2 h0 h → (∀ (r : Int32) h', HI h' → RST h0 h' → r.toInt = (if wI.toInt = 0 then (zmf (zR N K) (zFirC S Y cs m N K) N).1 else (zmf (zR N K) (zFirC S Y cs m N K) N).2) → Q (some (.int r)) h') → Ends X (dp + 1 + 1 + 1 + 1 + 1 + 1 + 1 + 1 + 1 + 1) 165 21 [.ref 93, .int wI, .int fI', .int mI, .int pI, x] [] h Q
  | n, p, fI', mI, pI, x, h, hn, hp, hf, hm, hs, hh, hfr, hQ => by
    obtain ⟨a1, a2, a3, a4, a5, a6, a7, a8, a9, a10⟩ := id hs
    have N7 := mk.2.2.2
    have rs : RST h0 h := RST.of (W := W2) (by decide) hfr (fun a k k1 k2 => by
      have k1 := SUPR_in k1
      have k2 := WX_in k2
      simp only [inW, List.any_cons, List.any_nil, Bool.or_false, Bool.or_eq_true, Bool.and_eq_true, beq_iff_eq] at k2
      have : a = 93 ∧ (k = 2 ∨ k = 999) := by omega
      obtain ⟨rfl, k3 | k3⟩ := this
      · subst k3
        exact a5.inj hK0
      · subst k3
        exact frI hfr rfl)
    refine w_mfir1 wI fI' mI pI x hh.hs ⟨fun e => ⟨fun d => ?_, fun d => ?_⟩, fun e => ?_⟩
    · have e : (h.2.1 93 0).toInt ≤ pI.toInt := of_decide_eq_true (cJ e)
      have d : ¬ wI.toInt = (0 : Int32).toInt := of_decide_eq_true (cJ d)
      rw [z0] at d
      have : p = N := by omega
      subst this
      exact hQ mI h hh rs (by rw [if_neg d]; exact hm)
    · have e : (h.2.1 93 0).toInt ≤ pI.toInt := of_decide_eq_true (cJ e)
      have d : ¬ ¬ wI.toInt = (0 : Int32).toInt := of_decide_eq_false (cJ d)
      rw [z0] at d
      have : p = N := by omega
      subst this
      exact hQ fI' h hh rs (by rw [if_pos (Decidable.not_not.mp d)]; exact hf)
    have e : ¬ (h.2.1 93 0).toInt ≤ pI.toInt := of_decide_eq_false (cJ e)
    obtain ⟨n, rfl⟩ : ∃ k, n = k + 1 := ⟨n - 1, by omega⟩
    have n1 : (pI + 1).toInt = ((p + 1 : Nat) : Int) := by rw [i_add (by rw [i1]; omega) (by rw [i1]; omega), i1]; omega
    refine mrn_ok hs hh pI p hp (by omega) (by omega) ⟨_, rfl, hh.hs, fun c => ?_, fun c => ?_⟩
    · have c := cn2 c
      have kp : K p = false := by rw [Bool.not_eq_true'] at c; exact c
      have rp : zR N K p = true := by unfold zR; rw [kp, decide_eq_true (by omega)]; rfl
      have kv := a5.or (BSET.one hp (by omega))
      generalize h.2.1 93 2 ||| (1 <<< (pI &&& 31)) = v at kv
      have vr := kv.rng
      have g2 : HI (hpI h 93 2 v) := HI_put hh (by rw [iv_93.2.1]; exact vr.1) (by rw [iv_93.2.1]; omega)
      have n2 := hs.kk kv (fun x hx z => by
        rw [Bool.or_eq_true] at z
        rcases z with z | z
        · exact a6 x hx z
        · rw [of_decide_eq_true z]; omega)
      refine nmcn_ok mk n2 g2 (fun r8 h7 g7 f7 n7 b8 => ⟨r8, rfl, g7.hs, onesb_ok g7.hs b8 (fun r11 h11 => ⟨r11, rfl, g7.hs, ?_⟩)⟩)
      have h11 : r11.toInt = (zFirC S Y cs m N K p : Int) := h11
      have kb := n7.2.2.2.2.1.no (BSET.one hp (by omega))
      have kb2 : BSET (h7.2.1 93 2 &&& ((1 <<< (pI &&& 31)) ^^^ (-1))) K := kb.cg (fun x _ => by
        by_cases d : x = p
        · rw [d, kp, decide_eq_true (rfl : p = p)]
          rfl
        · rw [decide_eq_false d]
          cases K x <;> rfl)
      generalize h7.2.1 93 2 &&& ((1 <<< (pI &&& 31)) ^^^ (-1)) = u at kb2
      have ur := kb2.rng
      have g3 : HI (hpI h7 93 2 u) := HI_put g7 (by rw [iv_93.2.1]; exact ur.1) (by rw [iv_93.2.1]; omega)
      have f3 : frm W2 h0 (hpI h7 93 2 u) := frm_put (frm_trans (frm_put hfr rfl) (WX_sub f7)) rfl
      have n3 := n7.kk kb2 a6
      refine ⟨fun d => ?_, fun d => ?_⟩
      · have d : mI.toInt < r11.toInt := of_decide_eq_true (cJ d)
        have st : zmf (zR N K) (zFirC S Y cs m N K) (p + 1) = ((p : Int), (zFirC S Y cs m N K p : Int)) := if_pos ⟨rp, by omega⟩
        exact mfir_go mk h0 hK0 wI n (p + 1) _ _ _ _ _ (by omega) n1 (by rw [st]; exact hp) (by rw [st]; exact h11) n3 g3 f3 hQ
      · have d : ¬ mI.toInt < r11.toInt := of_decide_eq_false (cJ d)
        have st : zmf (zR N K) (zFirC S Y cs m N K) (p + 1) = zmf (zR N K) (zFirC S Y cs m N K) p := if_neg (fun z => by have := z.2; omega)
        exact mfir_go mk h0 hK0 wI n (p + 1) _ _ _ _ _ (by omega) n1 (by rw [st]; exact hf) (by rw [st]; exact hm) n3 g3 f3 hQ
    · have c := cz2 c
      have kp : K p = true := by rw [Bool.not_eq_false'] at c; exact c
      have rp : zR N K p = false := by unfold zR; rw [kp, Bool.not_true, Bool.and_false]
      have st : zmf (zR N K) (zFirC S Y cs m N K) (p + 1) = zmf (zR N K) (zFirC S Y cs m N K) p := if_neg (fun z => by rw [rp] at z; exact absurd z.1 Bool.false_ne_true)
      exact mfir_go mk h0 hK0 wI n (p + 1) _ _ _ _ h (by omega) n1 (by rw [st]; exact hf) (by rw [st]; exact hm) hs hh hfr hQ
theorem mfir_ok {dp : Nat} (hn : NMS S Y cs m N K h) (mk : MOK S Y N) (hh : HI h) (wI : Int32) (hQ : ∀ (r : Int32) h', HI h' → RST h h' → r.toInt = zFir S Y cs m N K wI → Q (some (.int r)) h') : Ends X (dp + 1 + 1 + 1 + 1 + 1 + 1 + 1 + 1 + 1 + 1) 165 0 [.ref 93, .int wI, .retAddr 0, .retAddr 0, .retAddr 0, .retAddr 0] [] h Q := by
  have N7 := mk.2.2.2
  unfold zFir at hQ
  refine w_mfir0 wI hh.hs (in01_ok hh.hs wI ⟨_, rfl, hh.hs, fun e => ?_, fun e => ?_⟩)
  · have e := of_decide_eq_true (cn2 e)
    rw [if_neg (fun z => z e)] at hQ
    have ex : zmf (zR N K) (zFirC S Y cs m N K) 7 = zmf (zR N K) (zFirC S Y cs m N K) N := by
      have := zmf_ext (R := zR N K) (cnt := zFirC S Y cs m N K) (N := N) zR_N (7 - N) (by omega)
      rw [show N + (7 - N) = 7 by omega] at this
      exact this
    rw [ex] at hQ
    exact mfir_go mk h hn.2.2.2.2.1 wI N 0 (-5) (-5) 0 _ h (by omega) rfl rfl rfl hn hh frm_refl hQ
  · exact hQ _ h hh RST.rf (by rw [if_pos (of_decide_eq_false (cz2 e))]; rfl)
/-- a shout of the reference -/
theorem mgo_ok {dp : Nat} (hn : NMS S Y cs m N K h) (mk : MOK S Y N) (hY : Y ≤ 1099) (hh : HI h) (hQ : ∀ (r : Int32) h', HI h' → frm W12 h h' → NMS S (Y + 1) cs m N (fun p => K p || zC S Y cs m N K p) h' → BSET r (zC S Y cs m N K) → h'.2.1 93 2 = h.2.1 93 2 ||| r → h'.2.1 93 1 = h.2.1 93 1 + 1 → Q (some (.int r)) h') : Ends X (dp + 1 + 1 + 1 + 1 + 1 + 1 + 1 + 1 + 1 + 1) 158 0 [.ref 93, .retAddr 0] [] h Q := by
  have N7 := mk.2.2.2
  have y0 := mk.2.2.1
  refine w_mgo hh.hs (nmcn_ok mk hn hh (fun r h1 g1 f1 n1 b => ⟨r, rfl, g1.hs, ?_⟩))
  have e2 : h1.2.1 93 2 = h.2.1 93 2 := frI f1 rfl
  have e1 : h1.2.1 93 1 = h.2.1 93 1 := frI f1 rfl
  have kv := n1.2.2.2.2.1.or b
  have vr := kv.rng
  have v1 : (h1.2.1 93 1 + 1).toInt = Y + 1 := by rw [i_add (by rw [i1]; have := n1.1.2.2; omega) (by rw [i1]; have := n1.1.2.2; omega), i1, n1.1.2.2]
  have n2 := n1.kk kv (fun x hx z => by
    rw [Bool.or_eq_true] at z
    rcases z with z | z
    · exact n1.2.2.2.2.2.1 x hx z
    · exact zC_R N7 z)
  obtain ⟨⟨c1, c2, c3⟩, a2, a3, a4, a5, a6, a7, a8, a9, a10⟩ := n2
  refine hQ r _ (HI_put (HI_put g1 (by rw [iv_93.2.1]; exact vr.1) (by rw [iv_93.2.1]; omega)) (by rw [iv_93.1, v1]; show 0 ≤ Y + 1; omega) (by rw [iv_93.1, v1]; show Y + 1 ≤ 1100; omega)) (frm_put (frm_put (WX_sub f1) rfl) rfl) ⟨⟨fun p hp => ?_, fun i hi => by rw [put_ne (by omega)]; exact c2 i hi, by rw [put_at]; exact v1⟩, a2.p93 (by decide), a3.p93 (by decide), by rw [put_ne (by omega)]; exact a4, by rw [put_ne (by omega)]; exact a5, a6, by rw [put_ne (by omega)]; exact a7, by rw [put_ne (by omega)]; exact a8, by rw [put_ne (by omega)]; exact a9, by rw [put_ne (by omega)]; exact a10⟩ b (by rw [put_ne (by omega), put_at, e2]) (by rw [put_at, e1])
  rw [put_ne (by omega), put_ne (by omega), put_ne (by omega), put_ne (by omega), put_ne (by omega)]
  exact c1 p hp
/-- what was kept -/
def KEP (h0 h : Hp) : Prop := h.2.1 93 36 = h0.2.1 93 2 ∧ h.2.1 93 37 = h0.2.1 93 1
theorem msav_ok {dp : Nat} (hn : NMS S Y cs m N K h) (hh : HI h) (hQ : ∀ h', HI h' → frm W36 h h' → NMS S Y cs m N K h' → KEP h h' → Q none h') : Ends X dp 160 0 [.ref 93] [] h Q := by
  obtain ⟨a1, a2, a3, a4, a5, a6, a7, a8, a9, a10⟩ := id hn
  have k2 := hh.iv 93 2 iv_93.2.1
  have k1 := hh.iv 93 1 iv_93.1
  refine w_msav hh.hs (hQ _ (HI_put (HI_put hh (by rw [iv_93.2.2.2.2.2.2.2.2.1]; exact k2.1) (by rw [iv_93.2.2.2.2.2.2.2.2.1]; exact k2.2)) (by rw [iv_93.2.2.2.2.2.2.2.2.2]; exact k1.1) (by rw [iv_93.2.2.2.2.2.2.2.2.2]; exact k1.2)) (frm_put (frm_put frm_refl rfl) rfl) ⟨(a1.p93 (by decide)).p93 (by decide), (a2.p93 (by decide)).p93 (by decide), (a3.p93 (by decide)).p93 (by decide), by rw [put_ne (by omega), put_ne (by omega)]; exact a4, by rw [put_ne (by omega), put_ne (by omega)]; exact a5, a6, by rw [put_ne (by omega), put_ne (by omega)]; exact a7, by rw [put_ne (by omega), put_ne (by omega)]; exact a8, by rw [put_ne (by omega), put_ne (by omega)]; exact a9, by rw [put_ne (by omega), put_ne (by omega)]; exact a10⟩ ⟨by rw [put_ne (by omega), put_at], by rw [put_at]⟩)
theorem mpb_ok {dp : Nat} {h0 : Hp} (hh : HI h) (hf : frm W36 h0 h) (hk : KEP h0 h) (hh0 : HI h0) (hQ : ∀ h', HI h' → RST h0 h' → frm W12 h h' → Q none h') : Ends X dp 161 0 [.ref 93] [] h Q := by
  have k2 := hh0.iv 93 2 iv_93.2.1
  have k1 := hh0.iv 93 1 iv_93.1
  refine w_mpb hh.hs ?_
  rw [hk.1, hk.2]
  have f : frm W36 h0 (hpI (hpI h 93 2 (h0.2.1 93 2)) 93 1 (h0.2.1 93 1)) := frm_put (frm_put hf rfl) rfl
  refine hQ _ (HI_put (HI_put hh (by rw [iv_93.2.1]; exact k2.1) (by rw [iv_93.2.1]; exact k2.2)) (by rw [iv_93.1]; exact k1.1) (by rw [iv_93.1]; exact k1.2)) (RST.of (W := W36) (by decide) f (fun a k k1 k2 => ?_)) (frm_put (frm_put frm_refl rfl) rfl)
  have k1 := SUPR_in k1
  have k2 := WX_in k2
  simp only [inW, List.any_cons, List.any_nil, Bool.or_false, Bool.or_eq_true, Bool.and_eq_true, beq_iff_eq] at k2
  have : a = 93 ∧ (k = 1 ∨ k = 2 ∨ k = 999) := by omega
  obtain ⟨rfl, k3 | k3 | k3⟩ := this
  · subst k3
    rw [put_at]
  · subst k3
    rw [put_ne (by omega), put_at]
  · subst k3
    exact frI f rfl
theorem W12_36 {h h' : Hp} (hf : frm W12 h h') : frm W36 h h' := frm_sub (V := W12) (by decide) hf
theorem KEP.fr {h0 h h' : Hp} (hk : KEP h0 h) (hf : frm W12 h h') : KEP h0 h' := ⟨by rw [frI hf rfl]; exact hk.1, by rw [frI hf rfl]; exact hk.2⟩
theorem mall_ok {dp : Nat} (hn : NMS S Y cs m N K h) (hN7 : N ≤ 7) (hs : HS h) (hQ : ∀ r : Int32, BSET (r &&& (h.2.1 93 2 ^^^ (-1))) (zR N K) → Q (some (.int r)) h) : Ends X dp 113 0 [.ref 93] [] h Q :=
  w_allSet hs (hQ _ ((BSET.every hn.2.2.2.1 hN7).no hn.2.2.2.2.1))
/-- on -/
theorem mon_go {dp : Nat} (mk : MOK S Y N) (hY9 : Y ≤ 999) (h0 : Hp) (hh0 : HI h0) (nI wI : Int32) (b : Nat) (hb : nI.toInt = b) (b30 : b ≤ 30) : ∀ (n i : Nat) (mI kI : Int32) (h : Hp), i + n = b → kI.toInt = i → mI.toInt = zTn S Y cs m N K i → NMS S (Y + i) cs m N (zKn S Y cs m N K i) h → HI h → frm W36 h0 h → KEP h0 h → (∀ (r : Int32) h', HI h' → RST h0 h' → r.toInt = (if wI.toInt = 0 then zint (zR N (zKn S Y cs m N K b)) else (zTn S Y cs m N K b : Int)) → Q (some (.int r)) h') → Ends X (dp + 1 + 1 + 1 + 1 + 1 + 1 + 1 + 1 + 1 + 1 + 1) 162 35 [.ref 93, .int nI, .int wI, .int mI, .int kI] [] h Q
  | n, i, mI, kI, h, hn, hi, hm, hs, hh, hf, hk, hQ => by
    have N7 := mk.2.2.2
    have tl := zTn_le S Y cs m N K i
    refine w_mon1 nI wI mI kI hh.hs ⟨fun e => ⟨fun c => ?_, fun c => ?_⟩, fun e => ?_⟩
    · have e : nI.toInt ≤ kI.toInt := of_decide_eq_true (cJ e)
      have c : ¬ wI.toInt = (0 : Int32).toInt := of_decide_eq_true (cJ c)
      rw [z0] at c
      have : i = b := by omega
      subst this
      exact mpb_ok hh hf hk hh0 (fun h' g r _ => ⟨rfl, g.hs, hQ mI h' g r (by rw [if_neg c]; exact hm)⟩)
    · have e : nI.toInt ≤ kI.toInt := of_decide_eq_true (cJ e)
      have c : ¬ ¬ wI.toInt = (0 : Int32).toInt := of_decide_eq_false (cJ c)
      rw [z0] at c
      have : i = b := by omega
      subst this
      exact mall_ok hs N7 hh.hs (fun r7 b7 => ⟨r7, rfl, hh.hs, mpb_ok hh hf hk hh0 (fun h' g r _ => ⟨rfl, g.hs, hQ _ h' g r (by rw [if_pos (Decidable.not_not.mp c)]; exact b7.val)⟩)⟩)
    have e : ¬ nI.toInt ≤ kI.toInt := of_decide_eq_false (cJ e)
    obtain ⟨n, rfl⟩ : ∃ k, n = k + 1 := ⟨n - 1, by omega⟩
    have n1 : (kI + 1).toInt = ((i + 1 : Nat) : Int) := by rw [i_add (by rw [i1]; omega) (by rw [i1]; omega), i1]; omega
    refine mgo_ok hs (mk.y i) (by omega) hh (fun r13 h12 g12 f12 n12 b13 _ _ => ⟨r13, rfl, g12.hs, onesb_ok g12.hs b13 (fun r16 h16 => ⟨r16, rfl, g12.hs, ?_⟩)⟩)
    have pl := pop_le (zC S (Y + i) cs m N (zKn S Y cs m N K i))
    rw [show Y + (i : Int) + 1 = Y + ((i + 1 : Nat) : Int) by omega] at n12
    refine mon_go mk hY9 h0 hh0 nI wI b hb b30 n (i + 1) _ _ h12 (by omega) n1 ?_ n12 g12 (frm_trans hf (W12_36 f12)) (hk.fr f12) hQ
    rw [i_add (by omega) (by omega), hm, h16]
    rfl
theorem in030_ok {dp : Nat} (hs : HS h) (wI : Int32) (hQ : Q (some (.int (b2i (decide (0 ≤ wI.toInt ∧ wI.toInt ≤ 30))))) h) : Ends X dp 109 0 [.ref 93, .int wI, .int 0, .int 30] [] h Q := by
  refine in_ok wI 0 30 hs ?_
  rw [← Bool.decide_and]
  exact hQ
theorem mon_ok {dp : Nat} (hn : NMS S Y cs m N K h) (mk : MOK S Y N) (hY9 : Y ≤ 999) (hh : HI h) (nI wI : Int32) (hQ : ∀ (r : Int32) h', HI h' → RST h h' → r.toInt = zOn S Y cs m N K nI wI → Q (some (.int r)) h') : Ends X (dp + 1 + 1 + 1 + 1 + 1 + 1 + 1 + 1 + 1 + 1 + 1) 162 0 [.ref 93, .int nI, .int wI, .retAddr 0, .retAddr 0] [] h Q := by
  unfold zOn at hQ
  refine w_mon0 nI wI hh.hs (in01_ok hh.hs wI ⟨_, rfl, hh.hs, fun e => ?_, fun e => ?_⟩)
  · have e := of_decide_eq_true (cn2 e)
    rw [if_neg (fun z => z e)] at hQ
    refine in030_ok hh.hs nI ⟨_, rfl, hh.hs, fun e2 => ?_, fun e2 => ?_⟩
    · have e2 := of_decide_eq_true (cn2 e2)
      rw [if_neg (fun z => z e2)] at hQ
      refine msav_ok hn hh (fun h9 g9 f9 n9 k9 => ⟨rfl, g9.hs, ?_⟩)
      rw [show Y = Y + ((0 : Nat) : Int) by omega] at n9
      exact mon_go mk hY9 h hh nI wI nI.toInt.toNat (by omega) (by omega) nI.toInt.toNat 0 0 0 h9 (by omega) rfl rfl n9 g9 f9 k9 hQ
    · exact hQ _ h hh RST.rf (by rw [if_pos (of_decide_eq_false (cz2 e2))]; rfl)
  · exact hQ _ h hh RST.rf (by rw [if_pos (of_decide_eq_false (cz2 e))]; rfl)
/-- last -/
theorem zff_S {f : Nat → Bool} {n a : Nat} : zff f (n + 1) a = if f a = true then (a : Int) else zff f n (a + 1) := rfl
theorem BSET.pow {s : Int32} {f : Nat → Bool} {p : Nat} {pI : Int32} (hs : BSET s f) (hp : pI.toInt = p) (h7 : p < 7) : (s = 1 <<< (pI &&& 31)) ↔ ∀ x, x < 7 → f x = decide (x = p) := by
  constructor
  · intro e x hx
    have o := BSET.one hp h7
    rw [← e] at o
    obtain ⟨n, hn, e1, hf⟩ := hs
    obtain ⟨k, hk, e2, hg⟩ := o
    have : n = k := by
      have := congrArg Int32.toInt (e1.symm.trans e2)
      rw [i32n hn, i32n hk] at this
      omega
    rw [← hf x hx, this]
    exact hg x hx
  · intro e
    exact (hs.cg e).inj (BSET.one hp h7)
theorem pop_two {f : Nat → Bool} {a b : Nat} (ha : a < 7) (hb : b < 7) (hab : a ≠ b) (fa : f a = true) (fb : f b = true) : 2 ≤ pop f := by
  have ha : a = 0 ∨ a = 1 ∨ a = 2 ∨ a = 3 ∨ a = 4 ∨ a = 5 ∨ a = 6 := by omega
  have hb : b = 0 ∨ b = 1 ∨ b = 2 ∨ b = 3 ∨ b = 4 ∨ b = 5 ∨ b = 6 := by omega
  unfold pop
  rcases ha with rfl | rfl | rfl | rfl | rfl | rfl | rfl <;> rcases hb with rfl | rfl | rfl | rfl | rfl | rfl | rfl <;> first | exact absurd rfl hab | (rw [fa, fb, Bool.toNat_true]; omega)
theorem mthe_go {dp : Nat} (hs : HS h) (N7 : N ≤ 7) (hN : (h.2.1 93 0).toInt = N) (sI : Int32) (f : Nat → Bool) (hb : BSET sI f) (h1 : pop f ≤ 1) (hfN : ∀ p, p < 7 → f p = true → p < N) (hQ : ∀ r : Int32, r.toInt = zff f 7 0 → Q (some (.int r)) h) : ∀ (n p : Nat) (pI : Int32), p + n = 7 → pI.toInt = p → p ≤ N → (∀ x, x < p → f x = false) → zff f n p = zff f 7 0 → Ends X dp 163 2 [.ref 93, .int sI, .int pI] [] h Q
  | n, p, pI, hn, hp, hpN, hno, hz => by
    refine w_mthe1 sI pI hs ⟨fun e => ?_, fun e => ?_⟩
    · have e : (h.2.1 93 0).toInt ≤ pI.toInt := of_decide_eq_true (cJ e)
      have : p = N := by omega
      refine hQ _ ?_
      rw [← hz]
      have none : ∀ n p, p + n ≤ 7 → N ≤ p → zff f n p = -5 := by
        intro n
        induction n with
        | zero => intro p _ _; rfl
        | succ n ih =>
          intro p hp hN'
          rw [zff_S, if_neg (fun z => by have := hfN p (by omega) z; omega)]
          exact ih (p + 1) (by omega) (by omega)
      rw [none n p (by omega) (by omega)]
      rfl
    have e : ¬ (h.2.1 93 0).toInt ≤ pI.toInt := of_decide_eq_false (cJ e)
    obtain ⟨n, rfl⟩ : ∃ k, n = k + 1 := ⟨n - 1, by omega⟩
    have n1 : (pI + 1).toInt = ((p + 1 : Nat) : Int) := by rw [i_add (by rw [i1]; omega) (by rw [i1]; omega), i1]; omega
    have pw := hb.pow hp (by omega)
    rw [zff_S] at hz
    refine ⟨fun c => ?_, fun c => ?_⟩
    · have c : ¬ sI.toInt = (1 <<< (pI &&& 31) : Int32).toInt := of_decide_eq_true (cJ c)
      have fp : f p = false := by
        cases q : f p with
        | false => rfl
        | true =>
          exfalso
          apply c
          rw [pw.mpr (fun x hx => ?_)]
          by_cases d : x = p
          · rw [d, q, decide_eq_true rfl]
          · rw [decide_eq_false d]
            cases q2 : f x with
            | false => rfl
            | true =>
              have := pop_two hx (by omega : p < 7) d q2 q
              omega
      rw [if_neg (by rw [fp]; decide)] at hz
      refine mthe_go hs N7 hN sI f hb h1 hfN hQ n (p + 1) _ (by omega) n1 (by omega) (fun x hx => ?_) hz
      by_cases d : x = p
      · rw [d]; exact fp
      · exact hno x (by omega)
    · have c : ¬ ¬ sI.toInt = (1 <<< (pI &&& 31) : Int32).toInt := of_decide_eq_false (cJ c)
      have c := Int32.toInt.inj (Decidable.not_not.mp c)
      have fp := pw.mp c p (by omega)
      rw [decide_eq_true rfl] at fp
      rw [if_pos fp] at hz
      exact hQ _ (by rw [← hz]; exact hp)
theorem mlas_fin {dp : Nat} {h1 : Hp} (h0 : Hp) (hh0 : HI h0) (N7 : N ≤ 7) (hN : (h1.2.1 93 0).toInt = N) (wI nI : Int32) (n : Nat) (hn : nI.toInt = n) (n30 : n ≤ 30) (sI : Int32) (f : Nat → Bool) (hb : BSET sI f) (p1 : pop f ≤ 1) (hfN : ∀ p, p < 7 → f p = true → p < N) (hh : HI h1) (hf : frm W36 h0 h1) (hk : KEP h0 h1) (hQ : ∀ (r : Int32) h', HI h' → RST h0 h' → r.toInt = (if wI.toInt = 0 then zff f 7 0 else (n : Int)) → Q (some (.int r)) h') : Ends X dp 161 0 [.ref 93] [] h1 (fun rv h5 => rv = none ∧ HS h5 ∧ ((condB .le nI 30 = true → ((condB .ne wI 0 = true → Q (some (.int nI)) h5) ∧ (condB .ne wI 0 = false → Ends X dp 163 0 [.ref 93, .int sI, .retAddr 0] [] h5 (fun rv h10 => ∃ r11, rv = some (.int r11) ∧ HS h10 ∧ Q (some (.int r11)) h10)))) ∧ (condB .le nI 30 = false → Q (some (.int (-5))) h5))) := by
  have j30 : (30 : Int32).toInt = 30 := rfl
  refine mpb_ok hh hf hk hh0 (fun h' g r f12 => ⟨rfl, g.hs, fun e => ⟨fun c => ?_, fun c => ?_⟩, fun e => ?_⟩)
  · have c : ¬ wI.toInt = (0 : Int32).toInt := of_decide_eq_true (cJ c)
    rw [z0] at c
    exact hQ nI h' g r (by rw [if_neg c]; exact hn)
  · have c : ¬ ¬ wI.toInt = (0 : Int32).toInt := of_decide_eq_false (cJ c)
    rw [z0] at c
    rw [if_pos (Decidable.not_not.mp c)] at hQ
    exact w_mthe0 sI g.hs (mthe_go g.hs N7 (by rw [frI f12 rfl]; exact hN) sI f hb p1 hfN (fun r11 h11 => ⟨r11, rfl, g.hs, hQ r11 h' g r h11⟩) 7 0 0 (by decide) rfl (Nat.zero_le _) (fun x hx => absurd hx (Nat.not_lt_zero x)) rfl)
  · exfalso
    have e : ¬ nI.toInt ≤ (30 : Int32).toInt := of_decide_eq_false (cJ e)
    omega
theorem mlas_go {dp : Nat} (mk : MOK S Y N) (hY9 : Y ≤ 999) (h0 : Hp) (hh0 : HI h0) (wI : Int32) : ∀ (k n : Nat) (nI : Int32) (x : Value) (h : Hp), n + k = 31 → nI.toInt = n → NMS S (Y + n) cs m N (zKn S Y cs m N K n) h → HI h → frm W36 h0 h → KEP h0 h → (∀ (r : Int32) h', HI h' → RST h0 h' → r.toInt = zLasA S Y cs m N K wI.toInt (zls S Y cs m N K k n) → Q (some (.int r)) h') → Ends X (dp + 1 + 1 + 1 + 1 + 1 + 1 + 1 + 1 + 1 + 1 + 1) 164 18 [.ref 93, .int wI, .int nI, x] [] h Q
  | k, n, nI, x, h, hk, hi, hs, hh, hf, hkp, hQ => by
    have N7 := mk.2.2.2
    have j30 : (30 : Int32).toInt = 30 := rfl
    have j31 : (31 : Int32).toInt = 31 := rfl
    refine w_mlas1 wI nI x hh.hs ⟨fun e => ?_, fun e => ?_⟩
    · have e : (31 : Int32).toInt ≤ nI.toInt := of_decide_eq_true (cJ e)
      have : k = 0 := by omega
      subst this
      refine mall_ok hs N7 hh.hs (fun r3 b3 => ⟨r3, rfl, hh.hs, mpb_ok hh hf hkp hh0 (fun h' g r f12 => ⟨rfl, g.hs, fun e2 => ?_, fun e2 => ?_⟩)⟩)
      · exfalso
        have e2 : nI.toInt ≤ (30 : Int32).toInt := of_decide_eq_true (cJ e2)
        omega
      · exact hQ _ h' g r rfl
    have e : ¬ (31 : Int32).toInt ≤ nI.toInt := of_decide_eq_false (cJ e)
    obtain ⟨k, rfl⟩ : ∃ j, k = j + 1 := ⟨k - 1, by omega⟩
    have n1 : (nI + 1).toInt = ((n + 1 : Nat) : Int) := by rw [i_add (by rw [i1]; omega) (by rw [i1]; omega), i1]; omega
    unfold zls at hQ
    refine mall_ok hs N7 hh.hs (fun r14 b14 => ⟨r14, rfl, hh.hs, onesb_ok hh.hs b14 (fun r17 h17 => ⟨r17, rfl, hh.hs, fun c => ?_, fun c => ?_⟩)⟩)
    · have c : r17.toInt ≤ (1 : Int32).toInt := of_decide_eq_true (cJ c)
      rw [i1] at c
      rw [if_pos (by omega)] at hQ
      refine mall_ok hs N7 hh.hs (fun r21 b21 => ⟨r21, rfl, hh.hs, ?_⟩)
      exact mlas_fin h0 hh0 N7 hs.2.2.2.1 wI nI n hi (by omega) _ _ b21 (by omega) zR_N hh hf hkp hQ
    · have c : ¬ r17.toInt ≤ (1 : Int32).toInt := of_decide_eq_false (cJ c)
      rw [i1] at c
      rw [if_neg (by omega)] at hQ
      refine mgo_ok hs (mk.y n) (by omega) hh (fun r32 h31 g31 f31 n31 _ _ _ => ⟨r32, rfl, g31.hs, ?_⟩)
      rw [show Y + (n : Int) + 1 = Y + ((n + 1 : Nat) : Int) by omega] at n31
      exact mlas_go mk hY9 h0 hh0 wI k (n + 1) _ _ h31 (by omega) n1 n31 g31 (frm_trans hf (W12_36 f31)) (hkp.fr f31) hQ
theorem mlas_ok {dp : Nat} (hn : NMS S Y cs m N K h) (mk : MOK S Y N) (hY9 : Y ≤ 999) (hh : HI h) (wI : Int32) (hQ : ∀ (r : Int32) h', HI h' → RST h h' → r.toInt = zLas S Y cs m N K wI → Q (some (.int r)) h') : Ends X (dp + 1 + 1 + 1 + 1 + 1 + 1 + 1 + 1 + 1 + 1 + 1) 164 0 [.ref 93, .int wI, .retAddr 0, .retAddr 0] [] h Q := by
  unfold zLas at hQ
  refine w_mlas0 wI hh.hs (in01_ok hh.hs wI ⟨_, rfl, hh.hs, fun e => ?_, fun e => ?_⟩)
  · have e := of_decide_eq_true (cn2 e)
    rw [if_neg (fun z => z e)] at hQ
    refine msav_ok hn hh (fun h9 g9 f9 n9 k9 => ⟨rfl, g9.hs, ?_⟩)
    rw [show Y = Y + ((0 : Nat) : Int) by omega] at n9
    exact mlas_go mk hY9 h hh wI 31 0 0 _ h9 (by omega) rfl n9 g9 f9 k9 hQ
  · exact hQ _ h hh RST.rf (by rw [if_pos (of_decide_eq_false (cz2 e))]; rfl)
/-- mean -/
theorem mmea_go {dp : Nat} (mk : MOK S Y N) (hY9 : Y ≤ 999) (h0 : Hp) (hh0 : HI h0) (nI aI : Int32) (b : Nat) (hb : nI.toInt = b) (b0 : 0 < b) (b30 : b ≤ 30) : ∀ (n i : Nat) (sI kI : Int32) (x : Value) (h : Hp), i + n = b → kI.toInt = i → sI.toInt = zMn S Y cs m N K i → NMS S (Y + i) cs m N (zKn S Y cs m N K i) h → HI h → frm W36 h0 h → KEP h0 h → (∀ (r : Int64) h', HI h' → RST h0 h' → r.toInt = zLow (zMn S Y cs m N K b) nI.toInt aI.toInt → Q (some (.long r)) h') → Ends X (dp + 1 + 1 + 1 + 1 + 1 + 1 + 1 + 1 + 1 + 1 + 1) 180 34 [.ref 93, .int nI, .int aI, .int sI, .int kI, x] [] h Q
  | n, i, sI, kI, x, h, hn, hi, hm, hs, hh, hf, hk, hQ => by
    have N7 := mk.2.2.2
    have tl := zMn_le S Y cs m N K i
    refine w_mmea1 nI aI sI kI x hh.hs ⟨fun e => ?_, fun e => ?_⟩
    · have e : nI.toInt ≤ kI.toInt := of_decide_eq_true (cJ e)
      have : i = b := by omega
      subst this
      exact mpb_ok hh hf hk hh0 (fun h' g r _ => ⟨rfl, g.hs, mlow_ok g.hs sI nI aI _ i hm hb b0 b30 (by omega) (fun r6 h6 => ⟨r6, rfl, g.hs, hQ r6 h' g r (by rw [hb]; exact h6)⟩)⟩)
    have e : ¬ nI.toInt ≤ kI.toInt := of_decide_eq_false (cJ e)
    obtain ⟨n, rfl⟩ : ∃ k, n = k + 1 := ⟨n - 1, by omega⟩
    have n1 : (kI + 1).toInt = ((i + 1 : Nat) : Int) := by rw [i_add (by rw [i1]; omega) (by rw [i1]; omega), i1]; omega
    refine mgo_ok hs (mk.y i) (by omega) hh (fun r9 h8 g8 f8 n8 b9 _ _ => ⟨r9, rfl, g8.hs, mall_ok n8 N7 g8.hs (fun r12 b12 => ⟨r12, rfl, g8.hs, onesb_ok g8.hs b12 (fun r15 h15 => ⟨r15, rfl, g8.hs, ?_⟩)⟩)⟩)
    rw [show Y + (i : Int) + 1 = Y + ((i + 1 : Nat) : Int) by omega] at n8
    have h15 : r15.toInt = (pop (zR N (zKn S Y cs m N K (i + 1))) : Int) := h15
    have pl := pop_le (zR N (zKn S Y cs m N K (i + 1)))
    refine mmea_go mk hY9 h0 hh0 nI aI b hb b0 b30 n (i + 1) _ _ _ h8 (by omega) n1 ?_ n8 g8 (frm_trans hf (W12_36 f8)) (hk.fr f8) hQ
    rw [i_add (by omega) (by omega), hm, h15]
    rfl
theorem in130_ok {dp : Nat} (hs : HS h) (wI : Int32) (hQ : Q (some (.int (b2i (decide (1 ≤ wI.toInt ∧ wI.toInt ≤ 30))))) h) : Ends X dp 109 0 [.ref 93, .int wI, .int 1, .int 30] [] h Q := by
  refine in_ok wI 1 30 hs ?_
  rw [← Bool.decide_and]
  exact hQ
theorem mmea_ok {dp : Nat} (hn : NMS S Y cs m N K h) (mk : MOK S Y N) (hY9 : Y ≤ 999) (hh : HI h) (nI aI : Int32) (hQ : ∀ (r : Int64) h', HI h' → RST h h' → r.toInt = zMea S Y cs m N K nI aI → Q (some (.long r)) h') : Ends X (dp + 1 + 1 + 1 + 1 + 1 + 1 + 1 + 1 + 1 + 1 + 1) 180 0 [.ref 93, .int nI, .int aI, .retAddr 0, .retAddr 0, .retAddr 0] [] h Q := by
  have no : ((-9223372036854775808 : Int64)).toInt = zNO := rfl
  unfold zMea at hQ
  refine w_mmea0 nI aI hh.hs (in130_ok hh.hs nI ⟨_, rfl, hh.hs, fun e => ?_, fun e => in01_ok hh.hs aI ⟨_, rfl, hh.hs, fun e2 => ?_, fun e2 => ?_⟩⟩)
  · exact hQ _ h hh RST.rf (by rw [if_pos (Or.inl (of_decide_eq_false (cz e)))]; exact no)
  · have e := of_decide_eq_true (cn e)
    have e2 := of_decide_eq_true (cn2 e2)
    rw [if_neg (fun z => z.elim (fun z => z e) (fun z => z e2))] at hQ
    refine msav_ok hn hh (fun h9 g9 f9 n9 k9 => ⟨rfl, g9.hs, ?_⟩)
    rw [show Y = Y + ((0 : Nat) : Int) by omega] at n9
    exact mmea_go mk hY9 h hh nI aI nI.toInt.toNat (by omega) (by omega) (by omega) nI.toInt.toNat 0 0 0 _ h9 (by omega) rfl rfl n9 g9 f9 k9 hQ
  · exact hQ _ h hh RST.rf (by rw [if_pos (Or.inr (of_decide_eq_false (cz2 e2)))]; exact no)
/-- looked puts all back -/
theorem mloo_go {dp : Nat} (mk : MOK S Y N) (hY9 : Y ≤ 999) (h0 : Hp) (hh0 : HI h0) : ∀ (n i : Nat) (fI' kI : Int32) (h : Hp), i + n = 12 → kI.toInt = i → NMS S (Y + i) cs m N (zKn S Y cs m N K i) h → HI h → frm W36 h0 h → KEP h0 h → (∀ (r : Int32) h', HI h' → RST h0 h' → Q (some (.int r)) h') → Ends X (dp + 1 + 1 + 1 + 1 + 1 + 1 + 1 + 1 + 1 + 1 + 1) 182 9 [.ref 93, .int fI', .int kI] [] h Q
  | n, i, fI', kI, h, hn, hi, hs, hh, hf, hk, hQ => by
    have b := hh.iv 93 42 (r := (0, 12)) rfl
    have fin := mpb_ok (X := X) (dp := dp + 1 + 1 + 1 + 1 + 1 + 1 + 1 + 1 + 1 + 1) (Q := fun rv h2 => rv = none ∧ HS h2 ∧ Q (some (.int fI')) h2) hh hf hk hh0 (fun h' g r _ => ⟨rfl, g.hs, hQ fI' h' g r⟩)
    refine w_mloo1 fI' kI hh.hs ⟨fun e => fin, fun e => ⟨fun e2 => fin, fun e2 => ?_⟩⟩
    have e : ¬ (h.2.1 93 42).toInt ≤ kI.toInt := of_decide_eq_false (cJ e)
    obtain ⟨n, rfl⟩ : ∃ k, n = k + 1 := ⟨n - 1, by omega⟩
    have n1 : (kI + 1).toInt = ((i + 1 : Nat) : Int) := by rw [i_add (by rw [i1]; omega) (by rw [i1]; omega), i1]; omega
    refine mgo_ok hs (mk.y i) (by omega) hh (fun r10 h9 g9 f9 n9 _ _ _ => ⟨r10, rfl, g9.hs, inB_iff (by omega) (by omega), ?_⟩)
    rw [show Y + (i : Int) + 1 = Y + ((i + 1 : Nat) : Int) by omega] at n9
    have go := fun fI'' => mloo_go (dp := dp) mk hY9 h0 hh0 n (i + 1) fI'' (kI + 1) h9 (by omega) n1 n9 g9 (frm_trans hf (W12_36 f9)) (hk.fr f9) hQ
    exact ⟨fun _ => go _, fun _ => go _⟩
theorem mloo_ok {dp : Nat} (hn : NMS S Y cs m N K h) (mk : MOK S Y N) (hY9 : Y ≤ 999) (hh : HI h) (hQ : ∀ (r : Int32) h', HI h' → RST h h' → Q (some (.int r)) h') : Ends X (dp + 1 + 1 + 1 + 1 + 1 + 1 + 1 + 1 + 1 + 1 + 1) 182 0 [.ref 93, .retAddr 0, .retAddr 0] [] h Q := by
  refine w_mloo0 hh.hs (msav_ok hn hh (fun h9 g9 f9 n9 k9 => ⟨rfl, g9.hs, ?_⟩))
  rw [show Y = Y + ((0 : Nat) : Int) by omega] at n9
  exact mloo_go mk hY9 h hh 12 0 (-5) 0 h9 (by decide) rfl n9 g9 f9 k9 hQ
/-- shout -/
theorem msho_ok {dp : Nat} (hn : NMS S Y cs m N K h) (mk : MOK S Y N) (hY9 : Y ≤ 999) (hh : HI h) (q0 : ¬ Y < 999 → Q (some (.int (-3))) h) (hQ : Y < 999 → ∀ (r : Int32) h', HI h' → frm W12 h h' → BSET r (zC S Y cs m N K) → h'.2.1 93 2 = h.2.1 93 2 ||| r → h'.2.1 93 1 = h.2.1 93 1 + 1 → (∀ p, p < 7 → zC S Y cs m N K p = true → p < N) → Q (some (.int r)) h') : Ends X (dp + 1 + 1 + 1 + 1 + 1 + 1 + 1 + 1 + 1 + 1 + 1) 159 0 [.ref 93] [] h Q := by
  have j9 : (999 : Int32).toInt = 999 := rfl
  have y := hn.1.2.2
  have N7 := mk.2.2.2
  refine w_msht hh.hs ⟨fun e => ?_, fun e => ?_⟩
  · have e : ¬ (h.2.1 93 1).toInt = (999 : Int32).toInt := of_decide_eq_true (cJ e)
    exact mgo_ok hn mk (by omega) hh (fun r h' g f _ b v1 v2 => ⟨r, rfl, g.hs, hQ (by omega) r h' g f b v1 v2 (fun p _ z => zC_R N7 z)⟩)
  · have e : ¬ ¬ (h.2.1 93 1).toInt = (999 : Int32).toInt := of_decide_eq_false (cJ e)
    exact q0 (by omega)
/-- of -/
theorem mof_ok {dp : Nat} (hn : NMS S Y cs m N K h) (mk : MOK S Y N) (hh : HI h) (pI wI : Int32) (hQ : ∀ (r : Int32) h', HI h' → RST h h' → r.toInt = zOf S Y cs m N K pI wI → Q (some (.int r)) h') : Ends X (dp + 1 + 1 + 1 + 1 + 1 + 1 + 1 + 1 + 1) 149 0 [.ref 93, .int pI, .int wI] [] h Q := by
  have N7 := mk.2.2.2
  unfold zOf at hQ
  refine w_mof pI wI hh.hs (mis_ok hn hh pI ⟨_, rfl, hh.hs, fun e => ?_, fun e => ?_⟩)
  · have e := of_decide_eq_true (cn2 e)
    have hp : pI.toInt = (pI.toInt.toNat : Int) := by omega
    have hpN : pI.toInt.toNat < N := by omega
    rw [if_neg (fun z => z e)] at hQ
    have ip : inB pI 7 = true := inB_iff (by omega) (by omega)
    have en : pI.toNatClampNeg = pI.toInt.toNat := rfl
    rw [en]
    generalize pI.toInt.toNat = p at hp hpN hQ
    obtain ⟨k0, k1, k2, k3, k4⟩ := hn.1.1 p (by omega)
    have dv := fun (v : Nat) (w : wI.toInt = v) (v4 : v ≤ 4) => (show (if ¬ (0 ≤ wI.toInt ∧ wI.toInt ≤ 9) then (-1 : Int) else if wI.toInt ≤ 4 then S wI.toInt.toNat p else if wI.toInt = 5 then ((K p).toNat : Int) else zOfM S Y cs m N K p wI.toInt) = S v p by rw [if_neg (by omega), if_pos (by omega), w]; rfl)
    have dm := fun (w : 6 ≤ wI.toInt ∧ wI.toInt ≤ 9) => (show (if ¬ (0 ≤ wI.toInt ∧ wI.toInt ≤ 9) then (-1 : Int) else if wI.toInt ≤ 4 then S wI.toInt.toNat p else if wI.toInt = 5 then ((K p).toNat : Int) else zOfM S Y cs m N K p wI.toInt) = zOfM S Y cs m N K p wI.toInt by rw [if_neg (by omega), if_neg (by omega), if_neg (by omega)])
    refine ⟨fun c => ?_, fun c => ⟨ip, ?_⟩, fun c => ⟨ip, ?_⟩, fun c => ⟨ip, ?_⟩, fun c => ⟨ip, ?_⟩, fun c => ⟨ip, ?_⟩, fun c => ?_, fun c => ?_, fun c => ?_, fun c => ?_, fun c => ?_⟩
    · exact hQ _ h hh RST.rf (by rw [if_pos (by omega)]; rfl)
    · exact hQ _ h hh RST.rf (by rw [dv 0 c (by decide)]; exact k0)
    · exact hQ _ h hh RST.rf (by rw [dv 1 c (by decide)]; exact k1)
    · exact hQ _ h hh RST.rf (by rw [dv 2 c (by decide)]; exact k2)
    · exact hQ _ h hh RST.rf (by rw [dv 3 c (by decide)]; exact k3)
    · exact hQ _ h hh RST.rf (by rw [dv 4 c (by decide)]; exact k4)
    · rw [if_neg (by omega), if_neg (by omega), if_pos c] at hQ
      rw [hn.2.2.2.2.1.bitv hp (by omega)]
      exact hQ _ h hh RST.rf (by cases K p <;> rfl)
    all_goals
      rw [dm (by omega)] at hQ
      unfold zOfM at hQ
    · refine mrn_ok hn hh pI p hp (by omega) hpN ⟨_, rfl, hh.hs, fun d => ?_, fun d => ?_⟩
      · have d := cz d
        rw [Bool.not_eq_false'] at d
        exact hQ _ h hh RST.rf (by rw [if_pos d, if_neg (by omega), if_neg (by omega)]; rfl)
      · have d := cn d
        rw [Bool.not_eq_true'] at d
        exact mway_ok mk hn.d hh pI p hp (by omega) (fun r h' g f v => ⟨r, rfl, g.hs, hQ r h' g (RST.x (WPi_X f)) (by rw [if_neg (by rw [d]; decide), if_pos c, v, mW_z])⟩)
    · refine mrn_ok hn hh pI p hp (by omega) hpN ⟨_, rfl, hh.hs, fun d => ?_, fun d => ?_⟩
      · have d := cz d
        rw [Bool.not_eq_false'] at d
        exact mrof_ok mk hn.d hh pI p hp (by omega) (fun r h' g f v => ⟨r, rfl, g.hs, hQ r h' g (RST.x (WPi_X f)) (by rw [if_pos d, if_pos c, v])⟩)
      · have d := cn d
        rw [Bool.not_eq_true'] at d
        exact hQ _ h hh RST.rf (by rw [if_neg (by rw [d]; decide), if_neg (by omega), if_neg (by omega)]; rfl)
    · refine mrn_ok hn hh pI p hp (by omega) hpN ⟨_, rfl, hh.hs, fun d => ?_, fun d => ?_⟩
      · have d := cz d
        rw [Bool.not_eq_false'] at d
        exact mhof_ok mk hn.d hh pI p hp (by omega) (fun r h' g f v => ⟨r, rfl, g.hs, hQ r h' g (RST.x (WPi_X f)) (by rw [if_pos d, if_neg (by omega), if_pos c, v])⟩)
      · have d := cn d
        rw [Bool.not_eq_true'] at d
        exact hQ _ h hh RST.rf (by rw [if_neg (by rw [d]; decide), if_neg (by omega), if_neg (by omega)]; rfl)
    · refine mrn_ok hn hh pI p hp (by omega) hpN ⟨_, rfl, hh.hs, fun d => ?_, fun d => ?_⟩
      · have d := cz d
        rw [Bool.not_eq_false'] at d
        exact hQ _ h hh RST.rf (by rw [if_pos d, if_neg (by omega), if_neg (by omega)]; rfl)
      · have d := cn d
        rw [Bool.not_eq_true'] at d
        exact mslp_ok mk hn.d hh pI p hp (by omega) (fun r h' g f v => ⟨r, rfl, g.hs, hQ r h' g (RST.x (WPi_X f)) (by rw [if_neg (by rw [d]; decide), if_neg (by omega), if_pos c, v, mW_z])⟩)
  · exact hQ _ h hh RST.rf (by rw [if_pos (of_decide_eq_false (cz2 e))]; rfl)
end MCALLS3
end JN99tz7mcalls3
