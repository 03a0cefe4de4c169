/-! Those who catch: how far each reaches, how hard each holds; the class's way. -/
/-- what is asked of a person on a lane -/
def zfc (S : Nat → Nat → Int) (Y : Int) (p : Nat) (l : Int) : Int → Int := fun f => if f = 0 then (p : Int) else if f = 1 then S 0 p else if f = 2 then l else if f = 3 then S 4 p else if f = 4 then S 3 p else Y % 10
/-- the copy of the group holds S -/
def CG (h : Hp) (S : Nat → Nat → Int) (Y : Int) : Prop := (∀ p, p < 7 → (h.2.1 19 p).toInt = S 0 p ∧ (h.2.1 20 p).toInt = S 1 p ∧ (h.2.1 21 p).toInt = S 2 p ∧ (h.2.1 22 p).toInt = S 3 p ∧ (h.2.1 23 p).toInt = S 4 p) ∧ (∀ i, i < 28 → (h.2.1 24 i).toInt = S 5 i) ∧ (h.2.1 18 8).toInt = Y
def WLR : List (Nat × Nat) := [(31, 999)]
def WCX : List (Nat × Nat) := [(31, 999), (32, 999), (33, 999), (34, 999), (35, 999), (36, 999), (37, 999), (17, 10), (17, 11)]
theorem WCX_in {a k : Nat} (h : inW WCX a k = true) : (31 ≤ a ∧ a ≤ 37) ∨ (a = 17 ∧ (k = 10 ∨ k = 11)) := by
  simp only [inW, WCX, List.any_cons, List.any_nil, Bool.or_false, Bool.or_eq_true, Bool.and_eq_true, beq_iff_eq] at h
  omega
theorem WCX_n {a k : Nat} (h1 : ¬ (31 ≤ a ∧ a ≤ 37)) (h2 : ¬ (a = 17 ∧ (k = 10 ∨ k = 11))) : inW WCX a k = false := by
  cases c : inW WCX a k with
  | false => rfl
  | true =>
    rcases WCX_in c with c | c
    · exact absurd c h1
    · exact absurd c h2
theorem CG.fr {h h' : Hp} {S : Nat → Nat → Int} {Y : Int} (hg : CG h S Y) (hf : frm WCX h h') : CG h' S Y := by
  have f : ∀ a k, 18 ≤ a → a ≤ 24 → h'.2.1 a k = h.2.1 a k := fun a k h1 h2 => frI hf (WCX_n (by omega) (by omega))
  refine ⟨fun p hp => ?_, fun i hi => ?_, ?_⟩
  · rw [f 19 p (by decide) (by decide), f 20 p (by decide) (by decide), f 21 p (by decide) (by decide), f 22 p (by decide) (by decide), f 23 p (by decide) (by decide)]
    exact hg.1 p hp
  · rw [f 24 i (by decide) (by decide)]
    exact hg.2.1 i hi
  · rw [f 18 8 (by decide) (by decide)]
    exact hg.2.2
/-- the yard that is asked -/
def YR (q : Nat) (h : Hp) (cs : List Cl) (m : List Int) : Prop := h.2.2.2 17 1 = some q ∧ RY q h cs m
theorem YR.fr {q : Nat} {h h' : Hp} {cs : List Cl} {m : List Int} (hY : YB q) (hr : YR q h cs m) (hf : frm WCX h h') : YR q h' cs m := by
  have r := yb_rng hY
  have f : ∀ a k, 39 ≤ a → h'.2.1 a k = h.2.1 a k := fun a k h1 => frI hf (WCX_n (by omega) (by omega))
  refine ⟨by rw [(hf 17 1 (WCX_n (by decide) (by decide))).2.2]; exact hr.1, by rw [f q 0 (by omega)]; exact hr.2.1, fun c hc => ?_, fun j hj => by rw [f (q + 4) j (by omega)]; exact hr.2.2.2 j hj⟩
  rw [f (q + 1) c (by omega), f (q + 2) c (by omega), f (q + 3) c (by omega)]
  exact hr.2.2.1 c hc
theorem HI_full {h : Hp} {a k : Nat} {x : Int32} (hh : HI h) (hi : ivl a k = (-2147483648, 2147483647)) : HI (hpI h a k x) := by
  have hx := i32r x
  simp only [fI] at hx
  exact HI_put hh (by rw [hi]; exact hx.1) (by rw [hi]; exact hx.2)
theorem iv_full : ∀ a, 31 ≤ a → a ≤ 34 → ∀ k, k < 7 → ivl a k = (-2147483648, 2147483647) := by
  have : ((List.range 35).all (fun a => (List.range 7).all (fun k => decide (a < 31) || decide (ivl a k = (-2147483648, 2147483647))))) = true := by decide +kernel
  intro a h1 h2 k hk
  have := List.all_eq_true.mp (List.all_eq_true.mp this a (List.mem_range.mpr (by omega))) k (List.mem_range.mpr hk)
  rw [Bool.or_eq_true, decide_eq_true_eq, decide_eq_true_eq] at this
  rcases this with t | t
  · omega
  · exact t
theorem iv_full36 : ∀ k, k < 7 → ivl 36 k = (-2147483648, 2147483647) := by
  have : ((List.range 7).all (fun k => decide (ivl 36 k = (-2147483648, 2147483647)))) = true := by decide +kernel
  exact fun k hk => of_decide_eq_true (List.all_eq_true.mp this k (List.mem_range.mpr hk))
section CATCH
variable {X : Scr} {Q : Option Value → Hp → Prop}
theorem lrn_ok {dp : Nat} {h : Hp} {S : Nat → Nat → Int} {Y : Int} (pI lI : Int32) (p : Nat) (hp : pI.toInt = p) (h7 : p < 7) (hh : HI h) (hg : CG h S Y) (hQ : ∀ h', HI h' → frm WLR h h' → FCT h' (zfc S Y p lI.toInt) → Q none h') : Ends X (dp + 1) 24 0 [.ref 17, .int pI, .int lI] [] h Q := by
  have ip : inB pI 7 = true := inB_iff (by omega) (by omega)
  have en : pI.toNatClampNeg = p := by show pI.toInt.toNat = _; omega
  have k0 : (0 : Int32).toNatClampNeg = 0 := rfl
  have k1 : (1 : Int32).toNatClampNeg = 1 := rfl
  have k2 : (2 : Int32).toNatClampNeg = 2 := rfl
  have k3 : (3 : Int32).toNatClampNeg = 3 := rfl
  have k4 : (4 : Int32).toNatClampNeg = 4 := rfl
  have k5 : (5 : Int32).toNatClampNeg = 5 := rfl
  have f31 : ∀ k, k < 7 → ivl 31 k = (-2147483648, 2147483647) := iv_full 31 (by decide) (by decide)
  obtain ⟨g1, g2, g3, g4, g5⟩ := hg.1 p h7
  refine w_lrn pI lI hh.hs ⟨by decide, ip, by decide, by decide, ip, by decide, ip, by decide, ?_⟩
  rw [k0, k1, k2, k3, k4, en]
  have hh5 : HI (hpI (hpI (hpI (hpI (hpI h 31 0 pI) 31 1 (h.2.1 19 p)) 31 2 lI) 31 3 (h.2.1 23 p)) 31 4 (h.2.1 22 p)) := HI_full (HI_full (HI_full (HI_full (HI_full hh (f31 0 (by decide))) (f31 1 (by decide))) (f31 2 (by decide))) (f31 3 (by decide))) (f31 4 (by decide))
  have wi : ∀ k, inW WLR 31 k = true := fun k => by simp [inW, WLR]
  have fr5 : frm WLR h (hpI (hpI (hpI (hpI (hpI h 31 0 pI) 31 1 (h.2.1 19 p)) 31 2 lI) 31 3 (h.2.1 23 p)) 31 4 (h.2.1 22 p)) := frm_put (frm_put (frm_put (frm_put (frm_put frm_refl (wi _)) (wi _)) (wi _)) (wi _)) (wi _)
  have j10 : (10 : Int32).toInt = 10 := rfl
  refine fm_ok _ 10 hh5.hs (by decide) (fun r hr => ⟨r, rfl, hh5.hs, by decide, ?_⟩)
  rw [k5]
  refine hQ _ (HI_full hh5 (f31 5 (by decide))) (frm_put fr5 (wi _)) (fun j hj => ?_)
  unfold zfc
  match j, hj with
  | 0, _ =>
    rw [put_ne (by omega), put_ne (by omega), put_ne (by omega), put_ne (by omega), put_ne (by omega), put_at]
    exact hp
  | 1, _ =>
    rw [put_ne (by omega), put_ne (by omega), put_ne (by omega), put_ne (by omega), put_at]
    exact g1
  | 2, _ =>
    rw [put_ne (by omega), put_ne (by omega), put_ne (by omega), put_at]
    rfl
  | 3, _ =>
    rw [put_ne (by omega), put_ne (by omega), put_at]
    exact g5
  | 4, _ =>
    rw [put_ne (by omega), put_at]
    exact g4
  | 5, _ =>
    rw [put_at, hr, j10, hg.2.2]
    rfl
  | j + 6, h => omega
/-- whether a lane is within reach -/
def znr (lane rc : Int) (j : Nat) : Bool := decide ((if 0 ≤ (j : Int) - lane then (j : Int) - lane else -((j : Int) - lane)) ≤ rc)
def WRO : List (Nat × Nat) := [(32, 999)]
theorem WRO_in {k : Nat} : inW WRO 32 k = true := by simp [inW, WRO]
theorem rout_go {dp : Nat} (pI : Int32) (p : Nat) (hp : pI.toInt = p) (h7 : p < 7) (lane rc : Int) (l0 : 0 ≤ lane) (l6 : lane ≤ 6) : ∀ (n l : Nat) (lI : Int32) (h : Hp) (F : Nat → Nat → Bool), l + n = 7 → lI.toInt = l → HI h → (h.2.1 21 p).toInt = lane → (h.2.1 33 p).toInt = rc → (∀ j, j < 7 → BSET (h.2.1 32 j) (F j)) → (∀ h', HI h' → frm WRO h h' → (∀ j, j < 7 → BSET (h'.2.1 32 j) (fun x => F j x || (decide (l ≤ j) && (decide (x = p) && znr lane rc j)))) → Q none h') → Ends X (dp + 1) 12 2 [.ref 17, .int pI, .int lI] [] h Q
  | n, l, lI, h, F, hn, hl, hh, hla, hrc, hF, hQ => by
    have ip : inB pI 7 = true := inB_iff (by omega) (by omega)
    have en : pI.toNatClampNeg = p := by show pI.toInt.toNat = _; omega
    have j7 : (7 : Int32).toInt = 7 := rfl
    refine w_rout1 pI lI hh.hs ⟨fun e => ?_, fun e => ⟨ip, ?_⟩⟩
    · have e : (7 : Int32).toInt ≤ lI.toInt := of_decide_eq_true (cI e)
      refine hQ h hh frm_refl (fun j hj => (hF j hj).cg (fun x _ => ?_))
      rw [decide_eq_false (by omega : ¬ l ≤ j), Bool.false_and, Bool.or_false]
    · have e : ¬ (7 : Int32).toInt ≤ lI.toInt := of_decide_eq_false (cI e)
      have l7 : l < 7 := by omega
      rw [en]
      have dv : (lI - h.2.1 21 p).toInt = (l : Int) - lane := by rw [i_sub (by rw [hla]; omega) (by rw [hla]; omega), hla, hl]
      refine abs_ok hh.hs (by rw [dv]; omega) (fun r hr => ⟨r, rfl, hh.hs, ip, fun e2 => ?_, fun e2 => ⟨inB_iff (by omega) (by omega), inB_iff (by omega) (by omega), ?_⟩⟩)
      all_goals
        rw [dv] at hr
        have n1 : (lI + 1).toInt = ((l + 1 : Nat) : Int) := by rw [i_add (by rw [i1]; omega) (by rw [i1]; omega), i1]; omega
        obtain ⟨n, rfl⟩ : ∃ k, n = k + 1 := ⟨n - 1, by omega⟩
      · have e2 : (h.2.1 33 p).toInt < r.toInt := of_decide_eq_true (cI e2)
        have nz : znr lane rc l = false := by
          unfold znr
          rw [decide_eq_false]
          omega
        refine rout_go pI p hp h7 lane rc l0 l6 n (l + 1) (lI + 1) h F (by omega) n1 hh hla hrc hF (fun h' a1 a2 a3 => hQ h' a1 a2 (fun j hj => (a3 j hj).cg (fun x _ => ?_)))
        by_cases c : j = l
        · subst c
          rw [nz, Bool.and_false, Bool.and_false, Bool.and_false]
        · by_cases d : l ≤ j
          · rw [decide_eq_true d, decide_eq_true (by omega : l + 1 ≤ j)]
          · rw [decide_eq_false d, decide_eq_false (by omega : ¬ l + 1 ≤ j)]
      · have e2 : ¬ (h.2.1 33 p).toInt < r.toInt := of_decide_eq_false (cI e2)
        have nz : znr lane rc l = true := by
          unfold znr
          rw [decide_eq_true]
          omega
        rw [show lI.toNatClampNeg = lI.toInt.toNat from rfl, show lI.toInt.toNat = l by omega]
        refine rout_go pI p hp h7 lane rc l0 l6 n (l + 1) (lI + 1) _ (fun j x => F j x || (decide (j = l) && decide (x = p))) (by omega) n1 (HI_full hh (iv_full 32 (by decide) (by decide) l l7)) (by rw [put_ne (by omega)]; exact hla) (by rw [put_ne (by omega)]; exact hrc) (fun j hj => ?_) (fun h' a1 a2 a3 => hQ h' a1 (frm_trans (frm_put frm_refl WRO_in) a2) (fun j hj => (a3 j hj).cg (fun x _ => ?_)))
        · rw [put_if]
          by_cases c : j = l
          · rw [if_pos c]
            subst c
            refine ((hF j hj).or (BSET.one hp h7)).cg (fun x _ => ?_)
            rw [decide_eq_true (rfl : j = j), Bool.true_and]
          · rw [if_neg c]
            refine (hF j hj).cg (fun x _ => ?_)
            rw [decide_eq_false c, Bool.false_and, Bool.or_false]
        · show ((F j x || (decide (j = l) && decide (x = p))) || (decide (l + 1 ≤ j) && (decide (x = p) && znr lane rc j))) = _
          by_cases c : j = l
          · subst c
            rw [nz, decide_eq_true (rfl : j = j), decide_eq_true (Nat.le_refl j), decide_eq_false (by omega : ¬ j + 1 ≤ j), Bool.false_and, Bool.or_false, Bool.and_true]
          · rw [decide_eq_false c, Bool.false_and, Bool.or_false]
            by_cases d : l ≤ j
            · rw [decide_eq_true d, decide_eq_true (by omega : l + 1 ≤ j)]
            · rw [decide_eq_false d, decide_eq_false (by omega : ¬ l + 1 ≤ j)]
end CATCH
