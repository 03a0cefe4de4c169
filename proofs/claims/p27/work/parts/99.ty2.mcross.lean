/-! The reference's shout, exactly. -/
/-- the first so many in it -/
def popn (f : Nat → Bool) : Nat → Nat
  | 0 => 0
  | n + 1 => popn f n + (f n).toNat
theorem popn_7 (f : Nat → Bool) : popn f 7 = pop f := by
  unfold pop
  simp only [popn, Nat.zero_add]
theorem popn_ext {f : Nat → Bool} {N : Nat} (hf : ∀ p, p < 7 → f p = true → p < N) : ∀ k, N + k ≤ 7 → popn f (N + k) = popn f N
  | 0, _ => rfl
  | k + 1, h => by
    have i := popn_ext hf k (by omega)
    have z : f (N + k) = false := by
      cases c : f (N + k) with
      | false => rfl
      | true => have := hf (N + k) (by omega) c; omega
    show popn f (N + k) + (f (N + k)).toNat = _
    rw [z, i]
    rfl
theorem popn_N {f : Nat → Bool} {N : Nat} (hN7 : N ≤ 7) (hf : ∀ p, p < 7 → f p = true → p < N) : popn f N = pop f := by
  rw [← popn_7, ← popn_ext hf (7 - N) (by omega), show N + (7 - N) = 7 by omega]
theorem zheld_ext {H : Nat → Int} {f : Nat → Bool} {N : Nat} (hf : ∀ p, p < 7 → f p = true → p < N) : ∀ k, N + k ≤ 7 → zheld H f (N + k) = zheld H f N
  | 0, _ => rfl
  | k + 1, h => by
    have i := zheld_ext (H := H) hf k (by omega)
    show zheld H f (N + k) + (if f (N + k) = true then H (N + k) else 0) = _
    rw [if_neg (fun z => by have := hf (N + k) (by omega) z; omega), i, Int.add_zero]
theorem zheld_N {H : Nat → Int} {f : Nat → Bool} {N : Nat} (hN7 : N ≤ 7) (hf : ∀ p, p < 7 → f p = true → p < N) : zheld H f N = zheld H f 7 := by
  rw [← zheld_ext hf (7 - N) (by omega), show N + (7 - N) = 7 by omega]
theorem zsh_ext {S : Nat → Nat → Int} {R : Nat → Bool} {p N : Nat} (hR : ∀ p, p < 7 → R p = true → p < N) : ∀ k, N + k ≤ 7 → zsh S R p (N + k) = zsh S R p N
  | 0, _ => rfl
  | k + 1, h => by
    have i := zsh_ext (S := S) (p := p) hR k (by omega)
    show zsh S R p (N + k + 1) = _
    rw [zsh, if_neg, i]
    intro z
    rw [Bool.and_eq_true, Bool.and_eq_true] at z
    have := hR (N + k) (by omega) z.1.1
    omega
theorem zshl_N {S : Nat → Nat → Int} {R : Nat → Bool} {p N : Nat} (hN7 : N ≤ 7) (hR : ∀ p, p < 7 → R p = true → p < N) : zshl S R p N = zshl S R p 7 := by
  unfold zshl
  rw [← zsh_ext hR (7 - N) (by omega), show N + (7 - N) = 7 by omega]
/-- the reference stands for a shout: the people, the yard, who is there, one sent, one behind another -/
def MST (S : Nat → Nat → Int) (Y : Int) (cs : List Cl) (m : List Int) (N : Nat) (K R : Nat → Bool) (hd : Bool) (one tol fo le : Int) (h : Hp) : Prop := MG h S Y ∧ MY h cs m ∧ TX h ∧ (h.2.1 93 0).toInt = N ∧ BSET (h.2.1 93 2) K ∧ (∀ p, p < 7 → K p = true → p < N) ∧ (∃ G, BSET (h.2.1 93 32) G ∧ ∀ p, p < 7 → (decide (p < N) && !(K p || G p)) = R p) ∧ h.2.1 93 27 = b2i hd ∧ (h.2.1 93 28).toInt = one ∧ (h.2.1 93 29).toInt = tol ∧ (h.2.1 93 30).toInt = fo ∧ (0 ≤ fo → (h.2.1 93 31).toInt = le)
theorem MST.fr {S : Nat → Nat → Int} {Y : Int} {cs : List Cl} {m : List Int} {N : Nat} {K R : Nat → Bool} {hd : Bool} {one tol fo le : Int} {h h' : Hp} (hm : MST S Y cs m N K R hd one tol fo le h) (hf : frm WMX h h') : MST S Y cs m N K R hd one tol fo le h' := by
  obtain ⟨a1, a2, a3, a4, a5, a6, ⟨G, c1, c2⟩, a8, a9, a10, a11, a12⟩ := hm
  exact ⟨a1.fr hf, a2.fr hf, a3.fr hf, by rw [frI hf (a := 93) rfl]; exact a4, by rw [frI hf (a := 93) rfl]; exact a5, a6, ⟨G, by rw [frI hf (a := 93) rfl]; exact c1, c2⟩, by rw [frI hf (a := 93) rfl]; exact a8, by rw [frI hf (a := 93) rfl]; exact a9, by rw [frI hf (a := 93) rfl]; exact a10, by rw [frI hf (a := 93) rfl]; exact a11, fun z => by rw [frI hf (a := 93) rfl]; exact a12 z⟩
/-- what stays the same through all that follows -/
def MOK (S : Nat → Nat → Int) (Y : Int) (N : Nat) : Prop := SRG S ∧ SR5 S ∧ 0 ≤ Y ∧ N ≤ 7
theorem bitB_s {b k : Int32} {f : Nat → Bool} {p : Nat} (hb : BSET b f) (hk : k.toInt = p) (h7 : p < 7) : bitB b k = f p := hb.bit hk h7
section MCR
variable {X : Scr} {Q : Option Value → Hp → Prop} {S : Nat → Nat → Int} {Y : Int} {cs : List Cl} {m : List Int} {N : Nat} {K R : Nat → Bool} {hd : Bool} {one tol fo le : Int} {h : Hp}
theorem mrun_ok {dp : Nat} (hm : MST S Y cs m N K R hd one tol fo le h) (hh : HI h) (pI : Int32) (p : Nat) (hp : pI.toInt = p) (h7 : p < 7) (hN : p < N) (hQ : Q (some (.int (b2i (R p)))) h) : Ends X (dp + 1) 139 0 [.ref 93, .int pI] [] h Q := by
  obtain ⟨-, -, -, -, a5, -, ⟨G, c1, c2⟩, -⟩ := hm
  refine run_ok pI hh.hs ?_
  unfold runM
  rw [bitB_s (a5.or c1) hp h7]
  have := c2 p h7
  rw [decide_eq_true hN, Bool.true_and] at this
  rw [this]
  exact hQ
theorem mrof_ok {dp : Nat} (mk : MOK S Y N) (hm : MST S Y cs m N K R hd one tol fo le h) (hh : HI h) (pI : Int32) (p : Nat) (hp : pI.toInt = p) (h7 : p < 7) (hQ : ∀ (r : Int32) h', HI h' → frm WPi h h' → r.toInt = zreach S Y cs m p → Q (some (.int r)) h') : Ends X (dp + 1 + 1 + 1) 140 0 [.ref 93, .int pI] [] h Q := by
  have en : pI.toNatClampNeg = p := by show pI.toInt.toNat = _; omega
  obtain ⟨a1, a2, a3, -⟩ := id hm
  refine w_mrof pI hh.hs ⟨inB_iff (by omega) (by omega), sum_ok _ _ _ _ (by omega) (by omega) hh a3 (fun h' g1 g2 => ⟨_, rfl, g1.hs, hQ _ h' g1 g2 ?_⟩)⟩
  rw [sumM_z a1 mk.2.2.1 a2 hp h7, en, (a1.1 p h7).2.2.1]
  rfl
theorem mhof_ok {dp : Nat} (mk : MOK S Y N) (hm : MST S Y cs m N K R hd one tol fo le h) (hh : HI h) (pI : Int32) (p : Nat) (hp : pI.toInt = p) (h7 : p < 7) (hQ : ∀ (r : Int32) h', HI h' → frm WPi h h' → r.toInt = zhold S Y cs m p → Q (some (.int r)) h') : Ends X (dp + 1 + 1 + 1) 141 0 [.ref 93, .int pI] [] h Q := by
  have en : pI.toNatClampNeg = p := by show pI.toInt.toNat = _; omega
  obtain ⟨a1, a2, a3, -⟩ := id hm
  have ip : inB pI 7 = true := inB_iff (by omega) (by omega)
  refine w_mhof pI hh.hs ⟨ip, ip, sum_ok _ _ _ _ (by omega) (by omega) hh a3 (fun h' g1 g2 => ⟨_, rfl, g1.hs, hQ _ h' g1 g2 ?_⟩)⟩
  have v := sumM_z (zI := 0) (wI := 1) (lI := h.2.1 96 p) a1 mk.2.2.1 a2 hp h7
  have one : (1 : Int32).toInt = 1 := rfl
  rw [(a1.1 p h7).2.2.1, one] at v
  have b := a2.1.b (zfc S Y p (S 2 p)) 1
  have v2 : (sumM h 1 pI (h.2.1 96 p) 0).toInt = zsum m (zfc S Y p (S 2 p)) 1 cs := by
    rw [v]
    split
    · rfl
    · rename_i c
      rw [zsum_no (by cases z : zhas 1 cs with | false => rfl | true => exact absurd z c)]
      rfl
  have s := (mk.1 p h7).2.2.2.2
  have g5 := (a1.1 p h7).2.2.2.2
  rw [en]
  unfold zhold
  rw [i_add (by omega) (by omega), v2, g5]
theorem mapt_ok {dp : Nat} (hs : HS h) (aI bI : Int32) (hr : -1000 ≤ aI.toInt - bI.toInt ∧ aI.toInt - bI.toInt ≤ 1000) (hQ : ∀ r : Int32, r.toInt = apt aI.toInt bI.toInt → Q (some (.int r)) h) : Ends X dp 142 0 [.ref 93, .int aI, .int bI] [] h Q := by
  unfold apt at hQ
  refine w_mapt aI bI hs ⟨fun e => ?_, fun e => ?_⟩
  · have e : bI.toInt ≤ aI.toInt := of_decide_eq_true (cJ e)
    refine hQ _ ?_
    rw [if_pos (by omega), i_sub (by omega) (by omega)]
  · have e : ¬ bI.toInt ≤ aI.toInt := of_decide_eq_false (cJ e)
    refine hQ _ ?_
    rw [if_neg (by omega), i_sub (by omega) (by omega)]
    omega
theorem mrea_ok {dp : Nat} (mk : MOK S Y N) (hm : MST S Y cs m N K R hd one tol fo le h) (hh : HI h) (pI lI : Int32) (p l : Nat) (hp : pI.toInt = p) (h7 : p < 7) (hl : lI.toInt = l) (l7 : l < 7) (hQ : ∀ h', HI h' → frm WPi h h' → Q (some (.int (b2i (hd || znr (S 2 p) (zreach S Y cs m p) l)))) h') : Ends X (dp + 1 + 1 + 1 + 1) 143 0 [.ref 93, .int pI, .int lI] [] h Q := by
  have en : pI.toNatClampNeg = p := by show pI.toInt.toNat = _; omega
  obtain ⟨a1, a2, a3, a4, a5, a6, a7, a8, -⟩ := id hm
  have s := (mk.1 p h7).2.2.1
  have g3 := (a1.1 p h7).2.2.1
  refine w_mrea pI lI hh.hs ⟨fun e => ?_, fun e => ⟨inB_iff (by omega) (by omega), ?_⟩⟩
  · rw [a8] at e
    rw [cn2 e] at hQ
    exact hQ h hh frm_refl
  · rw [a8] at e
    have hd0 := cz2 e
    rw [hd0, Bool.false_or] at hQ
    rw [en]
    refine mapt_ok hh.hs _ _ (by omega) (fun r4 h4 => ⟨r4, rfl, hh.hs, mrof_ok mk hm hh pI p hp h7 (fun r7 h' g1 g2 hr7 => ⟨r7, rfl, g1.hs, fun e2 => ?_, fun e2 => ?_⟩)⟩)
    all_goals
      rw [g3, hl] at h4
      have hQ := hQ h' g1 g2
      have ea : apt (S 2 p) l = (if 0 ≤ (l : Int) - S 2 p then (l : Int) - S 2 p else -((l : Int) - S 2 p)) := by
        unfold apt
        split <;> split <;> omega
      unfold znr at hQ
      rw [← ea] at hQ
    · have e2 : r7.toInt < r4.toInt := of_decide_eq_true (cJ e2)
      rw [decide_eq_false (by omega)] at hQ
      exact hQ
    · have e2 : ¬ r7.toInt < r4.toInt := of_decide_eq_false (cJ e2)
      rw [decide_eq_true (by omega)] at hQ
      exact hQ
theorem mmr_go {dp : Nat} (mk : MOK S Y N) (lI : Int32) (l : Nat) (hl : lI.toInt = l) (l7 : l < 7) : ∀ (n c : Nat) (nI cI : Int32) (h : Hp), c + n = N → cI.toInt = c → nI.toInt = popn (zin S Y cs m K hd l) c → MST S Y cs m N K R hd one tol fo le h → HI h → (∀ (r : Int32) h', HI h' → frm WPi h h' → r.toInt = popn (zin S Y cs m K hd l) N → Q (some (.int r)) h') → Ends X (dp + 1 + 1 + 1 + 1 + 1) 144 4 [.ref 93, .int lI, .int nI, .int cI] [] h Q
  | n, c, nI, cI, h, hn, hc, hv, hm, hh, hQ => by
    obtain ⟨a1, a2, a3, a4, a5, a6, a7, a8, -⟩ := id hm
    have n7 := mk.2.2.2
    refine w_mmr1 lI nI cI hh.hs ⟨fun e => ?_, fun e => ?_⟩
    · have e : (h.2.1 93 0).toInt ≤ cI.toInt := of_decide_eq_true (cJ e)
      have : c = N := by omega
      subst this
      exact hQ nI h hh frm_refl hv
    have e : ¬ (h.2.1 93 0).toInt ≤ cI.toInt := of_decide_eq_false (cJ e)
    obtain ⟨n, rfl⟩ : ∃ k, n = k + 1 := ⟨n - 1, by omega⟩
    have n1 : (cI + 1).toInt = ((c + 1 : Nat) : Int) := by rw [i_add (by rw [i1]; omega) (by rw [i1]; omega), i1]; omega
    have pl : popn (zin S Y cs m K hd l) c ≤ c := by
      have : ∀ k, popn (zin S Y cs m K hd l) k ≤ k := fun k => by
        induction k with
        | zero => exact Nat.le_refl _
        | succ k ih =>
          have : (zin S Y cs m K hd l k).toNat ≤ 1 := by cases zin S Y cs m K hd l k <;> decide
          show popn (zin S Y cs m K hd l) k + (zin S Y cs m K hd l k).toNat ≤ _
          omega
      exact this c
    have pS : popn (zin S Y cs m K hd l) (c + 1) = popn (zin S Y cs m K hd l) c + (zin S Y cs m K hd l c).toNat := rfl
    have v0 : (nI + 0).toInt = nI.toInt := by rw [i_add (by rw [z0]; omega) (by rw [z0]; omega), z0]; omega
    have v1 : (nI + 1).toInt = nI.toInt + 1 := by rw [i_add (by rw [i1]; omega) (by rw [i1]; omega), i1]
    refine has_ok _ cI hh.hs ⟨_, rfl, hh.hs, fun e2 => ?_, fun e2 => ?_⟩
    · rw [bitB_s a5 hc (by omega)] at e2
      have e2 := cz e2
      refine mmr_go mk lI l hl l7 n (c + 1) _ _ h (by omega) n1 ?_ hm hh hQ
      rw [v0, hv, pS]
      unfold zin
      rw [e2, Bool.false_and]
      rfl
    · rw [bitB_s a5 hc (by omega)] at e2
      have e2 := cn e2
      refine mrea_ok mk hm hh cI lI c l hc (by omega) hl l7 (fun h6 g1 g2 => ⟨_, rfl, g1.hs, fun e3 => ?_, fun e3 => ?_⟩)
      · have e3 := cz e3
        refine mmr_go mk lI l hl l7 n (c + 1) _ _ h6 (by omega) n1 ?_ (hm.fr (WPi_X g2)) g1 (fun r h' b1 b2 b3 => hQ r h' b1 (frm_trans g2 b2) b3)
        rw [v0, hv, pS]
        unfold zin
        rw [e2, e3]
        rfl
      · have e3 := cn e3
        refine mmr_go mk lI l hl l7 n (c + 1) _ _ h6 (by omega) n1 ?_ (hm.fr (WPi_X g2)) g1 (fun r h' b1 b2 b3 => hQ r h' b1 (frm_trans g2 b2) b3)
        rw [v1, hv, pS]
        have : zin S Y cs m K hd l c = true := by
          unfold zin
          rw [e2, e3]
          rfl
        rw [this]
        show _ = ((popn (zin S Y cs m K hd l) c + 1 : Nat) : Int)
        omega
theorem zin_N (hm : MST S Y cs m N K R hd one tol fo le h) (l : Nat) : ∀ p, p < 7 → zin S Y cs m K hd l p = true → p < N := fun p h7 z => by
  obtain ⟨-, -, -, -, -, a6, -⟩ := hm
  unfold zin at z
  rw [Bool.and_eq_true] at z
  exact a6 p h7 z.1
theorem mmr_ok {dp : Nat} (mk : MOK S Y N) (hm : MST S Y cs m N K R hd one tol fo le h) (hh : HI h) (lI : Int32) (l : Nat) (hl : lI.toInt = l) (l7 : l < 7) (hQ : ∀ (r : Int32) h', HI h' → frm WPi h h' → r.toInt = pop (zin S Y cs m K hd l) → Q (some (.int r)) h') : Ends X (dp + 1 + 1 + 1 + 1 + 1) 144 0 [.ref 93, .int lI, .retAddr 0, .retAddr 0] [] h Q := by
  rw [← popn_N mk.2.2.2 (zin_N hm l)] at hQ
  exact w_mmr0 lI hh.hs (mmr_go mk lI l hl l7 N 0 0 0 h (by omega) rfl rfl hm hh hQ)
theorem mshw_go {dp : Nat} (mk : MOK S Y N) (hm : MST S Y cs m N K R hd one tol fo le h) (hh : HI h) (pI : Int32) (p : Nat) (hp : pI.toInt = p) (h7 : p < 7) (hQ : ∀ r : Int32, r.toInt = zshl S R p N → Q (some (.int r)) h) : ∀ (n o : Nat) (fI' oI : Int32), o + n = N → oI.toInt = o → fI'.toInt = (match zsh S R p o with | none => -1 | some g => (g : Int)) → Ends X (dp + 1 + 1) 145 4 [.ref 93, .int pI, .int fI', .int oI] [] h Q
  | n, o, fI', oI, hn, ho, hf => by
    obtain ⟨a1, a2, a3, a4, a5, a6, a7, a8, -⟩ := id hm
    have n7 := mk.2.2.2
    have en : pI.toNatClampNeg = p := by show pI.toInt.toNat = _; omega
    have fr : ∀ g, zsh S R p o = some g → g < o := fun g hg => zsh_lt hg
    have z0' : (0 : Int32).toInt = 0 := rfl
    refine w_mshw1 pI fI' oI hh.hs ⟨fun e => ⟨fun e2 => ?_, fun e2 => ⟨inB_iff (by omega) (by omega), ?_⟩⟩, fun e => ?_⟩
    · have e : (h.2.1 93 0).toInt ≤ oI.toInt := of_decide_eq_true (cJ e)
      have e2 : (0 : Int32).toInt ≤ fI'.toInt := of_decide_eq_true (cJ e2)
      have : o = N := by omega
      subst this
      unfold zshl at hQ
      cases z : zsh S R p o with
      | none => rw [z] at hf; simp only at hf; omega
      | some g =>
        rw [z] at hf hQ
        simp only at hf hQ
        have := fr g z
        refine ⟨inB_iff (by omega) (by omega), ?_⟩
        rw [show fI'.toNatClampNeg = g by show fI'.toInt.toNat = _; omega]
        exact hQ _ (a1.1 g (by omega)).2.2.1
    · have e : (h.2.1 93 0).toInt ≤ oI.toInt := of_decide_eq_true (cJ e)
      have e2 : ¬ (0 : Int32).toInt ≤ fI'.toInt := of_decide_eq_false (cJ e2)
      have : o = N := by omega
      subst this
      unfold zshl at hQ
      rw [en]
      cases z : zsh S R p o with
      | none =>
        rw [z] at hQ
        exact hQ _ (a1.1 p h7).2.2.1
      | some g => rw [z] at hf; simp only at hf; omega
    have e : ¬ (h.2.1 93 0).toInt ≤ oI.toInt := of_decide_eq_false (cJ e)
    obtain ⟨n, rfl⟩ : ∃ k, n = k + 1 := ⟨n - 1, by omega⟩
    have n1 : (oI + 1).toInt = ((o + 1 : Nat) : Int) := by rw [i_add (by rw [i1]; omega) (by rw [i1]; omega), i1]; omega
    have eo : oI.toNatClampNeg = o := by show oI.toInt.toNat = _; omega
    have keep : ((R o && !decide (o = p)) && zbt S (zsh S R p o) o) = false → Ends X (dp + 1 + 1) 145 4 [.ref 93, .int pI, .int fI', .int (oI + 1)] [] h Q := fun c => by
      have st : zsh S R p (o + 1) = zsh S R p o := by rw [zsh, if_neg (by rw [c]; exact Bool.false_ne_true)]
      exact mshw_go mk hm hh pI p hp h7 hQ n (o + 1) fI' (oI + 1) (by omega) n1 (by rw [st]; exact hf)
    have take : ((R o && !decide (o = p)) && zbt S (zsh S R p o) o) = true → Ends X (dp + 1 + 1) 145 4 [.ref 93, .int pI, .int oI, .int (oI + 1)] [] h Q := fun c => by
      have st : zsh S R p (o + 1) = some o := by rw [zsh, if_pos c]
      exact mshw_go mk hm hh pI p hp h7 hQ n (o + 1) oI (oI + 1) (by omega) n1 (by rw [st]; exact ho)
    refine ⟨fun c => ?_, fun c => ?_⟩
    · have c : oI.toInt = pI.toInt := of_decide_eq_true (cJ c)
      exact keep (by rw [decide_eq_true (by omega : o = p), Bool.not_true, Bool.and_false, Bool.false_and])
    have c : ¬ oI.toInt = pI.toInt := of_decide_eq_false (cJ c)
    have dp' : decide (o = p) = false := decide_eq_false (by omega)
    refine mrun_ok hm hh oI o ho (by omega) (by omega) ⟨_, rfl, hh.hs, fun e2 => ?_, fun e2 => ⟨fun e3 => ?_, fun e3 => ⟨inB_iff (by omega) (by omega), ?_⟩⟩⟩
    · exact keep (by rw [cz e2, Bool.false_and, Bool.false_and])
    · have e3 : fI'.toInt < (0 : Int32).toInt := of_decide_eq_true (cJ e3)
      refine take ?_
      rw [cn e2, dp']
      cases z : zsh S R p o with
      | none => rfl
      | some g => rw [z] at hf; simp only at hf; omega
    · have e3 : ¬ fI'.toInt < (0 : Int32).toInt := of_decide_eq_false (cJ e3)
      cases z : zsh S R p o with
      | none => rw [z] at hf; simp only at hf; omega
      | some g =>
        rw [z] at hf
        simp only at hf
        have := fr g z
        have eg : fI'.toNatClampNeg = g := by show fI'.toInt.toNat = _; omega
        have v1 := (a1.1 o (by omega)).2.2.2.2
        have v2 := (a1.1 g (by omega)).2.2.2.2
        refine ⟨inB_iff (by omega) (by omega), ?_⟩
        rw [eo, eg]
        refine ⟨fun e4 => ?_, fun e4 => ?_⟩
        · have e4 : (h.2.1 98 o).toInt ≤ (h.2.1 98 g).toInt := of_decide_eq_true (cJ e4)
          refine keep ?_
          rw [z, show zbt S (some g) o = decide (S 4 g < S 4 o) from rfl, decide_eq_false (by omega : ¬ S 4 g < S 4 o), Bool.and_false]
        · have e4 : ¬ (h.2.1 98 o).toInt ≤ (h.2.1 98 g).toInt := of_decide_eq_false (cJ e4)
          refine take ?_
          rw [z, cn e2, dp', show zbt S (some g) o = decide (S 4 g < S 4 o) from rfl, decide_eq_true (by omega : S 4 g < S 4 o)]
          rfl
theorem mR_N (hm : MST S Y cs m N K R hd one tol fo le h) : ∀ p, p < 7 → R p = true → p < N := fun p h7 z => by
  obtain ⟨-, -, -, -, -, -, ⟨G, -, c2⟩, -⟩ := hm
  have := c2 p h7
  rw [z, Bool.and_eq_true] at this
  exact of_decide_eq_true this.1
theorem mshw_ok {dp : Nat} (mk : MOK S Y N) (hm : MST S Y cs m N K R hd one tol fo le h) (hh : HI h) (pI : Int32) (p : Nat) (hp : pI.toInt = p) (h7 : p < 7) (hQ : ∀ r : Int32, r.toInt = zshl S R p 7 → Q (some (.int r)) h) : Ends X (dp + 1 + 1) 145 0 [.ref 93, .int pI, .retAddr 0, .retAddr 0] [] h Q := by
  rw [← zshl_N mk.2.2.2 (mR_N hm)] at hQ
  exact w_mshw0 pI hh.hs (mshw_go mk hm hh pI p hp h7 hQ N 0 (-1) 0 (by omega) rfl rfl)
theorem mskw_go {dp : Nat} (mk : MOK S Y N) (pI : Int32) (p : Nat) (hp : pI.toInt = p) (h7 : p < 7) : ∀ (n l : Nat) (fI' wI lI : Int32) (x : Value) (h : Hp), l + n = 7 → lI.toInt = l → fI'.toInt = (zsk (fun l => pop (zin S Y cs m K hd l)) (S 2 p) l).1 → wI.toInt = (zsk (fun l => pop (zin S Y cs m K hd l)) (S 2 p) l).2 → MST S Y cs m N K R hd one tol fo le h → HI h → (∀ (r : Int32) h', HI h' → frm WPi h h' → r.toInt = (zsk (fun l => pop (zin S Y cs m K hd l)) (S 2 p) 7).1 → Q (some (.int r)) h') → Ends X (dp + 1 + 1 + 1 + 1 + 1 + 1) 146 8 [.ref 93, .int pI, .int fI', .int wI, .int lI, x] [] h Q
  | n, l, fI', wI, lI, x, h, hn, hl, hf, hw, hm, hh, hQ => by
    have j7 : (7 : Int32).toInt = 7 := rfl
    have ip : inB pI 7 = true := inB_iff (by omega) (by omega)
    have en : pI.toNatClampNeg = p := by show pI.toInt.toNat = _; omega
    refine w_mskw1 pI fI' wI lI x hh.hs ⟨fun e => ?_, fun e => ?_⟩
    · have e : (7 : Int32).toInt ≤ lI.toInt := of_decide_eq_true (cJ e)
      have : l = 7 := by omega
      subst this
      exact hQ fI' h hh frm_refl hf
    have e : ¬ (7 : Int32).toInt ≤ lI.toInt := of_decide_eq_false (cJ e)
    obtain ⟨n, rfl⟩ : ∃ k, n = k + 1 := ⟨n - 1, by omega⟩
    have n1 : (lI + 1).toInt = ((l + 1 : Nat) : Int) := by rw [i_add (by rw [i1]; omega) (by rw [i1]; omega), i1]; omega
    have zb := zsk_b (fun l => pop (zin S Y cs m K hd l)) (fun l => pop_le _) (S 2 p) l
    have s2 := (mk.1 p h7).2.2.1
    refine mmr_ok mk hm hh lI l hl (by omega) (fun r3 h2 g2 f2 h3 => ⟨r3, rfl, g2.hs, ?_⟩)
    have hm2 := hm.fr (WPi_X f2)
    have la := (hm2.1.1 p h7).2.2.1
    have keep : ((zsk (fun l => pop (zin S Y cs m K hd l)) (S 2 p) l).2 < pop (zin S Y cs m K hd l) ∨ (pop (zin S Y cs m K hd l) = (zsk (fun l => pop (zin S Y cs m K hd l)) (S 2 p) l).2 ∧ apt (zsk (fun l => pop (zin S Y cs m K hd l)) (S 2 p) l).1 (S 2 p) ≤ apt l (S 2 p))) → Ends X (dp + 1 + 1 + 1 + 1 + 1 + 1) 146 8 [.ref 93, .int pI, .int fI', .int wI, .int (lI + 1), .int r3] [] h2 Q := fun c => by
      have st : zsk (fun l => pop (zin S Y cs m K hd l)) (S 2 p) (l + 1) = zsk (fun l => pop (zin S Y cs m K hd l)) (S 2 p) l := by rw [zsk, if_pos c]
      exact mskw_go mk pI p hp h7 n (l + 1) fI' wI (lI + 1) _ h2 (by omega) n1 (by rw [st]; exact hf) (by rw [st]; exact hw) hm2 g2 (fun r h' b1 b2 b3 => hQ r h' b1 (frm_trans f2 b2) b3)
    have take : ¬ ((zsk (fun l => pop (zin S Y cs m K hd l)) (S 2 p) l).2 < pop (zin S Y cs m K hd l) ∨ (pop (zin S Y cs m K hd l) = (zsk (fun l => pop (zin S Y cs m K hd l)) (S 2 p) l).2 ∧ apt (zsk (fun l => pop (zin S Y cs m K hd l)) (S 2 p) l).1 (S 2 p) ≤ apt l (S 2 p))) → Ends X (dp + 1 + 1 + 1 + 1 + 1 + 1) 146 8 [.ref 93, .int pI, .int lI, .int r3, .int (lI + 1), .int r3] [] h2 Q := fun c => by
      have st : zsk (fun l => pop (zin S Y cs m K hd l)) (S 2 p) (l + 1) = (l, pop (zin S Y cs m K hd l)) := by rw [zsk, if_neg c]
      exact mskw_go mk pI p hp h7 n (l + 1) lI r3 (lI + 1) _ h2 (by omega) n1 (by rw [st]; exact hl) (by rw [st]; exact h3) hm2 g2 (fun r h' b1 b2 b3 => hQ r h' b1 (frm_trans f2 b2) b3)
    generalize zsk (fun l => pop (zin S Y cs m K hd l)) (S 2 p) l = zk at hf hw zb keep take
    refine ⟨fun c => keep (Or.inl ?_), fun c => ⟨fun c2 => take ?_, fun c2 => ⟨ip, ?_⟩⟩⟩
    · have c : wI.toInt < r3.toInt := of_decide_eq_true (cJ c)
      omega
    · have c : ¬ wI.toInt < r3.toInt := of_decide_eq_false (cJ c)
      have c2 : ¬ r3.toInt = wI.toInt := of_decide_eq_true (cJ c2)
      omega
    · have c2 : ¬ ¬ r3.toInt = wI.toInt := of_decide_eq_false (cJ c2)
      rw [en]
      refine mapt_ok g2.hs _ _ (by omega) (fun r9 h9 => ⟨r9, rfl, g2.hs, ip, ?_⟩)
      refine mapt_ok g2.hs _ _ (by omega) (fun r13 h13 => ⟨r13, rfl, g2.hs, fun c3 => take ?_, fun c3 => keep (Or.inr ?_)⟩)
      all_goals rw [la, hl] at h9; rw [la, hf] at h13
      · have c3 : r9.toInt < r13.toInt := of_decide_eq_true (cJ c3)
        omega
      · have c3 : ¬ r9.toInt < r13.toInt := of_decide_eq_false (cJ c3)
        omega
theorem mskw_ok {dp : Nat} (mk : MOK S Y N) (hm : MST S Y cs m N K R hd one tol fo le h) (hh : HI h) (pI : Int32) (p : Nat) (hp : pI.toInt = p) (h7 : p < 7) (hQ : ∀ (r : Int32) h', HI h' → frm WPi h h' → r.toInt = (zsk (fun l => pop (zin S Y cs m K hd l)) (S 2 p) 7).1 → Q (some (.int r)) h') : Ends X (dp + 1 + 1 + 1 + 1 + 1 + 1) 146 0 [.ref 93, .int pI, .retAddr 0, .retAddr 0, .retAddr 0, .retAddr 0] [] h Q :=
  w_mskw0 pI hh.hs (mskw_go mk pI p hp h7 7 0 0 99 0 _ h (by decide) rfl rfl rfl hm hh hQ)
/-- the reference's ways -/
def mW (S : Nat → Nat → Int) (Y : Int) (cs : List Cl) (m : List Int) (K R : Nat → Bool) (hd : Bool) (one tol : Int) : Nat → Int := zsnt (zway S Y R (fun l => pop (zin S Y cs m K hd l))) one tol
theorem mW_b {S : Nat → Nat → Int} {Y : Int} {cs : List Cl} {m : List Int} {K R : Nat → Bool} {hd : Bool} {one tol : Int} (hsr : SRG S) (h5 : SR5 S) (ht : 0 ≤ tol ∧ tol ≤ 6) {x : Nat} (h7 : x < 7) : 0 ≤ mW S Y cs m K R hd one tol x ∧ mW S Y cs m K R hd one tol x ≤ 6 := by
  unfold mW zsnt
  split
  · exact ht
  · exact zway_b hsr h5 (fun l => pop_le _) h7
theorem mway_ok {dp : Nat} (mk : MOK S Y N) (hm : MST S Y cs m N K R hd one tol fo le h) (hh : HI h) (pI : Int32) (p : Nat) (hp : pI.toInt = p) (h7 : p < 7) (hQ : ∀ (r : Int32) h', HI h' → frm WPi h h' → r.toInt = mW S Y cs m K R hd one tol p → Q (some (.int r)) h') : Ends X (dp + 1 + 1 + 1 + 1 + 1 + 1 + 1) 147 0 [.ref 93, .int pI] [] h Q := by
  have ip : inB pI 7 = true := inB_iff (by omega) (by omega)
  have en : pI.toNatClampNeg = p := by show pI.toInt.toNat = _; omega
  obtain ⟨a1, a2, a3, a4, a5, a6, a7, a8, a9, a10, -⟩ := id hm
  obtain ⟨g1, g2, g3, g4, g5⟩ := a1.1 p h7
  have sr := mk.1 p h7
  have j4 : (4 : Int32).toInt = 4 := rfl
  unfold mW zsnt zway at hQ
  refine w_mway pI hh.hs ⟨fun e => ⟨ip, ?_⟩, fun e => ?_⟩
  · have e : ¬ pI.toInt = (h.2.1 93 28).toInt := of_decide_eq_true (cJ e)
    rw [if_neg (by omega)] at hQ
    have hq := fun r hr => hQ r h hh frm_refl hr
    rw [en, g1]
    refine ⟨fun c => ⟨ip, ?_⟩, fun c => ⟨ip, fun d => ?_, fun d => ?_⟩, fun c => ?_, fun c => ⟨ip, ?_⟩, fun c => ⟨ip, fun d => ?_, fun d => ?_⟩, fun c => ?_, fun c => ?_⟩
    · rw [if_neg (by omega), if_neg (by omega), if_neg (by omega), if_neg (by omega)] at hq
      exact hq _ g3
    · have d : (4 : Int32).toInt ≤ (h.2.1 96 p).toInt := of_decide_eq_true (cJ d)
      rw [if_pos (Or.inl c), if_neg (by omega)] at hq
      exact hq 6 rfl
    · have d : ¬ (4 : Int32).toInt ≤ (h.2.1 96 p).toInt := of_decide_eq_false (cJ d)
      rw [if_pos (Or.inl c), if_pos (by omega)] at hq
      exact hq 0 rfl
    · rw [if_neg (by omega), if_pos c] at hq
      exact mshw_ok mk hm hh pI p hp h7 (fun r hr => ⟨r, rfl, hh.hs, hq r hr⟩)
    · rw [if_neg (by omega), if_neg (by omega), if_neg (by omega), if_neg (by omega)] at hq
      exact hq _ g3
    · have d : (4 : Int32).toInt ≤ (h.2.1 96 p).toInt := of_decide_eq_true (cJ d)
      rw [if_pos (Or.inr c), if_neg (by omega)] at hq
      exact hq 6 rfl
    · have d : ¬ (4 : Int32).toInt ≤ (h.2.1 96 p).toInt := of_decide_eq_false (cJ d)
      rw [if_pos (Or.inr c), if_pos (by omega)] at hq
      exact hq 0 rfl
    · rw [if_neg (by omega), if_neg (by omega), if_pos c] at hQ
      exact mskw_ok mk hm hh pI p hp h7 (fun r h' b1 b2 b3 => ⟨r, rfl, b1.hs, hQ r h' b1 b2 b3⟩)
    · rw [if_neg (by omega), if_neg (by omega), if_neg (by omega), if_pos c] at hq
      have y := a1.2.2
      have y0 := mk.2.2.1
      have yb := i32r (h.2.1 93 1)
      simp only [fI] at yb
      have q1 : (h.2.1 93 1 / 4).toInt = Y / 4 := by rw [i_dv (by omega) (by decide), y, j4]
      have q2 : (h.2.1 93 1 / 4 * 4).toInt = Y / 4 * 4 := by rw [i_mul (by rw [q1, j4]; omega) (by rw [q1, j4]; omega), q1, j4]
      have q3 : (h.2.1 93 1 - h.2.1 93 1 / 4 * 4).toInt = Y % 4 := by rw [i_sub (by omega) (by omega), q2, y]; omega
      have m4 : (4 * pI).toInt = 4 * (p : Int) := by rw [i_mul (by rw [j4]; omega) (by rw [j4]; omega), j4, hp]
      have v : (4 * pI + (h.2.1 93 1 - h.2.1 93 1 / 4 * 4)).toInt = 4 * (p : Int) + Y % 4 := by rw [i_add (by omega) (by omega), m4, q3]
      generalize 4 * pI + (h.2.1 93 1 - h.2.1 93 1 / 4 * 4) = x at v
      refine ⟨inB_iff (by omega) (by omega), hq _ ?_⟩
      rw [show x.toNatClampNeg = 4 * p + (Y % 4).toNat by show x.toInt.toNat = _; omega]
      exact a1.2.1 _ (by omega)
  · have e : ¬ ¬ pI.toInt = (h.2.1 93 28).toInt := of_decide_eq_false (cJ e)
    rw [if_pos (by omega)] at hQ
    exact hQ _ h hh frm_refl a10
theorem mslp_ok {dp : Nat} (mk : MOK S Y N) (hm : MST S Y cs m N K R hd one tol fo le h) (hh : HI h) (pI : Int32) (p : Nat) (hp : pI.toInt = p) (h7 : p < 7) (hQ : ∀ (r : Int32) h', HI h' → frm WPi h h' → r.toInt = zslip S Y cs m (mW S Y cs m K R hd one tol) p → Q (some (.int r)) h') : Ends X (dp + 1 + 1 + 1 + 1 + 1 + 1 + 1 + 1) 148 0 [.ref 93, .int pI] [] h Q := by
  have ip : inB pI 7 = true := inB_iff (by omega) (by omega)
  have en : pI.toNatClampNeg = p := by show pI.toInt.toNat = _; omega
  obtain ⟨a1, a2, a3, -⟩ := id hm
  obtain ⟨g1, g2, g3, g4, g5⟩ := a1.1 p h7
  have sr := mk.1 p h7
  have j4 : (4 : Int32).toInt = 4 := rfl
  have j2 : (2 : Int32).toInt = 2 := rfl
  refine w_mslp pI hh.hs ⟨ip, ip, mway_ok mk hm hh pI p hp h7 (fun r4 h3 b1 b2 b3 => ⟨r4, rfl, b1.hs, ?_⟩)⟩
  have hm3 := hm.fr (WPi_X b2)
  obtain ⟨k1, k2, k3, k4, k5⟩ := hm3.1.1 p h7
  refine sum_ok _ _ _ _ (by omega) (by omega) b1 hm3.2.2.1 (fun h6 c1 c2 => ⟨_, rfl, c1.hs, ip, ?_⟩)
  have f6 := frm_trans b2 c2
  have v := sumM_z (zI := 0) (wI := 2) (lI := r4) hm3.1 mk.2.2.1 hm3.2.1 hp h7
  rw [b3, j2] at v
  have bz := a2.1.b (zfc S Y p (mW S Y cs m K R hd one tol p)) 2
  have v2 : (sumM h3 2 pI r4 0).toInt = zsum m (zfc S Y p (mW S Y cs m K R hd one tol p)) 2 cs := by
    rw [v]
    split
    · rfl
    · rename_i c
      rw [zsum_no (by cases z : zhas 2 cs with | false => rfl | true => exact absurd z c)]
      rfl
  rw [en, frI c2 (a := 94) rfl, frI c2 (a := 95) rfl]
  have s1 : (h.2.1 98 p + h.2.1 97 p).toInt = S 4 p + S 3 p := by rw [i_add (by omega) (by omega), g5, g4]
  have s2 : ((h.2.1 98 p + h.2.1 97 p) + sumM h3 2 pI r4 0).toInt = S 4 p + S 3 p + zsum m (zfc S Y p (mW S Y cs m K R hd one tol p)) 2 cs := by rw [i_add (by omega) (by omega), s1, v2]
  refine ⟨fun e => ?_, fun e => ⟨ip, ?_⟩⟩
  · have e : ¬ (h3.2.1 94 p).toInt = (4 : Int32).toInt := of_decide_eq_true (cJ e)
    refine hQ _ h6 c1 f6 ?_
    unfold zslip
    rw [if_neg (by omega), i_add (by rw [z0]; omega) (by rw [z0]; omega), s2, z0]
  · have e : ¬ ¬ (h3.2.1 94 p).toInt = (4 : Int32).toInt := of_decide_eq_false (cJ e)
    refine hQ _ h6 c1 f6 ?_
    unfold zslip
    rw [if_pos (by omega), i_add (by omega) (by omega), s2, k2]
theorem mhb_go {dp : Nat} (mk : MOK S Y N) (tI : Int32) (f : Nat → Bool) (ht : BSET tI f) : ∀ (n c : Nat) (sI cI : Int32) (h : Hp), c + n = N → cI.toInt = c → sI.toInt = zheld (zhold S Y cs m) f c → MST S Y cs m N K R hd one tol fo le h → HI h → (∀ (r : Int32) h', HI h' → frm WPi h h' → r.toInt = zheld (zhold S Y cs m) f N → Q (some (.int r)) h') → Ends X (dp + 1 + 1 + 1 + 1) 155 4 [.ref 93, .int tI, .int sI, .int cI] [] h Q
  | n, c, sI, cI, h, hn, hc, hs, hm, hh, hQ => by
    obtain ⟨a1, a2, a3, a4, -⟩ := id hm
    have n7 := mk.2.2.2
    refine w_mhb1 tI sI cI hh.hs ⟨fun e => ?_, fun e => ?_⟩
    · have e : (h.2.1 93 0).toInt ≤ cI.toInt := of_decide_eq_true (cJ e)
      have : c = N := by omega
      subst this
      exact hQ sI h hh frm_refl hs
    have e : ¬ (h.2.1 93 0).toInt ≤ cI.toInt := of_decide_eq_false (cJ e)
    obtain ⟨n, rfl⟩ : ∃ k, n = k + 1 := ⟨n - 1, by omega⟩
    have n1 : (cI + 1).toInt = ((c + 1 : Nat) : Int) := by rw [i_add (by rw [i1]; omega) (by rw [i1]; omega), i1]; omega
    have b := zheld_b (H := zhold S Y cs m) (f := f) (fun x hx _ => zhold_b (Y := Y) (cs := cs) (m := m) mk.1 a2.1 hx) c (by omega)
    have zS : zheld (zhold S Y cs m) f (c + 1) = zheld (zhold S Y cs m) f c + (if f c = true then zhold S Y cs m c else 0) := rfl
    refine has_ok tI cI hh.hs ⟨_, rfl, hh.hs, fun e2 => ?_, fun e2 => ?_⟩
    · rw [bitB_s ht hc (by omega)] at e2
      have e2 := cz e2
      refine mhb_go mk tI f ht n (c + 1) _ _ h (by omega) n1 ?_ hm hh hQ
      rw [zS, if_neg (by rw [e2]; exact Bool.false_ne_true), i_add (by rw [z0]; omega) (by rw [z0]; omega), z0, hs]
    · rw [bitB_s ht hc (by omega)] at e2
      have e2 := cn e2
      have zc := zhold_b (Y := Y) (cs := cs) (m := m) mk.1 a2.1 (x := c) (by omega)
      refine mhof_ok mk hm hh cI c hc (by omega) (fun r7 h6 b1 b2 b3 => ⟨r7, rfl, b1.hs, ?_⟩)
      refine mhb_go mk tI f ht n (c + 1) _ _ h6 (by omega) n1 ?_ (hm.fr (WPi_X b2)) b1 (fun r h' d1 d2 d3 => hQ r h' d1 (frm_trans b2 d2) d3)
      rw [zS, if_pos e2, i_add (by omega) (by omega), hs, b3]
theorem mhb_ok {dp : Nat} (mk : MOK S Y N) (hm : MST S Y cs m N K R hd one tol fo le h) (hh : HI h) (tI : Int32) (f : Nat → Bool) (ht : BSET tI f) (hf : ∀ p, p < 7 → f p = true → p < N) (hQ : ∀ (r : Int32) h', HI h' → frm WPi h h' → r.toInt = zheld (zhold S Y cs m) f 7 → Q (some (.int r)) h') : Ends X (dp + 1 + 1 + 1 + 1) 155 0 [.ref 93, .int tI, .retAddr 0, .retAddr 0] [] h Q := by
  rw [← zheld_N mk.2.2.2 hf] at hQ
  exact w_mhb0 tI hh.hs (mhb_go mk tI f ht N 0 0 0 h (by omega) rfl rfl hm hh hQ)
theorem bor0 {b : Int32} {f : Nat → Bool} (hb : BSET b f) : BSET (b ||| 0) f := (hb.or BSET.zero).cg (fun p _ => by rw [Bool.or_false])
theorem mmt_go {dp : Nat} (mk : MOK S Y N) (lI bI : Int32) (l : Nat) (b : Nat → Bool) (hl : lI.toInt = l) (l7 : l < 7) (hb : BSET bI b) : ∀ (n c : Nat) (sI cI : Int32) (h : Hp), c + n = N → cI.toInt = c → BSET sI (fun x => decide (x < c) && (zin S Y cs m K hd l x && !b x)) → MST S Y cs m N K R hd one tol fo le h → HI h → (∀ (r : Int32) h', HI h' → frm WPi h h' → BSET r (fun x => decide (x < N) && (zin S Y cs m K hd l x && !b x)) → Q (some (.int r)) h') → Ends X (dp + 1 + 1 + 1 + 1 + 1) 156 5 [.ref 93, .int lI, .int bI, .int sI, .int cI] [] h Q
  | n, c, sI, cI, h, hn, hc, hs, hm, hh, hQ => by
    obtain ⟨a1, a2, a3, a4, a5, -⟩ := id hm
    have n7 := mk.2.2.2
    refine w_mmt1 lI bI sI cI hh.hs ⟨fun e => ?_, fun e => ?_⟩
    · have e : (h.2.1 93 0).toInt ≤ cI.toInt := of_decide_eq_true (cJ e)
      have : c = N := by omega
      subst this
      exact hQ sI h hh frm_refl hs
    have e : ¬ (h.2.1 93 0).toInt ≤ cI.toInt := of_decide_eq_false (cJ e)
    obtain ⟨n, rfl⟩ : ∃ k, n = k + 1 := ⟨n - 1, by omega⟩
    have n1 : (cI + 1).toInt = ((c + 1 : Nat) : Int) := by rw [i_add (by rw [i1]; omega) (by rw [i1]; omega), i1]; omega
    have keep : ∀ h', MST S Y cs m N K R hd one tol fo le h' → HI h' → frm WPi h h' → (zin S Y cs m K hd l c && !b c) = false → Ends X (dp + 1 + 1 + 1 + 1 + 1) 156 5 [.ref 93, .int lI, .int bI, .int (sI ||| 0), .int (cI + 1)] [] h' Q := fun h' k1 k2 k3 k4 => by
      refine mmt_go mk lI bI l b hl l7 hb n (c + 1) _ _ h' (by omega) n1 ((bor0 hs).cg (fun x _ => ?_)) k1 k2 (fun r h'' d1 d2 d3 => hQ r h'' d1 (frm_trans k3 d2) d3)
      by_cases d : x = c
      · subst d
        rw [k4, Bool.and_false, Bool.and_false]
      · rw [show decide (x < c + 1) = decide (x < c) from decide_eq_decide.mpr (by omega)]
    refine has_ok _ cI hh.hs ⟨_, rfl, hh.hs, fun e2 => ?_, fun e2 => ?_⟩
    · rw [bitB_s a5 hc (by omega)] at e2
      have e2 := cz e2
      exact keep h hm hh frm_refl (by unfold zin; rw [e2, Bool.false_and, Bool.false_and])
    · rw [bitB_s a5 hc (by omega)] at e2
      have e2 := cn e2
      refine has_ok bI cI hh.hs ⟨_, rfl, hh.hs, fun e3 => ?_, fun e3 => ?_⟩
      · rw [bitB_s hb hc (by omega)] at e3
        have e3 := cn2 e3
        exact keep h hm hh frm_refl (by rw [e3, Bool.not_true, Bool.and_false])
      · rw [bitB_s hb hc (by omega)] at e3
        have e3 := cz2 e3
        refine mrea_ok mk hm hh cI lI c l hc (by omega) hl l7 (fun h10 g1 g2 => ⟨_, rfl, g1.hs, fun e4 => ?_, fun e4 => ?_⟩)
        · have e4 := cz e4
          exact keep h10 (hm.fr (WPi_X g2)) g1 g2 (by unfold zin; rw [e4, Bool.and_false, Bool.false_and])
        · have e4 := cn e4
          refine mmt_go mk lI bI l b hl l7 hb n (c + 1) _ _ h10 (by omega) n1 ((hs.or (BSET.one hc (by omega))).cg (fun x _ => ?_)) (hm.fr (WPi_X g2)) g1 (fun r h'' d1 d2 d3 => hQ r h'' d1 (frm_trans g2 d2) d3)
          by_cases d : x = c
          · subst d
            rw [decide_eq_true (rfl : x = x), Bool.or_true, decide_eq_true (Nat.lt_succ_self x)]
            unfold zin
            rw [e2, e3, e4]
            rfl
          · rw [decide_eq_false d, Bool.or_false, show decide (x < c + 1) = decide (x < c) from decide_eq_decide.mpr (by omega)]
theorem mmt_ok {dp : Nat} (mk : MOK S Y N) (hm : MST S Y cs m N K R hd one tol fo le h) (hh : HI h) (lI bI : Int32) (w : Int) (b : Nat → Bool) (hl : lI.toInt = w) (w0 : 0 ≤ w) (w6 : w ≤ 6) (hb : BSET bI b) (hQ : ∀ (r : Int32) h', HI h' → frm WPi h h' → BSET r (zmeet (zin S Y cs m K hd) b w) → Q (some (.int r)) h') : Ends X (dp + 1 + 1 + 1 + 1 + 1) 156 0 [.ref 93, .int lI, .int bI, .retAddr 0, .retAddr 0] [] h Q := by
  refine w_mmt0 lI bI hh.hs (mmt_go mk lI bI w.toNat b (by omega) (by omega) hb N 0 0 0 h (by omega) rfl (BSET.zero.cg (fun x _ => by rw [decide_eq_false (Nat.not_lt_zero x), Bool.false_and])) hm hh (fun r h' d1 d2 d3 => hQ r h' d1 d2 (d3.cg (fun x hx => ?_))))
  unfold zmeet
  cases z : zin S Y cs m K hd w.toNat x with
  | false => rw [Bool.false_and, Bool.and_false]
  | true => rw [decide_eq_true (zin_N hm _ x hx z), Bool.true_and]
end MCR
