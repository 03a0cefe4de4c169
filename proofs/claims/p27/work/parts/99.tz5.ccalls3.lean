/-! The class's calls: on, last, mean, first, shout, of, set, catches. -/
def zKn (S : Nat → Nat → Int) (Y : Int) (cs : List Cl) (m : List Int) (N : Nat) (K : Nat → Bool) : Nat → Nat → Bool
  | 0 => K
  | n + 1 => fun p => zKn S Y cs m N K n p || zC S (Y + n) cs m N (zKn S Y cs m N K n) p
def zTn (S : Nat → Nat → Int) (Y : Int) (cs : List Cl) (m : List Int) (N : Nat) (K : Nat → Bool) : Nat → Nat
  | 0 => 0
  | n + 1 => zTn S Y cs m N K n + pop (zC S (Y + n) cs m N (zKn S Y cs m N K n))
def zMn (S : Nat → Nat → Int) (Y : Int) (cs : List Cl) (m : List Int) (N : Nat) (K : Nat → Bool) : Nat → Nat
  | 0 => 0
  | n + 1 => zMn S Y cs m N K n + pop (zR N (zKn S Y cs m N K (n + 1)))
theorem zTn_le (S : Nat → Nat → Int) (Y : Int) (cs : List Cl) (m : List Int) (N : Nat) (K : Nat → Bool) : ∀ n, zTn S Y cs m N K n ≤ 7 * n
  | 0 => Nat.le_refl _
  | n + 1 => by
    have i := zTn_le S Y cs m N K n
    have p := pop_le (zC S (Y + n) cs m N (zKn S Y cs m N K n))
    show zTn S Y cs m N K n + pop _ ≤ _
    omega
theorem zMn_le (S : Nat → Nat → Int) (Y : Int) (cs : List Cl) (m : List Int) (N : Nat) (K : Nat → Bool) : ∀ n, zMn S Y cs m N K n ≤ 7 * n
  | 0 => Nat.le_refl _
  | n + 1 => by
    have i := zMn_le S Y cs m N K n
    have p := pop_le (zR N (zKn S Y cs m N K (n + 1)))
    show zMn S Y cs m N K n + pop _ ≤ _
    omega
theorem MOK.y {S : Nat → Nat → Int} {Y : Int} {N : Nat} (mk : MOK S Y N) (n : Nat) : MOK S (Y + n) N := ⟨mk.1, mk.2.1, by have := mk.2.2.1; omega, mk.2.2.2⟩
/-- the first n from a on behind which one alone runs, or nobody -/
def zls (S : Nat → Nat → Int) (Y : Int) (cs : List Cl) (m : List Int) (N : Nat) (K : Nat → Bool) : Nat → Nat → Option Nat
  | 0, _ => none
  | k + 1, n => if pop (zR N (zKn S Y cs m N K n)) ≤ 1 then some n else zls S Y cs m N K k (n + 1)
section CALLS3
variable {X : Scr} {Q : Option Value → Hp → Prop} {q : Nat} {S : Nat → Nat → Int} {Y : Int} {cs : List Cl} {m : List Int} {N : Nat} {K : Nat → Bool} {h : Hp}
def zOn (S : Nat → Nat → Int) (Y : Int) (cs : List Cl) (m : List Int) (N : Nat) (K : Nat → Bool) (nI wI : Int32) : Int := if ¬ is01 wI then -1 else if ¬ (0 ≤ nI.toInt ∧ nI.toInt ≤ 30) then -2 else if wI.toInt = 0 then zint (zR N (zKn S Y cs m N K nI.toInt.toNat)) else (zTn S Y cs m N K nI.toInt.toNat : Int)
theorem con_go {dp : Nat} (hY : YB q) (mk : MOK S Y N) (yk : YOK cs m) (hY9 : Y ≤ 999) (nI wI : Int32) (b : Nat) (hb : nI.toInt = b) (b30 : b ≤ 30) : ∀ (n i : Nat) (cI iI : Int32) (h : Hp), i + n = b → iI.toInt = i → cI.toInt = zTn S Y cs m N K i → NCS q S (Y + i) cs m N (zKn S Y cs m N K i) h → HI h → (∀ (r : Int32) h1, HI h1 → frm WTQ h h1 → r.toInt = (if wI.toInt = 0 then zint (zR N (zKn S Y cs m N K b)) else (zTn S Y cs m N K b : Int)) → Q (some (.int r)) h1) → Ends X (dp + 1 + 1 + 1 + 1 + 1 + 1) 72 33 [.ref 0, .int nI, .int wI, .int cI, .int iI] [] h Q
  | n, i, cI, iI, h, hn, hi, hc, hs, hh, hQ => by
    have z0' : (0 : Int32).toInt = 0 := rfl
    have tl := zTn_le S Y cs m N K i
    refine w_con1 nI wI cI iI hh.hs ⟨fun e => ⟨fun c => ?_, fun c => ?_⟩, fun e => ?_⟩
    · have e : nI.toInt ≤ iI.toInt := of_decide_eq_true (cJ e)
      have c : ¬ wI.toInt = (0 : Int32).toInt := of_decide_eq_true (cJ c)
      have : i = b := by omega
      subst this
      exact hQ cI h hh frm_refl (by rw [if_neg (by omega)]; exact hc)
    · have e : nI.toInt ≤ iI.toInt := of_decide_eq_true (cJ e)
      have c : ¬ ¬ wI.toInt = (0 : Int32).toInt := of_decide_eq_false (cJ c)
      have : i = b := by omega
      subst this
      exact crun18_ok hs mk.2.2.2 hh.hs (fun r hr => ⟨r, rfl, hh.hs, hQ r h hh frm_refl (by rw [if_pos (by omega)]; exact hr.val)⟩)
    have e : ¬ nI.toInt ≤ iI.toInt := of_decide_eq_false (cJ e)
    obtain ⟨n, rfl⟩ : ∃ k, n = k + 1 := ⟨n - 1, by omega⟩
    have n1 : (iI + 1).toInt = ((i + 1 : Nat) : Int) := by rw [i_add (by rw [i1]; omega) (by rw [i1]; omega), i1]; omega
    refine goes_ok hY (mk.y i) yk (by omega) hh hs (fun r7 h6 g6 f6 n6 b7 => ⟨r7, rfl, g6.hs, bct_ok b7 g6.hs (fun r10 h10 => ⟨r10, rfl, g6.hs, ?_⟩)⟩)
    have pl := pop_le (zC S (Y + i) cs m N (zKn S Y cs m N K i))
    rw [show Y + (i : Int) + 1 = Y + ((i + 1 : Nat) : Int) by omega] at n6
    refine con_go hY mk yk hY9 nI wI b hb b30 n (i + 1) _ _ h6 (by omega) n1 ?_ n6 g6 (fun r h1 d1 d2 d3 => hQ r h1 d1 (frm_trans f6 d2) d3)
    rw [i_add (by omega) (by omega), hc, h10]
    rfl
theorem con_ok {dp : Nat} (ha : AST q S Y cs m N K h) (mk : MOK S Y N) (yk : YOK cs m) (hY9 : Y ≤ 999) (hh : HI h) (nI wI : Int32) (hQ : ∀ (r : Int32) h1, HI h1 → frm WTQ h h1 → r.toInt = zOn S Y cs m N K nI wI → Q (some (.int r)) h1) : Ends X (dp + 1 + 1 + 1 + 1 + 1 + 1) 72 0 [.ref 0, .int nI, .int wI, .retAddr 0, .retAddr 0] [] h Q := by
  have z0' : (0 : Int32).toInt = 0 := rfl
  have j30 : (30 : Int32).toInt = 30 := rfl
  unfold zOn at hQ
  refine w_con0 nI wI hh.hs ⟨fun e => ?_, fun e => ⟨fun e2 => ⟨fun e3 => ?_, fun e3 => ⟨fun e4 => ?_, fun e4 => ?_⟩⟩, fun e2 => ?_⟩⟩
  · have e : wI.toInt < (0 : Int32).toInt := of_decide_eq_true (cJ e)
    exact hQ _ h hh frm_refl (by rw [if_pos (by omega)]; rfl)
  · have e : ¬ wI.toInt < (0 : Int32).toInt := of_decide_eq_false (cJ e)
    have e2 : wI.toInt ≤ (1 : Int32).toInt := of_decide_eq_true (cJ e2)
    have e3 : nI.toInt < (0 : Int32).toInt := of_decide_eq_true (cJ e3)
    rw [i1] at e2
    exact hQ _ h hh frm_refl (by rw [if_neg (by omega), if_pos (by omega)]; rfl)
  · have e : ¬ wI.toInt < (0 : Int32).toInt := of_decide_eq_false (cJ e)
    have e2 : wI.toInt ≤ (1 : Int32).toInt := of_decide_eq_true (cJ e2)
    have e3 : ¬ nI.toInt < (0 : Int32).toInt := of_decide_eq_false (cJ e3)
    have e4 : nI.toInt ≤ (30 : Int32).toInt := of_decide_eq_true (cJ e4)
    rw [i1] at e2
    rw [if_neg (by omega), if_neg (by omega)] at hQ
    refine asks_ok ha hh (fun h5 g5 f5 n5 => ⟨rfl, g5.hs, ?_⟩)
    rw [show Y = Y + ((0 : Nat) : Int) by omega] at n5
    exact con_go ha.1 mk yk hY9 nI wI nI.toInt.toNat (by omega) (by omega) nI.toInt.toNat 0 0 0 h5 (by omega) rfl rfl n5 g5 (fun r h1 d1 d2 d3 => hQ r h1 d1 (frm_trans f5 d2) d3)
  · have e : ¬ wI.toInt < (0 : Int32).toInt := of_decide_eq_false (cJ e)
    have e2 : wI.toInt ≤ (1 : Int32).toInt := of_decide_eq_true (cJ e2)
    have e4 : ¬ nI.toInt ≤ (30 : Int32).toInt := of_decide_eq_false (cJ e4)
    rw [i1] at e2
    exact hQ _ h hh frm_refl (by rw [if_neg (by omega), if_pos (by omega)]; rfl)
  · have e2 : ¬ wI.toInt ≤ (1 : Int32).toInt := of_decide_eq_false (cJ e2)
    rw [i1] at e2
    exact hQ _ h hh frm_refl (by rw [if_pos (by omega)]; rfl)
/-- last -/
def zLasA (S : Nat → Nat → Int) (Y : Int) (cs : List Cl) (m : List Int) (N : Nat) (K : Nat → Bool) (w : Int) (o : Option Nat) : Int := match o with
  | none => -5
  | some n => if w = 0 then zff (zR N (zKn S Y cs m N K n)) 7 0 else (n : Int)
def zLas (S : Nat → Nat → Int) (Y : Int) (cs : List Cl) (m : List Int) (N : Nat) (K : Nat → Bool) (wI : Int32) : Int := if ¬ is01 wI then -1 else zLasA S Y cs m N K wI.toInt (zls S Y cs m N K 31 0)
theorem clas_go {dp : Nat} (hY : YB q) (mk : MOK S Y N) (yk : YOK cs m) (hY9 : Y ≤ 999) (wI : Int32) : ∀ (k n : Nat) (nI : Int32) (x : Value) (h : Hp), n + k = 31 → nI.toInt = n → NCS q S (Y + n) cs m N (zKn S Y cs m N K n) h → HI h → (∀ (r : Int32) h1, HI h1 → frm WTQ h h1 → r.toInt = zLasA S Y cs m N K wI.toInt (zls S Y cs m N K k n) → Q (some (.int r)) h1) → Ends X (dp + 1 + 1 + 1 + 1 + 1 + 1) 73 17 [.ref 0, .int wI, .int nI, x] [] h Q
  | k, n, nI, x, h, hk, hi, hs, hh, hQ => by
    have z0' : (0 : Int32).toInt = 0 := rfl
    have j30 : (30 : Int32).toInt = 30 := rfl
    refine w_clas1 wI nI x hh.hs ⟨fun e => ?_, fun e => ?_⟩
    · have e : (30 : Int32).toInt < nI.toInt := of_decide_eq_true (cJ e)
      have : k = 0 := by omega
      subst this
      exact hQ _ h hh frm_refl rfl
    have e : ¬ (30 : Int32).toInt < nI.toInt := of_decide_eq_false (cJ e)
    obtain ⟨k, rfl⟩ : ∃ j, k = j + 1 := ⟨k - 1, by omega⟩
    have n1 : (nI + 1).toInt = ((n + 1 : Nat) : Int) := by rw [i_add (by rw [i1]; omega) (by rw [i1]; omega), i1]; omega
    unfold zls at hQ
    refine crun18_ok hs mk.2.2.2 hh.hs (fun r3 b3 => ⟨r3, rfl, hh.hs, bct_ok b3 hh.hs (fun r6 h6 => ⟨r6, rfl, hh.hs, fun c => ?_, fun c => ⟨fun c2 => ?_, fun c2 => ?_⟩⟩)⟩)
    · have c : (1 : Int32).toInt < r6.toInt := of_decide_eq_true (cJ c)
      rw [i1] at c
      rw [if_neg (by omega)] at hQ
      refine goes_ok hY (mk.y n) yk (by omega) hh hs (fun r10 h9 g9 f9 n9 _ => ⟨r10, rfl, g9.hs, ?_⟩)
      rw [show Y + (n : Int) + 1 = Y + ((n + 1 : Nat) : Int) by omega] at n9
      exact clas_go hY mk yk hY9 wI k (n + 1) _ _ h9 (by omega) n1 n9 g9 (fun r h1 d1 d2 d3 => hQ r h1 d1 (frm_trans f9 d2) d3)
    all_goals
      have c : ¬ (1 : Int32).toInt < r6.toInt := of_decide_eq_false (cJ c)
      rw [i1] at c
      rw [if_pos (by omega)] at hQ
    · have c2 : ¬ wI.toInt = (0 : Int32).toInt := of_decide_eq_true (cJ c2)
      exact hQ nI h hh frm_refl (by unfold zLasA; simp only; rw [if_neg (by omega)]; exact hi)
    · have c2 : ¬ ¬ wI.toInt = (0 : Int32).toInt := of_decide_eq_false (cJ c2)
      exact cfin_ok hh.hs r3 _ b3 (fun r14 h14 => ⟨r14, rfl, hh.hs, hQ r14 h hh frm_refl (by unfold zLasA; simp only; rw [if_pos (by omega)]; exact h14)⟩)
theorem clas_ok {dp : Nat} (ha : AST q S Y cs m N K h) (mk : MOK S Y N) (yk : YOK cs m) (hY9 : Y ≤ 999) (hh : HI h) (wI : Int32) (hQ : ∀ (r : Int32) h1, HI h1 → frm WTQ h h1 → r.toInt = zLas S Y cs m N K wI → Q (some (.int r)) h1) : Ends X (dp + 1 + 1 + 1 + 1 + 1 + 1) 73 0 [.ref 0, .int wI, .retAddr 0, .retAddr 0] [] h Q := by
  have z0' : (0 : Int32).toInt = 0 := rfl
  unfold zLas at hQ
  refine w_clas0 wI hh.hs ⟨fun e => ?_, fun e => ⟨fun e2 => ?_, fun e2 => ?_⟩⟩
  · have e : wI.toInt < (0 : Int32).toInt := of_decide_eq_true (cJ e)
    exact hQ _ h hh frm_refl (by rw [if_pos (by omega)]; rfl)
  · have e : ¬ wI.toInt < (0 : Int32).toInt := of_decide_eq_false (cJ e)
    have e2 : wI.toInt ≤ (1 : Int32).toInt := of_decide_eq_true (cJ e2)
    rw [i1] at e2
    rw [if_neg (by omega)] at hQ
    refine asks_ok ha hh (fun h5 g5 f5 n5 => ⟨rfl, g5.hs, ?_⟩)
    rw [show Y = Y + ((0 : Nat) : Int) by omega] at n5
    exact clas_go ha.1 mk yk hY9 wI 31 0 0 _ h5 (by omega) rfl n5 g5 (fun r h1 d1 d2 d3 => hQ r h1 d1 (frm_trans f5 d2) d3)
  · have e2 : ¬ wI.toInt ≤ (1 : Int32).toInt := of_decide_eq_false (cJ e2)
    rw [i1] at e2
    exact hQ _ h hh frm_refl (by rw [if_pos (by omega)]; rfl)
/-- mean -/
def zMea (S : Nat → Nat → Int) (Y : Int) (cs : List Cl) (m : List Int) (N : Nat) (K : Nat → Bool) (nI aI : Int32) : Int := if ¬ (1 ≤ nI.toInt ∧ nI.toInt ≤ 30) ∨ ¬ is01 aI then zNO else zLow (zMn S Y cs m N K nI.toInt.toNat) nI.toInt aI.toInt
theorem cmea_go {dp : Nat} (hY : YB q) (mk : MOK S Y N) (yk : YOK cs m) (hY9 : Y ≤ 999) (nI aI : Int32) (b : Nat) (hb : nI.toInt = b) (b0 : 0 < b) (b30 : b ≤ 30) : ∀ (n i : Nat) (tI iI : Int32) (h : Hp), i + n = b → iI.toInt = i → tI.toInt = zMn S Y cs m N K i → NCS q S (Y + i) cs m N (zKn S Y cs m N K i) h → HI h → (∀ (r : Int64) h1, HI h1 → frm WTQ h h1 → r.toInt = zLow (zMn S Y cs m N K b) nI.toInt aI.toInt → Q (some (.long r)) h1) → Ends X (dp + 1 + 1 + 1 + 1 + 1 + 1) 85 33 [.ref 0, .int nI, .int aI, .int tI, .int iI] [] h Q
  | n, i, tI, iI, h, hn, hi, hc, hs, hh, hQ => by
    have tl := zMn_le S Y cs m N K i
    refine w_cmea1 nI aI tI iI hh.hs ⟨fun e => ?_, fun e => ?_⟩
    · have e : nI.toInt ≤ iI.toInt := of_decide_eq_true (cJ e)
      have : i = b := by omega
      subst this
      exact clow_ok hh.hs tI nI aI _ i hc hb b0 b30 (by omega) (fun r hr => ⟨r, rfl, hh.hs, hQ r h hh frm_refl (by rw [hb]; exact hr)⟩)
    have e : ¬ nI.toInt ≤ iI.toInt := of_decide_eq_false (cJ e)
    obtain ⟨n, rfl⟩ : ∃ k, n = k + 1 := ⟨n - 1, by omega⟩
    have n1 : (iI + 1).toInt = ((i + 1 : Nat) : Int) := by rw [i_add (by rw [i1]; omega) (by rw [i1]; omega), i1]; omega
    refine goes_ok hY (mk.y i) yk (by omega) hh hs (fun r6 h5 g5 f5 n5 _ => ⟨r6, rfl, g5.hs, crun18_ok n5 mk.2.2.2 g5.hs (fun r9 b9 => ⟨r9, rfl, g5.hs, bct_ok b9 g5.hs (fun r12 h12 => ⟨r12, rfl, g5.hs, ?_⟩)⟩)⟩)
    rw [show Y + (i : Int) + 1 = Y + ((i + 1 : Nat) : Int) by omega] at n5
    have h12 : r12.toInt = (pop (zR N (zKn S Y cs m N K (i + 1))) : Int) := h12
    have pl := pop_le (zR N (zKn S Y cs m N K (i + 1)))
    refine cmea_go hY mk yk hY9 nI aI b hb b0 b30 n (i + 1) _ _ h5 (by omega) n1 ?_ n5 g5 (fun r h1 d1 d2 d3 => hQ r h1 d1 (frm_trans f5 d2) d3)
    rw [i_add (by omega) (by omega), hc, h12]
    rfl
theorem cmea_ok {dp : Nat} (ha : AST q S Y cs m N K h) (mk : MOK S Y N) (yk : YOK cs m) (hY9 : Y ≤ 999) (hh : HI h) (nI aI : Int32) (hQ : ∀ (r : Int64) h1, HI h1 → frm WTQ h h1 → r.toInt = zMea S Y cs m N K nI aI → Q (some (.long r)) h1) : Ends X (dp + 1 + 1 + 1 + 1 + 1 + 1) 85 0 [.ref 0, .int nI, .int aI, .retAddr 0, .retAddr 0] [] h Q := by
  have z0' : (0 : Int32).toInt = 0 := rfl
  have j30 : (30 : Int32).toInt = 30 := rfl
  have no : ((-9223372036854775808 : Int64)).toInt = zNO := rfl
  unfold zMea at hQ
  refine w_cmea0 nI aI hh.hs ⟨fun e => ?_, fun e => ⟨fun e2 => ?_, fun e2 => ⟨fun e3 => ?_, fun e3 => ⟨fun e4 => ?_, fun e4 => ?_⟩⟩⟩⟩
  · have e : nI.toInt < (1 : Int32).toInt := of_decide_eq_true (cJ e)
    rw [i1] at e
    exact hQ _ h hh frm_refl (by rw [if_pos (by omega)]; exact no)
  · have e2 : (30 : Int32).toInt < nI.toInt := of_decide_eq_true (cJ e2)
    exact hQ _ h hh frm_refl (by rw [if_pos (by omega)]; exact no)
  · have e3 : aI.toInt < (0 : Int32).toInt := of_decide_eq_true (cJ e3)
    exact hQ _ h hh frm_refl (by rw [if_pos (by omega)]; exact no)
  · have e : ¬ nI.toInt < (1 : Int32).toInt := of_decide_eq_false (cJ e)
    have e2 : ¬ (30 : Int32).toInt < nI.toInt := of_decide_eq_false (cJ e2)
    have e3 : ¬ aI.toInt < (0 : Int32).toInt := of_decide_eq_false (cJ e3)
    have e4 : aI.toInt ≤ (1 : Int32).toInt := of_decide_eq_true (cJ e4)
    rw [i1] at e e4
    rw [if_neg (by omega)] at hQ
    refine asks_ok ha hh (fun h5 g5 f5 n5 => ⟨rfl, g5.hs, ?_⟩)
    rw [show Y = Y + ((0 : Nat) : Int) by omega] at n5
    exact cmea_go ha.1 mk yk hY9 nI aI nI.toInt.toNat (by omega) (by omega) (by omega) nI.toInt.toNat 0 0 0 h5 (by omega) rfl rfl n5 g5 (fun r h1 d1 d2 d3 => hQ r h1 d1 (frm_trans f5 d2) d3)
  · have e4 : ¬ aI.toInt ≤ (1 : Int32).toInt := of_decide_eq_false (cJ e4)
    rw [i1] at e4
    exact hQ _ h hh frm_refl (by rw [if_pos (by omega)]; exact no)
/-- first -/
def zFirC (S : Nat → Nat → Int) (Y : Int) (cs : List Cl) (m : List Int) (N : Nat) (K : Nat → Bool) : Nat → Nat := fun p => pop (zC S Y cs m N (fun x => K x || decide (x = p)))
def zFir (S : Nat → Nat → Int) (Y : Int) (cs : List Cl) (m : List Int) (N : Nat) (K : Nat → Bool) (wI : Int32) : Int := if ¬ is01 wI then -1 else if wI.toInt = 0 then (zmf (zR N K) (zFirC S Y cs m N K) 7).1 else (zmf (zR N K) (zFirC S Y cs m N K) 7).2
theorem NCS.k (hY : YB q) {K0 K1 : Nat → Bool} {v : Int32} (hn : NCS q S Y cs m N K0 h) (hv : BSET v K1) : NCS q S Y cs m N K1 (hpI h 18 7 v) := by
  obtain ⟨⟨c1, c2, c3⟩, a2, a3, a4, a5, a6, a7, a8⟩ := hn
  refine ⟨⟨fun p hp => ?_, fun i hi => by rw [put_ne (by omega)]; exact c2 i hi, by rw [put_ne (by omega)]; exact c3⟩, a2.put hY (by decide), by rw [put_ne (by omega)]; exact a3, by rw [put_at]; exact hv, by rw [put_ne (by omega)]; exact a5, by rw [put_ne (by omega)]; exact a6, by rw [put_ne (by omega)]; exact a7, by rw [put_ne (by omega)]; exact a8⟩
  rw [put_ne (by omega), put_ne (by omega), put_ne (by omega), put_ne (by omega), put_ne (by omega)]
  exact c1 p hp
theorem zmf_b (R : Nat → Bool) (cnt : Nat → Nat) : ∀ n, (zmf R cnt n).2 = -5 ∨ 0 ≤ (zmf R cnt n).2
  | 0 => Or.inl rfl
  | n + 1 => by
    have i := zmf_b R cnt n
    unfold zmf
    split
    · right
      show (0 : Int) ≤ (cnt n : Int)
      omega
    · exact i
theorem cfir_go {dp : Nat} (mk : MOK S Y N) (yk : YOK cs m) (wI rI : Int32) (hr : BSET rI (zR N K)) : ∀ (n p : Nat) (oI mI pI : Int32) (x : Value) (K0 : Nat → Bool) (h : Hp), p + n = 7 → pI.toInt = p → oI.toInt = (zmf (zR N K) (zFirC S Y cs m N K) p).1 → mI.toInt = (zmf (zR N K) (zFirC S Y cs m N K) p).2 → AST q S Y cs m N K h → NCS q S Y cs m N K0 h → HI h → (∀ (r : Int32) h1, HI h1 → frm WTQ h h1 → r.toInt = (if wI.toInt = 0 then (zmf (zR N K) (zFirC S Y cs m N K) 7).1 else (zmf (zR N K) (zFirC S Y cs m N K) 7).2) → Q (some (.int r)) h1) → Ends X (dp + 1 + 1 + 1 + 1 + 1) 74 33 [.ref 0, .int wI, .int oI, .int mI, .int rI, .int pI, x] [] h Q
  | n, p, oI, mI, pI, x, K0, h, hn, hp, ho, hm, ha, hs, hh, hQ => by
    have z0' : (0 : Int32).toInt = 0 := rfl
    have j7 : (7 : Int32).toInt = 7 := rfl
    refine w_cfir1 wI oI mI rI pI x hh.hs ⟨fun e => ⟨fun c => ?_, fun c => ?_⟩, fun e => ?_⟩
    · have e : (7 : Int32).toInt ≤ pI.toInt := of_decide_eq_true (cJ e)
      have c : ¬ wI.toInt = (0 : Int32).toInt := of_decide_eq_true (cJ c)
      have : p = 7 := by omega
      subst this
      exact hQ mI h hh frm_refl (by rw [if_neg (by omega)]; exact hm)
    · have e : (7 : Int32).toInt ≤ pI.toInt := of_decide_eq_true (cJ e)
      have c : ¬ ¬ wI.toInt = (0 : Int32).toInt := of_decide_eq_false (cJ c)
      have : p = 7 := by omega
      subst this
      exact hQ oI h hh frm_refl (by rw [if_pos (by omega)]; exact ho)
    have e : ¬ (7 : Int32).toInt ≤ pI.toInt := of_decide_eq_false (cJ e)
    obtain ⟨n, rfl⟩ : ∃ k, n = k + 1 := ⟨n - 1, by omega⟩
    have n1 : (pI + 1).toInt = ((p + 1 : Nat) : Int) := by rw [i_add (by rw [i1]; omega) (by rw [i1]; omega), i1]; omega
    refine isin_ok hr hp (by omega) hh.hs ⟨_, rfl, hh.hs, fun c => ?_, fun c => ?_⟩
    · have c := cz c
      have st : zmf (zR N K) (zFirC S Y cs m N K) (p + 1) = zmf (zR N K) (zFirC S Y cs m N K) p := if_neg (fun z => by rw [c] at z; exact absurd z.1 Bool.false_ne_true)
      exact cfir_go mk yk wI rI hr n (p + 1) _ _ _ _ K0 h (by omega) n1 (by rw [st]; exact ho) (by rw [st]; exact hm) ha hs hh hQ
    · have c := cn c
      have kv := ha.2.2.2.2.2.1.or (BSET.one hp (by omega))
      generalize h.2.1 1 7 ||| (1 <<< (pI &&& 31)) = v at kv
      have g2 : HI (hpI h 18 7 v) := HI_full hh iv_187.1
      have f2 : frm WTQ h (hpI h 18 7 v) := frm_put frm_refl rfl
      refine ncau_ok ha.1 mk yk g2 (hs.k ha.1 kv) (fun r8 h7 g7 f7 n7 _ b8 => ⟨r8, rfl, g7.hs, bct_ok b8 g7.hs (fun r11 h11 => ⟨r11, rfl, g7.hs, ?_⟩)⟩)
      have f := frm_trans f2 (WCX_T f7)
      have h11 : r11.toInt = (zFirC S Y cs m N K p : Int) := h11
      refine ⟨fun c2 => ?_, fun c2 => ?_⟩
      · have c2 : r11.toInt ≤ mI.toInt := of_decide_eq_true (cJ c2)
        have st : zmf (zR N K) (zFirC S Y cs m N K) (p + 1) = zmf (zR N K) (zFirC S Y cs m N K) p := if_neg (fun z => by have := z.2; omega)
        exact cfir_go mk yk wI rI hr n (p + 1) _ _ _ _ _ h7 (by omega) n1 (by rw [st]; exact ho) (by rw [st]; exact hm) (ha.fr f) n7 g7 (fun r h1 d1 d2 d3 => hQ r h1 d1 (frm_trans f d2) d3)
      · have c2 : ¬ r11.toInt ≤ mI.toInt := of_decide_eq_false (cJ c2)
        have st : zmf (zR N K) (zFirC S Y cs m N K) (p + 1) = ((p : Int), (zFirC S Y cs m N K p : Int)) := if_pos ⟨c, by omega⟩
        exact cfir_go mk yk wI rI hr n (p + 1) _ _ _ _ _ h7 (by omega) n1 (by rw [st]; exact hp) (by rw [st]; exact h11) (ha.fr f) n7 g7 (fun r h1 d1 d2 d3 => hQ r h1 d1 (frm_trans f d2) d3)
theorem cfir_ok {dp : Nat} (ha : AST q S Y cs m N K h) (mk : MOK S Y N) (yk : YOK cs m) (hh : HI h) (wI : Int32) (hQ : ∀ (r : Int32) h1, HI h1 → frm WTQ h h1 → r.toInt = zFir S Y cs m N K wI → Q (some (.int r)) h1) : Ends X (dp + 1 + 1 + 1 + 1 + 1) 74 0 [.ref 0, .int wI, .retAddr 0, .retAddr 0, .retAddr 0, .retAddr 0, .retAddr 0] [] h Q := by
  have z0' : (0 : Int32).toInt = 0 := rfl
  unfold zFir at hQ
  refine w_cfir0 wI hh.hs ⟨fun e => ?_, fun e => ⟨fun e2 => ?_, fun e2 => ?_⟩⟩
  · have e : wI.toInt < (0 : Int32).toInt := of_decide_eq_true (cJ e)
    exact hQ _ h hh frm_refl (by rw [if_pos (by omega)]; rfl)
  · have e : ¬ wI.toInt < (0 : Int32).toInt := of_decide_eq_false (cJ e)
    have e2 : wI.toInt ≤ (1 : Int32).toInt := of_decide_eq_true (cJ e2)
    rw [i1] at e2
    rw [if_neg (by omega)] at hQ
    exact crun_ok ha mk.2.2.2 hh.hs (fun r4 b4 => ⟨r4, rfl, hh.hs, asks_ok ha hh (fun h6 g6 f6 n6 => ⟨rfl, g6.hs, cfir_go mk yk wI r4 b4 7 0 (-5) (-5) 0 _ K h6 (by decide) rfl rfl rfl (ha.fr f6) n6 g6 (fun r h1 d1 d2 d3 => hQ r h1 d1 (frm_trans f6 d2) d3)⟩)⟩)
  · have e2 : ¬ wI.toInt ≤ (1 : Int32).toInt := of_decide_eq_false (cJ e2)
    rw [i1] at e2
    exact hQ _ h hh frm_refl (by rw [if_pos (by omega)]; rfl)
/-- a shout -/
theorem csho_ok {dp : Nat} (ha : AST q S Y cs m N K h) (mk : MOK S Y N) (yk : YOK cs m) (hh : HI h) (q0 : ¬ Y < 999 → Q (some (.int (-3))) h) (hQ : Y < 999 → ∀ (r : Int32) h1, HI h1 → frm WTQ h h1 → BSET r (zC S Y cs m N K) → Q (some (.int r)) (hpI (hpI h1 1 7 (h.2.1 1 7 ||| r)) 1 8 (h.2.1 1 8 + 1))) : Ends X (dp + 1 + 1 + 1 + 1 + 1) 71 0 [.ref 0, .retAddr 0] [] h Q := by
  have j9 : (999 : Int32).toInt = 999 := rfl
  have y := ha.2.2.2.1
  refine w_cshout hh.hs ⟨fun e => ?_, fun e => ?_⟩
  · have e : (h.2.1 1 8).toInt < (999 : Int32).toInt := of_decide_eq_true (cJ e)
    refine asks_ok ha hh (fun h2 g2 f2 n2 => ⟨rfl, g2.hs, ncau_ok ha.1 mk yk g2 n2 (fun r6 h5 g5 f5 _ _ b6 => ⟨r6, rfl, g5.hs, ?_⟩)⟩)
    have f := frm_trans f2 (WCX_T f5)
    rw [frI f (a := 1) rfl, frI f (a := 1) rfl]
    exact hQ (by omega) r6 h5 g5 f b6
  · have e : ¬ (h.2.1 1 8).toInt < (999 : Int32).toInt := of_decide_eq_false (cJ e)
    exact q0 (by omega)
/-- of -/
def zOfM (S : Nat → Nat → Int) (Y : Int) (cs : List Cl) (m : List Int) (N : Nat) (K : Nat → Bool) (p : Nat) (w : Int) : Int := if K p = true then (if w = 7 then zreach S Y cs m p else if w = 8 then zhold S Y cs m p else -5) else (if w = 6 then zW S Y cs m K (zR N K) false (-1) 0 (-1) 0 p else if w = 9 then zslip S Y cs m (zW S Y cs m K (zR N K) false (-1) 0 (-1) 0) p else -5)
def zOf (S : Nat → Nat → Int) (Y : Int) (cs : List Cl) (m : List Int) (N : Nat) (K : Nat → Bool) (pI wI : Int32) : Int := if ¬ isP N pI then -1 else if ¬ (0 ≤ wI.toInt ∧ wI.toInt ≤ 9) then -1 else if wI.toInt ≤ 4 then S wI.toInt.toNat pI.toInt.toNat else if wI.toInt = 5 then ((K pI.toInt.toNat).toNat : Int) else zOfM S Y cs m N K pI.toInt.toNat wI.toInt
theorem cmsd_ok {dp : Nat} (ha : AST q S Y cs m N K h) (mk : MOK S Y N) (yk : YOK cs m) (hh : HI h) (pI wI : Int32) (p : Nat) (hp : pI.toInt = p) (hN : p < N) (hw : 6 ≤ wI.toInt ∧ wI.toInt ≤ 9) (hQ : ∀ (r : Int32) h1, HI h1 → frm WTQ h h1 → r.toInt = zOfM S Y cs m N K p wI.toInt → Q (some (.int r)) h1) : Ends X (dp + 1 + 1 + 1 + 1 + 1) 99 0 [.ref 0, .int pI, .int wI] [] h Q := by
  have N7 := mk.2.2.2
  have j6 : (6 : Int32).toInt = 6 := rfl
  have j7 : (7 : Int32).toInt = 7 := rfl
  have j8 : (8 : Int32).toInt = 8 := rfl
  have j9 : (9 : Int32).toInt = 9 := rfl
  have ip : inB pI 7 = true := inB_iff (by omega) (by omega)
  have en : pI.toNatClampNeg = p := by show pI.toInt.toNat = _; omega
  unfold zOfM at hQ
  refine w_cmsd pI wI hh.hs (asks_ok ha hh (fun h1 g1 f1 n1 => ⟨rfl, g1.hs, ncau_ok ha.1 mk yk g1 n1 (fun r5 h4 g4 f4 n4 ms _ => ⟨r5, rfl, g4.hs, ?_⟩)⟩))
  have f := frm_trans f1 (WCX_T f4)
  have ha4 := ha.fr f
  refine dct_ok ha4 g4.hs pI p hp (by omega) ⟨_, rfl, g4.hs, fun e => ?_, fun e => ?_⟩
  · have e := cz e
    have rp : zR N K p = true := by unfold zR; rw [e, decide_eq_true hN]; rfl
    have mr := ms.2 p (by omega) rp
    rw [if_neg (by rw [e]; decide)] at hQ
    rw [en]
    refine ⟨fun c => ⟨fun c2 => ?_, fun c2 => ⟨ip, ?_⟩⟩, fun c => ⟨ip, ?_⟩⟩
    · have c : ¬ wI.toInt = (6 : Int32).toInt := of_decide_eq_true (cJ c)
      have c2 : ¬ wI.toInt = (9 : Int32).toInt := of_decide_eq_true (cJ c2)
      exact hQ _ h4 g4 f (by rw [if_neg (by omega), if_neg (by omega)]; rfl)
    · have c : ¬ wI.toInt = (6 : Int32).toInt := of_decide_eq_true (cJ c)
      have c2 : ¬ ¬ wI.toInt = (9 : Int32).toInt := of_decide_eq_false (cJ c2)
      exact hQ _ h4 g4 f (by rw [if_neg (by omega), if_pos (by omega)]; exact mr.2)
    · have c : ¬ ¬ wI.toInt = (6 : Int32).toInt := of_decide_eq_false (cJ c)
      exact hQ _ h4 g4 f (by rw [if_pos (by omega)]; exact mr.1)
  · have e := cn e
    have mc := ms.1 p (by omega) e
    rw [if_pos e] at hQ
    rw [en]
    refine ⟨fun c => ⟨fun c2 => ?_, fun c2 => ⟨ip, ?_⟩⟩, fun c => ⟨ip, ?_⟩⟩
    · have c : ¬ wI.toInt = (7 : Int32).toInt := of_decide_eq_true (cJ c)
      have c2 : ¬ wI.toInt = (8 : Int32).toInt := of_decide_eq_true (cJ c2)
      exact hQ _ h4 g4 f (by rw [if_neg (by omega), if_neg (by omega)]; rfl)
    · have c : ¬ wI.toInt = (7 : Int32).toInt := of_decide_eq_true (cJ c)
      have c2 : ¬ ¬ wI.toInt = (8 : Int32).toInt := of_decide_eq_false (cJ c2)
      exact hQ _ h4 g4 f (by rw [if_neg (by omega), if_pos (by omega)]; exact mc.2)
    · have c : ¬ ¬ wI.toInt = (7 : Int32).toInt := of_decide_eq_false (cJ c)
      exact hQ _ h4 g4 f (by rw [if_pos (by omega)]; exact mc.1)
theorem cof_ok {dp : Nat} (ha : AST q S Y cs m N K h) (mk : MOK S Y N) (yk : YOK cs m) (hh : HI h) (pI wI : Int32) (hQ : ∀ (r : Int32) h1, HI h1 → frm WTQ h h1 → r.toInt = zOf S Y cs m N K pI wI → Q (some (.int r)) h1) : Ends X (dp + 1 + 1 + 1 + 1 + 1 + 1) 64 0 [.ref 0, .int pI, .int wI] [] h Q := by
  have N7 := mk.2.2.2
  unfold zOf at hQ
  refine w_cof pI wI hh.hs (cis_ok ha hh pI ⟨_, rfl, hh.hs, fun e => ?_, fun e => ?_⟩)
  · have e := of_decide_eq_true (cn2 e)
    have hp : pI.toInt = (pI.toInt.toNat : Int) := by omega
    have hpN : pI.toInt.toNat < N := by omega
    rw [if_neg (fun z => z e)] at hQ
    have ip : inB pI 7 = true := inB_iff (by omega) (by omega)
    have en : pI.toNatClampNeg = pI.toInt.toNat := rfl
    rw [en]
    generalize pI.toInt.toNat = p at hp hpN hQ
    obtain ⟨k0, k1, k2, k3, k4⟩ := ha.2.1 p (by omega)
    have dv := fun (v : Nat) (w : wI.toInt = v) (v4 : v ≤ 4) => (show (if ¬ (0 ≤ wI.toInt ∧ wI.toInt ≤ 9) then (-1 : Int) else if wI.toInt ≤ 4 then S wI.toInt.toNat p else if wI.toInt = 5 then ((K p).toNat : Int) else zOfM S Y cs m N K p wI.toInt) = S v p by rw [if_neg (by omega), if_pos (by omega), w]; rfl)
    have dm := fun (w : 6 ≤ wI.toInt ∧ wI.toInt ≤ 9) => (show (if ¬ (0 ≤ wI.toInt ∧ wI.toInt ≤ 9) then (-1 : Int) else if wI.toInt ≤ 4 then S wI.toInt.toNat p else if wI.toInt = 5 then ((K p).toNat : Int) else zOfM S Y cs m N K p wI.toInt) = zOfM S Y cs m N K p wI.toInt by rw [if_neg (by omega), if_neg (by omega), if_neg (by omega)])
    refine ⟨fun c => ?_, fun c => ⟨ip, ?_⟩, fun c => ⟨ip, ?_⟩, fun c => ⟨ip, ?_⟩, fun c => ⟨ip, ?_⟩, fun c => ⟨ip, ?_⟩, fun c => ?_, fun c => ?_, fun c => ?_, fun c => ?_, fun c => ?_⟩
    · exact hQ _ h hh frm_refl (by rw [if_pos (by omega)]; rfl)
    · exact hQ _ h hh frm_refl (by rw [dv 0 c (by decide)]; exact k0)
    · exact hQ _ h hh frm_refl (by rw [dv 1 c (by decide)]; exact k1)
    · exact hQ _ h hh frm_refl (by rw [dv 2 c (by decide)]; exact k2)
    · exact hQ _ h hh frm_refl (by rw [dv 3 c (by decide)]; exact k3)
    · exact hQ _ h hh frm_refl (by rw [dv 4 c (by decide)]; exact k4)
    · rw [if_neg (by omega), if_neg (by omega), if_pos c] at hQ
      refine dct_ok ha hh.hs pI p hp (by omega) ⟨_, rfl, hh.hs, fun e2 => ?_, fun e2 => ?_⟩
      · exact hQ _ h hh frm_refl (by rw [cz e2]; rfl)
      · exact hQ _ h hh frm_refl (by rw [cn e2]; rfl)
    all_goals
      rw [dm (by omega)] at hQ
      exact cmsd_ok ha mk yk hh pI wI p hp hpN (by omega) (fun r h1 d1 d2 d3 => ⟨r, rfl, d1.hs, hQ r h1 d1 d2 d3⟩)
  · have e := of_decide_eq_false (cz2 e)
    exact hQ _ h hh frm_refl (by rw [if_pos e]; rfl)
end CALLS3
