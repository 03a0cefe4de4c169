/-! Sums of clauses, what is asked of: the class's way. -/
/-- the marks of a clause -/
def zsl (m : List Int) (c : Cl) : List Int := (m.drop c.2.2.1).take (c.2.2.2 - c.2.2.1)
def zsum (m : List Int) (fc : Int → Int) (w : Int) : List Cl → Int
  | [] => 0
  | c :: l => (if c.1 = w ∧ zso (zsl m c) fc = true then c.2.1 else 0) + zsum m fc w l
def zhas (w : Int) : List Cl → Bool
  | [] => false
  | c :: l => if c.1 = w then true else zhas w l
theorem zsl_eq {pre e post : List Int} {c : Cl} (h1 : pre.length = c.2.2.1) (h2 : c.2.2.1 + e.length = c.2.2.2) : zsl (pre ++ (e ++ post)) c = e := by
  unfold zsl
  rw [← h1, ← h2, ← h1, List.drop_left, show pre.length + e.length - pre.length = e.length by omega, List.take_left]
theorem dropC {cs : List Cl} {c : Nat} (h : c < cs.length) : cs.drop c = cs.getD c cl0 :: cs.drop (c + 1) := by
  rw [List.drop_eq_getElem_cons h, List.getD_eq_getElem?_getD, List.getElem?_eq_getElem h]
  rfl
theorem zsum_b {m : List Int} {fc : Int → Int} {w : Int} : ∀ {l : List Cl}, (∀ c ∈ l, 0 ≤ c.2.1 ∧ c.2.1 ≤ 99) → 0 ≤ zsum m fc w l ∧ zsum m fc w l ≤ 99 * (l.length : Int)
  | [], _ => ⟨Int.le_refl _, Int.le_refl _⟩
  | c :: l, h => by
    have i := zsum_b (m := m) (fc := fc) (w := w) (l := l) (fun x hx => h x (List.mem_cons_of_mem _ hx))
    have j := h c (List.mem_cons_self ..)
    show 0 ≤ (if _ then _ else (0 : Int)) + _ ∧ (if _ then _ else (0 : Int)) + _ ≤ 99 * ((l.length + 1 : Nat) : Int)
    split <;> omega
theorem wf_mem {cs : List Cl} {m : List Int} (hw : WFC cs m) : ∀ c ∈ cs, 0 ≤ c.2.1 ∧ c.2.1 ≤ 99 := by
  intro c hc
  obtain ⟨i, hi, e⟩ := List.mem_iff_getElem.mp hc
  have := hw.1 i hi
  rw [List.getD_eq_getElem?_getD, List.getElem?_eq_getElem hi] at this
  simp only [Option.getD_some] at this
  rw [e] at this
  exact ⟨this.2.2.2.1, this.2.2.2.2.1⟩
theorem cJ {q : ClassFile.Cond} {x y : Int32} {b : Bool} (h : condB q x y = b) : cndI q x.toInt y.toInt = b := cI h
section SUMS
variable {X : Scr} {q : Nat} {h : Hp} {Q : Option Value → Hp → Prop}
theorem yhas_go (hY : YB q) {cs : List Cl} {m : List Int} (hr : RY q h cs m) (hl : cs.length ≤ 10) (hs : HS h) (w : Int32) {dp : Nat} : ∀ (k c : Nat) (cI : Int32), c + k = cs.length → cI.toInt = c → Q (some (.int (b2i (zhas w.toInt (cs.drop c))))) h → Ends X dp 57 2 [.ref q, .int w, .int cI] [] h Q
  | k, c, cI, hk, hc, hQ => by
    have j10 : (10 : Int32).toInt = 10 := rfl
    have r1 := hr.1
    refine w_yhas1 hY w cI hs ⟨fun e => ?_, fun e => ⟨fun e2 => ?_, fun _ => ⟨inB_iff (by omega) ?_, fun e3 => ?_, fun e3 => ?_⟩⟩⟩
    · have e : (h.2.1 q 0).toInt ≤ cI.toInt := of_decide_eq_true (cJ e)
      rw [List.drop_eq_nil_of_le (by omega)] at hQ
      exact hQ
    · exfalso
      have e : ¬ (h.2.1 q 0).toInt ≤ cI.toInt := of_decide_eq_false (cJ e)
      have e2 : (10 : Int32).toInt ≤ cI.toInt := of_decide_eq_true (cJ e2)
      omega
    · have e : ¬ (h.2.1 q 0).toInt ≤ cI.toInt := of_decide_eq_false (cJ e)
      omega
    all_goals
      have e : ¬ (h.2.1 q 0).toInt ≤ cI.toInt := of_decide_eq_false (cJ e)
      have hlt : c < cs.length := by omega
      rw [show cI.toNatClampNeg = cI.toInt.toNat from rfl, show cI.toInt.toNat = c by omega] at e3
      have x := (hr.2.1 c hlt).1
      rw [dropC hlt] at hQ
      unfold zhas at hQ
    · have e3 : ¬ (h.2.1 (q + 1) c).toInt = w.toInt := of_decide_eq_true (cJ e3)
      rw [if_neg (by omega)] at hQ
      match k, hk with
      | 0, hk => omega
      | k + 1, hk => exact yhas_go hY hr hl hs w k (c + 1) (cI + 1) (by omega) (by rw [i_add (by rw [i1]; omega) (by rw [i1]; omega), i1]; omega) hQ
    · have e3 : ¬ ¬ (h.2.1 (q + 1) c).toInt = w.toInt := of_decide_eq_false (cJ e3)
      rw [if_pos (by omega)] at hQ
      exact hQ
theorem yhas_ok (hY : YB q) {cs : List Cl} {m : List Int} (hr : RY q h cs m) (hl : cs.length ≤ 10) (hs : HS h) (w : Int32) {dp : Nat} (hQ : Q (some (.int (b2i (zhas w.toInt cs)))) h) : Ends X dp 57 0 [.ref q, .int w, .retAddr 0] [] h Q :=
  w_yhas0 hY w hs (yhas_go hY hr hl hs w cs.length 0 0 (by omega) rfl hQ)
theorem ytog_go (hY : YB q) {cs : List Cl} {m : List Int} (hr : RY q h cs m) (hw : WFC cs m) (hl : cs.length ≤ 10) (hm : m.length ≤ 100) (fc : Int → Int) (hF : FCT h fc) (hs : HS h) (w : Int32) {dp : Nat} : ∀ (k c : Nat) (cI sI fI : Int32) (S : Int), c + k = cs.length → cI.toInt = c → sI.toInt = S → 0 ≤ S → S ≤ 99 * c → fI.toInt = ((if c = 0 then 0 else (cs.getD (c - 1) cl0).2.2.2 : Nat) : Int) → (∀ r : Int32, r.toInt = S + zsum m fc w.toInt (cs.drop c) → Q (some (.int r)) h) → Ends X (dp + 1 + 1) 58 8 [.ref q, .int w, .ref 31, .int sI, .int fI, .int cI] [] h Q
  | k, c, cI, sI, fI, S, hk, hc, hS, h0, h9, hf, hQ => by
    have j10 : (10 : Int32).toInt = 10 := rfl
    have r1 := hr.1
    have ib : ¬ (h.2.1 q 0).toInt ≤ cI.toInt → inB cI 10 = true := fun e => inB_iff (by omega) (by omega)
    refine w_ytog1 hY w sI fI cI hs ⟨fun e => ?_, fun e => ⟨fun e2 => ?_, fun _ => ⟨ib (of_decide_eq_false (cJ e)), fun e3 => ⟨ib (of_decide_eq_false (cJ e)), ?_⟩, fun e3 => ⟨ib (of_decide_eq_false (cJ e)), ?_⟩⟩⟩⟩
    · have e : (h.2.1 q 0).toInt ≤ cI.toInt := of_decide_eq_true (cJ e)
      rw [List.drop_eq_nil_of_le (by omega)] at hQ
      exact hQ sI (by rw [hS]; show S = S + 0; omega)
    · exfalso
      have e : ¬ (h.2.1 q 0).toInt ≤ cI.toInt := of_decide_eq_false (cJ e)
      have e2 : (10 : Int32).toInt ≤ cI.toInt := of_decide_eq_true (cJ e2)
      omega
    all_goals
      have e : ¬ (h.2.1 q 0).toInt ≤ cI.toInt := of_decide_eq_false (cJ e)
      have hlt : c < cs.length := by omega
      rw [show cI.toNatClampNeg = cI.toInt.toNat from rfl, show cI.toInt.toNat = c by omega] at e3 ⊢
      obtain ⟨x1, x2, x3⟩ := hr.2.1 c hlt
      obtain ⟨u1, u2, u3, u4, u5, pre, ee, post, p1, p2, p3, p4⟩ := hw.1 c hlt
      have n1 : (cI + 1).toInt = ((c + 1 : Nat) : Int) := by rw [i_add (by rw [i1]; omega) (by rw [i1]; omega), i1]; omega
      have nf : (h.2.1 (q + 3) c).toInt = ((if c + 1 = 0 then 0 else (cs.getD (c + 1 - 1) cl0).2.2.2 : Nat) : Int) := by rw [if_neg (by omega), show c + 1 - 1 = c by omega]; exact x3
      rw [dropC hlt] at hQ
      unfold zsum at hQ
    · have e3 : ¬ (h.2.1 (q + 1) c).toInt = w.toInt := of_decide_eq_true (cJ e3)
      rw [if_neg (fun z => e3 (by rw [x1]; exact z.1))] at hQ
      match k, hk with
      | 0, hk => omega
      | k + 1, hk => exact ytog_go hY hr hw hl hm fc hF hs w k (c + 1) (cI + 1) sI _ S (by omega) n1 hS h0 (by omega) nf (fun r hr' => hQ r (by omega))
    · have e3 : ¬ ¬ (h.2.1 (q + 1) c).toInt = w.toInt := of_decide_eq_false (cJ e3)
      have e3 := Decidable.not_not.mp e3
      have sl : zsl m (cs.getD c cl0) = ee := by rw [p1]; exact zsl_eq p2 p3
      rw [sl] at hQ
      have ml : m.length = pre.length + (ee.length + post.length) := by rw [p1, List.length_append, List.length_append]
      have mk : ∀ j, j < ee.length → (h.2.1 (q + 4) ((cs.getD c cl0).2.2.1 + j)).toInt = trM (ee.getD j 0) := fun j hj => by
        rw [hr.2.2 _ (by omega), p1, ← p2]
        congr 1
        rw [List.getD_eq_getElem?_getD, List.getElem?_append_right (by omega), show pre.length + j - pre.length = j by omega, List.getElem?_append_left hj, ← List.getD_eq_getElem?_getD]
      refine tru_ok hY fc hF hs fI (h.2.1 (q + 3) c) (cs.getD c cl0).2.2.1 (cs.getD c cl0).2.2.2 (by rw [hf, u1]) x3 (by omega) ee mk p3 p4 ⟨_, rfl, hs, fun e4 => ⟨ib e, ?_⟩, fun e4 => ⟨ib e, ib e, ?_⟩⟩
      · have e4 := cz e4
        rw [if_neg (fun z => by rw [e4] at z; exact absurd z.2 Bool.false_ne_true)] at hQ
        match k, hk with
        | 0, hk => omega
        | k + 1, hk => exact ytog_go hY hr hw hl hm fc hF hs w k (c + 1) (cI + 1) sI _ S (by omega) n1 hS h0 (by omega) nf (fun r hr' => hQ r (by omega))
      · have e4 := cn e4
        rw [if_pos ⟨by rw [← x1]; exact e3, e4⟩] at hQ
        have sv : (sI + h.2.1 (q + 2) c).toInt = S + (cs.getD c cl0).2.1 := by rw [i_add (by rw [hS, x2]; omega) (by rw [hS, x2]; omega), hS, x2]
        match k, hk with
        | 0, hk => omega
        | k + 1, hk => exact ytog_go hY hr hw hl hm fc hF hs w k (c + 1) (cI + 1) _ _ (S + (cs.getD c cl0).2.1) (by omega) n1 sv (by omega) (by omega) nf (fun r hr' => hQ r (by omega))
theorem ytog_ok (hY : YB q) {cs : List Cl} {m : List Int} (hr : RY q h cs m) (hw : WFC cs m) (hl : cs.length ≤ 10) (hm : m.length ≤ 100) (fc : Int → Int) (hF : FCT h fc) (hs : HS h) (w : Int32) {dp : Nat} (hQ : ∀ r : Int32, r.toInt = zsum m fc w.toInt cs → Q (some (.int r)) h) : Ends X (dp + 1 + 1) 58 0 [.ref q, .int w, .ref 31, .retAddr 0, .retAddr 0, .retAddr 0] [] h Q :=
  w_ytog0 hY w hs (ytog_go hY hr hw hl hm fc hF hs w cs.length 0 0 0 0 0 (by omega) rfl rfl (by decide) (by decide) rfl (fun r hr' => hQ r (by rw [hr', Int.zero_add]; rfl)))
end SUMS
