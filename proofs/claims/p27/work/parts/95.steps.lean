/-! A call of a public method keeps what holds at every pass. -/
theorem st_plain {T : Ctr} (i : Nat) (hT : (TBL.take 328)[i]? = some T) (hd : disW SUPI (cW T) = true) {X : Scr} {dp : Nat} {ρ : Nat → Int} {h : Hp} {as : List Value} {Q : Option Value → Hp → Prop} (hD : cD T ≤ dp) (hi : INV h) (hb : bOK ρ (cB T)) (ha : al2 (vm (cB T).length ρ) (cA T) as) (hF : cF T = []) (hQ : ∀ v h', INV h' → Qpost (cB T).length ρ (cP T) v h' → Q v h') : Ends X dp (cY T) 0 (entL (mMaxL (cY T)) as) [] h Q :=
  (gd1 i hT X dp ρ h as hD hi.1 (fun _ => hi.2.1) hb ha (by rw [hF]; intro q hq; cases hq)).mono (fun v h' q => hQ v h' (INV_fr hd q.1 q.2.1 hi) q.2.2)
def SUPS : List (Nat × Nat) := [(93, 9), (93, 10), (93, 45), (101, 999), (104, 999), (105, 999), (106, 999), (93, 30), (93, 32), (93, 47), (1, 0), (93, 0), (9, 0), (93, 46), (0, 2), (93, 44), (56, 999), (38, 999)]
theorem sups1 {a k : Nat} (h : inW SUP1 a k = true) : inW SUPS a k = true := by
  have : SUPS = SUP1 ++ [(93, 32), (93, 47), (1, 0), (93, 0), (9, 0), (93, 46), (0, 2), (93, 44), (56, 999), (38, 999)] := rfl
  unfold inW at h ⊢
  rw [this, List.any_append, h]
  rfl
theorem INV_frS {W : List (Nat × Nat)} {h h' : Hp} (hd : disW SUPS W = true) (hh : HI h') (hf : frm W h h') (hs : (h'.2.1 93 1).toInt ≤ 999) (hi : INV h) : INV h' := by
  obtain ⟨-, j1, g, -, q, ⟨x1, x2⟩, r1, r2, r3⟩ := hi
  have e : ∀ a k, inW SUPS a k = true → h'.2.1 a k = h.2.1 a k := fun a k hs => (hf a k (dis_in hd hs)).1
  have er : ∀ a k, inW SUPS a k = true → h'.2.2.2 a k = h.2.2.2 a k := fun a k hs => (hf a k (dis_in hd hs)).2.2
  refine ⟨hh, JS1 h h' (fun a k q => e a k (sups1 q)) j1, by rw [e 93 32 rfl]; exact g, hs, by rw [e 93 47 rfl]; exact q, ⟨fun i hi => ?_, fun i hi => ?_⟩, ?_, ?_, ?_⟩
  · rw [er 56 i (by simp [inW, SUPS])]; exact x1 i hi
  · rw [er 38 i (by simp [inW, SUPS])]; exact x2 i hi
  · rw [e 1 0 rfl, e 93 0 rfl]; exact r1
  · rw [e 9 0 rfl, e 93 46 rfl]; exact r2
  · rw [e 0 2 rfl, e 93 44 rfl]; exact r3
theorem qp_fact {nv : Nat} {ρ : Nat → Int} {posts : List Post} {v : Option Value} {h : Hp} {a k : Nat} {lo hi : Int} (hq : Qpost nv ρ posts v h) (hp : posts.all (fun P => P.2.2.1.any (fun q => q.1 == a && q.2.1 == k && rngOK (trg P.1 q.2.2) (lo, hi))) = true) : lo ≤ (h.2.1 a k).toInt ∧ (h.2.1 a k).toInt ≤ hi := by
  obtain ⟨P, hP, ρ', e, hb, hn, ha, hf⟩ := hq
  obtain ⟨q, hq, h1⟩ := List.any_eq_true.mp (List.all_eq_true.mp hp P hP)
  simp only [Bool.and_eq_true, beq_iff_eq] at h1
  obtain ⟨⟨rfl, rfl⟩, h3⟩ := h1
  have hr := tOK_rg hb (hf q hq).1
  exact rng_ok h3 hr.1 hr.2
/-- a call that may shout -/
theorem st_shout {T : Ctr} (i : Nat) (hT : (TBL.take 328)[i]? = some T) (hd : disW SUPS (cW T) = true) (hp : (cP T).all (fun P => P.2.2.1.any (fun q => q.1 == 93 && q.2.1 == 1 && rngOK (trg P.1 q.2.2) (0, 999))) = true) {X : Scr} {dp : Nat} {ρ : Nat → Int} {h : Hp} {as : List Value} {Q : Option Value → Hp → Prop} (hD : cD T ≤ dp) (hi : INV h) (hb : bOK ρ (cB T)) (ha : al2 (vm (cB T).length ρ) (cA T) as) (hF : ∀ q ∈ cF T, tOK (cB T).length ρ q.2.2 (h.2.1 q.1 q.2.1).toInt ∧ ∃ ci, SHl[q.1]? = some (.inr ci)) (hQ : ∀ v h', INV h' → Qpost (cB T).length ρ (cP T) v h' → Q v h') : Ends X dp (cY T) 0 (entL (mMaxL (cY T)) as) [] h Q :=
  (gd1 i hT X dp ρ h as hD hi.1 (fun _ => hi.2.1) hb ha hF).mono (fun v h' q => hQ v h' (INV_frS hd q.1 q.2.1 (qp_fact q.2.2 hp).2 hi) q.2.2)
