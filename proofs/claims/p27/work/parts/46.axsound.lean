/-! The check of a method against its contract, and that it is sound. -/
def cutM (C0 : Option Cut) (S : AS) (C : Cut) : Bool := match C0 with
  | some C' => mlt S.1 C'.2.2.1 S.2.1 (kM C') (kM C)
  | none => true
def ay (code : List En) (TB : List Ctr) (T : Ctr) (cal : List (Nat × Nat)) (cuts : List Cut) (C0 : Option Cut) : Nat → Bool → Nat → AS → Bool
  | 0, _, _, _ => false
  | n + 1, fresh, pc, S =>
    if (!fresh && cuts.any (fun C => C.1 == pc)) = true then cuts.any (fun C => (C.1 == pc) && (cutFit (cB T).length S C && cutM C0 S C))
    else match code.find? (fun q => q.1 == pc) with
      | none => false
      | some q => if isRet q.2.1 = true then okRet (cY T) (cB T).length (cP T) q.2.1 S
        else match callO q.2.1 q.2.2.2 with
        | some (c, na, kd) => cal.any (fun p => (p.1 == pc) && (match TB[p.2]? with
          | some T' => (match acall (cD T) (cW T) (cK T) S c na kd T' with
            | some l => l.all (fun S' => ay code TB T cal cuts C0 n false (pc + 3) S')
            | none => false)
          | none => false))
        | none => match asuc (cW T) q.2.1 q.2.2.2 pc S with
          | some l => l.all (fun p => ay code TB T cal cuts C0 n false p.1 p.2)
          | none => false
def Qend (T : Ctr) (h0 : Hp) (ρ0 : Nat → Int) (v : Option Value) (h' : Hp) : Prop := HI h' ∧ frm (cW T) h0 h' ∧ Qpost (cB T).length ρ0 (cP T) v h'
theorem dis_in {SUP W : List (Nat × Nat)} (hd : disW SUP W = true) {a k : Nat} (hs : inW SUP a k = true) : inW W a k = false := by
  cases e : inW W a k with
  | false => rfl
  | true =>
    obtain ⟨q, hq, hm⟩ := List.any_eq_true.mp e
    obtain ⟨s, hs, hm2⟩ := List.any_eq_true.mp hs
    have h1 := List.all_eq_true.mp (List.all_eq_true.mp hd q hq) s hs
    simp only [Bool.and_eq_true, Bool.or_eq_true, beq_iff_eq] at hm hm2
    have h2 : (s.1 == q.1 && (s.2 == q.2 || s.2 == 999 || q.2 == 999)) = true := by
      simp only [Bool.and_eq_true, Bool.or_eq_true, beq_iff_eq]
      omega
    rw [h2] at h1
    cases h1
/-- the invariant hangs on its places alone -/
def JS (J : JV) : Prop := ∀ h h' : Hp, (∀ a k, inW J.2 a k = true → h'.2.1 a k = h.2.1 a k) → J.1 h → J.1 h'
theorem KI_dis {J : JV} (hJ : JS J) {W : List (Nat × Nat)} {h h' : Hp} (hd : disW J.2 W = true) (hf : frm W h h') (hk : J.1 h) : J.1 h' :=
  hJ h h' (fun a k hs => (hf a k (dis_in hd hs)).1) hk
theorem nar_byte {x : Int32} (h1 : -128 ≤ x.toInt) (h2 : x.toInt ≤ 127) : narrow .byte (.int x) = .int x := by
  show Value.int x.toInt8.toInt32 = Value.int x
  have e : x.toInt8.toInt32 = x := by
    apply Int32.toInt.inj
    rw [Int8.toInt_toInt32, Int32.toInt_toInt8, Int.bmod_def]
    split <;> omega
  rw [e]
theorem nar_char {x : Int32} (h1 : 0 ≤ x.toInt) (h2 : x.toInt ≤ 65535) : narrow .char (.int x) = .int x := by
  show Value.int x.toUInt32.toUInt16.toUInt32.toInt32 = Value.int x
  have e : x.toUInt32.toUInt16.toUInt32.toInt32 = x := by
    apply Int32.toBitVec_inj.mp
    apply BitVec.eq_of_toNat_eq
    have h3 : x.toBitVec.toInt = x.toInt := rfl
    rw [BitVec.toInt_eq_toNat_cond] at h3
    have h4 := x.toBitVec.isLt
    have h5 : x.toUInt32.toUInt16.toUInt32.toInt32.toBitVec.toNat = x.toBitVec.toNat % 65536 := by simp
    rw [h5]
    split at h3 <;> omega
  rw [e]
theorem ret_ok {y : Nat} {i : Instr} {S : AS} {L st : List Value} {h : Hp} {ρ : Nat → Int} (g : gam ρ S L st h) (hr : (match i with
  | .ireturn => (match S.2.2.1 with | [a] => a.1 == 1 && retTy y (trg S.1 a.2.1) | _ => false)
  | .lreturn => (match S.2.2.1 with | [a] => a.1 == 2 && decide (mRet y = some .long) | _ => false)
  | .return_ => S.2.2.1.isEmpty && decide (mRet y = none)
  | _ => false) = true) : ∃ v : Option Value, st = v.toList ∧ retO y i st h = some (some (v, h)) := by
  obtain ⟨B, AL, Ast, F⟩ := S
  have g3 : al2 (vm B.length ρ) Ast st := g.2.2.1
  split at hr
  · split at hr
    · rename_i a hA
      have hA : Ast = [a] := hA
      subst hA
      match st, g3 with
      | [v], ⟨g3, _⟩ =>
        obtain ⟨h1, h2⟩ := (Bool.and_eq_true _ _).mp hr
        obtain ⟨x, rfl, hx⟩ := vm1 (by simpa using h1) g3
        refine ⟨some (.int x), rfl, ?_⟩
        show some (retI y [.int x] h) = _
        have hb := tOK_rg g.1 hx
        unfold retTy at h2
        unfold retI
        cases hm : mRet y with
        | none => rw [hm] at h2; cases h2
        | some ty =>
          rw [hm] at h2
          have hn : isRefTy ty = false ∧ narrow ty (.int x) = .int x := by
            cases ty with
            | int => exact ⟨rfl, rfl⟩
            | boolean =>
              refine ⟨rfl, ?_⟩
              have h3 := rng_ok h2 hb.1 hb.2
              have h4 : x = 0 ∨ x = 1 := by
                rcases (show x.toInt = 0 ∨ x.toInt = 1 by omega) with e | e
                · exact Or.inl (Int32.toInt.inj e)
                · exact Or.inr (Int32.toInt.inj e)
              rcases h4 with rfl | rfl <;> rfl
            | char =>
              refine ⟨rfl, ?_⟩
              have h3 := rng_ok h2 hb.1 hb.2
              exact nar_char h3.1 h3.2
            | byte =>
              refine ⟨rfl, ?_⟩
              have h3 := rng_ok h2 hb.1 hb.2
              exact nar_byte h3.1 h3.2
            | _ => cases h2
          simp only
          rw [if_pos hn]
    · cases hr
  · split at hr
    · rename_i a hA
      have hA : Ast = [a] := hA
      subst hA
      match st, g3 with
      | [v], ⟨g3, _⟩ =>
        obtain ⟨h1, h2⟩ := (Bool.and_eq_true _ _).mp hr
        obtain ⟨x, rfl, hx⟩ := vm2 (by simpa using h1) g3
        refine ⟨some (.long x), rfl, ?_⟩
        show some (retL y [.long x] h) = _
        unfold retL
        simp only
        rw [if_pos (of_decide_eq_true h2)]
    · cases hr
  · obtain ⟨h1, h2⟩ := (Bool.and_eq_true _ _).mp hr
    have hA : Ast = [] := by simpa using h1
    subst hA
    match st, g3 with
    | [], _ =>
      refine ⟨none, rfl, ?_⟩
      show some (retV y [] h) = _
      unfold retV
      simp only
      rw [if_pos (of_decide_eq_true h2)]
  · cases hr
theorem isRet_none {y : Nat} {i : Instr} {st : List Value} {h : Hp} (hi : isRet i = false) : retO y i st h = none := by
  cases i <;> first | rfl | cases hi
set_option maxHeartbeats 1000000 in
theorem ay_sound {J : JV} {X : Scr} {TB : List Ctr} {T : Ctr} {cal : List (Nat × Nat)} {cuts : List Cut} {C0 : Option Cut} {dp : Nat} {h0 : Hp} {ρ0 ρC : Nat → Int} {n0 : Nat} {LC : List Value}
    (hJ : JS J) (hG : ∀ T' ∈ TB, Good J T') (hD : cD T ≤ dp) (hKW : cK T = false ∨ disW J.2 (cW T) = true) (hK0 : cK T = true → J.1 h0)
    (hC : ∀ C', C0 = some C' → al2 (vm n0 ρC) C'.2.2.1 LC)
    (hnv : (cB T).length ≤ n0) (he0 : ext (cB T).length ρ0 ρC)
    (rec : ∀ C ∈ cuts, ∀ ρ L h, ext (cB T).length ρ0 ρ → (cB T).length ≤ C.2.1.length → gam ρ (C.2.1, C.2.2.1, [], kF C) L [] h → HI h → frm (cW T) h0 h → (∀ C', C0 = some C' → lxl ((kM C').map (mOne LC)) ((kM C).map (mOne L))) → Ends X dp (cY T) C.1 L [] h (Qend T h0 ρ0)) :
    ∀ (n : Nat) (fresh : Bool) (pc : Nat) (S : AS) (ρ : Nat → Int) (L st : List Value) (h : Hp), ay (progs.getD (cY T) []) TB T cal cuts C0 n fresh pc S = true → gam ρ S L st h → HI h → frm (cW T) h0 h → n0 ≤ S.1.length → ext n0 ρC ρ → Ends X dp (cY T) pc L st h (Qend T h0 ρ0)
  | 0, _, _, _, _, _, _, _, hu, _, _, _, _, _ => by cases hu
  | n + 1, fresh, pc, S, ρ, L, st, h, hu, g, hh, hf, hn, he => by
    have ihn := ay_sound (cal := cal) (cuts := cuts) (C0 := C0) hJ hG hD hKW hK0 hC hnv he0 rec n
    rw [ay] at hu
    by_cases hcut : (!fresh && cuts.any (fun C => C.1 == pc)) = true
    · rw [if_pos hcut] at hu
      obtain ⟨C, hCm, hu⟩ := List.any_eq_true.mp hu
      obtain ⟨h1, hu⟩ := (Bool.and_eq_true _ _).mp hu
      obtain ⟨h2, h3⟩ := (Bool.and_eq_true _ _).mp hu
      have h1 : C.1 = pc := by simpa using h1
      subst h1
      obtain ⟨ρ', e1, g1, rfl, n1⟩ := cutFit_ok g (Nat.le_trans hnv hn) h2
      refine rec C hCm ρ' L h (ext_trans (Nat.le_refl _) (ext_trans hnv he0 he) e1) n1 g1 hh hf ?_
      intro C' hC'
      subst hC'
      exact mlt_ok g.1 (hC C' rfl) g.2.1 hn he h3
    · rw [if_neg hcut] at hu
      split at hu
      · cases hu
      · rename_i q hq
        obtain ⟨pc0, i, len, o⟩ := q
        have hp : pAt (cY T) pc = some (pc0, i, len, o) := hq
        by_cases hret : isRet i = true
        · rw [if_pos hret] at hu
          unfold okRet at hu
          obtain ⟨h1, h2⟩ := (Bool.and_eq_true _ _).mp hu
          obtain ⟨v, rfl, hr⟩ := ret_ok g h1
          exact Ends.ret hp hr ⟨hh, hf, postFit_ok g (Nat.le_trans hnv hn) (ext_trans hnv he0 he) h2⟩
        · rw [if_neg hret] at hu
          have hret : isRet i = false := by cases e : isRet i with
            | false => rfl
            | true => exact absurd e hret
          split at hu
          · rename_i c na kd hc
            obtain ⟨p, -, hu⟩ := List.any_eq_true.mp hu
            obtain ⟨-, hu⟩ := (Bool.and_eq_true _ _).mp hu
            split at hu
            · rename_i T' hT'
              split at hu
              · rename_i l hl
                have hGT := hG T' (List.mem_of_getElem? hT')
                have hKh : cK T = true → J.1 h := fun e => KI_dis hJ (hKW.resolve_left (by rw [e]; decide)) hf (hK0 e)
                cases dp with
                | zero =>
                  exfalso
                  unfold acall at hl
                  obtain ⟨⟨-, q2, -⟩, -⟩ := inv_if hl
                  omega
                | succ dp =>
                  obtain ⟨hok, hE⟩ := call_ok (X := X) (dp := dp) hGT g hh hKh hD hl
                  refine Ends.call hp (isRet_none hret) hc hok (hE.mono ?_)
                  rintro rv h1 ⟨hh1, hf1, S', hS', ρ', e1, n1, g1⟩
                  exact ihn false (pc + 3) S' ρ' L _ h1 (List.all_eq_true.mp hu S' hS') g1 hh1 (frm_trans hf hf1) (Nat.le_trans hn n1) (ext_trans hn he e1)
              · cases hu
            · cases hu
          · rename_i hc
            split at hu
            · rename_i l hl
              obtain ⟨pc', S', ρ', L', st', h', hm, hs, g1, hh1, hf1, e1, n1, -⟩ := asuc_sound (X := X) g hh hl
              exact Ends.step hp (isRet_none hret) hc hs (ihn false pc' S' ρ' L' st' h' (List.all_eq_true.mp hu (pc', S') hm) g1 hh1 (frm_trans hf hf1) (Nat.le_trans hn n1) (ext_trans hn he e1))
            · cases hu
/-- the locals with which a checked method begins -/
def entA : List AV → List AV
  | [] => []
  | a :: l => if a.1 = 2 then a :: jT :: entA l else a :: entA l
def entP (n : Nat) (l : List AV) : List AV := entA l ++ List.replicate (n - (entA l).length) jT
def FU : Nat := 3000
/-- the whole check of a method -/
def chk (TB : List Ctr) (T : Ctr) (cal : List (Nat × Nat)) (cuts : List Cut) (ml : Nat) : Bool :=
  (cA T).all tg3 && cuts.all (fun C => (kM C).length == ml) &&
  ay (progs.getD (cY T) []) TB T cal cuts none FU false 0 (cB T, entP (mMaxL (cY T)) (cA T), [], cF T) &&
  cuts.all (fun C => ay (progs.getD (cY T) []) TB T cal cuts (some C) FU true C.1 (C.2.1, C.2.2.1, [], kF C))
theorem ent_ok {n : Nat} {ρ : Nat → Int} : ∀ {A : List AV} {L : List Value}, al2 (vm n ρ) A L → A.all tg3 = true → al2 (vm n ρ) (entA A) (entL0 L)
  | [], [], _, _ => trivial
  | a :: A, v :: L, h, ha => by
    obtain ⟨h1, h2⟩ := (Bool.and_eq_true _ _).mp ha
    obtain ⟨-, e2⟩ := tg3_of h1 h.1
    have ih := ent_ok h.2 h2
    unfold entA entL0
    by_cases hc : v.category = 2
    · rw [if_pos hc, if_pos (e2.mp hc)]
      exact ⟨h.1, rfl, ih⟩
    · rw [if_neg hc, if_neg (fun q => hc (e2.mpr q))]
      exact ⟨h.1, ih⟩
  | [], _ :: _, h, _ => h.elim
  | _ :: _, [], h, _ => h.elim
theorem rep_ok {n : Nat} {ρ : Nat → Int} : ∀ k : Nat, al2 (vm n ρ) (List.replicate k jT) (List.replicate k (.retAddr 0))
  | 0 => trivial
  | k + 1 => ⟨rfl, rep_ok k⟩
theorem entP_ok {n k : Nat} {ρ : Nat → Int} {A : List AV} {L : List Value} (h : al2 (vm n ρ) A L) (ha : A.all tg3 = true) : al2 (vm n ρ) (entP k A) (entL k L) := by
  have h1 := ent_ok h ha
  unfold entP entL
  rw [al2_len h1]
  exact al2_app h1 (rep_ok _)
theorem chk_good {J : JV} (hJ : JS J) {TB : List Ctr} {T : Ctr} {cal : List (Nat × Nat)} {cuts : List Cut} {ml : Nat} (hG : ∀ T' ∈ TB, Good J T') (hKW : cK T = false ∨ disW J.2 (cW T) = true) (hc : chk TB T cal cuts ml = true) : Good J T := by
  unfold chk at hc
  obtain ⟨h123, h5⟩ := (Bool.and_eq_true _ _).mp hc
  obtain ⟨h12, h4⟩ := (Bool.and_eq_true _ _).mp h123
  obtain ⟨h2, h3⟩ := (Bool.and_eq_true _ _).mp h12
  intro X dp ρ0 h0 as hD hh hK hb ha hF
  have loop : ∀ l : List Nat, l.length = ml → ∀ C ∈ cuts, ∀ ρ L h, (kM C).map (mOne L) = l → ext (cB T).length ρ0 ρ → (cB T).length ≤ C.2.1.length → gam ρ (C.2.1, C.2.2.1, [], kF C) L [] h → HI h → frm (cW T) h0 h → Ends X dp (cY T) C.1 L [] h (Qend T h0 ρ0) := by
    intro l hl
    refine lx_ind (P := fun l => ∀ C ∈ cuts, ∀ ρ L h, (kM C).map (mOne L) = l → ext (cB T).length ρ0 ρ → (cB T).length ≤ C.2.1.length → gam ρ (C.2.1, C.2.2.1, [], kF C) L [] h → HI h → frm (cW T) h0 h → Ends X dp (cY T) C.1 L [] h (Qend T h0 ρ0)) ml l hl ?_
    intro l hl ih C hC ρ L h hm he hn g hh hf
    refine ay_sound (C0 := some C) (n0 := C.2.1.length) (ρC := ρ) (LC := L) hJ hG hD hKW hK ?_ hn he ?_ FU true C.1 _ ρ L [] h (List.all_eq_true.mp h5 C hC) g hh hf (Nat.le_refl _) ext_refl
    · intro C' hC'
      cases hC'
      exact g.2.1
    · intro C1 hC1 ρ1 L1 k1 e1 n1 g1 hh1 hf1 hlx
      have hlx := hlx C rfl
      rw [hm] at hlx
      have hml : ((kM C1).map (mOne L1)).length = ml := by
        rw [List.length_map]
        simpa using List.all_eq_true.mp h3 C1 hC1
      exact ih _ hml hlx C1 hC1 ρ1 L1 k1 rfl e1 n1 g1 hh1 hf1
  refine ay_sound (C0 := none) (n0 := (cB T).length) (ρC := ρ0) (LC := []) hJ hG hD hKW hK (fun C' hC' => by cases hC') (Nat.le_refl _) ext_refl ?_ FU false 0 (cB T, entP (mMaxL (cY T)) (cA T), [], cF T) ρ0 _ [] h0 h4 ⟨hb, entP_ok ha h2, trivial, hF⟩ hh frm_refl (Nat.le_refl _) ext_refl
  intro C hC ρ L h he hn g hh1 hf _
  have hml : ((kM C).map (mOne L)).length = ml := by
    rw [List.length_map]
    simpa using List.all_eq_true.mp h3 C hC
  exact loop _ hml C hC ρ L h rfl he hn g hh1 hf
/-- a method whose j-th argument may be one of several objects: by its contracts for each of them -/
def chkJ (TB : List Ctr) (T : Ctr) (j : Nat) : Bool := match (cA T)[j]? with
  | some a => a.1 == 3 && a.2.2.2.all (fun b => TB.any (fun T' => decide (cY T' = cY T) && decide (cD T' ≤ cD T) && decide (cB T' = cB T) && decide (cA T' = (cA T).set j (rT [b])) && decide (cF T' = cF T) && (cP T').all (fun P => (cP T).contains P) && subW (cW T') (cW T) && (cK T' == false || cK T)))
  | none => false
theorem chkJ_good {J : JV} {TB : List Ctr} {T : Ctr} {j : Nat} (hG : ∀ T' ∈ TB, Good J T') (hc : chkJ TB T j = true) : Good J T := by
  unfold chkJ at hc
  split at hc
  · rename_i a ha
    obtain ⟨h3, hc⟩ := (Bool.and_eq_true _ _).mp hc
    intro X dp ρ h as hD hh hK hb hA hF
    obtain ⟨v, hv, hva⟩ := al2_get hA ha
    obtain ⟨b, rfl, hbm⟩ := vm3 (by simpa using h3) hva
    obtain ⟨T', hT', hc⟩ := List.any_eq_true.mp (List.all_eq_true.mp hc b hbm)
    simp only [Bool.and_eq_true, decide_eq_true_eq, Bool.or_eq_true, beq_iff_eq] at hc
    obtain ⟨⟨⟨⟨⟨⟨⟨c1, c2⟩, c3⟩, c4⟩, c8⟩, c5⟩, c6⟩, c7⟩ := hc
    have hs : as.set j (.ref b) = as := by
      obtain ⟨hj, e⟩ := List.getElem?_eq_some_iff.mp hv
      rw [← e]
      exact List.set_getElem_self hj
    have hA' : al2 (vm (cB T').length ρ) (cA T') as := by
      rw [c3, c4, ← hs]
      exact al2_set hA ⟨b, rfl, List.mem_singleton.mpr rfl⟩
    have := hG T' hT' X dp ρ h as (Nat.le_trans c2 hD) hh (fun e => hK (by
      rcases c7 with q | q
      · rw [q] at e; cases e
      · exact q)) (by rw [c3]; exact hb) hA' (by rw [c8, c3]; exact hF)
    rw [c1] at this
    refine this.mono ?_
    rintro v h' ⟨q1, q2, P, hP, q3⟩
    rw [c3] at q3
    exact ⟨q1, frm_sub c6 q2, P, by simpa using List.all_eq_true.mp c5 P hP, q3⟩
  · cases hc
/-- a method's row: its contract, the contracts of its calls, its cuts, the measure's length; or an argument's place -/
abbrev Row : Type := Ctr × List (Nat × Nat) × List Cut × Nat × Option Nat
