/-! Walks by hand: a row an instruction. -/
/-- shapes and references are as laid out -/
def HS (h : Hp) : Prop := h.1 = SHl ∧ ∀ a k, rst a k ≠ [] → ∃ b ∈ rst a k, h.2.2.2 a k = some b
theorem HI.hs {h : Hp} (hh : HI h) : HS h := ⟨hh.1, hh.2.2⟩
def hpI (h : Hp) (a k : Nat) (x : Int32) : Hp := (h.1, ud h.2.1 a k x, h.2.2.1, h.2.2.2)
def hpL (h : Hp) (a k : Nat) (x : Int64) : Hp := (h.1, h.2.1, ud h.2.2.1 a k x, h.2.2.2)
theorem HS.hpI {h : Hp} (hs : HS h) (a k : Nat) (x : Int32) : HS (hpI h a k x) := hs
theorem HS.hpL {h : Hp} (hs : HS h) (a k : Nat) (x : Int64) : HS (hpL h a k x) := hs
section WALK
variable {X : Scr} {dp y pc p0 len t : Nat} {o : List Nat} {L st : List Value} {h : Hp} {Q : Option Value → Hp → Prop}
theorem e_pure {i : Instr} {pc' : Nat} {L' st' : List Value} (he : pAt y pc = some (p0, i, len, o)) (hr : isRet i = false) (hc : callO i o = none) (hs : hstep X i o pc L st h = some (pc', L', st', h)) (e : Ends X dp y pc' L' st' h Q) : Ends X dp y pc L st h Q :=
  Ends.step he (isRet_none hr) hc hs e
theorem e_iconst {k : Int} {c : Int32} (he : pAt y pc = some (p0, .iconst k, len, o)) (hk : Int32.ofInt k = c) (e : Ends X dp y (pc + 1) L (.int c :: st) h Q) : Ends X dp y pc L st h Q := by
  subst hk
  exact e_pure he rfl rfl rfl e
theorem e_bipush {k : Int} {c : Int32} (he : pAt y pc = some (p0, .bipush k, len, o)) (hk : (Int8.ofInt k).toInt32 = c) (e : Ends X dp y (pc + 2) L (.int c :: st) h Q) : Ends X dp y pc L st h Q := by
  subst hk
  exact e_pure he rfl rfl rfl e
theorem e_sipush {k : Int} {c : Int32} (he : pAt y pc = some (p0, .sipush k, len, o)) (hk : (Int16.ofInt k).toInt32 = c) (e : Ends X dp y (pc + 3) L (.int c :: st) h Q) : Ends X dp y pc L st h Q := by
  subst hk
  exact e_pure he rfl rfl rfl e
theorem e_lconst {k : Fin 2} {c : Int64} (he : pAt y pc = some (p0, .lconst k, len, o)) (hk : Int64.ofNat (k : Nat) = c) (e : Ends X dp y (pc + 1) L (.long c :: st) h Q) : Ends X dp y pc L st h Q := by
  subst hk
  exact e_pure he rfl rfl rfl e
theorem e_ldc {idx v z : Nat} {c : Int32} (he : pAt y pc = some (p0, .ldc idx, len, [0, v, z])) (hk : Int32.ofNat v = c) (e : Ends X dp y (pc + 2) L (.int c :: st) h Q) : Ends X dp y pc L st h Q := by
  subst hk
  exact e_pure he rfl rfl rfl e
theorem e_ldc2 {idx v z : Nat} {c : Int64} (he : pAt y pc = some (p0, .ldc2_w idx, len, [v, z])) (hk : Int64.ofNat v = c) (e : Ends X dp y (pc + 3) L (.long c :: st) h Q) : Ends X dp y pc L st h Q := by
  subst hk
  exact e_pure he rfl rfl rfl e
theorem e_iload {k : Nat} {x : Int32} (he : pAt y pc = some (p0, .iload k, len, o)) (hL : L[k]? = some (.int x)) (e : Ends X dp y (pc + 2) L (.int x :: st) h Q) : Ends X dp y pc L st h Q := by
  refine e_pure he rfl rfl ?_ e
  show (match L[k]? with | some (.int x) => some (pc + 2, L, Value.int x :: st) | _ => none).map _ = _
  rw [hL]; rfl
theorem e_iload_n {k : Fin 4} {x : Int32} (he : pAt y pc = some (p0, .iload_n k, len, o)) (hL : L[(k : Nat)]? = some (.int x)) (e : Ends X dp y (pc + 1) L (.int x :: st) h Q) : Ends X dp y pc L st h Q := by
  refine e_pure he rfl rfl ?_ e
  show (match L[(k : Nat)]? with | some (.int x) => some (pc + 1, L, Value.int x :: st) | _ => none).map _ = _
  rw [hL]; rfl
theorem e_lload {k : Nat} {x : Int64} (he : pAt y pc = some (p0, .lload k, len, o)) (hL : L[k]? = some (.long x)) (e : Ends X dp y (pc + 2) L (.long x :: st) h Q) : Ends X dp y pc L st h Q := by
  refine e_pure he rfl rfl ?_ e
  show (match L[k]? with | some (.long x) => some (pc + 2, L, Value.long x :: st) | _ => none).map _ = _
  rw [hL]; rfl
theorem e_lload_n {k : Fin 4} {x : Int64} (he : pAt y pc = some (p0, .lload_n k, len, o)) (hL : L[(k : Nat)]? = some (.long x)) (e : Ends X dp y (pc + 1) L (.long x :: st) h Q) : Ends X dp y pc L st h Q := by
  refine e_pure he rfl rfl ?_ e
  show (match L[(k : Nat)]? with | some (.long x) => some (pc + 1, L, Value.long x :: st) | _ => none).map _ = _
  rw [hL]; rfl
theorem e_aload {k a : Nat} (he : pAt y pc = some (p0, .aload k, len, o)) (hL : L[k]? = some (.ref a)) (ha : a ≤ OLDB) (e : Ends X dp y (pc + 2) L (.ref a :: st) h Q) : Ends X dp y pc L st h Q := by
  refine e_pure he rfl rfl ?_ e
  show (match L[k]? with | some (.ref x) => if x = OLDB + 13 then none else some (pc + 2, L, Value.ref x :: st) | _ => none).map _ = _
  rw [hL]
  simp only
  have h1 : ¬ a = OLDB + 13 := by omega
  rw [if_neg h1]
  rfl
theorem e_aload_n {k : Fin 4} {a : Nat} (he : pAt y pc = some (p0, .aload_n k, len, o)) (hL : L[(k : Nat)]? = some (.ref a)) (ha : a ≤ OLDB) (e : Ends X dp y (pc + 1) L (.ref a :: st) h Q) : Ends X dp y pc L st h Q := by
  refine e_pure he rfl rfl ?_ e
  show (match L[(k : Nat)]? with | some (.ref x) => if x = OLDB + 13 then none else some (pc + 1, L, Value.ref x :: st) | _ => none).map _ = _
  rw [hL]
  simp only
  have h1 : ¬ a = OLDB + 13 := by omega
  rw [if_neg h1]
  rfl
theorem e_istore {k : Nat} {x : Int32} {L' : List Value} (he : pAt y pc = some (p0, .istore k, len, o)) (hk : k < L.length ∧ okSt L k = true) (hL : L.set k (.int x) = L') (e : Ends X dp y (pc + 2) L' st h Q) : Ends X dp y pc L (.int x :: st) h Q := by
  subst hL
  refine e_pure he rfl rfl ?_ e
  show (if k < L.length ∧ okSt L k = true then some (pc + 2, L.set k (.int x), st) else none).map _ = _
  rw [if_pos hk]; rfl
theorem e_istore_n {k : Fin 4} {x : Int32} {L' : List Value} (he : pAt y pc = some (p0, .istore_n k, len, o)) (hk : (k : Nat) < L.length ∧ okSt L k = true) (hL : L.set k (.int x) = L') (e : Ends X dp y (pc + 1) L' st h Q) : Ends X dp y pc L (.int x :: st) h Q := by
  subst hL
  refine e_pure he rfl rfl ?_ e
  show (if (k : Nat) < L.length ∧ okSt L k = true then some (pc + 1, L.set k (.int x), st) else none).map _ = _
  rw [if_pos hk]; rfl
theorem e_lstore {k : Nat} {x : Int64} {L' : List Value} (he : pAt y pc = some (p0, .lstore k, len, o)) (hk : k + 1 < L.length ∧ okSt L k = true) (hL : (L.set k (.long x)).set (k + 1) (.retAddr 0) = L') (e : Ends X dp y (pc + 2) L' st h Q) : Ends X dp y pc L (.long x :: st) h Q := by
  subst hL
  refine e_pure he rfl rfl ?_ e
  show (if k + 1 < L.length ∧ okSt L k = true then some (pc + 2, (L.set k (.long x)).set (k + 1) (.retAddr 0), st) else none).map _ = _
  rw [if_pos hk]; rfl
theorem e_astore_n {k : Fin 4} {a : Nat} {L' : List Value} (he : pAt y pc = some (p0, .astore_n k, len, o)) (hk : (k : Nat) < L.length ∧ okSt L k = true) (ha : a ≤ OLDB) (hL : L.set k (.ref a) = L') (e : Ends X dp y (pc + 1) L' st h Q) : Ends X dp y pc L (.ref a :: st) h Q := by
  subst hL
  refine e_pure he rfl rfl ?_ e
  show (if (k : Nat) < L.length ∧ okSt L k = true ∧ ¬ a = OLDB + 13 then some (pc + 1, L.set k (.ref a), st) else none).map _ = _
  have h1 : ¬ a = OLDB + 13 := by omega
  rw [if_pos ⟨hk.1, hk.2, h1⟩]; rfl
theorem e_iinc {k : Nat} {n : Int} {x c : Int32} {L' : List Value} (he : pAt y pc = some (p0, .iinc k n, len, o)) (hx : L[k]? = some (.int x)) (hk : okSt L k = true) (hc : Int32.ofInt n = c) (hL : L.set k (.int (x + c)) = L') (e : Ends X dp y (pc + 3) L' st h Q) : Ends X dp y pc L st h Q := by
  subst hL hc
  refine e_pure he rfl rfl ?_ e
  show (match L[k]? with | some (.int x) => if okSt L k = true then some (pc + 3, L.set k (.int (x + Int32.ofInt n)), st) else none | _ => none).map _ = _
  rw [hx]
  simp only
  rw [if_pos hk]
  rfl
theorem e_iadd {a b : Int32} (he : pAt y pc = some (p0, .iadd, len, o)) (e : Ends X dp y (pc + 1) L (.int (a + b) :: st) h Q) : Ends X dp y pc L (.int b :: .int a :: st) h Q := e_pure he rfl rfl rfl e
theorem e_isub {a b : Int32} (he : pAt y pc = some (p0, .isub, len, o)) (e : Ends X dp y (pc + 1) L (.int (a - b) :: st) h Q) : Ends X dp y pc L (.int b :: .int a :: st) h Q := e_pure he rfl rfl rfl e
theorem e_imul {a b : Int32} (he : pAt y pc = some (p0, .imul, len, o)) (e : Ends X dp y (pc + 1) L (.int (a * b) :: st) h Q) : Ends X dp y pc L (.int b :: .int a :: st) h Q := e_pure he rfl rfl rfl e
theorem e_iand {a b : Int32} (he : pAt y pc = some (p0, .iand, len, o)) (e : Ends X dp y (pc + 1) L (.int (a &&& b) :: st) h Q) : Ends X dp y pc L (.int b :: .int a :: st) h Q := e_pure he rfl rfl rfl e
theorem e_ior {a b : Int32} (he : pAt y pc = some (p0, .ior, len, o)) (e : Ends X dp y (pc + 1) L (.int (a ||| b) :: st) h Q) : Ends X dp y pc L (.int b :: .int a :: st) h Q := e_pure he rfl rfl rfl e
theorem e_ixor {a b : Int32} (he : pAt y pc = some (p0, .ixor, len, o)) (e : Ends X dp y (pc + 1) L (.int (a ^^^ b) :: st) h Q) : Ends X dp y pc L (.int b :: .int a :: st) h Q := e_pure he rfl rfl rfl e
theorem e_ishl {a b : Int32} (he : pAt y pc = some (p0, .ishl, len, o)) (e : Ends X dp y (pc + 1) L (.int (a <<< (b &&& 31)) :: st) h Q) : Ends X dp y pc L (.int b :: .int a :: st) h Q := e_pure he rfl rfl rfl e
theorem e_ishr {a b : Int32} (he : pAt y pc = some (p0, .ishr, len, o)) (e : Ends X dp y (pc + 1) L (.int (a >>> (b &&& 31)) :: st) h Q) : Ends X dp y pc L (.int b :: .int a :: st) h Q := e_pure he rfl rfl rfl e
theorem e_ineg {a : Int32} (he : pAt y pc = some (p0, .ineg, len, o)) (e : Ends X dp y (pc + 1) L (.int (-a) :: st) h Q) : Ends X dp y pc L (.int a :: st) h Q := e_pure he rfl rfl rfl e
theorem e_i2l {a : Int32} (he : pAt y pc = some (p0, .i2l, len, o)) (e : Ends X dp y (pc + 1) L (.long a.toInt64 :: st) h Q) : Ends X dp y pc L (.int a :: st) h Q := e_pure he rfl rfl rfl e
theorem e_l2i {a : Int64} (he : pAt y pc = some (p0, .l2i, len, o)) (e : Ends X dp y (pc + 1) L (.int a.toInt32 :: st) h Q) : Ends X dp y pc L (.long a :: st) h Q := e_pure he rfl rfl rfl e
theorem e_ladd {a b : Int64} (he : pAt y pc = some (p0, .ladd, len, o)) (e : Ends X dp y (pc + 1) L (.long (a + b) :: st) h Q) : Ends X dp y pc L (.long b :: .long a :: st) h Q := e_pure he rfl rfl rfl e
theorem e_land {a b : Int64} (he : pAt y pc = some (p0, .land, len, o)) (e : Ends X dp y (pc + 1) L (.long (a &&& b) :: st) h Q) : Ends X dp y pc L (.long b :: .long a :: st) h Q := e_pure he rfl rfl rfl e
theorem e_lor {a b : Int64} (he : pAt y pc = some (p0, .lor, len, o)) (e : Ends X dp y (pc + 1) L (.long (a ||| b) :: st) h Q) : Ends X dp y pc L (.long b :: .long a :: st) h Q := e_pure he rfl rfl rfl e
theorem e_lshl {a : Int64} {b : Int32} (he : pAt y pc = some (p0, .lshl, len, o)) (e : Ends X dp y (pc + 1) L (.long (a <<< (b.toInt64 &&& 63)) :: st) h Q) : Ends X dp y pc L (.int b :: .long a :: st) h Q := e_pure he rfl rfl rfl e
theorem e_lcmp {a b : Int64} (he : pAt y pc = some (p0, .lcmp, len, o)) (e : Ends X dp y (pc + 1) L (.int (lg_cmp a b) :: st) h Q) : Ends X dp y pc L (.long b :: .long a :: st) h Q := e_pure he rfl rfl rfl e
theorem e_idiv {a b : Int32} (he : pAt y pc = some (p0, .idiv, len, o)) (hb : ¬ b = 0) (e : Ends X dp y (pc + 1) L (.int (a / b) :: st) h Q) : Ends X dp y pc L (.int b :: .int a :: st) h Q := by
  refine e_pure he rfl rfl ?_ e
  show (if b = 0 then none else some (pc + 1, L, Value.int (a / b) :: st)).map _ = _
  rw [if_neg hb]; rfl
theorem e_irem {a b : Int32} (he : pAt y pc = some (p0, .irem, len, o)) (hb : ¬ b = 0) (e : Ends X dp y (pc + 1) L (.int (a - a / b * b) :: st) h Q) : Ends X dp y pc L (.int b :: .int a :: st) h Q := by
  refine e_pure he rfl rfl ?_ e
  show (if b = 0 then none else some (pc + 1, L, Value.int (a - a / b * b) :: st)).map _ = _
  rw [if_neg hb]; rfl
theorem e_dup {x : Int32} (he : pAt y pc = some (p0, .dup, len, o)) (e : Ends X dp y (pc + 1) L (.int x :: .int x :: st) h Q) : Ends X dp y pc L (.int x :: st) h Q := e_pure he rfl rfl rfl e
theorem e_dupR {a : Nat} (he : pAt y pc = some (p0, .dup, len, o)) (e : Ends X dp y (pc + 1) L (.ref a :: .ref a :: st) h Q) : Ends X dp y pc L (.ref a :: st) h Q := e_pure he rfl rfl rfl e
theorem e_dup2 {x : Int32} {a : Nat} (he : pAt y pc = some (p0, .dup2, len, o)) (e : Ends X dp y (pc + 1) L (.int x :: .ref a :: .int x :: .ref a :: st) h Q) : Ends X dp y pc L (.int x :: .ref a :: st) h Q := e_pure he rfl rfl rfl e
theorem e_pop {x : Int32} (he : pAt y pc = some (p0, .pop, len, o)) (e : Ends X dp y (pc + 1) L st h Q) : Ends X dp y pc L (.int x :: st) h Q := e_pure he rfl rfl rfl e
theorem e_pop2 {x : Int64} (he : pAt y pc = some (p0, .pop2, len, o)) (e : Ends X dp y (pc + 1) L st h Q) : Ends X dp y pc L (.long x :: st) h Q := e_pure he rfl rfl rfl e
theorem e_goto {off : Int} (he : pAt y pc = some (p0, .goto off, len, o)) (hj : jump pc off = some t) (e : Ends X dp y t L st h Q) : Ends X dp y pc L st h Q := by
  refine e_pure he rfl rfl ?_ e
  show ((jump pc off).map (fun t => (t, L, st))).map _ = _
  rw [hj]; rfl
theorem e_if {q : Jvm.ClassFile.Cond} {off : Int} {x : Int32} (he : pAt y pc = some (p0, .ifCond q off, len, o)) (hj : jump pc off = some t) (e1 : condB q x 0 = true → Ends X dp y t L st h Q) (e2 : condB q x 0 = false → Ends X dp y (pc + 3) L st h Q) : Ends X dp y pc L (.int x :: st) h Q := by
  have hs : hstep X (.ifCond q off) o pc L (.int x :: st) h = some (if condB q x 0 = true then t else pc + 3, L, st, h) := by
    show ((jump pc off).map (fun t => (if condB q x 0 = true then t else pc + 3, L, st))).map _ = _
    rw [hj]; rfl
  refine e_pure he rfl rfl hs ?_
  cases hc : condB q x 0 with
  | true => rw [if_pos rfl]; exact e1 hc
  | false => rw [if_neg (by decide)]; exact e2 hc
theorem e_icmp {q : Jvm.ClassFile.Cond} {off : Int} {x z : Int32} (he : pAt y pc = some (p0, .if_icmp q off, len, o)) (hj : jump pc off = some t) (e1 : condB q x z = true → Ends X dp y t L st h Q) (e2 : condB q x z = false → Ends X dp y (pc + 3) L st h Q) : Ends X dp y pc L (.int z :: .int x :: st) h Q := by
  have hs : hstep X (.if_icmp q off) o pc L (.int z :: .int x :: st) h = some (if condB q x z = true then t else pc + 3, L, st, h) := by
    show ((jump pc off).map (fun t => (if condB q x z = true then t else pc + 3, L, st))).map _ = _
    rw [hj]; rfl
  refine e_pure he rfl rfl hs ?_
  cases hc : condB q x z with
  | true => rw [if_pos rfl]; exact e1 hc
  | false => rw [if_neg (by decide)]; exact e2 hc
theorem e_tsd {d lo hi : Int} {offs : Array Int} {x : Int32} (he : pAt y pc = some (p0, .tableswitch d lo hi offs, len, o)) (hx : x.toInt < lo ∨ hi < x.toInt) (hj : jump pc d = some t) (e : Ends X dp y t L st h Q) : Ends X dp y pc L (.int x :: st) h Q := by
  refine e_pure he rfl rfl ?_ e
  show (if x.toInt < lo ∨ hi < x.toInt then (jump pc d).map (fun t => (t, L, st)) else (match offs[(x.toInt - lo).toNat]? with | some off => (jump pc off).map (fun t => (t, L, st)) | none => none)).map _ = _
  rw [if_pos hx, hj]; rfl
theorem e_tsc {d lo hi off : Int} {offs : Array Int} {x : Int32} (j : Nat) (he : pAt y pc = some (p0, .tableswitch d lo hi offs, len, o)) (hx : x.toInt = lo + j) (hh : lo + j ≤ hi) (ho : offs[j]? = some off) (hj : jump pc off = some t) (e : Ends X dp y t L st h Q) : Ends X dp y pc L (.int x :: st) h Q := by
  refine e_pure he rfl rfl ?_ e
  show (if x.toInt < lo ∨ hi < x.toInt then (jump pc d).map (fun t => (t, L, st)) else (match offs[(x.toInt - lo).toNat]? with | some off => (jump pc off).map (fun t => (t, L, st)) | none => none)).map _ = _
  rw [if_neg (by omega), show (x.toInt - lo).toNat = j by omega, ho]
  simp only
  rw [hj]; rfl
theorem e_ls {d : Int} {ps : Array (Int × Int)} {x : Int32} (he : pAt y pc = some (p0, .lookupswitch d ps, len, o)) (hp : (ps.toList.zip (ps.toList.drop 1)).all (fun (a, next) => a.1 < next.1) = true) (hj : jump pc (Op.lookupswitch.offset ps.toList d x.toInt) = some t) (e : Ends X dp y t L st h Q) : Ends X dp y pc L (.int x :: st) h Q := by
  refine e_pure he rfl rfl ?_ e
  show (if (ps.toList.zip (ps.toList.drop 1)).all (fun (a, next) => a.1 < next.1) = true then (jump pc (Op.lookupswitch.offset ps.toList d x.toInt)).map (fun t => (t, L, st)) else none).map _ = _
  rw [if_pos hp, hj]; rfl
theorem e_gI {idx ci k z w a : Nat} (he : pAt y pc = some (p0, .getfield idx, len, [ci, k, z, w])) (hs : HS h) (hn : (ci == 9) = false) (ha : (decide (a < 1000) && decide (SHl[a]? = some (.inr ci)) && decide (k < vwN ci) && !isRefTy (vwTy ci k)) = true) (e : Ends X dp y (pc + 3) L (.int (h.2.1 a k) :: st) h Q) : Ends X dp y pc L (.ref a :: st) h Q := by
  simp only [Bool.and_eq_true, decide_eq_true_eq, Bool.not_eq_true'] at ha
  obtain ⟨⟨⟨h1, h2⟩, h3⟩, h4⟩ := ha
  refine e_pure he rfl rfl ?_ e
  have hg : getF [ci, k, z, w] (.ref a :: st) h = some (.int (h.2.1 a k) :: st) := by
    unfold getF
    split
    · rename_i q1 q2 q3 heq
      cases heq
      cases hn
    · rename_i heq
      cases heq
      simp only
      have hB := OLDB_eq
      have h6 : a < OLDB := by omega
      rw [if_pos ⟨h6, by rw [hs.1]; exact h2, h3⟩]
      unfold fval
      rw [h4]
      rfl
    · rename_i hno
      exact absurd rfl (hno ci k z w)
  show (getF [ci, k, z, w] (.ref a :: st) h).map _ = _
  rw [hg]; rfl
theorem e_gR {idx ci k z w a b : Nat} (he : pAt y pc = some (p0, .getfield idx, len, [ci, k, z, w])) (hs : HS h) (hn : (ci == 9) = false) (ha : (decide (a < 1000) && decide (b < 1000) && decide (SHl[a]? = some (.inr ci)) && decide (k < vwN ci) && isRefTy (vwTy ci k)) = true) (hb : h.2.2.2 a k = some b) (e : Ends X dp y (pc + 3) L (.ref b :: st) h Q) : Ends X dp y pc L (.ref a :: st) h Q := by
  simp only [Bool.and_eq_true, decide_eq_true_eq] at ha
  obtain ⟨⟨⟨⟨h1, h5⟩, h2⟩, h3⟩, h4⟩ := ha
  refine e_pure he rfl rfl ?_ e
  have hg : getF [ci, k, z, w] (.ref a :: st) h = some (.ref b :: st) := by
    unfold getF
    split
    · rename_i q1 q2 q3 heq
      cases heq
      cases hn
    · rename_i heq
      cases heq
      simp only
      have hB := OLDB_eq
      have h6 : a < OLDB := by omega
      rw [if_pos ⟨h6, by rw [hs.1]; exact h2, h3⟩]
      unfold fval
      rw [h4, if_pos rfl, hb]
      simp only
      have h7 : b < OLDB := by omega
      rw [if_pos h7]
      rfl
    · rename_i hno
      exact absurd rfl (hno ci k z w)
  show (getF [ci, k, z, w] (.ref a :: st) h).map _ = _
  rw [hg]; rfl
theorem hs_ref {h : Hp} (hs : HS h) {a k b : Nat} (hr : rst a k = [b]) : h.2.2.2 a k = some b := by
  obtain ⟨c, hc, e⟩ := hs.2 a k (by rw [hr]; exact List.cons_ne_nil _ _)
  rw [hr] at hc
  rw [e, List.mem_singleton.mp hc]
theorem e_pI {idx ci k z w a : Nat} {x : Int32} (he : pAt y pc = some (p0, .putfield idx, len, [ci, k, z, w])) (hs : HS h) (ha : (decide (a < 1000) && decide (SHl[a]? = some (.inr ci)) && decide (k < vwN ci) && !isRefTy (vwTy ci k)) = true) (hb : isBoolTy (vwTy ci k) = false ∨ x = 0 ∨ x = 1) (e : Ends X dp y (pc + 3) L st (hpI h a k x) Q) : Ends X dp y pc L (.int x :: .ref a :: st) h Q := by
  simp only [Bool.and_eq_true, decide_eq_true_eq, Bool.not_eq_true'] at ha
  obtain ⟨⟨⟨h1, h2⟩, h3⟩, h4⟩ := ha
  have hg : putF [ci, k, z, w] (.int x :: .ref a :: st) h = some (st, hpI h a k x) := by
    unfold putF
    simp only
    have hB := OLDB_eq
    have h6 : a < OLDB := by omega
    rw [if_pos ⟨h6, by rw [hs.1]; exact h2, h3⟩, h4, if_neg (by decide), if_neg (by
      rintro ⟨q1, q2⟩
      rcases hb with q | q
      · rw [q] at q1; cases q1
      · exact q2 q)]
    rfl
  refine Ends.step he (isRet_none rfl) rfl (pc' := pc + 3) (L' := L) (st' := st) (h' := hpI h a k x) ?_ e
  show (putF [ci, k, z, w] (.int x :: .ref a :: st) h).map _ = _
  rw [hg]; rfl
theorem e_ald {a n : Nat} {j : Int32} (he : pAt y pc = some (p0, .iaload, len, o)) (hs : HS h) (ha : (decide (a < 1000) && decide (SHl[a]? = some (.inl (0, n)))) = true) (hj : inB j n = true) (e : Ends X dp y (pc + 1) L (.int (h.2.1 a j.toNatClampNeg) :: st) h Q) : Ends X dp y pc L (.int j :: .ref a :: st) h Q := by
  simp only [Bool.and_eq_true, decide_eq_true_eq] at ha
  refine e_pure he rfl rfl ?_ e
  have hB := OLDB_eq
  have h6 : a < OLDB := by omega
  simp only [hstep]
  rw [if_pos h6, hs.1, ha.2]
  simp only
  rw [if_pos hj]
theorem e_bald {a n : Nat} {j : Int32} (he : pAt y pc = some (p0, .baload, len, o)) (hs : HS h) (ha : (decide (a < 1000) && decide (SHl[a]? = some (.inl (2, n)))) = true) (hj : inB j n = true) (e : Ends X dp y (pc + 1) L (.int (h.2.1 a j.toNatClampNeg) :: st) h Q) : Ends X dp y pc L (.int j :: .ref a :: st) h Q := by
  simp only [Bool.and_eq_true, decide_eq_true_eq] at ha
  refine e_pure he rfl rfl ?_ e
  have hB := OLDB_eq
  have h6 : a < OLDB := by omega
  simp only [hstep]
  rw [if_pos h6, hs.1, ha.2]
  simp only
  rw [if_pos hj]
theorem e_lald {a n : Nat} {j : Int32} (he : pAt y pc = some (p0, .laload, len, o)) (hs : HS h) (ha : (decide (a < 1000) && decide (SHl[a]? = some (.inl (1, n)))) = true) (hj : inB j n = true) (e : Ends X dp y (pc + 1) L (.long (h.2.2.1 a j.toNatClampNeg) :: st) h Q) : Ends X dp y pc L (.int j :: .ref a :: st) h Q := by
  simp only [Bool.and_eq_true, decide_eq_true_eq] at ha
  refine e_pure he rfl rfl ?_ e
  have hB := OLDB_eq
  have h6 : a < OLDB := by omega
  simp only [hstep]
  rw [if_pos h6, hs.1, ha.2]
  simp only
  rw [if_pos hj]
theorem e_ast {a n : Nat} {j x : Int32} (he : pAt y pc = some (p0, .iastore, len, o)) (hs : HS h) (ha : (decide (a < 1000) && decide (SHl[a]? = some (.inl (0, n)))) = true) (hj : inB j n = true) (e : Ends X dp y (pc + 1) L st (hpI h a j.toNatClampNeg x) Q) : Ends X dp y pc L (.int x :: .int j :: .ref a :: st) h Q := by
  simp only [Bool.and_eq_true, decide_eq_true_eq] at ha
  refine Ends.step he (isRet_none rfl) rfl (pc' := pc + 1) (L' := L) (st' := st) (h' := hpI h a j.toNatClampNeg x) ?_ e
  have hB := OLDB_eq
  have h6 : a < OLDB := by omega
  simp only [hstep]
  rw [if_pos h6, hs.1, ha.2]
  simp only
  rw [if_pos hj]
  simp only [hpI, hs.1]
theorem e_bast {a n : Nat} {j x : Int32} (he : pAt y pc = some (p0, .bastore, len, o)) (hs : HS h) (ha : (decide (a < 1000) && decide (SHl[a]? = some (.inl (2, n)))) = true) (hj : inB j n = true) (hx : x = 0 ∨ x = 1) (e : Ends X dp y (pc + 1) L st (hpI h a j.toNatClampNeg x) Q) : Ends X dp y pc L (.int x :: .int j :: .ref a :: st) h Q := by
  simp only [Bool.and_eq_true, decide_eq_true_eq] at ha
  refine Ends.step he (isRet_none rfl) rfl (pc' := pc + 1) (L' := L) (st' := st) (h' := hpI h a j.toNatClampNeg x) ?_ e
  have hB := OLDB_eq
  have h6 : a < OLDB := by omega
  simp only [hstep]
  rw [if_pos ⟨h6, hx⟩, hs.1, ha.2]
  simp only
  rw [if_pos hj]
  simp only [hpI, hs.1]
theorem e_last {a n : Nat} {j : Int32} {x : Int64} (he : pAt y pc = some (p0, .lastore, len, o)) (hs : HS h) (ha : (decide (a < 1000) && decide (SHl[a]? = some (.inl (1, n)))) = true) (hj : inB j n = true) (e : Ends X dp y (pc + 1) L st (hpL h a j.toNatClampNeg x) Q) : Ends X dp y pc L (.long x :: .int j :: .ref a :: st) h Q := by
  simp only [Bool.and_eq_true, decide_eq_true_eq] at ha
  refine Ends.step he (isRet_none rfl) rfl (pc' := pc + 1) (L' := L) (st' := st) (h' := hpL h a j.toNatClampNeg x) ?_ e
  have hB := OLDB_eq
  have h6 : a < OLDB := by omega
  simp only [hstep]
  rw [if_pos h6, hs.1, ha.2]
  simp only
  rw [if_pos hj]
  simp only [hpL, hs.1]
/-- the script's int -/
theorem e_sld {j : Int32} (he : pAt y pc = some (p0, .iaload, len, o)) (hj : inB j X.1 = true) (e : Ends X dp y (pc + 1) L (.int (X.2 j.toNatClampNeg) :: st) h Q) : Ends X dp y pc L (.int j :: .ref OLDB :: st) h Q := by
  refine e_pure he rfl rfl ?_ e
  simp only [hstep]
  rw [if_neg (Nat.lt_irrefl _), Nat.sub_self]
  have h7 : oldArr X 0 = some (0, X.1, X.2) := rfl
  rw [h7]
  simp only
  rw [if_pos hj]
theorem e_slen (he : pAt y pc = some (p0, .arraylength, len, o)) (e : Ends X dp y (pc + 1) L (.int (Int32.ofNat X.1) :: st) h Q) : Ends X dp y pc L (.ref OLDB :: st) h Q := by
  refine e_pure he rfl rfl ?_ e
  simp only [hstep]
  rw [if_neg (Nat.lt_irrefl _), Nat.sub_self]
  have h7 : oldArr X 0 = some (0, X.1, X.2) := rfl
  rw [h7]
theorem e_retI {x : Int32} (he : pAt y pc = some (p0, .ireturn, len, o)) (hr : mRet y = some .int) (hq : Q (some (.int x)) h) : Ends X dp y pc L [.int x] h Q := by
  refine Ends.ret he ?_ hq
  show some (retI y [.int x] h) = _
  unfold retI
  rw [hr]
  have hn : narrow .int (.int x) = .int x := rfl
  simp only
  rw [if_pos ⟨rfl, hn⟩]
theorem e_retZ {x : Int32} (he : pAt y pc = some (p0, .ireturn, len, o)) (hr : mRet y = some .boolean) (hx : x = 0 ∨ x = 1) (hq : Q (some (.int x)) h) : Ends X dp y pc L [.int x] h Q := by
  refine Ends.ret he ?_ hq
  show some (retI y [.int x] h) = _
  unfold retI
  rw [hr]
  have hn : narrow .boolean (.int x) = .int x := by rcases hx with rfl | rfl <;> rfl
  simp only
  rw [if_pos ⟨rfl, hn⟩]
theorem e_retL {x : Int64} (he : pAt y pc = some (p0, .lreturn, len, o)) (hr : mRet y = some .long) (hq : Q (some (.long x)) h) : Ends X dp y pc L [.long x] h Q := by
  refine Ends.ret he ?_ hq
  show some (retL y [.long x] h) = _
  unfold retL
  simp only
  rw [if_pos hr]
theorem e_retV (he : pAt y pc = some (p0, .return_, len, o)) (hr : mRet y = none) (hq : Q none h) : Ends X dp y pc L [] h Q := by
  refine Ends.ret he ?_ hq
  show some (retV y [] h) = _
  unfold retV
  simp only
  rw [if_pos hr]
end WALK
theorem call_this {c na a : Nat} {st : List Value} {h : Hp} (hs : HS h) (hst : (st.take na).reverse.head? = some (.ref a)) (hb : (decide (na ≤ st.length) && decide (catSum (st.drop na) ≤ 8) && (st.take na).all argOK && decide ((entL0 (st.take na).reverse).length ≤ mMaxL c)) = true) (hr : (decide (a < 1000) && decide (SHl[a]? = some (.inr (mCi c))) && decide (mCi c < 8)) = true) : callOK c na 0 st h = true := by
  unfold callOK
  rw [hb]
  simp only [Bool.true_and]
  rw [if_neg (by decide)]
  match hl : (st.take na).reverse, hst with
  | v :: l, hst =>
    cases hst
    simp only [Bool.and_eq_true, decide_eq_true_eq] at hr
    simp only
    rw [if_pos trivial]
    unfold recvOK
    have hB := OLDB_eq
    have h6 : a < OLDB := by omega
    simp only
    rw [if_pos h6, hs.1, hr.1.2]
    simp [hr.2]
theorem ls_off {pc t : Nat} {a b : Int} (h : a = b) (hj : jump pc b = some t) : jump pc a = some t := by rw [h]; exact hj
/-- a stretch of ints copied -/
def hpM (h : Hp) (a b sp dp n : Nat) : Hp := (h.1, (fun x => if x = a then va_cpy (h.2.1 b) (h.2.1 a) sp dp n else h.2.1 x), h.2.2.1, h.2.2.2)
theorem e_cpyI {X : Scr} {dp y pc p0 len t : Nat} {L : List Value} {h : Hp} {Q : Option Value → Hp → Prop} {a b m m' idx z w v : Nat} {n dpi sp : Int32} {sn dn nn : Nat} (he : pAt y pc = some (p0, .invokestatic idx, len, [9998, z, w, v, t])) (hs : HS h) (hab : (decide (a < 1000) && decide (b < 1000) && decide (SHl[a]? = some (.inl (0, m))) && decide (SHl[b]? = some (.inl (0, m')))) = true) (h1 : (decide (sp.toInt = sn) && decide (dpi.toInt = dn) && decide (n.toInt = nn) && decide (sn + nn ≤ m') && decide (dn + nn ≤ m)) = true)
    (e : Ends X dp y (pc + 3) L [] (hpM h a b sn dn nn) Q) : Ends X dp y pc L [.int n, .int dpi, .ref a, .int sp, .ref b] h Q := by
  simp only [Bool.and_eq_true, decide_eq_true_eq] at hab h1
  obtain ⟨⟨⟨ha, hb⟩, hsa⟩, hsb⟩ := hab
  obtain ⟨⟨⟨⟨g1, g2⟩, g3⟩, g4⟩, g5⟩ := h1
  have neg : ∀ (x : Int32) (k : Nat), x.toInt = k → ¬ x < 0 := fun x k hx q => by
    have := Int32.lt_iff_toInt_lt.mp q
    have z0 : (0 : Int32).toInt = 0 := rfl
    omega
  have hB := OLDB_eq
  have q1 : sp.toNatClampNeg = sn := by show sp.toInt.toNat = _; omega
  have q2 : dpi.toNatClampNeg = dn := by show dpi.toInt.toNat = _; omega
  have q3 : n.toNatClampNeg = nn := by show n.toInt.toNat = _; omega
  have hc : copyA [.int n, .int dpi, .ref a, .int sp, .ref b] h = some ([], hpM h a b sn dn nn) := by
    have g : a < OLDB ∧ b < OLDB ∧ ¬ sp < 0 ∧ ¬ dpi < 0 ∧ ¬ n < 0 ∧ catSum [] ≤ 8 := ⟨by omega, by omega, neg _ _ g1, neg _ _ g2, neg _ _ g3, by decide⟩
    simp only [copyA]
    rw [if_pos g, hs.1, hsa, hsb, q1, q2, q3]
    simp only
    have g2 : True ∧ sn + nn ≤ m' ∧ dn + nn ≤ m := ⟨trivial, g4, g5⟩
    rw [if_pos g2, if_pos trivial]
    unfold hpM
    rw [hs.1]
  refine Ends.step he (isRet_none rfl) rfl (pc' := pc + 3) (L' := L) (st' := []) (h' := hpM h a b sn dn nn) ?_ e
  show (copyA [.int n, .int dpi, .ref a, .int sp, .ref b] h).map _ = _
  rw [hc]
  rfl
section WALKV
variable {X : Scr} {dp y pc p0 len : Nat} {o : List Nat} {L st : List Value} {h : Hp} {Q : Option Value → Hp → Prop}
theorem e_gIv {idx ci k z w a : Nat} {v : Int32} (he : pAt y pc = some (p0, .getfield idx, len, [ci, k, z, w])) (hs : HS h) (hn : (ci == 9) = false) (ha : (decide (a < 1000) && decide (SHl[a]? = some (.inr ci)) && decide (k < vwN ci) && !isRefTy (vwTy ci k)) = true) (hv : h.2.1 a k = v) (e : Ends X dp y (pc + 3) L (.int v :: st) h Q) : Ends X dp y pc L (.ref a :: st) h Q := by
  subst hv
  exact e_gI he hs hn ha e
theorem e_aldv {a n : Nat} {j v : Int32} (he : pAt y pc = some (p0, .iaload, len, o)) (hs : HS h) (ha : (decide (a < 1000) && decide (SHl[a]? = some (.inl (0, n)))) = true) (hj : inB j n = true) (hv : h.2.1 a j.toNatClampNeg = v) (e : Ends X dp y (pc + 1) L (.int v :: st) h Q) : Ends X dp y pc L (.int j :: .ref a :: st) h Q := by
  subst hv
  exact e_ald he hs ha hj e
theorem e_baldv {a n : Nat} {j v : Int32} (he : pAt y pc = some (p0, .baload, len, o)) (hs : HS h) (ha : (decide (a < 1000) && decide (SHl[a]? = some (.inl (2, n)))) = true) (hj : inB j n = true) (hv : h.2.1 a j.toNatClampNeg = v) (e : Ends X dp y (pc + 1) L (.int v :: st) h Q) : Ends X dp y pc L (.int j :: .ref a :: st) h Q := by
  subst hv
  exact e_bald he hs ha hj e
end WALKV
