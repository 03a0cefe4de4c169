section JN60walk
/-! Walks by hand: a row an instruction. -/
/-- shapes and references are as laid out -/
def HS (h : Hp) : Prop := h.1 = SHl ∧ ∀ a k, rst a k ≠ [] → ∃ b ∈ rst a k, h.2.2.2 a k = some b
theorem HI.hs {h : Hp} (hh : HI h) : HS h := ⟨hh.1, hh.2.2⟩
def hpI (h : Hp) (a k : Nat) (x : Int32) : Hp := (h.1, ud h.2.1 a k x, h.2.2.1, h.2.2.2)
def hpL (h : Hp) (a k : Nat) (x : Int64) : Hp := (h.1, h.2.1, ud h.2.2.1 a k x, h.2.2.2)
theorem HS.hpI {h : Hp} (hs : HS h) (a k : Nat) (x : Int32) : HS (hpI h a k x) := hs
theorem HS.hpL {h : Hp} (hs : HS h) (a k : Nat) (x : Int64) : HS (hpL h a k x) := hs
section WALK
variable {X : Scr} {dp y pc p0 len t : Nat} {o : List Nat} {L st : List Value} {h : Hp} {Q : Option Value → Hp → Prop}
theorem e_pure {i : Instr} {pc' : Nat} {L' st' : List Value} (he : pAt y pc = some (p0, i, len, o)) (hr : isRet i = false) (hc : callO i o = none) (hs : hstep X i o pc L st h = some (pc', L', st', h)) (e : Ends X dp y pc' L' st' h Q) : Ends X dp y pc L st h Q :=
  Ends.step he (isRet_none hr) hc hs e
theorem e_iconst {k : Int} {c : Int32} (he : pAt y pc = some (p0, .iconst k, len, o)) (hk : Int32.ofInt k = c) (e : Ends X dp y (pc + 1) L (.int c :: st) h Q) : Ends X dp y pc L st h Q := by
  subst hk
  exact e_pure he rfl rfl rfl e
theorem e_bipush {k : Int} {c : Int32} (he : pAt y pc = some (p0, .bipush k, len, o)) (hk : (Int8.ofInt k).toInt32 = c) (e : Ends X dp y (pc + 2) L (.int c :: st) h Q) : Ends X dp y pc L st h Q := by
  subst hk
  exact e_pure he rfl rfl rfl e
theorem e_sipush {k : Int} {c : Int32} (he : pAt y pc = some (p0, .sipush k, len, o)) (hk : (Int16.ofInt k).toInt32 = c) (e : Ends X dp y (pc + 3) L (.int c :: st) h Q) : Ends X dp y pc L st h Q := by
  subst hk
  exact e_pure he rfl rfl rfl e
theorem e_lconst {k : Fin 2} {c : Int64} (he : pAt y pc = some (p0, .lconst k, len, o)) (hk : Int64.ofNat (k : Nat) = c) (e : Ends X dp y (pc + 1) L (.long c :: st) h Q) : Ends X dp y pc L st h Q := by
  subst hk
  exact e_pure he rfl rfl rfl e
theorem e_ldc {idx v z : Nat} {c : Int32} (he : pAt y pc = some (p0, .ldc idx, len, [0, v, z])) (hk : Int32.ofNat v = c) (e : Ends X dp y (pc + 2) L (.int c :: st) h Q) : Ends X dp y pc L st h Q := by
  subst hk
  exact e_pure he rfl rfl rfl e
theorem e_ldc2 {idx v z : Nat} {c : Int64} (he : pAt y pc = some (p0, .ldc2_w idx, len, [v, z])) (hk : Int64.ofNat v = c) (e : Ends X dp y (pc + 3) L (.long c :: st) h Q) : Ends X dp y pc L st h Q := by
  subst hk
  exact e_pure he rfl rfl rfl e
theorem e_iload {k : Nat} {x : Int32} (he : pAt y pc = some (p0, .iload k, len, o)) (hL : L[k]? = some (.int x)) (e : Ends X dp y (pc + 2) L (.int x :: st) h Q) : Ends X dp y pc L st h Q := by
  refine e_pure he rfl rfl ?_ e
  show (match L[k]? with | some (.int x) => some (pc + 2, L, Value.int x :: st) | _ => none).map _ = _
  rw [hL]; rfl
theorem e_iload_n {k : Fin 4} {x : Int32} (he : pAt y pc = some (p0, .iload_n k, len, o)) (hL : L[(k : Nat)]? = some (.int x)) (e : Ends X dp y (pc + 1) L (.int x :: st) h Q) : Ends X dp y pc L st h Q := by
  refine e_pure he rfl rfl ?_ e
  show (match L[(k : Nat)]? with | some (.int x) => some (pc + 1, L, Value.int x :: st) | _ => none).map _ = _
  rw [hL]; rfl
theorem e_lload {k : Nat} {x : Int64} (he : pAt y pc = some (p0, .lload k, len, o)) (hL : L[k]? = some (.long x)) (e : Ends X dp y (pc + 2) L (.long x :: st) h Q) : Ends X dp y pc L st h Q := by
  refine e_pure he rfl rfl ?_ e
  show (match L[k]? with | some (.long x) => some (pc + 2, L, Value.long x :: st) | _ => none).map _ = _
  rw [hL]; rfl
theorem e_lload_n {k : Fin 4} {x : Int64} (he : pAt y pc = some (p0, .lload_n k, len, o)) (hL : L[(k : Nat)]? = some (.long x)) (e : Ends X dp y (pc + 1) L (.long x :: st) h Q) : Ends X dp y pc L st h Q := by
  refine e_pure he rfl rfl ?_ e
  show (match L[(k : Nat)]? with | some (.long x) => some (pc + 1, L, Value.long x :: st) | _ => none).map _ = _
  rw [hL]; rfl
theorem e_aload {k a : Nat} (he : pAt y pc = some (p0, .aload k, len, o)) (hL : L[k]? = some (.ref a)) (ha : a ≤ OLDB) (e : Ends X dp y (pc + 2) L (.ref a :: st) h Q) : Ends X dp y pc L st h Q := by
  refine e_pure he rfl rfl ?_ e
  show (match L[k]? with | some (.ref x) => if x = OLDB + 13 then none else some (pc + 2, L, Value.ref x :: st) | _ => none).map _ = _
  rw [hL]
  simp only
  have h1 : ¬ a = OLDB + 13 := by omega
  rw [if_neg h1]
  rfl
theorem e_aload_n {k : Fin 4} {a : Nat} (he : pAt y pc = some (p0, .aload_n k, len, o)) (hL : L[(k : Nat)]? = some (.ref a)) (ha : a ≤ OLDB) (e : Ends X dp y (pc + 1) L (.ref a :: st) h Q) : Ends X dp y pc L st h Q := by
  refine e_pure he rfl rfl ?_ e
  show (match L[(k : Nat)]? with | some (.ref x) => if x = OLDB + 13 then none else some (pc + 1, L, Value.ref x :: st) | _ => none).map _ = _
  rw [hL]
  simp only
  have h1 : ¬ a = OLDB + 13 := by omega
  rw [if_neg h1]
  rfl
theorem e_istore {k : Nat} {x : Int32} {L' : List Value} (he : pAt y pc = some (p0, .istore k, len, o)) (hk : k < L.length ∧ okSt L k = true) (hL : L.set k (.int x) = L') (e : Ends X dp y (pc + 2) L' st h Q) : Ends X dp y pc L (.int x :: st) h Q := by
  subst hL
  refine e_pure he rfl rfl ?_ e
  show (if k < L.length ∧ okSt L k = true then some (pc + 2, L.set k (.int x), st) else none).map _ = _
  rw [if_pos hk]; rfl
theorem e_istore_n {k : Fin 4} {x : Int32} {L' : List Value} (he : pAt y pc = some (p0, .istore_n k, len, o)) (hk : (k : Nat) < L.length ∧ okSt L k = true) (hL : L.set k (.int x) = L') (e : Ends X dp y (pc + 1) L' st h Q) : Ends X dp y pc L (.int x :: st) h Q := by
  subst hL
  refine e_pure he rfl rfl ?_ e
  show (if (k : Nat) < L.length ∧ okSt L k = true then some (pc + 1, L.set k (.int x), st) else none).map _ = _
  rw [if_pos hk]; rfl
theorem e_lstore {k : Nat} {x : Int64} {L' : List Value} (he : pAt y pc = some (p0, .lstore k, len, o)) (hk : k + 1 < L.length ∧ okSt L k = true) (hL : (L.set k (.long x)).set (k + 1) (.retAddr 0) = L') (e : Ends X dp y (pc + 2) L' st h Q) : Ends X dp y pc L (.long x :: st) h Q := by
  subst hL
  refine e_pure he rfl rfl ?_ e
  show (if k + 1 < L.length ∧ okSt L k = true then some (pc + 2, (L.set k (.long x)).set (k + 1) (.retAddr 0), st) else none).map _ = _
  rw [if_pos hk]; rfl
theorem e_astore_n {k : Fin 4} {a : Nat} {L' : List Value} (he : pAt y pc = some (p0, .astore_n k, len, o)) (hk : (k : Nat) < L.length ∧ okSt L k = true) (ha : a ≤ OLDB) (hL : L.set k (.ref a) = L') (e : Ends X dp y (pc + 1) L' st h Q) : Ends X dp y pc L (.ref a :: st) h Q := by
  subst hL
  refine e_pure he rfl rfl ?_ e
  show (if (k : Nat) < L.length ∧ okSt L k = true ∧ ¬ a = OLDB + 13 then some (pc + 1, L.set k (.ref a), st) else none).map _ = _
  have h1 : ¬ a = OLDB + 13 := by omega
  rw [if_pos ⟨hk.1, hk.2, h1⟩]; rfl
theorem e_iinc {k : Nat} {n : Int} {x c : Int32} {L' : List Value} (he : pAt y pc = some (p0, .iinc k n, len, o)) (hx : L[k]? = some (.int x)) (hk : okSt L k = true) (hc : Int32.ofInt n = c) (hL : L.set k (.int (x + c)) = L') (e : Ends X dp y (pc + 3) L' st h Q) : Ends X dp y pc L st h Q := by
  subst hL hc
  refine e_pure he rfl rfl ?_ e
  show (match L[k]? with | some (.int x) => if okSt L k = true then some (pc + 3, L.set k (.int (x + Int32.ofInt n)), st) else none | _ => none).map _ = _
  rw [hx]
  simp only
  rw [if_pos hk]
  rfl
theorem e_iadd {a b : Int32} (he : pAt y pc = some (p0, .iadd, len, o)) (e : Ends X dp y (pc + 1) L (.int (a + b) :: st) h Q) : Ends X dp y pc L (.int b :: .int a :: st) h Q := e_pure he rfl rfl rfl e
theorem e_isub {a b : Int32} (he : pAt y pc = some (p0, .isub, len, o)) (e : Ends X dp y (pc + 1) L (.int (a - b) :: st) h Q) : Ends X dp y pc L (.int b :: .int a :: st) h Q := e_pure he rfl rfl rfl e
theorem e_imul {a b : Int32} (he : pAt y pc = some (p0, .imul, len, o)) (e : Ends X dp y (pc + 1) L (.int (a * b) :: st) h Q) : Ends X dp y pc L (.int b :: .int a :: st) h Q := e_pure he rfl rfl rfl e
theorem e_iand {a b : Int32} (he : pAt y pc = some (p0, .iand, len, o)) (e : Ends X dp y (pc + 1) L (.int (a &&& b) :: st) h Q) : Ends X dp y pc L (.int b :: .int a :: st) h Q := e_pure he rfl rfl rfl e
theorem e_ior {a b : Int32} (he : pAt y pc = some (p0, .ior, len, o)) (e : Ends X dp y (pc + 1) L (.int (a ||| b) :: st) h Q) : Ends X dp y pc L (.int b :: .int a :: st) h Q := e_pure he rfl rfl rfl e
theorem e_ixor {a b : Int32} (he : pAt y pc = some (p0, .ixor, len, o)) (e : Ends X dp y (pc + 1) L (.int (a ^^^ b) :: st) h Q) : Ends X dp y pc L (.int b :: .int a :: st) h Q := e_pure he rfl rfl rfl e
theorem e_ishl {a b : Int32} (he : pAt y pc = some (p0, .ishl, len, o)) (e : Ends X dp y (pc + 1) L (.int (a <<< (b &&& 31)) :: st) h Q) : Ends X dp y pc L (.int b :: .int a :: st) h Q := e_pure he rfl rfl rfl e
theorem e_ishr {a b : Int32} (he : pAt y pc = some (p0, .ishr, len, o)) (e : Ends X dp y (pc + 1) L (.int (a >>> (b &&& 31)) :: st) h Q) : Ends X dp y pc L (.int b :: .int a :: st) h Q := e_pure he rfl rfl rfl e
theorem e_ineg {a : Int32} (he : pAt y pc = some (p0, .ineg, len, o)) (e : Ends X dp y (pc + 1) L (.int (-a) :: st) h Q) : Ends X dp y pc L (.int a :: st) h Q := e_pure he rfl rfl rfl e
theorem e_i2l {a : Int32} (he : pAt y pc = some (p0, .i2l, len, o)) (e : Ends X dp y (pc + 1) L (.long a.toInt64 :: st) h Q) : Ends X dp y pc L (.int a :: st) h Q := e_pure he rfl rfl rfl e
theorem e_l2i {a : Int64} (he : pAt y pc = some (p0, .l2i, len, o)) (e : Ends X dp y (pc + 1) L (.int a.toInt32 :: st) h Q) : Ends X dp y pc L (.long a :: st) h Q := e_pure he rfl rfl rfl e
theorem e_ladd {a b : Int64} (he : pAt y pc = some (p0, .ladd, len, o)) (e : Ends X dp y (pc + 1) L (.long (a + b) :: st) h Q) : Ends X dp y pc L (.long b :: .long a :: st) h Q := e_pure he rfl rfl rfl e
theorem e_land {a b : Int64} (he : pAt y pc = some (p0, .land, len, o)) (e : Ends X dp y (pc + 1) L (.long (a &&& b) :: st) h Q) : Ends X dp y pc L (.long b :: .long a :: st) h Q := e_pure he rfl rfl rfl e
theorem e_lor {a b : Int64} (he : pAt y pc = some (p0, .lor, len, o)) (e : Ends X dp y (pc + 1) L (.long (a ||| b) :: st) h Q) : Ends X dp y pc L (.long b :: .long a :: st) h Q := e_pure he rfl rfl rfl e
theorem e_lshl {a : Int64} {b : Int32} (he : pAt y pc = some (p0, .lshl, len, o)) (e : Ends X dp y (pc + 1) L (.long (a <<< (b.toInt64 &&& 63)) :: st) h Q) : Ends X dp y pc L (.int b :: .long a :: st) h Q := e_pure he rfl rfl rfl e
theorem e_lcmp {a b : Int64} (he : pAt y pc = some (p0, .lcmp, len, o)) (e : Ends X dp y (pc + 1) L (.int (lg_cmp a b) :: st) h Q) : Ends X dp y pc L (.long b :: .long a :: st) h Q := e_pure he rfl rfl rfl e
theorem e_idiv {a b : Int32} (he : pAt y pc = some (p0, .idiv, len, o)) (hb : ¬ b = 0) (e : Ends X dp y (pc + 1) L (.int (a / b) :: st) h Q) : Ends X dp y pc L (.int b :: .int a :: st) h Q := by
  refine e_pure he rfl rfl ?_ e
  show (if b = 0 then none else some (pc + 1, L, Value.int (a / b) :: st)).map _ = _
  rw [if_neg hb]; rfl
theorem e_irem {a b : Int32} (he : pAt y pc = some (p0, .irem, len, o)) (hb : ¬ b = 0) (e : Ends X dp y (pc + 1) L (.int (a - a / b * b) :: st) h Q) : Ends X dp y pc L (.int b :: .int a :: st) h Q := by
  refine e_pure he rfl rfl ?_ e
  show (if b = 0 then none else some (pc + 1, L, Value.int (a - a / b * b) :: st)).map _ = _
  rw [if_neg hb]; rfl
theorem e_dup {x : Int32} (he : pAt y pc = some (p0, .dup, len, o)) (e : Ends X dp y (pc + 1) L (.int x :: .int x :: st) h Q) : Ends X dp y pc L (.int x :: st) h Q := e_pure he rfl rfl rfl e
theorem e_dupR {a : Nat} (he : pAt y pc = some (p0, .dup, len, o)) (e : Ends X dp y (pc + 1) L (.ref a :: .ref a :: st) h Q) : Ends X dp y pc L (.ref a :: st) h Q := e_pure he rfl rfl rfl e
theorem e_dup2 {x : Int32} {a : Nat} (he : pAt y pc = some (p0, .dup2, len, o)) (e : Ends X dp y (pc + 1) L (.int x :: .ref a :: .int x :: .ref a :: st) h Q) : Ends X dp y pc L (.int x :: .ref a :: st) h Q := e_pure he rfl rfl rfl e
theorem e_pop {x : Int32} (he : pAt y pc = some (p0, .pop, len, o)) (e : Ends X dp y (pc + 1) L st h Q) : Ends X dp y pc L (.int x :: st) h Q := e_pure he rfl rfl rfl e
theorem e_pop2 {x : Int64} (he : pAt y pc = some (p0, .pop2, len, o)) (e : Ends X dp y (pc + 1) L st h Q) : Ends X dp y pc L (.long x :: st) h Q := e_pure he rfl rfl rfl e
theorem e_goto {off : Int} (he : pAt y pc = some (p0, .goto off, len, o)) (hj : jump pc off = some t) (e : Ends X dp y t L st h Q) : Ends X dp y pc L st h Q := by
  refine e_pure he rfl rfl ?_ e
  show ((jump pc off).map (fun t => (t, L, st))).map _ = _
  rw [hj]; rfl
theorem e_if {q : Jvm.ClassFile.Cond} {off : Int} {x : Int32} (he : pAt y pc = some (p0, .ifCond q off, len, o)) (hj : jump pc off = some t) (e1 : condB q x 0 = true → Ends X dp y t L st h Q) (e2 : condB q x 0 = false → Ends X dp y (pc + 3) L st h Q) : Ends X dp y pc L (.int x :: st) h Q := by
  have hs : hstep X (.ifCond q off) o pc L (.int x :: st) h = some (if condB q x 0 = true then t else pc + 3, L, st, h) := by
    show ((jump pc off).map (fun t => (if condB q x 0 = true then t else pc + 3, L, st))).map _ = _
    rw [hj]; rfl
  refine e_pure he rfl rfl hs ?_
  cases hc : condB q x 0 with
  | true => rw [if_pos rfl]; exact e1 hc
  | false => rw [if_neg (by decide)]; exact e2 hc
theorem e_icmp {q : Jvm.ClassFile.Cond} {off : Int} {x z : Int32} (he : pAt y pc = some (p0, .if_icmp q off, len, o)) (hj : jump pc off = some t) (e1 : condB q x z = true → Ends X dp y t L st h Q) (e2 : condB q x z = false → Ends X dp y (pc + 3) L st h Q) : Ends X dp y pc L (.int z :: .int x :: st) h Q := by
  have hs : hstep X (.if_icmp q off) o pc L (.int z :: .int x :: st) h = some (if condB q x z = true then t else pc + 3, L, st, h) := by
    show ((jump pc off).map (fun t => (if condB q x z = true then t else pc + 3, L, st))).map _ = _
    rw [hj]; rfl
  refine e_pure he rfl rfl hs ?_
  cases hc : condB q x z with
  | true => rw [if_pos rfl]; exact e1 hc
  | false => rw [if_neg (by decide)]; exact e2 hc
theorem e_tsd {d lo hi : Int} {offs : Array Int} {x : Int32} (he : pAt y pc = some (p0, .tableswitch d lo hi offs, len, o)) (hx : x.toInt < lo ∨ hi < x.toInt) (hj : jump pc d = some t) (e : Ends X dp y t L st h Q) : Ends X dp y pc L (.int x :: st) h Q := by
  refine e_pure he rfl rfl ?_ e
  show (if x.toInt < lo ∨ hi < x.toInt then (jump pc d).map (fun t => (t, L, st)) else (match offs[(x.toInt - lo).toNat]? with | some off => (jump pc off).map (fun t => (t, L, st)) | none => none)).map _ = _
  rw [if_pos hx, hj]; rfl
theorem e_tsc {d lo hi off : Int} {offs : Array Int} {x : Int32} (j : Nat) (he : pAt y pc = some (p0, .tableswitch d lo hi offs, len, o)) (hx : x.toInt = lo + j) (hh : lo + j ≤ hi) (ho : offs[j]? = some off) (hj : jump pc off = some t) (e : Ends X dp y t L st h Q) : Ends X dp y pc L (.int x :: st) h Q := by
  refine e_pure he rfl rfl ?_ e
  show (if x.toInt < lo ∨ hi < x.toInt then (jump pc d).map (fun t => (t, L, st)) else (match offs[(x.toInt - lo).toNat]? with | some off => (jump pc off).map (fun t => (t, L, st)) | none => none)).map _ = _
  rw [if_neg (by omega), show (x.toInt - lo).toNat = j by omega, ho]
  simp only
  rw [hj]; rfl
theorem e_ls {d : Int} {ps : Array (Int × Int)} {x : Int32} (he : pAt y pc = some (p0, .lookupswitch d ps, len, o)) (hp : (ps.toList.zip (ps.toList.drop 1)).all (fun (a, next) => a.1 < next.1) = true) (hj : jump pc (Op.lookupswitch.offset ps.toList d x.toInt) = some t) (e : Ends X dp y t L st h Q) : Ends X dp y pc L (.int x :: st) h Q := by
  refine e_pure he rfl rfl ?_ e
  show (if (ps.toList.zip (ps.toList.drop 1)).all (fun (a, next) => a.1 < next.1) = true then (jump pc (Op.lookupswitch.offset ps.toList d x.toInt)).map (fun t => (t, L, st)) else none).map _ = _
  rw [if_pos hp, hj]; rfl
theorem e_gI {idx ci k z w a : Nat} (he : pAt y pc = some (p0, .getfield idx, len, [ci, k, z, w])) (hs : HS h) (hn : (ci == 9) = false) (ha : (decide (a < 1000) && decide (SHl[a]? = some (.inr ci)) && decide (k < vwN ci) && !isRefTy (vwTy ci k)) = true) (e : Ends X dp y (pc + 3) L (.int (h.2.1 a k) :: st) h Q) : Ends X dp y pc L (.ref a :: st) h Q := by
  simp only [Bool.and_eq_true, decide_eq_true_eq, Bool.not_eq_true'] at ha
  obtain ⟨⟨⟨h1, h2⟩, h3⟩, h4⟩ := ha
  refine e_pure he rfl rfl ?_ e
  have hg : getF [ci, k, z, w] (.ref a :: st) h = some (.int (h.2.1 a k) :: st) := by
    unfold getF
    split
    · rename_i q1 q2 q3 heq
      cases heq
      cases hn
    · rename_i heq
      cases heq
      simp only
      have hB := OLDB_eq
      have h6 : a < OLDB := by omega
      rw [if_pos ⟨h6, by rw [hs.1]; exact h2, h3⟩]
      unfold fval
      rw [h4]
      rfl
    · rename_i hno
      exact absurd rfl (hno ci k z w)
  show (getF [ci, k, z, w] (.ref a :: st) h).map _ = _
  rw [hg]; rfl
theorem e_gR {idx ci k z w a b : Nat} (he : pAt y pc = some (p0, .getfield idx, len, [ci, k, z, w])) (hs : HS h) (hn : (ci == 9) = false) (ha : (decide (a < 1000) && decide (b < 1000) && decide (SHl[a]? = some (.inr ci)) && decide (k < vwN ci) && isRefTy (vwTy ci k)) = true) (hb : h.2.2.2 a k = some b) (e : Ends X dp y (pc + 3) L (.ref b :: st) h Q) : Ends X dp y pc L (.ref a :: st) h Q := by
  simp only [Bool.and_eq_true, decide_eq_true_eq] at ha
  obtain ⟨⟨⟨⟨h1, h5⟩, h2⟩, h3⟩, h4⟩ := ha
  refine e_pure he rfl rfl ?_ e
  have hg : getF [ci, k, z, w] (.ref a :: st) h = some (.ref b :: st) := by
    unfold getF
    split
    · rename_i q1 q2 q3 heq
      cases heq
      cases hn
    · rename_i heq
      cases heq
      simp only
      have hB := OLDB_eq
      have h6 : a < OLDB := by omega
      rw [if_pos ⟨h6, by rw [hs.1]; exact h2, h3⟩]
      unfold fval
      rw [h4, if_pos rfl, hb]
      simp only
      have h7 : b < OLDB := by omega
      rw [if_pos h7]
      rfl
    · rename_i hno
      exact absurd rfl (hno ci k z w)
  show (getF [ci, k, z, w] (.ref a :: st) h).map _ = _
  rw [hg]; rfl
theorem hs_ref {h : Hp} (hs : HS h) {a k b : Nat} (hr : rst a k = [b]) : h.2.2.2 a k = some b := by
  obtain ⟨c, hc, e⟩ := hs.2 a k (by rw [hr]; exact List.cons_ne_nil _ _)
  rw [hr] at hc
  rw [e, List.mem_singleton.mp hc]
theorem e_pI {idx ci k z w a : Nat} {x : Int32} (he : pAt y pc = some (p0, .putfield idx, len, [ci, k, z, w])) (hs : HS h) (ha : (decide (a < 1000) && decide (SHl[a]? = some (.inr ci)) && decide (k < vwN ci) && !isRefTy (vwTy ci k)) = true) (hb : isBoolTy (vwTy ci k) = false ∨ x = 0 ∨ x = 1) (e : Ends X dp y (pc + 3) L st (hpI h a k x) Q) : Ends X dp y pc L (.int x :: .ref a :: st) h Q := by
  simp only [Bool.and_eq_true, decide_eq_true_eq, Bool.not_eq_true'] at ha
  obtain ⟨⟨⟨h1, h2⟩, h3⟩, h4⟩ := ha
  have hg : putF [ci, k, z, w] (.int x :: .ref a :: st) h = some (st, hpI h a k x) := by
    unfold putF
    simp only
    have hB := OLDB_eq
    have h6 : a < OLDB := by omega
    rw [if_pos ⟨h6, by rw [hs.1]; exact h2, h3⟩, h4, if_neg (by decide), if_neg (by
      rintro ⟨q1, q2⟩
      rcases hb with q | q
      · rw [q] at q1; cases q1
      · exact q2 q)]
    rfl
  refine Ends.step he (isRet_none rfl) rfl (pc' := pc + 3) (L' := L) (st' := st) (h' := hpI h a k x) ?_ e
  show (putF [ci, k, z, w] (.int x :: .ref a :: st) h).map _ = _
  rw [hg]; rfl
theorem e_ald {a n : Nat} {j : Int32} (he : pAt y pc = some (p0, .iaload, len, o)) (hs : HS h) (ha : (decide (a < 1000) && decide (SHl[a]? = some (.inl (0, n)))) = true) (hj : inB j n = true) (e : Ends X dp y (pc + 1) L (.int (h.2.1 a j.toNatClampNeg) :: st) h Q) : Ends X dp y pc L (.int j :: .ref a :: st) h Q := by
  simp only [Bool.and_eq_true, decide_eq_true_eq] at ha
  refine e_pure he rfl rfl ?_ e
  have hB := OLDB_eq
  have h6 : a < OLDB := by omega
  simp only [hstep]
  rw [if_pos h6, hs.1, ha.2]
  simp only
  rw [if_pos hj]
theorem e_bald {a n : Nat} {j : Int32} (he : pAt y pc = some (p0, .baload, len, o)) (hs : HS h) (ha : (decide (a < 1000) && decide (SHl[a]? = some (.inl (2, n)))) = true) (hj : inB j n = true) (e : Ends X dp y (pc + 1) L (.int (h.2.1 a j.toNatClampNeg) :: st) h Q) : Ends X dp y pc L (.int j :: .ref a :: st) h Q := by
  simp only [Bool.and_eq_true, decide_eq_true_eq] at ha
  refine e_pure he rfl rfl ?_ e
  have hB := OLDB_eq
  have h6 : a < OLDB := by omega
  simp only [hstep]
  rw [if_pos h6, hs.1, ha.2]
  simp only
  rw [if_pos hj]
theorem e_lald {a n : Nat} {j : Int32} (he : pAt y pc = some (p0, .laload, len, o)) (hs : HS h) (ha : (decide (a < 1000) && decide (SHl[a]? = some (.inl (1, n)))) = true) (hj : inB j n = true) (e : Ends X dp y (pc + 1) L (.long (h.2.2.1 a j.toNatClampNeg) :: st) h Q) : Ends X dp y pc L (.int j :: .ref a :: st) h Q := by
  simp only [Bool.and_eq_true, decide_eq_true_eq] at ha
  refine e_pure he rfl rfl ?_ e
  have hB := OLDB_eq
  have h6 : a < OLDB := by omega
  simp only [hstep]
  rw [if_pos h6, hs.1, ha.2]
  simp only
  rw [if_pos hj]
theorem e_ast {a n : Nat} {j x : Int32} (he : pAt y pc = some (p0, .iastore, len, o)) (hs : HS h) (ha : (decide (a < 1000) && decide (SHl[a]? = some (.inl (0, n)))) = true) (hj : inB j n = true) (e : Ends X dp y (pc + 1) L st (hpI h a j.toNatClampNeg x) Q) : Ends X dp y pc L (.int x :: .int j :: .ref a :: st) h Q := by
  simp only [Bool.and_eq_true, decide_eq_true_eq] at ha
  refine Ends.step he (isRet_none rfl) rfl (pc' := pc + 1) (L' := L) (st' := st) (h' := hpI h a j.toNatClampNeg x) ?_ e
  have hB := OLDB_eq
  have h6 : a < OLDB := by omega
  simp only [hstep]
  rw [if_pos h6, hs.1, ha.2]
  simp only
  rw [if_pos hj]
  simp only [hpI, hs.1]
theorem e_bast {a n : Nat} {j x : Int32} (he : pAt y pc = some (p0, .bastore, len, o)) (hs : HS h) (ha : (decide (a < 1000) && decide (SHl[a]? = some (.inl (2, n)))) = true) (hj : inB j n = true) (hx : x = 0 ∨ x = 1) (e : Ends X dp y (pc + 1) L st (hpI h a j.toNatClampNeg x) Q) : Ends X dp y pc L (.int x :: .int j :: .ref a :: st) h Q := by
  simp only [Bool.and_eq_true, decide_eq_true_eq] at ha
  refine Ends.step he (isRet_none rfl) rfl (pc' := pc + 1) (L' := L) (st' := st) (h' := hpI h a j.toNatClampNeg x) ?_ e
  have hB := OLDB_eq
  have h6 : a < OLDB := by omega
  simp only [hstep]
  rw [if_pos ⟨h6, hx⟩, hs.1, ha.2]
  simp only
  rw [if_pos hj]
  simp only [hpI, hs.1]
theorem e_last {a n : Nat} {j : Int32} {x : Int64} (he : pAt y pc = some (p0, .lastore, len, o)) (hs : HS h) (ha : (decide (a < 1000) && decide (SHl[a]? = some (.inl (1, n)))) = true) (hj : inB j n = true) (e : Ends X dp y (pc + 1) L st (hpL h a j.toNatClampNeg x) Q) : Ends X dp y pc L (.long x :: .int j :: .ref a :: st) h Q := by
  simp only [Bool.and_eq_true, decide_eq_true_eq] at ha
  refine Ends.step he (isRet_none rfl) rfl (pc' := pc + 1) (L' := L) (st' := st) (h' := hpL h a j.toNatClampNeg x) ?_ e
  have hB := OLDB_eq
  have h6 : a < OLDB := by omega
  simp only [hstep]
  rw [if_pos h6, hs.1, ha.2]
  simp only
  rw [if_pos hj]
  simp only [hpL, hs.1]
/-- the script's int -/
theorem e_sld {j : Int32} (he : pAt y pc = some (p0, .iaload, len, o)) (hj : inB j X.1 = true) (e : Ends X dp y (pc + 1) L (.int (X.2 j.toNatClampNeg) :: st) h Q) : Ends X dp y pc L (.int j :: .ref OLDB :: st) h Q := by
  refine e_pure he rfl rfl ?_ e
  simp only [hstep]
  rw [if_neg (Nat.lt_irrefl _), Nat.sub_self]
  have h7 : oldArr X 0 = some (0, X.1, X.2) := rfl
  rw [h7]
  simp only
  rw [if_pos hj]
theorem e_slen (he : pAt y pc = some (p0, .arraylength, len, o)) (e : Ends X dp y (pc + 1) L (.int (Int32.ofNat X.1) :: st) h Q) : Ends X dp y pc L (.ref OLDB :: st) h Q := by
  refine e_pure he rfl rfl ?_ e
  simp only [hstep]
  rw [if_neg (Nat.lt_irrefl _), Nat.sub_self]
  have h7 : oldArr X 0 = some (0, X.1, X.2) := rfl
  rw [h7]
theorem e_retI {x : Int32} (he : pAt y pc = some (p0, .ireturn, len, o)) (hr : mRet y = some .int) (hq : Q (some (.int x)) h) : Ends X dp y pc L [.int x] h Q := by
  refine Ends.ret he ?_ hq
  show some (retI y [.int x] h) = _
  unfold retI
  rw [hr]
  have hn : narrow .int (.int x) = .int x := rfl
  simp only
  rw [if_pos ⟨rfl, hn⟩]
theorem e_retZ {x : Int32} (he : pAt y pc = some (p0, .ireturn, len, o)) (hr : mRet y = some .boolean) (hx : x = 0 ∨ x = 1) (hq : Q (some (.int x)) h) : Ends X dp y pc L [.int x] h Q := by
  refine Ends.ret he ?_ hq
  show some (retI y [.int x] h) = _
  unfold retI
  rw [hr]
  have hn : narrow .boolean (.int x) = .int x := by rcases hx with rfl | rfl <;> rfl
  simp only
  rw [if_pos ⟨rfl, hn⟩]
theorem e_retL {x : Int64} (he : pAt y pc = some (p0, .lreturn, len, o)) (hr : mRet y = some .long) (hq : Q (some (.long x)) h) : Ends X dp y pc L [.long x] h Q := by
  refine Ends.ret he ?_ hq
  show some (retL y [.long x] h) = _
  unfold retL
  simp only
  rw [if_pos hr]
theorem e_retV (he : pAt y pc = some (p0, .return_, len, o)) (hr : mRet y = none) (hq : Q none h) : Ends X dp y pc L [] h Q := by
  refine Ends.ret he ?_ hq
  show some (retV y [] h) = _
  unfold retV
  simp only
  rw [if_pos hr]
end WALK
theorem call_this {c na a : Nat} {st : List Value} {h : Hp} (hs : HS h) (hst : (st.take na).reverse.head? = some (.ref a)) (hb : (decide (na ≤ st.length) && decide (catSum (st.drop na) ≤ 8) && (st.take na).all argOK && decide ((entL0 (st.take na).reverse).length ≤ mMaxL c)) = true) (hr : (decide (a < 1000) && decide (SHl[a]? = some (.inr (mCi c))) && decide (mCi c < 8)) = true) : callOK c na 0 st h = true := by
  unfold callOK
  rw [hb]
  simp only [Bool.true_and]
  rw [if_neg (by decide)]
  match hl : (st.take na).reverse, hst with
  | v :: l, hst =>
    cases hst
    simp only [Bool.and_eq_true, decide_eq_true_eq] at hr
    simp only
    rw [if_pos trivial]
    unfold recvOK
    have hB := OLDB_eq
    have h6 : a < OLDB := by omega
    simp only
    rw [if_pos h6, hs.1, hr.1.2]
    simp [hr.2]
theorem ls_off {pc t : Nat} {a b : Int} (h : a = b) (hj : jump pc b = some t) : jump pc a = some t := by rw [h]; exact hj
/-- a stretch of ints copied -/
def hpM (h : Hp) (a b sp dp n : Nat) : Hp := (h.1, (fun x => if x = a then va_cpy (h.2.1 b) (h.2.1 a) sp dp n else h.2.1 x), h.2.2.1, h.2.2.2)
theorem e_cpyI {X : Scr} {dp y pc p0 len t : Nat} {L : List Value} {h : Hp} {Q : Option Value → Hp → Prop} {a b m m' idx z w v : Nat} {n dpi sp : Int32} {sn dn nn : Nat} (he : pAt y pc = some (p0, .invokestatic idx, len, [9998, z, w, v, t])) (hs : HS h) (hab : (decide (a < 1000) && decide (b < 1000) && decide (SHl[a]? = some (.inl (0, m))) && decide (SHl[b]? = some (.inl (0, m')))) = true) (h1 : (decide (sp.toInt = sn) && decide (dpi.toInt = dn) && decide (n.toInt = nn) && decide (sn + nn ≤ m') && decide (dn + nn ≤ m)) = true)
    (e : Ends X dp y (pc + 3) L [] (hpM h a b sn dn nn) Q) : Ends X dp y pc L [.int n, .int dpi, .ref a, .int sp, .ref b] h Q := by
  simp only [Bool.and_eq_true, decide_eq_true_eq] at hab h1
  obtain ⟨⟨⟨ha, hb⟩, hsa⟩, hsb⟩ := hab
  obtain ⟨⟨⟨⟨g1, g2⟩, g3⟩, g4⟩, g5⟩ := h1
  have neg : ∀ (x : Int32) (k : Nat), x.toInt = k → ¬ x < 0 := fun x k hx q => by
    have := Int32.lt_iff_toInt_lt.mp q
    have z0 : (0 : Int32).toInt = 0 := rfl
    omega
  have hB := OLDB_eq
  have q1 : sp.toNatClampNeg = sn := by show sp.toInt.toNat = _; omega
  have q2 : dpi.toNatClampNeg = dn := by show dpi.toInt.toNat = _; omega
  have q3 : n.toNatClampNeg = nn := by show n.toInt.toNat = _; omega
  have hc : copyA [.int n, .int dpi, .ref a, .int sp, .ref b] h = some ([], hpM h a b sn dn nn) := by
    have g : a < OLDB ∧ b < OLDB ∧ ¬ sp < 0 ∧ ¬ dpi < 0 ∧ ¬ n < 0 ∧ catSum [] ≤ 8 := ⟨by omega, by omega, neg _ _ g1, neg _ _ g2, neg _ _ g3, by decide⟩
    simp only [copyA]
    rw [if_pos g, hs.1, hsa, hsb, q1, q2, q3]
    simp only
    have g2 : True ∧ sn + nn ≤ m' ∧ dn + nn ≤ m := ⟨trivial, g4, g5⟩
    rw [if_pos g2, if_pos trivial]
    unfold hpM
    rw [hs.1]
  refine Ends.step he (isRet_none rfl) rfl (pc' := pc + 3) (L' := L) (st' := []) (h' := hpM h a b sn dn nn) ?_ e
  show (copyA [.int n, .int dpi, .ref a, .int sp, .ref b] h).map _ = _
  rw [hc]
  rfl
section WALKV
variable {X : Scr} {dp y pc p0 len : Nat} {o : List Nat} {L st : List Value} {h : Hp} {Q : Option Value → Hp → Prop}
theorem e_gIv {idx ci k z w a : Nat} {v : Int32} (he : pAt y pc = some (p0, .getfield idx, len, [ci, k, z, w])) (hs : HS h) (hn : (ci == 9) = false) (ha : (decide (a < 1000) && decide (SHl[a]? = some (.inr ci)) && decide (k < vwN ci) && !isRefTy (vwTy ci k)) = true) (hv : h.2.1 a k = v) (e : Ends X dp y (pc + 3) L (.int v :: st) h Q) : Ends X dp y pc L (.ref a :: st) h Q := by
  subst hv
  exact e_gI he hs hn ha e
theorem e_aldv {a n : Nat} {j v : Int32} (he : pAt y pc = some (p0, .iaload, len, o)) (hs : HS h) (ha : (decide (a < 1000) && decide (SHl[a]? = some (.inl (0, n)))) = true) (hj : inB j n = true) (hv : h.2.1 a j.toNatClampNeg = v) (e : Ends X dp y (pc + 1) L (.int v :: st) h Q) : Ends X dp y pc L (.int j :: .ref a :: st) h Q := by
  subst hv
  exact e_ald he hs ha hj e
theorem e_baldv {a n : Nat} {j v : Int32} (he : pAt y pc = some (p0, .baload, len, o)) (hs : HS h) (ha : (decide (a < 1000) && decide (SHl[a]? = some (.inl (2, n)))) = true) (hj : inB j n = true) (hv : h.2.1 a j.toNatClampNeg = v) (e : Ends X dp y (pc + 1) L (.int v :: st) h Q) : Ends X dp y pc L (.int j :: .ref a :: st) h Q := by
  subst hv
  exact e_bald he hs ha hj e
end WALKV
end JN60walk
section JN61small
/-! Small methods by hand: what is owed for them. -/
theorem w_fm {X : Scr} {dp : Nat} {h : Hp} {Q : Option Value → Hp → Prop} (x : Int32) (z : Int32) (hs : HS h)
    (vc : (¬ z = 0 ∧ ((condB .ge (x ^^^ z) 0 = true → Q (some (.int (x - x / z * z))) h) ∧ (condB .ge (x ^^^ z) 0 = false → ((condB .eq (x - x / z * z) 0 = true → Q (some (.int (x - x / z * z))) h) ∧ (condB .eq (x - x / z * z) 0 = false → Q (some (.int ((x - x / z * z) + z))) h)))))) :
    Ends X dp 205 0 [.int x, .int z, .retAddr 0] [] h Q := by
  refine e_iload_n (show pAt 205 0 = some (0, .iload_n 0, 1, []) from by decide +kernel) rfl ?_
  refine e_iload_n (show pAt 205 1 = some (1, .iload_n 1, 1, []) from by decide +kernel) rfl ?_
  obtain ⟨c1, vc⟩ := vc
  refine e_irem (show pAt 205 2 = some (2, .irem, 1, []) from by decide +kernel) c1 ?_
  refine e_istore_n (show pAt 205 3 = some (3, .istore_n 2, 1, []) from by decide +kernel) ⟨Nat.le_of_ble_eq_true rfl, rfl⟩ rfl ?_
  refine e_iload_n (show pAt 205 4 = some (4, .iload_n 0, 1, []) from by decide +kernel) rfl ?_
  refine e_iload_n (show pAt 205 5 = some (5, .iload_n 1, 1, []) from by decide +kernel) rfl ?_
  refine e_ixor (show pAt 205 6 = some (6, .ixor, 1, []) from by decide +kernel) ?_
  refine e_if (t := 18) (show pAt 205 7 = some (7, .ifCond .ge 11, 3, []) from by decide +kernel) rfl (fun c2 => ?_) (fun c2 => ?_)
  · replace vc := vc.1 c2
    refine e_iload_n (show pAt 205 18 = some (18, .iload_n 2, 1, []) from by decide +kernel) rfl ?_
    exact e_retI (show pAt 205 19 = some (19, .ireturn, 1, []) from by decide +kernel) rfl vc
  · replace vc := vc.2 c2
    refine e_iload_n (show pAt 205 10 = some (10, .iload_n 2, 1, []) from by decide +kernel) rfl ?_
    refine e_if (t := 18) (show pAt 205 11 = some (11, .ifCond .eq 7, 3, []) from by decide +kernel) rfl (fun c3 => ?_) (fun c3 => ?_)
    · replace vc := vc.1 c3
      refine e_iload_n (show pAt 205 18 = some (18, .iload_n 2, 1, []) from by decide +kernel) rfl ?_
      exact e_retI (show pAt 205 19 = some (19, .ireturn, 1, []) from by decide +kernel) rfl vc
    · replace vc := vc.2 c3
      refine e_iload_n (show pAt 205 14 = some (14, .iload_n 2, 1, []) from by decide +kernel) rfl ?_
      refine e_iload_n (show pAt 205 15 = some (15, .iload_n 1, 1, []) from by decide +kernel) rfl ?_
      refine e_iadd (show pAt 205 16 = some (16, .iadd, 1, []) from by decide +kernel) ?_
      exact e_retI (show pAt 205 17 = some (17, .ireturn, 1, []) from by decide +kernel) rfl vc

theorem w_dv0 {X : Scr} {dp : Nat} {h : Hp} {Q : Option Value → Hp → Prop} (a : Int32) (b : Int32) (hs : HS h)
    (vc : Ends X dp 177 5 [.ref 93, .int a, .int b, .int a, .int b, .retAddr 0] [] h Q) :
    Ends X dp 177 0 [.ref 93, .int a, .int b, .retAddr 0, .retAddr 0, .retAddr 0] [] h Q := by
  have ra : ∀ {a : Nat}, a < 1000 → a ≤ OLDB := fun h => by have := OLDB_eq; omega
  refine e_iload_n (show pAt 177 0 = some (0, .iload_n 1, 1, []) from by decide +kernel) rfl ?_
  refine e_istore_n (show pAt 177 1 = some (1, .istore_n 3, 1, []) from by decide +kernel) ⟨Nat.le_of_ble_eq_true rfl, rfl⟩ rfl ?_
  refine e_iload_n (show pAt 177 2 = some (2, .iload_n 2, 1, []) from by decide +kernel) rfl ?_
  refine e_istore (show pAt 177 3 = some (3, .istore 4, 2, []) from by decide +kernel) ⟨Nat.le_of_ble_eq_true rfl, rfl⟩ rfl ?_
  exact vc

theorem w_dv5 {X : Scr} {dp : Nat} {h : Hp} {Q : Option Value → Hp → Prop} (a : Int32) (b : Int32) (p : Int32) (q : Int32) (v : Value) (hs : HS h)
    (vc : ((condB .eq q 0 = true → Q (some (.int p)) h) ∧ (condB .eq q 0 = false → (¬ q = 0 ∧ Ends X dp 177 5 [.ref 93, .int a, .int b, .int q, .int (p - p / q * q), .int (p - p / q * q)] [] h Q)))) :
    Ends X dp 177 5 [.ref 93, .int a, .int b, .int p, .int q, v] [] h Q := by
  have ra : ∀ {a : Nat}, a < 1000 → a ≤ OLDB := fun h => by have := OLDB_eq; omega
  refine e_iload (show pAt 177 5 = some (5, .iload 4, 2, []) from by decide +kernel) rfl ?_
  refine e_if (t := 26) (show pAt 177 7 = some (7, .ifCond .eq 19, 3, []) from by decide +kernel) rfl (fun c1 => ?_) (fun c1 => ?_)
  · replace vc := vc.1 c1
    refine e_iload_n (show pAt 177 26 = some (26, .iload_n 3, 1, []) from by decide +kernel) rfl ?_
    exact e_retI (show pAt 177 27 = some (27, .ireturn, 1, []) from by decide +kernel) rfl vc
  · replace vc := vc.2 c1
    refine e_iload_n (show pAt 177 10 = some (10, .iload_n 3, 1, []) from by decide +kernel) rfl ?_
    refine e_iload (show pAt 177 11 = some (11, .iload 4, 2, []) from by decide +kernel) rfl ?_
    obtain ⟨c2, vc⟩ := vc
    refine e_irem (show pAt 177 13 = some (13, .irem, 1, []) from by decide +kernel) c2 ?_
    refine e_istore (show pAt 177 14 = some (14, .istore 5, 2, []) from by decide +kernel) ⟨Nat.le_of_ble_eq_true rfl, rfl⟩ rfl ?_
    refine e_iload (show pAt 177 16 = some (16, .iload 4, 2, []) from by decide +kernel) rfl ?_
    refine e_istore_n (show pAt 177 18 = some (18, .istore_n 3, 1, []) from by decide +kernel) ⟨Nat.le_of_ble_eq_true rfl, rfl⟩ rfl ?_
    refine e_iload (show pAt 177 19 = some (19, .iload 5, 2, []) from by decide +kernel) rfl ?_
    refine e_istore (show pAt 177 21 = some (21, .istore 4, 2, []) from by decide +kernel) ⟨Nat.le_of_ble_eq_true rfl, rfl⟩ rfl ?_
    refine e_goto (t := 5) (show pAt 177 23 = some (23, .goto (-18), 3, []) from by decide +kernel) rfl ?_
    exact vc

theorem w_on0 {X : Scr} {dp : Nat} {h : Hp} {Q : Option Value → Hp → Prop} (a : Int32) (hs : HS h)
    (vc : Ends X dp 111 4 [.ref 93, .int a, .int 0, .int a] [] h Q) :
    Ends X dp 111 0 [.ref 93, .int a, .retAddr 0, .retAddr 0] [] h Q := by
  have ra : ∀ {a : Nat}, a < 1000 → a ≤ OLDB := fun h => by have := OLDB_eq; omega
  refine e_iconst (c := 0) (show pAt 111 0 = some (0, .iconst 0, 1, []) from by decide +kernel) (by decide) ?_
  refine e_istore_n (show pAt 111 1 = some (1, .istore_n 2, 1, []) from by decide +kernel) ⟨Nat.le_of_ble_eq_true rfl, rfl⟩ rfl ?_
  refine e_iload_n (show pAt 111 2 = some (2, .iload_n 1, 1, []) from by decide +kernel) rfl ?_
  refine e_istore_n (show pAt 111 3 = some (3, .istore_n 3, 1, []) from by decide +kernel) ⟨Nat.le_of_ble_eq_true rfl, rfl⟩ rfl ?_
  exact vc

theorem w_on1 {X : Scr} {dp : Nat} {h : Hp} {Q : Option Value → Hp → Prop} (a : Int32) (n : Int32) (l : Int32) (hs : HS h)
    (vc : ((condB .eq l 0 = true → Q (some (.int n)) h) ∧ (condB .eq l 0 = false → Ends X dp 111 4 [.ref 93, .int a, .int (n + 1), .int (l &&& (l - 1))] [] h Q))) :
    Ends X dp 111 4 [.ref 93, .int a, .int n, .int l] [] h Q := by
  have ra : ∀ {a : Nat}, a < 1000 → a ≤ OLDB := fun h => by have := OLDB_eq; omega
  refine e_iload_n (show pAt 111 4 = some (4, .iload_n 3, 1, []) from by decide +kernel) rfl ?_
  refine e_if (t := 20) (show pAt 111 5 = some (5, .ifCond .eq 15, 3, []) from by decide +kernel) rfl (fun c1 => ?_) (fun c1 => ?_)
  · replace vc := vc.1 c1
    refine e_iload_n (show pAt 111 20 = some (20, .iload_n 2, 1, []) from by decide +kernel) rfl ?_
    exact e_retI (show pAt 111 21 = some (21, .ireturn, 1, []) from by decide +kernel) rfl vc
  · replace vc := vc.2 c1
    refine e_iinc (c := 1) (show pAt 111 8 = some (8, .iinc 2 1, 3, []) from by decide +kernel) rfl rfl (by decide) rfl ?_
    refine e_iload_n (show pAt 111 11 = some (11, .iload_n 3, 1, []) from by decide +kernel) rfl ?_
    refine e_iload_n (show pAt 111 12 = some (12, .iload_n 3, 1, []) from by decide +kernel) rfl ?_
    refine e_iconst (c := 1) (show pAt 111 13 = some (13, .iconst 1, 1, []) from by decide +kernel) (by decide) ?_
    refine e_isub (show pAt 111 14 = some (14, .isub, 1, []) from by decide +kernel) ?_
    refine e_iand (show pAt 111 15 = some (15, .iand, 1, []) from by decide +kernel) ?_
    refine e_istore_n (show pAt 111 16 = some (16, .istore_n 3, 1, []) from by decide +kernel) ⟨Nat.le_of_ble_eq_true rfl, rfl⟩ rfl ?_
    refine e_goto (t := 4) (show pAt 111 17 = some (17, .goto (-13), 3, []) from by decide +kernel) rfl ?_
    exact vc
end JN61small
section JN62hands
/-! Small contracts by hand. -/
theorem qp_new {B : Bd} {r : Int × Int} {src : List (Nat × Nat)} {ρ : Nat → Int} {x : Int32} {h : Hp} (hb : bOK ρ B) (h1 : r.1 ≤ x.toInt) (h2 : x.toInt ≤ r.2) : Qpost B.length ρ [(B ++ [r], [iT (B.length + 1, 0)], [], src)] (some (.int x)) h := by
  have he : ext B.length ρ (fun v => if v < B.length then ρ v else x.toInt) := fun v hv => if_pos hv
  refine ⟨_, List.mem_singleton.mpr rfl, fun v => if v < B.length then ρ v else x.toInt, he, ?_, ?_, ⟨⟨x, rfl, ?_, ?_⟩, trivial⟩, fun q hq => by cases hq⟩
  · intro v q hq
    have hq : (B ++ [r])[v]? = some q := hq
    by_cases hv : v < B.length
    · rw [List.getElem?_append_left hv] at hq
      simp only [if_pos hv]
      exact hb v q hq
    · rw [List.getElem?_append_right (by omega)] at hq
      simp only [if_neg hv]
      have hz : v - B.length = 0 := by
        have := (List.getElem?_eq_some_iff.mp hq).1
        simp at this
        omega
      rw [hz] at hq
      cases hq
      exact ⟨h1, h2⟩
  · show B.length ≤ (B ++ [r]).length
    simp
  · show B.length + 1 ≤ (B ++ [r]).length
    simp
  · show x.toInt = (if B.length < B.length then ρ B.length else x.toInt) + 0
    rw [if_neg (Nat.lt_irrefl _)]
    omega
theorem cI {q : Jvm.ClassFile.Cond} {x y : Int32} {b : Bool} (h : condB q x y = b) : cndI q x.toInt y.toInt = b := by rw [← condB_I]; exact h
theorem z0 : (0 : Int32).toInt = 0 := rfl
/-- the rest of a division by a number above 0, as floorMod has it -/
theorem fm_ok {X : Scr} {dp : Nat} {h : Hp} {Q : Option Value → Hp → Prop} (x z : Int32) (hs : HS h) (hz : 0 < z.toInt) (hQ : ∀ r : Int32, r.toInt = x.toInt % z.toInt → Q (some (.int r)) h) : Ends X dp 205 0 [.int x, .int z, .retAddr 0] [] h Q := by
  have hr := i_rem (x := x) hz
  have h1 : x.toInt % z.toInt = if 0 ≤ x.toInt.tmod z.toInt then x.toInt.tmod z.toInt else x.toInt.tmod z.toInt + z.toInt := by
    have e1 := Int.tmod_eq_emod (a := x.toInt) (b := z.toInt)
    have b1 := Int.emod_nonneg x.toInt (b := z.toInt) (by omega)
    have b2 := Int.emod_lt_of_pos x.toInt hz
    rw [e1]
    split <;> split <;> omega
  have hb := i32r x
  have hb2 := i32r z
  simp only [fI] at hb hb2
  have t1 : x.toInt.tmod z.toInt < z.toInt := Int.tmod_lt_of_pos _ hz
  have t2 : -z.toInt < x.toInt.tmod z.toInt := by
    have := Int.tmod_eq_emod (a := x.toInt) (b := z.toInt)
    have b1 := Int.emod_nonneg x.toInt (b := z.toInt) (by omega)
    have b2 := Int.emod_lt_of_pos x.toInt hz
    rw [this]
    split <;> omega
  have hx : ∀ r : Int32, (0 ≤ (r ^^^ z).toInt ↔ (0 ≤ r.toInt ↔ 0 ≤ z.toInt)) := by
    intro r
    have e : (r ^^^ z).toBitVec = r.toBitVec ^^^ z.toBitVec := rfl
    have m : ∀ w : Int32, (0 ≤ w.toInt ↔ w.toBitVec.msb = false) := by
      intro w
      have h1 := bn w
      have h2 : w.toBitVec.msb = decide (2 ^ (32 - 1) ≤ w.toBitVec.toNat) := BitVec.msb_eq_decide _
      have h3 := w.toBitVec.isLt
      rw [h2, decide_eq_false_iff_not]
      split at h1 <;> omega
    rw [m, m, m, e, BitVec.msb_xor]
    cases r.toBitVec.msb <;> cases z.toBitVec.msb <;> decide
  refine w_fm x z hs ⟨fun e => by rw [e] at hz; exact absurd hz (by decide), fun c => ?_, fun c => ⟨fun d => ?_, fun d => ?_⟩⟩
  · have c := cI c
    rw [z0] at c
    have c : 0 ≤ (x ^^^ z).toInt := of_decide_eq_true c
    refine hQ _ ?_
    rw [hr, h1]
    by_cases hn : 0 ≤ x.toInt.tmod z.toInt
    · rw [if_pos hn]
    · exfalso
      have hxn : ¬ 0 ≤ x.toInt := fun q => hn (by
        have := Int.tmod_eq_emod (a := x.toInt) (b := z.toInt)
        have b1 := Int.emod_nonneg x.toInt (b := z.toInt) (by omega)
        rw [this, if_pos (Or.inl q)]
        omega)
      have := (hx x).mp c
      omega
  · have d := cI d
    rw [z0] at d
    have d : (x - x / z * z).toInt = 0 := of_decide_eq_true d
    refine hQ _ ?_
    rw [d]
    rw [hr] at d
    rw [h1, d, if_pos (Int.le_refl _)]
  · have c := cI c
    have d := cI d
    rw [z0] at c d
    have c : ¬ 0 ≤ (x ^^^ z).toInt := of_decide_eq_false c
    have d : ¬ (x - x / z * z).toInt = 0 := of_decide_eq_false d
    have hxn : ¬ 0 ≤ x.toInt := fun q => c ((hx x).mpr ⟨fun _ => by omega, fun _ => q⟩)
    refine hQ _ ?_
    rw [hr] at d
    have hn : ¬ 0 ≤ x.toInt.tmod z.toInt := fun q => by
      have := Int.tmod_eq_emod (a := x.toInt) (b := z.toInt)
      have e : ¬ z.toInt ∣ x.toInt := fun w => d (Int.tmod_eq_zero_of_dvd w)
      rw [if_neg (by rintro (u | u); exact hxn u; exact e u)] at this
      have b2 := Int.emod_lt_of_pos x.toInt hz
      omega
    rw [i_add (by rw [hr]; omega) (by rw [hr]; omega), hr, h1, if_neg hn]

/-- a number by its bits, up to seven of them -/
def popN (n : Nat) : Nat := ((List.range 7).filter (fun i => n.testBit i)).length
theorem pop_step : ∀ n, n < 128 → n ≠ 0 → (n &&& (n - 1)) < n ∧ popN (n &&& (n - 1)) + 1 = popN n ∧ popN n ≤ 7 := by decide +kernel
theorem i_pred {x : Int32} (h1 : 0 < x.toInt) (h2 : x.toInt < 128) : (x &&& (x - 1)).toInt = ((x.toInt.toNat &&& (x.toInt.toNat - 1) : Nat) : Int) := by
  have e1 : (x - 1).toInt = x.toInt - 1 := i_sub (by have : (1 : Int32).toInt = 1 := rfl; omega) (by have : (1 : Int32).toInt = 1 := rfl; omega)
  obtain ⟨a1, a2⟩ := bn_of (x := x) (by omega)
  obtain ⟨b1, b2⟩ := bn_of (x := x - 1) (by omega)
  have e3 : (x &&& (x - 1)).toBitVec.toNat = x.toBitVec.toNat &&& (x - 1).toBitVec.toNat := by
    show (x.toBitVec &&& (x - 1).toBitVec).toNat = _
    exact BitVec.toNat_and ..
  have e4 : (x &&& (x - 1)).toBitVec.toNat < 2 ^ 31 := by
    rw [e3]
    exact Nat.lt_of_le_of_lt Nat.and_le_left a2
  rw [bn_to e4, e3]
  have e5 : x.toBitVec.toNat = x.toInt.toNat := by omega
  have e6 : (x - 1).toBitVec.toNat = x.toInt.toNat - 1 := by omega
  rw [e5, e6]
theorem ones_loop {X : Scr} {dp : Nat} {h : Hp} {Q : Option Value → Hp → Prop} (a : Int32) (hs : HS h) : ∀ (m : Nat) (n l : Int32), l.toInt = m → m < 128 → 0 ≤ n.toInt → n.toInt + popN m ≤ 1000 → (∀ r : Int32, r.toInt = n.toInt + popN m → Q (some (.int r)) h) → Ends X dp 111 4 [.ref 93, .int a, .int n, .int l] [] h Q := by
  intro m
  induction m using Nat.strongRecOn with
  | ind m ih =>
    intro n l hl hm h0 hn hQ
    refine w_on1 a n l hs ⟨fun c => ?_, fun c => ?_⟩
    · have c : l.toInt = 0 := of_decide_eq_true (cI c)
      have : m = 0 := by omega
      subst this
      exact hQ n (by show n.toInt = n.toInt + 0; omega)
    · have c : ¬ l.toInt = 0 := of_decide_eq_false (cI c)
      have hm0 : m ≠ 0 := by omega
      obtain ⟨p1, p2, p3⟩ := pop_step m hm hm0
      have o1 : (1 : Int32).toInt = 1 := rfl
      have e1 : (n + 1).toInt = n.toInt + 1 := i_add (by omega) (by omega)
      have e2 := i_pred (x := l) (by omega) (by omega)
      have e3 : l.toInt.toNat = m := by omega
      rw [e3] at e2
      exact ih _ p1 (n + 1) _ e2 (by omega) (by omega) (by omega) (fun r hr => hQ r (by omega))
theorem ones_ok {X : Scr} {dp : Nat} {h : Hp} {Q : Option Value → Hp → Prop} (a : Int32) (hs : HS h) (h1 : 0 ≤ a.toInt) (h2 : a.toInt < 128) (hQ : ∀ r : Int32, r.toInt = popN a.toInt.toNat → Q (some (.int r)) h) : Ends X dp 111 0 [.ref 93, .int a, .retAddr 0, .retAddr 0] [] h Q := by
  refine w_on0 a hs ?_
  have hp : popN a.toInt.toNat ≤ 7 := by
    have : (List.range 7).length = 7 := rfl
    exact Nat.le_trans (List.length_filter_le _ _) (Nat.le_of_eq this)
  have z : (0 : Int32).toInt = 0 := rfl
  refine ones_loop a hs a.toInt.toNat 0 a (by omega) (by omega) (by omega) (by omega) (fun r hr => hQ r (by omega))
/-- Euclid's way -/
theorem dv_loop {X : Scr} {dp : Nat} {h : Hp} {Q : Option Value → Hp → Prop} (a b : Int32) (hs : HS h) : ∀ (m : Nat) (p q : Int32) (v : Value), q.toInt = m → 0 ≤ p.toInt → (∀ r : Int32, r.toInt = Nat.gcd p.toInt.toNat m → Q (some (.int r)) h) → Ends X dp 177 5 [.ref 93, .int a, .int b, .int p, .int q, v] [] h Q := by
  intro m
  induction m using Nat.strongRecOn with
  | ind m ih =>
    intro p q v hq hp hQ
    refine w_dv5 a b p q v hs ⟨fun c => ?_, fun c => ⟨fun e => ?_, ?_⟩⟩
    · have c : q.toInt = 0 := of_decide_eq_true (cI c)
      have : m = 0 := by omega
      subst this
      exact hQ p (by rw [Nat.gcd_zero_right]; omega)
    · have c : ¬ q.toInt = 0 := of_decide_eq_false (cI c)
      rw [e] at c
      exact c rfl
    · have c : ¬ q.toInt = 0 := of_decide_eq_false (cI c)
      have e1 := i_rem (x := p) (y := q) (by omega)
      have e2 : p.toInt.tmod q.toInt = ((p.toInt.toNat % m : Nat) : Int) := by
        obtain ⟨k, hk⟩ := Int.eq_ofNat_of_zero_le hp
        rw [hk, hq]
        show (((k % m : Nat)) : Int) = _
        rw [Int.toNat_natCast]
      have hl : p.toInt.toNat % m < m := Nat.mod_lt _ (by omega)
      refine ih _ hl q _ _ (e1.trans e2) (by omega) (fun r hr => hQ r ?_)
      rw [hr, show q.toInt.toNat = m by omega]
      have : Nat.gcd m (p.toInt.toNat % m) = Nat.gcd p.toInt.toNat m := by rw [Nat.gcd_comm m (p.toInt.toNat % m), ← Nat.gcd_rec, Nat.gcd_comm]
      rw [this]
theorem dv_ok {X : Scr} {dp : Nat} {h : Hp} {Q : Option Value → Hp → Prop} (a b : Int32) (hs : HS h) (h1 : 0 ≤ a.toInt) (h2 : 0 ≤ b.toInt) (hQ : ∀ r : Int32, r.toInt = Nat.gcd a.toInt.toNat b.toInt.toNat → Q (some (.int r)) h) : Ends X dp 177 0 [.ref 93, .int a, .int b, .retAddr 0, .retAddr 0, .retAddr 0] [] h Q :=
  w_dv0 a b hs (dv_loop a b hs b.toInt.toNat a b _ (by omega) h1 hQ)
theorem g_fm10 {J : JV} : Good J h_fm10 := by
  intro X dp ρ h as hD hh hK hb hA hF
  match as, hA with
  | [_, _], ⟨⟨x, rfl, hx⟩, ⟨z, rfl, hz⟩, _⟩ =>
    have hz : z.toInt = 10 := hz.2
    refine fm_ok x z hh.hs (by omega) (fun r hr => ⟨hh, frm_refl, ?_⟩)
    rw [hz] at hr
    exact qp_new (B := [fI]) (r := (0, 9)) hb (by show (0 : Int) ≤ _; omega) (by show _ ≤ (9 : Int); omega)
theorem g_fm4 {J : JV} : Good J h_fm4 := by
  intro X dp ρ h as hD hh hK hb hA hF
  match as, hA with
  | [_, _], ⟨⟨x, rfl, hx⟩, ⟨z, rfl, hz⟩, _⟩ =>
    have hz : z.toInt = 4 := hz.2
    refine fm_ok x z hh.hs (by omega) (fun r hr => ⟨hh, frm_refl, ?_⟩)
    rw [hz] at hr
    exact qp_new (B := [fI]) (r := (0, 3)) hb (by show (0 : Int) ≤ _; omega) (by show _ ≤ (3 : Int); omega)
theorem g_fm7 {J : JV} : Good J h_fm7 := by
  intro X dp ρ h as hD hh hK hb hA hF
  match as, hA with
  | [_, _], ⟨⟨x, rfl, hx⟩, ⟨z, rfl, hz⟩, _⟩ =>
    have hz : z.toInt = 7 := hz.2
    refine fm_ok x z hh.hs (by omega) (fun r hr => ⟨hh, frm_refl, ?_⟩)
    rw [hz] at hr
    exact qp_new (B := [(0, 600)]) (r := (0, 6)) hb (by show (0 : Int) ≤ _; omega) (by show _ ≤ (6 : Int); omega)
theorem g_ones {J : JV} : Good J h_ones := by
  intro X dp ρ h as hD hh hK hb hA hF
  match as, hA with
  | [_, _], ⟨⟨a, rfl, ha⟩, ⟨x, rfl, hx⟩, _⟩ =>
    have ha : a = 93 := List.mem_singleton.mp ha
    subst ha
    have hx : x.toInt = ρ 0 + 0 := hx.2
    have h0 := hb 0 _ rfl
    simp only at h0
    refine ones_ok x hh.hs (by omega) (by omega) (fun r hr => ⟨hh, frm_refl, ?_⟩)
    have hp : popN x.toInt.toNat ≤ 7 := by
      have : (List.range 7).length = 7 := rfl
      exact Nat.le_trans (List.length_filter_le _ _) (Nat.le_of_eq this)
    exact qp_new (B := [(0, 127)]) (r := (0, 32)) hb (by show (0 : Int) ≤ _; omega) (by show _ ≤ (32 : Int); omega)
theorem g_div {J : JV} : Good J h_div := by
  intro X dp ρ h as hD hh hK hb hA hF
  match as, hA with
  | [_, _, _], ⟨⟨a, rfl, ha⟩, ⟨x, rfl, hx⟩, ⟨z, rfl, hz⟩, _⟩ =>
    have ha : a = 93 := List.mem_singleton.mp ha
    subst ha
    have hx : x.toInt = ρ 0 + 0 := hx.2
    have hz : z.toInt = ρ 1 + 0 := hz.2
    have h0 := hb 0 _ rfl
    have h1 := hb 1 _ rfl
    simp only at h0 h1
    refine dv_ok x z hh.hs (by omega) (by omega) (fun r hr => ⟨hh, frm_refl, ?_⟩)
    have hp := Nat.gcd_pos_of_pos_right x.toInt.toNat (n := z.toInt.toNat) (by omega)
    have hp2 := i32r r
    simp only [fI] at hp2
    exact qp_new (B := [(0, 1100), (1, 30)]) (r := (1, 2147483647)) hb (by show (1 : Int) ≤ _; omega) (by show _ ≤ (2147483647 : Int); omega)
end JN62hands
section JN63so
/-! Is it so, who goes when: what is owed for them. -/
theorem w_so0 {X : Scr} {dp : Nat} {h : Hp} {Q : Option Value → Hp → Prop} (c : Int32) (p : Int32) (l : Int32) (hs : HS h)
    (vc : (inB c 60 = true ∧ Ends X dp 137 11 [.ref 93, .int c, .int p, .int l, .int 0, .int (h.2.1 104 c.toNatClampNeg), .retAddr 0, .retAddr 0, .retAddr 0] [] h Q)) :
    Ends X dp 137 0 [.ref 93, .int c, .int p, .int l, .retAddr 0, .retAddr 0, .retAddr 0, .retAddr 0, .retAddr 0] [] h Q := by
  have ra : ∀ {a : Nat}, a < 1000 → a ≤ OLDB := fun h => by have := OLDB_eq; omega
  refine e_iconst (c := 0) (show pAt 137 0 = some (0, .iconst 0, 1, []) from by decide +kernel) (by decide) ?_
  refine e_istore (show pAt 137 1 = some (1, .istore 4, 2, []) from by decide +kernel) ⟨Nat.le_of_ble_eq_true rfl, rfl⟩ rfl ?_
  refine e_aload_n (show pAt 137 3 = some (3, .aload_n 0, 1, []) from by decide +kernel) rfl (ra (by decide)) ?_
  refine e_gR (show pAt 137 4 = some (4, .getfield 65, 3, [7, 18, 0, 4141]) from by decide +kernel) (show HS h from hs) rfl (by decide) (hs_ref (show HS h from hs) rfl) ?_
  refine e_iload_n (show pAt 137 7 = some (7, .iload_n 1, 1, []) from by decide +kernel) rfl ?_
  obtain ⟨c1, vc⟩ := vc
  refine e_ald (show pAt 137 8 = some (8, .iaload, 1, []) from by decide +kernel) (show HS h from hs) (by decide) c1 ?_
  refine e_istore (show pAt 137 9 = some (9, .istore 5, 2, []) from by decide +kernel) ⟨Nat.le_of_ble_eq_true rfl, rfl⟩ rfl ?_
  exact vc

theorem w_so1 {X : Scr} {dp : Nat} {h : Hp} {Q : Option Value → Hp → Prop} (c : Int32) (p : Int32) (l : Int32) (n : Int32) (k : Int32) (a : Value) (b : Value) (d : Value) (hs : HS h)
    (vc : (inB c 60 = true ∧ ((condB .ge k (h.2.1 105 c.toNatClampNeg) = true → (inB 0 100 = true ∧ (h.2.1 109 (0 : Int32).toNatClampNeg = 0 ∨ h.2.1 109 (0 : Int32).toNatClampNeg = 1) ∧ Q (some (.int (h.2.1 109 (0 : Int32).toNatClampNeg))) h)) ∧ (condB .ge k (h.2.1 105 c.toNatClampNeg) = false → (inB k 600 = true ∧ ((condB .ne (h.2.1 106 k.toNatClampNeg) (-33) = true → ((condB .ge (h.2.1 106 k.toNatClampNeg) 0 = true → Ends X dp 136 0 [.ref 93, .int ((h.2.1 106 k.toNatClampNeg) / 1000), .int p, .int l] [] h (fun rv h7 => ∃ r8, rv = some (.int r8) ∧ HS h7 ∧ ((condB .ne (((h.2.1 106 k.toNatClampNeg) / 100) - ((h.2.1 106 k.toNatClampNeg) / 100) / 10 * 10) 0 = true → ((condB .ne (((h.2.1 106 k.toNatClampNeg) / 100) - ((h.2.1 106 k.toNatClampNeg) / 100) / 10 * 10) 1 = true → ((condB .le r8 ((h.2.1 106 k.toNatClampNeg) - (h.2.1 106 k.toNatClampNeg) / 100 * 100) = true → (inB n 100 = true ∧ Ends X (dp + 1) 137 11 [.ref 93, .int c, .int p, .int l, .int (n + 1), .int (k + 1), .int (h.2.1 106 k.toNatClampNeg), .int r8, .int (((h.2.1 106 k.toNatClampNeg) / 100) - ((h.2.1 106 k.toNatClampNeg) / 100) / 10 * 10)] [] (hpI h7 109 n.toNatClampNeg 0) Q)) ∧ (condB .le r8 ((h.2.1 106 k.toNatClampNeg) - (h.2.1 106 k.toNatClampNeg) / 100 * 100) = false → (inB n 100 = true ∧ Ends X (dp + 1) 137 11 [.ref 93, .int c, .int p, .int l, .int (n + 1), .int (k + 1), .int (h.2.1 106 k.toNatClampNeg), .int r8, .int (((h.2.1 106 k.toNatClampNeg) / 100) - ((h.2.1 106 k.toNatClampNeg) / 100) / 10 * 10)] [] (hpI h7 109 n.toNatClampNeg 1) Q)))) ∧ (condB .ne (((h.2.1 106 k.toNatClampNeg) / 100) - ((h.2.1 106 k.toNatClampNeg) / 100) / 10 * 10) 1 = false → ((condB .ne r8 ((h.2.1 106 k.toNatClampNeg) - (h.2.1 106 k.toNatClampNeg) / 100 * 100) = true → (inB n 100 = true ∧ Ends X (dp + 1) 137 11 [.ref 93, .int c, .int p, .int l, .int (n + 1), .int (k + 1), .int (h.2.1 106 k.toNatClampNeg), .int r8, .int (((h.2.1 106 k.toNatClampNeg) / 100) - ((h.2.1 106 k.toNatClampNeg) / 100) / 10 * 10)] [] (hpI h7 109 n.toNatClampNeg 0) Q)) ∧ (condB .ne r8 ((h.2.1 106 k.toNatClampNeg) - (h.2.1 106 k.toNatClampNeg) / 100 * 100) = false → (inB n 100 = true ∧ Ends X (dp + 1) 137 11 [.ref 93, .int c, .int p, .int l, .int (n + 1), .int (k + 1), .int (h.2.1 106 k.toNatClampNeg), .int r8, .int (((h.2.1 106 k.toNatClampNeg) / 100) - ((h.2.1 106 k.toNatClampNeg) / 100) / 10 * 10)] [] (hpI h7 109 n.toNatClampNeg 1) Q)))))) ∧ (condB .ne (((h.2.1 106 k.toNatClampNeg) / 100) - ((h.2.1 106 k.toNatClampNeg) / 100) / 10 * 10) 0 = false → ((condB .ge r8 ((h.2.1 106 k.toNatClampNeg) - (h.2.1 106 k.toNatClampNeg) / 100 * 100) = true → (inB n 100 = true ∧ Ends X (dp + 1) 137 11 [.ref 93, .int c, .int p, .int l, .int (n + 1), .int (k + 1), .int (h.2.1 106 k.toNatClampNeg), .int r8, .int (((h.2.1 106 k.toNatClampNeg) / 100) - ((h.2.1 106 k.toNatClampNeg) / 100) / 10 * 10)] [] (hpI h7 109 n.toNatClampNeg 0) Q)) ∧ (condB .ge r8 ((h.2.1 106 k.toNatClampNeg) - (h.2.1 106 k.toNatClampNeg) / 100 * 100) = false → (inB n 100 = true ∧ Ends X (dp + 1) 137 11 [.ref 93, .int c, .int p, .int l, .int (n + 1), .int (k + 1), .int (h.2.1 106 k.toNatClampNeg), .int r8, .int (((h.2.1 106 k.toNatClampNeg) / 100) - ((h.2.1 106 k.toNatClampNeg) / 100) / 10 * 10)] [] (hpI h7 109 n.toNatClampNeg 1) Q))))))) ∧ (condB .ge (h.2.1 106 k.toNatClampNeg) 0 = false → ((condB .ne (h.2.1 106 k.toNatClampNeg) (-38) = true → (inB ((n + (-1)) - 1) 100 = true ∧ ((condB .ne (h.2.1 109 ((n + (-1)) - 1).toNatClampNeg) 0 = true → (inB ((n + (-1)) - 1) 100 = true ∧ Ends X (dp + 1) 137 11 [.ref 93, .int c, .int p, .int l, .int (n + (-1)), .int (k + 1), .int (h.2.1 106 k.toNatClampNeg), b, d] [] (hpI h 109 ((n + (-1)) - 1).toNatClampNeg 1) Q)) ∧ (condB .ne (h.2.1 109 ((n + (-1)) - 1).toNatClampNeg) 0 = false → (inB (n + (-1)) 100 = true ∧ ((condB .eq (h.2.1 109 (n + (-1)).toNatClampNeg) 0 = true → (inB ((n + (-1)) - 1) 100 = true ∧ Ends X (dp + 1) 137 11 [.ref 93, .int c, .int p, .int l, .int (n + (-1)), .int (k + 1), .int (h.2.1 106 k.toNatClampNeg), b, d] [] (hpI h 109 ((n + (-1)) - 1).toNatClampNeg 0) Q)) ∧ (condB .eq (h.2.1 109 (n + (-1)).toNatClampNeg) 0 = false → (inB ((n + (-1)) - 1) 100 = true ∧ Ends X (dp + 1) 137 11 [.ref 93, .int c, .int p, .int l, .int (n + (-1)), .int (k + 1), .int (h.2.1 106 k.toNatClampNeg), b, d] [] (hpI h 109 ((n + (-1)) - 1).toNatClampNeg 1) Q)))))))) ∧ (condB .ne (h.2.1 106 k.toNatClampNeg) (-38) = false → (inB ((n + (-1)) - 1) 100 = true ∧ ((condB .eq (h.2.1 109 ((n + (-1)) - 1).toNatClampNeg) 0 = true → (inB ((n + (-1)) - 1) 100 = true ∧ Ends X (dp + 1) 137 11 [.ref 93, .int c, .int p, .int l, .int (n + (-1)), .int (k + 1), .int (h.2.1 106 k.toNatClampNeg), b, d] [] (hpI h 109 ((n + (-1)) - 1).toNatClampNeg 0) Q)) ∧ (condB .eq (h.2.1 109 ((n + (-1)) - 1).toNatClampNeg) 0 = false → (inB (n + (-1)) 100 = true ∧ ((condB .eq (h.2.1 109 (n + (-1)).toNatClampNeg) 0 = true → (inB ((n + (-1)) - 1) 100 = true ∧ Ends X (dp + 1) 137 11 [.ref 93, .int c, .int p, .int l, .int (n + (-1)), .int (k + 1), .int (h.2.1 106 k.toNatClampNeg), b, d] [] (hpI h 109 ((n + (-1)) - 1).toNatClampNeg 0) Q)) ∧ (condB .eq (h.2.1 109 (n + (-1)).toNatClampNeg) 0 = false → (inB ((n + (-1)) - 1) 100 = true ∧ Ends X (dp + 1) 137 11 [.ref 93, .int c, .int p, .int l, .int (n + (-1)), .int (k + 1), .int (h.2.1 106 k.toNatClampNeg), b, d] [] (hpI h 109 ((n + (-1)) - 1).toNatClampNeg 1) Q)))))))))))) ∧ (condB .ne (h.2.1 106 k.toNatClampNeg) (-33) = false → (inB (n - 1) 100 = true ∧ ((condB .ne (h.2.1 109 (n - 1).toNatClampNeg) 0 = true → (inB (n - 1) 100 = true ∧ Ends X (dp + 1) 137 11 [.ref 93, .int c, .int p, .int l, .int n, .int (k + 1), .int (h.2.1 106 k.toNatClampNeg), b, d] [] (hpI h 109 (n - 1).toNatClampNeg 0) Q)) ∧ (condB .ne (h.2.1 109 (n - 1).toNatClampNeg) 0 = false → (inB (n - 1) 100 = true ∧ Ends X (dp + 1) 137 11 [.ref 93, .int c, .int p, .int l, .int n, .int (k + 1), .int (h.2.1 106 k.toNatClampNeg), b, d] [] (hpI h 109 (n - 1).toNatClampNeg 1) Q))))))))))) :
    Ends X (dp + 1) 137 11 [.ref 93, .int c, .int p, .int l, .int n, .int k, a, b, d] [] h Q := by
  have ra : ∀ {a : Nat}, a < 1000 → a ≤ OLDB := fun h => by have := OLDB_eq; omega
  refine e_iload (show pAt 137 11 = some (11, .iload 5, 2, []) from by decide +kernel) rfl ?_
  refine e_aload_n (show pAt 137 13 = some (13, .aload_n 0, 1, []) from by decide +kernel) rfl (ra (by decide)) ?_
  refine e_gR (show pAt 137 14 = some (14, .getfield 68, 3, [7, 19, 0, 4142]) from by decide +kernel) (show HS h from hs) rfl (by decide) (hs_ref (show HS h from hs) rfl) ?_
  refine e_iload_n (show pAt 137 17 = some (17, .iload_n 1, 1, []) from by decide +kernel) rfl ?_
  obtain ⟨c1, vc⟩ := vc
  refine e_ald (show pAt 137 18 = some (18, .iaload, 1, []) from by decide +kernel) (show HS h from hs) (by decide) c1 ?_
  refine e_icmp (t := 253) (show pAt 137 19 = some (19, .if_icmp .ge 234, 3, []) from by decide +kernel) rfl (fun c2 => ?_) (fun c2 => ?_)
  · replace vc := vc.1 c2
    refine e_aload_n (show pAt 137 253 = some (253, .aload_n 0, 1, []) from by decide +kernel) rfl (ra (by decide)) ?_
    refine e_gR (show pAt 137 254 = some (254, .getfield 89, 3, [7, 26, 0, 4149]) from by decide +kernel) (show HS h from hs) rfl (by decide) (hs_ref (show HS h from hs) rfl) ?_
    refine e_iconst (c := 0) (show pAt 137 257 = some (257, .iconst 0, 1, []) from by decide +kernel) (by decide) ?_
    obtain ⟨c3, vc⟩ := vc
    refine e_bald (show pAt 137 258 = some (258, .baload, 1, []) from by decide +kernel) (show HS h from hs) (by decide) c3 ?_
    exact e_retZ (show pAt 137 259 = some (259, .ireturn, 1, []) from by decide +kernel) rfl vc.1 vc.2
  · replace vc := vc.2 c2
    refine e_aload_n (show pAt 137 22 = some (22, .aload_n 0, 1, []) from by decide +kernel) rfl (ra (by decide)) ?_
    refine e_gR (show pAt 137 23 = some (23, .getfield 71, 3, [7, 20, 0, 4143]) from by decide +kernel) (show HS h from hs) rfl (by decide) (hs_ref (show HS h from hs) rfl) ?_
    refine e_iload (show pAt 137 26 = some (26, .iload 5, 2, []) from by decide +kernel) rfl ?_
    obtain ⟨c4, vc⟩ := vc
    refine e_ald (show pAt 137 28 = some (28, .iaload, 1, []) from by decide +kernel) (show HS h from hs) (by decide) c4 ?_
    refine e_istore (show pAt 137 29 = some (29, .istore 6, 2, []) from by decide +kernel) ⟨Nat.le_of_ble_eq_true rfl, rfl⟩ rfl ?_
    refine e_iload (show pAt 137 31 = some (31, .iload 6, 2, []) from by decide +kernel) rfl ?_
    refine e_bipush (c := (-33)) (show pAt 137 33 = some (33, .bipush (-33), 2, []) from by decide +kernel) (by decide) ?_
    refine e_icmp (t := 67) (show pAt 137 35 = some (35, .if_icmp .ne 32, 3, []) from by decide +kernel) rfl (fun c5 => ?_) (fun c5 => ?_)
    · replace vc := vc.1 c5
      refine e_iload (show pAt 137 67 = some (67, .iload 6, 2, []) from by decide +kernel) rfl ?_
      refine e_if (t := 151) (show pAt 137 69 = some (69, .ifCond .ge 82, 3, []) from by decide +kernel) rfl (fun c6 => ?_) (fun c6 => ?_)
      · replace vc := vc.1 c6
        refine e_aload_n (show pAt 137 151 = some (151, .aload_n 0, 1, []) from by decide +kernel) rfl (ra (by decide)) ?_
        refine e_iload (show pAt 137 152 = some (152, .iload 6, 2, []) from by decide +kernel) rfl ?_
        refine e_sipush (c := 1000) (show pAt 137 154 = some (154, .sipush 1000, 3, []) from by decide +kernel) (by decide) ?_
        refine e_idiv (show pAt 137 157 = some (157, .idiv, 1, []) from by decide +kernel) (by decide) ?_
        refine e_iload_n (show pAt 137 158 = some (158, .iload_n 2, 1, []) from by decide +kernel) rfl ?_
        refine e_iload_n (show pAt 137 159 = some (159, .iload_n 3, 1, []) from by decide +kernel) rfl ?_
        refine Ends.call (show pAt 137 160 = some (160, .invokevirtual 261, 3, [136, 4, 0, 0, 5221, 5223, 83]) from by decide +kernel) (isRet_none rfl) rfl (call_this (show HS h from hs) rfl rfl (by decide)) (Ends.mono vc ?_)
        rintro _ h7 ⟨r8, rfl, hs_h7, vc⟩
        refine e_istore (show pAt 137 163 = some (163, .istore 7, 2, []) from by decide +kernel) ⟨Nat.le_of_ble_eq_true rfl, rfl⟩ rfl ?_
        refine e_iload (show pAt 137 165 = some (165, .iload 6, 2, []) from by decide +kernel) rfl ?_
        refine e_bipush (c := 100) (show pAt 137 167 = some (167, .bipush 100, 2, []) from by decide +kernel) (by decide) ?_
        refine e_idiv (show pAt 137 169 = some (169, .idiv, 1, []) from by decide +kernel) (by decide) ?_
        refine e_bipush (c := 10) (show pAt 137 170 = some (170, .bipush 10, 2, []) from by decide +kernel) (by decide) ?_
        refine e_irem (show pAt 137 172 = some (172, .irem, 1, []) from by decide +kernel) (by decide) ?_
        refine e_istore (show pAt 137 173 = some (173, .istore 8, 2, []) from by decide +kernel) ⟨Nat.le_of_ble_eq_true rfl, rfl⟩ rfl ?_
        refine e_aload_n (show pAt 137 175 = some (175, .aload_n 0, 1, []) from by decide +kernel) rfl (ra (by decide)) ?_
        refine e_gR (show pAt 137 176 = some (176, .getfield 89, 3, [7, 26, 0, 4149]) from by decide +kernel) (show HS h7 from hs_h7) rfl (by decide) (hs_ref (show HS h7 from hs_h7) rfl) ?_
        refine e_iload (show pAt 137 179 = some (179, .iload 4, 2, []) from by decide +kernel) rfl ?_
        refine e_iload (show pAt 137 181 = some (181, .iload 8, 2, []) from by decide +kernel) rfl ?_
        refine e_if (t := 204) (show pAt 137 183 = some (183, .ifCond .ne 21, 3, []) from by decide +kernel) rfl (fun c10 => ?_) (fun c10 => ?_)
        · replace vc := vc.1 c10
          refine e_iload (show pAt 137 204 = some (204, .iload 8, 2, []) from by decide +kernel) rfl ?_
          refine e_iconst (c := 1) (show pAt 137 206 = some (206, .iconst 1, 1, []) from by decide +kernel) (by decide) ?_
          refine e_icmp (t := 228) (show pAt 137 207 = some (207, .if_icmp .ne 21, 3, []) from by decide +kernel) rfl (fun c11 => ?_) (fun c11 => ?_)
          · replace vc := vc.1 c11
            refine e_iload (show pAt 137 228 = some (228, .iload 7, 2, []) from by decide +kernel) rfl ?_
            refine e_iload (show pAt 137 230 = some (230, .iload 6, 2, []) from by decide +kernel) rfl ?_
            refine e_bipush (c := 100) (show pAt 137 232 = some (232, .bipush 100, 2, []) from by decide +kernel) (by decide) ?_
            refine e_irem (show pAt 137 234 = some (234, .irem, 1, []) from by decide +kernel) (by decide) ?_
            refine e_icmp (t := 242) (show pAt 137 235 = some (235, .if_icmp .le 7, 3, []) from by decide +kernel) rfl (fun c12 => ?_) (fun c12 => ?_)
            · replace vc := vc.1 c12
              refine e_iconst (c := 0) (show pAt 137 242 = some (242, .iconst 0, 1, []) from by decide +kernel) (by decide) ?_
              obtain ⟨c13, vc⟩ := vc
              refine e_bast (show pAt 137 243 = some (243, .bastore, 1, []) from by decide +kernel) (show HS h7 from hs_h7) (by decide) c13 (by decide) ?_
              refine e_iinc (c := 1) (show pAt 137 244 = some (244, .iinc 4 1, 3, []) from by decide +kernel) rfl rfl (by decide) rfl ?_
              refine e_iinc (c := 1) (show pAt 137 247 = some (247, .iinc 5 1, 3, []) from by decide +kernel) rfl rfl (by decide) rfl ?_
              refine e_goto (t := 11) (show pAt 137 250 = some (250, .goto (-239), 3, []) from by decide +kernel) rfl ?_
              exact vc
            · replace vc := vc.2 c12
              refine e_iconst (c := 1) (show pAt 137 238 = some (238, .iconst 1, 1, []) from by decide +kernel) (by decide) ?_
              refine e_goto (t := 243) (show pAt 137 239 = some (239, .goto 4, 3, []) from by decide +kernel) rfl ?_
              obtain ⟨c14, vc⟩ := vc
              refine e_bast (show pAt 137 243 = some (243, .bastore, 1, []) from by decide +kernel) (show HS h7 from hs_h7) (by decide) c14 (by decide) ?_
              refine e_iinc (c := 1) (show pAt 137 244 = some (244, .iinc 4 1, 3, []) from by decide +kernel) rfl rfl (by decide) rfl ?_
              refine e_iinc (c := 1) (show pAt 137 247 = some (247, .iinc 5 1, 3, []) from by decide +kernel) rfl rfl (by decide) rfl ?_
              refine e_goto (t := 11) (show pAt 137 250 = some (250, .goto (-239), 3, []) from by decide +kernel) rfl ?_
              exact vc
          · replace vc := vc.2 c11
            refine e_iload (show pAt 137 210 = some (210, .iload 7, 2, []) from by decide +kernel) rfl ?_
            refine e_iload (show pAt 137 212 = some (212, .iload 6, 2, []) from by decide +kernel) rfl ?_
            refine e_bipush (c := 100) (show pAt 137 214 = some (214, .bipush 100, 2, []) from by decide +kernel) (by decide) ?_
            refine e_irem (show pAt 137 216 = some (216, .irem, 1, []) from by decide +kernel) (by decide) ?_
            refine e_icmp (t := 224) (show pAt 137 217 = some (217, .if_icmp .ne 7, 3, []) from by decide +kernel) rfl (fun c15 => ?_) (fun c15 => ?_)
            · replace vc := vc.1 c15
              refine e_iconst (c := 0) (show pAt 137 224 = some (224, .iconst 0, 1, []) from by decide +kernel) (by decide) ?_
              refine e_goto (t := 243) (show pAt 137 225 = some (225, .goto 18, 3, []) from by decide +kernel) rfl ?_
              obtain ⟨c16, vc⟩ := vc
              refine e_bast (show pAt 137 243 = some (243, .bastore, 1, []) from by decide +kernel) (show HS h7 from hs_h7) (by decide) c16 (by decide) ?_
              refine e_iinc (c := 1) (show pAt 137 244 = some (244, .iinc 4 1, 3, []) from by decide +kernel) rfl rfl (by decide) rfl ?_
              refine e_iinc (c := 1) (show pAt 137 247 = some (247, .iinc 5 1, 3, []) from by decide +kernel) rfl rfl (by decide) rfl ?_
              refine e_goto (t := 11) (show pAt 137 250 = some (250, .goto (-239), 3, []) from by decide +kernel) rfl ?_
              exact vc
            · replace vc := vc.2 c15
              refine e_iconst (c := 1) (show pAt 137 220 = some (220, .iconst 1, 1, []) from by decide +kernel) (by decide) ?_
              refine e_goto (t := 243) (show pAt 137 221 = some (221, .goto 22, 3, []) from by decide +kernel) rfl ?_
              obtain ⟨c17, vc⟩ := vc
              refine e_bast (show pAt 137 243 = some (243, .bastore, 1, []) from by decide +kernel) (show HS h7 from hs_h7) (by decide) c17 (by decide) ?_
              refine e_iinc (c := 1) (show pAt 137 244 = some (244, .iinc 4 1, 3, []) from by decide +kernel) rfl rfl (by decide) rfl ?_
              refine e_iinc (c := 1) (show pAt 137 247 = some (247, .iinc 5 1, 3, []) from by decide +kernel) rfl rfl (by decide) rfl ?_
              refine e_goto (t := 11) (show pAt 137 250 = some (250, .goto (-239), 3, []) from by decide +kernel) rfl ?_
              exact vc
        · replace vc := vc.2 c10
          refine e_iload (show pAt 137 186 = some (186, .iload 7, 2, []) from by decide +kernel) rfl ?_
          refine e_iload (show pAt 137 188 = some (188, .iload 6, 2, []) from by decide +kernel) rfl ?_
          refine e_bipush (c := 100) (show pAt 137 190 = some (190, .bipush 100, 2, []) from by decide +kernel) (by decide) ?_
          refine e_irem (show pAt 137 192 = some (192, .irem, 1, []) from by decide +kernel) (by decide) ?_
          refine e_icmp (t := 200) (show pAt 137 193 = some (193, .if_icmp .ge 7, 3, []) from by decide +kernel) rfl (fun c18 => ?_) (fun c18 => ?_)
          · replace vc := vc.1 c18
            refine e_iconst (c := 0) (show pAt 137 200 = some (200, .iconst 0, 1, []) from by decide +kernel) (by decide) ?_
            refine e_goto (t := 243) (show pAt 137 201 = some (201, .goto 42, 3, []) from by decide +kernel) rfl ?_
            obtain ⟨c19, vc⟩ := vc
            refine e_bast (show pAt 137 243 = some (243, .bastore, 1, []) from by decide +kernel) (show HS h7 from hs_h7) (by decide) c19 (by decide) ?_
            refine e_iinc (c := 1) (show pAt 137 244 = some (244, .iinc 4 1, 3, []) from by decide +kernel) rfl rfl (by decide) rfl ?_
            refine e_iinc (c := 1) (show pAt 137 247 = some (247, .iinc 5 1, 3, []) from by decide +kernel) rfl rfl (by decide) rfl ?_
            refine e_goto (t := 11) (show pAt 137 250 = some (250, .goto (-239), 3, []) from by decide +kernel) rfl ?_
            exact vc
          · replace vc := vc.2 c18
            refine e_iconst (c := 1) (show pAt 137 196 = some (196, .iconst 1, 1, []) from by decide +kernel) (by decide) ?_
            refine e_goto (t := 243) (show pAt 137 197 = some (197, .goto 46, 3, []) from by decide +kernel) rfl ?_
            obtain ⟨c20, vc⟩ := vc
            refine e_bast (show pAt 137 243 = some (243, .bastore, 1, []) from by decide +kernel) (show HS h7 from hs_h7) (by decide) c20 (by decide) ?_
            refine e_iinc (c := 1) (show pAt 137 244 = some (244, .iinc 4 1, 3, []) from by decide +kernel) rfl rfl (by decide) rfl ?_
            refine e_iinc (c := 1) (show pAt 137 247 = some (247, .iinc 5 1, 3, []) from by decide +kernel) rfl rfl (by decide) rfl ?_
            refine e_goto (t := 11) (show pAt 137 250 = some (250, .goto (-239), 3, []) from by decide +kernel) rfl ?_
            exact vc
      · replace vc := vc.2 c6
        refine e_iinc (c := (-1)) (show pAt 137 72 = some (72, .iinc 4 (-1), 3, []) from by decide +kernel) rfl rfl (by decide) rfl ?_
        refine e_aload_n (show pAt 137 75 = some (75, .aload_n 0, 1, []) from by decide +kernel) rfl (ra (by decide)) ?_
        refine e_gR (show pAt 137 76 = some (76, .getfield 89, 3, [7, 26, 0, 4149]) from by decide +kernel) (show HS h from hs) rfl (by decide) (hs_ref (show HS h from hs) rfl) ?_
        refine e_iload (show pAt 137 79 = some (79, .iload 4, 2, []) from by decide +kernel) rfl ?_
        refine e_iconst (c := 1) (show pAt 137 81 = some (81, .iconst 1, 1, []) from by decide +kernel) (by decide) ?_
        refine e_isub (show pAt 137 82 = some (82, .isub, 1, []) from by decide +kernel) ?_
        refine e_iload (show pAt 137 83 = some (83, .iload 6, 2, []) from by decide +kernel) rfl ?_
        refine e_bipush (c := (-38)) (show pAt 137 85 = some (85, .bipush (-38), 2, []) from by decide +kernel) (by decide) ?_
        refine e_icmp (t := 120) (show pAt 137 87 = some (87, .if_icmp .ne 33, 3, []) from by decide +kernel) rfl (fun c21 => ?_) (fun c21 => ?_)
        · replace vc := vc.1 c21
          refine e_aload_n (show pAt 137 120 = some (120, .aload_n 0, 1, []) from by decide +kernel) rfl (ra (by decide)) ?_
          refine e_gR (show pAt 137 121 = some (121, .getfield 89, 3, [7, 26, 0, 4149]) from by decide +kernel) (show HS h from hs) rfl (by decide) (hs_ref (show HS h from hs) rfl) ?_
          refine e_iload (show pAt 137 124 = some (124, .iload 4, 2, []) from by decide +kernel) rfl ?_
          refine e_iconst (c := 1) (show pAt 137 126 = some (126, .iconst 1, 1, []) from by decide +kernel) (by decide) ?_
          refine e_isub (show pAt 137 127 = some (127, .isub, 1, []) from by decide +kernel) ?_
          obtain ⟨c22, vc⟩ := vc
          refine e_bald (show pAt 137 128 = some (128, .baload, 1, []) from by decide +kernel) (show HS h from hs) (by decide) c22 ?_
          refine e_if (t := 142) (show pAt 137 129 = some (129, .ifCond .ne 13, 3, []) from by decide +kernel) rfl (fun c23 => ?_) (fun c23 => ?_)
          · replace vc := vc.1 c23
            refine e_iconst (c := 1) (show pAt 137 142 = some (142, .iconst 1, 1, []) from by decide +kernel) (by decide) ?_
            refine e_goto (t := 147) (show pAt 137 143 = some (143, .goto 4, 3, []) from by decide +kernel) rfl ?_
            obtain ⟨c24, vc⟩ := vc
            refine e_bast (show pAt 137 147 = some (147, .bastore, 1, []) from by decide +kernel) (show HS h from hs) (by decide) c24 (by decide) ?_
            refine e_goto (t := 247) (show pAt 137 148 = some (148, .goto 99, 3, []) from by decide +kernel) rfl ?_
            refine e_iinc (c := 1) (show pAt 137 247 = some (247, .iinc 5 1, 3, []) from by decide +kernel) rfl rfl (by decide) rfl ?_
            refine e_goto (t := 11) (show pAt 137 250 = some (250, .goto (-239), 3, []) from by decide +kernel) rfl ?_
            exact vc
          · replace vc := vc.2 c23
            refine e_aload_n (show pAt 137 132 = some (132, .aload_n 0, 1, []) from by decide +kernel) rfl (ra (by decide)) ?_
            refine e_gR (show pAt 137 133 = some (133, .getfield 89, 3, [7, 26, 0, 4149]) from by decide +kernel) (show HS h from hs) rfl (by decide) (hs_ref (show HS h from hs) rfl) ?_
            refine e_iload (show pAt 137 136 = some (136, .iload 4, 2, []) from by decide +kernel) rfl ?_
            obtain ⟨c25, vc⟩ := vc
            refine e_bald (show pAt 137 138 = some (138, .baload, 1, []) from by decide +kernel) (show HS h from hs) (by decide) c25 ?_
            refine e_if (t := 146) (show pAt 137 139 = some (139, .ifCond .eq 7, 3, []) from by decide +kernel) rfl (fun c26 => ?_) (fun c26 => ?_)
            · replace vc := vc.1 c26
              refine e_iconst (c := 0) (show pAt 137 146 = some (146, .iconst 0, 1, []) from by decide +kernel) (by decide) ?_
              obtain ⟨c27, vc⟩ := vc
              refine e_bast (show pAt 137 147 = some (147, .bastore, 1, []) from by decide +kernel) (show HS h from hs) (by decide) c27 (by decide) ?_
              refine e_goto (t := 247) (show pAt 137 148 = some (148, .goto 99, 3, []) from by decide +kernel) rfl ?_
              refine e_iinc (c := 1) (show pAt 137 247 = some (247, .iinc 5 1, 3, []) from by decide +kernel) rfl rfl (by decide) rfl ?_
              refine e_goto (t := 11) (show pAt 137 250 = some (250, .goto (-239), 3, []) from by decide +kernel) rfl ?_
              exact vc
            · replace vc := vc.2 c26
              refine e_iconst (c := 1) (show pAt 137 142 = some (142, .iconst 1, 1, []) from by decide +kernel) (by decide) ?_
              refine e_goto (t := 147) (show pAt 137 143 = some (143, .goto 4, 3, []) from by decide +kernel) rfl ?_
              obtain ⟨c28, vc⟩ := vc
              refine e_bast (show pAt 137 147 = some (147, .bastore, 1, []) from by decide +kernel) (show HS h from hs) (by decide) c28 (by decide) ?_
              refine e_goto (t := 247) (show pAt 137 148 = some (148, .goto 99, 3, []) from by decide +kernel) rfl ?_
              refine e_iinc (c := 1) (show pAt 137 247 = some (247, .iinc 5 1, 3, []) from by decide +kernel) rfl rfl (by decide) rfl ?_
              refine e_goto (t := 11) (show pAt 137 250 = some (250, .goto (-239), 3, []) from by decide +kernel) rfl ?_
              exact vc
        · replace vc := vc.2 c21
          refine e_aload_n (show pAt 137 90 = some (90, .aload_n 0, 1, []) from by decide +kernel) rfl (ra (by decide)) ?_
          refine e_gR (show pAt 137 91 = some (91, .getfield 89, 3, [7, 26, 0, 4149]) from by decide +kernel) (show HS h from hs) rfl (by decide) (hs_ref (show HS h from hs) rfl) ?_
          refine e_iload (show pAt 137 94 = some (94, .iload 4, 2, []) from by decide +kernel) rfl ?_
          refine e_iconst (c := 1) (show pAt 137 96 = some (96, .iconst 1, 1, []) from by decide +kernel) (by decide) ?_
          refine e_isub (show pAt 137 97 = some (97, .isub, 1, []) from by decide +kernel) ?_
          obtain ⟨c29, vc⟩ := vc
          refine e_bald (show pAt 137 98 = some (98, .baload, 1, []) from by decide +kernel) (show HS h from hs) (by decide) c29 ?_
          refine e_if (t := 116) (show pAt 137 99 = some (99, .ifCond .eq 17, 3, []) from by decide +kernel) rfl (fun c30 => ?_) (fun c30 => ?_)
          · replace vc := vc.1 c30
            refine e_iconst (c := 0) (show pAt 137 116 = some (116, .iconst 0, 1, []) from by decide +kernel) (by decide) ?_
            refine e_goto (t := 147) (show pAt 137 117 = some (117, .goto 30, 3, []) from by decide +kernel) rfl ?_
            obtain ⟨c31, vc⟩ := vc
            refine e_bast (show pAt 137 147 = some (147, .bastore, 1, []) from by decide +kernel) (show HS h from hs) (by decide) c31 (by decide) ?_
            refine e_goto (t := 247) (show pAt 137 148 = some (148, .goto 99, 3, []) from by decide +kernel) rfl ?_
            refine e_iinc (c := 1) (show pAt 137 247 = some (247, .iinc 5 1, 3, []) from by decide +kernel) rfl rfl (by decide) rfl ?_
            refine e_goto (t := 11) (show pAt 137 250 = some (250, .goto (-239), 3, []) from by decide +kernel) rfl ?_
            exact vc
          · replace vc := vc.2 c30
            refine e_aload_n (show pAt 137 102 = some (102, .aload_n 0, 1, []) from by decide +kernel) rfl (ra (by decide)) ?_
            refine e_gR (show pAt 137 103 = some (103, .getfield 89, 3, [7, 26, 0, 4149]) from by decide +kernel) (show HS h from hs) rfl (by decide) (hs_ref (show HS h from hs) rfl) ?_
            refine e_iload (show pAt 137 106 = some (106, .iload 4, 2, []) from by decide +kernel) rfl ?_
            obtain ⟨c32, vc⟩ := vc
            refine e_bald (show pAt 137 108 = some (108, .baload, 1, []) from by decide +kernel) (show HS h from hs) (by decide) c32 ?_
            refine e_if (t := 116) (show pAt 137 109 = some (109, .ifCond .eq 7, 3, []) from by decide +kernel) rfl (fun c33 => ?_) (fun c33 => ?_)
            · replace vc := vc.1 c33
              refine e_iconst (c := 0) (show pAt 137 116 = some (116, .iconst 0, 1, []) from by decide +kernel) (by decide) ?_
              refine e_goto (t := 147) (show pAt 137 117 = some (117, .goto 30, 3, []) from by decide +kernel) rfl ?_
              obtain ⟨c34, vc⟩ := vc
              refine e_bast (show pAt 137 147 = some (147, .bastore, 1, []) from by decide +kernel) (show HS h from hs) (by decide) c34 (by decide) ?_
              refine e_goto (t := 247) (show pAt 137 148 = some (148, .goto 99, 3, []) from by decide +kernel) rfl ?_
              refine e_iinc (c := 1) (show pAt 137 247 = some (247, .iinc 5 1, 3, []) from by decide +kernel) rfl rfl (by decide) rfl ?_
              refine e_goto (t := 11) (show pAt 137 250 = some (250, .goto (-239), 3, []) from by decide +kernel) rfl ?_
              exact vc
            · replace vc := vc.2 c33
              refine e_iconst (c := 1) (show pAt 137 112 = some (112, .iconst 1, 1, []) from by decide +kernel) (by decide) ?_
              refine e_goto (t := 147) (show pAt 137 113 = some (113, .goto 34, 3, []) from by decide +kernel) rfl ?_
              obtain ⟨c35, vc⟩ := vc
              refine e_bast (show pAt 137 147 = some (147, .bastore, 1, []) from by decide +kernel) (show HS h from hs) (by decide) c35 (by decide) ?_
              refine e_goto (t := 247) (show pAt 137 148 = some (148, .goto 99, 3, []) from by decide +kernel) rfl ?_
              refine e_iinc (c := 1) (show pAt 137 247 = some (247, .iinc 5 1, 3, []) from by decide +kernel) rfl rfl (by decide) rfl ?_
              refine e_goto (t := 11) (show pAt 137 250 = some (250, .goto (-239), 3, []) from by decide +kernel) rfl ?_
              exact vc
    · replace vc := vc.2 c5
      refine e_aload_n (show pAt 137 38 = some (38, .aload_n 0, 1, []) from by decide +kernel) rfl (ra (by decide)) ?_
      refine e_gR (show pAt 137 39 = some (39, .getfield 89, 3, [7, 26, 0, 4149]) from by decide +kernel) (show HS h from hs) rfl (by decide) (hs_ref (show HS h from hs) rfl) ?_
      refine e_iload (show pAt 137 42 = some (42, .iload 4, 2, []) from by decide +kernel) rfl ?_
      refine e_iconst (c := 1) (show pAt 137 44 = some (44, .iconst 1, 1, []) from by decide +kernel) (by decide) ?_
      refine e_isub (show pAt 137 45 = some (45, .isub, 1, []) from by decide +kernel) ?_
      refine e_aload_n (show pAt 137 46 = some (46, .aload_n 0, 1, []) from by decide +kernel) rfl (ra (by decide)) ?_
      refine e_gR (show pAt 137 47 = some (47, .getfield 89, 3, [7, 26, 0, 4149]) from by decide +kernel) (show HS h from hs) rfl (by decide) (hs_ref (show HS h from hs) rfl) ?_
      refine e_iload (show pAt 137 50 = some (50, .iload 4, 2, []) from by decide +kernel) rfl ?_
      refine e_iconst (c := 1) (show pAt 137 52 = some (52, .iconst 1, 1, []) from by decide +kernel) (by decide) ?_
      refine e_isub (show pAt 137 53 = some (53, .isub, 1, []) from by decide +kernel) ?_
      obtain ⟨c36, vc⟩ := vc
      refine e_bald (show pAt 137 54 = some (54, .baload, 1, []) from by decide +kernel) (show HS h from hs) (by decide) c36 ?_
      refine e_if (t := 62) (show pAt 137 55 = some (55, .ifCond .ne 7, 3, []) from by decide +kernel) rfl (fun c37 => ?_) (fun c37 => ?_)
      · replace vc := vc.1 c37
        refine e_iconst (c := 0) (show pAt 137 62 = some (62, .iconst 0, 1, []) from by decide +kernel) (by decide) ?_
        obtain ⟨c38, vc⟩ := vc
        refine e_bast (show pAt 137 63 = some (63, .bastore, 1, []) from by decide +kernel) (show HS h from hs) (by decide) c38 (by decide) ?_
        refine e_goto (t := 247) (show pAt 137 64 = some (64, .goto 183, 3, []) from by decide +kernel) rfl ?_
        refine e_iinc (c := 1) (show pAt 137 247 = some (247, .iinc 5 1, 3, []) from by decide +kernel) rfl rfl (by decide) rfl ?_
        refine e_goto (t := 11) (show pAt 137 250 = some (250, .goto (-239), 3, []) from by decide +kernel) rfl ?_
        exact vc
      · replace vc := vc.2 c37
        refine e_iconst (c := 1) (show pAt 137 58 = some (58, .iconst 1, 1, []) from by decide +kernel) (by decide) ?_
        refine e_goto (t := 63) (show pAt 137 59 = some (59, .goto 4, 3, []) from by decide +kernel) rfl ?_
        obtain ⟨c39, vc⟩ := vc
        refine e_bast (show pAt 137 63 = some (63, .bastore, 1, []) from by decide +kernel) (show HS h from hs) (by decide) c39 (by decide) ?_
        refine e_goto (t := 247) (show pAt 137 64 = some (64, .goto 183, 3, []) from by decide +kernel) rfl ?_
        refine e_iinc (c := 1) (show pAt 137 247 = some (247, .iinc 5 1, 3, []) from by decide +kernel) rfl rfl (by decide) rfl ?_
        refine e_goto (t := 11) (show pAt 137 250 = some (250, .goto (-239), 3, []) from by decide +kernel) rfl ?_
        exact vc

theorem w_lo0 {X : Scr} {dp : Nat} {h : Hp} {Q : Option Value → Hp → Prop}  (hs : HS h)
    (vc : Ends X dp 154 7 [.ref 93, .int 0, .retAddr 0] [] (hpI h 93 34 0) Q) :
    Ends X dp 154 0 [.ref 93, .retAddr 0, .retAddr 0] [] h Q := by
  have ra : ∀ {a : Nat}, a < 1000 → a ≤ OLDB := fun h => by have := OLDB_eq; omega
  refine e_aload_n (show pAt 154 0 = some (0, .aload_n 0, 1, []) from by decide +kernel) rfl (ra (by decide)) ?_
  refine e_iconst (c := 0) (show pAt 154 1 = some (1, .iconst 0, 1, []) from by decide +kernel) (by decide) ?_
  refine e_pI (show pAt 154 2 = some (2, .putfield 115, 3, [7, 34, 0, 4157]) from by decide +kernel) (show HS h from hs) (by decide) (Or.inl rfl) ?_
  refine e_iconst (c := 0) (show pAt 154 5 = some (5, .iconst 0, 1, []) from by decide +kernel) (by decide) ?_
  refine e_istore_n (show pAt 154 6 = some (6, .istore_n 1, 1, []) from by decide +kernel) ⟨Nat.le_of_ble_eq_true rfl, rfl⟩ rfl ?_
  exact vc

theorem w_lo7 {X : Scr} {dp : Nat} {h : Hp} {Q : Option Value → Hp → Prop} (p : Int32) (a : Value) (hs : HS h)
    (vc : ((condB .ge p (h.2.1 93 0) = true → ((condB .ge (h.2.1 93 30) 0 = true → Ends X (dp + 1) 154 86 [.ref 93, .int 0, a] [] h Q) ∧ (condB .ge (h.2.1 93 30) 0 = false → Q none h))) ∧ (condB .ge p (h.2.1 93 0) = false → Ends X dp 139 0 [.ref 93, .int p] [] h (fun rv h3 => ∃ r4, rv = some (.int r4) ∧ HS h3 ∧ ((condB .eq r4 0 = true → Ends X (dp + 1) 154 7 [.ref 93, .int (p + 1), a] [] h3 Q) ∧ (condB .eq r4 0 = false → ((condB .ne p (h3.2.1 93 30) = true → Ends X (dp + 1) 154 36 [.ref 93, .int p, .int 0] [] h3 Q) ∧ (condB .ne p (h3.2.1 93 30) = false → Ends X (dp + 1) 154 7 [.ref 93, .int (p + 1), a] [] h3 Q)))))))) :
    Ends X (dp + 1) 154 7 [.ref 93, .int p, a] [] h Q := by
  have ra : ∀ {a : Nat}, a < 1000 → a ≤ OLDB := fun h => by have := OLDB_eq; omega
  refine e_iload_n (show pAt 154 7 = some (7, .iload_n 1, 1, []) from by decide +kernel) rfl ?_
  refine e_aload_n (show pAt 154 8 = some (8, .aload_n 0, 1, []) from by decide +kernel) rfl (ra (by decide)) ?_
  refine e_gI (show pAt 154 9 = some (9, .getfield 7, 3, [7, 0, 0, 4123]) from by decide +kernel) (show HS h from hs) rfl (by decide) ?_
  refine e_icmp (t := 76) (show pAt 154 12 = some (12, .if_icmp .ge 64, 3, []) from by decide +kernel) rfl (fun c1 => ?_) (fun c1 => ?_)
  · replace vc := vc.1 c1
    refine e_aload_n (show pAt 154 76 = some (76, .aload_n 0, 1, []) from by decide +kernel) rfl (ra (by decide)) ?_
    refine e_gI (show pAt 154 77 = some (77, .getfield 103, 3, [7, 30, 0, 4153]) from by decide +kernel) (show HS h from hs) rfl (by decide) ?_
    refine e_if (t := 84) (show pAt 154 80 = some (80, .ifCond .ge 4, 3, []) from by decide +kernel) rfl (fun c2 => ?_) (fun c2 => ?_)
    · replace vc := vc.1 c2
      refine e_iconst (c := 0) (show pAt 154 84 = some (84, .iconst 0, 1, []) from by decide +kernel) (by decide) ?_
      refine e_istore_n (show pAt 154 85 = some (85, .istore_n 1, 1, []) from by decide +kernel) ⟨Nat.le_of_ble_eq_true rfl, rfl⟩ rfl ?_
      exact vc
    · replace vc := vc.2 c2
      exact e_retV (show pAt 154 83 = some (83, .return_, 1, []) from by decide +kernel) rfl vc
  · replace vc := vc.2 c1
    refine e_aload_n (show pAt 154 15 = some (15, .aload_n 0, 1, []) from by decide +kernel) rfl (ra (by decide)) ?_
    refine e_iload_n (show pAt 154 16 = some (16, .iload_n 1, 1, []) from by decide +kernel) rfl ?_
    refine Ends.call (show pAt 154 17 = some (17, .invokevirtual 291, 3, [139, 2, 0, 0, 5169, 5171, 70]) from by decide +kernel) (isRet_none rfl) rfl (call_this (show HS h from hs) rfl rfl (by decide)) (Ends.mono vc ?_)
    rintro _ h3 ⟨r4, rfl, hs_h3, vc⟩
    refine e_if (t := 70) (show pAt 154 20 = some (20, .ifCond .eq 50, 3, []) from by decide +kernel) rfl (fun c6 => ?_) (fun c6 => ?_)
    · replace vc := vc.1 c6
      refine e_iinc (c := 1) (show pAt 154 70 = some (70, .iinc 1 1, 3, []) from by decide +kernel) rfl rfl (by decide) rfl ?_
      refine e_goto (t := 7) (show pAt 154 73 = some (73, .goto (-66), 3, []) from by decide +kernel) rfl ?_
      exact vc
    · replace vc := vc.2 c6
      refine e_iload_n (show pAt 154 23 = some (23, .iload_n 1, 1, []) from by decide +kernel) rfl ?_
      refine e_aload_n (show pAt 154 24 = some (24, .aload_n 0, 1, []) from by decide +kernel) rfl (ra (by decide)) ?_
      refine e_gI (show pAt 154 25 = some (25, .getfield 103, 3, [7, 30, 0, 4153]) from by decide +kernel) (show HS h3 from hs_h3) rfl (by decide) ?_
      refine e_icmp (t := 34) (show pAt 154 28 = some (28, .if_icmp .ne 6, 3, []) from by decide +kernel) rfl (fun c7 => ?_) (fun c7 => ?_)
      · replace vc := vc.1 c7
        refine e_iconst (c := 0) (show pAt 154 34 = some (34, .iconst 0, 1, []) from by decide +kernel) (by decide) ?_
        refine e_istore_n (show pAt 154 35 = some (35, .istore_n 2, 1, []) from by decide +kernel) ⟨Nat.le_of_ble_eq_true rfl, rfl⟩ rfl ?_
        exact vc
      · replace vc := vc.2 c7
        refine e_goto (t := 70) (show pAt 154 31 = some (31, .goto 39, 3, []) from by decide +kernel) rfl ?_
        refine e_iinc (c := 1) (show pAt 154 70 = some (70, .iinc 1 1, 3, []) from by decide +kernel) rfl rfl (by decide) rfl ?_
        refine e_goto (t := 7) (show pAt 154 73 = some (73, .goto (-66), 3, []) from by decide +kernel) rfl ?_
        exact vc

theorem w_lo36 {X : Scr} {dp : Nat} {h : Hp} {Q : Option Value → Hp → Prop} (p : Int32) (k : Int32) (hs : HS h)
    (vc : ((condB .ge k (h.2.1 93 34) = true → Ends X dp 153 0 [.ref 93, .int p, .int k, .retAddr 0] [] h (fun rv h2 => rv = none ∧ HS h2 ∧ Ends X (dp + 1) 154 7 [.ref 93, .int (p + 1), .int k] [] h2 Q)) ∧ (condB .ge k (h.2.1 93 34) = false → (inB k 7 = true ∧ Ends X dp 152 0 [.ref 93, .int (h.2.1 110 k.toNatClampNeg), .int p] [] h (fun rv h6 => ∃ r7, rv = some (.int r7) ∧ HS h6 ∧ ((condB .eq r7 0 = true → Ends X dp 153 0 [.ref 93, .int p, .int k, .retAddr 0] [] h6 (fun rv h10 => rv = none ∧ HS h10 ∧ Ends X (dp + 1) 154 7 [.ref 93, .int (p + 1), .int k] [] h10 Q)) ∧ (condB .eq r7 0 = false → Ends X (dp + 1) 154 36 [.ref 93, .int p, .int (k + 1)] [] h6 Q))))))) :
    Ends X (dp + 1) 154 36 [.ref 93, .int p, .int k] [] h Q := by
  have ra : ∀ {a : Nat}, a < 1000 → a ≤ OLDB := fun h => by have := OLDB_eq; omega
  refine e_iload_n (show pAt 154 36 = some (36, .iload_n 2, 1, []) from by decide +kernel) rfl ?_
  refine e_aload_n (show pAt 154 37 = some (37, .aload_n 0, 1, []) from by decide +kernel) rfl (ra (by decide)) ?_
  refine e_gI (show pAt 154 38 = some (38, .getfield 115, 3, [7, 34, 0, 4157]) from by decide +kernel) (show HS h from hs) rfl (by decide) ?_
  refine e_icmp (t := 64) (show pAt 154 41 = some (41, .if_icmp .ge 23, 3, []) from by decide +kernel) rfl (fun c1 => ?_) (fun c1 => ?_)
  · replace vc := vc.1 c1
    refine e_aload_n (show pAt 154 64 = some (64, .aload_n 0, 1, []) from by decide +kernel) rfl (ra (by decide)) ?_
    refine e_iload_n (show pAt 154 65 = some (65, .iload_n 1, 1, []) from by decide +kernel) rfl ?_
    refine e_iload_n (show pAt 154 66 = some (66, .iload_n 2, 1, []) from by decide +kernel) rfl ?_
    refine Ends.call (show pAt 154 67 = some (67, .invokevirtual 320, 3, [153, 3, 0, 0, 6025, 6027, 92]) from by decide +kernel) (isRet_none rfl) rfl (call_this (show HS h from hs) rfl rfl (by decide)) (Ends.mono vc ?_)
    rintro _ h2 ⟨rfl, hs_h2, vc⟩
    refine e_iinc (c := 1) (show pAt 154 70 = some (70, .iinc 1 1, 3, []) from by decide +kernel) rfl rfl (by decide) rfl ?_
    refine e_goto (t := 7) (show pAt 154 73 = some (73, .goto (-66), 3, []) from by decide +kernel) rfl ?_
    exact vc
  · replace vc := vc.2 c1
    refine e_aload_n (show pAt 154 44 = some (44, .aload_n 0, 1, []) from by decide +kernel) rfl (ra (by decide)) ?_
    refine e_aload_n (show pAt 154 45 = some (45, .aload_n 0, 1, []) from by decide +kernel) rfl (ra (by decide)) ?_
    refine e_gR (show pAt 154 46 = some (46, .getfield 112, 3, [7, 33, 0, 4156]) from by decide +kernel) (show HS h from hs) rfl (by decide) (hs_ref (show HS h from hs) rfl) ?_
    refine e_iload_n (show pAt 154 49 = some (49, .iload_n 2, 1, []) from by decide +kernel) rfl ?_
    obtain ⟨c5, vc⟩ := vc
    refine e_ald (show pAt 154 50 = some (50, .iaload, 1, []) from by decide +kernel) (show HS h from hs) (by decide) c5 ?_
    refine e_iload_n (show pAt 154 51 = some (51, .iload_n 1, 1, []) from by decide +kernel) rfl ?_
    refine Ends.call (show pAt 154 52 = some (52, .invokevirtual 317, 3, [152, 3, 0, 0, 6017, 6019, 90]) from by decide +kernel) (isRet_none rfl) rfl (call_this (show HS h from hs) rfl rfl (by decide)) (Ends.mono vc ?_)
    rintro _ h6 ⟨r7, rfl, hs_h6, vc⟩
    refine e_if (t := 64) (show pAt 154 55 = some (55, .ifCond .eq 9, 3, []) from by decide +kernel) rfl (fun c9 => ?_) (fun c9 => ?_)
    · replace vc := vc.1 c9
      refine e_aload_n (show pAt 154 64 = some (64, .aload_n 0, 1, []) from by decide +kernel) rfl (ra (by decide)) ?_
      refine e_iload_n (show pAt 154 65 = some (65, .iload_n 1, 1, []) from by decide +kernel) rfl ?_
      refine e_iload_n (show pAt 154 66 = some (66, .iload_n 2, 1, []) from by decide +kernel) rfl ?_
      refine Ends.call (show pAt 154 67 = some (67, .invokevirtual 320, 3, [153, 3, 0, 0, 6025, 6027, 92]) from by decide +kernel) (isRet_none rfl) rfl (call_this (show HS h6 from hs_h6) rfl rfl (by decide)) (Ends.mono vc ?_)
      rintro _ h10 ⟨rfl, hs_h10, vc⟩
      refine e_iinc (c := 1) (show pAt 154 70 = some (70, .iinc 1 1, 3, []) from by decide +kernel) rfl rfl (by decide) rfl ?_
      refine e_goto (t := 7) (show pAt 154 73 = some (73, .goto (-66), 3, []) from by decide +kernel) rfl ?_
      exact vc
    · replace vc := vc.2 c9
      refine e_iinc (c := 1) (show pAt 154 58 = some (58, .iinc 2 1, 3, []) from by decide +kernel) rfl rfl (by decide) rfl ?_
      refine e_goto (t := 36) (show pAt 154 61 = some (61, .goto (-25), 3, []) from by decide +kernel) rfl ?_
      exact vc

theorem w_lo86 {X : Scr} {dp : Nat} {h : Hp} {Q : Option Value → Hp → Prop} (k : Int32) (a : Value) (hs : HS h)
    (vc : (inB k 7 = true ∧ ((condB .eq (h.2.1 110 k.toNatClampNeg) (h.2.1 93 31) = true → Ends X dp 153 0 [.ref 93, .int (h.2.1 93 30), .int (k + 1), .retAddr 0] [] h (fun rv h3 => rv = none ∧ HS h3 ∧ Q none h3)) ∧ (condB .eq (h.2.1 110 k.toNatClampNeg) (h.2.1 93 31) = false → Ends X (dp + 1) 154 86 [.ref 93, .int (k + 1), a] [] h Q)))) :
    Ends X (dp + 1) 154 86 [.ref 93, .int k, a] [] h Q := by
  have ra : ∀ {a : Nat}, a < 1000 → a ≤ OLDB := fun h => by have := OLDB_eq; omega
  refine e_aload_n (show pAt 154 86 = some (86, .aload_n 0, 1, []) from by decide +kernel) rfl (ra (by decide)) ?_
  refine e_gR (show pAt 154 87 = some (87, .getfield 112, 3, [7, 33, 0, 4156]) from by decide +kernel) (show HS h from hs) rfl (by decide) (hs_ref (show HS h from hs) rfl) ?_
  refine e_iload_n (show pAt 154 90 = some (90, .iload_n 1, 1, []) from by decide +kernel) rfl ?_
  obtain ⟨c1, vc⟩ := vc
  refine e_ald (show pAt 154 91 = some (91, .iaload, 1, []) from by decide +kernel) (show HS h from hs) (by decide) c1 ?_
  refine e_aload_n (show pAt 154 92 = some (92, .aload_n 0, 1, []) from by decide +kernel) rfl (ra (by decide)) ?_
  refine e_gI (show pAt 154 93 = some (93, .getfield 106, 3, [7, 31, 0, 4154]) from by decide +kernel) (show HS h from hs) rfl (by decide) ?_
  refine e_icmp (t := 105) (show pAt 154 96 = some (96, .if_icmp .eq 9, 3, []) from by decide +kernel) rfl (fun c2 => ?_) (fun c2 => ?_)
  · replace vc := vc.1 c2
    refine e_aload_n (show pAt 154 105 = some (105, .aload_n 0, 1, []) from by decide +kernel) rfl (ra (by decide)) ?_
    refine e_aload_n (show pAt 154 106 = some (106, .aload_n 0, 1, []) from by decide +kernel) rfl (ra (by decide)) ?_
    refine e_gI (show pAt 154 107 = some (107, .getfield 103, 3, [7, 30, 0, 4153]) from by decide +kernel) (show HS h from hs) rfl (by decide) ?_
    refine e_iload_n (show pAt 154 110 = some (110, .iload_n 1, 1, []) from by decide +kernel) rfl ?_
    refine e_iconst (c := 1) (show pAt 154 111 = some (111, .iconst 1, 1, []) from by decide +kernel) (by decide) ?_
    refine e_iadd (show pAt 154 112 = some (112, .iadd, 1, []) from by decide +kernel) ?_
    refine Ends.call (show pAt 154 113 = some (113, .invokevirtual 320, 3, [153, 3, 0, 0, 6025, 6027, 92]) from by decide +kernel) (isRet_none rfl) rfl (call_this (show HS h from hs) rfl rfl (by decide)) (Ends.mono vc ?_)
    rintro _ h3 ⟨rfl, hs_h3, vc⟩
    exact e_retV (show pAt 154 116 = some (116, .return_, 1, []) from by decide +kernel) rfl vc
  · replace vc := vc.2 c2
    refine e_iinc (c := 1) (show pAt 154 99 = some (99, .iinc 1 1, 3, []) from by decide +kernel) rfl rfl (by decide) rfl ?_
    refine e_goto (t := 86) (show pAt 154 102 = some (102, .goto (-16), 3, []) from by decide +kernel) rfl ?_
    exact vc
end JN63so
section JN64leaves
/-! Leaves of the reference, exactly: what is owed for them. -/
theorem w_has {X : Scr} {dp : Nat} {h : Hp} {Q : Option Value → Hp → Prop} (s : Int32) (k : Int32) (hs : HS h)
    (vc : ((condB .ne ((s >>> (k &&& 31)) &&& 1) 1 = true → Q (some (.int 0)) h) ∧ (condB .ne ((s >>> (k &&& 31)) &&& 1) 1 = false → Q (some (.int 1)) h))) :
    Ends X dp 110 0 [.ref 93, .int s, .int k] [] h Q := by
  have ra : ∀ {a : Nat}, a < 1000 → a ≤ OLDB := fun h => by have := OLDB_eq; omega
  refine e_iload_n (show pAt 110 0 = some (0, .iload_n 1, 1, []) from by decide +kernel) rfl ?_
  refine e_iload_n (show pAt 110 1 = some (1, .iload_n 2, 1, []) from by decide +kernel) rfl ?_
  refine e_ishr (show pAt 110 2 = some (2, .ishr, 1, []) from by decide +kernel) ?_
  refine e_iconst (c := 1) (show pAt 110 3 = some (3, .iconst 1, 1, []) from by decide +kernel) (by decide) ?_
  refine e_iand (show pAt 110 4 = some (4, .iand, 1, []) from by decide +kernel) ?_
  refine e_iconst (c := 1) (show pAt 110 5 = some (5, .iconst 1, 1, []) from by decide +kernel) (by decide) ?_
  refine e_icmp (t := 13) (show pAt 110 6 = some (6, .if_icmp .ne 7, 3, []) from by decide +kernel) rfl (fun c1 => ?_) (fun c1 => ?_)
  · replace vc := vc.1 c1
    refine e_iconst (c := 0) (show pAt 110 13 = some (13, .iconst 0, 1, []) from by decide +kernel) (by decide) ?_
    exact e_retZ (show pAt 110 14 = some (14, .ireturn, 1, []) from by decide +kernel) rfl (by decide) vc
  · replace vc := vc.2 c1
    refine e_iconst (c := 1) (show pAt 110 9 = some (9, .iconst 1, 1, []) from by decide +kernel) (by decide) ?_
    refine e_goto (t := 14) (show pAt 110 10 = some (10, .goto 4, 3, []) from by decide +kernel) rfl ?_
    exact e_retZ (show pAt 110 14 = some (14, .ireturn, 1, []) from by decide +kernel) rfl (by decide) vc

theorem w_in {X : Scr} {dp : Nat} {h : Hp} {Q : Option Value → Hp → Prop} (x : Int32) (lo : Int32) (hi : Int32) (hs : HS h)
    (vc : ((condB .lt x lo = true → Q (some (.int 0)) h) ∧ (condB .lt x lo = false → ((condB .gt x hi = true → Q (some (.int 0)) h) ∧ (condB .gt x hi = false → Q (some (.int 1)) h))))) :
    Ends X dp 109 0 [.ref 93, .int x, .int lo, .int hi] [] h Q := by
  have ra : ∀ {a : Nat}, a < 1000 → a ≤ OLDB := fun h => by have := OLDB_eq; omega
  refine e_iload_n (show pAt 109 0 = some (0, .iload_n 1, 1, []) from by decide +kernel) rfl ?_
  refine e_iload_n (show pAt 109 1 = some (1, .iload_n 2, 1, []) from by decide +kernel) rfl ?_
  refine e_icmp (t := 14) (show pAt 109 2 = some (2, .if_icmp .lt 12, 3, []) from by decide +kernel) rfl (fun c1 => ?_) (fun c1 => ?_)
  · replace vc := vc.1 c1
    refine e_iconst (c := 0) (show pAt 109 14 = some (14, .iconst 0, 1, []) from by decide +kernel) (by decide) ?_
    exact e_retZ (show pAt 109 15 = some (15, .ireturn, 1, []) from by decide +kernel) rfl (by decide) vc
  · replace vc := vc.2 c1
    refine e_iload_n (show pAt 109 5 = some (5, .iload_n 1, 1, []) from by decide +kernel) rfl ?_
    refine e_iload_n (show pAt 109 6 = some (6, .iload_n 3, 1, []) from by decide +kernel) rfl ?_
    refine e_icmp (t := 14) (show pAt 109 7 = some (7, .if_icmp .gt 7, 3, []) from by decide +kernel) rfl (fun c2 => ?_) (fun c2 => ?_)
    · replace vc := vc.1 c2
      refine e_iconst (c := 0) (show pAt 109 14 = some (14, .iconst 0, 1, []) from by decide +kernel) (by decide) ?_
      exact e_retZ (show pAt 109 15 = some (15, .ireturn, 1, []) from by decide +kernel) rfl (by decide) vc
    · replace vc := vc.2 c2
      refine e_iconst (c := 1) (show pAt 109 10 = some (10, .iconst 1, 1, []) from by decide +kernel) (by decide) ?_
      refine e_goto (t := 15) (show pAt 109 11 = some (11, .goto 4, 3, []) from by decide +kernel) rfl ?_
      exact e_retZ (show pAt 109 15 = some (15, .ireturn, 1, []) from by decide +kernel) rfl (by decide) vc

theorem w_isRunning {X : Scr} {dp : Nat} {h : Hp} {Q : Option Value → Hp → Prop} (p : Int32) (hs : HS h)
    (vc : Ends X dp 110 0 [.ref 93, .int ((h.2.1 93 2) ||| (h.2.1 93 32)), .int p] [] h (fun rv h1 => ∃ r2, rv = some (.int r2) ∧ HS h1 ∧ ((condB .ne r2 0 = true → Q (some (.int 0)) h1) ∧ (condB .ne r2 0 = false → Q (some (.int 1)) h1)))) :
    Ends X (dp + 1) 139 0 [.ref 93, .int p] [] h Q := by
  have ra : ∀ {a : Nat}, a < 1000 → a ≤ OLDB := fun h => by have := OLDB_eq; omega
  refine e_aload_n (show pAt 139 0 = some (0, .aload_n 0, 1, []) from by decide +kernel) rfl (ra (by decide)) ?_
  refine e_aload_n (show pAt 139 1 = some (1, .aload_n 0, 1, []) from by decide +kernel) rfl (ra (by decide)) ?_
  refine e_gI (show pAt 139 2 = some (2, .getfield 16, 3, [7, 2, 0, 4125]) from by decide +kernel) (show HS h from hs) rfl (by decide) ?_
  refine e_aload_n (show pAt 139 5 = some (5, .aload_n 0, 1, []) from by decide +kernel) rfl (ra (by decide)) ?_
  refine e_gI (show pAt 139 6 = some (6, .getfield 109, 3, [7, 32, 0, 4155]) from by decide +kernel) (show HS h from hs) rfl (by decide) ?_
  refine e_ior (show pAt 139 9 = some (9, .ior, 1, []) from by decide +kernel) ?_
  refine e_iload_n (show pAt 139 10 = some (10, .iload_n 1, 1, []) from by decide +kernel) rfl ?_
  refine Ends.call (show pAt 139 11 = some (11, .invokevirtual 274, 3, [110, 3, 0, 0, 5173, 5175, 71]) from by decide +kernel) (isRet_none rfl) rfl (call_this (show HS h from hs) rfl rfl (by decide)) (Ends.mono vc ?_)
  rintro _ h1 ⟨r2, rfl, hs_h1, vc⟩
  refine e_if (t := 21) (show pAt 139 14 = some (14, .ifCond .ne 7, 3, []) from by decide +kernel) rfl (fun c4 => ?_) (fun c4 => ?_)
  · replace vc := vc.1 c4
    refine e_iconst (c := 0) (show pAt 139 21 = some (21, .iconst 0, 1, []) from by decide +kernel) (by decide) ?_
    exact e_retZ (show pAt 139 22 = some (22, .ireturn, 1, []) from by decide +kernel) rfl (by decide) vc
  · replace vc := vc.2 c4
    refine e_iconst (c := 1) (show pAt 139 17 = some (17, .iconst 1, 1, []) from by decide +kernel) (by decide) ?_
    refine e_goto (t := 22) (show pAt 139 18 = some (18, .goto 4, 3, []) from by decide +kernel) rfl ?_
    exact e_retZ (show pAt 139 22 = some (22, .ireturn, 1, []) from by decide +kernel) rfl (by decide) vc

theorem w_isPerson {X : Scr} {dp : Nat} {h : Hp} {Q : Option Value → Hp → Prop} (p : Int32) (hs : HS h)
    (vc : Ends X dp 109 0 [.ref 93, .int p, .int 0, .int ((h.2.1 93 0) - 1)] [] h (fun rv h1 => ∃ r2, rv = some (.int r2) ∧ HS h1 ∧ (r2 = 0 ∨ r2 = 1) ∧ Q (some (.int r2)) h1)) :
    Ends X (dp + 1) 112 0 [.ref 93, .int p] [] h Q := by
  have ra : ∀ {a : Nat}, a < 1000 → a ≤ OLDB := fun h => by have := OLDB_eq; omega
  refine e_aload_n (show pAt 112 0 = some (0, .aload_n 0, 1, []) from by decide +kernel) rfl (ra (by decide)) ?_
  refine e_iload_n (show pAt 112 1 = some (1, .iload_n 1, 1, []) from by decide +kernel) rfl ?_
  refine e_iconst (c := 0) (show pAt 112 2 = some (2, .iconst 0, 1, []) from by decide +kernel) (by decide) ?_
  refine e_aload_n (show pAt 112 3 = some (3, .aload_n 0, 1, []) from by decide +kernel) rfl (ra (by decide)) ?_
  refine e_gI (show pAt 112 4 = some (4, .getfield 7, 3, [7, 0, 0, 4123]) from by decide +kernel) (show HS h from hs) rfl (by decide) ?_
  refine e_iconst (c := 1) (show pAt 112 7 = some (7, .iconst 1, 1, []) from by decide +kernel) (by decide) ?_
  refine e_isub (show pAt 112 8 = some (8, .isub, 1, []) from by decide +kernel) ?_
  refine Ends.call (show pAt 112 9 = some (9, .invokevirtual 206, 3, [109, 4, 0, 0, 5081, 5083, 54]) from by decide +kernel) (isRet_none rfl) rfl (call_this (show HS h from hs) rfl rfl (by decide)) (Ends.mono vc ?_)
  rintro _ h1 ⟨r2, rfl, hs_h1, vc⟩
  exact e_retZ (show pAt 112 12 = some (12, .ireturn, 1, []) from by decide +kernel) rfl vc.1 vc.2

theorem w_allSet {X : Scr} {dp : Nat} {h : Hp} {Q : Option Value → Hp → Prop}  (hs : HS h)
    (vc : Q (some (.int ((1 <<< ((h.2.1 93 0) &&& 31)) - 1))) h) :
    Ends X dp 113 0 [.ref 93] [] h Q := by
  have ra : ∀ {a : Nat}, a < 1000 → a ≤ OLDB := fun h => by have := OLDB_eq; omega
  refine e_iconst (c := 1) (show pAt 113 0 = some (0, .iconst 1, 1, []) from by decide +kernel) (by decide) ?_
  refine e_aload_n (show pAt 113 1 = some (1, .aload_n 0, 1, []) from by decide +kernel) rfl (ra (by decide)) ?_
  refine e_gI (show pAt 113 2 = some (2, .getfield 7, 3, [7, 0, 0, 4123]) from by decide +kernel) (show HS h from hs) rfl (by decide) ?_
  refine e_ishl (show pAt 113 5 = some (5, .ishl, 1, []) from by decide +kernel) ?_
  refine e_iconst (c := 1) (show pAt 113 6 = some (6, .iconst 1, 1, []) from by decide +kernel) (by decide) ?_
  refine e_isub (show pAt 113 7 = some (7, .isub, 1, []) from by decide +kernel) ?_
  exact e_retI (show pAt 113 8 = some (8, .ireturn, 1, []) from by decide +kernel) rfl vc

theorem w_begin {X : Scr} {dp : Nat} {h : Hp} {Q : Option Value → Hp → Prop}  (hs : HS h)
    (vc : ((condB .ge (h.2.1 93 10) 0 = true → Q (some (.int (10 * (h.2.1 93 10)))) h) ∧ (condB .ge (h.2.1 93 10) 0 = false → Q (some (.int 0)) h))) :
    Ends X dp 134 0 [.ref 93] [] h Q := by
  have ra : ∀ {a : Nat}, a < 1000 → a ≤ OLDB := fun h => by have := OLDB_eq; omega
  refine e_aload_n (show pAt 134 0 = some (0, .aload_n 0, 1, []) from by decide +kernel) rfl (ra (by decide)) ?_
  refine e_gI (show pAt 134 1 = some (1, .getfield 41, 3, [7, 10, 0, 4133]) from by decide +kernel) (show HS h from hs) rfl (by decide) ?_
  refine e_if (t := 11) (show pAt 134 4 = some (4, .ifCond .ge 7, 3, []) from by decide +kernel) rfl (fun c1 => ?_) (fun c1 => ?_)
  · replace vc := vc.1 c1
    refine e_bipush (c := 10) (show pAt 134 11 = some (11, .bipush 10, 2, []) from by decide +kernel) (by decide) ?_
    refine e_aload_n (show pAt 134 13 = some (13, .aload_n 0, 1, []) from by decide +kernel) rfl (ra (by decide)) ?_
    refine e_gI (show pAt 134 14 = some (14, .getfield 41, 3, [7, 10, 0, 4133]) from by decide +kernel) (show HS h from hs) rfl (by decide) ?_
    refine e_imul (show pAt 134 17 = some (17, .imul, 1, []) from by decide +kernel) ?_
    exact e_retI (show pAt 134 18 = some (18, .ireturn, 1, []) from by decide +kernel) rfl vc
  · replace vc := vc.2 c1
    refine e_iconst (c := 0) (show pAt 134 7 = some (7, .iconst 0, 1, []) from by decide +kernel) (by decide) ?_
    refine e_goto (t := 18) (show pAt 134 8 = some (8, .goto 10, 3, []) from by decide +kernel) rfl ?_
    exact e_retI (show pAt 134 18 = some (18, .ireturn, 1, []) from by decide +kernel) rfl vc

theorem w_behind {X : Scr} {dp : Nat} {h : Hp} {Q : Option Value → Hp → Prop}  (hs : HS h)
    (vc : ((condB .ge (h.2.1 93 10) 0 = true → (inB (h.2.1 93 10) 6 = true ∧ Q (some (.int ((10 * (h.2.1 93 10)) + (h.2.1 101 (h.2.1 93 10).toNatClampNeg)))) h)) ∧ (condB .ge (h.2.1 93 10) 0 = false → Q (some (.int 0)) h))) :
    Ends X dp 135 0 [.ref 93] [] h Q := by
  have ra : ∀ {a : Nat}, a < 1000 → a ≤ OLDB := fun h => by have := OLDB_eq; omega
  refine e_aload_n (show pAt 135 0 = some (0, .aload_n 0, 1, []) from by decide +kernel) rfl (ra (by decide)) ?_
  refine e_gI (show pAt 135 1 = some (1, .getfield 41, 3, [7, 10, 0, 4133]) from by decide +kernel) (show HS h from hs) rfl (by decide) ?_
  refine e_if (t := 11) (show pAt 135 4 = some (4, .ifCond .ge 7, 3, []) from by decide +kernel) rfl (fun c1 => ?_) (fun c1 => ?_)
  · replace vc := vc.1 c1
    refine e_bipush (c := 10) (show pAt 135 11 = some (11, .bipush 10, 2, []) from by decide +kernel) (by decide) ?_
    refine e_aload_n (show pAt 135 13 = some (13, .aload_n 0, 1, []) from by decide +kernel) rfl (ra (by decide)) ?_
    refine e_gI (show pAt 135 14 = some (14, .getfield 41, 3, [7, 10, 0, 4133]) from by decide +kernel) (show HS h from hs) rfl (by decide) ?_
    refine e_imul (show pAt 135 17 = some (17, .imul, 1, []) from by decide +kernel) ?_
    refine e_aload_n (show pAt 135 18 = some (18, .aload_n 0, 1, []) from by decide +kernel) rfl (ra (by decide)) ?_
    refine e_gR (show pAt 135 19 = some (19, .getfield 56, 3, [7, 15, 0, 4138]) from by decide +kernel) (show HS h from hs) rfl (by decide) (hs_ref (show HS h from hs) rfl) ?_
    refine e_aload_n (show pAt 135 22 = some (22, .aload_n 0, 1, []) from by decide +kernel) rfl (ra (by decide)) ?_
    refine e_gI (show pAt 135 23 = some (23, .getfield 41, 3, [7, 10, 0, 4133]) from by decide +kernel) (show HS h from hs) rfl (by decide) ?_
    obtain ⟨c2, vc⟩ := vc
    refine e_ald (show pAt 135 26 = some (26, .iaload, 1, []) from by decide +kernel) (show HS h from hs) (by decide) c2 ?_
    refine e_iadd (show pAt 135 27 = some (27, .iadd, 1, []) from by decide +kernel) ?_
    exact e_retI (show pAt 135 28 = some (28, .ireturn, 1, []) from by decide +kernel) rfl vc
  · replace vc := vc.2 c1
    refine e_iconst (c := 0) (show pAt 135 7 = some (7, .iconst 0, 1, []) from by decide +kernel) (by decide) ?_
    refine e_goto (t := 28) (show pAt 135 8 = some (8, .goto 20, 3, []) from by decide +kernel) rfl ?_
    exact e_retI (show pAt 135 28 = some (28, .ireturn, 1, []) from by decide +kernel) rfl vc

theorem w_fact {X : Scr} {dp : Nat} {h : Hp} {Q : Option Value → Hp → Prop} (f : Int32) (p : Int32) (l : Int32) (hs : HS h)
    (vc : (((f.toInt < 0 ∨ 4 < f.toInt) → Q (some (.int ((h.2.1 93 1) - (h.2.1 93 1) / 10 * 10))) h) ∧ (f.toInt = 0 → Q (some (.int p)) h) ∧ (f.toInt = 1 → (inB p 7 = true ∧ Q (some (.int (h.2.1 94 p.toNatClampNeg))) h)) ∧ (f.toInt = 2 → Q (some (.int l)) h) ∧ (f.toInt = 3 → (inB p 7 = true ∧ Q (some (.int (h.2.1 98 p.toNatClampNeg))) h)) ∧ (f.toInt = 4 → (inB p 7 = true ∧ Q (some (.int (h.2.1 97 p.toNatClampNeg))) h)))) :
    Ends X dp 136 0 [.ref 93, .int f, .int p, .int l] [] h Q := by
  have ra : ∀ {a : Nat}, a < 1000 → a ≤ OLDB := fun h => by have := OLDB_eq; omega
  refine e_iload_n (show pAt 136 0 = some (0, .iload_n 1, 1, []) from by decide +kernel) rfl ?_
  rcases (show (f.toInt < 0 ∨ 4 < f.toInt) ∨ f.toInt = 0 ∨ f.toInt = 1 ∨ f.toInt = 2 ∨ f.toInt = 3 ∨ f.toInt = 4 from by omega) with c1 | c1 | c1 | c1 | c1 | c1
  · refine e_tsd (t := 61) (show pAt 136 1 = some (1, .tableswitch 60 0 4 #[35, 37, 44, 46, 53], 35, []) from by decide +kernel) c1 rfl ?_
    replace vc := vc.1 c1
    refine e_aload_n (show pAt 136 61 = some (61, .aload_n 0, 1, []) from by decide +kernel) rfl (ra (by decide)) ?_
    refine e_gI (show pAt 136 62 = some (62, .getfield 13, 3, [7, 1, 0, 4124]) from by decide +kernel) (show HS h from hs) rfl (by decide) ?_
    refine e_bipush (c := 10) (show pAt 136 65 = some (65, .bipush 10, 2, []) from by decide +kernel) (by decide) ?_
    refine e_irem (show pAt 136 67 = some (67, .irem, 1, []) from by decide +kernel) (by decide) ?_
    exact e_retI (show pAt 136 68 = some (68, .ireturn, 1, []) from by decide +kernel) rfl vc
  · refine e_tsc (t := 36) 0 (show pAt 136 1 = some (1, .tableswitch 60 0 4 #[35, 37, 44, 46, 53], 35, []) from by decide +kernel) (by omega) (by omega) rfl rfl ?_
    replace vc := vc.2.1 c1
    refine e_iload_n (show pAt 136 36 = some (36, .iload_n 2, 1, []) from by decide +kernel) rfl ?_
    exact e_retI (show pAt 136 37 = some (37, .ireturn, 1, []) from by decide +kernel) rfl vc
  · refine e_tsc (t := 38) 1 (show pAt 136 1 = some (1, .tableswitch 60 0 4 #[35, 37, 44, 46, 53], 35, []) from by decide +kernel) (by omega) (by omega) rfl rfl ?_
    replace vc := vc.2.2.1 c1
    refine e_aload_n (show pAt 136 38 = some (38, .aload_n 0, 1, []) from by decide +kernel) rfl (ra (by decide)) ?_
    refine e_gR (show pAt 136 39 = some (39, .getfield 19, 3, [7, 3, 0, 4126]) from by decide +kernel) (show HS h from hs) rfl (by decide) (hs_ref (show HS h from hs) rfl) ?_
    refine e_iload_n (show pAt 136 42 = some (42, .iload_n 2, 1, []) from by decide +kernel) rfl ?_
    obtain ⟨c3, vc⟩ := vc
    refine e_ald (show pAt 136 43 = some (43, .iaload, 1, []) from by decide +kernel) (show HS h from hs) (by decide) c3 ?_
    exact e_retI (show pAt 136 44 = some (44, .ireturn, 1, []) from by decide +kernel) rfl vc
  · refine e_tsc (t := 45) 2 (show pAt 136 1 = some (1, .tableswitch 60 0 4 #[35, 37, 44, 46, 53], 35, []) from by decide +kernel) (by omega) (by omega) rfl rfl ?_
    replace vc := vc.2.2.2.1 c1
    refine e_iload_n (show pAt 136 45 = some (45, .iload_n 3, 1, []) from by decide +kernel) rfl ?_
    exact e_retI (show pAt 136 46 = some (46, .ireturn, 1, []) from by decide +kernel) rfl vc
  · refine e_tsc (t := 47) 3 (show pAt 136 1 = some (1, .tableswitch 60 0 4 #[35, 37, 44, 46, 53], 35, []) from by decide +kernel) (by omega) (by omega) rfl rfl ?_
    replace vc := vc.2.2.2.2.1 c1
    refine e_aload_n (show pAt 136 47 = some (47, .aload_n 0, 1, []) from by decide +kernel) rfl (ra (by decide)) ?_
    refine e_gR (show pAt 136 48 = some (48, .getfield 32, 3, [7, 7, 0, 4130]) from by decide +kernel) (show HS h from hs) rfl (by decide) (hs_ref (show HS h from hs) rfl) ?_
    refine e_iload_n (show pAt 136 51 = some (51, .iload_n 2, 1, []) from by decide +kernel) rfl ?_
    obtain ⟨c4, vc⟩ := vc
    refine e_ald (show pAt 136 52 = some (52, .iaload, 1, []) from by decide +kernel) (show HS h from hs) (by decide) c4 ?_
    exact e_retI (show pAt 136 53 = some (53, .ireturn, 1, []) from by decide +kernel) rfl vc
  · refine e_tsc (t := 54) 4 (show pAt 136 1 = some (1, .tableswitch 60 0 4 #[35, 37, 44, 46, 53], 35, []) from by decide +kernel) (by omega) (by omega) rfl rfl ?_
    replace vc := vc.2.2.2.2.2 c1
    refine e_aload_n (show pAt 136 54 = some (54, .aload_n 0, 1, []) from by decide +kernel) rfl (ra (by decide)) ?_
    refine e_gR (show pAt 136 55 = some (55, .getfield 29, 3, [7, 6, 0, 4129]) from by decide +kernel) (show HS h from hs) rfl (by decide) (hs_ref (show HS h from hs) rfl) ?_
    refine e_iload_n (show pAt 136 58 = some (58, .iload_n 2, 1, []) from by decide +kernel) rfl ?_
    obtain ⟨c5, vc⟩ := vc
    refine e_ald (show pAt 136 59 = some (59, .iaload, 1, []) from by decide +kernel) (show HS h from hs) (by decide) c5 ?_
    exact e_retI (show pAt 136 60 = some (60, .ireturn, 1, []) from by decide +kernel) rfl vc

theorem w_waits {X : Scr} {dp : Nat} {h : Hp} {Q : Option Value → Hp → Prop} (p : Int32) (hs : HS h)
    (vc : (inB p 7 = true ∧ ((condB .eq (h.2.1 94 p.toNatClampNeg) 3 = true → Q (some (.int 1)) h) ∧ (condB .eq (h.2.1 94 p.toNatClampNeg) 3 = false → (inB p 7 = true ∧ ((condB .ne (h.2.1 94 p.toNatClampNeg) 6 = true → Q (some (.int 0)) h) ∧ (condB .ne (h.2.1 94 p.toNatClampNeg) 6 = false → Q (some (.int 1)) h))))))) :
    Ends X dp 151 0 [.ref 93, .int p] [] h Q := by
  have ra : ∀ {a : Nat}, a < 1000 → a ≤ OLDB := fun h => by have := OLDB_eq; omega
  refine e_aload_n (show pAt 151 0 = some (0, .aload_n 0, 1, []) from by decide +kernel) rfl (ra (by decide)) ?_
  refine e_gR (show pAt 151 1 = some (1, .getfield 19, 3, [7, 3, 0, 4126]) from by decide +kernel) (show HS h from hs) rfl (by decide) (hs_ref (show HS h from hs) rfl) ?_
  refine e_iload_n (show pAt 151 4 = some (4, .iload_n 1, 1, []) from by decide +kernel) rfl ?_
  obtain ⟨c1, vc⟩ := vc
  refine e_ald (show pAt 151 5 = some (5, .iaload, 1, []) from by decide +kernel) (show HS h from hs) (by decide) c1 ?_
  refine e_iconst (c := 3) (show pAt 151 6 = some (6, .iconst 3, 1, []) from by decide +kernel) (by decide) ?_
  refine e_icmp (t := 21) (show pAt 151 7 = some (7, .if_icmp .eq 14, 3, []) from by decide +kernel) rfl (fun c2 => ?_) (fun c2 => ?_)
  · replace vc := vc.1 c2
    refine e_iconst (c := 1) (show pAt 151 21 = some (21, .iconst 1, 1, []) from by decide +kernel) (by decide) ?_
    refine e_goto (t := 26) (show pAt 151 22 = some (22, .goto 4, 3, []) from by decide +kernel) rfl ?_
    exact e_retZ (show pAt 151 26 = some (26, .ireturn, 1, []) from by decide +kernel) rfl (by decide) vc
  · replace vc := vc.2 c2
    refine e_aload_n (show pAt 151 10 = some (10, .aload_n 0, 1, []) from by decide +kernel) rfl (ra (by decide)) ?_
    refine e_gR (show pAt 151 11 = some (11, .getfield 19, 3, [7, 3, 0, 4126]) from by decide +kernel) (show HS h from hs) rfl (by decide) (hs_ref (show HS h from hs) rfl) ?_
    refine e_iload_n (show pAt 151 14 = some (14, .iload_n 1, 1, []) from by decide +kernel) rfl ?_
    obtain ⟨c3, vc⟩ := vc
    refine e_ald (show pAt 151 15 = some (15, .iaload, 1, []) from by decide +kernel) (show HS h from hs) (by decide) c3 ?_
    refine e_bipush (c := 6) (show pAt 151 16 = some (16, .bipush 6, 2, []) from by decide +kernel) (by decide) ?_
    refine e_icmp (t := 25) (show pAt 151 18 = some (18, .if_icmp .ne 7, 3, []) from by decide +kernel) rfl (fun c4 => ?_) (fun c4 => ?_)
    · replace vc := vc.1 c4
      refine e_iconst (c := 0) (show pAt 151 25 = some (25, .iconst 0, 1, []) from by decide +kernel) (by decide) ?_
      exact e_retZ (show pAt 151 26 = some (26, .ireturn, 1, []) from by decide +kernel) rfl (by decide) vc
    · replace vc := vc.2 c4
      refine e_iconst (c := 1) (show pAt 151 21 = some (21, .iconst 1, 1, []) from by decide +kernel) (by decide) ?_
      refine e_goto (t := 26) (show pAt 151 22 = some (22, .goto 4, 3, []) from by decide +kernel) rfl ?_
      exact e_retZ (show pAt 151 26 = some (26, .ireturn, 1, []) from by decide +kernel) rfl (by decide) vc

theorem w_ahead {X : Scr} {dp : Nat} {h : Hp} {Q : Option Value → Hp → Prop} (a : Int32) (b : Int32) (hs : HS h)
    (vc : Ends X dp 151 0 [.ref 93, .int a] [] h (fun rv h1 => ∃ r2, rv = some (.int r2) ∧ HS h1 ∧ Ends X dp 151 0 [.ref 93, .int b] [] h1 (fun rv h4 => ∃ r5, rv = some (.int r5) ∧ HS h4 ∧ ((condB .eq r2 r5 = true → (inB a 7 = true ∧ (inB b 7 = true ∧ ((condB .gt (h4.2.1 97 a.toNatClampNeg) (h4.2.1 97 b.toNatClampNeg) = true → Q (some (.int 1)) h4) ∧ (condB .gt (h4.2.1 97 a.toNatClampNeg) (h4.2.1 97 b.toNatClampNeg) = false → (inB a 7 = true ∧ (inB b 7 = true ∧ ((condB .ne (h4.2.1 97 a.toNatClampNeg) (h4.2.1 97 b.toNatClampNeg) = true → Q (some (.int 0)) h4) ∧ (condB .ne (h4.2.1 97 a.toNatClampNeg) (h4.2.1 97 b.toNatClampNeg) = false → ((condB .ge a b = true → Q (some (.int 0)) h4) ∧ (condB .ge a b = false → Q (some (.int 1)) h4))))))))))) ∧ (condB .eq r2 r5 = false → Ends X dp 151 0 [.ref 93, .int b] [] h4 (fun rv h15 => ∃ r16, rv = some (.int r16) ∧ HS h15 ∧ (r16 = 0 ∨ r16 = 1) ∧ Q (some (.int r16)) h15)))))) :
    Ends X (dp + 1) 152 0 [.ref 93, .int a, .int b] [] h Q := by
  have ra : ∀ {a : Nat}, a < 1000 → a ≤ OLDB := fun h => by have := OLDB_eq; omega
  refine e_aload_n (show pAt 152 0 = some (0, .aload_n 0, 1, []) from by decide +kernel) rfl (ra (by decide)) ?_
  refine e_iload_n (show pAt 152 1 = some (1, .iload_n 1, 1, []) from by decide +kernel) rfl ?_
  refine Ends.call (show pAt 152 2 = some (2, .invokevirtual 315, 3, [151, 2, 0, 0, 6021, 6023, 91]) from by decide +kernel) (isRet_none rfl) rfl (call_this (show HS h from hs) rfl rfl (by decide)) (Ends.mono vc ?_)
  rintro _ h1 ⟨r2, rfl, hs_h1, vc⟩
  refine e_aload_n (show pAt 152 5 = some (5, .aload_n 0, 1, []) from by decide +kernel) rfl (ra (by decide)) ?_
  refine e_iload_n (show pAt 152 6 = some (6, .iload_n 2, 1, []) from by decide +kernel) rfl ?_
  refine Ends.call (show pAt 152 7 = some (7, .invokevirtual 315, 3, [151, 2, 0, 0, 6021, 6023, 91]) from by decide +kernel) (isRet_none rfl) rfl (call_this (show HS h1 from hs_h1) rfl rfl (by decide)) (Ends.mono vc ?_)
  rintro _ h4 ⟨r5, rfl, hs_h4, vc⟩
  refine e_icmp (t := 21) (show pAt 152 10 = some (10, .if_icmp .eq 11, 3, []) from by decide +kernel) rfl (fun c7 => ?_) (fun c7 => ?_)
  · replace vc := vc.1 c7
    refine e_aload_n (show pAt 152 21 = some (21, .aload_n 0, 1, []) from by decide +kernel) rfl (ra (by decide)) ?_
    refine e_gR (show pAt 152 22 = some (22, .getfield 29, 3, [7, 6, 0, 4129]) from by decide +kernel) (show HS h4 from hs_h4) rfl (by decide) (hs_ref (show HS h4 from hs_h4) rfl) ?_
    refine e_iload_n (show pAt 152 25 = some (25, .iload_n 1, 1, []) from by decide +kernel) rfl ?_
    obtain ⟨c8, vc⟩ := vc
    refine e_ald (show pAt 152 26 = some (26, .iaload, 1, []) from by decide +kernel) (show HS h4 from hs_h4) (by decide) c8 ?_
    refine e_aload_n (show pAt 152 27 = some (27, .aload_n 0, 1, []) from by decide +kernel) rfl (ra (by decide)) ?_
    refine e_gR (show pAt 152 28 = some (28, .getfield 29, 3, [7, 6, 0, 4129]) from by decide +kernel) (show HS h4 from hs_h4) rfl (by decide) (hs_ref (show HS h4 from hs_h4) rfl) ?_
    refine e_iload_n (show pAt 152 31 = some (31, .iload_n 2, 1, []) from by decide +kernel) rfl ?_
    obtain ⟨c9, vc⟩ := vc
    refine e_ald (show pAt 152 32 = some (32, .iaload, 1, []) from by decide +kernel) (show HS h4 from hs_h4) (by decide) c9 ?_
    refine e_icmp (t := 56) (show pAt 152 33 = some (33, .if_icmp .gt 23, 3, []) from by decide +kernel) rfl (fun c10 => ?_) (fun c10 => ?_)
    · replace vc := vc.1 c10
      refine e_iconst (c := 1) (show pAt 152 56 = some (56, .iconst 1, 1, []) from by decide +kernel) (by decide) ?_
      refine e_goto (t := 61) (show pAt 152 57 = some (57, .goto 4, 3, []) from by decide +kernel) rfl ?_
      exact e_retZ (show pAt 152 61 = some (61, .ireturn, 1, []) from by decide +kernel) rfl (by decide) vc
    · replace vc := vc.2 c10
      refine e_aload_n (show pAt 152 36 = some (36, .aload_n 0, 1, []) from by decide +kernel) rfl (ra (by decide)) ?_
      refine e_gR (show pAt 152 37 = some (37, .getfield 29, 3, [7, 6, 0, 4129]) from by decide +kernel) (show HS h4 from hs_h4) rfl (by decide) (hs_ref (show HS h4 from hs_h4) rfl) ?_
      refine e_iload_n (show pAt 152 40 = some (40, .iload_n 1, 1, []) from by decide +kernel) rfl ?_
      obtain ⟨c11, vc⟩ := vc
      refine e_ald (show pAt 152 41 = some (41, .iaload, 1, []) from by decide +kernel) (show HS h4 from hs_h4) (by decide) c11 ?_
      refine e_aload_n (show pAt 152 42 = some (42, .aload_n 0, 1, []) from by decide +kernel) rfl (ra (by decide)) ?_
      refine e_gR (show pAt 152 43 = some (43, .getfield 29, 3, [7, 6, 0, 4129]) from by decide +kernel) (show HS h4 from hs_h4) rfl (by decide) (hs_ref (show HS h4 from hs_h4) rfl) ?_
      refine e_iload_n (show pAt 152 46 = some (46, .iload_n 2, 1, []) from by decide +kernel) rfl ?_
      obtain ⟨c12, vc⟩ := vc
      refine e_ald (show pAt 152 47 = some (47, .iaload, 1, []) from by decide +kernel) (show HS h4 from hs_h4) (by decide) c12 ?_
      refine e_icmp (t := 60) (show pAt 152 48 = some (48, .if_icmp .ne 12, 3, []) from by decide +kernel) rfl (fun c13 => ?_) (fun c13 => ?_)
      · replace vc := vc.1 c13
        refine e_iconst (c := 0) (show pAt 152 60 = some (60, .iconst 0, 1, []) from by decide +kernel) (by decide) ?_
        exact e_retZ (show pAt 152 61 = some (61, .ireturn, 1, []) from by decide +kernel) rfl (by decide) vc
      · replace vc := vc.2 c13
        refine e_iload_n (show pAt 152 51 = some (51, .iload_n 1, 1, []) from by decide +kernel) rfl ?_
        refine e_iload_n (show pAt 152 52 = some (52, .iload_n 2, 1, []) from by decide +kernel) rfl ?_
        refine e_icmp (t := 60) (show pAt 152 53 = some (53, .if_icmp .ge 7, 3, []) from by decide +kernel) rfl (fun c14 => ?_) (fun c14 => ?_)
        · replace vc := vc.1 c14
          refine e_iconst (c := 0) (show pAt 152 60 = some (60, .iconst 0, 1, []) from by decide +kernel) (by decide) ?_
          exact e_retZ (show pAt 152 61 = some (61, .ireturn, 1, []) from by decide +kernel) rfl (by decide) vc
        · replace vc := vc.2 c14
          refine e_iconst (c := 1) (show pAt 152 56 = some (56, .iconst 1, 1, []) from by decide +kernel) (by decide) ?_
          refine e_goto (t := 61) (show pAt 152 57 = some (57, .goto 4, 3, []) from by decide +kernel) rfl ?_
          exact e_retZ (show pAt 152 61 = some (61, .ireturn, 1, []) from by decide +kernel) rfl (by decide) vc
  · replace vc := vc.2 c7
    refine e_aload_n (show pAt 152 13 = some (13, .aload_n 0, 1, []) from by decide +kernel) rfl (ra (by decide)) ?_
    refine e_iload_n (show pAt 152 14 = some (14, .iload_n 2, 1, []) from by decide +kernel) rfl ?_
    refine Ends.call (show pAt 152 15 = some (15, .invokevirtual 315, 3, [151, 2, 0, 0, 6021, 6023, 91]) from by decide +kernel) (isRet_none rfl) rfl (call_this (show HS h4 from hs_h4) rfl rfl (by decide)) (Ends.mono vc ?_)
    rintro _ h15 ⟨r16, rfl, hs_h15, vc⟩
    refine e_goto (t := 61) (show pAt 152 18 = some (18, .goto 43, 3, []) from by decide +kernel) rfl ?_
    exact e_retZ (show pAt 152 61 = some (61, .ireturn, 1, []) from by decide +kernel) rfl vc.1 vc.2

theorem w_put0 {X : Scr} {dp : Nat} {h : Hp} {Q : Option Value → Hp → Prop} (p : Int32) (k : Int32) (hs : HS h)
    (vc : Ends X dp 153 5 [.ref 93, .int p, .int k, .int (h.2.1 93 34)] [] h Q) :
    Ends X dp 153 0 [.ref 93, .int p, .int k, .retAddr 0] [] h Q := by
  have ra : ∀ {a : Nat}, a < 1000 → a ≤ OLDB := fun h => by have := OLDB_eq; omega
  refine e_aload_n (show pAt 153 0 = some (0, .aload_n 0, 1, []) from by decide +kernel) rfl (ra (by decide)) ?_
  refine e_gI (show pAt 153 1 = some (1, .getfield 115, 3, [7, 34, 0, 4157]) from by decide +kernel) (show HS h from hs) rfl (by decide) ?_
  refine e_istore_n (show pAt 153 4 = some (4, .istore_n 3, 1, []) from by decide +kernel) ⟨Nat.le_of_ble_eq_true rfl, rfl⟩ rfl ?_
  exact vc

theorem w_put1 {X : Scr} {dp : Nat} {h : Hp} {Q : Option Value → Hp → Prop} (p : Int32) (k : Int32) (j : Int32) (hs : HS h)
    (vc : ((condB .le j k = true → (inB k 7 = true ∧ Q none (hpI (hpI h 110 k.toNatClampNeg p) 93 34 (((hpI h 110 k.toNatClampNeg p).2.1 93 34) + 1)))) ∧ (condB .le j k = false → (inB (j - 1) 7 = true ∧ (inB j 7 = true ∧ Ends X dp 153 5 [.ref 93, .int p, .int k, .int (j + (-1))] [] (hpI h 110 j.toNatClampNeg (h.2.1 110 (j - 1).toNatClampNeg)) Q))))) :
    Ends X dp 153 5 [.ref 93, .int p, .int k, .int j] [] h Q := by
  have ra : ∀ {a : Nat}, a < 1000 → a ≤ OLDB := fun h => by have := OLDB_eq; omega
  refine e_iload_n (show pAt 153 5 = some (5, .iload_n 3, 1, []) from by decide +kernel) rfl ?_
  refine e_iload_n (show pAt 153 6 = some (6, .iload_n 2, 1, []) from by decide +kernel) rfl ?_
  refine e_icmp (t := 30) (show pAt 153 7 = some (7, .if_icmp .le 23, 3, []) from by decide +kernel) rfl (fun c1 => ?_) (fun c1 => ?_)
  · replace vc := vc.1 c1
    refine e_aload_n (show pAt 153 30 = some (30, .aload_n 0, 1, []) from by decide +kernel) rfl (ra (by decide)) ?_
    refine e_gR (show pAt 153 31 = some (31, .getfield 112, 3, [7, 33, 0, 4156]) from by decide +kernel) (show HS h from hs) rfl (by decide) (hs_ref (show HS h from hs) rfl) ?_
    refine e_iload_n (show pAt 153 34 = some (34, .iload_n 2, 1, []) from by decide +kernel) rfl ?_
    refine e_iload_n (show pAt 153 35 = some (35, .iload_n 1, 1, []) from by decide +kernel) rfl ?_
    obtain ⟨c2, vc⟩ := vc
    refine e_ast (show pAt 153 36 = some (36, .iastore, 1, []) from by decide +kernel) (show HS h from hs) (by decide) c2 ?_
    refine e_aload_n (show pAt 153 37 = some (37, .aload_n 0, 1, []) from by decide +kernel) rfl (ra (by decide)) ?_
    refine e_dupR (show pAt 153 38 = some (38, .dup, 1, []) from by decide +kernel) ?_
    refine e_gI (show pAt 153 39 = some (39, .getfield 115, 3, [7, 34, 0, 4157]) from by decide +kernel) (show HS (hpI h 110 k.toNatClampNeg p) from hs) rfl (by decide) ?_
    refine e_iconst (c := 1) (show pAt 153 42 = some (42, .iconst 1, 1, []) from by decide +kernel) (by decide) ?_
    refine e_iadd (show pAt 153 43 = some (43, .iadd, 1, []) from by decide +kernel) ?_
    refine e_pI (show pAt 153 44 = some (44, .putfield 115, 3, [7, 34, 0, 4157]) from by decide +kernel) (show HS (hpI h 110 k.toNatClampNeg p) from hs) (by decide) (Or.inl rfl) ?_
    exact e_retV (show pAt 153 47 = some (47, .return_, 1, []) from by decide +kernel) rfl vc
  · replace vc := vc.2 c1
    refine e_aload_n (show pAt 153 10 = some (10, .aload_n 0, 1, []) from by decide +kernel) rfl (ra (by decide)) ?_
    refine e_gR (show pAt 153 11 = some (11, .getfield 112, 3, [7, 33, 0, 4156]) from by decide +kernel) (show HS h from hs) rfl (by decide) (hs_ref (show HS h from hs) rfl) ?_
    refine e_iload_n (show pAt 153 14 = some (14, .iload_n 3, 1, []) from by decide +kernel) rfl ?_
    refine e_aload_n (show pAt 153 15 = some (15, .aload_n 0, 1, []) from by decide +kernel) rfl (ra (by decide)) ?_
    refine e_gR (show pAt 153 16 = some (16, .getfield 112, 3, [7, 33, 0, 4156]) from by decide +kernel) (show HS h from hs) rfl (by decide) (hs_ref (show HS h from hs) rfl) ?_
    refine e_iload_n (show pAt 153 19 = some (19, .iload_n 3, 1, []) from by decide +kernel) rfl ?_
    refine e_iconst (c := 1) (show pAt 153 20 = some (20, .iconst 1, 1, []) from by decide +kernel) (by decide) ?_
    refine e_isub (show pAt 153 21 = some (21, .isub, 1, []) from by decide +kernel) ?_
    obtain ⟨c3, vc⟩ := vc
    refine e_ald (show pAt 153 22 = some (22, .iaload, 1, []) from by decide +kernel) (show HS h from hs) (by decide) c3 ?_
    obtain ⟨c4, vc⟩ := vc
    refine e_ast (show pAt 153 23 = some (23, .iastore, 1, []) from by decide +kernel) (show HS h from hs) (by decide) c4 ?_
    refine e_iinc (c := (-1)) (show pAt 153 24 = some (24, .iinc 3 (-1), 3, []) from by decide +kernel) rfl rfl (by decide) rfl ?_
    refine e_goto (t := 5) (show pAt 153 27 = some (27, .goto (-22), 3, []) from by decide +kernel) rfl ?_
    exact vc

theorem w_sum0 {X : Scr} {dp : Nat} {h : Hp} {Q : Option Value → Hp → Prop} (w : Int32) (p : Int32) (l : Int32) (z : Int32) (hs : HS h)
    (vc : Ends X dp 134 0 [.ref 93] [] h (fun rv h1 => ∃ r2, rv = some (.int r2) ∧ HS h1 ∧ Ends X (dp + 1) 138 12 [.ref 93, .int w, .int p, .int l, .int z, .int 0, .int 0, .int r2] [] h1 Q)) :
    Ends X (dp + 1) 138 0 [.ref 93, .int w, .int p, .int l, .int z, .retAddr 0, .retAddr 0, .retAddr 0] [] h Q := by
  have ra : ∀ {a : Nat}, a < 1000 → a ≤ OLDB := fun h => by have := OLDB_eq; omega
  refine e_iconst (c := 0) (show pAt 138 0 = some (0, .iconst 0, 1, []) from by decide +kernel) (by decide) ?_
  refine e_istore (show pAt 138 1 = some (1, .istore 5, 2, []) from by decide +kernel) ⟨Nat.le_of_ble_eq_true rfl, rfl⟩ rfl ?_
  refine e_iconst (c := 0) (show pAt 138 3 = some (3, .iconst 0, 1, []) from by decide +kernel) (by decide) ?_
  refine e_istore (show pAt 138 4 = some (4, .istore 6, 2, []) from by decide +kernel) ⟨Nat.le_of_ble_eq_true rfl, rfl⟩ rfl ?_
  refine e_aload_n (show pAt 138 6 = some (6, .aload_n 0, 1, []) from by decide +kernel) rfl (ra (by decide)) ?_
  refine Ends.call (show pAt 138 7 = some (7, .invokevirtual 265, 3, [134, 1, 0, 0, 5209, 5211, 80]) from by decide +kernel) (isRet_none rfl) rfl (call_this (show HS h from hs) rfl rfl (by decide)) (Ends.mono vc ?_)
  rintro _ h1 ⟨r2, rfl, hs_h1, vc⟩
  refine e_istore (show pAt 138 10 = some (10, .istore 7, 2, []) from by decide +kernel) ⟨Nat.le_of_ble_eq_true rfl, rfl⟩ rfl ?_
  exact vc

theorem w_sum1 {X : Scr} {dp : Nat} {h : Hp} {Q : Option Value → Hp → Prop} (w : Int32) (p : Int32) (l : Int32) (z : Int32) (s : Int32) (g : Int32) (c : Int32) (hs : HS h)
    (vc : Ends X dp 135 0 [.ref 93] [] h (fun rv h1 => ∃ r2, rv = some (.int r2) ∧ HS h1 ∧ ((condB .ge c r2 = true → ((condB .eq g 0 = true → Q (some (.int z)) h1) ∧ (condB .eq g 0 = false → Q (some (.int s)) h1))) ∧ (condB .ge c r2 = false → (inB c 60 = true ∧ ((condB .eq (h1.2.1 102 c.toNatClampNeg) w = true → Ends X dp 137 0 [.ref 93, .int c, .int p, .int l, .retAddr 0, .retAddr 0, .retAddr 0, .retAddr 0, .retAddr 0] [] h1 (fun rv h8 => ∃ r9, rv = some (.int r9) ∧ HS h8 ∧ ((condB .eq r9 0 = true → Ends X (dp + 1) 138 12 [.ref 93, .int w, .int p, .int l, .int z, .int (s + 0), .int 1, .int (c + 1)] [] h8 Q) ∧ (condB .eq r9 0 = false → (inB c 60 = true ∧ Ends X (dp + 1) 138 12 [.ref 93, .int w, .int p, .int l, .int z, .int (s + (h8.2.1 103 c.toNatClampNeg)), .int 1, .int (c + 1)] [] h8 Q))))) ∧ (condB .eq (h1.2.1 102 c.toNatClampNeg) w = false → Ends X (dp + 1) 138 12 [.ref 93, .int w, .int p, .int l, .int z, .int s, .int g, .int (c + 1)] [] h1 Q))))))) :
    Ends X (dp + 1) 138 12 [.ref 93, .int w, .int p, .int l, .int z, .int s, .int g, .int c] [] h Q := by
  have ra : ∀ {a : Nat}, a < 1000 → a ≤ OLDB := fun h => by have := OLDB_eq; omega
  refine e_iload (show pAt 138 12 = some (12, .iload 7, 2, []) from by decide +kernel) rfl ?_
  refine e_aload_n (show pAt 138 14 = some (14, .aload_n 0, 1, []) from by decide +kernel) rfl (ra (by decide)) ?_
  refine Ends.call (show pAt 138 15 = some (15, .invokevirtual 268, 3, [135, 1, 0, 0, 5213, 5215, 81]) from by decide +kernel) (isRet_none rfl) rfl (call_this (show HS h from hs) rfl rfl (by decide)) (Ends.mono vc ?_)
  rintro _ h1 ⟨r2, rfl, hs_h1, vc⟩
  refine e_icmp (t := 71) (show pAt 138 18 = some (18, .if_icmp .ge 53, 3, []) from by decide +kernel) rfl (fun c4 => ?_) (fun c4 => ?_)
  · replace vc := vc.1 c4
    refine e_iload (show pAt 138 71 = some (71, .iload 6, 2, []) from by decide +kernel) rfl ?_
    refine e_if (t := 81) (show pAt 138 73 = some (73, .ifCond .eq 8, 3, []) from by decide +kernel) rfl (fun c5 => ?_) (fun c5 => ?_)
    · replace vc := vc.1 c5
      refine e_iload (show pAt 138 81 = some (81, .iload 4, 2, []) from by decide +kernel) rfl ?_
      exact e_retI (show pAt 138 83 = some (83, .ireturn, 1, []) from by decide +kernel) rfl vc
    · replace vc := vc.2 c5
      refine e_iload (show pAt 138 76 = some (76, .iload 5, 2, []) from by decide +kernel) rfl ?_
      refine e_goto (t := 83) (show pAt 138 78 = some (78, .goto 5, 3, []) from by decide +kernel) rfl ?_
      exact e_retI (show pAt 138 83 = some (83, .ireturn, 1, []) from by decide +kernel) rfl vc
  · replace vc := vc.2 c4
    refine e_aload_n (show pAt 138 21 = some (21, .aload_n 0, 1, []) from by decide +kernel) rfl (ra (by decide)) ?_
    refine e_gR (show pAt 138 22 = some (22, .getfield 59, 3, [7, 16, 0, 4139]) from by decide +kernel) (show HS h1 from hs_h1) rfl (by decide) (hs_ref (show HS h1 from hs_h1) rfl) ?_
    refine e_iload (show pAt 138 25 = some (25, .iload 7, 2, []) from by decide +kernel) rfl ?_
    obtain ⟨c6, vc⟩ := vc
    refine e_ald (show pAt 138 27 = some (27, .iaload, 1, []) from by decide +kernel) (show HS h1 from hs_h1) (by decide) c6 ?_
    refine e_iload_n (show pAt 138 28 = some (28, .iload_n 1, 1, []) from by decide +kernel) rfl ?_
    refine e_icmp (t := 35) (show pAt 138 29 = some (29, .if_icmp .eq 6, 3, []) from by decide +kernel) rfl (fun c7 => ?_) (fun c7 => ?_)
    · replace vc := vc.1 c7
      refine e_iconst (c := 1) (show pAt 138 35 = some (35, .iconst 1, 1, []) from by decide +kernel) (by decide) ?_
      refine e_istore (show pAt 138 36 = some (36, .istore 6, 2, []) from by decide +kernel) ⟨Nat.le_of_ble_eq_true rfl, rfl⟩ rfl ?_
      refine e_iload (show pAt 138 38 = some (38, .iload 5, 2, []) from by decide +kernel) rfl ?_
      refine e_aload_n (show pAt 138 40 = some (40, .aload_n 0, 1, []) from by decide +kernel) rfl (ra (by decide)) ?_
      refine e_iload (show pAt 138 41 = some (41, .iload 7, 2, []) from by decide +kernel) rfl ?_
      refine e_iload_n (show pAt 138 43 = some (43, .iload_n 2, 1, []) from by decide +kernel) rfl ?_
      refine e_iload_n (show pAt 138 44 = some (44, .iload_n 3, 1, []) from by decide +kernel) rfl ?_
      refine Ends.call (show pAt 138 45 = some (45, .invokevirtual 271, 3, [137, 4, 0, 0, 5217, 5219, 82]) from by decide +kernel) (isRet_none rfl) rfl (call_this (show HS h1 from hs_h1) rfl rfl (by decide)) (Ends.mono vc ?_)
      rintro _ h8 ⟨r9, rfl, hs_h8, vc⟩
      refine e_if (t := 61) (show pAt 138 48 = some (48, .ifCond .eq 13, 3, []) from by decide +kernel) rfl (fun c11 => ?_) (fun c11 => ?_)
      · replace vc := vc.1 c11
        refine e_iconst (c := 0) (show pAt 138 61 = some (61, .iconst 0, 1, []) from by decide +kernel) (by decide) ?_
        refine e_iadd (show pAt 138 62 = some (62, .iadd, 1, []) from by decide +kernel) ?_
        refine e_istore (show pAt 138 63 = some (63, .istore 5, 2, []) from by decide +kernel) ⟨Nat.le_of_ble_eq_true rfl, rfl⟩ rfl ?_
        refine e_iinc (c := 1) (show pAt 138 65 = some (65, .iinc 7 1, 3, []) from by decide +kernel) rfl rfl (by decide) rfl ?_
        refine e_goto (t := 12) (show pAt 138 68 = some (68, .goto (-56), 3, []) from by decide +kernel) rfl ?_
        exact vc
      · replace vc := vc.2 c11
        refine e_aload_n (show pAt 138 51 = some (51, .aload_n 0, 1, []) from by decide +kernel) rfl (ra (by decide)) ?_
        refine e_gR (show pAt 138 52 = some (52, .getfield 62, 3, [7, 17, 0, 4140]) from by decide +kernel) (show HS h8 from hs_h8) rfl (by decide) (hs_ref (show HS h8 from hs_h8) rfl) ?_
        refine e_iload (show pAt 138 55 = some (55, .iload 7, 2, []) from by decide +kernel) rfl ?_
        obtain ⟨c12, vc⟩ := vc
        refine e_ald (show pAt 138 57 = some (57, .iaload, 1, []) from by decide +kernel) (show HS h8 from hs_h8) (by decide) c12 ?_
        refine e_goto (t := 62) (show pAt 138 58 = some (58, .goto 4, 3, []) from by decide +kernel) rfl ?_
        refine e_iadd (show pAt 138 62 = some (62, .iadd, 1, []) from by decide +kernel) ?_
        refine e_istore (show pAt 138 63 = some (63, .istore 5, 2, []) from by decide +kernel) ⟨Nat.le_of_ble_eq_true rfl, rfl⟩ rfl ?_
        refine e_iinc (c := 1) (show pAt 138 65 = some (65, .iinc 7 1, 3, []) from by decide +kernel) rfl rfl (by decide) rfl ?_
        refine e_goto (t := 12) (show pAt 138 68 = some (68, .goto (-56), 3, []) from by decide +kernel) rfl ?_
        exact vc
    · replace vc := vc.2 c7
      refine e_goto (t := 65) (show pAt 138 32 = some (32, .goto 33, 3, []) from by decide +kernel) rfl ?_
      refine e_iinc (c := 1) (show pAt 138 65 = some (65, .iinc 7 1, 3, []) from by decide +kernel) rfl rfl (by decide) rfl ?_
      refine e_goto (t := 12) (show pAt 138 68 = some (68, .goto (-56), 3, []) from by decide +kernel) rfl ?_
      exact vc
end JN64leaves
section JN65soexact
/-! Whether a clause holds, exactly. -/
theorem inB_iff {j : Int32} {n : Nat} (h1 : 0 ≤ j.toInt) (h2 : j.toInt < n) : inB j n = true := inB_of (r := (j.toInt, j.toInt)) (Int.le_refl _) (Int.le_refl _) h1 h2
theorem i1 : (1 : Int32).toInt = 1 := rfl
theorem im1 : (-1 : Int32).toInt = -1 := rfl
def b2i (b : Bool) : Int32 := if b = true then 1 else 0
theorem b2i_01 (b : Bool) : b2i b = 0 ∨ b2i b = 1 := by cases b <;> decide
theorem b2i_z {b : Bool} : (b2i b).toInt = 0 ↔ b = false := by cases b <;> decide
theorem HI_put {h : Hp} {a k : Nat} {x : Int32} (hh : HI h) (h1 : (ivl a k).1 ≤ x.toInt) (h2 : x.toInt ≤ (ivl a k).2) : HI (hpI h a k x) := by
  refine ⟨hh.1, fun a' k' => ?_, hh.2.2⟩
  show (ivl a' k').1 ≤ (ud h.2.1 a k x a' k').toInt ∧ (ud h.2.1 a k x a' k').toInt ≤ (ivl a' k').2
  unfold ud
  by_cases ha : a' = a
  · rw [if_pos ha]
    by_cases hk : k' = k
    · simp only [if_pos hk]
      rw [ha, hk]
      exact ⟨h1, h2⟩
    · simp only [if_neg hk]
      rw [ha]
      exact hh.2.1 a k'
  · rw [if_neg ha]
    exact hh.2.1 a' k'
theorem frm_put {W : List (Nat × Nat)} {h0 h : Hp} {a k : Nat} {x : Int32} (hf : frm W h0 h) (hw : inW W a k = true) : frm W h0 (hpI h a k x) := frm_trans hf (frm_ud hw)
theorem frI {W : List (Nat × Nat)} {h0 h : Hp} (hf : frm W h0 h) {a k : Nat} (ha : inW W a k = false) : h.2.1 a k = h0.2.1 a k := (hf a k ha).1
theorem put_at {h : Hp} {a k : Nat} {x : Int32} : (hpI h a k x).2.1 a k = x := by
  show ud h.2.1 a k x a k = x
  simp [ud]
theorem put_ne {h : Hp} {a k b j : Nat} {x : Int32} (hn : ¬ (b = a ∧ j = k)) : (hpI h a k x).2.1 b j = h.2.1 b j := by
  show ud h.2.1 a k x b j = _
  unfold ud
  by_cases hb : b = a
  · rw [if_pos hb]
    by_cases hj : j = k
    · exact absurd ⟨hb, hj⟩ hn
    · simp only [if_neg hj]
      rw [hb]
  · rw [if_neg hb]
def factM (h : Hp) (p l f : Int32) : Int32 := if f.toInt = 0 then p else if f.toInt = 1 then h.2.1 94 p.toNatClampNeg else if f.toInt = 2 then l else if f.toInt = 3 then h.2.1 98 p.toNatClampNeg else if f.toInt = 4 then h.2.1 97 p.toNatClampNeg else h.2.1 93 1 - h.2.1 93 1 / 10 * 10
theorem fact_ok {X : Scr} {dp : Nat} {h : Hp} {Q : Option Value → Hp → Prop} (f p l : Int32) (hs : HS h) (hp : 0 ≤ p.toInt) (hp2 : p.toInt ≤ 6) (hQ : Q (some (.int (factM h p l f))) h) : Ends X dp 136 0 [.ref 93, .int f, .int p, .int l] [] h Q := by
  have hi : inB p 7 = true := inB_iff hp (by omega)
  unfold factM at hQ
  refine w_fact f p l hs ⟨fun e => ?_, fun e => ?_, fun e => ⟨hi, ?_⟩, fun e => ?_, fun e => ⟨hi, ?_⟩, fun e => ⟨hi, ?_⟩⟩
  · rwa [if_neg (by omega), if_neg (by omega), if_neg (by omega), if_neg (by omega), if_neg (by omega)] at hQ
  · rwa [if_pos e] at hQ
  · rwa [if_neg (by omega), if_pos e] at hQ
  · rwa [if_neg (by omega), if_neg (by omega), if_pos e] at hQ
  · rwa [if_neg (by omega), if_neg (by omega), if_neg (by omega), if_pos e] at hQ
  · rwa [if_neg (by omega), if_neg (by omega), if_neg (by omega), if_neg (by omega), if_pos e] at hQ
/-- a test's truth -/
def tst (t is : Int32) : Bool := if (t / 100 - t / 100 / 10 * 10).toInt = 0 then decide (is.toInt < (t - t / 100 * 100).toInt) else if (t / 100 - t / 100 / 10 * 10).toInt = 1 then decide (is.toInt = (t - t / 100 * 100).toInt) else decide ((t - t / 100 * 100).toInt < is.toInt)
/-- signs in order, one behind what they join -/
def okS (s : Nat → Int32) : Nat → Nat → Nat → Bool
  | 0, _, n => decide (n = 1)
  | m + 1, i, n => if (s i).toInt = -33 then decide (1 ≤ n) && okS s m (i + 1) n else if (s i).toInt < 0 then decide (2 ≤ n) && okS s m (i + 1) (n - 1) else okS s m (i + 1) (n + 1)
def evS (s : Nat → Int32) (fc : Int32 → Int32) : Nat → Nat → List Bool → List Bool
  | 0, _, st => st
  | m + 1, i, st => if (s i).toInt = -33 then (match st with | b :: r => evS s fc m (i + 1) ((!b) :: r) | [] => []) else if (s i).toInt < 0 then (match st with | b :: a :: r => evS s fc m (i + 1) ((if (s i).toInt = -38 then a && b else a || b) :: r) | _ => []) else evS s fc m (i + 1) (tst (s i) (fc (s i)) :: st)
theorem evS_s (s : Nat → Int32) (fc : Int32 → Int32) (m i : Nat) (st : List Bool) : evS s fc (m + 1) i st = if (s i).toInt = -33 then (match st with | b :: r => evS s fc m (i + 1) ((!b) :: r) | [] => []) else if (s i).toInt < 0 then (match st with | b :: a :: r => evS s fc m (i + 1) ((if (s i).toInt = -38 then a && b else a || b) :: r) | _ => []) else evS s fc m (i + 1) (tst (s i) (fc (s i)) :: st) := rfl
theorem m33 : (-33 : Int32).toInt = -33 := rfl
theorem m38 : (-38 : Int32).toInt = -38 := rfl
def WPi : List (Nat × Nat) := [(109, 999)]
theorem WPi_in {k : Nat} : inW WPi 109 k = true := by simp [inW, WPi]
/-- the pile holds what stands so far -/
def PIL (h : Hp) (st : List Bool) : Prop := ∀ j, j < st.length → h.2.1 109 j = b2i (st.getD (st.length - 1 - j) false)
theorem PIL.push {h : Hp} {st : List Bool} {x : Bool} (hp : PIL h st) : PIL (hpI h 109 st.length (b2i x)) (x :: st) := by
  intro j hj
  simp only [List.length_cons] at hj ⊢
  by_cases e : j = st.length
  · subst e
    rw [put_at]
    simp
  · rw [put_ne (by omega), hp j (by omega), show st.length + 1 - 1 - j = (st.length - 1 - j) + 1 by omega]
    simp
theorem PIL.set {h : Hp} {st : List Bool} {x b : Bool} (hp : PIL h (b :: st)) : PIL (hpI h 109 st.length (b2i x)) (x :: st) := by
  refine PIL.push ?_
  intro j hj
  rw [hp j (by simp; omega), show (b :: st).length - 1 - j = (st.length - 1 - j) + 1 by simp; omega]
  simp
theorem PIL.tl {h : Hp} {st : List Bool} {b : Bool} (hp : PIL h (b :: st)) : PIL h st := by
  intro j hj
  rw [hp j (by simp; omega), show (b :: st).length - 1 - j = (st.length - 1 - j) + 1 by simp; omega]
  simp
theorem PIL.hd {h : Hp} {st : List Bool} {b : Bool} (hp : PIL h (b :: st)) : h.2.1 109 st.length = b2i b := by
  have := hp st.length (by simp)
  rwa [show (b :: st).length - 1 - st.length = 0 by simp] at this
theorem b2i_iv (b : Bool) (k : Nat) : (ivl 109 k).1 ≤ (b2i b).toInt ∧ (b2i b).toInt ≤ (ivl 109 k).2 := by
  show (0 : Int) ≤ _ ∧ _ ≤ (1 : Int)
  cases b <;> decide
set_option maxHeartbeats 1000000 in
theorem so_loop {X : Scr} {dp : Nat} {h0 : Hp} {Q : Option Value → Hp → Prop} (c p l : Int32) (hc : 0 ≤ c.toInt) (hc2 : c.toInt < 60) (hp : 0 ≤ p.toInt) (hp2 : p.toInt ≤ 6) :
    ∀ (m i : Nat) (st : List Bool) (n k : Int32) (va vb vd : Value) (h : Hp), HI h → frm WPi h0 h → n.toInt = st.length → k.toInt = i → (h0.2.1 105 c.toNatClampNeg).toInt = ((i + m : Nat) : Int) → i + m ≤ 600 → st.length + m ≤ 100 → okS (h0.2.1 106) m i st.length = true → PIL h st →
    (∀ h', HI h' → frm WPi h0 h' → ∀ b, evS (h0.2.1 106) (fun t => factM h0 p l (t / 1000)) m i st = [b] → Q (some (.int (b2i b))) h') →
    Ends X (dp + 1) 137 11 [.ref 93, .int c, .int p, .int l, .int n, .int k, va, vb, vd] [] h Q
  | 0, i, st, n, k, va, vb, vd, h, hh, hf, hn, hk, ht, h6, h1, hok, hpi, hQ => by
    have ht2 : (h.2.1 105 c.toNatClampNeg).toInt = i := by rw [frI hf rfl]; omega
    refine w_so1 c p l n k va vb vd hh.hs ⟨inB_iff hc hc2, fun _ => ⟨by decide, ?_⟩, fun e => ?_⟩
    · have hl : st.length = 1 := of_decide_eq_true hok
      match st, hl with
      | [b], _ =>
        have : h.2.1 109 (0 : Int32).toNatClampNeg = b2i b := hpi.hd
        rw [this]
        exact ⟨b2i_01 b, hQ h hh hf b rfl⟩
    · exfalso
      have e : ¬ (h.2.1 105 c.toNatClampNeg).toInt ≤ k.toInt := of_decide_eq_false (cI e)
      omega
  | m + 1, i, st, n, k, va, vb, vd, h, hh, hf, hn, hk, ht, h6, h1, hok, hpi, hQ => by
    have ih := so_loop (X := X) (dp := dp) (h0 := h0) (Q := Q) c p l hc hc2 hp hp2 m
    have ht2 : (h.2.1 105 c.toNatClampNeg).toInt = ((i + (m + 1) : Nat) : Int) := by rw [frI hf rfl]; exact ht
    have hki : k.toNatClampNeg = i := by show k.toInt.toNat = i; omega
    have hT : h.2.1 106 k.toNatClampNeg = h0.2.1 106 i := by rw [hki, frI hf rfl]
    have hk1 : (k + 1).toInt = ((i + 1 : Nat) : Int) := by rw [i_add (by rw [i1]; omega) (by rw [i1]; omega), i1]; omega
    have hto : (h0.2.1 105 c.toNatClampNeg).toInt = (((i + 1) + m : Nat) : Int) := by rw [ht]; omega
    have hni : n.toNatClampNeg = st.length := by show n.toInt.toNat = _; omega
    unfold okS at hok
    refine w_so1 c p l n k va vb vd hh.hs ⟨inB_iff hc hc2, fun e => ?_, fun e => ⟨inB_iff (by omega) (by omega), fun e2 => ⟨fun e3 => ?_, fun e3 => ?_⟩, fun e2 => ?_⟩⟩
    · exfalso
      have e : (h.2.1 105 c.toNatClampNeg).toInt ≤ k.toInt := of_decide_eq_true (cI e)
      omega
    · have e2 : ¬ (h.2.1 106 k.toNatClampNeg).toInt = (-33 : Int32).toInt := of_decide_eq_true (cI e2)
      have e3 : (0 : Int32).toInt ≤ (h.2.1 106 k.toNatClampNeg).toInt := of_decide_eq_true (cI e3)
      rw [hT] at e2 e3
      rw [m33] at e2
      rw [z0] at e3
      rw [if_neg e2, if_neg (by omega)] at hok
      have hQ' : ∀ h', HI h' → frm WPi h0 h' → ∀ b, evS (h0.2.1 106) (fun t => factM h0 p l (t / 1000)) m (i + 1) (tst (h0.2.1 106 i) (factM h0 p l (h0.2.1 106 i / 1000)) :: st) = [b] → Q (some (.int (b2i b))) h' := by
        intro h' a1 a2 b a3
        refine hQ h' a1 a2 b ?_
        rw [evS_s, if_neg e2, if_neg (by omega)]
        exact a3
      have hfm : factM h p l (h0.2.1 106 i / 1000) = factM h0 p l (h0.2.1 106 i / 1000) := by
        unfold factM
        rw [frI hf rfl, frI hf rfl, frI hf rfl, frI hf rfl]
      rw [hT]
      refine fact_ok _ p l hh.hs hp hp2 ?_
      refine ⟨_, rfl, hh.hs, ?_⟩
      rw [hfm]
      have hn1 : (n + 1).toInt = ((st.length + 1 : Nat) : Int) := by
        clear hk1
        rw [i_add (by rw [i1]; omega) (by rw [i1]; omega), i1]
        omega
      generalize n + 1 = n1 at hn1 ⊢
      generalize k + 1 = k1 at hk1 ⊢
      have push : ∀ (x : Bool) (va vb vd : Value), tst (h0.2.1 106 i) (factM h0 p l (h0.2.1 106 i / 1000)) = x → inB n 100 = true ∧ Ends X (dp + 1) 137 11 [.ref 93, .int c, .int p, .int l, .int n1, .int k1, va, vb, vd] [] (hpI h 109 n.toNatClampNeg (b2i x)) Q := by
        intro x va vb vd hx
        refine ⟨inB_iff (by omega) (by omega), ?_⟩
        rw [hx] at hQ'
        rw [hni]
        refine ih (i + 1) (x :: st) n1 k1 va vb vd _ (HI_put hh (b2i_iv x _).1 (b2i_iv x _).2) (frm_put hf WPi_in) ?_ hk1 hto (by omega) (by simp; omega) hok (PIL.push hpi) hQ'
        rw [hn1]
        simp
      refine ⟨fun a1 => ⟨fun a2 => ⟨fun a3 => ?_, fun a3 => ?_⟩, fun a2 => ⟨fun a3 => ?_, fun a3 => ?_⟩⟩, fun a1 => ⟨fun a3 => ?_, fun a3 => ?_⟩⟩
      all_goals (have a1 := cI a1; have a3 := cI a3; simp only [cndI, z0, decide_eq_true_eq, decide_eq_false_iff_not, Decidable.not_not] at a1 a3)
      · have a2 := cI a2; simp only [cndI, i1, decide_eq_true_eq, decide_eq_false_iff_not, Decidable.not_not] at a2
        exact push false _ _ _ (by unfold tst; rw [if_neg a1, if_neg a2]; exact decide_eq_false (by omega))
      · have a2 := cI a2; simp only [cndI, i1, decide_eq_true_eq, decide_eq_false_iff_not, Decidable.not_not] at a2
        exact push true _ _ _ (by unfold tst; rw [if_neg a1, if_neg a2]; exact decide_eq_true (by omega))
      · have a2 := cI a2; simp only [cndI, i1, decide_eq_true_eq, decide_eq_false_iff_not, Decidable.not_not] at a2
        exact push false _ _ _ (by unfold tst; rw [if_neg a1, if_pos a2]; exact decide_eq_false (by omega))
      · have a2 := cI a2; simp only [cndI, i1, decide_eq_true_eq, decide_eq_false_iff_not, Decidable.not_not] at a2
        exact push true _ _ _ (by unfold tst; rw [if_neg a1, if_pos a2]; exact decide_eq_true (by omega))
      · exact push false _ _ _ (by unfold tst; rw [if_pos a1]; exact decide_eq_false (by omega))
      · exact push true _ _ _ (by unfold tst; rw [if_pos a1]; exact decide_eq_true (by omega))
    · have e2 : ¬ (h.2.1 106 k.toNatClampNeg).toInt = (-33 : Int32).toInt := of_decide_eq_true (cI e2)
      have e3 : ¬ (0 : Int32).toInt ≤ (h.2.1 106 k.toNatClampNeg).toInt := of_decide_eq_false (cI e3)
      rw [hT] at e2 e3
      rw [m33] at e2
      rw [z0] at e3
      rw [if_neg e2, if_pos (by omega)] at hok
      obtain ⟨o1, o2⟩ := (Bool.and_eq_true _ _).mp hok
      have o1 := of_decide_eq_true o1
      match st, o1 with
      | b :: a :: r, _ =>
        simp only [List.length_cons] at hn h1 o2 hni
        have hQ' : ∀ h', HI h' → frm WPi h0 h' → ∀ z, evS (h0.2.1 106) (fun t => factM h0 p l (t / 1000)) m (i + 1) ((if (h0.2.1 106 i).toInt = -38 then a && b else a || b) :: r) = [z] → Q (some (.int (b2i z))) h' := by
          intro h' a1 a2 b a3
          refine hQ h' a1 a2 b ?_
          rw [evS_s, if_neg e2, if_pos (by omega)]
          exact a3
        generalize k + 1 = k1 at hk1 ⊢
        have hn1 : (n + -1).toInt = ((r.length + 1 : Nat) : Int) := by rw [i_add (by rw [im1]; omega) (by rw [im1]; omega), im1]; omega
        generalize n + -1 = n1 at hn1 ⊢
        have hn2 : (n1 - 1).toInt = ((r.length : Nat) : Int) := by rw [i_sub (by rw [i1]; omega) (by rw [i1]; omega), i1]; omega
        generalize n1 - 1 = n2 at hn2 ⊢
        have c1 : n1.toNatClampNeg = r.length + 1 := by show n1.toInt.toNat = _; omega
        have c2 : n2.toNatClampNeg = r.length := by show n2.toInt.toNat = _; omega
        have j1 : inB n1 100 = true := inB_iff (by omega) (by omega)
        have j2 : inB n2 100 = true := inB_iff (by omega) (by omega)
        have vb1 : h.2.1 109 n1.toNatClampNeg = b2i b := by rw [c1]; exact hpi.hd
        have va1 : h.2.1 109 n2.toNatClampNeg = b2i a := by rw [c2]; exact hpi.tl.hd
        have pop : ∀ (x : Bool) (va vb vd : Value), (if (h0.2.1 106 i).toInt = -38 then a && b else a || b) = x → inB n2 100 = true ∧ Ends X (dp + 1) 137 11 [.ref 93, .int c, .int p, .int l, .int n1, .int k1, va, vb, vd] [] (hpI h 109 n2.toNatClampNeg (b2i x)) Q := by
          intro x va vb vd hx
          refine ⟨j2, ?_⟩
          rw [hx] at hQ'
          rw [c2]
          refine ih (i + 1) (x :: r) n1 k1 va vb vd _ (HI_put hh (b2i_iv x _).1 (b2i_iv x _).2) (frm_put hf WPi_in) (by rw [hn1]; simp) hk1 hto (by omega) (by simp; omega) ?_ (PIL.set hpi.tl) hQ'
          simpa using o2
        rw [hT, va1, vb1]
        refine ⟨fun a1 => ⟨j2, fun a2 => ?_, fun a2 => ⟨j1, fun a3 => ?_, fun a3 => ?_⟩⟩, fun a1 => ⟨j2, fun a2 => ?_, fun a2 => ⟨j1, fun a3 => ?_, fun a3 => ?_⟩⟩⟩
        all_goals (have a1 := cI a1; have a2 := cI a2; simp only [cndI, z0, m38, decide_eq_true_eq, decide_eq_false_iff_not, Decidable.not_not, b2i_z, Bool.not_eq_false] at a1 a2)
        · exact pop true _ _ _ (by rw [if_neg a1, a2]; rfl)
        · have a3 := cI a3; simp only [cndI, z0, decide_eq_true_eq, decide_eq_false_iff_not, Decidable.not_not, b2i_z, Bool.not_eq_false] at a3
          exact pop false _ _ _ (by rw [if_neg a1, (by simpa using a2 : a = false), a3]; rfl)
        · have a3 := cI a3; simp only [cndI, z0, decide_eq_true_eq, decide_eq_false_iff_not, Decidable.not_not, b2i_z, Bool.not_eq_false] at a3
          exact pop true _ _ _ (by rw [if_neg a1, (by simpa using a2 : a = false), a3]; rfl)
        · exact pop false _ _ _ (by rw [if_pos a1, a2]; rfl)
        · have a3 := cI a3; simp only [cndI, z0, decide_eq_true_eq, decide_eq_false_iff_not, Decidable.not_not, b2i_z, Bool.not_eq_false] at a3
          exact pop false _ _ _ (by rw [if_pos a1, (by simpa using a2 : a = true), a3]; rfl)
        · have a3 := cI a3; simp only [cndI, z0, decide_eq_true_eq, decide_eq_false_iff_not, Decidable.not_not, b2i_z, Bool.not_eq_false] at a3
          exact pop true _ _ _ (by rw [if_pos a1, (by simpa using a2 : a = true), a3]; rfl)
    · have e2 : ¬ ¬ (h.2.1 106 k.toNatClampNeg).toInt = (-33 : Int32).toInt := of_decide_eq_false (cI e2)
      rw [hT] at e2
      rw [m33, Decidable.not_not] at e2
      rw [if_pos e2] at hok
      obtain ⟨o1, o2⟩ := (Bool.and_eq_true _ _).mp hok
      have o1 := of_decide_eq_true o1
      match st, o1 with
      | b :: r, _ =>
        simp only [List.length_cons] at hn h1 o2 hni
        have hQ' : ∀ h', HI h' → frm WPi h0 h' → ∀ z, evS (h0.2.1 106) (fun t => factM h0 p l (t / 1000)) m (i + 1) ((!b) :: r) = [z] → Q (some (.int (b2i z))) h' := by
          intro h' a1 a2 b a3
          refine hQ h' a1 a2 b ?_
          rw [evS_s, if_pos e2]
          exact a3
        generalize k + 1 = k1 at hk1 ⊢
        have hn1 : (n - 1).toInt = ((r.length : Nat) : Int) := by rw [i_sub (by rw [i1]; omega) (by rw [i1]; omega), i1]; omega
        generalize n - 1 = n1 at hn1 ⊢
        have c1 : n1.toNatClampNeg = r.length := by show n1.toInt.toNat = _; omega
        have j1 : inB n1 100 = true := inB_iff (by omega) (by omega)
        have vb1 : h.2.1 109 n1.toNatClampNeg = b2i b := by rw [c1]; exact hpi.hd
        have neg : ∀ (x : Bool) (va vb vd : Value), (!b) = x → inB n1 100 = true ∧ Ends X (dp + 1) 137 11 [.ref 93, .int c, .int p, .int l, .int n, .int k1, va, vb, vd] [] (hpI h 109 n1.toNatClampNeg (b2i x)) Q := by
          intro x va vb vd hx
          refine ⟨j1, ?_⟩
          rw [hx] at hQ'
          rw [c1]
          exact ih (i + 1) (x :: r) n k1 va vb vd _ (HI_put hh (b2i_iv x _).1 (b2i_iv x _).2) (frm_put hf WPi_in) (by simpa using hn) hk1 hto (by omega) (by simp; omega) (by simpa using o2) (PIL.set hpi) hQ'
        rw [hT, vb1]
        refine ⟨j1, fun a2 => ?_, fun a2 => ?_⟩
        all_goals (have a2 := cI a2; simp only [cndI, z0, decide_eq_true_eq, decide_eq_false_iff_not, Decidable.not_not, b2i_z, Bool.not_eq_false] at a2)
        · exact neg false _ _ _ (by rw [(by simpa using a2 : b = true)]; rfl)
        · exact neg true _ _ _ (by rw [(by simpa using a2 : b = false)]; rfl)
end JN65soexact
section JN66sumof
/-! The sum of the clauses of a word that hold, exactly. -/
def clOK (h : Hp) (c : Nat) : Prop := ∃ a m : Nat, (h.2.1 104 c).toInt = a ∧ (h.2.1 105 c).toInt = ((a + m : Nat) : Int) ∧ a + m ≤ 600 ∧ m ≤ 100 ∧ okS (h.2.1 106) m a 0 = true
/-- every yard that was read is of clauses that stand well -/
def TX (h : Hp) : Prop := (h.2.1 93 10).toInt < (h.2.1 93 9).toInt ∧ (h.2.1 93 45).toInt < (h.2.1 93 9).toInt ∧ ∀ f c : Nat, (f : Int) < (h.2.1 93 9).toInt → (c : Int) < (h.2.1 101 f).toInt → clOK h (10 * f + c) ∧ (h.2.1 105 (10 * f + c)).toInt ≤ ((100 * f + 100 : Nat) : Int)
/-- from where and how many clauses the yard that holds has -/
def cB0 (h : Hp) : Nat := if 0 ≤ (h.2.1 93 10).toInt then 10 * (h.2.1 93 10).toInt.toNat else 0
def cN0 (h : Hp) : Nat := if 0 ≤ (h.2.1 93 10).toInt then (h.2.1 101 (h.2.1 93 10).toInt.toNat).toInt.toNat else 0
def soB (h : Hp) (p l : Int32) (c : Nat) : Bool := (evS (h.2.1 106) (fun t => factM h p l (t / 1000)) ((h.2.1 105 c).toInt - (h.2.1 104 c).toInt).toNat (h.2.1 104 c).toInt.toNat []).headD false
def sumF (h : Hp) (w p l : Int32) : Nat → Nat → Int32 → Int32 → Int32 × Int32
  | 0, _, s, g => (s, g)
  | m + 1, c, s, g => if (h.2.1 102 c).toInt = w.toInt then sumF h w p l m (c + 1) (s + (if soB h p l c = true then h.2.1 103 c else 0)) 1 else sumF h w p l m (c + 1) s g
def sumM (h : Hp) (w p l z : Int32) : Int32 := if (sumF h w p l (cN0 h) (cB0 h) 0 0).2.toInt = 0 then z else (sumF h w p l (cN0 h) (cB0 h) 0 0).1
theorem i10 : (10 : Int32).toInt = 10 := rfl
/-- what HI says of a cell -/
theorem HI.iv {h : Hp} (hh : HI h) (a k : Nat) {r : Int × Int} (hr : ivl a k = r) : r.1 ≤ (h.2.1 a k).toInt ∧ (h.2.1 a k).toInt ≤ r.2 := by
  subst hr
  exact hh.2.1 a k
theorem begin_ok {X : Scr} {dp : Nat} {h : Hp} {Q : Option Value → Hp → Prop} (hh : HI h) (hQ : ∀ r : Int32, r.toInt = cB0 h → Q (some (.int r)) h) : Ends X dp 134 0 [.ref 93] [] h Q := by
  have ht := hh.iv 93 10 (r := (-1, 5)) rfl
  simp only at ht
  unfold cB0 at hQ
  refine w_begin hh.hs ⟨fun e => ?_, fun e => ?_⟩
  · have e : (0 : Int32).toInt ≤ (h.2.1 93 10).toInt := of_decide_eq_true (cI e)
    rw [z0] at e
    refine hQ _ ?_
    rw [if_pos e, i_mul (by rw [i10]; omega) (by rw [i10]; omega), i10]
    omega
  · have e : ¬ (0 : Int32).toInt ≤ (h.2.1 93 10).toInt := of_decide_eq_false (cI e)
    rw [z0] at e
    refine hQ _ ?_
    rw [if_neg e]
    rfl
theorem behind_ok {X : Scr} {dp : Nat} {h : Hp} {Q : Option Value → Hp → Prop} (hh : HI h) (hQ : ∀ r : Int32, r.toInt = ((cB0 h + cN0 h : Nat) : Int) → Q (some (.int r)) h) : Ends X dp 135 0 [.ref 93] [] h Q := by
  have ht := hh.iv 93 10 (r := (-1, 5)) rfl
  simp only at ht
  unfold cB0 cN0 at hQ
  refine w_behind hh.hs ⟨fun e => ?_, fun e => ?_⟩
  · have e : (0 : Int32).toInt ≤ (h.2.1 93 10).toInt := of_decide_eq_true (cI e)
    rw [z0] at e
    refine ⟨inB_iff e (by omega), hQ _ ?_⟩
    have hc := hh.iv 101 (h.2.1 93 10).toInt.toNat (r := (0, 10)) rfl
    simp only at hc
    rw [if_pos e, if_pos e]
    have e1 : (10 * h.2.1 93 10).toInt = 10 * (h.2.1 93 10).toInt := by rw [i_mul (by rw [i10]; omega) (by rw [i10]; omega), i10]
    generalize 10 * h.2.1 93 10 = t at e1 ⊢
    show (t + h.2.1 101 (h.2.1 93 10).toInt.toNat).toInt = _
    generalize h.2.1 101 (h.2.1 93 10).toInt.toNat = u at hc ⊢
    rw [i_add (by omega) (by omega), e1]
    omega
  · have e : ¬ (0 : Int32).toInt ≤ (h.2.1 93 10).toInt := of_decide_eq_false (cI e)
    rw [z0] at e
    refine hQ _ ?_
    rw [if_neg e, if_neg e]
    rfl
theorem soB_fr {h0 h : Hp} (hf : frm WPi h0 h) (p l : Int32) (c : Nat) : soB h p l c = soB h0 p l c := by
  have e : h.2.1 106 = h0.2.1 106 := by funext k; exact frI hf rfl
  have e2 : (fun t => factM h p l (t / 1000)) = (fun t => factM h0 p l (t / 1000)) := by
    funext t
    unfold factM
    rw [frI hf rfl, frI hf rfl, frI hf rfl, frI hf rfl]
  unfold soB
  rw [e, e2, frI hf rfl, frI hf rfl]
theorem okS_one {s : Nat → Int32} {fc : Int32 → Int32} : ∀ (m i : Nat) (st : List Bool), okS s m i st.length = true → (evS s fc m i st).length = 1
  | 0, i, st, h => of_decide_eq_true h
  | m + 1, i, st, h => by
    unfold okS at h
    rw [evS_s]
    by_cases h1 : (s i).toInt = -33
    · rw [if_pos h1] at h ⊢
      obtain ⟨o1, o2⟩ := (Bool.and_eq_true _ _).mp h
      match st, of_decide_eq_true o1, o2 with
      | b :: r, _, o2 => exact okS_one m (i + 1) ((!b) :: r) o2
    · rw [if_neg h1] at h ⊢
      by_cases h2 : (s i).toInt < 0
      · rw [if_pos h2] at h ⊢
        obtain ⟨o1, o2⟩ := (Bool.and_eq_true _ _).mp h
        match st, of_decide_eq_true o1, o2 with
        | b :: a :: r, _, o2 => exact okS_one m (i + 1) (_ :: r) o2
      · rw [if_neg h2] at h ⊢
        exact okS_one m (i + 1) (_ :: st) h
theorem so_ok {X : Scr} {dp : Nat} {h0 h : Hp} {Q : Option Value → Hp → Prop} (c p l : Int32) (cn : Nat) (hcn : c.toInt = cn) (hc2 : cn < 60) (hp : 0 ≤ p.toInt) (hp2 : p.toInt ≤ 6) (hh : HI h) (hf : frm WPi h0 h) (hcl : clOK h0 cn) (hQ : ∀ h', HI h' → frm WPi h0 h' → Q (some (.int (b2i (soB h0 p l cn)))) h') :
    Ends X (dp + 1) 137 0 [.ref 93, .int c, .int p, .int l, .retAddr 0, .retAddr 0, .retAddr 0, .retAddr 0, .retAddr 0] [] h Q := by
  obtain ⟨a, m, e1, e2, e3, e4, e5⟩ := hcl
  have hcc : c.toNatClampNeg = cn := by show c.toInt.toNat = _; omega
  refine w_so0 c p l hh.hs ⟨inB_iff (by omega) (by omega), ?_⟩
  refine so_loop (h0 := h0) c p l (by omega) (by omega) hp hp2 m a [] 0 _ _ _ _ h hh hf rfl (by rw [hcc, frI hf rfl]; exact e1) (by rw [hcc]; exact e2) e3 (by simpa using e4) e5 (fun j hj => absurd hj (by simp)) ?_
  intro h' a1 a2 b hb
  have : soB h0 p l cn = b := by
    unfold soB
    have q1 : ((h0.2.1 105 cn).toInt - (h0.2.1 104 cn).toInt).toNat = m := by omega
    have q2 : (h0.2.1 104 cn).toInt.toNat = a := by omega
    rw [q1, q2, hb]
    rfl
  rw [← this]
  exact hQ h' a1 a2
theorem sum_loop {X : Scr} {dp : Nat} {h0 : Hp} {Q : Option Value → Hp → Prop} (w p l z : Int32) (hp : 0 ≤ p.toInt) (hp2 : p.toInt ≤ 6) (hle : cB0 h0 + cN0 h0 ≤ 60) (hcl : ∀ c, cB0 h0 ≤ c → c < cB0 h0 + cN0 h0 → clOK h0 c) :
    ∀ (m cn : Nat) (s g c : Int32) (h : Hp), HI h → frm WPi h0 h → c.toInt = cn → cn + m = cB0 h0 + cN0 h0 → cB0 h0 ≤ cn →
    (∀ h', HI h' → frm WPi h0 h' → Q (some (.int (if (sumF h0 w p l m cn s g).2.toInt = 0 then z else (sumF h0 w p l m cn s g).1))) h') →
    Ends X (dp + 1 + 1) 138 12 [.ref 93, .int w, .int p, .int l, .int z, .int s, .int g, .int c] [] h Q
  | m, cn, s, g, c, h, hh, hf, hc, hm, hb, hQ => by
    have eB : cB0 h = cB0 h0 := by unfold cB0; rw [frI hf rfl]
    have eN : cN0 h = cN0 h0 := by unfold cN0; rw [frI hf rfl, frI hf rfl]
    have hcc : c.toNatClampNeg = cn := by show c.toInt.toNat = _; omega
    refine w_sum1 w p l z s g c hh.hs (behind_ok hh (fun r hr => ⟨r, rfl, hh.hs, fun e => ?_, fun e => ?_⟩))
    · have e : r.toInt ≤ c.toInt := of_decide_eq_true (cI e)
      rw [eB, eN] at hr
      have hm0 : m = 0 := by omega
      subst hm0
      have hQ := hQ h hh hf
      unfold sumF at hQ
      simp only at hQ
      refine ⟨fun e2 => ?_, fun e2 => ?_⟩
      · have e2 : g.toInt = 0 := of_decide_eq_true (cI e2)
        rwa [if_pos e2] at hQ
      · have e2 : ¬ g.toInt = 0 := of_decide_eq_false (cI e2)
        rwa [if_neg e2] at hQ
    · have e : ¬ r.toInt ≤ c.toInt := of_decide_eq_false (cI e)
      rw [eB, eN] at hr
      match m, hm, hQ with
      | 0, hm, _ => omega
      | m + 1, hm, hQ =>
        have ih := sum_loop (X := X) (dp := dp) (h0 := h0) (Q := Q) w p l z hp hp2 hle hcl m (cn + 1)
        have hk1 : (c + 1).toInt = ((cn + 1 : Nat) : Int) := by rw [i_add (by rw [i1]; omega) (by rw [i1]; omega), i1]; omega
        generalize c + 1 = c1 at hk1 ⊢
        have hw : h.2.1 102 c.toNatClampNeg = h0.2.1 102 cn := by rw [hcc, frI hf rfl]
        rw [hw]
        have hi : inB c 60 = true := inB_iff (by omega) (by omega)
        refine ⟨hi, fun e2 => ?_, fun e2 => ?_⟩
        · have e2 : (h0.2.1 102 cn).toInt = w.toInt := of_decide_eq_true (cI e2)
          refine so_ok c p l cn hc (by omega) hp hp2 hh hf (hcl cn hb (by omega)) (fun h' a1 a2 => ⟨_, rfl, a1.hs, fun e3 => ?_, fun e3 => ⟨hi, ?_⟩⟩)
          · have e3 : (b2i (soB h0 p l cn)).toInt = 0 := of_decide_eq_true (cI e3)
            rw [b2i_z] at e3
            refine ih _ 1 c1 h' a1 a2 hk1 (by omega) (by omega) (fun h'' b1 b2 => ?_)
            have := hQ h'' b1 b2
            rw [sumF, if_pos e2, e3, if_neg Bool.false_ne_true] at this
            exact this
          · have e3 : ¬ (b2i (soB h0 p l cn)).toInt = 0 := of_decide_eq_false (cI e3)
            rw [b2i_z, Bool.not_eq_false] at e3
            have hv : h'.2.1 103 c.toNatClampNeg = h0.2.1 103 cn := by rw [hcc, frI a2 rfl]
            rw [hv]
            refine ih _ 1 c1 h' a1 a2 hk1 (by omega) (by omega) (fun h'' b1 b2 => ?_)
            have := hQ h'' b1 b2
            rw [sumF, if_pos e2, e3, if_pos rfl] at this
            exact this
        · have e2 : ¬ (h0.2.1 102 cn).toInt = w.toInt := of_decide_eq_false (cI e2)
          refine ih s g c1 h hh hf hk1 (by omega) (by omega) (fun h'' b1 b2 => ?_)
          have := hQ h'' b1 b2
          rw [sumF, if_neg e2] at this
          exact this
theorem TX_cl {h : Hp} (hh : HI h) (ht : TX h) : cB0 h + cN0 h ≤ 60 ∧ ∀ c, cB0 h ≤ c → c < cB0 h + cN0 h → clOK h c := by
  have h1 := hh.iv 93 10 (r := (-1, 5)) rfl
  simp only at h1
  unfold cB0 cN0
  by_cases h0 : 0 ≤ (h.2.1 93 10).toInt
  · rw [if_pos h0, if_pos h0]
    have hc := hh.iv 101 (h.2.1 93 10).toInt.toNat (r := (0, 10)) rfl
    simp only at hc
    refine ⟨by omega, fun c c1 c2 => ?_⟩
    have := (ht.2.2 (h.2.1 93 10).toInt.toNat (c - 10 * (h.2.1 93 10).toInt.toNat) (by have := ht.1; omega) (by omega)).1
    rwa [show 10 * (h.2.1 93 10).toInt.toNat + (c - 10 * (h.2.1 93 10).toInt.toNat) = c by omega] at this
  · rw [if_neg h0, if_neg h0]
    exact ⟨by omega, fun c c1 c2 => by omega⟩
/-- the sum, exactly -/
theorem sum_ok {X : Scr} {dp : Nat} {h : Hp} {Q : Option Value → Hp → Prop} (w p l z : Int32) (hp : 0 ≤ p.toInt) (hp2 : p.toInt ≤ 6) (hh : HI h) (ht : TX h) (hQ : ∀ h', HI h' → frm WPi h h' → Q (some (.int (sumM h w p l z))) h') :
    Ends X (dp + 1 + 1) 138 0 [.ref 93, .int w, .int p, .int l, .int z, .retAddr 0, .retAddr 0, .retAddr 0] [] h Q := by
  obtain ⟨t1, t2⟩ := TX_cl hh ht
  refine w_sum0 w p l z hh.hs (begin_ok hh (fun r hr => ⟨r, rfl, hh.hs, ?_⟩))
  exact sum_loop w p l z hp hp2 t1 t2 (cN0 h) (cB0 h) 0 0 r h hh frm_refl hr rfl (Nat.le_refl _) hQ
end JN66sumof
section JN67order
/-! Who goes when, exactly. -/
def bitB (s k : Int32) : Bool := decide (((s >>> (k &&& 31)) &&& 1).toInt = 1)
def runM (h : Hp) (p : Int32) : Bool := !bitB (h.2.1 93 2 ||| h.2.1 93 32) p
def waitM (h : Hp) (p : Int32) : Bool := decide ((h.2.1 94 p.toNatClampNeg).toInt = 3) || decide ((h.2.1 94 p.toNatClampNeg).toInt = 6)
def aheadM (h : Hp) (a b : Int32) : Bool := if waitM h a = waitM h b then decide ((h.2.1 97 b.toNatClampNeg).toInt < (h.2.1 97 a.toNatClampNeg).toInt) || (decide ((h.2.1 97 a.toNatClampNeg).toInt = (h.2.1 97 b.toNatClampNeg).toInt) && decide (a.toInt < b.toInt)) else waitM h b
theorem has_ok {X : Scr} {dp : Nat} {h : Hp} {Q : Option Value → Hp → Prop} (s k : Int32) (hs : HS h) (hQ : Q (some (.int (b2i (bitB s k)))) h) : Ends X dp 110 0 [.ref 93, .int s, .int k] [] h Q := by
  refine w_has s k hs ⟨fun e => ?_, fun e => ?_⟩
  · have e : ¬ ((s >>> (k &&& 31)) &&& 1).toInt = 1 := of_decide_eq_true (cI e)
    have : bitB s k = false := decide_eq_false e
    rwa [this] at hQ
  · have e : ¬ ¬ ((s >>> (k &&& 31)) &&& 1).toInt = 1 := of_decide_eq_false (cI e)
    have : bitB s k = true := decide_eq_true (Decidable.not_not.mp e)
    rwa [this] at hQ
theorem run_ok {X : Scr} {dp : Nat} {h : Hp} {Q : Option Value → Hp → Prop} (p : Int32) (hs : HS h) (hQ : Q (some (.int (b2i (runM h p)))) h) : Ends X (dp + 1) 139 0 [.ref 93, .int p] [] h Q := by
  refine w_isRunning p hs (has_ok _ _ hs ⟨_, rfl, hs, fun e => ?_, fun e => ?_⟩)
  · have e : ¬ (b2i (bitB (h.2.1 93 2 ||| h.2.1 93 32) p)).toInt = 0 := of_decide_eq_true (cI e)
    rw [b2i_z, Bool.not_eq_false] at e
    unfold runM at hQ
    rw [e] at hQ
    exact hQ
  · have e : ¬ ¬ (b2i (bitB (h.2.1 93 2 ||| h.2.1 93 32) p)).toInt = 0 := of_decide_eq_false (cI e)
    rw [Decidable.not_not, b2i_z] at e
    unfold runM at hQ
    rw [e] at hQ
    exact hQ
theorem waits_ok {X : Scr} {dp : Nat} {h : Hp} {Q : Option Value → Hp → Prop} (p : Int32) (hs : HS h) (hp : 0 ≤ p.toInt) (hp2 : p.toInt ≤ 6) (hQ : Q (some (.int (b2i (waitM h p)))) h) : Ends X dp 151 0 [.ref 93, .int p] [] h Q := by
  have hi : inB p 7 = true := inB_iff hp (by omega)
  unfold waitM at hQ
  refine w_waits p hs ⟨hi, fun e => ?_, fun e => ⟨hi, fun e2 => ?_, fun e2 => ?_⟩⟩
  · have e : (h.2.1 94 p.toNatClampNeg).toInt = 3 := of_decide_eq_true (cI e)
    rwa [decide_eq_true e] at hQ
  · have e : ¬ (h.2.1 94 p.toNatClampNeg).toInt = 3 := of_decide_eq_false (cI e)
    have e2 : ¬ (h.2.1 94 p.toNatClampNeg).toInt = 6 := of_decide_eq_true (cI e2)
    rwa [decide_eq_false e, decide_eq_false e2] at hQ
  · have e : ¬ (h.2.1 94 p.toNatClampNeg).toInt = 3 := of_decide_eq_false (cI e)
    have e2 : ¬ ¬ (h.2.1 94 p.toNatClampNeg).toInt = 6 := of_decide_eq_false (cI e2)
    rwa [decide_eq_false e, decide_eq_true (Decidable.not_not.mp e2)] at hQ
theorem b2i_inj {a b : Bool} : (b2i a).toInt = (b2i b).toInt ↔ a = b := by cases a <;> cases b <;> decide
theorem ahead_ok {X : Scr} {dp : Nat} {h : Hp} {Q : Option Value → Hp → Prop} (a b : Int32) (hs : HS h) (ha : 0 ≤ a.toInt) (ha2 : a.toInt ≤ 6) (hb : 0 ≤ b.toInt) (hb2 : b.toInt ≤ 6) (hQ : Q (some (.int (b2i (aheadM h a b)))) h) : Ends X (dp + 1) 152 0 [.ref 93, .int a, .int b] [] h Q := by
  have hia : inB a 7 = true := inB_iff ha (by omega)
  have hib : inB b 7 = true := inB_iff hb (by omega)
  refine w_ahead a b hs (waits_ok a hs ha ha2 ⟨_, rfl, hs, waits_ok b hs hb hb2 ⟨_, rfl, hs, fun e => ?_, fun e => ?_⟩⟩)
  · have e : (b2i (waitM h a)).toInt = (b2i (waitM h b)).toInt := of_decide_eq_true (cI e)
    rw [b2i_inj] at e
    unfold aheadM at hQ
    rw [if_pos e] at hQ
    refine ⟨hia, hib, fun c => ?_, fun c => ⟨hia, hib, fun d => ?_, fun d => ⟨fun f => ?_, fun f => ?_⟩⟩⟩
    · have c : (h.2.1 97 b.toNatClampNeg).toInt < (h.2.1 97 a.toNatClampNeg).toInt := of_decide_eq_true (cI c)
      rwa [decide_eq_true c] at hQ
    · have c : ¬ (h.2.1 97 b.toNatClampNeg).toInt < (h.2.1 97 a.toNatClampNeg).toInt := of_decide_eq_false (cI c)
      have d : ¬ (h.2.1 97 a.toNatClampNeg).toInt = (h.2.1 97 b.toNatClampNeg).toInt := of_decide_eq_true (cI d)
      rwa [decide_eq_false c, decide_eq_false d] at hQ
    · have c : ¬ (h.2.1 97 b.toNatClampNeg).toInt < (h.2.1 97 a.toNatClampNeg).toInt := of_decide_eq_false (cI c)
      have f : b.toInt ≤ a.toInt := of_decide_eq_true (cI f)
      rwa [decide_eq_false c, decide_eq_false (show ¬ a.toInt < b.toInt by omega), Bool.and_false] at hQ
    · have c : ¬ (h.2.1 97 b.toNatClampNeg).toInt < (h.2.1 97 a.toNatClampNeg).toInt := of_decide_eq_false (cI c)
      have d : ¬ ¬ (h.2.1 97 a.toNatClampNeg).toInt = (h.2.1 97 b.toNatClampNeg).toInt := of_decide_eq_false (cI d)
      have f : ¬ b.toInt ≤ a.toInt := of_decide_eq_false (cI f)
      rwa [decide_eq_false c, decide_eq_true (Decidable.not_not.mp d), decide_eq_true (show a.toInt < b.toInt by omega)] at hQ
  · have e : ¬ (b2i (waitM h a)).toInt = (b2i (waitM h b)).toInt := of_decide_eq_false (cI e)
    rw [b2i_inj] at e
    unfold aheadM at hQ
    rw [if_neg e] at hQ
    exact waits_ok b hs hb hb2 ⟨_, rfl, hs, b2i_01 _, hQ⟩
/-- the row of those who go -/
def OL (h : Hp) (l : List Int32) : Prop := (h.2.1 93 34).toInt = l.length ∧ ∀ j, j < l.length → h.2.1 110 j = l.getD j 0
def ins (l : List Int32) (k : Nat) (p : Int32) : List Int32 := l.take k ++ p :: l.drop k
theorem ins_len {l : List Int32} {k : Nat} {p : Int32} (hk : k ≤ l.length) : (ins l k p).length = l.length + 1 := by
  unfold ins
  simp
  omega
theorem ins_get {l : List Int32} {k : Nat} {p : Int32} (hk : k ≤ l.length) (j : Nat) : (ins l k p).getD j 0 = if j < k then l.getD j 0 else if j = k then p else l.getD (j - 1) 0 := by
  unfold ins
  have hl : (l.take k).length = k := by simp; omega
  by_cases h1 : j < k
  · rw [if_pos h1, List.getD_eq_getElem?_getD, List.getElem?_append_left (by omega), List.getElem?_take, if_pos h1, List.getD_eq_getElem?_getD]
  · rw [if_neg h1, List.getD_eq_getElem?_getD, List.getElem?_append_right (by omega), hl]
    by_cases h2 : j = k
    · rw [if_pos h2, h2, Nat.sub_self]
      rfl
    · rw [if_neg h2, show j - k = (j - k - 1) + 1 by omega, List.getElem?_cons_succ, List.getElem?_drop, List.getD_eq_getElem?_getD, show k + (j - k - 1) = j - 1 by omega]
def WO : List (Nat × Nat) := [(110, 999), (93, 34)]
theorem WO_a {k : Nat} : inW WO 110 k = true := by simp [inW, WO]
theorem put_loop {X : Scr} {dp : Nat} {h0 : Hp} {Q : Option Value → Hp → Prop} (p k : Int32) (kn : Nat) (l : List Int32) (hk : k.toInt = kn) (hkl : kn ≤ l.length) (hl : l.length ≤ 6) (hp : 0 ≤ p.toInt) (hp2 : p.toInt ≤ 6)
    (hQ : ∀ h', HI h' → frm WO h0 h' → OL h' (ins l kn p) → Q none h') :
    ∀ (m : Nat) (j : Int32) (h : Hp), HI h → frm WO h0 h → j.toInt = ((kn + m : Nat) : Int) → kn + m ≤ l.length → (h.2.1 93 34).toInt = l.length → (∀ i, i < kn + m → h.2.1 110 i = l.getD i 0) → (∀ i, kn + m < i → i ≤ l.length → h.2.1 110 i = l.getD (i - 1) 0) →
    Ends X dp 153 5 [.ref 93, .int p, .int k, .int j] [] h Q
  | 0, j, h, hh, hf, hj, hm, hg, h1, h2 => by
    have hkk : k.toNatClampNeg = kn := by show k.toInt.toNat = _; omega
    refine w_put1 p k j hh.hs ⟨fun e => ⟨inB_iff (by omega) (by omega), ?_⟩, fun e => ?_⟩
    · rw [hkk]
      have a1 : HI (hpI h 110 kn p) := HI_put hh (by show (0 : Int) ≤ _; exact hp) (by show _ ≤ (6 : Int); exact hp2)
      have a2 : frm WO h0 (hpI h 110 kn p) := frm_put hf WO_a
      have g1 : (hpI h 110 kn p).2.1 93 34 = h.2.1 93 34 := put_ne (by omega)
      rw [g1]
      have g2 : (h.2.1 93 34 + 1).toInt = l.length + 1 := by rw [i_add (by rw [i1]; omega) (by rw [i1]; omega), i1, hg]
      generalize h.2.1 93 34 + 1 = u at g2 ⊢
      refine hQ _ (HI_put a1 (by show (0 : Int) ≤ _; omega) (by show _ ≤ (7 : Int); omega)) (frm_put a2 rfl) ⟨?_, ?_⟩
      · rw [put_at, ins_len hkl]
        omega
      · intro i hi
        rw [ins_len hkl] at hi
        rw [put_ne (by omega), ins_get hkl]
        by_cases c1 : i < kn
        · rw [if_pos c1, put_ne (by omega)]
          exact h1 i (by omega)
        · rw [if_neg c1]
          by_cases c2 : i = kn
          · rw [if_pos c2, c2, put_at]
          · rw [if_neg c2, put_ne (by omega)]
            exact h2 i (by omega) (by omega)
    · exfalso
      have e : ¬ j.toInt ≤ k.toInt := of_decide_eq_false (cI e)
      omega
  | m + 1, j, h, hh, hf, hj, hm, hg, h1, h2 => by
    refine w_put1 p k j hh.hs ⟨fun e => ?_, fun e => ?_⟩
    · exfalso
      have e : j.toInt ≤ k.toInt := of_decide_eq_true (cI e)
      omega
    · have hj1 : (j - 1).toInt = ((kn + m : Nat) : Int) := by rw [i_sub (by rw [i1]; omega) (by rw [i1]; omega), i1]; omega
      have hj2 : (j + -1).toInt = ((kn + m : Nat) : Int) := by rw [i_add (by rw [im1]; omega) (by rw [im1]; omega), im1]; omega
      generalize j - 1 = j1 at hj1 ⊢
      generalize j + -1 = j2 at hj2 ⊢
      have q1 : j1.toNatClampNeg = kn + m := by show j1.toInt.toNat = _; omega
      have q2 : j.toNatClampNeg = kn + m + 1 := by show j.toInt.toNat = _; omega
      refine ⟨inB_iff (by omega) (by omega), inB_iff (by omega) (by omega), ?_⟩
      rw [q1, q2]
      have hv := HI.iv hh 110 (kn + m) (r := (0, 6)) rfl
      refine put_loop p k kn l hk hkl hl hp hp2 hQ m j2 _ (HI_put hh hv.1 hv.2) (frm_put hf WO_a) hj2 (by omega) (by rw [put_ne (by omega)]; exact hg) (fun i hi => ?_) (fun i hi hi2 => ?_)
      · rw [put_ne (by omega)]
        exact h1 i (by omega)
      · by_cases c : i = kn + m + 1
        · rw [c, put_at]
          exact h1 (kn + m) (by omega)
        · rw [put_ne (by omega)]
          exact h2 i (by omega) hi2
theorem put_ok {X : Scr} {dp : Nat} {h : Hp} {Q : Option Value → Hp → Prop} (p k : Int32) (kn : Nat) (l : List Int32) (hk : k.toInt = kn) (hkl : kn ≤ l.length) (hl : l.length ≤ 6) (hp : 0 ≤ p.toInt) (hp2 : p.toInt ≤ 6) (hh : HI h) (ho : OL h l)
    (hQ : ∀ h', HI h' → frm WO h h' → OL h' (ins l kn p) → Q none h') : Ends X dp 153 0 [.ref 93, .int p, .int k, .retAddr 0] [] h Q := by
  refine w_put0 p k hh.hs ?_
  have hm : kn + (l.length - kn) = l.length := by omega
  refine put_loop (h0 := h) p k kn l hk hkl hl hp hp2 hQ (l.length - kn) (h.2.1 93 34) h hh frm_refl (by rw [hm]; exact ho.1) (by omega) ho.1 (fun i hi => ho.2 i (by omega)) (fun i hi hi2 => by omega)
end JN67order
section JN68lay
/-! The order, exactly. -/
def posL (h : Hp) (l : List Int32) (p : Int32) : Nat := (l.takeWhile (fun a => aheadM h a p)).length
def stepL (h : Hp) (l : List Int32) (p : Int32) : List Int32 := if (runM h p && !decide (p.toInt = (h.2.1 93 30).toInt)) = true then ins l (posL h l p) p else l
/-- the row behind the first n of the people -/
def layL (h : Hp) : Nat → List Int32
  | 0 => []
  | n + 1 => stepL h (layL h n) (Int32.ofNat n)
def idxL (h : Hp) (l : List Int32) : Nat := (l.takeWhile (fun a => !decide (a.toInt = (h.2.1 93 31).toInt))).length
/-- the whole row -/
def layM (h : Hp) : List Int32 := if 0 ≤ (h.2.1 93 30).toInt then ins (layL h (h.2.1 93 0).toInt.toNat) (idxL h (layL h (h.2.1 93 0).toInt.toNat) + 1) (h.2.1 93 30) else layL h (h.2.1 93 0).toInt.toNat
theorem twl_le {α : Type} (f : α → Bool) (l : List α) : (l.takeWhile f).length ≤ l.length := by
  induction l with
  | nil => simp
  | cons a l ih =>
    rw [List.takeWhile_cons]
    split <;> simp
    exact ih
theorem twl {f : Int32 → Bool} : ∀ {l : List Int32} {k : Nat}, (∀ j, j < k → f (l.getD j 0) = true) → k ≤ l.length → (k = l.length ∨ f (l.getD k 0) = false) → (l.takeWhile f).length = k
  | [], k, _, hk, _ => by simp at hk; simp [hk]
  | a :: l, 0, _, _, h => by
    rcases h with h | h
    · simp at h
    · have h : f a = false := h
      simp [List.takeWhile_cons, h]
  | a :: l, k + 1, h1, hk, h2 => by
    have ha : f a = true := h1 0 (by omega)
    rw [List.takeWhile_cons, if_pos ha, List.length_cons, twl (l := l) (k := k) (fun j hj => by have := h1 (j + 1) (by omega); simpa using this) (by simpa using hk) (by simpa using h2)]
theorem posL_le (h : Hp) (l : List Int32) (p : Int32) : posL h l p ≤ l.length := twl_le _ _
theorem stepL_len (h : Hp) (l : List Int32) (p : Int32) : (stepL h l p).length ≤ l.length + 1 := by
  unfold stepL
  split
  · rw [ins_len (posL_le h l p)]
    exact Nat.le_refl _
  · omega
theorem layL_len (h : Hp) : ∀ n, (layL h n).length ≤ n
  | 0 => Nat.le_refl _
  | n + 1 => Nat.le_trans (stepL_len h _ _) (Nat.succ_le_succ (layL_len h n))
theorem ofn {x : Int32} {n : Nat} (h : x.toInt = n) : Int32.ofNat n = x := by
  have hb := i32r x
  simp only [fI] at hb
  apply Int32.toInt.inj
  rw [h, Int32.toInt_ofNat_of_lt (by omega)]
theorem mem_ins {l : List Int32} {k : Nat} {p a : Int32} : a ∈ ins l k p ↔ a ∈ l ∨ a = p := by
  unfold ins
  conv => rhs; rw [← List.take_append_drop k l]
  simp only [List.mem_append, List.mem_cons]
  constructor
  · rintro (q | q | q)
    · exact Or.inl (Or.inl q)
    · exact Or.inr q
    · exact Or.inl (Or.inr q)
  · rintro ((q | q) | q)
    · exact Or.inl q
    · exact Or.inr (Or.inr q)
    · exact Or.inr (Or.inl q)
theorem mem_layL (h : Hp) : ∀ (n : Nat) (a : Int32), a ∈ layL h n ↔ ∃ i, i < n ∧ a = Int32.ofNat i ∧ runM h a = true ∧ ¬ a.toInt = (h.2.1 93 30).toInt
  | 0, a => by simp [layL]
  | n + 1, a => by
    have ih := mem_layL h n a
    rw [layL]
    unfold stepL
    split
    · rename_i hc
      simp only [Bool.and_eq_true, Bool.not_eq_true', decide_eq_false_iff_not] at hc
      rw [mem_ins, ih]
      constructor
      · rintro (⟨i, h1, h2⟩ | h1)
        · exact ⟨i, by omega, h2⟩
        · subst h1
          exact ⟨n, by omega, rfl, hc.1, hc.2⟩
      · rintro ⟨i, h1, h2, h3⟩
        by_cases e : i = n
        · subst e
          exact Or.inr h2
        · exact Or.inl ⟨i, by omega, h2, h3⟩
    · rename_i hc
      rw [ih]
      constructor
      · rintro ⟨i, h1, h2⟩
        exact ⟨i, by omega, h2⟩
      · rintro ⟨i, h1, h2, h3, h4⟩
        by_cases e : i = n
        · subst e
          exfalso
          rw [h2] at h3 h4
          apply hc
          simp only [Bool.and_eq_true, Bool.not_eq_true', decide_eq_false_iff_not]
          exact ⟨h3, h4⟩
        · exact ⟨i, by omega, h2, h3, h4⟩
theorem el_rng {h : Hp} (hh : HI h) {l : List Int32} (ho : OL h l) {j : Nat} (hj : j < l.length) : 0 ≤ (l.getD j 0).toInt ∧ (l.getD j 0).toInt ≤ 6 := by
  rw [← ho.2 j hj]
  exact HI.iv hh 110 j (r := (0, 6)) rfl
section LAY
variable {X : Scr} {dp : Nat} {h0 : Hp} {Q : Option Value → Hp → Prop}
theorem fr_run {h : Hp} (hf : frm WO h0 h) (p : Int32) : runM h p = runM h0 p := by unfold runM; rw [frI hf rfl, frI hf rfl]
theorem fr_ahead {h : Hp} (hf : frm WO h0 h) (a b : Int32) : aheadM h a b = aheadM h0 a b := by
  unfold aheadM waitM
  rw [frI hf rfl, frI hf rfl, frI hf rfl, frI hf rfl]
theorem lay_in (p : Int32) (pn : Nat) (l : List Int32) (hp : p.toInt = pn) (hp2 : pn ≤ 6) (hl : l.length ≤ 6) (hrun : runM h0 p = true) (hnf : ¬ p.toInt = (h0.2.1 93 30).toInt)
    (hQ : ∀ (h' : Hp) (p1 : Int32) (v : Value), HI h' → frm WO h0 h' → p1.toInt = ((pn + 1 : Nat) : Int) → OL h' (stepL h0 l p) → Ends X (dp + 1 + 1) 154 7 [.ref 93, .int p1, v] [] h' Q) :
    ∀ (m kn : Nat) (k : Int32) (h : Hp), HI h → frm WO h0 h → OL h l → k.toInt = kn → kn + m = l.length → (∀ j, j < kn → aheadM h0 (l.getD j 0) p = true) →
    Ends X (dp + 1 + 1) 154 36 [.ref 93, .int p, .int k] [] h Q
  | m, kn, k, h, hh, hf, ho, hk, hm, ha => by
    have hst : ∀ kn', posL h0 l p = kn' → stepL h0 l p = ins l kn' p := by
      intro kn' e
      unfold stepL
      rw [hrun, decide_eq_false hnf, e]
      rfl
    have hp1 : (p + 1).toInt = ((pn + 1 : Nat) : Int) := by rw [i_add (by rw [i1]; omega) (by rw [i1]; omega), i1]; omega
    have done : ∀ h2, HI h2 → frm WO h0 h2 → OL h2 l → posL h0 l p = kn → Ends X (dp + 1) 153 0 [.ref 93, .int p, .int k, .retAddr 0] [] h2 (fun rv h3 => rv = none ∧ HS h3 ∧ Ends X (dp + 1 + 1) 154 7 [.ref 93, .int (p + 1), .int k] [] h3 Q) := by
      intro h2 a1 a2 a3 a4
      refine put_ok p k kn l hk (by omega) hl (by omega) (by omega) a1 a3 (fun h3 b1 b2 b3 => ⟨rfl, b1.hs, ?_⟩)
      exact hQ h3 (p + 1) _ b1 (frm_trans a2 b2) hp1 (by rw [hst kn a4]; exact b3)
    refine w_lo36 p k hh.hs ⟨fun e => ?_, fun e => ?_⟩
    · have e : (h.2.1 93 34).toInt ≤ k.toInt := of_decide_eq_true (cI e)
      rw [ho.1] at e
      exact done h hh hf ho (twl ha (by omega) (Or.inl (by omega)))
    · have e : ¬ (h.2.1 93 34).toInt ≤ k.toInt := of_decide_eq_false (cI e)
      rw [ho.1] at e
      have hkk : k.toNatClampNeg = kn := by show k.toInt.toNat = _; omega
      have hv : h.2.1 110 k.toNatClampNeg = l.getD kn 0 := by rw [hkk]; exact ho.2 kn (by omega)
      have hr := el_rng hh ho (show kn < l.length by omega)
      rw [hv]
      refine ⟨inB_iff (by omega) (by omega), ahead_ok (l.getD kn 0) p hh.hs hr.1 hr.2 (by omega) (by omega) ⟨_, rfl, hh.hs, fun e2 => ?_, fun e2 => ?_⟩⟩
      · have e2 : (b2i (aheadM h (l.getD kn 0) p)).toInt = 0 := of_decide_eq_true (cI e2)
        rw [b2i_z, fr_ahead hf] at e2
        exact done h hh hf ho (twl ha (by omega) (Or.inr e2))
      · have e2 : ¬ (b2i (aheadM h (l.getD kn 0) p)).toInt = 0 := of_decide_eq_false (cI e2)
        rw [b2i_z, fr_ahead hf, Bool.not_eq_false] at e2
        have hk1 : (k + 1).toInt = ((kn + 1 : Nat) : Int) := by rw [i_add (by rw [i1]; omega) (by rw [i1]; omega), i1]; omega
        match m, hm with
        | 0, hm => omega
        | m + 1, hm =>
          refine lay_in p pn l hp hp2 hl hrun hnf hQ m (kn + 1) (k + 1) h hh hf ho hk1 (by omega) (fun j hj => ?_)
          by_cases c : j = kn
          · rw [c]; exact e2
          · exact ha j (by omega)
theorem lay_last (l : List Int32) (hf0 : 0 ≤ (h0.2.1 93 30).toInt) (hf1 : (h0.2.1 93 30).toInt ≤ 6) (hl : l.length ≤ 6)
    (hQ : ∀ h', HI h' → frm WO h0 h' → OL h' (ins l (idxL h0 l + 1) (h0.2.1 93 30)) → Q none h') :
    ∀ (m kn : Nat) (k : Int32) (v : Value) (h : Hp), HI h → frm WO h0 h → OL h l → k.toInt = kn → kn + m = l.length → (∃ j, kn ≤ j ∧ j < l.length ∧ (l.getD j 0).toInt = (h0.2.1 93 31).toInt) → (∀ j, j < kn → ¬ (l.getD j 0).toInt = (h0.2.1 93 31).toInt) →
    Ends X (dp + 1) 154 86 [.ref 93, .int k, v] [] h Q
  | m, kn, k, v, h, hh, hf, ho, hk, hm, ⟨j, j1, j2, j3⟩, hno => by
    have hkk : k.toNatClampNeg = kn := by show k.toInt.toNat = _; omega
    have hv : h.2.1 110 k.toNatClampNeg = l.getD kn 0 := by rw [hkk]; exact ho.2 kn (by omega)
    have hk1 : (k + 1).toInt = ((kn + 1 : Nat) : Int) := by rw [i_add (by rw [i1]; omega) (by rw [i1]; omega), i1]; omega
    refine w_lo86 k v hh.hs ⟨inB_iff (by omega) (by omega), fun e => ?_, fun e => ?_⟩
    · rw [hv, frI hf rfl] at e
      have e : (l.getD kn 0).toInt = (h0.2.1 93 31).toInt := of_decide_eq_true (cI e)
      have hx : idxL h0 l = kn := twl (fun i hi => by rw [decide_eq_false (hno i hi)]; rfl) (by omega) (Or.inr (by rw [decide_eq_true e]; rfl))
      rw [frI hf rfl]
      refine put_ok _ _ (kn + 1) l hk1 (by omega) hl hf0 hf1 hh ho (fun h3 b1 b2 b3 => ⟨rfl, b1.hs, ?_⟩)
      exact hQ h3 b1 (frm_trans hf b2) (by rw [hx]; exact b3)
    · rw [hv, frI hf rfl] at e
      have e : ¬ (l.getD kn 0).toInt = (h0.2.1 93 31).toInt := of_decide_eq_false (cI e)
      match m, hm with
      | 0, hm => omega
      | m + 1, hm =>
        refine lay_last l hf0 hf1 hl hQ m (kn + 1) (k + 1) v h hh hf ho hk1 (by omega) ⟨j, ?_, j2, j3⟩ (fun i hi => ?_)
        · by_cases c : j = kn
          · rw [c] at j3; exact absurd j3 e
          · omega
        · by_cases c : i = kn
          · rw [c]; exact e
          · exact hno i (by omega)
/-- who is to be followed stands in the row -/
def FOL (h : Hp) : Prop := 0 ≤ (h.2.1 93 30).toInt → (h.2.1 93 30).toInt < (h.2.1 93 0).toInt ∧ 0 ≤ (h.2.1 93 31).toInt ∧ (h.2.1 93 31).toInt < (h.2.1 93 0).toInt ∧ runM h (h.2.1 93 31) = true ∧ ¬ (h.2.1 93 31).toInt = (h.2.1 93 30).toInt
theorem lay_len6 {h : Hp} (hp : (h.2.1 93 0).toInt ≤ 7) (hf0 : 0 ≤ (h.2.1 93 30).toInt) (hf1 : (h.2.1 93 30).toInt < (h.2.1 93 0).toInt) : ∀ n : Nat, (layL h n).length + (if (h.2.1 93 30).toInt < n then 1 else 0) ≤ n
  | 0 => by
    have : ¬ (h.2.1 93 30).toInt < (0 : Nat) := by omega
    rw [if_neg this]
    exact Nat.le_refl _
  | n + 1 => by
    have ih := lay_len6 hp hf0 hf1 n
    have h1 := stepL_len h (layL h n) (Int32.ofNat n)
    rw [layL]
    by_cases c : (h.2.1 93 30).toInt = n
    · have : stepL h (layL h n) (Int32.ofNat n) = layL h n := by
        unfold stepL
        rw [ofn c, decide_eq_true rfl]
        simp
      rw [this]
      split at ih <;> split <;> omega
    · split at ih <;> split <;> omega
theorem lay_loop (hF : FOL h0)
    (hQ : ∀ h', HI h' → frm WO h0 h' → OL h' (layM h0) → Q none h') :
    ∀ (m pn : Nat) (p : Int32) (v : Value) (h : Hp), HI h → frm WO h0 h → OL h (layL h0 pn) → p.toInt = pn → pn + m = (h0.2.1 93 0).toInt.toNat →
    Ends X (dp + 1 + 1) 154 7 [.ref 93, .int p, v] [] h Q
  | m, pn, p, v, h, hh, hf, ho, hp, hm => by
    have hpe := HI.iv hh 93 0 (r := (0, 7)) rfl
    have hfo := HI.iv hh 93 30 (r := (-1, 6)) rfl
    rw [frI hf rfl] at hpe hfo
    simp only at hpe hfo
    refine w_lo7 p v hh.hs ⟨fun e => ⟨fun e2 => ?_, fun e2 => ?_⟩, fun e => ?_⟩
    · rw [frI hf rfl] at e e2
      have e : (h0.2.1 93 0).toInt ≤ p.toInt := of_decide_eq_true (cI e)
      have e2 : 0 ≤ (h0.2.1 93 30).toInt := of_decide_eq_true (cI e2)
      obtain ⟨f1, f2, f3, f4, f5⟩ := hF e2
      have hpn : pn = (h0.2.1 93 0).toInt.toNat := by omega
      have hl6 := lay_len6 (h := h0) hpe.2 e2 f1 pn
      rw [if_pos (by omega)] at hl6
      have hmem : h0.2.1 93 31 ∈ layL h0 pn := by
        rw [mem_layL]
        exact ⟨(h0.2.1 93 31).toInt.toNat, by omega, (ofn (by omega)).symm, f4, f5⟩
      obtain ⟨j, hj, hje⟩ := List.getElem_of_mem hmem
      have hM : layM h0 = ins (layL h0 pn) (idxL h0 (layL h0 pn) + 1) (h0.2.1 93 30) := by
        unfold layM
        rw [if_pos e2, ← hpn]
      rw [hM] at hQ
      refine lay_last (layL h0 pn) e2 hfo.2 (by omega) hQ (layL h0 pn).length 0 0 v h hh hf ho rfl (by omega) ⟨j, by omega, hj, ?_⟩ (fun i hi => by omega)
      rw [List.getD_eq_getElem?_getD, List.getElem?_eq_getElem hj, hje]
      rfl
    · rw [frI hf rfl] at e e2
      have e : (h0.2.1 93 0).toInt ≤ p.toInt := of_decide_eq_true (cI e)
      have e2 : ¬ 0 ≤ (h0.2.1 93 30).toInt := of_decide_eq_false (cI e2)
      have hpn : pn = (h0.2.1 93 0).toInt.toNat := by omega
      refine hQ h hh hf ?_
      unfold layM
      rw [if_neg e2, ← hpn]
      exact ho
    · rw [frI hf rfl] at e
      have e : ¬ (h0.2.1 93 0).toInt ≤ p.toInt := of_decide_eq_false (cI e)
      match m, hm with
      | 0, hm => omega
      | m + 1, hm =>
        have hp1 : (p + 1).toInt = ((pn + 1 : Nat) : Int) := by rw [i_add (by rw [i1]; omega) (by rw [i1]; omega), i1]; omega
        have hlen := layL_len h0 pn
        have nx : ∀ h' p1 (v' : Value), HI h' → frm WO h0 h' → p1.toInt = ((pn + 1 : Nat) : Int) → OL h' (stepL h0 (layL h0 pn) p) → Ends X (dp + 1 + 1) 154 7 [.ref 93, .int p1, v'] [] h' Q := by
          intro h' p1 v' a1 a2 a3 a4
          refine lay_loop hF hQ m (pn + 1) p1 v' h' a1 a2 ?_ a3 (by omega)
          rw [layL, ofn hp]
          exact a4
        refine run_ok p hh.hs ⟨_, rfl, hh.hs, fun e2 => ?_, fun e2 => ⟨fun e3 => ?_, fun e3 => ?_⟩⟩
        · have e2 : (b2i (runM h p)).toInt = 0 := of_decide_eq_true (cI e2)
          rw [b2i_z, fr_run hf] at e2
          refine nx h (p + 1) v hh hf hp1 ?_
          unfold stepL
          rw [e2]
          exact ho
        · have e2 : ¬ (b2i (runM h p)).toInt = 0 := of_decide_eq_false (cI e2)
          rw [b2i_z, fr_run hf, Bool.not_eq_false] at e2
          rw [frI hf rfl] at e3
          have e3 : ¬ p.toInt = (h0.2.1 93 30).toInt := of_decide_eq_true (cI e3)
          exact lay_in p pn (layL h0 pn) hp (by omega) (by omega) e2 e3 nx (layL h0 pn).length 0 0 h hh hf ho rfl (by omega) (fun j hj => by omega)
        · have e2 : ¬ (b2i (runM h p)).toInt = 0 := of_decide_eq_false (cI e2)
          rw [frI hf rfl] at e3
          have e3 : ¬ ¬ p.toInt = (h0.2.1 93 30).toInt := of_decide_eq_false (cI e3)
          refine nx h (p + 1) v hh hf hp1 ?_
          unfold stepL
          rw [decide_eq_true (Decidable.not_not.mp e3)]
          simpa using ho
end LAY
theorem lay_ok {X : Scr} {dp : Nat} {h : Hp} {Q : Option Value → Hp → Prop} (hh : HI h) (hF : FOL h) (hQ : ∀ h', HI h' → frm WO h h' → OL h' (layM h) → Q none h') : Ends X (dp + 1 + 1) 154 0 [.ref 93, .retAddr 0, .retAddr 0] [] h Q := by
  have hpe := HI.iv hh 93 0 (r := (0, 7)) rfl
  simp only at hpe
  refine w_lo0 hh.hs ?_
  refine lay_loop (h0 := h) hF hQ (h.2.1 93 0).toInt.toNat 0 0 _ _ (HI_put hh (by show (0 : Int) ≤ 0; decide) (by show (0 : Int) ≤ 7; decide)) (frm_put frm_refl rfl) ⟨?_, fun j hj => by simp [layL] at hj⟩ rfl (by omega)
  rw [put_at]
  rfl
end JN68lay
