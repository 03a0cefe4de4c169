section JN03machine
/-! A machine of its own over the printed instructions: a pure step, and a run with fuel and depth. Objects and arrays are numbers; what a cell holds is said by functions. -/
def OLDB : Nat := 1000000
theorem OLDB_eq : OLDB = 1000000 := rfl
abbrev Sh : Type := (Nat × Nat) ⊕ Nat
abbrev Hp : Type := List Sh × (Nat → Nat → Int32) × (Nat → Nat → Int64) × (Nat → Nat → Option Nat)
abbrev Scr : Type := Nat × (Nat → Int32)
abbrev Cfg : Type := Nat × List Value × List Value × Hp
def ud {α : Type} (f : Nat → Nat → α) (a i : Nat) (v : α) : Nat → Nat → α := fun a' => if a' = a then (fun j => if j = i then v else f a j) else f a'
def clr {α : Type} (f : Nat → Nat → α) (a : Nat) (v : α) : Nat → Nat → α := fun a' => if a' = a then (fun _ => v) else f a'
def inB (i : Int32) (n : Nat) : Bool := decide (¬ i < 0) && decide (i.toNatClampNeg < n)
def aboveL : List Int32 := [-1, 0, 0, 0, 1, 2, 3]
def bodiesL : List Int32 := [10, 0, 30, 0, 50, 0, 71, 11, 20, 0, 0, 51, 0, 70, 12, 0, 0, 40, 0, 60, 0]
def strB : List (List Int32) := [[101, 97, 99, 104], [111, 108, 100], [111, 100, 103, 101], [112, 107, 108, 115, 97, 121], [60, 61, 62]]
def strL : List Nat := [4, 3, 4, 6, 3]
def oldArr (X : Scr) (j : Nat) : Option (Nat × Nat × (Nat → Int32)) :=
  if j = 0 then some (0, X.1, X.2)
  else if j = 1 then some (0, 7, fun i => aboveL.getD i 0)
  else if j = 2 then some (0, 21, fun i => bodiesL.getD i 0)
  else if 8 ≤ j ∧ j < 13 then some (5, strL.getD (j - 8) 0, fun i => (strB.getD (j - 8) []).getD i 0)
  else none
def isRefTy : FieldType → Bool
  | .object _ => true
  | .array _ => true
  | _ => false
def isBoolTy : FieldType → Bool
  | .boolean => true
  | _ => false
/-- the slot before k isn't the first half of a long -/
def okSt (L : List Value) : Nat → Bool
  | 0 => true
  | k + 1 => match L[k]? with
    | some v => v.category == 1
    | none => false
def condB : Jvm.ClassFile.Cond → Int32 → Int32 → Bool
  | .eq, x, y => decide (x = y)
  | .ne, x, y => decide (¬ x = y)
  | .lt, x, y => decide (x < y)
  | .ge, x, y => decide (y ≤ x)
  | .gt, x, y => decide (y < x)
  | .le, x, y => decide (x ≤ y)
def jump (pc : Nat) (off : Int) : Option Nat := if 0 ≤ (pc : Int) + off then some ((pc : Int) + off).toNat else none
def atag : ArrayType → Option Nat
  | .int => some 0
  | .long => some 1
  | .boolean => some 2
  | _ => none
def catSum (st : List Value) : Nat := (st.map fun v => v.category).sum
/-- the value of a field of a new object -/
def fval (h : Hp) (ci a k : Nat) : Option Value := if isRefTy (vwTy ci k) then (match h.2.2.2 a k with
    | some b => if b < OLDB then some (.ref b) else none
    | none => none) else some (.int (h.2.1 a k))
def getF (o : List Nat) (st : List Value) (h : Hp) : Option (List Value) := match o with
  | [9, f, _, _] => (match st with
    | .ref a :: st => if OLDB + 3 ≤ a ∧ a < OLDB + 8 then some ((if f = 0 then .ref (a + 5) else .int 0) :: st) else none
    | _ => none)
  | [ci, k, _, _] => (match st with
    | .ref a :: st => if a < OLDB ∧ h.1[a]? = some (.inr ci) ∧ k < vwN ci then (fval h ci a k).map (· :: st) else none
    | _ => none)
  | _ => none
def putF (o : List Nat) (st : List Value) (h : Hp) : Option (List Value × Hp) := match o with
  | [ci, k, _, _] => (match st with
    | v :: .ref a :: st => if a < OLDB ∧ h.1[a]? = some (.inr ci) ∧ k < vwN ci then
        (match v with
        | .int x => if isRefTy (vwTy ci k) then none else if isBoolTy (vwTy ci k) ∧ ¬ (x = 0 ∨ x = 1) then none else some (st, (h.1, ud h.2.1 a k x, h.2.2.1, h.2.2.2))
        | .ref b => if isRefTy (vwTy ci k) ∧ b < OLDB then some (st, (h.1, h.2.1, h.2.2.1, ud h.2.2.2 a k (some b))) else none
        | _ => none)
      else none
    | _ => none)
  | _ => none
def arrNew (h : Hp) (t n : Nat) : Hp := (h.1 ++ [.inl (t, n)], clr h.2.1 h.1.length 0, clr h.2.2.1 h.1.length 0, clr h.2.2.2 h.1.length none)
def objNew (h : Hp) (ci : Nat) : Hp := (h.1 ++ [.inr ci], clr h.2.1 h.1.length 0, clr h.2.2.1 h.1.length 0, clr h.2.2.2 h.1.length none)
/-- new long[n][k] -/
def rowNew (h : Hp) (n k : Nat) : Hp := (h.1 ++ .inl (4, n) :: List.replicate n (.inl (1, k)), fun a => if h.1.length ≤ a then (fun _ => 0) else h.2.1 a, fun a => if h.1.length ≤ a then (fun _ => 0) else h.2.2.1 a,
  fun a => if a = h.1.length then (fun i => if i < n then some (h.1.length + 1 + i) else none) else if h.1.length ≤ a then (fun _ => none) else h.2.2.2 a)
def copyA (st : List Value) (h : Hp) : Option (List Value × Hp) := match st with
  | .int n :: .int dp :: .ref a :: .int sp :: .ref b :: st =>
    if a < OLDB ∧ b < OLDB ∧ ¬ sp < 0 ∧ ¬ dp < 0 ∧ ¬ n < 0 ∧ catSum st ≤ 8 then
      (match h.1[a]?, h.1[b]? with
      | some (.inl (t, m)), some (.inl (t', m')) =>
        if t = t' ∧ sp.toNatClampNeg + n.toNatClampNeg ≤ m' ∧ dp.toNatClampNeg + n.toNatClampNeg ≤ m then
          (if t = 0 then some (st, (h.1, (fun x => if x = a then va_cpy (h.2.1 b) (h.2.1 a) sp.toNatClampNeg dp.toNatClampNeg n.toNatClampNeg else h.2.1 x), h.2.2.1, h.2.2.2))
          else if t = 1 then some (st, (h.1, h.2.1, (fun x => if x = a then va_cpy (h.2.2.1 b) (h.2.2.1 a) sp.toNatClampNeg dp.toNatClampNeg n.toNatClampNeg else h.2.2.1 x), h.2.2.2))
          else none)
        else none
      | _, _ => none)
    else none
  | _ => none
/-- the instructions on locals, stack and numbers alone -/
def pstep (i : Instr) (o : List Nat) (pc : Nat) (L st : List Value) : Option (Nat × List Value × List Value) := match i with
  | .iconst k => some (pc + 1, L, .int (Int32.ofInt k) :: st)
  | .bipush k => some (pc + 2, L, .int (Int8.ofInt k).toInt32 :: st)
  | .sipush k => some (pc + 3, L, .int (Int16.ofInt k).toInt32 :: st)
  | .lconst k => some (pc + 1, L, .long (Int64.ofNat (k : Nat)) :: st)
  | .ldc _ => (match o with
    | [0, v, _] => some (pc + 2, L, .int (Int32.ofNat v) :: st)
    | [1, j, _] => if j < 5 then some (pc + 2, L, .ref (OLDB + 3 + j) :: st) else none
    | _ => none)
  | .ldc_w _ => (match o with
    | [0, v, _] => some (pc + 3, L, .int (Int32.ofNat v) :: st)
    | _ => none)
  | .ldc2_w _ => (match o with
    | [v, _] => some (pc + 3, L, .long (Int64.ofNat v) :: st)
    | _ => none)
  | .iload k => (match L[k]? with | some (.int x) => some (pc + 2, L, .int x :: st) | _ => none)
  | .iload_n k => (match L[(k : Nat)]? with | some (.int x) => some (pc + 1, L, .int x :: st) | _ => none)
  | .lload k => (match L[k]? with | some (.long x) => some (pc + 2, L, .long x :: st) | _ => none)
  | .lload_n k => (match L[(k : Nat)]? with | some (.long x) => some (pc + 1, L, .long x :: st) | _ => none)
  | .aload k => (match L[k]? with | some (.ref x) => if x = OLDB + 13 then none else some (pc + 2, L, .ref x :: st) | _ => none)
  | .aload_n k => (match L[(k : Nat)]? with | some (.ref x) => if x = OLDB + 13 then none else some (pc + 1, L, .ref x :: st) | _ => none)
  | .istore k => (match st with | .int x :: st => if k < L.length ∧ okSt L k = true then some (pc + 2, L.set k (.int x), st) else none | _ => none)
  | .istore_n k => (match st with | .int x :: st => if (k : Nat) < L.length ∧ okSt L k = true then some (pc + 1, L.set k (.int x), st) else none | _ => none)
  | .lstore k => (match st with | .long x :: st => if k + 1 < L.length ∧ okSt L k = true then some (pc + 2, (L.set k (.long x)).set (k + 1) (.retAddr 0), st) else none | _ => none)
  | .lstore_n k => (match st with | .long x :: st => if (k : Nat) + 1 < L.length ∧ okSt L k = true then some (pc + 1, (L.set k (.long x)).set (k + 1) (.retAddr 0), st) else none | _ => none)
  | .astore_n k => (match st with | .ref x :: st => if (k : Nat) < L.length ∧ okSt L k = true ∧ ¬ x = OLDB + 13 then some (pc + 1, L.set k (.ref x), st) else none | _ => none)
  | .iinc k n => (match L[k]? with | some (.int x) => if okSt L k = true then some (pc + 3, L.set k (.int (x + Int32.ofInt n)), st) else none | _ => none)
  | .iadd => (match st with | .int y :: .int x :: st => some (pc + 1, L, .int (x + y) :: st) | _ => none)
  | .isub => (match st with | .int y :: .int x :: st => some (pc + 1, L, .int (x - y) :: st) | _ => none)
  | .imul => (match st with | .int y :: .int x :: st => some (pc + 1, L, .int (x * y) :: st) | _ => none)
  | .idiv => (match st with | .int y :: .int x :: st => if y = 0 then none else some (pc + 1, L, .int (x / y) :: st) | _ => none)
  | .irem => (match st with | .int y :: .int x :: st => if y = 0 then none else some (pc + 1, L, .int (x - x / y * y) :: st) | _ => none)
  | .ineg => (match st with | .int x :: st => some (pc + 1, L, .int (-x) :: st) | _ => none)
  | .iand => (match st with | .int y :: .int x :: st => some (pc + 1, L, .int (x &&& y) :: st) | _ => none)
  | .ior => (match st with | .int y :: .int x :: st => some (pc + 1, L, .int (x ||| y) :: st) | _ => none)
  | .ixor => (match st with | .int y :: .int x :: st => some (pc + 1, L, .int (x ^^^ y) :: st) | _ => none)
  | .ishl => (match st with | .int y :: .int x :: st => some (pc + 1, L, .int (x <<< (y &&& 31)) :: st) | _ => none)
  | .ishr => (match st with | .int y :: .int x :: st => some (pc + 1, L, .int (x >>> (y &&& 31)) :: st) | _ => none)
  | .iushr => (match st with | .int y :: .int x :: st => some (pc + 1, L, .int (x.toUInt32 >>> (y.toUInt32 &&& Int32.toUInt32 31)).toInt32 :: st) | _ => none)
  | .ladd => (match st with | .long y :: .long x :: st => some (pc + 1, L, .long (x + y) :: st) | _ => none)
  | .lsub => (match st with | .long y :: .long x :: st => some (pc + 1, L, .long (x - y) :: st) | _ => none)
  | .land => (match st with | .long y :: .long x :: st => some (pc + 1, L, .long (x &&& y) :: st) | _ => none)
  | .lor => (match st with | .long y :: .long x :: st => some (pc + 1, L, .long (x ||| y) :: st) | _ => none)
  | .lxor => (match st with | .long y :: .long x :: st => some (pc + 1, L, .long (x ^^^ y) :: st) | _ => none)
  | .lshl => (match st with | .int y :: .long x :: st => some (pc + 1, L, .long (x <<< (y.toInt64 &&& 63)) :: st) | _ => none)
  | .lshr => (match st with | .int y :: .long x :: st => some (pc + 1, L, .long (x >>> (y.toInt64 &&& 63)) :: st) | _ => none)
  | .lcmp => (match st with | .long y :: .long x :: st => some (pc + 1, L, .int (lg_cmp x y) :: st) | _ => none)
  | .i2l => (match st with | .int x :: st => some (pc + 1, L, .long x.toInt64 :: st) | _ => none)
  | .l2i => (match st with | .long x :: st => some (pc + 1, L, .int x.toInt32 :: st) | _ => none)
  | .i2b => (match st with | .int x :: st => some (pc + 1, L, .int x.toInt8.toInt32 :: st) | _ => none)
  | .i2s => (match st with | .int x :: st => some (pc + 1, L, .int x.toInt16.toInt32 :: st) | _ => none)
  | .i2c => (match st with | .int x :: st => some (pc + 1, L, .int (x.toUInt32 % 65536).toInt32 :: st) | _ => none)
  | .dup => (match st with | v :: st => if v.category = 1 then some (pc + 1, L, v :: v :: st) else none | _ => none)
  | .pop => (match st with | v :: st => if v.category = 1 then some (pc + 1, L, st) else none | _ => none)
  | .dup2 => (match st with | v :: w :: st => if v.category = 1 ∧ w.category = 1 then some (pc + 1, L, v :: w :: v :: w :: st) else none | _ => none)
  | .pop2 => (match st with | v :: st => if v.category = 2 then some (pc + 1, L, st) else none | _ => none)
  | .ifCond q off => (match st with | .int x :: st => (jump pc off).map (fun t => (if condB q x 0 = true then t else pc + 3, L, st)) | _ => none)
  | .if_icmp q off => (match st with | .int y :: .int x :: st => (jump pc off).map (fun t => (if condB q x y = true then t else pc + 3, L, st)) | _ => none)
  | .goto off => (jump pc off).map (fun t => (t, L, st))
  | .tableswitch dflt lo hi offs => (match st with
    | .int x :: st => if x.toInt < lo ∨ hi < x.toInt then (jump pc dflt).map (fun t => (t, L, st)) else
        (match offs[(x.toInt - lo).toNat]? with | some off => (jump pc off).map (fun t => (t, L, st)) | none => none)
    | _ => none)
  | .lookupswitch dflt ps => (match st with
    | .int x :: st => if (ps.toList.zip (ps.toList.drop 1)).all (fun (a, next) => a.1 < next.1) = true then (jump pc (Op.lookupswitch.offset ps.toList dflt x.toInt)).map (fun t => (t, L, st)) else none
    | _ => none)
  | _ => none
/-- the instructions on the heap, without calls -/
def hstep (X : Scr) (i : Instr) (o : List Nat) (pc : Nat) (L st : List Value) (h : Hp) : Option Cfg := match i with
  | .getfield _ => (getF o st h).map (fun st' => (pc + 3, L, st', h))
  | .putfield _ => (putF o st h).map (fun q => (pc + 3, L, q.1, q.2))
  | .getstatic _ => (match o with
    | [0, _, _] => some (pc + 3, L, .ref (OLDB + 1) :: st, h)
    | [1, _, _] => some (pc + 3, L, .ref (OLDB + 2) :: st, h)
    | [2, _, _] => some (pc + 3, L, .int 1 :: st, h)
    | [3, _, _] => some (pc + 3, L, .ref (OLDB + 13) :: st, h)
    | _ => none)
  | .arraylength => (match st with
    | .ref a :: st => if a < OLDB then (match h.1[a]? with | some (.inl (t, n)) => if t < 5 then some (pc + 1, L, .int (Int32.ofNat n) :: st, h) else none | _ => none)
        else (match oldArr X (a - OLDB) with | some (_, n, _) => some (pc + 1, L, .int (Int32.ofNat n) :: st, h) | none => none)
    | _ => none)
  | .iaload => (match st with
    | .int j :: .ref a :: st => if a < OLDB then (match h.1[a]? with | some (.inl (0, n)) => if inB j n = true then some (pc + 1, L, .int (h.2.1 a j.toNatClampNeg) :: st, h) else none | _ => none)
        else (match oldArr X (a - OLDB) with | some (0, n, f) => if inB j n = true then some (pc + 1, L, .int (f j.toNatClampNeg) :: st, h) else none | _ => none)
    | _ => none)
  | .baload => (match st with
    | .int j :: .ref a :: st => if a < OLDB then (match h.1[a]? with | some (.inl (2, n)) => if inB j n = true then some (pc + 1, L, .int (h.2.1 a j.toNatClampNeg) :: st, h) else none | _ => none)
        else (match oldArr X (a - OLDB) with | some (5, n, f) => if inB j n = true then some (pc + 1, L, .int (f j.toNatClampNeg) :: st, h) else none | _ => none)
    | _ => none)
  | .laload => (match st with
    | .int j :: .ref a :: st => if a < OLDB then (match h.1[a]? with | some (.inl (1, n)) => if inB j n = true then some (pc + 1, L, .long (h.2.2.1 a j.toNatClampNeg) :: st, h) else none | _ => none) else none
    | _ => none)
  | .aaload => (match st with
    | .int j :: .ref a :: st => if a < OLDB then (match h.1[a]? with
      | some (.inl (t, n)) => if (t = 3 ∨ t = 4) ∧ inB j n = true then (match h.2.2.2 a j.toNatClampNeg with | some b => if b < OLDB then some (pc + 1, L, .ref b :: st, h) else none | none => none) else none
      | _ => none) else none
    | _ => none)
  | .iastore => (match st with
    | .int x :: .int j :: .ref a :: st => if a < OLDB then (match h.1[a]? with | some (.inl (0, n)) => if inB j n = true then some (pc + 1, L, st, (h.1, ud h.2.1 a j.toNatClampNeg x, h.2.2.1, h.2.2.2)) else none | _ => none) else none
    | _ => none)
  | .bastore => (match st with
    | .int x :: .int j :: .ref a :: st => if a < OLDB ∧ (x = 0 ∨ x = 1) then (match h.1[a]? with | some (.inl (2, n)) => if inB j n = true then some (pc + 1, L, st, (h.1, ud h.2.1 a j.toNatClampNeg x, h.2.2.1, h.2.2.2)) else none | _ => none) else none
    | _ => none)
  | .lastore => (match st with
    | .long x :: .int j :: .ref a :: st => if a < OLDB then (match h.1[a]? with | some (.inl (1, n)) => if inB j n = true then some (pc + 1, L, st, (h.1, h.2.1, ud h.2.2.1 a j.toNatClampNeg x, h.2.2.2)) else none | _ => none) else none
    | _ => none)
  | .aastore => (match st with
    | .ref b :: .int j :: .ref a :: st => if a < OLDB ∧ b < OLDB ∧ h.1[b]? = some (.inr 5) then (match h.1[a]? with | some (.inl (3, n)) => if inB j n = true then some (pc + 1, L, st, (h.1, h.2.1, h.2.2.1, ud h.2.2.2 a j.toNatClampNeg (some b))) else none | _ => none) else none
    | _ => none)
  | .new _ => (match o with | [ci, _] => if h.1.length < OLDB ∧ ci < 8 then some (pc + 3, L, .ref h.1.length :: st, objNew h ci) else none | _ => none)
  | .newarray ty => (match st with
    | .int n :: st => (match atag ty with | some t => if h.1.length < OLDB ∧ ¬ n < 0 ∧ n.toNatClampNeg ≤ 10000 then some (pc + 2, L, .ref h.1.length :: st, arrNew h t n.toNatClampNeg) else none | none => none)
    | _ => none)
  | .anewarray _ => (match st with
    | .int n :: st => if h.1.length < OLDB ∧ ¬ n < 0 ∧ n.toNatClampNeg ≤ 10000 then some (pc + 3, L, .ref h.1.length :: st, arrNew h 3 n.toNatClampNeg) else none
    | _ => none)
  | .multianewarray _ d => (match st with
    | .int k :: .int n :: st => if d = 2 ∧ h.1.length < OLDB ∧ ¬ n < 0 ∧ ¬ k < 0 ∧ n.toNatClampNeg ≤ 1000 ∧ k.toNatClampNeg ≤ 1000 then some (pc + 4, L, .ref h.1.length :: st, rowNew h n.toNatClampNeg k.toNatClampNeg) else none
    | _ => none)
  | .invokespecial _ => (match o with
    | [9999, _, _, _, _] => (match st with | .ref a :: st => if a < OLDB ∧ catSum st ≤ 8 then some (pc + 3, L, st, h) else none | _ => none)
    | _ => none)
  | .invokestatic _ => (match o with
    | [9998, _, _, _, _] => (copyA st h).map (fun q => (pc + 3, L, q.1, q.2))
    | _ => none)
  | i => (pstep i o pc L st).map (fun q => (q.1, q.2.1, q.2.2, h))
/-- the receiver of a call of method c -/
def recvOK (c : Nat) (h : Hp) (v : Value) : Bool := match v with
  | .ref a => if a < OLDB then decide (h.1[a]? = some (.inr (mCi c))) && decide (mCi c < 8) else decide (mCi c = 9) && decide (OLDB + 3 ≤ a) && decide (a < OLDB + 8)
  | _ => false
/-- the locals with which a method begins -/
def entL0 : List Value → List Value
  | [] => []
  | v :: vs => if v.category = 2 then v :: .retAddr 0 :: entL0 vs else v :: entL0 vs
def entL (n : Nat) (vs : List Value) : List Value := entL0 vs ++ List.replicate (n - (entL0 vs).length) (.retAddr 0)
def argOK (v : Value) : Bool := match v with
  | .int _ => true
  | .long _ => true
  | .ref _ => true
  | _ => false
def callOK (c na kd : Nat) (st : List Value) (h : Hp) : Bool :=
  decide (na ≤ st.length) && decide (catSum (st.drop na) ≤ 8) && (st.take na).all argOK && decide ((entL0 (st.take na).reverse).length ≤ mMaxL c) &&
  (if kd = 2 then true else match (st.take na).reverse with
    | v :: _ => if kd = 0 then recvOK c h v else (match v with | .ref a => decide (a < OLDB) | _ => false)
    | [] => false)
def retI (y : Nat) (st : List Value) (h : Hp) : Option (Option Value × Hp) := match st with
  | [.int x] => (match mRet y with | some ty => if isRefTy ty = false ∧ narrow ty (.int x) = .int x then some (some (.int x), h) else none | none => none)
  | _ => none
def retL (y : Nat) (st : List Value) (h : Hp) : Option (Option Value × Hp) := match st with
  | [.long x] => if mRet y = some .long then some (some (.long x), h) else none
  | _ => none
def retV (y : Nat) (st : List Value) (h : Hp) : Option (Option Value × Hp) := match st with
  | [] => if mRet y = none then some (none, h) else none
  | _ => none
def callO (i : Instr) (o : List Nat) : Option (Nat × Nat × Nat) := match i with
  | .invokevirtual _ => (match o with | [c, na, kd, _, _, _, _] => some (c, na, kd) | _ => none)
  | .invokespecial _ => (match o with | [c, na, kd, _, _, _, _] => some (c, na, kd) | _ => none)
  | .invokestatic _ => (match o with | [c, na, kd, _, _, _, _] => some (c, na, kd) | _ => none)
  | _ => none
def retO (y : Nat) (i : Instr) (st : List Value) (h : Hp) : Option (Option (Option Value × Hp)) := match i with
  | .ireturn => some (retI y st h)
  | .lreturn => some (retL y st h)
  | .return_ => some (retV y st h)
  | _ => none
def run (X : Scr) : Nat → Nat → Nat → Nat → List Value → List Value → Hp → Option (Option Value × Hp)
  | 0, _, _, _, _, _, _ => none
  | n + 1, dp, y, pc, L, st, h => match pAt y pc with
    | none => none
    | some (_, i, _, o) => match retO y i st h with
      | some r => r
      | none => match callO i o with
        | some (c, na, kd) => (match dp with
          | 0 => none
          | dp' + 1 => if callOK c na kd st h = true then
              (match run X n dp' c 0 (entL (mMaxL c) (st.take na).reverse) [] h with
              | some (rv, h1) => run X n (dp' + 1) y (pc + 3) L (rv.toList ++ st.drop na) h1
              | none => none)
            else none)
        | none => match hstep X i o pc L st h with
          | some (pc', L', st', h') => run X n dp y pc' L' st' h'
          | none => none
end JN03machine
section JN04words
/-! What the tables' words say of every printed instruction, checked by the kernel in bulk. -/
def vwC : Nat → String := fun c => match c with
  | 0 => RX0
  | 1 => RX1
  | 2 => RX2
  | 3 => RX3
  | 4 => RX4
  | 5 => RX5
  | 6 => RX6
  | _ => RX7
def vwT : Nat → u_T := fun c => match c with
  | 0 => TX0
  | 1 => TX1
  | 2 => TX2
  | 3 => TX3
  | 4 => TX4
  | 5 => TX5
  | 6 => TX6
  | _ => TX7
def BIGG : List Jvm.Cond := lw_tbl.filter goodWord
def isNest : Jvm.Cond → Bool
  | .fieldLinkNest _ _ _ _ _ _ => true
  | .methodLinkNest _ _ _ _ => true
  | _ => false
def NEST : List Jvm.Cond := tables_1.filter isNest
/-- a word by its place: 1000 times the chunk, and the place there; chunk 0: the selects of private methods -/
def wAt (pl : Nat) : Option Jvm.Cond := match pl / 1000 with
  | 0 => (k2_sels lw_privs)[pl % 1000]?
  | 1 => tables_1_1[pl % 1000]?
  | 2 => tables_1_2[pl % 1000]?
  | 3 => tables_1_3[pl % 1000]?
  | 4 => tables_1_4[pl % 1000]?
  | 5 => tables_1_5[pl % 1000]?
  | 6 => tables_1_6[pl % 1000]?
  | _ => none
def linkOK (pl : Nat) (w : Jvm.Cond) : Bool := match wAt pl with
  | some w' => decide (w' = w) && goodWord w
  | none => false
def nestOK (pl : Nat) (w : Jvm.Cond) : Bool := match wAt pl with
  | some w' => decide (w' = w) && isNest w
  | none => false
theorem wAt_in {pl : Nat} {w : Jvm.Cond} (h : wAt pl = some w) : w ∈ lw_tbl := by
  have t : ∀ x, (x ∈ tables_1_1 ∨ x ∈ tables_1_2 ∨ x ∈ tables_1_3 ∨ x ∈ tables_1_4 ∨ x ∈ tables_1_5 ∨ x ∈ tables_1_6) → x ∈ lw_tbl := by
    intro x hx
    refine List.mem_append_right _ ?_
    show x ∈ tables_1_1 ++ (tables_1_2 ++ (tables_1_3 ++ (tables_1_4 ++ (tables_1_5 ++ tables_1_6))))
    simpa only [List.mem_append] using hx
  unfold wAt at h
  split at h
  · exact List.mem_append_left _ (List.mem_of_getElem? h)
  · exact t _ (Or.inl (List.mem_of_getElem? h))
  · exact t _ (Or.inr (Or.inl (List.mem_of_getElem? h)))
  · exact t _ (Or.inr (Or.inr (Or.inl (List.mem_of_getElem? h))))
  · exact t _ (Or.inr (Or.inr (Or.inr (Or.inl (List.mem_of_getElem? h)))))
  · exact t _ (Or.inr (Or.inr (Or.inr (Or.inr (Or.inl (List.mem_of_getElem? h))))))
  · exact t _ (Or.inr (Or.inr (Or.inr (Or.inr (Or.inr (List.mem_of_getElem? h))))))
  · cases h
theorem sels_not_nest : ∀ w ∈ k2_sels lw_privs, isNest w = false := by
  intro w hw
  obtain ⟨q, -, rfl⟩ := List.mem_map.mp hw
  rfl
theorem linkOK_in {pl : Nat} {w : Jvm.Cond} (h : linkOK pl w = true) : w ∈ BIGG := by
  unfold linkOK at h
  split at h
  · rename_i w' hw
    obtain ⟨h1, h2⟩ := (Bool.and_eq_true _ _).mp h
    have h1 := of_decide_eq_true h1
    subst h1
    exact List.mem_filter.mpr ⟨wAt_in hw, h2⟩
  · cases h
theorem nestOK_in {pl : Nat} {w : Jvm.Cond} (h : nestOK pl w = true) : w ∈ NEST := by
  unfold nestOK at h
  split at h
  · rename_i w' hw
    obtain ⟨h1, h2⟩ := (Bool.and_eq_true _ _).mp h
    have h1 := of_decide_eq_true h1
    subst h1
    rcases List.mem_append.mp (wAt_in hw) with h3 | h3
    · rw [sels_not_nest _ h3] at h2
      cases h2
    · exact List.mem_filter.mpr ⟨h3, h2⟩
  · cases h
theorem BIGG_good : ∀ w ∈ BIGG, goodWord w = true := fun _ h => (List.mem_filter.mp h).2
theorem BIGG_tbl : ∀ w ∈ BIGG, w ∈ lw_tbl := fun _ h => (List.mem_filter.mp h).1
/-- the length of an instruction; 0: it is as the table says -/
def ilen : Instr → Nat
  | .bipush _ => 2 | .sipush _ => 3 | .ldc _ => 2 | .ldc_w _ => 3 | .ldc2_w _ => 3
  | .iload _ => 2 | .lload _ => 2 | .aload _ => 2 | .istore _ => 2 | .lstore _ => 2 | .astore _ => 2
  | .iinc _ _ => 3 | .ifCond _ _ => 3 | .if_icmp _ _ => 3 | .goto _ => 3
  | .tableswitch _ _ _ _ => 0 | .lookupswitch _ _ => 0
  | .getfield _ => 3 | .putfield _ => 3 | .getstatic _ => 3 | .new _ => 3 | .newarray _ => 2 | .anewarray _ => 3 | .multianewarray _ _ => 4
  | .invokevirtual _ => 3 | .invokespecial _ => 3 | .invokestatic _ => 3
  | _ => 1
def sFld (f : Nat) : String := if f = 0 then "value" else "coder"
def sFldD (f : Nat) : String := if f = 0 then "[B" else "B"
def fldOK (own : String) (idx ci k nest pl : Nat) : Bool := if nest = 0 then linkOK pl (.fieldLink own idx (vwC ci) (vwT ci k).2.1 (vwT ci k).2.2.1) else nestOK pl (.fieldLinkNest own idx (vwC ci) (vwT ci k).2.1 (vwT ci k).2.2.1 "PastCatchers")
def staOK (own : String) (idx s nest pl : Nat) : Bool := match s with
  | 0 => if nest = 0 then linkOK pl (.fieldLink own idx "PastCatchers" "ABOVE" "[I") else nestOK pl (.fieldLinkNest own idx "PastCatchers" "ABOVE" "[I" "PastCatchers")
  | 1 => nest == 0 && linkOK pl (.fieldLink own idx "PastCatchers$Acts" "BODIES" "[I")
  | 2 => nest == 0 && linkOK pl (.fieldLink own idx "java/lang/String" "COMPACT_STRINGS" "Z")
  | 3 => nest == 0 && linkOK pl (.fieldLink own idx "jdk/internal/util/Preconditions" "SIOOBE_FORMATTER" "Ljava/util/function/BiFunction;")
  | _ => false
def iniPl (ci : Nat) (nm : String) : Nat := (iniP.find? (fun q => q.1 == nm)).elim 0 (·.2)
def idxS : Nat → Nat := fun j => match j with
  | 0 => 55 | 1 => 61 | 2 => 63 | 3 => 78 | _ => 84
def txS : Nat → String := fun j => match j with
  | 0 => "each" | 1 => "old" | 2 => "odge" | 3 => "pklsay" | _ => "<=>"
/-- what holds of a method once for all its calls -/
def mOK (c : Nat) : Bool := decide ((mName c).cls ≠ "java/lang/invoke/MethodHandle") && decide ((mName c).cls ≠ "java/lang/invoke/VarHandle") && plainFor (mName c) && decide (mMaxL c ≤ 40) &&
  (decide (mCi c < 8 ∧ (mName c).cls = vwC (mCi c)) || decide (mCi c = 9 ∧ (mName c).cls = "java/lang/String") || decide (mCi c = 10)) && linkOK (iniPl (mCi c) (mName c).cls) (.initialized (mName c).cls)
/-- what a call of each kind wants -/
def kdOK (c na kd a sl : Nat) : Bool := match kd with
  | 0 => linkOK a (.instanceMethod (mName c)) && linkOK sl (.selects (mName c).cls (mName c) (mName c)) && decide ((parseMethodDescriptor (mName c).desc).map (fun d => d.parameters.length + 1) = some na) && decide (mCi c < 10)
  | 1 => linkOK a (.instanceMethod (mName c)) && decide ((mName c).name = "<init>") && decide (mRet c = none) && decide ((parseMethodDescriptor (mName c).desc).map (fun d => d.parameters.length + 1) = some na)
  | 2 => linkOK a (.static (mName c)) && decide ((parseMethodDescriptor (mName c).desc).map (fun d => d.parameters.length) = some na)
  | _ => false
/-- a call of method c: its link -/
def calOK (own : String) (idx c na kd nest pl a sl : Nat) : Bool :=
  (if nest = 0 then linkOK pl (.methodLink own idx (mName c)) else nestOK pl (.methodLinkNest own idx (mName c) "PastCatchers")) && decide (0 < c) && decide (c < 223) && kdOK c na kd a sl
def lnkE (y : Nat) (i : Instr) (o : List Nat) : Bool := match i with
  | .getfield idx => (match o with
    | [9, f, _, pl] => linkOK pl (.fieldLink (mName y).cls idx "java/lang/String" (sFld f) (sFldD f))
    | [ci, k, nest, pl] => fldOK (mName y).cls idx ci k nest pl && decide (ci < 8)
    | _ => true)
  | .putfield idx => (match o with
    | [ci, k, nest, pl] => fldOK (mName y).cls idx ci k nest pl && decide (ci < 8) && ((vwT ci k).2.2.2 == false || (decide (nest = 0) && decide ((mName y).name = "<init>") && decide ((mName y).cls = vwC ci)))
    | _ => true)
  | .getstatic idx => (match o with
    | [s, nest, pl] => staOK (mName y).cls idx s nest pl
    | _ => true)
  | .ldc idx => (match o with
    | [0, v, pl] => linkOK pl (.constant (mName y).cls idx (Int32.ofNat v))
    | [1, j, _] => decide ((mName y).cls = RX4) && decide (idx = idxS j)
    | _ => true)
  | .ldc_w idx => (match o with
    | [0, v, pl] => linkOK pl (.constant (mName y).cls idx (Int32.ofNat v))
    | _ => true)
  | .ldc2_w idx => (match o with
    | [v, pl] => linkOK pl (.constantLong (mName y).cls idx (Int64.ofNat v))
    | _ => true)
  | .new idx => (match o with
    | [ci, pl] => linkOK pl (.classLink (mName y).cls idx (vwC ci))
    | _ => true)
  | .anewarray idx => (match o with
    | [pl] => linkOK pl (.classLink (mName y).cls idx RX5)
    | _ => false)
  | .multianewarray idx _ => (match o with
    | [pl] => linkOK pl (.classLink (mName y).cls idx "[[J")
    | _ => false)
  | .invokespecial idx => (match o with
    | [9999, _, _, _, pl] => linkOK pl (.methodLink (mName y).cls idx objectInit)
    | [c, na, kd, nest, pl, a, sl] => kd == 1 && calOK (mName y).cls idx c na kd nest pl a sl
    | _ => true)
  | .invokestatic idx => (match o with
    | [9998, _, _, _, pl] => linkOK pl (.methodLink (mName y).cls idx arraycopyName)
    | [c, na, kd, nest, pl, a, sl] => kd == 2 && calOK (mName y).cls idx c na kd nest pl a sl
    | _ => true)
  | .invokevirtual idx => (match o with
    | [c, na, kd, nest, pl, a, sl] => kd == 0 && calOK (mName y).cls idx c na kd nest pl a sl
    | _ => true)
  | _ => true
def okE (y : Nat) (q : En) : Bool := decide (decode (mBytes y) q.1 = .ok (q.2.1, q.2.2.1)) && (ilen q.2.1 == 0 || ilen q.2.1 == q.2.2.1) && lnkE y q.2.1 q.2.2.2
end JN04words
section JN04wwindow
/-! A window of a method's bytes: what the kit's reader says of an instruction inside it, it says of the whole. -/
section WIN
variable {xs ys w : List UInt8}
def z_big (xs w ys : List UInt8) : ByteArray := ⟨⟨xs ++ (w ++ ys)⟩⟩
/-- what is read in the window is read in the whole, further on by so many -/
def Shf {α : Type} (xs ys w : List UInt8) (r r' : Decoder α) : Prop :=
  ∀ (p : Nat) (a : α) (q : Nat), r (⟨⟨w⟩⟩ : ByteArray) p = Except.ok (a, q) → r' (z_big xs w ys) (xs.length + p) = Except.ok (a, xs.length + q)
theorem Shf.pur {α : Type} (a : α) : Shf xs ys w (pure a) (pure a) := by
  intro p b q h
  have h : (Except.ok (a, p) : Except DecodeError (α × Nat)) = Except.ok (b, q) := h
  cases h
  rfl
theorem bnd_ok {α β : Type} {r : Decoder α} {f : α → Decoder β} {b : ByteArray} {p : Nat} {a : α} {m : Nat} (h : r b p = Except.ok (a, m)) : (r >>= f) b p = f a b m := by
  show Except.bind (r b p) _ = _
  rw [h]
  rfl
theorem bnd_inv {α β : Type} {r : Decoder α} {f : α → Decoder β} {b : ByteArray} {p : Nat} {c : β} {q : Nat} (h : (r >>= f) b p = Except.ok (c, q)) : ∃ a m, r b p = Except.ok (a, m) ∧ f a b m = Except.ok (c, q) := by
  cases hr : r b p with
  | error e =>
    exfalso
    have h2 : (r >>= f) b p = Except.error e := by
      show Except.bind (r b p) _ = _
      rw [hr]
      rfl
    rw [h2] at h
    cases h
  | ok x =>
    obtain ⟨a, m⟩ := x
    exact ⟨a, m, rfl, by rw [← bnd_ok (f := f) hr]; exact h⟩
theorem Shf.bnd {α β : Type} {r r' : Decoder α} {f f' : α → Decoder β} (h1 : Shf xs ys w r r') (h2 : ∀ a, Shf xs ys w (f a) (f' a)) : Shf xs ys w (r >>= f) (r' >>= f') := by
  intro p c q h
  obtain ⟨a, m, e1, e2⟩ := bnd_inv h
  rw [bnd_ok (h1 p a m e1)]
  exact h2 a m c q e2
theorem u1_ok (b : ByteArray) (p : Nat) (h : p < b.size) : (Reader.u1 : Decoder Nat) b p = Except.ok (b[p].toNat, p + 1) := by
  have e : (Reader.u1 : Decoder Nat) b p = (if h : p < b.size then (do set (p + 1); pure b[p].toNat : Decoder Nat) else throw (HasTruncated.truncated p)) b p := rfl
  rw [e, dif_pos h]
  rfl
theorem u1_no (b : ByteArray) (p : Nat) (h : ¬ p < b.size) : (Reader.u1 : Decoder Nat) b p = Except.error (HasTruncated.truncated p) := by
  have e : (Reader.u1 : Decoder Nat) b p = (if h : p < b.size then (do set (p + 1); pure b[p].toNat : Decoder Nat) else throw (HasTruncated.truncated p)) b p := rfl
  rw [e, dif_neg h]
  rfl
theorem Shf.u1 : Shf xs ys w (Reader.u1 : Decoder Nat) (Reader.u1 : Decoder Nat) := by
  intro p a q h
  by_cases hp : p < w.length
  · have h1 := u1_ok (⟨⟨w⟩⟩ : ByteArray) p hp
    have h2 : xs.length + p < (xs ++ (w ++ ys)).length := by
      rw [List.length_append, List.length_append]
      omega
    have h3 := u1_ok (z_big xs w ys) (xs.length + p) h2
    have h4 : (xs ++ (w ++ ys))[xs.length + p]? = w[p]? := by
      rw [List.getElem?_append_right (by omega), Nat.add_sub_cancel_left, List.getElem?_append_left hp]
    rw [List.getElem?_eq_getElem h2, List.getElem?_eq_getElem hp] at h4
    have h4 := Option.some.inj h4
    have h1 : (Reader.u1 : Decoder Nat) (⟨⟨w⟩⟩ : ByteArray) p = Except.ok (w[p].toNat, p + 1) := h1
    have h3 : (Reader.u1 : Decoder Nat) (z_big xs w ys) (xs.length + p) = Except.ok ((xs ++ (w ++ ys))[xs.length + p].toNat, xs.length + p + 1) := h3
    rw [h1] at h
    rw [h3, h4]
    cases h
    rfl
  · rw [u1_no (⟨⟨w⟩⟩ : ByteArray) p hp] at h
    cases h
theorem Shf.u2 : Shf xs ys w (Reader.u2 : Decoder Nat) (Reader.u2 : Decoder Nat) := by
  unfold Reader.u2
  exact Shf.u1.bnd fun hi => Shf.u1.bnd fun lo => Shf.pur _
theorem Shf.map {α β : Type} {r r' : Decoder α} (f : α → β) (h : Shf xs ys w r r') : Shf xs ys w (f <$> r) (f <$> r') := by
  have e : ∀ x : Decoder α, f <$> x = x >>= fun a => pure (f a) := fun x => map_eq_pure_bind f x
  rw [e, e]
  exact h.bnd fun a => Shf.pur _
theorem Shf.s1 : Shf xs ys w (Reader.s1 : Decoder Int) (Reader.s1 : Decoder Int) := by
  unfold Reader.s1
  exact Shf.u1.map _
theorem Shf.s2 : Shf xs ys w (Reader.s2 : Decoder Int) (Reader.s2 : Decoder Int) := by
  unfold Reader.s2
  exact Shf.u2.map _
theorem Shf.fu1 (F : Nat → Instr) : Shf xs ys w (do pure (F (← Reader.u1)) : Decoder Instr) (do pure (F (← Reader.u1)) : Decoder Instr) := Shf.u1.bnd fun _ => Shf.pur _
theorem Shf.fu2 (F : Nat → Instr) : Shf xs ys w (do pure (F (← Reader.u2)) : Decoder Instr) (do pure (F (← Reader.u2)) : Decoder Instr) := Shf.u2.bnd fun _ => Shf.pur _
theorem Shf.fs1 (F : Int → Instr) : Shf xs ys w (do pure (F (← Reader.s1)) : Decoder Instr) (do pure (F (← Reader.s1)) : Decoder Instr) := Shf.s1.bnd fun _ => Shf.pur _
theorem Shf.fs2 (F : Int → Instr) : Shf xs ys w (do pure (F (← Reader.s2)) : Decoder Instr) (do pure (F (← Reader.s2)) : Decoder Instr) := Shf.s2.bnd fun _ => Shf.pur _
theorem Shf.fus (F : Nat → Int → Instr) : Shf xs ys w (do pure (F (← Reader.u1) (← Reader.s1)) : Decoder Instr) (do pure (F (← Reader.u1) (← Reader.s1)) : Decoder Instr) := Shf.u1.bnd fun _ => Shf.s1.bnd fun _ => Shf.pur _
/-- the first bytes of the instructions that are looked at in a window -/
def OPSL : List Nat := [1, 2, 3, 4, 5, 6, 7, 8, 9, 10, 16, 17, 18, 19, 20, 21, 22, 25, 26, 27, 28, 29, 30, 31, 32, 33, 42, 43, 44, 45, 46, 47, 50, 51, 54, 55, 58, 59, 60, 61, 62, 63, 64, 65, 66, 75, 76, 77, 78, 79, 80, 83, 84, 87, 88, 89, 92, 96, 97, 100, 101, 104, 108, 112, 116, 120, 121, 122, 123, 124, 125, 126, 127, 128, 129, 130, 131, 132, 133, 136, 145, 146, 147, 148, 153, 154, 155, 156, 157, 158, 159, 160, 161, 162, 163, 164, 167, 172, 173, 176, 177, 178, 179, 180, 181, 182, 183, 184, 187, 189, 190]
def opG (b : Nat) : Bool := Nat.testBit 2599034849098876030505060005071089304090789327192195008510 b
theorem opG_in : ∀ b, b < 256 → opG b = true → b ∈ OPSL := by
  have h : (List.range 256).all (fun b => !opG b || OPSL.contains b) = true := by decide +kernel
  intro b hb ho
  have h1 : (!opG b || OPSL.contains b) = true := List.all_eq_true.mp h b (List.mem_range.mpr hb)
  rw [ho] at h1
  simpa using h1
def opOK (w : List UInt8) (p : Nat) : Bool := match w[p]? with
  | some b => opG b.toNat
  | none => false
theorem opOK_in {p b m : Nat} (hb : opOK w p = true) (h : (Reader.u1 : Decoder Nat) (⟨⟨w⟩⟩ : ByteArray) p = Except.ok (b, m)) : b ∈ OPSL := by
  by_cases hp : p < w.length
  · have h1 : (Reader.u1 : Decoder Nat) (⟨⟨w⟩⟩ : ByteArray) p = Except.ok (w[p].toNat, p + 1) := u1_ok (⟨⟨w⟩⟩ : ByteArray) p hp
    rw [h1] at h
    cases h
    unfold opOK at hb
    rw [List.getElem?_eq_getElem hp] at hb
    exact opG_in _ (by have := w[p].toNat_lt; omega) hb
  · rw [u1_no (⟨⟨w⟩⟩ : ByteArray) p hp] at h
    cases h
set_option maxRecDepth 100000 in
theorem instr_win {pc pc' p : Nat} {i : Instr} {q : Nat} (hb : opOK w p = true) (h : Decoder.instr pc (⟨⟨w⟩⟩ : ByteArray) p = Except.ok (i, q)) : Decoder.instr pc' (z_big xs w ys) (xs.length + p) = Except.ok (i, xs.length + q) := by
  unfold Decoder.instr at h ⊢
  obtain ⟨b, m, e1, e2⟩ := bnd_inv h
  rw [bnd_ok (Shf.u1 (xs := xs) (ys := ys) p b m e1)]
  have hm := opOK_in hb e1
  clear h e1 hb
  unfold OPSL at hm
  simp only [List.mem_cons, List.not_mem_nil, or_false] at hm
  rcases hm with rfl | rfl | rfl | rfl | rfl | rfl | rfl | rfl | rfl | rfl | rfl | rfl | rfl | rfl | rfl | rfl | rfl | rfl | rfl | rfl | rfl | rfl | rfl | rfl | rfl | rfl | rfl | rfl | rfl | rfl | rfl | rfl | rfl | rfl | rfl | rfl | rfl | rfl | rfl | rfl | rfl | rfl | rfl | rfl | rfl | rfl | rfl | rfl | rfl | rfl | rfl | rfl | rfl | rfl | rfl | rfl | rfl | rfl | rfl | rfl | rfl | rfl | rfl | rfl | rfl | rfl | rfl | rfl | rfl | rfl | rfl | rfl | rfl | rfl | rfl | rfl | rfl | rfl | rfl | rfl | rfl | rfl | rfl | rfl | rfl | rfl | rfl | rfl | rfl | rfl | rfl | rfl | rfl | rfl | rfl | rfl | rfl | rfl | rfl | rfl | rfl | rfl | rfl | rfl | rfl | rfl | rfl | rfl | rfl | rfl | rfl
  · exact (Shf.pur _) m i q e2
  · exact (Shf.pur _) m i q e2
  · exact (Shf.pur _) m i q e2
  · exact (Shf.pur _) m i q e2
  · exact (Shf.pur _) m i q e2
  · exact (Shf.pur _) m i q e2
  · exact (Shf.pur _) m i q e2
  · exact (Shf.pur _) m i q e2
  · exact (Shf.pur _) m i q e2
  · exact (Shf.pur _) m i q e2
  · exact (Shf.fs1 fun x => .bipush x) m i q e2
  · exact (Shf.fs2 fun x => .sipush x) m i q e2
  · exact (Shf.fu1 fun x => .ldc x) m i q e2
  · exact (Shf.fu2 fun x => .ldc_w x) m i q e2
  · exact (Shf.fu2 fun x => .ldc2_w x) m i q e2
  · exact (Shf.fu1 fun x => .iload x) m i q e2
  · exact (Shf.fu1 fun x => .lload x) m i q e2
  · exact (Shf.fu1 fun x => .aload x) m i q e2
  · exact (Shf.pur _) m i q e2
  · exact (Shf.pur _) m i q e2
  · exact (Shf.pur _) m i q e2
  · exact (Shf.pur _) m i q e2
  · exact (Shf.pur _) m i q e2
  · exact (Shf.pur _) m i q e2
  · exact (Shf.pur _) m i q e2
  · exact (Shf.pur _) m i q e2
  · exact (Shf.pur _) m i q e2
  · exact (Shf.pur _) m i q e2
  · exact (Shf.pur _) m i q e2
  · exact (Shf.pur _) m i q e2
  · exact (Shf.pur _) m i q e2
  · exact (Shf.pur _) m i q e2
  · exact (Shf.pur _) m i q e2
  · exact (Shf.pur _) m i q e2
  · exact (Shf.fu1 fun x => .istore x) m i q e2
  · exact (Shf.fu1 fun x => .lstore x) m i q e2
  · exact (Shf.fu1 fun x => .astore x) m i q e2
  · exact (Shf.pur _) m i q e2
  · exact (Shf.pur _) m i q e2
  · exact (Shf.pur _) m i q e2
  · exact (Shf.pur _) m i q e2
  · exact (Shf.pur _) m i q e2
  · exact (Shf.pur _) m i q e2
  · exact (Shf.pur _) m i q e2
  · exact (Shf.pur _) m i q e2
  · exact (Shf.pur _) m i q e2
  · exact (Shf.pur _) m i q e2
  · exact (Shf.pur _) m i q e2
  · exact (Shf.pur _) m i q e2
  · exact (Shf.pur _) m i q e2
  · exact (Shf.pur _) m i q e2
  · exact (Shf.pur _) m i q e2
  · exact (Shf.pur _) m i q e2
  · exact (Shf.pur _) m i q e2
  · exact (Shf.pur _) m i q e2
  · exact (Shf.pur _) m i q e2
  · exact (Shf.pur _) m i q e2
  · exact (Shf.pur _) m i q e2
  · exact (Shf.pur _) m i q e2
  · exact (Shf.pur _) m i q e2
  · exact (Shf.pur _) m i q e2
  · exact (Shf.pur _) m i q e2
  · exact (Shf.pur _) m i q e2
  · exact (Shf.pur _) m i q e2
  · exact (Shf.pur _) m i q e2
  · exact (Shf.pur _) m i q e2
  · exact (Shf.pur _) m i q e2
  · exact (Shf.pur _) m i q e2
  · exact (Shf.pur _) m i q e2
  · exact (Shf.pur _) m i q e2
  · exact (Shf.pur _) m i q e2
  · exact (Shf.pur _) m i q e2
  · exact (Shf.pur _) m i q e2
  · exact (Shf.pur _) m i q e2
  · exact (Shf.pur _) m i q e2
  · exact (Shf.pur _) m i q e2
  · exact (Shf.pur _) m i q e2
  · exact (Shf.fus fun x y => .iinc x y) m i q e2
  · exact (Shf.pur _) m i q e2
  · exact (Shf.pur _) m i q e2
  · exact (Shf.pur _) m i q e2
  · exact (Shf.pur _) m i q e2
  · exact (Shf.pur _) m i q e2
  · exact (Shf.pur _) m i q e2
  · exact (Shf.fs2 fun x => .ifCond .eq x) m i q e2
  · exact (Shf.fs2 fun x => .ifCond .ne x) m i q e2
  · exact (Shf.fs2 fun x => .ifCond .lt x) m i q e2
  · exact (Shf.fs2 fun x => .ifCond .ge x) m i q e2
  · exact (Shf.fs2 fun x => .ifCond .gt x) m i q e2
  · exact (Shf.fs2 fun x => .ifCond .le x) m i q e2
  · exact (Shf.fs2 fun x => .if_icmp .eq x) m i q e2
  · exact (Shf.fs2 fun x => .if_icmp .ne x) m i q e2
  · exact (Shf.fs2 fun x => .if_icmp .lt x) m i q e2
  · exact (Shf.fs2 fun x => .if_icmp .ge x) m i q e2
  · exact (Shf.fs2 fun x => .if_icmp .gt x) m i q e2
  · exact (Shf.fs2 fun x => .if_icmp .le x) m i q e2
  · exact (Shf.fs2 fun x => .goto x) m i q e2
  · exact (Shf.pur _) m i q e2
  · exact (Shf.pur _) m i q e2
  · exact (Shf.pur _) m i q e2
  · exact (Shf.pur _) m i q e2
  · exact (Shf.fu2 fun x => .getstatic x) m i q e2
  · exact (Shf.fu2 fun x => .putstatic x) m i q e2
  · exact (Shf.fu2 fun x => .getfield x) m i q e2
  · exact (Shf.fu2 fun x => .putfield x) m i q e2
  · exact (Shf.fu2 fun x => .invokevirtual x) m i q e2
  · exact (Shf.fu2 fun x => .invokespecial x) m i q e2
  · exact (Shf.fu2 fun x => .invokestatic x) m i q e2
  · exact (Shf.fu2 fun x => .new x) m i q e2
  · exact (Shf.fu2 fun x => .anewarray x) m i q e2
  · exact (Shf.pur _) m i q e2
theorem dec_win {p n : Nat} {i : Instr} (hb : opOK w p = true) (h : decode (⟨⟨w⟩⟩ : ByteArray) p = Except.ok (i, n)) : decode (z_big xs w ys) (xs.length + p) = Except.ok (i, n) := by
  have e : ∀ (c : ByteArray) (k : Nat), decode c k = Except.bind (Decoder.instr k c k) (fun x => Except.ok (x.1, x.2 - k)) := fun _ _ => rfl
  rw [e] at h ⊢
  cases hr : Decoder.instr p (⟨⟨w⟩⟩ : ByteArray) p with
  | error er =>
    rw [hr] at h
    have h : (Except.error er : Except DecodeError (Instr × Nat)) = Except.ok (i, n) := h
    cases h
  | ok x =>
    obtain ⟨j, q⟩ := x
    rw [hr] at h
    rw [instr_win (xs := xs) (ys := ys) (pc' := xs.length + p) hb hr]
    have h : (Except.ok (j, q - p) : Except DecodeError (Instr × Nat)) = Except.ok (i, n) := h
    cases h
    show (Except.ok (_, xs.length + q - (xs.length + p)) : Except DecodeError (Instr × Nat)) = Except.ok (_, q - p)
    rw [Nat.add_sub_add_left]
end WIN
/-- okE, the bytes looked at in a window that begins at P -/
def okW (y P : Nat) (w : List UInt8) (q : En) : Bool := if (opOK w (q.1 - P) && decide (P ≤ q.1)) = true then decide (decode ⟨⟨w⟩⟩ (q.1 - P) = .ok (q.2.1, q.2.2.1)) && (ilen q.2.1 == 0 || ilen q.2.1 == q.2.2.1) && lnkE y q.2.1 q.2.2.2 else okE y q
theorem okW_ok {y P W : Nat} (hP : P ≤ (mBytes y).data.toList.length) {q : En} (h : okW y P (((mBytes y).data.toList.drop P).take W) q = true) : okE y q = true := by
  generalize hL : (mBytes y).data.toList = L at hP h
  unfold okW at h
  by_cases hc : (opOK ((L.drop P).take W) (q.1 - P) && decide (P ≤ q.1)) = true
  · rw [if_pos hc] at h
    obtain ⟨h1, h2⟩ := (Bool.and_eq_true _ _).mp hc
    have h2 := of_decide_eq_true h2
    obtain ⟨h3, h5⟩ := (Bool.and_eq_true _ _).mp h
    obtain ⟨h3, h4⟩ := (Bool.and_eq_true _ _).mp h3
    have h3 := of_decide_eq_true h3
    have hx : (L.take P).length = P := by
      rw [List.length_take]
      omega
    have h6 := dec_win (xs := L.take P) (ys := (L.drop P).drop W) h1 h3
    have e : L.take P ++ ((L.drop P).take W ++ (L.drop P).drop W) = L := by
      rw [List.take_append_drop, List.take_append_drop]
    have h7 : z_big (L.take P) ((L.drop P).take W) ((L.drop P).drop W) = mBytes y := by
      have e2 : z_big (L.take P) ((L.drop P).take W) ((L.drop P).drop W) = ⟨⟨L⟩⟩ := congrArg (fun l => (⟨⟨l⟩⟩ : ByteArray)) e
      exact e2.trans (by subst hL; rfl)
    rw [h7, hx, Nat.add_sub_cancel' h2] at h6
    unfold okE
    exact (Bool.and_eq_true _ _).mpr ⟨(Bool.and_eq_true _ _).mpr ⟨decide_eq_true h6, h4⟩, h5⟩
  · rw [if_neg hc] at h
    exact h
theorem okW_all {y P W : Nat} {l : List En} (hP : P ≤ (mBytes y).data.toList.length) (h : l.all (okW y P (((mBytes y).data.toList.drop P).take W)) = true) : l.all (okE y) = true :=
  List.all_eq_true.mpr fun q hq => okW_ok hP (List.all_eq_true.mp h q hq)
theorem all_start {l : List En} {f : En → Bool} (h : (l.drop 0).all f = true) : l.all f = true := by
  rw [List.drop_zero] at h
  exact h
theorem all_chunk {l : List En} {f : En → Bool} {k c m : Nat} (hk : k + c = m) (h1 : ((l.drop k).take c).all f = true) (h2 : (l.drop m).all f = true) : (l.drop k).all f = true := by
  have e : (l.drop k).drop c = l.drop m := by
    subst hk
    simp [List.drop_drop, Nat.add_comm]
  have e2 : (l.drop k).all f = ((l.drop k).take c ++ (l.drop k).drop c).all f := by rw [List.take_append_drop]
  rw [e2, List.all_append, e]
  exact (Bool.and_eq_true _ _).mpr ⟨h1, h2⟩
theorem all_end {l : List En} {f : En → Bool} {m : Nat} (h : l.length ≤ m) : (l.drop m).all f = true := by
  simp [List.drop_eq_nil_of_le h]
end JN04wwindow
