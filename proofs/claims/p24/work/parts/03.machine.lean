section JN03machine
/-! A machine of its own over the printed instructions: a pure step, and a run with fuel and depth. Objects and arrays are numbers; what a cell holds is said by functions. -/
def OLDB : Nat := 1000000
theorem OLDB_eq : OLDB = 1000000 := rfl
abbrev Sh : Type := (Nat × Nat) ⊕ Nat
abbrev Hp : Type := List Sh × (Nat → Nat → Int32) × (Nat → Nat → Int64) × (Nat → Nat → Option Nat)
abbrev Scr : Type := Nat × (Nat → Int32)
abbrev Cfg : Type := Nat × List Value × List Value × Hp
def ud {α : Type} (f : Nat → Nat → α) (a i : Nat) (v : α) : Nat → Nat → α := fun a' => if a' = a then (fun j => if j = i then v else f a j) else f a'
def clr {α : Type} (f : Nat → Nat → α) (a : Nat) (v : α) : Nat → Nat → α := fun a' => if a' = a then (fun _ => v) else f a'
def inB (i : Int32) (n : Nat) : Bool := decide (¬ i < 0) && decide (i.toNatClampNeg < n)
def aboveL : List Int32 := [-1, 0, 0, 0, 1, 2, 3]
def bodiesL : List Int32 := [10, 0, 30, 0, 50, 0, 71, 11, 20, 0, 0, 51, 0, 70, 12, 0, 0, 40, 0, 60, 0]
def strB : List (List Int32) := [[101, 97, 99, 104], [111, 108, 100], [111, 100, 103, 101], [112, 107, 108, 115, 97, 121], [60, 61, 62]]
def strL : List Nat := [4, 3, 4, 6, 3]
def oldArr (X : Scr) (j : Nat) : Option (Nat × Nat × (Nat → Int32)) :=
  if j = 0 then some (0, X.1, X.2)
  else if j = 1 then some (0, 7, fun i => aboveL.getD i 0)
  else if j = 2 then some (0, 21, fun i => bodiesL.getD i 0)
  else if 8 ≤ j ∧ j < 13 then some (5, strL.getD (j - 8) 0, fun i => (strB.getD (j - 8) []).getD i 0)
  else none
def isRefTy : FieldType → Bool
  | .object _ => true
  | .array _ => true
  | _ => false
def isBoolTy : FieldType → Bool
  | .boolean => true
  | _ => false
/-- the slot before k isn't the first half of a long -/
def okSt (L : List Value) : Nat → Bool
  | 0 => true
  | k + 1 => match L[k]? with
    | some v => v.category == 1
    | none => false
def condB : Jvm.ClassFile.Cond → Int32 → Int32 → Bool
  | .eq, x, y => decide (x = y)
  | .ne, x, y => decide (¬ x = y)
  | .lt, x, y => decide (x < y)
  | .ge, x, y => decide (y ≤ x)
  | .gt, x, y => decide (y < x)
  | .le, x, y => decide (x ≤ y)
def jump (pc : Nat) (off : Int) : Option Nat := if 0 ≤ (pc : Int) + off then some ((pc : Int) + off).toNat else none
def atag : ArrayType → Option Nat
  | .int => some 0
  | .long => some 1
  | .boolean => some 2
  | _ => none
def catSum (st : List Value) : Nat := (st.map fun v => v.category).sum
/-- the value of a field of a new object -/
def fval (h : Hp) (ci a k : Nat) : Option Value := if isRefTy (vwTy ci k) then (match h.2.2.2 a k with
    | some b => if b < OLDB then some (.ref b) else none
    | none => none) else some (.int (h.2.1 a k))
def getF (o : List Nat) (st : List Value) (h : Hp) : Option (List Value) := match o with
  | [9, f, _, _] => (match st with
    | .ref a :: st => if OLDB + 3 ≤ a ∧ a < OLDB + 8 then some ((if f = 0 then .ref (a + 5) else .int 0) :: st) else none
    | _ => none)
  | [ci, k, _, _] => (match st with
    | .ref a :: st => if a < OLDB ∧ h.1[a]? = some (.inr ci) ∧ k < vwN ci then (fval h ci a k).map (· :: st) else none
    | _ => none)
  | _ => none
def putF (o : List Nat) (st : List Value) (h : Hp) : Option (List Value × Hp) := match o with
  | [ci, k, _, _] => (match st with
    | v :: .ref a :: st => if a < OLDB ∧ h.1[a]? = some (.inr ci) ∧ k < vwN ci then
        (match v with
        | .int x => if isRefTy (vwTy ci k) then none else if isBoolTy (vwTy ci k) ∧ ¬ (x = 0 ∨ x = 1) then none else some (st, (h.1, ud h.2.1 a k x, h.2.2.1, h.2.2.2))
        | .ref b => if isRefTy (vwTy ci k) ∧ b < OLDB then some (st, (h.1, h.2.1, h.2.2.1, ud h.2.2.2 a k (some b))) else none
        | _ => none)
      else none
    | _ => none)
  | _ => none
def arrNew (h : Hp) (t n : Nat) : Hp := (h.1 ++ [.inl (t, n)], clr h.2.1 h.1.length 0, clr h.2.2.1 h.1.length 0, clr h.2.2.2 h.1.length none)
def objNew (h : Hp) (ci : Nat) : Hp := (h.1 ++ [.inr ci], clr h.2.1 h.1.length 0, clr h.2.2.1 h.1.length 0, clr h.2.2.2 h.1.length none)
/-- new long[n][k] -/
def rowNew (h : Hp) (n k : Nat) : Hp := (h.1 ++ .inl (4, n) :: List.replicate n (.inl (1, k)), fun a => if h.1.length ≤ a then (fun _ => 0) else h.2.1 a, fun a => if h.1.length ≤ a then (fun _ => 0) else h.2.2.1 a,
  fun a => if a = h.1.length then (fun i => if i < n then some (h.1.length + 1 + i) else none) else if h.1.length ≤ a then (fun _ => none) else h.2.2.2 a)
def copyA (st : List Value) (h : Hp) : Option (List Value × Hp) := match st with
  | .int n :: .int dp :: .ref a :: .int sp :: .ref b :: st =>
    if a < OLDB ∧ b < OLDB ∧ ¬ sp < 0 ∧ ¬ dp < 0 ∧ ¬ n < 0 ∧ catSum st ≤ 8 then
      (match h.1[a]?, h.1[b]? with
      | some (.inl (t, m)), some (.inl (t', m')) =>
        if t = t' ∧ sp.toNatClampNeg + n.toNatClampNeg ≤ m' ∧ dp.toNatClampNeg + n.toNatClampNeg ≤ m then
          (if t = 0 then some (st, (h.1, (fun x => if x = a then va_cpy (h.2.1 b) (h.2.1 a) sp.toNatClampNeg dp.toNatClampNeg n.toNatClampNeg else h.2.1 x), h.2.2.1, h.2.2.2))
          else if t = 1 then some (st, (h.1, h.2.1, (fun x => if x = a then va_cpy (h.2.2.1 b) (h.2.2.1 a) sp.toNatClampNeg dp.toNatClampNeg n.toNatClampNeg else h.2.2.1 x), h.2.2.2))
          else none)
        else none
      | _, _ => none)
    else none
  | _ => none
/-- the instructions on locals, stack and numbers alone -/
def pstep (i : Instr) (o : List Nat) (pc : Nat) (L st : List Value) : Option (Nat × List Value × List Value) := match i with
  | .iconst k => some (pc + 1, L, .int (Int32.ofInt k) :: st)
  | .bipush k => some (pc + 2, L, .int (Int8.ofInt k).toInt32 :: st)
  | .sipush k => some (pc + 3, L, .int (Int16.ofInt k).toInt32 :: st)
  | .lconst k => some (pc + 1, L, .long (Int64.ofNat (k : Nat)) :: st)
  | .ldc _ => (match o with
    | [0, v, _] => some (pc + 2, L, .int (Int32.ofNat v) :: st)
    | [1, j, _] => if j < 5 then some (pc + 2, L, .ref (OLDB + 3 + j) :: st) else none
    | _ => none)
  | .ldc_w _ => (match o with
    | [0, v, _] => some (pc + 3, L, .int (Int32.ofNat v) :: st)
    | _ => none)
  | .ldc2_w _ => (match o with
    | [v, _] => some (pc + 3, L, .long (Int64.ofNat v) :: st)
    | _ => none)
  | .iload k => (match L[k]? with | some (.int x) => some (pc + 2, L, .int x :: st) | _ => none)
  | .iload_n k => (match L[(k : Nat)]? with | some (.int x) => some (pc + 1, L, .int x :: st) | _ => none)
  | .lload k => (match L[k]? with | some (.long x) => some (pc + 2, L, .long x :: st) | _ => none)
  | .lload_n k => (match L[(k : Nat)]? with | some (.long x) => some (pc + 1, L, .long x :: st) | _ => none)
  | .aload k => (match L[k]? with | some (.ref x) => if x = OLDB + 13 then none else some (pc + 2, L, .ref x :: st) | _ => none)
  | .aload_n k => (match L[(k : Nat)]? with | some (.ref x) => if x = OLDB + 13 then none else some (pc + 1, L, .ref x :: st) | _ => none)
  | .istore k => (match st with | .int x :: st => if k < L.length ∧ okSt L k = true then some (pc + 2, L.set k (.int x), st) else none | _ => none)
  | .istore_n k => (match st with | .int x :: st => if (k : Nat) < L.length ∧ okSt L k = true then some (pc + 1, L.set k (.int x), st) else none | _ => none)
  | .lstore k => (match st with | .long x :: st => if k + 1 < L.length ∧ okSt L k = true then some (pc + 2, (L.set k (.long x)).set (k + 1) (.retAddr 0), st) else none | _ => none)
  | .lstore_n k => (match st with | .long x :: st => if (k : Nat) + 1 < L.length ∧ okSt L k = true then some (pc + 1, (L.set k (.long x)).set (k + 1) (.retAddr 0), st) else none | _ => none)
  | .astore_n k => (match st with | .ref x :: st => if (k : Nat) < L.length ∧ okSt L k = true ∧ ¬ x = OLDB + 13 then some (pc + 1, L.set k (.ref x), st) else none | _ => none)
  | .iinc k n => (match L[k]? with | some (.int x) => if okSt L k = true then some (pc + 3, L.set k (.int (x + Int32.ofInt n)), st) else none | _ => none)
  | .iadd => (match st with | .int y :: .int x :: st => some (pc + 1, L, .int (x + y) :: st) | _ => none)
  | .isub => (match st with | .int y :: .int x :: st => some (pc + 1, L, .int (x - y) :: st) | _ => none)
  | .imul => (match st with | .int y :: .int x :: st => some (pc + 1, L, .int (x * y) :: st) | _ => none)
  | .idiv => (match st with | .int y :: .int x :: st => if y = 0 then none else some (pc + 1, L, .int (x / y) :: st) | _ => none)
  | .irem => (match st with | .int y :: .int x :: st => if y = 0 then none else some (pc + 1, L, .int (x - x / y * y) :: st) | _ => none)
  | .ineg => (match st with | .int x :: st => some (pc + 1, L, .int (-x) :: st) | _ => none)
  | .iand => (match st with | .int y :: .int x :: st => some (pc + 1, L, .int (x &&& y) :: st) | _ => none)
  | .ior => (match st with | .int y :: .int x :: st => some (pc + 1, L, .int (x ||| y) :: st) | _ => none)
  | .ixor => (match st with | .int y :: .int x :: st => some (pc + 1, L, .int (x ^^^ y) :: st) | _ => none)
  | .ishl => (match st with | .int y :: .int x :: st => some (pc + 1, L, .int (x <<< (y &&& 31)) :: st) | _ => none)
  | .ishr => (match st with | .int y :: .int x :: st => some (pc + 1, L, .int (x >>> (y &&& 31)) :: st) | _ => none)
  | .iushr => (match st with | .int y :: .int x :: st => some (pc + 1, L, .int (x.toUInt32 >>> (y.toUInt32 &&& Int32.toUInt32 31)).toInt32 :: st) | _ => none)
  | .ladd => (match st with | .long y :: .long x :: st => some (pc + 1, L, .long (x + y) :: st) | _ => none)
  | .lsub => (match st with | .long y :: .long x :: st => some (pc + 1, L, .long (x - y) :: st) | _ => none)
  | .land => (match st with | .long y :: .long x :: st => some (pc + 1, L, .long (x &&& y) :: st) | _ => none)
  | .lor => (match st with | .long y :: .long x :: st => some (pc + 1, L, .long (x ||| y) :: st) | _ => none)
  | .lxor => (match st with | .long y :: .long x :: st => some (pc + 1, L, .long (x ^^^ y) :: st) | _ => none)
  | .lshl => (match st with | .int y :: .long x :: st => some (pc + 1, L, .long (x <<< (y.toInt64 &&& 63)) :: st) | _ => none)
  | .lshr => (match st with | .int y :: .long x :: st => some (pc + 1, L, .long (x >>> (y.toInt64 &&& 63)) :: st) | _ => none)
  | .lcmp => (match st with | .long y :: .long x :: st => some (pc + 1, L, .int (lg_cmp x y) :: st) | _ => none)
  | .i2l => (match st with | .int x :: st => some (pc + 1, L, .long x.toInt64 :: st) | _ => none)
  | .l2i => (match st with | .long x :: st => some (pc + 1, L, .int x.toInt32 :: st) | _ => none)
  | .i2b => (match st with | .int x :: st => some (pc + 1, L, .int x.toInt8.toInt32 :: st) | _ => none)
  | .i2s => (match st with | .int x :: st => some (pc + 1, L, .int x.toInt16.toInt32 :: st) | _ => none)
  | .i2c => (match st with | .int x :: st => some (pc + 1, L, .int (x.toUInt32 % 65536).toInt32 :: st) | _ => none)
  | .dup => (match st with | v :: st => if v.category = 1 then some (pc + 1, L, v :: v :: st) else none | _ => none)
  | .pop => (match st with | v :: st => if v.category = 1 then some (pc + 1, L, st) else none | _ => none)
  | .dup2 => (match st with | v :: w :: st => if v.category = 1 ∧ w.category = 1 then some (pc + 1, L, v :: w :: v :: w :: st) else none | _ => none)
  | .pop2 => (match st with | v :: st => if v.category = 2 then some (pc + 1, L, st) else none | _ => none)
  | .ifCond q off => (match st with | .int x :: st => (jump pc off).map (fun t => (if condB q x 0 = true then t else pc + 3, L, st)) | _ => none)
  | .if_icmp q off => (match st with | .int y :: .int x :: st => (jump pc off).map (fun t => (if condB q x y = true then t else pc + 3, L, st)) | _ => none)
  | .goto off => (jump pc off).map (fun t => (t, L, st))
  | .tableswitch dflt lo hi offs => (match st with
    | .int x :: st => if x.toInt < lo ∨ hi < x.toInt then (jump pc dflt).map (fun t => (t, L, st)) else
        (match offs[(x.toInt - lo).toNat]? with | some off => (jump pc off).map (fun t => (t, L, st)) | none => none)
    | _ => none)
  | .lookupswitch dflt ps => (match st with
    | .int x :: st => if (ps.toList.zip (ps.toList.drop 1)).all (fun (a, next) => a.1 < next.1) = true then (jump pc (Op.lookupswitch.offset ps.toList dflt x.toInt)).map (fun t => (t, L, st)) else none
    | _ => none)
  | _ => none
/-- the instructions on the heap, without calls -/
def hstep (X : Scr) (i : Instr) (o : List Nat) (pc : Nat) (L st : List Value) (h : Hp) : Option Cfg := match i with
  | .getfield _ => (getF o st h).map (fun st' => (pc + 3, L, st', h))
  | .putfield _ => (putF o st h).map (fun q => (pc + 3, L, q.1, q.2))
  | .getstatic _ => (match o with
    | [0, _, _] => some (pc + 3, L, .ref (OLDB + 1) :: st, h)
    | [1, _, _] => some (pc + 3, L, .ref (OLDB + 2) :: st, h)
    | [2, _, _] => some (pc + 3, L, .int 1 :: st, h)
    | [3, _, _] => some (pc + 3, L, .ref (OLDB + 13) :: st, h)
    | _ => none)
  | .arraylength => (match st with
    | .ref a :: st => if a < OLDB then (match h.1[a]? with | some (.inl (t, n)) => if t < 5 then some (pc + 1, L, .int (Int32.ofNat n) :: st, h) else none | _ => none)
        else (match oldArr X (a - OLDB) with | some (_, n, _) => some (pc + 1, L, .int (Int32.ofNat n) :: st, h) | none => none)
    | _ => none)
  | .iaload => (match st with
    | .int j :: .ref a :: st => if a < OLDB then (match h.1[a]? with | some (.inl (0, n)) => if inB j n = true then some (pc + 1, L, .int (h.2.1 a j.toNatClampNeg) :: st, h) else none | _ => none)
        else (match oldArr X (a - OLDB) with | some (0, n, f) => if inB j n = true then some (pc + 1, L, .int (f j.toNatClampNeg) :: st, h) else none | _ => none)
    | _ => none)
  | .baload => (match st with
    | .int j :: .ref a :: st => if a < OLDB then (match h.1[a]? with | some (.inl (2, n)) => if inB j n = true then some (pc + 1, L, .int (h.2.1 a j.toNatClampNeg) :: st, h) else none | _ => none)
        else (match oldArr X (a - OLDB) with | some (5, n, f) => if inB j n = true then some (pc + 1, L, .int (f j.toNatClampNeg) :: st, h) else none | _ => none)
    | _ => none)
  | .laload => (match st with
    | .int j :: .ref a :: st => if a < OLDB then (match h.1[a]? with | some (.inl (1, n)) => if inB j n = true then some (pc + 1, L, .long (h.2.2.1 a j.toNatClampNeg) :: st, h) else none | _ => none) else none
    | _ => none)
  | .aaload => (match st with
    | .int j :: .ref a :: st => if a < OLDB then (match h.1[a]? with
      | some (.inl (t, n)) => if (t = 3 ∨ t = 4) ∧ inB j n = true then (match h.2.2.2 a j.toNatClampNeg with | some b => if b < OLDB then some (pc + 1, L, .ref b :: st, h) else none | none => none) else none
      | _ => none) else none
    | _ => none)
  | .iastore => (match st with
    | .int x :: .int j :: .ref a :: st => if a < OLDB then (match h.1[a]? with | some (.inl (0, n)) => if inB j n = true then some (pc + 1, L, st, (h.1, ud h.2.1 a j.toNatClampNeg x, h.2.2.1, h.2.2.2)) else none | _ => none) else none
    | _ => none)
  | .bastore => (match st with
    | .int x :: .int j :: .ref a :: st => if a < OLDB ∧ (x = 0 ∨ x = 1) then (match h.1[a]? with | some (.inl (2, n)) => if inB j n = true then some (pc + 1, L, st, (h.1, ud h.2.1 a j.toNatClampNeg x, h.2.2.1, h.2.2.2)) else none | _ => none) else none
    | _ => none)
  | .lastore => (match st with
    | .long x :: .int j :: .ref a :: st => if a < OLDB then (match h.1[a]? with | some (.inl (1, n)) => if inB j n = true then some (pc + 1, L, st, (h.1, h.2.1, ud h.2.2.1 a j.toNatClampNeg x, h.2.2.2)) else none | _ => none) else none
    | _ => none)
  | .aastore => (match st with
    | .ref b :: .int j :: .ref a :: st => if a < OLDB ∧ b < OLDB ∧ h.1[b]? = some (.inr 5) then (match h.1[a]? with | some (.inl (3, n)) => if inB j n = true then some (pc + 1, L, st, (h.1, h.2.1, h.2.2.1, ud h.2.2.2 a j.toNatClampNeg (some b))) else none | _ => none) else none
    | _ => none)
  | .new _ => (match o with | [ci, _] => if h.1.length < OLDB ∧ ci < 8 then some (pc + 3, L, .ref h.1.length :: st, objNew h ci) else none | _ => none)
  | .newarray ty => (match st with
    | .int n :: st => (match atag ty with | some t => if h.1.length < OLDB ∧ ¬ n < 0 ∧ n.toNatClampNeg ≤ 10000 then some (pc + 2, L, .ref h.1.length :: st, arrNew h t n.toNatClampNeg) else none | none => none)
    | _ => none)
  | .anewarray _ => (match st with
    | .int n :: st => if h.1.length < OLDB ∧ ¬ n < 0 ∧ n.toNatClampNeg ≤ 10000 then some (pc + 3, L, .ref h.1.length :: st, arrNew h 3 n.toNatClampNeg) else none
    | _ => none)
  | .multianewarray _ d => (match st with
    | .int k :: .int n :: st => if d = 2 ∧ h.1.length < OLDB ∧ ¬ n < 0 ∧ ¬ k < 0 ∧ n.toNatClampNeg ≤ 1000 ∧ k.toNatClampNeg ≤ 1000 then some (pc + 4, L, .ref h.1.length :: st, rowNew h n.toNatClampNeg k.toNatClampNeg) else none
    | _ => none)
  | .invokespecial _ => (match o with
    | [9999, _, _, _, _] => (match st with | .ref a :: st => if a < OLDB ∧ catSum st ≤ 8 then some (pc + 3, L, st, h) else none | _ => none)
    | _ => none)
  | .invokestatic _ => (match o with
    | [9998, _, _, _, _] => (copyA st h).map (fun q => (pc + 3, L, q.1, q.2))
    | _ => none)
  | i => (pstep i o pc L st).map (fun q => (q.1, q.2.1, q.2.2, h))
/-- the receiver of a call of method c -/
def recvOK (c : Nat) (h : Hp) (v : Value) : Bool := match v with
  | .ref a => if a < OLDB then decide (h.1[a]? = some (.inr (mCi c))) && decide (mCi c < 8) else decide (mCi c = 9) && decide (OLDB + 3 ≤ a) && decide (a < OLDB + 8)
  | _ => false
/-- the locals with which a method begins -/
def entL0 : List Value → List Value
  | [] => []
  | v :: vs => if v.category = 2 then v :: .retAddr 0 :: entL0 vs else v :: entL0 vs
def entL (n : Nat) (vs : List Value) : List Value := entL0 vs ++ List.replicate (n - (entL0 vs).length) (.retAddr 0)
def argOK (v : Value) : Bool := match v with
  | .int _ => true
  | .long _ => true
  | .ref _ => true
  | _ => false
def callOK (c na kd : Nat) (st : List Value) (h : Hp) : Bool :=
  decide (na ≤ st.length) && decide (catSum (st.drop na) ≤ 8) && (st.take na).all argOK && decide ((entL0 (st.take na).reverse).length ≤ mMaxL c) &&
  (if kd = 2 then true else match (st.take na).reverse with
    | v :: _ => if kd = 0 then recvOK c h v else (match v with | .ref a => decide (a < OLDB) | _ => false)
    | [] => false)
def retI (y : Nat) (st : List Value) (h : Hp) : Option (Option Value × Hp) := match st with
  | [.int x] => (match mRet y with | some ty => if isRefTy ty = false ∧ narrow ty (.int x) = .int x then some (some (.int x), h) else none | none => none)
  | _ => none
def retL (y : Nat) (st : List Value) (h : Hp) : Option (Option Value × Hp) := match st with
  | [.long x] => if mRet y = some .long then some (some (.long x), h) else none
  | _ => none
def retV (y : Nat) (st : List Value) (h : Hp) : Option (Option Value × Hp) := match st with
  | [] => if mRet y = none then some (none, h) else none
  | _ => none
def callO (i : Instr) (o : List Nat) : Option (Nat × Nat × Nat) := match i with
  | .invokevirtual _ => (match o with | [c, na, kd, _, _, _, _] => some (c, na, kd) | _ => none)
  | .invokespecial _ => (match o with | [c, na, kd, _, _, _, _] => some (c, na, kd) | _ => none)
  | .invokestatic _ => (match o with | [c, na, kd, _, _, _, _] => some (c, na, kd) | _ => none)
  | _ => none
def retO (y : Nat) (i : Instr) (st : List Value) (h : Hp) : Option (Option (Option Value × Hp)) := match i with
  | .ireturn => some (retI y st h)
  | .lreturn => some (retL y st h)
  | .return_ => some (retV y st h)
  | _ => none
def run (X : Scr) : Nat → Nat → Nat → Nat → List Value → List Value → Hp → Option (Option Value × Hp)
  | 0, _, _, _, _, _, _ => none
  | n + 1, dp, y, pc, L, st, h => match pAt y pc with
    | none => none
    | some (_, i, _, o) => match retO y i st h with
      | some r => r
      | none => match callO i o with
        | some (c, na, kd) => (match dp with
          | 0 => none
          | dp' + 1 => if callOK c na kd st h = true then
              (match run X n dp' c 0 (entL (mMaxL c) (st.take na).reverse) [] h with
              | some (rv, h1) => run X n (dp' + 1) y (pc + 3) L (rv.toList ++ st.drop na) h1
              | none => none)
            else none)
        | none => match hstep X i o pc L st h with
          | some (pc', L', st', h') => run X n dp y pc' L' st' h'
          | none => none
end JN03machine
section JN04words
/-! What the tables' words say of every printed instruction, checked by the kernel in bulk. -/
def vwC : Nat → String := fun c => match c with
  | 0 => RX0
  | 1 => RX1
  | 2 => RX2
  | 3 => RX3
  | 4 => RX4
  | 5 => RX5
  | 6 => RX6
  | _ => RX7
def vwT : Nat → u_T := fun c => match c with
  | 0 => TX0
  | 1 => TX1
  | 2 => TX2
  | 3 => TX3
  | 4 => TX4
  | 5 => TX5
  | 6 => TX6
  | _ => TX7
def BIGG : List Jvm.Cond := lw_tbl.filter goodWord
def isNest : Jvm.Cond → Bool
  | .fieldLinkNest _ _ _ _ _ _ => true
  | .methodLinkNest _ _ _ _ => true
  | _ => false
def NEST : List Jvm.Cond := tables_1.filter isNest
/-- a word by its place: 1000 times the chunk, and the place there; chunk 0: the selects of private methods -/
def wAt (pl : Nat) : Option Jvm.Cond := match pl / 1000 with
  | 0 => (k2_sels lw_privs)[pl % 1000]?
  | 1 => tables_1_1[pl % 1000]?
  | 2 => tables_1_2[pl % 1000]?
  | 3 => tables_1_3[pl % 1000]?
  | 4 => tables_1_4[pl % 1000]?
  | 5 => tables_1_5[pl % 1000]?
  | 6 => tables_1_6[pl % 1000]?
  | _ => none
def linkOK (pl : Nat) (w : Jvm.Cond) : Bool := match wAt pl with
  | some w' => decide (w' = w) && goodWord w
  | none => false
def nestOK (pl : Nat) (w : Jvm.Cond) : Bool := match wAt pl with
  | some w' => decide (w' = w) && isNest w
  | none => false
theorem wAt_in {pl : Nat} {w : Jvm.Cond} (h : wAt pl = some w) : w ∈ lw_tbl := by
  have t : ∀ x, (x ∈ tables_1_1 ∨ x ∈ tables_1_2 ∨ x ∈ tables_1_3 ∨ x ∈ tables_1_4 ∨ x ∈ tables_1_5 ∨ x ∈ tables_1_6) → x ∈ lw_tbl := by
    intro x hx
    refine List.mem_append_right _ ?_
    show x ∈ tables_1_1 ++ (tables_1_2 ++ (tables_1_3 ++ (tables_1_4 ++ (tables_1_5 ++ tables_1_6))))
    simpa only [List.mem_append] using hx
  unfold wAt at h
  split at h
  · exact List.mem_append_left _ (List.mem_of_getElem? h)
  · exact t _ (Or.inl (List.mem_of_getElem? h))
  · exact t _ (Or.inr (Or.inl (List.mem_of_getElem? h)))
  · exact t _ (Or.inr (Or.inr (Or.inl (List.mem_of_getElem? h))))
  · exact t _ (Or.inr (Or.inr (Or.inr (Or.inl (List.mem_of_getElem? h)))))
  · exact t _ (Or.inr (Or.inr (Or.inr (Or.inr (Or.inl (List.mem_of_getElem? h))))))
  · exact t _ (Or.inr (Or.inr (Or.inr (Or.inr (Or.inr (List.mem_of_getElem? h))))))
  · cases h
theorem sels_not_nest : ∀ w ∈ k2_sels lw_privs, isNest w = false := by
  intro w hw
  obtain ⟨q, -, rfl⟩ := List.mem_map.mp hw
  rfl
theorem linkOK_in {pl : Nat} {w : Jvm.Cond} (h : linkOK pl w = true) : w ∈ BIGG := by
  unfold linkOK at h
  split at h
  · rename_i w' hw
    obtain ⟨h1, h2⟩ := (Bool.and_eq_true _ _).mp h
    have h1 := of_decide_eq_true h1
    subst h1
    exact List.mem_filter.mpr ⟨wAt_in hw, h2⟩
  · cases h
theorem nestOK_in {pl : Nat} {w : Jvm.Cond} (h : nestOK pl w = true) : w ∈ NEST := by
  unfold nestOK at h
  split at h
  · rename_i w' hw
    obtain ⟨h1, h2⟩ := (Bool.and_eq_true _ _).mp h
    have h1 := of_decide_eq_true h1
    subst h1
    rcases List.mem_append.mp (wAt_in hw) with h3 | h3
    · rw [sels_not_nest _ h3] at h2
      cases h2
    · exact List.mem_filter.mpr ⟨h3, h2⟩
  · cases h
theorem BIGG_good : ∀ w ∈ BIGG, goodWord w = true := fun _ h => (List.mem_filter.mp h).2
theorem BIGG_tbl : ∀ w ∈ BIGG, w ∈ lw_tbl := fun _ h => (List.mem_filter.mp h).1
/-- the length of an instruction; 0: it is as the table says -/
def ilen : Instr → Nat
  | .bipush _ => 2 | .sipush _ => 3 | .ldc _ => 2 | .ldc_w _ => 3 | .ldc2_w _ => 3
  | .iload _ => 2 | .lload _ => 2 | .aload _ => 2 | .istore _ => 2 | .lstore _ => 2 | .astore _ => 2
  | .iinc _ _ => 3 | .ifCond _ _ => 3 | .if_icmp _ _ => 3 | .goto _ => 3
  | .tableswitch _ _ _ _ => 0 | .lookupswitch _ _ => 0
  | .getfield _ => 3 | .putfield _ => 3 | .getstatic _ => 3 | .new _ => 3 | .newarray _ => 2 | .anewarray _ => 3 | .multianewarray _ _ => 4
  | .invokevirtual _ => 3 | .invokespecial _ => 3 | .invokestatic _ => 3
  | _ => 1
def sFld (f : Nat) : String := if f = 0 then "value" else "coder"
def sFldD (f : Nat) : String := if f = 0 then "[B" else "B"
def fldOK (own : String) (idx ci k nest pl : Nat) : Bool := if nest = 0 then linkOK pl (.fieldLink own idx (vwC ci) (vwT ci k).2.1 (vwT ci k).2.2.1) else nestOK pl (.fieldLinkNest own idx (vwC ci) (vwT ci k).2.1 (vwT ci k).2.2.1 "PastCatchers")
def staOK (own : String) (idx s nest pl : Nat) : Bool := match s with
  | 0 => if nest = 0 then linkOK pl (.fieldLink own idx "PastCatchers" "ABOVE" "[I") else nestOK pl (.fieldLinkNest own idx "PastCatchers" "ABOVE" "[I" "PastCatchers")
  | 1 => nest == 0 && linkOK pl (.fieldLink own idx "PastCatchers$Acts" "BODIES" "[I")
  | 2 => nest == 0 && linkOK pl (.fieldLink own idx "java/lang/String" "COMPACT_STRINGS" "Z")
  | 3 => nest == 0 && linkOK pl (.fieldLink own idx "jdk/internal/util/Preconditions" "SIOOBE_FORMATTER" "Ljava/util/function/BiFunction;")
  | _ => false
def iniPl (ci : Nat) (nm : String) : Nat := (iniP.find? (fun q => q.1 == nm)).elim 0 (·.2)
def idxS : Nat → Nat := fun j => match j with
  | 0 => 55 | 1 => 61 | 2 => 63 | 3 => 78 | _ => 84
def txS : Nat → String := fun j => match j with
  | 0 => "each" | 1 => "old" | 2 => "odge" | 3 => "pklsay" | _ => "<=>"
/-- what holds of a method once for all its calls -/
def mOK (c : Nat) : Bool := decide ((mName c).cls ≠ "java/lang/invoke/MethodHandle") && decide ((mName c).cls ≠ "java/lang/invoke/VarHandle") && plainFor (mName c) && decide (mMaxL c ≤ 40) &&
  (decide (mCi c < 8 ∧ (mName c).cls = vwC (mCi c)) || decide (mCi c = 9 ∧ (mName c).cls = "java/lang/String") || decide (mCi c = 10)) && linkOK (iniPl (mCi c) (mName c).cls) (.initialized (mName c).cls)
/-- what a call of each kind wants -/
def kdOK (c na kd a sl : Nat) : Bool := match kd with
  | 0 => linkOK a (.instanceMethod (mName c)) && linkOK sl (.selects (mName c).cls (mName c) (mName c)) && decide ((parseMethodDescriptor (mName c).desc).map (fun d => d.parameters.length + 1) = some na) && decide (mCi c < 10)
  | 1 => linkOK a (.instanceMethod (mName c)) && decide ((mName c).name = "<init>") && decide (mRet c = none) && decide ((parseMethodDescriptor (mName c).desc).map (fun d => d.parameters.length + 1) = some na)
  | 2 => linkOK a (.static (mName c)) && decide ((parseMethodDescriptor (mName c).desc).map (fun d => d.parameters.length) = some na)
  | _ => false
/-- a call of method c: its link -/
def calOK (own : String) (idx c na kd nest pl a sl : Nat) : Bool :=
  (if nest = 0 then linkOK pl (.methodLink own idx (mName c)) else nestOK pl (.methodLinkNest own idx (mName c) "PastCatchers")) && decide (0 < c) && decide (c < 223) && kdOK c na kd a sl
def lnkE (y : Nat) (i : Instr) (o : List Nat) : Bool := match i with
  | .getfield idx => (match o with
    | [9, f, _, pl] => linkOK pl (.fieldLink (mName y).cls idx "java/lang/String" (sFld f) (sFldD f))
    | [ci, k, nest, pl] => fldOK (mName y).cls idx ci k nest pl && decide (ci < 8)
    | _ => true)
  | .putfield idx => (match o with
    | [ci, k, nest, pl] => fldOK (mName y).cls idx ci k nest pl && decide (ci < 8) && ((vwT ci k).2.2.2 == false || (decide (nest = 0) && decide ((mName y).name = "<init>") && decide ((mName y).cls = vwC ci)))
    | _ => true)
  | .getstatic idx => (match o with
    | [s, nest, pl] => staOK (mName y).cls idx s nest pl
    | _ => true)
  | .ldc idx => (match o with
    | [0, v, pl] => linkOK pl (.constant (mName y).cls idx (Int32.ofNat v))
    | [1, j, _] => decide ((mName y).cls = RX4) && decide (idx = idxS j)
    | _ => true)
  | .ldc_w idx => (match o with
    | [0, v, pl] => linkOK pl (.constant (mName y).cls idx (Int32.ofNat v))
    | _ => true)
  | .ldc2_w idx => (match o with
    | [v, pl] => linkOK pl (.constantLong (mName y).cls idx (Int64.ofNat v))
    | _ => true)
  | .new idx => (match o with
    | [ci, pl] => linkOK pl (.classLink (mName y).cls idx (vwC ci))
    | _ => true)
  | .anewarray idx => (match o with
    | [pl] => linkOK pl (.classLink (mName y).cls idx RX5)
    | _ => false)
  | .multianewarray idx _ => (match o with
    | [pl] => linkOK pl (.classLink (mName y).cls idx "[[J")
    | _ => false)
  | .invokespecial idx => (match o with
    | [9999, _, _, _, pl] => linkOK pl (.methodLink (mName y).cls idx objectInit)
    | [c, na, kd, nest, pl, a, sl] => kd == 1 && calOK (mName y).cls idx c na kd nest pl a sl
    | _ => true)
  | .invokestatic idx => (match o with
    | [9998, _, _, _, pl] => linkOK pl (.methodLink (mName y).cls idx arraycopyName)
    | [c, na, kd, nest, pl, a, sl] => kd == 2 && calOK (mName y).cls idx c na kd nest pl a sl
    | _ => true)
  | .invokevirtual idx => (match o with
    | [c, na, kd, nest, pl, a, sl] => kd == 0 && calOK (mName y).cls idx c na kd nest pl a sl
    | _ => true)
  | _ => true
def okE (y : Nat) (q : En) : Bool := decide (decode (mBytes y) q.1 = .ok (q.2.1, q.2.2.1)) && (ilen q.2.1 == 0 || ilen q.2.1 == q.2.2.1) && lnkE y q.2.1 q.2.2.2
end JN04words
section JN04wwindow
/-! The kit's reader, byte by byte; the first bytes of the instructions that 04x looks at; a list checked piece by piece. -/
theorem bnd_ok {α β : Type} {r : Decoder α} {f : α → Decoder β} {b : ByteArray} {p : Nat} {a : α} {m : Nat} (h : r b p = Except.ok (a, m)) : (r >>= f) b p = f a b m := by
  show Except.bind (r b p) _ = _
  rw [h]
  rfl
theorem u1_ok (b : ByteArray) (p : Nat) (h : p < b.size) : (Reader.u1 : Decoder Nat) b p = Except.ok (b[p].toNat, p + 1) := by
  have e : (Reader.u1 : Decoder Nat) b p = (if h : p < b.size then (do set (p + 1); pure b[p].toNat : Decoder Nat) else throw (HasTruncated.truncated p)) b p := rfl
  rw [e, dif_pos h]
  rfl
/-- the first bytes of the instructions that 04x knows -/
def OPSL : List Nat := [1, 2, 3, 4, 5, 6, 7, 8, 9, 10, 16, 17, 18, 19, 20, 21, 22, 25, 26, 27, 28, 29, 30, 31, 32, 33, 42, 43, 44, 45, 46, 47, 50, 51, 54, 55, 58, 59, 60, 61, 62, 63, 64, 65, 66, 75, 76, 77, 78, 79, 80, 83, 84, 87, 88, 89, 92, 96, 97, 100, 101, 104, 108, 112, 116, 120, 121, 122, 123, 124, 125, 126, 127, 128, 129, 130, 131, 132, 133, 136, 145, 146, 147, 148, 153, 154, 155, 156, 157, 158, 159, 160, 161, 162, 163, 164, 167, 172, 173, 176, 177, 178, 179, 180, 181, 182, 183, 184, 187, 189, 190]
def opG (b : Nat) : Bool := Nat.testBit 2599034849098876030505060005071089304090789327192195008510 b
theorem opG_in : ∀ b, b < 256 → opG b = true → b ∈ OPSL := by
  have h : (List.range 256).all (fun b => !opG b || OPSL.contains b) = true := by decide +kernel
  intro b hb ho
  have h1 : (!opG b || OPSL.contains b) = true := List.all_eq_true.mp h b (List.mem_range.mpr hb)
  rw [ho] at h1
  simpa using h1
theorem all_start {l : List En} {f : En → Bool} (h : (l.drop 0).all f = true) : l.all f = true := by
  rw [List.drop_zero] at h
  exact h
theorem all_chunk {l : List En} {f : En → Bool} {k c m : Nat} (hk : k + c = m) (h1 : ((l.drop k).take c).all f = true) (h2 : (l.drop m).all f = true) : (l.drop k).all f = true := by
  have e : (l.drop k).drop c = l.drop m := by
    subst hk
    simp [List.drop_drop, Nat.add_comm]
  have e2 : (l.drop k).all f = ((l.drop k).take c ++ (l.drop k).drop c).all f := by rw [List.take_append_drop]
  rw [e2, List.all_append, e]
  exact (Bool.and_eq_true _ _).mpr ⟨h1, h2⟩
theorem all_end {l : List En} {f : En → Bool} {m : Nat} (h : l.length ≤ m) : (l.drop m).all f = true := by
  simp [List.drop_eq_nil_of_le h]
end JN04wwindow
section JN04xwalk
/-! A method's bytes read from the front: what the kit's reader says of each instruction, found more cheaply. -/
def lf0 (i : Instr) : Option (Instr × Nat) := some (i, 1)
def lfU1 (F : Nat → Instr) (t : List UInt8) : Option (Instr × Nat) := match t with
  | x :: _ => some (F x.toNat, 2)
  | [] => none
def lfU2 (F : Nat → Instr) (t : List UInt8) : Option (Instr × Nat) := match t with
  | x :: y :: _ => some (F (x.toNat * 256 + y.toNat), 3)
  | _ => none
def lfS1 (F : Int → Instr) (t : List UInt8) : Option (Instr × Nat) := match t with
  | x :: _ => some (F (Reader.signed 8 x.toNat), 2)
  | [] => none
def lfS2 (F : Int → Instr) (t : List UInt8) : Option (Instr × Nat) := match t with
  | x :: y :: _ => some (F (Reader.signed 16 (x.toNat * 256 + y.toNat)), 3)
  | _ => none
def lfUS (F : Nat → Int → Instr) (t : List UInt8) : Option (Instr × Nat) := match t with
  | x :: y :: _ => some (F x.toNat (Reader.signed 8 y.toNat), 3)
  | _ => none
def opL (k : Nat) (t : List UInt8) : Option (Instr × Nat) := (bif Nat.ble k 88 then (bif Nat.ble k 42 then (bif Nat.ble k 18 then (bif Nat.ble k 6 then (bif Nat.ble k 3 then (bif Nat.ble k 1 then lf0 .aconst_null else (bif Nat.ble k 2 then lf0 (.iconst (-1)) else lf0 (.iconst (0)))) else (bif Nat.ble k 4 then lf0 (.iconst (1)) else (bif Nat.ble k 5 then lf0 (.iconst (2)) else lf0 (.iconst (3))))) else (bif Nat.ble k 9 then (bif Nat.ble k 7 then lf0 (.iconst (4)) else (bif Nat.ble k 8 then lf0 (.iconst (5)) else lf0 (.lconst 0))) else (bif Nat.ble k 16 then (bif Nat.ble k 10 then lf0 (.lconst 1) else lfS1 (fun x => .bipush x) t) else (bif Nat.ble k 17 then lfS2 (fun x => .sipush x) t else lfU1 (fun x => .ldc x) t)))) else (bif Nat.ble k 27 then (bif Nat.ble k 21 then (bif Nat.ble k 19 then lfU2 (fun x => .ldc_w x) t else (bif Nat.ble k 20 then lfU2 (fun x => .ldc2_w x) t else lfU1 (fun x => .iload x) t)) else (bif Nat.ble k 25 then (bif Nat.ble k 22 then lfU1 (fun x => .lload x) t else lfU1 (fun x => .aload x) t) else (bif Nat.ble k 26 then lf0 (.iload_n 0) else lf0 (.iload_n 1)))) else (bif Nat.ble k 30 then (bif Nat.ble k 28 then lf0 (.iload_n 2) else (bif Nat.ble k 29 then lf0 (.iload_n 3) else lf0 (.lload_n 0))) else (bif Nat.ble k 32 then (bif Nat.ble k 31 then lf0 (.lload_n 1) else lf0 (.lload_n 2)) else (bif Nat.ble k 33 then lf0 (.lload_n 3) else lf0 (.aload_n 0)))))) else (bif Nat.ble k 62 then (bif Nat.ble k 51 then (bif Nat.ble k 45 then (bif Nat.ble k 43 then lf0 (.aload_n 1) else (bif Nat.ble k 44 then lf0 (.aload_n 2) else lf0 (.aload_n 3))) else (bif Nat.ble k 47 then (bif Nat.ble k 46 then lf0 .iaload else lf0 .laload) else (bif Nat.ble k 50 then lf0 .aaload else lf0 .baload))) else (bif Nat.ble k 58 then (bif Nat.ble k 54 then lfU1 (fun x => .istore x) t else (bif Nat.ble k 55 then lfU1 (fun x => .lstore x) t else lfU1 (fun x => .astore x) t)) else (bif Nat.ble k 60 then (bif Nat.ble k 59 then lf0 (.istore_n 0) else lf0 (.istore_n 1)) else (bif Nat.ble k 61 then lf0 (.istore_n 2) else lf0 (.istore_n 3))))) else (bif Nat.ble k 77 then (bif Nat.ble k 65 then (bif Nat.ble k 63 then lf0 (.lstore_n 0) else (bif Nat.ble k 64 then lf0 (.lstore_n 1) else lf0 (.lstore_n 2))) else (bif Nat.ble k 75 then (bif Nat.ble k 66 then lf0 (.lstore_n 3) else lf0 (.astore_n 0)) else (bif Nat.ble k 76 then lf0 (.astore_n 1) else lf0 (.astore_n 2)))) else (bif Nat.ble k 80 then (bif Nat.ble k 78 then lf0 (.astore_n 3) else (bif Nat.ble k 79 then lf0 .iastore else lf0 .lastore)) else (bif Nat.ble k 84 then (bif Nat.ble k 83 then lf0 .aastore else lf0 .bastore) else (bif Nat.ble k 87 then lf0 .pop else lf0 .pop2)))))) else (bif Nat.ble k 147 then (bif Nat.ble k 123 then (bif Nat.ble k 104 then (bif Nat.ble k 96 then (bif Nat.ble k 89 then lf0 .dup else (bif Nat.ble k 92 then lf0 .dup2 else lf0 .iadd)) else (bif Nat.ble k 100 then (bif Nat.ble k 97 then lf0 .ladd else lf0 .isub) else (bif Nat.ble k 101 then lf0 .lsub else lf0 .imul))) else (bif Nat.ble k 116 then (bif Nat.ble k 108 then lf0 .idiv else (bif Nat.ble k 112 then lf0 .irem else lf0 .ineg)) else (bif Nat.ble k 121 then (bif Nat.ble k 120 then lf0 .ishl else lf0 .lshl) else (bif Nat.ble k 122 then lf0 .ishr else lf0 .lshr)))) else (bif Nat.ble k 130 then (bif Nat.ble k 126 then (bif Nat.ble k 124 then lf0 .iushr else (bif Nat.ble k 125 then lf0 .lushr else lf0 .iand)) else (bif Nat.ble k 128 then (bif Nat.ble k 127 then lf0 .land else lf0 .ior) else (bif Nat.ble k 129 then lf0 .lor else lf0 .ixor))) else (bif Nat.ble k 133 then (bif Nat.ble k 131 then lf0 .lxor else (bif Nat.ble k 132 then lfUS (fun x y => .iinc x y) t else lf0 .i2l)) else (bif Nat.ble k 145 then (bif Nat.ble k 136 then lf0 .l2i else lf0 .i2b) else (bif Nat.ble k 146 then lf0 .i2c else lf0 .i2s))))) else (bif Nat.ble k 167 then (bif Nat.ble k 158 then (bif Nat.ble k 154 then (bif Nat.ble k 148 then lf0 .lcmp else (bif Nat.ble k 153 then lfS2 (fun x => .ifCond .eq x) t else lfS2 (fun x => .ifCond .ne x) t)) else (bif Nat.ble k 156 then (bif Nat.ble k 155 then lfS2 (fun x => .ifCond .lt x) t else lfS2 (fun x => .ifCond .ge x) t) else (bif Nat.ble k 157 then lfS2 (fun x => .ifCond .gt x) t else lfS2 (fun x => .ifCond .le x) t))) else (bif Nat.ble k 161 then (bif Nat.ble k 159 then lfS2 (fun x => .if_icmp .eq x) t else (bif Nat.ble k 160 then lfS2 (fun x => .if_icmp .ne x) t else lfS2 (fun x => .if_icmp .lt x) t)) else (bif Nat.ble k 163 then (bif Nat.ble k 162 then lfS2 (fun x => .if_icmp .ge x) t else lfS2 (fun x => .if_icmp .gt x) t) else (bif Nat.ble k 164 then lfS2 (fun x => .if_icmp .le x) t else lfS2 (fun x => .goto x) t)))) else (bif Nat.ble k 180 then (bif Nat.ble k 176 then (bif Nat.ble k 172 then lf0 .ireturn else (bif Nat.ble k 173 then lf0 .lreturn else lf0 .areturn)) else (bif Nat.ble k 178 then (bif Nat.ble k 177 then lf0 .return_ else lfU2 (fun x => .getstatic x) t) else (bif Nat.ble k 179 then lfU2 (fun x => .putstatic x) t else lfU2 (fun x => .getfield x) t))) else (bif Nat.ble k 183 then (bif Nat.ble k 181 then lfU2 (fun x => .putfield x) t else (bif Nat.ble k 182 then lfU2 (fun x => .invokevirtual x) t else lfU2 (fun x => .invokespecial x) t)) else (bif Nat.ble k 187 then (bif Nat.ble k 184 then lfU2 (fun x => .invokestatic x) t else lfU2 (fun x => .new x) t) else (bif Nat.ble k 189 then lfU2 (fun x => .anewarray x) t else lf0 .arraylength)))))))
section RDX
variable {l t : List UInt8} {p : Nat} {i : Instr} {n : Nat}
theorem rd_u1 {x : UInt8} (h : l[p]? = some x) : (Reader.u1 : Decoder Nat) (⟨⟨l⟩⟩ : ByteArray) p = Except.ok (x.toNat, p + 1) := by
  obtain ⟨hp, e⟩ := List.getElem?_eq_some_iff.mp h
  have h1 : (Reader.u1 : Decoder Nat) (⟨⟨l⟩⟩ : ByteArray) p = Except.ok (l[p].toNat, p + 1) := u1_ok (⟨⟨l⟩⟩ : ByteArray) p hp
  rw [h1, e]
theorem rd_u2 {x y : UInt8} (h : l[p]? = some x) (h2 : l[p + 1]? = some y) : (Reader.u2 : Decoder Nat) (⟨⟨l⟩⟩ : ByteArray) p = Except.ok (x.toNat * 256 + y.toNat, p + 1 + 1) := by
  unfold Reader.u2
  rw [bnd_ok (rd_u1 h), bnd_ok (rd_u1 h2)]
  rfl
theorem rd_map {α β : Type} {r : Decoder α} {b : ByteArray} {a : α} {m : Nat} (f : α → β) (h : r b p = Except.ok (a, m)) : (f <$> r) b p = Except.ok (f a, m) := by
  have e : f <$> r = r >>= fun a => pure (f a) := map_eq_pure_bind f r
  rw [e, bnd_ok h]
  rfl
theorem rd_s1 {x : UInt8} (h : l[p]? = some x) : (Reader.s1 : Decoder Int) (⟨⟨l⟩⟩ : ByteArray) p = Except.ok (Reader.signed 8 x.toNat, p + 1) := by
  unfold Reader.s1
  exact rd_map _ (rd_u1 h)
theorem rd_s2 {x y : UInt8} (h : l[p]? = some x) (h2 : l[p + 1]? = some y) : (Reader.s2 : Decoder Int) (⟨⟨l⟩⟩ : ByteArray) p = Except.ok (Reader.signed 16 (x.toNat * 256 + y.toNat), p + 1 + 1) := by
  unfold Reader.s2
  exact rd_map _ (rd_u2 h h2)
theorem lf_0 (I : Instr) (ht : ∀ k, l[p + 1 + k]? = t[k]?) (h : lf0 I = some (i, n)) : (pure I : Decoder Instr) (⟨⟨l⟩⟩ : ByteArray) (p + 1) = Except.ok (i, p + n) := by
  have h : some (I, 1) = some (i, n) := h
  cases h
  rfl
theorem lf_u1 (F : Nat → Instr) (ht : ∀ k, l[p + 1 + k]? = t[k]?) (h : lfU1 F t = some (i, n)) : (do pure (F (← Reader.u1)) : Decoder Instr) (⟨⟨l⟩⟩ : ByteArray) (p + 1) = Except.ok (i, p + n) := by
  cases t with
  | nil => cases h
  | cons x t =>
    have h : some (F x.toNat, 2) = some (i, n) := h
    cases h
    rw [bnd_ok (rd_u1 (x := x) (ht 0))]
    rfl
theorem lf_s1 (F : Int → Instr) (ht : ∀ k, l[p + 1 + k]? = t[k]?) (h : lfS1 F t = some (i, n)) : (do pure (F (← Reader.s1)) : Decoder Instr) (⟨⟨l⟩⟩ : ByteArray) (p + 1) = Except.ok (i, p + n) := by
  cases t with
  | nil => cases h
  | cons x t =>
    have h : some (F (Reader.signed 8 x.toNat), 2) = some (i, n) := h
    cases h
    rw [bnd_ok (rd_s1 (x := x) (ht 0))]
    rfl
theorem lf_u2 (F : Nat → Instr) (ht : ∀ k, l[p + 1 + k]? = t[k]?) (h : lfU2 F t = some (i, n)) : (do pure (F (← Reader.u2)) : Decoder Instr) (⟨⟨l⟩⟩ : ByteArray) (p + 1) = Except.ok (i, p + n) := by
  match t, ht, h with
  | [], _, h => cases h
  | [_], _, h => cases h
  | x :: y :: t, ht, h =>
    have h : some (F (x.toNat * 256 + y.toNat), 3) = some (i, n) := h
    cases h
    rw [bnd_ok (rd_u2 (x := x) (y := y) (ht 0) (ht 1))]
    rfl
theorem lf_s2 (F : Int → Instr) (ht : ∀ k, l[p + 1 + k]? = t[k]?) (h : lfS2 F t = some (i, n)) : (do pure (F (← Reader.s2)) : Decoder Instr) (⟨⟨l⟩⟩ : ByteArray) (p + 1) = Except.ok (i, p + n) := by
  match t, ht, h with
  | [], _, h => cases h
  | [_], _, h => cases h
  | x :: y :: t, ht, h =>
    have h : some (F (Reader.signed 16 (x.toNat * 256 + y.toNat)), 3) = some (i, n) := h
    cases h
    rw [bnd_ok (rd_s2 (x := x) (y := y) (ht 0) (ht 1))]
    rfl
theorem lf_us (F : Nat → Int → Instr) (ht : ∀ k, l[p + 1 + k]? = t[k]?) (h : lfUS F t = some (i, n)) : (do pure (F (← Reader.u1) (← Reader.s1)) : Decoder Instr) (⟨⟨l⟩⟩ : ByteArray) (p + 1) = Except.ok (i, p + n) := by
  match t, ht, h with
  | [], _, h => cases h
  | [_], _, h => cases h
  | x :: y :: t, ht, h =>
    have h : some (F x.toNat (Reader.signed 8 y.toNat), 3) = some (i, n) := h
    cases h
    rw [bnd_ok (rd_u1 (x := x) (ht 0)), bnd_ok (rd_s1 (x := y) (ht 1))]
    rfl
set_option maxRecDepth 100000 in
theorem opL_in {pc : Nat} {b : UInt8} (hl : l.drop p = b :: t) (hG : opG b.toNat = true) (h : opL b.toNat t = some (i, n)) : Decoder.instr pc (⟨⟨l⟩⟩ : ByteArray) p = Except.ok (i, p + n) := by
  have h0 : l[p]? = some b := by
    have e : (l.drop p)[0]? = some b := by rw [hl]; rfl
    rw [List.getElem?_drop] at e
    exact e
  have ht : ∀ k, l[p + 1 + k]? = t[k]? := by
    intro k
    have e : (l.drop p)[k + 1]? = t[k]? := by rw [hl]; rfl
    rw [List.getElem?_drop] at e
    rw [← e]
    congr 1
    omega
  have hm : b.toNat ∈ OPSL := opG_in _ (by have := b.toNat_lt; omega) hG
  unfold Decoder.instr
  rw [bnd_ok (rd_u1 h0)]
  generalize b.toNat = k at h hm ⊢
  clear hG h0 hl
  unfold OPSL at hm
  simp only [List.mem_cons, List.not_mem_nil, or_false] at hm
  rcases hm with rfl | rfl | rfl | rfl | rfl | rfl | rfl | rfl | rfl | rfl | rfl | rfl | rfl | rfl | rfl | rfl | rfl | rfl | rfl | rfl | rfl | rfl | rfl | rfl | rfl | rfl | rfl | rfl | rfl | rfl | rfl | rfl | rfl | rfl | rfl | rfl | rfl | rfl | rfl | rfl | rfl | rfl | rfl | rfl | rfl | rfl | rfl | rfl | rfl | rfl | rfl | rfl | rfl | rfl | rfl | rfl | rfl | rfl | rfl | rfl | rfl | rfl | rfl | rfl | rfl | rfl | rfl | rfl | rfl | rfl | rfl | rfl | rfl | rfl | rfl | rfl | rfl | rfl | rfl | rfl | rfl | rfl | rfl | rfl | rfl | rfl | rfl | rfl | rfl | rfl | rfl | rfl | rfl | rfl | rfl | rfl | rfl | rfl | rfl | rfl | rfl | rfl | rfl | rfl | rfl | rfl | rfl | rfl | rfl | rfl | rfl
  · exact lf_0 .aconst_null ht h
  · exact lf_0 (.iconst (-1)) ht h
  · exact lf_0 (.iconst (0)) ht h
  · exact lf_0 (.iconst (1)) ht h
  · exact lf_0 (.iconst (2)) ht h
  · exact lf_0 (.iconst (3)) ht h
  · exact lf_0 (.iconst (4)) ht h
  · exact lf_0 (.iconst (5)) ht h
  · exact lf_0 (.lconst 0) ht h
  · exact lf_0 (.lconst 1) ht h
  · exact lf_s1 (fun x => .bipush x) ht h
  · exact lf_s2 (fun x => .sipush x) ht h
  · exact lf_u1 (fun x => .ldc x) ht h
  · exact lf_u2 (fun x => .ldc_w x) ht h
  · exact lf_u2 (fun x => .ldc2_w x) ht h
  · exact lf_u1 (fun x => .iload x) ht h
  · exact lf_u1 (fun x => .lload x) ht h
  · exact lf_u1 (fun x => .aload x) ht h
  · exact lf_0 (.iload_n 0) ht h
  · exact lf_0 (.iload_n 1) ht h
  · exact lf_0 (.iload_n 2) ht h
  · exact lf_0 (.iload_n 3) ht h
  · exact lf_0 (.lload_n 0) ht h
  · exact lf_0 (.lload_n 1) ht h
  · exact lf_0 (.lload_n 2) ht h
  · exact lf_0 (.lload_n 3) ht h
  · exact lf_0 (.aload_n 0) ht h
  · exact lf_0 (.aload_n 1) ht h
  · exact lf_0 (.aload_n 2) ht h
  · exact lf_0 (.aload_n 3) ht h
  · exact lf_0 .iaload ht h
  · exact lf_0 .laload ht h
  · exact lf_0 .aaload ht h
  · exact lf_0 .baload ht h
  · exact lf_u1 (fun x => .istore x) ht h
  · exact lf_u1 (fun x => .lstore x) ht h
  · exact lf_u1 (fun x => .astore x) ht h
  · exact lf_0 (.istore_n 0) ht h
  · exact lf_0 (.istore_n 1) ht h
  · exact lf_0 (.istore_n 2) ht h
  · exact lf_0 (.istore_n 3) ht h
  · exact lf_0 (.lstore_n 0) ht h
  · exact lf_0 (.lstore_n 1) ht h
  · exact lf_0 (.lstore_n 2) ht h
  · exact lf_0 (.lstore_n 3) ht h
  · exact lf_0 (.astore_n 0) ht h
  · exact lf_0 (.astore_n 1) ht h
  · exact lf_0 (.astore_n 2) ht h
  · exact lf_0 (.astore_n 3) ht h
  · exact lf_0 .iastore ht h
  · exact lf_0 .lastore ht h
  · exact lf_0 .aastore ht h
  · exact lf_0 .bastore ht h
  · exact lf_0 .pop ht h
  · exact lf_0 .pop2 ht h
  · exact lf_0 .dup ht h
  · exact lf_0 .dup2 ht h
  · exact lf_0 .iadd ht h
  · exact lf_0 .ladd ht h
  · exact lf_0 .isub ht h
  · exact lf_0 .lsub ht h
  · exact lf_0 .imul ht h
  · exact lf_0 .idiv ht h
  · exact lf_0 .irem ht h
  · exact lf_0 .ineg ht h
  · exact lf_0 .ishl ht h
  · exact lf_0 .lshl ht h
  · exact lf_0 .ishr ht h
  · exact lf_0 .lshr ht h
  · exact lf_0 .iushr ht h
  · exact lf_0 .lushr ht h
  · exact lf_0 .iand ht h
  · exact lf_0 .land ht h
  · exact lf_0 .ior ht h
  · exact lf_0 .lor ht h
  · exact lf_0 .ixor ht h
  · exact lf_0 .lxor ht h
  · exact lf_us (fun x y => .iinc x y) ht h
  · exact lf_0 .i2l ht h
  · exact lf_0 .l2i ht h
  · exact lf_0 .i2b ht h
  · exact lf_0 .i2c ht h
  · exact lf_0 .i2s ht h
  · exact lf_0 .lcmp ht h
  · exact lf_s2 (fun x => .ifCond .eq x) ht h
  · exact lf_s2 (fun x => .ifCond .ne x) ht h
  · exact lf_s2 (fun x => .ifCond .lt x) ht h
  · exact lf_s2 (fun x => .ifCond .ge x) ht h
  · exact lf_s2 (fun x => .ifCond .gt x) ht h
  · exact lf_s2 (fun x => .ifCond .le x) ht h
  · exact lf_s2 (fun x => .if_icmp .eq x) ht h
  · exact lf_s2 (fun x => .if_icmp .ne x) ht h
  · exact lf_s2 (fun x => .if_icmp .lt x) ht h
  · exact lf_s2 (fun x => .if_icmp .ge x) ht h
  · exact lf_s2 (fun x => .if_icmp .gt x) ht h
  · exact lf_s2 (fun x => .if_icmp .le x) ht h
  · exact lf_s2 (fun x => .goto x) ht h
  · exact lf_0 .ireturn ht h
  · exact lf_0 .lreturn ht h
  · exact lf_0 .areturn ht h
  · exact lf_0 .return_ ht h
  · exact lf_u2 (fun x => .getstatic x) ht h
  · exact lf_u2 (fun x => .putstatic x) ht h
  · exact lf_u2 (fun x => .getfield x) ht h
  · exact lf_u2 (fun x => .putfield x) ht h
  · exact lf_u2 (fun x => .invokevirtual x) ht h
  · exact lf_u2 (fun x => .invokespecial x) ht h
  · exact lf_u2 (fun x => .invokestatic x) ht h
  · exact lf_u2 (fun x => .new x) ht h
  · exact lf_u2 (fun x => .anewarray x) ht h
  · exact lf_0 .arraylength ht h
theorem opL_ok {b : UInt8} (hl : l.drop p = b :: t) (hG : opG b.toNat = true) (h : opL b.toNat t = some (i, n)) : decode (⟨⟨l⟩⟩ : ByteArray) p = Except.ok (i, n) := by
  have e : decode (⟨⟨l⟩⟩ : ByteArray) p = Except.bind (Decoder.instr p (⟨⟨l⟩⟩ : ByteArray) p) (fun x => Except.ok (x.1, x.2 - p)) := rfl
  rw [e, opL_in hl hG h]
  show (Except.ok (i, p + n - p) : Except DecodeError (Instr × Nat)) = Except.ok (i, n)
  rw [Nat.add_sub_cancel_left]
end RDX
/-- an instruction against the bytes that begin with it -/
def okI (y : Nat) (bs : List UInt8) (q : En) : Bool := match bs with
  | [] => false
  | b :: t => bif opG b.toNat then (match opL b.toNat t with
      | some r => decide (r = (q.2.1, q.2.2.1))
      | none => false)
    else decide (decode (mBytes y) q.1 = .ok (q.2.1, q.2.2.1))
def walkB (y : Nat) : List En → List UInt8 → Nat → Bool
  | [], _, _ => true
  | q :: L, bs, pc => Nat.beq q.1 pc && okI y bs q && (ilen q.2.1 == 0 || ilen q.2.1 == q.2.2.1) && lnkE y q.2.1 q.2.2.2 && walkB y L (bs.drop q.2.2.1) (pc + q.2.2.1)
theorem okI_ok {y P : Nat} {q : En} (e : q.1 = P) (h : okI y ((mBytes y).data.toList.drop P) q = true) : decode (mBytes y) q.1 = .ok (q.2.1, q.2.2.1) := by
  cases hl : (mBytes y).data.toList.drop P with
  | nil =>
    rw [hl] at h
    cases h
  | cons b t =>
    rw [hl] at h
    have h : (bif opG b.toNat then (match opL b.toNat t with
      | some r => decide (r = (q.2.1, q.2.2.1))
      | none => false)
    else decide (decode (mBytes y) q.1 = .ok (q.2.1, q.2.2.1))) = true := h
    cases hG : opG b.toNat with
    | true =>
      rw [hG] at h
      cases ho : opL b.toNat t with
      | none =>
        rw [ho] at h
        cases h
      | some r =>
        rw [ho] at h
        have h : decide (r = (q.2.1, q.2.2.1)) = true := h
        have h := of_decide_eq_true h
        subst h
        rw [e]
        exact opL_ok hl hG ho
    | false =>
      rw [hG] at h
      exact of_decide_eq_true h
theorem walkB_ok {y : Nat} : ∀ (l : List En) (P : Nat), walkB y l ((mBytes y).data.toList.drop P) P = true → ∀ q ∈ l, okE y q = true
  | [], _, _, q, hq => by cases hq
  | q0 :: l, P, h, q, hq => by
    unfold walkB at h
    obtain ⟨h1, h5⟩ := (Bool.and_eq_true _ _).mp h
    obtain ⟨h1, h4⟩ := (Bool.and_eq_true _ _).mp h1
    obtain ⟨h1, h3⟩ := (Bool.and_eq_true _ _).mp h1
    obtain ⟨h1, h2⟩ := (Bool.and_eq_true _ _).mp h1
    rcases List.mem_cons.mp hq with hq | hq
    · rw [hq]
      unfold okE
      exact (Bool.and_eq_true _ _).mpr ⟨(Bool.and_eq_true _ _).mpr ⟨decide_eq_true (okI_ok (Nat.eq_of_beq_eq_true h1) h2), h3⟩, h4⟩
    · rw [List.drop_drop] at h5
      exact walkB_ok l _ h5 q hq
theorem walkB_all {y P : Nat} {l : List En} (h : walkB y l ((mBytes y).data.toList.drop P) P = true) : l.all (okE y) = true :=
  List.all_eq_true.mpr (walkB_ok l P h)
theorem walkB_one {y : Nat} {l : List En} (h : walkB y l (mBytes y).data.toList 0 = true) : l.all (okE y) = true := walkB_all (P := 0) (by rw [List.drop_zero]; exact h)
end JN04xwalk
