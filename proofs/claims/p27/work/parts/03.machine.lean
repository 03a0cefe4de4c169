/-! A machine of its own over the printed instructions: a pure step, and a run with fuel and depth. Objects and arrays are numbers; what a cell holds is said by functions. -/
def OLDB : Nat := 1000000
theorem OLDB_eq : OLDB = 1000000 := rfl
abbrev Sh : Type := (Nat × Nat) ⊕ Nat
abbrev Hp : Type := List Sh × (Nat → Nat → Int32) × (Nat → Nat → Int64) × (Nat → Nat → Option Nat)
abbrev Scr : Type := Nat × (Nat → Int32)
abbrev Cfg : Type := Nat × List Value × List Value × Hp
def ud {α : Type} (f : Nat → Nat → α) (a i : Nat) (v : α) : Nat → Nat → α := fun a' => if a' = a then (fun j => if j = i then v else f a j) else f a'
def clr {α : Type} (f : Nat → Nat → α) (a : Nat) (v : α) : Nat → Nat → α := fun a' => if a' = a then (fun _ => v) else f a'
def inB (i : Int32) (n : Nat) : Bool := decide (¬ i < 0) && decide (i.toNatClampNeg < n)
def aboveL : List Int32 := [-1, 0, 0, 0, 1, 2, 3]
def bodiesL : List Int32 := [10, 0, 30, 0, 50, 0, 71, 11, 20, 0, 0, 51, 0, 70, 12, 0, 0, 40, 0, 60, 0]
def strB : List (List Int32) := [[101, 97, 99, 104], [111, 108, 100], [111, 100, 103, 101], [112, 107, 108, 115, 97, 121], [60, 61, 62]]
def strL : List Nat := [4, 3, 4, 6, 3]
def oldArr (X : Scr) (j : Nat) : Option (Nat × Nat × (Nat → Int32)) :=
  if j = 0 then some (0, X.1, X.2)
  else if j = 1 then some (0, 7, fun i => aboveL.getD i 0)
  else if j = 2 then some (0, 21, fun i => bodiesL.getD i 0)
  else if 8 ≤ j ∧ j < 13 then some (5, strL.getD (j - 8) 0, fun i => (strB.getD (j - 8) []).getD i 0)
  else none
def isRefTy : FieldType → Bool
  | .object _ => true
  | .array _ => true
  | _ => false
def isBoolTy : FieldType → Bool
  | .boolean => true
  | _ => false
/-- the slot before k isn't the first half of a long -/
def okSt (L : List Value) : Nat → Bool
  | 0 => true
  | k + 1 => match L[k]? with
    | some v => v.category == 1
    | none => false
def condB : Jvm.ClassFile.Cond → Int32 → Int32 → Bool
  | .eq, x, y => decide (x = y)
  | .ne, x, y => decide (¬ x = y)
  | .lt, x, y => decide (x < y)
  | .ge, x, y => decide (y ≤ x)
  | .gt, x, y => decide (y < x)
  | .le, x, y => decide (x ≤ y)
def jump (pc : Nat) (off : Int) : Option Nat := if 0 ≤ (pc : Int) + off then some ((pc : Int) + off).toNat else none
def atag : ArrayType → Option Nat
  | .int => some 0
  | .long => some 1
  | .boolean => some 2
  | _ => none
def catSum (st : List Value) : Nat := (st.map fun v => v.category).sum
/-- the value of a field of a new object -/
def fval (h : Hp) (ci a k : Nat) : Option Value := if isRefTy (vwTy ci k) then (match h.2.2.2 a k with
    | some b => if b < OLDB then some (.ref b) else none
    | none => none) else some (.int (h.2.1 a k))
def getF (o : List Nat) (st : List Value) (h : Hp) : Option (List Value) := match o with
  | [9, f, _, _] => (match st with
    | .ref a :: st => if OLDB + 3 ≤ a ∧ a < OLDB + 8 then some ((if f = 0 then .ref (a + 5) else .int 0) :: st) else none
    | _ => none)
  | [ci, k, _, _] => (match st with
    | .ref a :: st => if a < OLDB ∧ h.1[a]? = some (.inr ci) ∧ k < vwN ci then (fval h ci a k).map (· :: st) else none
    | _ => none)
  | _ => none
def putF (o : List Nat) (st : List Value) (h : Hp) : Option (List Value × Hp) := match o with
  | [ci, k, _, _] => (match st with
    | v :: .ref a :: st => if a < OLDB ∧ h.1[a]? = some (.inr ci) ∧ k < vwN ci then
        (match v with
        | .int x => if isRefTy (vwTy ci k) then none else if isBoolTy (vwTy ci k) ∧ ¬ (x = 0 ∨ x = 1) then none else some (st, (h.1, ud h.2.1 a k x, h.2.2.1, h.2.2.2))
        | .ref b => if isRefTy (vwTy ci k) ∧ b < OLDB then some (st, (h.1, h.2.1, h.2.2.1, ud h.2.2.2 a k (some b))) else none
        | _ => none)
      else none
    | _ => none)
  | _ => none
def arrNew (h : Hp) (t n : Nat) : Hp := (h.1 ++ [.inl (t, n)], clr h.2.1 h.1.length 0, clr h.2.2.1 h.1.length 0, clr h.2.2.2 h.1.length none)
def objNew (h : Hp) (ci : Nat) : Hp := (h.1 ++ [.inr ci], clr h.2.1 h.1.length 0, clr h.2.2.1 h.1.length 0, clr h.2.2.2 h.1.length none)
/-- new long[n][k] -/
def rowNew (h : Hp) (n k : Nat) : Hp := (h.1 ++ .inl (4, n) :: List.replicate n (.inl (1, k)), fun a => if h.1.length ≤ a then (fun _ => 0) else h.2.1 a, fun a => if h.1.length ≤ a then (fun _ => 0) else h.2.2.1 a,
  fun a => if a = h.1.length then (fun i => if i < n then some (h.1.length + 1 + i) else none) else if h.1.length ≤ a then (fun _ => none) else h.2.2.2 a)
def copyA (st : List Value) (h : Hp) : Option (List Value × Hp) := match st with
  | .int n :: .int dp :: .ref a :: .int sp :: .ref b :: st =>
    if a < OLDB ∧ b < OLDB ∧ ¬ sp < 0 ∧ ¬ dp < 0 ∧ ¬ n < 0 ∧ catSum st ≤ 8 then
      (match h.1[a]?, h.1[b]? with
      | some (.inl (t, m)), some (.inl (t', m')) =>
        if t = t' ∧ sp.toNatClampNeg + n.toNatClampNeg ≤ m' ∧ dp.toNatClampNeg + n.toNatClampNeg ≤ m then
          (if t = 0 then some (st, (h.1, (fun x => if x = a then va_cpy (h.2.1 b) (h.2.1 a) sp.toNatClampNeg dp.toNatClampNeg n.toNatClampNeg else h.2.1 x), h.2.2.1, h.2.2.2))
          else if t = 1 then some (st, (h.1, h.2.1, (fun x => if x = a then va_cpy (h.2.2.1 b) (h.2.2.1 a) sp.toNatClampNeg dp.toNatClampNeg n.toNatClampNeg else h.2.2.1 x), h.2.2.2))
          else none)
        else none
      | _, _ => none)
    else none
  | _ => none
/-- the instructions on locals, stack and numbers alone -/
def pstep (i : Instr) (o : List Nat) (pc : Nat) (L st : List Value) : Option (Nat × List Value × List Value) := match i with
  | .iconst k => some (pc + 1, L, .int (Int32.ofInt k) :: st)
  | .bipush k => some (pc + 2, L, .int (Int8.ofInt k).toInt32 :: st)
  | .sipush k => some (pc + 3, L, .int (Int16.ofInt k).toInt32 :: st)
  | .lconst k => some (pc + 1, L, .long (Int64.ofNat (k : Nat)) :: st)
  | .ldc _ => (match o with
    | [0, v, _] => some (pc + 2, L, .int (Int32.ofNat v) :: st)
    | [1, j, _] => if j < 5 then some (pc + 2, L, .ref (OLDB + 3 + j) :: st) else none
    | _ => none)
  | .ldc_w _ => (match o with
    | [0, v, _] => some (pc + 3, L, .int (Int32.ofNat v) :: st)
    | _ => none)
  | .ldc2_w _ => (match o with
    | [v, _] => some (pc + 3, L, .long (Int64.ofNat v) :: st)
    | _ => none)
  | .iload k => (match L[k]? with | some (.int x) => some (pc + 2, L, .int x :: st) | _ => none)
  | .iload_n k => (match L[(k : Nat)]? with | some (.int x) => some (pc + 1, L, .int x :: st) | _ => none)
  | .lload k => (match L[k]? with | some (.long x) => some (pc + 2, L, .long x :: st) | _ => none)
  | .lload_n k => (match L[(k : Nat)]? with | some (.long x) => some (pc + 1, L, .long x :: st) | _ => none)
  | .aload k => (match L[k]? with | some (.ref x) => if x = OLDB + 13 then none else some (pc + 2, L, .ref x :: st) | _ => none)
  | .aload_n k => (match L[(k : Nat)]? with | some (.ref x) => if x = OLDB + 13 then none else some (pc + 1, L, .ref x :: st) | _ => none)
  | .istore k => (match st with | .int x :: st => if k < L.length ∧ okSt L k = true then some (pc + 2, L.set k (.int x), st) else none | _ => none)
  | .istore_n k => (match st with | .int x :: st => if (k : Nat) < L.length ∧ okSt L k = true then some (pc + 1, L.set k (.int x), st) else none | _ => none)
  | .lstore k => (match st with | .long x :: st => if k + 1 < L.length ∧ okSt L k = true then some (pc + 2, (L.set k (.long x)).set (k + 1) (.retAddr 0), st) else none | _ => none)
  | .lstore_n k => (match st with | .long x :: st => if (k : Nat) + 1 < L.length ∧ okSt L k = true then some (pc + 1, (L.set k (.long x)).set (k + 1) (.retAddr 0), st) else none | _ => none)
  | .astore_n k => (match st with | .ref x :: st => if (k : Nat) < L.length ∧ okSt L k = true ∧ ¬ x = OLDB + 13 then some (pc + 1, L.set k (.ref x), st) else none | _ => none)
  | .iinc k n => (match L[k]? with | some (.int x) => if okSt L k = true then some (pc + 3, L.set k (.int (x + Int32.ofInt n)), st) else none | _ => none)
  | .iadd => (match st with | .int y :: .int x :: st => some (pc + 1, L, .int (x + y) :: st) | _ => none)
  | .isub => (match st with | .int y :: .int x :: st => some (pc + 1, L, .int (x - y) :: st) | _ => none)
  | .imul => (match st with | .int y :: .int x :: st => some (pc + 1, L, .int (x * y) :: st) | _ => none)
  | .idiv => (match st with | .int y :: .int x :: st => if y = 0 then none else some (pc + 1, L, .int (x / y) :: st) | _ => none)
  | .irem => (match st with | .int y :: .int x :: st => if y = 0 then none else some (pc + 1, L, .int (x - x / y * y) :: st) | _ => none)
  | .ineg => (match st with | .int x :: st => some (pc + 1, L, .int (-x) :: st) | _ => none)
  | .iand => (match st with | .int y :: .int x :: st => some (pc + 1, L, .int (x &&& y) :: st) | _ => none)
  | .ior => (match st with | .int y :: .int x :: st => some (pc + 1, L, .int (x ||| y) :: st) | _ => none)
  | .ixor => (match st with | .int y :: .int x :: st => some (pc + 1, L, .int (x ^^^ y) :: st) | _ => none)
  | .ishl => (match st with | .int y :: .int x :: st => some (pc + 1, L, .int (x <<< (y &&& 31)) :: st) | _ => none)
  | .ishr => (match st with | .int y :: .int x :: st => some (pc + 1, L, .int (x >>> (y &&& 31)) :: st) | _ => none)
  | .iushr => (match st with | .int y :: .int x :: st => some (pc + 1, L, .int (x.toUInt32 >>> (y.toUInt32 &&& Int32.toUInt32 31)).toInt32 :: st) | _ => none)
  | .ladd => (match st with | .long y :: .long x :: st => some (pc + 1, L, .long (x + y) :: st) | _ => none)
  | .lsub => (match st with | .long y :: .long x :: st => some (pc + 1, L, .long (x - y) :: st) | _ => none)
  | .land => (match st with | .long y :: .long x :: st => some (pc + 1, L, .long (x &&& y) :: st) | _ => none)
  | .lor => (match st with | .long y :: .long x :: st => some (pc + 1, L, .long (x ||| y) :: st) | _ => none)
  | .lxor => (match st with | .long y :: .long x :: st => some (pc + 1, L, .long (x ^^^ y) :: st) | _ => none)
  | .lshl => (match st with | .int y :: .long x :: st => some (pc + 1, L, .long (x <<< (y.toInt64 &&& 63)) :: st) | _ => none)
  | .lshr => (match st with | .int y :: .long x :: st => some (pc + 1, L, .long (x >>> (y.toInt64 &&& 63)) :: st) | _ => none)
  | .lcmp => (match st with | .long y :: .long x :: st => some (pc + 1, L, .int (lg_cmp x y) :: st) | _ => none)
  | .i2l => (match st with | .int x :: st => some (pc + 1, L, .long x.toInt64 :: st) | _ => none)
  | .l2i => (match st with | .long x :: st => some (pc + 1, L, .int x.toInt32 :: st) | _ => none)
  | .i2b => (match st with | .int x :: st => some (pc + 1, L, .int x.toInt8.toInt32 :: st) | _ => none)
  | .i2s => (match st with | .int x :: st => some (pc + 1, L, .int x.toInt16.toInt32 :: st) | _ => none)
  | .i2c => (match st with | .int x :: st => some (pc + 1, L, .int (x.toUInt32 % 65536).toInt32 :: st) | _ => none)
  | .dup => (match st with | v :: st => if v.category = 1 then some (pc + 1, L, v :: v :: st) else none | _ => none)
  | .pop => (match st with | v :: st => if v.category = 1 then some (pc + 1, L, st) else none | _ => none)
  | .dup2 => (match st with | v :: w :: st => if v.category = 1 ∧ w.category = 1 then some (pc + 1, L, v :: w :: v :: w :: st) else none | _ => none)
  | .pop2 => (match st with | v :: st => if v.category = 2 then some (pc + 1, L, st) else none | _ => none)
  | .ifCond q off => (match st with | .int x :: st => (jump pc off).map (fun t => (if condB q x 0 = true then t else pc + 3, L, st)) | _ => none)
  | .if_icmp q off => (match st with | .int y :: .int x :: st => (jump pc off).map (fun t => (if condB q x y = true then t else pc + 3, L, st)) | _ => none)
  | .goto off => (jump pc off).map (fun t => (t, L, st))
  | .tableswitch dflt lo hi offs => (match st with
    | .int x :: st => if x.toInt < lo ∨ hi < x.toInt then (jump pc dflt).map (fun t => (t, L, st)) else
        (match offs[(x.toInt - lo).toNat]? with | some off => (jump pc off).map (fun t => (t, L, st)) | none => none)
    | _ => none)
  | .lookupswitch dflt ps => (match st with
    | .int x :: st => if (ps.toList.zip (ps.toList.drop 1)).all (fun (a, next) => a.1 < next.1) = true then (jump pc (Op.lookupswitch.offset ps.toList dflt x.toInt)).map (fun t => (t, L, st)) else none
    | _ => none)
  | _ => none
/-- the instructions on the heap, without calls -/
def hstep (X : Scr) (i : Instr) (o : List Nat) (pc : Nat) (L st : List Value) (h : Hp) : Option Cfg := match i with
  | .getfield _ => (getF o st h).map (fun st' => (pc + 3, L, st', h))
  | .putfield _ => (putF o st h).map (fun q => (pc + 3, L, q.1, q.2))
  | .getstatic _ => (match o with
    | [0, _, _] => some (pc + 3, L, .ref (OLDB + 1) :: st, h)
    | [1, _, _] => some (pc + 3, L, .ref (OLDB + 2) :: st, h)
    | [2, _, _] => some (pc + 3, L, .int 1 :: st, h)
    | [3, _, _] => some (pc + 3, L, .ref (OLDB + 13) :: st, h)
    | _ => none)
  | .arraylength => (match st with
    | .ref a :: st => if a < OLDB then (match h.1[a]? with | some (.inl (t, n)) => if t < 5 then some (pc + 1, L, .int (Int32.ofNat n) :: st, h) else none | _ => none)
        else (match oldArr X (a - OLDB) with | some (_, n, _) => some (pc + 1, L, .int (Int32.ofNat n) :: st, h) | none => none)
    | _ => none)
  | .iaload => (match st with
    | .int j :: .ref a :: st => if a < OLDB then (match h.1[a]? with | some (.inl (0, n)) => if inB j n = true then some (pc + 1, L, .int (h.2.1 a j.toNatClampNeg) :: st, h) else none | _ => none)
        else (match oldArr X (a - OLDB) with | some (0, n, f) => if inB j n = true then some (pc + 1, L, .int (f j.toNatClampNeg) :: st, h) else none | _ => none)
    | _ => none)
  | .baload => (match st with
    | .int j :: .ref a :: st => if a < OLDB then (match h.1[a]? with | some (.inl (2, n)) => if inB j n = true then some (pc + 1, L, .int (h.2.1 a j.toNatClampNeg) :: st, h) else none | _ => none)
        else (match oldArr X (a - OLDB) with | some (5, n, f) => if inB j n = true then some (pc + 1, L, .int (f j.toNatClampNeg) :: st, h) else none | _ => none)
    | _ => none)
  | .laload => (match st with
    | .int j :: .ref a :: st => if a < OLDB then (match h.1[a]? with | some (.inl (1, n)) => if inB j n = true then some (pc + 1, L, .long (h.2.2.1 a j.toNatClampNeg) :: st, h) else none | _ => none) else none
    | _ => none)
  | .aaload => (match st with
    | .int j :: .ref a :: st => if a < OLDB then (match h.1[a]? with
      | some (.inl (t, n)) => if (t = 3 ∨ t = 4) ∧ inB j n = true then (match h.2.2.2 a j.toNatClampNeg with | some b => if b < OLDB then some (pc + 1, L, .ref b :: st, h) else none | none => none) else none
      | _ => none) else none
    | _ => none)
  | .iastore => (match st with
    | .int x :: .int j :: .ref a :: st => if a < OLDB then (match h.1[a]? with | some (.inl (0, n)) => if inB j n = true then some (pc + 1, L, st, (h.1, ud h.2.1 a j.toNatClampNeg x, h.2.2.1, h.2.2.2)) else none | _ => none) else none
    | _ => none)
  | .bastore => (match st with
    | .int x :: .int j :: .ref a :: st => if a < OLDB ∧ (x = 0 ∨ x = 1) then (match h.1[a]? with | some (.inl (2, n)) => if inB j n = true then some (pc + 1, L, st, (h.1, ud h.2.1 a j.toNatClampNeg x, h.2.2.1, h.2.2.2)) else none | _ => none) else none
    | _ => none)
  | .lastore => (match st with
    | .long x :: .int j :: .ref a :: st => if a < OLDB then (match h.1[a]? with | some (.inl (1, n)) => if inB j n = true then some (pc + 1, L, st, (h.1, h.2.1, ud h.2.2.1 a j.toNatClampNeg x, h.2.2.2)) else none | _ => none) else none
    | _ => none)
  | .aastore => (match st with
    | .ref b :: .int j :: .ref a :: st => if a < OLDB ∧ b < OLDB ∧ h.1[b]? = some (.inr 5) then (match h.1[a]? with | some (.inl (3, n)) => if inB j n = true then some (pc + 1, L, st, (h.1, h.2.1, h.2.2.1, ud h.2.2.2 a j.toNatClampNeg (some b))) else none | _ => none) else none
    | _ => none)
  | .new _ => (match o with | [ci, _] => if h.1.length < OLDB ∧ ci < 8 then some (pc + 3, L, .ref h.1.length :: st, objNew h ci) else none | _ => none)
  | .newarray ty => (match st with
    | .int n :: st => (match atag ty with | some t => if h.1.length < OLDB ∧ ¬ n < 0 ∧ n.toNatClampNeg ≤ 10000 then some (pc + 2, L, .ref h.1.length :: st, arrNew h t n.toNatClampNeg) else none | none => none)
    | _ => none)
  | .anewarray _ => (match st with
    | .int n :: st => if h.1.length < OLDB ∧ ¬ n < 0 ∧ n.toNatClampNeg ≤ 10000 then some (pc + 3, L, .ref h.1.length :: st, arrNew h 3 n.toNatClampNeg) else none
    | _ => none)
  | .multianewarray _ d => (match st with
    | .int k :: .int n :: st => if d = 2 ∧ h.1.length < OLDB ∧ ¬ n < 0 ∧ ¬ k < 0 ∧ n.toNatClampNeg ≤ 1000 ∧ k.toNatClampNeg ≤ 1000 then some (pc + 4, L, .ref h.1.length :: st, rowNew h n.toNatClampNeg k.toNatClampNeg) else none
    | _ => none)
  | .invokespecial _ => (match o with
    | [9999, _, _, _, _] => (match st with | .ref a :: st => if a < OLDB ∧ catSum st ≤ 8 then some (pc + 3, L, st, h) else none | _ => none)
    | _ => none)
  | .invokestatic _ => (match o with
    | [9998, _, _, _, _] => (copyA st h).map (fun q => (pc + 3, L, q.1, q.2))
    | _ => none)
  | i => (pstep i o pc L st).map (fun q => (q.1, q.2.1, q.2.2, h))
/-- the receiver of a call of method c -/
def recvOK (c : Nat) (h : Hp) (v : Value) : Bool := match v with
  | .ref a => if a < OLDB then decide (h.1[a]? = some (.inr (mCi c))) && decide (mCi c < 8) else decide (mCi c = 9) && decide (OLDB + 3 ≤ a) && decide (a < OLDB + 8)
  | _ => false
/-- the locals with which a method begins -/
def entL0 : List Value → List Value
  | [] => []
  | v :: vs => if v.category = 2 then v :: .retAddr 0 :: entL0 vs else v :: entL0 vs
def entL (n : Nat) (vs : List Value) : List Value := entL0 vs ++ List.replicate (n - (entL0 vs).length) (.retAddr 0)
def argOK (v : Value) : Bool := match v with
  | .int _ => true
  | .long _ => true
  | .ref _ => true
  | _ => false
def callOK (c na kd : Nat) (st : List Value) (h : Hp) : Bool :=
  decide (na ≤ st.length) && decide (catSum (st.drop na) ≤ 8) && (st.take na).all argOK && decide ((entL0 (st.take na).reverse).length ≤ mMaxL c) &&
  (if kd = 2 then true else match (st.take na).reverse with
    | v :: _ => if kd = 0 then recvOK c h v else (match v with | .ref a => decide (a < OLDB) | _ => false)
    | [] => false)
def retI (y : Nat) (st : List Value) (h : Hp) : Option (Option Value × Hp) := match st with
  | [.int x] => (match mRet y with | some ty => if isRefTy ty = false ∧ narrow ty (.int x) = .int x then some (some (.int x), h) else none | none => none)
  | _ => none
def retL (y : Nat) (st : List Value) (h : Hp) : Option (Option Value × Hp) := match st with
  | [.long x] => if mRet y = some .long then some (some (.long x), h) else none
  | _ => none
def retV (y : Nat) (st : List Value) (h : Hp) : Option (Option Value × Hp) := match st with
  | [] => if mRet y = none then some (none, h) else none
  | _ => none
def callO (i : Instr) (o : List Nat) : Option (Nat × Nat × Nat) := match i with
  | .invokevirtual _ => (match o with | [c, na, kd, _, _, _, _] => some (c, na, kd) | _ => none)
  | .invokespecial _ => (match o with | [c, na, kd, _, _, _, _] => some (c, na, kd) | _ => none)
  | .invokestatic _ => (match o with | [c, na, kd, _, _, _, _] => some (c, na, kd) | _ => none)
  | _ => none
def retO (y : Nat) (i : Instr) (st : List Value) (h : Hp) : Option (Option (Option Value × Hp)) := match i with
  | .ireturn => some (retI y st h)
  | .lreturn => some (retL y st h)
  | .return_ => some (retV y st h)
  | _ => none
def run (X : Scr) : Nat → Nat → Nat → Nat → List Value → List Value → Hp → Option (Option Value × Hp)
  | 0, _, _, _, _, _, _ => none
  | n + 1, dp, y, pc, L, st, h => match pAt y pc with
    | none => none
    | some (_, i, _, o) => match retO y i st h with
      | some r => r
      | none => match callO i o with
        | some (c, na, kd) => (match dp with
          | 0 => none
          | dp' + 1 => if callOK c na kd st h = true then
              (match run X n dp' c 0 (entL (mMaxL c) (st.take na).reverse) [] h with
              | some (rv, h1) => run X n (dp' + 1) y (pc + 3) L (rv.toList ++ st.drop na) h1
              | none => none)
            else none)
        | none => match hstep X i o pc L st h with
          | some (pc', L', st', h') => run X n dp y pc' L' st' h'
          | none => none
