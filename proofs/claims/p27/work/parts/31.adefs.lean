/-! An interval machine over symbolic values: a term is a variable and an offset, a variable has bounds. -/
abbrev Tm : Type := Nat × Int
abbrev AV : Type := Nat × Tm × Tm × List Nat
abbrev Bd : Type := List (Int × Int)
abbrev AS : Type := Bd × List AV × List AV × List (Nat × Nat × Tm)
def bd (B : Bd) : Nat → Int × Int
  | 0 => (0, 0)
  | v + 1 => B.getD v (0, 0)
def tlo (B : Bd) (t : Tm) : Int := (bd B t.1).1 + t.2
def thi (B : Bd) (t : Tm) : Int := (bd B t.1).2 + t.2
def trg (B : Bd) (t : Tm) : Int × Int := (tlo B t, thi B t)
def rv (ρ : Nat → Int) : Nat → Int
  | 0 => 0
  | v + 1 => ρ v
def ev (ρ : Nat → Int) (t : Tm) : Int := rv ρ t.1 + t.2
def bOK (ρ : Nat → Int) (B : Bd) : Prop := ∀ v q, B[v]? = some q → q.1 ≤ ρ v ∧ ρ v ≤ q.2
/-- the number x is the term's -/
def tOK (n : Nat) (ρ : Nat → Int) (t : Tm) (x : Int) : Prop := t.1 ≤ n ∧ x = ev ρ t
def sgn (a b : Int) : Int32 := if a < b then -1 else if a = b then 0 else 1
def vm (n : Nat) (ρ : Nat → Int) (a : AV) (v : Value) : Prop := match a.1 with
  | 0 => v.category = 1
  | 1 => ∃ x : Int32, v = .int x ∧ tOK n ρ a.2.1 x.toInt
  | 2 => ∃ x : Int64, v = .long x ∧ tOK n ρ a.2.1 x.toInt
  | 3 => ∃ b : Nat, v = .ref b ∧ b ∈ a.2.2.2
  | 4 => ∃ x y : Int64, v = .int (sgn x.toInt y.toInt) ∧ tOK n ρ a.2.1 x.toInt ∧ tOK n ρ a.2.2.1 y.toInt
  | _ => True
def iT (t : Tm) : AV := (1, t, (0, 0), [])
def lT (t : Tm) : AV := (2, t, (0, 0), [])
def rT (l : List Nat) : AV := (3, (0, 0), (0, 0), l)
def jT : AV := (0, (0, 0), (0, 0), [])
def cT (t u : Tm) : AV := (4, t, u, [])
def fI : Int × Int := (-2147483648, 2147483647)
def fL : Int × Int := (-9223372036854775808, 9223372036854775807)
def clampI (r : Int × Int) : Int × Int := if -2147483648 ≤ r.1 ∧ r.2 ≤ 2147483647 then r else fI
def clampL (r : Int × Int) : Int × Int := if -9223372036854775808 ≤ r.1 ∧ r.2 ≤ 9223372036854775807 then r else fL
/-- a value of these bounds: a constant or a new variable -/
def frT (B : Bd) (r : Int × Int) : Bd × Tm := if r.1 = r.2 then (B, (0, r.1)) else (B ++ [r], (B.length + 1, 0))
def aBin (i : Instr) (p q : Int × Int) : Option (Int × Int) := match i with
  | .imul => some (if 0 ≤ p.1 ∧ 0 ≤ q.1 then clampI (p.1 * q.1, p.2 * q.2) else fI)
  | .idiv => if 0 < q.1 ∨ q.2 < 0 then some (if 0 ≤ p.1 ∧ 0 < q.1 then (0, p.2) else fI) else none
  | .irem => if 0 < q.1 then some (if 0 ≤ p.1 then (0, min p.2 (q.2 - 1)) else (-(q.2 - 1), q.2 - 1)) else if q.2 < 0 then some fI else none
  | .iand => some (if 0 ≤ p.1 then (if 0 ≤ q.1 then (0, min p.2 q.2) else (0, p.2)) else if 0 ≤ q.1 then (0, q.2) else fI)
  | .ior => some (if 0 ≤ p.1 ∧ 0 ≤ q.1 then clampI (0, 2 ^ ((max p.2 q.2).toNat.log2 + 1) - 1) else fI)
  | .ixor => some fI
  | .ishl => some (if p = (1, 1) ∧ 0 ≤ q.1 ∧ q.2 ≤ 30 then (1, 2 ^ q.2.toNat) else fI)
  | .ishr => some (if 0 ≤ p.1 then (0, p.2) else fI)
  | .iushr => some fI
  | _ => none
def aBinL (i : Instr) : Bool := match i with
  | .land => true
  | .lor => true
  | .lxor => true
  | _ => false
def aSh (i : Instr) : Bool := match i with
  | .lshl => true
  | .lshr => true
  | _ => false
def aUn (i : Instr) : Option (Int × Int) := match i with
  | .ineg => some fI
  | .i2b => some (-128, 127)
  | .i2s => some (-32768, 32767)
  | .i2c => some (0, 65535)
  | _ => none
def BIGI : Int := 36893488147419103232
/-- the term's bounds drawn in; none: nothing is left -/
def refn (B : Bd) (t : Tm) (lo hi : Int) : Option Bd := match t.1 with
  | 0 => if lo ≤ t.2 ∧ t.2 ≤ hi then some B else none
  | v + 1 => match B[v]? with
    | some q => if max q.1 (lo - t.2) ≤ min q.2 (hi - t.2) then some (B.set v (max q.1 (lo - t.2), min q.2 (hi - t.2))) else none
    | none => some B
def lt2 (B : Bd) (t u : Tm) : Option Bd := match refn B t (-BIGI) (thi B u - 1) with
  | some B' => refn B' u (tlo B' t + 1) BIGI
  | none => none
def le2 (B : Bd) (t u : Tm) : Option Bd := match refn B t (-BIGI) (thi B u) with
  | some B' => refn B' u (tlo B' t) BIGI
  | none => none
def eq2 (B : Bd) (t u : Tm) : Option Bd := match refn B t (tlo B u) (thi B u) with
  | some B' => refn B' u (tlo B' t) (thi B' t)
  | none => none
def ne2 (B : Bd) (t u : Tm) : List Bd := if tlo B u = thi B u then
    (if tlo B u = tlo B t ∨ tlo B u = thi B t ∨ tlo B u = 0 then (lt2 B t u).toList ++ (lt2 B u t).toList else [B])
  else [B]
def cnd2 (q : Jvm.ClassFile.Cond) (B : Bd) (t u : Tm) : List Bd := match q with
  | .eq => (eq2 B t u).toList
  | .ne => ne2 B t u
  | .lt => (lt2 B t u).toList
  | .ge => (le2 B u t).toList
  | .gt => (lt2 B u t).toList
  | .le => (le2 B t u).toList
def ngc : Jvm.ClassFile.Cond → Jvm.ClassFile.Cond
  | .eq => .ne | .ne => .eq | .lt => .ge | .ge => .lt | .gt => .le | .le => .gt
def cndI : Jvm.ClassFile.Cond → Int → Int → Bool
  | .eq, x, y => decide (x = y)
  | .ne, x, y => decide (¬ x = y)
  | .lt, x, y => decide (x < y)
  | .ge, x, y => decide (y ≤ x)
  | .gt, x, y => decide (y < x)
  | .le, x, y => decide (x ≤ y)
/-- both ways of a jump -/
def brs (q : Jvm.ClassFile.Cond) (B : Bd) (t u : Tm) (tgt nxt : Nat) (L st : List AV) (F : List (Nat × Nat × Tm)) : List (Nat × AS) :=
  (cnd2 q B t u).map (fun B' => (tgt, B', L, st, F)) ++ (cnd2 (ngc q) B t u).map (fun B' => (nxt, B', L, st, F))
def cat1 (a : AV) : Bool := a.1 == 0 || a.1 == 1 || a.1 == 3 || a.1 == 4
def aOkSt (L : List AV) : Nat → Bool
  | 0 => true
  | k + 1 => match L[k]? with
    | some a => cat1 a
    | none => false
def uni : List (Int × Int) → Int × Int
  | [] => fI
  | [q] => q
  | q :: l => (min q.1 (uni l).1, max q.2 (uni l).2)
/-! the heap: shapes, bounds of numbers, places of references -/
def slx (s : Option Sh) (k : Nat) : Nat := match s with
  | some (.inl _) => 0
  | _ => k
def ivl (a k : Nat) : Int × Int := ((IVT.getD a []).getD (slx SHl[a]? k) fI)
def rst (a k : Nat) : List Nat := match SHl[a]? with
  | some (.inl (_, n)) => if k < n then (RFT.getD a []).getD 0 [] else []
  | _ => (RFT.getD a []).getD k []
def HI (h : Hp) : Prop := h.1 = SHl ∧ (∀ a k, (ivl a k).1 ≤ (h.2.1 a k).toInt ∧ (h.2.1 a k).toInt ≤ (ivl a k).2) ∧ ∀ a k, rst a k ≠ [] → ∃ b ∈ rst a k, h.2.2.2 a k = some b
def aLen (a : Nat) : Option (Nat × Nat) := if a < OLDB then (match SHl[a]? with | some (.inl q) => some q | _ => none)
  else if a = OLDB + 1 then some (0, 7) else if a = OLDB + 2 then some (0, 21) else if OLDB + 8 ≤ a ∧ a < OLDB + 13 then some (5, strL.getD (a - OLDB - 8) 0) else none
def aIv (a : Nat) : Int × Int := if a < OLDB then ivl a 0 else if a = OLDB + 1 then (-1, 3) else if a = OLDB + 2 then (0, 71) else (0, 127)
def inW (W : List (Nat × Nat)) (a k : Nat) : Bool := W.any (fun q => q.1 == a && (q.2 == k || q.2 == 999))
def frm (W : List (Nat × Nat)) (h h' : Hp) : Prop := ∀ a k, inW W a k = false → h'.2.1 a k = h.2.1 a k ∧ h'.2.2.1 a k = h.2.2.1 a k ∧ h'.2.2.2 a k = h.2.2.2 a k
def fGet (F : List (Nat × Nat × Tm)) (a k : Nat) : Option Tm := (F.find? (fun q => q.1 == a && q.2.1 == k)).map (fun q => q.2.2)
def fDel (F : List (Nat × Nat × Tm)) (a k : Nat) : List (Nat × Nat × Tm) := F.filter (fun q => !(q.1 == a && q.2.1 == k))
def rngOK (r s : Int × Int) : Bool := decide (s.1 ≤ r.1) && decide (r.2 ≤ s.2)
/-- an array's places: all of this sort, the index within -/
def arrOK (l : List Nat) (t : Nat) (r : Int × Int) : Bool := !l.isEmpty && l.all (fun a => match aLen a with
  | some q => q.1 == t && decide (0 ≤ r.1) && decide (r.2 < (q.2 : Int))
  | none => false)
def aGetF (o : List Nat) (S : AS) : Option AS := match o with
  | [9, f, _, _] => (match S.2.2.1 with
    | a :: st => if a.1 = 3 ∧ a.2.2.2.all (fun b => decide (OLDB + 3 ≤ b) && decide (b < OLDB + 8)) = true then some (S.1, S.2.1, (if f = 0 then rT (a.2.2.2.map (· + 5)) else iT (0, 0)) :: st, S.2.2.2) else none
    | _ => none)
  | [ci, k, _, _] => (match S.2.2.1 with
    | a :: st => if a.1 = 3 ∧ a.2.2.2.isEmpty = false ∧ a.2.2.2.all (fun b => decide (b < OLDB) && decide (SHl[b]? = some (.inr ci))) = true ∧ k < vwN ci then
        (if isRefTy (vwTy ci k) then (if a.2.2.2.all (fun b => !(rst b k).isEmpty && (rst b k).all (fun z => decide (z < OLDB))) = true then some (S.1, S.2.1, rT ((a.2.2.2.map (fun b => rst b k)).flatten) :: st, S.2.2.2) else none)
         else (match a.2.2.2 with
           | [b] => (match fGet S.2.2.2 b k with
             | some t => some (S.1, S.2.1, iT t :: st, S.2.2.2)
             | none => some ((frT S.1 (ivl b k)).1, S.2.1, iT (frT S.1 (ivl b k)).2 :: st, (b, k, (frT S.1 (ivl b k)).2) :: S.2.2.2))
           | l => some ((frT S.1 (uni (l.map (fun b => ivl b k)))).1, S.2.1, iT (frT S.1 (uni (l.map (fun b => ivl b k)))).2 :: st, S.2.2.2)))
      else none
    | _ => none)
  | _ => none
def aPutF (W : List (Nat × Nat)) (o : List Nat) (S : AS) : Option AS := match o with
  | [ci, k, _, _] => (match S.2.2.1 with
    | v :: a :: st => if a.1 = 3 ∧ a.2.2.2.all (fun b => decide (b < OLDB) && decide (SHl[b]? = some (.inr ci)) && inW W b k) = true ∧ k < vwN ci then
        (if v.1 = 1 then (if isRefTy (vwTy ci k) = false ∧ a.2.2.2.all (fun b => rngOK (trg S.1 v.2.1) (ivl b k)) = true ∧ (isBoolTy (vwTy ci k) = false ∨ rngOK (trg S.1 v.2.1) (0, 1) = true) then
            (match a.2.2.2 with
             | [b] => some (S.1, S.2.1, st, (b, k, v.2.1) :: fDel S.2.2.2 b k)
             | l => some (S.1, S.2.1, st, l.foldl (fun F b => fDel F b k) S.2.2.2))
           else none)
         else if v.1 = 3 then (if isRefTy (vwTy ci k) = true ∧ v.2.2.2.all (fun z => decide (z < OLDB) && a.2.2.2.all (fun b => (rst b k).contains z)) = true then some (S.1, S.2.1, st, S.2.2.2) else none)
         else none)
      else none
    | _ => none)
  | _ => none
/-- the copy of whole stretches of arrays of numbers -/
def aCopy (W : List (Nat × Nat)) (S : AS) : Option AS := match S.2.2.1 with
  | n :: dp :: a :: sp :: b :: st =>
    if n.1 = 1 ∧ dp.1 = 1 ∧ sp.1 = 1 ∧ a.1 = 3 ∧ b.1 = 3 ∧ 0 ≤ tlo S.1 n.2.1 ∧ 0 ≤ tlo S.1 dp.2.1 ∧ 0 ≤ tlo S.1 sp.2.1 ∧ st.isEmpty = true ∧
      a.2.2.2.all (fun x => match SHl[x]? with | some (.inl (0, m)) => decide (x < OLDB) && inW W x 999 && decide (thi S.1 dp.2.1 + thi S.1 n.2.1 ≤ (m : Int)) && b.2.2.2.all (fun y => rngOK (ivl y 0) (ivl x 0)) | _ => false) = true ∧
      b.2.2.2.all (fun x => match SHl[x]? with | some (.inl (0, m)) => decide (x < OLDB) && decide (thi S.1 sp.2.1 + thi S.1 n.2.1 ≤ (m : Int)) | _ => false) = true then some (S.1, S.2.1, st, S.2.2.2) else none
  | _ => none
def aJump (pc : Nat) (off : Int) (S : AS) : Option (List (Nat × AS)) := (jump pc off).map (fun t => [(t, S)])
def pushI (S : AS) (st : List AV) (r : Int × Int) : AS := ((frT S.1 r).1, S.2.1, iT (frT S.1 r).2 :: st, S.2.2.2)
def pushL (S : AS) (st : List AV) (r : Int × Int) : AS := ((frT S.1 r).1, S.2.1, lT (frT S.1 r).2 :: st, S.2.2.2)
def tAdd (B : Bd) (t u : Tm) (c : (Int × Int) → (Int × Int)) : Bd × Tm :=
  if c (tlo B t + tlo B u, thi B t + thi B u) = (tlo B t + tlo B u, thi B t + thi B u) then (if u.1 = 0 then (B, (t.1, t.2 + u.2)) else if t.1 = 0 then (B, (u.1, u.2 + t.2)) else frT B (tlo B t + tlo B u, thi B t + thi B u)) else frT B (c (tlo B t + tlo B u, thi B t + thi B u))
def tSub (B : Bd) (t u : Tm) (c : (Int × Int) → (Int × Int)) : Bd × Tm :=
  if c (tlo B t - thi B u, thi B t - tlo B u) = (tlo B t - thi B u, thi B t - tlo B u) then (if u.1 = 0 then (B, (t.1, t.2 - u.2)) else frT B (tlo B t - thi B u, thi B t - tlo B u)) else frT B (c (tlo B t - thi B u, thi B t - tlo B u))
/-- what may follow an instruction; none: not known to go well -/
def asuc (W : List (Nat × Nat)) (i : Instr) (o : List Nat) (pc : Nat) (S : AS) : Option (List (Nat × AS)) := match i with
  | .iconst k => some [(pc + 1, S.1, S.2.1, iT (0, (Int32.ofInt k).toInt) :: S.2.2.1, S.2.2.2)]
  | .bipush k => some [(pc + 2, S.1, S.2.1, iT (0, (Int8.ofInt k).toInt32.toInt) :: S.2.2.1, S.2.2.2)]
  | .sipush k => some [(pc + 3, S.1, S.2.1, iT (0, (Int16.ofInt k).toInt32.toInt) :: S.2.2.1, S.2.2.2)]
  | .lconst k => some [(pc + 1, S.1, S.2.1, lT (0, (Int64.ofNat (k : Nat)).toInt) :: S.2.2.1, S.2.2.2)]
  | .ldc _ => (match o with
    | [0, v, _] => some [(pc + 2, S.1, S.2.1, iT (0, (Int32.ofNat v).toInt) :: S.2.2.1, S.2.2.2)]
    | [1, j, _] => if j < 5 then some [(pc + 2, S.1, S.2.1, rT [OLDB + 3 + j] :: S.2.2.1, S.2.2.2)] else none
    | _ => none)
  | .ldc_w _ => (match o with
    | [0, v, _] => some [(pc + 3, S.1, S.2.1, iT (0, (Int32.ofNat v).toInt) :: S.2.2.1, S.2.2.2)]
    | _ => none)
  | .ldc2_w _ => (match o with
    | [v, _] => some [(pc + 3, S.1, S.2.1, lT (0, (Int64.ofNat v).toInt) :: S.2.2.1, S.2.2.2)]
    | _ => none)
  | .iload k => (match S.2.1[k]? with | some a => if a.1 = 1 then some [(pc + 2, S.1, S.2.1, a :: S.2.2.1, S.2.2.2)] else none | none => none)
  | .iload_n k => (match S.2.1[(k : Nat)]? with | some a => if a.1 = 1 then some [(pc + 1, S.1, S.2.1, a :: S.2.2.1, S.2.2.2)] else none | none => none)
  | .lload k => (match S.2.1[k]? with | some a => if a.1 = 2 then some [(pc + 2, S.1, S.2.1, a :: S.2.2.1, S.2.2.2)] else none | none => none)
  | .lload_n k => (match S.2.1[(k : Nat)]? with | some a => if a.1 = 2 then some [(pc + 1, S.1, S.2.1, a :: S.2.2.1, S.2.2.2)] else none | none => none)
  | .aload k => (match S.2.1[k]? with | some a => if a.1 = 3 ∧ a.2.2.2.contains (OLDB + 13) = false then some [(pc + 2, S.1, S.2.1, a :: S.2.2.1, S.2.2.2)] else none | none => none)
  | .aload_n k => (match S.2.1[(k : Nat)]? with | some a => if a.1 = 3 ∧ a.2.2.2.contains (OLDB + 13) = false then some [(pc + 1, S.1, S.2.1, a :: S.2.2.1, S.2.2.2)] else none | none => none)
  | .istore k => (match S.2.2.1 with | a :: st => if a.1 = 1 ∧ k < S.2.1.length ∧ aOkSt S.2.1 k = true then some [(pc + 2, S.1, S.2.1.set k a, st, S.2.2.2)] else none | _ => none)
  | .istore_n k => (match S.2.2.1 with | a :: st => if a.1 = 1 ∧ (k : Nat) < S.2.1.length ∧ aOkSt S.2.1 k = true then some [(pc + 1, S.1, S.2.1.set k a, st, S.2.2.2)] else none | _ => none)
  | .lstore k => (match S.2.2.1 with | a :: st => if a.1 = 2 ∧ k + 1 < S.2.1.length ∧ aOkSt S.2.1 k = true then some [(pc + 2, S.1, (S.2.1.set k a).set (k + 1) jT, st, S.2.2.2)] else none | _ => none)
  | .lstore_n k => (match S.2.2.1 with | a :: st => if a.1 = 2 ∧ (k : Nat) + 1 < S.2.1.length ∧ aOkSt S.2.1 k = true then some [(pc + 1, S.1, (S.2.1.set k a).set (k + 1) jT, st, S.2.2.2)] else none | _ => none)
  | .astore_n k => (match S.2.2.1 with | a :: st => if a.1 = 3 ∧ a.2.2.2.contains (OLDB + 13) = false ∧ (k : Nat) < S.2.1.length ∧ aOkSt S.2.1 k = true then some [(pc + 1, S.1, S.2.1.set k a, st, S.2.2.2)] else none | _ => none)
  | .iinc k n => (match S.2.1[k]? with | some a => if a.1 = 1 ∧ aOkSt S.2.1 k = true then some [(pc + 3, (tAdd S.1 a.2.1 (0, (Int32.ofInt n).toInt) clampI).1, S.2.1.set k (iT (tAdd S.1 a.2.1 (0, (Int32.ofInt n).toInt) clampI).2), S.2.2.1, S.2.2.2)] else none | none => none)
  | .iadd => (match S.2.2.1 with | b :: a :: st => if a.1 = 1 ∧ b.1 = 1 then some [(pc + 1, (tAdd S.1 a.2.1 b.2.1 clampI).1, S.2.1, iT (tAdd S.1 a.2.1 b.2.1 clampI).2 :: st, S.2.2.2)] else none | _ => none)
  | .isub => (match S.2.2.1 with | b :: a :: st => if a.1 = 1 ∧ b.1 = 1 then some [(pc + 1, (tSub S.1 a.2.1 b.2.1 clampI).1, S.2.1, iT (tSub S.1 a.2.1 b.2.1 clampI).2 :: st, S.2.2.2)] else none | _ => none)
  | .ladd => (match S.2.2.1 with | b :: a :: st => if a.1 = 2 ∧ b.1 = 2 then some [(pc + 1, (tAdd S.1 a.2.1 b.2.1 clampL).1, S.2.1, lT (tAdd S.1 a.2.1 b.2.1 clampL).2 :: st, S.2.2.2)] else none | _ => none)
  | .lsub => (match S.2.2.1 with | b :: a :: st => if a.1 = 2 ∧ b.1 = 2 then some [(pc + 1, (tSub S.1 a.2.1 b.2.1 clampL).1, S.2.1, lT (tSub S.1 a.2.1 b.2.1 clampL).2 :: st, S.2.2.2)] else none | _ => none)
  | .lcmp => (match S.2.2.1 with | b :: a :: st => if a.1 = 2 ∧ b.1 = 2 then some [(pc + 1, S.1, S.2.1, cT a.2.1 b.2.1 :: st, S.2.2.2)] else none | _ => none)
  | .i2l => (match S.2.2.1 with | a :: st => if a.1 = 1 then some [(pc + 1, S.1, S.2.1, lT a.2.1 :: st, S.2.2.2)] else none | _ => none)
  | .l2i => (match S.2.2.1 with | a :: st => if a.1 = 2 then (if rngOK (trg S.1 a.2.1) fI = true then some [(pc + 1, S.1, S.2.1, iT a.2.1 :: st, S.2.2.2)] else some [(pc + 1, pushI S st fI)]) else none | _ => none)
  | .dup => (match S.2.2.1 with | a :: st => if cat1 a = true then some [(pc + 1, S.1, S.2.1, a :: a :: st, S.2.2.2)] else none | _ => none)
  | .pop => (match S.2.2.1 with | a :: st => if cat1 a = true then some [(pc + 1, S.1, S.2.1, st, S.2.2.2)] else none | _ => none)
  | .dup2 => (match S.2.2.1 with | a :: b :: st => if cat1 a = true ∧ cat1 b = true then some [(pc + 1, S.1, S.2.1, a :: b :: a :: b :: st, S.2.2.2)] else none | _ => none)
  | .pop2 => (match S.2.2.1 with | a :: st => if a.1 = 2 then some [(pc + 1, S.1, S.2.1, st, S.2.2.2)] else none | _ => none)
  | .ifCond q off => (match S.2.2.1 with
    | a :: st => (match jump pc off with
      | some t => if a.1 = 1 then some (brs q S.1 a.2.1 (0, 0) t (pc + 3) S.2.1 st S.2.2.2) else if a.1 = 4 then some (brs q S.1 a.2.1 a.2.2.1 t (pc + 3) S.2.1 st S.2.2.2) else none
      | none => none)
    | _ => none)
  | .if_icmp q off => (match S.2.2.1 with
    | b :: a :: st => (match jump pc off with
      | some t => if a.1 = 1 ∧ b.1 = 1 then some (brs q S.1 a.2.1 b.2.1 t (pc + 3) S.2.1 st S.2.2.2) else none
      | none => none)
    | _ => none)
  | .goto off => aJump pc off S
  | .tableswitch dflt lo hi offs => (match S.2.2.1 with
    | a :: st => if a.1 = 1 then (match jump pc dflt with
      | some d => if (List.range offs.size).all (fun j => (jump pc (offs.getD j 0)).isSome) = true ∧ hi + 1 - lo ≤ (offs.size : Int) then
          some ((refn S.1 a.2.1 (-BIGI) (lo - 1)).toList.map (fun B => (d, B, S.2.1, st, S.2.2.2)) ++ ((refn S.1 a.2.1 (hi + 1) BIGI).toList.map (fun B => (d, B, S.2.1, st, S.2.2.2)) ++
            ((List.range offs.size).map (fun (j : Nat) => (refn S.1 a.2.1 (lo + (j : Int)) (lo + (j : Int))).toList.map (fun B => ((jump pc (offs.getD j 0)).getD 0, B, S.2.1, st, S.2.2.2)))).flatten))
        else none
      | none => none) else none
    | _ => none)
  | .lookupswitch dflt ps => (match S.2.2.1 with
    | a :: st => if a.1 = 1 ∧ (ps.toList.zip (ps.toList.drop 1)).all (fun (a, next) => a.1 < next.1) = true then (match jump pc dflt with
      | some d => if ps.toList.all (fun q => (jump pc q.2).isSome) = true then
          some ((if (tlo S.1 a.2.1 = thi S.1 a.2.1 ∧ ps.toList.any (fun q => decide (q.1 = tlo S.1 a.2.1)) = true) then [] else [(d, S.1, S.2.1, st, S.2.2.2)]) ++
            (ps.toList.map (fun q => (refn S.1 a.2.1 q.1 q.1).toList.map (fun B => ((jump pc q.2).getD 0, B, S.2.1, st, S.2.2.2)))).flatten)
        else none
      | none => none) else none
    | _ => none)
  | .getfield _ => (aGetF o S).map (fun S' => [(pc + 3, S')])
  | .putfield _ => (aPutF W o S).map (fun S' => [(pc + 3, S')])
  | .getstatic _ => (match o with
    | [0, _, _] => some [(pc + 3, S.1, S.2.1, rT [OLDB + 1] :: S.2.2.1, S.2.2.2)]
    | [1, _, _] => some [(pc + 3, S.1, S.2.1, rT [OLDB + 2] :: S.2.2.1, S.2.2.2)]
    | [2, _, _] => some [(pc + 3, S.1, S.2.1, iT (0, 1) :: S.2.2.1, S.2.2.2)]
    | [3, _, _] => some [(pc + 3, S.1, S.2.1, rT [OLDB + 13] :: S.2.2.1, S.2.2.2)]
    | _ => none)
  | .arraylength => (match S.2.2.1 with
    | a :: st => if a.1 = 3 ∧ a.2.2.2.isEmpty = false ∧ a.2.2.2.all (fun b => match aLen b with | some q => (decide (q.1 < 5) || decide (OLDB ≤ b)) && decide (q.2 ≤ 1000) | none => false) = true then
        some [(pc + 1, pushI S st (uni (a.2.2.2.map (fun b => match aLen b with | some q => ((q.2 : Int), (q.2 : Int)) | none => fI))))] else none
    | _ => none)
  | .iaload => (match S.2.2.1 with
    | j :: a :: st => if j.1 = 1 ∧ a.1 = 3 ∧ arrOK a.2.2.2 0 (trg S.1 j.2.1) = true then some [(pc + 1, pushI S st (uni (a.2.2.2.map aIv)))] else none
    | _ => none)
  | .baload => (match S.2.2.1 with
    | j :: a :: st => if j.1 = 1 ∧ a.1 = 3 ∧ (arrOK a.2.2.2 2 (trg S.1 j.2.1) = true ∧ a.2.2.2.all (fun b => decide (b < OLDB)) = true ∨ arrOK a.2.2.2 5 (trg S.1 j.2.1) = true ∧ a.2.2.2.all (fun b => decide (OLDB ≤ b)) = true) then some [(pc + 1, pushI S st (uni (a.2.2.2.map aIv)))] else none
    | _ => none)
  | .laload => (match S.2.2.1 with
    | j :: a :: st => if j.1 = 1 ∧ a.1 = 3 ∧ arrOK a.2.2.2 1 (trg S.1 j.2.1) = true ∧ a.2.2.2.all (fun b => decide (b < OLDB)) = true then some [(pc + 1, pushL S st fL)] else none
    | _ => none)
  | .aaload => (match S.2.2.1 with
    | j :: a :: st => if j.1 = 1 ∧ a.1 = 3 ∧ (arrOK a.2.2.2 3 (trg S.1 j.2.1) = true ∨ arrOK a.2.2.2 4 (trg S.1 j.2.1) = true) ∧ a.2.2.2.all (fun b => decide (b < OLDB) && (!(rst b 0).isEmpty && (rst b 0).all (fun z => decide (z < OLDB)))) = true then
        some [(pc + 1, S.1, S.2.1, rT ((a.2.2.2.map (fun b => rst b 0)).flatten) :: st, S.2.2.2)] else none
    | _ => none)
  | .iastore => (match S.2.2.1 with
    | x :: j :: a :: st => if x.1 = 1 ∧ j.1 = 1 ∧ a.1 = 3 ∧ arrOK a.2.2.2 0 (trg S.1 j.2.1) = true ∧ a.2.2.2.all (fun b => decide (b < OLDB) && inW W b 999 && rngOK (trg S.1 x.2.1) (ivl b 0)) = true then some [(pc + 1, S.1, S.2.1, st, S.2.2.2)] else none
    | _ => none)
  | .bastore => (match S.2.2.1 with
    | x :: j :: a :: st => if x.1 = 1 ∧ j.1 = 1 ∧ a.1 = 3 ∧ rngOK (trg S.1 x.2.1) (0, 1) = true ∧ arrOK a.2.2.2 2 (trg S.1 j.2.1) = true ∧ a.2.2.2.all (fun b => decide (b < OLDB) && inW W b 999 && rngOK (trg S.1 x.2.1) (ivl b 0)) = true then some [(pc + 1, S.1, S.2.1, st, S.2.2.2)] else none
    | _ => none)
  | .lastore => (match S.2.2.1 with
    | x :: j :: a :: st => if x.1 = 2 ∧ j.1 = 1 ∧ a.1 = 3 ∧ arrOK a.2.2.2 1 (trg S.1 j.2.1) = true ∧ a.2.2.2.all (fun b => decide (b < OLDB) && inW W b 999) = true then some [(pc + 1, S.1, S.2.1, st, S.2.2.2)] else none
    | _ => none)
  | .invokestatic _ => (match o with
    | [9998, _, _, _, _] => (aCopy W S).map (fun S' => [(pc + 3, S')])
    | _ => none)
  | i => (match S.2.2.1 with
    | b :: a :: st => if a.1 = 1 ∧ b.1 = 1 then (match aBin i (trg S.1 a.2.1) (trg S.1 b.2.1) with
        | some r => some [(pc + 1, pushI S st r)]
        | none => (match aUn i with | some r => some [(pc + 1, pushI S (a :: st) r)] | none => none))
      else if a.1 = 2 ∧ b.1 = 2 ∧ aBinL i = true then some [(pc + 1, pushL S st fL)]
      else if a.1 = 2 ∧ b.1 = 1 ∧ aSh i = true then some [(pc + 1, pushL S st fL)]
      else if b.1 = 1 then (match aUn i with | some r => some [(pc + 1, pushI S (a :: st) r)] | none => none) else none
    | b :: st => if b.1 = 1 then (match aUn i with | some r => some [(pc + 1, pushI S st r)] | none => none) else none
    | _ => none)
