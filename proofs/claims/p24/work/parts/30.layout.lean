section JN30layout
/-! The heap's shapes after both constructors; bounds of its numbers; where its references lead. -/
def SHl : List Sh := [.inr 6, .inr 2, .inl (0, 7), .inl (0, 7), .inl (0, 7), .inl (0, 7), .inl (0, 7), .inl (0, 28), .inl (0, 12), .inr 2, .inl (0, 7), .inl (0, 7), .inl (0, 7), .inl (0, 7), .inl (0, 7), .inl (0, 28), .inl (0, 12), .inr 1, .inr 2, .inl (0, 7), .inl (0, 7), .inl (0, 7), .inl (0, 7), .inl (0, 7), .inl (0, 28), .inl (0, 12), .inr 5, .inl (0, 10), .inl (0, 10), .inl (0, 10), .inl (0, 100), .inl (0, 6), .inl (0, 7), .inl (0, 7), .inl (0, 7), .inl (0, 7), .inl (0, 7), .inl (0, 7), .inl (3, 6), .inr 5, .inl (0, 10), .inl (0, 10), .inl (0, 10), .inl (0, 100), .inr 4, .inl (0, 100), .inr 5, .inl (0, 10), .inl (0, 10), .inl (0, 10), .inl (0, 100), .inr 0, .inl (0, 20), .inr 3, .inl (0, 6), .inl (0, 6), .inl (4, 6), .inl (1, 60), .inl (1, 60), .inl (1, 60), .inl (1, 60), .inl (1, 60), .inl (1, 60), .inr 5, .inl (0, 10), .inl (0, 10), .inl (0, 10), .inl (0, 100), .inr 5, .inl (0, 10), .inl (0, 10), .inl (0, 10), .inl (0, 100), .inr 5, .inl (0, 10), .inl (0, 10), .inl (0, 10), .inl (0, 100), .inr 5, .inl (0, 10), .inl (0, 10), .inl (0, 10), .inl (0, 100), .inr 5, .inl (0, 10), .inl (0, 10), .inl (0, 10), .inl (0, 100), .inr 5, .inl (0, 10), .inl (0, 10), .inl (0, 10), .inl (0, 100), .inr 7, .inl (0, 7), .inl (0, 7), .inl (0, 7), .inl (0, 7), .inl (0, 7), .inl (0, 28), .inl (0, 100), .inl (0, 6), .inl (0, 60), .inl (0, 60), .inl (0, 60), .inl (0, 60), .inl (0, 600), .inl (0, 101), .inl (0, 14), .inl (2, 100), .inl (0, 7), .inl (0, 3), .inl (0, 3), .inl (0, 7), .inl (0, 12), .inl (0, 7), .inl (0, 7), .inl (0, 7), .inl (0, 7), .inl (0, 7), .inl (0, 28), .inl (0, 12), .inl (0, 20), .inl (0, 6), .inl (0, 6), .inl (1, 360), .inl (1, 60)]
def IVT : List (List (Int × Int)) := [[(-2147483648, 2147483647), (-2147483648, 2147483647), (0, 1), (-2147483648, 2147483647), (-2147483648, 2147483647), (-2147483648, 2147483647), (0, 6), (-2147483648, 2147483647), (-2147483648, 2147483647), (-2147483648, 2147483647)], [(0, 7), (-2147483648, 2147483647), (-2147483648, 2147483647), (-2147483648, 2147483647), (-2147483648, 2147483647), (-2147483648, 2147483647), (-2147483648, 2147483647), (-2147483648, 2147483647), (-2147483648, 2147483647), (-2147483648, 2147483647), (-2147483648, 2147483647), (0, 12), ((-1), 5)], [(0, 6)], [(0, 9)], [(0, 6)], [(0, 9)], [(0, 9)], [(0, 6)], [(-2147483648, 2147483647)], [(0, 7), (-2147483648, 2147483647), (-2147483648, 2147483647), (-2147483648, 2147483647), (-2147483648, 2147483647), (-2147483648, 2147483647), (-2147483648, 2147483647), (-2147483648, 2147483647), (-2147483648, 2147483647), (-2147483648, 2147483647), (-2147483648, 2147483647), (0, 12), ((-1), 5)], [(0, 6)], [(0, 9)], [(0, 6)], [(0, 9)], [(0, 9)], [(0, 6)], [(-2147483648, 2147483647)], [(-2147483648, 2147483647), (-2147483648, 2147483647), (-2147483648, 2147483647), (-2147483648, 2147483647), (-2147483648, 2147483647), (-2147483648, 2147483647), (-2147483648, 2147483647), (-2147483648, 2147483647), (-2147483648, 2147483647), (-2147483648, 2147483647), (-2147483648, 2147483647), (-2147483648, 2147483647), (0, 1), (-2147483648, 2147483647), (0, 6), ((-1), 6), (-2147483648, 2147483647)], [(0, 7), (-2147483648, 2147483647), (-2147483648, 2147483647), (-2147483648, 2147483647), (-2147483648, 2147483647), (-2147483648, 2147483647), (-2147483648, 2147483647), (-2147483648, 2147483647), (-2147483648, 2147483647), (-2147483648, 2147483647), (-2147483648, 2147483647), (0, 12), ((-1), 5)], [(0, 6)], [(0, 9)], [(0, 6)], [(0, 9)], [(0, 9)], [(0, 6)], [(-2147483648, 2147483647)], [(0, 10), (-2147483648, 2147483647), (-2147483648, 2147483647), (-2147483648, 2147483647), (-2147483648, 2147483647), (0, 100)], [(-2147483648, 2147483647)], [(-2147483648, 2147483647)], [(-2147483648, 2147483647)], [(-2147483648, 2147483647)], [(-2147483648, 2147483647)], [(-2147483648, 2147483647)], [(-2147483648, 2147483647)], [(-2147483648, 2147483647)], [(0, 6)], [(-2147483648, 2147483647)], [(0, 6)], [(-2147483648, 2147483647)], [(0, 10), (-2147483648, 2147483647), (-2147483648, 2147483647), (-2147483648, 2147483647), (-2147483648, 2147483647), (0, 100)], [(-2147483648, 2147483647)], [(-2147483648, 2147483647)], [(-2147483648, 2147483647)], [(-2147483648, 2147483647)], [(-2147483648, 2147483647), (0, 100), (0, 100), (-2147483648, 2147483647)], [(0, 127)], [(0, 10), (-2147483648, 2147483647), (-2147483648, 2147483647), (-2147483648, 2147483647), (-2147483648, 2147483647), (0, 100)], [(-2147483648, 2147483647)], [(-2147483648, 2147483647)], [(-2147483648, 2147483647)], [(-2147483648, 2147483647)], [(-2147483648, 2147483647), (-2147483648, 2147483647), (-2147483648, 2147483647), (-2147483648, 2147483647), (-2147483648, 2147483647)], [(-2147483648, 2147483647)], [(-2147483648, 2147483647), (-2147483648, 2147483647), (-2147483648, 2147483647)], [((-1), 4)], [(0, 60)], [(-2147483648, 2147483647)], [(-2147483648, 2147483647)], [(-2147483648, 2147483647)], [(-2147483648, 2147483647)], [(-2147483648, 2147483647)], [(-2147483648, 2147483647)], [(-2147483648, 2147483647)], [(0, 10), (-2147483648, 2147483647), (-2147483648, 2147483647), (-2147483648, 2147483647), (-2147483648, 2147483647), (0, 100)], [(-2147483648, 2147483647)], [(-2147483648, 2147483647)], [(-2147483648, 2147483647)], [(-2147483648, 2147483647)], [(0, 10), (-2147483648, 2147483647), (-2147483648, 2147483647), (-2147483648, 2147483647), (-2147483648, 2147483647), (0, 100)], [(-2147483648, 2147483647)], [(-2147483648, 2147483647)], [(-2147483648, 2147483647)], [(-2147483648, 2147483647)], [(0, 10), (-2147483648, 2147483647), (-2147483648, 2147483647), (-2147483648, 2147483647), (-2147483648, 2147483647), (0, 100)], [(-2147483648, 2147483647)], [(-2147483648, 2147483647)], [(-2147483648, 2147483647)], [(-2147483648, 2147483647)], [(0, 10), (-2147483648, 2147483647), (-2147483648, 2147483647), (-2147483648, 2147483647), (-2147483648, 2147483647), (0, 100)], [(-2147483648, 2147483647)], [(-2147483648, 2147483647)], [(-2147483648, 2147483647)], [(-2147483648, 2147483647)], [(0, 10), (-2147483648, 2147483647), (-2147483648, 2147483647), (-2147483648, 2147483647), (-2147483648, 2147483647), (0, 100)], [(-2147483648, 2147483647)], [(-2147483648, 2147483647)], [(-2147483648, 2147483647)], [(-2147483648, 2147483647)], [(0, 10), (-2147483648, 2147483647), (-2147483648, 2147483647), (-2147483648, 2147483647), (-2147483648, 2147483647), (0, 100)], [(-2147483648, 2147483647)], [(-2147483648, 2147483647)], [(-2147483648, 2147483647)], [(-2147483648, 2147483647)], [(0, 7), (0, 1100), (0, 127), (-2147483648, 2147483647), (-2147483648, 2147483647), (-2147483648, 2147483647), (-2147483648, 2147483647), (-2147483648, 2147483647), (-2147483648, 2147483647), (0, 6), ((-1), 5), (0, 100), (0, 100), (0, 99), (-2147483648, 2147483647), (-2147483648, 2147483647), (-2147483648, 2147483647), (-2147483648, 2147483647), (-2147483648, 2147483647), (-2147483648, 2147483647), (-2147483648, 2147483647), (-2147483648, 2147483647), (0, 600), (0, 101), (-2147483648, 2147483647), (-2147483648, 2147483647), (-2147483648, 2147483647), (0, 1), (-2147483648, 2147483647), (0, 6), ((-1), 6), (-2147483648, 2147483647), (-2147483648, 2147483647), (-2147483648, 2147483647), (0, 7), (-2147483648, 2147483647), (0, 127), (0, 1100), (-2147483648, 2147483647), (-2147483648, 2147483647), (-2147483648, 2147483647), (-2147483648, 2147483647), (0, 12), (-2147483648, 2147483647), (0, 1), ((-1), 5), (0, 7), (0, 1100), (0, 127), (-2147483648, 2147483647), (0, 12), (-2147483648, 2147483647), (-2147483648, 2147483647), (-2147483648, 2147483647), (-2147483648, 2147483647), (-2147483648, 2147483647), (-2147483648, 2147483647), (-2147483648, 2147483647), (0, 100), (-2147483648, 2147483647), (-2147483648, 2147483647), (-2147483648, 2147483647), (-2147483648, 2147483647), (-2147483648, 2147483647)], [(0, 6)], [(0, 9)], [(0, 6)], [(0, 9)], [(0, 9)], [(0, 6)], [(0, 127)], [(0, 10)], [(0, 2)], [(0, 99)], [(0, 600)], [(0, 600)], [(-2147483648, 2147483647)], [(-2147483648, 2147483647)], [(0, 127)], [(0, 1)], [(0, 6)], [(0, 7)], [(0, 6)], [(0, 6)], [(-2147483648, 2147483647)], [(0, 6)], [(0, 9)], [(0, 6)], [(0, 9)], [(0, 9)], [(0, 6)], [(-2147483648, 2147483647)], [(-2147483648, 2147483647)], [((-1), 4)], [(0, 60)], [(-2147483648, 2147483647)], [(-2147483648, 2147483647)]]
def RFT : List (List (List Nat)) := [[[1], [9], [], [17], [38], [39], [], [44], [51], [53]], [[], [2], [3], [4], [5], [6], [7], [], [], [], [8], [], []], [[]], [[]], [[]], [[]], [[]], [[]], [[]], [[], [10], [11], [12], [13], [14], [15], [], [], [], [16], [], []], [[]], [[]], [[]], [[]], [[]], [[]], [[]], [[18], [26, 39, 63, 68, 73, 78, 83, 88], [31], [32], [33], [34], [35], [36], [37], [], [], [], [], [], [], [], []], [[], [19], [20], [21], [22], [23], [24], [], [], [], [25], [], []], [[]], [[]], [[]], [[]], [[]], [[]], [[]], [[], [27], [28], [29], [30], []], [[]], [[]], [[]], [[]], [[]], [[]], [[]], [[]], [[]], [[]], [[]], [[63, 68, 73, 78, 83, 88]], [[], [40], [41], [42], [43], []], [[]], [[]], [[]], [[]], [[45], [], [], [46, 63, 68, 73, 78, 83, 88]], [[]], [[], [47], [48], [49], [50], []], [[]], [[]], [[]], [[]], [[], [], [], [52], []], [[]], [[54], [55], [56]], [[]], [[]], [[57, 58, 59, 60, 61, 62]], [[]], [[]], [[]], [[]], [[]], [[]], [[], [64], [65], [66], [67], []], [[]], [[]], [[]], [[]], [[], [69], [70], [71], [72], []], [[]], [[]], [[]], [[]], [[], [74], [75], [76], [77], []], [[]], [[]], [[]], [[]], [[], [79], [80], [81], [82], []], [[]], [[]], [[]], [[]], [[], [84], [85], [86], [87], []], [[]], [[]], [[]], [[]], [[], [89], [90], [91], [92], []], [[]], [[]], [[]], [[]], [[], [], [], [94], [95], [96], [97], [98], [99], [], [], [], [], [], [100], [101], [102], [103], [104], [105], [106], [107], [], [], [], [108], [109], [], [], [], [], [], [], [110], [], [], [], [], [111], [112], [113], [], [], [114], [], [], [], [], [], [], [], [115], [116], [117], [118], [119], [120], [121], [], [122], [123], [124], [125], [126]], [[]], [[]], [[]], [[]], [[]], [[]], [[]], [[]], [[]], [[]], [[]], [[]], [[]], [[]], [[]], [[]], [[]], [[]], [[]], [[]], [[]], [[]], [[]], [[]], [[]], [[]], [[]], [[]], [[]], [[]], [[]], [[]], [[]]]
/-- an invariant beside the bounds, and the places that it speaks of -/
abbrev JV : Type := (Hp → Prop) × List (Nat × Nat)
end JN30layout
section JN31adefs
/-! An interval machine over symbolic values: a term is a variable and an offset, a variable has bounds. -/
abbrev Tm : Type := Nat × Int
abbrev AV : Type := Nat × Tm × Tm × List Nat
abbrev Bd : Type := List (Int × Int)
abbrev AS : Type := Bd × List AV × List AV × List (Nat × Nat × Tm)
def bd (B : Bd) : Nat → Int × Int
  | 0 => (0, 0)
  | v + 1 => B.getD v (0, 0)
def tlo (B : Bd) (t : Tm) : Int := (bd B t.1).1 + t.2
def thi (B : Bd) (t : Tm) : Int := (bd B t.1).2 + t.2
def trg (B : Bd) (t : Tm) : Int × Int := (tlo B t, thi B t)
def rv (ρ : Nat → Int) : Nat → Int
  | 0 => 0
  | v + 1 => ρ v
def ev (ρ : Nat → Int) (t : Tm) : Int := rv ρ t.1 + t.2
def bOK (ρ : Nat → Int) (B : Bd) : Prop := ∀ v q, B[v]? = some q → q.1 ≤ ρ v ∧ ρ v ≤ q.2
/-- the number x is the term's -/
def tOK (n : Nat) (ρ : Nat → Int) (t : Tm) (x : Int) : Prop := t.1 ≤ n ∧ x = ev ρ t
def sgn (a b : Int) : Int32 := if a < b then -1 else if a = b then 0 else 1
def vm (n : Nat) (ρ : Nat → Int) (a : AV) (v : Value) : Prop := match a.1 with
  | 0 => v.category = 1
  | 1 => ∃ x : Int32, v = .int x ∧ tOK n ρ a.2.1 x.toInt
  | 2 => ∃ x : Int64, v = .long x ∧ tOK n ρ a.2.1 x.toInt
  | 3 => ∃ b : Nat, v = .ref b ∧ b ∈ a.2.2.2
  | 4 => ∃ x y : Int64, v = .int (sgn x.toInt y.toInt) ∧ tOK n ρ a.2.1 x.toInt ∧ tOK n ρ a.2.2.1 y.toInt
  | _ => True
def iT (t : Tm) : AV := (1, t, (0, 0), [])
def lT (t : Tm) : AV := (2, t, (0, 0), [])
def rT (l : List Nat) : AV := (3, (0, 0), (0, 0), l)
def jT : AV := (0, (0, 0), (0, 0), [])
def cT (t u : Tm) : AV := (4, t, u, [])
def fI : Int × Int := (-2147483648, 2147483647)
def fL : Int × Int := (-9223372036854775808, 9223372036854775807)
def clampI (r : Int × Int) : Int × Int := if -2147483648 ≤ r.1 ∧ r.2 ≤ 2147483647 then r else fI
def clampL (r : Int × Int) : Int × Int := if -9223372036854775808 ≤ r.1 ∧ r.2 ≤ 9223372036854775807 then r else fL
/-- a value of these bounds: a constant or a new variable -/
def frT (B : Bd) (r : Int × Int) : Bd × Tm := if r.1 = r.2 then (B, (0, r.1)) else (B ++ [r], (B.length + 1, 0))
def aBin (i : Instr) (p q : Int × Int) : Option (Int × Int) := match i with
  | .imul => some (if 0 ≤ p.1 ∧ 0 ≤ q.1 then clampI (p.1 * q.1, p.2 * q.2) else fI)
  | .idiv => if 0 < q.1 ∨ q.2 < 0 then some (if 0 ≤ p.1 ∧ 0 < q.1 then (0, p.2) else fI) else none
  | .irem => if 0 < q.1 then some (if 0 ≤ p.1 then (0, min p.2 (q.2 - 1)) else (-(q.2 - 1), q.2 - 1)) else if q.2 < 0 then some fI else none
  | .iand => some (if 0 ≤ p.1 then (if 0 ≤ q.1 then (0, min p.2 q.2) else (0, p.2)) else if 0 ≤ q.1 then (0, q.2) else fI)
  | .ior => some (if 0 ≤ p.1 ∧ 0 ≤ q.1 then clampI (0, 2 ^ ((max p.2 q.2).toNat.log2 + 1) - 1) else fI)
  | .ixor => some fI
  | .ishl => some (if p = (1, 1) ∧ 0 ≤ q.1 ∧ q.2 ≤ 30 then (1, 2 ^ q.2.toNat) else fI)
  | .ishr => some (if 0 ≤ p.1 then (0, p.2) else fI)
  | .iushr => some fI
  | _ => none
def aBinL (i : Instr) : Bool := match i with
  | .land => true
  | .lor => true
  | .lxor => true
  | _ => false
def aSh (i : Instr) : Bool := match i with
  | .lshl => true
  | .lshr => true
  | _ => false
def aUn (i : Instr) : Option (Int × Int) := match i with
  | .ineg => some fI
  | .i2b => some (-128, 127)
  | .i2s => some (-32768, 32767)
  | .i2c => some (0, 65535)
  | _ => none
def BIGI : Int := 36893488147419103232
/-- the term's bounds drawn in; none: nothing is left -/
def refn (B : Bd) (t : Tm) (lo hi : Int) : Option Bd := match t.1 with
  | 0 => if lo ≤ t.2 ∧ t.2 ≤ hi then some B else none
  | v + 1 => match B[v]? with
    | some q => if max q.1 (lo - t.2) ≤ min q.2 (hi - t.2) then some (B.set v (max q.1 (lo - t.2), min q.2 (hi - t.2))) else none
    | none => some B
def lt2 (B : Bd) (t u : Tm) : Option Bd := match refn B t (-BIGI) (thi B u - 1) with
  | some B' => refn B' u (tlo B' t + 1) BIGI
  | none => none
def le2 (B : Bd) (t u : Tm) : Option Bd := match refn B t (-BIGI) (thi B u) with
  | some B' => refn B' u (tlo B' t) BIGI
  | none => none
def eq2 (B : Bd) (t u : Tm) : Option Bd := match refn B t (tlo B u) (thi B u) with
  | some B' => refn B' u (tlo B' t) (thi B' t)
  | none => none
def ne2 (B : Bd) (t u : Tm) : List Bd := if tlo B u = thi B u then
    (if tlo B u = tlo B t ∨ tlo B u = thi B t ∨ tlo B u = 0 then (lt2 B t u).toList ++ (lt2 B u t).toList else [B])
  else [B]
def cnd2 (q : Jvm.ClassFile.Cond) (B : Bd) (t u : Tm) : List Bd := match q with
  | .eq => (eq2 B t u).toList
  | .ne => ne2 B t u
  | .lt => (lt2 B t u).toList
  | .ge => (le2 B u t).toList
  | .gt => (lt2 B u t).toList
  | .le => (le2 B t u).toList
def ngc : Jvm.ClassFile.Cond → Jvm.ClassFile.Cond
  | .eq => .ne | .ne => .eq | .lt => .ge | .ge => .lt | .gt => .le | .le => .gt
def cndI : Jvm.ClassFile.Cond → Int → Int → Bool
  | .eq, x, y => decide (x = y)
  | .ne, x, y => decide (¬ x = y)
  | .lt, x, y => decide (x < y)
  | .ge, x, y => decide (y ≤ x)
  | .gt, x, y => decide (y < x)
  | .le, x, y => decide (x ≤ y)
/-- both ways of a jump -/
def brs (q : Jvm.ClassFile.Cond) (B : Bd) (t u : Tm) (tgt nxt : Nat) (L st : List AV) (F : List (Nat × Nat × Tm)) : List (Nat × AS) :=
  (cnd2 q B t u).map (fun B' => (tgt, B', L, st, F)) ++ (cnd2 (ngc q) B t u).map (fun B' => (nxt, B', L, st, F))
def cat1 (a : AV) : Bool := a.1 == 0 || a.1 == 1 || a.1 == 3 || a.1 == 4
def aOkSt (L : List AV) : Nat → Bool
  | 0 => true
  | k + 1 => match L[k]? with
    | some a => cat1 a
    | none => false
def uni : List (Int × Int) → Int × Int
  | [] => fI
  | [q] => q
  | q :: l => (min q.1 (uni l).1, max q.2 (uni l).2)
/-! the heap: shapes, bounds of numbers, places of references -/
def slx (s : Option Sh) (k : Nat) : Nat := match s with
  | some (.inl _) => 0
  | _ => k
def ivl (a k : Nat) : Int × Int := ((IVT.getD a []).getD (slx SHl[a]? k) fI)
def rst (a k : Nat) : List Nat := match SHl[a]? with
  | some (.inl (_, n)) => if k < n then (RFT.getD a []).getD 0 [] else []
  | _ => (RFT.getD a []).getD k []
def HI (h : Hp) : Prop := h.1 = SHl ∧ (∀ a k, (ivl a k).1 ≤ (h.2.1 a k).toInt ∧ (h.2.1 a k).toInt ≤ (ivl a k).2) ∧ ∀ a k, rst a k ≠ [] → ∃ b ∈ rst a k, h.2.2.2 a k = some b
def aLen (a : Nat) : Option (Nat × Nat) := if a < OLDB then (match SHl[a]? with | some (.inl q) => some q | _ => none)
  else if a = OLDB + 1 then some (0, 7) else if a = OLDB + 2 then some (0, 21) else if OLDB + 8 ≤ a ∧ a < OLDB + 13 then some (5, strL.getD (a - OLDB - 8) 0) else none
def aIv (a : Nat) : Int × Int := if a < OLDB then ivl a 0 else if a = OLDB + 1 then (-1, 3) else if a = OLDB + 2 then (0, 71) else (0, 127)
def inW (W : List (Nat × Nat)) (a k : Nat) : Bool := W.any (fun q => q.1 == a && (q.2 == k || q.2 == 999))
def frm (W : List (Nat × Nat)) (h h' : Hp) : Prop := ∀ a k, inW W a k = false → h'.2.1 a k = h.2.1 a k ∧ h'.2.2.1 a k = h.2.2.1 a k ∧ h'.2.2.2 a k = h.2.2.2 a k
def fGet (F : List (Nat × Nat × Tm)) (a k : Nat) : Option Tm := (F.find? (fun q => q.1 == a && q.2.1 == k)).map (fun q => q.2.2)
def fDel (F : List (Nat × Nat × Tm)) (a k : Nat) : List (Nat × Nat × Tm) := F.filter (fun q => !(q.1 == a && q.2.1 == k))
def rngOK (r s : Int × Int) : Bool := decide (s.1 ≤ r.1) && decide (r.2 ≤ s.2)
/-- an array's places: all of this sort, the index within -/
def arrOK (l : List Nat) (t : Nat) (r : Int × Int) : Bool := !l.isEmpty && l.all (fun a => match aLen a with
  | some q => q.1 == t && decide (0 ≤ r.1) && decide (r.2 < (q.2 : Int))
  | none => false)
def aGetF (o : List Nat) (S : AS) : Option AS := match o with
  | [9, f, _, _] => (match S.2.2.1 with
    | a :: st => if a.1 = 3 ∧ a.2.2.2.all (fun b => decide (OLDB + 3 ≤ b) && decide (b < OLDB + 8)) = true then some (S.1, S.2.1, (if f = 0 then rT (a.2.2.2.map (· + 5)) else iT (0, 0)) :: st, S.2.2.2) else none
    | _ => none)
  | [ci, k, _, _] => (match S.2.2.1 with
    | a :: st => if a.1 = 3 ∧ a.2.2.2.isEmpty = false ∧ a.2.2.2.all (fun b => decide (b < OLDB) && decide (SHl[b]? = some (.inr ci))) = true ∧ k < vwN ci then
        (if isRefTy (vwTy ci k) then (if a.2.2.2.all (fun b => !(rst b k).isEmpty && (rst b k).all (fun z => decide (z < OLDB))) = true then some (S.1, S.2.1, rT ((a.2.2.2.map (fun b => rst b k)).flatten) :: st, S.2.2.2) else none)
         else (match a.2.2.2 with
           | [b] => (match fGet S.2.2.2 b k with
             | some t => some (S.1, S.2.1, iT t :: st, S.2.2.2)
             | none => some ((frT S.1 (ivl b k)).1, S.2.1, iT (frT S.1 (ivl b k)).2 :: st, (b, k, (frT S.1 (ivl b k)).2) :: S.2.2.2))
           | l => some ((frT S.1 (uni (l.map (fun b => ivl b k)))).1, S.2.1, iT (frT S.1 (uni (l.map (fun b => ivl b k)))).2 :: st, S.2.2.2)))
      else none
    | _ => none)
  | _ => none
def aPutF (W : List (Nat × Nat)) (o : List Nat) (S : AS) : Option AS := match o with
  | [ci, k, _, _] => (match S.2.2.1 with
    | v :: a :: st => if a.1 = 3 ∧ a.2.2.2.all (fun b => decide (b < OLDB) && decide (SHl[b]? = some (.inr ci)) && inW W b k) = true ∧ k < vwN ci then
        (if v.1 = 1 then (if isRefTy (vwTy ci k) = false ∧ a.2.2.2.all (fun b => rngOK (trg S.1 v.2.1) (ivl b k)) = true ∧ (isBoolTy (vwTy ci k) = false ∨ rngOK (trg S.1 v.2.1) (0, 1) = true) then
            (match a.2.2.2 with
             | [b] => some (S.1, S.2.1, st, (b, k, v.2.1) :: fDel S.2.2.2 b k)
             | l => some (S.1, S.2.1, st, l.foldl (fun F b => fDel F b k) S.2.2.2))
           else none)
         else if v.1 = 3 then (if isRefTy (vwTy ci k) = true ∧ v.2.2.2.all (fun z => decide (z < OLDB) && a.2.2.2.all (fun b => (rst b k).contains z)) = true then some (S.1, S.2.1, st, S.2.2.2) else none)
         else none)
      else none
    | _ => none)
  | _ => none
/-- the copy of whole stretches of arrays of numbers -/
def aCopy (W : List (Nat × Nat)) (S : AS) : Option AS := match S.2.2.1 with
  | n :: dp :: a :: sp :: b :: st =>
    if n.1 = 1 ∧ dp.1 = 1 ∧ sp.1 = 1 ∧ a.1 = 3 ∧ b.1 = 3 ∧ 0 ≤ tlo S.1 n.2.1 ∧ 0 ≤ tlo S.1 dp.2.1 ∧ 0 ≤ tlo S.1 sp.2.1 ∧ st.isEmpty = true ∧
      a.2.2.2.all (fun x => match SHl[x]? with | some (.inl (0, m)) => decide (x < OLDB) && inW W x 999 && decide (thi S.1 dp.2.1 + thi S.1 n.2.1 ≤ (m : Int)) && b.2.2.2.all (fun y => rngOK (ivl y 0) (ivl x 0)) | _ => false) = true ∧
      b.2.2.2.all (fun x => match SHl[x]? with | some (.inl (0, m)) => decide (x < OLDB) && decide (thi S.1 sp.2.1 + thi S.1 n.2.1 ≤ (m : Int)) | _ => false) = true then some (S.1, S.2.1, st, S.2.2.2) else none
  | _ => none
def aJump (pc : Nat) (off : Int) (S : AS) : Option (List (Nat × AS)) := (jump pc off).map (fun t => [(t, S)])
def pushI (S : AS) (st : List AV) (r : Int × Int) : AS := ((frT S.1 r).1, S.2.1, iT (frT S.1 r).2 :: st, S.2.2.2)
def pushL (S : AS) (st : List AV) (r : Int × Int) : AS := ((frT S.1 r).1, S.2.1, lT (frT S.1 r).2 :: st, S.2.2.2)
def tAdd (B : Bd) (t u : Tm) (c : (Int × Int) → (Int × Int)) : Bd × Tm :=
  if c (tlo B t + tlo B u, thi B t + thi B u) = (tlo B t + tlo B u, thi B t + thi B u) then (if u.1 = 0 then (B, (t.1, t.2 + u.2)) else if t.1 = 0 then (B, (u.1, u.2 + t.2)) else frT B (tlo B t + tlo B u, thi B t + thi B u)) else frT B (c (tlo B t + tlo B u, thi B t + thi B u))
def tSub (B : Bd) (t u : Tm) (c : (Int × Int) → (Int × Int)) : Bd × Tm :=
  if c (tlo B t - thi B u, thi B t - tlo B u) = (tlo B t - thi B u, thi B t - tlo B u) then (if u.1 = 0 then (B, (t.1, t.2 - u.2)) else frT B (tlo B t - thi B u, thi B t - tlo B u)) else frT B (c (tlo B t - thi B u, thi B t - tlo B u))
/-- what may follow an instruction; none: not known to go well -/
def asuc (W : List (Nat × Nat)) (i : Instr) (o : List Nat) (pc : Nat) (S : AS) : Option (List (Nat × AS)) := match i with
  | .iconst k => some [(pc + 1, S.1, S.2.1, iT (0, (Int32.ofInt k).toInt) :: S.2.2.1, S.2.2.2)]
  | .bipush k => some [(pc + 2, S.1, S.2.1, iT (0, (Int8.ofInt k).toInt32.toInt) :: S.2.2.1, S.2.2.2)]
  | .sipush k => some [(pc + 3, S.1, S.2.1, iT (0, (Int16.ofInt k).toInt32.toInt) :: S.2.2.1, S.2.2.2)]
  | .lconst k => some [(pc + 1, S.1, S.2.1, lT (0, (Int64.ofNat (k : Nat)).toInt) :: S.2.2.1, S.2.2.2)]
  | .ldc _ => (match o with
    | [0, v, _] => some [(pc + 2, S.1, S.2.1, iT (0, (Int32.ofNat v).toInt) :: S.2.2.1, S.2.2.2)]
    | [1, j, _] => if j < 5 then some [(pc + 2, S.1, S.2.1, rT [OLDB + 3 + j] :: S.2.2.1, S.2.2.2)] else none
    | _ => none)
  | .ldc_w _ => (match o with
    | [0, v, _] => some [(pc + 3, S.1, S.2.1, iT (0, (Int32.ofNat v).toInt) :: S.2.2.1, S.2.2.2)]
    | _ => none)
  | .ldc2_w _ => (match o with
    | [v, _] => some [(pc + 3, S.1, S.2.1, lT (0, (Int64.ofNat v).toInt) :: S.2.2.1, S.2.2.2)]
    | _ => none)
  | .iload k => (match S.2.1[k]? with | some a => if a.1 = 1 then some [(pc + 2, S.1, S.2.1, a :: S.2.2.1, S.2.2.2)] else none | none => none)
  | .iload_n k => (match S.2.1[(k : Nat)]? with | some a => if a.1 = 1 then some [(pc + 1, S.1, S.2.1, a :: S.2.2.1, S.2.2.2)] else none | none => none)
  | .lload k => (match S.2.1[k]? with | some a => if a.1 = 2 then some [(pc + 2, S.1, S.2.1, a :: S.2.2.1, S.2.2.2)] else none | none => none)
  | .lload_n k => (match S.2.1[(k : Nat)]? with | some a => if a.1 = 2 then some [(pc + 1, S.1, S.2.1, a :: S.2.2.1, S.2.2.2)] else none | none => none)
  | .aload k => (match S.2.1[k]? with | some a => if a.1 = 3 ∧ a.2.2.2.contains (OLDB + 13) = false then some [(pc + 2, S.1, S.2.1, a :: S.2.2.1, S.2.2.2)] else none | none => none)
  | .aload_n k => (match S.2.1[(k : Nat)]? with | some a => if a.1 = 3 ∧ a.2.2.2.contains (OLDB + 13) = false then some [(pc + 1, S.1, S.2.1, a :: S.2.2.1, S.2.2.2)] else none | none => none)
  | .istore k => (match S.2.2.1 with | a :: st => if a.1 = 1 ∧ k < S.2.1.length ∧ aOkSt S.2.1 k = true then some [(pc + 2, S.1, S.2.1.set k a, st, S.2.2.2)] else none | _ => none)
  | .istore_n k => (match S.2.2.1 with | a :: st => if a.1 = 1 ∧ (k : Nat) < S.2.1.length ∧ aOkSt S.2.1 k = true then some [(pc + 1, S.1, S.2.1.set k a, st, S.2.2.2)] else none | _ => none)
  | .lstore k => (match S.2.2.1 with | a :: st => if a.1 = 2 ∧ k + 1 < S.2.1.length ∧ aOkSt S.2.1 k = true then some [(pc + 2, S.1, (S.2.1.set k a).set (k + 1) jT, st, S.2.2.2)] else none | _ => none)
  | .lstore_n k => (match S.2.2.1 with | a :: st => if a.1 = 2 ∧ (k : Nat) + 1 < S.2.1.length ∧ aOkSt S.2.1 k = true then some [(pc + 1, S.1, (S.2.1.set k a).set (k + 1) jT, st, S.2.2.2)] else none | _ => none)
  | .astore_n k => (match S.2.2.1 with | a :: st => if a.1 = 3 ∧ a.2.2.2.contains (OLDB + 13) = false ∧ (k : Nat) < S.2.1.length ∧ aOkSt S.2.1 k = true then some [(pc + 1, S.1, S.2.1.set k a, st, S.2.2.2)] else none | _ => none)
  | .iinc k n => (match S.2.1[k]? with | some a => if a.1 = 1 ∧ aOkSt S.2.1 k = true then some [(pc + 3, (tAdd S.1 a.2.1 (0, (Int32.ofInt n).toInt) clampI).1, S.2.1.set k (iT (tAdd S.1 a.2.1 (0, (Int32.ofInt n).toInt) clampI).2), S.2.2.1, S.2.2.2)] else none | none => none)
  | .iadd => (match S.2.2.1 with | b :: a :: st => if a.1 = 1 ∧ b.1 = 1 then some [(pc + 1, (tAdd S.1 a.2.1 b.2.1 clampI).1, S.2.1, iT (tAdd S.1 a.2.1 b.2.1 clampI).2 :: st, S.2.2.2)] else none | _ => none)
  | .isub => (match S.2.2.1 with | b :: a :: st => if a.1 = 1 ∧ b.1 = 1 then some [(pc + 1, (tSub S.1 a.2.1 b.2.1 clampI).1, S.2.1, iT (tSub S.1 a.2.1 b.2.1 clampI).2 :: st, S.2.2.2)] else none | _ => none)
  | .ladd => (match S.2.2.1 with | b :: a :: st => if a.1 = 2 ∧ b.1 = 2 then some [(pc + 1, (tAdd S.1 a.2.1 b.2.1 clampL).1, S.2.1, lT (tAdd S.1 a.2.1 b.2.1 clampL).2 :: st, S.2.2.2)] else none | _ => none)
  | .lsub => (match S.2.2.1 with | b :: a :: st => if a.1 = 2 ∧ b.1 = 2 then some [(pc + 1, (tSub S.1 a.2.1 b.2.1 clampL).1, S.2.1, lT (tSub S.1 a.2.1 b.2.1 clampL).2 :: st, S.2.2.2)] else none | _ => none)
  | .lcmp => (match S.2.2.1 with | b :: a :: st => if a.1 = 2 ∧ b.1 = 2 then some [(pc + 1, S.1, S.2.1, cT a.2.1 b.2.1 :: st, S.2.2.2)] else none | _ => none)
  | .i2l => (match S.2.2.1 with | a :: st => if a.1 = 1 then some [(pc + 1, S.1, S.2.1, lT a.2.1 :: st, S.2.2.2)] else none | _ => none)
  | .l2i => (match S.2.2.1 with | a :: st => if a.1 = 2 then (if rngOK (trg S.1 a.2.1) fI = true then some [(pc + 1, S.1, S.2.1, iT a.2.1 :: st, S.2.2.2)] else some [(pc + 1, pushI S st fI)]) else none | _ => none)
  | .dup => (match S.2.2.1 with | a :: st => if cat1 a = true then some [(pc + 1, S.1, S.2.1, a :: a :: st, S.2.2.2)] else none | _ => none)
  | .pop => (match S.2.2.1 with | a :: st => if cat1 a = true then some [(pc + 1, S.1, S.2.1, st, S.2.2.2)] else none | _ => none)
  | .dup2 => (match S.2.2.1 with | a :: b :: st => if cat1 a = true ∧ cat1 b = true then some [(pc + 1, S.1, S.2.1, a :: b :: a :: b :: st, S.2.2.2)] else none | _ => none)
  | .pop2 => (match S.2.2.1 with | a :: st => if a.1 = 2 then some [(pc + 1, S.1, S.2.1, st, S.2.2.2)] else none | _ => none)
  | .ifCond q off => (match S.2.2.1 with
    | a :: st => (match jump pc off with
      | some t => if a.1 = 1 then some (brs q S.1 a.2.1 (0, 0) t (pc + 3) S.2.1 st S.2.2.2) else if a.1 = 4 then some (brs q S.1 a.2.1 a.2.2.1 t (pc + 3) S.2.1 st S.2.2.2) else none
      | none => none)
    | _ => none)
  | .if_icmp q off => (match S.2.2.1 with
    | b :: a :: st => (match jump pc off with
      | some t => if a.1 = 1 ∧ b.1 = 1 then some (brs q S.1 a.2.1 b.2.1 t (pc + 3) S.2.1 st S.2.2.2) else none
      | none => none)
    | _ => none)
  | .goto off => aJump pc off S
  | .tableswitch dflt lo hi offs => (match S.2.2.1 with
    | a :: st => if a.1 = 1 then (match jump pc dflt with
      | some d => if (List.range offs.size).all (fun j => (jump pc (offs.getD j 0)).isSome) = true ∧ hi + 1 - lo ≤ (offs.size : Int) then
          some ((refn S.1 a.2.1 (-BIGI) (lo - 1)).toList.map (fun B => (d, B, S.2.1, st, S.2.2.2)) ++ ((refn S.1 a.2.1 (hi + 1) BIGI).toList.map (fun B => (d, B, S.2.1, st, S.2.2.2)) ++
            ((List.range offs.size).map (fun (j : Nat) => (refn S.1 a.2.1 (lo + (j : Int)) (lo + (j : Int))).toList.map (fun B => ((jump pc (offs.getD j 0)).getD 0, B, S.2.1, st, S.2.2.2)))).flatten))
        else none
      | none => none) else none
    | _ => none)
  | .lookupswitch dflt ps => (match S.2.2.1 with
    | a :: st => if a.1 = 1 ∧ (ps.toList.zip (ps.toList.drop 1)).all (fun (a, next) => a.1 < next.1) = true then (match jump pc dflt with
      | some d => if ps.toList.all (fun q => (jump pc q.2).isSome) = true then
          some ((if (tlo S.1 a.2.1 = thi S.1 a.2.1 ∧ ps.toList.any (fun q => decide (q.1 = tlo S.1 a.2.1)) = true) then [] else [(d, S.1, S.2.1, st, S.2.2.2)]) ++
            (ps.toList.map (fun q => (refn S.1 a.2.1 q.1 q.1).toList.map (fun B => ((jump pc q.2).getD 0, B, S.2.1, st, S.2.2.2)))).flatten)
        else none
      | none => none) else none
    | _ => none)
  | .getfield _ => (aGetF o S).map (fun S' => [(pc + 3, S')])
  | .putfield _ => (aPutF W o S).map (fun S' => [(pc + 3, S')])
  | .getstatic _ => (match o with
    | [0, _, _] => some [(pc + 3, S.1, S.2.1, rT [OLDB + 1] :: S.2.2.1, S.2.2.2)]
    | [1, _, _] => some [(pc + 3, S.1, S.2.1, rT [OLDB + 2] :: S.2.2.1, S.2.2.2)]
    | [2, _, _] => some [(pc + 3, S.1, S.2.1, iT (0, 1) :: S.2.2.1, S.2.2.2)]
    | [3, _, _] => some [(pc + 3, S.1, S.2.1, rT [OLDB + 13] :: S.2.2.1, S.2.2.2)]
    | _ => none)
  | .arraylength => (match S.2.2.1 with
    | a :: st => if a.1 = 3 ∧ a.2.2.2.isEmpty = false ∧ a.2.2.2.all (fun b => match aLen b with | some q => (decide (q.1 < 5) || decide (OLDB ≤ b)) && decide (q.2 ≤ 1000) | none => false) = true then
        some [(pc + 1, pushI S st (uni (a.2.2.2.map (fun b => match aLen b with | some q => ((q.2 : Int), (q.2 : Int)) | none => fI))))] else none
    | _ => none)
  | .iaload => (match S.2.2.1 with
    | j :: a :: st => if j.1 = 1 ∧ a.1 = 3 ∧ arrOK a.2.2.2 0 (trg S.1 j.2.1) = true then some [(pc + 1, pushI S st (uni (a.2.2.2.map aIv)))] else none
    | _ => none)
  | .baload => (match S.2.2.1 with
    | j :: a :: st => if j.1 = 1 ∧ a.1 = 3 ∧ (arrOK a.2.2.2 2 (trg S.1 j.2.1) = true ∧ a.2.2.2.all (fun b => decide (b < OLDB)) = true ∨ arrOK a.2.2.2 5 (trg S.1 j.2.1) = true ∧ a.2.2.2.all (fun b => decide (OLDB ≤ b)) = true) then some [(pc + 1, pushI S st (uni (a.2.2.2.map aIv)))] else none
    | _ => none)
  | .laload => (match S.2.2.1 with
    | j :: a :: st => if j.1 = 1 ∧ a.1 = 3 ∧ arrOK a.2.2.2 1 (trg S.1 j.2.1) = true ∧ a.2.2.2.all (fun b => decide (b < OLDB)) = true then some [(pc + 1, pushL S st fL)] else none
    | _ => none)
  | .aaload => (match S.2.2.1 with
    | j :: a :: st => if j.1 = 1 ∧ a.1 = 3 ∧ (arrOK a.2.2.2 3 (trg S.1 j.2.1) = true ∨ arrOK a.2.2.2 4 (trg S.1 j.2.1) = true) ∧ a.2.2.2.all (fun b => decide (b < OLDB) && (!(rst b 0).isEmpty && (rst b 0).all (fun z => decide (z < OLDB)))) = true then
        some [(pc + 1, S.1, S.2.1, rT ((a.2.2.2.map (fun b => rst b 0)).flatten) :: st, S.2.2.2)] else none
    | _ => none)
  | .iastore => (match S.2.2.1 with
    | x :: j :: a :: st => if x.1 = 1 ∧ j.1 = 1 ∧ a.1 = 3 ∧ arrOK a.2.2.2 0 (trg S.1 j.2.1) = true ∧ a.2.2.2.all (fun b => decide (b < OLDB) && inW W b 999 && rngOK (trg S.1 x.2.1) (ivl b 0)) = true then some [(pc + 1, S.1, S.2.1, st, S.2.2.2)] else none
    | _ => none)
  | .bastore => (match S.2.2.1 with
    | x :: j :: a :: st => if x.1 = 1 ∧ j.1 = 1 ∧ a.1 = 3 ∧ rngOK (trg S.1 x.2.1) (0, 1) = true ∧ arrOK a.2.2.2 2 (trg S.1 j.2.1) = true ∧ a.2.2.2.all (fun b => decide (b < OLDB) && inW W b 999 && rngOK (trg S.1 x.2.1) (ivl b 0)) = true then some [(pc + 1, S.1, S.2.1, st, S.2.2.2)] else none
    | _ => none)
  | .lastore => (match S.2.2.1 with
    | x :: j :: a :: st => if x.1 = 2 ∧ j.1 = 1 ∧ a.1 = 3 ∧ arrOK a.2.2.2 1 (trg S.1 j.2.1) = true ∧ a.2.2.2.all (fun b => decide (b < OLDB) && inW W b 999) = true then some [(pc + 1, S.1, S.2.1, st, S.2.2.2)] else none
    | _ => none)
  | .invokestatic _ => (match o with
    | [9998, _, _, _, _] => (aCopy W S).map (fun S' => [(pc + 3, S')])
    | _ => none)
  | i => (match S.2.2.1 with
    | b :: a :: st => if a.1 = 1 ∧ b.1 = 1 then (match aBin i (trg S.1 a.2.1) (trg S.1 b.2.1) with
        | some r => some [(pc + 1, pushI S st r)]
        | none => (match aUn i with | some r => some [(pc + 1, pushI S (a :: st) r)] | none => none))
      else if a.1 = 2 ∧ b.1 = 2 ∧ aBinL i = true then some [(pc + 1, pushL S st fL)]
      else if a.1 = 2 ∧ b.1 = 1 ∧ aSh i = true then some [(pc + 1, pushL S st fL)]
      else if b.1 = 1 then (match aUn i with | some r => some [(pc + 1, pushI S (a :: st) r)] | none => none) else none
    | b :: st => if b.1 = 1 then (match aUn i with | some r => some [(pc + 1, pushI S st r)] | none => none) else none
    | _ => none)
end JN31adefs
section JN32anum
/-! Numbers of 32 and 64 bits within bounds. -/
theorem bm32 {z : Int} (h1 : -2147483648 ≤ z) (h2 : z ≤ 2147483647) : z.bmod (2 ^ 32) = z := by
  apply Int.bmod_eq_of_le <;> omega
theorem bm64 {z : Int} (h1 : -9223372036854775808 ≤ z) (h2 : z ≤ 9223372036854775807) : z.bmod (2 ^ 64) = z := by
  apply Int.bmod_eq_of_le <;> omega
theorem i32r (x : Int32) : fI.1 ≤ x.toInt ∧ x.toInt ≤ fI.2 := by
  have h1 := x.le_toInt
  have h2 := x.toInt_lt
  constructor
  · show (-2147483648 : Int) ≤ _; omega
  · show _ ≤ (2147483647 : Int); omega
theorem i64r (x : Int64) : fL.1 ≤ x.toInt ∧ x.toInt ≤ fL.2 := by
  have h1 := x.le_toInt
  have h2 := x.toInt_lt
  constructor
  · show (-9223372036854775808 : Int) ≤ _; omega
  · show _ ≤ (9223372036854775807 : Int); omega
theorem i_add {x y : Int32} (h1 : -2147483648 ≤ x.toInt + y.toInt) (h2 : x.toInt + y.toInt ≤ 2147483647) : (x + y).toInt = x.toInt + y.toInt := by
  rw [Int32.toInt_add]; exact bm32 h1 h2
theorem i_sub {x y : Int32} (h1 : -2147483648 ≤ x.toInt - y.toInt) (h2 : x.toInt - y.toInt ≤ 2147483647) : (x - y).toInt = x.toInt - y.toInt := by
  rw [Int32.toInt_sub]; exact bm32 h1 h2
theorem i_mul {x y : Int32} (h1 : -2147483648 ≤ x.toInt * y.toInt) (h2 : x.toInt * y.toInt ≤ 2147483647) : (x * y).toInt = x.toInt * y.toInt := by
  rw [Int32.toInt_mul]; exact bm32 h1 h2
theorem l_add {x y : Int64} (h1 : -9223372036854775808 ≤ x.toInt + y.toInt) (h2 : x.toInt + y.toInt ≤ 9223372036854775807) : (x + y).toInt = x.toInt + y.toInt := by
  rw [Int64.toInt_add]; exact bm64 h1 h2
theorem l_sub {x y : Int64} (h1 : -9223372036854775808 ≤ x.toInt - y.toInt) (h2 : x.toInt - y.toInt ≤ 9223372036854775807) : (x - y).toInt = x.toInt - y.toInt := by
  rw [Int64.toInt_sub]; exact bm64 h1 h2
theorem bn (x : Int32) : x.toInt = if 2 * x.toBitVec.toNat < 2 ^ 32 then (x.toBitVec.toNat : Int) else (x.toBitVec.toNat : Int) - ((2 ^ 32 : Nat) : Int) := BitVec.toInt_eq_toNat_cond _
theorem bn_of {x : Int32} (h : 0 ≤ x.toInt) : (x.toBitVec.toNat : Int) = x.toInt ∧ x.toBitVec.toNat < 2 ^ 31 := by
  have h1 := bn x
  have h2 := x.toBitVec.isLt
  split at h1
  · omega
  · omega
theorem bn_to {x : Int32} (h : x.toBitVec.toNat < 2 ^ 31) : x.toInt = (x.toBitVec.toNat : Int) := by
  have h1 := bn x
  split at h1
  · exact h1
  · omega
theorem i_and1 {x y : Int32} (h : 0 ≤ x.toInt) : 0 ≤ (x &&& y).toInt ∧ (x &&& y).toInt ≤ x.toInt := by
  obtain ⟨h1, h2⟩ := bn_of h
  have h3 : (x &&& y).toBitVec.toNat = x.toBitVec.toNat &&& y.toBitVec.toNat := rfl
  have h4 : (x &&& y).toBitVec.toNat ≤ x.toBitVec.toNat := by rw [h3]; exact Nat.and_le_left
  have h5 := bn_to (x := x &&& y) (by omega)
  omega
theorem i_and2 {x y : Int32} (h : 0 ≤ y.toInt) : 0 ≤ (x &&& y).toInt ∧ (x &&& y).toInt ≤ y.toInt := by
  obtain ⟨h1, h2⟩ := bn_of h
  have h3 : (x &&& y).toBitVec.toNat = x.toBitVec.toNat &&& y.toBitVec.toNat := rfl
  have h4 : (x &&& y).toBitVec.toNat ≤ y.toBitVec.toNat := by rw [h3]; exact Nat.and_le_right
  have h5 := bn_to (x := x &&& y) (by omega)
  omega
theorem i_or {x y : Int32} {m : Int} (h1 : 0 ≤ x.toInt) (h2 : 0 ≤ y.toInt) (h3 : x.toInt ≤ m) (h4 : y.toInt ≤ m) (h5 : m ≤ 2147483647) : 0 ≤ (x ||| y).toInt ∧ (x ||| y).toInt ≤ 2 ^ (m.toNat.log2 + 1) - 1 := by
  obtain ⟨a1, a2⟩ := bn_of h1
  obtain ⟨b1, b2⟩ := bn_of h2
  have c1 : (x ||| y).toBitVec.toNat = x.toBitVec.toNat ||| y.toBitVec.toNat := rfl
  have e1 : m.toNat < 2 ^ (m.toNat.log2 + 1) := Nat.lt_log2_self
  have c2 : x.toBitVec.toNat ||| y.toBitVec.toNat < 2 ^ (m.toNat.log2 + 1) := Nat.or_lt_two_pow (by omega) (by omega)
  have c3 : x.toBitVec.toNat ||| y.toBitVec.toNat < 2 ^ 31 := Nat.or_lt_two_pow a2 b2
  have c4 := bn_to (x := x ||| y) (by omega)
  have c5 : ((2 ^ (m.toNat.log2 + 1) : Nat) : Int) = (2 : Int) ^ (m.toNat.log2 + 1) := by simp
  rw [c4, c1]
  constructor
  · omega
  · rw [← c5]; omega
theorem i_div {x y : Int32} (h1 : 0 ≤ x.toInt) (h2 : 0 < y.toInt) : 0 ≤ (x / y).toInt ∧ (x / y).toInt ≤ x.toInt := by
  have h3 := i32r x
  have e : (x / y).toInt = x.toInt.tdiv y.toInt := by
    rw [Int32.toInt_div]
    have q1 : 0 ≤ x.toInt.tdiv y.toInt := Int.tdiv_nonneg h1 (by omega)
    have q2 : x.toInt.tdiv y.toInt ≤ x.toInt := Int.tdiv_le_self _ h1
    exact bm32 (by omega) (by have := h3.2; simp only [fI] at this; omega)
  rw [e]
  exact ⟨Int.tdiv_nonneg h1 (by omega), Int.tdiv_le_self _ h1⟩
theorem i_rem {x y : Int32} (h2 : 0 < y.toInt) : (x - x / y * y).toInt = x.toInt.tmod y.toInt := by
  have h3 := i32r x
  have h4 := i32r y
  simp only [fI] at h3 h4
  have hm : x.toInt.tmod y.toInt + y.toInt * x.toInt.tdiv y.toInt = x.toInt := Int.tmod_add_mul_tdiv _ _
  have hl : x.toInt.tmod y.toInt < y.toInt := Int.tmod_lt_of_pos _ h2
  have hg : -y.toInt < x.toInt.tmod y.toInt := by
    rcases Int.lt_or_le x.toInt 0 with h | h
    · have := Int.tmod_lt_of_pos (-x.toInt) h2
      rw [Int.neg_tmod] at this
      omega
    · have := Int.tmod_nonneg y.toInt h
      omega
  have hd : (x / y).toInt = x.toInt.tdiv y.toInt := by
    rw [Int32.toInt_div]
    rcases Int.lt_or_le x.toInt 0 with h | h
    · have q1 : 0 ≤ (-x.toInt).tdiv y.toInt := Int.tdiv_nonneg (by omega) (by omega)
      have q2 : (-x.toInt).tdiv y.toInt ≤ -x.toInt := Int.tdiv_le_self _ (by omega)
      rw [Int.neg_tdiv] at q1 q2
      exact bm32 (by omega) (by omega)
    · have q1 : 0 ≤ x.toInt.tdiv y.toInt := Int.tdiv_nonneg h (by omega)
      have q2 : x.toInt.tdiv y.toInt ≤ x.toInt := Int.tdiv_le_self _ h
      exact bm32 (by omega) (by omega)
  have hsg : (x.toInt.tmod y.toInt = 0) ∨ (0 ≤ x.toInt ∧ 0 ≤ x.toInt.tmod y.toInt) ∨ (x.toInt ≤ 0 ∧ x.toInt.tmod y.toInt ≤ 0) := by
    rcases Int.lt_or_le x.toInt 0 with h | h
    · right; right
      refine ⟨by omega, ?_⟩
      have := Int.tmod_nonneg y.toInt (show 0 ≤ -x.toInt by omega)
      rw [Int.neg_tmod] at this
      omega
    · right; left
      exact ⟨h, Int.tmod_nonneg _ h⟩
  have hmu : (x / y * y).toInt = x.toInt.tdiv y.toInt * y.toInt := by
    rw [i_mul (by rw [hd, Int.mul_comm]; omega) (by rw [hd, Int.mul_comm]; omega), hd]
  rw [i_sub (by rw [hmu, Int.mul_comm]; omega) (by rw [hmu, Int.mul_comm]; omega), hmu, Int.mul_comm]
  omega
theorem i_shr {x y : Int32} (h : 0 ≤ x.toInt) : 0 ≤ (x >>> (y &&& 31)).toInt ∧ (x >>> (y &&& 31)).toInt ≤ x.toInt := by
  have e : ∃ k : Nat, (x >>> (y &&& 31)).toInt = x.toInt >>> k := ⟨_, BitVec.toInt_sshiftRight'⟩
  obtain ⟨k, e⟩ := e
  rw [e, Int.shiftRight_eq_div_pow]
  constructor
  · exact Int.ediv_nonneg h (by exact_mod_cast Nat.zero_le _)
  · exact Int.ediv_le_self _ h
theorem i_shl {y : Int32} (h1 : 0 ≤ y.toInt) (h2 : y.toInt ≤ 30) : ((1 : Int32) <<< (y &&& 31)).toInt = 2 ^ y.toInt.toNat := by
  have key : ∀ n : Nat, n ≤ 30 → ((1 : Int32) <<< ((Int32.ofNat n) &&& 31)).toInt = 2 ^ n := by decide
  have hy : y = Int32.ofNat y.toInt.toNat := by
    apply Int32.toInt.inj
    rw [Int32.toInt_ofNat_of_lt (by omega)]
    omega
  have := key y.toInt.toNat (by omega)
  rw [← hy] at this
  exact this
end JN32anum
section JN33abase
/-! Matching of symbolic states; bounds drawn in. -/
def al2 (P : AV → Value → Prop) : List AV → List Value → Prop
  | [], [] => True
  | a :: l, v :: m => P a v ∧ al2 P l m
  | _, _ => False
theorem al2_len {P : AV → Value → Prop} : ∀ {l : List AV} {m : List Value}, al2 P l m → l.length = m.length
  | [], [], _ => rfl
  | a :: l, v :: m, h => by
    have := al2_len h.2
    simp [this]
  | [], _ :: _, h => h.elim
  | _ :: _, [], h => h.elim
theorem al2_get {P : AV → Value → Prop} : ∀ {l : List AV} {m : List Value}, al2 P l m → ∀ {k : Nat} {a : AV}, l[k]? = some a → ∃ v, m[k]? = some v ∧ P a v
  | a :: l, v :: m, h, 0, a', e => by cases e; exact ⟨v, rfl, h.1⟩
  | a :: l, v :: m, h, k + 1, a', e => al2_get (l := l) (m := m) h.2 (k := k) (by simpa using e)
  | [], [], _, _, _, e => by cases e
  | [], _ :: _, h, _, _, _ => h.elim
  | _ :: _, [], h, _, _, _ => h.elim
theorem al2_set {P : AV → Value → Prop} : ∀ {l : List AV} {m : List Value}, al2 P l m → ∀ {k : Nat} {a : AV} {v : Value}, P a v → al2 P (l.set k a) (m.set k v)
  | a :: l, v :: m, h, 0, _, _, e => ⟨e, h.2⟩
  | a :: l, v :: m, h, k + 1, _, _, e => ⟨h.1, al2_set (l := l) (m := m) h.2 e⟩
  | [], [], _, _, _, _, _ => trivial
  | [], _ :: _, h, _, _, _, _ => h.elim
  | _ :: _, [], h, _, _, _, _ => h.elim
theorem al2_mono {P Q : AV → Value → Prop} (hPQ : ∀ a v, P a v → Q a v) : ∀ {l : List AV} {m : List Value}, al2 P l m → al2 Q l m
  | [], [], _ => trivial
  | a :: l, v :: m, h => ⟨hPQ _ _ h.1, al2_mono hPQ h.2⟩
  | [], _ :: _, h => h.elim
  | _ :: _, [], h => h.elim
def ext (n : Nat) (ρ ρ' : Nat → Int) : Prop := ∀ v, v < n → ρ' v = ρ v
theorem ext_refl {n : Nat} {ρ : Nat → Int} : ext n ρ ρ := fun _ _ => rfl
theorem ext_trans {n m : Nat} {ρ ρ' ρ'' : Nat → Int} (hnm : n ≤ m) (h1 : ext n ρ ρ') (h2 : ext m ρ' ρ'') : ext n ρ ρ'' := fun v hv => (h2 v (Nat.lt_of_lt_of_le hv hnm)).trans (h1 v hv)
theorem tOK_ext {n m : Nat} {ρ ρ' : Nat → Int} {t : Tm} {x : Int} (hnm : n ≤ m) (he : ext n ρ ρ') (h : tOK n ρ t x) : tOK m ρ' t x := by
  obtain ⟨h1, h2⟩ := h
  refine ⟨Nat.le_trans h1 hnm, ?_⟩
  rw [h2]
  obtain ⟨v, c⟩ := t
  cases v with
  | zero => rfl
  | succ v => show ρ v + c = ρ' v + c; rw [he v h1]
theorem vm_ext {n m : Nat} {ρ ρ' : Nat → Int} {a : AV} {v : Value} (hnm : n ≤ m) (he : ext n ρ ρ') (h : vm n ρ a v) : vm m ρ' a v := by
  obtain ⟨k, t, u, l⟩ := a
  match k, h with
  | 0, h => exact h
  | 1, ⟨x, e, h⟩ => exact ⟨x, e, tOK_ext hnm he h⟩
  | 2, ⟨x, e, h⟩ => exact ⟨x, e, tOK_ext hnm he h⟩
  | 3, h => exact h
  | 4, ⟨x, y, e, h, h'⟩ => exact ⟨x, y, e, tOK_ext hnm he h, tOK_ext hnm he h'⟩
  | _ + 5, _ => trivial
def gam (ρ : Nat → Int) (S : AS) (L st : List Value) (h : Hp) : Prop := bOK ρ S.1 ∧ al2 (vm S.1.length ρ) S.2.1 L ∧ al2 (vm S.1.length ρ) S.2.2.1 st ∧ ∀ q ∈ S.2.2.2, tOK S.1.length ρ q.2.2 (h.2.1 q.1 q.2.1).toInt ∧ ∃ ci, SHl[q.1]? = some (.inr ci)
theorem gam_ext {ρ ρ' : Nat → Int} {B B' : Bd} {AL Ast : List AV} {F : List (Nat × Nat × Tm)} {L st : List Value} {h : Hp} (g : gam ρ (B, AL, Ast, F) L st h) (hb : bOK ρ' B') (hl : B.length ≤ B'.length) (he : ext B.length ρ ρ') : gam ρ' (B', AL, Ast, F) L st h :=
  ⟨hb, al2_mono (fun _ _ => vm_ext hl he) g.2.1, al2_mono (fun _ _ => vm_ext hl he) g.2.2.1, fun q hq => ⟨tOK_ext hl he (g.2.2.2 q hq).1, (g.2.2.2 q hq).2⟩⟩
theorem tOK_rg {ρ : Nat → Int} {B : Bd} {t : Tm} {x : Int} (hb : bOK ρ B) (h : tOK B.length ρ t x) : tlo B t ≤ x ∧ x ≤ thi B t := by
  obtain ⟨h1, h2⟩ := h
  obtain ⟨v, c⟩ := t
  cases v with
  | zero =>
    have h2 : x = 0 + c := h2
    exact ⟨by show (0 : Int) + c ≤ x; omega, by show x ≤ (0 : Int) + c; omega⟩
  | succ v =>
    have h1 : v < B.length := h1
    have h2 : x = ρ v + c := h2
    have h3 := hb v B[v] (List.getElem?_eq_getElem h1)
    have h4 : bd B (v + 1) = B[v] := by show B.getD v (0, 0) = _; rw [List.getD_eq_getElem?_getD, List.getElem?_eq_getElem h1]; rfl
    constructor
    · show (bd B (v + 1)).1 + c ≤ x; rw [h4]; omega
    · show x ≤ (bd B (v + 1)).2 + c; rw [h4]; omega
theorem tOK_c {n : Nat} {ρ : Nat → Int} (c : Int) : tOK n ρ (0, c) c := ⟨Nat.zero_le _, by show c = 0 + c; omega⟩
theorem frT_ok {ρ : Nat → Int} {B : Bd} {r : Int × Int} {x : Int} (hb : bOK ρ B) (h1 : r.1 ≤ x) (h2 : x ≤ r.2) : ∃ ρ', ext B.length ρ ρ' ∧ bOK ρ' (frT B r).1 ∧ tOK (frT B r).1.length ρ' (frT B r).2 x ∧ B.length ≤ (frT B r).1.length := by
  unfold frT
  by_cases hr : r.1 = r.2
  · rw [if_pos hr]
    refine ⟨ρ, ext_refl, hb, ?_, Nat.le_refl _⟩
    have : x = r.1 := by omega
    rw [this]
    exact tOK_c _
  · rw [if_neg hr]
    refine ⟨fun v => if v = B.length then x else ρ v, fun v hv => if_neg (Nat.ne_of_lt hv), ?_, ?_, by simp⟩
    · intro v q hq
      by_cases hv : v = B.length
      · subst hv
        have hq : (B ++ [r])[B.length]? = some q := hq
        rw [List.getElem?_append_right (Nat.le_refl _), Nat.sub_self] at hq
        cases hq
        show r.1 ≤ (if B.length = B.length then x else ρ B.length) ∧ (if B.length = B.length then x else ρ B.length) ≤ r.2
        rw [if_pos rfl]
        exact ⟨h1, h2⟩
      · have hl : v < B.length := by
          have := (List.getElem?_eq_some_iff.mp hq).1
          simp at this
          omega
        have hq : (B ++ [r])[v]? = some q := hq
        rw [List.getElem?_append_left hl] at hq
        show q.1 ≤ (if v = B.length then x else ρ v) ∧ (if v = B.length then x else ρ v) ≤ q.2
        rw [if_neg hv]
        exact hb v q hq
    · refine ⟨by simp, ?_⟩
      show x = (if B.length = B.length then x else ρ B.length) + 0
      rw [if_pos rfl]
      omega
theorem refn_ok {ρ : Nat → Int} {B : Bd} {t : Tm} {x lo hi : Int} (hb : bOK ρ B) (ht : tOK B.length ρ t x) (h1 : lo ≤ x) (h2 : x ≤ hi) : ∃ B', refn B t lo hi = some B' ∧ bOK ρ B' ∧ B'.length = B.length := by
  obtain ⟨k1, k2⟩ := ht
  obtain ⟨v, c⟩ := t
  cases v with
  | zero =>
    have k2 : x = 0 + c := k2
    exact ⟨B, by show (if lo ≤ c ∧ c ≤ hi then some B else none) = some B; rw [if_pos (by omega)], hb, rfl⟩
  | succ v =>
    have k1 : v < B.length := k1
    have k2 : x = ρ v + c := k2
    have h4 : B[v]? = some B[v] := List.getElem?_eq_getElem k1
    obtain ⟨g1, g2⟩ := hb v B[v] h4
    refine ⟨B.set v (max B[v].1 (lo - c), min B[v].2 (hi - c)), ?_, ?_, by simp⟩
    · unfold refn
      simp only [h4]
      rw [if_pos (by omega)]
    · intro w q hq
      by_cases hw : w = v
      · subst hw
        rw [List.getElem?_set_self k1] at hq
        cases hq
        constructor
        · show max B[w].1 (lo - c) ≤ ρ w; omega
        · show ρ w ≤ min B[w].2 (hi - c); omega
      · rw [List.getElem?_set_ne (Ne.symm hw)] at hq
        exact hb w q hq
def okB (ρ : Nat → Int) (B : Bd) (o : Option Bd) : Prop := ∃ B', o = some B' ∧ bOK ρ B' ∧ B'.length = B.length
theorem two_ok {ρ : Nat → Int} {B : Bd} {t u : Tm} {x y : Int} {l1 h1 : Int} {l2 h2 : Bd → Int} (hb : bOK ρ B) (ht : tOK B.length ρ t x) (hu : tOK B.length ρ u y) (a1 : l1 ≤ x) (a2 : x ≤ h1) (a3 : ∀ B', bOK ρ B' → B'.length = B.length → l2 B' ≤ y ∧ y ≤ h2 B') :
    okB ρ B (match refn B t l1 h1 with | some B' => refn B' u (l2 B') (h2 B') | none => none) := by
  obtain ⟨B1, e1, b1, n1⟩ := refn_ok hb ht a1 a2
  rw [e1]
  obtain ⟨c1, c2⟩ := a3 B1 b1 n1
  obtain ⟨B2, e2, b2, n2⟩ := refn_ok b1 (by rw [n1]; exact hu) c1 c2
  exact ⟨B2, e2, b2, n2.trans n1⟩
def smI (x : Int) : Prop := -BIGI ≤ x ∧ x ≤ BIGI
theorem lt2_ok {ρ : Nat → Int} {B : Bd} {t u : Tm} {x y : Int} (hb : bOK ρ B) (ht : tOK B.length ρ t x) (hu : tOK B.length ρ u y) (sx : smI x) (sy : smI y) (h : x < y) : okB ρ B (lt2 B t u) :=
  two_ok (l2 := fun B' => tlo B' t + 1) (h2 := fun _ => BIGI) hb ht hu sx.1 (by have := (tOK_rg hb hu).2; omega) (fun B' b' n' => ⟨by have := (tOK_rg b' (by rw [n']; exact ht)).1; show tlo B' t + 1 ≤ y; omega, sy.2⟩)
theorem le2_ok {ρ : Nat → Int} {B : Bd} {t u : Tm} {x y : Int} (hb : bOK ρ B) (ht : tOK B.length ρ t x) (hu : tOK B.length ρ u y) (sx : smI x) (sy : smI y) (h : x ≤ y) : okB ρ B (le2 B t u) :=
  two_ok (l2 := fun B' => tlo B' t) (h2 := fun _ => BIGI) hb ht hu sx.1 (by have := (tOK_rg hb hu).2; omega) (fun B' b' n' => ⟨by have := (tOK_rg b' (by rw [n']; exact ht)).1; show tlo B' t ≤ y; omega, sy.2⟩)
theorem eq2_ok {ρ : Nat → Int} {B : Bd} {t u : Tm} {x y : Int} (hb : bOK ρ B) (ht : tOK B.length ρ t x) (hu : tOK B.length ρ u y) (h : x = y) : okB ρ B (eq2 B t u) :=
  two_ok (l2 := fun B' => tlo B' t) (h2 := fun B' => thi B' t) hb ht hu (by have := (tOK_rg hb hu).1; omega) (by have := (tOK_rg hb hu).2; omega) (fun B' b' n' => by have := tOK_rg b' (show tOK B'.length ρ t x by rw [n']; exact ht); exact ⟨by omega, by omega⟩)
def inB2 (ρ : Nat → Int) (B : Bd) (l : List Bd) : Prop := ∃ B' ∈ l, bOK ρ B' ∧ B'.length = B.length
theorem okB.inB2 {ρ : Nat → Int} {B : Bd} {o : Option Bd} (h : okB ρ B o) : inB2 ρ B o.toList := by
  obtain ⟨B', e, h⟩ := h
  subst e
  exact ⟨B', by simp, h⟩
theorem ne2_ok {ρ : Nat → Int} {B : Bd} {t u : Tm} {x y : Int} (hb : bOK ρ B) (ht : tOK B.length ρ t x) (hu : tOK B.length ρ u y) (sx : smI x) (sy : smI y) (h : ¬ x = y) : inB2 ρ B (ne2 B t u) := by
  unfold ne2
  split
  · split
    · rcases Int.lt_or_gt_of_ne h with h | h
      · obtain ⟨B', m, r⟩ := (lt2_ok hb ht hu sx sy h).inB2
        exact ⟨B', List.mem_append_left _ m, r⟩
      · obtain ⟨B', m, r⟩ := (lt2_ok hb hu ht sy sx h).inB2
        exact ⟨B', List.mem_append_right _ m, r⟩
    · exact ⟨B, by simp, hb, rfl⟩
  · exact ⟨B, by simp, hb, rfl⟩
theorem cnd2_ok {ρ : Nat → Int} {B : Bd} {t u : Tm} {x y : Int} {q : Jvm.ClassFile.Cond} (hb : bOK ρ B) (ht : tOK B.length ρ t x) (hu : tOK B.length ρ u y) (sx : smI x) (sy : smI y) (h : cndI q x y = true) : inB2 ρ B (cnd2 q B t u) := by
  cases q <;> have h := of_decide_eq_true h
  · exact (eq2_ok hb ht hu h).inB2
  · exact ne2_ok hb ht hu sx sy h
  · exact (lt2_ok hb ht hu sx sy h).inB2
  · exact (le2_ok hb hu ht sy sx h).inB2
  · exact (lt2_ok hb hu ht sy sx h).inB2
  · exact (le2_ok hb ht hu sx sy h).inB2
theorem cndI_ngc {q : Jvm.ClassFile.Cond} {x y : Int} (h : cndI q x y = false) : cndI (ngc q) x y = true := by
  cases q <;> have h := of_decide_eq_false h <;> refine decide_eq_true ?_ <;> omega
theorem brs_ok {ρ : Nat → Int} {B : Bd} {t u : Tm} {x y : Int} {q : Jvm.ClassFile.Cond} {tgt nxt : Nat} {L st : List AV} {F : List (Nat × Nat × Tm)} (hb : bOK ρ B) (ht : tOK B.length ρ t x) (hu : tOK B.length ρ u y) (sx : smI x) (sy : smI y) :
    ∃ B', ((if cndI q x y = true then tgt else nxt), B', L, st, F) ∈ brs q B t u tgt nxt L st F ∧ bOK ρ B' ∧ B'.length = B.length := by
  unfold brs
  by_cases h : cndI q x y = true
  · rw [if_pos h]
    obtain ⟨B', m, r⟩ := cnd2_ok hb ht hu sx sy h
    exact ⟨B', List.mem_append_left _ (List.mem_map.mpr ⟨B', m, rfl⟩), r⟩
  · rw [if_neg h]
    obtain ⟨B', m, r⟩ := cnd2_ok hb ht hu sx sy (cndI_ngc (by simpa using h))
    exact ⟨B', List.mem_append_right _ (List.mem_map.mpr ⟨B', m, rfl⟩), r⟩
theorem clampI_ok {r : Int × Int} {z : Int} (x : Int32) (h : clampI r = r → x.toInt = z) (h1 : r.1 ≤ z) (h2 : z ≤ r.2) : (clampI r).1 ≤ x.toInt ∧ x.toInt ≤ (clampI r).2 := by
  by_cases hc : -2147483648 ≤ r.1 ∧ r.2 ≤ 2147483647
  · have e : clampI r = r := if_pos hc
    rw [e, h e]
    exact ⟨h1, h2⟩
  · have e : clampI r = fI := if_neg hc
    rw [e]
    exact i32r x
theorem clampI_in {r : Int × Int} (h : clampI r = r) : -2147483648 ≤ r.1 ∧ r.2 ≤ 2147483647 := by
  by_cases hc : -2147483648 ≤ r.1 ∧ r.2 ≤ 2147483647
  · exact hc
  · have e : clampI r = fI := if_neg hc
    rw [← h, e]
    exact ⟨Int.le_refl _, Int.le_refl _⟩
theorem clampL_in {r : Int × Int} (h : clampL r = r) : -9223372036854775808 ≤ r.1 ∧ r.2 ≤ 9223372036854775807 := by
  by_cases hc : -9223372036854775808 ≤ r.1 ∧ r.2 ≤ 9223372036854775807
  · exact hc
  · have e : clampL r = fL := if_neg hc
    rw [← h, e]
    exact ⟨Int.le_refl _, Int.le_refl _⟩
theorem clampI_no {r : Int × Int} (h : ¬ clampI r = r) : clampI r = fI := by
  by_cases hc : -2147483648 ≤ r.1 ∧ r.2 ≤ 2147483647
  · exact absurd (if_pos hc) h
  · exact if_neg hc
theorem clampL_no {r : Int × Int} (h : ¬ clampL r = r) : clampL r = fL := by
  by_cases hc : -9223372036854775808 ≤ r.1 ∧ r.2 ≤ 9223372036854775807
  · exact absurd (if_pos hc) h
  · exact if_neg hc
/-- a sum: z is what the machine gives, in bounds it is the sum -/
theorem tAdd_ok {ρ : Nat → Int} {B : Bd} {t u : Tm} {x y z : Int} {c : (Int × Int) → (Int × Int)} (hb : bOK ρ B) (ht : tOK B.length ρ t x) (hu : tOK B.length ρ u y) (hz : c (tlo B t + tlo B u, thi B t + thi B u) = (tlo B t + tlo B u, thi B t + thi B u) → z = x + y)
    (hf : ¬ c (tlo B t + tlo B u, thi B t + thi B u) = (tlo B t + tlo B u, thi B t + thi B u) → (c (tlo B t + tlo B u, thi B t + thi B u)).1 ≤ z ∧ z ≤ (c (tlo B t + tlo B u, thi B t + thi B u)).2) :
    ∃ ρ', ext B.length ρ ρ' ∧ bOK ρ' (tAdd B t u c).1 ∧ tOK (tAdd B t u c).1.length ρ' (tAdd B t u c).2 z ∧ B.length ≤ (tAdd B t u c).1.length := by
  unfold tAdd
  have r1 := tOK_rg hb ht
  have r2 := tOK_rg hb hu
  by_cases hc : c (tlo B t + tlo B u, thi B t + thi B u) = (tlo B t + tlo B u, thi B t + thi B u)
  · rw [if_pos hc]
    have hz := hz hc
    obtain ⟨t1, t2⟩ := t
    obtain ⟨u1, u2⟩ := u
    by_cases h1 : u1 = 0
    · subst h1
      rw [if_pos rfl]
      have hu2 : y = 0 + u2 := hu.2
      have ht2 : x = rv ρ t1 + t2 := ht.2
      exact ⟨ρ, ext_refl, hb, ⟨ht.1, by show z = rv ρ t1 + (t2 + u2); omega⟩, Nat.le_refl _⟩
    · rw [if_neg h1]
      by_cases h2 : t1 = 0
      · subst h2
        rw [if_pos rfl]
        have hu2 : y = rv ρ u1 + u2 := hu.2
        have ht2 : x = 0 + t2 := ht.2
        exact ⟨ρ, ext_refl, hb, ⟨hu.1, by show z = rv ρ u1 + (u2 + t2); omega⟩, Nat.le_refl _⟩
      · rw [if_neg h2]
        exact frT_ok hb (show tlo B (t1, t2) + tlo B (u1, u2) ≤ z by omega) (show z ≤ thi B (t1, t2) + thi B (u1, u2) by omega)
  · rw [if_neg hc]
    obtain ⟨f1, f2⟩ := hf hc
    exact frT_ok hb f1 f2
theorem tSub_ok {ρ : Nat → Int} {B : Bd} {t u : Tm} {x y z : Int} {c : (Int × Int) → (Int × Int)} (hb : bOK ρ B) (ht : tOK B.length ρ t x) (hu : tOK B.length ρ u y) (hz : c (tlo B t - thi B u, thi B t - tlo B u) = (tlo B t - thi B u, thi B t - tlo B u) → z = x - y)
    (hf : ¬ c (tlo B t - thi B u, thi B t - tlo B u) = (tlo B t - thi B u, thi B t - tlo B u) → (c (tlo B t - thi B u, thi B t - tlo B u)).1 ≤ z ∧ z ≤ (c (tlo B t - thi B u, thi B t - tlo B u)).2) :
    ∃ ρ', ext B.length ρ ρ' ∧ bOK ρ' (tSub B t u c).1 ∧ tOK (tSub B t u c).1.length ρ' (tSub B t u c).2 z ∧ B.length ≤ (tSub B t u c).1.length := by
  unfold tSub
  have r1 := tOK_rg hb ht
  have r2 := tOK_rg hb hu
  by_cases hc : c (tlo B t - thi B u, thi B t - tlo B u) = (tlo B t - thi B u, thi B t - tlo B u)
  · rw [if_pos hc]
    have hz := hz hc
    obtain ⟨t1, t2⟩ := t
    obtain ⟨u1, u2⟩ := u
    by_cases h1 : u1 = 0
    · subst h1
      rw [if_pos rfl]
      have hu2 : y = 0 + u2 := hu.2
      have ht2 : x = rv ρ t1 + t2 := ht.2
      exact ⟨ρ, ext_refl, hb, ⟨ht.1, by show z = rv ρ t1 + (t2 - u2); omega⟩, Nat.le_refl _⟩
    · rw [if_neg h1]
      exact frT_ok hb (show tlo B (t1, t2) - thi B (u1, u2) ≤ z by omega) (show z ≤ thi B (t1, t2) - tlo B (u1, u2) by omega)
  · rw [if_neg hc]
    obtain ⟨f1, f2⟩ := hf hc
    exact frT_ok hb f1 f2
theorem uni_ok : ∀ {l : List (Int × Int)} {q : Int × Int}, q ∈ l → (uni l).1 ≤ q.1 ∧ q.2 ≤ (uni l).2
  | [p], q, h => by
    cases List.mem_singleton.mp h
    exact ⟨Int.le_refl _, Int.le_refl _⟩
  | p :: p' :: l, q, h => by
    show min p.1 (uni (p' :: l)).1 ≤ q.1 ∧ q.2 ≤ max p.2 (uni (p' :: l)).2
    rcases List.mem_cons.mp h with rfl | h
    · omega
    · have := uni_ok h
      omega
theorem rng_ok {r s : Int × Int} {x : Int} (h : rngOK r s = true) (h1 : r.1 ≤ x) (h2 : x ≤ r.2) : s.1 ≤ x ∧ x ≤ s.2 := by
  obtain ⟨a, b⟩ := (Bool.and_eq_true _ _).mp h
  have a := of_decide_eq_true a
  have b := of_decide_eq_true b
  omega
end JN33abase
section JN34asound
/-! An instruction on locals, stack and numbers goes as the interval machine says. -/
def Suc (X : Scr) (W : List (Nat × Nat)) (i : Instr) (o : List Nat) (pc : Nat) (S : AS) (L st : List Value) (h : Hp) (ρ : Nat → Int) (l : List (Nat × AS)) : Prop :=
  ∃ (pc' : Nat) (S' : AS) (ρ' : Nat → Int) (L' st' : List Value) (h' : Hp), (pc', S') ∈ l ∧ hstep X i o pc L st h = some (pc', L', st', h') ∧ gam ρ' S' L' st' h' ∧ HI h' ∧ frm W h h' ∧ ext S.1.length ρ ρ' ∧ S.1.length ≤ S'.1.length ∧ L'.length = L.length
theorem frm_refl {W : List (Nat × Nat)} {h : Hp} : frm W h h := fun _ _ _ => ⟨rfl, rfl, rfl⟩
theorem vm1 {n : Nat} {ρ : Nat → Int} {a : AV} {v : Value} (ha : a.1 = 1) (h : vm n ρ a v) : ∃ x : Int32, v = .int x ∧ tOK n ρ a.2.1 x.toInt := by
  obtain ⟨k, t, u, l⟩ := a
  cases (show k = 1 from ha)
  exact h
theorem vm2 {n : Nat} {ρ : Nat → Int} {a : AV} {v : Value} (ha : a.1 = 2) (h : vm n ρ a v) : ∃ x : Int64, v = .long x ∧ tOK n ρ a.2.1 x.toInt := by
  obtain ⟨k, t, u, l⟩ := a
  cases (show k = 2 from ha)
  exact h
theorem vm3 {n : Nat} {ρ : Nat → Int} {a : AV} {v : Value} (ha : a.1 = 3) (h : vm n ρ a v) : ∃ b : Nat, v = .ref b ∧ b ∈ a.2.2.2 := by
  obtain ⟨k, t, u, l⟩ := a
  cases (show k = 3 from ha)
  exact h
theorem vm4 {n : Nat} {ρ : Nat → Int} {a : AV} {v : Value} (ha : a.1 = 4) (h : vm n ρ a v) : ∃ x y : Int64, v = .int (sgn x.toInt y.toInt) ∧ tOK n ρ a.2.1 x.toInt ∧ tOK n ρ a.2.2.1 y.toInt := by
  obtain ⟨k, t, u, l⟩ := a
  cases (show k = 4 from ha)
  exact h
theorem vm_cat {n : Nat} {ρ : Nat → Int} {a : AV} {v : Value} (ha : cat1 a = true) (h : vm n ρ a v) : v.category = 1 := by
  obtain ⟨k, t, u, l⟩ := a
  match k, h with
  | 0, h => exact h
  | 1, ⟨x, e, _⟩ => rw [e]; rfl
  | 2, _ => cases ha
  | 3, ⟨x, e, _⟩ => rw [e]; rfl
  | 4, ⟨x, y, e, _⟩ => rw [e]; rfl
  | k + 5, _ => simp [cat1] at ha
theorem aOk_ok {n : Nat} {ρ : Nat → Int} {AL : List AV} {L : List Value} (h : al2 (vm n ρ) AL L) : ∀ {k : Nat}, aOkSt AL k = true → okSt L k = true
  | 0, _ => rfl
  | k + 1, hk => by
    have hk : (match AL[k]? with | some a => cat1 a | none => false) = true := hk
    split at hk
    · rename_i a ha
      obtain ⟨v, e, hv⟩ := al2_get h ha
      show (match L[k]? with | some v => v.category == 1 | none => false) = true
      rw [e]
      simp [vm_cat hk hv]
    · cases hk
theorem sm32 (x : Int32) : smI x.toInt := by
  have := i32r x
  simp only [fI] at this
  unfold smI BIGI
  omega
theorem sm64 (x : Int64) : smI x.toInt := by
  have := i64r x
  simp only [fL] at this
  unfold smI BIGI
  omega
theorem sm0 : smI 0 := by unfold smI BIGI; omega
theorem condB_I {q : Jvm.ClassFile.Cond} {x y : Int32} : condB q x y = cndI q x.toInt y.toInt := by
  cases q <;> simp only [condB, cndI] <;> refine decide_eq_decide.mpr ?_
  · exact Int32.toInt_inj.symm
  · exact not_congr Int32.toInt_inj.symm
  · exact Int32.lt_iff_toInt_lt
  · exact Int32.le_iff_toInt_le
  · exact Int32.lt_iff_toInt_lt
  · exact Int32.le_iff_toInt_le
theorem condB_sgn {q : Jvm.ClassFile.Cond} {x y : Int} : condB q (sgn x y) 0 = cndI q x y := by
  unfold sgn
  rcases Int.lt_trichotomy x y with h | h | h
  · rw [if_pos h]
    cases q <;> first | exact (by decide : condB _ (-1) 0 = false).trans (decide_eq_false (by omega)).symm | exact (by decide : condB _ (-1) 0 = true).trans (decide_eq_true (by omega)).symm
  · rw [if_neg (by omega), if_pos h]
    cases q <;> first | exact (by decide : condB _ 0 0 = false).trans (decide_eq_false (by omega)).symm | exact (by decide : condB _ 0 0 = true).trans (decide_eq_true (by omega)).symm
  · rw [if_neg (by omega), if_neg (by omega)]
    cases q <;> first | exact (by decide : condB _ 1 0 = false).trans (decide_eq_false (by omega)).symm | exact (by decide : condB _ 1 0 = true).trans (decide_eq_true (by omega)).symm
section SU
variable {X : Scr} {W : List (Nat × Nat)} {i : Instr} {o : List Nat} {pc pc' : Nat} {B : Bd} {AL Ast : List AV} {F : List (Nat × Nat × Tm)} {L st : List Value} {h : Hp} {ρ : Nat → Int}
/-- a step that leaves heap and locals, on a stack like this -/
theorem suc_one (hh : HI h) {B' : Bd} {AL' Ast' : List AV} {L' st' : List Value} {ρ' : Nat → Int} {l : List (Nat × AS)} (hm : (pc', B', AL', Ast', F) ∈ l) (hs : hstep X i o pc L st h = some (pc', L', st', h)) (g : gam ρ' (B', AL', Ast', F) L' st' h) (he : ext B.length ρ ρ') (hl : B.length ≤ B'.length) (hL : L'.length = L.length) :
    Suc X W i o pc (B, AL, Ast, F) L st h ρ l := ⟨pc', (B', AL', Ast', F), ρ', L', st', h, hm, hs, g, hh, frm_refl, he, hl, hL⟩
theorem suc_push (g : gam ρ (B, AL, Ast, F) L st h) (hh : HI h) {a : AV} {v : Value} {st2 : List Value} {Ast2 : List AV} (hr : al2 (vm B.length ρ) Ast2 st2) (hv : vm B.length ρ a v) (hs : hstep X i o pc L st h = some (pc', L, v :: st2, h)) : Suc X W i o pc (B, AL, Ast, F) L st h ρ [(pc', B, AL, a :: Ast2, F)] :=
  suc_one hh (List.mem_singleton.mpr rfl) hs ⟨g.1, g.2.1, ⟨hv, hr⟩, g.2.2.2⟩ ext_refl (Nat.le_refl _) rfl
/-- .. that pushes a new number -/
theorem suc_new (g : gam ρ (B, AL, Ast, F) L st h) (hh : HI h) {r : Int × Int} {z : Int32} {st2 : List Value} {Ast2 : List AV} (hr : al2 (vm B.length ρ) Ast2 st2) (h1 : r.1 ≤ z.toInt) (h2 : z.toInt ≤ r.2) (hs : hstep X i o pc L st h = some (pc', L, .int z :: st2, h)) : Suc X W i o pc (B, AL, Ast, F) L st h ρ [(pc', pushI (B, AL, Ast, F) Ast2 r)] := by
  obtain ⟨ρ', e, b, t, n⟩ := frT_ok g.1 h1 h2
  have g2 := gam_ext (AL := AL) (Ast := Ast2) (F := F) (st := st2) ⟨g.1, g.2.1, hr, g.2.2.2⟩ b n e
  exact suc_one hh (List.mem_singleton.mpr rfl) hs ⟨g2.1, g2.2.1, ⟨⟨z, rfl, t⟩, g2.2.2.1⟩, g2.2.2.2⟩ e n rfl
theorem suc_newL (g : gam ρ (B, AL, Ast, F) L st h) (hh : HI h) {z : Int64} {st2 : List Value} {Ast2 : List AV} (hr : al2 (vm B.length ρ) Ast2 st2) (hs : hstep X i o pc L st h = some (pc', L, .long z :: st2, h)) : Suc X W i o pc (B, AL, Ast, F) L st h ρ [(pc', pushL (B, AL, Ast, F) Ast2 fL)] := by
  obtain ⟨ρ', e, b, t, n⟩ := frT_ok g.1 (i64r z).1 (i64r z).2
  have g2 := gam_ext (AL := AL) (Ast := Ast2) (F := F) (st := st2) ⟨g.1, g.2.1, hr, g.2.2.2⟩ b n e
  exact suc_one hh (List.mem_singleton.mpr rfl) hs ⟨g2.1, g2.2.1, ⟨⟨z, rfl, t⟩, g2.2.2.1⟩, g2.2.2.2⟩ e n rfl
theorem suc_store (g : gam ρ (B, AL, Ast, F) L st h) (hh : HI h) {a : AV} {v : Value} {k : Nat} {st2 : List Value} {Ast2 : List AV} (hr : al2 (vm B.length ρ) Ast2 st2) (hv : vm B.length ρ a v) (hs : hstep X i o pc L st h = some (pc', L.set k v, st2, h)) : Suc X W i o pc (B, AL, Ast, F) L st h ρ [(pc', B, AL.set k a, Ast2, F)] :=
  suc_one hh (List.mem_singleton.mpr rfl) hs ⟨g.1, al2_set g.2.1 hv, hr, g.2.2.2⟩ ext_refl (Nat.le_refl _) (List.length_set ..)
theorem suc_storeL (g : gam ρ (B, AL, Ast, F) L st h) (hh : HI h) {a : AV} {v : Value} {k : Nat} {st2 : List Value} {Ast2 : List AV} (hr : al2 (vm B.length ρ) Ast2 st2) (hv : vm B.length ρ a v) (hs : hstep X i o pc L st h = some (pc', (L.set k v).set (k + 1) (.retAddr 0), st2, h)) : Suc X W i o pc (B, AL, Ast, F) L st h ρ [(pc', B, (AL.set k a).set (k + 1) jT, Ast2, F)] :=
  suc_one hh (List.mem_singleton.mpr rfl) hs ⟨g.1, al2_set (al2_set g.2.1 hv) (show vm B.length ρ jT (.retAddr 0) from rfl), hr, g.2.2.2⟩ ext_refl (Nat.le_refl _) (by rw [List.length_set, List.length_set])
theorem aBin_ok {p q r : Int × Int} {x y : Int32} (hb : aBin i p q = some r) (x1 : p.1 ≤ x.toInt) (x2 : x.toInt ≤ p.2) (y1 : q.1 ≤ y.toInt) (y2 : y.toInt ≤ q.2) : ∃ z : Int32, hstep X i o pc L (.int y :: .int x :: st) h = some (pc + 1, L, .int z :: st, h) ∧ r.1 ≤ z.toInt ∧ z.toInt ≤ r.2 := by
  cases i with
  | imul =>
    refine ⟨x * y, rfl, ?_⟩
    simp only [aBin] at hb
    cases hb
    split
    · rename_i h0
      have e1 : p.1 * q.1 ≤ x.toInt * y.toInt := Int.mul_le_mul x1 y1 h0.2 (by omega)
      have e2 : x.toInt * y.toInt ≤ p.2 * q.2 := Int.mul_le_mul x2 y2 (by omega) (by omega)
      exact clampI_ok (z := x.toInt * y.toInt) _ (fun hc => by have := clampI_in hc; exact i_mul (by omega) (by omega)) e1 e2
    · exact i32r _
  | idiv =>
    simp only [aBin] at hb
    split at hb
    · rename_i h0
      cases hb
      have hy : ¬ y = 0 := fun e => by subst e; have : (0 : Int32).toInt = 0 := rfl; omega
      refine ⟨x / y, ?_, ?_⟩
      · show (if y = 0 then none else some (pc + 1, L, Value.int (x / y) :: st)).map _ = _
        rw [if_neg hy]
        rfl
      · split
        · rename_i h1
          have := i_div (x := x) (y := y) (by omega) (by omega)
          exact ⟨this.1, by show (x / y).toInt ≤ p.2; omega⟩
        · exact i32r _
    · cases hb
  | irem =>
    simp only [aBin] at hb
    split at hb
    · rename_i h0
      cases hb
      have hy : ¬ y = 0 := fun e => by subst e; have : (0 : Int32).toInt = 0 := rfl; omega
      refine ⟨x - x / y * y, ?_, ?_⟩
      · show (if y = 0 then none else some (pc + 1, L, Value.int (x - x / y * y) :: st)).map _ = _
        rw [if_neg hy]
        rfl
      · rw [i_rem (by omega)]
        have hl : x.toInt.tmod y.toInt < y.toInt := Int.tmod_lt_of_pos _ (by omega)
        split
        · rename_i h1
          have h2 := Int.tmod_nonneg y.toInt (show 0 ≤ x.toInt by omega)
          have h3 : x.toInt.tmod y.toInt ≤ x.toInt := by
            have hm : x.toInt.tmod y.toInt + y.toInt * x.toInt.tdiv y.toInt = x.toInt := Int.tmod_add_mul_tdiv _ _
            have hq : 0 ≤ y.toInt * x.toInt.tdiv y.toInt := Int.mul_nonneg (by omega) (Int.tdiv_nonneg (by omega) (by omega))
            omega
          exact ⟨h2, by show _ ≤ min p.2 (q.2 - 1); omega⟩
        · have hg : -y.toInt < x.toInt.tmod y.toInt := by
            rcases Int.lt_or_le x.toInt 0 with h | h
            · have := Int.tmod_lt_of_pos (-x.toInt) (show 0 < y.toInt by omega)
              rw [Int.neg_tmod] at this
              omega
            · have := Int.tmod_nonneg y.toInt h
              omega
          exact ⟨by show -(q.2 - 1) ≤ _; omega, by show _ ≤ q.2 - 1; omega⟩
    · split at hb
      · cases hb
        have hy : ¬ y = 0 := fun e => by subst e; have : (0 : Int32).toInt = 0 := rfl; omega
        refine ⟨x - x / y * y, ?_, i32r _⟩
        show (if y = 0 then none else some (pc + 1, L, Value.int (x - x / y * y) :: st)).map _ = _
        rw [if_neg hy]
        rfl
      · cases hb
  | iand =>
    refine ⟨x &&& y, rfl, ?_⟩
    simp only [aBin] at hb
    cases hb
    split
    · have a1 := i_and1 (x := x) (y := y) (by omega)
      split
      · have a2 := i_and2 (x := x) (y := y) (by omega)
        exact ⟨a1.1, by show _ ≤ min p.2 q.2; omega⟩
      · exact ⟨a1.1, by show _ ≤ p.2; omega⟩
    · split
      · have a2 := i_and2 (x := x) (y := y) (by omega)
        exact ⟨a2.1, by show _ ≤ q.2; omega⟩
      · exact i32r _
  | ior =>
    refine ⟨x ||| y, rfl, ?_⟩
    simp only [aBin] at hb
    cases hb
    split
    · by_cases hm : max p.2 q.2 ≤ 2147483647
      · have a := i_or (x := x) (y := y) (m := max p.2 q.2) (by omega) (by omega) (by omega) (by omega) hm
        exact clampI_ok (z := (x ||| y).toInt) _ (fun _ => rfl) a.1 a.2
      · have hno : ¬ clampI ((0 : Int), (2 : Int) ^ ((max p.2 q.2).toNat.log2 + 1) - 1) = ((0 : Int), (2 : Int) ^ ((max p.2 q.2).toNat.log2 + 1) - 1) := by
          intro hc
          have h1 := (clampI_in hc).2
          have h2 : (max p.2 q.2).toNat < 2 ^ ((max p.2 q.2).toNat.log2 + 1) := Nat.lt_log2_self
          have h3 : ((2 ^ ((max p.2 q.2).toNat.log2 + 1) : Nat) : Int) = (2 : Int) ^ ((max p.2 q.2).toNat.log2 + 1) := by simp
          simp only at h1
          omega
        rw [clampI_no hno]
        exact i32r _
    · exact i32r _
  | ixor =>
    refine ⟨x ^^^ y, rfl, ?_⟩
    simp only [aBin] at hb
    cases hb
    exact i32r _
  | ishl =>
    refine ⟨x <<< (y &&& 31), rfl, ?_⟩
    simp only [aBin] at hb
    cases hb
    split
    · rename_i h0
      obtain ⟨e, a, b⟩ := h0
      subst e
      have hx : x = 1 := by
        apply Int32.toInt.inj
        have : (1 : Int32).toInt = 1 := rfl
        simp only at x1 x2
        omega
      subst hx
      rw [i_shl (by omega) (by omega)]
      constructor
      · show (1 : Int) ≤ 2 ^ y.toInt.toNat
        have : 1 ≤ 2 ^ y.toInt.toNat := Nat.one_le_two_pow
        exact_mod_cast this
      · show (2 : Int) ^ y.toInt.toNat ≤ 2 ^ q.2.toNat
        have : 2 ^ y.toInt.toNat ≤ 2 ^ q.2.toNat := Nat.pow_le_pow_right (by omega) (by omega)
        exact_mod_cast this
    · exact i32r _
  | ishr =>
    refine ⟨x >>> (y &&& 31), rfl, ?_⟩
    simp only [aBin] at hb
    cases hb
    split
    · have a := i_shr (x := x) (y := y) (by omega)
      exact ⟨a.1, by show _ ≤ p.2; omega⟩
    · exact i32r _
  | iushr =>
    refine ⟨(x.toUInt32 >>> (y.toUInt32 &&& Int32.toUInt32 31)).toInt32, rfl, ?_⟩
    simp only [aBin] at hb
    cases hb
    exact i32r _
  | _ => cases hb
theorem aUn_ok {r : Int × Int} {x : Int32} (hb : aUn i = some r) : ∃ z : Int32, hstep X i o pc L (.int x :: st) h = some (pc + 1, L, .int z :: st, h) ∧ r.1 ≤ z.toInt ∧ z.toInt ≤ r.2 := by
  cases i with
  | ineg =>
    cases hb
    exact ⟨_, rfl, i32r _⟩
  | i2b =>
    cases hb
    refine ⟨_, rfl, ?_⟩
    rw [Int8.toInt_toInt32]
    have a := x.toInt8.le_toInt
    have b := x.toInt8.toInt_lt
    exact ⟨by show (-128 : Int) ≤ _; omega, by show _ ≤ (127 : Int); omega⟩
  | i2s =>
    cases hb
    refine ⟨_, rfl, ?_⟩
    rw [Int16.toInt_toInt32]
    have a := x.toInt16.le_toInt
    have b := x.toInt16.toInt_lt
    exact ⟨by show (-32768 : Int) ≤ _; omega, by show _ ≤ (32767 : Int); omega⟩
  | i2c =>
    cases hb
    refine ⟨_, rfl, ?_⟩
    have e : (x.toUInt32 % 65536).toInt32.toBitVec.toNat = x.toUInt32.toNat % 65536 := rfl
    have l := bn_to (x := (x.toUInt32 % 65536).toInt32) (by omega)
    rw [l, e]
    exact ⟨by show (0 : Int) ≤ _; omega, by show _ ≤ (65535 : Int); omega⟩
  | _ => cases hb
theorem aBinL_ok {x y : Int64} (hb : aBinL i = true) : ∃ z : Int64, hstep X i o pc L (.long y :: .long x :: st) h = some (pc + 1, L, .long z :: st, h) := by
  cases i with
  | land => exact ⟨_, rfl⟩
  | lor => exact ⟨_, rfl⟩
  | lxor => exact ⟨_, rfl⟩
  | _ => cases hb
theorem aSh_ok {x : Int64} {y : Int32} (hb : aSh i = true) : ∃ z : Int64, hstep X i o pc L (.int y :: .long x :: st) h = some (pc + 1, L, .long z :: st, h) := by
  cases i with
  | lshl => exact ⟨_, rfl⟩
  | lshr => exact ⟨_, rfl⟩
  | _ => cases hb
end SU
end JN34asound
section JN35asound2
/-! .. the instructions on locals, stack and numbers, one by one. -/
section SV
variable {X : Scr} {W : List (Nat × Nat)} {i : Instr} {o : List Nat} {pc pc' : Nat} {B : Bd} {AL Ast : List AV} {F : List (Nat × Nat × Tm)} {L st : List Value} {h : Hp} {ρ : Nat → Int} {l : List (Nat × AS)}
theorem al2_cons {P : AV → Value → Prop} {a : AV} {A : List AV} {st : List Value} (h : al2 P (a :: A) st) : ∃ v st2, st = v :: st2 ∧ P a v ∧ al2 P A st2 := by
  cases st with
  | nil => exact h.elim
  | cons v st2 => exact ⟨v, st2, rfl, h.1, h.2⟩
theorem cu_load1 (g : gam ρ (B, AL, Ast, F) L st h) (hh : HI h) {k n : Nat} (hu : (match AL[k]? with | some a => if a.1 = 1 then some [(pc + n, B, AL, a :: Ast, F)] else none | none => none) = some l)
    (hs : ∀ x, L[k]? = some (.int x) → hstep X i o pc L st h = some (pc + n, L, .int x :: st, h)) : Suc X W i o pc (B, AL, Ast, F) L st h ρ l := by
  split at hu
  · rename_i a ha
    obtain ⟨h1, hu⟩ := inv_if hu
    cases hu
    obtain ⟨v, e, hv⟩ := al2_get g.2.1 ha
    obtain ⟨x, rfl, -⟩ := vm1 h1 hv
    exact suc_push g hh g.2.2.1 hv (hs x e)
  · cases hu
theorem cu_load2 (g : gam ρ (B, AL, Ast, F) L st h) (hh : HI h) {k n : Nat} (hu : (match AL[k]? with | some a => if a.1 = 2 then some [(pc + n, B, AL, a :: Ast, F)] else none | none => none) = some l)
    (hs : ∀ x, L[k]? = some (.long x) → hstep X i o pc L st h = some (pc + n, L, .long x :: st, h)) : Suc X W i o pc (B, AL, Ast, F) L st h ρ l := by
  split at hu
  · rename_i a ha
    obtain ⟨h1, hu⟩ := inv_if hu
    cases hu
    obtain ⟨v, e, hv⟩ := al2_get g.2.1 ha
    obtain ⟨x, rfl, -⟩ := vm2 h1 hv
    exact suc_push g hh g.2.2.1 hv (hs x e)
  · cases hu
theorem nin_of {l : List Nat} {z b : Nat} (h : l.contains z = false) (hb : b ∈ l) : ¬ b = z := by
  intro e
  subst e
  simp [hb] at h
theorem cu_load3 (g : gam ρ (B, AL, Ast, F) L st h) (hh : HI h) {k n : Nat} (hu : (match AL[k]? with | some a => if a.1 = 3 ∧ a.2.2.2.contains (OLDB + 13) = false then some [(pc + n, B, AL, a :: Ast, F)] else none | none => none) = some l)
    (hs : ∀ x, L[k]? = some (.ref x) → ¬ x = OLDB + 13 → hstep X i o pc L st h = some (pc + n, L, .ref x :: st, h)) : Suc X W i o pc (B, AL, Ast, F) L st h ρ l := by
  split at hu
  · rename_i a ha
    obtain ⟨⟨h1, h2⟩, hu⟩ := inv_if hu
    cases hu
    obtain ⟨v, e, hv⟩ := al2_get g.2.1 ha
    obtain ⟨x, rfl, hx⟩ := vm3 h1 hv
    exact suc_push g hh g.2.2.1 hv (hs x e (nin_of h2 hx))
  · cases hu
theorem cu_sto1 (g : gam ρ (B, AL, Ast, F) L st h) (hh : HI h) {k n : Nat} (hu : (match (generalizing := false) Ast with | a :: st => if a.1 = 1 ∧ k < AL.length ∧ aOkSt AL k = true then some [(pc + n, B, AL.set k a, st, F)] else none | _ => none) = some l)
    (hs : ∀ x st2, st = .int x :: st2 → k < L.length ∧ okSt L k = true → hstep X i o pc L st h = some (pc + n, L.set k (.int x), st2, h)) : Suc X W i o pc (B, AL, Ast, F) L st h ρ l := by
  cases Ast with
  | nil => cases hu
  | cons a st' =>
    obtain ⟨⟨h1, h2, h3⟩, hu⟩ := inv_if hu
    cases hu
    obtain ⟨v, st2, e, hv, hr⟩ := al2_cons g.2.2.1
    obtain ⟨x, rfl, -⟩ := vm1 h1 hv
    exact suc_store g hh hr hv (hs x st2 e ⟨by rw [← al2_len g.2.1]; exact h2, aOk_ok g.2.1 h3⟩)
theorem cu_sto2 (g : gam ρ (B, AL, Ast, F) L st h) (hh : HI h) {k n : Nat} (hu : (match (generalizing := false) Ast with | a :: st => if a.1 = 2 ∧ k + 1 < AL.length ∧ aOkSt AL k = true then some [(pc + n, B, (AL.set k a).set (k + 1) jT, st, F)] else none | _ => none) = some l)
    (hs : ∀ x st2, st = .long x :: st2 → k + 1 < L.length ∧ okSt L k = true → hstep X i o pc L st h = some (pc + n, (L.set k (.long x)).set (k + 1) (.retAddr 0), st2, h)) : Suc X W i o pc (B, AL, Ast, F) L st h ρ l := by
  cases Ast with
  | nil => cases hu
  | cons a st' =>
    obtain ⟨⟨h1, h2, h3⟩, hu⟩ := inv_if hu
    cases hu
    obtain ⟨v, st2, e, hv, hr⟩ := al2_cons g.2.2.1
    obtain ⟨x, rfl, -⟩ := vm2 h1 hv
    exact suc_storeL g hh hr hv (hs x st2 e ⟨by rw [← al2_len g.2.1]; exact h2, aOk_ok g.2.1 h3⟩)
theorem cu_sto3 (g : gam ρ (B, AL, Ast, F) L st h) (hh : HI h) {k n : Nat} (hu : (match (generalizing := false) Ast with | a :: st => if a.1 = 3 ∧ a.2.2.2.contains (OLDB + 13) = false ∧ k < AL.length ∧ aOkSt AL k = true then some [(pc + n, B, AL.set k a, st, F)] else none | _ => none) = some l)
    (hs : ∀ x st2, st = .ref x :: st2 → k < L.length ∧ okSt L k = true ∧ ¬ x = OLDB + 13 → hstep X i o pc L st h = some (pc + n, L.set k (.ref x), st2, h)) : Suc X W i o pc (B, AL, Ast, F) L st h ρ l := by
  cases Ast with
  | nil => cases hu
  | cons a st' =>
    obtain ⟨⟨h1, h4, h2, h3⟩, hu⟩ := inv_if hu
    cases hu
    obtain ⟨v, st2, e, hv, hr⟩ := al2_cons g.2.2.1
    obtain ⟨x, rfl, hx⟩ := vm3 h1 hv
    exact suc_store g hh hr hv (hs x st2 e ⟨by rw [← al2_len g.2.1]; exact h2, aOk_ok g.2.1 h3, nin_of h4 hx⟩)
/-- two numbers from the stack -/
theorem two1 (g : gam ρ (B, AL, Ast, F) L st h) {b a : AV} {A : List AV} (hA : Ast = b :: a :: A) (ha : a.1 = 1) (hb : b.1 = 1) : ∃ x y st2, st = .int y :: .int x :: st2 ∧ tOK B.length ρ a.2.1 x.toInt ∧ tOK B.length ρ b.2.1 y.toInt ∧ al2 (vm B.length ρ) A st2 := by
  subst hA
  obtain ⟨v, s1, rfl, hv, hr1⟩ := al2_cons g.2.2.1
  obtain ⟨w, s2, rfl, hw, hr⟩ := al2_cons hr1
  obtain ⟨y, rfl, ty⟩ := vm1 hb hv
  obtain ⟨x, rfl, tx⟩ := vm1 ha hw
  exact ⟨x, y, s2, rfl, tx, ty, hr⟩
theorem two2 (g : gam ρ (B, AL, Ast, F) L st h) {b a : AV} {A : List AV} (hA : Ast = b :: a :: A) (ha : a.1 = 2) (hb : b.1 = 2) : ∃ x y st2, st = .long y :: .long x :: st2 ∧ tOK B.length ρ a.2.1 x.toInt ∧ tOK B.length ρ b.2.1 y.toInt ∧ al2 (vm B.length ρ) A st2 := by
  subst hA
  obtain ⟨v, s1, rfl, hv, hr1⟩ := al2_cons g.2.2.1
  obtain ⟨w, s2, rfl, hw, hr⟩ := al2_cons hr1
  obtain ⟨y, rfl, ty⟩ := vm2 hb hv
  obtain ⟨x, rfl, tx⟩ := vm2 ha hw
  exact ⟨x, y, s2, rfl, tx, ty, hr⟩
theorem one1 (g : gam ρ (B, AL, Ast, F) L st h) {a : AV} {A : List AV} (hA : Ast = a :: A) (ha : a.1 = 1) : ∃ x st2, st = .int x :: st2 ∧ tOK B.length ρ a.2.1 x.toInt ∧ al2 (vm B.length ρ) A st2 := by
  subst hA
  obtain ⟨v, s1, rfl, hv, hr⟩ := al2_cons g.2.2.1
  obtain ⟨y, rfl, ty⟩ := vm1 ha hv
  exact ⟨y, s1, rfl, ty, hr⟩
theorem one2 (g : gam ρ (B, AL, Ast, F) L st h) {a : AV} {A : List AV} (hA : Ast = a :: A) (ha : a.1 = 2) : ∃ x st2, st = .long x :: st2 ∧ tOK B.length ρ a.2.1 x.toInt ∧ al2 (vm B.length ρ) A st2 := by
  subst hA
  obtain ⟨v, s1, rfl, hv, hr⟩ := al2_cons g.2.2.1
  obtain ⟨y, rfl, ty⟩ := vm2 ha hv
  exact ⟨y, s1, rfl, ty, hr⟩
theorem suc_tm (g : gam ρ (B, AL, Ast, F) L st h) (hh : HI h) {st2 : List Value} {A : List AV} (hr : al2 (vm B.length ρ) A st2) {q : Bd × Tm} {z : Int32} (hq : ∃ ρ', ext B.length ρ ρ' ∧ bOK ρ' q.1 ∧ tOK q.1.length ρ' q.2 z.toInt ∧ B.length ≤ q.1.length) (hs : hstep X i o pc L st h = some (pc', L, .int z :: st2, h)) :
    Suc X W i o pc (B, AL, Ast, F) L st h ρ [(pc', q.1, AL, iT q.2 :: A, F)] := by
  obtain ⟨ρ', e, b, t, n⟩ := hq
  have g2 := gam_ext (AL := AL) (Ast := A) (F := F) (st := st2) ⟨g.1, g.2.1, hr, g.2.2.2⟩ b n e
  exact suc_one hh (List.mem_singleton.mpr rfl) hs ⟨g2.1, g2.2.1, ⟨⟨z, rfl, t⟩, g2.2.2.1⟩, g2.2.2.2⟩ e n rfl
theorem suc_tmL (g : gam ρ (B, AL, Ast, F) L st h) (hh : HI h) {st2 : List Value} {A : List AV} (hr : al2 (vm B.length ρ) A st2) {q : Bd × Tm} {z : Int64} (hq : ∃ ρ', ext B.length ρ ρ' ∧ bOK ρ' q.1 ∧ tOK q.1.length ρ' q.2 z.toInt ∧ B.length ≤ q.1.length) (hs : hstep X i o pc L st h = some (pc', L, .long z :: st2, h)) :
    Suc X W i o pc (B, AL, Ast, F) L st h ρ [(pc', q.1, AL, lT q.2 :: A, F)] := by
  obtain ⟨ρ', e, b, t, n⟩ := hq
  have g2 := gam_ext (AL := AL) (Ast := A) (F := F) (st := st2) ⟨g.1, g.2.1, hr, g.2.2.2⟩ b n e
  exact suc_one hh (List.mem_singleton.mpr rfl) hs ⟨g2.1, g2.2.1, ⟨⟨z, rfl, t⟩, g2.2.2.1⟩, g2.2.2.2⟩ e n rfl
theorem addI_ok (hb : bOK ρ B) {t u : Tm} {x y : Int32} (ht : tOK B.length ρ t x.toInt) (hu : tOK B.length ρ u y.toInt) : ∃ ρ', ext B.length ρ ρ' ∧ bOK ρ' (tAdd B t u clampI).1 ∧ tOK (tAdd B t u clampI).1.length ρ' (tAdd B t u clampI).2 (x + y).toInt ∧ B.length ≤ (tAdd B t u clampI).1.length := by
  have r1 := tOK_rg hb ht
  have r2 := tOK_rg hb hu
  refine tAdd_ok hb ht hu (fun hc => ?_) (fun hc => ?_)
  · have := clampI_in hc
    simp only at this
    exact i_add (by omega) (by omega)
  · rw [clampI_no hc]
    exact i32r _
theorem subI_ok (hb : bOK ρ B) {t u : Tm} {x y : Int32} (ht : tOK B.length ρ t x.toInt) (hu : tOK B.length ρ u y.toInt) : ∃ ρ', ext B.length ρ ρ' ∧ bOK ρ' (tSub B t u clampI).1 ∧ tOK (tSub B t u clampI).1.length ρ' (tSub B t u clampI).2 (x - y).toInt ∧ B.length ≤ (tSub B t u clampI).1.length := by
  have r1 := tOK_rg hb ht
  have r2 := tOK_rg hb hu
  refine tSub_ok hb ht hu (fun hc => ?_) (fun hc => ?_)
  · have := clampI_in hc
    simp only at this
    exact i_sub (by omega) (by omega)
  · rw [clampI_no hc]
    exact i32r _
theorem addL_ok (hb : bOK ρ B) {t u : Tm} {x y : Int64} (ht : tOK B.length ρ t x.toInt) (hu : tOK B.length ρ u y.toInt) : ∃ ρ', ext B.length ρ ρ' ∧ bOK ρ' (tAdd B t u clampL).1 ∧ tOK (tAdd B t u clampL).1.length ρ' (tAdd B t u clampL).2 (x + y).toInt ∧ B.length ≤ (tAdd B t u clampL).1.length := by
  have r1 := tOK_rg hb ht
  have r2 := tOK_rg hb hu
  refine tAdd_ok hb ht hu (fun hc => ?_) (fun hc => ?_)
  · have := clampL_in hc
    simp only at this
    exact l_add (by omega) (by omega)
  · rw [clampL_no hc]
    exact i64r _
theorem subL_ok (hb : bOK ρ B) {t u : Tm} {x y : Int64} (ht : tOK B.length ρ t x.toInt) (hu : tOK B.length ρ u y.toInt) : ∃ ρ', ext B.length ρ ρ' ∧ bOK ρ' (tSub B t u clampL).1 ∧ tOK (tSub B t u clampL).1.length ρ' (tSub B t u clampL).2 (x - y).toInt ∧ B.length ≤ (tSub B t u clampL).1.length := by
  have r1 := tOK_rg hb ht
  have r2 := tOK_rg hb hu
  refine tSub_ok hb ht hu (fun hc => ?_) (fun hc => ?_)
  · have := clampL_in hc
    simp only at this
    exact l_sub (by omega) (by omega)
  · rw [clampL_no hc]
    exact i64r _
theorem suc_br (g : gam ρ (B, AL, Ast, F) L st h) (hh : HI h) {A : List AV} {st2 : List Value} (hr : al2 (vm B.length ρ) A st2) {q : Jvm.ClassFile.Cond} {t u : Tm} {x y : Int} {tgt nxt : Nat} (ht : tOK B.length ρ t x) (hu : tOK B.length ρ u y) (sx : smI x) (sy : smI y)
    (hs : hstep X i o pc L st h = some (if cndI q x y = true then tgt else nxt, L, st2, h)) : Suc X W i o pc (B, AL, Ast, F) L st h ρ (brs q B t u tgt nxt AL A F) := by
  obtain ⟨B', m, b, n⟩ := brs_ok (q := q) (tgt := tgt) (nxt := nxt) (L := AL) (st := A) (F := F) g.1 ht hu sx sy
  have g2 := gam_ext (B := B) (B' := B') (AL := AL) (Ast := A) (F := F) (st := st2) ⟨g.1, g.2.1, hr, g.2.2.2⟩ b (Nat.le_of_eq n.symm) ext_refl
  exact suc_one hh m hs g2 ext_refl (Nat.le_of_eq n.symm) rfl
theorem jump_some {pc : Nat} {off : Int} {t : Nat} (h : jump pc off = some t) : jump pc off = some t := h
end SV
end JN35asound2
section JN36asound3
/-! .. on the heap. -/
theorem ivl_arr {a t n : Nat} (h : SHl[a]? = some (.inl (t, n))) (k : Nat) : ivl a k = ivl a 0 := by
  unfold ivl
  rw [h]
  rfl
theorem udS {α : Type} {f : Nat → Nat → α} {a i : Nat} {v : α} : ud f a i v a i = v := by
  unfold ud
  rw [if_pos rfl, if_pos rfl]
theorem udN {α : Type} {f : Nat → Nat → α} {a i a' j : Nat} {v : α} (h : ¬ (a' = a ∧ j = i)) : ud f a i v a' j = f a' j := by
  unfold ud
  by_cases h1 : a' = a
  · subst h1
    rw [if_pos rfl]
    have : ¬ j = i := fun e => h ⟨rfl, e⟩
    exact if_neg this
  · rw [if_neg h1]
theorem HI_ud {h : Hp} {a i : Nat} {x : Int32} (hh : HI h) (h1 : (ivl a i).1 ≤ x.toInt) (h2 : x.toInt ≤ (ivl a i).2) : HI (h.1, ud h.2.1 a i x, h.2.2.1, h.2.2.2) := by
  refine ⟨hh.1, fun a' k => ?_, hh.2.2⟩
  by_cases e : a' = a ∧ k = i
  · obtain ⟨rfl, rfl⟩ := e
    show (ivl a' k).1 ≤ (ud h.2.1 a' k x a' k).toInt ∧ (ud h.2.1 a' k x a' k).toInt ≤ (ivl a' k).2
    rw [udS]
    exact ⟨h1, h2⟩
  · show (ivl a' k).1 ≤ (ud h.2.1 a i x a' k).toInt ∧ (ud h.2.1 a i x a' k).toInt ≤ (ivl a' k).2
    rw [udN e]
    exact hh.2.1 a' k
theorem frm_ud {W : List (Nat × Nat)} {h : Hp} {a i : Nat} {x : Int32} (hw : inW W a i = true) : frm W h (h.1, ud h.2.1 a i x, h.2.2.1, h.2.2.2) := by
  intro a' k hk
  refine ⟨?_, rfl, rfl⟩
  show ud h.2.1 a i x a' k = _
  refine udN fun e => ?_
  rw [e.1, e.2, hw] at hk
  cases hk
theorem frm_udL {W : List (Nat × Nat)} {h : Hp} {a i : Nat} {x : Int64} (hw : inW W a i = true) : frm W h (h.1, h.2.1, ud h.2.2.1 a i x, h.2.2.2) := by
  intro a' k hk
  refine ⟨rfl, ?_, rfl⟩
  show ud h.2.2.1 a i x a' k = _
  refine udN fun e => ?_
  rw [e.1, e.2, hw] at hk
  cases hk
theorem frm_udR {W : List (Nat × Nat)} {h : Hp} {a i : Nat} {x : Option Nat} (hw : inW W a i = true) : frm W h (h.1, h.2.1, h.2.2.1, ud h.2.2.2 a i x) := by
  intro a' k hk
  refine ⟨rfl, rfl, ?_⟩
  show ud h.2.2.2 a i x a' k = _
  refine udN fun e => ?_
  rw [e.1, e.2, hw] at hk
  cases hk
theorem inW_arr {W : List (Nat × Nat)} {a : Nat} (h : inW W a 999 = true) (k : Nat) : inW W a k = true := by
  unfold inW at h ⊢
  obtain ⟨q, hq, h⟩ := List.any_eq_true.mp h
  refine List.any_eq_true.mpr ⟨q, hq, ?_⟩
  simp only [Bool.and_eq_true, Bool.or_eq_true, beq_iff_eq] at h ⊢
  omega
theorem HI_R {h : Hp} {a i b : Nat} (hh : HI h) (hb : b ∈ rst a i) : HI (h.1, h.2.1, h.2.2.1, ud h.2.2.2 a i (some b)) := by
  refine ⟨hh.1, hh.2.1, fun a' k hne => ?_⟩
  by_cases e : a' = a ∧ k = i
  · obtain ⟨rfl, rfl⟩ := e
    refine ⟨b, hb, ?_⟩
    show ud h.2.2.2 a' k (some b) a' k = some b
    rw [udS]
  · obtain ⟨c, hc, e2⟩ := hh.2.2 a' k hne
    refine ⟨c, hc, ?_⟩
    show ud h.2.2.2 a i (some b) a' k = some c
    rw [udN e]
    exact e2
theorem fGet_in {F : List (Nat × Nat × Tm)} {a k : Nat} {t : Tm} (h : fGet F a k = some t) : (a, k, t) ∈ F := by
  unfold fGet at h
  obtain ⟨q, hq, e⟩ := Option.map_eq_some_iff.mp h
  have h1 := List.find?_some hq
  have h2 := List.mem_of_find?_eq_some hq
  simp only [Bool.and_eq_true, beq_iff_eq] at h1
  obtain ⟨q1, q2, q3⟩ := q
  obtain ⟨rfl, rfl⟩ := h1
  subst e
  exact h2
theorem fDel_in {F : List (Nat × Nat × Tm)} {a k : Nat} {q : Nat × Nat × Tm} (h : q ∈ fDel F a k) : q ∈ F ∧ ¬ (q.1 = a ∧ q.2.1 = k) := by
  unfold fDel at h
  obtain ⟨h1, h2⟩ := List.mem_filter.mp h
  refine ⟨h1, fun e => ?_⟩
  rw [e.1, e.2] at h2
  simp at h2
theorem fDels_in : ∀ {l : List Nat} {F : List (Nat × Nat × Tm)} {k : Nat} {q : Nat × Nat × Tm}, q ∈ l.foldl (fun F b => fDel F b k) F → q ∈ F ∧ ∀ b ∈ l, ¬ (q.1 = b ∧ q.2.1 = k)
  | [], F, k, q, h => ⟨h, fun b hb => by cases hb⟩
  | b :: l, F, k, q, h => by
    obtain ⟨h1, h2⟩ := fDels_in (l := l) h
    obtain ⟨h3, h4⟩ := fDel_in h1
    refine ⟨h3, fun c hc => ?_⟩
    rcases List.mem_cons.mp hc with rfl | hc
    · exact h4
    · exact h2 c hc
theorem aLen_new {b t n : Nat} (hb : b < OLDB) (h : aLen b = some (t, n)) : SHl[b]? = some (.inl (t, n)) := by
  unfold aLen at h
  rw [if_pos hb] at h
  split at h
  · rename_i q hq
    cases h
    exact hq
  · cases h
theorem above_rg : ∀ j, j < 7 → (-1 : Int) ≤ (aboveL.getD j 0).toInt ∧ (aboveL.getD j 0).toInt ≤ 3 := by decide
theorem bodies_rg : ∀ j, j < 21 → (0 : Int) ≤ (bodiesL.getD j 0).toInt ∧ (bodiesL.getD j 0).toInt ≤ 71 := by decide
theorem str_rg : ∀ i, i < 5 → ∀ j, j < strL.getD i 0 → (0 : Int) ≤ ((strB.getD i []).getD j 0).toInt ∧ ((strB.getD i []).getD j 0).toInt ≤ 127 := by decide
theorem aLen_old {X : Scr} {b t n : Nat} (hb : ¬ b < OLDB) (h : aLen b = some (t, n)) : ∃ f, oldArr X (b - OLDB) = some (t, n, f) ∧ ∀ j, j < n → (aIv b).1 ≤ (f j).toInt ∧ (f j).toInt ≤ (aIv b).2 := by
  have hB := OLDB_eq
  unfold aLen at h
  rw [if_neg hb] at h
  unfold aIv
  rw [if_neg hb]
  split at h
  · rename_i e
    cases h
    subst e
    rw [if_pos rfl]
    refine ⟨fun i => aboveL.getD i 0, ?_, above_rg⟩
    rw [show OLDB + 1 - OLDB = 1 by omega]
    rfl
  · split at h
    · rename_i e1 e
      cases h
      subst e
      rw [if_neg (by omega), if_pos rfl]
      refine ⟨fun i => bodiesL.getD i 0, ?_, bodies_rg⟩
      rw [show OLDB + 2 - OLDB = 2 by omega]
      rfl
    · split at h
      · rename_i e1 e2 e
        cases h
        rw [if_neg e1, if_neg e2]
        refine ⟨fun i => (strB.getD (b - OLDB - 8) []).getD i 0, ?_, fun j hj => str_rg (b - OLDB - 8) (by omega) j hj⟩
        unfold oldArr
        rw [if_neg (by omega), if_neg (by omega), if_neg (by omega), if_pos (by omega)]
      · cases h
theorem inB_of {j : Int32} {n : Nat} {r : Int × Int} (h1 : r.1 ≤ j.toInt) (h2 : j.toInt ≤ r.2) (h3 : 0 ≤ r.1) (h4 : r.2 < (n : Int)) : inB j n = true := by
  have e : j.toInt.toNat = j.toNatClampNeg := Int32.toNat_toInt j
  have hz : (0 : Int32).toInt = 0 := rfl
  unfold inB
  refine Bool.and_eq_true _ _ |>.mpr ⟨decide_eq_true ?_, decide_eq_true ?_⟩
  · rw [Int32.lt_iff_toInt_lt]
    omega
  · omega
theorem arrOK_in {l : List Nat} {t : Nat} {r : Int × Int} (h : arrOK l t r = true) {b : Nat} (hb : b ∈ l) : ∃ n, aLen b = some (t, n) ∧ 0 ≤ r.1 ∧ r.2 < (n : Int) := by
  have h := (Bool.and_eq_true _ _).mp h |>.2
  have h := List.all_eq_true.mp h b hb
  split at h
  · rename_i q hq
    obtain ⟨q1, q2⟩ := q
    simp only [Bool.and_eq_true, beq_iff_eq, decide_eq_true_eq] at h
    obtain ⟨⟨rfl, h2⟩, h3⟩ := h
    exact ⟨q2, hq, h2, h3⟩
  · cases h
theorem oA_at {X : Scr} {b : Nat} {α : Type} {q : Option (Nat × Nat × (Nat → Int32))} (f : Option (Nat × Nat × (Nat → Int32)) → α) (e : oldArr X (b - OLDB) = q) : f (oldArr X (b - OLDB)) = f q := congrArg f e
theorem hs_iold {X : Scr} {o : List Nat} {pc b n : Nat} {L st : List Value} {h : Hp} {k : Int32} {f : Nat → Int32} (hb : ¬ b < OLDB) (e : oldArr X (b - OLDB) = some (0, n, f)) (hin : inB k n = true) : hstep X .iaload o pc L (.int k :: .ref b :: st) h = some (pc + 1, L, .int (f k.toNatClampNeg) :: st, h) := by
  generalize hr : hstep X .iaload o pc L (.int k :: .ref b :: st) h = r
  simp only [hstep] at hr
  split at hr
  · rename_i hb2
    exact absurd hb2 hb
  · split at hr
    · rename_i n2 f2 e2
      cases e.symm.trans e2
      rw [if_pos hin] at hr
      exact hr.symm
    · rename_i hno
      exact absurd e (hno n f)
theorem hs_bold {X : Scr} {o : List Nat} {pc b n : Nat} {L st : List Value} {h : Hp} {k : Int32} {f : Nat → Int32} (hb : ¬ b < OLDB) (e : oldArr X (b - OLDB) = some (5, n, f)) (hin : inB k n = true) : hstep X .baload o pc L (.int k :: .ref b :: st) h = some (pc + 1, L, .int (f k.toNatClampNeg) :: st, h) := by
  generalize hr : hstep X .baload o pc L (.int k :: .ref b :: st) h = r
  simp only [hstep] at hr
  split at hr
  · rename_i hb2
    exact absurd hb2 hb
  · split at hr
    · rename_i n2 f2 e2
      cases e.symm.trans e2
      rw [if_pos hin] at hr
      exact hr.symm
    · rename_i hno
      exact absurd e (hno n f)
theorem hs_lold {X : Scr} {o : List Nat} {pc b t n : Nat} {L st : List Value} {h : Hp} {f : Nat → Int32} (hb : ¬ b < OLDB) (e : oldArr X (b - OLDB) = some (t, n, f)) : hstep X .arraylength o pc L (.ref b :: st) h = some (pc + 1, L, .int (Int32.ofNat n) :: st, h) := by
  generalize hr : hstep X .arraylength o pc L (.ref b :: st) h = r
  simp only [hstep] at hr
  split at hr
  · rename_i hb2
    exact absurd hb2 hb
  · split at hr
    · rename_i t2 n2 f2 e2
      cases e.symm.trans e2
      exact hr.symm
    · rename_i e2
      cases e.symm.trans e2
theorem hs_lnew {X : Scr} {o : List Nat} {pc b t n : Nat} {L st : List Value} {h : Hp} (hb : b < OLDB) (e : h.1[b]? = some (.inl (t, n))) (ht : t < 5) : hstep X .arraylength o pc L (.ref b :: st) h = some (pc + 1, L, .int (Int32.ofNat n) :: st, h) := by
  unfold hstep
  simp only [hb, e, ht, if_true]
section SX
variable {X : Scr} {W : List (Nat × Nat)} {i : Instr} {o : List Nat} {pc pc' : Nat} {B : Bd} {AL Ast : List AV} {F : List (Nat × Nat × Tm)} {L st : List Value} {h : Hp} {ρ : Nat → Int} {l : List (Nat × AS)}
/-- a step that writes the heap -/
theorem suc_wr (g : gam ρ (B, AL, Ast, F) L st h) {A : List AV} {st2 : List Value} {h' : Hp} {F' : List (Nat × Nat × Tm)} (hr : al2 (vm B.length ρ) A st2) (hh : HI h') (hf : frm W h h') (hF : ∀ q ∈ F', tOK B.length ρ q.2.2 (h'.2.1 q.1 q.2.1).toInt ∧ ∃ ci, SHl[q.1]? = some (.inr ci)) (hs : hstep X i o pc L st h = some (pc', L, st2, h')) :
    Suc X W i o pc (B, AL, Ast, F) L st h ρ [(pc', B, AL, A, F')] :=
  ⟨pc', (B, AL, A, F'), ρ, L, st2, h', List.mem_singleton.mpr rfl, hs, ⟨g.1, g.2.1, hr, hF⟩, hh, hf, ext_refl, Nat.le_refl _, rfl⟩
theorem one3 (g : gam ρ (B, AL, Ast, F) L st h) {a : AV} {A : List AV} (hA : Ast = a :: A) (ha : a.1 = 3) : ∃ b st2, st = .ref b :: st2 ∧ b ∈ a.2.2.2 ∧ al2 (vm B.length ρ) A st2 := by
  subst hA
  obtain ⟨v, s1, rfl, hv, hr⟩ := al2_cons g.2.2.1
  obtain ⟨y, rfl, ty⟩ := vm3 ha hv
  exact ⟨y, s1, rfl, ty, hr⟩
theorem idx3 (g : gam ρ (B, AL, Ast, F) L st h) {j a : AV} {A : List AV} (hA : Ast = j :: a :: A) (hj : j.1 = 1) (ha : a.1 = 3) : ∃ k b st2, st = .int k :: .ref b :: st2 ∧ b ∈ a.2.2.2 ∧ tOK B.length ρ j.2.1 k.toInt ∧ al2 (vm B.length ρ) A st2 := by
  subst hA
  obtain ⟨v, s1, rfl, hv, hr1⟩ := al2_cons g.2.2.1
  obtain ⟨w, s2, rfl, hw, hr⟩ := al2_cons hr1
  obtain ⟨k, rfl, tk⟩ := vm1 hj hv
  obtain ⟨b, rfl, hb⟩ := vm3 ha hw
  exact ⟨k, b, s2, rfl, hb, tk, hr⟩
theorem ref_in {hh : HI h} {b k : Nat} (h1 : (rst b k).isEmpty = false) : ∃ z ∈ rst b k, h.2.2.2 b k = some z := hh.2.2 b k (fun e => by rw [e] at h1; cases h1)
theorem cu_ild (g : gam ρ (B, AL, Ast, F) L st h) (hh : HI h) {j a : AV} {A : List AV} (hA : Ast = j :: a :: A) (hj : j.1 = 1) (ha : a.1 = 3) (hok : arrOK a.2.2.2 0 (trg B j.2.1) = true) : Suc X W .iaload o pc (B, AL, Ast, F) L st h ρ [(pc + 1, pushI (B, AL, Ast, F) A (uni (a.2.2.2.map aIv)))] := by
  obtain ⟨k, b, st2, rfl, hb, tk, hr⟩ := idx3 g hA hj ha
  obtain ⟨n, e1, e2, e3⟩ := arrOK_in hok hb
  have rk := tOK_rg g.1 tk
  have hin : inB k n = true := inB_of (r := trg B j.2.1) rk.1 rk.2 e2 e3
  have hu := uni_ok (List.mem_map.mpr ⟨b, hb, rfl⟩ : aIv b ∈ a.2.2.2.map aIv)
  have hkn : k.toNatClampNeg < n := of_decide_eq_true ((Bool.and_eq_true _ _).mp hin).2
  by_cases hbo : b < OLDB
  · have e4 := aLen_new hbo e1
    have e5 : aIv b = ivl b k.toNatClampNeg := by unfold aIv; rw [if_pos hbo]; exact (ivl_arr e4 _).symm
    have h5 := hh.2.1 b k.toNatClampNeg
    rw [← e5] at h5
    refine suc_new g hh (z := h.2.1 b k.toNatClampNeg) hr (by omega) (by omega) ?_
    simp only [hstep]
    rw [if_pos hbo, hh.1, e4]
    simp only [hin, if_true]
  · obtain ⟨f, e4, h5⟩ := aLen_old (X := X) hbo e1
    have h5 := h5 k.toNatClampNeg hkn
    refine suc_new g hh (z := f k.toNatClampNeg) hr (by omega) (by omega) ?_
    exact hs_iold hbo e4 hin
theorem cu_bld (g : gam ρ (B, AL, Ast, F) L st h) (hh : HI h) {j a : AV} {A : List AV} (hA : Ast = j :: a :: A) (hj : j.1 = 1) (ha : a.1 = 3) (hok : arrOK a.2.2.2 2 (trg B j.2.1) = true ∧ a.2.2.2.all (fun b => decide (b < OLDB)) = true ∨ arrOK a.2.2.2 5 (trg B j.2.1) = true ∧ a.2.2.2.all (fun b => decide (OLDB ≤ b)) = true) : Suc X W .baload o pc (B, AL, Ast, F) L st h ρ [(pc + 1, pushI (B, AL, Ast, F) A (uni (a.2.2.2.map aIv)))] := by
  obtain ⟨k, b, st2, rfl, hb, tk, hr⟩ := idx3 g hA hj ha
  have rk := tOK_rg g.1 tk
  have hu := uni_ok (List.mem_map.mpr ⟨b, hb, rfl⟩ : aIv b ∈ a.2.2.2.map aIv)
  rcases hok with ⟨hok, hall⟩ | ⟨hok, hall⟩
  · obtain ⟨n, e1, e2, e3⟩ := arrOK_in hok hb
    have hin : inB k n = true := inB_of (r := trg B j.2.1) rk.1 rk.2 e2 e3
    have hbo : b < OLDB := of_decide_eq_true (List.all_eq_true.mp hall b hb)
    have e4 := aLen_new hbo e1
    have e5 : aIv b = ivl b k.toNatClampNeg := by unfold aIv; rw [if_pos hbo]; exact (ivl_arr e4 _).symm
    have h5 := hh.2.1 b k.toNatClampNeg
    rw [← e5] at h5
    refine suc_new g hh (z := h.2.1 b k.toNatClampNeg) hr (by omega) (by omega) ?_
    simp only [hstep]
    rw [if_pos hbo, hh.1, e4]
    simp only [hin, if_true]
  · obtain ⟨n, e1, e2, e3⟩ := arrOK_in hok hb
    have hin : inB k n = true := inB_of (r := trg B j.2.1) rk.1 rk.2 e2 e3
    have hkn : k.toNatClampNeg < n := of_decide_eq_true ((Bool.and_eq_true _ _).mp hin).2
    have hbo : OLDB ≤ b := of_decide_eq_true (List.all_eq_true.mp hall b hb)
    obtain ⟨f, e4, h5⟩ := aLen_old (X := X) (Nat.not_lt.mpr hbo) e1
    have h5 := h5 k.toNatClampNeg hkn
    refine suc_new g hh (z := f k.toNatClampNeg) hr (by omega) (by omega) ?_
    exact hs_bold (Nat.not_lt.mpr hbo) e4 hin
theorem cu_lld (g : gam ρ (B, AL, Ast, F) L st h) (hh : HI h) {j a : AV} {A : List AV} (hA : Ast = j :: a :: A) (hj : j.1 = 1) (ha : a.1 = 3) (hok : arrOK a.2.2.2 1 (trg B j.2.1) = true) (hall : a.2.2.2.all (fun b => decide (b < OLDB)) = true) : Suc X W .laload o pc (B, AL, Ast, F) L st h ρ [(pc + 1, pushL (B, AL, Ast, F) A fL)] := by
  obtain ⟨k, b, st2, rfl, hb, tk, hr⟩ := idx3 g hA hj ha
  obtain ⟨n, e1, e2, e3⟩ := arrOK_in hok hb
  have rk := tOK_rg g.1 tk
  have hin : inB k n = true := inB_of (r := trg B j.2.1) rk.1 rk.2 e2 e3
  have hbo : b < OLDB := of_decide_eq_true (List.all_eq_true.mp hall b hb)
  have e4 := aLen_new hbo e1
  refine suc_newL g hh (z := h.2.2.1 b k.toNatClampNeg) hr ?_
  simp only [hstep]
  rw [if_pos hbo, hh.1, e4]
  simp only [hin, if_true]
theorem rst_arr {a t n k : Nat} (h : SHl[a]? = some (.inl (t, n))) (hk : k < n) : rst a k = rst a 0 := by
  unfold rst
  rw [h]
  simp only
  rw [if_pos hk, if_pos (by omega)]
theorem cu_ald (g : gam ρ (B, AL, Ast, F) L st h) (hh : HI h) {j a : AV} {A : List AV} (hA : Ast = j :: a :: A) (hj : j.1 = 1) (ha : a.1 = 3) {t : Nat} (ht : t = 3 ∨ t = 4) (hok : arrOK a.2.2.2 t (trg B j.2.1) = true) (hall : a.2.2.2.all (fun b => decide (b < OLDB) && (!(rst b 0).isEmpty && (rst b 0).all (fun z => decide (z < OLDB)))) = true) :
    Suc X W .aaload o pc (B, AL, Ast, F) L st h ρ [(pc + 1, B, AL, rT ((a.2.2.2.map (fun b => rst b 0)).flatten) :: A, F)] := by
  obtain ⟨k, b, st2, rfl, hb, tk, hr⟩ := idx3 g hA hj ha
  obtain ⟨n, e1, e2, e3⟩ := arrOK_in hok hb
  have rk := tOK_rg g.1 tk
  have hin : inB k n = true := inB_of (r := trg B j.2.1) rk.1 rk.2 e2 e3
  have hq := List.all_eq_true.mp hall b hb
  simp only [Bool.and_eq_true, decide_eq_true_eq, Bool.not_eq_true', List.all_eq_true] at hq
  obtain ⟨hbo, hne, hz⟩ := hq
  have e4 := aLen_new hbo e1
  have hkn : k.toNatClampNeg < n := by
    unfold inB at hin
    simp only [Bool.and_eq_true, decide_eq_true_eq] at hin
    exact hin.2
  obtain ⟨z, z1, z2⟩ := hh.2.2 b k.toNatClampNeg (fun e => by rw [rst_arr e4 hkn] at e; rw [e] at hne; cases hne)
  rw [rst_arr e4 hkn] at z1
  have hzo := hz z z1
  refine suc_push g hh (v := .ref z) hr ⟨z, rfl, List.mem_flatten.mpr ⟨_, List.mem_map.mpr ⟨b, hb, rfl⟩, z1⟩⟩ ?_
  simp only [hstep]
  rw [if_pos hbo, hh.1, e4]
  simp only [hin, z2, ht, hzo, and_self, if_true]
theorem cu_len (g : gam ρ (B, AL, Ast, F) L st h) (hh : HI h) {a : AV} {A : List AV} (hA : Ast = a :: A) (ha : a.1 = 3) (hall : a.2.2.2.all (fun b => match aLen b with | some q => (decide (q.1 < 5) || decide (OLDB ≤ b)) && decide (q.2 ≤ 1000) | none => false) = true) :
    Suc X W .arraylength o pc (B, AL, Ast, F) L st h ρ [(pc + 1, pushI (B, AL, Ast, F) A (uni (a.2.2.2.map (fun b => match aLen b with | some q => ((q.2 : Int), (q.2 : Int)) | none => fI))))] := by
  obtain ⟨b, st2, rfl, hb, hr⟩ := one3 g hA ha
  have hq := List.all_eq_true.mp hall b hb
  have hu := uni_ok (List.mem_map.mpr ⟨b, hb, rfl⟩ : (match aLen b with | some q => ((q.2 : Int), (q.2 : Int)) | none => fI) ∈ a.2.2.2.map (fun b => match aLen b with | some q => ((q.2 : Int), (q.2 : Int)) | none => fI))
  cases e1 : aLen b with
  | none => rw [e1] at hq; cases hq
  | some q =>
    obtain ⟨t, n⟩ := q
    rw [e1] at hq hu
    simp only [Bool.and_eq_true, decide_eq_true_eq, Bool.or_eq_true] at hq hu
    have hnn : (Int32.ofNat n).toInt = n := Int32.toInt_ofNat_of_lt (by omega)
    refine suc_new g hh (z := Int32.ofNat n) hr (by omega) (by omega) ?_
    by_cases hbo : b < OLDB
    · have : t < 5 := hq.1.elim id (fun h5 => absurd hbo (Nat.not_lt.mpr h5))
      exact hs_lnew hbo ((congrArg (·[b]?) hh.1).trans (aLen_new hbo e1)) this
    · obtain ⟨f, e4, -⟩ := aLen_old (X := X) hbo e1
      exact hs_lold hbo e4
end SX
end JN36asound3
section JN37asound4
/-! .. fields, stores, copies. -/
section SY
variable {X : Scr} {W : List (Nat × Nat)} {i : Instr} {o : List Nat} {pc pc' : Nat} {B : Bd} {AL Ast : List AV} {F : List (Nat × Nat × Tm)} {L st : List Value} {h : Hp} {ρ : Nat → Int} {l : List (Nat × AS)}
theorem gF_obj {ci k x y b : Nat} {st : List Value} {h : Hp} (hno : ∀ f x y, [ci, k, x, y] = [9, f, x, y] → False) (h1 : b < OLDB) (h2 : h.1[b]? = some (.inr ci)) (h3 : k < vwN ci) : getF [ci, k, x, y] (.ref b :: st) h = (fval h ci b k).map (· :: st) := by
  unfold getF
  split
  · rename_i f p q e
    exact (hno f x y (by cases e; rfl)).elim
  · rename_i c2 k2 p q hn e
    cases e
    show (if b < OLDB ∧ h.1[b]? = some (.inr ci) ∧ k < vwN ci then (fval h ci b k).map (· :: st) else none) = _
    rw [if_pos ⟨h1, h2, h3⟩]
  · rename_i hn
    exact (hn ci k x y rfl).elim
theorem cu_get {S' : AS} {idx : Nat} (g : gam ρ (B, AL, Ast, F) L st h) (hh : HI h) (hu : aGetF o (B, AL, Ast, F) = some S') : Suc X W (.getfield idx) o pc (B, AL, Ast, F) L st h ρ [(pc + 3, S')] := by
  unfold aGetF at hu
  split at hu
  · rename_i f x y
    cases Ast with
    | nil => cases hu
    | cons a A =>
      obtain ⟨⟨h1, h2⟩, hu⟩ := inv_if hu
      cases hu
      obtain ⟨b, st2, rfl, hb, hr⟩ := one3 g rfl h1
      have hq := List.all_eq_true.mp h2 b hb
      simp only [Bool.and_eq_true, decide_eq_true_eq] at hq
      by_cases hf : f = 0
      · rw [if_pos hf]
        refine suc_push g hh (v := .ref (b + 5)) hr ⟨b + 5, rfl, List.mem_map.mpr ⟨b, hb, rfl⟩⟩ ?_
        show (getF [9, f, x, y] (.ref b :: st2) h).map _ = _
        show (if OLDB + 3 ≤ b ∧ b < OLDB + 8 then some ((if f = 0 then Value.ref (b + 5) else .int 0) :: st2) else none).map _ = _
        rw [if_pos hq, if_pos hf]
        rfl
      · rw [if_neg hf]
        refine suc_push g hh (v := .int 0) hr ⟨0, rfl, tOK_c 0⟩ ?_
        show (getF [9, f, x, y] (.ref b :: st2) h).map _ = _
        show (if OLDB + 3 ≤ b ∧ b < OLDB + 8 then some ((if f = 0 then Value.ref (b + 5) else .int 0) :: st2) else none).map _ = _
        rw [if_pos hq, if_neg hf]
        rfl
  · rename_i ci k x y hno
    cases Ast with
    | nil => cases hu
    | cons a A =>
      obtain ⟨⟨h1, h2, h3, h4⟩, hu⟩ := inv_if hu
      obtain ⟨b, st2, rfl, hb, hr⟩ := one3 g rfl h1
      have hq := List.all_eq_true.mp h3 b hb
      simp only [Bool.and_eq_true, decide_eq_true_eq] at hq
      obtain ⟨hbo, hsh⟩ := hq
      have hg := gF_obj (x := x) (y := y) (st := st2) (h := h) (fun f p q e => hno (by cases e; rfl)) hbo (by rw [hh.1]; exact hsh) h4
      have hst : ∀ v, fval h ci b k = some v → hstep X (.getfield idx) [ci, k, x, y] pc L (.ref b :: st2) h = some (pc + 3, L, v :: st2, h) := by
        intro v hv
        show (getF [ci, k, x, y] (.ref b :: st2) h).map _ = _
        rw [hg, hv]
        rfl
      by_cases hR : isRefTy (vwTy ci k) = true
      · rw [if_pos hR] at hu
        obtain ⟨h5, hu⟩ := inv_if hu
        cases hu
        have hq := List.all_eq_true.mp h5 b hb
        simp only [Bool.and_eq_true, decide_eq_true_eq, Bool.not_eq_true', List.all_eq_true] at hq
        obtain ⟨z, z1, z2⟩ := hh.2.2 b k (fun e => by rw [e] at hq; cases hq.1)
        refine suc_push g hh (v := .ref z) hr ⟨z, rfl, List.mem_flatten.mpr ⟨_, List.mem_map.mpr ⟨b, hb, rfl⟩, z1⟩⟩ (hst _ ?_)
        unfold fval
        rw [if_pos hR, z2]
        show (if z < OLDB then some (Value.ref z) else none) = _
        rw [if_pos (hq.2 z z1)]
      · rw [if_neg hR] at hu
        have hv : fval h ci b k = some (.int (h.2.1 b k)) := by unfold fval; rw [if_neg hR]
        have hb0 := hh.2.1 b k
        split at hu
        · rename_i b' hl
          rw [hl] at hb
          cases List.mem_singleton.mp hb
          split at hu
          · rename_i t ht
            cases hu
            exact suc_push g hh (v := .int (h.2.1 b k)) hr ⟨_, rfl, (g.2.2.2 _ (fGet_in ht)).1⟩ (hst _ hv)
          · cases hu
            obtain ⟨ρ', e, bb, t, n⟩ := frT_ok g.1 hb0.1 hb0.2
            have g2 := gam_ext (AL := AL) (Ast := A) (F := F) (st := st2) (L := L) (h := h) ⟨g.1, g.2.1, hr, g.2.2.2⟩ bb n e
            refine ⟨pc + 3, _, ρ', L, _, h, List.mem_singleton.mpr rfl, hst _ hv, ⟨g2.1, g2.2.1, ⟨⟨_, rfl, t⟩, g2.2.2.1⟩, fun q hq => ?_⟩, hh, frm_refl, e, n, rfl⟩
            rcases List.mem_cons.mp hq with rfl | hq
            · exact ⟨t, ci, hsh⟩
            · exact g2.2.2.2 q hq
        · cases hu
          have hun := uni_ok (List.mem_map.mpr ⟨b, hb, rfl⟩ : ivl b k ∈ a.2.2.2.map (fun b => ivl b k))
          exact suc_tm g hh hr (frT_ok g.1 (by omega) (by omega)) (hst _ hv)
  · cases hu
theorem pF_obj {ci k x y b : Nat} {v : Value} {st : List Value} {h : Hp} (h1 : b < OLDB) (h2 : h.1[b]? = some (.inr ci)) (h3 : k < vwN ci) : putF [ci, k, x, y] (v :: .ref b :: st) h = (match v with
        | .int x => if isRefTy (vwTy ci k) then none else if isBoolTy (vwTy ci k) ∧ ¬ (x = 0 ∨ x = 1) then none else some (st, (h.1, ud h.2.1 b k x, h.2.2.1, h.2.2.2))
        | .ref b' => if isRefTy (vwTy ci k) ∧ b' < OLDB then some (st, (h.1, h.2.1, h.2.2.1, ud h.2.2.2 b k (some b'))) else none
        | _ => none) := by
  show (if b < OLDB ∧ h.1[b]? = some (.inr ci) ∧ k < vwN ci then _ else none) = _
  rw [if_pos ⟨h1, h2, h3⟩]
  cases v <;> rfl
theorem b01 {x : Int32} (h1 : 0 ≤ x.toInt) (h2 : x.toInt ≤ 1) : x = 0 ∨ x = 1 := by
  rcases (show x.toInt = 0 ∨ x.toInt = 1 by omega) with e | e
  · exact Or.inl (Int32.toInt.inj e)
  · exact Or.inr (Int32.toInt.inj e)
theorem cu_put {S' : AS} {idx : Nat} (g : gam ρ (B, AL, Ast, F) L st h) (hh : HI h) (hu : aPutF W o (B, AL, Ast, F) = some S') : Suc X W (.putfield idx) o pc (B, AL, Ast, F) L st h ρ [(pc + 3, S')] := by
  unfold aPutF at hu
  split at hu
  · rename_i ci k x y
    match Ast, g, hu with
    | v :: a :: A, g, hu =>
      obtain ⟨⟨h1, h2, h4⟩, hu⟩ := inv_if hu
      obtain ⟨v0, s1, rfl, hv0, hr1⟩ := al2_cons g.2.2.1
      obtain ⟨a0, s2, rfl, ha0, hr⟩ := al2_cons hr1
      obtain ⟨b, rfl, hb⟩ := vm3 h1 ha0
      have hq := List.all_eq_true.mp h2 b hb
      simp only [Bool.and_eq_true, decide_eq_true_eq] at hq
      obtain ⟨⟨hbo, hsh⟩, hw⟩ := hq
      have hp := fun v => pF_obj (x := x) (y := y) (v := v) (st := s2) (h := h) hbo (by rw [hh.1]; exact hsh) h4
      have hst : ∀ v q, putF [ci, k, x, y] (v :: .ref b :: s2) h = some q → hstep X (.putfield idx) [ci, k, x, y] pc L (v :: .ref b :: s2) h = some (pc + 3, L, q.1, q.2) := by
        intro v q hv
        show (putF [ci, k, x, y] (v :: .ref b :: s2) h).map _ = _
        rw [hv]
        rfl
      by_cases hv1 : v.1 = 1
      · rw [if_pos hv1] at hu
        obtain ⟨⟨h5, h6, h7⟩, hu⟩ := inv_if hu
        obtain ⟨z, rfl, hz⟩ := vm1 hv1 hv0
        have rz := tOK_rg g.1 hz
        have hi := rng_ok (List.all_eq_true.mp h6 b hb) rz.1 rz.2
        have hbb : ¬ (isBoolTy (vwTy ci k) = true ∧ ¬ (z = 0 ∨ z = 1)) := by
          rintro ⟨q1, q2⟩
          rcases h7 with h7 | h7
          · rw [q1] at h7; cases h7
          · have := rng_ok h7 rz.1 rz.2
            exact q2 (b01 this.1 this.2)
        have hst1 := hst (.int z) (s2, (h.1, ud h.2.1 b k z, h.2.2.1, h.2.2.2)) (by
          rw [hp]
          show (if isRefTy (vwTy ci k) = true then none else if isBoolTy (vwTy ci k) = true ∧ ¬ (z = 0 ∨ z = 1) then none else some (s2, (h.1, ud h.2.1 b k z, h.2.2.1, h.2.2.2))) = _
          rw [if_neg (by rw [h5]; decide), if_neg hbb])
        have hH := HI_ud (a := b) (i := k) hh hi.1 hi.2
        have hfr := frm_ud (h := h) (x := z) hw
        split at hu
        · rename_i b' hl
          cases hu
          rw [hl] at hb
          cases List.mem_singleton.mp hb
          refine suc_wr g hr hH hfr (fun q hq => ?_) hst1
          rcases List.mem_cons.mp hq with rfl | hq
          · refine ⟨?_, ci, hsh⟩
            show tOK B.length ρ v.2.1 (ud h.2.1 b k z b k).toInt
            rw [udS]
            exact hz
          · obtain ⟨q1, q2⟩ := fDel_in hq
            refine ⟨?_, (g.2.2.2 q q1).2⟩
            show tOK B.length ρ q.2.2 (ud h.2.1 b k z q.1 q.2.1).toInt
            rw [udN q2]
            exact (g.2.2.2 q q1).1
        · cases hu
          refine suc_wr g hr hH hfr (fun q hq => ?_) hst1
          obtain ⟨q1, q2⟩ := fDels_in hq
          refine ⟨?_, (g.2.2.2 q q1).2⟩
          show tOK B.length ρ q.2.2 (ud h.2.1 b k z q.1 q.2.1).toInt
          rw [udN (q2 b hb)]
          exact (g.2.2.2 q q1).1
      · rw [if_neg hv1] at hu
        obtain ⟨hv3, hu⟩ := inv_if hu
        obtain ⟨⟨h5, h6⟩, hu⟩ := inv_if hu
        cases hu
        obtain ⟨z, rfl, hz⟩ := vm3 hv3 hv0
        have hq := List.all_eq_true.mp h6 z hz
        simp only [Bool.and_eq_true, decide_eq_true_eq, List.all_eq_true] at hq
        have hin : z ∈ rst b k := by simpa using hq.2 b hb
        have hst1 := hst (.ref z) (s2, (h.1, h.2.1, h.2.2.1, ud h.2.2.2 b k (some z))) (by
          rw [hp]
          show (if isRefTy (vwTy ci k) = true ∧ z < OLDB then some (s2, (h.1, h.2.1, h.2.2.1, ud h.2.2.2 b k (some z))) else none) = _
          rw [if_pos ⟨h5, hq.1⟩])
        exact suc_wr g hr (HI_R hh hin) (frm_udR hw) (fun q hq => g.2.2.2 q hq) hst1
    | [], _, hu => cases hu
    | [_], _, hu => cases hu
  · cases hu
theorem idx4 (g : gam ρ (B, AL, Ast, F) L st h) {v j a : AV} {A : List AV} (hA : Ast = v :: j :: a :: A) (hj : j.1 = 1) (ha : a.1 = 3) : ∃ v0 k b st2, st = v0 :: .int k :: .ref b :: st2 ∧ vm B.length ρ v v0 ∧ b ∈ a.2.2.2 ∧ tOK B.length ρ j.2.1 k.toInt ∧ al2 (vm B.length ρ) A st2 := by
  subst hA
  obtain ⟨v0, s0, rfl, hv0, hr0⟩ := al2_cons g.2.2.1
  obtain ⟨w1, s1, rfl, hv, hr1⟩ := al2_cons hr0
  obtain ⟨w2, s2, rfl, hw, hr⟩ := al2_cons hr1
  obtain ⟨k, rfl, tk⟩ := vm1 hj hv
  obtain ⟨b, rfl, hb⟩ := vm3 ha hw
  exact ⟨v0, k, b, s2, rfl, hv0, hb, tk, hr⟩
theorem objF_ne {q : Nat × Nat × Tm} (hq : ∃ ci, SHl[q.1]? = some (.inr ci)) {b t n j : Nat} (hb : SHl[b]? = some (.inl (t, n))) : ¬ (q.1 = b ∧ q.2.1 = j) := by
  rintro ⟨e, -⟩
  obtain ⟨ci, hc⟩ := hq
  rw [e, hb] at hc
  cases hc
theorem cu_ist (g : gam ρ (B, AL, Ast, F) L st h) (hh : HI h) {x j a : AV} {A : List AV} (hA : Ast = x :: j :: a :: A) (hx : x.1 = 1) (hj : j.1 = 1) (ha : a.1 = 3) (hok : arrOK a.2.2.2 0 (trg B j.2.1) = true) (hall : a.2.2.2.all (fun b => decide (b < OLDB) && inW W b 999 && rngOK (trg B x.2.1) (ivl b 0)) = true) :
    Suc X W .iastore o pc (B, AL, Ast, F) L st h ρ [(pc + 1, B, AL, A, F)] := by
  obtain ⟨v0, k, b, st2, rfl, hv0, hb, tk, hr⟩ := idx4 g hA hj ha
  obtain ⟨z, rfl, hz⟩ := vm1 hx hv0
  obtain ⟨n, e1, e2, e3⟩ := arrOK_in hok hb
  have rk := tOK_rg g.1 tk
  have rz := tOK_rg g.1 hz
  have hin : inB k n = true := inB_of (r := trg B j.2.1) rk.1 rk.2 e2 e3
  have hq := List.all_eq_true.mp hall b hb
  simp only [Bool.and_eq_true, decide_eq_true_eq] at hq
  obtain ⟨⟨hbo, hw⟩, hrg⟩ := hq
  have e4 := aLen_new hbo e1
  have hi := rng_ok hrg rz.1 rz.2
  refine suc_wr g (h' := (h.1, ud h.2.1 b k.toNatClampNeg z, h.2.2.1, h.2.2.2)) hr (HI_ud hh (by rw [ivl_arr e4]; exact hi.1) (by rw [ivl_arr e4]; exact hi.2)) (frm_ud (inW_arr hw _)) (fun q hq => ?_) ?_
  · refine ⟨?_, (g.2.2.2 q hq).2⟩
    show tOK B.length ρ q.2.2 (ud h.2.1 b k.toNatClampNeg z q.1 q.2.1).toInt
    rw [udN (objF_ne (g.2.2.2 q hq).2 e4)]
    exact (g.2.2.2 q hq).1
  · simp only [hstep]
    rw [if_pos hbo, hh.1, e4]
    simp only [hin, if_true]
theorem cu_bst (g : gam ρ (B, AL, Ast, F) L st h) (hh : HI h) {x j a : AV} {A : List AV} (hA : Ast = x :: j :: a :: A) (hx : x.1 = 1) (hj : j.1 = 1) (ha : a.1 = 3) (h01 : rngOK (trg B x.2.1) (0, 1) = true) (hok : arrOK a.2.2.2 2 (trg B j.2.1) = true) (hall : a.2.2.2.all (fun b => decide (b < OLDB) && inW W b 999 && rngOK (trg B x.2.1) (ivl b 0)) = true) :
    Suc X W .bastore o pc (B, AL, Ast, F) L st h ρ [(pc + 1, B, AL, A, F)] := by
  obtain ⟨v0, k, b, st2, rfl, hv0, hb, tk, hr⟩ := idx4 g hA hj ha
  obtain ⟨z, rfl, hz⟩ := vm1 hx hv0
  obtain ⟨n, e1, e2, e3⟩ := arrOK_in hok hb
  have rk := tOK_rg g.1 tk
  have rz := tOK_rg g.1 hz
  have hin : inB k n = true := inB_of (r := trg B j.2.1) rk.1 rk.2 e2 e3
  have hq := List.all_eq_true.mp hall b hb
  simp only [Bool.and_eq_true, decide_eq_true_eq] at hq
  obtain ⟨⟨hbo, hw⟩, hrg⟩ := hq
  have e4 := aLen_new hbo e1
  have hi := rng_ok hrg rz.1 rz.2
  have h1 := rng_ok h01 rz.1 rz.2
  have hz1 := b01 h1.1 h1.2
  refine suc_wr g (h' := (h.1, ud h.2.1 b k.toNatClampNeg z, h.2.2.1, h.2.2.2)) hr (HI_ud hh (by rw [ivl_arr e4]; exact hi.1) (by rw [ivl_arr e4]; exact hi.2)) (frm_ud (inW_arr hw _)) (fun q hq => ?_) ?_
  · refine ⟨?_, (g.2.2.2 q hq).2⟩
    show tOK B.length ρ q.2.2 (ud h.2.1 b k.toNatClampNeg z q.1 q.2.1).toInt
    rw [udN (objF_ne (g.2.2.2 q hq).2 e4)]
    exact (g.2.2.2 q hq).1
  · simp only [hstep]
    rw [if_pos ⟨hbo, hz1⟩, hh.1, e4]
    simp only [hin, if_true]
theorem cu_lst (g : gam ρ (B, AL, Ast, F) L st h) (hh : HI h) {x j a : AV} {A : List AV} (hA : Ast = x :: j :: a :: A) (hx : x.1 = 2) (hj : j.1 = 1) (ha : a.1 = 3) (hok : arrOK a.2.2.2 1 (trg B j.2.1) = true) (hall : a.2.2.2.all (fun b => decide (b < OLDB) && inW W b 999) = true) :
    Suc X W .lastore o pc (B, AL, Ast, F) L st h ρ [(pc + 1, B, AL, A, F)] := by
  obtain ⟨v0, k, b, st2, rfl, hv0, hb, tk, hr⟩ := idx4 g hA hj ha
  obtain ⟨z, rfl, hz⟩ := vm2 hx hv0
  obtain ⟨n, e1, e2, e3⟩ := arrOK_in hok hb
  have rk := tOK_rg g.1 tk
  have hin : inB k n = true := inB_of (r := trg B j.2.1) rk.1 rk.2 e2 e3
  have hq := List.all_eq_true.mp hall b hb
  simp only [Bool.and_eq_true, decide_eq_true_eq] at hq
  obtain ⟨hbo, hw⟩ := hq
  have e4 := aLen_new hbo e1
  refine suc_wr g (h' := (h.1, h.2.1, ud h.2.2.1 b k.toNatClampNeg z, h.2.2.2)) hr ⟨hh.1, hh.2.1, hh.2.2⟩ (frm_udL (inW_arr hw _)) (fun q hq => g.2.2.2 q hq) ?_
  simp only [hstep]
  rw [if_pos hbo, hh.1, e4]
  simp only [hin, if_true]
end SY
end JN37asound4
section JN38asound5
/-! .. copies, switches; all of them. -/
section SZ
variable {X : Scr} {W : List (Nat × Nat)} {i : Instr} {o : List Nat} {pc pc' : Nat} {B : Bd} {AL Ast : List AV} {F : List (Nat × Nat × Tm)} {L st : List Value} {h : Hp} {ρ : Nat → Int} {l : List (Nat × AS)}
theorem cu_cpy {S' : AS} {idx p1 p2 p3 p4 : Nat} (g : gam ρ (B, AL, Ast, F) L st h) (hh : HI h) (hu : aCopy W (B, AL, Ast, F) = some S') : Suc X W (.invokestatic idx) [9998, p1, p2, p3, p4] pc (B, AL, Ast, F) L st h ρ [(pc + 3, S')] := by
  unfold aCopy at hu
  match Ast, g, hu with
  | n :: dp :: a :: sp :: b :: A, g, hu =>
    obtain ⟨⟨n1, d1, s1, a1, b1, n0, d0, s0, hA, ha, hb⟩, hu⟩ := inv_if hu
    cases hu
    obtain ⟨w1, t1, rfl, k1, r1⟩ := al2_cons g.2.2.1
    obtain ⟨w2, t2, rfl, k2, r2⟩ := al2_cons r1
    obtain ⟨w3, t3, rfl, k3, r3⟩ := al2_cons r2
    obtain ⟨w4, t4, rfl, k4, r4⟩ := al2_cons r3
    obtain ⟨w5, t5, rfl, k5, r5⟩ := al2_cons r4
    obtain ⟨N, rfl, hN⟩ := vm1 n1 k1
    obtain ⟨DP, rfl, hDP⟩ := vm1 d1 k2
    obtain ⟨x, rfl, hx⟩ := vm3 a1 k3
    obtain ⟨SP, rfl, hSP⟩ := vm1 s1 k4
    obtain ⟨y, rfl, hy⟩ := vm3 b1 k5
    have gN : tlo B n.2.1 ≤ N.toInt ∧ N.toInt ≤ thi B n.2.1 := tOK_rg g.1 hN
    have gD : tlo B dp.2.1 ≤ DP.toInt ∧ DP.toInt ≤ thi B dp.2.1 := tOK_rg g.1 hDP
    have gS : tlo B sp.2.1 ≤ SP.toInt ∧ SP.toInt ≤ thi B sp.2.1 := tOK_rg g.1 hSP
    have n0 : 0 ≤ tlo B n.2.1 := n0
    have d0 : 0 ≤ tlo B dp.2.1 := d0
    have s0 : 0 ≤ tlo B sp.2.1 := s0
    have qa := List.all_eq_true.mp ha x hx
    have qb := List.all_eq_true.mp hb y hy
    have hA : A = [] := by simpa using hA
    subst hA
    cases t5 with
    | cons _ _ => exact r5.elim
    | nil =>
    split at qa
    · rename_i m hm
      split at qb
      · rename_i m' hm'
        simp only [Bool.and_eq_true, decide_eq_true_eq] at qa qb
        obtain ⟨⟨⟨xo, xw⟩, xm⟩, xr⟩ := qa
        obtain ⟨yo, ym⟩ := qb
        have xr := List.all_eq_true.mp xr y hy
        have xm : thi B dp.2.1 + thi B n.2.1 ≤ (m : Int) := xm
        have ym : thi B sp.2.1 + thi B n.2.1 ≤ (m' : Int) := ym
        have zN : N.toInt.toNat = N.toNatClampNeg := Int32.toNat_toInt N
        have zD : DP.toInt.toNat = DP.toNatClampNeg := Int32.toNat_toInt DP
        have zS : SP.toInt.toNat = SP.toNatClampNeg := Int32.toNat_toInt SP
        have hz : (0 : Int32).toInt = 0 := rfl
        have pN : ¬ N < 0 := by rw [Int32.lt_iff_toInt_lt]; omega
        have pD : ¬ DP < 0 := by rw [Int32.lt_iff_toInt_lt]; omega
        have pS : ¬ SP < 0 := by rw [Int32.lt_iff_toInt_lt]; omega
        have hst : hstep X (.invokestatic idx) [9998, p1, p2, p3, p4] pc L (.int N :: .int DP :: .ref x :: .int SP :: .ref y :: []) h = some (pc + 3, L, [], (h.1, (fun z => if z = x then va_cpy (h.2.1 y) (h.2.1 x) SP.toNatClampNeg DP.toNatClampNeg N.toNatClampNeg else h.2.1 z), h.2.2.1, h.2.2.2)) := by
          show (copyA (.int N :: .int DP :: .ref x :: .int SP :: .ref y :: []) h).map _ = _
          have : copyA (.int N :: .int DP :: .ref x :: .int SP :: .ref y :: []) h = some ([], (h.1, (fun z => if z = x then va_cpy (h.2.1 y) (h.2.1 x) SP.toNatClampNeg DP.toNatClampNeg N.toNatClampNeg else h.2.1 z), h.2.2.1, h.2.2.2)) := by
            simp only [copyA]
            rw [if_pos ⟨xo, yo, pS, pD, pN, by decide⟩, hh.1, hm, hm']
            simp only
            rw [if_pos ⟨trivial, by omega, by omega⟩]
            rfl
          rw [this]
          rfl
        refine suc_wr g (h' := (h.1, (fun z => if z = x then va_cpy (h.2.1 y) (h.2.1 x) SP.toNatClampNeg DP.toNatClampNeg N.toNatClampNeg else h.2.1 z), h.2.2.1, h.2.2.2)) r5 ⟨hh.1, fun q k => ?_, hh.2.2⟩ (fun q k hq => ⟨?_, rfl, rfl⟩) (fun q hq => ⟨?_, (g.2.2.2 q hq).2⟩) hst
        · show (ivl q k).1 ≤ ((if q = x then va_cpy (h.2.1 y) (h.2.1 x) SP.toNatClampNeg DP.toNatClampNeg N.toNatClampNeg else h.2.1 q) k).toInt ∧ ((if q = x then va_cpy (h.2.1 y) (h.2.1 x) SP.toNatClampNeg DP.toNatClampNeg N.toNatClampNeg else h.2.1 q) k).toInt ≤ (ivl q k).2
          by_cases e : q = x
          · subst e
            rw [if_pos rfl]
            unfold va_cpy
            split
            · have h1 := hh.2.1 y (SP.toNatClampNeg + (k - DP.toNatClampNeg))
              rw [ivl_arr hm'] at h1
              rw [ivl_arr hm]
              exact rng_ok xr h1.1 h1.2
            · exact hh.2.1 q k
          · rw [if_neg e]
            exact hh.2.1 q k
        · show (if q = x then va_cpy (h.2.1 y) (h.2.1 x) SP.toNatClampNeg DP.toNatClampNeg N.toNatClampNeg else h.2.1 q) k = h.2.1 q k
          rw [if_neg]
          intro e
          rw [e, inW_arr xw] at hq
          cases hq
        · show tOK B.length ρ q.2.2 ((if q.1 = x then va_cpy (h.2.1 y) (h.2.1 x) SP.toNatClampNeg DP.toNatClampNeg N.toNatClampNeg else h.2.1 q.1) q.2.1).toInt
          rw [if_neg]
          · exact (g.2.2.2 q hq).1
          · intro e
            exact objF_ne (j := q.2.1) (g.2.2.2 q hq).2 hm ⟨e, rfl⟩
      · cases qb
    · cases qa
  | [], _, hu => cases hu
  | [_], _, hu => cases hu
  | [_, _], _, hu => cases hu
  | [_, _, _], _, hu => cases hu
  | [_, _, _, _], _, hu => cases hu
theorem lk_off : ∀ (ps : List (Int × Int)) (d k : Int), (∃ q ∈ ps, q.1 = k ∧ Op.lookupswitch.offset ps d k = q.2) ∨ ((∀ q ∈ ps, ¬ q.1 = k) ∧ Op.lookupswitch.offset ps d k = d)
  | [], d, k => Or.inr ⟨fun q h => (by cases h), rfl⟩
  | (a, b) :: ps, d, k => by
    have e : Op.lookupswitch.offset ((a, b) :: ps) d k = if a = k then b else Op.lookupswitch.offset ps d k := rfl
    by_cases h : a = k
    · rw [if_pos h] at e
      exact Or.inl ⟨(a, b), List.mem_cons_self, h, e⟩
    · rw [if_neg h] at e
      rcases lk_off ps d k with ⟨q, q1, q2, q3⟩ | ⟨q1, q2⟩
      · exact Or.inl ⟨q, List.mem_cons_of_mem _ q1, q2, e.trans q3⟩
      · refine Or.inr ⟨fun q hq => ?_, e.trans q2⟩
        rcases List.mem_cons.mp hq with rfl | hq
        · exact h
        · exact q1 q hq
theorem suc_rf (g : gam ρ (B, AL, Ast, F) L st h) (hh : HI h) {A : List AV} {st2 : List Value} (hr : al2 (vm B.length ρ) A st2) {B' : Bd} (b : bOK ρ B') (n : B'.length = B.length) (hm : (pc', B', AL, A, F) ∈ l) (hs : hstep X i o pc L st h = some (pc', L, st2, h)) : Suc X W i o pc (B, AL, Ast, F) L st h ρ l := by
  have g2 := gam_ext (B := B) (B' := B') (AL := AL) (Ast := A) (F := F) (st := st2) ⟨g.1, g.2.1, hr, g.2.2.2⟩ b (Nat.le_of_eq n.symm) ext_refl
  exact suc_one hh hm hs g2 ext_refl (Nat.le_of_eq n.symm) rfl
theorem cu_tsw {dflt lo hi : Int} {offs : Array Int} (g : gam ρ (B, AL, Ast, F) L st h) (hh : HI h) (hu : asuc W (.tableswitch dflt lo hi offs) o pc (B, AL, Ast, F) = some l) : Suc X W (.tableswitch dflt lo hi offs) o pc (B, AL, Ast, F) L st h ρ l := by
  simp only [asuc] at hu
  cases Ast with
  | nil => cases hu
  | cons a A =>
    obtain ⟨h1, hu⟩ := inv_if hu
    split at hu
    · rename_i d hd
      obtain ⟨⟨h2, h3⟩, hu⟩ := inv_if hu
      cases hu
      obtain ⟨x, st2, rfl, hx, hr⟩ := one1 g rfl h1
      by_cases ho : x.toInt < lo ∨ hi < x.toInt
      · have hs : hstep X (.tableswitch dflt lo hi offs) o pc L (.int x :: st2) h = some (d, L, st2, h) := by
          show (if x.toInt < lo ∨ hi < x.toInt then (jump pc dflt).map (fun t => (t, L, st2)) else _).map _ = _
          rw [if_pos ho, hd]
          rfl
        rcases ho with ho | ho
        · obtain ⟨B', e, b, n⟩ := refn_ok (lo := -BIGI) (hi := lo - 1) g.1 hx (sm32 x).1 (by omega)
          exact suc_rf g hh hr b n (List.mem_append_left _ (List.mem_map.mpr ⟨B', by rw [show refn (B, AL, a :: A, F).1 a.2.1 (-BIGI) (lo - 1) = some B' from e]; simp, rfl⟩)) hs
        · obtain ⟨B', e, b, n⟩ := refn_ok (lo := hi + 1) (hi := BIGI) g.1 hx (by omega) (sm32 x).2
          exact suc_rf g hh hr b n (List.mem_append_right _ (List.mem_append_left _ (List.mem_map.mpr ⟨B', by rw [show refn (B, AL, a :: A, F).1 a.2.1 (hi + 1) BIGI = some B' from e]; simp, rfl⟩))) hs
      · have hlt : (x.toInt - lo).toNat < offs.size := by omega
        have hj := List.all_eq_true.mp h2 (x.toInt - lo).toNat (List.mem_range.mpr hlt)
        obtain ⟨t, ht⟩ := Option.isSome_iff_exists.mp hj
        have hof : offs[(x.toInt - lo).toNat]? = some (offs.getD (x.toInt - lo).toNat 0) := by
          simp [hlt]
        have hs : hstep X (.tableswitch dflt lo hi offs) o pc L (.int x :: st2) h = some (t, L, st2, h) := by
          show (if x.toInt < lo ∨ hi < x.toInt then _ else (match offs[(x.toInt - lo).toNat]? with | some off => (jump pc off).map (fun t => (t, L, st2)) | none => none)).map _ = _
          rw [if_neg ho, hof]
          simp only
          rw [ht]
          rfl
        obtain ⟨B', e, b, n⟩ := refn_ok (lo := lo + ((x.toInt - lo).toNat : Int)) (hi := lo + ((x.toInt - lo).toNat : Int)) g.1 hx (by omega) (by omega)
        refine suc_rf g hh hr b n (List.mem_append_right _ (List.mem_append_right _ (List.mem_flatten.mpr ⟨_, List.mem_map.mpr ⟨(x.toInt - lo).toNat, List.mem_range.mpr hlt, rfl⟩, List.mem_map.mpr ⟨B', ?_, ?_⟩⟩))) hs
        · rw [show refn (B, AL, a :: A, F).1 a.2.1 (lo + ((x.toInt - lo).toNat : Int)) (lo + ((x.toInt - lo).toNat : Int)) = some B' from e]
          simp
        · rw [ht]
          rfl
    · cases hu
theorem cu_lsw {dflt : Int} {ps : Array (Int × Int)} (g : gam ρ (B, AL, Ast, F) L st h) (hh : HI h) (hu : asuc W (.lookupswitch dflt ps) o pc (B, AL, Ast, F) = some l) : Suc X W (.lookupswitch dflt ps) o pc (B, AL, Ast, F) L st h ρ l := by
  simp only [asuc] at hu
  cases Ast with
  | nil => cases hu
  | cons a A =>
    obtain ⟨⟨h1, hso⟩, hu⟩ := inv_if hu
    split at hu
    · rename_i d hd
      obtain ⟨h2, hu⟩ := inv_if hu
      have hu := Option.some.inj hu
      obtain ⟨x, st2, rfl, hx, hr⟩ := one1 g rfl h1
      have hs : ∀ t, jump pc (Op.lookupswitch.offset ps.toList dflt x.toInt) = some t → hstep X (.lookupswitch dflt ps) o pc L (.int x :: st2) h = some (t, L, st2, h) := by
        intro t ht
        show (if (ps.toList.zip (ps.toList.drop 1)).all (fun (a, next) => a.1 < next.1) = true then (jump pc (Op.lookupswitch.offset ps.toList dflt x.toInt)).map (fun t => (t, L, st2)) else none).map _ = _
        rw [if_pos hso, ht]
        rfl
      rcases lk_off ps.toList dflt x.toInt with ⟨q, q1, q2, q3⟩ | ⟨q1, q2⟩
      · obtain ⟨t, ht⟩ := Option.isSome_iff_exists.mp (List.all_eq_true.mp h2 q q1)
        obtain ⟨B', e, b, n⟩ := refn_ok (lo := q.1) (hi := q.1) g.1 hx (by omega) (by omega)
        refine suc_rf g hh hr b n ?_ (hs t (by rw [q3]; exact ht))
        rw [← hu]
        refine List.mem_append_right _ (List.mem_flatten.mpr ⟨_, List.mem_map.mpr ⟨q, q1, rfl⟩, List.mem_map.mpr ⟨B', ?_, ?_⟩⟩)
        · rw [show refn (B, AL, a :: A, F).1 a.2.1 q.1 q.1 = some B' from e]
          simp
        · rw [ht]
          rfl
      · refine suc_rf g hh hr g.1 rfl ?_ (hs d (by rw [q2]; exact hd))
        rw [← hu]
        refine List.mem_append_left _ ?_
        rw [if_neg]
        · exact List.mem_singleton.mpr rfl
        · rintro ⟨e1, e2⟩
          obtain ⟨q, m1, m2⟩ := List.any_eq_true.mp e2
          have rx : tlo B a.2.1 ≤ x.toInt ∧ x.toInt ≤ thi B a.2.1 := tOK_rg g.1 hx
          refine q1 q m1 ((of_decide_eq_true m2).trans ?_)
          have e1 : tlo B a.2.1 = thi B a.2.1 := e1
          show tlo B a.2.1 = x.toInt
          omega
    · cases hu
theorem cu_dfl (g : gam ρ (B, AL, Ast, F) L st h) (hh : HI h) (hu : (match (generalizing := false) Ast with
    | b :: a :: st => if a.1 = 1 ∧ b.1 = 1 then (match aBin i (trg B a.2.1) (trg B b.2.1) with
        | some r => some [(pc + 1, pushI (B, AL, Ast, F) st r)]
        | none => (match aUn i with | some r => some [(pc + 1, pushI (B, AL, Ast, F) (a :: st) r)] | none => none))
      else if a.1 = 2 ∧ b.1 = 2 ∧ aBinL i = true then some [(pc + 1, pushL (B, AL, Ast, F) st fL)]
      else if a.1 = 2 ∧ b.1 = 1 ∧ aSh i = true then some [(pc + 1, pushL (B, AL, Ast, F) st fL)]
      else if b.1 = 1 then (match aUn i with | some r => some [(pc + 1, pushI (B, AL, Ast, F) (a :: st) r)] | none => none) else none
    | b :: st => if b.1 = 1 then (match aUn i with | some r => some [(pc + 1, pushI (B, AL, Ast, F) st r)] | none => none) else none
    | _ => none) = some l) : Suc X W i o pc (B, AL, Ast, F) L st h ρ l := by
  have un : ∀ (b : AV) (A : List AV), Ast = b :: A → b.1 = 1 → (match aUn i with | some r => some [(pc + 1, pushI (B, AL, Ast, F) A r)] | none => none) = some l → Suc X W i o pc (B, AL, Ast, F) L st h ρ l := by
    intro b A hA hb hu
    cases e : aUn i with
    | none => rw [e] at hu; cases hu
    | some r =>
      rw [e] at hu
      cases hu
      obtain ⟨x, st2, rfl, hx, hr⟩ := one1 g hA hb
      obtain ⟨z, hs, z1, z2⟩ := aUn_ok (X := X) (o := o) (pc := pc) (L := L) (st := st2) (h := h) (x := x) e
      exact suc_new g hh hr z1 z2 hs
  match Ast, g, hu, un with
  | b :: a :: A, g, hu, un =>
    by_cases c1 : a.1 = 1 ∧ b.1 = 1
    · have hu := (if_pos c1).symm.trans hu
      cases e : aBin i (trg B a.2.1) (trg B b.2.1) with
      | none =>
        rw [e] at hu
        exact un b (a :: A) rfl c1.2 hu
      | some r =>
        rw [e] at hu
        cases hu
        obtain ⟨x, y, st2, rfl, hx, hy, hr⟩ := two1 g rfl c1.1 c1.2
        have rx := tOK_rg g.1 hx
        have ry := tOK_rg g.1 hy
        obtain ⟨z, hs, z1, z2⟩ := aBin_ok (X := X) (o := o) (pc := pc) (L := L) (st := st2) (h := h) (x := x) (y := y) e rx.1 rx.2 ry.1 ry.2
        exact suc_new g hh hr z1 z2 hs
    · have hu := (if_neg c1).symm.trans hu
      by_cases c2 : a.1 = 2 ∧ b.1 = 2 ∧ aBinL i = true
      · have hu := (if_pos c2).symm.trans hu
        cases hu
        obtain ⟨x, y, st2, rfl, hx, hy, hr⟩ := two2 g rfl c2.1 c2.2.1
        obtain ⟨z, hs⟩ := aBinL_ok (X := X) (o := o) (pc := pc) (L := L) (st := st2) (h := h) (x := x) (y := y) c2.2.2
        exact suc_newL g hh hr hs
      · have hu := (if_neg c2).symm.trans hu
        by_cases c3 : a.1 = 2 ∧ b.1 = 1 ∧ aSh i = true
        · have hu := (if_pos c3).symm.trans hu
          cases hu
          obtain ⟨w, s1, rfl, hw, hr1⟩ := al2_cons g.2.2.1
          obtain ⟨w2, s2, rfl, hw2, hr⟩ := al2_cons hr1
          obtain ⟨y, rfl, -⟩ := vm1 c3.2.1 hw
          obtain ⟨x, rfl, -⟩ := vm2 c3.1 hw2
          obtain ⟨z, hs⟩ := aSh_ok (X := X) (o := o) (pc := pc) (L := L) (st := s2) (h := h) (x := x) (y := y) c3.2.2
          exact suc_newL g hh hr hs
        · have hu := (if_neg c3).symm.trans hu
          obtain ⟨c4, hu⟩ := inv_if hu
          exact un b (a :: A) rfl c4 hu
  | [b], g, hu, un =>
    obtain ⟨c4, hu⟩ := inv_if hu
    exact un b [] rfl c4 hu
  | [], g, hu, un => cases hu
end SZ
end JN38asound5
section JN39asound6
theorem lg_cmp_sgn (x y : Int64) : lg_cmp x y = sgn x.toInt y.toInt := by
  unfold lg_cmp sgn
  rcases Int.lt_trichotomy x.toInt y.toInt with h | h | h
  · have h1 : ¬ x > y := fun q => by have := Int64.lt_iff_toInt_lt.mp q; omega
    have h2 : ¬ x = y := fun q => by rw [q] at h; omega
    rw [if_neg h1, if_neg h2, if_pos h]
  · have h2 : x = y := Int64.toInt.inj h
    subst h2
    have h1 : ¬ x > x := fun q => by have := Int64.lt_iff_toInt_lt.mp q; omega
    rw [if_neg h1, if_pos rfl, if_neg (by omega), if_pos rfl]
  · have h1 : x > y := Int64.lt_iff_toInt_lt.mpr h
    rw [if_pos h1, if_neg (by omega), if_neg (by omega)]
set_option maxHeartbeats 4000000 in
/-- what may follow an instruction is what the interval machine says -/
theorem asuc_sound {X : Scr} {W : List (Nat × Nat)} {i : Instr} {o : List Nat} {pc : Nat} {S : AS} {L st : List Value} {h : Hp} {ρ : Nat → Int} {l : List (Nat × AS)} (g : gam ρ S L st h) (hh : HI h) (hu : asuc W i o pc S = some l) : Suc X W i o pc S L st h ρ l := by
  obtain ⟨B, AL, Ast, F⟩ := S
  cases i with
  | iconst k => cases hu; exact suc_push g hh g.2.2.1 ⟨_, rfl, tOK_c _⟩ rfl
  | bipush k => cases hu; exact suc_push g hh g.2.2.1 ⟨_, rfl, tOK_c _⟩ rfl
  | sipush k => cases hu; exact suc_push g hh g.2.2.1 ⟨_, rfl, tOK_c _⟩ rfl
  | lconst k => cases hu; exact suc_push g hh g.2.2.1 ⟨_, rfl, tOK_c _⟩ rfl
  | ldc idx =>
    simp only [asuc] at hu
    split at hu
    · cases hu
      exact suc_push g hh g.2.2.1 (v := .int _) ⟨_, rfl, tOK_c _⟩ rfl
    · rename_i j x
      obtain ⟨hj, hu⟩ := inv_if hu
      cases hu
      refine suc_push g hh g.2.2.1 (v := .ref (OLDB + 3 + j)) ⟨_, rfl, List.mem_singleton.mpr rfl⟩ ?_
      show (if j < 5 then some (pc + 2, L, Value.ref (OLDB + 3 + j) :: st) else none).map _ = _
      rw [if_pos hj]
      rfl
    · cases hu
  | ldc_w idx =>
    simp only [asuc] at hu
    split at hu
    · cases hu
      exact suc_push g hh g.2.2.1 (v := .int _) ⟨_, rfl, tOK_c _⟩ rfl
    · cases hu
  | ldc2_w idx =>
    simp only [asuc] at hu
    split at hu
    · cases hu
      exact suc_push g hh g.2.2.1 (v := .long _) ⟨_, rfl, tOK_c _⟩ rfl
    · cases hu
  | iload k => exact cu_load1 g hh hu (fun x e => by show (match L[k]? with | some (.int x) => some (pc + 2, L, Value.int x :: st) | _ => none).map _ = _; rw [e]; rfl)
  | iload_n k => exact cu_load1 g hh hu (fun x e => by show (match L[(k : Nat)]? with | some (.int x) => some (pc + 1, L, Value.int x :: st) | _ => none).map _ = _; rw [e]; rfl)
  | lload k => exact cu_load2 g hh hu (fun x e => by show (match L[k]? with | some (.long x) => some (pc + 2, L, Value.long x :: st) | _ => none).map _ = _; rw [e]; rfl)
  | lload_n k => exact cu_load2 g hh hu (fun x e => by show (match L[(k : Nat)]? with | some (.long x) => some (pc + 1, L, Value.long x :: st) | _ => none).map _ = _; rw [e]; rfl)
  | aload k => exact cu_load3 g hh hu (fun x e hx => by show (match L[k]? with | some (.ref x) => if x = OLDB + 13 then none else some (pc + 2, L, Value.ref x :: st) | _ => none).map _ = _; rw [e]; simp only; rw [if_neg hx]; rfl)
  | aload_n k => exact cu_load3 g hh hu (fun x e hx => by show (match L[(k : Nat)]? with | some (.ref x) => if x = OLDB + 13 then none else some (pc + 1, L, Value.ref x :: st) | _ => none).map _ = _; rw [e]; simp only; rw [if_neg hx]; rfl)
  | istore k => exact cu_sto1 g hh hu (fun x st2 e hk => by subst e; show (if k < L.length ∧ okSt L k = true then some (pc + 2, L.set k (.int x), st2) else none).map _ = _; rw [if_pos hk]; rfl)
  | istore_n k => exact cu_sto1 g hh hu (fun x st2 e hk => by subst e; show (if (k : Nat) < L.length ∧ okSt L k = true then some (pc + 1, L.set k (.int x), st2) else none).map _ = _; rw [if_pos hk]; rfl)
  | lstore k => exact cu_sto2 g hh hu (fun x st2 e hk => by subst e; show (if k + 1 < L.length ∧ okSt L k = true then some (pc + 2, (L.set k (.long x)).set (k + 1) (.retAddr 0), st2) else none).map _ = _; rw [if_pos hk]; rfl)
  | lstore_n k => exact cu_sto2 g hh hu (fun x st2 e hk => by subst e; show (if (k : Nat) + 1 < L.length ∧ okSt L k = true then some (pc + 1, (L.set k (.long x)).set (k + 1) (.retAddr 0), st2) else none).map _ = _; rw [if_pos hk]; rfl)
  | astore_n k => exact cu_sto3 g hh hu (fun x st2 e hk => by subst e; show (if (k : Nat) < L.length ∧ okSt L k = true ∧ ¬ x = OLDB + 13 then some (pc + 1, L.set k (.ref x), st2) else none).map _ = _; rw [if_pos hk]; rfl)
  | iinc k n =>
    simp only [asuc] at hu
    split at hu
    · rename_i a ha
      obtain ⟨⟨h1, h2⟩, hu⟩ := inv_if hu
      cases hu
      obtain ⟨v, e, hv⟩ := al2_get g.2.1 ha
      obtain ⟨x, rfl, hx⟩ := vm1 h1 hv
      obtain ⟨ρ', e', b, t, nn⟩ := addI_ok (y := Int32.ofInt n) g.1 hx (tOK_c (Int32.ofInt n).toInt)
      have g2 := gam_ext (AL := AL) (Ast := Ast) (F := F) (st := st) g b nn e'
      refine suc_one hh (L' := L.set k (.int (x + Int32.ofInt n))) (List.mem_singleton.mpr rfl) ?_ ⟨g2.1, al2_set g2.2.1 ⟨_, rfl, t⟩, g2.2.2.1, g2.2.2.2⟩ e' nn (List.length_set ..)
      show (match L[k]? with | some (.int x) => if okSt L k = true then some (pc + 3, L.set k (.int (x + Int32.ofInt n)), st) else none | _ => none).map _ = _
      rw [e]
      simp only
      rw [if_pos (aOk_ok g.2.1 h2)]
      rfl
    · cases hu
  | iadd =>
    simp only [asuc] at hu
    match Ast, g, hu with
    | b :: a :: A, g, hu =>
      obtain ⟨⟨h1, h2⟩, hu⟩ := inv_if hu
      cases hu
      obtain ⟨x, y, st2, rfl, hx, hy, hr⟩ := two1 g rfl h1 h2
      exact suc_tm g hh hr (addI_ok g.1 hx hy) rfl
    | [_], _, hu => cases hu
    | [], _, hu => cases hu
  | isub =>
    simp only [asuc] at hu
    match Ast, g, hu with
    | b :: a :: A, g, hu =>
      obtain ⟨⟨h1, h2⟩, hu⟩ := inv_if hu
      cases hu
      obtain ⟨x, y, st2, rfl, hx, hy, hr⟩ := two1 g rfl h1 h2
      exact suc_tm g hh hr (subI_ok g.1 hx hy) rfl
    | [_], _, hu => cases hu
    | [], _, hu => cases hu
  | ladd =>
    simp only [asuc] at hu
    match Ast, g, hu with
    | b :: a :: A, g, hu =>
      obtain ⟨⟨h1, h2⟩, hu⟩ := inv_if hu
      cases hu
      obtain ⟨x, y, st2, rfl, hx, hy, hr⟩ := two2 g rfl h1 h2
      exact suc_tmL g hh hr (addL_ok g.1 hx hy) rfl
    | [_], _, hu => cases hu
    | [], _, hu => cases hu
  | lsub =>
    simp only [asuc] at hu
    match Ast, g, hu with
    | b :: a :: A, g, hu =>
      obtain ⟨⟨h1, h2⟩, hu⟩ := inv_if hu
      cases hu
      obtain ⟨x, y, st2, rfl, hx, hy, hr⟩ := two2 g rfl h1 h2
      exact suc_tmL g hh hr (subL_ok g.1 hx hy) rfl
    | [_], _, hu => cases hu
    | [], _, hu => cases hu
  | lcmp =>
    simp only [asuc] at hu
    match Ast, g, hu with
    | b :: a :: A, g, hu =>
      obtain ⟨⟨h1, h2⟩, hu⟩ := inv_if hu
      cases hu
      obtain ⟨x, y, st2, rfl, hx, hy, hr⟩ := two2 g rfl h1 h2
      refine suc_push g hh (v := .int (lg_cmp x y)) hr ⟨x, y, congrArg Value.int (lg_cmp_sgn x y), hx, hy⟩ rfl
    | [_], _, hu => cases hu
    | [], _, hu => cases hu
  | i2l =>
    simp only [asuc] at hu
    cases Ast with
    | nil => cases hu
    | cons a A =>
      obtain ⟨h1, hu⟩ := inv_if hu
      cases hu
      obtain ⟨x, st2, rfl, hx, hr⟩ := one1 g rfl h1
      exact suc_push g hh (v := .long x.toInt64) hr ⟨_, rfl, by rw [Int32.toInt_toInt64]; exact hx⟩ rfl
  | l2i =>
    simp only [asuc] at hu
    cases Ast with
    | nil => cases hu
    | cons a A =>
      obtain ⟨h1, hu⟩ := inv_if hu
      obtain ⟨x, st2, rfl, hx, hr⟩ := one2 g rfl h1
      have rx : tlo B a.2.1 ≤ x.toInt ∧ x.toInt ≤ thi B a.2.1 := tOK_rg g.1 hx
      by_cases hc : rngOK (trg B a.2.1) fI = true
      · rw [if_pos hc] at hu
        cases hu
        have := rng_ok hc rx.1 rx.2
        simp only [fI] at this
        exact suc_push g hh (v := .int x.toInt32) hr ⟨_, rfl, by rw [Int64.toInt_toInt32, bm32 this.1 this.2]; exact hx⟩ rfl
      · rw [if_neg hc] at hu
        cases hu
        exact suc_new g hh (z := x.toInt32) hr (i32r _).1 (i32r _).2 rfl
  | dup =>
    simp only [asuc] at hu
    cases Ast with
    | nil => cases hu
    | cons a A =>
      obtain ⟨h1, hu⟩ := inv_if hu
      cases hu
      obtain ⟨v, st2, rfl, hv, hr⟩ := al2_cons g.2.2.1
      refine suc_push g hh (st2 := v :: st2) ⟨hv, hr⟩ hv ?_
      show (if v.category = 1 then some (pc + 1, L, v :: v :: st2) else none).map _ = _
      rw [if_pos (vm_cat h1 hv)]
      rfl
  | pop =>
    simp only [asuc] at hu
    cases Ast with
    | nil => cases hu
    | cons a A =>
      obtain ⟨h1, hu⟩ := inv_if hu
      cases hu
      obtain ⟨v, st2, rfl, hv, hr⟩ := al2_cons g.2.2.1
      refine suc_one hh (List.mem_singleton.mpr rfl) ?_ ⟨g.1, g.2.1, hr, g.2.2.2⟩ ext_refl (Nat.le_refl _) rfl
      show (if v.category = 1 then some (pc + 1, L, st2) else none).map _ = _
      rw [if_pos (vm_cat h1 hv)]
      rfl
  | dup2 =>
    simp only [asuc] at hu
    match Ast, g, hu with
    | a :: b :: A, g, hu =>
      obtain ⟨⟨h1, h2⟩, hu⟩ := inv_if hu
      cases hu
      obtain ⟨v, s1, rfl, hv, hr1⟩ := al2_cons g.2.2.1
      obtain ⟨w, st2, rfl, hw, hr⟩ := al2_cons hr1
      refine suc_push g hh (st2 := w :: v :: w :: st2) ⟨hw, hv, hw, hr⟩ hv ?_
      show (if v.category = 1 ∧ w.category = 1 then some (pc + 1, L, v :: w :: v :: w :: st2) else none).map _ = _
      rw [if_pos ⟨vm_cat h1 hv, vm_cat h2 hw⟩]
      rfl
    | [_], _, hu => cases hu
    | [], _, hu => cases hu
  | pop2 =>
    simp only [asuc] at hu
    cases Ast with
    | nil => cases hu
    | cons a A =>
      obtain ⟨h1, hu⟩ := inv_if hu
      cases hu
      obtain ⟨x, st2, rfl, hx, hr⟩ := one2 g rfl h1
      exact suc_one hh (List.mem_singleton.mpr rfl) rfl ⟨g.1, g.2.1, hr, g.2.2.2⟩ ext_refl (Nat.le_refl _) rfl
  | ifCond q off =>
    simp only [asuc] at hu
    cases Ast with
    | nil => cases hu
    | cons a A =>
      simp only at hu
      split at hu
      · rename_i t ht
        have hs : ∀ (x : Int32) st2, hstep X (.ifCond q off) o pc L (.int x :: st2) h = some (if condB q x 0 = true then t else pc + 3, L, st2, h) := by
          intro x st2
          show ((jump pc off).map (fun t => (if condB q x 0 = true then t else pc + 3, L, st2))).map _ = _
          rw [ht]
          rfl
        by_cases h1 : a.1 = 1
        · rw [if_pos h1] at hu
          cases hu
          obtain ⟨x, st2, rfl, hx, hr⟩ := one1 g rfl h1
          refine suc_br g hh hr hx (tOK_c 0) (sm32 x) sm0 ?_
          rw [hs, condB_I]
          rfl
        · rw [if_neg h1] at hu
          obtain ⟨h4, hu⟩ := inv_if hu
          cases hu
          obtain ⟨v, st2, rfl, hv, hr⟩ := al2_cons g.2.2.1
          obtain ⟨x, y, rfl, hx, hy⟩ := vm4 h4 hv
          refine suc_br g hh hr hx hy (sm64 x) (sm64 y) ?_
          rw [hs, condB_sgn]
      · cases hu
  | if_icmp q off =>
    simp only [asuc] at hu
    match Ast, g, hu with
    | b :: a :: A, g, hu =>
      simp only at hu
      split at hu
      · rename_i t ht
        obtain ⟨⟨h1, h2⟩, hu⟩ := inv_if hu
        cases hu
        obtain ⟨x, y, st2, rfl, hx, hy, hr⟩ := two1 g rfl h1 h2
        refine suc_br g hh hr hx hy (sm32 x) (sm32 y) ?_
        show ((jump pc off).map (fun t => (if condB q x y = true then t else pc + 3, L, st2))).map _ = _
        rw [ht, condB_I]
        rfl
      · cases hu
    | [_], _, hu => cases hu
    | [], _, hu => cases hu
  | goto off =>
    obtain ⟨t, ht, hu⟩ := Option.map_eq_some_iff.mp (show (jump pc off).map (fun t => [(t, (B, AL, Ast, F))]) = some l from hu)
    cases hu
    refine suc_one hh (List.mem_singleton.mpr rfl) ?_ g ext_refl (Nat.le_refl _) rfl
    show ((jump pc off).map (fun t => (t, L, st))).map _ = _
    rw [ht]
    rfl
  | tableswitch dflt lo hi offs => exact cu_tsw g hh hu
  | lookupswitch dflt ps => exact cu_lsw g hh hu
  | getfield idx =>
    obtain ⟨S', h1, hu⟩ := Option.map_eq_some_iff.mp (show (aGetF o (B, AL, Ast, F)).map (fun S' => [(pc + 3, S')]) = some l from hu)
    cases hu
    exact cu_get g hh h1
  | putfield idx =>
    obtain ⟨S', h1, hu⟩ := Option.map_eq_some_iff.mp (show (aPutF W o (B, AL, Ast, F)).map (fun S' => [(pc + 3, S')]) = some l from hu)
    cases hu
    exact cu_put g hh h1
  | getstatic idx =>
    simp only [asuc] at hu
    split at hu
    · cases hu
      exact suc_push g hh (v := .ref (OLDB + 1)) g.2.2.1 ⟨_, rfl, List.mem_singleton.mpr rfl⟩ rfl
    · cases hu
      exact suc_push g hh (v := .ref (OLDB + 2)) g.2.2.1 ⟨_, rfl, List.mem_singleton.mpr rfl⟩ rfl
    · cases hu
      exact suc_push g hh (v := .int 1) g.2.2.1 ⟨_, rfl, tOK_c 1⟩ rfl
    · cases hu
      exact suc_push g hh (v := .ref (OLDB + 13)) g.2.2.1 ⟨_, rfl, List.mem_singleton.mpr rfl⟩ rfl
    · cases hu
  | arraylength =>
    simp only [asuc] at hu
    cases Ast with
    | nil => cases hu
    | cons a A =>
      obtain ⟨⟨h1, -, h3⟩, hu⟩ := inv_if hu
      cases hu
      exact cu_len g hh rfl h1 h3
  | iaload =>
    simp only [asuc] at hu
    match Ast, g, hu with
    | j :: a :: A, g, hu =>
      obtain ⟨⟨h1, h2, h3⟩, hu⟩ := inv_if hu
      cases hu
      exact cu_ild g hh rfl h1 h2 h3
    | [_], _, hu => cases hu
    | [], _, hu => cases hu
  | baload =>
    simp only [asuc] at hu
    match Ast, g, hu with
    | j :: a :: A, g, hu =>
      obtain ⟨⟨h1, h2, h3⟩, hu⟩ := inv_if hu
      cases hu
      exact cu_bld g hh rfl h1 h2 h3
    | [_], _, hu => cases hu
    | [], _, hu => cases hu
  | laload =>
    simp only [asuc] at hu
    match Ast, g, hu with
    | j :: a :: A, g, hu =>
      obtain ⟨⟨h1, h2, h3, h4⟩, hu⟩ := inv_if hu
      cases hu
      exact cu_lld g hh rfl h1 h2 h3 h4
    | [_], _, hu => cases hu
    | [], _, hu => cases hu
  | aaload =>
    simp only [asuc] at hu
    match Ast, g, hu with
    | j :: a :: A, g, hu =>
      obtain ⟨⟨h1, h2, h3, h4⟩, hu⟩ := inv_if hu
      cases hu
      rcases h3 with h3 | h3
      · exact cu_ald g hh rfl h1 h2 (Or.inl rfl) h3 h4
      · exact cu_ald g hh rfl h1 h2 (Or.inr rfl) h3 h4
    | [_], _, hu => cases hu
    | [], _, hu => cases hu
  | iastore =>
    simp only [asuc] at hu
    match Ast, g, hu with
    | x :: j :: a :: A, g, hu =>
      obtain ⟨⟨h1, h2, h3, h4, h5⟩, hu⟩ := inv_if hu
      cases hu
      exact cu_ist g hh rfl h1 h2 h3 h4 h5
    | [_, _], _, hu => cases hu
    | [_], _, hu => cases hu
    | [], _, hu => cases hu
  | bastore =>
    simp only [asuc] at hu
    match Ast, g, hu with
    | x :: j :: a :: A, g, hu =>
      obtain ⟨⟨h1, h2, h3, h4, h5, h6⟩, hu⟩ := inv_if hu
      cases hu
      exact cu_bst g hh rfl h1 h2 h3 h4 h5 h6
    | [_, _], _, hu => cases hu
    | [_], _, hu => cases hu
    | [], _, hu => cases hu
  | lastore =>
    simp only [asuc] at hu
    match Ast, g, hu with
    | x :: j :: a :: A, g, hu =>
      obtain ⟨⟨h1, h2, h3, h4, h5⟩, hu⟩ := inv_if hu
      cases hu
      exact cu_lst g hh rfl h1 h2 h3 h4 h5
    | [_, _], _, hu => cases hu
    | [_], _, hu => cases hu
    | [], _, hu => cases hu
  | invokestatic idx =>
    simp only [asuc] at hu
    split at hu
    · obtain ⟨S', h1, hu⟩ := Option.map_eq_some_iff.mp hu
      cases hu
      exact cu_cpy g hh h1
    · cases hu
  | _ => exact cu_dfl g hh hu
end JN39asound6
section JN40actr
/-! Contracts, and what checks a method against its own. -/
abbrev Post : Type := Bd × List AV × List (Nat × Nat × Tm) × List (Nat × Nat)
/-- method, depth, bounds of its variables, arguments, where each variable stands among them, ends, what may be written, whether the texts' invariant is wanted -/
abbrev Ctr : Type := Nat × Nat × Bd × List AV × List Nat × List Post × List (Nat × Nat) × Bool × List (Nat × Nat × Tm)
def cY (c : Ctr) : Nat := c.1
def cD (c : Ctr) : Nat := c.2.1
def cB (c : Ctr) : Bd := c.2.2.1
def cA (c : Ctr) : List AV := c.2.2.2.1
def cV (c : Ctr) : List Nat := c.2.2.2.2.1
def cP (c : Ctr) : List Post := c.2.2.2.2.2.1
def cW (c : Ctr) : List (Nat × Nat) := c.2.2.2.2.2.2.1
def cK (c : Ctr) : Bool := c.2.2.2.2.2.2.2.1
/-- what is known of cells at its beginning -/
def cF (c : Ctr) : List (Nat × Nat × Tm) := c.2.2.2.2.2.2.2.2
/-- a place where paths are cut: pc, bounds, locals, where each new variable stands, the measure -/
abbrev Cut : Type := Nat × Bd × List AV × List Nat × List (Nat × Nat × Int) × List (Nat × Nat × Tm)
def kM (C : Cut) : List (Nat × Nat × Int) := C.2.2.2.2.1
def kF (C : Cut) : List (Nat × Nat × Tm) := C.2.2.2.2.2
def sub (σ : List Tm) (t : Tm) : Tm := match t.1 with
  | 0 => t
  | v + 1 => ((σ.getD v (0, 0)).1, (σ.getD v (0, 0)).2 + t.2)
def subA (σ : List Tm) (a : AV) : AV := (a.1, sub σ a.2.1, sub σ a.2.2.1, a.2.2.2)
/-- the value s is of the pattern a -/
def avLe (σ : List Tm) (a s : AV) : Bool := match a.1 with
  | 0 => cat1 s
  | 1 => s.1 == 1 && decide (s.2.1 = sub σ a.2.1) && decide (a.2.1.1 ≤ σ.length)
  | 2 => s.1 == 2 && decide (s.2.1 = sub σ a.2.1) && decide (a.2.1.1 ≤ σ.length)
  | 3 => s.1 == 3 && s.2.2.2.all (fun b => a.2.2.2.contains b)
  | 4 => false
  | _ => true
def avsLe (σ : List Tm) : List AV → List AV → Bool
  | [], [] => true
  | a :: l, s :: m => avLe σ a s && avsLe σ l m
  | _, _ => false
def bdLe (B : Bd) : List Tm → Bd → Bool
  | [], [] => true
  | t :: σ, q :: C => rngOK (trg B t) q && bdLe B σ C
  | _, _ => false
def ids (n : Nat) : List Tm := (List.range n).map (fun i => (i + 1, 0))
def numA (s : AV) : Bool := s.1 == 1 || s.1 == 2
def mcmp (B : Bd) (k0 : Nat) (c0 : Int) (t0 : Tm) (k1 : Nat) (c1 : Int) (t1 : Tm) : Nat := match k0, k1 with
  | 0, 0 => if c0.toNat = c1.toNat then 0 else if c1.toNat < c0.toNat then 1 else 2
  | 1, 1 => if t0.1 = t1.1 then (if c0 - t0.2 = c1 - t1.2 then 0 else if c1 - t1.2 < c0 - t0.2 ∧ thi B t1 ≤ c1 then 1 else 2) else 2
  | 2, 2 => if t0.1 = t1.1 then (if t0.2 - c0 = t1.2 - c1 then 0 else if t1.2 - c1 < t0.2 - c0 ∧ c1 ≤ tlo B t1 then 1 else 2) else 2
  | _, _ => 2
/-- the measure has gone down: from the locals L0 to L1 -/
def mlt (B : Bd) (L0 L1 : List AV) : List (Nat × Nat × Int) → List (Nat × Nat × Int) → Bool
  | x :: l, y :: m => (x.1 == 0 || numA (L0.getD x.2.1 jT)) && (y.1 == 0 || numA (L1.getD y.2.1 jT)) && (match mcmp B x.1 x.2.2 (L0.getD x.2.1 jT).2.1 y.1 y.2.2 (L1.getD y.2.1 jT).2.1 with
    | 0 => mlt B L0 L1 l m
    | 1 => l.length == m.length
    | _ => false)
  | _, _ => false
/-- a source of a variable: a number among these values, or what is known of a cell -/
def vS (S : AS) (l : List AV) (F : List (Nat × Nat × Tm)) (j : Nat) : Option Tm := if j < 100 then (if numA (l.getD j jT) = true then some (l.getD j jT).2.1 else none) else (match F[j - 100]? with
  | some q => fGet S.2.2.2 q.1 q.2.1
  | none => none)
def fFit (S : AS) (σ : List Tm) (n : Nat) (F : List (Nat × Nat × Tm)) : Bool := F.all (fun q => decide (fGet S.2.2.2 q.1 q.2.1 = some (sub σ q.2.2)) && decide (q.2.2.1 ≤ n))
def cutSg (nv : Nat) (S : AS) (C : Cut) : List Tm := ids nv ++ C.2.2.2.1.map (fun k => (vS S S.2.1 (kF C) k).getD (0, 0))
def cutFit (nv : Nat) (S : AS) (C : Cut) : Bool :=
  S.2.2.1.isEmpty && C.2.2.2.1.all (fun k => (vS S S.2.1 (kF C) k).isSome) && bdLe S.1 (cutSg nv S C) C.2.1 && avsLe (cutSg nv S C) C.2.2.1 S.2.1 && fFit S (cutSg nv S C) C.2.1.length (kF C)
def retTy (y : Nat) (r : Int × Int) : Bool := match mRet y with
  | some .int => true
  | some .boolean => rngOK r (0, 1)
  | some .char => rngOK r (0, 65535)
  | some .byte => rngOK r (-128, 127)
  | _ => false
/-- a source of a new variable at an end -/
def srcT (S : AS) (q : Nat × Nat) : Option Tm := if q.1 = 999999 then (match S.2.2.1 with | a :: _ => if numA a = true then some a.2.1 else none | _ => none) else fGet S.2.2.2 q.1 q.2
def postFit (nv : Nat) (S : AS) (P : Post) : Bool := P.2.2.2.all (fun q => (srcT S q).isSome) &&
  bdLe S.1 (ids nv ++ P.2.2.2.map (fun q => (srcT S q).getD (0, 0))) P.1 && avsLe (ids nv ++ P.2.2.2.map (fun q => (srcT S q).getD (0, 0))) P.2.1 S.2.2.1 &&
  P.2.2.1.all (fun q => decide (fGet S.2.2.2 q.1 q.2.1 = some (sub (ids nv ++ P.2.2.2.map (fun q => (srcT S q).getD (0, 0))) q.2.2)) && decide (q.2.2.1 ≤ P.1.length))
def okRet (y nv : Nat) (posts : List Post) (i : Instr) (S : AS) : Bool := (match i with
  | .ireturn => (match S.2.2.1 with | [a] => a.1 == 1 && retTy y (trg S.1 a.2.1) | _ => false)
  | .lreturn => (match S.2.2.1 with | [a] => a.1 == 2 && decide (mRet y = some .long) | _ => false)
  | .return_ => S.2.2.1.isEmpty && decide (mRet y = none)
  | _ => false) && posts.any (postFit nv S)
def isRet (i : Instr) : Bool := match i with
  | .ireturn => true
  | .lreturn => true
  | .return_ => true
  | _ => false
def catA (a : AV) : Nat := if a.1 = 2 then 2 else if cat1 a = true then 1 else 100
def subW (V W : List (Nat × Nat)) : Bool := V.all (fun q => W.any (fun w => w.1 == q.1 && (w.2 == q.2 || w.2 == 999)))
def disW (SUP W : List (Nat × Nat)) : Bool := W.all (fun q => SUP.all (fun s => !(s.1 == q.1 && (s.2 == q.2 || s.2 == 999 || q.2 == 999))))
def slotsA : List AV → Nat
  | [] => 0
  | a :: l => (if a.1 = 2 then 2 else 1) + slotsA l
def recvA (c kd : Nat) (args : List AV) : Bool := if kd = 2 then true else match args with
  | a :: _ => a.1 == 3 && (if kd = 0 then (a.2.2.2.all (fun b => decide (b < OLDB) && decide (SHl[b]? = some (.inr (mCi c)))) && decide (mCi c < 8)) || (decide (mCi c = 9) && a.2.2.2.all (fun b => decide (OLDB + 3 ≤ b) && decide (b < OLDB + 8))) else a.2.2.2.all (fun b => decide (b < OLDB)))
  | [] => false
def refs (B : Bd) : List Tm → Bd → Option Bd
  | t :: σ, q :: C => (match refn B t q.1 q.2 with | some B' => refs B' σ C | none => none)
  | _, _ => some B
def argsA (S : AS) (na : Nat) : List AV := (S.2.2.1.take na).reverse
def sgA (T : Ctr) (S : AS) (na : Nat) : List Tm := (cV T).map (fun j => (vS S (argsA S na) (cF T) j).getD (0, 0))
def sgP (T : Ctr) (S : AS) (na : Nat) (P : Post) : List Tm := sgA T S na ++ (List.range (P.1.length - (cV T).length)).map (fun j => (S.1.length + 1 + j, 0))
/-- the states behind a call that ended so -/
def postS (T : Ctr) (S : AS) (na : Nat) (P : Post) : List AS := (refs S.1 (sgA T S na) P.1).toList.map (fun B1 =>
  (B1 ++ P.1.drop (cV T).length, S.2.1, P.2.1.map (subA (sgP T S na P)) ++ S.2.2.1.drop na, P.2.2.1.map (fun q => (q.1, q.2.1, sub (sgP T S na P) q.2.2)) ++ S.2.2.2.filter (fun q => !inW (cW T) q.1 q.2.1)))
/-- a call under a contract: the states that may come behind -/
def acall (D : Nat) (W : List (Nat × Nat)) (K : Bool) (S : AS) (c na kd : Nat) (T : Ctr) : Option (List AS) :=
  if cY T = c ∧ cD T + 1 ≤ D ∧ subW (cW T) W = true ∧ (cK T = false ∨ K = true) ∧ na ≤ S.2.2.1.length ∧ ((S.2.2.1.drop na).map catA).sum ≤ 8 ∧
    (S.2.2.1.take na).all (fun a => a.1 == 1 || a.1 == 2 || a.1 == 3) = true ∧ slotsA (argsA S na) ≤ mMaxL c ∧ recvA c kd (argsA S na) = true ∧
    (cV T).all (fun j => (vS S (argsA S na) (cF T) j).isSome) = true ∧ bdLe S.1 (sgA T S na) (cB T) = true ∧ avsLe (sgA T S na) (cA T) (argsA S na) = true ∧ fFit S (sgA T S na) (cB T).length (cF T) = true then
    some (((cP T).map (postS T S na)).flatten)
  else none
end JN40actr
section JN41ends
/-! Coming to an end. -/
theorem run_mono {X : Scr} : ∀ (n dp y pc : Nat) (L st : List Value) (h : Hp) (r : Option Value × Hp), run X n dp y pc L st h = some r → run X (n + 1) dp y pc L st h = some r
  | 0, _, _, _, _, _, _, _, hr => by cases hr
  | n + 1, dp, y, pc, L, st, h, r, hr => by
    rw [run] at hr ⊢
    split at hr
    · cases hr
    · rename_i pc0 i len o he
      try rw [he]
      try simp only
      split at hr
      · rename_i q hq
        try rw [hq]
        exact hr
      · rename_i hq
        try rw [hq]
        try simp only
        split at hr
        · rename_i c na kd hc
          try rw [hc]
          try simp only
          split at hr
          · cases hr
          · rename_i dp'
            obtain ⟨hok, hr⟩ := inv_if hr
            try simp only
            rw [if_pos hok]
            split at hr
            · rename_i rv h1 h1e
              rw [run_mono n _ _ _ _ _ _ _ h1e]
              exact run_mono n _ _ _ _ _ _ _ hr
            · cases hr
        · rename_i hc
          try rw [hc]
          try simp only
          split at hr
          · rename_i pc' L' st' h1 h1e
            try rw [h1e]
            exact run_mono n _ _ _ _ _ _ _ hr
          · cases hr
theorem run_le {X : Scr} {n m dp y pc : Nat} {L st : List Value} {h : Hp} {r : Option Value × Hp} (hnm : n ≤ m) (hr : run X n dp y pc L st h = some r) : run X m dp y pc L st h = some r := by
  induction hnm with
  | refl => exact hr
  | step _ ih => exact run_mono _ _ _ _ _ _ _ _ ih
def Ends (X : Scr) (dp y pc : Nat) (L st : List Value) (h : Hp) (Q : Option Value → Hp → Prop) : Prop := ∃ (n : Nat) (v : Option Value) (h' : Hp), run X n dp y pc L st h = some (v, h') ∧ Q v h'
theorem Ends.mono {X : Scr} {dp y pc : Nat} {L st : List Value} {h : Hp} {Q Q' : Option Value → Hp → Prop} (e : Ends X dp y pc L st h Q) (hq : ∀ v h', Q v h' → Q' v h') : Ends X dp y pc L st h Q' := by
  obtain ⟨n, v, h', hr, h1⟩ := e
  exact ⟨n, v, h', hr, hq v h' h1⟩
theorem Ends.ret {X : Scr} {dp y pc pc0 len : Nat} {i : Instr} {o : List Nat} {L st : List Value} {h : Hp} {Q : Option Value → Hp → Prop} {v : Option Value} (he : pAt y pc = some (pc0, i, len, o)) (hr : retO y i st h = some (some (v, h))) (hq : Q v h) : Ends X dp y pc L st h Q := by
  refine ⟨1, v, h, ?_, hq⟩
  rw [run, he]
  simp only
  rw [hr]
theorem Ends.step {X : Scr} {dp y pc pc0 len pc' : Nat} {i : Instr} {o : List Nat} {L st L' st' : List Value} {h h' : Hp} {Q : Option Value → Hp → Prop} (he : pAt y pc = some (pc0, i, len, o)) (hr : retO y i st h = none) (hc : callO i o = none) (hs : hstep X i o pc L st h = some (pc', L', st', h')) (e : Ends X dp y pc' L' st' h' Q) : Ends X dp y pc L st h Q := by
  obtain ⟨n, v, h2, h1, hq⟩ := e
  refine ⟨n + 1, v, h2, ?_, hq⟩
  rw [run, he]
  simp only
  rw [hr]
  simp only
  rw [hc]
  simp only
  rw [hs]
  exact h1
theorem Ends.call {X : Scr} {dp y pc pc0 len c na kd : Nat} {i : Instr} {o : List Nat} {L st : List Value} {h : Hp} {Q : Option Value → Hp → Prop} (he : pAt y pc = some (pc0, i, len, o)) (hr : retO y i st h = none) (hc : callO i o = some (c, na, kd)) (hok : callOK c na kd st h = true)
    (e : Ends X dp c 0 (entL (mMaxL c) (st.take na).reverse) [] h (fun rv h1 => Ends X (dp + 1) y (pc + 3) L (rv.toList ++ st.drop na) h1 Q)) : Ends X (dp + 1) y pc L st h Q := by
  obtain ⟨n, v, h2, h1, m, w, h3, h4, hq⟩ := e
  refine ⟨max n m + 1, w, h3, ?_, hq⟩
  rw [run, he]
  simp only
  rw [hr]
  simp only
  rw [hc]
  simp only
  rw [if_pos hok, run_le (Nat.le_max_left n m) h1]
  exact run_le (Nat.le_max_right n m) h4
/-- induction over lists of numbers of one length, the first place first -/
def lxl : List Nat → List Nat → Prop
  | a :: l, b :: m => (b < a ∧ m.length = l.length) ∨ (b = a ∧ lxl l m)
  | _, _ => False
theorem lx_ind {P : List Nat → Prop} (n : Nat) : ∀ (l : List Nat), l.length = n → (∀ l, l.length = n → (∀ m, m.length = n → lxl l m → P m) → P l) → P l := by
  induction n generalizing P with
  | zero =>
    intro l hl hP
    refine hP l hl (fun m _ hm => ?_)
    cases l with
    | nil => exact hm.elim
    | cons a l => simp at hl
  | succ n ih =>
    intro l hl hP
    have key : ∀ (a : Nat) (l : List Nat), l.length = n → P (a :: l) := by
      intro a
      induction a using Nat.strongRecOn with
      | ind a iha =>
        intro l hl
        refine ih (P := fun l => P (a :: l)) l hl (fun l hl hm => ?_)
        refine hP (a :: l) (by simp [hl]) (fun m hml hlx => ?_)
        cases m with
        | nil => exact hlx.elim
        | cons b m =>
          rcases hlx with ⟨h1, h2⟩ | ⟨rfl, h2⟩
          · exact iha b h1 m (h2.trans hl)
          · exact hm m (by simpa using hml) h2
    cases l with
    | nil => simp at hl
    | cons a l => exact key a l (by simpa using hl)
/-! patterns -/
theorem sub_ok {n : Nat} {ρ ρ' : Nat → Int} {σ : List Tm} (hσ : ∀ v, v < σ.length → tOK n ρ (σ.getD v (0, 0)) (ρ' v)) {t : Tm} {x : Int} (ht : t.1 ≤ σ.length) (h : tOK n ρ (sub σ t) x) : tOK σ.length ρ' t x := by
  obtain ⟨k, c⟩ := t
  refine ⟨ht, ?_⟩
  cases k with
  | zero => exact h.2
  | succ v =>
    have h1 := (hσ v ht).2
    have h2 := h.2
    show x = ρ' v + c
    rw [h1]
    have h3 : x = rv ρ (σ.getD v (0, 0)).1 + ((σ.getD v (0, 0)).2 + c) := h2
    show x = rv ρ (σ.getD v (0, 0)).1 + (σ.getD v (0, 0)).2 + c
    omega
theorem sub_ok2 {n : Nat} {ρ ρ' : Nat → Int} {σ : List Tm} (hσ : ∀ v, v < σ.length → tOK n ρ (σ.getD v (0, 0)) (ρ' v)) {t : Tm} {x : Int} (h : tOK σ.length ρ' t x) : tOK n ρ (sub σ t) x := by
  obtain ⟨k, c⟩ := t
  cases k with
  | zero => exact ⟨Nat.zero_le _, h.2⟩
  | succ v =>
    have h1 := hσ v h.1
    have h2 : x = ρ' v + c := h.2
    have h3 : ρ' v = rv ρ (σ.getD v (0, 0)).1 + (σ.getD v (0, 0)).2 := h1.2
    refine ⟨h1.1, ?_⟩
    show x = rv ρ (σ.getD v (0, 0)).1 + ((σ.getD v (0, 0)).2 + c)
    omega
theorem bdLe_len {B : Bd} : ∀ {σ : List Tm} {C : Bd}, bdLe B σ C = true → σ.length = C.length
  | [], [], _ => rfl
  | t :: σ, q :: C, h => by
    have := bdLe_len ((Bool.and_eq_true _ _).mp h).2
    simp [this]
  | [], _ :: _, h => by cases h
  | _ :: _, [], h => by cases h
theorem bdLe_ok {B : Bd} : ∀ {σ : List Tm} {C : Bd}, bdLe B σ C = true → ∀ v, v < σ.length → ∃ q, C[v]? = some q ∧ rngOK (trg B (σ.getD v (0, 0))) q = true
  | t :: σ, q :: C, h, 0, _ => ⟨q, rfl, ((Bool.and_eq_true _ _).mp h).1⟩
  | t :: σ, q :: C, h, v + 1, hv => by
    obtain ⟨p, h1, h2⟩ := bdLe_ok ((Bool.and_eq_true _ _).mp h).2 v (by simpa using hv)
    exact ⟨p, by simpa using h1, by simpa using h2⟩
  | [], _, _, _, hv => absurd hv (by simp)
  | _ :: _, [], h, _, _ => by cases h
/-- terms give numbers to the pattern's variables -/
theorem bd_of {B : Bd} {ρ ρ' : Nat → Int} {σ : List Tm} {C : Bd} (hb : bOK ρ B) (hσ : ∀ v, v < σ.length → tOK B.length ρ (σ.getD v (0, 0)) (ρ' v)) (h : bdLe B σ C = true) : bOK ρ' C := by
  intro v q hq
  have hv : v < σ.length := by rw [bdLe_len h]; exact (List.getElem?_eq_some_iff.mp hq).1
  obtain ⟨p, h1, h2⟩ := bdLe_ok h v hv
  cases hq.symm.trans h1
  have := tOK_rg hb (hσ v hv)
  exact rng_ok h2 this.1 this.2
end JN41ends
section JN42fits
/-! What fits a pattern is of it. -/
theorem avLe_ok {n : Nat} {ρ ρ' : Nat → Int} {σ : List Tm} (hσ : ∀ v, v < σ.length → tOK n ρ (σ.getD v (0, 0)) (ρ' v)) {a s : AV} {v : Value} (h : avLe σ a s = true) (hv : vm n ρ s v) : vm σ.length ρ' a v := by
  obtain ⟨k, t, u, l⟩ := a
  match k, h with
  | 0, h => exact vm_cat h hv
  | 1, h =>
    simp only [avLe, Bool.and_eq_true, beq_iff_eq, decide_eq_true_eq] at h
    obtain ⟨⟨h1, h2⟩, h3⟩ := h
    obtain ⟨x, rfl, hx⟩ := vm1 h1 hv
    rw [h2] at hx
    exact ⟨x, rfl, sub_ok hσ h3 hx⟩
  | 2, h =>
    simp only [avLe, Bool.and_eq_true, beq_iff_eq, decide_eq_true_eq] at h
    obtain ⟨⟨h1, h2⟩, h3⟩ := h
    obtain ⟨x, rfl, hx⟩ := vm2 h1 hv
    rw [h2] at hx
    exact ⟨x, rfl, sub_ok hσ h3 hx⟩
  | 3, h =>
    simp only [avLe, Bool.and_eq_true, beq_iff_eq, List.all_eq_true] at h
    obtain ⟨h1, h2⟩ := h
    obtain ⟨b, rfl, hb⟩ := vm3 h1 hv
    exact ⟨b, rfl, by simpa using h2 b hb⟩
  | 4, h => cases h
  | _ + 5, _ => trivial
theorem avsLe_ok {n : Nat} {ρ ρ' : Nat → Int} {σ : List Tm} (hσ : ∀ v, v < σ.length → tOK n ρ (σ.getD v (0, 0)) (ρ' v)) : ∀ {A S : List AV} {L : List Value}, avsLe σ A S = true → al2 (vm n ρ) S L → al2 (vm σ.length ρ') A L
  | [], [], [], _, _ => trivial
  | a :: A, s :: S, v :: L, h, g => ⟨avLe_ok hσ ((Bool.and_eq_true _ _).mp h).1 g.1, avsLe_ok hσ ((Bool.and_eq_true _ _).mp h).2 g.2⟩
  | [], _ :: _, _, h, _ => by cases h
  | _ :: _, [], _, h, _ => by cases h
  | [], [], _ :: _, _, g => g.elim
  | _ :: _, _ :: _, [], _, g => g.elim
theorem num_t {n : Nat} {ρ : Nat → Int} {a : AV} {v : Value} (ha : numA a = true) (h : vm n ρ a v) : a.2.1.1 ≤ n := by
  rcases (Bool.or_eq_true _ _).mp ha with h1 | h1
  · obtain ⟨x, -, hx⟩ := vm1 (by simpa using h1) h
    exact hx.1
  · obtain ⟨x, -, hx⟩ := vm2 (by simpa using h1) h
    exact hx.1
theorem num_at {n : Nat} {ρ : Nat → Int} {A : List AV} {L : List Value} (g : al2 (vm n ρ) A L) {k : Nat} (h : numA (A.getD k jT) = true) : (A.getD k jT).2.1.1 ≤ n ∧ ∃ v, L[k]? = some v ∧ vm n ρ (A.getD k jT) v := by
  cases e : A[k]? with
  | none =>
    rw [List.getD_eq_getElem?_getD, e] at h
    cases h
  | some a =>
    obtain ⟨v, h1, h2⟩ := al2_get g e
    have e2 : A.getD k jT = a := by rw [List.getD_eq_getElem?_getD, e]; rfl
    rw [e2] at h ⊢
    exact ⟨num_t h h2, v, h1, h2⟩
theorem ids_at {n v : Nat} {l : List Tm} (hv : v < n) : (ids n ++ l).getD v (0, 0) = (v + 1, 0) := by
  unfold ids
  rw [List.getD_eq_getElem?_getD, List.getElem?_append_left (by simpa using hv), List.getElem?_map, List.getElem?_range hv]
  rfl
theorem ids_len {n : Nat} {l : List Tm} : (ids n ++ l).length = n + l.length := by simp [ids]
theorem sig_ok {n nv : Nat} {ρ : Nat → Int} {rest : List Tm} (hn : nv ≤ n) (hr : ∀ t ∈ rest, t.1 ≤ n) : (∀ v, v < (ids nv ++ rest).length → tOK n ρ ((ids nv ++ rest).getD v (0, 0)) (ev ρ ((ids nv ++ rest).getD v (0, 0)))) ∧ ext nv ρ (fun v => ev ρ ((ids nv ++ rest).getD v (0, 0))) := by
  constructor
  · intro v hv
    refine ⟨?_, rfl⟩
    by_cases h : v < nv
    · rw [ids_at h]
      show v + 1 ≤ n
      omega
    · have hl : (ids nv).length = nv := by simp [ids]
      have h2 : v - nv < rest.length := by rw [ids_len] at hv; omega
      have e : (ids nv ++ rest).getD v (0, 0) = rest[v - nv] := by
        rw [List.getD_eq_getElem?_getD, List.getElem?_append_right (by omega), hl, List.getElem?_eq_getElem h2]
        rfl
      rw [e]
      exact hr _ (List.getElem_mem h2)
  · intro v hv
    show ev ρ ((ids nv ++ rest).getD v (0, 0)) = ρ v
    rw [ids_at hv]
    show ρ v + 0 = ρ v
    omega
theorem vS_ok {ρ : Nat → Int} {S : AS} {L M st : List Value} {h : Hp} {l : List AV} {F : List (Nat × Nat × Tm)} {j : Nat} {t : Tm} (g : gam ρ S L st h) (gl : al2 (vm S.1.length ρ) l M) (ht : vS S l F j = some t) : t.1 ≤ S.1.length := by
  unfold vS at ht
  split at ht
  · obtain ⟨h1, ht⟩ := inv_if ht
    cases ht
    exact (num_at gl h1).1
  · split at ht
    · exact (g.2.2.2 _ (fGet_in ht)).1.1
    · cases ht
theorem fFit_ok {ρ ρ' : Nat → Int} {S : AS} {L st : List Value} {h : Hp} {σ : List Tm} {n : Nat} {F : List (Nat × Nat × Tm)} (g : gam ρ S L st h) (hσ : ∀ v, v < σ.length → tOK S.1.length ρ (σ.getD v (0, 0)) (ρ' v)) (hn : σ.length = n) (hf : fFit S σ n F = true) :
    ∀ q ∈ F, tOK n ρ' q.2.2 (h.2.1 q.1 q.2.1).toInt ∧ ∃ ci, SHl[q.1]? = some (.inr ci) := by
  intro q hq
  have h5 := List.all_eq_true.mp hf q hq
  simp only [Bool.and_eq_true, decide_eq_true_eq] at h5
  have h6 := g.2.2.2 _ (fGet_in h5.1)
  refine ⟨?_, h6.2⟩
  rw [← hn]
  exact sub_ok hσ (by rw [hn]; exact h5.2) h6.1
theorem cutFit_ok {nv : Nat} {ρ : Nat → Int} {S : AS} {L st : List Value} {h : Hp} {C : Cut} (g : gam ρ S L st h) (hn : nv ≤ S.1.length) (hf : cutFit nv S C = true) :
    ∃ ρ', ext nv ρ ρ' ∧ gam ρ' (C.2.1, C.2.2.1, [], kF C) L [] h ∧ st = [] ∧ nv ≤ C.2.1.length := by
  unfold cutFit at hf
  obtain ⟨h1234, h5⟩ := (Bool.and_eq_true _ _).mp hf
  obtain ⟨h123, h4⟩ := (Bool.and_eq_true _ _).mp h1234
  obtain ⟨h12, h3⟩ := (Bool.and_eq_true _ _).mp h123
  obtain ⟨h1, h2⟩ := (Bool.and_eq_true _ _).mp h12
  have hst : st = [] := by
    have e : S.2.2.1 = [] := by simpa using h1
    have := al2_len g.2.2.1
    rw [e] at this
    exact List.length_eq_zero_iff.mp this.symm
  obtain ⟨k1, k2⟩ := sig_ok (ρ := ρ) (rest := C.2.2.2.1.map (fun k => (vS S S.2.1 (kF C) k).getD (0, 0))) hn (fun t ht => by
    obtain ⟨k, hk, rfl⟩ := List.mem_map.mp ht
    obtain ⟨t, ht⟩ := Option.isSome_iff_exists.mp (List.all_eq_true.mp h2 k hk)
    rw [ht]
    exact vS_ok g g.2.1 ht)
  have hl := bdLe_len h3
  refine ⟨_, k2, ⟨bd_of g.1 k1 h3, ?_, trivial, fFit_ok g k1 hl h5⟩, hst, ?_⟩
  · show al2 (vm C.2.1.length _) C.2.2.1 L
    rw [← hl]
    exact avsLe_ok k1 h4 g.2.1
  · rw [← hl]
    unfold cutSg
    rw [ids_len]
    omega
def Qpost (nv : Nat) (ρ0 : Nat → Int) (posts : List Post) (v : Option Value) (h' : Hp) : Prop :=
  ∃ P ∈ posts, ∃ ρ', ext nv ρ0 ρ' ∧ bOK ρ' P.1 ∧ nv ≤ P.1.length ∧ al2 (vm P.1.length ρ') P.2.1 v.toList ∧ ∀ q ∈ P.2.2.1, tOK P.1.length ρ' q.2.2 (h'.2.1 q.1 q.2.1).toInt ∧ ∃ ci, SHl[q.1]? = some (.inr ci)
theorem postFit_ok {nv : Nat} {ρ0 ρ : Nat → Int} {S : AS} {L : List Value} {h : Hp} {v : Option Value} {posts : List Post} (g : gam ρ S L v.toList h) (hn : nv ≤ S.1.length) (he : ext nv ρ0 ρ) (hf : posts.any (postFit nv S) = true) : Qpost nv ρ0 posts v h := by
  obtain ⟨P, hP, hf⟩ := List.any_eq_true.mp hf
  unfold postFit at hf
  obtain ⟨h123, h4⟩ := (Bool.and_eq_true _ _).mp hf
  obtain ⟨h12, h3⟩ := (Bool.and_eq_true _ _).mp h123
  obtain ⟨h1, h2⟩ := (Bool.and_eq_true _ _).mp h12
  obtain ⟨k1, k2⟩ := sig_ok (ρ := ρ) (rest := P.2.2.2.map (fun q => (srcT S q).getD (0, 0))) hn (fun t ht => by
    obtain ⟨q, hq, rfl⟩ := List.mem_map.mp ht
    obtain ⟨t, ht⟩ := Option.isSome_iff_exists.mp (List.all_eq_true.mp h1 q hq)
    rw [ht]
    show t.1 ≤ _
    unfold srcT at ht
    split at ht
    · split at ht
      · rename_i a A hA
        obtain ⟨ha, ht⟩ := inv_if ht
        cases ht
        have g3 := g.2.2.1
        rw [hA] at g3
        obtain ⟨w, _, -, hw, -⟩ := al2_cons g3
        exact num_t ha hw
      · cases ht
    · exact (g.2.2.2 _ (fGet_in ht)).1.1)
  have hl := bdLe_len h2
  refine ⟨P, hP, _, ext_trans (Nat.le_refl _) he k2, bd_of g.1 k1 h2, ?_, ?_, fun q hq => ?_⟩
  · rw [← hl, ids_len]
    omega
  · rw [← hl]
    exact avsLe_ok k1 h3 g.2.2.1
  · have h5 := List.all_eq_true.mp h4 q hq
    simp only [Bool.and_eq_true, decide_eq_true_eq] at h5
    have h6 := g.2.2.2 _ (fGet_in h5.1)
    refine ⟨?_, h6.2⟩
    rw [← hl]
    exact sub_ok k1 (by rw [hl]; exact h5.2) h6.1
/-- a measure's numbers -/
def intV (v : Value) : Int := match v with
  | .int x => x.toInt
  | .long x => x.toInt
  | _ => 0
def mOne (L : List Value) (x : Nat × Nat × Int) : Nat := match x.1 with
  | 0 => x.2.2.toNat
  | 1 => (x.2.2 - intV (L.getD x.2.1 (.retAddr 0))).toNat
  | _ => (intV (L.getD x.2.1 (.retAddr 0)) - x.2.2).toNat
theorem num_val {n : Nat} {ρ : Nat → Int} {A : List AV} {L : List Value} (g : al2 (vm n ρ) A L) {k : Nat} (h : numA (A.getD k jT) = true) : tOK n ρ (A.getD k jT).2.1 (intV (L.getD k (.retAddr 0))) := by
  obtain ⟨-, v, e, hv⟩ := num_at g h
  have e2 : L.getD k (.retAddr 0) = v := by rw [List.getD_eq_getElem?_getD, e]; rfl
  rw [e2]
  rcases (Bool.or_eq_true _ _).mp h with h1 | h1
  · obtain ⟨x, rfl, hx⟩ := vm1 (by simpa using h1) hv
    exact hx
  · obtain ⟨x, rfl, hx⟩ := vm2 (by simpa using h1) hv
    exact hx
end JN42fits
section JN43meas
/-! The measure goes down. -/
theorem mcmp_ok {n : Nat} {B : Bd} {ρ : Nat → Int} {L0 L1 : List Value} {A0 A1 : List AV} {x y : Nat × Nat × Int} (hn : n = B.length) (hb : bOK ρ B) (g0 : x.1 = 0 ∨ tOK n ρ (A0.getD x.2.1 jT).2.1 (intV (L0.getD x.2.1 (.retAddr 0)))) (g1 : y.1 = 0 ∨ tOK n ρ (A1.getD y.2.1 jT).2.1 (intV (L1.getD y.2.1 (.retAddr 0)))) :
    (mcmp B x.1 x.2.2 (A0.getD x.2.1 jT).2.1 y.1 y.2.2 (A1.getD y.2.1 jT).2.1 = 0 → mOne L1 y = mOne L0 x) ∧ (mcmp B x.1 x.2.2 (A0.getD x.2.1 jT).2.1 y.1 y.2.2 (A1.getD y.2.1 jT).2.1 = 1 → mOne L1 y < mOne L0 x) := by
  subst hn
  obtain ⟨k0, a0, c0⟩ := x
  obtain ⟨k1, a1, c1⟩ := y
  simp only at g0 g1 ⊢
  generalize (A0.getD a0 jT).2.1 = t0 at g0 ⊢
  generalize (A1.getD a1 jT).2.1 = t1 at g1 ⊢
  generalize e0 : intV (L0.getD a0 (.retAddr 0)) = x0 at g0
  generalize e1 : intV (L1.getD a1 (.retAddr 0)) = x1 at g1
  match k0, k1 with
  | 0, 0 =>
    show ((if c0.toNat = c1.toNat then 0 else if c1.toNat < c0.toNat then 1 else 2) = 0 → c1.toNat = c0.toNat) ∧ ((if c0.toNat = c1.toNat then 0 else if c1.toNat < c0.toNat then 1 else 2) = 1 → c1.toNat < c0.toNat)
    constructor <;> intro h <;> split at h <;> first | omega | (split at h <;> omega)
  | 1, 1 =>
    have g0 : tOK B.length ρ t0 x0 := g0.resolve_left (by decide)
    have g1 : tOK B.length ρ t1 x1 := g1.resolve_left (by decide)
    have r1 := tOK_rg hb g1
    have v0 : x0 = rv ρ t0.1 + t0.2 := g0.2
    have v1 : x1 = rv ρ t1.1 + t1.2 := g1.2
    show ((if t0.1 = t1.1 then (if c0 - t0.2 = c1 - t1.2 then 0 else if c1 - t1.2 < c0 - t0.2 ∧ thi B t1 ≤ c1 then 1 else 2) else 2) = 0 → (c1 - intV (L1.getD a1 (.retAddr 0))).toNat = (c0 - intV (L0.getD a0 (.retAddr 0))).toNat) ∧
      ((if t0.1 = t1.1 then (if c0 - t0.2 = c1 - t1.2 then 0 else if c1 - t1.2 < c0 - t0.2 ∧ thi B t1 ≤ c1 then 1 else 2) else 2) = 1 → (c1 - intV (L1.getD a1 (.retAddr 0))).toNat < (c0 - intV (L0.getD a0 (.retAddr 0))).toNat)
    rw [e0, e1]
    by_cases hv : t0.1 = t1.1
    · rw [if_pos hv]
      rw [hv] at v0
      constructor <;> intro h <;> split at h <;> first | omega | (split at h <;> omega)
    · rw [if_neg hv]
      constructor <;> intro h <;> omega
  | 2, 2 =>
    have g0 : tOK B.length ρ t0 x0 := g0.resolve_left (by decide)
    have g1 : tOK B.length ρ t1 x1 := g1.resolve_left (by decide)
    have r1 := tOK_rg hb g1
    have v0 : x0 = rv ρ t0.1 + t0.2 := g0.2
    have v1 : x1 = rv ρ t1.1 + t1.2 := g1.2
    show ((if t0.1 = t1.1 then (if t0.2 - c0 = t1.2 - c1 then 0 else if t1.2 - c1 < t0.2 - c0 ∧ c1 ≤ tlo B t1 then 1 else 2) else 2) = 0 → (intV (L1.getD a1 (.retAddr 0)) - c1).toNat = (intV (L0.getD a0 (.retAddr 0)) - c0).toNat) ∧
      ((if t0.1 = t1.1 then (if t0.2 - c0 = t1.2 - c1 then 0 else if t1.2 - c1 < t0.2 - c0 ∧ c1 ≤ tlo B t1 then 1 else 2) else 2) = 1 → (intV (L1.getD a1 (.retAddr 0)) - c1).toNat < (intV (L0.getD a0 (.retAddr 0)) - c0).toNat)
    rw [e0, e1]
    by_cases hv : t0.1 = t1.1
    · rw [if_pos hv]
      rw [hv] at v0
      constructor <;> intro h <;> split at h <;> first | omega | (split at h <;> omega)
    · rw [if_neg hv]
      constructor <;> intro h <;> omega
  | 0, 1 => exact ⟨fun h => (by cases h), fun h => (by cases h)⟩
  | 0, k + 2 => exact ⟨fun h => (by cases h), fun h => (by cases h)⟩
  | 1, 0 => exact ⟨fun h => (by cases h), fun h => (by cases h)⟩
  | 1, k + 2 => exact ⟨fun h => (by cases h), fun h => (by cases h)⟩
  | 2, 0 => exact ⟨fun h => (by cases h), fun h => (by cases h)⟩
  | 2, 1 => exact ⟨fun h => (by cases h), fun h => (by cases h)⟩
  | 2, k + 3 => exact ⟨fun h => (by cases h), fun h => (by cases h)⟩
  | k + 3, 0 => exact ⟨fun h => (by cases h), fun h => (by cases h)⟩
  | k + 3, 1 => exact ⟨fun h => (by cases h), fun h => (by cases h)⟩
  | k + 3, 2 => exact ⟨fun h => (by cases h), fun h => (by cases h)⟩
  | k + 3, j + 3 => exact ⟨fun h => (by cases h), fun h => (by cases h)⟩
theorem mlt_ok {n0 : Nat} {B : Bd} {ρ0 ρ : Nat → Int} {L0 L1 : List Value} {A0 A1 : List AV} (hb : bOK ρ B) (h0 : al2 (vm n0 ρ0) A0 L0) (h1 : al2 (vm B.length ρ) A1 L1) (hn : n0 ≤ B.length) (he : ext n0 ρ0 ρ) :
    ∀ {l m : List (Nat × Nat × Int)}, mlt B A0 A1 l m = true → lxl (l.map (mOne L0)) (m.map (mOne L1))
  | x :: l, y :: m, h => by
    unfold mlt at h
    obtain ⟨h12, h3⟩ := (Bool.and_eq_true _ _).mp h
    obtain ⟨ha, hc⟩ := (Bool.and_eq_true _ _).mp h12
    have g0 : x.1 = 0 ∨ tOK B.length ρ (A0.getD x.2.1 jT).2.1 (intV (L0.getD x.2.1 (.retAddr 0))) := by
      rcases (Bool.or_eq_true _ _).mp ha with q | q
      · exact Or.inl (by simpa using q)
      · exact Or.inr (tOK_ext hn he (num_val h0 q))
    have g1 : y.1 = 0 ∨ tOK B.length ρ (A1.getD y.2.1 jT).2.1 (intV (L1.getD y.2.1 (.retAddr 0))) := by
      rcases (Bool.or_eq_true _ _).mp hc with q | q
      · exact Or.inl (by simpa using q)
      · exact Or.inr (num_val h1 q)
    obtain ⟨c0, c1⟩ := mcmp_ok (L0 := L0) (L1 := L1) (A0 := A0) (A1 := A1) (x := x) (y := y) rfl hb g0 g1
    split at h3
    · rename_i e
      exact Or.inr ⟨c0 e, mlt_ok hb h0 h1 hn he h3⟩
    · rename_i e
      refine Or.inl ⟨c1 e, ?_⟩
      have : l.length = m.length := by simpa using h3
      simp [this]
    · cases h3
  | [], _, h => by cases h
  | _ :: _, [], h => by cases h
end JN43meas
