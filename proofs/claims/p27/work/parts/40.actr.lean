/-! Contracts, and what checks a method against its own. -/
abbrev Post : Type := Bd × List AV × List (Nat × Nat × Tm) × List (Nat × Nat)
/-- method, depth, bounds of its variables, arguments, where each variable stands among them, ends, what may be written, whether the texts' invariant is wanted -/
abbrev Ctr : Type := Nat × Nat × Bd × List AV × List Nat × List Post × List (Nat × Nat) × Bool × List (Nat × Nat × Tm)
def cY (c : Ctr) : Nat := c.1
def cD (c : Ctr) : Nat := c.2.1
def cB (c : Ctr) : Bd := c.2.2.1
def cA (c : Ctr) : List AV := c.2.2.2.1
def cV (c : Ctr) : List Nat := c.2.2.2.2.1
def cP (c : Ctr) : List Post := c.2.2.2.2.2.1
def cW (c : Ctr) : List (Nat × Nat) := c.2.2.2.2.2.2.1
def cK (c : Ctr) : Bool := c.2.2.2.2.2.2.2.1
/-- what is known of cells at its beginning -/
def cF (c : Ctr) : List (Nat × Nat × Tm) := c.2.2.2.2.2.2.2.2
/-- a place where paths are cut: pc, bounds, locals, where each new variable stands, the measure -/
abbrev Cut : Type := Nat × Bd × List AV × List Nat × List (Nat × Nat × Int) × List (Nat × Nat × Tm)
def kM (C : Cut) : List (Nat × Nat × Int) := C.2.2.2.2.1
def kF (C : Cut) : List (Nat × Nat × Tm) := C.2.2.2.2.2
def sub (σ : List Tm) (t : Tm) : Tm := match t.1 with
  | 0 => t
  | v + 1 => ((σ.getD v (0, 0)).1, (σ.getD v (0, 0)).2 + t.2)
def subA (σ : List Tm) (a : AV) : AV := (a.1, sub σ a.2.1, sub σ a.2.2.1, a.2.2.2)
/-- the value s is of the pattern a -/
def avLe (σ : List Tm) (a s : AV) : Bool := match a.1 with
  | 0 => cat1 s
  | 1 => s.1 == 1 && decide (s.2.1 = sub σ a.2.1) && decide (a.2.1.1 ≤ σ.length)
  | 2 => s.1 == 2 && decide (s.2.1 = sub σ a.2.1) && decide (a.2.1.1 ≤ σ.length)
  | 3 => s.1 == 3 && s.2.2.2.all (fun b => a.2.2.2.contains b)
  | 4 => false
  | _ => true
def avsLe (σ : List Tm) : List AV → List AV → Bool
  | [], [] => true
  | a :: l, s :: m => avLe σ a s && avsLe σ l m
  | _, _ => false
def bdLe (B : Bd) : List Tm → Bd → Bool
  | [], [] => true
  | t :: σ, q :: C => rngOK (trg B t) q && bdLe B σ C
  | _, _ => false
def ids (n : Nat) : List Tm := (List.range n).map (fun i => (i + 1, 0))
def numA (s : AV) : Bool := s.1 == 1 || s.1 == 2
def mcmp (B : Bd) (k0 : Nat) (c0 : Int) (t0 : Tm) (k1 : Nat) (c1 : Int) (t1 : Tm) : Nat := match k0, k1 with
  | 0, 0 => if c0.toNat = c1.toNat then 0 else if c1.toNat < c0.toNat then 1 else 2
  | 1, 1 => if t0.1 = t1.1 then (if c0 - t0.2 = c1 - t1.2 then 0 else if c1 - t1.2 < c0 - t0.2 ∧ thi B t1 ≤ c1 then 1 else 2) else 2
  | 2, 2 => if t0.1 = t1.1 then (if t0.2 - c0 = t1.2 - c1 then 0 else if t1.2 - c1 < t0.2 - c0 ∧ c1 ≤ tlo B t1 then 1 else 2) else 2
  | _, _ => 2
/-- the measure has gone down: from the locals L0 to L1 -/
def mlt (B : Bd) (L0 L1 : List AV) : List (Nat × Nat × Int) → List (Nat × Nat × Int) → Bool
  | x :: l, y :: m => (x.1 == 0 || numA (L0.getD x.2.1 jT)) && (y.1 == 0 || numA (L1.getD y.2.1 jT)) && (match mcmp B x.1 x.2.2 (L0.getD x.2.1 jT).2.1 y.1 y.2.2 (L1.getD y.2.1 jT).2.1 with
    | 0 => mlt B L0 L1 l m
    | 1 => l.length == m.length
    | _ => false)
  | _, _ => false
/-- a source of a variable: a number among these values, or what is known of a cell -/
def vS (S : AS) (l : List AV) (F : List (Nat × Nat × Tm)) (j : Nat) : Option Tm := if j < 100 then (if numA (l.getD j jT) = true then some (l.getD j jT).2.1 else none) else (match F[j - 100]? with
  | some q => fGet S.2.2.2 q.1 q.2.1
  | none => none)
def fFit (S : AS) (σ : List Tm) (n : Nat) (F : List (Nat × Nat × Tm)) : Bool := F.all (fun q => decide (fGet S.2.2.2 q.1 q.2.1 = some (sub σ q.2.2)) && decide (q.2.2.1 ≤ n))
def cutSg (nv : Nat) (S : AS) (C : Cut) : List Tm := ids nv ++ C.2.2.2.1.map (fun k => (vS S S.2.1 (kF C) k).getD (0, 0))
def cutFit (nv : Nat) (S : AS) (C : Cut) : Bool :=
  S.2.2.1.isEmpty && C.2.2.2.1.all (fun k => (vS S S.2.1 (kF C) k).isSome) && bdLe S.1 (cutSg nv S C) C.2.1 && avsLe (cutSg nv S C) C.2.2.1 S.2.1 && fFit S (cutSg nv S C) C.2.1.length (kF C)
def retTy (y : Nat) (r : Int × Int) : Bool := match mRet y with
  | some .int => true
  | some .boolean => rngOK r (0, 1)
  | some .char => rngOK r (0, 65535)
  | some .byte => rngOK r (-128, 127)
  | _ => false
/-- a source of a new variable at an end -/
def srcT (S : AS) (q : Nat × Nat) : Option Tm := if q.1 = 999999 then (match S.2.2.1 with | a :: _ => if numA a = true then some a.2.1 else none | _ => none) else fGet S.2.2.2 q.1 q.2
def postFit (nv : Nat) (S : AS) (P : Post) : Bool := P.2.2.2.all (fun q => (srcT S q).isSome) &&
  bdLe S.1 (ids nv ++ P.2.2.2.map (fun q => (srcT S q).getD (0, 0))) P.1 && avsLe (ids nv ++ P.2.2.2.map (fun q => (srcT S q).getD (0, 0))) P.2.1 S.2.2.1 &&
  P.2.2.1.all (fun q => decide (fGet S.2.2.2 q.1 q.2.1 = some (sub (ids nv ++ P.2.2.2.map (fun q => (srcT S q).getD (0, 0))) q.2.2)) && decide (q.2.2.1 ≤ P.1.length))
def okRet (y nv : Nat) (posts : List Post) (i : Instr) (S : AS) : Bool := (match i with
  | .ireturn => (match S.2.2.1 with | [a] => a.1 == 1 && retTy y (trg S.1 a.2.1) | _ => false)
  | .lreturn => (match S.2.2.1 with | [a] => a.1 == 2 && decide (mRet y = some .long) | _ => false)
  | .return_ => S.2.2.1.isEmpty && decide (mRet y = none)
  | _ => false) && posts.any (postFit nv S)
def isRet (i : Instr) : Bool := match i with
  | .ireturn => true
  | .lreturn => true
  | .return_ => true
  | _ => false
def catA (a : AV) : Nat := if a.1 = 2 then 2 else if cat1 a = true then 1 else 100
def subW (V W : List (Nat × Nat)) : Bool := V.all (fun q => W.any (fun w => w.1 == q.1 && (w.2 == q.2 || w.2 == 999)))
def disW (SUP W : List (Nat × Nat)) : Bool := W.all (fun q => SUP.all (fun s => !(s.1 == q.1 && (s.2 == q.2 || s.2 == 999 || q.2 == 999))))
def slotsA : List AV → Nat
  | [] => 0
  | a :: l => (if a.1 = 2 then 2 else 1) + slotsA l
def recvA (c kd : Nat) (args : List AV) : Bool := if kd = 2 then true else match args with
  | a :: _ => a.1 == 3 && (if kd = 0 then (a.2.2.2.all (fun b => decide (b < OLDB) && decide (SHl[b]? = some (.inr (mCi c)))) && decide (mCi c < 8)) || (decide (mCi c = 9) && a.2.2.2.all (fun b => decide (OLDB + 3 ≤ b) && decide (b < OLDB + 8))) else a.2.2.2.all (fun b => decide (b < OLDB)))
  | [] => false
def refs (B : Bd) : List Tm → Bd → Option Bd
  | t :: σ, q :: C => (match refn B t q.1 q.2 with | some B' => refs B' σ C | none => none)
  | _, _ => some B
def argsA (S : AS) (na : Nat) : List AV := (S.2.2.1.take na).reverse
def sgA (T : Ctr) (S : AS) (na : Nat) : List Tm := (cV T).map (fun j => (vS S (argsA S na) (cF T) j).getD (0, 0))
def sgP (T : Ctr) (S : AS) (na : Nat) (P : Post) : List Tm := sgA T S na ++ (List.range (P.1.length - (cV T).length)).map (fun j => (S.1.length + 1 + j, 0))
/-- the states behind a call that ended so -/
def postS (T : Ctr) (S : AS) (na : Nat) (P : Post) : List AS := (refs S.1 (sgA T S na) P.1).toList.map (fun B1 =>
  (B1 ++ P.1.drop (cV T).length, S.2.1, P.2.1.map (subA (sgP T S na P)) ++ S.2.2.1.drop na, P.2.2.1.map (fun q => (q.1, q.2.1, sub (sgP T S na P) q.2.2)) ++ S.2.2.2.filter (fun q => !inW (cW T) q.1 q.2.1)))
/-- a call under a contract: the states that may come behind -/
def acall (D : Nat) (W : List (Nat × Nat)) (K : Bool) (S : AS) (c na kd : Nat) (T : Ctr) : Option (List AS) :=
  if cY T = c ∧ cD T + 1 ≤ D ∧ subW (cW T) W = true ∧ (cK T = false ∨ K = true) ∧ na ≤ S.2.2.1.length ∧ ((S.2.2.1.drop na).map catA).sum ≤ 8 ∧
    (S.2.2.1.take na).all (fun a => a.1 == 1 || a.1 == 2 || a.1 == 3) = true ∧ slotsA (argsA S na) ≤ mMaxL c ∧ recvA c kd (argsA S na) = true ∧
    (cV T).all (fun j => (vS S (argsA S na) (cF T) j).isSome) = true ∧ bdLe S.1 (sgA T S na) (cB T) = true ∧ avsLe (sgA T S na) (cA T) (argsA S na) = true ∧ fFit S (sgA T S na) (cB T).length (cF T) = true then
    some (((cP T).map (postS T S na)).flatten)
  else none
