/-! The interval machine's step in small pieces, for the kernel's sake. -/
abbrev ZF : Type := List (Nat × Nat) → AS → Option (List (Nat × AS))
def z_iconst (k : Int) (o : List Nat) (pc : Nat) : ZF := fun W S => some [(pc + 1, S.1, S.2.1, iT (0, (Int32.ofInt k).toInt) :: S.2.2.1, S.2.2.2)]
def z_bipush (k : Int) (o : List Nat) (pc : Nat) : ZF := fun W S => some [(pc + 2, S.1, S.2.1, iT (0, (Int8.ofInt k).toInt32.toInt) :: S.2.2.1, S.2.2.2)]
def z_sipush (k : Int) (o : List Nat) (pc : Nat) : ZF := fun W S => some [(pc + 3, S.1, S.2.1, iT (0, (Int16.ofInt k).toInt32.toInt) :: S.2.2.1, S.2.2.2)]
def z_lconst (k : Fin 2) (o : List Nat) (pc : Nat) : ZF := fun W S => some [(pc + 1, S.1, S.2.1, lT (0, (Int64.ofNat (k : Nat)).toInt) :: S.2.2.1, S.2.2.2)]
def z_ldc (o : List Nat) (pc : Nat) : ZF := fun W S => (match o with
    | [0, v, _] => some [(pc + 2, S.1, S.2.1, iT (0, (Int32.ofNat v).toInt) :: S.2.2.1, S.2.2.2)]
    | [1, j, _] => if j < 5 then some [(pc + 2, S.1, S.2.1, rT [OLDB + 3 + j] :: S.2.2.1, S.2.2.2)] else none
    | _ => none)
def z_ldc_w (o : List Nat) (pc : Nat) : ZF := fun W S => (match o with
    | [0, v, _] => some [(pc + 3, S.1, S.2.1, iT (0, (Int32.ofNat v).toInt) :: S.2.2.1, S.2.2.2)]
    | _ => none)
def z_ldc2_w (o : List Nat) (pc : Nat) : ZF := fun W S => (match o with
    | [v, _] => some [(pc + 3, S.1, S.2.1, lT (0, (Int64.ofNat v).toInt) :: S.2.2.1, S.2.2.2)]
    | _ => none)
def z_iload (k : Nat) (o : List Nat) (pc : Nat) : ZF := fun W S => (match S.2.1[k]? with | some a => if a.1 = 1 then some [(pc + 2, S.1, S.2.1, a :: S.2.2.1, S.2.2.2)] else none | none => none)
def z_iload_n (k : Fin 4) (o : List Nat) (pc : Nat) : ZF := fun W S => (match S.2.1[(k : Nat)]? with | some a => if a.1 = 1 then some [(pc + 1, S.1, S.2.1, a :: S.2.2.1, S.2.2.2)] else none | none => none)
def z_lload (k : Nat) (o : List Nat) (pc : Nat) : ZF := fun W S => (match S.2.1[k]? with | some a => if a.1 = 2 then some [(pc + 2, S.1, S.2.1, a :: S.2.2.1, S.2.2.2)] else none | none => none)
def z_lload_n (k : Fin 4) (o : List Nat) (pc : Nat) : ZF := fun W S => (match S.2.1[(k : Nat)]? with | some a => if a.1 = 2 then some [(pc + 1, S.1, S.2.1, a :: S.2.2.1, S.2.2.2)] else none | none => none)
def z_aload (k : Nat) (o : List Nat) (pc : Nat) : ZF := fun W S => (match S.2.1[k]? with | some a => if a.1 = 3 ∧ a.2.2.2.contains (OLDB + 13) = false then some [(pc + 2, S.1, S.2.1, a :: S.2.2.1, S.2.2.2)] else none | none => none)
def z_aload_n (k : Fin 4) (o : List Nat) (pc : Nat) : ZF := fun W S => (match S.2.1[(k : Nat)]? with | some a => if a.1 = 3 ∧ a.2.2.2.contains (OLDB + 13) = false then some [(pc + 1, S.1, S.2.1, a :: S.2.2.1, S.2.2.2)] else none | none => none)
def z_istore (k : Nat) (o : List Nat) (pc : Nat) : ZF := fun W S => (match S.2.2.1 with | a :: st => if a.1 = 1 ∧ k < S.2.1.length ∧ aOkSt S.2.1 k = true then some [(pc + 2, S.1, S.2.1.set k a, st, S.2.2.2)] else none | _ => none)
def z_istore_n (k : Fin 4) (o : List Nat) (pc : Nat) : ZF := fun W S => (match S.2.2.1 with | a :: st => if a.1 = 1 ∧ (k : Nat) < S.2.1.length ∧ aOkSt S.2.1 k = true then some [(pc + 1, S.1, S.2.1.set k a, st, S.2.2.2)] else none | _ => none)
def z_lstore (k : Nat) (o : List Nat) (pc : Nat) : ZF := fun W S => (match S.2.2.1 with | a :: st => if a.1 = 2 ∧ k + 1 < S.2.1.length ∧ aOkSt S.2.1 k = true then some [(pc + 2, S.1, (S.2.1.set k a).set (k + 1) jT, st, S.2.2.2)] else none | _ => none)
def z_lstore_n (k : Fin 4) (o : List Nat) (pc : Nat) : ZF := fun W S => (match S.2.2.1 with | a :: st => if a.1 = 2 ∧ (k : Nat) + 1 < S.2.1.length ∧ aOkSt S.2.1 k = true then some [(pc + 1, S.1, (S.2.1.set k a).set (k + 1) jT, st, S.2.2.2)] else none | _ => none)
def z_astore_n (k : Fin 4) (o : List Nat) (pc : Nat) : ZF := fun W S => (match S.2.2.1 with | a :: st => if a.1 = 3 ∧ a.2.2.2.contains (OLDB + 13) = false ∧ (k : Nat) < S.2.1.length ∧ aOkSt S.2.1 k = true then some [(pc + 1, S.1, S.2.1.set k a, st, S.2.2.2)] else none | _ => none)
def z_iinc (k : Nat) (n : Int) (o : List Nat) (pc : Nat) : ZF := fun W S => (match S.2.1[k]? with | some a => if a.1 = 1 ∧ aOkSt S.2.1 k = true then some [(pc + 3, (tAdd S.1 a.2.1 (0, (Int32.ofInt n).toInt) clampI).1, S.2.1.set k (iT (tAdd S.1 a.2.1 (0, (Int32.ofInt n).toInt) clampI).2), S.2.2.1, S.2.2.2)] else none | none => none)
def z_iadd (o : List Nat) (pc : Nat) : ZF := fun W S => (match S.2.2.1 with | b :: a :: st => if a.1 = 1 ∧ b.1 = 1 then some [(pc + 1, (tAdd S.1 a.2.1 b.2.1 clampI).1, S.2.1, iT (tAdd S.1 a.2.1 b.2.1 clampI).2 :: st, S.2.2.2)] else none | _ => none)
def z_isub (o : List Nat) (pc : Nat) : ZF := fun W S => (match S.2.2.1 with | b :: a :: st => if a.1 = 1 ∧ b.1 = 1 then some [(pc + 1, (tSub S.1 a.2.1 b.2.1 clampI).1, S.2.1, iT (tSub S.1 a.2.1 b.2.1 clampI).2 :: st, S.2.2.2)] else none | _ => none)
def z_ladd (o : List Nat) (pc : Nat) : ZF := fun W S => (match S.2.2.1 with | b :: a :: st => if a.1 = 2 ∧ b.1 = 2 then some [(pc + 1, (tAdd S.1 a.2.1 b.2.1 clampL).1, S.2.1, lT (tAdd S.1 a.2.1 b.2.1 clampL).2 :: st, S.2.2.2)] else none | _ => none)
def z_lsub (o : List Nat) (pc : Nat) : ZF := fun W S => (match S.2.2.1 with | b :: a :: st => if a.1 = 2 ∧ b.1 = 2 then some [(pc + 1, (tSub S.1 a.2.1 b.2.1 clampL).1, S.2.1, lT (tSub S.1 a.2.1 b.2.1 clampL).2 :: st, S.2.2.2)] else none | _ => none)
def z_lcmp (o : List Nat) (pc : Nat) : ZF := fun W S => (match S.2.2.1 with | b :: a :: st => if a.1 = 2 ∧ b.1 = 2 then some [(pc + 1, S.1, S.2.1, cT a.2.1 b.2.1 :: st, S.2.2.2)] else none | _ => none)
def z_i2l (o : List Nat) (pc : Nat) : ZF := fun W S => (match S.2.2.1 with | a :: st => if a.1 = 1 then some [(pc + 1, S.1, S.2.1, lT a.2.1 :: st, S.2.2.2)] else none | _ => none)
def z_l2i (o : List Nat) (pc : Nat) : ZF := fun W S => (match S.2.2.1 with | a :: st => if a.1 = 2 then (if rngOK (trg S.1 a.2.1) fI = true then some [(pc + 1, S.1, S.2.1, iT a.2.1 :: st, S.2.2.2)] else some [(pc + 1, pushI S st fI)]) else none | _ => none)
def z_dup (o : List Nat) (pc : Nat) : ZF := fun W S => (match S.2.2.1 with | a :: st => if cat1 a = true then some [(pc + 1, S.1, S.2.1, a :: a :: st, S.2.2.2)] else none | _ => none)
def z_pop (o : List Nat) (pc : Nat) : ZF := fun W S => (match S.2.2.1 with | a :: st => if cat1 a = true then some [(pc + 1, S.1, S.2.1, st, S.2.2.2)] else none | _ => none)
def z_dup2 (o : List Nat) (pc : Nat) : ZF := fun W S => (match S.2.2.1 with | a :: b :: st => if cat1 a = true ∧ cat1 b = true then some [(pc + 1, S.1, S.2.1, a :: b :: a :: b :: st, S.2.2.2)] else none | _ => none)
def z_pop2 (o : List Nat) (pc : Nat) : ZF := fun W S => (match S.2.2.1 with | a :: st => if a.1 = 2 then some [(pc + 1, S.1, S.2.1, st, S.2.2.2)] else none | _ => none)
def z_ifCond (q : Jvm.ClassFile.Cond) (off : Int) (o : List Nat) (pc : Nat) : ZF := fun W S => (match S.2.2.1 with
    | a :: st => (match jump pc off with
      | some t => if a.1 = 1 then some (brs q S.1 a.2.1 (0, 0) t (pc + 3) S.2.1 st S.2.2.2) else if a.1 = 4 then some (brs q S.1 a.2.1 a.2.2.1 t (pc + 3) S.2.1 st S.2.2.2) else none
      | none => none)
    | _ => none)
def z_if_icmp (q : Jvm.ClassFile.Cond) (off : Int) (o : List Nat) (pc : Nat) : ZF := fun W S => (match S.2.2.1 with
    | b :: a :: st => (match jump pc off with
      | some t => if a.1 = 1 ∧ b.1 = 1 then some (brs q S.1 a.2.1 b.2.1 t (pc + 3) S.2.1 st S.2.2.2) else none
      | none => none)
    | _ => none)
def z_goto (off : Int) (o : List Nat) (pc : Nat) : ZF := fun W S => aJump pc off S
def z_tableswitch (dflt : Int) (lo : Int) (hi : Int) (offs : Array Int) (o : List Nat) (pc : Nat) : ZF := fun W S => (match S.2.2.1 with
    | a :: st => if a.1 = 1 then (match jump pc dflt with
      | some d => if (List.range offs.size).all (fun j => (jump pc (offs.getD j 0)).isSome) = true ∧ hi + 1 - lo ≤ (offs.size : Int) then
          some ((refn S.1 a.2.1 (-BIGI) (lo - 1)).toList.map (fun B => (d, B, S.2.1, st, S.2.2.2)) ++ ((refn S.1 a.2.1 (hi + 1) BIGI).toList.map (fun B => (d, B, S.2.1, st, S.2.2.2)) ++
            ((List.range offs.size).map (fun (j : Nat) => (refn S.1 a.2.1 (lo + (j : Int)) (lo + (j : Int))).toList.map (fun B => ((jump pc (offs.getD j 0)).getD 0, B, S.2.1, st, S.2.2.2)))).flatten))
        else none
      | none => none) else none
    | _ => none)
def z_lookupswitch (dflt : Int) (ps : Array (Int × Int)) (o : List Nat) (pc : Nat) : ZF := fun W S => (match S.2.2.1 with
    | a :: st => if a.1 = 1 ∧ (ps.toList.zip (ps.toList.drop 1)).all (fun (a, next) => a.1 < next.1) = true then (match jump pc dflt with
      | some d => if ps.toList.all (fun q => (jump pc q.2).isSome) = true then
          some ((if (tlo S.1 a.2.1 = thi S.1 a.2.1 ∧ ps.toList.any (fun q => decide (q.1 = tlo S.1 a.2.1)) = true) then [] else [(d, S.1, S.2.1, st, S.2.2.2)]) ++
            (ps.toList.map (fun q => (refn S.1 a.2.1 q.1 q.1).toList.map (fun B => ((jump pc q.2).getD 0, B, S.2.1, st, S.2.2.2)))).flatten)
        else none
      | none => none) else none
    | _ => none)
def z_getfield (o : List Nat) (pc : Nat) : ZF := fun W S => (aGetF o S).map (fun S' => [(pc + 3, S')])
def z_putfield (o : List Nat) (pc : Nat) : ZF := fun W S => (aPutF W o S).map (fun S' => [(pc + 3, S')])
def z_getstatic (o : List Nat) (pc : Nat) : ZF := fun W S => (match o with
    | [0, _, _] => some [(pc + 3, S.1, S.2.1, rT [OLDB + 1] :: S.2.2.1, S.2.2.2)]
    | [1, _, _] => some [(pc + 3, S.1, S.2.1, rT [OLDB + 2] :: S.2.2.1, S.2.2.2)]
    | [2, _, _] => some [(pc + 3, S.1, S.2.1, iT (0, 1) :: S.2.2.1, S.2.2.2)]
    | [3, _, _] => some [(pc + 3, S.1, S.2.1, rT [OLDB + 13] :: S.2.2.1, S.2.2.2)]
    | _ => none)
def z_arraylength (o : List Nat) (pc : Nat) : ZF := fun W S => (match S.2.2.1 with
    | a :: st => if a.1 = 3 ∧ a.2.2.2.isEmpty = false ∧ a.2.2.2.all (fun b => match aLen b with | some q => (decide (q.1 < 5) || decide (OLDB ≤ b)) && decide (q.2 ≤ 1000) | none => false) = true then
        some [(pc + 1, pushI S st (uni (a.2.2.2.map (fun b => match aLen b with | some q => ((q.2 : Int), (q.2 : Int)) | none => fI))))] else none
    | _ => none)
def z_iaload (o : List Nat) (pc : Nat) : ZF := fun W S => (match S.2.2.1 with
    | j :: a :: st => if j.1 = 1 ∧ a.1 = 3 ∧ arrOK a.2.2.2 0 (trg S.1 j.2.1) = true then some [(pc + 1, pushI S st (uni (a.2.2.2.map aIv)))] else none
    | _ => none)
def z_baload (o : List Nat) (pc : Nat) : ZF := fun W S => (match S.2.2.1 with
    | j :: a :: st => if j.1 = 1 ∧ a.1 = 3 ∧ (arrOK a.2.2.2 2 (trg S.1 j.2.1) = true ∧ a.2.2.2.all (fun b => decide (b < OLDB)) = true ∨ arrOK a.2.2.2 5 (trg S.1 j.2.1) = true ∧ a.2.2.2.all (fun b => decide (OLDB ≤ b)) = true) then some [(pc + 1, pushI S st (uni (a.2.2.2.map aIv)))] else none
    | _ => none)
def z_laload (o : List Nat) (pc : Nat) : ZF := fun W S => (match S.2.2.1 with
    | j :: a :: st => if j.1 = 1 ∧ a.1 = 3 ∧ arrOK a.2.2.2 1 (trg S.1 j.2.1) = true ∧ a.2.2.2.all (fun b => decide (b < OLDB)) = true then some [(pc + 1, pushL S st fL)] else none
    | _ => none)
def z_aaload (o : List Nat) (pc : Nat) : ZF := fun W S => (match S.2.2.1 with
    | j :: a :: st => if j.1 = 1 ∧ a.1 = 3 ∧ (arrOK a.2.2.2 3 (trg S.1 j.2.1) = true ∨ arrOK a.2.2.2 4 (trg S.1 j.2.1) = true) ∧ a.2.2.2.all (fun b => decide (b < OLDB) && (!(rst b 0).isEmpty && (rst b 0).all (fun z => decide (z < OLDB)))) = true then
        some [(pc + 1, S.1, S.2.1, rT ((a.2.2.2.map (fun b => rst b 0)).flatten) :: st, S.2.2.2)] else none
    | _ => none)
def z_iastore (o : List Nat) (pc : Nat) : ZF := fun W S => (match S.2.2.1 with
    | x :: j :: a :: st => if x.1 = 1 ∧ j.1 = 1 ∧ a.1 = 3 ∧ arrOK a.2.2.2 0 (trg S.1 j.2.1) = true ∧ a.2.2.2.all (fun b => decide (b < OLDB) && inW W b 999 && rngOK (trg S.1 x.2.1) (ivl b 0)) = true then some [(pc + 1, S.1, S.2.1, st, S.2.2.2)] else none
    | _ => none)
def z_bastore (o : List Nat) (pc : Nat) : ZF := fun W S => (match S.2.2.1 with
    | x :: j :: a :: st => if x.1 = 1 ∧ j.1 = 1 ∧ a.1 = 3 ∧ rngOK (trg S.1 x.2.1) (0, 1) = true ∧ arrOK a.2.2.2 2 (trg S.1 j.2.1) = true ∧ a.2.2.2.all (fun b => decide (b < OLDB) && inW W b 999 && rngOK (trg S.1 x.2.1) (ivl b 0)) = true then some [(pc + 1, S.1, S.2.1, st, S.2.2.2)] else none
    | _ => none)
def z_lastore (o : List Nat) (pc : Nat) : ZF := fun W S => (match S.2.2.1 with
    | x :: j :: a :: st => if x.1 = 2 ∧ j.1 = 1 ∧ a.1 = 3 ∧ arrOK a.2.2.2 1 (trg S.1 j.2.1) = true ∧ a.2.2.2.all (fun b => decide (b < OLDB) && inW W b 999) = true then some [(pc + 1, S.1, S.2.1, st, S.2.2.2)] else none
    | _ => none)
def z_invokestatic (o : List Nat) (pc : Nat) : ZF := fun W S => (match o with
    | [9998, _, _, _, _] => (aCopy W S).map (fun S' => [(pc + 3, S')])
    | _ => none)
def z_b_imul (p q : Int × Int) : Option (Int × Int) := some (if 0 ≤ p.1 ∧ 0 ≤ q.1 then clampI (p.1 * q.1, p.2 * q.2) else fI)
def z_b_idiv (p q : Int × Int) : Option (Int × Int) := if 0 < q.1 ∨ q.2 < 0 then some (if 0 ≤ p.1 ∧ 0 < q.1 then (0, p.2) else fI) else none
def z_b_irem (p q : Int × Int) : Option (Int × Int) := if 0 < q.1 then some (if 0 ≤ p.1 then (0, min p.2 (q.2 - 1)) else (-(q.2 - 1), q.2 - 1)) else if q.2 < 0 then some fI else none
def z_b_iand (p q : Int × Int) : Option (Int × Int) := some (if 0 ≤ p.1 then (if 0 ≤ q.1 then (0, min p.2 q.2) else (0, p.2)) else if 0 ≤ q.1 then (0, q.2) else fI)
def z_b_ior (p q : Int × Int) : Option (Int × Int) := some (if 0 ≤ p.1 ∧ 0 ≤ q.1 then clampI (0, 2 ^ ((max p.2 q.2).toNat.log2 + 1) - 1) else fI)
def z_b_ixor (p q : Int × Int) : Option (Int × Int) := some fI
def z_b_ishl (p q : Int × Int) : Option (Int × Int) := some (if p = (1, 1) ∧ 0 ≤ q.1 ∧ q.2 ≤ 30 then (1, 2 ^ q.2.toNat) else fI)
def z_b_ishr (p q : Int × Int) : Option (Int × Int) := some (if 0 ≤ p.1 then (0, p.2) else fI)
def z_b_iushr (p q : Int × Int) : Option (Int × Int) := some fI
def z_def (fb : Int × Int → Int × Int → Option (Int × Int)) (fu : Option (Int × Int)) (bl bs : Bool) (pc : Nat) : ZF := fun W S => (match S.2.2.1 with
    | b :: a :: st => if a.1 = 1 ∧ b.1 = 1 then (match fb (trg S.1 a.2.1) (trg S.1 b.2.1) with
        | some r => some [(pc + 1, pushI S st r)]
        | none => (match fu with | some r => some [(pc + 1, pushI S (a :: st) r)] | none => none))
      else if a.1 = 2 ∧ b.1 = 2 ∧ bl = true then some [(pc + 1, pushL S st fL)]
      else if a.1 = 2 ∧ b.1 = 1 ∧ bs = true then some [(pc + 1, pushL S st fL)]
      else if b.1 = 1 then (match fu with | some r => some [(pc + 1, pushI S (a :: st) r)] | none => none) else none
    | b :: st => if b.1 = 1 then (match fu with | some r => some [(pc + 1, pushI S st r)] | none => none) else none
    | _ => none)
def z_nb (_ _ : Int × Int) : Option (Int × Int) := none
abbrev PR : Type := Nat × (Nat × Nat × Nat) × ZF
def z_no : ZF := fun _ _ => none
def z_call (o : List Nat) (f : ZF) : PR := match o with
  | [c, na, kd, _, _, _, _] => (1, (c, na, kd), f)
  | _ => (0, (0, 0, 0), f)
def pr (i : Instr) (o : List Nat) (pc : Nat) : PR := match i with
  | .ireturn => (2, (0, 0, 0), z_no)
  | .lreturn => (2, (0, 0, 0), z_no)
  | .return_ => (2, (0, 0, 0), z_no)
  | .invokevirtual _ => z_call o (z_def z_nb none false false pc)
  | .invokespecial _ => z_call o (z_def z_nb none false false pc)
  | .iconst k => (0, (0, 0, 0), z_iconst k o pc)
  | .bipush k => (0, (0, 0, 0), z_bipush k o pc)
  | .sipush k => (0, (0, 0, 0), z_sipush k o pc)
  | .lconst k => (0, (0, 0, 0), z_lconst k o pc)
  | .ldc _ => (0, (0, 0, 0), z_ldc o pc)
  | .ldc_w _ => (0, (0, 0, 0), z_ldc_w o pc)
  | .ldc2_w _ => (0, (0, 0, 0), z_ldc2_w o pc)
  | .iload k => (0, (0, 0, 0), z_iload k o pc)
  | .iload_n k => (0, (0, 0, 0), z_iload_n k o pc)
  | .lload k => (0, (0, 0, 0), z_lload k o pc)
  | .lload_n k => (0, (0, 0, 0), z_lload_n k o pc)
  | .aload k => (0, (0, 0, 0), z_aload k o pc)
  | .aload_n k => (0, (0, 0, 0), z_aload_n k o pc)
  | .istore k => (0, (0, 0, 0), z_istore k o pc)
  | .istore_n k => (0, (0, 0, 0), z_istore_n k o pc)
  | .lstore k => (0, (0, 0, 0), z_lstore k o pc)
  | .lstore_n k => (0, (0, 0, 0), z_lstore_n k o pc)
  | .astore_n k => (0, (0, 0, 0), z_astore_n k o pc)
  | .iinc k n => (0, (0, 0, 0), z_iinc k n o pc)
  | .iadd => (0, (0, 0, 0), z_iadd o pc)
  | .isub => (0, (0, 0, 0), z_isub o pc)
  | .ladd => (0, (0, 0, 0), z_ladd o pc)
  | .lsub => (0, (0, 0, 0), z_lsub o pc)
  | .lcmp => (0, (0, 0, 0), z_lcmp o pc)
  | .i2l => (0, (0, 0, 0), z_i2l o pc)
  | .l2i => (0, (0, 0, 0), z_l2i o pc)
  | .dup => (0, (0, 0, 0), z_dup o pc)
  | .pop => (0, (0, 0, 0), z_pop o pc)
  | .dup2 => (0, (0, 0, 0), z_dup2 o pc)
  | .pop2 => (0, (0, 0, 0), z_pop2 o pc)
  | .ifCond q off => (0, (0, 0, 0), z_ifCond q off o pc)
  | .if_icmp q off => (0, (0, 0, 0), z_if_icmp q off o pc)
  | .goto off => (0, (0, 0, 0), z_goto off o pc)
  | .tableswitch dflt lo hi offs => (0, (0, 0, 0), z_tableswitch dflt lo hi offs o pc)
  | .lookupswitch dflt ps => (0, (0, 0, 0), z_lookupswitch dflt ps o pc)
  | .getfield _ => (0, (0, 0, 0), z_getfield o pc)
  | .putfield _ => (0, (0, 0, 0), z_putfield o pc)
  | .getstatic _ => (0, (0, 0, 0), z_getstatic o pc)
  | .arraylength => (0, (0, 0, 0), z_arraylength o pc)
  | .iaload => (0, (0, 0, 0), z_iaload o pc)
  | .baload => (0, (0, 0, 0), z_baload o pc)
  | .laload => (0, (0, 0, 0), z_laload o pc)
  | .aaload => (0, (0, 0, 0), z_aaload o pc)
  | .iastore => (0, (0, 0, 0), z_iastore o pc)
  | .bastore => (0, (0, 0, 0), z_bastore o pc)
  | .lastore => (0, (0, 0, 0), z_lastore o pc)
  | .invokestatic _ => z_call o (z_invokestatic o pc)
  | .imul => (0, (0, 0, 0), z_def z_b_imul none false false pc)
  | .idiv => (0, (0, 0, 0), z_def z_b_idiv none false false pc)
  | .irem => (0, (0, 0, 0), z_def z_b_irem none false false pc)
  | .iand => (0, (0, 0, 0), z_def z_b_iand none false false pc)
  | .ior => (0, (0, 0, 0), z_def z_b_ior none false false pc)
  | .ixor => (0, (0, 0, 0), z_def z_b_ixor none false false pc)
  | .ishl => (0, (0, 0, 0), z_def z_b_ishl none false false pc)
  | .ishr => (0, (0, 0, 0), z_def z_b_ishr none false false pc)
  | .iushr => (0, (0, 0, 0), z_def z_b_iushr none false false pc)
  | .ineg => (0, (0, 0, 0), z_def z_nb (some fI) false false pc)
  | .i2b => (0, (0, 0, 0), z_def z_nb (some (-128, 127)) false false pc)
  | .i2s => (0, (0, 0, 0), z_def z_nb (some (-32768, 32767)) false false pc)
  | .i2c => (0, (0, 0, 0), z_def z_nb (some (0, 65535)) false false pc)
  | .land => (0, (0, 0, 0), z_def z_nb none true false pc)
  | .lor => (0, (0, 0, 0), z_def z_nb none true false pc)
  | .lxor => (0, (0, 0, 0), z_def z_nb none true false pc)
  | .lshl => (0, (0, 0, 0), z_def z_nb none false true pc)
  | .lshr => (0, (0, 0, 0), z_def z_nb none false true pc)
  | _ => (0, (0, 0, 0), z_def z_nb none false false pc)
theorem z_call_ok {i : Instr} {o : List Nat} {f : ZF} (h : callO i o = (match o with | [c, na, kd, _, _, _, _] => some (c, na, kd) | _ => none)) : (z_call o f).2.2 = f ∧ (match callO i o with | some q => (z_call o f).1 = 1 ∧ (z_call o f).2.1 = q | none => (z_call o f).1 = 0) := by
  rw [h]
  unfold z_call
  split <;> exact ⟨rfl, by simp⟩
theorem pr_ok (i : Instr) (o : List Nat) (pc : Nat) : (isRet i = true → (pr i o pc).1 = 2) ∧ (isRet i = false → (match callO i o with | some q => (pr i o pc).1 = 1 ∧ (pr i o pc).2.1 = q | none => (pr i o pc).1 = 0 ∧ ∀ W S, (pr i o pc).2.2 W S = asuc W i o pc S)) := by
  have k : ∀ {j : Instr} {f : ZF}, (callO j o = (match o with | [c, na, kd, _, _, _, _] => some (c, na, kd) | _ => none)) → (∀ W S, f W S = asuc W j o pc S) → (match callO j o with | some q => (z_call o f).1 = 1 ∧ (z_call o f).2.1 = q | none => (z_call o f).1 = 0 ∧ ∀ W S, (z_call o f).2.2 W S = asuc W j o pc S) := by
    intro j f hj hf
    obtain ⟨h1, h2⟩ := z_call_ok (f := f) hj
    cases e : callO j o with
    | some q =>
      rw [e] at h2
      exact h2
    | none =>
      rw [e] at h2
      exact ⟨h2, fun W S => by rw [h1]; exact hf W S⟩
  cases i <;> first
    | exact ⟨fun _ => rfl, fun h => (by cases h)⟩
    | exact ⟨fun h => (by cases h), fun _ => ⟨rfl, fun _ _ => rfl⟩⟩
    | exact ⟨fun h => (by cases h), fun _ => k rfl (fun _ _ => rfl)⟩
/-- the check, in small pieces -/
def az (code : List En) (TB : List Ctr) (T : Ctr) (cal : List (Nat × Nat)) (cuts : List Cut) (C0 : Option Cut) : Nat → Bool → Nat → AS → Bool
  | 0, _, _, _ => false
  | n + 1, fresh, pc, S =>
    if (!fresh && cuts.any (fun C => C.1 == pc)) = true then cuts.any (fun C => (C.1 == pc) && (cutFit (cB T).length S C && cutM C0 S C))
    else match code.find? (fun q => q.1 == pc) with
      | none => false
      | some q => match (pr q.2.1 q.2.2.2 q.1).1 with
        | 2 => okRet (cY T) (cB T).length (cP T) q.2.1 S
        | 1 => cal.any (fun p => (p.1 == q.1) && (match TB[p.2]? with
          | some T' => (match acall (cD T) (cW T) (cK T) S (pr q.2.1 q.2.2.2 q.1).2.1.1 (pr q.2.1 q.2.2.2 q.1).2.1.2.1 (pr q.2.1 q.2.2.2 q.1).2.1.2.2 T' with
            | some l => l.all (fun S' => az code TB T cal cuts C0 n false (q.1 + 3) S')
            | none => false)
          | none => false))
        | _ => match (pr q.2.1 q.2.2.2 q.1).2.2 (cW T) S with
          | some l => l.all (fun p => az code TB T cal cuts C0 n false p.1 p.2)
          | none => false
theorem az_ay {code : List En} {TB : List Ctr} {T : Ctr} {cal : List (Nat × Nat)} {cuts : List Cut} {C0 : Option Cut} : ∀ (n : Nat) (fresh : Bool) (pc : Nat) (S : AS), az code TB T cal cuts C0 n fresh pc S = ay code TB T cal cuts C0 n fresh pc S
  | 0, _, _, _ => rfl
  | n + 1, fresh, pc, S => by
    have ih : az code TB T cal cuts C0 n = ay code TB T cal cuts C0 n := by
      funext a b c
      exact az_ay n a b c
    rw [az, ay, ih]
    split
    · rfl
    · cases hf : code.find? (fun q => q.1 == pc) with
      | none => rfl
      | some q =>
        have hq : q.1 = pc := by simpa using List.find?_some hf
        subst hq
        obtain ⟨p1, p2⟩ := pr_ok q.2.1 q.2.2.2 q.1
        simp only
        cases hr : isRet q.2.1 with
        | true =>
          rw [p1 hr, if_pos rfl]
          rfl
        | false =>
          have p2 := p2 hr
          rw [if_neg (by decide)]
          cases hc : callO q.2.1 q.2.2.2 with
          | some c =>
            rw [hc] at p2
            obtain ⟨e1, e2⟩ := p2
            rw [e1, e2]
            rfl
          | none =>
            rw [hc] at p2
            obtain ⟨e1, e2⟩ := p2
            rw [e1, e2]
            rfl
def chz (TB : List Ctr) (T : Ctr) (cal : List (Nat × Nat)) (cuts : List Cut) (ml : Nat) : Bool :=
  (cA T).all tg3 && cuts.all (fun C => (kM C).length == ml) &&
  az (progs.getD (cY T) []) TB T cal cuts none FU false 0 (cB T, entP (mMaxL (cY T)) (cA T), [], cF T) &&
  cuts.all (fun C => az (progs.getD (cY T) []) TB T cal cuts (some C) FU true C.1 (C.2.1, C.2.2.1, [], kF C))
theorem chz_chk {TB : List Ctr} {T : Ctr} {cal : List (Nat × Nat)} {cuts : List Cut} {ml : Nat} : chz TB T cal cuts ml = chk TB T cal cuts ml := by
  unfold chz chk
  rw [az_ay]
  congr 1
  congr 1
  funext C
  exact az_ay _ _ _ _
def rowOK (TB : List Ctr) (r : Row) : Bool := match r.2.2.2.2 with
  | none => chz TB r.1 r.2.1 r.2.2.1 r.2.2.2.1
  | some j => chkJ TB r.1 j
theorem rowOK_good {J : JV} (hJ : JS J) {TB : List Ctr} {r : Row} (hG : ∀ T' ∈ TB, Good J T') (hKW : (cK r.1 == false || disW J.2 (cW r.1)) = true) (hc : rowOK TB r = true) : Good J r.1 := by
  have hKW : cK r.1 = false ∨ disW J.2 (cW r.1) = true := by
    rcases (Bool.or_eq_true _ _).mp hKW with q | q
    · exact Or.inl (by simpa using q)
    · exact Or.inr q
  unfold rowOK at hc
  split at hc
  · rw [chz_chk] at hc
    exact chk_good hJ hG hKW hc
  · exact chkJ_good hG hc
theorem tab_good {J : JV} {TB : List Ctr} : ∀ {n : Nat}, n ≤ TB.length → (∀ i (hi : i < TB.length), i < n → (∀ T' ∈ TB.take i, Good J T') → Good J TB[i]) → ∀ T ∈ TB.take n, Good J T
  | 0, _, _, T, hT => by simp at hT
  | n + 1, hn, h, T, hT => by
    have ih := tab_good (n := n) (by omega) (fun i hi hin hG => h i hi (by omega) hG)
    rw [List.take_succ_eq_append_getElem (by omega)] at hT
    rcases List.mem_append.mp hT with q | q
    · exact ih T q
    · rw [List.mem_singleton.mp q]
      exact h n (by omega) (by omega) ih
