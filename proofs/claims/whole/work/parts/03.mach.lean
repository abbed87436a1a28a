/-! THE ABSTRACT MACHINE: a program's own step function over numbered cells; its heap is two functions (ints, references) beside a list of shapes -/
abbrev HP : Type := (Nat → Nat → Int32) × (Nat → Nat → Option Nat)
abbrev SH : Type := List (Nat × Nat)
/-- an instruction: its pc, itself, two numbers (a jump's target, a field's class and place, a callee), a switch's targets -/
abbrev EI : Type := Nat × Instr × Nat × Nat × List Nat
/-- a method: name, bytes, locals, what it returns, room, arguments, its class's number, code -/
abbrev ME : Type := MethodName × ByteArray × Nat × Option FieldType × Room × Nat × Nat × List EI
abbrev mName (q : ME) : MethodName := q.1
abbrev mBytes (q : ME) : ByteArray := q.2.1
abbrev mLoc (q : ME) : Nat := q.2.2.1
abbrev mRet (q : ME) : Option FieldType := q.2.2.2.1
abbrev mRoom (q : ME) : Room := q.2.2.2.2.1
abbrev mArgs (q : ME) : Nat := q.2.2.2.2.2.1
abbrev mCls (q : ME) : Nat := q.2.2.2.2.2.2.1
abbrev mCode (q : ME) : List EI := q.2.2.2.2.2.2.2
abbrev CF : Type := Nat × List (Option Value) × List Value × Nat × Nat × SH × HP
abbrev RS : Type := Option Value × Nat × Nat × SH × HP
def SCR : Nat := 1000000
def setR {α : Type} (f : Nat → Nat → α) (i : Nat) (r : Nat → α) : Nat → Nat → α := fun j => if j = i then r else f j
def cnd (c : ClassFile.Cond) (x y : Int32) : Bool := match c with
  | .eq => decide (x = y)
  | .ne => decide (¬ x = y)
  | .lt => decide (x < y)
  | .ge => decide (y ≤ x)
  | .gt => decide (y < x)
  | .le => decide (x ≤ y)
def rv : Option Nat → Value
  | none => .null
  | some i => .ref i
/-- the kinds of the fields, by class: 0 int, 1 boolean, 2 reference -/
def clk : List (List Nat) := [[0, 0, 0, 2, 2, 2, 2, 2, 2], [0, 2], [0, 2], [2, 2, 2], [2, 2], [2, 2, 2, 1, 2, 2, 2, 2, 0, 2, 2, 2, 2, 2], [2, 2, 2, 2, 2, 2, 2, 2, 0, 0, 2, 2, 2, 2, 0, 0, 0, 2, 1, 1, 0, 0, 2, 2, 2, 0, 2, 2, 2, 2]]
def kd (ci k : Nat) : Nat := (clk.getD ci []).getD k 0
def fval (hp : HP) (ci o k : Nat) : Value := if kd ci k = 2 then rv (hp.2 o k) else .int (hp.1 o k)
def locI (L : List (Option Value)) (i : Nat) : Option Int32 := match L[i]? with
  | some (some (.int x)) => some x
  | _ => none
def locR (L : List (Option Value)) (i : Nat) : Option Nat := match L[i]? with
  | some (some (.ref x)) => some x
  | _ => none
def switchTo (x lo hi : Int) (ts : List Nat) : Option Nat := if x < lo ∨ hi < x then ts[0]? else ts[(x - lo).toNat + 1]?
def lookTo (ks : List Int) (x : Int) (ts : List Nat) : Option Nat := match ks, ts with
  | k :: ks, t :: ts => if x = k then some t else lookTo ks x ts
  | _, t :: _ => some t
  | _, [] => none
def isRet (i : Instr) : Bool := match i with
  | .ireturn => true
  | .areturn => true
  | .return_ => true
  | _ => false
def isCall (i : Instr) (b : Nat) : Bool := match i with
  | .invokevirtual _ => true
  | .invokespecial _ => b == 0
  | .invokestatic _ => b == 0
  | _ => false
def mabs (x : Int32) : Int32 := if 0 ≤ x then x else 0 - x
def mmax (x y : Int32) : Int32 := if x < y then y else x
def mmin (x y : Int32) : Int32 := if y < x then y else x
/-- the steps within a method -/
def prim (rm : Room) (scr : Option (Nat × (Nat → Int32))) (e : EI) (j : Nat) (L : List (Option Value)) (st : List Value) (cs sl : Nat) (sh : SH) (hp : HP) : Option CF :=
  match e.2.1 with
  | .iload_n k => (locI L k).bind fun x => some (j + 1, L, .int x :: st, cs, sl, sh, hp)
  | .iload k => (locI L k).bind fun x => some (j + 1, L, .int x :: st, cs, sl, sh, hp)
  | .aload_n k => (locR L k).bind fun x => some (j + 1, L, .ref x :: st, cs, sl, sh, hp)
  | .aload k => (locR L k).bind fun x => some (j + 1, L, .ref x :: st, cs, sl, sh, hp)
  | .istore_n k => match st with
    | .int x :: r => if (k : Nat) < L.length then some (j + 1, L.set k (some (.int x)), r, cs, sl, sh, hp) else none
    | _ => none
  | .istore k => match st with
    | .int x :: r => if k < L.length then some (j + 1, L.set k (some (.int x)), r, cs, sl, sh, hp) else none
    | _ => none
  | .astore_n k => match st with
    | .ref x :: r => if (k : Nat) < L.length then some (j + 1, L.set k (some (.ref x)), r, cs, sl, sh, hp) else none
    | _ => none
  | .astore k => match st with
    | .ref x :: r => if k < L.length then some (j + 1, L.set k (some (.ref x)), r, cs, sl, sh, hp) else none
    | _ => none
  | .iconst n => some (j + 1, L, .int (Int32.ofInt n) :: st, cs, sl, sh, hp)
  | .bipush n => some (j + 1, L, .int (Int8.ofInt n).toInt32 :: st, cs, sl, sh, hp)
  | .sipush n => some (j + 1, L, .int (Int16.ofInt n).toInt32 :: st, cs, sl, sh, hp)
  | .ldc _ => some (j + 1, L, .int (Int32.ofNat e.2.2.1) :: st, cs, sl, sh, hp)
  | .ldc_w _ => some (j + 1, L, .int (Int32.ofNat e.2.2.1) :: st, cs, sl, sh, hp)
  | .iinc k n => (locI L k).bind fun x => if k < L.length then some (j + 1, L.set k (some (.int (x + Int32.ofInt n))), st, cs, sl, sh, hp) else none
  | .iadd => match st with
    | .int y :: .int x :: r => some (j + 1, L, .int (x + y) :: r, cs, sl, sh, hp)
    | _ => none
  | .isub => match st with
    | .int y :: .int x :: r => some (j + 1, L, .int (x - y) :: r, cs, sl, sh, hp)
    | _ => none
  | .imul => match st with
    | .int y :: .int x :: r => some (j + 1, L, .int (x * y) :: r, cs, sl, sh, hp)
    | _ => none
  | .iand => match st with
    | .int y :: .int x :: r => some (j + 1, L, .int (x &&& y) :: r, cs, sl, sh, hp)
    | _ => none
  | .ior => match st with
    | .int y :: .int x :: r => some (j + 1, L, .int (x ||| y) :: r, cs, sl, sh, hp)
    | _ => none
  | .ixor => match st with
    | .int y :: .int x :: r => some (j + 1, L, .int (x ^^^ y) :: r, cs, sl, sh, hp)
    | _ => none
  | .ishl => match st with
    | .int y :: .int x :: r => some (j + 1, L, .int (x <<< (y &&& 31)) :: r, cs, sl, sh, hp)
    | _ => none
  | .ishr => match st with
    | .int y :: .int x :: r => some (j + 1, L, .int (x >>> (y &&& 31)) :: r, cs, sl, sh, hp)
    | _ => none
  | .iushr => match st with
    | .int y :: .int x :: r => some (j + 1, L, .int (x.toUInt32 >>> (y.toUInt32 &&& Int32.toUInt32 31)).toInt32 :: r, cs, sl, sh, hp)
    | _ => none
  | .idiv => match st with
    | .int y :: .int x :: r => if y = 0 then none else some (j + 1, L, .int (x / y) :: r, cs, sl, sh, hp)
    | _ => none
  | .irem => match st with
    | .int y :: .int x :: r => if y = 0 then none else some (j + 1, L, .int (x - x / y * y) :: r, cs, sl, sh, hp)
    | _ => none
  | .ineg => match st with
    | .int x :: r => some (j + 1, L, .int (-x) :: r, cs, sl, sh, hp)
    | _ => none
  | .dup => match st with
    | .int x :: r => some (j + 1, L, .int x :: .int x :: r, cs, sl, sh, hp)
    | .ref x :: r => some (j + 1, L, .ref x :: .ref x :: r, cs, sl, sh, hp)
    | _ => none
  | .dup2 => match st with
    | .int y :: .ref x :: r => some (j + 1, L, .int y :: .ref x :: .int y :: .ref x :: r, cs, sl, sh, hp)
    | _ => none
  | .pop => match st with
    | .int _ :: r => some (j + 1, L, r, cs, sl, sh, hp)
    | .ref _ :: r => some (j + 1, L, r, cs, sl, sh, hp)
    | _ => none
  | .goto _ => some (e.2.2.1, L, st, cs, sl, sh, hp)
  | .ifCond c _ => match st with
    | .int x :: r => some (if cnd c x 0 = true then e.2.2.1 else j + 1, L, r, cs, sl, sh, hp)
    | _ => none
  | .if_icmp c _ => match st with
    | .int y :: .int x :: r => some (if cnd c x y = true then e.2.2.1 else j + 1, L, r, cs, sl, sh, hp)
    | _ => none
  | .tableswitch _ lo hi _ => match st with
    | .int x :: r => (switchTo x.toInt lo hi e.2.2.2.2).bind fun t => some (t, L, r, cs, sl, sh, hp)
    | _ => none
  | .lookupswitch _ ps => match st with
    | .int x :: r => (lookTo (ps.toList.map (·.1)) x.toInt e.2.2.2.2).bind fun t => some (t, L, r, cs, sl, sh, hp)
    | _ => none
  | .getfield _ => match st with
    | .ref o :: r => if sh[o]? = some (0, e.2.2.1) ∧ ¬ o = SCR then some (j + 1, L, fval hp e.2.2.1 o e.2.2.2.1 :: r, cs, sl, sh, hp) else none
    | _ => none
  | .putfield _ => match st with
    | .int v :: .ref o :: r => if (sh[o]? = some (0, e.2.2.1) ∧ ¬ o = SCR) ∧ (kd e.2.2.1 e.2.2.2.1 = 0 ∨ (kd e.2.2.1 e.2.2.2.1 = 1 ∧ (v = 0 ∨ v = 1))) then some (j + 1, L, r, cs, sl, sh, (setR hp.1 o (upd (hp.1 o) e.2.2.2.1 v), hp.2)) else none
    | .ref q :: .ref o :: r => if (sh[o]? = some (0, e.2.2.1) ∧ ¬ o = SCR) ∧ kd e.2.2.1 e.2.2.2.1 = 2 ∧ ¬ q = SCR then some (j + 1, L, r, cs, sl, sh, (hp.1, setR hp.2 o (va_up (hp.2 o) e.2.2.2.1 (some q)))) else none
    | _ => none
  | .new _ => if cs + 1 ≤ rm.cells ∧ sl + (clk.getD e.2.2.1 []).length ≤ rm.slots ∧ sh.length < SCR then some (j + 1, L, .ref sh.length :: st, cs + 1, sl + (clk.getD e.2.2.1 []).length, sh ++ [(0, e.2.2.1)], (setR hp.1 sh.length (fun _ => 0), setR hp.2 sh.length (fun _ => none))) else none
  | .newarray _ => match st with
    | .int n :: r => if ¬ n < 0 ∧ n.toNatClampNeg ≤ 100000 ∧ cs + 1 ≤ rm.cells ∧ sl + n.toNatClampNeg ≤ rm.slots ∧ sh.length < SCR then some (j + 1, L, .ref sh.length :: r, cs + 1, sl + n.toNatClampNeg, sh ++ [(1, n.toNatClampNeg)], (setR hp.1 sh.length (fun _ => 0), hp.2)) else none
    | _ => none
  | .anewarray _ => match st with
    | .int n :: r => if ¬ n < 0 ∧ n.toNatClampNeg ≤ 100000 ∧ cs + 1 ≤ rm.cells ∧ sl + n.toNatClampNeg ≤ rm.slots ∧ sh.length < SCR then some (j + 1, L, .ref sh.length :: r, cs + 1, sl + n.toNatClampNeg, sh ++ [(2, n.toNatClampNeg)], (hp.1, setR hp.2 sh.length (fun _ => none))) else none
    | _ => none
  | .iaload => match st with
    | .int i :: .ref o :: r => if o = SCR then scr.bind fun q => if ¬ (i < 0 ∨ q.1 ≤ i.toNatClampNeg) then some (j + 1, L, .int (q.2 i.toNatClampNeg) :: r, cs, sl, sh, hp) else none
      else match sh[o]? with
        | some (1, n) => if ¬ (i < 0 ∨ n ≤ i.toNatClampNeg) then some (j + 1, L, .int (hp.1 o i.toNatClampNeg) :: r, cs, sl, sh, hp) else none
        | _ => none
    | _ => none
  | .iastore => match st with
    | .int x :: .int i :: .ref o :: r => if o = SCR then none else match sh[o]? with
        | some (1, n) => if ¬ (i < 0 ∨ n ≤ i.toNatClampNeg) then some (j + 1, L, r, cs, sl, sh, (setR hp.1 o (upd (hp.1 o) i.toNatClampNeg x), hp.2)) else none
        | _ => none
    | _ => none
  | .aaload => match st with
    | .int i :: .ref o :: r => if o = SCR then none else match sh[o]? with
        | some (2, n) => if ¬ (i < 0 ∨ n ≤ i.toNatClampNeg) then some (j + 1, L, rv (hp.2 o i.toNatClampNeg) :: r, cs, sl, sh, hp) else none
        | _ => none
    | _ => none
  | .aastore => match st with
    | .ref q :: .int i :: .ref o :: r => if o = SCR ∨ q = SCR ∨ ¬ sh[q]? = some (0, 0) then none else match sh[o]? with
        | some (2, n) => if ¬ (i < 0 ∨ n ≤ i.toNatClampNeg) then some (j + 1, L, r, cs, sl, sh, (hp.1, setR hp.2 o (va_up (hp.2 o) i.toNatClampNeg (some q)))) else none
        | _ => none
    | _ => none
  | .arraylength => match st with
    | .ref o :: r => if o = SCR then scr.bind fun q => some (j + 1, L, .int (Int32.ofNat q.1) :: r, cs, sl, sh, hp)
      else match sh[o]? with
        | some (1, n) => some (j + 1, L, .int (Int32.ofNat n) :: r, cs, sl, sh, hp)
        | some (2, n) => some (j + 1, L, .int (Int32.ofNat n) :: r, cs, sl, sh, hp)
        | _ => none
    | _ => none
  | .invokespecial _ => match st with
    | .ref _ :: r => if e.2.2.2.1 = 1 ∧ 1 ≤ rm.frames ∧ (r.map fun v => v.category).sum + 12 ≤ rm.locals then some (j + 1, L, r, cs, sl, sh, hp) else none
    | _ => none
  | .invokestatic _ =>
    if e.2.2.2.1 = 2 then match st with
      | .int n :: .int dp :: .ref d :: .int sp :: .ref o :: r => match sh[o]?, sh[d]? with
        | some (1, n0), some (1, n1) => if (¬ o = SCR ∧ ¬ d = SCR) ∧ ¬ sp < 0 ∧ ¬ dp < 0 ∧ ¬ n < 0 ∧ sp.toNatClampNeg + n.toNatClampNeg ≤ n0 ∧ dp.toNatClampNeg + n.toNatClampNeg ≤ n1 ∧ 1 ≤ rm.frames ∧ (r.map fun v => v.category).sum + 40 ≤ rm.locals then
            some (j + 1, L, r, cs, sl, sh, (setR hp.1 d (va_cpy (hp.1 o) (hp.1 d) sp.toNatClampNeg dp.toNatClampNeg n.toNatClampNeg), hp.2)) else none
        | _, _ => none
      | _ => none
    else if 1 ≤ rm.frames ∧ cs ≤ rm.cells ∧ sl ≤ rm.slots then
      if e.2.2.2.1 = 3 then match st with
        | .int x :: r => if (r.map fun v => v.category).sum + 13 ≤ rm.locals then some (j + 1, L, .int (mabs x) :: r, cs, sl, sh, hp) else none
        | _ => none
      else if e.2.2.2.1 = 4 then match st with
        | .int y :: .int x :: r => if (r.map fun v => v.category).sum + 13 ≤ rm.locals then some (j + 1, L, .int (mmax x y) :: r, cs, sl, sh, hp) else none
        | _ => none
      else if e.2.2.2.1 = 5 then match st with
        | .int y :: .int x :: r => if (r.map fun v => v.category).sum + 13 ≤ rm.locals then some (j + 1, L, .int (mmin x y) :: r, cs, sl, sh, hp) else none
        | _ => none
      else none
    else none
  | _ => none
def retTo (ret : Option FieldType) (rm : Room) (i : Instr) (st : List Value) (cs sl : Nat) (sh : SH) (hp : HP) : Option RS :=
  if cs ≤ rm.cells ∧ sl ≤ rm.slots then
    match i, st with
    | .ireturn, [.int v] => if ret = some .int ∨ (ret = some .boolean ∧ (v = 0 ∨ v = 1)) then some (some (.int v), cs, sl, sh, hp) else none
    | .areturn, [.ref o] => match ret with
      | some (.object _) => some (some (.ref o), cs, sl, sh, hp)
      | _ => none
    | .return_, [] => if ret = none then some (none, cs, sl, sh, hp) else none
    | _, _ => none
  else none
/-- the receiver's class -/
def recvOk (i : Instr) (me' : ME) (st : List Value) (sh : SH) : Bool := match i with
  | .invokevirtual _ => match (st.take (mArgs me')).getLast? with
    | some (.ref o) => decide (¬ o = SCR ∧ sh[o]? = some (0, mCls me'))
    | _ => false
  | .invokespecial _ => match (st.take (mArgs me')).getLast? with
    | some (.ref _) => true
    | _ => false
  | _ => true
/-- may this call go: room, and the receiver's class -/
def callOk (rm : Room) (i : Instr) (me' : ME) (st : List Value) (cs sl : Nat) (sh : SH) : Bool :=
  decide (mArgs me' ≤ st.length) && decide (mArgs me' ≤ mLoc me') && ((st.take (mArgs me')).all fun v => v.category == 1) && decide (((st.drop (mArgs me')).map fun v => v.category).sum ≤ 8) &&
  decide ((mRoom me').frames + 1 ≤ rm.frames) && decide (8 + (mLoc me' + 11) + (mRoom me').locals ≤ rm.locals) && decide (cs + (mRoom me').cells ≤ rm.cells) && decide (sl + (mRoom me').slots ≤ rm.slots) && recvOk i me' st sh
def args0 (me' : ME) (st : List Value) : List Value := (st.take (mArgs me')).reverse
def loc0 (me' : ME) (st : List Value) : List (Option Value) := (args0 me' st).map some ++ List.replicate (mLoc me' - mArgs me') none
/-- a method's run -/
def exF (ms : List ME) : Nat → Option (Nat × (Nat → Int32)) → ME → Nat → List (Option Value) → List Value → Nat → Nat → SH → HP → Option RS
  | 0, _, _, _, _, _, _, _, _, _ => none
  | n + 1, scr, me, j, L, st, cs, sl, sh, hp => (mCode me)[j]?.bind fun e =>
    if isRet e.2.1 = true then retTo (mRet me) (mRoom me) e.2.1 st cs sl sh hp
    else if isCall e.2.1 e.2.2.2.1 = true then ms[e.2.2.1]?.bind fun me' =>
      if callOk (mRoom me) e.2.1 me' st cs sl sh = true then (exF ms n none me' 0 (loc0 me' st) [] 0 0 sh hp).bind fun q =>
        exF ms n scr me (j + 1) L (q.1.toList ++ st.drop (mArgs me')) (cs + (mRoom me').cells) (sl + (mRoom me').slots) q.2.2.2.1 q.2.2.2.2
      else none
    else (prim (mRoom me) scr e j L st cs sl sh hp).bind fun q => exF ms n scr me q.1 q.2.1 q.2.2.1 q.2.2.2.1 q.2.2.2.2.1 q.2.2.2.2.2.1 q.2.2.2.2.2.2
