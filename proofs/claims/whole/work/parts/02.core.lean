/-! THE ABSTRACT MACHINE. A memory: ints (also booleans) by cell and place, longs, references, the shape (kind, length) of each cell, how many cells there are, how many slots they have.
Kinds: below 100 the objects of class number k of vwCl (13: NoSuchElementException); 100 int rows, 101 long rows, 102 boolean rows, 110 + k rows of objects of class k. Cell 0 is the law's script; String constant number k has the cell 1000000 + k. -/
abbrev zM : Type := (Nat → Nat → Int32) × (Nat → Nat → Int64) × (Nat → Nat → Option Nat) × (Nat → Nat × Nat) × Nat × Nat
def zI (S : zM) : Nat → Nat → Int32 := S.1
def zJ (S : zM) : Nat → Nat → Int64 := S.2.1
def zR (S : zM) : Nat → Nat → Option Nat := S.2.2.1
def zh (S : zM) : Nat → Nat × Nat := S.2.2.2.1
def zn (S : zM) : Nat := S.2.2.2.2.1
def zs (S : zM) : Nat := S.2.2.2.2.2
def z2 {α : Type} (f : Nat → Nat → α) (a k : Nat) (v : α) : Nat → Nat → α := fun b j => if b = a ∧ j = k then v else f b j
def zwI (S : zM) (a k : Nat) (v : Int32) : zM := (z2 S.1 a k v, S.2)
def zwJ (S : zM) (a k : Nat) (v : Int64) : zM := (S.1, z2 S.2.1 a k v, S.2.2)
def zwR (S : zM) (a k : Nat) (v : Option Nat) : zM := (S.1, S.2.1, z2 S.2.2.1 a k v, S.2.2.2)
/-- a new cell: its number is one more than there are -/
def zalloc (S : zM) (kd len sl : Nat) : zM := (S.1, S.2.1, S.2.2.1, (fun b => if b = S.2.2.2.2.1 + 1 then (kd, len) else S.2.2.2.1 b), S.2.2.2.2.1 + 1, S.2.2.2.2.2 + sl)
/-- fields -/
def zgf (S : zM) (ci a k : Nat) : Option Int32 := if (zh S a).1 = ci then some (zI S a k) else none
def zgr (S : zM) (ci a k : Nat) : Option Nat := if (zh S a).1 = ci then zR S a k else none
def zpf (S : zM) (ci a k : Nat) (v : Int32) : Option zM := if (zh S a).1 = ci then some (zwI S a k v) else none
def zpz (S : zM) (ci a k : Nat) (v : Int32) : Option zM := if (zh S a).1 = ci ∧ (v = 0 ∨ v = 1) then some (zwI S a k v) else none
def zpr (S : zM) (ci a k : Nat) (v : Option Nat) : Option zM := if (zh S a).1 = ci then some (zwR S a k v) else none
/-- rows -/
def zin (i : Int32) (n : Nat) : Prop := ¬ i < 0 ∧ i.toNatClampNeg < n
def zinb (i : Int32) (n : Nat) : Bool := decide (¬ i < 0) && decide (i.toNatClampNeg < n)
def zga (S : zM) (kd a : Nat) (i : Int32) : Option Int32 := if (zh S a).1 = kd ∧ zinb i (zh S a).2 = true then some (zI S a i.toNatClampNeg) else none
def zgl (S : zM) (a : Nat) (i : Int32) : Option Int64 := if (zh S a).1 = 101 ∧ zinb i (zh S a).2 = true then some (zJ S a i.toNatClampNeg) else none
def zgo (S : zM) (kd a : Nat) (i : Int32) : Option Nat := if (zh S a).1 = kd ∧ zinb i (zh S a).2 = true then zR S a i.toNatClampNeg else none
def zpa (S : zM) (a : Nat) (i v : Int32) : Option zM := if (zh S a).1 = 100 ∧ ¬ a = 0 ∧ zinb i (zh S a).2 = true then some (zwI S a i.toNatClampNeg v) else none
def zpb (S : zM) (a : Nat) (i v : Int32) : Option zM := if (zh S a).1 = 102 ∧ (v = 0 ∨ v = 1) ∧ zinb i (zh S a).2 = true then some (zwI S a i.toNatClampNeg v) else none
def zpl (S : zM) (a : Nat) (i : Int32) (v : Int64) : Option zM := if (zh S a).1 = 101 ∧ zinb i (zh S a).2 = true then some (zwJ S a i.toNatClampNeg v) else none
def zpo (S : zM) (ci a : Nat) (i : Int32) (v : Nat) : Option zM := if (zh S a).1 = 110 + ci ∧ (zh S v).1 = ci ∧ zinb i (zh S a).2 = true then some (zwR S a i.toNatClampNeg (some v)) else none
def zlen (S : zM) (a : Nat) : Option Int32 := if (zh S a).1 = 100 then some (Int32.ofNat (zh S a).2) else none
/-- System.arraycopy of int rows, two of them -/
def zcpf (f g : Nat → Int32) (sp dp n : Nat) : Nat → Int32 := fun k => if dp ≤ k ∧ k < dp + n then f (sp + (k - dp)) else g k
def zcp (S : zM) (s : Nat) (sp : Int32) (d : Nat) (dp n : Int32) : Option zM :=
  if (zh S s).1 = 100 ∧ (zh S d).1 = 100 ∧ ¬ s = 0 ∧ ¬ d = 0 ∧ ¬ sp < 0 ∧ ¬ dp < 0 ∧ ¬ n < 0 ∧ sp.toNatClampNeg + n.toNatClampNeg ≤ (zh S s).2 ∧ dp.toNatClampNeg + n.toNatClampNeg ≤ (zh S d).2
  then some ((fun b j => if b = d then zcpf (S.1 s) (S.1 d) sp.toNatClampNeg dp.toNatClampNeg n.toNatClampNeg j else S.1 b j), S.2) else none
/-! a frame -/
abbrev zV : Type := List (Option Value)
def zget (lv : zV) (i : Nat) : Option Value := match lv[i]? with
  | some o => o
  | none => none
def zclr (lv : zV) (i : Nat) : zV := match i with
  | 0 => lv
  | j + 1 => match lv[j]? with
    | some (some v) => bif Nat.beq v.category 2 then lv.set j none else lv
    | _ => lv
def zset (lv : zV) (i : Nat) (v : Value) : zV := (zclr lv i).set i (some v)
def zset2 (lv : zV) (i : Nat) (v : Value) : zV := ((zclr lv i).set i (some v)).set (i + 1) none
/-- instruction, next pc, three numbers, an int, a long, a switch -/
abbrev zE : Type := Instr × Nat × Nat × Nat × Nat × Int32 × Int64 × List (Int32 × Nat)
abbrev zK (α : Type) : Type := Nat → zV → List Value → zM → Option α
abbrev zX (α : Type) : Type := List Value → zM → (Option Value → zM → Option α) → Option α
def zi2 {α : Type} (f : Int32 → Int32 → Int32) (st : List Value) (k : List Value → Option α) : Option α := match st with
  | .int y :: .int x :: r => k (.int (f x y) :: r)
  | _ => none
def zl2 {α : Type} (f : Int64 → Int64 → Int64) (st : List Value) (k : List Value → Option α) : Option α := match st with
  | .long y :: .long x :: r => k (.long (f x y) :: r)
  | _ => none
def zsh {α : Type} (f : Int64 → Int32 → Int64) (st : List Value) (k : List Value → Option α) : Option α := match st with
  | .int y :: .long x :: r => k (.long (f x y) :: r)
  | _ => none
def zpop : Nat → List Value → List Value → Option (List Value × List Value)
  | 0, st, acc => some (acc, st)
  | n + 1, v :: st, acc => zpop n st (v :: acc)
  | _ + 1, [], _ => none
def zcats : List Value → Nat
  | [] => 0
  | .long _ :: r => 2 + zcats r
  | .double _ :: r => 2 + zcats r
  | _ :: r => 1 + zcats r
def ztab {α : Type} (x : Int32) (d : Nat) (k : Nat → Option α) : List (Int32 × Nat) → Option α
  | [] => k d
  | q :: qs => if x = q.1 then k q.2 else ztab x d k qs
def zbr {α : Type} (c : Jvm.ClassFile.Cond) (x y : Int32) (J N : Option α) : Option α := match c with
  | .eq => if x = y then J else N
  | .ne => if x = y then N else J
  | .lt => if x < y then J else N
  | .ge => if x < y then N else J
  | .gt => if x ≤ y then N else J
  | .le => if x ≤ y then J else N
def zmax (x y : Int32) : Int32 := if x < y then y else x
def zmin (x y : Int32) : Int32 := if y < x then y else x
/-- one step; rz: the method answers a boolean -/
def zst {α : Type} (rz : Bool) (E : Nat → zX α) (en : zE) (lv : zV) (st : List Value) (S : zM) (k : zK α) (kr : Option Value → zM → Option α) : Option α :=
  match en with
  | (i, np, r1, r2, r3, v, w, ts) => match i with
    | .iconst _ => k np lv (.int v :: st) S
    | .bipush _ => k np lv (.int v :: st) S
    | .sipush _ => k np lv (.int v :: st) S
    | .ldc _ => bif Nat.beq r1 1 then k np lv (.ref (1000000 + r2) :: st) S else k np lv (.int v :: st) S
    | .ldc_w _ => k np lv (.int v :: st) S
    | .lconst _ => k np lv (.long w :: st) S
    | .ldc2_w _ => k np lv (.long w :: st) S
    | .aconst_null => k np lv (.null :: st) S
    | .iload _ => match zget lv r1 with
      | some (.int x) => k np lv (.int x :: st) S
      | _ => none
    | .iload_n _ => match zget lv r1 with
      | some (.int x) => k np lv (.int x :: st) S
      | _ => none
    | .lload _ => match zget lv r1 with
      | some (.long x) => k np lv (.long x :: st) S
      | _ => none
    | .lload_n _ => match zget lv r1 with
      | some (.long x) => k np lv (.long x :: st) S
      | _ => none
    | .aload _ => match zget lv r1 with
      | some (.ref x) => k np lv (.ref x :: st) S
      | some .null => k np lv (.null :: st) S
      | _ => none
    | .aload_n _ => match zget lv r1 with
      | some (.ref x) => k np lv (.ref x :: st) S
      | some .null => k np lv (.null :: st) S
      | _ => none
    | .istore _ => match st with
      | .int x :: r => k np (zset lv r1 (.int x)) r S
      | _ => none
    | .istore_n _ => match st with
      | .int x :: r => k np (zset lv r1 (.int x)) r S
      | _ => none
    | .lstore _ => match st with
      | .long x :: r => k np (zset2 lv r1 (.long x)) r S
      | _ => none
    | .lstore_n _ => match st with
      | .long x :: r => k np (zset2 lv r1 (.long x)) r S
      | _ => none
    | .astore _ => match st with
      | .ref x :: r => k np (zset lv r1 (.ref x)) r S
      | .null :: r => k np (zset lv r1 .null) r S
      | _ => none
    | .astore_n _ => match st with
      | .ref x :: r => k np (zset lv r1 (.ref x)) r S
      | .null :: r => k np (zset lv r1 .null) r S
      | _ => none
    | .iinc _ _ => match zget lv r1 with
      | some (.int x) => k np (zset lv r1 (.int (x + v))) st S
      | _ => none
    | .iadd => zi2 (fun x y => x + y) st (fun st => k np lv st S)
    | .isub => zi2 (fun x y => x - y) st (fun st => k np lv st S)
    | .imul => zi2 (fun x y => x * y) st (fun st => k np lv st S)
    | .iand => zi2 (fun x y => x &&& y) st (fun st => k np lv st S)
    | .ior => zi2 (fun x y => x ||| y) st (fun st => k np lv st S)
    | .ixor => zi2 (fun x y => x ^^^ y) st (fun st => k np lv st S)
    | .ishl => zi2 (fun x y => x <<< (y &&& 31)) st (fun st => k np lv st S)
    | .ishr => zi2 (fun x y => x >>> (y &&& 31)) st (fun st => k np lv st S)
    | .iushr => zi2 (fun x y => (x.toUInt32 >>> (y.toUInt32 &&& Int32.toUInt32 31)).toInt32) st (fun st => k np lv st S)
    | .idiv => match st with
      | .int y :: .int x :: r => if y = 0 then none else k np lv (.int (x / y) :: r) S
      | _ => none
    | .irem => match st with
      | .int y :: .int x :: r => if y = 0 then none else k np lv (.int (x - x / y * y) :: r) S
      | _ => none
    | .ineg => match st with
      | .int x :: r => k np lv (.int (-x) :: r) S
      | _ => none
    | .ladd => zl2 (fun x y => x + y) st (fun st => k np lv st S)
    | .lsub => zl2 (fun x y => x - y) st (fun st => k np lv st S)
    | .lmul => zl2 (fun x y => x * y) st (fun st => k np lv st S)
    | .land => zl2 (fun x y => x &&& y) st (fun st => k np lv st S)
    | .lor => zl2 (fun x y => x ||| y) st (fun st => k np lv st S)
    | .lshl => zsh (fun x y => x <<< (y.toInt64 &&& 63)) st (fun st => k np lv st S)
    | .lshr => zsh (fun x y => x >>> (y.toInt64 &&& 63)) st (fun st => k np lv st S)
    | .lushr => zsh (fun x y => (x.toUInt64 >>> (y.toInt64.toUInt64 &&& Int64.toUInt64 63)).toInt64) st (fun st => k np lv st S)
    | .i2l => match st with
      | .int x :: r => k np lv (.long x.toInt64 :: r) S
      | _ => none
    | .l2i => match st with
      | .long x :: r => k np lv (.int x.toInt32 :: r) S
      | _ => none
    | .lcmp => match st with
      | .long y :: .long x :: r => k np lv (.int (lg_cmp x y) :: r) S
      | _ => none
    | .dup => match st with
      | .int x :: r => k np lv (.int x :: .int x :: r) S
      | .ref x :: r => k np lv (.ref x :: .ref x :: r) S
      | _ => none
    | .dup2 => match st with
      | .int x :: .ref y :: r => k np lv (.int x :: .ref y :: .int x :: .ref y :: r) S
      | _ => none
    | .pop => match st with
      | .int _ :: r => k np lv r S
      | .ref _ :: r => k np lv r S
      | _ => none
    | .goto _ => k r1 lv st S
    | .ifCond c _ => match st with
      | .int x :: r => zbr c x 0 (k r1 lv r S) (k np lv r S)
      | _ => none
    | .if_icmp c _ => match st with
      | .int y :: .int x :: r => zbr c x y (k r1 lv r S) (k np lv r S)
      | _ => none
    | .ifnull _ => match st with
      | .ref _ :: r => k np lv r S
      | .null :: r => k r1 lv r S
      | _ => none
    | .ifnonnull _ => match st with
      | .ref _ :: r => k r1 lv r S
      | .null :: r => k np lv r S
      | _ => none
    | .tableswitch _ _ _ _ => match st with
      | .int x :: r => ztab x r1 (fun pc => k pc lv r S) ts
      | _ => none
    | .ireturn => match st with
      | [.int x] => bif rz then (if x = 0 ∨ x = 1 then kr (some (.int x)) S else none) else kr (some (.int x)) S
      | _ => none
    | .lreturn => match st with
      | [.long x] => kr (some (.long x)) S
      | _ => none
    | .areturn => match st with
      | [.ref x] => kr (some (.ref x)) S
      | [.null] => kr (some .null) S
      | _ => none
    | .return_ => match st with
      | [] => kr none S
      | _ => none
    -- r3: 0 int, 1 boolean, 2 a reference that isn't null, 3 a reference or null; r1 the class, r2 the field
    | .getfield _ => match st with
      | .ref a :: r => bif Nat.beq r3 2 then Option.bind (zgr S r1 a r2) (fun q => k np lv (.ref q :: r) S)
        else bif Nat.beq r3 3 then (if (zh S a).1 = r1 then (match zR S a r2 with
          | some q => k np lv (.ref q :: r) S
          | none => k np lv (.null :: r) S) else none)
        else Option.bind (zgf S r1 a r2) (fun x => k np lv (.int x :: r) S)
      | _ => none
    | .putfield _ => match st with
      | .int x :: .ref a :: r => bif Nat.beq r3 1 then Option.bind (zpz S r1 a r2 x) (fun S => k np lv r S) else bif Nat.beq r3 0 then Option.bind (zpf S r1 a r2 x) (fun S => k np lv r S) else none
      | .ref q :: .ref a :: r => bif Nat.beq r3 2 then Option.bind (zpr S r1 a r2 (some q)) (fun S => k np lv r S) else none
      | .null :: .ref a :: r => bif Nat.beq r3 2 then Option.bind (zpr S r1 a r2 none) (fun S => k np lv r S) else none
      | _ => none
    | .arraylength => match st with
      | .ref a :: r => Option.bind (zlen S a) (fun x => k np lv (.int x :: r) S)
      | _ => none
    | .iaload => match st with
      | .int i :: .ref a :: r => Option.bind (zga S 100 a i) (fun x => k np lv (.int x :: r) S)
      | _ => none
    | .baload => match st with
      | .int i :: .ref a :: r => Option.bind (zga S 102 a i) (fun x => k np lv (.int x :: r) S)
      | _ => none
    | .laload => match st with
      | .int i :: .ref a :: r => Option.bind (zgl S a i) (fun x => k np lv (.long x :: r) S)
      | _ => none
    -- r1 the class; r3: 2 not null, 3 or null
    | .aaload => match st with
      | .int i :: .ref a :: r => bif Nat.beq r3 2 then Option.bind (zgo S (110 + r1) a i) (fun q => k np lv (.ref q :: r) S)
        else (if (zh S a).1 = 110 + r1 ∧ zinb i (zh S a).2 = true then (match zR S a i.toNatClampNeg with
          | some q => k np lv (.ref q :: r) S
          | none => k np lv (.null :: r) S) else none)
      | _ => none
    | .iastore => match st with
      | .int x :: .int i :: .ref a :: r => Option.bind (zpa S a i x) (fun S => k np lv r S)
      | _ => none
    | .bastore => match st with
      | .int x :: .int i :: .ref a :: r => Option.bind (zpb S a i x) (fun S => k np lv r S)
      | _ => none
    | .lastore => match st with
      | .long x :: .int i :: .ref a :: r => Option.bind (zpl S a i x) (fun S => k np lv r S)
      | _ => none
    | .aastore => match st with
      | .ref x :: .int i :: .ref a :: r => Option.bind (zpo S r1 a i x) (fun S => k np lv r S)
      | _ => none
    | .new _ => k np lv (.ref (zn S + 1) :: st) (zalloc S r1 0 r2)
    | .newarray _ => match st with
      | .int x :: r => if x < 0 ∨ 10000 ≤ x.toNatClampNeg then none else k np lv (.ref (zn S + 1) :: r) (zalloc S r1 x.toNatClampNeg x.toNatClampNeg)
      | _ => none
    | .anewarray _ => match st with
      | .int x :: r => if x < 0 ∨ 10000 ≤ x.toNatClampNeg then none else k np lv (.ref (zn S + 1) :: r) (zalloc S (110 + r1) x.toNatClampNeg x.toNatClampNeg)
      | _ => none
    -- r1: which callee; r2: how many arguments, the receiver among them
    | .invokevirtual _ => match zpop r2 st [] with
      | some (as, r) => bif Nat.ble (zcats r) 8 then E r1 as S (fun o S => k np lv (o.toList ++ r) S) else none
      | none => none
    | .invokespecial _ => bif Nat.beq r1 999 then (match st with
        | .ref _ :: r => bif Nat.ble (zcats r) 8 then k np lv r S else none
        | _ => none)
      else (match zpop r2 st [] with
        | some (as, r) => bif Nat.ble (zcats r) 8 then E r1 as S (fun o S => k np lv (o.toList ++ r) S) else none
        | none => none)
    | .invokestatic _ => bif Nat.beq r1 998 then (match st with
        | .int n :: .int dp :: .ref d :: .int sp :: .ref s :: r => bif Nat.ble (zcats r) 8 then Option.bind (zcp S s sp d dp n) (fun S => k np lv r S) else none
        | _ => none)
      else bif Nat.beq r1 997 then (match st with
        | .int y :: .int x :: r => bif Nat.ble (zcats r) 8 then k np lv (.int (zmax x y) :: r) S else none
        | _ => none)
      else bif Nat.beq r1 996 then (match st with
        | .int y :: .int x :: r => bif Nat.ble (zcats r) 8 then k np lv (.int (zmin x y) :: r) S else none
        | _ => none)
      else (match zpop r2 st [] with
        | some (as, r) => bif Nat.ble (zcats r) 8 then E r1 as S (fun o S => k np lv (o.toList ++ r) S) else none
        | none => none)
    | _ => none
def e0 (i : Instr) (np : Nat) : zE := (i, np, 0, 0, 0, 0, 0, [])
def e1 (i : Instr) (np r1 : Nat) : zE := (i, np, r1, 0, 0, 0, 0, [])
def e3 (i : Instr) (np r1 r2 r3 : Nat) : zE := (i, np, r1, r2, r3, 0, 0, [])
def ei (i : Instr) (np r1 : Nat) (v : Int32) : zE := (i, np, r1, 0, 0, v, 0, [])
def ej (i : Instr) (np : Nat) (w : Int64) : zE := (i, np, 0, 0, 0, 0, w, [])
def et (i : Instr) (r1 : Nat) (ts : List (Int32 × Nat)) : zE := (i, 0, r1, 0, 0, 0, 0, ts)
/-- what a method answers -/
def zkV (v : Option Value) (S : zM) : Option zM := match v with
  | none => some S
  | _ => none
def zkI (v : Option Value) (S : zM) : Option (Int32 × zM) := match v with
  | some (.int x) => some (x, S)
  | _ => none
def zkJ (v : Option Value) (S : zM) : Option (Int64 × zM) := match v with
  | some (.long x) => some (x, S)
  | _ => none
def zkR (v : Option Value) (S : zM) : Option (Nat × zM) := match v with
  | some (.ref x) => some (x, S)
  | _ => none
def zkN (v : Option Value) (S : zM) : Option (Option Nat × zM) := match v with
  | some (.ref x) => some (some x, S)
  | some .null => some (none, S)
  | _ => none
/-- a call on an object of class ci -/
def zcl {α : Type} (S : zM) (ci a : Nat) (o : Option α) : Option α := if (zh S a).1 = ci then o else none
theorem zF_ex : ∃ n : Nat, n = 1000000000 := ⟨1000000000, rfl⟩
/-- how often a loop may go round: a number that nobody reckons with by unfolding -/
noncomputable def zF : Nat := Classical.choose zF_ex
theorem zF_eq : zF = 1000000000 := Classical.choose_spec zF_ex
def zfind : List (Nat × zE) → Nat → Option zE
  | [], _ => none
  | q :: r, pc => bif Nat.beq pc q.1 then some q.2 else zfind r pc
def znth {α : Type} : List (List α) → Nat → List α
  | [], _ => []
  | l :: _, 0 => l
  | _ :: r, n + 1 => znth r n
/-- a method's instructions, by sixteens of places -/
def zprog (t : List (List (Nat × zE))) (pc : Nat) : Option zE := zfind (znth t (pc / 16)) pc
/-- from a place on until one of the places 'cut' is come to, or the end -/
def zrt {α : Type} (rz : Bool) (T : List (List (Nat × zE))) (E : Nat → zX α) (cut : Nat → Bool) (kr : Option Value → zM → Option α) (K : zK α) : Nat → zK α
  | 0 => fun _ _ _ _ => none
  | f + 1 => fun pc lv st S => match zprog T pc with
    | some en => zst rz E en lv st S (fun pc lv st S => bif cut pc then K pc lv st S else zrt rz T E cut kr K f pc lv st S) kr
    | none => none
/-- the String constants' signs, by their numbers -/
def zstr : List (List Int32) := [[115, 99, 114, 105, 112, 116], [107, 105, 110, 100], [112, 97, 115, 115], [114, 117, 108, 101], [108, 101, 116, 116, 101, 114, 115], [111, 102], [97, 103, 97, 105, 110], [97, 102, 116, 101, 114], [98, 101, 102, 111, 114, 101], [116, 111], [110, 111, 110, 101], [101, 100, 103, 101], [110, 111, 32, 115, 117, 99, 104, 32, 112, 97, 115, 115]]
