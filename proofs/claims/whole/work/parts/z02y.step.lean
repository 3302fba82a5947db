def zln (i : Instr) : Nat := match i with
  | .iload _ => 2
  | .lload _ => 2
  | .aload _ => 2
  | .istore _ => 2
  | .lstore _ => 2
  | .astore _ => 2
  | .bipush _ => 2
  | .ldc _ => 2
  | .newarray _ => 2
  | .sipush _ => 3
  | .ldc_w _ => 3
  | .ldc2_w _ => 3
  | .iinc _ _ => 3
  | .goto _ => 3
  | .ifCond _ _ => 3
  | .if_icmp _ _ => 3
  | .ifnull _ => 3
  | .ifnonnull _ => 3
  | .getfield _ => 3
  | .putfield _ => 3
  | .new _ => 3
  | .anewarray _ => 3
  | .invokevirtual _ => 3
  | .invokespecial _ => 3
  | .invokestatic _ => 3
  | _ => 1
/-- the String constants by class number, place, number -/
def zLS : List (Nat × Nat × Nat) := [(7, 67, 0), (7, 75, 1), (7, 80, 2), (7, 84, 3), (7, 89, 4), (7, 113, 5), (7, 135, 6), (7, 146, 7), (7, 164, 8), (7, 173, 9), (7, 175, 10), (7, 180, 11), (11, 356, 12), (12, 190, 0), (12, 192, 1), (12, 194, 2), (12, 196, 3), (12, 198, 4), (12, 200, 5), (12, 202, 6), (12, 204, 7), (12, 206, 8), (12, 208, 9), (12, 210, 10), (12, 212, 11)]
/-- the callee by its number -/
def zcal (cs : List Nat) (r1 : Nat) : zY := zMT.getD (cs.getD r1 999) zyD
/-- how a call is linked, and that its callee's room fits -/
def zokC (o : Nat) (cs : List Nat) (fr lo idx r1 r2 kd : Nat) : Bool := decide (cs.getD r1 999 < zMT.length) && (decide ((o, idx, cs.getD r1 999, 0) ∈ zLM) || decide ((o, idx, cs.getD r1 999, 1) ∈ zLM)) && decide ((zcal cs r1).2.2.2.2.1 = kd) && decide ((zcal cs r1).2.2.2.2.2.1 = r2) && decide ((zcal cs r1).2.2.2.2.2.2.1 + 1 ≤ fr) && decide (19 + (zcal cs r1).2.2.1 + (zcal cs r1).2.2.2.2.2.2.2 ≤ lo)
def zsw (pc : Nat) (lo : Int) (offs : List Int) : List (Int × Int) := match offs with
  | [] => []
  | f :: r => (lo, (pc : Int) + f) :: zsw pc (lo + 1) r
/-- an instruction's row is right: o the class's number, cs its callees, ini a constructor, fr and lo the room, nL its locals, rz and rt its answer -/
def zokI (o : Nat) (cs : List Nat) (ini : Bool) (fr lo nL : Nat) (rz : Bool) (rt : Option FieldType) (pc : Nat) (en : zE) : Bool := match en with
  | (i, _, r1, r2, r3, v, w, ts) => match i with
    | .iconst n => decide (Int32.ofInt n = v)
    | .bipush n => decide ((Int8.ofInt n).toInt32 = v)
    | .sipush n => decide ((Int16.ofInt n).toInt32 = v)
    | .ldc idx => bif Nat.beq r1 1 then decide ((o, idx, r2) ∈ zLS) else decide ((o, idx, v) ∈ zLK)
    | .ldc_w idx => decide ((o, idx, v) ∈ zLK)
    | .lconst n => decide (Int64.ofNat n.val = w)
    | .ldc2_w idx => decide ((o, idx, w) ∈ zLJ)
    | .iload n => decide (n = r1)
    | .lload n => decide (n = r1)
    | .aload n => decide (n = r1)
    | .iload_n n => decide (n.val = r1)
    | .lload_n n => decide (n.val = r1)
    | .aload_n n => decide (n.val = r1)
    | .istore n => decide (n = r1) && decide (r1 < nL)
    | .lstore n => decide (n = r1) && decide (r1 + 1 < nL)
    | .astore n => decide (n = r1) && decide (r1 < nL)
    | .istore_n n => decide (n.val = r1) && decide (r1 < nL)
    | .lstore_n n => decide (n.val = r1) && decide (r1 + 1 < nL)
    | .astore_n n => decide (n.val = r1) && decide (r1 < nL)
    | .iinc n d => decide (n = r1) && decide (r1 < nL) && decide (Int32.ofInt d = v)
    | .goto f => decide ((pc : Int) + f = (r1 : Int))
    | .ifCond _ f => decide ((pc : Int) + f = (r1 : Int))
    | .if_icmp _ f => decide ((pc : Int) + f = (r1 : Int))
    | .ifnull f => decide ((pc : Int) + f = (r1 : Int))
    | .ifnonnull f => decide ((pc : Int) + f = (r1 : Int))
    | .tableswitch d l h offs => decide ((pc : Int) + d = (r1 : Int)) && decide (ts.map (fun q => (q.1.toInt, (q.2 : Int))) = zsw pc l offs.toList) && decide (h = l + offs.toList.length - 1) && decide (-1000 ≤ l) && decide (h ≤ 1000)
    | .getfield idx => (decide ((o, idx, r1, r2, 0) ∈ zLF) || decide ((o, idx, r1, r2, 1) ∈ zLF)) && decide (r1 < 13) && decide (r2 < zfn.getD r1 0) && decide ((zft.getD r1 []).getD r2 0 = 1 ↔ (r3 = 2 ∨ r3 = 3))
    | .putfield idx => (decide ((o, idx, r1, r2, 0) ∈ zLF) || (decide ((o, idx, r1, r2, 1) ∈ zLF) && !(zT r1 r2).2.2.2)) && decide (r1 < 13) && decide (r2 < zfn.getD r1 0) && decide ((zft.getD r1 []).getD r2 0 = (match r3 with
      | 1 => 2
      | 0 => 0
      | _ => 1)) && (!(zT r1 r2).2.2.2 || (ini && decide (r1 = o)))
    | .aaload => decide (r1 = 5 ∨ r1 = 8 ∨ r1 = 9)
    | .aastore => decide (r1 = 5 ∨ r1 = 8 ∨ r1 = 9)
    | .new idx => decide ((o, idx, r1) ∈ zLC) && decide (r1 < 13) && decide (r2 = zfn.getD r1 0)
    | .newarray t => match t with
      | .int => decide (r1 = 100)
      | .long => decide (r1 = 101)
      | .boolean => decide (r1 = 102)
      | _ => false
    | .anewarray idx => decide ((o, idx, r1) ∈ zLC) && decide (r1 = 5 ∨ r1 = 8 ∨ r1 = 9)
    | .invokevirtual idx => zokC o cs fr lo idx r1 r2 0
    | .invokespecial idx => bif Nat.beq r1 999 then decide ((o, idx) ∈ zLO) && decide (1 ≤ fr) && decide (20 ≤ lo) else zokC o cs fr lo idx r1 r2 2
    | .invokestatic idx => bif Nat.beq r1 998 then decide ((o, idx) ∈ zLA) && decide (1 ≤ fr) && decide (8 + (nativeFrameWords "java/lang/System" "arraycopy" 5 + 11) ≤ lo)
      else bif Nat.beq r1 997 then decide ((o, idx) ∈ zLX) && decide (1 ≤ fr) && decide (21 ≤ lo) else bif Nat.beq r1 996 then decide ((o, idx) ∈ zLN) && decide (1 ≤ fr) && decide (21 ≤ lo) else zokC o cs fr lo idx r1 r2 1
    | .ireturn => decide (rt = (bif rz then some .boolean else some .int))
    | .lreturn => decide (rt = some .long)
    | .areturn => match rt with
      | some (.object _) => true
      | _ => false
    | .return_ => decide (rt = none)
    | _ => true
def zokB (o : Nat) (cs : List Nat) (ini : Bool) (fr lo nL : Nat) (rz : Bool) (rt : Option FieldType) (cc : ByteArray) (q : Nat × zE) : Bool :=
  (match q.2.1 with
  | .tableswitch d l h offs => (match decode cc q.1 with
    | .ok (.tableswitch d' l' h' offs', _) => decide (d = d') && decide (l = l') && decide (h = h') && decide (offs = offs')
    | _ => false)
  | i => decide (decode cc q.1 = .ok (i, zln i)) && decide (q.2.2.1 = q.1 + zln i)) && zokI o cs ini fr lo nL rz rt q.1 q.2
