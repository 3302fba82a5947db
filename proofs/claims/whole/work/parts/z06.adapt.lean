def zA_vR_V {α : Type} (ci : Nat) (f : Nat → zM → Option zM) : zX α := fun as S k => match as with
  | [.ref a0] => Option.bind (zcl S ci a0 (f a0 S)) (fun p => k none p)
  | _ => none
def zA_vRI_V {α : Type} (ci : Nat) (f : Nat → Int32 → zM → Option zM) : zX α := fun as S k => match as with
  | [.ref a0, .int a1] => Option.bind (zcl S ci a0 (f a0 a1 S)) (fun p => k none p)
  | _ => none
def zA_vRI_I {α : Type} (ci : Nat) (f : Nat → Int32 → zM → Option (Int32 × zM)) : zX α := fun as S k => match as with
  | [.ref a0, .int a1] => Option.bind (zcl S ci a0 (f a0 a1 S)) (fun p => k (some (.int p.1)) p.2)
  | _ => none
def zA_vRIIIII_I {α : Type} (ci : Nat) (f : Nat → Int32 → Int32 → Int32 → Int32 → Int32 → zM → Option (Int32 × zM)) : zX α := fun as S k => match as with
  | [.ref a0, .int a1, .int a2, .int a3, .int a4, .int a5] => Option.bind (zcl S ci a0 (f a0 a1 a2 a3 a4 a5 S)) (fun p => k (some (.int p.1)) p.2)
  | _ => none
def zA_I_I {α : Type} (f : Int32 → zM → Option (Int32 × zM)) : zX α := fun as S k => match as with
  | [.int a0] => Option.bind (f a0 S) (fun p => k (some (.int p.1)) p.2)
  | _ => none
def zA_R_I {α : Type} (f : Nat → zM → Option (Int32 × zM)) : zX α := fun as S k => match as with
  | [.ref a0] => Option.bind (f a0 S) (fun p => k (some (.int p.1)) p.2)
  | _ => none
def zA_RI_I {α : Type} (f : Nat → Int32 → zM → Option (Int32 × zM)) : zX α := fun as S k => match as with
  | [.ref a0, .int a1] => Option.bind (f a0 a1 S) (fun p => k (some (.int p.1)) p.2)
  | _ => none
def zA_vRR_I {α : Type} (ci : Nat) (f : Nat → Nat → zM → Option (Int32 × zM)) : zX α := fun as S k => match as with
  | [.ref a0, .ref a1] => Option.bind (zcl S ci a0 (f a0 a1 S)) (fun p => k (some (.int p.1)) p.2)
  | _ => none
def zA_vR_I {α : Type} (ci : Nat) (f : Nat → zM → Option (Int32 × zM)) : zX α := fun as S k => match as with
  | [.ref a0] => Option.bind (zcl S ci a0 (f a0 S)) (fun p => k (some (.int p.1)) p.2)
  | _ => none
def zA_vR_J {α : Type} (ci : Nat) (f : Nat → zM → Option (Int64 × zM)) : zX α := fun as S k => match as with
  | [.ref a0] => Option.bind (zcl S ci a0 (f a0 S)) (fun p => k (some (.long p.1)) p.2)
  | _ => none
def zA_vRJ_I {α : Type} (ci : Nat) (f : Nat → Int64 → zM → Option (Int32 × zM)) : zX α := fun as S k => match as with
  | [.ref a0, .long a1] => Option.bind (zcl S ci a0 (f a0 a1 S)) (fun p => k (some (.int p.1)) p.2)
  | _ => none
def zA_vRJI_V {α : Type} (ci : Nat) (f : Nat → Int64 → Int32 → zM → Option zM) : zX α := fun as S k => match as with
  | [.ref a0, .long a1, .int a2] => Option.bind (zcl S ci a0 (f a0 a1 a2 S)) (fun p => k none p)
  | _ => none
def zA_vR_N {α : Type} (ci : Nat) (f : Nat → zM → Option (Option Nat × zM)) : zX α := fun as S k => match as with
  | [.ref a0] => Option.bind (zcl S ci a0 (f a0 S)) (fun p => match p.1 with
    | some q => k (some (.ref q)) p.2
    | none => k (some .null) p.2)
  | _ => none
def zA_vRRI_I {α : Type} (ci : Nat) (f : Nat → Nat → Int32 → zM → Option (Int32 × zM)) : zX α := fun as S k => match as with
  | [.ref a0, .ref a1, .int a2] => Option.bind (zcl S ci a0 (f a0 a1 a2 S)) (fun p => k (some (.int p.1)) p.2)
  | _ => none
def zA_vRI_N {α : Type} (ci : Nat) (f : Nat → Int32 → zM → Option (Option Nat × zM)) : zX α := fun as S k => match as with
  | [.ref a0, .int a1] => Option.bind (zcl S ci a0 (f a0 a1 S)) (fun p => match p.1 with
    | some q => k (some (.ref q)) p.2
    | none => k (some .null) p.2)
  | _ => none
def zA_RI_V {α : Type} (f : Nat → Int32 → zM → Option zM) : zX α := fun as S k => match as with
  | [.ref a0, .int a1] => Option.bind (f a0 a1 S) (fun p => k none p)
  | _ => none
def zA_vRR_V {α : Type} (ci : Nat) (f : Nat → Nat → zM → Option zM) : zX α := fun as S k => match as with
  | [.ref a0, .ref a1] => Option.bind (zcl S ci a0 (f a0 a1 S)) (fun p => k none p)
  | _ => none
def zA_vRI_R {α : Type} (ci : Nat) (f : Nat → Int32 → zM → Option (Nat × zM)) : zX α := fun as S k => match as with
  | [.ref a0, .int a1] => Option.bind (zcl S ci a0 (f a0 a1 S)) (fun p => k (some (.ref p.1)) p.2)
  | _ => none
def zA_vRRIII_V {α : Type} (ci : Nat) (f : Nat → Nat → Int32 → Int32 → Int32 → zM → Option zM) : zX α := fun as S k => match as with
  | [.ref a0, .ref a1, .int a2, .int a3, .int a4] => Option.bind (zcl S ci a0 (f a0 a1 a2 a3 a4 S)) (fun p => k none p)
  | _ => none
def zA_vRRI_V {α : Type} (ci : Nat) (f : Nat → Nat → Int32 → zM → Option zM) : zX α := fun as S k => match as with
  | [.ref a0, .ref a1, .int a2] => Option.bind (zcl S ci a0 (f a0 a1 a2 S)) (fun p => k none p)
  | _ => none
def zA_vRRIR_I {α : Type} (ci : Nat) (f : Nat → Nat → Int32 → Nat → zM → Option (Int32 × zM)) : zX α := fun as S k => match as with
  | [.ref a0, .ref a1, .int a2, .ref a3] => Option.bind (zcl S ci a0 (f a0 a1 a2 a3 S)) (fun p => k (some (.int p.1)) p.2)
  | _ => none
def zA_III_I {α : Type} (f : Int32 → Int32 → Int32 → zM → Option (Int32 × zM)) : zX α := fun as S k => match as with
  | [.int a0, .int a1, .int a2] => Option.bind (f a0 a1 a2 S) (fun p => k (some (.int p.1)) p.2)
  | _ => none
def zA_vRIIII_I {α : Type} (ci : Nat) (f : Nat → Int32 → Int32 → Int32 → Int32 → zM → Option (Int32 × zM)) : zX α := fun as S k => match as with
  | [.ref a0, .int a1, .int a2, .int a3, .int a4] => Option.bind (zcl S ci a0 (f a0 a1 a2 a3 a4 S)) (fun p => k (some (.int p.1)) p.2)
  | _ => none
def zA_vRII_I {α : Type} (ci : Nat) (f : Nat → Int32 → Int32 → zM → Option (Int32 × zM)) : zX α := fun as S k => match as with
  | [.ref a0, .int a1, .int a2] => Option.bind (zcl S ci a0 (f a0 a1 a2 S)) (fun p => k (some (.int p.1)) p.2)
  | _ => none
def zA_II_I {α : Type} (f : Int32 → Int32 → zM → Option (Int32 × zM)) : zX α := fun as S k => match as with
  | [.int a0, .int a1] => Option.bind (f a0 a1 S) (fun p => k (some (.int p.1)) p.2)
  | _ => none
def zA_vRII_N {α : Type} (ci : Nat) (f : Nat → Int32 → Int32 → zM → Option (Option Nat × zM)) : zX α := fun as S k => match as with
  | [.ref a0, .int a1, .int a2] => Option.bind (zcl S ci a0 (f a0 a1 a2 S)) (fun p => match p.1 with
    | some q => k (some (.ref q)) p.2
    | none => k (some .null) p.2)
  | _ => none
def zA_vRIII_I {α : Type} (ci : Nat) (f : Nat → Int32 → Int32 → Int32 → zM → Option (Int32 × zM)) : zX α := fun as S k => match as with
  | [.ref a0, .int a1, .int a2, .int a3] => Option.bind (zcl S ci a0 (f a0 a1 a2 a3 S)) (fun p => k (some (.int p.1)) p.2)
  | _ => none
def zA_vRIR_V {α : Type} (ci : Nat) (f : Nat → Int32 → Nat → zM → Option zM) : zX α := fun as S k => match as with
  | [.ref a0, .int a1, .ref a2] => Option.bind (zcl S ci a0 (f a0 a1 a2 S)) (fun p => k none p)
  | _ => none
def zA_vRIR_I {α : Type} (ci : Nat) (f : Nat → Int32 → Nat → zM → Option (Int32 × zM)) : zX α := fun as S k => match as with
  | [.ref a0, .int a1, .ref a2] => Option.bind (zcl S ci a0 (f a0 a1 a2 S)) (fun p => k (some (.int p.1)) p.2)
  | _ => none
def zA_vRIII_V {α : Type} (ci : Nat) (f : Nat → Int32 → Int32 → Int32 → zM → Option zM) : zX α := fun as S k => match as with
  | [.ref a0, .int a1, .int a2, .int a3] => Option.bind (zcl S ci a0 (f a0 a1 a2 a3 S)) (fun p => k none p)
  | _ => none
def zA_vRIIII_V {α : Type} (ci : Nat) (f : Nat → Int32 → Int32 → Int32 → Int32 → zM → Option zM) : zX α := fun as S k => match as with
  | [.ref a0, .int a1, .int a2, .int a3, .int a4] => Option.bind (zcl S ci a0 (f a0 a1 a2 a3 a4 S)) (fun p => k none p)
  | _ => none
def zA_vRRII_I {α : Type} (ci : Nat) (f : Nat → Nat → Int32 → Int32 → zM → Option (Int32 × zM)) : zX α := fun as S k => match as with
  | [.ref a0, .ref a1, .int a2, .int a3] => Option.bind (zcl S ci a0 (f a0 a1 a2 a3 S)) (fun p => k (some (.int p.1)) p.2)
  | _ => none
def zA_vRIJ_I {α : Type} (ci : Nat) (f : Nat → Int32 → Int64 → zM → Option (Int32 × zM)) : zX α := fun as S k => match as with
  | [.ref a0, .int a1, .long a2] => Option.bind (zcl S ci a0 (f a0 a1 a2 S)) (fun p => k (some (.int p.1)) p.2)
  | _ => none
def zA_vRIJI_I {α : Type} (ci : Nat) (f : Nat → Int32 → Int64 → Int32 → zM → Option (Int32 × zM)) : zX α := fun as S k => match as with
  | [.ref a0, .int a1, .long a2, .int a3] => Option.bind (zcl S ci a0 (f a0 a1 a2 a3 S)) (fun p => k (some (.int p.1)) p.2)
  | _ => none
def zA_vRII_V {α : Type} (ci : Nat) (f : Nat → Int32 → Int32 → zM → Option zM) : zX α := fun as S k => match as with
  | [.ref a0, .int a1, .int a2] => Option.bind (zcl S ci a0 (f a0 a1 a2 S)) (fun p => k none p)
  | _ => none
def zA_vRRRI_I {α : Type} (ci : Nat) (f : Nat → Nat → Nat → Int32 → zM → Option (Int32 × zM)) : zX α := fun as S k => match as with
  | [.ref a0, .ref a1, .ref a2, .int a3] => Option.bind (zcl S ci a0 (f a0 a1 a2 a3 S)) (fun p => k (some (.int p.1)) p.2)
  | _ => none
def zA_vRRR_I {α : Type} (ci : Nat) (f : Nat → Nat → Nat → zM → Option (Int32 × zM)) : zX α := fun as S k => match as with
  | [.ref a0, .ref a1, .ref a2] => Option.bind (zcl S ci a0 (f a0 a1 a2 S)) (fun p => k (some (.int p.1)) p.2)
  | _ => none
def zA_vRJJ_I {α : Type} (ci : Nat) (f : Nat → Int64 → Int64 → zM → Option (Int32 × zM)) : zX α := fun as S k => match as with
  | [.ref a0, .long a1, .long a2] => Option.bind (zcl S ci a0 (f a0 a1 a2 S)) (fun p => k (some (.int p.1)) p.2)
  | _ => none
def zA_vRJI_I {α : Type} (ci : Nat) (f : Nat → Int64 → Int32 → zM → Option (Int32 × zM)) : zX α := fun as S k => match as with
  | [.ref a0, .long a1, .int a2] => Option.bind (zcl S ci a0 (f a0 a1 a2 S)) (fun p => k (some (.int p.1)) p.2)
  | _ => none
def zA_vRI_J {α : Type} (ci : Nat) (f : Nat → Int32 → zM → Option (Int64 × zM)) : zX α := fun as S k => match as with
  | [.ref a0, .int a1] => Option.bind (zcl S ci a0 (f a0 a1 S)) (fun p => k (some (.long p.1)) p.2)
  | _ => none
def zA_vRII_J {α : Type} (ci : Nat) (f : Nat → Int32 → Int32 → zM → Option (Int64 × zM)) : zX α := fun as S k => match as with
  | [.ref a0, .int a1, .int a2] => Option.bind (zcl S ci a0 (f a0 a1 a2 S)) (fun p => k (some (.long p.1)) p.2)
  | _ => none
def zA_vRIIR_I {α : Type} (ci : Nat) (f : Nat → Int32 → Int32 → Nat → zM → Option (Int32 × zM)) : zX α := fun as S k => match as with
  | [.ref a0, .int a1, .int a2, .ref a3] => Option.bind (zcl S ci a0 (f a0 a1 a2 a3 S)) (fun p => k (some (.int p.1)) p.2)
  | _ => none
def zA_vRRI_J {α : Type} (ci : Nat) (f : Nat → Nat → Int32 → zM → Option (Int64 × zM)) : zX α := fun as S k => match as with
  | [.ref a0, .ref a1, .int a2] => Option.bind (zcl S ci a0 (f a0 a1 a2 S)) (fun p => k (some (.long p.1)) p.2)
  | _ => none
def zA_vRIRI_I {α : Type} (ci : Nat) (f : Nat → Int32 → Nat → Int32 → zM → Option (Int32 × zM)) : zX α := fun as S k => match as with
  | [.ref a0, .int a1, .ref a2, .int a3] => Option.bind (zcl S ci a0 (f a0 a1 a2 a3 S)) (fun p => k (some (.int p.1)) p.2)
  | _ => none
def zA_vRIJI_J {α : Type} (ci : Nat) (f : Nat → Int32 → Int64 → Int32 → zM → Option (Int64 × zM)) : zX α := fun as S k => match as with
  | [.ref a0, .int a1, .long a2, .int a3] => Option.bind (zcl S ci a0 (f a0 a1 a2 a3 S)) (fun p => k (some (.long p.1)) p.2)
  | _ => none
def zA_RIR_I {α : Type} (f : Nat → Int32 → Nat → zM → Option (Int32 × zM)) : zX α := fun as S k => match as with
  | [.ref a0, .int a1, .ref a2] => Option.bind (f a0 a1 a2 S) (fun p => k (some (.int p.1)) p.2)
  | _ => none
