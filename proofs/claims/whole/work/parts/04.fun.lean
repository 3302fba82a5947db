/-! the String constants, by their numbers -/
def f_J_length (a0 : Nat) (S : zM) : Option (Int32 × zM) := if 1000000 ≤ a0 ∧ a0 < 1000000 + 13 then some (Int32.ofNat (zstr.getD (a0 - 1000000) []).length, S) else none
def f_J_charAt (a0 : Nat) (a1 : Int32) (S : zM) : Option (Int32 × zM) := if 1000000 ≤ a0 ∧ a0 < 1000000 + 13 ∧ zinb a1 (zstr.getD (a0 - 1000000) []).length = true then some ((zstr.getD (a0 - 1000000) []).getD a1.toNatClampNeg 0, S) else none
noncomputable def f_Reader_init (a0 : Nat) (S : zM) : Option zM :=
  if (0 : Int32) < 0 ∨ 10000 ≤ ((0 : Int32)).toNatClampNeg then none else
  Option.bind (zpr (zalloc S 100 ((0 : Int32)).toNatClampNeg ((0 : Int32)).toNatClampNeg) 7 a0 0 (some (zn S + 1))) (fun S1 =>
  some S1)
noncomputable def f_Row_init (a0 : Nat) (a1 : Int32) (S : zM) : Option zM :=
  if a1 < (0 : Int32) then
    if (0 : Int32) < 0 ∨ 10000 ≤ ((0 : Int32)).toNatClampNeg then none else
    Option.bind (zpr (zalloc S 100 ((0 : Int32)).toNatClampNeg ((0 : Int32)).toNatClampNeg) 8 a0 0 (some (zn S + 1))) (fun S1 =>
    some S1)
  else
    if a1 < 0 ∨ 10000 ≤ (a1).toNatClampNeg then none else
    Option.bind (zpr (zalloc S 100 (a1).toNatClampNeg (a1).toNatClampNeg) 8 a0 0 (some (zn S + 1))) (fun S2 =>
    some S2)
noncomputable def L_Carrier_init_55 : Nat → Nat → Int32 → zM → Option zM
  | 0, _, _, _ => none
  | n + 1, a0, a1, S =>
  if a1 < (3 : Int32) then
    Option.bind (zgr S 1 a0 0) (fun q1 =>
    Option.bind (zcl (zalloc S 8 0 2) 8 (zn S + 1) (f_Row_init (zn S + 1) (60 : Int32) (zalloc S 8 0 2))) (fun p2 =>
    Option.bind (zpo p2 8 q1 a1 (zn S + 1)) (fun S3 =>
    L_Carrier_init_55 n a0 (a1 + (1 : Int32)) S3)))
  else
    some S
noncomputable def f_Carrier_init (a0 : Nat) (S : zM) : Option zM :=
  if (3 : Int32) < 0 ∨ 10000 ≤ ((3 : Int32)).toNatClampNeg then none else
  Option.bind (zpr (zalloc S 118 ((3 : Int32)).toNatClampNeg ((3 : Int32)).toNatClampNeg) 1 a0 0 (some (zn S + 1))) (fun S1 =>
  if (3 : Int32) < 0 ∨ 10000 ≤ ((3 : Int32)).toNatClampNeg then none else
  Option.bind (zpr (zalloc S1 100 ((3 : Int32)).toNatClampNeg ((3 : Int32)).toNatClampNeg) 1 a0 1 (some (zn S1 + 1))) (fun S2 =>
  if (24 : Int32) < 0 ∨ 10000 ≤ ((24 : Int32)).toNatClampNeg then none else
  Option.bind (zpr (zalloc S2 100 ((24 : Int32)).toNatClampNeg ((24 : Int32)).toNatClampNeg) 1 a0 2 (some (zn S2 + 1))) (fun S3 =>
  Option.bind (zcl (zalloc S3 8 0 2) 8 (zn S3 + 1) (f_Row_init (zn S3 + 1) (60 : Int32) (zalloc S3 8 0 2))) (fun p4 =>
  Option.bind (zpr p4 1 a0 3 (some (zn S3 + 1))) (fun S5 =>
  Option.bind (zcl (zalloc S5 8 0 2) 8 (zn S5 + 1) (f_Row_init (zn S5 + 1) (60 : Int32) (zalloc S5 8 0 2))) (fun p6 =>
  Option.bind (zpr p6 1 a0 4 (some (zn S5 + 1))) (fun S7 =>
  L_Carrier_init_55 zF a0 (0 : Int32) S7)))))))
noncomputable def f_Row_add (a0 : Nat) (a1 : Int32) (S : zM) : Option (Int32 × zM) :=
  Option.bind (zgf S 8 a0 1) (fun x1 =>
  Option.bind (zgr S 8 a0 0) (fun q2 =>
  Option.bind (zlen S q2) (fun x3 =>
  if x1 < x3 then
    Option.bind (zgr S 8 a0 0) (fun q4 =>
    Option.bind (zgf S 8 a0 1) (fun x5 =>
    Option.bind (zpa S q4 x5 (a1 &&& (7 : Int32))) (fun S6 =>
    Option.bind (zgf S6 8 a0 1) (fun x7 =>
    Option.bind (zpf S6 8 a0 1 (x7 + (1 : Int32))) (fun S8 =>
    if (1 : Int32) = 0 ∨ (1 : Int32) = 1 then some ((1 : Int32), S8) else none)))))
  else
    if (0 : Int32) = 0 ∨ (0 : Int32) = 1 then some ((0 : Int32), S) else none)))
noncomputable def L_Pieces_init_48 : Nat → Nat → Int32 → zM → Option zM
  | 0, _, _, _ => none
  | n + 1, a0, a1, S =>
  if a1 < (8 : Int32) then
    Option.bind (zcl (zalloc S 8 0 2) 8 (zn S + 1) (f_Row_init (zn S + 1) (1 : Int32) (zalloc S 8 0 2))) (fun p1 =>
    Option.bind (zcl p1 8 (zn S + 1) (f_Row_add (zn S + 1) a1 p1)) (fun p2 =>
    Option.bind (zgr p2.2 6 a0 2) (fun q3 =>
    Option.bind (zpo p2.2 8 q3 a1 (zn S + 1)) (fun S4 =>
    L_Pieces_init_48 n a0 (a1 + (1 : Int32)) S4))))
  else
    some S
noncomputable def f_Pieces_init (a0 : Nat) (S : zM) : Option zM :=
  if (16 : Int32) < 0 ∨ 10000 ≤ ((16 : Int32)).toNatClampNeg then none else
  Option.bind (zpr (zalloc S 100 ((16 : Int32)).toNatClampNeg ((16 : Int32)).toNatClampNeg) 6 a0 0 (some (zn S + 1))) (fun S1 =>
  if (16 : Int32) < 0 ∨ 10000 ≤ ((16 : Int32)).toNatClampNeg then none else
  Option.bind (zpr (zalloc S1 118 ((16 : Int32)).toNatClampNeg ((16 : Int32)).toNatClampNeg) 6 a0 1 (some (zn S1 + 1))) (fun S2 =>
  if (8 : Int32) < 0 ∨ 10000 ≤ ((8 : Int32)).toNatClampNeg then none else
  Option.bind (zpr (zalloc S2 118 ((8 : Int32)).toNatClampNeg ((8 : Int32)).toNatClampNeg) 6 a0 2 (some (zn S2 + 1))) (fun S3 =>
  if (64 : Int32) < 0 ∨ 10000 ≤ ((64 : Int32)).toNatClampNeg then none else
  Option.bind (zpr (zalloc S3 100 ((64 : Int32)).toNatClampNeg ((64 : Int32)).toNatClampNeg) 6 a0 3 (some (zn S3 + 1))) (fun S4 =>
  if (9 : Int32) < 0 ∨ 10000 ≤ ((9 : Int32)).toNatClampNeg then none else
  Option.bind (zpr (zalloc S4 100 ((9 : Int32)).toNatClampNeg ((9 : Int32)).toNatClampNeg) 6 a0 4 (some (zn S4 + 1))) (fun S5 =>
  L_Pieces_init_48 zF a0 (0 : Int32) S5)))))
noncomputable def f_Acts_init (a0 : Nat) (S : zM) : Option zM :=
  if (12 : Int32) < 0 ∨ 10000 ≤ ((12 : Int32)).toNatClampNeg then none else
  Option.bind (zpr (zalloc S 100 ((12 : Int32)).toNatClampNeg ((12 : Int32)).toNatClampNeg) 0 a0 0 (some (zn S + 1))) (fun S1 =>
  some S1)
noncomputable def f_Machine_init (a0 : Nat) (S : zM) : Option zM :=
  if (264 : Int32) < 0 ∨ 10000 ≤ ((264 : Int32)).toNatClampNeg then none else
  Option.bind (zpr (zalloc S 100 ((264 : Int32)).toNatClampNeg ((264 : Int32)).toNatClampNeg) 3 a0 0 (some (zn S + 1))) (fun S1 =>
  if (33 : Int32) < 0 ∨ 10000 ≤ ((33 : Int32)).toNatClampNeg then none else
  Option.bind (zpr (zalloc S1 100 ((33 : Int32)).toNatClampNeg ((33 : Int32)).toNatClampNeg) 3 a0 1 (some (zn S1 + 1))) (fun S2 =>
  if (33 : Int32) < 0 ∨ 10000 ≤ ((33 : Int32)).toNatClampNeg then none else
  Option.bind (zpr (zalloc S2 100 ((33 : Int32)).toNatClampNeg ((33 : Int32)).toNatClampNeg) 3 a0 2 (some (zn S2 + 1))) (fun S3 =>
  if (9 : Int32) < 0 ∨ 10000 ≤ ((9 : Int32)).toNatClampNeg then none else
  Option.bind (zpr (zalloc S3 100 ((9 : Int32)).toNatClampNeg ((9 : Int32)).toNatClampNeg) 3 a0 3 (some (zn S3 + 1))) (fun S4 =>
  if (9 : Int32) < 0 ∨ 10000 ≤ ((9 : Int32)).toNatClampNeg then none else
  Option.bind (zpr (zalloc S4 100 ((9 : Int32)).toNatClampNeg ((9 : Int32)).toNatClampNeg) 3 a0 4 (some (zn S4 + 1))) (fun S5 =>
  if (8 : Int32) < 0 ∨ 10000 ≤ ((8 : Int32)).toNatClampNeg then none else
  Option.bind (zpr (zalloc S5 100 ((8 : Int32)).toNatClampNeg ((8 : Int32)).toNatClampNeg) 3 a0 5 (some (zn S5 + 1))) (fun S6 =>
  some S6))))))
noncomputable def f_Rule_init (a0 : Nat) (S : zM) : Option zM :=
  Option.bind (zcl (zalloc S 8 0 2) 8 (zn S + 1) (f_Row_init (zn S + 1) (3 : Int32) (zalloc S 8 0 2))) (fun p1 =>
  Option.bind (zpr p1 9 a0 0 (some (zn S + 1))) (fun S2 =>
  Option.bind (zcl (zalloc S2 8 0 2) 8 (zn S2 + 1) (f_Row_init (zn S2 + 1) (4 : Int32) (zalloc S2 8 0 2))) (fun p3 =>
  Option.bind (zpr p3 9 a0 1 (some (zn S2 + 1))) (fun S4 =>
  some S4))))
noncomputable def L_Pass_init_37 : Nat → Nat → Int32 → zM → Option zM
  | 0, _, _, _ => none
  | n + 1, a0, a1, S =>
  if a1 < (8 : Int32) then
    Option.bind (zgr S 5 a0 0) (fun q1 =>
    Option.bind (zcl (zalloc S 9 0 4) 9 (zn S + 1) (f_Rule_init (zn S + 1) (zalloc S 9 0 4))) (fun p2 =>
    Option.bind (zpo p2 9 q1 a1 (zn S + 1)) (fun S3 =>
    L_Pass_init_37 n a0 (a1 + (1 : Int32)) S3)))
  else
    some S
noncomputable def f_Pass_init (a0 : Nat) (S : zM) : Option zM :=
  if (8 : Int32) < 0 ∨ 10000 ≤ ((8 : Int32)).toNatClampNeg then none else
  Option.bind (zpr (zalloc S 119 ((8 : Int32)).toNatClampNeg ((8 : Int32)).toNatClampNeg) 5 a0 0 (some (zn S + 1))) (fun S1 =>
  Option.bind (zcl (zalloc S1 3 0 7) 3 (zn S1 + 1) (f_Machine_init (zn S1 + 1) (zalloc S1 3 0 7))) (fun p2 =>
  Option.bind (zpr p2 5 a0 1 (some (zn S1 + 1))) (fun S3 =>
  Option.bind (zcl (zalloc S3 3 0 7) 3 (zn S3 + 1) (f_Machine_init (zn S3 + 1) (zalloc S3 3 0 7))) (fun p4 =>
  Option.bind (zpr p4 5 a0 2 (some (zn S3 + 1))) (fun S5 =>
  L_Pass_init_37 zF a0 (0 : Int32) S5)))))
noncomputable def L_Script_init_28 : Nat → Nat → Int32 → zM → Option zM
  | 0, _, _, _ => none
  | n + 1, a0, a1, S =>
  if a1 < (3 : Int32) then
    Option.bind (zgr S 10 a0 2) (fun q1 =>
    Option.bind (zcl (zalloc S 5 0 6) 5 (zn S + 1) (f_Pass_init (zn S + 1) (zalloc S 5 0 6))) (fun p2 =>
    Option.bind (zpo p2 5 q1 a1 (zn S + 1)) (fun S3 =>
    L_Script_init_28 n a0 (a1 + (1 : Int32)) S3)))
  else
    some S
noncomputable def f_Script_init (a0 : Nat) (S : zM) : Option zM :=
  if (4 : Int32) < 0 ∨ 10000 ≤ ((4 : Int32)).toNatClampNeg then none else
  Option.bind (zpr (zalloc S 101 ((4 : Int32)).toNatClampNeg ((4 : Int32)).toNatClampNeg) 10 a0 0 (some (zn S + 1))) (fun S1 =>
  if (4 : Int32) < 0 ∨ 10000 ≤ ((4 : Int32)).toNatClampNeg then none else
  Option.bind (zpr (zalloc S1 100 ((4 : Int32)).toNatClampNeg ((4 : Int32)).toNatClampNeg) 10 a0 1 (some (zn S1 + 1))) (fun S2 =>
  if (3 : Int32) < 0 ∨ 10000 ≤ ((3 : Int32)).toNatClampNeg then none else
  Option.bind (zpr (zalloc S2 115 ((3 : Int32)).toNatClampNeg ((3 : Int32)).toNatClampNeg) 10 a0 2 (some (zn S2 + 1))) (fun S3 =>
  L_Script_init_28 zF a0 (0 : Int32) S3)))
noncomputable def f_Cl_init (a0 : Nat) (S : zM) : Option zM :=
  if (900 : Int32) < 0 ∨ 10000 ≤ ((900 : Int32)).toNatClampNeg then none else
  Option.bind (zpr (zalloc S 100 ((900 : Int32)).toNatClampNeg ((900 : Int32)).toNatClampNeg) 11 a0 0 (some (zn S + 1))) (fun S1 =>
  Option.bind (zcl (zalloc S1 7 0 8) 7 (zn S1 + 1) (f_Reader_init (zn S1 + 1) (zalloc S1 7 0 8))) (fun p2 =>
  Option.bind (zpr p2 11 a0 1 (some (zn S1 + 1))) (fun S3 =>
  Option.bind (zcl (zalloc S3 1 0 6) 1 (zn S3 + 1) (f_Carrier_init (zn S3 + 1) (zalloc S3 1 0 6))) (fun p4 =>
  Option.bind (zpr p4 11 a0 2 (some (zn S3 + 1))) (fun S5 =>
  Option.bind (zcl (zalloc S5 1 0 6) 1 (zn S5 + 1) (f_Carrier_init (zn S5 + 1) (zalloc S5 1 0 6))) (fun p6 =>
  Option.bind (zpr p6 11 a0 3 (some (zn S5 + 1))) (fun S7 =>
  Option.bind (zcl (zalloc S7 8 0 2) 8 (zn S7 + 1) (f_Row_init (zn S7 + 1) (8 : Int32) (zalloc S7 8 0 2))) (fun p8 =>
  Option.bind (zpr p8 11 a0 4 (some (zn S7 + 1))) (fun S9 =>
  Option.bind (zcl (zalloc S9 8 0 2) 8 (zn S9 + 1) (f_Row_init (zn S9 + 1) (8 : Int32) (zalloc S9 8 0 2))) (fun p10 =>
  Option.bind (zpr p10 11 a0 5 (some (zn S9 + 1))) (fun S11 =>
  Option.bind (zcl (zalloc S11 8 0 2) 8 (zn S11 + 1) (f_Row_init (zn S11 + 1) (60 : Int32) (zalloc S11 8 0 2))) (fun p12 =>
  Option.bind (zpr p12 11 a0 6 (some (zn S11 + 1))) (fun S13 =>
  if (61 : Int32) < 0 ∨ 10000 ≤ ((61 : Int32)).toNatClampNeg then none else
  Option.bind (zpr (zalloc S13 100 ((61 : Int32)).toNatClampNeg ((61 : Int32)).toNatClampNeg) 11 a0 7 (some (zn S13 + 1))) (fun S14 =>
  Option.bind (zcl (zalloc S14 6 0 8) 6 (zn S14 + 1) (f_Pieces_init (zn S14 + 1) (zalloc S14 6 0 8))) (fun p15 =>
  Option.bind (zpr p15 11 a0 8 (some (zn S14 + 1))) (fun S16 =>
  Option.bind (zcl (zalloc S16 0 0 2) 0 (zn S16 + 1) (f_Acts_init (zn S16 + 1) (zalloc S16 0 0 2))) (fun p17 =>
  Option.bind (zpr p17 11 a0 9 (some (zn S16 + 1))) (fun S18 =>
  Option.bind (zcl (zalloc S18 10 0 6) 10 (zn S18 + 1) (f_Script_init (zn S18 + 1) (zalloc S18 10 0 6))) (fun p19 =>
  Option.bind (zpr p19 11 a0 10 (some (zn S18 + 1))) (fun S20 =>
  Option.bind (zcl (zalloc S20 10 0 6) 10 (zn S20 + 1) (f_Script_init (zn S20 + 1) (zalloc S20 10 0 6))) (fun p21 =>
  Option.bind (zpr p21 11 a0 11 (some (zn S20 + 1))) (fun S22 =>
  some S22))))))))))))))))))))))
noncomputable def L_Cl_putOnTape_3 : Nat → Nat → Int32 → Int32 → zM → Option zM
  | 0, _, _, _, _ => none
  | n + 1, a0, a1, a2, S =>
  if a2 < (0 : Int32) then
    some S
  else
    Option.bind (zgf S 11 a0 13) (fun x1 =>
    if x1 < (900 : Int32) then
      Option.bind (zgr S 11 a0 0) (fun q2 =>
      Option.bind (zgf S 11 a0 13) (fun x3 =>
      Option.bind (zpa S q2 x3 (((a1).toUInt32 >>> ((a2).toUInt32 &&& Int32.toUInt32 31)).toInt32 &&& (255 : Int32))) (fun S4 =>
      Option.bind (zgf S4 11 a0 13) (fun x5 =>
      Option.bind (zpf S4 11 a0 13 (x5 + (1 : Int32))) (fun S6 =>
      L_Cl_putOnTape_3 n a0 a1 (a2 + (-8 : Int32)) S6)))))
    else
      some S)
noncomputable def f_Cl_putOnTape (a0 : Nat) (a1 : Int32) (S : zM) : Option zM :=
  L_Cl_putOnTape_3 zF a0 a1 (24 : Int32) S
noncomputable def f_Cl_feed (a0 : Nat) (a1 : Int32) (a2 : Int32) (a3 : Int32) (a4 : Int32) (a5 : Int32) (S : zM) : Option (Int32 × zM) :=
  Option.bind (zgf S 11 a0 13) (fun x1 =>
  if (x1 + (20 : Int32)) ≤ (900 : Int32) then
    Option.bind (zcl S 11 a0 (f_Cl_putOnTape a0 a1 S)) (fun p2 =>
    Option.bind (zcl p2 11 a0 (f_Cl_putOnTape a0 a2 p2)) (fun p3 =>
    Option.bind (zcl p3 11 a0 (f_Cl_putOnTape a0 a3 p3)) (fun p4 =>
    Option.bind (zcl p4 11 a0 (f_Cl_putOnTape a0 a4 p4)) (fun p5 =>
    Option.bind (zcl p5 11 a0 (f_Cl_putOnTape a0 a5 p5)) (fun p6 =>
    Option.bind (zgf p6 11 a0 13) (fun x7 =>
    some (x7, p6)))))))
  else
    some ((-1 : Int32), S))
noncomputable def f_Cl_refuse (a0 : Nat) (a1 : Int32) (S : zM) : Option (Int32 × zM) :=
  Option.bind (zpf S 11 a0 16 a1) (fun S1 =>
  some ((-1 : Int32), S1))
noncomputable def f_Script_drop (a0 : Nat) (S : zM) : Option zM :=
  Option.bind (zpf S 10 a0 3 (0 : Int32)) (fun S1 =>
  Option.bind (zpf S1 10 a0 4 (0 : Int32)) (fun S2 =>
  Option.bind (zpf S2 10 a0 5 (0 : Int32)) (fun S3 =>
  some S3)))
noncomputable def f_Reader_sortOf (a0 : Int32) (S : zM) : Option (Int32 × zM) :=
  if a0 < (97 : Int32) then
    if a0 < (48 : Int32) then
      if a0 = (59 : Int32) then
        some ((3 : Int32), S)
      else
        some ((4 : Int32), S)
    else
      if a0 ≤ (57 : Int32) then
        some ((2 : Int32), S)
      else
        if a0 = (59 : Int32) then
          some ((3 : Int32), S)
        else
          some ((4 : Int32), S)
  else
    if a0 ≤ (122 : Int32) then
      some ((1 : Int32), S)
    else
      if a0 < (48 : Int32) then
        if a0 = (59 : Int32) then
          some ((3 : Int32), S)
        else
          some ((4 : Int32), S)
      else
        if a0 ≤ (57 : Int32) then
          some ((2 : Int32), S)
        else
          if a0 = (59 : Int32) then
            some ((3 : Int32), S)
          else
            some ((4 : Int32), S)
noncomputable def F_Reader_next_149 (a0 : Nat) (S : zM) : Option zM :=
  Option.bind (zgf S 7 a0 2) (fun x1 =>
  Option.bind (zgf S 7 a0 6) (fun x2 =>
  Option.bind (zgf S 7 a0 5) (fun x3 =>
  if x3 = (1 : Int32) then
    if (x1 - x2) ≤ (7 : Int32) then
      some S
    else
      Option.bind (zpf S 7 a0 5 (4 : Int32)) (fun S4 =>
      some S4)
  else
    if (x1 - x2) ≤ (1 : Int32) then
      some S
    else
      Option.bind (zpf S 7 a0 5 (4 : Int32)) (fun S5 =>
      some S5))))
noncomputable def L_Reader_next_106 (k149 : Nat → zM → Option zM) : Nat → Nat → zM → Option zM
  | 0, _, _ => none
  | n + 1, a0, S =>
  Option.bind (zgf S 7 a0 2) (fun x1 =>
  Option.bind (zgf S 7 a0 1) (fun x2 =>
  if x1 < x2 then
    Option.bind (zgr S 7 a0 0) (fun q3 =>
    Option.bind (zgf S 7 a0 2) (fun x4 =>
    Option.bind (zga S 100 q3 x4) (fun x5 =>
    Option.bind (f_Reader_sortOf x5 S) (fun p6 =>
    Option.bind (zgf p6.2 7 a0 5) (fun x7 =>
    if p6.1 = x7 then
      Option.bind (zgf p6.2 7 a0 2) (fun x8 =>
      Option.bind (zpf p6.2 7 a0 2 (x8 + (1 : Int32))) (fun S9 =>
      L_Reader_next_106 k149 n a0 S9))
    else
      k149 a0 p6.2)))))
  else
    k149 a0 S))
noncomputable def F_Reader_next_38 (k106 : Nat → zM → Option zM) (a0 : Nat) (S : zM) : Option zM :=
  Option.bind (zgf S 7 a0 2) (fun x1 =>
  Option.bind (zpf S 7 a0 6 x1) (fun S2 =>
  Option.bind (zgf S2 7 a0 2) (fun x3 =>
  Option.bind (zgf S2 7 a0 1) (fun x4 =>
  if x3 < x4 then
    Option.bind (zgr S2 7 a0 0) (fun q5 =>
    Option.bind (zgf S2 7 a0 2) (fun x6 =>
    Option.bind (zga S2 100 q5 x6) (fun x7 =>
    Option.bind (f_Reader_sortOf x7 S2) (fun p8 =>
    Option.bind (zpf p8.2 7 a0 5 p8.1) (fun S9 =>
    Option.bind (zgf S9 7 a0 2) (fun x10 =>
    Option.bind (zpf S9 7 a0 2 (x10 + (1 : Int32))) (fun S11 =>
    Option.bind (zgf S11 7 a0 5) (fun x12 =>
    if x12 = (1 : Int32) then
      k106 a0 S11
    else
      Option.bind (zgf S11 7 a0 5) (fun x13 =>
      if x13 = (2 : Int32) then
        k106 a0 S11
      else
        some S11)))))))))
  else
    Option.bind (zpf S2 7 a0 5 (0 : Int32)) (fun S14 =>
    some S14)))))
noncomputable def L_Reader_next_0 (k38 : Nat → zM → Option zM) : Nat → Nat → zM → Option zM
  | 0, _, _ => none
  | n + 1, a0, S =>
  Option.bind (zgf S 7 a0 2) (fun x1 =>
  Option.bind (zgf S 7 a0 1) (fun x2 =>
  if x1 < x2 then
    Option.bind (zgr S 7 a0 0) (fun q3 =>
    Option.bind (zgf S 7 a0 2) (fun x4 =>
    Option.bind (zga S 100 q3 x4) (fun x5 =>
    if x5 = (32 : Int32) then
      Option.bind (zgf S 7 a0 2) (fun x6 =>
      Option.bind (zpf S 7 a0 2 (x6 + (1 : Int32))) (fun S7 =>
      L_Reader_next_0 k38 n a0 S7))
    else
      k38 a0 S)))
  else
    k38 a0 S))
noncomputable def f_Reader_next (a0 : Nat) (S : zM) : Option zM :=
  L_Reader_next_0 (F_Reader_next_38 (L_Reader_next_106 (F_Reader_next_149) zF)) zF a0 S
noncomputable def f_Reader_byteAt (a0 : Nat) (a1 : Int32) (S : zM) : Option (Int32 × zM) :=
  if a1 < (0 : Int32) then
    some ((0 : Int32), S)
  else
    Option.bind (zgf S 7 a0 1) (fun x1 =>
    if a1 < x1 then
      Option.bind (zgr S 7 a0 0) (fun q2 =>
      Option.bind (zlen S q2) (fun x3 =>
      if a1 < x3 then
        Option.bind (zgr S 7 a0 0) (fun q4 =>
        Option.bind (zga S 100 q4 a1) (fun x5 =>
        some (x5, S)))
      else
        some ((0 : Int32), S)))
    else
      some ((0 : Int32), S))
noncomputable def L_Reader_is_28 : Nat → Nat → Nat → Int32 → zM → Option (Int32 × zM)
  | 0, _, _, _, _ => none
  | n + 1, a0, a1, a2, S =>
  Option.bind (f_J_length a1 S) (fun p1 =>
  if a2 < p1.1 then
    Option.bind (zgf p1.2 7 a0 6) (fun x2 =>
    Option.bind (zcl p1.2 7 a0 (f_Reader_byteAt a0 (x2 + a2) p1.2)) (fun p3 =>
    Option.bind (f_J_charAt a1 a2 p3.2) (fun p4 =>
    if p3.1 = p4.1 then
      L_Reader_is_28 n a0 a1 (a2 + (1 : Int32)) p4.2
    else
      if (0 : Int32) = 0 ∨ (0 : Int32) = 1 then some ((0 : Int32), p4.2) else none)))
  else
    if (1 : Int32) = 0 ∨ (1 : Int32) = 1 then some ((1 : Int32), p1.2) else none)
noncomputable def f_Reader_is (a0 : Nat) (a1 : Nat) (S : zM) : Option (Int32 × zM) :=
  Option.bind (zgf S 7 a0 5) (fun x1 =>
  if x1 = (1 : Int32) then
    Option.bind (zgf S 7 a0 2) (fun x2 =>
    Option.bind (zgf S 7 a0 6) (fun x3 =>
    Option.bind (f_J_length a1 S) (fun p4 =>
    if (x2 - x3) = p4.1 then
      L_Reader_is_28 zF a0 a1 (0 : Int32) p4.2
    else
      if (0 : Int32) = 0 ∨ (0 : Int32) = 1 then some ((0 : Int32), p4.2) else none)))
  else
    if (0 : Int32) = 0 ∨ (0 : Int32) = 1 then some ((0 : Int32), S) else none)
noncomputable def f_Reader_scriptLine (a0 : Nat) (S : zM) : Option (Int32 × zM) :=
  Option.bind (zcl S 7 a0 (f_Reader_next a0 S)) (fun p1 =>
  Option.bind (zcl p1 7 a0 (f_Reader_is a0 (1000000 + 4) p1)) (fun p2 =>
  if p2.1 = (0 : Int32) then
    some ((1 : Int32), p2.2)
  else
    Option.bind (zcl p2.2 7 a0 (f_Reader_next a0 p2.2)) (fun p3 =>
    Option.bind (zgf p3 7 a0 5) (fun x4 =>
    if x4 = (2 : Int32) then
      Option.bind (zgf p3 7 a0 6) (fun x5 =>
      Option.bind (zcl p3 7 a0 (f_Reader_byteAt a0 x5 p3)) (fun p6 =>
      if (p6.1 - (48 : Int32)) < (2 : Int32) then
        some ((2 : Int32), p6.2)
      else
        if (p6.1 - (48 : Int32)) ≤ (4 : Int32) then
          Option.bind (zgr p6.2 7 a0 3) (fun q7 =>
          Option.bind (zpf p6.2 10 q7 3 (p6.1 - (48 : Int32))) (fun S8 =>
          Option.bind (zcl S8 7 a0 (f_Reader_next a0 S8)) (fun p9 =>
          some ((0 : Int32), p9))))
        else
          some ((2 : Int32), p6.2)))
    else
      some ((1 : Int32), p3)))))
noncomputable def f_Reader_isKept (a0 : Nat) (S : zM) : Option (Int32 × zM) :=
  Option.bind (zcl S 7 a0 (f_Reader_is a0 (1000000 + 0) S)) (fun p1 =>
  if p1.1 = (0 : Int32) then
    Option.bind (zcl p1.2 7 a0 (f_Reader_is a0 (1000000 + 1) p1.2)) (fun p2 =>
    if p2.1 = (0 : Int32) then
      Option.bind (zcl p2.2 7 a0 (f_Reader_is a0 (1000000 + 2) p2.2)) (fun p3 =>
      if p3.1 = (0 : Int32) then
        Option.bind (zcl p3.2 7 a0 (f_Reader_is a0 (1000000 + 3) p3.2)) (fun p4 =>
        if p4.1 = (0 : Int32) then
          Option.bind (zcl p4.2 7 a0 (f_Reader_is a0 (1000000 + 4) p4.2)) (fun p5 =>
          if p5.1 = (0 : Int32) then
            Option.bind (zcl p5.2 7 a0 (f_Reader_is a0 (1000000 + 5) p5.2)) (fun p6 =>
            if p6.1 = (0 : Int32) then
              Option.bind (zcl p6.2 7 a0 (f_Reader_is a0 (1000000 + 6) p6.2)) (fun p7 =>
              if p7.1 = (0 : Int32) then
                Option.bind (zcl p7.2 7 a0 (f_Reader_is a0 (1000000 + 7) p7.2)) (fun p8 =>
                if p8.1 = (0 : Int32) then
                  Option.bind (zcl p8.2 7 a0 (f_Reader_is a0 (1000000 + 8) p8.2)) (fun p9 =>
                  if p9.1 = (0 : Int32) then
                    Option.bind (zcl p9.2 7 a0 (f_Reader_is a0 (1000000 + 9) p9.2)) (fun p10 =>
                    if p10.1 = (0 : Int32) then
                      Option.bind (zcl p10.2 7 a0 (f_Reader_is a0 (1000000 + 10) p10.2)) (fun p11 =>
                      if p11.1 = (0 : Int32) then
                        Option.bind (zcl p11.2 7 a0 (f_Reader_is a0 (1000000 + 11) p11.2)) (fun p12 =>
                        if p12.1 = (0 : Int32) then
                          if (0 : Int32) = 0 ∨ (0 : Int32) = 1 then some ((0 : Int32), p12.2) else none
                        else
                          if (1 : Int32) = 0 ∨ (1 : Int32) = 1 then some ((1 : Int32), p12.2) else none)
                      else
                        if (1 : Int32) = 0 ∨ (1 : Int32) = 1 then some ((1 : Int32), p11.2) else none)
                    else
                      if (1 : Int32) = 0 ∨ (1 : Int32) = 1 then some ((1 : Int32), p10.2) else none)
                  else
                    if (1 : Int32) = 0 ∨ (1 : Int32) = 1 then some ((1 : Int32), p9.2) else none)
                else
                  if (1 : Int32) = 0 ∨ (1 : Int32) = 1 then some ((1 : Int32), p8.2) else none)
              else
                if (1 : Int32) = 0 ∨ (1 : Int32) = 1 then some ((1 : Int32), p7.2) else none)
            else
              if (1 : Int32) = 0 ∨ (1 : Int32) = 1 then some ((1 : Int32), p6.2) else none)
          else
            if (1 : Int32) = 0 ∨ (1 : Int32) = 1 then some ((1 : Int32), p5.2) else none)
        else
          if (1 : Int32) = 0 ∨ (1 : Int32) = 1 then some ((1 : Int32), p4.2) else none)
      else
        if (1 : Int32) = 0 ∨ (1 : Int32) = 1 then some ((1 : Int32), p3.2) else none)
    else
      if (1 : Int32) = 0 ∨ (1 : Int32) = 1 then some ((1 : Int32), p2.2) else none)
  else
    if (1 : Int32) = 0 ∨ (1 : Int32) = 1 then some ((1 : Int32), p1.2) else none)
noncomputable def L_Reader_nameHere_7 : Nat → Nat → Int64 → Int32 → zM → Option (Int64 × zM)
  | 0, _, _, _, _ => none
  | n + 1, a0, a1, a3, S =>
  Option.bind (zgf S 7 a0 2) (fun x1 =>
  if a3 < x1 then
    Option.bind (zcl S 7 a0 (f_Reader_byteAt a0 a3 S)) (fun p2 =>
    L_Reader_nameHere_7 n a0 ((a1 <<< (((8 : Int32)).toInt64 &&& 63)) ||| (p2.1).toInt64) (a3 + (1 : Int32)) p2.2)
  else
    some (a1, S))
noncomputable def f_Reader_nameHere (a0 : Nat) (S : zM) : Option (Int64 × zM) :=
  Option.bind (zgf S 7 a0 6) (fun x1 =>
  L_Reader_nameHere_7 zF a0 (0 : Int64) x1 S)
noncomputable def L_Script_lettersOfKind_2 : Nat → Nat → Int64 → Int32 → zM → Option (Int32 × zM)
  | 0, _, _, _, _ => none
  | n + 1, a0, a1, a3, S =>
  Option.bind (zgf S 10 a0 4) (fun x1 =>
  if a3 < x1 then
    if a3 < (4 : Int32) then
      Option.bind (zgr S 10 a0 0) (fun q2 =>
      Option.bind (zgl S q2 a3) (fun x3 =>
      if (lg_cmp x3 a1) = (0 : Int32) then
        Option.bind (zgr S 10 a0 1) (fun q4 =>
        Option.bind (zga S 100 q4 a3) (fun x5 =>
        some (x5, S)))
      else
        L_Script_lettersOfKind_2 n a0 a1 (a3 + (1 : Int32)) S))
    else
      some ((-1 : Int32), S)
  else
    some ((-1 : Int32), S))
noncomputable def f_Script_lettersOfKind (a0 : Nat) (a1 : Int64) (S : zM) : Option (Int32 × zM) :=
  L_Script_lettersOfKind_2 zF a0 a1 (0 : Int32) S
noncomputable def L_Reader_areLetters_28 : Nat → Nat → Int32 → zM → Option (Int32 × zM)
  | 0, _, _, _ => none
  | n + 1, a0, a2, S =>
  Option.bind (zgf S 7 a0 2) (fun x1 =>
  if a2 < x1 then
    Option.bind (zcl S 7 a0 (f_Reader_byteAt a0 a2 S)) (fun p2 =>
    if p2.1 ≤ (104 : Int32) then
      L_Reader_areLetters_28 n a0 (a2 + (1 : Int32)) p2.2
    else
      if (0 : Int32) = 0 ∨ (0 : Int32) = 1 then some ((0 : Int32), p2.2) else none)
  else
    if (1 : Int32) = 0 ∨ (1 : Int32) = 1 then some ((1 : Int32), S) else none)
noncomputable def f_Reader_areLetters (a0 : Nat) (a1 : Int32) (S : zM) : Option (Int32 × zM) :=
  Option.bind (zgf S 7 a0 5) (fun x1 =>
  if x1 = (1 : Int32) then
    Option.bind (zgf S 7 a0 2) (fun x2 =>
    Option.bind (zgf S 7 a0 6) (fun x3 =>
    if (x2 - x3) ≤ a1 then
      Option.bind (zgf S 7 a0 6) (fun x4 =>
      L_Reader_areLetters_28 zF a0 x4 S)
    else
      if (0 : Int32) = 0 ∨ (0 : Int32) = 1 then some ((0 : Int32), S) else none))
  else
    if (0 : Int32) = 0 ∨ (0 : Int32) = 1 then some ((0 : Int32), S) else none)
noncomputable def L_Reader_letterBits_7 : Nat → Nat → Int32 → Int32 → zM → Option (Int32 × zM)
  | 0, _, _, _, _ => none
  | n + 1, a0, a1, a2, S =>
  Option.bind (zgf S 7 a0 2) (fun x1 =>
  if a2 < x1 then
    Option.bind (zcl S 7 a0 (f_Reader_byteAt a0 a2 S)) (fun p2 =>
    L_Reader_letterBits_7 n a0 (a1 ||| ((1 : Int32) <<< ((p2.1 - (97 : Int32)) &&& 31))) (a2 + (1 : Int32)) p2.2)
  else
    some (a1, S))
noncomputable def f_Reader_letterBits (a0 : Nat) (S : zM) : Option (Int32 × zM) :=
  Option.bind (zgf S 7 a0 6) (fun x1 =>
  L_Reader_letterBits_7 zF a0 (0 : Int32) x1 S)
noncomputable def f_J_bitCount (a0 : Int32) (S : zM) : Option (Int32 × zM) :=
  some (((((((((a0 - (((a0).toUInt32 >>> (((1 : Int32)).toUInt32 &&& Int32.toUInt32 31)).toInt32 &&& (1431655765 : Int32))) &&& (858993459 : Int32)) + ((((a0 - (((a0).toUInt32 >>> (((1 : Int32)).toUInt32 &&& Int32.toUInt32 31)).toInt32 &&& (1431655765 : Int32)))).toUInt32 >>> (((2 : Int32)).toUInt32 &&& Int32.toUInt32 31)).toInt32 &&& (858993459 : Int32))) + (((((a0 - (((a0).toUInt32 >>> (((1 : Int32)).toUInt32 &&& Int32.toUInt32 31)).toInt32 &&& (1431655765 : Int32))) &&& (858993459 : Int32)) + ((((a0 - (((a0).toUInt32 >>> (((1 : Int32)).toUInt32 &&& Int32.toUInt32 31)).toInt32 &&& (1431655765 : Int32)))).toUInt32 >>> (((2 : Int32)).toUInt32 &&& Int32.toUInt32 31)).toInt32 &&& (858993459 : Int32)))).toUInt32 >>> (((4 : Int32)).toUInt32 &&& Int32.toUInt32 31)).toInt32) &&& (252645135 : Int32)) + (((((((a0 - (((a0).toUInt32 >>> (((1 : Int32)).toUInt32 &&& Int32.toUInt32 31)).toInt32 &&& (1431655765 : Int32))) &&& (858993459 : Int32)) + ((((a0 - (((a0).toUInt32 >>> (((1 : Int32)).toUInt32 &&& Int32.toUInt32 31)).toInt32 &&& (1431655765 : Int32)))).toUInt32 >>> (((2 : Int32)).toUInt32 &&& Int32.toUInt32 31)).toInt32 &&& (858993459 : Int32))) + (((((a0 - (((a0).toUInt32 >>> (((1 : Int32)).toUInt32 &&& Int32.toUInt32 31)).toInt32 &&& (1431655765 : Int32))) &&& (858993459 : Int32)) + ((((a0 - (((a0).toUInt32 >>> (((1 : Int32)).toUInt32 &&& Int32.toUInt32 31)).toInt32 &&& (1431655765 : Int32)))).toUInt32 >>> (((2 : Int32)).toUInt32 &&& Int32.toUInt32 31)).toInt32 &&& (858993459 : Int32)))).toUInt32 >>> (((4 : Int32)).toUInt32 &&& Int32.toUInt32 31)).toInt32) &&& (252645135 : Int32))).toUInt32 >>> (((8 : Int32)).toUInt32 &&& Int32.toUInt32 31)).toInt32) + ((((((((a0 - (((a0).toUInt32 >>> (((1 : Int32)).toUInt32 &&& Int32.toUInt32 31)).toInt32 &&& (1431655765 : Int32))) &&& (858993459 : Int32)) + ((((a0 - (((a0).toUInt32 >>> (((1 : Int32)).toUInt32 &&& Int32.toUInt32 31)).toInt32 &&& (1431655765 : Int32)))).toUInt32 >>> (((2 : Int32)).toUInt32 &&& Int32.toUInt32 31)).toInt32 &&& (858993459 : Int32))) + (((((a0 - (((a0).toUInt32 >>> (((1 : Int32)).toUInt32 &&& Int32.toUInt32 31)).toInt32 &&& (1431655765 : Int32))) &&& (858993459 : Int32)) + ((((a0 - (((a0).toUInt32 >>> (((1 : Int32)).toUInt32 &&& Int32.toUInt32 31)).toInt32 &&& (1431655765 : Int32)))).toUInt32 >>> (((2 : Int32)).toUInt32 &&& Int32.toUInt32 31)).toInt32 &&& (858993459 : Int32)))).toUInt32 >>> (((4 : Int32)).toUInt32 &&& Int32.toUInt32 31)).toInt32) &&& (252645135 : Int32)) + (((((((a0 - (((a0).toUInt32 >>> (((1 : Int32)).toUInt32 &&& Int32.toUInt32 31)).toInt32 &&& (1431655765 : Int32))) &&& (858993459 : Int32)) + ((((a0 - (((a0).toUInt32 >>> (((1 : Int32)).toUInt32 &&& Int32.toUInt32 31)).toInt32 &&& (1431655765 : Int32)))).toUInt32 >>> (((2 : Int32)).toUInt32 &&& Int32.toUInt32 31)).toInt32 &&& (858993459 : Int32))) + (((((a0 - (((a0).toUInt32 >>> (((1 : Int32)).toUInt32 &&& Int32.toUInt32 31)).toInt32 &&& (1431655765 : Int32))) &&& (858993459 : Int32)) + ((((a0 - (((a0).toUInt32 >>> (((1 : Int32)).toUInt32 &&& Int32.toUInt32 31)).toInt32 &&& (1431655765 : Int32)))).toUInt32 >>> (((2 : Int32)).toUInt32 &&& Int32.toUInt32 31)).toInt32 &&& (858993459 : Int32)))).toUInt32 >>> (((4 : Int32)).toUInt32 &&& Int32.toUInt32 31)).toInt32) &&& (252645135 : Int32))).toUInt32 >>> (((8 : Int32)).toUInt32 &&& Int32.toUInt32 31)).toInt32)).toUInt32 >>> (((16 : Int32)).toUInt32 &&& Int32.toUInt32 31)).toInt32) &&& (63 : Int32)), S)
noncomputable def f_Script_addKind (a0 : Nat) (a1 : Int64) (a3 : Int32) (S : zM) : Option zM :=
  Option.bind (zgf S 10 a0 4) (fun x1 =>
  if x1 < (4 : Int32) then
    Option.bind (zgr S 10 a0 0) (fun q2 =>
    Option.bind (zgf S 10 a0 4) (fun x3 =>
    Option.bind (zpl S q2 x3 a1) (fun S4 =>
    Option.bind (zgr S4 10 a0 1) (fun q5 =>
    Option.bind (zgf S4 10 a0 4) (fun x6 =>
    Option.bind (zpa S4 q5 x6 a3) (fun S7 =>
    Option.bind (zgf S7 10 a0 4) (fun x8 =>
    Option.bind (zpf S7 10 a0 4 (x8 + (1 : Int32))) (fun S9 =>
    some S9))))))))
  else
    some S)
noncomputable def f_Reader_kindLine (a0 : Nat) (S : zM) : Option (Int32 × zM) :=
  Option.bind (zgr S 7 a0 3) (fun q1 =>
  Option.bind (zgf S 10 q1 4) (fun x2 =>
  if x2 < (4 : Int32) then
    Option.bind (zcl S 7 a0 (f_Reader_next a0 S)) (fun p3 =>
    Option.bind (zgf p3 7 a0 5) (fun x4 =>
    if x4 = (1 : Int32) then
      Option.bind (zgf p3 7 a0 2) (fun x5 =>
      Option.bind (zgf p3 7 a0 6) (fun x6 =>
      if (x5 - x6) < (2 : Int32) then
        some ((1 : Int32), p3)
      else
        Option.bind (zcl p3 7 a0 (f_Reader_isKept a0 p3)) (fun p7 =>
        if p7.1 = (0 : Int32) then
          Option.bind (zcl p7.2 7 a0 (f_Reader_nameHere a0 p7.2)) (fun p8 =>
          Option.bind (zgr p8.2 7 a0 3) (fun q9 =>
          Option.bind (zcl p8.2 10 q9 (f_Script_lettersOfKind q9 p8.1 p8.2)) (fun p10 =>
          if p10.1 = (-1 : Int32) then
            Option.bind (zcl p10.2 7 a0 (f_Reader_next a0 p10.2)) (fun p11 =>
            Option.bind (zcl p11 7 a0 (f_Reader_is a0 (1000000 + 5) p11)) (fun p12 =>
            if p12.1 = (0 : Int32) then
              some ((1 : Int32), p12.2)
            else
              Option.bind (zcl p12.2 7 a0 (f_Reader_next a0 p12.2)) (fun p13 =>
              Option.bind (zcl p13 7 a0 (f_Reader_areLetters a0 (7 : Int32) p13)) (fun p14 =>
              if p14.1 = (0 : Int32) then
                some ((1 : Int32), p14.2)
              else
                Option.bind (zcl p14.2 7 a0 (f_Reader_letterBits a0 p14.2)) (fun p15 =>
                Option.bind (f_J_bitCount p15.1 p15.2) (fun p16 =>
                Option.bind (zgf p16.2 7 a0 2) (fun x17 =>
                Option.bind (zgf p16.2 7 a0 6) (fun x18 =>
                if p16.1 = (x17 - x18) then
                  Option.bind (zgr p16.2 7 a0 3) (fun q19 =>
                  Option.bind (zcl p16.2 10 q19 (f_Script_addKind q19 p8.1 p15.1 p16.2)) (fun p20 =>
                  Option.bind (zcl p20 7 a0 (f_Reader_next a0 p20)) (fun p21 =>
                  some ((0 : Int32), p21))))
                else
                  some ((3 : Int32), p16.2)))))))))
          else
            some ((3 : Int32), p10.2))))
        else
          some ((1 : Int32), p7.2))))
    else
      some ((1 : Int32), p3)))
  else
    some ((5 : Int32), S)))
noncomputable def f_Pass_drop (a0 : Nat) (S : zM) : Option zM :=
  Option.bind (zpf S 5 a0 3 (0 : Int32)) (fun S1 =>
  Option.bind (zpz S1 5 a0 4 (0 : Int32)) (fun S2 =>
  Option.bind (zpf S2 5 a0 5 (0 : Int32)) (fun S3 =>
  some S3)))
noncomputable def f_Script_addPass (a0 : Nat) (S : zM) : Option (Option Nat × zM) :=
  Option.bind (zgf S 10 a0 5) (fun x1 =>
  if x1 < (3 : Int32) then
    Option.bind (zgr S 10 a0 2) (fun q2 =>
    Option.bind (zgf S 10 a0 5) (fun x3 =>
    if (zh S q2).1 = 115 ∧ zinb x3 (zh S q2).2 = true then (match zR S q2 (x3).toNatClampNeg with
    | some q4 => Option.bind (zcl S 5 q4 (f_Pass_drop q4 S)) (fun p5 =>
      Option.bind (zgf p5 10 a0 5) (fun x6 =>
      Option.bind (zpf p5 10 a0 5 (x6 + (1 : Int32))) (fun S7 =>
      some (some q4, S7))))
    | none => some (none, S)) else none))
  else
    some (none, S))
noncomputable def f_Reader_passLine (a0 : Nat) (S : zM) : Option (Int32 × zM) :=
  Option.bind (zgr S 7 a0 3) (fun q1 =>
  Option.bind (zcl S 10 q1 (f_Script_addPass q1 S)) (fun p2 =>
  match p2.1 with
  | some q3 => Option.bind (zpr p2.2 7 a0 4 (some q3)) (fun S4 =>
    if (zh S4 a0).1 = 7 then (match zR S4 a0 4 with
    | some q5 => Option.bind (zcl S4 7 a0 (f_Reader_next a0 S4)) (fun p6 =>
      Option.bind (zcl p6 7 a0 (f_Reader_is a0 (1000000 + 6) p6)) (fun p7 =>
      if p7.1 = (0 : Int32) then
        some ((0 : Int32), p7.2)
      else
        Option.bind (zgr p7.2 7 a0 4) (fun q8 =>
        Option.bind (zpz p7.2 5 q8 4 (1 : Int32)) (fun S9 =>
        Option.bind (zcl S9 7 a0 (f_Reader_next a0 S9)) (fun p10 =>
        some ((0 : Int32), p10))))))
    | none => some ((5 : Int32), S4)) else none)
  | none => Option.bind (zpr p2.2 7 a0 4 none) (fun S11 =>
    if (zh S11 a0).1 = 7 then (match zR S11 a0 4 with
    | some q12 => Option.bind (zcl S11 7 a0 (f_Reader_next a0 S11)) (fun p13 =>
      Option.bind (zcl p13 7 a0 (f_Reader_is a0 (1000000 + 6) p13)) (fun p14 =>
      if p14.1 = (0 : Int32) then
        some ((0 : Int32), p14.2)
      else
        Option.bind (zgr p14.2 7 a0 4) (fun q15 =>
        Option.bind (zpz p14.2 5 q15 4 (1 : Int32)) (fun S16 =>
        Option.bind (zcl S16 7 a0 (f_Reader_next a0 S16)) (fun p17 =>
        some ((0 : Int32), p17))))))
    | none => some ((5 : Int32), S11)) else none)))
noncomputable def f_Row_drop (a0 : Nat) (S : zM) : Option zM :=
  Option.bind (zpf S 8 a0 1 (0 : Int32)) (fun S1 =>
  some S1)
noncomputable def f_Rule_drop (a0 : Nat) (S : zM) : Option zM :=
  Option.bind (zgr S 9 a0 0) (fun q1 =>
  Option.bind (zcl S 8 q1 (f_Row_drop q1 S)) (fun p2 =>
  Option.bind (zgr p2 9 a0 1) (fun q3 =>
  Option.bind (zcl p2 8 q3 (f_Row_drop q3 p2)) (fun p4 =>
  Option.bind (zpf p4 9 a0 2 (511 : Int32)) (fun S5 =>
  Option.bind (zpf S5 9 a0 3 (511 : Int32)) (fun S6 =>
  some S6))))))
noncomputable def f_Pass_addRule (a0 : Nat) (S : zM) : Option (Option Nat × zM) :=
  Option.bind (zgf S 5 a0 3) (fun x1 =>
  if x1 < (8 : Int32) then
    Option.bind (zgr S 5 a0 0) (fun q2 =>
    Option.bind (zgf S 5 a0 3) (fun x3 =>
    if (zh S q2).1 = 119 ∧ zinb x3 (zh S q2).2 = true then (match zR S q2 (x3).toNatClampNeg with
    | some q4 => Option.bind (zcl S 9 q4 (f_Rule_drop q4 S)) (fun p5 =>
      Option.bind (zgf p5 5 a0 3) (fun x6 =>
      Option.bind (zpf p5 5 a0 3 (x6 + (1 : Int32))) (fun S7 =>
      some (some q4, S7))))
    | none => some (none, S)) else none))
  else
    some (none, S))
noncomputable def f_Reader_sideBits (a0 : Nat) (S : zM) : Option (Int32 × zM) :=
  Option.bind (zcl S 7 a0 (f_Reader_is a0 (1000000 + 11) S)) (fun p1 =>
  if p1.1 = (0 : Int32) then
    Option.bind (zcl p1.2 7 a0 (f_Reader_areLetters a0 (1 : Int32) p1.2)) (fun p2 =>
    if p2.1 = (0 : Int32) then
      Option.bind (zgf p2.2 7 a0 5) (fun x3 =>
      if x3 = (1 : Int32) then
        Option.bind (zgf p2.2 7 a0 2) (fun x4 =>
        Option.bind (zgf p2.2 7 a0 6) (fun x5 =>
        if (x4 - x5) = (1 : Int32) then
          some ((-1 : Int32), p2.2)
        else
          Option.bind (zcl p2.2 7 a0 (f_Reader_isKept a0 p2.2)) (fun p6 =>
          if p6.1 = (0 : Int32) then
            Option.bind (zgr p6.2 7 a0 3) (fun q7 =>
            Option.bind (zcl p6.2 7 a0 (f_Reader_nameHere a0 p6.2)) (fun p8 =>
            Option.bind (zcl p8.2 10 q7 (f_Script_lettersOfKind q7 p8.1 p8.2)) (fun p9 =>
            if p9.1 = (-1 : Int32) then
              some ((-4 : Int32), p9.2)
            else
              Option.bind (zcl p9.2 7 a0 (f_Reader_next a0 p9.2)) (fun p10 =>
              some (p9.1, p10)))))
          else
            some ((-1 : Int32), p6.2))))
      else
        some ((-1 : Int32), p2.2))
    else
      Option.bind (zcl p2.2 7 a0 (f_Reader_letterBits a0 p2.2)) (fun p11 =>
      if p11.1 = (-1 : Int32) then
        some ((-4 : Int32), p11.2)
      else
        Option.bind (zcl p11.2 7 a0 (f_Reader_next a0 p11.2)) (fun p12 =>
        some (p11.1, p12))))
  else
    if (256 : Int32) = (-1 : Int32) then
      some ((-4 : Int32), p1.2)
    else
      Option.bind (zcl p1.2 7 a0 (f_Reader_next a0 p1.2)) (fun p13 =>
      some ((256 : Int32), p13)))
noncomputable def L_Reader_lettersInto_15 : Nat → Nat → Nat → Int32 → zM → Option (Int32 × zM)
  | 0, _, _, _, _ => none
  | n + 1, a0, a1, a3, S =>
  Option.bind (zgf S 7 a0 2) (fun x1 =>
  if a3 < x1 then
    Option.bind (zcl S 7 a0 (f_Reader_byteAt a0 a3 S)) (fun p2 =>
    Option.bind (zcl p2.2 8 a1 (f_Row_add a1 (p2.1 - (97 : Int32)) p2.2)) (fun p3 =>
    L_Reader_lettersInto_15 n a0 a1 (a3 + (1 : Int32)) p3.2))
  else
    Option.bind (zcl S 7 a0 (f_Reader_next a0 S)) (fun p4 =>
    some ((0 : Int32), p4)))
noncomputable def f_Reader_lettersInto (a0 : Nat) (a1 : Nat) (a2 : Int32) (S : zM) : Option (Int32 × zM) :=
  Option.bind (zcl S 7 a0 (f_Reader_areLetters a0 a2 S)) (fun p1 =>
  if p1.1 = (0 : Int32) then
    some ((1 : Int32), p1.2)
  else
    Option.bind (zgf p1.2 7 a0 6) (fun x2 =>
    L_Reader_lettersInto_15 zF a0 a1 x2 p1.2))
noncomputable def f_Reader_outcomeFault (a0 : Nat) (a1 : Nat) (S : zM) : Option (Int32 × zM) :=
  Option.bind (zcl S 7 a0 (f_Reader_is a0 (1000000 + 9) S)) (fun p1 =>
  if p1.1 = (0 : Int32) then
    some ((1 : Int32), p1.2)
  else
    Option.bind (zcl p1.2 7 a0 (f_Reader_next a0 p1.2)) (fun p2 =>
    Option.bind (zcl p2 7 a0 (f_Reader_is a0 (1000000 + 10) p2)) (fun p3 =>
    if p3.1 = (0 : Int32) then
      Option.bind (zgr p3.2 9 a1 1) (fun q4 =>
      Option.bind (zcl p3.2 7 a0 (f_Reader_lettersInto a0 q4 (4 : Int32) p3.2)) (fun p5 =>
      some (p5.1, p5.2)))
    else
      Option.bind (zcl p3.2 7 a0 (f_Reader_next a0 p3.2)) (fun p6 =>
      some ((0 : Int32), p6)))))
noncomputable def f_Reader_ruleLine (a0 : Nat) (S : zM) : Option (Int32 × zM) :=
  if (zh S a0).1 = 7 then (match zR S a0 4 with
  | some q1 => Option.bind (zgr S 7 a0 4) (fun q2 =>
    Option.bind (zcl S 5 q2 (f_Pass_addRule q2 S)) (fun p3 =>
    match p3.1 with
    | some q4 => Option.bind (zcl p3.2 7 a0 (f_Reader_next a0 p3.2)) (fun p5 =>
      Option.bind (zcl p5 7 a0 (f_Reader_is a0 (1000000 + 7) p5)) (fun p6 =>
      if p6.1 = (0 : Int32) then
        Option.bind (zgr p6.2 9 q4 0) (fun q7 =>
        Option.bind (zcl p6.2 7 a0 (f_Reader_lettersInto a0 q7 (3 : Int32) p6.2)) (fun p8 =>
        if p8.1 = (0 : Int32) then
          Option.bind (zcl p8.2 7 a0 (f_Reader_is a0 (1000000 + 8) p8.2)) (fun p9 =>
          if p9.1 = (0 : Int32) then
            Option.bind (zcl p9.2 7 a0 (f_Reader_outcomeFault a0 q4 p9.2)) (fun p10 =>
            some (p10.1, p10.2))
          else
            Option.bind (zcl p9.2 7 a0 (f_Reader_next a0 p9.2)) (fun p11 =>
            Option.bind (zcl p11 7 a0 (f_Reader_sideBits a0 p11)) (fun p12 =>
            Option.bind (zpf p12.2 9 q4 3 p12.1) (fun S13 =>
            Option.bind (zgf S13 9 q4 3) (fun x14 =>
            if x14 < (0 : Int32) then
              Option.bind (zgf S13 9 q4 3) (fun x15 =>
              some ((-x15), S13))
            else
              Option.bind (zcl S13 7 a0 (f_Reader_outcomeFault a0 q4 S13)) (fun p16 =>
              some (p16.1, p16.2)))))))
        else
          some (p8.1, p8.2)))
      else
        Option.bind (zcl p6.2 7 a0 (f_Reader_next a0 p6.2)) (fun p17 =>
        Option.bind (zcl p17 7 a0 (f_Reader_sideBits a0 p17)) (fun p18 =>
        Option.bind (zpf p18.2 9 q4 2 p18.1) (fun S19 =>
        Option.bind (zgf S19 9 q4 2) (fun x20 =>
        if x20 < (0 : Int32) then
          Option.bind (zgf S19 9 q4 2) (fun x21 =>
          some ((-x21), S19))
        else
          Option.bind (zgr S19 9 q4 0) (fun q22 =>
          Option.bind (zcl S19 7 a0 (f_Reader_lettersInto a0 q22 (3 : Int32) S19)) (fun p23 =>
          if p23.1 = (0 : Int32) then
            Option.bind (zcl p23.2 7 a0 (f_Reader_is a0 (1000000 + 8) p23.2)) (fun p24 =>
            if p24.1 = (0 : Int32) then
              Option.bind (zcl p24.2 7 a0 (f_Reader_outcomeFault a0 q4 p24.2)) (fun p25 =>
              some (p25.1, p25.2))
            else
              Option.bind (zcl p24.2 7 a0 (f_Reader_next a0 p24.2)) (fun p26 =>
              Option.bind (zcl p26 7 a0 (f_Reader_sideBits a0 p26)) (fun p27 =>
              Option.bind (zpf p27.2 9 q4 3 p27.1) (fun S28 =>
              Option.bind (zgf S28 9 q4 3) (fun x29 =>
              if x29 < (0 : Int32) then
                Option.bind (zgf S28 9 q4 3) (fun x30 =>
                some ((-x30), S28))
              else
                Option.bind (zcl S28 7 a0 (f_Reader_outcomeFault a0 q4 S28)) (fun p31 =>
                some (p31.1, p31.2)))))))
          else
            some (p23.1, p23.2)))))))))
    | none => some ((5 : Int32), p3.2)))
  | none => some ((6 : Int32), S)) else none
noncomputable def f_Reader_line (a0 : Nat) (a1 : Int32) (S : zM) : Option (Int32 × zM) :=
  Option.bind (zcl S 7 a0 (f_Reader_is a0 (1000000 + 0) S)) (fun p1 =>
  if p1.1 = (0 : Int32) then
    Option.bind (zcl p1.2 7 a0 (f_Reader_is a0 (1000000 + 1) p1.2)) (fun p2 =>
    if p2.1 = (0 : Int32) then
      Option.bind (zcl p2.2 7 a0 (f_Reader_is a0 (1000000 + 2) p2.2)) (fun p3 =>
      if p3.1 = (0 : Int32) then
        Option.bind (zcl p3.2 7 a0 (f_Reader_is a0 (1000000 + 3) p3.2)) (fun p4 =>
        if p4.1 = (0 : Int32) then
          some ((1 : Int32), p4.2)
        else
          if a1 = (0 : Int32) then
            Option.bind (zcl p4.2 7 a0 (f_Reader_ruleLine a0 p4.2)) (fun p5 =>
            some (p5.1, p5.2))
          else
            some ((6 : Int32), p4.2))
      else
        if a1 = (0 : Int32) then
          Option.bind (zcl p3.2 7 a0 (f_Reader_passLine a0 p3.2)) (fun p6 =>
          some (p6.1, p6.2))
        else
          some ((6 : Int32), p3.2))
    else
      if a1 = (0 : Int32) then
        Option.bind (zcl p2.2 7 a0 (f_Reader_kindLine a0 p2.2)) (fun p7 =>
        some (p7.1, p7.2))
      else
        some ((6 : Int32), p2.2))
  else
    if a1 = (0 : Int32) then
      some ((3 : Int32), p1.2)
    else
      Option.bind (zcl p1.2 7 a0 (f_Reader_scriptLine a0 p1.2)) (fun p8 =>
      some (p8.1, p8.2)))
noncomputable def f_Script_passAt (a0 : Nat) (a1 : Int32) (S : zM) : Option (Option Nat × zM) :=
  if a1 < (0 : Int32) then
    some (none, S)
  else
    Option.bind (zgf S 10 a0 5) (fun x1 =>
    if a1 < x1 then
      if a1 < (3 : Int32) then
        Option.bind (zgr S 10 a0 2) (fun q2 =>
        if (zh S q2).1 = 115 ∧ zinb a1 (zh S q2).2 = true then (match zR S q2 (a1).toNatClampNeg with
        | some q3 => some (some q3, S)
        | none => some (none, S)) else none)
      else
        some (none, S)
    else
      some (none, S))
noncomputable def L_Script_ruleCount_4 : Nat → Nat → Int32 → Int32 → zM → Option (Int32 × zM)
  | 0, _, _, _, _ => none
  | n + 1, a0, a1, a2, S =>
  Option.bind (zgf S 10 a0 5) (fun x1 =>
  if a2 < x1 then
    Option.bind (zcl S 10 a0 (f_Script_passAt a0 a2 S)) (fun p2 =>
    match p2.1 with
    | some q3 => Option.bind (zgf p2.2 5 q3 3) (fun x4 =>
      L_Script_ruleCount_4 n a0 (a1 + x4) (a2 + (1 : Int32)) p2.2)
    | none => L_Script_ruleCount_4 n a0 (a1 + (0 : Int32)) (a2 + (1 : Int32)) p2.2)
  else
    some (a1, S))
noncomputable def f_Script_ruleCount (a0 : Nat) (S : zM) : Option (Int32 × zM) :=
  L_Script_ruleCount_4 zF a0 (0 : Int32) (0 : Int32) S
noncomputable def L_J_fill_5 : Nat → Nat → Int32 → Int32 → Int32 → zM → Option zM
  | 0, _, _, _, _, _ => none
  | n + 1, a0, a1, a2, a3, S =>
  if a2 < a3 then
    Option.bind (zpa S a0 a2 a1) (fun S1 =>
    L_J_fill_5 n a0 a1 (a2 + (1 : Int32)) a3 S1)
  else
    some S
noncomputable def f_J_fill (a0 : Nat) (a1 : Int32) (S : zM) : Option zM :=
  Option.bind (zlen S a0) (fun x1 =>
  L_J_fill_5 zF a0 a1 (0 : Int32) x1 S)
noncomputable def f_Pass_ruleAt (a0 : Nat) (a1 : Int32) (S : zM) : Option (Option Nat × zM) :=
  if a1 < (0 : Int32) then
    some (none, S)
  else
    Option.bind (zgf S 5 a0 3) (fun x1 =>
    if a1 < x1 then
      if a1 < (8 : Int32) then
        Option.bind (zgr S 5 a0 0) (fun q2 =>
        if (zh S q2).1 = 119 ∧ zinb a1 (zh S q2).2 = true then (match zR S q2 (a1).toNatClampNeg with
        | some q3 => some (some q3, S)
        | none => some (none, S)) else none)
      else
        some (none, S)
    else
      some (none, S))
noncomputable def F_Machine_bearSides_90 (k2 : Nat → Nat → Int32 → zM → Option zM) (a0 : Nat) (a1 : Nat) (a2 : Int32) (S : zM) : Option zM :=
  k2 a0 a1 (a2 + (1 : Int32)) S
noncomputable def L_Machine_bearSides_24 (k90 : Nat → Nat → Int32 → zM → Option zM) : Nat → Nat → Nat → Int32 → Int32 → zM → Option zM
  | 0, _, _, _, _, _ => none
  | n + 1, a0, a1, a2, a3, S =>
  Option.bind (zgf S 5 a1 3) (fun x1 =>
  if a3 < x1 then
    Option.bind (zcl S 5 a1 (f_Pass_ruleAt a1 a3 S)) (fun p2 =>
    match p2.1 with
    | some q3 => Option.bind (zgr p2.2 3 a0 3) (fun q4 =>
      Option.bind (zga p2.2 100 q4 a2) (fun x5 =>
      Option.bind (zgf p2.2 9 q3 2) (fun x6 =>
      Option.bind (zpa p2.2 q4 a2 (x5 ||| (((x6 >>> (a2 &&& 31)) &&& (1 : Int32)) <<< (a3 &&& 31)))) (fun S7 =>
      Option.bind (zgr S7 3 a0 4) (fun q8 =>
      Option.bind (zga S7 100 q8 a2) (fun x9 =>
      Option.bind (zgf S7 9 q3 3) (fun x10 =>
      Option.bind (zpa S7 q8 a2 (x9 ||| (((x10 >>> (a2 &&& 31)) &&& (1 : Int32)) <<< (a3 &&& 31)))) (fun S11 =>
      L_Machine_bearSides_24 k90 n a0 a1 a2 (a3 + (1 : Int32)) S11))))))))
    | none => L_Machine_bearSides_24 k90 n a0 a1 a2 (a3 + (1 : Int32)) p2.2)
  else
    k90 a0 a1 a2 S)
noncomputable def L_Machine_bearSides_2 : Nat → Nat → Nat → Int32 → zM → Option zM
  | 0, _, _, _, _ => none
  | n + 1, a0, a1, a2, S =>
  if a2 ≤ (8 : Int32) then
    Option.bind (zgr S 3 a0 3) (fun q1 =>
    Option.bind (zpa S q1 a2 (0 : Int32)) (fun S2 =>
    Option.bind (zgr S2 3 a0 4) (fun q3 =>
    Option.bind (zpa S2 q3 a2 (0 : Int32)) (fun S4 =>
    (L_Machine_bearSides_24 (F_Machine_bearSides_90 (L_Machine_bearSides_2 n)) zF) a0 a1 a2 (0 : Int32) S4))))
  else
    some S
noncomputable def f_Machine_bearSides (a0 : Nat) (a1 : Nat) (S : zM) : Option zM :=
  L_Machine_bearSides_2 zF a0 a1 (0 : Int32) S
noncomputable def f_Rule_taken (a0 : Nat) (a1 : Int32) (S : zM) : Option (Nat × zM) :=
  if a1 = (0 : Int32) then
    Option.bind (zgr S 9 a0 0) (fun q1 =>
    some (q1, S))
  else
    Option.bind (zgr S 9 a0 1) (fun q2 =>
    some (q2, S))
noncomputable def f_Row_at (a0 : Nat) (a1 : Int32) (S : zM) : Option (Int32 × zM) :=
  if a1 < (0 : Int32) then
    some ((-1 : Int32), S)
  else
    Option.bind (zgf S 8 a0 1) (fun x1 =>
    if a1 < x1 then
      Option.bind (zgr S 8 a0 0) (fun q2 =>
      Option.bind (zlen S q2) (fun x3 =>
      if a1 < x3 then
        Option.bind (zgr S 8 a0 0) (fun q4 =>
        Option.bind (zga S 100 q4 a1) (fun x5 =>
        some (x5, S)))
      else
        some ((-1 : Int32), S)))
    else
      some ((-1 : Int32), S))
noncomputable def L_Machine_leadOn_15 : Nat → Nat → Nat → Int32 → Int32 → Int32 → Int32 → Int32 → Int32 → zM → Option zM
  | 0, _, _, _, _, _, _, _, _, _ => none
  | n + 1, a0, a1, a2, a3, a4, a5, a6, a7, S =>
  Option.bind (zgf S 5 a1 3) (fun x1 =>
  if a7 < x1 then
    if a7 < (8 : Int32) then
      Option.bind (zcl S 5 a1 (f_Pass_ruleAt a1 a7 S)) (fun p2 =>
      match p2.1 with
      | some q3 => Option.bind (zgr p2.2 3 a0 5) (fun q4 =>
        Option.bind (zga p2.2 100 q4 a7) (fun x5 =>
        if x5 = a3 then
          Option.bind (zcl p2.2 9 q3 (f_Rule_taken q3 a2 p2.2)) (fun p6 =>
          Option.bind (zcl p6.2 8 p6.1 (f_Row_at p6.1 a5 p6.2)) (fun p7 =>
          if p7.1 = a4 then
            if a6 = (-2 : Int32) then
              Option.bind (zgf p7.2 3 a0 6) (fun x8 =>
              if x8 < (33 : Int32) then
                Option.bind (zgf p7.2 3 a0 6) (fun x9 =>
                Option.bind (zgr p7.2 3 a0 1) (fun q10 =>
                Option.bind (zpa p7.2 q10 x9 (a5 + (1 : Int32))) (fun S11 =>
                Option.bind (zgr S11 3 a0 0) (fun q12 =>
                Option.bind (zpa S11 q12 ((a3 * (8 : Int32)) + a4) x9) (fun S13 =>
                Option.bind (zgf S13 3 a0 6) (fun x14 =>
                Option.bind (zpf S13 3 a0 6 (x14 + (1 : Int32))) (fun S15 =>
                Option.bind (zgr S15 3 a0 5) (fun q16 =>
                Option.bind (zpa S15 q16 a7 x9) (fun S17 =>
                Option.bind (zcl S17 9 q3 (f_Rule_taken q3 a2 S17)) (fun p18 =>
                Option.bind (zgf p18.2 8 p18.1 1) (fun x19 =>
                if x19 = (a5 + (1 : Int32)) then
                  Option.bind (zgr p18.2 3 a0 2) (fun q20 =>
                  Option.bind (zga p18.2 100 q20 x9) (fun x21 =>
                  Option.bind (zpa p18.2 q20 x9 (x21 ||| ((1 : Int32) <<< (a7 &&& 31)))) (fun S22 =>
                  L_Machine_leadOn_15 n a0 a1 a2 a3 a4 a5 x9 (a7 + (1 : Int32)) S22)))
                else
                  L_Machine_leadOn_15 n a0 a1 a2 a3 a4 a5 x9 (a7 + (1 : Int32)) p18.2)))))))))))
              else
                some p7.2)
            else
              Option.bind (zgr p7.2 3 a0 5) (fun q23 =>
              Option.bind (zpa p7.2 q23 a7 a6) (fun S24 =>
              Option.bind (zcl S24 9 q3 (f_Rule_taken q3 a2 S24)) (fun p25 =>
              Option.bind (zgf p25.2 8 p25.1 1) (fun x26 =>
              if x26 = (a5 + (1 : Int32)) then
                Option.bind (zgr p25.2 3 a0 2) (fun q27 =>
                Option.bind (zga p25.2 100 q27 a6) (fun x28 =>
                Option.bind (zpa p25.2 q27 a6 (x28 ||| ((1 : Int32) <<< (a7 &&& 31)))) (fun S29 =>
                L_Machine_leadOn_15 n a0 a1 a2 a3 a4 a5 a6 (a7 + (1 : Int32)) S29)))
              else
                L_Machine_leadOn_15 n a0 a1 a2 a3 a4 a5 a6 (a7 + (1 : Int32)) p25.2))))
          else
            L_Machine_leadOn_15 n a0 a1 a2 a3 a4 a5 a6 (a7 + (1 : Int32)) p7.2))
        else
          L_Machine_leadOn_15 n a0 a1 a2 a3 a4 a5 a6 (a7 + (1 : Int32)) p2.2))
      | none => L_Machine_leadOn_15 n a0 a1 a2 a3 a4 a5 a6 (a7 + (1 : Int32)) p2.2)
    else
      some S
  else
    some S)
noncomputable def f_Machine_leadOn (a0 : Nat) (a1 : Nat) (a2 : Int32) (a3 : Int32) (a4 : Int32) (S : zM) : Option zM :=
  Option.bind (zgr S 3 a0 1) (fun q1 =>
  Option.bind (zga S 100 q1 a3) (fun x2 =>
  L_Machine_leadOn_15 zF a0 a1 a2 a3 a4 x2 (-2 : Int32) (0 : Int32) S))
noncomputable def F_Machine_build_83 (k44 : Nat → Nat → Int32 → Int32 → zM → Option zM) (a0 : Nat) (a1 : Nat) (a2 : Int32) (a3 : Int32) (S : zM) : Option zM :=
  k44 a0 a1 a2 (a3 + (1 : Int32)) S
noncomputable def L_Machine_build_61 (k83 : Nat → Nat → Int32 → Int32 → zM → Option zM) : Nat → Nat → Nat → Int32 → Int32 → Int32 → zM → Option zM
  | 0, _, _, _, _, _, _ => none
  | n + 1, a0, a1, a2, a3, a4, S =>
  if a4 < (8 : Int32) then
    Option.bind (zcl S 3 a0 (f_Machine_leadOn a0 a1 a2 a3 a4 S)) (fun p1 =>
    L_Machine_build_61 k83 n a0 a1 a2 a3 (a4 + (1 : Int32)) p1)
  else
    k83 a0 a1 a2 a3 S
noncomputable def L_Machine_build_44 : Nat → Nat → Nat → Int32 → Int32 → zM → Option zM
  | 0, _, _, _, _, _ => none
  | n + 1, a0, a1, a2, a3, S =>
  Option.bind (zgf S 3 a0 6) (fun x1 =>
  if a3 < x1 then
    if a3 < (33 : Int32) then
      (L_Machine_build_61 (F_Machine_build_83 (L_Machine_build_44 n)) zF) a0 a1 a2 a3 (0 : Int32) S
    else
      some S
  else
    some S)
noncomputable def f_Machine_build (a0 : Nat) (a1 : Nat) (a2 : Int32) (S : zM) : Option zM :=
  Option.bind (zgr S 3 a0 0) (fun q1 =>
  Option.bind (f_J_fill q1 (-2 : Int32) S) (fun p2 =>
  Option.bind (zgr p2 3 a0 2) (fun q3 =>
  Option.bind (f_J_fill q3 (0 : Int32) p2) (fun p4 =>
  Option.bind (zgr p4 3 a0 5) (fun q5 =>
  Option.bind (f_J_fill q5 (0 : Int32) p4) (fun p6 =>
  Option.bind (zcl p6 3 a0 (f_Machine_bearSides a0 a1 p6)) (fun p7 =>
  Option.bind (zgr p7 3 a0 1) (fun q8 =>
  Option.bind (zpa p7 q8 (0 : Int32) (0 : Int32)) (fun S9 =>
  Option.bind (zpf S9 3 a0 6 (1 : Int32)) (fun S10 =>
  L_Machine_build_44 zF a0 a1 a2 (0 : Int32) S10))))))))))
noncomputable def L_Script_buildMachines_2 : Nat → Nat → Int32 → zM → Option zM
  | 0, _, _, _ => none
  | n + 1, a0, a1, S =>
  Option.bind (zgf S 10 a0 5) (fun x1 =>
  if a1 < x1 then
    Option.bind (zcl S 10 a0 (f_Script_passAt a0 a1 S)) (fun p2 =>
    match p2.1 with
    | some q3 => Option.bind (zgr p2.2 5 q3 1) (fun q4 =>
      Option.bind (zcl p2.2 3 q4 (f_Machine_build q4 q3 (0 : Int32) p2.2)) (fun p5 =>
      Option.bind (zgr p5 5 q3 2) (fun q6 =>
      Option.bind (zcl p5 3 q6 (f_Machine_build q6 q3 (1 : Int32) p5)) (fun p7 =>
      L_Script_buildMachines_2 n a0 (a1 + (1 : Int32)) p7))))
    | none => L_Script_buildMachines_2 n a0 (a1 + (1 : Int32)) p2.2)
  else
    some S)
noncomputable def f_Script_buildMachines (a0 : Nat) (S : zM) : Option zM :=
  L_Script_buildMachines_2 zF a0 (0 : Int32) S
noncomputable def F_Reader_read_97 (a0 : Nat) (a4 : Int32) (S : zM) : Option (Int32 × zM) :=
  if a4 = (0 : Int32) then
    Option.bind (zgf S 7 a0 5) (fun x1 =>
    if x1 = (0 : Int32) then
      if a4 = (0 : Int32) then
        Option.bind (zgr S 7 a0 3) (fun q2 =>
        Option.bind (zcl S 10 q2 (f_Script_ruleCount q2 S)) (fun p3 =>
        if p3.1 = (0 : Int32) then
          Option.bind (zgf p3.2 7 a0 6) (fun x4 =>
          Option.bind (zpf p3.2 7 a0 7 x4) (fun S5 =>
          if (6 : Int32) = (0 : Int32) then
            Option.bind (zgr S5 7 a0 3) (fun q6 =>
            Option.bind (zcl S5 10 q6 (f_Script_buildMachines q6 S5)) (fun p7 =>
            some ((6 : Int32), p7)))
          else
            some ((6 : Int32), S5)))
        else
          Option.bind (zgf p3.2 7 a0 6) (fun x8 =>
          Option.bind (zpf p3.2 7 a0 7 x8) (fun S9 =>
          if a4 = (0 : Int32) then
            Option.bind (zgr S9 7 a0 3) (fun q10 =>
            Option.bind (zcl S9 10 q10 (f_Script_buildMachines q10 S9)) (fun p11 =>
            some (a4, p11)))
          else
            some (a4, S9)))))
      else
        Option.bind (zgf S 7 a0 6) (fun x12 =>
        Option.bind (zpf S 7 a0 7 x12) (fun S13 =>
        if a4 = (0 : Int32) then
          Option.bind (zgr S13 7 a0 3) (fun q14 =>
          Option.bind (zcl S13 10 q14 (f_Script_buildMachines q14 S13)) (fun p15 =>
          some (a4, p15)))
        else
          some (a4, S13)))
    else
      if (1 : Int32) = (0 : Int32) then
        Option.bind (zgr S 7 a0 3) (fun q16 =>
        Option.bind (zcl S 10 q16 (f_Script_ruleCount q16 S)) (fun p17 =>
        if p17.1 = (0 : Int32) then
          Option.bind (zgf p17.2 7 a0 6) (fun x18 =>
          Option.bind (zpf p17.2 7 a0 7 x18) (fun S19 =>
          if (6 : Int32) = (0 : Int32) then
            Option.bind (zgr S19 7 a0 3) (fun q20 =>
            Option.bind (zcl S19 10 q20 (f_Script_buildMachines q20 S19)) (fun p21 =>
            some ((6 : Int32), p21)))
          else
            some ((6 : Int32), S19)))
        else
          Option.bind (zgf p17.2 7 a0 6) (fun x22 =>
          Option.bind (zpf p17.2 7 a0 7 x22) (fun S23 =>
          if (1 : Int32) = (0 : Int32) then
            Option.bind (zgr S23 7 a0 3) (fun q24 =>
            Option.bind (zcl S23 10 q24 (f_Script_buildMachines q24 S23)) (fun p25 =>
            some ((1 : Int32), p25)))
          else
            some ((1 : Int32), S23)))))
      else
        Option.bind (zgf S 7 a0 6) (fun x26 =>
        Option.bind (zpf S 7 a0 7 x26) (fun S27 =>
        if (1 : Int32) = (0 : Int32) then
          Option.bind (zgr S27 7 a0 3) (fun q28 =>
          Option.bind (zcl S27 10 q28 (f_Script_buildMachines q28 S27)) (fun p29 =>
          some ((1 : Int32), p29)))
        else
          some ((1 : Int32), S27))))
  else
    if a4 = (0 : Int32) then
      Option.bind (zgr S 7 a0 3) (fun q30 =>
      Option.bind (zcl S 10 q30 (f_Script_ruleCount q30 S)) (fun p31 =>
      if p31.1 = (0 : Int32) then
        Option.bind (zgf p31.2 7 a0 6) (fun x32 =>
        Option.bind (zpf p31.2 7 a0 7 x32) (fun S33 =>
        if (6 : Int32) = (0 : Int32) then
          Option.bind (zgr S33 7 a0 3) (fun q34 =>
          Option.bind (zcl S33 10 q34 (f_Script_buildMachines q34 S33)) (fun p35 =>
          some ((6 : Int32), p35)))
        else
          some ((6 : Int32), S33)))
      else
        Option.bind (zgf p31.2 7 a0 6) (fun x36 =>
        Option.bind (zpf p31.2 7 a0 7 x36) (fun S37 =>
        if a4 = (0 : Int32) then
          Option.bind (zgr S37 7 a0 3) (fun q38 =>
          Option.bind (zcl S37 10 q38 (f_Script_buildMachines q38 S37)) (fun p39 =>
          some (a4, p39)))
        else
          some (a4, S37)))))
    else
      Option.bind (zgf S 7 a0 6) (fun x40 =>
      Option.bind (zpf S 7 a0 7 x40) (fun S41 =>
      if a4 = (0 : Int32) then
        Option.bind (zgr S41 7 a0 3) (fun q42 =>
        Option.bind (zcl S41 10 q42 (f_Script_buildMachines q42 S41)) (fun p43 =>
        some (a4, p43)))
      else
        some (a4, S41)))
noncomputable def L_Reader_read_58 (k97 : Nat → Int32 → zM → Option (Int32 × zM)) : Nat → Nat → Int32 → Int32 → zM → Option (Int32 × zM)
  | 0, _, _, _, _ => none
  | n + 1, a0, a4, a5, S =>
  Option.bind (zgf S 7 a0 1) (fun x1 =>
  if a5 < x1 then
    if a4 = (0 : Int32) then
      Option.bind (zgf S 7 a0 5) (fun x2 =>
      if x2 = (3 : Int32) then
        Option.bind (zcl S 7 a0 (f_Reader_next a0 S)) (fun p3 =>
        Option.bind (zcl p3 7 a0 (f_Reader_line a0 (0 : Int32) p3)) (fun p4 =>
        L_Reader_read_58 k97 n a0 p4.1 (a5 + (1 : Int32)) p4.2))
      else
        k97 a0 a4 S)
    else
      k97 a0 a4 S
  else
    k97 a0 a4 S)
noncomputable def f_Reader_read (a0 : Nat) (a1 : Nat) (a2 : Int32) (a3 : Nat) (S : zM) : Option (Int32 × zM) :=
  Option.bind (zpr S 7 a0 0 (some a1)) (fun S1 =>
  Option.bind (zgr S1 7 a0 0) (fun q2 =>
  Option.bind (zlen S1 q2) (fun x3 =>
  Option.bind (zpf S1 7 a0 1 (zmax (0 : Int32) (zmin a2 x3))) (fun S4 =>
  Option.bind (zpf S4 7 a0 2 (0 : Int32)) (fun S5 =>
  Option.bind (zpr S5 7 a0 3 (some a3)) (fun S6 =>
  Option.bind (zpr S6 7 a0 4 none) (fun S7 =>
  Option.bind (zgr S7 7 a0 3) (fun q8 =>
  Option.bind (zcl S7 10 q8 (f_Script_drop q8 S7)) (fun p9 =>
  Option.bind (zcl p9 7 a0 (f_Reader_next a0 p9)) (fun p10 =>
  Option.bind (zcl p10 7 a0 (f_Reader_line a0 (1 : Int32) p10)) (fun p11 =>
  L_Reader_read_58 (F_Reader_read_97) zF a0 p11.1 (0 : Int32) p11.2)))))))))))
noncomputable def f_Acts_drop (a0 : Nat) (S : zM) : Option zM :=
  Option.bind (zpf S 0 a0 1 (0 : Int32)) (fun S1 =>
  some S1)
noncomputable def f_Outcomes_forget (a0 : Nat) (S : zM) : Option zM :=
  Option.bind (zgr S 4 a0 2) (fun q1 =>
  Option.bind (f_J_fill q1 (0 : Int32) S) (fun p2 =>
  some p2))
noncomputable def f_Census_forget (a0 : Nat) (S : zM) : Option zM :=
  Option.bind (zgr S 2 a0 0) (fun q1 =>
  Option.bind (zcl S 4 q1 (f_Outcomes_forget q1 S)) (fun p2 =>
  Option.bind (zgr p2 2 a0 8) (fun q3 =>
  Option.bind (f_J_fill q3 (-3 : Int32) p2) (fun p4 =>
  Option.bind (zpf p4 2 a0 10 (0 : Int32)) (fun S5 =>
  Option.bind (zpf S5 2 a0 11 (0 : Int32)) (fun S6 =>
  some S6))))))
noncomputable def f_Cl_forgetWords (a0 : Nat) (S : zM) : Option zM :=
  if (zh S a0).1 = 11 then (match zR S a0 12 with
  | some q1 => Option.bind (zgr S 11 a0 12) (fun q2 =>
    Option.bind (zcl S 2 q2 (f_Census_forget q2 S)) (fun p3 =>
    some p3))
  | none => some S) else none
noncomputable def f_Cl_answer (a0 : Nat) (a1 : Int32) (S : zM) : Option (Int32 × zM) :=
  Option.bind (zpf S 11 a0 16 (0 : Int32)) (fun S1 =>
  some (a1, S1))
noncomputable def f_Cl_script (a0 : Nat) (a1 : Int32) (S : zM) : Option (Int32 × zM) :=
  if a1 < (0 : Int32) then
    Option.bind (zcl S 11 a0 (f_Cl_refuse a0 (2 : Int32) S)) (fun p1 =>
    some (p1.1, p1.2))
  else
    Option.bind (zgf S 11 a0 13) (fun x2 =>
    if a1 ≤ x2 then
      Option.bind (zpf S 11 a0 13 (0 : Int32)) (fun S3 =>
      Option.bind (zgr S3 11 a0 1) (fun q4 =>
      Option.bind (zgr S3 11 a0 0) (fun q5 =>
      Option.bind (zgr S3 11 a0 11) (fun q6 =>
      Option.bind (zcl S3 7 q4 (f_Reader_read q4 q5 a1 q6 S3)) (fun p7 =>
      Option.bind (zpf p7.2 11 a0 14 p7.1) (fun S8 =>
      Option.bind (zgr S8 11 a0 1) (fun q9 =>
      Option.bind (zgf S8 7 q9 7) (fun x10 =>
      Option.bind (zpf S8 11 a0 15 x10) (fun S11 =>
      Option.bind (zgf S11 11 a0 14) (fun x12 =>
      if x12 = (0 : Int32) then
        Option.bind (zgr S11 11 a0 10) (fun q13 =>
        Option.bind (zgr S11 11 a0 11) (fun q14 =>
        Option.bind (zpr S11 11 a0 10 (some q14)) (fun S15 =>
        Option.bind (zpr S15 11 a0 11 (some q13)) (fun S16 =>
        Option.bind (zpz S16 11 a0 17 (0 : Int32)) (fun S17 =>
        Option.bind (zgr S17 11 a0 9) (fun q18 =>
        Option.bind (zcl S17 0 q18 (f_Acts_drop q18 S17)) (fun p19 =>
        Option.bind (zcl p19 11 a0 (f_Cl_forgetWords a0 p19)) (fun p20 =>
        Option.bind (zgr p20 11 a0 10) (fun q21 =>
        Option.bind (zgf p20 10 q21 5) (fun x22 =>
        Option.bind (zcl p20 11 a0 (f_Cl_answer a0 x22 p20)) (fun p23 =>
        some (p23.1, p23.2))))))))))))
      else
        Option.bind (zcl S11 11 a0 (f_Cl_refuse a0 (4 : Int32) S11)) (fun p24 =>
        some (p24.1, p24.2))))))))))))
    else
      Option.bind (zcl S 11 a0 (f_Cl_refuse a0 (2 : Int32) S)) (fun p25 =>
      some (p25.1, p25.2)))
noncomputable def f_Cl_fault (a0 : Nat) (S : zM) : Option (Int32 × zM) :=
  Option.bind (zgf S 11 a0 14) (fun x1 =>
  some (x1, S))
noncomputable def f_Cl_where (a0 : Nat) (S : zM) : Option (Int32 × zM) :=
  Option.bind (zgf S 11 a0 16) (fun x1 =>
  if x1 = (4 : Int32) then
    Option.bind (zgf S 11 a0 15) (fun x2 =>
    some (x2, S))
  else
    some ((-1 : Int32), S))
noncomputable def f_Cl_noScript (a0 : Nat) (S : zM) : Option (Int32 × zM) :=
  Option.bind (zgr S 11 a0 10) (fun q1 =>
  Option.bind (zgf S 10 q1 5) (fun x2 =>
  if x2 = (0 : Int32) then
    if (1 : Int32) = 0 ∨ (1 : Int32) = 1 then some ((1 : Int32), S) else none
  else
    if (0 : Int32) = 0 ∨ (0 : Int32) = 1 then some ((0 : Int32), S) else none))
noncomputable def f_Cl_about (a0 : Nat) (a1 : Int32) (S : zM) : Option (Int32 × zM) :=
  Option.bind (zcl S 11 a0 (f_Cl_noScript a0 S)) (fun p1 =>
  if p1.1 = (0 : Int32) then
    if a1 = (0 : Int32) then
      Option.bind (zgr p1.2 11 a0 10) (fun q2 =>
      Option.bind (zgf p1.2 10 q2 3) (fun x3 =>
      Option.bind (zcl p1.2 11 a0 (f_Cl_answer a0 x3 p1.2)) (fun p4 =>
      some (p4.1, p4.2))))
    else if a1 = (1 : Int32) then
      Option.bind (zgr p1.2 11 a0 10) (fun q5 =>
      Option.bind (zgf p1.2 10 q5 4) (fun x6 =>
      Option.bind (zcl p1.2 11 a0 (f_Cl_answer a0 x6 p1.2)) (fun p7 =>
      some (p7.1, p7.2))))
    else if a1 = (2 : Int32) then
      Option.bind (zgr p1.2 11 a0 10) (fun q8 =>
      Option.bind (zgf p1.2 10 q8 5) (fun x9 =>
      Option.bind (zcl p1.2 11 a0 (f_Cl_answer a0 x9 p1.2)) (fun p10 =>
      some (p10.1, p10.2))))
    else if a1 = (3 : Int32) then
      Option.bind (zgr p1.2 11 a0 10) (fun q11 =>
      Option.bind (zcl p1.2 10 q11 (f_Script_ruleCount q11 p1.2)) (fun p12 =>
      Option.bind (zcl p12.2 11 a0 (f_Cl_answer a0 p12.1 p12.2)) (fun p13 =>
      some (p13.1, p13.2))))
    else 
      Option.bind (zcl p1.2 11 a0 (f_Cl_refuse a0 (1 : Int32) p1.2)) (fun p14 =>
      some (p14.1, p14.2))
  else
    Option.bind (zcl p1.2 11 a0 (f_Cl_refuse a0 (1 : Int32) p1.2)) (fun p15 =>
    some (p15.1, p15.2)))
noncomputable def f_Cl_kind (a0 : Nat) (a1 : Int32) (S : zM) : Option (Int32 × zM) :=
  if a1 < (0 : Int32) then
    Option.bind (zcl S 11 a0 (f_Cl_refuse a0 (1 : Int32) S)) (fun p1 =>
    some (p1.1, p1.2))
  else
    Option.bind (zgr S 11 a0 10) (fun q2 =>
    Option.bind (zgf S 10 q2 4) (fun x3 =>
    if a1 < x3 then
      if a1 < (4 : Int32) then
        Option.bind (zgr S 11 a0 10) (fun q4 =>
        Option.bind (zgr S 10 q4 1) (fun q5 =>
        Option.bind (zga S 100 q5 a1) (fun x6 =>
        Option.bind (zcl S 11 a0 (f_Cl_answer a0 x6 S)) (fun p7 =>
        some (p7.1, p7.2)))))
      else
        Option.bind (zcl S 11 a0 (f_Cl_refuse a0 (1 : Int32) S)) (fun p8 =>
        some (p8.1, p8.2))
    else
      Option.bind (zcl S 11 a0 (f_Cl_refuse a0 (1 : Int32) S)) (fun p9 =>
      some (p9.1, p9.2))))
noncomputable def f_Cl_pass (a0 : Nat) (a1 : Int32) (a2 : Int32) (S : zM) : Option (Int32 × zM) :=
  Option.bind (zgr S 11 a0 10) (fun q1 =>
  Option.bind (zcl S 10 q1 (f_Script_passAt q1 a1 S)) (fun p2 =>
  match p2.1 with
  | some q3 => if a2 = (0 : Int32) then
      Option.bind (zgf p2.2 5 q3 3) (fun x4 =>
      Option.bind (zcl p2.2 11 a0 (f_Cl_answer a0 x4 p2.2)) (fun p5 =>
      some (p5.1, p5.2)))
    else if a2 = (1 : Int32) then
      Option.bind (zgf p2.2 5 q3 4) (fun x6 =>
      if x6 = (0 : Int32) then
        Option.bind (zcl p2.2 11 a0 (f_Cl_answer a0 (0 : Int32) p2.2)) (fun p7 =>
        some (p7.1, p7.2))
      else
        Option.bind (zcl p2.2 11 a0 (f_Cl_answer a0 (1 : Int32) p2.2)) (fun p8 =>
        some (p8.1, p8.2)))
    else if a2 = (2 : Int32) then
      Option.bind (zgr p2.2 5 q3 1) (fun q9 =>
      Option.bind (zgf p2.2 3 q9 6) (fun x10 =>
      Option.bind (zcl p2.2 11 a0 (f_Cl_answer a0 x10 p2.2)) (fun p11 =>
      some (p11.1, p11.2))))
    else 
      Option.bind (zcl p2.2 11 a0 (f_Cl_refuse a0 (1 : Int32) p2.2)) (fun p12 =>
      some (p12.1, p12.2))
  | none => Option.bind (zcl p2.2 11 a0 (f_Cl_refuse a0 (1 : Int32) p2.2)) (fun p13 =>
    some (p13.1, p13.2))))
noncomputable def f_Script_ruleAt (a0 : Nat) (a1 : Int32) (a2 : Int32) (S : zM) : Option (Option Nat × zM) :=
  Option.bind (zcl S 10 a0 (f_Script_passAt a0 a1 S)) (fun p1 =>
  match p1.1 with
  | some q2 => Option.bind (zcl p1.2 5 q2 (f_Pass_ruleAt q2 a2 p1.2)) (fun p3 =>
    match p3.1 with
    | some q4 => some (some q4, p3.2)
    | none => some (none, p3.2))
  | none => some (none, p1.2))
noncomputable def f_Cl_bitsBelow (a0 : Int32) (S : zM) : Option (Int32 × zM) :=
  some ((((1 : Int32) <<< (a0 &&& 31)) - (1 : Int32)), S)
noncomputable def f_Pass_serving (a0 : Nat) (S : zM) : Option (Int32 × zM) :=
  Option.bind (zgf S 5 a0 3) (fun x1 =>
  Option.bind (f_Cl_bitsBelow x1 S) (fun p2 =>
  Option.bind (zgf p2.2 5 a0 5) (fun x3 =>
  some ((p2.1 &&& (x3 ^^^ (-1 : Int32))), p2.2))))
noncomputable def f_Pass_serves (a0 : Nat) (a1 : Int32) (S : zM) : Option (Int32 × zM) :=
  Option.bind (zcl S 5 a0 (f_Pass_serving a0 S)) (fun p1 =>
  if ((p1.1 >>> (a1 &&& 31)) &&& (1 : Int32)) = (1 : Int32) then
    if (1 : Int32) = 0 ∨ (1 : Int32) = 1 then some ((1 : Int32), p1.2) else none
  else
    if (0 : Int32) = 0 ∨ (0 : Int32) = 1 then some ((0 : Int32), p1.2) else none)
noncomputable def f_Script_isAside (a0 : Nat) (a1 : Int32) (a2 : Int32) (S : zM) : Option (Int32 × zM) :=
  Option.bind (zcl S 10 a0 (f_Script_passAt a0 a1 S)) (fun p1 =>
  match p1.1 with
  | some q2 => Option.bind (zcl p1.2 5 q2 (f_Pass_ruleAt q2 a2 p1.2)) (fun p3 =>
    match p3.1 with
    | some q4 => Option.bind (zcl p3.2 5 q2 (f_Pass_serves q2 a2 p3.2)) (fun p5 =>
      if p5.1 = (0 : Int32) then
        if (1 : Int32) = 0 ∨ (1 : Int32) = 1 then some ((1 : Int32), p5.2) else none
      else
        if (0 : Int32) = 0 ∨ (0 : Int32) = 1 then some ((0 : Int32), p5.2) else none)
    | none => if (0 : Int32) = 0 ∨ (0 : Int32) = 1 then some ((0 : Int32), p3.2) else none)
  | none => if (0 : Int32) = 0 ∨ (0 : Int32) = 1 then some ((0 : Int32), p1.2) else none)
noncomputable def f_Cl_rule (a0 : Nat) (a1 : Int32) (a2 : Int32) (a3 : Int32) (S : zM) : Option (Int32 × zM) :=
  Option.bind (zgr S 11 a0 10) (fun q1 =>
  Option.bind (zcl S 10 q1 (f_Script_ruleAt q1 a1 a2 S)) (fun p2 =>
  match p2.1 with
  | some q3 => if a3 = (0 : Int32) then
      Option.bind (zgr p2.2 9 q3 0) (fun q4 =>
      Option.bind (zgf p2.2 8 q4 1) (fun x5 =>
      Option.bind (zcl p2.2 11 a0 (f_Cl_answer a0 x5 p2.2)) (fun p6 =>
      some (p6.1, p6.2))))
    else if a3 = (1 : Int32) then
      Option.bind (zgr p2.2 9 q3 1) (fun q7 =>
      Option.bind (zgf p2.2 8 q7 1) (fun x8 =>
      Option.bind (zcl p2.2 11 a0 (f_Cl_answer a0 x8 p2.2)) (fun p9 =>
      some (p9.1, p9.2))))
    else if a3 = (2 : Int32) then
      Option.bind (zgf p2.2 9 q3 2) (fun x10 =>
      Option.bind (zcl p2.2 11 a0 (f_Cl_answer a0 x10 p2.2)) (fun p11 =>
      some (p11.1, p11.2)))
    else if a3 = (3 : Int32) then
      Option.bind (zgf p2.2 9 q3 3) (fun x12 =>
      Option.bind (zcl p2.2 11 a0 (f_Cl_answer a0 x12 p2.2)) (fun p13 =>
      some (p13.1, p13.2)))
    else if a3 = (4 : Int32) then
      Option.bind (zgr p2.2 11 a0 10) (fun q14 =>
      Option.bind (zcl p2.2 10 q14 (f_Script_isAside q14 a1 a2 p2.2)) (fun p15 =>
      if p15.1 = (0 : Int32) then
        Option.bind (zcl p15.2 11 a0 (f_Cl_answer a0 (0 : Int32) p15.2)) (fun p16 =>
        some (p16.1, p16.2))
      else
        Option.bind (zcl p15.2 11 a0 (f_Cl_answer a0 (1 : Int32) p15.2)) (fun p17 =>
        some (p17.1, p17.2))))
    else 
      Option.bind (zcl p2.2 11 a0 (f_Cl_refuse a0 (1 : Int32) p2.2)) (fun p18 =>
      some (p18.1, p18.2))
  | none => Option.bind (zcl p2.2 11 a0 (f_Cl_refuse a0 (1 : Int32) p2.2)) (fun p19 =>
    some (p19.1, p19.2))))
noncomputable def f_Cl_answerLetter (a0 : Nat) (a1 : Nat) (a2 : Int32) (S : zM) : Option (Int32 × zM) :=
  Option.bind (zcl S 8 a1 (f_Row_at a1 a2 S)) (fun p1 =>
  if p1.1 = (-1 : Int32) then
    Option.bind (zcl p1.2 11 a0 (f_Cl_refuse a0 (1 : Int32) p1.2)) (fun p2 =>
    some (p2.1, p2.2))
  else
    Option.bind (zcl p1.2 11 a0 (f_Cl_answer a0 p1.1 p1.2)) (fun p3 =>
    some (p3.1, p3.2)))
noncomputable def f_Cl_letter (a0 : Nat) (a1 : Int32) (a2 : Int32) (a3 : Int32) (a4 : Int32) (S : zM) : Option (Int32 × zM) :=
  Option.bind (zgr S 11 a0 10) (fun q1 =>
  Option.bind (zcl S 10 q1 (f_Script_ruleAt q1 a1 a2 S)) (fun p2 =>
  match p2.1 with
  | some q3 => if a3 < (0 : Int32) then
      Option.bind (zcl p2.2 11 a0 (f_Cl_refuse a0 (1 : Int32) p2.2)) (fun p4 =>
      some (p4.1, p4.2))
    else
      if a3 ≤ (1 : Int32) then
        if a3 = (0 : Int32) then
          Option.bind (zgr p2.2 9 q3 0) (fun q5 =>
          Option.bind (zcl p2.2 11 a0 (f_Cl_answerLetter a0 q5 a4 p2.2)) (fun p6 =>
          some (p6.1, p6.2)))
        else
          Option.bind (zgr p2.2 9 q3 1) (fun q7 =>
          Option.bind (zcl p2.2 11 a0 (f_Cl_answerLetter a0 q7 a4 p2.2)) (fun p8 =>
          some (p8.1, p8.2)))
      else
        Option.bind (zcl p2.2 11 a0 (f_Cl_refuse a0 (1 : Int32) p2.2)) (fun p9 =>
        some (p9.1, p9.2))
  | none => Option.bind (zcl p2.2 11 a0 (f_Cl_refuse a0 (1 : Int32) p2.2)) (fun p10 =>
    some (p10.1, p10.2))))
noncomputable def f_Machine_has (a0 : Nat) (a1 : Int32) (S : zM) : Option (Int32 × zM) :=
  if a1 < (0 : Int32) then
    if (0 : Int32) = 0 ∨ (0 : Int32) = 1 then some ((0 : Int32), S) else none
  else
    Option.bind (zgf S 3 a0 6) (fun x1 =>
    if a1 < x1 then
      if a1 < (33 : Int32) then
        if (1 : Int32) = 0 ∨ (1 : Int32) = 1 then some ((1 : Int32), S) else none
      else
        if (0 : Int32) = 0 ∨ (0 : Int32) = 1 then some ((0 : Int32), S) else none
    else
      if (0 : Int32) = 0 ∨ (0 : Int32) = 1 then some ((0 : Int32), S) else none)
noncomputable def f_Cl_machineWith (a0 : Nat) (a1 : Int32) (a2 : Int32) (S : zM) : Option (Option Nat × zM) :=
  Option.bind (zgr S 11 a0 10) (fun q1 =>
  Option.bind (zcl S 10 q1 (f_Script_passAt q1 a1 S)) (fun p2 =>
  match p2.1 with
  | some q3 => Option.bind (zgr p2.2 5 q3 1) (fun q4 =>
    Option.bind (zcl p2.2 3 q4 (f_Machine_has q4 a2 p2.2)) (fun p5 =>
    if p5.1 = (0 : Int32) then
      some (none, p5.2)
    else
      Option.bind (zgr p5.2 5 q3 1) (fun q6 =>
      some (some q6, p5.2))))
  | none => some (none, p2.2)))
noncomputable def f_Machine_step (a0 : Nat) (a1 : Int32) (a2 : Int32) (S : zM) : Option (Int32 × zM) :=
  Option.bind (zcl S 3 a0 (f_Machine_has a0 a1 S)) (fun p1 =>
  if p1.1 = (0 : Int32) then
    some ((-2 : Int32), p1.2)
  else
    if a2 < (0 : Int32) then
      some ((-2 : Int32), p1.2)
    else
      if a2 < (8 : Int32) then
        Option.bind (zgr p1.2 3 a0 0) (fun q2 =>
        Option.bind (zga p1.2 100 q2 ((a1 * (8 : Int32)) + a2)) (fun x3 =>
        some (x3, p1.2)))
      else
        some ((-2 : Int32), p1.2))
noncomputable def f_Cl_goes (a0 : Nat) (a1 : Int32) (a2 : Int32) (a3 : Int32) (S : zM) : Option (Int32 × zM) :=
  Option.bind (zcl S 11 a0 (f_Cl_machineWith a0 a1 a2 S)) (fun p1 =>
  match p1.1 with
  | some q2 => if a3 < (0 : Int32) then
      Option.bind (zcl p1.2 11 a0 (f_Cl_refuse a0 (1 : Int32) p1.2)) (fun p3 =>
      some (p3.1, p3.2))
    else
      if a3 < (8 : Int32) then
        Option.bind (zcl p1.2 3 q2 (f_Machine_step q2 a2 a3 p1.2)) (fun p4 =>
        Option.bind (zcl p4.2 11 a0 (f_Cl_answer a0 p4.1 p4.2)) (fun p5 =>
        some (p5.1, p5.2)))
      else
        Option.bind (zcl p1.2 11 a0 (f_Cl_refuse a0 (1 : Int32) p1.2)) (fun p6 =>
        some (p6.1, p6.2))
  | none => Option.bind (zcl p1.2 11 a0 (f_Cl_refuse a0 (1 : Int32) p1.2)) (fun p7 =>
    some (p7.1, p7.2)))
noncomputable def f_Machine_depthOf (a0 : Nat) (a1 : Int32) (S : zM) : Option (Int32 × zM) :=
  Option.bind (zcl S 3 a0 (f_Machine_has a0 a1 S)) (fun p1 =>
  if p1.1 = (0 : Int32) then
    some ((-1 : Int32), p1.2)
  else
    Option.bind (zgr p1.2 3 a0 1) (fun q2 =>
    Option.bind (zga p1.2 100 q2 a1) (fun x3 =>
    some (x3, p1.2))))
noncomputable def f_Cl_depth (a0 : Nat) (a1 : Int32) (a2 : Int32) (S : zM) : Option (Int32 × zM) :=
  Option.bind (zcl S 11 a0 (f_Cl_machineWith a0 a1 a2 S)) (fun p1 =>
  match p1.1 with
  | some q2 => Option.bind (zcl p1.2 3 q2 (f_Machine_depthOf q2 a2 p1.2)) (fun p3 =>
    Option.bind (zcl p3.2 11 a0 (f_Cl_answer a0 p3.1 p3.2)) (fun p4 =>
    some (p4.1, p4.2)))
  | none => Option.bind (zcl p1.2 11 a0 (f_Cl_refuse a0 (1 : Int32) p1.2)) (fun p5 =>
    some (p5.1, p5.2)))
noncomputable def f_Machine_endingAt (a0 : Nat) (a1 : Int32) (S : zM) : Option (Int32 × zM) :=
  Option.bind (zcl S 3 a0 (f_Machine_has a0 a1 S)) (fun p1 =>
  if p1.1 = (0 : Int32) then
    some ((0 : Int32), p1.2)
  else
    Option.bind (zgr p1.2 3 a0 2) (fun q2 =>
    Option.bind (zga p1.2 100 q2 a1) (fun x3 =>
    some (x3, p1.2))))
noncomputable def f_Cl_ends (a0 : Nat) (a1 : Int32) (a2 : Int32) (S : zM) : Option (Int32 × zM) :=
  Option.bind (zcl S 11 a0 (f_Cl_machineWith a0 a1 a2 S)) (fun p1 =>
  match p1.1 with
  | some q2 => Option.bind (zcl p1.2 3 q2 (f_Machine_endingAt q2 a2 p1.2)) (fun p3 =>
    Option.bind (zcl p3.2 11 a0 (f_Cl_answer a0 p3.1 p3.2)) (fun p4 =>
    some (p4.1, p4.2)))
  | none => Option.bind (zcl p1.2 11 a0 (f_Cl_refuse a0 (1 : Int32) p1.2)) (fun p5 =>
    some (p5.1, p5.2)))
noncomputable def f_Pieces_put (a0 : Nat) (a1 : Int32) (a2 : Nat) (S : zM) : Option zM :=
  Option.bind (zgf S 6 a0 5) (fun x1 =>
  if x1 < (16 : Int32) then
    Option.bind (zgr S 6 a0 0) (fun q2 =>
    Option.bind (zgf S 6 a0 5) (fun x3 =>
    Option.bind (zpa S q2 x3 a1) (fun S4 =>
    Option.bind (zgr S4 6 a0 1) (fun q5 =>
    Option.bind (zgf S4 6 a0 5) (fun x6 =>
    Option.bind (zpo S4 8 q5 x6 a2) (fun S7 =>
    Option.bind (zgf S7 6 a0 5) (fun x8 =>
    Option.bind (zpf S7 6 a0 5 (x8 + (1 : Int32))) (fun S9 =>
    some S9))))))))
  else
    some S)
noncomputable def L_Pass_alwaysTakes_2 : Nat → Nat → Int32 → Int32 → zM → Option (Int32 × zM)
  | 0, _, _, _, _ => none
  | n + 1, a0, a1, a2, S =>
  Option.bind (zgf S 5 a0 3) (fun x1 =>
  if a2 < x1 then
    Option.bind (zcl S 5 a0 (f_Pass_ruleAt a0 a2 S)) (fun p2 =>
    match p2.1 with
    | some q3 => Option.bind (zcl p2.2 5 a0 (f_Pass_serves a0 a2 p2.2)) (fun p4 =>
      if p4.1 = (0 : Int32) then
        L_Pass_alwaysTakes_2 n a0 a1 (a2 + (1 : Int32)) p4.2
      else
        Option.bind (zgr p4.2 9 q3 0) (fun q5 =>
        Option.bind (zgf p4.2 8 q5 1) (fun x6 =>
        if x6 = (1 : Int32) then
          Option.bind (zgr p4.2 9 q3 0) (fun q7 =>
          Option.bind (zcl p4.2 8 q7 (f_Row_at q7 (0 : Int32) p4.2)) (fun p8 =>
          if p8.1 = a1 then
            Option.bind (zgf p8.2 9 q3 2) (fun x9 =>
            if x9 = (511 : Int32) then
              Option.bind (zgf p8.2 9 q3 3) (fun x10 =>
              if x10 = (511 : Int32) then
                if (1 : Int32) = 0 ∨ (1 : Int32) = 1 then some ((1 : Int32), p8.2) else none
              else
                L_Pass_alwaysTakes_2 n a0 a1 (a2 + (1 : Int32)) p8.2)
            else
              L_Pass_alwaysTakes_2 n a0 a1 (a2 + (1 : Int32)) p8.2)
          else
            L_Pass_alwaysTakes_2 n a0 a1 (a2 + (1 : Int32)) p8.2))
        else
          L_Pass_alwaysTakes_2 n a0 a1 (a2 + (1 : Int32)) p4.2)))
    | none => L_Pass_alwaysTakes_2 n a0 a1 (a2 + (1 : Int32)) p2.2)
  else
    if (0 : Int32) = 0 ∨ (0 : Int32) = 1 then some ((0 : Int32), S) else none)
noncomputable def f_Pass_alwaysTakes (a0 : Nat) (a1 : Int32) (S : zM) : Option (Int32 × zM) :=
  L_Pass_alwaysTakes_2 zF a0 a1 (0 : Int32) S
noncomputable def L_Pieces_gather_50 : Nat → Nat → Nat → Int32 → zM → Option zM
  | 0, _, _, _, _ => none
  | n + 1, a0, a1, a2, S =>
  if a2 < (8 : Int32) then
    Option.bind (zcl S 5 a1 (f_Pass_alwaysTakes a1 a2 S)) (fun p1 =>
    if p1.1 = (0 : Int32) then
      Option.bind (zgr p1.2 6 a0 2) (fun q2 =>
      Option.bind (zgo p1.2 118 q2 a2) (fun q3 =>
      Option.bind (zcl p1.2 6 a0 (f_Pieces_put a0 ((8 : Int32) + a2) q3 p1.2)) (fun p4 =>
      L_Pieces_gather_50 n a0 a1 (a2 + (1 : Int32)) p4)))
    else
      L_Pieces_gather_50 n a0 a1 (a2 + (1 : Int32)) p1.2)
  else
    some S
noncomputable def F_Pieces_gather_48 (k50 : Nat → Nat → Int32 → zM → Option zM) (a0 : Nat) (a1 : Nat) (S : zM) : Option zM :=
  k50 a0 a1 (0 : Int32) S
noncomputable def L_Pieces_gather_7 (k48 : Nat → Nat → zM → Option zM) : Nat → Nat → Nat → Int32 → zM → Option zM
  | 0, _, _, _, _ => none
  | n + 1, a0, a1, a2, S =>
  Option.bind (zgf S 5 a1 3) (fun x1 =>
  if a2 < x1 then
    Option.bind (zcl S 5 a1 (f_Pass_ruleAt a1 a2 S)) (fun p2 =>
    match p2.1 with
    | some q3 => Option.bind (zcl p2.2 5 a1 (f_Pass_serves a1 a2 p2.2)) (fun p4 =>
      if p4.1 = (0 : Int32) then
        L_Pieces_gather_7 k48 n a0 a1 (a2 + (1 : Int32)) p4.2
      else
        Option.bind (zgr p4.2 9 q3 1) (fun q5 =>
        Option.bind (zcl p4.2 6 a0 (f_Pieces_put a0 a2 q5 p4.2)) (fun p6 =>
        L_Pieces_gather_7 k48 n a0 a1 (a2 + (1 : Int32)) p6)))
    | none => L_Pieces_gather_7 k48 n a0 a1 (a2 + (1 : Int32)) p2.2)
  else
    k48 a0 a1 S)
noncomputable def f_Pieces_gather (a0 : Nat) (a1 : Nat) (S : zM) : Option zM :=
  Option.bind (zpf S 6 a0 5 (0 : Int32)) (fun S1 =>
  L_Pieces_gather_7 (F_Pieces_gather_48 (L_Pieces_gather_50 zF)) zF a0 a1 (0 : Int32) S1)
noncomputable def f_Cl_gatherPieces (a0 : Nat) (a1 : Int32) (S : zM) : Option (Int32 × zM) :=
  Option.bind (zgr S 11 a0 10) (fun q1 =>
  Option.bind (zcl S 10 q1 (f_Script_passAt q1 a1 S)) (fun p2 =>
  match p2.1 with
  | some q3 => Option.bind (zgr p2.2 11 a0 8) (fun q4 =>
    Option.bind (zcl p2.2 6 q4 (f_Pieces_gather q4 q3 p2.2)) (fun p5 =>
    if (1 : Int32) = 0 ∨ (1 : Int32) = 1 then some ((1 : Int32), p5) else none))
  | none => if (0 : Int32) = 0 ∨ (0 : Int32) = 1 then some ((0 : Int32), p2.2) else none))
noncomputable def f_Cl_pieces (a0 : Nat) (a1 : Int32) (S : zM) : Option (Int32 × zM) :=
  Option.bind (zcl S 11 a0 (f_Cl_gatherPieces a0 a1 S)) (fun p1 =>
  if p1.1 = (0 : Int32) then
    Option.bind (zcl p1.2 11 a0 (f_Cl_refuse a0 (1 : Int32) p1.2)) (fun p2 =>
    some (p2.1, p2.2))
  else
    Option.bind (zgr p1.2 11 a0 8) (fun q3 =>
    Option.bind (zgf p1.2 6 q3 5) (fun x4 =>
    Option.bind (zcl p1.2 11 a0 (f_Cl_answer a0 x4 p1.2)) (fun p5 =>
    some (p5.1, p5.2)))))
noncomputable def f_Pieces_whatOf (a0 : Nat) (a1 : Int32) (S : zM) : Option (Int32 × zM) :=
  if a1 < (0 : Int32) then
    some ((-1 : Int32), S)
  else
    Option.bind (zgf S 6 a0 5) (fun x1 =>
    if a1 < x1 then
      if a1 < (16 : Int32) then
        Option.bind (zgr S 6 a0 0) (fun q2 =>
        Option.bind (zga S 100 q2 a1) (fun x3 =>
        some (x3, S)))
      else
        some ((-1 : Int32), S)
    else
      some ((-1 : Int32), S))
noncomputable def f_Cl_piece (a0 : Nat) (a1 : Int32) (a2 : Int32) (S : zM) : Option (Int32 × zM) :=
  Option.bind (zcl S 11 a0 (f_Cl_gatherPieces a0 a1 S)) (fun p1 =>
  if p1.1 = (0 : Int32) then
    Option.bind (zcl p1.2 11 a0 (f_Cl_refuse a0 (1 : Int32) p1.2)) (fun p2 =>
    some (p2.1, p2.2))
  else
    if a2 < (0 : Int32) then
      Option.bind (zcl p1.2 11 a0 (f_Cl_refuse a0 (1 : Int32) p1.2)) (fun p3 =>
      some (p3.1, p3.2))
    else
      Option.bind (zgr p1.2 11 a0 8) (fun q4 =>
      Option.bind (zgf p1.2 6 q4 5) (fun x5 =>
      if a2 < x5 then
        Option.bind (zgr p1.2 11 a0 8) (fun q6 =>
        Option.bind (zcl p1.2 6 q6 (f_Pieces_whatOf q6 a2 p1.2)) (fun p7 =>
        Option.bind (zcl p7.2 11 a0 (f_Cl_answer a0 p7.1 p7.2)) (fun p8 =>
        some (p8.1, p8.2))))
      else
        Option.bind (zcl p1.2 11 a0 (f_Cl_refuse a0 (1 : Int32) p1.2)) (fun p9 =>
        some (p9.1, p9.2)))))
noncomputable def f_Pieces_lettersOf (a0 : Nat) (a1 : Int32) (S : zM) : Option (Option Nat × zM) :=
  if a1 < (0 : Int32) then
    some (none, S)
  else
    Option.bind (zgf S 6 a0 5) (fun x1 =>
    if a1 < x1 then
      if a1 < (16 : Int32) then
        Option.bind (zgr S 6 a0 1) (fun q2 =>
        if (zh S q2).1 = 118 ∧ zinb a1 (zh S q2).2 = true then (match zR S q2 (a1).toNatClampNeg with
        | some q3 => some (some q3, S)
        | none => some (none, S)) else none)
      else
        some (none, S)
    else
      some (none, S))
noncomputable def L_Row_agrees_2 : Nat → Nat → Int32 → Nat → Int32 → zM → Option (Int32 × zM)
  | 0, _, _, _, _, _ => none
  | n + 1, a0, a1, a2, a3, S =>
  Option.bind (zgf S 8 a2 1) (fun x1 =>
  if a3 < x1 then
    Option.bind (zgf S 8 a0 1) (fun x2 =>
    if (a1 + a3) < x2 then
      Option.bind (zcl S 8 a0 (f_Row_at a0 (a1 + a3) S)) (fun p3 =>
      Option.bind (zcl p3.2 8 a2 (f_Row_at a2 a3 p3.2)) (fun p4 =>
      if p3.1 = p4.1 then
        L_Row_agrees_2 n a0 a1 a2 (a3 + (1 : Int32)) p4.2
      else
        if (0 : Int32) = 0 ∨ (0 : Int32) = 1 then some ((0 : Int32), p4.2) else none))
    else
      if (1 : Int32) = 0 ∨ (1 : Int32) = 1 then some ((1 : Int32), S) else none)
  else
    if (1 : Int32) = 0 ∨ (1 : Int32) = 1 then some ((1 : Int32), S) else none)
noncomputable def f_Row_agrees (a0 : Nat) (a1 : Int32) (a2 : Nat) (S : zM) : Option (Int32 × zM) :=
  L_Row_agrees_2 zF a0 a1 a2 (0 : Int32) S
noncomputable def f_Pieces_reach (a0 : Nat) (a1 : Int32) (a2 : Int32) (a3 : Int32) (S : zM) : Option zM :=
  if ((a1 * (4 : Int32)) + a2) < (0 : Int32) then
    some S
  else
    Option.bind (zgr S 6 a0 3) (fun q1 =>
    Option.bind (zlen S q1) (fun x2 =>
    if ((a1 * (4 : Int32)) + a2) < x2 then
      Option.bind (zgr S 6 a0 3) (fun q3 =>
      Option.bind (zga S 100 q3 ((a1 * (4 : Int32)) + a2)) (fun x4 =>
      if a3 < x4 then
        Option.bind (zgr S 6 a0 3) (fun q5 =>
        Option.bind (zpa S q5 ((a1 * (4 : Int32)) + a2) a3) (fun S6 =>
        Option.bind (zpz S6 6 a0 7 (1 : Int32)) (fun S7 =>
        some S7)))
      else
        some S))
    else
      some S))
noncomputable def f_Pieces_follow (a0 : Nat) (a1 : Int32) (a2 : Int32) (a3 : Int32) (a4 : Int32) (S : zM) : Option zM :=
  Option.bind (zcl S 6 a0 (f_Pieces_lettersOf a0 a1 S)) (fun p1 =>
  match p1.1 with
  | some q2 => Option.bind (zcl p1.2 6 a0 (f_Pieces_lettersOf a0 a4 p1.2)) (fun p3 =>
    match p3.1 with
    | some q4 => Option.bind (zcl p3.2 8 q2 (f_Row_agrees q2 a2 q4 p3.2)) (fun p5 =>
      if p5.1 = (0 : Int32) then
        some p5.2
      else
        Option.bind (zgf p5.2 8 q2 1) (fun x6 =>
        Option.bind (zgf p5.2 8 q4 1) (fun x7 =>
        if x7 = (x6 - a2) then
          Option.bind (zgf p5.2 6 a0 6) (fun x8 =>
          Option.bind (zpf p5.2 6 a0 6 (zmin x8 a3)) (fun S9 =>
          some S9))
        else
          Option.bind (zgf p5.2 8 q4 1) (fun x10 =>
          if x10 < (x6 - a2) then
            Option.bind (zgf p5.2 8 q4 1) (fun x11 =>
            Option.bind (zcl p5.2 6 a0 (f_Pieces_reach a0 a1 (a2 + x11) a3 p5.2)) (fun p12 =>
            some p12))
          else
            Option.bind (zgf p5.2 8 q4 1) (fun x13 =>
            Option.bind (zcl p5.2 6 a0 (f_Pieces_reach a0 a4 (x6 - a2) ((a3 + x13) - (x6 - a2)) p5.2)) (fun p14 =>
            some p14))))))
    | none => some p3.2)
  | none => Option.bind (zcl p1.2 6 a0 (f_Pieces_lettersOf a0 a4 p1.2)) (fun p15 =>
    match p15.1 with
    | some q16 => some p15.2
    | none => some p15.2))
noncomputable def F_Pieces_followAll_57 (k2 : Nat → Int32 → zM → Option zM) (a0 : Nat) (a1 : Int32) (S : zM) : Option zM :=
  k2 a0 (a1 + (1 : Int32)) S
noncomputable def L_Pieces_followAll_26 (k57 : Nat → Int32 → zM → Option zM) : Nat → Nat → Int32 → Int32 → zM → Option zM
  | 0, _, _, _, _ => none
  | n + 1, a0, a1, a2, S =>
  Option.bind (zgf S 6 a0 5) (fun x1 =>
  if a2 < x1 then
    if (4 : Int32) = 0 then none else
    if (4 : Int32) = 0 then none else
    Option.bind (zgr S 6 a0 3) (fun q2 =>
    Option.bind (zga S 100 q2 a1) (fun x3 =>
    Option.bind (zcl S 6 a0 (f_Pieces_follow a0 (a1 / (4 : Int32)) (a1 - a1 / (4 : Int32) * (4 : Int32)) x3 a2 S)) (fun p4 =>
    L_Pieces_followAll_26 k57 n a0 a1 (a2 + (1 : Int32)) p4)))
  else
    k57 a0 a1 S)
noncomputable def L_Pieces_followAll_2 : Nat → Nat → Int32 → zM → Option zM
  | 0, _, _, _ => none
  | n + 1, a0, a1, S =>
  Option.bind (zgr S 6 a0 3) (fun q1 =>
  Option.bind (zlen S q1) (fun x2 =>
  if a1 < x2 then
    Option.bind (zgr S 6 a0 3) (fun q3 =>
    Option.bind (zga S 100 q3 a1) (fun x4 =>
    Option.bind (zgf S 6 a0 6) (fun x5 =>
    if x4 < x5 then
      (L_Pieces_followAll_26 (F_Pieces_followAll_57 (L_Pieces_followAll_2 n)) zF) a0 a1 (0 : Int32) S
    else
      (F_Pieces_followAll_57 (L_Pieces_followAll_2 n)) a0 a1 S)))
  else
    some S))
noncomputable def f_Pieces_followAll (a0 : Nat) (S : zM) : Option zM :=
  L_Pieces_followAll_2 zF a0 (0 : Int32) S
noncomputable def L_Pieces_fewestReadTwice_89 : Nat → Nat → Int32 → zM → Option (Int32 × zM)
  | 0, _, _, _ => none
  | n + 1, a0, a1, S =>
  Option.bind (zgr S 6 a0 3) (fun q1 =>
  Option.bind (zlen S q1) (fun x2 =>
  if a1 < x2 then
    Option.bind (zgf S 6 a0 7) (fun x3 =>
    if x3 = (0 : Int32) then
      Option.bind (zgf S 6 a0 6) (fun x4 =>
      if x4 = (1000000 : Int32) then
        some ((-2 : Int32), S)
      else
        Option.bind (zgf S 6 a0 6) (fun x5 =>
        some (x5, S)))
    else
      Option.bind (zpz S 6 a0 7 (0 : Int32)) (fun S6 =>
      Option.bind (zcl S6 6 a0 (f_Pieces_followAll a0 S6)) (fun p7 =>
      L_Pieces_fewestReadTwice_89 n a0 (a1 + (1 : Int32)) p7)))
  else
    Option.bind (zgf S 6 a0 6) (fun x8 =>
    if x8 = (1000000 : Int32) then
      some ((-2 : Int32), S)
    else
      Option.bind (zgf S 6 a0 6) (fun x9 =>
      some (x9, S)))))
noncomputable def F_Pieces_fewestReadTwice_82 (k89 : Nat → Int32 → zM → Option (Int32 × zM)) (a0 : Nat) (S : zM) : Option (Int32 × zM) :=
  Option.bind (zpz S 6 a0 7 (1 : Int32)) (fun S1 =>
  k89 a0 (0 : Int32) S1)
noncomputable def F_Pieces_fewestReadTwice_76 (k17 : Nat → Int32 → zM → Option (Int32 × zM)) (a0 : Nat) (a1 : Int32) (S : zM) : Option (Int32 × zM) :=
  k17 a0 (a1 + (1 : Int32)) S
noncomputable def L_Pieces_fewestReadTwice_46 (k76 : Nat → Int32 → zM → Option (Int32 × zM)) : Nat → Nat → Int32 → Nat → Int32 → zM → Option (Int32 × zM)
  | 0, _, _, _, _, _ => none
  | n + 1, a0, a1, a2, a3, S =>
  Option.bind (zgf S 6 a0 5) (fun x1 =>
  if a3 < x1 then
    if a3 = a1 then
      L_Pieces_fewestReadTwice_46 k76 n a0 a1 a2 (a3 + (1 : Int32)) S
    else
      Option.bind (zgf S 8 a2 1) (fun x2 =>
      Option.bind (zcl S 6 a0 (f_Pieces_follow a0 a1 (0 : Int32) x2 a3 S)) (fun p3 =>
      L_Pieces_fewestReadTwice_46 k76 n a0 a1 a2 (a3 + (1 : Int32)) p3))
  else
    k76 a0 a1 S)
noncomputable def L_Pieces_fewestReadTwice_17 (k82 : Nat → zM → Option (Int32 × zM)) : Nat → Nat → Int32 → zM → Option (Int32 × zM)
  | 0, _, _, _ => none
  | n + 1, a0, a1, S =>
  Option.bind (zgf S 6 a0 5) (fun x1 =>
  if a1 < x1 then
    Option.bind (zcl S 6 a0 (f_Pieces_lettersOf a0 a1 S)) (fun p2 =>
    match p2.1 with
    | some q3 => Option.bind (zgf p2.2 8 q3 1) (fun x4 =>
      if x4 = (0 : Int32) then
        some ((0 : Int32), p2.2)
      else
        (L_Pieces_fewestReadTwice_46 (F_Pieces_fewestReadTwice_76 (L_Pieces_fewestReadTwice_17 k82 n)) zF) a0 a1 q3 (0 : Int32) p2.2)
    | none => some ((0 : Int32), p2.2))
  else
    k82 a0 S)
noncomputable def f_Pieces_fewestReadTwice (a0 : Nat) (S : zM) : Option (Int32 × zM) :=
  Option.bind (zgr S 6 a0 3) (fun q1 =>
  Option.bind (f_J_fill q1 (1000000 : Int32) S) (fun p2 =>
  Option.bind (zpf p2 6 a0 6 (1000000 : Int32)) (fun S3 =>
  L_Pieces_fewestReadTwice_17 (F_Pieces_fewestReadTwice_82 (L_Pieces_fewestReadTwice_89 zF)) zF a0 (0 : Int32) S3)))
noncomputable def f_Cl_clear (a0 : Nat) (a1 : Int32) (S : zM) : Option (Int32 × zM) :=
  Option.bind (zcl S 11 a0 (f_Cl_gatherPieces a0 a1 S)) (fun p1 =>
  if p1.1 = (0 : Int32) then
    Option.bind (zcl p1.2 11 a0 (f_Cl_refuse a0 (1 : Int32) p1.2)) (fun p2 =>
    some (p2.1, p2.2))
  else
    Option.bind (zgr p1.2 11 a0 8) (fun q3 =>
    Option.bind (zcl p1.2 6 q3 (f_Pieces_fewestReadTwice q3 p1.2)) (fun p4 =>
    if p4.1 = (-2 : Int32) then
      Option.bind (zcl p4.2 11 a0 (f_Cl_answer a0 (1 : Int32) p4.2)) (fun p5 =>
      some (p5.1, p5.2))
    else
      Option.bind (zcl p4.2 11 a0 (f_Cl_answer a0 (0 : Int32) p4.2)) (fun p6 =>
      some (p6.1, p6.2)))))
noncomputable def f_Cl_unclear (a0 : Nat) (a1 : Int32) (S : zM) : Option (Int32 × zM) :=
  Option.bind (zcl S 11 a0 (f_Cl_gatherPieces a0 a1 S)) (fun p1 =>
  if p1.1 = (0 : Int32) then
    Option.bind (zcl p1.2 11 a0 (f_Cl_refuse a0 (1 : Int32) p1.2)) (fun p2 =>
    some (p2.1, p2.2))
  else
    Option.bind (zgr p1.2 11 a0 8) (fun q3 =>
    Option.bind (zcl p1.2 6 q3 (f_Pieces_fewestReadTwice q3 p1.2)) (fun p4 =>
    Option.bind (zcl p4.2 11 a0 (f_Cl_answer a0 p4.1 p4.2)) (fun p5 =>
    some (p5.1, p5.2)))))
noncomputable def L_Row_takeWord_7 : Nat → Nat → Int64 → Int32 → zM → Option (Int32 × zM)
  | 0, _, _, _, _ => none
  | n + 1, a0, a1, a3, S =>
  if a3 < (0 : Int32) then
    Option.bind (zgf S 8 a0 1) (fun x1 =>
    if x1 ≤ (0 : Int32) then
      if (0 : Int32) = 0 ∨ (0 : Int32) = 1 then some ((0 : Int32), S) else none
    else
      if (1 : Int32) = 0 ∨ (1 : Int32) = 1 then some ((1 : Int32), S) else none)
  else
    if ((((a1).toUInt64 >>> ((a3).toInt64.toUInt64 &&& Int64.toUInt64 63)).toInt64).toInt32 &&& (255 : Int32)) = (0 : Int32) then
      Option.bind (zgf S 8 a0 1) (fun x2 =>
      if x2 = (0 : Int32) then
        L_Row_takeWord_7 n a0 a1 (a3 + (-8 : Int32)) S
      else
        if ((((a1).toUInt64 >>> ((a3).toInt64.toUInt64 &&& Int64.toUInt64 63)).toInt64).toInt32 &&& (255 : Int32)) < (97 : Int32) then
          if (0 : Int32) = 0 ∨ (0 : Int32) = 1 then some ((0 : Int32), S) else none
        else
          if ((((a1).toUInt64 >>> ((a3).toInt64.toUInt64 &&& Int64.toUInt64 63)).toInt64).toInt32 &&& (255 : Int32)) ≤ (104 : Int32) then
            Option.bind (zcl S 8 a0 (f_Row_add a0 (((((a1).toUInt64 >>> ((a3).toInt64.toUInt64 &&& Int64.toUInt64 63)).toInt64).toInt32 &&& (255 : Int32)) - (97 : Int32)) S)) (fun p3 =>
            L_Row_takeWord_7 n a0 a1 (a3 + (-8 : Int32)) p3.2)
          else
            if (0 : Int32) = 0 ∨ (0 : Int32) = 1 then some ((0 : Int32), S) else none)
    else
      if ((((a1).toUInt64 >>> ((a3).toInt64.toUInt64 &&& Int64.toUInt64 63)).toInt64).toInt32 &&& (255 : Int32)) < (97 : Int32) then
        if (0 : Int32) = 0 ∨ (0 : Int32) = 1 then some ((0 : Int32), S) else none
      else
        if ((((a1).toUInt64 >>> ((a3).toInt64.toUInt64 &&& Int64.toUInt64 63)).toInt64).toInt32 &&& (255 : Int32)) ≤ (104 : Int32) then
          Option.bind (zcl S 8 a0 (f_Row_add a0 (((((a1).toUInt64 >>> ((a3).toInt64.toUInt64 &&& Int64.toUInt64 63)).toInt64).toInt32 &&& (255 : Int32)) - (97 : Int32)) S)) (fun p4 =>
          L_Row_takeWord_7 n a0 a1 (a3 + (-8 : Int32)) p4.2)
        else
          if (0 : Int32) = 0 ∨ (0 : Int32) = 1 then some ((0 : Int32), S) else none
noncomputable def f_Row_takeWord (a0 : Nat) (a1 : Int64) (S : zM) : Option (Int32 × zM) :=
  Option.bind (zcl S 8 a0 (f_Row_drop a0 S)) (fun p1 =>
  L_Row_takeWord_7 zF a0 a1 (56 : Int32) p1)
noncomputable def f_Row_holds (a0 : Nat) (a1 : Int32) (a2 : Nat) (S : zM) : Option (Int32 × zM) :=
  Option.bind (zgf S 8 a2 1) (fun x1 =>
  Option.bind (zgf S 8 a0 1) (fun x2 =>
  if (a1 + x1) ≤ x2 then
    Option.bind (zcl S 8 a0 (f_Row_agrees a0 a1 a2 S)) (fun p3 =>
    if p3.1 = (0 : Int32) then
      if (0 : Int32) = 0 ∨ (0 : Int32) = 1 then some ((0 : Int32), p3.2) else none
    else
      if (1 : Int32) = 0 ∨ (1 : Int32) = 1 then some ((1 : Int32), p3.2) else none)
  else
    if (0 : Int32) = 0 ∨ (0 : Int32) = 1 then some ((0 : Int32), S) else none))
noncomputable def f_Pieces_waysBehind (a0 : Nat) (a1 : Nat) (a2 : Int32) (a3 : Int32) (S : zM) : Option (Int32 × zM) :=
  Option.bind (zcl S 6 a0 (f_Pieces_lettersOf a0 a3 S)) (fun p1 =>
  match p1.1 with
  | some q2 => Option.bind (zgf p1.2 8 q2 1) (fun x3 =>
    if x3 = (0 : Int32) then
      some ((0 : Int32), p1.2)
    else
      Option.bind (zcl p1.2 8 a1 (f_Row_holds a1 a2 q2 p1.2)) (fun p4 =>
      if p4.1 = (0 : Int32) then
        some ((0 : Int32), p4.2)
      else
        Option.bind (zgf p4.2 8 q2 1) (fun x5 =>
        if (a2 + x5) < (0 : Int32) then
          some ((0 : Int32), p4.2)
        else
          Option.bind (zgr p4.2 6 a0 4) (fun q6 =>
          Option.bind (zlen p4.2 q6) (fun x7 =>
          if (a2 + x5) < x7 then
            Option.bind (zgr p4.2 6 a0 4) (fun q8 =>
            Option.bind (zga p4.2 100 q8 (a2 + x5)) (fun x9 =>
            some (x9, p4.2)))
          else
            some ((0 : Int32), p4.2))))))
  | none => some ((0 : Int32), p1.2))
noncomputable def F_Pieces_countReadings_74 (k31 : Nat → Nat → Int32 → zM → Option (Int32 × zM)) (a0 : Nat) (a1 : Nat) (a2 : Int32) (S : zM) : Option (Int32 × zM) :=
  k31 a0 a1 (a2 + (-1 : Int32)) S
noncomputable def L_Pieces_countReadings_44 (k74 : Nat → Nat → Int32 → zM → Option (Int32 × zM)) : Nat → Nat → Nat → Int32 → Int32 → zM → Option (Int32 × zM)
  | 0, _, _, _, _, _ => none
  | n + 1, a0, a1, a2, a3, S =>
  Option.bind (zgf S 6 a0 5) (fun x1 =>
  if a3 < x1 then
    Option.bind (zgr S 6 a0 4) (fun q2 =>
    Option.bind (zga S 100 q2 a2) (fun x3 =>
    Option.bind (zcl S 6 a0 (f_Pieces_waysBehind a0 a1 a2 a3 S)) (fun p4 =>
    Option.bind (zpa p4.2 q2 a2 (x3 + p4.1)) (fun S5 =>
    L_Pieces_countReadings_44 k74 n a0 a1 a2 (a3 + (1 : Int32)) S5))))
  else
    k74 a0 a1 a2 S)
noncomputable def L_Pieces_countReadings_31 : Nat → Nat → Nat → Int32 → zM → Option (Int32 × zM)
  | 0, _, _, _, _ => none
  | n + 1, a0, a1, a2, S =>
  if a2 < (0 : Int32) then
    Option.bind (zgr S 6 a0 4) (fun q1 =>
    Option.bind (zga S 100 q1 (0 : Int32)) (fun x2 =>
    some (x2, S)))
  else
    Option.bind (zgr S 6 a0 4) (fun q3 =>
    Option.bind (zpa S q3 a2 (0 : Int32)) (fun S4 =>
    (L_Pieces_countReadings_44 (F_Pieces_countReadings_74 (L_Pieces_countReadings_31 n)) zF) a0 a1 a2 (0 : Int32) S4))
noncomputable def f_Pieces_countReadings (a0 : Nat) (a1 : Nat) (S : zM) : Option (Int32 × zM) :=
  Option.bind (zgf S 8 a1 1) (fun x1 =>
  Option.bind (zgr S 6 a0 4) (fun q2 =>
  Option.bind (zlen S q2) (fun x3 =>
  if x1 < x3 then
    Option.bind (zgr S 6 a0 4) (fun q4 =>
    Option.bind (zgf S 8 a1 1) (fun x5 =>
    Option.bind (zpa S q4 x5 (1 : Int32)) (fun S6 =>
    Option.bind (zgf S6 8 a1 1) (fun x7 =>
    L_Pieces_countReadings_31 zF a0 a1 (x7 - (1 : Int32)) S6))))
  else
    some ((0 : Int32), S))))
noncomputable def f_Cl_readings (a0 : Nat) (a1 : Int32) (a2 : Int64) (S : zM) : Option (Int32 × zM) :=
  Option.bind (zcl S 11 a0 (f_Cl_gatherPieces a0 a1 S)) (fun p1 =>
  if p1.1 = (0 : Int32) then
    Option.bind (zcl p1.2 11 a0 (f_Cl_refuse a0 (1 : Int32) p1.2)) (fun p2 =>
    some (p2.1, p2.2))
  else
    Option.bind (zgr p1.2 11 a0 4) (fun q3 =>
    Option.bind (zcl p1.2 8 q3 (f_Row_takeWord q3 a2 p1.2)) (fun p4 =>
    if p4.1 = (0 : Int32) then
      Option.bind (zcl p4.2 11 a0 (f_Cl_refuse a0 (2 : Int32) p4.2)) (fun p5 =>
      some (p5.1, p5.2))
    else
      Option.bind (zgr p4.2 11 a0 8) (fun q6 =>
      Option.bind (zgr p4.2 11 a0 4) (fun q7 =>
      Option.bind (zcl p4.2 6 q6 (f_Pieces_countReadings q6 q7 p4.2)) (fun p8 =>
      Option.bind (zcl p8.2 11 a0 (f_Cl_answer a0 p8.1 p8.2)) (fun p9 =>
      some (p9.1, p9.2))))))))
noncomputable def L_Pieces_firstPieceAt_2 : Nat → Nat → Nat → Int32 → Int32 → zM → Option (Int32 × zM)
  | 0, _, _, _, _, _ => none
  | n + 1, a0, a1, a2, a3, S =>
  Option.bind (zgf S 6 a0 5) (fun x1 =>
  if a3 < x1 then
    Option.bind (zcl S 6 a0 (f_Pieces_waysBehind a0 a1 a2 a3 S)) (fun p2 =>
    if p2.1 ≤ (0 : Int32) then
      L_Pieces_firstPieceAt_2 n a0 a1 a2 (a3 + (1 : Int32)) p2.2
    else
      some (a3, p2.2))
  else
    some ((-1 : Int32), S))
noncomputable def f_Pieces_firstPieceAt (a0 : Nat) (a1 : Nat) (a2 : Int32) (S : zM) : Option (Int32 × zM) :=
  L_Pieces_firstPieceAt_2 zF a0 a1 a2 (0 : Int32) S
noncomputable def L_Pieces_firstReadingAt_19 : Nat → Nat → Nat → Int32 → Int32 → Int32 → zM → Option (Int32 × zM)
  | 0, _, _, _, _, _, _ => none
  | n + 1, a0, a1, a2, a3, a4, S =>
  if a4 ≤ a2 then
    Option.bind (zgf S 8 a1 1) (fun x1 =>
    if a3 < x1 then
      Option.bind (zcl S 6 a0 (f_Pieces_firstPieceAt a0 a1 a3 S)) (fun p2 =>
      Option.bind (zcl p2.2 6 a0 (f_Pieces_lettersOf a0 p2.1 p2.2)) (fun p3 =>
      match p3.1 with
      | some q4 => if a4 = a2 then
          Option.bind (zcl p3.2 6 a0 (f_Pieces_whatOf a0 p2.1 p3.2)) (fun p5 =>
          some (p5.1, p5.2))
        else
          Option.bind (zgf p3.2 8 q4 1) (fun x6 =>
          L_Pieces_firstReadingAt_19 n a0 a1 a2 (a3 + x6) (a4 + (1 : Int32)) p3.2)
      | none => some ((-1 : Int32), p3.2)))
    else
      some ((-1 : Int32), S))
  else
    some ((-1 : Int32), S)
noncomputable def f_Pieces_firstReadingAt (a0 : Nat) (a1 : Nat) (a2 : Int32) (S : zM) : Option (Int32 × zM) :=
  if a2 < (0 : Int32) then
    some ((-1 : Int32), S)
  else
    Option.bind (zcl S 6 a0 (f_Pieces_countReadings a0 a1 S)) (fun p1 =>
    if p1.1 = (0 : Int32) then
      some ((-1 : Int32), p1.2)
    else
      L_Pieces_firstReadingAt_19 zF a0 a1 a2 (0 : Int32) (0 : Int32) p1.2)
noncomputable def f_Cl_reading (a0 : Nat) (a1 : Int32) (a2 : Int64) (a4 : Int32) (S : zM) : Option (Int32 × zM) :=
  Option.bind (zcl S 11 a0 (f_Cl_gatherPieces a0 a1 S)) (fun p1 =>
  if p1.1 = (0 : Int32) then
    Option.bind (zcl p1.2 11 a0 (f_Cl_refuse a0 (1 : Int32) p1.2)) (fun p2 =>
    some (p2.1, p2.2))
  else
    Option.bind (zgr p1.2 11 a0 4) (fun q3 =>
    Option.bind (zcl p1.2 8 q3 (f_Row_takeWord q3 a2 p1.2)) (fun p4 =>
    if p4.1 = (0 : Int32) then
      Option.bind (zcl p4.2 11 a0 (f_Cl_refuse a0 (2 : Int32) p4.2)) (fun p5 =>
      some (p5.1, p5.2))
    else
      Option.bind (zgr p4.2 11 a0 8) (fun q6 =>
      Option.bind (zgr p4.2 11 a0 4) (fun q7 =>
      Option.bind (zcl p4.2 6 q6 (f_Pieces_firstReadingAt q6 q7 a4 p4.2)) (fun p8 =>
      if p8.1 = (-1 : Int32) then
        Option.bind (zcl p8.2 11 a0 (f_Cl_refuse a0 (1 : Int32) p8.2)) (fun p9 =>
        some (p9.1, p9.2))
      else
        Option.bind (zcl p8.2 11 a0 (f_Cl_answer a0 p8.1 p8.2)) (fun p10 =>
        some (p10.1, p10.2))))))))
noncomputable def L_Cl_sure_15 : Nat → Nat → Int32 → zM → Option (Int32 × zM)
  | 0, _, _, _ => none
  | n + 1, a0, a1, S =>
  Option.bind (zgr S 11 a0 10) (fun q1 =>
  Option.bind (zgf S 10 q1 5) (fun x2 =>
  if a1 < x2 then
    Option.bind (zgr S 11 a0 10) (fun q3 =>
    Option.bind (zcl S 10 q3 (f_Script_passAt q3 a1 S)) (fun p4 =>
    match p4.1 with
    | some q5 => Option.bind (zgf p4.2 5 q5 4) (fun x6 =>
      if x6 = (0 : Int32) then
        Option.bind (zgr p4.2 11 a0 8) (fun q7 =>
        Option.bind (zcl p4.2 6 q7 (f_Pieces_gather q7 q5 p4.2)) (fun p8 =>
        Option.bind (zgr p8 11 a0 8) (fun q9 =>
        Option.bind (zcl p8 6 q9 (f_Pieces_fewestReadTwice q9 p8)) (fun p10 =>
        if p10.1 = (-2 : Int32) then
          L_Cl_sure_15 n a0 (a1 + (1 : Int32)) p10.2
        else
          Option.bind (zcl p10.2 11 a0 (f_Cl_answer a0 (0 : Int32) p10.2)) (fun p11 =>
          some (p11.1, p11.2))))))
      else
        Option.bind (zcl p4.2 11 a0 (f_Cl_answer a0 (0 : Int32) p4.2)) (fun p12 =>
        some (p12.1, p12.2)))
    | none => Option.bind (zcl p4.2 11 a0 (f_Cl_answer a0 (0 : Int32) p4.2)) (fun p13 =>
      some (p13.1, p13.2))))
  else
    Option.bind (zcl S 11 a0 (f_Cl_answer a0 (1 : Int32) S)) (fun p14 =>
    some (p14.1, p14.2))))
noncomputable def f_Cl_sure (a0 : Nat) (S : zM) : Option (Int32 × zM) :=
  Option.bind (zcl S 11 a0 (f_Cl_noScript a0 S)) (fun p1 =>
  if p1.1 = (0 : Int32) then
    L_Cl_sure_15 zF a0 (0 : Int32) p1.2
  else
    Option.bind (zcl p1.2 11 a0 (f_Cl_refuse a0 (1 : Int32) p1.2)) (fun p2 =>
    some (p2.1, p2.2)))
noncomputable def f_Row_addAll (a0 : Nat) (a1 : Nat) (S : zM) : Option (Int32 × zM) :=
  Option.bind (zgf S 8 a0 1) (fun x1 =>
  Option.bind (zgf S 8 a1 1) (fun x2 =>
  Option.bind (zgr S 8 a0 0) (fun q3 =>
  Option.bind (zlen S q3) (fun x4 =>
  if (x1 + x2) ≤ x4 then
    Option.bind (zgr S 8 a1 0) (fun q5 =>
    Option.bind (zgr S 8 a0 0) (fun q6 =>
    Option.bind (zgf S 8 a0 1) (fun x7 =>
    Option.bind (zgf S 8 a1 1) (fun x8 =>
    Option.bind (zcp S q5 (0 : Int32) q6 x7 x8) (fun S9 =>
    Option.bind (zgf S9 8 a0 1) (fun x10 =>
    Option.bind (zgf S9 8 a1 1) (fun x11 =>
    Option.bind (zpf S9 8 a0 1 (x10 + x11)) (fun S12 =>
    if (1 : Int32) = 0 ∨ (1 : Int32) = 1 then some ((1 : Int32), S12) else none))))))))
  else
    if (0 : Int32) = 0 ∨ (0 : Int32) = 1 then some ((0 : Int32), S) else none))))
noncomputable def f_Row_copy (a0 : Nat) (a1 : Nat) (S : zM) : Option zM :=
  Option.bind (zcl S 8 a0 (f_Row_drop a0 S)) (fun p1 =>
  Option.bind (zcl p1 8 a0 (f_Row_addAll a0 a1 p1)) (fun p2 =>
  some p2.2))
noncomputable def f_Carrier_behindPass (a0 : Nat) (a1 : Int32) (S : zM) : Option (Option Nat × zM) :=
  if a1 < (0 : Int32) then
    some (none, S)
  else
    if a1 < (3 : Int32) then
      Option.bind (zgr S 1 a0 0) (fun q1 =>
      if (zh S q1).1 = 118 ∧ zinb a1 (zh S q1).2 = true then (match zR S q1 (a1).toNatClampNeg with
      | some q2 => some (some q2, S)
      | none => some (none, S)) else none)
    else
      some (none, S)
noncomputable def f_Row_beside (a0 : Nat) (a1 : Int32) (S : zM) : Option (Int32 × zM) :=
  if a1 < (0 : Int32) then
    some ((8 : Int32), S)
  else
    Option.bind (zgf S 8 a0 1) (fun x1 =>
    if a1 < x1 then
      Option.bind (zgr S 8 a0 0) (fun q2 =>
      Option.bind (zlen S q2) (fun x3 =>
      if a1 < x3 then
        Option.bind (zgr S 8 a0 0) (fun q4 =>
        Option.bind (zga S 100 q4 a1) (fun x5 =>
        some (x5, S)))
      else
        some ((8 : Int32), S)))
    else
      some ((8 : Int32), S))
noncomputable def L_Machine_ruleFor_25 : Nat → Nat → Nat → Int32 → Int32 → Int32 → Int32 → zM → Option (Int32 × zM)
  | 0, _, _, _, _, _, _, _ => none
  | n + 1, a0, a1, a4, a5, a6, a7, S =>
  Option.bind (zgf S 8 a1 1) (fun x1 =>
  if a7 < x1 then
    if a4 = (0 : Int32) then
      some (a5, S)
    else
      Option.bind (zcl S 8 a1 (f_Row_at a1 a7 S)) (fun p2 =>
      if ((a6 * (8 : Int32)) + p2.1) < (0 : Int32) then
        if (-2 : Int32) < (0 : Int32) then
          some (a5, p2.2)
        else
          if (-2 : Int32) < (33 : Int32) then
            Option.bind (zgr p2.2 3 a0 2) (fun q3 =>
            Option.bind (zga p2.2 100 q3 (-2 : Int32)) (fun x4 =>
            Option.bind (zgr p2.2 3 a0 4) (fun q5 =>
            Option.bind (zcl p2.2 8 a1 (f_Row_beside a1 (a7 + (1 : Int32)) p2.2)) (fun p6 =>
            Option.bind (zga p6.2 100 q5 p6.1) (fun x7 =>
            if ((x4 &&& a4) &&& x7) = (0 : Int32) then
              L_Machine_ruleFor_25 n a0 a1 a4 a5 (-2 : Int32) (a7 + (1 : Int32)) p6.2
            else
              Option.bind (f_J_bitCount ((((x4 &&& a4) &&& x7) &&& (-((x4 &&& a4) &&& x7))) - (1 : Int32)) p6.2) (fun p8 =>
              L_Machine_ruleFor_25 n a0 a1 a4 p8.1 (-2 : Int32) (a7 + (1 : Int32)) p8.2))))))
          else
            some (a5, p2.2)
      else
        Option.bind (zgr p2.2 3 a0 0) (fun q9 =>
        Option.bind (zlen p2.2 q9) (fun x10 =>
        if ((a6 * (8 : Int32)) + p2.1) < x10 then
          Option.bind (zgr p2.2 3 a0 0) (fun q11 =>
          Option.bind (zga p2.2 100 q11 ((a6 * (8 : Int32)) + p2.1)) (fun x12 =>
          if x12 < (0 : Int32) then
            some (a5, p2.2)
          else
            if x12 < (33 : Int32) then
              Option.bind (zgr p2.2 3 a0 2) (fun q13 =>
              Option.bind (zga p2.2 100 q13 x12) (fun x14 =>
              Option.bind (zgr p2.2 3 a0 4) (fun q15 =>
              Option.bind (zcl p2.2 8 a1 (f_Row_beside a1 (a7 + (1 : Int32)) p2.2)) (fun p16 =>
              Option.bind (zga p16.2 100 q15 p16.1) (fun x17 =>
              if ((x14 &&& a4) &&& x17) = (0 : Int32) then
                L_Machine_ruleFor_25 n a0 a1 a4 a5 x12 (a7 + (1 : Int32)) p16.2
              else
                Option.bind (f_J_bitCount ((((x14 &&& a4) &&& x17) &&& (-((x14 &&& a4) &&& x17))) - (1 : Int32)) p16.2) (fun p18 =>
                L_Machine_ruleFor_25 n a0 a1 a4 p18.1 x12 (a7 + (1 : Int32)) p18.2))))))
            else
              some (a5, p2.2)))
        else
          if (-2 : Int32) < (0 : Int32) then
            some (a5, p2.2)
          else
            if (-2 : Int32) < (33 : Int32) then
              Option.bind (zgr p2.2 3 a0 2) (fun q19 =>
              Option.bind (zga p2.2 100 q19 (-2 : Int32)) (fun x20 =>
              Option.bind (zgr p2.2 3 a0 4) (fun q21 =>
              Option.bind (zcl p2.2 8 a1 (f_Row_beside a1 (a7 + (1 : Int32)) p2.2)) (fun p22 =>
              Option.bind (zga p22.2 100 q21 p22.1) (fun x23 =>
              if ((x20 &&& a4) &&& x23) = (0 : Int32) then
                L_Machine_ruleFor_25 n a0 a1 a4 a5 (-2 : Int32) (a7 + (1 : Int32)) p22.2
              else
                Option.bind (f_J_bitCount ((((x20 &&& a4) &&& x23) &&& (-((x20 &&& a4) &&& x23))) - (1 : Int32)) p22.2) (fun p24 =>
                L_Machine_ruleFor_25 n a0 a1 a4 p24.1 (-2 : Int32) (a7 + (1 : Int32)) p24.2))))))
            else
              some (a5, p2.2))))
  else
    some (a5, S))
noncomputable def f_Machine_ruleFor (a0 : Nat) (a1 : Nat) (a2 : Int32) (a3 : Int32) (S : zM) : Option (Int32 × zM) :=
  Option.bind (zgr S 3 a0 3) (fun q1 =>
  Option.bind (zcl S 8 a1 (f_Row_beside a1 (a2 - (1 : Int32)) S)) (fun p2 =>
  Option.bind (zga p2.2 100 q1 p2.1) (fun x3 =>
  L_Machine_ruleFor_25 zF a0 a1 (a3 &&& x3) (-1 : Int32) (0 : Int32) a2 p2.2)))
noncomputable def f_Carrier_noteServed (a0 : Nat) (a1 : Int32) (a2 : Int32) (S : zM) : Option zM :=
  if ((a1 * (8 : Int32)) + a2) < (0 : Int32) then
    some S
  else
    Option.bind (zgr S 1 a0 2) (fun q1 =>
    Option.bind (zlen S q1) (fun x2 =>
    if ((a1 * (8 : Int32)) + a2) < x2 then
      Option.bind (zgr S 1 a0 2) (fun q3 =>
      Option.bind (zga S 100 q3 ((a1 * (8 : Int32)) + a2)) (fun x4 =>
      Option.bind (zpa S q3 ((a1 * (8 : Int32)) + a2) (x4 + (1 : Int32))) (fun S5 =>
      Option.bind (zgf S5 1 a0 5) (fun x6 =>
      Option.bind (zpf S5 1 a0 5 (x6 ||| ((1 : Int32) <<< (((a1 * (8 : Int32)) + a2) &&& 31)))) (fun S7 =>
      some S7)))))
    else
      some S))
noncomputable def f_Rule_given (a0 : Nat) (a1 : Int32) (S : zM) : Option (Nat × zM) :=
  if a1 = (0 : Int32) then
    Option.bind (zgr S 9 a0 1) (fun q1 =>
    some (q1, S))
  else
    Option.bind (zgr S 9 a0 0) (fun q2 =>
    some (q2, S))
noncomputable def L_Carrier_throughRound_36 : Nat → Nat → Nat → Int32 → Int32 → Nat → Int32 → Int32 → zM → Option (Int32 × zM)
  | 0, _, _, _, _, _, _, _, _ => none
  | n + 1, a0, a1, a2, a3, a4, a5, a7, S =>
  Option.bind (zgr S 1 a0 3) (fun q1 =>
  Option.bind (zgf S 8 q1 1) (fun x2 =>
  if a7 < x2 then
    Option.bind (zgr S 1 a0 3) (fun q3 =>
    Option.bind (zcl S 3 a4 (f_Machine_ruleFor a4 q3 a7 a5 S)) (fun p4 =>
    Option.bind (zcl p4.2 5 a1 (f_Pass_ruleAt a1 p4.1 p4.2)) (fun p5 =>
    match p5.1 with
    | some q6 => Option.bind (zcl p5.2 1 a0 (f_Carrier_noteServed a0 a2 p4.1 p5.2)) (fun p7 =>
      Option.bind (zcl p7 9 q6 (f_Rule_taken q6 a3 p7)) (fun p8 =>
      Option.bind (zgf p8.2 8 p8.1 1) (fun x9 =>
      Option.bind (zgr p8.2 1 a0 4) (fun q10 =>
      Option.bind (zcl p8.2 9 q6 (f_Rule_given q6 a3 p8.2)) (fun p11 =>
      Option.bind (zcl p11.2 8 q10 (f_Row_addAll q10 p11.1 p11.2)) (fun p12 =>
      if p12.1 = (0 : Int32) then
        if (0 : Int32) = 0 ∨ (0 : Int32) = 1 then some ((0 : Int32), p12.2) else none
      else
        L_Carrier_throughRound_36 n a0 a1 a2 a3 a4 a5 (a7 + (zmax (1 : Int32) x9)) p12.2))))))
    | none => Option.bind (zgr p5.2 1 a0 4) (fun q13 =>
      Option.bind (zgr p5.2 1 a0 3) (fun q14 =>
      Option.bind (zcl p5.2 8 q14 (f_Row_at q14 a7 p5.2)) (fun p15 =>
      Option.bind (zcl p15.2 8 q13 (f_Row_add q13 p15.1 p15.2)) (fun p16 =>
      if p16.1 = (0 : Int32) then
        if (0 : Int32) = 0 ∨ (0 : Int32) = 1 then some ((0 : Int32), p16.2) else none
      else
        L_Carrier_throughRound_36 n a0 a1 a2 a3 a4 a5 (a7 + (1 : Int32)) p16.2)))))))
  else
    if (1 : Int32) = 0 ∨ (1 : Int32) = 1 then some ((1 : Int32), S) else none))
noncomputable def f_Carrier_throughRound (a0 : Nat) (a1 : Nat) (a2 : Int32) (a3 : Int32) (S : zM) : Option (Int32 × zM) :=
  if a3 = (0 : Int32) then
    Option.bind (zgr S 5 a1 1) (fun q1 =>
    Option.bind (zcl S 5 a1 (f_Pass_serving a1 S)) (fun p2 =>
    Option.bind (zgr p2.2 1 a0 4) (fun q3 =>
    Option.bind (zcl p2.2 8 q3 (f_Row_drop q3 p2.2)) (fun p4 =>
    L_Carrier_throughRound_36 zF a0 a1 a2 a3 q1 p2.1 (0 : Int32) p4))))
  else
    Option.bind (zgr S 5 a1 2) (fun q5 =>
    Option.bind (zcl S 5 a1 (f_Pass_serving a1 S)) (fun p6 =>
    Option.bind (zgr p6.2 1 a0 4) (fun q7 =>
    Option.bind (zcl p6.2 8 q7 (f_Row_drop q7 p6.2)) (fun p8 =>
    L_Carrier_throughRound_36 zF a0 a1 a2 a3 q5 p6.1 (0 : Int32) p8))))
noncomputable def L_Row_same_15 : Nat → Nat → Nat → Int32 → zM → Option (Int32 × zM)
  | 0, _, _, _, _ => none
  | n + 1, a0, a1, a2, S =>
  Option.bind (zgf S 8 a0 1) (fun x1 =>
  if a2 < x1 then
    Option.bind (zgr S 8 a0 0) (fun q2 =>
    Option.bind (zga S 100 q2 a2) (fun x3 =>
    Option.bind (zgr S 8 a1 0) (fun q4 =>
    Option.bind (zga S 100 q4 a2) (fun x5 =>
    if x3 = x5 then
      L_Row_same_15 n a0 a1 (a2 + (1 : Int32)) S
    else
      if (0 : Int32) = 0 ∨ (0 : Int32) = 1 then some ((0 : Int32), S) else none))))
  else
    if (1 : Int32) = 0 ∨ (1 : Int32) = 1 then some ((1 : Int32), S) else none)
noncomputable def f_Row_same (a0 : Nat) (a1 : Nat) (S : zM) : Option (Int32 × zM) :=
  Option.bind (zgf S 8 a0 1) (fun x1 =>
  Option.bind (zgf S 8 a1 1) (fun x2 =>
  if x1 = x2 then
    L_Row_same_15 zF a0 a1 (0 : Int32) S
  else
    if (0 : Int32) = 0 ∨ (0 : Int32) = 1 then some ((0 : Int32), S) else none))
noncomputable def L_Carrier_throughPass_18 : Nat → Nat → Nat → Int32 → Int32 → Int32 → Int32 → zM → Option (Int32 × zM)
  | 0, _, _, _, _, _, _, _ => none
  | n + 1, a0, a1, a2, a3, a4, a5, S =>
  if a5 ≤ a4 then
    Option.bind (zgr S 1 a0 1) (fun q1 =>
    Option.bind (zpa S q1 a2 a5) (fun S2 =>
    Option.bind (zcl S2 1 a0 (f_Carrier_throughRound a0 a1 a2 a3 S2)) (fun p3 =>
    if p3.1 = (0 : Int32) then
      some ((6 : Int32), p3.2)
    else
      Option.bind (zgr p3.2 1 a0 3) (fun q4 =>
      Option.bind (zgr p3.2 1 a0 4) (fun q5 =>
      Option.bind (zcl p3.2 8 q4 (f_Row_same q4 q5 p3.2)) (fun p6 =>
      Option.bind (zgr p6.2 1 a0 3) (fun q7 =>
      Option.bind (zgr p6.2 1 a0 4) (fun q8 =>
      Option.bind (zpr p6.2 1 a0 3 (some q8)) (fun S9 =>
      Option.bind (zpr S9 1 a0 4 (some q7)) (fun S10 =>
      if p6.1 = (0 : Int32) then
        Option.bind (zgf S10 5 a1 4) (fun x11 =>
        if x11 = (0 : Int32) then
          some ((0 : Int32), S10)
        else
          L_Carrier_throughPass_18 n a0 a1 a2 a3 a4 (a5 + (1 : Int32)) S10)
      else
        some ((0 : Int32), S10)))))))))))
  else
    some ((7 : Int32), S)
noncomputable def f_Carrier_throughPass (a0 : Nat) (a1 : Nat) (a2 : Int32) (a3 : Int32) (S : zM) : Option (Int32 × zM) :=
  Option.bind (zgf S 5 a1 4) (fun x1 =>
  if x1 = (0 : Int32) then
    L_Carrier_throughPass_18 zF a0 a1 a2 a3 (1 : Int32) (1 : Int32) S
  else
    L_Carrier_throughPass_18 zF a0 a1 a2 a3 (20 : Int32) (1 : Int32) S)
noncomputable def L_Carrier_bring_24 : Nat → Nat → Nat → Int32 → Int32 → zM → Option (Int32 × zM)
  | 0, _, _, _, _, _ => none
  | n + 1, a0, a1, a3, a4, S =>
  Option.bind (zgf S 10 a1 5) (fun x1 =>
  if a4 < x1 then
    if a3 = (0 : Int32) then
      Option.bind (zcl S 10 a1 (f_Script_passAt a1 a4 S)) (fun p2 =>
      match p2.1 with
      | some q3 => Option.bind (zcl p2.2 1 a0 (f_Carrier_behindPass a0 a4 p2.2)) (fun p4 =>
        match p4.1 with
        | some q5 => Option.bind (zcl p4.2 1 a0 (f_Carrier_throughPass a0 q3 a4 a3 p4.2)) (fun p6 =>
          if p6.1 = (0 : Int32) then
            Option.bind (zgr p6.2 1 a0 3) (fun q7 =>
            Option.bind (zcl p6.2 8 q5 (f_Row_copy q5 q7 p6.2)) (fun p8 =>
            L_Carrier_bring_24 n a0 a1 a3 (a4 + (1 : Int32)) p8))
          else
            some (p6.1, p6.2))
        | none => L_Carrier_bring_24 n a0 a1 a3 (a4 + (1 : Int32)) p4.2)
      | none => Option.bind (zcl p2.2 1 a0 (f_Carrier_behindPass a0 a4 p2.2)) (fun p9 =>
        match p9.1 with
        | some q10 => L_Carrier_bring_24 n a0 a1 a3 (a4 + (1 : Int32)) p9.2
        | none => L_Carrier_bring_24 n a0 a1 a3 (a4 + (1 : Int32)) p9.2))
    else
      Option.bind (zgf S 10 a1 5) (fun x11 =>
      Option.bind (zcl S 10 a1 (f_Script_passAt a1 ((x11 - (1 : Int32)) - a4) S)) (fun p12 =>
      match p12.1 with
      | some q13 => Option.bind (zcl p12.2 1 a0 (f_Carrier_behindPass a0 ((x11 - (1 : Int32)) - a4) p12.2)) (fun p14 =>
        match p14.1 with
        | some q15 => Option.bind (zcl p14.2 1 a0 (f_Carrier_throughPass a0 q13 ((x11 - (1 : Int32)) - a4) a3 p14.2)) (fun p16 =>
          if p16.1 = (0 : Int32) then
            Option.bind (zgr p16.2 1 a0 3) (fun q17 =>
            Option.bind (zcl p16.2 8 q15 (f_Row_copy q15 q17 p16.2)) (fun p18 =>
            L_Carrier_bring_24 n a0 a1 a3 (a4 + (1 : Int32)) p18))
          else
            some (p16.1, p16.2))
        | none => L_Carrier_bring_24 n a0 a1 a3 (a4 + (1 : Int32)) p14.2)
      | none => Option.bind (zcl p12.2 1 a0 (f_Carrier_behindPass a0 ((x11 - (1 : Int32)) - a4) p12.2)) (fun p19 =>
        match p19.1 with
        | some q20 => L_Carrier_bring_24 n a0 a1 a3 (a4 + (1 : Int32)) p19.2
        | none => L_Carrier_bring_24 n a0 a1 a3 (a4 + (1 : Int32)) p19.2)))
  else
    some ((0 : Int32), S))
noncomputable def f_Carrier_bring (a0 : Nat) (a1 : Nat) (a2 : Nat) (a3 : Int32) (S : zM) : Option (Int32 × zM) :=
  Option.bind (zgr S 1 a0 2) (fun q1 =>
  Option.bind (f_J_fill q1 (0 : Int32) S) (fun p2 =>
  Option.bind (zpf p2 1 a0 5 (0 : Int32)) (fun S3 =>
  Option.bind (zgr S3 1 a0 3) (fun q4 =>
  Option.bind (zcl S3 8 q4 (f_Row_copy q4 a2 S3)) (fun p5 =>
  L_Carrier_bring_24 zF a0 a1 a3 (0 : Int32) p5)))))
noncomputable def f_Cl_carry (a0 : Nat) (a1 : Int64) (S : zM) : Option (Int32 × zM) :=
  Option.bind (zpz S 11 a0 17 (0 : Int32)) (fun S1 =>
  Option.bind (zcl S1 11 a0 (f_Cl_noScript a0 S1)) (fun p2 =>
  if p2.1 = (0 : Int32) then
    Option.bind (zgr p2.2 11 a0 4) (fun q3 =>
    Option.bind (zcl p2.2 8 q3 (f_Row_takeWord q3 a1 p2.2)) (fun p4 =>
    if p4.1 = (0 : Int32) then
      Option.bind (zcl p4.2 11 a0 (f_Cl_refuse a0 (2 : Int32) p4.2)) (fun p5 =>
      some (p5.1, p5.2))
    else
      Option.bind (zgr p4.2 11 a0 2) (fun q6 =>
      Option.bind (zgr p4.2 11 a0 10) (fun q7 =>
      Option.bind (zgr p4.2 11 a0 4) (fun q8 =>
      Option.bind (zcl p4.2 1 q6 (f_Carrier_bring q6 q7 q8 (0 : Int32) p4.2)) (fun p9 =>
      if p9.1 = (0 : Int32) then
        Option.bind (zpz p9.2 11 a0 17 (1 : Int32)) (fun S10 =>
        Option.bind (zgr S10 11 a0 2) (fun q11 =>
        Option.bind (zgr S10 1 q11 3) (fun q12 =>
        Option.bind (zgf S10 8 q12 1) (fun x13 =>
        Option.bind (zcl S10 11 a0 (f_Cl_answer a0 x13 S10)) (fun p14 =>
        some (p14.1, p14.2))))))
      else
        Option.bind (zcl p9.2 11 a0 (f_Cl_refuse a0 p9.1 p9.2)) (fun p15 =>
        some (p15.1, p15.2))))))))
  else
    Option.bind (zcl p2.2 11 a0 (f_Cl_refuse a0 (1 : Int32) p2.2)) (fun p16 =>
    some (p16.1, p16.2))))
noncomputable def f_Cl_out (a0 : Nat) (a1 : Int32) (S : zM) : Option (Int32 × zM) :=
  Option.bind (zgf S 11 a0 17) (fun x1 =>
  if x1 = (0 : Int32) then
    Option.bind (zcl S 11 a0 (f_Cl_refuse a0 (1 : Int32) S)) (fun p2 =>
    some (p2.1, p2.2))
  else
    Option.bind (zgr S 11 a0 2) (fun q3 =>
    Option.bind (zgr S 1 q3 3) (fun q4 =>
    Option.bind (zcl S 11 a0 (f_Cl_answerLetter a0 q4 a1 S)) (fun p5 =>
    some (p5.1, p5.2)))))
noncomputable def f_Cl_carriedBehind (a0 : Nat) (a1 : Int32) (S : zM) : Option (Option Nat × zM) :=
  Option.bind (zgf S 11 a0 17) (fun x1 =>
  if x1 = (0 : Int32) then
    some (none, S)
  else
    Option.bind (zgr S 11 a0 10) (fun q2 =>
    Option.bind (zcl S 10 q2 (f_Script_passAt q2 a1 S)) (fun p3 =>
    match p3.1 with
    | some q4 => Option.bind (zgr p3.2 11 a0 2) (fun q5 =>
      Option.bind (zcl p3.2 1 q5 (f_Carrier_behindPass q5 a1 p3.2)) (fun p6 =>
      match p6.1 with
      | some q7 => some (some q7, p6.2)
      | none => some (none, p6.2)))
    | none => some (none, p3.2))))
noncomputable def f_Cl_behind (a0 : Nat) (a1 : Int32) (S : zM) : Option (Int32 × zM) :=
  Option.bind (zcl S 11 a0 (f_Cl_carriedBehind a0 a1 S)) (fun p1 =>
  match p1.1 with
  | some q2 => Option.bind (zgf p1.2 8 q2 1) (fun x3 =>
    Option.bind (zcl p1.2 11 a0 (f_Cl_answer a0 x3 p1.2)) (fun p4 =>
    some (p4.1, p4.2)))
  | none => Option.bind (zcl p1.2 11 a0 (f_Cl_refuse a0 (1 : Int32) p1.2)) (fun p5 =>
    some (p5.1, p5.2)))
noncomputable def f_Cl_outOf (a0 : Nat) (a1 : Int32) (a2 : Int32) (S : zM) : Option (Int32 × zM) :=
  Option.bind (zcl S 11 a0 (f_Cl_carriedBehind a0 a1 S)) (fun p1 =>
  match p1.1 with
  | some q2 => Option.bind (zcl p1.2 11 a0 (f_Cl_answerLetter a0 q2 a2 p1.2)) (fun p3 =>
    some (p3.1, p3.2))
  | none => Option.bind (zcl p1.2 11 a0 (f_Cl_refuse a0 (1 : Int32) p1.2)) (fun p4 =>
    some (p4.1, p4.2)))
noncomputable def f_Carrier_roundsOf (a0 : Nat) (a1 : Int32) (S : zM) : Option (Int32 × zM) :=
  if a1 < (0 : Int32) then
    some ((0 : Int32), S)
  else
    if a1 < (3 : Int32) then
      Option.bind (zgr S 1 a0 1) (fun q1 =>
      Option.bind (zga S 100 q1 a1) (fun x2 =>
      some (x2, S)))
    else
      some ((0 : Int32), S)
noncomputable def f_Cl_rounds (a0 : Nat) (a1 : Int32) (S : zM) : Option (Int32 × zM) :=
  Option.bind (zcl S 11 a0 (f_Cl_carriedBehind a0 a1 S)) (fun p1 =>
  match p1.1 with
  | some q2 => Option.bind (zgr p1.2 11 a0 2) (fun q3 =>
    Option.bind (zcl p1.2 1 q3 (f_Carrier_roundsOf q3 a1 p1.2)) (fun p4 =>
    Option.bind (zcl p4.2 11 a0 (f_Cl_answer a0 p4.1 p4.2)) (fun p5 =>
    some (p5.1, p5.2))))
  | none => Option.bind (zcl p1.2 11 a0 (f_Cl_refuse a0 (1 : Int32) p1.2)) (fun p6 =>
    some (p6.1, p6.2)))
noncomputable def f_Carrier_servedBy (a0 : Nat) (a1 : Int32) (a2 : Int32) (S : zM) : Option (Int32 × zM) :=
  if a1 < (0 : Int32) then
    some ((0 : Int32), S)
  else
    if a1 < (3 : Int32) then
      if a2 < (0 : Int32) then
        some ((0 : Int32), S)
      else
        if a2 < (8 : Int32) then
          Option.bind (zgr S 1 a0 2) (fun q1 =>
          Option.bind (zga S 100 q1 ((a1 * (8 : Int32)) + a2)) (fun x2 =>
          some (x2, S)))
        else
          some ((0 : Int32), S)
    else
      some ((0 : Int32), S)
noncomputable def f_Cl_served (a0 : Nat) (a1 : Int32) (a2 : Int32) (S : zM) : Option (Int32 × zM) :=
  Option.bind (zgf S 11 a0 17) (fun x1 =>
  if x1 = (0 : Int32) then
    Option.bind (zcl S 11 a0 (f_Cl_refuse a0 (1 : Int32) S)) (fun p2 =>
    some (p2.1, p2.2))
  else
    Option.bind (zgr S 11 a0 10) (fun q3 =>
    Option.bind (zcl S 10 q3 (f_Script_ruleAt q3 a1 a2 S)) (fun p4 =>
    match p4.1 with
    | some q5 => Option.bind (zgr p4.2 11 a0 2) (fun q6 =>
      Option.bind (zcl p4.2 1 q6 (f_Carrier_servedBy q6 a1 a2 p4.2)) (fun p7 =>
      Option.bind (zcl p7.2 11 a0 (f_Cl_answer a0 p7.1 p7.2)) (fun p8 =>
      some (p8.1, p8.2))))
    | none => Option.bind (zcl p4.2 11 a0 (f_Cl_refuse a0 (1 : Int32) p4.2)) (fun p9 =>
      some (p9.1, p9.2)))))
noncomputable def F_Row_changesTo_124 (k33 : Nat → Nat → Nat → Int32 → zM → Option (Int32 × zM)) (a0 : Nat) (a1 : Nat) (a2 : Nat) (a3 : Int32) (S : zM) : Option (Int32 × zM) :=
  k33 a0 a1 a2 (a3 + (1 : Int32)) S
noncomputable def L_Row_changesTo_55 (k124 : Nat → Nat → Nat → Int32 → zM → Option (Int32 × zM)) : Nat → Nat → Nat → Nat → Int32 → Int32 → Int32 → zM → Option (Int32 × zM)
  | 0, _, _, _, _, _, _, _ => none
  | n + 1, a0, a1, a2, a3, a4, a5, S =>
  Option.bind (zgf S 8 a1 1) (fun x1 =>
  if a5 < x1 then
    Option.bind (zcl S 8 a0 (f_Row_at a0 a3 S)) (fun p2 =>
    Option.bind (zcl p2.2 8 a1 (f_Row_at a1 a5 p2.2)) (fun p3 =>
    if p2.1 = p3.1 then
      Option.bind (zga p3.2 100 a2 (a5 + (1 : Int32))) (fun x4 =>
      Option.bind (zga p3.2 100 a2 a5) (fun x5 =>
      Option.bind (zpa p3.2 a2 (a5 + (1 : Int32)) (zmin (a4 + (0 : Int32)) ((zmin x4 x5) + (1 : Int32)))) (fun S6 =>
      L_Row_changesTo_55 k124 n a0 a1 a2 a3 x4 (a5 + (1 : Int32)) S6)))
    else
      Option.bind (zga p3.2 100 a2 (a5 + (1 : Int32))) (fun x7 =>
      Option.bind (zga p3.2 100 a2 a5) (fun x8 =>
      Option.bind (zpa p3.2 a2 (a5 + (1 : Int32)) (zmin (a4 + (1 : Int32)) ((zmin x7 x8) + (1 : Int32)))) (fun S9 =>
      L_Row_changesTo_55 k124 n a0 a1 a2 a3 x7 (a5 + (1 : Int32)) S9)))))
  else
    k124 a0 a1 a2 a3 S)
noncomputable def L_Row_changesTo_33 : Nat → Nat → Nat → Nat → Int32 → zM → Option (Int32 × zM)
  | 0, _, _, _, _, _ => none
  | n + 1, a0, a1, a2, a3, S =>
  Option.bind (zgf S 8 a0 1) (fun x1 =>
  if a3 < x1 then
    Option.bind (zga S 100 a2 (0 : Int32)) (fun x2 =>
    Option.bind (zpa S a2 (0 : Int32) (a3 + (1 : Int32))) (fun S3 =>
    (L_Row_changesTo_55 (F_Row_changesTo_124 (L_Row_changesTo_33 n)) zF) a0 a1 a2 a3 x2 (0 : Int32) S3))
  else
    Option.bind (zgf S 8 a1 1) (fun x4 =>
    Option.bind (zga S 100 a2 x4) (fun x5 =>
    some (x5, S))))
noncomputable def F_Row_changesTo_31 (k33 : Nat → Nat → Nat → Int32 → zM → Option (Int32 × zM)) (a0 : Nat) (a1 : Nat) (a2 : Nat) (S : zM) : Option (Int32 × zM) :=
  k33 a0 a1 a2 (0 : Int32) S
noncomputable def L_Row_changesTo_13 (k31 : Nat → Nat → Nat → zM → Option (Int32 × zM)) : Nat → Nat → Nat → Nat → Int32 → zM → Option (Int32 × zM)
  | 0, _, _, _, _, _ => none
  | n + 1, a0, a1, a2, a3, S =>
  Option.bind (zgf S 8 a1 1) (fun x1 =>
  if a3 ≤ x1 then
    Option.bind (zpa S a2 a3 a3) (fun S2 =>
    L_Row_changesTo_13 k31 n a0 a1 a2 (a3 + (1 : Int32)) S2)
  else
    k31 a0 a1 a2 S)
noncomputable def f_Row_changesTo (a0 : Nat) (a1 : Nat) (a2 : Nat) (S : zM) : Option (Int32 × zM) :=
  Option.bind (zgf S 8 a1 1) (fun x1 =>
  Option.bind (zlen S a2) (fun x2 =>
  if x1 < x2 then
    L_Row_changesTo_13 (F_Row_changesTo_31 (L_Row_changesTo_33 zF)) zF a0 a1 a2 (0 : Int32) S
  else
    some ((-1 : Int32), S)))
noncomputable def f_Cl_apart (a0 : Nat) (a1 : Int64) (a3 : Int64) (S : zM) : Option (Int32 × zM) :=
  Option.bind (zcl S 11 a0 (f_Cl_noScript a0 S)) (fun p1 =>
  if p1.1 = (0 : Int32) then
    Option.bind (zgr p1.2 11 a0 4) (fun q2 =>
    Option.bind (zcl p1.2 8 q2 (f_Row_takeWord q2 a1 p1.2)) (fun p3 =>
    if p3.1 = (0 : Int32) then
      Option.bind (zcl p3.2 11 a0 (f_Cl_refuse a0 (2 : Int32) p3.2)) (fun p4 =>
      some (p4.1, p4.2))
    else
      Option.bind (zgr p3.2 11 a0 5) (fun q5 =>
      Option.bind (zcl p3.2 8 q5 (f_Row_takeWord q5 a3 p3.2)) (fun p6 =>
      if p6.1 = (0 : Int32) then
        Option.bind (zcl p6.2 11 a0 (f_Cl_refuse a0 (2 : Int32) p6.2)) (fun p7 =>
        some (p7.1, p7.2))
      else
        Option.bind (zgr p6.2 11 a0 3) (fun q8 =>
        Option.bind (zgr p6.2 11 a0 10) (fun q9 =>
        Option.bind (zgr p6.2 11 a0 4) (fun q10 =>
        Option.bind (zcl p6.2 1 q8 (f_Carrier_bring q8 q9 q10 (0 : Int32) p6.2)) (fun p11 =>
        if p11.1 = (0 : Int32) then
          Option.bind (zgr p11.2 11 a0 6) (fun q12 =>
          Option.bind (zgr p11.2 11 a0 3) (fun q13 =>
          Option.bind (zgr p11.2 1 q13 3) (fun q14 =>
          Option.bind (zcl p11.2 8 q12 (f_Row_copy q12 q14 p11.2)) (fun p15 =>
          Option.bind (zgr p15 11 a0 3) (fun q16 =>
          Option.bind (zgr p15 11 a0 10) (fun q17 =>
          Option.bind (zgr p15 11 a0 5) (fun q18 =>
          Option.bind (zcl p15 1 q16 (f_Carrier_bring q16 q17 q18 (0 : Int32) p15)) (fun p19 =>
          if p19.1 = (0 : Int32) then
            Option.bind (zgr p19.2 11 a0 6) (fun q20 =>
            Option.bind (zgr p19.2 11 a0 3) (fun q21 =>
            Option.bind (zgr p19.2 1 q21 3) (fun q22 =>
            Option.bind (zgr p19.2 11 a0 7) (fun q23 =>
            Option.bind (zcl p19.2 8 q20 (f_Row_changesTo q20 q22 q23 p19.2)) (fun p24 =>
            Option.bind (zcl p24.2 11 a0 (f_Cl_answer a0 p24.1 p24.2)) (fun p25 =>
            some (p25.1, p25.2)))))))
          else
            Option.bind (zcl p19.2 11 a0 (f_Cl_refuse a0 p19.1 p19.2)) (fun p26 =>
            some (p26.1, p26.2))))))))))
        else
          Option.bind (zcl p11.2 11 a0 (f_Cl_refuse a0 p11.1 p11.2)) (fun p27 =>
          some (p27.1, p27.2))))))))))
  else
    Option.bind (zcl p1.2 11 a0 (f_Cl_refuse a0 (1 : Int32) p1.2)) (fun p28 =>
    some (p28.1, p28.2)))
noncomputable def f_Cl_bringTurned (a0 : Nat) (a1 : Int64) (S : zM) : Option (Int32 × zM) :=
  Option.bind (zcl S 11 a0 (f_Cl_noScript a0 S)) (fun p1 =>
  if p1.1 = (0 : Int32) then
    Option.bind (zgr p1.2 11 a0 4) (fun q2 =>
    Option.bind (zcl p1.2 8 q2 (f_Row_takeWord q2 a1 p1.2)) (fun p3 =>
    if p3.1 = (0 : Int32) then
      some ((2 : Int32), p3.2)
    else
      Option.bind (zgr p3.2 11 a0 3) (fun q4 =>
      Option.bind (zgr p3.2 11 a0 10) (fun q5 =>
      Option.bind (zgr p3.2 11 a0 4) (fun q6 =>
      Option.bind (zcl p3.2 1 q4 (f_Carrier_bring q4 q5 q6 (1 : Int32) p3.2)) (fun p7 =>
      some (p7.1, p7.2)))))))
  else
    some ((1 : Int32), p1.2))
noncomputable def f_Cl_turned (a0 : Nat) (a1 : Int64) (S : zM) : Option (Int32 × zM) :=
  Option.bind (zcl S 11 a0 (f_Cl_bringTurned a0 a1 S)) (fun p1 =>
  if p1.1 = (0 : Int32) then
    Option.bind (zgr p1.2 11 a0 3) (fun q2 =>
    Option.bind (zgr p1.2 1 q2 3) (fun q3 =>
    Option.bind (zgf p1.2 8 q3 1) (fun x4 =>
    Option.bind (zcl p1.2 11 a0 (f_Cl_answer a0 x4 p1.2)) (fun p5 =>
    some (p5.1, p5.2)))))
  else
    Option.bind (zcl p1.2 11 a0 (f_Cl_refuse a0 p1.1 p1.2)) (fun p6 =>
    some (p6.1, p6.2)))
noncomputable def f_Cl_turnedOut (a0 : Nat) (a1 : Int64) (a3 : Int32) (S : zM) : Option (Int32 × zM) :=
  Option.bind (zcl S 11 a0 (f_Cl_bringTurned a0 a1 S)) (fun p1 =>
  if p1.1 = (0 : Int32) then
    Option.bind (zgr p1.2 11 a0 3) (fun q2 =>
    Option.bind (zgr p1.2 1 q2 3) (fun q3 =>
    Option.bind (zcl p1.2 11 a0 (f_Cl_answerLetter a0 q3 a3 p1.2)) (fun p4 =>
    some (p4.1, p4.2))))
  else
    Option.bind (zcl p1.2 11 a0 (f_Cl_refuse a0 p1.1 p1.2)) (fun p5 =>
    some (p5.1, p5.2)))
noncomputable def f_Cl_troubleUpTo (a0 : Nat) (a1 : Int32) (a2 : Int32) (S : zM) : Option (Int32 × zM) :=
  Option.bind (zcl S 11 a0 (f_Cl_noScript a0 S)) (fun p1 =>
  if p1.1 = (0 : Int32) then
    if a2 = (0 : Int32) then
      some ((1 : Int32), p1.2)
    else
      if a1 < (1 : Int32) then
        some ((2 : Int32), p1.2)
      else
        if a1 ≤ (5 : Int32) then
          some ((0 : Int32), p1.2)
        else
          some ((2 : Int32), p1.2)
  else
    some ((1 : Int32), p1.2))
noncomputable def L_Cl_countUpTo_7 : Nat → Int32 → Int32 → Int32 → Int32 → Int32 → zM → Option (Int32 × zM)
  | 0, _, _, _, _, _, _ => none
  | n + 1, a0, a1, a2, a3, a4, S =>
  if a4 < a1 then
    if a4 < (5 : Int32) then
      L_Cl_countUpTo_7 n a0 a1 (a2 + (a3 * a0)) (a3 * a0) (a4 + (1 : Int32)) S
    else
      some (a2, S)
  else
    some (a2, S)
noncomputable def f_Cl_countUpTo (a0 : Int32) (a1 : Int32) (S : zM) : Option (Int32 × zM) :=
  L_Cl_countUpTo_7 zF a0 a1 (0 : Int32) (1 : Int32) (0 : Int32) S
noncomputable def f_Cl_words (a0 : Nat) (a1 : Int32) (S : zM) : Option (Int32 × zM) :=
  Option.bind (zcl S 11 a0 (f_Cl_troubleUpTo a0 a1 (1 : Int32) S)) (fun p1 =>
  if p1.1 = (0 : Int32) then
    Option.bind (zgr p1.2 11 a0 10) (fun q2 =>
    Option.bind (zgf p1.2 10 q2 3) (fun x3 =>
    Option.bind (f_Cl_countUpTo x3 a1 p1.2) (fun p4 =>
    Option.bind (zcl p4.2 11 a0 (f_Cl_answer a0 p4.1 p4.2)) (fun p5 =>
    some (p5.1, p5.2)))))
  else
    Option.bind (zcl p1.2 11 a0 (f_Cl_refuse a0 p1.1 p1.2)) (fun p6 =>
    some (p6.1, p6.2)))
noncomputable def f_Outcomes_init (a0 : Nat) (S : zM) : Option zM :=
  if (1364 : Int32) < 0 ∨ 10000 ≤ ((1364 : Int32)).toNatClampNeg then none else
  Option.bind (zpr (zalloc S 100 ((1364 : Int32)).toNatClampNeg ((1364 : Int32)).toNatClampNeg) 4 a0 0 (some (zn S + 1))) (fun S1 =>
  if (4092 : Int32) < 0 ∨ 10000 ≤ ((4092 : Int32)).toNatClampNeg then none else
  Option.bind (zpr (zalloc S1 101 ((4092 : Int32)).toNatClampNeg ((4092 : Int32)).toNatClampNeg) 4 a0 1 (some (zn S1 + 1))) (fun S2 =>
  if (2048 : Int32) < 0 ∨ 10000 ≤ ((2048 : Int32)).toNatClampNeg then none else
  Option.bind (zpr (zalloc S2 100 ((2048 : Int32)).toNatClampNeg ((2048 : Int32)).toNatClampNeg) 4 a0 2 (some (zn S2 + 1))) (fun S3 =>
  some S3)))
noncomputable def f_Census_init (a0 : Nat) (S : zM) : Option zM :=
  Option.bind (zcl (zalloc S 4 0 3) 4 (zn S + 1) (f_Outcomes_init (zn S + 1) (zalloc S 4 0 3))) (fun p1 =>
  Option.bind (zpr p1 2 a0 0 (some (zn S + 1))) (fun S2 =>
  Option.bind (zcl (zalloc S2 4 0 3) 4 (zn S2 + 1) (f_Outcomes_init (zn S2 + 1) (zalloc S2 4 0 3))) (fun p3 =>
  Option.bind (zpr p3 2 a0 1 (some (zn S2 + 1))) (fun S4 =>
  Option.bind (zcl (zalloc S4 1 0 6) 1 (zn S4 + 1) (f_Carrier_init (zn S4 + 1) (zalloc S4 1 0 6))) (fun p5 =>
  Option.bind (zpr p5 2 a0 2 (some (zn S4 + 1))) (fun S6 =>
  Option.bind (zcl (zalloc S6 8 0 2) 8 (zn S6 + 1) (f_Row_init (zn S6 + 1) (8 : Int32) (zalloc S6 8 0 2))) (fun p7 =>
  Option.bind (zpr p7 2 a0 3 (some (zn S6 + 1))) (fun S8 =>
  Option.bind (zcl (zalloc S8 8 0 2) 8 (zn S8 + 1) (f_Row_init (zn S8 + 1) (60 : Int32) (zalloc S8 8 0 2))) (fun p9 =>
  Option.bind (zpr p9 2 a0 4 (some (zn S8 + 1))) (fun S10 =>
  if (1364 : Int32) < 0 ∨ 10000 ≤ ((1364 : Int32)).toNatClampNeg then none else
  Option.bind (zpr (zalloc S10 100 ((1364 : Int32)).toNatClampNeg ((1364 : Int32)).toNatClampNeg) 2 a0 5 (some (zn S10 + 1))) (fun S11 =>
  if (1364 : Int32) < 0 ∨ 10000 ≤ ((1364 : Int32)).toNatClampNeg then none else
  Option.bind (zpr (zalloc S11 100 ((1364 : Int32)).toNatClampNeg ((1364 : Int32)).toNatClampNeg) 2 a0 6 (some (zn S11 + 1))) (fun S12 =>
  if (1364 : Int32) < 0 ∨ 10000 ≤ ((1364 : Int32)).toNatClampNeg then none else
  Option.bind (zpr (zalloc S12 102 ((1364 : Int32)).toNatClampNeg ((1364 : Int32)).toNatClampNeg) 2 a0 7 (some (zn S12 + 1))) (fun S13 =>
  if (6 : Int32) < 0 ∨ 10000 ≤ ((6 : Int32)).toNatClampNeg then none else
  Option.bind (zpr (zalloc S13 100 ((6 : Int32)).toNatClampNeg ((6 : Int32)).toNatClampNeg) 2 a0 8 (some (zn S13 + 1))) (fun S14 =>
  Option.bind (zgr S14 2 a0 8) (fun q15 =>
  Option.bind (f_J_fill q15 (-3 : Int32) S14) (fun p16 =>
  some p16))))))))))))))))
noncomputable def f_Census_count (a0 : Nat) (a1 : Int32) (S : zM) : Option (Int32 × zM) :=
  if (zh S a0).1 = 2 then (match zR S a0 9 with
  | some q1 => Option.bind (zgr S 2 a0 9) (fun q2 =>
    Option.bind (zgf S 10 q2 3) (fun x3 =>
    Option.bind (f_Cl_countUpTo x3 a1 S) (fun p4 =>
    some ((zmin (1364 : Int32) p4.1), p4.2))))
  | none => some ((0 : Int32), S)) else none
noncomputable def L_Census_spelled_30 : Nat → Nat → Int64 → Int32 → Int32 → zM → Option (Int64 × zM)
  | 0, _, _, _, _, _ => none
  | n + 1, a0, a2, a4, a5, S =>
  if a5 < (5 : Int32) then
    if a4 < (0 : Int32) then
      some (a2, S)
    else
      Option.bind (zgr S 2 a0 9) (fun q1 =>
      Option.bind (zgf S 10 q1 3) (fun x2 =>
      if x2 = 0 then none else
      Option.bind (zgr S 2 a0 9) (fun q3 =>
      Option.bind (zgf S 10 q3 3) (fun x4 =>
      if x4 = 0 then none else
      L_Census_spelled_30 n a0 (a2 ||| ((((97 : Int32) + (a4 - a4 / x2 * x2))).toInt64 <<< ((((8 : Int32) * a5)).toInt64 &&& 63))) ((a4 / x4) - (1 : Int32)) (a5 + (1 : Int32)) S))))
  else
    some (a2, S)
noncomputable def f_Census_spelled (a0 : Nat) (a1 : Int32) (S : zM) : Option (Int64 × zM) :=
  if (zh S a0).1 = 2 then (match zR S a0 9 with
  | some q1 => Option.bind (zgr S 2 a0 9) (fun q2 =>
    Option.bind (zgf S 10 q2 3) (fun x3 =>
    if x3 < (1 : Int32) then
      some ((-1 : Int64), S)
    else
      L_Census_spelled_30 zF a0 (0 : Int64) a1 (0 : Int32) S))
  | none => some ((-1 : Int64), S)) else none
noncomputable def L_Row_block_12 : Nat → Nat → Int64 → Int32 → Int32 → zM → Option (Int64 × zM)
  | 0, _, _, _, _, _ => none
  | n + 1, a0, a2, a4, a5, S =>
  if a5 < (a4 + (20 : Int32)) then
    Option.bind (zgf S 8 a0 1) (fun x1 =>
    if a5 < x1 then
      Option.bind (zcl S 8 a0 (f_Row_at a0 a5 S)) (fun p2 =>
      L_Row_block_12 n a0 ((a2 <<< (((3 : Int32)).toInt64 &&& 63)) ||| (p2.1).toInt64) a4 (a5 + (1 : Int32)) p2.2)
    else
      some (a2, S))
  else
    some (a2, S)
noncomputable def f_Row_block (a0 : Nat) (a1 : Int32) (S : zM) : Option (Int64 × zM) :=
  L_Row_block_12 zF a0 (1 : Int64) (a1 * (20 : Int32)) (a1 * (20 : Int32)) S
noncomputable def f_Outcomes_blockOf (a0 : Nat) (a1 : Int32) (a2 : Int32) (S : zM) : Option (Int64 × zM) :=
  if a1 < (0 : Int32) then
    some ((0 : Int64), S)
  else
    if a1 < (1364 : Int32) then
      if a2 < (0 : Int32) then
        some ((0 : Int64), S)
      else
        if a2 < (3 : Int32) then
          Option.bind (zgr S 4 a0 1) (fun q1 =>
          Option.bind (zgl S q1 ((a1 * (3 : Int32)) + a2)) (fun x2 =>
          some (x2, S)))
        else
          some ((0 : Int64), S)
    else
      some ((0 : Int64), S)
noncomputable def f_Outcomes_sameBlocks (a0 : Nat) (a1 : Int32) (a2 : Int32) (S : zM) : Option (Int32 × zM) :=
  Option.bind (zcl S 4 a0 (f_Outcomes_blockOf a0 a1 (0 : Int32) S)) (fun p1 =>
  Option.bind (zcl p1.2 4 a0 (f_Outcomes_blockOf a0 a2 (0 : Int32) p1.2)) (fun p2 =>
  if (lg_cmp p1.1 p2.1) = (0 : Int32) then
    Option.bind (zcl p2.2 4 a0 (f_Outcomes_blockOf a0 a1 (1 : Int32) p2.2)) (fun p3 =>
    Option.bind (zcl p3.2 4 a0 (f_Outcomes_blockOf a0 a2 (1 : Int32) p3.2)) (fun p4 =>
    if (lg_cmp p3.1 p4.1) = (0 : Int32) then
      Option.bind (zcl p4.2 4 a0 (f_Outcomes_blockOf a0 a1 (2 : Int32) p4.2)) (fun p5 =>
      Option.bind (zcl p5.2 4 a0 (f_Outcomes_blockOf a0 a2 (2 : Int32) p5.2)) (fun p6 =>
      if (lg_cmp p5.1 p6.1) = (0 : Int32) then
        if (1 : Int32) = 0 ∨ (1 : Int32) = 1 then some ((1 : Int32), p6.2) else none
      else
        if (0 : Int32) = 0 ∨ (0 : Int32) = 1 then some ((0 : Int32), p6.2) else none))
    else
      if (0 : Int32) = 0 ∨ (0 : Int32) = 1 then some ((0 : Int32), p4.2) else none))
  else
    if (0 : Int32) = 0 ∨ (0 : Int32) = 1 then some ((0 : Int32), p2.2) else none))
noncomputable def L_Outcomes_seat_43 : Nat → Nat → Int32 → Int32 → Int32 → zM → Option (Int32 × zM)
  | 0, _, _, _, _, _ => none
  | n + 1, a0, a1, a4, a5, S =>
  if a5 < (2048 : Int32) then
    Option.bind (zgr S 4 a0 2) (fun q1 =>
    Option.bind (zga S 100 q1 ((a4 + a5) &&& (2047 : Int32))) (fun x2 =>
    if x2 = (0 : Int32) then
      Option.bind (zgr S 4 a0 2) (fun q3 =>
      Option.bind (zpa S q3 ((a4 + a5) &&& (2047 : Int32)) (a1 + (1 : Int32))) (fun S4 =>
      some ((-1 : Int32), S4)))
    else
      Option.bind (zgr S 4 a0 2) (fun q5 =>
      Option.bind (zga S 100 q5 ((a4 + a5) &&& (2047 : Int32))) (fun x6 =>
      Option.bind (zcl S 4 a0 (f_Outcomes_sameBlocks a0 (x6 - (1 : Int32)) a1 S)) (fun p7 =>
      if p7.1 = (0 : Int32) then
        L_Outcomes_seat_43 n a0 a1 a4 (a5 + (1 : Int32)) p7.2
      else
        Option.bind (zgr p7.2 4 a0 2) (fun q8 =>
        Option.bind (zga p7.2 100 q8 ((a4 + a5) &&& (2047 : Int32))) (fun x9 =>
        some ((x9 - (1 : Int32)), p7.2))))))))
  else
    some ((-1 : Int32), S)
noncomputable def f_Outcomes_seat (a0 : Nat) (a1 : Int32) (S : zM) : Option (Int32 × zM) :=
  Option.bind (zcl S 4 a0 (f_Outcomes_blockOf a0 a1 (0 : Int32) S)) (fun p1 =>
  Option.bind (zcl p1.2 4 a0 (f_Outcomes_blockOf a0 a1 (1 : Int32) p1.2)) (fun p2 =>
  Option.bind (zcl p2.2 4 a0 (f_Outcomes_blockOf a0 a1 (2 : Int32) p2.2)) (fun p3 =>
  L_Outcomes_seat_43 zF a0 a1 ((((((((p1.1 * (31 : Int64)) + p2.1) * (31 : Int64)) + p3.1) * (-7046029254386353131 : Int64))).toUInt64 >>> (((53 : Int32)).toInt64.toUInt64 &&& Int64.toUInt64 63)).toInt64).toInt32 (0 : Int32) p3.2)))
noncomputable def L_Outcomes_put_40 : Nat → Nat → Int32 → Nat → Int32 → zM → Option (Int32 × zM)
  | 0, _, _, _, _, _ => none
  | n + 1, a0, a1, a3, a4, S =>
  if a4 < (3 : Int32) then
    Option.bind (zgr S 4 a0 1) (fun q1 =>
    Option.bind (zcl S 8 a3 (f_Row_block a3 a4 S)) (fun p2 =>
    Option.bind (zpl p2.2 q1 ((a1 * (3 : Int32)) + a4) p2.1) (fun S3 =>
    L_Outcomes_put_40 n a0 a1 a3 (a4 + (1 : Int32)) S3)))
  else
    Option.bind (zcl S 4 a0 (f_Outcomes_seat a0 a1 S)) (fun p4 =>
    some (p4.1, p4.2))
noncomputable def f_Outcomes_put (a0 : Nat) (a1 : Int32) (a2 : Int32) (a3 : Nat) (S : zM) : Option (Int32 × zM) :=
  if a1 < (0 : Int32) then
    some ((-1 : Int32), S)
  else
    if a1 < (1364 : Int32) then
      if a2 = (0 : Int32) then
        Option.bind (zgr S 4 a0 0) (fun q1 =>
        Option.bind (zgf S 8 a3 1) (fun x2 =>
        Option.bind (zpa S q1 a1 x2) (fun S3 =>
        L_Outcomes_put_40 zF a0 a1 a3 (0 : Int32) S3)))
      else
        Option.bind (zgr S 4 a0 0) (fun q4 =>
        Option.bind (zpa S q4 a1 (-a2)) (fun S5 =>
        some ((-1 : Int32), S5)))
    else
      some ((-1 : Int32), S)
noncomputable def L_Census_learn_17 : Nat → Nat → Nat → Int32 → Int32 → zM → Option zM
  | 0, _, _, _, _, _ => none
  | n + 1, a0, a1, a3, a4, S =>
  if a4 < a3 then
    Option.bind (zgr S 2 a0 3) (fun q1 =>
    Option.bind (zcl S 2 a0 (f_Census_spelled a0 a4 S)) (fun p2 =>
    Option.bind (zcl p2.2 8 q1 (f_Row_takeWord q1 p2.1 p2.2)) (fun p3 =>
    Option.bind (zgr p3.2 2 a0 2) (fun q4 =>
    Option.bind (zgr p3.2 2 a0 3) (fun q5 =>
    Option.bind (zcl p3.2 1 q4 (f_Carrier_bring q4 a1 q5 (0 : Int32) p3.2)) (fun p6 =>
    Option.bind (zgr p6.2 2 a0 6) (fun q7 =>
    Option.bind (zgr p6.2 2 a0 0) (fun q8 =>
    Option.bind (zgr p6.2 2 a0 2) (fun q9 =>
    Option.bind (zgr p6.2 1 q9 3) (fun q10 =>
    Option.bind (zcl p6.2 4 q8 (f_Outcomes_put q8 a4 p6.1 q10 p6.2)) (fun p11 =>
    Option.bind (zpa p11.2 q7 a4 p11.1) (fun S12 =>
    Option.bind (zgr S12 2 a0 5) (fun q13 =>
    Option.bind (zgr S12 2 a0 2) (fun q14 =>
    Option.bind (zgf S12 1 q14 5) (fun x15 =>
    Option.bind (zpa S12 q13 a4 x15) (fun S16 =>
    L_Census_learn_17 n a0 a1 a3 (a4 + (1 : Int32)) S16))))))))))))))))
  else
    Option.bind (zgf S 2 a0 10) (fun x17 =>
    Option.bind (zpf S 2 a0 10 (zmax x17 a3)) (fun S18 =>
    some S18))
noncomputable def f_Census_learn (a0 : Nat) (a1 : Nat) (a2 : Int32) (S : zM) : Option zM :=
  Option.bind (zpr S 2 a0 9 (some a1)) (fun S1 =>
  Option.bind (zcl S1 2 a0 (f_Census_count a0 a2 S1)) (fun p2 =>
  Option.bind (zgf p2.2 2 a0 10) (fun x3 =>
  L_Census_learn_17 zF a0 a1 p2.1 x3 p2.2)))
noncomputable def f_Cl_censusUpTo (a0 : Nat) (a1 : Int32) (S : zM) : Option (Nat × zM) :=
  if (zh S a0).1 = 11 then (match zR S a0 12 with
  | some q1 => Option.bind (zgr S 11 a0 12) (fun q2 =>
    Option.bind (zgr S 11 a0 10) (fun q3 =>
    Option.bind (zcl S 2 q2 (f_Census_learn q2 q3 a1 S)) (fun p4 =>
    if (zh p4 a0).1 = 11 then (match zR p4 a0 12 with
    | some q5 => some (q5, p4)
    | none => none) else none)))
  | none => Option.bind (zcl (zalloc S 2 0 12) 2 (zn S + 1) (f_Census_init (zn S + 1) (zalloc S 2 0 12))) (fun p6 =>
    Option.bind (zpr p6 11 a0 12 (some (zn S + 1))) (fun S7 =>
    Option.bind (zgr S7 11 a0 12) (fun q8 =>
    Option.bind (zgr S7 11 a0 10) (fun q9 =>
    Option.bind (zcl S7 2 q8 (f_Census_learn q8 q9 a1 S7)) (fun p10 =>
    if (zh p10 a0).1 = 11 then (match zR p10 a0 12 with
    | some q11 => some (q11, p10)
    | none => none) else none)))))) else none
noncomputable def L_Census_firstDoubled_8 : Nat → Nat → Int32 → Int32 → zM → Option (Int32 × zM)
  | 0, _, _, _, _ => none
  | n + 1, a0, a2, a3, S =>
  if a3 < a2 then
    Option.bind (zgr S 2 a0 6) (fun q1 =>
    Option.bind (zga S 100 q1 a3) (fun x2 =>
    if x2 = (-1 : Int32) then
      L_Census_firstDoubled_8 n a0 a2 (a3 + (1 : Int32)) S
    else
      some (a3, S)))
  else
    some ((-1 : Int32), S)
noncomputable def f_Census_firstDoubled (a0 : Nat) (a1 : Int32) (S : zM) : Option (Int32 × zM) :=
  Option.bind (zcl S 2 a0 (f_Census_count a0 a1 S)) (fun p1 =>
  L_Census_firstDoubled_8 zF a0 p1.1 (0 : Int32) p1.2)
noncomputable def f_Cl_reversible (a0 : Nat) (a1 : Int32) (S : zM) : Option (Int32 × zM) :=
  Option.bind (zcl S 11 a0 (f_Cl_troubleUpTo a0 a1 (1 : Int32) S)) (fun p1 =>
  if p1.1 = (0 : Int32) then
    Option.bind (zcl p1.2 11 a0 (f_Cl_censusUpTo a0 a1 p1.2)) (fun p2 =>
    Option.bind (zcl p2.2 2 p2.1 (f_Census_firstDoubled p2.1 a1 p2.2)) (fun p3 =>
    if p3.1 = (-1 : Int32) then
      Option.bind (zcl p3.2 11 a0 (f_Cl_answer a0 (1 : Int32) p3.2)) (fun p4 =>
      some (p4.1, p4.2))
    else
      Option.bind (zcl p3.2 11 a0 (f_Cl_answer a0 (0 : Int32) p3.2)) (fun p5 =>
      some (p5.1, p5.2))))
  else
    Option.bind (zcl p1.2 11 a0 (f_Cl_refuse a0 p1.1 p1.2)) (fun p6 =>
    some (p6.1, p6.2)))
noncomputable def f_Census_firstAlike (a0 : Nat) (a1 : Int32) (S : zM) : Option (Int32 × zM) :=
  if a1 < (0 : Int32) then
    some ((-1 : Int32), S)
  else
    if a1 < (1364 : Int32) then
      Option.bind (zgr S 2 a0 6) (fun q1 =>
      Option.bind (zga S 100 q1 a1) (fun x2 =>
      some (x2, S)))
    else
      some ((-1 : Int32), S)
noncomputable def f_Cl_answerWord (a0 : Nat) (a1 : Nat) (a2 : Int32) (S : zM) : Option (Int64 × zM) :=
  Option.bind (zpf S 11 a0 16 (0 : Int32)) (fun S1 =>
  Option.bind (zcl S1 2 a1 (f_Census_spelled a1 a2 S1)) (fun p2 =>
  some (p2.1, p2.2)))
noncomputable def f_Cl_failing (a0 : Nat) (a1 : Int32) (a2 : Int32) (S : zM) : Option (Int64 × zM) :=
  if a2 = (0 : Int32) then
    Option.bind (zcl S 11 a0 (f_Cl_troubleUpTo a0 a1 (1 : Int32) S)) (fun p1 =>
    if p1.1 = (0 : Int32) then
      Option.bind (zcl p1.2 11 a0 (f_Cl_censusUpTo a0 a1 p1.2)) (fun p2 =>
      Option.bind (zcl p2.2 2 p2.1 (f_Census_firstDoubled p2.1 a1 p2.2)) (fun p3 =>
      if p3.1 = (-1 : Int32) then
        Option.bind (zcl p3.2 11 a0 (f_Cl_refuse a0 (5 : Int32) p3.2)) (fun p4 =>
        some ((p4.1).toInt64, p4.2))
      else
        if a2 = (0 : Int32) then
          Option.bind (zcl p3.2 11 a0 (f_Cl_answerWord a0 p2.1 p3.1 p3.2)) (fun p5 =>
          some (p5.1, p5.2))
        else
          Option.bind (zcl p3.2 2 p2.1 (f_Census_firstAlike p2.1 p3.1 p3.2)) (fun p6 =>
          Option.bind (zcl p6.2 11 a0 (f_Cl_answerWord a0 p2.1 p6.1 p6.2)) (fun p7 =>
          some (p7.1, p7.2)))))
    else
      Option.bind (zcl p1.2 11 a0 (f_Cl_refuse a0 p1.1 p1.2)) (fun p8 =>
      some ((p8.1).toInt64, p8.2)))
  else
    if a2 = (1 : Int32) then
      Option.bind (zcl S 11 a0 (f_Cl_troubleUpTo a0 a1 (1 : Int32) S)) (fun p9 =>
      if p9.1 = (0 : Int32) then
        Option.bind (zcl p9.2 11 a0 (f_Cl_censusUpTo a0 a1 p9.2)) (fun p10 =>
        Option.bind (zcl p10.2 2 p10.1 (f_Census_firstDoubled p10.1 a1 p10.2)) (fun p11 =>
        if p11.1 = (-1 : Int32) then
          Option.bind (zcl p11.2 11 a0 (f_Cl_refuse a0 (5 : Int32) p11.2)) (fun p12 =>
          some ((p12.1).toInt64, p12.2))
        else
          if a2 = (0 : Int32) then
            Option.bind (zcl p11.2 11 a0 (f_Cl_answerWord a0 p10.1 p11.1 p11.2)) (fun p13 =>
            some (p13.1, p13.2))
          else
            Option.bind (zcl p11.2 2 p10.1 (f_Census_firstAlike p10.1 p11.1 p11.2)) (fun p14 =>
            Option.bind (zcl p14.2 11 a0 (f_Cl_answerWord a0 p10.1 p14.1 p14.2)) (fun p15 =>
            some (p15.1, p15.2)))))
      else
        Option.bind (zcl p9.2 11 a0 (f_Cl_refuse a0 p9.1 p9.2)) (fun p16 =>
        some ((p16.1).toInt64, p16.2)))
    else
      Option.bind (zcl S 11 a0 (f_Cl_troubleUpTo a0 a1 (0 : Int32) S)) (fun p17 =>
      if p17.1 = (0 : Int32) then
        Option.bind (zcl p17.2 11 a0 (f_Cl_censusUpTo a0 a1 p17.2)) (fun p18 =>
        Option.bind (zcl p18.2 2 p18.1 (f_Census_firstDoubled p18.1 a1 p18.2)) (fun p19 =>
        if p19.1 = (-1 : Int32) then
          Option.bind (zcl p19.2 11 a0 (f_Cl_refuse a0 (5 : Int32) p19.2)) (fun p20 =>
          some ((p20.1).toInt64, p20.2))
        else
          if a2 = (0 : Int32) then
            Option.bind (zcl p19.2 11 a0 (f_Cl_answerWord a0 p18.1 p19.1 p19.2)) (fun p21 =>
            some (p21.1, p21.2))
          else
            Option.bind (zcl p19.2 2 p18.1 (f_Census_firstAlike p18.1 p19.1 p19.2)) (fun p22 =>
            Option.bind (zcl p22.2 11 a0 (f_Cl_answerWord a0 p18.1 p22.1 p22.2)) (fun p23 =>
            some (p23.1, p23.2)))))
      else
        Option.bind (zcl p17.2 11 a0 (f_Cl_refuse a0 p17.1 p17.2)) (fun p24 =>
        some ((p24.1).toInt64, p24.2)))
noncomputable def L_Census_countDoubled_11 : Nat → Nat → Int32 → Int32 → Int32 → zM → Option (Int32 × zM)
  | 0, _, _, _, _, _ => none
  | n + 1, a0, a2, a3, a4, S =>
  if a4 < a2 then
    Option.bind (zgr S 2 a0 6) (fun q1 =>
    Option.bind (zga S 100 q1 a4) (fun x2 =>
    if x2 = (-1 : Int32) then
      L_Census_countDoubled_11 n a0 a2 (a3 + (0 : Int32)) (a4 + (1 : Int32)) S
    else
      L_Census_countDoubled_11 n a0 a2 (a3 + (1 : Int32)) (a4 + (1 : Int32)) S))
  else
    some (a3, S)
noncomputable def f_Census_countDoubled (a0 : Nat) (a1 : Int32) (S : zM) : Option (Int32 × zM) :=
  Option.bind (zcl S 2 a0 (f_Census_count a0 a1 S)) (fun p1 =>
  L_Census_countDoubled_11 zF a0 p1.1 (0 : Int32) (0 : Int32) p1.2)
noncomputable def f_Cl_doubled (a0 : Nat) (a1 : Int32) (S : zM) : Option (Int32 × zM) :=
  Option.bind (zcl S 11 a0 (f_Cl_troubleUpTo a0 a1 (1 : Int32) S)) (fun p1 =>
  if p1.1 = (0 : Int32) then
    Option.bind (zcl p1.2 11 a0 (f_Cl_censusUpTo a0 a1 p1.2)) (fun p2 =>
    Option.bind (zcl p2.2 2 p2.1 (f_Census_countDoubled p2.1 a1 p2.2)) (fun p3 =>
    Option.bind (zcl p3.2 11 a0 (f_Cl_answer a0 p3.1 p3.2)) (fun p4 =>
    some (p4.1, p4.2))))
  else
    Option.bind (zcl p1.2 11 a0 (f_Cl_refuse a0 p1.1 p1.2)) (fun p5 =>
    some (p5.1, p5.2)))
noncomputable def f_Outcomes_lengthOf (a0 : Nat) (a1 : Int32) (S : zM) : Option (Int32 × zM) :=
  if a1 < (0 : Int32) then
    some ((-6 : Int32), S)
  else
    if a1 < (1364 : Int32) then
      Option.bind (zgr S 4 a0 0) (fun q1 =>
      Option.bind (zga S 100 q1 a1) (fun x2 =>
      some (x2, S)))
    else
      some ((-6 : Int32), S)
noncomputable def f_Census_lengthOf (a0 : Nat) (a1 : Int32) (S : zM) : Option (Int32 × zM) :=
  Option.bind (zgr S 2 a0 0) (fun q1 =>
  Option.bind (zcl S 4 q1 (f_Outcomes_lengthOf q1 a1 S)) (fun p2 =>
  some (p2.1, p2.2)))
noncomputable def L_Census_countFailed_12 : Nat → Nat → Int32 → Int32 → Int32 → Int32 → zM → Option (Int32 × zM)
  | 0, _, _, _, _, _, _ => none
  | n + 1, a0, a2, a3, a4, a5, S =>
  if a5 < a3 then
    Option.bind (zcl S 2 a0 (f_Census_lengthOf a0 a5 S)) (fun p1 =>
    if p1.1 = (-a2) then
      L_Census_countFailed_12 n a0 a2 a3 (a4 + (1 : Int32)) (a5 + (1 : Int32)) p1.2
    else
      L_Census_countFailed_12 n a0 a2 a3 (a4 + (0 : Int32)) (a5 + (1 : Int32)) p1.2)
  else
    some (a4, S)
noncomputable def f_Census_countFailed (a0 : Nat) (a1 : Int32) (a2 : Int32) (S : zM) : Option (Int32 × zM) :=
  Option.bind (zcl S 2 a0 (f_Census_count a0 a1 S)) (fun p1 =>
  L_Census_countFailed_12 zF a0 a2 p1.1 (0 : Int32) (0 : Int32) p1.2)
noncomputable def f_Cl_fails (a0 : Nat) (a1 : Int32) (a2 : Int32) (S : zM) : Option (Int32 × zM) :=
  if a2 = (0 : Int32) then
    Option.bind (zcl S 11 a0 (f_Cl_troubleUpTo a0 a1 (1 : Int32) S)) (fun p1 =>
    if p1.1 = (0 : Int32) then
      Option.bind (zcl p1.2 11 a0 (f_Cl_censusUpTo a0 a1 p1.2)) (fun p2 =>
      if a2 = (0 : Int32) then
        Option.bind (zcl p2.2 2 p2.1 (f_Census_countFailed p2.1 a1 (6 : Int32) p2.2)) (fun p3 =>
        Option.bind (zcl p3.2 11 a0 (f_Cl_answer a0 p3.1 p3.2)) (fun p4 =>
        some (p4.1, p4.2)))
      else
        Option.bind (zcl p2.2 2 p2.1 (f_Census_countFailed p2.1 a1 (7 : Int32) p2.2)) (fun p5 =>
        Option.bind (zcl p5.2 11 a0 (f_Cl_answer a0 p5.1 p5.2)) (fun p6 =>
        some (p6.1, p6.2))))
    else
      Option.bind (zcl p1.2 11 a0 (f_Cl_refuse a0 p1.1 p1.2)) (fun p7 =>
      some (p7.1, p7.2)))
  else
    if a2 = (1 : Int32) then
      Option.bind (zcl S 11 a0 (f_Cl_troubleUpTo a0 a1 (1 : Int32) S)) (fun p8 =>
      if p8.1 = (0 : Int32) then
        Option.bind (zcl p8.2 11 a0 (f_Cl_censusUpTo a0 a1 p8.2)) (fun p9 =>
        if a2 = (0 : Int32) then
          Option.bind (zcl p9.2 2 p9.1 (f_Census_countFailed p9.1 a1 (6 : Int32) p9.2)) (fun p10 =>
          Option.bind (zcl p10.2 11 a0 (f_Cl_answer a0 p10.1 p10.2)) (fun p11 =>
          some (p11.1, p11.2)))
        else
          Option.bind (zcl p9.2 2 p9.1 (f_Census_countFailed p9.1 a1 (7 : Int32) p9.2)) (fun p12 =>
          Option.bind (zcl p12.2 11 a0 (f_Cl_answer a0 p12.1 p12.2)) (fun p13 =>
          some (p13.1, p13.2))))
      else
        Option.bind (zcl p8.2 11 a0 (f_Cl_refuse a0 p8.1 p8.2)) (fun p14 =>
        some (p14.1, p14.2)))
    else
      Option.bind (zcl S 11 a0 (f_Cl_troubleUpTo a0 a1 (0 : Int32) S)) (fun p15 =>
      if p15.1 = (0 : Int32) then
        Option.bind (zcl p15.2 11 a0 (f_Cl_censusUpTo a0 a1 p15.2)) (fun p16 =>
        if a2 = (0 : Int32) then
          Option.bind (zcl p16.2 2 p16.1 (f_Census_countFailed p16.1 a1 (6 : Int32) p16.2)) (fun p17 =>
          Option.bind (zcl p17.2 11 a0 (f_Cl_answer a0 p17.1 p17.2)) (fun p18 =>
          some (p18.1, p18.2)))
        else
          Option.bind (zcl p16.2 2 p16.1 (f_Census_countFailed p16.1 a1 (7 : Int32) p16.2)) (fun p19 =>
          Option.bind (zcl p19.2 11 a0 (f_Cl_answer a0 p19.1 p19.2)) (fun p20 =>
          some (p20.1, p20.2))))
      else
        Option.bind (zcl p15.2 11 a0 (f_Cl_refuse a0 p15.1 p15.2)) (fun p21 =>
        some (p21.1, p21.2)))
noncomputable def L_Census_firstFailed_9 : Nat → Nat → Int32 → Int32 → Int32 → zM → Option (Int32 × zM)
  | 0, _, _, _, _, _ => none
  | n + 1, a0, a2, a3, a4, S =>
  if a4 < a3 then
    Option.bind (zcl S 2 a0 (f_Census_lengthOf a0 a4 S)) (fun p1 =>
    if p1.1 = (-a2) then
      some (a4, p1.2)
    else
      L_Census_firstFailed_9 n a0 a2 a3 (a4 + (1 : Int32)) p1.2)
  else
    some ((-1 : Int32), S)
noncomputable def f_Census_firstFailed (a0 : Nat) (a1 : Int32) (a2 : Int32) (S : zM) : Option (Int32 × zM) :=
  Option.bind (zcl S 2 a0 (f_Census_count a0 a1 S)) (fun p1 =>
  L_Census_firstFailed_9 zF a0 a2 p1.1 (0 : Int32) p1.2)
noncomputable def f_Cl_firstFail (a0 : Nat) (a1 : Int32) (a2 : Int32) (S : zM) : Option (Int64 × zM) :=
  if a2 = (0 : Int32) then
    Option.bind (zcl S 11 a0 (f_Cl_troubleUpTo a0 a1 (1 : Int32) S)) (fun p1 =>
    if p1.1 = (0 : Int32) then
      Option.bind (zcl p1.2 11 a0 (f_Cl_censusUpTo a0 a1 p1.2)) (fun p2 =>
      if a2 = (0 : Int32) then
        Option.bind (zcl p2.2 2 p2.1 (f_Census_firstFailed p2.1 a1 (6 : Int32) p2.2)) (fun p3 =>
        if p3.1 = (-1 : Int32) then
          Option.bind (zcl p3.2 11 a0 (f_Cl_refuse a0 (5 : Int32) p3.2)) (fun p4 =>
          some ((p4.1).toInt64, p4.2))
        else
          Option.bind (zcl p3.2 11 a0 (f_Cl_answerWord a0 p2.1 p3.1 p3.2)) (fun p5 =>
          some (p5.1, p5.2)))
      else
        Option.bind (zcl p2.2 2 p2.1 (f_Census_firstFailed p2.1 a1 (7 : Int32) p2.2)) (fun p6 =>
        if p6.1 = (-1 : Int32) then
          Option.bind (zcl p6.2 11 a0 (f_Cl_refuse a0 (5 : Int32) p6.2)) (fun p7 =>
          some ((p7.1).toInt64, p7.2))
        else
          Option.bind (zcl p6.2 11 a0 (f_Cl_answerWord a0 p2.1 p6.1 p6.2)) (fun p8 =>
          some (p8.1, p8.2))))
    else
      Option.bind (zcl p1.2 11 a0 (f_Cl_refuse a0 p1.1 p1.2)) (fun p9 =>
      some ((p9.1).toInt64, p9.2)))
  else
    if a2 = (1 : Int32) then
      Option.bind (zcl S 11 a0 (f_Cl_troubleUpTo a0 a1 (1 : Int32) S)) (fun p10 =>
      if p10.1 = (0 : Int32) then
        Option.bind (zcl p10.2 11 a0 (f_Cl_censusUpTo a0 a1 p10.2)) (fun p11 =>
        if a2 = (0 : Int32) then
          Option.bind (zcl p11.2 2 p11.1 (f_Census_firstFailed p11.1 a1 (6 : Int32) p11.2)) (fun p12 =>
          if p12.1 = (-1 : Int32) then
            Option.bind (zcl p12.2 11 a0 (f_Cl_refuse a0 (5 : Int32) p12.2)) (fun p13 =>
            some ((p13.1).toInt64, p13.2))
          else
            Option.bind (zcl p12.2 11 a0 (f_Cl_answerWord a0 p11.1 p12.1 p12.2)) (fun p14 =>
            some (p14.1, p14.2)))
        else
          Option.bind (zcl p11.2 2 p11.1 (f_Census_firstFailed p11.1 a1 (7 : Int32) p11.2)) (fun p15 =>
          if p15.1 = (-1 : Int32) then
            Option.bind (zcl p15.2 11 a0 (f_Cl_refuse a0 (5 : Int32) p15.2)) (fun p16 =>
            some ((p16.1).toInt64, p16.2))
          else
            Option.bind (zcl p15.2 11 a0 (f_Cl_answerWord a0 p11.1 p15.1 p15.2)) (fun p17 =>
            some (p17.1, p17.2))))
      else
        Option.bind (zcl p10.2 11 a0 (f_Cl_refuse a0 p10.1 p10.2)) (fun p18 =>
        some ((p18.1).toInt64, p18.2)))
    else
      Option.bind (zcl S 11 a0 (f_Cl_troubleUpTo a0 a1 (0 : Int32) S)) (fun p19 =>
      if p19.1 = (0 : Int32) then
        Option.bind (zcl p19.2 11 a0 (f_Cl_censusUpTo a0 a1 p19.2)) (fun p20 =>
        if a2 = (0 : Int32) then
          Option.bind (zcl p20.2 2 p20.1 (f_Census_firstFailed p20.1 a1 (6 : Int32) p20.2)) (fun p21 =>
          if p21.1 = (-1 : Int32) then
            Option.bind (zcl p21.2 11 a0 (f_Cl_refuse a0 (5 : Int32) p21.2)) (fun p22 =>
            some ((p22.1).toInt64, p22.2))
          else
            Option.bind (zcl p21.2 11 a0 (f_Cl_answerWord a0 p20.1 p21.1 p21.2)) (fun p23 =>
            some (p23.1, p23.2)))
        else
          Option.bind (zcl p20.2 2 p20.1 (f_Census_firstFailed p20.1 a1 (7 : Int32) p20.2)) (fun p24 =>
          if p24.1 = (-1 : Int32) then
            Option.bind (zcl p24.2 11 a0 (f_Cl_refuse a0 (5 : Int32) p24.2)) (fun p25 =>
            some ((p25.1).toInt64, p25.2))
          else
            Option.bind (zcl p24.2 11 a0 (f_Cl_answerWord a0 p20.1 p24.1 p24.2)) (fun p26 =>
            some (p26.1, p26.2))))
      else
        Option.bind (zcl p19.2 11 a0 (f_Cl_refuse a0 p19.1 p19.2)) (fun p27 =>
        some ((p27.1).toInt64, p27.2)))
noncomputable def f_Cl_troubleOfSource (a0 : Nat) (a1 : Int32) (a2 : Int64) (S : zM) : Option (Int32 × zM) :=
  Option.bind (zcl S 11 a0 (f_Cl_troubleUpTo a0 a1 (1 : Int32) S)) (fun p1 =>
  if p1.1 = (0 : Int32) then
    Option.bind (zgr p1.2 11 a0 4) (fun q2 =>
    Option.bind (zcl p1.2 8 q2 (f_Row_takeWord q2 a2 p1.2)) (fun p3 =>
    if p3.1 = (0 : Int32) then
      some ((2 : Int32), p3.2)
    else
      some ((0 : Int32), p3.2)))
  else
    some (p1.1, p1.2))
noncomputable def L_Outcomes_cameAs_16 : Nat → Nat → Int32 → Nat → Int32 → zM → Option (Int32 × zM)
  | 0, _, _, _, _, _ => none
  | n + 1, a0, a1, a2, a3, S =>
  if a3 < (3 : Int32) then
    Option.bind (zcl S 4 a0 (f_Outcomes_blockOf a0 a1 a3 S)) (fun p1 =>
    Option.bind (zcl p1.2 8 a2 (f_Row_block a2 a3 p1.2)) (fun p2 =>
    if (lg_cmp p1.1 p2.1) = (0 : Int32) then
      L_Outcomes_cameAs_16 n a0 a1 a2 (a3 + (1 : Int32)) p2.2
    else
      if (0 : Int32) = 0 ∨ (0 : Int32) = 1 then some ((0 : Int32), p2.2) else none))
  else
    if (1 : Int32) = 0 ∨ (1 : Int32) = 1 then some ((1 : Int32), S) else none
noncomputable def f_Outcomes_cameAs (a0 : Nat) (a1 : Int32) (a2 : Nat) (S : zM) : Option (Int32 × zM) :=
  Option.bind (zcl S 4 a0 (f_Outcomes_lengthOf a0 a1 S)) (fun p1 =>
  Option.bind (zgf p1.2 8 a2 1) (fun x2 =>
  if p1.1 = x2 then
    L_Outcomes_cameAs_16 zF a0 a1 a2 (0 : Int32) p1.2
  else
    if (0 : Int32) = 0 ∨ (0 : Int32) = 1 then some ((0 : Int32), p1.2) else none))
noncomputable def L_Census_countSources_12 : Nat → Nat → Nat → Int32 → Int32 → Int32 → zM → Option (Int32 × zM)
  | 0, _, _, _, _, _, _ => none
  | n + 1, a0, a2, a3, a4, a5, S =>
  if a5 < a3 then
    Option.bind (zgr S 2 a0 0) (fun q1 =>
    Option.bind (zcl S 4 q1 (f_Outcomes_cameAs q1 a5 a2 S)) (fun p2 =>
    if p2.1 = (0 : Int32) then
      L_Census_countSources_12 n a0 a2 a3 (a4 + (0 : Int32)) (a5 + (1 : Int32)) p2.2
    else
      L_Census_countSources_12 n a0 a2 a3 (a4 + (1 : Int32)) (a5 + (1 : Int32)) p2.2))
  else
    some (a4, S)
noncomputable def f_Census_countSources (a0 : Nat) (a1 : Int32) (a2 : Nat) (S : zM) : Option (Int32 × zM) :=
  Option.bind (zcl S 2 a0 (f_Census_count a0 a1 S)) (fun p1 =>
  L_Census_countSources_12 zF a0 a2 p1.1 (0 : Int32) (0 : Int32) p1.2)
noncomputable def f_Cl_sources (a0 : Nat) (a1 : Int32) (a2 : Int64) (S : zM) : Option (Int32 × zM) :=
  Option.bind (zcl S 11 a0 (f_Cl_troubleOfSource a0 a1 a2 S)) (fun p1 =>
  if p1.1 = (0 : Int32) then
    Option.bind (zcl p1.2 11 a0 (f_Cl_censusUpTo a0 a1 p1.2)) (fun p2 =>
    Option.bind (zgr p2.2 11 a0 4) (fun q3 =>
    Option.bind (zcl p2.2 2 p2.1 (f_Census_countSources p2.1 a1 q3 p2.2)) (fun p4 =>
    Option.bind (zcl p4.2 11 a0 (f_Cl_answer a0 p4.1 p4.2)) (fun p5 =>
    some (p5.1, p5.2)))))
  else
    Option.bind (zcl p1.2 11 a0 (f_Cl_refuse a0 p1.1 p1.2)) (fun p6 =>
    some (p6.1, p6.2)))
noncomputable def L_Census_sourceAt_13 : Nat → Nat → Nat → Int32 → Int32 → Int32 → Int32 → zM → Option (Int32 × zM)
  | 0, _, _, _, _, _, _, _ => none
  | n + 1, a0, a2, a3, a4, a5, a6, S =>
  if a6 < a4 then
    Option.bind (zgr S 2 a0 0) (fun q1 =>
    Option.bind (zcl S 4 q1 (f_Outcomes_cameAs q1 a6 a2 S)) (fun p2 =>
    if p2.1 = (0 : Int32) then
      L_Census_sourceAt_13 n a0 a2 a3 a4 a5 (a6 + (1 : Int32)) p2.2
    else
      if a5 = a3 then
        some (a6, p2.2)
      else
        L_Census_sourceAt_13 n a0 a2 a3 a4 (a5 + (1 : Int32)) (a6 + (1 : Int32)) p2.2))
  else
    some ((-1 : Int32), S)
noncomputable def f_Census_sourceAt (a0 : Nat) (a1 : Int32) (a2 : Nat) (a3 : Int32) (S : zM) : Option (Int32 × zM) :=
  Option.bind (zcl S 2 a0 (f_Census_count a0 a1 S)) (fun p1 =>
  L_Census_sourceAt_13 zF a0 a2 a3 p1.1 (0 : Int32) (0 : Int32) p1.2)
noncomputable def f_Cl_source (a0 : Nat) (a1 : Int32) (a2 : Int64) (a4 : Int32) (S : zM) : Option (Int64 × zM) :=
  Option.bind (zcl S 11 a0 (f_Cl_troubleOfSource a0 a1 a2 S)) (fun p1 =>
  if p1.1 = (0 : Int32) then
    Option.bind (zcl p1.2 11 a0 (f_Cl_censusUpTo a0 a1 p1.2)) (fun p2 =>
    Option.bind (zgr p2.2 11 a0 4) (fun q3 =>
    Option.bind (zcl p2.2 2 p2.1 (f_Census_sourceAt p2.1 a1 q3 a4 p2.2)) (fun p4 =>
    if p4.1 = (-1 : Int32) then
      Option.bind (zcl p4.2 11 a0 (f_Cl_refuse a0 (1 : Int32) p4.2)) (fun p5 =>
      some ((p5.1).toInt64, p5.2))
    else
      Option.bind (zcl p4.2 11 a0 (f_Cl_answerWord a0 p2.1 p4.1 p4.2)) (fun p6 =>
      some (p6.1, p6.2)))))
  else
    Option.bind (zcl p1.2 11 a0 (f_Cl_refuse a0 p1.1 p1.2)) (fun p7 =>
    some ((p7.1).toInt64, p7.2)))
noncomputable def L_Census_firstLongest_11 : Nat → Nat → Int32 → Int32 → Int32 → zM → Option (Int32 × zM)
  | 0, _, _, _, _, _ => none
  | n + 1, a0, a2, a3, a4, S =>
  if a4 < a2 then
    Option.bind (zcl S 2 a0 (f_Census_lengthOf a0 a4 S)) (fun p1 =>
    if p1.1 < (0 : Int32) then
      L_Census_firstLongest_11 n a0 a2 a3 (a4 + (1 : Int32)) p1.2
    else
      if a3 = (-1 : Int32) then
        L_Census_firstLongest_11 n a0 a2 a4 (a4 + (1 : Int32)) p1.2
      else
        Option.bind (zcl p1.2 2 a0 (f_Census_lengthOf a0 a4 p1.2)) (fun p2 =>
        Option.bind (zcl p2.2 2 a0 (f_Census_lengthOf a0 a3 p2.2)) (fun p3 =>
        if p2.1 ≤ p3.1 then
          L_Census_firstLongest_11 n a0 a2 a3 (a4 + (1 : Int32)) p3.2
        else
          L_Census_firstLongest_11 n a0 a2 a4 (a4 + (1 : Int32)) p3.2)))
  else
    some (a3, S)
noncomputable def f_Census_firstLongest (a0 : Nat) (a1 : Int32) (S : zM) : Option (Int32 × zM) :=
  Option.bind (zcl S 2 a0 (f_Census_count a0 a1 S)) (fun p1 =>
  L_Census_firstLongest_11 zF a0 p1.1 (-1 : Int32) (0 : Int32) p1.2)
noncomputable def f_Cl_longest (a0 : Nat) (a1 : Int32) (S : zM) : Option (Int32 × zM) :=
  Option.bind (zcl S 11 a0 (f_Cl_troubleUpTo a0 a1 (1 : Int32) S)) (fun p1 =>
  if p1.1 = (0 : Int32) then
    Option.bind (zcl p1.2 11 a0 (f_Cl_censusUpTo a0 a1 p1.2)) (fun p2 =>
    Option.bind (zcl p2.2 2 p2.1 (f_Census_firstLongest p2.1 a1 p2.2)) (fun p3 =>
    if p3.1 = (-1 : Int32) then
      Option.bind (zcl p3.2 11 a0 (f_Cl_answer a0 (-2 : Int32) p3.2)) (fun p4 =>
      some (p4.1, p4.2))
    else
      Option.bind (zcl p3.2 2 p2.1 (f_Census_lengthOf p2.1 p3.1 p3.2)) (fun p5 =>
      Option.bind (zcl p5.2 11 a0 (f_Cl_answer a0 p5.1 p5.2)) (fun p6 =>
      some (p6.1, p6.2)))))
  else
    Option.bind (zcl p1.2 11 a0 (f_Cl_refuse a0 p1.1 p1.2)) (fun p7 =>
    some (p7.1, p7.2)))
noncomputable def f_Cl_longestOf (a0 : Nat) (a1 : Int32) (S : zM) : Option (Int64 × zM) :=
  Option.bind (zcl S 11 a0 (f_Cl_troubleUpTo a0 a1 (1 : Int32) S)) (fun p1 =>
  if p1.1 = (0 : Int32) then
    Option.bind (zcl p1.2 11 a0 (f_Cl_censusUpTo a0 a1 p1.2)) (fun p2 =>
    Option.bind (zcl p2.2 2 p2.1 (f_Census_firstLongest p2.1 a1 p2.2)) (fun p3 =>
    if p3.1 = (-1 : Int32) then
      Option.bind (zcl p3.2 11 a0 (f_Cl_refuse a0 (5 : Int32) p3.2)) (fun p4 =>
      some ((p4.1).toInt64, p4.2))
    else
      Option.bind (zcl p3.2 11 a0 (f_Cl_answerWord a0 p2.1 p3.1 p3.2)) (fun p5 =>
      some (p5.1, p5.2))))
  else
    Option.bind (zcl p1.2 11 a0 (f_Cl_refuse a0 p1.1 p1.2)) (fun p6 =>
    some ((p6.1).toInt64, p6.2)))
noncomputable def L_Census_servingIn_12 : Nat → Nat → Int32 → Int32 → Int32 → Int32 → zM → Option (Int32 × zM)
  | 0, _, _, _, _, _, _ => none
  | n + 1, a0, a1, a3, a4, a5, S =>
  if a5 < a3 then
    Option.bind (zcl S 2 a0 (f_Census_lengthOf a0 a5 S)) (fun p1 =>
    if p1.1 < (0 : Int32) then
      L_Census_servingIn_12 n a0 a1 a3 a4 (a5 + (1 : Int32)) p1.2
    else
      Option.bind (zgr p1.2 2 a0 5) (fun q2 =>
      Option.bind (zga p1.2 100 q2 a5) (fun x3 =>
      L_Census_servingIn_12 n a0 a1 a3 (a4 ||| x3) (a5 + (1 : Int32)) p1.2)))
  else
    Option.bind (f_Cl_bitsBelow (8 : Int32) S) (fun p4 =>
    some (((a4 >>> ((a1 * (8 : Int32)) &&& 31)) &&& p4.1), p4.2))
noncomputable def f_Census_servingIn (a0 : Nat) (a1 : Int32) (a2 : Int32) (S : zM) : Option (Int32 × zM) :=
  Option.bind (zcl S 2 a0 (f_Census_count a0 a2 S)) (fun p1 =>
  L_Census_servingIn_12 zF a0 a1 p1.1 (0 : Int32) (0 : Int32) p1.2)
noncomputable def f_Cl_idle (a0 : Nat) (a1 : Int32) (a2 : Int32) (S : zM) : Option (Int32 × zM) :=
  Option.bind (zgr S 11 a0 10) (fun q1 =>
  Option.bind (zcl S 10 q1 (f_Script_passAt q1 a1 S)) (fun p2 =>
  match p2.1 with
  | some q3 => Option.bind (zcl p2.2 11 a0 (f_Cl_troubleUpTo a0 a2 (1 : Int32) p2.2)) (fun p4 =>
    if p4.1 = (0 : Int32) then
      Option.bind (zgf p4.2 5 q3 3) (fun x5 =>
      Option.bind (f_Cl_bitsBelow x5 p4.2) (fun p6 =>
      Option.bind (zcl p6.2 11 a0 (f_Cl_censusUpTo a0 a2 p6.2)) (fun p7 =>
      Option.bind (zcl p7.2 2 p7.1 (f_Census_servingIn p7.1 a1 a2 p7.2)) (fun p8 =>
      Option.bind (zcl p8.2 11 a0 (f_Cl_answer a0 (p6.1 &&& (p8.1 ^^^ (-1 : Int32))) p8.2)) (fun p9 =>
      some (p9.1, p9.2))))))
    else
      Option.bind (zcl p4.2 11 a0 (f_Cl_refuse a0 p4.1 p4.2)) (fun p10 =>
      some (p10.1, p10.2)))
  | none => Option.bind (zcl p2.2 11 a0 (f_Cl_troubleUpTo a0 a2 (0 : Int32) p2.2)) (fun p11 =>
    if p11.1 = (0 : Int32) then
      Option.bind (zcl p11.2 11 a0 (f_Cl_refuse a0 p11.1 p11.2)) (fun p12 =>
      some (p12.1, p12.2))
    else
      Option.bind (zcl p11.2 11 a0 (f_Cl_refuse a0 p11.1 p11.2)) (fun p13 =>
      some (p13.1, p13.2)))))
noncomputable def L_Row_addBlock_5 : Nat → Nat → Int64 → Int32 → zM → Option zM
  | 0, _, _, _, _ => none
  | n + 1, a0, a1, a4, S =>
  if a4 < (0 : Int32) then
    some S
  else
    Option.bind (zcl S 8 a0 (f_Row_add a0 ((((a1).toUInt64 >>> ((((3 : Int32) * a4)).toInt64.toUInt64 &&& Int64.toUInt64 63)).toInt64).toInt32 &&& (7 : Int32)) S)) (fun p1 =>
    L_Row_addBlock_5 n a0 a1 (a4 + (-1 : Int32)) p1.2)
noncomputable def f_Row_addBlock (a0 : Nat) (a1 : Int64) (a3 : Int32) (S : zM) : Option zM :=
  L_Row_addBlock_5 zF a0 a1 (a3 - (1 : Int32)) S
noncomputable def L_Outcomes_into_6 : Nat → Nat → Int32 → Nat → Int32 → zM → Option zM
  | 0, _, _, _, _, _ => none
  | n + 1, a0, a1, a2, a3, S =>
  if a3 < (3 : Int32) then
    Option.bind (zcl S 4 a0 (f_Outcomes_lengthOf a0 a1 S)) (fun p1 =>
    Option.bind (zcl p1.2 4 a0 (f_Outcomes_blockOf a0 a1 a3 p1.2)) (fun p2 =>
    Option.bind (zcl p2.2 8 a2 (f_Row_addBlock a2 p2.1 (zmin (p1.1 - (a3 * (20 : Int32))) (20 : Int32)) p2.2)) (fun p3 =>
    L_Outcomes_into_6 n a0 a1 a2 (a3 + (1 : Int32)) p3)))
  else
    some S
noncomputable def f_Outcomes_into (a0 : Nat) (a1 : Int32) (a2 : Nat) (S : zM) : Option zM :=
  Option.bind (zcl S 8 a2 (f_Row_drop a2 S)) (fun p1 =>
  L_Outcomes_into_6 zF a0 a1 a2 (0 : Int32) p1)
noncomputable def f_Census_comesBack (a0 : Nat) (a1 : Int32) (S : zM) : Option (Int32 × zM) :=
  if (zh S a0).1 = 2 then (match zR S a0 9 with
  | some q1 => Option.bind (zgr S 2 a0 0) (fun q2 =>
    Option.bind (zgr S 2 a0 4) (fun q3 =>
    Option.bind (zcl S 4 q2 (f_Outcomes_into q2 a1 q3 S)) (fun p4 =>
    Option.bind (zgr p4 2 a0 3) (fun q5 =>
    Option.bind (zcl p4 2 a0 (f_Census_spelled a0 a1 p4)) (fun p6 =>
    Option.bind (zcl p6.2 8 q5 (f_Row_takeWord q5 p6.1 p6.2)) (fun p7 =>
    Option.bind (zgr p7.2 2 a0 2) (fun q8 =>
    Option.bind (zgr p7.2 2 a0 9) (fun q9 =>
    Option.bind (zgr p7.2 2 a0 4) (fun q10 =>
    Option.bind (zcl p7.2 1 q8 (f_Carrier_bring q8 q9 q10 (1 : Int32) p7.2)) (fun p11 =>
    if p11.1 = (0 : Int32) then
      Option.bind (zgr p11.2 2 a0 2) (fun q12 =>
      Option.bind (zgr p11.2 1 q12 3) (fun q13 =>
      Option.bind (zgr p11.2 2 a0 3) (fun q14 =>
      Option.bind (zcl p11.2 8 q13 (f_Row_same q13 q14 p11.2)) (fun p15 =>
      if p15.1 = (0 : Int32) then
        if (0 : Int32) = 0 ∨ (0 : Int32) = 1 then some ((0 : Int32), p15.2) else none
      else
        if (1 : Int32) = 0 ∨ (1 : Int32) = 1 then some ((1 : Int32), p15.2) else none))))
    else
      if (0 : Int32) = 0 ∨ (0 : Int32) = 1 then some ((0 : Int32), p11.2) else none))))))))))
  | none => if (0 : Int32) = 0 ∨ (0 : Int32) = 1 then some ((0 : Int32), S) else none) else none
noncomputable def L_Census_learnBack_11 : Nat → Nat → Int32 → Int32 → zM → Option zM
  | 0, _, _, _, _ => none
  | n + 1, a0, a2, a3, S =>
  if a3 < a2 then
    Option.bind (zgr S 2 a0 7) (fun q1 =>
    Option.bind (zcl S 2 a0 (f_Census_lengthOf a0 a3 S)) (fun p2 =>
    if p2.1 < (0 : Int32) then
      Option.bind (zpb p2.2 q1 a3 (0 : Int32)) (fun S3 =>
      L_Census_learnBack_11 n a0 a2 (a3 + (1 : Int32)) S3)
    else
      Option.bind (zcl p2.2 2 a0 (f_Census_comesBack a0 a3 p2.2)) (fun p4 =>
      if p4.1 = (0 : Int32) then
        Option.bind (zpb p4.2 q1 a3 (0 : Int32)) (fun S5 =>
        L_Census_learnBack_11 n a0 a2 (a3 + (1 : Int32)) S5)
      else
        Option.bind (zpb p4.2 q1 a3 (1 : Int32)) (fun S6 =>
        L_Census_learnBack_11 n a0 a2 (a3 + (1 : Int32)) S6))))
  else
    Option.bind (zgf S 2 a0 11) (fun x7 =>
    Option.bind (zpf S 2 a0 11 (zmax x7 a2)) (fun S8 =>
    some S8))
noncomputable def f_Census_learnBack (a0 : Nat) (a1 : Int32) (S : zM) : Option zM :=
  Option.bind (zcl S 2 a0 (f_Census_count a0 a1 S)) (fun p1 =>
  Option.bind (zgf p1.2 2 a0 11) (fun x2 =>
  L_Census_learnBack_11 zF a0 p1.1 x2 p1.2))
noncomputable def L_Census_countBack_11 : Nat → Nat → Int32 → Int32 → Int32 → zM → Option (Int32 × zM)
  | 0, _, _, _, _, _ => none
  | n + 1, a0, a2, a3, a4, S =>
  if a4 < a2 then
    Option.bind (zgr S 2 a0 7) (fun q1 =>
    Option.bind (zga S 102 q1 a4) (fun x2 =>
    if x2 = (0 : Int32) then
      L_Census_countBack_11 n a0 a2 (a3 + (0 : Int32)) (a4 + (1 : Int32)) S
    else
      L_Census_countBack_11 n a0 a2 (a3 + (1 : Int32)) (a4 + (1 : Int32)) S))
  else
    some (a3, S)
noncomputable def f_Census_countBack (a0 : Nat) (a1 : Int32) (S : zM) : Option (Int32 × zM) :=
  Option.bind (zcl S 2 a0 (f_Census_count a0 a1 S)) (fun p1 =>
  L_Census_countBack_11 zF a0 p1.1 (0 : Int32) (0 : Int32) p1.2)
noncomputable def f_Cl_comeBack (a0 : Nat) (a1 : Int32) (S : zM) : Option (Int32 × zM) :=
  Option.bind (zcl S 11 a0 (f_Cl_troubleUpTo a0 a1 (1 : Int32) S)) (fun p1 =>
  if p1.1 = (0 : Int32) then
    Option.bind (zcl p1.2 11 a0 (f_Cl_censusUpTo a0 a1 p1.2)) (fun p2 =>
    Option.bind (zcl p2.2 2 p2.1 (f_Census_learnBack p2.1 a1 p2.2)) (fun p3 =>
    Option.bind (zcl p3 2 p2.1 (f_Census_countBack p2.1 a1 p3)) (fun p4 =>
    Option.bind (zcl p4.2 11 a0 (f_Cl_answer a0 p4.1 p4.2)) (fun p5 =>
    some (p5.1, p5.2)))))
  else
    Option.bind (zcl p1.2 11 a0 (f_Cl_refuse a0 p1.1 p1.2)) (fun p6 =>
    some (p6.1, p6.2)))
noncomputable def L_Census_firstLost_8 : Nat → Nat → Int32 → Int32 → zM → Option (Int32 × zM)
  | 0, _, _, _, _ => none
  | n + 1, a0, a2, a3, S =>
  if a3 < a2 then
    Option.bind (zcl S 2 a0 (f_Census_lengthOf a0 a3 S)) (fun p1 =>
    if p1.1 < (0 : Int32) then
      L_Census_firstLost_8 n a0 a2 (a3 + (1 : Int32)) p1.2
    else
      Option.bind (zgr p1.2 2 a0 7) (fun q2 =>
      Option.bind (zga p1.2 102 q2 a3) (fun x3 =>
      if x3 = (0 : Int32) then
        some (a3, p1.2)
      else
        L_Census_firstLost_8 n a0 a2 (a3 + (1 : Int32)) p1.2)))
  else
    some ((-1 : Int32), S)
noncomputable def f_Census_firstLost (a0 : Nat) (a1 : Int32) (S : zM) : Option (Int32 × zM) :=
  Option.bind (zcl S 2 a0 (f_Census_count a0 a1 S)) (fun p1 =>
  L_Census_firstLost_8 zF a0 p1.1 (0 : Int32) p1.2)
noncomputable def f_Cl_lost (a0 : Nat) (a1 : Int32) (S : zM) : Option (Int64 × zM) :=
  Option.bind (zcl S 11 a0 (f_Cl_troubleUpTo a0 a1 (1 : Int32) S)) (fun p1 =>
  if p1.1 = (0 : Int32) then
    Option.bind (zcl p1.2 11 a0 (f_Cl_censusUpTo a0 a1 p1.2)) (fun p2 =>
    Option.bind (zcl p2.2 2 p2.1 (f_Census_learnBack p2.1 a1 p2.2)) (fun p3 =>
    Option.bind (zcl p3 2 p2.1 (f_Census_firstLost p2.1 a1 p3)) (fun p4 =>
    if p4.1 = (-1 : Int32) then
      Option.bind (zcl p4.2 11 a0 (f_Cl_refuse a0 (5 : Int32) p4.2)) (fun p5 =>
      some ((p5.1).toInt64, p5.2))
    else
      Option.bind (zcl p4.2 11 a0 (f_Cl_answerWord a0 p2.1 p4.1 p4.2)) (fun p6 =>
      some (p6.1, p6.2)))))
  else
    Option.bind (zcl p1.2 11 a0 (f_Cl_refuse a0 p1.1 p1.2)) (fun p7 =>
    some ((p7.1).toInt64, p7.2)))
noncomputable def f_Script_turnAside (a0 : Nat) (a1 : Int32) (a2 : Int32) (S : zM) : Option zM :=
  Option.bind (zcl S 10 a0 (f_Script_passAt a0 a1 S)) (fun p1 =>
  match p1.1 with
  | some q2 => Option.bind (zcl p1.2 5 q2 (f_Pass_ruleAt q2 a2 p1.2)) (fun p3 =>
    match p3.1 with
    | some q4 => Option.bind (zgf p3.2 5 q2 5) (fun x5 =>
      Option.bind (zpf p3.2 5 q2 5 (x5 ^^^ ((1 : Int32) <<< (a2 &&& 31)))) (fun S6 =>
      some S6))
    | none => some p3.2)
  | none => some p1.2)
noncomputable def L_Outcomes_putSame_26 : Nat → Nat → Int32 → Nat → Int32 → zM → Option (Int32 × zM)
  | 0, _, _, _, _, _ => none
  | n + 1, a0, a1, a2, a3, S =>
  if a3 < (3 : Int32) then
    Option.bind (zgr S 4 a0 1) (fun q1 =>
    Option.bind (zcl S 4 a2 (f_Outcomes_blockOf a2 a1 a3 S)) (fun p2 =>
    Option.bind (zpl p2.2 q1 ((a1 * (3 : Int32)) + a3) p2.1) (fun S3 =>
    L_Outcomes_putSame_26 n a0 a1 a2 (a3 + (1 : Int32)) S3)))
  else
    Option.bind (zgr S 4 a0 0) (fun q4 =>
    Option.bind (zga S 100 q4 a1) (fun x5 =>
    if x5 < (0 : Int32) then
      some ((-1 : Int32), S)
    else
      Option.bind (zcl S 4 a0 (f_Outcomes_seat a0 a1 S)) (fun p6 =>
      some (p6.1, p6.2))))
noncomputable def f_Outcomes_putSame (a0 : Nat) (a1 : Int32) (a2 : Nat) (S : zM) : Option (Int32 × zM) :=
  if a1 < (0 : Int32) then
    some ((-1 : Int32), S)
  else
    if a1 < (1364 : Int32) then
      Option.bind (zgr S 4 a0 0) (fun q1 =>
      Option.bind (zcl S 4 a2 (f_Outcomes_lengthOf a2 a1 S)) (fun p2 =>
      Option.bind (zpa p2.2 q1 a1 p2.1) (fun S3 =>
      L_Outcomes_putSame_26 zF a0 a1 a2 (0 : Int32) S3)))
    else
      some ((-1 : Int32), S)
noncomputable def L_Census_doubledWithout_13 : Nat → Nat → Int32 → Int32 → Int32 → Int32 → Int32 → zM → Option (Int32 × zM)
  | 0, _, _, _, _, _, _, _ => none
  | n + 1, a0, a1, a2, a3, a4, a5, S =>
  if a5 < a2 then
    if a4 < a3 then
      Option.bind (zgr S 2 a0 5) (fun q1 =>
      Option.bind (zga S 100 q1 a5) (fun x2 =>
      if ((x2 >>> (a1 &&& 31)) &&& (1 : Int32)) = (0 : Int32) then
        Option.bind (zgr S 2 a0 1) (fun q3 =>
        Option.bind (zgr S 2 a0 0) (fun q4 =>
        Option.bind (zcl S 4 q3 (f_Outcomes_putSame q3 a5 q4 S)) (fun p5 =>
        if p5.1 = (-1 : Int32) then
          L_Census_doubledWithout_13 n a0 a1 a2 a3 (a4 + (0 : Int32)) (a5 + (1 : Int32)) p5.2
        else
          L_Census_doubledWithout_13 n a0 a1 a2 a3 (a4 + (1 : Int32)) (a5 + (1 : Int32)) p5.2)))
      else
        Option.bind (zgr S 2 a0 3) (fun q6 =>
        Option.bind (zcl S 2 a0 (f_Census_spelled a0 a5 S)) (fun p7 =>
        Option.bind (zcl p7.2 8 q6 (f_Row_takeWord q6 p7.1 p7.2)) (fun p8 =>
        Option.bind (zgr p8.2 2 a0 1) (fun q9 =>
        Option.bind (zgr p8.2 2 a0 2) (fun q10 =>
        Option.bind (zgr p8.2 2 a0 9) (fun q11 =>
        Option.bind (zgr p8.2 2 a0 3) (fun q12 =>
        Option.bind (zcl p8.2 1 q10 (f_Carrier_bring q10 q11 q12 (0 : Int32) p8.2)) (fun p13 =>
        Option.bind (zgr p13.2 2 a0 2) (fun q14 =>
        Option.bind (zgr p13.2 1 q14 3) (fun q15 =>
        Option.bind (zcl p13.2 4 q9 (f_Outcomes_put q9 a5 p13.1 q15 p13.2)) (fun p16 =>
        if p16.1 = (-1 : Int32) then
          L_Census_doubledWithout_13 n a0 a1 a2 a3 (a4 + (0 : Int32)) (a5 + (1 : Int32)) p16.2
        else
          L_Census_doubledWithout_13 n a0 a1 a2 a3 (a4 + (1 : Int32)) (a5 + (1 : Int32)) p16.2)))))))))))))
    else
      some (a4, S)
  else
    some (a4, S)
noncomputable def f_Census_doubledWithout (a0 : Nat) (a1 : Int32) (a2 : Int32) (a3 : Int32) (S : zM) : Option (Int32 × zM) :=
  Option.bind (zgr S 2 a0 1) (fun q1 =>
  Option.bind (zcl S 4 q1 (f_Outcomes_forget q1 S)) (fun p2 =>
  L_Census_doubledWithout_13 zF a0 a1 a2 a3 (0 : Int32) (0 : Int32) p2))
noncomputable def L_Census_worstRule_53 : Nat → Nat → Int32 → Int32 → Int32 → Int32 → zM → Option (Int32 × zM)
  | 0, _, _, _, _, _, _ => none
  | n + 1, a0, a1, a2, a3, a4, S =>
  if a4 < (24 : Int32) then
    if a2 ≤ (0 : Int32) then
      Option.bind (zgr S 2 a0 8) (fun q1 =>
      Option.bind (zpa S q1 a1 a3) (fun S2 =>
      some (a3, S2)))
    else
      if (8 : Int32) = 0 then none else
      if (8 : Int32) = 0 then none else
      Option.bind (zgr S 2 a0 9) (fun q3 =>
      Option.bind (zcl S 10 q3 (f_Script_ruleAt q3 (a4 / (8 : Int32)) (a4 - a4 / (8 : Int32) * (8 : Int32)) S)) (fun p4 =>
      match p4.1 with
      | some q5 => Option.bind (zgr p4.2 2 a0 9) (fun q6 =>
        Option.bind (zcl p4.2 10 q6 (f_Script_isAside q6 (a4 / (8 : Int32)) (a4 - a4 / (8 : Int32) * (8 : Int32)) p4.2)) (fun p7 =>
        if p7.1 = (0 : Int32) then
          Option.bind (zgr p7.2 2 a0 9) (fun q8 =>
          Option.bind (zcl p7.2 10 q8 (f_Script_turnAside q8 (a4 / (8 : Int32)) (a4 - a4 / (8 : Int32) * (8 : Int32)) p7.2)) (fun p9 =>
          Option.bind (zcl p9 2 a0 (f_Census_count a0 a1 p9)) (fun p10 =>
          Option.bind (zcl p10.2 2 a0 (f_Census_doubledWithout a0 a4 p10.1 a2 p10.2)) (fun p11 =>
          Option.bind (zgr p11.2 2 a0 9) (fun q12 =>
          Option.bind (zcl p11.2 10 q12 (f_Script_turnAside q12 (a4 / (8 : Int32)) (a4 - a4 / (8 : Int32) * (8 : Int32)) p11.2)) (fun p13 =>
          if p11.1 < a2 then
            L_Census_worstRule_53 n a0 a1 p11.1 (((10 : Int32) * (a4 / (8 : Int32))) + (a4 - a4 / (8 : Int32) * (8 : Int32))) (a4 + (1 : Int32)) p13
          else
            L_Census_worstRule_53 n a0 a1 a2 a3 (a4 + (1 : Int32)) p13))))))
        else
          L_Census_worstRule_53 n a0 a1 a2 a3 (a4 + (1 : Int32)) p7.2))
      | none => L_Census_worstRule_53 n a0 a1 a2 a3 (a4 + (1 : Int32)) p4.2))
  else
    Option.bind (zgr S 2 a0 8) (fun q14 =>
    Option.bind (zpa S q14 a1 a3) (fun S15 =>
    some (a3, S15)))
noncomputable def f_Census_worstRule (a0 : Nat) (a1 : Int32) (S : zM) : Option (Int32 × zM) :=
  if (zh S a0).1 = 2 then (match zR S a0 9 with
  | some q1 => if a1 < (0 : Int32) then
      some ((-2 : Int32), S)
    else
      Option.bind (zgr S 2 a0 8) (fun q2 =>
      Option.bind (zlen S q2) (fun x3 =>
      if a1 < x3 then
        Option.bind (zgr S 2 a0 8) (fun q4 =>
        Option.bind (zga S 100 q4 a1) (fun x5 =>
        if x5 = (-3 : Int32) then
          Option.bind (zcl S 2 a0 (f_Census_countDoubled a0 a1 S)) (fun p6 =>
          L_Census_worstRule_53 zF a0 a1 p6.1 (-2 : Int32) (0 : Int32) p6.2)
        else
          Option.bind (zgr S 2 a0 8) (fun q7 =>
          Option.bind (zga S 100 q7 a1) (fun x8 =>
          some (x8, S)))))
      else
        some ((-2 : Int32), S)))
  | none => some ((-2 : Int32), S)) else none
noncomputable def f_Cl_worst (a0 : Nat) (a1 : Int32) (S : zM) : Option (Int32 × zM) :=
  Option.bind (zcl S 11 a0 (f_Cl_troubleUpTo a0 a1 (1 : Int32) S)) (fun p1 =>
  if p1.1 = (0 : Int32) then
    Option.bind (zcl p1.2 11 a0 (f_Cl_censusUpTo a0 a1 p1.2)) (fun p2 =>
    Option.bind (zcl p2.2 2 p2.1 (f_Census_worstRule p2.1 a1 p2.2)) (fun p3 =>
    Option.bind (zcl p3.2 11 a0 (f_Cl_answer a0 p3.1 p3.2)) (fun p4 =>
    some (p4.1, p4.2))))
  else
    Option.bind (zcl p1.2 11 a0 (f_Cl_refuse a0 p1.1 p1.2)) (fun p5 =>
    some (p5.1, p5.2)))
noncomputable def f_Acts_keep (a0 : Nat) (a1 : Int32) (a2 : Int32) (S : zM) : Option zM :=
  Option.bind (zgf S 0 a0 1) (fun x1 =>
  if x1 < (12 : Int32) then
    Option.bind (zgr S 0 a0 0) (fun q2 =>
    Option.bind (zgf S 0 a0 1) (fun x3 =>
    Option.bind (zpa S q2 x3 ((a1 * (8 : Int32)) + a2)) (fun S4 =>
    Option.bind (zgf S4 0 a0 1) (fun x5 =>
    Option.bind (zpf S4 0 a0 1 (x5 + (1 : Int32))) (fun S6 =>
    some S6)))))
  else
    Option.bind (zgr S 0 a0 0) (fun q7 =>
    Option.bind (zgr S 0 a0 0) (fun q8 =>
    Option.bind (zcp S q7 (1 : Int32) q8 (0 : Int32) (11 : Int32)) (fun S9 =>
    Option.bind (zpf S9 0 a0 1 (11 : Int32)) (fun S10 =>
    Option.bind (zgr S10 0 a0 0) (fun q11 =>
    Option.bind (zgf S10 0 a0 1) (fun x12 =>
    Option.bind (zpa S10 q11 x12 ((a1 * (8 : Int32)) + a2)) (fun S13 =>
    Option.bind (zgf S13 0 a0 1) (fun x14 =>
    Option.bind (zpf S13 0 a0 1 (x14 + (1 : Int32))) (fun S15 =>
    some S15))))))))))
noncomputable def L_Script_asideCount_4 : Nat → Nat → Int32 → Int32 → zM → Option (Int32 × zM)
  | 0, _, _, _, _ => none
  | n + 1, a0, a1, a2, S =>
  Option.bind (zgf S 10 a0 5) (fun x1 =>
  if a2 < x1 then
    Option.bind (zcl S 10 a0 (f_Script_passAt a0 a2 S)) (fun p2 =>
    match p2.1 with
    | some q3 => Option.bind (zgf p2.2 5 q3 5) (fun x4 =>
      Option.bind (f_J_bitCount x4 p2.2) (fun p5 =>
      L_Script_asideCount_4 n a0 (a1 + p5.1) (a2 + (1 : Int32)) p5.2))
    | none => L_Script_asideCount_4 n a0 (a1 + (0 : Int32)) (a2 + (1 : Int32)) p2.2)
  else
    some (a1, S))
noncomputable def f_Script_asideCount (a0 : Nat) (S : zM) : Option (Int32 × zM) :=
  L_Script_asideCount_4 zF a0 (0 : Int32) (0 : Int32) S
noncomputable def f_Cl_aside (a0 : Nat) (a1 : Int32) (a2 : Int32) (a3 : Int32) (S : zM) : Option (Int32 × zM) :=
  Option.bind (zgr S 11 a0 10) (fun q1 =>
  Option.bind (zcl S 10 q1 (f_Script_ruleAt q1 a1 a2 S)) (fun p2 =>
  match p2.1 with
  | some q3 => if a3 = (0 : Int32) then
      Option.bind (zgr p2.2 11 a0 10) (fun q4 =>
      Option.bind (zcl p2.2 10 q4 (f_Script_isAside q4 a1 a2 p2.2)) (fun p5 =>
      if a3 = (1 : Int32) then
        if p5.1 = (1 : Int32) then
          Option.bind (zcl p5.2 11 a0 (f_Cl_refuse a0 (5 : Int32) p5.2)) (fun p6 =>
          some (p6.1, p6.2))
        else
          Option.bind (zgr p5.2 11 a0 10) (fun q7 =>
          Option.bind (zcl p5.2 10 q7 (f_Script_turnAside q7 a1 a2 p5.2)) (fun p8 =>
          Option.bind (zgr p8 11 a0 9) (fun q9 =>
          Option.bind (zcl p8 0 q9 (f_Acts_keep q9 a1 a2 p8)) (fun p10 =>
          Option.bind (zcl p10 11 a0 (f_Cl_forgetWords a0 p10)) (fun p11 =>
          Option.bind (zgr p11 11 a0 10) (fun q12 =>
          Option.bind (zcl p11 10 q12 (f_Script_asideCount q12 p11)) (fun p13 =>
          Option.bind (zcl p13.2 11 a0 (f_Cl_answer a0 p13.1 p13.2)) (fun p14 =>
          some (p14.1, p14.2)))))))))
      else
        if p5.1 = (0 : Int32) then
          Option.bind (zcl p5.2 11 a0 (f_Cl_refuse a0 (5 : Int32) p5.2)) (fun p15 =>
          some (p15.1, p15.2))
        else
          Option.bind (zgr p5.2 11 a0 10) (fun q16 =>
          Option.bind (zcl p5.2 10 q16 (f_Script_turnAside q16 a1 a2 p5.2)) (fun p17 =>
          Option.bind (zgr p17 11 a0 9) (fun q18 =>
          Option.bind (zcl p17 0 q18 (f_Acts_keep q18 a1 a2 p17)) (fun p19 =>
          Option.bind (zcl p19 11 a0 (f_Cl_forgetWords a0 p19)) (fun p20 =>
          Option.bind (zgr p20 11 a0 10) (fun q21 =>
          Option.bind (zcl p20 10 q21 (f_Script_asideCount q21 p20)) (fun p22 =>
          Option.bind (zcl p22.2 11 a0 (f_Cl_answer a0 p22.1 p22.2)) (fun p23 =>
          some (p23.1, p23.2)))))))))))
    else
      if a3 = (1 : Int32) then
        Option.bind (zgr p2.2 11 a0 10) (fun q24 =>
        Option.bind (zcl p2.2 10 q24 (f_Script_isAside q24 a1 a2 p2.2)) (fun p25 =>
        if a3 = (1 : Int32) then
          if p25.1 = (1 : Int32) then
            Option.bind (zcl p25.2 11 a0 (f_Cl_refuse a0 (5 : Int32) p25.2)) (fun p26 =>
            some (p26.1, p26.2))
          else
            Option.bind (zgr p25.2 11 a0 10) (fun q27 =>
            Option.bind (zcl p25.2 10 q27 (f_Script_turnAside q27 a1 a2 p25.2)) (fun p28 =>
            Option.bind (zgr p28 11 a0 9) (fun q29 =>
            Option.bind (zcl p28 0 q29 (f_Acts_keep q29 a1 a2 p28)) (fun p30 =>
            Option.bind (zcl p30 11 a0 (f_Cl_forgetWords a0 p30)) (fun p31 =>
            Option.bind (zgr p31 11 a0 10) (fun q32 =>
            Option.bind (zcl p31 10 q32 (f_Script_asideCount q32 p31)) (fun p33 =>
            Option.bind (zcl p33.2 11 a0 (f_Cl_answer a0 p33.1 p33.2)) (fun p34 =>
            some (p34.1, p34.2)))))))))
        else
          if p25.1 = (0 : Int32) then
            Option.bind (zcl p25.2 11 a0 (f_Cl_refuse a0 (5 : Int32) p25.2)) (fun p35 =>
            some (p35.1, p35.2))
          else
            Option.bind (zgr p25.2 11 a0 10) (fun q36 =>
            Option.bind (zcl p25.2 10 q36 (f_Script_turnAside q36 a1 a2 p25.2)) (fun p37 =>
            Option.bind (zgr p37 11 a0 9) (fun q38 =>
            Option.bind (zcl p37 0 q38 (f_Acts_keep q38 a1 a2 p37)) (fun p39 =>
            Option.bind (zcl p39 11 a0 (f_Cl_forgetWords a0 p39)) (fun p40 =>
            Option.bind (zgr p40 11 a0 10) (fun q41 =>
            Option.bind (zcl p40 10 q41 (f_Script_asideCount q41 p40)) (fun p42 =>
            Option.bind (zcl p42.2 11 a0 (f_Cl_answer a0 p42.1 p42.2)) (fun p43 =>
            some (p43.1, p43.2)))))))))))
      else
        Option.bind (zcl p2.2 11 a0 (f_Cl_refuse a0 (2 : Int32) p2.2)) (fun p44 =>
        some (p44.1, p44.2))
  | none => Option.bind (zcl p2.2 11 a0 (f_Cl_refuse a0 (1 : Int32) p2.2)) (fun p45 =>
    some (p45.1, p45.2))))
noncomputable def f_Acts_takeLatest (a0 : Nat) (S : zM) : Option (Int32 × zM) :=
  Option.bind (zgf S 0 a0 1) (fun x1 =>
  if x1 ≤ (0 : Int32) then
    some ((-1 : Int32), S)
  else
    Option.bind (zgf S 0 a0 1) (fun x2 =>
    if x2 ≤ (12 : Int32) then
      Option.bind (zgf S 0 a0 1) (fun x3 =>
      Option.bind (zpf S 0 a0 1 (x3 - (1 : Int32))) (fun S4 =>
      Option.bind (zgr S4 0 a0 0) (fun q5 =>
      Option.bind (zgf S4 0 a0 1) (fun x6 =>
      Option.bind (zga S4 100 q5 x6) (fun x7 =>
      some (x7, S4))))))
    else
      some ((-1 : Int32), S)))
noncomputable def f_Cl_undo (a0 : Nat) (S : zM) : Option (Int32 × zM) :=
  Option.bind (zgr S 11 a0 9) (fun q1 =>
  Option.bind (zcl S 0 q1 (f_Acts_takeLatest q1 S)) (fun p2 =>
  if p2.1 = (-1 : Int32) then
    Option.bind (zpf p2.2 11 a0 16 (1 : Int32)) (fun S3 =>
    if (0 : Int32) = 0 ∨ (0 : Int32) = 1 then some ((0 : Int32), S3) else none)
  else
    Option.bind (zgr p2.2 11 a0 10) (fun q4 =>
    if (8 : Int32) = 0 then none else
    if (8 : Int32) = 0 then none else
    Option.bind (zcl p2.2 10 q4 (f_Script_turnAside q4 (p2.1 / (8 : Int32)) (p2.1 - p2.1 / (8 : Int32) * (8 : Int32)) p2.2)) (fun p5 =>
    Option.bind (zcl p5 11 a0 (f_Cl_forgetWords a0 p5)) (fun p6 =>
    Option.bind (zpf p6 11 a0 16 (0 : Int32)) (fun S7 =>
    if (1 : Int32) = 0 ∨ (1 : Int32) = 1 then some ((1 : Int32), S7) else none))))))
noncomputable def f_Cl_size (a0 : Nat) (a1 : Int32) (S : zM) : Option (Int32 × zM) :=
  if a1 = (0 : Int32) then
    Option.bind (zgf S 11 a0 13) (fun x1 =>
    some (x1, S))
  else if a1 = (1 : Int32) then
    Option.bind (zgr S 11 a0 9) (fun q2 =>
    Option.bind (zgf S 0 q2 1) (fun x3 =>
    some (x3, S)))
  else if a1 = (2 : Int32) then
    Option.bind (zgf S 11 a0 17) (fun x4 =>
    if x4 = (0 : Int32) then
      some ((0 : Int32), S)
    else
      Option.bind (zgr S 11 a0 2) (fun q5 =>
      Option.bind (zgr S 1 q5 3) (fun q6 =>
      Option.bind (zgf S 8 q6 1) (fun x7 =>
      some (x7, S)))))
  else 
    some ((-1 : Int32), S)
noncomputable def f_Cl_trouble (a0 : Nat) (S : zM) : Option (Int32 × zM) :=
  Option.bind (zgf S 11 a0 16) (fun x1 =>
  some (x1, S))
