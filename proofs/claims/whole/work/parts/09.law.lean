noncomputable def F_Law_law_1972 (k23 : Nat → Nat → Nat → Nat → Int32 → zM → Option (Int32 × zM)) (a0 : Nat) (a1 : Nat) (a2 : Nat) (a3 : Nat) (a4 : Int32) (s0 : Int32) (S : zM) : Option (Int32 × zM) :=
  Option.bind (zga S 100 a0 (a4 + (1 : Int32))) (fun x1 =>
  Option.bind (zcl S 12 a2 (f_Mo_empty a2 x1 S)) (fun p2 =>
  Option.bind (zcl p2.2 12 a2 (f_Mo_thrown a2 p2.2)) (fun p3 =>
  if p3.1 = s0 then
    if s0 = (0 : Int32) then
      Option.bind (zgl p3.2 a3 (0 : Int32)) (fun x4 =>
      if (lg_cmp x4 (p2.1).toInt64) = (0 : Int32) then
        k23 a0 a1 a2 a3 (a4 + (6 : Int32)) p3.2
      else
        if (0 : Int32) = 0 ∨ (0 : Int32) = 1 then some ((0 : Int32), p3.2) else none)
    else
      k23 a0 a1 a2 a3 (a4 + (6 : Int32)) p3.2
  else
    if (0 : Int32) = 0 ∨ (0 : Int32) = 1 then some ((0 : Int32), p3.2) else none)))
noncomputable def F_Law_law_1969 (k1972 : Nat → Nat → Nat → Nat → Int32 → Int32 → zM → Option (Int32 × zM)) (a0 : Nat) (a1 : Nat) (a2 : Nat) (a3 : Nat) (a4 : Int32) (s0 : Nat) (s1 : Int32) (s2 : Nat) (S : zM) : Option (Int32 × zM) :=
  Option.bind (f_Law_empty s2 s1 s0 S) (fun p1 =>
  k1972 a0 a1 a2 a3 a4 p1.1 p1.2)
noncomputable def L_Law_law_23 : Nat → Nat → Nat → Nat → Nat → Int32 → zM → Option (Int32 × zM)
  | 0, _, _, _, _, _, _ => none
  | n + 1, a0, a1, a2, a3, a4, S =>
  Option.bind (zlen S a0) (fun x1 =>
  if a4 ≤ (x1 - (6 : Int32)) then
    Option.bind (zga S 100 a0 a4) (fun x2 =>
    if (x2 &&& (63 : Int32)) = (0 : Int32) then
      Option.bind (zga S 100 a0 (a4 + (1 : Int32))) (fun x3 =>
      Option.bind (zga S 100 a0 (a4 + (2 : Int32))) (fun x4 =>
      Option.bind (zga S 100 a0 (a4 + (3 : Int32))) (fun x5 =>
      Option.bind (zga S 100 a0 (a4 + (4 : Int32))) (fun x6 =>
      Option.bind (zga S 100 a0 (a4 + (5 : Int32))) (fun x7 =>
      Option.bind (zcl S 11 a1 (f_Cl_feed a1 x3 x4 x5 x6 x7 S)) (fun p8 =>
      Option.bind (zga p8.2 100 a0 (a4 + (1 : Int32))) (fun x9 =>
      Option.bind (zga p8.2 100 a0 (a4 + (2 : Int32))) (fun x10 =>
      Option.bind (zga p8.2 100 a0 (a4 + (3 : Int32))) (fun x11 =>
      Option.bind (zga p8.2 100 a0 (a4 + (4 : Int32))) (fun x12 =>
      Option.bind (zga p8.2 100 a0 (a4 + (5 : Int32))) (fun x13 =>
      Option.bind (zcl p8.2 12 a2 (f_Mo_feed a2 x9 x10 x11 x12 x13 p8.2)) (fun p14 =>
      if p8.1 = p14.1 then
        L_Law_law_23 n a0 a1 a2 a3 (a4 + (6 : Int32)) p14.2
      else
        if (0 : Int32) = 0 ∨ (0 : Int32) = 1 then some ((0 : Int32), p14.2) else none))))))))))))
    else if (x2 &&& (63 : Int32)) = (1 : Int32) then
      Option.bind (zga S 100 a0 (a4 + (1 : Int32))) (fun x15 =>
      Option.bind (zcl S 11 a1 (f_Cl_script a1 x15 S)) (fun p16 =>
      Option.bind (zga p16.2 100 a0 (a4 + (1 : Int32))) (fun x17 =>
      Option.bind (zcl p16.2 12 a2 (f_Mo_script a2 x17 p16.2)) (fun p18 =>
      if p16.1 = p18.1 then
        L_Law_law_23 n a0 a1 a2 a3 (a4 + (6 : Int32)) p18.2
      else
        if (0 : Int32) = 0 ∨ (0 : Int32) = 1 then some ((0 : Int32), p18.2) else none))))
    else if (x2 &&& (63 : Int32)) = (2 : Int32) then
      Option.bind (zcl S 11 a1 (f_Cl_fault a1 S)) (fun p19 =>
      Option.bind (zcl p19.2 12 a2 (f_Mo_fault a2 p19.2)) (fun p20 =>
      if p19.1 = p20.1 then
        L_Law_law_23 n a0 a1 a2 a3 (a4 + (6 : Int32)) p20.2
      else
        if (0 : Int32) = 0 ∨ (0 : Int32) = 1 then some ((0 : Int32), p20.2) else none))
    else if (x2 &&& (63 : Int32)) = (3 : Int32) then
      Option.bind (zcl S 11 a1 (f_Cl_where a1 S)) (fun p21 =>
      Option.bind (zcl p21.2 12 a2 (f_Mo_where a2 p21.2)) (fun p22 =>
      if p21.1 = p22.1 then
        L_Law_law_23 n a0 a1 a2 a3 (a4 + (6 : Int32)) p22.2
      else
        if (0 : Int32) = 0 ∨ (0 : Int32) = 1 then some ((0 : Int32), p22.2) else none))
    else if (x2 &&& (63 : Int32)) = (4 : Int32) then
      Option.bind (zga S 100 a0 (a4 + (1 : Int32))) (fun x23 =>
      Option.bind (zcl S 11 a1 (f_Cl_about a1 x23 S)) (fun p24 =>
      Option.bind (zga p24.2 100 a0 (a4 + (1 : Int32))) (fun x25 =>
      Option.bind (zcl p24.2 12 a2 (f_Mo_about a2 x25 p24.2)) (fun p26 =>
      if p24.1 = p26.1 then
        L_Law_law_23 n a0 a1 a2 a3 (a4 + (6 : Int32)) p26.2
      else
        if (0 : Int32) = 0 ∨ (0 : Int32) = 1 then some ((0 : Int32), p26.2) else none))))
    else if (x2 &&& (63 : Int32)) = (5 : Int32) then
      Option.bind (zga S 100 a0 (a4 + (1 : Int32))) (fun x27 =>
      Option.bind (zcl S 11 a1 (f_Cl_kind a1 x27 S)) (fun p28 =>
      Option.bind (zga p28.2 100 a0 (a4 + (1 : Int32))) (fun x29 =>
      Option.bind (zcl p28.2 12 a2 (f_Mo_kind a2 x29 p28.2)) (fun p30 =>
      if p28.1 = p30.1 then
        L_Law_law_23 n a0 a1 a2 a3 (a4 + (6 : Int32)) p30.2
      else
        if (0 : Int32) = 0 ∨ (0 : Int32) = 1 then some ((0 : Int32), p30.2) else none))))
    else if (x2 &&& (63 : Int32)) = (6 : Int32) then
      Option.bind (zga S 100 a0 (a4 + (1 : Int32))) (fun x31 =>
      Option.bind (zga S 100 a0 (a4 + (2 : Int32))) (fun x32 =>
      Option.bind (zcl S 11 a1 (f_Cl_pass a1 x31 x32 S)) (fun p33 =>
      Option.bind (zga p33.2 100 a0 (a4 + (1 : Int32))) (fun x34 =>
      Option.bind (zga p33.2 100 a0 (a4 + (2 : Int32))) (fun x35 =>
      Option.bind (zcl p33.2 12 a2 (f_Mo_pass a2 x34 x35 p33.2)) (fun p36 =>
      if p33.1 = p36.1 then
        L_Law_law_23 n a0 a1 a2 a3 (a4 + (6 : Int32)) p36.2
      else
        if (0 : Int32) = 0 ∨ (0 : Int32) = 1 then some ((0 : Int32), p36.2) else none))))))
    else if (x2 &&& (63 : Int32)) = (7 : Int32) then
      Option.bind (zga S 100 a0 (a4 + (1 : Int32))) (fun x37 =>
      Option.bind (zga S 100 a0 (a4 + (2 : Int32))) (fun x38 =>
      Option.bind (zga S 100 a0 (a4 + (3 : Int32))) (fun x39 =>
      Option.bind (zcl S 11 a1 (f_Cl_rule a1 x37 x38 x39 S)) (fun p40 =>
      Option.bind (zga p40.2 100 a0 (a4 + (1 : Int32))) (fun x41 =>
      Option.bind (zga p40.2 100 a0 (a4 + (2 : Int32))) (fun x42 =>
      Option.bind (zga p40.2 100 a0 (a4 + (3 : Int32))) (fun x43 =>
      Option.bind (zcl p40.2 12 a2 (f_Mo_rule a2 x41 x42 x43 p40.2)) (fun p44 =>
      if p40.1 = p44.1 then
        L_Law_law_23 n a0 a1 a2 a3 (a4 + (6 : Int32)) p44.2
      else
        if (0 : Int32) = 0 ∨ (0 : Int32) = 1 then some ((0 : Int32), p44.2) else none))))))))
    else if (x2 &&& (63 : Int32)) = (8 : Int32) then
      Option.bind (zga S 100 a0 (a4 + (1 : Int32))) (fun x45 =>
      Option.bind (zga S 100 a0 (a4 + (2 : Int32))) (fun x46 =>
      Option.bind (zga S 100 a0 (a4 + (3 : Int32))) (fun x47 =>
      Option.bind (zga S 100 a0 (a4 + (4 : Int32))) (fun x48 =>
      Option.bind (zcl S 11 a1 (f_Cl_letter a1 x45 x46 x47 x48 S)) (fun p49 =>
      Option.bind (zga p49.2 100 a0 (a4 + (1 : Int32))) (fun x50 =>
      Option.bind (zga p49.2 100 a0 (a4 + (2 : Int32))) (fun x51 =>
      Option.bind (zga p49.2 100 a0 (a4 + (3 : Int32))) (fun x52 =>
      Option.bind (zga p49.2 100 a0 (a4 + (4 : Int32))) (fun x53 =>
      Option.bind (zcl p49.2 12 a2 (f_Mo_letter a2 x50 x51 x52 x53 p49.2)) (fun p54 =>
      if p49.1 = p54.1 then
        L_Law_law_23 n a0 a1 a2 a3 (a4 + (6 : Int32)) p54.2
      else
        if (0 : Int32) = 0 ∨ (0 : Int32) = 1 then some ((0 : Int32), p54.2) else none))))))))))
    else if (x2 &&& (63 : Int32)) = (9 : Int32) then
      Option.bind (zga S 100 a0 (a4 + (1 : Int32))) (fun x55 =>
      Option.bind (zga S 100 a0 (a4 + (2 : Int32))) (fun x56 =>
      Option.bind (zga S 100 a0 (a4 + (3 : Int32))) (fun x57 =>
      Option.bind (zcl S 11 a1 (f_Cl_goes a1 x55 x56 x57 S)) (fun p58 =>
      Option.bind (zga p58.2 100 a0 (a4 + (1 : Int32))) (fun x59 =>
      Option.bind (zga p58.2 100 a0 (a4 + (2 : Int32))) (fun x60 =>
      Option.bind (zga p58.2 100 a0 (a4 + (3 : Int32))) (fun x61 =>
      Option.bind (zcl p58.2 12 a2 (f_Mo_goes a2 x59 x60 x61 p58.2)) (fun p62 =>
      if p58.1 = p62.1 then
        L_Law_law_23 n a0 a1 a2 a3 (a4 + (6 : Int32)) p62.2
      else
        if (0 : Int32) = 0 ∨ (0 : Int32) = 1 then some ((0 : Int32), p62.2) else none))))))))
    else if (x2 &&& (63 : Int32)) = (10 : Int32) then
      Option.bind (zga S 100 a0 (a4 + (1 : Int32))) (fun x63 =>
      Option.bind (zga S 100 a0 (a4 + (2 : Int32))) (fun x64 =>
      Option.bind (zcl S 11 a1 (f_Cl_depth a1 x63 x64 S)) (fun p65 =>
      Option.bind (zga p65.2 100 a0 (a4 + (1 : Int32))) (fun x66 =>
      Option.bind (zga p65.2 100 a0 (a4 + (2 : Int32))) (fun x67 =>
      Option.bind (zcl p65.2 12 a2 (f_Mo_depth a2 x66 x67 p65.2)) (fun p68 =>
      if p65.1 = p68.1 then
        L_Law_law_23 n a0 a1 a2 a3 (a4 + (6 : Int32)) p68.2
      else
        if (0 : Int32) = 0 ∨ (0 : Int32) = 1 then some ((0 : Int32), p68.2) else none))))))
    else if (x2 &&& (63 : Int32)) = (11 : Int32) then
      Option.bind (zga S 100 a0 (a4 + (1 : Int32))) (fun x69 =>
      Option.bind (zga S 100 a0 (a4 + (2 : Int32))) (fun x70 =>
      Option.bind (zcl S 11 a1 (f_Cl_ends a1 x69 x70 S)) (fun p71 =>
      Option.bind (zga p71.2 100 a0 (a4 + (1 : Int32))) (fun x72 =>
      Option.bind (zga p71.2 100 a0 (a4 + (2 : Int32))) (fun x73 =>
      Option.bind (zcl p71.2 12 a2 (f_Mo_ends a2 x72 x73 p71.2)) (fun p74 =>
      if p71.1 = p74.1 then
        L_Law_law_23 n a0 a1 a2 a3 (a4 + (6 : Int32)) p74.2
      else
        if (0 : Int32) = 0 ∨ (0 : Int32) = 1 then some ((0 : Int32), p74.2) else none))))))
    else if (x2 &&& (63 : Int32)) = (12 : Int32) then
      Option.bind (zga S 100 a0 (a4 + (1 : Int32))) (fun x75 =>
      Option.bind (zcl S 11 a1 (f_Cl_pieces a1 x75 S)) (fun p76 =>
      Option.bind (zga p76.2 100 a0 (a4 + (1 : Int32))) (fun x77 =>
      Option.bind (zcl p76.2 12 a2 (f_Mo_pieces a2 x77 p76.2)) (fun p78 =>
      if p76.1 = p78.1 then
        L_Law_law_23 n a0 a1 a2 a3 (a4 + (6 : Int32)) p78.2
      else
        if (0 : Int32) = 0 ∨ (0 : Int32) = 1 then some ((0 : Int32), p78.2) else none))))
    else if (x2 &&& (63 : Int32)) = (13 : Int32) then
      Option.bind (zga S 100 a0 (a4 + (1 : Int32))) (fun x79 =>
      Option.bind (zga S 100 a0 (a4 + (2 : Int32))) (fun x80 =>
      Option.bind (zcl S 11 a1 (f_Cl_piece a1 x79 x80 S)) (fun p81 =>
      Option.bind (zga p81.2 100 a0 (a4 + (1 : Int32))) (fun x82 =>
      Option.bind (zga p81.2 100 a0 (a4 + (2 : Int32))) (fun x83 =>
      Option.bind (zcl p81.2 12 a2 (f_Mo_piece a2 x82 x83 p81.2)) (fun p84 =>
      if p81.1 = p84.1 then
        L_Law_law_23 n a0 a1 a2 a3 (a4 + (6 : Int32)) p84.2
      else
        if (0 : Int32) = 0 ∨ (0 : Int32) = 1 then some ((0 : Int32), p84.2) else none))))))
    else if (x2 &&& (63 : Int32)) = (14 : Int32) then
      Option.bind (zga S 100 a0 (a4 + (1 : Int32))) (fun x85 =>
      Option.bind (zcl S 11 a1 (f_Cl_clear a1 x85 S)) (fun p86 =>
      Option.bind (zga p86.2 100 a0 (a4 + (1 : Int32))) (fun x87 =>
      Option.bind (zcl p86.2 12 a2 (f_Mo_clear a2 x87 p86.2)) (fun p88 =>
      if p86.1 = p88.1 then
        L_Law_law_23 n a0 a1 a2 a3 (a4 + (6 : Int32)) p88.2
      else
        if (0 : Int32) = 0 ∨ (0 : Int32) = 1 then some ((0 : Int32), p88.2) else none))))
    else if (x2 &&& (63 : Int32)) = (15 : Int32) then
      Option.bind (zga S 100 a0 (a4 + (1 : Int32))) (fun x89 =>
      Option.bind (zcl S 11 a1 (f_Cl_unclear a1 x89 S)) (fun p90 =>
      Option.bind (zga p90.2 100 a0 (a4 + (1 : Int32))) (fun x91 =>
      Option.bind (zcl p90.2 12 a2 (f_Mo_unclear a2 x91 p90.2)) (fun p92 =>
      if p90.1 = p92.1 then
        L_Law_law_23 n a0 a1 a2 a3 (a4 + (6 : Int32)) p92.2
      else
        if (0 : Int32) = 0 ∨ (0 : Int32) = 1 then some ((0 : Int32), p92.2) else none))))
    else if (x2 &&& (63 : Int32)) = (16 : Int32) then
      Option.bind (zga S 100 a0 (a4 + (1 : Int32))) (fun x93 =>
      Option.bind (zga S 100 a0 (a4 + (2 : Int32))) (fun x94 =>
      Option.bind (zga S 100 a0 (a4 + (3 : Int32))) (fun x95 =>
      Option.bind (zcl S 11 a1 (f_Cl_readings a1 x93 (((x94).toInt64 <<< (((32 : Int32)).toInt64 &&& 63)) ||| ((x95).toInt64 &&& (4294967295 : Int64))) S)) (fun p96 =>
      Option.bind (zga p96.2 100 a0 (a4 + (1 : Int32))) (fun x97 =>
      Option.bind (zga p96.2 100 a0 (a4 + (2 : Int32))) (fun x98 =>
      Option.bind (zga p96.2 100 a0 (a4 + (3 : Int32))) (fun x99 =>
      Option.bind (zcl p96.2 12 a2 (f_Mo_readings a2 x97 (((x98).toInt64 <<< (((32 : Int32)).toInt64 &&& 63)) ||| ((x99).toInt64 &&& (4294967295 : Int64))) p96.2)) (fun p100 =>
      if p96.1 = p100.1 then
        L_Law_law_23 n a0 a1 a2 a3 (a4 + (6 : Int32)) p100.2
      else
        if (0 : Int32) = 0 ∨ (0 : Int32) = 1 then some ((0 : Int32), p100.2) else none))))))))
    else if (x2 &&& (63 : Int32)) = (17 : Int32) then
      Option.bind (zga S 100 a0 (a4 + (1 : Int32))) (fun x101 =>
      Option.bind (zga S 100 a0 (a4 + (2 : Int32))) (fun x102 =>
      Option.bind (zga S 100 a0 (a4 + (3 : Int32))) (fun x103 =>
      Option.bind (zga S 100 a0 (a4 + (4 : Int32))) (fun x104 =>
      Option.bind (zcl S 11 a1 (f_Cl_reading a1 x101 (((x102).toInt64 <<< (((32 : Int32)).toInt64 &&& 63)) ||| ((x103).toInt64 &&& (4294967295 : Int64))) x104 S)) (fun p105 =>
      Option.bind (zga p105.2 100 a0 (a4 + (1 : Int32))) (fun x106 =>
      Option.bind (zga p105.2 100 a0 (a4 + (2 : Int32))) (fun x107 =>
      Option.bind (zga p105.2 100 a0 (a4 + (3 : Int32))) (fun x108 =>
      Option.bind (zga p105.2 100 a0 (a4 + (4 : Int32))) (fun x109 =>
      Option.bind (zcl p105.2 12 a2 (f_Mo_reading a2 x106 (((x107).toInt64 <<< (((32 : Int32)).toInt64 &&& 63)) ||| ((x108).toInt64 &&& (4294967295 : Int64))) x109 p105.2)) (fun p110 =>
      if p105.1 = p110.1 then
        L_Law_law_23 n a0 a1 a2 a3 (a4 + (6 : Int32)) p110.2
      else
        if (0 : Int32) = 0 ∨ (0 : Int32) = 1 then some ((0 : Int32), p110.2) else none))))))))))
    else if (x2 &&& (63 : Int32)) = (18 : Int32) then
      Option.bind (zcl S 11 a1 (f_Cl_sure a1 S)) (fun p111 =>
      Option.bind (zcl p111.2 12 a2 (f_Mo_sure a2 p111.2)) (fun p112 =>
      if p111.1 = p112.1 then
        L_Law_law_23 n a0 a1 a2 a3 (a4 + (6 : Int32)) p112.2
      else
        if (0 : Int32) = 0 ∨ (0 : Int32) = 1 then some ((0 : Int32), p112.2) else none))
    else if (x2 &&& (63 : Int32)) = (19 : Int32) then
      Option.bind (zga S 100 a0 (a4 + (1 : Int32))) (fun x113 =>
      Option.bind (zga S 100 a0 (a4 + (2 : Int32))) (fun x114 =>
      Option.bind (zcl S 11 a1 (f_Cl_carry a1 (((x113).toInt64 <<< (((32 : Int32)).toInt64 &&& 63)) ||| ((x114).toInt64 &&& (4294967295 : Int64))) S)) (fun p115 =>
      Option.bind (zga p115.2 100 a0 (a4 + (1 : Int32))) (fun x116 =>
      Option.bind (zga p115.2 100 a0 (a4 + (2 : Int32))) (fun x117 =>
      Option.bind (zcl p115.2 12 a2 (f_Mo_carry a2 (((x116).toInt64 <<< (((32 : Int32)).toInt64 &&& 63)) ||| ((x117).toInt64 &&& (4294967295 : Int64))) p115.2)) (fun p118 =>
      if p115.1 = p118.1 then
        L_Law_law_23 n a0 a1 a2 a3 (a4 + (6 : Int32)) p118.2
      else
        if (0 : Int32) = 0 ∨ (0 : Int32) = 1 then some ((0 : Int32), p118.2) else none))))))
    else if (x2 &&& (63 : Int32)) = (20 : Int32) then
      Option.bind (zga S 100 a0 (a4 + (1 : Int32))) (fun x119 =>
      Option.bind (zcl S 11 a1 (f_Cl_out a1 x119 S)) (fun p120 =>
      Option.bind (zga p120.2 100 a0 (a4 + (1 : Int32))) (fun x121 =>
      Option.bind (zcl p120.2 12 a2 (f_Mo_out a2 x121 p120.2)) (fun p122 =>
      if p120.1 = p122.1 then
        L_Law_law_23 n a0 a1 a2 a3 (a4 + (6 : Int32)) p122.2
      else
        if (0 : Int32) = 0 ∨ (0 : Int32) = 1 then some ((0 : Int32), p122.2) else none))))
    else if (x2 &&& (63 : Int32)) = (21 : Int32) then
      Option.bind (zga S 100 a0 (a4 + (1 : Int32))) (fun x123 =>
      Option.bind (zcl S 11 a1 (f_Cl_behind a1 x123 S)) (fun p124 =>
      Option.bind (zga p124.2 100 a0 (a4 + (1 : Int32))) (fun x125 =>
      Option.bind (zcl p124.2 12 a2 (f_Mo_behind a2 x125 p124.2)) (fun p126 =>
      if p124.1 = p126.1 then
        L_Law_law_23 n a0 a1 a2 a3 (a4 + (6 : Int32)) p126.2
      else
        if (0 : Int32) = 0 ∨ (0 : Int32) = 1 then some ((0 : Int32), p126.2) else none))))
    else if (x2 &&& (63 : Int32)) = (22 : Int32) then
      Option.bind (zga S 100 a0 (a4 + (1 : Int32))) (fun x127 =>
      Option.bind (zga S 100 a0 (a4 + (2 : Int32))) (fun x128 =>
      Option.bind (zcl S 11 a1 (f_Cl_outOf a1 x127 x128 S)) (fun p129 =>
      Option.bind (zga p129.2 100 a0 (a4 + (1 : Int32))) (fun x130 =>
      Option.bind (zga p129.2 100 a0 (a4 + (2 : Int32))) (fun x131 =>
      Option.bind (zcl p129.2 12 a2 (f_Mo_outOf a2 x130 x131 p129.2)) (fun p132 =>
      if p129.1 = p132.1 then
        L_Law_law_23 n a0 a1 a2 a3 (a4 + (6 : Int32)) p132.2
      else
        if (0 : Int32) = 0 ∨ (0 : Int32) = 1 then some ((0 : Int32), p132.2) else none))))))
    else if (x2 &&& (63 : Int32)) = (23 : Int32) then
      Option.bind (zga S 100 a0 (a4 + (1 : Int32))) (fun x133 =>
      Option.bind (zcl S 11 a1 (f_Cl_rounds a1 x133 S)) (fun p134 =>
      Option.bind (zga p134.2 100 a0 (a4 + (1 : Int32))) (fun x135 =>
      Option.bind (zcl p134.2 12 a2 (f_Mo_rounds a2 x135 p134.2)) (fun p136 =>
      if p134.1 = p136.1 then
        L_Law_law_23 n a0 a1 a2 a3 (a4 + (6 : Int32)) p136.2
      else
        if (0 : Int32) = 0 ∨ (0 : Int32) = 1 then some ((0 : Int32), p136.2) else none))))
    else if (x2 &&& (63 : Int32)) = (24 : Int32) then
      Option.bind (zga S 100 a0 (a4 + (1 : Int32))) (fun x137 =>
      Option.bind (zga S 100 a0 (a4 + (2 : Int32))) (fun x138 =>
      Option.bind (zcl S 11 a1 (f_Cl_served a1 x137 x138 S)) (fun p139 =>
      Option.bind (zga p139.2 100 a0 (a4 + (1 : Int32))) (fun x140 =>
      Option.bind (zga p139.2 100 a0 (a4 + (2 : Int32))) (fun x141 =>
      Option.bind (zcl p139.2 12 a2 (f_Mo_served a2 x140 x141 p139.2)) (fun p142 =>
      if p139.1 = p142.1 then
        L_Law_law_23 n a0 a1 a2 a3 (a4 + (6 : Int32)) p142.2
      else
        if (0 : Int32) = 0 ∨ (0 : Int32) = 1 then some ((0 : Int32), p142.2) else none))))))
    else if (x2 &&& (63 : Int32)) = (25 : Int32) then
      Option.bind (zga S 100 a0 (a4 + (1 : Int32))) (fun x143 =>
      Option.bind (zga S 100 a0 (a4 + (2 : Int32))) (fun x144 =>
      Option.bind (zga S 100 a0 (a4 + (3 : Int32))) (fun x145 =>
      Option.bind (zga S 100 a0 (a4 + (4 : Int32))) (fun x146 =>
      Option.bind (zcl S 11 a1 (f_Cl_apart a1 (((x143).toInt64 <<< (((32 : Int32)).toInt64 &&& 63)) ||| ((x144).toInt64 &&& (4294967295 : Int64))) (((x145).toInt64 <<< (((32 : Int32)).toInt64 &&& 63)) ||| ((x146).toInt64 &&& (4294967295 : Int64))) S)) (fun p147 =>
      Option.bind (zga p147.2 100 a0 (a4 + (1 : Int32))) (fun x148 =>
      Option.bind (zga p147.2 100 a0 (a4 + (2 : Int32))) (fun x149 =>
      Option.bind (zga p147.2 100 a0 (a4 + (3 : Int32))) (fun x150 =>
      Option.bind (zga p147.2 100 a0 (a4 + (4 : Int32))) (fun x151 =>
      Option.bind (zcl p147.2 12 a2 (f_Mo_apart a2 (((x148).toInt64 <<< (((32 : Int32)).toInt64 &&& 63)) ||| ((x149).toInt64 &&& (4294967295 : Int64))) (((x150).toInt64 <<< (((32 : Int32)).toInt64 &&& 63)) ||| ((x151).toInt64 &&& (4294967295 : Int64))) p147.2)) (fun p152 =>
      if p147.1 = p152.1 then
        L_Law_law_23 n a0 a1 a2 a3 (a4 + (6 : Int32)) p152.2
      else
        if (0 : Int32) = 0 ∨ (0 : Int32) = 1 then some ((0 : Int32), p152.2) else none))))))))))
    else if (x2 &&& (63 : Int32)) = (26 : Int32) then
      Option.bind (zga S 100 a0 (a4 + (1 : Int32))) (fun x153 =>
      Option.bind (zga S 100 a0 (a4 + (2 : Int32))) (fun x154 =>
      Option.bind (zcl S 11 a1 (f_Cl_turned a1 (((x153).toInt64 <<< (((32 : Int32)).toInt64 &&& 63)) ||| ((x154).toInt64 &&& (4294967295 : Int64))) S)) (fun p155 =>
      Option.bind (zga p155.2 100 a0 (a4 + (1 : Int32))) (fun x156 =>
      Option.bind (zga p155.2 100 a0 (a4 + (2 : Int32))) (fun x157 =>
      Option.bind (zcl p155.2 12 a2 (f_Mo_turned a2 (((x156).toInt64 <<< (((32 : Int32)).toInt64 &&& 63)) ||| ((x157).toInt64 &&& (4294967295 : Int64))) p155.2)) (fun p158 =>
      if p155.1 = p158.1 then
        L_Law_law_23 n a0 a1 a2 a3 (a4 + (6 : Int32)) p158.2
      else
        if (0 : Int32) = 0 ∨ (0 : Int32) = 1 then some ((0 : Int32), p158.2) else none))))))
    else if (x2 &&& (63 : Int32)) = (27 : Int32) then
      Option.bind (zga S 100 a0 (a4 + (1 : Int32))) (fun x159 =>
      Option.bind (zga S 100 a0 (a4 + (2 : Int32))) (fun x160 =>
      Option.bind (zga S 100 a0 (a4 + (3 : Int32))) (fun x161 =>
      Option.bind (zcl S 11 a1 (f_Cl_turnedOut a1 (((x159).toInt64 <<< (((32 : Int32)).toInt64 &&& 63)) ||| ((x160).toInt64 &&& (4294967295 : Int64))) x161 S)) (fun p162 =>
      Option.bind (zga p162.2 100 a0 (a4 + (1 : Int32))) (fun x163 =>
      Option.bind (zga p162.2 100 a0 (a4 + (2 : Int32))) (fun x164 =>
      Option.bind (zga p162.2 100 a0 (a4 + (3 : Int32))) (fun x165 =>
      Option.bind (zcl p162.2 12 a2 (f_Mo_turnedOut a2 (((x163).toInt64 <<< (((32 : Int32)).toInt64 &&& 63)) ||| ((x164).toInt64 &&& (4294967295 : Int64))) x165 p162.2)) (fun p166 =>
      if p162.1 = p166.1 then
        L_Law_law_23 n a0 a1 a2 a3 (a4 + (6 : Int32)) p166.2
      else
        if (0 : Int32) = 0 ∨ (0 : Int32) = 1 then some ((0 : Int32), p166.2) else none))))))))
    else if (x2 &&& (63 : Int32)) = (28 : Int32) then
      Option.bind (zga S 100 a0 (a4 + (1 : Int32))) (fun x167 =>
      Option.bind (zcl S 11 a1 (f_Cl_words a1 x167 S)) (fun p168 =>
      Option.bind (zga p168.2 100 a0 (a4 + (1 : Int32))) (fun x169 =>
      Option.bind (zcl p168.2 12 a2 (f_Mo_words a2 x169 p168.2)) (fun p170 =>
      if p168.1 = p170.1 then
        L_Law_law_23 n a0 a1 a2 a3 (a4 + (6 : Int32)) p170.2
      else
        if (0 : Int32) = 0 ∨ (0 : Int32) = 1 then some ((0 : Int32), p170.2) else none))))
    else if (x2 &&& (63 : Int32)) = (29 : Int32) then
      Option.bind (zga S 100 a0 (a4 + (1 : Int32))) (fun x171 =>
      Option.bind (zcl S 11 a1 (f_Cl_reversible a1 x171 S)) (fun p172 =>
      Option.bind (zga p172.2 100 a0 (a4 + (1 : Int32))) (fun x173 =>
      Option.bind (zcl p172.2 12 a2 (f_Mo_reversible a2 x173 p172.2)) (fun p174 =>
      if p172.1 = p174.1 then
        L_Law_law_23 n a0 a1 a2 a3 (a4 + (6 : Int32)) p174.2
      else
        if (0 : Int32) = 0 ∨ (0 : Int32) = 1 then some ((0 : Int32), p174.2) else none))))
    else if (x2 &&& (63 : Int32)) = (30 : Int32) then
      Option.bind (zga S 100 a0 (a4 + (1 : Int32))) (fun x175 =>
      Option.bind (zga S 100 a0 (a4 + (2 : Int32))) (fun x176 =>
      Option.bind (zcl S 11 a1 (f_Cl_failing a1 x175 x176 S)) (fun p177 =>
      Option.bind (zga p177.2 100 a0 (a4 + (1 : Int32))) (fun x178 =>
      Option.bind (zga p177.2 100 a0 (a4 + (2 : Int32))) (fun x179 =>
      Option.bind (zcl p177.2 12 a2 (f_Mo_failing a2 x178 x179 p177.2)) (fun p180 =>
      if (lg_cmp p177.1 p180.1) = (0 : Int32) then
        L_Law_law_23 n a0 a1 a2 a3 (a4 + (6 : Int32)) p180.2
      else
        if (0 : Int32) = 0 ∨ (0 : Int32) = 1 then some ((0 : Int32), p180.2) else none))))))
    else if (x2 &&& (63 : Int32)) = (31 : Int32) then
      Option.bind (zga S 100 a0 (a4 + (1 : Int32))) (fun x181 =>
      Option.bind (zcl S 11 a1 (f_Cl_doubled a1 x181 S)) (fun p182 =>
      Option.bind (zga p182.2 100 a0 (a4 + (1 : Int32))) (fun x183 =>
      Option.bind (zcl p182.2 12 a2 (f_Mo_doubled a2 x183 p182.2)) (fun p184 =>
      if p182.1 = p184.1 then
        L_Law_law_23 n a0 a1 a2 a3 (a4 + (6 : Int32)) p184.2
      else
        if (0 : Int32) = 0 ∨ (0 : Int32) = 1 then some ((0 : Int32), p184.2) else none))))
    else if (x2 &&& (63 : Int32)) = (32 : Int32) then
      Option.bind (zga S 100 a0 (a4 + (1 : Int32))) (fun x185 =>
      Option.bind (zga S 100 a0 (a4 + (2 : Int32))) (fun x186 =>
      Option.bind (zcl S 11 a1 (f_Cl_fails a1 x185 x186 S)) (fun p187 =>
      Option.bind (zga p187.2 100 a0 (a4 + (1 : Int32))) (fun x188 =>
      Option.bind (zga p187.2 100 a0 (a4 + (2 : Int32))) (fun x189 =>
      Option.bind (zcl p187.2 12 a2 (f_Mo_fails a2 x188 x189 p187.2)) (fun p190 =>
      if p187.1 = p190.1 then
        L_Law_law_23 n a0 a1 a2 a3 (a4 + (6 : Int32)) p190.2
      else
        if (0 : Int32) = 0 ∨ (0 : Int32) = 1 then some ((0 : Int32), p190.2) else none))))))
    else if (x2 &&& (63 : Int32)) = (33 : Int32) then
      Option.bind (zga S 100 a0 (a4 + (1 : Int32))) (fun x191 =>
      Option.bind (zga S 100 a0 (a4 + (2 : Int32))) (fun x192 =>
      Option.bind (zcl S 11 a1 (f_Cl_firstFail a1 x191 x192 S)) (fun p193 =>
      Option.bind (zga p193.2 100 a0 (a4 + (1 : Int32))) (fun x194 =>
      Option.bind (zga p193.2 100 a0 (a4 + (2 : Int32))) (fun x195 =>
      Option.bind (zcl p193.2 12 a2 (f_Mo_firstFail a2 x194 x195 p193.2)) (fun p196 =>
      if (lg_cmp p193.1 p196.1) = (0 : Int32) then
        L_Law_law_23 n a0 a1 a2 a3 (a4 + (6 : Int32)) p196.2
      else
        if (0 : Int32) = 0 ∨ (0 : Int32) = 1 then some ((0 : Int32), p196.2) else none))))))
    else if (x2 &&& (63 : Int32)) = (34 : Int32) then
      Option.bind (zga S 100 a0 (a4 + (1 : Int32))) (fun x197 =>
      Option.bind (zga S 100 a0 (a4 + (2 : Int32))) (fun x198 =>
      Option.bind (zga S 100 a0 (a4 + (3 : Int32))) (fun x199 =>
      Option.bind (zcl S 11 a1 (f_Cl_sources a1 x197 (((x198).toInt64 <<< (((32 : Int32)).toInt64 &&& 63)) ||| ((x199).toInt64 &&& (4294967295 : Int64))) S)) (fun p200 =>
      Option.bind (zga p200.2 100 a0 (a4 + (1 : Int32))) (fun x201 =>
      Option.bind (zga p200.2 100 a0 (a4 + (2 : Int32))) (fun x202 =>
      Option.bind (zga p200.2 100 a0 (a4 + (3 : Int32))) (fun x203 =>
      Option.bind (zcl p200.2 12 a2 (f_Mo_sources a2 x201 (((x202).toInt64 <<< (((32 : Int32)).toInt64 &&& 63)) ||| ((x203).toInt64 &&& (4294967295 : Int64))) p200.2)) (fun p204 =>
      if p200.1 = p204.1 then
        L_Law_law_23 n a0 a1 a2 a3 (a4 + (6 : Int32)) p204.2
      else
        if (0 : Int32) = 0 ∨ (0 : Int32) = 1 then some ((0 : Int32), p204.2) else none))))))))
    else if (x2 &&& (63 : Int32)) = (35 : Int32) then
      Option.bind (zga S 100 a0 (a4 + (1 : Int32))) (fun x205 =>
      Option.bind (zga S 100 a0 (a4 + (2 : Int32))) (fun x206 =>
      Option.bind (zga S 100 a0 (a4 + (3 : Int32))) (fun x207 =>
      Option.bind (zga S 100 a0 (a4 + (4 : Int32))) (fun x208 =>
      Option.bind (zcl S 11 a1 (f_Cl_source a1 x205 (((x206).toInt64 <<< (((32 : Int32)).toInt64 &&& 63)) ||| ((x207).toInt64 &&& (4294967295 : Int64))) x208 S)) (fun p209 =>
      Option.bind (zga p209.2 100 a0 (a4 + (1 : Int32))) (fun x210 =>
      Option.bind (zga p209.2 100 a0 (a4 + (2 : Int32))) (fun x211 =>
      Option.bind (zga p209.2 100 a0 (a4 + (3 : Int32))) (fun x212 =>
      Option.bind (zga p209.2 100 a0 (a4 + (4 : Int32))) (fun x213 =>
      Option.bind (zcl p209.2 12 a2 (f_Mo_source a2 x210 (((x211).toInt64 <<< (((32 : Int32)).toInt64 &&& 63)) ||| ((x212).toInt64 &&& (4294967295 : Int64))) x213 p209.2)) (fun p214 =>
      if (lg_cmp p209.1 p214.1) = (0 : Int32) then
        L_Law_law_23 n a0 a1 a2 a3 (a4 + (6 : Int32)) p214.2
      else
        if (0 : Int32) = 0 ∨ (0 : Int32) = 1 then some ((0 : Int32), p214.2) else none))))))))))
    else if (x2 &&& (63 : Int32)) = (36 : Int32) then
      Option.bind (zga S 100 a0 (a4 + (1 : Int32))) (fun x215 =>
      Option.bind (zcl S 11 a1 (f_Cl_longest a1 x215 S)) (fun p216 =>
      Option.bind (zga p216.2 100 a0 (a4 + (1 : Int32))) (fun x217 =>
      Option.bind (zcl p216.2 12 a2 (f_Mo_longest a2 x217 p216.2)) (fun p218 =>
      if p216.1 = p218.1 then
        L_Law_law_23 n a0 a1 a2 a3 (a4 + (6 : Int32)) p218.2
      else
        if (0 : Int32) = 0 ∨ (0 : Int32) = 1 then some ((0 : Int32), p218.2) else none))))
    else if (x2 &&& (63 : Int32)) = (37 : Int32) then
      Option.bind (zga S 100 a0 (a4 + (1 : Int32))) (fun x219 =>
      Option.bind (zcl S 11 a1 (f_Cl_longestOf a1 x219 S)) (fun p220 =>
      Option.bind (zga p220.2 100 a0 (a4 + (1 : Int32))) (fun x221 =>
      Option.bind (zcl p220.2 12 a2 (f_Mo_longestOf a2 x221 p220.2)) (fun p222 =>
      if (lg_cmp p220.1 p222.1) = (0 : Int32) then
        L_Law_law_23 n a0 a1 a2 a3 (a4 + (6 : Int32)) p222.2
      else
        if (0 : Int32) = 0 ∨ (0 : Int32) = 1 then some ((0 : Int32), p222.2) else none))))
    else if (x2 &&& (63 : Int32)) = (38 : Int32) then
      Option.bind (zga S 100 a0 (a4 + (1 : Int32))) (fun x223 =>
      Option.bind (zga S 100 a0 (a4 + (2 : Int32))) (fun x224 =>
      Option.bind (zcl S 11 a1 (f_Cl_idle a1 x223 x224 S)) (fun p225 =>
      Option.bind (zga p225.2 100 a0 (a4 + (1 : Int32))) (fun x226 =>
      Option.bind (zga p225.2 100 a0 (a4 + (2 : Int32))) (fun x227 =>
      Option.bind (zcl p225.2 12 a2 (f_Mo_idle a2 x226 x227 p225.2)) (fun p228 =>
      if p225.1 = p228.1 then
        L_Law_law_23 n a0 a1 a2 a3 (a4 + (6 : Int32)) p228.2
      else
        if (0 : Int32) = 0 ∨ (0 : Int32) = 1 then some ((0 : Int32), p228.2) else none))))))
    else if (x2 &&& (63 : Int32)) = (39 : Int32) then
      Option.bind (zga S 100 a0 (a4 + (1 : Int32))) (fun x229 =>
      Option.bind (zcl S 11 a1 (f_Cl_comeBack a1 x229 S)) (fun p230 =>
      Option.bind (zga p230.2 100 a0 (a4 + (1 : Int32))) (fun x231 =>
      Option.bind (zcl p230.2 12 a2 (f_Mo_comeBack a2 x231 p230.2)) (fun p232 =>
      if p230.1 = p232.1 then
        L_Law_law_23 n a0 a1 a2 a3 (a4 + (6 : Int32)) p232.2
      else
        if (0 : Int32) = 0 ∨ (0 : Int32) = 1 then some ((0 : Int32), p232.2) else none))))
    else if (x2 &&& (63 : Int32)) = (40 : Int32) then
      Option.bind (zga S 100 a0 (a4 + (1 : Int32))) (fun x233 =>
      Option.bind (zcl S 11 a1 (f_Cl_lost a1 x233 S)) (fun p234 =>
      Option.bind (zga p234.2 100 a0 (a4 + (1 : Int32))) (fun x235 =>
      Option.bind (zcl p234.2 12 a2 (f_Mo_lost a2 x235 p234.2)) (fun p236 =>
      if (lg_cmp p234.1 p236.1) = (0 : Int32) then
        L_Law_law_23 n a0 a1 a2 a3 (a4 + (6 : Int32)) p236.2
      else
        if (0 : Int32) = 0 ∨ (0 : Int32) = 1 then some ((0 : Int32), p236.2) else none))))
    else if (x2 &&& (63 : Int32)) = (41 : Int32) then
      Option.bind (zga S 100 a0 (a4 + (1 : Int32))) (fun x237 =>
      Option.bind (zcl S 11 a1 (f_Cl_worst a1 x237 S)) (fun p238 =>
      Option.bind (zga p238.2 100 a0 (a4 + (1 : Int32))) (fun x239 =>
      Option.bind (zcl p238.2 12 a2 (f_Mo_worst a2 x239 p238.2)) (fun p240 =>
      if p238.1 = p240.1 then
        L_Law_law_23 n a0 a1 a2 a3 (a4 + (6 : Int32)) p240.2
      else
        if (0 : Int32) = 0 ∨ (0 : Int32) = 1 then some ((0 : Int32), p240.2) else none))))
    else if (x2 &&& (63 : Int32)) = (42 : Int32) then
      Option.bind (zga S 100 a0 (a4 + (1 : Int32))) (fun x241 =>
      Option.bind (zga S 100 a0 (a4 + (2 : Int32))) (fun x242 =>
      Option.bind (zga S 100 a0 (a4 + (3 : Int32))) (fun x243 =>
      Option.bind (zcl S 11 a1 (f_Cl_aside a1 x241 x242 x243 S)) (fun p244 =>
      Option.bind (zga p244.2 100 a0 (a4 + (1 : Int32))) (fun x245 =>
      Option.bind (zga p244.2 100 a0 (a4 + (2 : Int32))) (fun x246 =>
      Option.bind (zga p244.2 100 a0 (a4 + (3 : Int32))) (fun x247 =>
      Option.bind (zcl p244.2 12 a2 (f_Mo_aside a2 x245 x246 x247 p244.2)) (fun p248 =>
      if p244.1 = p248.1 then
        L_Law_law_23 n a0 a1 a2 a3 (a4 + (6 : Int32)) p248.2
      else
        if (0 : Int32) = 0 ∨ (0 : Int32) = 1 then some ((0 : Int32), p248.2) else none))))))))
    else if (x2 &&& (63 : Int32)) = (43 : Int32) then
      Option.bind (zcl S 11 a1 (f_Cl_undo a1 S)) (fun p249 =>
      Option.bind (zcl p249.2 12 a2 (f_Mo_undo a2 p249.2)) (fun p250 =>
      if p249.1 = p250.1 then
        L_Law_law_23 n a0 a1 a2 a3 (a4 + (6 : Int32)) p250.2
      else
        if (0 : Int32) = 0 ∨ (0 : Int32) = 1 then some ((0 : Int32), p250.2) else none))
    else if (x2 &&& (63 : Int32)) = (44 : Int32) then
      Option.bind (zga S 100 a0 (a4 + (1 : Int32))) (fun x251 =>
      (F_Law_law_1969 (F_Law_law_1972 (L_Law_law_23 n))) a0 a1 a2 a3 a4 a3 x251 a1 S)
    else if (x2 &&& (63 : Int32)) = (45 : Int32) then
      Option.bind (zga S 100 a0 (a4 + (1 : Int32))) (fun x252 =>
      Option.bind (zcl S 11 a1 (f_Cl_size a1 x252 S)) (fun p253 =>
      Option.bind (zga p253.2 100 a0 (a4 + (1 : Int32))) (fun x254 =>
      Option.bind (zcl p253.2 12 a2 (f_Mo_size a2 x254 p253.2)) (fun p255 =>
      if p253.1 = p255.1 then
        L_Law_law_23 n a0 a1 a2 a3 (a4 + (6 : Int32)) p255.2
      else
        if (0 : Int32) = 0 ∨ (0 : Int32) = 1 then some ((0 : Int32), p255.2) else none))))
    else if (x2 &&& (63 : Int32)) = (46 : Int32) then
      Option.bind (zcl S 11 a1 (f_Cl_trouble a1 S)) (fun p256 =>
      Option.bind (zcl p256.2 12 a2 (f_Mo_trouble a2 p256.2)) (fun p257 =>
      if p256.1 = p257.1 then
        L_Law_law_23 n a0 a1 a2 a3 (a4 + (6 : Int32)) p257.2
      else
        if (0 : Int32) = 0 ∨ (0 : Int32) = 1 then some ((0 : Int32), p257.2) else none))
    else 
      L_Law_law_23 n a0 a1 a2 a3 (a4 + (6 : Int32)) S)
  else
    if (1 : Int32) = 0 ∨ (1 : Int32) = 1 then some ((1 : Int32), S) else none)
noncomputable def f_Law_law (a0 : Nat) (S : zM) : Option (Int32 × zM) :=
  Option.bind (zcl (zalloc S 11 0 18) 11 (zn S + 1) (f_Cl_init (zn S + 1) (zalloc S 11 0 18))) (fun p1 =>
  Option.bind (zcl (zalloc p1 12 0 67) 12 (zn p1 + 1) (f_Mo_init (zn p1 + 1) (zalloc p1 12 0 67))) (fun p2 =>
  if (1 : Int32) < 0 ∨ 10000 ≤ ((1 : Int32)).toNatClampNeg then none else
  L_Law_law_23 zF a0 (zn S + 1) (zn p1 + 1) (zn p2 + 1) (0 : Int32) (zalloc p2 101 ((1 : Int32)).toNatClampNeg ((1 : Int32)).toNatClampNeg)))
def zP_Law_law_0 : List (List (Nat × zE)) := [[(0, e3 (.new 8) 3 11 18 0), (3, e0 (.dup) 4), (4, e3 (.invokespecial 15) 7 0 1 0), (7, e1 (.astore_n 1) 8 1), (8, e3 (.new 16) 11 12 67 0), (11, e0 (.dup) 12), (12, e3 (.invokespecial 18) 15 1 1 0), (15, e1 (.astore_n 2) 16 2)],
  [(16, ei (.iconst 1) 17 0 (1)), (17, e3 (.newarray .long) 19 101 0 0), (19, e1 (.astore_n 3) 20 3), (20, ei (.iconst 0) 21 0 (0)), (21, e1 (.istore 4) 23 4), (23, e1 (.iload 4) 25 4), (25, e1 (.aload_n 0) 26 0), (26, e0 (.arraylength) 27), (27, ei (.bipush 6) 29 0 (6)), (29, e0 (.isub) 30), (30, e1 (.if_icmp .gt 2031) 33 2061)],
  [(33, e1 (.aload_n 0) 34 0), (34, e1 (.iload 4) 36 4), (36, e0 (.iaload) 37), (37, ei (.bipush 63) 39 0 (63)), (39, e0 (.iand) 40), (40, et (.tableswitch 2015 0 46 #[204, 277, 302, 315, 328, 353, 378, 415, 464, 525, 574, 611, 648, 673, 710, 735, 760, 829, 910, 923, 980, 1005, 1030, 1067, 1092, 1129, 1230, 1287, 1356, 1381, 1406, 1444, 1469, 1506, 1544, 1613, 1695, 1720, 1746, 1783, 1808, 1834, 1859, 1908, 1921, 1977, 2002]) 2055 [(0, 244), (1, 317), (2, 342), (3, 355), (4, 368), (5, 393), (6, 418), (7, 455), (8, 504), (9, 565), (10, 614), (11, 651), (12, 688), (13, 713), (14, 750), (15, 775), (16, 800), (17, 869), (18, 950), (19, 963), (20, 1020), (21, 1045), (22, 1070), (23, 1107), (24, 1132), (25, 1169), (26, 1270), (27, 1327), (28, 1396), (29, 1421), (30, 1446), (31, 1484), (32, 1509), (33, 1546), (34, 1584), (35, 1653), (36, 1735), (37, 1760), (38, 1786), (39, 1823), (40, 1848), (41, 1874), (42, 1899), (43, 1948), (44, 1961), (45, 2017), (46, 2042)])],
  [],
  [],
  [],
  [],
  []]
def zP_Law_law_1 : List (List (Nat × zE)) := [[],
  [],
  [],
  [],
  [],
  [],
  [],
  [(244, e1 (.aload_n 1) 245 1), (245, e1 (.aload_n 0) 246 0), (246, e1 (.iload 4) 248 4), (248, ei (.iconst 1) 249 0 (1)), (249, e0 (.iadd) 250), (250, e0 (.iaload) 251), (251, e1 (.aload_n 0) 252 0), (252, e1 (.iload 4) 254 4), (254, ei (.iconst 2) 255 0 (2)), (255, e0 (.iadd) 256)]]
def zP_Law_law_2 : List (List (Nat × zE)) := [[(256, e0 (.iaload) 257), (257, e1 (.aload_n 0) 258 0), (258, e1 (.iload 4) 260 4), (260, ei (.iconst 3) 261 0 (3)), (261, e0 (.iadd) 262), (262, e0 (.iaload) 263), (263, e1 (.aload_n 0) 264 0), (264, e1 (.iload 4) 266 4), (266, ei (.iconst 4) 267 0 (4)), (267, e0 (.iadd) 268), (268, e0 (.iaload) 269), (269, e1 (.aload_n 0) 270 0), (270, e1 (.iload 4) 272 4)],
  [(272, ei (.iconst 5) 273 0 (5)), (273, e0 (.iadd) 274), (274, e0 (.iaload) 275), (275, e3 (.invokevirtual 19) 278 2 6 0), (278, e1 (.aload_n 2) 279 2), (279, e1 (.aload_n 0) 280 0), (280, e1 (.iload 4) 282 4), (282, ei (.iconst 1) 283 0 (1)), (283, e0 (.iadd) 284), (284, e0 (.iaload) 285), (285, e1 (.aload_n 0) 286 0), (286, e1 (.iload 4) 288 4)],
  [(288, ei (.iconst 2) 289 0 (2)), (289, e0 (.iadd) 290), (290, e0 (.iaload) 291), (291, e1 (.aload_n 0) 292 0), (292, e1 (.iload 4) 294 4), (294, ei (.iconst 3) 295 0 (3)), (295, e0 (.iadd) 296), (296, e0 (.iaload) 297), (297, e1 (.aload_n 0) 298 0), (298, e1 (.iload 4) 300 4), (300, ei (.iconst 4) 301 0 (4)), (301, e0 (.iadd) 302), (302, e0 (.iaload) 303), (303, e1 (.aload_n 0) 304 0)],
  [(304, e1 (.iload 4) 306 4), (306, ei (.iconst 5) 307 0 (5)), (307, e0 (.iadd) 308), (308, e0 (.iaload) 309), (309, e3 (.invokevirtual 23) 312 3 6 0), (312, e1 (.if_icmp .eq 1743) 315 2055), (315, ei (.iconst 0) 316 0 (0)), (316, e0 (.ireturn) 317), (317, e1 (.aload_n 1) 318 1), (318, e1 (.aload_n 0) 319 0), (319, e1 (.iload 4) 321 4)],
  [(321, ei (.iconst 1) 322 0 (1)), (322, e0 (.iadd) 323), (323, e0 (.iaload) 324), (324, e3 (.invokevirtual 24) 327 4 2 0), (327, e1 (.aload_n 2) 328 2), (328, e1 (.aload_n 0) 329 0), (329, e1 (.iload 4) 331 4), (331, ei (.iconst 1) 332 0 (1)), (332, e0 (.iadd) 333), (333, e0 (.iaload) 334), (334, e3 (.invokevirtual 27) 337 5 2 0)],
  [(337, e1 (.if_icmp .eq 1718) 340 2055), (340, ei (.iconst 0) 341 0 (0)), (341, e0 (.ireturn) 342), (342, e1 (.aload_n 1) 343 1), (343, e3 (.invokevirtual 28) 346 6 1 0), (346, e1 (.aload_n 2) 347 2), (347, e3 (.invokevirtual 32) 350 7 1 0), (350, e1 (.if_icmp .eq 1705) 353 2055)],
  [(353, ei (.iconst 0) 354 0 (0)), (354, e0 (.ireturn) 355), (355, e1 (.aload_n 1) 356 1), (356, e3 (.invokevirtual 33) 359 8 1 0), (359, e1 (.aload_n 2) 360 2), (360, e3 (.invokevirtual 36) 363 9 1 0), (363, e1 (.if_icmp .eq 1692) 366 2055), (366, ei (.iconst 0) 367 0 (0)), (367, e0 (.ireturn) 368)],
  [(368, e1 (.aload_n 1) 369 1), (369, e1 (.aload_n 0) 370 0), (370, e1 (.iload 4) 372 4), (372, ei (.iconst 1) 373 0 (1)), (373, e0 (.iadd) 374), (374, e0 (.iaload) 375), (375, e3 (.invokevirtual 37) 378 10 2 0), (378, e1 (.aload_n 2) 379 2), (379, e1 (.aload_n 0) 380 0), (380, e1 (.iload 4) 382 4), (382, ei (.iconst 1) 383 0 (1)), (383, e0 (.iadd) 384)]]
def zP_Law_law_3 : List (List (Nat × zE)) := [[(384, e0 (.iaload) 385), (385, e3 (.invokevirtual 40) 388 11 2 0), (388, e1 (.if_icmp .eq 1667) 391 2055), (391, ei (.iconst 0) 392 0 (0)), (392, e0 (.ireturn) 393), (393, e1 (.aload_n 1) 394 1), (394, e1 (.aload_n 0) 395 0), (395, e1 (.iload 4) 397 4), (397, ei (.iconst 1) 398 0 (1)), (398, e0 (.iadd) 399), (399, e0 (.iaload) 400)],
  [(400, e3 (.invokevirtual 41) 403 12 2 0), (403, e1 (.aload_n 2) 404 2), (404, e1 (.aload_n 0) 405 0), (405, e1 (.iload 4) 407 4), (407, ei (.iconst 1) 408 0 (1)), (408, e0 (.iadd) 409), (409, e0 (.iaload) 410), (410, e3 (.invokevirtual 44) 413 13 2 0), (413, e1 (.if_icmp .eq 1642) 416 2055)],
  [(416, ei (.iconst 0) 417 0 (0)), (417, e0 (.ireturn) 418), (418, e1 (.aload_n 1) 419 1), (419, e1 (.aload_n 0) 420 0), (420, e1 (.iload 4) 422 4), (422, ei (.iconst 1) 423 0 (1)), (423, e0 (.iadd) 424), (424, e0 (.iaload) 425), (425, e1 (.aload_n 0) 426 0), (426, e1 (.iload 4) 428 4), (428, ei (.iconst 2) 429 0 (2)), (429, e0 (.iadd) 430), (430, e0 (.iaload) 431), (431, e3 (.invokevirtual 45) 434 14 3 0)],
  [(434, e1 (.aload_n 2) 435 2), (435, e1 (.aload_n 0) 436 0), (436, e1 (.iload 4) 438 4), (438, ei (.iconst 1) 439 0 (1)), (439, e0 (.iadd) 440), (440, e0 (.iaload) 441), (441, e1 (.aload_n 0) 442 0), (442, e1 (.iload 4) 444 4), (444, ei (.iconst 2) 445 0 (2)), (445, e0 (.iadd) 446), (446, e0 (.iaload) 447), (447, e3 (.invokevirtual 49) 450 15 3 0)],
  [(450, e1 (.if_icmp .eq 1605) 453 2055), (453, ei (.iconst 0) 454 0 (0)), (454, e0 (.ireturn) 455), (455, e1 (.aload_n 1) 456 1), (456, e1 (.aload_n 0) 457 0), (457, e1 (.iload 4) 459 4), (459, ei (.iconst 1) 460 0 (1)), (460, e0 (.iadd) 461), (461, e0 (.iaload) 462), (462, e1 (.aload_n 0) 463 0), (463, e1 (.iload 4) 465 4)],
  [(465, ei (.iconst 2) 466 0 (2)), (466, e0 (.iadd) 467), (467, e0 (.iaload) 468), (468, e1 (.aload_n 0) 469 0), (469, e1 (.iload 4) 471 4), (471, ei (.iconst 3) 472 0 (3)), (472, e0 (.iadd) 473), (473, e0 (.iaload) 474), (474, e3 (.invokevirtual 50) 477 16 4 0), (477, e1 (.aload_n 2) 478 2), (478, e1 (.aload_n 0) 479 0), (479, e1 (.iload 4) 481 4)],
  [(481, ei (.iconst 1) 482 0 (1)), (482, e0 (.iadd) 483), (483, e0 (.iaload) 484), (484, e1 (.aload_n 0) 485 0), (485, e1 (.iload 4) 487 4), (487, ei (.iconst 2) 488 0 (2)), (488, e0 (.iadd) 489), (489, e0 (.iaload) 490), (490, e1 (.aload_n 0) 491 0), (491, e1 (.iload 4) 493 4), (493, ei (.iconst 3) 494 0 (3)), (494, e0 (.iadd) 495), (495, e0 (.iaload) 496)],
  [(496, e3 (.invokevirtual 54) 499 17 4 0), (499, e1 (.if_icmp .eq 1556) 502 2055), (502, ei (.iconst 0) 503 0 (0)), (503, e0 (.ireturn) 504), (504, e1 (.aload_n 1) 505 1), (505, e1 (.aload_n 0) 506 0), (506, e1 (.iload 4) 508 4), (508, ei (.iconst 1) 509 0 (1)), (509, e0 (.iadd) 510), (510, e0 (.iaload) 511), (511, e1 (.aload_n 0) 512 0)]]
def zP_Law_law_4 : List (List (Nat × zE)) := [[(512, e1 (.iload 4) 514 4), (514, ei (.iconst 2) 515 0 (2)), (515, e0 (.iadd) 516), (516, e0 (.iaload) 517), (517, e1 (.aload_n 0) 518 0), (518, e1 (.iload 4) 520 4), (520, ei (.iconst 3) 521 0 (3)), (521, e0 (.iadd) 522), (522, e0 (.iaload) 523), (523, e1 (.aload_n 0) 524 0), (524, e1 (.iload 4) 526 4), (526, ei (.iconst 4) 527 0 (4)), (527, e0 (.iadd) 528)],
  [(528, e0 (.iaload) 529), (529, e3 (.invokevirtual 55) 532 18 5 0), (532, e1 (.aload_n 2) 533 2), (533, e1 (.aload_n 0) 534 0), (534, e1 (.iload 4) 536 4), (536, ei (.iconst 1) 537 0 (1)), (537, e0 (.iadd) 538), (538, e0 (.iaload) 539), (539, e1 (.aload_n 0) 540 0), (540, e1 (.iload 4) 542 4), (542, ei (.iconst 2) 543 0 (2)), (543, e0 (.iadd) 544)],
  [(544, e0 (.iaload) 545), (545, e1 (.aload_n 0) 546 0), (546, e1 (.iload 4) 548 4), (548, ei (.iconst 3) 549 0 (3)), (549, e0 (.iadd) 550), (550, e0 (.iaload) 551), (551, e1 (.aload_n 0) 552 0), (552, e1 (.iload 4) 554 4), (554, ei (.iconst 4) 555 0 (4)), (555, e0 (.iadd) 556), (556, e0 (.iaload) 557), (557, e3 (.invokevirtual 59) 560 19 5 0)],
  [(560, e1 (.if_icmp .eq 1495) 563 2055), (563, ei (.iconst 0) 564 0 (0)), (564, e0 (.ireturn) 565), (565, e1 (.aload_n 1) 566 1), (566, e1 (.aload_n 0) 567 0), (567, e1 (.iload 4) 569 4), (569, ei (.iconst 1) 570 0 (1)), (570, e0 (.iadd) 571), (571, e0 (.iaload) 572), (572, e1 (.aload_n 0) 573 0), (573, e1 (.iload 4) 575 4), (575, ei (.iconst 2) 576 0 (2))],
  [(576, e0 (.iadd) 577), (577, e0 (.iaload) 578), (578, e1 (.aload_n 0) 579 0), (579, e1 (.iload 4) 581 4), (581, ei (.iconst 3) 582 0 (3)), (582, e0 (.iadd) 583), (583, e0 (.iaload) 584), (584, e3 (.invokevirtual 60) 587 20 4 0), (587, e1 (.aload_n 2) 588 2), (588, e1 (.aload_n 0) 589 0), (589, e1 (.iload 4) 591 4), (591, ei (.iconst 1) 592 0 (1))],
  [(592, e0 (.iadd) 593), (593, e0 (.iaload) 594), (594, e1 (.aload_n 0) 595 0), (595, e1 (.iload 4) 597 4), (597, ei (.iconst 2) 598 0 (2)), (598, e0 (.iadd) 599), (599, e0 (.iaload) 600), (600, e1 (.aload_n 0) 601 0), (601, e1 (.iload 4) 603 4), (603, ei (.iconst 3) 604 0 (3)), (604, e0 (.iadd) 605), (605, e0 (.iaload) 606), (606, e3 (.invokevirtual 63) 609 21 4 0)],
  [(609, e1 (.if_icmp .eq 1446) 612 2055), (612, ei (.iconst 0) 613 0 (0)), (613, e0 (.ireturn) 614), (614, e1 (.aload_n 1) 615 1), (615, e1 (.aload_n 0) 616 0), (616, e1 (.iload 4) 618 4), (618, ei (.iconst 1) 619 0 (1)), (619, e0 (.iadd) 620), (620, e0 (.iaload) 621), (621, e1 (.aload_n 0) 622 0), (622, e1 (.iload 4) 624 4)],
  [(624, ei (.iconst 2) 625 0 (2)), (625, e0 (.iadd) 626), (626, e0 (.iaload) 627), (627, e3 (.invokevirtual 64) 630 22 3 0), (630, e1 (.aload_n 2) 631 2), (631, e1 (.aload_n 0) 632 0), (632, e1 (.iload 4) 634 4), (634, ei (.iconst 1) 635 0 (1)), (635, e0 (.iadd) 636), (636, e0 (.iaload) 637), (637, e1 (.aload_n 0) 638 0), (638, e1 (.iload 4) 640 4)]]
def zP_Law_law_5 : List (List (Nat × zE)) := [[(640, ei (.iconst 2) 641 0 (2)), (641, e0 (.iadd) 642), (642, e0 (.iaload) 643), (643, e3 (.invokevirtual 67) 646 23 3 0), (646, e1 (.if_icmp .eq 1409) 649 2055), (649, ei (.iconst 0) 650 0 (0)), (650, e0 (.ireturn) 651), (651, e1 (.aload_n 1) 652 1), (652, e1 (.aload_n 0) 653 0), (653, e1 (.iload 4) 655 4), (655, ei (.iconst 1) 656 0 (1))],
  [(656, e0 (.iadd) 657), (657, e0 (.iaload) 658), (658, e1 (.aload_n 0) 659 0), (659, e1 (.iload 4) 661 4), (661, ei (.iconst 2) 662 0 (2)), (662, e0 (.iadd) 663), (663, e0 (.iaload) 664), (664, e3 (.invokevirtual 68) 667 24 3 0), (667, e1 (.aload_n 2) 668 2), (668, e1 (.aload_n 0) 669 0), (669, e1 (.iload 4) 671 4), (671, ei (.iconst 1) 672 0 (1))],
  [(672, e0 (.iadd) 673), (673, e0 (.iaload) 674), (674, e1 (.aload_n 0) 675 0), (675, e1 (.iload 4) 677 4), (677, ei (.iconst 2) 678 0 (2)), (678, e0 (.iadd) 679), (679, e0 (.iaload) 680), (680, e3 (.invokevirtual 71) 683 25 3 0), (683, e1 (.if_icmp .eq 1372) 686 2055), (686, ei (.iconst 0) 687 0 (0)), (687, e0 (.ireturn) 688)],
  [(688, e1 (.aload_n 1) 689 1), (689, e1 (.aload_n 0) 690 0), (690, e1 (.iload 4) 692 4), (692, ei (.iconst 1) 693 0 (1)), (693, e0 (.iadd) 694), (694, e0 (.iaload) 695), (695, e3 (.invokevirtual 72) 698 26 2 0), (698, e1 (.aload_n 2) 699 2), (699, e1 (.aload_n 0) 700 0), (700, e1 (.iload 4) 702 4), (702, ei (.iconst 1) 703 0 (1)), (703, e0 (.iadd) 704)],
  [(704, e0 (.iaload) 705), (705, e3 (.invokevirtual 75) 708 27 2 0), (708, e1 (.if_icmp .eq 1347) 711 2055), (711, ei (.iconst 0) 712 0 (0)), (712, e0 (.ireturn) 713), (713, e1 (.aload_n 1) 714 1), (714, e1 (.aload_n 0) 715 0), (715, e1 (.iload 4) 717 4), (717, ei (.iconst 1) 718 0 (1)), (718, e0 (.iadd) 719), (719, e0 (.iaload) 720)],
  [(720, e1 (.aload_n 0) 721 0), (721, e1 (.iload 4) 723 4), (723, ei (.iconst 2) 724 0 (2)), (724, e0 (.iadd) 725), (725, e0 (.iaload) 726), (726, e3 (.invokevirtual 76) 729 28 3 0), (729, e1 (.aload_n 2) 730 2), (730, e1 (.aload_n 0) 731 0), (731, e1 (.iload 4) 733 4), (733, ei (.iconst 1) 734 0 (1)), (734, e0 (.iadd) 735), (735, e0 (.iaload) 736)],
  [(736, e1 (.aload_n 0) 737 0), (737, e1 (.iload 4) 739 4), (739, ei (.iconst 2) 740 0 (2)), (740, e0 (.iadd) 741), (741, e0 (.iaload) 742), (742, e3 (.invokevirtual 79) 745 29 3 0), (745, e1 (.if_icmp .eq 1310) 748 2055), (748, ei (.iconst 0) 749 0 (0)), (749, e0 (.ireturn) 750), (750, e1 (.aload_n 1) 751 1), (751, e1 (.aload_n 0) 752 0)],
  [(752, e1 (.iload 4) 754 4), (754, ei (.iconst 1) 755 0 (1)), (755, e0 (.iadd) 756), (756, e0 (.iaload) 757), (757, e3 (.invokevirtual 80) 760 30 2 0), (760, e1 (.aload_n 2) 761 2), (761, e1 (.aload_n 0) 762 0), (762, e1 (.iload 4) 764 4), (764, ei (.iconst 1) 765 0 (1)), (765, e0 (.iadd) 766), (766, e0 (.iaload) 767), (767, e3 (.invokevirtual 83) 770 31 2 0)]]
def zP_Law_law_6 : List (List (Nat × zE)) := [[(770, e1 (.if_icmp .eq 1285) 773 2055), (773, ei (.iconst 0) 774 0 (0)), (774, e0 (.ireturn) 775), (775, e1 (.aload_n 1) 776 1), (776, e1 (.aload_n 0) 777 0), (777, e1 (.iload 4) 779 4), (779, ei (.iconst 1) 780 0 (1)), (780, e0 (.iadd) 781), (781, e0 (.iaload) 782), (782, e3 (.invokevirtual 84) 785 32 2 0)],
  [(785, e1 (.aload_n 2) 786 2), (786, e1 (.aload_n 0) 787 0), (787, e1 (.iload 4) 789 4), (789, ei (.iconst 1) 790 0 (1)), (790, e0 (.iadd) 791), (791, e0 (.iaload) 792), (792, e3 (.invokevirtual 87) 795 33 2 0), (795, e1 (.if_icmp .eq 1260) 798 2055), (798, ei (.iconst 0) 799 0 (0)), (799, e0 (.ireturn) 800)],
  [(800, e1 (.aload_n 1) 801 1), (801, e1 (.aload_n 0) 802 0), (802, e1 (.iload 4) 804 4), (804, ei (.iconst 1) 805 0 (1)), (805, e0 (.iadd) 806), (806, e0 (.iaload) 807), (807, e1 (.aload_n 0) 808 0), (808, e1 (.iload 4) 810 4), (810, ei (.iconst 2) 811 0 (2)), (811, e0 (.iadd) 812), (812, e0 (.iaload) 813), (813, e0 (.i2l) 814), (814, ei (.bipush 32) 816 0 (32))],
  [(816, e0 (.lshl) 817), (817, e1 (.aload_n 0) 818 0), (818, e1 (.iload 4) 820 4), (820, ei (.iconst 3) 821 0 (3)), (821, e0 (.iadd) 822), (822, e0 (.iaload) 823), (823, e0 (.i2l) 824), (824, ej (.ldc2_w 88) 827 (4294967295)), (827, e0 (.land) 828), (828, e0 (.lor) 829), (829, e3 (.invokevirtual 90) 832 34 3 0)],
  [(832, e1 (.aload_n 2) 833 2), (833, e1 (.aload_n 0) 834 0), (834, e1 (.iload 4) 836 4), (836, ei (.iconst 1) 837 0 (1)), (837, e0 (.iadd) 838), (838, e0 (.iaload) 839), (839, e1 (.aload_n 0) 840 0), (840, e1 (.iload 4) 842 4), (842, ei (.iconst 2) 843 0 (2)), (843, e0 (.iadd) 844), (844, e0 (.iaload) 845), (845, e0 (.i2l) 846), (846, ei (.bipush 32) 848 0 (32))],
  [(848, e0 (.lshl) 849), (849, e1 (.aload_n 0) 850 0), (850, e1 (.iload 4) 852 4), (852, ei (.iconst 3) 853 0 (3)), (853, e0 (.iadd) 854), (854, e0 (.iaload) 855), (855, e0 (.i2l) 856), (856, ej (.ldc2_w 88) 859 (4294967295)), (859, e0 (.land) 860), (860, e0 (.lor) 861), (861, e3 (.invokevirtual 94) 864 35 3 0)],
  [(864, e1 (.if_icmp .eq 1191) 867 2055), (867, ei (.iconst 0) 868 0 (0)), (868, e0 (.ireturn) 869), (869, e1 (.aload_n 1) 870 1), (870, e1 (.aload_n 0) 871 0), (871, e1 (.iload 4) 873 4), (873, ei (.iconst 1) 874 0 (1)), (874, e0 (.iadd) 875), (875, e0 (.iaload) 876), (876, e1 (.aload_n 0) 877 0), (877, e1 (.iload 4) 879 4), (879, ei (.iconst 2) 880 0 (2))],
  [(880, e0 (.iadd) 881), (881, e0 (.iaload) 882), (882, e0 (.i2l) 883), (883, ei (.bipush 32) 885 0 (32)), (885, e0 (.lshl) 886), (886, e1 (.aload_n 0) 887 0), (887, e1 (.iload 4) 889 4), (889, ei (.iconst 3) 890 0 (3)), (890, e0 (.iadd) 891), (891, e0 (.iaload) 892), (892, e0 (.i2l) 893), (893, ej (.ldc2_w 88) 896 (4294967295))]]
def zP_Law_law_7 : List (List (Nat × zE)) := [[(896, e0 (.land) 897), (897, e0 (.lor) 898), (898, e1 (.aload_n 0) 899 0), (899, e1 (.iload 4) 901 4), (901, ei (.iconst 4) 902 0 (4)), (902, e0 (.iadd) 903), (903, e0 (.iaload) 904), (904, e3 (.invokevirtual 95) 907 36 4 0), (907, e1 (.aload_n 2) 908 2), (908, e1 (.aload_n 0) 909 0), (909, e1 (.iload 4) 911 4), (911, ei (.iconst 1) 912 0 (1))],
  [(912, e0 (.iadd) 913), (913, e0 (.iaload) 914), (914, e1 (.aload_n 0) 915 0), (915, e1 (.iload 4) 917 4), (917, ei (.iconst 2) 918 0 (2)), (918, e0 (.iadd) 919), (919, e0 (.iaload) 920), (920, e0 (.i2l) 921), (921, ei (.bipush 32) 923 0 (32)), (923, e0 (.lshl) 924), (924, e1 (.aload_n 0) 925 0), (925, e1 (.iload 4) 927 4), (927, ei (.iconst 3) 928 0 (3))],
  [(928, e0 (.iadd) 929), (929, e0 (.iaload) 930), (930, e0 (.i2l) 931), (931, ej (.ldc2_w 88) 934 (4294967295)), (934, e0 (.land) 935), (935, e0 (.lor) 936), (936, e1 (.aload_n 0) 937 0), (937, e1 (.iload 4) 939 4), (939, ei (.iconst 4) 940 0 (4)), (940, e0 (.iadd) 941), (941, e0 (.iaload) 942), (942, e3 (.invokevirtual 99) 945 37 4 0)],
  [(945, e1 (.if_icmp .eq 1110) 948 2055), (948, ei (.iconst 0) 949 0 (0)), (949, e0 (.ireturn) 950), (950, e1 (.aload_n 1) 951 1), (951, e3 (.invokevirtual 100) 954 38 1 0), (954, e1 (.aload_n 2) 955 2), (955, e3 (.invokevirtual 103) 958 39 1 0), (958, e1 (.if_icmp .eq 1097) 961 2055)],
  [(961, ei (.iconst 0) 962 0 (0)), (962, e0 (.ireturn) 963), (963, e1 (.aload_n 1) 964 1), (964, e1 (.aload_n 0) 965 0), (965, e1 (.iload 4) 967 4), (967, ei (.iconst 1) 968 0 (1)), (968, e0 (.iadd) 969), (969, e0 (.iaload) 970), (970, e0 (.i2l) 971), (971, ei (.bipush 32) 973 0 (32)), (973, e0 (.lshl) 974), (974, e1 (.aload_n 0) 975 0), (975, e1 (.iload 4) 977 4)],
  [(977, ei (.iconst 2) 978 0 (2)), (978, e0 (.iadd) 979), (979, e0 (.iaload) 980), (980, e0 (.i2l) 981), (981, ej (.ldc2_w 88) 984 (4294967295)), (984, e0 (.land) 985), (985, e0 (.lor) 986), (986, e3 (.invokevirtual 104) 989 40 2 0), (989, e1 (.aload_n 2) 990 2), (990, e1 (.aload_n 0) 991 0), (991, e1 (.iload 4) 993 4)],
  [(993, ei (.iconst 1) 994 0 (1)), (994, e0 (.iadd) 995), (995, e0 (.iaload) 996), (996, e0 (.i2l) 997), (997, ei (.bipush 32) 999 0 (32)), (999, e0 (.lshl) 1000), (1000, e1 (.aload_n 0) 1001 0), (1001, e1 (.iload 4) 1003 4), (1003, ei (.iconst 2) 1004 0 (2)), (1004, e0 (.iadd) 1005), (1005, e0 (.iaload) 1006), (1006, e0 (.i2l) 1007), (1007, ej (.ldc2_w 88) 1010 (4294967295))],
  [(1010, e0 (.land) 1011), (1011, e0 (.lor) 1012), (1012, e3 (.invokevirtual 108) 1015 41 2 0), (1015, e1 (.if_icmp .eq 1040) 1018 2055), (1018, ei (.iconst 0) 1019 0 (0)), (1019, e0 (.ireturn) 1020), (1020, e1 (.aload_n 1) 1021 1), (1021, e1 (.aload_n 0) 1022 0), (1022, e1 (.iload 4) 1024 4)]]
def zP_Law_law_8 : List (List (Nat × zE)) := [[(1024, ei (.iconst 1) 1025 0 (1)), (1025, e0 (.iadd) 1026), (1026, e0 (.iaload) 1027), (1027, e3 (.invokevirtual 109) 1030 42 2 0), (1030, e1 (.aload_n 2) 1031 2), (1031, e1 (.aload_n 0) 1032 0), (1032, e1 (.iload 4) 1034 4), (1034, ei (.iconst 1) 1035 0 (1)), (1035, e0 (.iadd) 1036), (1036, e0 (.iaload) 1037), (1037, e3 (.invokevirtual 112) 1040 43 2 0)],
  [(1040, e1 (.if_icmp .eq 1015) 1043 2055), (1043, ei (.iconst 0) 1044 0 (0)), (1044, e0 (.ireturn) 1045), (1045, e1 (.aload_n 1) 1046 1), (1046, e1 (.aload_n 0) 1047 0), (1047, e1 (.iload 4) 1049 4), (1049, ei (.iconst 1) 1050 0 (1)), (1050, e0 (.iadd) 1051), (1051, e0 (.iaload) 1052), (1052, e3 (.invokevirtual 113) 1055 44 2 0), (1055, e1 (.aload_n 2) 1056 2)],
  [(1056, e1 (.aload_n 0) 1057 0), (1057, e1 (.iload 4) 1059 4), (1059, ei (.iconst 1) 1060 0 (1)), (1060, e0 (.iadd) 1061), (1061, e0 (.iaload) 1062), (1062, e3 (.invokevirtual 116) 1065 45 2 0), (1065, e1 (.if_icmp .eq 990) 1068 2055), (1068, ei (.iconst 0) 1069 0 (0)), (1069, e0 (.ireturn) 1070), (1070, e1 (.aload_n 1) 1071 1), (1071, e1 (.aload_n 0) 1072 0)],
  [(1072, e1 (.iload 4) 1074 4), (1074, ei (.iconst 1) 1075 0 (1)), (1075, e0 (.iadd) 1076), (1076, e0 (.iaload) 1077), (1077, e1 (.aload_n 0) 1078 0), (1078, e1 (.iload 4) 1080 4), (1080, ei (.iconst 2) 1081 0 (2)), (1081, e0 (.iadd) 1082), (1082, e0 (.iaload) 1083), (1083, e3 (.invokevirtual 117) 1086 46 3 0), (1086, e1 (.aload_n 2) 1087 2), (1087, e1 (.aload_n 0) 1088 0)],
  [(1088, e1 (.iload 4) 1090 4), (1090, ei (.iconst 1) 1091 0 (1)), (1091, e0 (.iadd) 1092), (1092, e0 (.iaload) 1093), (1093, e1 (.aload_n 0) 1094 0), (1094, e1 (.iload 4) 1096 4), (1096, ei (.iconst 2) 1097 0 (2)), (1097, e0 (.iadd) 1098), (1098, e0 (.iaload) 1099), (1099, e3 (.invokevirtual 120) 1102 47 3 0), (1102, e1 (.if_icmp .eq 953) 1105 2055)],
  [(1105, ei (.iconst 0) 1106 0 (0)), (1106, e0 (.ireturn) 1107), (1107, e1 (.aload_n 1) 1108 1), (1108, e1 (.aload_n 0) 1109 0), (1109, e1 (.iload 4) 1111 4), (1111, ei (.iconst 1) 1112 0 (1)), (1112, e0 (.iadd) 1113), (1113, e0 (.iaload) 1114), (1114, e3 (.invokevirtual 121) 1117 48 2 0), (1117, e1 (.aload_n 2) 1118 2), (1118, e1 (.aload_n 0) 1119 0), (1119, e1 (.iload 4) 1121 4)],
  [(1121, ei (.iconst 1) 1122 0 (1)), (1122, e0 (.iadd) 1123), (1123, e0 (.iaload) 1124), (1124, e3 (.invokevirtual 124) 1127 49 2 0), (1127, e1 (.if_icmp .eq 928) 1130 2055), (1130, ei (.iconst 0) 1131 0 (0)), (1131, e0 (.ireturn) 1132), (1132, e1 (.aload_n 1) 1133 1), (1133, e1 (.aload_n 0) 1134 0), (1134, e1 (.iload 4) 1136 4)],
  [(1136, ei (.iconst 1) 1137 0 (1)), (1137, e0 (.iadd) 1138), (1138, e0 (.iaload) 1139), (1139, e1 (.aload_n 0) 1140 0), (1140, e1 (.iload 4) 1142 4), (1142, ei (.iconst 2) 1143 0 (2)), (1143, e0 (.iadd) 1144), (1144, e0 (.iaload) 1145), (1145, e3 (.invokevirtual 125) 1148 50 3 0), (1148, e1 (.aload_n 2) 1149 2), (1149, e1 (.aload_n 0) 1150 0), (1150, e1 (.iload 4) 1152 4)]]
def zP_Law_law_9 : List (List (Nat × zE)) := [[(1152, ei (.iconst 1) 1153 0 (1)), (1153, e0 (.iadd) 1154), (1154, e0 (.iaload) 1155), (1155, e1 (.aload_n 0) 1156 0), (1156, e1 (.iload 4) 1158 4), (1158, ei (.iconst 2) 1159 0 (2)), (1159, e0 (.iadd) 1160), (1160, e0 (.iaload) 1161), (1161, e3 (.invokevirtual 128) 1164 51 3 0), (1164, e1 (.if_icmp .eq 891) 1167 2055), (1167, ei (.iconst 0) 1168 0 (0))],
  [(1168, e0 (.ireturn) 1169), (1169, e1 (.aload_n 1) 1170 1), (1170, e1 (.aload_n 0) 1171 0), (1171, e1 (.iload 4) 1173 4), (1173, ei (.iconst 1) 1174 0 (1)), (1174, e0 (.iadd) 1175), (1175, e0 (.iaload) 1176), (1176, e0 (.i2l) 1177), (1177, ei (.bipush 32) 1179 0 (32)), (1179, e0 (.lshl) 1180), (1180, e1 (.aload_n 0) 1181 0), (1181, e1 (.iload 4) 1183 4), (1183, ei (.iconst 2) 1184 0 (2))],
  [(1184, e0 (.iadd) 1185), (1185, e0 (.iaload) 1186), (1186, e0 (.i2l) 1187), (1187, ej (.ldc2_w 88) 1190 (4294967295)), (1190, e0 (.land) 1191), (1191, e0 (.lor) 1192), (1192, e1 (.aload_n 0) 1193 0), (1193, e1 (.iload 4) 1195 4), (1195, ei (.iconst 3) 1196 0 (3)), (1196, e0 (.iadd) 1197), (1197, e0 (.iaload) 1198), (1198, e0 (.i2l) 1199), (1199, ei (.bipush 32) 1201 0 (32))],
  [(1201, e0 (.lshl) 1202), (1202, e1 (.aload_n 0) 1203 0), (1203, e1 (.iload 4) 1205 4), (1205, ei (.iconst 4) 1206 0 (4)), (1206, e0 (.iadd) 1207), (1207, e0 (.iaload) 1208), (1208, e0 (.i2l) 1209), (1209, ej (.ldc2_w 88) 1212 (4294967295)), (1212, e0 (.land) 1213), (1213, e0 (.lor) 1214), (1214, e3 (.invokevirtual 129) 1217 52 3 0)],
  [(1217, e1 (.aload_n 2) 1218 2), (1218, e1 (.aload_n 0) 1219 0), (1219, e1 (.iload 4) 1221 4), (1221, ei (.iconst 1) 1222 0 (1)), (1222, e0 (.iadd) 1223), (1223, e0 (.iaload) 1224), (1224, e0 (.i2l) 1225), (1225, ei (.bipush 32) 1227 0 (32)), (1227, e0 (.lshl) 1228), (1228, e1 (.aload_n 0) 1229 0), (1229, e1 (.iload 4) 1231 4), (1231, ei (.iconst 2) 1232 0 (2))],
  [(1232, e0 (.iadd) 1233), (1233, e0 (.iaload) 1234), (1234, e0 (.i2l) 1235), (1235, ej (.ldc2_w 88) 1238 (4294967295)), (1238, e0 (.land) 1239), (1239, e0 (.lor) 1240), (1240, e1 (.aload_n 0) 1241 0), (1241, e1 (.iload 4) 1243 4), (1243, ei (.iconst 3) 1244 0 (3)), (1244, e0 (.iadd) 1245), (1245, e0 (.iaload) 1246), (1246, e0 (.i2l) 1247), (1247, ei (.bipush 32) 1249 0 (32))],
  [(1249, e0 (.lshl) 1250), (1250, e1 (.aload_n 0) 1251 0), (1251, e1 (.iload 4) 1253 4), (1253, ei (.iconst 4) 1254 0 (4)), (1254, e0 (.iadd) 1255), (1255, e0 (.iaload) 1256), (1256, e0 (.i2l) 1257), (1257, ej (.ldc2_w 88) 1260 (4294967295)), (1260, e0 (.land) 1261), (1261, e0 (.lor) 1262), (1262, e3 (.invokevirtual 133) 1265 53 3 0)],
  [(1265, e1 (.if_icmp .eq 790) 1268 2055), (1268, ei (.iconst 0) 1269 0 (0)), (1269, e0 (.ireturn) 1270), (1270, e1 (.aload_n 1) 1271 1), (1271, e1 (.aload_n 0) 1272 0), (1272, e1 (.iload 4) 1274 4), (1274, ei (.iconst 1) 1275 0 (1)), (1275, e0 (.iadd) 1276), (1276, e0 (.iaload) 1277), (1277, e0 (.i2l) 1278), (1278, ei (.bipush 32) 1280 0 (32))]]
def zP_Law_law_10 : List (List (Nat × zE)) := [[(1280, e0 (.lshl) 1281), (1281, e1 (.aload_n 0) 1282 0), (1282, e1 (.iload 4) 1284 4), (1284, ei (.iconst 2) 1285 0 (2)), (1285, e0 (.iadd) 1286), (1286, e0 (.iaload) 1287), (1287, e0 (.i2l) 1288), (1288, ej (.ldc2_w 88) 1291 (4294967295)), (1291, e0 (.land) 1292), (1292, e0 (.lor) 1293), (1293, e3 (.invokevirtual 134) 1296 54 2 0)],
  [(1296, e1 (.aload_n 2) 1297 2), (1297, e1 (.aload_n 0) 1298 0), (1298, e1 (.iload 4) 1300 4), (1300, ei (.iconst 1) 1301 0 (1)), (1301, e0 (.iadd) 1302), (1302, e0 (.iaload) 1303), (1303, e0 (.i2l) 1304), (1304, ei (.bipush 32) 1306 0 (32)), (1306, e0 (.lshl) 1307), (1307, e1 (.aload_n 0) 1308 0), (1308, e1 (.iload 4) 1310 4), (1310, ei (.iconst 2) 1311 0 (2)), (1311, e0 (.iadd) 1312)],
  [(1312, e0 (.iaload) 1313), (1313, e0 (.i2l) 1314), (1314, ej (.ldc2_w 88) 1317 (4294967295)), (1317, e0 (.land) 1318), (1318, e0 (.lor) 1319), (1319, e3 (.invokevirtual 137) 1322 55 2 0), (1322, e1 (.if_icmp .eq 733) 1325 2055), (1325, ei (.iconst 0) 1326 0 (0)), (1326, e0 (.ireturn) 1327), (1327, e1 (.aload_n 1) 1328 1)],
  [(1328, e1 (.aload_n 0) 1329 0), (1329, e1 (.iload 4) 1331 4), (1331, ei (.iconst 1) 1332 0 (1)), (1332, e0 (.iadd) 1333), (1333, e0 (.iaload) 1334), (1334, e0 (.i2l) 1335), (1335, ei (.bipush 32) 1337 0 (32)), (1337, e0 (.lshl) 1338), (1338, e1 (.aload_n 0) 1339 0), (1339, e1 (.iload 4) 1341 4), (1341, ei (.iconst 2) 1342 0 (2)), (1342, e0 (.iadd) 1343), (1343, e0 (.iaload) 1344)],
  [(1344, e0 (.i2l) 1345), (1345, ej (.ldc2_w 88) 1348 (4294967295)), (1348, e0 (.land) 1349), (1349, e0 (.lor) 1350), (1350, e1 (.aload_n 0) 1351 0), (1351, e1 (.iload 4) 1353 4), (1353, ei (.iconst 3) 1354 0 (3)), (1354, e0 (.iadd) 1355), (1355, e0 (.iaload) 1356), (1356, e3 (.invokevirtual 138) 1359 56 3 0), (1359, e1 (.aload_n 2) 1360 2)],
  [(1360, e1 (.aload_n 0) 1361 0), (1361, e1 (.iload 4) 1363 4), (1363, ei (.iconst 1) 1364 0 (1)), (1364, e0 (.iadd) 1365), (1365, e0 (.iaload) 1366), (1366, e0 (.i2l) 1367), (1367, ei (.bipush 32) 1369 0 (32)), (1369, e0 (.lshl) 1370), (1370, e1 (.aload_n 0) 1371 0), (1371, e1 (.iload 4) 1373 4), (1373, ei (.iconst 2) 1374 0 (2)), (1374, e0 (.iadd) 1375), (1375, e0 (.iaload) 1376)],
  [(1376, e0 (.i2l) 1377), (1377, ej (.ldc2_w 88) 1380 (4294967295)), (1380, e0 (.land) 1381), (1381, e0 (.lor) 1382), (1382, e1 (.aload_n 0) 1383 0), (1383, e1 (.iload 4) 1385 4), (1385, ei (.iconst 3) 1386 0 (3)), (1386, e0 (.iadd) 1387), (1387, e0 (.iaload) 1388), (1388, e3 (.invokevirtual 142) 1391 57 3 0), (1391, e1 (.if_icmp .eq 664) 1394 2055)],
  [(1394, ei (.iconst 0) 1395 0 (0)), (1395, e0 (.ireturn) 1396), (1396, e1 (.aload_n 1) 1397 1), (1397, e1 (.aload_n 0) 1398 0), (1398, e1 (.iload 4) 1400 4), (1400, ei (.iconst 1) 1401 0 (1)), (1401, e0 (.iadd) 1402), (1402, e0 (.iaload) 1403), (1403, e3 (.invokevirtual 143) 1406 58 2 0), (1406, e1 (.aload_n 2) 1407 2), (1407, e1 (.aload_n 0) 1408 0)]]
def zP_Law_law_11 : List (List (Nat × zE)) := [[(1408, e1 (.iload 4) 1410 4), (1410, ei (.iconst 1) 1411 0 (1)), (1411, e0 (.iadd) 1412), (1412, e0 (.iaload) 1413), (1413, e3 (.invokevirtual 146) 1416 59 2 0), (1416, e1 (.if_icmp .eq 639) 1419 2055), (1419, ei (.iconst 0) 1420 0 (0)), (1420, e0 (.ireturn) 1421), (1421, e1 (.aload_n 1) 1422 1), (1422, e1 (.aload_n 0) 1423 0), (1423, e1 (.iload 4) 1425 4)],
  [(1425, ei (.iconst 1) 1426 0 (1)), (1426, e0 (.iadd) 1427), (1427, e0 (.iaload) 1428), (1428, e3 (.invokevirtual 147) 1431 60 2 0), (1431, e1 (.aload_n 2) 1432 2), (1432, e1 (.aload_n 0) 1433 0), (1433, e1 (.iload 4) 1435 4), (1435, ei (.iconst 1) 1436 0 (1)), (1436, e0 (.iadd) 1437), (1437, e0 (.iaload) 1438), (1438, e3 (.invokevirtual 150) 1441 61 2 0)],
  [(1441, e1 (.if_icmp .eq 614) 1444 2055), (1444, ei (.iconst 0) 1445 0 (0)), (1445, e0 (.ireturn) 1446), (1446, e1 (.aload_n 1) 1447 1), (1447, e1 (.aload_n 0) 1448 0), (1448, e1 (.iload 4) 1450 4), (1450, ei (.iconst 1) 1451 0 (1)), (1451, e0 (.iadd) 1452), (1452, e0 (.iaload) 1453), (1453, e1 (.aload_n 0) 1454 0), (1454, e1 (.iload 4) 1456 4)],
  [(1456, ei (.iconst 2) 1457 0 (2)), (1457, e0 (.iadd) 1458), (1458, e0 (.iaload) 1459), (1459, e3 (.invokevirtual 151) 1462 62 3 0), (1462, e1 (.aload_n 2) 1463 2), (1463, e1 (.aload_n 0) 1464 0), (1464, e1 (.iload 4) 1466 4), (1466, ei (.iconst 1) 1467 0 (1)), (1467, e0 (.iadd) 1468), (1468, e0 (.iaload) 1469), (1469, e1 (.aload_n 0) 1470 0), (1470, e1 (.iload 4) 1472 4)],
  [(1472, ei (.iconst 2) 1473 0 (2)), (1473, e0 (.iadd) 1474), (1474, e0 (.iaload) 1475), (1475, e3 (.invokevirtual 155) 1478 63 3 0), (1478, e0 (.lcmp) 1479), (1479, e1 (.ifCond .eq 576) 1482 2055), (1482, ei (.iconst 0) 1483 0 (0)), (1483, e0 (.ireturn) 1484), (1484, e1 (.aload_n 1) 1485 1), (1485, e1 (.aload_n 0) 1486 0), (1486, e1 (.iload 4) 1488 4)],
  [(1488, ei (.iconst 1) 1489 0 (1)), (1489, e0 (.iadd) 1490), (1490, e0 (.iaload) 1491), (1491, e3 (.invokevirtual 156) 1494 64 2 0), (1494, e1 (.aload_n 2) 1495 2), (1495, e1 (.aload_n 0) 1496 0), (1496, e1 (.iload 4) 1498 4), (1498, ei (.iconst 1) 1499 0 (1)), (1499, e0 (.iadd) 1500), (1500, e0 (.iaload) 1501), (1501, e3 (.invokevirtual 159) 1504 65 2 0)],
  [(1504, e1 (.if_icmp .eq 551) 1507 2055), (1507, ei (.iconst 0) 1508 0 (0)), (1508, e0 (.ireturn) 1509), (1509, e1 (.aload_n 1) 1510 1), (1510, e1 (.aload_n 0) 1511 0), (1511, e1 (.iload 4) 1513 4), (1513, ei (.iconst 1) 1514 0 (1)), (1514, e0 (.iadd) 1515), (1515, e0 (.iaload) 1516), (1516, e1 (.aload_n 0) 1517 0), (1517, e1 (.iload 4) 1519 4), (1519, ei (.iconst 2) 1520 0 (2))],
  [(1520, e0 (.iadd) 1521), (1521, e0 (.iaload) 1522), (1522, e3 (.invokevirtual 160) 1525 66 3 0), (1525, e1 (.aload_n 2) 1526 2), (1526, e1 (.aload_n 0) 1527 0), (1527, e1 (.iload 4) 1529 4), (1529, ei (.iconst 1) 1530 0 (1)), (1530, e0 (.iadd) 1531), (1531, e0 (.iaload) 1532), (1532, e1 (.aload_n 0) 1533 0), (1533, e1 (.iload 4) 1535 4), (1535, ei (.iconst 2) 1536 0 (2))]]
def zP_Law_law_12 : List (List (Nat × zE)) := [[(1536, e0 (.iadd) 1537), (1537, e0 (.iaload) 1538), (1538, e3 (.invokevirtual 163) 1541 67 3 0), (1541, e1 (.if_icmp .eq 514) 1544 2055), (1544, ei (.iconst 0) 1545 0 (0)), (1545, e0 (.ireturn) 1546), (1546, e1 (.aload_n 1) 1547 1), (1547, e1 (.aload_n 0) 1548 0), (1548, e1 (.iload 4) 1550 4), (1550, ei (.iconst 1) 1551 0 (1)), (1551, e0 (.iadd) 1552)],
  [(1552, e0 (.iaload) 1553), (1553, e1 (.aload_n 0) 1554 0), (1554, e1 (.iload 4) 1556 4), (1556, ei (.iconst 2) 1557 0 (2)), (1557, e0 (.iadd) 1558), (1558, e0 (.iaload) 1559), (1559, e3 (.invokevirtual 164) 1562 68 3 0), (1562, e1 (.aload_n 2) 1563 2), (1563, e1 (.aload_n 0) 1564 0), (1564, e1 (.iload 4) 1566 4), (1566, ei (.iconst 1) 1567 0 (1)), (1567, e0 (.iadd) 1568)],
  [(1568, e0 (.iaload) 1569), (1569, e1 (.aload_n 0) 1570 0), (1570, e1 (.iload 4) 1572 4), (1572, ei (.iconst 2) 1573 0 (2)), (1573, e0 (.iadd) 1574), (1574, e0 (.iaload) 1575), (1575, e3 (.invokevirtual 167) 1578 69 3 0), (1578, e0 (.lcmp) 1579), (1579, e1 (.ifCond .eq 476) 1582 2055), (1582, ei (.iconst 0) 1583 0 (0)), (1583, e0 (.ireturn) 1584)],
  [(1584, e1 (.aload_n 1) 1585 1), (1585, e1 (.aload_n 0) 1586 0), (1586, e1 (.iload 4) 1588 4), (1588, ei (.iconst 1) 1589 0 (1)), (1589, e0 (.iadd) 1590), (1590, e0 (.iaload) 1591), (1591, e1 (.aload_n 0) 1592 0), (1592, e1 (.iload 4) 1594 4), (1594, ei (.iconst 2) 1595 0 (2)), (1595, e0 (.iadd) 1596), (1596, e0 (.iaload) 1597), (1597, e0 (.i2l) 1598), (1598, ei (.bipush 32) 1600 0 (32))],
  [(1600, e0 (.lshl) 1601), (1601, e1 (.aload_n 0) 1602 0), (1602, e1 (.iload 4) 1604 4), (1604, ei (.iconst 3) 1605 0 (3)), (1605, e0 (.iadd) 1606), (1606, e0 (.iaload) 1607), (1607, e0 (.i2l) 1608), (1608, ej (.ldc2_w 88) 1611 (4294967295)), (1611, e0 (.land) 1612), (1612, e0 (.lor) 1613), (1613, e3 (.invokevirtual 168) 1616 70 3 0)],
  [(1616, e1 (.aload_n 2) 1617 2), (1617, e1 (.aload_n 0) 1618 0), (1618, e1 (.iload 4) 1620 4), (1620, ei (.iconst 1) 1621 0 (1)), (1621, e0 (.iadd) 1622), (1622, e0 (.iaload) 1623), (1623, e1 (.aload_n 0) 1624 0), (1624, e1 (.iload 4) 1626 4), (1626, ei (.iconst 2) 1627 0 (2)), (1627, e0 (.iadd) 1628), (1628, e0 (.iaload) 1629), (1629, e0 (.i2l) 1630), (1630, ei (.bipush 32) 1632 0 (32))],
  [(1632, e0 (.lshl) 1633), (1633, e1 (.aload_n 0) 1634 0), (1634, e1 (.iload 4) 1636 4), (1636, ei (.iconst 3) 1637 0 (3)), (1637, e0 (.iadd) 1638), (1638, e0 (.iaload) 1639), (1639, e0 (.i2l) 1640), (1640, ej (.ldc2_w 88) 1643 (4294967295)), (1643, e0 (.land) 1644), (1644, e0 (.lor) 1645), (1645, e3 (.invokevirtual 171) 1648 71 3 0)],
  [(1648, e1 (.if_icmp .eq 407) 1651 2055), (1651, ei (.iconst 0) 1652 0 (0)), (1652, e0 (.ireturn) 1653), (1653, e1 (.aload_n 1) 1654 1), (1654, e1 (.aload_n 0) 1655 0), (1655, e1 (.iload 4) 1657 4), (1657, ei (.iconst 1) 1658 0 (1)), (1658, e0 (.iadd) 1659), (1659, e0 (.iaload) 1660), (1660, e1 (.aload_n 0) 1661 0), (1661, e1 (.iload 4) 1663 4), (1663, ei (.iconst 2) 1664 0 (2))]]
def zP_Law_law_13 : List (List (Nat × zE)) := [[(1664, e0 (.iadd) 1665), (1665, e0 (.iaload) 1666), (1666, e0 (.i2l) 1667), (1667, ei (.bipush 32) 1669 0 (32)), (1669, e0 (.lshl) 1670), (1670, e1 (.aload_n 0) 1671 0), (1671, e1 (.iload 4) 1673 4), (1673, ei (.iconst 3) 1674 0 (3)), (1674, e0 (.iadd) 1675), (1675, e0 (.iaload) 1676), (1676, e0 (.i2l) 1677), (1677, ej (.ldc2_w 88) 1680 (4294967295))],
  [(1680, e0 (.land) 1681), (1681, e0 (.lor) 1682), (1682, e1 (.aload_n 0) 1683 0), (1683, e1 (.iload 4) 1685 4), (1685, ei (.iconst 4) 1686 0 (4)), (1686, e0 (.iadd) 1687), (1687, e0 (.iaload) 1688), (1688, e3 (.invokevirtual 172) 1691 72 4 0), (1691, e1 (.aload_n 2) 1692 2), (1692, e1 (.aload_n 0) 1693 0), (1693, e1 (.iload 4) 1695 4), (1695, ei (.iconst 1) 1696 0 (1))],
  [(1696, e0 (.iadd) 1697), (1697, e0 (.iaload) 1698), (1698, e1 (.aload_n 0) 1699 0), (1699, e1 (.iload 4) 1701 4), (1701, ei (.iconst 2) 1702 0 (2)), (1702, e0 (.iadd) 1703), (1703, e0 (.iaload) 1704), (1704, e0 (.i2l) 1705), (1705, ei (.bipush 32) 1707 0 (32)), (1707, e0 (.lshl) 1708), (1708, e1 (.aload_n 0) 1709 0), (1709, e1 (.iload 4) 1711 4), (1711, ei (.iconst 3) 1712 0 (3))],
  [(1712, e0 (.iadd) 1713), (1713, e0 (.iaload) 1714), (1714, e0 (.i2l) 1715), (1715, ej (.ldc2_w 88) 1718 (4294967295)), (1718, e0 (.land) 1719), (1719, e0 (.lor) 1720), (1720, e1 (.aload_n 0) 1721 0), (1721, e1 (.iload 4) 1723 4), (1723, ei (.iconst 4) 1724 0 (4)), (1724, e0 (.iadd) 1725), (1725, e0 (.iaload) 1726), (1726, e3 (.invokevirtual 176) 1729 73 4 0)],
  [(1729, e0 (.lcmp) 1730), (1730, e1 (.ifCond .eq 325) 1733 2055), (1733, ei (.iconst 0) 1734 0 (0)), (1734, e0 (.ireturn) 1735), (1735, e1 (.aload_n 1) 1736 1), (1736, e1 (.aload_n 0) 1737 0), (1737, e1 (.iload 4) 1739 4), (1739, ei (.iconst 1) 1740 0 (1)), (1740, e0 (.iadd) 1741), (1741, e0 (.iaload) 1742), (1742, e3 (.invokevirtual 177) 1745 74 2 0)],
  [(1745, e1 (.aload_n 2) 1746 2), (1746, e1 (.aload_n 0) 1747 0), (1747, e1 (.iload 4) 1749 4), (1749, ei (.iconst 1) 1750 0 (1)), (1750, e0 (.iadd) 1751), (1751, e0 (.iaload) 1752), (1752, e3 (.invokevirtual 180) 1755 75 2 0), (1755, e1 (.if_icmp .eq 300) 1758 2055), (1758, ei (.iconst 0) 1759 0 (0)), (1759, e0 (.ireturn) 1760)],
  [(1760, e1 (.aload_n 1) 1761 1), (1761, e1 (.aload_n 0) 1762 0), (1762, e1 (.iload 4) 1764 4), (1764, ei (.iconst 1) 1765 0 (1)), (1765, e0 (.iadd) 1766), (1766, e0 (.iaload) 1767), (1767, e3 (.invokevirtual 181) 1770 76 2 0), (1770, e1 (.aload_n 2) 1771 2), (1771, e1 (.aload_n 0) 1772 0), (1772, e1 (.iload 4) 1774 4), (1774, ei (.iconst 1) 1775 0 (1)), (1775, e0 (.iadd) 1776)],
  [(1776, e0 (.iaload) 1777), (1777, e3 (.invokevirtual 185) 1780 77 2 0), (1780, e0 (.lcmp) 1781), (1781, e1 (.ifCond .eq 274) 1784 2055), (1784, ei (.iconst 0) 1785 0 (0)), (1785, e0 (.ireturn) 1786), (1786, e1 (.aload_n 1) 1787 1), (1787, e1 (.aload_n 0) 1788 0), (1788, e1 (.iload 4) 1790 4), (1790, ei (.iconst 1) 1791 0 (1)), (1791, e0 (.iadd) 1792)]]
def zP_Law_law_14 : List (List (Nat × zE)) := [[(1792, e0 (.iaload) 1793), (1793, e1 (.aload_n 0) 1794 0), (1794, e1 (.iload 4) 1796 4), (1796, ei (.iconst 2) 1797 0 (2)), (1797, e0 (.iadd) 1798), (1798, e0 (.iaload) 1799), (1799, e3 (.invokevirtual 186) 1802 78 3 0), (1802, e1 (.aload_n 2) 1803 2), (1803, e1 (.aload_n 0) 1804 0), (1804, e1 (.iload 4) 1806 4), (1806, ei (.iconst 1) 1807 0 (1)), (1807, e0 (.iadd) 1808)],
  [(1808, e0 (.iaload) 1809), (1809, e1 (.aload_n 0) 1810 0), (1810, e1 (.iload 4) 1812 4), (1812, ei (.iconst 2) 1813 0 (2)), (1813, e0 (.iadd) 1814), (1814, e0 (.iaload) 1815), (1815, e3 (.invokevirtual 189) 1818 79 3 0), (1818, e1 (.if_icmp .eq 237) 1821 2055), (1821, ei (.iconst 0) 1822 0 (0)), (1822, e0 (.ireturn) 1823), (1823, e1 (.aload_n 1) 1824 1)],
  [(1824, e1 (.aload_n 0) 1825 0), (1825, e1 (.iload 4) 1827 4), (1827, ei (.iconst 1) 1828 0 (1)), (1828, e0 (.iadd) 1829), (1829, e0 (.iaload) 1830), (1830, e3 (.invokevirtual 190) 1833 80 2 0), (1833, e1 (.aload_n 2) 1834 2), (1834, e1 (.aload_n 0) 1835 0), (1835, e1 (.iload 4) 1837 4), (1837, ei (.iconst 1) 1838 0 (1)), (1838, e0 (.iadd) 1839), (1839, e0 (.iaload) 1840)],
  [(1840, e3 (.invokevirtual 193) 1843 81 2 0), (1843, e1 (.if_icmp .eq 212) 1846 2055), (1846, ei (.iconst 0) 1847 0 (0)), (1847, e0 (.ireturn) 1848), (1848, e1 (.aload_n 1) 1849 1), (1849, e1 (.aload_n 0) 1850 0), (1850, e1 (.iload 4) 1852 4), (1852, ei (.iconst 1) 1853 0 (1)), (1853, e0 (.iadd) 1854), (1854, e0 (.iaload) 1855), (1855, e3 (.invokevirtual 194) 1858 82 2 0)],
  [(1858, e1 (.aload_n 2) 1859 2), (1859, e1 (.aload_n 0) 1860 0), (1860, e1 (.iload 4) 1862 4), (1862, ei (.iconst 1) 1863 0 (1)), (1863, e0 (.iadd) 1864), (1864, e0 (.iaload) 1865), (1865, e3 (.invokevirtual 197) 1868 83 2 0), (1868, e0 (.lcmp) 1869), (1869, e1 (.ifCond .eq 186) 1872 2055)],
  [(1872, ei (.iconst 0) 1873 0 (0)), (1873, e0 (.ireturn) 1874), (1874, e1 (.aload_n 1) 1875 1), (1875, e1 (.aload_n 0) 1876 0), (1876, e1 (.iload 4) 1878 4), (1878, ei (.iconst 1) 1879 0 (1)), (1879, e0 (.iadd) 1880), (1880, e0 (.iaload) 1881), (1881, e3 (.invokevirtual 198) 1884 84 2 0), (1884, e1 (.aload_n 2) 1885 2), (1885, e1 (.aload_n 0) 1886 0), (1886, e1 (.iload 4) 1888 4)],
  [(1888, ei (.iconst 1) 1889 0 (1)), (1889, e0 (.iadd) 1890), (1890, e0 (.iaload) 1891), (1891, e3 (.invokevirtual 201) 1894 85 2 0), (1894, e1 (.if_icmp .eq 161) 1897 2055), (1897, ei (.iconst 0) 1898 0 (0)), (1898, e0 (.ireturn) 1899), (1899, e1 (.aload_n 1) 1900 1), (1900, e1 (.aload_n 0) 1901 0), (1901, e1 (.iload 4) 1903 4), (1903, ei (.iconst 1) 1904 0 (1))],
  [(1904, e0 (.iadd) 1905), (1905, e0 (.iaload) 1906), (1906, e1 (.aload_n 0) 1907 0), (1907, e1 (.iload 4) 1909 4), (1909, ei (.iconst 2) 1910 0 (2)), (1910, e0 (.iadd) 1911), (1911, e0 (.iaload) 1912), (1912, e1 (.aload_n 0) 1913 0), (1913, e1 (.iload 4) 1915 4), (1915, ei (.iconst 3) 1916 0 (3)), (1916, e0 (.iadd) 1917), (1917, e0 (.iaload) 1918), (1918, e3 (.invokevirtual 202) 1921 86 4 0)]]
def zP_Law_law_15 : List (List (Nat × zE)) := [[(1921, e1 (.aload_n 2) 1922 2), (1922, e1 (.aload_n 0) 1923 0), (1923, e1 (.iload 4) 1925 4), (1925, ei (.iconst 1) 1926 0 (1)), (1926, e0 (.iadd) 1927), (1927, e0 (.iaload) 1928), (1928, e1 (.aload_n 0) 1929 0), (1929, e1 (.iload 4) 1931 4), (1931, ei (.iconst 2) 1932 0 (2)), (1932, e0 (.iadd) 1933), (1933, e0 (.iaload) 1934), (1934, e1 (.aload_n 0) 1935 0), (1935, e1 (.iload 4) 1937 4)],
  [(1937, ei (.iconst 3) 1938 0 (3)), (1938, e0 (.iadd) 1939), (1939, e0 (.iaload) 1940), (1940, e3 (.invokevirtual 205) 1943 87 4 0), (1943, e1 (.if_icmp .eq 112) 1946 2055), (1946, ei (.iconst 0) 1947 0 (0)), (1947, e0 (.ireturn) 1948), (1948, e1 (.aload_n 1) 1949 1), (1949, e3 (.invokevirtual 206) 1952 88 1 0)],
  [(1952, e1 (.aload_n 2) 1953 2), (1953, e3 (.invokevirtual 210) 1956 89 1 0), (1956, e1 (.if_icmp .eq 99) 1959 2055), (1959, ei (.iconst 0) 1960 0 (0)), (1960, e0 (.ireturn) 1961), (1961, e1 (.aload_n 1) 1962 1), (1962, e1 (.aload_n 0) 1963 0), (1963, e1 (.iload 4) 1965 4), (1965, ei (.iconst 1) 1966 0 (1)), (1966, e0 (.iadd) 1967), (1967, e0 (.iaload) 1968)],
  [(1968, e1 (.aload_n 3) 1969 3), (1972, e1 (.istore 5) 1974 5), (1974, e1 (.aload_n 2) 1975 2), (1975, e1 (.aload_n 0) 1976 0), (1976, e1 (.iload 4) 1978 4), (1978, ei (.iconst 1) 1979 0 (1)), (1979, e0 (.iadd) 1980), (1980, e0 (.iaload) 1981), (1981, e3 (.invokevirtual 216) 1984 90 2 0)],
  [(1984, e1 (.istore 6) 1986 6), (1986, e1 (.aload_n 2) 1987 2), (1987, e3 (.invokevirtual 217) 1990 91 1 0), (1990, e1 (.iload 5) 1992 5), (1992, e1 (.if_icmp .eq 5) 1995 1997), (1995, ei (.iconst 0) 1996 0 (0)), (1996, e0 (.ireturn) 1997), (1997, e1 (.iload 5) 1999 5), (1999, e1 (.ifCond .ne 15) 2002 2014)],
  [(2002, e1 (.aload_n 3) 2003 3), (2003, ei (.iconst 0) 2004 0 (0)), (2004, e0 (.laload) 2005), (2005, e1 (.iload 6) 2007 6), (2007, e0 (.i2l) 2008), (2008, e0 (.lcmp) 2009), (2009, e1 (.ifCond .eq 5) 2012 2014), (2012, ei (.iconst 0) 2013 0 (0)), (2013, e0 (.ireturn) 2014), (2014, e1 (.goto 41) 2017 2055)],
  [(2017, e1 (.aload_n 1) 2018 1), (2018, e1 (.aload_n 0) 2019 0), (2019, e1 (.iload 4) 2021 4), (2021, ei (.iconst 1) 2022 0 (1)), (2022, e0 (.iadd) 2023), (2023, e0 (.iaload) 2024), (2024, e3 (.invokevirtual 220) 2027 92 2 0), (2027, e1 (.aload_n 2) 2028 2), (2028, e1 (.aload_n 0) 2029 0), (2029, e1 (.iload 4) 2031 4), (2031, ei (.iconst 1) 2032 0 (1))],
  [(2032, e0 (.iadd) 2033), (2033, e0 (.iaload) 2034), (2034, e3 (.invokevirtual 223) 2037 93 2 0), (2037, e1 (.if_icmp .eq 18) 2040 2055), (2040, ei (.iconst 0) 2041 0 (0)), (2041, e0 (.ireturn) 2042), (2042, e1 (.aload_n 1) 2043 1), (2043, e3 (.invokevirtual 224) 2046 94 1 0), (2046, e1 (.aload_n 2) 2047 2), (2047, e3 (.invokevirtual 227) 2050 95 1 0)]]
def zP_Law_law_16 : List (List (Nat × zE)) := [[(2050, e1 (.if_icmp .eq 5) 2053 2055), (2053, ei (.iconst 0) 2054 0 (0)), (2054, e0 (.ireturn) 2055), (2055, ei (.iinc 4 6) 2058 4 (6)), (2058, e1 (.goto (-2035)) 2061 23), (2061, ei (.iconst 1) 2062 0 (1)), (2062, e0 (.ireturn) 2063)]]
def zP_Law_law : List (List (Nat × zE)) := zP_Law_law_0 ++ (zP_Law_law_1 ++ (zP_Law_law_2 ++ (zP_Law_law_3 ++ (zP_Law_law_4 ++ (zP_Law_law_5 ++ (zP_Law_law_6 ++ (zP_Law_law_7 ++ (zP_Law_law_8 ++ (zP_Law_law_9 ++ (zP_Law_law_10 ++ (zP_Law_law_11 ++ (zP_Law_law_12 ++ (zP_Law_law_13 ++ (zP_Law_law_14 ++ (zP_Law_law_15 ++ (zP_Law_law_16))))))))))))))))
noncomputable def zE_Law_law (α : Type) : Nat → zX α := fun i => bif Nat.beq i 0 then zA_vR_V 11 f_Cl_init else bif Nat.beq i 1 then zA_vR_V 12 f_Mo_init else bif Nat.beq i 2 then zA_vRIIIII_I 11 f_Cl_feed else bif Nat.beq i 3 then zA_vRIIIII_I 12 f_Mo_feed else bif Nat.beq i 4 then zA_vRI_I 11 f_Cl_script else bif Nat.beq i 5 then zA_vRI_I 12 f_Mo_script else bif Nat.beq i 6 then zA_vR_I 11 f_Cl_fault else bif Nat.beq i 7 then zA_vR_I 12 f_Mo_fault else bif Nat.beq i 8 then zA_vR_I 11 f_Cl_where else bif Nat.beq i 9 then zA_vR_I 12 f_Mo_where else bif Nat.beq i 10 then zA_vRI_I 11 f_Cl_about else bif Nat.beq i 11 then zA_vRI_I 12 f_Mo_about else bif Nat.beq i 12 then zA_vRI_I 11 f_Cl_kind else bif Nat.beq i 13 then zA_vRI_I 12 f_Mo_kind else bif Nat.beq i 14 then zA_vRII_I 11 f_Cl_pass else bif Nat.beq i 15 then zA_vRII_I 12 f_Mo_pass else bif Nat.beq i 16 then zA_vRIII_I 11 f_Cl_rule else bif Nat.beq i 17 then zA_vRIII_I 12 f_Mo_rule else bif Nat.beq i 18 then zA_vRIIII_I 11 f_Cl_letter else bif Nat.beq i 19 then zA_vRIIII_I 12 f_Mo_letter else bif Nat.beq i 20 then zA_vRIII_I 11 f_Cl_goes else bif Nat.beq i 21 then zA_vRIII_I 12 f_Mo_goes else bif Nat.beq i 22 then zA_vRII_I 11 f_Cl_depth else bif Nat.beq i 23 then zA_vRII_I 12 f_Mo_depth else bif Nat.beq i 24 then zA_vRII_I 11 f_Cl_ends else bif Nat.beq i 25 then zA_vRII_I 12 f_Mo_ends else bif Nat.beq i 26 then zA_vRI_I 11 f_Cl_pieces else bif Nat.beq i 27 then zA_vRI_I 12 f_Mo_pieces else bif Nat.beq i 28 then zA_vRII_I 11 f_Cl_piece else bif Nat.beq i 29 then zA_vRII_I 12 f_Mo_piece else bif Nat.beq i 30 then zA_vRI_I 11 f_Cl_clear else bif Nat.beq i 31 then zA_vRI_I 12 f_Mo_clear else bif Nat.beq i 32 then zA_vRI_I 11 f_Cl_unclear else bif Nat.beq i 33 then zA_vRI_I 12 f_Mo_unclear else bif Nat.beq i 34 then zA_vRIJ_I 11 f_Cl_readings else bif Nat.beq i 35 then zA_vRIJ_I 12 f_Mo_readings else bif Nat.beq i 36 then zA_vRIJI_I 11 f_Cl_reading else bif Nat.beq i 37 then zA_vRIJI_I 12 f_Mo_reading else bif Nat.beq i 38 then zA_vR_I 11 f_Cl_sure else bif Nat.beq i 39 then zA_vR_I 12 f_Mo_sure else bif Nat.beq i 40 then zA_vRJ_I 11 f_Cl_carry else bif Nat.beq i 41 then zA_vRJ_I 12 f_Mo_carry else bif Nat.beq i 42 then zA_vRI_I 11 f_Cl_out else bif Nat.beq i 43 then zA_vRI_I 12 f_Mo_out else bif Nat.beq i 44 then zA_vRI_I 11 f_Cl_behind else bif Nat.beq i 45 then zA_vRI_I 12 f_Mo_behind else bif Nat.beq i 46 then zA_vRII_I 11 f_Cl_outOf else bif Nat.beq i 47 then zA_vRII_I 12 f_Mo_outOf else bif Nat.beq i 48 then zA_vRI_I 11 f_Cl_rounds else bif Nat.beq i 49 then zA_vRI_I 12 f_Mo_rounds else bif Nat.beq i 50 then zA_vRII_I 11 f_Cl_served else bif Nat.beq i 51 then zA_vRII_I 12 f_Mo_served else bif Nat.beq i 52 then zA_vRJJ_I 11 f_Cl_apart else bif Nat.beq i 53 then zA_vRJJ_I 12 f_Mo_apart else bif Nat.beq i 54 then zA_vRJ_I 11 f_Cl_turned else bif Nat.beq i 55 then zA_vRJ_I 12 f_Mo_turned else bif Nat.beq i 56 then zA_vRJI_I 11 f_Cl_turnedOut else bif Nat.beq i 57 then zA_vRJI_I 12 f_Mo_turnedOut else bif Nat.beq i 58 then zA_vRI_I 11 f_Cl_words else bif Nat.beq i 59 then zA_vRI_I 12 f_Mo_words else bif Nat.beq i 60 then zA_vRI_I 11 f_Cl_reversible else bif Nat.beq i 61 then zA_vRI_I 12 f_Mo_reversible else bif Nat.beq i 62 then zA_vRII_J 11 f_Cl_failing else bif Nat.beq i 63 then zA_vRII_J 12 f_Mo_failing else bif Nat.beq i 64 then zA_vRI_I 11 f_Cl_doubled else bif Nat.beq i 65 then zA_vRI_I 12 f_Mo_doubled else bif Nat.beq i 66 then zA_vRII_I 11 f_Cl_fails else bif Nat.beq i 67 then zA_vRII_I 12 f_Mo_fails else bif Nat.beq i 68 then zA_vRII_J 11 f_Cl_firstFail else bif Nat.beq i 69 then zA_vRII_J 12 f_Mo_firstFail else bif Nat.beq i 70 then zA_vRIJ_I 11 f_Cl_sources else bif Nat.beq i 71 then zA_vRIJ_I 12 f_Mo_sources else bif Nat.beq i 72 then zA_vRIJI_J 11 f_Cl_source else bif Nat.beq i 73 then zA_vRIJI_J 12 f_Mo_source else bif Nat.beq i 74 then zA_vRI_I 11 f_Cl_longest else bif Nat.beq i 75 then zA_vRI_I 12 f_Mo_longest else bif Nat.beq i 76 then zA_vRI_J 11 f_Cl_longestOf else bif Nat.beq i 77 then zA_vRI_J 12 f_Mo_longestOf else bif Nat.beq i 78 then zA_vRII_I 11 f_Cl_idle else bif Nat.beq i 79 then zA_vRII_I 12 f_Mo_idle else bif Nat.beq i 80 then zA_vRI_I 11 f_Cl_comeBack else bif Nat.beq i 81 then zA_vRI_I 12 f_Mo_comeBack else bif Nat.beq i 82 then zA_vRI_J 11 f_Cl_lost else bif Nat.beq i 83 then zA_vRI_J 12 f_Mo_lost else bif Nat.beq i 84 then zA_vRI_I 11 f_Cl_worst else bif Nat.beq i 85 then zA_vRI_I 12 f_Mo_worst else bif Nat.beq i 86 then zA_vRIII_I 11 f_Cl_aside else bif Nat.beq i 87 then zA_vRIII_I 12 f_Mo_aside else bif Nat.beq i 88 then zA_vR_I 11 f_Cl_undo else bif Nat.beq i 89 then zA_vR_I 12 f_Mo_undo else bif Nat.beq i 90 then zA_vRI_I 12 f_Mo_empty else bif Nat.beq i 91 then zA_vR_I 12 f_Mo_thrown else bif Nat.beq i 92 then zA_vRI_I 11 f_Cl_size else bif Nat.beq i 93 then zA_vRI_I 12 f_Mo_size else bif Nat.beq i 94 then zA_vR_I 11 f_Cl_trouble else bif Nat.beq i 95 then zA_vR_I 12 f_Mo_trouble else fun _ _ _ => none
def zc_Law_law : Nat → Bool := fun pc => Nat.beq pc 23 || Nat.beq pc 1969 || Nat.beq pc 1972
def D_Law_law_23 (k : Nat → Nat → Nat → Nat → Int32 → zM → Option (Int32 × zM)) (lv : zV) (st : List Value) (S : zM) : Option (Int32 × zM) := match lv, st with
  | [some (.ref a0), some (.ref a1), some (.ref a2), some (.ref a3), some (.int a4), _, _], [] => k a0 a1 a2 a3 a4 S
  | _, _ => none
theorem d_Law_law_23 {g : zV → Nat → List Value → zM → Prop} (Hw : zWk g) {k : Nat → Nat → Nat → Nat → Int32 → zM → Option (Int32 × zM)} {res : (Int32 × zM)} {lv : zV} {st : List Value} {S : zM} (h : D_Law_law_23 k lv st S = some res) (hk : ∀ a0 a1 a2 a3 a4 S, k a0 a1 a2 a3 a4 S = some res → g [some (.ref a0), some (.ref a1), some (.ref a2), some (.ref a3), some (.int a4), none, none] 23 [] S) : g lv 23 st S := by
  unfold D_Law_law_23 at h
  split at h
  · exact Hw _ _ _ _ _ (by simp [zle]) (hk _ _ _ _ _ _  h)
  · cases h
def D_Law_law_1969 (k : Nat → Nat → Nat → Nat → Int32 → Nat → Int32 → Nat → zM → Option (Int32 × zM)) (lv : zV) (st : List Value) (S : zM) : Option (Int32 × zM) := match lv, st with
  | [some (.ref a0), some (.ref a1), some (.ref a2), some (.ref a3), some (.int a4), _, _], [.ref s0, .int s1, .ref s2] => k a0 a1 a2 a3 a4 s0 s1 s2 S
  | _, _ => none
theorem d_Law_law_1969 {g : zV → Nat → List Value → zM → Prop} (Hw : zWk g) {k : Nat → Nat → Nat → Nat → Int32 → Nat → Int32 → Nat → zM → Option (Int32 × zM)} {res : (Int32 × zM)} {lv : zV} {st : List Value} {S : zM} (h : D_Law_law_1969 k lv st S = some res) (hk : ∀ a0 a1 a2 a3 a4 s0 s1 s2 S, k a0 a1 a2 a3 a4 s0 s1 s2 S = some res → g [some (.ref a0), some (.ref a1), some (.ref a2), some (.ref a3), some (.int a4), none, none] 1969 [.ref s0, .int s1, .ref s2] S) : g lv 1969 st S := by
  unfold D_Law_law_1969 at h
  split at h
  · exact Hw _ _ _ _ _ (by simp [zle]) (hk _ _ _ _ _ _ _ _ _  h)
  · cases h
def D_Law_law_1972 (k : Nat → Nat → Nat → Nat → Int32 → Int32 → zM → Option (Int32 × zM)) (lv : zV) (st : List Value) (S : zM) : Option (Int32 × zM) := match lv, st with
  | [some (.ref a0), some (.ref a1), some (.ref a2), some (.ref a3), some (.int a4), _, _], [.int s0] => k a0 a1 a2 a3 a4 s0 S
  | _, _ => none
theorem d_Law_law_1972 {g : zV → Nat → List Value → zM → Prop} (Hw : zWk g) {k : Nat → Nat → Nat → Nat → Int32 → Int32 → zM → Option (Int32 × zM)} {res : (Int32 × zM)} {lv : zV} {st : List Value} {S : zM} (h : D_Law_law_1972 k lv st S = some res) (hk : ∀ a0 a1 a2 a3 a4 s0 S, k a0 a1 a2 a3 a4 s0 S = some res → g [some (.ref a0), some (.ref a1), some (.ref a2), some (.ref a3), some (.int a4), none, none] 1972 [.int s0] S) : g lv 1972 st S := by
  unfold D_Law_law_1972 at h
  split at h
  · exact Hw _ _ _ _ _ (by simp [zle]) (hk _ _ _ _ _ _ _  h)
  · cases h
set_option maxRecDepth 100000 in
set_option maxHeartbeats 4000000 in
theorem r_Law_law_1972 (k23 : Nat → Nat → Nat → Nat → Int32 → zM → Option (Int32 × zM)) (a0 : Nat) (a1 : Nat) (a2 : Nat) (a3 : Nat) (a4 : Int32) (s0 : Int32) (S : zM) : F_Law_law_1972 k23 a0 a1 a2 a3 a4 s0 S = zrt true zP_Law_law (zE_Law_law (Int32 × zM)) zc_Law_law zkI (fun pc lv st S => bif Nat.beq pc 23 then D_Law_law_23 k23 lv st S else none) 3000 1972 [some (.ref a0), some (.ref a1), some (.ref a2), some (.ref a3), some (.int a4), none, none] [.int s0] S := rfl
theorem g_Law_law_1972 {g : zV → Nat → List Value → zM → Prop} {res : (Int32 × zM)} (H : zCl true zP_Law_law (zE_Law_law (Int32 × zM)) zkI res g) (Hw : zWk g) (HX : ∀ (lv : zV) (x out : Nat) (p0 : Int32) (S : zM) (p : Int32 × zM), f_Law_empty x p0 out S = some p → g lv 1972 [.int p.1] p.2 → g lv 1969 [.ref out, .int p0, .ref x] S) {k23 : Nat → Nat → Nat → Nat → Int32 → zM → Option (Int32 × zM)} (hk23 : ∀ a0 a1 a2 a3 a4 S, k23 a0 a1 a2 a3 a4 S = some res → g [some (.ref a0), some (.ref a1), some (.ref a2), some (.ref a3), some (.int a4), none, none] 23 [] S) (a0 : Nat) (a1 : Nat) (a2 : Nat) (a3 : Nat) (a4 : Int32) (s0 : Int32) (S : zM) (h : F_Law_law_1972 k23 a0 a1 a2 a3 a4 s0 S = some res) : g [some (.ref a0), some (.ref a1), some (.ref a2), some (.ref a3), some (.int a4), none, none] 1972 [.int s0] S := by
  refine H zc_Law_law _ 3000 _ _ _ _ ((r_Law_law_1972 k23 a0 a1 a2 a3 a4 s0 S).symm.trans h) (fun pc lv st S hK => ?_)
  rcases zdis hK with ⟨rfl, hK⟩ | hK
  · exact d_Law_law_23 Hw hK hk23
  cases hK
theorem g_Law_law_1969 {g : zV → Nat → List Value → zM → Prop} {res : (Int32 × zM)} (H : zCl true zP_Law_law (zE_Law_law (Int32 × zM)) zkI res g) (Hw : zWk g) (HX : ∀ (lv : zV) (x out : Nat) (p0 : Int32) (S : zM) (p : Int32 × zM), f_Law_empty x p0 out S = some p → g lv 1972 [.int p.1] p.2 → g lv 1969 [.ref out, .int p0, .ref x] S) {k1972 : Nat → Nat → Nat → Nat → Int32 → Int32 → zM → Option (Int32 × zM)} (hk1972 : ∀ a0 a1 a2 a3 a4 s0 S, k1972 a0 a1 a2 a3 a4 s0 S = some res → g [some (.ref a0), some (.ref a1), some (.ref a2), some (.ref a3), some (.int a4), none, none] 1972 [.int s0] S) (a0 : Nat) (a1 : Nat) (a2 : Nat) (a3 : Nat) (a4 : Int32) (s0 : Nat) (s1 : Int32) (s2 : Nat) (S : zM) (h : F_Law_law_1969 k1972 a0 a1 a2 a3 a4 s0 s1 s2 S = some res) : g [some (.ref a0), some (.ref a1), some (.ref a2), some (.ref a3), some (.int a4), none, none] 1969 [.ref s0, .int s1, .ref s2] S := by
  unfold F_Law_law_1969 at h
  obtain ⟨p, hp, h⟩ := zbind h
  exact HX _ _ _ _ _ p hp (hk1972 a0 a1 a2 a3 a4 p.1 p.2 h)
set_option maxRecDepth 100000 in
set_option maxHeartbeats 4000000 in
theorem r_Law_law_23 (n : Nat) (a0 : Nat) (a1 : Nat) (a2 : Nat) (a3 : Nat) (a4 : Int32) (S : zM) : L_Law_law_23 (n + 1) a0 a1 a2 a3 a4 S = zrt true zP_Law_law (zE_Law_law (Int32 × zM)) zc_Law_law zkI (fun pc lv st S => bif Nat.beq pc 23 then D_Law_law_23 (L_Law_law_23 n) lv st S else bif Nat.beq pc 1969 then D_Law_law_1969 (F_Law_law_1969 (F_Law_law_1972 (L_Law_law_23 n))) lv st S else none) 3000 23 [some (.ref a0), some (.ref a1), some (.ref a2), some (.ref a3), some (.int a4), none, none] [] S := rfl
theorem g_Law_law_23 {g : zV → Nat → List Value → zM → Prop} {res : (Int32 × zM)} (H : zCl true zP_Law_law (zE_Law_law (Int32 × zM)) zkI res g) (Hw : zWk g) (HX : ∀ (lv : zV) (x out : Nat) (p0 : Int32) (S : zM) (p : Int32 × zM), f_Law_empty x p0 out S = some p → g lv 1972 [.int p.1] p.2 → g lv 1969 [.ref out, .int p0, .ref x] S) (n : Nat) : ∀ (a0 : Nat) (a1 : Nat) (a2 : Nat) (a3 : Nat) (a4 : Int32) (S : zM), L_Law_law_23 n a0 a1 a2 a3 a4 S = some res → g [some (.ref a0), some (.ref a1), some (.ref a2), some (.ref a3), some (.int a4), none, none] 23 [] S := by
  induction n with
  | zero => intro a0 a1 a2 a3 a4 S h; cases h
  | succ n ih =>
    intro a0 a1 a2 a3 a4 S h
    refine H zc_Law_law _ 3000 _ _ _ _ ((r_Law_law_23 n a0 a1 a2 a3 a4 S).symm.trans h) (fun pc lv st S hK => ?_)
    rcases zdis hK with ⟨rfl, hK⟩ | hK
    · exact d_Law_law_23 Hw hK ih
    rcases zdis hK with ⟨rfl, hK⟩ | hK
    · exact d_Law_law_1969 Hw hK (g_Law_law_1969 H Hw HX (g_Law_law_1972 H Hw HX ih))
    cases hK
set_option maxRecDepth 100000 in
set_option maxHeartbeats 4000000 in
theorem r_Law_law (a0 : Nat) (S : zM) : f_Law_law a0 S = zrt true zP_Law_law (zE_Law_law (Int32 × zM)) zc_Law_law zkI (fun pc lv st S => bif Nat.beq pc 23 then D_Law_law_23 (L_Law_law_23 zF) lv st S else none) 3000 0 [some (.ref a0), none, none, none, none, none, none] [] S := rfl
theorem G_Law_law {g : zV → Nat → List Value → zM → Prop} {res : (Int32 × zM)} (H : zCl true zP_Law_law (zE_Law_law (Int32 × zM)) zkI res g) (Hw : zWk g) (HX : ∀ (lv : zV) (x out : Nat) (p0 : Int32) (S : zM) (p : Int32 × zM), f_Law_empty x p0 out S = some p → g lv 1972 [.int p.1] p.2 → g lv 1969 [.ref out, .int p0, .ref x] S) (a0 : Nat) (S : zM) (h : f_Law_law a0 S = some res) : g [some (.ref a0), none, none, none, none, none, none] 0 [] S := by
  refine H zc_Law_law _ 3000 _ _ _ _ ((r_Law_law a0 S).symm.trans h) (fun pc lv st S hK => ?_)
  rcases zdis hK with ⟨rfl, hK⟩ | hK
  · exact d_Law_law_23 Hw hK (g_Law_law_23 H Hw HX  zF)
  cases hK
