/-! the branches of the law (written by genlaw.py) -/
noncomputable def B_0 (k : Nat → Nat → Nat → Nat → Int32 → zM → Option (Int32 × zM)) (a0 a1 a2 a3 : Nat) (a4 : Int32) (S : zM) : Option (Int32 × zM) :=
  Option.bind (zga S 100 a0 (a4 + (1 : Int32))) (fun x3 =>
  Option.bind (zga S 100 a0 (a4 + (2 : Int32))) (fun x4 =>
  Option.bind (zga S 100 a0 (a4 + (3 : Int32))) (fun x5 =>
  Option.bind (zga S 100 a0 (a4 + (4 : Int32))) (fun x6 =>
  Option.bind (zga S 100 a0 (a4 + (5 : Int32))) (fun x7 =>
  Option.bind (zcl S 11 a1 (f_Cl_feed a1 x3 x4 x5 x6 x7 S)) (fun p8 =>
  Option.bind (zga p8.2 100 a0 (a4 + (1 : Int32))) (fun x9 =>
  Option.bind (zga p8.2 100 a0 (a4 + (2 : Int32))) (fun x10 =>
  Option.bind (zga p8.2 100 a0 (a4 + (3 : Int32))) (fun x11 =>
  Option.bind (zga p8.2 100 a0 (a4 + (4 : Int32))) (fun x12 =>
  Option.bind (zga p8.2 100 a0 (a4 + (5 : Int32))) (fun x13 =>
  Option.bind (zcl p8.2 12 a2 (f_Mo_feed a2 x9 x10 x11 x12 x13 p8.2)) (fun p14 =>
  if p8.1 = p14.1 then
    k a0 a1 a2 a3 (a4 + (6 : Int32)) p14.2
  else
    if (0 : Int32) = 0 ∨ (0 : Int32) = 1 then some ((0 : Int32), p14.2) else none))))))))))))
noncomputable def B_1 (k : Nat → Nat → Nat → Nat → Int32 → zM → Option (Int32 × zM)) (a0 a1 a2 a3 : Nat) (a4 : Int32) (S : zM) : Option (Int32 × zM) :=
  Option.bind (zga S 100 a0 (a4 + (1 : Int32))) (fun x15 =>
  Option.bind (zcl S 11 a1 (f_Cl_script a1 x15 S)) (fun p16 =>
  Option.bind (zga p16.2 100 a0 (a4 + (1 : Int32))) (fun x17 =>
  Option.bind (zcl p16.2 12 a2 (f_Mo_script a2 x17 p16.2)) (fun p18 =>
  if p16.1 = p18.1 then
    k a0 a1 a2 a3 (a4 + (6 : Int32)) p18.2
  else
    if (0 : Int32) = 0 ∨ (0 : Int32) = 1 then some ((0 : Int32), p18.2) else none))))
noncomputable def B_2 (k : Nat → Nat → Nat → Nat → Int32 → zM → Option (Int32 × zM)) (a0 a1 a2 a3 : Nat) (a4 : Int32) (S : zM) : Option (Int32 × zM) :=
  Option.bind (zcl S 11 a1 (f_Cl_fault a1 S)) (fun p19 =>
  Option.bind (zcl p19.2 12 a2 (f_Mo_fault a2 p19.2)) (fun p20 =>
  if p19.1 = p20.1 then
    k a0 a1 a2 a3 (a4 + (6 : Int32)) p20.2
  else
    if (0 : Int32) = 0 ∨ (0 : Int32) = 1 then some ((0 : Int32), p20.2) else none))
noncomputable def B_3 (k : Nat → Nat → Nat → Nat → Int32 → zM → Option (Int32 × zM)) (a0 a1 a2 a3 : Nat) (a4 : Int32) (S : zM) : Option (Int32 × zM) :=
  Option.bind (zcl S 11 a1 (f_Cl_where a1 S)) (fun p21 =>
  Option.bind (zcl p21.2 12 a2 (f_Mo_where a2 p21.2)) (fun p22 =>
  if p21.1 = p22.1 then
    k a0 a1 a2 a3 (a4 + (6 : Int32)) p22.2
  else
    if (0 : Int32) = 0 ∨ (0 : Int32) = 1 then some ((0 : Int32), p22.2) else none))
noncomputable def B_4 (k : Nat → Nat → Nat → Nat → Int32 → zM → Option (Int32 × zM)) (a0 a1 a2 a3 : Nat) (a4 : Int32) (S : zM) : Option (Int32 × zM) :=
  Option.bind (zga S 100 a0 (a4 + (1 : Int32))) (fun x23 =>
  Option.bind (zcl S 11 a1 (f_Cl_about a1 x23 S)) (fun p24 =>
  Option.bind (zga p24.2 100 a0 (a4 + (1 : Int32))) (fun x25 =>
  Option.bind (zcl p24.2 12 a2 (f_Mo_about a2 x25 p24.2)) (fun p26 =>
  if p24.1 = p26.1 then
    k a0 a1 a2 a3 (a4 + (6 : Int32)) p26.2
  else
    if (0 : Int32) = 0 ∨ (0 : Int32) = 1 then some ((0 : Int32), p26.2) else none))))
noncomputable def B_5 (k : Nat → Nat → Nat → Nat → Int32 → zM → Option (Int32 × zM)) (a0 a1 a2 a3 : Nat) (a4 : Int32) (S : zM) : Option (Int32 × zM) :=
  Option.bind (zga S 100 a0 (a4 + (1 : Int32))) (fun x27 =>
  Option.bind (zcl S 11 a1 (f_Cl_kind a1 x27 S)) (fun p28 =>
  Option.bind (zga p28.2 100 a0 (a4 + (1 : Int32))) (fun x29 =>
  Option.bind (zcl p28.2 12 a2 (f_Mo_kind a2 x29 p28.2)) (fun p30 =>
  if p28.1 = p30.1 then
    k a0 a1 a2 a3 (a4 + (6 : Int32)) p30.2
  else
    if (0 : Int32) = 0 ∨ (0 : Int32) = 1 then some ((0 : Int32), p30.2) else none))))
noncomputable def B_6 (k : Nat → Nat → Nat → Nat → Int32 → zM → Option (Int32 × zM)) (a0 a1 a2 a3 : Nat) (a4 : Int32) (S : zM) : Option (Int32 × zM) :=
  Option.bind (zga S 100 a0 (a4 + (1 : Int32))) (fun x31 =>
  Option.bind (zga S 100 a0 (a4 + (2 : Int32))) (fun x32 =>
  Option.bind (zcl S 11 a1 (f_Cl_pass a1 x31 x32 S)) (fun p33 =>
  Option.bind (zga p33.2 100 a0 (a4 + (1 : Int32))) (fun x34 =>
  Option.bind (zga p33.2 100 a0 (a4 + (2 : Int32))) (fun x35 =>
  Option.bind (zcl p33.2 12 a2 (f_Mo_pass a2 x34 x35 p33.2)) (fun p36 =>
  if p33.1 = p36.1 then
    k a0 a1 a2 a3 (a4 + (6 : Int32)) p36.2
  else
    if (0 : Int32) = 0 ∨ (0 : Int32) = 1 then some ((0 : Int32), p36.2) else none))))))
noncomputable def B_7 (k : Nat → Nat → Nat → Nat → Int32 → zM → Option (Int32 × zM)) (a0 a1 a2 a3 : Nat) (a4 : Int32) (S : zM) : Option (Int32 × zM) :=
  Option.bind (zga S 100 a0 (a4 + (1 : Int32))) (fun x37 =>
  Option.bind (zga S 100 a0 (a4 + (2 : Int32))) (fun x38 =>
  Option.bind (zga S 100 a0 (a4 + (3 : Int32))) (fun x39 =>
  Option.bind (zcl S 11 a1 (f_Cl_rule a1 x37 x38 x39 S)) (fun p40 =>
  Option.bind (zga p40.2 100 a0 (a4 + (1 : Int32))) (fun x41 =>
  Option.bind (zga p40.2 100 a0 (a4 + (2 : Int32))) (fun x42 =>
  Option.bind (zga p40.2 100 a0 (a4 + (3 : Int32))) (fun x43 =>
  Option.bind (zcl p40.2 12 a2 (f_Mo_rule a2 x41 x42 x43 p40.2)) (fun p44 =>
  if p40.1 = p44.1 then
    k a0 a1 a2 a3 (a4 + (6 : Int32)) p44.2
  else
    if (0 : Int32) = 0 ∨ (0 : Int32) = 1 then some ((0 : Int32), p44.2) else none))))))))
noncomputable def B_8 (k : Nat → Nat → Nat → Nat → Int32 → zM → Option (Int32 × zM)) (a0 a1 a2 a3 : Nat) (a4 : Int32) (S : zM) : Option (Int32 × zM) :=
  Option.bind (zga S 100 a0 (a4 + (1 : Int32))) (fun x45 =>
  Option.bind (zga S 100 a0 (a4 + (2 : Int32))) (fun x46 =>
  Option.bind (zga S 100 a0 (a4 + (3 : Int32))) (fun x47 =>
  Option.bind (zga S 100 a0 (a4 + (4 : Int32))) (fun x48 =>
  Option.bind (zcl S 11 a1 (f_Cl_letter a1 x45 x46 x47 x48 S)) (fun p49 =>
  Option.bind (zga p49.2 100 a0 (a4 + (1 : Int32))) (fun x50 =>
  Option.bind (zga p49.2 100 a0 (a4 + (2 : Int32))) (fun x51 =>
  Option.bind (zga p49.2 100 a0 (a4 + (3 : Int32))) (fun x52 =>
  Option.bind (zga p49.2 100 a0 (a4 + (4 : Int32))) (fun x53 =>
  Option.bind (zcl p49.2 12 a2 (f_Mo_letter a2 x50 x51 x52 x53 p49.2)) (fun p54 =>
  if p49.1 = p54.1 then
    k a0 a1 a2 a3 (a4 + (6 : Int32)) p54.2
  else
    if (0 : Int32) = 0 ∨ (0 : Int32) = 1 then some ((0 : Int32), p54.2) else none))))))))))
noncomputable def B_9 (k : Nat → Nat → Nat → Nat → Int32 → zM → Option (Int32 × zM)) (a0 a1 a2 a3 : Nat) (a4 : Int32) (S : zM) : Option (Int32 × zM) :=
  Option.bind (zga S 100 a0 (a4 + (1 : Int32))) (fun x55 =>
  Option.bind (zga S 100 a0 (a4 + (2 : Int32))) (fun x56 =>
  Option.bind (zga S 100 a0 (a4 + (3 : Int32))) (fun x57 =>
  Option.bind (zcl S 11 a1 (f_Cl_goes a1 x55 x56 x57 S)) (fun p58 =>
  Option.bind (zga p58.2 100 a0 (a4 + (1 : Int32))) (fun x59 =>
  Option.bind (zga p58.2 100 a0 (a4 + (2 : Int32))) (fun x60 =>
  Option.bind (zga p58.2 100 a0 (a4 + (3 : Int32))) (fun x61 =>
  Option.bind (zcl p58.2 12 a2 (f_Mo_goes a2 x59 x60 x61 p58.2)) (fun p62 =>
  if p58.1 = p62.1 then
    k a0 a1 a2 a3 (a4 + (6 : Int32)) p62.2
  else
    if (0 : Int32) = 0 ∨ (0 : Int32) = 1 then some ((0 : Int32), p62.2) else none))))))))
noncomputable def B_10 (k : Nat → Nat → Nat → Nat → Int32 → zM → Option (Int32 × zM)) (a0 a1 a2 a3 : Nat) (a4 : Int32) (S : zM) : Option (Int32 × zM) :=
  Option.bind (zga S 100 a0 (a4 + (1 : Int32))) (fun x63 =>
  Option.bind (zga S 100 a0 (a4 + (2 : Int32))) (fun x64 =>
  Option.bind (zcl S 11 a1 (f_Cl_depth a1 x63 x64 S)) (fun p65 =>
  Option.bind (zga p65.2 100 a0 (a4 + (1 : Int32))) (fun x66 =>
  Option.bind (zga p65.2 100 a0 (a4 + (2 : Int32))) (fun x67 =>
  Option.bind (zcl p65.2 12 a2 (f_Mo_depth a2 x66 x67 p65.2)) (fun p68 =>
  if p65.1 = p68.1 then
    k a0 a1 a2 a3 (a4 + (6 : Int32)) p68.2
  else
    if (0 : Int32) = 0 ∨ (0 : Int32) = 1 then some ((0 : Int32), p68.2) else none))))))
noncomputable def B_11 (k : Nat → Nat → Nat → Nat → Int32 → zM → Option (Int32 × zM)) (a0 a1 a2 a3 : Nat) (a4 : Int32) (S : zM) : Option (Int32 × zM) :=
  Option.bind (zga S 100 a0 (a4 + (1 : Int32))) (fun x69 =>
  Option.bind (zga S 100 a0 (a4 + (2 : Int32))) (fun x70 =>
  Option.bind (zcl S 11 a1 (f_Cl_ends a1 x69 x70 S)) (fun p71 =>
  Option.bind (zga p71.2 100 a0 (a4 + (1 : Int32))) (fun x72 =>
  Option.bind (zga p71.2 100 a0 (a4 + (2 : Int32))) (fun x73 =>
  Option.bind (zcl p71.2 12 a2 (f_Mo_ends a2 x72 x73 p71.2)) (fun p74 =>
  if p71.1 = p74.1 then
    k a0 a1 a2 a3 (a4 + (6 : Int32)) p74.2
  else
    if (0 : Int32) = 0 ∨ (0 : Int32) = 1 then some ((0 : Int32), p74.2) else none))))))
noncomputable def B_12 (k : Nat → Nat → Nat → Nat → Int32 → zM → Option (Int32 × zM)) (a0 a1 a2 a3 : Nat) (a4 : Int32) (S : zM) : Option (Int32 × zM) :=
  Option.bind (zga S 100 a0 (a4 + (1 : Int32))) (fun x75 =>
  Option.bind (zcl S 11 a1 (f_Cl_pieces a1 x75 S)) (fun p76 =>
  Option.bind (zga p76.2 100 a0 (a4 + (1 : Int32))) (fun x77 =>
  Option.bind (zcl p76.2 12 a2 (f_Mo_pieces a2 x77 p76.2)) (fun p78 =>
  if p76.1 = p78.1 then
    k a0 a1 a2 a3 (a4 + (6 : Int32)) p78.2
  else
    if (0 : Int32) = 0 ∨ (0 : Int32) = 1 then some ((0 : Int32), p78.2) else none))))
noncomputable def B_13 (k : Nat → Nat → Nat → Nat → Int32 → zM → Option (Int32 × zM)) (a0 a1 a2 a3 : Nat) (a4 : Int32) (S : zM) : Option (Int32 × zM) :=
  Option.bind (zga S 100 a0 (a4 + (1 : Int32))) (fun x79 =>
  Option.bind (zga S 100 a0 (a4 + (2 : Int32))) (fun x80 =>
  Option.bind (zcl S 11 a1 (f_Cl_piece a1 x79 x80 S)) (fun p81 =>
  Option.bind (zga p81.2 100 a0 (a4 + (1 : Int32))) (fun x82 =>
  Option.bind (zga p81.2 100 a0 (a4 + (2 : Int32))) (fun x83 =>
  Option.bind (zcl p81.2 12 a2 (f_Mo_piece a2 x82 x83 p81.2)) (fun p84 =>
  if p81.1 = p84.1 then
    k a0 a1 a2 a3 (a4 + (6 : Int32)) p84.2
  else
    if (0 : Int32) = 0 ∨ (0 : Int32) = 1 then some ((0 : Int32), p84.2) else none))))))
noncomputable def B_14 (k : Nat → Nat → Nat → Nat → Int32 → zM → Option (Int32 × zM)) (a0 a1 a2 a3 : Nat) (a4 : Int32) (S : zM) : Option (Int32 × zM) :=
  Option.bind (zga S 100 a0 (a4 + (1 : Int32))) (fun x85 =>
  Option.bind (zcl S 11 a1 (f_Cl_clear a1 x85 S)) (fun p86 =>
  Option.bind (zga p86.2 100 a0 (a4 + (1 : Int32))) (fun x87 =>
  Option.bind (zcl p86.2 12 a2 (f_Mo_clear a2 x87 p86.2)) (fun p88 =>
  if p86.1 = p88.1 then
    k a0 a1 a2 a3 (a4 + (6 : Int32)) p88.2
  else
    if (0 : Int32) = 0 ∨ (0 : Int32) = 1 then some ((0 : Int32), p88.2) else none))))
noncomputable def B_15 (k : Nat → Nat → Nat → Nat → Int32 → zM → Option (Int32 × zM)) (a0 a1 a2 a3 : Nat) (a4 : Int32) (S : zM) : Option (Int32 × zM) :=
  Option.bind (zga S 100 a0 (a4 + (1 : Int32))) (fun x89 =>
  Option.bind (zcl S 11 a1 (f_Cl_unclear a1 x89 S)) (fun p90 =>
  Option.bind (zga p90.2 100 a0 (a4 + (1 : Int32))) (fun x91 =>
  Option.bind (zcl p90.2 12 a2 (f_Mo_unclear a2 x91 p90.2)) (fun p92 =>
  if p90.1 = p92.1 then
    k a0 a1 a2 a3 (a4 + (6 : Int32)) p92.2
  else
    if (0 : Int32) = 0 ∨ (0 : Int32) = 1 then some ((0 : Int32), p92.2) else none))))
noncomputable def B_16 (k : Nat → Nat → Nat → Nat → Int32 → zM → Option (Int32 × zM)) (a0 a1 a2 a3 : Nat) (a4 : Int32) (S : zM) : Option (Int32 × zM) :=
  Option.bind (zga S 100 a0 (a4 + (1 : Int32))) (fun x93 =>
  Option.bind (zga S 100 a0 (a4 + (2 : Int32))) (fun x94 =>
  Option.bind (zga S 100 a0 (a4 + (3 : Int32))) (fun x95 =>
  Option.bind (zcl S 11 a1 (f_Cl_readings a1 x93 (((x94).toInt64 <<< (((32 : Int32)).toInt64 &&& 63)) ||| ((x95).toInt64 &&& (4294967295 : Int64))) S)) (fun p96 =>
  Option.bind (zga p96.2 100 a0 (a4 + (1 : Int32))) (fun x97 =>
  Option.bind (zga p96.2 100 a0 (a4 + (2 : Int32))) (fun x98 =>
  Option.bind (zga p96.2 100 a0 (a4 + (3 : Int32))) (fun x99 =>
  Option.bind (zcl p96.2 12 a2 (f_Mo_readings a2 x97 (((x98).toInt64 <<< (((32 : Int32)).toInt64 &&& 63)) ||| ((x99).toInt64 &&& (4294967295 : Int64))) p96.2)) (fun p100 =>
  if p96.1 = p100.1 then
    k a0 a1 a2 a3 (a4 + (6 : Int32)) p100.2
  else
    if (0 : Int32) = 0 ∨ (0 : Int32) = 1 then some ((0 : Int32), p100.2) else none))))))))
noncomputable def B_17 (k : Nat → Nat → Nat → Nat → Int32 → zM → Option (Int32 × zM)) (a0 a1 a2 a3 : Nat) (a4 : Int32) (S : zM) : Option (Int32 × zM) :=
  Option.bind (zga S 100 a0 (a4 + (1 : Int32))) (fun x101 =>
  Option.bind (zga S 100 a0 (a4 + (2 : Int32))) (fun x102 =>
  Option.bind (zga S 100 a0 (a4 + (3 : Int32))) (fun x103 =>
  Option.bind (zga S 100 a0 (a4 + (4 : Int32))) (fun x104 =>
  Option.bind (zcl S 11 a1 (f_Cl_reading a1 x101 (((x102).toInt64 <<< (((32 : Int32)).toInt64 &&& 63)) ||| ((x103).toInt64 &&& (4294967295 : Int64))) x104 S)) (fun p105 =>
  Option.bind (zga p105.2 100 a0 (a4 + (1 : Int32))) (fun x106 =>
  Option.bind (zga p105.2 100 a0 (a4 + (2 : Int32))) (fun x107 =>
  Option.bind (zga p105.2 100 a0 (a4 + (3 : Int32))) (fun x108 =>
  Option.bind (zga p105.2 100 a0 (a4 + (4 : Int32))) (fun x109 =>
  Option.bind (zcl p105.2 12 a2 (f_Mo_reading a2 x106 (((x107).toInt64 <<< (((32 : Int32)).toInt64 &&& 63)) ||| ((x108).toInt64 &&& (4294967295 : Int64))) x109 p105.2)) (fun p110 =>
  if p105.1 = p110.1 then
    k a0 a1 a2 a3 (a4 + (6 : Int32)) p110.2
  else
    if (0 : Int32) = 0 ∨ (0 : Int32) = 1 then some ((0 : Int32), p110.2) else none))))))))))
noncomputable def B_18 (k : Nat → Nat → Nat → Nat → Int32 → zM → Option (Int32 × zM)) (a0 a1 a2 a3 : Nat) (a4 : Int32) (S : zM) : Option (Int32 × zM) :=
  Option.bind (zcl S 11 a1 (f_Cl_sure a1 S)) (fun p111 =>
  Option.bind (zcl p111.2 12 a2 (f_Mo_sure a2 p111.2)) (fun p112 =>
  if p111.1 = p112.1 then
    k a0 a1 a2 a3 (a4 + (6 : Int32)) p112.2
  else
    if (0 : Int32) = 0 ∨ (0 : Int32) = 1 then some ((0 : Int32), p112.2) else none))
noncomputable def B_19 (k : Nat → Nat → Nat → Nat → Int32 → zM → Option (Int32 × zM)) (a0 a1 a2 a3 : Nat) (a4 : Int32) (S : zM) : Option (Int32 × zM) :=
  Option.bind (zga S 100 a0 (a4 + (1 : Int32))) (fun x113 =>
  Option.bind (zga S 100 a0 (a4 + (2 : Int32))) (fun x114 =>
  Option.bind (zcl S 11 a1 (f_Cl_carry a1 (((x113).toInt64 <<< (((32 : Int32)).toInt64 &&& 63)) ||| ((x114).toInt64 &&& (4294967295 : Int64))) S)) (fun p115 =>
  Option.bind (zga p115.2 100 a0 (a4 + (1 : Int32))) (fun x116 =>
  Option.bind (zga p115.2 100 a0 (a4 + (2 : Int32))) (fun x117 =>
  Option.bind (zcl p115.2 12 a2 (f_Mo_carry a2 (((x116).toInt64 <<< (((32 : Int32)).toInt64 &&& 63)) ||| ((x117).toInt64 &&& (4294967295 : Int64))) p115.2)) (fun p118 =>
  if p115.1 = p118.1 then
    k a0 a1 a2 a3 (a4 + (6 : Int32)) p118.2
  else
    if (0 : Int32) = 0 ∨ (0 : Int32) = 1 then some ((0 : Int32), p118.2) else none))))))
noncomputable def B_20 (k : Nat → Nat → Nat → Nat → Int32 → zM → Option (Int32 × zM)) (a0 a1 a2 a3 : Nat) (a4 : Int32) (S : zM) : Option (Int32 × zM) :=
  Option.bind (zga S 100 a0 (a4 + (1 : Int32))) (fun x119 =>
  Option.bind (zcl S 11 a1 (f_Cl_out a1 x119 S)) (fun p120 =>
  Option.bind (zga p120.2 100 a0 (a4 + (1 : Int32))) (fun x121 =>
  Option.bind (zcl p120.2 12 a2 (f_Mo_out a2 x121 p120.2)) (fun p122 =>
  if p120.1 = p122.1 then
    k a0 a1 a2 a3 (a4 + (6 : Int32)) p122.2
  else
    if (0 : Int32) = 0 ∨ (0 : Int32) = 1 then some ((0 : Int32), p122.2) else none))))
noncomputable def B_21 (k : Nat → Nat → Nat → Nat → Int32 → zM → Option (Int32 × zM)) (a0 a1 a2 a3 : Nat) (a4 : Int32) (S : zM) : Option (Int32 × zM) :=
  Option.bind (zga S 100 a0 (a4 + (1 : Int32))) (fun x123 =>
  Option.bind (zcl S 11 a1 (f_Cl_behind a1 x123 S)) (fun p124 =>
  Option.bind (zga p124.2 100 a0 (a4 + (1 : Int32))) (fun x125 =>
  Option.bind (zcl p124.2 12 a2 (f_Mo_behind a2 x125 p124.2)) (fun p126 =>
  if p124.1 = p126.1 then
    k a0 a1 a2 a3 (a4 + (6 : Int32)) p126.2
  else
    if (0 : Int32) = 0 ∨ (0 : Int32) = 1 then some ((0 : Int32), p126.2) else none))))
noncomputable def B_22 (k : Nat → Nat → Nat → Nat → Int32 → zM → Option (Int32 × zM)) (a0 a1 a2 a3 : Nat) (a4 : Int32) (S : zM) : Option (Int32 × zM) :=
  Option.bind (zga S 100 a0 (a4 + (1 : Int32))) (fun x127 =>
  Option.bind (zga S 100 a0 (a4 + (2 : Int32))) (fun x128 =>
  Option.bind (zcl S 11 a1 (f_Cl_outOf a1 x127 x128 S)) (fun p129 =>
  Option.bind (zga p129.2 100 a0 (a4 + (1 : Int32))) (fun x130 =>
  Option.bind (zga p129.2 100 a0 (a4 + (2 : Int32))) (fun x131 =>
  Option.bind (zcl p129.2 12 a2 (f_Mo_outOf a2 x130 x131 p129.2)) (fun p132 =>
  if p129.1 = p132.1 then
    k a0 a1 a2 a3 (a4 + (6 : Int32)) p132.2
  else
    if (0 : Int32) = 0 ∨ (0 : Int32) = 1 then some ((0 : Int32), p132.2) else none))))))
noncomputable def B_23 (k : Nat → Nat → Nat → Nat → Int32 → zM → Option (Int32 × zM)) (a0 a1 a2 a3 : Nat) (a4 : Int32) (S : zM) : Option (Int32 × zM) :=
  Option.bind (zga S 100 a0 (a4 + (1 : Int32))) (fun x133 =>
  Option.bind (zcl S 11 a1 (f_Cl_rounds a1 x133 S)) (fun p134 =>
  Option.bind (zga p134.2 100 a0 (a4 + (1 : Int32))) (fun x135 =>
  Option.bind (zcl p134.2 12 a2 (f_Mo_rounds a2 x135 p134.2)) (fun p136 =>
  if p134.1 = p136.1 then
    k a0 a1 a2 a3 (a4 + (6 : Int32)) p136.2
  else
    if (0 : Int32) = 0 ∨ (0 : Int32) = 1 then some ((0 : Int32), p136.2) else none))))
noncomputable def B_24 (k : Nat → Nat → Nat → Nat → Int32 → zM → Option (Int32 × zM)) (a0 a1 a2 a3 : Nat) (a4 : Int32) (S : zM) : Option (Int32 × zM) :=
  Option.bind (zga S 100 a0 (a4 + (1 : Int32))) (fun x137 =>
  Option.bind (zga S 100 a0 (a4 + (2 : Int32))) (fun x138 =>
  Option.bind (zcl S 11 a1 (f_Cl_served a1 x137 x138 S)) (fun p139 =>
  Option.bind (zga p139.2 100 a0 (a4 + (1 : Int32))) (fun x140 =>
  Option.bind (zga p139.2 100 a0 (a4 + (2 : Int32))) (fun x141 =>
  Option.bind (zcl p139.2 12 a2 (f_Mo_served a2 x140 x141 p139.2)) (fun p142 =>
  if p139.1 = p142.1 then
    k a0 a1 a2 a3 (a4 + (6 : Int32)) p142.2
  else
    if (0 : Int32) = 0 ∨ (0 : Int32) = 1 then some ((0 : Int32), p142.2) else none))))))
noncomputable def B_25 (k : Nat → Nat → Nat → Nat → Int32 → zM → Option (Int32 × zM)) (a0 a1 a2 a3 : Nat) (a4 : Int32) (S : zM) : Option (Int32 × zM) :=
  Option.bind (zga S 100 a0 (a4 + (1 : Int32))) (fun x143 =>
  Option.bind (zga S 100 a0 (a4 + (2 : Int32))) (fun x144 =>
  Option.bind (zga S 100 a0 (a4 + (3 : Int32))) (fun x145 =>
  Option.bind (zga S 100 a0 (a4 + (4 : Int32))) (fun x146 =>
  Option.bind (zcl S 11 a1 (f_Cl_apart a1 (((x143).toInt64 <<< (((32 : Int32)).toInt64 &&& 63)) ||| ((x144).toInt64 &&& (4294967295 : Int64))) (((x145).toInt64 <<< (((32 : Int32)).toInt64 &&& 63)) ||| ((x146).toInt64 &&& (4294967295 : Int64))) S)) (fun p147 =>
  Option.bind (zga p147.2 100 a0 (a4 + (1 : Int32))) (fun x148 =>
  Option.bind (zga p147.2 100 a0 (a4 + (2 : Int32))) (fun x149 =>
  Option.bind (zga p147.2 100 a0 (a4 + (3 : Int32))) (fun x150 =>
  Option.bind (zga p147.2 100 a0 (a4 + (4 : Int32))) (fun x151 =>
  Option.bind (zcl p147.2 12 a2 (f_Mo_apart a2 (((x148).toInt64 <<< (((32 : Int32)).toInt64 &&& 63)) ||| ((x149).toInt64 &&& (4294967295 : Int64))) (((x150).toInt64 <<< (((32 : Int32)).toInt64 &&& 63)) ||| ((x151).toInt64 &&& (4294967295 : Int64))) p147.2)) (fun p152 =>
  if p147.1 = p152.1 then
    k a0 a1 a2 a3 (a4 + (6 : Int32)) p152.2
  else
    if (0 : Int32) = 0 ∨ (0 : Int32) = 1 then some ((0 : Int32), p152.2) else none))))))))))
noncomputable def B_26 (k : Nat → Nat → Nat → Nat → Int32 → zM → Option (Int32 × zM)) (a0 a1 a2 a3 : Nat) (a4 : Int32) (S : zM) : Option (Int32 × zM) :=
  Option.bind (zga S 100 a0 (a4 + (1 : Int32))) (fun x153 =>
  Option.bind (zga S 100 a0 (a4 + (2 : Int32))) (fun x154 =>
  Option.bind (zcl S 11 a1 (f_Cl_turned a1 (((x153).toInt64 <<< (((32 : Int32)).toInt64 &&& 63)) ||| ((x154).toInt64 &&& (4294967295 : Int64))) S)) (fun p155 =>
  Option.bind (zga p155.2 100 a0 (a4 + (1 : Int32))) (fun x156 =>
  Option.bind (zga p155.2 100 a0 (a4 + (2 : Int32))) (fun x157 =>
  Option.bind (zcl p155.2 12 a2 (f_Mo_turned a2 (((x156).toInt64 <<< (((32 : Int32)).toInt64 &&& 63)) ||| ((x157).toInt64 &&& (4294967295 : Int64))) p155.2)) (fun p158 =>
  if p155.1 = p158.1 then
    k a0 a1 a2 a3 (a4 + (6 : Int32)) p158.2
  else
    if (0 : Int32) = 0 ∨ (0 : Int32) = 1 then some ((0 : Int32), p158.2) else none))))))
noncomputable def B_27 (k : Nat → Nat → Nat → Nat → Int32 → zM → Option (Int32 × zM)) (a0 a1 a2 a3 : Nat) (a4 : Int32) (S : zM) : Option (Int32 × zM) :=
  Option.bind (zga S 100 a0 (a4 + (1 : Int32))) (fun x159 =>
  Option.bind (zga S 100 a0 (a4 + (2 : Int32))) (fun x160 =>
  Option.bind (zga S 100 a0 (a4 + (3 : Int32))) (fun x161 =>
  Option.bind (zcl S 11 a1 (f_Cl_turnedOut a1 (((x159).toInt64 <<< (((32 : Int32)).toInt64 &&& 63)) ||| ((x160).toInt64 &&& (4294967295 : Int64))) x161 S)) (fun p162 =>
  Option.bind (zga p162.2 100 a0 (a4 + (1 : Int32))) (fun x163 =>
  Option.bind (zga p162.2 100 a0 (a4 + (2 : Int32))) (fun x164 =>
  Option.bind (zga p162.2 100 a0 (a4 + (3 : Int32))) (fun x165 =>
  Option.bind (zcl p162.2 12 a2 (f_Mo_turnedOut a2 (((x163).toInt64 <<< (((32 : Int32)).toInt64 &&& 63)) ||| ((x164).toInt64 &&& (4294967295 : Int64))) x165 p162.2)) (fun p166 =>
  if p162.1 = p166.1 then
    k a0 a1 a2 a3 (a4 + (6 : Int32)) p166.2
  else
    if (0 : Int32) = 0 ∨ (0 : Int32) = 1 then some ((0 : Int32), p166.2) else none))))))))
noncomputable def B_28 (k : Nat → Nat → Nat → Nat → Int32 → zM → Option (Int32 × zM)) (a0 a1 a2 a3 : Nat) (a4 : Int32) (S : zM) : Option (Int32 × zM) :=
  Option.bind (zga S 100 a0 (a4 + (1 : Int32))) (fun x167 =>
  Option.bind (zcl S 11 a1 (f_Cl_words a1 x167 S)) (fun p168 =>
  Option.bind (zga p168.2 100 a0 (a4 + (1 : Int32))) (fun x169 =>
  Option.bind (zcl p168.2 12 a2 (f_Mo_words a2 x169 p168.2)) (fun p170 =>
  if p168.1 = p170.1 then
    k a0 a1 a2 a3 (a4 + (6 : Int32)) p170.2
  else
    if (0 : Int32) = 0 ∨ (0 : Int32) = 1 then some ((0 : Int32), p170.2) else none))))
noncomputable def B_29 (k : Nat → Nat → Nat → Nat → Int32 → zM → Option (Int32 × zM)) (a0 a1 a2 a3 : Nat) (a4 : Int32) (S : zM) : Option (Int32 × zM) :=
  Option.bind (zga S 100 a0 (a4 + (1 : Int32))) (fun x171 =>
  Option.bind (zcl S 11 a1 (f_Cl_reversible a1 x171 S)) (fun p172 =>
  Option.bind (zga p172.2 100 a0 (a4 + (1 : Int32))) (fun x173 =>
  Option.bind (zcl p172.2 12 a2 (f_Mo_reversible a2 x173 p172.2)) (fun p174 =>
  if p172.1 = p174.1 then
    k a0 a1 a2 a3 (a4 + (6 : Int32)) p174.2
  else
    if (0 : Int32) = 0 ∨ (0 : Int32) = 1 then some ((0 : Int32), p174.2) else none))))
noncomputable def B_30 (k : Nat → Nat → Nat → Nat → Int32 → zM → Option (Int32 × zM)) (a0 a1 a2 a3 : Nat) (a4 : Int32) (S : zM) : Option (Int32 × zM) :=
  Option.bind (zga S 100 a0 (a4 + (1 : Int32))) (fun x175 =>
  Option.bind (zga S 100 a0 (a4 + (2 : Int32))) (fun x176 =>
  Option.bind (zcl S 11 a1 (f_Cl_failing a1 x175 x176 S)) (fun p177 =>
  Option.bind (zga p177.2 100 a0 (a4 + (1 : Int32))) (fun x178 =>
  Option.bind (zga p177.2 100 a0 (a4 + (2 : Int32))) (fun x179 =>
  Option.bind (zcl p177.2 12 a2 (f_Mo_failing a2 x178 x179 p177.2)) (fun p180 =>
  if (lg_cmp p177.1 p180.1) = (0 : Int32) then
    k a0 a1 a2 a3 (a4 + (6 : Int32)) p180.2
  else
    if (0 : Int32) = 0 ∨ (0 : Int32) = 1 then some ((0 : Int32), p180.2) else none))))))
noncomputable def B_31 (k : Nat → Nat → Nat → Nat → Int32 → zM → Option (Int32 × zM)) (a0 a1 a2 a3 : Nat) (a4 : Int32) (S : zM) : Option (Int32 × zM) :=
  Option.bind (zga S 100 a0 (a4 + (1 : Int32))) (fun x181 =>
  Option.bind (zcl S 11 a1 (f_Cl_doubled a1 x181 S)) (fun p182 =>
  Option.bind (zga p182.2 100 a0 (a4 + (1 : Int32))) (fun x183 =>
  Option.bind (zcl p182.2 12 a2 (f_Mo_doubled a2 x183 p182.2)) (fun p184 =>
  if p182.1 = p184.1 then
    k a0 a1 a2 a3 (a4 + (6 : Int32)) p184.2
  else
    if (0 : Int32) = 0 ∨ (0 : Int32) = 1 then some ((0 : Int32), p184.2) else none))))
noncomputable def B_32 (k : Nat → Nat → Nat → Nat → Int32 → zM → Option (Int32 × zM)) (a0 a1 a2 a3 : Nat) (a4 : Int32) (S : zM) : Option (Int32 × zM) :=
  Option.bind (zga S 100 a0 (a4 + (1 : Int32))) (fun x185 =>
  Option.bind (zga S 100 a0 (a4 + (2 : Int32))) (fun x186 =>
  Option.bind (zcl S 11 a1 (f_Cl_fails a1 x185 x186 S)) (fun p187 =>
  Option.bind (zga p187.2 100 a0 (a4 + (1 : Int32))) (fun x188 =>
  Option.bind (zga p187.2 100 a0 (a4 + (2 : Int32))) (fun x189 =>
  Option.bind (zcl p187.2 12 a2 (f_Mo_fails a2 x188 x189 p187.2)) (fun p190 =>
  if p187.1 = p190.1 then
    k a0 a1 a2 a3 (a4 + (6 : Int32)) p190.2
  else
    if (0 : Int32) = 0 ∨ (0 : Int32) = 1 then some ((0 : Int32), p190.2) else none))))))
noncomputable def B_33 (k : Nat → Nat → Nat → Nat → Int32 → zM → Option (Int32 × zM)) (a0 a1 a2 a3 : Nat) (a4 : Int32) (S : zM) : Option (Int32 × zM) :=
  Option.bind (zga S 100 a0 (a4 + (1 : Int32))) (fun x191 =>
  Option.bind (zga S 100 a0 (a4 + (2 : Int32))) (fun x192 =>
  Option.bind (zcl S 11 a1 (f_Cl_firstFail a1 x191 x192 S)) (fun p193 =>
  Option.bind (zga p193.2 100 a0 (a4 + (1 : Int32))) (fun x194 =>
  Option.bind (zga p193.2 100 a0 (a4 + (2 : Int32))) (fun x195 =>
  Option.bind (zcl p193.2 12 a2 (f_Mo_firstFail a2 x194 x195 p193.2)) (fun p196 =>
  if (lg_cmp p193.1 p196.1) = (0 : Int32) then
    k a0 a1 a2 a3 (a4 + (6 : Int32)) p196.2
  else
    if (0 : Int32) = 0 ∨ (0 : Int32) = 1 then some ((0 : Int32), p196.2) else none))))))
noncomputable def B_34 (k : Nat → Nat → Nat → Nat → Int32 → zM → Option (Int32 × zM)) (a0 a1 a2 a3 : Nat) (a4 : Int32) (S : zM) : Option (Int32 × zM) :=
  Option.bind (zga S 100 a0 (a4 + (1 : Int32))) (fun x197 =>
  Option.bind (zga S 100 a0 (a4 + (2 : Int32))) (fun x198 =>
  Option.bind (zga S 100 a0 (a4 + (3 : Int32))) (fun x199 =>
  Option.bind (zcl S 11 a1 (f_Cl_sources a1 x197 (((x198).toInt64 <<< (((32 : Int32)).toInt64 &&& 63)) ||| ((x199).toInt64 &&& (4294967295 : Int64))) S)) (fun p200 =>
  Option.bind (zga p200.2 100 a0 (a4 + (1 : Int32))) (fun x201 =>
  Option.bind (zga p200.2 100 a0 (a4 + (2 : Int32))) (fun x202 =>
  Option.bind (zga p200.2 100 a0 (a4 + (3 : Int32))) (fun x203 =>
  Option.bind (zcl p200.2 12 a2 (f_Mo_sources a2 x201 (((x202).toInt64 <<< (((32 : Int32)).toInt64 &&& 63)) ||| ((x203).toInt64 &&& (4294967295 : Int64))) p200.2)) (fun p204 =>
  if p200.1 = p204.1 then
    k a0 a1 a2 a3 (a4 + (6 : Int32)) p204.2
  else
    if (0 : Int32) = 0 ∨ (0 : Int32) = 1 then some ((0 : Int32), p204.2) else none))))))))
noncomputable def B_35 (k : Nat → Nat → Nat → Nat → Int32 → zM → Option (Int32 × zM)) (a0 a1 a2 a3 : Nat) (a4 : Int32) (S : zM) : Option (Int32 × zM) :=
  Option.bind (zga S 100 a0 (a4 + (1 : Int32))) (fun x205 =>
  Option.bind (zga S 100 a0 (a4 + (2 : Int32))) (fun x206 =>
  Option.bind (zga S 100 a0 (a4 + (3 : Int32))) (fun x207 =>
  Option.bind (zga S 100 a0 (a4 + (4 : Int32))) (fun x208 =>
  Option.bind (zcl S 11 a1 (f_Cl_source a1 x205 (((x206).toInt64 <<< (((32 : Int32)).toInt64 &&& 63)) ||| ((x207).toInt64 &&& (4294967295 : Int64))) x208 S)) (fun p209 =>
  Option.bind (zga p209.2 100 a0 (a4 + (1 : Int32))) (fun x210 =>
  Option.bind (zga p209.2 100 a0 (a4 + (2 : Int32))) (fun x211 =>
  Option.bind (zga p209.2 100 a0 (a4 + (3 : Int32))) (fun x212 =>
  Option.bind (zga p209.2 100 a0 (a4 + (4 : Int32))) (fun x213 =>
  Option.bind (zcl p209.2 12 a2 (f_Mo_source a2 x210 (((x211).toInt64 <<< (((32 : Int32)).toInt64 &&& 63)) ||| ((x212).toInt64 &&& (4294967295 : Int64))) x213 p209.2)) (fun p214 =>
  if (lg_cmp p209.1 p214.1) = (0 : Int32) then
    k a0 a1 a2 a3 (a4 + (6 : Int32)) p214.2
  else
    if (0 : Int32) = 0 ∨ (0 : Int32) = 1 then some ((0 : Int32), p214.2) else none))))))))))
noncomputable def B_36 (k : Nat → Nat → Nat → Nat → Int32 → zM → Option (Int32 × zM)) (a0 a1 a2 a3 : Nat) (a4 : Int32) (S : zM) : Option (Int32 × zM) :=
  Option.bind (zga S 100 a0 (a4 + (1 : Int32))) (fun x215 =>
  Option.bind (zcl S 11 a1 (f_Cl_longest a1 x215 S)) (fun p216 =>
  Option.bind (zga p216.2 100 a0 (a4 + (1 : Int32))) (fun x217 =>
  Option.bind (zcl p216.2 12 a2 (f_Mo_longest a2 x217 p216.2)) (fun p218 =>
  if p216.1 = p218.1 then
    k a0 a1 a2 a3 (a4 + (6 : Int32)) p218.2
  else
    if (0 : Int32) = 0 ∨ (0 : Int32) = 1 then some ((0 : Int32), p218.2) else none))))
noncomputable def B_37 (k : Nat → Nat → Nat → Nat → Int32 → zM → Option (Int32 × zM)) (a0 a1 a2 a3 : Nat) (a4 : Int32) (S : zM) : Option (Int32 × zM) :=
  Option.bind (zga S 100 a0 (a4 + (1 : Int32))) (fun x219 =>
  Option.bind (zcl S 11 a1 (f_Cl_longestOf a1 x219 S)) (fun p220 =>
  Option.bind (zga p220.2 100 a0 (a4 + (1 : Int32))) (fun x221 =>
  Option.bind (zcl p220.2 12 a2 (f_Mo_longestOf a2 x221 p220.2)) (fun p222 =>
  if (lg_cmp p220.1 p222.1) = (0 : Int32) then
    k a0 a1 a2 a3 (a4 + (6 : Int32)) p222.2
  else
    if (0 : Int32) = 0 ∨ (0 : Int32) = 1 then some ((0 : Int32), p222.2) else none))))
noncomputable def B_38 (k : Nat → Nat → Nat → Nat → Int32 → zM → Option (Int32 × zM)) (a0 a1 a2 a3 : Nat) (a4 : Int32) (S : zM) : Option (Int32 × zM) :=
  Option.bind (zga S 100 a0 (a4 + (1 : Int32))) (fun x223 =>
  Option.bind (zga S 100 a0 (a4 + (2 : Int32))) (fun x224 =>
  Option.bind (zcl S 11 a1 (f_Cl_idle a1 x223 x224 S)) (fun p225 =>
  Option.bind (zga p225.2 100 a0 (a4 + (1 : Int32))) (fun x226 =>
  Option.bind (zga p225.2 100 a0 (a4 + (2 : Int32))) (fun x227 =>
  Option.bind (zcl p225.2 12 a2 (f_Mo_idle a2 x226 x227 p225.2)) (fun p228 =>
  if p225.1 = p228.1 then
    k a0 a1 a2 a3 (a4 + (6 : Int32)) p228.2
  else
    if (0 : Int32) = 0 ∨ (0 : Int32) = 1 then some ((0 : Int32), p228.2) else none))))))
noncomputable def B_39 (k : Nat → Nat → Nat → Nat → Int32 → zM → Option (Int32 × zM)) (a0 a1 a2 a3 : Nat) (a4 : Int32) (S : zM) : Option (Int32 × zM) :=
  Option.bind (zga S 100 a0 (a4 + (1 : Int32))) (fun x229 =>
  Option.bind (zcl S 11 a1 (f_Cl_comeBack a1 x229 S)) (fun p230 =>
  Option.bind (zga p230.2 100 a0 (a4 + (1 : Int32))) (fun x231 =>
  Option.bind (zcl p230.2 12 a2 (f_Mo_comeBack a2 x231 p230.2)) (fun p232 =>
  if p230.1 = p232.1 then
    k a0 a1 a2 a3 (a4 + (6 : Int32)) p232.2
  else
    if (0 : Int32) = 0 ∨ (0 : Int32) = 1 then some ((0 : Int32), p232.2) else none))))
noncomputable def B_40 (k : Nat → Nat → Nat → Nat → Int32 → zM → Option (Int32 × zM)) (a0 a1 a2 a3 : Nat) (a4 : Int32) (S : zM) : Option (Int32 × zM) :=
  Option.bind (zga S 100 a0 (a4 + (1 : Int32))) (fun x233 =>
  Option.bind (zcl S 11 a1 (f_Cl_lost a1 x233 S)) (fun p234 =>
  Option.bind (zga p234.2 100 a0 (a4 + (1 : Int32))) (fun x235 =>
  Option.bind (zcl p234.2 12 a2 (f_Mo_lost a2 x235 p234.2)) (fun p236 =>
  if (lg_cmp p234.1 p236.1) = (0 : Int32) then
    k a0 a1 a2 a3 (a4 + (6 : Int32)) p236.2
  else
    if (0 : Int32) = 0 ∨ (0 : Int32) = 1 then some ((0 : Int32), p236.2) else none))))
noncomputable def B_41 (k : Nat → Nat → Nat → Nat → Int32 → zM → Option (Int32 × zM)) (a0 a1 a2 a3 : Nat) (a4 : Int32) (S : zM) : Option (Int32 × zM) :=
  Option.bind (zga S 100 a0 (a4 + (1 : Int32))) (fun x237 =>
  Option.bind (zcl S 11 a1 (f_Cl_worst a1 x237 S)) (fun p238 =>
  Option.bind (zga p238.2 100 a0 (a4 + (1 : Int32))) (fun x239 =>
  Option.bind (zcl p238.2 12 a2 (f_Mo_worst a2 x239 p238.2)) (fun p240 =>
  if p238.1 = p240.1 then
    k a0 a1 a2 a3 (a4 + (6 : Int32)) p240.2
  else
    if (0 : Int32) = 0 ∨ (0 : Int32) = 1 then some ((0 : Int32), p240.2) else none))))
noncomputable def B_42 (k : Nat → Nat → Nat → Nat → Int32 → zM → Option (Int32 × zM)) (a0 a1 a2 a3 : Nat) (a4 : Int32) (S : zM) : Option (Int32 × zM) :=
  Option.bind (zga S 100 a0 (a4 + (1 : Int32))) (fun x241 =>
  Option.bind (zga S 100 a0 (a4 + (2 : Int32))) (fun x242 =>
  Option.bind (zga S 100 a0 (a4 + (3 : Int32))) (fun x243 =>
  Option.bind (zcl S 11 a1 (f_Cl_aside a1 x241 x242 x243 S)) (fun p244 =>
  Option.bind (zga p244.2 100 a0 (a4 + (1 : Int32))) (fun x245 =>
  Option.bind (zga p244.2 100 a0 (a4 + (2 : Int32))) (fun x246 =>
  Option.bind (zga p244.2 100 a0 (a4 + (3 : Int32))) (fun x247 =>
  Option.bind (zcl p244.2 12 a2 (f_Mo_aside a2 x245 x246 x247 p244.2)) (fun p248 =>
  if p244.1 = p248.1 then
    k a0 a1 a2 a3 (a4 + (6 : Int32)) p248.2
  else
    if (0 : Int32) = 0 ∨ (0 : Int32) = 1 then some ((0 : Int32), p248.2) else none))))))))
noncomputable def B_43 (k : Nat → Nat → Nat → Nat → Int32 → zM → Option (Int32 × zM)) (a0 a1 a2 a3 : Nat) (a4 : Int32) (S : zM) : Option (Int32 × zM) :=
  Option.bind (zcl S 11 a1 (f_Cl_undo a1 S)) (fun p249 =>
  Option.bind (zcl p249.2 12 a2 (f_Mo_undo a2 p249.2)) (fun p250 =>
  if p249.1 = p250.1 then
    k a0 a1 a2 a3 (a4 + (6 : Int32)) p250.2
  else
    if (0 : Int32) = 0 ∨ (0 : Int32) = 1 then some ((0 : Int32), p250.2) else none))
noncomputable def B_44 (k : Nat → Nat → Nat → Nat → Int32 → zM → Option (Int32 × zM)) (a0 a1 a2 a3 : Nat) (a4 : Int32) (S : zM) : Option (Int32 × zM) :=
  Option.bind (zga S 100 a0 (a4 + (1 : Int32))) (fun x251 =>
  F_Law_law_1969 (F_Law_law_1972 k) a0 a1 a2 a3 a4 a3 x251 a1 S)
noncomputable def B_45 (k : Nat → Nat → Nat → Nat → Int32 → zM → Option (Int32 × zM)) (a0 a1 a2 a3 : Nat) (a4 : Int32) (S : zM) : Option (Int32 × zM) :=
  Option.bind (zga S 100 a0 (a4 + (1 : Int32))) (fun x252 =>
  Option.bind (zcl S 11 a1 (f_Cl_size a1 x252 S)) (fun p253 =>
  Option.bind (zga p253.2 100 a0 (a4 + (1 : Int32))) (fun x254 =>
  Option.bind (zcl p253.2 12 a2 (f_Mo_size a2 x254 p253.2)) (fun p255 =>
  if p253.1 = p255.1 then
    k a0 a1 a2 a3 (a4 + (6 : Int32)) p255.2
  else
    if (0 : Int32) = 0 ∨ (0 : Int32) = 1 then some ((0 : Int32), p255.2) else none))))
noncomputable def B_46 (k : Nat → Nat → Nat → Nat → Int32 → zM → Option (Int32 × zM)) (a0 a1 a2 a3 : Nat) (a4 : Int32) (S : zM) : Option (Int32 × zM) :=
  Option.bind (zcl S 11 a1 (f_Cl_trouble a1 S)) (fun p256 =>
  Option.bind (zcl p256.2 12 a2 (f_Mo_trouble a2 p256.2)) (fun p257 =>
  if p256.1 = p257.1 then
    k a0 a1 a2 a3 (a4 + (6 : Int32)) p257.2
  else
    if (0 : Int32) = 0 ∨ (0 : Int32) = 1 then some ((0 : Int32), p257.2) else none))
noncomputable def B_all (k : Nat → Nat → Nat → Nat → Int32 → zM → Option (Int32 × zM)) (a0 a1 a2 a3 : Nat) (a4 : Int32) (x2 : Int32) (S : zM) : Option (Int32 × zM) :=
  if (x2 &&& (63 : Int32)) = (0 : Int32) then B_0 (k) a0 a1 a2 a3 a4 S else if (x2 &&& (63 : Int32)) = (1 : Int32) then B_1 (k) a0 a1 a2 a3 a4 S else if (x2 &&& (63 : Int32)) = (2 : Int32) then B_2 (k) a0 a1 a2 a3 a4 S else if (x2 &&& (63 : Int32)) = (3 : Int32) then B_3 (k) a0 a1 a2 a3 a4 S else if (x2 &&& (63 : Int32)) = (4 : Int32) then B_4 (k) a0 a1 a2 a3 a4 S else if (x2 &&& (63 : Int32)) = (5 : Int32) then B_5 (k) a0 a1 a2 a3 a4 S else if (x2 &&& (63 : Int32)) = (6 : Int32) then B_6 (k) a0 a1 a2 a3 a4 S else if (x2 &&& (63 : Int32)) = (7 : Int32) then B_7 (k) a0 a1 a2 a3 a4 S else if (x2 &&& (63 : Int32)) = (8 : Int32) then B_8 (k) a0 a1 a2 a3 a4 S else if (x2 &&& (63 : Int32)) = (9 : Int32) then B_9 (k) a0 a1 a2 a3 a4 S else if (x2 &&& (63 : Int32)) = (10 : Int32) then B_10 (k) a0 a1 a2 a3 a4 S else if (x2 &&& (63 : Int32)) = (11 : Int32) then B_11 (k) a0 a1 a2 a3 a4 S else if (x2 &&& (63 : Int32)) = (12 : Int32) then B_12 (k) a0 a1 a2 a3 a4 S else if (x2 &&& (63 : Int32)) = (13 : Int32) then B_13 (k) a0 a1 a2 a3 a4 S else if (x2 &&& (63 : Int32)) = (14 : Int32) then B_14 (k) a0 a1 a2 a3 a4 S else if (x2 &&& (63 : Int32)) = (15 : Int32) then B_15 (k) a0 a1 a2 a3 a4 S else if (x2 &&& (63 : Int32)) = (16 : Int32) then B_16 (k) a0 a1 a2 a3 a4 S else if (x2 &&& (63 : Int32)) = (17 : Int32) then B_17 (k) a0 a1 a2 a3 a4 S else if (x2 &&& (63 : Int32)) = (18 : Int32) then B_18 (k) a0 a1 a2 a3 a4 S else if (x2 &&& (63 : Int32)) = (19 : Int32) then B_19 (k) a0 a1 a2 a3 a4 S else if (x2 &&& (63 : Int32)) = (20 : Int32) then B_20 (k) a0 a1 a2 a3 a4 S else if (x2 &&& (63 : Int32)) = (21 : Int32) then B_21 (k) a0 a1 a2 a3 a4 S else if (x2 &&& (63 : Int32)) = (22 : Int32) then B_22 (k) a0 a1 a2 a3 a4 S else if (x2 &&& (63 : Int32)) = (23 : Int32) then B_23 (k) a0 a1 a2 a3 a4 S else if (x2 &&& (63 : Int32)) = (24 : Int32) then B_24 (k) a0 a1 a2 a3 a4 S else if (x2 &&& (63 : Int32)) = (25 : Int32) then B_25 (k) a0 a1 a2 a3 a4 S else if (x2 &&& (63 : Int32)) = (26 : Int32) then B_26 (k) a0 a1 a2 a3 a4 S else if (x2 &&& (63 : Int32)) = (27 : Int32) then B_27 (k) a0 a1 a2 a3 a4 S else if (x2 &&& (63 : Int32)) = (28 : Int32) then B_28 (k) a0 a1 a2 a3 a4 S else if (x2 &&& (63 : Int32)) = (29 : Int32) then B_29 (k) a0 a1 a2 a3 a4 S else if (x2 &&& (63 : Int32)) = (30 : Int32) then B_30 (k) a0 a1 a2 a3 a4 S else if (x2 &&& (63 : Int32)) = (31 : Int32) then B_31 (k) a0 a1 a2 a3 a4 S else if (x2 &&& (63 : Int32)) = (32 : Int32) then B_32 (k) a0 a1 a2 a3 a4 S else if (x2 &&& (63 : Int32)) = (33 : Int32) then B_33 (k) a0 a1 a2 a3 a4 S else if (x2 &&& (63 : Int32)) = (34 : Int32) then B_34 (k) a0 a1 a2 a3 a4 S else if (x2 &&& (63 : Int32)) = (35 : Int32) then B_35 (k) a0 a1 a2 a3 a4 S else if (x2 &&& (63 : Int32)) = (36 : Int32) then B_36 (k) a0 a1 a2 a3 a4 S else if (x2 &&& (63 : Int32)) = (37 : Int32) then B_37 (k) a0 a1 a2 a3 a4 S else if (x2 &&& (63 : Int32)) = (38 : Int32) then B_38 (k) a0 a1 a2 a3 a4 S else if (x2 &&& (63 : Int32)) = (39 : Int32) then B_39 (k) a0 a1 a2 a3 a4 S else if (x2 &&& (63 : Int32)) = (40 : Int32) then B_40 (k) a0 a1 a2 a3 a4 S else if (x2 &&& (63 : Int32)) = (41 : Int32) then B_41 (k) a0 a1 a2 a3 a4 S else if (x2 &&& (63 : Int32)) = (42 : Int32) then B_42 (k) a0 a1 a2 a3 a4 S else if (x2 &&& (63 : Int32)) = (43 : Int32) then B_43 (k) a0 a1 a2 a3 a4 S else if (x2 &&& (63 : Int32)) = (44 : Int32) then B_44 (k) a0 a1 a2 a3 a4 S else if (x2 &&& (63 : Int32)) = (45 : Int32) then B_45 (k) a0 a1 a2 a3 a4 S else if (x2 &&& (63 : Int32)) = (46 : Int32) then B_46 (k) a0 a1 a2 a3 a4 S else k a0 a1 a2 a3 (a4 + (6 : Int32)) S
theorem law_unf (n a0 a1 a2 a3 : Nat) (a4 : Int32) (S : zM) : L_Law_law_23 (n + 1) a0 a1 a2 a3 a4 S = Option.bind (zlen S a0) (fun x1 => if a4 ≤ (x1 - (6 : Int32)) then Option.bind (zga S 100 a0 a4) (fun x2 => B_all (L_Law_law_23 n) a0 a1 a2 a3 a4 x2 S) else if (1 : Int32) = 0 ∨ (1 : Int32) = 1 then some ((1 : Int32), S) else none) := by
  rw [L_Law_law_23]
  rfl
