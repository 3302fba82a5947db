noncomputable def f_Mo_init (a0 : Nat) (S : zM) : Option zM :=
  Option.bind (zpf S 12 a0 3 (-1 : Int32)) (fun S1 =>
  if (900 : Int32) < 0 ∨ 10000 ≤ ((900 : Int32)).toNatClampNeg then none else
  Option.bind (zpr (zalloc S1 100 ((900 : Int32)).toNatClampNeg ((900 : Int32)).toNatClampNeg) 12 a0 4 (some (zn S1 + 1))) (fun S2 =>
  if (4 : Int32) < 0 ∨ 10000 ≤ ((4 : Int32)).toNatClampNeg then none else
  Option.bind (zpr (zalloc S2 100 ((4 : Int32)).toNatClampNeg ((4 : Int32)).toNatClampNeg) 12 a0 10 (some (zn S2 + 1))) (fun S3 =>
  if (3 : Int32) < 0 ∨ 10000 ≤ ((3 : Int32)).toNatClampNeg then none else
  Option.bind (zpr (zalloc S3 100 ((3 : Int32)).toNatClampNeg ((3 : Int32)).toNatClampNeg) 12 a0 11 (some (zn S3 + 1))) (fun S4 =>
  if (3 : Int32) < 0 ∨ 10000 ≤ ((3 : Int32)).toNatClampNeg then none else
  Option.bind (zpr (zalloc S4 102 ((3 : Int32)).toNatClampNeg ((3 : Int32)).toNatClampNeg) 12 a0 12 (some (zn S4 + 1))) (fun S5 =>
  if (264 : Int32) < 0 ∨ 10000 ≤ ((264 : Int32)).toNatClampNeg then none else
  Option.bind (zpr (zalloc S5 100 ((264 : Int32)).toNatClampNeg ((264 : Int32)).toNatClampNeg) 12 a0 13 (some (zn S5 + 1))) (fun S6 =>
  if (4 : Int32) < 0 ∨ 10000 ≤ ((4 : Int32)).toNatClampNeg then none else
  Option.bind (zpr (zalloc S6 100 ((4 : Int32)).toNatClampNeg ((4 : Int32)).toNatClampNeg) 12 a0 17 (some (zn S6 + 1))) (fun S7 =>
  if (4 : Int32) < 0 ∨ 10000 ≤ ((4 : Int32)).toNatClampNeg then none else
  Option.bind (zpr (zalloc S7 101 ((4 : Int32)).toNatClampNeg ((4 : Int32)).toNatClampNeg) 12 a0 18 (some (zn S7 + 1))) (fun S8 =>
  if (3 : Int32) < 0 ∨ 10000 ≤ ((3 : Int32)).toNatClampNeg then none else
  Option.bind (zpr (zalloc S8 100 ((3 : Int32)).toNatClampNeg ((3 : Int32)).toNatClampNeg) 12 a0 19 (some (zn S8 + 1))) (fun S9 =>
  if (3 : Int32) < 0 ∨ 10000 ≤ ((3 : Int32)).toNatClampNeg then none else
  Option.bind (zpr (zalloc S9 102 ((3 : Int32)).toNatClampNeg ((3 : Int32)).toNatClampNeg) 12 a0 20 (some (zn S9 + 1))) (fun S10 =>
  if (264 : Int32) < 0 ∨ 10000 ≤ ((264 : Int32)).toNatClampNeg then none else
  Option.bind (zpr (zalloc S10 100 ((264 : Int32)).toNatClampNeg ((264 : Int32)).toNatClampNeg) 12 a0 21 (some (zn S10 + 1))) (fun S11 =>
  if (73 : Int32) < 0 ∨ 10000 ≤ ((73 : Int32)).toNatClampNeg then none else
  Option.bind (zpr (zalloc S11 100 ((73 : Int32)).toNatClampNeg ((73 : Int32)).toNatClampNeg) 12 a0 30 (some (zn S11 + 1))) (fun S12 =>
  if (16 : Int32) < 0 ∨ 10000 ≤ ((16 : Int32)).toNatClampNeg then none else
  Option.bind (zpr (zalloc S12 100 ((16 : Int32)).toNatClampNeg ((16 : Int32)).toNatClampNeg) 12 a0 32 (some (zn S12 + 1))) (fun S13 =>
  if (16 : Int32) < 0 ∨ 10000 ≤ ((16 : Int32)).toNatClampNeg then none else
  Option.bind (zpr (zalloc S13 100 ((16 : Int32)).toNatClampNeg ((16 : Int32)).toNatClampNeg) 12 a0 33 (some (zn S13 + 1))) (fun S14 =>
  if (64 : Int32) < 0 ∨ 10000 ≤ ((64 : Int32)).toNatClampNeg then none else
  Option.bind (zpr (zalloc S14 100 ((64 : Int32)).toNatClampNeg ((64 : Int32)).toNatClampNeg) 12 a0 34 (some (zn S14 + 1))) (fun S15 =>
  if (80 : Int32) < 0 ∨ 10000 ≤ ((80 : Int32)).toNatClampNeg then none else
  Option.bind (zpr (zalloc S15 100 ((80 : Int32)).toNatClampNeg ((80 : Int32)).toNatClampNeg) 12 a0 36 (some (zn S15 + 1))) (fun S16 =>
  if (80 : Int32) < 0 ∨ 10000 ≤ ((80 : Int32)).toNatClampNeg then none else
  Option.bind (zpr (zalloc S16 102 ((80 : Int32)).toNatClampNeg ((80 : Int32)).toNatClampNeg) 12 a0 37 (some (zn S16 + 1))) (fun S17 =>
  if (9 : Int32) < 0 ∨ 10000 ≤ ((9 : Int32)).toNatClampNeg then none else
  Option.bind (zpr (zalloc S17 100 ((9 : Int32)).toNatClampNeg ((9 : Int32)).toNatClampNeg) 12 a0 38 (some (zn S17 + 1))) (fun S18 =>
  if (24 : Int32) < 0 ∨ 10000 ≤ ((24 : Int32)).toNatClampNeg then none else
  Option.bind (zpr (zalloc S18 102 ((24 : Int32)).toNatClampNeg ((24 : Int32)).toNatClampNeg) 12 a0 39 (some (zn S18 + 1))) (fun S19 =>
  if (64 : Int32) < 0 ∨ 10000 ≤ ((64 : Int32)).toNatClampNeg then none else
  Option.bind (zpr (zalloc S19 100 ((64 : Int32)).toNatClampNeg ((64 : Int32)).toNatClampNeg) 12 a0 40 (some (zn S19 + 1))) (fun S20 =>
  if (64 : Int32) < 0 ∨ 10000 ≤ ((64 : Int32)).toNatClampNeg then none else
  Option.bind (zpr (zalloc S20 100 ((64 : Int32)).toNatClampNeg ((64 : Int32)).toNatClampNeg) 12 a0 42 (some (zn S20 + 1))) (fun S21 =>
  if (24 : Int32) < 0 ∨ 10000 ≤ ((24 : Int32)).toNatClampNeg then none else
  Option.bind (zpr (zalloc S21 100 ((24 : Int32)).toNatClampNeg ((24 : Int32)).toNatClampNeg) 12 a0 44 (some (zn S21 + 1))) (fun S22 =>
  if (3 : Int32) < 0 ∨ 10000 ≤ ((3 : Int32)).toNatClampNeg then none else
  Option.bind (zpr (zalloc S22 100 ((3 : Int32)).toNatClampNeg ((3 : Int32)).toNatClampNeg) 12 a0 45 (some (zn S22 + 1))) (fun S23 =>
  if (3 : Int32) < 0 ∨ 10000 ≤ ((3 : Int32)).toNatClampNeg then none else
  Option.bind (zpr (zalloc S23 100 ((3 : Int32)).toNatClampNeg ((3 : Int32)).toNatClampNeg) 12 a0 46 (some (zn S23 + 1))) (fun S24 =>
  if (180 : Int32) < 0 ∨ 10000 ≤ ((180 : Int32)).toNatClampNeg then none else
  Option.bind (zpr (zalloc S24 100 ((180 : Int32)).toNatClampNeg ((180 : Int32)).toNatClampNeg) 12 a0 47 (some (zn S24 + 1))) (fun S25 =>
  if (60 : Int32) < 0 ∨ 10000 ≤ ((60 : Int32)).toNatClampNeg then none else
  Option.bind (zpr (zalloc S25 100 ((60 : Int32)).toNatClampNeg ((60 : Int32)).toNatClampNeg) 12 a0 50 (some (zn S25 + 1))) (fun S26 =>
  if (24 : Int32) < 0 ∨ 10000 ≤ ((24 : Int32)).toNatClampNeg then none else
  Option.bind (zpr (zalloc S26 100 ((24 : Int32)).toNatClampNeg ((24 : Int32)).toNatClampNeg) 12 a0 51 (some (zn S26 + 1))) (fun S27 =>
  if (3 : Int32) < 0 ∨ 10000 ≤ ((3 : Int32)).toNatClampNeg then none else
  Option.bind (zpr (zalloc S27 100 ((3 : Int32)).toNatClampNeg ((3 : Int32)).toNatClampNeg) 12 a0 52 (some (zn S27 + 1))) (fun S28 =>
  if (3 : Int32) < 0 ∨ 10000 ≤ ((3 : Int32)).toNatClampNeg then none else
  Option.bind (zpr (zalloc S28 100 ((3 : Int32)).toNatClampNeg ((3 : Int32)).toNatClampNeg) 12 a0 53 (some (zn S28 + 1))) (fun S29 =>
  if (180 : Int32) < 0 ∨ 10000 ≤ ((180 : Int32)).toNatClampNeg then none else
  Option.bind (zpr (zalloc S29 100 ((180 : Int32)).toNatClampNeg ((180 : Int32)).toNatClampNeg) 12 a0 54 (some (zn S29 + 1))) (fun S30 =>
  if (60 : Int32) < 0 ∨ 10000 ≤ ((60 : Int32)).toNatClampNeg then none else
  Option.bind (zpr (zalloc S30 100 ((60 : Int32)).toNatClampNeg ((60 : Int32)).toNatClampNeg) 12 a0 55 (some (zn S30 + 1))) (fun S31 =>
  if (61 : Int32) < 0 ∨ 10000 ≤ ((61 : Int32)).toNatClampNeg then none else
  Option.bind (zpr (zalloc S31 100 ((61 : Int32)).toNatClampNeg ((61 : Int32)).toNatClampNeg) 12 a0 57 (some (zn S31 + 1))) (fun S32 =>
  if (1365 : Int32) < 0 ∨ 10000 ≤ ((1365 : Int32)).toNatClampNeg then none else
  Option.bind (zpr (zalloc S32 100 ((1365 : Int32)).toNatClampNeg ((1365 : Int32)).toNatClampNeg) 12 a0 58 (some (zn S32 + 1))) (fun S33 =>
  if (1365 : Int32) < 0 ∨ 10000 ≤ ((1365 : Int32)).toNatClampNeg then none else
  Option.bind (zpr (zalloc S33 100 ((1365 : Int32)).toNatClampNeg ((1365 : Int32)).toNatClampNeg) 12 a0 59 (some (zn S33 + 1))) (fun S34 =>
  if (5460 : Int32) < 0 ∨ 10000 ≤ ((5460 : Int32)).toNatClampNeg then none else
  Option.bind (zpr (zalloc S34 101 ((5460 : Int32)).toNatClampNeg ((5460 : Int32)).toNatClampNeg) 12 a0 60 (some (zn S34 + 1))) (fun S35 =>
  if (4 : Int32) < 0 ∨ 10000 ≤ ((4 : Int32)).toNatClampNeg then none else
  Option.bind (zpr (zalloc S35 101 ((4 : Int32)).toNatClampNeg ((4 : Int32)).toNatClampNeg) 12 a0 63 (some (zn S35 + 1))) (fun S36 =>
  if (5 : Int32) < 0 ∨ 10000 ≤ ((5 : Int32)).toNatClampNeg then none else
  Option.bind (zpr (zalloc S36 100 ((5 : Int32)).toNatClampNeg ((5 : Int32)).toNatClampNeg) 12 a0 64 (some (zn S36 + 1))) (fun S37 =>
  if (12 : Int32) < 0 ∨ 10000 ≤ ((12 : Int32)).toNatClampNeg then none else
  Option.bind (zpr (zalloc S37 100 ((12 : Int32)).toNatClampNeg ((12 : Int32)).toNatClampNeg) 12 a0 65 (some (zn S37 + 1))) (fun S38 =>
  some S38))))))))))))))))))))))))))))))))))))))
noncomputable def L_Mo_laysWord_2 : Nat → Nat → Int32 → Int32 → zM → Option zM
  | 0, _, _, _, _ => none
  | n + 1, a0, a1, a2, S =>
  if a2 < (4 : Int32) then
    Option.bind (zgr S 12 a0 4) (fun q1 =>
    Option.bind (zgf S 12 a0 5) (fun x2 =>
    Option.bind (zpa S q1 (x2 + a2) ((a1 >>> (((24 : Int32) - ((8 : Int32) * a2)) &&& 31)) &&& (255 : Int32))) (fun S3 =>
    L_Mo_laysWord_2 n a0 a1 (a2 + (1 : Int32)) S3)))
  else
    Option.bind (zgf S 12 a0 5) (fun x4 =>
    Option.bind (zpf S 12 a0 5 (x4 + (4 : Int32))) (fun S5 =>
    some S5))
noncomputable def f_Mo_laysWord (a0 : Nat) (a1 : Int32) (S : zM) : Option zM :=
  L_Mo_laysWord_2 zF a0 a1 (0 : Int32) S
noncomputable def f_Mo_feed (a0 : Nat) (a1 : Int32) (a2 : Int32) (a3 : Int32) (a4 : Int32) (a5 : Int32) (S : zM) : Option (Int32 × zM) :=
  Option.bind (zpf S 12 a0 0 (0 : Int32)) (fun S1 =>
  Option.bind (zgf S1 12 a0 5) (fun x2 =>
  if x2 ≤ (880 : Int32) then
    Option.bind (zcl S1 12 a0 (f_Mo_laysWord a0 a1 S1)) (fun p3 =>
    Option.bind (zcl p3 12 a0 (f_Mo_laysWord a0 a2 p3)) (fun p4 =>
    Option.bind (zcl p4 12 a0 (f_Mo_laysWord a0 a3 p4)) (fun p5 =>
    Option.bind (zcl p5 12 a0 (f_Mo_laysWord a0 a4 p5)) (fun p6 =>
    Option.bind (zcl p6 12 a0 (f_Mo_laysWord a0 a5 p6)) (fun p7 =>
    Option.bind (zgf p7 12 a0 5) (fun x8 =>
    some (x8, p7)))))))
  else
    some ((-1 : Int32), S1)))
noncomputable def f_Mo_fresh (a0 : Nat) (S : zM) : Option zM :=
  Option.bind (zpf S 12 a0 0 (0 : Int32)) (fun S1 =>
  Option.bind (zpf S1 12 a0 1 (0 : Int32)) (fun S2 =>
  Option.bind (zpf S2 12 a0 3 (-1 : Int32)) (fun S3 =>
  some S3)))
noncomputable def f_Mo_in (a0 : Int32) (a1 : Int32) (a2 : Int32) (S : zM) : Option (Int32 × zM) :=
  if a0 < a1 then
    if (0 : Int32) = 0 ∨ (0 : Int32) = 1 then some ((0 : Int32), S) else none
  else
    if a0 ≤ a2 then
      if (1 : Int32) = 0 ∨ (1 : Int32) = 1 then some ((1 : Int32), S) else none
    else
      if (0 : Int32) = 0 ∨ (0 : Int32) = 1 then some ((0 : Int32), S) else none
noncomputable def f_Mo_no (a0 : Nat) (a1 : Int32) (S : zM) : Option (Int32 × zM) :=
  Option.bind (zpf S 12 a0 1 a1) (fun S1 =>
  some ((-1 : Int32), S1))
noncomputable def f_Mo_see (a0 : Nat) (a1 : Int32) (S : zM) : Option (Int32 × zM) :=
  Option.bind (zgf S 12 a0 22) (fun x1 =>
  if a1 < x1 then
    Option.bind (zgr S 12 a0 4) (fun q2 =>
    Option.bind (zga S 100 q2 a1) (fun x3 =>
    some (x3, S)))
  else
    some ((-1 : Int32), S))
noncomputable def F_Mo_goesOn_200 (a0 : Nat) (S : zM) : Option zM :=
  Option.bind (zgf S 12 a0 24) (fun x1 =>
  Option.bind (zgf S 12 a0 23) (fun x2 =>
  if (x1 - x2) ≤ (1 : Int32) then
    Option.bind (zpf S 12 a0 25 (3 : Int32)) (fun S3 =>
    some S3)
  else
    Option.bind (zpf S 12 a0 25 (1 : Int32)) (fun S4 =>
    some S4)))
noncomputable def L_Mo_goesOn_136 (k200 : Nat → zM → Option zM) : Nat → Nat → zM → Option zM
  | 0, _, _ => none
  | n + 1, a0, S =>
  Option.bind (zgf S 12 a0 24) (fun x1 =>
  Option.bind (zcl S 12 a0 (f_Mo_see a0 x1 S)) (fun p2 =>
  Option.bind (f_Mo_in p2.1 (48 : Int32) (57 : Int32) p2.2) (fun p3 =>
  if p3.1 = (0 : Int32) then
    k200 a0 p3.2
  else
    Option.bind (zgf p3.2 12 a0 24) (fun x4 =>
    Option.bind (zgf p3.2 12 a0 23) (fun x5 =>
    if x4 = x5 then
      Option.bind (zgf p3.2 12 a0 24) (fun x6 =>
      Option.bind (zcl p3.2 12 a0 (f_Mo_see a0 x6 p3.2)) (fun p7 =>
      Option.bind (zpf p7.2 12 a0 26 (p7.1 - (48 : Int32))) (fun S8 =>
      Option.bind (zgf S8 12 a0 24) (fun x9 =>
      Option.bind (zpf S8 12 a0 24 (x9 + (1 : Int32))) (fun S10 =>
      L_Mo_goesOn_136 k200 n a0 S10)))))
    else
      Option.bind (zgf p3.2 12 a0 26) (fun x11 =>
      Option.bind (zpf p3.2 12 a0 26 x11) (fun S12 =>
      Option.bind (zgf S12 12 a0 24) (fun x13 =>
      Option.bind (zpf S12 12 a0 24 (x13 + (1 : Int32))) (fun S14 =>
      L_Mo_goesOn_136 k200 n a0 S14)))))))))
noncomputable def F_Mo_goesOn_96 (a0 : Nat) (S : zM) : Option zM :=
  Option.bind (zgf S 12 a0 24) (fun x1 =>
  Option.bind (zgf S 12 a0 23) (fun x2 =>
  if (x1 - x2) ≤ (7 : Int32) then
    Option.bind (zpf S 12 a0 25 (2 : Int32)) (fun S3 =>
    some S3)
  else
    Option.bind (zpf S 12 a0 25 (1 : Int32)) (fun S4 =>
    some S4)))
noncomputable def L_Mo_goesOn_65 (k96 : Nat → zM → Option zM) : Nat → Nat → zM → Option zM
  | 0, _, _ => none
  | n + 1, a0, S =>
  Option.bind (zgf S 12 a0 24) (fun x1 =>
  Option.bind (zcl S 12 a0 (f_Mo_see a0 x1 S)) (fun p2 =>
  Option.bind (f_Mo_in p2.1 (97 : Int32) (122 : Int32) p2.2) (fun p3 =>
  if p3.1 = (0 : Int32) then
    k96 a0 p3.2
  else
    Option.bind (zgf p3.2 12 a0 24) (fun x4 =>
    Option.bind (zpf p3.2 12 a0 24 (x4 + (1 : Int32))) (fun S5 =>
    L_Mo_goesOn_65 k96 n a0 S5)))))
noncomputable def F_Mo_goesOn_26 (k65 : Nat → zM → Option zM) (k136 : Nat → zM → Option zM) (a0 : Nat) (S : zM) : Option zM :=
  Option.bind (zgf S 12 a0 24) (fun x1 =>
  Option.bind (zpf S 12 a0 23 x1) (fun S2 =>
  Option.bind (zgf S2 12 a0 24) (fun x3 =>
  Option.bind (zcl S2 12 a0 (f_Mo_see a0 x3 S2)) (fun p4 =>
  if p4.1 = (-1 : Int32) then
    Option.bind (zpf p4.2 12 a0 25 (0 : Int32)) (fun S5 =>
    some S5)
  else
    Option.bind (f_Mo_in p4.1 (97 : Int32) (122 : Int32) p4.2) (fun p6 =>
    if p6.1 = (0 : Int32) then
      Option.bind (f_Mo_in p4.1 (48 : Int32) (57 : Int32) p6.2) (fun p7 =>
      if p7.1 = (0 : Int32) then
        Option.bind (zgf p7.2 12 a0 24) (fun x8 =>
        Option.bind (zpf p7.2 12 a0 24 (x8 + (1 : Int32))) (fun S9 =>
        if p4.1 = (59 : Int32) then
          Option.bind (zpf S9 12 a0 25 p4.1) (fun S10 =>
          some S10)
        else
          Option.bind (zpf S9 12 a0 25 (1 : Int32)) (fun S11 =>
          some S11)))
      else
        Option.bind (zpf p7.2 12 a0 26 (0 : Int32)) (fun S12 =>
        k136 a0 S12))
    else
      k65 a0 p6.2)))))
noncomputable def L_Mo_goesOn_0 (k26 : Nat → zM → Option zM) : Nat → Nat → zM → Option zM
  | 0, _, _ => none
  | n + 1, a0, S =>
  Option.bind (zgf S 12 a0 24) (fun x1 =>
  Option.bind (zcl S 12 a0 (f_Mo_see a0 x1 S)) (fun p2 =>
  if p2.1 = (32 : Int32) then
    Option.bind (zgf p2.2 12 a0 24) (fun x3 =>
    Option.bind (zpf p2.2 12 a0 24 (x3 + (1 : Int32))) (fun S4 =>
    L_Mo_goesOn_0 k26 n a0 S4))
  else
    k26 a0 p2.2))
noncomputable def f_Mo_goesOn (a0 : Nat) (S : zM) : Option zM :=
  L_Mo_goesOn_0 (F_Mo_goesOn_26 (L_Mo_goesOn_65 (F_Mo_goesOn_96) zF) (L_Mo_goesOn_136 (F_Mo_goesOn_200) zF)) zF a0 S
noncomputable def L_Mo_isWord_28 : Nat → Nat → Nat → Int32 → zM → Option (Int32 × zM)
  | 0, _, _, _, _ => none
  | n + 1, a0, a1, a2, S =>
  Option.bind (f_J_length a1 S) (fun p1 =>
  if a2 < p1.1 then
    Option.bind (zgr p1.2 12 a0 4) (fun q2 =>
    Option.bind (zgf p1.2 12 a0 23) (fun x3 =>
    Option.bind (zga p1.2 100 q2 (x3 + a2)) (fun x4 =>
    Option.bind (f_J_charAt a1 a2 p1.2) (fun p5 =>
    if x4 = p5.1 then
      L_Mo_isWord_28 n a0 a1 (a2 + (1 : Int32)) p5.2
    else
      if (0 : Int32) = 0 ∨ (0 : Int32) = 1 then some ((0 : Int32), p5.2) else none))))
  else
    if (1 : Int32) = 0 ∨ (1 : Int32) = 1 then some ((1 : Int32), p1.2) else none)
noncomputable def f_Mo_isWord (a0 : Nat) (a1 : Nat) (S : zM) : Option (Int32 × zM) :=
  Option.bind (zgf S 12 a0 25) (fun x1 =>
  if x1 = (2 : Int32) then
    Option.bind (zgf S 12 a0 24) (fun x2 =>
    Option.bind (zgf S 12 a0 23) (fun x3 =>
    Option.bind (f_J_length a1 S) (fun p4 =>
    if (x2 - x3) = p4.1 then
      L_Mo_isWord_28 zF a0 a1 (0 : Int32) p4.2
    else
      if (0 : Int32) = 0 ∨ (0 : Int32) = 1 then some ((0 : Int32), p4.2) else none)))
  else
    if (0 : Int32) = 0 ∨ (0 : Int32) = 1 then some ((0 : Int32), S) else none)
noncomputable def f_Mo_hasScript (a0 : Nat) (S : zM) : Option (Int32 × zM) :=
  Option.bind (zgf S 12 a0 14) (fun x1 =>
  if x1 ≤ (0 : Int32) then
    if (0 : Int32) = 0 ∨ (0 : Int32) = 1 then some ((0 : Int32), S) else none
  else
    if (1 : Int32) = 0 ∨ (1 : Int32) = 1 then some ((1 : Int32), S) else none)
noncomputable def f_Mo_errs (a0 : Nat) (a1 : Int32) (S : zM) : Option (Int32 × zM) :=
  Option.bind (zpf S 12 a0 27 a1) (fun S1 =>
  Option.bind (zgf S1 12 a0 23) (fun x2 =>
  Option.bind (zpf S1 12 a0 28 x2) (fun S3 =>
  if (0 : Int32) = 0 ∨ (0 : Int32) = 1 then some ((0 : Int32), S3) else none)))
noncomputable def f_Mo_needs (a0 : Nat) (a1 : Nat) (S : zM) : Option (Int32 × zM) :=
  Option.bind (zcl S 12 a0 (f_Mo_isWord a0 a1 S)) (fun p1 =>
  if p1.1 = (0 : Int32) then
    Option.bind (zcl p1.2 12 a0 (f_Mo_errs a0 (1 : Int32) p1.2)) (fun p2 =>
    if p2.1 = 0 ∨ p2.1 = 1 then some (p2.1, p2.2) else none)
  else
    Option.bind (zcl p1.2 12 a0 (f_Mo_goesOn a0 p1.2)) (fun p3 =>
    if (1 : Int32) = 0 ∨ (1 : Int32) = 1 then some ((1 : Int32), p3) else none))
noncomputable def f_Mo_readScript (a0 : Nat) (S : zM) : Option (Int32 × zM) :=
  Option.bind (zcl S 12 a0 (f_Mo_hasScript a0 S)) (fun p1 =>
  if p1.1 = (0 : Int32) then
    Option.bind (zcl p1.2 12 a0 (f_Mo_goesOn a0 p1.2)) (fun p2 =>
    Option.bind (zcl p2 12 a0 (f_Mo_needs a0 (1000000 + 4) p2)) (fun p3 =>
    if p3.1 = (0 : Int32) then
      if (0 : Int32) = 0 ∨ (0 : Int32) = 1 then some ((0 : Int32), p3.2) else none
    else
      Option.bind (zgf p3.2 12 a0 25) (fun x4 =>
      if x4 = (3 : Int32) then
        Option.bind (zgf p3.2 12 a0 26) (fun x5 =>
        Option.bind (f_Mo_in x5 (2 : Int32) (4 : Int32) p3.2) (fun p6 =>
        if p6.1 = (0 : Int32) then
          Option.bind (zcl p6.2 12 a0 (f_Mo_errs a0 (2 : Int32) p6.2)) (fun p7 =>
          if p7.1 = 0 ∨ p7.1 = 1 then some (p7.1, p7.2) else none)
        else
          Option.bind (zgf p6.2 12 a0 26) (fun x8 =>
          Option.bind (zpf p6.2 12 a0 14 x8) (fun S9 =>
          Option.bind (zcl S9 12 a0 (f_Mo_goesOn a0 S9)) (fun p10 =>
          if (1 : Int32) = 0 ∨ (1 : Int32) = 1 then some ((1 : Int32), p10) else none)))))
      else
        Option.bind (zcl p3.2 12 a0 (f_Mo_errs a0 (1 : Int32) p3.2)) (fun p11 =>
        if p11.1 = 0 ∨ p11.1 = 1 then some (p11.1, p11.2) else none))))
  else
    Option.bind (zcl p1.2 12 a0 (f_Mo_errs a0 (3 : Int32) p1.2)) (fun p12 =>
    if p12.1 = 0 ∨ p12.1 = 1 then some (p12.1, p12.2) else none))
noncomputable def f_Mo_isKeyword (a0 : Nat) (S : zM) : Option (Int32 × zM) :=
  Option.bind (zcl S 12 a0 (f_Mo_isWord a0 (1000000 + 0) S)) (fun p1 =>
  if p1.1 = (0 : Int32) then
    Option.bind (zcl p1.2 12 a0 (f_Mo_isWord a0 (1000000 + 1) p1.2)) (fun p2 =>
    if p2.1 = (0 : Int32) then
      Option.bind (zcl p2.2 12 a0 (f_Mo_isWord a0 (1000000 + 2) p2.2)) (fun p3 =>
      if p3.1 = (0 : Int32) then
        Option.bind (zcl p3.2 12 a0 (f_Mo_isWord a0 (1000000 + 3) p3.2)) (fun p4 =>
        if p4.1 = (0 : Int32) then
          Option.bind (zcl p4.2 12 a0 (f_Mo_isWord a0 (1000000 + 4) p4.2)) (fun p5 =>
          if p5.1 = (0 : Int32) then
            Option.bind (zcl p5.2 12 a0 (f_Mo_isWord a0 (1000000 + 5) p5.2)) (fun p6 =>
            if p6.1 = (0 : Int32) then
              Option.bind (zcl p6.2 12 a0 (f_Mo_isWord a0 (1000000 + 6) p6.2)) (fun p7 =>
              if p7.1 = (0 : Int32) then
                Option.bind (zcl p7.2 12 a0 (f_Mo_isWord a0 (1000000 + 7) p7.2)) (fun p8 =>
                if p8.1 = (0 : Int32) then
                  Option.bind (zcl p8.2 12 a0 (f_Mo_isWord a0 (1000000 + 8) p8.2)) (fun p9 =>
                  if p9.1 = (0 : Int32) then
                    Option.bind (zcl p9.2 12 a0 (f_Mo_isWord a0 (1000000 + 9) p9.2)) (fun p10 =>
                    if p10.1 = (0 : Int32) then
                      Option.bind (zcl p10.2 12 a0 (f_Mo_isWord a0 (1000000 + 10) p10.2)) (fun p11 =>
                      if p11.1 = (0 : Int32) then
                        Option.bind (zcl p11.2 12 a0 (f_Mo_isWord a0 (1000000 + 11) p11.2)) (fun p12 =>
                        if p12.1 = (0 : Int32) then
                          if (0 : Int32) = 0 ∨ (0 : Int32) = 1 then some ((0 : Int32), p12.2) else none
                        else
                          if (1 : Int32) = 0 ∨ (1 : Int32) = 1 then some ((1 : Int32), p12.2) else none)
                      else
                        if (1 : Int32) = 0 ∨ (1 : Int32) = 1 then some ((1 : Int32), p11.2) else none)
                    else
                      if (1 : Int32) = 0 ∨ (1 : Int32) = 1 then some ((1 : Int32), p10.2) else none)
                  else
                    if (1 : Int32) = 0 ∨ (1 : Int32) = 1 then some ((1 : Int32), p9.2) else none)
                else
                  if (1 : Int32) = 0 ∨ (1 : Int32) = 1 then some ((1 : Int32), p8.2) else none)
              else
                if (1 : Int32) = 0 ∨ (1 : Int32) = 1 then some ((1 : Int32), p7.2) else none)
            else
              if (1 : Int32) = 0 ∨ (1 : Int32) = 1 then some ((1 : Int32), p6.2) else none)
          else
            if (1 : Int32) = 0 ∨ (1 : Int32) = 1 then some ((1 : Int32), p5.2) else none)
        else
          if (1 : Int32) = 0 ∨ (1 : Int32) = 1 then some ((1 : Int32), p4.2) else none)
      else
        if (1 : Int32) = 0 ∨ (1 : Int32) = 1 then some ((1 : Int32), p3.2) else none)
    else
      if (1 : Int32) = 0 ∨ (1 : Int32) = 1 then some ((1 : Int32), p2.2) else none)
  else
    if (1 : Int32) = 0 ∨ (1 : Int32) = 1 then some ((1 : Int32), p1.2) else none)
noncomputable def L_Mo_spelt_7 : Nat → Nat → Int64 → Int32 → zM → Option (Int64 × zM)
  | 0, _, _, _, _ => none
  | n + 1, a0, a1, a3, S =>
  Option.bind (zgf S 12 a0 24) (fun x1 =>
  if a3 < x1 then
    Option.bind (zgr S 12 a0 4) (fun q2 =>
    Option.bind (zga S 100 q2 a3) (fun x3 =>
    L_Mo_spelt_7 n a0 ((((32 : Int64) * a1) + (x3).toInt64) - (96 : Int64)) (a3 + (1 : Int32)) S))
  else
    some (a1, S))
noncomputable def f_Mo_spelt (a0 : Nat) (S : zM) : Option (Int64 × zM) :=
  Option.bind (zgf S 12 a0 23) (fun x1 =>
  L_Mo_spelt_7 zF a0 (0 : Int64) x1 S)
noncomputable def L_Mo_kindHere_2 : Nat → Nat → Int32 → zM → Option (Int32 × zM)
  | 0, _, _, _ => none
  | n + 1, a0, a1, S =>
  Option.bind (zgf S 12 a0 15) (fun x1 =>
  if a1 < x1 then
    Option.bind (zgr S 12 a0 18) (fun q2 =>
    Option.bind (zgl S q2 a1) (fun x3 =>
    Option.bind (zcl S 12 a0 (f_Mo_spelt a0 S)) (fun p4 =>
    if (lg_cmp x3 p4.1) = (0 : Int32) then
      some (a1, p4.2)
    else
      L_Mo_kindHere_2 n a0 (a1 + (1 : Int32)) p4.2)))
  else
    some ((-1 : Int32), S))
noncomputable def f_Mo_kindHere (a0 : Nat) (S : zM) : Option (Int32 × zM) :=
  L_Mo_kindHere_2 zF a0 (0 : Int32) S
noncomputable def L_Mo_areLetters_28 : Nat → Nat → Int32 → zM → Option (Int32 × zM)
  | 0, _, _, _ => none
  | n + 1, a0, a2, S =>
  Option.bind (zgf S 12 a0 24) (fun x1 =>
  if a2 < x1 then
    Option.bind (zgr S 12 a0 4) (fun q2 =>
    Option.bind (zga S 100 q2 a2) (fun x3 =>
    if x3 ≤ (104 : Int32) then
      L_Mo_areLetters_28 n a0 (a2 + (1 : Int32)) S
    else
      if (0 : Int32) = 0 ∨ (0 : Int32) = 1 then some ((0 : Int32), S) else none))
  else
    if (1 : Int32) = 0 ∨ (1 : Int32) = 1 then some ((1 : Int32), S) else none)
noncomputable def f_Mo_areLetters (a0 : Nat) (a1 : Int32) (S : zM) : Option (Int32 × zM) :=
  Option.bind (zgf S 12 a0 25) (fun x1 =>
  if x1 = (2 : Int32) then
    Option.bind (zgf S 12 a0 24) (fun x2 =>
    Option.bind (zgf S 12 a0 23) (fun x3 =>
    if (x2 - x3) ≤ a1 then
      Option.bind (zgf S 12 a0 23) (fun x4 =>
      L_Mo_areLetters_28 zF a0 x4 S)
    else
      if (0 : Int32) = 0 ∨ (0 : Int32) = 1 then some ((0 : Int32), S) else none))
  else
    if (0 : Int32) = 0 ∨ (0 : Int32) = 1 then some ((0 : Int32), S) else none)
noncomputable def F_Mo_readKind_172 (a0 : Nat) (a1 : Int32) (S : zM) : Option (Int32 × zM) :=
  Option.bind (zgr S 12 a0 17) (fun q1 =>
  Option.bind (zgf S 12 a0 15) (fun x2 =>
  Option.bind (zpa S q1 x2 a1) (fun S3 =>
  Option.bind (zgf S3 12 a0 15) (fun x4 =>
  Option.bind (zpf S3 12 a0 15 (x4 + (1 : Int32))) (fun S5 =>
  Option.bind (zcl S5 12 a0 (f_Mo_goesOn a0 S5)) (fun p6 =>
  if (1 : Int32) = 0 ∨ (1 : Int32) = 1 then some ((1 : Int32), p6) else none))))))
noncomputable def L_Mo_readKind_130 (k172 : Nat → Int32 → zM → Option (Int32 × zM)) : Nat → Nat → Int32 → Int32 → zM → Option (Int32 × zM)
  | 0, _, _, _, _ => none
  | n + 1, a0, a1, a2, S =>
  Option.bind (zgf S 12 a0 24) (fun x1 =>
  if a2 < x1 then
    Option.bind (zgr S 12 a0 4) (fun q2 =>
    Option.bind (zga S 100 q2 a2) (fun x3 =>
    if (a1 &&& ((1 : Int32) <<< ((x3 - (97 : Int32)) &&& 31))) = (0 : Int32) then
      L_Mo_readKind_130 k172 n a0 (a1 ||| ((1 : Int32) <<< ((x3 - (97 : Int32)) &&& 31))) (a2 + (1 : Int32)) S
    else
      Option.bind (zcl S 12 a0 (f_Mo_errs a0 (3 : Int32) S)) (fun p4 =>
      if p4.1 = 0 ∨ p4.1 = 1 then some (p4.1, p4.2) else none)))
  else
    k172 a0 a1 S)
noncomputable def f_Mo_readKind (a0 : Nat) (S : zM) : Option (Int32 × zM) :=
  Option.bind (zgf S 12 a0 15) (fun x1 =>
  if x1 = (4 : Int32) then
    Option.bind (zcl S 12 a0 (f_Mo_errs a0 (5 : Int32) S)) (fun p2 =>
    if p2.1 = 0 ∨ p2.1 = 1 then some (p2.1, p2.2) else none)
  else
    Option.bind (zcl S 12 a0 (f_Mo_hasScript a0 S)) (fun p3 =>
    if p3.1 = (0 : Int32) then
      Option.bind (zcl p3.2 12 a0 (f_Mo_errs a0 (6 : Int32) p3.2)) (fun p4 =>
      if p4.1 = 0 ∨ p4.1 = 1 then some (p4.1, p4.2) else none)
    else
      Option.bind (zcl p3.2 12 a0 (f_Mo_goesOn a0 p3.2)) (fun p5 =>
      Option.bind (zgf p5 12 a0 25) (fun x6 =>
      if x6 = (2 : Int32) then
        Option.bind (zgf p5 12 a0 24) (fun x7 =>
        Option.bind (zgf p5 12 a0 23) (fun x8 =>
        if (x7 - x8) < (2 : Int32) then
          Option.bind (zcl p5 12 a0 (f_Mo_errs a0 (1 : Int32) p5)) (fun p9 =>
          if p9.1 = 0 ∨ p9.1 = 1 then some (p9.1, p9.2) else none)
        else
          Option.bind (zcl p5 12 a0 (f_Mo_isKeyword a0 p5)) (fun p10 =>
          if p10.1 = (0 : Int32) then
            Option.bind (zcl p10.2 12 a0 (f_Mo_kindHere a0 p10.2)) (fun p11 =>
            if p11.1 = (-1 : Int32) then
              Option.bind (zgr p11.2 12 a0 18) (fun q12 =>
              Option.bind (zgf p11.2 12 a0 15) (fun x13 =>
              Option.bind (zcl p11.2 12 a0 (f_Mo_spelt a0 p11.2)) (fun p14 =>
              Option.bind (zpl p14.2 q12 x13 p14.1) (fun S15 =>
              Option.bind (zcl S15 12 a0 (f_Mo_goesOn a0 S15)) (fun p16 =>
              Option.bind (zcl p16 12 a0 (f_Mo_needs a0 (1000000 + 5) p16)) (fun p17 =>
              if p17.1 = (0 : Int32) then
                if (0 : Int32) = 0 ∨ (0 : Int32) = 1 then some ((0 : Int32), p17.2) else none
              else
                Option.bind (zcl p17.2 12 a0 (f_Mo_areLetters a0 (7 : Int32) p17.2)) (fun p18 =>
                if p18.1 = (0 : Int32) then
                  Option.bind (zcl p18.2 12 a0 (f_Mo_errs a0 (1 : Int32) p18.2)) (fun p19 =>
                  if p19.1 = 0 ∨ p19.1 = 1 then some (p19.1, p19.2) else none)
                else
                  Option.bind (zgf p18.2 12 a0 23) (fun x20 =>
                  L_Mo_readKind_130 (F_Mo_readKind_172) zF a0 (0 : Int32) x20 p18.2))))))))
            else
              Option.bind (zcl p11.2 12 a0 (f_Mo_errs a0 (3 : Int32) p11.2)) (fun p21 =>
              if p21.1 = 0 ∨ p21.1 = 1 then some (p21.1, p21.2) else none))
          else
            Option.bind (zcl p10.2 12 a0 (f_Mo_errs a0 (1 : Int32) p10.2)) (fun p22 =>
            if p22.1 = 0 ∨ p22.1 = 1 then some (p22.1, p22.2) else none))))
      else
        Option.bind (zcl p5 12 a0 (f_Mo_errs a0 (1 : Int32) p5)) (fun p23 =>
        if p23.1 = 0 ∨ p23.1 = 1 then some (p23.1, p23.2) else none)))))
noncomputable def f_Mo_readPass (a0 : Nat) (S : zM) : Option (Int32 × zM) :=
  Option.bind (zgf S 12 a0 16) (fun x1 =>
  if x1 = (3 : Int32) then
    Option.bind (zcl S 12 a0 (f_Mo_errs a0 (5 : Int32) S)) (fun p2 =>
    if p2.1 = 0 ∨ p2.1 = 1 then some (p2.1, p2.2) else none)
  else
    Option.bind (zcl S 12 a0 (f_Mo_hasScript a0 S)) (fun p3 =>
    if p3.1 = (0 : Int32) then
      Option.bind (zcl p3.2 12 a0 (f_Mo_errs a0 (6 : Int32) p3.2)) (fun p4 =>
      if p4.1 = 0 ∨ p4.1 = 1 then some (p4.1, p4.2) else none)
    else
      Option.bind (zcl p3.2 12 a0 (f_Mo_goesOn a0 p3.2)) (fun p5 =>
      Option.bind (zgr p5 12 a0 20) (fun q6 =>
      Option.bind (zgf p5 12 a0 16) (fun x7 =>
      Option.bind (zcl p5 12 a0 (f_Mo_isWord a0 (1000000 + 6) p5)) (fun p8 =>
      Option.bind (zpb p8.2 q6 x7 p8.1) (fun S9 =>
      Option.bind (zgr S9 12 a0 19) (fun q10 =>
      Option.bind (zgf S9 12 a0 16) (fun x11 =>
      Option.bind (zpa S9 q10 x11 (0 : Int32)) (fun S12 =>
      Option.bind (zgf S12 12 a0 16) (fun x13 =>
      Option.bind (zpf S12 12 a0 16 (x13 + (1 : Int32))) (fun S14 =>
      Option.bind (zgr S14 12 a0 20) (fun q15 =>
      Option.bind (zgf S14 12 a0 16) (fun x16 =>
      Option.bind (zga S14 102 q15 (x16 - (1 : Int32))) (fun x17 =>
      if x17 = (0 : Int32) then
        if (1 : Int32) = 0 ∨ (1 : Int32) = 1 then some ((1 : Int32), S14) else none
      else
        Option.bind (zcl S14 12 a0 (f_Mo_goesOn a0 S14)) (fun p18 =>
        if (1 : Int32) = 0 ∨ (1 : Int32) = 1 then some ((1 : Int32), p18) else none))))))))))))))))
noncomputable def f_Mo_readSide (a0 : Nat) (S : zM) : Option (Int32 × zM) :=
  Option.bind (zgf S 12 a0 25) (fun x1 =>
  if x1 = (2 : Int32) then
    Option.bind (zgf S 12 a0 24) (fun x2 =>
    Option.bind (zgf S 12 a0 23) (fun x3 =>
    if (x2 - x3) = (1 : Int32) then
      Option.bind (zcl S 12 a0 (f_Mo_areLetters a0 (1 : Int32) S)) (fun p4 =>
      if p4.1 = (0 : Int32) then
        Option.bind (zcl p4.2 12 a0 (f_Mo_errs a0 (1 : Int32) p4.2)) (fun p5 =>
        if p5.1 = 0 ∨ p5.1 = 1 then some (p5.1, p5.2) else none)
      else
        Option.bind (zgr p4.2 12 a0 4) (fun q6 =>
        Option.bind (zgf p4.2 12 a0 23) (fun x7 =>
        Option.bind (zga p4.2 100 q6 x7) (fun x8 =>
        Option.bind (zpf p4.2 12 a0 29 ((1 : Int32) <<< ((x8 - (97 : Int32)) &&& 31))) (fun S9 =>
        Option.bind (zcl S9 12 a0 (f_Mo_goesOn a0 S9)) (fun p10 =>
        if (1 : Int32) = 0 ∨ (1 : Int32) = 1 then some ((1 : Int32), p10) else none))))))
    else
      Option.bind (zcl S 12 a0 (f_Mo_isWord a0 (1000000 + 11) S)) (fun p11 =>
      if p11.1 = (0 : Int32) then
        Option.bind (zcl p11.2 12 a0 (f_Mo_isKeyword a0 p11.2)) (fun p12 =>
        if p12.1 = (0 : Int32) then
          Option.bind (zcl p12.2 12 a0 (f_Mo_kindHere a0 p12.2)) (fun p13 =>
          if p13.1 = (-1 : Int32) then
            Option.bind (zcl p13.2 12 a0 (f_Mo_errs a0 (4 : Int32) p13.2)) (fun p14 =>
            if p14.1 = 0 ∨ p14.1 = 1 then some (p14.1, p14.2) else none)
          else
            Option.bind (zgr p13.2 12 a0 17) (fun q15 =>
            Option.bind (zga p13.2 100 q15 p13.1) (fun x16 =>
            Option.bind (zpf p13.2 12 a0 29 x16) (fun S17 =>
            Option.bind (zcl S17 12 a0 (f_Mo_goesOn a0 S17)) (fun p18 =>
            if (1 : Int32) = 0 ∨ (1 : Int32) = 1 then some ((1 : Int32), p18) else none)))))
        else
          Option.bind (zcl p12.2 12 a0 (f_Mo_errs a0 (1 : Int32) p12.2)) (fun p19 =>
          if p19.1 = 0 ∨ p19.1 = 1 then some (p19.1, p19.2) else none))
      else
        Option.bind (zpf p11.2 12 a0 29 (256 : Int32)) (fun S20 =>
        Option.bind (zcl S20 12 a0 (f_Mo_goesOn a0 S20)) (fun p21 =>
        if (1 : Int32) = 0 ∨ (1 : Int32) = 1 then some ((1 : Int32), p21) else none)))))
  else
    Option.bind (zcl S 12 a0 (f_Mo_errs a0 (1 : Int32) S)) (fun p22 =>
    if p22.1 = 0 ∨ p22.1 = 1 then some (p22.1, p22.2) else none))
noncomputable def L_Mo_readLetters_38 : Nat → Nat → Int32 → Int32 → Int32 → zM → Option (Int32 × zM)
  | 0, _, _, _, _, _ => none
  | n + 1, a0, a1, a3, a5, S =>
  Option.bind (zgf S 12 a0 24) (fun x1 =>
  if a5 < x1 then
    Option.bind (zgr S 12 a0 21) (fun q2 =>
    Option.bind (zgf S 12 a0 23) (fun x3 =>
    Option.bind (zgr S 12 a0 4) (fun q4 =>
    Option.bind (zga S 100 q4 a5) (fun x5 =>
    Option.bind (zpa S q2 (((a1 + a3) + a5) - x3) (x5 - (97 : Int32))) (fun S6 =>
    L_Mo_readLetters_38 n a0 a1 a3 (a5 + (1 : Int32)) S6)))))
  else
    Option.bind (zcl S 12 a0 (f_Mo_goesOn a0 S)) (fun p7 =>
    if (1 : Int32) = 0 ∨ (1 : Int32) = 1 then some ((1 : Int32), p7) else none))
noncomputable def f_Mo_readLetters (a0 : Nat) (a1 : Int32) (a2 : Int32) (a3 : Int32) (a4 : Int32) (S : zM) : Option (Int32 × zM) :=
  Option.bind (zcl S 12 a0 (f_Mo_areLetters a0 a4 S)) (fun p1 =>
  if p1.1 = (0 : Int32) then
    Option.bind (zcl p1.2 12 a0 (f_Mo_errs a0 (1 : Int32) p1.2)) (fun p2 =>
    if p2.1 = 0 ∨ p2.1 = 1 then some (p2.1, p2.2) else none)
  else
    Option.bind (zgr p1.2 12 a0 21) (fun q3 =>
    Option.bind (zgf p1.2 12 a0 24) (fun x4 =>
    Option.bind (zgf p1.2 12 a0 23) (fun x5 =>
    Option.bind (zpa p1.2 q3 (a1 + a2) (x4 - x5)) (fun S6 =>
    Option.bind (zgf S6 12 a0 23) (fun x7 =>
    L_Mo_readLetters_38 zF a0 a1 a3 x7 S6))))))
noncomputable def f_Mo_readRule (a0 : Nat) (S : zM) : Option (Int32 × zM) :=
  Option.bind (zgf S 12 a0 16) (fun x1 =>
  if (x1 - (1 : Int32)) < (0 : Int32) then
    Option.bind (zcl S 12 a0 (f_Mo_hasScript a0 S)) (fun p2 =>
    if p2.1 = (0 : Int32) then
      Option.bind (zcl p2.2 12 a0 (f_Mo_errs a0 (6 : Int32) p2.2)) (fun p3 =>
      if p3.1 = 0 ∨ p3.1 = 1 then some (p3.1, p3.2) else none)
    else
      if (x1 - (1 : Int32)) < (0 : Int32) then
        Option.bind (zcl p2.2 12 a0 (f_Mo_errs a0 (6 : Int32) p2.2)) (fun p4 =>
        if p4.1 = 0 ∨ p4.1 = 1 then some (p4.1, p4.2) else none)
      else
        Option.bind (zcl p2.2 12 a0 (f_Mo_goesOn a0 p2.2)) (fun p5 =>
        Option.bind (zgr p5 12 a0 19) (fun q6 =>
        Option.bind (zga p5 100 q6 (x1 - (1 : Int32))) (fun x7 =>
        Option.bind (zgr p5 12 a0 21) (fun q8 =>
        Option.bind (zpa p5 q8 (((11 : Int32) * (((8 : Int32) * (x1 - (1 : Int32))) + x7)) + (2 : Int32)) (511 : Int32)) (fun S9 =>
        Option.bind (zgr S9 12 a0 21) (fun q10 =>
        Option.bind (zpa S9 q10 (((11 : Int32) * (((8 : Int32) * (x1 - (1 : Int32))) + x7)) + (3 : Int32)) (511 : Int32)) (fun S11 =>
        Option.bind (zcl S11 12 a0 (f_Mo_isWord a0 (1000000 + 7) S11)) (fun p12 =>
        if p12.1 = (0 : Int32) then
          Option.bind (zcl p12.2 12 a0 (f_Mo_readLetters a0 ((11 : Int32) * (((8 : Int32) * (x1 - (1 : Int32))) + x7)) (0 : Int32) (4 : Int32) (3 : Int32) p12.2)) (fun p13 =>
          if p13.1 = (0 : Int32) then
            if (0 : Int32) = 0 ∨ (0 : Int32) = 1 then some ((0 : Int32), p13.2) else none
          else
            Option.bind (zcl p13.2 12 a0 (f_Mo_isWord a0 (1000000 + 8) p13.2)) (fun p14 =>
            if p14.1 = (0 : Int32) then
              Option.bind (zcl p14.2 12 a0 (f_Mo_needs a0 (1000000 + 9) p14.2)) (fun p15 =>
              if p15.1 = (0 : Int32) then
                if (0 : Int32) = 0 ∨ (0 : Int32) = 1 then some ((0 : Int32), p15.2) else none
              else
                Option.bind (zcl p15.2 12 a0 (f_Mo_isWord a0 (1000000 + 10) p15.2)) (fun p16 =>
                if p16.1 = (0 : Int32) then
                  Option.bind (zcl p16.2 12 a0 (f_Mo_readLetters a0 ((11 : Int32) * (((8 : Int32) * (x1 - (1 : Int32))) + x7)) (1 : Int32) (7 : Int32) (4 : Int32) p16.2)) (fun p17 =>
                  if p17.1 = (0 : Int32) then
                    if (0 : Int32) = 0 ∨ (0 : Int32) = 1 then some ((0 : Int32), p17.2) else none
                  else
                    Option.bind (zgr p17.2 12 a0 19) (fun q18 =>
                    Option.bind (zga p17.2 100 q18 (x1 - (1 : Int32))) (fun x19 =>
                    Option.bind (zpa p17.2 q18 (x1 - (1 : Int32)) (x19 + (1 : Int32))) (fun S20 =>
                    if (1 : Int32) = 0 ∨ (1 : Int32) = 1 then some ((1 : Int32), S20) else none))))
                else
                  Option.bind (zgr p16.2 12 a0 21) (fun q21 =>
                  Option.bind (zpa p16.2 q21 (((11 : Int32) * (((8 : Int32) * (x1 - (1 : Int32))) + x7)) + (1 : Int32)) (0 : Int32)) (fun S22 =>
                  Option.bind (zcl S22 12 a0 (f_Mo_goesOn a0 S22)) (fun p23 =>
                  Option.bind (zgr p23 12 a0 19) (fun q24 =>
                  Option.bind (zga p23 100 q24 (x1 - (1 : Int32))) (fun x25 =>
                  Option.bind (zpa p23 q24 (x1 - (1 : Int32)) (x25 + (1 : Int32))) (fun S26 =>
                  if (1 : Int32) = 0 ∨ (1 : Int32) = 1 then some ((1 : Int32), S26) else none))))))))
            else
              Option.bind (zcl p14.2 12 a0 (f_Mo_goesOn a0 p14.2)) (fun p27 =>
              Option.bind (zcl p27 12 a0 (f_Mo_readSide a0 p27)) (fun p28 =>
              if p28.1 = (0 : Int32) then
                if (0 : Int32) = 0 ∨ (0 : Int32) = 1 then some ((0 : Int32), p28.2) else none
              else
                Option.bind (zgr p28.2 12 a0 21) (fun q29 =>
                Option.bind (zgf p28.2 12 a0 29) (fun x30 =>
                Option.bind (zpa p28.2 q29 (((11 : Int32) * (((8 : Int32) * (x1 - (1 : Int32))) + x7)) + (3 : Int32)) x30) (fun S31 =>
                Option.bind (zcl S31 12 a0 (f_Mo_needs a0 (1000000 + 9) S31)) (fun p32 =>
                if p32.1 = (0 : Int32) then
                  if (0 : Int32) = 0 ∨ (0 : Int32) = 1 then some ((0 : Int32), p32.2) else none
                else
                  Option.bind (zcl p32.2 12 a0 (f_Mo_isWord a0 (1000000 + 10) p32.2)) (fun p33 =>
                  if p33.1 = (0 : Int32) then
                    Option.bind (zcl p33.2 12 a0 (f_Mo_readLetters a0 ((11 : Int32) * (((8 : Int32) * (x1 - (1 : Int32))) + x7)) (1 : Int32) (7 : Int32) (4 : Int32) p33.2)) (fun p34 =>
                    if p34.1 = (0 : Int32) then
                      if (0 : Int32) = 0 ∨ (0 : Int32) = 1 then some ((0 : Int32), p34.2) else none
                    else
                      Option.bind (zgr p34.2 12 a0 19) (fun q35 =>
                      Option.bind (zga p34.2 100 q35 (x1 - (1 : Int32))) (fun x36 =>
                      Option.bind (zpa p34.2 q35 (x1 - (1 : Int32)) (x36 + (1 : Int32))) (fun S37 =>
                      if (1 : Int32) = 0 ∨ (1 : Int32) = 1 then some ((1 : Int32), S37) else none))))
                  else
                    Option.bind (zgr p33.2 12 a0 21) (fun q38 =>
                    Option.bind (zpa p33.2 q38 (((11 : Int32) * (((8 : Int32) * (x1 - (1 : Int32))) + x7)) + (1 : Int32)) (0 : Int32)) (fun S39 =>
                    Option.bind (zcl S39 12 a0 (f_Mo_goesOn a0 S39)) (fun p40 =>
                    Option.bind (zgr p40 12 a0 19) (fun q41 =>
                    Option.bind (zga p40 100 q41 (x1 - (1 : Int32))) (fun x42 =>
                    Option.bind (zpa p40 q41 (x1 - (1 : Int32)) (x42 + (1 : Int32))) (fun S43 =>
                    if (1 : Int32) = 0 ∨ (1 : Int32) = 1 then some ((1 : Int32), S43) else none)))))))))))))))
        else
          Option.bind (zcl p12.2 12 a0 (f_Mo_goesOn a0 p12.2)) (fun p44 =>
          Option.bind (zcl p44 12 a0 (f_Mo_readSide a0 p44)) (fun p45 =>
          if p45.1 = (0 : Int32) then
            if (0 : Int32) = 0 ∨ (0 : Int32) = 1 then some ((0 : Int32), p45.2) else none
          else
            Option.bind (zgr p45.2 12 a0 21) (fun q46 =>
            Option.bind (zgf p45.2 12 a0 29) (fun x47 =>
            Option.bind (zpa p45.2 q46 (((11 : Int32) * (((8 : Int32) * (x1 - (1 : Int32))) + x7)) + (2 : Int32)) x47) (fun S48 =>
            Option.bind (zcl S48 12 a0 (f_Mo_readLetters a0 ((11 : Int32) * (((8 : Int32) * (x1 - (1 : Int32))) + x7)) (0 : Int32) (4 : Int32) (3 : Int32) S48)) (fun p49 =>
            if p49.1 = (0 : Int32) then
              if (0 : Int32) = 0 ∨ (0 : Int32) = 1 then some ((0 : Int32), p49.2) else none
            else
              Option.bind (zcl p49.2 12 a0 (f_Mo_isWord a0 (1000000 + 8) p49.2)) (fun p50 =>
              if p50.1 = (0 : Int32) then
                Option.bind (zcl p50.2 12 a0 (f_Mo_needs a0 (1000000 + 9) p50.2)) (fun p51 =>
                if p51.1 = (0 : Int32) then
                  if (0 : Int32) = 0 ∨ (0 : Int32) = 1 then some ((0 : Int32), p51.2) else none
                else
                  Option.bind (zcl p51.2 12 a0 (f_Mo_isWord a0 (1000000 + 10) p51.2)) (fun p52 =>
                  if p52.1 = (0 : Int32) then
                    Option.bind (zcl p52.2 12 a0 (f_Mo_readLetters a0 ((11 : Int32) * (((8 : Int32) * (x1 - (1 : Int32))) + x7)) (1 : Int32) (7 : Int32) (4 : Int32) p52.2)) (fun p53 =>
                    if p53.1 = (0 : Int32) then
                      if (0 : Int32) = 0 ∨ (0 : Int32) = 1 then some ((0 : Int32), p53.2) else none
                    else
                      Option.bind (zgr p53.2 12 a0 19) (fun q54 =>
                      Option.bind (zga p53.2 100 q54 (x1 - (1 : Int32))) (fun x55 =>
                      Option.bind (zpa p53.2 q54 (x1 - (1 : Int32)) (x55 + (1 : Int32))) (fun S56 =>
                      if (1 : Int32) = 0 ∨ (1 : Int32) = 1 then some ((1 : Int32), S56) else none))))
                  else
                    Option.bind (zgr p52.2 12 a0 21) (fun q57 =>
                    Option.bind (zpa p52.2 q57 (((11 : Int32) * (((8 : Int32) * (x1 - (1 : Int32))) + x7)) + (1 : Int32)) (0 : Int32)) (fun S58 =>
                    Option.bind (zcl S58 12 a0 (f_Mo_goesOn a0 S58)) (fun p59 =>
                    Option.bind (zgr p59 12 a0 19) (fun q60 =>
                    Option.bind (zga p59 100 q60 (x1 - (1 : Int32))) (fun x61 =>
                    Option.bind (zpa p59 q60 (x1 - (1 : Int32)) (x61 + (1 : Int32))) (fun S62 =>
                    if (1 : Int32) = 0 ∨ (1 : Int32) = 1 then some ((1 : Int32), S62) else none))))))))
              else
                Option.bind (zcl p50.2 12 a0 (f_Mo_goesOn a0 p50.2)) (fun p63 =>
                Option.bind (zcl p63 12 a0 (f_Mo_readSide a0 p63)) (fun p64 =>
                if p64.1 = (0 : Int32) then
                  if (0 : Int32) = 0 ∨ (0 : Int32) = 1 then some ((0 : Int32), p64.2) else none
                else
                  Option.bind (zgr p64.2 12 a0 21) (fun q65 =>
                  Option.bind (zgf p64.2 12 a0 29) (fun x66 =>
                  Option.bind (zpa p64.2 q65 (((11 : Int32) * (((8 : Int32) * (x1 - (1 : Int32))) + x7)) + (3 : Int32)) x66) (fun S67 =>
                  Option.bind (zcl S67 12 a0 (f_Mo_needs a0 (1000000 + 9) S67)) (fun p68 =>
                  if p68.1 = (0 : Int32) then
                    if (0 : Int32) = 0 ∨ (0 : Int32) = 1 then some ((0 : Int32), p68.2) else none
                  else
                    Option.bind (zcl p68.2 12 a0 (f_Mo_isWord a0 (1000000 + 10) p68.2)) (fun p69 =>
                    if p69.1 = (0 : Int32) then
                      Option.bind (zcl p69.2 12 a0 (f_Mo_readLetters a0 ((11 : Int32) * (((8 : Int32) * (x1 - (1 : Int32))) + x7)) (1 : Int32) (7 : Int32) (4 : Int32) p69.2)) (fun p70 =>
                      if p70.1 = (0 : Int32) then
                        if (0 : Int32) = 0 ∨ (0 : Int32) = 1 then some ((0 : Int32), p70.2) else none
                      else
                        Option.bind (zgr p70.2 12 a0 19) (fun q71 =>
                        Option.bind (zga p70.2 100 q71 (x1 - (1 : Int32))) (fun x72 =>
                        Option.bind (zpa p70.2 q71 (x1 - (1 : Int32)) (x72 + (1 : Int32))) (fun S73 =>
                        if (1 : Int32) = 0 ∨ (1 : Int32) = 1 then some ((1 : Int32), S73) else none))))
                    else
                      Option.bind (zgr p69.2 12 a0 21) (fun q74 =>
                      Option.bind (zpa p69.2 q74 (((11 : Int32) * (((8 : Int32) * (x1 - (1 : Int32))) + x7)) + (1 : Int32)) (0 : Int32)) (fun S75 =>
                      Option.bind (zcl S75 12 a0 (f_Mo_goesOn a0 S75)) (fun p76 =>
                      Option.bind (zgr p76 12 a0 19) (fun q77 =>
                      Option.bind (zga p76 100 q77 (x1 - (1 : Int32))) (fun x78 =>
                      Option.bind (zpa p76 q77 (x1 - (1 : Int32)) (x78 + (1 : Int32))) (fun S79 =>
                      if (1 : Int32) = 0 ∨ (1 : Int32) = 1 then some ((1 : Int32), S79) else none)))))))))))))))))))))))))))))
  else
    Option.bind (zgr S 12 a0 19) (fun q80 =>
    Option.bind (zga S 100 q80 (x1 - (1 : Int32))) (fun x81 =>
    if x81 = (8 : Int32) then
      Option.bind (zcl S 12 a0 (f_Mo_errs a0 (5 : Int32) S)) (fun p82 =>
      if p82.1 = 0 ∨ p82.1 = 1 then some (p82.1, p82.2) else none)
    else
      Option.bind (zcl S 12 a0 (f_Mo_hasScript a0 S)) (fun p83 =>
      if p83.1 = (0 : Int32) then
        Option.bind (zcl p83.2 12 a0 (f_Mo_errs a0 (6 : Int32) p83.2)) (fun p84 =>
        if p84.1 = 0 ∨ p84.1 = 1 then some (p84.1, p84.2) else none)
      else
        if (x1 - (1 : Int32)) < (0 : Int32) then
          Option.bind (zcl p83.2 12 a0 (f_Mo_errs a0 (6 : Int32) p83.2)) (fun p85 =>
          if p85.1 = 0 ∨ p85.1 = 1 then some (p85.1, p85.2) else none)
        else
          Option.bind (zcl p83.2 12 a0 (f_Mo_goesOn a0 p83.2)) (fun p86 =>
          Option.bind (zgr p86 12 a0 19) (fun q87 =>
          Option.bind (zga p86 100 q87 (x1 - (1 : Int32))) (fun x88 =>
          Option.bind (zgr p86 12 a0 21) (fun q89 =>
          Option.bind (zpa p86 q89 (((11 : Int32) * (((8 : Int32) * (x1 - (1 : Int32))) + x88)) + (2 : Int32)) (511 : Int32)) (fun S90 =>
          Option.bind (zgr S90 12 a0 21) (fun q91 =>
          Option.bind (zpa S90 q91 (((11 : Int32) * (((8 : Int32) * (x1 - (1 : Int32))) + x88)) + (3 : Int32)) (511 : Int32)) (fun S92 =>
          Option.bind (zcl S92 12 a0 (f_Mo_isWord a0 (1000000 + 7) S92)) (fun p93 =>
          if p93.1 = (0 : Int32) then
            Option.bind (zcl p93.2 12 a0 (f_Mo_readLetters a0 ((11 : Int32) * (((8 : Int32) * (x1 - (1 : Int32))) + x88)) (0 : Int32) (4 : Int32) (3 : Int32) p93.2)) (fun p94 =>
            if p94.1 = (0 : Int32) then
              if (0 : Int32) = 0 ∨ (0 : Int32) = 1 then some ((0 : Int32), p94.2) else none
            else
              Option.bind (zcl p94.2 12 a0 (f_Mo_isWord a0 (1000000 + 8) p94.2)) (fun p95 =>
              if p95.1 = (0 : Int32) then
                Option.bind (zcl p95.2 12 a0 (f_Mo_needs a0 (1000000 + 9) p95.2)) (fun p96 =>
                if p96.1 = (0 : Int32) then
                  if (0 : Int32) = 0 ∨ (0 : Int32) = 1 then some ((0 : Int32), p96.2) else none
                else
                  Option.bind (zcl p96.2 12 a0 (f_Mo_isWord a0 (1000000 + 10) p96.2)) (fun p97 =>
                  if p97.1 = (0 : Int32) then
                    Option.bind (zcl p97.2 12 a0 (f_Mo_readLetters a0 ((11 : Int32) * (((8 : Int32) * (x1 - (1 : Int32))) + x88)) (1 : Int32) (7 : Int32) (4 : Int32) p97.2)) (fun p98 =>
                    if p98.1 = (0 : Int32) then
                      if (0 : Int32) = 0 ∨ (0 : Int32) = 1 then some ((0 : Int32), p98.2) else none
                    else
                      Option.bind (zgr p98.2 12 a0 19) (fun q99 =>
                      Option.bind (zga p98.2 100 q99 (x1 - (1 : Int32))) (fun x100 =>
                      Option.bind (zpa p98.2 q99 (x1 - (1 : Int32)) (x100 + (1 : Int32))) (fun S101 =>
                      if (1 : Int32) = 0 ∨ (1 : Int32) = 1 then some ((1 : Int32), S101) else none))))
                  else
                    Option.bind (zgr p97.2 12 a0 21) (fun q102 =>
                    Option.bind (zpa p97.2 q102 (((11 : Int32) * (((8 : Int32) * (x1 - (1 : Int32))) + x88)) + (1 : Int32)) (0 : Int32)) (fun S103 =>
                    Option.bind (zcl S103 12 a0 (f_Mo_goesOn a0 S103)) (fun p104 =>
                    Option.bind (zgr p104 12 a0 19) (fun q105 =>
                    Option.bind (zga p104 100 q105 (x1 - (1 : Int32))) (fun x106 =>
                    Option.bind (zpa p104 q105 (x1 - (1 : Int32)) (x106 + (1 : Int32))) (fun S107 =>
                    if (1 : Int32) = 0 ∨ (1 : Int32) = 1 then some ((1 : Int32), S107) else none))))))))
              else
                Option.bind (zcl p95.2 12 a0 (f_Mo_goesOn a0 p95.2)) (fun p108 =>
                Option.bind (zcl p108 12 a0 (f_Mo_readSide a0 p108)) (fun p109 =>
                if p109.1 = (0 : Int32) then
                  if (0 : Int32) = 0 ∨ (0 : Int32) = 1 then some ((0 : Int32), p109.2) else none
                else
                  Option.bind (zgr p109.2 12 a0 21) (fun q110 =>
                  Option.bind (zgf p109.2 12 a0 29) (fun x111 =>
                  Option.bind (zpa p109.2 q110 (((11 : Int32) * (((8 : Int32) * (x1 - (1 : Int32))) + x88)) + (3 : Int32)) x111) (fun S112 =>
                  Option.bind (zcl S112 12 a0 (f_Mo_needs a0 (1000000 + 9) S112)) (fun p113 =>
                  if p113.1 = (0 : Int32) then
                    if (0 : Int32) = 0 ∨ (0 : Int32) = 1 then some ((0 : Int32), p113.2) else none
                  else
                    Option.bind (zcl p113.2 12 a0 (f_Mo_isWord a0 (1000000 + 10) p113.2)) (fun p114 =>
                    if p114.1 = (0 : Int32) then
                      Option.bind (zcl p114.2 12 a0 (f_Mo_readLetters a0 ((11 : Int32) * (((8 : Int32) * (x1 - (1 : Int32))) + x88)) (1 : Int32) (7 : Int32) (4 : Int32) p114.2)) (fun p115 =>
                      if p115.1 = (0 : Int32) then
                        if (0 : Int32) = 0 ∨ (0 : Int32) = 1 then some ((0 : Int32), p115.2) else none
                      else
                        Option.bind (zgr p115.2 12 a0 19) (fun q116 =>
                        Option.bind (zga p115.2 100 q116 (x1 - (1 : Int32))) (fun x117 =>
                        Option.bind (zpa p115.2 q116 (x1 - (1 : Int32)) (x117 + (1 : Int32))) (fun S118 =>
                        if (1 : Int32) = 0 ∨ (1 : Int32) = 1 then some ((1 : Int32), S118) else none))))
                    else
                      Option.bind (zgr p114.2 12 a0 21) (fun q119 =>
                      Option.bind (zpa p114.2 q119 (((11 : Int32) * (((8 : Int32) * (x1 - (1 : Int32))) + x88)) + (1 : Int32)) (0 : Int32)) (fun S120 =>
                      Option.bind (zcl S120 12 a0 (f_Mo_goesOn a0 S120)) (fun p121 =>
                      Option.bind (zgr p121 12 a0 19) (fun q122 =>
                      Option.bind (zga p121 100 q122 (x1 - (1 : Int32))) (fun x123 =>
                      Option.bind (zpa p121 q122 (x1 - (1 : Int32)) (x123 + (1 : Int32))) (fun S124 =>
                      if (1 : Int32) = 0 ∨ (1 : Int32) = 1 then some ((1 : Int32), S124) else none)))))))))))))))
          else
            Option.bind (zcl p93.2 12 a0 (f_Mo_goesOn a0 p93.2)) (fun p125 =>
            Option.bind (zcl p125 12 a0 (f_Mo_readSide a0 p125)) (fun p126 =>
            if p126.1 = (0 : Int32) then
              if (0 : Int32) = 0 ∨ (0 : Int32) = 1 then some ((0 : Int32), p126.2) else none
            else
              Option.bind (zgr p126.2 12 a0 21) (fun q127 =>
              Option.bind (zgf p126.2 12 a0 29) (fun x128 =>
              Option.bind (zpa p126.2 q127 (((11 : Int32) * (((8 : Int32) * (x1 - (1 : Int32))) + x88)) + (2 : Int32)) x128) (fun S129 =>
              Option.bind (zcl S129 12 a0 (f_Mo_readLetters a0 ((11 : Int32) * (((8 : Int32) * (x1 - (1 : Int32))) + x88)) (0 : Int32) (4 : Int32) (3 : Int32) S129)) (fun p130 =>
              if p130.1 = (0 : Int32) then
                if (0 : Int32) = 0 ∨ (0 : Int32) = 1 then some ((0 : Int32), p130.2) else none
              else
                Option.bind (zcl p130.2 12 a0 (f_Mo_isWord a0 (1000000 + 8) p130.2)) (fun p131 =>
                if p131.1 = (0 : Int32) then
                  Option.bind (zcl p131.2 12 a0 (f_Mo_needs a0 (1000000 + 9) p131.2)) (fun p132 =>
                  if p132.1 = (0 : Int32) then
                    if (0 : Int32) = 0 ∨ (0 : Int32) = 1 then some ((0 : Int32), p132.2) else none
                  else
                    Option.bind (zcl p132.2 12 a0 (f_Mo_isWord a0 (1000000 + 10) p132.2)) (fun p133 =>
                    if p133.1 = (0 : Int32) then
                      Option.bind (zcl p133.2 12 a0 (f_Mo_readLetters a0 ((11 : Int32) * (((8 : Int32) * (x1 - (1 : Int32))) + x88)) (1 : Int32) (7 : Int32) (4 : Int32) p133.2)) (fun p134 =>
                      if p134.1 = (0 : Int32) then
                        if (0 : Int32) = 0 ∨ (0 : Int32) = 1 then some ((0 : Int32), p134.2) else none
                      else
                        Option.bind (zgr p134.2 12 a0 19) (fun q135 =>
                        Option.bind (zga p134.2 100 q135 (x1 - (1 : Int32))) (fun x136 =>
                        Option.bind (zpa p134.2 q135 (x1 - (1 : Int32)) (x136 + (1 : Int32))) (fun S137 =>
                        if (1 : Int32) = 0 ∨ (1 : Int32) = 1 then some ((1 : Int32), S137) else none))))
                    else
                      Option.bind (zgr p133.2 12 a0 21) (fun q138 =>
                      Option.bind (zpa p133.2 q138 (((11 : Int32) * (((8 : Int32) * (x1 - (1 : Int32))) + x88)) + (1 : Int32)) (0 : Int32)) (fun S139 =>
                      Option.bind (zcl S139 12 a0 (f_Mo_goesOn a0 S139)) (fun p140 =>
                      Option.bind (zgr p140 12 a0 19) (fun q141 =>
                      Option.bind (zga p140 100 q141 (x1 - (1 : Int32))) (fun x142 =>
                      Option.bind (zpa p140 q141 (x1 - (1 : Int32)) (x142 + (1 : Int32))) (fun S143 =>
                      if (1 : Int32) = 0 ∨ (1 : Int32) = 1 then some ((1 : Int32), S143) else none))))))))
                else
                  Option.bind (zcl p131.2 12 a0 (f_Mo_goesOn a0 p131.2)) (fun p144 =>
                  Option.bind (zcl p144 12 a0 (f_Mo_readSide a0 p144)) (fun p145 =>
                  if p145.1 = (0 : Int32) then
                    if (0 : Int32) = 0 ∨ (0 : Int32) = 1 then some ((0 : Int32), p145.2) else none
                  else
                    Option.bind (zgr p145.2 12 a0 21) (fun q146 =>
                    Option.bind (zgf p145.2 12 a0 29) (fun x147 =>
                    Option.bind (zpa p145.2 q146 (((11 : Int32) * (((8 : Int32) * (x1 - (1 : Int32))) + x88)) + (3 : Int32)) x147) (fun S148 =>
                    Option.bind (zcl S148 12 a0 (f_Mo_needs a0 (1000000 + 9) S148)) (fun p149 =>
                    if p149.1 = (0 : Int32) then
                      if (0 : Int32) = 0 ∨ (0 : Int32) = 1 then some ((0 : Int32), p149.2) else none
                    else
                      Option.bind (zcl p149.2 12 a0 (f_Mo_isWord a0 (1000000 + 10) p149.2)) (fun p150 =>
                      if p150.1 = (0 : Int32) then
                        Option.bind (zcl p150.2 12 a0 (f_Mo_readLetters a0 ((11 : Int32) * (((8 : Int32) * (x1 - (1 : Int32))) + x88)) (1 : Int32) (7 : Int32) (4 : Int32) p150.2)) (fun p151 =>
                        if p151.1 = (0 : Int32) then
                          if (0 : Int32) = 0 ∨ (0 : Int32) = 1 then some ((0 : Int32), p151.2) else none
                        else
                          Option.bind (zgr p151.2 12 a0 19) (fun q152 =>
                          Option.bind (zga p151.2 100 q152 (x1 - (1 : Int32))) (fun x153 =>
                          Option.bind (zpa p151.2 q152 (x1 - (1 : Int32)) (x153 + (1 : Int32))) (fun S154 =>
                          if (1 : Int32) = 0 ∨ (1 : Int32) = 1 then some ((1 : Int32), S154) else none))))
                      else
                        Option.bind (zgr p150.2 12 a0 21) (fun q155 =>
                        Option.bind (zpa p150.2 q155 (((11 : Int32) * (((8 : Int32) * (x1 - (1 : Int32))) + x88)) + (1 : Int32)) (0 : Int32)) (fun S156 =>
                        Option.bind (zcl S156 12 a0 (f_Mo_goesOn a0 S156)) (fun p157 =>
                        Option.bind (zgr p157 12 a0 19) (fun q158 =>
                        Option.bind (zga p157 100 q158 (x1 - (1 : Int32))) (fun x159 =>
                        Option.bind (zpa p157 q158 (x1 - (1 : Int32)) (x159 + (1 : Int32))) (fun S160 =>
                        if (1 : Int32) = 0 ∨ (1 : Int32) = 1 then some ((1 : Int32), S160) else none))))))))))))))))))))))))))))))))
noncomputable def f_Mo_readLine (a0 : Nat) (S : zM) : Option (Int32 × zM) :=
  Option.bind (zcl S 12 a0 (f_Mo_isWord a0 (1000000 + 0) S)) (fun p1 =>
  if p1.1 = (0 : Int32) then
    Option.bind (zcl p1.2 12 a0 (f_Mo_isWord a0 (1000000 + 1) p1.2)) (fun p2 =>
    if p2.1 = (0 : Int32) then
      Option.bind (zcl p2.2 12 a0 (f_Mo_isWord a0 (1000000 + 2) p2.2)) (fun p3 =>
      if p3.1 = (0 : Int32) then
        Option.bind (zcl p3.2 12 a0 (f_Mo_isWord a0 (1000000 + 3) p3.2)) (fun p4 =>
        if p4.1 = (0 : Int32) then
          Option.bind (zcl p4.2 12 a0 (f_Mo_errs a0 (1 : Int32) p4.2)) (fun p5 =>
          if p5.1 = 0 ∨ p5.1 = 1 then some (p5.1, p5.2) else none)
        else
          Option.bind (zcl p4.2 12 a0 (f_Mo_readRule a0 p4.2)) (fun p6 =>
          if p6.1 = 0 ∨ p6.1 = 1 then some (p6.1, p6.2) else none))
      else
        Option.bind (zcl p3.2 12 a0 (f_Mo_readPass a0 p3.2)) (fun p7 =>
        if p7.1 = 0 ∨ p7.1 = 1 then some (p7.1, p7.2) else none))
    else
      Option.bind (zcl p2.2 12 a0 (f_Mo_readKind a0 p2.2)) (fun p8 =>
      if p8.1 = 0 ∨ p8.1 = 1 then some (p8.1, p8.2) else none))
  else
    Option.bind (zcl p1.2 12 a0 (f_Mo_readScript a0 p1.2)) (fun p9 =>
    if p9.1 = 0 ∨ p9.1 = 1 then some (p9.1, p9.2) else none))
noncomputable def L_Mo_readAll_75 : Nat → Nat → Int32 → zM → Option (Int32 × zM)
  | 0, _, _, _ => none
  | n + 1, a0, a2, S =>
  Option.bind (zgf S 12 a0 16) (fun x1 =>
  if a2 < x1 then
    Option.bind (zgr S 12 a0 19) (fun q2 =>
    Option.bind (zga S 100 q2 a2) (fun x3 =>
    if x3 ≤ (0 : Int32) then
      L_Mo_readAll_75 n a0 (a2 + (1 : Int32)) S
    else
      if (1 : Int32) = 0 ∨ (1 : Int32) = 1 then some ((1 : Int32), S) else none))
  else
    Option.bind (zcl S 12 a0 (f_Mo_errs a0 (6 : Int32) S)) (fun p4 =>
    if p4.1 = 0 ∨ p4.1 = 1 then some (p4.1, p4.2) else none))
noncomputable def F_Mo_readAll_60 (k75 : Nat → Int32 → zM → Option (Int32 × zM)) (a0 : Nat) (S : zM) : Option (Int32 × zM) :=
  Option.bind (zgf S 12 a0 25) (fun x1 =>
  if x1 = (0 : Int32) then
    k75 a0 (0 : Int32) S
  else
    Option.bind (zcl S 12 a0 (f_Mo_errs a0 (1 : Int32) S)) (fun p2 =>
    if p2.1 = 0 ∨ p2.1 = 1 then some (p2.1, p2.2) else none))
noncomputable def L_Mo_readAll_38 (k60 : Nat → zM → Option (Int32 × zM)) : Nat → Nat → zM → Option (Int32 × zM)
  | 0, _, _ => none
  | n + 1, a0, S =>
  Option.bind (zgf S 12 a0 25) (fun x1 =>
  if x1 = (59 : Int32) then
    Option.bind (zcl S 12 a0 (f_Mo_goesOn a0 S)) (fun p2 =>
    Option.bind (zcl p2 12 a0 (f_Mo_readLine a0 p2)) (fun p3 =>
    if p3.1 = (0 : Int32) then
      if (0 : Int32) = 0 ∨ (0 : Int32) = 1 then some ((0 : Int32), p3.2) else none
    else
      L_Mo_readAll_38 k60 n a0 p3.2))
  else
    k60 a0 S)
noncomputable def f_Mo_readAll (a0 : Nat) (a1 : Int32) (S : zM) : Option (Int32 × zM) :=
  Option.bind (zpf S 12 a0 22 a1) (fun S1 =>
  Option.bind (zpf S1 12 a0 24 (0 : Int32)) (fun S2 =>
  Option.bind (zpf S2 12 a0 14 (0 : Int32)) (fun S3 =>
  Option.bind (zpf S3 12 a0 15 (0 : Int32)) (fun S4 =>
  Option.bind (zpf S4 12 a0 16 (0 : Int32)) (fun S5 =>
  Option.bind (zcl S5 12 a0 (f_Mo_goesOn a0 S5)) (fun p6 =>
  Option.bind (zcl p6 12 a0 (f_Mo_readLine a0 p6)) (fun p7 =>
  if p7.1 = (0 : Int32) then
    if (0 : Int32) = 0 ∨ (0 : Int32) = 1 then some ((0 : Int32), p7.2) else none
  else
    L_Mo_readAll_38 (F_Mo_readAll_60 (L_Mo_readAll_75 zF)) zF a0 p7.2)))))))
noncomputable def L_Mo_script_189 : Nat → Nat → Int32 → zM → Option (Int32 × zM)
  | 0, _, _, _ => none
  | n + 1, a0, a2, S =>
  if a2 < (24 : Int32) then
    Option.bind (zgr S 12 a0 39) (fun q1 =>
    Option.bind (zpb S q1 a2 (0 : Int32)) (fun S2 =>
    L_Mo_script_189 n a0 (a2 + (1 : Int32)) S2))
  else
    Option.bind (zpz S 12 a0 9 (1 : Int32)) (fun S3 =>
    Option.bind (zpz S3 12 a0 48 (0 : Int32)) (fun S4 =>
    Option.bind (zpf S4 12 a0 66 (0 : Int32)) (fun S5 =>
    Option.bind (zgf S5 12 a0 8) (fun x6 =>
    some (x6, S5)))))
noncomputable def F_Mo_script_187 (k189 : Nat → Int32 → zM → Option (Int32 × zM)) (a0 : Nat) (S : zM) : Option (Int32 × zM) :=
  k189 a0 (0 : Int32) S
noncomputable def L_Mo_script_162 (k187 : Nat → zM → Option (Int32 × zM)) : Nat → Nat → Int32 → zM → Option (Int32 × zM)
  | 0, _, _, _ => none
  | n + 1, a0, a2, S =>
  if a2 < (264 : Int32) then
    Option.bind (zgr S 12 a0 13) (fun q1 =>
    Option.bind (zgr S 12 a0 21) (fun q2 =>
    Option.bind (zga S 100 q2 a2) (fun x3 =>
    Option.bind (zpa S q1 a2 x3) (fun S4 =>
    L_Mo_script_162 k187 n a0 (a2 + (1 : Int32)) S4))))
  else
    k187 a0 S
noncomputable def F_Mo_script_160 (k162 : Nat → Int32 → zM → Option (Int32 × zM)) (a0 : Nat) (S : zM) : Option (Int32 × zM) :=
  k162 a0 (0 : Int32) S
noncomputable def L_Mo_script_113 (k160 : Nat → zM → Option (Int32 × zM)) : Nat → Nat → Int32 → zM → Option (Int32 × zM)
  | 0, _, _, _ => none
  | n + 1, a0, a2, S =>
  if a2 < (3 : Int32) then
    Option.bind (zgr S 12 a0 11) (fun q1 =>
    Option.bind (zgf S 12 a0 8) (fun x2 =>
    if a2 < x2 then
      Option.bind (zgr S 12 a0 19) (fun q3 =>
      Option.bind (zga S 100 q3 a2) (fun x4 =>
      Option.bind (zpa S q1 a2 x4) (fun S5 =>
      Option.bind (zgr S5 12 a0 12) (fun q6 =>
      Option.bind (zgr S5 12 a0 20) (fun q7 =>
      Option.bind (zga S5 102 q7 a2) (fun x8 =>
      Option.bind (zpb S5 q6 a2 x8) (fun S9 =>
      L_Mo_script_113 k160 n a0 (a2 + (1 : Int32)) S9)))))))
    else
      Option.bind (zpa S q1 a2 (0 : Int32)) (fun S10 =>
      Option.bind (zgr S10 12 a0 12) (fun q11 =>
      Option.bind (zgr S10 12 a0 20) (fun q12 =>
      Option.bind (zga S10 102 q12 a2) (fun x13 =>
      Option.bind (zpb S10 q11 a2 x13) (fun S14 =>
      L_Mo_script_113 k160 n a0 (a2 + (1 : Int32)) S14)))))))
  else
    k160 a0 S
noncomputable def F_Mo_script_111 (k113 : Nat → Int32 → zM → Option (Int32 × zM)) (a0 : Nat) (S : zM) : Option (Int32 × zM) :=
  k113 a0 (0 : Int32) S
noncomputable def L_Mo_script_88 (k111 : Nat → zM → Option (Int32 × zM)) : Nat → Nat → Int32 → zM → Option (Int32 × zM)
  | 0, _, _, _ => none
  | n + 1, a0, a2, S =>
  if a2 < (4 : Int32) then
    Option.bind (zgr S 12 a0 10) (fun q1 =>
    Option.bind (zgr S 12 a0 17) (fun q2 =>
    Option.bind (zga S 100 q2 a2) (fun x3 =>
    Option.bind (zpa S q1 a2 x3) (fun S4 =>
    L_Mo_script_88 k111 n a0 (a2 + (1 : Int32)) S4))))
  else
    k111 a0 S
noncomputable def f_Mo_script (a0 : Nat) (a1 : Int32) (S : zM) : Option (Int32 × zM) :=
  Option.bind (zcl S 12 a0 (f_Mo_fresh a0 S)) (fun p1 =>
  Option.bind (zgf p1 12 a0 5) (fun x2 =>
  Option.bind (f_Mo_in a1 (0 : Int32) x2 p1) (fun p3 =>
  if p3.1 = (0 : Int32) then
    Option.bind (zcl p3.2 12 a0 (f_Mo_no a0 (2 : Int32) p3.2)) (fun p4 =>
    some (p4.1, p4.2))
  else
    Option.bind (zpf p3.2 12 a0 5 (0 : Int32)) (fun S5 =>
    Option.bind (zpf S5 12 a0 2 (0 : Int32)) (fun S6 =>
    Option.bind (zcl S6 12 a0 (f_Mo_readAll a0 a1 S6)) (fun p7 =>
    if p7.1 = (0 : Int32) then
      Option.bind (zgf p7.2 12 a0 27) (fun x8 =>
      Option.bind (zpf p7.2 12 a0 2 x8) (fun S9 =>
      Option.bind (zgf S9 12 a0 28) (fun x10 =>
      Option.bind (zpf S9 12 a0 3 x10) (fun S11 =>
      Option.bind (zcl S11 12 a0 (f_Mo_no a0 (4 : Int32) S11)) (fun p12 =>
      some (p12.1, p12.2))))))
    else
      Option.bind (zgf p7.2 12 a0 14) (fun x13 =>
      Option.bind (zpf p7.2 12 a0 6 x13) (fun S14 =>
      Option.bind (zgf S14 12 a0 15) (fun x15 =>
      Option.bind (zpf S14 12 a0 7 x15) (fun S16 =>
      Option.bind (zgf S16 12 a0 16) (fun x17 =>
      Option.bind (zpf S16 12 a0 8 x17) (fun S18 =>
      L_Mo_script_88 (F_Mo_script_111 (L_Mo_script_113 (F_Mo_script_160 (L_Mo_script_162 (F_Mo_script_187 (L_Mo_script_189 zF)) zF)) zF)) zF a0 (0 : Int32) S18))))))))))))
noncomputable def f_Mo_fault (a0 : Nat) (S : zM) : Option (Int32 × zM) :=
  Option.bind (zpf S 12 a0 0 (0 : Int32)) (fun S1 =>
  Option.bind (zgf S1 12 a0 2) (fun x2 =>
  some (x2, S1)))
noncomputable def f_Mo_where (a0 : Nat) (S : zM) : Option (Int32 × zM) :=
  Option.bind (zpf S 12 a0 0 (0 : Int32)) (fun S1 =>
  Option.bind (zgf S1 12 a0 1) (fun x2 =>
  if x2 = (4 : Int32) then
    Option.bind (zgf S1 12 a0 3) (fun x3 =>
    some (x3, S1))
  else
    some ((-1 : Int32), S1)))
noncomputable def f_Mo_ruleAll (a0 : Nat) (S : zM) : Option (Int32 × zM) :=
  Option.bind (zgr S 12 a0 11) (fun q1 =>
  Option.bind (zga S 100 q1 (0 : Int32)) (fun x2 =>
  Option.bind (zgr S 12 a0 11) (fun q3 =>
  Option.bind (zga S 100 q3 (1 : Int32)) (fun x4 =>
  Option.bind (zgr S 12 a0 11) (fun q5 =>
  Option.bind (zga S 100 q5 (2 : Int32)) (fun x6 =>
  some (((x2 + x4) + x6), S)))))))
noncomputable def f_Mo_about (a0 : Nat) (a1 : Int32) (S : zM) : Option (Int32 × zM) :=
  Option.bind (zcl S 12 a0 (f_Mo_fresh a0 S)) (fun p1 =>
  Option.bind (zgf p1 12 a0 9) (fun x2 =>
  if x2 = (0 : Int32) then
    Option.bind (zcl p1 12 a0 (f_Mo_no a0 (1 : Int32) p1)) (fun p3 =>
    some (p3.1, p3.2))
  else
    if a1 = (0 : Int32) then
      Option.bind (zgf p1 12 a0 6) (fun x4 =>
      some (x4, p1))
    else if a1 = (1 : Int32) then
      Option.bind (zgf p1 12 a0 7) (fun x5 =>
      some (x5, p1))
    else if a1 = (2 : Int32) then
      Option.bind (zgf p1 12 a0 8) (fun x6 =>
      some (x6, p1))
    else if a1 = (3 : Int32) then
      Option.bind (zcl p1 12 a0 (f_Mo_ruleAll a0 p1)) (fun p7 =>
      some (p7.1, p7.2))
    else 
      Option.bind (zcl p1 12 a0 (f_Mo_no a0 (1 : Int32) p1)) (fun p8 =>
      some (p8.1, p8.2))))
noncomputable def f_Mo_kind (a0 : Nat) (a1 : Int32) (S : zM) : Option (Int32 × zM) :=
  Option.bind (zcl S 12 a0 (f_Mo_fresh a0 S)) (fun p1 =>
  Option.bind (zgf p1 12 a0 9) (fun x2 =>
  if x2 = (0 : Int32) then
    Option.bind (zcl p1 12 a0 (f_Mo_no a0 (1 : Int32) p1)) (fun p3 =>
    some (p3.1, p3.2))
  else
    Option.bind (zgf p1 12 a0 7) (fun x4 =>
    Option.bind (f_Mo_in a1 (0 : Int32) (x4 - (1 : Int32)) p1) (fun p5 =>
    if p5.1 = (0 : Int32) then
      Option.bind (zcl p5.2 12 a0 (f_Mo_no a0 (1 : Int32) p5.2)) (fun p6 =>
      some (p6.1, p6.2))
    else
      Option.bind (zgr p5.2 12 a0 10) (fun q7 =>
      Option.bind (zga p5.2 100 q7 a1) (fun x8 =>
      some (x8, p5.2)))))))
noncomputable def f_Mo_isPass (a0 : Nat) (a1 : Int32) (S : zM) : Option (Int32 × zM) :=
  Option.bind (zgf S 12 a0 9) (fun x1 =>
  if x1 = (0 : Int32) then
    if (0 : Int32) = 0 ∨ (0 : Int32) = 1 then some ((0 : Int32), S) else none
  else
    Option.bind (zgf S 12 a0 8) (fun x2 =>
    Option.bind (f_Mo_in a1 (0 : Int32) (x2 - (1 : Int32)) S) (fun p3 =>
    if p3.1 = (0 : Int32) then
      if (0 : Int32) = 0 ∨ (0 : Int32) = 1 then some ((0 : Int32), p3.2) else none
    else
      if (1 : Int32) = 0 ∨ (1 : Int32) = 1 then some ((1 : Int32), p3.2) else none)))
noncomputable def f_Mo_rowOf (a0 : Int32) (a1 : Int32) (S : zM) : Option (Int32 × zM) :=
  some (((11 : Int32) * (((8 : Int32) * a0) + a1)), S)
noncomputable def L_Mo_beginning_5 : Nat → Nat → Int32 → Int32 → Int32 → Int32 → zM → Option (Int32 × zM)
  | 0, _, _, _, _, _, _ => none
  | n + 1, a0, a1, a2, a3, a4, S =>
  if a4 < (3 : Int32) then
    if a4 < a2 then
      Option.bind (zgr S 12 a0 13) (fun q1 =>
      Option.bind (zga S 100 q1 ((a1 + (4 : Int32)) + a4)) (fun x2 =>
      L_Mo_beginning_5 n a0 a1 a2 (((8 : Int32) * a3) + x2) (a4 + (1 : Int32)) S))
    else
      L_Mo_beginning_5 n a0 a1 a2 (((8 : Int32) * a3) + (0 : Int32)) (a4 + (1 : Int32)) S
  else
    some (a3, S)
noncomputable def f_Mo_beginning (a0 : Nat) (a1 : Int32) (a2 : Int32) (S : zM) : Option (Int32 × zM) :=
  L_Mo_beginning_5 zF a0 a1 a2 a2 (0 : Int32) S
noncomputable def F_Mo_isBeginning_56 (k2 : Nat → Int32 → Int32 → Int32 → zM → Option (Int32 × zM)) (a0 : Nat) (a1 : Int32) (a2 : Int32) (a3 : Int32) (S : zM) : Option (Int32 × zM) :=
  k2 a0 a1 a2 (a3 + (1 : Int32)) S
noncomputable def L_Mo_isBeginning_22 (k56 : Nat → Int32 → Int32 → Int32 → zM → Option (Int32 × zM)) : Nat → Nat → Int32 → Int32 → Int32 → Int32 → Int32 → zM → Option (Int32 × zM)
  | 0, _, _, _, _, _, _, _ => none
  | n + 1, a0, a1, a2, a3, a4, a5, S =>
  Option.bind (zgr S 12 a0 13) (fun q1 =>
  Option.bind (zga S 100 q1 (a4 + (0 : Int32))) (fun x2 =>
  if a5 ≤ x2 then
    Option.bind (zcl S 12 a0 (f_Mo_beginning a0 a4 a5 S)) (fun p3 =>
    if p3.1 = a2 then
      if (1 : Int32) = 0 ∨ (1 : Int32) = 1 then some ((1 : Int32), p3.2) else none
    else
      L_Mo_isBeginning_22 k56 n a0 a1 a2 a3 a4 (a5 + (1 : Int32)) p3.2)
  else
    k56 a0 a1 a2 a3 S))
noncomputable def L_Mo_isBeginning_2 : Nat → Nat → Int32 → Int32 → Int32 → zM → Option (Int32 × zM)
  | 0, _, _, _, _, _ => none
  | n + 1, a0, a1, a2, a3, S =>
  Option.bind (zgr S 12 a0 11) (fun q1 =>
  Option.bind (zga S 100 q1 a1) (fun x2 =>
  if a3 < x2 then
    Option.bind (f_Mo_rowOf a1 a3 S) (fun p3 =>
    (L_Mo_isBeginning_22 (F_Mo_isBeginning_56 (L_Mo_isBeginning_2 n)) zF) a0 a1 a2 a3 p3.1 (0 : Int32) p3.2)
  else
    if a2 = (0 : Int32) then
      if (1 : Int32) = 0 ∨ (1 : Int32) = 1 then some ((1 : Int32), S) else none
    else
      if (0 : Int32) = 0 ∨ (0 : Int32) = 1 then some ((0 : Int32), S) else none))
noncomputable def f_Mo_isBeginning (a0 : Nat) (a1 : Int32) (a2 : Int32) (S : zM) : Option (Int32 × zM) :=
  L_Mo_isBeginning_2 zF a0 a1 a2 (0 : Int32) S
noncomputable def L_Mo_laysStates_7 : Nat → Nat → Int32 → Int32 → zM → Option zM
  | 0, _, _, _, _ => none
  | n + 1, a0, a1, a2, S =>
  if a2 < (2048 : Int32) then
    Option.bind (zcl S 12 a0 (f_Mo_isBeginning a0 a1 a2 S)) (fun p1 =>
    if p1.1 = (0 : Int32) then
      L_Mo_laysStates_7 n a0 a1 (a2 + (1 : Int32)) p1.2
    else
      Option.bind (zgr p1.2 12 a0 30) (fun q2 =>
      Option.bind (zgf p1.2 12 a0 31) (fun x3 =>
      Option.bind (zpa p1.2 q2 x3 a2) (fun S4 =>
      Option.bind (zgf S4 12 a0 31) (fun x5 =>
      Option.bind (zpf S4 12 a0 31 (x5 + (1 : Int32))) (fun S6 =>
      L_Mo_laysStates_7 n a0 a1 (a2 + (1 : Int32)) S6))))))
  else
    some S
noncomputable def f_Mo_laysStates (a0 : Nat) (a1 : Int32) (S : zM) : Option zM :=
  Option.bind (zpf S 12 a0 31 (0 : Int32)) (fun S1 =>
  L_Mo_laysStates_7 zF a0 a1 (0 : Int32) S1)
noncomputable def f_Mo_pass (a0 : Nat) (a1 : Int32) (a2 : Int32) (S : zM) : Option (Int32 × zM) :=
  Option.bind (zcl S 12 a0 (f_Mo_fresh a0 S)) (fun p1 =>
  Option.bind (zcl p1 12 a0 (f_Mo_isPass a0 a1 p1)) (fun p2 =>
  if p2.1 = (0 : Int32) then
    Option.bind (zcl p2.2 12 a0 (f_Mo_no a0 (1 : Int32) p2.2)) (fun p3 =>
    some (p3.1, p3.2))
  else
    Option.bind (f_Mo_in a2 (0 : Int32) (2 : Int32) p2.2) (fun p4 =>
    if p4.1 = (0 : Int32) then
      Option.bind (zcl p4.2 12 a0 (f_Mo_no a0 (1 : Int32) p4.2)) (fun p5 =>
      some (p5.1, p5.2))
    else
      Option.bind (zcl p4.2 12 a0 (f_Mo_laysStates a0 a1 p4.2)) (fun p6 =>
      if a2 = (0 : Int32) then
        Option.bind (zgr p6 12 a0 11) (fun q7 =>
        Option.bind (zga p6 100 q7 a1) (fun x8 =>
        some (x8, p6)))
      else
        if a2 = (1 : Int32) then
          Option.bind (zgr p6 12 a0 12) (fun q9 =>
          Option.bind (zga p6 102 q9 a1) (fun x10 =>
          if x10 = (0 : Int32) then
            some ((0 : Int32), p6)
          else
            some ((1 : Int32), p6)))
        else
          Option.bind (zgf p6 12 a0 31) (fun x11 =>
          some (x11, p6))))))
noncomputable def f_Mo_isRule (a0 : Nat) (a1 : Int32) (a2 : Int32) (S : zM) : Option (Int32 × zM) :=
  Option.bind (zcl S 12 a0 (f_Mo_isPass a0 a1 S)) (fun p1 =>
  if p1.1 = (0 : Int32) then
    if (0 : Int32) = 0 ∨ (0 : Int32) = 1 then some ((0 : Int32), p1.2) else none
  else
    Option.bind (zgr p1.2 12 a0 11) (fun q2 =>
    Option.bind (zga p1.2 100 q2 a1) (fun x3 =>
    Option.bind (f_Mo_in a2 (0 : Int32) (x3 - (1 : Int32)) p1.2) (fun p4 =>
    if p4.1 = (0 : Int32) then
      if (0 : Int32) = 0 ∨ (0 : Int32) = 1 then some ((0 : Int32), p4.2) else none
    else
      if (1 : Int32) = 0 ∨ (1 : Int32) = 1 then some ((1 : Int32), p4.2) else none))))
noncomputable def f_Mo_rule (a0 : Nat) (a1 : Int32) (a2 : Int32) (a3 : Int32) (S : zM) : Option (Int32 × zM) :=
  Option.bind (zcl S 12 a0 (f_Mo_fresh a0 S)) (fun p1 =>
  Option.bind (zcl p1 12 a0 (f_Mo_isRule a0 a1 a2 p1)) (fun p2 =>
  if p2.1 = (0 : Int32) then
    Option.bind (zcl p2.2 12 a0 (f_Mo_no a0 (1 : Int32) p2.2)) (fun p3 =>
    some (p3.1, p3.2))
  else
    Option.bind (f_Mo_in a3 (0 : Int32) (4 : Int32) p2.2) (fun p4 =>
    if p4.1 = (0 : Int32) then
      Option.bind (zcl p4.2 12 a0 (f_Mo_no a0 (1 : Int32) p4.2)) (fun p5 =>
      some (p5.1, p5.2))
    else
      if a3 = (4 : Int32) then
        Option.bind (zgr p4.2 12 a0 39) (fun q6 =>
        Option.bind (zga p4.2 102 q6 (((8 : Int32) * a1) + a2)) (fun x7 =>
        if x7 = (0 : Int32) then
          some ((0 : Int32), p4.2)
        else
          some ((1 : Int32), p4.2)))
      else
        Option.bind (zgr p4.2 12 a0 13) (fun q8 =>
        Option.bind (f_Mo_rowOf a1 a2 p4.2) (fun p9 =>
        Option.bind (zga p9.2 100 q8 (p9.1 + a3)) (fun x10 =>
        some (x10, p9.2)))))))
noncomputable def f_Mo_letter (a0 : Nat) (a1 : Int32) (a2 : Int32) (a3 : Int32) (a4 : Int32) (S : zM) : Option (Int32 × zM) :=
  Option.bind (zcl S 12 a0 (f_Mo_fresh a0 S)) (fun p1 =>
  Option.bind (zcl p1 12 a0 (f_Mo_isRule a0 a1 a2 p1)) (fun p2 =>
  if p2.1 = (0 : Int32) then
    Option.bind (zcl p2.2 12 a0 (f_Mo_no a0 (1 : Int32) p2.2)) (fun p3 =>
    some (p3.1, p3.2))
  else
    Option.bind (f_Mo_in a3 (0 : Int32) (1 : Int32) p2.2) (fun p4 =>
    if p4.1 = (0 : Int32) then
      Option.bind (zcl p4.2 12 a0 (f_Mo_no a0 (1 : Int32) p4.2)) (fun p5 =>
      some (p5.1, p5.2))
    else
      Option.bind (zgr p4.2 12 a0 13) (fun q6 =>
      Option.bind (f_Mo_rowOf a1 a2 p4.2) (fun p7 =>
      Option.bind (zga p7.2 100 q6 (p7.1 + a3)) (fun x8 =>
      Option.bind (f_Mo_in a4 (0 : Int32) (x8 - (1 : Int32)) p7.2) (fun p9 =>
      if p9.1 = (0 : Int32) then
        Option.bind (zcl p9.2 12 a0 (f_Mo_no a0 (1 : Int32) p9.2)) (fun p10 =>
        some (p10.1, p10.2))
      else
        Option.bind (zgr p9.2 12 a0 13) (fun q11 =>
        Option.bind (f_Mo_rowOf a1 a2 p9.2) (fun p12 =>
        if a3 = (0 : Int32) then
          Option.bind (zga p12.2 100 q11 ((p12.1 + (4 : Int32)) + a4)) (fun x13 =>
          some (x13, p12.2))
        else
          Option.bind (zga p12.2 100 q11 ((p12.1 + (7 : Int32)) + a4)) (fun x14 =>
          some (x14, p12.2)))))))))))
noncomputable def f_Mo_isState (a0 : Nat) (a1 : Int32) (a2 : Int32) (S : zM) : Option (Int32 × zM) :=
  Option.bind (zcl S 12 a0 (f_Mo_isPass a0 a1 S)) (fun p1 =>
  if p1.1 = (0 : Int32) then
    if (0 : Int32) = 0 ∨ (0 : Int32) = 1 then some ((0 : Int32), p1.2) else none
  else
    Option.bind (zcl p1.2 12 a0 (f_Mo_laysStates a0 a1 p1.2)) (fun p2 =>
    Option.bind (zgf p2 12 a0 31) (fun x3 =>
    Option.bind (f_Mo_in a2 (0 : Int32) (x3 - (1 : Int32)) p2) (fun p4 =>
    if p4.1 = 0 ∨ p4.1 = 1 then some (p4.1, p4.2) else none))))
noncomputable def L_Mo_goes_94 : Nat → Nat → Int32 → Int32 → zM → Option (Int32 × zM)
  | 0, _, _, _, _ => none
  | n + 1, a0, a6, a7, S =>
  Option.bind (zgf S 12 a0 31) (fun x1 =>
  if a7 < x1 then
    Option.bind (zgr S 12 a0 30) (fun q2 =>
    Option.bind (zga S 100 q2 a7) (fun x3 =>
    if x3 = a6 then
      some (a7, S)
    else
      L_Mo_goes_94 n a0 a6 (a7 + (1 : Int32)) S))
  else
    some ((-2 : Int32), S))
noncomputable def f_Mo_goes (a0 : Nat) (a1 : Int32) (a2 : Int32) (a3 : Int32) (S : zM) : Option (Int32 × zM) :=
  Option.bind (zcl S 12 a0 (f_Mo_fresh a0 S)) (fun p1 =>
  Option.bind (zcl p1 12 a0 (f_Mo_isState a0 a1 a2 p1)) (fun p2 =>
  if p2.1 = (0 : Int32) then
    Option.bind (zcl p2.2 12 a0 (f_Mo_no a0 (1 : Int32) p2.2)) (fun p3 =>
    some (p3.1, p3.2))
  else
    Option.bind (f_Mo_in a3 (0 : Int32) (7 : Int32) p2.2) (fun p4 =>
    if p4.1 = (0 : Int32) then
      Option.bind (zcl p4.2 12 a0 (f_Mo_no a0 (1 : Int32) p4.2)) (fun p5 =>
      some (p5.1, p5.2))
    else
      Option.bind (zgr p4.2 12 a0 30) (fun q6 =>
      Option.bind (zga p4.2 100 q6 a2) (fun x7 =>
      if (512 : Int32) = 0 then none else
      if (x7 / (512 : Int32)) = (3 : Int32) then
        some ((-2 : Int32), p4.2)
      else
        if (x7 / (512 : Int32)) = (0 : Int32) then
          Option.bind (zgr p4.2 12 a0 30) (fun q8 =>
          Option.bind (zga p4.2 100 q8 a2) (fun x9 =>
          L_Mo_goes_94 zF a0 ((x9 + (512 : Int32)) + ((64 : Int32) * a3)) (0 : Int32) p4.2))
        else
          if (x7 / (512 : Int32)) = (1 : Int32) then
            Option.bind (zgr p4.2 12 a0 30) (fun q10 =>
            Option.bind (zga p4.2 100 q10 a2) (fun x11 =>
            L_Mo_goes_94 zF a0 ((x11 + (512 : Int32)) + ((8 : Int32) * a3)) (0 : Int32) p4.2))
          else
            Option.bind (zgr p4.2 12 a0 30) (fun q12 =>
            Option.bind (zga p4.2 100 q12 a2) (fun x13 =>
            L_Mo_goes_94 zF a0 ((x13 + (512 : Int32)) + ((1 : Int32) * a3)) (0 : Int32) p4.2)))))))
noncomputable def f_Mo_depth (a0 : Nat) (a1 : Int32) (a2 : Int32) (S : zM) : Option (Int32 × zM) :=
  Option.bind (zcl S 12 a0 (f_Mo_fresh a0 S)) (fun p1 =>
  Option.bind (zcl p1 12 a0 (f_Mo_isState a0 a1 a2 p1)) (fun p2 =>
  if p2.1 = (0 : Int32) then
    Option.bind (zcl p2.2 12 a0 (f_Mo_no a0 (1 : Int32) p2.2)) (fun p3 =>
    some (p3.1, p3.2))
  else
    Option.bind (zgr p2.2 12 a0 30) (fun q4 =>
    Option.bind (zga p2.2 100 q4 a2) (fun x5 =>
    if (512 : Int32) = 0 then none else
    some ((x5 / (512 : Int32)), p2.2)))))
noncomputable def L_Mo_ends_24 : Nat → Nat → Int32 → Int32 → Int32 → Int32 → zM → Option (Int32 × zM)
  | 0, _, _, _, _, _, _ => none
  | n + 1, a0, a1, a2, a3, a4, S =>
  Option.bind (zgr S 12 a0 11) (fun q1 =>
  Option.bind (zga S 100 q1 a1) (fun x2 =>
  if a4 < x2 then
    Option.bind (f_Mo_rowOf a1 a4 S) (fun p3 =>
    Option.bind (zgr p3.2 12 a0 13) (fun q4 =>
    Option.bind (zga p3.2 100 q4 (p3.1 + (0 : Int32))) (fun x5 =>
    Option.bind (zcl p3.2 12 a0 (f_Mo_beginning a0 p3.1 x5 p3.2)) (fun p6 =>
    Option.bind (zgr p6.2 12 a0 30) (fun q7 =>
    Option.bind (zga p6.2 100 q7 a2) (fun x8 =>
    if p6.1 = x8 then
      L_Mo_ends_24 n a0 a1 a2 (a3 ||| ((1 : Int32) <<< (a4 &&& 31))) (a4 + (1 : Int32)) p6.2
    else
      L_Mo_ends_24 n a0 a1 a2 (a3 ||| (0 : Int32)) (a4 + (1 : Int32)) p6.2))))))
  else
    some (a3, S)))
noncomputable def f_Mo_ends (a0 : Nat) (a1 : Int32) (a2 : Int32) (S : zM) : Option (Int32 × zM) :=
  Option.bind (zcl S 12 a0 (f_Mo_fresh a0 S)) (fun p1 =>
  Option.bind (zcl p1 12 a0 (f_Mo_isState a0 a1 a2 p1)) (fun p2 =>
  if p2.1 = (0 : Int32) then
    Option.bind (zcl p2.2 12 a0 (f_Mo_no a0 (1 : Int32) p2.2)) (fun p3 =>
    some (p3.1, p3.2))
  else
    L_Mo_ends_24 zF a0 a1 a2 (0 : Int32) (0 : Int32) p2.2))
noncomputable def L_Mo_isTurned_2 : Nat → Nat → Int32 → Int32 → Int32 → zM → Option (Int32 × zM)
  | 0, _, _, _, _, _ => none
  | n + 1, a0, a1, a2, a3, S =>
  Option.bind (zgr S 12 a0 11) (fun q1 =>
  Option.bind (zga S 100 q1 a1) (fun x2 =>
  if a3 < x2 then
    Option.bind (f_Mo_rowOf a1 a3 S) (fun p3 =>
    Option.bind (zgr p3.2 12 a0 39) (fun q4 =>
    Option.bind (zga p3.2 102 q4 (((8 : Int32) * a1) + a3)) (fun x5 =>
    if x5 = (0 : Int32) then
      Option.bind (zgr p3.2 12 a0 13) (fun q6 =>
      Option.bind (zga p3.2 100 q6 (p3.1 + (0 : Int32))) (fun x7 =>
      if x7 = (1 : Int32) then
        Option.bind (zgr p3.2 12 a0 13) (fun q8 =>
        Option.bind (zga p3.2 100 q8 (p3.1 + (4 : Int32))) (fun x9 =>
        if x9 = a2 then
          Option.bind (zgr p3.2 12 a0 13) (fun q10 =>
          Option.bind (zga p3.2 100 q10 (p3.1 + (2 : Int32))) (fun x11 =>
          if x11 = (511 : Int32) then
            Option.bind (zgr p3.2 12 a0 13) (fun q12 =>
            Option.bind (zga p3.2 100 q12 (p3.1 + (3 : Int32))) (fun x13 =>
            if x13 = (511 : Int32) then
              if (1 : Int32) = 0 ∨ (1 : Int32) = 1 then some ((1 : Int32), p3.2) else none
            else
              L_Mo_isTurned_2 n a0 a1 a2 (a3 + (1 : Int32)) p3.2))
          else
            L_Mo_isTurned_2 n a0 a1 a2 (a3 + (1 : Int32)) p3.2))
        else
          L_Mo_isTurned_2 n a0 a1 a2 (a3 + (1 : Int32)) p3.2))
      else
        L_Mo_isTurned_2 n a0 a1 a2 (a3 + (1 : Int32)) p3.2))
    else
      L_Mo_isTurned_2 n a0 a1 a2 (a3 + (1 : Int32)) p3.2)))
  else
    if (0 : Int32) = 0 ∨ (0 : Int32) = 1 then some ((0 : Int32), S) else none))
noncomputable def f_Mo_isTurned (a0 : Nat) (a1 : Int32) (a2 : Int32) (S : zM) : Option (Int32 × zM) :=
  L_Mo_isTurned_2 zF a0 a1 a2 (0 : Int32) S
noncomputable def L_Mo_laysPieces_121 : Nat → Nat → Int32 → Int32 → zM → Option zM
  | 0, _, _, _, _ => none
  | n + 1, a0, a1, a2, S =>
  if a2 < (8 : Int32) then
    Option.bind (zcl S 12 a0 (f_Mo_isTurned a0 a1 a2 S)) (fun p1 =>
    if p1.1 = (0 : Int32) then
      Option.bind (zgr p1.2 12 a0 32) (fun q2 =>
      Option.bind (zgf p1.2 12 a0 35) (fun x3 =>
      Option.bind (zpa p1.2 q2 x3 ((8 : Int32) + a2)) (fun S4 =>
      Option.bind (zgr S4 12 a0 33) (fun q5 =>
      Option.bind (zgf S4 12 a0 35) (fun x6 =>
      Option.bind (zpa S4 q5 x6 (1 : Int32)) (fun S7 =>
      Option.bind (zgr S7 12 a0 34) (fun q8 =>
      Option.bind (zgf S7 12 a0 35) (fun x9 =>
      Option.bind (zpa S7 q8 ((4 : Int32) * x9) a2) (fun S10 =>
      Option.bind (zgf S10 12 a0 35) (fun x11 =>
      Option.bind (zpf S10 12 a0 35 (x11 + (1 : Int32))) (fun S12 =>
      L_Mo_laysPieces_121 n a0 a1 (a2 + (1 : Int32)) S12)))))))))))
    else
      L_Mo_laysPieces_121 n a0 a1 (a2 + (1 : Int32)) p1.2)
  else
    some S
noncomputable def F_Mo_laysPieces_119 (k121 : Nat → Int32 → Int32 → zM → Option zM) (a0 : Nat) (a1 : Int32) (S : zM) : Option zM :=
  k121 a0 a1 (0 : Int32) S
noncomputable def F_Mo_laysPieces_103 (k7 : Nat → Int32 → Int32 → zM → Option zM) (a0 : Nat) (a1 : Int32) (a2 : Int32) (S : zM) : Option zM :=
  Option.bind (zgf S 12 a0 35) (fun x1 =>
  Option.bind (zpf S 12 a0 35 (x1 + (1 : Int32))) (fun S2 =>
  k7 a0 a1 (a2 + (1 : Int32)) S2))
noncomputable def L_Mo_laysPieces_64 (k103 : Nat → Int32 → Int32 → zM → Option zM) : Nat → Nat → Int32 → Int32 → Int32 → zM → Option zM
  | 0, _, _, _, _, _ => none
  | n + 1, a0, a1, a2, a3, S =>
  if a3 < (4 : Int32) then
    Option.bind (zgr S 12 a0 34) (fun q1 =>
    Option.bind (zgf S 12 a0 35) (fun x2 =>
    Option.bind (zgr S 12 a0 13) (fun q3 =>
    Option.bind (f_Mo_rowOf a1 a2 S) (fun p4 =>
    Option.bind (zga p4.2 100 q3 ((p4.1 + (7 : Int32)) + a3)) (fun x5 =>
    Option.bind (zpa p4.2 q1 (((4 : Int32) * x2) + a3) x5) (fun S6 =>
    L_Mo_laysPieces_64 k103 n a0 a1 a2 (a3 + (1 : Int32)) S6))))))
  else
    k103 a0 a1 a2 S
noncomputable def L_Mo_laysPieces_7 (k119 : Nat → Int32 → zM → Option zM) : Nat → Nat → Int32 → Int32 → zM → Option zM
  | 0, _, _, _, _ => none
  | n + 1, a0, a1, a2, S =>
  Option.bind (zgr S 12 a0 11) (fun q1 =>
  Option.bind (zga S 100 q1 a1) (fun x2 =>
  if a2 < x2 then
    Option.bind (zgr S 12 a0 39) (fun q3 =>
    Option.bind (zga S 102 q3 (((8 : Int32) * a1) + a2)) (fun x4 =>
    if x4 = (0 : Int32) then
      Option.bind (zgr S 12 a0 32) (fun q5 =>
      Option.bind (zgf S 12 a0 35) (fun x6 =>
      Option.bind (zpa S q5 x6 a2) (fun S7 =>
      Option.bind (zgr S7 12 a0 33) (fun q8 =>
      Option.bind (zgf S7 12 a0 35) (fun x9 =>
      Option.bind (zgr S7 12 a0 13) (fun q10 =>
      Option.bind (f_Mo_rowOf a1 a2 S7) (fun p11 =>
      Option.bind (zga p11.2 100 q10 (p11.1 + (1 : Int32))) (fun x12 =>
      Option.bind (zpa p11.2 q8 x9 x12) (fun S13 =>
      (L_Mo_laysPieces_64 (F_Mo_laysPieces_103 (L_Mo_laysPieces_7 k119 n)) zF) a0 a1 a2 (0 : Int32) S13)))))))))
    else
      L_Mo_laysPieces_7 k119 n a0 a1 (a2 + (1 : Int32)) S))
  else
    k119 a0 a1 S))
noncomputable def f_Mo_laysPieces (a0 : Nat) (a1 : Int32) (S : zM) : Option zM :=
  Option.bind (zpf S 12 a0 35 (0 : Int32)) (fun S1 =>
  L_Mo_laysPieces_7 (F_Mo_laysPieces_119 (L_Mo_laysPieces_121 zF)) zF a0 a1 (0 : Int32) S1)
noncomputable def f_Mo_pieces (a0 : Nat) (a1 : Int32) (S : zM) : Option (Int32 × zM) :=
  Option.bind (zcl S 12 a0 (f_Mo_fresh a0 S)) (fun p1 =>
  Option.bind (zcl p1 12 a0 (f_Mo_isPass a0 a1 p1)) (fun p2 =>
  if p2.1 = (0 : Int32) then
    Option.bind (zcl p2.2 12 a0 (f_Mo_no a0 (1 : Int32) p2.2)) (fun p3 =>
    some (p3.1, p3.2))
  else
    Option.bind (zcl p2.2 12 a0 (f_Mo_laysPieces a0 a1 p2.2)) (fun p4 =>
    Option.bind (zgf p4 12 a0 35) (fun x5 =>
    some (x5, p4)))))
noncomputable def f_Mo_piece (a0 : Nat) (a1 : Int32) (a2 : Int32) (S : zM) : Option (Int32 × zM) :=
  Option.bind (zcl S 12 a0 (f_Mo_fresh a0 S)) (fun p1 =>
  Option.bind (zcl p1 12 a0 (f_Mo_isPass a0 a1 p1)) (fun p2 =>
  if p2.1 = (0 : Int32) then
    Option.bind (zcl p2.2 12 a0 (f_Mo_no a0 (1 : Int32) p2.2)) (fun p3 =>
    some (p3.1, p3.2))
  else
    Option.bind (zcl p2.2 12 a0 (f_Mo_laysPieces a0 a1 p2.2)) (fun p4 =>
    Option.bind (zgf p4 12 a0 35) (fun x5 =>
    Option.bind (f_Mo_in a2 (0 : Int32) (x5 - (1 : Int32)) p4) (fun p6 =>
    if p6.1 = (0 : Int32) then
      Option.bind (zcl p6.2 12 a0 (f_Mo_no a0 (1 : Int32) p6.2)) (fun p7 =>
      some (p7.1, p7.2))
    else
      Option.bind (zgr p6.2 12 a0 32) (fun q8 =>
      Option.bind (zga p6.2 100 q8 a2) (fun x9 =>
      some (x9, p6.2))))))))
noncomputable def L_Mo_areOne_45 : Nat → Nat → Int32 → Int32 → Int32 → Int32 → Int32 → Int32 → zM → Option (Int32 × zM)
  | 0, _, _, _, _, _, _, _, _ => none
  | n + 1, a0, a1, a2, a3, a4, a5, a6, S =>
  if a6 < a5 then
    Option.bind (zgr S 12 a0 34) (fun q1 =>
    Option.bind (zga S 100 q1 ((((4 : Int32) * a1) + a2) + a6)) (fun x2 =>
    Option.bind (zgr S 12 a0 34) (fun q3 =>
    Option.bind (zga S 100 q3 ((((4 : Int32) * a3) + a4) + a6)) (fun x4 =>
    if x2 = x4 then
      L_Mo_areOne_45 n a0 a1 a2 a3 a4 a5 (a6 + (1 : Int32)) S
    else
      if (0 : Int32) = 0 ∨ (0 : Int32) = 1 then some ((0 : Int32), S) else none))))
  else
    if (1 : Int32) = 0 ∨ (1 : Int32) = 1 then some ((1 : Int32), S) else none
noncomputable def f_Mo_areOne (a0 : Nat) (a1 : Int32) (a2 : Int32) (a3 : Int32) (a4 : Int32) (S : zM) : Option (Int32 × zM) :=
  Option.bind (zgr S 12 a0 33) (fun q1 =>
  Option.bind (zga S 100 q1 a1) (fun x2 =>
  Option.bind (zgr S 12 a0 33) (fun q3 =>
  Option.bind (zga S 100 q3 a3) (fun x4 =>
  if (x2 - a2) < (x4 - a4) then
    Option.bind (zgr S 12 a0 33) (fun q5 =>
    Option.bind (zga S 100 q5 a1) (fun x6 =>
    L_Mo_areOne_45 zF a0 a1 a2 a3 a4 (x6 - a2) (0 : Int32) S))
  else
    Option.bind (zgr S 12 a0 33) (fun q7 =>
    Option.bind (zga S 100 q7 a3) (fun x8 =>
    L_Mo_areOne_45 zF a0 a1 a2 a3 a4 (x8 - a4) (0 : Int32) S))))))
noncomputable def f_Mo_isReached (a0 : Nat) (a1 : Int32) (a2 : Int32) (a3 : Int32) (S : zM) : Option zM :=
  Option.bind (zgr S 12 a0 36) (fun q1 =>
  Option.bind (zgr S 12 a0 36) (fun q2 =>
  Option.bind (zga S 100 q2 (((5 : Int32) * a1) + a2)) (fun x3 =>
  if a3 < x3 then
    Option.bind (zpa S q1 (((5 : Int32) * a1) + a2) a3) (fun S4 =>
    some S4)
  else
    Option.bind (zgr S 12 a0 36) (fun q5 =>
    Option.bind (zga S 100 q5 (((5 : Int32) * a1) + a2)) (fun x6 =>
    Option.bind (zpa S q1 (((5 : Int32) * a1) + a2) x6) (fun S7 =>
    some S7))))))
noncomputable def L_Mo_nearest_4 : Nat → Nat → Int32 → Int32 → zM → Option (Int32 × zM)
  | 0, _, _, _, _ => none
  | n + 1, a0, a1, a2, S =>
  if a2 < (80 : Int32) then
    Option.bind (zgr S 12 a0 37) (fun q1 =>
    Option.bind (zga S 102 q1 a2) (fun x2 =>
    if x2 = (0 : Int32) then
      Option.bind (zgr S 12 a0 36) (fun q3 =>
      Option.bind (zga S 100 q3 a2) (fun x4 =>
      if x4 < (1000000 : Int32) then
        if a1 = (-1 : Int32) then
          L_Mo_nearest_4 n a0 a2 (a2 + (1 : Int32)) S
        else
          Option.bind (zgr S 12 a0 36) (fun q5 =>
          Option.bind (zga S 100 q5 a2) (fun x6 =>
          Option.bind (zgr S 12 a0 36) (fun q7 =>
          Option.bind (zga S 100 q7 a1) (fun x8 =>
          if x6 < x8 then
            L_Mo_nearest_4 n a0 a2 (a2 + (1 : Int32)) S
          else
            L_Mo_nearest_4 n a0 a1 (a2 + (1 : Int32)) S))))
      else
        L_Mo_nearest_4 n a0 a1 (a2 + (1 : Int32)) S))
    else
      L_Mo_nearest_4 n a0 a1 (a2 + (1 : Int32)) S))
  else
    some (a1, S)
noncomputable def f_Mo_nearest (a0 : Nat) (S : zM) : Option (Int32 × zM) :=
  L_Mo_nearest_4 zF a0 (-1 : Int32) (0 : Int32) S
noncomputable def L_Mo_goesFrom_13 : Nat → Nat → Int32 → Int32 → Int32 → Int32 → Int32 → zM → Option zM
  | 0, _, _, _, _, _, _, _ => none
  | n + 1, a0, a1, a2, a3, a4, a5, S =>
  Option.bind (zgf S 12 a0 35) (fun x1 =>
  if a5 < x1 then
    Option.bind (zcl S 12 a0 (f_Mo_areOne a0 a1 a2 a5 (0 : Int32) S)) (fun p2 =>
    if p2.1 = (0 : Int32) then
      L_Mo_goesFrom_13 n a0 a1 a2 a3 a4 (a5 + (1 : Int32)) p2.2
    else
      Option.bind (zgr p2.2 12 a0 33) (fun q3 =>
      Option.bind (zga p2.2 100 q3 a5) (fun x4 =>
      if x4 ≤ a4 then
        Option.bind (zgr p2.2 12 a0 33) (fun q5 =>
        Option.bind (zga p2.2 100 q5 a5) (fun x6 =>
        Option.bind (zcl p2.2 12 a0 (f_Mo_isReached a0 a1 (a2 + x6) a3 p2.2)) (fun p7 =>
        L_Mo_goesFrom_13 n a0 a1 a2 a3 a4 (a5 + (1 : Int32)) p7)))
      else
        Option.bind (zgr p2.2 12 a0 33) (fun q8 =>
        Option.bind (zga p2.2 100 q8 a5) (fun x9 =>
        Option.bind (zcl p2.2 12 a0 (f_Mo_isReached a0 a5 a4 ((a3 + x9) - a4) p2.2)) (fun p10 =>
        L_Mo_goesFrom_13 n a0 a1 a2 a3 a4 (a5 + (1 : Int32)) p10))))))
  else
    some S)
noncomputable def f_Mo_goesFrom (a0 : Nat) (a1 : Int32) (a2 : Int32) (a3 : Int32) (S : zM) : Option zM :=
  Option.bind (zgr S 12 a0 33) (fun q1 =>
  Option.bind (zga S 100 q1 a1) (fun x2 =>
  L_Mo_goesFrom_13 zF a0 a1 a2 a3 (x2 - a2) (0 : Int32) S))
noncomputable def L_Mo_unclearOf_126 : Nat → Nat → Int32 → zM → Option (Int32 × zM)
  | 0, _, _, _ => none
  | n + 1, a0, a1, S =>
  if a1 = (-1 : Int32) then
    some ((-2 : Int32), S)
  else
    Option.bind (zgr S 12 a0 37) (fun q1 =>
    Option.bind (zpb S q1 a1 (1 : Int32)) (fun S2 =>
    if (5 : Int32) = 0 then none else
    if (5 : Int32) = 0 then none else
    Option.bind (zgr S2 12 a0 33) (fun q3 =>
    Option.bind (zga S2 100 q3 (a1 / (5 : Int32))) (fun x4 =>
    if (a1 - a1 / (5 : Int32) * (5 : Int32)) = x4 then
      Option.bind (zgr S2 12 a0 36) (fun q5 =>
      Option.bind (zga S2 100 q5 a1) (fun x6 =>
      some (x6, S2)))
    else
      Option.bind (zgr S2 12 a0 36) (fun q7 =>
      Option.bind (zga S2 100 q7 a1) (fun x8 =>
      Option.bind (zcl S2 12 a0 (f_Mo_goesFrom a0 (a1 / (5 : Int32)) (a1 - a1 / (5 : Int32) * (5 : Int32)) x8 S2)) (fun p9 =>
      Option.bind (zcl p9 12 a0 (f_Mo_nearest a0 p9)) (fun p10 =>
      L_Mo_unclearOf_126 n a0 p10.1 p10.2))))))))
noncomputable def F_Mo_unclearOf_121 (k126 : Nat → Int32 → zM → Option (Int32 × zM)) (a0 : Nat) (S : zM) : Option (Int32 × zM) :=
  Option.bind (zcl S 12 a0 (f_Mo_nearest a0 S)) (fun p1 =>
  k126 a0 p1.1 p1.2)
noncomputable def F_Mo_unclearOf_115 (k32 : Nat → Int32 → zM → Option (Int32 × zM)) (a0 : Nat) (a1 : Int32) (S : zM) : Option (Int32 × zM) :=
  k32 a0 (a1 + (1 : Int32)) S
noncomputable def L_Mo_unclearOf_53 (k115 : Nat → Int32 → zM → Option (Int32 × zM)) : Nat → Nat → Int32 → Int32 → zM → Option (Int32 × zM)
  | 0, _, _, _, _ => none
  | n + 1, a0, a1, a2, S =>
  Option.bind (zgf S 12 a0 35) (fun x1 =>
  if a2 < x1 then
    if a1 = a2 then
      L_Mo_unclearOf_53 k115 n a0 a1 (a2 + (1 : Int32)) S
    else
      Option.bind (zgr S 12 a0 33) (fun q2 =>
      Option.bind (zga S 100 q2 a2) (fun x3 =>
      Option.bind (zgr S 12 a0 33) (fun q4 =>
      Option.bind (zga S 100 q4 a1) (fun x5 =>
      if x3 ≤ x5 then
        Option.bind (zcl S 12 a0 (f_Mo_areOne a0 a1 (0 : Int32) a2 (0 : Int32) S)) (fun p6 =>
        if p6.1 = (0 : Int32) then
          L_Mo_unclearOf_53 k115 n a0 a1 (a2 + (1 : Int32)) p6.2
        else
          Option.bind (zgr p6.2 12 a0 33) (fun q7 =>
          Option.bind (zga p6.2 100 q7 a2) (fun x8 =>
          Option.bind (zgr p6.2 12 a0 33) (fun q9 =>
          Option.bind (zga p6.2 100 q9 a1) (fun x10 =>
          Option.bind (zcl p6.2 12 a0 (f_Mo_isReached a0 a1 x8 x10 p6.2)) (fun p11 =>
          L_Mo_unclearOf_53 k115 n a0 a1 (a2 + (1 : Int32)) p11))))))
      else
        L_Mo_unclearOf_53 k115 n a0 a1 (a2 + (1 : Int32)) S))))
  else
    k115 a0 a1 S)
noncomputable def L_Mo_unclearOf_32 (k121 : Nat → zM → Option (Int32 × zM)) : Nat → Nat → Int32 → zM → Option (Int32 × zM)
  | 0, _, _, _ => none
  | n + 1, a0, a1, S =>
  Option.bind (zgf S 12 a0 35) (fun x1 =>
  if a1 < x1 then
    Option.bind (zgr S 12 a0 33) (fun q2 =>
    Option.bind (zga S 100 q2 a1) (fun x3 =>
    if x3 = (0 : Int32) then
      some ((0 : Int32), S)
    else
      (L_Mo_unclearOf_53 (F_Mo_unclearOf_115 (L_Mo_unclearOf_32 k121 n)) zF) a0 a1 (0 : Int32) S))
  else
    k121 a0 S)
noncomputable def F_Mo_unclearOf_30 (k32 : Nat → Int32 → zM → Option (Int32 × zM)) (a0 : Nat) (S : zM) : Option (Int32 × zM) :=
  k32 a0 (0 : Int32) S
noncomputable def L_Mo_unclearOf_2 (k30 : Nat → zM → Option (Int32 × zM)) : Nat → Nat → Int32 → zM → Option (Int32 × zM)
  | 0, _, _, _ => none
  | n + 1, a0, a1, S =>
  if a1 < (80 : Int32) then
    Option.bind (zgr S 12 a0 36) (fun q1 =>
    Option.bind (zpa S q1 a1 (1000000 : Int32)) (fun S2 =>
    Option.bind (zgr S2 12 a0 37) (fun q3 =>
    Option.bind (zpb S2 q3 a1 (0 : Int32)) (fun S4 =>
    L_Mo_unclearOf_2 k30 n a0 (a1 + (1 : Int32)) S4))))
  else
    k30 a0 S
noncomputable def f_Mo_unclearOf (a0 : Nat) (S : zM) : Option (Int32 × zM) :=
  L_Mo_unclearOf_2 (F_Mo_unclearOf_30 (L_Mo_unclearOf_32 (F_Mo_unclearOf_121 (L_Mo_unclearOf_126 zF)) zF)) zF a0 (0 : Int32) S
noncomputable def f_Mo_clear (a0 : Nat) (a1 : Int32) (S : zM) : Option (Int32 × zM) :=
  Option.bind (zcl S 12 a0 (f_Mo_fresh a0 S)) (fun p1 =>
  Option.bind (zcl p1 12 a0 (f_Mo_isPass a0 a1 p1)) (fun p2 =>
  if p2.1 = (0 : Int32) then
    Option.bind (zcl p2.2 12 a0 (f_Mo_no a0 (1 : Int32) p2.2)) (fun p3 =>
    some (p3.1, p3.2))
  else
    Option.bind (zcl p2.2 12 a0 (f_Mo_laysPieces a0 a1 p2.2)) (fun p4 =>
    Option.bind (zcl p4 12 a0 (f_Mo_unclearOf a0 p4)) (fun p5 =>
    if p5.1 = (-2 : Int32) then
      some ((1 : Int32), p5.2)
    else
      some ((0 : Int32), p5.2)))))
noncomputable def f_Mo_unclear (a0 : Nat) (a1 : Int32) (S : zM) : Option (Int32 × zM) :=
  Option.bind (zcl S 12 a0 (f_Mo_fresh a0 S)) (fun p1 =>
  Option.bind (zcl p1 12 a0 (f_Mo_isPass a0 a1 p1)) (fun p2 =>
  if p2.1 = (0 : Int32) then
    Option.bind (zcl p2.2 12 a0 (f_Mo_no a0 (1 : Int32) p2.2)) (fun p3 =>
    some (p3.1, p3.2))
  else
    Option.bind (zcl p2.2 12 a0 (f_Mo_laysPieces a0 a1 p2.2)) (fun p4 =>
    Option.bind (zcl p4 12 a0 (f_Mo_unclearOf a0 p4)) (fun p5 =>
    some (p5.1, p5.2)))))
noncomputable def L_Mo_laysLetters_39 : Nat → Nat → Int64 → Int32 → Int32 → zM → Option (Int32 × zM)
  | 0, _, _, _, _, _ => none
  | n + 1, a0, a1, a3, a4, S =>
  if a4 < a3 then
    Option.bind (f_Mo_in (((a1 >>> ((((8 : Int32) * ((a3 - (1 : Int32)) - a4))).toInt64 &&& 63)) &&& (255 : Int64))).toInt32 (97 : Int32) (104 : Int32) S) (fun p1 =>
    if p1.1 = (0 : Int32) then
      if (0 : Int32) = 0 ∨ (0 : Int32) = 1 then some ((0 : Int32), p1.2) else none
    else
      Option.bind (zgr p1.2 12 a0 40) (fun q2 =>
      Option.bind (zpa p1.2 q2 a4 ((((a1 >>> ((((8 : Int32) * ((a3 - (1 : Int32)) - a4))).toInt64 &&& 63)) &&& (255 : Int64))).toInt32 - (97 : Int32))) (fun S3 =>
      L_Mo_laysLetters_39 n a0 a1 a3 (a4 + (1 : Int32)) S3)))
  else
    if a3 ≤ (0 : Int32) then
      if (0 : Int32) = 0 ∨ (0 : Int32) = 1 then some ((0 : Int32), S) else none
    else
      if (1 : Int32) = 0 ∨ (1 : Int32) = 1 then some ((1 : Int32), S) else none
noncomputable def F_Mo_laysLetters_31 (k39 : Nat → Int64 → Int32 → Int32 → zM → Option (Int32 × zM)) (a0 : Nat) (a1 : Int64) (a3 : Int32) (S : zM) : Option (Int32 × zM) :=
  Option.bind (zpf S 12 a0 41 a3) (fun S1 =>
  k39 a0 a1 a3 (0 : Int32) S1)
noncomputable def L_Mo_laysLetters_3 (k31 : Nat → Int64 → Int32 → zM → Option (Int32 × zM)) : Nat → Nat → Int64 → Int32 → zM → Option (Int32 × zM)
  | 0, _, _, _, _ => none
  | n + 1, a0, a1, a3, S =>
  if a3 ≤ (0 : Int32) then
    k31 a0 a1 a3 S
  else
    if (lg_cmp ((a1 >>> (((((8 : Int32) * a3) - (8 : Int32))).toInt64 &&& 63)) &&& (255 : Int64)) (0 : Int64)) = (0 : Int32) then
      L_Mo_laysLetters_3 k31 n a0 a1 (a3 + (-1 : Int32)) S
    else
      k31 a0 a1 a3 S
noncomputable def f_Mo_laysLetters (a0 : Nat) (a1 : Int64) (S : zM) : Option (Int32 × zM) :=
  L_Mo_laysLetters_3 (F_Mo_laysLetters_31 (L_Mo_laysLetters_39 zF)) zF a0 a1 (8 : Int32) S
noncomputable def L_Mo_isPieceAt_28 : Nat → Nat → Int32 → Int32 → Int32 → zM → Option (Int32 × zM)
  | 0, _, _, _, _, _ => none
  | n + 1, a0, a1, a2, a3, S =>
  Option.bind (zgr S 12 a0 33) (fun q1 =>
  Option.bind (zga S 100 q1 a1) (fun x2 =>
  if a3 < x2 then
    Option.bind (zgr S 12 a0 40) (fun q3 =>
    Option.bind (zga S 100 q3 (a2 + a3)) (fun x4 =>
    Option.bind (zgr S 12 a0 34) (fun q5 =>
    Option.bind (zga S 100 q5 (((4 : Int32) * a1) + a3)) (fun x6 =>
    if x4 = x6 then
      L_Mo_isPieceAt_28 n a0 a1 a2 (a3 + (1 : Int32)) S
    else
      if (0 : Int32) = 0 ∨ (0 : Int32) = 1 then some ((0 : Int32), S) else none))))
  else
    if (1 : Int32) = 0 ∨ (1 : Int32) = 1 then some ((1 : Int32), S) else none))
noncomputable def f_Mo_isPieceAt (a0 : Nat) (a1 : Int32) (a2 : Int32) (S : zM) : Option (Int32 × zM) :=
  Option.bind (zgr S 12 a0 33) (fun q1 =>
  Option.bind (zga S 100 q1 a1) (fun x2 =>
  if x2 = (0 : Int32) then
    if (0 : Int32) = 0 ∨ (0 : Int32) = 1 then some ((0 : Int32), S) else none
  else
    Option.bind (zgr S 12 a0 33) (fun q3 =>
    Option.bind (zga S 100 q3 a1) (fun x4 =>
    Option.bind (zgf S 12 a0 41) (fun x5 =>
    if (a2 + x4) ≤ x5 then
      L_Mo_isPieceAt_28 zF a0 a1 a2 (0 : Int32) S
    else
      if (0 : Int32) = 0 ∨ (0 : Int32) = 1 then some ((0 : Int32), S) else none)))))
noncomputable def F_Mo_laysReadings_84 (k22 : Nat → Int32 → zM → Option zM) (a0 : Nat) (a2 : Int32) (S : zM) : Option zM :=
  k22 a0 (a2 + (-1 : Int32)) S
noncomputable def L_Mo_laysReadings_35 (k84 : Nat → Int32 → zM → Option zM) : Nat → Nat → Int32 → Int32 → zM → Option zM
  | 0, _, _, _, _ => none
  | n + 1, a0, a2, a3, S =>
  Option.bind (zgf S 12 a0 35) (fun x1 =>
  if a3 < x1 then
    Option.bind (zgr S 12 a0 38) (fun q2 =>
    Option.bind (zga S 100 q2 a2) (fun x3 =>
    Option.bind (zcl S 12 a0 (f_Mo_isPieceAt a0 a3 a2 S)) (fun p4 =>
    if p4.1 = (0 : Int32) then
      Option.bind (zpa p4.2 q2 a2 (x3 + (0 : Int32))) (fun S5 =>
      L_Mo_laysReadings_35 k84 n a0 a2 (a3 + (1 : Int32)) S5)
    else
      Option.bind (zgr p4.2 12 a0 38) (fun q6 =>
      Option.bind (zgr p4.2 12 a0 33) (fun q7 =>
      Option.bind (zga p4.2 100 q7 a3) (fun x8 =>
      Option.bind (zga p4.2 100 q6 (a2 + x8)) (fun x9 =>
      Option.bind (zpa p4.2 q2 a2 (x3 + x9)) (fun S10 =>
      L_Mo_laysReadings_35 k84 n a0 a2 (a3 + (1 : Int32)) S10))))))))
  else
    k84 a0 a2 S)
noncomputable def L_Mo_laysReadings_22 : Nat → Nat → Int32 → zM → Option zM
  | 0, _, _, _ => none
  | n + 1, a0, a2, S =>
  if a2 < (0 : Int32) then
    some S
  else
    Option.bind (zgr S 12 a0 38) (fun q1 =>
    Option.bind (zpa S q1 a2 (0 : Int32)) (fun S2 =>
    (L_Mo_laysReadings_35 (F_Mo_laysReadings_84 (L_Mo_laysReadings_22 n)) zF) a0 a2 (0 : Int32) S2))
noncomputable def f_Mo_laysReadings (a0 : Nat) (a1 : Int32) (S : zM) : Option zM :=
  Option.bind (zcl S 12 a0 (f_Mo_laysPieces a0 a1 S)) (fun p1 =>
  Option.bind (zgr p1 12 a0 38) (fun q2 =>
  Option.bind (zgf p1 12 a0 41) (fun x3 =>
  Option.bind (zpa p1 q2 x3 (1 : Int32)) (fun S4 =>
  Option.bind (zgf S4 12 a0 41) (fun x5 =>
  L_Mo_laysReadings_22 zF a0 (x5 - (1 : Int32)) S4)))))
noncomputable def f_Mo_readings (a0 : Nat) (a1 : Int32) (a2 : Int64) (S : zM) : Option (Int32 × zM) :=
  Option.bind (zcl S 12 a0 (f_Mo_fresh a0 S)) (fun p1 =>
  Option.bind (zcl p1 12 a0 (f_Mo_isPass a0 a1 p1)) (fun p2 =>
  if p2.1 = (0 : Int32) then
    Option.bind (zcl p2.2 12 a0 (f_Mo_no a0 (1 : Int32) p2.2)) (fun p3 =>
    some (p3.1, p3.2))
  else
    Option.bind (zcl p2.2 12 a0 (f_Mo_laysLetters a0 a2 p2.2)) (fun p4 =>
    if p4.1 = (0 : Int32) then
      Option.bind (zcl p4.2 12 a0 (f_Mo_no a0 (2 : Int32) p4.2)) (fun p5 =>
      some (p5.1, p5.2))
    else
      Option.bind (zcl p4.2 12 a0 (f_Mo_laysReadings a0 a1 p4.2)) (fun p6 =>
      Option.bind (zgr p6 12 a0 38) (fun q7 =>
      Option.bind (zga p6 100 q7 (0 : Int32)) (fun x8 =>
      some (x8, p6)))))))
noncomputable def L_Mo_firstPiece_2 : Nat → Nat → Int32 → Int32 → zM → Option (Int32 × zM)
  | 0, _, _, _, _ => none
  | n + 1, a0, a1, a2, S =>
  Option.bind (zcl S 12 a0 (f_Mo_isPieceAt a0 a2 a1 S)) (fun p1 =>
  if p1.1 = (0 : Int32) then
    L_Mo_firstPiece_2 n a0 a1 (a2 + (1 : Int32)) p1.2
  else
    Option.bind (zgr p1.2 12 a0 38) (fun q2 =>
    Option.bind (zgr p1.2 12 a0 33) (fun q3 =>
    Option.bind (zga p1.2 100 q3 a2) (fun x4 =>
    Option.bind (zga p1.2 100 q2 (a1 + x4)) (fun x5 =>
    if x5 = (0 : Int32) then
      L_Mo_firstPiece_2 n a0 a1 (a2 + (1 : Int32)) p1.2
    else
      some (a2, p1.2))))))
noncomputable def f_Mo_firstPiece (a0 : Nat) (a1 : Int32) (S : zM) : Option (Int32 × zM) :=
  L_Mo_firstPiece_2 zF a0 a1 (0 : Int32) S
noncomputable def L_Mo_reading_58 : Nat → Nat → Int32 → Int32 → Int32 → zM → Option (Int32 × zM)
  | 0, _, _, _, _, _ => none
  | n + 1, a0, a4, a5, a6, S =>
  Option.bind (zgf S 12 a0 41) (fun x1 =>
  if a6 < x1 then
    Option.bind (zcl S 12 a0 (f_Mo_firstPiece a0 a6 S)) (fun p2 =>
    if a5 = a4 then
      Option.bind (zgr p2.2 12 a0 32) (fun q3 =>
      Option.bind (zga p2.2 100 q3 p2.1) (fun x4 =>
      some (x4, p2.2)))
    else
      Option.bind (zgr p2.2 12 a0 33) (fun q5 =>
      Option.bind (zga p2.2 100 q5 p2.1) (fun x6 =>
      L_Mo_reading_58 n a0 a4 (a5 + (1 : Int32)) (a6 + x6) p2.2)))
  else
    Option.bind (zcl S 12 a0 (f_Mo_no a0 (1 : Int32) S)) (fun p7 =>
    some (p7.1, p7.2)))
noncomputable def f_Mo_reading (a0 : Nat) (a1 : Int32) (a2 : Int64) (a4 : Int32) (S : zM) : Option (Int32 × zM) :=
  Option.bind (zcl S 12 a0 (f_Mo_fresh a0 S)) (fun p1 =>
  Option.bind (zcl p1 12 a0 (f_Mo_isPass a0 a1 p1)) (fun p2 =>
  if p2.1 = (0 : Int32) then
    Option.bind (zcl p2.2 12 a0 (f_Mo_no a0 (1 : Int32) p2.2)) (fun p3 =>
    some (p3.1, p3.2))
  else
    Option.bind (zcl p2.2 12 a0 (f_Mo_laysLetters a0 a2 p2.2)) (fun p4 =>
    if p4.1 = (0 : Int32) then
      Option.bind (zcl p4.2 12 a0 (f_Mo_no a0 (2 : Int32) p4.2)) (fun p5 =>
      some (p5.1, p5.2))
    else
      Option.bind (zcl p4.2 12 a0 (f_Mo_laysReadings a0 a1 p4.2)) (fun p6 =>
      Option.bind (zgr p6 12 a0 38) (fun q7 =>
      Option.bind (zga p6 100 q7 (0 : Int32)) (fun x8 =>
      if x8 = (0 : Int32) then
        Option.bind (zcl p6 12 a0 (f_Mo_no a0 (1 : Int32) p6)) (fun p9 =>
        some (p9.1, p9.2))
      else
        L_Mo_reading_58 zF a0 a4 (0 : Int32) (0 : Int32) p6))))))
noncomputable def L_Mo_sure_19 : Nat → Nat → Int32 → zM → Option (Int32 × zM)
  | 0, _, _, _ => none
  | n + 1, a0, a1, S =>
  Option.bind (zgf S 12 a0 8) (fun x1 =>
  if a1 < x1 then
    Option.bind (zcl S 12 a0 (f_Mo_laysPieces a0 a1 S)) (fun p2 =>
    Option.bind (zgr p2 12 a0 12) (fun q3 =>
    Option.bind (zga p2 102 q3 a1) (fun x4 =>
    if x4 = (0 : Int32) then
      Option.bind (zcl p2 12 a0 (f_Mo_unclearOf a0 p2)) (fun p5 =>
      if p5.1 = (-2 : Int32) then
        L_Mo_sure_19 n a0 (a1 + (1 : Int32)) p5.2
      else
        some ((0 : Int32), p5.2))
    else
      some ((0 : Int32), p2))))
  else
    some ((1 : Int32), S))
noncomputable def f_Mo_sure (a0 : Nat) (S : zM) : Option (Int32 × zM) :=
  Option.bind (zcl S 12 a0 (f_Mo_fresh a0 S)) (fun p1 =>
  Option.bind (zgf p1 12 a0 9) (fun x2 =>
  if x2 = (0 : Int32) then
    Option.bind (zcl p1 12 a0 (f_Mo_no a0 (1 : Int32) p1)) (fun p3 =>
    some (p3.1, p3.2))
  else
    L_Mo_sure_19 zF a0 (0 : Int32) p1))
noncomputable def f_Mo_sideAt (a0 : Nat) (a1 : Int32) (S : zM) : Option (Int32 × zM) :=
  Option.bind (zgf S 12 a0 41) (fun x1 =>
  Option.bind (f_Mo_in a1 (0 : Int32) (x1 - (1 : Int32)) S) (fun p2 =>
  if p2.1 = (0 : Int32) then
    some ((256 : Int32), p2.2)
  else
    Option.bind (zgr p2.2 12 a0 40) (fun q3 =>
    Option.bind (zga p2.2 100 q3 a1) (fun x4 =>
    some (((1 : Int32) <<< (x4 &&& 31)), p2.2)))))
noncomputable def F_Mo_fits_71 (a0 : Nat) (a1 : Int32) (a4 : Int32) (a5 : Int32) (S : zM) : Option (Int32 × zM) :=
  Option.bind (zgr S 12 a0 13) (fun q1 =>
  Option.bind (zga S 100 q1 (a1 + (2 : Int32))) (fun x2 =>
  Option.bind (zcl S 12 a0 (f_Mo_sideAt a0 (a4 - (1 : Int32)) S)) (fun p3 =>
  if (x2 &&& p3.1) = (0 : Int32) then
    if (0 : Int32) = 0 ∨ (0 : Int32) = 1 then some ((0 : Int32), p3.2) else none
  else
    Option.bind (zgr p3.2 12 a0 13) (fun q4 =>
    Option.bind (zga p3.2 100 q4 (a1 + (3 : Int32))) (fun x5 =>
    Option.bind (zcl p3.2 12 a0 (f_Mo_sideAt a0 (a4 + a5) p3.2)) (fun p6 =>
    if (x5 &&& p6.1) = (0 : Int32) then
      if (0 : Int32) = 0 ∨ (0 : Int32) = 1 then some ((0 : Int32), p6.2) else none
    else
      if (1 : Int32) = 0 ∨ (1 : Int32) = 1 then some ((1 : Int32), p6.2) else none))))))
noncomputable def L_Mo_fits_32 (k71 : Nat → Int32 → Int32 → Int32 → zM → Option (Int32 × zM)) : Nat → Nat → Int32 → Int32 → Int32 → Int32 → Int32 → zM → Option (Int32 × zM)
  | 0, _, _, _, _, _, _, _ => none
  | n + 1, a0, a1, a3, a4, a5, a6, S =>
  if a6 < a5 then
    Option.bind (zgr S 12 a0 40) (fun q1 =>
    Option.bind (zga S 100 q1 (a4 + a6)) (fun x2 =>
    Option.bind (zgr S 12 a0 13) (fun q3 =>
    Option.bind (zga S 100 q3 ((a1 + a3) + a6)) (fun x4 =>
    if x2 = x4 then
      L_Mo_fits_32 k71 n a0 a1 a3 a4 a5 (a6 + (1 : Int32)) S
    else
      if (0 : Int32) = 0 ∨ (0 : Int32) = 1 then some ((0 : Int32), S) else none))))
  else
    k71 a0 a1 a4 a5 S
noncomputable def f_Mo_fits (a0 : Nat) (a1 : Int32) (a2 : Int32) (a3 : Int32) (a4 : Int32) (S : zM) : Option (Int32 × zM) :=
  Option.bind (zgr S 12 a0 13) (fun q1 =>
  Option.bind (zga S 100 q1 (a1 + a2)) (fun x2 =>
  if x2 = (0 : Int32) then
    if (0 : Int32) = 0 ∨ (0 : Int32) = 1 then some ((0 : Int32), S) else none
  else
    Option.bind (zgf S 12 a0 41) (fun x3 =>
    if (a4 + x2) ≤ x3 then
      L_Mo_fits_32 (F_Mo_fits_71) zF a0 a1 a3 a4 x2 (0 : Int32) S
    else
      if (0 : Int32) = 0 ∨ (0 : Int32) = 1 then some ((0 : Int32), S) else none)))
noncomputable def L_Mo_serving_6 : Nat → Nat → Int32 → Int32 → Int32 → Int32 → Int32 → Int32 → zM → Option (Int32 × zM)
  | 0, _, _, _, _, _, _, _, _ => none
  | n + 1, a0, a1, a2, a3, a4, a5, a6, S =>
  Option.bind (zgr S 12 a0 11) (fun q1 =>
  Option.bind (zga S 100 q1 a1) (fun x2 =>
  if a6 < x2 then
    Option.bind (f_Mo_rowOf a1 a6 S) (fun p3 =>
    Option.bind (zgr p3.2 12 a0 39) (fun q4 =>
    Option.bind (zga p3.2 102 q4 (((8 : Int32) * a1) + a6)) (fun x5 =>
    if x5 = (0 : Int32) then
      Option.bind (zcl p3.2 12 a0 (f_Mo_fits a0 p3.1 a3 a4 a2 p3.2)) (fun p6 =>
      if p6.1 = (0 : Int32) then
        L_Mo_serving_6 n a0 a1 a2 a3 a4 a5 (a6 + (1 : Int32)) p6.2
      else
        if a5 = (-1 : Int32) then
          L_Mo_serving_6 n a0 a1 a2 a3 a4 a6 (a6 + (1 : Int32)) p6.2
        else
          Option.bind (zgr p6.2 12 a0 13) (fun q7 =>
          Option.bind (zga p6.2 100 q7 (p3.1 + a3)) (fun x8 =>
          Option.bind (zgr p6.2 12 a0 13) (fun q9 =>
          Option.bind (f_Mo_rowOf a1 a5 p6.2) (fun p10 =>
          Option.bind (zga p10.2 100 q9 (p10.1 + a3)) (fun x11 =>
          if x8 ≤ x11 then
            L_Mo_serving_6 n a0 a1 a2 a3 a4 a5 (a6 + (1 : Int32)) p10.2
          else
            L_Mo_serving_6 n a0 a1 a2 a3 a4 a6 (a6 + (1 : Int32)) p10.2))))))
    else
      L_Mo_serving_6 n a0 a1 a2 a3 a4 a5 (a6 + (1 : Int32)) p3.2)))
  else
    some (a5, S)))
noncomputable def f_Mo_serving (a0 : Nat) (a1 : Int32) (a2 : Int32) (a3 : Int32) (a4 : Int32) (S : zM) : Option (Int32 × zM) :=
  L_Mo_serving_6 zF a0 a1 a2 a3 a4 (-1 : Int32) (0 : Int32) S
noncomputable def F_Mo_goesRound_177 (k30 : Nat → Int32 → Int32 → Int32 → Int32 → Int32 → zM → Option (Int32 × zM)) (a0 : Nat) (a1 : Int32) (a2 : Int32) (a3 : Int32) (a4 : Int32) (a5 : Int32) (a6 : Int32) (a7 : Int32) (a8 : Int32) (S : zM) : Option (Int32 × zM) :=
  Option.bind (zgf S 12 a0 43) (fun x1 =>
  Option.bind (zpf S 12 a0 43 (x1 + a8)) (fun S2 =>
  if a6 = (-1 : Int32) then
    if a6 = (-1 : Int32) then
      k30 a0 a1 a2 a3 a4 (a5 + (1 : Int32)) S2
    else
      Option.bind (zgr S2 12 a0 44) (fun q3 =>
      Option.bind (zga S2 100 q3 (((8 : Int32) * a1) + a6)) (fun x4 =>
      Option.bind (zpa S2 q3 (((8 : Int32) * a1) + a6) (x4 + (1 : Int32))) (fun S5 =>
      k30 a0 a1 a2 a3 a4 (a5 + (1 : Int32)) S5)))
  else
    Option.bind (zgr S2 12 a0 13) (fun q6 =>
    Option.bind (zga S2 100 q6 (a7 + a3)) (fun x7 =>
    if a6 = (-1 : Int32) then
      k30 a0 a1 a2 a3 a4 (a5 + x7) S2
    else
      Option.bind (zgr S2 12 a0 44) (fun q8 =>
      Option.bind (zga S2 100 q8 (((8 : Int32) * a1) + a6)) (fun x9 =>
      Option.bind (zpa S2 q8 (((8 : Int32) * a1) + a6) (x9 + (1 : Int32))) (fun S10 =>
      k30 a0 a1 a2 a3 a4 (a5 + x7) S10)))))))
noncomputable def L_Mo_goesRound_115 (k177 : Nat → Int32 → Int32 → Int32 → Int32 → Int32 → Int32 → Int32 → Int32 → zM → Option (Int32 × zM)) : Nat → Nat → Int32 → Int32 → Int32 → Int32 → Int32 → Int32 → Int32 → Int32 → Int32 → zM → Option (Int32 × zM)
  | 0, _, _, _, _, _, _, _, _, _, _, _ => none
  | n + 1, a0, a1, a2, a3, a4, a5, a6, a7, a8, a9, S =>
  if a9 < a8 then
    Option.bind (zgr S 12 a0 42) (fun q1 =>
    Option.bind (zgf S 12 a0 43) (fun x2 =>
    if a6 = (-1 : Int32) then
      Option.bind (zgr S 12 a0 40) (fun q3 =>
      Option.bind (zga S 100 q3 a5) (fun x4 =>
      Option.bind (zpa S q1 (x2 + a9) x4) (fun S5 =>
      L_Mo_goesRound_115 k177 n a0 a1 a2 a3 a4 a5 a6 a7 a8 (a9 + (1 : Int32)) S5)))
    else
      Option.bind (zgr S 12 a0 13) (fun q6 =>
      if a2 = (0 : Int32) then
        Option.bind (zga S 100 q6 ((a7 + (7 : Int32)) + a9)) (fun x7 =>
        Option.bind (zpa S q1 (x2 + a9) x7) (fun S8 =>
        L_Mo_goesRound_115 k177 n a0 a1 a2 a3 a4 a5 a6 a7 a8 (a9 + (1 : Int32)) S8))
      else
        Option.bind (zga S 100 q6 ((a7 + (4 : Int32)) + a9)) (fun x9 =>
        Option.bind (zpa S q1 (x2 + a9) x9) (fun S10 =>
        L_Mo_goesRound_115 k177 n a0 a1 a2 a3 a4 a5 a6 a7 a8 (a9 + (1 : Int32)) S10)))))
  else
    k177 a0 a1 a2 a3 a4 a5 a6 a7 a8 S
noncomputable def L_Mo_goesRound_30 : Nat → Nat → Int32 → Int32 → Int32 → Int32 → Int32 → zM → Option (Int32 × zM)
  | 0, _, _, _, _, _, _, _ => none
  | n + 1, a0, a1, a2, a3, a4, a5, S =>
  Option.bind (zgf S 12 a0 41) (fun x1 =>
  if a5 < x1 then
    Option.bind (zcl S 12 a0 (f_Mo_serving a0 a1 a5 a3 a4 S)) (fun p2 =>
    if p2.1 = (-1 : Int32) then
      Option.bind (f_Mo_rowOf a1 (0 : Int32) p2.2) (fun p3 =>
      if p2.1 = (-1 : Int32) then
        Option.bind (zgf p3.2 12 a0 43) (fun x4 =>
        if (x4 + (1 : Int32)) ≤ (60 : Int32) then
          (L_Mo_goesRound_115 (F_Mo_goesRound_177 (L_Mo_goesRound_30 n)) zF) a0 a1 a2 a3 a4 a5 p2.1 p3.1 (1 : Int32) (0 : Int32) p3.2
        else
          if (0 : Int32) = 0 ∨ (0 : Int32) = 1 then some ((0 : Int32), p3.2) else none)
      else
        Option.bind (zgr p3.2 12 a0 13) (fun q5 =>
        if a2 = (0 : Int32) then
          Option.bind (zga p3.2 100 q5 (p3.1 + (1 : Int32))) (fun x6 =>
          Option.bind (zgf p3.2 12 a0 43) (fun x7 =>
          if (x7 + x6) ≤ (60 : Int32) then
            (L_Mo_goesRound_115 (F_Mo_goesRound_177 (L_Mo_goesRound_30 n)) zF) a0 a1 a2 a3 a4 a5 p2.1 p3.1 x6 (0 : Int32) p3.2
          else
            if (0 : Int32) = 0 ∨ (0 : Int32) = 1 then some ((0 : Int32), p3.2) else none))
        else
          Option.bind (zga p3.2 100 q5 (p3.1 + (0 : Int32))) (fun x8 =>
          Option.bind (zgf p3.2 12 a0 43) (fun x9 =>
          if (x9 + x8) ≤ (60 : Int32) then
            (L_Mo_goesRound_115 (F_Mo_goesRound_177 (L_Mo_goesRound_30 n)) zF) a0 a1 a2 a3 a4 a5 p2.1 p3.1 x8 (0 : Int32) p3.2
          else
            if (0 : Int32) = 0 ∨ (0 : Int32) = 1 then some ((0 : Int32), p3.2) else none))))
    else
      Option.bind (f_Mo_rowOf a1 p2.1 p2.2) (fun p10 =>
      if p2.1 = (-1 : Int32) then
        Option.bind (zgf p10.2 12 a0 43) (fun x11 =>
        if (x11 + (1 : Int32)) ≤ (60 : Int32) then
          (L_Mo_goesRound_115 (F_Mo_goesRound_177 (L_Mo_goesRound_30 n)) zF) a0 a1 a2 a3 a4 a5 p2.1 p10.1 (1 : Int32) (0 : Int32) p10.2
        else
          if (0 : Int32) = 0 ∨ (0 : Int32) = 1 then some ((0 : Int32), p10.2) else none)
      else
        Option.bind (zgr p10.2 12 a0 13) (fun q12 =>
        if a2 = (0 : Int32) then
          Option.bind (zga p10.2 100 q12 (p10.1 + (1 : Int32))) (fun x13 =>
          Option.bind (zgf p10.2 12 a0 43) (fun x14 =>
          if (x14 + x13) ≤ (60 : Int32) then
            (L_Mo_goesRound_115 (F_Mo_goesRound_177 (L_Mo_goesRound_30 n)) zF) a0 a1 a2 a3 a4 a5 p2.1 p10.1 x13 (0 : Int32) p10.2
          else
            if (0 : Int32) = 0 ∨ (0 : Int32) = 1 then some ((0 : Int32), p10.2) else none))
        else
          Option.bind (zga p10.2 100 q12 (p10.1 + (0 : Int32))) (fun x15 =>
          Option.bind (zgf p10.2 12 a0 43) (fun x16 =>
          if (x16 + x15) ≤ (60 : Int32) then
            (L_Mo_goesRound_115 (F_Mo_goesRound_177 (L_Mo_goesRound_30 n)) zF) a0 a1 a2 a3 a4 a5 p2.1 p10.1 x15 (0 : Int32) p10.2
          else
            if (0 : Int32) = 0 ∨ (0 : Int32) = 1 then some ((0 : Int32), p10.2) else none)))))
  else
    if (1 : Int32) = 0 ∨ (1 : Int32) = 1 then some ((1 : Int32), S) else none)
noncomputable def f_Mo_goesRound (a0 : Nat) (a1 : Int32) (a2 : Int32) (S : zM) : Option (Int32 × zM) :=
  if a2 = (0 : Int32) then
    if a2 = (0 : Int32) then
      Option.bind (zpf S 12 a0 43 (0 : Int32)) (fun S1 =>
      L_Mo_goesRound_30 zF a0 a1 a2 (0 : Int32) (4 : Int32) (0 : Int32) S1)
    else
      Option.bind (zpf S 12 a0 43 (0 : Int32)) (fun S2 =>
      L_Mo_goesRound_30 zF a0 a1 a2 (0 : Int32) (7 : Int32) (0 : Int32) S2)
  else
    if a2 = (0 : Int32) then
      Option.bind (zpf S 12 a0 43 (0 : Int32)) (fun S3 =>
      L_Mo_goesRound_30 zF a0 a1 a2 (1 : Int32) (4 : Int32) (0 : Int32) S3)
    else
      Option.bind (zpf S 12 a0 43 (0 : Int32)) (fun S4 =>
      L_Mo_goesRound_30 zF a0 a1 a2 (1 : Int32) (7 : Int32) (0 : Int32) S4)
noncomputable def L_Mo_isChanged_15 : Nat → Nat → Int32 → zM → Option (Int32 × zM)
  | 0, _, _, _ => none
  | n + 1, a0, a1, S =>
  Option.bind (zgf S 12 a0 41) (fun x1 =>
  if a1 < x1 then
    Option.bind (zgr S 12 a0 40) (fun q2 =>
    Option.bind (zga S 100 q2 a1) (fun x3 =>
    Option.bind (zgr S 12 a0 42) (fun q4 =>
    Option.bind (zga S 100 q4 a1) (fun x5 =>
    if x3 = x5 then
      L_Mo_isChanged_15 n a0 (a1 + (1 : Int32)) S
    else
      if (1 : Int32) = 0 ∨ (1 : Int32) = 1 then some ((1 : Int32), S) else none))))
  else
    if (0 : Int32) = 0 ∨ (0 : Int32) = 1 then some ((0 : Int32), S) else none)
noncomputable def f_Mo_isChanged (a0 : Nat) (S : zM) : Option (Int32 × zM) :=
  Option.bind (zgf S 12 a0 41) (fun x1 =>
  Option.bind (zgf S 12 a0 43) (fun x2 =>
  if x1 = x2 then
    L_Mo_isChanged_15 zF a0 (0 : Int32) S
  else
    if (1 : Int32) = 0 ∨ (1 : Int32) = 1 then some ((1 : Int32), S) else none))
noncomputable def L_Mo_comesOut_2 : Nat → Nat → Int32 → zM → Option zM
  | 0, _, _, _ => none
  | n + 1, a0, a1, S =>
  Option.bind (zgf S 12 a0 43) (fun x1 =>
  if a1 < x1 then
    Option.bind (zgr S 12 a0 40) (fun q2 =>
    Option.bind (zgr S 12 a0 42) (fun q3 =>
    Option.bind (zga S 100 q3 a1) (fun x4 =>
    Option.bind (zpa S q2 a1 x4) (fun S5 =>
    L_Mo_comesOut_2 n a0 (a1 + (1 : Int32)) S5))))
  else
    Option.bind (zgf S 12 a0 43) (fun x6 =>
    Option.bind (zpf S 12 a0 41 x6) (fun S7 =>
    some S7)))
noncomputable def f_Mo_comesOut (a0 : Nat) (S : zM) : Option zM :=
  L_Mo_comesOut_2 zF a0 (0 : Int32) S
noncomputable def L_Mo_goesPass_7 : Nat → Nat → Int32 → Int32 → zM → Option (Int32 × zM)
  | 0, _, _, _, _ => none
  | n + 1, a0, a1, a2, S =>
  Option.bind (zcl S 12 a0 (f_Mo_goesRound a0 a1 a2 S)) (fun p1 =>
  if p1.1 = (0 : Int32) then
    some ((6 : Int32), p1.2)
  else
    Option.bind (zgr p1.2 12 a0 45) (fun q2 =>
    Option.bind (zga p1.2 100 q2 a1) (fun x3 =>
    Option.bind (zpa p1.2 q2 a1 (x3 + (1 : Int32))) (fun S4 =>
    Option.bind (zcl S4 12 a0 (f_Mo_isChanged a0 S4)) (fun p5 =>
    Option.bind (zcl p5.2 12 a0 (f_Mo_comesOut a0 p5.2)) (fun p6 =>
    Option.bind (zgr p6 12 a0 12) (fun q7 =>
    Option.bind (zga p6 102 q7 a1) (fun x8 =>
    if x8 = (0 : Int32) then
      some ((0 : Int32), p6)
    else
      if p5.1 = (0 : Int32) then
        some ((0 : Int32), p6)
      else
        Option.bind (zgr p6 12 a0 45) (fun q9 =>
        Option.bind (zga p6 100 q9 a1) (fun x10 =>
        if x10 = (20 : Int32) then
          some ((7 : Int32), p6)
        else
          L_Mo_goesPass_7 n a0 a1 a2 p6))))))))))
noncomputable def f_Mo_goesPass (a0 : Nat) (a1 : Int32) (a2 : Int32) (S : zM) : Option (Int32 × zM) :=
  Option.bind (zgr S 12 a0 45) (fun q1 =>
  Option.bind (zpa S q1 a1 (0 : Int32)) (fun S2 =>
  L_Mo_goesPass_7 zF a0 a1 a2 S2))
noncomputable def F_Mo_goesAll_111 (k23 : Nat → Int32 → Int32 → zM → Option (Int32 × zM)) (a0 : Nat) (a1 : Int32) (a2 : Int32) (S : zM) : Option (Int32 × zM) :=
  k23 a0 a1 (a2 + (1 : Int32)) S
noncomputable def L_Mo_goesAll_77 (k111 : Nat → Int32 → Int32 → zM → Option (Int32 × zM)) : Nat → Nat → Int32 → Int32 → Int32 → Int32 → zM → Option (Int32 × zM)
  | 0, _, _, _, _, _, _ => none
  | n + 1, a0, a1, a2, a3, a5, S =>
  Option.bind (zgf S 12 a0 41) (fun x1 =>
  if a5 < x1 then
    Option.bind (zgr S 12 a0 47) (fun q2 =>
    Option.bind (zgr S 12 a0 40) (fun q3 =>
    Option.bind (zga S 100 q3 a5) (fun x4 =>
    Option.bind (zpa S q2 (((60 : Int32) * a3) + a5) x4) (fun S5 =>
    L_Mo_goesAll_77 k111 n a0 a1 a2 a3 (a5 + (1 : Int32)) S5))))
  else
    k111 a0 a1 a2 S)
noncomputable def L_Mo_goesAll_23 : Nat → Nat → Int32 → Int32 → zM → Option (Int32 × zM)
  | 0, _, _, _, _ => none
  | n + 1, a0, a1, a2, S =>
  Option.bind (zgf S 12 a0 8) (fun x1 =>
  if a2 < x1 then
    if a1 = (0 : Int32) then
      Option.bind (zcl S 12 a0 (f_Mo_goesPass a0 a2 a1 S)) (fun p2 =>
      if p2.1 = (0 : Int32) then
        Option.bind (zgr p2.2 12 a0 46) (fun q3 =>
        Option.bind (zgf p2.2 12 a0 41) (fun x4 =>
        Option.bind (zpa p2.2 q3 a2 x4) (fun S5 =>
        (L_Mo_goesAll_77 (F_Mo_goesAll_111 (L_Mo_goesAll_23 n)) zF) a0 a1 a2 a2 (0 : Int32) S5)))
      else
        some (p2.1, p2.2))
    else
      Option.bind (zgf S 12 a0 8) (fun x6 =>
      Option.bind (zcl S 12 a0 (f_Mo_goesPass a0 ((x6 - (1 : Int32)) - a2) a1 S)) (fun p7 =>
      if p7.1 = (0 : Int32) then
        Option.bind (zgr p7.2 12 a0 46) (fun q8 =>
        Option.bind (zgf p7.2 12 a0 41) (fun x9 =>
        Option.bind (zpa p7.2 q8 ((x6 - (1 : Int32)) - a2) x9) (fun S10 =>
        (L_Mo_goesAll_77 (F_Mo_goesAll_111 (L_Mo_goesAll_23 n)) zF) a0 a1 a2 ((x6 - (1 : Int32)) - a2) (0 : Int32) S10)))
      else
        some (p7.1, p7.2)))
  else
    some ((0 : Int32), S))
noncomputable def F_Mo_goesAll_21 (k23 : Nat → Int32 → Int32 → zM → Option (Int32 × zM)) (a0 : Nat) (a1 : Int32) (S : zM) : Option (Int32 × zM) :=
  k23 a0 a1 (0 : Int32) S
noncomputable def L_Mo_goesAll_2 (k21 : Nat → Int32 → zM → Option (Int32 × zM)) : Nat → Nat → Int32 → Int32 → zM → Option (Int32 × zM)
  | 0, _, _, _, _ => none
  | n + 1, a0, a1, a2, S =>
  if a2 < (24 : Int32) then
    Option.bind (zgr S 12 a0 44) (fun q1 =>
    Option.bind (zpa S q1 a2 (0 : Int32)) (fun S2 =>
    L_Mo_goesAll_2 k21 n a0 a1 (a2 + (1 : Int32)) S2))
  else
    k21 a0 a1 S
noncomputable def f_Mo_goesAll (a0 : Nat) (a1 : Int32) (S : zM) : Option (Int32 × zM) :=
  L_Mo_goesAll_2 (F_Mo_goesAll_21 (L_Mo_goesAll_23 zF)) zF a0 a1 (0 : Int32) S
noncomputable def L_Mo_remembers_106 : Nat → Nat → Int32 → zM → Option zM
  | 0, _, _, _ => none
  | n + 1, a0, a1, S =>
  if a1 < (180 : Int32) then
    Option.bind (zgr S 12 a0 54) (fun q1 =>
    Option.bind (zgr S 12 a0 47) (fun q2 =>
    Option.bind (zga S 100 q2 a1) (fun x3 =>
    Option.bind (zpa S q1 a1 x3) (fun S4 =>
    L_Mo_remembers_106 n a0 (a1 + (1 : Int32)) S4))))
  else
    some S
noncomputable def F_Mo_remembers_104 (k106 : Nat → Int32 → zM → Option zM) (a0 : Nat) (S : zM) : Option zM :=
  k106 a0 (0 : Int32) S
noncomputable def L_Mo_remembers_69 (k104 : Nat → zM → Option zM) : Nat → Nat → Int32 → zM → Option zM
  | 0, _, _, _ => none
  | n + 1, a0, a1, S =>
  if a1 < (3 : Int32) then
    Option.bind (zgr S 12 a0 52) (fun q1 =>
    Option.bind (zgr S 12 a0 45) (fun q2 =>
    Option.bind (zga S 100 q2 a1) (fun x3 =>
    Option.bind (zpa S q1 a1 x3) (fun S4 =>
    Option.bind (zgr S4 12 a0 53) (fun q5 =>
    Option.bind (zgr S4 12 a0 46) (fun q6 =>
    Option.bind (zga S4 100 q6 a1) (fun x7 =>
    Option.bind (zpa S4 q5 a1 x7) (fun S8 =>
    L_Mo_remembers_69 k104 n a0 (a1 + (1 : Int32)) S8))))))))
  else
    k104 a0 S
noncomputable def F_Mo_remembers_67 (k69 : Nat → Int32 → zM → Option zM) (a0 : Nat) (S : zM) : Option zM :=
  k69 a0 (0 : Int32) S
noncomputable def L_Mo_remembers_43 (k67 : Nat → zM → Option zM) : Nat → Nat → Int32 → zM → Option zM
  | 0, _, _, _ => none
  | n + 1, a0, a1, S =>
  if a1 < (24 : Int32) then
    Option.bind (zgr S 12 a0 51) (fun q1 =>
    Option.bind (zgr S 12 a0 44) (fun q2 =>
    Option.bind (zga S 100 q2 a1) (fun x3 =>
    Option.bind (zpa S q1 a1 x3) (fun S4 =>
    L_Mo_remembers_43 k67 n a0 (a1 + (1 : Int32)) S4))))
  else
    k67 a0 S
noncomputable def F_Mo_remembers_41 (k43 : Nat → Int32 → zM → Option zM) (a0 : Nat) (S : zM) : Option zM :=
  k43 a0 (0 : Int32) S
noncomputable def L_Mo_remembers_15 (k41 : Nat → zM → Option zM) : Nat → Nat → Int32 → zM → Option zM
  | 0, _, _, _ => none
  | n + 1, a0, a1, S =>
  Option.bind (zgf S 12 a0 41) (fun x1 =>
  if a1 < x1 then
    Option.bind (zgr S 12 a0 50) (fun q2 =>
    Option.bind (zgr S 12 a0 40) (fun q3 =>
    Option.bind (zga S 100 q3 a1) (fun x4 =>
    Option.bind (zpa S q2 a1 x4) (fun S5 =>
    L_Mo_remembers_15 k41 n a0 (a1 + (1 : Int32)) S5))))
  else
    k41 a0 S)
noncomputable def f_Mo_remembers (a0 : Nat) (S : zM) : Option zM :=
  Option.bind (zpz S 12 a0 48 (1 : Int32)) (fun S1 =>
  Option.bind (zgf S1 12 a0 41) (fun x2 =>
  Option.bind (zpf S1 12 a0 49 x2) (fun S3 =>
  L_Mo_remembers_15 (F_Mo_remembers_41 (L_Mo_remembers_43 (F_Mo_remembers_67 (L_Mo_remembers_69 (F_Mo_remembers_104 (L_Mo_remembers_106 zF)) zF)) zF)) zF a0 (0 : Int32) S3)))
noncomputable def f_Mo_carry (a0 : Nat) (a1 : Int64) (S : zM) : Option (Int32 × zM) :=
  Option.bind (zcl S 12 a0 (f_Mo_fresh a0 S)) (fun p1 =>
  Option.bind (zpz p1 12 a0 48 (0 : Int32)) (fun S2 =>
  Option.bind (zgf S2 12 a0 9) (fun x3 =>
  if x3 = (0 : Int32) then
    Option.bind (zcl S2 12 a0 (f_Mo_no a0 (1 : Int32) S2)) (fun p4 =>
    some (p4.1, p4.2))
  else
    Option.bind (zcl S2 12 a0 (f_Mo_laysLetters a0 a1 S2)) (fun p5 =>
    if p5.1 = (0 : Int32) then
      Option.bind (zcl p5.2 12 a0 (f_Mo_no a0 (2 : Int32) p5.2)) (fun p6 =>
      some (p6.1, p6.2))
    else
      Option.bind (zcl p5.2 12 a0 (f_Mo_goesAll a0 (0 : Int32) p5.2)) (fun p7 =>
      if p7.1 = (0 : Int32) then
        Option.bind (zcl p7.2 12 a0 (f_Mo_remembers a0 p7.2)) (fun p8 =>
        Option.bind (zgf p8 12 a0 49) (fun x9 =>
        some (x9, p8)))
      else
        Option.bind (zcl p7.2 12 a0 (f_Mo_no a0 p7.1 p7.2)) (fun p10 =>
        some (p10.1, p10.2)))))))
noncomputable def f_Mo_out (a0 : Nat) (a1 : Int32) (S : zM) : Option (Int32 × zM) :=
  Option.bind (zcl S 12 a0 (f_Mo_fresh a0 S)) (fun p1 =>
  Option.bind (zgf p1 12 a0 48) (fun x2 =>
  if x2 = (0 : Int32) then
    Option.bind (zcl p1 12 a0 (f_Mo_no a0 (1 : Int32) p1)) (fun p3 =>
    some (p3.1, p3.2))
  else
    Option.bind (zgf p1 12 a0 49) (fun x4 =>
    Option.bind (f_Mo_in a1 (0 : Int32) (x4 - (1 : Int32)) p1) (fun p5 =>
    if p5.1 = (0 : Int32) then
      Option.bind (zcl p5.2 12 a0 (f_Mo_no a0 (1 : Int32) p5.2)) (fun p6 =>
      some (p6.1, p6.2))
    else
      Option.bind (zgr p5.2 12 a0 50) (fun q7 =>
      Option.bind (zga p5.2 100 q7 a1) (fun x8 =>
      some (x8, p5.2)))))))
noncomputable def f_Mo_behind (a0 : Nat) (a1 : Int32) (S : zM) : Option (Int32 × zM) :=
  Option.bind (zcl S 12 a0 (f_Mo_fresh a0 S)) (fun p1 =>
  Option.bind (zgf p1 12 a0 48) (fun x2 =>
  if x2 = (0 : Int32) then
    Option.bind (zcl p1 12 a0 (f_Mo_no a0 (1 : Int32) p1)) (fun p3 =>
    some (p3.1, p3.2))
  else
    Option.bind (zcl p1 12 a0 (f_Mo_isPass a0 a1 p1)) (fun p4 =>
    if p4.1 = (0 : Int32) then
      Option.bind (zcl p4.2 12 a0 (f_Mo_no a0 (1 : Int32) p4.2)) (fun p5 =>
      some (p5.1, p5.2))
    else
      Option.bind (zgr p4.2 12 a0 53) (fun q6 =>
      Option.bind (zga p4.2 100 q6 a1) (fun x7 =>
      some (x7, p4.2))))))
noncomputable def f_Mo_outOf (a0 : Nat) (a1 : Int32) (a2 : Int32) (S : zM) : Option (Int32 × zM) :=
  Option.bind (zcl S 12 a0 (f_Mo_fresh a0 S)) (fun p1 =>
  Option.bind (zgf p1 12 a0 48) (fun x2 =>
  if x2 = (0 : Int32) then
    Option.bind (zcl p1 12 a0 (f_Mo_no a0 (1 : Int32) p1)) (fun p3 =>
    some (p3.1, p3.2))
  else
    Option.bind (zcl p1 12 a0 (f_Mo_isPass a0 a1 p1)) (fun p4 =>
    if p4.1 = (0 : Int32) then
      Option.bind (zcl p4.2 12 a0 (f_Mo_no a0 (1 : Int32) p4.2)) (fun p5 =>
      some (p5.1, p5.2))
    else
      Option.bind (zgr p4.2 12 a0 53) (fun q6 =>
      Option.bind (zga p4.2 100 q6 a1) (fun x7 =>
      Option.bind (f_Mo_in a2 (0 : Int32) (x7 - (1 : Int32)) p4.2) (fun p8 =>
      if p8.1 = (0 : Int32) then
        Option.bind (zcl p8.2 12 a0 (f_Mo_no a0 (1 : Int32) p8.2)) (fun p9 =>
        some (p9.1, p9.2))
      else
        Option.bind (zgr p8.2 12 a0 54) (fun q10 =>
        Option.bind (zga p8.2 100 q10 (((60 : Int32) * a1) + a2)) (fun x11 =>
        some (x11, p8.2)))))))))
noncomputable def f_Mo_rounds (a0 : Nat) (a1 : Int32) (S : zM) : Option (Int32 × zM) :=
  Option.bind (zcl S 12 a0 (f_Mo_fresh a0 S)) (fun p1 =>
  Option.bind (zgf p1 12 a0 48) (fun x2 =>
  if x2 = (0 : Int32) then
    Option.bind (zcl p1 12 a0 (f_Mo_no a0 (1 : Int32) p1)) (fun p3 =>
    some (p3.1, p3.2))
  else
    Option.bind (zcl p1 12 a0 (f_Mo_isPass a0 a1 p1)) (fun p4 =>
    if p4.1 = (0 : Int32) then
      Option.bind (zcl p4.2 12 a0 (f_Mo_no a0 (1 : Int32) p4.2)) (fun p5 =>
      some (p5.1, p5.2))
    else
      Option.bind (zgr p4.2 12 a0 52) (fun q6 =>
      Option.bind (zga p4.2 100 q6 a1) (fun x7 =>
      some (x7, p4.2))))))
noncomputable def f_Mo_served (a0 : Nat) (a1 : Int32) (a2 : Int32) (S : zM) : Option (Int32 × zM) :=
  Option.bind (zcl S 12 a0 (f_Mo_fresh a0 S)) (fun p1 =>
  Option.bind (zgf p1 12 a0 48) (fun x2 =>
  if x2 = (0 : Int32) then
    Option.bind (zcl p1 12 a0 (f_Mo_no a0 (1 : Int32) p1)) (fun p3 =>
    some (p3.1, p3.2))
  else
    Option.bind (zcl p1 12 a0 (f_Mo_isRule a0 a1 a2 p1)) (fun p4 =>
    if p4.1 = (0 : Int32) then
      Option.bind (zcl p4.2 12 a0 (f_Mo_no a0 (1 : Int32) p4.2)) (fun p5 =>
      some (p5.1, p5.2))
    else
      Option.bind (zgr p4.2 12 a0 51) (fun q6 =>
      Option.bind (zga p4.2 100 q6 (((8 : Int32) * a1) + a2)) (fun x7 =>
      some (x7, p4.2))))))
noncomputable def F_Mo_changesOf_158 (k25 : Nat → Int32 → zM → Option (Int32 × zM)) (a0 : Nat) (a1 : Int32) (S : zM) : Option (Int32 × zM) :=
  k25 a0 (a1 + (1 : Int32)) S
noncomputable def L_Mo_changesOf_49 (k158 : Nat → Int32 → zM → Option (Int32 × zM)) : Nat → Nat → Int32 → Int32 → Int32 → zM → Option (Int32 × zM)
  | 0, _, _, _, _, _ => none
  | n + 1, a0, a1, a2, a3, S =>
  Option.bind (zgf S 12 a0 41) (fun x1 =>
  if a3 ≤ x1 then
    Option.bind (zgr S 12 a0 57) (fun q2 =>
    Option.bind (zga S 100 q2 a3) (fun x3 =>
    Option.bind (zgr S 12 a0 55) (fun q4 =>
    Option.bind (zga S 100 q4 (a1 - (1 : Int32))) (fun x5 =>
    Option.bind (zgr S 12 a0 40) (fun q6 =>
    Option.bind (zga S 100 q6 (a3 - (1 : Int32))) (fun x7 =>
    if x5 = x7 then
      if (x3 + (1 : Int32)) < (a2 + (0 : Int32)) then
        Option.bind (zgr S 12 a0 57) (fun q8 =>
        Option.bind (zgr S 12 a0 57) (fun q9 =>
        Option.bind (zga S 100 q9 (a3 - (1 : Int32))) (fun x10 =>
        if (x10 + (1 : Int32)) < (x3 + (1 : Int32)) then
          Option.bind (zgr S 12 a0 57) (fun q11 =>
          Option.bind (zga S 100 q11 (a3 - (1 : Int32))) (fun x12 =>
          Option.bind (zpa S q8 a3 (x12 + (1 : Int32))) (fun S13 =>
          L_Mo_changesOf_49 k158 n a0 a1 x3 (a3 + (1 : Int32)) S13)))
        else
          Option.bind (zpa S q8 a3 (x3 + (1 : Int32))) (fun S14 =>
          L_Mo_changesOf_49 k158 n a0 a1 x3 (a3 + (1 : Int32)) S14))))
      else
        Option.bind (zgr S 12 a0 57) (fun q15 =>
        Option.bind (zgr S 12 a0 57) (fun q16 =>
        Option.bind (zga S 100 q16 (a3 - (1 : Int32))) (fun x17 =>
        if (x17 + (1 : Int32)) < (a2 + (0 : Int32)) then
          Option.bind (zgr S 12 a0 57) (fun q18 =>
          Option.bind (zga S 100 q18 (a3 - (1 : Int32))) (fun x19 =>
          Option.bind (zpa S q15 a3 (x19 + (1 : Int32))) (fun S20 =>
          L_Mo_changesOf_49 k158 n a0 a1 x3 (a3 + (1 : Int32)) S20)))
        else
          Option.bind (zpa S q15 a3 (a2 + (0 : Int32))) (fun S21 =>
          L_Mo_changesOf_49 k158 n a0 a1 x3 (a3 + (1 : Int32)) S21))))
    else
      if (x3 + (1 : Int32)) < (a2 + (1 : Int32)) then
        Option.bind (zgr S 12 a0 57) (fun q22 =>
        Option.bind (zgr S 12 a0 57) (fun q23 =>
        Option.bind (zga S 100 q23 (a3 - (1 : Int32))) (fun x24 =>
        if (x24 + (1 : Int32)) < (x3 + (1 : Int32)) then
          Option.bind (zgr S 12 a0 57) (fun q25 =>
          Option.bind (zga S 100 q25 (a3 - (1 : Int32))) (fun x26 =>
          Option.bind (zpa S q22 a3 (x26 + (1 : Int32))) (fun S27 =>
          L_Mo_changesOf_49 k158 n a0 a1 x3 (a3 + (1 : Int32)) S27)))
        else
          Option.bind (zpa S q22 a3 (x3 + (1 : Int32))) (fun S28 =>
          L_Mo_changesOf_49 k158 n a0 a1 x3 (a3 + (1 : Int32)) S28))))
      else
        Option.bind (zgr S 12 a0 57) (fun q29 =>
        Option.bind (zgr S 12 a0 57) (fun q30 =>
        Option.bind (zga S 100 q30 (a3 - (1 : Int32))) (fun x31 =>
        if (x31 + (1 : Int32)) < (a2 + (1 : Int32)) then
          Option.bind (zgr S 12 a0 57) (fun q32 =>
          Option.bind (zga S 100 q32 (a3 - (1 : Int32))) (fun x33 =>
          Option.bind (zpa S q29 a3 (x33 + (1 : Int32))) (fun S34 =>
          L_Mo_changesOf_49 k158 n a0 a1 x3 (a3 + (1 : Int32)) S34)))
        else
          Option.bind (zpa S q29 a3 (a2 + (1 : Int32))) (fun S35 =>
          L_Mo_changesOf_49 k158 n a0 a1 x3 (a3 + (1 : Int32)) S35))))))))))
  else
    k158 a0 a1 S)
noncomputable def L_Mo_changesOf_25 : Nat → Nat → Int32 → zM → Option (Int32 × zM)
  | 0, _, _, _ => none
  | n + 1, a0, a1, S =>
  Option.bind (zgf S 12 a0 56) (fun x1 =>
  if a1 ≤ x1 then
    Option.bind (zgr S 12 a0 57) (fun q2 =>
    Option.bind (zga S 100 q2 (0 : Int32)) (fun x3 =>
    Option.bind (zgr S 12 a0 57) (fun q4 =>
    Option.bind (zpa S q4 (0 : Int32) a1) (fun S5 =>
    (L_Mo_changesOf_49 (F_Mo_changesOf_158 (L_Mo_changesOf_25 n)) zF) a0 a1 x3 (1 : Int32) S5))))
  else
    Option.bind (zgr S 12 a0 57) (fun q6 =>
    Option.bind (zgf S 12 a0 41) (fun x7 =>
    Option.bind (zga S 100 q6 x7) (fun x8 =>
    some (x8, S)))))
noncomputable def F_Mo_changesOf_23 (k25 : Nat → Int32 → zM → Option (Int32 × zM)) (a0 : Nat) (S : zM) : Option (Int32 × zM) :=
  k25 a0 (1 : Int32) S
noncomputable def L_Mo_changesOf_2 (k23 : Nat → zM → Option (Int32 × zM)) : Nat → Nat → Int32 → zM → Option (Int32 × zM)
  | 0, _, _, _ => none
  | n + 1, a0, a1, S =>
  Option.bind (zgf S 12 a0 41) (fun x1 =>
  if a1 ≤ x1 then
    Option.bind (zgr S 12 a0 57) (fun q2 =>
    Option.bind (zpa S q2 a1 a1) (fun S3 =>
    L_Mo_changesOf_2 k23 n a0 (a1 + (1 : Int32)) S3))
  else
    k23 a0 S)
noncomputable def f_Mo_changesOf (a0 : Nat) (S : zM) : Option (Int32 × zM) :=
  L_Mo_changesOf_2 (F_Mo_changesOf_23 (L_Mo_changesOf_25 zF)) zF a0 (0 : Int32) S
noncomputable def F_Mo_apart_98 (a0 : Nat) (a3 : Int64) (S : zM) : Option (Int32 × zM) :=
  Option.bind (zcl S 12 a0 (f_Mo_laysLetters a0 a3 S)) (fun p1 =>
  Option.bind (zcl p1.2 12 a0 (f_Mo_goesAll a0 (0 : Int32) p1.2)) (fun p2 =>
  if p2.1 = (0 : Int32) then
    if p1.1 = (0 : Int32) then
      Option.bind (zcl p2.2 12 a0 (f_Mo_no a0 p2.1 p2.2)) (fun p3 =>
      some (p3.1, p3.2))
    else
      Option.bind (zcl p2.2 12 a0 (f_Mo_changesOf a0 p2.2)) (fun p4 =>
      some (p4.1, p4.2))
  else
    Option.bind (zcl p2.2 12 a0 (f_Mo_no a0 p2.1 p2.2)) (fun p5 =>
    some (p5.1, p5.2))))
noncomputable def L_Mo_apart_69 (k98 : Nat → Int64 → zM → Option (Int32 × zM)) : Nat → Nat → Int64 → Int32 → zM → Option (Int32 × zM)
  | 0, _, _, _, _ => none
  | n + 1, a0, a3, a6, S =>
  Option.bind (zgf S 12 a0 41) (fun x1 =>
  if a6 < x1 then
    Option.bind (zgr S 12 a0 55) (fun q2 =>
    Option.bind (zgr S 12 a0 40) (fun q3 =>
    Option.bind (zga S 100 q3 a6) (fun x4 =>
    Option.bind (zpa S q2 a6 x4) (fun S5 =>
    L_Mo_apart_69 k98 n a0 a3 (a6 + (1 : Int32)) S5))))
  else
    k98 a0 a3 S)
noncomputable def f_Mo_apart (a0 : Nat) (a1 : Int64) (a3 : Int64) (S : zM) : Option (Int32 × zM) :=
  Option.bind (zcl S 12 a0 (f_Mo_fresh a0 S)) (fun p1 =>
  Option.bind (zgf p1 12 a0 9) (fun x2 =>
  if x2 = (0 : Int32) then
    Option.bind (zcl p1 12 a0 (f_Mo_no a0 (1 : Int32) p1)) (fun p3 =>
    some (p3.1, p3.2))
  else
    Option.bind (zcl p1 12 a0 (f_Mo_laysLetters a0 a3 p1)) (fun p4 =>
    if p4.1 = (0 : Int32) then
      Option.bind (zcl p4.2 12 a0 (f_Mo_no a0 (2 : Int32) p4.2)) (fun p5 =>
      some (p5.1, p5.2))
    else
      Option.bind (zcl p4.2 12 a0 (f_Mo_laysLetters a0 a1 p4.2)) (fun p6 =>
      if p6.1 = (0 : Int32) then
        Option.bind (zcl p6.2 12 a0 (f_Mo_no a0 (2 : Int32) p6.2)) (fun p7 =>
        some (p7.1, p7.2))
      else
        Option.bind (zcl p6.2 12 a0 (f_Mo_goesAll a0 (0 : Int32) p6.2)) (fun p8 =>
        if p8.1 = (0 : Int32) then
          Option.bind (zgf p8.2 12 a0 41) (fun x9 =>
          Option.bind (zpf p8.2 12 a0 56 x9) (fun S10 =>
          L_Mo_apart_69 (F_Mo_apart_98) zF a0 a3 (0 : Int32) S10))
        else
          Option.bind (zcl p8.2 12 a0 (f_Mo_no a0 p8.1 p8.2)) (fun p11 =>
          some (p11.1, p11.2)))))))
noncomputable def f_Mo_goesTurned (a0 : Nat) (a1 : Int64) (S : zM) : Option (Int32 × zM) :=
  Option.bind (zgf S 12 a0 9) (fun x1 =>
  if x1 = (0 : Int32) then
    some ((1 : Int32), S)
  else
    Option.bind (zcl S 12 a0 (f_Mo_laysLetters a0 a1 S)) (fun p2 =>
    if p2.1 = (0 : Int32) then
      some ((2 : Int32), p2.2)
    else
      Option.bind (zcl p2.2 12 a0 (f_Mo_goesAll a0 (1 : Int32) p2.2)) (fun p3 =>
      some (p3.1, p3.2))))
noncomputable def f_Mo_turned (a0 : Nat) (a1 : Int64) (S : zM) : Option (Int32 × zM) :=
  Option.bind (zcl S 12 a0 (f_Mo_fresh a0 S)) (fun p1 =>
  Option.bind (zcl p1 12 a0 (f_Mo_goesTurned a0 a1 p1)) (fun p2 =>
  if p2.1 = (0 : Int32) then
    Option.bind (zgf p2.2 12 a0 41) (fun x3 =>
    some (x3, p2.2))
  else
    Option.bind (zcl p2.2 12 a0 (f_Mo_no a0 p2.1 p2.2)) (fun p4 =>
    some (p4.1, p4.2))))
noncomputable def f_Mo_turnedOut (a0 : Nat) (a1 : Int64) (a3 : Int32) (S : zM) : Option (Int32 × zM) :=
  Option.bind (zcl S 12 a0 (f_Mo_fresh a0 S)) (fun p1 =>
  Option.bind (zcl p1 12 a0 (f_Mo_goesTurned a0 a1 p1)) (fun p2 =>
  if p2.1 = (0 : Int32) then
    Option.bind (zgf p2.2 12 a0 41) (fun x3 =>
    Option.bind (f_Mo_in a3 (0 : Int32) (x3 - (1 : Int32)) p2.2) (fun p4 =>
    if p4.1 = (0 : Int32) then
      Option.bind (zcl p4.2 12 a0 (f_Mo_no a0 (1 : Int32) p4.2)) (fun p5 =>
      some (p5.1, p5.2))
    else
      Option.bind (zgr p4.2 12 a0 40) (fun q6 =>
      Option.bind (zga p4.2 100 q6 a3) (fun x7 =>
      some (x7, p4.2)))))
  else
    Option.bind (zcl p2.2 12 a0 (f_Mo_no a0 p2.1 p2.2)) (fun p8 =>
    some (p8.1, p8.2))))
noncomputable def f_Mo_wordsWhy (a0 : Nat) (a1 : Int32) (a2 : Int32) (S : zM) : Option (Int32 × zM) :=
  Option.bind (zgf S 12 a0 9) (fun x1 =>
  if x1 = (0 : Int32) then
    some ((1 : Int32), S)
  else
    if a1 = (0 : Int32) then
      some ((1 : Int32), S)
    else
      Option.bind (f_Mo_in a2 (1 : Int32) (5 : Int32) S) (fun p2 =>
      if p2.1 = (0 : Int32) then
        some ((2 : Int32), p2.2)
      else
        some ((0 : Int32), p2.2)))
noncomputable def f_Mo_isRefused (a0 : Nat) (a1 : Int32) (S : zM) : Option (Int32 × zM) :=
  Option.bind (zcl S 12 a0 (f_Mo_fresh a0 S)) (fun p1 =>
  Option.bind (zpf p1 12 a0 1 a1) (fun S2 =>
  if a1 = (0 : Int32) then
    if (0 : Int32) = 0 ∨ (0 : Int32) = 1 then some ((0 : Int32), S2) else none
  else
    if (1 : Int32) = 0 ∨ (1 : Int32) = 1 then some ((1 : Int32), S2) else none))
noncomputable def L_Mo_manyUpTo_7 : Nat → Nat → Int32 → Int32 → Int32 → Int32 → zM → Option (Int32 × zM)
  | 0, _, _, _, _, _, _ => none
  | n + 1, a0, a1, a2, a3, a4, S =>
  if a4 < a1 then
    Option.bind (zgf S 12 a0 6) (fun x1 =>
    L_Mo_manyUpTo_7 n a0 a1 (a2 + (a3 * x1)) (a3 * x1) (a4 + (1 : Int32)) S)
  else
    some (a2, S)
noncomputable def f_Mo_manyUpTo (a0 : Nat) (a1 : Int32) (S : zM) : Option (Int32 × zM) :=
  L_Mo_manyUpTo_7 zF a0 a1 (0 : Int32) (1 : Int32) (0 : Int32) S
noncomputable def f_Mo_words (a0 : Nat) (a1 : Int32) (S : zM) : Option (Int32 × zM) :=
  Option.bind (zcl S 12 a0 (f_Mo_wordsWhy a0 (1 : Int32) a1 S)) (fun p1 =>
  Option.bind (zcl p1.2 12 a0 (f_Mo_isRefused a0 p1.1 p1.2)) (fun p2 =>
  if p2.1 = (0 : Int32) then
    Option.bind (zcl p2.2 12 a0 (f_Mo_manyUpTo a0 a1 p2.2)) (fun p3 =>
    some (p3.1, p3.2))
  else
    some ((-1 : Int32), p2.2)))
noncomputable def L_Mo_lettersOf_10 : Nat → Nat → Int32 → Int32 → Int32 → zM → Option (Int32 × zM)
  | 0, _, _, _, _, _ => none
  | n + 1, a0, a2, a3, a4, S =>
  if a3 < a4 then
    some (a2, S)
  else
    Option.bind (zgf S 12 a0 6) (fun x1 =>
    L_Mo_lettersOf_10 n a0 (a2 + (1 : Int32)) (a3 - a4) (a4 * x1) S)
noncomputable def f_Mo_lettersOf (a0 : Nat) (a1 : Int32) (S : zM) : Option (Int32 × zM) :=
  Option.bind (zgf S 12 a0 6) (fun x1 =>
  L_Mo_lettersOf_10 zF a0 (1 : Int32) a1 x1 S)
noncomputable def L_Mo_laysIndex_53 : Nat → Nat → Int32 → Int32 → zM → Option zM
  | 0, _, _, _, _ => none
  | n + 1, a0, a2, a4, S =>
  if a4 < (0 : Int32) then
    some S
  else
    Option.bind (zgr S 12 a0 40) (fun q1 =>
    Option.bind (zgf S 12 a0 6) (fun x2 =>
    if x2 = 0 then none else
    Option.bind (zpa S q1 a4 (a2 - a2 / x2 * x2)) (fun S3 =>
    Option.bind (zgf S3 12 a0 6) (fun x4 =>
    if x4 = 0 then none else
    L_Mo_laysIndex_53 n a0 (a2 / x4) (a4 + (-1 : Int32)) S3))))
noncomputable def F_Mo_laysIndex_45 (k53 : Nat → Int32 → Int32 → zM → Option zM) (a0 : Nat) (a2 : Int32) (S : zM) : Option zM :=
  Option.bind (zgf S 12 a0 41) (fun x1 =>
  k53 a0 a2 (x1 - (1 : Int32)) S)
noncomputable def L_Mo_laysIndex_19 (k45 : Nat → Int32 → zM → Option zM) : Nat → Nat → Int32 → Int32 → Int32 → zM → Option zM
  | 0, _, _, _, _, _ => none
  | n + 1, a0, a2, a3, a4, S =>
  Option.bind (zgf S 12 a0 41) (fun x1 =>
  if a4 < x1 then
    Option.bind (zgf S 12 a0 6) (fun x2 =>
    L_Mo_laysIndex_19 k45 n a0 (a2 - a3) (a3 * x2) (a4 + (1 : Int32)) S)
  else
    k45 a0 a2 S)
noncomputable def f_Mo_laysIndex (a0 : Nat) (a1 : Int32) (S : zM) : Option zM :=
  Option.bind (zgf S 12 a0 6) (fun x1 =>
  Option.bind (zcl S 12 a0 (f_Mo_lettersOf a0 a1 S)) (fun p2 =>
  Option.bind (zpf p2.2 12 a0 41 p2.1) (fun S3 =>
  L_Mo_laysIndex_19 (F_Mo_laysIndex_45 (L_Mo_laysIndex_53 zF)) zF a0 a1 x1 (1 : Int32) S3)))
noncomputable def L_Mo_keyOf_8 : Nat → Nat → Int32 → Int64 → Int32 → zM → Option (Int64 × zM)
  | 0, _, _, _, _, _ => none
  | n + 1, a0, a1, a2, a4, S =>
  if a4 < (((19 : Int32) * a1) + (19 : Int32)) then
    Option.bind (zgf S 12 a0 41) (fun x1 =>
    if a4 < x1 then
      Option.bind (zgr S 12 a0 40) (fun q2 =>
      Option.bind (zga S 100 q2 a4) (fun x3 =>
      L_Mo_keyOf_8 n a0 a1 (((9 : Int64) * a2) + ((x3 + (1 : Int32))).toInt64) (a4 + (1 : Int32)) S))
    else
      L_Mo_keyOf_8 n a0 a1 (((9 : Int64) * a2) + ((0 : Int32)).toInt64) (a4 + (1 : Int32)) S)
  else
    some (a2, S)
noncomputable def f_Mo_keyOf (a0 : Nat) (a1 : Int32) (S : zM) : Option (Int64 × zM) :=
  L_Mo_keyOf_8 zF a0 a1 (0 : Int64) ((19 : Int32) * a1) S
noncomputable def F_Mo_laysWords_73 (k11 : Nat → Int32 → zM → Option zM) (a0 : Nat) (a2 : Int32) (S : zM) : Option zM :=
  k11 a0 (a2 + (1 : Int32)) S
noncomputable def L_Mo_laysWords_47 (k73 : Nat → Int32 → zM → Option zM) : Nat → Nat → Int32 → Int32 → zM → Option zM
  | 0, _, _, _, _ => none
  | n + 1, a0, a2, a3, S =>
  if a3 < (4 : Int32) then
    Option.bind (zgr S 12 a0 60) (fun q1 =>
    Option.bind (zcl S 12 a0 (f_Mo_keyOf a0 a3 S)) (fun p2 =>
    Option.bind (zpl p2.2 q1 (((4 : Int32) * a2) + a3) p2.1) (fun S3 =>
    L_Mo_laysWords_47 k73 n a0 a2 (a3 + (1 : Int32)) S3)))
  else
    k73 a0 a2 S
noncomputable def L_Mo_laysWords_11 : Nat → Nat → Int32 → zM → Option zM
  | 0, _, _, _ => none
  | n + 1, a0, a2, S =>
  Option.bind (zgf S 12 a0 61) (fun x1 =>
  if a2 < x1 then
    Option.bind (zcl S 12 a0 (f_Mo_laysIndex a0 a2 S)) (fun p2 =>
    Option.bind (zgr p2 12 a0 58) (fun q3 =>
    Option.bind (zcl p2 12 a0 (f_Mo_goesAll a0 (0 : Int32) p2)) (fun p4 =>
    Option.bind (zpa p4.2 q3 a2 p4.1) (fun S5 =>
    Option.bind (zgr S5 12 a0 59) (fun q6 =>
    Option.bind (zgf S5 12 a0 41) (fun x7 =>
    Option.bind (zpa S5 q6 a2 x7) (fun S8 =>
    (L_Mo_laysWords_47 (F_Mo_laysWords_73 (L_Mo_laysWords_11 n)) zF) a0 a2 (0 : Int32) S8)))))))
  else
    some S)
noncomputable def f_Mo_laysWords (a0 : Nat) (a1 : Int32) (S : zM) : Option zM :=
  Option.bind (zcl S 12 a0 (f_Mo_manyUpTo a0 a1 S)) (fun p1 =>
  Option.bind (zpf p1.2 12 a0 61 p1.1) (fun S2 =>
  L_Mo_laysWords_11 zF a0 (0 : Int32) S2))
noncomputable def L_Mo_areAlike_22 : Nat → Nat → Int32 → Int32 → Int32 → zM → Option (Int32 × zM)
  | 0, _, _, _, _, _ => none
  | n + 1, a0, a1, a2, a3, S =>
  if a3 < (4 : Int32) then
    Option.bind (zgr S 12 a0 60) (fun q1 =>
    Option.bind (zgl S q1 (((4 : Int32) * a1) + a3)) (fun x2 =>
    Option.bind (zgr S 12 a0 60) (fun q3 =>
    Option.bind (zgl S q3 (((4 : Int32) * a2) + a3)) (fun x4 =>
    if (lg_cmp x2 x4) = (0 : Int32) then
      L_Mo_areAlike_22 n a0 a1 a2 (a3 + (1 : Int32)) S
    else
      if (0 : Int32) = 0 ∨ (0 : Int32) = 1 then some ((0 : Int32), S) else none))))
  else
    if (1 : Int32) = 0 ∨ (1 : Int32) = 1 then some ((1 : Int32), S) else none
noncomputable def f_Mo_areAlike (a0 : Nat) (a1 : Int32) (a2 : Int32) (S : zM) : Option (Int32 × zM) :=
  Option.bind (zgr S 12 a0 58) (fun q1 =>
  Option.bind (zga S 100 q1 a1) (fun x2 =>
  if x2 = (0 : Int32) then
    Option.bind (zgr S 12 a0 58) (fun q3 =>
    Option.bind (zga S 100 q3 a2) (fun x4 =>
    if x4 = (0 : Int32) then
      L_Mo_areAlike_22 zF a0 a1 a2 (0 : Int32) S
    else
      if (0 : Int32) = 0 ∨ (0 : Int32) = 1 then some ((0 : Int32), S) else none))
  else
    if (0 : Int32) = 0 ∨ (0 : Int32) = 1 then some ((0 : Int32), S) else none))
noncomputable def L_Mo_firstAlike_2 : Nat → Nat → Int32 → Int32 → zM → Option (Int32 × zM)
  | 0, _, _, _, _ => none
  | n + 1, a0, a1, a2, S =>
  if a2 < a1 then
    Option.bind (zcl S 12 a0 (f_Mo_areAlike a0 a1 a2 S)) (fun p1 =>
    if p1.1 = (0 : Int32) then
      L_Mo_firstAlike_2 n a0 a1 (a2 + (1 : Int32)) p1.2
    else
      some (a2, p1.2))
  else
    some ((-1 : Int32), S)
noncomputable def f_Mo_firstAlike (a0 : Nat) (a1 : Int32) (S : zM) : Option (Int32 × zM) :=
  L_Mo_firstAlike_2 zF a0 a1 (0 : Int32) S
noncomputable def L_Mo_doubledMany_9 : Nat → Nat → Int32 → Int32 → zM → Option (Int32 × zM)
  | 0, _, _, _, _ => none
  | n + 1, a0, a2, a3, S =>
  Option.bind (zgf S 12 a0 61) (fun x1 =>
  if a3 < x1 then
    Option.bind (zcl S 12 a0 (f_Mo_firstAlike a0 a3 S)) (fun p2 =>
    if p2.1 = (-1 : Int32) then
      L_Mo_doubledMany_9 n a0 (a2 + (0 : Int32)) (a3 + (1 : Int32)) p2.2
    else
      L_Mo_doubledMany_9 n a0 (a2 + (1 : Int32)) (a3 + (1 : Int32)) p2.2)
  else
    some (a2, S))
noncomputable def f_Mo_doubledMany (a0 : Nat) (a1 : Int32) (S : zM) : Option (Int32 × zM) :=
  Option.bind (zcl S 12 a0 (f_Mo_laysWords a0 a1 S)) (fun p1 =>
  L_Mo_doubledMany_9 zF a0 (0 : Int32) (0 : Int32) p1)
noncomputable def f_Mo_reversible (a0 : Nat) (a1 : Int32) (S : zM) : Option (Int32 × zM) :=
  Option.bind (zcl S 12 a0 (f_Mo_wordsWhy a0 (1 : Int32) a1 S)) (fun p1 =>
  Option.bind (zcl p1.2 12 a0 (f_Mo_isRefused a0 p1.1 p1.2)) (fun p2 =>
  if p2.1 = (0 : Int32) then
    Option.bind (zcl p2.2 12 a0 (f_Mo_doubledMany a0 a1 p2.2)) (fun p3 =>
    if p3.1 = (0 : Int32) then
      some ((1 : Int32), p3.2)
    else
      some ((0 : Int32), p3.2))
  else
    some ((-1 : Int32), p2.2)))
noncomputable def L_Mo_wordOf_10 : Nat → Nat → Int64 → Int32 → zM → Option (Int64 × zM)
  | 0, _, _, _, _ => none
  | n + 1, a0, a2, a4, S =>
  Option.bind (zgf S 12 a0 41) (fun x1 =>
  if a4 < x1 then
    Option.bind (zgr S 12 a0 40) (fun q2 =>
    Option.bind (zga S 100 q2 a4) (fun x3 =>
    L_Mo_wordOf_10 n a0 ((((256 : Int64) * a2) + (97 : Int64)) + (x3).toInt64) (a4 + (1 : Int32)) S))
  else
    some (a2, S))
noncomputable def f_Mo_wordOf (a0 : Nat) (a1 : Int32) (S : zM) : Option (Int64 × zM) :=
  Option.bind (zcl S 12 a0 (f_Mo_laysIndex a0 a1 S)) (fun p1 =>
  L_Mo_wordOf_10 zF a0 (0 : Int64) (0 : Int32) p1)
noncomputable def L_Mo_failing_29 : Nat → Nat → Int32 → Int32 → zM → Option (Int64 × zM)
  | 0, _, _, _, _ => none
  | n + 1, a0, a2, a3, S =>
  Option.bind (zgf S 12 a0 61) (fun x1 =>
  if a3 < x1 then
    Option.bind (zcl S 12 a0 (f_Mo_firstAlike a0 a3 S)) (fun p2 =>
    if p2.1 = (-1 : Int32) then
      L_Mo_failing_29 n a0 a2 (a3 + (1 : Int32)) p2.2
    else
      if a2 = (0 : Int32) then
        Option.bind (zcl p2.2 12 a0 (f_Mo_wordOf a0 a3 p2.2)) (fun p3 =>
        some (p3.1, p3.2))
      else
        Option.bind (zcl p2.2 12 a0 (f_Mo_wordOf a0 p2.1 p2.2)) (fun p4 =>
        some (p4.1, p4.2)))
  else
    Option.bind (zcl S 12 a0 (f_Mo_no a0 (5 : Int32) S)) (fun p5 =>
    some ((p5.1).toInt64, p5.2)))
noncomputable def f_Mo_failing (a0 : Nat) (a1 : Int32) (a2 : Int32) (S : zM) : Option (Int64 × zM) :=
  Option.bind (f_Mo_in a2 (0 : Int32) (1 : Int32) S) (fun p1 =>
  Option.bind (zcl p1.2 12 a0 (f_Mo_wordsWhy a0 p1.1 a1 p1.2)) (fun p2 =>
  Option.bind (zcl p2.2 12 a0 (f_Mo_isRefused a0 p2.1 p2.2)) (fun p3 =>
  if p3.1 = (0 : Int32) then
    Option.bind (zcl p3.2 12 a0 (f_Mo_laysWords a0 a1 p3.2)) (fun p4 =>
    L_Mo_failing_29 zF a0 a2 (0 : Int32) p4)
  else
    some ((-1 : Int64), p3.2))))
noncomputable def f_Mo_doubled (a0 : Nat) (a1 : Int32) (S : zM) : Option (Int32 × zM) :=
  Option.bind (zcl S 12 a0 (f_Mo_wordsWhy a0 (1 : Int32) a1 S)) (fun p1 =>
  Option.bind (zcl p1.2 12 a0 (f_Mo_isRefused a0 p1.1 p1.2)) (fun p2 =>
  if p2.1 = (0 : Int32) then
    Option.bind (zcl p2.2 12 a0 (f_Mo_doubledMany a0 a1 p2.2)) (fun p3 =>
    some (p3.1, p3.2))
  else
    some ((-1 : Int32), p2.2)))
noncomputable def L_Mo_fails_30 : Nat → Nat → Int32 → Int32 → Int32 → zM → Option (Int32 × zM)
  | 0, _, _, _, _, _ => none
  | n + 1, a0, a2, a3, a4, S =>
  Option.bind (zgf S 12 a0 61) (fun x1 =>
  if a4 < x1 then
    Option.bind (zgr S 12 a0 58) (fun q2 =>
    Option.bind (zga S 100 q2 a4) (fun x3 =>
    if x3 = ((6 : Int32) + a2) then
      L_Mo_fails_30 n a0 a2 (a3 + (1 : Int32)) (a4 + (1 : Int32)) S
    else
      L_Mo_fails_30 n a0 a2 (a3 + (0 : Int32)) (a4 + (1 : Int32)) S))
  else
    some (a3, S))
noncomputable def f_Mo_fails (a0 : Nat) (a1 : Int32) (a2 : Int32) (S : zM) : Option (Int32 × zM) :=
  Option.bind (f_Mo_in a2 (0 : Int32) (1 : Int32) S) (fun p1 =>
  Option.bind (zcl p1.2 12 a0 (f_Mo_wordsWhy a0 p1.1 a1 p1.2)) (fun p2 =>
  Option.bind (zcl p2.2 12 a0 (f_Mo_isRefused a0 p2.1 p2.2)) (fun p3 =>
  if p3.1 = (0 : Int32) then
    Option.bind (zcl p3.2 12 a0 (f_Mo_laysWords a0 a1 p3.2)) (fun p4 =>
    L_Mo_fails_30 zF a0 a2 (0 : Int32) (0 : Int32) p4)
  else
    some ((-1 : Int32), p3.2))))
noncomputable def L_Mo_firstFail_29 : Nat → Nat → Int32 → Int32 → zM → Option (Int64 × zM)
  | 0, _, _, _, _ => none
  | n + 1, a0, a2, a3, S =>
  Option.bind (zgf S 12 a0 61) (fun x1 =>
  if a3 < x1 then
    Option.bind (zgr S 12 a0 58) (fun q2 =>
    Option.bind (zga S 100 q2 a3) (fun x3 =>
    if x3 = ((6 : Int32) + a2) then
      Option.bind (zcl S 12 a0 (f_Mo_wordOf a0 a3 S)) (fun p4 =>
      some (p4.1, p4.2))
    else
      L_Mo_firstFail_29 n a0 a2 (a3 + (1 : Int32)) S))
  else
    Option.bind (zcl S 12 a0 (f_Mo_no a0 (5 : Int32) S)) (fun p5 =>
    some ((p5.1).toInt64, p5.2)))
noncomputable def f_Mo_firstFail (a0 : Nat) (a1 : Int32) (a2 : Int32) (S : zM) : Option (Int64 × zM) :=
  Option.bind (f_Mo_in a2 (0 : Int32) (1 : Int32) S) (fun p1 =>
  Option.bind (zcl p1.2 12 a0 (f_Mo_wordsWhy a0 p1.1 a1 p1.2)) (fun p2 =>
  Option.bind (zcl p2.2 12 a0 (f_Mo_isRefused a0 p2.1 p2.2)) (fun p3 =>
  if p3.1 = (0 : Int32) then
    Option.bind (zcl p3.2 12 a0 (f_Mo_laysWords a0 a1 p3.2)) (fun p4 =>
    L_Mo_firstFail_29 zF a0 a2 (0 : Int32) p4)
  else
    some ((-1 : Int64), p3.2))))
noncomputable def L_Mo_seeks_12 : Nat → Nat → Int32 → zM → Option (Int32 × zM)
  | 0, _, _, _ => none
  | n + 1, a0, a3, S =>
  if a3 < (4 : Int32) then
    Option.bind (zgr S 12 a0 63) (fun q1 =>
    Option.bind (zcl S 12 a0 (f_Mo_keyOf a0 a3 S)) (fun p2 =>
    Option.bind (zpl p2.2 q1 a3 p2.1) (fun S3 =>
    L_Mo_seeks_12 n a0 (a3 + (1 : Int32)) S3)))
  else
    if (1 : Int32) = 0 ∨ (1 : Int32) = 1 then some ((1 : Int32), S) else none
noncomputable def f_Mo_seeks (a0 : Nat) (a1 : Int64) (S : zM) : Option (Int32 × zM) :=
  Option.bind (zcl S 12 a0 (f_Mo_laysLetters a0 a1 S)) (fun p1 =>
  if p1.1 = (0 : Int32) then
    if (0 : Int32) = 0 ∨ (0 : Int32) = 1 then some ((0 : Int32), p1.2) else none
  else
    L_Mo_seeks_12 zF a0 (0 : Int32) p1.2)
noncomputable def f_Mo_sourceWhy (a0 : Nat) (a1 : Int32) (a2 : Int64) (S : zM) : Option (Int32 × zM) :=
  Option.bind (zcl S 12 a0 (f_Mo_wordsWhy a0 (1 : Int32) a1 S)) (fun p1 =>
  if p1.1 = (0 : Int32) then
    Option.bind (zcl p1.2 12 a0 (f_Mo_seeks a0 a2 p1.2)) (fun p2 =>
    if p2.1 = (0 : Int32) then
      some ((2 : Int32), p2.2)
    else
      some ((0 : Int32), p2.2))
  else
    some (p1.1, p1.2))
noncomputable def f_Mo_isSource (a0 : Nat) (a1 : Int32) (S : zM) : Option (Int32 × zM) :=
  Option.bind (zgr S 12 a0 58) (fun q1 =>
  Option.bind (zga S 100 q1 a1) (fun x2 =>
  if x2 = (0 : Int32) then
    Option.bind (zgr S 12 a0 60) (fun q3 =>
    Option.bind (zgl S q3 ((4 : Int32) * a1)) (fun x4 =>
    Option.bind (zgr S 12 a0 63) (fun q5 =>
    Option.bind (zgl S q5 (0 : Int32)) (fun x6 =>
    if (lg_cmp x4 x6) = (0 : Int32) then
      Option.bind (zgr S 12 a0 60) (fun q7 =>
      Option.bind (zgl S q7 (((4 : Int32) * a1) + (1 : Int32))) (fun x8 =>
      Option.bind (zgr S 12 a0 63) (fun q9 =>
      Option.bind (zgl S q9 (1 : Int32)) (fun x10 =>
      if (lg_cmp x8 x10) = (0 : Int32) then
        Option.bind (zgr S 12 a0 60) (fun q11 =>
        Option.bind (zgl S q11 (((4 : Int32) * a1) + (2 : Int32))) (fun x12 =>
        Option.bind (zgr S 12 a0 63) (fun q13 =>
        Option.bind (zgl S q13 (2 : Int32)) (fun x14 =>
        if (lg_cmp x12 x14) = (0 : Int32) then
          Option.bind (zgr S 12 a0 60) (fun q15 =>
          Option.bind (zgl S q15 (((4 : Int32) * a1) + (3 : Int32))) (fun x16 =>
          Option.bind (zgr S 12 a0 63) (fun q17 =>
          Option.bind (zgl S q17 (3 : Int32)) (fun x18 =>
          if (lg_cmp x16 x18) = (0 : Int32) then
            if (1 : Int32) = 0 ∨ (1 : Int32) = 1 then some ((1 : Int32), S) else none
          else
            if (0 : Int32) = 0 ∨ (0 : Int32) = 1 then some ((0 : Int32), S) else none))))
        else
          if (0 : Int32) = 0 ∨ (0 : Int32) = 1 then some ((0 : Int32), S) else none))))
      else
        if (0 : Int32) = 0 ∨ (0 : Int32) = 1 then some ((0 : Int32), S) else none))))
    else
      if (0 : Int32) = 0 ∨ (0 : Int32) = 1 then some ((0 : Int32), S) else none))))
  else
    if (0 : Int32) = 0 ∨ (0 : Int32) = 1 then some ((0 : Int32), S) else none))
noncomputable def L_Mo_sources_26 : Nat → Nat → Int32 → Int32 → zM → Option (Int32 × zM)
  | 0, _, _, _, _ => none
  | n + 1, a0, a4, a5, S =>
  Option.bind (zgf S 12 a0 61) (fun x1 =>
  if a5 < x1 then
    Option.bind (zcl S 12 a0 (f_Mo_isSource a0 a5 S)) (fun p2 =>
    if p2.1 = (0 : Int32) then
      L_Mo_sources_26 n a0 (a4 + (0 : Int32)) (a5 + (1 : Int32)) p2.2
    else
      L_Mo_sources_26 n a0 (a4 + (1 : Int32)) (a5 + (1 : Int32)) p2.2)
  else
    some (a4, S))
noncomputable def f_Mo_sources (a0 : Nat) (a1 : Int32) (a2 : Int64) (S : zM) : Option (Int32 × zM) :=
  Option.bind (zcl S 12 a0 (f_Mo_sourceWhy a0 a1 a2 S)) (fun p1 =>
  Option.bind (zcl p1.2 12 a0 (f_Mo_isRefused a0 p1.1 p1.2)) (fun p2 =>
  if p2.1 = (0 : Int32) then
    Option.bind (zcl p2.2 12 a0 (f_Mo_laysWords a0 a1 p2.2)) (fun p3 =>
    L_Mo_sources_26 zF a0 (0 : Int32) (0 : Int32) p3)
  else
    some ((-1 : Int32), p2.2)))
noncomputable def L_Mo_source_28 : Nat → Nat → Int32 → Int32 → Int32 → zM → Option (Int64 × zM)
  | 0, _, _, _, _, _ => none
  | n + 1, a0, a4, a5, a6, S =>
  Option.bind (zgf S 12 a0 61) (fun x1 =>
  if a6 < x1 then
    Option.bind (zcl S 12 a0 (f_Mo_isSource a0 a6 S)) (fun p2 =>
    if p2.1 = (0 : Int32) then
      L_Mo_source_28 n a0 a4 a5 (a6 + (1 : Int32)) p2.2
    else
      if a5 = a4 then
        Option.bind (zcl p2.2 12 a0 (f_Mo_wordOf a0 a6 p2.2)) (fun p3 =>
        some (p3.1, p3.2))
      else
        L_Mo_source_28 n a0 a4 (a5 + (1 : Int32)) (a6 + (1 : Int32)) p2.2)
  else
    Option.bind (zcl S 12 a0 (f_Mo_no a0 (1 : Int32) S)) (fun p4 =>
    some ((p4.1).toInt64, p4.2)))
noncomputable def f_Mo_source (a0 : Nat) (a1 : Int32) (a2 : Int64) (a4 : Int32) (S : zM) : Option (Int64 × zM) :=
  Option.bind (zcl S 12 a0 (f_Mo_sourceWhy a0 a1 a2 S)) (fun p1 =>
  Option.bind (zcl p1.2 12 a0 (f_Mo_isRefused a0 p1.1 p1.2)) (fun p2 =>
  if p2.1 = (0 : Int32) then
    Option.bind (zcl p2.2 12 a0 (f_Mo_laysWords a0 a1 p2.2)) (fun p3 =>
    L_Mo_source_28 zF a0 a4 (0 : Int32) (0 : Int32) p3)
  else
    some ((-1 : Int64), p2.2)))
noncomputable def L_Mo_longestAt_9 : Nat → Nat → Int32 → Int32 → zM → Option (Int32 × zM)
  | 0, _, _, _, _ => none
  | n + 1, a0, a2, a3, S =>
  Option.bind (zgf S 12 a0 61) (fun x1 =>
  if a3 < x1 then
    Option.bind (zgr S 12 a0 58) (fun q2 =>
    Option.bind (zga S 100 q2 a3) (fun x3 =>
    if x3 = (0 : Int32) then
      if a2 = (-1 : Int32) then
        L_Mo_longestAt_9 n a0 a3 (a3 + (1 : Int32)) S
      else
        Option.bind (zgr S 12 a0 59) (fun q4 =>
        Option.bind (zga S 100 q4 a3) (fun x5 =>
        Option.bind (zgr S 12 a0 59) (fun q6 =>
        Option.bind (zga S 100 q6 a2) (fun x7 =>
        if x5 ≤ x7 then
          L_Mo_longestAt_9 n a0 a2 (a3 + (1 : Int32)) S
        else
          L_Mo_longestAt_9 n a0 a3 (a3 + (1 : Int32)) S))))
    else
      L_Mo_longestAt_9 n a0 a2 (a3 + (1 : Int32)) S))
  else
    some (a2, S))
noncomputable def f_Mo_longestAt (a0 : Nat) (a1 : Int32) (S : zM) : Option (Int32 × zM) :=
  Option.bind (zcl S 12 a0 (f_Mo_laysWords a0 a1 S)) (fun p1 =>
  L_Mo_longestAt_9 zF a0 (-1 : Int32) (0 : Int32) p1)
noncomputable def f_Mo_longest (a0 : Nat) (a1 : Int32) (S : zM) : Option (Int32 × zM) :=
  Option.bind (zcl S 12 a0 (f_Mo_wordsWhy a0 (1 : Int32) a1 S)) (fun p1 =>
  Option.bind (zcl p1.2 12 a0 (f_Mo_isRefused a0 p1.1 p1.2)) (fun p2 =>
  if p2.1 = (0 : Int32) then
    Option.bind (zcl p2.2 12 a0 (f_Mo_longestAt a0 a1 p2.2)) (fun p3 =>
    if p3.1 = (-1 : Int32) then
      some ((-2 : Int32), p3.2)
    else
      Option.bind (zgr p3.2 12 a0 59) (fun q4 =>
      Option.bind (zga p3.2 100 q4 p3.1) (fun x5 =>
      some (x5, p3.2))))
  else
    some ((-1 : Int32), p2.2)))
noncomputable def f_Mo_longestOf (a0 : Nat) (a1 : Int32) (S : zM) : Option (Int64 × zM) :=
  Option.bind (zcl S 12 a0 (f_Mo_wordsWhy a0 (1 : Int32) a1 S)) (fun p1 =>
  Option.bind (zcl p1.2 12 a0 (f_Mo_isRefused a0 p1.1 p1.2)) (fun p2 =>
  if p2.1 = (0 : Int32) then
    Option.bind (zcl p2.2 12 a0 (f_Mo_longestAt a0 a1 p2.2)) (fun p3 =>
    if p3.1 = (-1 : Int32) then
      Option.bind (zcl p3.2 12 a0 (f_Mo_no a0 (5 : Int32) p3.2)) (fun p4 =>
      some ((p4.1).toInt64, p4.2))
    else
      Option.bind (zcl p3.2 12 a0 (f_Mo_wordOf a0 p3.1 p3.2)) (fun p5 =>
      some (p5.1, p5.2)))
  else
    some ((-1 : Int64), p2.2)))
noncomputable def F_Mo_idle_110 (k33 : Nat → Int32 → Int32 → Int32 → Int32 → zM → Option (Int32 × zM)) (a0 : Nat) (a1 : Int32) (a2 : Int32) (a3 : Int32) (a4 : Int32) (S : zM) : Option (Int32 × zM) :=
  k33 a0 a1 a2 a3 (a4 + (1 : Int32)) S
noncomputable def L_Mo_idle_63 (k110 : Nat → Int32 → Int32 → Int32 → Int32 → zM → Option (Int32 × zM)) : Nat → Nat → Int32 → Int32 → Int32 → Int32 → Int32 → zM → Option (Int32 × zM)
  | 0, _, _, _, _, _, _, _ => none
  | n + 1, a0, a1, a2, a3, a4, a5, S =>
  Option.bind (zgr S 12 a0 11) (fun q1 =>
  Option.bind (zga S 100 q1 a1) (fun x2 =>
  if a5 < x2 then
    Option.bind (zgr S 12 a0 44) (fun q3 =>
    Option.bind (zga S 100 q3 (((8 : Int32) * a1) + a5)) (fun x4 =>
    if x4 ≤ (0 : Int32) then
      L_Mo_idle_63 k110 n a0 a1 a2 (a3 &&& (511 : Int32)) a4 (a5 + (1 : Int32)) S
    else
      L_Mo_idle_63 k110 n a0 a1 a2 (a3 &&& (((1 : Int32) <<< (a5 &&& 31)) ^^^ (-1 : Int32))) a4 (a5 + (1 : Int32)) S))
  else
    k110 a0 a1 a2 a3 a4 S))
noncomputable def L_Mo_idle_33 : Nat → Nat → Int32 → Int32 → Int32 → Int32 → zM → Option (Int32 × zM)
  | 0, _, _, _, _, _, _ => none
  | n + 1, a0, a1, a2, a3, a4, S =>
  Option.bind (zcl S 12 a0 (f_Mo_manyUpTo a0 a2 S)) (fun p1 =>
  if a4 < p1.1 then
    Option.bind (zcl p1.2 12 a0 (f_Mo_laysIndex a0 a4 p1.2)) (fun p2 =>
    Option.bind (zcl p2 12 a0 (f_Mo_goesAll a0 (0 : Int32) p2)) (fun p3 =>
    if p3.1 = (0 : Int32) then
      (L_Mo_idle_63 (F_Mo_idle_110 (L_Mo_idle_33 n)) zF) a0 a1 a2 a3 a4 (0 : Int32) p3.2
    else
      (F_Mo_idle_110 (L_Mo_idle_33 n)) a0 a1 a2 a3 a4 p3.2))
  else
    some (a3, p1.2))
noncomputable def f_Mo_idle (a0 : Nat) (a1 : Int32) (a2 : Int32) (S : zM) : Option (Int32 × zM) :=
  Option.bind (zcl S 12 a0 (f_Mo_isPass a0 a1 S)) (fun p1 =>
  Option.bind (zcl p1.2 12 a0 (f_Mo_wordsWhy a0 p1.1 a2 p1.2)) (fun p2 =>
  Option.bind (zcl p2.2 12 a0 (f_Mo_isRefused a0 p2.1 p2.2)) (fun p3 =>
  if p3.1 = (0 : Int32) then
    Option.bind (zgr p3.2 12 a0 11) (fun q4 =>
    Option.bind (zga p3.2 100 q4 a1) (fun x5 =>
    L_Mo_idle_33 zF a0 a1 a2 (((1 : Int32) <<< (x5 &&& 31)) - (1 : Int32)) (0 : Int32) p3.2))
  else
    some ((-1 : Int32), p3.2))))
noncomputable def L_Mo_backOf_65 : Nat → Nat → Int32 → Int32 → zM → Option (Int32 × zM)
  | 0, _, _, _, _ => none
  | n + 1, a0, a2, a3, S =>
  if a3 < a2 then
    Option.bind (zgr S 12 a0 40) (fun q1 =>
    Option.bind (zga S 100 q1 a3) (fun x2 =>
    Option.bind (zgr S 12 a0 64) (fun q3 =>
    Option.bind (zga S 100 q3 a3) (fun x4 =>
    if x2 = x4 then
      L_Mo_backOf_65 n a0 a2 (a3 + (1 : Int32)) S
    else
      some ((2 : Int32), S)))))
  else
    some ((1 : Int32), S)
noncomputable def F_Mo_backOf_35 (k65 : Nat → Int32 → Int32 → zM → Option (Int32 × zM)) (a0 : Nat) (a2 : Int32) (S : zM) : Option (Int32 × zM) :=
  Option.bind (zcl S 12 a0 (f_Mo_goesAll a0 (0 : Int32) S)) (fun p1 =>
  if p1.1 = (0 : Int32) then
    Option.bind (zcl p1.2 12 a0 (f_Mo_goesAll a0 (1 : Int32) p1.2)) (fun p2 =>
    if p2.1 = (0 : Int32) then
      Option.bind (zgf p2.2 12 a0 41) (fun x3 =>
      if x3 = a2 then
        k65 a0 a2 (0 : Int32) p2.2
      else
        some ((2 : Int32), p2.2))
    else
      some ((2 : Int32), p2.2))
  else
    some ((0 : Int32), p1.2))
noncomputable def L_Mo_backOf_12 (k35 : Nat → Int32 → zM → Option (Int32 × zM)) : Nat → Nat → Int32 → Int32 → zM → Option (Int32 × zM)
  | 0, _, _, _, _ => none
  | n + 1, a0, a2, a3, S =>
  if a3 < a2 then
    Option.bind (zgr S 12 a0 64) (fun q1 =>
    Option.bind (zgr S 12 a0 40) (fun q2 =>
    Option.bind (zga S 100 q2 a3) (fun x3 =>
    Option.bind (zpa S q1 a3 x3) (fun S4 =>
    L_Mo_backOf_12 k35 n a0 a2 (a3 + (1 : Int32)) S4))))
  else
    k35 a0 a2 S
noncomputable def f_Mo_backOf (a0 : Nat) (a1 : Int32) (S : zM) : Option (Int32 × zM) :=
  Option.bind (zcl S 12 a0 (f_Mo_laysIndex a0 a1 S)) (fun p1 =>
  Option.bind (zgf p1 12 a0 41) (fun x2 =>
  L_Mo_backOf_12 (F_Mo_backOf_35 (L_Mo_backOf_65 zF)) zF a0 x2 (0 : Int32) p1))
noncomputable def L_Mo_comeBack_19 : Nat → Nat → Int32 → Int32 → Int32 → zM → Option (Int32 × zM)
  | 0, _, _, _, _, _ => none
  | n + 1, a0, a1, a2, a3, S =>
  Option.bind (zcl S 12 a0 (f_Mo_manyUpTo a0 a1 S)) (fun p1 =>
  if a3 < p1.1 then
    Option.bind (zcl p1.2 12 a0 (f_Mo_backOf a0 a3 p1.2)) (fun p2 =>
    if p2.1 = (1 : Int32) then
      L_Mo_comeBack_19 n a0 a1 (a2 + (1 : Int32)) (a3 + (1 : Int32)) p2.2
    else
      L_Mo_comeBack_19 n a0 a1 (a2 + (0 : Int32)) (a3 + (1 : Int32)) p2.2)
  else
    some (a2, p1.2))
noncomputable def f_Mo_comeBack (a0 : Nat) (a1 : Int32) (S : zM) : Option (Int32 × zM) :=
  Option.bind (zcl S 12 a0 (f_Mo_wordsWhy a0 (1 : Int32) a1 S)) (fun p1 =>
  Option.bind (zcl p1.2 12 a0 (f_Mo_isRefused a0 p1.1 p1.2)) (fun p2 =>
  if p2.1 = (0 : Int32) then
    L_Mo_comeBack_19 zF a0 a1 (0 : Int32) (0 : Int32) p2.2
  else
    some ((-1 : Int32), p2.2)))
noncomputable def L_Mo_lost_19 : Nat → Nat → Int32 → Int32 → zM → Option (Int64 × zM)
  | 0, _, _, _, _ => none
  | n + 1, a0, a1, a2, S =>
  Option.bind (zcl S 12 a0 (f_Mo_manyUpTo a0 a1 S)) (fun p1 =>
  if a2 < p1.1 then
    Option.bind (zcl p1.2 12 a0 (f_Mo_backOf a0 a2 p1.2)) (fun p2 =>
    if p2.1 = (2 : Int32) then
      Option.bind (zcl p2.2 12 a0 (f_Mo_wordOf a0 a2 p2.2)) (fun p3 =>
      some (p3.1, p3.2))
    else
      L_Mo_lost_19 n a0 a1 (a2 + (1 : Int32)) p2.2)
  else
    Option.bind (zcl p1.2 12 a0 (f_Mo_no a0 (5 : Int32) p1.2)) (fun p4 =>
    some ((p4.1).toInt64, p4.2)))
noncomputable def f_Mo_lost (a0 : Nat) (a1 : Int32) (S : zM) : Option (Int64 × zM) :=
  Option.bind (zcl S 12 a0 (f_Mo_wordsWhy a0 (1 : Int32) a1 S)) (fun p1 =>
  Option.bind (zcl p1.2 12 a0 (f_Mo_isRefused a0 p1.1 p1.2)) (fun p2 =>
  if p2.1 = (0 : Int32) then
    L_Mo_lost_19 zF a0 a1 (0 : Int32) p2.2
  else
    some ((-1 : Int64), p2.2)))
noncomputable def F_Mo_worst_129 (k27 : Nat → Int32 → Int32 → Int32 → Int32 → zM → Option (Int32 × zM)) (a0 : Nat) (a1 : Int32) (a2 : Int32) (a3 : Int32) (a4 : Int32) (S : zM) : Option (Int32 × zM) :=
  k27 a0 a1 a2 a3 (a4 + (1 : Int32)) S
noncomputable def L_Mo_worst_39 (k129 : Nat → Int32 → Int32 → Int32 → Int32 → zM → Option (Int32 × zM)) : Nat → Nat → Int32 → Int32 → Int32 → Int32 → Int32 → zM → Option (Int32 × zM)
  | 0, _, _, _, _, _, _, _ => none
  | n + 1, a0, a1, a2, a3, a4, a5, S =>
  Option.bind (zgr S 12 a0 11) (fun q1 =>
  Option.bind (zga S 100 q1 a4) (fun x2 =>
  if a5 < x2 then
    Option.bind (zgr S 12 a0 39) (fun q3 =>
    Option.bind (zga S 102 q3 (((8 : Int32) * a4) + a5)) (fun x4 =>
    if x4 = (0 : Int32) then
      Option.bind (zgr S 12 a0 39) (fun q5 =>
      Option.bind (zpb S q5 (((8 : Int32) * a4) + a5) (1 : Int32)) (fun S6 =>
      Option.bind (zcl S6 12 a0 (f_Mo_doubledMany a0 a1 S6)) (fun p7 =>
      Option.bind (zgr p7.2 12 a0 39) (fun q8 =>
      Option.bind (zpb p7.2 q8 (((8 : Int32) * a4) + a5) (0 : Int32)) (fun S9 =>
      if p7.1 < a2 then
        L_Mo_worst_39 k129 n a0 a1 p7.1 (((10 : Int32) * a4) + a5) a4 (a5 + (1 : Int32)) S9
      else
        L_Mo_worst_39 k129 n a0 a1 a2 a3 a4 (a5 + (1 : Int32)) S9)))))
    else
      L_Mo_worst_39 k129 n a0 a1 a2 a3 a4 (a5 + (1 : Int32)) S))
  else
    k129 a0 a1 a2 a3 a4 S))
noncomputable def L_Mo_worst_27 : Nat → Nat → Int32 → Int32 → Int32 → Int32 → zM → Option (Int32 × zM)
  | 0, _, _, _, _, _, _ => none
  | n + 1, a0, a1, a2, a3, a4, S =>
  Option.bind (zgf S 12 a0 8) (fun x1 =>
  if a4 < x1 then
    (L_Mo_worst_39 (F_Mo_worst_129 (L_Mo_worst_27 n)) zF) a0 a1 a2 a3 a4 (0 : Int32) S
  else
    some (a3, S))
noncomputable def f_Mo_worst (a0 : Nat) (a1 : Int32) (S : zM) : Option (Int32 × zM) :=
  Option.bind (zcl S 12 a0 (f_Mo_wordsWhy a0 (1 : Int32) a1 S)) (fun p1 =>
  Option.bind (zcl p1.2 12 a0 (f_Mo_isRefused a0 p1.1 p1.2)) (fun p2 =>
  if p2.1 = (0 : Int32) then
    Option.bind (zcl p2.2 12 a0 (f_Mo_doubledMany a0 a1 p2.2)) (fun p3 =>
    L_Mo_worst_27 zF a0 a1 p3.1 (-2 : Int32) (0 : Int32) p3.2)
  else
    some ((-1 : Int32), p2.2)))
noncomputable def F_Mo_asideMany_52 (k4 : Nat → Int32 → Int32 → zM → Option (Int32 × zM)) (a0 : Nat) (a1 : Int32) (a2 : Int32) (S : zM) : Option (Int32 × zM) :=
  k4 a0 a1 (a2 + (1 : Int32)) S
noncomputable def L_Mo_asideMany_14 (k52 : Nat → Int32 → Int32 → zM → Option (Int32 × zM)) : Nat → Nat → Int32 → Int32 → Int32 → zM → Option (Int32 × zM)
  | 0, _, _, _, _, _ => none
  | n + 1, a0, a1, a2, a3, S =>
  Option.bind (zgr S 12 a0 11) (fun q1 =>
  Option.bind (zga S 100 q1 a2) (fun x2 =>
  if a3 < x2 then
    Option.bind (zgr S 12 a0 39) (fun q3 =>
    Option.bind (zga S 102 q3 (((8 : Int32) * a2) + a3)) (fun x4 =>
    if x4 = (0 : Int32) then
      L_Mo_asideMany_14 k52 n a0 (a1 + (0 : Int32)) a2 (a3 + (1 : Int32)) S
    else
      L_Mo_asideMany_14 k52 n a0 (a1 + (1 : Int32)) a2 (a3 + (1 : Int32)) S))
  else
    k52 a0 a1 a2 S))
noncomputable def L_Mo_asideMany_4 : Nat → Nat → Int32 → Int32 → zM → Option (Int32 × zM)
  | 0, _, _, _, _ => none
  | n + 1, a0, a1, a2, S =>
  Option.bind (zgf S 12 a0 8) (fun x1 =>
  if a2 < x1 then
    (L_Mo_asideMany_14 (F_Mo_asideMany_52 (L_Mo_asideMany_4 n)) zF) a0 a1 a2 (0 : Int32) S
  else
    some (a1, S))
noncomputable def f_Mo_asideMany (a0 : Nat) (S : zM) : Option (Int32 × zM) :=
  L_Mo_asideMany_4 zF a0 (0 : Int32) (0 : Int32) S
noncomputable def F_Mo_aside_109 (a0 : Nat) (a3 : Int32) (a4 : Int32) (S : zM) : Option (Int32 × zM) :=
  Option.bind (zgf S 12 a0 66) (fun x1 =>
  Option.bind (zpf S 12 a0 66 (x1 - (1 : Int32))) (fun S2 =>
  Option.bind (zgr S2 12 a0 65) (fun q3 =>
  Option.bind (zgf S2 12 a0 66) (fun x4 =>
  Option.bind (zpa S2 q3 x4 a4) (fun S5 =>
  Option.bind (zgf S5 12 a0 66) (fun x6 =>
  Option.bind (zpf S5 12 a0 66 (x6 + (1 : Int32))) (fun S7 =>
  Option.bind (zgr S7 12 a0 39) (fun q8 =>
  if a3 = (1 : Int32) then
    Option.bind (zpb S7 q8 a4 (1 : Int32)) (fun S9 =>
    Option.bind (zcl S9 12 a0 (f_Mo_asideMany a0 S9)) (fun p10 =>
    some (p10.1, p10.2)))
  else
    Option.bind (zpb S7 q8 a4 (0 : Int32)) (fun S11 =>
    Option.bind (zcl S11 12 a0 (f_Mo_asideMany a0 S11)) (fun p12 =>
    some (p12.1, p12.2)))))))))))
noncomputable def L_Mo_aside_80 (k109 : Nat → Int32 → Int32 → zM → Option (Int32 × zM)) : Nat → Nat → Int32 → Int32 → Int32 → zM → Option (Int32 × zM)
  | 0, _, _, _, _, _ => none
  | n + 1, a0, a3, a4, a5, S =>
  if a5 < (12 : Int32) then
    Option.bind (zgr S 12 a0 65) (fun q1 =>
    Option.bind (zgr S 12 a0 65) (fun q2 =>
    Option.bind (zga S 100 q2 a5) (fun x3 =>
    Option.bind (zpa S q1 (a5 - (1 : Int32)) x3) (fun S4 =>
    L_Mo_aside_80 k109 n a0 a3 a4 (a5 + (1 : Int32)) S4))))
  else
    k109 a0 a3 a4 S
noncomputable def f_Mo_aside (a0 : Nat) (a1 : Int32) (a2 : Int32) (a3 : Int32) (S : zM) : Option (Int32 × zM) :=
  Option.bind (zcl S 12 a0 (f_Mo_fresh a0 S)) (fun p1 =>
  Option.bind (zcl p1 12 a0 (f_Mo_isRule a0 a1 a2 p1)) (fun p2 =>
  if p2.1 = (0 : Int32) then
    Option.bind (zcl p2.2 12 a0 (f_Mo_no a0 (1 : Int32) p2.2)) (fun p3 =>
    some (p3.1, p3.2))
  else
    Option.bind (f_Mo_in a3 (0 : Int32) (1 : Int32) p2.2) (fun p4 =>
    if p4.1 = (0 : Int32) then
      Option.bind (zcl p4.2 12 a0 (f_Mo_no a0 (2 : Int32) p4.2)) (fun p5 =>
      some (p5.1, p5.2))
    else
      Option.bind (zgr p4.2 12 a0 39) (fun q6 =>
      Option.bind (zga p4.2 102 q6 (((8 : Int32) * a1) + a2)) (fun x7 =>
      if a3 = (1 : Int32) then
        if x7 = (1 : Int32) then
          Option.bind (zcl p4.2 12 a0 (f_Mo_no a0 (5 : Int32) p4.2)) (fun p8 =>
          some (p8.1, p8.2))
        else
          Option.bind (zgf p4.2 12 a0 66) (fun x9 =>
          if x9 = (12 : Int32) then
            L_Mo_aside_80 (F_Mo_aside_109) zF a0 a3 (((8 : Int32) * a1) + a2) (1 : Int32) p4.2
          else
            Option.bind (zgr p4.2 12 a0 65) (fun q10 =>
            Option.bind (zgf p4.2 12 a0 66) (fun x11 =>
            Option.bind (zpa p4.2 q10 x11 (((8 : Int32) * a1) + a2)) (fun S12 =>
            Option.bind (zgf S12 12 a0 66) (fun x13 =>
            Option.bind (zpf S12 12 a0 66 (x13 + (1 : Int32))) (fun S14 =>
            Option.bind (zgr S14 12 a0 39) (fun q15 =>
            if a3 = (1 : Int32) then
              Option.bind (zpb S14 q15 (((8 : Int32) * a1) + a2) (1 : Int32)) (fun S16 =>
              Option.bind (zcl S16 12 a0 (f_Mo_asideMany a0 S16)) (fun p17 =>
              some (p17.1, p17.2)))
            else
              Option.bind (zpb S14 q15 (((8 : Int32) * a1) + a2) (0 : Int32)) (fun S18 =>
              Option.bind (zcl S18 12 a0 (f_Mo_asideMany a0 S18)) (fun p19 =>
              some (p19.1, p19.2))))))))))
      else
        if x7 = (0 : Int32) then
          Option.bind (zcl p4.2 12 a0 (f_Mo_no a0 (5 : Int32) p4.2)) (fun p20 =>
          some (p20.1, p20.2))
        else
          Option.bind (zgf p4.2 12 a0 66) (fun x21 =>
          if x21 = (12 : Int32) then
            L_Mo_aside_80 (F_Mo_aside_109) zF a0 a3 (((8 : Int32) * a1) + a2) (1 : Int32) p4.2
          else
            Option.bind (zgr p4.2 12 a0 65) (fun q22 =>
            Option.bind (zgf p4.2 12 a0 66) (fun x23 =>
            Option.bind (zpa p4.2 q22 x23 (((8 : Int32) * a1) + a2)) (fun S24 =>
            Option.bind (zgf S24 12 a0 66) (fun x25 =>
            Option.bind (zpf S24 12 a0 66 (x25 + (1 : Int32))) (fun S26 =>
            Option.bind (zgr S26 12 a0 39) (fun q27 =>
            if a3 = (1 : Int32) then
              Option.bind (zpb S26 q27 (((8 : Int32) * a1) + a2) (1 : Int32)) (fun S28 =>
              Option.bind (zcl S28 12 a0 (f_Mo_asideMany a0 S28)) (fun p29 =>
              some (p29.1, p29.2)))
            else
              Option.bind (zpb S26 q27 (((8 : Int32) * a1) + a2) (0 : Int32)) (fun S30 =>
              Option.bind (zcl S30 12 a0 (f_Mo_asideMany a0 S30)) (fun p31 =>
              some (p31.1, p31.2)))))))))))))))
noncomputable def f_Mo_undo (a0 : Nat) (S : zM) : Option (Int32 × zM) :=
  Option.bind (zcl S 12 a0 (f_Mo_fresh a0 S)) (fun p1 =>
  Option.bind (zgf p1 12 a0 66) (fun x2 =>
  if x2 = (0 : Int32) then
    Option.bind (zpf p1 12 a0 1 (1 : Int32)) (fun S3 =>
    if (0 : Int32) = 0 ∨ (0 : Int32) = 1 then some ((0 : Int32), S3) else none)
  else
    Option.bind (zgf p1 12 a0 66) (fun x4 =>
    Option.bind (zpf p1 12 a0 66 (x4 - (1 : Int32))) (fun S5 =>
    Option.bind (zgr S5 12 a0 39) (fun q6 =>
    Option.bind (zgr S5 12 a0 65) (fun q7 =>
    Option.bind (zgf S5 12 a0 66) (fun x8 =>
    Option.bind (zga S5 100 q7 x8) (fun x9 =>
    Option.bind (zgr S5 12 a0 39) (fun q10 =>
    Option.bind (zgr S5 12 a0 65) (fun q11 =>
    Option.bind (zgf S5 12 a0 66) (fun x12 =>
    Option.bind (zga S5 100 q11 x12) (fun x13 =>
    Option.bind (zga S5 102 q10 x13) (fun x14 =>
    if x14 = (0 : Int32) then
      Option.bind (zpb S5 q6 x9 (1 : Int32)) (fun S15 =>
      if (1 : Int32) = 0 ∨ (1 : Int32) = 1 then some ((1 : Int32), S15) else none)
    else
      Option.bind (zpb S5 q6 x9 (0 : Int32)) (fun S16 =>
      if (1 : Int32) = 0 ∨ (1 : Int32) = 1 then some ((1 : Int32), S16) else none))))))))))))))
noncomputable def L_Mo_isEmpty_2 : Nat → Nat → Int32 → Int32 → zM → Option (Int32 × zM)
  | 0, _, _, _, _ => none
  | n + 1, a0, a1, a2, S =>
  Option.bind (zgr S 12 a0 11) (fun q1 =>
  Option.bind (zga S 100 q1 a1) (fun x2 =>
  if a2 < x2 then
    Option.bind (zgr S 12 a0 39) (fun q3 =>
    Option.bind (zga S 102 q3 (((8 : Int32) * a1) + a2)) (fun x4 =>
    if x4 = (0 : Int32) then
      if (0 : Int32) = 0 ∨ (0 : Int32) = 1 then some ((0 : Int32), S) else none
    else
      L_Mo_isEmpty_2 n a0 a1 (a2 + (1 : Int32)) S))
  else
    if (1 : Int32) = 0 ∨ (1 : Int32) = 1 then some ((1 : Int32), S) else none))
noncomputable def f_Mo_isEmpty (a0 : Nat) (a1 : Int32) (S : zM) : Option (Int32 × zM) :=
  L_Mo_isEmpty_2 zF a0 a1 (0 : Int32) S
noncomputable def L_Mo_empty_9 : Nat → Nat → Int32 → Int32 → Int32 → zM → Option (Int32 × zM)
  | 0, _, _, _, _, _ => none
  | n + 1, a0, a1, a2, a3, S =>
  Option.bind (zgf S 12 a0 9) (fun x1 =>
  if x1 = (0 : Int32) then
    Option.bind (zpf S 12 a0 0 (1 : Int32)) (fun S2 =>
    some ((0 : Int32), S2))
  else
    Option.bind (zgf S 12 a0 8) (fun x3 =>
    if a3 < x3 then
      Option.bind (zcl S 12 a0 (f_Mo_isEmpty a0 a3 S)) (fun p4 =>
      if p4.1 = (0 : Int32) then
        L_Mo_empty_9 n a0 a1 a2 (a3 + (1 : Int32)) p4.2
      else
        if a2 = a1 then
          some (a3, p4.2)
        else
          L_Mo_empty_9 n a0 a1 (a2 + (1 : Int32)) (a3 + (1 : Int32)) p4.2)
    else
      Option.bind (zpf S 12 a0 0 (1 : Int32)) (fun S5 =>
      some ((0 : Int32), S5))))
noncomputable def f_Mo_empty (a0 : Nat) (a1 : Int32) (S : zM) : Option (Int32 × zM) :=
  Option.bind (zpf S 12 a0 0 (0 : Int32)) (fun S1 =>
  L_Mo_empty_9 zF a0 a1 (0 : Int32) (0 : Int32) S1)
noncomputable def f_Mo_thrown (a0 : Nat) (S : zM) : Option (Int32 × zM) :=
  Option.bind (zgf S 12 a0 0) (fun x1 =>
  some (x1, S))
noncomputable def f_Mo_size (a0 : Nat) (a1 : Int32) (S : zM) : Option (Int32 × zM) :=
  Option.bind (zpf S 12 a0 0 (0 : Int32)) (fun S1 =>
  if a1 = (0 : Int32) then
    Option.bind (zgf S1 12 a0 5) (fun x2 =>
    some (x2, S1))
  else if a1 = (1 : Int32) then
    Option.bind (zgf S1 12 a0 66) (fun x3 =>
    some (x3, S1))
  else if a1 = (2 : Int32) then
    Option.bind (zgf S1 12 a0 48) (fun x4 =>
    if x4 = (0 : Int32) then
      some ((0 : Int32), S1)
    else
      Option.bind (zgf S1 12 a0 49) (fun x5 =>
      some (x5, S1)))
  else 
    some ((-1 : Int32), S1))
noncomputable def f_Mo_trouble (a0 : Nat) (S : zM) : Option (Int32 × zM) :=
  Option.bind (zpf S 12 a0 0 (0 : Int32)) (fun S1 =>
  Option.bind (zgf S1 12 a0 1) (fun x2 =>
  some (x2, S1)))
