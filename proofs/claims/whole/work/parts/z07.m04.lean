def zP_Mo_reading : List (List (Nat × zE)) := [[(0, e1 (.aload_n 0) 1 0), (1, e3 (.invokevirtual 272) 4 0 1 0), (4, e1 (.aload_n 0) 5 0), (5, e1 (.iload_n 1) 6 1), (6, e3 (.invokevirtual 303) 9 1 2 0), (9, e1 (.ifCond .ne 9) 12 18), (12, e1 (.aload_n 0) 13 0), (13, ei (.iconst 1) 14 0 (1)), (14, e3 (.invokevirtual 275) 17 2 2 0)],
  [(17, e0 (.ireturn) 18), (18, e1 (.aload_n 0) 19 0), (19, e1 (.lload_n 2) 20 2), (20, e3 (.invokevirtual 364) 23 3 2 0), (23, e1 (.ifCond .ne 9) 26 32), (26, e1 (.aload_n 0) 27 0), (27, ei (.iconst 2) 28 0 (2)), (28, e3 (.invokevirtual 275) 31 2 2 0), (31, e0 (.ireturn) 32)],
  [(32, e1 (.aload_n 0) 33 0), (33, e1 (.iload_n 1) 34 1), (34, e3 (.invokevirtual 368) 37 4 2 0), (37, e1 (.aload_n 0) 38 0), (38, e3 (.getfield 64) 41 12 38 2), (41, ei (.iconst 0) 42 0 (0)), (42, e0 (.iaload) 43), (43, e1 (.ifCond .ne 9) 46 52), (46, e1 (.aload_n 0) 47 0), (47, ei (.iconst 1) 48 0 (1))],
  [(48, e3 (.invokevirtual 275) 51 2 2 0), (51, e0 (.ireturn) 52), (52, ei (.iconst 0) 53 0 (0)), (53, e1 (.istore 5) 55 5), (55, ei (.iconst 0) 56 0 (0)), (56, e1 (.istore 6) 58 6), (58, e1 (.iload 6) 60 6), (60, e1 (.aload_n 0) 61 0), (61, e3 (.getfield 358) 64 12 41 0)],
  [(64, e1 (.if_icmp .ge 44) 67 108), (67, e1 (.aload_n 0) 68 0), (68, e1 (.iload 6) 70 6), (70, e3 (.invokevirtual 371) 73 5 2 0), (73, e1 (.istore 7) 75 7), (75, e1 (.iload 5) 77 5), (77, e1 (.iload 4) 79 4), (79, e1 (.if_icmp .ne 11) 82 90)],
  [(82, e1 (.aload_n 0) 83 0), (83, e3 (.getfield 49) 86 12 32 2), (86, e1 (.iload 7) 88 7), (88, e0 (.iaload) 89), (89, e0 (.ireturn) 90), (90, ei (.iinc 5 1) 93 5 (1)), (93, e1 (.iload 6) 95 6), (95, e1 (.aload_n 0) 96 0)],
  [(96, e3 (.getfield 52) 99 12 33 2), (99, e1 (.iload 7) 101 7), (101, e0 (.iaload) 102), (102, e0 (.iadd) 103), (103, e1 (.istore 6) 105 6), (105, e1 (.goto (-47)) 108 58), (108, e1 (.aload_n 0) 109 0), (109, ei (.iconst 1) 110 0 (1)), (110, e3 (.invokevirtual 275) 113 2 2 0)],
  [(113, e0 (.ireturn) 114)]]
noncomputable def zE_Mo_reading (α : Type) : Nat → zX α := fun i => bif Nat.beq i 0 then zA_vR_V 12 f_Mo_fresh else bif Nat.beq i 1 then zA_vRI_I 12 f_Mo_isPass else bif Nat.beq i 2 then zA_vRI_I 12 f_Mo_no else bif Nat.beq i 3 then zA_vRJ_I 12 f_Mo_laysLetters else bif Nat.beq i 4 then zA_vRI_V 12 f_Mo_laysReadings else bif Nat.beq i 5 then zA_vRI_I 12 f_Mo_firstPiece else fun _ _ _ => none
def zc_Mo_reading : Nat → Bool := fun pc => Nat.beq pc 58
def D_Mo_reading_58 (k : Nat → Int32 → Int32 → Int32 → zM → Option (Int32 × zM)) (lv : zV) (st : List Value) (S : zM) : Option (Int32 × zM) := match lv, st with
  | [some (.ref a0), _, _, _, some (.int a4), some (.int a5), some (.int a6), _], [] => k a0 a4 a5 a6 S
  | _, _ => none
theorem d_Mo_reading_58 {g : zV → Nat → List Value → zM → Prop} (Hw : zWk g) {k : Nat → Int32 → Int32 → Int32 → zM → Option (Int32 × zM)} {res : (Int32 × zM)} {lv : zV} {st : List Value} {S : zM} (h : D_Mo_reading_58 k lv st S = some res) (hk : ∀ a0 a4 a5 a6 S, k a0 a4 a5 a6 S = some res → g [some (.ref a0), none, none, none, some (.int a4), some (.int a5), some (.int a6), none] 58 [] S) : g lv 58 st S := by
  unfold D_Mo_reading_58 at h
  split at h
  · exact Hw _ _ _ _ _ (by simp [zle]) (hk _ _ _ _ _  h)
  · cases h
set_option maxRecDepth 100000 in
theorem r_Mo_reading_58 (n : Nat) (a0 : Nat) (a4 : Int32) (a5 : Int32) (a6 : Int32) (S : zM) : L_Mo_reading_58 (n + 1) a0 a4 a5 a6 S = zrt false zP_Mo_reading (zE_Mo_reading (Int32 × zM)) zc_Mo_reading zkI (fun pc lv st S => bif Nat.beq pc 58 then D_Mo_reading_58 (L_Mo_reading_58 n) lv st S else none) 1000 58 [some (.ref a0), none, none, none, some (.int a4), some (.int a5), some (.int a6), none] [] S := rfl
theorem g_Mo_reading_58 {g : zV → Nat → List Value → zM → Prop} {res : (Int32 × zM)} (H : zCl false zP_Mo_reading (zE_Mo_reading (Int32 × zM)) zkI res g) (Hw : zWk g) (n : Nat) : ∀ (a0 : Nat) (a4 : Int32) (a5 : Int32) (a6 : Int32) (S : zM), L_Mo_reading_58 n a0 a4 a5 a6 S = some res → g [some (.ref a0), none, none, none, some (.int a4), some (.int a5), some (.int a6), none] 58 [] S := by
  induction n with
  | zero => intro a0 a4 a5 a6 S h; cases h
  | succ n ih =>
    intro a0 a4 a5 a6 S h
    refine H zc_Mo_reading _ 1000 _ _ _ _ ((r_Mo_reading_58 n a0 a4 a5 a6 S).symm.trans h) (fun pc lv st S hK => ?_)
    rcases zdis hK with ⟨rfl, hK⟩ | hK
    · exact d_Mo_reading_58 Hw hK ih
    cases hK
set_option maxRecDepth 100000 in
theorem r_Mo_reading (a0 : Nat) (a1 : Int32) (a2 : Int64) (a4 : Int32) (S : zM) : f_Mo_reading a0 a1 a2 a4 S = zrt false zP_Mo_reading (zE_Mo_reading (Int32 × zM)) zc_Mo_reading zkI (fun pc lv st S => bif Nat.beq pc 58 then D_Mo_reading_58 (L_Mo_reading_58 zF) lv st S else none) 1000 0 [some (.ref a0), some (.int a1), some (.long a2), none, some (.int a4), none, none, none] [] S := rfl
theorem G_Mo_reading {g : zV → Nat → List Value → zM → Prop} {res : (Int32 × zM)} (H : zCl false zP_Mo_reading (zE_Mo_reading (Int32 × zM)) zkI res g) (Hw : zWk g) (a0 : Nat) (a1 : Int32) (a2 : Int64) (a4 : Int32) (S : zM) (h : f_Mo_reading a0 a1 a2 a4 S = some res) : g [some (.ref a0), some (.int a1), some (.long a2), none, some (.int a4), none, none, none] 0 [] S := by
  refine H zc_Mo_reading _ 1000 _ _ _ _ ((r_Mo_reading a0 a1 a2 a4 S).symm.trans h) (fun pc lv st S hK => ?_)
  rcases zdis hK with ⟨rfl, hK⟩ | hK
  · exact d_Mo_reading_58 Hw hK (g_Mo_reading_58 H Hw  zF)
  cases hK
set_option maxRecDepth 100000 in
theorem ok_Mo_reading : zokT 12 [61, 94, 63, 154, 156, 161] false 4 91 8 false (some .int) cX12_reading zP_Mo_reading = true := by decide +kernel
set_option maxRecDepth 100000 in
theorem s_Mo_reading {l : Launch} {HB : Heap} {b L : Nat} {xs : Nat → Int32} {aK aV : Nat → Nat} {G : va_G} {tc : Nat → ClassId} (h0 : zSnd l HB b L xs aK aV G tc (zMT.getD 61 zyD) (fun α => zA_vR_V 12 f_Mo_fresh)) (h1 : zSnd l HB b L xs aK aV G tc (zMT.getD 94 zyD) (fun α => zA_vRI_I 12 f_Mo_isPass)) (h2 : zSnd l HB b L xs aK aV G tc (zMT.getD 63 zyD) (fun α => zA_vRI_I 12 f_Mo_no)) (h3 : zSnd l HB b L xs aK aV G tc (zMT.getD 154 zyD) (fun α => zA_vRJ_I 12 f_Mo_laysLetters)) (h4 : zSnd l HB b L xs aK aV G tc (zMT.getD 156 zyD) (fun α => zA_vRI_V 12 f_Mo_laysReadings)) (h5 : zSnd l HB b L xs aK aV G tc (zMT.getD 161 zyD) (fun α => zA_vRI_I 12 f_Mo_firstPiece)) : zSnd l HB b L xs aK aV G tc (zMT.getD 162 zyD) (fun α => zA_vRIJI_I 12 f_Mo_reading) := by
  rw [show zMT.getD 162 zyD = (yX12_reading, cX12_reading, 8, (some .int), 0, 4, 4, 91) from rfl]
  intro α as S k res h
  unfold zA_vRIJI_I at h
  dsimp only at h
  split at h
  · rename_i a0 a1 a2 a4
    obtain ⟨p, hp, h⟩ := zbind h
    unfold zcl at hp
    split at hp
    · rename_i hkd
      have hm := zmeth (l := l) (HB := HB) (b := b) (L := L) (xs := xs) (aK := aK) (aV := aV) (G := G) (tc := tc) (q := (yX12_reading, cX12_reading, 8, (some .int), 0, 4, 4, 91)) (o := 12) (cs := [61, 94, 63, 154, 156, 161]) (rz := false) (T := zP_Mo_reading) (E := zE_Mo_reading (Int32 × zM)) (kr := zkI) (res := p) (v0 := some (.int p.1)) (S0 := p.2) (as := [.ref a0, .int a1, .long a2, .int a4]) (S := S) zMT_fine (by decide +kernel) (fun i as S k' h => by
        unfold zE_Mo_reading at h
        rcases zdisf h with ⟨rfl, h⟩ | h
        · exact h0 _ _ _ _ _ h
        rcases zdisf h with ⟨rfl, h⟩ | h
        · exact h1 _ _ _ _ _ h
        rcases zdisf h with ⟨rfl, h⟩ | h
        · exact h2 _ _ _ _ _ h
        rcases zdisf h with ⟨rfl, h⟩ | h
        · exact h3 _ _ _ _ _ h
        rcases zdisf h with ⟨rfl, h⟩ | h
        · exact h4 _ _ _ _ _ h
        rcases zdisf h with ⟨rfl, h⟩ | h
        · exact h5 _ _ _ _ _ h
        cases h) ok_Mo_reading rfl (fun v S' h => zkI_inv h) (Nat.le_of_ble_eq_true rfl) (fun g H Hw => Hw _ [some (.ref a0), some (.int a1), some (.long a2), none, some (.int a4), none, none, none] _ _ _ ⟨rfl, rfl, rfl, rfl, trivial⟩ (G_Mo_reading H Hw a0 a1 a2 a4 S hp))
      exact ⟨_, _, h, hm.1, rfl, fun _ => ⟨_, _, rfl⟩, (fun _ U H hK hH a r e => by cases e; exact zrecv (ci := 12) (by omega) hkd rfl U H hK hH), hm.2⟩
    · cases hp
  · cases h
def zP_Cl_sure : List (List (Nat × zE)) := [[(0, e1 (.aload_n 0) 1 0), (1, e3 (.invokevirtual 115) 4 0 1 0), (4, e1 (.ifCond .eq 9) 7 13), (7, e1 (.aload_n 0) 8 0), (8, ei (.iconst 1) 9 0 (1)), (9, e3 (.invokevirtual 79) 12 1 2 0), (12, e0 (.ireturn) 13), (13, ei (.iconst 0) 14 0 (0)), (14, e1 (.istore_n 1) 15 1), (15, e1 (.iload_n 1) 16 1)],
  [(16, e1 (.aload_n 0) 17 0), (17, e3 (.getfield 65) 20 11 10 2), (20, e3 (.getfield 106) 23 10 5 0), (23, e1 (.if_icmp .ge 61) 26 84), (26, e1 (.aload_n 0) 27 0), (27, e3 (.getfield 65) 30 11 10 2), (30, e1 (.iload_n 1) 31 1), (31, e3 (.invokevirtual 132) 34 2 2 0)],
  [(34, e1 (.astore_n 2) 35 2), (35, e1 (.aload_n 2) 36 2), (36, e1 (.ifnull 10) 39 46), (39, e1 (.aload_n 2) 40 2), (40, e3 (.getfield 140) 43 5 4 1), (43, e1 (.ifCond .eq 9) 46 52), (46, e1 (.aload_n 0) 47 0), (47, ei (.iconst 0) 48 0 (0))],
  [(48, e3 (.invokevirtual 109) 51 3 2 0), (51, e0 (.ireturn) 52), (52, e1 (.aload_n 0) 53 0), (53, e3 (.getfield 51) 56 11 8 2), (56, e1 (.aload_n 2) 57 2), (57, e3 (.invokevirtual 222) 60 4 2 0), (60, e1 (.aload_n 0) 61 0), (61, e3 (.getfield 51) 64 11 8 2)],
  [(64, e3 (.invokevirtual 208) 67 5 1 0), (67, ei (.bipush (-2)) 69 0 (-2)), (69, e1 (.if_icmp .eq 9) 72 78), (72, e1 (.aload_n 0) 73 0), (73, ei (.iconst 0) 74 0 (0)), (74, e3 (.invokevirtual 109) 77 3 2 0), (77, e0 (.ireturn) 78), (78, ei (.iinc 1 1) 81 1 (1))],
  [(81, e1 (.goto (-66)) 84 15), (84, e1 (.aload_n 0) 85 0), (85, ei (.iconst 1) 86 0 (1)), (86, e3 (.invokevirtual 109) 89 3 2 0), (89, e0 (.ireturn) 90)]]
noncomputable def zE_Cl_sure (α : Type) : Nat → zX α := fun i => bif Nat.beq i 0 then zA_vR_I 11 f_Cl_noScript else bif Nat.beq i 1 then zA_vRI_I 11 f_Cl_refuse else bif Nat.beq i 2 then zA_vRI_N 10 f_Script_passAt else bif Nat.beq i 3 then zA_vRI_I 11 f_Cl_answer else bif Nat.beq i 4 then zA_vRR_V 6 f_Pieces_gather else bif Nat.beq i 5 then zA_vR_I 6 f_Pieces_fewestReadTwice else fun _ _ _ => none
def zc_Cl_sure : Nat → Bool := fun pc => Nat.beq pc 15
def D_Cl_sure_15 (k : Nat → Int32 → zM → Option (Int32 × zM)) (lv : zV) (st : List Value) (S : zM) : Option (Int32 × zM) := match lv, st with
  | [some (.ref a0), some (.int a1), _], [] => k a0 a1 S
  | _, _ => none
theorem d_Cl_sure_15 {g : zV → Nat → List Value → zM → Prop} (Hw : zWk g) {k : Nat → Int32 → zM → Option (Int32 × zM)} {res : (Int32 × zM)} {lv : zV} {st : List Value} {S : zM} (h : D_Cl_sure_15 k lv st S = some res) (hk : ∀ a0 a1 S, k a0 a1 S = some res → g [some (.ref a0), some (.int a1), none] 15 [] S) : g lv 15 st S := by
  unfold D_Cl_sure_15 at h
  split at h
  · exact Hw _ _ _ _ _ (by simp [zle]) (hk _ _ _  h)
  · cases h
set_option maxRecDepth 100000 in
theorem r_Cl_sure_15 (n : Nat) (a0 : Nat) (a1 : Int32) (S : zM) : L_Cl_sure_15 (n + 1) a0 a1 S = zrt false zP_Cl_sure (zE_Cl_sure (Int32 × zM)) zc_Cl_sure zkI (fun pc lv st S => bif Nat.beq pc 15 then D_Cl_sure_15 (L_Cl_sure_15 n) lv st S else none) 1000 15 [some (.ref a0), some (.int a1), none] [] S := rfl
theorem g_Cl_sure_15 {g : zV → Nat → List Value → zM → Prop} {res : (Int32 × zM)} (H : zCl false zP_Cl_sure (zE_Cl_sure (Int32 × zM)) zkI res g) (Hw : zWk g) (n : Nat) : ∀ (a0 : Nat) (a1 : Int32) (S : zM), L_Cl_sure_15 n a0 a1 S = some res → g [some (.ref a0), some (.int a1), none] 15 [] S := by
  induction n with
  | zero => intro a0 a1 S h; cases h
  | succ n ih =>
    intro a0 a1 S h
    refine H zc_Cl_sure _ 1000 _ _ _ _ ((r_Cl_sure_15 n a0 a1 S).symm.trans h) (fun pc lv st S hK => ?_)
    rcases zdis hK with ⟨rfl, hK⟩ | hK
    · exact d_Cl_sure_15 Hw hK ih
    cases hK
set_option maxRecDepth 100000 in
theorem r_Cl_sure (a0 : Nat) (S : zM) : f_Cl_sure a0 S = zrt false zP_Cl_sure (zE_Cl_sure (Int32 × zM)) zc_Cl_sure zkI (fun pc lv st S => bif Nat.beq pc 15 then D_Cl_sure_15 (L_Cl_sure_15 zF) lv st S else none) 1000 0 [some (.ref a0), none, none] [] S := rfl
theorem G_Cl_sure {g : zV → Nat → List Value → zM → Prop} {res : (Int32 × zM)} (H : zCl false zP_Cl_sure (zE_Cl_sure (Int32 × zM)) zkI res g) (Hw : zWk g) (a0 : Nat) (S : zM) (h : f_Cl_sure a0 S = some res) : g [some (.ref a0), none, none] 0 [] S := by
  refine H zc_Cl_sure _ 1000 _ _ _ _ ((r_Cl_sure a0 S).symm.trans h) (fun pc lv st S hK => ?_)
  rcases zdis hK with ⟨rfl, hK⟩ | hK
  · exact d_Cl_sure_15 Hw hK (g_Cl_sure_15 H Hw  zF)
  cases hK
set_option maxRecDepth 100000 in
theorem ok_Cl_sure : zokT 11 [87, 16, 44, 59, 125, 139] false 5 116 3 false (some .int) cX11_sure zP_Cl_sure = true := by decide +kernel
set_option maxRecDepth 100000 in
theorem s_Cl_sure {l : Launch} {HB : Heap} {b L : Nat} {xs : Nat → Int32} {aK aV : Nat → Nat} {G : va_G} {tc : Nat → ClassId} (h0 : zSnd l HB b L xs aK aV G tc (zMT.getD 87 zyD) (fun α => zA_vR_I 11 f_Cl_noScript)) (h1 : zSnd l HB b L xs aK aV G tc (zMT.getD 16 zyD) (fun α => zA_vRI_I 11 f_Cl_refuse)) (h2 : zSnd l HB b L xs aK aV G tc (zMT.getD 44 zyD) (fun α => zA_vRI_N 10 f_Script_passAt)) (h3 : zSnd l HB b L xs aK aV G tc (zMT.getD 59 zyD) (fun α => zA_vRI_I 11 f_Cl_answer)) (h4 : zSnd l HB b L xs aK aV G tc (zMT.getD 125 zyD) (fun α => zA_vRR_V 6 f_Pieces_gather)) (h5 : zSnd l HB b L xs aK aV G tc (zMT.getD 139 zyD) (fun α => zA_vR_I 6 f_Pieces_fewestReadTwice)) : zSnd l HB b L xs aK aV G tc (zMT.getD 163 zyD) (fun α => zA_vR_I 11 f_Cl_sure) := by
  rw [show zMT.getD 163 zyD = (yX11_sure, cX11_sure, 3, (some .int), 0, 1, 5, 116) from rfl]
  intro α as S k res h
  unfold zA_vR_I at h
  dsimp only at h
  split at h
  · rename_i a0
    obtain ⟨p, hp, h⟩ := zbind h
    unfold zcl at hp
    split at hp
    · rename_i hkd
      have hm := zmeth (l := l) (HB := HB) (b := b) (L := L) (xs := xs) (aK := aK) (aV := aV) (G := G) (tc := tc) (q := (yX11_sure, cX11_sure, 3, (some .int), 0, 1, 5, 116)) (o := 11) (cs := [87, 16, 44, 59, 125, 139]) (rz := false) (T := zP_Cl_sure) (E := zE_Cl_sure (Int32 × zM)) (kr := zkI) (res := p) (v0 := some (.int p.1)) (S0 := p.2) (as := [.ref a0]) (S := S) zMT_fine (by decide +kernel) (fun i as S k' h => by
        unfold zE_Cl_sure at h
        rcases zdisf h with ⟨rfl, h⟩ | h
        · exact h0 _ _ _ _ _ h
        rcases zdisf h with ⟨rfl, h⟩ | h
        · exact h1 _ _ _ _ _ h
        rcases zdisf h with ⟨rfl, h⟩ | h
        · exact h2 _ _ _ _ _ h
        rcases zdisf h with ⟨rfl, h⟩ | h
        · exact h3 _ _ _ _ _ h
        rcases zdisf h with ⟨rfl, h⟩ | h
        · exact h4 _ _ _ _ _ h
        rcases zdisf h with ⟨rfl, h⟩ | h
        · exact h5 _ _ _ _ _ h
        cases h) ok_Cl_sure rfl (fun v S' h => zkI_inv h) (Nat.le_of_ble_eq_true rfl) (fun g H Hw => Hw _ [some (.ref a0), none, none] _ _ _ ⟨rfl, trivial⟩ (G_Cl_sure H Hw a0 S hp))
      exact ⟨_, _, h, hm.1, rfl, fun _ => ⟨_, _, rfl⟩, (fun _ U H hK hH a r e => by cases e; exact zrecv (ci := 11) (by omega) hkd rfl U H hK hH), hm.2⟩
    · cases hp
  · cases h
def zP_Mo_sure : List (List (Nat × zE)) := [[(0, e1 (.aload_n 0) 1 0), (1, e3 (.invokevirtual 272) 4 0 1 0), (4, e1 (.aload_n 0) 5 0), (5, e3 (.getfield 293) 8 12 9 1), (8, e1 (.ifCond .ne 9) 11 17), (11, e1 (.aload_n 0) 12 0), (12, ei (.iconst 1) 13 0 (1)), (13, e3 (.invokevirtual 275) 16 1 2 0)],
  [(16, e0 (.ireturn) 17), (17, ei (.iconst 0) 18 0 (0)), (18, e1 (.istore_n 1) 19 1), (19, e1 (.iload_n 1) 20 1), (20, e1 (.aload_n 0) 21 0), (21, e3 (.getfield 290) 24 12 8 0), (24, e1 (.if_icmp .ge 34) 27 58), (27, e1 (.aload_n 0) 28 0), (28, e1 (.iload_n 1) 29 1), (29, e3 (.invokevirtual 338) 32 2 2 0)],
  [(32, e1 (.aload_n 0) 33 0), (33, e3 (.getfield 23) 36 12 12 2), (36, e1 (.iload_n 1) 37 1), (37, e0 (.baload) 38), (38, e1 (.ifCond .ne 12) 41 50), (41, e1 (.aload_n 0) 42 0), (42, e3 (.invokevirtual 355) 45 3 1 0), (45, ei (.bipush (-2)) 47 0 (-2)), (47, e1 (.if_icmp .eq 5) 50 52)],
  [(50, ei (.iconst 0) 51 0 (0)), (51, e0 (.ireturn) 52), (52, ei (.iinc 1 1) 55 1 (1)), (55, e1 (.goto (-36)) 58 19), (58, ei (.iconst 1) 59 0 (1)), (59, e0 (.ireturn) 60)]]
noncomputable def zE_Mo_sure (α : Type) : Nat → zX α := fun i => bif Nat.beq i 0 then zA_vR_V 12 f_Mo_fresh else bif Nat.beq i 1 then zA_vRI_I 12 f_Mo_no else bif Nat.beq i 2 then zA_vRI_V 12 f_Mo_laysPieces else bif Nat.beq i 3 then zA_vR_I 12 f_Mo_unclearOf else fun _ _ _ => none
def zc_Mo_sure : Nat → Bool := fun pc => Nat.beq pc 19
def D_Mo_sure_19 (k : Nat → Int32 → zM → Option (Int32 × zM)) (lv : zV) (st : List Value) (S : zM) : Option (Int32 × zM) := match lv, st with
  | [some (.ref a0), some (.int a1)], [] => k a0 a1 S
  | _, _ => none
theorem d_Mo_sure_19 {g : zV → Nat → List Value → zM → Prop} (Hw : zWk g) {k : Nat → Int32 → zM → Option (Int32 × zM)} {res : (Int32 × zM)} {lv : zV} {st : List Value} {S : zM} (h : D_Mo_sure_19 k lv st S = some res) (hk : ∀ a0 a1 S, k a0 a1 S = some res → g [some (.ref a0), some (.int a1)] 19 [] S) : g lv 19 st S := by
  unfold D_Mo_sure_19 at h
  split at h
  · exact Hw _ _ _ _ _ (by simp [zle]) (hk _ _ _  h)
  · cases h
set_option maxRecDepth 100000 in
theorem r_Mo_sure_19 (n : Nat) (a0 : Nat) (a1 : Int32) (S : zM) : L_Mo_sure_19 (n + 1) a0 a1 S = zrt false zP_Mo_sure (zE_Mo_sure (Int32 × zM)) zc_Mo_sure zkI (fun pc lv st S => bif Nat.beq pc 19 then D_Mo_sure_19 (L_Mo_sure_19 n) lv st S else none) 1000 19 [some (.ref a0), some (.int a1)] [] S := rfl
theorem g_Mo_sure_19 {g : zV → Nat → List Value → zM → Prop} {res : (Int32 × zM)} (H : zCl false zP_Mo_sure (zE_Mo_sure (Int32 × zM)) zkI res g) (Hw : zWk g) (n : Nat) : ∀ (a0 : Nat) (a1 : Int32) (S : zM), L_Mo_sure_19 n a0 a1 S = some res → g [some (.ref a0), some (.int a1)] 19 [] S := by
  induction n with
  | zero => intro a0 a1 S h; cases h
  | succ n ih =>
    intro a0 a1 S h
    refine H zc_Mo_sure _ 1000 _ _ _ _ ((r_Mo_sure_19 n a0 a1 S).symm.trans h) (fun pc lv st S hK => ?_)
    rcases zdis hK with ⟨rfl, hK⟩ | hK
    · exact d_Mo_sure_19 Hw hK ih
    cases hK
set_option maxRecDepth 100000 in
theorem r_Mo_sure (a0 : Nat) (S : zM) : f_Mo_sure a0 S = zrt false zP_Mo_sure (zE_Mo_sure (Int32 × zM)) zc_Mo_sure zkI (fun pc lv st S => bif Nat.beq pc 19 then D_Mo_sure_19 (L_Mo_sure_19 zF) lv st S else none) 1000 0 [some (.ref a0), none] [] S := rfl
theorem G_Mo_sure {g : zV → Nat → List Value → zM → Prop} {res : (Int32 × zM)} (H : zCl false zP_Mo_sure (zE_Mo_sure (Int32 × zM)) zkI res g) (Hw : zWk g) (a0 : Nat) (S : zM) (h : f_Mo_sure a0 S = some res) : g [some (.ref a0), none] 0 [] S := by
  refine H zc_Mo_sure _ 1000 _ _ _ _ ((r_Mo_sure a0 S).symm.trans h) (fun pc lv st S hK => ?_)
  rcases zdis hK with ⟨rfl, hK⟩ | hK
  · exact d_Mo_sure_19 Hw hK (g_Mo_sure_19 H Hw  zF)
  cases hK
set_option maxRecDepth 100000 in
theorem ok_Mo_sure : zokT 12 [61, 63, 129, 145] false 3 74 2 false (some .int) cX12_sure zP_Mo_sure = true := by decide +kernel
set_option maxRecDepth 100000 in
theorem s_Mo_sure {l : Launch} {HB : Heap} {b L : Nat} {xs : Nat → Int32} {aK aV : Nat → Nat} {G : va_G} {tc : Nat → ClassId} (h0 : zSnd l HB b L xs aK aV G tc (zMT.getD 61 zyD) (fun α => zA_vR_V 12 f_Mo_fresh)) (h1 : zSnd l HB b L xs aK aV G tc (zMT.getD 63 zyD) (fun α => zA_vRI_I 12 f_Mo_no)) (h2 : zSnd l HB b L xs aK aV G tc (zMT.getD 129 zyD) (fun α => zA_vRI_V 12 f_Mo_laysPieces)) (h3 : zSnd l HB b L xs aK aV G tc (zMT.getD 145 zyD) (fun α => zA_vR_I 12 f_Mo_unclearOf)) : zSnd l HB b L xs aK aV G tc (zMT.getD 164 zyD) (fun α => zA_vR_I 12 f_Mo_sure) := by
  rw [show zMT.getD 164 zyD = (yX12_sure, cX12_sure, 2, (some .int), 0, 1, 3, 74) from rfl]
  intro α as S k res h
  unfold zA_vR_I at h
  dsimp only at h
  split at h
  · rename_i a0
    obtain ⟨p, hp, h⟩ := zbind h
    unfold zcl at hp
    split at hp
    · rename_i hkd
      have hm := zmeth (l := l) (HB := HB) (b := b) (L := L) (xs := xs) (aK := aK) (aV := aV) (G := G) (tc := tc) (q := (yX12_sure, cX12_sure, 2, (some .int), 0, 1, 3, 74)) (o := 12) (cs := [61, 63, 129, 145]) (rz := false) (T := zP_Mo_sure) (E := zE_Mo_sure (Int32 × zM)) (kr := zkI) (res := p) (v0 := some (.int p.1)) (S0 := p.2) (as := [.ref a0]) (S := S) zMT_fine (by decide +kernel) (fun i as S k' h => by
        unfold zE_Mo_sure at h
        rcases zdisf h with ⟨rfl, h⟩ | h
        · exact h0 _ _ _ _ _ h
        rcases zdisf h with ⟨rfl, h⟩ | h
        · exact h1 _ _ _ _ _ h
        rcases zdisf h with ⟨rfl, h⟩ | h
        · exact h2 _ _ _ _ _ h
        rcases zdisf h with ⟨rfl, h⟩ | h
        · exact h3 _ _ _ _ _ h
        cases h) ok_Mo_sure rfl (fun v S' h => zkI_inv h) (Nat.le_of_ble_eq_true rfl) (fun g H Hw => Hw _ [some (.ref a0), none] _ _ _ ⟨rfl, trivial⟩ (G_Mo_sure H Hw a0 S hp))
      exact ⟨_, _, h, hm.1, rfl, fun _ => ⟨_, _, rfl⟩, (fun _ U H hK hH a r e => by cases e; exact zrecv (ci := 12) (by omega) hkd rfl U H hK hH), hm.2⟩
    · cases hp
  · cases h
def zP_Row_addAll : List (List (Nat × zE)) := [[(0, e1 (.aload_n 0) 1 0), (1, e3 (.getfield 15) 4 8 1 0), (4, e1 (.aload_n 1) 5 1), (5, e3 (.getfield 15) 8 8 1 0), (8, e0 (.iadd) 9), (9, e1 (.aload_n 0) 10 0), (10, e3 (.getfield 9) 13 8 0 2), (13, e0 (.arraylength) 14), (14, e1 (.if_icmp .le 5) 17 19)],
  [(17, ei (.iconst 0) 18 0 (0)), (18, e0 (.ireturn) 19), (19, e1 (.aload_n 1) 20 1), (20, e3 (.getfield 9) 23 8 0 2), (23, ei (.iconst 0) 24 0 (0)), (24, e1 (.aload_n 0) 25 0), (25, e3 (.getfield 9) 28 8 0 2), (28, e1 (.aload_n 0) 29 0), (29, e3 (.getfield 15) 32 8 1 0)],
  [(32, e1 (.aload_n 1) 33 1), (33, e3 (.getfield 15) 36 8 1 0), (36, e3 (.invokestatic 19) 39 998 5 0), (39, e1 (.aload_n 0) 40 0), (40, e0 (.dup) 41), (41, e3 (.getfield 15) 44 8 1 0), (44, e1 (.aload_n 1) 45 1), (45, e3 (.getfield 15) 48 8 1 0)],
  [(48, e0 (.iadd) 49), (49, e3 (.putfield 15) 52 8 1 0), (52, ei (.iconst 1) 53 0 (1)), (53, e0 (.ireturn) 54)]]
noncomputable def zE_Row_addAll (α : Type) : Nat → zX α := fun _ => fun _ _ _ => none
def zc_Row_addAll : Nat → Bool := fun pc => false
set_option maxRecDepth 100000 in
theorem r_Row_addAll (a0 : Nat) (a1 : Nat) (S : zM) : f_Row_addAll a0 a1 S = zrt true zP_Row_addAll (zE_Row_addAll (Int32 × zM)) zc_Row_addAll zkI (fun pc lv st S => none) 1000 0 [some (.ref a0), some (.ref a1)] [] S := rfl
theorem G_Row_addAll {g : zV → Nat → List Value → zM → Prop} {res : (Int32 × zM)} (H : zCl true zP_Row_addAll (zE_Row_addAll (Int32 × zM)) zkI res g) (Hw : zWk g) (a0 : Nat) (a1 : Nat) (S : zM) (h : f_Row_addAll a0 a1 S = some res) : g [some (.ref a0), some (.ref a1)] 0 [] S := by
  refine H zc_Row_addAll _ 1000 _ _ _ _ ((r_Row_addAll a0 a1 S).symm.trans h) (fun pc lv st S hK => ?_)
  cases hK
set_option maxRecDepth 100000 in
theorem ok_Row_addAll : zokT 8 [] false 1 60 2 true (some .boolean) cX8_addAll zP_Row_addAll = true := by decide +kernel
set_option maxRecDepth 100000 in
theorem s_Row_addAll {l : Launch} {HB : Heap} {b L : Nat} {xs : Nat → Int32} {aK aV : Nat → Nat} {G : va_G} {tc : Nat → ClassId} : zSnd l HB b L xs aK aV G tc (zMT.getD 165 zyD) (fun α => zA_vRR_I 8 f_Row_addAll) := by
  rw [show zMT.getD 165 zyD = (yX8_addAll, cX8_addAll, 2, (some .boolean), 0, 2, 1, 60) from rfl]
  intro α as S k res h
  unfold zA_vRR_I at h
  dsimp only at h
  split at h
  · rename_i a0 a1
    obtain ⟨p, hp, h⟩ := zbind h
    unfold zcl at hp
    split at hp
    · rename_i hkd
      have hm := zmeth (l := l) (HB := HB) (b := b) (L := L) (xs := xs) (aK := aK) (aV := aV) (G := G) (tc := tc) (q := (yX8_addAll, cX8_addAll, 2, (some .boolean), 0, 2, 1, 60)) (o := 8) (cs := []) (rz := true) (T := zP_Row_addAll) (E := zE_Row_addAll (Int32 × zM)) (kr := zkI) (res := p) (v0 := some (.int p.1)) (S0 := p.2) (as := [.ref a0, .ref a1]) (S := S) zMT_fine (by decide +kernel) (fun i as S k' h => by
        unfold zE_Row_addAll at h
        cases h) ok_Row_addAll rfl (fun v S' h => zkI_inv h) (Nat.le_of_ble_eq_true rfl) (fun g H Hw => Hw _ [some (.ref a0), some (.ref a1)] _ _ _ ⟨rfl, rfl, trivial⟩ (G_Row_addAll H Hw a0 a1 S hp))
      exact ⟨_, _, h, hm.1, rfl, fun _ => ⟨_, _, rfl⟩, (fun _ U H hK hH a r e => by cases e; exact zrecv (ci := 8) (by omega) hkd rfl U H hK hH), hm.2⟩
    · cases hp
  · cases h
def zP_Row_copy : List (List (Nat × zE)) := [[(0, e1 (.aload_n 0) 1 0), (1, e3 (.invokevirtual 25) 4 0 1 0), (4, e1 (.aload_n 0) 5 0), (5, e1 (.aload_n 1) 6 1), (6, e3 (.invokevirtual 28) 9 1 2 0), (9, e0 (.pop) 10), (10, e0 (.return_) 11)]]
noncomputable def zE_Row_copy (α : Type) : Nat → zX α := fun i => bif Nat.beq i 0 then zA_vR_V 8 f_Row_drop else bif Nat.beq i 1 then zA_vRR_I 8 f_Row_addAll else fun _ _ _ => none
def zc_Row_copy : Nat → Bool := fun pc => false
set_option maxRecDepth 100000 in
theorem r_Row_copy (a0 : Nat) (a1 : Nat) (S : zM) : f_Row_copy a0 a1 S = zrt false zP_Row_copy (zE_Row_copy zM) zc_Row_copy zkV (fun pc lv st S => none) 1000 0 [some (.ref a0), some (.ref a1)] [] S := rfl
theorem G_Row_copy {g : zV → Nat → List Value → zM → Prop} {res : zM} (H : zCl false zP_Row_copy (zE_Row_copy zM) zkV res g) (Hw : zWk g) (a0 : Nat) (a1 : Nat) (S : zM) (h : f_Row_copy a0 a1 S = some res) : g [some (.ref a0), some (.ref a1)] 0 [] S := by
  refine H zc_Row_copy _ 1000 _ _ _ _ ((r_Row_copy a0 a1 S).symm.trans h) (fun pc lv st S hK => ?_)
  cases hK
set_option maxRecDepth 100000 in
theorem ok_Row_copy : zokT 8 [36, 165] false 2 81 2 false none cX8_copy zP_Row_copy = true := by decide +kernel
set_option maxRecDepth 100000 in
theorem s_Row_copy {l : Launch} {HB : Heap} {b L : Nat} {xs : Nat → Int32} {aK aV : Nat → Nat} {G : va_G} {tc : Nat → ClassId} (h0 : zSnd l HB b L xs aK aV G tc (zMT.getD 36 zyD) (fun α => zA_vR_V 8 f_Row_drop)) (h1 : zSnd l HB b L xs aK aV G tc (zMT.getD 165 zyD) (fun α => zA_vRR_I 8 f_Row_addAll)) : zSnd l HB b L xs aK aV G tc (zMT.getD 166 zyD) (fun α => zA_vRR_V 8 f_Row_copy) := by
  rw [show zMT.getD 166 zyD = (yX8_copy, cX8_copy, 2, none, 0, 2, 2, 81) from rfl]
  intro α as S k res h
  unfold zA_vRR_V at h
  dsimp only at h
  split at h
  · rename_i a0 a1
    obtain ⟨p, hp, h⟩ := zbind h
    unfold zcl at hp
    split at hp
    · rename_i hkd
      have hm := zmeth (l := l) (HB := HB) (b := b) (L := L) (xs := xs) (aK := aK) (aV := aV) (G := G) (tc := tc) (q := (yX8_copy, cX8_copy, 2, none, 0, 2, 2, 81)) (o := 8) (cs := [36, 165]) (rz := false) (T := zP_Row_copy) (E := zE_Row_copy zM) (kr := zkV) (res := p) (v0 := none) (S0 := p) (as := [.ref a0, .ref a1]) (S := S) zMT_fine (by decide +kernel) (fun i as S k' h => by
        unfold zE_Row_copy at h
        rcases zdisf h with ⟨rfl, h⟩ | h
        · exact h0 _ _ _ _ _ h
        rcases zdisf h with ⟨rfl, h⟩ | h
        · exact h1 _ _ _ _ _ h
        cases h) ok_Row_copy rfl (fun v S' h => zkV_inv h) (Nat.le_of_ble_eq_true rfl) (fun g H Hw => Hw _ [some (.ref a0), some (.ref a1)] _ _ _ ⟨rfl, rfl, trivial⟩ (G_Row_copy H Hw a0 a1 S hp))
      exact ⟨_, _, h, hm.1, rfl, fun _ => ⟨_, _, rfl⟩, (fun _ U H hK hH a r e => by cases e; exact zrecv (ci := 8) (by omega) hkd rfl U H hK hH), hm.2⟩
    · cases hp
  · cases h
def zP_Carrier_behindPass : List (List (Nat × zE)) := [[(0, e1 (.iload_n 1) 1 1), (1, e1 (.ifCond .lt 8) 4 9), (4, e1 (.iload_n 1) 5 1), (5, ei (.iconst 3) 6 0 (3)), (6, e1 (.if_icmp .lt 7) 9 13), (9, e0 (.aconst_null) 10), (10, e1 (.goto 9) 13 19), (13, e1 (.aload_n 0) 14 0), (14, e3 (.getfield 11) 17 1 0 2)],
  [(17, e1 (.iload_n 1) 18 1), (18, e3 (.aaload) 19 8 0 3), (19, e0 (.areturn) 20)]]
noncomputable def zE_Carrier_behindPass (α : Type) : Nat → zX α := fun _ => fun _ _ _ => none
def zc_Carrier_behindPass : Nat → Bool := fun pc => false
set_option maxRecDepth 100000 in
theorem r_Carrier_behindPass (a0 : Nat) (a1 : Int32) (S : zM) : f_Carrier_behindPass a0 a1 S = zrt false zP_Carrier_behindPass (zE_Carrier_behindPass (Option Nat × zM)) zc_Carrier_behindPass zkN (fun pc lv st S => none) 1000 0 [some (.ref a0), some (.int a1)] [] S := rfl
theorem G_Carrier_behindPass {g : zV → Nat → List Value → zM → Prop} {res : (Option Nat × zM)} (H : zCl false zP_Carrier_behindPass (zE_Carrier_behindPass (Option Nat × zM)) zkN res g) (Hw : zWk g) (a0 : Nat) (a1 : Int32) (S : zM) (h : f_Carrier_behindPass a0 a1 S = some res) : g [some (.ref a0), some (.int a1)] 0 [] S := by
  refine H zc_Carrier_behindPass _ 1000 _ _ _ _ ((r_Carrier_behindPass a0 a1 S).symm.trans h) (fun pc lv st S hK => ?_)
  cases hK
set_option maxRecDepth 100000 in
theorem ok_Carrier_behindPass : zokT 1 [] false 0 0 2 false (some (.object "CarriedLetters$Row")) cX1_behindPass zP_Carrier_behindPass = true := by decide +kernel
set_option maxRecDepth 100000 in
theorem s_Carrier_behindPass {l : Launch} {HB : Heap} {b L : Nat} {xs : Nat → Int32} {aK aV : Nat → Nat} {G : va_G} {tc : Nat → ClassId} : zSnd l HB b L xs aK aV G tc (zMT.getD 167 zyD) (fun α => zA_vRI_N 1 f_Carrier_behindPass) := by
  rw [show zMT.getD 167 zyD = (yX1_behindPass, cX1_behindPass, 2, (some (.object "CarriedLetters$Row")), 0, 2, 0, 0) from rfl]
  intro α as S k res h
  unfold zA_vRI_N at h
  dsimp only at h
  split at h
  · rename_i a0 a1
    obtain ⟨p, hp, h⟩ := zbind h
    unfold zcl at hp
    split at hp
    · rename_i hkd
      have hm := zmeth (l := l) (HB := HB) (b := b) (L := L) (xs := xs) (aK := aK) (aV := aV) (G := G) (tc := tc) (q := (yX1_behindPass, cX1_behindPass, 2, (some (.object "CarriedLetters$Row")), 0, 2, 0, 0)) (o := 1) (cs := []) (rz := false) (T := zP_Carrier_behindPass) (E := zE_Carrier_behindPass (Option Nat × zM)) (kr := zkN) (res := p) (v0 := some (match p.1 with | some a => .ref a | none => .null)) (S0 := p.2) (as := [.ref a0, .int a1]) (S := S) zMT_fine (by decide +kernel) (fun i as S k' h => by
        unfold zE_Carrier_behindPass at h
        cases h) ok_Carrier_behindPass rfl (fun v S' h => zkN_inv h) (Nat.le_of_ble_eq_true rfl) (fun g H Hw => Hw _ [some (.ref a0), some (.int a1)] _ _ _ ⟨rfl, rfl, trivial⟩ (G_Carrier_behindPass H Hw a0 a1 S hp))
      exact ⟨_, _, (by cases hq : p.1 <;> rw [hq] at h <;> exact h), hm.1, rfl, fun _ => ⟨_, _, rfl⟩, (fun _ U H hK hH a r e => by cases e; exact zrecv (ci := 1) (by omega) hkd rfl U H hK hH), hm.2⟩
    · cases hp
  · cases h
def zP_Row_beside : List (List (Nat × zE)) := [[(0, e1 (.iload_n 1) 1 1), (1, e1 (.ifCond .lt 20) 4 21), (4, e1 (.iload_n 1) 5 1), (5, e1 (.aload_n 0) 6 0), (6, e3 (.getfield 15) 9 8 1 0), (9, e1 (.if_icmp .ge 12) 12 21), (12, e1 (.iload_n 1) 13 1), (13, e1 (.aload_n 0) 14 0), (14, e3 (.getfield 9) 17 8 0 2)],
  [(17, e0 (.arraylength) 18), (18, e1 (.if_icmp .lt 8) 21 26), (21, ei (.bipush 8) 23 0 (8)), (23, e1 (.goto 9) 26 32), (26, e1 (.aload_n 0) 27 0), (27, e3 (.getfield 9) 30 8 0 2), (30, e1 (.iload_n 1) 31 1), (31, e0 (.iaload) 32)],
  [(32, e0 (.ireturn) 33)]]
noncomputable def zE_Row_beside (α : Type) : Nat → zX α := fun _ => fun _ _ _ => none
def zc_Row_beside : Nat → Bool := fun pc => false
set_option maxRecDepth 100000 in
theorem r_Row_beside (a0 : Nat) (a1 : Int32) (S : zM) : f_Row_beside a0 a1 S = zrt false zP_Row_beside (zE_Row_beside (Int32 × zM)) zc_Row_beside zkI (fun pc lv st S => none) 1000 0 [some (.ref a0), some (.int a1)] [] S := rfl
theorem G_Row_beside {g : zV → Nat → List Value → zM → Prop} {res : (Int32 × zM)} (H : zCl false zP_Row_beside (zE_Row_beside (Int32 × zM)) zkI res g) (Hw : zWk g) (a0 : Nat) (a1 : Int32) (S : zM) (h : f_Row_beside a0 a1 S = some res) : g [some (.ref a0), some (.int a1)] 0 [] S := by
  refine H zc_Row_beside _ 1000 _ _ _ _ ((r_Row_beside a0 a1 S).symm.trans h) (fun pc lv st S hK => ?_)
  cases hK
set_option maxRecDepth 100000 in
theorem ok_Row_beside : zokT 8 [] false 0 0 2 false (some .int) cX8_beside zP_Row_beside = true := by decide +kernel
set_option maxRecDepth 100000 in
theorem s_Row_beside {l : Launch} {HB : Heap} {b L : Nat} {xs : Nat → Int32} {aK aV : Nat → Nat} {G : va_G} {tc : Nat → ClassId} : zSnd l HB b L xs aK aV G tc (zMT.getD 168 zyD) (fun α => zA_vRI_I 8 f_Row_beside) := by
  rw [show zMT.getD 168 zyD = (yX8_beside, cX8_beside, 2, (some .int), 0, 2, 0, 0) from rfl]
  intro α as S k res h
  unfold zA_vRI_I at h
  dsimp only at h
  split at h
  · rename_i a0 a1
    obtain ⟨p, hp, h⟩ := zbind h
    unfold zcl at hp
    split at hp
    · rename_i hkd
      have hm := zmeth (l := l) (HB := HB) (b := b) (L := L) (xs := xs) (aK := aK) (aV := aV) (G := G) (tc := tc) (q := (yX8_beside, cX8_beside, 2, (some .int), 0, 2, 0, 0)) (o := 8) (cs := []) (rz := false) (T := zP_Row_beside) (E := zE_Row_beside (Int32 × zM)) (kr := zkI) (res := p) (v0 := some (.int p.1)) (S0 := p.2) (as := [.ref a0, .int a1]) (S := S) zMT_fine (by decide +kernel) (fun i as S k' h => by
        unfold zE_Row_beside at h
        cases h) ok_Row_beside rfl (fun v S' h => zkI_inv h) (Nat.le_of_ble_eq_true rfl) (fun g H Hw => Hw _ [some (.ref a0), some (.int a1)] _ _ _ ⟨rfl, rfl, trivial⟩ (G_Row_beside H Hw a0 a1 S hp))
      exact ⟨_, _, h, hm.1, rfl, fun _ => ⟨_, _, rfl⟩, (fun _ U H hK hH a r e => by cases e; exact zrecv (ci := 8) (by omega) hkd rfl U H hK hH), hm.2⟩
    · cases hp
  · cases h
def zP_Machine_ruleFor : List (List (Nat × zE)) := [[(0, e1 (.iload_n 3) 1 3), (1, e1 (.aload_n 0) 2 0), (2, e3 (.getfield 21) 5 3 3 2), (5, e1 (.aload_n 1) 6 1), (6, e1 (.iload_n 2) 7 2), (7, ei (.iconst 1) 8 0 (1)), (8, e0 (.isub) 9), (9, e3 (.invokevirtual 82) 12 0 2 0), (12, e0 (.iaload) 13), (13, e0 (.iand) 14), (14, e1 (.istore 4) 16 4)],
  [(16, ei (.iconst (-1)) 17 0 (-1)), (17, e1 (.istore 5) 19 5), (19, ei (.iconst 0) 20 0 (0)), (20, e1 (.istore 6) 22 6), (22, e1 (.iload_n 2) 23 2), (23, e1 (.istore 7) 25 7), (25, e1 (.iload 7) 27 7), (27, e1 (.aload_n 1) 28 1), (28, e3 (.getfield 79) 31 8 1 0), (31, e1 (.if_icmp .ge 116) 34 147)],
  [(34, e1 (.iload 4) 36 4), (36, e1 (.ifCond .eq 111) 39 147), (39, e1 (.iload 6) 41 6), (41, ei (.bipush 8) 43 0 (8)), (43, e0 (.imul) 44), (44, e1 (.aload_n 1) 45 1), (45, e1 (.iload 7) 47 7), (47, e3 (.invokevirtual 73) 50 1 2 0)],
  [(50, e0 (.iadd) 51), (51, e1 (.istore 8) 53 8), (53, e1 (.iload 8) 55 8), (55, e1 (.ifCond .lt 13) 58 68), (58, e1 (.iload 8) 60 8), (60, e1 (.aload_n 0) 61 0), (61, e3 (.getfield 11) 64 3 0 2)],
  [(64, e0 (.arraylength) 65), (65, e1 (.if_icmp .lt 8) 68 73), (68, ei (.bipush (-2)) 70 0 (-2)), (70, e1 (.goto 10) 73 80), (73, e1 (.aload_n 0) 74 0), (74, e3 (.getfield 11) 77 3 0 2), (77, e1 (.iload 8) 79 8), (79, e0 (.iaload) 80)],
  [(80, e1 (.istore 6) 82 6), (82, e1 (.iload 6) 84 6), (84, e1 (.ifCond .lt 63) 87 147), (87, e1 (.iload 6) 89 6), (89, ei (.bipush 33) 91 0 (33)), (91, e1 (.if_icmp .lt 6) 94 97), (94, e1 (.goto 53) 97 147)],
  [(97, e1 (.aload_n 0) 98 0), (98, e3 (.getfield 18) 101 3 2 2), (101, e1 (.iload 6) 103 6), (103, e0 (.iaload) 104), (104, e1 (.iload 4) 106 4), (106, e0 (.iand) 107), (107, e1 (.aload_n 0) 108 0), (108, e3 (.getfield 24) 111 3 4 2), (111, e1 (.aload_n 1) 112 1)],
  [(112, e1 (.iload 7) 114 7), (114, ei (.iconst 1) 115 0 (1)), (115, e0 (.iadd) 116), (116, e3 (.invokevirtual 82) 119 0 2 0), (119, e0 (.iaload) 120), (120, e0 (.iand) 121), (121, e1 (.istore 9) 123 9), (123, e1 (.iload 9) 125 9), (125, e1 (.ifCond .eq 16) 128 141)],
  [(128, e1 (.iload 9) 130 9), (130, e1 (.iload 9) 132 9), (132, e0 (.ineg) 133), (133, e0 (.iand) 134), (134, ei (.iconst 1) 135 0 (1)), (135, e0 (.isub) 136), (136, e3 (.invokestatic 85) 139 2 1 0), (139, e1 (.istore 5) 141 5), (141, ei (.iinc 7 1) 144 7 (1))],
  [(144, e1 (.goto (-119)) 147 25), (147, e1 (.iload 5) 149 5), (149, e0 (.ireturn) 150)]]
noncomputable def zE_Machine_ruleFor (α : Type) : Nat → zX α := fun i => bif Nat.beq i 0 then zA_vRI_I 8 f_Row_beside else bif Nat.beq i 1 then zA_vRI_I 8 f_Row_at else bif Nat.beq i 2 then zA_I_I f_J_bitCount else fun _ _ _ => none
def zc_Machine_ruleFor : Nat → Bool := fun pc => Nat.beq pc 25
def D_Machine_ruleFor_25 (k : Nat → Nat → Int32 → Int32 → Int32 → Int32 → zM → Option (Int32 × zM)) (lv : zV) (st : List Value) (S : zM) : Option (Int32 × zM) := match lv, st with
  | [some (.ref a0), some (.ref a1), _, _, some (.int a4), some (.int a5), some (.int a6), some (.int a7), _, _], [] => k a0 a1 a4 a5 a6 a7 S
  | _, _ => none
theorem d_Machine_ruleFor_25 {g : zV → Nat → List Value → zM → Prop} (Hw : zWk g) {k : Nat → Nat → Int32 → Int32 → Int32 → Int32 → zM → Option (Int32 × zM)} {res : (Int32 × zM)} {lv : zV} {st : List Value} {S : zM} (h : D_Machine_ruleFor_25 k lv st S = some res) (hk : ∀ a0 a1 a4 a5 a6 a7 S, k a0 a1 a4 a5 a6 a7 S = some res → g [some (.ref a0), some (.ref a1), none, none, some (.int a4), some (.int a5), some (.int a6), some (.int a7), none, none] 25 [] S) : g lv 25 st S := by
  unfold D_Machine_ruleFor_25 at h
  split at h
  · exact Hw _ _ _ _ _ (by simp [zle]) (hk _ _ _ _ _ _ _  h)
  · cases h
set_option maxRecDepth 100000 in
theorem r_Machine_ruleFor_25 (n : Nat) (a0 : Nat) (a1 : Nat) (a4 : Int32) (a5 : Int32) (a6 : Int32) (a7 : Int32) (S : zM) : L_Machine_ruleFor_25 (n + 1) a0 a1 a4 a5 a6 a7 S = zrt false zP_Machine_ruleFor (zE_Machine_ruleFor (Int32 × zM)) zc_Machine_ruleFor zkI (fun pc lv st S => bif Nat.beq pc 25 then D_Machine_ruleFor_25 (L_Machine_ruleFor_25 n) lv st S else none) 1000 25 [some (.ref a0), some (.ref a1), none, none, some (.int a4), some (.int a5), some (.int a6), some (.int a7), none, none] [] S := rfl
theorem g_Machine_ruleFor_25 {g : zV → Nat → List Value → zM → Prop} {res : (Int32 × zM)} (H : zCl false zP_Machine_ruleFor (zE_Machine_ruleFor (Int32 × zM)) zkI res g) (Hw : zWk g) (n : Nat) : ∀ (a0 : Nat) (a1 : Nat) (a4 : Int32) (a5 : Int32) (a6 : Int32) (a7 : Int32) (S : zM), L_Machine_ruleFor_25 n a0 a1 a4 a5 a6 a7 S = some res → g [some (.ref a0), some (.ref a1), none, none, some (.int a4), some (.int a5), some (.int a6), some (.int a7), none, none] 25 [] S := by
  induction n with
  | zero => intro a0 a1 a4 a5 a6 a7 S h; cases h
  | succ n ih =>
    intro a0 a1 a4 a5 a6 a7 S h
    refine H zc_Machine_ruleFor _ 1000 _ _ _ _ ((r_Machine_ruleFor_25 n a0 a1 a4 a5 a6 a7 S).symm.trans h) (fun pc lv st S hK => ?_)
    rcases zdis hK with ⟨rfl, hK⟩ | hK
    · exact d_Machine_ruleFor_25 Hw hK ih
    cases hK
set_option maxRecDepth 100000 in
theorem r_Machine_ruleFor (a0 : Nat) (a1 : Nat) (a2 : Int32) (a3 : Int32) (S : zM) : f_Machine_ruleFor a0 a1 a2 a3 S = zrt false zP_Machine_ruleFor (zE_Machine_ruleFor (Int32 × zM)) zc_Machine_ruleFor zkI (fun pc lv st S => bif Nat.beq pc 25 then D_Machine_ruleFor_25 (L_Machine_ruleFor_25 zF) lv st S else none) 1000 0 [some (.ref a0), some (.ref a1), some (.int a2), some (.int a3), none, none, none, none, none, none] [] S := rfl
theorem G_Machine_ruleFor {g : zV → Nat → List Value → zM → Prop} {res : (Int32 × zM)} (H : zCl false zP_Machine_ruleFor (zE_Machine_ruleFor (Int32 × zM)) zkI res g) (Hw : zWk g) (a0 : Nat) (a1 : Nat) (a2 : Int32) (a3 : Int32) (S : zM) (h : f_Machine_ruleFor a0 a1 a2 a3 S = some res) : g [some (.ref a0), some (.ref a1), some (.int a2), some (.int a3), none, none, none, none, none, none] 0 [] S := by
  refine H zc_Machine_ruleFor _ 1000 _ _ _ _ ((r_Machine_ruleFor a0 a1 a2 a3 S).symm.trans h) (fun pc lv st S hK => ?_)
  rcases zdis hK with ⟨rfl, hK⟩ | hK
  · exact d_Machine_ruleFor_25 Hw hK (g_Machine_ruleFor_25 H Hw  zF)
  cases hK
set_option maxRecDepth 100000 in
theorem ok_Machine_ruleFor : zokT 3 [168, 50, 30] false 1 21 10 false (some .int) cX3_ruleFor zP_Machine_ruleFor = true := by decide +kernel
set_option maxRecDepth 100000 in
theorem s_Machine_ruleFor {l : Launch} {HB : Heap} {b L : Nat} {xs : Nat → Int32} {aK aV : Nat → Nat} {G : va_G} {tc : Nat → ClassId} (h0 : zSnd l HB b L xs aK aV G tc (zMT.getD 168 zyD) (fun α => zA_vRI_I 8 f_Row_beside)) (h1 : zSnd l HB b L xs aK aV G tc (zMT.getD 50 zyD) (fun α => zA_vRI_I 8 f_Row_at)) (h2 : zSnd l HB b L xs aK aV G tc (zMT.getD 30 zyD) (fun α => zA_I_I f_J_bitCount)) : zSnd l HB b L xs aK aV G tc (zMT.getD 169 zyD) (fun α => zA_vRRII_I 3 f_Machine_ruleFor) := by
  rw [show zMT.getD 169 zyD = (yX3_ruleFor, cX3_ruleFor, 10, (some .int), 0, 4, 1, 21) from rfl]
  intro α as S k res h
  unfold zA_vRRII_I at h
  dsimp only at h
  split at h
  · rename_i a0 a1 a2 a3
    obtain ⟨p, hp, h⟩ := zbind h
    unfold zcl at hp
    split at hp
    · rename_i hkd
      have hm := zmeth (l := l) (HB := HB) (b := b) (L := L) (xs := xs) (aK := aK) (aV := aV) (G := G) (tc := tc) (q := (yX3_ruleFor, cX3_ruleFor, 10, (some .int), 0, 4, 1, 21)) (o := 3) (cs := [168, 50, 30]) (rz := false) (T := zP_Machine_ruleFor) (E := zE_Machine_ruleFor (Int32 × zM)) (kr := zkI) (res := p) (v0 := some (.int p.1)) (S0 := p.2) (as := [.ref a0, .ref a1, .int a2, .int a3]) (S := S) zMT_fine (by decide +kernel) (fun i as S k' h => by
        unfold zE_Machine_ruleFor at h
        rcases zdisf h with ⟨rfl, h⟩ | h
        · exact h0 _ _ _ _ _ h
        rcases zdisf h with ⟨rfl, h⟩ | h
        · exact h1 _ _ _ _ _ h
        rcases zdisf h with ⟨rfl, h⟩ | h
        · exact h2 _ _ _ _ _ h
        cases h) ok_Machine_ruleFor rfl (fun v S' h => zkI_inv h) (Nat.le_of_ble_eq_true rfl) (fun g H Hw => Hw _ [some (.ref a0), some (.ref a1), some (.int a2), some (.int a3), none, none, none, none, none, none] _ _ _ ⟨rfl, rfl, rfl, rfl, trivial⟩ (G_Machine_ruleFor H Hw a0 a1 a2 a3 S hp))
      exact ⟨_, _, h, hm.1, rfl, fun _ => ⟨_, _, rfl⟩, (fun _ U H hK hH a r e => by cases e; exact zrecv (ci := 3) (by omega) hkd rfl U H hK hH), hm.2⟩
    · cases hp
  · cases h
def zP_Carrier_noteServed : List (List (Nat × zE)) := [[(0, e1 (.iload_n 1) 1 1), (1, ei (.bipush 8) 3 0 (8)), (3, e0 (.imul) 4), (4, e1 (.iload_n 2) 5 2), (5, e0 (.iadd) 6), (6, e1 (.istore_n 3) 7 3), (7, e1 (.iload_n 3) 8 3), (8, e1 (.ifCond .lt 34) 11 42), (11, e1 (.iload_n 3) 12 3), (12, e1 (.aload_n 0) 13 0), (13, e3 (.getfield 21) 16 1 2 2)],
  [(16, e0 (.arraylength) 17), (17, e1 (.if_icmp .ge 25) 20 42), (20, e1 (.aload_n 0) 21 0), (21, e3 (.getfield 21) 24 1 2 2), (24, e1 (.iload_n 3) 25 3), (25, e0 (.dup2) 26), (26, e0 (.iaload) 27), (27, ei (.iconst 1) 28 0 (1)), (28, e0 (.iadd) 29), (29, e0 (.iastore) 30), (30, e1 (.aload_n 0) 31 0), (31, e0 (.dup) 32)],
  [(32, e3 (.getfield 40) 35 1 5 0), (35, ei (.iconst 1) 36 0 (1)), (36, e1 (.iload_n 3) 37 3), (37, e0 (.ishl) 38), (38, e0 (.ior) 39), (39, e3 (.putfield 40) 42 1 5 0), (42, e0 (.return_) 43)]]
noncomputable def zE_Carrier_noteServed (α : Type) : Nat → zX α := fun _ => fun _ _ _ => none
def zc_Carrier_noteServed : Nat → Bool := fun pc => false
set_option maxRecDepth 100000 in
theorem r_Carrier_noteServed (a0 : Nat) (a1 : Int32) (a2 : Int32) (S : zM) : f_Carrier_noteServed a0 a1 a2 S = zrt false zP_Carrier_noteServed (zE_Carrier_noteServed zM) zc_Carrier_noteServed zkV (fun pc lv st S => none) 1000 0 [some (.ref a0), some (.int a1), some (.int a2), none] [] S := rfl
theorem G_Carrier_noteServed {g : zV → Nat → List Value → zM → Prop} {res : zM} (H : zCl false zP_Carrier_noteServed (zE_Carrier_noteServed zM) zkV res g) (Hw : zWk g) (a0 : Nat) (a1 : Int32) (a2 : Int32) (S : zM) (h : f_Carrier_noteServed a0 a1 a2 S = some res) : g [some (.ref a0), some (.int a1), some (.int a2), none] 0 [] S := by
  refine H zc_Carrier_noteServed _ 1000 _ _ _ _ ((r_Carrier_noteServed a0 a1 a2 S).symm.trans h) (fun pc lv st S hK => ?_)
  cases hK
set_option maxRecDepth 100000 in
theorem ok_Carrier_noteServed : zokT 1 [] false 0 0 4 false none cX1_noteServed zP_Carrier_noteServed = true := by decide +kernel
set_option maxRecDepth 100000 in
theorem s_Carrier_noteServed {l : Launch} {HB : Heap} {b L : Nat} {xs : Nat → Int32} {aK aV : Nat → Nat} {G : va_G} {tc : Nat → ClassId} : zSnd l HB b L xs aK aV G tc (zMT.getD 170 zyD) (fun α => zA_vRII_V 1 f_Carrier_noteServed) := by
  rw [show zMT.getD 170 zyD = (yX1_noteServed, cX1_noteServed, 4, none, 0, 3, 0, 0) from rfl]
  intro α as S k res h
  unfold zA_vRII_V at h
  dsimp only at h
  split at h
  · rename_i a0 a1 a2
    obtain ⟨p, hp, h⟩ := zbind h
    unfold zcl at hp
    split at hp
    · rename_i hkd
      have hm := zmeth (l := l) (HB := HB) (b := b) (L := L) (xs := xs) (aK := aK) (aV := aV) (G := G) (tc := tc) (q := (yX1_noteServed, cX1_noteServed, 4, none, 0, 3, 0, 0)) (o := 1) (cs := []) (rz := false) (T := zP_Carrier_noteServed) (E := zE_Carrier_noteServed zM) (kr := zkV) (res := p) (v0 := none) (S0 := p) (as := [.ref a0, .int a1, .int a2]) (S := S) zMT_fine (by decide +kernel) (fun i as S k' h => by
        unfold zE_Carrier_noteServed at h
        cases h) ok_Carrier_noteServed rfl (fun v S' h => zkV_inv h) (Nat.le_of_ble_eq_true rfl) (fun g H Hw => Hw _ [some (.ref a0), some (.int a1), some (.int a2), none] _ _ _ ⟨rfl, rfl, rfl, trivial⟩ (G_Carrier_noteServed H Hw a0 a1 a2 S hp))
      exact ⟨_, _, h, hm.1, rfl, fun _ => ⟨_, _, rfl⟩, (fun _ U H hK hH a r e => by cases e; exact zrecv (ci := 1) (by omega) hkd rfl U H hK hH), hm.2⟩
    · cases hp
  · cases h
def zP_Rule_given : List (List (Nat × zE)) := [[(0, e1 (.iload_n 1) 1 1), (1, e1 (.ifCond .eq 10) 4 11), (4, e1 (.aload_n 0) 5 0), (5, e3 (.getfield 14) 8 9 0 2), (8, e1 (.goto 7) 11 15), (11, e1 (.aload_n 0) 12 0), (12, e3 (.getfield 20) 15 9 1 2), (15, e0 (.areturn) 16)]]
noncomputable def zE_Rule_given (α : Type) : Nat → zX α := fun _ => fun _ _ _ => none
def zc_Rule_given : Nat → Bool := fun pc => false
set_option maxRecDepth 100000 in
theorem r_Rule_given (a0 : Nat) (a1 : Int32) (S : zM) : f_Rule_given a0 a1 S = zrt false zP_Rule_given (zE_Rule_given (Nat × zM)) zc_Rule_given zkR (fun pc lv st S => none) 1000 0 [some (.ref a0), some (.int a1)] [] S := rfl
theorem G_Rule_given {g : zV → Nat → List Value → zM → Prop} {res : (Nat × zM)} (H : zCl false zP_Rule_given (zE_Rule_given (Nat × zM)) zkR res g) (Hw : zWk g) (a0 : Nat) (a1 : Int32) (S : zM) (h : f_Rule_given a0 a1 S = some res) : g [some (.ref a0), some (.int a1)] 0 [] S := by
  refine H zc_Rule_given _ 1000 _ _ _ _ ((r_Rule_given a0 a1 S).symm.trans h) (fun pc lv st S hK => ?_)
  cases hK
set_option maxRecDepth 100000 in
theorem ok_Rule_given : zokT 9 [] false 0 0 2 false (some (.object "CarriedLetters$Row")) cX9_given zP_Rule_given = true := by decide +kernel
set_option maxRecDepth 100000 in
theorem s_Rule_given {l : Launch} {HB : Heap} {b L : Nat} {xs : Nat → Int32} {aK aV : Nat → Nat} {G : va_G} {tc : Nat → ClassId} : zSnd l HB b L xs aK aV G tc (zMT.getD 171 zyD) (fun α => zA_vRI_R 9 f_Rule_given) := by
  rw [show zMT.getD 171 zyD = (yX9_given, cX9_given, 2, (some (.object "CarriedLetters$Row")), 0, 2, 0, 0) from rfl]
  intro α as S k res h
  unfold zA_vRI_R at h
  dsimp only at h
  split at h
  · rename_i a0 a1
    obtain ⟨p, hp, h⟩ := zbind h
    unfold zcl at hp
    split at hp
    · rename_i hkd
      have hm := zmeth (l := l) (HB := HB) (b := b) (L := L) (xs := xs) (aK := aK) (aV := aV) (G := G) (tc := tc) (q := (yX9_given, cX9_given, 2, (some (.object "CarriedLetters$Row")), 0, 2, 0, 0)) (o := 9) (cs := []) (rz := false) (T := zP_Rule_given) (E := zE_Rule_given (Nat × zM)) (kr := zkR) (res := p) (v0 := some (.ref p.1)) (S0 := p.2) (as := [.ref a0, .int a1]) (S := S) zMT_fine (by decide +kernel) (fun i as S k' h => by
        unfold zE_Rule_given at h
        cases h) ok_Rule_given rfl (fun v S' h => zkR_inv h) (Nat.le_of_ble_eq_true rfl) (fun g H Hw => Hw _ [some (.ref a0), some (.int a1)] _ _ _ ⟨rfl, rfl, trivial⟩ (G_Rule_given H Hw a0 a1 S hp))
      exact ⟨_, _, h, hm.1, rfl, fun _ => ⟨_, _, rfl⟩, (fun _ U H hK hH a r e => by cases e; exact zrecv (ci := 9) (by omega) hkd rfl U H hK hH), hm.2⟩
    · cases hp
  · cases h
def zP_Carrier_throughRound : List (List (Nat × zE)) := [[(0, e1 (.iload_n 3) 1 3), (1, e1 (.ifCond .eq 10) 4 11), (4, e1 (.aload_n 1) 5 1), (5, e3 (.getfield 79) 8 5 2 2), (8, e1 (.goto 7) 11 15), (11, e1 (.aload_n 1) 12 1), (12, e3 (.getfield 83) 15 5 1 2), (15, e1 (.astore 4) 17 4)],
  [(17, e1 (.aload_n 1) 18 1), (18, e3 (.invokevirtual 86) 21 0 1 0), (21, e1 (.istore 5) 23 5), (23, e1 (.aload_n 0) 24 0), (24, e3 (.getfield 31) 27 1 4 2), (27, e3 (.invokevirtual 90) 30 1 1 0), (30, ei (.iconst 1) 31 0 (1)), (31, e1 (.istore 6) 33 6)],
  [(33, ei (.iconst 0) 34 0 (0)), (34, e1 (.istore 7) 36 7), (36, e1 (.iload 7) 38 7), (38, e1 (.aload_n 0) 39 0), (39, e3 (.getfield 27) 42 1 3 2), (42, e3 (.getfield 93) 45 8 1 0), (45, e1 (.if_icmp .ge 109) 48 154)],
  [(48, e1 (.aload 4) 50 4), (50, e1 (.aload_n 0) 51 0), (51, e3 (.getfield 27) 54 1 3 2), (54, e1 (.iload 7) 56 7), (56, e1 (.iload 5) 58 5), (58, e3 (.invokevirtual 96) 61 2 4 0), (61, e1 (.istore 8) 63 8), (63, e1 (.aload_n 1) 64 1)],
  [(64, e1 (.iload 8) 66 8), (66, e3 (.invokevirtual 102) 69 3 2 0), (69, e1 (.astore 9) 71 9), (71, e1 (.aload 9) 73 9), (73, e1 (.ifnonnull 27) 76 100), (76, ei (.iconst 1) 77 0 (1)), (77, e1 (.istore 6) 79 6), (79, e1 (.aload_n 0) 80 0)],
  [(80, e3 (.getfield 31) 83 1 4 2), (83, e1 (.aload_n 0) 84 0), (84, e3 (.getfield 27) 87 1 3 2), (87, e1 (.iload 7) 89 7), (89, e3 (.invokevirtual 106) 92 4 2 0), (92, e3 (.invokevirtual 110) 95 5 2 0), (95, e1 (.istore 10) 97 10)],
  [(97, e1 (.goto 40) 100 137), (100, e1 (.aload_n 0) 101 0), (101, e1 (.iload_n 2) 102 2), (102, e1 (.iload 8) 104 8), (104, e3 (.invokevirtual 114) 107 6 3 0), (107, ei (.iconst 1) 108 0 (1)), (108, e1 (.aload 9) 110 9), (110, e1 (.iload_n 3) 111 3), (111, e3 (.invokevirtual 118) 114 7 2 0)],
  [(114, e3 (.getfield 93) 117 8 1 0), (117, e3 (.invokestatic 124) 120 997 2 0), (120, e1 (.istore 6) 122 6), (122, e1 (.aload_n 0) 123 0), (123, e3 (.getfield 31) 126 1 4 2), (126, e1 (.aload 9) 128 9)],
  [(128, e1 (.iload_n 3) 129 3), (129, e3 (.invokevirtual 130) 132 8 2 0), (132, e3 (.invokevirtual 133) 135 9 2 0), (135, e1 (.istore 10) 137 10), (137, e1 (.iload 10) 139 10), (139, e1 (.ifCond .ne 5) 142 144), (142, ei (.iconst 0) 143 0 (0)), (143, e0 (.ireturn) 144)],
  [(144, e1 (.iload 7) 146 7), (146, e1 (.iload 6) 148 6), (148, e0 (.iadd) 149), (149, e1 (.istore 7) 151 7), (151, e1 (.goto (-115)) 154 36), (154, ei (.iconst 1) 155 0 (1)), (155, e0 (.ireturn) 156)]]
noncomputable def zE_Carrier_throughRound (α : Type) : Nat → zX α := fun i => bif Nat.beq i 0 then zA_vR_I 5 f_Pass_serving else bif Nat.beq i 1 then zA_vR_V 8 f_Row_drop else bif Nat.beq i 2 then zA_vRRII_I 3 f_Machine_ruleFor else bif Nat.beq i 3 then zA_vRI_N 5 f_Pass_ruleAt else bif Nat.beq i 4 then zA_vRI_I 8 f_Row_at else bif Nat.beq i 5 then zA_vRI_I 8 f_Row_add else bif Nat.beq i 6 then zA_vRII_V 1 f_Carrier_noteServed else bif Nat.beq i 7 then zA_vRI_R 9 f_Rule_taken else bif Nat.beq i 8 then zA_vRI_R 9 f_Rule_given else bif Nat.beq i 9 then zA_vRR_I 8 f_Row_addAll else fun _ _ _ => none
def zc_Carrier_throughRound : Nat → Bool := fun pc => Nat.beq pc 36
def D_Carrier_throughRound_36 (k : Nat → Nat → Int32 → Int32 → Nat → Int32 → Int32 → zM → Option (Int32 × zM)) (lv : zV) (st : List Value) (S : zM) : Option (Int32 × zM) := match lv, st with
  | [some (.ref a0), some (.ref a1), some (.int a2), some (.int a3), some (.ref a4), some (.int a5), _, some (.int a7), _, _, _], [] => k a0 a1 a2 a3 a4 a5 a7 S
  | _, _ => none
theorem d_Carrier_throughRound_36 {g : zV → Nat → List Value → zM → Prop} (Hw : zWk g) {k : Nat → Nat → Int32 → Int32 → Nat → Int32 → Int32 → zM → Option (Int32 × zM)} {res : (Int32 × zM)} {lv : zV} {st : List Value} {S : zM} (h : D_Carrier_throughRound_36 k lv st S = some res) (hk : ∀ a0 a1 a2 a3 a4 a5 a7 S, k a0 a1 a2 a3 a4 a5 a7 S = some res → g [some (.ref a0), some (.ref a1), some (.int a2), some (.int a3), some (.ref a4), some (.int a5), none, some (.int a7), none, none, none] 36 [] S) : g lv 36 st S := by
  unfold D_Carrier_throughRound_36 at h
  split at h
  · exact Hw _ _ _ _ _ (by simp [zle]) (hk _ _ _ _ _ _ _ _  h)
  · cases h
set_option maxRecDepth 100000 in
theorem r_Carrier_throughRound_36 (n : Nat) (a0 : Nat) (a1 : Nat) (a2 : Int32) (a3 : Int32) (a4 : Nat) (a5 : Int32) (a7 : Int32) (S : zM) : L_Carrier_throughRound_36 (n + 1) a0 a1 a2 a3 a4 a5 a7 S = zrt true zP_Carrier_throughRound (zE_Carrier_throughRound (Int32 × zM)) zc_Carrier_throughRound zkI (fun pc lv st S => bif Nat.beq pc 36 then D_Carrier_throughRound_36 (L_Carrier_throughRound_36 n) lv st S else none) 1000 36 [some (.ref a0), some (.ref a1), some (.int a2), some (.int a3), some (.ref a4), some (.int a5), none, some (.int a7), none, none, none] [] S := rfl
theorem g_Carrier_throughRound_36 {g : zV → Nat → List Value → zM → Prop} {res : (Int32 × zM)} (H : zCl true zP_Carrier_throughRound (zE_Carrier_throughRound (Int32 × zM)) zkI res g) (Hw : zWk g) (n : Nat) : ∀ (a0 : Nat) (a1 : Nat) (a2 : Int32) (a3 : Int32) (a4 : Nat) (a5 : Int32) (a7 : Int32) (S : zM), L_Carrier_throughRound_36 n a0 a1 a2 a3 a4 a5 a7 S = some res → g [some (.ref a0), some (.ref a1), some (.int a2), some (.int a3), some (.ref a4), some (.int a5), none, some (.int a7), none, none, none] 36 [] S := by
  induction n with
  | zero => intro a0 a1 a2 a3 a4 a5 a7 S h; cases h
  | succ n ih =>
    intro a0 a1 a2 a3 a4 a5 a7 S h
    refine H zc_Carrier_throughRound _ 1000 _ _ _ _ ((r_Carrier_throughRound_36 n a0 a1 a2 a3 a4 a5 a7 S).symm.trans h) (fun pc lv st S hK => ?_)
    rcases zdis hK with ⟨rfl, hK⟩ | hK
    · exact d_Carrier_throughRound_36 Hw hK ih
    cases hK
set_option maxRecDepth 100000 in
theorem r_Carrier_throughRound (a0 : Nat) (a1 : Nat) (a2 : Int32) (a3 : Int32) (S : zM) : f_Carrier_throughRound a0 a1 a2 a3 S = zrt true zP_Carrier_throughRound (zE_Carrier_throughRound (Int32 × zM)) zc_Carrier_throughRound zkI (fun pc lv st S => bif Nat.beq pc 36 then D_Carrier_throughRound_36 (L_Carrier_throughRound_36 zF) lv st S else none) 1000 0 [some (.ref a0), some (.ref a1), some (.int a2), some (.int a3), none, none, none, none, none, none, none] [] S := rfl
theorem G_Carrier_throughRound {g : zV → Nat → List Value → zM → Prop} {res : (Int32 × zM)} (H : zCl true zP_Carrier_throughRound (zE_Carrier_throughRound (Int32 × zM)) zkI res g) (Hw : zWk g) (a0 : Nat) (a1 : Nat) (a2 : Int32) (a3 : Int32) (S : zM) (h : f_Carrier_throughRound a0 a1 a2 a3 S = some res) : g [some (.ref a0), some (.ref a1), some (.int a2), some (.int a3), none, none, none, none, none, none, none] 0 [] S := by
  refine H zc_Carrier_throughRound _ 1000 _ _ _ _ ((r_Carrier_throughRound a0 a1 a2 a3 S).symm.trans h) (fun pc lv st S hK => ?_)
  rcases zdis hK with ⟨rfl, hK⟩ | hK
  · exact d_Carrier_throughRound_36 Hw hK (g_Carrier_throughRound_36 H Hw  zF)
  cases hK
set_option maxRecDepth 100000 in
theorem ok_Carrier_throughRound : zokT 1 [102, 36, 169, 47, 50, 3, 170, 49, 171, 165] false 2 81 11 true (some .boolean) cX1_throughRound zP_Carrier_throughRound = true := by decide +kernel
set_option maxRecDepth 100000 in
theorem s_Carrier_throughRound {l : Launch} {HB : Heap} {b L : Nat} {xs : Nat → Int32} {aK aV : Nat → Nat} {G : va_G} {tc : Nat → ClassId} (h0 : zSnd l HB b L xs aK aV G tc (zMT.getD 102 zyD) (fun α => zA_vR_I 5 f_Pass_serving)) (h1 : zSnd l HB b L xs aK aV G tc (zMT.getD 36 zyD) (fun α => zA_vR_V 8 f_Row_drop)) (h2 : zSnd l HB b L xs aK aV G tc (zMT.getD 169 zyD) (fun α => zA_vRRII_I 3 f_Machine_ruleFor)) (h3 : zSnd l HB b L xs aK aV G tc (zMT.getD 47 zyD) (fun α => zA_vRI_N 5 f_Pass_ruleAt)) (h4 : zSnd l HB b L xs aK aV G tc (zMT.getD 50 zyD) (fun α => zA_vRI_I 8 f_Row_at)) (h5 : zSnd l HB b L xs aK aV G tc (zMT.getD 3 zyD) (fun α => zA_vRI_I 8 f_Row_add)) (h6 : zSnd l HB b L xs aK aV G tc (zMT.getD 170 zyD) (fun α => zA_vRII_V 1 f_Carrier_noteServed)) (h7 : zSnd l HB b L xs aK aV G tc (zMT.getD 49 zyD) (fun α => zA_vRI_R 9 f_Rule_taken)) (h8 : zSnd l HB b L xs aK aV G tc (zMT.getD 171 zyD) (fun α => zA_vRI_R 9 f_Rule_given)) (h9 : zSnd l HB b L xs aK aV G tc (zMT.getD 165 zyD) (fun α => zA_vRR_I 8 f_Row_addAll)) : zSnd l HB b L xs aK aV G tc (zMT.getD 172 zyD) (fun α => zA_vRRII_I 1 f_Carrier_throughRound) := by
  rw [show zMT.getD 172 zyD = (yX1_throughRound, cX1_throughRound, 11, (some .boolean), 0, 4, 2, 81) from rfl]
  intro α as S k res h
  unfold zA_vRRII_I at h
  dsimp only at h
  split at h
  · rename_i a0 a1 a2 a3
    obtain ⟨p, hp, h⟩ := zbind h
    unfold zcl at hp
    split at hp
    · rename_i hkd
      have hm := zmeth (l := l) (HB := HB) (b := b) (L := L) (xs := xs) (aK := aK) (aV := aV) (G := G) (tc := tc) (q := (yX1_throughRound, cX1_throughRound, 11, (some .boolean), 0, 4, 2, 81)) (o := 1) (cs := [102, 36, 169, 47, 50, 3, 170, 49, 171, 165]) (rz := true) (T := zP_Carrier_throughRound) (E := zE_Carrier_throughRound (Int32 × zM)) (kr := zkI) (res := p) (v0 := some (.int p.1)) (S0 := p.2) (as := [.ref a0, .ref a1, .int a2, .int a3]) (S := S) zMT_fine (by decide +kernel) (fun i as S k' h => by
        unfold zE_Carrier_throughRound at h
        rcases zdisf h with ⟨rfl, h⟩ | h
        · exact h0 _ _ _ _ _ h
        rcases zdisf h with ⟨rfl, h⟩ | h
        · exact h1 _ _ _ _ _ h
        rcases zdisf h with ⟨rfl, h⟩ | h
        · exact h2 _ _ _ _ _ h
        rcases zdisf h with ⟨rfl, h⟩ | h
        · exact h3 _ _ _ _ _ h
        rcases zdisf h with ⟨rfl, h⟩ | h
        · exact h4 _ _ _ _ _ h
        rcases zdisf h with ⟨rfl, h⟩ | h
        · exact h5 _ _ _ _ _ h
        rcases zdisf h with ⟨rfl, h⟩ | h
        · exact h6 _ _ _ _ _ h
        rcases zdisf h with ⟨rfl, h⟩ | h
        · exact h7 _ _ _ _ _ h
        rcases zdisf h with ⟨rfl, h⟩ | h
        · exact h8 _ _ _ _ _ h
        rcases zdisf h with ⟨rfl, h⟩ | h
        · exact h9 _ _ _ _ _ h
        cases h) ok_Carrier_throughRound rfl (fun v S' h => zkI_inv h) (Nat.le_of_ble_eq_true rfl) (fun g H Hw => Hw _ [some (.ref a0), some (.ref a1), some (.int a2), some (.int a3), none, none, none, none, none, none, none] _ _ _ ⟨rfl, rfl, rfl, rfl, trivial⟩ (G_Carrier_throughRound H Hw a0 a1 a2 a3 S hp))
      exact ⟨_, _, h, hm.1, rfl, fun _ => ⟨_, _, rfl⟩, (fun _ U H hK hH a r e => by cases e; exact zrecv (ci := 1) (by omega) hkd rfl U H hK hH), hm.2⟩
    · cases hp
  · cases h
def zP_Row_same : List (List (Nat × zE)) := [[(0, e1 (.aload_n 0) 1 0), (1, e3 (.getfield 15) 4 8 1 0), (4, e1 (.aload_n 1) 5 1), (5, e3 (.getfield 15) 8 8 1 0), (8, e1 (.if_icmp .eq 5) 11 13), (11, ei (.iconst 0) 12 0 (0)), (12, e0 (.ireturn) 13), (13, ei (.iconst 0) 14 0 (0)), (14, e1 (.istore_n 2) 15 2), (15, e1 (.iload_n 2) 16 2)],
  [(16, e1 (.aload_n 0) 17 0), (17, e3 (.getfield 15) 20 8 1 0), (20, e1 (.if_icmp .ge 26) 23 46), (23, e1 (.aload_n 0) 24 0), (24, e3 (.getfield 9) 27 8 0 2), (27, e1 (.iload_n 2) 28 2), (28, e0 (.iaload) 29), (29, e1 (.aload_n 1) 30 1), (30, e3 (.getfield 9) 33 8 0 2)],
  [(33, e1 (.iload_n 2) 34 2), (34, e0 (.iaload) 35), (35, e1 (.if_icmp .eq 5) 38 40), (38, ei (.iconst 0) 39 0 (0)), (39, e0 (.ireturn) 40), (40, ei (.iinc 2 1) 43 2 (1)), (43, e1 (.goto (-28)) 46 15), (46, ei (.iconst 1) 47 0 (1)), (47, e0 (.ireturn) 48)]]
noncomputable def zE_Row_same (α : Type) : Nat → zX α := fun _ => fun _ _ _ => none
def zc_Row_same : Nat → Bool := fun pc => Nat.beq pc 15
def D_Row_same_15 (k : Nat → Nat → Int32 → zM → Option (Int32 × zM)) (lv : zV) (st : List Value) (S : zM) : Option (Int32 × zM) := match lv, st with
  | [some (.ref a0), some (.ref a1), some (.int a2)], [] => k a0 a1 a2 S
  | _, _ => none
theorem d_Row_same_15 {g : zV → Nat → List Value → zM → Prop} (Hw : zWk g) {k : Nat → Nat → Int32 → zM → Option (Int32 × zM)} {res : (Int32 × zM)} {lv : zV} {st : List Value} {S : zM} (h : D_Row_same_15 k lv st S = some res) (hk : ∀ a0 a1 a2 S, k a0 a1 a2 S = some res → g [some (.ref a0), some (.ref a1), some (.int a2)] 15 [] S) : g lv 15 st S := by
  unfold D_Row_same_15 at h
  split at h
  · exact Hw _ _ _ _ _ (by simp [zle]) (hk _ _ _ _  h)
  · cases h
set_option maxRecDepth 100000 in
theorem r_Row_same_15 (n : Nat) (a0 : Nat) (a1 : Nat) (a2 : Int32) (S : zM) : L_Row_same_15 (n + 1) a0 a1 a2 S = zrt true zP_Row_same (zE_Row_same (Int32 × zM)) zc_Row_same zkI (fun pc lv st S => bif Nat.beq pc 15 then D_Row_same_15 (L_Row_same_15 n) lv st S else none) 1000 15 [some (.ref a0), some (.ref a1), some (.int a2)] [] S := rfl
theorem g_Row_same_15 {g : zV → Nat → List Value → zM → Prop} {res : (Int32 × zM)} (H : zCl true zP_Row_same (zE_Row_same (Int32 × zM)) zkI res g) (Hw : zWk g) (n : Nat) : ∀ (a0 : Nat) (a1 : Nat) (a2 : Int32) (S : zM), L_Row_same_15 n a0 a1 a2 S = some res → g [some (.ref a0), some (.ref a1), some (.int a2)] 15 [] S := by
  induction n with
  | zero => intro a0 a1 a2 S h; cases h
  | succ n ih =>
    intro a0 a1 a2 S h
    refine H zc_Row_same _ 1000 _ _ _ _ ((r_Row_same_15 n a0 a1 a2 S).symm.trans h) (fun pc lv st S hK => ?_)
    rcases zdis hK with ⟨rfl, hK⟩ | hK
    · exact d_Row_same_15 Hw hK ih
    cases hK
set_option maxRecDepth 100000 in
theorem r_Row_same (a0 : Nat) (a1 : Nat) (S : zM) : f_Row_same a0 a1 S = zrt true zP_Row_same (zE_Row_same (Int32 × zM)) zc_Row_same zkI (fun pc lv st S => bif Nat.beq pc 15 then D_Row_same_15 (L_Row_same_15 zF) lv st S else none) 1000 0 [some (.ref a0), some (.ref a1), none] [] S := rfl
theorem G_Row_same {g : zV → Nat → List Value → zM → Prop} {res : (Int32 × zM)} (H : zCl true zP_Row_same (zE_Row_same (Int32 × zM)) zkI res g) (Hw : zWk g) (a0 : Nat) (a1 : Nat) (S : zM) (h : f_Row_same a0 a1 S = some res) : g [some (.ref a0), some (.ref a1), none] 0 [] S := by
  refine H zc_Row_same _ 1000 _ _ _ _ ((r_Row_same a0 a1 S).symm.trans h) (fun pc lv st S hK => ?_)
  rcases zdis hK with ⟨rfl, hK⟩ | hK
  · exact d_Row_same_15 Hw hK (g_Row_same_15 H Hw  zF)
  cases hK
set_option maxRecDepth 100000 in
theorem ok_Row_same : zokT 8 [] false 0 0 3 true (some .boolean) cX8_same zP_Row_same = true := by decide +kernel
set_option maxRecDepth 100000 in
theorem s_Row_same {l : Launch} {HB : Heap} {b L : Nat} {xs : Nat → Int32} {aK aV : Nat → Nat} {G : va_G} {tc : Nat → ClassId} : zSnd l HB b L xs aK aV G tc (zMT.getD 173 zyD) (fun α => zA_vRR_I 8 f_Row_same) := by
  rw [show zMT.getD 173 zyD = (yX8_same, cX8_same, 3, (some .boolean), 0, 2, 0, 0) from rfl]
  intro α as S k res h
  unfold zA_vRR_I at h
  dsimp only at h
  split at h
  · rename_i a0 a1
    obtain ⟨p, hp, h⟩ := zbind h
    unfold zcl at hp
    split at hp
    · rename_i hkd
      have hm := zmeth (l := l) (HB := HB) (b := b) (L := L) (xs := xs) (aK := aK) (aV := aV) (G := G) (tc := tc) (q := (yX8_same, cX8_same, 3, (some .boolean), 0, 2, 0, 0)) (o := 8) (cs := []) (rz := true) (T := zP_Row_same) (E := zE_Row_same (Int32 × zM)) (kr := zkI) (res := p) (v0 := some (.int p.1)) (S0 := p.2) (as := [.ref a0, .ref a1]) (S := S) zMT_fine (by decide +kernel) (fun i as S k' h => by
        unfold zE_Row_same at h
        cases h) ok_Row_same rfl (fun v S' h => zkI_inv h) (Nat.le_of_ble_eq_true rfl) (fun g H Hw => Hw _ [some (.ref a0), some (.ref a1), none] _ _ _ ⟨rfl, rfl, trivial⟩ (G_Row_same H Hw a0 a1 S hp))
      exact ⟨_, _, h, hm.1, rfl, fun _ => ⟨_, _, rfl⟩, (fun _ U H hK hH a r e => by cases e; exact zrecv (ci := 8) (by omega) hkd rfl U H hK hH), hm.2⟩
    · cases hp
  · cases h
def zP_Carrier_throughPass : List (List (Nat × zE)) := [[(0, e1 (.aload_n 1) 1 1), (1, e3 (.getfield 65) 4 5 4 1), (4, e1 (.ifCond .eq 8) 7 12), (7, ei (.bipush 20) 9 0 (20)), (9, e1 (.goto 4) 12 13), (12, ei (.iconst 1) 13 0 (1)), (13, e1 (.istore 4) 15 4), (15, ei (.iconst 1) 16 0 (1))],
  [(16, e1 (.istore 5) 18 5), (18, e1 (.iload 5) 20 5), (20, e1 (.iload 4) 22 4), (22, e1 (.if_icmp .gt 77) 25 99), (25, e1 (.aload_n 0) 26 0), (26, e3 (.getfield 17) 29 1 1 2), (29, e1 (.iload_n 2) 30 2), (30, e1 (.iload 5) 32 5)],
  [(32, e0 (.iastore) 33), (33, e1 (.aload_n 0) 34 0), (34, e1 (.aload_n 1) 35 1), (35, e1 (.iload_n 2) 36 2), (36, e1 (.iload_n 3) 37 3), (37, e3 (.invokevirtual 71) 40 0 4 0), (40, e1 (.ifCond .ne 6) 43 46), (43, ei (.bipush 6) 45 0 (6)), (45, e0 (.ireturn) 46), (46, e1 (.aload_n 0) 47 0), (47, e3 (.getfield 27) 50 1 3 2)],
  [(50, e1 (.aload_n 0) 51 0), (51, e3 (.getfield 31) 54 1 4 2), (54, e3 (.invokevirtual 75) 57 1 2 0), (57, e1 (.istore 6) 59 6), (59, e1 (.aload_n 0) 60 0), (60, e3 (.getfield 27) 63 1 3 2), (63, e1 (.astore 7) 65 7)],
  [(65, e1 (.aload_n 0) 66 0), (66, e1 (.aload_n 0) 67 0), (67, e3 (.getfield 31) 70 1 4 2), (70, e3 (.putfield 27) 73 1 3 2), (73, e1 (.aload_n 0) 74 0), (74, e1 (.aload 7) 76 7), (76, e3 (.putfield 31) 79 1 4 2), (79, e1 (.iload 6) 81 6)],
  [(81, e1 (.ifCond .ne 10) 84 91), (84, e1 (.aload_n 1) 85 1), (85, e3 (.getfield 65) 88 5 4 1), (88, e1 (.ifCond .ne 5) 91 93), (91, ei (.iconst 0) 92 0 (0)), (92, e0 (.ireturn) 93), (93, ei (.iinc 5 1) 96 5 (1))],
  [(96, e1 (.goto (-78)) 99 18), (99, ei (.bipush 7) 101 0 (7)), (101, e0 (.ireturn) 102)]]
noncomputable def zE_Carrier_throughPass (α : Type) : Nat → zX α := fun i => bif Nat.beq i 0 then zA_vRRII_I 1 f_Carrier_throughRound else bif Nat.beq i 1 then zA_vRR_I 8 f_Row_same else fun _ _ _ => none
def zc_Carrier_throughPass : Nat → Bool := fun pc => Nat.beq pc 18
def D_Carrier_throughPass_18 (k : Nat → Nat → Int32 → Int32 → Int32 → Int32 → zM → Option (Int32 × zM)) (lv : zV) (st : List Value) (S : zM) : Option (Int32 × zM) := match lv, st with
  | [some (.ref a0), some (.ref a1), some (.int a2), some (.int a3), some (.int a4), some (.int a5), _, _], [] => k a0 a1 a2 a3 a4 a5 S
  | _, _ => none
theorem d_Carrier_throughPass_18 {g : zV → Nat → List Value → zM → Prop} (Hw : zWk g) {k : Nat → Nat → Int32 → Int32 → Int32 → Int32 → zM → Option (Int32 × zM)} {res : (Int32 × zM)} {lv : zV} {st : List Value} {S : zM} (h : D_Carrier_throughPass_18 k lv st S = some res) (hk : ∀ a0 a1 a2 a3 a4 a5 S, k a0 a1 a2 a3 a4 a5 S = some res → g [some (.ref a0), some (.ref a1), some (.int a2), some (.int a3), some (.int a4), some (.int a5), none, none] 18 [] S) : g lv 18 st S := by
  unfold D_Carrier_throughPass_18 at h
  split at h
  · exact Hw _ _ _ _ _ (by simp [zle]) (hk _ _ _ _ _ _ _  h)
  · cases h
set_option maxRecDepth 100000 in
theorem r_Carrier_throughPass_18 (n : Nat) (a0 : Nat) (a1 : Nat) (a2 : Int32) (a3 : Int32) (a4 : Int32) (a5 : Int32) (S : zM) : L_Carrier_throughPass_18 (n + 1) a0 a1 a2 a3 a4 a5 S = zrt false zP_Carrier_throughPass (zE_Carrier_throughPass (Int32 × zM)) zc_Carrier_throughPass zkI (fun pc lv st S => bif Nat.beq pc 18 then D_Carrier_throughPass_18 (L_Carrier_throughPass_18 n) lv st S else none) 1000 18 [some (.ref a0), some (.ref a1), some (.int a2), some (.int a3), some (.int a4), some (.int a5), none, none] [] S := rfl
theorem g_Carrier_throughPass_18 {g : zV → Nat → List Value → zM → Prop} {res : (Int32 × zM)} (H : zCl false zP_Carrier_throughPass (zE_Carrier_throughPass (Int32 × zM)) zkI res g) (Hw : zWk g) (n : Nat) : ∀ (a0 : Nat) (a1 : Nat) (a2 : Int32) (a3 : Int32) (a4 : Int32) (a5 : Int32) (S : zM), L_Carrier_throughPass_18 n a0 a1 a2 a3 a4 a5 S = some res → g [some (.ref a0), some (.ref a1), some (.int a2), some (.int a3), some (.int a4), some (.int a5), none, none] 18 [] S := by
  induction n with
  | zero => intro a0 a1 a2 a3 a4 a5 S h; cases h
  | succ n ih =>
    intro a0 a1 a2 a3 a4 a5 S h
    refine H zc_Carrier_throughPass _ 1000 _ _ _ _ ((r_Carrier_throughPass_18 n a0 a1 a2 a3 a4 a5 S).symm.trans h) (fun pc lv st S hK => ?_)
    rcases zdis hK with ⟨rfl, hK⟩ | hK
    · exact d_Carrier_throughPass_18 Hw hK ih
    cases hK
set_option maxRecDepth 100000 in
theorem r_Carrier_throughPass (a0 : Nat) (a1 : Nat) (a2 : Int32) (a3 : Int32) (S : zM) : f_Carrier_throughPass a0 a1 a2 a3 S = zrt false zP_Carrier_throughPass (zE_Carrier_throughPass (Int32 × zM)) zc_Carrier_throughPass zkI (fun pc lv st S => bif Nat.beq pc 18 then D_Carrier_throughPass_18 (L_Carrier_throughPass_18 zF) lv st S else none) 1000 0 [some (.ref a0), some (.ref a1), some (.int a2), some (.int a3), none, none, none, none] [] S := rfl
theorem G_Carrier_throughPass {g : zV → Nat → List Value → zM → Prop} {res : (Int32 × zM)} (H : zCl false zP_Carrier_throughPass (zE_Carrier_throughPass (Int32 × zM)) zkI res g) (Hw : zWk g) (a0 : Nat) (a1 : Nat) (a2 : Int32) (a3 : Int32) (S : zM) (h : f_Carrier_throughPass a0 a1 a2 a3 S = some res) : g [some (.ref a0), some (.ref a1), some (.int a2), some (.int a3), none, none, none, none] 0 [] S := by
  refine H zc_Carrier_throughPass _ 1000 _ _ _ _ ((r_Carrier_throughPass a0 a1 a2 a3 S).symm.trans h) (fun pc lv st S hK => ?_)
  rcases zdis hK with ⟨rfl, hK⟩ | hK
  · exact d_Carrier_throughPass_18 Hw hK (g_Carrier_throughPass_18 H Hw  zF)
  cases hK
set_option maxRecDepth 100000 in
theorem ok_Carrier_throughPass : zokT 1 [172, 173] false 3 111 8 false (some .int) cX1_throughPass zP_Carrier_throughPass = true := by decide +kernel
set_option maxRecDepth 100000 in
theorem s_Carrier_throughPass {l : Launch} {HB : Heap} {b L : Nat} {xs : Nat → Int32} {aK aV : Nat → Nat} {G : va_G} {tc : Nat → ClassId} (h0 : zSnd l HB b L xs aK aV G tc (zMT.getD 172 zyD) (fun α => zA_vRRII_I 1 f_Carrier_throughRound)) (h1 : zSnd l HB b L xs aK aV G tc (zMT.getD 173 zyD) (fun α => zA_vRR_I 8 f_Row_same)) : zSnd l HB b L xs aK aV G tc (zMT.getD 174 zyD) (fun α => zA_vRRII_I 1 f_Carrier_throughPass) := by
  rw [show zMT.getD 174 zyD = (yX1_throughPass, cX1_throughPass, 8, (some .int), 0, 4, 3, 111) from rfl]
  intro α as S k res h
  unfold zA_vRRII_I at h
  dsimp only at h
  split at h
  · rename_i a0 a1 a2 a3
    obtain ⟨p, hp, h⟩ := zbind h
    unfold zcl at hp
    split at hp
    · rename_i hkd
      have hm := zmeth (l := l) (HB := HB) (b := b) (L := L) (xs := xs) (aK := aK) (aV := aV) (G := G) (tc := tc) (q := (yX1_throughPass, cX1_throughPass, 8, (some .int), 0, 4, 3, 111)) (o := 1) (cs := [172, 173]) (rz := false) (T := zP_Carrier_throughPass) (E := zE_Carrier_throughPass (Int32 × zM)) (kr := zkI) (res := p) (v0 := some (.int p.1)) (S0 := p.2) (as := [.ref a0, .ref a1, .int a2, .int a3]) (S := S) zMT_fine (by decide +kernel) (fun i as S k' h => by
        unfold zE_Carrier_throughPass at h
        rcases zdisf h with ⟨rfl, h⟩ | h
        · exact h0 _ _ _ _ _ h
        rcases zdisf h with ⟨rfl, h⟩ | h
        · exact h1 _ _ _ _ _ h
        cases h) ok_Carrier_throughPass rfl (fun v S' h => zkI_inv h) (Nat.le_of_ble_eq_true rfl) (fun g H Hw => Hw _ [some (.ref a0), some (.ref a1), some (.int a2), some (.int a3), none, none, none, none] _ _ _ ⟨rfl, rfl, rfl, rfl, trivial⟩ (G_Carrier_throughPass H Hw a0 a1 a2 a3 S hp))
      exact ⟨_, _, h, hm.1, rfl, fun _ => ⟨_, _, rfl⟩, (fun _ U H hK hH a r e => by cases e; exact zrecv (ci := 1) (by omega) hkd rfl U H hK hH), hm.2⟩
    · cases hp
  · cases h
def zP_Carrier_bring : List (List (Nat × zE)) := [[(0, e1 (.aload_n 0) 1 0), (1, e3 (.getfield 21) 4 1 2 2), (4, ei (.iconst 0) 5 0 (0)), (5, e3 (.invokestatic 34) 8 0 2 0), (8, e1 (.aload_n 0) 9 0), (9, ei (.iconst 0) 10 0 (0)), (10, e3 (.putfield 40) 13 1 5 0), (13, e1 (.aload_n 0) 14 0), (14, e3 (.getfield 27) 17 1 3 2)],
  [(17, e1 (.aload_n 2) 18 2), (18, e3 (.invokevirtual 44) 21 1 2 0), (21, ei (.iconst 0) 22 0 (0)), (22, e1 (.istore 4) 24 4), (24, e1 (.iload 4) 26 4), (26, e1 (.aload_n 1) 27 1), (27, e3 (.getfield 48) 30 10 5 0), (30, e1 (.if_icmp .ge 86) 33 116)],
  [(33, e1 (.iload_n 3) 34 3), (34, e1 (.ifCond .eq 15) 37 49), (37, e1 (.aload_n 1) 38 1), (38, e3 (.getfield 48) 41 10 5 0), (41, ei (.iconst 1) 42 0 (1)), (42, e0 (.isub) 43), (43, e1 (.iload 4) 45 4), (45, e0 (.isub) 46), (46, e1 (.goto 5) 49 51)],
  [(49, e1 (.iload 4) 51 4), (51, e1 (.istore 5) 53 5), (53, e1 (.aload_n 1) 54 1), (54, e1 (.iload 5) 56 5), (56, e3 (.invokevirtual 53) 59 2 2 0), (59, e1 (.astore 6) 61 6), (61, e1 (.aload_n 0) 62 0), (62, e1 (.iload 5) 64 5)],
  [(64, e3 (.invokevirtual 57) 67 3 2 0), (67, e1 (.astore 7) 69 7), (69, e1 (.aload 6) 71 6), (71, e1 (.ifnull 39) 74 110), (74, e1 (.aload 7) 76 7), (76, e1 (.ifnonnull 6) 79 82), (79, e1 (.goto 31) 82 110)],
  [(82, e1 (.aload_n 0) 83 0), (83, e1 (.aload 6) 85 6), (85, e1 (.iload 5) 87 5), (87, e1 (.iload_n 3) 88 3), (88, e3 (.invokevirtual 61) 91 4 4 0), (91, e1 (.istore 8) 93 8), (93, e1 (.iload 8) 95 8), (95, e1 (.ifCond .eq 6) 98 101)],
  [(98, e1 (.iload 8) 100 8), (100, e0 (.ireturn) 101), (101, e1 (.aload 7) 103 7), (103, e1 (.aload_n 0) 104 0), (104, e3 (.getfield 27) 107 1 3 2), (107, e3 (.invokevirtual 44) 110 1 2 0), (110, ei (.iinc 4 1) 113 4 (1))],
  [(113, e1 (.goto (-89)) 116 24), (116, ei (.iconst 0) 117 0 (0)), (117, e0 (.ireturn) 118)]]
noncomputable def zE_Carrier_bring (α : Type) : Nat → zX α := fun i => bif Nat.beq i 0 then zA_RI_V f_J_fill else bif Nat.beq i 1 then zA_vRR_V 8 f_Row_copy else bif Nat.beq i 2 then zA_vRI_N 10 f_Script_passAt else bif Nat.beq i 3 then zA_vRI_N 1 f_Carrier_behindPass else bif Nat.beq i 4 then zA_vRRII_I 1 f_Carrier_throughPass else fun _ _ _ => none
def zc_Carrier_bring : Nat → Bool := fun pc => Nat.beq pc 24
def D_Carrier_bring_24 (k : Nat → Nat → Int32 → Int32 → zM → Option (Int32 × zM)) (lv : zV) (st : List Value) (S : zM) : Option (Int32 × zM) := match lv, st with
  | [some (.ref a0), some (.ref a1), _, some (.int a3), some (.int a4), _, _, _, _], [] => k a0 a1 a3 a4 S
  | _, _ => none
theorem d_Carrier_bring_24 {g : zV → Nat → List Value → zM → Prop} (Hw : zWk g) {k : Nat → Nat → Int32 → Int32 → zM → Option (Int32 × zM)} {res : (Int32 × zM)} {lv : zV} {st : List Value} {S : zM} (h : D_Carrier_bring_24 k lv st S = some res) (hk : ∀ a0 a1 a3 a4 S, k a0 a1 a3 a4 S = some res → g [some (.ref a0), some (.ref a1), none, some (.int a3), some (.int a4), none, none, none, none] 24 [] S) : g lv 24 st S := by
  unfold D_Carrier_bring_24 at h
  split at h
  · exact Hw _ _ _ _ _ (by simp [zle]) (hk _ _ _ _ _  h)
  · cases h
set_option maxRecDepth 100000 in
theorem r_Carrier_bring_24 (n : Nat) (a0 : Nat) (a1 : Nat) (a3 : Int32) (a4 : Int32) (S : zM) : L_Carrier_bring_24 (n + 1) a0 a1 a3 a4 S = zrt false zP_Carrier_bring (zE_Carrier_bring (Int32 × zM)) zc_Carrier_bring zkI (fun pc lv st S => bif Nat.beq pc 24 then D_Carrier_bring_24 (L_Carrier_bring_24 n) lv st S else none) 1000 24 [some (.ref a0), some (.ref a1), none, some (.int a3), some (.int a4), none, none, none, none] [] S := rfl
theorem g_Carrier_bring_24 {g : zV → Nat → List Value → zM → Prop} {res : (Int32 × zM)} (H : zCl false zP_Carrier_bring (zE_Carrier_bring (Int32 × zM)) zkI res g) (Hw : zWk g) (n : Nat) : ∀ (a0 : Nat) (a1 : Nat) (a3 : Int32) (a4 : Int32) (S : zM), L_Carrier_bring_24 n a0 a1 a3 a4 S = some res → g [some (.ref a0), some (.ref a1), none, some (.int a3), some (.int a4), none, none, none, none] 24 [] S := by
  induction n with
  | zero => intro a0 a1 a3 a4 S h; cases h
  | succ n ih =>
    intro a0 a1 a3 a4 S h
    refine H zc_Carrier_bring _ 1000 _ _ _ _ ((r_Carrier_bring_24 n a0 a1 a3 a4 S).symm.trans h) (fun pc lv st S hK => ?_)
    rcases zdis hK with ⟨rfl, hK⟩ | hK
    · exact d_Carrier_bring_24 Hw hK ih
    cases hK
set_option maxRecDepth 100000 in
theorem r_Carrier_bring (a0 : Nat) (a1 : Nat) (a2 : Nat) (a3 : Int32) (S : zM) : f_Carrier_bring a0 a1 a2 a3 S = zrt false zP_Carrier_bring (zE_Carrier_bring (Int32 × zM)) zc_Carrier_bring zkI (fun pc lv st S => bif Nat.beq pc 24 then D_Carrier_bring_24 (L_Carrier_bring_24 zF) lv st S else none) 1000 0 [some (.ref a0), some (.ref a1), some (.ref a2), some (.int a3), none, none, none, none, none] [] S := rfl
theorem G_Carrier_bring {g : zV → Nat → List Value → zM → Prop} {res : (Int32 × zM)} (H : zCl false zP_Carrier_bring (zE_Carrier_bring (Int32 × zM)) zkI res g) (Hw : zWk g) (a0 : Nat) (a1 : Nat) (a2 : Nat) (a3 : Int32) (S : zM) (h : f_Carrier_bring a0 a1 a2 a3 S = some res) : g [some (.ref a0), some (.ref a1), some (.ref a2), some (.int a3), none, none, none, none, none] 0 [] S := by
  refine H zc_Carrier_bring _ 1000 _ _ _ _ ((r_Carrier_bring a0 a1 a2 a3 S).symm.trans h) (fun pc lv st S hK => ?_)
  rcases zdis hK with ⟨rfl, hK⟩ | hK
  · exact d_Carrier_bring_24 Hw hK (g_Carrier_bring_24 H Hw  zF)
  cases hK
set_option maxRecDepth 100000 in
theorem ok_Carrier_bring : zokT 1 [46, 166, 44, 167, 174] false 4 138 9 false (some .int) cX1_bring zP_Carrier_bring = true := by decide +kernel
set_option maxRecDepth 100000 in
theorem s_Carrier_bring {l : Launch} {HB : Heap} {b L : Nat} {xs : Nat → Int32} {aK aV : Nat → Nat} {G : va_G} {tc : Nat → ClassId} (h0 : zSnd l HB b L xs aK aV G tc (zMT.getD 46 zyD) (fun α => zA_RI_V f_J_fill)) (h1 : zSnd l HB b L xs aK aV G tc (zMT.getD 166 zyD) (fun α => zA_vRR_V 8 f_Row_copy)) (h2 : zSnd l HB b L xs aK aV G tc (zMT.getD 44 zyD) (fun α => zA_vRI_N 10 f_Script_passAt)) (h3 : zSnd l HB b L xs aK aV G tc (zMT.getD 167 zyD) (fun α => zA_vRI_N 1 f_Carrier_behindPass)) (h4 : zSnd l HB b L xs aK aV G tc (zMT.getD 174 zyD) (fun α => zA_vRRII_I 1 f_Carrier_throughPass)) : zSnd l HB b L xs aK aV G tc (zMT.getD 175 zyD) (fun α => zA_vRRRI_I 1 f_Carrier_bring) := by
  rw [show zMT.getD 175 zyD = (yX1_bring, cX1_bring, 9, (some .int), 0, 4, 4, 138) from rfl]
  intro α as S k res h
  unfold zA_vRRRI_I at h
  dsimp only at h
  split at h
  · rename_i a0 a1 a2 a3
    obtain ⟨p, hp, h⟩ := zbind h
    unfold zcl at hp
    split at hp
    · rename_i hkd
      have hm := zmeth (l := l) (HB := HB) (b := b) (L := L) (xs := xs) (aK := aK) (aV := aV) (G := G) (tc := tc) (q := (yX1_bring, cX1_bring, 9, (some .int), 0, 4, 4, 138)) (o := 1) (cs := [46, 166, 44, 167, 174]) (rz := false) (T := zP_Carrier_bring) (E := zE_Carrier_bring (Int32 × zM)) (kr := zkI) (res := p) (v0 := some (.int p.1)) (S0 := p.2) (as := [.ref a0, .ref a1, .ref a2, .int a3]) (S := S) zMT_fine (by decide +kernel) (fun i as S k' h => by
        unfold zE_Carrier_bring at h
        rcases zdisf h with ⟨rfl, h⟩ | h
        · exact h0 _ _ _ _ _ h
        rcases zdisf h with ⟨rfl, h⟩ | h
        · exact h1 _ _ _ _ _ h
        rcases zdisf h with ⟨rfl, h⟩ | h
        · exact h2 _ _ _ _ _ h
        rcases zdisf h with ⟨rfl, h⟩ | h
        · exact h3 _ _ _ _ _ h
        rcases zdisf h with ⟨rfl, h⟩ | h
        · exact h4 _ _ _ _ _ h
        cases h) ok_Carrier_bring rfl (fun v S' h => zkI_inv h) (Nat.le_of_ble_eq_true rfl) (fun g H Hw => Hw _ [some (.ref a0), some (.ref a1), some (.ref a2), some (.int a3), none, none, none, none, none] _ _ _ ⟨rfl, rfl, rfl, rfl, trivial⟩ (G_Carrier_bring H Hw a0 a1 a2 a3 S hp))
      exact ⟨_, _, h, hm.1, rfl, fun _ => ⟨_, _, rfl⟩, (fun _ U H hK hH a r e => by cases e; exact zrecv (ci := 1) (by omega) hkd rfl U H hK hH), hm.2⟩
    · cases hp
  · cases h
def zP_Cl_carry : List (List (Nat × zE)) := [[(0, e1 (.aload_n 0) 1 0), (1, ei (.iconst 0) 2 0 (0)), (2, e3 (.putfield 96) 5 11 17 1), (5, e1 (.aload_n 0) 6 0), (6, e3 (.invokevirtual 115) 9 0 1 0), (9, e1 (.ifCond .eq 9) 12 18), (12, e1 (.aload_n 0) 13 0), (13, ei (.iconst 1) 14 0 (1)), (14, e3 (.invokevirtual 79) 17 1 2 0)],
  [(17, e0 (.ireturn) 18), (18, e1 (.aload_n 0) 19 0), (19, e3 (.getfield 35) 22 11 4 2), (22, e1 (.lload_n 1) 23 1), (23, e3 (.invokevirtual 211) 26 2 2 0), (26, e1 (.ifCond .ne 9) 29 35), (29, e1 (.aload_n 0) 30 0), (30, ei (.iconst 2) 31 0 (2)), (31, e3 (.invokevirtual 79) 34 1 2 0)],
  [(34, e0 (.ireturn) 35), (35, e1 (.aload_n 0) 36 0), (36, e3 (.getfield 23) 39 11 2 2), (39, e1 (.aload_n 0) 40 0), (40, e3 (.getfield 65) 43 11 10 2), (43, e1 (.aload_n 0) 44 0), (44, e3 (.getfield 35) 47 11 4 2), (47, ei (.iconst 0) 48 0 (0))],
  [(48, e3 (.invokevirtual 226) 51 3 4 0), (51, e1 (.istore_n 3) 52 3), (52, e1 (.iload_n 3) 53 3), (53, e1 (.ifCond .eq 9) 56 62), (56, e1 (.aload_n 0) 57 0), (57, e1 (.iload_n 3) 58 3), (58, e3 (.invokevirtual 79) 61 1 2 0), (61, e0 (.ireturn) 62), (62, e1 (.aload_n 0) 63 0), (63, ei (.iconst 1) 64 0 (1))],
  [(64, e3 (.putfield 96) 67 11 17 1), (67, e1 (.aload_n 0) 68 0), (68, e1 (.aload_n 0) 69 0), (69, e3 (.getfield 23) 72 11 2 2), (72, e3 (.getfield 230) 75 1 3 2), (75, e3 (.getfield 161) 78 8 1 0), (78, e3 (.invokevirtual 109) 81 4 2 0)],
  [(81, e0 (.ireturn) 82)]]
noncomputable def zE_Cl_carry (α : Type) : Nat → zX α := fun i => bif Nat.beq i 0 then zA_vR_I 11 f_Cl_noScript else bif Nat.beq i 1 then zA_vRI_I 11 f_Cl_refuse else bif Nat.beq i 2 then zA_vRJ_I 8 f_Row_takeWord else bif Nat.beq i 3 then zA_vRRRI_I 1 f_Carrier_bring else bif Nat.beq i 4 then zA_vRI_I 11 f_Cl_answer else fun _ _ _ => none
def zc_Cl_carry : Nat → Bool := fun pc => false
set_option maxRecDepth 100000 in
theorem r_Cl_carry (a0 : Nat) (a1 : Int64) (S : zM) : f_Cl_carry a0 a1 S = zrt false zP_Cl_carry (zE_Cl_carry (Int32 × zM)) zc_Cl_carry zkI (fun pc lv st S => none) 1000 0 [some (.ref a0), some (.long a1), none, none] [] S := rfl
theorem G_Cl_carry {g : zV → Nat → List Value → zM → Prop} {res : (Int32 × zM)} (H : zCl false zP_Cl_carry (zE_Cl_carry (Int32 × zM)) zkI res g) (Hw : zWk g) (a0 : Nat) (a1 : Int64) (S : zM) (h : f_Cl_carry a0 a1 S = some res) : g [some (.ref a0), some (.long a1), none, none] 0 [] S := by
  refine H zc_Cl_carry _ 1000 _ _ _ _ ((r_Cl_carry a0 a1 S).symm.trans h) (fun pc lv st S hK => ?_)
  cases hK
set_option maxRecDepth 100000 in
theorem ok_Cl_carry : zokT 11 [87, 16, 149, 175, 59] false 5 166 4 false (some .int) cX11_carry zP_Cl_carry = true := by decide +kernel
set_option maxRecDepth 100000 in
theorem s_Cl_carry {l : Launch} {HB : Heap} {b L : Nat} {xs : Nat → Int32} {aK aV : Nat → Nat} {G : va_G} {tc : Nat → ClassId} (h0 : zSnd l HB b L xs aK aV G tc (zMT.getD 87 zyD) (fun α => zA_vR_I 11 f_Cl_noScript)) (h1 : zSnd l HB b L xs aK aV G tc (zMT.getD 16 zyD) (fun α => zA_vRI_I 11 f_Cl_refuse)) (h2 : zSnd l HB b L xs aK aV G tc (zMT.getD 149 zyD) (fun α => zA_vRJ_I 8 f_Row_takeWord)) (h3 : zSnd l HB b L xs aK aV G tc (zMT.getD 175 zyD) (fun α => zA_vRRRI_I 1 f_Carrier_bring)) (h4 : zSnd l HB b L xs aK aV G tc (zMT.getD 59 zyD) (fun α => zA_vRI_I 11 f_Cl_answer)) : zSnd l HB b L xs aK aV G tc (zMT.getD 176 zyD) (fun α => zA_vRJ_I 11 f_Cl_carry) := by
  rw [show zMT.getD 176 zyD = (yX11_carry, cX11_carry, 4, (some .int), 0, 2, 5, 166) from rfl]
  intro α as S k res h
  unfold zA_vRJ_I at h
  dsimp only at h
  split at h
  · rename_i a0 a1
    obtain ⟨p, hp, h⟩ := zbind h
    unfold zcl at hp
    split at hp
    · rename_i hkd
      have hm := zmeth (l := l) (HB := HB) (b := b) (L := L) (xs := xs) (aK := aK) (aV := aV) (G := G) (tc := tc) (q := (yX11_carry, cX11_carry, 4, (some .int), 0, 2, 5, 166)) (o := 11) (cs := [87, 16, 149, 175, 59]) (rz := false) (T := zP_Cl_carry) (E := zE_Cl_carry (Int32 × zM)) (kr := zkI) (res := p) (v0 := some (.int p.1)) (S0 := p.2) (as := [.ref a0, .long a1]) (S := S) zMT_fine (by decide +kernel) (fun i as S k' h => by
        unfold zE_Cl_carry at h
        rcases zdisf h with ⟨rfl, h⟩ | h
        · exact h0 _ _ _ _ _ h
        rcases zdisf h with ⟨rfl, h⟩ | h
        · exact h1 _ _ _ _ _ h
        rcases zdisf h with ⟨rfl, h⟩ | h
        · exact h2 _ _ _ _ _ h
        rcases zdisf h with ⟨rfl, h⟩ | h
        · exact h3 _ _ _ _ _ h
        rcases zdisf h with ⟨rfl, h⟩ | h
        · exact h4 _ _ _ _ _ h
        cases h) ok_Cl_carry rfl (fun v S' h => zkI_inv h) (Nat.le_of_ble_eq_true rfl) (fun g H Hw => Hw _ [some (.ref a0), some (.long a1), none, none] _ _ _ ⟨rfl, rfl, trivial⟩ (G_Cl_carry H Hw a0 a1 S hp))
      exact ⟨_, _, h, hm.1, rfl, fun _ => ⟨_, _, rfl⟩, (fun _ U H hK hH a r e => by cases e; exact zrecv (ci := 11) (by omega) hkd rfl U H hK hH), hm.2⟩
    · cases hp
  · cases h
def zP_Mo_sideAt : List (List (Nat × zE)) := [[(0, e1 (.iload_n 1) 1 1), (1, ei (.iconst 0) 2 0 (0)), (2, e1 (.aload_n 0) 3 0), (3, e3 (.getfield 358) 6 12 41 0), (6, ei (.iconst 1) 7 0 (1)), (7, e0 (.isub) 8), (8, e3 (.invokestatic 156) 11 0 3 0), (11, e1 (.ifCond .eq 14) 14 25), (14, ei (.iconst 1) 15 0 (1)), (15, e1 (.aload_n 0) 16 0)],
  [(16, e3 (.getfield 70) 19 12 40 2), (19, e1 (.iload_n 1) 20 1), (20, e0 (.iaload) 21), (21, e0 (.ishl) 22), (22, e1 (.goto 6) 25 28), (25, ei (.sipush 256) 28 0 (256)), (28, e0 (.ireturn) 29)]]
noncomputable def zE_Mo_sideAt (α : Type) : Nat → zX α := fun i => bif Nat.beq i 0 then zA_III_I f_Mo_in else fun _ _ _ => none
def zc_Mo_sideAt : Nat → Bool := fun pc => false
set_option maxRecDepth 100000 in
theorem r_Mo_sideAt (a0 : Nat) (a1 : Int32) (S : zM) : f_Mo_sideAt a0 a1 S = zrt false zP_Mo_sideAt (zE_Mo_sideAt (Int32 × zM)) zc_Mo_sideAt zkI (fun pc lv st S => none) 1000 0 [some (.ref a0), some (.int a1)] [] S := rfl
theorem G_Mo_sideAt {g : zV → Nat → List Value → zM → Prop} {res : (Int32 × zM)} (H : zCl false zP_Mo_sideAt (zE_Mo_sideAt (Int32 × zM)) zkI res g) (Hw : zWk g) (a0 : Nat) (a1 : Int32) (S : zM) (h : f_Mo_sideAt a0 a1 S = some res) : g [some (.ref a0), some (.int a1)] 0 [] S := by
  refine H zc_Mo_sideAt _ 1000 _ _ _ _ ((r_Mo_sideAt a0 a1 S).symm.trans h) (fun pc lv st S hK => ?_)
  cases hK
set_option maxRecDepth 100000 in
theorem ok_Mo_sideAt : zokT 12 [62] false 1 22 2 false (some .int) cX12_sideAt zP_Mo_sideAt = true := by decide +kernel
set_option maxRecDepth 100000 in
theorem s_Mo_sideAt {l : Launch} {HB : Heap} {b L : Nat} {xs : Nat → Int32} {aK aV : Nat → Nat} {G : va_G} {tc : Nat → ClassId} (h0 : zSnd l HB b L xs aK aV G tc (zMT.getD 62 zyD) (fun α => zA_III_I f_Mo_in)) : zSnd l HB b L xs aK aV G tc (zMT.getD 177 zyD) (fun α => zA_vRI_I 12 f_Mo_sideAt) := by
  rw [show zMT.getD 177 zyD = (yX12_sideAt, cX12_sideAt, 2, (some .int), 0, 2, 1, 22) from rfl]
  intro α as S k res h
  unfold zA_vRI_I at h
  dsimp only at h
  split at h
  · rename_i a0 a1
    obtain ⟨p, hp, h⟩ := zbind h
    unfold zcl at hp
    split at hp
    · rename_i hkd
      have hm := zmeth (l := l) (HB := HB) (b := b) (L := L) (xs := xs) (aK := aK) (aV := aV) (G := G) (tc := tc) (q := (yX12_sideAt, cX12_sideAt, 2, (some .int), 0, 2, 1, 22)) (o := 12) (cs := [62]) (rz := false) (T := zP_Mo_sideAt) (E := zE_Mo_sideAt (Int32 × zM)) (kr := zkI) (res := p) (v0 := some (.int p.1)) (S0 := p.2) (as := [.ref a0, .int a1]) (S := S) zMT_fine (by decide +kernel) (fun i as S k' h => by
        unfold zE_Mo_sideAt at h
        rcases zdisf h with ⟨rfl, h⟩ | h
        · exact h0 _ _ _ _ _ h
        cases h) ok_Mo_sideAt rfl (fun v S' h => zkI_inv h) (Nat.le_of_ble_eq_true rfl) (fun g H Hw => Hw _ [some (.ref a0), some (.int a1)] _ _ _ ⟨rfl, rfl, trivial⟩ (G_Mo_sideAt H Hw a0 a1 S hp))
      exact ⟨_, _, h, hm.1, rfl, fun _ => ⟨_, _, rfl⟩, (fun _ U H hK hH a r e => by cases e; exact zrecv (ci := 12) (by omega) hkd rfl U H hK hH), hm.2⟩
    · cases hp
  · cases h
def zP_Mo_fits : List (List (Nat × zE)) := [[(0, e1 (.aload_n 0) 1 0), (1, e3 (.getfield 27) 4 12 13 2), (4, e1 (.iload_n 1) 5 1), (5, e1 (.iload_n 2) 6 2), (6, e0 (.iadd) 7), (7, e0 (.iaload) 8), (8, e1 (.istore 5) 10 5), (10, e1 (.iload 5) 12 5), (12, e1 (.ifCond .eq 15) 15 27), (15, e1 (.iload 4) 17 4)],
  [(17, e1 (.iload 5) 19 5), (19, e0 (.iadd) 20), (20, e1 (.aload_n 0) 21 0), (21, e3 (.getfield 358) 24 12 41 0), (24, e1 (.if_icmp .le 5) 27 29), (27, ei (.iconst 0) 28 0 (0)), (28, e0 (.ireturn) 29), (29, ei (.iconst 0) 30 0 (0)), (30, e1 (.istore 6) 32 6)],
  [(32, e1 (.iload 6) 34 6), (34, e1 (.iload 5) 36 5), (36, e1 (.if_icmp .ge 35) 39 71), (39, e1 (.aload_n 0) 40 0), (40, e3 (.getfield 70) 43 12 40 2), (43, e1 (.iload 4) 45 4), (45, e1 (.iload 6) 47 6), (47, e0 (.iadd) 48)],
  [(48, e0 (.iaload) 49), (49, e1 (.aload_n 0) 50 0), (50, e3 (.getfield 27) 53 12 13 2), (53, e1 (.iload_n 1) 54 1), (54, e1 (.iload_n 3) 55 3), (55, e0 (.iadd) 56), (56, e1 (.iload 6) 58 6), (58, e0 (.iadd) 59), (59, e0 (.iaload) 60), (60, e1 (.if_icmp .eq 5) 63 65), (63, ei (.iconst 0) 64 0 (0))],
  [(64, e0 (.ireturn) 65), (65, ei (.iinc 6 1) 68 6 (1)), (68, e1 (.goto (-36)) 71 32), (71, e1 (.aload_n 0) 72 0), (72, e3 (.getfield 27) 75 12 13 2), (75, e1 (.iload_n 1) 76 1), (76, ei (.iconst 2) 77 0 (2)), (77, e0 (.iadd) 78), (78, e0 (.iaload) 79), (79, e1 (.aload_n 0) 80 0)],
  [(80, e1 (.iload 4) 82 4), (82, ei (.iconst 1) 83 0 (1)), (83, e0 (.isub) 84), (84, e3 (.invokevirtual 374) 87 0 2 0), (87, e0 (.iand) 88), (88, e1 (.ifCond .eq 28) 91 116), (91, e1 (.aload_n 0) 92 0), (92, e3 (.getfield 27) 95 12 13 2), (95, e1 (.iload_n 1) 96 1)],
  [(96, ei (.iconst 3) 97 0 (3)), (97, e0 (.iadd) 98), (98, e0 (.iaload) 99), (99, e1 (.aload_n 0) 100 0), (100, e1 (.iload 4) 102 4), (102, e1 (.iload 5) 104 5), (104, e0 (.iadd) 105), (105, e3 (.invokevirtual 374) 108 0 2 0), (108, e0 (.iand) 109), (109, e1 (.ifCond .eq 7) 112 116)],
  [(112, ei (.iconst 1) 113 0 (1)), (113, e1 (.goto 4) 116 117), (116, ei (.iconst 0) 117 0 (0)), (117, e0 (.ireturn) 118)]]
noncomputable def zE_Mo_fits (α : Type) : Nat → zX α := fun i => bif Nat.beq i 0 then zA_vRI_I 12 f_Mo_sideAt else fun _ _ _ => none
def zc_Mo_fits : Nat → Bool := fun pc => Nat.beq pc 32 || Nat.beq pc 71
def D_Mo_fits_32 (k : Nat → Int32 → Int32 → Int32 → Int32 → Int32 → zM → Option (Int32 × zM)) (lv : zV) (st : List Value) (S : zM) : Option (Int32 × zM) := match lv, st with
  | [some (.ref a0), some (.int a1), _, some (.int a3), some (.int a4), some (.int a5), some (.int a6)], [] => k a0 a1 a3 a4 a5 a6 S
  | _, _ => none
theorem d_Mo_fits_32 {g : zV → Nat → List Value → zM → Prop} (Hw : zWk g) {k : Nat → Int32 → Int32 → Int32 → Int32 → Int32 → zM → Option (Int32 × zM)} {res : (Int32 × zM)} {lv : zV} {st : List Value} {S : zM} (h : D_Mo_fits_32 k lv st S = some res) (hk : ∀ a0 a1 a3 a4 a5 a6 S, k a0 a1 a3 a4 a5 a6 S = some res → g [some (.ref a0), some (.int a1), none, some (.int a3), some (.int a4), some (.int a5), some (.int a6)] 32 [] S) : g lv 32 st S := by
  unfold D_Mo_fits_32 at h
  split at h
  · exact Hw _ _ _ _ _ (by simp [zle]) (hk _ _ _ _ _ _ _  h)
  · cases h
def D_Mo_fits_71 (k : Nat → Int32 → Int32 → Int32 → zM → Option (Int32 × zM)) (lv : zV) (st : List Value) (S : zM) : Option (Int32 × zM) := match lv, st with
  | [some (.ref a0), some (.int a1), _, _, some (.int a4), some (.int a5), _], [] => k a0 a1 a4 a5 S
  | _, _ => none
theorem d_Mo_fits_71 {g : zV → Nat → List Value → zM → Prop} (Hw : zWk g) {k : Nat → Int32 → Int32 → Int32 → zM → Option (Int32 × zM)} {res : (Int32 × zM)} {lv : zV} {st : List Value} {S : zM} (h : D_Mo_fits_71 k lv st S = some res) (hk : ∀ a0 a1 a4 a5 S, k a0 a1 a4 a5 S = some res → g [some (.ref a0), some (.int a1), none, none, some (.int a4), some (.int a5), none] 71 [] S) : g lv 71 st S := by
  unfold D_Mo_fits_71 at h
  split at h
  · exact Hw _ _ _ _ _ (by simp [zle]) (hk _ _ _ _ _  h)
  · cases h
set_option maxRecDepth 100000 in
theorem r_Mo_fits_71 (a0 : Nat) (a1 : Int32) (a4 : Int32) (a5 : Int32) (S : zM) : F_Mo_fits_71 a0 a1 a4 a5 S = zrt true zP_Mo_fits (zE_Mo_fits (Int32 × zM)) zc_Mo_fits zkI (fun pc lv st S => none) 1000 71 [some (.ref a0), some (.int a1), none, none, some (.int a4), some (.int a5), none] [] S := rfl
theorem g_Mo_fits_71 {g : zV → Nat → List Value → zM → Prop} {res : (Int32 × zM)} (H : zCl true zP_Mo_fits (zE_Mo_fits (Int32 × zM)) zkI res g) (Hw : zWk g) (a0 : Nat) (a1 : Int32) (a4 : Int32) (a5 : Int32) (S : zM) (h : F_Mo_fits_71 a0 a1 a4 a5 S = some res) : g [some (.ref a0), some (.int a1), none, none, some (.int a4), some (.int a5), none] 71 [] S := by
  refine H zc_Mo_fits _ 1000 _ _ _ _ ((r_Mo_fits_71 a0 a1 a4 a5 S).symm.trans h) (fun pc lv st S hK => ?_)
  cases hK
set_option maxRecDepth 100000 in
theorem r_Mo_fits_32 (k71 : Nat → Int32 → Int32 → Int32 → zM → Option (Int32 × zM)) (n : Nat) (a0 : Nat) (a1 : Int32) (a3 : Int32) (a4 : Int32) (a5 : Int32) (a6 : Int32) (S : zM) : L_Mo_fits_32 k71 (n + 1) a0 a1 a3 a4 a5 a6 S = zrt true zP_Mo_fits (zE_Mo_fits (Int32 × zM)) zc_Mo_fits zkI (fun pc lv st S => bif Nat.beq pc 32 then D_Mo_fits_32 (L_Mo_fits_32 k71 n) lv st S else bif Nat.beq pc 71 then D_Mo_fits_71 k71 lv st S else none) 1000 32 [some (.ref a0), some (.int a1), none, some (.int a3), some (.int a4), some (.int a5), some (.int a6)] [] S := rfl
theorem g_Mo_fits_32 {g : zV → Nat → List Value → zM → Prop} {res : (Int32 × zM)} (H : zCl true zP_Mo_fits (zE_Mo_fits (Int32 × zM)) zkI res g) (Hw : zWk g) {k71 : Nat → Int32 → Int32 → Int32 → zM → Option (Int32 × zM)} (hk71 : ∀ a0 a1 a4 a5 S, k71 a0 a1 a4 a5 S = some res → g [some (.ref a0), some (.int a1), none, none, some (.int a4), some (.int a5), none] 71 [] S) (n : Nat) : ∀ (a0 : Nat) (a1 : Int32) (a3 : Int32) (a4 : Int32) (a5 : Int32) (a6 : Int32) (S : zM), L_Mo_fits_32 k71 n a0 a1 a3 a4 a5 a6 S = some res → g [some (.ref a0), some (.int a1), none, some (.int a3), some (.int a4), some (.int a5), some (.int a6)] 32 [] S := by
  induction n with
  | zero => intro a0 a1 a3 a4 a5 a6 S h; cases h
  | succ n ih =>
    intro a0 a1 a3 a4 a5 a6 S h
    refine H zc_Mo_fits _ 1000 _ _ _ _ ((r_Mo_fits_32 k71 n a0 a1 a3 a4 a5 a6 S).symm.trans h) (fun pc lv st S hK => ?_)
    rcases zdis hK with ⟨rfl, hK⟩ | hK
    · exact d_Mo_fits_32 Hw hK ih
    rcases zdis hK with ⟨rfl, hK⟩ | hK
    · exact d_Mo_fits_71 Hw hK hk71
    cases hK
set_option maxRecDepth 100000 in
theorem r_Mo_fits (a0 : Nat) (a1 : Int32) (a2 : Int32) (a3 : Int32) (a4 : Int32) (S : zM) : f_Mo_fits a0 a1 a2 a3 a4 S = zrt true zP_Mo_fits (zE_Mo_fits (Int32 × zM)) zc_Mo_fits zkI (fun pc lv st S => bif Nat.beq pc 32 then D_Mo_fits_32 (L_Mo_fits_32 (F_Mo_fits_71) zF) lv st S else none) 1000 0 [some (.ref a0), some (.int a1), some (.int a2), some (.int a3), some (.int a4), none, none] [] S := rfl
theorem G_Mo_fits {g : zV → Nat → List Value → zM → Prop} {res : (Int32 × zM)} (H : zCl true zP_Mo_fits (zE_Mo_fits (Int32 × zM)) zkI res g) (Hw : zWk g) (a0 : Nat) (a1 : Int32) (a2 : Int32) (a3 : Int32) (a4 : Int32) (S : zM) (h : f_Mo_fits a0 a1 a2 a3 a4 S = some res) : g [some (.ref a0), some (.int a1), some (.int a2), some (.int a3), some (.int a4), none, none] 0 [] S := by
  refine H zc_Mo_fits _ 1000 _ _ _ _ ((r_Mo_fits a0 a1 a2 a3 a4 S).symm.trans h) (fun pc lv st S hK => ?_)
  rcases zdis hK with ⟨rfl, hK⟩ | hK
  · exact d_Mo_fits_32 Hw hK (g_Mo_fits_32 H Hw (g_Mo_fits_71 H Hw ) zF)
  cases hK
set_option maxRecDepth 100000 in
theorem ok_Mo_fits : zokT 12 [177] false 2 43 7 true (some .boolean) cX12_fits zP_Mo_fits = true := by decide +kernel
set_option maxRecDepth 100000 in
theorem s_Mo_fits {l : Launch} {HB : Heap} {b L : Nat} {xs : Nat → Int32} {aK aV : Nat → Nat} {G : va_G} {tc : Nat → ClassId} (h0 : zSnd l HB b L xs aK aV G tc (zMT.getD 177 zyD) (fun α => zA_vRI_I 12 f_Mo_sideAt)) : zSnd l HB b L xs aK aV G tc (zMT.getD 178 zyD) (fun α => zA_vRIIII_I 12 f_Mo_fits) := by
  rw [show zMT.getD 178 zyD = (yX12_fits, cX12_fits, 7, (some .boolean), 0, 5, 2, 43) from rfl]
  intro α as S k res h
  unfold zA_vRIIII_I at h
  dsimp only at h
  split at h
  · rename_i a0 a1 a2 a3 a4
    obtain ⟨p, hp, h⟩ := zbind h
    unfold zcl at hp
    split at hp
    · rename_i hkd
      have hm := zmeth (l := l) (HB := HB) (b := b) (L := L) (xs := xs) (aK := aK) (aV := aV) (G := G) (tc := tc) (q := (yX12_fits, cX12_fits, 7, (some .boolean), 0, 5, 2, 43)) (o := 12) (cs := [177]) (rz := true) (T := zP_Mo_fits) (E := zE_Mo_fits (Int32 × zM)) (kr := zkI) (res := p) (v0 := some (.int p.1)) (S0 := p.2) (as := [.ref a0, .int a1, .int a2, .int a3, .int a4]) (S := S) zMT_fine (by decide +kernel) (fun i as S k' h => by
        unfold zE_Mo_fits at h
        rcases zdisf h with ⟨rfl, h⟩ | h
        · exact h0 _ _ _ _ _ h
        cases h) ok_Mo_fits rfl (fun v S' h => zkI_inv h) (Nat.le_of_ble_eq_true rfl) (fun g H Hw => Hw _ [some (.ref a0), some (.int a1), some (.int a2), some (.int a3), some (.int a4), none, none] _ _ _ ⟨rfl, rfl, rfl, rfl, rfl, trivial⟩ (G_Mo_fits H Hw a0 a1 a2 a3 a4 S hp))
      exact ⟨_, _, h, hm.1, rfl, fun _ => ⟨_, _, rfl⟩, (fun _ U H hK hH a r e => by cases e; exact zrecv (ci := 12) (by omega) hkd rfl U H hK hH), hm.2⟩
    · cases hp
  · cases h
def zP_Mo_serving : List (List (Nat × zE)) := [[(0, ei (.iconst (-1)) 1 0 (-1)), (1, e1 (.istore 5) 3 5), (3, ei (.iconst 0) 4 0 (0)), (4, e1 (.istore 6) 6 6), (6, e1 (.iload 6) 8 6), (8, e1 (.aload_n 0) 9 0), (9, e3 (.getfield 20) 12 12 11 2), (12, e1 (.iload_n 1) 13 1), (13, e0 (.iaload) 14), (14, e1 (.if_icmp .ge 80) 17 94)],
  [(17, e1 (.iload_n 1) 18 1), (18, e1 (.iload 6) 20 6), (20, e3 (.invokestatic 319) 23 0 2 0), (23, e1 (.istore 7) 25 7), (25, e1 (.aload_n 0) 26 0), (26, e3 (.getfield 67) 29 12 39 2), (29, ei (.bipush 8) 31 0 (8)), (31, e1 (.iload_n 1) 32 1)],
  [(32, e0 (.imul) 33), (33, e1 (.iload 6) 35 6), (35, e0 (.iadd) 36), (36, e0 (.baload) 37), (37, e1 (.ifCond .ne 51) 40 88), (40, e1 (.aload_n 0) 41 0), (41, e1 (.iload 7) 43 7), (43, e1 (.iload_n 3) 44 3), (44, e1 (.iload 4) 46 4), (46, e1 (.iload_n 2) 47 2), (47, e3 (.invokevirtual 377) 50 1 5 0)],
  [(50, e1 (.ifCond .eq 38) 53 88), (53, e1 (.iload 5) 55 5), (55, ei (.iconst (-1)) 56 0 (-1)), (56, e1 (.if_icmp .eq 28) 59 84), (59, e1 (.aload_n 0) 60 0), (60, e3 (.getfield 27) 63 12 13 2), (63, e1 (.iload 7) 65 7)],
  [(65, e1 (.iload_n 3) 66 3), (66, e0 (.iadd) 67), (67, e0 (.iaload) 68), (68, e1 (.aload_n 0) 69 0), (69, e3 (.getfield 27) 72 12 13 2), (72, e1 (.iload_n 1) 73 1), (73, e1 (.iload 5) 75 5), (75, e3 (.invokestatic 319) 78 0 2 0), (78, e1 (.iload_n 3) 79 3), (79, e0 (.iadd) 80)],
  [(80, e0 (.iaload) 81), (81, e1 (.if_icmp .le 7) 84 88), (84, e1 (.iload 6) 86 6), (86, e1 (.istore 5) 88 5), (88, ei (.iinc 6 1) 91 6 (1)), (91, e1 (.goto (-85)) 94 6), (94, e1 (.iload 5) 96 5)],
  [(96, e0 (.ireturn) 97)]]
noncomputable def zE_Mo_serving (α : Type) : Nat → zX α := fun i => bif Nat.beq i 0 then zA_II_I f_Mo_rowOf else bif Nat.beq i 1 then zA_vRIIII_I 12 f_Mo_fits else fun _ _ _ => none
def zc_Mo_serving : Nat → Bool := fun pc => Nat.beq pc 6
def D_Mo_serving_6 (k : Nat → Int32 → Int32 → Int32 → Int32 → Int32 → Int32 → zM → Option (Int32 × zM)) (lv : zV) (st : List Value) (S : zM) : Option (Int32 × zM) := match lv, st with
  | [some (.ref a0), some (.int a1), some (.int a2), some (.int a3), some (.int a4), some (.int a5), some (.int a6), _], [] => k a0 a1 a2 a3 a4 a5 a6 S
  | _, _ => none
theorem d_Mo_serving_6 {g : zV → Nat → List Value → zM → Prop} (Hw : zWk g) {k : Nat → Int32 → Int32 → Int32 → Int32 → Int32 → Int32 → zM → Option (Int32 × zM)} {res : (Int32 × zM)} {lv : zV} {st : List Value} {S : zM} (h : D_Mo_serving_6 k lv st S = some res) (hk : ∀ a0 a1 a2 a3 a4 a5 a6 S, k a0 a1 a2 a3 a4 a5 a6 S = some res → g [some (.ref a0), some (.int a1), some (.int a2), some (.int a3), some (.int a4), some (.int a5), some (.int a6), none] 6 [] S) : g lv 6 st S := by
  unfold D_Mo_serving_6 at h
  split at h
  · exact Hw _ _ _ _ _ (by simp [zle]) (hk _ _ _ _ _ _ _ _  h)
  · cases h
set_option maxRecDepth 100000 in
theorem r_Mo_serving_6 (n : Nat) (a0 : Nat) (a1 : Int32) (a2 : Int32) (a3 : Int32) (a4 : Int32) (a5 : Int32) (a6 : Int32) (S : zM) : L_Mo_serving_6 (n + 1) a0 a1 a2 a3 a4 a5 a6 S = zrt false zP_Mo_serving (zE_Mo_serving (Int32 × zM)) zc_Mo_serving zkI (fun pc lv st S => bif Nat.beq pc 6 then D_Mo_serving_6 (L_Mo_serving_6 n) lv st S else none) 1000 6 [some (.ref a0), some (.int a1), some (.int a2), some (.int a3), some (.int a4), some (.int a5), some (.int a6), none] [] S := rfl
theorem g_Mo_serving_6 {g : zV → Nat → List Value → zM → Prop} {res : (Int32 × zM)} (H : zCl false zP_Mo_serving (zE_Mo_serving (Int32 × zM)) zkI res g) (Hw : zWk g) (n : Nat) : ∀ (a0 : Nat) (a1 : Int32) (a2 : Int32) (a3 : Int32) (a4 : Int32) (a5 : Int32) (a6 : Int32) (S : zM), L_Mo_serving_6 n a0 a1 a2 a3 a4 a5 a6 S = some res → g [some (.ref a0), some (.int a1), some (.int a2), some (.int a3), some (.int a4), some (.int a5), some (.int a6), none] 6 [] S := by
  induction n with
  | zero => intro a0 a1 a2 a3 a4 a5 a6 S h; cases h
  | succ n ih =>
    intro a0 a1 a2 a3 a4 a5 a6 S h
    refine H zc_Mo_serving _ 1000 _ _ _ _ ((r_Mo_serving_6 n a0 a1 a2 a3 a4 a5 a6 S).symm.trans h) (fun pc lv st S hK => ?_)
    rcases zdis hK with ⟨rfl, hK⟩ | hK
    · exact d_Mo_serving_6 Hw hK ih
    cases hK
set_option maxRecDepth 100000 in
theorem r_Mo_serving (a0 : Nat) (a1 : Int32) (a2 : Int32) (a3 : Int32) (a4 : Int32) (S : zM) : f_Mo_serving a0 a1 a2 a3 a4 S = zrt false zP_Mo_serving (zE_Mo_serving (Int32 × zM)) zc_Mo_serving zkI (fun pc lv st S => bif Nat.beq pc 6 then D_Mo_serving_6 (L_Mo_serving_6 zF) lv st S else none) 1000 0 [some (.ref a0), some (.int a1), some (.int a2), some (.int a3), some (.int a4), none, none, none] [] S := rfl
theorem G_Mo_serving {g : zV → Nat → List Value → zM → Prop} {res : (Int32 × zM)} (H : zCl false zP_Mo_serving (zE_Mo_serving (Int32 × zM)) zkI res g) (Hw : zWk g) (a0 : Nat) (a1 : Int32) (a2 : Int32) (a3 : Int32) (a4 : Int32) (S : zM) (h : f_Mo_serving a0 a1 a2 a3 a4 S = some res) : g [some (.ref a0), some (.int a1), some (.int a2), some (.int a3), some (.int a4), none, none, none] 0 [] S := by
  refine H zc_Mo_serving _ 1000 _ _ _ _ ((r_Mo_serving a0 a1 a2 a3 a4 S).symm.trans h) (fun pc lv st S hK => ?_)
  rcases zdis hK with ⟨rfl, hK⟩ | hK
  · exact d_Mo_serving_6 Hw hK (g_Mo_serving_6 H Hw  zF)
  cases hK
set_option maxRecDepth 100000 in
theorem ok_Mo_serving : zokT 12 [95, 178] false 3 69 8 false (some .int) cX12_serving zP_Mo_serving = true := by decide +kernel
set_option maxRecDepth 100000 in
theorem s_Mo_serving {l : Launch} {HB : Heap} {b L : Nat} {xs : Nat → Int32} {aK aV : Nat → Nat} {G : va_G} {tc : Nat → ClassId} (h0 : zSnd l HB b L xs aK aV G tc (zMT.getD 95 zyD) (fun α => zA_II_I f_Mo_rowOf)) (h1 : zSnd l HB b L xs aK aV G tc (zMT.getD 178 zyD) (fun α => zA_vRIIII_I 12 f_Mo_fits)) : zSnd l HB b L xs aK aV G tc (zMT.getD 179 zyD) (fun α => zA_vRIIII_I 12 f_Mo_serving) := by
  rw [show zMT.getD 179 zyD = (yX12_serving, cX12_serving, 8, (some .int), 0, 5, 3, 69) from rfl]
  intro α as S k res h
  unfold zA_vRIIII_I at h
  dsimp only at h
  split at h
  · rename_i a0 a1 a2 a3 a4
    obtain ⟨p, hp, h⟩ := zbind h
    unfold zcl at hp
    split at hp
    · rename_i hkd
      have hm := zmeth (l := l) (HB := HB) (b := b) (L := L) (xs := xs) (aK := aK) (aV := aV) (G := G) (tc := tc) (q := (yX12_serving, cX12_serving, 8, (some .int), 0, 5, 3, 69)) (o := 12) (cs := [95, 178]) (rz := false) (T := zP_Mo_serving) (E := zE_Mo_serving (Int32 × zM)) (kr := zkI) (res := p) (v0 := some (.int p.1)) (S0 := p.2) (as := [.ref a0, .int a1, .int a2, .int a3, .int a4]) (S := S) zMT_fine (by decide +kernel) (fun i as S k' h => by
        unfold zE_Mo_serving at h
        rcases zdisf h with ⟨rfl, h⟩ | h
        · exact h0 _ _ _ _ _ h
        rcases zdisf h with ⟨rfl, h⟩ | h
        · exact h1 _ _ _ _ _ h
        cases h) ok_Mo_serving rfl (fun v S' h => zkI_inv h) (Nat.le_of_ble_eq_true rfl) (fun g H Hw => Hw _ [some (.ref a0), some (.int a1), some (.int a2), some (.int a3), some (.int a4), none, none, none] _ _ _ ⟨rfl, rfl, rfl, rfl, rfl, trivial⟩ (G_Mo_serving H Hw a0 a1 a2 a3 a4 S hp))
      exact ⟨_, _, h, hm.1, rfl, fun _ => ⟨_, _, rfl⟩, (fun _ U H hK hH a r e => by cases e; exact zrecv (ci := 12) (by omega) hkd rfl U H hK hH), hm.2⟩
    · cases hp
  · cases h
def zP_Mo_goesRound : List (List (Nat × zE)) := [[(0, e1 (.iload_n 2) 1 2), (1, e1 (.ifCond .eq 7) 4 8), (4, ei (.iconst 1) 5 0 (1)), (5, e1 (.goto 4) 8 9), (8, ei (.iconst 0) 9 0 (0)), (9, e1 (.istore_n 3) 10 3), (10, e1 (.iload_n 2) 11 2), (11, e1 (.ifCond .eq 8) 14 19), (14, ei (.bipush 7) 16 0 (7))],
  [(16, e1 (.goto 4) 19 20), (19, ei (.iconst 4) 20 0 (4)), (20, e1 (.istore 4) 22 4), (22, e1 (.aload_n 0) 23 0), (23, ei (.iconst 0) 24 0 (0)), (24, e3 (.putfield 380) 27 12 43 0), (27, ei (.iconst 0) 28 0 (0)), (28, e1 (.istore 5) 30 5), (30, e1 (.iload 5) 32 5)],
  [(32, e1 (.aload_n 0) 33 0), (33, e3 (.getfield 358) 36 12 41 0), (36, e1 (.if_icmp .ge 201) 39 237), (39, e1 (.aload_n 0) 40 0), (40, e1 (.iload_n 1) 41 1), (41, e1 (.iload 5) 43 5), (43, e1 (.iload_n 3) 44 3), (44, e1 (.iload 4) 46 4), (46, e3 (.invokevirtual 383) 49 0 5 0)],
  [(49, e1 (.istore 6) 51 6), (51, e1 (.iload_n 1) 52 1), (52, e1 (.iload 6) 54 6), (54, ei (.iconst (-1)) 55 0 (-1)), (55, e1 (.if_icmp .ne 7) 58 62), (58, ei (.iconst 0) 59 0 (0)), (59, e1 (.goto 5) 62 64), (62, e1 (.iload 6) 64 6)],
  [(64, e3 (.invokestatic 319) 67 1 2 0), (67, e1 (.istore 7) 69 7), (69, e1 (.iload 6) 71 6), (71, ei (.iconst (-1)) 72 0 (-1)), (72, e1 (.if_icmp .ne 7) 75 79), (75, ei (.iconst 1) 76 0 (1)), (76, e1 (.goto 20) 79 96), (79, e1 (.aload_n 0) 80 0)],
  [(80, e3 (.getfield 27) 83 12 13 2), (83, e1 (.iload 7) 85 7), (85, e1 (.iload_n 2) 86 2), (86, e1 (.ifCond .eq 7) 89 93), (89, ei (.iconst 0) 90 0 (0)), (90, e1 (.goto 4) 93 94), (93, ei (.iconst 1) 94 0 (1)), (94, e0 (.iadd) 95), (95, e0 (.iaload) 96)],
  [(96, e1 (.istore 8) 98 8), (98, e1 (.aload_n 0) 99 0), (99, e3 (.getfield 380) 102 12 43 0), (102, e1 (.iload 8) 104 8), (104, e0 (.iadd) 105), (105, ei (.bipush 60) 107 0 (60)), (107, e1 (.if_icmp .le 5) 110 112), (110, ei (.iconst 0) 111 0 (0)), (111, e0 (.ireturn) 112)],
  [(112, ei (.iconst 0) 113 0 (0)), (113, e1 (.istore 9) 115 9), (115, e1 (.iload 9) 117 9), (117, e1 (.iload 8) 119 8), (119, e1 (.if_icmp .ge 58) 122 177), (122, e1 (.aload_n 0) 123 0), (123, e3 (.getfield 73) 126 12 42 2), (126, e1 (.aload_n 0) 127 0), (127, e3 (.getfield 380) 130 12 43 0)],
  [(130, e1 (.iload 9) 132 9), (132, e0 (.iadd) 133), (133, e1 (.iload 6) 135 6), (135, ei (.iconst (-1)) 136 0 (-1)), (136, e1 (.if_icmp .ne 13) 139 149), (139, e1 (.aload_n 0) 140 0), (140, e3 (.getfield 70) 143 12 40 2), (143, e1 (.iload 5) 145 5)],
  [(145, e0 (.iaload) 146), (146, e1 (.goto 24) 149 170), (149, e1 (.aload_n 0) 150 0), (150, e3 (.getfield 27) 153 12 13 2), (153, e1 (.iload 7) 155 7), (155, e1 (.iload_n 2) 156 2), (156, e1 (.ifCond .eq 7) 159 163), (159, ei (.iconst 4) 160 0 (4))],
  [(160, e1 (.goto 5) 163 165), (163, ei (.bipush 7) 165 0 (7)), (165, e0 (.iadd) 166), (166, e1 (.iload 9) 168 9), (168, e0 (.iadd) 169), (169, e0 (.iaload) 170), (170, e0 (.iastore) 171), (171, ei (.iinc 9 1) 174 9 (1)), (174, e1 (.goto (-59)) 177 115)],
  [(177, e1 (.aload_n 0) 178 0), (178, e0 (.dup) 179), (179, e3 (.getfield 380) 182 12 43 0), (182, e1 (.iload 8) 184 8), (184, e0 (.iadd) 185), (185, e3 (.putfield 380) 188 12 43 0), (188, e1 (.iload 5) 190 5), (190, e1 (.iload 6) 192 6)],
  [(192, ei (.iconst (-1)) 193 0 (-1)), (193, e1 (.if_icmp .ne 7) 196 200), (196, ei (.iconst 1) 197 0 (1)), (197, e1 (.goto 12) 200 209), (200, e1 (.aload_n 0) 201 0), (201, e3 (.getfield 27) 204 12 13 2), (204, e1 (.iload 7) 206 7), (206, e1 (.iload_n 3) 207 3), (207, e0 (.iadd) 208)],
  [(208, e0 (.iaload) 209), (209, e0 (.iadd) 210), (210, e1 (.istore 5) 212 5), (212, e1 (.iload 6) 214 6), (214, ei (.iconst (-1)) 215 0 (-1)), (215, e1 (.if_icmp .eq 19) 218 234), (218, e1 (.aload_n 0) 219 0), (219, e3 (.getfield 76) 222 12 44 2), (222, ei (.bipush 8) 224 0 (8))],
  [(224, e1 (.iload_n 1) 225 1), (225, e0 (.imul) 226), (226, e1 (.iload 6) 228 6), (228, e0 (.iadd) 229), (229, e0 (.dup2) 230), (230, e0 (.iaload) 231), (231, ei (.iconst 1) 232 0 (1)), (232, e0 (.iadd) 233), (233, e0 (.iastore) 234), (234, e1 (.goto (-204)) 237 30), (237, ei (.iconst 1) 238 0 (1)), (238, e0 (.ireturn) 239)]]
noncomputable def zE_Mo_goesRound (α : Type) : Nat → zX α := fun i => bif Nat.beq i 0 then zA_vRIIII_I 12 f_Mo_serving else bif Nat.beq i 1 then zA_II_I f_Mo_rowOf else fun _ _ _ => none
def zc_Mo_goesRound : Nat → Bool := fun pc => Nat.beq pc 30 || Nat.beq pc 115 || Nat.beq pc 177
def D_Mo_goesRound_30 (k : Nat → Int32 → Int32 → Int32 → Int32 → Int32 → zM → Option (Int32 × zM)) (lv : zV) (st : List Value) (S : zM) : Option (Int32 × zM) := match lv, st with
  | [some (.ref a0), some (.int a1), some (.int a2), some (.int a3), some (.int a4), some (.int a5), _, _, _, _], [] => k a0 a1 a2 a3 a4 a5 S
  | _, _ => none
theorem d_Mo_goesRound_30 {g : zV → Nat → List Value → zM → Prop} (Hw : zWk g) {k : Nat → Int32 → Int32 → Int32 → Int32 → Int32 → zM → Option (Int32 × zM)} {res : (Int32 × zM)} {lv : zV} {st : List Value} {S : zM} (h : D_Mo_goesRound_30 k lv st S = some res) (hk : ∀ a0 a1 a2 a3 a4 a5 S, k a0 a1 a2 a3 a4 a5 S = some res → g [some (.ref a0), some (.int a1), some (.int a2), some (.int a3), some (.int a4), some (.int a5), none, none, none, none] 30 [] S) : g lv 30 st S := by
  unfold D_Mo_goesRound_30 at h
  split at h
  · exact Hw _ _ _ _ _ (by simp [zle]) (hk _ _ _ _ _ _ _  h)
  · cases h
def D_Mo_goesRound_115 (k : Nat → Int32 → Int32 → Int32 → Int32 → Int32 → Int32 → Int32 → Int32 → Int32 → zM → Option (Int32 × zM)) (lv : zV) (st : List Value) (S : zM) : Option (Int32 × zM) := match lv, st with
  | [some (.ref a0), some (.int a1), some (.int a2), some (.int a3), some (.int a4), some (.int a5), some (.int a6), some (.int a7), some (.int a8), some (.int a9)], [] => k a0 a1 a2 a3 a4 a5 a6 a7 a8 a9 S
  | _, _ => none
theorem d_Mo_goesRound_115 {g : zV → Nat → List Value → zM → Prop} (Hw : zWk g) {k : Nat → Int32 → Int32 → Int32 → Int32 → Int32 → Int32 → Int32 → Int32 → Int32 → zM → Option (Int32 × zM)} {res : (Int32 × zM)} {lv : zV} {st : List Value} {S : zM} (h : D_Mo_goesRound_115 k lv st S = some res) (hk : ∀ a0 a1 a2 a3 a4 a5 a6 a7 a8 a9 S, k a0 a1 a2 a3 a4 a5 a6 a7 a8 a9 S = some res → g [some (.ref a0), some (.int a1), some (.int a2), some (.int a3), some (.int a4), some (.int a5), some (.int a6), some (.int a7), some (.int a8), some (.int a9)] 115 [] S) : g lv 115 st S := by
  unfold D_Mo_goesRound_115 at h
  split at h
  · exact Hw _ _ _ _ _ (by simp [zle]) (hk _ _ _ _ _ _ _ _ _ _ _  h)
  · cases h
def D_Mo_goesRound_177 (k : Nat → Int32 → Int32 → Int32 → Int32 → Int32 → Int32 → Int32 → Int32 → zM → Option (Int32 × zM)) (lv : zV) (st : List Value) (S : zM) : Option (Int32 × zM) := match lv, st with
  | [some (.ref a0), some (.int a1), some (.int a2), some (.int a3), some (.int a4), some (.int a5), some (.int a6), some (.int a7), some (.int a8), _], [] => k a0 a1 a2 a3 a4 a5 a6 a7 a8 S
  | _, _ => none
theorem d_Mo_goesRound_177 {g : zV → Nat → List Value → zM → Prop} (Hw : zWk g) {k : Nat → Int32 → Int32 → Int32 → Int32 → Int32 → Int32 → Int32 → Int32 → zM → Option (Int32 × zM)} {res : (Int32 × zM)} {lv : zV} {st : List Value} {S : zM} (h : D_Mo_goesRound_177 k lv st S = some res) (hk : ∀ a0 a1 a2 a3 a4 a5 a6 a7 a8 S, k a0 a1 a2 a3 a4 a5 a6 a7 a8 S = some res → g [some (.ref a0), some (.int a1), some (.int a2), some (.int a3), some (.int a4), some (.int a5), some (.int a6), some (.int a7), some (.int a8), none] 177 [] S) : g lv 177 st S := by
  unfold D_Mo_goesRound_177 at h
  split at h
  · exact Hw _ _ _ _ _ (by simp [zle]) (hk _ _ _ _ _ _ _ _ _ _  h)
  · cases h
set_option maxRecDepth 100000 in
theorem r_Mo_goesRound_177 (k30 : Nat → Int32 → Int32 → Int32 → Int32 → Int32 → zM → Option (Int32 × zM)) (a0 : Nat) (a1 : Int32) (a2 : Int32) (a3 : Int32) (a4 : Int32) (a5 : Int32) (a6 : Int32) (a7 : Int32) (a8 : Int32) (S : zM) : F_Mo_goesRound_177 k30 a0 a1 a2 a3 a4 a5 a6 a7 a8 S = zrt true zP_Mo_goesRound (zE_Mo_goesRound (Int32 × zM)) zc_Mo_goesRound zkI (fun pc lv st S => bif Nat.beq pc 30 then D_Mo_goesRound_30 k30 lv st S else none) 1000 177 [some (.ref a0), some (.int a1), some (.int a2), some (.int a3), some (.int a4), some (.int a5), some (.int a6), some (.int a7), some (.int a8), none] [] S := rfl
theorem g_Mo_goesRound_177 {g : zV → Nat → List Value → zM → Prop} {res : (Int32 × zM)} (H : zCl true zP_Mo_goesRound (zE_Mo_goesRound (Int32 × zM)) zkI res g) (Hw : zWk g) {k30 : Nat → Int32 → Int32 → Int32 → Int32 → Int32 → zM → Option (Int32 × zM)} (hk30 : ∀ a0 a1 a2 a3 a4 a5 S, k30 a0 a1 a2 a3 a4 a5 S = some res → g [some (.ref a0), some (.int a1), some (.int a2), some (.int a3), some (.int a4), some (.int a5), none, none, none, none] 30 [] S) (a0 : Nat) (a1 : Int32) (a2 : Int32) (a3 : Int32) (a4 : Int32) (a5 : Int32) (a6 : Int32) (a7 : Int32) (a8 : Int32) (S : zM) (h : F_Mo_goesRound_177 k30 a0 a1 a2 a3 a4 a5 a6 a7 a8 S = some res) : g [some (.ref a0), some (.int a1), some (.int a2), some (.int a3), some (.int a4), some (.int a5), some (.int a6), some (.int a7), some (.int a8), none] 177 [] S := by
  refine H zc_Mo_goesRound _ 1000 _ _ _ _ ((r_Mo_goesRound_177 k30 a0 a1 a2 a3 a4 a5 a6 a7 a8 S).symm.trans h) (fun pc lv st S hK => ?_)
  rcases zdis hK with ⟨rfl, hK⟩ | hK
  · exact d_Mo_goesRound_30 Hw hK hk30
  cases hK
set_option maxRecDepth 100000 in
theorem r_Mo_goesRound_115 (k177 : Nat → Int32 → Int32 → Int32 → Int32 → Int32 → Int32 → Int32 → Int32 → zM → Option (Int32 × zM)) (n : Nat) (a0 : Nat) (a1 : Int32) (a2 : Int32) (a3 : Int32) (a4 : Int32) (a5 : Int32) (a6 : Int32) (a7 : Int32) (a8 : Int32) (a9 : Int32) (S : zM) : L_Mo_goesRound_115 k177 (n + 1) a0 a1 a2 a3 a4 a5 a6 a7 a8 a9 S = zrt true zP_Mo_goesRound (zE_Mo_goesRound (Int32 × zM)) zc_Mo_goesRound zkI (fun pc lv st S => bif Nat.beq pc 115 then D_Mo_goesRound_115 (L_Mo_goesRound_115 k177 n) lv st S else bif Nat.beq pc 177 then D_Mo_goesRound_177 k177 lv st S else none) 1000 115 [some (.ref a0), some (.int a1), some (.int a2), some (.int a3), some (.int a4), some (.int a5), some (.int a6), some (.int a7), some (.int a8), some (.int a9)] [] S := rfl
theorem g_Mo_goesRound_115 {g : zV → Nat → List Value → zM → Prop} {res : (Int32 × zM)} (H : zCl true zP_Mo_goesRound (zE_Mo_goesRound (Int32 × zM)) zkI res g) (Hw : zWk g) {k177 : Nat → Int32 → Int32 → Int32 → Int32 → Int32 → Int32 → Int32 → Int32 → zM → Option (Int32 × zM)} (hk177 : ∀ a0 a1 a2 a3 a4 a5 a6 a7 a8 S, k177 a0 a1 a2 a3 a4 a5 a6 a7 a8 S = some res → g [some (.ref a0), some (.int a1), some (.int a2), some (.int a3), some (.int a4), some (.int a5), some (.int a6), some (.int a7), some (.int a8), none] 177 [] S) (n : Nat) : ∀ (a0 : Nat) (a1 : Int32) (a2 : Int32) (a3 : Int32) (a4 : Int32) (a5 : Int32) (a6 : Int32) (a7 : Int32) (a8 : Int32) (a9 : Int32) (S : zM), L_Mo_goesRound_115 k177 n a0 a1 a2 a3 a4 a5 a6 a7 a8 a9 S = some res → g [some (.ref a0), some (.int a1), some (.int a2), some (.int a3), some (.int a4), some (.int a5), some (.int a6), some (.int a7), some (.int a8), some (.int a9)] 115 [] S := by
  induction n with
  | zero => intro a0 a1 a2 a3 a4 a5 a6 a7 a8 a9 S h; cases h
  | succ n ih =>
    intro a0 a1 a2 a3 a4 a5 a6 a7 a8 a9 S h
    refine H zc_Mo_goesRound _ 1000 _ _ _ _ ((r_Mo_goesRound_115 k177 n a0 a1 a2 a3 a4 a5 a6 a7 a8 a9 S).symm.trans h) (fun pc lv st S hK => ?_)
    rcases zdis hK with ⟨rfl, hK⟩ | hK
    · exact d_Mo_goesRound_115 Hw hK ih
    rcases zdis hK with ⟨rfl, hK⟩ | hK
    · exact d_Mo_goesRound_177 Hw hK hk177
    cases hK
set_option maxRecDepth 100000 in
theorem r_Mo_goesRound_30 (n : Nat) (a0 : Nat) (a1 : Int32) (a2 : Int32) (a3 : Int32) (a4 : Int32) (a5 : Int32) (S : zM) : L_Mo_goesRound_30 (n + 1) a0 a1 a2 a3 a4 a5 S = zrt true zP_Mo_goesRound (zE_Mo_goesRound (Int32 × zM)) zc_Mo_goesRound zkI (fun pc lv st S => bif Nat.beq pc 115 then D_Mo_goesRound_115 (L_Mo_goesRound_115 (F_Mo_goesRound_177 (L_Mo_goesRound_30 n)) zF) lv st S else none) 1000 30 [some (.ref a0), some (.int a1), some (.int a2), some (.int a3), some (.int a4), some (.int a5), none, none, none, none] [] S := rfl
theorem g_Mo_goesRound_30 {g : zV → Nat → List Value → zM → Prop} {res : (Int32 × zM)} (H : zCl true zP_Mo_goesRound (zE_Mo_goesRound (Int32 × zM)) zkI res g) (Hw : zWk g) (n : Nat) : ∀ (a0 : Nat) (a1 : Int32) (a2 : Int32) (a3 : Int32) (a4 : Int32) (a5 : Int32) (S : zM), L_Mo_goesRound_30 n a0 a1 a2 a3 a4 a5 S = some res → g [some (.ref a0), some (.int a1), some (.int a2), some (.int a3), some (.int a4), some (.int a5), none, none, none, none] 30 [] S := by
  induction n with
  | zero => intro a0 a1 a2 a3 a4 a5 S h; cases h
  | succ n ih =>
    intro a0 a1 a2 a3 a4 a5 S h
    refine H zc_Mo_goesRound _ 1000 _ _ _ _ ((r_Mo_goesRound_30 n a0 a1 a2 a3 a4 a5 S).symm.trans h) (fun pc lv st S hK => ?_)
    rcases zdis hK with ⟨rfl, hK⟩ | hK
    · exact d_Mo_goesRound_115 Hw hK (g_Mo_goesRound_115 H Hw (g_Mo_goesRound_177 H Hw ih) zF)
    cases hK
set_option maxRecDepth 100000 in
theorem r_Mo_goesRound (a0 : Nat) (a1 : Int32) (a2 : Int32) (S : zM) : f_Mo_goesRound a0 a1 a2 S = zrt true zP_Mo_goesRound (zE_Mo_goesRound (Int32 × zM)) zc_Mo_goesRound zkI (fun pc lv st S => bif Nat.beq pc 30 then D_Mo_goesRound_30 (L_Mo_goesRound_30 zF) lv st S else none) 1000 0 [some (.ref a0), some (.int a1), some (.int a2), none, none, none, none, none, none, none] [] S := rfl
theorem G_Mo_goesRound {g : zV → Nat → List Value → zM → Prop} {res : (Int32 × zM)} (H : zCl true zP_Mo_goesRound (zE_Mo_goesRound (Int32 × zM)) zkI res g) (Hw : zWk g) (a0 : Nat) (a1 : Int32) (a2 : Int32) (S : zM) (h : f_Mo_goesRound a0 a1 a2 S = some res) : g [some (.ref a0), some (.int a1), some (.int a2), none, none, none, none, none, none, none] 0 [] S := by
  refine H zc_Mo_goesRound _ 1000 _ _ _ _ ((r_Mo_goesRound a0 a1 a2 S).symm.trans h) (fun pc lv st S hK => ?_)
  rcases zdis hK with ⟨rfl, hK⟩ | hK
  · exact d_Mo_goesRound_30 Hw hK (g_Mo_goesRound_30 H Hw  zF)
  cases hK
set_option maxRecDepth 100000 in
theorem ok_Mo_goesRound : zokT 12 [179, 95] false 4 96 10 true (some .boolean) cX12_goesRound zP_Mo_goesRound = true := by decide +kernel
set_option maxRecDepth 100000 in
theorem s_Mo_goesRound {l : Launch} {HB : Heap} {b L : Nat} {xs : Nat → Int32} {aK aV : Nat → Nat} {G : va_G} {tc : Nat → ClassId} (h0 : zSnd l HB b L xs aK aV G tc (zMT.getD 179 zyD) (fun α => zA_vRIIII_I 12 f_Mo_serving)) (h1 : zSnd l HB b L xs aK aV G tc (zMT.getD 95 zyD) (fun α => zA_II_I f_Mo_rowOf)) : zSnd l HB b L xs aK aV G tc (zMT.getD 180 zyD) (fun α => zA_vRII_I 12 f_Mo_goesRound) := by
  rw [show zMT.getD 180 zyD = (yX12_goesRound, cX12_goesRound, 10, (some .boolean), 0, 3, 4, 96) from rfl]
  intro α as S k res h
  unfold zA_vRII_I at h
  dsimp only at h
  split at h
  · rename_i a0 a1 a2
    obtain ⟨p, hp, h⟩ := zbind h
    unfold zcl at hp
    split at hp
    · rename_i hkd
      have hm := zmeth (l := l) (HB := HB) (b := b) (L := L) (xs := xs) (aK := aK) (aV := aV) (G := G) (tc := tc) (q := (yX12_goesRound, cX12_goesRound, 10, (some .boolean), 0, 3, 4, 96)) (o := 12) (cs := [179, 95]) (rz := true) (T := zP_Mo_goesRound) (E := zE_Mo_goesRound (Int32 × zM)) (kr := zkI) (res := p) (v0 := some (.int p.1)) (S0 := p.2) (as := [.ref a0, .int a1, .int a2]) (S := S) zMT_fine (by decide +kernel) (fun i as S k' h => by
        unfold zE_Mo_goesRound at h
        rcases zdisf h with ⟨rfl, h⟩ | h
        · exact h0 _ _ _ _ _ h
        rcases zdisf h with ⟨rfl, h⟩ | h
        · exact h1 _ _ _ _ _ h
        cases h) ok_Mo_goesRound rfl (fun v S' h => zkI_inv h) (Nat.le_of_ble_eq_true rfl) (fun g H Hw => Hw _ [some (.ref a0), some (.int a1), some (.int a2), none, none, none, none, none, none, none] _ _ _ ⟨rfl, rfl, rfl, trivial⟩ (G_Mo_goesRound H Hw a0 a1 a2 S hp))
      exact ⟨_, _, h, hm.1, rfl, fun _ => ⟨_, _, rfl⟩, (fun _ U H hK hH a r e => by cases e; exact zrecv (ci := 12) (by omega) hkd rfl U H hK hH), hm.2⟩
    · cases hp
  · cases h
def zP_Mo_isChanged : List (List (Nat × zE)) := [[(0, e1 (.aload_n 0) 1 0), (1, e3 (.getfield 358) 4 12 41 0), (4, e1 (.aload_n 0) 5 0), (5, e3 (.getfield 380) 8 12 43 0), (8, e1 (.if_icmp .eq 5) 11 13), (11, ei (.iconst 1) 12 0 (1)), (12, e0 (.ireturn) 13), (13, ei (.iconst 0) 14 0 (0)), (14, e1 (.istore_n 1) 15 1), (15, e1 (.iload_n 1) 16 1)],
  [(16, e1 (.aload_n 0) 17 0), (17, e3 (.getfield 358) 20 12 41 0), (20, e1 (.if_icmp .ge 26) 23 46), (23, e1 (.aload_n 0) 24 0), (24, e3 (.getfield 70) 27 12 40 2), (27, e1 (.iload_n 1) 28 1), (28, e0 (.iaload) 29), (29, e1 (.aload_n 0) 30 0), (30, e3 (.getfield 73) 33 12 42 2)],
  [(33, e1 (.iload_n 1) 34 1), (34, e0 (.iaload) 35), (35, e1 (.if_icmp .eq 5) 38 40), (38, ei (.iconst 1) 39 0 (1)), (39, e0 (.ireturn) 40), (40, ei (.iinc 1 1) 43 1 (1)), (43, e1 (.goto (-28)) 46 15), (46, ei (.iconst 0) 47 0 (0)), (47, e0 (.ireturn) 48)]]
noncomputable def zE_Mo_isChanged (α : Type) : Nat → zX α := fun _ => fun _ _ _ => none
def zc_Mo_isChanged : Nat → Bool := fun pc => Nat.beq pc 15
def D_Mo_isChanged_15 (k : Nat → Int32 → zM → Option (Int32 × zM)) (lv : zV) (st : List Value) (S : zM) : Option (Int32 × zM) := match lv, st with
  | [some (.ref a0), some (.int a1)], [] => k a0 a1 S
  | _, _ => none
theorem d_Mo_isChanged_15 {g : zV → Nat → List Value → zM → Prop} (Hw : zWk g) {k : Nat → Int32 → zM → Option (Int32 × zM)} {res : (Int32 × zM)} {lv : zV} {st : List Value} {S : zM} (h : D_Mo_isChanged_15 k lv st S = some res) (hk : ∀ a0 a1 S, k a0 a1 S = some res → g [some (.ref a0), some (.int a1)] 15 [] S) : g lv 15 st S := by
  unfold D_Mo_isChanged_15 at h
  split at h
  · exact Hw _ _ _ _ _ (by simp [zle]) (hk _ _ _  h)
  · cases h
set_option maxRecDepth 100000 in
theorem r_Mo_isChanged_15 (n : Nat) (a0 : Nat) (a1 : Int32) (S : zM) : L_Mo_isChanged_15 (n + 1) a0 a1 S = zrt true zP_Mo_isChanged (zE_Mo_isChanged (Int32 × zM)) zc_Mo_isChanged zkI (fun pc lv st S => bif Nat.beq pc 15 then D_Mo_isChanged_15 (L_Mo_isChanged_15 n) lv st S else none) 1000 15 [some (.ref a0), some (.int a1)] [] S := rfl
theorem g_Mo_isChanged_15 {g : zV → Nat → List Value → zM → Prop} {res : (Int32 × zM)} (H : zCl true zP_Mo_isChanged (zE_Mo_isChanged (Int32 × zM)) zkI res g) (Hw : zWk g) (n : Nat) : ∀ (a0 : Nat) (a1 : Int32) (S : zM), L_Mo_isChanged_15 n a0 a1 S = some res → g [some (.ref a0), some (.int a1)] 15 [] S := by
  induction n with
  | zero => intro a0 a1 S h; cases h
  | succ n ih =>
    intro a0 a1 S h
    refine H zc_Mo_isChanged _ 1000 _ _ _ _ ((r_Mo_isChanged_15 n a0 a1 S).symm.trans h) (fun pc lv st S hK => ?_)
    rcases zdis hK with ⟨rfl, hK⟩ | hK
    · exact d_Mo_isChanged_15 Hw hK ih
    cases hK
set_option maxRecDepth 100000 in
theorem r_Mo_isChanged (a0 : Nat) (S : zM) : f_Mo_isChanged a0 S = zrt true zP_Mo_isChanged (zE_Mo_isChanged (Int32 × zM)) zc_Mo_isChanged zkI (fun pc lv st S => bif Nat.beq pc 15 then D_Mo_isChanged_15 (L_Mo_isChanged_15 zF) lv st S else none) 1000 0 [some (.ref a0), none] [] S := rfl
theorem G_Mo_isChanged {g : zV → Nat → List Value → zM → Prop} {res : (Int32 × zM)} (H : zCl true zP_Mo_isChanged (zE_Mo_isChanged (Int32 × zM)) zkI res g) (Hw : zWk g) (a0 : Nat) (S : zM) (h : f_Mo_isChanged a0 S = some res) : g [some (.ref a0), none] 0 [] S := by
  refine H zc_Mo_isChanged _ 1000 _ _ _ _ ((r_Mo_isChanged a0 S).symm.trans h) (fun pc lv st S hK => ?_)
  rcases zdis hK with ⟨rfl, hK⟩ | hK
  · exact d_Mo_isChanged_15 Hw hK (g_Mo_isChanged_15 H Hw  zF)
  cases hK
set_option maxRecDepth 100000 in
theorem ok_Mo_isChanged : zokT 12 [] false 0 0 2 true (some .boolean) cX12_isChanged zP_Mo_isChanged = true := by decide +kernel
set_option maxRecDepth 100000 in
theorem s_Mo_isChanged {l : Launch} {HB : Heap} {b L : Nat} {xs : Nat → Int32} {aK aV : Nat → Nat} {G : va_G} {tc : Nat → ClassId} : zSnd l HB b L xs aK aV G tc (zMT.getD 181 zyD) (fun α => zA_vR_I 12 f_Mo_isChanged) := by
  rw [show zMT.getD 181 zyD = (yX12_isChanged, cX12_isChanged, 2, (some .boolean), 0, 1, 0, 0) from rfl]
  intro α as S k res h
  unfold zA_vR_I at h
  dsimp only at h
  split at h
  · rename_i a0
    obtain ⟨p, hp, h⟩ := zbind h
    unfold zcl at hp
    split at hp
    · rename_i hkd
      have hm := zmeth (l := l) (HB := HB) (b := b) (L := L) (xs := xs) (aK := aK) (aV := aV) (G := G) (tc := tc) (q := (yX12_isChanged, cX12_isChanged, 2, (some .boolean), 0, 1, 0, 0)) (o := 12) (cs := []) (rz := true) (T := zP_Mo_isChanged) (E := zE_Mo_isChanged (Int32 × zM)) (kr := zkI) (res := p) (v0 := some (.int p.1)) (S0 := p.2) (as := [.ref a0]) (S := S) zMT_fine (by decide +kernel) (fun i as S k' h => by
        unfold zE_Mo_isChanged at h
        cases h) ok_Mo_isChanged rfl (fun v S' h => zkI_inv h) (Nat.le_of_ble_eq_true rfl) (fun g H Hw => Hw _ [some (.ref a0), none] _ _ _ ⟨rfl, trivial⟩ (G_Mo_isChanged H Hw a0 S hp))
      exact ⟨_, _, h, hm.1, rfl, fun _ => ⟨_, _, rfl⟩, (fun _ U H hK hH a r e => by cases e; exact zrecv (ci := 12) (by omega) hkd rfl U H hK hH), hm.2⟩
    · cases hp
  · cases h
def zP_Mo_comesOut : List (List (Nat × zE)) := [[(0, ei (.iconst 0) 1 0 (0)), (1, e1 (.istore_n 1) 2 1), (2, e1 (.iload_n 1) 3 1), (3, e1 (.aload_n 0) 4 0), (4, e3 (.getfield 380) 7 12 43 0), (7, e1 (.if_icmp .ge 21) 10 28), (10, e1 (.aload_n 0) 11 0), (11, e3 (.getfield 70) 14 12 40 2), (14, e1 (.iload_n 1) 15 1), (15, e1 (.aload_n 0) 16 0)],
  [(16, e3 (.getfield 73) 19 12 42 2), (19, e1 (.iload_n 1) 20 1), (20, e0 (.iaload) 21), (21, e0 (.iastore) 22), (22, ei (.iinc 1 1) 25 1 (1)), (25, e1 (.goto (-23)) 28 2), (28, e1 (.aload_n 0) 29 0), (29, e1 (.aload_n 0) 30 0), (30, e3 (.getfield 380) 33 12 43 0)],
  [(33, e3 (.putfield 358) 36 12 41 0), (36, e0 (.return_) 37)]]
noncomputable def zE_Mo_comesOut (α : Type) : Nat → zX α := fun _ => fun _ _ _ => none
def zc_Mo_comesOut : Nat → Bool := fun pc => Nat.beq pc 2
def D_Mo_comesOut_2 (k : Nat → Int32 → zM → Option zM) (lv : zV) (st : List Value) (S : zM) : Option zM := match lv, st with
  | [some (.ref a0), some (.int a1)], [] => k a0 a1 S
  | _, _ => none
theorem d_Mo_comesOut_2 {g : zV → Nat → List Value → zM → Prop} (Hw : zWk g) {k : Nat → Int32 → zM → Option zM} {res : zM} {lv : zV} {st : List Value} {S : zM} (h : D_Mo_comesOut_2 k lv st S = some res) (hk : ∀ a0 a1 S, k a0 a1 S = some res → g [some (.ref a0), some (.int a1)] 2 [] S) : g lv 2 st S := by
  unfold D_Mo_comesOut_2 at h
  split at h
  · exact Hw _ _ _ _ _ (by simp [zle]) (hk _ _ _  h)
  · cases h
set_option maxRecDepth 100000 in
theorem r_Mo_comesOut_2 (n : Nat) (a0 : Nat) (a1 : Int32) (S : zM) : L_Mo_comesOut_2 (n + 1) a0 a1 S = zrt false zP_Mo_comesOut (zE_Mo_comesOut zM) zc_Mo_comesOut zkV (fun pc lv st S => bif Nat.beq pc 2 then D_Mo_comesOut_2 (L_Mo_comesOut_2 n) lv st S else none) 1000 2 [some (.ref a0), some (.int a1)] [] S := rfl
theorem g_Mo_comesOut_2 {g : zV → Nat → List Value → zM → Prop} {res : zM} (H : zCl false zP_Mo_comesOut (zE_Mo_comesOut zM) zkV res g) (Hw : zWk g) (n : Nat) : ∀ (a0 : Nat) (a1 : Int32) (S : zM), L_Mo_comesOut_2 n a0 a1 S = some res → g [some (.ref a0), some (.int a1)] 2 [] S := by
  induction n with
  | zero => intro a0 a1 S h; cases h
  | succ n ih =>
    intro a0 a1 S h
    refine H zc_Mo_comesOut _ 1000 _ _ _ _ ((r_Mo_comesOut_2 n a0 a1 S).symm.trans h) (fun pc lv st S hK => ?_)
    rcases zdis hK with ⟨rfl, hK⟩ | hK
    · exact d_Mo_comesOut_2 Hw hK ih
    cases hK
set_option maxRecDepth 100000 in
theorem r_Mo_comesOut (a0 : Nat) (S : zM) : f_Mo_comesOut a0 S = zrt false zP_Mo_comesOut (zE_Mo_comesOut zM) zc_Mo_comesOut zkV (fun pc lv st S => bif Nat.beq pc 2 then D_Mo_comesOut_2 (L_Mo_comesOut_2 zF) lv st S else none) 1000 0 [some (.ref a0), none] [] S := rfl
theorem G_Mo_comesOut {g : zV → Nat → List Value → zM → Prop} {res : zM} (H : zCl false zP_Mo_comesOut (zE_Mo_comesOut zM) zkV res g) (Hw : zWk g) (a0 : Nat) (S : zM) (h : f_Mo_comesOut a0 S = some res) : g [some (.ref a0), none] 0 [] S := by
  refine H zc_Mo_comesOut _ 1000 _ _ _ _ ((r_Mo_comesOut a0 S).symm.trans h) (fun pc lv st S hK => ?_)
  rcases zdis hK with ⟨rfl, hK⟩ | hK
  · exact d_Mo_comesOut_2 Hw hK (g_Mo_comesOut_2 H Hw  zF)
  cases hK
set_option maxRecDepth 100000 in
theorem ok_Mo_comesOut : zokT 12 [] false 0 0 2 false none cX12_comesOut zP_Mo_comesOut = true := by decide +kernel
set_option maxRecDepth 100000 in
theorem s_Mo_comesOut {l : Launch} {HB : Heap} {b L : Nat} {xs : Nat → Int32} {aK aV : Nat → Nat} {G : va_G} {tc : Nat → ClassId} : zSnd l HB b L xs aK aV G tc (zMT.getD 182 zyD) (fun α => zA_vR_V 12 f_Mo_comesOut) := by
  rw [show zMT.getD 182 zyD = (yX12_comesOut, cX12_comesOut, 2, none, 0, 1, 0, 0) from rfl]
  intro α as S k res h
  unfold zA_vR_V at h
  dsimp only at h
  split at h
  · rename_i a0
    obtain ⟨p, hp, h⟩ := zbind h
    unfold zcl at hp
    split at hp
    · rename_i hkd
      have hm := zmeth (l := l) (HB := HB) (b := b) (L := L) (xs := xs) (aK := aK) (aV := aV) (G := G) (tc := tc) (q := (yX12_comesOut, cX12_comesOut, 2, none, 0, 1, 0, 0)) (o := 12) (cs := []) (rz := false) (T := zP_Mo_comesOut) (E := zE_Mo_comesOut zM) (kr := zkV) (res := p) (v0 := none) (S0 := p) (as := [.ref a0]) (S := S) zMT_fine (by decide +kernel) (fun i as S k' h => by
        unfold zE_Mo_comesOut at h
        cases h) ok_Mo_comesOut rfl (fun v S' h => zkV_inv h) (Nat.le_of_ble_eq_true rfl) (fun g H Hw => Hw _ [some (.ref a0), none] _ _ _ ⟨rfl, trivial⟩ (G_Mo_comesOut H Hw a0 S hp))
      exact ⟨_, _, h, hm.1, rfl, fun _ => ⟨_, _, rfl⟩, (fun _ U H hK hH a r e => by cases e; exact zrecv (ci := 12) (by omega) hkd rfl U H hK hH), hm.2⟩
    · cases hp
  · cases h
def zP_Mo_goesPass : List (List (Nat × zE)) := [[(0, e1 (.aload_n 0) 1 0), (1, e3 (.getfield 79) 4 12 45 2), (4, e1 (.iload_n 1) 5 1), (5, ei (.iconst 0) 6 0 (0)), (6, e0 (.iastore) 7), (7, e1 (.aload_n 0) 8 0), (8, e1 (.iload_n 1) 9 1), (9, e1 (.iload_n 2) 10 2), (10, e3 (.invokevirtual 387) 13 0 3 0), (13, e1 (.ifCond .ne 6) 16 19)],
  [(16, ei (.bipush 6) 18 0 (6)), (18, e0 (.ireturn) 19), (19, e1 (.aload_n 0) 20 0), (20, e3 (.getfield 79) 23 12 45 2), (23, e1 (.iload_n 1) 24 1), (24, e0 (.dup2) 25), (25, e0 (.iaload) 26), (26, ei (.iconst 1) 27 0 (1)), (27, e0 (.iadd) 28), (28, e0 (.iastore) 29), (29, e1 (.aload_n 0) 30 0), (30, e3 (.invokevirtual 391) 33 1 1 0)],
  [(33, e1 (.istore_n 3) 34 3), (34, e1 (.aload_n 0) 35 0), (35, e3 (.invokevirtual 394) 38 2 1 0), (38, e1 (.aload_n 0) 39 0), (39, e3 (.getfield 23) 42 12 12 2), (42, e1 (.iload_n 1) 43 1), (43, e0 (.baload) 44), (44, e1 (.ifCond .eq 7) 47 51), (47, e1 (.iload_n 3) 48 3)],
  [(48, e1 (.ifCond .ne 5) 51 53), (51, ei (.iconst 0) 52 0 (0)), (52, e0 (.ireturn) 53), (53, e1 (.aload_n 0) 54 0), (54, e3 (.getfield 79) 57 12 45 2), (57, e1 (.iload_n 1) 58 1), (58, e0 (.iaload) 59), (59, ei (.bipush 20) 61 0 (20)), (61, e1 (.if_icmp .ne 6) 64 67)],
  [(64, ei (.bipush 7) 66 0 (7)), (66, e0 (.ireturn) 67), (67, e1 (.goto (-60)) 70 7)]]
noncomputable def zE_Mo_goesPass (α : Type) : Nat → zX α := fun i => bif Nat.beq i 0 then zA_vRII_I 12 f_Mo_goesRound else bif Nat.beq i 1 then zA_vR_I 12 f_Mo_isChanged else bif Nat.beq i 2 then zA_vR_V 12 f_Mo_comesOut else fun _ _ _ => none
def zc_Mo_goesPass : Nat → Bool := fun pc => Nat.beq pc 7
def D_Mo_goesPass_7 (k : Nat → Int32 → Int32 → zM → Option (Int32 × zM)) (lv : zV) (st : List Value) (S : zM) : Option (Int32 × zM) := match lv, st with
  | [some (.ref a0), some (.int a1), some (.int a2), _], [] => k a0 a1 a2 S
  | _, _ => none
theorem d_Mo_goesPass_7 {g : zV → Nat → List Value → zM → Prop} (Hw : zWk g) {k : Nat → Int32 → Int32 → zM → Option (Int32 × zM)} {res : (Int32 × zM)} {lv : zV} {st : List Value} {S : zM} (h : D_Mo_goesPass_7 k lv st S = some res) (hk : ∀ a0 a1 a2 S, k a0 a1 a2 S = some res → g [some (.ref a0), some (.int a1), some (.int a2), none] 7 [] S) : g lv 7 st S := by
  unfold D_Mo_goesPass_7 at h
  split at h
  · exact Hw _ _ _ _ _ (by simp [zle]) (hk _ _ _ _  h)
  · cases h
set_option maxRecDepth 100000 in
theorem r_Mo_goesPass_7 (n : Nat) (a0 : Nat) (a1 : Int32) (a2 : Int32) (S : zM) : L_Mo_goesPass_7 (n + 1) a0 a1 a2 S = zrt false zP_Mo_goesPass (zE_Mo_goesPass (Int32 × zM)) zc_Mo_goesPass zkI (fun pc lv st S => bif Nat.beq pc 7 then D_Mo_goesPass_7 (L_Mo_goesPass_7 n) lv st S else none) 1000 7 [some (.ref a0), some (.int a1), some (.int a2), none] [] S := rfl
theorem g_Mo_goesPass_7 {g : zV → Nat → List Value → zM → Prop} {res : (Int32 × zM)} (H : zCl false zP_Mo_goesPass (zE_Mo_goesPass (Int32 × zM)) zkI res g) (Hw : zWk g) (n : Nat) : ∀ (a0 : Nat) (a1 : Int32) (a2 : Int32) (S : zM), L_Mo_goesPass_7 n a0 a1 a2 S = some res → g [some (.ref a0), some (.int a1), some (.int a2), none] 7 [] S := by
  induction n with
  | zero => intro a0 a1 a2 S h; cases h
  | succ n ih =>
    intro a0 a1 a2 S h
    refine H zc_Mo_goesPass _ 1000 _ _ _ _ ((r_Mo_goesPass_7 n a0 a1 a2 S).symm.trans h) (fun pc lv st S hK => ?_)
    rcases zdis hK with ⟨rfl, hK⟩ | hK
    · exact d_Mo_goesPass_7 Hw hK ih
    cases hK
set_option maxRecDepth 100000 in
theorem r_Mo_goesPass (a0 : Nat) (a1 : Int32) (a2 : Int32) (S : zM) : f_Mo_goesPass a0 a1 a2 S = zrt false zP_Mo_goesPass (zE_Mo_goesPass (Int32 × zM)) zc_Mo_goesPass zkI (fun pc lv st S => bif Nat.beq pc 7 then D_Mo_goesPass_7 (L_Mo_goesPass_7 zF) lv st S else none) 1000 0 [some (.ref a0), some (.int a1), some (.int a2), none] [] S := rfl
theorem G_Mo_goesPass {g : zV → Nat → List Value → zM → Prop} {res : (Int32 × zM)} (H : zCl false zP_Mo_goesPass (zE_Mo_goesPass (Int32 × zM)) zkI res g) (Hw : zWk g) (a0 : Nat) (a1 : Int32) (a2 : Int32) (S : zM) (h : f_Mo_goesPass a0 a1 a2 S = some res) : g [some (.ref a0), some (.int a1), some (.int a2), none] 0 [] S := by
  refine H zc_Mo_goesPass _ 1000 _ _ _ _ ((r_Mo_goesPass a0 a1 a2 S).symm.trans h) (fun pc lv st S hK => ?_)
  rcases zdis hK with ⟨rfl, hK⟩ | hK
  · exact d_Mo_goesPass_7 Hw hK (g_Mo_goesPass_7 H Hw  zF)
  cases hK
set_option maxRecDepth 100000 in
theorem ok_Mo_goesPass : zokT 12 [180, 181, 182] false 5 125 4 false (some .int) cX12_goesPass zP_Mo_goesPass = true := by decide +kernel
set_option maxRecDepth 100000 in
theorem s_Mo_goesPass {l : Launch} {HB : Heap} {b L : Nat} {xs : Nat → Int32} {aK aV : Nat → Nat} {G : va_G} {tc : Nat → ClassId} (h0 : zSnd l HB b L xs aK aV G tc (zMT.getD 180 zyD) (fun α => zA_vRII_I 12 f_Mo_goesRound)) (h1 : zSnd l HB b L xs aK aV G tc (zMT.getD 181 zyD) (fun α => zA_vR_I 12 f_Mo_isChanged)) (h2 : zSnd l HB b L xs aK aV G tc (zMT.getD 182 zyD) (fun α => zA_vR_V 12 f_Mo_comesOut)) : zSnd l HB b L xs aK aV G tc (zMT.getD 183 zyD) (fun α => zA_vRII_I 12 f_Mo_goesPass) := by
  rw [show zMT.getD 183 zyD = (yX12_goesPass, cX12_goesPass, 4, (some .int), 0, 3, 5, 125) from rfl]
  intro α as S k res h
  unfold zA_vRII_I at h
  dsimp only at h
  split at h
  · rename_i a0 a1 a2
    obtain ⟨p, hp, h⟩ := zbind h
    unfold zcl at hp
    split at hp
    · rename_i hkd
      have hm := zmeth (l := l) (HB := HB) (b := b) (L := L) (xs := xs) (aK := aK) (aV := aV) (G := G) (tc := tc) (q := (yX12_goesPass, cX12_goesPass, 4, (some .int), 0, 3, 5, 125)) (o := 12) (cs := [180, 181, 182]) (rz := false) (T := zP_Mo_goesPass) (E := zE_Mo_goesPass (Int32 × zM)) (kr := zkI) (res := p) (v0 := some (.int p.1)) (S0 := p.2) (as := [.ref a0, .int a1, .int a2]) (S := S) zMT_fine (by decide +kernel) (fun i as S k' h => by
        unfold zE_Mo_goesPass at h
        rcases zdisf h with ⟨rfl, h⟩ | h
        · exact h0 _ _ _ _ _ h
        rcases zdisf h with ⟨rfl, h⟩ | h
        · exact h1 _ _ _ _ _ h
        rcases zdisf h with ⟨rfl, h⟩ | h
        · exact h2 _ _ _ _ _ h
        cases h) ok_Mo_goesPass rfl (fun v S' h => zkI_inv h) (Nat.le_of_ble_eq_true rfl) (fun g H Hw => Hw _ [some (.ref a0), some (.int a1), some (.int a2), none] _ _ _ ⟨rfl, rfl, rfl, trivial⟩ (G_Mo_goesPass H Hw a0 a1 a2 S hp))
      exact ⟨_, _, h, hm.1, rfl, fun _ => ⟨_, _, rfl⟩, (fun _ U H hK hH a r e => by cases e; exact zrecv (ci := 12) (by omega) hkd rfl U H hK hH), hm.2⟩
    · cases hp
  · cases h
def zP_Mo_goesAll : List (List (Nat × zE)) := [[(0, ei (.iconst 0) 1 0 (0)), (1, e1 (.istore_n 2) 2 2), (2, e1 (.iload_n 2) 3 2), (3, ei (.bipush 24) 5 0 (24)), (5, e1 (.if_icmp .ge 16) 8 21), (8, e1 (.aload_n 0) 9 0), (9, e3 (.getfield 76) 12 12 44 2), (12, e1 (.iload_n 2) 13 2), (13, ei (.iconst 0) 14 0 (0)), (14, e0 (.iastore) 15), (15, ei (.iinc 2 1) 18 2 (1))],
  [(18, e1 (.goto (-16)) 21 2), (21, ei (.iconst 0) 22 0 (0)), (22, e1 (.istore_n 2) 23 2), (23, e1 (.iload_n 2) 24 2), (24, e1 (.aload_n 0) 25 0), (25, e3 (.getfield 290) 28 12 8 0), (28, e1 (.if_icmp .ge 89) 31 117), (31, e1 (.iload_n 1) 32 1)],
  [(32, e1 (.ifCond .eq 14) 35 46), (35, e1 (.aload_n 0) 36 0), (36, e3 (.getfield 290) 39 12 8 0), (39, ei (.iconst 1) 40 0 (1)), (40, e0 (.isub) 41), (41, e1 (.iload_n 2) 42 2), (42, e0 (.isub) 43), (43, e1 (.goto 4) 46 47), (46, e1 (.iload_n 2) 47 2), (47, e1 (.istore_n 3) 48 3)],
  [(48, e1 (.aload_n 0) 49 0), (49, e1 (.iload_n 3) 50 3), (50, e1 (.iload_n 1) 51 1), (51, e3 (.invokevirtual 397) 54 0 3 0), (54, e1 (.istore 4) 56 4), (56, e1 (.iload 4) 58 4), (58, e1 (.ifCond .eq 6) 61 64), (61, e1 (.iload 4) 63 4), (63, e0 (.ireturn) 64)],
  [(64, e1 (.aload_n 0) 65 0), (65, e3 (.getfield 82) 68 12 46 2), (68, e1 (.iload_n 3) 69 3), (69, e1 (.aload_n 0) 70 0), (70, e3 (.getfield 358) 73 12 41 0), (73, e0 (.iastore) 74), (74, ei (.iconst 0) 75 0 (0)), (75, e1 (.istore 5) 77 5), (77, e1 (.iload 5) 79 5), (79, e1 (.aload_n 0) 80 0)],
  [(80, e3 (.getfield 358) 83 12 41 0), (83, e1 (.if_icmp .ge 28) 86 111), (86, e1 (.aload_n 0) 87 0), (87, e3 (.getfield 85) 90 12 47 2), (90, ei (.bipush 60) 92 0 (60)), (92, e1 (.iload_n 3) 93 3), (93, e0 (.imul) 94), (94, e1 (.iload 5) 96 5)],
  [(96, e0 (.iadd) 97), (97, e1 (.aload_n 0) 98 0), (98, e3 (.getfield 70) 101 12 40 2), (101, e1 (.iload 5) 103 5), (103, e0 (.iaload) 104), (104, e0 (.iastore) 105), (105, ei (.iinc 5 1) 108 5 (1)), (108, e1 (.goto (-31)) 111 77), (111, ei (.iinc 2 1) 114 2 (1))],
  [(114, e1 (.goto (-91)) 117 23), (117, ei (.iconst 0) 118 0 (0)), (118, e0 (.ireturn) 119)]]
noncomputable def zE_Mo_goesAll (α : Type) : Nat → zX α := fun i => bif Nat.beq i 0 then zA_vRII_I 12 f_Mo_goesPass else fun _ _ _ => none
def zc_Mo_goesAll : Nat → Bool := fun pc => Nat.beq pc 2 || Nat.beq pc 21 || Nat.beq pc 23 || Nat.beq pc 77 || Nat.beq pc 111
def D_Mo_goesAll_2 (k : Nat → Int32 → Int32 → zM → Option (Int32 × zM)) (lv : zV) (st : List Value) (S : zM) : Option (Int32 × zM) := match lv, st with
  | [some (.ref a0), some (.int a1), some (.int a2), _, _, _], [] => k a0 a1 a2 S
  | _, _ => none
theorem d_Mo_goesAll_2 {g : zV → Nat → List Value → zM → Prop} (Hw : zWk g) {k : Nat → Int32 → Int32 → zM → Option (Int32 × zM)} {res : (Int32 × zM)} {lv : zV} {st : List Value} {S : zM} (h : D_Mo_goesAll_2 k lv st S = some res) (hk : ∀ a0 a1 a2 S, k a0 a1 a2 S = some res → g [some (.ref a0), some (.int a1), some (.int a2), none, none, none] 2 [] S) : g lv 2 st S := by
  unfold D_Mo_goesAll_2 at h
  split at h
  · exact Hw _ _ _ _ _ (by simp [zle]) (hk _ _ _ _  h)
  · cases h
def D_Mo_goesAll_21 (k : Nat → Int32 → zM → Option (Int32 × zM)) (lv : zV) (st : List Value) (S : zM) : Option (Int32 × zM) := match lv, st with
  | [some (.ref a0), some (.int a1), _, _, _, _], [] => k a0 a1 S
  | _, _ => none
theorem d_Mo_goesAll_21 {g : zV → Nat → List Value → zM → Prop} (Hw : zWk g) {k : Nat → Int32 → zM → Option (Int32 × zM)} {res : (Int32 × zM)} {lv : zV} {st : List Value} {S : zM} (h : D_Mo_goesAll_21 k lv st S = some res) (hk : ∀ a0 a1 S, k a0 a1 S = some res → g [some (.ref a0), some (.int a1), none, none, none, none] 21 [] S) : g lv 21 st S := by
  unfold D_Mo_goesAll_21 at h
  split at h
  · exact Hw _ _ _ _ _ (by simp [zle]) (hk _ _ _  h)
  · cases h
def D_Mo_goesAll_23 (k : Nat → Int32 → Int32 → zM → Option (Int32 × zM)) (lv : zV) (st : List Value) (S : zM) : Option (Int32 × zM) := match lv, st with
  | [some (.ref a0), some (.int a1), some (.int a2), _, _, _], [] => k a0 a1 a2 S
  | _, _ => none
theorem d_Mo_goesAll_23 {g : zV → Nat → List Value → zM → Prop} (Hw : zWk g) {k : Nat → Int32 → Int32 → zM → Option (Int32 × zM)} {res : (Int32 × zM)} {lv : zV} {st : List Value} {S : zM} (h : D_Mo_goesAll_23 k lv st S = some res) (hk : ∀ a0 a1 a2 S, k a0 a1 a2 S = some res → g [some (.ref a0), some (.int a1), some (.int a2), none, none, none] 23 [] S) : g lv 23 st S := by
  unfold D_Mo_goesAll_23 at h
  split at h
  · exact Hw _ _ _ _ _ (by simp [zle]) (hk _ _ _ _  h)
  · cases h
def D_Mo_goesAll_77 (k : Nat → Int32 → Int32 → Int32 → Int32 → zM → Option (Int32 × zM)) (lv : zV) (st : List Value) (S : zM) : Option (Int32 × zM) := match lv, st with
  | [some (.ref a0), some (.int a1), some (.int a2), some (.int a3), _, some (.int a5)], [] => k a0 a1 a2 a3 a5 S
  | _, _ => none
theorem d_Mo_goesAll_77 {g : zV → Nat → List Value → zM → Prop} (Hw : zWk g) {k : Nat → Int32 → Int32 → Int32 → Int32 → zM → Option (Int32 × zM)} {res : (Int32 × zM)} {lv : zV} {st : List Value} {S : zM} (h : D_Mo_goesAll_77 k lv st S = some res) (hk : ∀ a0 a1 a2 a3 a5 S, k a0 a1 a2 a3 a5 S = some res → g [some (.ref a0), some (.int a1), some (.int a2), some (.int a3), none, some (.int a5)] 77 [] S) : g lv 77 st S := by
  unfold D_Mo_goesAll_77 at h
  split at h
  · exact Hw _ _ _ _ _ (by simp [zle]) (hk _ _ _ _ _ _  h)
  · cases h
def D_Mo_goesAll_111 (k : Nat → Int32 → Int32 → zM → Option (Int32 × zM)) (lv : zV) (st : List Value) (S : zM) : Option (Int32 × zM) := match lv, st with
  | [some (.ref a0), some (.int a1), some (.int a2), _, _, _], [] => k a0 a1 a2 S
  | _, _ => none
theorem d_Mo_goesAll_111 {g : zV → Nat → List Value → zM → Prop} (Hw : zWk g) {k : Nat → Int32 → Int32 → zM → Option (Int32 × zM)} {res : (Int32 × zM)} {lv : zV} {st : List Value} {S : zM} (h : D_Mo_goesAll_111 k lv st S = some res) (hk : ∀ a0 a1 a2 S, k a0 a1 a2 S = some res → g [some (.ref a0), some (.int a1), some (.int a2), none, none, none] 111 [] S) : g lv 111 st S := by
  unfold D_Mo_goesAll_111 at h
  split at h
  · exact Hw _ _ _ _ _ (by simp [zle]) (hk _ _ _ _  h)
  · cases h
set_option maxRecDepth 100000 in
theorem r_Mo_goesAll_111 (k23 : Nat → Int32 → Int32 → zM → Option (Int32 × zM)) (a0 : Nat) (a1 : Int32) (a2 : Int32) (S : zM) : F_Mo_goesAll_111 k23 a0 a1 a2 S = zrt false zP_Mo_goesAll (zE_Mo_goesAll (Int32 × zM)) zc_Mo_goesAll zkI (fun pc lv st S => bif Nat.beq pc 23 then D_Mo_goesAll_23 k23 lv st S else none) 1000 111 [some (.ref a0), some (.int a1), some (.int a2), none, none, none] [] S := rfl
theorem g_Mo_goesAll_111 {g : zV → Nat → List Value → zM → Prop} {res : (Int32 × zM)} (H : zCl false zP_Mo_goesAll (zE_Mo_goesAll (Int32 × zM)) zkI res g) (Hw : zWk g) {k23 : Nat → Int32 → Int32 → zM → Option (Int32 × zM)} (hk23 : ∀ a0 a1 a2 S, k23 a0 a1 a2 S = some res → g [some (.ref a0), some (.int a1), some (.int a2), none, none, none] 23 [] S) (a0 : Nat) (a1 : Int32) (a2 : Int32) (S : zM) (h : F_Mo_goesAll_111 k23 a0 a1 a2 S = some res) : g [some (.ref a0), some (.int a1), some (.int a2), none, none, none] 111 [] S := by
  refine H zc_Mo_goesAll _ 1000 _ _ _ _ ((r_Mo_goesAll_111 k23 a0 a1 a2 S).symm.trans h) (fun pc lv st S hK => ?_)
  rcases zdis hK with ⟨rfl, hK⟩ | hK
  · exact d_Mo_goesAll_23 Hw hK hk23
  cases hK
set_option maxRecDepth 100000 in
theorem r_Mo_goesAll_77 (k111 : Nat → Int32 → Int32 → zM → Option (Int32 × zM)) (n : Nat) (a0 : Nat) (a1 : Int32) (a2 : Int32) (a3 : Int32) (a5 : Int32) (S : zM) : L_Mo_goesAll_77 k111 (n + 1) a0 a1 a2 a3 a5 S = zrt false zP_Mo_goesAll (zE_Mo_goesAll (Int32 × zM)) zc_Mo_goesAll zkI (fun pc lv st S => bif Nat.beq pc 77 then D_Mo_goesAll_77 (L_Mo_goesAll_77 k111 n) lv st S else bif Nat.beq pc 111 then D_Mo_goesAll_111 k111 lv st S else none) 1000 77 [some (.ref a0), some (.int a1), some (.int a2), some (.int a3), none, some (.int a5)] [] S := rfl
theorem g_Mo_goesAll_77 {g : zV → Nat → List Value → zM → Prop} {res : (Int32 × zM)} (H : zCl false zP_Mo_goesAll (zE_Mo_goesAll (Int32 × zM)) zkI res g) (Hw : zWk g) {k111 : Nat → Int32 → Int32 → zM → Option (Int32 × zM)} (hk111 : ∀ a0 a1 a2 S, k111 a0 a1 a2 S = some res → g [some (.ref a0), some (.int a1), some (.int a2), none, none, none] 111 [] S) (n : Nat) : ∀ (a0 : Nat) (a1 : Int32) (a2 : Int32) (a3 : Int32) (a5 : Int32) (S : zM), L_Mo_goesAll_77 k111 n a0 a1 a2 a3 a5 S = some res → g [some (.ref a0), some (.int a1), some (.int a2), some (.int a3), none, some (.int a5)] 77 [] S := by
  induction n with
  | zero => intro a0 a1 a2 a3 a5 S h; cases h
  | succ n ih =>
    intro a0 a1 a2 a3 a5 S h
    refine H zc_Mo_goesAll _ 1000 _ _ _ _ ((r_Mo_goesAll_77 k111 n a0 a1 a2 a3 a5 S).symm.trans h) (fun pc lv st S hK => ?_)
    rcases zdis hK with ⟨rfl, hK⟩ | hK
    · exact d_Mo_goesAll_77 Hw hK ih
    rcases zdis hK with ⟨rfl, hK⟩ | hK
    · exact d_Mo_goesAll_111 Hw hK hk111
    cases hK
set_option maxRecDepth 100000 in
theorem r_Mo_goesAll_23 (n : Nat) (a0 : Nat) (a1 : Int32) (a2 : Int32) (S : zM) : L_Mo_goesAll_23 (n + 1) a0 a1 a2 S = zrt false zP_Mo_goesAll (zE_Mo_goesAll (Int32 × zM)) zc_Mo_goesAll zkI (fun pc lv st S => bif Nat.beq pc 77 then D_Mo_goesAll_77 (L_Mo_goesAll_77 (F_Mo_goesAll_111 (L_Mo_goesAll_23 n)) zF) lv st S else none) 1000 23 [some (.ref a0), some (.int a1), some (.int a2), none, none, none] [] S := rfl
theorem g_Mo_goesAll_23 {g : zV → Nat → List Value → zM → Prop} {res : (Int32 × zM)} (H : zCl false zP_Mo_goesAll (zE_Mo_goesAll (Int32 × zM)) zkI res g) (Hw : zWk g) (n : Nat) : ∀ (a0 : Nat) (a1 : Int32) (a2 : Int32) (S : zM), L_Mo_goesAll_23 n a0 a1 a2 S = some res → g [some (.ref a0), some (.int a1), some (.int a2), none, none, none] 23 [] S := by
  induction n with
  | zero => intro a0 a1 a2 S h; cases h
  | succ n ih =>
    intro a0 a1 a2 S h
    refine H zc_Mo_goesAll _ 1000 _ _ _ _ ((r_Mo_goesAll_23 n a0 a1 a2 S).symm.trans h) (fun pc lv st S hK => ?_)
    rcases zdis hK with ⟨rfl, hK⟩ | hK
    · exact d_Mo_goesAll_77 Hw hK (g_Mo_goesAll_77 H Hw (g_Mo_goesAll_111 H Hw ih) zF)
    cases hK
set_option maxRecDepth 100000 in
theorem r_Mo_goesAll_21 (k23 : Nat → Int32 → Int32 → zM → Option (Int32 × zM)) (a0 : Nat) (a1 : Int32) (S : zM) : F_Mo_goesAll_21 k23 a0 a1 S = zrt false zP_Mo_goesAll (zE_Mo_goesAll (Int32 × zM)) zc_Mo_goesAll zkI (fun pc lv st S => bif Nat.beq pc 23 then D_Mo_goesAll_23 k23 lv st S else none) 1000 21 [some (.ref a0), some (.int a1), none, none, none, none] [] S := rfl
theorem g_Mo_goesAll_21 {g : zV → Nat → List Value → zM → Prop} {res : (Int32 × zM)} (H : zCl false zP_Mo_goesAll (zE_Mo_goesAll (Int32 × zM)) zkI res g) (Hw : zWk g) {k23 : Nat → Int32 → Int32 → zM → Option (Int32 × zM)} (hk23 : ∀ a0 a1 a2 S, k23 a0 a1 a2 S = some res → g [some (.ref a0), some (.int a1), some (.int a2), none, none, none] 23 [] S) (a0 : Nat) (a1 : Int32) (S : zM) (h : F_Mo_goesAll_21 k23 a0 a1 S = some res) : g [some (.ref a0), some (.int a1), none, none, none, none] 21 [] S := by
  refine H zc_Mo_goesAll _ 1000 _ _ _ _ ((r_Mo_goesAll_21 k23 a0 a1 S).symm.trans h) (fun pc lv st S hK => ?_)
  rcases zdis hK with ⟨rfl, hK⟩ | hK
  · exact d_Mo_goesAll_23 Hw hK hk23
  cases hK
set_option maxRecDepth 100000 in
theorem r_Mo_goesAll_2 (k21 : Nat → Int32 → zM → Option (Int32 × zM)) (n : Nat) (a0 : Nat) (a1 : Int32) (a2 : Int32) (S : zM) : L_Mo_goesAll_2 k21 (n + 1) a0 a1 a2 S = zrt false zP_Mo_goesAll (zE_Mo_goesAll (Int32 × zM)) zc_Mo_goesAll zkI (fun pc lv st S => bif Nat.beq pc 2 then D_Mo_goesAll_2 (L_Mo_goesAll_2 k21 n) lv st S else bif Nat.beq pc 21 then D_Mo_goesAll_21 k21 lv st S else none) 1000 2 [some (.ref a0), some (.int a1), some (.int a2), none, none, none] [] S := rfl
theorem g_Mo_goesAll_2 {g : zV → Nat → List Value → zM → Prop} {res : (Int32 × zM)} (H : zCl false zP_Mo_goesAll (zE_Mo_goesAll (Int32 × zM)) zkI res g) (Hw : zWk g) {k21 : Nat → Int32 → zM → Option (Int32 × zM)} (hk21 : ∀ a0 a1 S, k21 a0 a1 S = some res → g [some (.ref a0), some (.int a1), none, none, none, none] 21 [] S) (n : Nat) : ∀ (a0 : Nat) (a1 : Int32) (a2 : Int32) (S : zM), L_Mo_goesAll_2 k21 n a0 a1 a2 S = some res → g [some (.ref a0), some (.int a1), some (.int a2), none, none, none] 2 [] S := by
  induction n with
  | zero => intro a0 a1 a2 S h; cases h
  | succ n ih =>
    intro a0 a1 a2 S h
    refine H zc_Mo_goesAll _ 1000 _ _ _ _ ((r_Mo_goesAll_2 k21 n a0 a1 a2 S).symm.trans h) (fun pc lv st S hK => ?_)
    rcases zdis hK with ⟨rfl, hK⟩ | hK
    · exact d_Mo_goesAll_2 Hw hK ih
    rcases zdis hK with ⟨rfl, hK⟩ | hK
    · exact d_Mo_goesAll_21 Hw hK hk21
    cases hK
set_option maxRecDepth 100000 in
theorem r_Mo_goesAll (a0 : Nat) (a1 : Int32) (S : zM) : f_Mo_goesAll a0 a1 S = zrt false zP_Mo_goesAll (zE_Mo_goesAll (Int32 × zM)) zc_Mo_goesAll zkI (fun pc lv st S => bif Nat.beq pc 2 then D_Mo_goesAll_2 (L_Mo_goesAll_2 (F_Mo_goesAll_21 (L_Mo_goesAll_23 zF)) zF) lv st S else none) 1000 0 [some (.ref a0), some (.int a1), none, none, none, none] [] S := rfl
theorem G_Mo_goesAll {g : zV → Nat → List Value → zM → Prop} {res : (Int32 × zM)} (H : zCl false zP_Mo_goesAll (zE_Mo_goesAll (Int32 × zM)) zkI res g) (Hw : zWk g) (a0 : Nat) (a1 : Int32) (S : zM) (h : f_Mo_goesAll a0 a1 S = some res) : g [some (.ref a0), some (.int a1), none, none, none, none] 0 [] S := by
  refine H zc_Mo_goesAll _ 1000 _ _ _ _ ((r_Mo_goesAll a0 a1 S).symm.trans h) (fun pc lv st S hK => ?_)
  rcases zdis hK with ⟨rfl, hK⟩ | hK
  · exact d_Mo_goesAll_2 Hw hK (g_Mo_goesAll_2 H Hw (g_Mo_goesAll_21 H Hw (g_Mo_goesAll_23 H Hw  zF)) zF)
  cases hK
set_option maxRecDepth 100000 in
theorem ok_Mo_goesAll : zokT 12 [183] false 6 148 6 false (some .int) cX12_goesAll zP_Mo_goesAll = true := by decide +kernel
set_option maxRecDepth 100000 in
theorem s_Mo_goesAll {l : Launch} {HB : Heap} {b L : Nat} {xs : Nat → Int32} {aK aV : Nat → Nat} {G : va_G} {tc : Nat → ClassId} (h0 : zSnd l HB b L xs aK aV G tc (zMT.getD 183 zyD) (fun α => zA_vRII_I 12 f_Mo_goesPass)) : zSnd l HB b L xs aK aV G tc (zMT.getD 184 zyD) (fun α => zA_vRI_I 12 f_Mo_goesAll) := by
  rw [show zMT.getD 184 zyD = (yX12_goesAll, cX12_goesAll, 6, (some .int), 0, 2, 6, 148) from rfl]
  intro α as S k res h
  unfold zA_vRI_I at h
  dsimp only at h
  split at h
  · rename_i a0 a1
    obtain ⟨p, hp, h⟩ := zbind h
    unfold zcl at hp
    split at hp
    · rename_i hkd
      have hm := zmeth (l := l) (HB := HB) (b := b) (L := L) (xs := xs) (aK := aK) (aV := aV) (G := G) (tc := tc) (q := (yX12_goesAll, cX12_goesAll, 6, (some .int), 0, 2, 6, 148)) (o := 12) (cs := [183]) (rz := false) (T := zP_Mo_goesAll) (E := zE_Mo_goesAll (Int32 × zM)) (kr := zkI) (res := p) (v0 := some (.int p.1)) (S0 := p.2) (as := [.ref a0, .int a1]) (S := S) zMT_fine (by decide +kernel) (fun i as S k' h => by
        unfold zE_Mo_goesAll at h
        rcases zdisf h with ⟨rfl, h⟩ | h
        · exact h0 _ _ _ _ _ h
        cases h) ok_Mo_goesAll rfl (fun v S' h => zkI_inv h) (Nat.le_of_ble_eq_true rfl) (fun g H Hw => Hw _ [some (.ref a0), some (.int a1), none, none, none, none] _ _ _ ⟨rfl, rfl, trivial⟩ (G_Mo_goesAll H Hw a0 a1 S hp))
      exact ⟨_, _, h, hm.1, rfl, fun _ => ⟨_, _, rfl⟩, (fun _ U H hK hH a r e => by cases e; exact zrecv (ci := 12) (by omega) hkd rfl U H hK hH), hm.2⟩
    · cases hp
  · cases h
def zP_Mo_remembers : List (List (Nat × zE)) := [[(0, e1 (.aload_n 0) 1 0), (1, ei (.iconst 1) 2 0 (1)), (2, e3 (.putfield 297) 5 12 48 1), (5, e1 (.aload_n 0) 6 0), (6, e1 (.aload_n 0) 7 0), (7, e3 (.getfield 358) 10 12 41 0), (10, e3 (.putfield 403) 13 12 49 0), (13, ei (.iconst 0) 14 0 (0)), (14, e1 (.istore_n 1) 15 1), (15, e1 (.iload_n 1) 16 1)],
  [(16, e1 (.aload_n 0) 17 0), (17, e3 (.getfield 358) 20 12 41 0), (20, e1 (.if_icmp .ge 21) 23 41), (23, e1 (.aload_n 0) 24 0), (24, e3 (.getfield 88) 27 12 50 2), (27, e1 (.iload_n 1) 28 1), (28, e1 (.aload_n 0) 29 0), (29, e3 (.getfield 70) 32 12 40 2)],
  [(32, e1 (.iload_n 1) 33 1), (33, e0 (.iaload) 34), (34, e0 (.iastore) 35), (35, ei (.iinc 1 1) 38 1 (1)), (38, e1 (.goto (-23)) 41 15), (41, ei (.iconst 0) 42 0 (0)), (42, e1 (.istore_n 1) 43 1), (43, e1 (.iload_n 1) 44 1), (44, ei (.bipush 24) 46 0 (24)), (46, e1 (.if_icmp .ge 21) 49 67)],
  [(49, e1 (.aload_n 0) 50 0), (50, e3 (.getfield 91) 53 12 51 2), (53, e1 (.iload_n 1) 54 1), (54, e1 (.aload_n 0) 55 0), (55, e3 (.getfield 76) 58 12 44 2), (58, e1 (.iload_n 1) 59 1), (59, e0 (.iaload) 60), (60, e0 (.iastore) 61), (61, ei (.iinc 1 1) 64 1 (1))],
  [(64, e1 (.goto (-21)) 67 43), (67, ei (.iconst 0) 68 0 (0)), (68, e1 (.istore_n 1) 69 1), (69, e1 (.iload_n 1) 70 1), (70, ei (.iconst 3) 71 0 (3)), (71, e1 (.if_icmp .ge 33) 74 104), (74, e1 (.aload_n 0) 75 0), (75, e3 (.getfield 94) 78 12 52 2), (78, e1 (.iload_n 1) 79 1), (79, e1 (.aload_n 0) 80 0)],
  [(80, e3 (.getfield 79) 83 12 45 2), (83, e1 (.iload_n 1) 84 1), (84, e0 (.iaload) 85), (85, e0 (.iastore) 86), (86, e1 (.aload_n 0) 87 0), (87, e3 (.getfield 97) 90 12 53 2), (90, e1 (.iload_n 1) 91 1), (91, e1 (.aload_n 0) 92 0), (92, e3 (.getfield 82) 95 12 46 2), (95, e1 (.iload_n 1) 96 1)],
  [(96, e0 (.iaload) 97), (97, e0 (.iastore) 98), (98, ei (.iinc 1 1) 101 1 (1)), (101, e1 (.goto (-32)) 104 69), (104, ei (.iconst 0) 105 0 (0)), (105, e1 (.istore_n 1) 106 1), (106, e1 (.iload_n 1) 107 1), (107, ei (.sipush 180) 110 0 (180)), (110, e1 (.if_icmp .ge 21) 113 131)],
  [(113, e1 (.aload_n 0) 114 0), (114, e3 (.getfield 100) 117 12 54 2), (117, e1 (.iload_n 1) 118 1), (118, e1 (.aload_n 0) 119 0), (119, e3 (.getfield 85) 122 12 47 2), (122, e1 (.iload_n 1) 123 1), (123, e0 (.iaload) 124), (124, e0 (.iastore) 125), (125, ei (.iinc 1 1) 128 1 (1))],
  [(128, e1 (.goto (-22)) 131 106), (131, e0 (.return_) 132)]]
noncomputable def zE_Mo_remembers (α : Type) : Nat → zX α := fun _ => fun _ _ _ => none
def zc_Mo_remembers : Nat → Bool := fun pc => Nat.beq pc 15 || Nat.beq pc 41 || Nat.beq pc 43 || Nat.beq pc 67 || Nat.beq pc 69 || Nat.beq pc 104 || Nat.beq pc 106
def D_Mo_remembers_15 (k : Nat → Int32 → zM → Option zM) (lv : zV) (st : List Value) (S : zM) : Option zM := match lv, st with
  | [some (.ref a0), some (.int a1)], [] => k a0 a1 S
  | _, _ => none
theorem d_Mo_remembers_15 {g : zV → Nat → List Value → zM → Prop} (Hw : zWk g) {k : Nat → Int32 → zM → Option zM} {res : zM} {lv : zV} {st : List Value} {S : zM} (h : D_Mo_remembers_15 k lv st S = some res) (hk : ∀ a0 a1 S, k a0 a1 S = some res → g [some (.ref a0), some (.int a1)] 15 [] S) : g lv 15 st S := by
  unfold D_Mo_remembers_15 at h
  split at h
  · exact Hw _ _ _ _ _ (by simp [zle]) (hk _ _ _  h)
  · cases h
def D_Mo_remembers_41 (k : Nat → zM → Option zM) (lv : zV) (st : List Value) (S : zM) : Option zM := match lv, st with
  | [some (.ref a0), _], [] => k a0 S
  | _, _ => none
theorem d_Mo_remembers_41 {g : zV → Nat → List Value → zM → Prop} (Hw : zWk g) {k : Nat → zM → Option zM} {res : zM} {lv : zV} {st : List Value} {S : zM} (h : D_Mo_remembers_41 k lv st S = some res) (hk : ∀ a0 S, k a0 S = some res → g [some (.ref a0), none] 41 [] S) : g lv 41 st S := by
  unfold D_Mo_remembers_41 at h
  split at h
  · exact Hw _ _ _ _ _ (by simp [zle]) (hk _ _  h)
  · cases h
def D_Mo_remembers_43 (k : Nat → Int32 → zM → Option zM) (lv : zV) (st : List Value) (S : zM) : Option zM := match lv, st with
  | [some (.ref a0), some (.int a1)], [] => k a0 a1 S
  | _, _ => none
theorem d_Mo_remembers_43 {g : zV → Nat → List Value → zM → Prop} (Hw : zWk g) {k : Nat → Int32 → zM → Option zM} {res : zM} {lv : zV} {st : List Value} {S : zM} (h : D_Mo_remembers_43 k lv st S = some res) (hk : ∀ a0 a1 S, k a0 a1 S = some res → g [some (.ref a0), some (.int a1)] 43 [] S) : g lv 43 st S := by
  unfold D_Mo_remembers_43 at h
  split at h
  · exact Hw _ _ _ _ _ (by simp [zle]) (hk _ _ _  h)
  · cases h
def D_Mo_remembers_67 (k : Nat → zM → Option zM) (lv : zV) (st : List Value) (S : zM) : Option zM := match lv, st with
  | [some (.ref a0), _], [] => k a0 S
  | _, _ => none
theorem d_Mo_remembers_67 {g : zV → Nat → List Value → zM → Prop} (Hw : zWk g) {k : Nat → zM → Option zM} {res : zM} {lv : zV} {st : List Value} {S : zM} (h : D_Mo_remembers_67 k lv st S = some res) (hk : ∀ a0 S, k a0 S = some res → g [some (.ref a0), none] 67 [] S) : g lv 67 st S := by
  unfold D_Mo_remembers_67 at h
  split at h
  · exact Hw _ _ _ _ _ (by simp [zle]) (hk _ _  h)
  · cases h
def D_Mo_remembers_69 (k : Nat → Int32 → zM → Option zM) (lv : zV) (st : List Value) (S : zM) : Option zM := match lv, st with
  | [some (.ref a0), some (.int a1)], [] => k a0 a1 S
  | _, _ => none
theorem d_Mo_remembers_69 {g : zV → Nat → List Value → zM → Prop} (Hw : zWk g) {k : Nat → Int32 → zM → Option zM} {res : zM} {lv : zV} {st : List Value} {S : zM} (h : D_Mo_remembers_69 k lv st S = some res) (hk : ∀ a0 a1 S, k a0 a1 S = some res → g [some (.ref a0), some (.int a1)] 69 [] S) : g lv 69 st S := by
  unfold D_Mo_remembers_69 at h
  split at h
  · exact Hw _ _ _ _ _ (by simp [zle]) (hk _ _ _  h)
  · cases h
def D_Mo_remembers_104 (k : Nat → zM → Option zM) (lv : zV) (st : List Value) (S : zM) : Option zM := match lv, st with
  | [some (.ref a0), _], [] => k a0 S
  | _, _ => none
theorem d_Mo_remembers_104 {g : zV → Nat → List Value → zM → Prop} (Hw : zWk g) {k : Nat → zM → Option zM} {res : zM} {lv : zV} {st : List Value} {S : zM} (h : D_Mo_remembers_104 k lv st S = some res) (hk : ∀ a0 S, k a0 S = some res → g [some (.ref a0), none] 104 [] S) : g lv 104 st S := by
  unfold D_Mo_remembers_104 at h
  split at h
  · exact Hw _ _ _ _ _ (by simp [zle]) (hk _ _  h)
  · cases h
def D_Mo_remembers_106 (k : Nat → Int32 → zM → Option zM) (lv : zV) (st : List Value) (S : zM) : Option zM := match lv, st with
  | [some (.ref a0), some (.int a1)], [] => k a0 a1 S
  | _, _ => none
theorem d_Mo_remembers_106 {g : zV → Nat → List Value → zM → Prop} (Hw : zWk g) {k : Nat → Int32 → zM → Option zM} {res : zM} {lv : zV} {st : List Value} {S : zM} (h : D_Mo_remembers_106 k lv st S = some res) (hk : ∀ a0 a1 S, k a0 a1 S = some res → g [some (.ref a0), some (.int a1)] 106 [] S) : g lv 106 st S := by
  unfold D_Mo_remembers_106 at h
  split at h
  · exact Hw _ _ _ _ _ (by simp [zle]) (hk _ _ _  h)
  · cases h
set_option maxRecDepth 100000 in
theorem r_Mo_remembers_106 (n : Nat) (a0 : Nat) (a1 : Int32) (S : zM) : L_Mo_remembers_106 (n + 1) a0 a1 S = zrt false zP_Mo_remembers (zE_Mo_remembers zM) zc_Mo_remembers zkV (fun pc lv st S => bif Nat.beq pc 106 then D_Mo_remembers_106 (L_Mo_remembers_106 n) lv st S else none) 1000 106 [some (.ref a0), some (.int a1)] [] S := rfl
theorem g_Mo_remembers_106 {g : zV → Nat → List Value → zM → Prop} {res : zM} (H : zCl false zP_Mo_remembers (zE_Mo_remembers zM) zkV res g) (Hw : zWk g) (n : Nat) : ∀ (a0 : Nat) (a1 : Int32) (S : zM), L_Mo_remembers_106 n a0 a1 S = some res → g [some (.ref a0), some (.int a1)] 106 [] S := by
  induction n with
  | zero => intro a0 a1 S h; cases h
  | succ n ih =>
    intro a0 a1 S h
    refine H zc_Mo_remembers _ 1000 _ _ _ _ ((r_Mo_remembers_106 n a0 a1 S).symm.trans h) (fun pc lv st S hK => ?_)
    rcases zdis hK with ⟨rfl, hK⟩ | hK
    · exact d_Mo_remembers_106 Hw hK ih
    cases hK
set_option maxRecDepth 100000 in
theorem r_Mo_remembers_104 (k106 : Nat → Int32 → zM → Option zM) (a0 : Nat) (S : zM) : F_Mo_remembers_104 k106 a0 S = zrt false zP_Mo_remembers (zE_Mo_remembers zM) zc_Mo_remembers zkV (fun pc lv st S => bif Nat.beq pc 106 then D_Mo_remembers_106 k106 lv st S else none) 1000 104 [some (.ref a0), none] [] S := rfl
theorem g_Mo_remembers_104 {g : zV → Nat → List Value → zM → Prop} {res : zM} (H : zCl false zP_Mo_remembers (zE_Mo_remembers zM) zkV res g) (Hw : zWk g) {k106 : Nat → Int32 → zM → Option zM} (hk106 : ∀ a0 a1 S, k106 a0 a1 S = some res → g [some (.ref a0), some (.int a1)] 106 [] S) (a0 : Nat) (S : zM) (h : F_Mo_remembers_104 k106 a0 S = some res) : g [some (.ref a0), none] 104 [] S := by
  refine H zc_Mo_remembers _ 1000 _ _ _ _ ((r_Mo_remembers_104 k106 a0 S).symm.trans h) (fun pc lv st S hK => ?_)
  rcases zdis hK with ⟨rfl, hK⟩ | hK
  · exact d_Mo_remembers_106 Hw hK hk106
  cases hK
set_option maxRecDepth 100000 in
theorem r_Mo_remembers_69 (k104 : Nat → zM → Option zM) (n : Nat) (a0 : Nat) (a1 : Int32) (S : zM) : L_Mo_remembers_69 k104 (n + 1) a0 a1 S = zrt false zP_Mo_remembers (zE_Mo_remembers zM) zc_Mo_remembers zkV (fun pc lv st S => bif Nat.beq pc 69 then D_Mo_remembers_69 (L_Mo_remembers_69 k104 n) lv st S else bif Nat.beq pc 104 then D_Mo_remembers_104 k104 lv st S else none) 1000 69 [some (.ref a0), some (.int a1)] [] S := rfl
theorem g_Mo_remembers_69 {g : zV → Nat → List Value → zM → Prop} {res : zM} (H : zCl false zP_Mo_remembers (zE_Mo_remembers zM) zkV res g) (Hw : zWk g) {k104 : Nat → zM → Option zM} (hk104 : ∀ a0 S, k104 a0 S = some res → g [some (.ref a0), none] 104 [] S) (n : Nat) : ∀ (a0 : Nat) (a1 : Int32) (S : zM), L_Mo_remembers_69 k104 n a0 a1 S = some res → g [some (.ref a0), some (.int a1)] 69 [] S := by
  induction n with
  | zero => intro a0 a1 S h; cases h
  | succ n ih =>
    intro a0 a1 S h
    refine H zc_Mo_remembers _ 1000 _ _ _ _ ((r_Mo_remembers_69 k104 n a0 a1 S).symm.trans h) (fun pc lv st S hK => ?_)
    rcases zdis hK with ⟨rfl, hK⟩ | hK
    · exact d_Mo_remembers_69 Hw hK ih
    rcases zdis hK with ⟨rfl, hK⟩ | hK
    · exact d_Mo_remembers_104 Hw hK hk104
    cases hK
set_option maxRecDepth 100000 in
theorem r_Mo_remembers_67 (k69 : Nat → Int32 → zM → Option zM) (a0 : Nat) (S : zM) : F_Mo_remembers_67 k69 a0 S = zrt false zP_Mo_remembers (zE_Mo_remembers zM) zc_Mo_remembers zkV (fun pc lv st S => bif Nat.beq pc 69 then D_Mo_remembers_69 k69 lv st S else none) 1000 67 [some (.ref a0), none] [] S := rfl
theorem g_Mo_remembers_67 {g : zV → Nat → List Value → zM → Prop} {res : zM} (H : zCl false zP_Mo_remembers (zE_Mo_remembers zM) zkV res g) (Hw : zWk g) {k69 : Nat → Int32 → zM → Option zM} (hk69 : ∀ a0 a1 S, k69 a0 a1 S = some res → g [some (.ref a0), some (.int a1)] 69 [] S) (a0 : Nat) (S : zM) (h : F_Mo_remembers_67 k69 a0 S = some res) : g [some (.ref a0), none] 67 [] S := by
  refine H zc_Mo_remembers _ 1000 _ _ _ _ ((r_Mo_remembers_67 k69 a0 S).symm.trans h) (fun pc lv st S hK => ?_)
  rcases zdis hK with ⟨rfl, hK⟩ | hK
  · exact d_Mo_remembers_69 Hw hK hk69
  cases hK
set_option maxRecDepth 100000 in
theorem r_Mo_remembers_43 (k67 : Nat → zM → Option zM) (n : Nat) (a0 : Nat) (a1 : Int32) (S : zM) : L_Mo_remembers_43 k67 (n + 1) a0 a1 S = zrt false zP_Mo_remembers (zE_Mo_remembers zM) zc_Mo_remembers zkV (fun pc lv st S => bif Nat.beq pc 43 then D_Mo_remembers_43 (L_Mo_remembers_43 k67 n) lv st S else bif Nat.beq pc 67 then D_Mo_remembers_67 k67 lv st S else none) 1000 43 [some (.ref a0), some (.int a1)] [] S := rfl
theorem g_Mo_remembers_43 {g : zV → Nat → List Value → zM → Prop} {res : zM} (H : zCl false zP_Mo_remembers (zE_Mo_remembers zM) zkV res g) (Hw : zWk g) {k67 : Nat → zM → Option zM} (hk67 : ∀ a0 S, k67 a0 S = some res → g [some (.ref a0), none] 67 [] S) (n : Nat) : ∀ (a0 : Nat) (a1 : Int32) (S : zM), L_Mo_remembers_43 k67 n a0 a1 S = some res → g [some (.ref a0), some (.int a1)] 43 [] S := by
  induction n with
  | zero => intro a0 a1 S h; cases h
  | succ n ih =>
    intro a0 a1 S h
    refine H zc_Mo_remembers _ 1000 _ _ _ _ ((r_Mo_remembers_43 k67 n a0 a1 S).symm.trans h) (fun pc lv st S hK => ?_)
    rcases zdis hK with ⟨rfl, hK⟩ | hK
    · exact d_Mo_remembers_43 Hw hK ih
    rcases zdis hK with ⟨rfl, hK⟩ | hK
    · exact d_Mo_remembers_67 Hw hK hk67
    cases hK
set_option maxRecDepth 100000 in
theorem r_Mo_remembers_41 (k43 : Nat → Int32 → zM → Option zM) (a0 : Nat) (S : zM) : F_Mo_remembers_41 k43 a0 S = zrt false zP_Mo_remembers (zE_Mo_remembers zM) zc_Mo_remembers zkV (fun pc lv st S => bif Nat.beq pc 43 then D_Mo_remembers_43 k43 lv st S else none) 1000 41 [some (.ref a0), none] [] S := rfl
theorem g_Mo_remembers_41 {g : zV → Nat → List Value → zM → Prop} {res : zM} (H : zCl false zP_Mo_remembers (zE_Mo_remembers zM) zkV res g) (Hw : zWk g) {k43 : Nat → Int32 → zM → Option zM} (hk43 : ∀ a0 a1 S, k43 a0 a1 S = some res → g [some (.ref a0), some (.int a1)] 43 [] S) (a0 : Nat) (S : zM) (h : F_Mo_remembers_41 k43 a0 S = some res) : g [some (.ref a0), none] 41 [] S := by
  refine H zc_Mo_remembers _ 1000 _ _ _ _ ((r_Mo_remembers_41 k43 a0 S).symm.trans h) (fun pc lv st S hK => ?_)
  rcases zdis hK with ⟨rfl, hK⟩ | hK
  · exact d_Mo_remembers_43 Hw hK hk43
  cases hK
set_option maxRecDepth 100000 in
theorem r_Mo_remembers_15 (k41 : Nat → zM → Option zM) (n : Nat) (a0 : Nat) (a1 : Int32) (S : zM) : L_Mo_remembers_15 k41 (n + 1) a0 a1 S = zrt false zP_Mo_remembers (zE_Mo_remembers zM) zc_Mo_remembers zkV (fun pc lv st S => bif Nat.beq pc 15 then D_Mo_remembers_15 (L_Mo_remembers_15 k41 n) lv st S else bif Nat.beq pc 41 then D_Mo_remembers_41 k41 lv st S else none) 1000 15 [some (.ref a0), some (.int a1)] [] S := rfl
theorem g_Mo_remembers_15 {g : zV → Nat → List Value → zM → Prop} {res : zM} (H : zCl false zP_Mo_remembers (zE_Mo_remembers zM) zkV res g) (Hw : zWk g) {k41 : Nat → zM → Option zM} (hk41 : ∀ a0 S, k41 a0 S = some res → g [some (.ref a0), none] 41 [] S) (n : Nat) : ∀ (a0 : Nat) (a1 : Int32) (S : zM), L_Mo_remembers_15 k41 n a0 a1 S = some res → g [some (.ref a0), some (.int a1)] 15 [] S := by
  induction n with
  | zero => intro a0 a1 S h; cases h
  | succ n ih =>
    intro a0 a1 S h
    refine H zc_Mo_remembers _ 1000 _ _ _ _ ((r_Mo_remembers_15 k41 n a0 a1 S).symm.trans h) (fun pc lv st S hK => ?_)
    rcases zdis hK with ⟨rfl, hK⟩ | hK
    · exact d_Mo_remembers_15 Hw hK ih
    rcases zdis hK with ⟨rfl, hK⟩ | hK
    · exact d_Mo_remembers_41 Hw hK hk41
    cases hK
set_option maxRecDepth 100000 in
theorem r_Mo_remembers (a0 : Nat) (S : zM) : f_Mo_remembers a0 S = zrt false zP_Mo_remembers (zE_Mo_remembers zM) zc_Mo_remembers zkV (fun pc lv st S => bif Nat.beq pc 15 then D_Mo_remembers_15 (L_Mo_remembers_15 (F_Mo_remembers_41 (L_Mo_remembers_43 (F_Mo_remembers_67 (L_Mo_remembers_69 (F_Mo_remembers_104 (L_Mo_remembers_106 zF)) zF)) zF)) zF) lv st S else none) 1000 0 [some (.ref a0), none] [] S := rfl
theorem G_Mo_remembers {g : zV → Nat → List Value → zM → Prop} {res : zM} (H : zCl false zP_Mo_remembers (zE_Mo_remembers zM) zkV res g) (Hw : zWk g) (a0 : Nat) (S : zM) (h : f_Mo_remembers a0 S = some res) : g [some (.ref a0), none] 0 [] S := by
  refine H zc_Mo_remembers _ 1000 _ _ _ _ ((r_Mo_remembers a0 S).symm.trans h) (fun pc lv st S hK => ?_)
  rcases zdis hK with ⟨rfl, hK⟩ | hK
  · exact d_Mo_remembers_15 Hw hK (g_Mo_remembers_15 H Hw (g_Mo_remembers_41 H Hw (g_Mo_remembers_43 H Hw (g_Mo_remembers_67 H Hw (g_Mo_remembers_69 H Hw (g_Mo_remembers_104 H Hw (g_Mo_remembers_106 H Hw  zF)) zF)) zF)) zF)
  cases hK
set_option maxRecDepth 100000 in
theorem ok_Mo_remembers : zokT 12 [] false 0 0 2 false none cX12_remembers zP_Mo_remembers = true := by decide +kernel
set_option maxRecDepth 100000 in
theorem s_Mo_remembers {l : Launch} {HB : Heap} {b L : Nat} {xs : Nat → Int32} {aK aV : Nat → Nat} {G : va_G} {tc : Nat → ClassId} : zSnd l HB b L xs aK aV G tc (zMT.getD 185 zyD) (fun α => zA_vR_V 12 f_Mo_remembers) := by
  rw [show zMT.getD 185 zyD = (yX12_remembers, cX12_remembers, 2, none, 0, 1, 0, 0) from rfl]
  intro α as S k res h
  unfold zA_vR_V at h
  dsimp only at h
  split at h
  · rename_i a0
    obtain ⟨p, hp, h⟩ := zbind h
    unfold zcl at hp
    split at hp
    · rename_i hkd
      have hm := zmeth (l := l) (HB := HB) (b := b) (L := L) (xs := xs) (aK := aK) (aV := aV) (G := G) (tc := tc) (q := (yX12_remembers, cX12_remembers, 2, none, 0, 1, 0, 0)) (o := 12) (cs := []) (rz := false) (T := zP_Mo_remembers) (E := zE_Mo_remembers zM) (kr := zkV) (res := p) (v0 := none) (S0 := p) (as := [.ref a0]) (S := S) zMT_fine (by decide +kernel) (fun i as S k' h => by
        unfold zE_Mo_remembers at h
        cases h) ok_Mo_remembers rfl (fun v S' h => zkV_inv h) (Nat.le_of_ble_eq_true rfl) (fun g H Hw => Hw _ [some (.ref a0), none] _ _ _ ⟨rfl, trivial⟩ (G_Mo_remembers H Hw a0 S hp))
      exact ⟨_, _, h, hm.1, rfl, fun _ => ⟨_, _, rfl⟩, (fun _ U H hK hH a r e => by cases e; exact zrecv (ci := 12) (by omega) hkd rfl U H hK hH), hm.2⟩
    · cases hp
  · cases h
def zP_Mo_carry : List (List (Nat × zE)) := [[(0, e1 (.aload_n 0) 1 0), (1, e3 (.invokevirtual 272) 4 0 1 0), (4, e1 (.aload_n 0) 5 0), (5, ei (.iconst 0) 6 0 (0)), (6, e3 (.putfield 297) 9 12 48 1), (9, e1 (.aload_n 0) 10 0), (10, e3 (.getfield 293) 13 12 9 1), (13, e1 (.ifCond .ne 9) 16 22)],
  [(16, e1 (.aload_n 0) 17 0), (17, ei (.iconst 1) 18 0 (1)), (18, e3 (.invokevirtual 275) 21 1 2 0), (21, e0 (.ireturn) 22), (22, e1 (.aload_n 0) 23 0), (23, e1 (.lload_n 1) 24 1), (24, e3 (.invokevirtual 364) 27 2 2 0), (27, e1 (.ifCond .ne 9) 30 36), (30, e1 (.aload_n 0) 31 0), (31, ei (.iconst 2) 32 0 (2))],
  [(32, e3 (.invokevirtual 275) 35 1 2 0), (35, e0 (.ireturn) 36), (36, e1 (.aload_n 0) 37 0), (37, ei (.iconst 0) 38 0 (0)), (38, e3 (.invokevirtual 406) 41 3 2 0), (41, e1 (.istore_n 3) 42 3), (42, e1 (.iload_n 3) 43 3), (43, e1 (.ifCond .eq 9) 46 52), (46, e1 (.aload_n 0) 47 0), (47, e1 (.iload_n 3) 48 3)],
  [(48, e3 (.invokevirtual 275) 51 1 2 0), (51, e0 (.ireturn) 52), (52, e1 (.aload_n 0) 53 0), (53, e3 (.invokevirtual 410) 56 4 1 0), (56, e1 (.aload_n 0) 57 0), (57, e3 (.getfield 403) 60 12 49 0), (60, e0 (.ireturn) 61)]]
noncomputable def zE_Mo_carry (α : Type) : Nat → zX α := fun i => bif Nat.beq i 0 then zA_vR_V 12 f_Mo_fresh else bif Nat.beq i 1 then zA_vRI_I 12 f_Mo_no else bif Nat.beq i 2 then zA_vRJ_I 12 f_Mo_laysLetters else bif Nat.beq i 3 then zA_vRI_I 12 f_Mo_goesAll else bif Nat.beq i 4 then zA_vR_V 12 f_Mo_remembers else fun _ _ _ => none
def zc_Mo_carry : Nat → Bool := fun pc => false
set_option maxRecDepth 100000 in
theorem r_Mo_carry (a0 : Nat) (a1 : Int64) (S : zM) : f_Mo_carry a0 a1 S = zrt false zP_Mo_carry (zE_Mo_carry (Int32 × zM)) zc_Mo_carry zkI (fun pc lv st S => none) 1000 0 [some (.ref a0), some (.long a1), none, none] [] S := rfl
theorem G_Mo_carry {g : zV → Nat → List Value → zM → Prop} {res : (Int32 × zM)} (H : zCl false zP_Mo_carry (zE_Mo_carry (Int32 × zM)) zkI res g) (Hw : zWk g) (a0 : Nat) (a1 : Int64) (S : zM) (h : f_Mo_carry a0 a1 S = some res) : g [some (.ref a0), some (.long a1), none, none] 0 [] S := by
  refine H zc_Mo_carry _ 1000 _ _ _ _ ((r_Mo_carry a0 a1 S).symm.trans h) (fun pc lv st S hK => ?_)
  cases hK
set_option maxRecDepth 100000 in
theorem ok_Mo_carry : zokT 12 [61, 63, 154, 184, 185] false 7 173 4 false (some .int) cX12_carry zP_Mo_carry = true := by decide +kernel
set_option maxRecDepth 100000 in
theorem s_Mo_carry {l : Launch} {HB : Heap} {b L : Nat} {xs : Nat → Int32} {aK aV : Nat → Nat} {G : va_G} {tc : Nat → ClassId} (h0 : zSnd l HB b L xs aK aV G tc (zMT.getD 61 zyD) (fun α => zA_vR_V 12 f_Mo_fresh)) (h1 : zSnd l HB b L xs aK aV G tc (zMT.getD 63 zyD) (fun α => zA_vRI_I 12 f_Mo_no)) (h2 : zSnd l HB b L xs aK aV G tc (zMT.getD 154 zyD) (fun α => zA_vRJ_I 12 f_Mo_laysLetters)) (h3 : zSnd l HB b L xs aK aV G tc (zMT.getD 184 zyD) (fun α => zA_vRI_I 12 f_Mo_goesAll)) (h4 : zSnd l HB b L xs aK aV G tc (zMT.getD 185 zyD) (fun α => zA_vR_V 12 f_Mo_remembers)) : zSnd l HB b L xs aK aV G tc (zMT.getD 186 zyD) (fun α => zA_vRJ_I 12 f_Mo_carry) := by
  rw [show zMT.getD 186 zyD = (yX12_carry, cX12_carry, 4, (some .int), 0, 2, 7, 173) from rfl]
  intro α as S k res h
  unfold zA_vRJ_I at h
  dsimp only at h
  split at h
  · rename_i a0 a1
    obtain ⟨p, hp, h⟩ := zbind h
    unfold zcl at hp
    split at hp
    · rename_i hkd
      have hm := zmeth (l := l) (HB := HB) (b := b) (L := L) (xs := xs) (aK := aK) (aV := aV) (G := G) (tc := tc) (q := (yX12_carry, cX12_carry, 4, (some .int), 0, 2, 7, 173)) (o := 12) (cs := [61, 63, 154, 184, 185]) (rz := false) (T := zP_Mo_carry) (E := zE_Mo_carry (Int32 × zM)) (kr := zkI) (res := p) (v0 := some (.int p.1)) (S0 := p.2) (as := [.ref a0, .long a1]) (S := S) zMT_fine (by decide +kernel) (fun i as S k' h => by
        unfold zE_Mo_carry at h
        rcases zdisf h with ⟨rfl, h⟩ | h
        · exact h0 _ _ _ _ _ h
        rcases zdisf h with ⟨rfl, h⟩ | h
        · exact h1 _ _ _ _ _ h
        rcases zdisf h with ⟨rfl, h⟩ | h
        · exact h2 _ _ _ _ _ h
        rcases zdisf h with ⟨rfl, h⟩ | h
        · exact h3 _ _ _ _ _ h
        rcases zdisf h with ⟨rfl, h⟩ | h
        · exact h4 _ _ _ _ _ h
        cases h) ok_Mo_carry rfl (fun v S' h => zkI_inv h) (Nat.le_of_ble_eq_true rfl) (fun g H Hw => Hw _ [some (.ref a0), some (.long a1), none, none] _ _ _ ⟨rfl, rfl, trivial⟩ (G_Mo_carry H Hw a0 a1 S hp))
      exact ⟨_, _, h, hm.1, rfl, fun _ => ⟨_, _, rfl⟩, (fun _ U H hK hH a r e => by cases e; exact zrecv (ci := 12) (by omega) hkd rfl U H hK hH), hm.2⟩
    · cases hp
  · cases h
def zP_Cl_out : List (List (Nat × zE)) := [[(0, e1 (.aload_n 0) 1 0), (1, e3 (.getfield 96) 4 11 17 1), (4, e1 (.ifCond .eq 18) 7 22), (7, e1 (.aload_n 0) 8 0), (8, e1 (.aload_n 0) 9 0), (9, e3 (.getfield 23) 12 11 2 2), (12, e3 (.getfield 230) 15 1 3 2), (15, e1 (.iload_n 1) 16 1)],
  [(16, e3 (.invokevirtual 177) 19 0 3 0), (19, e1 (.goto 8) 22 27), (22, e1 (.aload_n 0) 23 0), (23, ei (.iconst 1) 24 0 (1)), (24, e3 (.invokevirtual 79) 27 1 2 0), (27, e0 (.ireturn) 28)]]
noncomputable def zE_Cl_out (α : Type) : Nat → zX α := fun i => bif Nat.beq i 0 then zA_vRRI_I 11 f_Cl_answerLetter else bif Nat.beq i 1 then zA_vRI_I 11 f_Cl_refuse else fun _ _ _ => none
def zc_Cl_out : Nat → Bool := fun pc => false
set_option maxRecDepth 100000 in
theorem r_Cl_out (a0 : Nat) (a1 : Int32) (S : zM) : f_Cl_out a0 a1 S = zrt false zP_Cl_out (zE_Cl_out (Int32 × zM)) zc_Cl_out zkI (fun pc lv st S => none) 1000 0 [some (.ref a0), some (.int a1)] [] S := rfl
theorem G_Cl_out {g : zV → Nat → List Value → zM → Prop} {res : (Int32 × zM)} (H : zCl false zP_Cl_out (zE_Cl_out (Int32 × zM)) zkI res g) (Hw : zWk g) (a0 : Nat) (a1 : Int32) (S : zM) (h : f_Cl_out a0 a1 S = some res) : g [some (.ref a0), some (.int a1)] 0 [] S := by
  refine H zc_Cl_out _ 1000 _ _ _ _ ((r_Cl_out a0 a1 S).symm.trans h) (fun pc lv st S hK => ?_)
  cases hK
set_option maxRecDepth 100000 in
theorem ok_Cl_out : zokT 11 [108, 16] false 2 44 2 false (some .int) cX11_out zP_Cl_out = true := by decide +kernel
set_option maxRecDepth 100000 in
theorem s_Cl_out {l : Launch} {HB : Heap} {b L : Nat} {xs : Nat → Int32} {aK aV : Nat → Nat} {G : va_G} {tc : Nat → ClassId} (h0 : zSnd l HB b L xs aK aV G tc (zMT.getD 108 zyD) (fun α => zA_vRRI_I 11 f_Cl_answerLetter)) (h1 : zSnd l HB b L xs aK aV G tc (zMT.getD 16 zyD) (fun α => zA_vRI_I 11 f_Cl_refuse)) : zSnd l HB b L xs aK aV G tc (zMT.getD 187 zyD) (fun α => zA_vRI_I 11 f_Cl_out) := by
  rw [show zMT.getD 187 zyD = (yX11_out, cX11_out, 2, (some .int), 0, 2, 2, 44) from rfl]
  intro α as S k res h
  unfold zA_vRI_I at h
  dsimp only at h
  split at h
  · rename_i a0 a1
    obtain ⟨p, hp, h⟩ := zbind h
    unfold zcl at hp
    split at hp
    · rename_i hkd
      have hm := zmeth (l := l) (HB := HB) (b := b) (L := L) (xs := xs) (aK := aK) (aV := aV) (G := G) (tc := tc) (q := (yX11_out, cX11_out, 2, (some .int), 0, 2, 2, 44)) (o := 11) (cs := [108, 16]) (rz := false) (T := zP_Cl_out) (E := zE_Cl_out (Int32 × zM)) (kr := zkI) (res := p) (v0 := some (.int p.1)) (S0 := p.2) (as := [.ref a0, .int a1]) (S := S) zMT_fine (by decide +kernel) (fun i as S k' h => by
        unfold zE_Cl_out at h
        rcases zdisf h with ⟨rfl, h⟩ | h
        · exact h0 _ _ _ _ _ h
        rcases zdisf h with ⟨rfl, h⟩ | h
        · exact h1 _ _ _ _ _ h
        cases h) ok_Cl_out rfl (fun v S' h => zkI_inv h) (Nat.le_of_ble_eq_true rfl) (fun g H Hw => Hw _ [some (.ref a0), some (.int a1)] _ _ _ ⟨rfl, rfl, trivial⟩ (G_Cl_out H Hw a0 a1 S hp))
      exact ⟨_, _, h, hm.1, rfl, fun _ => ⟨_, _, rfl⟩, (fun _ U H hK hH a r e => by cases e; exact zrecv (ci := 11) (by omega) hkd rfl U H hK hH), hm.2⟩
    · cases hp
  · cases h
def zP_Mo_out : List (List (Nat × zE)) := [[(0, e1 (.aload_n 0) 1 0), (1, e3 (.invokevirtual 272) 4 0 1 0), (4, e1 (.aload_n 0) 5 0), (5, e3 (.getfield 297) 8 12 48 1), (8, e1 (.ifCond .eq 26) 11 34), (11, e1 (.iload_n 1) 12 1), (12, ei (.iconst 0) 13 0 (0)), (13, e1 (.aload_n 0) 14 0), (14, e3 (.getfield 403) 17 12 49 0)],
  [(17, ei (.iconst 1) 18 0 (1)), (18, e0 (.isub) 19), (19, e3 (.invokestatic 156) 22 1 3 0), (22, e1 (.ifCond .eq 12) 25 34), (25, e1 (.aload_n 0) 26 0), (26, e3 (.getfield 88) 29 12 50 2), (29, e1 (.iload_n 1) 30 1), (30, e0 (.iaload) 31), (31, e1 (.goto 8) 34 39)],
  [(34, e1 (.aload_n 0) 35 0), (35, ei (.iconst 1) 36 0 (1)), (36, e3 (.invokevirtual 275) 39 2 2 0), (39, e0 (.ireturn) 40)]]
noncomputable def zE_Mo_out (α : Type) : Nat → zX α := fun i => bif Nat.beq i 0 then zA_vR_V 12 f_Mo_fresh else bif Nat.beq i 1 then zA_III_I f_Mo_in else bif Nat.beq i 2 then zA_vRI_I 12 f_Mo_no else fun _ _ _ => none
def zc_Mo_out : Nat → Bool := fun pc => false
set_option maxRecDepth 100000 in
theorem r_Mo_out (a0 : Nat) (a1 : Int32) (S : zM) : f_Mo_out a0 a1 S = zrt false zP_Mo_out (zE_Mo_out (Int32 × zM)) zc_Mo_out zkI (fun pc lv st S => none) 1000 0 [some (.ref a0), some (.int a1)] [] S := rfl
theorem G_Mo_out {g : zV → Nat → List Value → zM → Prop} {res : (Int32 × zM)} (H : zCl false zP_Mo_out (zE_Mo_out (Int32 × zM)) zkI res g) (Hw : zWk g) (a0 : Nat) (a1 : Int32) (S : zM) (h : f_Mo_out a0 a1 S = some res) : g [some (.ref a0), some (.int a1)] 0 [] S := by
  refine H zc_Mo_out _ 1000 _ _ _ _ ((r_Mo_out a0 a1 S).symm.trans h) (fun pc lv st S hK => ?_)
  cases hK
set_option maxRecDepth 100000 in
theorem ok_Mo_out : zokT 12 [61, 62, 63] false 1 22 2 false (some .int) cX12_out zP_Mo_out = true := by decide +kernel
set_option maxRecDepth 100000 in
theorem s_Mo_out {l : Launch} {HB : Heap} {b L : Nat} {xs : Nat → Int32} {aK aV : Nat → Nat} {G : va_G} {tc : Nat → ClassId} (h0 : zSnd l HB b L xs aK aV G tc (zMT.getD 61 zyD) (fun α => zA_vR_V 12 f_Mo_fresh)) (h1 : zSnd l HB b L xs aK aV G tc (zMT.getD 62 zyD) (fun α => zA_III_I f_Mo_in)) (h2 : zSnd l HB b L xs aK aV G tc (zMT.getD 63 zyD) (fun α => zA_vRI_I 12 f_Mo_no)) : zSnd l HB b L xs aK aV G tc (zMT.getD 188 zyD) (fun α => zA_vRI_I 12 f_Mo_out) := by
  rw [show zMT.getD 188 zyD = (yX12_out, cX12_out, 2, (some .int), 0, 2, 1, 22) from rfl]
  intro α as S k res h
  unfold zA_vRI_I at h
  dsimp only at h
  split at h
  · rename_i a0 a1
    obtain ⟨p, hp, h⟩ := zbind h
    unfold zcl at hp
    split at hp
    · rename_i hkd
      have hm := zmeth (l := l) (HB := HB) (b := b) (L := L) (xs := xs) (aK := aK) (aV := aV) (G := G) (tc := tc) (q := (yX12_out, cX12_out, 2, (some .int), 0, 2, 1, 22)) (o := 12) (cs := [61, 62, 63]) (rz := false) (T := zP_Mo_out) (E := zE_Mo_out (Int32 × zM)) (kr := zkI) (res := p) (v0 := some (.int p.1)) (S0 := p.2) (as := [.ref a0, .int a1]) (S := S) zMT_fine (by decide +kernel) (fun i as S k' h => by
        unfold zE_Mo_out at h
        rcases zdisf h with ⟨rfl, h⟩ | h
        · exact h0 _ _ _ _ _ h
        rcases zdisf h with ⟨rfl, h⟩ | h
        · exact h1 _ _ _ _ _ h
        rcases zdisf h with ⟨rfl, h⟩ | h
        · exact h2 _ _ _ _ _ h
        cases h) ok_Mo_out rfl (fun v S' h => zkI_inv h) (Nat.le_of_ble_eq_true rfl) (fun g H Hw => Hw _ [some (.ref a0), some (.int a1)] _ _ _ ⟨rfl, rfl, trivial⟩ (G_Mo_out H Hw a0 a1 S hp))
      exact ⟨_, _, h, hm.1, rfl, fun _ => ⟨_, _, rfl⟩, (fun _ U H hK hH a r e => by cases e; exact zrecv (ci := 12) (by omega) hkd rfl U H hK hH), hm.2⟩
    · cases hp
  · cases h
def zP_Cl_carriedBehind : List (List (Nat × zE)) := [[(0, e1 (.aload_n 0) 1 0), (1, e3 (.getfield 96) 4 11 17 1), (4, e1 (.ifCond .eq 25) 7 29), (7, e1 (.aload_n 0) 8 0), (8, e3 (.getfield 65) 11 11 10 2), (11, e1 (.iload_n 1) 12 1), (12, e3 (.invokevirtual 132) 15 0 2 0), (15, e1 (.ifnull 14) 18 29)],
  [(18, e1 (.aload_n 0) 19 0), (19, e3 (.getfield 23) 22 11 2 2), (22, e1 (.iload_n 1) 23 1), (23, e3 (.invokevirtual 243) 26 1 2 0), (26, e1 (.goto 4) 29 30), (29, e0 (.aconst_null) 30), (30, e0 (.areturn) 31)]]
noncomputable def zE_Cl_carriedBehind (α : Type) : Nat → zX α := fun i => bif Nat.beq i 0 then zA_vRI_N 10 f_Script_passAt else bif Nat.beq i 1 then zA_vRI_N 1 f_Carrier_behindPass else fun _ _ _ => none
def zc_Cl_carriedBehind : Nat → Bool := fun pc => false
set_option maxRecDepth 100000 in
theorem r_Cl_carriedBehind (a0 : Nat) (a1 : Int32) (S : zM) : f_Cl_carriedBehind a0 a1 S = zrt false zP_Cl_carriedBehind (zE_Cl_carriedBehind (Option Nat × zM)) zc_Cl_carriedBehind zkN (fun pc lv st S => none) 1000 0 [some (.ref a0), some (.int a1)] [] S := rfl
theorem G_Cl_carriedBehind {g : zV → Nat → List Value → zM → Prop} {res : (Option Nat × zM)} (H : zCl false zP_Cl_carriedBehind (zE_Cl_carriedBehind (Option Nat × zM)) zkN res g) (Hw : zWk g) (a0 : Nat) (a1 : Int32) (S : zM) (h : f_Cl_carriedBehind a0 a1 S = some res) : g [some (.ref a0), some (.int a1)] 0 [] S := by
  refine H zc_Cl_carriedBehind _ 1000 _ _ _ _ ((r_Cl_carriedBehind a0 a1 S).symm.trans h) (fun pc lv st S hK => ?_)
  cases hK
set_option maxRecDepth 100000 in
theorem ok_Cl_carriedBehind : zokT 11 [44, 167] false 1 21 2 false (some (.object "CarriedLetters$Row")) cX11_carriedBehind zP_Cl_carriedBehind = true := by decide +kernel
set_option maxRecDepth 100000 in
theorem s_Cl_carriedBehind {l : Launch} {HB : Heap} {b L : Nat} {xs : Nat → Int32} {aK aV : Nat → Nat} {G : va_G} {tc : Nat → ClassId} (h0 : zSnd l HB b L xs aK aV G tc (zMT.getD 44 zyD) (fun α => zA_vRI_N 10 f_Script_passAt)) (h1 : zSnd l HB b L xs aK aV G tc (zMT.getD 167 zyD) (fun α => zA_vRI_N 1 f_Carrier_behindPass)) : zSnd l HB b L xs aK aV G tc (zMT.getD 189 zyD) (fun α => zA_vRI_N 11 f_Cl_carriedBehind) := by
  rw [show zMT.getD 189 zyD = (yX11_carriedBehind, cX11_carriedBehind, 2, (some (.object "CarriedLetters$Row")), 0, 2, 1, 21) from rfl]
  intro α as S k res h
  unfold zA_vRI_N at h
  dsimp only at h
  split at h
  · rename_i a0 a1
    obtain ⟨p, hp, h⟩ := zbind h
    unfold zcl at hp
    split at hp
    · rename_i hkd
      have hm := zmeth (l := l) (HB := HB) (b := b) (L := L) (xs := xs) (aK := aK) (aV := aV) (G := G) (tc := tc) (q := (yX11_carriedBehind, cX11_carriedBehind, 2, (some (.object "CarriedLetters$Row")), 0, 2, 1, 21)) (o := 11) (cs := [44, 167]) (rz := false) (T := zP_Cl_carriedBehind) (E := zE_Cl_carriedBehind (Option Nat × zM)) (kr := zkN) (res := p) (v0 := some (match p.1 with | some a => .ref a | none => .null)) (S0 := p.2) (as := [.ref a0, .int a1]) (S := S) zMT_fine (by decide +kernel) (fun i as S k' h => by
        unfold zE_Cl_carriedBehind at h
        rcases zdisf h with ⟨rfl, h⟩ | h
        · exact h0 _ _ _ _ _ h
        rcases zdisf h with ⟨rfl, h⟩ | h
        · exact h1 _ _ _ _ _ h
        cases h) ok_Cl_carriedBehind rfl (fun v S' h => zkN_inv h) (Nat.le_of_ble_eq_true rfl) (fun g H Hw => Hw _ [some (.ref a0), some (.int a1)] _ _ _ ⟨rfl, rfl, trivial⟩ (G_Cl_carriedBehind H Hw a0 a1 S hp))
      exact ⟨_, _, (by cases hq : p.1 <;> rw [hq] at h <;> exact h), hm.1, rfl, fun _ => ⟨_, _, rfl⟩, (fun _ U H hK hH a r e => by cases e; exact zrecv (ci := 11) (by omega) hkd rfl U H hK hH), hm.2⟩
    · cases hp
  · cases h
def zP_Cl_behind : List (List (Nat × zE)) := [[(0, e1 (.aload_n 0) 1 0), (1, e1 (.iload_n 1) 2 1), (2, e3 (.invokevirtual 233) 5 0 2 0), (5, e1 (.astore_n 2) 6 2), (6, e1 (.aload_n 2) 7 2), (7, e1 (.ifnonnull 11) 10 18), (10, e1 (.aload_n 0) 11 0), (11, ei (.iconst 1) 12 0 (1)), (12, e3 (.invokevirtual 79) 15 1 2 0), (15, e1 (.goto 11) 18 26)],
  [(18, e1 (.aload_n 0) 19 0), (19, e1 (.aload_n 2) 20 2), (20, e3 (.getfield 161) 23 8 1 0), (23, e3 (.invokevirtual 109) 26 2 2 0), (26, e0 (.ireturn) 27)]]
noncomputable def zE_Cl_behind (α : Type) : Nat → zX α := fun i => bif Nat.beq i 0 then zA_vRI_N 11 f_Cl_carriedBehind else bif Nat.beq i 1 then zA_vRI_I 11 f_Cl_refuse else bif Nat.beq i 2 then zA_vRI_I 11 f_Cl_answer else fun _ _ _ => none
def zc_Cl_behind : Nat → Bool := fun pc => false
set_option maxRecDepth 100000 in
theorem r_Cl_behind (a0 : Nat) (a1 : Int32) (S : zM) : f_Cl_behind a0 a1 S = zrt false zP_Cl_behind (zE_Cl_behind (Int32 × zM)) zc_Cl_behind zkI (fun pc lv st S => none) 1000 0 [some (.ref a0), some (.int a1), none] [] S := rfl
theorem G_Cl_behind {g : zV → Nat → List Value → zM → Prop} {res : (Int32 × zM)} (H : zCl false zP_Cl_behind (zE_Cl_behind (Int32 × zM)) zkI res g) (Hw : zWk g) (a0 : Nat) (a1 : Int32) (S : zM) (h : f_Cl_behind a0 a1 S = some res) : g [some (.ref a0), some (.int a1), none] 0 [] S := by
  refine H zc_Cl_behind _ 1000 _ _ _ _ ((r_Cl_behind a0 a1 S).symm.trans h) (fun pc lv st S hK => ?_)
  cases hK
set_option maxRecDepth 100000 in
theorem ok_Cl_behind : zokT 11 [189, 16, 59] false 2 42 3 false (some .int) cX11_behind zP_Cl_behind = true := by decide +kernel
set_option maxRecDepth 100000 in
theorem s_Cl_behind {l : Launch} {HB : Heap} {b L : Nat} {xs : Nat → Int32} {aK aV : Nat → Nat} {G : va_G} {tc : Nat → ClassId} (h0 : zSnd l HB b L xs aK aV G tc (zMT.getD 189 zyD) (fun α => zA_vRI_N 11 f_Cl_carriedBehind)) (h1 : zSnd l HB b L xs aK aV G tc (zMT.getD 16 zyD) (fun α => zA_vRI_I 11 f_Cl_refuse)) (h2 : zSnd l HB b L xs aK aV G tc (zMT.getD 59 zyD) (fun α => zA_vRI_I 11 f_Cl_answer)) : zSnd l HB b L xs aK aV G tc (zMT.getD 190 zyD) (fun α => zA_vRI_I 11 f_Cl_behind) := by
  rw [show zMT.getD 190 zyD = (yX11_behind, cX11_behind, 3, (some .int), 0, 2, 2, 42) from rfl]
  intro α as S k res h
  unfold zA_vRI_I at h
  dsimp only at h
  split at h
  · rename_i a0 a1
    obtain ⟨p, hp, h⟩ := zbind h
    unfold zcl at hp
    split at hp
    · rename_i hkd
      have hm := zmeth (l := l) (HB := HB) (b := b) (L := L) (xs := xs) (aK := aK) (aV := aV) (G := G) (tc := tc) (q := (yX11_behind, cX11_behind, 3, (some .int), 0, 2, 2, 42)) (o := 11) (cs := [189, 16, 59]) (rz := false) (T := zP_Cl_behind) (E := zE_Cl_behind (Int32 × zM)) (kr := zkI) (res := p) (v0 := some (.int p.1)) (S0 := p.2) (as := [.ref a0, .int a1]) (S := S) zMT_fine (by decide +kernel) (fun i as S k' h => by
        unfold zE_Cl_behind at h
        rcases zdisf h with ⟨rfl, h⟩ | h
        · exact h0 _ _ _ _ _ h
        rcases zdisf h with ⟨rfl, h⟩ | h
        · exact h1 _ _ _ _ _ h
        rcases zdisf h with ⟨rfl, h⟩ | h
        · exact h2 _ _ _ _ _ h
        cases h) ok_Cl_behind rfl (fun v S' h => zkI_inv h) (Nat.le_of_ble_eq_true rfl) (fun g H Hw => Hw _ [some (.ref a0), some (.int a1), none] _ _ _ ⟨rfl, rfl, trivial⟩ (G_Cl_behind H Hw a0 a1 S hp))
      exact ⟨_, _, h, hm.1, rfl, fun _ => ⟨_, _, rfl⟩, (fun _ U H hK hH a r e => by cases e; exact zrecv (ci := 11) (by omega) hkd rfl U H hK hH), hm.2⟩
    · cases hp
  · cases h
def zP_Mo_behind : List (List (Nat × zE)) := [[(0, e1 (.aload_n 0) 1 0), (1, e3 (.invokevirtual 272) 4 0 1 0), (4, e1 (.aload_n 0) 5 0), (5, e3 (.getfield 297) 8 12 48 1), (8, e1 (.ifCond .eq 20) 11 28), (11, e1 (.aload_n 0) 12 0), (12, e1 (.iload_n 1) 13 1), (13, e3 (.invokevirtual 303) 16 1 2 0)],
  [(16, e1 (.ifCond .eq 12) 19 28), (19, e1 (.aload_n 0) 20 0), (20, e3 (.getfield 97) 23 12 53 2), (23, e1 (.iload_n 1) 24 1), (24, e0 (.iaload) 25), (25, e1 (.goto 8) 28 33), (28, e1 (.aload_n 0) 29 0), (29, ei (.iconst 1) 30 0 (1)), (30, e3 (.invokevirtual 275) 33 2 2 0)],
  [(33, e0 (.ireturn) 34)]]
noncomputable def zE_Mo_behind (α : Type) : Nat → zX α := fun i => bif Nat.beq i 0 then zA_vR_V 12 f_Mo_fresh else bif Nat.beq i 1 then zA_vRI_I 12 f_Mo_isPass else bif Nat.beq i 2 then zA_vRI_I 12 f_Mo_no else fun _ _ _ => none
def zc_Mo_behind : Nat → Bool := fun pc => false
set_option maxRecDepth 100000 in
theorem r_Mo_behind (a0 : Nat) (a1 : Int32) (S : zM) : f_Mo_behind a0 a1 S = zrt false zP_Mo_behind (zE_Mo_behind (Int32 × zM)) zc_Mo_behind zkI (fun pc lv st S => none) 1000 0 [some (.ref a0), some (.int a1)] [] S := rfl
theorem G_Mo_behind {g : zV → Nat → List Value → zM → Prop} {res : (Int32 × zM)} (H : zCl false zP_Mo_behind (zE_Mo_behind (Int32 × zM)) zkI res g) (Hw : zWk g) (a0 : Nat) (a1 : Int32) (S : zM) (h : f_Mo_behind a0 a1 S = some res) : g [some (.ref a0), some (.int a1)] 0 [] S := by
  refine H zc_Mo_behind _ 1000 _ _ _ _ ((r_Mo_behind a0 a1 S).symm.trans h) (fun pc lv st S hK => ?_)
  cases hK
set_option maxRecDepth 100000 in
theorem ok_Mo_behind : zokT 12 [61, 94, 63] false 2 43 2 false (some .int) cX12_behind zP_Mo_behind = true := by decide +kernel
set_option maxRecDepth 100000 in
theorem s_Mo_behind {l : Launch} {HB : Heap} {b L : Nat} {xs : Nat → Int32} {aK aV : Nat → Nat} {G : va_G} {tc : Nat → ClassId} (h0 : zSnd l HB b L xs aK aV G tc (zMT.getD 61 zyD) (fun α => zA_vR_V 12 f_Mo_fresh)) (h1 : zSnd l HB b L xs aK aV G tc (zMT.getD 94 zyD) (fun α => zA_vRI_I 12 f_Mo_isPass)) (h2 : zSnd l HB b L xs aK aV G tc (zMT.getD 63 zyD) (fun α => zA_vRI_I 12 f_Mo_no)) : zSnd l HB b L xs aK aV G tc (zMT.getD 191 zyD) (fun α => zA_vRI_I 12 f_Mo_behind) := by
  rw [show zMT.getD 191 zyD = (yX12_behind, cX12_behind, 2, (some .int), 0, 2, 2, 43) from rfl]
  intro α as S k res h
  unfold zA_vRI_I at h
  dsimp only at h
  split at h
  · rename_i a0 a1
    obtain ⟨p, hp, h⟩ := zbind h
    unfold zcl at hp
    split at hp
    · rename_i hkd
      have hm := zmeth (l := l) (HB := HB) (b := b) (L := L) (xs := xs) (aK := aK) (aV := aV) (G := G) (tc := tc) (q := (yX12_behind, cX12_behind, 2, (some .int), 0, 2, 2, 43)) (o := 12) (cs := [61, 94, 63]) (rz := false) (T := zP_Mo_behind) (E := zE_Mo_behind (Int32 × zM)) (kr := zkI) (res := p) (v0 := some (.int p.1)) (S0 := p.2) (as := [.ref a0, .int a1]) (S := S) zMT_fine (by decide +kernel) (fun i as S k' h => by
        unfold zE_Mo_behind at h
        rcases zdisf h with ⟨rfl, h⟩ | h
        · exact h0 _ _ _ _ _ h
        rcases zdisf h with ⟨rfl, h⟩ | h
        · exact h1 _ _ _ _ _ h
        rcases zdisf h with ⟨rfl, h⟩ | h
        · exact h2 _ _ _ _ _ h
        cases h) ok_Mo_behind rfl (fun v S' h => zkI_inv h) (Nat.le_of_ble_eq_true rfl) (fun g H Hw => Hw _ [some (.ref a0), some (.int a1)] _ _ _ ⟨rfl, rfl, trivial⟩ (G_Mo_behind H Hw a0 a1 S hp))
      exact ⟨_, _, h, hm.1, rfl, fun _ => ⟨_, _, rfl⟩, (fun _ U H hK hH a r e => by cases e; exact zrecv (ci := 12) (by omega) hkd rfl U H hK hH), hm.2⟩
    · cases hp
  · cases h
def zP_Cl_outOf : List (List (Nat × zE)) := [[(0, e1 (.aload_n 0) 1 0), (1, e1 (.iload_n 1) 2 1), (2, e3 (.invokevirtual 233) 5 0 2 0), (5, e1 (.astore_n 3) 6 3), (6, e1 (.aload_n 3) 7 3), (7, e1 (.ifnonnull 11) 10 18), (10, e1 (.aload_n 0) 11 0), (11, ei (.iconst 1) 12 0 (1)), (12, e3 (.invokevirtual 79) 15 1 2 0), (15, e1 (.goto 9) 18 24)],
  [(18, e1 (.aload_n 0) 19 0), (19, e1 (.aload_n 3) 20 3), (20, e1 (.iload_n 2) 21 2), (21, e3 (.invokevirtual 177) 24 2 3 0), (24, e0 (.ireturn) 25)]]
noncomputable def zE_Cl_outOf (α : Type) : Nat → zX α := fun i => bif Nat.beq i 0 then zA_vRI_N 11 f_Cl_carriedBehind else bif Nat.beq i 1 then zA_vRI_I 11 f_Cl_refuse else bif Nat.beq i 2 then zA_vRRI_I 11 f_Cl_answerLetter else fun _ _ _ => none
def zc_Cl_outOf : Nat → Bool := fun pc => false
set_option maxRecDepth 100000 in
theorem r_Cl_outOf (a0 : Nat) (a1 : Int32) (a2 : Int32) (S : zM) : f_Cl_outOf a0 a1 a2 S = zrt false zP_Cl_outOf (zE_Cl_outOf (Int32 × zM)) zc_Cl_outOf zkI (fun pc lv st S => none) 1000 0 [some (.ref a0), some (.int a1), some (.int a2), none] [] S := rfl
theorem G_Cl_outOf {g : zV → Nat → List Value → zM → Prop} {res : (Int32 × zM)} (H : zCl false zP_Cl_outOf (zE_Cl_outOf (Int32 × zM)) zkI res g) (Hw : zWk g) (a0 : Nat) (a1 : Int32) (a2 : Int32) (S : zM) (h : f_Cl_outOf a0 a1 a2 S = some res) : g [some (.ref a0), some (.int a1), some (.int a2), none] 0 [] S := by
  refine H zc_Cl_outOf _ 1000 _ _ _ _ ((r_Cl_outOf a0 a1 a2 S).symm.trans h) (fun pc lv st S hK => ?_)
  cases hK
set_option maxRecDepth 100000 in
theorem ok_Cl_outOf : zokT 11 [189, 16, 108] false 2 44 4 false (some .int) cX11_outOf zP_Cl_outOf = true := by decide +kernel
set_option maxRecDepth 100000 in
theorem s_Cl_outOf {l : Launch} {HB : Heap} {b L : Nat} {xs : Nat → Int32} {aK aV : Nat → Nat} {G : va_G} {tc : Nat → ClassId} (h0 : zSnd l HB b L xs aK aV G tc (zMT.getD 189 zyD) (fun α => zA_vRI_N 11 f_Cl_carriedBehind)) (h1 : zSnd l HB b L xs aK aV G tc (zMT.getD 16 zyD) (fun α => zA_vRI_I 11 f_Cl_refuse)) (h2 : zSnd l HB b L xs aK aV G tc (zMT.getD 108 zyD) (fun α => zA_vRRI_I 11 f_Cl_answerLetter)) : zSnd l HB b L xs aK aV G tc (zMT.getD 192 zyD) (fun α => zA_vRII_I 11 f_Cl_outOf) := by
  rw [show zMT.getD 192 zyD = (yX11_outOf, cX11_outOf, 4, (some .int), 0, 3, 2, 44) from rfl]
  intro α as S k res h
  unfold zA_vRII_I at h
  dsimp only at h
  split at h
  · rename_i a0 a1 a2
    obtain ⟨p, hp, h⟩ := zbind h
    unfold zcl at hp
    split at hp
    · rename_i hkd
      have hm := zmeth (l := l) (HB := HB) (b := b) (L := L) (xs := xs) (aK := aK) (aV := aV) (G := G) (tc := tc) (q := (yX11_outOf, cX11_outOf, 4, (some .int), 0, 3, 2, 44)) (o := 11) (cs := [189, 16, 108]) (rz := false) (T := zP_Cl_outOf) (E := zE_Cl_outOf (Int32 × zM)) (kr := zkI) (res := p) (v0 := some (.int p.1)) (S0 := p.2) (as := [.ref a0, .int a1, .int a2]) (S := S) zMT_fine (by decide +kernel) (fun i as S k' h => by
        unfold zE_Cl_outOf at h
        rcases zdisf h with ⟨rfl, h⟩ | h
        · exact h0 _ _ _ _ _ h
        rcases zdisf h with ⟨rfl, h⟩ | h
        · exact h1 _ _ _ _ _ h
        rcases zdisf h with ⟨rfl, h⟩ | h
        · exact h2 _ _ _ _ _ h
        cases h) ok_Cl_outOf rfl (fun v S' h => zkI_inv h) (Nat.le_of_ble_eq_true rfl) (fun g H Hw => Hw _ [some (.ref a0), some (.int a1), some (.int a2), none] _ _ _ ⟨rfl, rfl, rfl, trivial⟩ (G_Cl_outOf H Hw a0 a1 a2 S hp))
      exact ⟨_, _, h, hm.1, rfl, fun _ => ⟨_, _, rfl⟩, (fun _ U H hK hH a r e => by cases e; exact zrecv (ci := 11) (by omega) hkd rfl U H hK hH), hm.2⟩
    · cases hp
  · cases h
def zP_Mo_outOf : List (List (Nat × zE)) := [[(0, e1 (.aload_n 0) 1 0), (1, e3 (.invokevirtual 272) 4 0 1 0), (4, e1 (.aload_n 0) 5 0), (5, e3 (.getfield 297) 8 12 48 1), (8, e1 (.ifCond .eq 41) 11 49), (11, e1 (.aload_n 0) 12 0), (12, e1 (.iload_n 1) 13 1), (13, e3 (.invokevirtual 303) 16 1 2 0)],
  [(16, e1 (.ifCond .eq 33) 19 49), (19, e1 (.iload_n 2) 20 2), (20, ei (.iconst 0) 21 0 (0)), (21, e1 (.aload_n 0) 22 0), (22, e3 (.getfield 97) 25 12 53 2), (25, e1 (.iload_n 1) 26 1), (26, e0 (.iaload) 27), (27, ei (.iconst 1) 28 0 (1)), (28, e0 (.isub) 29), (29, e3 (.invokestatic 156) 32 2 3 0)],
  [(32, e1 (.ifCond .eq 17) 35 49), (35, e1 (.aload_n 0) 36 0), (36, e3 (.getfield 100) 39 12 54 2), (39, ei (.bipush 60) 41 0 (60)), (41, e1 (.iload_n 1) 42 1), (42, e0 (.imul) 43), (43, e1 (.iload_n 2) 44 2), (44, e0 (.iadd) 45), (45, e0 (.iaload) 46), (46, e1 (.goto 8) 49 54)],
  [(49, e1 (.aload_n 0) 50 0), (50, ei (.iconst 1) 51 0 (1)), (51, e3 (.invokevirtual 275) 54 3 2 0), (54, e0 (.ireturn) 55)]]
noncomputable def zE_Mo_outOf (α : Type) : Nat → zX α := fun i => bif Nat.beq i 0 then zA_vR_V 12 f_Mo_fresh else bif Nat.beq i 1 then zA_vRI_I 12 f_Mo_isPass else bif Nat.beq i 2 then zA_III_I f_Mo_in else bif Nat.beq i 3 then zA_vRI_I 12 f_Mo_no else fun _ _ _ => none
def zc_Mo_outOf : Nat → Bool := fun pc => false
set_option maxRecDepth 100000 in
theorem r_Mo_outOf (a0 : Nat) (a1 : Int32) (a2 : Int32) (S : zM) : f_Mo_outOf a0 a1 a2 S = zrt false zP_Mo_outOf (zE_Mo_outOf (Int32 × zM)) zc_Mo_outOf zkI (fun pc lv st S => none) 1000 0 [some (.ref a0), some (.int a1), some (.int a2)] [] S := rfl
theorem G_Mo_outOf {g : zV → Nat → List Value → zM → Prop} {res : (Int32 × zM)} (H : zCl false zP_Mo_outOf (zE_Mo_outOf (Int32 × zM)) zkI res g) (Hw : zWk g) (a0 : Nat) (a1 : Int32) (a2 : Int32) (S : zM) (h : f_Mo_outOf a0 a1 a2 S = some res) : g [some (.ref a0), some (.int a1), some (.int a2)] 0 [] S := by
  refine H zc_Mo_outOf _ 1000 _ _ _ _ ((r_Mo_outOf a0 a1 a2 S).symm.trans h) (fun pc lv st S hK => ?_)
  cases hK
set_option maxRecDepth 100000 in
theorem ok_Mo_outOf : zokT 12 [61, 94, 62, 63] false 2 43 3 false (some .int) cX12_outOf zP_Mo_outOf = true := by decide +kernel
set_option maxRecDepth 100000 in
theorem s_Mo_outOf {l : Launch} {HB : Heap} {b L : Nat} {xs : Nat → Int32} {aK aV : Nat → Nat} {G : va_G} {tc : Nat → ClassId} (h0 : zSnd l HB b L xs aK aV G tc (zMT.getD 61 zyD) (fun α => zA_vR_V 12 f_Mo_fresh)) (h1 : zSnd l HB b L xs aK aV G tc (zMT.getD 94 zyD) (fun α => zA_vRI_I 12 f_Mo_isPass)) (h2 : zSnd l HB b L xs aK aV G tc (zMT.getD 62 zyD) (fun α => zA_III_I f_Mo_in)) (h3 : zSnd l HB b L xs aK aV G tc (zMT.getD 63 zyD) (fun α => zA_vRI_I 12 f_Mo_no)) : zSnd l HB b L xs aK aV G tc (zMT.getD 193 zyD) (fun α => zA_vRII_I 12 f_Mo_outOf) := by
  rw [show zMT.getD 193 zyD = (yX12_outOf, cX12_outOf, 3, (some .int), 0, 3, 2, 43) from rfl]
  intro α as S k res h
  unfold zA_vRII_I at h
  dsimp only at h
  split at h
  · rename_i a0 a1 a2
    obtain ⟨p, hp, h⟩ := zbind h
    unfold zcl at hp
    split at hp
    · rename_i hkd
      have hm := zmeth (l := l) (HB := HB) (b := b) (L := L) (xs := xs) (aK := aK) (aV := aV) (G := G) (tc := tc) (q := (yX12_outOf, cX12_outOf, 3, (some .int), 0, 3, 2, 43)) (o := 12) (cs := [61, 94, 62, 63]) (rz := false) (T := zP_Mo_outOf) (E := zE_Mo_outOf (Int32 × zM)) (kr := zkI) (res := p) (v0 := some (.int p.1)) (S0 := p.2) (as := [.ref a0, .int a1, .int a2]) (S := S) zMT_fine (by decide +kernel) (fun i as S k' h => by
        unfold zE_Mo_outOf at h
        rcases zdisf h with ⟨rfl, h⟩ | h
        · exact h0 _ _ _ _ _ h
        rcases zdisf h with ⟨rfl, h⟩ | h
        · exact h1 _ _ _ _ _ h
        rcases zdisf h with ⟨rfl, h⟩ | h
        · exact h2 _ _ _ _ _ h
        rcases zdisf h with ⟨rfl, h⟩ | h
        · exact h3 _ _ _ _ _ h
        cases h) ok_Mo_outOf rfl (fun v S' h => zkI_inv h) (Nat.le_of_ble_eq_true rfl) (fun g H Hw => Hw _ [some (.ref a0), some (.int a1), some (.int a2)] _ _ _ ⟨rfl, rfl, rfl, trivial⟩ (G_Mo_outOf H Hw a0 a1 a2 S hp))
      exact ⟨_, _, h, hm.1, rfl, fun _ => ⟨_, _, rfl⟩, (fun _ U H hK hH a r e => by cases e; exact zrecv (ci := 12) (by omega) hkd rfl U H hK hH), hm.2⟩
    · cases hp
  · cases h
def zP_Carrier_roundsOf : List (List (Nat × zE)) := [[(0, e1 (.iload_n 1) 1 1), (1, e1 (.ifCond .lt 8) 4 9), (4, e1 (.iload_n 1) 5 1), (5, ei (.iconst 3) 6 0 (3)), (6, e1 (.if_icmp .lt 7) 9 13), (9, ei (.iconst 0) 10 0 (0)), (10, e1 (.goto 9) 13 19), (13, e1 (.aload_n 0) 14 0), (14, e3 (.getfield 17) 17 1 1 2)],
  [(17, e1 (.iload_n 1) 18 1), (18, e0 (.iaload) 19), (19, e0 (.ireturn) 20)]]
noncomputable def zE_Carrier_roundsOf (α : Type) : Nat → zX α := fun _ => fun _ _ _ => none
def zc_Carrier_roundsOf : Nat → Bool := fun pc => false
set_option maxRecDepth 100000 in
theorem r_Carrier_roundsOf (a0 : Nat) (a1 : Int32) (S : zM) : f_Carrier_roundsOf a0 a1 S = zrt false zP_Carrier_roundsOf (zE_Carrier_roundsOf (Int32 × zM)) zc_Carrier_roundsOf zkI (fun pc lv st S => none) 1000 0 [some (.ref a0), some (.int a1)] [] S := rfl
theorem G_Carrier_roundsOf {g : zV → Nat → List Value → zM → Prop} {res : (Int32 × zM)} (H : zCl false zP_Carrier_roundsOf (zE_Carrier_roundsOf (Int32 × zM)) zkI res g) (Hw : zWk g) (a0 : Nat) (a1 : Int32) (S : zM) (h : f_Carrier_roundsOf a0 a1 S = some res) : g [some (.ref a0), some (.int a1)] 0 [] S := by
  refine H zc_Carrier_roundsOf _ 1000 _ _ _ _ ((r_Carrier_roundsOf a0 a1 S).symm.trans h) (fun pc lv st S hK => ?_)
  cases hK
set_option maxRecDepth 100000 in
theorem ok_Carrier_roundsOf : zokT 1 [] false 0 0 2 false (some .int) cX1_roundsOf zP_Carrier_roundsOf = true := by decide +kernel
set_option maxRecDepth 100000 in
theorem s_Carrier_roundsOf {l : Launch} {HB : Heap} {b L : Nat} {xs : Nat → Int32} {aK aV : Nat → Nat} {G : va_G} {tc : Nat → ClassId} : zSnd l HB b L xs aK aV G tc (zMT.getD 194 zyD) (fun α => zA_vRI_I 1 f_Carrier_roundsOf) := by
  rw [show zMT.getD 194 zyD = (yX1_roundsOf, cX1_roundsOf, 2, (some .int), 0, 2, 0, 0) from rfl]
  intro α as S k res h
  unfold zA_vRI_I at h
  dsimp only at h
  split at h
  · rename_i a0 a1
    obtain ⟨p, hp, h⟩ := zbind h
    unfold zcl at hp
    split at hp
    · rename_i hkd
      have hm := zmeth (l := l) (HB := HB) (b := b) (L := L) (xs := xs) (aK := aK) (aV := aV) (G := G) (tc := tc) (q := (yX1_roundsOf, cX1_roundsOf, 2, (some .int), 0, 2, 0, 0)) (o := 1) (cs := []) (rz := false) (T := zP_Carrier_roundsOf) (E := zE_Carrier_roundsOf (Int32 × zM)) (kr := zkI) (res := p) (v0 := some (.int p.1)) (S0 := p.2) (as := [.ref a0, .int a1]) (S := S) zMT_fine (by decide +kernel) (fun i as S k' h => by
        unfold zE_Carrier_roundsOf at h
        cases h) ok_Carrier_roundsOf rfl (fun v S' h => zkI_inv h) (Nat.le_of_ble_eq_true rfl) (fun g H Hw => Hw _ [some (.ref a0), some (.int a1)] _ _ _ ⟨rfl, rfl, trivial⟩ (G_Carrier_roundsOf H Hw a0 a1 S hp))
      exact ⟨_, _, h, hm.1, rfl, fun _ => ⟨_, _, rfl⟩, (fun _ U H hK hH a r e => by cases e; exact zrecv (ci := 1) (by omega) hkd rfl U H hK hH), hm.2⟩
    · cases hp
  · cases h
def zP_Cl_rounds : List (List (Nat × zE)) := [[(0, e1 (.aload_n 0) 1 0), (1, e1 (.iload_n 1) 2 1), (2, e3 (.invokevirtual 233) 5 0 2 0), (5, e1 (.ifnonnull 11) 8 16), (8, e1 (.aload_n 0) 9 0), (9, ei (.iconst 1) 10 0 (1)), (10, e3 (.invokevirtual 79) 13 1 2 0), (13, e1 (.goto 15) 16 28)],
  [(16, e1 (.aload_n 0) 17 0), (17, e1 (.aload_n 0) 18 0), (18, e3 (.getfield 23) 21 11 2 2), (21, e1 (.iload_n 1) 22 1), (22, e3 (.invokevirtual 237) 25 2 2 0), (25, e3 (.invokevirtual 109) 28 3 2 0), (28, e0 (.ireturn) 29)]]
noncomputable def zE_Cl_rounds (α : Type) : Nat → zX α := fun i => bif Nat.beq i 0 then zA_vRI_N 11 f_Cl_carriedBehind else bif Nat.beq i 1 then zA_vRI_I 11 f_Cl_refuse else bif Nat.beq i 2 then zA_vRI_I 1 f_Carrier_roundsOf else bif Nat.beq i 3 then zA_vRI_I 11 f_Cl_answer else fun _ _ _ => none
def zc_Cl_rounds : Nat → Bool := fun pc => false
set_option maxRecDepth 100000 in
theorem r_Cl_rounds (a0 : Nat) (a1 : Int32) (S : zM) : f_Cl_rounds a0 a1 S = zrt false zP_Cl_rounds (zE_Cl_rounds (Int32 × zM)) zc_Cl_rounds zkI (fun pc lv st S => none) 1000 0 [some (.ref a0), some (.int a1)] [] S := rfl
theorem G_Cl_rounds {g : zV → Nat → List Value → zM → Prop} {res : (Int32 × zM)} (H : zCl false zP_Cl_rounds (zE_Cl_rounds (Int32 × zM)) zkI res g) (Hw : zWk g) (a0 : Nat) (a1 : Int32) (S : zM) (h : f_Cl_rounds a0 a1 S = some res) : g [some (.ref a0), some (.int a1)] 0 [] S := by
  refine H zc_Cl_rounds _ 1000 _ _ _ _ ((r_Cl_rounds a0 a1 S).symm.trans h) (fun pc lv st S hK => ?_)
  cases hK
set_option maxRecDepth 100000 in
theorem ok_Cl_rounds : zokT 11 [189, 16, 194, 59] false 2 42 2 false (some .int) cX11_rounds zP_Cl_rounds = true := by decide +kernel
set_option maxRecDepth 100000 in
theorem s_Cl_rounds {l : Launch} {HB : Heap} {b L : Nat} {xs : Nat → Int32} {aK aV : Nat → Nat} {G : va_G} {tc : Nat → ClassId} (h0 : zSnd l HB b L xs aK aV G tc (zMT.getD 189 zyD) (fun α => zA_vRI_N 11 f_Cl_carriedBehind)) (h1 : zSnd l HB b L xs aK aV G tc (zMT.getD 16 zyD) (fun α => zA_vRI_I 11 f_Cl_refuse)) (h2 : zSnd l HB b L xs aK aV G tc (zMT.getD 194 zyD) (fun α => zA_vRI_I 1 f_Carrier_roundsOf)) (h3 : zSnd l HB b L xs aK aV G tc (zMT.getD 59 zyD) (fun α => zA_vRI_I 11 f_Cl_answer)) : zSnd l HB b L xs aK aV G tc (zMT.getD 195 zyD) (fun α => zA_vRI_I 11 f_Cl_rounds) := by
  rw [show zMT.getD 195 zyD = (yX11_rounds, cX11_rounds, 2, (some .int), 0, 2, 2, 42) from rfl]
  intro α as S k res h
  unfold zA_vRI_I at h
  dsimp only at h
  split at h
  · rename_i a0 a1
    obtain ⟨p, hp, h⟩ := zbind h
    unfold zcl at hp
    split at hp
    · rename_i hkd
      have hm := zmeth (l := l) (HB := HB) (b := b) (L := L) (xs := xs) (aK := aK) (aV := aV) (G := G) (tc := tc) (q := (yX11_rounds, cX11_rounds, 2, (some .int), 0, 2, 2, 42)) (o := 11) (cs := [189, 16, 194, 59]) (rz := false) (T := zP_Cl_rounds) (E := zE_Cl_rounds (Int32 × zM)) (kr := zkI) (res := p) (v0 := some (.int p.1)) (S0 := p.2) (as := [.ref a0, .int a1]) (S := S) zMT_fine (by decide +kernel) (fun i as S k' h => by
        unfold zE_Cl_rounds at h
        rcases zdisf h with ⟨rfl, h⟩ | h
        · exact h0 _ _ _ _ _ h
        rcases zdisf h with ⟨rfl, h⟩ | h
        · exact h1 _ _ _ _ _ h
        rcases zdisf h with ⟨rfl, h⟩ | h
        · exact h2 _ _ _ _ _ h
        rcases zdisf h with ⟨rfl, h⟩ | h
        · exact h3 _ _ _ _ _ h
        cases h) ok_Cl_rounds rfl (fun v S' h => zkI_inv h) (Nat.le_of_ble_eq_true rfl) (fun g H Hw => Hw _ [some (.ref a0), some (.int a1)] _ _ _ ⟨rfl, rfl, trivial⟩ (G_Cl_rounds H Hw a0 a1 S hp))
      exact ⟨_, _, h, hm.1, rfl, fun _ => ⟨_, _, rfl⟩, (fun _ U H hK hH a r e => by cases e; exact zrecv (ci := 11) (by omega) hkd rfl U H hK hH), hm.2⟩
    · cases hp
  · cases h
def zP_Mo_rounds : List (List (Nat × zE)) := [[(0, e1 (.aload_n 0) 1 0), (1, e3 (.invokevirtual 272) 4 0 1 0), (4, e1 (.aload_n 0) 5 0), (5, e3 (.getfield 297) 8 12 48 1), (8, e1 (.ifCond .eq 20) 11 28), (11, e1 (.aload_n 0) 12 0), (12, e1 (.iload_n 1) 13 1), (13, e3 (.invokevirtual 303) 16 1 2 0)],
  [(16, e1 (.ifCond .eq 12) 19 28), (19, e1 (.aload_n 0) 20 0), (20, e3 (.getfield 94) 23 12 52 2), (23, e1 (.iload_n 1) 24 1), (24, e0 (.iaload) 25), (25, e1 (.goto 8) 28 33), (28, e1 (.aload_n 0) 29 0), (29, ei (.iconst 1) 30 0 (1)), (30, e3 (.invokevirtual 275) 33 2 2 0)],
  [(33, e0 (.ireturn) 34)]]
noncomputable def zE_Mo_rounds (α : Type) : Nat → zX α := fun i => bif Nat.beq i 0 then zA_vR_V 12 f_Mo_fresh else bif Nat.beq i 1 then zA_vRI_I 12 f_Mo_isPass else bif Nat.beq i 2 then zA_vRI_I 12 f_Mo_no else fun _ _ _ => none
def zc_Mo_rounds : Nat → Bool := fun pc => false
set_option maxRecDepth 100000 in
theorem r_Mo_rounds (a0 : Nat) (a1 : Int32) (S : zM) : f_Mo_rounds a0 a1 S = zrt false zP_Mo_rounds (zE_Mo_rounds (Int32 × zM)) zc_Mo_rounds zkI (fun pc lv st S => none) 1000 0 [some (.ref a0), some (.int a1)] [] S := rfl
theorem G_Mo_rounds {g : zV → Nat → List Value → zM → Prop} {res : (Int32 × zM)} (H : zCl false zP_Mo_rounds (zE_Mo_rounds (Int32 × zM)) zkI res g) (Hw : zWk g) (a0 : Nat) (a1 : Int32) (S : zM) (h : f_Mo_rounds a0 a1 S = some res) : g [some (.ref a0), some (.int a1)] 0 [] S := by
  refine H zc_Mo_rounds _ 1000 _ _ _ _ ((r_Mo_rounds a0 a1 S).symm.trans h) (fun pc lv st S hK => ?_)
  cases hK
set_option maxRecDepth 100000 in
theorem ok_Mo_rounds : zokT 12 [61, 94, 63] false 2 43 2 false (some .int) cX12_rounds zP_Mo_rounds = true := by decide +kernel
set_option maxRecDepth 100000 in
theorem s_Mo_rounds {l : Launch} {HB : Heap} {b L : Nat} {xs : Nat → Int32} {aK aV : Nat → Nat} {G : va_G} {tc : Nat → ClassId} (h0 : zSnd l HB b L xs aK aV G tc (zMT.getD 61 zyD) (fun α => zA_vR_V 12 f_Mo_fresh)) (h1 : zSnd l HB b L xs aK aV G tc (zMT.getD 94 zyD) (fun α => zA_vRI_I 12 f_Mo_isPass)) (h2 : zSnd l HB b L xs aK aV G tc (zMT.getD 63 zyD) (fun α => zA_vRI_I 12 f_Mo_no)) : zSnd l HB b L xs aK aV G tc (zMT.getD 196 zyD) (fun α => zA_vRI_I 12 f_Mo_rounds) := by
  rw [show zMT.getD 196 zyD = (yX12_rounds, cX12_rounds, 2, (some .int), 0, 2, 2, 43) from rfl]
  intro α as S k res h
  unfold zA_vRI_I at h
  dsimp only at h
  split at h
  · rename_i a0 a1
    obtain ⟨p, hp, h⟩ := zbind h
    unfold zcl at hp
    split at hp
    · rename_i hkd
      have hm := zmeth (l := l) (HB := HB) (b := b) (L := L) (xs := xs) (aK := aK) (aV := aV) (G := G) (tc := tc) (q := (yX12_rounds, cX12_rounds, 2, (some .int), 0, 2, 2, 43)) (o := 12) (cs := [61, 94, 63]) (rz := false) (T := zP_Mo_rounds) (E := zE_Mo_rounds (Int32 × zM)) (kr := zkI) (res := p) (v0 := some (.int p.1)) (S0 := p.2) (as := [.ref a0, .int a1]) (S := S) zMT_fine (by decide +kernel) (fun i as S k' h => by
        unfold zE_Mo_rounds at h
        rcases zdisf h with ⟨rfl, h⟩ | h
        · exact h0 _ _ _ _ _ h
        rcases zdisf h with ⟨rfl, h⟩ | h
        · exact h1 _ _ _ _ _ h
        rcases zdisf h with ⟨rfl, h⟩ | h
        · exact h2 _ _ _ _ _ h
        cases h) ok_Mo_rounds rfl (fun v S' h => zkI_inv h) (Nat.le_of_ble_eq_true rfl) (fun g H Hw => Hw _ [some (.ref a0), some (.int a1)] _ _ _ ⟨rfl, rfl, trivial⟩ (G_Mo_rounds H Hw a0 a1 S hp))
      exact ⟨_, _, h, hm.1, rfl, fun _ => ⟨_, _, rfl⟩, (fun _ U H hK hH a r e => by cases e; exact zrecv (ci := 12) (by omega) hkd rfl U H hK hH), hm.2⟩
    · cases hp
  · cases h
def zP_Carrier_servedBy : List (List (Nat × zE)) := [[(0, e1 (.iload_n 1) 1 1), (1, e1 (.ifCond .lt 18) 4 19), (4, e1 (.iload_n 1) 5 1), (5, ei (.iconst 3) 6 0 (3)), (6, e1 (.if_icmp .ge 13) 9 19), (9, e1 (.iload_n 2) 10 2), (10, e1 (.ifCond .lt 9) 13 19), (13, e1 (.iload_n 2) 14 2), (14, ei (.bipush 8) 16 0 (8))],
  [(16, e1 (.if_icmp .lt 7) 19 23), (19, ei (.iconst 0) 20 0 (0)), (20, e1 (.goto 14) 23 34), (23, e1 (.aload_n 0) 24 0), (24, e3 (.getfield 21) 27 1 2 2), (27, e1 (.iload_n 1) 28 1), (28, ei (.bipush 8) 30 0 (8)), (30, e0 (.imul) 31), (31, e1 (.iload_n 2) 32 2)],
  [(32, e0 (.iadd) 33), (33, e0 (.iaload) 34), (34, e0 (.ireturn) 35)]]
noncomputable def zE_Carrier_servedBy (α : Type) : Nat → zX α := fun _ => fun _ _ _ => none
def zc_Carrier_servedBy : Nat → Bool := fun pc => false
set_option maxRecDepth 100000 in
theorem r_Carrier_servedBy (a0 : Nat) (a1 : Int32) (a2 : Int32) (S : zM) : f_Carrier_servedBy a0 a1 a2 S = zrt false zP_Carrier_servedBy (zE_Carrier_servedBy (Int32 × zM)) zc_Carrier_servedBy zkI (fun pc lv st S => none) 1000 0 [some (.ref a0), some (.int a1), some (.int a2)] [] S := rfl
theorem G_Carrier_servedBy {g : zV → Nat → List Value → zM → Prop} {res : (Int32 × zM)} (H : zCl false zP_Carrier_servedBy (zE_Carrier_servedBy (Int32 × zM)) zkI res g) (Hw : zWk g) (a0 : Nat) (a1 : Int32) (a2 : Int32) (S : zM) (h : f_Carrier_servedBy a0 a1 a2 S = some res) : g [some (.ref a0), some (.int a1), some (.int a2)] 0 [] S := by
  refine H zc_Carrier_servedBy _ 1000 _ _ _ _ ((r_Carrier_servedBy a0 a1 a2 S).symm.trans h) (fun pc lv st S hK => ?_)
  cases hK
set_option maxRecDepth 100000 in
theorem ok_Carrier_servedBy : zokT 1 [] false 0 0 3 false (some .int) cX1_servedBy zP_Carrier_servedBy = true := by decide +kernel
set_option maxRecDepth 100000 in
theorem s_Carrier_servedBy {l : Launch} {HB : Heap} {b L : Nat} {xs : Nat → Int32} {aK aV : Nat → Nat} {G : va_G} {tc : Nat → ClassId} : zSnd l HB b L xs aK aV G tc (zMT.getD 197 zyD) (fun α => zA_vRII_I 1 f_Carrier_servedBy) := by
  rw [show zMT.getD 197 zyD = (yX1_servedBy, cX1_servedBy, 3, (some .int), 0, 3, 0, 0) from rfl]
  intro α as S k res h
  unfold zA_vRII_I at h
  dsimp only at h
  split at h
  · rename_i a0 a1 a2
    obtain ⟨p, hp, h⟩ := zbind h
    unfold zcl at hp
    split at hp
    · rename_i hkd
      have hm := zmeth (l := l) (HB := HB) (b := b) (L := L) (xs := xs) (aK := aK) (aV := aV) (G := G) (tc := tc) (q := (yX1_servedBy, cX1_servedBy, 3, (some .int), 0, 3, 0, 0)) (o := 1) (cs := []) (rz := false) (T := zP_Carrier_servedBy) (E := zE_Carrier_servedBy (Int32 × zM)) (kr := zkI) (res := p) (v0 := some (.int p.1)) (S0 := p.2) (as := [.ref a0, .int a1, .int a2]) (S := S) zMT_fine (by decide +kernel) (fun i as S k' h => by
        unfold zE_Carrier_servedBy at h
        cases h) ok_Carrier_servedBy rfl (fun v S' h => zkI_inv h) (Nat.le_of_ble_eq_true rfl) (fun g H Hw => Hw _ [some (.ref a0), some (.int a1), some (.int a2)] _ _ _ ⟨rfl, rfl, rfl, trivial⟩ (G_Carrier_servedBy H Hw a0 a1 a2 S hp))
      exact ⟨_, _, h, hm.1, rfl, fun _ => ⟨_, _, rfl⟩, (fun _ U H hK hH a r e => by cases e; exact zrecv (ci := 1) (by omega) hkd rfl U H hK hH), hm.2⟩
    · cases hp
  · cases h
def zP_Cl_served : List (List (Nat × zE)) := [[(0, e1 (.aload_n 0) 1 0), (1, e3 (.getfield 96) 4 11 17 1), (4, e1 (.ifCond .eq 15) 7 19), (7, e1 (.aload_n 0) 8 0), (8, e3 (.getfield 65) 11 11 10 2), (11, e1 (.iload_n 1) 12 1), (12, e1 (.iload_n 2) 13 2), (13, e3 (.invokevirtual 152) 16 0 3 0)],
  [(16, e1 (.ifnonnull 9) 19 25), (19, e1 (.aload_n 0) 20 0), (20, ei (.iconst 1) 21 0 (1)), (21, e3 (.invokevirtual 79) 24 1 2 0), (24, e0 (.ireturn) 25), (25, e1 (.aload_n 0) 26 0), (26, e1 (.aload_n 0) 27 0), (27, e3 (.getfield 23) 30 11 2 2), (30, e1 (.iload_n 1) 31 1), (31, e1 (.iload_n 2) 32 2)],
  [(32, e3 (.invokevirtual 240) 35 2 3 0), (35, e3 (.invokevirtual 109) 38 3 2 0), (38, e0 (.ireturn) 39)]]
noncomputable def zE_Cl_served (α : Type) : Nat → zX α := fun i => bif Nat.beq i 0 then zA_vRII_N 10 f_Script_ruleAt else bif Nat.beq i 1 then zA_vRI_I 11 f_Cl_refuse else bif Nat.beq i 2 then zA_vRII_I 1 f_Carrier_servedBy else bif Nat.beq i 3 then zA_vRI_I 11 f_Cl_answer else fun _ _ _ => none
def zc_Cl_served : Nat → Bool := fun pc => false
set_option maxRecDepth 100000 in
theorem r_Cl_served (a0 : Nat) (a1 : Int32) (a2 : Int32) (S : zM) : f_Cl_served a0 a1 a2 S = zrt false zP_Cl_served (zE_Cl_served (Int32 × zM)) zc_Cl_served zkI (fun pc lv st S => none) 1000 0 [some (.ref a0), some (.int a1), some (.int a2)] [] S := rfl
theorem G_Cl_served {g : zV → Nat → List Value → zM → Prop} {res : (Int32 × zM)} (H : zCl false zP_Cl_served (zE_Cl_served (Int32 × zM)) zkI res g) (Hw : zWk g) (a0 : Nat) (a1 : Int32) (a2 : Int32) (S : zM) (h : f_Cl_served a0 a1 a2 S = some res) : g [some (.ref a0), some (.int a1), some (.int a2)] 0 [] S := by
  refine H zc_Cl_served _ 1000 _ _ _ _ ((r_Cl_served a0 a1 a2 S).symm.trans h) (fun pc lv st S hK => ?_)
  cases hK
set_option maxRecDepth 100000 in
theorem ok_Cl_served : zokT 11 [100, 16, 197, 59] false 2 44 3 false (some .int) cX11_served zP_Cl_served = true := by decide +kernel
set_option maxRecDepth 100000 in
theorem s_Cl_served {l : Launch} {HB : Heap} {b L : Nat} {xs : Nat → Int32} {aK aV : Nat → Nat} {G : va_G} {tc : Nat → ClassId} (h0 : zSnd l HB b L xs aK aV G tc (zMT.getD 100 zyD) (fun α => zA_vRII_N 10 f_Script_ruleAt)) (h1 : zSnd l HB b L xs aK aV G tc (zMT.getD 16 zyD) (fun α => zA_vRI_I 11 f_Cl_refuse)) (h2 : zSnd l HB b L xs aK aV G tc (zMT.getD 197 zyD) (fun α => zA_vRII_I 1 f_Carrier_servedBy)) (h3 : zSnd l HB b L xs aK aV G tc (zMT.getD 59 zyD) (fun α => zA_vRI_I 11 f_Cl_answer)) : zSnd l HB b L xs aK aV G tc (zMT.getD 198 zyD) (fun α => zA_vRII_I 11 f_Cl_served) := by
  rw [show zMT.getD 198 zyD = (yX11_served, cX11_served, 3, (some .int), 0, 3, 2, 44) from rfl]
  intro α as S k res h
  unfold zA_vRII_I at h
  dsimp only at h
  split at h
  · rename_i a0 a1 a2
    obtain ⟨p, hp, h⟩ := zbind h
    unfold zcl at hp
    split at hp
    · rename_i hkd
      have hm := zmeth (l := l) (HB := HB) (b := b) (L := L) (xs := xs) (aK := aK) (aV := aV) (G := G) (tc := tc) (q := (yX11_served, cX11_served, 3, (some .int), 0, 3, 2, 44)) (o := 11) (cs := [100, 16, 197, 59]) (rz := false) (T := zP_Cl_served) (E := zE_Cl_served (Int32 × zM)) (kr := zkI) (res := p) (v0 := some (.int p.1)) (S0 := p.2) (as := [.ref a0, .int a1, .int a2]) (S := S) zMT_fine (by decide +kernel) (fun i as S k' h => by
        unfold zE_Cl_served at h
        rcases zdisf h with ⟨rfl, h⟩ | h
        · exact h0 _ _ _ _ _ h
        rcases zdisf h with ⟨rfl, h⟩ | h
        · exact h1 _ _ _ _ _ h
        rcases zdisf h with ⟨rfl, h⟩ | h
        · exact h2 _ _ _ _ _ h
        rcases zdisf h with ⟨rfl, h⟩ | h
        · exact h3 _ _ _ _ _ h
        cases h) ok_Cl_served rfl (fun v S' h => zkI_inv h) (Nat.le_of_ble_eq_true rfl) (fun g H Hw => Hw _ [some (.ref a0), some (.int a1), some (.int a2)] _ _ _ ⟨rfl, rfl, rfl, trivial⟩ (G_Cl_served H Hw a0 a1 a2 S hp))
      exact ⟨_, _, h, hm.1, rfl, fun _ => ⟨_, _, rfl⟩, (fun _ U H hK hH a r e => by cases e; exact zrecv (ci := 11) (by omega) hkd rfl U H hK hH), hm.2⟩
    · cases hp
  · cases h
def zP_Mo_served : List (List (Nat × zE)) := [[(0, e1 (.aload_n 0) 1 0), (1, e3 (.invokevirtual 272) 4 0 1 0), (4, e1 (.aload_n 0) 5 0), (5, e3 (.getfield 297) 8 12 48 1), (8, e1 (.ifCond .eq 26) 11 34), (11, e1 (.aload_n 0) 12 0), (12, e1 (.iload_n 1) 13 1), (13, e1 (.iload_n 2) 14 2), (14, e3 (.invokevirtual 315) 17 1 3 0)],
  [(17, e1 (.ifCond .eq 17) 20 34), (20, e1 (.aload_n 0) 21 0), (21, e3 (.getfield 91) 24 12 51 2), (24, ei (.bipush 8) 26 0 (8)), (26, e1 (.iload_n 1) 27 1), (27, e0 (.imul) 28), (28, e1 (.iload_n 2) 29 2), (29, e0 (.iadd) 30), (30, e0 (.iaload) 31), (31, e1 (.goto 8) 34 39)],
  [(34, e1 (.aload_n 0) 35 0), (35, ei (.iconst 1) 36 0 (1)), (36, e3 (.invokevirtual 275) 39 2 2 0), (39, e0 (.ireturn) 40)]]
noncomputable def zE_Mo_served (α : Type) : Nat → zX α := fun i => bif Nat.beq i 0 then zA_vR_V 12 f_Mo_fresh else bif Nat.beq i 1 then zA_vRII_I 12 f_Mo_isRule else bif Nat.beq i 2 then zA_vRI_I 12 f_Mo_no else fun _ _ _ => none
def zc_Mo_served : Nat → Bool := fun pc => false
set_option maxRecDepth 100000 in
theorem r_Mo_served (a0 : Nat) (a1 : Int32) (a2 : Int32) (S : zM) : f_Mo_served a0 a1 a2 S = zrt false zP_Mo_served (zE_Mo_served (Int32 × zM)) zc_Mo_served zkI (fun pc lv st S => none) 1000 0 [some (.ref a0), some (.int a1), some (.int a2)] [] S := rfl
theorem G_Mo_served {g : zV → Nat → List Value → zM → Prop} {res : (Int32 × zM)} (H : zCl false zP_Mo_served (zE_Mo_served (Int32 × zM)) zkI res g) (Hw : zWk g) (a0 : Nat) (a1 : Int32) (a2 : Int32) (S : zM) (h : f_Mo_served a0 a1 a2 S = some res) : g [some (.ref a0), some (.int a1), some (.int a2)] 0 [] S := by
  refine H zc_Mo_served _ 1000 _ _ _ _ ((r_Mo_served a0 a1 a2 S).symm.trans h) (fun pc lv st S hK => ?_)
  cases hK
set_option maxRecDepth 100000 in
theorem ok_Mo_served : zokT 12 [61, 106, 63] false 3 65 3 false (some .int) cX12_served zP_Mo_served = true := by decide +kernel
set_option maxRecDepth 100000 in
theorem s_Mo_served {l : Launch} {HB : Heap} {b L : Nat} {xs : Nat → Int32} {aK aV : Nat → Nat} {G : va_G} {tc : Nat → ClassId} (h0 : zSnd l HB b L xs aK aV G tc (zMT.getD 61 zyD) (fun α => zA_vR_V 12 f_Mo_fresh)) (h1 : zSnd l HB b L xs aK aV G tc (zMT.getD 106 zyD) (fun α => zA_vRII_I 12 f_Mo_isRule)) (h2 : zSnd l HB b L xs aK aV G tc (zMT.getD 63 zyD) (fun α => zA_vRI_I 12 f_Mo_no)) : zSnd l HB b L xs aK aV G tc (zMT.getD 199 zyD) (fun α => zA_vRII_I 12 f_Mo_served) := by
  rw [show zMT.getD 199 zyD = (yX12_served, cX12_served, 3, (some .int), 0, 3, 3, 65) from rfl]
  intro α as S k res h
  unfold zA_vRII_I at h
  dsimp only at h
  split at h
  · rename_i a0 a1 a2
    obtain ⟨p, hp, h⟩ := zbind h
    unfold zcl at hp
    split at hp
    · rename_i hkd
      have hm := zmeth (l := l) (HB := HB) (b := b) (L := L) (xs := xs) (aK := aK) (aV := aV) (G := G) (tc := tc) (q := (yX12_served, cX12_served, 3, (some .int), 0, 3, 3, 65)) (o := 12) (cs := [61, 106, 63]) (rz := false) (T := zP_Mo_served) (E := zE_Mo_served (Int32 × zM)) (kr := zkI) (res := p) (v0 := some (.int p.1)) (S0 := p.2) (as := [.ref a0, .int a1, .int a2]) (S := S) zMT_fine (by decide +kernel) (fun i as S k' h => by
        unfold zE_Mo_served at h
        rcases zdisf h with ⟨rfl, h⟩ | h
        · exact h0 _ _ _ _ _ h
        rcases zdisf h with ⟨rfl, h⟩ | h
        · exact h1 _ _ _ _ _ h
        rcases zdisf h with ⟨rfl, h⟩ | h
        · exact h2 _ _ _ _ _ h
        cases h) ok_Mo_served rfl (fun v S' h => zkI_inv h) (Nat.le_of_ble_eq_true rfl) (fun g H Hw => Hw _ [some (.ref a0), some (.int a1), some (.int a2)] _ _ _ ⟨rfl, rfl, rfl, trivial⟩ (G_Mo_served H Hw a0 a1 a2 S hp))
      exact ⟨_, _, h, hm.1, rfl, fun _ => ⟨_, _, rfl⟩, (fun _ U H hK hH a r e => by cases e; exact zrecv (ci := 12) (by omega) hkd rfl U H hK hH), hm.2⟩
    · cases hp
  · cases h
def zP_Row_changesTo : List (List (Nat × zE)) := [[(0, e1 (.aload_n 1) 1 1), (1, e3 (.getfield 15) 4 8 1 0), (4, e1 (.aload_n 2) 5 2), (5, e0 (.arraylength) 6), (6, e1 (.if_icmp .lt 5) 9 11), (9, ei (.iconst (-1)) 10 0 (-1)), (10, e0 (.ireturn) 11), (11, ei (.iconst 0) 12 0 (0)), (12, e1 (.istore_n 3) 13 3), (13, e1 (.iload_n 3) 14 3), (14, e1 (.aload_n 1) 15 1), (15, e3 (.getfield 15) 18 8 1 0)],
  [(18, e1 (.if_icmp .gt 13) 21 31), (21, e1 (.aload_n 2) 22 2), (22, e1 (.iload_n 3) 23 3), (23, e1 (.iload_n 3) 24 3), (24, e0 (.iastore) 25), (25, ei (.iinc 3 1) 28 3 (1)), (28, e1 (.goto (-15)) 31 13), (31, ei (.iconst 0) 32 0 (0))],
  [(32, e1 (.istore_n 3) 33 3), (33, e1 (.iload_n 3) 34 3), (34, e1 (.aload_n 0) 35 0), (35, e3 (.getfield 15) 38 8 1 0), (38, e1 (.if_icmp .ge 92) 41 130), (41, e1 (.aload_n 2) 42 2), (42, ei (.iconst 0) 43 0 (0)), (43, e0 (.iaload) 44), (44, e1 (.istore 4) 46 4), (46, e1 (.aload_n 2) 47 2), (47, ei (.iconst 0) 48 0 (0))],
  [(48, e1 (.iload_n 3) 49 3), (49, ei (.iconst 1) 50 0 (1)), (50, e0 (.iadd) 51), (51, e0 (.iastore) 52), (52, ei (.iconst 0) 53 0 (0)), (53, e1 (.istore 5) 55 5), (55, e1 (.iload 5) 57 5), (57, e1 (.aload_n 1) 58 1), (58, e3 (.getfield 15) 61 8 1 0), (61, e1 (.if_icmp .ge 63) 64 124)],
  [(64, e1 (.iload 4) 66 4), (66, e1 (.aload_n 0) 67 0), (67, e1 (.iload_n 3) 68 3), (68, e3 (.invokevirtual 32) 71 0 2 0), (71, e1 (.aload_n 1) 72 1), (72, e1 (.iload 5) 74 5), (74, e3 (.invokevirtual 32) 77 0 2 0), (77, e1 (.if_icmp .ne 7) 80 84)],
  [(80, ei (.iconst 0) 81 0 (0)), (81, e1 (.goto 4) 84 85), (84, ei (.iconst 1) 85 0 (1)), (85, e0 (.iadd) 86), (86, e1 (.istore 6) 88 6), (88, e1 (.aload_n 2) 89 2), (89, e1 (.iload 5) 91 5), (91, ei (.iconst 1) 92 0 (1)), (92, e0 (.iadd) 93), (93, e0 (.iaload) 94), (94, e1 (.istore 4) 96 4)],
  [(96, e1 (.aload_n 2) 97 2), (97, e1 (.iload 5) 99 5), (99, ei (.iconst 1) 100 0 (1)), (100, e0 (.iadd) 101), (101, e1 (.iload 6) 103 6), (103, e1 (.iload 4) 105 4), (105, e1 (.aload_n 2) 106 2), (106, e1 (.iload 5) 108 5), (108, e0 (.iaload) 109), (109, e3 (.invokestatic 44) 112 996 2 0)],
  [(112, ei (.iconst 1) 113 0 (1)), (113, e0 (.iadd) 114), (114, e3 (.invokestatic 44) 117 996 2 0), (117, e0 (.iastore) 118), (118, ei (.iinc 5 1) 121 5 (1)), (121, e1 (.goto (-66)) 124 55), (124, ei (.iinc 3 1) 127 3 (1)), (127, e1 (.goto (-94)) 130 33)],
  [(130, e1 (.aload_n 2) 131 2), (131, e1 (.aload_n 1) 132 1), (132, e3 (.getfield 15) 135 8 1 0), (135, e0 (.iaload) 136), (136, e0 (.ireturn) 137)]]
noncomputable def zE_Row_changesTo (α : Type) : Nat → zX α := fun i => bif Nat.beq i 0 then zA_vRI_I 8 f_Row_at else fun _ _ _ => none
def zc_Row_changesTo : Nat → Bool := fun pc => Nat.beq pc 13 || Nat.beq pc 31 || Nat.beq pc 33 || Nat.beq pc 55 || Nat.beq pc 124
def D_Row_changesTo_13 (k : Nat → Nat → Nat → Int32 → zM → Option (Int32 × zM)) (lv : zV) (st : List Value) (S : zM) : Option (Int32 × zM) := match lv, st with
  | [some (.ref a0), some (.ref a1), some (.ref a2), some (.int a3), _, _, _], [] => k a0 a1 a2 a3 S
  | _, _ => none
theorem d_Row_changesTo_13 {g : zV → Nat → List Value → zM → Prop} (Hw : zWk g) {k : Nat → Nat → Nat → Int32 → zM → Option (Int32 × zM)} {res : (Int32 × zM)} {lv : zV} {st : List Value} {S : zM} (h : D_Row_changesTo_13 k lv st S = some res) (hk : ∀ a0 a1 a2 a3 S, k a0 a1 a2 a3 S = some res → g [some (.ref a0), some (.ref a1), some (.ref a2), some (.int a3), none, none, none] 13 [] S) : g lv 13 st S := by
  unfold D_Row_changesTo_13 at h
  split at h
  · exact Hw _ _ _ _ _ (by simp [zle]) (hk _ _ _ _ _  h)
  · cases h
def D_Row_changesTo_31 (k : Nat → Nat → Nat → zM → Option (Int32 × zM)) (lv : zV) (st : List Value) (S : zM) : Option (Int32 × zM) := match lv, st with
  | [some (.ref a0), some (.ref a1), some (.ref a2), _, _, _, _], [] => k a0 a1 a2 S
  | _, _ => none
theorem d_Row_changesTo_31 {g : zV → Nat → List Value → zM → Prop} (Hw : zWk g) {k : Nat → Nat → Nat → zM → Option (Int32 × zM)} {res : (Int32 × zM)} {lv : zV} {st : List Value} {S : zM} (h : D_Row_changesTo_31 k lv st S = some res) (hk : ∀ a0 a1 a2 S, k a0 a1 a2 S = some res → g [some (.ref a0), some (.ref a1), some (.ref a2), none, none, none, none] 31 [] S) : g lv 31 st S := by
  unfold D_Row_changesTo_31 at h
  split at h
  · exact Hw _ _ _ _ _ (by simp [zle]) (hk _ _ _ _  h)
  · cases h
def D_Row_changesTo_33 (k : Nat → Nat → Nat → Int32 → zM → Option (Int32 × zM)) (lv : zV) (st : List Value) (S : zM) : Option (Int32 × zM) := match lv, st with
  | [some (.ref a0), some (.ref a1), some (.ref a2), some (.int a3), _, _, _], [] => k a0 a1 a2 a3 S
  | _, _ => none
theorem d_Row_changesTo_33 {g : zV → Nat → List Value → zM → Prop} (Hw : zWk g) {k : Nat → Nat → Nat → Int32 → zM → Option (Int32 × zM)} {res : (Int32 × zM)} {lv : zV} {st : List Value} {S : zM} (h : D_Row_changesTo_33 k lv st S = some res) (hk : ∀ a0 a1 a2 a3 S, k a0 a1 a2 a3 S = some res → g [some (.ref a0), some (.ref a1), some (.ref a2), some (.int a3), none, none, none] 33 [] S) : g lv 33 st S := by
  unfold D_Row_changesTo_33 at h
  split at h
  · exact Hw _ _ _ _ _ (by simp [zle]) (hk _ _ _ _ _  h)
  · cases h
def D_Row_changesTo_55 (k : Nat → Nat → Nat → Int32 → Int32 → Int32 → zM → Option (Int32 × zM)) (lv : zV) (st : List Value) (S : zM) : Option (Int32 × zM) := match lv, st with
  | [some (.ref a0), some (.ref a1), some (.ref a2), some (.int a3), some (.int a4), some (.int a5), _], [] => k a0 a1 a2 a3 a4 a5 S
  | _, _ => none
theorem d_Row_changesTo_55 {g : zV → Nat → List Value → zM → Prop} (Hw : zWk g) {k : Nat → Nat → Nat → Int32 → Int32 → Int32 → zM → Option (Int32 × zM)} {res : (Int32 × zM)} {lv : zV} {st : List Value} {S : zM} (h : D_Row_changesTo_55 k lv st S = some res) (hk : ∀ a0 a1 a2 a3 a4 a5 S, k a0 a1 a2 a3 a4 a5 S = some res → g [some (.ref a0), some (.ref a1), some (.ref a2), some (.int a3), some (.int a4), some (.int a5), none] 55 [] S) : g lv 55 st S := by
  unfold D_Row_changesTo_55 at h
  split at h
  · exact Hw _ _ _ _ _ (by simp [zle]) (hk _ _ _ _ _ _ _  h)
  · cases h
def D_Row_changesTo_124 (k : Nat → Nat → Nat → Int32 → zM → Option (Int32 × zM)) (lv : zV) (st : List Value) (S : zM) : Option (Int32 × zM) := match lv, st with
  | [some (.ref a0), some (.ref a1), some (.ref a2), some (.int a3), _, _, _], [] => k a0 a1 a2 a3 S
  | _, _ => none
theorem d_Row_changesTo_124 {g : zV → Nat → List Value → zM → Prop} (Hw : zWk g) {k : Nat → Nat → Nat → Int32 → zM → Option (Int32 × zM)} {res : (Int32 × zM)} {lv : zV} {st : List Value} {S : zM} (h : D_Row_changesTo_124 k lv st S = some res) (hk : ∀ a0 a1 a2 a3 S, k a0 a1 a2 a3 S = some res → g [some (.ref a0), some (.ref a1), some (.ref a2), some (.int a3), none, none, none] 124 [] S) : g lv 124 st S := by
  unfold D_Row_changesTo_124 at h
  split at h
  · exact Hw _ _ _ _ _ (by simp [zle]) (hk _ _ _ _ _  h)
  · cases h
set_option maxRecDepth 100000 in
theorem r_Row_changesTo_124 (k33 : Nat → Nat → Nat → Int32 → zM → Option (Int32 × zM)) (a0 : Nat) (a1 : Nat) (a2 : Nat) (a3 : Int32) (S : zM) : F_Row_changesTo_124 k33 a0 a1 a2 a3 S = zrt false zP_Row_changesTo (zE_Row_changesTo (Int32 × zM)) zc_Row_changesTo zkI (fun pc lv st S => bif Nat.beq pc 33 then D_Row_changesTo_33 k33 lv st S else none) 1000 124 [some (.ref a0), some (.ref a1), some (.ref a2), some (.int a3), none, none, none] [] S := rfl
theorem g_Row_changesTo_124 {g : zV → Nat → List Value → zM → Prop} {res : (Int32 × zM)} (H : zCl false zP_Row_changesTo (zE_Row_changesTo (Int32 × zM)) zkI res g) (Hw : zWk g) {k33 : Nat → Nat → Nat → Int32 → zM → Option (Int32 × zM)} (hk33 : ∀ a0 a1 a2 a3 S, k33 a0 a1 a2 a3 S = some res → g [some (.ref a0), some (.ref a1), some (.ref a2), some (.int a3), none, none, none] 33 [] S) (a0 : Nat) (a1 : Nat) (a2 : Nat) (a3 : Int32) (S : zM) (h : F_Row_changesTo_124 k33 a0 a1 a2 a3 S = some res) : g [some (.ref a0), some (.ref a1), some (.ref a2), some (.int a3), none, none, none] 124 [] S := by
  refine H zc_Row_changesTo _ 1000 _ _ _ _ ((r_Row_changesTo_124 k33 a0 a1 a2 a3 S).symm.trans h) (fun pc lv st S hK => ?_)
  rcases zdis hK with ⟨rfl, hK⟩ | hK
  · exact d_Row_changesTo_33 Hw hK hk33
  cases hK
set_option maxRecDepth 100000 in
theorem r_Row_changesTo_55 (k124 : Nat → Nat → Nat → Int32 → zM → Option (Int32 × zM)) (n : Nat) (a0 : Nat) (a1 : Nat) (a2 : Nat) (a3 : Int32) (a4 : Int32) (a5 : Int32) (S : zM) : L_Row_changesTo_55 k124 (n + 1) a0 a1 a2 a3 a4 a5 S = zrt false zP_Row_changesTo (zE_Row_changesTo (Int32 × zM)) zc_Row_changesTo zkI (fun pc lv st S => bif Nat.beq pc 55 then D_Row_changesTo_55 (L_Row_changesTo_55 k124 n) lv st S else bif Nat.beq pc 124 then D_Row_changesTo_124 k124 lv st S else none) 1000 55 [some (.ref a0), some (.ref a1), some (.ref a2), some (.int a3), some (.int a4), some (.int a5), none] [] S := rfl
theorem g_Row_changesTo_55 {g : zV → Nat → List Value → zM → Prop} {res : (Int32 × zM)} (H : zCl false zP_Row_changesTo (zE_Row_changesTo (Int32 × zM)) zkI res g) (Hw : zWk g) {k124 : Nat → Nat → Nat → Int32 → zM → Option (Int32 × zM)} (hk124 : ∀ a0 a1 a2 a3 S, k124 a0 a1 a2 a3 S = some res → g [some (.ref a0), some (.ref a1), some (.ref a2), some (.int a3), none, none, none] 124 [] S) (n : Nat) : ∀ (a0 : Nat) (a1 : Nat) (a2 : Nat) (a3 : Int32) (a4 : Int32) (a5 : Int32) (S : zM), L_Row_changesTo_55 k124 n a0 a1 a2 a3 a4 a5 S = some res → g [some (.ref a0), some (.ref a1), some (.ref a2), some (.int a3), some (.int a4), some (.int a5), none] 55 [] S := by
  induction n with
  | zero => intro a0 a1 a2 a3 a4 a5 S h; cases h
  | succ n ih =>
    intro a0 a1 a2 a3 a4 a5 S h
    refine H zc_Row_changesTo _ 1000 _ _ _ _ ((r_Row_changesTo_55 k124 n a0 a1 a2 a3 a4 a5 S).symm.trans h) (fun pc lv st S hK => ?_)
    rcases zdis hK with ⟨rfl, hK⟩ | hK
    · exact d_Row_changesTo_55 Hw hK ih
    rcases zdis hK with ⟨rfl, hK⟩ | hK
    · exact d_Row_changesTo_124 Hw hK hk124
    cases hK
set_option maxRecDepth 100000 in
theorem r_Row_changesTo_33 (n : Nat) (a0 : Nat) (a1 : Nat) (a2 : Nat) (a3 : Int32) (S : zM) : L_Row_changesTo_33 (n + 1) a0 a1 a2 a3 S = zrt false zP_Row_changesTo (zE_Row_changesTo (Int32 × zM)) zc_Row_changesTo zkI (fun pc lv st S => bif Nat.beq pc 55 then D_Row_changesTo_55 (L_Row_changesTo_55 (F_Row_changesTo_124 (L_Row_changesTo_33 n)) zF) lv st S else none) 1000 33 [some (.ref a0), some (.ref a1), some (.ref a2), some (.int a3), none, none, none] [] S := rfl
theorem g_Row_changesTo_33 {g : zV → Nat → List Value → zM → Prop} {res : (Int32 × zM)} (H : zCl false zP_Row_changesTo (zE_Row_changesTo (Int32 × zM)) zkI res g) (Hw : zWk g) (n : Nat) : ∀ (a0 : Nat) (a1 : Nat) (a2 : Nat) (a3 : Int32) (S : zM), L_Row_changesTo_33 n a0 a1 a2 a3 S = some res → g [some (.ref a0), some (.ref a1), some (.ref a2), some (.int a3), none, none, none] 33 [] S := by
  induction n with
  | zero => intro a0 a1 a2 a3 S h; cases h
  | succ n ih =>
    intro a0 a1 a2 a3 S h
    refine H zc_Row_changesTo _ 1000 _ _ _ _ ((r_Row_changesTo_33 n a0 a1 a2 a3 S).symm.trans h) (fun pc lv st S hK => ?_)
    rcases zdis hK with ⟨rfl, hK⟩ | hK
    · exact d_Row_changesTo_55 Hw hK (g_Row_changesTo_55 H Hw (g_Row_changesTo_124 H Hw ih) zF)
    cases hK
set_option maxRecDepth 100000 in
theorem r_Row_changesTo_31 (k33 : Nat → Nat → Nat → Int32 → zM → Option (Int32 × zM)) (a0 : Nat) (a1 : Nat) (a2 : Nat) (S : zM) : F_Row_changesTo_31 k33 a0 a1 a2 S = zrt false zP_Row_changesTo (zE_Row_changesTo (Int32 × zM)) zc_Row_changesTo zkI (fun pc lv st S => bif Nat.beq pc 33 then D_Row_changesTo_33 k33 lv st S else none) 1000 31 [some (.ref a0), some (.ref a1), some (.ref a2), none, none, none, none] [] S := rfl
theorem g_Row_changesTo_31 {g : zV → Nat → List Value → zM → Prop} {res : (Int32 × zM)} (H : zCl false zP_Row_changesTo (zE_Row_changesTo (Int32 × zM)) zkI res g) (Hw : zWk g) {k33 : Nat → Nat → Nat → Int32 → zM → Option (Int32 × zM)} (hk33 : ∀ a0 a1 a2 a3 S, k33 a0 a1 a2 a3 S = some res → g [some (.ref a0), some (.ref a1), some (.ref a2), some (.int a3), none, none, none] 33 [] S) (a0 : Nat) (a1 : Nat) (a2 : Nat) (S : zM) (h : F_Row_changesTo_31 k33 a0 a1 a2 S = some res) : g [some (.ref a0), some (.ref a1), some (.ref a2), none, none, none, none] 31 [] S := by
  refine H zc_Row_changesTo _ 1000 _ _ _ _ ((r_Row_changesTo_31 k33 a0 a1 a2 S).symm.trans h) (fun pc lv st S hK => ?_)
  rcases zdis hK with ⟨rfl, hK⟩ | hK
  · exact d_Row_changesTo_33 Hw hK hk33
  cases hK
set_option maxRecDepth 100000 in
theorem r_Row_changesTo_13 (k31 : Nat → Nat → Nat → zM → Option (Int32 × zM)) (n : Nat) (a0 : Nat) (a1 : Nat) (a2 : Nat) (a3 : Int32) (S : zM) : L_Row_changesTo_13 k31 (n + 1) a0 a1 a2 a3 S = zrt false zP_Row_changesTo (zE_Row_changesTo (Int32 × zM)) zc_Row_changesTo zkI (fun pc lv st S => bif Nat.beq pc 13 then D_Row_changesTo_13 (L_Row_changesTo_13 k31 n) lv st S else bif Nat.beq pc 31 then D_Row_changesTo_31 k31 lv st S else none) 1000 13 [some (.ref a0), some (.ref a1), some (.ref a2), some (.int a3), none, none, none] [] S := rfl
theorem g_Row_changesTo_13 {g : zV → Nat → List Value → zM → Prop} {res : (Int32 × zM)} (H : zCl false zP_Row_changesTo (zE_Row_changesTo (Int32 × zM)) zkI res g) (Hw : zWk g) {k31 : Nat → Nat → Nat → zM → Option (Int32 × zM)} (hk31 : ∀ a0 a1 a2 S, k31 a0 a1 a2 S = some res → g [some (.ref a0), some (.ref a1), some (.ref a2), none, none, none, none] 31 [] S) (n : Nat) : ∀ (a0 : Nat) (a1 : Nat) (a2 : Nat) (a3 : Int32) (S : zM), L_Row_changesTo_13 k31 n a0 a1 a2 a3 S = some res → g [some (.ref a0), some (.ref a1), some (.ref a2), some (.int a3), none, none, none] 13 [] S := by
  induction n with
  | zero => intro a0 a1 a2 a3 S h; cases h
  | succ n ih =>
    intro a0 a1 a2 a3 S h
    refine H zc_Row_changesTo _ 1000 _ _ _ _ ((r_Row_changesTo_13 k31 n a0 a1 a2 a3 S).symm.trans h) (fun pc lv st S hK => ?_)
    rcases zdis hK with ⟨rfl, hK⟩ | hK
    · exact d_Row_changesTo_13 Hw hK ih
    rcases zdis hK with ⟨rfl, hK⟩ | hK
    · exact d_Row_changesTo_31 Hw hK hk31
    cases hK
set_option maxRecDepth 100000 in
theorem r_Row_changesTo (a0 : Nat) (a1 : Nat) (a2 : Nat) (S : zM) : f_Row_changesTo a0 a1 a2 S = zrt false zP_Row_changesTo (zE_Row_changesTo (Int32 × zM)) zc_Row_changesTo zkI (fun pc lv st S => bif Nat.beq pc 13 then D_Row_changesTo_13 (L_Row_changesTo_13 (F_Row_changesTo_31 (L_Row_changesTo_33 zF)) zF) lv st S else none) 1000 0 [some (.ref a0), some (.ref a1), some (.ref a2), none, none, none, none] [] S := rfl
theorem G_Row_changesTo {g : zV → Nat → List Value → zM → Prop} {res : (Int32 × zM)} (H : zCl false zP_Row_changesTo (zE_Row_changesTo (Int32 × zM)) zkI res g) (Hw : zWk g) (a0 : Nat) (a1 : Nat) (a2 : Nat) (S : zM) (h : f_Row_changesTo a0 a1 a2 S = some res) : g [some (.ref a0), some (.ref a1), some (.ref a2), none, none, none, none] 0 [] S := by
  refine H zc_Row_changesTo _ 1000 _ _ _ _ ((r_Row_changesTo a0 a1 a2 S).symm.trans h) (fun pc lv st S hK => ?_)
  rcases zdis hK with ⟨rfl, hK⟩ | hK
  · exact d_Row_changesTo_13 Hw hK (g_Row_changesTo_13 H Hw (g_Row_changesTo_31 H Hw (g_Row_changesTo_33 H Hw  zF)) zF)
  cases hK
set_option maxRecDepth 100000 in
theorem ok_Row_changesTo : zokT 8 [50] false 1 21 7 false (some .int) cX8_changesTo zP_Row_changesTo = true := by decide +kernel
set_option maxRecDepth 100000 in
theorem s_Row_changesTo {l : Launch} {HB : Heap} {b L : Nat} {xs : Nat → Int32} {aK aV : Nat → Nat} {G : va_G} {tc : Nat → ClassId} (h0 : zSnd l HB b L xs aK aV G tc (zMT.getD 50 zyD) (fun α => zA_vRI_I 8 f_Row_at)) : zSnd l HB b L xs aK aV G tc (zMT.getD 200 zyD) (fun α => zA_vRRR_I 8 f_Row_changesTo) := by
  rw [show zMT.getD 200 zyD = (yX8_changesTo, cX8_changesTo, 7, (some .int), 0, 3, 1, 21) from rfl]
  intro α as S k res h
  unfold zA_vRRR_I at h
  dsimp only at h
  split at h
  · rename_i a0 a1 a2
    obtain ⟨p, hp, h⟩ := zbind h
    unfold zcl at hp
    split at hp
    · rename_i hkd
      have hm := zmeth (l := l) (HB := HB) (b := b) (L := L) (xs := xs) (aK := aK) (aV := aV) (G := G) (tc := tc) (q := (yX8_changesTo, cX8_changesTo, 7, (some .int), 0, 3, 1, 21)) (o := 8) (cs := [50]) (rz := false) (T := zP_Row_changesTo) (E := zE_Row_changesTo (Int32 × zM)) (kr := zkI) (res := p) (v0 := some (.int p.1)) (S0 := p.2) (as := [.ref a0, .ref a1, .ref a2]) (S := S) zMT_fine (by decide +kernel) (fun i as S k' h => by
        unfold zE_Row_changesTo at h
        rcases zdisf h with ⟨rfl, h⟩ | h
        · exact h0 _ _ _ _ _ h
        cases h) ok_Row_changesTo rfl (fun v S' h => zkI_inv h) (Nat.le_of_ble_eq_true rfl) (fun g H Hw => Hw _ [some (.ref a0), some (.ref a1), some (.ref a2), none, none, none, none] _ _ _ ⟨rfl, rfl, rfl, trivial⟩ (G_Row_changesTo H Hw a0 a1 a2 S hp))
      exact ⟨_, _, h, hm.1, rfl, fun _ => ⟨_, _, rfl⟩, (fun _ U H hK hH a r e => by cases e; exact zrecv (ci := 8) (by omega) hkd rfl U H hK hH), hm.2⟩
    · cases hp
  · cases h
def zP_Cl_apart : List (List (Nat × zE)) := [[(0, e1 (.aload_n 0) 1 0), (1, e3 (.invokevirtual 115) 4 0 1 0), (4, e1 (.ifCond .eq 9) 7 13), (7, e1 (.aload_n 0) 8 0), (8, ei (.iconst 1) 9 0 (1)), (9, e3 (.invokevirtual 79) 12 1 2 0), (12, e0 (.ireturn) 13), (13, e1 (.aload_n 0) 14 0), (14, e3 (.getfield 35) 17 11 4 2)],
  [(17, e1 (.lload_n 1) 18 1), (18, e3 (.invokevirtual 211) 21 2 2 0), (21, e1 (.ifCond .eq 14) 24 35), (24, e1 (.aload_n 0) 25 0), (25, e3 (.getfield 39) 28 11 5 2), (28, e1 (.lload_n 3) 29 3), (29, e3 (.invokevirtual 211) 32 2 2 0)],
  [(32, e1 (.ifCond .ne 9) 35 41), (35, e1 (.aload_n 0) 36 0), (36, ei (.iconst 2) 37 0 (2)), (37, e3 (.invokevirtual 79) 40 1 2 0), (40, e0 (.ireturn) 41), (41, e1 (.aload_n 0) 42 0), (42, e3 (.getfield 27) 45 11 3 2), (45, e1 (.aload_n 0) 46 0), (46, e3 (.getfield 65) 49 11 10 2)],
  [(49, e1 (.aload_n 0) 50 0), (50, e3 (.getfield 35) 53 11 4 2), (53, ei (.iconst 0) 54 0 (0)), (54, e3 (.invokevirtual 226) 57 3 4 0), (57, e1 (.istore 5) 59 5), (59, e1 (.iload 5) 61 5), (61, e1 (.ifCond .eq 10) 64 71)],
  [(64, e1 (.aload_n 0) 65 0), (65, e1 (.iload 5) 67 5), (67, e3 (.invokevirtual 79) 70 1 2 0), (70, e0 (.ireturn) 71), (71, e1 (.aload_n 0) 72 0), (72, e3 (.getfield 42) 75 11 6 2), (75, e1 (.aload_n 0) 76 0), (76, e3 (.getfield 27) 79 11 3 2), (79, e3 (.getfield 230) 82 1 3 2)],
  [(82, e3 (.invokevirtual 246) 85 4 2 0), (85, e1 (.aload_n 0) 86 0), (86, e3 (.getfield 27) 89 11 3 2), (89, e1 (.aload_n 0) 90 0), (90, e3 (.getfield 65) 93 11 10 2), (93, e1 (.aload_n 0) 94 0), (94, e3 (.getfield 39) 97 11 5 2)],
  [(97, ei (.iconst 0) 98 0 (0)), (98, e3 (.invokevirtual 226) 101 3 4 0), (101, e1 (.istore 5) 103 5), (103, e1 (.iload 5) 105 5), (105, e1 (.ifCond .eq 10) 108 115), (108, e1 (.aload_n 0) 109 0), (109, e1 (.iload 5) 111 5), (111, e3 (.invokevirtual 79) 114 1 2 0)],
  [(114, e0 (.ireturn) 115), (115, e1 (.aload_n 0) 116 0), (116, e1 (.aload_n 0) 117 0), (117, e3 (.getfield 42) 120 11 6 2), (120, e1 (.aload_n 0) 121 0), (121, e3 (.getfield 27) 124 11 3 2), (124, e3 (.getfield 230) 127 1 3 2), (127, e1 (.aload_n 0) 128 0)],
  [(128, e3 (.getfield 45) 131 11 7 2), (131, e3 (.invokevirtual 250) 134 5 3 0), (134, e3 (.invokevirtual 109) 137 6 2 0), (137, e0 (.ireturn) 138)]]
noncomputable def zE_Cl_apart (α : Type) : Nat → zX α := fun i => bif Nat.beq i 0 then zA_vR_I 11 f_Cl_noScript else bif Nat.beq i 1 then zA_vRI_I 11 f_Cl_refuse else bif Nat.beq i 2 then zA_vRJ_I 8 f_Row_takeWord else bif Nat.beq i 3 then zA_vRRRI_I 1 f_Carrier_bring else bif Nat.beq i 4 then zA_vRR_V 8 f_Row_copy else bif Nat.beq i 5 then zA_vRRR_I 8 f_Row_changesTo else bif Nat.beq i 6 then zA_vRI_I 11 f_Cl_answer else fun _ _ _ => none
def zc_Cl_apart : Nat → Bool := fun pc => false
set_option maxRecDepth 100000 in
theorem r_Cl_apart (a0 : Nat) (a1 : Int64) (a3 : Int64) (S : zM) : f_Cl_apart a0 a1 a3 S = zrt false zP_Cl_apart (zE_Cl_apart (Int32 × zM)) zc_Cl_apart zkI (fun pc lv st S => none) 1000 0 [some (.ref a0), some (.long a1), none, some (.long a3), none, none] [] S := rfl
theorem G_Cl_apart {g : zV → Nat → List Value → zM → Prop} {res : (Int32 × zM)} (H : zCl false zP_Cl_apart (zE_Cl_apart (Int32 × zM)) zkI res g) (Hw : zWk g) (a0 : Nat) (a1 : Int64) (a3 : Int64) (S : zM) (h : f_Cl_apart a0 a1 a3 S = some res) : g [some (.ref a0), some (.long a1), none, some (.long a3), none, none] 0 [] S := by
  refine H zc_Cl_apart _ 1000 _ _ _ _ ((r_Cl_apart a0 a1 a3 S).symm.trans h) (fun pc lv st S hK => ?_)
  cases hK
set_option maxRecDepth 100000 in
theorem ok_Cl_apart : zokT 11 [87, 16, 149, 175, 166, 200, 59] false 5 166 6 false (some .int) cX11_apart zP_Cl_apart = true := by decide +kernel
set_option maxRecDepth 100000 in
theorem s_Cl_apart {l : Launch} {HB : Heap} {b L : Nat} {xs : Nat → Int32} {aK aV : Nat → Nat} {G : va_G} {tc : Nat → ClassId} (h0 : zSnd l HB b L xs aK aV G tc (zMT.getD 87 zyD) (fun α => zA_vR_I 11 f_Cl_noScript)) (h1 : zSnd l HB b L xs aK aV G tc (zMT.getD 16 zyD) (fun α => zA_vRI_I 11 f_Cl_refuse)) (h2 : zSnd l HB b L xs aK aV G tc (zMT.getD 149 zyD) (fun α => zA_vRJ_I 8 f_Row_takeWord)) (h3 : zSnd l HB b L xs aK aV G tc (zMT.getD 175 zyD) (fun α => zA_vRRRI_I 1 f_Carrier_bring)) (h4 : zSnd l HB b L xs aK aV G tc (zMT.getD 166 zyD) (fun α => zA_vRR_V 8 f_Row_copy)) (h5 : zSnd l HB b L xs aK aV G tc (zMT.getD 200 zyD) (fun α => zA_vRRR_I 8 f_Row_changesTo)) (h6 : zSnd l HB b L xs aK aV G tc (zMT.getD 59 zyD) (fun α => zA_vRI_I 11 f_Cl_answer)) : zSnd l HB b L xs aK aV G tc (zMT.getD 201 zyD) (fun α => zA_vRJJ_I 11 f_Cl_apart) := by
  rw [show zMT.getD 201 zyD = (yX11_apart, cX11_apart, 6, (some .int), 0, 3, 5, 166) from rfl]
  intro α as S k res h
  unfold zA_vRJJ_I at h
  dsimp only at h
  split at h
  · rename_i a0 a1 a3
    obtain ⟨p, hp, h⟩ := zbind h
    unfold zcl at hp
    split at hp
    · rename_i hkd
      have hm := zmeth (l := l) (HB := HB) (b := b) (L := L) (xs := xs) (aK := aK) (aV := aV) (G := G) (tc := tc) (q := (yX11_apart, cX11_apart, 6, (some .int), 0, 3, 5, 166)) (o := 11) (cs := [87, 16, 149, 175, 166, 200, 59]) (rz := false) (T := zP_Cl_apart) (E := zE_Cl_apart (Int32 × zM)) (kr := zkI) (res := p) (v0 := some (.int p.1)) (S0 := p.2) (as := [.ref a0, .long a1, .long a3]) (S := S) zMT_fine (by decide +kernel) (fun i as S k' h => by
        unfold zE_Cl_apart at h
        rcases zdisf h with ⟨rfl, h⟩ | h
        · exact h0 _ _ _ _ _ h
        rcases zdisf h with ⟨rfl, h⟩ | h
        · exact h1 _ _ _ _ _ h
        rcases zdisf h with ⟨rfl, h⟩ | h
        · exact h2 _ _ _ _ _ h
        rcases zdisf h with ⟨rfl, h⟩ | h
        · exact h3 _ _ _ _ _ h
        rcases zdisf h with ⟨rfl, h⟩ | h
        · exact h4 _ _ _ _ _ h
        rcases zdisf h with ⟨rfl, h⟩ | h
        · exact h5 _ _ _ _ _ h
        rcases zdisf h with ⟨rfl, h⟩ | h
        · exact h6 _ _ _ _ _ h
        cases h) ok_Cl_apart rfl (fun v S' h => zkI_inv h) (Nat.le_of_ble_eq_true rfl) (fun g H Hw => Hw _ [some (.ref a0), some (.long a1), none, some (.long a3), none, none] _ _ _ ⟨rfl, rfl, rfl, trivial⟩ (G_Cl_apart H Hw a0 a1 a3 S hp))
      exact ⟨_, _, h, hm.1, rfl, fun _ => ⟨_, _, rfl⟩, (fun _ U H hK hH a r e => by cases e; exact zrecv (ci := 11) (by omega) hkd rfl U H hK hH), hm.2⟩
    · cases hp
  · cases h
