def zP_Reader_ruleLine : List (List (Nat × zE)) := [[(0, e1 (.aload_n 0) 1 0), (1, e3 (.getfield 35) 4 7 4 3), (4, e1 (.ifnonnull 6) 7 10), (7, ei (.bipush 6) 9 0 (6)), (9, e0 (.ireturn) 10), (10, e1 (.aload_n 0) 11 0), (11, e3 (.getfield 35) 14 7 4 2), (14, e3 (.invokevirtual 142) 17 0 1 0)],
  [(17, e1 (.astore_n 1) 18 1), (18, e1 (.aload_n 1) 19 1), (19, e1 (.ifnonnull 5) 22 24), (22, ei (.iconst 5) 23 0 (5)), (23, e0 (.ireturn) 24), (24, e1 (.aload_n 0) 25 0), (25, e3 (.invokevirtual 44) 28 1 1 0), (28, e1 (.aload_n 0) 29 0), (29, e3 (.ldc 146) 31 1 7 0), (31, e3 (.invokevirtual 68) 34 2 2 0)],
  [(34, e1 (.ifCond .eq 28) 37 62), (37, e1 (.aload_n 0) 38 0), (38, e3 (.invokevirtual 44) 41 1 1 0), (41, e1 (.aload_n 1) 42 1), (42, e1 (.aload_n 0) 43 0), (43, e3 (.invokevirtual 148) 46 3 1 0), (46, e3 (.putfield 151) 49 9 2 0)],
  [(49, e1 (.aload_n 1) 50 1), (50, e3 (.getfield 151) 53 9 2 0), (53, e1 (.ifCond .ge 9) 56 62), (56, e1 (.aload_n 1) 57 1), (57, e3 (.getfield 151) 60 9 2 0), (60, e0 (.ineg) 61), (61, e0 (.ireturn) 62), (62, e1 (.aload_n 0) 63 0), (63, e1 (.aload_n 1) 64 1)],
  [(64, e3 (.getfield 156) 67 9 0 2), (67, ei (.iconst 3) 68 0 (3)), (68, e3 (.invokevirtual 160) 71 4 3 0), (71, e1 (.istore_n 2) 72 2), (72, e1 (.iload_n 2) 73 2), (73, e1 (.ifCond .eq 5) 76 78), (76, e1 (.iload_n 2) 77 2), (77, e0 (.ireturn) 78), (78, e1 (.aload_n 0) 79 0), (79, e3 (.ldc 164) 81 1 8 0)],
  [(81, e3 (.invokevirtual 68) 84 2 2 0), (84, e1 (.ifCond .eq 28) 87 112), (87, e1 (.aload_n 0) 88 0), (88, e3 (.invokevirtual 44) 91 1 1 0), (91, e1 (.aload_n 1) 92 1), (92, e1 (.aload_n 0) 93 0), (93, e3 (.invokevirtual 148) 96 3 1 0)],
  [(96, e3 (.putfield 166) 99 9 3 0), (99, e1 (.aload_n 1) 100 1), (100, e3 (.getfield 166) 103 9 3 0), (103, e1 (.ifCond .ge 9) 106 112), (106, e1 (.aload_n 1) 107 1), (107, e3 (.getfield 166) 110 9 3 0), (110, e0 (.ineg) 111), (111, e0 (.ireturn) 112)],
  [(112, e1 (.aload_n 0) 113 0), (113, e1 (.aload_n 1) 114 1), (114, e3 (.invokevirtual 169) 117 5 2 0), (117, e0 (.ireturn) 118)]]
noncomputable def zE_Reader_ruleLine (α : Type) : Nat → zX α := fun i => bif Nat.beq i 0 then zA_vR_N 5 f_Pass_addRule else bif Nat.beq i 1 then zA_vR_V 7 f_Reader_next else bif Nat.beq i 2 then zA_vRR_I 7 f_Reader_is else bif Nat.beq i 3 then zA_vR_I 7 f_Reader_sideBits else bif Nat.beq i 4 then zA_vRRI_I 7 f_Reader_lettersInto else bif Nat.beq i 5 then zA_vRR_I 7 f_Reader_outcomeFault else fun _ _ _ => none
def zc_Reader_ruleLine : Nat → Bool := fun pc => false
set_option maxRecDepth 100000 in
theorem r_Reader_ruleLine (a0 : Nat) (S : zM) : f_Reader_ruleLine a0 S = zrt false zP_Reader_ruleLine (zE_Reader_ruleLine (Int32 × zM)) zc_Reader_ruleLine zkI (fun pc lv st S => none) 1000 0 [some (.ref a0), none, none] [] S := rfl
theorem G_Reader_ruleLine {g : zV → Nat → List Value → zM → Prop} {res : (Int32 × zM)} (H : zCl false zP_Reader_ruleLine (zE_Reader_ruleLine (Int32 × zM)) zkI res g) (Hw : zWk g) (a0 : Nat) (S : zM) (h : f_Reader_ruleLine a0 S = some res) : g [some (.ref a0), none, none] 0 [] S := by
  refine H zc_Reader_ruleLine _ 1000 _ _ _ _ ((r_Reader_ruleLine a0 S).symm.trans h) (fun pc lv st S hK => ?_)
  cases hK
set_option maxRecDepth 100000 in
theorem ok_Reader_ruleLine : zokT 7 [38, 19, 23, 39, 40, 41] false 8 214 3 false (some .int) cX7_ruleLine zP_Reader_ruleLine = true := by decide +kernel
set_option maxRecDepth 100000 in
theorem s_Reader_ruleLine {l : Launch} {HB : Heap} {b L : Nat} {xs : Nat → Int32} {aK aV : Nat → Nat} {G : va_G} {tc : Nat → ClassId} (h0 : zSnd l HB b L xs aK aV G tc (zMT.getD 38 zyD) (fun α => zA_vR_N 5 f_Pass_addRule)) (h1 : zSnd l HB b L xs aK aV G tc (zMT.getD 19 zyD) (fun α => zA_vR_V 7 f_Reader_next)) (h2 : zSnd l HB b L xs aK aV G tc (zMT.getD 23 zyD) (fun α => zA_vRR_I 7 f_Reader_is)) (h3 : zSnd l HB b L xs aK aV G tc (zMT.getD 39 zyD) (fun α => zA_vR_I 7 f_Reader_sideBits)) (h4 : zSnd l HB b L xs aK aV G tc (zMT.getD 40 zyD) (fun α => zA_vRRI_I 7 f_Reader_lettersInto)) (h5 : zSnd l HB b L xs aK aV G tc (zMT.getD 41 zyD) (fun α => zA_vRR_I 7 f_Reader_outcomeFault)) : zSnd l HB b L xs aK aV G tc (zMT.getD 42 zyD) (fun α => zA_vR_I 7 f_Reader_ruleLine) := by
  rw [show zMT.getD 42 zyD = (yX7_ruleLine, cX7_ruleLine, 3, (some .int), 0, 1, 8, 214) from rfl]
  intro α as S k res h
  unfold zA_vR_I at h
  dsimp only at h
  split at h
  · rename_i a0
    obtain ⟨p, hp, h⟩ := zbind h
    unfold zcl at hp
    split at hp
    · rename_i hkd
      have hm := zmeth (l := l) (HB := HB) (b := b) (L := L) (xs := xs) (aK := aK) (aV := aV) (G := G) (tc := tc) (q := (yX7_ruleLine, cX7_ruleLine, 3, (some .int), 0, 1, 8, 214)) (o := 7) (cs := [38, 19, 23, 39, 40, 41]) (rz := false) (T := zP_Reader_ruleLine) (E := zE_Reader_ruleLine (Int32 × zM)) (kr := zkI) (res := p) (v0 := some (.int p.1)) (S0 := p.2) (as := [.ref a0]) (S := S) zMT_fine (by decide +kernel) (fun i as S k' h => by
        unfold zE_Reader_ruleLine at h
        rcases zdisf h with ⟨rfl, h⟩ | h
        · exact h0 _ _ _ _ _ h
        rcases zdisf h with ⟨rfl, h⟩ | h
        · exact h1 _ _ _ _ _ h
        rcases zdisf h with ⟨rfl, h⟩ | h
        · exact h2 _ _ _ _ _ h
        rcases zdisf h with ⟨rfl, h⟩ | h
        · exact h3 _ _ _ _ _ h
        rcases zdisf h with ⟨rfl, h⟩ | h
        · exact h4 _ _ _ _ _ h
        rcases zdisf h with ⟨rfl, h⟩ | h
        · exact h5 _ _ _ _ _ h
        cases h) ok_Reader_ruleLine rfl (fun v S' h => zkI_inv h) (Nat.le_of_ble_eq_true rfl) (fun g H Hw => Hw _ [some (.ref a0), none, none] _ _ _ ⟨rfl, trivial⟩ (G_Reader_ruleLine H Hw a0 S hp))
      exact ⟨_, _, h, hm.1, rfl, fun _ => ⟨_, _, rfl⟩, (fun _ U H hK hH a r e => by cases e; exact zrecv (ci := 7) (by omega) hkd rfl U H hK hH), hm.2⟩
    · cases hp
  · cases h
def zP_Reader_line : List (List (Nat × zE)) := [[(0, e1 (.aload_n 0) 1 0), (1, e3 (.ldc 67) 3 1 0 0), (3, e3 (.invokevirtual 68) 6 0 2 0), (6, e1 (.ifCond .eq 16) 9 22), (9, e1 (.iload_n 1) 10 1), (10, e1 (.ifCond .eq 10) 13 20), (13, e1 (.aload_n 0) 14 0), (14, e3 (.invokevirtual 72) 17 1 1 0)],
  [(17, e1 (.goto 4) 20 21), (20, ei (.iconst 3) 21 0 (3)), (21, e0 (.ireturn) 22), (22, e1 (.aload_n 0) 23 0), (23, e3 (.ldc 75) 25 1 1 0), (25, e3 (.invokevirtual 68) 28 0 2 0), (28, e1 (.ifCond .eq 17) 31 45), (31, e1 (.iload_n 1) 32 1)],
  [(32, e1 (.ifCond .eq 8) 35 40), (35, ei (.bipush 6) 37 0 (6)), (37, e1 (.goto 7) 40 44), (40, e1 (.aload_n 0) 41 0), (41, e3 (.invokevirtual 77) 44 2 1 0), (44, e0 (.ireturn) 45), (45, e1 (.aload_n 0) 46 0), (46, e3 (.ldc 80) 48 1 2 0)],
  [(48, e3 (.invokevirtual 68) 51 0 2 0), (51, e1 (.ifCond .eq 17) 54 68), (54, e1 (.iload_n 1) 55 1), (55, e1 (.ifCond .eq 8) 58 63), (58, ei (.bipush 6) 60 0 (6)), (60, e1 (.goto 7) 63 67), (63, e1 (.aload_n 0) 64 0)],
  [(64, e3 (.invokevirtual 81) 67 3 1 0), (67, e0 (.ireturn) 68), (68, e1 (.aload_n 0) 69 0), (69, e3 (.ldc 84) 71 1 3 0), (71, e3 (.invokevirtual 68) 74 0 2 0), (74, e1 (.ifCond .eq 17) 77 91), (77, e1 (.iload_n 1) 78 1), (78, e1 (.ifCond .eq 8) 81 86)],
  [(81, ei (.bipush 6) 83 0 (6)), (83, e1 (.goto 7) 86 90), (86, e1 (.aload_n 0) 87 0), (87, e3 (.invokevirtual 86) 90 4 1 0), (90, e0 (.ireturn) 91), (91, ei (.iconst 1) 92 0 (1)), (92, e0 (.ireturn) 93)]]
noncomputable def zE_Reader_line (α : Type) : Nat → zX α := fun i => bif Nat.beq i 0 then zA_vRR_I 7 f_Reader_is else bif Nat.beq i 1 then zA_vR_I 7 f_Reader_scriptLine else bif Nat.beq i 2 then zA_vR_I 7 f_Reader_kindLine else bif Nat.beq i 3 then zA_vR_I 7 f_Reader_passLine else bif Nat.beq i 4 then zA_vR_I 7 f_Reader_ruleLine else fun _ _ _ => none
def zc_Reader_line : Nat → Bool := fun pc => false
set_option maxRecDepth 100000 in
theorem r_Reader_line (a0 : Nat) (a1 : Int32) (S : zM) : f_Reader_line a0 a1 S = zrt false zP_Reader_line (zE_Reader_line (Int32 × zM)) zc_Reader_line zkI (fun pc lv st S => none) 1000 0 [some (.ref a0), some (.int a1)] [] S := rfl
theorem G_Reader_line {g : zV → Nat → List Value → zM → Prop} {res : (Int32 × zM)} (H : zCl false zP_Reader_line (zE_Reader_line (Int32 × zM)) zkI res g) (Hw : zWk g) (a0 : Nat) (a1 : Int32) (S : zM) (h : f_Reader_line a0 a1 S = some res) : g [some (.ref a0), some (.int a1)] 0 [] S := by
  refine H zc_Reader_line _ 1000 _ _ _ _ ((r_Reader_line a0 a1 S).symm.trans h) (fun pc lv st S hK => ?_)
  cases hK
set_option maxRecDepth 100000 in
theorem ok_Reader_line : zokT 7 [23, 24, 32, 35, 42] false 9 236 2 false (some .int) cX7_line zP_Reader_line = true := by decide +kernel
set_option maxRecDepth 100000 in
theorem s_Reader_line {l : Launch} {HB : Heap} {b L : Nat} {xs : Nat → Int32} {aK aV : Nat → Nat} {G : va_G} {tc : Nat → ClassId} (h0 : zSnd l HB b L xs aK aV G tc (zMT.getD 23 zyD) (fun α => zA_vRR_I 7 f_Reader_is)) (h1 : zSnd l HB b L xs aK aV G tc (zMT.getD 24 zyD) (fun α => zA_vR_I 7 f_Reader_scriptLine)) (h2 : zSnd l HB b L xs aK aV G tc (zMT.getD 32 zyD) (fun α => zA_vR_I 7 f_Reader_kindLine)) (h3 : zSnd l HB b L xs aK aV G tc (zMT.getD 35 zyD) (fun α => zA_vR_I 7 f_Reader_passLine)) (h4 : zSnd l HB b L xs aK aV G tc (zMT.getD 42 zyD) (fun α => zA_vR_I 7 f_Reader_ruleLine)) : zSnd l HB b L xs aK aV G tc (zMT.getD 43 zyD) (fun α => zA_vRI_I 7 f_Reader_line) := by
  rw [show zMT.getD 43 zyD = (yX7_line, cX7_line, 2, (some .int), 0, 2, 9, 236) from rfl]
  intro α as S k res h
  unfold zA_vRI_I at h
  dsimp only at h
  split at h
  · rename_i a0 a1
    obtain ⟨p, hp, h⟩ := zbind h
    unfold zcl at hp
    split at hp
    · rename_i hkd
      have hm := zmeth (l := l) (HB := HB) (b := b) (L := L) (xs := xs) (aK := aK) (aV := aV) (G := G) (tc := tc) (q := (yX7_line, cX7_line, 2, (some .int), 0, 2, 9, 236)) (o := 7) (cs := [23, 24, 32, 35, 42]) (rz := false) (T := zP_Reader_line) (E := zE_Reader_line (Int32 × zM)) (kr := zkI) (res := p) (v0 := some (.int p.1)) (S0 := p.2) (as := [.ref a0, .int a1]) (S := S) zMT_fine (by decide +kernel) (fun i as S k' h => by
        unfold zE_Reader_line at h
        rcases zdisf h with ⟨rfl, h⟩ | h
        · exact h0 _ _ _ _ _ h
        rcases zdisf h with ⟨rfl, h⟩ | h
        · exact h1 _ _ _ _ _ h
        rcases zdisf h with ⟨rfl, h⟩ | h
        · exact h2 _ _ _ _ _ h
        rcases zdisf h with ⟨rfl, h⟩ | h
        · exact h3 _ _ _ _ _ h
        rcases zdisf h with ⟨rfl, h⟩ | h
        · exact h4 _ _ _ _ _ h
        cases h) ok_Reader_line rfl (fun v S' h => zkI_inv h) (Nat.le_of_ble_eq_true rfl) (fun g H Hw => Hw _ [some (.ref a0), some (.int a1)] _ _ _ ⟨rfl, rfl, trivial⟩ (G_Reader_line H Hw a0 a1 S hp))
      exact ⟨_, _, h, hm.1, rfl, fun _ => ⟨_, _, rfl⟩, (fun _ U H hK hH a r e => by cases e; exact zrecv (ci := 7) (by omega) hkd rfl U H hK hH), hm.2⟩
    · cases hp
  · cases h
def zP_Script_passAt : List (List (Nat × zE)) := [[(0, e1 (.iload_n 1) 1 1), (1, e1 (.ifCond .lt 16) 4 17), (4, e1 (.iload_n 1) 5 1), (5, e1 (.aload_n 0) 6 0), (6, e3 (.getfield 33) 9 10 5 0), (9, e1 (.if_icmp .ge 8) 12 17), (12, e1 (.iload_n 1) 13 1), (13, ei (.iconst 3) 14 0 (3)), (14, e1 (.if_icmp .lt 7) 17 21)],
  [(17, e0 (.aconst_null) 18), (18, e1 (.goto 9) 21 27), (21, e1 (.aload_n 0) 22 0), (22, e3 (.getfield 21) 25 10 2 2), (25, e1 (.iload_n 1) 26 1), (26, e3 (.aaload) 27 5 0 3), (27, e0 (.areturn) 28)]]
noncomputable def zE_Script_passAt (α : Type) : Nat → zX α := fun _ => fun _ _ _ => none
def zc_Script_passAt : Nat → Bool := fun pc => false
set_option maxRecDepth 100000 in
theorem r_Script_passAt (a0 : Nat) (a1 : Int32) (S : zM) : f_Script_passAt a0 a1 S = zrt false zP_Script_passAt (zE_Script_passAt (Option Nat × zM)) zc_Script_passAt zkN (fun pc lv st S => none) 1000 0 [some (.ref a0), some (.int a1)] [] S := rfl
theorem G_Script_passAt {g : zV → Nat → List Value → zM → Prop} {res : (Option Nat × zM)} (H : zCl false zP_Script_passAt (zE_Script_passAt (Option Nat × zM)) zkN res g) (Hw : zWk g) (a0 : Nat) (a1 : Int32) (S : zM) (h : f_Script_passAt a0 a1 S = some res) : g [some (.ref a0), some (.int a1)] 0 [] S := by
  refine H zc_Script_passAt _ 1000 _ _ _ _ ((r_Script_passAt a0 a1 S).symm.trans h) (fun pc lv st S hK => ?_)
  cases hK
set_option maxRecDepth 100000 in
theorem ok_Script_passAt : zokT 10 [] false 0 0 2 false (some (.object "CarriedLetters$Pass")) cX10_passAt zP_Script_passAt = true := by decide +kernel
set_option maxRecDepth 100000 in
theorem s_Script_passAt {l : Launch} {HB : Heap} {b L : Nat} {xs : Nat → Int32} {aK aV : Nat → Nat} {G : va_G} {tc : Nat → ClassId} : zSnd l HB b L xs aK aV G tc (zMT.getD 44 zyD) (fun α => zA_vRI_N 10 f_Script_passAt) := by
  rw [show zMT.getD 44 zyD = (yX10_passAt, cX10_passAt, 2, (some (.object "CarriedLetters$Pass")), 0, 2, 0, 0) from rfl]
  intro α as S k res h
  unfold zA_vRI_N at h
  dsimp only at h
  split at h
  · rename_i a0 a1
    obtain ⟨p, hp, h⟩ := zbind h
    unfold zcl at hp
    split at hp
    · rename_i hkd
      have hm := zmeth (l := l) (HB := HB) (b := b) (L := L) (xs := xs) (aK := aK) (aV := aV) (G := G) (tc := tc) (q := (yX10_passAt, cX10_passAt, 2, (some (.object "CarriedLetters$Pass")), 0, 2, 0, 0)) (o := 10) (cs := []) (rz := false) (T := zP_Script_passAt) (E := zE_Script_passAt (Option Nat × zM)) (kr := zkN) (res := p) (v0 := some (match p.1 with | some a => .ref a | none => .null)) (S0 := p.2) (as := [.ref a0, .int a1]) (S := S) zMT_fine (by decide +kernel) (fun i as S k' h => by
        unfold zE_Script_passAt at h
        cases h) ok_Script_passAt rfl (fun v S' h => zkN_inv h) (Nat.le_of_ble_eq_true rfl) (fun g H Hw => Hw _ [some (.ref a0), some (.int a1)] _ _ _ ⟨rfl, rfl, trivial⟩ (G_Script_passAt H Hw a0 a1 S hp))
      exact ⟨_, _, (by cases hq : p.1 <;> rw [hq] at h <;> exact h), hm.1, rfl, fun _ => ⟨_, _, rfl⟩, (fun _ U H hK hH a r e => by cases e; exact zrecv (ci := 10) (by omega) hkd rfl U H hK hH), hm.2⟩
    · cases hp
  · cases h
def zP_Script_ruleCount : List (List (Nat × zE)) := [[(0, ei (.iconst 0) 1 0 (0)), (1, e1 (.istore_n 1) 2 1), (2, ei (.iconst 0) 3 0 (0)), (3, e1 (.istore_n 2) 4 2), (4, e1 (.iload_n 2) 5 2), (5, e1 (.aload_n 0) 6 0), (6, e3 (.getfield 33) 9 10 5 0), (9, e1 (.if_icmp .ge 30) 12 39), (12, e1 (.aload_n 0) 13 0), (13, e1 (.iload_n 2) 14 2), (14, e3 (.invokevirtual 39) 17 0 2 0)],
  [(17, e1 (.astore_n 3) 18 3), (18, e1 (.iload_n 1) 19 1), (19, e1 (.aload_n 3) 20 3), (20, e1 (.ifnonnull 7) 23 27), (23, ei (.iconst 0) 24 0 (0)), (24, e1 (.goto 7) 27 31), (27, e1 (.aload_n 3) 28 3), (28, e3 (.getfield 47) 31 5 3 0), (31, e0 (.iadd) 32)],
  [(32, e1 (.istore_n 1) 33 1), (33, ei (.iinc 2 1) 36 2 (1)), (36, e1 (.goto (-32)) 39 4), (39, e1 (.iload_n 1) 40 1), (40, e0 (.ireturn) 41)]]
noncomputable def zE_Script_ruleCount (α : Type) : Nat → zX α := fun i => bif Nat.beq i 0 then zA_vRI_N 10 f_Script_passAt else fun _ _ _ => none
def zc_Script_ruleCount : Nat → Bool := fun pc => Nat.beq pc 4
def D_Script_ruleCount_4 (k : Nat → Int32 → Int32 → zM → Option (Int32 × zM)) (lv : zV) (st : List Value) (S : zM) : Option (Int32 × zM) := match lv, st with
  | [some (.ref a0), some (.int a1), some (.int a2), _], [] => k a0 a1 a2 S
  | _, _ => none
theorem d_Script_ruleCount_4 {g : zV → Nat → List Value → zM → Prop} (Hw : zWk g) {k : Nat → Int32 → Int32 → zM → Option (Int32 × zM)} {res : (Int32 × zM)} {lv : zV} {st : List Value} {S : zM} (h : D_Script_ruleCount_4 k lv st S = some res) (hk : ∀ a0 a1 a2 S, k a0 a1 a2 S = some res → g [some (.ref a0), some (.int a1), some (.int a2), none] 4 [] S) : g lv 4 st S := by
  unfold D_Script_ruleCount_4 at h
  split at h
  · exact Hw _ _ _ _ _ (by simp [zle]) (hk _ _ _ _  h)
  · cases h
set_option maxRecDepth 100000 in
theorem r_Script_ruleCount_4 (n : Nat) (a0 : Nat) (a1 : Int32) (a2 : Int32) (S : zM) : L_Script_ruleCount_4 (n + 1) a0 a1 a2 S = zrt false zP_Script_ruleCount (zE_Script_ruleCount (Int32 × zM)) zc_Script_ruleCount zkI (fun pc lv st S => bif Nat.beq pc 4 then D_Script_ruleCount_4 (L_Script_ruleCount_4 n) lv st S else none) 1000 4 [some (.ref a0), some (.int a1), some (.int a2), none] [] S := rfl
theorem g_Script_ruleCount_4 {g : zV → Nat → List Value → zM → Prop} {res : (Int32 × zM)} (H : zCl false zP_Script_ruleCount (zE_Script_ruleCount (Int32 × zM)) zkI res g) (Hw : zWk g) (n : Nat) : ∀ (a0 : Nat) (a1 : Int32) (a2 : Int32) (S : zM), L_Script_ruleCount_4 n a0 a1 a2 S = some res → g [some (.ref a0), some (.int a1), some (.int a2), none] 4 [] S := by
  induction n with
  | zero => intro a0 a1 a2 S h; cases h
  | succ n ih =>
    intro a0 a1 a2 S h
    refine H zc_Script_ruleCount _ 1000 _ _ _ _ ((r_Script_ruleCount_4 n a0 a1 a2 S).symm.trans h) (fun pc lv st S hK => ?_)
    rcases zdis hK with ⟨rfl, hK⟩ | hK
    · exact d_Script_ruleCount_4 Hw hK ih
    cases hK
set_option maxRecDepth 100000 in
theorem r_Script_ruleCount (a0 : Nat) (S : zM) : f_Script_ruleCount a0 S = zrt false zP_Script_ruleCount (zE_Script_ruleCount (Int32 × zM)) zc_Script_ruleCount zkI (fun pc lv st S => bif Nat.beq pc 4 then D_Script_ruleCount_4 (L_Script_ruleCount_4 zF) lv st S else none) 1000 0 [some (.ref a0), none, none, none] [] S := rfl
theorem G_Script_ruleCount {g : zV → Nat → List Value → zM → Prop} {res : (Int32 × zM)} (H : zCl false zP_Script_ruleCount (zE_Script_ruleCount (Int32 × zM)) zkI res g) (Hw : zWk g) (a0 : Nat) (S : zM) (h : f_Script_ruleCount a0 S = some res) : g [some (.ref a0), none, none, none] 0 [] S := by
  refine H zc_Script_ruleCount _ 1000 _ _ _ _ ((r_Script_ruleCount a0 S).symm.trans h) (fun pc lv st S hK => ?_)
  rcases zdis hK with ⟨rfl, hK⟩ | hK
  · exact d_Script_ruleCount_4 Hw hK (g_Script_ruleCount_4 H Hw  zF)
  cases hK
set_option maxRecDepth 100000 in
theorem ok_Script_ruleCount : zokT 10 [44] false 1 21 4 false (some .int) cX10_ruleCount zP_Script_ruleCount = true := by decide +kernel
set_option maxRecDepth 100000 in
theorem s_Script_ruleCount {l : Launch} {HB : Heap} {b L : Nat} {xs : Nat → Int32} {aK aV : Nat → Nat} {G : va_G} {tc : Nat → ClassId} (h0 : zSnd l HB b L xs aK aV G tc (zMT.getD 44 zyD) (fun α => zA_vRI_N 10 f_Script_passAt)) : zSnd l HB b L xs aK aV G tc (zMT.getD 45 zyD) (fun α => zA_vR_I 10 f_Script_ruleCount) := by
  rw [show zMT.getD 45 zyD = (yX10_ruleCount, cX10_ruleCount, 4, (some .int), 0, 1, 1, 21) from rfl]
  intro α as S k res h
  unfold zA_vR_I at h
  dsimp only at h
  split at h
  · rename_i a0
    obtain ⟨p, hp, h⟩ := zbind h
    unfold zcl at hp
    split at hp
    · rename_i hkd
      have hm := zmeth (l := l) (HB := HB) (b := b) (L := L) (xs := xs) (aK := aK) (aV := aV) (G := G) (tc := tc) (q := (yX10_ruleCount, cX10_ruleCount, 4, (some .int), 0, 1, 1, 21)) (o := 10) (cs := [44]) (rz := false) (T := zP_Script_ruleCount) (E := zE_Script_ruleCount (Int32 × zM)) (kr := zkI) (res := p) (v0 := some (.int p.1)) (S0 := p.2) (as := [.ref a0]) (S := S) zMT_fine (by decide +kernel) (fun i as S k' h => by
        unfold zE_Script_ruleCount at h
        rcases zdisf h with ⟨rfl, h⟩ | h
        · exact h0 _ _ _ _ _ h
        cases h) ok_Script_ruleCount rfl (fun v S' h => zkI_inv h) (Nat.le_of_ble_eq_true rfl) (fun g H Hw => Hw _ [some (.ref a0), none, none, none] _ _ _ ⟨rfl, trivial⟩ (G_Script_ruleCount H Hw a0 S hp))
      exact ⟨_, _, h, hm.1, rfl, fun _ => ⟨_, _, rfl⟩, (fun _ U H hK hH a r e => by cases e; exact zrecv (ci := 10) (by omega) hkd rfl U H hK hH), hm.2⟩
    · cases hp
  · cases h
def zP_J_fill : List (List (Nat × zE)) := [[(0, ei (.iconst 0) 1 0 (0)), (1, e1 (.istore_n 2) 2 2), (2, e1 (.aload_n 0) 3 0), (3, e0 (.arraylength) 4), (4, e1 (.istore_n 3) 5 3), (5, e1 (.iload_n 2) 6 2), (6, e1 (.iload_n 3) 7 3), (7, e1 (.if_icmp .ge 13) 10 20), (10, e1 (.aload_n 0) 11 0), (11, e1 (.iload_n 2) 12 2), (12, e1 (.iload_n 1) 13 1), (13, e0 (.iastore) 14), (14, ei (.iinc 2 1) 17 2 (1))],
  [(17, e1 (.goto (-12)) 20 5), (20, e0 (.return_) 21)]]
noncomputable def zE_J_fill (α : Type) : Nat → zX α := fun _ => fun _ _ _ => none
def zc_J_fill : Nat → Bool := fun pc => Nat.beq pc 5
def D_J_fill_5 (k : Nat → Int32 → Int32 → Int32 → zM → Option zM) (lv : zV) (st : List Value) (S : zM) : Option zM := match lv, st with
  | [some (.ref a0), some (.int a1), some (.int a2), some (.int a3)], [] => k a0 a1 a2 a3 S
  | _, _ => none
theorem d_J_fill_5 {g : zV → Nat → List Value → zM → Prop} (Hw : zWk g) {k : Nat → Int32 → Int32 → Int32 → zM → Option zM} {res : zM} {lv : zV} {st : List Value} {S : zM} (h : D_J_fill_5 k lv st S = some res) (hk : ∀ a0 a1 a2 a3 S, k a0 a1 a2 a3 S = some res → g [some (.ref a0), some (.int a1), some (.int a2), some (.int a3)] 5 [] S) : g lv 5 st S := by
  unfold D_J_fill_5 at h
  split at h
  · exact Hw _ _ _ _ _ (by simp [zle]) (hk _ _ _ _ _  h)
  · cases h
set_option maxRecDepth 100000 in
theorem r_J_fill_5 (n : Nat) (a0 : Nat) (a1 : Int32) (a2 : Int32) (a3 : Int32) (S : zM) : L_J_fill_5 (n + 1) a0 a1 a2 a3 S = zrt false zP_J_fill (zE_J_fill zM) zc_J_fill zkV (fun pc lv st S => bif Nat.beq pc 5 then D_J_fill_5 (L_J_fill_5 n) lv st S else none) 1000 5 [some (.ref a0), some (.int a1), some (.int a2), some (.int a3)] [] S := rfl
theorem g_J_fill_5 {g : zV → Nat → List Value → zM → Prop} {res : zM} (H : zCl false zP_J_fill (zE_J_fill zM) zkV res g) (Hw : zWk g) (n : Nat) : ∀ (a0 : Nat) (a1 : Int32) (a2 : Int32) (a3 : Int32) (S : zM), L_J_fill_5 n a0 a1 a2 a3 S = some res → g [some (.ref a0), some (.int a1), some (.int a2), some (.int a3)] 5 [] S := by
  induction n with
  | zero => intro a0 a1 a2 a3 S h; cases h
  | succ n ih =>
    intro a0 a1 a2 a3 S h
    refine H zc_J_fill _ 1000 _ _ _ _ ((r_J_fill_5 n a0 a1 a2 a3 S).symm.trans h) (fun pc lv st S hK => ?_)
    rcases zdis hK with ⟨rfl, hK⟩ | hK
    · exact d_J_fill_5 Hw hK ih
    cases hK
set_option maxRecDepth 100000 in
theorem r_J_fill (a0 : Nat) (a1 : Int32) (S : zM) : f_J_fill a0 a1 S = zrt false zP_J_fill (zE_J_fill zM) zc_J_fill zkV (fun pc lv st S => bif Nat.beq pc 5 then D_J_fill_5 (L_J_fill_5 zF) lv st S else none) 1000 0 [some (.ref a0), some (.int a1), none, none] [] S := rfl
theorem G_J_fill {g : zV → Nat → List Value → zM → Prop} {res : zM} (H : zCl false zP_J_fill (zE_J_fill zM) zkV res g) (Hw : zWk g) (a0 : Nat) (a1 : Int32) (S : zM) (h : f_J_fill a0 a1 S = some res) : g [some (.ref a0), some (.int a1), none, none] 0 [] S := by
  refine H zc_J_fill _ 1000 _ _ _ _ ((r_J_fill a0 a1 S).symm.trans h) (fun pc lv st S hK => ?_)
  rcases zdis hK with ⟨rfl, hK⟩ | hK
  · exact d_J_fill_5 Hw hK (g_J_fill_5 H Hw  zF)
  cases hK
set_option maxRecDepth 100000 in
theorem ok_J_fill : zokT 16 [] false 0 0 4 false none cJ7_fill_53178 zP_J_fill = true := by decide +kernel
set_option maxRecDepth 100000 in
theorem s_J_fill {l : Launch} {HB : Heap} {b L : Nat} {xs : Nat → Int32} {aK aV : Nat → Nat} {G : va_G} {tc : Nat → ClassId} : zSnd l HB b L xs aK aV G tc (zMT.getD 46 zyD) (fun α => zA_RI_V f_J_fill) := by
  rw [show zMT.getD 46 zyD = (yJ7_fill_53178, cJ7_fill_53178, 4, none, 1, 2, 0, 0) from rfl]
  intro α as S k res h
  unfold zA_RI_V at h
  dsimp only at h
  split at h
  · rename_i a0 a1
    obtain ⟨p, hp, h⟩ := zbind h
    have hm := zmeth (l := l) (HB := HB) (b := b) (L := L) (xs := xs) (aK := aK) (aV := aV) (G := G) (tc := tc) (q := (yJ7_fill_53178, cJ7_fill_53178, 4, none, 1, 2, 0, 0)) (o := 16) (cs := []) (rz := false) (T := zP_J_fill) (E := zE_J_fill zM) (kr := zkV) (res := p) (v0 := none) (S0 := p) (as := [.ref a0, .int a1]) (S := S) zMT_fine (by decide +kernel) (fun i as S k' h => by
      unfold zE_J_fill at h
      cases h) ok_J_fill rfl (fun v S' h => zkV_inv h) (Nat.le_of_ble_eq_true rfl) (fun g H Hw => Hw _ [some (.ref a0), some (.int a1), none, none] _ _ _ ⟨rfl, rfl, trivial⟩ (G_J_fill H Hw a0 a1 S hp))
    exact ⟨_, _, h, hm.1, rfl, fun q => absurd rfl q, (fun q => by cases q), hm.2⟩
  · cases h
def zP_Pass_ruleAt : List (List (Nat × zE)) := [[(0, e1 (.iload_n 1) 1 1), (1, e1 (.ifCond .lt 17) 4 18), (4, e1 (.iload_n 1) 5 1), (5, e1 (.aload_n 0) 6 0), (6, e3 (.getfield 28) 9 5 3 0), (9, e1 (.if_icmp .ge 9) 12 18), (12, e1 (.iload_n 1) 13 1), (13, ei (.bipush 8) 15 0 (8)), (15, e1 (.if_icmp .lt 7) 18 22)],
  [(18, e0 (.aconst_null) 19), (19, e1 (.goto 9) 22 28), (22, e1 (.aload_n 0) 23 0), (23, e3 (.getfield 11) 26 5 0 2), (26, e1 (.iload_n 1) 27 1), (27, e3 (.aaload) 28 9 0 3), (28, e0 (.areturn) 29)]]
noncomputable def zE_Pass_ruleAt (α : Type) : Nat → zX α := fun _ => fun _ _ _ => none
def zc_Pass_ruleAt : Nat → Bool := fun pc => false
set_option maxRecDepth 100000 in
theorem r_Pass_ruleAt (a0 : Nat) (a1 : Int32) (S : zM) : f_Pass_ruleAt a0 a1 S = zrt false zP_Pass_ruleAt (zE_Pass_ruleAt (Option Nat × zM)) zc_Pass_ruleAt zkN (fun pc lv st S => none) 1000 0 [some (.ref a0), some (.int a1)] [] S := rfl
theorem G_Pass_ruleAt {g : zV → Nat → List Value → zM → Prop} {res : (Option Nat × zM)} (H : zCl false zP_Pass_ruleAt (zE_Pass_ruleAt (Option Nat × zM)) zkN res g) (Hw : zWk g) (a0 : Nat) (a1 : Int32) (S : zM) (h : f_Pass_ruleAt a0 a1 S = some res) : g [some (.ref a0), some (.int a1)] 0 [] S := by
  refine H zc_Pass_ruleAt _ 1000 _ _ _ _ ((r_Pass_ruleAt a0 a1 S).symm.trans h) (fun pc lv st S hK => ?_)
  cases hK
set_option maxRecDepth 100000 in
theorem ok_Pass_ruleAt : zokT 5 [] false 0 0 2 false (some (.object "CarriedLetters$Rule")) cX5_ruleAt zP_Pass_ruleAt = true := by decide +kernel
set_option maxRecDepth 100000 in
theorem s_Pass_ruleAt {l : Launch} {HB : Heap} {b L : Nat} {xs : Nat → Int32} {aK aV : Nat → Nat} {G : va_G} {tc : Nat → ClassId} : zSnd l HB b L xs aK aV G tc (zMT.getD 47 zyD) (fun α => zA_vRI_N 5 f_Pass_ruleAt) := by
  rw [show zMT.getD 47 zyD = (yX5_ruleAt, cX5_ruleAt, 2, (some (.object "CarriedLetters$Rule")), 0, 2, 0, 0) from rfl]
  intro α as S k res h
  unfold zA_vRI_N at h
  dsimp only at h
  split at h
  · rename_i a0 a1
    obtain ⟨p, hp, h⟩ := zbind h
    unfold zcl at hp
    split at hp
    · rename_i hkd
      have hm := zmeth (l := l) (HB := HB) (b := b) (L := L) (xs := xs) (aK := aK) (aV := aV) (G := G) (tc := tc) (q := (yX5_ruleAt, cX5_ruleAt, 2, (some (.object "CarriedLetters$Rule")), 0, 2, 0, 0)) (o := 5) (cs := []) (rz := false) (T := zP_Pass_ruleAt) (E := zE_Pass_ruleAt (Option Nat × zM)) (kr := zkN) (res := p) (v0 := some (match p.1 with | some a => .ref a | none => .null)) (S0 := p.2) (as := [.ref a0, .int a1]) (S := S) zMT_fine (by decide +kernel) (fun i as S k' h => by
        unfold zE_Pass_ruleAt at h
        cases h) ok_Pass_ruleAt rfl (fun v S' h => zkN_inv h) (Nat.le_of_ble_eq_true rfl) (fun g H Hw => Hw _ [some (.ref a0), some (.int a1)] _ _ _ ⟨rfl, rfl, trivial⟩ (G_Pass_ruleAt H Hw a0 a1 S hp))
      exact ⟨_, _, (by cases hq : p.1 <;> rw [hq] at h <;> exact h), hm.1, rfl, fun _ => ⟨_, _, rfl⟩, (fun _ U H hK hH a r e => by cases e; exact zrecv (ci := 5) (by omega) hkd rfl U H hK hH), hm.2⟩
    · cases hp
  · cases h
def zP_Machine_bearSides : List (List (Nat × zE)) := [[(0, ei (.iconst 0) 1 0 (0)), (1, e1 (.istore_n 2) 2 2), (2, e1 (.iload_n 2) 3 2), (3, ei (.bipush 8) 5 0 (8)), (5, e1 (.if_icmp .gt 91) 8 96), (8, e1 (.aload_n 0) 9 0), (9, e3 (.getfield 21) 12 3 3 2), (12, e1 (.iload_n 2) 13 2), (13, ei (.iconst 0) 14 0 (0)), (14, e0 (.iastore) 15), (15, e1 (.aload_n 0) 16 0)],
  [(16, e3 (.getfield 24) 19 3 4 2), (19, e1 (.iload_n 2) 20 2), (20, ei (.iconst 0) 21 0 (0)), (21, e0 (.iastore) 22), (22, ei (.iconst 0) 23 0 (0)), (23, e1 (.istore_n 3) 24 3), (24, e1 (.iload_n 3) 25 3), (25, e1 (.aload_n 1) 26 1), (26, e3 (.getfield 52) 29 5 3 0), (29, e1 (.if_icmp .ge 61) 32 90)],
  [(32, e1 (.aload_n 1) 33 1), (33, e1 (.iload_n 3) 34 3), (34, e3 (.invokevirtual 57) 37 0 2 0), (37, e1 (.astore 4) 39 4), (39, e1 (.aload 4) 41 4), (41, e1 (.ifnull 43) 44 84), (44, e1 (.aload_n 0) 45 0), (45, e3 (.getfield 21) 48 3 3 2)],
  [(48, e1 (.iload_n 2) 49 2), (49, e0 (.dup2) 50), (50, e0 (.iaload) 51), (51, e1 (.aload 4) 53 4), (53, e3 (.getfield 61) 56 9 2 0), (56, e1 (.iload_n 2) 57 2), (57, e0 (.ishr) 58), (58, ei (.iconst 1) 59 0 (1)), (59, e0 (.iand) 60), (60, e1 (.iload_n 3) 61 3), (61, e0 (.ishl) 62), (62, e0 (.ior) 63), (63, e0 (.iastore) 64)],
  [(64, e1 (.aload_n 0) 65 0), (65, e3 (.getfield 24) 68 3 4 2), (68, e1 (.iload_n 2) 69 2), (69, e0 (.dup2) 70), (70, e0 (.iaload) 71), (71, e1 (.aload 4) 73 4), (73, e3 (.getfield 66) 76 9 3 0), (76, e1 (.iload_n 2) 77 2), (77, e0 (.ishr) 78), (78, ei (.iconst 1) 79 0 (1)), (79, e0 (.iand) 80)],
  [(80, e1 (.iload_n 3) 81 3), (81, e0 (.ishl) 82), (82, e0 (.ior) 83), (83, e0 (.iastore) 84), (84, ei (.iinc 3 1) 87 3 (1)), (87, e1 (.goto (-63)) 90 24), (90, ei (.iinc 2 1) 93 2 (1)), (93, e1 (.goto (-91)) 96 2)],
  [(96, e0 (.return_) 97)]]
noncomputable def zE_Machine_bearSides (α : Type) : Nat → zX α := fun i => bif Nat.beq i 0 then zA_vRI_N 5 f_Pass_ruleAt else fun _ _ _ => none
def zc_Machine_bearSides : Nat → Bool := fun pc => Nat.beq pc 2 || Nat.beq pc 24 || Nat.beq pc 90
def D_Machine_bearSides_2 (k : Nat → Nat → Int32 → zM → Option zM) (lv : zV) (st : List Value) (S : zM) : Option zM := match lv, st with
  | [some (.ref a0), some (.ref a1), some (.int a2), _, _], [] => k a0 a1 a2 S
  | _, _ => none
theorem d_Machine_bearSides_2 {g : zV → Nat → List Value → zM → Prop} (Hw : zWk g) {k : Nat → Nat → Int32 → zM → Option zM} {res : zM} {lv : zV} {st : List Value} {S : zM} (h : D_Machine_bearSides_2 k lv st S = some res) (hk : ∀ a0 a1 a2 S, k a0 a1 a2 S = some res → g [some (.ref a0), some (.ref a1), some (.int a2), none, none] 2 [] S) : g lv 2 st S := by
  unfold D_Machine_bearSides_2 at h
  split at h
  · exact Hw _ _ _ _ _ (by simp [zle]) (hk _ _ _ _  h)
  · cases h
def D_Machine_bearSides_24 (k : Nat → Nat → Int32 → Int32 → zM → Option zM) (lv : zV) (st : List Value) (S : zM) : Option zM := match lv, st with
  | [some (.ref a0), some (.ref a1), some (.int a2), some (.int a3), _], [] => k a0 a1 a2 a3 S
  | _, _ => none
theorem d_Machine_bearSides_24 {g : zV → Nat → List Value → zM → Prop} (Hw : zWk g) {k : Nat → Nat → Int32 → Int32 → zM → Option zM} {res : zM} {lv : zV} {st : List Value} {S : zM} (h : D_Machine_bearSides_24 k lv st S = some res) (hk : ∀ a0 a1 a2 a3 S, k a0 a1 a2 a3 S = some res → g [some (.ref a0), some (.ref a1), some (.int a2), some (.int a3), none] 24 [] S) : g lv 24 st S := by
  unfold D_Machine_bearSides_24 at h
  split at h
  · exact Hw _ _ _ _ _ (by simp [zle]) (hk _ _ _ _ _  h)
  · cases h
def D_Machine_bearSides_90 (k : Nat → Nat → Int32 → zM → Option zM) (lv : zV) (st : List Value) (S : zM) : Option zM := match lv, st with
  | [some (.ref a0), some (.ref a1), some (.int a2), _, _], [] => k a0 a1 a2 S
  | _, _ => none
theorem d_Machine_bearSides_90 {g : zV → Nat → List Value → zM → Prop} (Hw : zWk g) {k : Nat → Nat → Int32 → zM → Option zM} {res : zM} {lv : zV} {st : List Value} {S : zM} (h : D_Machine_bearSides_90 k lv st S = some res) (hk : ∀ a0 a1 a2 S, k a0 a1 a2 S = some res → g [some (.ref a0), some (.ref a1), some (.int a2), none, none] 90 [] S) : g lv 90 st S := by
  unfold D_Machine_bearSides_90 at h
  split at h
  · exact Hw _ _ _ _ _ (by simp [zle]) (hk _ _ _ _  h)
  · cases h
set_option maxRecDepth 100000 in
theorem r_Machine_bearSides_90 (k2 : Nat → Nat → Int32 → zM → Option zM) (a0 : Nat) (a1 : Nat) (a2 : Int32) (S : zM) : F_Machine_bearSides_90 k2 a0 a1 a2 S = zrt false zP_Machine_bearSides (zE_Machine_bearSides zM) zc_Machine_bearSides zkV (fun pc lv st S => bif Nat.beq pc 2 then D_Machine_bearSides_2 k2 lv st S else none) 1000 90 [some (.ref a0), some (.ref a1), some (.int a2), none, none] [] S := rfl
theorem g_Machine_bearSides_90 {g : zV → Nat → List Value → zM → Prop} {res : zM} (H : zCl false zP_Machine_bearSides (zE_Machine_bearSides zM) zkV res g) (Hw : zWk g) {k2 : Nat → Nat → Int32 → zM → Option zM} (hk2 : ∀ a0 a1 a2 S, k2 a0 a1 a2 S = some res → g [some (.ref a0), some (.ref a1), some (.int a2), none, none] 2 [] S) (a0 : Nat) (a1 : Nat) (a2 : Int32) (S : zM) (h : F_Machine_bearSides_90 k2 a0 a1 a2 S = some res) : g [some (.ref a0), some (.ref a1), some (.int a2), none, none] 90 [] S := by
  refine H zc_Machine_bearSides _ 1000 _ _ _ _ ((r_Machine_bearSides_90 k2 a0 a1 a2 S).symm.trans h) (fun pc lv st S hK => ?_)
  rcases zdis hK with ⟨rfl, hK⟩ | hK
  · exact d_Machine_bearSides_2 Hw hK hk2
  cases hK
set_option maxRecDepth 100000 in
theorem r_Machine_bearSides_24 (k90 : Nat → Nat → Int32 → zM → Option zM) (n : Nat) (a0 : Nat) (a1 : Nat) (a2 : Int32) (a3 : Int32) (S : zM) : L_Machine_bearSides_24 k90 (n + 1) a0 a1 a2 a3 S = zrt false zP_Machine_bearSides (zE_Machine_bearSides zM) zc_Machine_bearSides zkV (fun pc lv st S => bif Nat.beq pc 24 then D_Machine_bearSides_24 (L_Machine_bearSides_24 k90 n) lv st S else bif Nat.beq pc 90 then D_Machine_bearSides_90 k90 lv st S else none) 1000 24 [some (.ref a0), some (.ref a1), some (.int a2), some (.int a3), none] [] S := rfl
theorem g_Machine_bearSides_24 {g : zV → Nat → List Value → zM → Prop} {res : zM} (H : zCl false zP_Machine_bearSides (zE_Machine_bearSides zM) zkV res g) (Hw : zWk g) {k90 : Nat → Nat → Int32 → zM → Option zM} (hk90 : ∀ a0 a1 a2 S, k90 a0 a1 a2 S = some res → g [some (.ref a0), some (.ref a1), some (.int a2), none, none] 90 [] S) (n : Nat) : ∀ (a0 : Nat) (a1 : Nat) (a2 : Int32) (a3 : Int32) (S : zM), L_Machine_bearSides_24 k90 n a0 a1 a2 a3 S = some res → g [some (.ref a0), some (.ref a1), some (.int a2), some (.int a3), none] 24 [] S := by
  induction n with
  | zero => intro a0 a1 a2 a3 S h; cases h
  | succ n ih =>
    intro a0 a1 a2 a3 S h
    refine H zc_Machine_bearSides _ 1000 _ _ _ _ ((r_Machine_bearSides_24 k90 n a0 a1 a2 a3 S).symm.trans h) (fun pc lv st S hK => ?_)
    rcases zdis hK with ⟨rfl, hK⟩ | hK
    · exact d_Machine_bearSides_24 Hw hK ih
    rcases zdis hK with ⟨rfl, hK⟩ | hK
    · exact d_Machine_bearSides_90 Hw hK hk90
    cases hK
set_option maxRecDepth 100000 in
theorem r_Machine_bearSides_2 (n : Nat) (a0 : Nat) (a1 : Nat) (a2 : Int32) (S : zM) : L_Machine_bearSides_2 (n + 1) a0 a1 a2 S = zrt false zP_Machine_bearSides (zE_Machine_bearSides zM) zc_Machine_bearSides zkV (fun pc lv st S => bif Nat.beq pc 24 then D_Machine_bearSides_24 (L_Machine_bearSides_24 (F_Machine_bearSides_90 (L_Machine_bearSides_2 n)) zF) lv st S else none) 1000 2 [some (.ref a0), some (.ref a1), some (.int a2), none, none] [] S := rfl
theorem g_Machine_bearSides_2 {g : zV → Nat → List Value → zM → Prop} {res : zM} (H : zCl false zP_Machine_bearSides (zE_Machine_bearSides zM) zkV res g) (Hw : zWk g) (n : Nat) : ∀ (a0 : Nat) (a1 : Nat) (a2 : Int32) (S : zM), L_Machine_bearSides_2 n a0 a1 a2 S = some res → g [some (.ref a0), some (.ref a1), some (.int a2), none, none] 2 [] S := by
  induction n with
  | zero => intro a0 a1 a2 S h; cases h
  | succ n ih =>
    intro a0 a1 a2 S h
    refine H zc_Machine_bearSides _ 1000 _ _ _ _ ((r_Machine_bearSides_2 n a0 a1 a2 S).symm.trans h) (fun pc lv st S hK => ?_)
    rcases zdis hK with ⟨rfl, hK⟩ | hK
    · exact d_Machine_bearSides_24 Hw hK (g_Machine_bearSides_24 H Hw (g_Machine_bearSides_90 H Hw ih) zF)
    cases hK
set_option maxRecDepth 100000 in
theorem r_Machine_bearSides (a0 : Nat) (a1 : Nat) (S : zM) : f_Machine_bearSides a0 a1 S = zrt false zP_Machine_bearSides (zE_Machine_bearSides zM) zc_Machine_bearSides zkV (fun pc lv st S => bif Nat.beq pc 2 then D_Machine_bearSides_2 (L_Machine_bearSides_2 zF) lv st S else none) 1000 0 [some (.ref a0), some (.ref a1), none, none, none] [] S := rfl
theorem G_Machine_bearSides {g : zV → Nat → List Value → zM → Prop} {res : zM} (H : zCl false zP_Machine_bearSides (zE_Machine_bearSides zM) zkV res g) (Hw : zWk g) (a0 : Nat) (a1 : Nat) (S : zM) (h : f_Machine_bearSides a0 a1 S = some res) : g [some (.ref a0), some (.ref a1), none, none, none] 0 [] S := by
  refine H zc_Machine_bearSides _ 1000 _ _ _ _ ((r_Machine_bearSides a0 a1 S).symm.trans h) (fun pc lv st S hK => ?_)
  rcases zdis hK with ⟨rfl, hK⟩ | hK
  · exact d_Machine_bearSides_2 Hw hK (g_Machine_bearSides_2 H Hw  zF)
  cases hK
set_option maxRecDepth 100000 in
theorem ok_Machine_bearSides : zokT 3 [47] false 1 21 5 false none cX3_bearSides zP_Machine_bearSides = true := by decide +kernel
set_option maxRecDepth 100000 in
theorem s_Machine_bearSides {l : Launch} {HB : Heap} {b L : Nat} {xs : Nat → Int32} {aK aV : Nat → Nat} {G : va_G} {tc : Nat → ClassId} (h0 : zSnd l HB b L xs aK aV G tc (zMT.getD 47 zyD) (fun α => zA_vRI_N 5 f_Pass_ruleAt)) : zSnd l HB b L xs aK aV G tc (zMT.getD 48 zyD) (fun α => zA_vRR_V 3 f_Machine_bearSides) := by
  rw [show zMT.getD 48 zyD = (yX3_bearSides, cX3_bearSides, 5, none, 0, 2, 1, 21) from rfl]
  intro α as S k res h
  unfold zA_vRR_V at h
  dsimp only at h
  split at h
  · rename_i a0 a1
    obtain ⟨p, hp, h⟩ := zbind h
    unfold zcl at hp
    split at hp
    · rename_i hkd
      have hm := zmeth (l := l) (HB := HB) (b := b) (L := L) (xs := xs) (aK := aK) (aV := aV) (G := G) (tc := tc) (q := (yX3_bearSides, cX3_bearSides, 5, none, 0, 2, 1, 21)) (o := 3) (cs := [47]) (rz := false) (T := zP_Machine_bearSides) (E := zE_Machine_bearSides zM) (kr := zkV) (res := p) (v0 := none) (S0 := p) (as := [.ref a0, .ref a1]) (S := S) zMT_fine (by decide +kernel) (fun i as S k' h => by
        unfold zE_Machine_bearSides at h
        rcases zdisf h with ⟨rfl, h⟩ | h
        · exact h0 _ _ _ _ _ h
        cases h) ok_Machine_bearSides rfl (fun v S' h => zkV_inv h) (Nat.le_of_ble_eq_true rfl) (fun g H Hw => Hw _ [some (.ref a0), some (.ref a1), none, none, none] _ _ _ ⟨rfl, rfl, trivial⟩ (G_Machine_bearSides H Hw a0 a1 S hp))
      exact ⟨_, _, h, hm.1, rfl, fun _ => ⟨_, _, rfl⟩, (fun _ U H hK hH a r e => by cases e; exact zrecv (ci := 3) (by omega) hkd rfl U H hK hH), hm.2⟩
    · cases hp
  · cases h
def zP_Rule_taken : List (List (Nat × zE)) := [[(0, e1 (.iload_n 1) 1 1), (1, e1 (.ifCond .eq 10) 4 11), (4, e1 (.aload_n 0) 5 0), (5, e3 (.getfield 20) 8 9 1 2), (8, e1 (.goto 7) 11 15), (11, e1 (.aload_n 0) 12 0), (12, e3 (.getfield 14) 15 9 0 2), (15, e0 (.areturn) 16)]]
noncomputable def zE_Rule_taken (α : Type) : Nat → zX α := fun _ => fun _ _ _ => none
def zc_Rule_taken : Nat → Bool := fun pc => false
set_option maxRecDepth 100000 in
theorem r_Rule_taken (a0 : Nat) (a1 : Int32) (S : zM) : f_Rule_taken a0 a1 S = zrt false zP_Rule_taken (zE_Rule_taken (Nat × zM)) zc_Rule_taken zkR (fun pc lv st S => none) 1000 0 [some (.ref a0), some (.int a1)] [] S := rfl
theorem G_Rule_taken {g : zV → Nat → List Value → zM → Prop} {res : (Nat × zM)} (H : zCl false zP_Rule_taken (zE_Rule_taken (Nat × zM)) zkR res g) (Hw : zWk g) (a0 : Nat) (a1 : Int32) (S : zM) (h : f_Rule_taken a0 a1 S = some res) : g [some (.ref a0), some (.int a1)] 0 [] S := by
  refine H zc_Rule_taken _ 1000 _ _ _ _ ((r_Rule_taken a0 a1 S).symm.trans h) (fun pc lv st S hK => ?_)
  cases hK
set_option maxRecDepth 100000 in
theorem ok_Rule_taken : zokT 9 [] false 0 0 2 false (some (.object "CarriedLetters$Row")) cX9_taken zP_Rule_taken = true := by decide +kernel
set_option maxRecDepth 100000 in
theorem s_Rule_taken {l : Launch} {HB : Heap} {b L : Nat} {xs : Nat → Int32} {aK aV : Nat → Nat} {G : va_G} {tc : Nat → ClassId} : zSnd l HB b L xs aK aV G tc (zMT.getD 49 zyD) (fun α => zA_vRI_R 9 f_Rule_taken) := by
  rw [show zMT.getD 49 zyD = (yX9_taken, cX9_taken, 2, (some (.object "CarriedLetters$Row")), 0, 2, 0, 0) from rfl]
  intro α as S k res h
  unfold zA_vRI_R at h
  dsimp only at h
  split at h
  · rename_i a0 a1
    obtain ⟨p, hp, h⟩ := zbind h
    unfold zcl at hp
    split at hp
    · rename_i hkd
      have hm := zmeth (l := l) (HB := HB) (b := b) (L := L) (xs := xs) (aK := aK) (aV := aV) (G := G) (tc := tc) (q := (yX9_taken, cX9_taken, 2, (some (.object "CarriedLetters$Row")), 0, 2, 0, 0)) (o := 9) (cs := []) (rz := false) (T := zP_Rule_taken) (E := zE_Rule_taken (Nat × zM)) (kr := zkR) (res := p) (v0 := some (.ref p.1)) (S0 := p.2) (as := [.ref a0, .int a1]) (S := S) zMT_fine (by decide +kernel) (fun i as S k' h => by
        unfold zE_Rule_taken at h
        cases h) ok_Rule_taken rfl (fun v S' h => zkR_inv h) (Nat.le_of_ble_eq_true rfl) (fun g H Hw => Hw _ [some (.ref a0), some (.int a1)] _ _ _ ⟨rfl, rfl, trivial⟩ (G_Rule_taken H Hw a0 a1 S hp))
      exact ⟨_, _, h, hm.1, rfl, fun _ => ⟨_, _, rfl⟩, (fun _ U H hK hH a r e => by cases e; exact zrecv (ci := 9) (by omega) hkd rfl U H hK hH), hm.2⟩
    · cases hp
  · cases h
def zP_Row_at : List (List (Nat × zE)) := [[(0, e1 (.iload_n 1) 1 1), (1, e1 (.ifCond .lt 20) 4 21), (4, e1 (.iload_n 1) 5 1), (5, e1 (.aload_n 0) 6 0), (6, e3 (.getfield 15) 9 8 1 0), (9, e1 (.if_icmp .ge 12) 12 21), (12, e1 (.iload_n 1) 13 1), (13, e1 (.aload_n 0) 14 0), (14, e3 (.getfield 9) 17 8 0 2)],
  [(17, e0 (.arraylength) 18), (18, e1 (.if_icmp .lt 7) 21 25), (21, ei (.iconst (-1)) 22 0 (-1)), (22, e1 (.goto 9) 25 31), (25, e1 (.aload_n 0) 26 0), (26, e3 (.getfield 9) 29 8 0 2), (29, e1 (.iload_n 1) 30 1), (30, e0 (.iaload) 31), (31, e0 (.ireturn) 32)]]
noncomputable def zE_Row_at (α : Type) : Nat → zX α := fun _ => fun _ _ _ => none
def zc_Row_at : Nat → Bool := fun pc => false
set_option maxRecDepth 100000 in
theorem r_Row_at (a0 : Nat) (a1 : Int32) (S : zM) : f_Row_at a0 a1 S = zrt false zP_Row_at (zE_Row_at (Int32 × zM)) zc_Row_at zkI (fun pc lv st S => none) 1000 0 [some (.ref a0), some (.int a1)] [] S := rfl
theorem G_Row_at {g : zV → Nat → List Value → zM → Prop} {res : (Int32 × zM)} (H : zCl false zP_Row_at (zE_Row_at (Int32 × zM)) zkI res g) (Hw : zWk g) (a0 : Nat) (a1 : Int32) (S : zM) (h : f_Row_at a0 a1 S = some res) : g [some (.ref a0), some (.int a1)] 0 [] S := by
  refine H zc_Row_at _ 1000 _ _ _ _ ((r_Row_at a0 a1 S).symm.trans h) (fun pc lv st S hK => ?_)
  cases hK
set_option maxRecDepth 100000 in
theorem ok_Row_at : zokT 8 [] false 0 0 2 false (some .int) cX8_at zP_Row_at = true := by decide +kernel
set_option maxRecDepth 100000 in
theorem s_Row_at {l : Launch} {HB : Heap} {b L : Nat} {xs : Nat → Int32} {aK aV : Nat → Nat} {G : va_G} {tc : Nat → ClassId} : zSnd l HB b L xs aK aV G tc (zMT.getD 50 zyD) (fun α => zA_vRI_I 8 f_Row_at) := by
  rw [show zMT.getD 50 zyD = (yX8_at, cX8_at, 2, (some .int), 0, 2, 0, 0) from rfl]
  intro α as S k res h
  unfold zA_vRI_I at h
  dsimp only at h
  split at h
  · rename_i a0 a1
    obtain ⟨p, hp, h⟩ := zbind h
    unfold zcl at hp
    split at hp
    · rename_i hkd
      have hm := zmeth (l := l) (HB := HB) (b := b) (L := L) (xs := xs) (aK := aK) (aV := aV) (G := G) (tc := tc) (q := (yX8_at, cX8_at, 2, (some .int), 0, 2, 0, 0)) (o := 8) (cs := []) (rz := false) (T := zP_Row_at) (E := zE_Row_at (Int32 × zM)) (kr := zkI) (res := p) (v0 := some (.int p.1)) (S0 := p.2) (as := [.ref a0, .int a1]) (S := S) zMT_fine (by decide +kernel) (fun i as S k' h => by
        unfold zE_Row_at at h
        cases h) ok_Row_at rfl (fun v S' h => zkI_inv h) (Nat.le_of_ble_eq_true rfl) (fun g H Hw => Hw _ [some (.ref a0), some (.int a1)] _ _ _ ⟨rfl, rfl, trivial⟩ (G_Row_at H Hw a0 a1 S hp))
      exact ⟨_, _, h, hm.1, rfl, fun _ => ⟨_, _, rfl⟩, (fun _ U H hK hH a r e => by cases e; exact zrecv (ci := 8) (by omega) hkd rfl U H hK hH), hm.2⟩
    · cases hp
  · cases h
def zP_Machine_leadOn : List (List (Nat × zE)) := [[(0, e1 (.aload_n 0) 1 0), (1, e3 (.getfield 15) 4 3 1 2), (4, e1 (.iload_n 3) 5 3), (5, e0 (.iaload) 6), (6, e1 (.istore 5) 8 5), (8, ei (.bipush (-2)) 10 0 (-2)), (10, e1 (.istore 6) 12 6), (12, ei (.iconst 0) 13 0 (0)), (13, e1 (.istore 7) 15 7), (15, e1 (.iload 7) 17 7)],
  [(17, e1 (.aload_n 1) 18 1), (18, e3 (.getfield 52) 21 5 3 0), (21, e1 (.if_icmp .ge 156) 24 177), (24, e1 (.iload 7) 26 7), (26, ei (.bipush 8) 28 0 (8)), (28, e1 (.if_icmp .ge 149) 31 177), (31, e1 (.aload_n 1) 32 1)],
  [(32, e1 (.iload 7) 34 7), (34, e3 (.invokevirtual 57) 37 0 2 0), (37, e1 (.astore 8) 39 8), (39, e1 (.aload 8) 41 8), (41, e1 (.ifnull 130) 44 171), (44, e1 (.aload_n 0) 45 0), (45, e3 (.getfield 27) 48 3 5 2)],
  [(48, e1 (.iload 7) 50 7), (50, e0 (.iaload) 51), (51, e1 (.iload_n 3) 52 3), (52, e1 (.if_icmp .ne 119) 55 171), (55, e1 (.aload 8) 57 8), (57, e1 (.iload_n 2) 58 2), (58, e3 (.invokevirtual 69) 61 1 2 0), (61, e1 (.iload 5) 63 5), (63, e3 (.invokevirtual 73) 66 2 2 0)],
  [(66, e1 (.iload 4) 68 4), (68, e1 (.if_icmp .eq 6) 71 74), (71, e1 (.goto 100) 74 171), (74, e1 (.iload 6) 76 6), (76, ei (.bipush (-2)) 78 0 (-2)), (78, e1 (.if_icmp .ne 54) 81 132)],
  [(81, e1 (.aload_n 0) 82 0), (82, e3 (.getfield 30) 85 3 6 0), (85, ei (.bipush 33) 87 0 (33)), (87, e1 (.if_icmp .lt 4) 90 91), (90, e0 (.return_) 91), (91, e1 (.aload_n 0) 92 0), (92, e3 (.getfield 30) 95 3 6 0), (95, e1 (.istore 6) 97 6)],
  [(97, e1 (.aload_n 0) 98 0), (98, e3 (.getfield 15) 101 3 1 2), (101, e1 (.iload 6) 103 6), (103, e1 (.iload 5) 105 5), (105, ei (.iconst 1) 106 0 (1)), (106, e0 (.iadd) 107), (107, e0 (.iastore) 108), (108, e1 (.aload_n 0) 109 0), (109, e3 (.getfield 11) 112 3 0 2)],
  [(112, e1 (.iload_n 3) 113 3), (113, ei (.bipush 8) 115 0 (8)), (115, e0 (.imul) 116), (116, e1 (.iload 4) 118 4), (118, e0 (.iadd) 119), (119, e1 (.iload 6) 121 6), (121, e0 (.iastore) 122), (122, e1 (.aload_n 0) 123 0), (123, e0 (.dup) 124), (124, e3 (.getfield 30) 127 3 6 0), (127, ei (.iconst 1) 128 0 (1))],
  [(128, e0 (.iadd) 129), (129, e3 (.putfield 30) 132 3 6 0), (132, e1 (.aload_n 0) 133 0), (133, e3 (.getfield 27) 136 3 5 2), (136, e1 (.iload 7) 138 7), (138, e1 (.iload 6) 140 6), (140, e0 (.iastore) 141), (141, e1 (.aload 8) 143 8), (143, e1 (.iload_n 2) 144 2)],
  [(144, e3 (.invokevirtual 69) 147 1 2 0), (147, e3 (.getfield 79) 150 8 1 0), (150, e1 (.iload 5) 152 5), (152, ei (.iconst 1) 153 0 (1)), (153, e0 (.iadd) 154), (154, e1 (.if_icmp .ne 17) 157 171), (157, e1 (.aload_n 0) 158 0), (158, e3 (.getfield 18) 161 3 2 2)],
  [(161, e1 (.iload 6) 163 6), (163, e0 (.dup2) 164), (164, e0 (.iaload) 165), (165, ei (.iconst 1) 166 0 (1)), (166, e1 (.iload 7) 168 7), (168, e0 (.ishl) 169), (169, e0 (.ior) 170), (170, e0 (.iastore) 171), (171, ei (.iinc 7 1) 174 7 (1)), (174, e1 (.goto (-159)) 177 15)],
  [(177, e0 (.return_) 178)]]
noncomputable def zE_Machine_leadOn (α : Type) : Nat → zX α := fun i => bif Nat.beq i 0 then zA_vRI_N 5 f_Pass_ruleAt else bif Nat.beq i 1 then zA_vRI_R 9 f_Rule_taken else bif Nat.beq i 2 then zA_vRI_I 8 f_Row_at else fun _ _ _ => none
def zc_Machine_leadOn : Nat → Bool := fun pc => Nat.beq pc 15
def D_Machine_leadOn_15 (k : Nat → Nat → Int32 → Int32 → Int32 → Int32 → Int32 → Int32 → zM → Option zM) (lv : zV) (st : List Value) (S : zM) : Option zM := match lv, st with
  | [some (.ref a0), some (.ref a1), some (.int a2), some (.int a3), some (.int a4), some (.int a5), some (.int a6), some (.int a7), _], [] => k a0 a1 a2 a3 a4 a5 a6 a7 S
  | _, _ => none
theorem d_Machine_leadOn_15 {g : zV → Nat → List Value → zM → Prop} (Hw : zWk g) {k : Nat → Nat → Int32 → Int32 → Int32 → Int32 → Int32 → Int32 → zM → Option zM} {res : zM} {lv : zV} {st : List Value} {S : zM} (h : D_Machine_leadOn_15 k lv st S = some res) (hk : ∀ a0 a1 a2 a3 a4 a5 a6 a7 S, k a0 a1 a2 a3 a4 a5 a6 a7 S = some res → g [some (.ref a0), some (.ref a1), some (.int a2), some (.int a3), some (.int a4), some (.int a5), some (.int a6), some (.int a7), none] 15 [] S) : g lv 15 st S := by
  unfold D_Machine_leadOn_15 at h
  split at h
  · exact Hw _ _ _ _ _ (by simp [zle]) (hk _ _ _ _ _ _ _ _ _  h)
  · cases h
set_option maxRecDepth 100000 in
theorem r_Machine_leadOn_15 (n : Nat) (a0 : Nat) (a1 : Nat) (a2 : Int32) (a3 : Int32) (a4 : Int32) (a5 : Int32) (a6 : Int32) (a7 : Int32) (S : zM) : L_Machine_leadOn_15 (n + 1) a0 a1 a2 a3 a4 a5 a6 a7 S = zrt false zP_Machine_leadOn (zE_Machine_leadOn zM) zc_Machine_leadOn zkV (fun pc lv st S => bif Nat.beq pc 15 then D_Machine_leadOn_15 (L_Machine_leadOn_15 n) lv st S else none) 1000 15 [some (.ref a0), some (.ref a1), some (.int a2), some (.int a3), some (.int a4), some (.int a5), some (.int a6), some (.int a7), none] [] S := rfl
theorem g_Machine_leadOn_15 {g : zV → Nat → List Value → zM → Prop} {res : zM} (H : zCl false zP_Machine_leadOn (zE_Machine_leadOn zM) zkV res g) (Hw : zWk g) (n : Nat) : ∀ (a0 : Nat) (a1 : Nat) (a2 : Int32) (a3 : Int32) (a4 : Int32) (a5 : Int32) (a6 : Int32) (a7 : Int32) (S : zM), L_Machine_leadOn_15 n a0 a1 a2 a3 a4 a5 a6 a7 S = some res → g [some (.ref a0), some (.ref a1), some (.int a2), some (.int a3), some (.int a4), some (.int a5), some (.int a6), some (.int a7), none] 15 [] S := by
  induction n with
  | zero => intro a0 a1 a2 a3 a4 a5 a6 a7 S h; cases h
  | succ n ih =>
    intro a0 a1 a2 a3 a4 a5 a6 a7 S h
    refine H zc_Machine_leadOn _ 1000 _ _ _ _ ((r_Machine_leadOn_15 n a0 a1 a2 a3 a4 a5 a6 a7 S).symm.trans h) (fun pc lv st S hK => ?_)
    rcases zdis hK with ⟨rfl, hK⟩ | hK
    · exact d_Machine_leadOn_15 Hw hK ih
    cases hK
set_option maxRecDepth 100000 in
theorem r_Machine_leadOn (a0 : Nat) (a1 : Nat) (a2 : Int32) (a3 : Int32) (a4 : Int32) (S : zM) : f_Machine_leadOn a0 a1 a2 a3 a4 S = zrt false zP_Machine_leadOn (zE_Machine_leadOn zM) zc_Machine_leadOn zkV (fun pc lv st S => bif Nat.beq pc 15 then D_Machine_leadOn_15 (L_Machine_leadOn_15 zF) lv st S else none) 1000 0 [some (.ref a0), some (.ref a1), some (.int a2), some (.int a3), some (.int a4), none, none, none, none] [] S := rfl
theorem G_Machine_leadOn {g : zV → Nat → List Value → zM → Prop} {res : zM} (H : zCl false zP_Machine_leadOn (zE_Machine_leadOn zM) zkV res g) (Hw : zWk g) (a0 : Nat) (a1 : Nat) (a2 : Int32) (a3 : Int32) (a4 : Int32) (S : zM) (h : f_Machine_leadOn a0 a1 a2 a3 a4 S = some res) : g [some (.ref a0), some (.ref a1), some (.int a2), some (.int a3), some (.int a4), none, none, none, none] 0 [] S := by
  refine H zc_Machine_leadOn _ 1000 _ _ _ _ ((r_Machine_leadOn a0 a1 a2 a3 a4 S).symm.trans h) (fun pc lv st S hK => ?_)
  rcases zdis hK with ⟨rfl, hK⟩ | hK
  · exact d_Machine_leadOn_15 Hw hK (g_Machine_leadOn_15 H Hw  zF)
  cases hK
set_option maxRecDepth 100000 in
theorem ok_Machine_leadOn : zokT 3 [47, 49, 50] false 1 21 9 false none cX3_leadOn zP_Machine_leadOn = true := by decide +kernel
set_option maxRecDepth 100000 in
theorem s_Machine_leadOn {l : Launch} {HB : Heap} {b L : Nat} {xs : Nat → Int32} {aK aV : Nat → Nat} {G : va_G} {tc : Nat → ClassId} (h0 : zSnd l HB b L xs aK aV G tc (zMT.getD 47 zyD) (fun α => zA_vRI_N 5 f_Pass_ruleAt)) (h1 : zSnd l HB b L xs aK aV G tc (zMT.getD 49 zyD) (fun α => zA_vRI_R 9 f_Rule_taken)) (h2 : zSnd l HB b L xs aK aV G tc (zMT.getD 50 zyD) (fun α => zA_vRI_I 8 f_Row_at)) : zSnd l HB b L xs aK aV G tc (zMT.getD 51 zyD) (fun α => zA_vRRIII_V 3 f_Machine_leadOn) := by
  rw [show zMT.getD 51 zyD = (yX3_leadOn, cX3_leadOn, 9, none, 0, 5, 1, 21) from rfl]
  intro α as S k res h
  unfold zA_vRRIII_V at h
  dsimp only at h
  split at h
  · rename_i a0 a1 a2 a3 a4
    obtain ⟨p, hp, h⟩ := zbind h
    unfold zcl at hp
    split at hp
    · rename_i hkd
      have hm := zmeth (l := l) (HB := HB) (b := b) (L := L) (xs := xs) (aK := aK) (aV := aV) (G := G) (tc := tc) (q := (yX3_leadOn, cX3_leadOn, 9, none, 0, 5, 1, 21)) (o := 3) (cs := [47, 49, 50]) (rz := false) (T := zP_Machine_leadOn) (E := zE_Machine_leadOn zM) (kr := zkV) (res := p) (v0 := none) (S0 := p) (as := [.ref a0, .ref a1, .int a2, .int a3, .int a4]) (S := S) zMT_fine (by decide +kernel) (fun i as S k' h => by
        unfold zE_Machine_leadOn at h
        rcases zdisf h with ⟨rfl, h⟩ | h
        · exact h0 _ _ _ _ _ h
        rcases zdisf h with ⟨rfl, h⟩ | h
        · exact h1 _ _ _ _ _ h
        rcases zdisf h with ⟨rfl, h⟩ | h
        · exact h2 _ _ _ _ _ h
        cases h) ok_Machine_leadOn rfl (fun v S' h => zkV_inv h) (Nat.le_of_ble_eq_true rfl) (fun g H Hw => Hw _ [some (.ref a0), some (.ref a1), some (.int a2), some (.int a3), some (.int a4), none, none, none, none] _ _ _ ⟨rfl, rfl, rfl, rfl, rfl, trivial⟩ (G_Machine_leadOn H Hw a0 a1 a2 a3 a4 S hp))
      exact ⟨_, _, h, hm.1, rfl, fun _ => ⟨_, _, rfl⟩, (fun _ U H hK hH a r e => by cases e; exact zrecv (ci := 3) (by omega) hkd rfl U H hK hH), hm.2⟩
    · cases hp
  · cases h
def zP_Machine_build : List (List (Nat × zE)) := [[(0, e1 (.aload_n 0) 1 0), (1, e3 (.getfield 11) 4 3 0 2), (4, ei (.bipush (-2)) 6 0 (-2)), (6, e3 (.invokestatic 38) 9 0 2 0), (9, e1 (.aload_n 0) 10 0), (10, e3 (.getfield 18) 13 3 2 2), (13, ei (.iconst 0) 14 0 (0)), (14, e3 (.invokestatic 38) 17 0 2 0)],
  [(17, e1 (.aload_n 0) 18 0), (18, e3 (.getfield 27) 21 3 5 2), (21, ei (.iconst 0) 22 0 (0)), (22, e3 (.invokestatic 38) 25 0 2 0), (25, e1 (.aload_n 0) 26 0), (26, e1 (.aload_n 1) 27 1), (27, e3 (.invokevirtual 44) 30 1 2 0), (30, e1 (.aload_n 0) 31 0), (31, e3 (.getfield 15) 34 3 1 2)],
  [(34, ei (.iconst 0) 35 0 (0)), (35, ei (.iconst 0) 36 0 (0)), (36, e0 (.iastore) 37), (37, e1 (.aload_n 0) 38 0), (38, ei (.iconst 1) 39 0 (1)), (39, e3 (.putfield 30) 42 3 6 0), (42, ei (.iconst 0) 43 0 (0)), (43, e1 (.istore_n 3) 44 3), (44, e1 (.iload_n 3) 45 3), (45, e1 (.aload_n 0) 46 0), (46, e3 (.getfield 30) 49 3 6 0)],
  [(49, e1 (.if_icmp .ge 40) 52 89), (52, e1 (.iload_n 3) 53 3), (53, ei (.bipush 33) 55 0 (33)), (55, e1 (.if_icmp .ge 34) 58 89), (58, ei (.iconst 0) 59 0 (0)), (59, e1 (.istore 4) 61 4), (61, e1 (.iload 4) 63 4), (63, ei (.bipush 8) 65 0 (8))],
  [(65, e1 (.if_icmp .ge 18) 68 83), (68, e1 (.aload_n 0) 69 0), (69, e1 (.aload_n 1) 70 1), (70, e1 (.iload_n 2) 71 2), (71, e1 (.iload_n 3) 72 3), (72, e1 (.iload 4) 74 4), (74, e3 (.invokevirtual 48) 77 2 5 0), (77, ei (.iinc 4 1) 80 4 (1))],
  [(80, e1 (.goto (-19)) 83 61), (83, ei (.iinc 3 1) 86 3 (1)), (86, e1 (.goto (-42)) 89 44), (89, e0 (.return_) 90)]]
noncomputable def zE_Machine_build (α : Type) : Nat → zX α := fun i => bif Nat.beq i 0 then zA_RI_V f_J_fill else bif Nat.beq i 1 then zA_vRR_V 3 f_Machine_bearSides else bif Nat.beq i 2 then zA_vRRIII_V 3 f_Machine_leadOn else fun _ _ _ => none
def zc_Machine_build : Nat → Bool := fun pc => Nat.beq pc 44 || Nat.beq pc 61 || Nat.beq pc 83
def D_Machine_build_44 (k : Nat → Nat → Int32 → Int32 → zM → Option zM) (lv : zV) (st : List Value) (S : zM) : Option zM := match lv, st with
  | [some (.ref a0), some (.ref a1), some (.int a2), some (.int a3), _], [] => k a0 a1 a2 a3 S
  | _, _ => none
theorem d_Machine_build_44 {g : zV → Nat → List Value → zM → Prop} (Hw : zWk g) {k : Nat → Nat → Int32 → Int32 → zM → Option zM} {res : zM} {lv : zV} {st : List Value} {S : zM} (h : D_Machine_build_44 k lv st S = some res) (hk : ∀ a0 a1 a2 a3 S, k a0 a1 a2 a3 S = some res → g [some (.ref a0), some (.ref a1), some (.int a2), some (.int a3), none] 44 [] S) : g lv 44 st S := by
  unfold D_Machine_build_44 at h
  split at h
  · exact Hw _ _ _ _ _ (by simp [zle]) (hk _ _ _ _ _  h)
  · cases h
def D_Machine_build_61 (k : Nat → Nat → Int32 → Int32 → Int32 → zM → Option zM) (lv : zV) (st : List Value) (S : zM) : Option zM := match lv, st with
  | [some (.ref a0), some (.ref a1), some (.int a2), some (.int a3), some (.int a4)], [] => k a0 a1 a2 a3 a4 S
  | _, _ => none
theorem d_Machine_build_61 {g : zV → Nat → List Value → zM → Prop} (Hw : zWk g) {k : Nat → Nat → Int32 → Int32 → Int32 → zM → Option zM} {res : zM} {lv : zV} {st : List Value} {S : zM} (h : D_Machine_build_61 k lv st S = some res) (hk : ∀ a0 a1 a2 a3 a4 S, k a0 a1 a2 a3 a4 S = some res → g [some (.ref a0), some (.ref a1), some (.int a2), some (.int a3), some (.int a4)] 61 [] S) : g lv 61 st S := by
  unfold D_Machine_build_61 at h
  split at h
  · exact Hw _ _ _ _ _ (by simp [zle]) (hk _ _ _ _ _ _  h)
  · cases h
def D_Machine_build_83 (k : Nat → Nat → Int32 → Int32 → zM → Option zM) (lv : zV) (st : List Value) (S : zM) : Option zM := match lv, st with
  | [some (.ref a0), some (.ref a1), some (.int a2), some (.int a3), _], [] => k a0 a1 a2 a3 S
  | _, _ => none
theorem d_Machine_build_83 {g : zV → Nat → List Value → zM → Prop} (Hw : zWk g) {k : Nat → Nat → Int32 → Int32 → zM → Option zM} {res : zM} {lv : zV} {st : List Value} {S : zM} (h : D_Machine_build_83 k lv st S = some res) (hk : ∀ a0 a1 a2 a3 S, k a0 a1 a2 a3 S = some res → g [some (.ref a0), some (.ref a1), some (.int a2), some (.int a3), none] 83 [] S) : g lv 83 st S := by
  unfold D_Machine_build_83 at h
  split at h
  · exact Hw _ _ _ _ _ (by simp [zle]) (hk _ _ _ _ _  h)
  · cases h
set_option maxRecDepth 100000 in
theorem r_Machine_build_83 (k44 : Nat → Nat → Int32 → Int32 → zM → Option zM) (a0 : Nat) (a1 : Nat) (a2 : Int32) (a3 : Int32) (S : zM) : F_Machine_build_83 k44 a0 a1 a2 a3 S = zrt false zP_Machine_build (zE_Machine_build zM) zc_Machine_build zkV (fun pc lv st S => bif Nat.beq pc 44 then D_Machine_build_44 k44 lv st S else none) 1000 83 [some (.ref a0), some (.ref a1), some (.int a2), some (.int a3), none] [] S := rfl
theorem g_Machine_build_83 {g : zV → Nat → List Value → zM → Prop} {res : zM} (H : zCl false zP_Machine_build (zE_Machine_build zM) zkV res g) (Hw : zWk g) {k44 : Nat → Nat → Int32 → Int32 → zM → Option zM} (hk44 : ∀ a0 a1 a2 a3 S, k44 a0 a1 a2 a3 S = some res → g [some (.ref a0), some (.ref a1), some (.int a2), some (.int a3), none] 44 [] S) (a0 : Nat) (a1 : Nat) (a2 : Int32) (a3 : Int32) (S : zM) (h : F_Machine_build_83 k44 a0 a1 a2 a3 S = some res) : g [some (.ref a0), some (.ref a1), some (.int a2), some (.int a3), none] 83 [] S := by
  refine H zc_Machine_build _ 1000 _ _ _ _ ((r_Machine_build_83 k44 a0 a1 a2 a3 S).symm.trans h) (fun pc lv st S hK => ?_)
  rcases zdis hK with ⟨rfl, hK⟩ | hK
  · exact d_Machine_build_44 Hw hK hk44
  cases hK
set_option maxRecDepth 100000 in
theorem r_Machine_build_61 (k83 : Nat → Nat → Int32 → Int32 → zM → Option zM) (n : Nat) (a0 : Nat) (a1 : Nat) (a2 : Int32) (a3 : Int32) (a4 : Int32) (S : zM) : L_Machine_build_61 k83 (n + 1) a0 a1 a2 a3 a4 S = zrt false zP_Machine_build (zE_Machine_build zM) zc_Machine_build zkV (fun pc lv st S => bif Nat.beq pc 61 then D_Machine_build_61 (L_Machine_build_61 k83 n) lv st S else bif Nat.beq pc 83 then D_Machine_build_83 k83 lv st S else none) 1000 61 [some (.ref a0), some (.ref a1), some (.int a2), some (.int a3), some (.int a4)] [] S := rfl
theorem g_Machine_build_61 {g : zV → Nat → List Value → zM → Prop} {res : zM} (H : zCl false zP_Machine_build (zE_Machine_build zM) zkV res g) (Hw : zWk g) {k83 : Nat → Nat → Int32 → Int32 → zM → Option zM} (hk83 : ∀ a0 a1 a2 a3 S, k83 a0 a1 a2 a3 S = some res → g [some (.ref a0), some (.ref a1), some (.int a2), some (.int a3), none] 83 [] S) (n : Nat) : ∀ (a0 : Nat) (a1 : Nat) (a2 : Int32) (a3 : Int32) (a4 : Int32) (S : zM), L_Machine_build_61 k83 n a0 a1 a2 a3 a4 S = some res → g [some (.ref a0), some (.ref a1), some (.int a2), some (.int a3), some (.int a4)] 61 [] S := by
  induction n with
  | zero => intro a0 a1 a2 a3 a4 S h; cases h
  | succ n ih =>
    intro a0 a1 a2 a3 a4 S h
    refine H zc_Machine_build _ 1000 _ _ _ _ ((r_Machine_build_61 k83 n a0 a1 a2 a3 a4 S).symm.trans h) (fun pc lv st S hK => ?_)
    rcases zdis hK with ⟨rfl, hK⟩ | hK
    · exact d_Machine_build_61 Hw hK ih
    rcases zdis hK with ⟨rfl, hK⟩ | hK
    · exact d_Machine_build_83 Hw hK hk83
    cases hK
set_option maxRecDepth 100000 in
theorem r_Machine_build_44 (n : Nat) (a0 : Nat) (a1 : Nat) (a2 : Int32) (a3 : Int32) (S : zM) : L_Machine_build_44 (n + 1) a0 a1 a2 a3 S = zrt false zP_Machine_build (zE_Machine_build zM) zc_Machine_build zkV (fun pc lv st S => bif Nat.beq pc 61 then D_Machine_build_61 (L_Machine_build_61 (F_Machine_build_83 (L_Machine_build_44 n)) zF) lv st S else none) 1000 44 [some (.ref a0), some (.ref a1), some (.int a2), some (.int a3), none] [] S := rfl
theorem g_Machine_build_44 {g : zV → Nat → List Value → zM → Prop} {res : zM} (H : zCl false zP_Machine_build (zE_Machine_build zM) zkV res g) (Hw : zWk g) (n : Nat) : ∀ (a0 : Nat) (a1 : Nat) (a2 : Int32) (a3 : Int32) (S : zM), L_Machine_build_44 n a0 a1 a2 a3 S = some res → g [some (.ref a0), some (.ref a1), some (.int a2), some (.int a3), none] 44 [] S := by
  induction n with
  | zero => intro a0 a1 a2 a3 S h; cases h
  | succ n ih =>
    intro a0 a1 a2 a3 S h
    refine H zc_Machine_build _ 1000 _ _ _ _ ((r_Machine_build_44 n a0 a1 a2 a3 S).symm.trans h) (fun pc lv st S hK => ?_)
    rcases zdis hK with ⟨rfl, hK⟩ | hK
    · exact d_Machine_build_61 Hw hK (g_Machine_build_61 H Hw (g_Machine_build_83 H Hw ih) zF)
    cases hK
set_option maxRecDepth 100000 in
theorem r_Machine_build (a0 : Nat) (a1 : Nat) (a2 : Int32) (S : zM) : f_Machine_build a0 a1 a2 S = zrt false zP_Machine_build (zE_Machine_build zM) zc_Machine_build zkV (fun pc lv st S => bif Nat.beq pc 44 then D_Machine_build_44 (L_Machine_build_44 zF) lv st S else none) 1000 0 [some (.ref a0), some (.ref a1), some (.int a2), none, none] [] S := rfl
theorem G_Machine_build {g : zV → Nat → List Value → zM → Prop} {res : zM} (H : zCl false zP_Machine_build (zE_Machine_build zM) zkV res g) (Hw : zWk g) (a0 : Nat) (a1 : Nat) (a2 : Int32) (S : zM) (h : f_Machine_build a0 a1 a2 S = some res) : g [some (.ref a0), some (.ref a1), some (.int a2), none, none] 0 [] S := by
  refine H zc_Machine_build _ 1000 _ _ _ _ ((r_Machine_build a0 a1 a2 S).symm.trans h) (fun pc lv st S hK => ?_)
  rcases zdis hK with ⟨rfl, hK⟩ | hK
  · exact d_Machine_build_44 Hw hK (g_Machine_build_44 H Hw  zF)
  cases hK
set_option maxRecDepth 100000 in
theorem ok_Machine_build : zokT 3 [46, 48, 51] false 2 49 5 false none cX3_build zP_Machine_build = true := by decide +kernel
set_option maxRecDepth 100000 in
theorem s_Machine_build {l : Launch} {HB : Heap} {b L : Nat} {xs : Nat → Int32} {aK aV : Nat → Nat} {G : va_G} {tc : Nat → ClassId} (h0 : zSnd l HB b L xs aK aV G tc (zMT.getD 46 zyD) (fun α => zA_RI_V f_J_fill)) (h1 : zSnd l HB b L xs aK aV G tc (zMT.getD 48 zyD) (fun α => zA_vRR_V 3 f_Machine_bearSides)) (h2 : zSnd l HB b L xs aK aV G tc (zMT.getD 51 zyD) (fun α => zA_vRRIII_V 3 f_Machine_leadOn)) : zSnd l HB b L xs aK aV G tc (zMT.getD 52 zyD) (fun α => zA_vRRI_V 3 f_Machine_build) := by
  rw [show zMT.getD 52 zyD = (yX3_build, cX3_build, 5, none, 0, 3, 2, 49) from rfl]
  intro α as S k res h
  unfold zA_vRRI_V at h
  dsimp only at h
  split at h
  · rename_i a0 a1 a2
    obtain ⟨p, hp, h⟩ := zbind h
    unfold zcl at hp
    split at hp
    · rename_i hkd
      have hm := zmeth (l := l) (HB := HB) (b := b) (L := L) (xs := xs) (aK := aK) (aV := aV) (G := G) (tc := tc) (q := (yX3_build, cX3_build, 5, none, 0, 3, 2, 49)) (o := 3) (cs := [46, 48, 51]) (rz := false) (T := zP_Machine_build) (E := zE_Machine_build zM) (kr := zkV) (res := p) (v0 := none) (S0 := p) (as := [.ref a0, .ref a1, .int a2]) (S := S) zMT_fine (by decide +kernel) (fun i as S k' h => by
        unfold zE_Machine_build at h
        rcases zdisf h with ⟨rfl, h⟩ | h
        · exact h0 _ _ _ _ _ h
        rcases zdisf h with ⟨rfl, h⟩ | h
        · exact h1 _ _ _ _ _ h
        rcases zdisf h with ⟨rfl, h⟩ | h
        · exact h2 _ _ _ _ _ h
        cases h) ok_Machine_build rfl (fun v S' h => zkV_inv h) (Nat.le_of_ble_eq_true rfl) (fun g H Hw => Hw _ [some (.ref a0), some (.ref a1), some (.int a2), none, none] _ _ _ ⟨rfl, rfl, rfl, trivial⟩ (G_Machine_build H Hw a0 a1 a2 S hp))
      exact ⟨_, _, h, hm.1, rfl, fun _ => ⟨_, _, rfl⟩, (fun _ U H hK hH a r e => by cases e; exact zrecv (ci := 3) (by omega) hkd rfl U H hK hH), hm.2⟩
    · cases hp
  · cases h
def zP_Script_buildMachines : List (List (Nat × zE)) := [[(0, ei (.iconst 0) 1 0 (0)), (1, e1 (.istore_n 1) 2 1), (2, e1 (.iload_n 1) 3 1), (3, e1 (.aload_n 0) 4 0), (4, e3 (.getfield 33) 7 10 5 0), (7, e1 (.if_icmp .ge 37) 10 44), (10, e1 (.aload_n 0) 11 0), (11, e1 (.iload_n 1) 12 1), (12, e3 (.invokevirtual 39) 15 0 2 0), (15, e1 (.astore_n 2) 16 2)],
  [(16, e1 (.aload_n 2) 17 2), (17, e1 (.ifnull 21) 20 38), (20, e1 (.aload_n 2) 21 2), (21, e3 (.getfield 63) 24 5 1 2), (24, e1 (.aload_n 2) 25 2), (25, ei (.iconst 0) 26 0 (0)), (26, e3 (.invokevirtual 67) 29 1 3 0), (29, e1 (.aload_n 2) 30 2), (30, e3 (.getfield 73) 33 5 2 2)],
  [(33, e1 (.aload_n 2) 34 2), (34, ei (.iconst 1) 35 0 (1)), (35, e3 (.invokevirtual 67) 38 1 3 0), (38, ei (.iinc 1 1) 41 1 (1)), (41, e1 (.goto (-39)) 44 2), (44, e0 (.return_) 45)]]
noncomputable def zE_Script_buildMachines (α : Type) : Nat → zX α := fun i => bif Nat.beq i 0 then zA_vRI_N 10 f_Script_passAt else bif Nat.beq i 1 then zA_vRRI_V 3 f_Machine_build else fun _ _ _ => none
def zc_Script_buildMachines : Nat → Bool := fun pc => Nat.beq pc 2
def D_Script_buildMachines_2 (k : Nat → Int32 → zM → Option zM) (lv : zV) (st : List Value) (S : zM) : Option zM := match lv, st with
  | [some (.ref a0), some (.int a1), _], [] => k a0 a1 S
  | _, _ => none
theorem d_Script_buildMachines_2 {g : zV → Nat → List Value → zM → Prop} (Hw : zWk g) {k : Nat → Int32 → zM → Option zM} {res : zM} {lv : zV} {st : List Value} {S : zM} (h : D_Script_buildMachines_2 k lv st S = some res) (hk : ∀ a0 a1 S, k a0 a1 S = some res → g [some (.ref a0), some (.int a1), none] 2 [] S) : g lv 2 st S := by
  unfold D_Script_buildMachines_2 at h
  split at h
  · exact Hw _ _ _ _ _ (by simp [zle]) (hk _ _ _  h)
  · cases h
set_option maxRecDepth 100000 in
theorem r_Script_buildMachines_2 (n : Nat) (a0 : Nat) (a1 : Int32) (S : zM) : L_Script_buildMachines_2 (n + 1) a0 a1 S = zrt false zP_Script_buildMachines (zE_Script_buildMachines zM) zc_Script_buildMachines zkV (fun pc lv st S => bif Nat.beq pc 2 then D_Script_buildMachines_2 (L_Script_buildMachines_2 n) lv st S else none) 1000 2 [some (.ref a0), some (.int a1), none] [] S := rfl
theorem g_Script_buildMachines_2 {g : zV → Nat → List Value → zM → Prop} {res : zM} (H : zCl false zP_Script_buildMachines (zE_Script_buildMachines zM) zkV res g) (Hw : zWk g) (n : Nat) : ∀ (a0 : Nat) (a1 : Int32) (S : zM), L_Script_buildMachines_2 n a0 a1 S = some res → g [some (.ref a0), some (.int a1), none] 2 [] S := by
  induction n with
  | zero => intro a0 a1 S h; cases h
  | succ n ih =>
    intro a0 a1 S h
    refine H zc_Script_buildMachines _ 1000 _ _ _ _ ((r_Script_buildMachines_2 n a0 a1 S).symm.trans h) (fun pc lv st S hK => ?_)
    rcases zdis hK with ⟨rfl, hK⟩ | hK
    · exact d_Script_buildMachines_2 Hw hK ih
    cases hK
set_option maxRecDepth 100000 in
theorem r_Script_buildMachines (a0 : Nat) (S : zM) : f_Script_buildMachines a0 S = zrt false zP_Script_buildMachines (zE_Script_buildMachines zM) zc_Script_buildMachines zkV (fun pc lv st S => bif Nat.beq pc 2 then D_Script_buildMachines_2 (L_Script_buildMachines_2 zF) lv st S else none) 1000 0 [some (.ref a0), none, none] [] S := rfl
theorem G_Script_buildMachines {g : zV → Nat → List Value → zM → Prop} {res : zM} (H : zCl false zP_Script_buildMachines (zE_Script_buildMachines zM) zkV res g) (Hw : zWk g) (a0 : Nat) (S : zM) (h : f_Script_buildMachines a0 S = some res) : g [some (.ref a0), none, none] 0 [] S := by
  refine H zc_Script_buildMachines _ 1000 _ _ _ _ ((r_Script_buildMachines a0 S).symm.trans h) (fun pc lv st S hK => ?_)
  rcases zdis hK with ⟨rfl, hK⟩ | hK
  · exact d_Script_buildMachines_2 Hw hK (g_Script_buildMachines_2 H Hw  zF)
  cases hK
set_option maxRecDepth 100000 in
theorem ok_Script_buildMachines : zokT 10 [44, 52] false 3 73 3 false none cX10_buildMachines zP_Script_buildMachines = true := by decide +kernel
set_option maxRecDepth 100000 in
theorem s_Script_buildMachines {l : Launch} {HB : Heap} {b L : Nat} {xs : Nat → Int32} {aK aV : Nat → Nat} {G : va_G} {tc : Nat → ClassId} (h0 : zSnd l HB b L xs aK aV G tc (zMT.getD 44 zyD) (fun α => zA_vRI_N 10 f_Script_passAt)) (h1 : zSnd l HB b L xs aK aV G tc (zMT.getD 52 zyD) (fun α => zA_vRRI_V 3 f_Machine_build)) : zSnd l HB b L xs aK aV G tc (zMT.getD 53 zyD) (fun α => zA_vR_V 10 f_Script_buildMachines) := by
  rw [show zMT.getD 53 zyD = (yX10_buildMachines, cX10_buildMachines, 3, none, 0, 1, 3, 73) from rfl]
  intro α as S k res h
  unfold zA_vR_V at h
  dsimp only at h
  split at h
  · rename_i a0
    obtain ⟨p, hp, h⟩ := zbind h
    unfold zcl at hp
    split at hp
    · rename_i hkd
      have hm := zmeth (l := l) (HB := HB) (b := b) (L := L) (xs := xs) (aK := aK) (aV := aV) (G := G) (tc := tc) (q := (yX10_buildMachines, cX10_buildMachines, 3, none, 0, 1, 3, 73)) (o := 10) (cs := [44, 52]) (rz := false) (T := zP_Script_buildMachines) (E := zE_Script_buildMachines zM) (kr := zkV) (res := p) (v0 := none) (S0 := p) (as := [.ref a0]) (S := S) zMT_fine (by decide +kernel) (fun i as S k' h => by
        unfold zE_Script_buildMachines at h
        rcases zdisf h with ⟨rfl, h⟩ | h
        · exact h0 _ _ _ _ _ h
        rcases zdisf h with ⟨rfl, h⟩ | h
        · exact h1 _ _ _ _ _ h
        cases h) ok_Script_buildMachines rfl (fun v S' h => zkV_inv h) (Nat.le_of_ble_eq_true rfl) (fun g H Hw => Hw _ [some (.ref a0), none, none] _ _ _ ⟨rfl, trivial⟩ (G_Script_buildMachines H Hw a0 S hp))
      exact ⟨_, _, h, hm.1, rfl, fun _ => ⟨_, _, rfl⟩, (fun _ U H hK hH a r e => by cases e; exact zrecv (ci := 10) (by omega) hkd rfl U H hK hH), hm.2⟩
    · cases hp
  · cases h
def zP_Reader_read : List (List (Nat × zE)) := [[(0, e1 (.aload_n 0) 1 0), (1, e1 (.aload_n 1) 2 1), (2, e3 (.putfield 9) 5 7 0 2), (5, e1 (.aload_n 0) 6 0), (6, ei (.iconst 0) 7 0 (0)), (7, e1 (.iload_n 2) 8 2), (8, e1 (.aload_n 0) 9 0), (9, e3 (.getfield 9) 12 7 0 2), (12, e0 (.arraylength) 13), (13, e3 (.invokestatic 15) 16 996 2 0)],
  [(16, e3 (.invokestatic 21) 19 997 2 0), (19, e3 (.putfield 24) 22 7 1 0), (22, e1 (.aload_n 0) 23 0), (23, ei (.iconst 0) 24 0 (0)), (24, e3 (.putfield 28) 27 7 2 0), (27, e1 (.aload_n 0) 28 0), (28, e1 (.aload_n 3) 29 3), (29, e3 (.putfield 31) 32 7 3 2)],
  [(32, e1 (.aload_n 0) 33 0), (33, e0 (.aconst_null) 34), (34, e3 (.putfield 35) 37 7 4 2), (37, e1 (.aload_n 0) 38 0), (38, e3 (.getfield 31) 41 7 3 2), (41, e3 (.invokevirtual 39) 44 0 1 0), (44, e1 (.aload_n 0) 45 0), (45, e3 (.invokevirtual 44) 48 1 1 0)],
  [(48, e1 (.aload_n 0) 49 0), (49, ei (.iconst 1) 50 0 (1)), (50, e3 (.invokevirtual 47) 53 2 2 0), (53, e1 (.istore 4) 55 4), (55, ei (.iconst 0) 56 0 (0)), (56, e1 (.istore 5) 58 5), (58, e1 (.iload 5) 60 5), (60, e1 (.aload_n 0) 61 0), (61, e3 (.getfield 24) 64 7 1 0)],
  [(64, e1 (.if_icmp .ge 33) 67 97), (67, e1 (.iload 4) 69 4), (69, e1 (.ifCond .ne 28) 72 97), (72, e1 (.aload_n 0) 73 0), (73, e3 (.getfield 51) 76 7 5 0), (76, ei (.iconst 3) 77 0 (3)), (77, e1 (.if_icmp .ne 20) 80 97)],
  [(80, e1 (.aload_n 0) 81 0), (81, e3 (.invokevirtual 44) 84 1 1 0), (84, e1 (.aload_n 0) 85 0), (85, ei (.iconst 0) 86 0 (0)), (86, e3 (.invokevirtual 47) 89 2 2 0), (89, e1 (.istore 4) 91 4), (91, ei (.iinc 5 1) 94 5 (1)), (94, e1 (.goto (-36)) 97 58)],
  [(97, e1 (.iload 4) 99 4), (99, e1 (.ifCond .ne 13) 102 112), (102, e1 (.aload_n 0) 103 0), (103, e3 (.getfield 51) 106 7 5 0), (106, e1 (.ifCond .eq 6) 109 112), (109, ei (.iconst 1) 110 0 (1)), (110, e1 (.istore 4) 112 4)],
  [(112, e1 (.iload 4) 114 4), (114, e1 (.ifCond .ne 17) 117 131), (117, e1 (.aload_n 0) 118 0), (118, e3 (.getfield 31) 121 7 3 2), (121, e3 (.invokevirtual 54) 124 3 1 0), (124, e1 (.ifCond .ne 7) 127 131), (127, ei (.bipush 6) 129 0 (6))],
  [(129, e1 (.istore 4) 131 4), (131, e1 (.aload_n 0) 132 0), (132, e1 (.aload_n 0) 133 0), (133, e3 (.getfield 58) 136 7 6 0), (136, e3 (.putfield 61) 139 7 7 0), (139, e1 (.iload 4) 141 4), (141, e1 (.ifCond .ne 10) 144 151)],
  [(144, e1 (.aload_n 0) 145 0), (145, e3 (.getfield 31) 148 7 3 2), (148, e3 (.invokevirtual 64) 151 4 1 0), (151, e1 (.iload 4) 153 4), (153, e0 (.ireturn) 154)]]
noncomputable def zE_Reader_read (α : Type) : Nat → zX α := fun i => bif Nat.beq i 0 then zA_vR_V 10 f_Script_drop else bif Nat.beq i 1 then zA_vR_V 7 f_Reader_next else bif Nat.beq i 2 then zA_vRI_I 7 f_Reader_line else bif Nat.beq i 3 then zA_vR_I 10 f_Script_ruleCount else bif Nat.beq i 4 then zA_vR_V 10 f_Script_buildMachines else fun _ _ _ => none
def zc_Reader_read : Nat → Bool := fun pc => Nat.beq pc 58 || Nat.beq pc 97
def D_Reader_read_58 (k : Nat → Int32 → Int32 → zM → Option (Int32 × zM)) (lv : zV) (st : List Value) (S : zM) : Option (Int32 × zM) := match lv, st with
  | [some (.ref a0), _, _, _, some (.int a4), some (.int a5)], [] => k a0 a4 a5 S
  | _, _ => none
theorem d_Reader_read_58 {g : zV → Nat → List Value → zM → Prop} (Hw : zWk g) {k : Nat → Int32 → Int32 → zM → Option (Int32 × zM)} {res : (Int32 × zM)} {lv : zV} {st : List Value} {S : zM} (h : D_Reader_read_58 k lv st S = some res) (hk : ∀ a0 a4 a5 S, k a0 a4 a5 S = some res → g [some (.ref a0), none, none, none, some (.int a4), some (.int a5)] 58 [] S) : g lv 58 st S := by
  unfold D_Reader_read_58 at h
  split at h
  · exact Hw _ _ _ _ _ (by simp [zle]) (hk _ _ _ _  h)
  · cases h
def D_Reader_read_97 (k : Nat → Int32 → zM → Option (Int32 × zM)) (lv : zV) (st : List Value) (S : zM) : Option (Int32 × zM) := match lv, st with
  | [some (.ref a0), _, _, _, some (.int a4), _], [] => k a0 a4 S
  | _, _ => none
theorem d_Reader_read_97 {g : zV → Nat → List Value → zM → Prop} (Hw : zWk g) {k : Nat → Int32 → zM → Option (Int32 × zM)} {res : (Int32 × zM)} {lv : zV} {st : List Value} {S : zM} (h : D_Reader_read_97 k lv st S = some res) (hk : ∀ a0 a4 S, k a0 a4 S = some res → g [some (.ref a0), none, none, none, some (.int a4), none] 97 [] S) : g lv 97 st S := by
  unfold D_Reader_read_97 at h
  split at h
  · exact Hw _ _ _ _ _ (by simp [zle]) (hk _ _ _  h)
  · cases h
set_option maxRecDepth 100000 in
theorem r_Reader_read_97 (a0 : Nat) (a4 : Int32) (S : zM) : F_Reader_read_97 a0 a4 S = zrt false zP_Reader_read (zE_Reader_read (Int32 × zM)) zc_Reader_read zkI (fun pc lv st S => none) 1000 97 [some (.ref a0), none, none, none, some (.int a4), none] [] S := rfl
theorem g_Reader_read_97 {g : zV → Nat → List Value → zM → Prop} {res : (Int32 × zM)} (H : zCl false zP_Reader_read (zE_Reader_read (Int32 × zM)) zkI res g) (Hw : zWk g) (a0 : Nat) (a4 : Int32) (S : zM) (h : F_Reader_read_97 a0 a4 S = some res) : g [some (.ref a0), none, none, none, some (.int a4), none] 97 [] S := by
  refine H zc_Reader_read _ 1000 _ _ _ _ ((r_Reader_read_97 a0 a4 S).symm.trans h) (fun pc lv st S hK => ?_)
  cases hK
set_option maxRecDepth 100000 in
theorem r_Reader_read_58 (k97 : Nat → Int32 → zM → Option (Int32 × zM)) (n : Nat) (a0 : Nat) (a4 : Int32) (a5 : Int32) (S : zM) : L_Reader_read_58 k97 (n + 1) a0 a4 a5 S = zrt false zP_Reader_read (zE_Reader_read (Int32 × zM)) zc_Reader_read zkI (fun pc lv st S => bif Nat.beq pc 58 then D_Reader_read_58 (L_Reader_read_58 k97 n) lv st S else bif Nat.beq pc 97 then D_Reader_read_97 k97 lv st S else none) 1000 58 [some (.ref a0), none, none, none, some (.int a4), some (.int a5)] [] S := rfl
theorem g_Reader_read_58 {g : zV → Nat → List Value → zM → Prop} {res : (Int32 × zM)} (H : zCl false zP_Reader_read (zE_Reader_read (Int32 × zM)) zkI res g) (Hw : zWk g) {k97 : Nat → Int32 → zM → Option (Int32 × zM)} (hk97 : ∀ a0 a4 S, k97 a0 a4 S = some res → g [some (.ref a0), none, none, none, some (.int a4), none] 97 [] S) (n : Nat) : ∀ (a0 : Nat) (a4 : Int32) (a5 : Int32) (S : zM), L_Reader_read_58 k97 n a0 a4 a5 S = some res → g [some (.ref a0), none, none, none, some (.int a4), some (.int a5)] 58 [] S := by
  induction n with
  | zero => intro a0 a4 a5 S h; cases h
  | succ n ih =>
    intro a0 a4 a5 S h
    refine H zc_Reader_read _ 1000 _ _ _ _ ((r_Reader_read_58 k97 n a0 a4 a5 S).symm.trans h) (fun pc lv st S hK => ?_)
    rcases zdis hK with ⟨rfl, hK⟩ | hK
    · exact d_Reader_read_58 Hw hK ih
    rcases zdis hK with ⟨rfl, hK⟩ | hK
    · exact d_Reader_read_97 Hw hK hk97
    cases hK
set_option maxRecDepth 100000 in
theorem r_Reader_read (a0 : Nat) (a1 : Nat) (a2 : Int32) (a3 : Nat) (S : zM) : f_Reader_read a0 a1 a2 a3 S = zrt false zP_Reader_read (zE_Reader_read (Int32 × zM)) zc_Reader_read zkI (fun pc lv st S => bif Nat.beq pc 58 then D_Reader_read_58 (L_Reader_read_58 (F_Reader_read_97) zF) lv st S else none) 1000 0 [some (.ref a0), some (.ref a1), some (.int a2), some (.ref a3), none, none] [] S := rfl
theorem G_Reader_read {g : zV → Nat → List Value → zM → Prop} {res : (Int32 × zM)} (H : zCl false zP_Reader_read (zE_Reader_read (Int32 × zM)) zkI res g) (Hw : zWk g) (a0 : Nat) (a1 : Nat) (a2 : Int32) (a3 : Nat) (S : zM) (h : f_Reader_read a0 a1 a2 a3 S = some res) : g [some (.ref a0), some (.ref a1), some (.int a2), some (.ref a3), none, none] 0 [] S := by
  refine H zc_Reader_read _ 1000 _ _ _ _ ((r_Reader_read a0 a1 a2 a3 S).symm.trans h) (fun pc lv st S hK => ?_)
  rcases zdis hK with ⟨rfl, hK⟩ | hK
  · exact d_Reader_read_58 Hw hK (g_Reader_read_58 H Hw (g_Reader_read_97 H Hw ) zF)
  cases hK
set_option maxRecDepth 100000 in
theorem ok_Reader_read : zokT 7 [17, 19, 43, 45, 53] false 10 257 6 false (some .int) cX7_read zP_Reader_read = true := by decide +kernel
set_option maxRecDepth 100000 in
theorem s_Reader_read {l : Launch} {HB : Heap} {b L : Nat} {xs : Nat → Int32} {aK aV : Nat → Nat} {G : va_G} {tc : Nat → ClassId} (h0 : zSnd l HB b L xs aK aV G tc (zMT.getD 17 zyD) (fun α => zA_vR_V 10 f_Script_drop)) (h1 : zSnd l HB b L xs aK aV G tc (zMT.getD 19 zyD) (fun α => zA_vR_V 7 f_Reader_next)) (h2 : zSnd l HB b L xs aK aV G tc (zMT.getD 43 zyD) (fun α => zA_vRI_I 7 f_Reader_line)) (h3 : zSnd l HB b L xs aK aV G tc (zMT.getD 45 zyD) (fun α => zA_vR_I 10 f_Script_ruleCount)) (h4 : zSnd l HB b L xs aK aV G tc (zMT.getD 53 zyD) (fun α => zA_vR_V 10 f_Script_buildMachines)) : zSnd l HB b L xs aK aV G tc (zMT.getD 54 zyD) (fun α => zA_vRRIR_I 7 f_Reader_read) := by
  rw [show zMT.getD 54 zyD = (yX7_read, cX7_read, 6, (some .int), 0, 4, 10, 257) from rfl]
  intro α as S k res h
  unfold zA_vRRIR_I at h
  dsimp only at h
  split at h
  · rename_i a0 a1 a2 a3
    obtain ⟨p, hp, h⟩ := zbind h
    unfold zcl at hp
    split at hp
    · rename_i hkd
      have hm := zmeth (l := l) (HB := HB) (b := b) (L := L) (xs := xs) (aK := aK) (aV := aV) (G := G) (tc := tc) (q := (yX7_read, cX7_read, 6, (some .int), 0, 4, 10, 257)) (o := 7) (cs := [17, 19, 43, 45, 53]) (rz := false) (T := zP_Reader_read) (E := zE_Reader_read (Int32 × zM)) (kr := zkI) (res := p) (v0 := some (.int p.1)) (S0 := p.2) (as := [.ref a0, .ref a1, .int a2, .ref a3]) (S := S) zMT_fine (by decide +kernel) (fun i as S k' h => by
        unfold zE_Reader_read at h
        rcases zdisf h with ⟨rfl, h⟩ | h
        · exact h0 _ _ _ _ _ h
        rcases zdisf h with ⟨rfl, h⟩ | h
        · exact h1 _ _ _ _ _ h
        rcases zdisf h with ⟨rfl, h⟩ | h
        · exact h2 _ _ _ _ _ h
        rcases zdisf h with ⟨rfl, h⟩ | h
        · exact h3 _ _ _ _ _ h
        rcases zdisf h with ⟨rfl, h⟩ | h
        · exact h4 _ _ _ _ _ h
        cases h) ok_Reader_read rfl (fun v S' h => zkI_inv h) (Nat.le_of_ble_eq_true rfl) (fun g H Hw => Hw _ [some (.ref a0), some (.ref a1), some (.int a2), some (.ref a3), none, none] _ _ _ ⟨rfl, rfl, rfl, rfl, trivial⟩ (G_Reader_read H Hw a0 a1 a2 a3 S hp))
      exact ⟨_, _, h, hm.1, rfl, fun _ => ⟨_, _, rfl⟩, (fun _ U H hK hH a r e => by cases e; exact zrecv (ci := 7) (by omega) hkd rfl U H hK hH), hm.2⟩
    · cases hp
  · cases h
def zP_Acts_drop : List (List (Nat × zE)) := [[(0, e1 (.aload_n 0) 1 0), (1, ei (.iconst 0) 2 0 (0)), (2, e3 (.putfield 15) 5 0 1 0), (5, e0 (.return_) 6)]]
noncomputable def zE_Acts_drop (α : Type) : Nat → zX α := fun _ => fun _ _ _ => none
def zc_Acts_drop : Nat → Bool := fun pc => false
set_option maxRecDepth 100000 in
theorem r_Acts_drop (a0 : Nat) (S : zM) : f_Acts_drop a0 S = zrt false zP_Acts_drop (zE_Acts_drop zM) zc_Acts_drop zkV (fun pc lv st S => none) 1000 0 [some (.ref a0)] [] S := rfl
theorem G_Acts_drop {g : zV → Nat → List Value → zM → Prop} {res : zM} (H : zCl false zP_Acts_drop (zE_Acts_drop zM) zkV res g) (Hw : zWk g) (a0 : Nat) (S : zM) (h : f_Acts_drop a0 S = some res) : g [some (.ref a0)] 0 [] S := by
  refine H zc_Acts_drop _ 1000 _ _ _ _ ((r_Acts_drop a0 S).symm.trans h) (fun pc lv st S hK => ?_)
  cases hK
set_option maxRecDepth 100000 in
theorem ok_Acts_drop : zokT 0 [] false 0 0 1 false none cX0_drop zP_Acts_drop = true := by decide +kernel
set_option maxRecDepth 100000 in
theorem s_Acts_drop {l : Launch} {HB : Heap} {b L : Nat} {xs : Nat → Int32} {aK aV : Nat → Nat} {G : va_G} {tc : Nat → ClassId} : zSnd l HB b L xs aK aV G tc (zMT.getD 55 zyD) (fun α => zA_vR_V 0 f_Acts_drop) := by
  rw [show zMT.getD 55 zyD = (yX0_drop, cX0_drop, 1, none, 0, 1, 0, 0) from rfl]
  intro α as S k res h
  unfold zA_vR_V at h
  dsimp only at h
  split at h
  · rename_i a0
    obtain ⟨p, hp, h⟩ := zbind h
    unfold zcl at hp
    split at hp
    · rename_i hkd
      have hm := zmeth (l := l) (HB := HB) (b := b) (L := L) (xs := xs) (aK := aK) (aV := aV) (G := G) (tc := tc) (q := (yX0_drop, cX0_drop, 1, none, 0, 1, 0, 0)) (o := 0) (cs := []) (rz := false) (T := zP_Acts_drop) (E := zE_Acts_drop zM) (kr := zkV) (res := p) (v0 := none) (S0 := p) (as := [.ref a0]) (S := S) zMT_fine (by decide +kernel) (fun i as S k' h => by
        unfold zE_Acts_drop at h
        cases h) ok_Acts_drop rfl (fun v S' h => zkV_inv h) (Nat.le_of_ble_eq_true rfl) (fun g H Hw => Hw _ [some (.ref a0)] _ _ _ ⟨rfl, trivial⟩ (G_Acts_drop H Hw a0 S hp))
      exact ⟨_, _, h, hm.1, rfl, fun _ => ⟨_, _, rfl⟩, (fun _ U H hK hH a r e => by cases e; exact zrecv (ci := 0) (by omega) hkd rfl U H hK hH), hm.2⟩
    · cases hp
  · cases h
def zP_Outcomes_forget : List (List (Nat × zE)) := [[(0, e1 (.aload_n 0) 1 0), (1, e3 (.getfield 19) 4 4 2 2), (4, ei (.iconst 0) 5 0 (0)), (5, e3 (.invokestatic 22) 8 0 2 0), (8, e0 (.return_) 9)]]
noncomputable def zE_Outcomes_forget (α : Type) : Nat → zX α := fun i => bif Nat.beq i 0 then zA_RI_V f_J_fill else fun _ _ _ => none
def zc_Outcomes_forget : Nat → Bool := fun pc => false
set_option maxRecDepth 100000 in
theorem r_Outcomes_forget (a0 : Nat) (S : zM) : f_Outcomes_forget a0 S = zrt false zP_Outcomes_forget (zE_Outcomes_forget zM) zc_Outcomes_forget zkV (fun pc lv st S => none) 1000 0 [some (.ref a0)] [] S := rfl
theorem G_Outcomes_forget {g : zV → Nat → List Value → zM → Prop} {res : zM} (H : zCl false zP_Outcomes_forget (zE_Outcomes_forget zM) zkV res g) (Hw : zWk g) (a0 : Nat) (S : zM) (h : f_Outcomes_forget a0 S = some res) : g [some (.ref a0)] 0 [] S := by
  refine H zc_Outcomes_forget _ 1000 _ _ _ _ ((r_Outcomes_forget a0 S).symm.trans h) (fun pc lv st S hK => ?_)
  cases hK
set_option maxRecDepth 100000 in
theorem ok_Outcomes_forget : zokT 4 [46] false 1 23 1 false none cX4_forget zP_Outcomes_forget = true := by decide +kernel
set_option maxRecDepth 100000 in
theorem s_Outcomes_forget {l : Launch} {HB : Heap} {b L : Nat} {xs : Nat → Int32} {aK aV : Nat → Nat} {G : va_G} {tc : Nat → ClassId} (h0 : zSnd l HB b L xs aK aV G tc (zMT.getD 46 zyD) (fun α => zA_RI_V f_J_fill)) : zSnd l HB b L xs aK aV G tc (zMT.getD 56 zyD) (fun α => zA_vR_V 4 f_Outcomes_forget) := by
  rw [show zMT.getD 56 zyD = (yX4_forget, cX4_forget, 1, none, 0, 1, 1, 23) from rfl]
  intro α as S k res h
  unfold zA_vR_V at h
  dsimp only at h
  split at h
  · rename_i a0
    obtain ⟨p, hp, h⟩ := zbind h
    unfold zcl at hp
    split at hp
    · rename_i hkd
      have hm := zmeth (l := l) (HB := HB) (b := b) (L := L) (xs := xs) (aK := aK) (aV := aV) (G := G) (tc := tc) (q := (yX4_forget, cX4_forget, 1, none, 0, 1, 1, 23)) (o := 4) (cs := [46]) (rz := false) (T := zP_Outcomes_forget) (E := zE_Outcomes_forget zM) (kr := zkV) (res := p) (v0 := none) (S0 := p) (as := [.ref a0]) (S := S) zMT_fine (by decide +kernel) (fun i as S k' h => by
        unfold zE_Outcomes_forget at h
        rcases zdisf h with ⟨rfl, h⟩ | h
        · exact h0 _ _ _ _ _ h
        cases h) ok_Outcomes_forget rfl (fun v S' h => zkV_inv h) (Nat.le_of_ble_eq_true rfl) (fun g H Hw => Hw _ [some (.ref a0)] _ _ _ ⟨rfl, trivial⟩ (G_Outcomes_forget H Hw a0 S hp))
      exact ⟨_, _, h, hm.1, rfl, fun _ => ⟨_, _, rfl⟩, (fun _ U H hK hH a r e => by cases e; exact zrecv (ci := 4) (by omega) hkd rfl U H hK hH), hm.2⟩
    · cases hp
  · cases h
def zP_Census_forget : List (List (Nat × zE)) := [[(0, e1 (.aload_n 0) 1 0), (1, e3 (.getfield 12) 4 2 0 2), (4, e3 (.invokevirtual 60) 7 0 1 0), (7, e1 (.aload_n 0) 8 0), (8, e3 (.getfield 51) 11 2 8 2), (11, ei (.bipush (-3)) 13 0 (-3)), (13, e3 (.invokestatic 54) 16 1 2 0)],
  [(16, e1 (.aload_n 0) 17 0), (17, ei (.iconst 0) 18 0 (0)), (18, e3 (.putfield 63) 21 2 10 0), (21, e1 (.aload_n 0) 22 0), (22, ei (.iconst 0) 23 0 (0)), (23, e3 (.putfield 67) 26 2 11 0), (26, e0 (.return_) 27)]]
noncomputable def zE_Census_forget (α : Type) : Nat → zX α := fun i => bif Nat.beq i 0 then zA_vR_V 4 f_Outcomes_forget else bif Nat.beq i 1 then zA_RI_V f_J_fill else fun _ _ _ => none
def zc_Census_forget : Nat → Bool := fun pc => false
set_option maxRecDepth 100000 in
theorem r_Census_forget (a0 : Nat) (S : zM) : f_Census_forget a0 S = zrt false zP_Census_forget (zE_Census_forget zM) zc_Census_forget zkV (fun pc lv st S => none) 1000 0 [some (.ref a0)] [] S := rfl
theorem G_Census_forget {g : zV → Nat → List Value → zM → Prop} {res : zM} (H : zCl false zP_Census_forget (zE_Census_forget zM) zkV res g) (Hw : zWk g) (a0 : Nat) (S : zM) (h : f_Census_forget a0 S = some res) : g [some (.ref a0)] 0 [] S := by
  refine H zc_Census_forget _ 1000 _ _ _ _ ((r_Census_forget a0 S).symm.trans h) (fun pc lv st S hK => ?_)
  cases hK
set_option maxRecDepth 100000 in
theorem ok_Census_forget : zokT 2 [56, 46] false 2 43 1 false none cX2_forget zP_Census_forget = true := by decide +kernel
set_option maxRecDepth 100000 in
theorem s_Census_forget {l : Launch} {HB : Heap} {b L : Nat} {xs : Nat → Int32} {aK aV : Nat → Nat} {G : va_G} {tc : Nat → ClassId} (h0 : zSnd l HB b L xs aK aV G tc (zMT.getD 56 zyD) (fun α => zA_vR_V 4 f_Outcomes_forget)) (h1 : zSnd l HB b L xs aK aV G tc (zMT.getD 46 zyD) (fun α => zA_RI_V f_J_fill)) : zSnd l HB b L xs aK aV G tc (zMT.getD 57 zyD) (fun α => zA_vR_V 2 f_Census_forget) := by
  rw [show zMT.getD 57 zyD = (yX2_forget, cX2_forget, 1, none, 0, 1, 2, 43) from rfl]
  intro α as S k res h
  unfold zA_vR_V at h
  dsimp only at h
  split at h
  · rename_i a0
    obtain ⟨p, hp, h⟩ := zbind h
    unfold zcl at hp
    split at hp
    · rename_i hkd
      have hm := zmeth (l := l) (HB := HB) (b := b) (L := L) (xs := xs) (aK := aK) (aV := aV) (G := G) (tc := tc) (q := (yX2_forget, cX2_forget, 1, none, 0, 1, 2, 43)) (o := 2) (cs := [56, 46]) (rz := false) (T := zP_Census_forget) (E := zE_Census_forget zM) (kr := zkV) (res := p) (v0 := none) (S0 := p) (as := [.ref a0]) (S := S) zMT_fine (by decide +kernel) (fun i as S k' h => by
        unfold zE_Census_forget at h
        rcases zdisf h with ⟨rfl, h⟩ | h
        · exact h0 _ _ _ _ _ h
        rcases zdisf h with ⟨rfl, h⟩ | h
        · exact h1 _ _ _ _ _ h
        cases h) ok_Census_forget rfl (fun v S' h => zkV_inv h) (Nat.le_of_ble_eq_true rfl) (fun g H Hw => Hw _ [some (.ref a0)] _ _ _ ⟨rfl, trivial⟩ (G_Census_forget H Hw a0 S hp))
      exact ⟨_, _, h, hm.1, rfl, fun _ => ⟨_, _, rfl⟩, (fun _ U H hK hH a r e => by cases e; exact zrecv (ci := 2) (by omega) hkd rfl U H hK hH), hm.2⟩
    · cases hp
  · cases h
def zP_Cl_forgetWords : List (List (Nat × zE)) := [[(0, e1 (.aload_n 0) 1 0), (1, e3 (.getfield 326) 4 11 12 3), (4, e1 (.ifnull 10) 7 14), (7, e1 (.aload_n 0) 8 0), (8, e3 (.getfield 326) 11 11 12 2), (11, e3 (.invokevirtual 335) 14 0 1 0), (14, e0 (.return_) 15)]]
noncomputable def zE_Cl_forgetWords (α : Type) : Nat → zX α := fun i => bif Nat.beq i 0 then zA_vR_V 2 f_Census_forget else fun _ _ _ => none
def zc_Cl_forgetWords : Nat → Bool := fun pc => false
set_option maxRecDepth 100000 in
theorem r_Cl_forgetWords (a0 : Nat) (S : zM) : f_Cl_forgetWords a0 S = zrt false zP_Cl_forgetWords (zE_Cl_forgetWords zM) zc_Cl_forgetWords zkV (fun pc lv st S => none) 1000 0 [some (.ref a0)] [] S := rfl
theorem G_Cl_forgetWords {g : zV → Nat → List Value → zM → Prop} {res : zM} (H : zCl false zP_Cl_forgetWords (zE_Cl_forgetWords zM) zkV res g) (Hw : zWk g) (a0 : Nat) (S : zM) (h : f_Cl_forgetWords a0 S = some res) : g [some (.ref a0)] 0 [] S := by
  refine H zc_Cl_forgetWords _ 1000 _ _ _ _ ((r_Cl_forgetWords a0 S).symm.trans h) (fun pc lv st S hK => ?_)
  cases hK
set_option maxRecDepth 100000 in
theorem ok_Cl_forgetWords : zokT 11 [57] false 3 63 1 false none cX11_forgetWords zP_Cl_forgetWords = true := by decide +kernel
set_option maxRecDepth 100000 in
theorem s_Cl_forgetWords {l : Launch} {HB : Heap} {b L : Nat} {xs : Nat → Int32} {aK aV : Nat → Nat} {G : va_G} {tc : Nat → ClassId} (h0 : zSnd l HB b L xs aK aV G tc (zMT.getD 57 zyD) (fun α => zA_vR_V 2 f_Census_forget)) : zSnd l HB b L xs aK aV G tc (zMT.getD 58 zyD) (fun α => zA_vR_V 11 f_Cl_forgetWords) := by
  rw [show zMT.getD 58 zyD = (yX11_forgetWords, cX11_forgetWords, 1, none, 0, 1, 3, 63) from rfl]
  intro α as S k res h
  unfold zA_vR_V at h
  dsimp only at h
  split at h
  · rename_i a0
    obtain ⟨p, hp, h⟩ := zbind h
    unfold zcl at hp
    split at hp
    · rename_i hkd
      have hm := zmeth (l := l) (HB := HB) (b := b) (L := L) (xs := xs) (aK := aK) (aV := aV) (G := G) (tc := tc) (q := (yX11_forgetWords, cX11_forgetWords, 1, none, 0, 1, 3, 63)) (o := 11) (cs := [57]) (rz := false) (T := zP_Cl_forgetWords) (E := zE_Cl_forgetWords zM) (kr := zkV) (res := p) (v0 := none) (S0 := p) (as := [.ref a0]) (S := S) zMT_fine (by decide +kernel) (fun i as S k' h => by
        unfold zE_Cl_forgetWords at h
        rcases zdisf h with ⟨rfl, h⟩ | h
        · exact h0 _ _ _ _ _ h
        cases h) ok_Cl_forgetWords rfl (fun v S' h => zkV_inv h) (Nat.le_of_ble_eq_true rfl) (fun g H Hw => Hw _ [some (.ref a0)] _ _ _ ⟨rfl, trivial⟩ (G_Cl_forgetWords H Hw a0 S hp))
      exact ⟨_, _, h, hm.1, rfl, fun _ => ⟨_, _, rfl⟩, (fun _ U H hK hH a r e => by cases e; exact zrecv (ci := 11) (by omega) hkd rfl U H hK hH), hm.2⟩
    · cases hp
  · cases h
def zP_Cl_answer : List (List (Nat × zE)) := [[(0, e1 (.aload_n 0) 1 0), (1, ei (.iconst 0) 2 0 (0)), (2, e3 (.putfield 112) 5 11 16 0), (5, e1 (.iload_n 1) 6 1), (6, e0 (.ireturn) 7)]]
noncomputable def zE_Cl_answer (α : Type) : Nat → zX α := fun _ => fun _ _ _ => none
def zc_Cl_answer : Nat → Bool := fun pc => false
set_option maxRecDepth 100000 in
theorem r_Cl_answer (a0 : Nat) (a1 : Int32) (S : zM) : f_Cl_answer a0 a1 S = zrt false zP_Cl_answer (zE_Cl_answer (Int32 × zM)) zc_Cl_answer zkI (fun pc lv st S => none) 1000 0 [some (.ref a0), some (.int a1)] [] S := rfl
theorem G_Cl_answer {g : zV → Nat → List Value → zM → Prop} {res : (Int32 × zM)} (H : zCl false zP_Cl_answer (zE_Cl_answer (Int32 × zM)) zkI res g) (Hw : zWk g) (a0 : Nat) (a1 : Int32) (S : zM) (h : f_Cl_answer a0 a1 S = some res) : g [some (.ref a0), some (.int a1)] 0 [] S := by
  refine H zc_Cl_answer _ 1000 _ _ _ _ ((r_Cl_answer a0 a1 S).symm.trans h) (fun pc lv st S hK => ?_)
  cases hK
set_option maxRecDepth 100000 in
theorem ok_Cl_answer : zokT 11 [] false 0 0 2 false (some .int) cX11_answer zP_Cl_answer = true := by decide +kernel
set_option maxRecDepth 100000 in
theorem s_Cl_answer {l : Launch} {HB : Heap} {b L : Nat} {xs : Nat → Int32} {aK aV : Nat → Nat} {G : va_G} {tc : Nat → ClassId} : zSnd l HB b L xs aK aV G tc (zMT.getD 59 zyD) (fun α => zA_vRI_I 11 f_Cl_answer) := by
  rw [show zMT.getD 59 zyD = (yX11_answer, cX11_answer, 2, (some .int), 0, 2, 0, 0) from rfl]
  intro α as S k res h
  unfold zA_vRI_I at h
  dsimp only at h
  split at h
  · rename_i a0 a1
    obtain ⟨p, hp, h⟩ := zbind h
    unfold zcl at hp
    split at hp
    · rename_i hkd
      have hm := zmeth (l := l) (HB := HB) (b := b) (L := L) (xs := xs) (aK := aK) (aV := aV) (G := G) (tc := tc) (q := (yX11_answer, cX11_answer, 2, (some .int), 0, 2, 0, 0)) (o := 11) (cs := []) (rz := false) (T := zP_Cl_answer) (E := zE_Cl_answer (Int32 × zM)) (kr := zkI) (res := p) (v0 := some (.int p.1)) (S0 := p.2) (as := [.ref a0, .int a1]) (S := S) zMT_fine (by decide +kernel) (fun i as S k' h => by
        unfold zE_Cl_answer at h
        cases h) ok_Cl_answer rfl (fun v S' h => zkI_inv h) (Nat.le_of_ble_eq_true rfl) (fun g H Hw => Hw _ [some (.ref a0), some (.int a1)] _ _ _ ⟨rfl, rfl, trivial⟩ (G_Cl_answer H Hw a0 a1 S hp))
      exact ⟨_, _, h, hm.1, rfl, fun _ => ⟨_, _, rfl⟩, (fun _ U H hK hH a r e => by cases e; exact zrecv (ci := 11) (by omega) hkd rfl U H hK hH), hm.2⟩
    · cases hp
  · cases h
def zP_Cl_script : List (List (Nat × zE)) := [[(0, e1 (.iload_n 1) 1 1), (1, e1 (.ifCond .lt 11) 4 12), (4, e1 (.iload_n 1) 5 1), (5, e1 (.aload_n 0) 6 0), (6, e3 (.getfield 72) 9 11 13 0), (9, e1 (.if_icmp .le 9) 12 18), (12, e1 (.aload_n 0) 13 0), (13, ei (.iconst 2) 14 0 (2)), (14, e3 (.invokevirtual 79) 17 0 2 0)],
  [(17, e0 (.ireturn) 18), (18, e1 (.aload_n 0) 19 0), (19, ei (.iconst 0) 20 0 (0)), (20, e3 (.putfield 72) 23 11 13 0), (23, e1 (.aload_n 0) 24 0), (24, e1 (.aload_n 0) 25 0), (25, e3 (.getfield 16) 28 11 1 2), (28, e1 (.aload_n 0) 29 0), (29, e3 (.getfield 9) 32 11 0 2)],
  [(32, e1 (.iload_n 1) 33 1), (33, e1 (.aload_n 0) 34 0), (34, e3 (.getfield 69) 37 11 11 2), (37, e3 (.invokevirtual 83) 40 1 4 0), (40, e3 (.putfield 87) 43 11 14 0), (43, e1 (.aload_n 0) 44 0), (44, e1 (.aload_n 0) 45 0), (45, e3 (.getfield 16) 48 11 1 2)],
  [(48, e3 (.getfield 90) 51 7 7 0), (51, e3 (.putfield 93) 54 11 15 0), (54, e1 (.aload_n 0) 55 0), (55, e3 (.getfield 87) 58 11 14 0), (58, e1 (.ifCond .eq 9) 61 67), (61, e1 (.aload_n 0) 62 0), (62, ei (.iconst 4) 63 0 (4)), (63, e3 (.invokevirtual 79) 66 0 2 0)],
  [(66, e0 (.ireturn) 67), (67, e1 (.aload_n 0) 68 0), (68, e3 (.getfield 65) 71 11 10 2), (71, e1 (.astore_n 2) 72 2), (72, e1 (.aload_n 0) 73 0), (73, e1 (.aload_n 0) 74 0), (74, e3 (.getfield 69) 77 11 11 2), (77, e3 (.putfield 65) 80 11 10 2)],
  [(80, e1 (.aload_n 0) 81 0), (81, e1 (.aload_n 2) 82 2), (82, e3 (.putfield 69) 85 11 11 2), (85, e1 (.aload_n 0) 86 0), (86, ei (.iconst 0) 87 0 (0)), (87, e3 (.putfield 96) 90 11 17 1), (90, e1 (.aload_n 0) 91 0), (91, e3 (.getfield 58) 94 11 9 2), (94, e3 (.invokevirtual 100) 97 2 1 0)],
  [(97, e1 (.aload_n 0) 98 0), (98, e3 (.invokevirtual 103) 101 3 1 0), (101, e1 (.aload_n 0) 102 0), (102, e1 (.aload_n 0) 103 0), (103, e3 (.getfield 65) 106 11 10 2), (106, e3 (.getfield 106) 109 10 5 0), (109, e3 (.invokevirtual 109) 112 4 2 0)],
  [(112, e0 (.ireturn) 113)]]
noncomputable def zE_Cl_script (α : Type) : Nat → zX α := fun i => bif Nat.beq i 0 then zA_vRI_I 11 f_Cl_refuse else bif Nat.beq i 1 then zA_vRRIR_I 7 f_Reader_read else bif Nat.beq i 2 then zA_vR_V 0 f_Acts_drop else bif Nat.beq i 3 then zA_vR_V 11 f_Cl_forgetWords else bif Nat.beq i 4 then zA_vRI_I 11 f_Cl_answer else fun _ _ _ => none
def zc_Cl_script : Nat → Bool := fun pc => false
set_option maxRecDepth 100000 in
theorem r_Cl_script (a0 : Nat) (a1 : Int32) (S : zM) : f_Cl_script a0 a1 S = zrt false zP_Cl_script (zE_Cl_script (Int32 × zM)) zc_Cl_script zkI (fun pc lv st S => none) 1000 0 [some (.ref a0), some (.int a1), none] [] S := rfl
theorem G_Cl_script {g : zV → Nat → List Value → zM → Prop} {res : (Int32 × zM)} (H : zCl false zP_Cl_script (zE_Cl_script (Int32 × zM)) zkI res g) (Hw : zWk g) (a0 : Nat) (a1 : Int32) (S : zM) (h : f_Cl_script a0 a1 S = some res) : g [some (.ref a0), some (.int a1), none] 0 [] S := by
  refine H zc_Cl_script _ 1000 _ _ _ _ ((r_Cl_script a0 a1 S).symm.trans h) (fun pc lv st S hK => ?_)
  cases hK
set_option maxRecDepth 100000 in
theorem ok_Cl_script : zokT 11 [16, 54, 55, 58, 59] false 11 282 3 false (some .int) cX11_script zP_Cl_script = true := by decide +kernel
set_option maxRecDepth 100000 in
theorem s_Cl_script {l : Launch} {HB : Heap} {b L : Nat} {xs : Nat → Int32} {aK aV : Nat → Nat} {G : va_G} {tc : Nat → ClassId} (h0 : zSnd l HB b L xs aK aV G tc (zMT.getD 16 zyD) (fun α => zA_vRI_I 11 f_Cl_refuse)) (h1 : zSnd l HB b L xs aK aV G tc (zMT.getD 54 zyD) (fun α => zA_vRRIR_I 7 f_Reader_read)) (h2 : zSnd l HB b L xs aK aV G tc (zMT.getD 55 zyD) (fun α => zA_vR_V 0 f_Acts_drop)) (h3 : zSnd l HB b L xs aK aV G tc (zMT.getD 58 zyD) (fun α => zA_vR_V 11 f_Cl_forgetWords)) (h4 : zSnd l HB b L xs aK aV G tc (zMT.getD 59 zyD) (fun α => zA_vRI_I 11 f_Cl_answer)) : zSnd l HB b L xs aK aV G tc (zMT.getD 60 zyD) (fun α => zA_vRI_I 11 f_Cl_script) := by
  rw [show zMT.getD 60 zyD = (yX11_script, cX11_script, 3, (some .int), 0, 2, 11, 282) from rfl]
  intro α as S k res h
  unfold zA_vRI_I at h
  dsimp only at h
  split at h
  · rename_i a0 a1
    obtain ⟨p, hp, h⟩ := zbind h
    unfold zcl at hp
    split at hp
    · rename_i hkd
      have hm := zmeth (l := l) (HB := HB) (b := b) (L := L) (xs := xs) (aK := aK) (aV := aV) (G := G) (tc := tc) (q := (yX11_script, cX11_script, 3, (some .int), 0, 2, 11, 282)) (o := 11) (cs := [16, 54, 55, 58, 59]) (rz := false) (T := zP_Cl_script) (E := zE_Cl_script (Int32 × zM)) (kr := zkI) (res := p) (v0 := some (.int p.1)) (S0 := p.2) (as := [.ref a0, .int a1]) (S := S) zMT_fine (by decide +kernel) (fun i as S k' h => by
        unfold zE_Cl_script at h
        rcases zdisf h with ⟨rfl, h⟩ | h
        · exact h0 _ _ _ _ _ h
        rcases zdisf h with ⟨rfl, h⟩ | h
        · exact h1 _ _ _ _ _ h
        rcases zdisf h with ⟨rfl, h⟩ | h
        · exact h2 _ _ _ _ _ h
        rcases zdisf h with ⟨rfl, h⟩ | h
        · exact h3 _ _ _ _ _ h
        rcases zdisf h with ⟨rfl, h⟩ | h
        · exact h4 _ _ _ _ _ h
        cases h) ok_Cl_script rfl (fun v S' h => zkI_inv h) (Nat.le_of_ble_eq_true rfl) (fun g H Hw => Hw _ [some (.ref a0), some (.int a1), none] _ _ _ ⟨rfl, rfl, trivial⟩ (G_Cl_script H Hw a0 a1 S hp))
      exact ⟨_, _, h, hm.1, rfl, fun _ => ⟨_, _, rfl⟩, (fun _ U H hK hH a r e => by cases e; exact zrecv (ci := 11) (by omega) hkd rfl U H hK hH), hm.2⟩
    · cases hp
  · cases h
def zP_Mo_fresh : List (List (Nat × zE)) := [[(0, e1 (.aload_n 0) 1 0), (1, ei (.iconst 0) 2 0 (0)), (2, e3 (.putfield 127) 5 12 0 0), (5, e1 (.aload_n 0) 6 0), (6, ei (.iconst 0) 7 0 (0)), (7, e3 (.putfield 130) 10 12 1 0), (10, e1 (.aload_n 0) 11 0), (11, ei (.iconst (-1)) 12 0 (-1)), (12, e3 (.putfield 9) 15 12 3 0), (15, e0 (.return_) 16)]]
noncomputable def zE_Mo_fresh (α : Type) : Nat → zX α := fun _ => fun _ _ _ => none
def zc_Mo_fresh : Nat → Bool := fun pc => false
set_option maxRecDepth 100000 in
theorem r_Mo_fresh (a0 : Nat) (S : zM) : f_Mo_fresh a0 S = zrt false zP_Mo_fresh (zE_Mo_fresh zM) zc_Mo_fresh zkV (fun pc lv st S => none) 1000 0 [some (.ref a0)] [] S := rfl
theorem G_Mo_fresh {g : zV → Nat → List Value → zM → Prop} {res : zM} (H : zCl false zP_Mo_fresh (zE_Mo_fresh zM) zkV res g) (Hw : zWk g) (a0 : Nat) (S : zM) (h : f_Mo_fresh a0 S = some res) : g [some (.ref a0)] 0 [] S := by
  refine H zc_Mo_fresh _ 1000 _ _ _ _ ((r_Mo_fresh a0 S).symm.trans h) (fun pc lv st S hK => ?_)
  cases hK
set_option maxRecDepth 100000 in
theorem ok_Mo_fresh : zokT 12 [] false 0 0 1 false none cX12_fresh zP_Mo_fresh = true := by decide +kernel
set_option maxRecDepth 100000 in
theorem s_Mo_fresh {l : Launch} {HB : Heap} {b L : Nat} {xs : Nat → Int32} {aK aV : Nat → Nat} {G : va_G} {tc : Nat → ClassId} : zSnd l HB b L xs aK aV G tc (zMT.getD 61 zyD) (fun α => zA_vR_V 12 f_Mo_fresh) := by
  rw [show zMT.getD 61 zyD = (yX12_fresh, cX12_fresh, 1, none, 0, 1, 0, 0) from rfl]
  intro α as S k res h
  unfold zA_vR_V at h
  dsimp only at h
  split at h
  · rename_i a0
    obtain ⟨p, hp, h⟩ := zbind h
    unfold zcl at hp
    split at hp
    · rename_i hkd
      have hm := zmeth (l := l) (HB := HB) (b := b) (L := L) (xs := xs) (aK := aK) (aV := aV) (G := G) (tc := tc) (q := (yX12_fresh, cX12_fresh, 1, none, 0, 1, 0, 0)) (o := 12) (cs := []) (rz := false) (T := zP_Mo_fresh) (E := zE_Mo_fresh zM) (kr := zkV) (res := p) (v0 := none) (S0 := p) (as := [.ref a0]) (S := S) zMT_fine (by decide +kernel) (fun i as S k' h => by
        unfold zE_Mo_fresh at h
        cases h) ok_Mo_fresh rfl (fun v S' h => zkV_inv h) (Nat.le_of_ble_eq_true rfl) (fun g H Hw => Hw _ [some (.ref a0)] _ _ _ ⟨rfl, trivial⟩ (G_Mo_fresh H Hw a0 S hp))
      exact ⟨_, _, h, hm.1, rfl, fun _ => ⟨_, _, rfl⟩, (fun _ U H hK hH a r e => by cases e; exact zrecv (ci := 12) (by omega) hkd rfl U H hK hH), hm.2⟩
    · cases hp
  · cases h
def zP_Mo_in : List (List (Nat × zE)) := [[(0, e1 (.iload_n 0) 1 0), (1, e1 (.iload_n 1) 2 1), (2, e1 (.if_icmp .lt 12) 5 14), (5, e1 (.iload_n 0) 6 0), (6, e1 (.iload_n 2) 7 2), (7, e1 (.if_icmp .gt 7) 10 14), (10, ei (.iconst 1) 11 0 (1)), (11, e1 (.goto 4) 14 15), (14, ei (.iconst 0) 15 0 (0)), (15, e0 (.ireturn) 16)]]
noncomputable def zE_Mo_in (α : Type) : Nat → zX α := fun _ => fun _ _ _ => none
def zc_Mo_in : Nat → Bool := fun pc => false
set_option maxRecDepth 100000 in
theorem r_Mo_in (a0 : Int32) (a1 : Int32) (a2 : Int32) (S : zM) : f_Mo_in a0 a1 a2 S = zrt true zP_Mo_in (zE_Mo_in (Int32 × zM)) zc_Mo_in zkI (fun pc lv st S => none) 1000 0 [some (.int a0), some (.int a1), some (.int a2)] [] S := rfl
theorem G_Mo_in {g : zV → Nat → List Value → zM → Prop} {res : (Int32 × zM)} (H : zCl true zP_Mo_in (zE_Mo_in (Int32 × zM)) zkI res g) (Hw : zWk g) (a0 : Int32) (a1 : Int32) (a2 : Int32) (S : zM) (h : f_Mo_in a0 a1 a2 S = some res) : g [some (.int a0), some (.int a1), some (.int a2)] 0 [] S := by
  refine H zc_Mo_in _ 1000 _ _ _ _ ((r_Mo_in a0 a1 a2 S).symm.trans h) (fun pc lv st S hK => ?_)
  cases hK
set_option maxRecDepth 100000 in
theorem ok_Mo_in : zokT 12 [] false 0 0 3 true (some .boolean) cX12_in zP_Mo_in = true := by decide +kernel
set_option maxRecDepth 100000 in
theorem s_Mo_in {l : Launch} {HB : Heap} {b L : Nat} {xs : Nat → Int32} {aK aV : Nat → Nat} {G : va_G} {tc : Nat → ClassId} : zSnd l HB b L xs aK aV G tc (zMT.getD 62 zyD) (fun α => zA_III_I f_Mo_in) := by
  rw [show zMT.getD 62 zyD = (yX12_in, cX12_in, 3, (some .boolean), 1, 3, 0, 0) from rfl]
  intro α as S k res h
  unfold zA_III_I at h
  dsimp only at h
  split at h
  · rename_i a0 a1 a2
    obtain ⟨p, hp, h⟩ := zbind h
    have hm := zmeth (l := l) (HB := HB) (b := b) (L := L) (xs := xs) (aK := aK) (aV := aV) (G := G) (tc := tc) (q := (yX12_in, cX12_in, 3, (some .boolean), 1, 3, 0, 0)) (o := 12) (cs := []) (rz := true) (T := zP_Mo_in) (E := zE_Mo_in (Int32 × zM)) (kr := zkI) (res := p) (v0 := some (.int p.1)) (S0 := p.2) (as := [.int a0, .int a1, .int a2]) (S := S) zMT_fine (by decide +kernel) (fun i as S k' h => by
      unfold zE_Mo_in at h
      cases h) ok_Mo_in rfl (fun v S' h => zkI_inv h) (Nat.le_of_ble_eq_true rfl) (fun g H Hw => Hw _ [some (.int a0), some (.int a1), some (.int a2)] _ _ _ ⟨rfl, rfl, rfl, trivial⟩ (G_Mo_in H Hw a0 a1 a2 S hp))
    exact ⟨_, _, h, hm.1, rfl, fun q => absurd rfl q, (fun q => by cases q), hm.2⟩
  · cases h
def zP_Mo_no : List (List (Nat × zE)) := [[(0, e1 (.aload_n 0) 1 0), (1, e1 (.iload_n 1) 2 1), (2, e3 (.putfield 130) 5 12 1 0), (5, ei (.iconst (-1)) 6 0 (-1)), (6, e0 (.ireturn) 7)]]
noncomputable def zE_Mo_no (α : Type) : Nat → zX α := fun _ => fun _ _ _ => none
def zc_Mo_no : Nat → Bool := fun pc => false
set_option maxRecDepth 100000 in
theorem r_Mo_no (a0 : Nat) (a1 : Int32) (S : zM) : f_Mo_no a0 a1 S = zrt false zP_Mo_no (zE_Mo_no (Int32 × zM)) zc_Mo_no zkI (fun pc lv st S => none) 1000 0 [some (.ref a0), some (.int a1)] [] S := rfl
theorem G_Mo_no {g : zV → Nat → List Value → zM → Prop} {res : (Int32 × zM)} (H : zCl false zP_Mo_no (zE_Mo_no (Int32 × zM)) zkI res g) (Hw : zWk g) (a0 : Nat) (a1 : Int32) (S : zM) (h : f_Mo_no a0 a1 S = some res) : g [some (.ref a0), some (.int a1)] 0 [] S := by
  refine H zc_Mo_no _ 1000 _ _ _ _ ((r_Mo_no a0 a1 S).symm.trans h) (fun pc lv st S hK => ?_)
  cases hK
set_option maxRecDepth 100000 in
theorem ok_Mo_no : zokT 12 [] false 0 0 2 false (some .int) cX12_no zP_Mo_no = true := by decide +kernel
set_option maxRecDepth 100000 in
theorem s_Mo_no {l : Launch} {HB : Heap} {b L : Nat} {xs : Nat → Int32} {aK aV : Nat → Nat} {G : va_G} {tc : Nat → ClassId} : zSnd l HB b L xs aK aV G tc (zMT.getD 63 zyD) (fun α => zA_vRI_I 12 f_Mo_no) := by
  rw [show zMT.getD 63 zyD = (yX12_no, cX12_no, 2, (some .int), 0, 2, 0, 0) from rfl]
  intro α as S k res h
  unfold zA_vRI_I at h
  dsimp only at h
  split at h
  · rename_i a0 a1
    obtain ⟨p, hp, h⟩ := zbind h
    unfold zcl at hp
    split at hp
    · rename_i hkd
      have hm := zmeth (l := l) (HB := HB) (b := b) (L := L) (xs := xs) (aK := aK) (aV := aV) (G := G) (tc := tc) (q := (yX12_no, cX12_no, 2, (some .int), 0, 2, 0, 0)) (o := 12) (cs := []) (rz := false) (T := zP_Mo_no) (E := zE_Mo_no (Int32 × zM)) (kr := zkI) (res := p) (v0 := some (.int p.1)) (S0 := p.2) (as := [.ref a0, .int a1]) (S := S) zMT_fine (by decide +kernel) (fun i as S k' h => by
        unfold zE_Mo_no at h
        cases h) ok_Mo_no rfl (fun v S' h => zkI_inv h) (Nat.le_of_ble_eq_true rfl) (fun g H Hw => Hw _ [some (.ref a0), some (.int a1)] _ _ _ ⟨rfl, rfl, trivial⟩ (G_Mo_no H Hw a0 a1 S hp))
      exact ⟨_, _, h, hm.1, rfl, fun _ => ⟨_, _, rfl⟩, (fun _ U H hK hH a r e => by cases e; exact zrecv (ci := 12) (by omega) hkd rfl U H hK hH), hm.2⟩
    · cases hp
  · cases h
def zP_Mo_see : List (List (Nat × zE)) := [[(0, e1 (.iload_n 1) 1 1), (1, e1 (.aload_n 0) 2 0), (2, e3 (.getfield 140) 5 12 22 0), (5, e1 (.if_icmp .ge 12) 8 17), (8, e1 (.aload_n 0) 9 0), (9, e3 (.getfield 13) 12 12 4 2), (12, e1 (.iload_n 1) 13 1), (13, e0 (.iaload) 14), (14, e1 (.goto 4) 17 18)],
  [(17, ei (.iconst (-1)) 18 0 (-1)), (18, e0 (.ireturn) 19)]]
noncomputable def zE_Mo_see (α : Type) : Nat → zX α := fun _ => fun _ _ _ => none
def zc_Mo_see : Nat → Bool := fun pc => false
set_option maxRecDepth 100000 in
theorem r_Mo_see (a0 : Nat) (a1 : Int32) (S : zM) : f_Mo_see a0 a1 S = zrt false zP_Mo_see (zE_Mo_see (Int32 × zM)) zc_Mo_see zkI (fun pc lv st S => none) 1000 0 [some (.ref a0), some (.int a1)] [] S := rfl
theorem G_Mo_see {g : zV → Nat → List Value → zM → Prop} {res : (Int32 × zM)} (H : zCl false zP_Mo_see (zE_Mo_see (Int32 × zM)) zkI res g) (Hw : zWk g) (a0 : Nat) (a1 : Int32) (S : zM) (h : f_Mo_see a0 a1 S = some res) : g [some (.ref a0), some (.int a1)] 0 [] S := by
  refine H zc_Mo_see _ 1000 _ _ _ _ ((r_Mo_see a0 a1 S).symm.trans h) (fun pc lv st S hK => ?_)
  cases hK
set_option maxRecDepth 100000 in
theorem ok_Mo_see : zokT 12 [] false 0 0 2 false (some .int) cX12_see zP_Mo_see = true := by decide +kernel
set_option maxRecDepth 100000 in
theorem s_Mo_see {l : Launch} {HB : Heap} {b L : Nat} {xs : Nat → Int32} {aK aV : Nat → Nat} {G : va_G} {tc : Nat → ClassId} : zSnd l HB b L xs aK aV G tc (zMT.getD 64 zyD) (fun α => zA_vRI_I 12 f_Mo_see) := by
  rw [show zMT.getD 64 zyD = (yX12_see, cX12_see, 2, (some .int), 0, 2, 0, 0) from rfl]
  intro α as S k res h
  unfold zA_vRI_I at h
  dsimp only at h
  split at h
  · rename_i a0 a1
    obtain ⟨p, hp, h⟩ := zbind h
    unfold zcl at hp
    split at hp
    · rename_i hkd
      have hm := zmeth (l := l) (HB := HB) (b := b) (L := L) (xs := xs) (aK := aK) (aV := aV) (G := G) (tc := tc) (q := (yX12_see, cX12_see, 2, (some .int), 0, 2, 0, 0)) (o := 12) (cs := []) (rz := false) (T := zP_Mo_see) (E := zE_Mo_see (Int32 × zM)) (kr := zkI) (res := p) (v0 := some (.int p.1)) (S0 := p.2) (as := [.ref a0, .int a1]) (S := S) zMT_fine (by decide +kernel) (fun i as S k' h => by
        unfold zE_Mo_see at h
        cases h) ok_Mo_see rfl (fun v S' h => zkI_inv h) (Nat.le_of_ble_eq_true rfl) (fun g H Hw => Hw _ [some (.ref a0), some (.int a1)] _ _ _ ⟨rfl, rfl, trivial⟩ (G_Mo_see H Hw a0 a1 S hp))
      exact ⟨_, _, h, hm.1, rfl, fun _ => ⟨_, _, rfl⟩, (fun _ U H hK hH a r e => by cases e; exact zrecv (ci := 12) (by omega) hkd rfl U H hK hH), hm.2⟩
    · cases hp
  · cases h
def zP_Mo_goesOn : List (List (Nat × zE)) := [[(0, e1 (.aload_n 0) 1 0), (1, e1 (.aload_n 0) 2 0), (2, e3 (.getfield 143) 5 12 24 0), (5, e3 (.invokevirtual 146) 8 0 2 0), (8, ei (.bipush 32) 10 0 (32)), (10, e1 (.if_icmp .ne 16) 13 26), (13, e1 (.aload_n 0) 14 0), (14, e0 (.dup) 15), (15, e3 (.getfield 143) 18 12 24 0)],
  [(18, ei (.iconst 1) 19 0 (1)), (19, e0 (.iadd) 20), (20, e3 (.putfield 143) 23 12 24 0), (23, e1 (.goto (-23)) 26 0), (26, e1 (.aload_n 0) 27 0), (27, e1 (.aload_n 0) 28 0), (28, e3 (.getfield 143) 31 12 24 0), (31, e3 (.putfield 150) 34 12 23 0)],
  [(34, e1 (.aload_n 0) 35 0), (35, e1 (.aload_n 0) 36 0), (36, e3 (.getfield 143) 39 12 24 0), (39, e3 (.invokevirtual 146) 42 0 2 0), (42, e1 (.istore_n 1) 43 1), (43, e1 (.iload_n 1) 44 1), (44, ei (.iconst (-1)) 45 0 (-1)), (45, e1 (.if_icmp .ne 9) 48 54)],
  [(48, e1 (.aload_n 0) 49 0), (49, ei (.iconst 0) 50 0 (0)), (50, e3 (.putfield 153) 53 12 25 0), (53, e0 (.return_) 54), (54, e1 (.iload_n 1) 55 1), (55, ei (.bipush 97) 57 0 (97)), (57, ei (.bipush 122) 59 0 (122)), (59, e3 (.invokestatic 156) 62 1 3 0), (62, e1 (.ifCond .eq 58) 65 120)],
  [(65, e1 (.aload_n 0) 66 0), (66, e1 (.aload_n 0) 67 0), (67, e3 (.getfield 143) 70 12 24 0), (70, e3 (.invokevirtual 146) 73 0 2 0), (73, ei (.bipush 97) 75 0 (97)), (75, ei (.bipush 122) 77 0 (122)), (77, e3 (.invokestatic 156) 80 1 3 0)],
  [(80, e1 (.ifCond .eq 16) 83 96), (83, e1 (.aload_n 0) 84 0), (84, e0 (.dup) 85), (85, e3 (.getfield 143) 88 12 24 0), (88, ei (.iconst 1) 89 0 (1)), (89, e0 (.iadd) 90), (90, e3 (.putfield 143) 93 12 24 0), (93, e1 (.goto (-28)) 96 65)],
  [(96, e1 (.aload_n 0) 97 0), (97, e1 (.aload_n 0) 98 0), (98, e3 (.getfield 143) 101 12 24 0), (101, e1 (.aload_n 0) 102 0), (102, e3 (.getfield 150) 105 12 23 0), (105, e0 (.isub) 106), (106, ei (.bipush 7) 108 0 (7)), (108, e1 (.if_icmp .le 7) 111 115), (111, ei (.iconst 1) 112 0 (1))],
  [(112, e1 (.goto 4) 115 116), (115, ei (.iconst 2) 116 0 (2)), (116, e3 (.putfield 153) 119 12 25 0), (119, e0 (.return_) 120), (120, e1 (.iload_n 1) 121 1), (121, ei (.bipush 48) 123 0 (48)), (123, ei (.bipush 57) 125 0 (57)), (125, e3 (.invokestatic 156) 128 1 3 0)],
  [(128, e1 (.ifCond .eq 95) 131 223), (131, e1 (.aload_n 0) 132 0), (132, ei (.iconst 0) 133 0 (0)), (133, e3 (.putfield 160) 136 12 26 0), (136, e1 (.aload_n 0) 137 0), (137, e1 (.aload_n 0) 138 0), (138, e3 (.getfield 143) 141 12 24 0), (141, e3 (.invokevirtual 146) 144 0 2 0)],
  [(144, ei (.bipush 48) 146 0 (48)), (146, ei (.bipush 57) 148 0 (57)), (148, e3 (.invokestatic 156) 151 1 3 0), (151, e1 (.ifCond .eq 49) 154 200), (154, e1 (.aload_n 0) 155 0), (155, e1 (.aload_n 0) 156 0), (156, e3 (.getfield 143) 159 12 24 0), (159, e1 (.aload_n 0) 160 0)],
  [(160, e3 (.getfield 150) 163 12 23 0), (163, e1 (.if_icmp .ne 17) 166 180), (166, e1 (.aload_n 0) 167 0), (167, e1 (.aload_n 0) 168 0), (168, e3 (.getfield 143) 171 12 24 0), (171, e3 (.invokevirtual 146) 174 0 2 0), (174, ei (.bipush 48) 176 0 (48))],
  [(176, e0 (.isub) 177), (177, e1 (.goto 7) 180 184), (180, e1 (.aload_n 0) 181 0), (181, e3 (.getfield 160) 184 12 26 0), (184, e3 (.putfield 160) 187 12 26 0), (187, e1 (.aload_n 0) 188 0), (188, e0 (.dup) 189), (189, e3 (.getfield 143) 192 12 24 0)],
  [(192, ei (.iconst 1) 193 0 (1)), (193, e0 (.iadd) 194), (194, e3 (.putfield 143) 197 12 24 0), (197, e1 (.goto (-61)) 200 136), (200, e1 (.aload_n 0) 201 0), (201, e1 (.aload_n 0) 202 0), (202, e3 (.getfield 143) 205 12 24 0), (205, e1 (.aload_n 0) 206 0), (206, e3 (.getfield 150) 209 12 23 0)],
  [(209, e0 (.isub) 210), (210, ei (.iconst 1) 211 0 (1)), (211, e1 (.if_icmp .le 7) 214 218), (214, ei (.iconst 1) 215 0 (1)), (215, e1 (.goto 4) 218 219), (218, ei (.iconst 3) 219 0 (3)), (219, e3 (.putfield 153) 222 12 25 0), (222, e0 (.return_) 223), (223, e1 (.aload_n 0) 224 0)],
  [(224, e0 (.dup) 225), (225, e3 (.getfield 143) 228 12 24 0), (228, ei (.iconst 1) 229 0 (1)), (229, e0 (.iadd) 230), (230, e3 (.putfield 143) 233 12 24 0), (233, e1 (.aload_n 0) 234 0), (234, e1 (.iload_n 1) 235 1), (235, ei (.bipush 59) 237 0 (59)), (237, e1 (.if_icmp .ne 7) 240 244)],
  [(240, e1 (.iload_n 1) 241 1), (241, e1 (.goto 4) 244 245), (244, ei (.iconst 1) 245 0 (1)), (245, e3 (.putfield 153) 248 12 25 0), (248, e0 (.return_) 249)]]
noncomputable def zE_Mo_goesOn (α : Type) : Nat → zX α := fun i => bif Nat.beq i 0 then zA_vRI_I 12 f_Mo_see else bif Nat.beq i 1 then zA_III_I f_Mo_in else fun _ _ _ => none
def zc_Mo_goesOn : Nat → Bool := fun pc => Nat.beq pc 0 || Nat.beq pc 26 || Nat.beq pc 65 || Nat.beq pc 96 || Nat.beq pc 136 || Nat.beq pc 200
def D_Mo_goesOn_0 (k : Nat → zM → Option zM) (lv : zV) (st : List Value) (S : zM) : Option zM := match lv, st with
  | [some (.ref a0), _], [] => k a0 S
  | _, _ => none
theorem d_Mo_goesOn_0 {g : zV → Nat → List Value → zM → Prop} (Hw : zWk g) {k : Nat → zM → Option zM} {res : zM} {lv : zV} {st : List Value} {S : zM} (h : D_Mo_goesOn_0 k lv st S = some res) (hk : ∀ a0 S, k a0 S = some res → g [some (.ref a0), none] 0 [] S) : g lv 0 st S := by
  unfold D_Mo_goesOn_0 at h
  split at h
  · exact Hw _ _ _ _ _ (by simp [zle]) (hk _ _  h)
  · cases h
def D_Mo_goesOn_26 (k : Nat → zM → Option zM) (lv : zV) (st : List Value) (S : zM) : Option zM := match lv, st with
  | [some (.ref a0), _], [] => k a0 S
  | _, _ => none
theorem d_Mo_goesOn_26 {g : zV → Nat → List Value → zM → Prop} (Hw : zWk g) {k : Nat → zM → Option zM} {res : zM} {lv : zV} {st : List Value} {S : zM} (h : D_Mo_goesOn_26 k lv st S = some res) (hk : ∀ a0 S, k a0 S = some res → g [some (.ref a0), none] 26 [] S) : g lv 26 st S := by
  unfold D_Mo_goesOn_26 at h
  split at h
  · exact Hw _ _ _ _ _ (by simp [zle]) (hk _ _  h)
  · cases h
def D_Mo_goesOn_65 (k : Nat → zM → Option zM) (lv : zV) (st : List Value) (S : zM) : Option zM := match lv, st with
  | [some (.ref a0), _], [] => k a0 S
  | _, _ => none
theorem d_Mo_goesOn_65 {g : zV → Nat → List Value → zM → Prop} (Hw : zWk g) {k : Nat → zM → Option zM} {res : zM} {lv : zV} {st : List Value} {S : zM} (h : D_Mo_goesOn_65 k lv st S = some res) (hk : ∀ a0 S, k a0 S = some res → g [some (.ref a0), none] 65 [] S) : g lv 65 st S := by
  unfold D_Mo_goesOn_65 at h
  split at h
  · exact Hw _ _ _ _ _ (by simp [zle]) (hk _ _  h)
  · cases h
def D_Mo_goesOn_96 (k : Nat → zM → Option zM) (lv : zV) (st : List Value) (S : zM) : Option zM := match lv, st with
  | [some (.ref a0), _], [] => k a0 S
  | _, _ => none
theorem d_Mo_goesOn_96 {g : zV → Nat → List Value → zM → Prop} (Hw : zWk g) {k : Nat → zM → Option zM} {res : zM} {lv : zV} {st : List Value} {S : zM} (h : D_Mo_goesOn_96 k lv st S = some res) (hk : ∀ a0 S, k a0 S = some res → g [some (.ref a0), none] 96 [] S) : g lv 96 st S := by
  unfold D_Mo_goesOn_96 at h
  split at h
  · exact Hw _ _ _ _ _ (by simp [zle]) (hk _ _  h)
  · cases h
def D_Mo_goesOn_136 (k : Nat → zM → Option zM) (lv : zV) (st : List Value) (S : zM) : Option zM := match lv, st with
  | [some (.ref a0), _], [] => k a0 S
  | _, _ => none
theorem d_Mo_goesOn_136 {g : zV → Nat → List Value → zM → Prop} (Hw : zWk g) {k : Nat → zM → Option zM} {res : zM} {lv : zV} {st : List Value} {S : zM} (h : D_Mo_goesOn_136 k lv st S = some res) (hk : ∀ a0 S, k a0 S = some res → g [some (.ref a0), none] 136 [] S) : g lv 136 st S := by
  unfold D_Mo_goesOn_136 at h
  split at h
  · exact Hw _ _ _ _ _ (by simp [zle]) (hk _ _  h)
  · cases h
def D_Mo_goesOn_200 (k : Nat → zM → Option zM) (lv : zV) (st : List Value) (S : zM) : Option zM := match lv, st with
  | [some (.ref a0), _], [] => k a0 S
  | _, _ => none
theorem d_Mo_goesOn_200 {g : zV → Nat → List Value → zM → Prop} (Hw : zWk g) {k : Nat → zM → Option zM} {res : zM} {lv : zV} {st : List Value} {S : zM} (h : D_Mo_goesOn_200 k lv st S = some res) (hk : ∀ a0 S, k a0 S = some res → g [some (.ref a0), none] 200 [] S) : g lv 200 st S := by
  unfold D_Mo_goesOn_200 at h
  split at h
  · exact Hw _ _ _ _ _ (by simp [zle]) (hk _ _  h)
  · cases h
set_option maxRecDepth 100000 in
theorem r_Mo_goesOn_200 (a0 : Nat) (S : zM) : F_Mo_goesOn_200 a0 S = zrt false zP_Mo_goesOn (zE_Mo_goesOn zM) zc_Mo_goesOn zkV (fun pc lv st S => none) 1000 200 [some (.ref a0), none] [] S := rfl
theorem g_Mo_goesOn_200 {g : zV → Nat → List Value → zM → Prop} {res : zM} (H : zCl false zP_Mo_goesOn (zE_Mo_goesOn zM) zkV res g) (Hw : zWk g) (a0 : Nat) (S : zM) (h : F_Mo_goesOn_200 a0 S = some res) : g [some (.ref a0), none] 200 [] S := by
  refine H zc_Mo_goesOn _ 1000 _ _ _ _ ((r_Mo_goesOn_200 a0 S).symm.trans h) (fun pc lv st S hK => ?_)
  cases hK
set_option maxRecDepth 100000 in
theorem r_Mo_goesOn_136 (k200 : Nat → zM → Option zM) (n : Nat) (a0 : Nat) (S : zM) : L_Mo_goesOn_136 k200 (n + 1) a0 S = zrt false zP_Mo_goesOn (zE_Mo_goesOn zM) zc_Mo_goesOn zkV (fun pc lv st S => bif Nat.beq pc 136 then D_Mo_goesOn_136 (L_Mo_goesOn_136 k200 n) lv st S else bif Nat.beq pc 200 then D_Mo_goesOn_200 k200 lv st S else none) 1000 136 [some (.ref a0), none] [] S := rfl
theorem g_Mo_goesOn_136 {g : zV → Nat → List Value → zM → Prop} {res : zM} (H : zCl false zP_Mo_goesOn (zE_Mo_goesOn zM) zkV res g) (Hw : zWk g) {k200 : Nat → zM → Option zM} (hk200 : ∀ a0 S, k200 a0 S = some res → g [some (.ref a0), none] 200 [] S) (n : Nat) : ∀ (a0 : Nat) (S : zM), L_Mo_goesOn_136 k200 n a0 S = some res → g [some (.ref a0), none] 136 [] S := by
  induction n with
  | zero => intro a0 S h; cases h
  | succ n ih =>
    intro a0 S h
    refine H zc_Mo_goesOn _ 1000 _ _ _ _ ((r_Mo_goesOn_136 k200 n a0 S).symm.trans h) (fun pc lv st S hK => ?_)
    rcases zdis hK with ⟨rfl, hK⟩ | hK
    · exact d_Mo_goesOn_136 Hw hK ih
    rcases zdis hK with ⟨rfl, hK⟩ | hK
    · exact d_Mo_goesOn_200 Hw hK hk200
    cases hK
set_option maxRecDepth 100000 in
theorem r_Mo_goesOn_96 (a0 : Nat) (S : zM) : F_Mo_goesOn_96 a0 S = zrt false zP_Mo_goesOn (zE_Mo_goesOn zM) zc_Mo_goesOn zkV (fun pc lv st S => none) 1000 96 [some (.ref a0), none] [] S := rfl
theorem g_Mo_goesOn_96 {g : zV → Nat → List Value → zM → Prop} {res : zM} (H : zCl false zP_Mo_goesOn (zE_Mo_goesOn zM) zkV res g) (Hw : zWk g) (a0 : Nat) (S : zM) (h : F_Mo_goesOn_96 a0 S = some res) : g [some (.ref a0), none] 96 [] S := by
  refine H zc_Mo_goesOn _ 1000 _ _ _ _ ((r_Mo_goesOn_96 a0 S).symm.trans h) (fun pc lv st S hK => ?_)
  cases hK
set_option maxRecDepth 100000 in
theorem r_Mo_goesOn_65 (k96 : Nat → zM → Option zM) (n : Nat) (a0 : Nat) (S : zM) : L_Mo_goesOn_65 k96 (n + 1) a0 S = zrt false zP_Mo_goesOn (zE_Mo_goesOn zM) zc_Mo_goesOn zkV (fun pc lv st S => bif Nat.beq pc 65 then D_Mo_goesOn_65 (L_Mo_goesOn_65 k96 n) lv st S else bif Nat.beq pc 96 then D_Mo_goesOn_96 k96 lv st S else none) 1000 65 [some (.ref a0), none] [] S := rfl
theorem g_Mo_goesOn_65 {g : zV → Nat → List Value → zM → Prop} {res : zM} (H : zCl false zP_Mo_goesOn (zE_Mo_goesOn zM) zkV res g) (Hw : zWk g) {k96 : Nat → zM → Option zM} (hk96 : ∀ a0 S, k96 a0 S = some res → g [some (.ref a0), none] 96 [] S) (n : Nat) : ∀ (a0 : Nat) (S : zM), L_Mo_goesOn_65 k96 n a0 S = some res → g [some (.ref a0), none] 65 [] S := by
  induction n with
  | zero => intro a0 S h; cases h
  | succ n ih =>
    intro a0 S h
    refine H zc_Mo_goesOn _ 1000 _ _ _ _ ((r_Mo_goesOn_65 k96 n a0 S).symm.trans h) (fun pc lv st S hK => ?_)
    rcases zdis hK with ⟨rfl, hK⟩ | hK
    · exact d_Mo_goesOn_65 Hw hK ih
    rcases zdis hK with ⟨rfl, hK⟩ | hK
    · exact d_Mo_goesOn_96 Hw hK hk96
    cases hK
set_option maxRecDepth 100000 in
theorem r_Mo_goesOn_26 (k65 : Nat → zM → Option zM) (k136 : Nat → zM → Option zM) (a0 : Nat) (S : zM) : F_Mo_goesOn_26 k65 k136 a0 S = zrt false zP_Mo_goesOn (zE_Mo_goesOn zM) zc_Mo_goesOn zkV (fun pc lv st S => bif Nat.beq pc 65 then D_Mo_goesOn_65 k65 lv st S else bif Nat.beq pc 136 then D_Mo_goesOn_136 k136 lv st S else none) 1000 26 [some (.ref a0), none] [] S := rfl
theorem g_Mo_goesOn_26 {g : zV → Nat → List Value → zM → Prop} {res : zM} (H : zCl false zP_Mo_goesOn (zE_Mo_goesOn zM) zkV res g) (Hw : zWk g) {k65 : Nat → zM → Option zM} {k136 : Nat → zM → Option zM} (hk65 : ∀ a0 S, k65 a0 S = some res → g [some (.ref a0), none] 65 [] S) (hk136 : ∀ a0 S, k136 a0 S = some res → g [some (.ref a0), none] 136 [] S) (a0 : Nat) (S : zM) (h : F_Mo_goesOn_26 k65 k136 a0 S = some res) : g [some (.ref a0), none] 26 [] S := by
  refine H zc_Mo_goesOn _ 1000 _ _ _ _ ((r_Mo_goesOn_26 k65 k136 a0 S).symm.trans h) (fun pc lv st S hK => ?_)
  rcases zdis hK with ⟨rfl, hK⟩ | hK
  · exact d_Mo_goesOn_65 Hw hK hk65
  rcases zdis hK with ⟨rfl, hK⟩ | hK
  · exact d_Mo_goesOn_136 Hw hK hk136
  cases hK
set_option maxRecDepth 100000 in
theorem r_Mo_goesOn_0 (k26 : Nat → zM → Option zM) (n : Nat) (a0 : Nat) (S : zM) : L_Mo_goesOn_0 k26 (n + 1) a0 S = zrt false zP_Mo_goesOn (zE_Mo_goesOn zM) zc_Mo_goesOn zkV (fun pc lv st S => bif Nat.beq pc 0 then D_Mo_goesOn_0 (L_Mo_goesOn_0 k26 n) lv st S else bif Nat.beq pc 26 then D_Mo_goesOn_26 k26 lv st S else none) 1000 0 [some (.ref a0), none] [] S := rfl
theorem g_Mo_goesOn_0 {g : zV → Nat → List Value → zM → Prop} {res : zM} (H : zCl false zP_Mo_goesOn (zE_Mo_goesOn zM) zkV res g) (Hw : zWk g) {k26 : Nat → zM → Option zM} (hk26 : ∀ a0 S, k26 a0 S = some res → g [some (.ref a0), none] 26 [] S) (n : Nat) : ∀ (a0 : Nat) (S : zM), L_Mo_goesOn_0 k26 n a0 S = some res → g [some (.ref a0), none] 0 [] S := by
  induction n with
  | zero => intro a0 S h; cases h
  | succ n ih =>
    intro a0 S h
    refine H zc_Mo_goesOn _ 1000 _ _ _ _ ((r_Mo_goesOn_0 k26 n a0 S).symm.trans h) (fun pc lv st S hK => ?_)
    rcases zdis hK with ⟨rfl, hK⟩ | hK
    · exact d_Mo_goesOn_0 Hw hK ih
    rcases zdis hK with ⟨rfl, hK⟩ | hK
    · exact d_Mo_goesOn_26 Hw hK hk26
    cases hK
theorem G_Mo_goesOn {g : zV → Nat → List Value → zM → Prop} {res : zM} (H : zCl false zP_Mo_goesOn (zE_Mo_goesOn zM) zkV res g) (Hw : zWk g) (a0 : Nat) (S : zM) (h : f_Mo_goesOn a0 S = some res) : g [some (.ref a0), none] 0 [] S := by
  refine Hw _ [some (.ref a0), none] _ _ _ (by simp [zle]) ((g_Mo_goesOn_0 H Hw (g_Mo_goesOn_26 H Hw (g_Mo_goesOn_65 H Hw (g_Mo_goesOn_96 H Hw ) zF) (g_Mo_goesOn_136 H Hw (g_Mo_goesOn_200 H Hw ) zF)) zF) a0 S h)
set_option maxRecDepth 100000 in
theorem ok_Mo_goesOn : zokT 12 [64, 62] false 1 22 2 false none cX12_goesOn zP_Mo_goesOn = true := by decide +kernel
set_option maxRecDepth 100000 in
theorem s_Mo_goesOn {l : Launch} {HB : Heap} {b L : Nat} {xs : Nat → Int32} {aK aV : Nat → Nat} {G : va_G} {tc : Nat → ClassId} (h0 : zSnd l HB b L xs aK aV G tc (zMT.getD 64 zyD) (fun α => zA_vRI_I 12 f_Mo_see)) (h1 : zSnd l HB b L xs aK aV G tc (zMT.getD 62 zyD) (fun α => zA_III_I f_Mo_in)) : zSnd l HB b L xs aK aV G tc (zMT.getD 65 zyD) (fun α => zA_vR_V 12 f_Mo_goesOn) := by
  rw [show zMT.getD 65 zyD = (yX12_goesOn, cX12_goesOn, 2, none, 0, 1, 1, 22) from rfl]
  intro α as S k res h
  unfold zA_vR_V at h
  dsimp only at h
  split at h
  · rename_i a0
    obtain ⟨p, hp, h⟩ := zbind h
    unfold zcl at hp
    split at hp
    · rename_i hkd
      have hm := zmeth (l := l) (HB := HB) (b := b) (L := L) (xs := xs) (aK := aK) (aV := aV) (G := G) (tc := tc) (q := (yX12_goesOn, cX12_goesOn, 2, none, 0, 1, 1, 22)) (o := 12) (cs := [64, 62]) (rz := false) (T := zP_Mo_goesOn) (E := zE_Mo_goesOn zM) (kr := zkV) (res := p) (v0 := none) (S0 := p) (as := [.ref a0]) (S := S) zMT_fine (by decide +kernel) (fun i as S k' h => by
        unfold zE_Mo_goesOn at h
        rcases zdisf h with ⟨rfl, h⟩ | h
        · exact h0 _ _ _ _ _ h
        rcases zdisf h with ⟨rfl, h⟩ | h
        · exact h1 _ _ _ _ _ h
        cases h) ok_Mo_goesOn rfl (fun v S' h => zkV_inv h) (Nat.le_of_ble_eq_true rfl) (fun g H Hw => Hw _ [some (.ref a0), none] _ _ _ ⟨rfl, trivial⟩ (G_Mo_goesOn H Hw a0 S hp))
      exact ⟨_, _, h, hm.1, rfl, fun _ => ⟨_, _, rfl⟩, (fun _ U H hK hH a r e => by cases e; exact zrecv (ci := 12) (by omega) hkd rfl U H hK hH), hm.2⟩
    · cases hp
  · cases h
def zP_Mo_isWord : List (List (Nat × zE)) := [[(0, e1 (.aload_n 0) 1 0), (1, e3 (.getfield 153) 4 12 25 0), (4, ei (.iconst 2) 5 0 (2)), (5, e1 (.if_icmp .ne 19) 8 24), (8, e1 (.aload_n 0) 9 0), (9, e3 (.getfield 143) 12 12 24 0), (12, e1 (.aload_n 0) 13 0), (13, e3 (.getfield 150) 16 12 23 0)],
  [(16, e0 (.isub) 17), (17, e1 (.aload_n 1) 18 1), (18, e3 (.invokevirtual 163) 21 0 1 0), (21, e1 (.if_icmp .eq 5) 24 26), (24, ei (.iconst 0) 25 0 (0)), (25, e0 (.ireturn) 26), (26, ei (.iconst 0) 27 0 (0)), (27, e1 (.istore_n 2) 28 2), (28, e1 (.iload_n 2) 29 2), (29, e1 (.aload_n 1) 30 1), (30, e3 (.invokevirtual 163) 33 0 1 0)],
  [(33, e1 (.if_icmp .ge 30) 36 63), (36, e1 (.aload_n 0) 37 0), (37, e3 (.getfield 13) 40 12 4 2), (40, e1 (.aload_n 0) 41 0), (41, e3 (.getfield 150) 44 12 23 0), (44, e1 (.iload_n 2) 45 2), (45, e0 (.iadd) 46), (46, e0 (.iaload) 47), (47, e1 (.aload_n 1) 48 1)],
  [(48, e1 (.iload_n 2) 49 2), (49, e3 (.invokevirtual 169) 52 1 2 0), (52, e1 (.if_icmp .eq 5) 55 57), (55, ei (.iconst 0) 56 0 (0)), (56, e0 (.ireturn) 57), (57, ei (.iinc 2 1) 60 2 (1)), (60, e1 (.goto (-32)) 63 28), (63, ei (.iconst 1) 64 0 (1))],
  [(64, e0 (.ireturn) 65)]]
noncomputable def zE_Mo_isWord (α : Type) : Nat → zX α := fun i => bif Nat.beq i 0 then zA_R_I f_J_length else bif Nat.beq i 1 then zA_RI_I f_J_charAt else fun _ _ _ => none
def zc_Mo_isWord : Nat → Bool := fun pc => Nat.beq pc 28
def D_Mo_isWord_28 (k : Nat → Nat → Int32 → zM → Option (Int32 × zM)) (lv : zV) (st : List Value) (S : zM) : Option (Int32 × zM) := match lv, st with
  | [some (.ref a0), some (.ref a1), some (.int a2)], [] => k a0 a1 a2 S
  | _, _ => none
theorem d_Mo_isWord_28 {g : zV → Nat → List Value → zM → Prop} (Hw : zWk g) {k : Nat → Nat → Int32 → zM → Option (Int32 × zM)} {res : (Int32 × zM)} {lv : zV} {st : List Value} {S : zM} (h : D_Mo_isWord_28 k lv st S = some res) (hk : ∀ a0 a1 a2 S, k a0 a1 a2 S = some res → g [some (.ref a0), some (.ref a1), some (.int a2)] 28 [] S) : g lv 28 st S := by
  unfold D_Mo_isWord_28 at h
  split at h
  · exact Hw _ _ _ _ _ (by simp [zle]) (hk _ _ _ _  h)
  · cases h
set_option maxRecDepth 100000 in
theorem r_Mo_isWord_28 (n : Nat) (a0 : Nat) (a1 : Nat) (a2 : Int32) (S : zM) : L_Mo_isWord_28 (n + 1) a0 a1 a2 S = zrt true zP_Mo_isWord (zE_Mo_isWord (Int32 × zM)) zc_Mo_isWord zkI (fun pc lv st S => bif Nat.beq pc 28 then D_Mo_isWord_28 (L_Mo_isWord_28 n) lv st S else none) 1000 28 [some (.ref a0), some (.ref a1), some (.int a2)] [] S := rfl
theorem g_Mo_isWord_28 {g : zV → Nat → List Value → zM → Prop} {res : (Int32 × zM)} (H : zCl true zP_Mo_isWord (zE_Mo_isWord (Int32 × zM)) zkI res g) (Hw : zWk g) (n : Nat) : ∀ (a0 : Nat) (a1 : Nat) (a2 : Int32) (S : zM), L_Mo_isWord_28 n a0 a1 a2 S = some res → g [some (.ref a0), some (.ref a1), some (.int a2)] 28 [] S := by
  induction n with
  | zero => intro a0 a1 a2 S h; cases h
  | succ n ih =>
    intro a0 a1 a2 S h
    refine H zc_Mo_isWord _ 1000 _ _ _ _ ((r_Mo_isWord_28 n a0 a1 a2 S).symm.trans h) (fun pc lv st S hK => ?_)
    rcases zdis hK with ⟨rfl, hK⟩ | hK
    · exact d_Mo_isWord_28 Hw hK ih
    cases hK
set_option maxRecDepth 100000 in
theorem r_Mo_isWord (a0 : Nat) (a1 : Nat) (S : zM) : f_Mo_isWord a0 a1 S = zrt true zP_Mo_isWord (zE_Mo_isWord (Int32 × zM)) zc_Mo_isWord zkI (fun pc lv st S => bif Nat.beq pc 28 then D_Mo_isWord_28 (L_Mo_isWord_28 zF) lv st S else none) 1000 0 [some (.ref a0), some (.ref a1), none] [] S := rfl
theorem G_Mo_isWord {g : zV → Nat → List Value → zM → Prop} {res : (Int32 × zM)} (H : zCl true zP_Mo_isWord (zE_Mo_isWord (Int32 × zM)) zkI res g) (Hw : zWk g) (a0 : Nat) (a1 : Nat) (S : zM) (h : f_Mo_isWord a0 a1 S = some res) : g [some (.ref a0), some (.ref a1), none] 0 [] S := by
  refine H zc_Mo_isWord _ 1000 _ _ _ _ ((r_Mo_isWord a0 a1 S).symm.trans h) (fun pc lv st S hK => ?_)
  rcases zdis hK with ⟨rfl, hK⟩ | hK
  · exact d_Mo_isWord_28 Hw hK (g_Mo_isWord_28 H Hw  zF)
  cases hK
set_option maxRecDepth 100000 in
theorem ok_Mo_isWord : zokT 12 [20, 22] false 5 151 3 true (some .boolean) cX12_isWord zP_Mo_isWord = true := by decide +kernel
set_option maxRecDepth 100000 in
theorem s_Mo_isWord {l : Launch} {HB : Heap} {b L : Nat} {xs : Nat → Int32} {aK aV : Nat → Nat} {G : va_G} {tc : Nat → ClassId} (h0 : zSnd l HB b L xs aK aV G tc (zMT.getD 20 zyD) (fun α => zA_R_I f_J_length)) (h1 : zSnd l HB b L xs aK aV G tc (zMT.getD 22 zyD) (fun α => zA_RI_I f_J_charAt)) : zSnd l HB b L xs aK aV G tc (zMT.getD 66 zyD) (fun α => zA_vRR_I 12 f_Mo_isWord) := by
  rw [show zMT.getD 66 zyD = (yX12_isWord, cX12_isWord, 3, (some .boolean), 0, 2, 5, 151) from rfl]
  intro α as S k res h
  unfold zA_vRR_I at h
  dsimp only at h
  split at h
  · rename_i a0 a1
    obtain ⟨p, hp, h⟩ := zbind h
    unfold zcl at hp
    split at hp
    · rename_i hkd
      have hm := zmeth (l := l) (HB := HB) (b := b) (L := L) (xs := xs) (aK := aK) (aV := aV) (G := G) (tc := tc) (q := (yX12_isWord, cX12_isWord, 3, (some .boolean), 0, 2, 5, 151)) (o := 12) (cs := [20, 22]) (rz := true) (T := zP_Mo_isWord) (E := zE_Mo_isWord (Int32 × zM)) (kr := zkI) (res := p) (v0 := some (.int p.1)) (S0 := p.2) (as := [.ref a0, .ref a1]) (S := S) zMT_fine (by decide +kernel) (fun i as S k' h => by
        unfold zE_Mo_isWord at h
        rcases zdisf h with ⟨rfl, h⟩ | h
        · exact h0 _ _ _ _ _ h
        rcases zdisf h with ⟨rfl, h⟩ | h
        · exact h1 _ _ _ _ _ h
        cases h) ok_Mo_isWord rfl (fun v S' h => zkI_inv h) (Nat.le_of_ble_eq_true rfl) (fun g H Hw => Hw _ [some (.ref a0), some (.ref a1), none] _ _ _ ⟨rfl, rfl, trivial⟩ (G_Mo_isWord H Hw a0 a1 S hp))
      exact ⟨_, _, h, hm.1, rfl, fun _ => ⟨_, _, rfl⟩, (fun _ U H hK hH a r e => by cases e; exact zrecv (ci := 12) (by omega) hkd rfl U H hK hH), hm.2⟩
    · cases hp
  · cases h
def zP_Mo_hasScript : List (List (Nat × zE)) := [[(0, e1 (.aload_n 0) 1 0), (1, e3 (.getfield 225) 4 12 14 0), (4, e1 (.ifCond .le 7) 7 11), (7, ei (.iconst 1) 8 0 (1)), (8, e1 (.goto 4) 11 12), (11, ei (.iconst 0) 12 0 (0)), (12, e0 (.ireturn) 13)]]
noncomputable def zE_Mo_hasScript (α : Type) : Nat → zX α := fun _ => fun _ _ _ => none
def zc_Mo_hasScript : Nat → Bool := fun pc => false
set_option maxRecDepth 100000 in
theorem r_Mo_hasScript (a0 : Nat) (S : zM) : f_Mo_hasScript a0 S = zrt true zP_Mo_hasScript (zE_Mo_hasScript (Int32 × zM)) zc_Mo_hasScript zkI (fun pc lv st S => none) 1000 0 [some (.ref a0)] [] S := rfl
theorem G_Mo_hasScript {g : zV → Nat → List Value → zM → Prop} {res : (Int32 × zM)} (H : zCl true zP_Mo_hasScript (zE_Mo_hasScript (Int32 × zM)) zkI res g) (Hw : zWk g) (a0 : Nat) (S : zM) (h : f_Mo_hasScript a0 S = some res) : g [some (.ref a0)] 0 [] S := by
  refine H zc_Mo_hasScript _ 1000 _ _ _ _ ((r_Mo_hasScript a0 S).symm.trans h) (fun pc lv st S hK => ?_)
  cases hK
set_option maxRecDepth 100000 in
theorem ok_Mo_hasScript : zokT 12 [] false 0 0 1 true (some .boolean) cX12_hasScript zP_Mo_hasScript = true := by decide +kernel
set_option maxRecDepth 100000 in
theorem s_Mo_hasScript {l : Launch} {HB : Heap} {b L : Nat} {xs : Nat → Int32} {aK aV : Nat → Nat} {G : va_G} {tc : Nat → ClassId} : zSnd l HB b L xs aK aV G tc (zMT.getD 67 zyD) (fun α => zA_vR_I 12 f_Mo_hasScript) := by
  rw [show zMT.getD 67 zyD = (yX12_hasScript, cX12_hasScript, 1, (some .boolean), 0, 1, 0, 0) from rfl]
  intro α as S k res h
  unfold zA_vR_I at h
  dsimp only at h
  split at h
  · rename_i a0
    obtain ⟨p, hp, h⟩ := zbind h
    unfold zcl at hp
    split at hp
    · rename_i hkd
      have hm := zmeth (l := l) (HB := HB) (b := b) (L := L) (xs := xs) (aK := aK) (aV := aV) (G := G) (tc := tc) (q := (yX12_hasScript, cX12_hasScript, 1, (some .boolean), 0, 1, 0, 0)) (o := 12) (cs := []) (rz := true) (T := zP_Mo_hasScript) (E := zE_Mo_hasScript (Int32 × zM)) (kr := zkI) (res := p) (v0 := some (.int p.1)) (S0 := p.2) (as := [.ref a0]) (S := S) zMT_fine (by decide +kernel) (fun i as S k' h => by
        unfold zE_Mo_hasScript at h
        cases h) ok_Mo_hasScript rfl (fun v S' h => zkI_inv h) (Nat.le_of_ble_eq_true rfl) (fun g H Hw => Hw _ [some (.ref a0)] _ _ _ ⟨rfl, trivial⟩ (G_Mo_hasScript H Hw a0 S hp))
      exact ⟨_, _, h, hm.1, rfl, fun _ => ⟨_, _, rfl⟩, (fun _ U H hK hH a r e => by cases e; exact zrecv (ci := 12) (by omega) hkd rfl U H hK hH), hm.2⟩
    · cases hp
  · cases h
def zP_Mo_errs : List (List (Nat × zE)) := [[(0, e1 (.aload_n 0) 1 0), (1, e1 (.iload_n 1) 2 1), (2, e3 (.putfield 173) 5 12 27 0), (5, e1 (.aload_n 0) 6 0), (6, e1 (.aload_n 0) 7 0), (7, e3 (.getfield 150) 10 12 23 0), (10, e3 (.putfield 176) 13 12 28 0), (13, ei (.iconst 0) 14 0 (0)), (14, e0 (.ireturn) 15)]]
noncomputable def zE_Mo_errs (α : Type) : Nat → zX α := fun _ => fun _ _ _ => none
def zc_Mo_errs : Nat → Bool := fun pc => false
set_option maxRecDepth 100000 in
theorem r_Mo_errs (a0 : Nat) (a1 : Int32) (S : zM) : f_Mo_errs a0 a1 S = zrt true zP_Mo_errs (zE_Mo_errs (Int32 × zM)) zc_Mo_errs zkI (fun pc lv st S => none) 1000 0 [some (.ref a0), some (.int a1)] [] S := rfl
theorem G_Mo_errs {g : zV → Nat → List Value → zM → Prop} {res : (Int32 × zM)} (H : zCl true zP_Mo_errs (zE_Mo_errs (Int32 × zM)) zkI res g) (Hw : zWk g) (a0 : Nat) (a1 : Int32) (S : zM) (h : f_Mo_errs a0 a1 S = some res) : g [some (.ref a0), some (.int a1)] 0 [] S := by
  refine H zc_Mo_errs _ 1000 _ _ _ _ ((r_Mo_errs a0 a1 S).symm.trans h) (fun pc lv st S hK => ?_)
  cases hK
set_option maxRecDepth 100000 in
theorem ok_Mo_errs : zokT 12 [] false 0 0 2 true (some .boolean) cX12_errs zP_Mo_errs = true := by decide +kernel
set_option maxRecDepth 100000 in
theorem s_Mo_errs {l : Launch} {HB : Heap} {b L : Nat} {xs : Nat → Int32} {aK aV : Nat → Nat} {G : va_G} {tc : Nat → ClassId} : zSnd l HB b L xs aK aV G tc (zMT.getD 68 zyD) (fun α => zA_vRI_I 12 f_Mo_errs) := by
  rw [show zMT.getD 68 zyD = (yX12_errs, cX12_errs, 2, (some .boolean), 0, 2, 0, 0) from rfl]
  intro α as S k res h
  unfold zA_vRI_I at h
  dsimp only at h
  split at h
  · rename_i a0 a1
    obtain ⟨p, hp, h⟩ := zbind h
    unfold zcl at hp
    split at hp
    · rename_i hkd
      have hm := zmeth (l := l) (HB := HB) (b := b) (L := L) (xs := xs) (aK := aK) (aV := aV) (G := G) (tc := tc) (q := (yX12_errs, cX12_errs, 2, (some .boolean), 0, 2, 0, 0)) (o := 12) (cs := []) (rz := true) (T := zP_Mo_errs) (E := zE_Mo_errs (Int32 × zM)) (kr := zkI) (res := p) (v0 := some (.int p.1)) (S0 := p.2) (as := [.ref a0, .int a1]) (S := S) zMT_fine (by decide +kernel) (fun i as S k' h => by
        unfold zE_Mo_errs at h
        cases h) ok_Mo_errs rfl (fun v S' h => zkI_inv h) (Nat.le_of_ble_eq_true rfl) (fun g H Hw => Hw _ [some (.ref a0), some (.int a1)] _ _ _ ⟨rfl, rfl, trivial⟩ (G_Mo_errs H Hw a0 a1 S hp))
      exact ⟨_, _, h, hm.1, rfl, fun _ => ⟨_, _, rfl⟩, (fun _ U H hK hH a r e => by cases e; exact zrecv (ci := 12) (by omega) hkd rfl U H hK hH), hm.2⟩
    · cases hp
  · cases h
def zP_Mo_needs : List (List (Nat × zE)) := [[(0, e1 (.aload_n 0) 1 0), (1, e1 (.aload_n 1) 2 1), (2, e3 (.invokevirtual 179) 5 0 2 0), (5, e1 (.ifCond .ne 9) 8 14), (8, e1 (.aload_n 0) 9 0), (9, ei (.iconst 1) 10 0 (1)), (10, e3 (.invokevirtual 183) 13 1 2 0), (13, e0 (.ireturn) 14), (14, e1 (.aload_n 0) 15 0), (15, e3 (.invokevirtual 187) 18 2 1 0)],
  [(18, ei (.iconst 1) 19 0 (1)), (19, e0 (.ireturn) 20)]]
noncomputable def zE_Mo_needs (α : Type) : Nat → zX α := fun i => bif Nat.beq i 0 then zA_vRR_I 12 f_Mo_isWord else bif Nat.beq i 1 then zA_vRI_I 12 f_Mo_errs else bif Nat.beq i 2 then zA_vR_V 12 f_Mo_goesOn else fun _ _ _ => none
def zc_Mo_needs : Nat → Bool := fun pc => false
set_option maxRecDepth 100000 in
theorem r_Mo_needs (a0 : Nat) (a1 : Nat) (S : zM) : f_Mo_needs a0 a1 S = zrt true zP_Mo_needs (zE_Mo_needs (Int32 × zM)) zc_Mo_needs zkI (fun pc lv st S => none) 1000 0 [some (.ref a0), some (.ref a1)] [] S := rfl
theorem G_Mo_needs {g : zV → Nat → List Value → zM → Prop} {res : (Int32 × zM)} (H : zCl true zP_Mo_needs (zE_Mo_needs (Int32 × zM)) zkI res g) (Hw : zWk g) (a0 : Nat) (a1 : Nat) (S : zM) (h : f_Mo_needs a0 a1 S = some res) : g [some (.ref a0), some (.ref a1)] 0 [] S := by
  refine H zc_Mo_needs _ 1000 _ _ _ _ ((r_Mo_needs a0 a1 S).symm.trans h) (fun pc lv st S hK => ?_)
  cases hK
set_option maxRecDepth 100000 in
theorem ok_Mo_needs : zokT 12 [66, 68, 65] false 6 173 2 true (some .boolean) cX12_needs zP_Mo_needs = true := by decide +kernel
set_option maxRecDepth 100000 in
theorem s_Mo_needs {l : Launch} {HB : Heap} {b L : Nat} {xs : Nat → Int32} {aK aV : Nat → Nat} {G : va_G} {tc : Nat → ClassId} (h0 : zSnd l HB b L xs aK aV G tc (zMT.getD 66 zyD) (fun α => zA_vRR_I 12 f_Mo_isWord)) (h1 : zSnd l HB b L xs aK aV G tc (zMT.getD 68 zyD) (fun α => zA_vRI_I 12 f_Mo_errs)) (h2 : zSnd l HB b L xs aK aV G tc (zMT.getD 65 zyD) (fun α => zA_vR_V 12 f_Mo_goesOn)) : zSnd l HB b L xs aK aV G tc (zMT.getD 69 zyD) (fun α => zA_vRR_I 12 f_Mo_needs) := by
  rw [show zMT.getD 69 zyD = (yX12_needs, cX12_needs, 2, (some .boolean), 0, 2, 6, 173) from rfl]
  intro α as S k res h
  unfold zA_vRR_I at h
  dsimp only at h
  split at h
  · rename_i a0 a1
    obtain ⟨p, hp, h⟩ := zbind h
    unfold zcl at hp
    split at hp
    · rename_i hkd
      have hm := zmeth (l := l) (HB := HB) (b := b) (L := L) (xs := xs) (aK := aK) (aV := aV) (G := G) (tc := tc) (q := (yX12_needs, cX12_needs, 2, (some .boolean), 0, 2, 6, 173)) (o := 12) (cs := [66, 68, 65]) (rz := true) (T := zP_Mo_needs) (E := zE_Mo_needs (Int32 × zM)) (kr := zkI) (res := p) (v0 := some (.int p.1)) (S0 := p.2) (as := [.ref a0, .ref a1]) (S := S) zMT_fine (by decide +kernel) (fun i as S k' h => by
        unfold zE_Mo_needs at h
        rcases zdisf h with ⟨rfl, h⟩ | h
        · exact h0 _ _ _ _ _ h
        rcases zdisf h with ⟨rfl, h⟩ | h
        · exact h1 _ _ _ _ _ h
        rcases zdisf h with ⟨rfl, h⟩ | h
        · exact h2 _ _ _ _ _ h
        cases h) ok_Mo_needs rfl (fun v S' h => zkI_inv h) (Nat.le_of_ble_eq_true rfl) (fun g H Hw => Hw _ [some (.ref a0), some (.ref a1)] _ _ _ ⟨rfl, rfl, trivial⟩ (G_Mo_needs H Hw a0 a1 S hp))
      exact ⟨_, _, h, hm.1, rfl, fun _ => ⟨_, _, rfl⟩, (fun _ U H hK hH a r e => by cases e; exact zrecv (ci := 12) (by omega) hkd rfl U H hK hH), hm.2⟩
    · cases hp
  · cases h
def zP_Mo_readScript : List (List (Nat × zE)) := [[(0, e1 (.aload_n 0) 1 0), (1, e3 (.invokevirtual 228) 4 0 1 0), (4, e1 (.ifCond .eq 9) 7 13), (7, e1 (.aload_n 0) 8 0), (8, ei (.iconst 3) 9 0 (3)), (9, e3 (.invokevirtual 183) 12 1 2 0), (12, e0 (.ireturn) 13), (13, e1 (.aload_n 0) 14 0), (14, e3 (.invokevirtual 187) 17 2 1 0)],
  [(17, e1 (.aload_n 0) 18 0), (18, e3 (.ldc 198) 20 1 4 0), (20, e3 (.invokevirtual 232) 23 3 2 0), (23, e1 (.ifCond .ne 5) 26 28), (26, ei (.iconst 0) 27 0 (0)), (27, e0 (.ireturn) 28), (28, e1 (.aload_n 0) 29 0), (29, e3 (.getfield 153) 32 12 25 0)],
  [(32, ei (.iconst 3) 33 0 (3)), (33, e1 (.if_icmp .eq 9) 36 42), (36, e1 (.aload_n 0) 37 0), (37, ei (.iconst 1) 38 0 (1)), (38, e3 (.invokevirtual 183) 41 1 2 0), (41, e0 (.ireturn) 42), (42, e1 (.aload_n 0) 43 0), (43, e3 (.getfield 160) 46 12 26 0), (46, ei (.iconst 2) 47 0 (2)), (47, ei (.iconst 4) 48 0 (4))],
  [(48, e3 (.invokestatic 156) 51 4 3 0), (51, e1 (.ifCond .ne 9) 54 60), (54, e1 (.aload_n 0) 55 0), (55, ei (.iconst 2) 56 0 (2)), (56, e3 (.invokevirtual 183) 59 1 2 0), (59, e0 (.ireturn) 60), (60, e1 (.aload_n 0) 61 0), (61, e1 (.aload_n 0) 62 0), (62, e3 (.getfield 160) 65 12 26 0)],
  [(65, e3 (.putfield 225) 68 12 14 0), (68, e1 (.aload_n 0) 69 0), (69, e3 (.invokevirtual 187) 72 2 1 0), (72, ei (.iconst 1) 73 0 (1)), (73, e0 (.ireturn) 74)]]
noncomputable def zE_Mo_readScript (α : Type) : Nat → zX α := fun i => bif Nat.beq i 0 then zA_vR_I 12 f_Mo_hasScript else bif Nat.beq i 1 then zA_vRI_I 12 f_Mo_errs else bif Nat.beq i 2 then zA_vR_V 12 f_Mo_goesOn else bif Nat.beq i 3 then zA_vRR_I 12 f_Mo_needs else bif Nat.beq i 4 then zA_III_I f_Mo_in else fun _ _ _ => none
def zc_Mo_readScript : Nat → Bool := fun pc => false
set_option maxRecDepth 100000 in
theorem r_Mo_readScript (a0 : Nat) (S : zM) : f_Mo_readScript a0 S = zrt true zP_Mo_readScript (zE_Mo_readScript (Int32 × zM)) zc_Mo_readScript zkI (fun pc lv st S => none) 1000 0 [some (.ref a0)] [] S := rfl
theorem G_Mo_readScript {g : zV → Nat → List Value → zM → Prop} {res : (Int32 × zM)} (H : zCl true zP_Mo_readScript (zE_Mo_readScript (Int32 × zM)) zkI res g) (Hw : zWk g) (a0 : Nat) (S : zM) (h : f_Mo_readScript a0 S = some res) : g [some (.ref a0)] 0 [] S := by
  refine H zc_Mo_readScript _ 1000 _ _ _ _ ((r_Mo_readScript a0 S).symm.trans h) (fun pc lv st S hK => ?_)
  cases hK
set_option maxRecDepth 100000 in
theorem ok_Mo_readScript : zokT 12 [67, 68, 65, 69, 62] false 7 194 1 true (some .boolean) cX12_readScript zP_Mo_readScript = true := by decide +kernel
set_option maxRecDepth 100000 in
theorem s_Mo_readScript {l : Launch} {HB : Heap} {b L : Nat} {xs : Nat → Int32} {aK aV : Nat → Nat} {G : va_G} {tc : Nat → ClassId} (h0 : zSnd l HB b L xs aK aV G tc (zMT.getD 67 zyD) (fun α => zA_vR_I 12 f_Mo_hasScript)) (h1 : zSnd l HB b L xs aK aV G tc (zMT.getD 68 zyD) (fun α => zA_vRI_I 12 f_Mo_errs)) (h2 : zSnd l HB b L xs aK aV G tc (zMT.getD 65 zyD) (fun α => zA_vR_V 12 f_Mo_goesOn)) (h3 : zSnd l HB b L xs aK aV G tc (zMT.getD 69 zyD) (fun α => zA_vRR_I 12 f_Mo_needs)) (h4 : zSnd l HB b L xs aK aV G tc (zMT.getD 62 zyD) (fun α => zA_III_I f_Mo_in)) : zSnd l HB b L xs aK aV G tc (zMT.getD 70 zyD) (fun α => zA_vR_I 12 f_Mo_readScript) := by
  rw [show zMT.getD 70 zyD = (yX12_readScript, cX12_readScript, 1, (some .boolean), 0, 1, 7, 194) from rfl]
  intro α as S k res h
  unfold zA_vR_I at h
  dsimp only at h
  split at h
  · rename_i a0
    obtain ⟨p, hp, h⟩ := zbind h
    unfold zcl at hp
    split at hp
    · rename_i hkd
      have hm := zmeth (l := l) (HB := HB) (b := b) (L := L) (xs := xs) (aK := aK) (aV := aV) (G := G) (tc := tc) (q := (yX12_readScript, cX12_readScript, 1, (some .boolean), 0, 1, 7, 194)) (o := 12) (cs := [67, 68, 65, 69, 62]) (rz := true) (T := zP_Mo_readScript) (E := zE_Mo_readScript (Int32 × zM)) (kr := zkI) (res := p) (v0 := some (.int p.1)) (S0 := p.2) (as := [.ref a0]) (S := S) zMT_fine (by decide +kernel) (fun i as S k' h => by
        unfold zE_Mo_readScript at h
        rcases zdisf h with ⟨rfl, h⟩ | h
        · exact h0 _ _ _ _ _ h
        rcases zdisf h with ⟨rfl, h⟩ | h
        · exact h1 _ _ _ _ _ h
        rcases zdisf h with ⟨rfl, h⟩ | h
        · exact h2 _ _ _ _ _ h
        rcases zdisf h with ⟨rfl, h⟩ | h
        · exact h3 _ _ _ _ _ h
        rcases zdisf h with ⟨rfl, h⟩ | h
        · exact h4 _ _ _ _ _ h
        cases h) ok_Mo_readScript rfl (fun v S' h => zkI_inv h) (Nat.le_of_ble_eq_true rfl) (fun g H Hw => Hw _ [some (.ref a0)] _ _ _ ⟨rfl, trivial⟩ (G_Mo_readScript H Hw a0 S hp))
      exact ⟨_, _, h, hm.1, rfl, fun _ => ⟨_, _, rfl⟩, (fun _ U H hK hH a r e => by cases e; exact zrecv (ci := 12) (by omega) hkd rfl U H hK hH), hm.2⟩
    · cases hp
  · cases h
def zP_Mo_isKeyword : List (List (Nat × zE)) := [[(0, e1 (.aload_n 0) 1 0), (1, e3 (.ldc 190) 3 1 0 0), (3, e3 (.invokevirtual 179) 6 0 2 0), (6, e1 (.ifCond .ne 102) 9 108), (9, e1 (.aload_n 0) 10 0), (10, e3 (.ldc 192) 12 1 1 0), (12, e3 (.invokevirtual 179) 15 0 2 0), (15, e1 (.ifCond .ne 93) 18 108)],
  [(18, e1 (.aload_n 0) 19 0), (19, e3 (.ldc 194) 21 1 2 0), (21, e3 (.invokevirtual 179) 24 0 2 0), (24, e1 (.ifCond .ne 84) 27 108), (27, e1 (.aload_n 0) 28 0), (28, e3 (.ldc 196) 30 1 3 0), (30, e3 (.invokevirtual 179) 33 0 2 0)],
  [(33, e1 (.ifCond .ne 75) 36 108), (36, e1 (.aload_n 0) 37 0), (37, e3 (.ldc 198) 39 1 4 0), (39, e3 (.invokevirtual 179) 42 0 2 0), (42, e1 (.ifCond .ne 66) 45 108), (45, e1 (.aload_n 0) 46 0), (46, e3 (.ldc 200) 48 1 5 0)],
  [(48, e3 (.invokevirtual 179) 51 0 2 0), (51, e1 (.ifCond .ne 57) 54 108), (54, e1 (.aload_n 0) 55 0), (55, e3 (.ldc 202) 57 1 6 0), (57, e3 (.invokevirtual 179) 60 0 2 0), (60, e1 (.ifCond .ne 48) 63 108), (63, e1 (.aload_n 0) 64 0)],
  [(64, e3 (.ldc 204) 66 1 7 0), (66, e3 (.invokevirtual 179) 69 0 2 0), (69, e1 (.ifCond .ne 39) 72 108), (72, e1 (.aload_n 0) 73 0), (73, e3 (.ldc 206) 75 1 8 0), (75, e3 (.invokevirtual 179) 78 0 2 0), (78, e1 (.ifCond .ne 30) 81 108)],
  [(81, e1 (.aload_n 0) 82 0), (82, e3 (.ldc 208) 84 1 9 0), (84, e3 (.invokevirtual 179) 87 0 2 0), (87, e1 (.ifCond .ne 21) 90 108), (90, e1 (.aload_n 0) 91 0), (91, e3 (.ldc 210) 93 1 10 0), (93, e3 (.invokevirtual 179) 96 0 2 0)],
  [(96, e1 (.ifCond .ne 12) 99 108), (99, e1 (.aload_n 0) 100 0), (100, e3 (.ldc 212) 102 1 11 0), (102, e3 (.invokevirtual 179) 105 0 2 0), (105, e1 (.ifCond .eq 7) 108 112), (108, ei (.iconst 1) 109 0 (1)), (109, e1 (.goto 4) 112 113)],
  [(112, ei (.iconst 0) 113 0 (0)), (113, e0 (.ireturn) 114)]]
noncomputable def zE_Mo_isKeyword (α : Type) : Nat → zX α := fun i => bif Nat.beq i 0 then zA_vRR_I 12 f_Mo_isWord else fun _ _ _ => none
def zc_Mo_isKeyword : Nat → Bool := fun pc => false
set_option maxRecDepth 100000 in
theorem r_Mo_isKeyword (a0 : Nat) (S : zM) : f_Mo_isKeyword a0 S = zrt true zP_Mo_isKeyword (zE_Mo_isKeyword (Int32 × zM)) zc_Mo_isKeyword zkI (fun pc lv st S => none) 1000 0 [some (.ref a0)] [] S := rfl
theorem G_Mo_isKeyword {g : zV → Nat → List Value → zM → Prop} {res : (Int32 × zM)} (H : zCl true zP_Mo_isKeyword (zE_Mo_isKeyword (Int32 × zM)) zkI res g) (Hw : zWk g) (a0 : Nat) (S : zM) (h : f_Mo_isKeyword a0 S = some res) : g [some (.ref a0)] 0 [] S := by
  refine H zc_Mo_isKeyword _ 1000 _ _ _ _ ((r_Mo_isKeyword a0 S).symm.trans h) (fun pc lv st S hK => ?_)
  cases hK
set_option maxRecDepth 100000 in
theorem ok_Mo_isKeyword : zokT 12 [66] false 6 173 1 true (some .boolean) cX12_isKeyword zP_Mo_isKeyword = true := by decide +kernel
set_option maxRecDepth 100000 in
theorem s_Mo_isKeyword {l : Launch} {HB : Heap} {b L : Nat} {xs : Nat → Int32} {aK aV : Nat → Nat} {G : va_G} {tc : Nat → ClassId} (h0 : zSnd l HB b L xs aK aV G tc (zMT.getD 66 zyD) (fun α => zA_vRR_I 12 f_Mo_isWord)) : zSnd l HB b L xs aK aV G tc (zMT.getD 71 zyD) (fun α => zA_vR_I 12 f_Mo_isKeyword) := by
  rw [show zMT.getD 71 zyD = (yX12_isKeyword, cX12_isKeyword, 1, (some .boolean), 0, 1, 6, 173) from rfl]
  intro α as S k res h
  unfold zA_vR_I at h
  dsimp only at h
  split at h
  · rename_i a0
    obtain ⟨p, hp, h⟩ := zbind h
    unfold zcl at hp
    split at hp
    · rename_i hkd
      have hm := zmeth (l := l) (HB := HB) (b := b) (L := L) (xs := xs) (aK := aK) (aV := aV) (G := G) (tc := tc) (q := (yX12_isKeyword, cX12_isKeyword, 1, (some .boolean), 0, 1, 6, 173)) (o := 12) (cs := [66]) (rz := true) (T := zP_Mo_isKeyword) (E := zE_Mo_isKeyword (Int32 × zM)) (kr := zkI) (res := p) (v0 := some (.int p.1)) (S0 := p.2) (as := [.ref a0]) (S := S) zMT_fine (by decide +kernel) (fun i as S k' h => by
        unfold zE_Mo_isKeyword at h
        rcases zdisf h with ⟨rfl, h⟩ | h
        · exact h0 _ _ _ _ _ h
        cases h) ok_Mo_isKeyword rfl (fun v S' h => zkI_inv h) (Nat.le_of_ble_eq_true rfl) (fun g H Hw => Hw _ [some (.ref a0)] _ _ _ ⟨rfl, trivial⟩ (G_Mo_isKeyword H Hw a0 S hp))
      exact ⟨_, _, h, hm.1, rfl, fun _ => ⟨_, _, rfl⟩, (fun _ U H hK hH a r e => by cases e; exact zrecv (ci := 12) (by omega) hkd rfl U H hK hH), hm.2⟩
    · cases hp
  · cases h
def zP_Mo_spelt : List (List (Nat × zE)) := [[(0, ej (.lconst 0) 1 (0)), (1, e1 (.lstore_n 1) 2 1), (2, e1 (.aload_n 0) 3 0), (3, e3 (.getfield 150) 6 12 23 0), (6, e1 (.istore_n 3) 7 3), (7, e1 (.iload_n 3) 8 3), (8, e1 (.aload_n 0) 9 0), (9, e3 (.getfield 143) 12 12 24 0), (12, e1 (.if_icmp .ge 27) 15 39), (15, ej (.ldc2_w 214) 18 (32))],
  [(18, e1 (.lload_n 1) 19 1), (19, e0 (.lmul) 20), (20, e1 (.aload_n 0) 21 0), (21, e3 (.getfield 13) 24 12 4 2), (24, e1 (.iload_n 3) 25 3), (25, e0 (.iaload) 26), (26, e0 (.i2l) 27), (27, e0 (.ladd) 28), (28, ej (.ldc2_w 216) 31 (96)), (31, e0 (.lsub) 32)],
  [(32, e1 (.lstore_n 1) 33 1), (33, ei (.iinc 3 1) 36 3 (1)), (36, e1 (.goto (-29)) 39 7), (39, e1 (.lload_n 1) 40 1), (40, e0 (.lreturn) 41)]]
noncomputable def zE_Mo_spelt (α : Type) : Nat → zX α := fun _ => fun _ _ _ => none
def zc_Mo_spelt : Nat → Bool := fun pc => Nat.beq pc 7
def D_Mo_spelt_7 (k : Nat → Int64 → Int32 → zM → Option (Int64 × zM)) (lv : zV) (st : List Value) (S : zM) : Option (Int64 × zM) := match lv, st with
  | [some (.ref a0), some (.long a1), _, some (.int a3)], [] => k a0 a1 a3 S
  | _, _ => none
theorem d_Mo_spelt_7 {g : zV → Nat → List Value → zM → Prop} (Hw : zWk g) {k : Nat → Int64 → Int32 → zM → Option (Int64 × zM)} {res : (Int64 × zM)} {lv : zV} {st : List Value} {S : zM} (h : D_Mo_spelt_7 k lv st S = some res) (hk : ∀ a0 a1 a3 S, k a0 a1 a3 S = some res → g [some (.ref a0), some (.long a1), none, some (.int a3)] 7 [] S) : g lv 7 st S := by
  unfold D_Mo_spelt_7 at h
  split at h
  · exact Hw _ _ _ _ _ (by simp [zle]) (hk _ _ _ _  h)
  · cases h
set_option maxRecDepth 100000 in
theorem r_Mo_spelt_7 (n : Nat) (a0 : Nat) (a1 : Int64) (a3 : Int32) (S : zM) : L_Mo_spelt_7 (n + 1) a0 a1 a3 S = zrt false zP_Mo_spelt (zE_Mo_spelt (Int64 × zM)) zc_Mo_spelt zkJ (fun pc lv st S => bif Nat.beq pc 7 then D_Mo_spelt_7 (L_Mo_spelt_7 n) lv st S else none) 1000 7 [some (.ref a0), some (.long a1), none, some (.int a3)] [] S := rfl
theorem g_Mo_spelt_7 {g : zV → Nat → List Value → zM → Prop} {res : (Int64 × zM)} (H : zCl false zP_Mo_spelt (zE_Mo_spelt (Int64 × zM)) zkJ res g) (Hw : zWk g) (n : Nat) : ∀ (a0 : Nat) (a1 : Int64) (a3 : Int32) (S : zM), L_Mo_spelt_7 n a0 a1 a3 S = some res → g [some (.ref a0), some (.long a1), none, some (.int a3)] 7 [] S := by
  induction n with
  | zero => intro a0 a1 a3 S h; cases h
  | succ n ih =>
    intro a0 a1 a3 S h
    refine H zc_Mo_spelt _ 1000 _ _ _ _ ((r_Mo_spelt_7 n a0 a1 a3 S).symm.trans h) (fun pc lv st S hK => ?_)
    rcases zdis hK with ⟨rfl, hK⟩ | hK
    · exact d_Mo_spelt_7 Hw hK ih
    cases hK
set_option maxRecDepth 100000 in
theorem r_Mo_spelt (a0 : Nat) (S : zM) : f_Mo_spelt a0 S = zrt false zP_Mo_spelt (zE_Mo_spelt (Int64 × zM)) zc_Mo_spelt zkJ (fun pc lv st S => bif Nat.beq pc 7 then D_Mo_spelt_7 (L_Mo_spelt_7 zF) lv st S else none) 1000 0 [some (.ref a0), none, none, none] [] S := rfl
theorem G_Mo_spelt {g : zV → Nat → List Value → zM → Prop} {res : (Int64 × zM)} (H : zCl false zP_Mo_spelt (zE_Mo_spelt (Int64 × zM)) zkJ res g) (Hw : zWk g) (a0 : Nat) (S : zM) (h : f_Mo_spelt a0 S = some res) : g [some (.ref a0), none, none, none] 0 [] S := by
  refine H zc_Mo_spelt _ 1000 _ _ _ _ ((r_Mo_spelt a0 S).symm.trans h) (fun pc lv st S hK => ?_)
  rcases zdis hK with ⟨rfl, hK⟩ | hK
  · exact d_Mo_spelt_7 Hw hK (g_Mo_spelt_7 H Hw  zF)
  cases hK
set_option maxRecDepth 100000 in
theorem ok_Mo_spelt : zokT 12 [] false 0 0 4 false (some .long) cX12_spelt zP_Mo_spelt = true := by decide +kernel
set_option maxRecDepth 100000 in
theorem s_Mo_spelt {l : Launch} {HB : Heap} {b L : Nat} {xs : Nat → Int32} {aK aV : Nat → Nat} {G : va_G} {tc : Nat → ClassId} : zSnd l HB b L xs aK aV G tc (zMT.getD 72 zyD) (fun α => zA_vR_J 12 f_Mo_spelt) := by
  rw [show zMT.getD 72 zyD = (yX12_spelt, cX12_spelt, 4, (some .long), 0, 1, 0, 0) from rfl]
  intro α as S k res h
  unfold zA_vR_J at h
  dsimp only at h
  split at h
  · rename_i a0
    obtain ⟨p, hp, h⟩ := zbind h
    unfold zcl at hp
    split at hp
    · rename_i hkd
      have hm := zmeth (l := l) (HB := HB) (b := b) (L := L) (xs := xs) (aK := aK) (aV := aV) (G := G) (tc := tc) (q := (yX12_spelt, cX12_spelt, 4, (some .long), 0, 1, 0, 0)) (o := 12) (cs := []) (rz := false) (T := zP_Mo_spelt) (E := zE_Mo_spelt (Int64 × zM)) (kr := zkJ) (res := p) (v0 := some (.long p.1)) (S0 := p.2) (as := [.ref a0]) (S := S) zMT_fine (by decide +kernel) (fun i as S k' h => by
        unfold zE_Mo_spelt at h
        cases h) ok_Mo_spelt rfl (fun v S' h => zkJ_inv h) (Nat.le_of_ble_eq_true rfl) (fun g H Hw => Hw _ [some (.ref a0), none, none, none] _ _ _ ⟨rfl, trivial⟩ (G_Mo_spelt H Hw a0 S hp))
      exact ⟨_, _, h, hm.1, rfl, fun _ => ⟨_, _, rfl⟩, (fun _ U H hK hH a r e => by cases e; exact zrecv (ci := 12) (by omega) hkd rfl U H hK hH), hm.2⟩
    · cases hp
  · cases h
def zP_Mo_kindHere : List (List (Nat × zE)) := [[(0, ei (.iconst 0) 1 0 (0)), (1, e1 (.istore_n 1) 2 1), (2, e1 (.iload_n 1) 3 1), (3, e1 (.aload_n 0) 4 0), (4, e3 (.getfield 218) 7 12 15 0), (7, e1 (.if_icmp .ge 25) 10 32), (10, e1 (.aload_n 0) 11 0), (11, e3 (.getfield 33) 14 12 18 2), (14, e1 (.iload_n 1) 15 1), (15, e0 (.laload) 16)],
  [(16, e1 (.aload_n 0) 17 0), (17, e3 (.invokevirtual 221) 20 0 1 0), (20, e0 (.lcmp) 21), (21, e1 (.ifCond .ne 5) 24 26), (24, e1 (.iload_n 1) 25 1), (25, e0 (.ireturn) 26), (26, ei (.iinc 1 1) 29 1 (1)), (29, e1 (.goto (-27)) 32 2)],
  [(32, ei (.iconst (-1)) 33 0 (-1)), (33, e0 (.ireturn) 34)]]
noncomputable def zE_Mo_kindHere (α : Type) : Nat → zX α := fun i => bif Nat.beq i 0 then zA_vR_J 12 f_Mo_spelt else fun _ _ _ => none
def zc_Mo_kindHere : Nat → Bool := fun pc => Nat.beq pc 2
def D_Mo_kindHere_2 (k : Nat → Int32 → zM → Option (Int32 × zM)) (lv : zV) (st : List Value) (S : zM) : Option (Int32 × zM) := match lv, st with
  | [some (.ref a0), some (.int a1)], [] => k a0 a1 S
  | _, _ => none
theorem d_Mo_kindHere_2 {g : zV → Nat → List Value → zM → Prop} (Hw : zWk g) {k : Nat → Int32 → zM → Option (Int32 × zM)} {res : (Int32 × zM)} {lv : zV} {st : List Value} {S : zM} (h : D_Mo_kindHere_2 k lv st S = some res) (hk : ∀ a0 a1 S, k a0 a1 S = some res → g [some (.ref a0), some (.int a1)] 2 [] S) : g lv 2 st S := by
  unfold D_Mo_kindHere_2 at h
  split at h
  · exact Hw _ _ _ _ _ (by simp [zle]) (hk _ _ _  h)
  · cases h
set_option maxRecDepth 100000 in
theorem r_Mo_kindHere_2 (n : Nat) (a0 : Nat) (a1 : Int32) (S : zM) : L_Mo_kindHere_2 (n + 1) a0 a1 S = zrt false zP_Mo_kindHere (zE_Mo_kindHere (Int32 × zM)) zc_Mo_kindHere zkI (fun pc lv st S => bif Nat.beq pc 2 then D_Mo_kindHere_2 (L_Mo_kindHere_2 n) lv st S else none) 1000 2 [some (.ref a0), some (.int a1)] [] S := rfl
theorem g_Mo_kindHere_2 {g : zV → Nat → List Value → zM → Prop} {res : (Int32 × zM)} (H : zCl false zP_Mo_kindHere (zE_Mo_kindHere (Int32 × zM)) zkI res g) (Hw : zWk g) (n : Nat) : ∀ (a0 : Nat) (a1 : Int32) (S : zM), L_Mo_kindHere_2 n a0 a1 S = some res → g [some (.ref a0), some (.int a1)] 2 [] S := by
  induction n with
  | zero => intro a0 a1 S h; cases h
  | succ n ih =>
    intro a0 a1 S h
    refine H zc_Mo_kindHere _ 1000 _ _ _ _ ((r_Mo_kindHere_2 n a0 a1 S).symm.trans h) (fun pc lv st S hK => ?_)
    rcases zdis hK with ⟨rfl, hK⟩ | hK
    · exact d_Mo_kindHere_2 Hw hK ih
    cases hK
set_option maxRecDepth 100000 in
theorem r_Mo_kindHere (a0 : Nat) (S : zM) : f_Mo_kindHere a0 S = zrt false zP_Mo_kindHere (zE_Mo_kindHere (Int32 × zM)) zc_Mo_kindHere zkI (fun pc lv st S => bif Nat.beq pc 2 then D_Mo_kindHere_2 (L_Mo_kindHere_2 zF) lv st S else none) 1000 0 [some (.ref a0), none] [] S := rfl
theorem G_Mo_kindHere {g : zV → Nat → List Value → zM → Prop} {res : (Int32 × zM)} (H : zCl false zP_Mo_kindHere (zE_Mo_kindHere (Int32 × zM)) zkI res g) (Hw : zWk g) (a0 : Nat) (S : zM) (h : f_Mo_kindHere a0 S = some res) : g [some (.ref a0), none] 0 [] S := by
  refine H zc_Mo_kindHere _ 1000 _ _ _ _ ((r_Mo_kindHere a0 S).symm.trans h) (fun pc lv st S hK => ?_)
  rcases zdis hK with ⟨rfl, hK⟩ | hK
  · exact d_Mo_kindHere_2 Hw hK (g_Mo_kindHere_2 H Hw  zF)
  cases hK
set_option maxRecDepth 100000 in
theorem ok_Mo_kindHere : zokT 12 [72] false 1 23 2 false (some .int) cX12_kindHere zP_Mo_kindHere = true := by decide +kernel
set_option maxRecDepth 100000 in
theorem s_Mo_kindHere {l : Launch} {HB : Heap} {b L : Nat} {xs : Nat → Int32} {aK aV : Nat → Nat} {G : va_G} {tc : Nat → ClassId} (h0 : zSnd l HB b L xs aK aV G tc (zMT.getD 72 zyD) (fun α => zA_vR_J 12 f_Mo_spelt)) : zSnd l HB b L xs aK aV G tc (zMT.getD 73 zyD) (fun α => zA_vR_I 12 f_Mo_kindHere) := by
  rw [show zMT.getD 73 zyD = (yX12_kindHere, cX12_kindHere, 2, (some .int), 0, 1, 1, 23) from rfl]
  intro α as S k res h
  unfold zA_vR_I at h
  dsimp only at h
  split at h
  · rename_i a0
    obtain ⟨p, hp, h⟩ := zbind h
    unfold zcl at hp
    split at hp
    · rename_i hkd
      have hm := zmeth (l := l) (HB := HB) (b := b) (L := L) (xs := xs) (aK := aK) (aV := aV) (G := G) (tc := tc) (q := (yX12_kindHere, cX12_kindHere, 2, (some .int), 0, 1, 1, 23)) (o := 12) (cs := [72]) (rz := false) (T := zP_Mo_kindHere) (E := zE_Mo_kindHere (Int32 × zM)) (kr := zkI) (res := p) (v0 := some (.int p.1)) (S0 := p.2) (as := [.ref a0]) (S := S) zMT_fine (by decide +kernel) (fun i as S k' h => by
        unfold zE_Mo_kindHere at h
        rcases zdisf h with ⟨rfl, h⟩ | h
        · exact h0 _ _ _ _ _ h
        cases h) ok_Mo_kindHere rfl (fun v S' h => zkI_inv h) (Nat.le_of_ble_eq_true rfl) (fun g H Hw => Hw _ [some (.ref a0), none] _ _ _ ⟨rfl, trivial⟩ (G_Mo_kindHere H Hw a0 S hp))
      exact ⟨_, _, h, hm.1, rfl, fun _ => ⟨_, _, rfl⟩, (fun _ U H hK hH a r e => by cases e; exact zrecv (ci := 12) (by omega) hkd rfl U H hK hH), hm.2⟩
    · cases hp
  · cases h
def zP_Mo_areLetters : List (List (Nat × zE)) := [[(0, e1 (.aload_n 0) 1 0), (1, e3 (.getfield 153) 4 12 25 0), (4, ei (.iconst 2) 5 0 (2)), (5, e1 (.if_icmp .ne 16) 8 21), (8, e1 (.aload_n 0) 9 0), (9, e3 (.getfield 143) 12 12 24 0), (12, e1 (.aload_n 0) 13 0), (13, e3 (.getfield 150) 16 12 23 0)],
  [(16, e0 (.isub) 17), (17, e1 (.iload_n 1) 18 1), (18, e1 (.if_icmp .le 5) 21 23), (21, ei (.iconst 0) 22 0 (0)), (22, e0 (.ireturn) 23), (23, e1 (.aload_n 0) 24 0), (24, e3 (.getfield 150) 27 12 23 0), (27, e1 (.istore_n 2) 28 2), (28, e1 (.iload_n 2) 29 2), (29, e1 (.aload_n 0) 30 0), (30, e3 (.getfield 143) 33 12 24 0)],
  [(33, e1 (.if_icmp .ge 22) 36 55), (36, e1 (.aload_n 0) 37 0), (37, e3 (.getfield 13) 40 12 4 2), (40, e1 (.iload_n 2) 41 2), (41, e0 (.iaload) 42), (42, ei (.bipush 104) 44 0 (104)), (44, e1 (.if_icmp .le 5) 47 49), (47, ei (.iconst 0) 48 0 (0))],
  [(48, e0 (.ireturn) 49), (49, ei (.iinc 2 1) 52 2 (1)), (52, e1 (.goto (-24)) 55 28), (55, ei (.iconst 1) 56 0 (1)), (56, e0 (.ireturn) 57)]]
noncomputable def zE_Mo_areLetters (α : Type) : Nat → zX α := fun _ => fun _ _ _ => none
def zc_Mo_areLetters : Nat → Bool := fun pc => Nat.beq pc 28
def D_Mo_areLetters_28 (k : Nat → Int32 → zM → Option (Int32 × zM)) (lv : zV) (st : List Value) (S : zM) : Option (Int32 × zM) := match lv, st with
  | [some (.ref a0), _, some (.int a2)], [] => k a0 a2 S
  | _, _ => none
theorem d_Mo_areLetters_28 {g : zV → Nat → List Value → zM → Prop} (Hw : zWk g) {k : Nat → Int32 → zM → Option (Int32 × zM)} {res : (Int32 × zM)} {lv : zV} {st : List Value} {S : zM} (h : D_Mo_areLetters_28 k lv st S = some res) (hk : ∀ a0 a2 S, k a0 a2 S = some res → g [some (.ref a0), none, some (.int a2)] 28 [] S) : g lv 28 st S := by
  unfold D_Mo_areLetters_28 at h
  split at h
  · exact Hw _ _ _ _ _ (by simp [zle]) (hk _ _ _  h)
  · cases h
set_option maxRecDepth 100000 in
theorem r_Mo_areLetters_28 (n : Nat) (a0 : Nat) (a2 : Int32) (S : zM) : L_Mo_areLetters_28 (n + 1) a0 a2 S = zrt true zP_Mo_areLetters (zE_Mo_areLetters (Int32 × zM)) zc_Mo_areLetters zkI (fun pc lv st S => bif Nat.beq pc 28 then D_Mo_areLetters_28 (L_Mo_areLetters_28 n) lv st S else none) 1000 28 [some (.ref a0), none, some (.int a2)] [] S := rfl
theorem g_Mo_areLetters_28 {g : zV → Nat → List Value → zM → Prop} {res : (Int32 × zM)} (H : zCl true zP_Mo_areLetters (zE_Mo_areLetters (Int32 × zM)) zkI res g) (Hw : zWk g) (n : Nat) : ∀ (a0 : Nat) (a2 : Int32) (S : zM), L_Mo_areLetters_28 n a0 a2 S = some res → g [some (.ref a0), none, some (.int a2)] 28 [] S := by
  induction n with
  | zero => intro a0 a2 S h; cases h
  | succ n ih =>
    intro a0 a2 S h
    refine H zc_Mo_areLetters _ 1000 _ _ _ _ ((r_Mo_areLetters_28 n a0 a2 S).symm.trans h) (fun pc lv st S hK => ?_)
    rcases zdis hK with ⟨rfl, hK⟩ | hK
    · exact d_Mo_areLetters_28 Hw hK ih
    cases hK
set_option maxRecDepth 100000 in
theorem r_Mo_areLetters (a0 : Nat) (a1 : Int32) (S : zM) : f_Mo_areLetters a0 a1 S = zrt true zP_Mo_areLetters (zE_Mo_areLetters (Int32 × zM)) zc_Mo_areLetters zkI (fun pc lv st S => bif Nat.beq pc 28 then D_Mo_areLetters_28 (L_Mo_areLetters_28 zF) lv st S else none) 1000 0 [some (.ref a0), some (.int a1), none] [] S := rfl
theorem G_Mo_areLetters {g : zV → Nat → List Value → zM → Prop} {res : (Int32 × zM)} (H : zCl true zP_Mo_areLetters (zE_Mo_areLetters (Int32 × zM)) zkI res g) (Hw : zWk g) (a0 : Nat) (a1 : Int32) (S : zM) (h : f_Mo_areLetters a0 a1 S = some res) : g [some (.ref a0), some (.int a1), none] 0 [] S := by
  refine H zc_Mo_areLetters _ 1000 _ _ _ _ ((r_Mo_areLetters a0 a1 S).symm.trans h) (fun pc lv st S hK => ?_)
  rcases zdis hK with ⟨rfl, hK⟩ | hK
  · exact d_Mo_areLetters_28 Hw hK (g_Mo_areLetters_28 H Hw  zF)
  cases hK
set_option maxRecDepth 100000 in
theorem ok_Mo_areLetters : zokT 12 [] false 0 0 3 true (some .boolean) cX12_areLetters zP_Mo_areLetters = true := by decide +kernel
set_option maxRecDepth 100000 in
theorem s_Mo_areLetters {l : Launch} {HB : Heap} {b L : Nat} {xs : Nat → Int32} {aK aV : Nat → Nat} {G : va_G} {tc : Nat → ClassId} : zSnd l HB b L xs aK aV G tc (zMT.getD 74 zyD) (fun α => zA_vRI_I 12 f_Mo_areLetters) := by
  rw [show zMT.getD 74 zyD = (yX12_areLetters, cX12_areLetters, 3, (some .boolean), 0, 2, 0, 0) from rfl]
  intro α as S k res h
  unfold zA_vRI_I at h
  dsimp only at h
  split at h
  · rename_i a0 a1
    obtain ⟨p, hp, h⟩ := zbind h
    unfold zcl at hp
    split at hp
    · rename_i hkd
      have hm := zmeth (l := l) (HB := HB) (b := b) (L := L) (xs := xs) (aK := aK) (aV := aV) (G := G) (tc := tc) (q := (yX12_areLetters, cX12_areLetters, 3, (some .boolean), 0, 2, 0, 0)) (o := 12) (cs := []) (rz := true) (T := zP_Mo_areLetters) (E := zE_Mo_areLetters (Int32 × zM)) (kr := zkI) (res := p) (v0 := some (.int p.1)) (S0 := p.2) (as := [.ref a0, .int a1]) (S := S) zMT_fine (by decide +kernel) (fun i as S k' h => by
        unfold zE_Mo_areLetters at h
        cases h) ok_Mo_areLetters rfl (fun v S' h => zkI_inv h) (Nat.le_of_ble_eq_true rfl) (fun g H Hw => Hw _ [some (.ref a0), some (.int a1), none] _ _ _ ⟨rfl, rfl, trivial⟩ (G_Mo_areLetters H Hw a0 a1 S hp))
      exact ⟨_, _, h, hm.1, rfl, fun _ => ⟨_, _, rfl⟩, (fun _ U H hK hH a r e => by cases e; exact zrecv (ci := 12) (by omega) hkd rfl U H hK hH), hm.2⟩
    · cases hp
  · cases h
def zP_Mo_readKind : List (List (Nat × zE)) := [[(0, e1 (.aload_n 0) 1 0), (1, e3 (.getfield 218) 4 12 15 0), (4, ei (.iconst 4) 5 0 (4)), (5, e1 (.if_icmp .ne 9) 8 14), (8, e1 (.aload_n 0) 9 0), (9, ei (.iconst 5) 10 0 (5)), (10, e3 (.invokevirtual 183) 13 0 2 0), (13, e0 (.ireturn) 14), (14, e1 (.aload_n 0) 15 0), (15, e3 (.invokevirtual 228) 18 1 1 0)],
  [(18, e1 (.ifCond .ne 10) 21 28), (21, e1 (.aload_n 0) 22 0), (22, ei (.bipush 6) 24 0 (6)), (24, e3 (.invokevirtual 183) 27 0 2 0), (27, e0 (.ireturn) 28), (28, e1 (.aload_n 0) 29 0), (29, e3 (.invokevirtual 187) 32 2 1 0)],
  [(32, e1 (.aload_n 0) 33 0), (33, e3 (.getfield 153) 36 12 25 0), (36, ei (.iconst 2) 37 0 (2)), (37, e1 (.if_icmp .ne 23) 40 60), (40, e1 (.aload_n 0) 41 0), (41, e3 (.getfield 143) 44 12 24 0), (44, e1 (.aload_n 0) 45 0), (45, e3 (.getfield 150) 48 12 23 0)],
  [(48, e0 (.isub) 49), (49, ei (.iconst 2) 50 0 (2)), (50, e1 (.if_icmp .lt 10) 53 60), (53, e1 (.aload_n 0) 54 0), (54, e3 (.invokevirtual 235) 57 3 1 0), (57, e1 (.ifCond .eq 9) 60 66), (60, e1 (.aload_n 0) 61 0), (61, ei (.iconst 1) 62 0 (1)), (62, e3 (.invokevirtual 183) 65 0 2 0)],
  [(65, e0 (.ireturn) 66), (66, e1 (.aload_n 0) 67 0), (67, e3 (.invokevirtual 238) 70 4 1 0), (70, ei (.iconst (-1)) 71 0 (-1)), (71, e1 (.if_icmp .eq 9) 74 80), (74, e1 (.aload_n 0) 75 0), (75, ei (.iconst 3) 76 0 (3)), (76, e3 (.invokevirtual 183) 79 0 2 0), (79, e0 (.ireturn) 80)],
  [(80, e1 (.aload_n 0) 81 0), (81, e3 (.getfield 33) 84 12 18 2), (84, e1 (.aload_n 0) 85 0), (85, e3 (.getfield 218) 88 12 15 0), (88, e1 (.aload_n 0) 89 0), (89, e3 (.invokevirtual 221) 92 5 1 0), (92, e0 (.lastore) 93), (93, e1 (.aload_n 0) 94 0), (94, e3 (.invokevirtual 187) 97 2 1 0)],
  [(97, e1 (.aload_n 0) 98 0), (98, e3 (.ldc 200) 100 1 5 0), (100, e3 (.invokevirtual 232) 103 6 2 0), (103, e1 (.ifCond .ne 5) 106 108), (106, ei (.iconst 0) 107 0 (0)), (107, e0 (.ireturn) 108), (108, e1 (.aload_n 0) 109 0), (109, ei (.bipush 7) 111 0 (7)), (111, e3 (.invokevirtual 241) 114 7 2 0)],
  [(114, e1 (.ifCond .ne 9) 117 123), (117, e1 (.aload_n 0) 118 0), (118, ei (.iconst 1) 119 0 (1)), (119, e3 (.invokevirtual 183) 122 0 2 0), (122, e0 (.ireturn) 123), (123, ei (.iconst 0) 124 0 (0)), (124, e1 (.istore_n 1) 125 1), (125, e1 (.aload_n 0) 126 0), (126, e3 (.getfield 150) 129 12 23 0)],
  [(129, e1 (.istore_n 2) 130 2), (130, e1 (.iload_n 2) 131 2), (131, e1 (.aload_n 0) 132 0), (132, e3 (.getfield 143) 135 12 24 0), (135, e1 (.if_icmp .ge 37) 138 172), (138, ei (.iconst 1) 139 0 (1)), (139, e1 (.aload_n 0) 140 0), (140, e3 (.getfield 13) 143 12 4 2), (143, e1 (.iload_n 2) 144 2)],
  [(144, e0 (.iaload) 145), (145, ei (.bipush 97) 147 0 (97)), (147, e0 (.isub) 148), (148, e0 (.ishl) 149), (149, e1 (.istore_n 3) 150 3), (150, e1 (.iload_n 1) 151 1), (151, e1 (.iload_n 3) 152 3), (152, e0 (.iand) 153), (153, e1 (.ifCond .eq 9) 156 162), (156, e1 (.aload_n 0) 157 0), (157, ei (.iconst 3) 158 0 (3)), (158, e3 (.invokevirtual 183) 161 0 2 0)],
  [(161, e0 (.ireturn) 162), (162, e1 (.iload_n 1) 163 1), (163, e1 (.iload_n 3) 164 3), (164, e0 (.ior) 165), (165, e1 (.istore_n 1) 166 1), (166, ei (.iinc 2 1) 169 2 (1)), (169, e1 (.goto (-39)) 172 130), (172, e1 (.aload_n 0) 173 0), (173, e3 (.getfield 30) 176 12 17 2)],
  [(176, e1 (.aload_n 0) 177 0), (177, e3 (.getfield 218) 180 12 15 0), (180, e1 (.iload_n 1) 181 1), (181, e0 (.iastore) 182), (182, e1 (.aload_n 0) 183 0), (183, e0 (.dup) 184), (184, e3 (.getfield 218) 187 12 15 0), (187, ei (.iconst 1) 188 0 (1)), (188, e0 (.iadd) 189), (189, e3 (.putfield 218) 192 12 15 0)],
  [(192, e1 (.aload_n 0) 193 0), (193, e3 (.invokevirtual 187) 196 2 1 0), (196, ei (.iconst 1) 197 0 (1)), (197, e0 (.ireturn) 198)]]
noncomputable def zE_Mo_readKind (α : Type) : Nat → zX α := fun i => bif Nat.beq i 0 then zA_vRI_I 12 f_Mo_errs else bif Nat.beq i 1 then zA_vR_I 12 f_Mo_hasScript else bif Nat.beq i 2 then zA_vR_V 12 f_Mo_goesOn else bif Nat.beq i 3 then zA_vR_I 12 f_Mo_isKeyword else bif Nat.beq i 4 then zA_vR_I 12 f_Mo_kindHere else bif Nat.beq i 5 then zA_vR_J 12 f_Mo_spelt else bif Nat.beq i 6 then zA_vRR_I 12 f_Mo_needs else bif Nat.beq i 7 then zA_vRI_I 12 f_Mo_areLetters else fun _ _ _ => none
def zc_Mo_readKind : Nat → Bool := fun pc => Nat.beq pc 130 || Nat.beq pc 172
def D_Mo_readKind_130 (k : Nat → Int32 → Int32 → zM → Option (Int32 × zM)) (lv : zV) (st : List Value) (S : zM) : Option (Int32 × zM) := match lv, st with
  | [some (.ref a0), some (.int a1), some (.int a2), _], [] => k a0 a1 a2 S
  | _, _ => none
theorem d_Mo_readKind_130 {g : zV → Nat → List Value → zM → Prop} (Hw : zWk g) {k : Nat → Int32 → Int32 → zM → Option (Int32 × zM)} {res : (Int32 × zM)} {lv : zV} {st : List Value} {S : zM} (h : D_Mo_readKind_130 k lv st S = some res) (hk : ∀ a0 a1 a2 S, k a0 a1 a2 S = some res → g [some (.ref a0), some (.int a1), some (.int a2), none] 130 [] S) : g lv 130 st S := by
  unfold D_Mo_readKind_130 at h
  split at h
  · exact Hw _ _ _ _ _ (by simp [zle]) (hk _ _ _ _  h)
  · cases h
def D_Mo_readKind_172 (k : Nat → Int32 → zM → Option (Int32 × zM)) (lv : zV) (st : List Value) (S : zM) : Option (Int32 × zM) := match lv, st with
  | [some (.ref a0), some (.int a1), _, _], [] => k a0 a1 S
  | _, _ => none
theorem d_Mo_readKind_172 {g : zV → Nat → List Value → zM → Prop} (Hw : zWk g) {k : Nat → Int32 → zM → Option (Int32 × zM)} {res : (Int32 × zM)} {lv : zV} {st : List Value} {S : zM} (h : D_Mo_readKind_172 k lv st S = some res) (hk : ∀ a0 a1 S, k a0 a1 S = some res → g [some (.ref a0), some (.int a1), none, none] 172 [] S) : g lv 172 st S := by
  unfold D_Mo_readKind_172 at h
  split at h
  · exact Hw _ _ _ _ _ (by simp [zle]) (hk _ _ _  h)
  · cases h
set_option maxRecDepth 100000 in
theorem r_Mo_readKind_172 (a0 : Nat) (a1 : Int32) (S : zM) : F_Mo_readKind_172 a0 a1 S = zrt true zP_Mo_readKind (zE_Mo_readKind (Int32 × zM)) zc_Mo_readKind zkI (fun pc lv st S => none) 1000 172 [some (.ref a0), some (.int a1), none, none] [] S := rfl
theorem g_Mo_readKind_172 {g : zV → Nat → List Value → zM → Prop} {res : (Int32 × zM)} (H : zCl true zP_Mo_readKind (zE_Mo_readKind (Int32 × zM)) zkI res g) (Hw : zWk g) (a0 : Nat) (a1 : Int32) (S : zM) (h : F_Mo_readKind_172 a0 a1 S = some res) : g [some (.ref a0), some (.int a1), none, none] 172 [] S := by
  refine H zc_Mo_readKind _ 1000 _ _ _ _ ((r_Mo_readKind_172 a0 a1 S).symm.trans h) (fun pc lv st S hK => ?_)
  cases hK
set_option maxRecDepth 100000 in
theorem r_Mo_readKind_130 (k172 : Nat → Int32 → zM → Option (Int32 × zM)) (n : Nat) (a0 : Nat) (a1 : Int32) (a2 : Int32) (S : zM) : L_Mo_readKind_130 k172 (n + 1) a0 a1 a2 S = zrt true zP_Mo_readKind (zE_Mo_readKind (Int32 × zM)) zc_Mo_readKind zkI (fun pc lv st S => bif Nat.beq pc 130 then D_Mo_readKind_130 (L_Mo_readKind_130 k172 n) lv st S else bif Nat.beq pc 172 then D_Mo_readKind_172 k172 lv st S else none) 1000 130 [some (.ref a0), some (.int a1), some (.int a2), none] [] S := rfl
theorem g_Mo_readKind_130 {g : zV → Nat → List Value → zM → Prop} {res : (Int32 × zM)} (H : zCl true zP_Mo_readKind (zE_Mo_readKind (Int32 × zM)) zkI res g) (Hw : zWk g) {k172 : Nat → Int32 → zM → Option (Int32 × zM)} (hk172 : ∀ a0 a1 S, k172 a0 a1 S = some res → g [some (.ref a0), some (.int a1), none, none] 172 [] S) (n : Nat) : ∀ (a0 : Nat) (a1 : Int32) (a2 : Int32) (S : zM), L_Mo_readKind_130 k172 n a0 a1 a2 S = some res → g [some (.ref a0), some (.int a1), some (.int a2), none] 130 [] S := by
  induction n with
  | zero => intro a0 a1 a2 S h; cases h
  | succ n ih =>
    intro a0 a1 a2 S h
    refine H zc_Mo_readKind _ 1000 _ _ _ _ ((r_Mo_readKind_130 k172 n a0 a1 a2 S).symm.trans h) (fun pc lv st S hK => ?_)
    rcases zdis hK with ⟨rfl, hK⟩ | hK
    · exact d_Mo_readKind_130 Hw hK ih
    rcases zdis hK with ⟨rfl, hK⟩ | hK
    · exact d_Mo_readKind_172 Hw hK hk172
    cases hK
set_option maxRecDepth 100000 in
theorem r_Mo_readKind (a0 : Nat) (S : zM) : f_Mo_readKind a0 S = zrt true zP_Mo_readKind (zE_Mo_readKind (Int32 × zM)) zc_Mo_readKind zkI (fun pc lv st S => bif Nat.beq pc 130 then D_Mo_readKind_130 (L_Mo_readKind_130 (F_Mo_readKind_172) zF) lv st S else none) 1000 0 [some (.ref a0), none, none, none] [] S := rfl
theorem G_Mo_readKind {g : zV → Nat → List Value → zM → Prop} {res : (Int32 × zM)} (H : zCl true zP_Mo_readKind (zE_Mo_readKind (Int32 × zM)) zkI res g) (Hw : zWk g) (a0 : Nat) (S : zM) (h : f_Mo_readKind a0 S = some res) : g [some (.ref a0), none, none, none] 0 [] S := by
  refine H zc_Mo_readKind _ 1000 _ _ _ _ ((r_Mo_readKind a0 S).symm.trans h) (fun pc lv st S hK => ?_)
  rcases zdis hK with ⟨rfl, hK⟩ | hK
  · exact d_Mo_readKind_130 Hw hK (g_Mo_readKind_130 H Hw (g_Mo_readKind_172 H Hw ) zF)
  cases hK
set_option maxRecDepth 100000 in
theorem ok_Mo_readKind : zokT 12 [68, 67, 65, 71, 73, 72, 69, 74] false 7 194 4 true (some .boolean) cX12_readKind zP_Mo_readKind = true := by decide +kernel
set_option maxRecDepth 100000 in
theorem s_Mo_readKind {l : Launch} {HB : Heap} {b L : Nat} {xs : Nat → Int32} {aK aV : Nat → Nat} {G : va_G} {tc : Nat → ClassId} (h0 : zSnd l HB b L xs aK aV G tc (zMT.getD 68 zyD) (fun α => zA_vRI_I 12 f_Mo_errs)) (h1 : zSnd l HB b L xs aK aV G tc (zMT.getD 67 zyD) (fun α => zA_vR_I 12 f_Mo_hasScript)) (h2 : zSnd l HB b L xs aK aV G tc (zMT.getD 65 zyD) (fun α => zA_vR_V 12 f_Mo_goesOn)) (h3 : zSnd l HB b L xs aK aV G tc (zMT.getD 71 zyD) (fun α => zA_vR_I 12 f_Mo_isKeyword)) (h4 : zSnd l HB b L xs aK aV G tc (zMT.getD 73 zyD) (fun α => zA_vR_I 12 f_Mo_kindHere)) (h5 : zSnd l HB b L xs aK aV G tc (zMT.getD 72 zyD) (fun α => zA_vR_J 12 f_Mo_spelt)) (h6 : zSnd l HB b L xs aK aV G tc (zMT.getD 69 zyD) (fun α => zA_vRR_I 12 f_Mo_needs)) (h7 : zSnd l HB b L xs aK aV G tc (zMT.getD 74 zyD) (fun α => zA_vRI_I 12 f_Mo_areLetters)) : zSnd l HB b L xs aK aV G tc (zMT.getD 75 zyD) (fun α => zA_vR_I 12 f_Mo_readKind) := by
  rw [show zMT.getD 75 zyD = (yX12_readKind, cX12_readKind, 4, (some .boolean), 0, 1, 7, 194) from rfl]
  intro α as S k res h
  unfold zA_vR_I at h
  dsimp only at h
  split at h
  · rename_i a0
    obtain ⟨p, hp, h⟩ := zbind h
    unfold zcl at hp
    split at hp
    · rename_i hkd
      have hm := zmeth (l := l) (HB := HB) (b := b) (L := L) (xs := xs) (aK := aK) (aV := aV) (G := G) (tc := tc) (q := (yX12_readKind, cX12_readKind, 4, (some .boolean), 0, 1, 7, 194)) (o := 12) (cs := [68, 67, 65, 71, 73, 72, 69, 74]) (rz := true) (T := zP_Mo_readKind) (E := zE_Mo_readKind (Int32 × zM)) (kr := zkI) (res := p) (v0 := some (.int p.1)) (S0 := p.2) (as := [.ref a0]) (S := S) zMT_fine (by decide +kernel) (fun i as S k' h => by
        unfold zE_Mo_readKind at h
        rcases zdisf h with ⟨rfl, h⟩ | h
        · exact h0 _ _ _ _ _ h
        rcases zdisf h with ⟨rfl, h⟩ | h
        · exact h1 _ _ _ _ _ h
        rcases zdisf h with ⟨rfl, h⟩ | h
        · exact h2 _ _ _ _ _ h
        rcases zdisf h with ⟨rfl, h⟩ | h
        · exact h3 _ _ _ _ _ h
        rcases zdisf h with ⟨rfl, h⟩ | h
        · exact h4 _ _ _ _ _ h
        rcases zdisf h with ⟨rfl, h⟩ | h
        · exact h5 _ _ _ _ _ h
        rcases zdisf h with ⟨rfl, h⟩ | h
        · exact h6 _ _ _ _ _ h
        rcases zdisf h with ⟨rfl, h⟩ | h
        · exact h7 _ _ _ _ _ h
        cases h) ok_Mo_readKind rfl (fun v S' h => zkI_inv h) (Nat.le_of_ble_eq_true rfl) (fun g H Hw => Hw _ [some (.ref a0), none, none, none] _ _ _ ⟨rfl, trivial⟩ (G_Mo_readKind H Hw a0 S hp))
      exact ⟨_, _, h, hm.1, rfl, fun _ => ⟨_, _, rfl⟩, (fun _ U H hK hH a r e => by cases e; exact zrecv (ci := 12) (by omega) hkd rfl U H hK hH), hm.2⟩
    · cases hp
  · cases h
def zP_Mo_readPass : List (List (Nat × zE)) := [[(0, e1 (.aload_n 0) 1 0), (1, e3 (.getfield 244) 4 12 16 0), (4, ei (.iconst 3) 5 0 (3)), (5, e1 (.if_icmp .ne 9) 8 14), (8, e1 (.aload_n 0) 9 0), (9, ei (.iconst 5) 10 0 (5)), (10, e3 (.invokevirtual 183) 13 0 2 0), (13, e0 (.ireturn) 14), (14, e1 (.aload_n 0) 15 0), (15, e3 (.invokevirtual 228) 18 1 1 0)],
  [(18, e1 (.ifCond .ne 10) 21 28), (21, e1 (.aload_n 0) 22 0), (22, ei (.bipush 6) 24 0 (6)), (24, e3 (.invokevirtual 183) 27 0 2 0), (27, e0 (.ireturn) 28), (28, e1 (.aload_n 0) 29 0), (29, e3 (.invokevirtual 187) 32 2 1 0)],
  [(32, e1 (.aload_n 0) 33 0), (33, e3 (.getfield 40) 36 12 20 2), (36, e1 (.aload_n 0) 37 0), (37, e3 (.getfield 244) 40 12 16 0), (40, e1 (.aload_n 0) 41 0), (41, e3 (.ldc 202) 43 1 6 0), (43, e3 (.invokevirtual 179) 46 3 2 0), (46, e0 (.bastore) 47), (47, e1 (.aload_n 0) 48 0)],
  [(48, e3 (.getfield 37) 51 12 19 2), (51, e1 (.aload_n 0) 52 0), (52, e3 (.getfield 244) 55 12 16 0), (55, ei (.iconst 0) 56 0 (0)), (56, e0 (.iastore) 57), (57, e1 (.aload_n 0) 58 0), (58, e0 (.dup) 59), (59, e3 (.getfield 244) 62 12 16 0), (62, ei (.iconst 1) 63 0 (1)), (63, e0 (.iadd) 64)],
  [(64, e3 (.putfield 244) 67 12 16 0), (67, e1 (.aload_n 0) 68 0), (68, e3 (.getfield 40) 71 12 20 2), (71, e1 (.aload_n 0) 72 0), (72, e3 (.getfield 244) 75 12 16 0), (75, ei (.iconst 1) 76 0 (1)), (76, e0 (.isub) 77), (77, e0 (.baload) 78), (78, e1 (.ifCond .eq 7) 81 85)],
  [(81, e1 (.aload_n 0) 82 0), (82, e3 (.invokevirtual 187) 85 2 1 0), (85, ei (.iconst 1) 86 0 (1)), (86, e0 (.ireturn) 87)]]
noncomputable def zE_Mo_readPass (α : Type) : Nat → zX α := fun i => bif Nat.beq i 0 then zA_vRI_I 12 f_Mo_errs else bif Nat.beq i 1 then zA_vR_I 12 f_Mo_hasScript else bif Nat.beq i 2 then zA_vR_V 12 f_Mo_goesOn else bif Nat.beq i 3 then zA_vRR_I 12 f_Mo_isWord else fun _ _ _ => none
def zc_Mo_readPass : Nat → Bool := fun pc => false
set_option maxRecDepth 100000 in
theorem r_Mo_readPass (a0 : Nat) (S : zM) : f_Mo_readPass a0 S = zrt true zP_Mo_readPass (zE_Mo_readPass (Int32 × zM)) zc_Mo_readPass zkI (fun pc lv st S => none) 1000 0 [some (.ref a0)] [] S := rfl
theorem G_Mo_readPass {g : zV → Nat → List Value → zM → Prop} {res : (Int32 × zM)} (H : zCl true zP_Mo_readPass (zE_Mo_readPass (Int32 × zM)) zkI res g) (Hw : zWk g) (a0 : Nat) (S : zM) (h : f_Mo_readPass a0 S = some res) : g [some (.ref a0)] 0 [] S := by
  refine H zc_Mo_readPass _ 1000 _ _ _ _ ((r_Mo_readPass a0 S).symm.trans h) (fun pc lv st S hK => ?_)
  cases hK
set_option maxRecDepth 100000 in
theorem ok_Mo_readPass : zokT 12 [68, 67, 65, 66] false 6 173 1 true (some .boolean) cX12_readPass zP_Mo_readPass = true := by decide +kernel
set_option maxRecDepth 100000 in
theorem s_Mo_readPass {l : Launch} {HB : Heap} {b L : Nat} {xs : Nat → Int32} {aK aV : Nat → Nat} {G : va_G} {tc : Nat → ClassId} (h0 : zSnd l HB b L xs aK aV G tc (zMT.getD 68 zyD) (fun α => zA_vRI_I 12 f_Mo_errs)) (h1 : zSnd l HB b L xs aK aV G tc (zMT.getD 67 zyD) (fun α => zA_vR_I 12 f_Mo_hasScript)) (h2 : zSnd l HB b L xs aK aV G tc (zMT.getD 65 zyD) (fun α => zA_vR_V 12 f_Mo_goesOn)) (h3 : zSnd l HB b L xs aK aV G tc (zMT.getD 66 zyD) (fun α => zA_vRR_I 12 f_Mo_isWord)) : zSnd l HB b L xs aK aV G tc (zMT.getD 76 zyD) (fun α => zA_vR_I 12 f_Mo_readPass) := by
  rw [show zMT.getD 76 zyD = (yX12_readPass, cX12_readPass, 1, (some .boolean), 0, 1, 6, 173) from rfl]
  intro α as S k res h
  unfold zA_vR_I at h
  dsimp only at h
  split at h
  · rename_i a0
    obtain ⟨p, hp, h⟩ := zbind h
    unfold zcl at hp
    split at hp
    · rename_i hkd
      have hm := zmeth (l := l) (HB := HB) (b := b) (L := L) (xs := xs) (aK := aK) (aV := aV) (G := G) (tc := tc) (q := (yX12_readPass, cX12_readPass, 1, (some .boolean), 0, 1, 6, 173)) (o := 12) (cs := [68, 67, 65, 66]) (rz := true) (T := zP_Mo_readPass) (E := zE_Mo_readPass (Int32 × zM)) (kr := zkI) (res := p) (v0 := some (.int p.1)) (S0 := p.2) (as := [.ref a0]) (S := S) zMT_fine (by decide +kernel) (fun i as S k' h => by
        unfold zE_Mo_readPass at h
        rcases zdisf h with ⟨rfl, h⟩ | h
        · exact h0 _ _ _ _ _ h
        rcases zdisf h with ⟨rfl, h⟩ | h
        · exact h1 _ _ _ _ _ h
        rcases zdisf h with ⟨rfl, h⟩ | h
        · exact h2 _ _ _ _ _ h
        rcases zdisf h with ⟨rfl, h⟩ | h
        · exact h3 _ _ _ _ _ h
        cases h) ok_Mo_readPass rfl (fun v S' h => zkI_inv h) (Nat.le_of_ble_eq_true rfl) (fun g H Hw => Hw _ [some (.ref a0)] _ _ _ ⟨rfl, trivial⟩ (G_Mo_readPass H Hw a0 S hp))
      exact ⟨_, _, h, hm.1, rfl, fun _ => ⟨_, _, rfl⟩, (fun _ U H hK hH a r e => by cases e; exact zrecv (ci := 12) (by omega) hkd rfl U H hK hH), hm.2⟩
    · cases hp
  · cases h
def zP_Mo_readSide : List (List (Nat × zE)) := [[(0, e1 (.aload_n 0) 1 0), (1, e3 (.getfield 153) 4 12 25 0), (4, ei (.iconst 2) 5 0 (2)), (5, e1 (.if_icmp .eq 9) 8 14), (8, e1 (.aload_n 0) 9 0), (9, ei (.iconst 1) 10 0 (1)), (10, e3 (.invokevirtual 183) 13 0 2 0), (13, e0 (.ireturn) 14), (14, e1 (.aload_n 0) 15 0), (15, e3 (.getfield 143) 18 12 24 0)],
  [(18, e1 (.aload_n 0) 19 0), (19, e3 (.getfield 150) 22 12 23 0), (22, e0 (.isub) 23), (23, ei (.iconst 1) 24 0 (1)), (24, e1 (.if_icmp .ne 38) 27 62), (27, e1 (.aload_n 0) 28 0), (28, ei (.iconst 1) 29 0 (1)), (29, e3 (.invokevirtual 241) 32 1 2 0)],
  [(32, e1 (.ifCond .ne 9) 35 41), (35, e1 (.aload_n 0) 36 0), (36, ei (.iconst 1) 37 0 (1)), (37, e3 (.invokevirtual 183) 40 0 2 0), (40, e0 (.ireturn) 41), (41, e1 (.aload_n 0) 42 0), (42, ei (.iconst 1) 43 0 (1)), (43, e1 (.aload_n 0) 44 0), (44, e3 (.getfield 13) 47 12 4 2), (47, e1 (.aload_n 0) 48 0)],
  [(48, e3 (.getfield 150) 51 12 23 0), (51, e0 (.iaload) 52), (52, ei (.bipush 97) 54 0 (97)), (54, e0 (.isub) 55), (55, e0 (.ishl) 56), (56, e3 (.putfield 247) 59 12 29 0), (59, e1 (.goto 61) 62 120), (62, e1 (.aload_n 0) 63 0), (63, e3 (.ldc 212) 65 1 11 0)],
  [(65, e3 (.invokevirtual 179) 68 2 2 0), (68, e1 (.ifCond .eq 13) 71 81), (71, e1 (.aload_n 0) 72 0), (72, ei (.sipush 256) 75 0 (256)), (75, e3 (.putfield 247) 78 12 29 0), (78, e1 (.goto 42) 81 120)],
  [(81, e1 (.aload_n 0) 82 0), (82, e3 (.invokevirtual 235) 85 3 1 0), (85, e1 (.ifCond .eq 9) 88 94), (88, e1 (.aload_n 0) 89 0), (89, ei (.iconst 1) 90 0 (1)), (90, e3 (.invokevirtual 183) 93 0 2 0), (93, e0 (.ireturn) 94), (94, e1 (.aload_n 0) 95 0), (95, e3 (.invokevirtual 238) 98 4 1 0)],
  [(98, e1 (.istore_n 1) 99 1), (99, e1 (.iload_n 1) 100 1), (100, ei (.iconst (-1)) 101 0 (-1)), (101, e1 (.if_icmp .ne 9) 104 110), (104, e1 (.aload_n 0) 105 0), (105, ei (.iconst 4) 106 0 (4)), (106, e3 (.invokevirtual 183) 109 0 2 0), (109, e0 (.ireturn) 110), (110, e1 (.aload_n 0) 111 0), (111, e1 (.aload_n 0) 112 0)],
  [(112, e3 (.getfield 30) 115 12 17 2), (115, e1 (.iload_n 1) 116 1), (116, e0 (.iaload) 117), (117, e3 (.putfield 247) 120 12 29 0), (120, e1 (.aload_n 0) 121 0), (121, e3 (.invokevirtual 187) 124 5 1 0), (124, ei (.iconst 1) 125 0 (1)), (125, e0 (.ireturn) 126)]]
noncomputable def zE_Mo_readSide (α : Type) : Nat → zX α := fun i => bif Nat.beq i 0 then zA_vRI_I 12 f_Mo_errs else bif Nat.beq i 1 then zA_vRI_I 12 f_Mo_areLetters else bif Nat.beq i 2 then zA_vRR_I 12 f_Mo_isWord else bif Nat.beq i 3 then zA_vR_I 12 f_Mo_isKeyword else bif Nat.beq i 4 then zA_vR_I 12 f_Mo_kindHere else bif Nat.beq i 5 then zA_vR_V 12 f_Mo_goesOn else fun _ _ _ => none
def zc_Mo_readSide : Nat → Bool := fun pc => false
set_option maxRecDepth 100000 in
theorem r_Mo_readSide (a0 : Nat) (S : zM) : f_Mo_readSide a0 S = zrt true zP_Mo_readSide (zE_Mo_readSide (Int32 × zM)) zc_Mo_readSide zkI (fun pc lv st S => none) 1000 0 [some (.ref a0), none] [] S := rfl
theorem G_Mo_readSide {g : zV → Nat → List Value → zM → Prop} {res : (Int32 × zM)} (H : zCl true zP_Mo_readSide (zE_Mo_readSide (Int32 × zM)) zkI res g) (Hw : zWk g) (a0 : Nat) (S : zM) (h : f_Mo_readSide a0 S = some res) : g [some (.ref a0), none] 0 [] S := by
  refine H zc_Mo_readSide _ 1000 _ _ _ _ ((r_Mo_readSide a0 S).symm.trans h) (fun pc lv st S hK => ?_)
  cases hK
set_option maxRecDepth 100000 in
theorem ok_Mo_readSide : zokT 12 [68, 74, 66, 71, 73, 65] false 7 193 2 true (some .boolean) cX12_readSide zP_Mo_readSide = true := by decide +kernel
set_option maxRecDepth 100000 in
theorem s_Mo_readSide {l : Launch} {HB : Heap} {b L : Nat} {xs : Nat → Int32} {aK aV : Nat → Nat} {G : va_G} {tc : Nat → ClassId} (h0 : zSnd l HB b L xs aK aV G tc (zMT.getD 68 zyD) (fun α => zA_vRI_I 12 f_Mo_errs)) (h1 : zSnd l HB b L xs aK aV G tc (zMT.getD 74 zyD) (fun α => zA_vRI_I 12 f_Mo_areLetters)) (h2 : zSnd l HB b L xs aK aV G tc (zMT.getD 66 zyD) (fun α => zA_vRR_I 12 f_Mo_isWord)) (h3 : zSnd l HB b L xs aK aV G tc (zMT.getD 71 zyD) (fun α => zA_vR_I 12 f_Mo_isKeyword)) (h4 : zSnd l HB b L xs aK aV G tc (zMT.getD 73 zyD) (fun α => zA_vR_I 12 f_Mo_kindHere)) (h5 : zSnd l HB b L xs aK aV G tc (zMT.getD 65 zyD) (fun α => zA_vR_V 12 f_Mo_goesOn)) : zSnd l HB b L xs aK aV G tc (zMT.getD 77 zyD) (fun α => zA_vR_I 12 f_Mo_readSide) := by
  rw [show zMT.getD 77 zyD = (yX12_readSide, cX12_readSide, 2, (some .boolean), 0, 1, 7, 193) from rfl]
  intro α as S k res h
  unfold zA_vR_I at h
  dsimp only at h
  split at h
  · rename_i a0
    obtain ⟨p, hp, h⟩ := zbind h
    unfold zcl at hp
    split at hp
    · rename_i hkd
      have hm := zmeth (l := l) (HB := HB) (b := b) (L := L) (xs := xs) (aK := aK) (aV := aV) (G := G) (tc := tc) (q := (yX12_readSide, cX12_readSide, 2, (some .boolean), 0, 1, 7, 193)) (o := 12) (cs := [68, 74, 66, 71, 73, 65]) (rz := true) (T := zP_Mo_readSide) (E := zE_Mo_readSide (Int32 × zM)) (kr := zkI) (res := p) (v0 := some (.int p.1)) (S0 := p.2) (as := [.ref a0]) (S := S) zMT_fine (by decide +kernel) (fun i as S k' h => by
        unfold zE_Mo_readSide at h
        rcases zdisf h with ⟨rfl, h⟩ | h
        · exact h0 _ _ _ _ _ h
        rcases zdisf h with ⟨rfl, h⟩ | h
        · exact h1 _ _ _ _ _ h
        rcases zdisf h with ⟨rfl, h⟩ | h
        · exact h2 _ _ _ _ _ h
        rcases zdisf h with ⟨rfl, h⟩ | h
        · exact h3 _ _ _ _ _ h
        rcases zdisf h with ⟨rfl, h⟩ | h
        · exact h4 _ _ _ _ _ h
        rcases zdisf h with ⟨rfl, h⟩ | h
        · exact h5 _ _ _ _ _ h
        cases h) ok_Mo_readSide rfl (fun v S' h => zkI_inv h) (Nat.le_of_ble_eq_true rfl) (fun g H Hw => Hw _ [some (.ref a0), none] _ _ _ ⟨rfl, trivial⟩ (G_Mo_readSide H Hw a0 S hp))
      exact ⟨_, _, h, hm.1, rfl, fun _ => ⟨_, _, rfl⟩, (fun _ U H hK hH a r e => by cases e; exact zrecv (ci := 12) (by omega) hkd rfl U H hK hH), hm.2⟩
    · cases hp
  · cases h
def zP_Mo_readLetters : List (List (Nat × zE)) := [[(0, e1 (.aload_n 0) 1 0), (1, e1 (.iload 4) 3 4), (3, e3 (.invokevirtual 241) 6 0 2 0), (6, e1 (.ifCond .ne 9) 9 15), (9, e1 (.aload_n 0) 10 0), (10, ei (.iconst 1) 11 0 (1)), (11, e3 (.invokevirtual 183) 14 1 2 0), (14, e0 (.ireturn) 15), (15, e1 (.aload_n 0) 16 0)],
  [(16, e3 (.getfield 43) 19 12 21 2), (19, e1 (.iload_n 1) 20 1), (20, e1 (.iload_n 2) 21 2), (21, e0 (.iadd) 22), (22, e1 (.aload_n 0) 23 0), (23, e3 (.getfield 143) 26 12 24 0), (26, e1 (.aload_n 0) 27 0), (27, e3 (.getfield 150) 30 12 23 0), (30, e0 (.isub) 31), (31, e0 (.iastore) 32)],
  [(32, e1 (.aload_n 0) 33 0), (33, e3 (.getfield 150) 36 12 23 0), (36, e1 (.istore 5) 38 5), (38, e1 (.iload 5) 40 5), (40, e1 (.aload_n 0) 41 0), (41, e3 (.getfield 143) 44 12 24 0), (44, e1 (.if_icmp .ge 35) 47 79), (47, e1 (.aload_n 0) 48 0)],
  [(48, e3 (.getfield 43) 51 12 21 2), (51, e1 (.iload_n 1) 52 1), (52, e1 (.iload_n 3) 53 3), (53, e0 (.iadd) 54), (54, e1 (.iload 5) 56 5), (56, e0 (.iadd) 57), (57, e1 (.aload_n 0) 58 0), (58, e3 (.getfield 150) 61 12 23 0), (61, e0 (.isub) 62), (62, e1 (.aload_n 0) 63 0), (63, e3 (.getfield 13) 66 12 4 2)],
  [(66, e1 (.iload 5) 68 5), (68, e0 (.iaload) 69), (69, ei (.bipush 97) 71 0 (97)), (71, e0 (.isub) 72), (72, e0 (.iastore) 73), (73, ei (.iinc 5 1) 76 5 (1)), (76, e1 (.goto (-38)) 79 38), (79, e1 (.aload_n 0) 80 0)],
  [(80, e3 (.invokevirtual 187) 83 2 1 0), (83, ei (.iconst 1) 84 0 (1)), (84, e0 (.ireturn) 85)]]
noncomputable def zE_Mo_readLetters (α : Type) : Nat → zX α := fun i => bif Nat.beq i 0 then zA_vRI_I 12 f_Mo_areLetters else bif Nat.beq i 1 then zA_vRI_I 12 f_Mo_errs else bif Nat.beq i 2 then zA_vR_V 12 f_Mo_goesOn else fun _ _ _ => none
def zc_Mo_readLetters : Nat → Bool := fun pc => Nat.beq pc 38
def D_Mo_readLetters_38 (k : Nat → Int32 → Int32 → Int32 → zM → Option (Int32 × zM)) (lv : zV) (st : List Value) (S : zM) : Option (Int32 × zM) := match lv, st with
  | [some (.ref a0), some (.int a1), _, some (.int a3), _, some (.int a5)], [] => k a0 a1 a3 a5 S
  | _, _ => none
theorem d_Mo_readLetters_38 {g : zV → Nat → List Value → zM → Prop} (Hw : zWk g) {k : Nat → Int32 → Int32 → Int32 → zM → Option (Int32 × zM)} {res : (Int32 × zM)} {lv : zV} {st : List Value} {S : zM} (h : D_Mo_readLetters_38 k lv st S = some res) (hk : ∀ a0 a1 a3 a5 S, k a0 a1 a3 a5 S = some res → g [some (.ref a0), some (.int a1), none, some (.int a3), none, some (.int a5)] 38 [] S) : g lv 38 st S := by
  unfold D_Mo_readLetters_38 at h
  split at h
  · exact Hw _ _ _ _ _ (by simp [zle]) (hk _ _ _ _ _  h)
  · cases h
set_option maxRecDepth 100000 in
theorem r_Mo_readLetters_38 (n : Nat) (a0 : Nat) (a1 : Int32) (a3 : Int32) (a5 : Int32) (S : zM) : L_Mo_readLetters_38 (n + 1) a0 a1 a3 a5 S = zrt true zP_Mo_readLetters (zE_Mo_readLetters (Int32 × zM)) zc_Mo_readLetters zkI (fun pc lv st S => bif Nat.beq pc 38 then D_Mo_readLetters_38 (L_Mo_readLetters_38 n) lv st S else none) 1000 38 [some (.ref a0), some (.int a1), none, some (.int a3), none, some (.int a5)] [] S := rfl
theorem g_Mo_readLetters_38 {g : zV → Nat → List Value → zM → Prop} {res : (Int32 × zM)} (H : zCl true zP_Mo_readLetters (zE_Mo_readLetters (Int32 × zM)) zkI res g) (Hw : zWk g) (n : Nat) : ∀ (a0 : Nat) (a1 : Int32) (a3 : Int32) (a5 : Int32) (S : zM), L_Mo_readLetters_38 n a0 a1 a3 a5 S = some res → g [some (.ref a0), some (.int a1), none, some (.int a3), none, some (.int a5)] 38 [] S := by
  induction n with
  | zero => intro a0 a1 a3 a5 S h; cases h
  | succ n ih =>
    intro a0 a1 a3 a5 S h
    refine H zc_Mo_readLetters _ 1000 _ _ _ _ ((r_Mo_readLetters_38 n a0 a1 a3 a5 S).symm.trans h) (fun pc lv st S hK => ?_)
    rcases zdis hK with ⟨rfl, hK⟩ | hK
    · exact d_Mo_readLetters_38 Hw hK ih
    cases hK
set_option maxRecDepth 100000 in
theorem r_Mo_readLetters (a0 : Nat) (a1 : Int32) (a2 : Int32) (a3 : Int32) (a4 : Int32) (S : zM) : f_Mo_readLetters a0 a1 a2 a3 a4 S = zrt true zP_Mo_readLetters (zE_Mo_readLetters (Int32 × zM)) zc_Mo_readLetters zkI (fun pc lv st S => bif Nat.beq pc 38 then D_Mo_readLetters_38 (L_Mo_readLetters_38 zF) lv st S else none) 1000 0 [some (.ref a0), some (.int a1), some (.int a2), some (.int a3), some (.int a4), none] [] S := rfl
theorem G_Mo_readLetters {g : zV → Nat → List Value → zM → Prop} {res : (Int32 × zM)} (H : zCl true zP_Mo_readLetters (zE_Mo_readLetters (Int32 × zM)) zkI res g) (Hw : zWk g) (a0 : Nat) (a1 : Int32) (a2 : Int32) (a3 : Int32) (a4 : Int32) (S : zM) (h : f_Mo_readLetters a0 a1 a2 a3 a4 S = some res) : g [some (.ref a0), some (.int a1), some (.int a2), some (.int a3), some (.int a4), none] 0 [] S := by
  refine H zc_Mo_readLetters _ 1000 _ _ _ _ ((r_Mo_readLetters a0 a1 a2 a3 a4 S).symm.trans h) (fun pc lv st S hK => ?_)
  rcases zdis hK with ⟨rfl, hK⟩ | hK
  · exact d_Mo_readLetters_38 Hw hK (g_Mo_readLetters_38 H Hw  zF)
  cases hK
set_option maxRecDepth 100000 in
theorem ok_Mo_readLetters : zokT 12 [74, 68, 65] false 2 43 6 true (some .boolean) cX12_readLetters zP_Mo_readLetters = true := by decide +kernel
set_option maxRecDepth 100000 in
theorem s_Mo_readLetters {l : Launch} {HB : Heap} {b L : Nat} {xs : Nat → Int32} {aK aV : Nat → Nat} {G : va_G} {tc : Nat → ClassId} (h0 : zSnd l HB b L xs aK aV G tc (zMT.getD 74 zyD) (fun α => zA_vRI_I 12 f_Mo_areLetters)) (h1 : zSnd l HB b L xs aK aV G tc (zMT.getD 68 zyD) (fun α => zA_vRI_I 12 f_Mo_errs)) (h2 : zSnd l HB b L xs aK aV G tc (zMT.getD 65 zyD) (fun α => zA_vR_V 12 f_Mo_goesOn)) : zSnd l HB b L xs aK aV G tc (zMT.getD 78 zyD) (fun α => zA_vRIIII_I 12 f_Mo_readLetters) := by
  rw [show zMT.getD 78 zyD = (yX12_readLetters, cX12_readLetters, 6, (some .boolean), 0, 5, 2, 43) from rfl]
  intro α as S k res h
  unfold zA_vRIIII_I at h
  dsimp only at h
  split at h
  · rename_i a0 a1 a2 a3 a4
    obtain ⟨p, hp, h⟩ := zbind h
    unfold zcl at hp
    split at hp
    · rename_i hkd
      have hm := zmeth (l := l) (HB := HB) (b := b) (L := L) (xs := xs) (aK := aK) (aV := aV) (G := G) (tc := tc) (q := (yX12_readLetters, cX12_readLetters, 6, (some .boolean), 0, 5, 2, 43)) (o := 12) (cs := [74, 68, 65]) (rz := true) (T := zP_Mo_readLetters) (E := zE_Mo_readLetters (Int32 × zM)) (kr := zkI) (res := p) (v0 := some (.int p.1)) (S0 := p.2) (as := [.ref a0, .int a1, .int a2, .int a3, .int a4]) (S := S) zMT_fine (by decide +kernel) (fun i as S k' h => by
        unfold zE_Mo_readLetters at h
        rcases zdisf h with ⟨rfl, h⟩ | h
        · exact h0 _ _ _ _ _ h
        rcases zdisf h with ⟨rfl, h⟩ | h
        · exact h1 _ _ _ _ _ h
        rcases zdisf h with ⟨rfl, h⟩ | h
        · exact h2 _ _ _ _ _ h
        cases h) ok_Mo_readLetters rfl (fun v S' h => zkI_inv h) (Nat.le_of_ble_eq_true rfl) (fun g H Hw => Hw _ [some (.ref a0), some (.int a1), some (.int a2), some (.int a3), some (.int a4), none] _ _ _ ⟨rfl, rfl, rfl, rfl, rfl, trivial⟩ (G_Mo_readLetters H Hw a0 a1 a2 a3 a4 S hp))
      exact ⟨_, _, h, hm.1, rfl, fun _ => ⟨_, _, rfl⟩, (fun _ U H hK hH a r e => by cases e; exact zrecv (ci := 12) (by omega) hkd rfl U H hK hH), hm.2⟩
    · cases hp
  · cases h
def zP_Mo_readRule : List (List (Nat × zE)) := [[(0, e1 (.aload_n 0) 1 0), (1, e3 (.getfield 244) 4 12 16 0), (4, ei (.iconst 1) 5 0 (1)), (5, e0 (.isub) 6), (6, e1 (.istore_n 1) 7 1), (7, e1 (.iload_n 1) 8 1), (8, e1 (.ifCond .lt 20) 11 28), (11, e1 (.aload_n 0) 12 0), (12, e3 (.getfield 37) 15 12 19 2), (15, e1 (.iload_n 1) 16 1)],
  [(16, e0 (.iaload) 17), (17, ei (.bipush 8) 19 0 (8)), (19, e1 (.if_icmp .ne 9) 22 28), (22, e1 (.aload_n 0) 23 0), (23, ei (.iconst 5) 24 0 (5)), (24, e3 (.invokevirtual 183) 27 0 2 0), (27, e0 (.ireturn) 28), (28, e1 (.aload_n 0) 29 0), (29, e3 (.invokevirtual 228) 32 1 1 0)],
  [(32, e1 (.ifCond .eq 7) 35 39), (35, e1 (.iload_n 1) 36 1), (36, e1 (.ifCond .ge 10) 39 46), (39, e1 (.aload_n 0) 40 0), (40, ei (.bipush 6) 42 0 (6)), (42, e3 (.invokevirtual 183) 45 0 2 0), (45, e0 (.ireturn) 46), (46, e1 (.aload_n 0) 47 0), (47, e3 (.invokevirtual 187) 50 2 1 0)],
  [(50, ei (.bipush 11) 52 0 (11)), (52, ei (.bipush 8) 54 0 (8)), (54, e1 (.iload_n 1) 55 1), (55, e0 (.imul) 56), (56, e1 (.aload_n 0) 57 0), (57, e3 (.getfield 37) 60 12 19 2), (60, e1 (.iload_n 1) 61 1), (61, e0 (.iaload) 62), (62, e0 (.iadd) 63), (63, e0 (.imul) 64)],
  [(64, e1 (.istore_n 2) 65 2), (65, e1 (.aload_n 0) 66 0), (66, e3 (.getfield 43) 69 12 21 2), (69, e1 (.iload_n 2) 70 2), (70, ei (.iconst 2) 71 0 (2)), (71, e0 (.iadd) 72), (72, ei (.sipush 511) 75 0 (511)), (75, e0 (.iastore) 76), (76, e1 (.aload_n 0) 77 0), (77, e3 (.getfield 43) 80 12 21 2)],
  [(80, e1 (.iload_n 2) 81 2), (81, ei (.iconst 3) 82 0 (3)), (82, e0 (.iadd) 83), (83, ei (.sipush 511) 86 0 (511)), (86, e0 (.iastore) 87), (87, e1 (.aload_n 0) 88 0), (88, e3 (.ldc 204) 90 1 7 0), (90, e3 (.invokevirtual 179) 93 3 2 0), (93, e1 (.ifCond .eq 28) 96 121)],
  [(96, e1 (.aload_n 0) 97 0), (97, e3 (.invokevirtual 187) 100 2 1 0), (100, e1 (.aload_n 0) 101 0), (101, e3 (.invokevirtual 250) 104 4 1 0), (104, e1 (.ifCond .ne 5) 107 109), (107, ei (.iconst 0) 108 0 (0)), (108, e0 (.ireturn) 109), (109, e1 (.aload_n 0) 110 0), (110, e3 (.getfield 43) 113 12 21 2)],
  [(113, e1 (.iload_n 2) 114 2), (114, ei (.iconst 2) 115 0 (2)), (115, e0 (.iadd) 116), (116, e1 (.aload_n 0) 117 0), (117, e3 (.getfield 247) 120 12 29 0), (120, e0 (.iastore) 121), (121, e1 (.aload_n 0) 122 0), (122, e1 (.iload_n 2) 123 2), (123, ei (.iconst 0) 124 0 (0)), (124, ei (.iconst 4) 125 0 (4)), (125, ei (.iconst 3) 126 0 (3)), (126, e3 (.invokevirtual 253) 129 5 5 0)],
  [(129, e1 (.ifCond .ne 5) 132 134), (132, ei (.iconst 0) 133 0 (0)), (133, e0 (.ireturn) 134), (134, e1 (.aload_n 0) 135 0), (135, e3 (.ldc 206) 137 1 8 0), (137, e3 (.invokevirtual 179) 140 3 2 0), (140, e1 (.ifCond .eq 28) 143 168), (143, e1 (.aload_n 0) 144 0)],
  [(144, e3 (.invokevirtual 187) 147 2 1 0), (147, e1 (.aload_n 0) 148 0), (148, e3 (.invokevirtual 250) 151 4 1 0), (151, e1 (.ifCond .ne 5) 154 156), (154, ei (.iconst 0) 155 0 (0)), (155, e0 (.ireturn) 156), (156, e1 (.aload_n 0) 157 0), (157, e3 (.getfield 43) 160 12 21 2)],
  [(160, e1 (.iload_n 2) 161 2), (161, ei (.iconst 3) 162 0 (3)), (162, e0 (.iadd) 163), (163, e1 (.aload_n 0) 164 0), (164, e3 (.getfield 247) 167 12 29 0), (167, e0 (.iastore) 168), (168, e1 (.aload_n 0) 169 0), (169, e3 (.ldc 208) 171 1 9 0), (171, e3 (.invokevirtual 232) 174 6 2 0), (174, e1 (.ifCond .ne 5) 177 179)],
  [(177, ei (.iconst 0) 178 0 (0)), (178, e0 (.ireturn) 179), (179, e1 (.aload_n 0) 180 0), (180, e3 (.ldc 210) 182 1 10 0), (182, e3 (.invokevirtual 179) 185 3 2 0), (185, e1 (.ifCond .eq 19) 188 204), (188, e1 (.aload_n 0) 189 0), (189, e3 (.getfield 43) 192 12 21 2)],
  [(192, e1 (.iload_n 2) 193 2), (193, ei (.iconst 1) 194 0 (1)), (194, e0 (.iadd) 195), (195, ei (.iconst 0) 196 0 (0)), (196, e0 (.iastore) 197), (197, e1 (.aload_n 0) 198 0), (198, e3 (.invokevirtual 187) 201 2 1 0), (201, e1 (.goto 17) 204 218), (204, e1 (.aload_n 0) 205 0), (205, e1 (.iload_n 2) 206 2), (206, ei (.iconst 1) 207 0 (1)), (207, ei (.bipush 7) 209 0 (7))],
  [(209, ei (.iconst 4) 210 0 (4)), (210, e3 (.invokevirtual 253) 213 5 5 0), (213, e1 (.ifCond .ne 5) 216 218), (216, ei (.iconst 0) 217 0 (0)), (217, e0 (.ireturn) 218), (218, e1 (.aload_n 0) 219 0), (219, e3 (.getfield 37) 222 12 19 2), (222, e1 (.iload_n 1) 223 1), (223, e0 (.dup2) 224)],
  [(224, e0 (.iaload) 225), (225, ei (.iconst 1) 226 0 (1)), (226, e0 (.iadd) 227), (227, e0 (.iastore) 228), (228, ei (.iconst 1) 229 0 (1)), (229, e0 (.ireturn) 230)]]
noncomputable def zE_Mo_readRule (α : Type) : Nat → zX α := fun i => bif Nat.beq i 0 then zA_vRI_I 12 f_Mo_errs else bif Nat.beq i 1 then zA_vR_I 12 f_Mo_hasScript else bif Nat.beq i 2 then zA_vR_V 12 f_Mo_goesOn else bif Nat.beq i 3 then zA_vRR_I 12 f_Mo_isWord else bif Nat.beq i 4 then zA_vR_I 12 f_Mo_readSide else bif Nat.beq i 5 then zA_vRIIII_I 12 f_Mo_readLetters else bif Nat.beq i 6 then zA_vRR_I 12 f_Mo_needs else fun _ _ _ => none
def zc_Mo_readRule : Nat → Bool := fun pc => false
set_option maxRecDepth 100000 in
theorem r_Mo_readRule (a0 : Nat) (S : zM) : f_Mo_readRule a0 S = zrt true zP_Mo_readRule (zE_Mo_readRule (Int32 × zM)) zc_Mo_readRule zkI (fun pc lv st S => none) 1000 0 [some (.ref a0), none, none] [] S := rfl
theorem G_Mo_readRule {g : zV → Nat → List Value → zM → Prop} {res : (Int32 × zM)} (H : zCl true zP_Mo_readRule (zE_Mo_readRule (Int32 × zM)) zkI res g) (Hw : zWk g) (a0 : Nat) (S : zM) (h : f_Mo_readRule a0 S = some res) : g [some (.ref a0), none, none] 0 [] S := by
  refine H zc_Mo_readRule _ 1000 _ _ _ _ ((r_Mo_readRule a0 S).symm.trans h) (fun pc lv st S hK => ?_)
  cases hK
set_option maxRecDepth 100000 in
theorem ok_Mo_readRule : zokT 12 [68, 67, 65, 66, 77, 78, 69] false 8 214 3 true (some .boolean) cX12_readRule zP_Mo_readRule = true := by decide +kernel
set_option maxRecDepth 100000 in
theorem s_Mo_readRule {l : Launch} {HB : Heap} {b L : Nat} {xs : Nat → Int32} {aK aV : Nat → Nat} {G : va_G} {tc : Nat → ClassId} (h0 : zSnd l HB b L xs aK aV G tc (zMT.getD 68 zyD) (fun α => zA_vRI_I 12 f_Mo_errs)) (h1 : zSnd l HB b L xs aK aV G tc (zMT.getD 67 zyD) (fun α => zA_vR_I 12 f_Mo_hasScript)) (h2 : zSnd l HB b L xs aK aV G tc (zMT.getD 65 zyD) (fun α => zA_vR_V 12 f_Mo_goesOn)) (h3 : zSnd l HB b L xs aK aV G tc (zMT.getD 66 zyD) (fun α => zA_vRR_I 12 f_Mo_isWord)) (h4 : zSnd l HB b L xs aK aV G tc (zMT.getD 77 zyD) (fun α => zA_vR_I 12 f_Mo_readSide)) (h5 : zSnd l HB b L xs aK aV G tc (zMT.getD 78 zyD) (fun α => zA_vRIIII_I 12 f_Mo_readLetters)) (h6 : zSnd l HB b L xs aK aV G tc (zMT.getD 69 zyD) (fun α => zA_vRR_I 12 f_Mo_needs)) : zSnd l HB b L xs aK aV G tc (zMT.getD 79 zyD) (fun α => zA_vR_I 12 f_Mo_readRule) := by
  rw [show zMT.getD 79 zyD = (yX12_readRule, cX12_readRule, 3, (some .boolean), 0, 1, 8, 214) from rfl]
  intro α as S k res h
  unfold zA_vR_I at h
  dsimp only at h
  split at h
  · rename_i a0
    obtain ⟨p, hp, h⟩ := zbind h
    unfold zcl at hp
    split at hp
    · rename_i hkd
      have hm := zmeth (l := l) (HB := HB) (b := b) (L := L) (xs := xs) (aK := aK) (aV := aV) (G := G) (tc := tc) (q := (yX12_readRule, cX12_readRule, 3, (some .boolean), 0, 1, 8, 214)) (o := 12) (cs := [68, 67, 65, 66, 77, 78, 69]) (rz := true) (T := zP_Mo_readRule) (E := zE_Mo_readRule (Int32 × zM)) (kr := zkI) (res := p) (v0 := some (.int p.1)) (S0 := p.2) (as := [.ref a0]) (S := S) zMT_fine (by decide +kernel) (fun i as S k' h => by
        unfold zE_Mo_readRule at h
        rcases zdisf h with ⟨rfl, h⟩ | h
        · exact h0 _ _ _ _ _ h
        rcases zdisf h with ⟨rfl, h⟩ | h
        · exact h1 _ _ _ _ _ h
        rcases zdisf h with ⟨rfl, h⟩ | h
        · exact h2 _ _ _ _ _ h
        rcases zdisf h with ⟨rfl, h⟩ | h
        · exact h3 _ _ _ _ _ h
        rcases zdisf h with ⟨rfl, h⟩ | h
        · exact h4 _ _ _ _ _ h
        rcases zdisf h with ⟨rfl, h⟩ | h
        · exact h5 _ _ _ _ _ h
        rcases zdisf h with ⟨rfl, h⟩ | h
        · exact h6 _ _ _ _ _ h
        cases h) ok_Mo_readRule rfl (fun v S' h => zkI_inv h) (Nat.le_of_ble_eq_true rfl) (fun g H Hw => Hw _ [some (.ref a0), none, none] _ _ _ ⟨rfl, trivial⟩ (G_Mo_readRule H Hw a0 S hp))
      exact ⟨_, _, h, hm.1, rfl, fun _ => ⟨_, _, rfl⟩, (fun _ U H hK hH a r e => by cases e; exact zrecv (ci := 12) (by omega) hkd rfl U H hK hH), hm.2⟩
    · cases hp
  · cases h
def zP_Mo_readLine : List (List (Nat × zE)) := [[(0, e1 (.aload_n 0) 1 0), (1, e3 (.ldc 190) 3 1 0 0), (3, e3 (.invokevirtual 179) 6 0 2 0), (6, e1 (.ifCond .eq 8) 9 14), (9, e1 (.aload_n 0) 10 0), (10, e3 (.invokevirtual 257) 13 1 1 0), (13, e0 (.ireturn) 14), (14, e1 (.aload_n 0) 15 0), (15, e3 (.ldc 192) 17 1 1 0)],
  [(17, e3 (.invokevirtual 179) 20 0 2 0), (20, e1 (.ifCond .eq 8) 23 28), (23, e1 (.aload_n 0) 24 0), (24, e3 (.invokevirtual 260) 27 2 1 0), (27, e0 (.ireturn) 28), (28, e1 (.aload_n 0) 29 0), (29, e3 (.ldc 194) 31 1 2 0), (31, e3 (.invokevirtual 179) 34 0 2 0)],
  [(34, e1 (.ifCond .eq 8) 37 42), (37, e1 (.aload_n 0) 38 0), (38, e3 (.invokevirtual 263) 41 3 1 0), (41, e0 (.ireturn) 42), (42, e1 (.aload_n 0) 43 0), (43, e3 (.ldc 196) 45 1 3 0), (45, e3 (.invokevirtual 179) 48 0 2 0)],
  [(48, e1 (.ifCond .eq 10) 51 58), (51, e1 (.aload_n 0) 52 0), (52, e3 (.invokevirtual 266) 55 4 1 0), (55, e1 (.goto 8) 58 63), (58, e1 (.aload_n 0) 59 0), (59, ei (.iconst 1) 60 0 (1)), (60, e3 (.invokevirtual 183) 63 5 2 0), (63, e0 (.ireturn) 64)]]
noncomputable def zE_Mo_readLine (α : Type) : Nat → zX α := fun i => bif Nat.beq i 0 then zA_vRR_I 12 f_Mo_isWord else bif Nat.beq i 1 then zA_vR_I 12 f_Mo_readScript else bif Nat.beq i 2 then zA_vR_I 12 f_Mo_readKind else bif Nat.beq i 3 then zA_vR_I 12 f_Mo_readPass else bif Nat.beq i 4 then zA_vR_I 12 f_Mo_readRule else bif Nat.beq i 5 then zA_vRI_I 12 f_Mo_errs else fun _ _ _ => none
def zc_Mo_readLine : Nat → Bool := fun pc => false
set_option maxRecDepth 100000 in
theorem r_Mo_readLine (a0 : Nat) (S : zM) : f_Mo_readLine a0 S = zrt true zP_Mo_readLine (zE_Mo_readLine (Int32 × zM)) zc_Mo_readLine zkI (fun pc lv st S => none) 1000 0 [some (.ref a0)] [] S := rfl
theorem G_Mo_readLine {g : zV → Nat → List Value → zM → Prop} {res : (Int32 × zM)} (H : zCl true zP_Mo_readLine (zE_Mo_readLine (Int32 × zM)) zkI res g) (Hw : zWk g) (a0 : Nat) (S : zM) (h : f_Mo_readLine a0 S = some res) : g [some (.ref a0)] 0 [] S := by
  refine H zc_Mo_readLine _ 1000 _ _ _ _ ((r_Mo_readLine a0 S).symm.trans h) (fun pc lv st S hK => ?_)
  cases hK
set_option maxRecDepth 100000 in
theorem ok_Mo_readLine : zokT 12 [66, 70, 75, 76, 79, 68] false 9 236 1 true (some .boolean) cX12_readLine zP_Mo_readLine = true := by decide +kernel
set_option maxRecDepth 100000 in
theorem s_Mo_readLine {l : Launch} {HB : Heap} {b L : Nat} {xs : Nat → Int32} {aK aV : Nat → Nat} {G : va_G} {tc : Nat → ClassId} (h0 : zSnd l HB b L xs aK aV G tc (zMT.getD 66 zyD) (fun α => zA_vRR_I 12 f_Mo_isWord)) (h1 : zSnd l HB b L xs aK aV G tc (zMT.getD 70 zyD) (fun α => zA_vR_I 12 f_Mo_readScript)) (h2 : zSnd l HB b L xs aK aV G tc (zMT.getD 75 zyD) (fun α => zA_vR_I 12 f_Mo_readKind)) (h3 : zSnd l HB b L xs aK aV G tc (zMT.getD 76 zyD) (fun α => zA_vR_I 12 f_Mo_readPass)) (h4 : zSnd l HB b L xs aK aV G tc (zMT.getD 79 zyD) (fun α => zA_vR_I 12 f_Mo_readRule)) (h5 : zSnd l HB b L xs aK aV G tc (zMT.getD 68 zyD) (fun α => zA_vRI_I 12 f_Mo_errs)) : zSnd l HB b L xs aK aV G tc (zMT.getD 80 zyD) (fun α => zA_vR_I 12 f_Mo_readLine) := by
  rw [show zMT.getD 80 zyD = (yX12_readLine, cX12_readLine, 1, (some .boolean), 0, 1, 9, 236) from rfl]
  intro α as S k res h
  unfold zA_vR_I at h
  dsimp only at h
  split at h
  · rename_i a0
    obtain ⟨p, hp, h⟩ := zbind h
    unfold zcl at hp
    split at hp
    · rename_i hkd
      have hm := zmeth (l := l) (HB := HB) (b := b) (L := L) (xs := xs) (aK := aK) (aV := aV) (G := G) (tc := tc) (q := (yX12_readLine, cX12_readLine, 1, (some .boolean), 0, 1, 9, 236)) (o := 12) (cs := [66, 70, 75, 76, 79, 68]) (rz := true) (T := zP_Mo_readLine) (E := zE_Mo_readLine (Int32 × zM)) (kr := zkI) (res := p) (v0 := some (.int p.1)) (S0 := p.2) (as := [.ref a0]) (S := S) zMT_fine (by decide +kernel) (fun i as S k' h => by
        unfold zE_Mo_readLine at h
        rcases zdisf h with ⟨rfl, h⟩ | h
        · exact h0 _ _ _ _ _ h
        rcases zdisf h with ⟨rfl, h⟩ | h
        · exact h1 _ _ _ _ _ h
        rcases zdisf h with ⟨rfl, h⟩ | h
        · exact h2 _ _ _ _ _ h
        rcases zdisf h with ⟨rfl, h⟩ | h
        · exact h3 _ _ _ _ _ h
        rcases zdisf h with ⟨rfl, h⟩ | h
        · exact h4 _ _ _ _ _ h
        rcases zdisf h with ⟨rfl, h⟩ | h
        · exact h5 _ _ _ _ _ h
        cases h) ok_Mo_readLine rfl (fun v S' h => zkI_inv h) (Nat.le_of_ble_eq_true rfl) (fun g H Hw => Hw _ [some (.ref a0)] _ _ _ ⟨rfl, trivial⟩ (G_Mo_readLine H Hw a0 S hp))
      exact ⟨_, _, h, hm.1, rfl, fun _ => ⟨_, _, rfl⟩, (fun _ U H hK hH a r e => by cases e; exact zrecv (ci := 12) (by omega) hkd rfl U H hK hH), hm.2⟩
    · cases hp
  · cases h
def zP_Mo_readAll : List (List (Nat × zE)) := [[(0, e1 (.aload_n 0) 1 0), (1, e1 (.iload_n 1) 2 1), (2, e3 (.putfield 140) 5 12 22 0), (5, e1 (.aload_n 0) 6 0), (6, ei (.iconst 0) 7 0 (0)), (7, e3 (.putfield 143) 10 12 24 0), (10, e1 (.aload_n 0) 11 0), (11, ei (.iconst 0) 12 0 (0)), (12, e3 (.putfield 225) 15 12 14 0), (15, e1 (.aload_n 0) 16 0)],
  [(16, ei (.iconst 0) 17 0 (0)), (17, e3 (.putfield 218) 20 12 15 0), (20, e1 (.aload_n 0) 21 0), (21, ei (.iconst 0) 22 0 (0)), (22, e3 (.putfield 244) 25 12 16 0), (25, e1 (.aload_n 0) 26 0), (26, e3 (.invokevirtual 187) 29 0 1 0), (29, e1 (.aload_n 0) 30 0), (30, e3 (.invokevirtual 269) 33 1 1 0)],
  [(33, e1 (.ifCond .ne 5) 36 38), (36, ei (.iconst 0) 37 0 (0)), (37, e0 (.ireturn) 38), (38, e1 (.aload_n 0) 39 0), (39, e3 (.getfield 153) 42 12 25 0), (42, ei (.bipush 59) 44 0 (59)), (44, e1 (.if_icmp .ne 16) 47 60), (47, e1 (.aload_n 0) 48 0)],
  [(48, e3 (.invokevirtual 187) 51 0 1 0), (51, e1 (.aload_n 0) 52 0), (52, e3 (.invokevirtual 269) 55 1 1 0), (55, e1 (.ifCond .ne (-17)) 58 38), (58, ei (.iconst 0) 59 0 (0)), (59, e0 (.ireturn) 60), (60, e1 (.aload_n 0) 61 0), (61, e3 (.getfield 153) 64 12 25 0)],
  [(64, e1 (.ifCond .eq 9) 67 73), (67, e1 (.aload_n 0) 68 0), (68, ei (.iconst 1) 69 0 (1)), (69, e3 (.invokevirtual 183) 72 2 2 0), (72, e0 (.ireturn) 73), (73, ei (.iconst 0) 74 0 (0)), (74, e1 (.istore_n 2) 75 2), (75, e1 (.iload_n 2) 76 2), (76, e1 (.aload_n 0) 77 0), (77, e3 (.getfield 244) 80 12 16 0)],
  [(80, e1 (.if_icmp .ge 20) 83 100), (83, e1 (.aload_n 0) 84 0), (84, e3 (.getfield 37) 87 12 19 2), (87, e1 (.iload_n 2) 88 2), (88, e0 (.iaload) 89), (89, e1 (.ifCond .le 5) 92 94), (92, ei (.iconst 1) 93 0 (1)), (93, e0 (.ireturn) 94), (94, ei (.iinc 2 1) 97 2 (1))],
  [(97, e1 (.goto (-22)) 100 75), (100, e1 (.aload_n 0) 101 0), (101, ei (.bipush 6) 103 0 (6)), (103, e3 (.invokevirtual 183) 106 2 2 0), (106, e0 (.ireturn) 107)]]
noncomputable def zE_Mo_readAll (α : Type) : Nat → zX α := fun i => bif Nat.beq i 0 then zA_vR_V 12 f_Mo_goesOn else bif Nat.beq i 1 then zA_vR_I 12 f_Mo_readLine else bif Nat.beq i 2 then zA_vRI_I 12 f_Mo_errs else fun _ _ _ => none
def zc_Mo_readAll : Nat → Bool := fun pc => Nat.beq pc 38 || Nat.beq pc 60 || Nat.beq pc 75
def D_Mo_readAll_38 (k : Nat → zM → Option (Int32 × zM)) (lv : zV) (st : List Value) (S : zM) : Option (Int32 × zM) := match lv, st with
  | [some (.ref a0), _, _], [] => k a0 S
  | _, _ => none
theorem d_Mo_readAll_38 {g : zV → Nat → List Value → zM → Prop} (Hw : zWk g) {k : Nat → zM → Option (Int32 × zM)} {res : (Int32 × zM)} {lv : zV} {st : List Value} {S : zM} (h : D_Mo_readAll_38 k lv st S = some res) (hk : ∀ a0 S, k a0 S = some res → g [some (.ref a0), none, none] 38 [] S) : g lv 38 st S := by
  unfold D_Mo_readAll_38 at h
  split at h
  · exact Hw _ _ _ _ _ (by simp [zle]) (hk _ _  h)
  · cases h
def D_Mo_readAll_60 (k : Nat → zM → Option (Int32 × zM)) (lv : zV) (st : List Value) (S : zM) : Option (Int32 × zM) := match lv, st with
  | [some (.ref a0), _, _], [] => k a0 S
  | _, _ => none
theorem d_Mo_readAll_60 {g : zV → Nat → List Value → zM → Prop} (Hw : zWk g) {k : Nat → zM → Option (Int32 × zM)} {res : (Int32 × zM)} {lv : zV} {st : List Value} {S : zM} (h : D_Mo_readAll_60 k lv st S = some res) (hk : ∀ a0 S, k a0 S = some res → g [some (.ref a0), none, none] 60 [] S) : g lv 60 st S := by
  unfold D_Mo_readAll_60 at h
  split at h
  · exact Hw _ _ _ _ _ (by simp [zle]) (hk _ _  h)
  · cases h
def D_Mo_readAll_75 (k : Nat → Int32 → zM → Option (Int32 × zM)) (lv : zV) (st : List Value) (S : zM) : Option (Int32 × zM) := match lv, st with
  | [some (.ref a0), _, some (.int a2)], [] => k a0 a2 S
  | _, _ => none
theorem d_Mo_readAll_75 {g : zV → Nat → List Value → zM → Prop} (Hw : zWk g) {k : Nat → Int32 → zM → Option (Int32 × zM)} {res : (Int32 × zM)} {lv : zV} {st : List Value} {S : zM} (h : D_Mo_readAll_75 k lv st S = some res) (hk : ∀ a0 a2 S, k a0 a2 S = some res → g [some (.ref a0), none, some (.int a2)] 75 [] S) : g lv 75 st S := by
  unfold D_Mo_readAll_75 at h
  split at h
  · exact Hw _ _ _ _ _ (by simp [zle]) (hk _ _ _  h)
  · cases h
set_option maxRecDepth 100000 in
theorem r_Mo_readAll_75 (n : Nat) (a0 : Nat) (a2 : Int32) (S : zM) : L_Mo_readAll_75 (n + 1) a0 a2 S = zrt true zP_Mo_readAll (zE_Mo_readAll (Int32 × zM)) zc_Mo_readAll zkI (fun pc lv st S => bif Nat.beq pc 75 then D_Mo_readAll_75 (L_Mo_readAll_75 n) lv st S else none) 1000 75 [some (.ref a0), none, some (.int a2)] [] S := rfl
theorem g_Mo_readAll_75 {g : zV → Nat → List Value → zM → Prop} {res : (Int32 × zM)} (H : zCl true zP_Mo_readAll (zE_Mo_readAll (Int32 × zM)) zkI res g) (Hw : zWk g) (n : Nat) : ∀ (a0 : Nat) (a2 : Int32) (S : zM), L_Mo_readAll_75 n a0 a2 S = some res → g [some (.ref a0), none, some (.int a2)] 75 [] S := by
  induction n with
  | zero => intro a0 a2 S h; cases h
  | succ n ih =>
    intro a0 a2 S h
    refine H zc_Mo_readAll _ 1000 _ _ _ _ ((r_Mo_readAll_75 n a0 a2 S).symm.trans h) (fun pc lv st S hK => ?_)
    rcases zdis hK with ⟨rfl, hK⟩ | hK
    · exact d_Mo_readAll_75 Hw hK ih
    cases hK
set_option maxRecDepth 100000 in
theorem r_Mo_readAll_60 (k75 : Nat → Int32 → zM → Option (Int32 × zM)) (a0 : Nat) (S : zM) : F_Mo_readAll_60 k75 a0 S = zrt true zP_Mo_readAll (zE_Mo_readAll (Int32 × zM)) zc_Mo_readAll zkI (fun pc lv st S => bif Nat.beq pc 75 then D_Mo_readAll_75 k75 lv st S else none) 1000 60 [some (.ref a0), none, none] [] S := rfl
theorem g_Mo_readAll_60 {g : zV → Nat → List Value → zM → Prop} {res : (Int32 × zM)} (H : zCl true zP_Mo_readAll (zE_Mo_readAll (Int32 × zM)) zkI res g) (Hw : zWk g) {k75 : Nat → Int32 → zM → Option (Int32 × zM)} (hk75 : ∀ a0 a2 S, k75 a0 a2 S = some res → g [some (.ref a0), none, some (.int a2)] 75 [] S) (a0 : Nat) (S : zM) (h : F_Mo_readAll_60 k75 a0 S = some res) : g [some (.ref a0), none, none] 60 [] S := by
  refine H zc_Mo_readAll _ 1000 _ _ _ _ ((r_Mo_readAll_60 k75 a0 S).symm.trans h) (fun pc lv st S hK => ?_)
  rcases zdis hK with ⟨rfl, hK⟩ | hK
  · exact d_Mo_readAll_75 Hw hK hk75
  cases hK
set_option maxRecDepth 100000 in
theorem r_Mo_readAll_38 (k60 : Nat → zM → Option (Int32 × zM)) (n : Nat) (a0 : Nat) (S : zM) : L_Mo_readAll_38 k60 (n + 1) a0 S = zrt true zP_Mo_readAll (zE_Mo_readAll (Int32 × zM)) zc_Mo_readAll zkI (fun pc lv st S => bif Nat.beq pc 38 then D_Mo_readAll_38 (L_Mo_readAll_38 k60 n) lv st S else bif Nat.beq pc 60 then D_Mo_readAll_60 k60 lv st S else none) 1000 38 [some (.ref a0), none, none] [] S := rfl
theorem g_Mo_readAll_38 {g : zV → Nat → List Value → zM → Prop} {res : (Int32 × zM)} (H : zCl true zP_Mo_readAll (zE_Mo_readAll (Int32 × zM)) zkI res g) (Hw : zWk g) {k60 : Nat → zM → Option (Int32 × zM)} (hk60 : ∀ a0 S, k60 a0 S = some res → g [some (.ref a0), none, none] 60 [] S) (n : Nat) : ∀ (a0 : Nat) (S : zM), L_Mo_readAll_38 k60 n a0 S = some res → g [some (.ref a0), none, none] 38 [] S := by
  induction n with
  | zero => intro a0 S h; cases h
  | succ n ih =>
    intro a0 S h
    refine H zc_Mo_readAll _ 1000 _ _ _ _ ((r_Mo_readAll_38 k60 n a0 S).symm.trans h) (fun pc lv st S hK => ?_)
    rcases zdis hK with ⟨rfl, hK⟩ | hK
    · exact d_Mo_readAll_38 Hw hK ih
    rcases zdis hK with ⟨rfl, hK⟩ | hK
    · exact d_Mo_readAll_60 Hw hK hk60
    cases hK
set_option maxRecDepth 100000 in
theorem r_Mo_readAll (a0 : Nat) (a1 : Int32) (S : zM) : f_Mo_readAll a0 a1 S = zrt true zP_Mo_readAll (zE_Mo_readAll (Int32 × zM)) zc_Mo_readAll zkI (fun pc lv st S => bif Nat.beq pc 38 then D_Mo_readAll_38 (L_Mo_readAll_38 (F_Mo_readAll_60 (L_Mo_readAll_75 zF)) zF) lv st S else none) 1000 0 [some (.ref a0), some (.int a1), none] [] S := rfl
theorem G_Mo_readAll {g : zV → Nat → List Value → zM → Prop} {res : (Int32 × zM)} (H : zCl true zP_Mo_readAll (zE_Mo_readAll (Int32 × zM)) zkI res g) (Hw : zWk g) (a0 : Nat) (a1 : Int32) (S : zM) (h : f_Mo_readAll a0 a1 S = some res) : g [some (.ref a0), some (.int a1), none] 0 [] S := by
  refine H zc_Mo_readAll _ 1000 _ _ _ _ ((r_Mo_readAll a0 a1 S).symm.trans h) (fun pc lv st S hK => ?_)
  rcases zdis hK with ⟨rfl, hK⟩ | hK
  · exact d_Mo_readAll_38 Hw hK (g_Mo_readAll_38 H Hw (g_Mo_readAll_60 H Hw (g_Mo_readAll_75 H Hw  zF)) zF)
  cases hK
set_option maxRecDepth 100000 in
theorem ok_Mo_readAll : zokT 12 [65, 80, 68] false 10 256 3 true (some .boolean) cX12_readAll zP_Mo_readAll = true := by decide +kernel
set_option maxRecDepth 100000 in
theorem s_Mo_readAll {l : Launch} {HB : Heap} {b L : Nat} {xs : Nat → Int32} {aK aV : Nat → Nat} {G : va_G} {tc : Nat → ClassId} (h0 : zSnd l HB b L xs aK aV G tc (zMT.getD 65 zyD) (fun α => zA_vR_V 12 f_Mo_goesOn)) (h1 : zSnd l HB b L xs aK aV G tc (zMT.getD 80 zyD) (fun α => zA_vR_I 12 f_Mo_readLine)) (h2 : zSnd l HB b L xs aK aV G tc (zMT.getD 68 zyD) (fun α => zA_vRI_I 12 f_Mo_errs)) : zSnd l HB b L xs aK aV G tc (zMT.getD 81 zyD) (fun α => zA_vRI_I 12 f_Mo_readAll) := by
  rw [show zMT.getD 81 zyD = (yX12_readAll, cX12_readAll, 3, (some .boolean), 0, 2, 10, 256) from rfl]
  intro α as S k res h
  unfold zA_vRI_I at h
  dsimp only at h
  split at h
  · rename_i a0 a1
    obtain ⟨p, hp, h⟩ := zbind h
    unfold zcl at hp
    split at hp
    · rename_i hkd
      have hm := zmeth (l := l) (HB := HB) (b := b) (L := L) (xs := xs) (aK := aK) (aV := aV) (G := G) (tc := tc) (q := (yX12_readAll, cX12_readAll, 3, (some .boolean), 0, 2, 10, 256)) (o := 12) (cs := [65, 80, 68]) (rz := true) (T := zP_Mo_readAll) (E := zE_Mo_readAll (Int32 × zM)) (kr := zkI) (res := p) (v0 := some (.int p.1)) (S0 := p.2) (as := [.ref a0, .int a1]) (S := S) zMT_fine (by decide +kernel) (fun i as S k' h => by
        unfold zE_Mo_readAll at h
        rcases zdisf h with ⟨rfl, h⟩ | h
        · exact h0 _ _ _ _ _ h
        rcases zdisf h with ⟨rfl, h⟩ | h
        · exact h1 _ _ _ _ _ h
        rcases zdisf h with ⟨rfl, h⟩ | h
        · exact h2 _ _ _ _ _ h
        cases h) ok_Mo_readAll rfl (fun v S' h => zkI_inv h) (Nat.le_of_ble_eq_true rfl) (fun g H Hw => Hw _ [some (.ref a0), some (.int a1), none] _ _ _ ⟨rfl, rfl, trivial⟩ (G_Mo_readAll H Hw a0 a1 S hp))
      exact ⟨_, _, h, hm.1, rfl, fun _ => ⟨_, _, rfl⟩, (fun _ U H hK hH a r e => by cases e; exact zrecv (ci := 12) (by omega) hkd rfl U H hK hH), hm.2⟩
    · cases hp
  · cases h
