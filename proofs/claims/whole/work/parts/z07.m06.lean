def zP_Mo_failing : List (List (Nat × zE)) := [[(0, e1 (.aload_n 0) 1 0), (1, e1 (.aload_n 0) 2 0), (2, e1 (.iload_n 2) 3 2), (3, ei (.iconst 0) 4 0 (0)), (4, ei (.iconst 1) 5 0 (1)), (5, e3 (.invokestatic 156) 8 0 3 0), (8, e1 (.iload_n 1) 9 1), (9, e3 (.invokevirtual 454) 12 1 3 0), (12, e3 (.invokevirtual 458) 15 2 2 0), (15, e1 (.ifCond .eq 7) 18 22)],
  [(18, ej (.ldc2_w 464) 21 (-1)), (21, e0 (.lreturn) 22), (22, e1 (.aload_n 0) 23 0), (23, e1 (.iload_n 1) 24 1), (24, e3 (.invokevirtual 448) 27 3 2 0), (27, ei (.iconst 0) 28 0 (0)), (28, e1 (.istore_n 3) 29 3), (29, e1 (.iload_n 3) 30 3), (30, e1 (.aload_n 0) 31 0), (31, e3 (.getfield 438) 34 12 61 0)],
  [(34, e1 (.if_icmp .ge 37) 37 71), (37, e1 (.aload_n 0) 38 0), (38, e1 (.iload_n 3) 39 3), (39, e3 (.invokevirtual 451) 42 4 2 0), (42, e1 (.istore 4) 44 4), (44, e1 (.iload 4) 46 4), (46, ei (.iconst (-1)) 47 0 (-1)), (47, e1 (.if_icmp .eq 18) 50 65)],
  [(50, e1 (.aload_n 0) 51 0), (51, e1 (.iload_n 2) 52 2), (52, e1 (.ifCond .ne 7) 55 59), (55, e1 (.iload_n 3) 56 3), (56, e1 (.goto 5) 59 61), (59, e1 (.iload 4) 61 4), (61, e3 (.invokevirtual 466) 64 5 2 0)],
  [(64, e0 (.lreturn) 65), (65, ei (.iinc 3 1) 68 3 (1)), (68, e1 (.goto (-39)) 71 29), (71, e1 (.aload_n 0) 72 0), (72, ei (.iconst 5) 73 0 (5)), (73, e3 (.invokevirtual 275) 76 6 2 0), (76, e0 (.i2l) 77), (77, e0 (.lreturn) 78)]]
noncomputable def zE_Mo_failing (α : Type) : Nat → zX α := fun i => bif Nat.beq i 0 then zA_III_I f_Mo_in else bif Nat.beq i 1 then zA_vRII_I 12 f_Mo_wordsWhy else bif Nat.beq i 2 then zA_vRI_I 12 f_Mo_isRefused else bif Nat.beq i 3 then zA_vRI_V 12 f_Mo_laysWords else bif Nat.beq i 4 then zA_vRI_I 12 f_Mo_firstAlike else bif Nat.beq i 5 then zA_vRI_J 12 f_Mo_wordOf else bif Nat.beq i 6 then zA_vRI_I 12 f_Mo_no else fun _ _ _ => none
def zc_Mo_failing : Nat → Bool := fun pc => Nat.beq pc 29
def D_Mo_failing_29 (k : Nat → Int32 → Int32 → zM → Option (Int64 × zM)) (lv : zV) (st : List Value) (S : zM) : Option (Int64 × zM) := match lv, st with
  | [some (.ref a0), _, some (.int a2), some (.int a3), _], [] => k a0 a2 a3 S
  | _, _ => none
theorem d_Mo_failing_29 {g : zV → Nat → List Value → zM → Prop} (Hw : zWk g) {k : Nat → Int32 → Int32 → zM → Option (Int64 × zM)} {res : (Int64 × zM)} {lv : zV} {st : List Value} {S : zM} (h : D_Mo_failing_29 k lv st S = some res) (hk : ∀ a0 a2 a3 S, k a0 a2 a3 S = some res → g [some (.ref a0), none, some (.int a2), some (.int a3), none] 29 [] S) : g lv 29 st S := by
  unfold D_Mo_failing_29 at h
  split at h
  · exact Hw _ _ _ _ _ (by simp [zle]) (hk _ _ _ _  h)
  · cases h
set_option maxRecDepth 100000 in
theorem r_Mo_failing_29 (n : Nat) (a0 : Nat) (a2 : Int32) (a3 : Int32) (S : zM) : L_Mo_failing_29 (n + 1) a0 a2 a3 S = zrt false zP_Mo_failing (zE_Mo_failing (Int64 × zM)) zc_Mo_failing zkJ (fun pc lv st S => bif Nat.beq pc 29 then D_Mo_failing_29 (L_Mo_failing_29 n) lv st S else none) 1000 29 [some (.ref a0), none, some (.int a2), some (.int a3), none] [] S := rfl
theorem g_Mo_failing_29 {g : zV → Nat → List Value → zM → Prop} {res : (Int64 × zM)} (H : zCl false zP_Mo_failing (zE_Mo_failing (Int64 × zM)) zkJ res g) (Hw : zWk g) (n : Nat) : ∀ (a0 : Nat) (a2 : Int32) (a3 : Int32) (S : zM), L_Mo_failing_29 n a0 a2 a3 S = some res → g [some (.ref a0), none, some (.int a2), some (.int a3), none] 29 [] S := by
  induction n with
  | zero => intro a0 a2 a3 S h; cases h
  | succ n ih =>
    intro a0 a2 a3 S h
    refine H zc_Mo_failing _ 1000 _ _ _ _ ((r_Mo_failing_29 n a0 a2 a3 S).symm.trans h) (fun pc lv st S hK => ?_)
    rcases zdis hK with ⟨rfl, hK⟩ | hK
    · exact d_Mo_failing_29 Hw hK ih
    cases hK
set_option maxRecDepth 100000 in
theorem r_Mo_failing (a0 : Nat) (a1 : Int32) (a2 : Int32) (S : zM) : f_Mo_failing a0 a1 a2 S = zrt false zP_Mo_failing (zE_Mo_failing (Int64 × zM)) zc_Mo_failing zkJ (fun pc lv st S => bif Nat.beq pc 29 then D_Mo_failing_29 (L_Mo_failing_29 zF) lv st S else none) 1000 0 [some (.ref a0), some (.int a1), some (.int a2), none, none] [] S := rfl
theorem G_Mo_failing {g : zV → Nat → List Value → zM → Prop} {res : (Int64 × zM)} (H : zCl false zP_Mo_failing (zE_Mo_failing (Int64 × zM)) zkJ res g) (Hw : zWk g) (a0 : Nat) (a1 : Int32) (a2 : Int32) (S : zM) (h : f_Mo_failing a0 a1 a2 S = some res) : g [some (.ref a0), some (.int a1), some (.int a2), none, none] 0 [] S := by
  refine H zc_Mo_failing _ 1000 _ _ _ _ ((r_Mo_failing a0 a1 a2 S).symm.trans h) (fun pc lv st S hK => ?_)
  rcases zdis hK with ⟨rfl, hK⟩ | hK
  · exact d_Mo_failing_29 Hw hK (g_Mo_failing_29 H Hw  zF)
  cases hK
set_option maxRecDepth 100000 in
theorem ok_Mo_failing : zokT 12 [62, 213, 214, 233, 235, 241, 63] false 8 196 5 false (some .long) cX12_failing zP_Mo_failing = true := by decide +kernel
set_option maxRecDepth 100000 in
theorem s_Mo_failing {l : Launch} {HB : Heap} {b L : Nat} {xs : Nat → Int32} {aK aV : Nat → Nat} {G : va_G} {tc : Nat → ClassId} (h0 : zSnd l HB b L xs aK aV G tc (zMT.getD 62 zyD) (fun α => zA_III_I f_Mo_in)) (h1 : zSnd l HB b L xs aK aV G tc (zMT.getD 213 zyD) (fun α => zA_vRII_I 12 f_Mo_wordsWhy)) (h2 : zSnd l HB b L xs aK aV G tc (zMT.getD 214 zyD) (fun α => zA_vRI_I 12 f_Mo_isRefused)) (h3 : zSnd l HB b L xs aK aV G tc (zMT.getD 233 zyD) (fun α => zA_vRI_V 12 f_Mo_laysWords)) (h4 : zSnd l HB b L xs aK aV G tc (zMT.getD 235 zyD) (fun α => zA_vRI_I 12 f_Mo_firstAlike)) (h5 : zSnd l HB b L xs aK aV G tc (zMT.getD 241 zyD) (fun α => zA_vRI_J 12 f_Mo_wordOf)) (h6 : zSnd l HB b L xs aK aV G tc (zMT.getD 63 zyD) (fun α => zA_vRI_I 12 f_Mo_no)) : zSnd l HB b L xs aK aV G tc (zMT.getD 242 zyD) (fun α => zA_vRII_J 12 f_Mo_failing) := by
  rw [show zMT.getD 242 zyD = (yX12_failing, cX12_failing, 5, (some .long), 0, 3, 8, 196) from rfl]
  intro α as S k res h
  unfold zA_vRII_J at h
  dsimp only at h
  split at h
  · rename_i a0 a1 a2
    obtain ⟨p, hp, h⟩ := zbind h
    unfold zcl at hp
    split at hp
    · rename_i hkd
      have hm := zmeth (l := l) (HB := HB) (b := b) (L := L) (xs := xs) (aK := aK) (aV := aV) (G := G) (tc := tc) (q := (yX12_failing, cX12_failing, 5, (some .long), 0, 3, 8, 196)) (o := 12) (cs := [62, 213, 214, 233, 235, 241, 63]) (rz := false) (T := zP_Mo_failing) (E := zE_Mo_failing (Int64 × zM)) (kr := zkJ) (res := p) (v0 := some (.long p.1)) (S0 := p.2) (as := [.ref a0, .int a1, .int a2]) (S := S) zMT_fine (by decide +kernel) (fun i as S k' h => by
        unfold zE_Mo_failing at h
        rcases zdisf h with ⟨rfl, h⟩ | h
        · exact h0 _ _ _ _ _ h
        rcases zdisf h with ⟨rfl, h⟩ | h
        · exact h1 _ _ _ _ _ h
        rcases zdisf h with ⟨rfl, h⟩ | h
        · exact h2 _ _ _ _ _ h
        rcases zdisf h with ⟨rfl, h⟩ | h
        · exact h3 _ _ _ _ _ h
        rcases zdisf h with ⟨rfl, h⟩ | h
        · exact h4 _ _ _ _ _ h
        rcases zdisf h with ⟨rfl, h⟩ | h
        · exact h5 _ _ _ _ _ h
        rcases zdisf h with ⟨rfl, h⟩ | h
        · exact h6 _ _ _ _ _ h
        cases h) ok_Mo_failing rfl (fun v S' h => zkJ_inv h) (Nat.le_of_ble_eq_true rfl) (fun g H Hw => Hw _ [some (.ref a0), some (.int a1), some (.int a2), none, none] _ _ _ ⟨rfl, rfl, rfl, trivial⟩ (G_Mo_failing H Hw a0 a1 a2 S hp))
      exact ⟨_, _, h, hm.1, rfl, fun _ => ⟨_, _, rfl⟩, (fun _ U H hK hH a r e => by cases e; exact zrecv (ci := 12) (by omega) hkd rfl U H hK hH), hm.2⟩
    · cases hp
  · cases h
def zP_Census_countDoubled : List (List (Nat × zE)) := [[(0, e1 (.aload_n 0) 1 0), (1, e1 (.iload_n 1) 2 1), (2, e3 (.invokevirtual 74) 5 0 2 0), (5, e1 (.istore_n 2) 6 2), (6, ei (.iconst 0) 7 0 (0)), (7, e1 (.istore_n 3) 8 3), (8, ei (.iconst 0) 9 0 (0)), (9, e1 (.istore 4) 11 4), (11, e1 (.iload 4) 13 4), (13, e1 (.iload_n 2) 14 2), (14, e1 (.if_icmp .ge 28) 17 42)],
  [(17, e1 (.iload_n 3) 18 3), (18, e1 (.aload_n 0) 19 0), (19, e3 (.getfield 44) 22 2 6 2), (22, e1 (.iload 4) 24 4), (24, e0 (.iaload) 25), (25, ei (.iconst (-1)) 26 0 (-1)), (26, e1 (.if_icmp .eq 7) 29 33), (29, ei (.iconst 1) 30 0 (1)), (30, e1 (.goto 4) 33 34)],
  [(33, ei (.iconst 0) 34 0 (0)), (34, e0 (.iadd) 35), (35, e1 (.istore_n 3) 36 3), (36, ei (.iinc 4 1) 39 4 (1)), (39, e1 (.goto (-28)) 42 11), (42, e1 (.iload_n 3) 43 3), (43, e0 (.ireturn) 44)]]
noncomputable def zE_Census_countDoubled (α : Type) : Nat → zX α := fun i => bif Nat.beq i 0 then zA_vRI_I 2 f_Census_count else fun _ _ _ => none
def zc_Census_countDoubled : Nat → Bool := fun pc => Nat.beq pc 11
def D_Census_countDoubled_11 (k : Nat → Int32 → Int32 → Int32 → zM → Option (Int32 × zM)) (lv : zV) (st : List Value) (S : zM) : Option (Int32 × zM) := match lv, st with
  | [some (.ref a0), _, some (.int a2), some (.int a3), some (.int a4)], [] => k a0 a2 a3 a4 S
  | _, _ => none
theorem d_Census_countDoubled_11 {g : zV → Nat → List Value → zM → Prop} (Hw : zWk g) {k : Nat → Int32 → Int32 → Int32 → zM → Option (Int32 × zM)} {res : (Int32 × zM)} {lv : zV} {st : List Value} {S : zM} (h : D_Census_countDoubled_11 k lv st S = some res) (hk : ∀ a0 a2 a3 a4 S, k a0 a2 a3 a4 S = some res → g [some (.ref a0), none, some (.int a2), some (.int a3), some (.int a4)] 11 [] S) : g lv 11 st S := by
  unfold D_Census_countDoubled_11 at h
  split at h
  · exact Hw _ _ _ _ _ (by simp [zle]) (hk _ _ _ _ _  h)
  · cases h
set_option maxRecDepth 100000 in
theorem r_Census_countDoubled_11 (n : Nat) (a0 : Nat) (a2 : Int32) (a3 : Int32) (a4 : Int32) (S : zM) : L_Census_countDoubled_11 (n + 1) a0 a2 a3 a4 S = zrt false zP_Census_countDoubled (zE_Census_countDoubled (Int32 × zM)) zc_Census_countDoubled zkI (fun pc lv st S => bif Nat.beq pc 11 then D_Census_countDoubled_11 (L_Census_countDoubled_11 n) lv st S else none) 1000 11 [some (.ref a0), none, some (.int a2), some (.int a3), some (.int a4)] [] S := rfl
theorem g_Census_countDoubled_11 {g : zV → Nat → List Value → zM → Prop} {res : (Int32 × zM)} (H : zCl false zP_Census_countDoubled (zE_Census_countDoubled (Int32 × zM)) zkI res g) (Hw : zWk g) (n : Nat) : ∀ (a0 : Nat) (a2 : Int32) (a3 : Int32) (a4 : Int32) (S : zM), L_Census_countDoubled_11 n a0 a2 a3 a4 S = some res → g [some (.ref a0), none, some (.int a2), some (.int a3), some (.int a4)] 11 [] S := by
  induction n with
  | zero => intro a0 a2 a3 a4 S h; cases h
  | succ n ih =>
    intro a0 a2 a3 a4 S h
    refine H zc_Census_countDoubled _ 1000 _ _ _ _ ((r_Census_countDoubled_11 n a0 a2 a3 a4 S).symm.trans h) (fun pc lv st S hK => ?_)
    rcases zdis hK with ⟨rfl, hK⟩ | hK
    · exact d_Census_countDoubled_11 Hw hK ih
    cases hK
set_option maxRecDepth 100000 in
theorem r_Census_countDoubled (a0 : Nat) (a1 : Int32) (S : zM) : f_Census_countDoubled a0 a1 S = zrt false zP_Census_countDoubled (zE_Census_countDoubled (Int32 × zM)) zc_Census_countDoubled zkI (fun pc lv st S => bif Nat.beq pc 11 then D_Census_countDoubled_11 (L_Census_countDoubled_11 zF) lv st S else none) 1000 0 [some (.ref a0), some (.int a1), none, none, none] [] S := rfl
theorem G_Census_countDoubled {g : zV → Nat → List Value → zM → Prop} {res : (Int32 × zM)} (H : zCl false zP_Census_countDoubled (zE_Census_countDoubled (Int32 × zM)) zkI res g) (Hw : zWk g) (a0 : Nat) (a1 : Int32) (S : zM) (h : f_Census_countDoubled a0 a1 S = some res) : g [some (.ref a0), some (.int a1), none, none, none] 0 [] S := by
  refine H zc_Census_countDoubled _ 1000 _ _ _ _ ((r_Census_countDoubled a0 a1 S).symm.trans h) (fun pc lv st S hK => ?_)
  rcases zdis hK with ⟨rfl, hK⟩ | hK
  · exact d_Census_countDoubled_11 Hw hK (g_Census_countDoubled_11 H Hw  zF)
  cases hK
set_option maxRecDepth 100000 in
theorem ok_Census_countDoubled : zokT 2 [219] false 2 45 5 false (some .int) cX2_countDoubled zP_Census_countDoubled = true := by decide +kernel
set_option maxRecDepth 100000 in
theorem s_Census_countDoubled {l : Launch} {HB : Heap} {b L : Nat} {xs : Nat → Int32} {aK aV : Nat → Nat} {G : va_G} {tc : Nat → ClassId} (h0 : zSnd l HB b L xs aK aV G tc (zMT.getD 219 zyD) (fun α => zA_vRI_I 2 f_Census_count)) : zSnd l HB b L xs aK aV G tc (zMT.getD 243 zyD) (fun α => zA_vRI_I 2 f_Census_countDoubled) := by
  rw [show zMT.getD 243 zyD = (yX2_countDoubled, cX2_countDoubled, 5, (some .int), 0, 2, 2, 45) from rfl]
  intro α as S k res h
  unfold zA_vRI_I at h
  dsimp only at h
  split at h
  · rename_i a0 a1
    obtain ⟨p, hp, h⟩ := zbind h
    unfold zcl at hp
    split at hp
    · rename_i hkd
      have hm := zmeth (l := l) (HB := HB) (b := b) (L := L) (xs := xs) (aK := aK) (aV := aV) (G := G) (tc := tc) (q := (yX2_countDoubled, cX2_countDoubled, 5, (some .int), 0, 2, 2, 45)) (o := 2) (cs := [219]) (rz := false) (T := zP_Census_countDoubled) (E := zE_Census_countDoubled (Int32 × zM)) (kr := zkI) (res := p) (v0 := some (.int p.1)) (S0 := p.2) (as := [.ref a0, .int a1]) (S := S) zMT_fine (by decide +kernel) (fun i as S k' h => by
        unfold zE_Census_countDoubled at h
        rcases zdisf h with ⟨rfl, h⟩ | h
        · exact h0 _ _ _ _ _ h
        cases h) ok_Census_countDoubled rfl (fun v S' h => zkI_inv h) (Nat.le_of_ble_eq_true rfl) (fun g H Hw => Hw _ [some (.ref a0), some (.int a1), none, none, none] _ _ _ ⟨rfl, rfl, trivial⟩ (G_Census_countDoubled H Hw a0 a1 S hp))
      exact ⟨_, _, h, hm.1, rfl, fun _ => ⟨_, _, rfl⟩, (fun _ U H hK hH a r e => by cases e; exact zrecv (ci := 2) (by omega) hkd rfl U H hK hH), hm.2⟩
    · cases hp
  · cases h
def zP_Cl_doubled : List (List (Nat × zE)) := [[(0, e1 (.aload_n 0) 1 0), (1, e1 (.iload_n 1) 2 1), (2, ei (.iconst 1) 3 0 (1)), (3, e3 (.invokevirtual 258) 6 0 3 0), (6, e1 (.istore_n 2) 7 2), (7, e1 (.iload_n 2) 8 2), (8, e1 (.ifCond .eq 11) 11 19), (11, e1 (.aload_n 0) 12 0), (12, e1 (.iload_n 2) 13 2), (13, e3 (.invokevirtual 79) 16 1 2 0)],
  [(16, e1 (.goto 16) 19 32), (19, e1 (.aload_n 0) 20 0), (20, e1 (.aload_n 0) 21 0), (21, e1 (.iload_n 1) 22 1), (22, e3 (.invokevirtual 265) 25 2 2 0), (25, e1 (.iload_n 1) 26 1), (26, e3 (.invokevirtual 281) 29 3 2 0), (29, e3 (.invokevirtual 109) 32 4 2 0)],
  [(32, e0 (.ireturn) 33)]]
noncomputable def zE_Cl_doubled (α : Type) : Nat → zX α := fun i => bif Nat.beq i 0 then zA_vRII_I 11 f_Cl_troubleUpTo else bif Nat.beq i 1 then zA_vRI_I 11 f_Cl_refuse else bif Nat.beq i 2 then zA_vRI_R 11 f_Cl_censusUpTo else bif Nat.beq i 3 then zA_vRI_I 2 f_Census_countDoubled else bif Nat.beq i 4 then zA_vRI_I 11 f_Cl_answer else fun _ _ _ => none
def zc_Cl_doubled : Nat → Bool := fun pc => false
set_option maxRecDepth 100000 in
theorem r_Cl_doubled (a0 : Nat) (a1 : Int32) (S : zM) : f_Cl_doubled a0 a1 S = zrt false zP_Cl_doubled (zE_Cl_doubled (Int32 × zM)) zc_Cl_doubled zkI (fun pc lv st S => none) 1000 0 [some (.ref a0), some (.int a1), none] [] S := rfl
theorem G_Cl_doubled {g : zV → Nat → List Value → zM → Prop} {res : (Int32 × zM)} (H : zCl false zP_Cl_doubled (zE_Cl_doubled (Int32 × zM)) zkI res g) (Hw : zWk g) (a0 : Nat) (a1 : Int32) (S : zM) (h : f_Cl_doubled a0 a1 S = some res) : g [some (.ref a0), some (.int a1), none] 0 [] S := by
  refine H zc_Cl_doubled _ 1000 _ _ _ _ ((r_Cl_doubled a0 a1 S).symm.trans h) (fun pc lv st S hK => ?_)
  cases hK
set_option maxRecDepth 100000 in
theorem ok_Cl_doubled : zokT 11 [210, 16, 227, 243, 59] false 7 212 3 false (some .int) cX11_doubled zP_Cl_doubled = true := by decide +kernel
set_option maxRecDepth 100000 in
theorem s_Cl_doubled {l : Launch} {HB : Heap} {b L : Nat} {xs : Nat → Int32} {aK aV : Nat → Nat} {G : va_G} {tc : Nat → ClassId} (h0 : zSnd l HB b L xs aK aV G tc (zMT.getD 210 zyD) (fun α => zA_vRII_I 11 f_Cl_troubleUpTo)) (h1 : zSnd l HB b L xs aK aV G tc (zMT.getD 16 zyD) (fun α => zA_vRI_I 11 f_Cl_refuse)) (h2 : zSnd l HB b L xs aK aV G tc (zMT.getD 227 zyD) (fun α => zA_vRI_R 11 f_Cl_censusUpTo)) (h3 : zSnd l HB b L xs aK aV G tc (zMT.getD 243 zyD) (fun α => zA_vRI_I 2 f_Census_countDoubled)) (h4 : zSnd l HB b L xs aK aV G tc (zMT.getD 59 zyD) (fun α => zA_vRI_I 11 f_Cl_answer)) : zSnd l HB b L xs aK aV G tc (zMT.getD 244 zyD) (fun α => zA_vRI_I 11 f_Cl_doubled) := by
  rw [show zMT.getD 244 zyD = (yX11_doubled, cX11_doubled, 3, (some .int), 0, 2, 7, 212) from rfl]
  intro α as S k res h
  unfold zA_vRI_I at h
  dsimp only at h
  split at h
  · rename_i a0 a1
    obtain ⟨p, hp, h⟩ := zbind h
    unfold zcl at hp
    split at hp
    · rename_i hkd
      have hm := zmeth (l := l) (HB := HB) (b := b) (L := L) (xs := xs) (aK := aK) (aV := aV) (G := G) (tc := tc) (q := (yX11_doubled, cX11_doubled, 3, (some .int), 0, 2, 7, 212)) (o := 11) (cs := [210, 16, 227, 243, 59]) (rz := false) (T := zP_Cl_doubled) (E := zE_Cl_doubled (Int32 × zM)) (kr := zkI) (res := p) (v0 := some (.int p.1)) (S0 := p.2) (as := [.ref a0, .int a1]) (S := S) zMT_fine (by decide +kernel) (fun i as S k' h => by
        unfold zE_Cl_doubled at h
        rcases zdisf h with ⟨rfl, h⟩ | h
        · exact h0 _ _ _ _ _ h
        rcases zdisf h with ⟨rfl, h⟩ | h
        · exact h1 _ _ _ _ _ h
        rcases zdisf h with ⟨rfl, h⟩ | h
        · exact h2 _ _ _ _ _ h
        rcases zdisf h with ⟨rfl, h⟩ | h
        · exact h3 _ _ _ _ _ h
        rcases zdisf h with ⟨rfl, h⟩ | h
        · exact h4 _ _ _ _ _ h
        cases h) ok_Cl_doubled rfl (fun v S' h => zkI_inv h) (Nat.le_of_ble_eq_true rfl) (fun g H Hw => Hw _ [some (.ref a0), some (.int a1), none] _ _ _ ⟨rfl, rfl, trivial⟩ (G_Cl_doubled H Hw a0 a1 S hp))
      exact ⟨_, _, h, hm.1, rfl, fun _ => ⟨_, _, rfl⟩, (fun _ U H hK hH a r e => by cases e; exact zrecv (ci := 11) (by omega) hkd rfl U H hK hH), hm.2⟩
    · cases hp
  · cases h
def zP_Mo_doubled : List (List (Nat × zE)) := [[(0, e1 (.aload_n 0) 1 0), (1, e1 (.aload_n 0) 2 0), (2, ei (.iconst 1) 3 0 (1)), (3, e1 (.iload_n 1) 4 1), (4, e3 (.invokevirtual 454) 7 0 3 0), (7, e3 (.invokevirtual 458) 10 1 2 0), (10, e1 (.ifCond .eq 7) 13 17), (13, ei (.iconst (-1)) 14 0 (-1)), (14, e1 (.goto 8) 17 22)],
  [(17, e1 (.aload_n 0) 18 0), (18, e1 (.iload_n 1) 19 1), (19, e3 (.invokevirtual 461) 22 2 2 0), (22, e0 (.ireturn) 23)]]
noncomputable def zE_Mo_doubled (α : Type) : Nat → zX α := fun i => bif Nat.beq i 0 then zA_vRII_I 12 f_Mo_wordsWhy else bif Nat.beq i 1 then zA_vRI_I 12 f_Mo_isRefused else bif Nat.beq i 2 then zA_vRI_I 12 f_Mo_doubledMany else fun _ _ _ => none
def zc_Mo_doubled : Nat → Bool := fun pc => false
set_option maxRecDepth 100000 in
theorem r_Mo_doubled (a0 : Nat) (a1 : Int32) (S : zM) : f_Mo_doubled a0 a1 S = zrt false zP_Mo_doubled (zE_Mo_doubled (Int32 × zM)) zc_Mo_doubled zkI (fun pc lv st S => none) 1000 0 [some (.ref a0), some (.int a1)] [] S := rfl
theorem G_Mo_doubled {g : zV → Nat → List Value → zM → Prop} {res : (Int32 × zM)} (H : zCl false zP_Mo_doubled (zE_Mo_doubled (Int32 × zM)) zkI res g) (Hw : zWk g) (a0 : Nat) (a1 : Int32) (S : zM) (h : f_Mo_doubled a0 a1 S = some res) : g [some (.ref a0), some (.int a1)] 0 [] S := by
  refine H zc_Mo_doubled _ 1000 _ _ _ _ ((r_Mo_doubled a0 a1 S).symm.trans h) (fun pc lv st S hK => ?_)
  cases hK
set_option maxRecDepth 100000 in
theorem ok_Mo_doubled : zokT 12 [213, 214, 236] false 9 219 2 false (some .int) cX12_doubled zP_Mo_doubled = true := by decide +kernel
set_option maxRecDepth 100000 in
theorem s_Mo_doubled {l : Launch} {HB : Heap} {b L : Nat} {xs : Nat → Int32} {aK aV : Nat → Nat} {G : va_G} {tc : Nat → ClassId} (h0 : zSnd l HB b L xs aK aV G tc (zMT.getD 213 zyD) (fun α => zA_vRII_I 12 f_Mo_wordsWhy)) (h1 : zSnd l HB b L xs aK aV G tc (zMT.getD 214 zyD) (fun α => zA_vRI_I 12 f_Mo_isRefused)) (h2 : zSnd l HB b L xs aK aV G tc (zMT.getD 236 zyD) (fun α => zA_vRI_I 12 f_Mo_doubledMany)) : zSnd l HB b L xs aK aV G tc (zMT.getD 245 zyD) (fun α => zA_vRI_I 12 f_Mo_doubled) := by
  rw [show zMT.getD 245 zyD = (yX12_doubled, cX12_doubled, 2, (some .int), 0, 2, 9, 219) from rfl]
  intro α as S k res h
  unfold zA_vRI_I at h
  dsimp only at h
  split at h
  · rename_i a0 a1
    obtain ⟨p, hp, h⟩ := zbind h
    unfold zcl at hp
    split at hp
    · rename_i hkd
      have hm := zmeth (l := l) (HB := HB) (b := b) (L := L) (xs := xs) (aK := aK) (aV := aV) (G := G) (tc := tc) (q := (yX12_doubled, cX12_doubled, 2, (some .int), 0, 2, 9, 219)) (o := 12) (cs := [213, 214, 236]) (rz := false) (T := zP_Mo_doubled) (E := zE_Mo_doubled (Int32 × zM)) (kr := zkI) (res := p) (v0 := some (.int p.1)) (S0 := p.2) (as := [.ref a0, .int a1]) (S := S) zMT_fine (by decide +kernel) (fun i as S k' h => by
        unfold zE_Mo_doubled at h
        rcases zdisf h with ⟨rfl, h⟩ | h
        · exact h0 _ _ _ _ _ h
        rcases zdisf h with ⟨rfl, h⟩ | h
        · exact h1 _ _ _ _ _ h
        rcases zdisf h with ⟨rfl, h⟩ | h
        · exact h2 _ _ _ _ _ h
        cases h) ok_Mo_doubled rfl (fun v S' h => zkI_inv h) (Nat.le_of_ble_eq_true rfl) (fun g H Hw => Hw _ [some (.ref a0), some (.int a1)] _ _ _ ⟨rfl, rfl, trivial⟩ (G_Mo_doubled H Hw a0 a1 S hp))
      exact ⟨_, _, h, hm.1, rfl, fun _ => ⟨_, _, rfl⟩, (fun _ U H hK hH a r e => by cases e; exact zrecv (ci := 12) (by omega) hkd rfl U H hK hH), hm.2⟩
    · cases hp
  · cases h
def zP_Outcomes_lengthOf : List (List (Nat × zE)) := [[(0, e1 (.iload_n 1) 1 1), (1, e1 (.ifCond .lt 10) 4 11), (4, e1 (.iload_n 1) 5 1), (5, ei (.sipush 1364) 8 0 (1364)), (8, e1 (.if_icmp .lt 8) 11 16), (11, ei (.bipush (-6)) 13 0 (-6)), (13, e1 (.goto 9) 16 22)],
  [(16, e1 (.aload_n 0) 17 0), (17, e3 (.getfield 9) 20 4 0 2), (20, e1 (.iload_n 1) 21 1), (21, e0 (.iaload) 22), (22, e0 (.ireturn) 23)]]
noncomputable def zE_Outcomes_lengthOf (α : Type) : Nat → zX α := fun _ => fun _ _ _ => none
def zc_Outcomes_lengthOf : Nat → Bool := fun pc => false
set_option maxRecDepth 100000 in
theorem r_Outcomes_lengthOf (a0 : Nat) (a1 : Int32) (S : zM) : f_Outcomes_lengthOf a0 a1 S = zrt false zP_Outcomes_lengthOf (zE_Outcomes_lengthOf (Int32 × zM)) zc_Outcomes_lengthOf zkI (fun pc lv st S => none) 1000 0 [some (.ref a0), some (.int a1)] [] S := rfl
theorem G_Outcomes_lengthOf {g : zV → Nat → List Value → zM → Prop} {res : (Int32 × zM)} (H : zCl false zP_Outcomes_lengthOf (zE_Outcomes_lengthOf (Int32 × zM)) zkI res g) (Hw : zWk g) (a0 : Nat) (a1 : Int32) (S : zM) (h : f_Outcomes_lengthOf a0 a1 S = some res) : g [some (.ref a0), some (.int a1)] 0 [] S := by
  refine H zc_Outcomes_lengthOf _ 1000 _ _ _ _ ((r_Outcomes_lengthOf a0 a1 S).symm.trans h) (fun pc lv st S hK => ?_)
  cases hK
set_option maxRecDepth 100000 in
theorem ok_Outcomes_lengthOf : zokT 4 [] false 0 0 2 false (some .int) cX4_lengthOf zP_Outcomes_lengthOf = true := by decide +kernel
set_option maxRecDepth 100000 in
theorem s_Outcomes_lengthOf {l : Launch} {HB : Heap} {b L : Nat} {xs : Nat → Int32} {aK aV : Nat → Nat} {G : va_G} {tc : Nat → ClassId} : zSnd l HB b L xs aK aV G tc (zMT.getD 246 zyD) (fun α => zA_vRI_I 4 f_Outcomes_lengthOf) := by
  rw [show zMT.getD 246 zyD = (yX4_lengthOf, cX4_lengthOf, 2, (some .int), 0, 2, 0, 0) from rfl]
  intro α as S k res h
  unfold zA_vRI_I at h
  dsimp only at h
  split at h
  · rename_i a0 a1
    obtain ⟨p, hp, h⟩ := zbind h
    unfold zcl at hp
    split at hp
    · rename_i hkd
      have hm := zmeth (l := l) (HB := HB) (b := b) (L := L) (xs := xs) (aK := aK) (aV := aV) (G := G) (tc := tc) (q := (yX4_lengthOf, cX4_lengthOf, 2, (some .int), 0, 2, 0, 0)) (o := 4) (cs := []) (rz := false) (T := zP_Outcomes_lengthOf) (E := zE_Outcomes_lengthOf (Int32 × zM)) (kr := zkI) (res := p) (v0 := some (.int p.1)) (S0 := p.2) (as := [.ref a0, .int a1]) (S := S) zMT_fine (by decide +kernel) (fun i as S k' h => by
        unfold zE_Outcomes_lengthOf at h
        cases h) ok_Outcomes_lengthOf rfl (fun v S' h => zkI_inv h) (Nat.le_of_ble_eq_true rfl) (fun g H Hw => Hw _ [some (.ref a0), some (.int a1)] _ _ _ ⟨rfl, rfl, trivial⟩ (G_Outcomes_lengthOf H Hw a0 a1 S hp))
      exact ⟨_, _, h, hm.1, rfl, fun _ => ⟨_, _, rfl⟩, (fun _ U H hK hH a r e => by cases e; exact zrecv (ci := 4) (by omega) hkd rfl U H hK hH), hm.2⟩
    · cases hp
  · cases h
def zP_Census_lengthOf : List (List (Nat × zE)) := [[(0, e1 (.aload_n 0) 1 0), (1, e3 (.getfield 12) 4 2 0 2), (4, e1 (.iload_n 1) 5 1), (5, e3 (.invokevirtual 117) 8 0 2 0), (8, e0 (.ireturn) 9)]]
noncomputable def zE_Census_lengthOf (α : Type) : Nat → zX α := fun i => bif Nat.beq i 0 then zA_vRI_I 4 f_Outcomes_lengthOf else fun _ _ _ => none
def zc_Census_lengthOf : Nat → Bool := fun pc => false
set_option maxRecDepth 100000 in
theorem r_Census_lengthOf (a0 : Nat) (a1 : Int32) (S : zM) : f_Census_lengthOf a0 a1 S = zrt false zP_Census_lengthOf (zE_Census_lengthOf (Int32 × zM)) zc_Census_lengthOf zkI (fun pc lv st S => none) 1000 0 [some (.ref a0), some (.int a1)] [] S := rfl
theorem G_Census_lengthOf {g : zV → Nat → List Value → zM → Prop} {res : (Int32 × zM)} (H : zCl false zP_Census_lengthOf (zE_Census_lengthOf (Int32 × zM)) zkI res g) (Hw : zWk g) (a0 : Nat) (a1 : Int32) (S : zM) (h : f_Census_lengthOf a0 a1 S = some res) : g [some (.ref a0), some (.int a1)] 0 [] S := by
  refine H zc_Census_lengthOf _ 1000 _ _ _ _ ((r_Census_lengthOf a0 a1 S).symm.trans h) (fun pc lv st S hK => ?_)
  cases hK
set_option maxRecDepth 100000 in
theorem ok_Census_lengthOf : zokT 2 [246] false 1 21 2 false (some .int) cX2_lengthOf zP_Census_lengthOf = true := by decide +kernel
set_option maxRecDepth 100000 in
theorem s_Census_lengthOf {l : Launch} {HB : Heap} {b L : Nat} {xs : Nat → Int32} {aK aV : Nat → Nat} {G : va_G} {tc : Nat → ClassId} (h0 : zSnd l HB b L xs aK aV G tc (zMT.getD 246 zyD) (fun α => zA_vRI_I 4 f_Outcomes_lengthOf)) : zSnd l HB b L xs aK aV G tc (zMT.getD 247 zyD) (fun α => zA_vRI_I 2 f_Census_lengthOf) := by
  rw [show zMT.getD 247 zyD = (yX2_lengthOf, cX2_lengthOf, 2, (some .int), 0, 2, 1, 21) from rfl]
  intro α as S k res h
  unfold zA_vRI_I at h
  dsimp only at h
  split at h
  · rename_i a0 a1
    obtain ⟨p, hp, h⟩ := zbind h
    unfold zcl at hp
    split at hp
    · rename_i hkd
      have hm := zmeth (l := l) (HB := HB) (b := b) (L := L) (xs := xs) (aK := aK) (aV := aV) (G := G) (tc := tc) (q := (yX2_lengthOf, cX2_lengthOf, 2, (some .int), 0, 2, 1, 21)) (o := 2) (cs := [246]) (rz := false) (T := zP_Census_lengthOf) (E := zE_Census_lengthOf (Int32 × zM)) (kr := zkI) (res := p) (v0 := some (.int p.1)) (S0 := p.2) (as := [.ref a0, .int a1]) (S := S) zMT_fine (by decide +kernel) (fun i as S k' h => by
        unfold zE_Census_lengthOf at h
        rcases zdisf h with ⟨rfl, h⟩ | h
        · exact h0 _ _ _ _ _ h
        cases h) ok_Census_lengthOf rfl (fun v S' h => zkI_inv h) (Nat.le_of_ble_eq_true rfl) (fun g H Hw => Hw _ [some (.ref a0), some (.int a1)] _ _ _ ⟨rfl, rfl, trivial⟩ (G_Census_lengthOf H Hw a0 a1 S hp))
      exact ⟨_, _, h, hm.1, rfl, fun _ => ⟨_, _, rfl⟩, (fun _ U H hK hH a r e => by cases e; exact zrecv (ci := 2) (by omega) hkd rfl U H hK hH), hm.2⟩
    · cases hp
  · cases h
def zP_Census_countFailed : List (List (Nat × zE)) := [[(0, e1 (.aload_n 0) 1 0), (1, e1 (.iload_n 1) 2 1), (2, e3 (.invokevirtual 74) 5 0 2 0), (5, e1 (.istore_n 3) 6 3), (6, ei (.iconst 0) 7 0 (0)), (7, e1 (.istore 4) 9 4), (9, ei (.iconst 0) 10 0 (0)), (10, e1 (.istore 5) 12 5), (12, e1 (.iload 5) 14 5), (14, e1 (.iload_n 3) 15 3), (15, e1 (.if_icmp .ge 30) 18 45)],
  [(18, e1 (.iload 4) 20 4), (20, e1 (.aload_n 0) 21 0), (21, e1 (.iload 5) 23 5), (23, e3 (.invokevirtual 120) 26 1 2 0), (26, e1 (.iload_n 2) 27 2), (27, e0 (.ineg) 28), (28, e1 (.if_icmp .ne 7) 31 35), (31, ei (.iconst 1) 32 0 (1))],
  [(32, e1 (.goto 4) 35 36), (35, ei (.iconst 0) 36 0 (0)), (36, e0 (.iadd) 37), (37, e1 (.istore 4) 39 4), (39, ei (.iinc 5 1) 42 5 (1)), (42, e1 (.goto (-30)) 45 12), (45, e1 (.iload 4) 47 4), (47, e0 (.ireturn) 48)]]
noncomputable def zE_Census_countFailed (α : Type) : Nat → zX α := fun i => bif Nat.beq i 0 then zA_vRI_I 2 f_Census_count else bif Nat.beq i 1 then zA_vRI_I 2 f_Census_lengthOf else fun _ _ _ => none
def zc_Census_countFailed : Nat → Bool := fun pc => Nat.beq pc 12
def D_Census_countFailed_12 (k : Nat → Int32 → Int32 → Int32 → Int32 → zM → Option (Int32 × zM)) (lv : zV) (st : List Value) (S : zM) : Option (Int32 × zM) := match lv, st with
  | [some (.ref a0), _, some (.int a2), some (.int a3), some (.int a4), some (.int a5)], [] => k a0 a2 a3 a4 a5 S
  | _, _ => none
theorem d_Census_countFailed_12 {g : zV → Nat → List Value → zM → Prop} (Hw : zWk g) {k : Nat → Int32 → Int32 → Int32 → Int32 → zM → Option (Int32 × zM)} {res : (Int32 × zM)} {lv : zV} {st : List Value} {S : zM} (h : D_Census_countFailed_12 k lv st S = some res) (hk : ∀ a0 a2 a3 a4 a5 S, k a0 a2 a3 a4 a5 S = some res → g [some (.ref a0), none, some (.int a2), some (.int a3), some (.int a4), some (.int a5)] 12 [] S) : g lv 12 st S := by
  unfold D_Census_countFailed_12 at h
  split at h
  · exact Hw _ _ _ _ _ (by simp [zle]) (hk _ _ _ _ _ _  h)
  · cases h
set_option maxRecDepth 100000 in
theorem r_Census_countFailed_12 (n : Nat) (a0 : Nat) (a2 : Int32) (a3 : Int32) (a4 : Int32) (a5 : Int32) (S : zM) : L_Census_countFailed_12 (n + 1) a0 a2 a3 a4 a5 S = zrt false zP_Census_countFailed (zE_Census_countFailed (Int32 × zM)) zc_Census_countFailed zkI (fun pc lv st S => bif Nat.beq pc 12 then D_Census_countFailed_12 (L_Census_countFailed_12 n) lv st S else none) 1000 12 [some (.ref a0), none, some (.int a2), some (.int a3), some (.int a4), some (.int a5)] [] S := rfl
theorem g_Census_countFailed_12 {g : zV → Nat → List Value → zM → Prop} {res : (Int32 × zM)} (H : zCl false zP_Census_countFailed (zE_Census_countFailed (Int32 × zM)) zkI res g) (Hw : zWk g) (n : Nat) : ∀ (a0 : Nat) (a2 : Int32) (a3 : Int32) (a4 : Int32) (a5 : Int32) (S : zM), L_Census_countFailed_12 n a0 a2 a3 a4 a5 S = some res → g [some (.ref a0), none, some (.int a2), some (.int a3), some (.int a4), some (.int a5)] 12 [] S := by
  induction n with
  | zero => intro a0 a2 a3 a4 a5 S h; cases h
  | succ n ih =>
    intro a0 a2 a3 a4 a5 S h
    refine H zc_Census_countFailed _ 1000 _ _ _ _ ((r_Census_countFailed_12 n a0 a2 a3 a4 a5 S).symm.trans h) (fun pc lv st S hK => ?_)
    rcases zdis hK with ⟨rfl, hK⟩ | hK
    · exact d_Census_countFailed_12 Hw hK ih
    cases hK
set_option maxRecDepth 100000 in
theorem r_Census_countFailed (a0 : Nat) (a1 : Int32) (a2 : Int32) (S : zM) : f_Census_countFailed a0 a1 a2 S = zrt false zP_Census_countFailed (zE_Census_countFailed (Int32 × zM)) zc_Census_countFailed zkI (fun pc lv st S => bif Nat.beq pc 12 then D_Census_countFailed_12 (L_Census_countFailed_12 zF) lv st S else none) 1000 0 [some (.ref a0), some (.int a1), some (.int a2), none, none, none] [] S := rfl
theorem G_Census_countFailed {g : zV → Nat → List Value → zM → Prop} {res : (Int32 × zM)} (H : zCl false zP_Census_countFailed (zE_Census_countFailed (Int32 × zM)) zkI res g) (Hw : zWk g) (a0 : Nat) (a1 : Int32) (a2 : Int32) (S : zM) (h : f_Census_countFailed a0 a1 a2 S = some res) : g [some (.ref a0), some (.int a1), some (.int a2), none, none, none] 0 [] S := by
  refine H zc_Census_countFailed _ 1000 _ _ _ _ ((r_Census_countFailed a0 a1 a2 S).symm.trans h) (fun pc lv st S hK => ?_)
  rcases zdis hK with ⟨rfl, hK⟩ | hK
  · exact d_Census_countFailed_12 Hw hK (g_Census_countFailed_12 H Hw  zF)
  cases hK
set_option maxRecDepth 100000 in
theorem ok_Census_countFailed : zokT 2 [219, 247] false 2 45 6 false (some .int) cX2_countFailed zP_Census_countFailed = true := by decide +kernel
set_option maxRecDepth 100000 in
theorem s_Census_countFailed {l : Launch} {HB : Heap} {b L : Nat} {xs : Nat → Int32} {aK aV : Nat → Nat} {G : va_G} {tc : Nat → ClassId} (h0 : zSnd l HB b L xs aK aV G tc (zMT.getD 219 zyD) (fun α => zA_vRI_I 2 f_Census_count)) (h1 : zSnd l HB b L xs aK aV G tc (zMT.getD 247 zyD) (fun α => zA_vRI_I 2 f_Census_lengthOf)) : zSnd l HB b L xs aK aV G tc (zMT.getD 248 zyD) (fun α => zA_vRII_I 2 f_Census_countFailed) := by
  rw [show zMT.getD 248 zyD = (yX2_countFailed, cX2_countFailed, 6, (some .int), 0, 3, 2, 45) from rfl]
  intro α as S k res h
  unfold zA_vRII_I at h
  dsimp only at h
  split at h
  · rename_i a0 a1 a2
    obtain ⟨p, hp, h⟩ := zbind h
    unfold zcl at hp
    split at hp
    · rename_i hkd
      have hm := zmeth (l := l) (HB := HB) (b := b) (L := L) (xs := xs) (aK := aK) (aV := aV) (G := G) (tc := tc) (q := (yX2_countFailed, cX2_countFailed, 6, (some .int), 0, 3, 2, 45)) (o := 2) (cs := [219, 247]) (rz := false) (T := zP_Census_countFailed) (E := zE_Census_countFailed (Int32 × zM)) (kr := zkI) (res := p) (v0 := some (.int p.1)) (S0 := p.2) (as := [.ref a0, .int a1, .int a2]) (S := S) zMT_fine (by decide +kernel) (fun i as S k' h => by
        unfold zE_Census_countFailed at h
        rcases zdisf h with ⟨rfl, h⟩ | h
        · exact h0 _ _ _ _ _ h
        rcases zdisf h with ⟨rfl, h⟩ | h
        · exact h1 _ _ _ _ _ h
        cases h) ok_Census_countFailed rfl (fun v S' h => zkI_inv h) (Nat.le_of_ble_eq_true rfl) (fun g H Hw => Hw _ [some (.ref a0), some (.int a1), some (.int a2), none, none, none] _ _ _ ⟨rfl, rfl, rfl, trivial⟩ (G_Census_countFailed H Hw a0 a1 a2 S hp))
      exact ⟨_, _, h, hm.1, rfl, fun _ => ⟨_, _, rfl⟩, (fun _ U H hK hH a r e => by cases e; exact zrecv (ci := 2) (by omega) hkd rfl U H hK hH), hm.2⟩
    · cases hp
  · cases h
def zP_Cl_fails : List (List (Nat × zE)) := [[(0, e1 (.aload_n 0) 1 0), (1, e1 (.iload_n 1) 2 1), (2, e1 (.iload_n 2) 3 2), (3, e1 (.ifCond .eq 8) 6 11), (6, e1 (.iload_n 2) 7 2), (7, ei (.iconst 1) 8 0 (1)), (8, e1 (.if_icmp .ne 7) 11 15), (11, ei (.iconst 1) 12 0 (1)), (12, e1 (.goto 4) 15 16), (15, ei (.iconst 0) 16 0 (0))],
  [(16, e3 (.invokevirtual 258) 19 0 3 0), (19, e1 (.istore_n 3) 20 3), (20, e1 (.iload_n 3) 21 3), (21, e1 (.ifCond .eq 9) 24 30), (24, e1 (.aload_n 0) 25 0), (25, e1 (.iload_n 3) 26 3), (26, e3 (.invokevirtual 79) 29 1 2 0), (29, e0 (.ireturn) 30), (30, e1 (.aload_n 0) 31 0), (31, e1 (.aload_n 0) 32 0)],
  [(32, e1 (.iload_n 1) 33 1), (33, e3 (.invokevirtual 265) 36 2 2 0), (36, e1 (.iload_n 1) 37 1), (37, e1 (.iload_n 2) 38 2), (38, e1 (.ifCond .ne 8) 41 46), (41, ei (.bipush 6) 43 0 (6)), (43, e1 (.goto 5) 46 48), (46, ei (.bipush 7) 48 0 (7))],
  [(48, e3 (.invokevirtual 284) 51 3 3 0), (51, e3 (.invokevirtual 109) 54 4 2 0), (54, e0 (.ireturn) 55)]]
noncomputable def zE_Cl_fails (α : Type) : Nat → zX α := fun i => bif Nat.beq i 0 then zA_vRII_I 11 f_Cl_troubleUpTo else bif Nat.beq i 1 then zA_vRI_I 11 f_Cl_refuse else bif Nat.beq i 2 then zA_vRI_R 11 f_Cl_censusUpTo else bif Nat.beq i 3 then zA_vRII_I 2 f_Census_countFailed else bif Nat.beq i 4 then zA_vRI_I 11 f_Cl_answer else fun _ _ _ => none
def zc_Cl_fails : Nat → Bool := fun pc => false
set_option maxRecDepth 100000 in
theorem r_Cl_fails (a0 : Nat) (a1 : Int32) (a2 : Int32) (S : zM) : f_Cl_fails a0 a1 a2 S = zrt false zP_Cl_fails (zE_Cl_fails (Int32 × zM)) zc_Cl_fails zkI (fun pc lv st S => none) 1000 0 [some (.ref a0), some (.int a1), some (.int a2), none] [] S := rfl
theorem G_Cl_fails {g : zV → Nat → List Value → zM → Prop} {res : (Int32 × zM)} (H : zCl false zP_Cl_fails (zE_Cl_fails (Int32 × zM)) zkI res g) (Hw : zWk g) (a0 : Nat) (a1 : Int32) (a2 : Int32) (S : zM) (h : f_Cl_fails a0 a1 a2 S = some res) : g [some (.ref a0), some (.int a1), some (.int a2), none] 0 [] S := by
  refine H zc_Cl_fails _ 1000 _ _ _ _ ((r_Cl_fails a0 a1 a2 S).symm.trans h) (fun pc lv st S hK => ?_)
  cases hK
set_option maxRecDepth 100000 in
theorem ok_Cl_fails : zokT 11 [210, 16, 227, 248, 59] false 7 212 4 false (some .int) cX11_fails zP_Cl_fails = true := by decide +kernel
set_option maxRecDepth 100000 in
theorem s_Cl_fails {l : Launch} {HB : Heap} {b L : Nat} {xs : Nat → Int32} {aK aV : Nat → Nat} {G : va_G} {tc : Nat → ClassId} (h0 : zSnd l HB b L xs aK aV G tc (zMT.getD 210 zyD) (fun α => zA_vRII_I 11 f_Cl_troubleUpTo)) (h1 : zSnd l HB b L xs aK aV G tc (zMT.getD 16 zyD) (fun α => zA_vRI_I 11 f_Cl_refuse)) (h2 : zSnd l HB b L xs aK aV G tc (zMT.getD 227 zyD) (fun α => zA_vRI_R 11 f_Cl_censusUpTo)) (h3 : zSnd l HB b L xs aK aV G tc (zMT.getD 248 zyD) (fun α => zA_vRII_I 2 f_Census_countFailed)) (h4 : zSnd l HB b L xs aK aV G tc (zMT.getD 59 zyD) (fun α => zA_vRI_I 11 f_Cl_answer)) : zSnd l HB b L xs aK aV G tc (zMT.getD 249 zyD) (fun α => zA_vRII_I 11 f_Cl_fails) := by
  rw [show zMT.getD 249 zyD = (yX11_fails, cX11_fails, 4, (some .int), 0, 3, 7, 212) from rfl]
  intro α as S k res h
  unfold zA_vRII_I at h
  dsimp only at h
  split at h
  · rename_i a0 a1 a2
    obtain ⟨p, hp, h⟩ := zbind h
    unfold zcl at hp
    split at hp
    · rename_i hkd
      have hm := zmeth (l := l) (HB := HB) (b := b) (L := L) (xs := xs) (aK := aK) (aV := aV) (G := G) (tc := tc) (q := (yX11_fails, cX11_fails, 4, (some .int), 0, 3, 7, 212)) (o := 11) (cs := [210, 16, 227, 248, 59]) (rz := false) (T := zP_Cl_fails) (E := zE_Cl_fails (Int32 × zM)) (kr := zkI) (res := p) (v0 := some (.int p.1)) (S0 := p.2) (as := [.ref a0, .int a1, .int a2]) (S := S) zMT_fine (by decide +kernel) (fun i as S k' h => by
        unfold zE_Cl_fails at h
        rcases zdisf h with ⟨rfl, h⟩ | h
        · exact h0 _ _ _ _ _ h
        rcases zdisf h with ⟨rfl, h⟩ | h
        · exact h1 _ _ _ _ _ h
        rcases zdisf h with ⟨rfl, h⟩ | h
        · exact h2 _ _ _ _ _ h
        rcases zdisf h with ⟨rfl, h⟩ | h
        · exact h3 _ _ _ _ _ h
        rcases zdisf h with ⟨rfl, h⟩ | h
        · exact h4 _ _ _ _ _ h
        cases h) ok_Cl_fails rfl (fun v S' h => zkI_inv h) (Nat.le_of_ble_eq_true rfl) (fun g H Hw => Hw _ [some (.ref a0), some (.int a1), some (.int a2), none] _ _ _ ⟨rfl, rfl, rfl, trivial⟩ (G_Cl_fails H Hw a0 a1 a2 S hp))
      exact ⟨_, _, h, hm.1, rfl, fun _ => ⟨_, _, rfl⟩, (fun _ U H hK hH a r e => by cases e; exact zrecv (ci := 11) (by omega) hkd rfl U H hK hH), hm.2⟩
    · cases hp
  · cases h
def zP_Mo_fails : List (List (Nat × zE)) := [[(0, e1 (.aload_n 0) 1 0), (1, e1 (.aload_n 0) 2 0), (2, e1 (.iload_n 2) 3 2), (3, ei (.iconst 0) 4 0 (0)), (4, ei (.iconst 1) 5 0 (1)), (5, e3 (.invokestatic 156) 8 0 3 0), (8, e1 (.iload_n 1) 9 1), (9, e3 (.invokevirtual 454) 12 1 3 0), (12, e3 (.invokevirtual 458) 15 2 2 0), (15, e1 (.ifCond .eq 5) 18 20)],
  [(18, ei (.iconst (-1)) 19 0 (-1)), (19, e0 (.ireturn) 20), (20, e1 (.aload_n 0) 21 0), (21, e1 (.iload_n 1) 22 1), (22, e3 (.invokevirtual 448) 25 3 2 0), (25, ei (.iconst 0) 26 0 (0)), (26, e1 (.istore_n 3) 27 3), (27, ei (.iconst 0) 28 0 (0)), (28, e1 (.istore 4) 30 4), (30, e1 (.iload 4) 32 4)],
  [(32, e1 (.aload_n 0) 33 0), (33, e3 (.getfield 438) 36 12 61 0), (36, e1 (.if_icmp .ge 31) 39 67), (39, e1 (.iload_n 3) 40 3), (40, e1 (.aload_n 0) 41 0), (41, e3 (.getfield 109) 44 12 58 2), (44, e1 (.iload 4) 46 4), (46, e0 (.iaload) 47), (47, ei (.bipush 6) 49 0 (6))],
  [(49, e1 (.iload_n 2) 50 2), (50, e0 (.iadd) 51), (51, e1 (.if_icmp .ne 7) 54 58), (54, ei (.iconst 1) 55 0 (1)), (55, e1 (.goto 4) 58 59), (58, ei (.iconst 0) 59 0 (0)), (59, e0 (.iadd) 60), (60, e1 (.istore_n 3) 61 3), (61, ei (.iinc 4 1) 64 4 (1))],
  [(64, e1 (.goto (-34)) 67 30), (67, e1 (.iload_n 3) 68 3), (68, e0 (.ireturn) 69)]]
noncomputable def zE_Mo_fails (α : Type) : Nat → zX α := fun i => bif Nat.beq i 0 then zA_III_I f_Mo_in else bif Nat.beq i 1 then zA_vRII_I 12 f_Mo_wordsWhy else bif Nat.beq i 2 then zA_vRI_I 12 f_Mo_isRefused else bif Nat.beq i 3 then zA_vRI_V 12 f_Mo_laysWords else fun _ _ _ => none
def zc_Mo_fails : Nat → Bool := fun pc => Nat.beq pc 30
def D_Mo_fails_30 (k : Nat → Int32 → Int32 → Int32 → zM → Option (Int32 × zM)) (lv : zV) (st : List Value) (S : zM) : Option (Int32 × zM) := match lv, st with
  | [some (.ref a0), _, some (.int a2), some (.int a3), some (.int a4)], [] => k a0 a2 a3 a4 S
  | _, _ => none
theorem d_Mo_fails_30 {g : zV → Nat → List Value → zM → Prop} (Hw : zWk g) {k : Nat → Int32 → Int32 → Int32 → zM → Option (Int32 × zM)} {res : (Int32 × zM)} {lv : zV} {st : List Value} {S : zM} (h : D_Mo_fails_30 k lv st S = some res) (hk : ∀ a0 a2 a3 a4 S, k a0 a2 a3 a4 S = some res → g [some (.ref a0), none, some (.int a2), some (.int a3), some (.int a4)] 30 [] S) : g lv 30 st S := by
  unfold D_Mo_fails_30 at h
  split at h
  · exact Hw _ _ _ _ _ (by simp [zle]) (hk _ _ _ _ _  h)
  · cases h
set_option maxRecDepth 100000 in
theorem r_Mo_fails_30 (n : Nat) (a0 : Nat) (a2 : Int32) (a3 : Int32) (a4 : Int32) (S : zM) : L_Mo_fails_30 (n + 1) a0 a2 a3 a4 S = zrt false zP_Mo_fails (zE_Mo_fails (Int32 × zM)) zc_Mo_fails zkI (fun pc lv st S => bif Nat.beq pc 30 then D_Mo_fails_30 (L_Mo_fails_30 n) lv st S else none) 1000 30 [some (.ref a0), none, some (.int a2), some (.int a3), some (.int a4)] [] S := rfl
theorem g_Mo_fails_30 {g : zV → Nat → List Value → zM → Prop} {res : (Int32 × zM)} (H : zCl false zP_Mo_fails (zE_Mo_fails (Int32 × zM)) zkI res g) (Hw : zWk g) (n : Nat) : ∀ (a0 : Nat) (a2 : Int32) (a3 : Int32) (a4 : Int32) (S : zM), L_Mo_fails_30 n a0 a2 a3 a4 S = some res → g [some (.ref a0), none, some (.int a2), some (.int a3), some (.int a4)] 30 [] S := by
  induction n with
  | zero => intro a0 a2 a3 a4 S h; cases h
  | succ n ih =>
    intro a0 a2 a3 a4 S h
    refine H zc_Mo_fails _ 1000 _ _ _ _ ((r_Mo_fails_30 n a0 a2 a3 a4 S).symm.trans h) (fun pc lv st S hK => ?_)
    rcases zdis hK with ⟨rfl, hK⟩ | hK
    · exact d_Mo_fails_30 Hw hK ih
    cases hK
set_option maxRecDepth 100000 in
theorem r_Mo_fails (a0 : Nat) (a1 : Int32) (a2 : Int32) (S : zM) : f_Mo_fails a0 a1 a2 S = zrt false zP_Mo_fails (zE_Mo_fails (Int32 × zM)) zc_Mo_fails zkI (fun pc lv st S => bif Nat.beq pc 30 then D_Mo_fails_30 (L_Mo_fails_30 zF) lv st S else none) 1000 0 [some (.ref a0), some (.int a1), some (.int a2), none, none] [] S := rfl
theorem G_Mo_fails {g : zV → Nat → List Value → zM → Prop} {res : (Int32 × zM)} (H : zCl false zP_Mo_fails (zE_Mo_fails (Int32 × zM)) zkI res g) (Hw : zWk g) (a0 : Nat) (a1 : Int32) (a2 : Int32) (S : zM) (h : f_Mo_fails a0 a1 a2 S = some res) : g [some (.ref a0), some (.int a1), some (.int a2), none, none] 0 [] S := by
  refine H zc_Mo_fails _ 1000 _ _ _ _ ((r_Mo_fails a0 a1 a2 S).symm.trans h) (fun pc lv st S hK => ?_)
  rcases zdis hK with ⟨rfl, hK⟩ | hK
  · exact d_Mo_fails_30 Hw hK (g_Mo_fails_30 H Hw  zF)
  cases hK
set_option maxRecDepth 100000 in
theorem ok_Mo_fails : zokT 12 [62, 213, 214, 233] false 8 196 5 false (some .int) cX12_fails zP_Mo_fails = true := by decide +kernel
set_option maxRecDepth 100000 in
theorem s_Mo_fails {l : Launch} {HB : Heap} {b L : Nat} {xs : Nat → Int32} {aK aV : Nat → Nat} {G : va_G} {tc : Nat → ClassId} (h0 : zSnd l HB b L xs aK aV G tc (zMT.getD 62 zyD) (fun α => zA_III_I f_Mo_in)) (h1 : zSnd l HB b L xs aK aV G tc (zMT.getD 213 zyD) (fun α => zA_vRII_I 12 f_Mo_wordsWhy)) (h2 : zSnd l HB b L xs aK aV G tc (zMT.getD 214 zyD) (fun α => zA_vRI_I 12 f_Mo_isRefused)) (h3 : zSnd l HB b L xs aK aV G tc (zMT.getD 233 zyD) (fun α => zA_vRI_V 12 f_Mo_laysWords)) : zSnd l HB b L xs aK aV G tc (zMT.getD 250 zyD) (fun α => zA_vRII_I 12 f_Mo_fails) := by
  rw [show zMT.getD 250 zyD = (yX12_fails, cX12_fails, 5, (some .int), 0, 3, 8, 196) from rfl]
  intro α as S k res h
  unfold zA_vRII_I at h
  dsimp only at h
  split at h
  · rename_i a0 a1 a2
    obtain ⟨p, hp, h⟩ := zbind h
    unfold zcl at hp
    split at hp
    · rename_i hkd
      have hm := zmeth (l := l) (HB := HB) (b := b) (L := L) (xs := xs) (aK := aK) (aV := aV) (G := G) (tc := tc) (q := (yX12_fails, cX12_fails, 5, (some .int), 0, 3, 8, 196)) (o := 12) (cs := [62, 213, 214, 233]) (rz := false) (T := zP_Mo_fails) (E := zE_Mo_fails (Int32 × zM)) (kr := zkI) (res := p) (v0 := some (.int p.1)) (S0 := p.2) (as := [.ref a0, .int a1, .int a2]) (S := S) zMT_fine (by decide +kernel) (fun i as S k' h => by
        unfold zE_Mo_fails at h
        rcases zdisf h with ⟨rfl, h⟩ | h
        · exact h0 _ _ _ _ _ h
        rcases zdisf h with ⟨rfl, h⟩ | h
        · exact h1 _ _ _ _ _ h
        rcases zdisf h with ⟨rfl, h⟩ | h
        · exact h2 _ _ _ _ _ h
        rcases zdisf h with ⟨rfl, h⟩ | h
        · exact h3 _ _ _ _ _ h
        cases h) ok_Mo_fails rfl (fun v S' h => zkI_inv h) (Nat.le_of_ble_eq_true rfl) (fun g H Hw => Hw _ [some (.ref a0), some (.int a1), some (.int a2), none, none] _ _ _ ⟨rfl, rfl, rfl, trivial⟩ (G_Mo_fails H Hw a0 a1 a2 S hp))
      exact ⟨_, _, h, hm.1, rfl, fun _ => ⟨_, _, rfl⟩, (fun _ U H hK hH a r e => by cases e; exact zrecv (ci := 12) (by omega) hkd rfl U H hK hH), hm.2⟩
    · cases hp
  · cases h
def zP_Census_firstFailed : List (List (Nat × zE)) := [[(0, e1 (.aload_n 0) 1 0), (1, e1 (.iload_n 1) 2 1), (2, e3 (.invokevirtual 74) 5 0 2 0), (5, e1 (.istore_n 3) 6 3), (6, ei (.iconst 0) 7 0 (0)), (7, e1 (.istore 4) 9 4), (9, e1 (.iload 4) 11 4), (11, e1 (.iload_n 3) 12 3), (12, e1 (.if_icmp .ge 23) 15 35), (15, e1 (.aload_n 0) 16 0)],
  [(16, e1 (.iload 4) 18 4), (18, e3 (.invokevirtual 120) 21 1 2 0), (21, e1 (.iload_n 2) 22 2), (22, e0 (.ineg) 23), (23, e1 (.if_icmp .ne 6) 26 29), (26, e1 (.iload 4) 28 4), (28, e0 (.ireturn) 29), (29, ei (.iinc 4 1) 32 4 (1))],
  [(32, e1 (.goto (-23)) 35 9), (35, ei (.iconst (-1)) 36 0 (-1)), (36, e0 (.ireturn) 37)]]
noncomputable def zE_Census_firstFailed (α : Type) : Nat → zX α := fun i => bif Nat.beq i 0 then zA_vRI_I 2 f_Census_count else bif Nat.beq i 1 then zA_vRI_I 2 f_Census_lengthOf else fun _ _ _ => none
def zc_Census_firstFailed : Nat → Bool := fun pc => Nat.beq pc 9
def D_Census_firstFailed_9 (k : Nat → Int32 → Int32 → Int32 → zM → Option (Int32 × zM)) (lv : zV) (st : List Value) (S : zM) : Option (Int32 × zM) := match lv, st with
  | [some (.ref a0), _, some (.int a2), some (.int a3), some (.int a4)], [] => k a0 a2 a3 a4 S
  | _, _ => none
theorem d_Census_firstFailed_9 {g : zV → Nat → List Value → zM → Prop} (Hw : zWk g) {k : Nat → Int32 → Int32 → Int32 → zM → Option (Int32 × zM)} {res : (Int32 × zM)} {lv : zV} {st : List Value} {S : zM} (h : D_Census_firstFailed_9 k lv st S = some res) (hk : ∀ a0 a2 a3 a4 S, k a0 a2 a3 a4 S = some res → g [some (.ref a0), none, some (.int a2), some (.int a3), some (.int a4)] 9 [] S) : g lv 9 st S := by
  unfold D_Census_firstFailed_9 at h
  split at h
  · exact Hw _ _ _ _ _ (by simp [zle]) (hk _ _ _ _ _  h)
  · cases h
set_option maxRecDepth 100000 in
theorem r_Census_firstFailed_9 (n : Nat) (a0 : Nat) (a2 : Int32) (a3 : Int32) (a4 : Int32) (S : zM) : L_Census_firstFailed_9 (n + 1) a0 a2 a3 a4 S = zrt false zP_Census_firstFailed (zE_Census_firstFailed (Int32 × zM)) zc_Census_firstFailed zkI (fun pc lv st S => bif Nat.beq pc 9 then D_Census_firstFailed_9 (L_Census_firstFailed_9 n) lv st S else none) 1000 9 [some (.ref a0), none, some (.int a2), some (.int a3), some (.int a4)] [] S := rfl
theorem g_Census_firstFailed_9 {g : zV → Nat → List Value → zM → Prop} {res : (Int32 × zM)} (H : zCl false zP_Census_firstFailed (zE_Census_firstFailed (Int32 × zM)) zkI res g) (Hw : zWk g) (n : Nat) : ∀ (a0 : Nat) (a2 : Int32) (a3 : Int32) (a4 : Int32) (S : zM), L_Census_firstFailed_9 n a0 a2 a3 a4 S = some res → g [some (.ref a0), none, some (.int a2), some (.int a3), some (.int a4)] 9 [] S := by
  induction n with
  | zero => intro a0 a2 a3 a4 S h; cases h
  | succ n ih =>
    intro a0 a2 a3 a4 S h
    refine H zc_Census_firstFailed _ 1000 _ _ _ _ ((r_Census_firstFailed_9 n a0 a2 a3 a4 S).symm.trans h) (fun pc lv st S hK => ?_)
    rcases zdis hK with ⟨rfl, hK⟩ | hK
    · exact d_Census_firstFailed_9 Hw hK ih
    cases hK
set_option maxRecDepth 100000 in
theorem r_Census_firstFailed (a0 : Nat) (a1 : Int32) (a2 : Int32) (S : zM) : f_Census_firstFailed a0 a1 a2 S = zrt false zP_Census_firstFailed (zE_Census_firstFailed (Int32 × zM)) zc_Census_firstFailed zkI (fun pc lv st S => bif Nat.beq pc 9 then D_Census_firstFailed_9 (L_Census_firstFailed_9 zF) lv st S else none) 1000 0 [some (.ref a0), some (.int a1), some (.int a2), none, none] [] S := rfl
theorem G_Census_firstFailed {g : zV → Nat → List Value → zM → Prop} {res : (Int32 × zM)} (H : zCl false zP_Census_firstFailed (zE_Census_firstFailed (Int32 × zM)) zkI res g) (Hw : zWk g) (a0 : Nat) (a1 : Int32) (a2 : Int32) (S : zM) (h : f_Census_firstFailed a0 a1 a2 S = some res) : g [some (.ref a0), some (.int a1), some (.int a2), none, none] 0 [] S := by
  refine H zc_Census_firstFailed _ 1000 _ _ _ _ ((r_Census_firstFailed a0 a1 a2 S).symm.trans h) (fun pc lv st S hK => ?_)
  rcases zdis hK with ⟨rfl, hK⟩ | hK
  · exact d_Census_firstFailed_9 Hw hK (g_Census_firstFailed_9 H Hw  zF)
  cases hK
set_option maxRecDepth 100000 in
theorem ok_Census_firstFailed : zokT 2 [219, 247] false 2 45 5 false (some .int) cX2_firstFailed zP_Census_firstFailed = true := by decide +kernel
set_option maxRecDepth 100000 in
theorem s_Census_firstFailed {l : Launch} {HB : Heap} {b L : Nat} {xs : Nat → Int32} {aK aV : Nat → Nat} {G : va_G} {tc : Nat → ClassId} (h0 : zSnd l HB b L xs aK aV G tc (zMT.getD 219 zyD) (fun α => zA_vRI_I 2 f_Census_count)) (h1 : zSnd l HB b L xs aK aV G tc (zMT.getD 247 zyD) (fun α => zA_vRI_I 2 f_Census_lengthOf)) : zSnd l HB b L xs aK aV G tc (zMT.getD 251 zyD) (fun α => zA_vRII_I 2 f_Census_firstFailed) := by
  rw [show zMT.getD 251 zyD = (yX2_firstFailed, cX2_firstFailed, 5, (some .int), 0, 3, 2, 45) from rfl]
  intro α as S k res h
  unfold zA_vRII_I at h
  dsimp only at h
  split at h
  · rename_i a0 a1 a2
    obtain ⟨p, hp, h⟩ := zbind h
    unfold zcl at hp
    split at hp
    · rename_i hkd
      have hm := zmeth (l := l) (HB := HB) (b := b) (L := L) (xs := xs) (aK := aK) (aV := aV) (G := G) (tc := tc) (q := (yX2_firstFailed, cX2_firstFailed, 5, (some .int), 0, 3, 2, 45)) (o := 2) (cs := [219, 247]) (rz := false) (T := zP_Census_firstFailed) (E := zE_Census_firstFailed (Int32 × zM)) (kr := zkI) (res := p) (v0 := some (.int p.1)) (S0 := p.2) (as := [.ref a0, .int a1, .int a2]) (S := S) zMT_fine (by decide +kernel) (fun i as S k' h => by
        unfold zE_Census_firstFailed at h
        rcases zdisf h with ⟨rfl, h⟩ | h
        · exact h0 _ _ _ _ _ h
        rcases zdisf h with ⟨rfl, h⟩ | h
        · exact h1 _ _ _ _ _ h
        cases h) ok_Census_firstFailed rfl (fun v S' h => zkI_inv h) (Nat.le_of_ble_eq_true rfl) (fun g H Hw => Hw _ [some (.ref a0), some (.int a1), some (.int a2), none, none] _ _ _ ⟨rfl, rfl, rfl, trivial⟩ (G_Census_firstFailed H Hw a0 a1 a2 S hp))
      exact ⟨_, _, h, hm.1, rfl, fun _ => ⟨_, _, rfl⟩, (fun _ U H hK hH a r e => by cases e; exact zrecv (ci := 2) (by omega) hkd rfl U H hK hH), hm.2⟩
    · cases hp
  · cases h
def zP_Cl_firstFail : List (List (Nat × zE)) := [[(0, e1 (.aload_n 0) 1 0), (1, e1 (.iload_n 1) 2 1), (2, e1 (.iload_n 2) 3 2), (3, e1 (.ifCond .eq 8) 6 11), (6, e1 (.iload_n 2) 7 2), (7, ei (.iconst 1) 8 0 (1)), (8, e1 (.if_icmp .ne 7) 11 15), (11, ei (.iconst 1) 12 0 (1)), (12, e1 (.goto 4) 15 16), (15, ei (.iconst 0) 16 0 (0))],
  [(16, e3 (.invokevirtual 258) 19 0 3 0), (19, e1 (.istore_n 3) 20 3), (20, e1 (.iload_n 3) 21 3), (21, e1 (.ifCond .eq 10) 24 31), (24, e1 (.aload_n 0) 25 0), (25, e1 (.iload_n 3) 26 3), (26, e3 (.invokevirtual 79) 29 1 2 0), (29, e0 (.i2l) 30), (30, e0 (.lreturn) 31), (31, e1 (.aload_n 0) 32 0)],
  [(32, e1 (.iload_n 1) 33 1), (33, e3 (.invokevirtual 265) 36 2 2 0), (36, e1 (.astore 4) 38 4), (38, e1 (.aload 4) 40 4), (40, e1 (.iload_n 1) 41 1), (41, e1 (.iload_n 2) 42 2), (42, e1 (.ifCond .ne 8) 45 50), (45, ei (.bipush 6) 47 0 (6)), (47, e1 (.goto 5) 50 52)],
  [(50, ei (.bipush 7) 52 0 (7)), (52, e3 (.invokevirtual 287) 55 3 3 0), (55, e1 (.istore 5) 57 5), (57, e1 (.iload 5) 59 5), (59, ei (.iconst (-1)) 60 0 (-1)), (60, e1 (.if_icmp .ne 12) 63 72), (63, e1 (.aload_n 0) 64 0)],
  [(64, ei (.iconst 5) 65 0 (5)), (65, e3 (.invokevirtual 79) 68 1 2 0), (68, e0 (.i2l) 69), (69, e1 (.goto 11) 72 80), (72, e1 (.aload_n 0) 73 0), (73, e1 (.aload 4) 75 4), (75, e1 (.iload 5) 77 5), (77, e3 (.invokevirtual 277) 80 4 3 0)],
  [(80, e0 (.lreturn) 81)]]
noncomputable def zE_Cl_firstFail (α : Type) : Nat → zX α := fun i => bif Nat.beq i 0 then zA_vRII_I 11 f_Cl_troubleUpTo else bif Nat.beq i 1 then zA_vRI_I 11 f_Cl_refuse else bif Nat.beq i 2 then zA_vRI_R 11 f_Cl_censusUpTo else bif Nat.beq i 3 then zA_vRII_I 2 f_Census_firstFailed else bif Nat.beq i 4 then zA_vRRI_J 11 f_Cl_answerWord else fun _ _ _ => none
def zc_Cl_firstFail : Nat → Bool := fun pc => false
set_option maxRecDepth 100000 in
theorem r_Cl_firstFail (a0 : Nat) (a1 : Int32) (a2 : Int32) (S : zM) : f_Cl_firstFail a0 a1 a2 S = zrt false zP_Cl_firstFail (zE_Cl_firstFail (Int64 × zM)) zc_Cl_firstFail zkJ (fun pc lv st S => none) 1000 0 [some (.ref a0), some (.int a1), some (.int a2), none, none, none] [] S := rfl
theorem G_Cl_firstFail {g : zV → Nat → List Value → zM → Prop} {res : (Int64 × zM)} (H : zCl false zP_Cl_firstFail (zE_Cl_firstFail (Int64 × zM)) zkJ res g) (Hw : zWk g) (a0 : Nat) (a1 : Int32) (a2 : Int32) (S : zM) (h : f_Cl_firstFail a0 a1 a2 S = some res) : g [some (.ref a0), some (.int a1), some (.int a2), none, none, none] 0 [] S := by
  refine H zc_Cl_firstFail _ 1000 _ _ _ _ ((r_Cl_firstFail a0 a1 a2 S).symm.trans h) (fun pc lv st S hK => ?_)
  cases hK
set_option maxRecDepth 100000 in
theorem ok_Cl_firstFail : zokT 11 [210, 16, 227, 251, 239] false 7 212 6 false (some .long) cX11_firstFail zP_Cl_firstFail = true := by decide +kernel
set_option maxRecDepth 100000 in
theorem s_Cl_firstFail {l : Launch} {HB : Heap} {b L : Nat} {xs : Nat → Int32} {aK aV : Nat → Nat} {G : va_G} {tc : Nat → ClassId} (h0 : zSnd l HB b L xs aK aV G tc (zMT.getD 210 zyD) (fun α => zA_vRII_I 11 f_Cl_troubleUpTo)) (h1 : zSnd l HB b L xs aK aV G tc (zMT.getD 16 zyD) (fun α => zA_vRI_I 11 f_Cl_refuse)) (h2 : zSnd l HB b L xs aK aV G tc (zMT.getD 227 zyD) (fun α => zA_vRI_R 11 f_Cl_censusUpTo)) (h3 : zSnd l HB b L xs aK aV G tc (zMT.getD 251 zyD) (fun α => zA_vRII_I 2 f_Census_firstFailed)) (h4 : zSnd l HB b L xs aK aV G tc (zMT.getD 239 zyD) (fun α => zA_vRRI_J 11 f_Cl_answerWord)) : zSnd l HB b L xs aK aV G tc (zMT.getD 252 zyD) (fun α => zA_vRII_J 11 f_Cl_firstFail) := by
  rw [show zMT.getD 252 zyD = (yX11_firstFail, cX11_firstFail, 6, (some .long), 0, 3, 7, 212) from rfl]
  intro α as S k res h
  unfold zA_vRII_J at h
  dsimp only at h
  split at h
  · rename_i a0 a1 a2
    obtain ⟨p, hp, h⟩ := zbind h
    unfold zcl at hp
    split at hp
    · rename_i hkd
      have hm := zmeth (l := l) (HB := HB) (b := b) (L := L) (xs := xs) (aK := aK) (aV := aV) (G := G) (tc := tc) (q := (yX11_firstFail, cX11_firstFail, 6, (some .long), 0, 3, 7, 212)) (o := 11) (cs := [210, 16, 227, 251, 239]) (rz := false) (T := zP_Cl_firstFail) (E := zE_Cl_firstFail (Int64 × zM)) (kr := zkJ) (res := p) (v0 := some (.long p.1)) (S0 := p.2) (as := [.ref a0, .int a1, .int a2]) (S := S) zMT_fine (by decide +kernel) (fun i as S k' h => by
        unfold zE_Cl_firstFail at h
        rcases zdisf h with ⟨rfl, h⟩ | h
        · exact h0 _ _ _ _ _ h
        rcases zdisf h with ⟨rfl, h⟩ | h
        · exact h1 _ _ _ _ _ h
        rcases zdisf h with ⟨rfl, h⟩ | h
        · exact h2 _ _ _ _ _ h
        rcases zdisf h with ⟨rfl, h⟩ | h
        · exact h3 _ _ _ _ _ h
        rcases zdisf h with ⟨rfl, h⟩ | h
        · exact h4 _ _ _ _ _ h
        cases h) ok_Cl_firstFail rfl (fun v S' h => zkJ_inv h) (Nat.le_of_ble_eq_true rfl) (fun g H Hw => Hw _ [some (.ref a0), some (.int a1), some (.int a2), none, none, none] _ _ _ ⟨rfl, rfl, rfl, trivial⟩ (G_Cl_firstFail H Hw a0 a1 a2 S hp))
      exact ⟨_, _, h, hm.1, rfl, fun _ => ⟨_, _, rfl⟩, (fun _ U H hK hH a r e => by cases e; exact zrecv (ci := 11) (by omega) hkd rfl U H hK hH), hm.2⟩
    · cases hp
  · cases h
def zP_Mo_firstFail : List (List (Nat × zE)) := [[(0, e1 (.aload_n 0) 1 0), (1, e1 (.aload_n 0) 2 0), (2, e1 (.iload_n 2) 3 2), (3, ei (.iconst 0) 4 0 (0)), (4, ei (.iconst 1) 5 0 (1)), (5, e3 (.invokestatic 156) 8 0 3 0), (8, e1 (.iload_n 1) 9 1), (9, e3 (.invokevirtual 454) 12 1 3 0), (12, e3 (.invokevirtual 458) 15 2 2 0), (15, e1 (.ifCond .eq 7) 18 22)],
  [(18, ej (.ldc2_w 464) 21 (-1)), (21, e0 (.lreturn) 22), (22, e1 (.aload_n 0) 23 0), (23, e1 (.iload_n 1) 24 1), (24, e3 (.invokevirtual 448) 27 3 2 0), (27, ei (.iconst 0) 28 0 (0)), (28, e1 (.istore_n 3) 29 3), (29, e1 (.iload_n 3) 30 3), (30, e1 (.aload_n 0) 31 0), (31, e3 (.getfield 438) 34 12 61 0)],
  [(34, e1 (.if_icmp .ge 28) 37 62), (37, e1 (.aload_n 0) 38 0), (38, e3 (.getfield 109) 41 12 58 2), (41, e1 (.iload_n 3) 42 3), (42, e0 (.iaload) 43), (43, ei (.bipush 6) 45 0 (6)), (45, e1 (.iload_n 2) 46 2), (46, e0 (.iadd) 47), (47, e1 (.if_icmp .ne 9) 50 56)],
  [(50, e1 (.aload_n 0) 51 0), (51, e1 (.iload_n 3) 52 3), (52, e3 (.invokevirtual 466) 55 4 2 0), (55, e0 (.lreturn) 56), (56, ei (.iinc 3 1) 59 3 (1)), (59, e1 (.goto (-30)) 62 29), (62, e1 (.aload_n 0) 63 0), (63, ei (.iconst 5) 64 0 (5))],
  [(64, e3 (.invokevirtual 275) 67 5 2 0), (67, e0 (.i2l) 68), (68, e0 (.lreturn) 69)]]
noncomputable def zE_Mo_firstFail (α : Type) : Nat → zX α := fun i => bif Nat.beq i 0 then zA_III_I f_Mo_in else bif Nat.beq i 1 then zA_vRII_I 12 f_Mo_wordsWhy else bif Nat.beq i 2 then zA_vRI_I 12 f_Mo_isRefused else bif Nat.beq i 3 then zA_vRI_V 12 f_Mo_laysWords else bif Nat.beq i 4 then zA_vRI_J 12 f_Mo_wordOf else bif Nat.beq i 5 then zA_vRI_I 12 f_Mo_no else fun _ _ _ => none
def zc_Mo_firstFail : Nat → Bool := fun pc => Nat.beq pc 29
def D_Mo_firstFail_29 (k : Nat → Int32 → Int32 → zM → Option (Int64 × zM)) (lv : zV) (st : List Value) (S : zM) : Option (Int64 × zM) := match lv, st with
  | [some (.ref a0), _, some (.int a2), some (.int a3)], [] => k a0 a2 a3 S
  | _, _ => none
theorem d_Mo_firstFail_29 {g : zV → Nat → List Value → zM → Prop} (Hw : zWk g) {k : Nat → Int32 → Int32 → zM → Option (Int64 × zM)} {res : (Int64 × zM)} {lv : zV} {st : List Value} {S : zM} (h : D_Mo_firstFail_29 k lv st S = some res) (hk : ∀ a0 a2 a3 S, k a0 a2 a3 S = some res → g [some (.ref a0), none, some (.int a2), some (.int a3)] 29 [] S) : g lv 29 st S := by
  unfold D_Mo_firstFail_29 at h
  split at h
  · exact Hw _ _ _ _ _ (by simp [zle]) (hk _ _ _ _  h)
  · cases h
set_option maxRecDepth 100000 in
theorem r_Mo_firstFail_29 (n : Nat) (a0 : Nat) (a2 : Int32) (a3 : Int32) (S : zM) : L_Mo_firstFail_29 (n + 1) a0 a2 a3 S = zrt false zP_Mo_firstFail (zE_Mo_firstFail (Int64 × zM)) zc_Mo_firstFail zkJ (fun pc lv st S => bif Nat.beq pc 29 then D_Mo_firstFail_29 (L_Mo_firstFail_29 n) lv st S else none) 1000 29 [some (.ref a0), none, some (.int a2), some (.int a3)] [] S := rfl
theorem g_Mo_firstFail_29 {g : zV → Nat → List Value → zM → Prop} {res : (Int64 × zM)} (H : zCl false zP_Mo_firstFail (zE_Mo_firstFail (Int64 × zM)) zkJ res g) (Hw : zWk g) (n : Nat) : ∀ (a0 : Nat) (a2 : Int32) (a3 : Int32) (S : zM), L_Mo_firstFail_29 n a0 a2 a3 S = some res → g [some (.ref a0), none, some (.int a2), some (.int a3)] 29 [] S := by
  induction n with
  | zero => intro a0 a2 a3 S h; cases h
  | succ n ih =>
    intro a0 a2 a3 S h
    refine H zc_Mo_firstFail _ 1000 _ _ _ _ ((r_Mo_firstFail_29 n a0 a2 a3 S).symm.trans h) (fun pc lv st S hK => ?_)
    rcases zdis hK with ⟨rfl, hK⟩ | hK
    · exact d_Mo_firstFail_29 Hw hK ih
    cases hK
set_option maxRecDepth 100000 in
theorem r_Mo_firstFail (a0 : Nat) (a1 : Int32) (a2 : Int32) (S : zM) : f_Mo_firstFail a0 a1 a2 S = zrt false zP_Mo_firstFail (zE_Mo_firstFail (Int64 × zM)) zc_Mo_firstFail zkJ (fun pc lv st S => bif Nat.beq pc 29 then D_Mo_firstFail_29 (L_Mo_firstFail_29 zF) lv st S else none) 1000 0 [some (.ref a0), some (.int a1), some (.int a2), none] [] S := rfl
theorem G_Mo_firstFail {g : zV → Nat → List Value → zM → Prop} {res : (Int64 × zM)} (H : zCl false zP_Mo_firstFail (zE_Mo_firstFail (Int64 × zM)) zkJ res g) (Hw : zWk g) (a0 : Nat) (a1 : Int32) (a2 : Int32) (S : zM) (h : f_Mo_firstFail a0 a1 a2 S = some res) : g [some (.ref a0), some (.int a1), some (.int a2), none] 0 [] S := by
  refine H zc_Mo_firstFail _ 1000 _ _ _ _ ((r_Mo_firstFail a0 a1 a2 S).symm.trans h) (fun pc lv st S hK => ?_)
  rcases zdis hK with ⟨rfl, hK⟩ | hK
  · exact d_Mo_firstFail_29 Hw hK (g_Mo_firstFail_29 H Hw  zF)
  cases hK
set_option maxRecDepth 100000 in
theorem ok_Mo_firstFail : zokT 12 [62, 213, 214, 233, 241, 63] false 8 196 4 false (some .long) cX12_firstFail zP_Mo_firstFail = true := by decide +kernel
set_option maxRecDepth 100000 in
theorem s_Mo_firstFail {l : Launch} {HB : Heap} {b L : Nat} {xs : Nat → Int32} {aK aV : Nat → Nat} {G : va_G} {tc : Nat → ClassId} (h0 : zSnd l HB b L xs aK aV G tc (zMT.getD 62 zyD) (fun α => zA_III_I f_Mo_in)) (h1 : zSnd l HB b L xs aK aV G tc (zMT.getD 213 zyD) (fun α => zA_vRII_I 12 f_Mo_wordsWhy)) (h2 : zSnd l HB b L xs aK aV G tc (zMT.getD 214 zyD) (fun α => zA_vRI_I 12 f_Mo_isRefused)) (h3 : zSnd l HB b L xs aK aV G tc (zMT.getD 233 zyD) (fun α => zA_vRI_V 12 f_Mo_laysWords)) (h4 : zSnd l HB b L xs aK aV G tc (zMT.getD 241 zyD) (fun α => zA_vRI_J 12 f_Mo_wordOf)) (h5 : zSnd l HB b L xs aK aV G tc (zMT.getD 63 zyD) (fun α => zA_vRI_I 12 f_Mo_no)) : zSnd l HB b L xs aK aV G tc (zMT.getD 253 zyD) (fun α => zA_vRII_J 12 f_Mo_firstFail) := by
  rw [show zMT.getD 253 zyD = (yX12_firstFail, cX12_firstFail, 4, (some .long), 0, 3, 8, 196) from rfl]
  intro α as S k res h
  unfold zA_vRII_J at h
  dsimp only at h
  split at h
  · rename_i a0 a1 a2
    obtain ⟨p, hp, h⟩ := zbind h
    unfold zcl at hp
    split at hp
    · rename_i hkd
      have hm := zmeth (l := l) (HB := HB) (b := b) (L := L) (xs := xs) (aK := aK) (aV := aV) (G := G) (tc := tc) (q := (yX12_firstFail, cX12_firstFail, 4, (some .long), 0, 3, 8, 196)) (o := 12) (cs := [62, 213, 214, 233, 241, 63]) (rz := false) (T := zP_Mo_firstFail) (E := zE_Mo_firstFail (Int64 × zM)) (kr := zkJ) (res := p) (v0 := some (.long p.1)) (S0 := p.2) (as := [.ref a0, .int a1, .int a2]) (S := S) zMT_fine (by decide +kernel) (fun i as S k' h => by
        unfold zE_Mo_firstFail at h
        rcases zdisf h with ⟨rfl, h⟩ | h
        · exact h0 _ _ _ _ _ h
        rcases zdisf h with ⟨rfl, h⟩ | h
        · exact h1 _ _ _ _ _ h
        rcases zdisf h with ⟨rfl, h⟩ | h
        · exact h2 _ _ _ _ _ h
        rcases zdisf h with ⟨rfl, h⟩ | h
        · exact h3 _ _ _ _ _ h
        rcases zdisf h with ⟨rfl, h⟩ | h
        · exact h4 _ _ _ _ _ h
        rcases zdisf h with ⟨rfl, h⟩ | h
        · exact h5 _ _ _ _ _ h
        cases h) ok_Mo_firstFail rfl (fun v S' h => zkJ_inv h) (Nat.le_of_ble_eq_true rfl) (fun g H Hw => Hw _ [some (.ref a0), some (.int a1), some (.int a2), none] _ _ _ ⟨rfl, rfl, rfl, trivial⟩ (G_Mo_firstFail H Hw a0 a1 a2 S hp))
      exact ⟨_, _, h, hm.1, rfl, fun _ => ⟨_, _, rfl⟩, (fun _ U H hK hH a r e => by cases e; exact zrecv (ci := 12) (by omega) hkd rfl U H hK hH), hm.2⟩
    · cases hp
  · cases h
def zP_Cl_troubleOfSource : List (List (Nat × zE)) := [[(0, e1 (.aload_n 0) 1 0), (1, e1 (.iload_n 1) 2 1), (2, ei (.iconst 1) 3 0 (1)), (3, e3 (.invokevirtual 258) 6 0 3 0), (6, e1 (.istore 4) 8 4), (8, e1 (.iload 4) 10 4), (10, e1 (.ifCond .eq 6) 13 16), (13, e1 (.iload 4) 15 4), (15, e0 (.ireturn) 16)],
  [(16, e1 (.aload_n 0) 17 0), (17, e3 (.getfield 35) 20 11 4 2), (20, e1 (.lload_n 2) 21 2), (21, e3 (.invokevirtual 211) 24 1 2 0), (24, e1 (.ifCond .eq 7) 27 31), (27, ei (.iconst 0) 28 0 (0)), (28, e1 (.goto 4) 31 32), (31, ei (.iconst 2) 32 0 (2))],
  [(32, e0 (.ireturn) 33)]]
noncomputable def zE_Cl_troubleOfSource (α : Type) : Nat → zX α := fun i => bif Nat.beq i 0 then zA_vRII_I 11 f_Cl_troubleUpTo else bif Nat.beq i 1 then zA_vRJ_I 8 f_Row_takeWord else fun _ _ _ => none
def zc_Cl_troubleOfSource : Nat → Bool := fun pc => false
set_option maxRecDepth 100000 in
theorem r_Cl_troubleOfSource (a0 : Nat) (a1 : Int32) (a2 : Int64) (S : zM) : f_Cl_troubleOfSource a0 a1 a2 S = zrt false zP_Cl_troubleOfSource (zE_Cl_troubleOfSource (Int32 × zM)) zc_Cl_troubleOfSource zkI (fun pc lv st S => none) 1000 0 [some (.ref a0), some (.int a1), some (.long a2), none, none] [] S := rfl
theorem G_Cl_troubleOfSource {g : zV → Nat → List Value → zM → Prop} {res : (Int32 × zM)} (H : zCl false zP_Cl_troubleOfSource (zE_Cl_troubleOfSource (Int32 × zM)) zkI res g) (Hw : zWk g) (a0 : Nat) (a1 : Int32) (a2 : Int64) (S : zM) (h : f_Cl_troubleOfSource a0 a1 a2 S = some res) : g [some (.ref a0), some (.int a1), some (.long a2), none, none] 0 [] S := by
  refine H zc_Cl_troubleOfSource _ 1000 _ _ _ _ ((r_Cl_troubleOfSource a0 a1 a2 S).symm.trans h) (fun pc lv st S hK => ?_)
  cases hK
set_option maxRecDepth 100000 in
theorem ok_Cl_troubleOfSource : zokT 11 [210, 149] false 2 45 5 false (some .int) cX11_troubleOfSource zP_Cl_troubleOfSource = true := by decide +kernel
set_option maxRecDepth 100000 in
theorem s_Cl_troubleOfSource {l : Launch} {HB : Heap} {b L : Nat} {xs : Nat → Int32} {aK aV : Nat → Nat} {G : va_G} {tc : Nat → ClassId} (h0 : zSnd l HB b L xs aK aV G tc (zMT.getD 210 zyD) (fun α => zA_vRII_I 11 f_Cl_troubleUpTo)) (h1 : zSnd l HB b L xs aK aV G tc (zMT.getD 149 zyD) (fun α => zA_vRJ_I 8 f_Row_takeWord)) : zSnd l HB b L xs aK aV G tc (zMT.getD 254 zyD) (fun α => zA_vRIJ_I 11 f_Cl_troubleOfSource) := by
  rw [show zMT.getD 254 zyD = (yX11_troubleOfSource, cX11_troubleOfSource, 5, (some .int), 0, 3, 2, 45) from rfl]
  intro α as S k res h
  unfold zA_vRIJ_I at h
  dsimp only at h
  split at h
  · rename_i a0 a1 a2
    obtain ⟨p, hp, h⟩ := zbind h
    unfold zcl at hp
    split at hp
    · rename_i hkd
      have hm := zmeth (l := l) (HB := HB) (b := b) (L := L) (xs := xs) (aK := aK) (aV := aV) (G := G) (tc := tc) (q := (yX11_troubleOfSource, cX11_troubleOfSource, 5, (some .int), 0, 3, 2, 45)) (o := 11) (cs := [210, 149]) (rz := false) (T := zP_Cl_troubleOfSource) (E := zE_Cl_troubleOfSource (Int32 × zM)) (kr := zkI) (res := p) (v0 := some (.int p.1)) (S0 := p.2) (as := [.ref a0, .int a1, .long a2]) (S := S) zMT_fine (by decide +kernel) (fun i as S k' h => by
        unfold zE_Cl_troubleOfSource at h
        rcases zdisf h with ⟨rfl, h⟩ | h
        · exact h0 _ _ _ _ _ h
        rcases zdisf h with ⟨rfl, h⟩ | h
        · exact h1 _ _ _ _ _ h
        cases h) ok_Cl_troubleOfSource rfl (fun v S' h => zkI_inv h) (Nat.le_of_ble_eq_true rfl) (fun g H Hw => Hw _ [some (.ref a0), some (.int a1), some (.long a2), none, none] _ _ _ ⟨rfl, rfl, rfl, trivial⟩ (G_Cl_troubleOfSource H Hw a0 a1 a2 S hp))
      exact ⟨_, _, h, hm.1, rfl, fun _ => ⟨_, _, rfl⟩, (fun _ U H hK hH a r e => by cases e; exact zrecv (ci := 11) (by omega) hkd rfl U H hK hH), hm.2⟩
    · cases hp
  · cases h
def zP_Outcomes_cameAs : List (List (Nat × zE)) := [[(0, e1 (.aload_n 0) 1 0), (1, e1 (.iload_n 1) 2 1), (2, e3 (.invokevirtual 42) 5 0 2 0), (5, e1 (.aload_n 2) 6 2), (6, e3 (.getfield 28) 9 8 1 0), (9, e1 (.if_icmp .eq 5) 12 14), (12, ei (.iconst 0) 13 0 (0)), (13, e0 (.ireturn) 14), (14, ei (.iconst 0) 15 0 (0)), (15, e1 (.istore_n 3) 16 3)],
  [(16, e1 (.iload_n 3) 17 3), (17, ei (.iconst 3) 18 0 (3)), (18, e1 (.if_icmp .ge 26) 21 44), (21, e1 (.aload_n 0) 22 0), (22, e1 (.iload_n 1) 23 1), (23, e1 (.iload_n 3) 24 3), (24, e3 (.invokevirtual 45) 27 1 3 0), (27, e1 (.aload_n 2) 28 2), (28, e1 (.iload_n 3) 29 3), (29, e3 (.invokevirtual 34) 32 2 2 0)],
  [(32, e0 (.lcmp) 33), (33, e1 (.ifCond .eq 5) 36 38), (36, ei (.iconst 0) 37 0 (0)), (37, e0 (.ireturn) 38), (38, ei (.iinc 3 1) 41 3 (1)), (41, e1 (.goto (-25)) 44 16), (44, ei (.iconst 1) 45 0 (1)), (45, e0 (.ireturn) 46)]]
noncomputable def zE_Outcomes_cameAs (α : Type) : Nat → zX α := fun i => bif Nat.beq i 0 then zA_vRI_I 4 f_Outcomes_lengthOf else bif Nat.beq i 1 then zA_vRII_J 4 f_Outcomes_blockOf else bif Nat.beq i 2 then zA_vRI_J 8 f_Row_block else fun _ _ _ => none
def zc_Outcomes_cameAs : Nat → Bool := fun pc => Nat.beq pc 16
def D_Outcomes_cameAs_16 (k : Nat → Int32 → Nat → Int32 → zM → Option (Int32 × zM)) (lv : zV) (st : List Value) (S : zM) : Option (Int32 × zM) := match lv, st with
  | [some (.ref a0), some (.int a1), some (.ref a2), some (.int a3)], [] => k a0 a1 a2 a3 S
  | _, _ => none
theorem d_Outcomes_cameAs_16 {g : zV → Nat → List Value → zM → Prop} (Hw : zWk g) {k : Nat → Int32 → Nat → Int32 → zM → Option (Int32 × zM)} {res : (Int32 × zM)} {lv : zV} {st : List Value} {S : zM} (h : D_Outcomes_cameAs_16 k lv st S = some res) (hk : ∀ a0 a1 a2 a3 S, k a0 a1 a2 a3 S = some res → g [some (.ref a0), some (.int a1), some (.ref a2), some (.int a3)] 16 [] S) : g lv 16 st S := by
  unfold D_Outcomes_cameAs_16 at h
  split at h
  · exact Hw _ _ _ _ _ (by simp [zle]) (hk _ _ _ _ _  h)
  · cases h
set_option maxRecDepth 100000 in
theorem r_Outcomes_cameAs_16 (n : Nat) (a0 : Nat) (a1 : Int32) (a2 : Nat) (a3 : Int32) (S : zM) : L_Outcomes_cameAs_16 (n + 1) a0 a1 a2 a3 S = zrt true zP_Outcomes_cameAs (zE_Outcomes_cameAs (Int32 × zM)) zc_Outcomes_cameAs zkI (fun pc lv st S => bif Nat.beq pc 16 then D_Outcomes_cameAs_16 (L_Outcomes_cameAs_16 n) lv st S else none) 1000 16 [some (.ref a0), some (.int a1), some (.ref a2), some (.int a3)] [] S := rfl
theorem g_Outcomes_cameAs_16 {g : zV → Nat → List Value → zM → Prop} {res : (Int32 × zM)} (H : zCl true zP_Outcomes_cameAs (zE_Outcomes_cameAs (Int32 × zM)) zkI res g) (Hw : zWk g) (n : Nat) : ∀ (a0 : Nat) (a1 : Int32) (a2 : Nat) (a3 : Int32) (S : zM), L_Outcomes_cameAs_16 n a0 a1 a2 a3 S = some res → g [some (.ref a0), some (.int a1), some (.ref a2), some (.int a3)] 16 [] S := by
  induction n with
  | zero => intro a0 a1 a2 a3 S h; cases h
  | succ n ih =>
    intro a0 a1 a2 a3 S h
    refine H zc_Outcomes_cameAs _ 1000 _ _ _ _ ((r_Outcomes_cameAs_16 n a0 a1 a2 a3 S).symm.trans h) (fun pc lv st S hK => ?_)
    rcases zdis hK with ⟨rfl, hK⟩ | hK
    · exact d_Outcomes_cameAs_16 Hw hK ih
    cases hK
set_option maxRecDepth 100000 in
theorem r_Outcomes_cameAs (a0 : Nat) (a1 : Int32) (a2 : Nat) (S : zM) : f_Outcomes_cameAs a0 a1 a2 S = zrt true zP_Outcomes_cameAs (zE_Outcomes_cameAs (Int32 × zM)) zc_Outcomes_cameAs zkI (fun pc lv st S => bif Nat.beq pc 16 then D_Outcomes_cameAs_16 (L_Outcomes_cameAs_16 zF) lv st S else none) 1000 0 [some (.ref a0), some (.int a1), some (.ref a2), none] [] S := rfl
theorem G_Outcomes_cameAs {g : zV → Nat → List Value → zM → Prop} {res : (Int32 × zM)} (H : zCl true zP_Outcomes_cameAs (zE_Outcomes_cameAs (Int32 × zM)) zkI res g) (Hw : zWk g) (a0 : Nat) (a1 : Int32) (a2 : Nat) (S : zM) (h : f_Outcomes_cameAs a0 a1 a2 S = some res) : g [some (.ref a0), some (.int a1), some (.ref a2), none] 0 [] S := by
  refine H zc_Outcomes_cameAs _ 1000 _ _ _ _ ((r_Outcomes_cameAs a0 a1 a2 S).symm.trans h) (fun pc lv st S hK => ?_)
  rcases zdis hK with ⟨rfl, hK⟩ | hK
  · exact d_Outcomes_cameAs_16 Hw hK (g_Outcomes_cameAs_16 H Hw  zF)
  cases hK
set_option maxRecDepth 100000 in
theorem ok_Outcomes_cameAs : zokT 4 [246, 222, 221] false 2 46 4 true (some .boolean) cX4_cameAs zP_Outcomes_cameAs = true := by decide +kernel
set_option maxRecDepth 100000 in
theorem s_Outcomes_cameAs {l : Launch} {HB : Heap} {b L : Nat} {xs : Nat → Int32} {aK aV : Nat → Nat} {G : va_G} {tc : Nat → ClassId} (h0 : zSnd l HB b L xs aK aV G tc (zMT.getD 246 zyD) (fun α => zA_vRI_I 4 f_Outcomes_lengthOf)) (h1 : zSnd l HB b L xs aK aV G tc (zMT.getD 222 zyD) (fun α => zA_vRII_J 4 f_Outcomes_blockOf)) (h2 : zSnd l HB b L xs aK aV G tc (zMT.getD 221 zyD) (fun α => zA_vRI_J 8 f_Row_block)) : zSnd l HB b L xs aK aV G tc (zMT.getD 255 zyD) (fun α => zA_vRIR_I 4 f_Outcomes_cameAs) := by
  rw [show zMT.getD 255 zyD = (yX4_cameAs, cX4_cameAs, 4, (some .boolean), 0, 3, 2, 46) from rfl]
  intro α as S k res h
  unfold zA_vRIR_I at h
  dsimp only at h
  split at h
  · rename_i a0 a1 a2
    obtain ⟨p, hp, h⟩ := zbind h
    unfold zcl at hp
    split at hp
    · rename_i hkd
      have hm := zmeth (l := l) (HB := HB) (b := b) (L := L) (xs := xs) (aK := aK) (aV := aV) (G := G) (tc := tc) (q := (yX4_cameAs, cX4_cameAs, 4, (some .boolean), 0, 3, 2, 46)) (o := 4) (cs := [246, 222, 221]) (rz := true) (T := zP_Outcomes_cameAs) (E := zE_Outcomes_cameAs (Int32 × zM)) (kr := zkI) (res := p) (v0 := some (.int p.1)) (S0 := p.2) (as := [.ref a0, .int a1, .ref a2]) (S := S) zMT_fine (by decide +kernel) (fun i as S k' h => by
        unfold zE_Outcomes_cameAs at h
        rcases zdisf h with ⟨rfl, h⟩ | h
        · exact h0 _ _ _ _ _ h
        rcases zdisf h with ⟨rfl, h⟩ | h
        · exact h1 _ _ _ _ _ h
        rcases zdisf h with ⟨rfl, h⟩ | h
        · exact h2 _ _ _ _ _ h
        cases h) ok_Outcomes_cameAs rfl (fun v S' h => zkI_inv h) (Nat.le_of_ble_eq_true rfl) (fun g H Hw => Hw _ [some (.ref a0), some (.int a1), some (.ref a2), none] _ _ _ ⟨rfl, rfl, rfl, trivial⟩ (G_Outcomes_cameAs H Hw a0 a1 a2 S hp))
      exact ⟨_, _, h, hm.1, rfl, fun _ => ⟨_, _, rfl⟩, (fun _ U H hK hH a r e => by cases e; exact zrecv (ci := 4) (by omega) hkd rfl U H hK hH), hm.2⟩
    · cases hp
  · cases h
def zP_Census_countSources : List (List (Nat × zE)) := [[(0, e1 (.aload_n 0) 1 0), (1, e1 (.iload_n 1) 2 1), (2, e3 (.invokevirtual 74) 5 0 2 0), (5, e1 (.istore_n 3) 6 3), (6, ei (.iconst 0) 7 0 (0)), (7, e1 (.istore 4) 9 4), (9, ei (.iconst 0) 10 0 (0)), (10, e1 (.istore 5) 12 5), (12, e1 (.iload 5) 14 5), (14, e1 (.iload_n 3) 15 3), (15, e1 (.if_icmp .ge 32) 18 47)],
  [(18, e1 (.iload 4) 20 4), (20, e1 (.aload_n 0) 21 0), (21, e3 (.getfield 12) 24 2 0 2), (24, e1 (.iload 5) 26 5), (26, e1 (.aload_n 2) 27 2), (27, e3 (.invokevirtual 121) 30 1 3 0), (30, e1 (.ifCond .eq 7) 33 37)],
  [(33, ei (.iconst 1) 34 0 (1)), (34, e1 (.goto 4) 37 38), (37, ei (.iconst 0) 38 0 (0)), (38, e0 (.iadd) 39), (39, e1 (.istore 4) 41 4), (41, ei (.iinc 5 1) 44 5 (1)), (44, e1 (.goto (-32)) 47 12), (47, e1 (.iload 4) 49 4)],
  [(49, e0 (.ireturn) 50)]]
noncomputable def zE_Census_countSources (α : Type) : Nat → zX α := fun i => bif Nat.beq i 0 then zA_vRI_I 2 f_Census_count else bif Nat.beq i 1 then zA_vRIR_I 4 f_Outcomes_cameAs else fun _ _ _ => none
def zc_Census_countSources : Nat → Bool := fun pc => Nat.beq pc 12
def D_Census_countSources_12 (k : Nat → Nat → Int32 → Int32 → Int32 → zM → Option (Int32 × zM)) (lv : zV) (st : List Value) (S : zM) : Option (Int32 × zM) := match lv, st with
  | [some (.ref a0), _, some (.ref a2), some (.int a3), some (.int a4), some (.int a5)], [] => k a0 a2 a3 a4 a5 S
  | _, _ => none
theorem d_Census_countSources_12 {g : zV → Nat → List Value → zM → Prop} (Hw : zWk g) {k : Nat → Nat → Int32 → Int32 → Int32 → zM → Option (Int32 × zM)} {res : (Int32 × zM)} {lv : zV} {st : List Value} {S : zM} (h : D_Census_countSources_12 k lv st S = some res) (hk : ∀ a0 a2 a3 a4 a5 S, k a0 a2 a3 a4 a5 S = some res → g [some (.ref a0), none, some (.ref a2), some (.int a3), some (.int a4), some (.int a5)] 12 [] S) : g lv 12 st S := by
  unfold D_Census_countSources_12 at h
  split at h
  · exact Hw _ _ _ _ _ (by simp [zle]) (hk _ _ _ _ _ _  h)
  · cases h
set_option maxRecDepth 100000 in
theorem r_Census_countSources_12 (n : Nat) (a0 : Nat) (a2 : Nat) (a3 : Int32) (a4 : Int32) (a5 : Int32) (S : zM) : L_Census_countSources_12 (n + 1) a0 a2 a3 a4 a5 S = zrt false zP_Census_countSources (zE_Census_countSources (Int32 × zM)) zc_Census_countSources zkI (fun pc lv st S => bif Nat.beq pc 12 then D_Census_countSources_12 (L_Census_countSources_12 n) lv st S else none) 1000 12 [some (.ref a0), none, some (.ref a2), some (.int a3), some (.int a4), some (.int a5)] [] S := rfl
theorem g_Census_countSources_12 {g : zV → Nat → List Value → zM → Prop} {res : (Int32 × zM)} (H : zCl false zP_Census_countSources (zE_Census_countSources (Int32 × zM)) zkI res g) (Hw : zWk g) (n : Nat) : ∀ (a0 : Nat) (a2 : Nat) (a3 : Int32) (a4 : Int32) (a5 : Int32) (S : zM), L_Census_countSources_12 n a0 a2 a3 a4 a5 S = some res → g [some (.ref a0), none, some (.ref a2), some (.int a3), some (.int a4), some (.int a5)] 12 [] S := by
  induction n with
  | zero => intro a0 a2 a3 a4 a5 S h; cases h
  | succ n ih =>
    intro a0 a2 a3 a4 a5 S h
    refine H zc_Census_countSources _ 1000 _ _ _ _ ((r_Census_countSources_12 n a0 a2 a3 a4 a5 S).symm.trans h) (fun pc lv st S hK => ?_)
    rcases zdis hK with ⟨rfl, hK⟩ | hK
    · exact d_Census_countSources_12 Hw hK ih
    cases hK
set_option maxRecDepth 100000 in
theorem r_Census_countSources (a0 : Nat) (a1 : Int32) (a2 : Nat) (S : zM) : f_Census_countSources a0 a1 a2 S = zrt false zP_Census_countSources (zE_Census_countSources (Int32 × zM)) zc_Census_countSources zkI (fun pc lv st S => bif Nat.beq pc 12 then D_Census_countSources_12 (L_Census_countSources_12 zF) lv st S else none) 1000 0 [some (.ref a0), some (.int a1), some (.ref a2), none, none, none] [] S := rfl
theorem G_Census_countSources {g : zV → Nat → List Value → zM → Prop} {res : (Int32 × zM)} (H : zCl false zP_Census_countSources (zE_Census_countSources (Int32 × zM)) zkI res g) (Hw : zWk g) (a0 : Nat) (a1 : Int32) (a2 : Nat) (S : zM) (h : f_Census_countSources a0 a1 a2 S = some res) : g [some (.ref a0), some (.int a1), some (.ref a2), none, none, none] 0 [] S := by
  refine H zc_Census_countSources _ 1000 _ _ _ _ ((r_Census_countSources a0 a1 a2 S).symm.trans h) (fun pc lv st S hK => ?_)
  rcases zdis hK with ⟨rfl, hK⟩ | hK
  · exact d_Census_countSources_12 Hw hK (g_Census_countSources_12 H Hw  zF)
  cases hK
set_option maxRecDepth 100000 in
theorem ok_Census_countSources : zokT 2 [219, 255] false 3 69 6 false (some .int) cX2_countSources zP_Census_countSources = true := by decide +kernel
set_option maxRecDepth 100000 in
theorem s_Census_countSources {l : Launch} {HB : Heap} {b L : Nat} {xs : Nat → Int32} {aK aV : Nat → Nat} {G : va_G} {tc : Nat → ClassId} (h0 : zSnd l HB b L xs aK aV G tc (zMT.getD 219 zyD) (fun α => zA_vRI_I 2 f_Census_count)) (h1 : zSnd l HB b L xs aK aV G tc (zMT.getD 255 zyD) (fun α => zA_vRIR_I 4 f_Outcomes_cameAs)) : zSnd l HB b L xs aK aV G tc (zMT.getD 256 zyD) (fun α => zA_vRIR_I 2 f_Census_countSources) := by
  rw [show zMT.getD 256 zyD = (yX2_countSources, cX2_countSources, 6, (some .int), 0, 3, 3, 69) from rfl]
  intro α as S k res h
  unfold zA_vRIR_I at h
  dsimp only at h
  split at h
  · rename_i a0 a1 a2
    obtain ⟨p, hp, h⟩ := zbind h
    unfold zcl at hp
    split at hp
    · rename_i hkd
      have hm := zmeth (l := l) (HB := HB) (b := b) (L := L) (xs := xs) (aK := aK) (aV := aV) (G := G) (tc := tc) (q := (yX2_countSources, cX2_countSources, 6, (some .int), 0, 3, 3, 69)) (o := 2) (cs := [219, 255]) (rz := false) (T := zP_Census_countSources) (E := zE_Census_countSources (Int32 × zM)) (kr := zkI) (res := p) (v0 := some (.int p.1)) (S0 := p.2) (as := [.ref a0, .int a1, .ref a2]) (S := S) zMT_fine (by decide +kernel) (fun i as S k' h => by
        unfold zE_Census_countSources at h
        rcases zdisf h with ⟨rfl, h⟩ | h
        · exact h0 _ _ _ _ _ h
        rcases zdisf h with ⟨rfl, h⟩ | h
        · exact h1 _ _ _ _ _ h
        cases h) ok_Census_countSources rfl (fun v S' h => zkI_inv h) (Nat.le_of_ble_eq_true rfl) (fun g H Hw => Hw _ [some (.ref a0), some (.int a1), some (.ref a2), none, none, none] _ _ _ ⟨rfl, rfl, rfl, trivial⟩ (G_Census_countSources H Hw a0 a1 a2 S hp))
      exact ⟨_, _, h, hm.1, rfl, fun _ => ⟨_, _, rfl⟩, (fun _ U H hK hH a r e => by cases e; exact zrecv (ci := 2) (by omega) hkd rfl U H hK hH), hm.2⟩
    · cases hp
  · cases h
def zP_Cl_sources : List (List (Nat × zE)) := [[(0, e1 (.aload_n 0) 1 0), (1, e1 (.iload_n 1) 2 1), (2, e1 (.lload_n 2) 3 2), (3, e3 (.invokevirtual 290) 6 0 3 0), (6, e1 (.istore 4) 8 4), (8, e1 (.iload 4) 10 4), (10, e1 (.ifCond .eq 12) 13 22), (13, e1 (.aload_n 0) 14 0), (14, e1 (.iload 4) 16 4)],
  [(16, e3 (.invokevirtual 79) 19 1 2 0), (19, e1 (.goto 20) 22 39), (22, e1 (.aload_n 0) 23 0), (23, e1 (.aload_n 0) 24 0), (24, e1 (.iload_n 1) 25 1), (25, e3 (.invokevirtual 265) 28 2 2 0), (28, e1 (.iload_n 1) 29 1), (29, e1 (.aload_n 0) 30 0), (30, e3 (.getfield 35) 33 11 4 2)],
  [(33, e3 (.invokevirtual 294) 36 3 3 0), (36, e3 (.invokevirtual 109) 39 4 2 0), (39, e0 (.ireturn) 40)]]
noncomputable def zE_Cl_sources (α : Type) : Nat → zX α := fun i => bif Nat.beq i 0 then zA_vRIJ_I 11 f_Cl_troubleOfSource else bif Nat.beq i 1 then zA_vRI_I 11 f_Cl_refuse else bif Nat.beq i 2 then zA_vRI_R 11 f_Cl_censusUpTo else bif Nat.beq i 3 then zA_vRIR_I 2 f_Census_countSources else bif Nat.beq i 4 then zA_vRI_I 11 f_Cl_answer else fun _ _ _ => none
def zc_Cl_sources : Nat → Bool := fun pc => false
set_option maxRecDepth 100000 in
theorem r_Cl_sources (a0 : Nat) (a1 : Int32) (a2 : Int64) (S : zM) : f_Cl_sources a0 a1 a2 S = zrt false zP_Cl_sources (zE_Cl_sources (Int32 × zM)) zc_Cl_sources zkI (fun pc lv st S => none) 1000 0 [some (.ref a0), some (.int a1), some (.long a2), none, none] [] S := rfl
theorem G_Cl_sources {g : zV → Nat → List Value → zM → Prop} {res : (Int32 × zM)} (H : zCl false zP_Cl_sources (zE_Cl_sources (Int32 × zM)) zkI res g) (Hw : zWk g) (a0 : Nat) (a1 : Int32) (a2 : Int64) (S : zM) (h : f_Cl_sources a0 a1 a2 S = some res) : g [some (.ref a0), some (.int a1), some (.long a2), none, none] 0 [] S := by
  refine H zc_Cl_sources _ 1000 _ _ _ _ ((r_Cl_sources a0 a1 a2 S).symm.trans h) (fun pc lv st S hK => ?_)
  cases hK
set_option maxRecDepth 100000 in
theorem ok_Cl_sources : zokT 11 [254, 16, 227, 256, 59] false 7 212 5 false (some .int) cX11_sources zP_Cl_sources = true := by decide +kernel
set_option maxRecDepth 100000 in
theorem s_Cl_sources {l : Launch} {HB : Heap} {b L : Nat} {xs : Nat → Int32} {aK aV : Nat → Nat} {G : va_G} {tc : Nat → ClassId} (h0 : zSnd l HB b L xs aK aV G tc (zMT.getD 254 zyD) (fun α => zA_vRIJ_I 11 f_Cl_troubleOfSource)) (h1 : zSnd l HB b L xs aK aV G tc (zMT.getD 16 zyD) (fun α => zA_vRI_I 11 f_Cl_refuse)) (h2 : zSnd l HB b L xs aK aV G tc (zMT.getD 227 zyD) (fun α => zA_vRI_R 11 f_Cl_censusUpTo)) (h3 : zSnd l HB b L xs aK aV G tc (zMT.getD 256 zyD) (fun α => zA_vRIR_I 2 f_Census_countSources)) (h4 : zSnd l HB b L xs aK aV G tc (zMT.getD 59 zyD) (fun α => zA_vRI_I 11 f_Cl_answer)) : zSnd l HB b L xs aK aV G tc (zMT.getD 257 zyD) (fun α => zA_vRIJ_I 11 f_Cl_sources) := by
  rw [show zMT.getD 257 zyD = (yX11_sources, cX11_sources, 5, (some .int), 0, 3, 7, 212) from rfl]
  intro α as S k res h
  unfold zA_vRIJ_I at h
  dsimp only at h
  split at h
  · rename_i a0 a1 a2
    obtain ⟨p, hp, h⟩ := zbind h
    unfold zcl at hp
    split at hp
    · rename_i hkd
      have hm := zmeth (l := l) (HB := HB) (b := b) (L := L) (xs := xs) (aK := aK) (aV := aV) (G := G) (tc := tc) (q := (yX11_sources, cX11_sources, 5, (some .int), 0, 3, 7, 212)) (o := 11) (cs := [254, 16, 227, 256, 59]) (rz := false) (T := zP_Cl_sources) (E := zE_Cl_sources (Int32 × zM)) (kr := zkI) (res := p) (v0 := some (.int p.1)) (S0 := p.2) (as := [.ref a0, .int a1, .long a2]) (S := S) zMT_fine (by decide +kernel) (fun i as S k' h => by
        unfold zE_Cl_sources at h
        rcases zdisf h with ⟨rfl, h⟩ | h
        · exact h0 _ _ _ _ _ h
        rcases zdisf h with ⟨rfl, h⟩ | h
        · exact h1 _ _ _ _ _ h
        rcases zdisf h with ⟨rfl, h⟩ | h
        · exact h2 _ _ _ _ _ h
        rcases zdisf h with ⟨rfl, h⟩ | h
        · exact h3 _ _ _ _ _ h
        rcases zdisf h with ⟨rfl, h⟩ | h
        · exact h4 _ _ _ _ _ h
        cases h) ok_Cl_sources rfl (fun v S' h => zkI_inv h) (Nat.le_of_ble_eq_true rfl) (fun g H Hw => Hw _ [some (.ref a0), some (.int a1), some (.long a2), none, none] _ _ _ ⟨rfl, rfl, rfl, trivial⟩ (G_Cl_sources H Hw a0 a1 a2 S hp))
      exact ⟨_, _, h, hm.1, rfl, fun _ => ⟨_, _, rfl⟩, (fun _ U H hK hH a r e => by cases e; exact zrecv (ci := 11) (by omega) hkd rfl U H hK hH), hm.2⟩
    · cases hp
  · cases h
def zP_Mo_seeks : List (List (Nat × zE)) := [[(0, e1 (.aload_n 0) 1 0), (1, e1 (.lload_n 1) 2 1), (2, e3 (.invokevirtual 364) 5 0 2 0), (5, e1 (.ifCond .ne 5) 8 10), (8, ei (.iconst 0) 9 0 (0)), (9, e0 (.ireturn) 10), (10, ei (.iconst 0) 11 0 (0)), (11, e1 (.istore_n 3) 12 3), (12, e1 (.iload_n 3) 13 3), (13, ei (.iconst 4) 14 0 (4)), (14, e1 (.if_icmp .ge 20) 17 34)],
  [(17, e1 (.aload_n 0) 18 0), (18, e3 (.getfield 118) 21 12 63 2), (21, e1 (.iload_n 3) 22 3), (22, e1 (.aload_n 0) 23 0), (23, e1 (.iload_n 3) 24 3), (24, e3 (.invokevirtual 441) 27 1 2 0), (27, e0 (.lastore) 28), (28, ei (.iinc 3 1) 31 3 (1)), (31, e1 (.goto (-19)) 34 12)],
  [(34, ei (.iconst 1) 35 0 (1)), (35, e0 (.ireturn) 36)]]
noncomputable def zE_Mo_seeks (α : Type) : Nat → zX α := fun i => bif Nat.beq i 0 then zA_vRJ_I 12 f_Mo_laysLetters else bif Nat.beq i 1 then zA_vRI_J 12 f_Mo_keyOf else fun _ _ _ => none
def zc_Mo_seeks : Nat → Bool := fun pc => Nat.beq pc 12
def D_Mo_seeks_12 (k : Nat → Int32 → zM → Option (Int32 × zM)) (lv : zV) (st : List Value) (S : zM) : Option (Int32 × zM) := match lv, st with
  | [some (.ref a0), _, _, some (.int a3)], [] => k a0 a3 S
  | _, _ => none
theorem d_Mo_seeks_12 {g : zV → Nat → List Value → zM → Prop} (Hw : zWk g) {k : Nat → Int32 → zM → Option (Int32 × zM)} {res : (Int32 × zM)} {lv : zV} {st : List Value} {S : zM} (h : D_Mo_seeks_12 k lv st S = some res) (hk : ∀ a0 a3 S, k a0 a3 S = some res → g [some (.ref a0), none, none, some (.int a3)] 12 [] S) : g lv 12 st S := by
  unfold D_Mo_seeks_12 at h
  split at h
  · exact Hw _ _ _ _ _ (by simp [zle]) (hk _ _ _  h)
  · cases h
set_option maxRecDepth 100000 in
theorem r_Mo_seeks_12 (n : Nat) (a0 : Nat) (a3 : Int32) (S : zM) : L_Mo_seeks_12 (n + 1) a0 a3 S = zrt true zP_Mo_seeks (zE_Mo_seeks (Int32 × zM)) zc_Mo_seeks zkI (fun pc lv st S => bif Nat.beq pc 12 then D_Mo_seeks_12 (L_Mo_seeks_12 n) lv st S else none) 1000 12 [some (.ref a0), none, none, some (.int a3)] [] S := rfl
theorem g_Mo_seeks_12 {g : zV → Nat → List Value → zM → Prop} {res : (Int32 × zM)} (H : zCl true zP_Mo_seeks (zE_Mo_seeks (Int32 × zM)) zkI res g) (Hw : zWk g) (n : Nat) : ∀ (a0 : Nat) (a3 : Int32) (S : zM), L_Mo_seeks_12 n a0 a3 S = some res → g [some (.ref a0), none, none, some (.int a3)] 12 [] S := by
  induction n with
  | zero => intro a0 a3 S h; cases h
  | succ n ih =>
    intro a0 a3 S h
    refine H zc_Mo_seeks _ 1000 _ _ _ _ ((r_Mo_seeks_12 n a0 a3 S).symm.trans h) (fun pc lv st S hK => ?_)
    rcases zdis hK with ⟨rfl, hK⟩ | hK
    · exact d_Mo_seeks_12 Hw hK ih
    cases hK
set_option maxRecDepth 100000 in
theorem r_Mo_seeks (a0 : Nat) (a1 : Int64) (S : zM) : f_Mo_seeks a0 a1 S = zrt true zP_Mo_seeks (zE_Mo_seeks (Int32 × zM)) zc_Mo_seeks zkI (fun pc lv st S => bif Nat.beq pc 12 then D_Mo_seeks_12 (L_Mo_seeks_12 zF) lv st S else none) 1000 0 [some (.ref a0), some (.long a1), none, none] [] S := rfl
theorem G_Mo_seeks {g : zV → Nat → List Value → zM → Prop} {res : (Int32 × zM)} (H : zCl true zP_Mo_seeks (zE_Mo_seeks (Int32 × zM)) zkI res g) (Hw : zWk g) (a0 : Nat) (a1 : Int64) (S : zM) (h : f_Mo_seeks a0 a1 S = some res) : g [some (.ref a0), some (.long a1), none, none] 0 [] S := by
  refine H zc_Mo_seeks _ 1000 _ _ _ _ ((r_Mo_seeks a0 a1 S).symm.trans h) (fun pc lv st S hK => ?_)
  rcases zdis hK with ⟨rfl, hK⟩ | hK
  · exact d_Mo_seeks_12 Hw hK (g_Mo_seeks_12 H Hw  zF)
  cases hK
set_option maxRecDepth 100000 in
theorem ok_Mo_seeks : zokT 12 [154, 232] false 2 47 4 true (some .boolean) cX12_seeks zP_Mo_seeks = true := by decide +kernel
set_option maxRecDepth 100000 in
theorem s_Mo_seeks {l : Launch} {HB : Heap} {b L : Nat} {xs : Nat → Int32} {aK aV : Nat → Nat} {G : va_G} {tc : Nat → ClassId} (h0 : zSnd l HB b L xs aK aV G tc (zMT.getD 154 zyD) (fun α => zA_vRJ_I 12 f_Mo_laysLetters)) (h1 : zSnd l HB b L xs aK aV G tc (zMT.getD 232 zyD) (fun α => zA_vRI_J 12 f_Mo_keyOf)) : zSnd l HB b L xs aK aV G tc (zMT.getD 258 zyD) (fun α => zA_vRJ_I 12 f_Mo_seeks) := by
  rw [show zMT.getD 258 zyD = (yX12_seeks, cX12_seeks, 4, (some .boolean), 0, 2, 2, 47) from rfl]
  intro α as S k res h
  unfold zA_vRJ_I at h
  dsimp only at h
  split at h
  · rename_i a0 a1
    obtain ⟨p, hp, h⟩ := zbind h
    unfold zcl at hp
    split at hp
    · rename_i hkd
      have hm := zmeth (l := l) (HB := HB) (b := b) (L := L) (xs := xs) (aK := aK) (aV := aV) (G := G) (tc := tc) (q := (yX12_seeks, cX12_seeks, 4, (some .boolean), 0, 2, 2, 47)) (o := 12) (cs := [154, 232]) (rz := true) (T := zP_Mo_seeks) (E := zE_Mo_seeks (Int32 × zM)) (kr := zkI) (res := p) (v0 := some (.int p.1)) (S0 := p.2) (as := [.ref a0, .long a1]) (S := S) zMT_fine (by decide +kernel) (fun i as S k' h => by
        unfold zE_Mo_seeks at h
        rcases zdisf h with ⟨rfl, h⟩ | h
        · exact h0 _ _ _ _ _ h
        rcases zdisf h with ⟨rfl, h⟩ | h
        · exact h1 _ _ _ _ _ h
        cases h) ok_Mo_seeks rfl (fun v S' h => zkI_inv h) (Nat.le_of_ble_eq_true rfl) (fun g H Hw => Hw _ [some (.ref a0), some (.long a1), none, none] _ _ _ ⟨rfl, rfl, trivial⟩ (G_Mo_seeks H Hw a0 a1 S hp))
      exact ⟨_, _, h, hm.1, rfl, fun _ => ⟨_, _, rfl⟩, (fun _ U H hK hH a r e => by cases e; exact zrecv (ci := 12) (by omega) hkd rfl U H hK hH), hm.2⟩
    · cases hp
  · cases h
def zP_Mo_sourceWhy : List (List (Nat × zE)) := [[(0, e1 (.aload_n 0) 1 0), (1, ei (.iconst 1) 2 0 (1)), (2, e1 (.iload_n 1) 3 1), (3, e3 (.invokevirtual 454) 6 0 3 0), (6, e1 (.istore 4) 8 4), (8, e1 (.iload 4) 10 4), (10, e1 (.ifCond .eq 8) 13 18), (13, e1 (.iload 4) 15 4), (15, e1 (.goto 16) 18 31)],
  [(18, e1 (.aload_n 0) 19 0), (19, e1 (.lload_n 2) 20 2), (20, e3 (.invokevirtual 469) 23 1 2 0), (23, e1 (.ifCond .eq 7) 26 30), (26, ei (.iconst 0) 27 0 (0)), (27, e1 (.goto 4) 30 31), (30, ei (.iconst 2) 31 0 (2)), (31, e0 (.ireturn) 32)]]
noncomputable def zE_Mo_sourceWhy (α : Type) : Nat → zX α := fun i => bif Nat.beq i 0 then zA_vRII_I 12 f_Mo_wordsWhy else bif Nat.beq i 1 then zA_vRJ_I 12 f_Mo_seeks else fun _ _ _ => none
def zc_Mo_sourceWhy : Nat → Bool := fun pc => false
set_option maxRecDepth 100000 in
theorem r_Mo_sourceWhy (a0 : Nat) (a1 : Int32) (a2 : Int64) (S : zM) : f_Mo_sourceWhy a0 a1 a2 S = zrt false zP_Mo_sourceWhy (zE_Mo_sourceWhy (Int32 × zM)) zc_Mo_sourceWhy zkI (fun pc lv st S => none) 1000 0 [some (.ref a0), some (.int a1), some (.long a2), none, none] [] S := rfl
theorem G_Mo_sourceWhy {g : zV → Nat → List Value → zM → Prop} {res : (Int32 × zM)} (H : zCl false zP_Mo_sourceWhy (zE_Mo_sourceWhy (Int32 × zM)) zkI res g) (Hw : zWk g) (a0 : Nat) (a1 : Int32) (a2 : Int64) (S : zM) (h : f_Mo_sourceWhy a0 a1 a2 S = some res) : g [some (.ref a0), some (.int a1), some (.long a2), none, none] 0 [] S := by
  refine H zc_Mo_sourceWhy _ 1000 _ _ _ _ ((r_Mo_sourceWhy a0 a1 a2 S).symm.trans h) (fun pc lv st S hK => ?_)
  cases hK
set_option maxRecDepth 100000 in
theorem ok_Mo_sourceWhy : zokT 12 [213, 258] false 3 70 5 false (some .int) cX12_sourceWhy zP_Mo_sourceWhy = true := by decide +kernel
set_option maxRecDepth 100000 in
theorem s_Mo_sourceWhy {l : Launch} {HB : Heap} {b L : Nat} {xs : Nat → Int32} {aK aV : Nat → Nat} {G : va_G} {tc : Nat → ClassId} (h0 : zSnd l HB b L xs aK aV G tc (zMT.getD 213 zyD) (fun α => zA_vRII_I 12 f_Mo_wordsWhy)) (h1 : zSnd l HB b L xs aK aV G tc (zMT.getD 258 zyD) (fun α => zA_vRJ_I 12 f_Mo_seeks)) : zSnd l HB b L xs aK aV G tc (zMT.getD 259 zyD) (fun α => zA_vRIJ_I 12 f_Mo_sourceWhy) := by
  rw [show zMT.getD 259 zyD = (yX12_sourceWhy, cX12_sourceWhy, 5, (some .int), 0, 3, 3, 70) from rfl]
  intro α as S k res h
  unfold zA_vRIJ_I at h
  dsimp only at h
  split at h
  · rename_i a0 a1 a2
    obtain ⟨p, hp, h⟩ := zbind h
    unfold zcl at hp
    split at hp
    · rename_i hkd
      have hm := zmeth (l := l) (HB := HB) (b := b) (L := L) (xs := xs) (aK := aK) (aV := aV) (G := G) (tc := tc) (q := (yX12_sourceWhy, cX12_sourceWhy, 5, (some .int), 0, 3, 3, 70)) (o := 12) (cs := [213, 258]) (rz := false) (T := zP_Mo_sourceWhy) (E := zE_Mo_sourceWhy (Int32 × zM)) (kr := zkI) (res := p) (v0 := some (.int p.1)) (S0 := p.2) (as := [.ref a0, .int a1, .long a2]) (S := S) zMT_fine (by decide +kernel) (fun i as S k' h => by
        unfold zE_Mo_sourceWhy at h
        rcases zdisf h with ⟨rfl, h⟩ | h
        · exact h0 _ _ _ _ _ h
        rcases zdisf h with ⟨rfl, h⟩ | h
        · exact h1 _ _ _ _ _ h
        cases h) ok_Mo_sourceWhy rfl (fun v S' h => zkI_inv h) (Nat.le_of_ble_eq_true rfl) (fun g H Hw => Hw _ [some (.ref a0), some (.int a1), some (.long a2), none, none] _ _ _ ⟨rfl, rfl, rfl, trivial⟩ (G_Mo_sourceWhy H Hw a0 a1 a2 S hp))
      exact ⟨_, _, h, hm.1, rfl, fun _ => ⟨_, _, rfl⟩, (fun _ U H hK hH a r e => by cases e; exact zrecv (ci := 12) (by omega) hkd rfl U H hK hH), hm.2⟩
    · cases hp
  · cases h
def zP_Mo_isSource : List (List (Nat × zE)) := [[(0, e1 (.aload_n 0) 1 0), (1, e3 (.getfield 109) 4 12 58 2), (4, e1 (.iload_n 1) 5 1), (5, e0 (.iaload) 6), (6, e1 (.ifCond .ne 85) 9 91), (9, e1 (.aload_n 0) 10 0), (10, e3 (.getfield 115) 13 12 60 2), (13, ei (.iconst 4) 14 0 (4)), (14, e1 (.iload_n 1) 15 1), (15, e0 (.imul) 16)],
  [(16, e0 (.laload) 17), (17, e1 (.aload_n 0) 18 0), (18, e3 (.getfield 118) 21 12 63 2), (21, ei (.iconst 0) 22 0 (0)), (22, e0 (.laload) 23), (23, e0 (.lcmp) 24), (24, e1 (.ifCond .ne 67) 27 91), (27, e1 (.aload_n 0) 28 0), (28, e3 (.getfield 115) 31 12 60 2), (31, ei (.iconst 4) 32 0 (4))],
  [(32, e1 (.iload_n 1) 33 1), (33, e0 (.imul) 34), (34, ei (.iconst 1) 35 0 (1)), (35, e0 (.iadd) 36), (36, e0 (.laload) 37), (37, e1 (.aload_n 0) 38 0), (38, e3 (.getfield 118) 41 12 63 2), (41, ei (.iconst 1) 42 0 (1)), (42, e0 (.laload) 43), (43, e0 (.lcmp) 44), (44, e1 (.ifCond .ne 47) 47 91), (47, e1 (.aload_n 0) 48 0)],
  [(48, e3 (.getfield 115) 51 12 60 2), (51, ei (.iconst 4) 52 0 (4)), (52, e1 (.iload_n 1) 53 1), (53, e0 (.imul) 54), (54, ei (.iconst 2) 55 0 (2)), (55, e0 (.iadd) 56), (56, e0 (.laload) 57), (57, e1 (.aload_n 0) 58 0), (58, e3 (.getfield 118) 61 12 63 2), (61, ei (.iconst 2) 62 0 (2)), (62, e0 (.laload) 63), (63, e0 (.lcmp) 64)],
  [(64, e1 (.ifCond .ne 27) 67 91), (67, e1 (.aload_n 0) 68 0), (68, e3 (.getfield 115) 71 12 60 2), (71, ei (.iconst 4) 72 0 (4)), (72, e1 (.iload_n 1) 73 1), (73, e0 (.imul) 74), (74, ei (.iconst 3) 75 0 (3)), (75, e0 (.iadd) 76), (76, e0 (.laload) 77), (77, e1 (.aload_n 0) 78 0), (78, e3 (.getfield 118) 81 12 63 2)],
  [(81, ei (.iconst 3) 82 0 (3)), (82, e0 (.laload) 83), (83, e0 (.lcmp) 84), (84, e1 (.ifCond .ne 7) 87 91), (87, ei (.iconst 1) 88 0 (1)), (88, e1 (.goto 4) 91 92), (91, ei (.iconst 0) 92 0 (0)), (92, e0 (.ireturn) 93)]]
noncomputable def zE_Mo_isSource (α : Type) : Nat → zX α := fun _ => fun _ _ _ => none
def zc_Mo_isSource : Nat → Bool := fun pc => false
set_option maxRecDepth 100000 in
theorem r_Mo_isSource (a0 : Nat) (a1 : Int32) (S : zM) : f_Mo_isSource a0 a1 S = zrt true zP_Mo_isSource (zE_Mo_isSource (Int32 × zM)) zc_Mo_isSource zkI (fun pc lv st S => none) 1000 0 [some (.ref a0), some (.int a1)] [] S := rfl
theorem G_Mo_isSource {g : zV → Nat → List Value → zM → Prop} {res : (Int32 × zM)} (H : zCl true zP_Mo_isSource (zE_Mo_isSource (Int32 × zM)) zkI res g) (Hw : zWk g) (a0 : Nat) (a1 : Int32) (S : zM) (h : f_Mo_isSource a0 a1 S = some res) : g [some (.ref a0), some (.int a1)] 0 [] S := by
  refine H zc_Mo_isSource _ 1000 _ _ _ _ ((r_Mo_isSource a0 a1 S).symm.trans h) (fun pc lv st S hK => ?_)
  cases hK
set_option maxRecDepth 100000 in
theorem ok_Mo_isSource : zokT 12 [] false 0 0 2 true (some .boolean) cX12_isSource zP_Mo_isSource = true := by decide +kernel
set_option maxRecDepth 100000 in
theorem s_Mo_isSource {l : Launch} {HB : Heap} {b L : Nat} {xs : Nat → Int32} {aK aV : Nat → Nat} {G : va_G} {tc : Nat → ClassId} : zSnd l HB b L xs aK aV G tc (zMT.getD 260 zyD) (fun α => zA_vRI_I 12 f_Mo_isSource) := by
  rw [show zMT.getD 260 zyD = (yX12_isSource, cX12_isSource, 2, (some .boolean), 0, 2, 0, 0) from rfl]
  intro α as S k res h
  unfold zA_vRI_I at h
  dsimp only at h
  split at h
  · rename_i a0 a1
    obtain ⟨p, hp, h⟩ := zbind h
    unfold zcl at hp
    split at hp
    · rename_i hkd
      have hm := zmeth (l := l) (HB := HB) (b := b) (L := L) (xs := xs) (aK := aK) (aV := aV) (G := G) (tc := tc) (q := (yX12_isSource, cX12_isSource, 2, (some .boolean), 0, 2, 0, 0)) (o := 12) (cs := []) (rz := true) (T := zP_Mo_isSource) (E := zE_Mo_isSource (Int32 × zM)) (kr := zkI) (res := p) (v0 := some (.int p.1)) (S0 := p.2) (as := [.ref a0, .int a1]) (S := S) zMT_fine (by decide +kernel) (fun i as S k' h => by
        unfold zE_Mo_isSource at h
        cases h) ok_Mo_isSource rfl (fun v S' h => zkI_inv h) (Nat.le_of_ble_eq_true rfl) (fun g H Hw => Hw _ [some (.ref a0), some (.int a1)] _ _ _ ⟨rfl, rfl, trivial⟩ (G_Mo_isSource H Hw a0 a1 S hp))
      exact ⟨_, _, h, hm.1, rfl, fun _ => ⟨_, _, rfl⟩, (fun _ U H hK hH a r e => by cases e; exact zrecv (ci := 12) (by omega) hkd rfl U H hK hH), hm.2⟩
    · cases hp
  · cases h
def zP_Mo_sources : List (List (Nat × zE)) := [[(0, e1 (.aload_n 0) 1 0), (1, e1 (.aload_n 0) 2 0), (2, e1 (.iload_n 1) 3 1), (3, e1 (.lload_n 2) 4 2), (4, e3 (.invokevirtual 472) 7 0 3 0), (7, e3 (.invokevirtual 458) 10 1 2 0), (10, e1 (.ifCond .eq 5) 13 15), (13, ei (.iconst (-1)) 14 0 (-1)), (14, e0 (.ireturn) 15), (15, e1 (.aload_n 0) 16 0)],
  [(16, e1 (.iload_n 1) 17 1), (17, e3 (.invokevirtual 448) 20 2 2 0), (20, ei (.iconst 0) 21 0 (0)), (21, e1 (.istore 4) 23 4), (23, ei (.iconst 0) 24 0 (0)), (24, e1 (.istore 5) 26 5), (26, e1 (.iload 5) 28 5), (28, e1 (.aload_n 0) 29 0), (29, e3 (.getfield 438) 32 12 61 0)],
  [(32, e1 (.if_icmp .ge 28) 35 60), (35, e1 (.iload 4) 37 4), (37, e1 (.aload_n 0) 38 0), (38, e1 (.iload 5) 40 5), (40, e3 (.invokevirtual 476) 43 3 2 0), (43, e1 (.ifCond .eq 7) 46 50), (46, ei (.iconst 1) 47 0 (1)), (47, e1 (.goto 4) 50 51)],
  [(50, ei (.iconst 0) 51 0 (0)), (51, e0 (.iadd) 52), (52, e1 (.istore 4) 54 4), (54, ei (.iinc 5 1) 57 5 (1)), (57, e1 (.goto (-31)) 60 26), (60, e1 (.iload 4) 62 4), (62, e0 (.ireturn) 63)]]
noncomputable def zE_Mo_sources (α : Type) : Nat → zX α := fun i => bif Nat.beq i 0 then zA_vRIJ_I 12 f_Mo_sourceWhy else bif Nat.beq i 1 then zA_vRI_I 12 f_Mo_isRefused else bif Nat.beq i 2 then zA_vRI_V 12 f_Mo_laysWords else bif Nat.beq i 3 then zA_vRI_I 12 f_Mo_isSource else fun _ _ _ => none
def zc_Mo_sources : Nat → Bool := fun pc => Nat.beq pc 26
def D_Mo_sources_26 (k : Nat → Int32 → Int32 → zM → Option (Int32 × zM)) (lv : zV) (st : List Value) (S : zM) : Option (Int32 × zM) := match lv, st with
  | [some (.ref a0), _, _, _, some (.int a4), some (.int a5)], [] => k a0 a4 a5 S
  | _, _ => none
theorem d_Mo_sources_26 {g : zV → Nat → List Value → zM → Prop} (Hw : zWk g) {k : Nat → Int32 → Int32 → zM → Option (Int32 × zM)} {res : (Int32 × zM)} {lv : zV} {st : List Value} {S : zM} (h : D_Mo_sources_26 k lv st S = some res) (hk : ∀ a0 a4 a5 S, k a0 a4 a5 S = some res → g [some (.ref a0), none, none, none, some (.int a4), some (.int a5)] 26 [] S) : g lv 26 st S := by
  unfold D_Mo_sources_26 at h
  split at h
  · exact Hw _ _ _ _ _ (by simp [zle]) (hk _ _ _ _  h)
  · cases h
set_option maxRecDepth 100000 in
theorem r_Mo_sources_26 (n : Nat) (a0 : Nat) (a4 : Int32) (a5 : Int32) (S : zM) : L_Mo_sources_26 (n + 1) a0 a4 a5 S = zrt false zP_Mo_sources (zE_Mo_sources (Int32 × zM)) zc_Mo_sources zkI (fun pc lv st S => bif Nat.beq pc 26 then D_Mo_sources_26 (L_Mo_sources_26 n) lv st S else none) 1000 26 [some (.ref a0), none, none, none, some (.int a4), some (.int a5)] [] S := rfl
theorem g_Mo_sources_26 {g : zV → Nat → List Value → zM → Prop} {res : (Int32 × zM)} (H : zCl false zP_Mo_sources (zE_Mo_sources (Int32 × zM)) zkI res g) (Hw : zWk g) (n : Nat) : ∀ (a0 : Nat) (a4 : Int32) (a5 : Int32) (S : zM), L_Mo_sources_26 n a0 a4 a5 S = some res → g [some (.ref a0), none, none, none, some (.int a4), some (.int a5)] 26 [] S := by
  induction n with
  | zero => intro a0 a4 a5 S h; cases h
  | succ n ih =>
    intro a0 a4 a5 S h
    refine H zc_Mo_sources _ 1000 _ _ _ _ ((r_Mo_sources_26 n a0 a4 a5 S).symm.trans h) (fun pc lv st S hK => ?_)
    rcases zdis hK with ⟨rfl, hK⟩ | hK
    · exact d_Mo_sources_26 Hw hK ih
    cases hK
set_option maxRecDepth 100000 in
theorem r_Mo_sources (a0 : Nat) (a1 : Int32) (a2 : Int64) (S : zM) : f_Mo_sources a0 a1 a2 S = zrt false zP_Mo_sources (zE_Mo_sources (Int32 × zM)) zc_Mo_sources zkI (fun pc lv st S => bif Nat.beq pc 26 then D_Mo_sources_26 (L_Mo_sources_26 zF) lv st S else none) 1000 0 [some (.ref a0), some (.int a1), some (.long a2), none, none, none] [] S := rfl
theorem G_Mo_sources {g : zV → Nat → List Value → zM → Prop} {res : (Int32 × zM)} (H : zCl false zP_Mo_sources (zE_Mo_sources (Int32 × zM)) zkI res g) (Hw : zWk g) (a0 : Nat) (a1 : Int32) (a2 : Int64) (S : zM) (h : f_Mo_sources a0 a1 a2 S = some res) : g [some (.ref a0), some (.int a1), some (.long a2), none, none, none] 0 [] S := by
  refine H zc_Mo_sources _ 1000 _ _ _ _ ((r_Mo_sources a0 a1 a2 S).symm.trans h) (fun pc lv st S hK => ?_)
  rcases zdis hK with ⟨rfl, hK⟩ | hK
  · exact d_Mo_sources_26 Hw hK (g_Mo_sources_26 H Hw  zF)
  cases hK
set_option maxRecDepth 100000 in
theorem ok_Mo_sources : zokT 12 [259, 214, 233, 260] false 8 196 6 false (some .int) cX12_sources zP_Mo_sources = true := by decide +kernel
set_option maxRecDepth 100000 in
theorem s_Mo_sources {l : Launch} {HB : Heap} {b L : Nat} {xs : Nat → Int32} {aK aV : Nat → Nat} {G : va_G} {tc : Nat → ClassId} (h0 : zSnd l HB b L xs aK aV G tc (zMT.getD 259 zyD) (fun α => zA_vRIJ_I 12 f_Mo_sourceWhy)) (h1 : zSnd l HB b L xs aK aV G tc (zMT.getD 214 zyD) (fun α => zA_vRI_I 12 f_Mo_isRefused)) (h2 : zSnd l HB b L xs aK aV G tc (zMT.getD 233 zyD) (fun α => zA_vRI_V 12 f_Mo_laysWords)) (h3 : zSnd l HB b L xs aK aV G tc (zMT.getD 260 zyD) (fun α => zA_vRI_I 12 f_Mo_isSource)) : zSnd l HB b L xs aK aV G tc (zMT.getD 261 zyD) (fun α => zA_vRIJ_I 12 f_Mo_sources) := by
  rw [show zMT.getD 261 zyD = (yX12_sources, cX12_sources, 6, (some .int), 0, 3, 8, 196) from rfl]
  intro α as S k res h
  unfold zA_vRIJ_I at h
  dsimp only at h
  split at h
  · rename_i a0 a1 a2
    obtain ⟨p, hp, h⟩ := zbind h
    unfold zcl at hp
    split at hp
    · rename_i hkd
      have hm := zmeth (l := l) (HB := HB) (b := b) (L := L) (xs := xs) (aK := aK) (aV := aV) (G := G) (tc := tc) (q := (yX12_sources, cX12_sources, 6, (some .int), 0, 3, 8, 196)) (o := 12) (cs := [259, 214, 233, 260]) (rz := false) (T := zP_Mo_sources) (E := zE_Mo_sources (Int32 × zM)) (kr := zkI) (res := p) (v0 := some (.int p.1)) (S0 := p.2) (as := [.ref a0, .int a1, .long a2]) (S := S) zMT_fine (by decide +kernel) (fun i as S k' h => by
        unfold zE_Mo_sources at h
        rcases zdisf h with ⟨rfl, h⟩ | h
        · exact h0 _ _ _ _ _ h
        rcases zdisf h with ⟨rfl, h⟩ | h
        · exact h1 _ _ _ _ _ h
        rcases zdisf h with ⟨rfl, h⟩ | h
        · exact h2 _ _ _ _ _ h
        rcases zdisf h with ⟨rfl, h⟩ | h
        · exact h3 _ _ _ _ _ h
        cases h) ok_Mo_sources rfl (fun v S' h => zkI_inv h) (Nat.le_of_ble_eq_true rfl) (fun g H Hw => Hw _ [some (.ref a0), some (.int a1), some (.long a2), none, none, none] _ _ _ ⟨rfl, rfl, rfl, trivial⟩ (G_Mo_sources H Hw a0 a1 a2 S hp))
      exact ⟨_, _, h, hm.1, rfl, fun _ => ⟨_, _, rfl⟩, (fun _ U H hK hH a r e => by cases e; exact zrecv (ci := 12) (by omega) hkd rfl U H hK hH), hm.2⟩
    · cases hp
  · cases h
def zP_Census_sourceAt : List (List (Nat × zE)) := [[(0, e1 (.aload_n 0) 1 0), (1, e1 (.iload_n 1) 2 1), (2, e3 (.invokevirtual 74) 5 0 2 0), (5, e1 (.istore 4) 7 4), (7, ei (.iconst 0) 8 0 (0)), (8, e1 (.istore 5) 10 5), (10, ei (.iconst 0) 11 0 (0)), (11, e1 (.istore 6) 13 6), (13, e1 (.iload 6) 15 6), (15, e1 (.iload 4) 17 4)],
  [(17, e1 (.if_icmp .ge 34) 20 51), (20, e1 (.aload_n 0) 21 0), (21, e3 (.getfield 12) 24 2 0 2), (24, e1 (.iload 6) 26 6), (26, e1 (.aload_n 2) 27 2), (27, e3 (.invokevirtual 121) 30 1 3 0), (30, e1 (.ifCond .eq 15) 33 45)],
  [(33, e1 (.iload 5) 35 5), (35, e1 (.iload_n 3) 36 3), (36, e1 (.if_icmp .ne 6) 39 42), (39, e1 (.iload 6) 41 6), (41, e0 (.ireturn) 42), (42, ei (.iinc 5 1) 45 5 (1)), (45, ei (.iinc 6 1) 48 6 (1))],
  [(48, e1 (.goto (-35)) 51 13), (51, ei (.iconst (-1)) 52 0 (-1)), (52, e0 (.ireturn) 53)]]
noncomputable def zE_Census_sourceAt (α : Type) : Nat → zX α := fun i => bif Nat.beq i 0 then zA_vRI_I 2 f_Census_count else bif Nat.beq i 1 then zA_vRIR_I 4 f_Outcomes_cameAs else fun _ _ _ => none
def zc_Census_sourceAt : Nat → Bool := fun pc => Nat.beq pc 13
def D_Census_sourceAt_13 (k : Nat → Nat → Int32 → Int32 → Int32 → Int32 → zM → Option (Int32 × zM)) (lv : zV) (st : List Value) (S : zM) : Option (Int32 × zM) := match lv, st with
  | [some (.ref a0), _, some (.ref a2), some (.int a3), some (.int a4), some (.int a5), some (.int a6)], [] => k a0 a2 a3 a4 a5 a6 S
  | _, _ => none
theorem d_Census_sourceAt_13 {g : zV → Nat → List Value → zM → Prop} (Hw : zWk g) {k : Nat → Nat → Int32 → Int32 → Int32 → Int32 → zM → Option (Int32 × zM)} {res : (Int32 × zM)} {lv : zV} {st : List Value} {S : zM} (h : D_Census_sourceAt_13 k lv st S = some res) (hk : ∀ a0 a2 a3 a4 a5 a6 S, k a0 a2 a3 a4 a5 a6 S = some res → g [some (.ref a0), none, some (.ref a2), some (.int a3), some (.int a4), some (.int a5), some (.int a6)] 13 [] S) : g lv 13 st S := by
  unfold D_Census_sourceAt_13 at h
  split at h
  · exact Hw _ _ _ _ _ (by simp [zle]) (hk _ _ _ _ _ _ _  h)
  · cases h
set_option maxRecDepth 100000 in
theorem r_Census_sourceAt_13 (n : Nat) (a0 : Nat) (a2 : Nat) (a3 : Int32) (a4 : Int32) (a5 : Int32) (a6 : Int32) (S : zM) : L_Census_sourceAt_13 (n + 1) a0 a2 a3 a4 a5 a6 S = zrt false zP_Census_sourceAt (zE_Census_sourceAt (Int32 × zM)) zc_Census_sourceAt zkI (fun pc lv st S => bif Nat.beq pc 13 then D_Census_sourceAt_13 (L_Census_sourceAt_13 n) lv st S else none) 1000 13 [some (.ref a0), none, some (.ref a2), some (.int a3), some (.int a4), some (.int a5), some (.int a6)] [] S := rfl
theorem g_Census_sourceAt_13 {g : zV → Nat → List Value → zM → Prop} {res : (Int32 × zM)} (H : zCl false zP_Census_sourceAt (zE_Census_sourceAt (Int32 × zM)) zkI res g) (Hw : zWk g) (n : Nat) : ∀ (a0 : Nat) (a2 : Nat) (a3 : Int32) (a4 : Int32) (a5 : Int32) (a6 : Int32) (S : zM), L_Census_sourceAt_13 n a0 a2 a3 a4 a5 a6 S = some res → g [some (.ref a0), none, some (.ref a2), some (.int a3), some (.int a4), some (.int a5), some (.int a6)] 13 [] S := by
  induction n with
  | zero => intro a0 a2 a3 a4 a5 a6 S h; cases h
  | succ n ih =>
    intro a0 a2 a3 a4 a5 a6 S h
    refine H zc_Census_sourceAt _ 1000 _ _ _ _ ((r_Census_sourceAt_13 n a0 a2 a3 a4 a5 a6 S).symm.trans h) (fun pc lv st S hK => ?_)
    rcases zdis hK with ⟨rfl, hK⟩ | hK
    · exact d_Census_sourceAt_13 Hw hK ih
    cases hK
set_option maxRecDepth 100000 in
theorem r_Census_sourceAt (a0 : Nat) (a1 : Int32) (a2 : Nat) (a3 : Int32) (S : zM) : f_Census_sourceAt a0 a1 a2 a3 S = zrt false zP_Census_sourceAt (zE_Census_sourceAt (Int32 × zM)) zc_Census_sourceAt zkI (fun pc lv st S => bif Nat.beq pc 13 then D_Census_sourceAt_13 (L_Census_sourceAt_13 zF) lv st S else none) 1000 0 [some (.ref a0), some (.int a1), some (.ref a2), some (.int a3), none, none, none] [] S := rfl
theorem G_Census_sourceAt {g : zV → Nat → List Value → zM → Prop} {res : (Int32 × zM)} (H : zCl false zP_Census_sourceAt (zE_Census_sourceAt (Int32 × zM)) zkI res g) (Hw : zWk g) (a0 : Nat) (a1 : Int32) (a2 : Nat) (a3 : Int32) (S : zM) (h : f_Census_sourceAt a0 a1 a2 a3 S = some res) : g [some (.ref a0), some (.int a1), some (.ref a2), some (.int a3), none, none, none] 0 [] S := by
  refine H zc_Census_sourceAt _ 1000 _ _ _ _ ((r_Census_sourceAt a0 a1 a2 a3 S).symm.trans h) (fun pc lv st S hK => ?_)
  rcases zdis hK with ⟨rfl, hK⟩ | hK
  · exact d_Census_sourceAt_13 Hw hK (g_Census_sourceAt_13 H Hw  zF)
  cases hK
set_option maxRecDepth 100000 in
theorem ok_Census_sourceAt : zokT 2 [219, 255] false 3 69 7 false (some .int) cX2_sourceAt zP_Census_sourceAt = true := by decide +kernel
set_option maxRecDepth 100000 in
theorem s_Census_sourceAt {l : Launch} {HB : Heap} {b L : Nat} {xs : Nat → Int32} {aK aV : Nat → Nat} {G : va_G} {tc : Nat → ClassId} (h0 : zSnd l HB b L xs aK aV G tc (zMT.getD 219 zyD) (fun α => zA_vRI_I 2 f_Census_count)) (h1 : zSnd l HB b L xs aK aV G tc (zMT.getD 255 zyD) (fun α => zA_vRIR_I 4 f_Outcomes_cameAs)) : zSnd l HB b L xs aK aV G tc (zMT.getD 262 zyD) (fun α => zA_vRIRI_I 2 f_Census_sourceAt) := by
  rw [show zMT.getD 262 zyD = (yX2_sourceAt, cX2_sourceAt, 7, (some .int), 0, 4, 3, 69) from rfl]
  intro α as S k res h
  unfold zA_vRIRI_I at h
  dsimp only at h
  split at h
  · rename_i a0 a1 a2 a3
    obtain ⟨p, hp, h⟩ := zbind h
    unfold zcl at hp
    split at hp
    · rename_i hkd
      have hm := zmeth (l := l) (HB := HB) (b := b) (L := L) (xs := xs) (aK := aK) (aV := aV) (G := G) (tc := tc) (q := (yX2_sourceAt, cX2_sourceAt, 7, (some .int), 0, 4, 3, 69)) (o := 2) (cs := [219, 255]) (rz := false) (T := zP_Census_sourceAt) (E := zE_Census_sourceAt (Int32 × zM)) (kr := zkI) (res := p) (v0 := some (.int p.1)) (S0 := p.2) (as := [.ref a0, .int a1, .ref a2, .int a3]) (S := S) zMT_fine (by decide +kernel) (fun i as S k' h => by
        unfold zE_Census_sourceAt at h
        rcases zdisf h with ⟨rfl, h⟩ | h
        · exact h0 _ _ _ _ _ h
        rcases zdisf h with ⟨rfl, h⟩ | h
        · exact h1 _ _ _ _ _ h
        cases h) ok_Census_sourceAt rfl (fun v S' h => zkI_inv h) (Nat.le_of_ble_eq_true rfl) (fun g H Hw => Hw _ [some (.ref a0), some (.int a1), some (.ref a2), some (.int a3), none, none, none] _ _ _ ⟨rfl, rfl, rfl, rfl, trivial⟩ (G_Census_sourceAt H Hw a0 a1 a2 a3 S hp))
      exact ⟨_, _, h, hm.1, rfl, fun _ => ⟨_, _, rfl⟩, (fun _ U H hK hH a r e => by cases e; exact zrecv (ci := 2) (by omega) hkd rfl U H hK hH), hm.2⟩
    · cases hp
  · cases h
def zP_Cl_source : List (List (Nat × zE)) := [[(0, e1 (.aload_n 0) 1 0), (1, e1 (.iload_n 1) 2 1), (2, e1 (.lload_n 2) 3 2), (3, e3 (.invokevirtual 290) 6 0 3 0), (6, e1 (.istore 5) 8 5), (8, e1 (.iload 5) 10 5), (10, e1 (.ifCond .eq 11) 13 21), (13, e1 (.aload_n 0) 14 0), (14, e1 (.iload 5) 16 5)],
  [(16, e3 (.invokevirtual 79) 19 1 2 0), (19, e0 (.i2l) 20), (20, e0 (.lreturn) 21), (21, e1 (.aload_n 0) 22 0), (22, e1 (.iload_n 1) 23 1), (23, e3 (.invokevirtual 265) 26 2 2 0), (26, e1 (.astore 6) 28 6), (28, e1 (.aload 6) 30 6), (30, e1 (.iload_n 1) 31 1), (31, e1 (.aload_n 0) 32 0)],
  [(32, e3 (.getfield 35) 35 11 4 2), (35, e1 (.iload 4) 37 4), (37, e3 (.invokevirtual 298) 40 3 4 0), (40, e1 (.istore 7) 42 7), (42, e1 (.iload 7) 44 7), (44, ei (.iconst (-1)) 45 0 (-1)), (45, e1 (.if_icmp .ne 12) 48 57)],
  [(48, e1 (.aload_n 0) 49 0), (49, ei (.iconst 1) 50 0 (1)), (50, e3 (.invokevirtual 79) 53 1 2 0), (53, e0 (.i2l) 54), (54, e1 (.goto 11) 57 65), (57, e1 (.aload_n 0) 58 0), (58, e1 (.aload 6) 60 6), (60, e1 (.iload 7) 62 7), (62, e3 (.invokevirtual 277) 65 4 3 0)],
  [(65, e0 (.lreturn) 66)]]
noncomputable def zE_Cl_source (α : Type) : Nat → zX α := fun i => bif Nat.beq i 0 then zA_vRIJ_I 11 f_Cl_troubleOfSource else bif Nat.beq i 1 then zA_vRI_I 11 f_Cl_refuse else bif Nat.beq i 2 then zA_vRI_R 11 f_Cl_censusUpTo else bif Nat.beq i 3 then zA_vRIRI_I 2 f_Census_sourceAt else bif Nat.beq i 4 then zA_vRRI_J 11 f_Cl_answerWord else fun _ _ _ => none
def zc_Cl_source : Nat → Bool := fun pc => false
set_option maxRecDepth 100000 in
theorem r_Cl_source (a0 : Nat) (a1 : Int32) (a2 : Int64) (a4 : Int32) (S : zM) : f_Cl_source a0 a1 a2 a4 S = zrt false zP_Cl_source (zE_Cl_source (Int64 × zM)) zc_Cl_source zkJ (fun pc lv st S => none) 1000 0 [some (.ref a0), some (.int a1), some (.long a2), none, some (.int a4), none, none, none] [] S := rfl
theorem G_Cl_source {g : zV → Nat → List Value → zM → Prop} {res : (Int64 × zM)} (H : zCl false zP_Cl_source (zE_Cl_source (Int64 × zM)) zkJ res g) (Hw : zWk g) (a0 : Nat) (a1 : Int32) (a2 : Int64) (a4 : Int32) (S : zM) (h : f_Cl_source a0 a1 a2 a4 S = some res) : g [some (.ref a0), some (.int a1), some (.long a2), none, some (.int a4), none, none, none] 0 [] S := by
  refine H zc_Cl_source _ 1000 _ _ _ _ ((r_Cl_source a0 a1 a2 a4 S).symm.trans h) (fun pc lv st S hK => ?_)
  cases hK
set_option maxRecDepth 100000 in
theorem ok_Cl_source : zokT 11 [254, 16, 227, 262, 239] false 7 212 8 false (some .long) cX11_source zP_Cl_source = true := by decide +kernel
set_option maxRecDepth 100000 in
theorem s_Cl_source {l : Launch} {HB : Heap} {b L : Nat} {xs : Nat → Int32} {aK aV : Nat → Nat} {G : va_G} {tc : Nat → ClassId} (h0 : zSnd l HB b L xs aK aV G tc (zMT.getD 254 zyD) (fun α => zA_vRIJ_I 11 f_Cl_troubleOfSource)) (h1 : zSnd l HB b L xs aK aV G tc (zMT.getD 16 zyD) (fun α => zA_vRI_I 11 f_Cl_refuse)) (h2 : zSnd l HB b L xs aK aV G tc (zMT.getD 227 zyD) (fun α => zA_vRI_R 11 f_Cl_censusUpTo)) (h3 : zSnd l HB b L xs aK aV G tc (zMT.getD 262 zyD) (fun α => zA_vRIRI_I 2 f_Census_sourceAt)) (h4 : zSnd l HB b L xs aK aV G tc (zMT.getD 239 zyD) (fun α => zA_vRRI_J 11 f_Cl_answerWord)) : zSnd l HB b L xs aK aV G tc (zMT.getD 263 zyD) (fun α => zA_vRIJI_J 11 f_Cl_source) := by
  rw [show zMT.getD 263 zyD = (yX11_source, cX11_source, 8, (some .long), 0, 4, 7, 212) from rfl]
  intro α as S k res h
  unfold zA_vRIJI_J at h
  dsimp only at h
  split at h
  · rename_i a0 a1 a2 a4
    obtain ⟨p, hp, h⟩ := zbind h
    unfold zcl at hp
    split at hp
    · rename_i hkd
      have hm := zmeth (l := l) (HB := HB) (b := b) (L := L) (xs := xs) (aK := aK) (aV := aV) (G := G) (tc := tc) (q := (yX11_source, cX11_source, 8, (some .long), 0, 4, 7, 212)) (o := 11) (cs := [254, 16, 227, 262, 239]) (rz := false) (T := zP_Cl_source) (E := zE_Cl_source (Int64 × zM)) (kr := zkJ) (res := p) (v0 := some (.long p.1)) (S0 := p.2) (as := [.ref a0, .int a1, .long a2, .int a4]) (S := S) zMT_fine (by decide +kernel) (fun i as S k' h => by
        unfold zE_Cl_source at h
        rcases zdisf h with ⟨rfl, h⟩ | h
        · exact h0 _ _ _ _ _ h
        rcases zdisf h with ⟨rfl, h⟩ | h
        · exact h1 _ _ _ _ _ h
        rcases zdisf h with ⟨rfl, h⟩ | h
        · exact h2 _ _ _ _ _ h
        rcases zdisf h with ⟨rfl, h⟩ | h
        · exact h3 _ _ _ _ _ h
        rcases zdisf h with ⟨rfl, h⟩ | h
        · exact h4 _ _ _ _ _ h
        cases h) ok_Cl_source rfl (fun v S' h => zkJ_inv h) (Nat.le_of_ble_eq_true rfl) (fun g H Hw => Hw _ [some (.ref a0), some (.int a1), some (.long a2), none, some (.int a4), none, none, none] _ _ _ ⟨rfl, rfl, rfl, rfl, trivial⟩ (G_Cl_source H Hw a0 a1 a2 a4 S hp))
      exact ⟨_, _, h, hm.1, rfl, fun _ => ⟨_, _, rfl⟩, (fun _ U H hK hH a r e => by cases e; exact zrecv (ci := 11) (by omega) hkd rfl U H hK hH), hm.2⟩
    · cases hp
  · cases h
def zP_Mo_source : List (List (Nat × zE)) := [[(0, e1 (.aload_n 0) 1 0), (1, e1 (.aload_n 0) 2 0), (2, e1 (.iload_n 1) 3 1), (3, e1 (.lload_n 2) 4 2), (4, e3 (.invokevirtual 472) 7 0 3 0), (7, e3 (.invokevirtual 458) 10 1 2 0), (10, e1 (.ifCond .eq 7) 13 17), (13, ej (.ldc2_w 464) 16 (-1))],
  [(16, e0 (.lreturn) 17), (17, e1 (.aload_n 0) 18 0), (18, e1 (.iload_n 1) 19 1), (19, e3 (.invokevirtual 448) 22 2 2 0), (22, ei (.iconst 0) 23 0 (0)), (23, e1 (.istore 5) 25 5), (25, ei (.iconst 0) 26 0 (0)), (26, e1 (.istore 6) 28 6), (28, e1 (.iload 6) 30 6), (30, e1 (.aload_n 0) 31 0), (31, e3 (.getfield 438) 34 12 61 0)],
  [(34, e1 (.if_icmp .ge 35) 37 69), (37, e1 (.aload_n 0) 38 0), (38, e1 (.iload 6) 40 6), (40, e3 (.invokevirtual 476) 43 3 2 0), (43, e1 (.ifCond .eq 20) 46 63), (46, e1 (.iload 5) 48 5)],
  [(48, e1 (.iload 4) 50 4), (50, e1 (.if_icmp .ne 10) 53 60), (53, e1 (.aload_n 0) 54 0), (54, e1 (.iload 6) 56 6), (56, e3 (.invokevirtual 466) 59 4 2 0), (59, e0 (.lreturn) 60), (60, ei (.iinc 5 1) 63 5 (1)), (63, ei (.iinc 6 1) 66 6 (1))],
  [(66, e1 (.goto (-38)) 69 28), (69, e1 (.aload_n 0) 70 0), (70, ei (.iconst 1) 71 0 (1)), (71, e3 (.invokevirtual 275) 74 5 2 0), (74, e0 (.i2l) 75), (75, e0 (.lreturn) 76)]]
noncomputable def zE_Mo_source (α : Type) : Nat → zX α := fun i => bif Nat.beq i 0 then zA_vRIJ_I 12 f_Mo_sourceWhy else bif Nat.beq i 1 then zA_vRI_I 12 f_Mo_isRefused else bif Nat.beq i 2 then zA_vRI_V 12 f_Mo_laysWords else bif Nat.beq i 3 then zA_vRI_I 12 f_Mo_isSource else bif Nat.beq i 4 then zA_vRI_J 12 f_Mo_wordOf else bif Nat.beq i 5 then zA_vRI_I 12 f_Mo_no else fun _ _ _ => none
def zc_Mo_source : Nat → Bool := fun pc => Nat.beq pc 28
def D_Mo_source_28 (k : Nat → Int32 → Int32 → Int32 → zM → Option (Int64 × zM)) (lv : zV) (st : List Value) (S : zM) : Option (Int64 × zM) := match lv, st with
  | [some (.ref a0), _, _, _, some (.int a4), some (.int a5), some (.int a6)], [] => k a0 a4 a5 a6 S
  | _, _ => none
theorem d_Mo_source_28 {g : zV → Nat → List Value → zM → Prop} (Hw : zWk g) {k : Nat → Int32 → Int32 → Int32 → zM → Option (Int64 × zM)} {res : (Int64 × zM)} {lv : zV} {st : List Value} {S : zM} (h : D_Mo_source_28 k lv st S = some res) (hk : ∀ a0 a4 a5 a6 S, k a0 a4 a5 a6 S = some res → g [some (.ref a0), none, none, none, some (.int a4), some (.int a5), some (.int a6)] 28 [] S) : g lv 28 st S := by
  unfold D_Mo_source_28 at h
  split at h
  · exact Hw _ _ _ _ _ (by simp [zle]) (hk _ _ _ _ _  h)
  · cases h
set_option maxRecDepth 100000 in
theorem r_Mo_source_28 (n : Nat) (a0 : Nat) (a4 : Int32) (a5 : Int32) (a6 : Int32) (S : zM) : L_Mo_source_28 (n + 1) a0 a4 a5 a6 S = zrt false zP_Mo_source (zE_Mo_source (Int64 × zM)) zc_Mo_source zkJ (fun pc lv st S => bif Nat.beq pc 28 then D_Mo_source_28 (L_Mo_source_28 n) lv st S else none) 1000 28 [some (.ref a0), none, none, none, some (.int a4), some (.int a5), some (.int a6)] [] S := rfl
theorem g_Mo_source_28 {g : zV → Nat → List Value → zM → Prop} {res : (Int64 × zM)} (H : zCl false zP_Mo_source (zE_Mo_source (Int64 × zM)) zkJ res g) (Hw : zWk g) (n : Nat) : ∀ (a0 : Nat) (a4 : Int32) (a5 : Int32) (a6 : Int32) (S : zM), L_Mo_source_28 n a0 a4 a5 a6 S = some res → g [some (.ref a0), none, none, none, some (.int a4), some (.int a5), some (.int a6)] 28 [] S := by
  induction n with
  | zero => intro a0 a4 a5 a6 S h; cases h
  | succ n ih =>
    intro a0 a4 a5 a6 S h
    refine H zc_Mo_source _ 1000 _ _ _ _ ((r_Mo_source_28 n a0 a4 a5 a6 S).symm.trans h) (fun pc lv st S hK => ?_)
    rcases zdis hK with ⟨rfl, hK⟩ | hK
    · exact d_Mo_source_28 Hw hK ih
    cases hK
set_option maxRecDepth 100000 in
theorem r_Mo_source (a0 : Nat) (a1 : Int32) (a2 : Int64) (a4 : Int32) (S : zM) : f_Mo_source a0 a1 a2 a4 S = zrt false zP_Mo_source (zE_Mo_source (Int64 × zM)) zc_Mo_source zkJ (fun pc lv st S => bif Nat.beq pc 28 then D_Mo_source_28 (L_Mo_source_28 zF) lv st S else none) 1000 0 [some (.ref a0), some (.int a1), some (.long a2), none, some (.int a4), none, none] [] S := rfl
theorem G_Mo_source {g : zV → Nat → List Value → zM → Prop} {res : (Int64 × zM)} (H : zCl false zP_Mo_source (zE_Mo_source (Int64 × zM)) zkJ res g) (Hw : zWk g) (a0 : Nat) (a1 : Int32) (a2 : Int64) (a4 : Int32) (S : zM) (h : f_Mo_source a0 a1 a2 a4 S = some res) : g [some (.ref a0), some (.int a1), some (.long a2), none, some (.int a4), none, none] 0 [] S := by
  refine H zc_Mo_source _ 1000 _ _ _ _ ((r_Mo_source a0 a1 a2 a4 S).symm.trans h) (fun pc lv st S hK => ?_)
  rcases zdis hK with ⟨rfl, hK⟩ | hK
  · exact d_Mo_source_28 Hw hK (g_Mo_source_28 H Hw  zF)
  cases hK
set_option maxRecDepth 100000 in
theorem ok_Mo_source : zokT 12 [259, 214, 233, 260, 241, 63] false 8 196 7 false (some .long) cX12_source zP_Mo_source = true := by decide +kernel
set_option maxRecDepth 100000 in
theorem s_Mo_source {l : Launch} {HB : Heap} {b L : Nat} {xs : Nat → Int32} {aK aV : Nat → Nat} {G : va_G} {tc : Nat → ClassId} (h0 : zSnd l HB b L xs aK aV G tc (zMT.getD 259 zyD) (fun α => zA_vRIJ_I 12 f_Mo_sourceWhy)) (h1 : zSnd l HB b L xs aK aV G tc (zMT.getD 214 zyD) (fun α => zA_vRI_I 12 f_Mo_isRefused)) (h2 : zSnd l HB b L xs aK aV G tc (zMT.getD 233 zyD) (fun α => zA_vRI_V 12 f_Mo_laysWords)) (h3 : zSnd l HB b L xs aK aV G tc (zMT.getD 260 zyD) (fun α => zA_vRI_I 12 f_Mo_isSource)) (h4 : zSnd l HB b L xs aK aV G tc (zMT.getD 241 zyD) (fun α => zA_vRI_J 12 f_Mo_wordOf)) (h5 : zSnd l HB b L xs aK aV G tc (zMT.getD 63 zyD) (fun α => zA_vRI_I 12 f_Mo_no)) : zSnd l HB b L xs aK aV G tc (zMT.getD 264 zyD) (fun α => zA_vRIJI_J 12 f_Mo_source) := by
  rw [show zMT.getD 264 zyD = (yX12_source, cX12_source, 7, (some .long), 0, 4, 8, 196) from rfl]
  intro α as S k res h
  unfold zA_vRIJI_J at h
  dsimp only at h
  split at h
  · rename_i a0 a1 a2 a4
    obtain ⟨p, hp, h⟩ := zbind h
    unfold zcl at hp
    split at hp
    · rename_i hkd
      have hm := zmeth (l := l) (HB := HB) (b := b) (L := L) (xs := xs) (aK := aK) (aV := aV) (G := G) (tc := tc) (q := (yX12_source, cX12_source, 7, (some .long), 0, 4, 8, 196)) (o := 12) (cs := [259, 214, 233, 260, 241, 63]) (rz := false) (T := zP_Mo_source) (E := zE_Mo_source (Int64 × zM)) (kr := zkJ) (res := p) (v0 := some (.long p.1)) (S0 := p.2) (as := [.ref a0, .int a1, .long a2, .int a4]) (S := S) zMT_fine (by decide +kernel) (fun i as S k' h => by
        unfold zE_Mo_source at h
        rcases zdisf h with ⟨rfl, h⟩ | h
        · exact h0 _ _ _ _ _ h
        rcases zdisf h with ⟨rfl, h⟩ | h
        · exact h1 _ _ _ _ _ h
        rcases zdisf h with ⟨rfl, h⟩ | h
        · exact h2 _ _ _ _ _ h
        rcases zdisf h with ⟨rfl, h⟩ | h
        · exact h3 _ _ _ _ _ h
        rcases zdisf h with ⟨rfl, h⟩ | h
        · exact h4 _ _ _ _ _ h
        rcases zdisf h with ⟨rfl, h⟩ | h
        · exact h5 _ _ _ _ _ h
        cases h) ok_Mo_source rfl (fun v S' h => zkJ_inv h) (Nat.le_of_ble_eq_true rfl) (fun g H Hw => Hw _ [some (.ref a0), some (.int a1), some (.long a2), none, some (.int a4), none, none] _ _ _ ⟨rfl, rfl, rfl, rfl, trivial⟩ (G_Mo_source H Hw a0 a1 a2 a4 S hp))
      exact ⟨_, _, h, hm.1, rfl, fun _ => ⟨_, _, rfl⟩, (fun _ U H hK hH a r e => by cases e; exact zrecv (ci := 12) (by omega) hkd rfl U H hK hH), hm.2⟩
    · cases hp
  · cases h
def zP_Census_firstLongest : List (List (Nat × zE)) := [[(0, e1 (.aload_n 0) 1 0), (1, e1 (.iload_n 1) 2 1), (2, e3 (.invokevirtual 74) 5 0 2 0), (5, e1 (.istore_n 2) 6 2), (6, ei (.iconst (-1)) 7 0 (-1)), (7, e1 (.istore_n 3) 8 3), (8, ei (.iconst 0) 9 0 (0)), (9, e1 (.istore 4) 11 4), (11, e1 (.iload 4) 13 4), (13, e1 (.iload_n 2) 14 2), (14, e1 (.if_icmp .ge 40) 17 54)],
  [(17, e1 (.aload_n 0) 18 0), (18, e1 (.iload 4) 20 4), (20, e3 (.invokevirtual 120) 23 1 2 0), (23, e1 (.ifCond .lt 25) 26 48), (26, e1 (.iload_n 3) 27 3), (27, ei (.iconst (-1)) 28 0 (-1)), (28, e1 (.if_icmp .eq 17) 31 45), (31, e1 (.aload_n 0) 32 0)],
  [(32, e1 (.iload 4) 34 4), (34, e3 (.invokevirtual 120) 37 1 2 0), (37, e1 (.aload_n 0) 38 0), (38, e1 (.iload_n 3) 39 3), (39, e3 (.invokevirtual 120) 42 1 2 0), (42, e1 (.if_icmp .le 6) 45 48), (45, e1 (.iload 4) 47 4), (47, e1 (.istore_n 3) 48 3)],
  [(48, ei (.iinc 4 1) 51 4 (1)), (51, e1 (.goto (-40)) 54 11), (54, e1 (.iload_n 3) 55 3), (55, e0 (.ireturn) 56)]]
noncomputable def zE_Census_firstLongest (α : Type) : Nat → zX α := fun i => bif Nat.beq i 0 then zA_vRI_I 2 f_Census_count else bif Nat.beq i 1 then zA_vRI_I 2 f_Census_lengthOf else fun _ _ _ => none
def zc_Census_firstLongest : Nat → Bool := fun pc => Nat.beq pc 11
def D_Census_firstLongest_11 (k : Nat → Int32 → Int32 → Int32 → zM → Option (Int32 × zM)) (lv : zV) (st : List Value) (S : zM) : Option (Int32 × zM) := match lv, st with
  | [some (.ref a0), _, some (.int a2), some (.int a3), some (.int a4)], [] => k a0 a2 a3 a4 S
  | _, _ => none
theorem d_Census_firstLongest_11 {g : zV → Nat → List Value → zM → Prop} (Hw : zWk g) {k : Nat → Int32 → Int32 → Int32 → zM → Option (Int32 × zM)} {res : (Int32 × zM)} {lv : zV} {st : List Value} {S : zM} (h : D_Census_firstLongest_11 k lv st S = some res) (hk : ∀ a0 a2 a3 a4 S, k a0 a2 a3 a4 S = some res → g [some (.ref a0), none, some (.int a2), some (.int a3), some (.int a4)] 11 [] S) : g lv 11 st S := by
  unfold D_Census_firstLongest_11 at h
  split at h
  · exact Hw _ _ _ _ _ (by simp [zle]) (hk _ _ _ _ _  h)
  · cases h
set_option maxRecDepth 100000 in
theorem r_Census_firstLongest_11 (n : Nat) (a0 : Nat) (a2 : Int32) (a3 : Int32) (a4 : Int32) (S : zM) : L_Census_firstLongest_11 (n + 1) a0 a2 a3 a4 S = zrt false zP_Census_firstLongest (zE_Census_firstLongest (Int32 × zM)) zc_Census_firstLongest zkI (fun pc lv st S => bif Nat.beq pc 11 then D_Census_firstLongest_11 (L_Census_firstLongest_11 n) lv st S else none) 1000 11 [some (.ref a0), none, some (.int a2), some (.int a3), some (.int a4)] [] S := rfl
theorem g_Census_firstLongest_11 {g : zV → Nat → List Value → zM → Prop} {res : (Int32 × zM)} (H : zCl false zP_Census_firstLongest (zE_Census_firstLongest (Int32 × zM)) zkI res g) (Hw : zWk g) (n : Nat) : ∀ (a0 : Nat) (a2 : Int32) (a3 : Int32) (a4 : Int32) (S : zM), L_Census_firstLongest_11 n a0 a2 a3 a4 S = some res → g [some (.ref a0), none, some (.int a2), some (.int a3), some (.int a4)] 11 [] S := by
  induction n with
  | zero => intro a0 a2 a3 a4 S h; cases h
  | succ n ih =>
    intro a0 a2 a3 a4 S h
    refine H zc_Census_firstLongest _ 1000 _ _ _ _ ((r_Census_firstLongest_11 n a0 a2 a3 a4 S).symm.trans h) (fun pc lv st S hK => ?_)
    rcases zdis hK with ⟨rfl, hK⟩ | hK
    · exact d_Census_firstLongest_11 Hw hK ih
    cases hK
set_option maxRecDepth 100000 in
theorem r_Census_firstLongest (a0 : Nat) (a1 : Int32) (S : zM) : f_Census_firstLongest a0 a1 S = zrt false zP_Census_firstLongest (zE_Census_firstLongest (Int32 × zM)) zc_Census_firstLongest zkI (fun pc lv st S => bif Nat.beq pc 11 then D_Census_firstLongest_11 (L_Census_firstLongest_11 zF) lv st S else none) 1000 0 [some (.ref a0), some (.int a1), none, none, none] [] S := rfl
theorem G_Census_firstLongest {g : zV → Nat → List Value → zM → Prop} {res : (Int32 × zM)} (H : zCl false zP_Census_firstLongest (zE_Census_firstLongest (Int32 × zM)) zkI res g) (Hw : zWk g) (a0 : Nat) (a1 : Int32) (S : zM) (h : f_Census_firstLongest a0 a1 S = some res) : g [some (.ref a0), some (.int a1), none, none, none] 0 [] S := by
  refine H zc_Census_firstLongest _ 1000 _ _ _ _ ((r_Census_firstLongest a0 a1 S).symm.trans h) (fun pc lv st S hK => ?_)
  rcases zdis hK with ⟨rfl, hK⟩ | hK
  · exact d_Census_firstLongest_11 Hw hK (g_Census_firstLongest_11 H Hw  zF)
  cases hK
set_option maxRecDepth 100000 in
theorem ok_Census_firstLongest : zokT 2 [219, 247] false 2 45 5 false (some .int) cX2_firstLongest zP_Census_firstLongest = true := by decide +kernel
set_option maxRecDepth 100000 in
theorem s_Census_firstLongest {l : Launch} {HB : Heap} {b L : Nat} {xs : Nat → Int32} {aK aV : Nat → Nat} {G : va_G} {tc : Nat → ClassId} (h0 : zSnd l HB b L xs aK aV G tc (zMT.getD 219 zyD) (fun α => zA_vRI_I 2 f_Census_count)) (h1 : zSnd l HB b L xs aK aV G tc (zMT.getD 247 zyD) (fun α => zA_vRI_I 2 f_Census_lengthOf)) : zSnd l HB b L xs aK aV G tc (zMT.getD 265 zyD) (fun α => zA_vRI_I 2 f_Census_firstLongest) := by
  rw [show zMT.getD 265 zyD = (yX2_firstLongest, cX2_firstLongest, 5, (some .int), 0, 2, 2, 45) from rfl]
  intro α as S k res h
  unfold zA_vRI_I at h
  dsimp only at h
  split at h
  · rename_i a0 a1
    obtain ⟨p, hp, h⟩ := zbind h
    unfold zcl at hp
    split at hp
    · rename_i hkd
      have hm := zmeth (l := l) (HB := HB) (b := b) (L := L) (xs := xs) (aK := aK) (aV := aV) (G := G) (tc := tc) (q := (yX2_firstLongest, cX2_firstLongest, 5, (some .int), 0, 2, 2, 45)) (o := 2) (cs := [219, 247]) (rz := false) (T := zP_Census_firstLongest) (E := zE_Census_firstLongest (Int32 × zM)) (kr := zkI) (res := p) (v0 := some (.int p.1)) (S0 := p.2) (as := [.ref a0, .int a1]) (S := S) zMT_fine (by decide +kernel) (fun i as S k' h => by
        unfold zE_Census_firstLongest at h
        rcases zdisf h with ⟨rfl, h⟩ | h
        · exact h0 _ _ _ _ _ h
        rcases zdisf h with ⟨rfl, h⟩ | h
        · exact h1 _ _ _ _ _ h
        cases h) ok_Census_firstLongest rfl (fun v S' h => zkI_inv h) (Nat.le_of_ble_eq_true rfl) (fun g H Hw => Hw _ [some (.ref a0), some (.int a1), none, none, none] _ _ _ ⟨rfl, rfl, trivial⟩ (G_Census_firstLongest H Hw a0 a1 S hp))
      exact ⟨_, _, h, hm.1, rfl, fun _ => ⟨_, _, rfl⟩, (fun _ U H hK hH a r e => by cases e; exact zrecv (ci := 2) (by omega) hkd rfl U H hK hH), hm.2⟩
    · cases hp
  · cases h
def zP_Cl_longest : List (List (Nat × zE)) := [[(0, e1 (.aload_n 0) 1 0), (1, e1 (.iload_n 1) 2 1), (2, ei (.iconst 1) 3 0 (1)), (3, e3 (.invokevirtual 258) 6 0 3 0), (6, e1 (.istore_n 2) 7 2), (7, e1 (.iload_n 2) 8 2), (8, e1 (.ifCond .eq 9) 11 17), (11, e1 (.aload_n 0) 12 0), (12, e1 (.iload_n 2) 13 2), (13, e3 (.invokevirtual 79) 16 1 2 0)],
  [(16, e0 (.ireturn) 17), (17, e1 (.aload_n 0) 18 0), (18, e1 (.iload_n 1) 19 1), (19, e3 (.invokevirtual 265) 22 2 2 0), (22, e1 (.astore_n 3) 23 3), (23, e1 (.aload_n 3) 24 3), (24, e1 (.iload_n 1) 25 1), (25, e3 (.invokevirtual 302) 28 3 2 0), (28, e1 (.istore 4) 30 4), (30, e1 (.aload_n 0) 31 0), (31, e1 (.iload 4) 33 4)],
  [(33, ei (.iconst (-1)) 34 0 (-1)), (34, e1 (.if_icmp .ne 8) 37 42), (37, ei (.bipush (-2)) 39 0 (-2)), (39, e1 (.goto 9) 42 48), (42, e1 (.aload_n 3) 43 3), (43, e1 (.iload 4) 45 4), (45, e3 (.invokevirtual 305) 48 4 2 0)],
  [(48, e3 (.invokevirtual 109) 51 5 2 0), (51, e0 (.ireturn) 52)]]
noncomputable def zE_Cl_longest (α : Type) : Nat → zX α := fun i => bif Nat.beq i 0 then zA_vRII_I 11 f_Cl_troubleUpTo else bif Nat.beq i 1 then zA_vRI_I 11 f_Cl_refuse else bif Nat.beq i 2 then zA_vRI_R 11 f_Cl_censusUpTo else bif Nat.beq i 3 then zA_vRI_I 2 f_Census_firstLongest else bif Nat.beq i 4 then zA_vRI_I 2 f_Census_lengthOf else bif Nat.beq i 5 then zA_vRI_I 11 f_Cl_answer else fun _ _ _ => none
def zc_Cl_longest : Nat → Bool := fun pc => false
set_option maxRecDepth 100000 in
theorem r_Cl_longest (a0 : Nat) (a1 : Int32) (S : zM) : f_Cl_longest a0 a1 S = zrt false zP_Cl_longest (zE_Cl_longest (Int32 × zM)) zc_Cl_longest zkI (fun pc lv st S => none) 1000 0 [some (.ref a0), some (.int a1), none, none, none] [] S := rfl
theorem G_Cl_longest {g : zV → Nat → List Value → zM → Prop} {res : (Int32 × zM)} (H : zCl false zP_Cl_longest (zE_Cl_longest (Int32 × zM)) zkI res g) (Hw : zWk g) (a0 : Nat) (a1 : Int32) (S : zM) (h : f_Cl_longest a0 a1 S = some res) : g [some (.ref a0), some (.int a1), none, none, none] 0 [] S := by
  refine H zc_Cl_longest _ 1000 _ _ _ _ ((r_Cl_longest a0 a1 S).symm.trans h) (fun pc lv st S hK => ?_)
  cases hK
set_option maxRecDepth 100000 in
theorem ok_Cl_longest : zokT 11 [210, 16, 227, 265, 247, 59] false 7 212 5 false (some .int) cX11_longest zP_Cl_longest = true := by decide +kernel
set_option maxRecDepth 100000 in
theorem s_Cl_longest {l : Launch} {HB : Heap} {b L : Nat} {xs : Nat → Int32} {aK aV : Nat → Nat} {G : va_G} {tc : Nat → ClassId} (h0 : zSnd l HB b L xs aK aV G tc (zMT.getD 210 zyD) (fun α => zA_vRII_I 11 f_Cl_troubleUpTo)) (h1 : zSnd l HB b L xs aK aV G tc (zMT.getD 16 zyD) (fun α => zA_vRI_I 11 f_Cl_refuse)) (h2 : zSnd l HB b L xs aK aV G tc (zMT.getD 227 zyD) (fun α => zA_vRI_R 11 f_Cl_censusUpTo)) (h3 : zSnd l HB b L xs aK aV G tc (zMT.getD 265 zyD) (fun α => zA_vRI_I 2 f_Census_firstLongest)) (h4 : zSnd l HB b L xs aK aV G tc (zMT.getD 247 zyD) (fun α => zA_vRI_I 2 f_Census_lengthOf)) (h5 : zSnd l HB b L xs aK aV G tc (zMT.getD 59 zyD) (fun α => zA_vRI_I 11 f_Cl_answer)) : zSnd l HB b L xs aK aV G tc (zMT.getD 266 zyD) (fun α => zA_vRI_I 11 f_Cl_longest) := by
  rw [show zMT.getD 266 zyD = (yX11_longest, cX11_longest, 5, (some .int), 0, 2, 7, 212) from rfl]
  intro α as S k res h
  unfold zA_vRI_I at h
  dsimp only at h
  split at h
  · rename_i a0 a1
    obtain ⟨p, hp, h⟩ := zbind h
    unfold zcl at hp
    split at hp
    · rename_i hkd
      have hm := zmeth (l := l) (HB := HB) (b := b) (L := L) (xs := xs) (aK := aK) (aV := aV) (G := G) (tc := tc) (q := (yX11_longest, cX11_longest, 5, (some .int), 0, 2, 7, 212)) (o := 11) (cs := [210, 16, 227, 265, 247, 59]) (rz := false) (T := zP_Cl_longest) (E := zE_Cl_longest (Int32 × zM)) (kr := zkI) (res := p) (v0 := some (.int p.1)) (S0 := p.2) (as := [.ref a0, .int a1]) (S := S) zMT_fine (by decide +kernel) (fun i as S k' h => by
        unfold zE_Cl_longest at h
        rcases zdisf h with ⟨rfl, h⟩ | h
        · exact h0 _ _ _ _ _ h
        rcases zdisf h with ⟨rfl, h⟩ | h
        · exact h1 _ _ _ _ _ h
        rcases zdisf h with ⟨rfl, h⟩ | h
        · exact h2 _ _ _ _ _ h
        rcases zdisf h with ⟨rfl, h⟩ | h
        · exact h3 _ _ _ _ _ h
        rcases zdisf h with ⟨rfl, h⟩ | h
        · exact h4 _ _ _ _ _ h
        rcases zdisf h with ⟨rfl, h⟩ | h
        · exact h5 _ _ _ _ _ h
        cases h) ok_Cl_longest rfl (fun v S' h => zkI_inv h) (Nat.le_of_ble_eq_true rfl) (fun g H Hw => Hw _ [some (.ref a0), some (.int a1), none, none, none] _ _ _ ⟨rfl, rfl, trivial⟩ (G_Cl_longest H Hw a0 a1 S hp))
      exact ⟨_, _, h, hm.1, rfl, fun _ => ⟨_, _, rfl⟩, (fun _ U H hK hH a r e => by cases e; exact zrecv (ci := 11) (by omega) hkd rfl U H hK hH), hm.2⟩
    · cases hp
  · cases h
def zP_Mo_longestAt : List (List (Nat × zE)) := [[(0, e1 (.aload_n 0) 1 0), (1, e1 (.iload_n 1) 2 1), (2, e3 (.invokevirtual 448) 5 0 2 0), (5, ei (.iconst (-1)) 6 0 (-1)), (6, e1 (.istore_n 2) 7 2), (7, ei (.iconst 0) 8 0 (0)), (8, e1 (.istore_n 3) 9 3), (9, e1 (.iload_n 3) 10 3), (10, e1 (.aload_n 0) 11 0), (11, e3 (.getfield 438) 14 12 61 0), (14, e1 (.if_icmp .ge 44) 17 58)],
  [(17, e1 (.aload_n 0) 18 0), (18, e3 (.getfield 109) 21 12 58 2), (21, e1 (.iload_n 3) 22 3), (22, e0 (.iaload) 23), (23, e1 (.ifCond .ne 27) 26 50), (26, e1 (.iload_n 2) 27 2), (27, ei (.iconst (-1)) 28 0 (-1)), (28, e1 (.if_icmp .eq 18) 31 46), (31, e1 (.aload_n 0) 32 0)],
  [(32, e3 (.getfield 112) 35 12 59 2), (35, e1 (.iload_n 3) 36 3), (36, e0 (.iaload) 37), (37, e1 (.aload_n 0) 38 0), (38, e3 (.getfield 112) 41 12 59 2), (41, e1 (.iload_n 2) 42 2), (42, e0 (.iaload) 43), (43, e1 (.if_icmp .le 7) 46 50), (46, e1 (.iload_n 3) 47 3), (47, e1 (.goto 4) 50 51)],
  [(50, e1 (.iload_n 2) 51 2), (51, e1 (.istore_n 2) 52 2), (52, ei (.iinc 3 1) 55 3 (1)), (55, e1 (.goto (-46)) 58 9), (58, e1 (.iload_n 2) 59 2), (59, e0 (.ireturn) 60)]]
noncomputable def zE_Mo_longestAt (α : Type) : Nat → zX α := fun i => bif Nat.beq i 0 then zA_vRI_V 12 f_Mo_laysWords else fun _ _ _ => none
def zc_Mo_longestAt : Nat → Bool := fun pc => Nat.beq pc 9
def D_Mo_longestAt_9 (k : Nat → Int32 → Int32 → zM → Option (Int32 × zM)) (lv : zV) (st : List Value) (S : zM) : Option (Int32 × zM) := match lv, st with
  | [some (.ref a0), _, some (.int a2), some (.int a3)], [] => k a0 a2 a3 S
  | _, _ => none
theorem d_Mo_longestAt_9 {g : zV → Nat → List Value → zM → Prop} (Hw : zWk g) {k : Nat → Int32 → Int32 → zM → Option (Int32 × zM)} {res : (Int32 × zM)} {lv : zV} {st : List Value} {S : zM} (h : D_Mo_longestAt_9 k lv st S = some res) (hk : ∀ a0 a2 a3 S, k a0 a2 a3 S = some res → g [some (.ref a0), none, some (.int a2), some (.int a3)] 9 [] S) : g lv 9 st S := by
  unfold D_Mo_longestAt_9 at h
  split at h
  · exact Hw _ _ _ _ _ (by simp [zle]) (hk _ _ _ _  h)
  · cases h
set_option maxRecDepth 100000 in
theorem r_Mo_longestAt_9 (n : Nat) (a0 : Nat) (a2 : Int32) (a3 : Int32) (S : zM) : L_Mo_longestAt_9 (n + 1) a0 a2 a3 S = zrt false zP_Mo_longestAt (zE_Mo_longestAt (Int32 × zM)) zc_Mo_longestAt zkI (fun pc lv st S => bif Nat.beq pc 9 then D_Mo_longestAt_9 (L_Mo_longestAt_9 n) lv st S else none) 1000 9 [some (.ref a0), none, some (.int a2), some (.int a3)] [] S := rfl
theorem g_Mo_longestAt_9 {g : zV → Nat → List Value → zM → Prop} {res : (Int32 × zM)} (H : zCl false zP_Mo_longestAt (zE_Mo_longestAt (Int32 × zM)) zkI res g) (Hw : zWk g) (n : Nat) : ∀ (a0 : Nat) (a2 : Int32) (a3 : Int32) (S : zM), L_Mo_longestAt_9 n a0 a2 a3 S = some res → g [some (.ref a0), none, some (.int a2), some (.int a3)] 9 [] S := by
  induction n with
  | zero => intro a0 a2 a3 S h; cases h
  | succ n ih =>
    intro a0 a2 a3 S h
    refine H zc_Mo_longestAt _ 1000 _ _ _ _ ((r_Mo_longestAt_9 n a0 a2 a3 S).symm.trans h) (fun pc lv st S hK => ?_)
    rcases zdis hK with ⟨rfl, hK⟩ | hK
    · exact d_Mo_longestAt_9 Hw hK ih
    cases hK
set_option maxRecDepth 100000 in
theorem r_Mo_longestAt (a0 : Nat) (a1 : Int32) (S : zM) : f_Mo_longestAt a0 a1 S = zrt false zP_Mo_longestAt (zE_Mo_longestAt (Int32 × zM)) zc_Mo_longestAt zkI (fun pc lv st S => bif Nat.beq pc 9 then D_Mo_longestAt_9 (L_Mo_longestAt_9 zF) lv st S else none) 1000 0 [some (.ref a0), some (.int a1), none, none] [] S := rfl
theorem G_Mo_longestAt {g : zV → Nat → List Value → zM → Prop} {res : (Int32 × zM)} (H : zCl false zP_Mo_longestAt (zE_Mo_longestAt (Int32 × zM)) zkI res g) (Hw : zWk g) (a0 : Nat) (a1 : Int32) (S : zM) (h : f_Mo_longestAt a0 a1 S = some res) : g [some (.ref a0), some (.int a1), none, none] 0 [] S := by
  refine H zc_Mo_longestAt _ 1000 _ _ _ _ ((r_Mo_longestAt a0 a1 S).symm.trans h) (fun pc lv st S hK => ?_)
  rcases zdis hK with ⟨rfl, hK⟩ | hK
  · exact d_Mo_longestAt_9 Hw hK (g_Mo_longestAt_9 H Hw  zF)
  cases hK
set_option maxRecDepth 100000 in
theorem ok_Mo_longestAt : zokT 12 [233] false 8 196 4 false (some .int) cX12_longestAt zP_Mo_longestAt = true := by decide +kernel
set_option maxRecDepth 100000 in
theorem s_Mo_longestAt {l : Launch} {HB : Heap} {b L : Nat} {xs : Nat → Int32} {aK aV : Nat → Nat} {G : va_G} {tc : Nat → ClassId} (h0 : zSnd l HB b L xs aK aV G tc (zMT.getD 233 zyD) (fun α => zA_vRI_V 12 f_Mo_laysWords)) : zSnd l HB b L xs aK aV G tc (zMT.getD 267 zyD) (fun α => zA_vRI_I 12 f_Mo_longestAt) := by
  rw [show zMT.getD 267 zyD = (yX12_longestAt, cX12_longestAt, 4, (some .int), 0, 2, 8, 196) from rfl]
  intro α as S k res h
  unfold zA_vRI_I at h
  dsimp only at h
  split at h
  · rename_i a0 a1
    obtain ⟨p, hp, h⟩ := zbind h
    unfold zcl at hp
    split at hp
    · rename_i hkd
      have hm := zmeth (l := l) (HB := HB) (b := b) (L := L) (xs := xs) (aK := aK) (aV := aV) (G := G) (tc := tc) (q := (yX12_longestAt, cX12_longestAt, 4, (some .int), 0, 2, 8, 196)) (o := 12) (cs := [233]) (rz := false) (T := zP_Mo_longestAt) (E := zE_Mo_longestAt (Int32 × zM)) (kr := zkI) (res := p) (v0 := some (.int p.1)) (S0 := p.2) (as := [.ref a0, .int a1]) (S := S) zMT_fine (by decide +kernel) (fun i as S k' h => by
        unfold zE_Mo_longestAt at h
        rcases zdisf h with ⟨rfl, h⟩ | h
        · exact h0 _ _ _ _ _ h
        cases h) ok_Mo_longestAt rfl (fun v S' h => zkI_inv h) (Nat.le_of_ble_eq_true rfl) (fun g H Hw => Hw _ [some (.ref a0), some (.int a1), none, none] _ _ _ ⟨rfl, rfl, trivial⟩ (G_Mo_longestAt H Hw a0 a1 S hp))
      exact ⟨_, _, h, hm.1, rfl, fun _ => ⟨_, _, rfl⟩, (fun _ U H hK hH a r e => by cases e; exact zrecv (ci := 12) (by omega) hkd rfl U H hK hH), hm.2⟩
    · cases hp
  · cases h
def zP_Mo_longest : List (List (Nat × zE)) := [[(0, e1 (.aload_n 0) 1 0), (1, e1 (.aload_n 0) 2 0), (2, ei (.iconst 1) 3 0 (1)), (3, e1 (.iload_n 1) 4 1), (4, e3 (.invokevirtual 454) 7 0 3 0), (7, e3 (.invokevirtual 458) 10 1 2 0), (10, e1 (.ifCond .eq 5) 13 15), (13, ei (.iconst (-1)) 14 0 (-1)), (14, e0 (.ireturn) 15), (15, e1 (.aload_n 0) 16 0)],
  [(16, e1 (.iload_n 1) 17 1), (17, e3 (.invokevirtual 479) 20 2 2 0), (20, e1 (.istore_n 2) 21 2), (21, e1 (.iload_n 2) 22 2), (22, ei (.iconst (-1)) 23 0 (-1)), (23, e1 (.if_icmp .ne 8) 26 31), (26, ei (.bipush (-2)) 28 0 (-2)), (28, e1 (.goto 9) 31 37), (31, e1 (.aload_n 0) 32 0)],
  [(32, e3 (.getfield 112) 35 12 59 2), (35, e1 (.iload_n 2) 36 2), (36, e0 (.iaload) 37), (37, e0 (.ireturn) 38)]]
noncomputable def zE_Mo_longest (α : Type) : Nat → zX α := fun i => bif Nat.beq i 0 then zA_vRII_I 12 f_Mo_wordsWhy else bif Nat.beq i 1 then zA_vRI_I 12 f_Mo_isRefused else bif Nat.beq i 2 then zA_vRI_I 12 f_Mo_longestAt else fun _ _ _ => none
def zc_Mo_longest : Nat → Bool := fun pc => false
set_option maxRecDepth 100000 in
theorem r_Mo_longest (a0 : Nat) (a1 : Int32) (S : zM) : f_Mo_longest a0 a1 S = zrt false zP_Mo_longest (zE_Mo_longest (Int32 × zM)) zc_Mo_longest zkI (fun pc lv st S => none) 1000 0 [some (.ref a0), some (.int a1), none] [] S := rfl
theorem G_Mo_longest {g : zV → Nat → List Value → zM → Prop} {res : (Int32 × zM)} (H : zCl false zP_Mo_longest (zE_Mo_longest (Int32 × zM)) zkI res g) (Hw : zWk g) (a0 : Nat) (a1 : Int32) (S : zM) (h : f_Mo_longest a0 a1 S = some res) : g [some (.ref a0), some (.int a1), none] 0 [] S := by
  refine H zc_Mo_longest _ 1000 _ _ _ _ ((r_Mo_longest a0 a1 S).symm.trans h) (fun pc lv st S hK => ?_)
  cases hK
set_option maxRecDepth 100000 in
theorem ok_Mo_longest : zokT 12 [213, 214, 267] false 9 219 3 false (some .int) cX12_longest zP_Mo_longest = true := by decide +kernel
set_option maxRecDepth 100000 in
theorem s_Mo_longest {l : Launch} {HB : Heap} {b L : Nat} {xs : Nat → Int32} {aK aV : Nat → Nat} {G : va_G} {tc : Nat → ClassId} (h0 : zSnd l HB b L xs aK aV G tc (zMT.getD 213 zyD) (fun α => zA_vRII_I 12 f_Mo_wordsWhy)) (h1 : zSnd l HB b L xs aK aV G tc (zMT.getD 214 zyD) (fun α => zA_vRI_I 12 f_Mo_isRefused)) (h2 : zSnd l HB b L xs aK aV G tc (zMT.getD 267 zyD) (fun α => zA_vRI_I 12 f_Mo_longestAt)) : zSnd l HB b L xs aK aV G tc (zMT.getD 268 zyD) (fun α => zA_vRI_I 12 f_Mo_longest) := by
  rw [show zMT.getD 268 zyD = (yX12_longest, cX12_longest, 3, (some .int), 0, 2, 9, 219) from rfl]
  intro α as S k res h
  unfold zA_vRI_I at h
  dsimp only at h
  split at h
  · rename_i a0 a1
    obtain ⟨p, hp, h⟩ := zbind h
    unfold zcl at hp
    split at hp
    · rename_i hkd
      have hm := zmeth (l := l) (HB := HB) (b := b) (L := L) (xs := xs) (aK := aK) (aV := aV) (G := G) (tc := tc) (q := (yX12_longest, cX12_longest, 3, (some .int), 0, 2, 9, 219)) (o := 12) (cs := [213, 214, 267]) (rz := false) (T := zP_Mo_longest) (E := zE_Mo_longest (Int32 × zM)) (kr := zkI) (res := p) (v0 := some (.int p.1)) (S0 := p.2) (as := [.ref a0, .int a1]) (S := S) zMT_fine (by decide +kernel) (fun i as S k' h => by
        unfold zE_Mo_longest at h
        rcases zdisf h with ⟨rfl, h⟩ | h
        · exact h0 _ _ _ _ _ h
        rcases zdisf h with ⟨rfl, h⟩ | h
        · exact h1 _ _ _ _ _ h
        rcases zdisf h with ⟨rfl, h⟩ | h
        · exact h2 _ _ _ _ _ h
        cases h) ok_Mo_longest rfl (fun v S' h => zkI_inv h) (Nat.le_of_ble_eq_true rfl) (fun g H Hw => Hw _ [some (.ref a0), some (.int a1), none] _ _ _ ⟨rfl, rfl, trivial⟩ (G_Mo_longest H Hw a0 a1 S hp))
      exact ⟨_, _, h, hm.1, rfl, fun _ => ⟨_, _, rfl⟩, (fun _ U H hK hH a r e => by cases e; exact zrecv (ci := 12) (by omega) hkd rfl U H hK hH), hm.2⟩
    · cases hp
  · cases h
def zP_Cl_longestOf : List (List (Nat × zE)) := [[(0, e1 (.aload_n 0) 1 0), (1, e1 (.iload_n 1) 2 1), (2, ei (.iconst 1) 3 0 (1)), (3, e3 (.invokevirtual 258) 6 0 3 0), (6, e1 (.istore_n 2) 7 2), (7, e1 (.iload_n 2) 8 2), (8, e1 (.ifCond .eq 10) 11 18), (11, e1 (.aload_n 0) 12 0), (12, e1 (.iload_n 2) 13 2), (13, e3 (.invokevirtual 79) 16 1 2 0)],
  [(16, e0 (.i2l) 17), (17, e0 (.lreturn) 18), (18, e1 (.aload_n 0) 19 0), (19, e1 (.iload_n 1) 20 1), (20, e3 (.invokevirtual 265) 23 2 2 0), (23, e1 (.astore_n 3) 24 3), (24, e1 (.aload_n 3) 25 3), (25, e1 (.iload_n 1) 26 1), (26, e3 (.invokevirtual 302) 29 3 2 0), (29, e1 (.istore 4) 31 4), (31, e1 (.iload 4) 33 4)],
  [(33, ei (.iconst (-1)) 34 0 (-1)), (34, e1 (.if_icmp .ne 12) 37 46), (37, e1 (.aload_n 0) 38 0), (38, ei (.iconst 5) 39 0 (5)), (39, e3 (.invokevirtual 79) 42 1 2 0), (42, e0 (.i2l) 43), (43, e1 (.goto 10) 46 53), (46, e1 (.aload_n 0) 47 0), (47, e1 (.aload_n 3) 48 3)],
  [(48, e1 (.iload 4) 50 4), (50, e3 (.invokevirtual 277) 53 4 3 0), (53, e0 (.lreturn) 54)]]
noncomputable def zE_Cl_longestOf (α : Type) : Nat → zX α := fun i => bif Nat.beq i 0 then zA_vRII_I 11 f_Cl_troubleUpTo else bif Nat.beq i 1 then zA_vRI_I 11 f_Cl_refuse else bif Nat.beq i 2 then zA_vRI_R 11 f_Cl_censusUpTo else bif Nat.beq i 3 then zA_vRI_I 2 f_Census_firstLongest else bif Nat.beq i 4 then zA_vRRI_J 11 f_Cl_answerWord else fun _ _ _ => none
def zc_Cl_longestOf : Nat → Bool := fun pc => false
set_option maxRecDepth 100000 in
theorem r_Cl_longestOf (a0 : Nat) (a1 : Int32) (S : zM) : f_Cl_longestOf a0 a1 S = zrt false zP_Cl_longestOf (zE_Cl_longestOf (Int64 × zM)) zc_Cl_longestOf zkJ (fun pc lv st S => none) 1000 0 [some (.ref a0), some (.int a1), none, none, none] [] S := rfl
theorem G_Cl_longestOf {g : zV → Nat → List Value → zM → Prop} {res : (Int64 × zM)} (H : zCl false zP_Cl_longestOf (zE_Cl_longestOf (Int64 × zM)) zkJ res g) (Hw : zWk g) (a0 : Nat) (a1 : Int32) (S : zM) (h : f_Cl_longestOf a0 a1 S = some res) : g [some (.ref a0), some (.int a1), none, none, none] 0 [] S := by
  refine H zc_Cl_longestOf _ 1000 _ _ _ _ ((r_Cl_longestOf a0 a1 S).symm.trans h) (fun pc lv st S hK => ?_)
  cases hK
set_option maxRecDepth 100000 in
theorem ok_Cl_longestOf : zokT 11 [210, 16, 227, 265, 239] false 7 212 5 false (some .long) cX11_longestOf zP_Cl_longestOf = true := by decide +kernel
set_option maxRecDepth 100000 in
theorem s_Cl_longestOf {l : Launch} {HB : Heap} {b L : Nat} {xs : Nat → Int32} {aK aV : Nat → Nat} {G : va_G} {tc : Nat → ClassId} (h0 : zSnd l HB b L xs aK aV G tc (zMT.getD 210 zyD) (fun α => zA_vRII_I 11 f_Cl_troubleUpTo)) (h1 : zSnd l HB b L xs aK aV G tc (zMT.getD 16 zyD) (fun α => zA_vRI_I 11 f_Cl_refuse)) (h2 : zSnd l HB b L xs aK aV G tc (zMT.getD 227 zyD) (fun α => zA_vRI_R 11 f_Cl_censusUpTo)) (h3 : zSnd l HB b L xs aK aV G tc (zMT.getD 265 zyD) (fun α => zA_vRI_I 2 f_Census_firstLongest)) (h4 : zSnd l HB b L xs aK aV G tc (zMT.getD 239 zyD) (fun α => zA_vRRI_J 11 f_Cl_answerWord)) : zSnd l HB b L xs aK aV G tc (zMT.getD 269 zyD) (fun α => zA_vRI_J 11 f_Cl_longestOf) := by
  rw [show zMT.getD 269 zyD = (yX11_longestOf, cX11_longestOf, 5, (some .long), 0, 2, 7, 212) from rfl]
  intro α as S k res h
  unfold zA_vRI_J at h
  dsimp only at h
  split at h
  · rename_i a0 a1
    obtain ⟨p, hp, h⟩ := zbind h
    unfold zcl at hp
    split at hp
    · rename_i hkd
      have hm := zmeth (l := l) (HB := HB) (b := b) (L := L) (xs := xs) (aK := aK) (aV := aV) (G := G) (tc := tc) (q := (yX11_longestOf, cX11_longestOf, 5, (some .long), 0, 2, 7, 212)) (o := 11) (cs := [210, 16, 227, 265, 239]) (rz := false) (T := zP_Cl_longestOf) (E := zE_Cl_longestOf (Int64 × zM)) (kr := zkJ) (res := p) (v0 := some (.long p.1)) (S0 := p.2) (as := [.ref a0, .int a1]) (S := S) zMT_fine (by decide +kernel) (fun i as S k' h => by
        unfold zE_Cl_longestOf at h
        rcases zdisf h with ⟨rfl, h⟩ | h
        · exact h0 _ _ _ _ _ h
        rcases zdisf h with ⟨rfl, h⟩ | h
        · exact h1 _ _ _ _ _ h
        rcases zdisf h with ⟨rfl, h⟩ | h
        · exact h2 _ _ _ _ _ h
        rcases zdisf h with ⟨rfl, h⟩ | h
        · exact h3 _ _ _ _ _ h
        rcases zdisf h with ⟨rfl, h⟩ | h
        · exact h4 _ _ _ _ _ h
        cases h) ok_Cl_longestOf rfl (fun v S' h => zkJ_inv h) (Nat.le_of_ble_eq_true rfl) (fun g H Hw => Hw _ [some (.ref a0), some (.int a1), none, none, none] _ _ _ ⟨rfl, rfl, trivial⟩ (G_Cl_longestOf H Hw a0 a1 S hp))
      exact ⟨_, _, h, hm.1, rfl, fun _ => ⟨_, _, rfl⟩, (fun _ U H hK hH a r e => by cases e; exact zrecv (ci := 11) (by omega) hkd rfl U H hK hH), hm.2⟩
    · cases hp
  · cases h
def zP_Mo_longestOf : List (List (Nat × zE)) := [[(0, e1 (.aload_n 0) 1 0), (1, e1 (.aload_n 0) 2 0), (2, ei (.iconst 1) 3 0 (1)), (3, e1 (.iload_n 1) 4 1), (4, e3 (.invokevirtual 454) 7 0 3 0), (7, e3 (.invokevirtual 458) 10 1 2 0), (10, e1 (.ifCond .eq 7) 13 17), (13, ej (.ldc2_w 464) 16 (-1))],
  [(16, e0 (.lreturn) 17), (17, e1 (.aload_n 0) 18 0), (18, e1 (.iload_n 1) 19 1), (19, e3 (.invokevirtual 479) 22 2 2 0), (22, e1 (.istore_n 2) 23 2), (23, e1 (.iload_n 2) 24 2), (24, ei (.iconst (-1)) 25 0 (-1)), (25, e1 (.if_icmp .ne 12) 28 37), (28, e1 (.aload_n 0) 29 0), (29, ei (.iconst 5) 30 0 (5)), (30, e3 (.invokevirtual 275) 33 3 2 0)],
  [(33, e0 (.i2l) 34), (34, e1 (.goto 8) 37 42), (37, e1 (.aload_n 0) 38 0), (38, e1 (.iload_n 2) 39 2), (39, e3 (.invokevirtual 466) 42 4 2 0), (42, e0 (.lreturn) 43)]]
noncomputable def zE_Mo_longestOf (α : Type) : Nat → zX α := fun i => bif Nat.beq i 0 then zA_vRII_I 12 f_Mo_wordsWhy else bif Nat.beq i 1 then zA_vRI_I 12 f_Mo_isRefused else bif Nat.beq i 2 then zA_vRI_I 12 f_Mo_longestAt else bif Nat.beq i 3 then zA_vRI_I 12 f_Mo_no else bif Nat.beq i 4 then zA_vRI_J 12 f_Mo_wordOf else fun _ _ _ => none
def zc_Mo_longestOf : Nat → Bool := fun pc => false
set_option maxRecDepth 100000 in
theorem r_Mo_longestOf (a0 : Nat) (a1 : Int32) (S : zM) : f_Mo_longestOf a0 a1 S = zrt false zP_Mo_longestOf (zE_Mo_longestOf (Int64 × zM)) zc_Mo_longestOf zkJ (fun pc lv st S => none) 1000 0 [some (.ref a0), some (.int a1), none] [] S := rfl
theorem G_Mo_longestOf {g : zV → Nat → List Value → zM → Prop} {res : (Int64 × zM)} (H : zCl false zP_Mo_longestOf (zE_Mo_longestOf (Int64 × zM)) zkJ res g) (Hw : zWk g) (a0 : Nat) (a1 : Int32) (S : zM) (h : f_Mo_longestOf a0 a1 S = some res) : g [some (.ref a0), some (.int a1), none] 0 [] S := by
  refine H zc_Mo_longestOf _ 1000 _ _ _ _ ((r_Mo_longestOf a0 a1 S).symm.trans h) (fun pc lv st S hK => ?_)
  cases hK
set_option maxRecDepth 100000 in
theorem ok_Mo_longestOf : zokT 12 [213, 214, 267, 63, 241] false 9 219 3 false (some .long) cX12_longestOf zP_Mo_longestOf = true := by decide +kernel
set_option maxRecDepth 100000 in
theorem s_Mo_longestOf {l : Launch} {HB : Heap} {b L : Nat} {xs : Nat → Int32} {aK aV : Nat → Nat} {G : va_G} {tc : Nat → ClassId} (h0 : zSnd l HB b L xs aK aV G tc (zMT.getD 213 zyD) (fun α => zA_vRII_I 12 f_Mo_wordsWhy)) (h1 : zSnd l HB b L xs aK aV G tc (zMT.getD 214 zyD) (fun α => zA_vRI_I 12 f_Mo_isRefused)) (h2 : zSnd l HB b L xs aK aV G tc (zMT.getD 267 zyD) (fun α => zA_vRI_I 12 f_Mo_longestAt)) (h3 : zSnd l HB b L xs aK aV G tc (zMT.getD 63 zyD) (fun α => zA_vRI_I 12 f_Mo_no)) (h4 : zSnd l HB b L xs aK aV G tc (zMT.getD 241 zyD) (fun α => zA_vRI_J 12 f_Mo_wordOf)) : zSnd l HB b L xs aK aV G tc (zMT.getD 270 zyD) (fun α => zA_vRI_J 12 f_Mo_longestOf) := by
  rw [show zMT.getD 270 zyD = (yX12_longestOf, cX12_longestOf, 3, (some .long), 0, 2, 9, 219) from rfl]
  intro α as S k res h
  unfold zA_vRI_J at h
  dsimp only at h
  split at h
  · rename_i a0 a1
    obtain ⟨p, hp, h⟩ := zbind h
    unfold zcl at hp
    split at hp
    · rename_i hkd
      have hm := zmeth (l := l) (HB := HB) (b := b) (L := L) (xs := xs) (aK := aK) (aV := aV) (G := G) (tc := tc) (q := (yX12_longestOf, cX12_longestOf, 3, (some .long), 0, 2, 9, 219)) (o := 12) (cs := [213, 214, 267, 63, 241]) (rz := false) (T := zP_Mo_longestOf) (E := zE_Mo_longestOf (Int64 × zM)) (kr := zkJ) (res := p) (v0 := some (.long p.1)) (S0 := p.2) (as := [.ref a0, .int a1]) (S := S) zMT_fine (by decide +kernel) (fun i as S k' h => by
        unfold zE_Mo_longestOf at h
        rcases zdisf h with ⟨rfl, h⟩ | h
        · exact h0 _ _ _ _ _ h
        rcases zdisf h with ⟨rfl, h⟩ | h
        · exact h1 _ _ _ _ _ h
        rcases zdisf h with ⟨rfl, h⟩ | h
        · exact h2 _ _ _ _ _ h
        rcases zdisf h with ⟨rfl, h⟩ | h
        · exact h3 _ _ _ _ _ h
        rcases zdisf h with ⟨rfl, h⟩ | h
        · exact h4 _ _ _ _ _ h
        cases h) ok_Mo_longestOf rfl (fun v S' h => zkJ_inv h) (Nat.le_of_ble_eq_true rfl) (fun g H Hw => Hw _ [some (.ref a0), some (.int a1), none] _ _ _ ⟨rfl, rfl, trivial⟩ (G_Mo_longestOf H Hw a0 a1 S hp))
      exact ⟨_, _, h, hm.1, rfl, fun _ => ⟨_, _, rfl⟩, (fun _ U H hK hH a r e => by cases e; exact zrecv (ci := 12) (by omega) hkd rfl U H hK hH), hm.2⟩
    · cases hp
  · cases h
def zP_Census_servingIn : List (List (Nat × zE)) := [[(0, e1 (.aload_n 0) 1 0), (1, e1 (.iload_n 2) 2 2), (2, e3 (.invokevirtual 74) 5 0 2 0), (5, e1 (.istore_n 3) 6 3), (6, ei (.iconst 0) 7 0 (0)), (7, e1 (.istore 4) 9 4), (9, ei (.iconst 0) 10 0 (0)), (10, e1 (.istore 5) 12 5), (12, e1 (.iload 5) 14 5), (14, e1 (.iload_n 3) 15 3), (15, e1 (.if_icmp .ge 30) 18 45)],
  [(18, e1 (.aload_n 0) 19 0), (19, e1 (.iload 5) 21 5), (21, e3 (.invokevirtual 120) 24 1 2 0), (24, e1 (.ifCond .lt 15) 27 39), (27, e1 (.iload 4) 29 4), (29, e1 (.aload_n 0) 30 0), (30, e3 (.getfield 40) 33 2 5 2)],
  [(33, e1 (.iload 5) 35 5), (35, e0 (.iaload) 36), (36, e0 (.ior) 37), (37, e1 (.istore 4) 39 4), (39, ei (.iinc 5 1) 42 5 (1)), (42, e1 (.goto (-30)) 45 12), (45, e1 (.iload 4) 47 4), (47, e1 (.iload_n 1) 48 1)],
  [(48, ei (.bipush 8) 50 0 (8)), (50, e0 (.imul) 51), (51, e0 (.ishr) 52), (52, ei (.bipush 8) 54 0 (8)), (54, e3 (.invokestatic 125) 57 2 1 0), (57, e0 (.iand) 58), (58, e0 (.ireturn) 59)]]
noncomputable def zE_Census_servingIn (α : Type) : Nat → zX α := fun i => bif Nat.beq i 0 then zA_vRI_I 2 f_Census_count else bif Nat.beq i 1 then zA_vRI_I 2 f_Census_lengthOf else bif Nat.beq i 2 then zA_I_I f_Cl_bitsBelow else fun _ _ _ => none
def zc_Census_servingIn : Nat → Bool := fun pc => Nat.beq pc 12
def D_Census_servingIn_12 (k : Nat → Int32 → Int32 → Int32 → Int32 → zM → Option (Int32 × zM)) (lv : zV) (st : List Value) (S : zM) : Option (Int32 × zM) := match lv, st with
  | [some (.ref a0), some (.int a1), _, some (.int a3), some (.int a4), some (.int a5)], [] => k a0 a1 a3 a4 a5 S
  | _, _ => none
theorem d_Census_servingIn_12 {g : zV → Nat → List Value → zM → Prop} (Hw : zWk g) {k : Nat → Int32 → Int32 → Int32 → Int32 → zM → Option (Int32 × zM)} {res : (Int32 × zM)} {lv : zV} {st : List Value} {S : zM} (h : D_Census_servingIn_12 k lv st S = some res) (hk : ∀ a0 a1 a3 a4 a5 S, k a0 a1 a3 a4 a5 S = some res → g [some (.ref a0), some (.int a1), none, some (.int a3), some (.int a4), some (.int a5)] 12 [] S) : g lv 12 st S := by
  unfold D_Census_servingIn_12 at h
  split at h
  · exact Hw _ _ _ _ _ (by simp [zle]) (hk _ _ _ _ _ _  h)
  · cases h
set_option maxRecDepth 100000 in
theorem r_Census_servingIn_12 (n : Nat) (a0 : Nat) (a1 : Int32) (a3 : Int32) (a4 : Int32) (a5 : Int32) (S : zM) : L_Census_servingIn_12 (n + 1) a0 a1 a3 a4 a5 S = zrt false zP_Census_servingIn (zE_Census_servingIn (Int32 × zM)) zc_Census_servingIn zkI (fun pc lv st S => bif Nat.beq pc 12 then D_Census_servingIn_12 (L_Census_servingIn_12 n) lv st S else none) 1000 12 [some (.ref a0), some (.int a1), none, some (.int a3), some (.int a4), some (.int a5)] [] S := rfl
theorem g_Census_servingIn_12 {g : zV → Nat → List Value → zM → Prop} {res : (Int32 × zM)} (H : zCl false zP_Census_servingIn (zE_Census_servingIn (Int32 × zM)) zkI res g) (Hw : zWk g) (n : Nat) : ∀ (a0 : Nat) (a1 : Int32) (a3 : Int32) (a4 : Int32) (a5 : Int32) (S : zM), L_Census_servingIn_12 n a0 a1 a3 a4 a5 S = some res → g [some (.ref a0), some (.int a1), none, some (.int a3), some (.int a4), some (.int a5)] 12 [] S := by
  induction n with
  | zero => intro a0 a1 a3 a4 a5 S h; cases h
  | succ n ih =>
    intro a0 a1 a3 a4 a5 S h
    refine H zc_Census_servingIn _ 1000 _ _ _ _ ((r_Census_servingIn_12 n a0 a1 a3 a4 a5 S).symm.trans h) (fun pc lv st S hK => ?_)
    rcases zdis hK with ⟨rfl, hK⟩ | hK
    · exact d_Census_servingIn_12 Hw hK ih
    cases hK
set_option maxRecDepth 100000 in
theorem r_Census_servingIn (a0 : Nat) (a1 : Int32) (a2 : Int32) (S : zM) : f_Census_servingIn a0 a1 a2 S = zrt false zP_Census_servingIn (zE_Census_servingIn (Int32 × zM)) zc_Census_servingIn zkI (fun pc lv st S => bif Nat.beq pc 12 then D_Census_servingIn_12 (L_Census_servingIn_12 zF) lv st S else none) 1000 0 [some (.ref a0), some (.int a1), some (.int a2), none, none, none] [] S := rfl
theorem G_Census_servingIn {g : zV → Nat → List Value → zM → Prop} {res : (Int32 × zM)} (H : zCl false zP_Census_servingIn (zE_Census_servingIn (Int32 × zM)) zkI res g) (Hw : zWk g) (a0 : Nat) (a1 : Int32) (a2 : Int32) (S : zM) (h : f_Census_servingIn a0 a1 a2 S = some res) : g [some (.ref a0), some (.int a1), some (.int a2), none, none, none] 0 [] S := by
  refine H zc_Census_servingIn _ 1000 _ _ _ _ ((r_Census_servingIn a0 a1 a2 S).symm.trans h) (fun pc lv st S hK => ?_)
  rcases zdis hK with ⟨rfl, hK⟩ | hK
  · exact d_Census_servingIn_12 Hw hK (g_Census_servingIn_12 H Hw  zF)
  cases hK
set_option maxRecDepth 100000 in
theorem ok_Census_servingIn : zokT 2 [219, 247, 101] false 2 45 6 false (some .int) cX2_servingIn zP_Census_servingIn = true := by decide +kernel
set_option maxRecDepth 100000 in
theorem s_Census_servingIn {l : Launch} {HB : Heap} {b L : Nat} {xs : Nat → Int32} {aK aV : Nat → Nat} {G : va_G} {tc : Nat → ClassId} (h0 : zSnd l HB b L xs aK aV G tc (zMT.getD 219 zyD) (fun α => zA_vRI_I 2 f_Census_count)) (h1 : zSnd l HB b L xs aK aV G tc (zMT.getD 247 zyD) (fun α => zA_vRI_I 2 f_Census_lengthOf)) (h2 : zSnd l HB b L xs aK aV G tc (zMT.getD 101 zyD) (fun α => zA_I_I f_Cl_bitsBelow)) : zSnd l HB b L xs aK aV G tc (zMT.getD 271 zyD) (fun α => zA_vRII_I 2 f_Census_servingIn) := by
  rw [show zMT.getD 271 zyD = (yX2_servingIn, cX2_servingIn, 6, (some .int), 0, 3, 2, 45) from rfl]
  intro α as S k res h
  unfold zA_vRII_I at h
  dsimp only at h
  split at h
  · rename_i a0 a1 a2
    obtain ⟨p, hp, h⟩ := zbind h
    unfold zcl at hp
    split at hp
    · rename_i hkd
      have hm := zmeth (l := l) (HB := HB) (b := b) (L := L) (xs := xs) (aK := aK) (aV := aV) (G := G) (tc := tc) (q := (yX2_servingIn, cX2_servingIn, 6, (some .int), 0, 3, 2, 45)) (o := 2) (cs := [219, 247, 101]) (rz := false) (T := zP_Census_servingIn) (E := zE_Census_servingIn (Int32 × zM)) (kr := zkI) (res := p) (v0 := some (.int p.1)) (S0 := p.2) (as := [.ref a0, .int a1, .int a2]) (S := S) zMT_fine (by decide +kernel) (fun i as S k' h => by
        unfold zE_Census_servingIn at h
        rcases zdisf h with ⟨rfl, h⟩ | h
        · exact h0 _ _ _ _ _ h
        rcases zdisf h with ⟨rfl, h⟩ | h
        · exact h1 _ _ _ _ _ h
        rcases zdisf h with ⟨rfl, h⟩ | h
        · exact h2 _ _ _ _ _ h
        cases h) ok_Census_servingIn rfl (fun v S' h => zkI_inv h) (Nat.le_of_ble_eq_true rfl) (fun g H Hw => Hw _ [some (.ref a0), some (.int a1), some (.int a2), none, none, none] _ _ _ ⟨rfl, rfl, rfl, trivial⟩ (G_Census_servingIn H Hw a0 a1 a2 S hp))
      exact ⟨_, _, h, hm.1, rfl, fun _ => ⟨_, _, rfl⟩, (fun _ U H hK hH a r e => by cases e; exact zrecv (ci := 2) (by omega) hkd rfl U H hK hH), hm.2⟩
    · cases hp
  · cases h
def zP_Cl_idle : List (List (Nat × zE)) := [[(0, e1 (.aload_n 0) 1 0), (1, e3 (.getfield 65) 4 11 10 2), (4, e1 (.iload_n 1) 5 1), (5, e3 (.invokevirtual 132) 8 0 2 0), (8, e1 (.astore_n 3) 9 3), (9, e1 (.aload_n 0) 10 0), (10, e1 (.iload_n 2) 11 2), (11, e1 (.aload_n 3) 12 3), (12, e1 (.ifnull 7) 15 19), (15, ei (.iconst 1) 16 0 (1))],
  [(16, e1 (.goto 4) 19 20), (19, ei (.iconst 0) 20 0 (0)), (20, e3 (.invokevirtual 258) 23 1 3 0), (23, e1 (.istore 4) 25 4), (25, e1 (.iload 4) 27 4), (27, e1 (.ifCond .ne 7) 30 34), (30, e1 (.aload_n 3) 31 3), (31, e1 (.ifnonnull 10) 34 41)],
  [(34, e1 (.aload_n 0) 35 0), (35, e1 (.iload 4) 37 4), (37, e3 (.invokevirtual 79) 40 2 2 0), (40, e0 (.ireturn) 41), (41, e1 (.aload_n 0) 42 0), (42, e1 (.aload_n 3) 43 3), (43, e3 (.getfield 136) 46 5 3 0), (46, e3 (.invokestatic 308) 49 3 1 0)],
  [(49, e1 (.aload_n 0) 50 0), (50, e1 (.iload_n 2) 51 2), (51, e3 (.invokevirtual 265) 54 4 2 0), (54, e1 (.iload_n 1) 55 1), (55, e1 (.iload_n 2) 56 2), (56, e3 (.invokevirtual 311) 59 5 3 0), (59, ei (.iconst (-1)) 60 0 (-1)), (60, e0 (.ixor) 61), (61, e0 (.iand) 62), (62, e3 (.invokevirtual 109) 65 6 2 0)],
  [(65, e0 (.ireturn) 66)]]
noncomputable def zE_Cl_idle (α : Type) : Nat → zX α := fun i => bif Nat.beq i 0 then zA_vRI_N 10 f_Script_passAt else bif Nat.beq i 1 then zA_vRII_I 11 f_Cl_troubleUpTo else bif Nat.beq i 2 then zA_vRI_I 11 f_Cl_refuse else bif Nat.beq i 3 then zA_I_I f_Cl_bitsBelow else bif Nat.beq i 4 then zA_vRI_R 11 f_Cl_censusUpTo else bif Nat.beq i 5 then zA_vRII_I 2 f_Census_servingIn else bif Nat.beq i 6 then zA_vRI_I 11 f_Cl_answer else fun _ _ _ => none
def zc_Cl_idle : Nat → Bool := fun pc => false
set_option maxRecDepth 100000 in
theorem r_Cl_idle (a0 : Nat) (a1 : Int32) (a2 : Int32) (S : zM) : f_Cl_idle a0 a1 a2 S = zrt false zP_Cl_idle (zE_Cl_idle (Int32 × zM)) zc_Cl_idle zkI (fun pc lv st S => none) 1000 0 [some (.ref a0), some (.int a1), some (.int a2), none, none] [] S := rfl
theorem G_Cl_idle {g : zV → Nat → List Value → zM → Prop} {res : (Int32 × zM)} (H : zCl false zP_Cl_idle (zE_Cl_idle (Int32 × zM)) zkI res g) (Hw : zWk g) (a0 : Nat) (a1 : Int32) (a2 : Int32) (S : zM) (h : f_Cl_idle a0 a1 a2 S = some res) : g [some (.ref a0), some (.int a1), some (.int a2), none, none] 0 [] S := by
  refine H zc_Cl_idle _ 1000 _ _ _ _ ((r_Cl_idle a0 a1 a2 S).symm.trans h) (fun pc lv st S hK => ?_)
  cases hK
set_option maxRecDepth 100000 in
theorem ok_Cl_idle : zokT 11 [44, 210, 16, 101, 227, 271, 59] false 7 212 5 false (some .int) cX11_idle zP_Cl_idle = true := by decide +kernel
set_option maxRecDepth 100000 in
theorem s_Cl_idle {l : Launch} {HB : Heap} {b L : Nat} {xs : Nat → Int32} {aK aV : Nat → Nat} {G : va_G} {tc : Nat → ClassId} (h0 : zSnd l HB b L xs aK aV G tc (zMT.getD 44 zyD) (fun α => zA_vRI_N 10 f_Script_passAt)) (h1 : zSnd l HB b L xs aK aV G tc (zMT.getD 210 zyD) (fun α => zA_vRII_I 11 f_Cl_troubleUpTo)) (h2 : zSnd l HB b L xs aK aV G tc (zMT.getD 16 zyD) (fun α => zA_vRI_I 11 f_Cl_refuse)) (h3 : zSnd l HB b L xs aK aV G tc (zMT.getD 101 zyD) (fun α => zA_I_I f_Cl_bitsBelow)) (h4 : zSnd l HB b L xs aK aV G tc (zMT.getD 227 zyD) (fun α => zA_vRI_R 11 f_Cl_censusUpTo)) (h5 : zSnd l HB b L xs aK aV G tc (zMT.getD 271 zyD) (fun α => zA_vRII_I 2 f_Census_servingIn)) (h6 : zSnd l HB b L xs aK aV G tc (zMT.getD 59 zyD) (fun α => zA_vRI_I 11 f_Cl_answer)) : zSnd l HB b L xs aK aV G tc (zMT.getD 272 zyD) (fun α => zA_vRII_I 11 f_Cl_idle) := by
  rw [show zMT.getD 272 zyD = (yX11_idle, cX11_idle, 5, (some .int), 0, 3, 7, 212) from rfl]
  intro α as S k res h
  unfold zA_vRII_I at h
  dsimp only at h
  split at h
  · rename_i a0 a1 a2
    obtain ⟨p, hp, h⟩ := zbind h
    unfold zcl at hp
    split at hp
    · rename_i hkd
      have hm := zmeth (l := l) (HB := HB) (b := b) (L := L) (xs := xs) (aK := aK) (aV := aV) (G := G) (tc := tc) (q := (yX11_idle, cX11_idle, 5, (some .int), 0, 3, 7, 212)) (o := 11) (cs := [44, 210, 16, 101, 227, 271, 59]) (rz := false) (T := zP_Cl_idle) (E := zE_Cl_idle (Int32 × zM)) (kr := zkI) (res := p) (v0 := some (.int p.1)) (S0 := p.2) (as := [.ref a0, .int a1, .int a2]) (S := S) zMT_fine (by decide +kernel) (fun i as S k' h => by
        unfold zE_Cl_idle at h
        rcases zdisf h with ⟨rfl, h⟩ | h
        · exact h0 _ _ _ _ _ h
        rcases zdisf h with ⟨rfl, h⟩ | h
        · exact h1 _ _ _ _ _ h
        rcases zdisf h with ⟨rfl, h⟩ | h
        · exact h2 _ _ _ _ _ h
        rcases zdisf h with ⟨rfl, h⟩ | h
        · exact h3 _ _ _ _ _ h
        rcases zdisf h with ⟨rfl, h⟩ | h
        · exact h4 _ _ _ _ _ h
        rcases zdisf h with ⟨rfl, h⟩ | h
        · exact h5 _ _ _ _ _ h
        rcases zdisf h with ⟨rfl, h⟩ | h
        · exact h6 _ _ _ _ _ h
        cases h) ok_Cl_idle rfl (fun v S' h => zkI_inv h) (Nat.le_of_ble_eq_true rfl) (fun g H Hw => Hw _ [some (.ref a0), some (.int a1), some (.int a2), none, none] _ _ _ ⟨rfl, rfl, rfl, trivial⟩ (G_Cl_idle H Hw a0 a1 a2 S hp))
      exact ⟨_, _, h, hm.1, rfl, fun _ => ⟨_, _, rfl⟩, (fun _ U H hK hH a r e => by cases e; exact zrecv (ci := 11) (by omega) hkd rfl U H hK hH), hm.2⟩
    · cases hp
  · cases h
def zP_Mo_idle : List (List (Nat × zE)) := [[(0, e1 (.aload_n 0) 1 0), (1, e1 (.aload_n 0) 2 0), (2, e1 (.aload_n 0) 3 0), (3, e1 (.iload_n 1) 4 1), (4, e3 (.invokevirtual 303) 7 0 2 0), (7, e1 (.iload_n 2) 8 2), (8, e3 (.invokevirtual 454) 11 1 3 0), (11, e3 (.invokevirtual 458) 14 2 2 0), (14, e1 (.ifCond .eq 5) 17 19)],
  [(17, ei (.iconst (-1)) 18 0 (-1)), (18, e0 (.ireturn) 19), (19, ei (.iconst 1) 20 0 (1)), (20, e1 (.aload_n 0) 21 0), (21, e3 (.getfield 20) 24 12 11 2), (24, e1 (.iload_n 1) 25 1), (25, e0 (.iaload) 26), (26, e0 (.ishl) 27), (27, ei (.iconst 1) 28 0 (1)), (28, e0 (.isub) 29), (29, e1 (.istore_n 3) 30 3), (30, ei (.iconst 0) 31 0 (0)), (31, e1 (.istore 4) 33 4)],
  [(33, e1 (.iload 4) 35 4), (35, e1 (.aload_n 0) 36 0), (36, e1 (.iload_n 2) 37 2), (37, e3 (.invokevirtual 435) 40 3 2 0), (40, e1 (.if_icmp .ge 76) 43 116), (43, e1 (.aload_n 0) 44 0), (44, e1 (.iload 4) 46 4), (46, e3 (.invokevirtual 426) 49 4 2 0)],
  [(49, e1 (.aload_n 0) 50 0), (50, ei (.iconst 0) 51 0 (0)), (51, e3 (.invokevirtual 406) 54 5 2 0), (54, e1 (.ifCond .eq 6) 57 60), (57, e1 (.goto 53) 60 110), (60, ei (.iconst 0) 61 0 (0)), (61, e1 (.istore 5) 63 5), (63, e1 (.iload 5) 65 5)],
  [(65, e1 (.aload_n 0) 66 0), (66, e3 (.getfield 20) 69 12 11 2), (69, e1 (.iload_n 1) 70 1), (70, e0 (.iaload) 71), (71, e1 (.if_icmp .ge 39) 74 110), (74, e1 (.iload_n 3) 75 3), (75, e1 (.aload_n 0) 76 0), (76, e3 (.getfield 76) 79 12 44 2), (79, ei (.bipush 8) 81 0 (8))],
  [(81, e1 (.iload_n 1) 82 1), (82, e0 (.imul) 83), (83, e1 (.iload 5) 85 5), (85, e0 (.iadd) 86), (86, e0 (.iaload) 87), (87, e1 (.ifCond .le 12) 90 99), (90, ei (.iconst 1) 91 0 (1)), (91, e1 (.iload 5) 93 5), (93, e0 (.ishl) 94), (94, ei (.iconst (-1)) 95 0 (-1)), (95, e0 (.ixor) 96)],
  [(96, e1 (.goto 6) 99 102), (99, ei (.sipush 511) 102 0 (511)), (102, e0 (.iand) 103), (103, e1 (.istore_n 3) 104 3), (104, ei (.iinc 5 1) 107 5 (1)), (107, e1 (.goto (-44)) 110 63), (110, ei (.iinc 4 1) 113 4 (1))],
  [(113, e1 (.goto (-80)) 116 33), (116, e1 (.iload_n 3) 117 3), (117, e0 (.ireturn) 118)]]
noncomputable def zE_Mo_idle (α : Type) : Nat → zX α := fun i => bif Nat.beq i 0 then zA_vRI_I 12 f_Mo_isPass else bif Nat.beq i 1 then zA_vRII_I 12 f_Mo_wordsWhy else bif Nat.beq i 2 then zA_vRI_I 12 f_Mo_isRefused else bif Nat.beq i 3 then zA_vRI_I 12 f_Mo_manyUpTo else bif Nat.beq i 4 then zA_vRI_V 12 f_Mo_laysIndex else bif Nat.beq i 5 then zA_vRI_I 12 f_Mo_goesAll else fun _ _ _ => none
def zc_Mo_idle : Nat → Bool := fun pc => Nat.beq pc 33 || Nat.beq pc 63 || Nat.beq pc 110
def D_Mo_idle_33 (k : Nat → Int32 → Int32 → Int32 → Int32 → zM → Option (Int32 × zM)) (lv : zV) (st : List Value) (S : zM) : Option (Int32 × zM) := match lv, st with
  | [some (.ref a0), some (.int a1), some (.int a2), some (.int a3), some (.int a4), _], [] => k a0 a1 a2 a3 a4 S
  | _, _ => none
theorem d_Mo_idle_33 {g : zV → Nat → List Value → zM → Prop} (Hw : zWk g) {k : Nat → Int32 → Int32 → Int32 → Int32 → zM → Option (Int32 × zM)} {res : (Int32 × zM)} {lv : zV} {st : List Value} {S : zM} (h : D_Mo_idle_33 k lv st S = some res) (hk : ∀ a0 a1 a2 a3 a4 S, k a0 a1 a2 a3 a4 S = some res → g [some (.ref a0), some (.int a1), some (.int a2), some (.int a3), some (.int a4), none] 33 [] S) : g lv 33 st S := by
  unfold D_Mo_idle_33 at h
  split at h
  · exact Hw _ _ _ _ _ (by simp [zle]) (hk _ _ _ _ _ _  h)
  · cases h
def D_Mo_idle_63 (k : Nat → Int32 → Int32 → Int32 → Int32 → Int32 → zM → Option (Int32 × zM)) (lv : zV) (st : List Value) (S : zM) : Option (Int32 × zM) := match lv, st with
  | [some (.ref a0), some (.int a1), some (.int a2), some (.int a3), some (.int a4), some (.int a5)], [] => k a0 a1 a2 a3 a4 a5 S
  | _, _ => none
theorem d_Mo_idle_63 {g : zV → Nat → List Value → zM → Prop} (Hw : zWk g) {k : Nat → Int32 → Int32 → Int32 → Int32 → Int32 → zM → Option (Int32 × zM)} {res : (Int32 × zM)} {lv : zV} {st : List Value} {S : zM} (h : D_Mo_idle_63 k lv st S = some res) (hk : ∀ a0 a1 a2 a3 a4 a5 S, k a0 a1 a2 a3 a4 a5 S = some res → g [some (.ref a0), some (.int a1), some (.int a2), some (.int a3), some (.int a4), some (.int a5)] 63 [] S) : g lv 63 st S := by
  unfold D_Mo_idle_63 at h
  split at h
  · exact Hw _ _ _ _ _ (by simp [zle]) (hk _ _ _ _ _ _ _  h)
  · cases h
def D_Mo_idle_110 (k : Nat → Int32 → Int32 → Int32 → Int32 → zM → Option (Int32 × zM)) (lv : zV) (st : List Value) (S : zM) : Option (Int32 × zM) := match lv, st with
  | [some (.ref a0), some (.int a1), some (.int a2), some (.int a3), some (.int a4), _], [] => k a0 a1 a2 a3 a4 S
  | _, _ => none
theorem d_Mo_idle_110 {g : zV → Nat → List Value → zM → Prop} (Hw : zWk g) {k : Nat → Int32 → Int32 → Int32 → Int32 → zM → Option (Int32 × zM)} {res : (Int32 × zM)} {lv : zV} {st : List Value} {S : zM} (h : D_Mo_idle_110 k lv st S = some res) (hk : ∀ a0 a1 a2 a3 a4 S, k a0 a1 a2 a3 a4 S = some res → g [some (.ref a0), some (.int a1), some (.int a2), some (.int a3), some (.int a4), none] 110 [] S) : g lv 110 st S := by
  unfold D_Mo_idle_110 at h
  split at h
  · exact Hw _ _ _ _ _ (by simp [zle]) (hk _ _ _ _ _ _  h)
  · cases h
set_option maxRecDepth 100000 in
theorem r_Mo_idle_110 (k33 : Nat → Int32 → Int32 → Int32 → Int32 → zM → Option (Int32 × zM)) (a0 : Nat) (a1 : Int32) (a2 : Int32) (a3 : Int32) (a4 : Int32) (S : zM) : F_Mo_idle_110 k33 a0 a1 a2 a3 a4 S = zrt false zP_Mo_idle (zE_Mo_idle (Int32 × zM)) zc_Mo_idle zkI (fun pc lv st S => bif Nat.beq pc 33 then D_Mo_idle_33 k33 lv st S else none) 1000 110 [some (.ref a0), some (.int a1), some (.int a2), some (.int a3), some (.int a4), none] [] S := rfl
theorem g_Mo_idle_110 {g : zV → Nat → List Value → zM → Prop} {res : (Int32 × zM)} (H : zCl false zP_Mo_idle (zE_Mo_idle (Int32 × zM)) zkI res g) (Hw : zWk g) {k33 : Nat → Int32 → Int32 → Int32 → Int32 → zM → Option (Int32 × zM)} (hk33 : ∀ a0 a1 a2 a3 a4 S, k33 a0 a1 a2 a3 a4 S = some res → g [some (.ref a0), some (.int a1), some (.int a2), some (.int a3), some (.int a4), none] 33 [] S) (a0 : Nat) (a1 : Int32) (a2 : Int32) (a3 : Int32) (a4 : Int32) (S : zM) (h : F_Mo_idle_110 k33 a0 a1 a2 a3 a4 S = some res) : g [some (.ref a0), some (.int a1), some (.int a2), some (.int a3), some (.int a4), none] 110 [] S := by
  refine H zc_Mo_idle _ 1000 _ _ _ _ ((r_Mo_idle_110 k33 a0 a1 a2 a3 a4 S).symm.trans h) (fun pc lv st S hK => ?_)
  rcases zdis hK with ⟨rfl, hK⟩ | hK
  · exact d_Mo_idle_33 Hw hK hk33
  cases hK
set_option maxRecDepth 100000 in
theorem r_Mo_idle_63 (k110 : Nat → Int32 → Int32 → Int32 → Int32 → zM → Option (Int32 × zM)) (n : Nat) (a0 : Nat) (a1 : Int32) (a2 : Int32) (a3 : Int32) (a4 : Int32) (a5 : Int32) (S : zM) : L_Mo_idle_63 k110 (n + 1) a0 a1 a2 a3 a4 a5 S = zrt false zP_Mo_idle (zE_Mo_idle (Int32 × zM)) zc_Mo_idle zkI (fun pc lv st S => bif Nat.beq pc 63 then D_Mo_idle_63 (L_Mo_idle_63 k110 n) lv st S else bif Nat.beq pc 110 then D_Mo_idle_110 k110 lv st S else none) 1000 63 [some (.ref a0), some (.int a1), some (.int a2), some (.int a3), some (.int a4), some (.int a5)] [] S := rfl
theorem g_Mo_idle_63 {g : zV → Nat → List Value → zM → Prop} {res : (Int32 × zM)} (H : zCl false zP_Mo_idle (zE_Mo_idle (Int32 × zM)) zkI res g) (Hw : zWk g) {k110 : Nat → Int32 → Int32 → Int32 → Int32 → zM → Option (Int32 × zM)} (hk110 : ∀ a0 a1 a2 a3 a4 S, k110 a0 a1 a2 a3 a4 S = some res → g [some (.ref a0), some (.int a1), some (.int a2), some (.int a3), some (.int a4), none] 110 [] S) (n : Nat) : ∀ (a0 : Nat) (a1 : Int32) (a2 : Int32) (a3 : Int32) (a4 : Int32) (a5 : Int32) (S : zM), L_Mo_idle_63 k110 n a0 a1 a2 a3 a4 a5 S = some res → g [some (.ref a0), some (.int a1), some (.int a2), some (.int a3), some (.int a4), some (.int a5)] 63 [] S := by
  induction n with
  | zero => intro a0 a1 a2 a3 a4 a5 S h; cases h
  | succ n ih =>
    intro a0 a1 a2 a3 a4 a5 S h
    refine H zc_Mo_idle _ 1000 _ _ _ _ ((r_Mo_idle_63 k110 n a0 a1 a2 a3 a4 a5 S).symm.trans h) (fun pc lv st S hK => ?_)
    rcases zdis hK with ⟨rfl, hK⟩ | hK
    · exact d_Mo_idle_63 Hw hK ih
    rcases zdis hK with ⟨rfl, hK⟩ | hK
    · exact d_Mo_idle_110 Hw hK hk110
    cases hK
set_option maxRecDepth 100000 in
theorem r_Mo_idle_33 (n : Nat) (a0 : Nat) (a1 : Int32) (a2 : Int32) (a3 : Int32) (a4 : Int32) (S : zM) : L_Mo_idle_33 (n + 1) a0 a1 a2 a3 a4 S = zrt false zP_Mo_idle (zE_Mo_idle (Int32 × zM)) zc_Mo_idle zkI (fun pc lv st S => bif Nat.beq pc 63 then D_Mo_idle_63 (L_Mo_idle_63 (F_Mo_idle_110 (L_Mo_idle_33 n)) zF) lv st S else bif Nat.beq pc 110 then D_Mo_idle_110 (F_Mo_idle_110 (L_Mo_idle_33 n)) lv st S else none) 1000 33 [some (.ref a0), some (.int a1), some (.int a2), some (.int a3), some (.int a4), none] [] S := rfl
theorem g_Mo_idle_33 {g : zV → Nat → List Value → zM → Prop} {res : (Int32 × zM)} (H : zCl false zP_Mo_idle (zE_Mo_idle (Int32 × zM)) zkI res g) (Hw : zWk g) (n : Nat) : ∀ (a0 : Nat) (a1 : Int32) (a2 : Int32) (a3 : Int32) (a4 : Int32) (S : zM), L_Mo_idle_33 n a0 a1 a2 a3 a4 S = some res → g [some (.ref a0), some (.int a1), some (.int a2), some (.int a3), some (.int a4), none] 33 [] S := by
  induction n with
  | zero => intro a0 a1 a2 a3 a4 S h; cases h
  | succ n ih =>
    intro a0 a1 a2 a3 a4 S h
    refine H zc_Mo_idle _ 1000 _ _ _ _ ((r_Mo_idle_33 n a0 a1 a2 a3 a4 S).symm.trans h) (fun pc lv st S hK => ?_)
    rcases zdis hK with ⟨rfl, hK⟩ | hK
    · exact d_Mo_idle_63 Hw hK (g_Mo_idle_63 H Hw (g_Mo_idle_110 H Hw ih) zF)
    rcases zdis hK with ⟨rfl, hK⟩ | hK
    · exact d_Mo_idle_110 Hw hK (g_Mo_idle_110 H Hw ih)
    cases hK
set_option maxRecDepth 100000 in
theorem r_Mo_idle (a0 : Nat) (a1 : Int32) (a2 : Int32) (S : zM) : f_Mo_idle a0 a1 a2 S = zrt false zP_Mo_idle (zE_Mo_idle (Int32 × zM)) zc_Mo_idle zkI (fun pc lv st S => bif Nat.beq pc 33 then D_Mo_idle_33 (L_Mo_idle_33 zF) lv st S else none) 1000 0 [some (.ref a0), some (.int a1), some (.int a2), none, none, none] [] S := rfl
theorem G_Mo_idle {g : zV → Nat → List Value → zM → Prop} {res : (Int32 × zM)} (H : zCl false zP_Mo_idle (zE_Mo_idle (Int32 × zM)) zkI res g) (Hw : zWk g) (a0 : Nat) (a1 : Int32) (a2 : Int32) (S : zM) (h : f_Mo_idle a0 a1 a2 S = some res) : g [some (.ref a0), some (.int a1), some (.int a2), none, none, none] 0 [] S := by
  refine H zc_Mo_idle _ 1000 _ _ _ _ ((r_Mo_idle a0 a1 a2 S).symm.trans h) (fun pc lv st S hK => ?_)
  rcases zdis hK with ⟨rfl, hK⟩ | hK
  · exact d_Mo_idle_33 Hw hK (g_Mo_idle_33 H Hw  zF)
  cases hK
set_option maxRecDepth 100000 in
theorem ok_Mo_idle : zokT 12 [94, 213, 214, 215, 231, 184] false 7 173 6 false (some .int) cX12_idle zP_Mo_idle = true := by decide +kernel
set_option maxRecDepth 100000 in
theorem s_Mo_idle {l : Launch} {HB : Heap} {b L : Nat} {xs : Nat → Int32} {aK aV : Nat → Nat} {G : va_G} {tc : Nat → ClassId} (h0 : zSnd l HB b L xs aK aV G tc (zMT.getD 94 zyD) (fun α => zA_vRI_I 12 f_Mo_isPass)) (h1 : zSnd l HB b L xs aK aV G tc (zMT.getD 213 zyD) (fun α => zA_vRII_I 12 f_Mo_wordsWhy)) (h2 : zSnd l HB b L xs aK aV G tc (zMT.getD 214 zyD) (fun α => zA_vRI_I 12 f_Mo_isRefused)) (h3 : zSnd l HB b L xs aK aV G tc (zMT.getD 215 zyD) (fun α => zA_vRI_I 12 f_Mo_manyUpTo)) (h4 : zSnd l HB b L xs aK aV G tc (zMT.getD 231 zyD) (fun α => zA_vRI_V 12 f_Mo_laysIndex)) (h5 : zSnd l HB b L xs aK aV G tc (zMT.getD 184 zyD) (fun α => zA_vRI_I 12 f_Mo_goesAll)) : zSnd l HB b L xs aK aV G tc (zMT.getD 273 zyD) (fun α => zA_vRII_I 12 f_Mo_idle) := by
  rw [show zMT.getD 273 zyD = (yX12_idle, cX12_idle, 6, (some .int), 0, 3, 7, 173) from rfl]
  intro α as S k res h
  unfold zA_vRII_I at h
  dsimp only at h
  split at h
  · rename_i a0 a1 a2
    obtain ⟨p, hp, h⟩ := zbind h
    unfold zcl at hp
    split at hp
    · rename_i hkd
      have hm := zmeth (l := l) (HB := HB) (b := b) (L := L) (xs := xs) (aK := aK) (aV := aV) (G := G) (tc := tc) (q := (yX12_idle, cX12_idle, 6, (some .int), 0, 3, 7, 173)) (o := 12) (cs := [94, 213, 214, 215, 231, 184]) (rz := false) (T := zP_Mo_idle) (E := zE_Mo_idle (Int32 × zM)) (kr := zkI) (res := p) (v0 := some (.int p.1)) (S0 := p.2) (as := [.ref a0, .int a1, .int a2]) (S := S) zMT_fine (by decide +kernel) (fun i as S k' h => by
        unfold zE_Mo_idle at h
        rcases zdisf h with ⟨rfl, h⟩ | h
        · exact h0 _ _ _ _ _ h
        rcases zdisf h with ⟨rfl, h⟩ | h
        · exact h1 _ _ _ _ _ h
        rcases zdisf h with ⟨rfl, h⟩ | h
        · exact h2 _ _ _ _ _ h
        rcases zdisf h with ⟨rfl, h⟩ | h
        · exact h3 _ _ _ _ _ h
        rcases zdisf h with ⟨rfl, h⟩ | h
        · exact h4 _ _ _ _ _ h
        rcases zdisf h with ⟨rfl, h⟩ | h
        · exact h5 _ _ _ _ _ h
        cases h) ok_Mo_idle rfl (fun v S' h => zkI_inv h) (Nat.le_of_ble_eq_true rfl) (fun g H Hw => Hw _ [some (.ref a0), some (.int a1), some (.int a2), none, none, none] _ _ _ ⟨rfl, rfl, rfl, trivial⟩ (G_Mo_idle H Hw a0 a1 a2 S hp))
      exact ⟨_, _, h, hm.1, rfl, fun _ => ⟨_, _, rfl⟩, (fun _ U H hK hH a r e => by cases e; exact zrecv (ci := 12) (by omega) hkd rfl U H hK hH), hm.2⟩
    · cases hp
  · cases h
def zP_Row_addBlock : List (List (Nat × zE)) := [[(0, e1 (.iload_n 3) 1 3), (1, ei (.iconst 1) 2 0 (1)), (2, e0 (.isub) 3), (3, e1 (.istore 4) 5 4), (5, e1 (.iload 4) 7 4), (7, e1 (.ifCond .lt 24) 10 31), (10, e1 (.aload_n 0) 11 0), (11, e1 (.lload_n 1) 12 1), (12, ei (.iconst 3) 13 0 (3)), (13, e1 (.iload 4) 15 4), (15, e0 (.imul) 16)],
  [(16, e0 (.lushr) 17), (17, e0 (.l2i) 18), (18, ei (.bipush 7) 20 0 (7)), (20, e0 (.iand) 21), (21, e3 (.invokevirtual 40) 24 0 2 0), (24, e0 (.pop) 25), (25, ei (.iinc 4 (-1)) 28 4 (-1)), (28, e1 (.goto (-23)) 31 5), (31, e0 (.return_) 32)]]
noncomputable def zE_Row_addBlock (α : Type) : Nat → zX α := fun i => bif Nat.beq i 0 then zA_vRI_I 8 f_Row_add else fun _ _ _ => none
def zc_Row_addBlock : Nat → Bool := fun pc => Nat.beq pc 5
def D_Row_addBlock_5 (k : Nat → Int64 → Int32 → zM → Option zM) (lv : zV) (st : List Value) (S : zM) : Option zM := match lv, st with
  | [some (.ref a0), some (.long a1), _, _, some (.int a4)], [] => k a0 a1 a4 S
  | _, _ => none
theorem d_Row_addBlock_5 {g : zV → Nat → List Value → zM → Prop} (Hw : zWk g) {k : Nat → Int64 → Int32 → zM → Option zM} {res : zM} {lv : zV} {st : List Value} {S : zM} (h : D_Row_addBlock_5 k lv st S = some res) (hk : ∀ a0 a1 a4 S, k a0 a1 a4 S = some res → g [some (.ref a0), some (.long a1), none, none, some (.int a4)] 5 [] S) : g lv 5 st S := by
  unfold D_Row_addBlock_5 at h
  split at h
  · exact Hw _ _ _ _ _ (by simp [zle]) (hk _ _ _ _  h)
  · cases h
set_option maxRecDepth 100000 in
theorem r_Row_addBlock_5 (n : Nat) (a0 : Nat) (a1 : Int64) (a4 : Int32) (S : zM) : L_Row_addBlock_5 (n + 1) a0 a1 a4 S = zrt false zP_Row_addBlock (zE_Row_addBlock zM) zc_Row_addBlock zkV (fun pc lv st S => bif Nat.beq pc 5 then D_Row_addBlock_5 (L_Row_addBlock_5 n) lv st S else none) 1000 5 [some (.ref a0), some (.long a1), none, none, some (.int a4)] [] S := rfl
theorem g_Row_addBlock_5 {g : zV → Nat → List Value → zM → Prop} {res : zM} (H : zCl false zP_Row_addBlock (zE_Row_addBlock zM) zkV res g) (Hw : zWk g) (n : Nat) : ∀ (a0 : Nat) (a1 : Int64) (a4 : Int32) (S : zM), L_Row_addBlock_5 n a0 a1 a4 S = some res → g [some (.ref a0), some (.long a1), none, none, some (.int a4)] 5 [] S := by
  induction n with
  | zero => intro a0 a1 a4 S h; cases h
  | succ n ih =>
    intro a0 a1 a4 S h
    refine H zc_Row_addBlock _ 1000 _ _ _ _ ((r_Row_addBlock_5 n a0 a1 a4 S).symm.trans h) (fun pc lv st S hK => ?_)
    rcases zdis hK with ⟨rfl, hK⟩ | hK
    · exact d_Row_addBlock_5 Hw hK ih
    cases hK
set_option maxRecDepth 100000 in
theorem r_Row_addBlock (a0 : Nat) (a1 : Int64) (a3 : Int32) (S : zM) : f_Row_addBlock a0 a1 a3 S = zrt false zP_Row_addBlock (zE_Row_addBlock zM) zc_Row_addBlock zkV (fun pc lv st S => bif Nat.beq pc 5 then D_Row_addBlock_5 (L_Row_addBlock_5 zF) lv st S else none) 1000 0 [some (.ref a0), some (.long a1), none, some (.int a3), none] [] S := rfl
theorem G_Row_addBlock {g : zV → Nat → List Value → zM → Prop} {res : zM} (H : zCl false zP_Row_addBlock (zE_Row_addBlock zM) zkV res g) (Hw : zWk g) (a0 : Nat) (a1 : Int64) (a3 : Int32) (S : zM) (h : f_Row_addBlock a0 a1 a3 S = some res) : g [some (.ref a0), some (.long a1), none, some (.int a3), none] 0 [] S := by
  refine H zc_Row_addBlock _ 1000 _ _ _ _ ((r_Row_addBlock a0 a1 a3 S).symm.trans h) (fun pc lv st S hK => ?_)
  rcases zdis hK with ⟨rfl, hK⟩ | hK
  · exact d_Row_addBlock_5 Hw hK (g_Row_addBlock_5 H Hw  zF)
  cases hK
set_option maxRecDepth 100000 in
theorem ok_Row_addBlock : zokT 8 [3] false 1 21 5 false none cX8_addBlock zP_Row_addBlock = true := by decide +kernel
set_option maxRecDepth 100000 in
theorem s_Row_addBlock {l : Launch} {HB : Heap} {b L : Nat} {xs : Nat → Int32} {aK aV : Nat → Nat} {G : va_G} {tc : Nat → ClassId} (h0 : zSnd l HB b L xs aK aV G tc (zMT.getD 3 zyD) (fun α => zA_vRI_I 8 f_Row_add)) : zSnd l HB b L xs aK aV G tc (zMT.getD 274 zyD) (fun α => zA_vRJI_V 8 f_Row_addBlock) := by
  rw [show zMT.getD 274 zyD = (yX8_addBlock, cX8_addBlock, 5, none, 0, 3, 1, 21) from rfl]
  intro α as S k res h
  unfold zA_vRJI_V at h
  dsimp only at h
  split at h
  · rename_i a0 a1 a3
    obtain ⟨p, hp, h⟩ := zbind h
    unfold zcl at hp
    split at hp
    · rename_i hkd
      have hm := zmeth (l := l) (HB := HB) (b := b) (L := L) (xs := xs) (aK := aK) (aV := aV) (G := G) (tc := tc) (q := (yX8_addBlock, cX8_addBlock, 5, none, 0, 3, 1, 21)) (o := 8) (cs := [3]) (rz := false) (T := zP_Row_addBlock) (E := zE_Row_addBlock zM) (kr := zkV) (res := p) (v0 := none) (S0 := p) (as := [.ref a0, .long a1, .int a3]) (S := S) zMT_fine (by decide +kernel) (fun i as S k' h => by
        unfold zE_Row_addBlock at h
        rcases zdisf h with ⟨rfl, h⟩ | h
        · exact h0 _ _ _ _ _ h
        cases h) ok_Row_addBlock rfl (fun v S' h => zkV_inv h) (Nat.le_of_ble_eq_true rfl) (fun g H Hw => Hw _ [some (.ref a0), some (.long a1), none, some (.int a3), none] _ _ _ ⟨rfl, rfl, rfl, trivial⟩ (G_Row_addBlock H Hw a0 a1 a3 S hp))
      exact ⟨_, _, h, hm.1, rfl, fun _ => ⟨_, _, rfl⟩, (fun _ U H hK hH a r e => by cases e; exact zrecv (ci := 8) (by omega) hkd rfl U H hK hH), hm.2⟩
    · cases hp
  · cases h
def zP_Outcomes_into : List (List (Nat × zE)) := [[(0, e1 (.aload_n 2) 1 2), (1, e3 (.invokevirtual 57) 4 0 1 0), (4, ei (.iconst 0) 5 0 (0)), (5, e1 (.istore_n 3) 6 3), (6, e1 (.iload_n 3) 7 3), (7, ei (.iconst 3) 8 0 (3)), (8, e1 (.if_icmp .ge 38) 11 46), (11, e1 (.aload_n 0) 12 0), (12, e1 (.iload_n 1) 13 1), (13, e3 (.invokevirtual 42) 16 1 2 0)],
  [(16, e1 (.iload_n 3) 17 3), (17, ei (.bipush 20) 19 0 (20)), (19, e0 (.imul) 20), (20, e0 (.isub) 21), (21, e1 (.istore 4) 23 4), (23, e1 (.aload_n 2) 24 2), (24, e1 (.aload_n 0) 25 0), (25, e1 (.iload_n 1) 26 1), (26, e1 (.iload_n 3) 27 3), (27, e3 (.invokevirtual 45) 30 2 3 0), (30, e1 (.iload 4) 32 4)],
  [(32, ei (.bipush 20) 34 0 (20)), (34, e3 (.invokestatic 60) 37 996 2 0), (37, e3 (.invokevirtual 66) 40 3 3 0), (40, ei (.iinc 3 1) 43 3 (1)), (43, e1 (.goto (-37)) 46 6), (46, e0 (.return_) 47)]]
noncomputable def zE_Outcomes_into (α : Type) : Nat → zX α := fun i => bif Nat.beq i 0 then zA_vR_V 8 f_Row_drop else bif Nat.beq i 1 then zA_vRI_I 4 f_Outcomes_lengthOf else bif Nat.beq i 2 then zA_vRII_J 4 f_Outcomes_blockOf else bif Nat.beq i 3 then zA_vRJI_V 8 f_Row_addBlock else fun _ _ _ => none
def zc_Outcomes_into : Nat → Bool := fun pc => Nat.beq pc 6
def D_Outcomes_into_6 (k : Nat → Int32 → Nat → Int32 → zM → Option zM) (lv : zV) (st : List Value) (S : zM) : Option zM := match lv, st with
  | [some (.ref a0), some (.int a1), some (.ref a2), some (.int a3), _], [] => k a0 a1 a2 a3 S
  | _, _ => none
theorem d_Outcomes_into_6 {g : zV → Nat → List Value → zM → Prop} (Hw : zWk g) {k : Nat → Int32 → Nat → Int32 → zM → Option zM} {res : zM} {lv : zV} {st : List Value} {S : zM} (h : D_Outcomes_into_6 k lv st S = some res) (hk : ∀ a0 a1 a2 a3 S, k a0 a1 a2 a3 S = some res → g [some (.ref a0), some (.int a1), some (.ref a2), some (.int a3), none] 6 [] S) : g lv 6 st S := by
  unfold D_Outcomes_into_6 at h
  split at h
  · exact Hw _ _ _ _ _ (by simp [zle]) (hk _ _ _ _ _  h)
  · cases h
set_option maxRecDepth 100000 in
theorem r_Outcomes_into_6 (n : Nat) (a0 : Nat) (a1 : Int32) (a2 : Nat) (a3 : Int32) (S : zM) : L_Outcomes_into_6 (n + 1) a0 a1 a2 a3 S = zrt false zP_Outcomes_into (zE_Outcomes_into zM) zc_Outcomes_into zkV (fun pc lv st S => bif Nat.beq pc 6 then D_Outcomes_into_6 (L_Outcomes_into_6 n) lv st S else none) 1000 6 [some (.ref a0), some (.int a1), some (.ref a2), some (.int a3), none] [] S := rfl
theorem g_Outcomes_into_6 {g : zV → Nat → List Value → zM → Prop} {res : zM} (H : zCl false zP_Outcomes_into (zE_Outcomes_into zM) zkV res g) (Hw : zWk g) (n : Nat) : ∀ (a0 : Nat) (a1 : Int32) (a2 : Nat) (a3 : Int32) (S : zM), L_Outcomes_into_6 n a0 a1 a2 a3 S = some res → g [some (.ref a0), some (.int a1), some (.ref a2), some (.int a3), none] 6 [] S := by
  induction n with
  | zero => intro a0 a1 a2 a3 S h; cases h
  | succ n ih =>
    intro a0 a1 a2 a3 S h
    refine H zc_Outcomes_into _ 1000 _ _ _ _ ((r_Outcomes_into_6 n a0 a1 a2 a3 S).symm.trans h) (fun pc lv st S hK => ?_)
    rcases zdis hK with ⟨rfl, hK⟩ | hK
    · exact d_Outcomes_into_6 Hw hK ih
    cases hK
set_option maxRecDepth 100000 in
theorem r_Outcomes_into (a0 : Nat) (a1 : Int32) (a2 : Nat) (S : zM) : f_Outcomes_into a0 a1 a2 S = zrt false zP_Outcomes_into (zE_Outcomes_into zM) zc_Outcomes_into zkV (fun pc lv st S => bif Nat.beq pc 6 then D_Outcomes_into_6 (L_Outcomes_into_6 zF) lv st S else none) 1000 0 [some (.ref a0), some (.int a1), some (.ref a2), none, none] [] S := rfl
theorem G_Outcomes_into {g : zV → Nat → List Value → zM → Prop} {res : zM} (H : zCl false zP_Outcomes_into (zE_Outcomes_into zM) zkV res g) (Hw : zWk g) (a0 : Nat) (a1 : Int32) (a2 : Nat) (S : zM) (h : f_Outcomes_into a0 a1 a2 S = some res) : g [some (.ref a0), some (.int a1), some (.ref a2), none, none] 0 [] S := by
  refine H zc_Outcomes_into _ 1000 _ _ _ _ ((r_Outcomes_into a0 a1 a2 S).symm.trans h) (fun pc lv st S hK => ?_)
  rcases zdis hK with ⟨rfl, hK⟩ | hK
  · exact d_Outcomes_into_6 Hw hK (g_Outcomes_into_6 H Hw  zF)
  cases hK
set_option maxRecDepth 100000 in
theorem ok_Outcomes_into : zokT 4 [36, 246, 222, 274] false 2 45 5 false none cX4_into zP_Outcomes_into = true := by decide +kernel
set_option maxRecDepth 100000 in
theorem s_Outcomes_into {l : Launch} {HB : Heap} {b L : Nat} {xs : Nat → Int32} {aK aV : Nat → Nat} {G : va_G} {tc : Nat → ClassId} (h0 : zSnd l HB b L xs aK aV G tc (zMT.getD 36 zyD) (fun α => zA_vR_V 8 f_Row_drop)) (h1 : zSnd l HB b L xs aK aV G tc (zMT.getD 246 zyD) (fun α => zA_vRI_I 4 f_Outcomes_lengthOf)) (h2 : zSnd l HB b L xs aK aV G tc (zMT.getD 222 zyD) (fun α => zA_vRII_J 4 f_Outcomes_blockOf)) (h3 : zSnd l HB b L xs aK aV G tc (zMT.getD 274 zyD) (fun α => zA_vRJI_V 8 f_Row_addBlock)) : zSnd l HB b L xs aK aV G tc (zMT.getD 275 zyD) (fun α => zA_vRIR_V 4 f_Outcomes_into) := by
  rw [show zMT.getD 275 zyD = (yX4_into, cX4_into, 5, none, 0, 3, 2, 45) from rfl]
  intro α as S k res h
  unfold zA_vRIR_V at h
  dsimp only at h
  split at h
  · rename_i a0 a1 a2
    obtain ⟨p, hp, h⟩ := zbind h
    unfold zcl at hp
    split at hp
    · rename_i hkd
      have hm := zmeth (l := l) (HB := HB) (b := b) (L := L) (xs := xs) (aK := aK) (aV := aV) (G := G) (tc := tc) (q := (yX4_into, cX4_into, 5, none, 0, 3, 2, 45)) (o := 4) (cs := [36, 246, 222, 274]) (rz := false) (T := zP_Outcomes_into) (E := zE_Outcomes_into zM) (kr := zkV) (res := p) (v0 := none) (S0 := p) (as := [.ref a0, .int a1, .ref a2]) (S := S) zMT_fine (by decide +kernel) (fun i as S k' h => by
        unfold zE_Outcomes_into at h
        rcases zdisf h with ⟨rfl, h⟩ | h
        · exact h0 _ _ _ _ _ h
        rcases zdisf h with ⟨rfl, h⟩ | h
        · exact h1 _ _ _ _ _ h
        rcases zdisf h with ⟨rfl, h⟩ | h
        · exact h2 _ _ _ _ _ h
        rcases zdisf h with ⟨rfl, h⟩ | h
        · exact h3 _ _ _ _ _ h
        cases h) ok_Outcomes_into rfl (fun v S' h => zkV_inv h) (Nat.le_of_ble_eq_true rfl) (fun g H Hw => Hw _ [some (.ref a0), some (.int a1), some (.ref a2), none, none] _ _ _ ⟨rfl, rfl, rfl, trivial⟩ (G_Outcomes_into H Hw a0 a1 a2 S hp))
      exact ⟨_, _, h, hm.1, rfl, fun _ => ⟨_, _, rfl⟩, (fun _ U H hK hH a r e => by cases e; exact zrecv (ci := 4) (by omega) hkd rfl U H hK hH), hm.2⟩
    · cases hp
  · cases h
def zP_Census_comesBack : List (List (Nat × zE)) := [[(0, e1 (.aload_n 0) 1 0), (1, e3 (.getfield 70) 4 2 9 3), (4, e1 (.ifnonnull 5) 7 9), (7, ei (.iconst 0) 8 0 (0)), (8, e0 (.ireturn) 9), (9, e1 (.aload_n 0) 10 0), (10, e3 (.getfield 12) 13 2 0 2), (13, e1 (.iload_n 1) 14 1), (14, e1 (.aload_n 0) 15 0), (15, e3 (.getfield 37) 18 2 4 2)],
  [(18, e3 (.invokevirtual 132) 21 0 3 0), (21, e1 (.aload_n 0) 22 0), (22, e3 (.getfield 33) 25 2 3 2), (25, e1 (.aload_n 0) 26 0), (26, e1 (.iload_n 1) 27 1), (27, e3 (.invokevirtual 78) 30 1 2 0), (30, e3 (.invokevirtual 82) 33 2 2 0)],
  [(33, e0 (.pop) 34), (34, e1 (.aload_n 0) 35 0), (35, e3 (.getfield 24) 38 2 2 2), (38, e1 (.aload_n 0) 39 0), (39, e3 (.getfield 70) 42 2 9 2), (42, e1 (.aload_n 0) 43 0), (43, e3 (.getfield 37) 46 2 4 2), (46, ei (.iconst 1) 47 0 (1)), (47, e3 (.invokevirtual 86) 50 3 4 0)],
  [(50, e1 (.ifCond .ne 24) 53 74), (53, e1 (.aload_n 0) 54 0), (54, e3 (.getfield 24) 57 2 2 2), (57, e3 (.getfield 90) 60 1 3 2), (60, e1 (.aload_n 0) 61 0), (61, e3 (.getfield 33) 64 2 3 2)],
  [(64, e3 (.invokevirtual 136) 67 4 2 0), (67, e1 (.ifCond .eq 7) 70 74), (70, ei (.iconst 1) 71 0 (1)), (71, e1 (.goto 4) 74 75), (74, ei (.iconst 0) 75 0 (0)), (75, e0 (.ireturn) 76)]]
noncomputable def zE_Census_comesBack (α : Type) : Nat → zX α := fun i => bif Nat.beq i 0 then zA_vRIR_V 4 f_Outcomes_into else bif Nat.beq i 1 then zA_vRI_J 2 f_Census_spelled else bif Nat.beq i 2 then zA_vRJ_I 8 f_Row_takeWord else bif Nat.beq i 3 then zA_vRRRI_I 1 f_Carrier_bring else bif Nat.beq i 4 then zA_vRR_I 8 f_Row_same else fun _ _ _ => none
def zc_Census_comesBack : Nat → Bool := fun pc => false
set_option maxRecDepth 100000 in
theorem r_Census_comesBack (a0 : Nat) (a1 : Int32) (S : zM) : f_Census_comesBack a0 a1 S = zrt true zP_Census_comesBack (zE_Census_comesBack (Int32 × zM)) zc_Census_comesBack zkI (fun pc lv st S => none) 1000 0 [some (.ref a0), some (.int a1)] [] S := rfl
theorem G_Census_comesBack {g : zV → Nat → List Value → zM → Prop} {res : (Int32 × zM)} (H : zCl true zP_Census_comesBack (zE_Census_comesBack (Int32 × zM)) zkI res g) (Hw : zWk g) (a0 : Nat) (a1 : Int32) (S : zM) (h : f_Census_comesBack a0 a1 S = some res) : g [some (.ref a0), some (.int a1)] 0 [] S := by
  refine H zc_Census_comesBack _ 1000 _ _ _ _ ((r_Census_comesBack a0 a1 S).symm.trans h) (fun pc lv st S hK => ?_)
  cases hK
set_option maxRecDepth 100000 in
theorem ok_Census_comesBack : zokT 2 [275, 220, 149, 175, 173] false 5 166 2 true (some .boolean) cX2_comesBack zP_Census_comesBack = true := by decide +kernel
set_option maxRecDepth 100000 in
theorem s_Census_comesBack {l : Launch} {HB : Heap} {b L : Nat} {xs : Nat → Int32} {aK aV : Nat → Nat} {G : va_G} {tc : Nat → ClassId} (h0 : zSnd l HB b L xs aK aV G tc (zMT.getD 275 zyD) (fun α => zA_vRIR_V 4 f_Outcomes_into)) (h1 : zSnd l HB b L xs aK aV G tc (zMT.getD 220 zyD) (fun α => zA_vRI_J 2 f_Census_spelled)) (h2 : zSnd l HB b L xs aK aV G tc (zMT.getD 149 zyD) (fun α => zA_vRJ_I 8 f_Row_takeWord)) (h3 : zSnd l HB b L xs aK aV G tc (zMT.getD 175 zyD) (fun α => zA_vRRRI_I 1 f_Carrier_bring)) (h4 : zSnd l HB b L xs aK aV G tc (zMT.getD 173 zyD) (fun α => zA_vRR_I 8 f_Row_same)) : zSnd l HB b L xs aK aV G tc (zMT.getD 276 zyD) (fun α => zA_vRI_I 2 f_Census_comesBack) := by
  rw [show zMT.getD 276 zyD = (yX2_comesBack, cX2_comesBack, 2, (some .boolean), 0, 2, 5, 166) from rfl]
  intro α as S k res h
  unfold zA_vRI_I at h
  dsimp only at h
  split at h
  · rename_i a0 a1
    obtain ⟨p, hp, h⟩ := zbind h
    unfold zcl at hp
    split at hp
    · rename_i hkd
      have hm := zmeth (l := l) (HB := HB) (b := b) (L := L) (xs := xs) (aK := aK) (aV := aV) (G := G) (tc := tc) (q := (yX2_comesBack, cX2_comesBack, 2, (some .boolean), 0, 2, 5, 166)) (o := 2) (cs := [275, 220, 149, 175, 173]) (rz := true) (T := zP_Census_comesBack) (E := zE_Census_comesBack (Int32 × zM)) (kr := zkI) (res := p) (v0 := some (.int p.1)) (S0 := p.2) (as := [.ref a0, .int a1]) (S := S) zMT_fine (by decide +kernel) (fun i as S k' h => by
        unfold zE_Census_comesBack at h
        rcases zdisf h with ⟨rfl, h⟩ | h
        · exact h0 _ _ _ _ _ h
        rcases zdisf h with ⟨rfl, h⟩ | h
        · exact h1 _ _ _ _ _ h
        rcases zdisf h with ⟨rfl, h⟩ | h
        · exact h2 _ _ _ _ _ h
        rcases zdisf h with ⟨rfl, h⟩ | h
        · exact h3 _ _ _ _ _ h
        rcases zdisf h with ⟨rfl, h⟩ | h
        · exact h4 _ _ _ _ _ h
        cases h) ok_Census_comesBack rfl (fun v S' h => zkI_inv h) (Nat.le_of_ble_eq_true rfl) (fun g H Hw => Hw _ [some (.ref a0), some (.int a1)] _ _ _ ⟨rfl, rfl, trivial⟩ (G_Census_comesBack H Hw a0 a1 S hp))
      exact ⟨_, _, h, hm.1, rfl, fun _ => ⟨_, _, rfl⟩, (fun _ U H hK hH a r e => by cases e; exact zrecv (ci := 2) (by omega) hkd rfl U H hK hH), hm.2⟩
    · cases hp
  · cases h
def zP_Census_learnBack : List (List (Nat × zE)) := [[(0, e1 (.aload_n 0) 1 0), (1, e1 (.iload_n 1) 2 1), (2, e3 (.invokevirtual 74) 5 0 2 0), (5, e1 (.istore_n 2) 6 2), (6, e1 (.aload_n 0) 7 0), (7, e3 (.getfield 67) 10 2 11 0), (10, e1 (.istore_n 3) 11 3), (11, e1 (.iload_n 3) 12 3), (12, e1 (.iload_n 2) 13 2), (13, e1 (.if_icmp .ge 36) 16 49)],
  [(16, e1 (.aload_n 0) 17 0), (17, e3 (.getfield 47) 20 2 7 2), (20, e1 (.iload_n 3) 21 3), (21, e1 (.aload_n 0) 22 0), (22, e1 (.iload_n 3) 23 3), (23, e3 (.invokevirtual 120) 26 1 2 0), (26, e1 (.ifCond .lt 15) 29 41), (29, e1 (.aload_n 0) 30 0), (30, e1 (.iload_n 3) 31 3), (31, e3 (.invokevirtual 128) 34 2 2 0)],
  [(34, e1 (.ifCond .eq 7) 37 41), (37, ei (.iconst 1) 38 0 (1)), (38, e1 (.goto 4) 41 42), (41, ei (.iconst 0) 42 0 (0)), (42, e0 (.bastore) 43), (43, ei (.iinc 3 1) 46 3 (1)), (46, e1 (.goto (-35)) 49 11)],
  [(49, e1 (.aload_n 0) 50 0), (50, e1 (.aload_n 0) 51 0), (51, e3 (.getfield 67) 54 2 11 0), (54, e1 (.iload_n 2) 55 2), (55, e3 (.invokestatic 98) 58 997 2 0), (58, e3 (.putfield 67) 61 2 11 0), (61, e0 (.return_) 62)]]
noncomputable def zE_Census_learnBack (α : Type) : Nat → zX α := fun i => bif Nat.beq i 0 then zA_vRI_I 2 f_Census_count else bif Nat.beq i 1 then zA_vRI_I 2 f_Census_lengthOf else bif Nat.beq i 2 then zA_vRI_I 2 f_Census_comesBack else fun _ _ _ => none
def zc_Census_learnBack : Nat → Bool := fun pc => Nat.beq pc 11
def D_Census_learnBack_11 (k : Nat → Int32 → Int32 → zM → Option zM) (lv : zV) (st : List Value) (S : zM) : Option zM := match lv, st with
  | [some (.ref a0), _, some (.int a2), some (.int a3)], [] => k a0 a2 a3 S
  | _, _ => none
theorem d_Census_learnBack_11 {g : zV → Nat → List Value → zM → Prop} (Hw : zWk g) {k : Nat → Int32 → Int32 → zM → Option zM} {res : zM} {lv : zV} {st : List Value} {S : zM} (h : D_Census_learnBack_11 k lv st S = some res) (hk : ∀ a0 a2 a3 S, k a0 a2 a3 S = some res → g [some (.ref a0), none, some (.int a2), some (.int a3)] 11 [] S) : g lv 11 st S := by
  unfold D_Census_learnBack_11 at h
  split at h
  · exact Hw _ _ _ _ _ (by simp [zle]) (hk _ _ _ _  h)
  · cases h
set_option maxRecDepth 100000 in
theorem r_Census_learnBack_11 (n : Nat) (a0 : Nat) (a2 : Int32) (a3 : Int32) (S : zM) : L_Census_learnBack_11 (n + 1) a0 a2 a3 S = zrt false zP_Census_learnBack (zE_Census_learnBack zM) zc_Census_learnBack zkV (fun pc lv st S => bif Nat.beq pc 11 then D_Census_learnBack_11 (L_Census_learnBack_11 n) lv st S else none) 1000 11 [some (.ref a0), none, some (.int a2), some (.int a3)] [] S := rfl
theorem g_Census_learnBack_11 {g : zV → Nat → List Value → zM → Prop} {res : zM} (H : zCl false zP_Census_learnBack (zE_Census_learnBack zM) zkV res g) (Hw : zWk g) (n : Nat) : ∀ (a0 : Nat) (a2 : Int32) (a3 : Int32) (S : zM), L_Census_learnBack_11 n a0 a2 a3 S = some res → g [some (.ref a0), none, some (.int a2), some (.int a3)] 11 [] S := by
  induction n with
  | zero => intro a0 a2 a3 S h; cases h
  | succ n ih =>
    intro a0 a2 a3 S h
    refine H zc_Census_learnBack _ 1000 _ _ _ _ ((r_Census_learnBack_11 n a0 a2 a3 S).symm.trans h) (fun pc lv st S hK => ?_)
    rcases zdis hK with ⟨rfl, hK⟩ | hK
    · exact d_Census_learnBack_11 Hw hK ih
    cases hK
set_option maxRecDepth 100000 in
theorem r_Census_learnBack (a0 : Nat) (a1 : Int32) (S : zM) : f_Census_learnBack a0 a1 S = zrt false zP_Census_learnBack (zE_Census_learnBack zM) zc_Census_learnBack zkV (fun pc lv st S => bif Nat.beq pc 11 then D_Census_learnBack_11 (L_Census_learnBack_11 zF) lv st S else none) 1000 0 [some (.ref a0), some (.int a1), none, none] [] S := rfl
theorem G_Census_learnBack {g : zV → Nat → List Value → zM → Prop} {res : zM} (H : zCl false zP_Census_learnBack (zE_Census_learnBack zM) zkV res g) (Hw : zWk g) (a0 : Nat) (a1 : Int32) (S : zM) (h : f_Census_learnBack a0 a1 S = some res) : g [some (.ref a0), some (.int a1), none, none] 0 [] S := by
  refine H zc_Census_learnBack _ 1000 _ _ _ _ ((r_Census_learnBack a0 a1 S).symm.trans h) (fun pc lv st S hK => ?_)
  rcases zdis hK with ⟨rfl, hK⟩ | hK
  · exact d_Census_learnBack_11 Hw hK (g_Census_learnBack_11 H Hw  zF)
  cases hK
set_option maxRecDepth 100000 in
theorem ok_Census_learnBack : zokT 2 [219, 247, 276] false 6 187 4 false none cX2_learnBack zP_Census_learnBack = true := by decide +kernel
set_option maxRecDepth 100000 in
theorem s_Census_learnBack {l : Launch} {HB : Heap} {b L : Nat} {xs : Nat → Int32} {aK aV : Nat → Nat} {G : va_G} {tc : Nat → ClassId} (h0 : zSnd l HB b L xs aK aV G tc (zMT.getD 219 zyD) (fun α => zA_vRI_I 2 f_Census_count)) (h1 : zSnd l HB b L xs aK aV G tc (zMT.getD 247 zyD) (fun α => zA_vRI_I 2 f_Census_lengthOf)) (h2 : zSnd l HB b L xs aK aV G tc (zMT.getD 276 zyD) (fun α => zA_vRI_I 2 f_Census_comesBack)) : zSnd l HB b L xs aK aV G tc (zMT.getD 277 zyD) (fun α => zA_vRI_V 2 f_Census_learnBack) := by
  rw [show zMT.getD 277 zyD = (yX2_learnBack, cX2_learnBack, 4, none, 0, 2, 6, 187) from rfl]
  intro α as S k res h
  unfold zA_vRI_V at h
  dsimp only at h
  split at h
  · rename_i a0 a1
    obtain ⟨p, hp, h⟩ := zbind h
    unfold zcl at hp
    split at hp
    · rename_i hkd
      have hm := zmeth (l := l) (HB := HB) (b := b) (L := L) (xs := xs) (aK := aK) (aV := aV) (G := G) (tc := tc) (q := (yX2_learnBack, cX2_learnBack, 4, none, 0, 2, 6, 187)) (o := 2) (cs := [219, 247, 276]) (rz := false) (T := zP_Census_learnBack) (E := zE_Census_learnBack zM) (kr := zkV) (res := p) (v0 := none) (S0 := p) (as := [.ref a0, .int a1]) (S := S) zMT_fine (by decide +kernel) (fun i as S k' h => by
        unfold zE_Census_learnBack at h
        rcases zdisf h with ⟨rfl, h⟩ | h
        · exact h0 _ _ _ _ _ h
        rcases zdisf h with ⟨rfl, h⟩ | h
        · exact h1 _ _ _ _ _ h
        rcases zdisf h with ⟨rfl, h⟩ | h
        · exact h2 _ _ _ _ _ h
        cases h) ok_Census_learnBack rfl (fun v S' h => zkV_inv h) (Nat.le_of_ble_eq_true rfl) (fun g H Hw => Hw _ [some (.ref a0), some (.int a1), none, none] _ _ _ ⟨rfl, rfl, trivial⟩ (G_Census_learnBack H Hw a0 a1 S hp))
      exact ⟨_, _, h, hm.1, rfl, fun _ => ⟨_, _, rfl⟩, (fun _ U H hK hH a r e => by cases e; exact zrecv (ci := 2) (by omega) hkd rfl U H hK hH), hm.2⟩
    · cases hp
  · cases h
def zP_Census_countBack : List (List (Nat × zE)) := [[(0, e1 (.aload_n 0) 1 0), (1, e1 (.iload_n 1) 2 1), (2, e3 (.invokevirtual 74) 5 0 2 0), (5, e1 (.istore_n 2) 6 2), (6, ei (.iconst 0) 7 0 (0)), (7, e1 (.istore_n 3) 8 3), (8, ei (.iconst 0) 9 0 (0)), (9, e1 (.istore 4) 11 4), (11, e1 (.iload 4) 13 4), (13, e1 (.iload_n 2) 14 2), (14, e1 (.if_icmp .ge 27) 17 41)],
  [(17, e1 (.iload_n 3) 18 3), (18, e1 (.aload_n 0) 19 0), (19, e3 (.getfield 47) 22 2 7 2), (22, e1 (.iload 4) 24 4), (24, e0 (.baload) 25), (25, e1 (.ifCond .eq 7) 28 32), (28, ei (.iconst 1) 29 0 (1)), (29, e1 (.goto 4) 32 33)],
  [(32, ei (.iconst 0) 33 0 (0)), (33, e0 (.iadd) 34), (34, e1 (.istore_n 3) 35 3), (35, ei (.iinc 4 1) 38 4 (1)), (38, e1 (.goto (-27)) 41 11), (41, e1 (.iload_n 3) 42 3), (42, e0 (.ireturn) 43)]]
noncomputable def zE_Census_countBack (α : Type) : Nat → zX α := fun i => bif Nat.beq i 0 then zA_vRI_I 2 f_Census_count else fun _ _ _ => none
def zc_Census_countBack : Nat → Bool := fun pc => Nat.beq pc 11
def D_Census_countBack_11 (k : Nat → Int32 → Int32 → Int32 → zM → Option (Int32 × zM)) (lv : zV) (st : List Value) (S : zM) : Option (Int32 × zM) := match lv, st with
  | [some (.ref a0), _, some (.int a2), some (.int a3), some (.int a4)], [] => k a0 a2 a3 a4 S
  | _, _ => none
theorem d_Census_countBack_11 {g : zV → Nat → List Value → zM → Prop} (Hw : zWk g) {k : Nat → Int32 → Int32 → Int32 → zM → Option (Int32 × zM)} {res : (Int32 × zM)} {lv : zV} {st : List Value} {S : zM} (h : D_Census_countBack_11 k lv st S = some res) (hk : ∀ a0 a2 a3 a4 S, k a0 a2 a3 a4 S = some res → g [some (.ref a0), none, some (.int a2), some (.int a3), some (.int a4)] 11 [] S) : g lv 11 st S := by
  unfold D_Census_countBack_11 at h
  split at h
  · exact Hw _ _ _ _ _ (by simp [zle]) (hk _ _ _ _ _  h)
  · cases h
set_option maxRecDepth 100000 in
theorem r_Census_countBack_11 (n : Nat) (a0 : Nat) (a2 : Int32) (a3 : Int32) (a4 : Int32) (S : zM) : L_Census_countBack_11 (n + 1) a0 a2 a3 a4 S = zrt false zP_Census_countBack (zE_Census_countBack (Int32 × zM)) zc_Census_countBack zkI (fun pc lv st S => bif Nat.beq pc 11 then D_Census_countBack_11 (L_Census_countBack_11 n) lv st S else none) 1000 11 [some (.ref a0), none, some (.int a2), some (.int a3), some (.int a4)] [] S := rfl
theorem g_Census_countBack_11 {g : zV → Nat → List Value → zM → Prop} {res : (Int32 × zM)} (H : zCl false zP_Census_countBack (zE_Census_countBack (Int32 × zM)) zkI res g) (Hw : zWk g) (n : Nat) : ∀ (a0 : Nat) (a2 : Int32) (a3 : Int32) (a4 : Int32) (S : zM), L_Census_countBack_11 n a0 a2 a3 a4 S = some res → g [some (.ref a0), none, some (.int a2), some (.int a3), some (.int a4)] 11 [] S := by
  induction n with
  | zero => intro a0 a2 a3 a4 S h; cases h
  | succ n ih =>
    intro a0 a2 a3 a4 S h
    refine H zc_Census_countBack _ 1000 _ _ _ _ ((r_Census_countBack_11 n a0 a2 a3 a4 S).symm.trans h) (fun pc lv st S hK => ?_)
    rcases zdis hK with ⟨rfl, hK⟩ | hK
    · exact d_Census_countBack_11 Hw hK ih
    cases hK
set_option maxRecDepth 100000 in
theorem r_Census_countBack (a0 : Nat) (a1 : Int32) (S : zM) : f_Census_countBack a0 a1 S = zrt false zP_Census_countBack (zE_Census_countBack (Int32 × zM)) zc_Census_countBack zkI (fun pc lv st S => bif Nat.beq pc 11 then D_Census_countBack_11 (L_Census_countBack_11 zF) lv st S else none) 1000 0 [some (.ref a0), some (.int a1), none, none, none] [] S := rfl
theorem G_Census_countBack {g : zV → Nat → List Value → zM → Prop} {res : (Int32 × zM)} (H : zCl false zP_Census_countBack (zE_Census_countBack (Int32 × zM)) zkI res g) (Hw : zWk g) (a0 : Nat) (a1 : Int32) (S : zM) (h : f_Census_countBack a0 a1 S = some res) : g [some (.ref a0), some (.int a1), none, none, none] 0 [] S := by
  refine H zc_Census_countBack _ 1000 _ _ _ _ ((r_Census_countBack a0 a1 S).symm.trans h) (fun pc lv st S hK => ?_)
  rcases zdis hK with ⟨rfl, hK⟩ | hK
  · exact d_Census_countBack_11 Hw hK (g_Census_countBack_11 H Hw  zF)
  cases hK
set_option maxRecDepth 100000 in
theorem ok_Census_countBack : zokT 2 [219] false 2 45 5 false (some .int) cX2_countBack zP_Census_countBack = true := by decide +kernel
set_option maxRecDepth 100000 in
theorem s_Census_countBack {l : Launch} {HB : Heap} {b L : Nat} {xs : Nat → Int32} {aK aV : Nat → Nat} {G : va_G} {tc : Nat → ClassId} (h0 : zSnd l HB b L xs aK aV G tc (zMT.getD 219 zyD) (fun α => zA_vRI_I 2 f_Census_count)) : zSnd l HB b L xs aK aV G tc (zMT.getD 278 zyD) (fun α => zA_vRI_I 2 f_Census_countBack) := by
  rw [show zMT.getD 278 zyD = (yX2_countBack, cX2_countBack, 5, (some .int), 0, 2, 2, 45) from rfl]
  intro α as S k res h
  unfold zA_vRI_I at h
  dsimp only at h
  split at h
  · rename_i a0 a1
    obtain ⟨p, hp, h⟩ := zbind h
    unfold zcl at hp
    split at hp
    · rename_i hkd
      have hm := zmeth (l := l) (HB := HB) (b := b) (L := L) (xs := xs) (aK := aK) (aV := aV) (G := G) (tc := tc) (q := (yX2_countBack, cX2_countBack, 5, (some .int), 0, 2, 2, 45)) (o := 2) (cs := [219]) (rz := false) (T := zP_Census_countBack) (E := zE_Census_countBack (Int32 × zM)) (kr := zkI) (res := p) (v0 := some (.int p.1)) (S0 := p.2) (as := [.ref a0, .int a1]) (S := S) zMT_fine (by decide +kernel) (fun i as S k' h => by
        unfold zE_Census_countBack at h
        rcases zdisf h with ⟨rfl, h⟩ | h
        · exact h0 _ _ _ _ _ h
        cases h) ok_Census_countBack rfl (fun v S' h => zkI_inv h) (Nat.le_of_ble_eq_true rfl) (fun g H Hw => Hw _ [some (.ref a0), some (.int a1), none, none, none] _ _ _ ⟨rfl, rfl, trivial⟩ (G_Census_countBack H Hw a0 a1 S hp))
      exact ⟨_, _, h, hm.1, rfl, fun _ => ⟨_, _, rfl⟩, (fun _ U H hK hH a r e => by cases e; exact zrecv (ci := 2) (by omega) hkd rfl U H hK hH), hm.2⟩
    · cases hp
  · cases h
def zP_Cl_comeBack : List (List (Nat × zE)) := [[(0, e1 (.aload_n 0) 1 0), (1, e1 (.iload_n 1) 2 1), (2, ei (.iconst 1) 3 0 (1)), (3, e3 (.invokevirtual 258) 6 0 3 0), (6, e1 (.istore_n 2) 7 2), (7, e1 (.iload_n 2) 8 2), (8, e1 (.ifCond .eq 9) 11 17), (11, e1 (.aload_n 0) 12 0), (12, e1 (.iload_n 2) 13 2), (13, e3 (.invokevirtual 79) 16 1 2 0)],
  [(16, e0 (.ireturn) 17), (17, e1 (.aload_n 0) 18 0), (18, e1 (.iload_n 1) 19 1), (19, e3 (.invokevirtual 265) 22 2 2 0), (22, e1 (.astore_n 3) 23 3), (23, e1 (.aload_n 3) 24 3), (24, e1 (.iload_n 1) 25 1), (25, e3 (.invokevirtual 314) 28 3 2 0), (28, e1 (.aload_n 0) 29 0), (29, e1 (.aload_n 3) 30 3), (30, e1 (.iload_n 1) 31 1), (31, e3 (.invokevirtual 317) 34 4 2 0)],
  [(34, e3 (.invokevirtual 109) 37 5 2 0), (37, e0 (.ireturn) 38)]]
noncomputable def zE_Cl_comeBack (α : Type) : Nat → zX α := fun i => bif Nat.beq i 0 then zA_vRII_I 11 f_Cl_troubleUpTo else bif Nat.beq i 1 then zA_vRI_I 11 f_Cl_refuse else bif Nat.beq i 2 then zA_vRI_R 11 f_Cl_censusUpTo else bif Nat.beq i 3 then zA_vRI_V 2 f_Census_learnBack else bif Nat.beq i 4 then zA_vRI_I 2 f_Census_countBack else bif Nat.beq i 5 then zA_vRI_I 11 f_Cl_answer else fun _ _ _ => none
def zc_Cl_comeBack : Nat → Bool := fun pc => false
set_option maxRecDepth 100000 in
theorem r_Cl_comeBack (a0 : Nat) (a1 : Int32) (S : zM) : f_Cl_comeBack a0 a1 S = zrt false zP_Cl_comeBack (zE_Cl_comeBack (Int32 × zM)) zc_Cl_comeBack zkI (fun pc lv st S => none) 1000 0 [some (.ref a0), some (.int a1), none, none] [] S := rfl
theorem G_Cl_comeBack {g : zV → Nat → List Value → zM → Prop} {res : (Int32 × zM)} (H : zCl false zP_Cl_comeBack (zE_Cl_comeBack (Int32 × zM)) zkI res g) (Hw : zWk g) (a0 : Nat) (a1 : Int32) (S : zM) (h : f_Cl_comeBack a0 a1 S = some res) : g [some (.ref a0), some (.int a1), none, none] 0 [] S := by
  refine H zc_Cl_comeBack _ 1000 _ _ _ _ ((r_Cl_comeBack a0 a1 S).symm.trans h) (fun pc lv st S hK => ?_)
  cases hK
set_option maxRecDepth 100000 in
theorem ok_Cl_comeBack : zokT 11 [210, 16, 227, 277, 278, 59] false 7 212 4 false (some .int) cX11_comeBack zP_Cl_comeBack = true := by decide +kernel
set_option maxRecDepth 100000 in
theorem s_Cl_comeBack {l : Launch} {HB : Heap} {b L : Nat} {xs : Nat → Int32} {aK aV : Nat → Nat} {G : va_G} {tc : Nat → ClassId} (h0 : zSnd l HB b L xs aK aV G tc (zMT.getD 210 zyD) (fun α => zA_vRII_I 11 f_Cl_troubleUpTo)) (h1 : zSnd l HB b L xs aK aV G tc (zMT.getD 16 zyD) (fun α => zA_vRI_I 11 f_Cl_refuse)) (h2 : zSnd l HB b L xs aK aV G tc (zMT.getD 227 zyD) (fun α => zA_vRI_R 11 f_Cl_censusUpTo)) (h3 : zSnd l HB b L xs aK aV G tc (zMT.getD 277 zyD) (fun α => zA_vRI_V 2 f_Census_learnBack)) (h4 : zSnd l HB b L xs aK aV G tc (zMT.getD 278 zyD) (fun α => zA_vRI_I 2 f_Census_countBack)) (h5 : zSnd l HB b L xs aK aV G tc (zMT.getD 59 zyD) (fun α => zA_vRI_I 11 f_Cl_answer)) : zSnd l HB b L xs aK aV G tc (zMT.getD 279 zyD) (fun α => zA_vRI_I 11 f_Cl_comeBack) := by
  rw [show zMT.getD 279 zyD = (yX11_comeBack, cX11_comeBack, 4, (some .int), 0, 2, 7, 212) from rfl]
  intro α as S k res h
  unfold zA_vRI_I at h
  dsimp only at h
  split at h
  · rename_i a0 a1
    obtain ⟨p, hp, h⟩ := zbind h
    unfold zcl at hp
    split at hp
    · rename_i hkd
      have hm := zmeth (l := l) (HB := HB) (b := b) (L := L) (xs := xs) (aK := aK) (aV := aV) (G := G) (tc := tc) (q := (yX11_comeBack, cX11_comeBack, 4, (some .int), 0, 2, 7, 212)) (o := 11) (cs := [210, 16, 227, 277, 278, 59]) (rz := false) (T := zP_Cl_comeBack) (E := zE_Cl_comeBack (Int32 × zM)) (kr := zkI) (res := p) (v0 := some (.int p.1)) (S0 := p.2) (as := [.ref a0, .int a1]) (S := S) zMT_fine (by decide +kernel) (fun i as S k' h => by
        unfold zE_Cl_comeBack at h
        rcases zdisf h with ⟨rfl, h⟩ | h
        · exact h0 _ _ _ _ _ h
        rcases zdisf h with ⟨rfl, h⟩ | h
        · exact h1 _ _ _ _ _ h
        rcases zdisf h with ⟨rfl, h⟩ | h
        · exact h2 _ _ _ _ _ h
        rcases zdisf h with ⟨rfl, h⟩ | h
        · exact h3 _ _ _ _ _ h
        rcases zdisf h with ⟨rfl, h⟩ | h
        · exact h4 _ _ _ _ _ h
        rcases zdisf h with ⟨rfl, h⟩ | h
        · exact h5 _ _ _ _ _ h
        cases h) ok_Cl_comeBack rfl (fun v S' h => zkI_inv h) (Nat.le_of_ble_eq_true rfl) (fun g H Hw => Hw _ [some (.ref a0), some (.int a1), none, none] _ _ _ ⟨rfl, rfl, trivial⟩ (G_Cl_comeBack H Hw a0 a1 S hp))
      exact ⟨_, _, h, hm.1, rfl, fun _ => ⟨_, _, rfl⟩, (fun _ U H hK hH a r e => by cases e; exact zrecv (ci := 11) (by omega) hkd rfl U H hK hH), hm.2⟩
    · cases hp
  · cases h
def zP_Mo_backOf : List (List (Nat × zE)) := [[(0, e1 (.aload_n 0) 1 0), (1, e1 (.iload_n 1) 2 1), (2, e3 (.invokevirtual 426) 5 0 2 0), (5, e1 (.aload_n 0) 6 0), (6, e3 (.getfield 358) 9 12 41 0), (9, e1 (.istore_n 2) 10 2), (10, ei (.iconst 0) 11 0 (0)), (11, e1 (.istore_n 3) 12 3), (12, e1 (.iload_n 3) 13 3), (13, e1 (.iload_n 2) 14 2), (14, e1 (.if_icmp .ge 21) 17 35)],
  [(17, e1 (.aload_n 0) 18 0), (18, e3 (.getfield 121) 21 12 64 2), (21, e1 (.iload_n 3) 22 3), (22, e1 (.aload_n 0) 23 0), (23, e3 (.getfield 70) 26 12 40 2), (26, e1 (.iload_n 3) 27 3), (27, e0 (.iaload) 28), (28, e0 (.iastore) 29), (29, ei (.iinc 3 1) 32 3 (1))],
  [(32, e1 (.goto (-20)) 35 12), (35, e1 (.aload_n 0) 36 0), (36, ei (.iconst 0) 37 0 (0)), (37, e3 (.invokevirtual 406) 40 1 2 0), (40, e1 (.ifCond .eq 5) 43 45), (43, ei (.iconst 0) 44 0 (0)), (44, e0 (.ireturn) 45), (45, e1 (.aload_n 0) 46 0), (46, ei (.iconst 1) 47 0 (1)), (47, e3 (.invokevirtual 406) 50 1 2 0)],
  [(50, e1 (.ifCond .ne 11) 53 61), (53, e1 (.aload_n 0) 54 0), (54, e3 (.getfield 358) 57 12 41 0), (57, e1 (.iload_n 2) 58 2), (58, e1 (.if_icmp .eq 5) 61 63), (61, ei (.iconst 2) 62 0 (2)), (62, e0 (.ireturn) 63), (63, ei (.iconst 0) 64 0 (0))],
  [(64, e1 (.istore_n 3) 65 3), (65, e1 (.iload_n 3) 66 3), (66, e1 (.iload_n 2) 67 2), (67, e1 (.if_icmp .ge 26) 70 93), (70, e1 (.aload_n 0) 71 0), (71, e3 (.getfield 70) 74 12 40 2), (74, e1 (.iload_n 3) 75 3), (75, e0 (.iaload) 76), (76, e1 (.aload_n 0) 77 0), (77, e3 (.getfield 121) 80 12 64 2)],
  [(80, e1 (.iload_n 3) 81 3), (81, e0 (.iaload) 82), (82, e1 (.if_icmp .eq 5) 85 87), (85, ei (.iconst 2) 86 0 (2)), (86, e0 (.ireturn) 87), (87, ei (.iinc 3 1) 90 3 (1)), (90, e1 (.goto (-25)) 93 65), (93, ei (.iconst 1) 94 0 (1)), (94, e0 (.ireturn) 95)]]
noncomputable def zE_Mo_backOf (α : Type) : Nat → zX α := fun i => bif Nat.beq i 0 then zA_vRI_V 12 f_Mo_laysIndex else bif Nat.beq i 1 then zA_vRI_I 12 f_Mo_goesAll else fun _ _ _ => none
def zc_Mo_backOf : Nat → Bool := fun pc => Nat.beq pc 12 || Nat.beq pc 35 || Nat.beq pc 65
def D_Mo_backOf_12 (k : Nat → Int32 → Int32 → zM → Option (Int32 × zM)) (lv : zV) (st : List Value) (S : zM) : Option (Int32 × zM) := match lv, st with
  | [some (.ref a0), _, some (.int a2), some (.int a3)], [] => k a0 a2 a3 S
  | _, _ => none
theorem d_Mo_backOf_12 {g : zV → Nat → List Value → zM → Prop} (Hw : zWk g) {k : Nat → Int32 → Int32 → zM → Option (Int32 × zM)} {res : (Int32 × zM)} {lv : zV} {st : List Value} {S : zM} (h : D_Mo_backOf_12 k lv st S = some res) (hk : ∀ a0 a2 a3 S, k a0 a2 a3 S = some res → g [some (.ref a0), none, some (.int a2), some (.int a3)] 12 [] S) : g lv 12 st S := by
  unfold D_Mo_backOf_12 at h
  split at h
  · exact Hw _ _ _ _ _ (by simp [zle]) (hk _ _ _ _  h)
  · cases h
def D_Mo_backOf_35 (k : Nat → Int32 → zM → Option (Int32 × zM)) (lv : zV) (st : List Value) (S : zM) : Option (Int32 × zM) := match lv, st with
  | [some (.ref a0), _, some (.int a2), _], [] => k a0 a2 S
  | _, _ => none
theorem d_Mo_backOf_35 {g : zV → Nat → List Value → zM → Prop} (Hw : zWk g) {k : Nat → Int32 → zM → Option (Int32 × zM)} {res : (Int32 × zM)} {lv : zV} {st : List Value} {S : zM} (h : D_Mo_backOf_35 k lv st S = some res) (hk : ∀ a0 a2 S, k a0 a2 S = some res → g [some (.ref a0), none, some (.int a2), none] 35 [] S) : g lv 35 st S := by
  unfold D_Mo_backOf_35 at h
  split at h
  · exact Hw _ _ _ _ _ (by simp [zle]) (hk _ _ _  h)
  · cases h
def D_Mo_backOf_65 (k : Nat → Int32 → Int32 → zM → Option (Int32 × zM)) (lv : zV) (st : List Value) (S : zM) : Option (Int32 × zM) := match lv, st with
  | [some (.ref a0), _, some (.int a2), some (.int a3)], [] => k a0 a2 a3 S
  | _, _ => none
theorem d_Mo_backOf_65 {g : zV → Nat → List Value → zM → Prop} (Hw : zWk g) {k : Nat → Int32 → Int32 → zM → Option (Int32 × zM)} {res : (Int32 × zM)} {lv : zV} {st : List Value} {S : zM} (h : D_Mo_backOf_65 k lv st S = some res) (hk : ∀ a0 a2 a3 S, k a0 a2 a3 S = some res → g [some (.ref a0), none, some (.int a2), some (.int a3)] 65 [] S) : g lv 65 st S := by
  unfold D_Mo_backOf_65 at h
  split at h
  · exact Hw _ _ _ _ _ (by simp [zle]) (hk _ _ _ _  h)
  · cases h
set_option maxRecDepth 100000 in
theorem r_Mo_backOf_65 (n : Nat) (a0 : Nat) (a2 : Int32) (a3 : Int32) (S : zM) : L_Mo_backOf_65 (n + 1) a0 a2 a3 S = zrt false zP_Mo_backOf (zE_Mo_backOf (Int32 × zM)) zc_Mo_backOf zkI (fun pc lv st S => bif Nat.beq pc 65 then D_Mo_backOf_65 (L_Mo_backOf_65 n) lv st S else none) 1000 65 [some (.ref a0), none, some (.int a2), some (.int a3)] [] S := rfl
theorem g_Mo_backOf_65 {g : zV → Nat → List Value → zM → Prop} {res : (Int32 × zM)} (H : zCl false zP_Mo_backOf (zE_Mo_backOf (Int32 × zM)) zkI res g) (Hw : zWk g) (n : Nat) : ∀ (a0 : Nat) (a2 : Int32) (a3 : Int32) (S : zM), L_Mo_backOf_65 n a0 a2 a3 S = some res → g [some (.ref a0), none, some (.int a2), some (.int a3)] 65 [] S := by
  induction n with
  | zero => intro a0 a2 a3 S h; cases h
  | succ n ih =>
    intro a0 a2 a3 S h
    refine H zc_Mo_backOf _ 1000 _ _ _ _ ((r_Mo_backOf_65 n a0 a2 a3 S).symm.trans h) (fun pc lv st S hK => ?_)
    rcases zdis hK with ⟨rfl, hK⟩ | hK
    · exact d_Mo_backOf_65 Hw hK ih
    cases hK
set_option maxRecDepth 100000 in
theorem r_Mo_backOf_35 (k65 : Nat → Int32 → Int32 → zM → Option (Int32 × zM)) (a0 : Nat) (a2 : Int32) (S : zM) : F_Mo_backOf_35 k65 a0 a2 S = zrt false zP_Mo_backOf (zE_Mo_backOf (Int32 × zM)) zc_Mo_backOf zkI (fun pc lv st S => bif Nat.beq pc 65 then D_Mo_backOf_65 k65 lv st S else none) 1000 35 [some (.ref a0), none, some (.int a2), none] [] S := rfl
theorem g_Mo_backOf_35 {g : zV → Nat → List Value → zM → Prop} {res : (Int32 × zM)} (H : zCl false zP_Mo_backOf (zE_Mo_backOf (Int32 × zM)) zkI res g) (Hw : zWk g) {k65 : Nat → Int32 → Int32 → zM → Option (Int32 × zM)} (hk65 : ∀ a0 a2 a3 S, k65 a0 a2 a3 S = some res → g [some (.ref a0), none, some (.int a2), some (.int a3)] 65 [] S) (a0 : Nat) (a2 : Int32) (S : zM) (h : F_Mo_backOf_35 k65 a0 a2 S = some res) : g [some (.ref a0), none, some (.int a2), none] 35 [] S := by
  refine H zc_Mo_backOf _ 1000 _ _ _ _ ((r_Mo_backOf_35 k65 a0 a2 S).symm.trans h) (fun pc lv st S hK => ?_)
  rcases zdis hK with ⟨rfl, hK⟩ | hK
  · exact d_Mo_backOf_65 Hw hK hk65
  cases hK
set_option maxRecDepth 100000 in
theorem r_Mo_backOf_12 (k35 : Nat → Int32 → zM → Option (Int32 × zM)) (n : Nat) (a0 : Nat) (a2 : Int32) (a3 : Int32) (S : zM) : L_Mo_backOf_12 k35 (n + 1) a0 a2 a3 S = zrt false zP_Mo_backOf (zE_Mo_backOf (Int32 × zM)) zc_Mo_backOf zkI (fun pc lv st S => bif Nat.beq pc 12 then D_Mo_backOf_12 (L_Mo_backOf_12 k35 n) lv st S else bif Nat.beq pc 35 then D_Mo_backOf_35 k35 lv st S else none) 1000 12 [some (.ref a0), none, some (.int a2), some (.int a3)] [] S := rfl
theorem g_Mo_backOf_12 {g : zV → Nat → List Value → zM → Prop} {res : (Int32 × zM)} (H : zCl false zP_Mo_backOf (zE_Mo_backOf (Int32 × zM)) zkI res g) (Hw : zWk g) {k35 : Nat → Int32 → zM → Option (Int32 × zM)} (hk35 : ∀ a0 a2 S, k35 a0 a2 S = some res → g [some (.ref a0), none, some (.int a2), none] 35 [] S) (n : Nat) : ∀ (a0 : Nat) (a2 : Int32) (a3 : Int32) (S : zM), L_Mo_backOf_12 k35 n a0 a2 a3 S = some res → g [some (.ref a0), none, some (.int a2), some (.int a3)] 12 [] S := by
  induction n with
  | zero => intro a0 a2 a3 S h; cases h
  | succ n ih =>
    intro a0 a2 a3 S h
    refine H zc_Mo_backOf _ 1000 _ _ _ _ ((r_Mo_backOf_12 k35 n a0 a2 a3 S).symm.trans h) (fun pc lv st S hK => ?_)
    rcases zdis hK with ⟨rfl, hK⟩ | hK
    · exact d_Mo_backOf_12 Hw hK ih
    rcases zdis hK with ⟨rfl, hK⟩ | hK
    · exact d_Mo_backOf_35 Hw hK hk35
    cases hK
set_option maxRecDepth 100000 in
theorem r_Mo_backOf (a0 : Nat) (a1 : Int32) (S : zM) : f_Mo_backOf a0 a1 S = zrt false zP_Mo_backOf (zE_Mo_backOf (Int32 × zM)) zc_Mo_backOf zkI (fun pc lv st S => bif Nat.beq pc 12 then D_Mo_backOf_12 (L_Mo_backOf_12 (F_Mo_backOf_35 (L_Mo_backOf_65 zF)) zF) lv st S else none) 1000 0 [some (.ref a0), some (.int a1), none, none] [] S := rfl
theorem G_Mo_backOf {g : zV → Nat → List Value → zM → Prop} {res : (Int32 × zM)} (H : zCl false zP_Mo_backOf (zE_Mo_backOf (Int32 × zM)) zkI res g) (Hw : zWk g) (a0 : Nat) (a1 : Int32) (S : zM) (h : f_Mo_backOf a0 a1 S = some res) : g [some (.ref a0), some (.int a1), none, none] 0 [] S := by
  refine H zc_Mo_backOf _ 1000 _ _ _ _ ((r_Mo_backOf a0 a1 S).symm.trans h) (fun pc lv st S hK => ?_)
  rcases zdis hK with ⟨rfl, hK⟩ | hK
  · exact d_Mo_backOf_12 Hw hK (g_Mo_backOf_12 H Hw (g_Mo_backOf_35 H Hw (g_Mo_backOf_65 H Hw  zF)) zF)
  cases hK
set_option maxRecDepth 100000 in
theorem ok_Mo_backOf : zokT 12 [231, 184] false 7 173 4 false (some .int) cX12_backOf zP_Mo_backOf = true := by decide +kernel
set_option maxRecDepth 100000 in
theorem s_Mo_backOf {l : Launch} {HB : Heap} {b L : Nat} {xs : Nat → Int32} {aK aV : Nat → Nat} {G : va_G} {tc : Nat → ClassId} (h0 : zSnd l HB b L xs aK aV G tc (zMT.getD 231 zyD) (fun α => zA_vRI_V 12 f_Mo_laysIndex)) (h1 : zSnd l HB b L xs aK aV G tc (zMT.getD 184 zyD) (fun α => zA_vRI_I 12 f_Mo_goesAll)) : zSnd l HB b L xs aK aV G tc (zMT.getD 280 zyD) (fun α => zA_vRI_I 12 f_Mo_backOf) := by
  rw [show zMT.getD 280 zyD = (yX12_backOf, cX12_backOf, 4, (some .int), 0, 2, 7, 173) from rfl]
  intro α as S k res h
  unfold zA_vRI_I at h
  dsimp only at h
  split at h
  · rename_i a0 a1
    obtain ⟨p, hp, h⟩ := zbind h
    unfold zcl at hp
    split at hp
    · rename_i hkd
      have hm := zmeth (l := l) (HB := HB) (b := b) (L := L) (xs := xs) (aK := aK) (aV := aV) (G := G) (tc := tc) (q := (yX12_backOf, cX12_backOf, 4, (some .int), 0, 2, 7, 173)) (o := 12) (cs := [231, 184]) (rz := false) (T := zP_Mo_backOf) (E := zE_Mo_backOf (Int32 × zM)) (kr := zkI) (res := p) (v0 := some (.int p.1)) (S0 := p.2) (as := [.ref a0, .int a1]) (S := S) zMT_fine (by decide +kernel) (fun i as S k' h => by
        unfold zE_Mo_backOf at h
        rcases zdisf h with ⟨rfl, h⟩ | h
        · exact h0 _ _ _ _ _ h
        rcases zdisf h with ⟨rfl, h⟩ | h
        · exact h1 _ _ _ _ _ h
        cases h) ok_Mo_backOf rfl (fun v S' h => zkI_inv h) (Nat.le_of_ble_eq_true rfl) (fun g H Hw => Hw _ [some (.ref a0), some (.int a1), none, none] _ _ _ ⟨rfl, rfl, trivial⟩ (G_Mo_backOf H Hw a0 a1 S hp))
      exact ⟨_, _, h, hm.1, rfl, fun _ => ⟨_, _, rfl⟩, (fun _ U H hK hH a r e => by cases e; exact zrecv (ci := 12) (by omega) hkd rfl U H hK hH), hm.2⟩
    · cases hp
  · cases h
def zP_Mo_comeBack : List (List (Nat × zE)) := [[(0, e1 (.aload_n 0) 1 0), (1, e1 (.aload_n 0) 2 0), (2, ei (.iconst 1) 3 0 (1)), (3, e1 (.iload_n 1) 4 1), (4, e3 (.invokevirtual 454) 7 0 3 0), (7, e3 (.invokevirtual 458) 10 1 2 0), (10, e1 (.ifCond .eq 5) 13 15), (13, ei (.iconst (-1)) 14 0 (-1)), (14, e0 (.ireturn) 15), (15, ei (.iconst 0) 16 0 (0))],
  [(16, e1 (.istore_n 2) 17 2), (17, ei (.iconst 0) 18 0 (0)), (18, e1 (.istore_n 3) 19 3), (19, e1 (.iload_n 3) 20 3), (20, e1 (.aload_n 0) 21 0), (21, e1 (.iload_n 1) 22 1), (22, e3 (.invokevirtual 435) 25 2 2 0), (25, e1 (.if_icmp .ge 26) 28 51), (28, e1 (.iload_n 2) 29 2), (29, e1 (.aload_n 0) 30 0), (30, e1 (.iload_n 3) 31 3), (31, e3 (.invokevirtual 482) 34 3 2 0)],
  [(34, ei (.iconst 1) 35 0 (1)), (35, e1 (.if_icmp .ne 7) 38 42), (38, ei (.iconst 1) 39 0 (1)), (39, e1 (.goto 4) 42 43), (42, ei (.iconst 0) 43 0 (0)), (43, e0 (.iadd) 44), (44, e1 (.istore_n 2) 45 2), (45, ei (.iinc 3 1) 48 3 (1))],
  [(48, e1 (.goto (-29)) 51 19), (51, e1 (.iload_n 2) 52 2), (52, e0 (.ireturn) 53)]]
noncomputable def zE_Mo_comeBack (α : Type) : Nat → zX α := fun i => bif Nat.beq i 0 then zA_vRII_I 12 f_Mo_wordsWhy else bif Nat.beq i 1 then zA_vRI_I 12 f_Mo_isRefused else bif Nat.beq i 2 then zA_vRI_I 12 f_Mo_manyUpTo else bif Nat.beq i 3 then zA_vRI_I 12 f_Mo_backOf else fun _ _ _ => none
def zc_Mo_comeBack : Nat → Bool := fun pc => Nat.beq pc 19
def D_Mo_comeBack_19 (k : Nat → Int32 → Int32 → Int32 → zM → Option (Int32 × zM)) (lv : zV) (st : List Value) (S : zM) : Option (Int32 × zM) := match lv, st with
  | [some (.ref a0), some (.int a1), some (.int a2), some (.int a3)], [] => k a0 a1 a2 a3 S
  | _, _ => none
theorem d_Mo_comeBack_19 {g : zV → Nat → List Value → zM → Prop} (Hw : zWk g) {k : Nat → Int32 → Int32 → Int32 → zM → Option (Int32 × zM)} {res : (Int32 × zM)} {lv : zV} {st : List Value} {S : zM} (h : D_Mo_comeBack_19 k lv st S = some res) (hk : ∀ a0 a1 a2 a3 S, k a0 a1 a2 a3 S = some res → g [some (.ref a0), some (.int a1), some (.int a2), some (.int a3)] 19 [] S) : g lv 19 st S := by
  unfold D_Mo_comeBack_19 at h
  split at h
  · exact Hw _ _ _ _ _ (by simp [zle]) (hk _ _ _ _ _  h)
  · cases h
set_option maxRecDepth 100000 in
theorem r_Mo_comeBack_19 (n : Nat) (a0 : Nat) (a1 : Int32) (a2 : Int32) (a3 : Int32) (S : zM) : L_Mo_comeBack_19 (n + 1) a0 a1 a2 a3 S = zrt false zP_Mo_comeBack (zE_Mo_comeBack (Int32 × zM)) zc_Mo_comeBack zkI (fun pc lv st S => bif Nat.beq pc 19 then D_Mo_comeBack_19 (L_Mo_comeBack_19 n) lv st S else none) 1000 19 [some (.ref a0), some (.int a1), some (.int a2), some (.int a3)] [] S := rfl
theorem g_Mo_comeBack_19 {g : zV → Nat → List Value → zM → Prop} {res : (Int32 × zM)} (H : zCl false zP_Mo_comeBack (zE_Mo_comeBack (Int32 × zM)) zkI res g) (Hw : zWk g) (n : Nat) : ∀ (a0 : Nat) (a1 : Int32) (a2 : Int32) (a3 : Int32) (S : zM), L_Mo_comeBack_19 n a0 a1 a2 a3 S = some res → g [some (.ref a0), some (.int a1), some (.int a2), some (.int a3)] 19 [] S := by
  induction n with
  | zero => intro a0 a1 a2 a3 S h; cases h
  | succ n ih =>
    intro a0 a1 a2 a3 S h
    refine H zc_Mo_comeBack _ 1000 _ _ _ _ ((r_Mo_comeBack_19 n a0 a1 a2 a3 S).symm.trans h) (fun pc lv st S hK => ?_)
    rcases zdis hK with ⟨rfl, hK⟩ | hK
    · exact d_Mo_comeBack_19 Hw hK ih
    cases hK
set_option maxRecDepth 100000 in
theorem r_Mo_comeBack (a0 : Nat) (a1 : Int32) (S : zM) : f_Mo_comeBack a0 a1 S = zrt false zP_Mo_comeBack (zE_Mo_comeBack (Int32 × zM)) zc_Mo_comeBack zkI (fun pc lv st S => bif Nat.beq pc 19 then D_Mo_comeBack_19 (L_Mo_comeBack_19 zF) lv st S else none) 1000 0 [some (.ref a0), some (.int a1), none, none] [] S := rfl
theorem G_Mo_comeBack {g : zV → Nat → List Value → zM → Prop} {res : (Int32 × zM)} (H : zCl false zP_Mo_comeBack (zE_Mo_comeBack (Int32 × zM)) zkI res g) (Hw : zWk g) (a0 : Nat) (a1 : Int32) (S : zM) (h : f_Mo_comeBack a0 a1 S = some res) : g [some (.ref a0), some (.int a1), none, none] 0 [] S := by
  refine H zc_Mo_comeBack _ 1000 _ _ _ _ ((r_Mo_comeBack a0 a1 S).symm.trans h) (fun pc lv st S hK => ?_)
  rcases zdis hK with ⟨rfl, hK⟩ | hK
  · exact d_Mo_comeBack_19 Hw hK (g_Mo_comeBack_19 H Hw  zF)
  cases hK
set_option maxRecDepth 100000 in
theorem ok_Mo_comeBack : zokT 12 [213, 214, 215, 280] false 8 196 4 false (some .int) cX12_comeBack zP_Mo_comeBack = true := by decide +kernel
set_option maxRecDepth 100000 in
theorem s_Mo_comeBack {l : Launch} {HB : Heap} {b L : Nat} {xs : Nat → Int32} {aK aV : Nat → Nat} {G : va_G} {tc : Nat → ClassId} (h0 : zSnd l HB b L xs aK aV G tc (zMT.getD 213 zyD) (fun α => zA_vRII_I 12 f_Mo_wordsWhy)) (h1 : zSnd l HB b L xs aK aV G tc (zMT.getD 214 zyD) (fun α => zA_vRI_I 12 f_Mo_isRefused)) (h2 : zSnd l HB b L xs aK aV G tc (zMT.getD 215 zyD) (fun α => zA_vRI_I 12 f_Mo_manyUpTo)) (h3 : zSnd l HB b L xs aK aV G tc (zMT.getD 280 zyD) (fun α => zA_vRI_I 12 f_Mo_backOf)) : zSnd l HB b L xs aK aV G tc (zMT.getD 281 zyD) (fun α => zA_vRI_I 12 f_Mo_comeBack) := by
  rw [show zMT.getD 281 zyD = (yX12_comeBack, cX12_comeBack, 4, (some .int), 0, 2, 8, 196) from rfl]
  intro α as S k res h
  unfold zA_vRI_I at h
  dsimp only at h
  split at h
  · rename_i a0 a1
    obtain ⟨p, hp, h⟩ := zbind h
    unfold zcl at hp
    split at hp
    · rename_i hkd
      have hm := zmeth (l := l) (HB := HB) (b := b) (L := L) (xs := xs) (aK := aK) (aV := aV) (G := G) (tc := tc) (q := (yX12_comeBack, cX12_comeBack, 4, (some .int), 0, 2, 8, 196)) (o := 12) (cs := [213, 214, 215, 280]) (rz := false) (T := zP_Mo_comeBack) (E := zE_Mo_comeBack (Int32 × zM)) (kr := zkI) (res := p) (v0 := some (.int p.1)) (S0 := p.2) (as := [.ref a0, .int a1]) (S := S) zMT_fine (by decide +kernel) (fun i as S k' h => by
        unfold zE_Mo_comeBack at h
        rcases zdisf h with ⟨rfl, h⟩ | h
        · exact h0 _ _ _ _ _ h
        rcases zdisf h with ⟨rfl, h⟩ | h
        · exact h1 _ _ _ _ _ h
        rcases zdisf h with ⟨rfl, h⟩ | h
        · exact h2 _ _ _ _ _ h
        rcases zdisf h with ⟨rfl, h⟩ | h
        · exact h3 _ _ _ _ _ h
        cases h) ok_Mo_comeBack rfl (fun v S' h => zkI_inv h) (Nat.le_of_ble_eq_true rfl) (fun g H Hw => Hw _ [some (.ref a0), some (.int a1), none, none] _ _ _ ⟨rfl, rfl, trivial⟩ (G_Mo_comeBack H Hw a0 a1 S hp))
      exact ⟨_, _, h, hm.1, rfl, fun _ => ⟨_, _, rfl⟩, (fun _ U H hK hH a r e => by cases e; exact zrecv (ci := 12) (by omega) hkd rfl U H hK hH), hm.2⟩
    · cases hp
  · cases h
