def zP_Census_firstLost : List (List (Nat × zE)) := [[(0, e1 (.aload_n 0) 1 0), (1, e1 (.iload_n 1) 2 1), (2, e3 (.invokevirtual 74) 5 0 2 0), (5, e1 (.istore_n 2) 6 2), (6, ei (.iconst 0) 7 0 (0)), (7, e1 (.istore_n 3) 8 3), (8, e1 (.iload_n 3) 9 3), (9, e1 (.iload_n 2) 10 2), (10, e1 (.if_icmp .ge 28) 13 38), (13, e1 (.aload_n 0) 14 0), (14, e1 (.iload_n 3) 15 3), (15, e3 (.invokevirtual 120) 18 1 2 0)],
  [(18, e1 (.ifCond .lt 14) 21 32), (21, e1 (.aload_n 0) 22 0), (22, e3 (.getfield 47) 25 2 7 2), (25, e1 (.iload_n 3) 26 3), (26, e0 (.baload) 27), (27, e1 (.ifCond .ne 5) 30 32), (30, e1 (.iload_n 3) 31 3), (31, e0 (.ireturn) 32)],
  [(32, ei (.iinc 3 1) 35 3 (1)), (35, e1 (.goto (-27)) 38 8), (38, ei (.iconst (-1)) 39 0 (-1)), (39, e0 (.ireturn) 40)]]
noncomputable def zE_Census_firstLost (α : Type) : Nat → zX α := fun i => bif Nat.beq i 0 then zA_vRI_I 2 f_Census_count else bif Nat.beq i 1 then zA_vRI_I 2 f_Census_lengthOf else fun _ _ _ => none
def zc_Census_firstLost : Nat → Bool := fun pc => Nat.beq pc 8
def D_Census_firstLost_8 (k : Nat → Int32 → Int32 → zM → Option (Int32 × zM)) (lv : zV) (st : List Value) (S : zM) : Option (Int32 × zM) := match lv, st with
  | [some (.ref a0), _, some (.int a2), some (.int a3)], [] => k a0 a2 a3 S
  | _, _ => none
theorem d_Census_firstLost_8 {g : zV → Nat → List Value → zM → Prop} (Hw : zWk g) {k : Nat → Int32 → Int32 → zM → Option (Int32 × zM)} {res : (Int32 × zM)} {lv : zV} {st : List Value} {S : zM} (h : D_Census_firstLost_8 k lv st S = some res) (hk : ∀ a0 a2 a3 S, k a0 a2 a3 S = some res → g [some (.ref a0), none, some (.int a2), some (.int a3)] 8 [] S) : g lv 8 st S := by
  unfold D_Census_firstLost_8 at h
  split at h
  · exact Hw _ _ _ _ _ (by simp [zle]) (hk _ _ _ _  h)
  · cases h
set_option maxRecDepth 100000 in
theorem r_Census_firstLost_8 (n : Nat) (a0 : Nat) (a2 : Int32) (a3 : Int32) (S : zM) : L_Census_firstLost_8 (n + 1) a0 a2 a3 S = zrt false zP_Census_firstLost (zE_Census_firstLost (Int32 × zM)) zc_Census_firstLost zkI (fun pc lv st S => bif Nat.beq pc 8 then D_Census_firstLost_8 (L_Census_firstLost_8 n) lv st S else none) 1000 8 [some (.ref a0), none, some (.int a2), some (.int a3)] [] S := rfl
theorem g_Census_firstLost_8 {g : zV → Nat → List Value → zM → Prop} {res : (Int32 × zM)} (H : zCl false zP_Census_firstLost (zE_Census_firstLost (Int32 × zM)) zkI res g) (Hw : zWk g) (n : Nat) : ∀ (a0 : Nat) (a2 : Int32) (a3 : Int32) (S : zM), L_Census_firstLost_8 n a0 a2 a3 S = some res → g [some (.ref a0), none, some (.int a2), some (.int a3)] 8 [] S := by
  induction n with
  | zero => intro a0 a2 a3 S h; cases h
  | succ n ih =>
    intro a0 a2 a3 S h
    refine H zc_Census_firstLost _ 1000 _ _ _ _ ((r_Census_firstLost_8 n a0 a2 a3 S).symm.trans h) (fun pc lv st S hK => ?_)
    rcases zdis hK with ⟨rfl, hK⟩ | hK
    · exact d_Census_firstLost_8 Hw hK ih
    cases hK
set_option maxRecDepth 100000 in
theorem r_Census_firstLost (a0 : Nat) (a1 : Int32) (S : zM) : f_Census_firstLost a0 a1 S = zrt false zP_Census_firstLost (zE_Census_firstLost (Int32 × zM)) zc_Census_firstLost zkI (fun pc lv st S => bif Nat.beq pc 8 then D_Census_firstLost_8 (L_Census_firstLost_8 zF) lv st S else none) 1000 0 [some (.ref a0), some (.int a1), none, none] [] S := rfl
theorem G_Census_firstLost {g : zV → Nat → List Value → zM → Prop} {res : (Int32 × zM)} (H : zCl false zP_Census_firstLost (zE_Census_firstLost (Int32 × zM)) zkI res g) (Hw : zWk g) (a0 : Nat) (a1 : Int32) (S : zM) (h : f_Census_firstLost a0 a1 S = some res) : g [some (.ref a0), some (.int a1), none, none] 0 [] S := by
  refine H zc_Census_firstLost _ 1000 _ _ _ _ ((r_Census_firstLost a0 a1 S).symm.trans h) (fun pc lv st S hK => ?_)
  rcases zdis hK with ⟨rfl, hK⟩ | hK
  · exact d_Census_firstLost_8 Hw hK (g_Census_firstLost_8 H Hw  zF)
  cases hK
set_option maxRecDepth 100000 in
theorem ok_Census_firstLost : zokT 2 [219, 247] false 2 45 4 false (some .int) cX2_firstLost zP_Census_firstLost = true := by decide +kernel
set_option maxRecDepth 100000 in
theorem s_Census_firstLost {l : Launch} {HB : Heap} {b L : Nat} {xs : Nat → Int32} {aK aV : Nat → Nat} {G : va_G} {tc : Nat → ClassId} (h0 : zSnd l HB b L xs aK aV G tc (zMT.getD 219 zyD) (fun α => zA_vRI_I 2 f_Census_count)) (h1 : zSnd l HB b L xs aK aV G tc (zMT.getD 247 zyD) (fun α => zA_vRI_I 2 f_Census_lengthOf)) : zSnd l HB b L xs aK aV G tc (zMT.getD 282 zyD) (fun α => zA_vRI_I 2 f_Census_firstLost) := by
  rw [show zMT.getD 282 zyD = (yX2_firstLost, cX2_firstLost, 4, (some .int), 0, 2, 2, 45) from rfl]
  intro α as S k res h
  unfold zA_vRI_I at h
  dsimp only at h
  split at h
  · rename_i a0 a1
    obtain ⟨p, hp, h⟩ := zbind h
    unfold zcl at hp
    split at hp
    · rename_i hkd
      have hm := zmeth (l := l) (HB := HB) (b := b) (L := L) (xs := xs) (aK := aK) (aV := aV) (G := G) (tc := tc) (q := (yX2_firstLost, cX2_firstLost, 4, (some .int), 0, 2, 2, 45)) (o := 2) (cs := [219, 247]) (rz := false) (T := zP_Census_firstLost) (E := zE_Census_firstLost (Int32 × zM)) (kr := zkI) (res := p) (v0 := some (.int p.1)) (S0 := p.2) (as := [.ref a0, .int a1]) (S := S) zMT_fine (by decide +kernel) (fun i as S k' h => by
        unfold zE_Census_firstLost at h
        rcases zdisf h with ⟨rfl, h⟩ | h
        · exact h0 _ _ _ _ _ h
        rcases zdisf h with ⟨rfl, h⟩ | h
        · exact h1 _ _ _ _ _ h
        cases h) ok_Census_firstLost rfl (fun v S' h => zkI_inv h) (Nat.le_of_ble_eq_true rfl) (fun g H Hw => Hw _ [some (.ref a0), some (.int a1), none, none] _ _ _ ⟨rfl, rfl, trivial⟩ (G_Census_firstLost H Hw a0 a1 S hp))
      exact ⟨_, _, h, hm.1, rfl, fun _ => ⟨_, _, rfl⟩, (fun _ U H hK hH a r e => by cases e; exact zrecv (ci := 2) (by omega) hkd rfl U H hK hH), hm.2⟩
    · cases hp
  · cases h
def zP_Cl_lost : List (List (Nat × zE)) := [[(0, e1 (.aload_n 0) 1 0), (1, e1 (.iload_n 1) 2 1), (2, ei (.iconst 1) 3 0 (1)), (3, e3 (.invokevirtual 258) 6 0 3 0), (6, e1 (.istore_n 2) 7 2), (7, e1 (.iload_n 2) 8 2), (8, e1 (.ifCond .eq 10) 11 18), (11, e1 (.aload_n 0) 12 0), (12, e1 (.iload_n 2) 13 2), (13, e3 (.invokevirtual 79) 16 1 2 0)],
  [(16, e0 (.i2l) 17), (17, e0 (.lreturn) 18), (18, e1 (.aload_n 0) 19 0), (19, e1 (.iload_n 1) 20 1), (20, e3 (.invokevirtual 265) 23 2 2 0), (23, e1 (.astore_n 3) 24 3), (24, e1 (.aload_n 3) 25 3), (25, e1 (.iload_n 1) 26 1), (26, e3 (.invokevirtual 314) 29 3 2 0), (29, e1 (.aload_n 3) 30 3), (30, e1 (.iload_n 1) 31 1), (31, e3 (.invokevirtual 320) 34 4 2 0)],
  [(34, e1 (.istore 4) 36 4), (36, e1 (.iload 4) 38 4), (38, ei (.iconst (-1)) 39 0 (-1)), (39, e1 (.if_icmp .ne 12) 42 51), (42, e1 (.aload_n 0) 43 0), (43, ei (.iconst 5) 44 0 (5)), (44, e3 (.invokevirtual 79) 47 1 2 0), (47, e0 (.i2l) 48)],
  [(48, e1 (.goto 10) 51 58), (51, e1 (.aload_n 0) 52 0), (52, e1 (.aload_n 3) 53 3), (53, e1 (.iload 4) 55 4), (55, e3 (.invokevirtual 277) 58 5 3 0), (58, e0 (.lreturn) 59)]]
noncomputable def zE_Cl_lost (α : Type) : Nat → zX α := fun i => bif Nat.beq i 0 then zA_vRII_I 11 f_Cl_troubleUpTo else bif Nat.beq i 1 then zA_vRI_I 11 f_Cl_refuse else bif Nat.beq i 2 then zA_vRI_R 11 f_Cl_censusUpTo else bif Nat.beq i 3 then zA_vRI_V 2 f_Census_learnBack else bif Nat.beq i 4 then zA_vRI_I 2 f_Census_firstLost else bif Nat.beq i 5 then zA_vRRI_J 11 f_Cl_answerWord else fun _ _ _ => none
def zc_Cl_lost : Nat → Bool := fun pc => false
set_option maxRecDepth 100000 in
theorem r_Cl_lost (a0 : Nat) (a1 : Int32) (S : zM) : f_Cl_lost a0 a1 S = zrt false zP_Cl_lost (zE_Cl_lost (Int64 × zM)) zc_Cl_lost zkJ (fun pc lv st S => none) 1000 0 [some (.ref a0), some (.int a1), none, none, none] [] S := rfl
theorem G_Cl_lost {g : zV → Nat → List Value → zM → Prop} {res : (Int64 × zM)} (H : zCl false zP_Cl_lost (zE_Cl_lost (Int64 × zM)) zkJ res g) (Hw : zWk g) (a0 : Nat) (a1 : Int32) (S : zM) (h : f_Cl_lost a0 a1 S = some res) : g [some (.ref a0), some (.int a1), none, none, none] 0 [] S := by
  refine H zc_Cl_lost _ 1000 _ _ _ _ ((r_Cl_lost a0 a1 S).symm.trans h) (fun pc lv st S hK => ?_)
  cases hK
set_option maxRecDepth 100000 in
theorem ok_Cl_lost : zokT 11 [210, 16, 227, 277, 282, 239] false 7 212 5 false (some .long) cX11_lost zP_Cl_lost = true := by decide +kernel
set_option maxRecDepth 100000 in
theorem s_Cl_lost {l : Launch} {HB : Heap} {b L : Nat} {xs : Nat → Int32} {aK aV : Nat → Nat} {G : va_G} {tc : Nat → ClassId} (h0 : zSnd l HB b L xs aK aV G tc (zMT.getD 210 zyD) (fun α => zA_vRII_I 11 f_Cl_troubleUpTo)) (h1 : zSnd l HB b L xs aK aV G tc (zMT.getD 16 zyD) (fun α => zA_vRI_I 11 f_Cl_refuse)) (h2 : zSnd l HB b L xs aK aV G tc (zMT.getD 227 zyD) (fun α => zA_vRI_R 11 f_Cl_censusUpTo)) (h3 : zSnd l HB b L xs aK aV G tc (zMT.getD 277 zyD) (fun α => zA_vRI_V 2 f_Census_learnBack)) (h4 : zSnd l HB b L xs aK aV G tc (zMT.getD 282 zyD) (fun α => zA_vRI_I 2 f_Census_firstLost)) (h5 : zSnd l HB b L xs aK aV G tc (zMT.getD 239 zyD) (fun α => zA_vRRI_J 11 f_Cl_answerWord)) : zSnd l HB b L xs aK aV G tc (zMT.getD 283 zyD) (fun α => zA_vRI_J 11 f_Cl_lost) := by
  rw [show zMT.getD 283 zyD = (yX11_lost, cX11_lost, 5, (some .long), 0, 2, 7, 212) from rfl]
  intro α as S k res h
  unfold zA_vRI_J at h
  dsimp only at h
  split at h
  · rename_i a0 a1
    obtain ⟨p, hp, h⟩ := zbind h
    unfold zcl at hp
    split at hp
    · rename_i hkd
      have hm := zmeth (l := l) (HB := HB) (b := b) (L := L) (xs := xs) (aK := aK) (aV := aV) (G := G) (tc := tc) (q := (yX11_lost, cX11_lost, 5, (some .long), 0, 2, 7, 212)) (o := 11) (cs := [210, 16, 227, 277, 282, 239]) (rz := false) (T := zP_Cl_lost) (E := zE_Cl_lost (Int64 × zM)) (kr := zkJ) (res := p) (v0 := some (.long p.1)) (S0 := p.2) (as := [.ref a0, .int a1]) (S := S) zMT_fine (by decide +kernel) (fun i as S k' h => by
        unfold zE_Cl_lost at h
        rcases zdisf h with ⟨rfl, h⟩ | h
        · exact h0 _ _ _ _ _ h
        rcases zdisf h with ⟨rfl, h⟩ | h
        · exact h1 _ _ _ _ _ h
        rcases zdisf h with ⟨rfl, h⟩ | h
        · exact h2 _ _ _ _ _ h
        rcases zdisf h with ⟨rfl, h⟩ | h
        · exact h3 _ _ _ _ _ h
        rcases zdisf h with ⟨rfl, h⟩ | h
        · exact h4 _ _ _ _ _ h
        rcases zdisf h with ⟨rfl, h⟩ | h
        · exact h5 _ _ _ _ _ h
        cases h) ok_Cl_lost rfl (fun v S' h => zkJ_inv h) (Nat.le_of_ble_eq_true rfl) (fun g H Hw => Hw _ [some (.ref a0), some (.int a1), none, none, none] _ _ _ ⟨rfl, rfl, trivial⟩ (G_Cl_lost H Hw a0 a1 S hp))
      exact ⟨_, _, h, hm.1, rfl, fun _ => ⟨_, _, rfl⟩, (fun _ U H hK hH a r e => by cases e; exact zrecv (ci := 11) (by omega) hkd rfl U H hK hH), hm.2⟩
    · cases hp
  · cases h
def zP_Mo_lost : List (List (Nat × zE)) := [[(0, e1 (.aload_n 0) 1 0), (1, e1 (.aload_n 0) 2 0), (2, ei (.iconst 1) 3 0 (1)), (3, e1 (.iload_n 1) 4 1), (4, e3 (.invokevirtual 454) 7 0 3 0), (7, e3 (.invokevirtual 458) 10 1 2 0), (10, e1 (.ifCond .eq 7) 13 17), (13, ej (.ldc2_w 464) 16 (-1))],
  [(16, e0 (.lreturn) 17), (17, ei (.iconst 0) 18 0 (0)), (18, e1 (.istore_n 2) 19 2), (19, e1 (.iload_n 2) 20 2), (20, e1 (.aload_n 0) 21 0), (21, e1 (.iload_n 1) 22 1), (22, e3 (.invokevirtual 435) 25 2 2 0), (25, e1 (.if_icmp .ge 24) 28 49), (28, e1 (.aload_n 0) 29 0), (29, e1 (.iload_n 2) 30 2), (30, e3 (.invokevirtual 482) 33 3 2 0)],
  [(33, ei (.iconst 2) 34 0 (2)), (34, e1 (.if_icmp .ne 9) 37 43), (37, e1 (.aload_n 0) 38 0), (38, e1 (.iload_n 2) 39 2), (39, e3 (.invokevirtual 466) 42 4 2 0), (42, e0 (.lreturn) 43), (43, ei (.iinc 2 1) 46 2 (1)), (46, e1 (.goto (-27)) 49 19)],
  [(49, e1 (.aload_n 0) 50 0), (50, ei (.iconst 5) 51 0 (5)), (51, e3 (.invokevirtual 275) 54 5 2 0), (54, e0 (.i2l) 55), (55, e0 (.lreturn) 56)]]
noncomputable def zE_Mo_lost (α : Type) : Nat → zX α := fun i => bif Nat.beq i 0 then zA_vRII_I 12 f_Mo_wordsWhy else bif Nat.beq i 1 then zA_vRI_I 12 f_Mo_isRefused else bif Nat.beq i 2 then zA_vRI_I 12 f_Mo_manyUpTo else bif Nat.beq i 3 then zA_vRI_I 12 f_Mo_backOf else bif Nat.beq i 4 then zA_vRI_J 12 f_Mo_wordOf else bif Nat.beq i 5 then zA_vRI_I 12 f_Mo_no else fun _ _ _ => none
def zc_Mo_lost : Nat → Bool := fun pc => Nat.beq pc 19
def D_Mo_lost_19 (k : Nat → Int32 → Int32 → zM → Option (Int64 × zM)) (lv : zV) (st : List Value) (S : zM) : Option (Int64 × zM) := match lv, st with
  | [some (.ref a0), some (.int a1), some (.int a2)], [] => k a0 a1 a2 S
  | _, _ => none
theorem d_Mo_lost_19 {g : zV → Nat → List Value → zM → Prop} (Hw : zWk g) {k : Nat → Int32 → Int32 → zM → Option (Int64 × zM)} {res : (Int64 × zM)} {lv : zV} {st : List Value} {S : zM} (h : D_Mo_lost_19 k lv st S = some res) (hk : ∀ a0 a1 a2 S, k a0 a1 a2 S = some res → g [some (.ref a0), some (.int a1), some (.int a2)] 19 [] S) : g lv 19 st S := by
  unfold D_Mo_lost_19 at h
  split at h
  · exact Hw _ _ _ _ _ (by simp [zle]) (hk _ _ _ _  h)
  · cases h
set_option maxRecDepth 100000 in
theorem r_Mo_lost_19 (n : Nat) (a0 : Nat) (a1 : Int32) (a2 : Int32) (S : zM) : L_Mo_lost_19 (n + 1) a0 a1 a2 S = zrt false zP_Mo_lost (zE_Mo_lost (Int64 × zM)) zc_Mo_lost zkJ (fun pc lv st S => bif Nat.beq pc 19 then D_Mo_lost_19 (L_Mo_lost_19 n) lv st S else none) 1000 19 [some (.ref a0), some (.int a1), some (.int a2)] [] S := rfl
theorem g_Mo_lost_19 {g : zV → Nat → List Value → zM → Prop} {res : (Int64 × zM)} (H : zCl false zP_Mo_lost (zE_Mo_lost (Int64 × zM)) zkJ res g) (Hw : zWk g) (n : Nat) : ∀ (a0 : Nat) (a1 : Int32) (a2 : Int32) (S : zM), L_Mo_lost_19 n a0 a1 a2 S = some res → g [some (.ref a0), some (.int a1), some (.int a2)] 19 [] S := by
  induction n with
  | zero => intro a0 a1 a2 S h; cases h
  | succ n ih =>
    intro a0 a1 a2 S h
    refine H zc_Mo_lost _ 1000 _ _ _ _ ((r_Mo_lost_19 n a0 a1 a2 S).symm.trans h) (fun pc lv st S hK => ?_)
    rcases zdis hK with ⟨rfl, hK⟩ | hK
    · exact d_Mo_lost_19 Hw hK ih
    cases hK
set_option maxRecDepth 100000 in
theorem r_Mo_lost (a0 : Nat) (a1 : Int32) (S : zM) : f_Mo_lost a0 a1 S = zrt false zP_Mo_lost (zE_Mo_lost (Int64 × zM)) zc_Mo_lost zkJ (fun pc lv st S => bif Nat.beq pc 19 then D_Mo_lost_19 (L_Mo_lost_19 zF) lv st S else none) 1000 0 [some (.ref a0), some (.int a1), none] [] S := rfl
theorem G_Mo_lost {g : zV → Nat → List Value → zM → Prop} {res : (Int64 × zM)} (H : zCl false zP_Mo_lost (zE_Mo_lost (Int64 × zM)) zkJ res g) (Hw : zWk g) (a0 : Nat) (a1 : Int32) (S : zM) (h : f_Mo_lost a0 a1 S = some res) : g [some (.ref a0), some (.int a1), none] 0 [] S := by
  refine H zc_Mo_lost _ 1000 _ _ _ _ ((r_Mo_lost a0 a1 S).symm.trans h) (fun pc lv st S hK => ?_)
  rcases zdis hK with ⟨rfl, hK⟩ | hK
  · exact d_Mo_lost_19 Hw hK (g_Mo_lost_19 H Hw  zF)
  cases hK
set_option maxRecDepth 100000 in
theorem ok_Mo_lost : zokT 12 [213, 214, 215, 280, 241, 63] false 8 196 3 false (some .long) cX12_lost zP_Mo_lost = true := by decide +kernel
set_option maxRecDepth 100000 in
theorem s_Mo_lost {l : Launch} {HB : Heap} {b L : Nat} {xs : Nat → Int32} {aK aV : Nat → Nat} {G : va_G} {tc : Nat → ClassId} (h0 : zSnd l HB b L xs aK aV G tc (zMT.getD 213 zyD) (fun α => zA_vRII_I 12 f_Mo_wordsWhy)) (h1 : zSnd l HB b L xs aK aV G tc (zMT.getD 214 zyD) (fun α => zA_vRI_I 12 f_Mo_isRefused)) (h2 : zSnd l HB b L xs aK aV G tc (zMT.getD 215 zyD) (fun α => zA_vRI_I 12 f_Mo_manyUpTo)) (h3 : zSnd l HB b L xs aK aV G tc (zMT.getD 280 zyD) (fun α => zA_vRI_I 12 f_Mo_backOf)) (h4 : zSnd l HB b L xs aK aV G tc (zMT.getD 241 zyD) (fun α => zA_vRI_J 12 f_Mo_wordOf)) (h5 : zSnd l HB b L xs aK aV G tc (zMT.getD 63 zyD) (fun α => zA_vRI_I 12 f_Mo_no)) : zSnd l HB b L xs aK aV G tc (zMT.getD 284 zyD) (fun α => zA_vRI_J 12 f_Mo_lost) := by
  rw [show zMT.getD 284 zyD = (yX12_lost, cX12_lost, 3, (some .long), 0, 2, 8, 196) from rfl]
  intro α as S k res h
  unfold zA_vRI_J at h
  dsimp only at h
  split at h
  · rename_i a0 a1
    obtain ⟨p, hp, h⟩ := zbind h
    unfold zcl at hp
    split at hp
    · rename_i hkd
      have hm := zmeth (l := l) (HB := HB) (b := b) (L := L) (xs := xs) (aK := aK) (aV := aV) (G := G) (tc := tc) (q := (yX12_lost, cX12_lost, 3, (some .long), 0, 2, 8, 196)) (o := 12) (cs := [213, 214, 215, 280, 241, 63]) (rz := false) (T := zP_Mo_lost) (E := zE_Mo_lost (Int64 × zM)) (kr := zkJ) (res := p) (v0 := some (.long p.1)) (S0 := p.2) (as := [.ref a0, .int a1]) (S := S) zMT_fine (by decide +kernel) (fun i as S k' h => by
        unfold zE_Mo_lost at h
        rcases zdisf h with ⟨rfl, h⟩ | h
        · exact h0 _ _ _ _ _ h
        rcases zdisf h with ⟨rfl, h⟩ | h
        · exact h1 _ _ _ _ _ h
        rcases zdisf h with ⟨rfl, h⟩ | h
        · exact h2 _ _ _ _ _ h
        rcases zdisf h with ⟨rfl, h⟩ | h
        · exact h3 _ _ _ _ _ h
        rcases zdisf h with ⟨rfl, h⟩ | h
        · exact h4 _ _ _ _ _ h
        rcases zdisf h with ⟨rfl, h⟩ | h
        · exact h5 _ _ _ _ _ h
        cases h) ok_Mo_lost rfl (fun v S' h => zkJ_inv h) (Nat.le_of_ble_eq_true rfl) (fun g H Hw => Hw _ [some (.ref a0), some (.int a1), none] _ _ _ ⟨rfl, rfl, trivial⟩ (G_Mo_lost H Hw a0 a1 S hp))
      exact ⟨_, _, h, hm.1, rfl, fun _ => ⟨_, _, rfl⟩, (fun _ U H hK hH a r e => by cases e; exact zrecv (ci := 12) (by omega) hkd rfl U H hK hH), hm.2⟩
    · cases hp
  · cases h
def zP_Script_turnAside : List (List (Nat × zE)) := [[(0, e1 (.aload_n 0) 1 0), (1, e1 (.iload_n 1) 2 1), (2, e3 (.invokevirtual 39) 5 0 2 0), (5, e1 (.astore_n 3) 6 3), (6, e1 (.aload_n 3) 7 3), (7, e1 (.ifnull 23) 10 30), (10, e1 (.aload_n 3) 11 3), (11, e1 (.iload_n 2) 12 2), (12, e3 (.invokevirtual 43) 15 1 2 0), (15, e1 (.ifnull 15) 18 30)],
  [(18, e1 (.aload_n 3) 19 3), (19, e0 (.dup) 20), (20, e3 (.getfield 50) 23 5 5 0), (23, ei (.iconst 1) 24 0 (1)), (24, e1 (.iload_n 2) 25 2), (25, e0 (.ishl) 26), (26, e0 (.ixor) 27), (27, e3 (.putfield 50) 30 5 5 0), (30, e0 (.return_) 31)]]
noncomputable def zE_Script_turnAside (α : Type) : Nat → zX α := fun i => bif Nat.beq i 0 then zA_vRI_N 10 f_Script_passAt else bif Nat.beq i 1 then zA_vRI_N 5 f_Pass_ruleAt else fun _ _ _ => none
def zc_Script_turnAside : Nat → Bool := fun pc => false
set_option maxRecDepth 100000 in
theorem r_Script_turnAside (a0 : Nat) (a1 : Int32) (a2 : Int32) (S : zM) : f_Script_turnAside a0 a1 a2 S = zrt false zP_Script_turnAside (zE_Script_turnAside zM) zc_Script_turnAside zkV (fun pc lv st S => none) 1000 0 [some (.ref a0), some (.int a1), some (.int a2), none] [] S := rfl
theorem G_Script_turnAside {g : zV → Nat → List Value → zM → Prop} {res : zM} (H : zCl false zP_Script_turnAside (zE_Script_turnAside zM) zkV res g) (Hw : zWk g) (a0 : Nat) (a1 : Int32) (a2 : Int32) (S : zM) (h : f_Script_turnAside a0 a1 a2 S = some res) : g [some (.ref a0), some (.int a1), some (.int a2), none] 0 [] S := by
  refine H zc_Script_turnAside _ 1000 _ _ _ _ ((r_Script_turnAside a0 a1 a2 S).symm.trans h) (fun pc lv st S hK => ?_)
  cases hK
set_option maxRecDepth 100000 in
theorem ok_Script_turnAside : zokT 10 [44, 47] false 1 21 4 false none cX10_turnAside zP_Script_turnAside = true := by decide +kernel
set_option maxRecDepth 100000 in
theorem s_Script_turnAside {l : Launch} {HB : Heap} {b L : Nat} {xs : Nat → Int32} {aK aV : Nat → Nat} {G : va_G} {tc : Nat → ClassId} (h0 : zSnd l HB b L xs aK aV G tc (zMT.getD 44 zyD) (fun α => zA_vRI_N 10 f_Script_passAt)) (h1 : zSnd l HB b L xs aK aV G tc (zMT.getD 47 zyD) (fun α => zA_vRI_N 5 f_Pass_ruleAt)) : zSnd l HB b L xs aK aV G tc (zMT.getD 285 zyD) (fun α => zA_vRII_V 10 f_Script_turnAside) := by
  rw [show zMT.getD 285 zyD = (yX10_turnAside, cX10_turnAside, 4, none, 0, 3, 1, 21) from rfl]
  intro α as S k res h
  unfold zA_vRII_V at h
  dsimp only at h
  split at h
  · rename_i a0 a1 a2
    obtain ⟨p, hp, h⟩ := zbind h
    unfold zcl at hp
    split at hp
    · rename_i hkd
      have hm := zmeth (l := l) (HB := HB) (b := b) (L := L) (xs := xs) (aK := aK) (aV := aV) (G := G) (tc := tc) (q := (yX10_turnAside, cX10_turnAside, 4, none, 0, 3, 1, 21)) (o := 10) (cs := [44, 47]) (rz := false) (T := zP_Script_turnAside) (E := zE_Script_turnAside zM) (kr := zkV) (res := p) (v0 := none) (S0 := p) (as := [.ref a0, .int a1, .int a2]) (S := S) zMT_fine (by decide +kernel) (fun i as S k' h => by
        unfold zE_Script_turnAside at h
        rcases zdisf h with ⟨rfl, h⟩ | h
        · exact h0 _ _ _ _ _ h
        rcases zdisf h with ⟨rfl, h⟩ | h
        · exact h1 _ _ _ _ _ h
        cases h) ok_Script_turnAside rfl (fun v S' h => zkV_inv h) (Nat.le_of_ble_eq_true rfl) (fun g H Hw => Hw _ [some (.ref a0), some (.int a1), some (.int a2), none] _ _ _ ⟨rfl, rfl, rfl, trivial⟩ (G_Script_turnAside H Hw a0 a1 a2 S hp))
      exact ⟨_, _, h, hm.1, rfl, fun _ => ⟨_, _, rfl⟩, (fun _ U H hK hH a r e => by cases e; exact zrecv (ci := 10) (by omega) hkd rfl U H hK hH), hm.2⟩
    · cases hp
  · cases h
def zP_Outcomes_putSame : List (List (Nat × zE)) := [[(0, e1 (.iload_n 1) 1 1), (1, e1 (.ifCond .lt 10) 4 11), (4, e1 (.iload_n 1) 5 1), (5, ei (.sipush 1364) 8 0 (1364)), (8, e1 (.if_icmp .lt 5) 11 13), (11, ei (.iconst (-1)) 12 0 (-1)), (12, e0 (.ireturn) 13), (13, e1 (.aload_n 0) 14 0), (14, e3 (.getfield 9) 17 4 0 2)],
  [(17, e1 (.iload_n 1) 18 1), (18, e1 (.aload_n 2) 19 2), (19, e1 (.iload_n 1) 20 1), (20, e3 (.invokevirtual 42) 23 0 2 0), (23, e0 (.iastore) 24), (24, ei (.iconst 0) 25 0 (0)), (25, e1 (.istore_n 3) 26 3), (26, e1 (.iload_n 3) 27 3), (27, ei (.iconst 3) 28 0 (3)), (28, e1 (.if_icmp .ge 25) 31 53), (31, e1 (.aload_n 0) 32 0)],
  [(32, e3 (.getfield 15) 35 4 1 2), (35, e1 (.iload_n 1) 36 1), (36, ei (.iconst 3) 37 0 (3)), (37, e0 (.imul) 38), (38, e1 (.iload_n 3) 39 3), (39, e0 (.iadd) 40), (40, e1 (.aload_n 2) 41 2), (41, e1 (.iload_n 1) 42 1), (42, e1 (.iload_n 3) 43 3), (43, e3 (.invokevirtual 45) 46 1 3 0), (46, e0 (.lastore) 47), (47, ei (.iinc 3 1) 50 3 (1))],
  [(50, e1 (.goto (-24)) 53 26), (53, e1 (.aload_n 0) 54 0), (54, e3 (.getfield 9) 57 4 0 2), (57, e1 (.iload_n 1) 58 1), (58, e0 (.iaload) 59), (59, e1 (.ifCond .ge 7) 62 66), (62, ei (.iconst (-1)) 63 0 (-1)), (63, e1 (.goto 8) 66 71)],
  [(66, e1 (.aload_n 0) 67 0), (67, e1 (.iload_n 1) 68 1), (68, e3 (.invokevirtual 38) 71 2 2 0), (71, e0 (.ireturn) 72)]]
noncomputable def zE_Outcomes_putSame (α : Type) : Nat → zX α := fun i => bif Nat.beq i 0 then zA_vRI_I 4 f_Outcomes_lengthOf else bif Nat.beq i 1 then zA_vRII_J 4 f_Outcomes_blockOf else bif Nat.beq i 2 then zA_vRI_I 4 f_Outcomes_seat else fun _ _ _ => none
def zc_Outcomes_putSame : Nat → Bool := fun pc => Nat.beq pc 26
def D_Outcomes_putSame_26 (k : Nat → Int32 → Nat → Int32 → zM → Option (Int32 × zM)) (lv : zV) (st : List Value) (S : zM) : Option (Int32 × zM) := match lv, st with
  | [some (.ref a0), some (.int a1), some (.ref a2), some (.int a3)], [] => k a0 a1 a2 a3 S
  | _, _ => none
theorem d_Outcomes_putSame_26 {g : zV → Nat → List Value → zM → Prop} (Hw : zWk g) {k : Nat → Int32 → Nat → Int32 → zM → Option (Int32 × zM)} {res : (Int32 × zM)} {lv : zV} {st : List Value} {S : zM} (h : D_Outcomes_putSame_26 k lv st S = some res) (hk : ∀ a0 a1 a2 a3 S, k a0 a1 a2 a3 S = some res → g [some (.ref a0), some (.int a1), some (.ref a2), some (.int a3)] 26 [] S) : g lv 26 st S := by
  unfold D_Outcomes_putSame_26 at h
  split at h
  · exact Hw _ _ _ _ _ (by simp [zle]) (hk _ _ _ _ _  h)
  · cases h
set_option maxRecDepth 100000 in
theorem r_Outcomes_putSame_26 (n : Nat) (a0 : Nat) (a1 : Int32) (a2 : Nat) (a3 : Int32) (S : zM) : L_Outcomes_putSame_26 (n + 1) a0 a1 a2 a3 S = zrt false zP_Outcomes_putSame (zE_Outcomes_putSame (Int32 × zM)) zc_Outcomes_putSame zkI (fun pc lv st S => bif Nat.beq pc 26 then D_Outcomes_putSame_26 (L_Outcomes_putSame_26 n) lv st S else none) 1000 26 [some (.ref a0), some (.int a1), some (.ref a2), some (.int a3)] [] S := rfl
theorem g_Outcomes_putSame_26 {g : zV → Nat → List Value → zM → Prop} {res : (Int32 × zM)} (H : zCl false zP_Outcomes_putSame (zE_Outcomes_putSame (Int32 × zM)) zkI res g) (Hw : zWk g) (n : Nat) : ∀ (a0 : Nat) (a1 : Int32) (a2 : Nat) (a3 : Int32) (S : zM), L_Outcomes_putSame_26 n a0 a1 a2 a3 S = some res → g [some (.ref a0), some (.int a1), some (.ref a2), some (.int a3)] 26 [] S := by
  induction n with
  | zero => intro a0 a1 a2 a3 S h; cases h
  | succ n ih =>
    intro a0 a1 a2 a3 S h
    refine H zc_Outcomes_putSame _ 1000 _ _ _ _ ((r_Outcomes_putSame_26 n a0 a1 a2 a3 S).symm.trans h) (fun pc lv st S hK => ?_)
    rcases zdis hK with ⟨rfl, hK⟩ | hK
    · exact d_Outcomes_putSame_26 Hw hK ih
    cases hK
set_option maxRecDepth 100000 in
theorem r_Outcomes_putSame (a0 : Nat) (a1 : Int32) (a2 : Nat) (S : zM) : f_Outcomes_putSame a0 a1 a2 S = zrt false zP_Outcomes_putSame (zE_Outcomes_putSame (Int32 × zM)) zc_Outcomes_putSame zkI (fun pc lv st S => bif Nat.beq pc 26 then D_Outcomes_putSame_26 (L_Outcomes_putSame_26 zF) lv st S else none) 1000 0 [some (.ref a0), some (.int a1), some (.ref a2), none] [] S := rfl
theorem G_Outcomes_putSame {g : zV → Nat → List Value → zM → Prop} {res : (Int32 × zM)} (H : zCl false zP_Outcomes_putSame (zE_Outcomes_putSame (Int32 × zM)) zkI res g) (Hw : zWk g) (a0 : Nat) (a1 : Int32) (a2 : Nat) (S : zM) (h : f_Outcomes_putSame a0 a1 a2 S = some res) : g [some (.ref a0), some (.int a1), some (.ref a2), none] 0 [] S := by
  refine H zc_Outcomes_putSame _ 1000 _ _ _ _ ((r_Outcomes_putSame a0 a1 a2 S).symm.trans h) (fun pc lv st S hK => ?_)
  rcases zdis hK with ⟨rfl, hK⟩ | hK
  · exact d_Outcomes_putSame_26 Hw hK (g_Outcomes_putSame_26 H Hw  zF)
  cases hK
set_option maxRecDepth 100000 in
theorem ok_Outcomes_putSame : zokT 4 [246, 222, 224] false 3 70 4 false (some .int) cX4_putSame zP_Outcomes_putSame = true := by decide +kernel
set_option maxRecDepth 100000 in
theorem s_Outcomes_putSame {l : Launch} {HB : Heap} {b L : Nat} {xs : Nat → Int32} {aK aV : Nat → Nat} {G : va_G} {tc : Nat → ClassId} (h0 : zSnd l HB b L xs aK aV G tc (zMT.getD 246 zyD) (fun α => zA_vRI_I 4 f_Outcomes_lengthOf)) (h1 : zSnd l HB b L xs aK aV G tc (zMT.getD 222 zyD) (fun α => zA_vRII_J 4 f_Outcomes_blockOf)) (h2 : zSnd l HB b L xs aK aV G tc (zMT.getD 224 zyD) (fun α => zA_vRI_I 4 f_Outcomes_seat)) : zSnd l HB b L xs aK aV G tc (zMT.getD 286 zyD) (fun α => zA_vRIR_I 4 f_Outcomes_putSame) := by
  rw [show zMT.getD 286 zyD = (yX4_putSame, cX4_putSame, 4, (some .int), 0, 3, 3, 70) from rfl]
  intro α as S k res h
  unfold zA_vRIR_I at h
  dsimp only at h
  split at h
  · rename_i a0 a1 a2
    obtain ⟨p, hp, h⟩ := zbind h
    unfold zcl at hp
    split at hp
    · rename_i hkd
      have hm := zmeth (l := l) (HB := HB) (b := b) (L := L) (xs := xs) (aK := aK) (aV := aV) (G := G) (tc := tc) (q := (yX4_putSame, cX4_putSame, 4, (some .int), 0, 3, 3, 70)) (o := 4) (cs := [246, 222, 224]) (rz := false) (T := zP_Outcomes_putSame) (E := zE_Outcomes_putSame (Int32 × zM)) (kr := zkI) (res := p) (v0 := some (.int p.1)) (S0 := p.2) (as := [.ref a0, .int a1, .ref a2]) (S := S) zMT_fine (by decide +kernel) (fun i as S k' h => by
        unfold zE_Outcomes_putSame at h
        rcases zdisf h with ⟨rfl, h⟩ | h
        · exact h0 _ _ _ _ _ h
        rcases zdisf h with ⟨rfl, h⟩ | h
        · exact h1 _ _ _ _ _ h
        rcases zdisf h with ⟨rfl, h⟩ | h
        · exact h2 _ _ _ _ _ h
        cases h) ok_Outcomes_putSame rfl (fun v S' h => zkI_inv h) (Nat.le_of_ble_eq_true rfl) (fun g H Hw => Hw _ [some (.ref a0), some (.int a1), some (.ref a2), none] _ _ _ ⟨rfl, rfl, rfl, trivial⟩ (G_Outcomes_putSame H Hw a0 a1 a2 S hp))
      exact ⟨_, _, h, hm.1, rfl, fun _ => ⟨_, _, rfl⟩, (fun _ U H hK hH a r e => by cases e; exact zrecv (ci := 4) (by omega) hkd rfl U H hK hH), hm.2⟩
    · cases hp
  · cases h
def zP_Census_doubledWithout : List (List (Nat × zE)) := [[(0, ei (.iconst 0) 1 0 (0)), (1, e1 (.istore 4) 3 4), (3, e1 (.aload_n 0) 4 0), (4, e3 (.getfield 18) 7 2 1 2), (7, e3 (.invokevirtual 60) 10 0 1 0), (10, ei (.iconst 0) 11 0 (0)), (11, e1 (.istore 5) 13 5), (13, e1 (.iload 5) 15 5), (15, e1 (.iload_n 2) 16 2)],
  [(16, e1 (.if_icmp .ge 111) 19 127), (19, e1 (.iload 4) 21 4), (21, e1 (.iload_n 3) 22 3), (22, e1 (.if_icmp .ge 105) 25 127), (25, e1 (.aload_n 0) 26 0), (26, e3 (.getfield 40) 29 2 5 2), (29, e1 (.iload 5) 31 5), (31, e0 (.iaload) 32)],
  [(32, e1 (.iload_n 1) 33 1), (33, e0 (.ishr) 34), (34, ei (.iconst 1) 35 0 (1)), (35, e0 (.iand) 36), (36, e1 (.ifCond .ne 21) 39 57), (39, e1 (.aload_n 0) 40 0), (40, e3 (.getfield 18) 43 2 1 2), (43, e1 (.iload 5) 45 5), (45, e1 (.aload_n 0) 46 0), (46, e3 (.getfield 12) 49 2 0 2)],
  [(49, e3 (.invokevirtual 159) 52 1 3 0), (52, e1 (.istore 6) 54 6), (54, e1 (.goto 51) 57 105), (57, e1 (.aload_n 0) 58 0), (58, e3 (.getfield 33) 61 2 3 2), (61, e1 (.aload_n 0) 62 0), (62, e1 (.iload 5) 64 5)],
  [(64, e3 (.invokevirtual 78) 67 2 2 0), (67, e3 (.invokevirtual 82) 70 3 2 0), (70, e0 (.pop) 71), (71, e1 (.aload_n 0) 72 0), (72, e3 (.getfield 18) 75 2 1 2), (75, e1 (.iload 5) 77 5), (77, e1 (.aload_n 0) 78 0), (78, e3 (.getfield 24) 81 2 2 2)],
  [(81, e1 (.aload_n 0) 82 0), (82, e3 (.getfield 70) 85 2 9 2), (85, e1 (.aload_n 0) 86 0), (86, e3 (.getfield 33) 89 2 3 2), (89, ei (.iconst 0) 90 0 (0)), (90, e3 (.invokevirtual 86) 93 4 4 0), (93, e1 (.aload_n 0) 94 0), (94, e3 (.getfield 24) 97 2 2 2)],
  [(97, e3 (.getfield 90) 100 1 3 2), (100, e3 (.invokevirtual 91) 103 5 4 0), (103, e1 (.istore 6) 105 6), (105, e1 (.iload 4) 107 4), (107, e1 (.iload 6) 109 6), (109, ei (.iconst (-1)) 110 0 (-1)), (110, e1 (.if_icmp .eq 7) 113 117)],
  [(113, ei (.iconst 1) 114 0 (1)), (114, e1 (.goto 4) 117 118), (117, ei (.iconst 0) 118 0 (0)), (118, e0 (.iadd) 119), (119, e1 (.istore 4) 121 4), (121, ei (.iinc 5 1) 124 5 (1)), (124, e1 (.goto (-111)) 127 13), (127, e1 (.iload 4) 129 4)],
  [(129, e0 (.ireturn) 130)]]
noncomputable def zE_Census_doubledWithout (α : Type) : Nat → zX α := fun i => bif Nat.beq i 0 then zA_vR_V 4 f_Outcomes_forget else bif Nat.beq i 1 then zA_vRIR_I 4 f_Outcomes_putSame else bif Nat.beq i 2 then zA_vRI_J 2 f_Census_spelled else bif Nat.beq i 3 then zA_vRJ_I 8 f_Row_takeWord else bif Nat.beq i 4 then zA_vRRRI_I 1 f_Carrier_bring else bif Nat.beq i 5 then zA_vRIIR_I 4 f_Outcomes_put else fun _ _ _ => none
def zc_Census_doubledWithout : Nat → Bool := fun pc => Nat.beq pc 13
def D_Census_doubledWithout_13 (k : Nat → Int32 → Int32 → Int32 → Int32 → Int32 → zM → Option (Int32 × zM)) (lv : zV) (st : List Value) (S : zM) : Option (Int32 × zM) := match lv, st with
  | [some (.ref a0), some (.int a1), some (.int a2), some (.int a3), some (.int a4), some (.int a5), _], [] => k a0 a1 a2 a3 a4 a5 S
  | _, _ => none
theorem d_Census_doubledWithout_13 {g : zV → Nat → List Value → zM → Prop} (Hw : zWk g) {k : Nat → Int32 → Int32 → Int32 → Int32 → Int32 → zM → Option (Int32 × zM)} {res : (Int32 × zM)} {lv : zV} {st : List Value} {S : zM} (h : D_Census_doubledWithout_13 k lv st S = some res) (hk : ∀ a0 a1 a2 a3 a4 a5 S, k a0 a1 a2 a3 a4 a5 S = some res → g [some (.ref a0), some (.int a1), some (.int a2), some (.int a3), some (.int a4), some (.int a5), none] 13 [] S) : g lv 13 st S := by
  unfold D_Census_doubledWithout_13 at h
  split at h
  · exact Hw _ _ _ _ _ (by simp [zle]) (hk _ _ _ _ _ _ _  h)
  · cases h
set_option maxRecDepth 100000 in
theorem r_Census_doubledWithout_13 (n : Nat) (a0 : Nat) (a1 : Int32) (a2 : Int32) (a3 : Int32) (a4 : Int32) (a5 : Int32) (S : zM) : L_Census_doubledWithout_13 (n + 1) a0 a1 a2 a3 a4 a5 S = zrt false zP_Census_doubledWithout (zE_Census_doubledWithout (Int32 × zM)) zc_Census_doubledWithout zkI (fun pc lv st S => bif Nat.beq pc 13 then D_Census_doubledWithout_13 (L_Census_doubledWithout_13 n) lv st S else none) 1000 13 [some (.ref a0), some (.int a1), some (.int a2), some (.int a3), some (.int a4), some (.int a5), none] [] S := rfl
theorem g_Census_doubledWithout_13 {g : zV → Nat → List Value → zM → Prop} {res : (Int32 × zM)} (H : zCl false zP_Census_doubledWithout (zE_Census_doubledWithout (Int32 × zM)) zkI res g) (Hw : zWk g) (n : Nat) : ∀ (a0 : Nat) (a1 : Int32) (a2 : Int32) (a3 : Int32) (a4 : Int32) (a5 : Int32) (S : zM), L_Census_doubledWithout_13 n a0 a1 a2 a3 a4 a5 S = some res → g [some (.ref a0), some (.int a1), some (.int a2), some (.int a3), some (.int a4), some (.int a5), none] 13 [] S := by
  induction n with
  | zero => intro a0 a1 a2 a3 a4 a5 S h; cases h
  | succ n ih =>
    intro a0 a1 a2 a3 a4 a5 S h
    refine H zc_Census_doubledWithout _ 1000 _ _ _ _ ((r_Census_doubledWithout_13 n a0 a1 a2 a3 a4 a5 S).symm.trans h) (fun pc lv st S hK => ?_)
    rcases zdis hK with ⟨rfl, hK⟩ | hK
    · exact d_Census_doubledWithout_13 Hw hK ih
    cases hK
set_option maxRecDepth 100000 in
theorem r_Census_doubledWithout (a0 : Nat) (a1 : Int32) (a2 : Int32) (a3 : Int32) (S : zM) : f_Census_doubledWithout a0 a1 a2 a3 S = zrt false zP_Census_doubledWithout (zE_Census_doubledWithout (Int32 × zM)) zc_Census_doubledWithout zkI (fun pc lv st S => bif Nat.beq pc 13 then D_Census_doubledWithout_13 (L_Census_doubledWithout_13 zF) lv st S else none) 1000 0 [some (.ref a0), some (.int a1), some (.int a2), some (.int a3), none, none, none] [] S := rfl
theorem G_Census_doubledWithout {g : zV → Nat → List Value → zM → Prop} {res : (Int32 × zM)} (H : zCl false zP_Census_doubledWithout (zE_Census_doubledWithout (Int32 × zM)) zkI res g) (Hw : zWk g) (a0 : Nat) (a1 : Int32) (a2 : Int32) (a3 : Int32) (S : zM) (h : f_Census_doubledWithout a0 a1 a2 a3 S = some res) : g [some (.ref a0), some (.int a1), some (.int a2), some (.int a3), none, none, none] 0 [] S := by
  refine H zc_Census_doubledWithout _ 1000 _ _ _ _ ((r_Census_doubledWithout a0 a1 a2 a3 S).symm.trans h) (fun pc lv st S hK => ?_)
  rcases zdis hK with ⟨rfl, hK⟩ | hK
  · exact d_Census_doubledWithout_13 Hw hK (g_Census_doubledWithout_13 H Hw  zF)
  cases hK
set_option maxRecDepth 100000 in
theorem ok_Census_doubledWithout : zokT 2 [56, 286, 220, 149, 175, 225] false 5 166 7 false (some .int) cX2_doubledWithout zP_Census_doubledWithout = true := by decide +kernel
set_option maxRecDepth 100000 in
theorem s_Census_doubledWithout {l : Launch} {HB : Heap} {b L : Nat} {xs : Nat → Int32} {aK aV : Nat → Nat} {G : va_G} {tc : Nat → ClassId} (h0 : zSnd l HB b L xs aK aV G tc (zMT.getD 56 zyD) (fun α => zA_vR_V 4 f_Outcomes_forget)) (h1 : zSnd l HB b L xs aK aV G tc (zMT.getD 286 zyD) (fun α => zA_vRIR_I 4 f_Outcomes_putSame)) (h2 : zSnd l HB b L xs aK aV G tc (zMT.getD 220 zyD) (fun α => zA_vRI_J 2 f_Census_spelled)) (h3 : zSnd l HB b L xs aK aV G tc (zMT.getD 149 zyD) (fun α => zA_vRJ_I 8 f_Row_takeWord)) (h4 : zSnd l HB b L xs aK aV G tc (zMT.getD 175 zyD) (fun α => zA_vRRRI_I 1 f_Carrier_bring)) (h5 : zSnd l HB b L xs aK aV G tc (zMT.getD 225 zyD) (fun α => zA_vRIIR_I 4 f_Outcomes_put)) : zSnd l HB b L xs aK aV G tc (zMT.getD 287 zyD) (fun α => zA_vRIII_I 2 f_Census_doubledWithout) := by
  rw [show zMT.getD 287 zyD = (yX2_doubledWithout, cX2_doubledWithout, 7, (some .int), 0, 4, 5, 166) from rfl]
  intro α as S k res h
  unfold zA_vRIII_I at h
  dsimp only at h
  split at h
  · rename_i a0 a1 a2 a3
    obtain ⟨p, hp, h⟩ := zbind h
    unfold zcl at hp
    split at hp
    · rename_i hkd
      have hm := zmeth (l := l) (HB := HB) (b := b) (L := L) (xs := xs) (aK := aK) (aV := aV) (G := G) (tc := tc) (q := (yX2_doubledWithout, cX2_doubledWithout, 7, (some .int), 0, 4, 5, 166)) (o := 2) (cs := [56, 286, 220, 149, 175, 225]) (rz := false) (T := zP_Census_doubledWithout) (E := zE_Census_doubledWithout (Int32 × zM)) (kr := zkI) (res := p) (v0 := some (.int p.1)) (S0 := p.2) (as := [.ref a0, .int a1, .int a2, .int a3]) (S := S) zMT_fine (by decide +kernel) (fun i as S k' h => by
        unfold zE_Census_doubledWithout at h
        rcases zdisf h with ⟨rfl, h⟩ | h
        · exact h0 _ _ _ _ _ h
        rcases zdisf h with ⟨rfl, h⟩ | h
        · exact h1 _ _ _ _ _ h
        rcases zdisf h with ⟨rfl, h⟩ | h
        · exact h2 _ _ _ _ _ h
        rcases zdisf h with ⟨rfl, h⟩ | h
        · exact h3 _ _ _ _ _ h
        rcases zdisf h with ⟨rfl, h⟩ | h
        · exact h4 _ _ _ _ _ h
        rcases zdisf h with ⟨rfl, h⟩ | h
        · exact h5 _ _ _ _ _ h
        cases h) ok_Census_doubledWithout rfl (fun v S' h => zkI_inv h) (Nat.le_of_ble_eq_true rfl) (fun g H Hw => Hw _ [some (.ref a0), some (.int a1), some (.int a2), some (.int a3), none, none, none] _ _ _ ⟨rfl, rfl, rfl, rfl, trivial⟩ (G_Census_doubledWithout H Hw a0 a1 a2 a3 S hp))
      exact ⟨_, _, h, hm.1, rfl, fun _ => ⟨_, _, rfl⟩, (fun _ U H hK hH a r e => by cases e; exact zrecv (ci := 2) (by omega) hkd rfl U H hK hH), hm.2⟩
    · cases hp
  · cases h
def zP_Census_worstRule : List (List (Nat × zE)) := [[(0, e1 (.aload_n 0) 1 0), (1, e3 (.getfield 70) 4 2 9 3), (4, e1 (.ifnull 16) 7 20), (7, e1 (.iload_n 1) 8 1), (8, e1 (.ifCond .lt 12) 11 20), (11, e1 (.iload_n 1) 12 1), (12, e1 (.aload_n 0) 13 0), (13, e3 (.getfield 51) 16 2 8 2)],
  [(16, e0 (.arraylength) 17), (17, e1 (.if_icmp .lt 6) 20 23), (20, ei (.bipush (-2)) 22 0 (-2)), (22, e0 (.ireturn) 23), (23, e1 (.aload_n 0) 24 0), (24, e3 (.getfield 51) 27 2 8 2), (27, e1 (.iload_n 1) 28 1), (28, e0 (.iaload) 29), (29, ei (.bipush (-3)) 31 0 (-3)), (31, e1 (.if_icmp .eq 10) 34 41)],
  [(34, e1 (.aload_n 0) 35 0), (35, e3 (.getfield 51) 38 2 8 2), (38, e1 (.iload_n 1) 39 1), (39, e0 (.iaload) 40), (40, e0 (.ireturn) 41), (41, e1 (.aload_n 0) 42 0), (42, e1 (.iload_n 1) 43 1), (43, e3 (.invokevirtual 140) 46 0 2 0), (46, e1 (.istore_n 2) 47 2), (47, ei (.bipush (-2)) 49 0 (-2))],
  [(49, e1 (.istore_n 3) 50 3), (50, ei (.iconst 0) 51 0 (0)), (51, e1 (.istore 4) 53 4), (53, e1 (.iload 4) 55 4), (55, ei (.bipush 24) 57 0 (24)), (57, e1 (.if_icmp .ge 112) 60 169), (60, e1 (.iload_n 2) 61 2), (61, e1 (.ifCond .le 108) 64 169)],
  [(64, e1 (.iload 4) 66 4), (66, ei (.bipush 8) 68 0 (8)), (68, e0 (.idiv) 69), (69, e1 (.istore 5) 71 5), (71, e1 (.iload 4) 73 4), (73, ei (.bipush 8) 75 0 (8)), (75, e0 (.irem) 76), (76, e1 (.istore 6) 78 6), (78, e1 (.aload_n 0) 79 0), (79, e3 (.getfield 70) 82 2 9 2)],
  [(82, e1 (.iload 5) 84 5), (84, e1 (.iload 6) 86 6), (86, e3 (.invokevirtual 143) 89 1 3 0), (89, e1 (.ifnull 74) 92 163), (92, e1 (.aload_n 0) 93 0), (93, e3 (.getfield 70) 96 2 9 2)],
  [(96, e1 (.iload 5) 98 5), (98, e1 (.iload 6) 100 6), (100, e3 (.invokevirtual 147) 103 2 3 0), (103, e1 (.ifCond .eq 6) 106 109), (106, e1 (.goto 57) 109 163), (109, e1 (.aload_n 0) 110 0), (110, e3 (.getfield 70) 113 2 9 2)],
  [(113, e1 (.iload 5) 115 5), (115, e1 (.iload 6) 117 6), (117, e3 (.invokevirtual 151) 120 3 3 0), (120, e1 (.aload_n 0) 121 0), (121, e1 (.iload 4) 123 4), (123, e1 (.aload_n 0) 124 0), (124, e1 (.iload_n 1) 125 1), (125, e3 (.invokevirtual 74) 128 4 2 0)],
  [(128, e1 (.iload_n 2) 129 2), (129, e3 (.invokevirtual 155) 132 5 4 0), (132, e1 (.istore 7) 134 7), (134, e1 (.aload_n 0) 135 0), (135, e3 (.getfield 70) 138 2 9 2), (138, e1 (.iload 5) 140 5), (140, e1 (.iload 6) 142 6), (142, e3 (.invokevirtual 151) 145 3 3 0)],
  [(145, e1 (.iload 7) 147 7), (147, e1 (.iload_n 2) 148 2), (148, e1 (.if_icmp .ge 15) 151 163), (151, e1 (.iload 7) 153 7), (153, e1 (.istore_n 2) 154 2), (154, ei (.bipush 10) 156 0 (10)), (156, e1 (.iload 5) 158 5), (158, e0 (.imul) 159), (159, e1 (.iload 6) 161 6)],
  [(161, e0 (.iadd) 162), (162, e1 (.istore_n 3) 163 3), (163, ei (.iinc 4 1) 166 4 (1)), (166, e1 (.goto (-113)) 169 53), (169, e1 (.aload_n 0) 170 0), (170, e3 (.getfield 51) 173 2 8 2), (173, e1 (.iload_n 1) 174 1), (174, e1 (.iload_n 3) 175 3), (175, e0 (.iastore) 176)],
  [(176, e1 (.iload_n 3) 177 3), (177, e0 (.ireturn) 178)]]
noncomputable def zE_Census_worstRule (α : Type) : Nat → zX α := fun i => bif Nat.beq i 0 then zA_vRI_I 2 f_Census_countDoubled else bif Nat.beq i 1 then zA_vRII_N 10 f_Script_ruleAt else bif Nat.beq i 2 then zA_vRII_I 10 f_Script_isAside else bif Nat.beq i 3 then zA_vRII_V 10 f_Script_turnAside else bif Nat.beq i 4 then zA_vRI_I 2 f_Census_count else bif Nat.beq i 5 then zA_vRIII_I 2 f_Census_doubledWithout else fun _ _ _ => none
def zc_Census_worstRule : Nat → Bool := fun pc => Nat.beq pc 53
def D_Census_worstRule_53 (k : Nat → Int32 → Int32 → Int32 → Int32 → zM → Option (Int32 × zM)) (lv : zV) (st : List Value) (S : zM) : Option (Int32 × zM) := match lv, st with
  | [some (.ref a0), some (.int a1), some (.int a2), some (.int a3), some (.int a4), _, _, _], [] => k a0 a1 a2 a3 a4 S
  | _, _ => none
theorem d_Census_worstRule_53 {g : zV → Nat → List Value → zM → Prop} (Hw : zWk g) {k : Nat → Int32 → Int32 → Int32 → Int32 → zM → Option (Int32 × zM)} {res : (Int32 × zM)} {lv : zV} {st : List Value} {S : zM} (h : D_Census_worstRule_53 k lv st S = some res) (hk : ∀ a0 a1 a2 a3 a4 S, k a0 a1 a2 a3 a4 S = some res → g [some (.ref a0), some (.int a1), some (.int a2), some (.int a3), some (.int a4), none, none, none] 53 [] S) : g lv 53 st S := by
  unfold D_Census_worstRule_53 at h
  split at h
  · exact Hw _ _ _ _ _ (by simp [zle]) (hk _ _ _ _ _ _  h)
  · cases h
set_option maxRecDepth 100000 in
theorem r_Census_worstRule_53 (n : Nat) (a0 : Nat) (a1 : Int32) (a2 : Int32) (a3 : Int32) (a4 : Int32) (S : zM) : L_Census_worstRule_53 (n + 1) a0 a1 a2 a3 a4 S = zrt false zP_Census_worstRule (zE_Census_worstRule (Int32 × zM)) zc_Census_worstRule zkI (fun pc lv st S => bif Nat.beq pc 53 then D_Census_worstRule_53 (L_Census_worstRule_53 n) lv st S else none) 1000 53 [some (.ref a0), some (.int a1), some (.int a2), some (.int a3), some (.int a4), none, none, none] [] S := rfl
theorem g_Census_worstRule_53 {g : zV → Nat → List Value → zM → Prop} {res : (Int32 × zM)} (H : zCl false zP_Census_worstRule (zE_Census_worstRule (Int32 × zM)) zkI res g) (Hw : zWk g) (n : Nat) : ∀ (a0 : Nat) (a1 : Int32) (a2 : Int32) (a3 : Int32) (a4 : Int32) (S : zM), L_Census_worstRule_53 n a0 a1 a2 a3 a4 S = some res → g [some (.ref a0), some (.int a1), some (.int a2), some (.int a3), some (.int a4), none, none, none] 53 [] S := by
  induction n with
  | zero => intro a0 a1 a2 a3 a4 S h; cases h
  | succ n ih =>
    intro a0 a1 a2 a3 a4 S h
    refine H zc_Census_worstRule _ 1000 _ _ _ _ ((r_Census_worstRule_53 n a0 a1 a2 a3 a4 S).symm.trans h) (fun pc lv st S hK => ?_)
    rcases zdis hK with ⟨rfl, hK⟩ | hK
    · exact d_Census_worstRule_53 Hw hK ih
    cases hK
set_option maxRecDepth 100000 in
theorem r_Census_worstRule (a0 : Nat) (a1 : Int32) (S : zM) : f_Census_worstRule a0 a1 S = zrt false zP_Census_worstRule (zE_Census_worstRule (Int32 × zM)) zc_Census_worstRule zkI (fun pc lv st S => bif Nat.beq pc 53 then D_Census_worstRule_53 (L_Census_worstRule_53 zF) lv st S else none) 1000 0 [some (.ref a0), some (.int a1), none, none, none, none, none, none] [] S := rfl
theorem G_Census_worstRule {g : zV → Nat → List Value → zM → Prop} {res : (Int32 × zM)} (H : zCl false zP_Census_worstRule (zE_Census_worstRule (Int32 × zM)) zkI res g) (Hw : zWk g) (a0 : Nat) (a1 : Int32) (S : zM) (h : f_Census_worstRule a0 a1 S = some res) : g [some (.ref a0), some (.int a1), none, none, none, none, none, none] 0 [] S := by
  refine H zc_Census_worstRule _ 1000 _ _ _ _ ((r_Census_worstRule a0 a1 S).symm.trans h) (fun pc lv st S hK => ?_)
  rcases zdis hK with ⟨rfl, hK⟩ | hK
  · exact d_Census_worstRule_53 Hw hK (g_Census_worstRule_53 H Hw  zF)
  cases hK
set_option maxRecDepth 100000 in
theorem ok_Census_worstRule : zokT 2 [243, 100, 104, 285, 219, 287] false 6 192 8 false (some .int) cX2_worstRule zP_Census_worstRule = true := by decide +kernel
set_option maxRecDepth 100000 in
theorem s_Census_worstRule {l : Launch} {HB : Heap} {b L : Nat} {xs : Nat → Int32} {aK aV : Nat → Nat} {G : va_G} {tc : Nat → ClassId} (h0 : zSnd l HB b L xs aK aV G tc (zMT.getD 243 zyD) (fun α => zA_vRI_I 2 f_Census_countDoubled)) (h1 : zSnd l HB b L xs aK aV G tc (zMT.getD 100 zyD) (fun α => zA_vRII_N 10 f_Script_ruleAt)) (h2 : zSnd l HB b L xs aK aV G tc (zMT.getD 104 zyD) (fun α => zA_vRII_I 10 f_Script_isAside)) (h3 : zSnd l HB b L xs aK aV G tc (zMT.getD 285 zyD) (fun α => zA_vRII_V 10 f_Script_turnAside)) (h4 : zSnd l HB b L xs aK aV G tc (zMT.getD 219 zyD) (fun α => zA_vRI_I 2 f_Census_count)) (h5 : zSnd l HB b L xs aK aV G tc (zMT.getD 287 zyD) (fun α => zA_vRIII_I 2 f_Census_doubledWithout)) : zSnd l HB b L xs aK aV G tc (zMT.getD 288 zyD) (fun α => zA_vRI_I 2 f_Census_worstRule) := by
  rw [show zMT.getD 288 zyD = (yX2_worstRule, cX2_worstRule, 8, (some .int), 0, 2, 6, 192) from rfl]
  intro α as S k res h
  unfold zA_vRI_I at h
  dsimp only at h
  split at h
  · rename_i a0 a1
    obtain ⟨p, hp, h⟩ := zbind h
    unfold zcl at hp
    split at hp
    · rename_i hkd
      have hm := zmeth (l := l) (HB := HB) (b := b) (L := L) (xs := xs) (aK := aK) (aV := aV) (G := G) (tc := tc) (q := (yX2_worstRule, cX2_worstRule, 8, (some .int), 0, 2, 6, 192)) (o := 2) (cs := [243, 100, 104, 285, 219, 287]) (rz := false) (T := zP_Census_worstRule) (E := zE_Census_worstRule (Int32 × zM)) (kr := zkI) (res := p) (v0 := some (.int p.1)) (S0 := p.2) (as := [.ref a0, .int a1]) (S := S) zMT_fine (by decide +kernel) (fun i as S k' h => by
        unfold zE_Census_worstRule at h
        rcases zdisf h with ⟨rfl, h⟩ | h
        · exact h0 _ _ _ _ _ h
        rcases zdisf h with ⟨rfl, h⟩ | h
        · exact h1 _ _ _ _ _ h
        rcases zdisf h with ⟨rfl, h⟩ | h
        · exact h2 _ _ _ _ _ h
        rcases zdisf h with ⟨rfl, h⟩ | h
        · exact h3 _ _ _ _ _ h
        rcases zdisf h with ⟨rfl, h⟩ | h
        · exact h4 _ _ _ _ _ h
        rcases zdisf h with ⟨rfl, h⟩ | h
        · exact h5 _ _ _ _ _ h
        cases h) ok_Census_worstRule rfl (fun v S' h => zkI_inv h) (Nat.le_of_ble_eq_true rfl) (fun g H Hw => Hw _ [some (.ref a0), some (.int a1), none, none, none, none, none, none] _ _ _ ⟨rfl, rfl, trivial⟩ (G_Census_worstRule H Hw a0 a1 S hp))
      exact ⟨_, _, h, hm.1, rfl, fun _ => ⟨_, _, rfl⟩, (fun _ U H hK hH a r e => by cases e; exact zrecv (ci := 2) (by omega) hkd rfl U H hK hH), hm.2⟩
    · cases hp
  · cases h
def zP_Cl_worst : List (List (Nat × zE)) := [[(0, e1 (.aload_n 0) 1 0), (1, e1 (.iload_n 1) 2 1), (2, ei (.iconst 1) 3 0 (1)), (3, e3 (.invokevirtual 258) 6 0 3 0), (6, e1 (.istore_n 2) 7 2), (7, e1 (.iload_n 2) 8 2), (8, e1 (.ifCond .eq 11) 11 19), (11, e1 (.aload_n 0) 12 0), (12, e1 (.iload_n 2) 13 2), (13, e3 (.invokevirtual 79) 16 1 2 0)],
  [(16, e1 (.goto 16) 19 32), (19, e1 (.aload_n 0) 20 0), (20, e1 (.aload_n 0) 21 0), (21, e1 (.iload_n 1) 22 1), (22, e3 (.invokevirtual 265) 25 2 2 0), (25, e1 (.iload_n 1) 26 1), (26, e3 (.invokevirtual 323) 29 3 2 0), (29, e3 (.invokevirtual 109) 32 4 2 0)],
  [(32, e0 (.ireturn) 33)]]
noncomputable def zE_Cl_worst (α : Type) : Nat → zX α := fun i => bif Nat.beq i 0 then zA_vRII_I 11 f_Cl_troubleUpTo else bif Nat.beq i 1 then zA_vRI_I 11 f_Cl_refuse else bif Nat.beq i 2 then zA_vRI_R 11 f_Cl_censusUpTo else bif Nat.beq i 3 then zA_vRI_I 2 f_Census_worstRule else bif Nat.beq i 4 then zA_vRI_I 11 f_Cl_answer else fun _ _ _ => none
def zc_Cl_worst : Nat → Bool := fun pc => false
set_option maxRecDepth 100000 in
theorem r_Cl_worst (a0 : Nat) (a1 : Int32) (S : zM) : f_Cl_worst a0 a1 S = zrt false zP_Cl_worst (zE_Cl_worst (Int32 × zM)) zc_Cl_worst zkI (fun pc lv st S => none) 1000 0 [some (.ref a0), some (.int a1), none] [] S := rfl
theorem G_Cl_worst {g : zV → Nat → List Value → zM → Prop} {res : (Int32 × zM)} (H : zCl false zP_Cl_worst (zE_Cl_worst (Int32 × zM)) zkI res g) (Hw : zWk g) (a0 : Nat) (a1 : Int32) (S : zM) (h : f_Cl_worst a0 a1 S = some res) : g [some (.ref a0), some (.int a1), none] 0 [] S := by
  refine H zc_Cl_worst _ 1000 _ _ _ _ ((r_Cl_worst a0 a1 S).symm.trans h) (fun pc lv st S hK => ?_)
  cases hK
set_option maxRecDepth 100000 in
theorem ok_Cl_worst : zokT 11 [210, 16, 227, 288, 59] false 7 219 3 false (some .int) cX11_worst zP_Cl_worst = true := by decide +kernel
set_option maxRecDepth 100000 in
theorem s_Cl_worst {l : Launch} {HB : Heap} {b L : Nat} {xs : Nat → Int32} {aK aV : Nat → Nat} {G : va_G} {tc : Nat → ClassId} (h0 : zSnd l HB b L xs aK aV G tc (zMT.getD 210 zyD) (fun α => zA_vRII_I 11 f_Cl_troubleUpTo)) (h1 : zSnd l HB b L xs aK aV G tc (zMT.getD 16 zyD) (fun α => zA_vRI_I 11 f_Cl_refuse)) (h2 : zSnd l HB b L xs aK aV G tc (zMT.getD 227 zyD) (fun α => zA_vRI_R 11 f_Cl_censusUpTo)) (h3 : zSnd l HB b L xs aK aV G tc (zMT.getD 288 zyD) (fun α => zA_vRI_I 2 f_Census_worstRule)) (h4 : zSnd l HB b L xs aK aV G tc (zMT.getD 59 zyD) (fun α => zA_vRI_I 11 f_Cl_answer)) : zSnd l HB b L xs aK aV G tc (zMT.getD 289 zyD) (fun α => zA_vRI_I 11 f_Cl_worst) := by
  rw [show zMT.getD 289 zyD = (yX11_worst, cX11_worst, 3, (some .int), 0, 2, 7, 219) from rfl]
  intro α as S k res h
  unfold zA_vRI_I at h
  dsimp only at h
  split at h
  · rename_i a0 a1
    obtain ⟨p, hp, h⟩ := zbind h
    unfold zcl at hp
    split at hp
    · rename_i hkd
      have hm := zmeth (l := l) (HB := HB) (b := b) (L := L) (xs := xs) (aK := aK) (aV := aV) (G := G) (tc := tc) (q := (yX11_worst, cX11_worst, 3, (some .int), 0, 2, 7, 219)) (o := 11) (cs := [210, 16, 227, 288, 59]) (rz := false) (T := zP_Cl_worst) (E := zE_Cl_worst (Int32 × zM)) (kr := zkI) (res := p) (v0 := some (.int p.1)) (S0 := p.2) (as := [.ref a0, .int a1]) (S := S) zMT_fine (by decide +kernel) (fun i as S k' h => by
        unfold zE_Cl_worst at h
        rcases zdisf h with ⟨rfl, h⟩ | h
        · exact h0 _ _ _ _ _ h
        rcases zdisf h with ⟨rfl, h⟩ | h
        · exact h1 _ _ _ _ _ h
        rcases zdisf h with ⟨rfl, h⟩ | h
        · exact h2 _ _ _ _ _ h
        rcases zdisf h with ⟨rfl, h⟩ | h
        · exact h3 _ _ _ _ _ h
        rcases zdisf h with ⟨rfl, h⟩ | h
        · exact h4 _ _ _ _ _ h
        cases h) ok_Cl_worst rfl (fun v S' h => zkI_inv h) (Nat.le_of_ble_eq_true rfl) (fun g H Hw => Hw _ [some (.ref a0), some (.int a1), none] _ _ _ ⟨rfl, rfl, trivial⟩ (G_Cl_worst H Hw a0 a1 S hp))
      exact ⟨_, _, h, hm.1, rfl, fun _ => ⟨_, _, rfl⟩, (fun _ U H hK hH a r e => by cases e; exact zrecv (ci := 11) (by omega) hkd rfl U H hK hH), hm.2⟩
    · cases hp
  · cases h
def zP_Mo_worst : List (List (Nat × zE)) := [[(0, e1 (.aload_n 0) 1 0), (1, e1 (.aload_n 0) 2 0), (2, ei (.iconst 1) 3 0 (1)), (3, e1 (.iload_n 1) 4 1), (4, e3 (.invokevirtual 454) 7 0 3 0), (7, e3 (.invokevirtual 458) 10 1 2 0), (10, e1 (.ifCond .eq 5) 13 15), (13, ei (.iconst (-1)) 14 0 (-1)), (14, e0 (.ireturn) 15), (15, e1 (.aload_n 0) 16 0)],
  [(16, e1 (.iload_n 1) 17 1), (17, e3 (.invokevirtual 461) 20 2 2 0), (20, e1 (.istore_n 2) 21 2), (21, ei (.bipush (-2)) 23 0 (-2)), (23, e1 (.istore_n 3) 24 3), (24, ei (.iconst 0) 25 0 (0)), (25, e1 (.istore 4) 27 4), (27, e1 (.iload 4) 29 4), (29, e1 (.aload_n 0) 30 0), (30, e3 (.getfield 290) 33 12 8 0)],
  [(33, e1 (.if_icmp .ge 102) 36 135), (36, ei (.iconst 0) 37 0 (0)), (37, e1 (.istore 5) 39 5), (39, e1 (.iload 5) 41 5), (41, e1 (.aload_n 0) 42 0), (42, e3 (.getfield 20) 45 12 11 2), (45, e1 (.iload 4) 47 4), (47, e0 (.iaload) 48)],
  [(48, e1 (.if_icmp .ge 81) 51 129), (51, e1 (.aload_n 0) 52 0), (52, e3 (.getfield 67) 55 12 39 2), (55, ei (.bipush 8) 57 0 (8)), (57, e1 (.iload 4) 59 4), (59, e0 (.imul) 60), (60, e1 (.iload 5) 62 5), (62, e0 (.iadd) 63), (63, e0 (.baload) 64)],
  [(64, e1 (.ifCond .eq 6) 67 70), (67, e1 (.goto 56) 70 123), (70, e1 (.aload_n 0) 71 0), (71, e3 (.getfield 67) 74 12 39 2), (74, ei (.bipush 8) 76 0 (8)), (76, e1 (.iload 4) 78 4), (78, e0 (.imul) 79), (79, e1 (.iload 5) 81 5)],
  [(81, e0 (.iadd) 82), (82, ei (.iconst 1) 83 0 (1)), (83, e0 (.bastore) 84), (84, e1 (.aload_n 0) 85 0), (85, e1 (.iload_n 1) 86 1), (86, e3 (.invokevirtual 461) 89 2 2 0), (89, e1 (.istore 6) 91 6), (91, e1 (.aload_n 0) 92 0), (92, e3 (.getfield 67) 95 12 39 2), (95, ei (.bipush 8) 97 0 (8))],
  [(97, e1 (.iload 4) 99 4), (99, e0 (.imul) 100), (100, e1 (.iload 5) 102 5), (102, e0 (.iadd) 103), (103, ei (.iconst 0) 104 0 (0)), (104, e0 (.bastore) 105), (105, e1 (.iload 6) 107 6), (107, e1 (.iload_n 2) 108 2), (108, e1 (.if_icmp .ge 15) 111 123), (111, e1 (.iload 6) 113 6)],
  [(113, e1 (.istore_n 2) 114 2), (114, ei (.bipush 10) 116 0 (10)), (116, e1 (.iload 4) 118 4), (118, e0 (.imul) 119), (119, e1 (.iload 5) 121 5), (121, e0 (.iadd) 122), (122, e1 (.istore_n 3) 123 3), (123, ei (.iinc 5 1) 126 5 (1)), (126, e1 (.goto (-87)) 129 39)],
  [(129, ei (.iinc 4 1) 132 4 (1)), (132, e1 (.goto (-105)) 135 27), (135, e1 (.iload_n 3) 136 3), (136, e0 (.ireturn) 137)]]
noncomputable def zE_Mo_worst (α : Type) : Nat → zX α := fun i => bif Nat.beq i 0 then zA_vRII_I 12 f_Mo_wordsWhy else bif Nat.beq i 1 then zA_vRI_I 12 f_Mo_isRefused else bif Nat.beq i 2 then zA_vRI_I 12 f_Mo_doubledMany else fun _ _ _ => none
def zc_Mo_worst : Nat → Bool := fun pc => Nat.beq pc 27 || Nat.beq pc 39 || Nat.beq pc 129
def D_Mo_worst_27 (k : Nat → Int32 → Int32 → Int32 → Int32 → zM → Option (Int32 × zM)) (lv : zV) (st : List Value) (S : zM) : Option (Int32 × zM) := match lv, st with
  | [some (.ref a0), some (.int a1), some (.int a2), some (.int a3), some (.int a4), _, _], [] => k a0 a1 a2 a3 a4 S
  | _, _ => none
theorem d_Mo_worst_27 {g : zV → Nat → List Value → zM → Prop} (Hw : zWk g) {k : Nat → Int32 → Int32 → Int32 → Int32 → zM → Option (Int32 × zM)} {res : (Int32 × zM)} {lv : zV} {st : List Value} {S : zM} (h : D_Mo_worst_27 k lv st S = some res) (hk : ∀ a0 a1 a2 a3 a4 S, k a0 a1 a2 a3 a4 S = some res → g [some (.ref a0), some (.int a1), some (.int a2), some (.int a3), some (.int a4), none, none] 27 [] S) : g lv 27 st S := by
  unfold D_Mo_worst_27 at h
  split at h
  · exact Hw _ _ _ _ _ (by simp [zle]) (hk _ _ _ _ _ _  h)
  · cases h
def D_Mo_worst_39 (k : Nat → Int32 → Int32 → Int32 → Int32 → Int32 → zM → Option (Int32 × zM)) (lv : zV) (st : List Value) (S : zM) : Option (Int32 × zM) := match lv, st with
  | [some (.ref a0), some (.int a1), some (.int a2), some (.int a3), some (.int a4), some (.int a5), _], [] => k a0 a1 a2 a3 a4 a5 S
  | _, _ => none
theorem d_Mo_worst_39 {g : zV → Nat → List Value → zM → Prop} (Hw : zWk g) {k : Nat → Int32 → Int32 → Int32 → Int32 → Int32 → zM → Option (Int32 × zM)} {res : (Int32 × zM)} {lv : zV} {st : List Value} {S : zM} (h : D_Mo_worst_39 k lv st S = some res) (hk : ∀ a0 a1 a2 a3 a4 a5 S, k a0 a1 a2 a3 a4 a5 S = some res → g [some (.ref a0), some (.int a1), some (.int a2), some (.int a3), some (.int a4), some (.int a5), none] 39 [] S) : g lv 39 st S := by
  unfold D_Mo_worst_39 at h
  split at h
  · exact Hw _ _ _ _ _ (by simp [zle]) (hk _ _ _ _ _ _ _  h)
  · cases h
def D_Mo_worst_129 (k : Nat → Int32 → Int32 → Int32 → Int32 → zM → Option (Int32 × zM)) (lv : zV) (st : List Value) (S : zM) : Option (Int32 × zM) := match lv, st with
  | [some (.ref a0), some (.int a1), some (.int a2), some (.int a3), some (.int a4), _, _], [] => k a0 a1 a2 a3 a4 S
  | _, _ => none
theorem d_Mo_worst_129 {g : zV → Nat → List Value → zM → Prop} (Hw : zWk g) {k : Nat → Int32 → Int32 → Int32 → Int32 → zM → Option (Int32 × zM)} {res : (Int32 × zM)} {lv : zV} {st : List Value} {S : zM} (h : D_Mo_worst_129 k lv st S = some res) (hk : ∀ a0 a1 a2 a3 a4 S, k a0 a1 a2 a3 a4 S = some res → g [some (.ref a0), some (.int a1), some (.int a2), some (.int a3), some (.int a4), none, none] 129 [] S) : g lv 129 st S := by
  unfold D_Mo_worst_129 at h
  split at h
  · exact Hw _ _ _ _ _ (by simp [zle]) (hk _ _ _ _ _ _  h)
  · cases h
set_option maxRecDepth 100000 in
theorem r_Mo_worst_129 (k27 : Nat → Int32 → Int32 → Int32 → Int32 → zM → Option (Int32 × zM)) (a0 : Nat) (a1 : Int32) (a2 : Int32) (a3 : Int32) (a4 : Int32) (S : zM) : F_Mo_worst_129 k27 a0 a1 a2 a3 a4 S = zrt false zP_Mo_worst (zE_Mo_worst (Int32 × zM)) zc_Mo_worst zkI (fun pc lv st S => bif Nat.beq pc 27 then D_Mo_worst_27 k27 lv st S else none) 1000 129 [some (.ref a0), some (.int a1), some (.int a2), some (.int a3), some (.int a4), none, none] [] S := rfl
theorem g_Mo_worst_129 {g : zV → Nat → List Value → zM → Prop} {res : (Int32 × zM)} (H : zCl false zP_Mo_worst (zE_Mo_worst (Int32 × zM)) zkI res g) (Hw : zWk g) {k27 : Nat → Int32 → Int32 → Int32 → Int32 → zM → Option (Int32 × zM)} (hk27 : ∀ a0 a1 a2 a3 a4 S, k27 a0 a1 a2 a3 a4 S = some res → g [some (.ref a0), some (.int a1), some (.int a2), some (.int a3), some (.int a4), none, none] 27 [] S) (a0 : Nat) (a1 : Int32) (a2 : Int32) (a3 : Int32) (a4 : Int32) (S : zM) (h : F_Mo_worst_129 k27 a0 a1 a2 a3 a4 S = some res) : g [some (.ref a0), some (.int a1), some (.int a2), some (.int a3), some (.int a4), none, none] 129 [] S := by
  refine H zc_Mo_worst _ 1000 _ _ _ _ ((r_Mo_worst_129 k27 a0 a1 a2 a3 a4 S).symm.trans h) (fun pc lv st S hK => ?_)
  rcases zdis hK with ⟨rfl, hK⟩ | hK
  · exact d_Mo_worst_27 Hw hK hk27
  cases hK
set_option maxRecDepth 100000 in
theorem r_Mo_worst_39 (k129 : Nat → Int32 → Int32 → Int32 → Int32 → zM → Option (Int32 × zM)) (n : Nat) (a0 : Nat) (a1 : Int32) (a2 : Int32) (a3 : Int32) (a4 : Int32) (a5 : Int32) (S : zM) : L_Mo_worst_39 k129 (n + 1) a0 a1 a2 a3 a4 a5 S = zrt false zP_Mo_worst (zE_Mo_worst (Int32 × zM)) zc_Mo_worst zkI (fun pc lv st S => bif Nat.beq pc 39 then D_Mo_worst_39 (L_Mo_worst_39 k129 n) lv st S else bif Nat.beq pc 129 then D_Mo_worst_129 k129 lv st S else none) 1000 39 [some (.ref a0), some (.int a1), some (.int a2), some (.int a3), some (.int a4), some (.int a5), none] [] S := rfl
theorem g_Mo_worst_39 {g : zV → Nat → List Value → zM → Prop} {res : (Int32 × zM)} (H : zCl false zP_Mo_worst (zE_Mo_worst (Int32 × zM)) zkI res g) (Hw : zWk g) {k129 : Nat → Int32 → Int32 → Int32 → Int32 → zM → Option (Int32 × zM)} (hk129 : ∀ a0 a1 a2 a3 a4 S, k129 a0 a1 a2 a3 a4 S = some res → g [some (.ref a0), some (.int a1), some (.int a2), some (.int a3), some (.int a4), none, none] 129 [] S) (n : Nat) : ∀ (a0 : Nat) (a1 : Int32) (a2 : Int32) (a3 : Int32) (a4 : Int32) (a5 : Int32) (S : zM), L_Mo_worst_39 k129 n a0 a1 a2 a3 a4 a5 S = some res → g [some (.ref a0), some (.int a1), some (.int a2), some (.int a3), some (.int a4), some (.int a5), none] 39 [] S := by
  induction n with
  | zero => intro a0 a1 a2 a3 a4 a5 S h; cases h
  | succ n ih =>
    intro a0 a1 a2 a3 a4 a5 S h
    refine H zc_Mo_worst _ 1000 _ _ _ _ ((r_Mo_worst_39 k129 n a0 a1 a2 a3 a4 a5 S).symm.trans h) (fun pc lv st S hK => ?_)
    rcases zdis hK with ⟨rfl, hK⟩ | hK
    · exact d_Mo_worst_39 Hw hK ih
    rcases zdis hK with ⟨rfl, hK⟩ | hK
    · exact d_Mo_worst_129 Hw hK hk129
    cases hK
set_option maxRecDepth 100000 in
theorem r_Mo_worst_27 (n : Nat) (a0 : Nat) (a1 : Int32) (a2 : Int32) (a3 : Int32) (a4 : Int32) (S : zM) : L_Mo_worst_27 (n + 1) a0 a1 a2 a3 a4 S = zrt false zP_Mo_worst (zE_Mo_worst (Int32 × zM)) zc_Mo_worst zkI (fun pc lv st S => bif Nat.beq pc 39 then D_Mo_worst_39 (L_Mo_worst_39 (F_Mo_worst_129 (L_Mo_worst_27 n)) zF) lv st S else none) 1000 27 [some (.ref a0), some (.int a1), some (.int a2), some (.int a3), some (.int a4), none, none] [] S := rfl
theorem g_Mo_worst_27 {g : zV → Nat → List Value → zM → Prop} {res : (Int32 × zM)} (H : zCl false zP_Mo_worst (zE_Mo_worst (Int32 × zM)) zkI res g) (Hw : zWk g) (n : Nat) : ∀ (a0 : Nat) (a1 : Int32) (a2 : Int32) (a3 : Int32) (a4 : Int32) (S : zM), L_Mo_worst_27 n a0 a1 a2 a3 a4 S = some res → g [some (.ref a0), some (.int a1), some (.int a2), some (.int a3), some (.int a4), none, none] 27 [] S := by
  induction n with
  | zero => intro a0 a1 a2 a3 a4 S h; cases h
  | succ n ih =>
    intro a0 a1 a2 a3 a4 S h
    refine H zc_Mo_worst _ 1000 _ _ _ _ ((r_Mo_worst_27 n a0 a1 a2 a3 a4 S).symm.trans h) (fun pc lv st S hK => ?_)
    rcases zdis hK with ⟨rfl, hK⟩ | hK
    · exact d_Mo_worst_39 Hw hK (g_Mo_worst_39 H Hw (g_Mo_worst_129 H Hw ih) zF)
    cases hK
set_option maxRecDepth 100000 in
theorem r_Mo_worst (a0 : Nat) (a1 : Int32) (S : zM) : f_Mo_worst a0 a1 S = zrt false zP_Mo_worst (zE_Mo_worst (Int32 × zM)) zc_Mo_worst zkI (fun pc lv st S => bif Nat.beq pc 27 then D_Mo_worst_27 (L_Mo_worst_27 zF) lv st S else none) 1000 0 [some (.ref a0), some (.int a1), none, none, none, none, none] [] S := rfl
theorem G_Mo_worst {g : zV → Nat → List Value → zM → Prop} {res : (Int32 × zM)} (H : zCl false zP_Mo_worst (zE_Mo_worst (Int32 × zM)) zkI res g) (Hw : zWk g) (a0 : Nat) (a1 : Int32) (S : zM) (h : f_Mo_worst a0 a1 S = some res) : g [some (.ref a0), some (.int a1), none, none, none, none, none] 0 [] S := by
  refine H zc_Mo_worst _ 1000 _ _ _ _ ((r_Mo_worst a0 a1 S).symm.trans h) (fun pc lv st S hK => ?_)
  rcases zdis hK with ⟨rfl, hK⟩ | hK
  · exact d_Mo_worst_27 Hw hK (g_Mo_worst_27 H Hw  zF)
  cases hK
set_option maxRecDepth 100000 in
theorem ok_Mo_worst : zokT 12 [213, 214, 236] false 9 219 7 false (some .int) cX12_worst zP_Mo_worst = true := by decide +kernel
set_option maxRecDepth 100000 in
theorem s_Mo_worst {l : Launch} {HB : Heap} {b L : Nat} {xs : Nat → Int32} {aK aV : Nat → Nat} {G : va_G} {tc : Nat → ClassId} (h0 : zSnd l HB b L xs aK aV G tc (zMT.getD 213 zyD) (fun α => zA_vRII_I 12 f_Mo_wordsWhy)) (h1 : zSnd l HB b L xs aK aV G tc (zMT.getD 214 zyD) (fun α => zA_vRI_I 12 f_Mo_isRefused)) (h2 : zSnd l HB b L xs aK aV G tc (zMT.getD 236 zyD) (fun α => zA_vRI_I 12 f_Mo_doubledMany)) : zSnd l HB b L xs aK aV G tc (zMT.getD 290 zyD) (fun α => zA_vRI_I 12 f_Mo_worst) := by
  rw [show zMT.getD 290 zyD = (yX12_worst, cX12_worst, 7, (some .int), 0, 2, 9, 219) from rfl]
  intro α as S k res h
  unfold zA_vRI_I at h
  dsimp only at h
  split at h
  · rename_i a0 a1
    obtain ⟨p, hp, h⟩ := zbind h
    unfold zcl at hp
    split at hp
    · rename_i hkd
      have hm := zmeth (l := l) (HB := HB) (b := b) (L := L) (xs := xs) (aK := aK) (aV := aV) (G := G) (tc := tc) (q := (yX12_worst, cX12_worst, 7, (some .int), 0, 2, 9, 219)) (o := 12) (cs := [213, 214, 236]) (rz := false) (T := zP_Mo_worst) (E := zE_Mo_worst (Int32 × zM)) (kr := zkI) (res := p) (v0 := some (.int p.1)) (S0 := p.2) (as := [.ref a0, .int a1]) (S := S) zMT_fine (by decide +kernel) (fun i as S k' h => by
        unfold zE_Mo_worst at h
        rcases zdisf h with ⟨rfl, h⟩ | h
        · exact h0 _ _ _ _ _ h
        rcases zdisf h with ⟨rfl, h⟩ | h
        · exact h1 _ _ _ _ _ h
        rcases zdisf h with ⟨rfl, h⟩ | h
        · exact h2 _ _ _ _ _ h
        cases h) ok_Mo_worst rfl (fun v S' h => zkI_inv h) (Nat.le_of_ble_eq_true rfl) (fun g H Hw => Hw _ [some (.ref a0), some (.int a1), none, none, none, none, none] _ _ _ ⟨rfl, rfl, trivial⟩ (G_Mo_worst H Hw a0 a1 S hp))
      exact ⟨_, _, h, hm.1, rfl, fun _ => ⟨_, _, rfl⟩, (fun _ U H hK hH a r e => by cases e; exact zrecv (ci := 12) (by omega) hkd rfl U H hK hH), hm.2⟩
    · cases hp
  · cases h
def zP_Acts_keep : List (List (Nat × zE)) := [[(0, e1 (.aload_n 0) 1 0), (1, e3 (.getfield 15) 4 0 1 0), (4, ei (.bipush 12) 6 0 (12)), (6, e1 (.if_icmp .lt 24) 9 30), (9, e1 (.aload_n 0) 10 0), (10, e3 (.getfield 9) 13 0 0 2), (13, ei (.iconst 1) 14 0 (1)), (14, e1 (.aload_n 0) 15 0), (15, e3 (.getfield 9) 18 0 0 2)],
  [(18, ei (.iconst 0) 19 0 (0)), (19, ei (.bipush 11) 21 0 (11)), (21, e3 (.invokestatic 19) 24 998 5 0), (24, e1 (.aload_n 0) 25 0), (25, ei (.bipush 11) 27 0 (11)), (27, e3 (.putfield 15) 30 0 1 0), (30, e1 (.aload_n 0) 31 0), (31, e3 (.getfield 9) 34 0 0 2)],
  [(34, e1 (.aload_n 0) 35 0), (35, e3 (.getfield 15) 38 0 1 0), (38, e1 (.iload_n 1) 39 1), (39, ei (.bipush 8) 41 0 (8)), (41, e0 (.imul) 42), (42, e1 (.iload_n 2) 43 2), (43, e0 (.iadd) 44), (44, e0 (.iastore) 45), (45, e1 (.aload_n 0) 46 0), (46, e0 (.dup) 47), (47, e3 (.getfield 15) 50 0 1 0)],
  [(50, ei (.iconst 1) 51 0 (1)), (51, e0 (.iadd) 52), (52, e3 (.putfield 15) 55 0 1 0), (55, e0 (.return_) 56)]]
noncomputable def zE_Acts_keep (α : Type) : Nat → zX α := fun _ => fun _ _ _ => none
def zc_Acts_keep : Nat → Bool := fun pc => false
set_option maxRecDepth 100000 in
theorem r_Acts_keep (a0 : Nat) (a1 : Int32) (a2 : Int32) (S : zM) : f_Acts_keep a0 a1 a2 S = zrt false zP_Acts_keep (zE_Acts_keep zM) zc_Acts_keep zkV (fun pc lv st S => none) 1000 0 [some (.ref a0), some (.int a1), some (.int a2)] [] S := rfl
theorem G_Acts_keep {g : zV → Nat → List Value → zM → Prop} {res : zM} (H : zCl false zP_Acts_keep (zE_Acts_keep zM) zkV res g) (Hw : zWk g) (a0 : Nat) (a1 : Int32) (a2 : Int32) (S : zM) (h : f_Acts_keep a0 a1 a2 S = some res) : g [some (.ref a0), some (.int a1), some (.int a2)] 0 [] S := by
  refine H zc_Acts_keep _ 1000 _ _ _ _ ((r_Acts_keep a0 a1 a2 S).symm.trans h) (fun pc lv st S hK => ?_)
  cases hK
set_option maxRecDepth 100000 in
theorem ok_Acts_keep : zokT 0 [] false 1 60 3 false none cX0_keep zP_Acts_keep = true := by decide +kernel
set_option maxRecDepth 100000 in
theorem s_Acts_keep {l : Launch} {HB : Heap} {b L : Nat} {xs : Nat → Int32} {aK aV : Nat → Nat} {G : va_G} {tc : Nat → ClassId} : zSnd l HB b L xs aK aV G tc (zMT.getD 291 zyD) (fun α => zA_vRII_V 0 f_Acts_keep) := by
  rw [show zMT.getD 291 zyD = (yX0_keep, cX0_keep, 3, none, 0, 3, 1, 60) from rfl]
  intro α as S k res h
  unfold zA_vRII_V at h
  dsimp only at h
  split at h
  · rename_i a0 a1 a2
    obtain ⟨p, hp, h⟩ := zbind h
    unfold zcl at hp
    split at hp
    · rename_i hkd
      have hm := zmeth (l := l) (HB := HB) (b := b) (L := L) (xs := xs) (aK := aK) (aV := aV) (G := G) (tc := tc) (q := (yX0_keep, cX0_keep, 3, none, 0, 3, 1, 60)) (o := 0) (cs := []) (rz := false) (T := zP_Acts_keep) (E := zE_Acts_keep zM) (kr := zkV) (res := p) (v0 := none) (S0 := p) (as := [.ref a0, .int a1, .int a2]) (S := S) zMT_fine (by decide +kernel) (fun i as S k' h => by
        unfold zE_Acts_keep at h
        cases h) ok_Acts_keep rfl (fun v S' h => zkV_inv h) (Nat.le_of_ble_eq_true rfl) (fun g H Hw => Hw _ [some (.ref a0), some (.int a1), some (.int a2)] _ _ _ ⟨rfl, rfl, rfl, trivial⟩ (G_Acts_keep H Hw a0 a1 a2 S hp))
      exact ⟨_, _, h, hm.1, rfl, fun _ => ⟨_, _, rfl⟩, (fun _ U H hK hH a r e => by cases e; exact zrecv (ci := 0) (by omega) hkd rfl U H hK hH), hm.2⟩
    · cases hp
  · cases h
def zP_Script_asideCount : List (List (Nat × zE)) := [[(0, ei (.iconst 0) 1 0 (0)), (1, e1 (.istore_n 1) 2 1), (2, ei (.iconst 0) 3 0 (0)), (3, e1 (.istore_n 2) 4 2), (4, e1 (.iload_n 2) 5 2), (5, e1 (.aload_n 0) 6 0), (6, e3 (.getfield 33) 9 10 5 0), (9, e1 (.if_icmp .ge 33) 12 42), (12, e1 (.aload_n 0) 13 0), (13, e1 (.iload_n 2) 14 2), (14, e3 (.invokevirtual 39) 17 0 2 0)],
  [(17, e1 (.astore_n 3) 18 3), (18, e1 (.iload_n 1) 19 1), (19, e1 (.aload_n 3) 20 3), (20, e1 (.ifnonnull 7) 23 27), (23, ei (.iconst 0) 24 0 (0)), (24, e1 (.goto 10) 27 34), (27, e1 (.aload_n 3) 28 3), (28, e3 (.getfield 50) 31 5 5 0), (31, e3 (.invokestatic 53) 34 1 1 0)],
  [(34, e0 (.iadd) 35), (35, e1 (.istore_n 1) 36 1), (36, ei (.iinc 2 1) 39 2 (1)), (39, e1 (.goto (-35)) 42 4), (42, e1 (.iload_n 1) 43 1), (43, e0 (.ireturn) 44)]]
noncomputable def zE_Script_asideCount (α : Type) : Nat → zX α := fun i => bif Nat.beq i 0 then zA_vRI_N 10 f_Script_passAt else bif Nat.beq i 1 then zA_I_I f_J_bitCount else fun _ _ _ => none
def zc_Script_asideCount : Nat → Bool := fun pc => Nat.beq pc 4
def D_Script_asideCount_4 (k : Nat → Int32 → Int32 → zM → Option (Int32 × zM)) (lv : zV) (st : List Value) (S : zM) : Option (Int32 × zM) := match lv, st with
  | [some (.ref a0), some (.int a1), some (.int a2), _], [] => k a0 a1 a2 S
  | _, _ => none
theorem d_Script_asideCount_4 {g : zV → Nat → List Value → zM → Prop} (Hw : zWk g) {k : Nat → Int32 → Int32 → zM → Option (Int32 × zM)} {res : (Int32 × zM)} {lv : zV} {st : List Value} {S : zM} (h : D_Script_asideCount_4 k lv st S = some res) (hk : ∀ a0 a1 a2 S, k a0 a1 a2 S = some res → g [some (.ref a0), some (.int a1), some (.int a2), none] 4 [] S) : g lv 4 st S := by
  unfold D_Script_asideCount_4 at h
  split at h
  · exact Hw _ _ _ _ _ (by simp [zle]) (hk _ _ _ _  h)
  · cases h
set_option maxRecDepth 100000 in
theorem r_Script_asideCount_4 (n : Nat) (a0 : Nat) (a1 : Int32) (a2 : Int32) (S : zM) : L_Script_asideCount_4 (n + 1) a0 a1 a2 S = zrt false zP_Script_asideCount (zE_Script_asideCount (Int32 × zM)) zc_Script_asideCount zkI (fun pc lv st S => bif Nat.beq pc 4 then D_Script_asideCount_4 (L_Script_asideCount_4 n) lv st S else none) 1000 4 [some (.ref a0), some (.int a1), some (.int a2), none] [] S := rfl
theorem g_Script_asideCount_4 {g : zV → Nat → List Value → zM → Prop} {res : (Int32 × zM)} (H : zCl false zP_Script_asideCount (zE_Script_asideCount (Int32 × zM)) zkI res g) (Hw : zWk g) (n : Nat) : ∀ (a0 : Nat) (a1 : Int32) (a2 : Int32) (S : zM), L_Script_asideCount_4 n a0 a1 a2 S = some res → g [some (.ref a0), some (.int a1), some (.int a2), none] 4 [] S := by
  induction n with
  | zero => intro a0 a1 a2 S h; cases h
  | succ n ih =>
    intro a0 a1 a2 S h
    refine H zc_Script_asideCount _ 1000 _ _ _ _ ((r_Script_asideCount_4 n a0 a1 a2 S).symm.trans h) (fun pc lv st S hK => ?_)
    rcases zdis hK with ⟨rfl, hK⟩ | hK
    · exact d_Script_asideCount_4 Hw hK ih
    cases hK
set_option maxRecDepth 100000 in
theorem r_Script_asideCount (a0 : Nat) (S : zM) : f_Script_asideCount a0 S = zrt false zP_Script_asideCount (zE_Script_asideCount (Int32 × zM)) zc_Script_asideCount zkI (fun pc lv st S => bif Nat.beq pc 4 then D_Script_asideCount_4 (L_Script_asideCount_4 zF) lv st S else none) 1000 0 [some (.ref a0), none, none, none] [] S := rfl
theorem G_Script_asideCount {g : zV → Nat → List Value → zM → Prop} {res : (Int32 × zM)} (H : zCl false zP_Script_asideCount (zE_Script_asideCount (Int32 × zM)) zkI res g) (Hw : zWk g) (a0 : Nat) (S : zM) (h : f_Script_asideCount a0 S = some res) : g [some (.ref a0), none, none, none] 0 [] S := by
  refine H zc_Script_asideCount _ 1000 _ _ _ _ ((r_Script_asideCount a0 S).symm.trans h) (fun pc lv st S hK => ?_)
  rcases zdis hK with ⟨rfl, hK⟩ | hK
  · exact d_Script_asideCount_4 Hw hK (g_Script_asideCount_4 H Hw  zF)
  cases hK
set_option maxRecDepth 100000 in
theorem ok_Script_asideCount : zokT 10 [44, 30] false 1 21 4 false (some .int) cX10_asideCount zP_Script_asideCount = true := by decide +kernel
set_option maxRecDepth 100000 in
theorem s_Script_asideCount {l : Launch} {HB : Heap} {b L : Nat} {xs : Nat → Int32} {aK aV : Nat → Nat} {G : va_G} {tc : Nat → ClassId} (h0 : zSnd l HB b L xs aK aV G tc (zMT.getD 44 zyD) (fun α => zA_vRI_N 10 f_Script_passAt)) (h1 : zSnd l HB b L xs aK aV G tc (zMT.getD 30 zyD) (fun α => zA_I_I f_J_bitCount)) : zSnd l HB b L xs aK aV G tc (zMT.getD 292 zyD) (fun α => zA_vR_I 10 f_Script_asideCount) := by
  rw [show zMT.getD 292 zyD = (yX10_asideCount, cX10_asideCount, 4, (some .int), 0, 1, 1, 21) from rfl]
  intro α as S k res h
  unfold zA_vR_I at h
  dsimp only at h
  split at h
  · rename_i a0
    obtain ⟨p, hp, h⟩ := zbind h
    unfold zcl at hp
    split at hp
    · rename_i hkd
      have hm := zmeth (l := l) (HB := HB) (b := b) (L := L) (xs := xs) (aK := aK) (aV := aV) (G := G) (tc := tc) (q := (yX10_asideCount, cX10_asideCount, 4, (some .int), 0, 1, 1, 21)) (o := 10) (cs := [44, 30]) (rz := false) (T := zP_Script_asideCount) (E := zE_Script_asideCount (Int32 × zM)) (kr := zkI) (res := p) (v0 := some (.int p.1)) (S0 := p.2) (as := [.ref a0]) (S := S) zMT_fine (by decide +kernel) (fun i as S k' h => by
        unfold zE_Script_asideCount at h
        rcases zdisf h with ⟨rfl, h⟩ | h
        · exact h0 _ _ _ _ _ h
        rcases zdisf h with ⟨rfl, h⟩ | h
        · exact h1 _ _ _ _ _ h
        cases h) ok_Script_asideCount rfl (fun v S' h => zkI_inv h) (Nat.le_of_ble_eq_true rfl) (fun g H Hw => Hw _ [some (.ref a0), none, none, none] _ _ _ ⟨rfl, trivial⟩ (G_Script_asideCount H Hw a0 S hp))
      exact ⟨_, _, h, hm.1, rfl, fun _ => ⟨_, _, rfl⟩, (fun _ U H hK hH a r e => by cases e; exact zrecv (ci := 10) (by omega) hkd rfl U H hK hH), hm.2⟩
    · cases hp
  · cases h
def zP_Cl_aside : List (List (Nat × zE)) := [[(0, e1 (.aload_n 0) 1 0), (1, e3 (.getfield 65) 4 11 10 2), (4, e1 (.iload_n 1) 5 1), (5, e1 (.iload_n 2) 6 2), (6, e3 (.invokevirtual 152) 9 0 3 0), (9, e1 (.ifnonnull 9) 12 18), (12, e1 (.aload_n 0) 13 0), (13, ei (.iconst 1) 14 0 (1)), (14, e3 (.invokevirtual 79) 17 1 2 0)],
  [(17, e0 (.ireturn) 18), (18, e1 (.iload_n 3) 19 3), (19, e1 (.ifCond .eq 14) 22 33), (22, e1 (.iload_n 3) 23 3), (23, ei (.iconst 1) 24 0 (1)), (24, e1 (.if_icmp .eq 9) 27 33), (27, e1 (.aload_n 0) 28 0), (28, ei (.iconst 2) 29 0 (2)), (29, e3 (.invokevirtual 79) 32 1 2 0)],
  [(32, e0 (.ireturn) 33), (33, e1 (.aload_n 0) 34 0), (34, e3 (.getfield 65) 37 11 10 2), (37, e1 (.iload_n 1) 38 1), (38, e1 (.iload_n 2) 39 2), (39, e3 (.invokevirtual 173) 42 2 3 0), (42, e1 (.iload_n 3) 43 3), (43, ei (.iconst 1) 44 0 (1)), (44, e1 (.if_icmp .ne 7) 47 51), (47, ei (.iconst 1) 48 0 (1))],
  [(48, e1 (.goto 4) 51 52), (51, ei (.iconst 0) 52 0 (0)), (52, e1 (.if_icmp .ne 9) 55 61), (55, e1 (.aload_n 0) 56 0), (56, ei (.iconst 5) 57 0 (5)), (57, e3 (.invokevirtual 79) 60 1 2 0), (60, e0 (.ireturn) 61), (61, e1 (.aload_n 0) 62 0), (62, e3 (.getfield 65) 65 11 10 2)],
  [(65, e1 (.iload_n 1) 66 1), (66, e1 (.iload_n 2) 67 2), (67, e3 (.invokevirtual 338) 70 3 3 0), (70, e1 (.aload_n 0) 71 0), (71, e3 (.getfield 58) 74 11 9 2), (74, e1 (.iload_n 1) 75 1), (75, e1 (.iload_n 2) 76 2), (76, e3 (.invokevirtual 342) 79 4 3 0), (79, e1 (.aload_n 0) 80 0)],
  [(80, e3 (.invokevirtual 103) 83 5 1 0), (83, e1 (.aload_n 0) 84 0), (84, e1 (.aload_n 0) 85 0), (85, e3 (.getfield 65) 88 11 10 2), (88, e3 (.invokevirtual 345) 91 6 1 0), (91, e3 (.invokevirtual 109) 94 7 2 0), (94, e0 (.ireturn) 95)]]
noncomputable def zE_Cl_aside (α : Type) : Nat → zX α := fun i => bif Nat.beq i 0 then zA_vRII_N 10 f_Script_ruleAt else bif Nat.beq i 1 then zA_vRI_I 11 f_Cl_refuse else bif Nat.beq i 2 then zA_vRII_I 10 f_Script_isAside else bif Nat.beq i 3 then zA_vRII_V 10 f_Script_turnAside else bif Nat.beq i 4 then zA_vRII_V 0 f_Acts_keep else bif Nat.beq i 5 then zA_vR_V 11 f_Cl_forgetWords else bif Nat.beq i 6 then zA_vR_I 10 f_Script_asideCount else bif Nat.beq i 7 then zA_vRI_I 11 f_Cl_answer else fun _ _ _ => none
def zc_Cl_aside : Nat → Bool := fun pc => false
set_option maxRecDepth 100000 in
theorem r_Cl_aside (a0 : Nat) (a1 : Int32) (a2 : Int32) (a3 : Int32) (S : zM) : f_Cl_aside a0 a1 a2 a3 S = zrt false zP_Cl_aside (zE_Cl_aside (Int32 × zM)) zc_Cl_aside zkI (fun pc lv st S => none) 1000 0 [some (.ref a0), some (.int a1), some (.int a2), some (.int a3)] [] S := rfl
theorem G_Cl_aside {g : zV → Nat → List Value → zM → Prop} {res : (Int32 × zM)} (H : zCl false zP_Cl_aside (zE_Cl_aside (Int32 × zM)) zkI res g) (Hw : zWk g) (a0 : Nat) (a1 : Int32) (a2 : Int32) (a3 : Int32) (S : zM) (h : f_Cl_aside a0 a1 a2 a3 S = some res) : g [some (.ref a0), some (.int a1), some (.int a2), some (.int a3)] 0 [] S := by
  refine H zc_Cl_aside _ 1000 _ _ _ _ ((r_Cl_aside a0 a1 a2 a3 S).symm.trans h) (fun pc lv st S hK => ?_)
  cases hK
set_option maxRecDepth 100000 in
theorem ok_Cl_aside : zokT 11 [100, 16, 104, 285, 291, 58, 292, 59] false 4 84 4 false (some .int) cX11_aside zP_Cl_aside = true := by decide +kernel
set_option maxRecDepth 100000 in
theorem s_Cl_aside {l : Launch} {HB : Heap} {b L : Nat} {xs : Nat → Int32} {aK aV : Nat → Nat} {G : va_G} {tc : Nat → ClassId} (h0 : zSnd l HB b L xs aK aV G tc (zMT.getD 100 zyD) (fun α => zA_vRII_N 10 f_Script_ruleAt)) (h1 : zSnd l HB b L xs aK aV G tc (zMT.getD 16 zyD) (fun α => zA_vRI_I 11 f_Cl_refuse)) (h2 : zSnd l HB b L xs aK aV G tc (zMT.getD 104 zyD) (fun α => zA_vRII_I 10 f_Script_isAside)) (h3 : zSnd l HB b L xs aK aV G tc (zMT.getD 285 zyD) (fun α => zA_vRII_V 10 f_Script_turnAside)) (h4 : zSnd l HB b L xs aK aV G tc (zMT.getD 291 zyD) (fun α => zA_vRII_V 0 f_Acts_keep)) (h5 : zSnd l HB b L xs aK aV G tc (zMT.getD 58 zyD) (fun α => zA_vR_V 11 f_Cl_forgetWords)) (h6 : zSnd l HB b L xs aK aV G tc (zMT.getD 292 zyD) (fun α => zA_vR_I 10 f_Script_asideCount)) (h7 : zSnd l HB b L xs aK aV G tc (zMT.getD 59 zyD) (fun α => zA_vRI_I 11 f_Cl_answer)) : zSnd l HB b L xs aK aV G tc (zMT.getD 293 zyD) (fun α => zA_vRIII_I 11 f_Cl_aside) := by
  rw [show zMT.getD 293 zyD = (yX11_aside, cX11_aside, 4, (some .int), 0, 4, 4, 84) from rfl]
  intro α as S k res h
  unfold zA_vRIII_I at h
  dsimp only at h
  split at h
  · rename_i a0 a1 a2 a3
    obtain ⟨p, hp, h⟩ := zbind h
    unfold zcl at hp
    split at hp
    · rename_i hkd
      have hm := zmeth (l := l) (HB := HB) (b := b) (L := L) (xs := xs) (aK := aK) (aV := aV) (G := G) (tc := tc) (q := (yX11_aside, cX11_aside, 4, (some .int), 0, 4, 4, 84)) (o := 11) (cs := [100, 16, 104, 285, 291, 58, 292, 59]) (rz := false) (T := zP_Cl_aside) (E := zE_Cl_aside (Int32 × zM)) (kr := zkI) (res := p) (v0 := some (.int p.1)) (S0 := p.2) (as := [.ref a0, .int a1, .int a2, .int a3]) (S := S) zMT_fine (by decide +kernel) (fun i as S k' h => by
        unfold zE_Cl_aside at h
        rcases zdisf h with ⟨rfl, h⟩ | h
        · exact h0 _ _ _ _ _ h
        rcases zdisf h with ⟨rfl, h⟩ | h
        · exact h1 _ _ _ _ _ h
        rcases zdisf h with ⟨rfl, h⟩ | h
        · exact h2 _ _ _ _ _ h
        rcases zdisf h with ⟨rfl, h⟩ | h
        · exact h3 _ _ _ _ _ h
        rcases zdisf h with ⟨rfl, h⟩ | h
        · exact h4 _ _ _ _ _ h
        rcases zdisf h with ⟨rfl, h⟩ | h
        · exact h5 _ _ _ _ _ h
        rcases zdisf h with ⟨rfl, h⟩ | h
        · exact h6 _ _ _ _ _ h
        rcases zdisf h with ⟨rfl, h⟩ | h
        · exact h7 _ _ _ _ _ h
        cases h) ok_Cl_aside rfl (fun v S' h => zkI_inv h) (Nat.le_of_ble_eq_true rfl) (fun g H Hw => Hw _ [some (.ref a0), some (.int a1), some (.int a2), some (.int a3)] _ _ _ ⟨rfl, rfl, rfl, rfl, trivial⟩ (G_Cl_aside H Hw a0 a1 a2 a3 S hp))
      exact ⟨_, _, h, hm.1, rfl, fun _ => ⟨_, _, rfl⟩, (fun _ U H hK hH a r e => by cases e; exact zrecv (ci := 11) (by omega) hkd rfl U H hK hH), hm.2⟩
    · cases hp
  · cases h
def zP_Mo_asideMany : List (List (Nat × zE)) := [[(0, ei (.iconst 0) 1 0 (0)), (1, e1 (.istore_n 1) 2 1), (2, ei (.iconst 0) 3 0 (0)), (3, e1 (.istore_n 2) 4 2), (4, e1 (.iload_n 2) 5 2), (5, e1 (.aload_n 0) 6 0), (6, e3 (.getfield 290) 9 12 8 0), (9, e1 (.if_icmp .ge 49) 12 58), (12, ei (.iconst 0) 13 0 (0)), (13, e1 (.istore_n 3) 14 3), (14, e1 (.iload_n 3) 15 3), (15, e1 (.aload_n 0) 16 0)],
  [(16, e3 (.getfield 20) 19 12 11 2), (19, e1 (.iload_n 2) 20 2), (20, e0 (.iaload) 21), (21, e1 (.if_icmp .ge 31) 24 52), (24, e1 (.iload_n 1) 25 1), (25, e1 (.aload_n 0) 26 0), (26, e3 (.getfield 67) 29 12 39 2), (29, ei (.bipush 8) 31 0 (8)), (31, e1 (.iload_n 2) 32 2)],
  [(32, e0 (.imul) 33), (33, e1 (.iload_n 3) 34 3), (34, e0 (.iadd) 35), (35, e0 (.baload) 36), (36, e1 (.ifCond .eq 7) 39 43), (39, ei (.iconst 1) 40 0 (1)), (40, e1 (.goto 4) 43 44), (43, ei (.iconst 0) 44 0 (0)), (44, e0 (.iadd) 45), (45, e1 (.istore_n 1) 46 1), (46, ei (.iinc 3 1) 49 3 (1))],
  [(49, e1 (.goto (-35)) 52 14), (52, ei (.iinc 2 1) 55 2 (1)), (55, e1 (.goto (-51)) 58 4), (58, e1 (.iload_n 1) 59 1), (59, e0 (.ireturn) 60)]]
noncomputable def zE_Mo_asideMany (α : Type) : Nat → zX α := fun _ => fun _ _ _ => none
def zc_Mo_asideMany : Nat → Bool := fun pc => Nat.beq pc 4 || Nat.beq pc 14 || Nat.beq pc 52
def D_Mo_asideMany_4 (k : Nat → Int32 → Int32 → zM → Option (Int32 × zM)) (lv : zV) (st : List Value) (S : zM) : Option (Int32 × zM) := match lv, st with
  | [some (.ref a0), some (.int a1), some (.int a2), _], [] => k a0 a1 a2 S
  | _, _ => none
theorem d_Mo_asideMany_4 {g : zV → Nat → List Value → zM → Prop} (Hw : zWk g) {k : Nat → Int32 → Int32 → zM → Option (Int32 × zM)} {res : (Int32 × zM)} {lv : zV} {st : List Value} {S : zM} (h : D_Mo_asideMany_4 k lv st S = some res) (hk : ∀ a0 a1 a2 S, k a0 a1 a2 S = some res → g [some (.ref a0), some (.int a1), some (.int a2), none] 4 [] S) : g lv 4 st S := by
  unfold D_Mo_asideMany_4 at h
  split at h
  · exact Hw _ _ _ _ _ (by simp [zle]) (hk _ _ _ _  h)
  · cases h
def D_Mo_asideMany_14 (k : Nat → Int32 → Int32 → Int32 → zM → Option (Int32 × zM)) (lv : zV) (st : List Value) (S : zM) : Option (Int32 × zM) := match lv, st with
  | [some (.ref a0), some (.int a1), some (.int a2), some (.int a3)], [] => k a0 a1 a2 a3 S
  | _, _ => none
theorem d_Mo_asideMany_14 {g : zV → Nat → List Value → zM → Prop} (Hw : zWk g) {k : Nat → Int32 → Int32 → Int32 → zM → Option (Int32 × zM)} {res : (Int32 × zM)} {lv : zV} {st : List Value} {S : zM} (h : D_Mo_asideMany_14 k lv st S = some res) (hk : ∀ a0 a1 a2 a3 S, k a0 a1 a2 a3 S = some res → g [some (.ref a0), some (.int a1), some (.int a2), some (.int a3)] 14 [] S) : g lv 14 st S := by
  unfold D_Mo_asideMany_14 at h
  split at h
  · exact Hw _ _ _ _ _ (by simp [zle]) (hk _ _ _ _ _  h)
  · cases h
def D_Mo_asideMany_52 (k : Nat → Int32 → Int32 → zM → Option (Int32 × zM)) (lv : zV) (st : List Value) (S : zM) : Option (Int32 × zM) := match lv, st with
  | [some (.ref a0), some (.int a1), some (.int a2), _], [] => k a0 a1 a2 S
  | _, _ => none
theorem d_Mo_asideMany_52 {g : zV → Nat → List Value → zM → Prop} (Hw : zWk g) {k : Nat → Int32 → Int32 → zM → Option (Int32 × zM)} {res : (Int32 × zM)} {lv : zV} {st : List Value} {S : zM} (h : D_Mo_asideMany_52 k lv st S = some res) (hk : ∀ a0 a1 a2 S, k a0 a1 a2 S = some res → g [some (.ref a0), some (.int a1), some (.int a2), none] 52 [] S) : g lv 52 st S := by
  unfold D_Mo_asideMany_52 at h
  split at h
  · exact Hw _ _ _ _ _ (by simp [zle]) (hk _ _ _ _  h)
  · cases h
set_option maxRecDepth 100000 in
theorem r_Mo_asideMany_52 (k4 : Nat → Int32 → Int32 → zM → Option (Int32 × zM)) (a0 : Nat) (a1 : Int32) (a2 : Int32) (S : zM) : F_Mo_asideMany_52 k4 a0 a1 a2 S = zrt false zP_Mo_asideMany (zE_Mo_asideMany (Int32 × zM)) zc_Mo_asideMany zkI (fun pc lv st S => bif Nat.beq pc 4 then D_Mo_asideMany_4 k4 lv st S else none) 1000 52 [some (.ref a0), some (.int a1), some (.int a2), none] [] S := rfl
theorem g_Mo_asideMany_52 {g : zV → Nat → List Value → zM → Prop} {res : (Int32 × zM)} (H : zCl false zP_Mo_asideMany (zE_Mo_asideMany (Int32 × zM)) zkI res g) (Hw : zWk g) {k4 : Nat → Int32 → Int32 → zM → Option (Int32 × zM)} (hk4 : ∀ a0 a1 a2 S, k4 a0 a1 a2 S = some res → g [some (.ref a0), some (.int a1), some (.int a2), none] 4 [] S) (a0 : Nat) (a1 : Int32) (a2 : Int32) (S : zM) (h : F_Mo_asideMany_52 k4 a0 a1 a2 S = some res) : g [some (.ref a0), some (.int a1), some (.int a2), none] 52 [] S := by
  refine H zc_Mo_asideMany _ 1000 _ _ _ _ ((r_Mo_asideMany_52 k4 a0 a1 a2 S).symm.trans h) (fun pc lv st S hK => ?_)
  rcases zdis hK with ⟨rfl, hK⟩ | hK
  · exact d_Mo_asideMany_4 Hw hK hk4
  cases hK
set_option maxRecDepth 100000 in
theorem r_Mo_asideMany_14 (k52 : Nat → Int32 → Int32 → zM → Option (Int32 × zM)) (n : Nat) (a0 : Nat) (a1 : Int32) (a2 : Int32) (a3 : Int32) (S : zM) : L_Mo_asideMany_14 k52 (n + 1) a0 a1 a2 a3 S = zrt false zP_Mo_asideMany (zE_Mo_asideMany (Int32 × zM)) zc_Mo_asideMany zkI (fun pc lv st S => bif Nat.beq pc 14 then D_Mo_asideMany_14 (L_Mo_asideMany_14 k52 n) lv st S else bif Nat.beq pc 52 then D_Mo_asideMany_52 k52 lv st S else none) 1000 14 [some (.ref a0), some (.int a1), some (.int a2), some (.int a3)] [] S := rfl
theorem g_Mo_asideMany_14 {g : zV → Nat → List Value → zM → Prop} {res : (Int32 × zM)} (H : zCl false zP_Mo_asideMany (zE_Mo_asideMany (Int32 × zM)) zkI res g) (Hw : zWk g) {k52 : Nat → Int32 → Int32 → zM → Option (Int32 × zM)} (hk52 : ∀ a0 a1 a2 S, k52 a0 a1 a2 S = some res → g [some (.ref a0), some (.int a1), some (.int a2), none] 52 [] S) (n : Nat) : ∀ (a0 : Nat) (a1 : Int32) (a2 : Int32) (a3 : Int32) (S : zM), L_Mo_asideMany_14 k52 n a0 a1 a2 a3 S = some res → g [some (.ref a0), some (.int a1), some (.int a2), some (.int a3)] 14 [] S := by
  induction n with
  | zero => intro a0 a1 a2 a3 S h; cases h
  | succ n ih =>
    intro a0 a1 a2 a3 S h
    refine H zc_Mo_asideMany _ 1000 _ _ _ _ ((r_Mo_asideMany_14 k52 n a0 a1 a2 a3 S).symm.trans h) (fun pc lv st S hK => ?_)
    rcases zdis hK with ⟨rfl, hK⟩ | hK
    · exact d_Mo_asideMany_14 Hw hK ih
    rcases zdis hK with ⟨rfl, hK⟩ | hK
    · exact d_Mo_asideMany_52 Hw hK hk52
    cases hK
set_option maxRecDepth 100000 in
theorem r_Mo_asideMany_4 (n : Nat) (a0 : Nat) (a1 : Int32) (a2 : Int32) (S : zM) : L_Mo_asideMany_4 (n + 1) a0 a1 a2 S = zrt false zP_Mo_asideMany (zE_Mo_asideMany (Int32 × zM)) zc_Mo_asideMany zkI (fun pc lv st S => bif Nat.beq pc 14 then D_Mo_asideMany_14 (L_Mo_asideMany_14 (F_Mo_asideMany_52 (L_Mo_asideMany_4 n)) zF) lv st S else none) 1000 4 [some (.ref a0), some (.int a1), some (.int a2), none] [] S := rfl
theorem g_Mo_asideMany_4 {g : zV → Nat → List Value → zM → Prop} {res : (Int32 × zM)} (H : zCl false zP_Mo_asideMany (zE_Mo_asideMany (Int32 × zM)) zkI res g) (Hw : zWk g) (n : Nat) : ∀ (a0 : Nat) (a1 : Int32) (a2 : Int32) (S : zM), L_Mo_asideMany_4 n a0 a1 a2 S = some res → g [some (.ref a0), some (.int a1), some (.int a2), none] 4 [] S := by
  induction n with
  | zero => intro a0 a1 a2 S h; cases h
  | succ n ih =>
    intro a0 a1 a2 S h
    refine H zc_Mo_asideMany _ 1000 _ _ _ _ ((r_Mo_asideMany_4 n a0 a1 a2 S).symm.trans h) (fun pc lv st S hK => ?_)
    rcases zdis hK with ⟨rfl, hK⟩ | hK
    · exact d_Mo_asideMany_14 Hw hK (g_Mo_asideMany_14 H Hw (g_Mo_asideMany_52 H Hw ih) zF)
    cases hK
set_option maxRecDepth 100000 in
theorem r_Mo_asideMany (a0 : Nat) (S : zM) : f_Mo_asideMany a0 S = zrt false zP_Mo_asideMany (zE_Mo_asideMany (Int32 × zM)) zc_Mo_asideMany zkI (fun pc lv st S => bif Nat.beq pc 4 then D_Mo_asideMany_4 (L_Mo_asideMany_4 zF) lv st S else none) 1000 0 [some (.ref a0), none, none, none] [] S := rfl
theorem G_Mo_asideMany {g : zV → Nat → List Value → zM → Prop} {res : (Int32 × zM)} (H : zCl false zP_Mo_asideMany (zE_Mo_asideMany (Int32 × zM)) zkI res g) (Hw : zWk g) (a0 : Nat) (S : zM) (h : f_Mo_asideMany a0 S = some res) : g [some (.ref a0), none, none, none] 0 [] S := by
  refine H zc_Mo_asideMany _ 1000 _ _ _ _ ((r_Mo_asideMany a0 S).symm.trans h) (fun pc lv st S hK => ?_)
  rcases zdis hK with ⟨rfl, hK⟩ | hK
  · exact d_Mo_asideMany_4 Hw hK (g_Mo_asideMany_4 H Hw  zF)
  cases hK
set_option maxRecDepth 100000 in
theorem ok_Mo_asideMany : zokT 12 [] false 0 0 4 false (some .int) cX12_asideMany zP_Mo_asideMany = true := by decide +kernel
set_option maxRecDepth 100000 in
theorem s_Mo_asideMany {l : Launch} {HB : Heap} {b L : Nat} {xs : Nat → Int32} {aK aV : Nat → Nat} {G : va_G} {tc : Nat → ClassId} : zSnd l HB b L xs aK aV G tc (zMT.getD 294 zyD) (fun α => zA_vR_I 12 f_Mo_asideMany) := by
  rw [show zMT.getD 294 zyD = (yX12_asideMany, cX12_asideMany, 4, (some .int), 0, 1, 0, 0) from rfl]
  intro α as S k res h
  unfold zA_vR_I at h
  dsimp only at h
  split at h
  · rename_i a0
    obtain ⟨p, hp, h⟩ := zbind h
    unfold zcl at hp
    split at hp
    · rename_i hkd
      have hm := zmeth (l := l) (HB := HB) (b := b) (L := L) (xs := xs) (aK := aK) (aV := aV) (G := G) (tc := tc) (q := (yX12_asideMany, cX12_asideMany, 4, (some .int), 0, 1, 0, 0)) (o := 12) (cs := []) (rz := false) (T := zP_Mo_asideMany) (E := zE_Mo_asideMany (Int32 × zM)) (kr := zkI) (res := p) (v0 := some (.int p.1)) (S0 := p.2) (as := [.ref a0]) (S := S) zMT_fine (by decide +kernel) (fun i as S k' h => by
        unfold zE_Mo_asideMany at h
        cases h) ok_Mo_asideMany rfl (fun v S' h => zkI_inv h) (Nat.le_of_ble_eq_true rfl) (fun g H Hw => Hw _ [some (.ref a0), none, none, none] _ _ _ ⟨rfl, trivial⟩ (G_Mo_asideMany H Hw a0 S hp))
      exact ⟨_, _, h, hm.1, rfl, fun _ => ⟨_, _, rfl⟩, (fun _ U H hK hH a r e => by cases e; exact zrecv (ci := 12) (by omega) hkd rfl U H hK hH), hm.2⟩
    · cases hp
  · cases h
def zP_Mo_aside : List (List (Nat × zE)) := [[(0, e1 (.aload_n 0) 1 0), (1, e3 (.invokevirtual 272) 4 0 1 0), (4, e1 (.aload_n 0) 5 0), (5, e1 (.iload_n 1) 6 1), (6, e1 (.iload_n 2) 7 2), (7, e3 (.invokevirtual 315) 10 1 3 0), (10, e1 (.ifCond .ne 9) 13 19), (13, e1 (.aload_n 0) 14 0), (14, ei (.iconst 1) 15 0 (1)), (15, e3 (.invokevirtual 275) 18 2 2 0)],
  [(18, e0 (.ireturn) 19), (19, e1 (.iload_n 3) 20 3), (20, ei (.iconst 0) 21 0 (0)), (21, ei (.iconst 1) 22 0 (1)), (22, e3 (.invokestatic 156) 25 3 3 0), (25, e1 (.ifCond .ne 9) 28 34), (28, e1 (.aload_n 0) 29 0), (29, ei (.iconst 2) 30 0 (2)), (30, e3 (.invokevirtual 275) 33 2 2 0)],
  [(33, e0 (.ireturn) 34), (34, ei (.bipush 8) 36 0 (8)), (36, e1 (.iload_n 1) 37 1), (37, e0 (.imul) 38), (38, e1 (.iload_n 2) 39 2), (39, e0 (.iadd) 40), (40, e1 (.istore 4) 42 4), (42, e1 (.aload_n 0) 43 0), (43, e3 (.getfield 67) 46 12 39 2), (46, e1 (.iload 4) 48 4)],
  [(48, e0 (.baload) 49), (49, e1 (.iload_n 3) 50 3), (50, ei (.iconst 1) 51 0 (1)), (51, e1 (.if_icmp .ne 7) 54 58), (54, ei (.iconst 1) 55 0 (1)), (55, e1 (.goto 4) 58 59), (58, ei (.iconst 0) 59 0 (0)), (59, e1 (.if_icmp .ne 9) 62 68), (62, e1 (.aload_n 0) 63 0), (63, ei (.iconst 5) 64 0 (5))],
  [(64, e3 (.invokevirtual 275) 67 2 2 0), (67, e0 (.ireturn) 68), (68, e1 (.aload_n 0) 69 0), (69, e3 (.getfield 300) 72 12 66 0), (72, ei (.bipush 12) 74 0 (12)), (74, e1 (.if_icmp .ne 45) 77 119), (77, ei (.iconst 1) 78 0 (1)), (78, e1 (.istore 5) 80 5)],
  [(80, e1 (.iload 5) 82 5), (82, ei (.bipush 12) 84 0 (12)), (84, e1 (.if_icmp .ge 25) 87 109), (87, e1 (.aload_n 0) 88 0), (88, e3 (.getfield 124) 91 12 65 2), (91, e1 (.iload 5) 93 5), (93, ei (.iconst 1) 94 0 (1)), (94, e0 (.isub) 95), (95, e1 (.aload_n 0) 96 0)],
  [(96, e3 (.getfield 124) 99 12 65 2), (99, e1 (.iload 5) 101 5), (101, e0 (.iaload) 102), (102, e0 (.iastore) 103), (103, ei (.iinc 5 1) 106 5 (1)), (106, e1 (.goto (-26)) 109 80), (109, e1 (.aload_n 0) 110 0), (110, e0 (.dup) 111), (111, e3 (.getfield 300) 114 12 66 0)],
  [(114, ei (.iconst 1) 115 0 (1)), (115, e0 (.isub) 116), (116, e3 (.putfield 300) 119 12 66 0), (119, e1 (.aload_n 0) 120 0), (120, e3 (.getfield 124) 123 12 65 2), (123, e1 (.aload_n 0) 124 0), (124, e3 (.getfield 300) 127 12 66 0), (127, e1 (.iload 4) 129 4)],
  [(129, e0 (.iastore) 130), (130, e1 (.aload_n 0) 131 0), (131, e0 (.dup) 132), (132, e3 (.getfield 300) 135 12 66 0), (135, ei (.iconst 1) 136 0 (1)), (136, e0 (.iadd) 137), (137, e3 (.putfield 300) 140 12 66 0), (140, e1 (.aload_n 0) 141 0), (141, e3 (.getfield 67) 144 12 39 2)],
  [(144, e1 (.iload 4) 146 4), (146, e1 (.iload_n 3) 147 3), (147, ei (.iconst 1) 148 0 (1)), (148, e1 (.if_icmp .ne 7) 151 155), (151, ei (.iconst 1) 152 0 (1)), (152, e1 (.goto 4) 155 156), (155, ei (.iconst 0) 156 0 (0)), (156, e0 (.bastore) 157), (157, e1 (.aload_n 0) 158 0), (158, e3 (.invokevirtual 485) 161 4 1 0)],
  [(161, e0 (.ireturn) 162)]]
noncomputable def zE_Mo_aside (α : Type) : Nat → zX α := fun i => bif Nat.beq i 0 then zA_vR_V 12 f_Mo_fresh else bif Nat.beq i 1 then zA_vRII_I 12 f_Mo_isRule else bif Nat.beq i 2 then zA_vRI_I 12 f_Mo_no else bif Nat.beq i 3 then zA_III_I f_Mo_in else bif Nat.beq i 4 then zA_vR_I 12 f_Mo_asideMany else fun _ _ _ => none
def zc_Mo_aside : Nat → Bool := fun pc => Nat.beq pc 80 || Nat.beq pc 109
def D_Mo_aside_80 (k : Nat → Int32 → Int32 → Int32 → zM → Option (Int32 × zM)) (lv : zV) (st : List Value) (S : zM) : Option (Int32 × zM) := match lv, st with
  | [some (.ref a0), _, _, some (.int a3), some (.int a4), some (.int a5)], [] => k a0 a3 a4 a5 S
  | _, _ => none
theorem d_Mo_aside_80 {g : zV → Nat → List Value → zM → Prop} (Hw : zWk g) {k : Nat → Int32 → Int32 → Int32 → zM → Option (Int32 × zM)} {res : (Int32 × zM)} {lv : zV} {st : List Value} {S : zM} (h : D_Mo_aside_80 k lv st S = some res) (hk : ∀ a0 a3 a4 a5 S, k a0 a3 a4 a5 S = some res → g [some (.ref a0), none, none, some (.int a3), some (.int a4), some (.int a5)] 80 [] S) : g lv 80 st S := by
  unfold D_Mo_aside_80 at h
  split at h
  · exact Hw _ _ _ _ _ (by simp [zle]) (hk _ _ _ _ _  h)
  · cases h
def D_Mo_aside_109 (k : Nat → Int32 → Int32 → zM → Option (Int32 × zM)) (lv : zV) (st : List Value) (S : zM) : Option (Int32 × zM) := match lv, st with
  | [some (.ref a0), _, _, some (.int a3), some (.int a4), _], [] => k a0 a3 a4 S
  | _, _ => none
theorem d_Mo_aside_109 {g : zV → Nat → List Value → zM → Prop} (Hw : zWk g) {k : Nat → Int32 → Int32 → zM → Option (Int32 × zM)} {res : (Int32 × zM)} {lv : zV} {st : List Value} {S : zM} (h : D_Mo_aside_109 k lv st S = some res) (hk : ∀ a0 a3 a4 S, k a0 a3 a4 S = some res → g [some (.ref a0), none, none, some (.int a3), some (.int a4), none] 109 [] S) : g lv 109 st S := by
  unfold D_Mo_aside_109 at h
  split at h
  · exact Hw _ _ _ _ _ (by simp [zle]) (hk _ _ _ _  h)
  · cases h
set_option maxRecDepth 100000 in
theorem r_Mo_aside_109 (a0 : Nat) (a3 : Int32) (a4 : Int32) (S : zM) : F_Mo_aside_109 a0 a3 a4 S = zrt false zP_Mo_aside (zE_Mo_aside (Int32 × zM)) zc_Mo_aside zkI (fun pc lv st S => none) 1000 109 [some (.ref a0), none, none, some (.int a3), some (.int a4), none] [] S := rfl
theorem g_Mo_aside_109 {g : zV → Nat → List Value → zM → Prop} {res : (Int32 × zM)} (H : zCl false zP_Mo_aside (zE_Mo_aside (Int32 × zM)) zkI res g) (Hw : zWk g) (a0 : Nat) (a3 : Int32) (a4 : Int32) (S : zM) (h : F_Mo_aside_109 a0 a3 a4 S = some res) : g [some (.ref a0), none, none, some (.int a3), some (.int a4), none] 109 [] S := by
  refine H zc_Mo_aside _ 1000 _ _ _ _ ((r_Mo_aside_109 a0 a3 a4 S).symm.trans h) (fun pc lv st S hK => ?_)
  cases hK
set_option maxRecDepth 100000 in
theorem r_Mo_aside_80 (k109 : Nat → Int32 → Int32 → zM → Option (Int32 × zM)) (n : Nat) (a0 : Nat) (a3 : Int32) (a4 : Int32) (a5 : Int32) (S : zM) : L_Mo_aside_80 k109 (n + 1) a0 a3 a4 a5 S = zrt false zP_Mo_aside (zE_Mo_aside (Int32 × zM)) zc_Mo_aside zkI (fun pc lv st S => bif Nat.beq pc 80 then D_Mo_aside_80 (L_Mo_aside_80 k109 n) lv st S else bif Nat.beq pc 109 then D_Mo_aside_109 k109 lv st S else none) 1000 80 [some (.ref a0), none, none, some (.int a3), some (.int a4), some (.int a5)] [] S := rfl
theorem g_Mo_aside_80 {g : zV → Nat → List Value → zM → Prop} {res : (Int32 × zM)} (H : zCl false zP_Mo_aside (zE_Mo_aside (Int32 × zM)) zkI res g) (Hw : zWk g) {k109 : Nat → Int32 → Int32 → zM → Option (Int32 × zM)} (hk109 : ∀ a0 a3 a4 S, k109 a0 a3 a4 S = some res → g [some (.ref a0), none, none, some (.int a3), some (.int a4), none] 109 [] S) (n : Nat) : ∀ (a0 : Nat) (a3 : Int32) (a4 : Int32) (a5 : Int32) (S : zM), L_Mo_aside_80 k109 n a0 a3 a4 a5 S = some res → g [some (.ref a0), none, none, some (.int a3), some (.int a4), some (.int a5)] 80 [] S := by
  induction n with
  | zero => intro a0 a3 a4 a5 S h; cases h
  | succ n ih =>
    intro a0 a3 a4 a5 S h
    refine H zc_Mo_aside _ 1000 _ _ _ _ ((r_Mo_aside_80 k109 n a0 a3 a4 a5 S).symm.trans h) (fun pc lv st S hK => ?_)
    rcases zdis hK with ⟨rfl, hK⟩ | hK
    · exact d_Mo_aside_80 Hw hK ih
    rcases zdis hK with ⟨rfl, hK⟩ | hK
    · exact d_Mo_aside_109 Hw hK hk109
    cases hK
set_option maxRecDepth 100000 in
theorem r_Mo_aside (a0 : Nat) (a1 : Int32) (a2 : Int32) (a3 : Int32) (S : zM) : f_Mo_aside a0 a1 a2 a3 S = zrt false zP_Mo_aside (zE_Mo_aside (Int32 × zM)) zc_Mo_aside zkI (fun pc lv st S => bif Nat.beq pc 80 then D_Mo_aside_80 (L_Mo_aside_80 (F_Mo_aside_109) zF) lv st S else none) 1000 0 [some (.ref a0), some (.int a1), some (.int a2), some (.int a3), none, none] [] S := rfl
theorem G_Mo_aside {g : zV → Nat → List Value → zM → Prop} {res : (Int32 × zM)} (H : zCl false zP_Mo_aside (zE_Mo_aside (Int32 × zM)) zkI res g) (Hw : zWk g) (a0 : Nat) (a1 : Int32) (a2 : Int32) (a3 : Int32) (S : zM) (h : f_Mo_aside a0 a1 a2 a3 S = some res) : g [some (.ref a0), some (.int a1), some (.int a2), some (.int a3), none, none] 0 [] S := by
  refine H zc_Mo_aside _ 1000 _ _ _ _ ((r_Mo_aside a0 a1 a2 a3 S).symm.trans h) (fun pc lv st S hK => ?_)
  rcases zdis hK with ⟨rfl, hK⟩ | hK
  · exact d_Mo_aside_80 Hw hK (g_Mo_aside_80 H Hw (g_Mo_aside_109 H Hw ) zF)
  cases hK
set_option maxRecDepth 100000 in
theorem ok_Mo_aside : zokT 12 [61, 106, 63, 62, 294] false 3 65 6 false (some .int) cX12_aside zP_Mo_aside = true := by decide +kernel
set_option maxRecDepth 100000 in
theorem s_Mo_aside {l : Launch} {HB : Heap} {b L : Nat} {xs : Nat → Int32} {aK aV : Nat → Nat} {G : va_G} {tc : Nat → ClassId} (h0 : zSnd l HB b L xs aK aV G tc (zMT.getD 61 zyD) (fun α => zA_vR_V 12 f_Mo_fresh)) (h1 : zSnd l HB b L xs aK aV G tc (zMT.getD 106 zyD) (fun α => zA_vRII_I 12 f_Mo_isRule)) (h2 : zSnd l HB b L xs aK aV G tc (zMT.getD 63 zyD) (fun α => zA_vRI_I 12 f_Mo_no)) (h3 : zSnd l HB b L xs aK aV G tc (zMT.getD 62 zyD) (fun α => zA_III_I f_Mo_in)) (h4 : zSnd l HB b L xs aK aV G tc (zMT.getD 294 zyD) (fun α => zA_vR_I 12 f_Mo_asideMany)) : zSnd l HB b L xs aK aV G tc (zMT.getD 295 zyD) (fun α => zA_vRIII_I 12 f_Mo_aside) := by
  rw [show zMT.getD 295 zyD = (yX12_aside, cX12_aside, 6, (some .int), 0, 4, 3, 65) from rfl]
  intro α as S k res h
  unfold zA_vRIII_I at h
  dsimp only at h
  split at h
  · rename_i a0 a1 a2 a3
    obtain ⟨p, hp, h⟩ := zbind h
    unfold zcl at hp
    split at hp
    · rename_i hkd
      have hm := zmeth (l := l) (HB := HB) (b := b) (L := L) (xs := xs) (aK := aK) (aV := aV) (G := G) (tc := tc) (q := (yX12_aside, cX12_aside, 6, (some .int), 0, 4, 3, 65)) (o := 12) (cs := [61, 106, 63, 62, 294]) (rz := false) (T := zP_Mo_aside) (E := zE_Mo_aside (Int32 × zM)) (kr := zkI) (res := p) (v0 := some (.int p.1)) (S0 := p.2) (as := [.ref a0, .int a1, .int a2, .int a3]) (S := S) zMT_fine (by decide +kernel) (fun i as S k' h => by
        unfold zE_Mo_aside at h
        rcases zdisf h with ⟨rfl, h⟩ | h
        · exact h0 _ _ _ _ _ h
        rcases zdisf h with ⟨rfl, h⟩ | h
        · exact h1 _ _ _ _ _ h
        rcases zdisf h with ⟨rfl, h⟩ | h
        · exact h2 _ _ _ _ _ h
        rcases zdisf h with ⟨rfl, h⟩ | h
        · exact h3 _ _ _ _ _ h
        rcases zdisf h with ⟨rfl, h⟩ | h
        · exact h4 _ _ _ _ _ h
        cases h) ok_Mo_aside rfl (fun v S' h => zkI_inv h) (Nat.le_of_ble_eq_true rfl) (fun g H Hw => Hw _ [some (.ref a0), some (.int a1), some (.int a2), some (.int a3), none, none] _ _ _ ⟨rfl, rfl, rfl, rfl, trivial⟩ (G_Mo_aside H Hw a0 a1 a2 a3 S hp))
      exact ⟨_, _, h, hm.1, rfl, fun _ => ⟨_, _, rfl⟩, (fun _ U H hK hH a r e => by cases e; exact zrecv (ci := 12) (by omega) hkd rfl U H hK hH), hm.2⟩
    · cases hp
  · cases h
def zP_Acts_takeLatest : List (List (Nat × zE)) := [[(0, e1 (.aload_n 0) 1 0), (1, e3 (.getfield 15) 4 0 1 0), (4, e1 (.ifCond .le 12) 7 16), (7, e1 (.aload_n 0) 8 0), (8, e3 (.getfield 15) 11 0 1 0), (11, ei (.bipush 12) 13 0 (12)), (13, e1 (.if_icmp .le 5) 16 18)],
  [(16, ei (.iconst (-1)) 17 0 (-1)), (17, e0 (.ireturn) 18), (18, e1 (.aload_n 0) 19 0), (19, e0 (.dup) 20), (20, e3 (.getfield 15) 23 0 1 0), (23, ei (.iconst 1) 24 0 (1)), (24, e0 (.isub) 25), (25, e3 (.putfield 15) 28 0 1 0), (28, e1 (.aload_n 0) 29 0), (29, e3 (.getfield 9) 32 0 0 2)],
  [(32, e1 (.aload_n 0) 33 0), (33, e3 (.getfield 15) 36 0 1 0), (36, e0 (.iaload) 37), (37, e0 (.ireturn) 38)]]
noncomputable def zE_Acts_takeLatest (α : Type) : Nat → zX α := fun _ => fun _ _ _ => none
def zc_Acts_takeLatest : Nat → Bool := fun pc => false
set_option maxRecDepth 100000 in
theorem r_Acts_takeLatest (a0 : Nat) (S : zM) : f_Acts_takeLatest a0 S = zrt false zP_Acts_takeLatest (zE_Acts_takeLatest (Int32 × zM)) zc_Acts_takeLatest zkI (fun pc lv st S => none) 1000 0 [some (.ref a0)] [] S := rfl
theorem G_Acts_takeLatest {g : zV → Nat → List Value → zM → Prop} {res : (Int32 × zM)} (H : zCl false zP_Acts_takeLatest (zE_Acts_takeLatest (Int32 × zM)) zkI res g) (Hw : zWk g) (a0 : Nat) (S : zM) (h : f_Acts_takeLatest a0 S = some res) : g [some (.ref a0)] 0 [] S := by
  refine H zc_Acts_takeLatest _ 1000 _ _ _ _ ((r_Acts_takeLatest a0 S).symm.trans h) (fun pc lv st S hK => ?_)
  cases hK
set_option maxRecDepth 100000 in
theorem ok_Acts_takeLatest : zokT 0 [] false 0 0 1 false (some .int) cX0_takeLatest zP_Acts_takeLatest = true := by decide +kernel
set_option maxRecDepth 100000 in
theorem s_Acts_takeLatest {l : Launch} {HB : Heap} {b L : Nat} {xs : Nat → Int32} {aK aV : Nat → Nat} {G : va_G} {tc : Nat → ClassId} : zSnd l HB b L xs aK aV G tc (zMT.getD 296 zyD) (fun α => zA_vR_I 0 f_Acts_takeLatest) := by
  rw [show zMT.getD 296 zyD = (yX0_takeLatest, cX0_takeLatest, 1, (some .int), 0, 1, 0, 0) from rfl]
  intro α as S k res h
  unfold zA_vR_I at h
  dsimp only at h
  split at h
  · rename_i a0
    obtain ⟨p, hp, h⟩ := zbind h
    unfold zcl at hp
    split at hp
    · rename_i hkd
      have hm := zmeth (l := l) (HB := HB) (b := b) (L := L) (xs := xs) (aK := aK) (aV := aV) (G := G) (tc := tc) (q := (yX0_takeLatest, cX0_takeLatest, 1, (some .int), 0, 1, 0, 0)) (o := 0) (cs := []) (rz := false) (T := zP_Acts_takeLatest) (E := zE_Acts_takeLatest (Int32 × zM)) (kr := zkI) (res := p) (v0 := some (.int p.1)) (S0 := p.2) (as := [.ref a0]) (S := S) zMT_fine (by decide +kernel) (fun i as S k' h => by
        unfold zE_Acts_takeLatest at h
        cases h) ok_Acts_takeLatest rfl (fun v S' h => zkI_inv h) (Nat.le_of_ble_eq_true rfl) (fun g H Hw => Hw _ [some (.ref a0)] _ _ _ ⟨rfl, trivial⟩ (G_Acts_takeLatest H Hw a0 S hp))
      exact ⟨_, _, h, hm.1, rfl, fun _ => ⟨_, _, rfl⟩, (fun _ U H hK hH a r e => by cases e; exact zrecv (ci := 0) (by omega) hkd rfl U H hK hH), hm.2⟩
    · cases hp
  · cases h
def zP_Cl_undo : List (List (Nat × zE)) := [[(0, e1 (.aload_n 0) 1 0), (1, e3 (.getfield 58) 4 11 9 2), (4, e3 (.invokevirtual 348) 7 0 1 0), (7, e1 (.istore_n 1) 8 1), (8, e1 (.iload_n 1) 9 1), (9, ei (.iconst (-1)) 10 0 (-1)), (10, e1 (.if_icmp .ne 10) 13 20), (13, e1 (.aload_n 0) 14 0), (14, ei (.iconst 1) 15 0 (1)), (15, e3 (.putfield 112) 18 11 16 0)],
  [(18, ei (.iconst 0) 19 0 (0)), (19, e0 (.ireturn) 20), (20, e1 (.aload_n 0) 21 0), (21, e3 (.getfield 65) 24 11 10 2), (24, e1 (.iload_n 1) 25 1), (25, ei (.bipush 8) 27 0 (8)), (27, e0 (.idiv) 28), (28, e1 (.iload_n 1) 29 1), (29, ei (.bipush 8) 31 0 (8)), (31, e0 (.irem) 32)],
  [(32, e3 (.invokevirtual 338) 35 1 3 0), (35, e1 (.aload_n 0) 36 0), (36, e3 (.invokevirtual 103) 39 2 1 0), (39, e1 (.aload_n 0) 40 0), (40, ei (.iconst 0) 41 0 (0)), (41, e3 (.putfield 112) 44 11 16 0), (44, ei (.iconst 1) 45 0 (1)), (45, e0 (.ireturn) 46)]]
noncomputable def zE_Cl_undo (α : Type) : Nat → zX α := fun i => bif Nat.beq i 0 then zA_vR_I 0 f_Acts_takeLatest else bif Nat.beq i 1 then zA_vRII_V 10 f_Script_turnAside else bif Nat.beq i 2 then zA_vR_V 11 f_Cl_forgetWords else fun _ _ _ => none
def zc_Cl_undo : Nat → Bool := fun pc => false
set_option maxRecDepth 100000 in
theorem r_Cl_undo (a0 : Nat) (S : zM) : f_Cl_undo a0 S = zrt true zP_Cl_undo (zE_Cl_undo (Int32 × zM)) zc_Cl_undo zkI (fun pc lv st S => none) 1000 0 [some (.ref a0), none] [] S := rfl
theorem G_Cl_undo {g : zV → Nat → List Value → zM → Prop} {res : (Int32 × zM)} (H : zCl true zP_Cl_undo (zE_Cl_undo (Int32 × zM)) zkI res g) (Hw : zWk g) (a0 : Nat) (S : zM) (h : f_Cl_undo a0 S = some res) : g [some (.ref a0), none] 0 [] S := by
  refine H zc_Cl_undo _ 1000 _ _ _ _ ((r_Cl_undo a0 S).symm.trans h) (fun pc lv st S hK => ?_)
  cases hK
set_option maxRecDepth 100000 in
theorem ok_Cl_undo : zokT 11 [296, 285, 58] false 4 83 2 true (some .boolean) cX11_undo zP_Cl_undo = true := by decide +kernel
set_option maxRecDepth 100000 in
theorem s_Cl_undo {l : Launch} {HB : Heap} {b L : Nat} {xs : Nat → Int32} {aK aV : Nat → Nat} {G : va_G} {tc : Nat → ClassId} (h0 : zSnd l HB b L xs aK aV G tc (zMT.getD 296 zyD) (fun α => zA_vR_I 0 f_Acts_takeLatest)) (h1 : zSnd l HB b L xs aK aV G tc (zMT.getD 285 zyD) (fun α => zA_vRII_V 10 f_Script_turnAside)) (h2 : zSnd l HB b L xs aK aV G tc (zMT.getD 58 zyD) (fun α => zA_vR_V 11 f_Cl_forgetWords)) : zSnd l HB b L xs aK aV G tc (zMT.getD 297 zyD) (fun α => zA_vR_I 11 f_Cl_undo) := by
  rw [show zMT.getD 297 zyD = (yX11_undo, cX11_undo, 2, (some .boolean), 0, 1, 4, 83) from rfl]
  intro α as S k res h
  unfold zA_vR_I at h
  dsimp only at h
  split at h
  · rename_i a0
    obtain ⟨p, hp, h⟩ := zbind h
    unfold zcl at hp
    split at hp
    · rename_i hkd
      have hm := zmeth (l := l) (HB := HB) (b := b) (L := L) (xs := xs) (aK := aK) (aV := aV) (G := G) (tc := tc) (q := (yX11_undo, cX11_undo, 2, (some .boolean), 0, 1, 4, 83)) (o := 11) (cs := [296, 285, 58]) (rz := true) (T := zP_Cl_undo) (E := zE_Cl_undo (Int32 × zM)) (kr := zkI) (res := p) (v0 := some (.int p.1)) (S0 := p.2) (as := [.ref a0]) (S := S) zMT_fine (by decide +kernel) (fun i as S k' h => by
        unfold zE_Cl_undo at h
        rcases zdisf h with ⟨rfl, h⟩ | h
        · exact h0 _ _ _ _ _ h
        rcases zdisf h with ⟨rfl, h⟩ | h
        · exact h1 _ _ _ _ _ h
        rcases zdisf h with ⟨rfl, h⟩ | h
        · exact h2 _ _ _ _ _ h
        cases h) ok_Cl_undo rfl (fun v S' h => zkI_inv h) (Nat.le_of_ble_eq_true rfl) (fun g H Hw => Hw _ [some (.ref a0), none] _ _ _ ⟨rfl, trivial⟩ (G_Cl_undo H Hw a0 S hp))
      exact ⟨_, _, h, hm.1, rfl, fun _ => ⟨_, _, rfl⟩, (fun _ U H hK hH a r e => by cases e; exact zrecv (ci := 11) (by omega) hkd rfl U H hK hH), hm.2⟩
    · cases hp
  · cases h
def zP_Mo_undo : List (List (Nat × zE)) := [[(0, e1 (.aload_n 0) 1 0), (1, e3 (.invokevirtual 272) 4 0 1 0), (4, e1 (.aload_n 0) 5 0), (5, e3 (.getfield 300) 8 12 66 0), (8, e1 (.ifCond .ne 10) 11 18), (11, e1 (.aload_n 0) 12 0), (12, ei (.iconst 1) 13 0 (1)), (13, e3 (.putfield 130) 16 12 1 0)],
  [(16, ei (.iconst 0) 17 0 (0)), (17, e0 (.ireturn) 18), (18, e1 (.aload_n 0) 19 0), (19, e0 (.dup) 20), (20, e3 (.getfield 300) 23 12 66 0), (23, ei (.iconst 1) 24 0 (1)), (24, e0 (.isub) 25), (25, e3 (.putfield 300) 28 12 66 0), (28, e1 (.aload_n 0) 29 0), (29, e3 (.getfield 67) 32 12 39 2)],
  [(32, e1 (.aload_n 0) 33 0), (33, e3 (.getfield 124) 36 12 65 2), (36, e1 (.aload_n 0) 37 0), (37, e3 (.getfield 300) 40 12 66 0), (40, e0 (.iaload) 41), (41, e1 (.aload_n 0) 42 0), (42, e3 (.getfield 67) 45 12 39 2), (45, e1 (.aload_n 0) 46 0), (46, e3 (.getfield 124) 49 12 65 2)],
  [(49, e1 (.aload_n 0) 50 0), (50, e3 (.getfield 300) 53 12 66 0), (53, e0 (.iaload) 54), (54, e0 (.baload) 55), (55, e1 (.ifCond .ne 7) 58 62), (58, ei (.iconst 1) 59 0 (1)), (59, e1 (.goto 4) 62 63), (62, ei (.iconst 0) 63 0 (0)), (63, e0 (.bastore) 64)],
  [(64, ei (.iconst 1) 65 0 (1)), (65, e0 (.ireturn) 66)]]
noncomputable def zE_Mo_undo (α : Type) : Nat → zX α := fun i => bif Nat.beq i 0 then zA_vR_V 12 f_Mo_fresh else fun _ _ _ => none
def zc_Mo_undo : Nat → Bool := fun pc => false
set_option maxRecDepth 100000 in
theorem r_Mo_undo (a0 : Nat) (S : zM) : f_Mo_undo a0 S = zrt true zP_Mo_undo (zE_Mo_undo (Int32 × zM)) zc_Mo_undo zkI (fun pc lv st S => none) 1000 0 [some (.ref a0)] [] S := rfl
theorem G_Mo_undo {g : zV → Nat → List Value → zM → Prop} {res : (Int32 × zM)} (H : zCl true zP_Mo_undo (zE_Mo_undo (Int32 × zM)) zkI res g) (Hw : zWk g) (a0 : Nat) (S : zM) (h : f_Mo_undo a0 S = some res) : g [some (.ref a0)] 0 [] S := by
  refine H zc_Mo_undo _ 1000 _ _ _ _ ((r_Mo_undo a0 S).symm.trans h) (fun pc lv st S hK => ?_)
  cases hK
set_option maxRecDepth 100000 in
theorem ok_Mo_undo : zokT 12 [61] false 1 20 1 true (some .boolean) cX12_undo zP_Mo_undo = true := by decide +kernel
set_option maxRecDepth 100000 in
theorem s_Mo_undo {l : Launch} {HB : Heap} {b L : Nat} {xs : Nat → Int32} {aK aV : Nat → Nat} {G : va_G} {tc : Nat → ClassId} (h0 : zSnd l HB b L xs aK aV G tc (zMT.getD 61 zyD) (fun α => zA_vR_V 12 f_Mo_fresh)) : zSnd l HB b L xs aK aV G tc (zMT.getD 298 zyD) (fun α => zA_vR_I 12 f_Mo_undo) := by
  rw [show zMT.getD 298 zyD = (yX12_undo, cX12_undo, 1, (some .boolean), 0, 1, 1, 20) from rfl]
  intro α as S k res h
  unfold zA_vR_I at h
  dsimp only at h
  split at h
  · rename_i a0
    obtain ⟨p, hp, h⟩ := zbind h
    unfold zcl at hp
    split at hp
    · rename_i hkd
      have hm := zmeth (l := l) (HB := HB) (b := b) (L := L) (xs := xs) (aK := aK) (aV := aV) (G := G) (tc := tc) (q := (yX12_undo, cX12_undo, 1, (some .boolean), 0, 1, 1, 20)) (o := 12) (cs := [61]) (rz := true) (T := zP_Mo_undo) (E := zE_Mo_undo (Int32 × zM)) (kr := zkI) (res := p) (v0 := some (.int p.1)) (S0 := p.2) (as := [.ref a0]) (S := S) zMT_fine (by decide +kernel) (fun i as S k' h => by
        unfold zE_Mo_undo at h
        rcases zdisf h with ⟨rfl, h⟩ | h
        · exact h0 _ _ _ _ _ h
        cases h) ok_Mo_undo rfl (fun v S' h => zkI_inv h) (Nat.le_of_ble_eq_true rfl) (fun g H Hw => Hw _ [some (.ref a0)] _ _ _ ⟨rfl, trivial⟩ (G_Mo_undo H Hw a0 S hp))
      exact ⟨_, _, h, hm.1, rfl, fun _ => ⟨_, _, rfl⟩, (fun _ U H hK hH a r e => by cases e; exact zrecv (ci := 12) (by omega) hkd rfl U H hK hH), hm.2⟩
    · cases hp
  · cases h
def zP_Mo_isEmpty : List (List (Nat × zE)) := [[(0, ei (.iconst 0) 1 0 (0)), (1, e1 (.istore_n 2) 2 2), (2, e1 (.iload_n 2) 3 2), (3, e1 (.aload_n 0) 4 0), (4, e3 (.getfield 20) 7 12 11 2), (7, e1 (.iload_n 1) 8 1), (8, e0 (.iaload) 9), (9, e1 (.if_icmp .ge 25) 12 34), (12, e1 (.aload_n 0) 13 0), (13, e3 (.getfield 67) 16 12 39 2)],
  [(16, ei (.bipush 8) 18 0 (8)), (18, e1 (.iload_n 1) 19 1), (19, e0 (.imul) 20), (20, e1 (.iload_n 2) 21 2), (21, e0 (.iadd) 22), (22, e0 (.baload) 23), (23, e1 (.ifCond .ne 5) 26 28), (26, ei (.iconst 0) 27 0 (0)), (27, e0 (.ireturn) 28), (28, ei (.iinc 2 1) 31 2 (1)), (31, e1 (.goto (-29)) 34 2)],
  [(34, ei (.iconst 1) 35 0 (1)), (35, e0 (.ireturn) 36)]]
noncomputable def zE_Mo_isEmpty (α : Type) : Nat → zX α := fun _ => fun _ _ _ => none
def zc_Mo_isEmpty : Nat → Bool := fun pc => Nat.beq pc 2
def D_Mo_isEmpty_2 (k : Nat → Int32 → Int32 → zM → Option (Int32 × zM)) (lv : zV) (st : List Value) (S : zM) : Option (Int32 × zM) := match lv, st with
  | [some (.ref a0), some (.int a1), some (.int a2)], [] => k a0 a1 a2 S
  | _, _ => none
theorem d_Mo_isEmpty_2 {g : zV → Nat → List Value → zM → Prop} (Hw : zWk g) {k : Nat → Int32 → Int32 → zM → Option (Int32 × zM)} {res : (Int32 × zM)} {lv : zV} {st : List Value} {S : zM} (h : D_Mo_isEmpty_2 k lv st S = some res) (hk : ∀ a0 a1 a2 S, k a0 a1 a2 S = some res → g [some (.ref a0), some (.int a1), some (.int a2)] 2 [] S) : g lv 2 st S := by
  unfold D_Mo_isEmpty_2 at h
  split at h
  · exact Hw _ _ _ _ _ (by simp [zle]) (hk _ _ _ _  h)
  · cases h
set_option maxRecDepth 100000 in
theorem r_Mo_isEmpty_2 (n : Nat) (a0 : Nat) (a1 : Int32) (a2 : Int32) (S : zM) : L_Mo_isEmpty_2 (n + 1) a0 a1 a2 S = zrt true zP_Mo_isEmpty (zE_Mo_isEmpty (Int32 × zM)) zc_Mo_isEmpty zkI (fun pc lv st S => bif Nat.beq pc 2 then D_Mo_isEmpty_2 (L_Mo_isEmpty_2 n) lv st S else none) 1000 2 [some (.ref a0), some (.int a1), some (.int a2)] [] S := rfl
theorem g_Mo_isEmpty_2 {g : zV → Nat → List Value → zM → Prop} {res : (Int32 × zM)} (H : zCl true zP_Mo_isEmpty (zE_Mo_isEmpty (Int32 × zM)) zkI res g) (Hw : zWk g) (n : Nat) : ∀ (a0 : Nat) (a1 : Int32) (a2 : Int32) (S : zM), L_Mo_isEmpty_2 n a0 a1 a2 S = some res → g [some (.ref a0), some (.int a1), some (.int a2)] 2 [] S := by
  induction n with
  | zero => intro a0 a1 a2 S h; cases h
  | succ n ih =>
    intro a0 a1 a2 S h
    refine H zc_Mo_isEmpty _ 1000 _ _ _ _ ((r_Mo_isEmpty_2 n a0 a1 a2 S).symm.trans h) (fun pc lv st S hK => ?_)
    rcases zdis hK with ⟨rfl, hK⟩ | hK
    · exact d_Mo_isEmpty_2 Hw hK ih
    cases hK
set_option maxRecDepth 100000 in
theorem r_Mo_isEmpty (a0 : Nat) (a1 : Int32) (S : zM) : f_Mo_isEmpty a0 a1 S = zrt true zP_Mo_isEmpty (zE_Mo_isEmpty (Int32 × zM)) zc_Mo_isEmpty zkI (fun pc lv st S => bif Nat.beq pc 2 then D_Mo_isEmpty_2 (L_Mo_isEmpty_2 zF) lv st S else none) 1000 0 [some (.ref a0), some (.int a1), none] [] S := rfl
theorem G_Mo_isEmpty {g : zV → Nat → List Value → zM → Prop} {res : (Int32 × zM)} (H : zCl true zP_Mo_isEmpty (zE_Mo_isEmpty (Int32 × zM)) zkI res g) (Hw : zWk g) (a0 : Nat) (a1 : Int32) (S : zM) (h : f_Mo_isEmpty a0 a1 S = some res) : g [some (.ref a0), some (.int a1), none] 0 [] S := by
  refine H zc_Mo_isEmpty _ 1000 _ _ _ _ ((r_Mo_isEmpty a0 a1 S).symm.trans h) (fun pc lv st S hK => ?_)
  rcases zdis hK with ⟨rfl, hK⟩ | hK
  · exact d_Mo_isEmpty_2 Hw hK (g_Mo_isEmpty_2 H Hw  zF)
  cases hK
set_option maxRecDepth 100000 in
theorem ok_Mo_isEmpty : zokT 12 [] false 0 0 3 true (some .boolean) cX12_isEmpty zP_Mo_isEmpty = true := by decide +kernel
set_option maxRecDepth 100000 in
theorem s_Mo_isEmpty {l : Launch} {HB : Heap} {b L : Nat} {xs : Nat → Int32} {aK aV : Nat → Nat} {G : va_G} {tc : Nat → ClassId} : zSnd l HB b L xs aK aV G tc (zMT.getD 300 zyD) (fun α => zA_vRI_I 12 f_Mo_isEmpty) := by
  rw [show zMT.getD 300 zyD = (yX12_isEmpty, cX12_isEmpty, 3, (some .boolean), 0, 2, 0, 0) from rfl]
  intro α as S k res h
  unfold zA_vRI_I at h
  dsimp only at h
  split at h
  · rename_i a0 a1
    obtain ⟨p, hp, h⟩ := zbind h
    unfold zcl at hp
    split at hp
    · rename_i hkd
      have hm := zmeth (l := l) (HB := HB) (b := b) (L := L) (xs := xs) (aK := aK) (aV := aV) (G := G) (tc := tc) (q := (yX12_isEmpty, cX12_isEmpty, 3, (some .boolean), 0, 2, 0, 0)) (o := 12) (cs := []) (rz := true) (T := zP_Mo_isEmpty) (E := zE_Mo_isEmpty (Int32 × zM)) (kr := zkI) (res := p) (v0 := some (.int p.1)) (S0 := p.2) (as := [.ref a0, .int a1]) (S := S) zMT_fine (by decide +kernel) (fun i as S k' h => by
        unfold zE_Mo_isEmpty at h
        cases h) ok_Mo_isEmpty rfl (fun v S' h => zkI_inv h) (Nat.le_of_ble_eq_true rfl) (fun g H Hw => Hw _ [some (.ref a0), some (.int a1), none] _ _ _ ⟨rfl, rfl, trivial⟩ (G_Mo_isEmpty H Hw a0 a1 S hp))
      exact ⟨_, _, h, hm.1, rfl, fun _ => ⟨_, _, rfl⟩, (fun _ U H hK hH a r e => by cases e; exact zrecv (ci := 12) (by omega) hkd rfl U H hK hH), hm.2⟩
    · cases hp
  · cases h
def zP_Mo_empty : List (List (Nat × zE)) := [[(0, e1 (.aload_n 0) 1 0), (1, ei (.iconst 0) 2 0 (0)), (2, e3 (.putfield 127) 5 12 0 0), (5, ei (.iconst 0) 6 0 (0)), (6, e1 (.istore_n 2) 7 2), (7, ei (.iconst 0) 8 0 (0)), (8, e1 (.istore_n 3) 9 3), (9, e1 (.aload_n 0) 10 0), (10, e3 (.getfield 293) 13 12 9 1), (13, e1 (.ifCond .eq 35) 16 48)],
  [(16, e1 (.iload_n 3) 17 3), (17, e1 (.aload_n 0) 18 0), (18, e3 (.getfield 290) 21 12 8 0), (21, e1 (.if_icmp .ge 27) 24 48), (24, e1 (.aload_n 0) 25 0), (25, e1 (.iload_n 3) 26 3), (26, e3 (.invokevirtual 488) 29 0 2 0), (29, e1 (.ifCond .eq 13) 32 42)],
  [(32, e1 (.iload_n 2) 33 2), (33, e1 (.iload_n 1) 34 1), (34, e1 (.if_icmp .ne 5) 37 39), (37, e1 (.iload_n 3) 38 3), (38, e0 (.ireturn) 39), (39, ei (.iinc 2 1) 42 2 (1)), (42, ei (.iinc 3 1) 45 3 (1)), (45, e1 (.goto (-36)) 48 9)],
  [(48, e1 (.aload_n 0) 49 0), (49, ei (.iconst 1) 50 0 (1)), (50, e3 (.putfield 127) 53 12 0 0), (53, ei (.iconst 0) 54 0 (0)), (54, e0 (.ireturn) 55)]]
noncomputable def zE_Mo_empty (α : Type) : Nat → zX α := fun i => bif Nat.beq i 0 then zA_vRI_I 12 f_Mo_isEmpty else fun _ _ _ => none
def zc_Mo_empty : Nat → Bool := fun pc => Nat.beq pc 9
def D_Mo_empty_9 (k : Nat → Int32 → Int32 → Int32 → zM → Option (Int32 × zM)) (lv : zV) (st : List Value) (S : zM) : Option (Int32 × zM) := match lv, st with
  | [some (.ref a0), some (.int a1), some (.int a2), some (.int a3)], [] => k a0 a1 a2 a3 S
  | _, _ => none
theorem d_Mo_empty_9 {g : zV → Nat → List Value → zM → Prop} (Hw : zWk g) {k : Nat → Int32 → Int32 → Int32 → zM → Option (Int32 × zM)} {res : (Int32 × zM)} {lv : zV} {st : List Value} {S : zM} (h : D_Mo_empty_9 k lv st S = some res) (hk : ∀ a0 a1 a2 a3 S, k a0 a1 a2 a3 S = some res → g [some (.ref a0), some (.int a1), some (.int a2), some (.int a3)] 9 [] S) : g lv 9 st S := by
  unfold D_Mo_empty_9 at h
  split at h
  · exact Hw _ _ _ _ _ (by simp [zle]) (hk _ _ _ _ _  h)
  · cases h
set_option maxRecDepth 100000 in
theorem r_Mo_empty_9 (n : Nat) (a0 : Nat) (a1 : Int32) (a2 : Int32) (a3 : Int32) (S : zM) : L_Mo_empty_9 (n + 1) a0 a1 a2 a3 S = zrt false zP_Mo_empty (zE_Mo_empty (Int32 × zM)) zc_Mo_empty zkI (fun pc lv st S => bif Nat.beq pc 9 then D_Mo_empty_9 (L_Mo_empty_9 n) lv st S else none) 1000 9 [some (.ref a0), some (.int a1), some (.int a2), some (.int a3)] [] S := rfl
theorem g_Mo_empty_9 {g : zV → Nat → List Value → zM → Prop} {res : (Int32 × zM)} (H : zCl false zP_Mo_empty (zE_Mo_empty (Int32 × zM)) zkI res g) (Hw : zWk g) (n : Nat) : ∀ (a0 : Nat) (a1 : Int32) (a2 : Int32) (a3 : Int32) (S : zM), L_Mo_empty_9 n a0 a1 a2 a3 S = some res → g [some (.ref a0), some (.int a1), some (.int a2), some (.int a3)] 9 [] S := by
  induction n with
  | zero => intro a0 a1 a2 a3 S h; cases h
  | succ n ih =>
    intro a0 a1 a2 a3 S h
    refine H zc_Mo_empty _ 1000 _ _ _ _ ((r_Mo_empty_9 n a0 a1 a2 a3 S).symm.trans h) (fun pc lv st S hK => ?_)
    rcases zdis hK with ⟨rfl, hK⟩ | hK
    · exact d_Mo_empty_9 Hw hK ih
    cases hK
set_option maxRecDepth 100000 in
theorem r_Mo_empty (a0 : Nat) (a1 : Int32) (S : zM) : f_Mo_empty a0 a1 S = zrt false zP_Mo_empty (zE_Mo_empty (Int32 × zM)) zc_Mo_empty zkI (fun pc lv st S => bif Nat.beq pc 9 then D_Mo_empty_9 (L_Mo_empty_9 zF) lv st S else none) 1000 0 [some (.ref a0), some (.int a1), none, none] [] S := rfl
theorem G_Mo_empty {g : zV → Nat → List Value → zM → Prop} {res : (Int32 × zM)} (H : zCl false zP_Mo_empty (zE_Mo_empty (Int32 × zM)) zkI res g) (Hw : zWk g) (a0 : Nat) (a1 : Int32) (S : zM) (h : f_Mo_empty a0 a1 S = some res) : g [some (.ref a0), some (.int a1), none, none] 0 [] S := by
  refine H zc_Mo_empty _ 1000 _ _ _ _ ((r_Mo_empty a0 a1 S).symm.trans h) (fun pc lv st S hK => ?_)
  rcases zdis hK with ⟨rfl, hK⟩ | hK
  · exact d_Mo_empty_9 Hw hK (g_Mo_empty_9 H Hw  zF)
  cases hK
set_option maxRecDepth 100000 in
theorem ok_Mo_empty : zokT 12 [300] false 1 22 4 false (some .int) cX12_empty zP_Mo_empty = true := by decide +kernel
set_option maxRecDepth 100000 in
theorem s_Mo_empty {l : Launch} {HB : Heap} {b L : Nat} {xs : Nat → Int32} {aK aV : Nat → Nat} {G : va_G} {tc : Nat → ClassId} (h0 : zSnd l HB b L xs aK aV G tc (zMT.getD 300 zyD) (fun α => zA_vRI_I 12 f_Mo_isEmpty)) : zSnd l HB b L xs aK aV G tc (zMT.getD 301 zyD) (fun α => zA_vRI_I 12 f_Mo_empty) := by
  rw [show zMT.getD 301 zyD = (yX12_empty, cX12_empty, 4, (some .int), 0, 2, 1, 22) from rfl]
  intro α as S k res h
  unfold zA_vRI_I at h
  dsimp only at h
  split at h
  · rename_i a0 a1
    obtain ⟨p, hp, h⟩ := zbind h
    unfold zcl at hp
    split at hp
    · rename_i hkd
      have hm := zmeth (l := l) (HB := HB) (b := b) (L := L) (xs := xs) (aK := aK) (aV := aV) (G := G) (tc := tc) (q := (yX12_empty, cX12_empty, 4, (some .int), 0, 2, 1, 22)) (o := 12) (cs := [300]) (rz := false) (T := zP_Mo_empty) (E := zE_Mo_empty (Int32 × zM)) (kr := zkI) (res := p) (v0 := some (.int p.1)) (S0 := p.2) (as := [.ref a0, .int a1]) (S := S) zMT_fine (by decide +kernel) (fun i as S k' h => by
        unfold zE_Mo_empty at h
        rcases zdisf h with ⟨rfl, h⟩ | h
        · exact h0 _ _ _ _ _ h
        cases h) ok_Mo_empty rfl (fun v S' h => zkI_inv h) (Nat.le_of_ble_eq_true rfl) (fun g H Hw => Hw _ [some (.ref a0), some (.int a1), none, none] _ _ _ ⟨rfl, rfl, trivial⟩ (G_Mo_empty H Hw a0 a1 S hp))
      exact ⟨_, _, h, hm.1, rfl, fun _ => ⟨_, _, rfl⟩, (fun _ U H hK hH a r e => by cases e; exact zrecv (ci := 12) (by omega) hkd rfl U H hK hH), hm.2⟩
    · cases hp
  · cases h
def zP_Mo_thrown : List (List (Nat × zE)) := [[(0, e1 (.aload_n 0) 1 0), (1, e3 (.getfield 127) 4 12 0 0), (4, e0 (.ireturn) 5)]]
noncomputable def zE_Mo_thrown (α : Type) : Nat → zX α := fun _ => fun _ _ _ => none
def zc_Mo_thrown : Nat → Bool := fun pc => false
set_option maxRecDepth 100000 in
theorem r_Mo_thrown (a0 : Nat) (S : zM) : f_Mo_thrown a0 S = zrt false zP_Mo_thrown (zE_Mo_thrown (Int32 × zM)) zc_Mo_thrown zkI (fun pc lv st S => none) 1000 0 [some (.ref a0)] [] S := rfl
theorem G_Mo_thrown {g : zV → Nat → List Value → zM → Prop} {res : (Int32 × zM)} (H : zCl false zP_Mo_thrown (zE_Mo_thrown (Int32 × zM)) zkI res g) (Hw : zWk g) (a0 : Nat) (S : zM) (h : f_Mo_thrown a0 S = some res) : g [some (.ref a0)] 0 [] S := by
  refine H zc_Mo_thrown _ 1000 _ _ _ _ ((r_Mo_thrown a0 S).symm.trans h) (fun pc lv st S hK => ?_)
  cases hK
set_option maxRecDepth 100000 in
theorem ok_Mo_thrown : zokT 12 [] false 0 0 1 false (some .int) cX12_thrown zP_Mo_thrown = true := by decide +kernel
set_option maxRecDepth 100000 in
theorem s_Mo_thrown {l : Launch} {HB : Heap} {b L : Nat} {xs : Nat → Int32} {aK aV : Nat → Nat} {G : va_G} {tc : Nat → ClassId} : zSnd l HB b L xs aK aV G tc (zMT.getD 302 zyD) (fun α => zA_vR_I 12 f_Mo_thrown) := by
  rw [show zMT.getD 302 zyD = (yX12_thrown, cX12_thrown, 1, (some .int), 0, 1, 0, 0) from rfl]
  intro α as S k res h
  unfold zA_vR_I at h
  dsimp only at h
  split at h
  · rename_i a0
    obtain ⟨p, hp, h⟩ := zbind h
    unfold zcl at hp
    split at hp
    · rename_i hkd
      have hm := zmeth (l := l) (HB := HB) (b := b) (L := L) (xs := xs) (aK := aK) (aV := aV) (G := G) (tc := tc) (q := (yX12_thrown, cX12_thrown, 1, (some .int), 0, 1, 0, 0)) (o := 12) (cs := []) (rz := false) (T := zP_Mo_thrown) (E := zE_Mo_thrown (Int32 × zM)) (kr := zkI) (res := p) (v0 := some (.int p.1)) (S0 := p.2) (as := [.ref a0]) (S := S) zMT_fine (by decide +kernel) (fun i as S k' h => by
        unfold zE_Mo_thrown at h
        cases h) ok_Mo_thrown rfl (fun v S' h => zkI_inv h) (Nat.le_of_ble_eq_true rfl) (fun g H Hw => Hw _ [some (.ref a0)] _ _ _ ⟨rfl, trivial⟩ (G_Mo_thrown H Hw a0 S hp))
      exact ⟨_, _, h, hm.1, rfl, fun _ => ⟨_, _, rfl⟩, (fun _ U H hK hH a r e => by cases e; exact zrecv (ci := 12) (by omega) hkd rfl U H hK hH), hm.2⟩
    · cases hp
  · cases h
def zP_Cl_size : List (List (Nat × zE)) := [[(0, e1 (.iload_n 1) 1 1), (1, et (.tableswitch 62 0 2 #[27, 32, 40]) 63 [(0, 28), (1, 33), (2, 41)])],
  [(28, e1 (.aload_n 0) 29 0), (29, e3 (.getfield 72) 32 11 13 0)],
  [(32, e0 (.ireturn) 33), (33, e1 (.aload_n 0) 34 0), (34, e3 (.getfield 58) 37 11 9 2), (37, e3 (.getfield 361) 40 0 1 0), (40, e0 (.ireturn) 41), (41, e1 (.aload_n 0) 42 0), (42, e3 (.getfield 96) 45 11 17 1), (45, e1 (.ifCond .eq 16) 48 61)],
  [(48, e1 (.aload_n 0) 49 0), (49, e3 (.getfield 23) 52 11 2 2), (52, e3 (.getfield 230) 55 1 3 2), (55, e3 (.getfield 161) 58 8 1 0), (58, e1 (.goto 4) 61 62), (61, ei (.iconst 0) 62 0 (0)), (62, e0 (.ireturn) 63), (63, ei (.iconst (-1)) 64 0 (-1))],
  [(64, e0 (.ireturn) 65)]]
noncomputable def zE_Cl_size (α : Type) : Nat → zX α := fun _ => fun _ _ _ => none
def zc_Cl_size : Nat → Bool := fun pc => false
set_option maxRecDepth 100000 in
theorem r_Cl_size (a0 : Nat) (a1 : Int32) (S : zM) : f_Cl_size a0 a1 S = zrt false zP_Cl_size (zE_Cl_size (Int32 × zM)) zc_Cl_size zkI (fun pc lv st S => none) 1000 0 [some (.ref a0), some (.int a1)] [] S := rfl
theorem G_Cl_size {g : zV → Nat → List Value → zM → Prop} {res : (Int32 × zM)} (H : zCl false zP_Cl_size (zE_Cl_size (Int32 × zM)) zkI res g) (Hw : zWk g) (a0 : Nat) (a1 : Int32) (S : zM) (h : f_Cl_size a0 a1 S = some res) : g [some (.ref a0), some (.int a1)] 0 [] S := by
  refine H zc_Cl_size _ 1000 _ _ _ _ ((r_Cl_size a0 a1 S).symm.trans h) (fun pc lv st S hK => ?_)
  cases hK
set_option maxRecDepth 100000 in
theorem ok_Cl_size : zokT 11 [] false 0 0 2 false (some .int) cX11_size zP_Cl_size = true := by decide +kernel
set_option maxRecDepth 100000 in
theorem s_Cl_size {l : Launch} {HB : Heap} {b L : Nat} {xs : Nat → Int32} {aK aV : Nat → Nat} {G : va_G} {tc : Nat → ClassId} : zSnd l HB b L xs aK aV G tc (zMT.getD 303 zyD) (fun α => zA_vRI_I 11 f_Cl_size) := by
  rw [show zMT.getD 303 zyD = (yX11_size, cX11_size, 2, (some .int), 0, 2, 0, 0) from rfl]
  intro α as S k res h
  unfold zA_vRI_I at h
  dsimp only at h
  split at h
  · rename_i a0 a1
    obtain ⟨p, hp, h⟩ := zbind h
    unfold zcl at hp
    split at hp
    · rename_i hkd
      have hm := zmeth (l := l) (HB := HB) (b := b) (L := L) (xs := xs) (aK := aK) (aV := aV) (G := G) (tc := tc) (q := (yX11_size, cX11_size, 2, (some .int), 0, 2, 0, 0)) (o := 11) (cs := []) (rz := false) (T := zP_Cl_size) (E := zE_Cl_size (Int32 × zM)) (kr := zkI) (res := p) (v0 := some (.int p.1)) (S0 := p.2) (as := [.ref a0, .int a1]) (S := S) zMT_fine (by decide +kernel) (fun i as S k' h => by
        unfold zE_Cl_size at h
        cases h) ok_Cl_size rfl (fun v S' h => zkI_inv h) (Nat.le_of_ble_eq_true rfl) (fun g H Hw => Hw _ [some (.ref a0), some (.int a1)] _ _ _ ⟨rfl, rfl, trivial⟩ (G_Cl_size H Hw a0 a1 S hp))
      exact ⟨_, _, h, hm.1, rfl, fun _ => ⟨_, _, rfl⟩, (fun _ U H hK hH a r e => by cases e; exact zrecv (ci := 11) (by omega) hkd rfl U H hK hH), hm.2⟩
    · cases hp
  · cases h
def zP_Mo_size : List (List (Nat × zE)) := [[(0, e1 (.aload_n 0) 1 0), (1, ei (.iconst 0) 2 0 (0)), (2, e3 (.putfield 127) 5 12 0 0), (5, e1 (.iload_n 1) 6 1), (6, et (.tableswitch 52 0 2 #[26, 31, 36]) 58 [(0, 32), (1, 37), (2, 42)])],
  [],
  [(32, e1 (.aload_n 0) 33 0), (33, e3 (.getfield 133) 36 12 5 0), (36, e0 (.ireturn) 37), (37, e1 (.aload_n 0) 38 0), (38, e3 (.getfield 300) 41 12 66 0), (41, e0 (.ireturn) 42), (42, e1 (.aload_n 0) 43 0), (43, e3 (.getfield 297) 46 12 48 1), (46, e1 (.ifCond .eq 10) 49 56)],
  [(49, e1 (.aload_n 0) 50 0), (50, e3 (.getfield 403) 53 12 49 0), (53, e1 (.goto 4) 56 57), (56, ei (.iconst 0) 57 0 (0)), (57, e0 (.ireturn) 58), (58, ei (.iconst (-1)) 59 0 (-1)), (59, e0 (.ireturn) 60)]]
noncomputable def zE_Mo_size (α : Type) : Nat → zX α := fun _ => fun _ _ _ => none
def zc_Mo_size : Nat → Bool := fun pc => false
set_option maxRecDepth 100000 in
theorem r_Mo_size (a0 : Nat) (a1 : Int32) (S : zM) : f_Mo_size a0 a1 S = zrt false zP_Mo_size (zE_Mo_size (Int32 × zM)) zc_Mo_size zkI (fun pc lv st S => none) 1000 0 [some (.ref a0), some (.int a1)] [] S := rfl
theorem G_Mo_size {g : zV → Nat → List Value → zM → Prop} {res : (Int32 × zM)} (H : zCl false zP_Mo_size (zE_Mo_size (Int32 × zM)) zkI res g) (Hw : zWk g) (a0 : Nat) (a1 : Int32) (S : zM) (h : f_Mo_size a0 a1 S = some res) : g [some (.ref a0), some (.int a1)] 0 [] S := by
  refine H zc_Mo_size _ 1000 _ _ _ _ ((r_Mo_size a0 a1 S).symm.trans h) (fun pc lv st S hK => ?_)
  cases hK
set_option maxRecDepth 100000 in
theorem ok_Mo_size : zokT 12 [] false 0 0 2 false (some .int) cX12_size zP_Mo_size = true := by decide +kernel
set_option maxRecDepth 100000 in
theorem s_Mo_size {l : Launch} {HB : Heap} {b L : Nat} {xs : Nat → Int32} {aK aV : Nat → Nat} {G : va_G} {tc : Nat → ClassId} : zSnd l HB b L xs aK aV G tc (zMT.getD 304 zyD) (fun α => zA_vRI_I 12 f_Mo_size) := by
  rw [show zMT.getD 304 zyD = (yX12_size, cX12_size, 2, (some .int), 0, 2, 0, 0) from rfl]
  intro α as S k res h
  unfold zA_vRI_I at h
  dsimp only at h
  split at h
  · rename_i a0 a1
    obtain ⟨p, hp, h⟩ := zbind h
    unfold zcl at hp
    split at hp
    · rename_i hkd
      have hm := zmeth (l := l) (HB := HB) (b := b) (L := L) (xs := xs) (aK := aK) (aV := aV) (G := G) (tc := tc) (q := (yX12_size, cX12_size, 2, (some .int), 0, 2, 0, 0)) (o := 12) (cs := []) (rz := false) (T := zP_Mo_size) (E := zE_Mo_size (Int32 × zM)) (kr := zkI) (res := p) (v0 := some (.int p.1)) (S0 := p.2) (as := [.ref a0, .int a1]) (S := S) zMT_fine (by decide +kernel) (fun i as S k' h => by
        unfold zE_Mo_size at h
        cases h) ok_Mo_size rfl (fun v S' h => zkI_inv h) (Nat.le_of_ble_eq_true rfl) (fun g H Hw => Hw _ [some (.ref a0), some (.int a1)] _ _ _ ⟨rfl, rfl, trivial⟩ (G_Mo_size H Hw a0 a1 S hp))
      exact ⟨_, _, h, hm.1, rfl, fun _ => ⟨_, _, rfl⟩, (fun _ U H hK hH a r e => by cases e; exact zrecv (ci := 12) (by omega) hkd rfl U H hK hH), hm.2⟩
    · cases hp
  · cases h
def zP_Cl_trouble : List (List (Nat × zE)) := [[(0, e1 (.aload_n 0) 1 0), (1, e3 (.getfield 112) 4 11 16 0), (4, e0 (.ireturn) 5)]]
noncomputable def zE_Cl_trouble (α : Type) : Nat → zX α := fun _ => fun _ _ _ => none
def zc_Cl_trouble : Nat → Bool := fun pc => false
set_option maxRecDepth 100000 in
theorem r_Cl_trouble (a0 : Nat) (S : zM) : f_Cl_trouble a0 S = zrt false zP_Cl_trouble (zE_Cl_trouble (Int32 × zM)) zc_Cl_trouble zkI (fun pc lv st S => none) 1000 0 [some (.ref a0)] [] S := rfl
theorem G_Cl_trouble {g : zV → Nat → List Value → zM → Prop} {res : (Int32 × zM)} (H : zCl false zP_Cl_trouble (zE_Cl_trouble (Int32 × zM)) zkI res g) (Hw : zWk g) (a0 : Nat) (S : zM) (h : f_Cl_trouble a0 S = some res) : g [some (.ref a0)] 0 [] S := by
  refine H zc_Cl_trouble _ 1000 _ _ _ _ ((r_Cl_trouble a0 S).symm.trans h) (fun pc lv st S hK => ?_)
  cases hK
set_option maxRecDepth 100000 in
theorem ok_Cl_trouble : zokT 11 [] false 0 0 1 false (some .int) cX11_trouble zP_Cl_trouble = true := by decide +kernel
set_option maxRecDepth 100000 in
theorem s_Cl_trouble {l : Launch} {HB : Heap} {b L : Nat} {xs : Nat → Int32} {aK aV : Nat → Nat} {G : va_G} {tc : Nat → ClassId} : zSnd l HB b L xs aK aV G tc (zMT.getD 305 zyD) (fun α => zA_vR_I 11 f_Cl_trouble) := by
  rw [show zMT.getD 305 zyD = (yX11_trouble, cX11_trouble, 1, (some .int), 0, 1, 0, 0) from rfl]
  intro α as S k res h
  unfold zA_vR_I at h
  dsimp only at h
  split at h
  · rename_i a0
    obtain ⟨p, hp, h⟩ := zbind h
    unfold zcl at hp
    split at hp
    · rename_i hkd
      have hm := zmeth (l := l) (HB := HB) (b := b) (L := L) (xs := xs) (aK := aK) (aV := aV) (G := G) (tc := tc) (q := (yX11_trouble, cX11_trouble, 1, (some .int), 0, 1, 0, 0)) (o := 11) (cs := []) (rz := false) (T := zP_Cl_trouble) (E := zE_Cl_trouble (Int32 × zM)) (kr := zkI) (res := p) (v0 := some (.int p.1)) (S0 := p.2) (as := [.ref a0]) (S := S) zMT_fine (by decide +kernel) (fun i as S k' h => by
        unfold zE_Cl_trouble at h
        cases h) ok_Cl_trouble rfl (fun v S' h => zkI_inv h) (Nat.le_of_ble_eq_true rfl) (fun g H Hw => Hw _ [some (.ref a0)] _ _ _ ⟨rfl, trivial⟩ (G_Cl_trouble H Hw a0 S hp))
      exact ⟨_, _, h, hm.1, rfl, fun _ => ⟨_, _, rfl⟩, (fun _ U H hK hH a r e => by cases e; exact zrecv (ci := 11) (by omega) hkd rfl U H hK hH), hm.2⟩
    · cases hp
  · cases h
def zP_Mo_trouble : List (List (Nat × zE)) := [[(0, e1 (.aload_n 0) 1 0), (1, ei (.iconst 0) 2 0 (0)), (2, e3 (.putfield 127) 5 12 0 0), (5, e1 (.aload_n 0) 6 0), (6, e3 (.getfield 130) 9 12 1 0), (9, e0 (.ireturn) 10)]]
noncomputable def zE_Mo_trouble (α : Type) : Nat → zX α := fun _ => fun _ _ _ => none
def zc_Mo_trouble : Nat → Bool := fun pc => false
set_option maxRecDepth 100000 in
theorem r_Mo_trouble (a0 : Nat) (S : zM) : f_Mo_trouble a0 S = zrt false zP_Mo_trouble (zE_Mo_trouble (Int32 × zM)) zc_Mo_trouble zkI (fun pc lv st S => none) 1000 0 [some (.ref a0)] [] S := rfl
theorem G_Mo_trouble {g : zV → Nat → List Value → zM → Prop} {res : (Int32 × zM)} (H : zCl false zP_Mo_trouble (zE_Mo_trouble (Int32 × zM)) zkI res g) (Hw : zWk g) (a0 : Nat) (S : zM) (h : f_Mo_trouble a0 S = some res) : g [some (.ref a0)] 0 [] S := by
  refine H zc_Mo_trouble _ 1000 _ _ _ _ ((r_Mo_trouble a0 S).symm.trans h) (fun pc lv st S hK => ?_)
  cases hK
set_option maxRecDepth 100000 in
theorem ok_Mo_trouble : zokT 12 [] false 0 0 1 false (some .int) cX12_trouble zP_Mo_trouble = true := by decide +kernel
set_option maxRecDepth 100000 in
theorem s_Mo_trouble {l : Launch} {HB : Heap} {b L : Nat} {xs : Nat → Int32} {aK aV : Nat → Nat} {G : va_G} {tc : Nat → ClassId} : zSnd l HB b L xs aK aV G tc (zMT.getD 306 zyD) (fun α => zA_vR_I 12 f_Mo_trouble) := by
  rw [show zMT.getD 306 zyD = (yX12_trouble, cX12_trouble, 1, (some .int), 0, 1, 0, 0) from rfl]
  intro α as S k res h
  unfold zA_vR_I at h
  dsimp only at h
  split at h
  · rename_i a0
    obtain ⟨p, hp, h⟩ := zbind h
    unfold zcl at hp
    split at hp
    · rename_i hkd
      have hm := zmeth (l := l) (HB := HB) (b := b) (L := L) (xs := xs) (aK := aK) (aV := aV) (G := G) (tc := tc) (q := (yX12_trouble, cX12_trouble, 1, (some .int), 0, 1, 0, 0)) (o := 12) (cs := []) (rz := false) (T := zP_Mo_trouble) (E := zE_Mo_trouble (Int32 × zM)) (kr := zkI) (res := p) (v0 := some (.int p.1)) (S0 := p.2) (as := [.ref a0]) (S := S) zMT_fine (by decide +kernel) (fun i as S k' h => by
        unfold zE_Mo_trouble at h
        cases h) ok_Mo_trouble rfl (fun v S' h => zkI_inv h) (Nat.le_of_ble_eq_true rfl) (fun g H Hw => Hw _ [some (.ref a0)] _ _ _ ⟨rfl, trivial⟩ (G_Mo_trouble H Hw a0 S hp))
      exact ⟨_, _, h, hm.1, rfl, fun _ => ⟨_, _, rfl⟩, (fun _ U H hK hH a r e => by cases e; exact zrecv (ci := 12) (by omega) hkd rfl U H hK hH), hm.2⟩
    · cases hp
  · cases h
