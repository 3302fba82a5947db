def zP_Mo_ends : List (List (Nat × zE)) := [[(0, e1 (.aload_n 0) 1 0), (1, e3 (.invokevirtual 272) 4 0 1 0), (4, e1 (.aload_n 0) 5 0), (5, e1 (.iload_n 1) 6 1), (6, e1 (.iload_n 2) 7 2), (7, e3 (.invokevirtual 329) 10 1 3 0), (10, e1 (.ifCond .ne 9) 13 19), (13, e1 (.aload_n 0) 14 0), (14, ei (.iconst 1) 15 0 (1)), (15, e3 (.invokevirtual 275) 18 2 2 0)],
  [(18, e0 (.ireturn) 19), (19, ei (.iconst 0) 20 0 (0)), (20, e1 (.istore_n 3) 21 3), (21, ei (.iconst 0) 22 0 (0)), (22, e1 (.istore 4) 24 4), (24, e1 (.iload 4) 26 4), (26, e1 (.aload_n 0) 27 0), (27, e3 (.getfield 20) 30 12 11 2), (30, e1 (.iload_n 1) 31 1), (31, e0 (.iaload) 32)],
  [(32, e1 (.if_icmp .ge 52) 35 84), (35, e1 (.iload_n 1) 36 1), (36, e1 (.iload 4) 38 4), (38, e3 (.invokestatic 319) 41 3 2 0), (41, e1 (.istore 5) 43 5), (43, e1 (.iload_n 3) 44 3), (44, e1 (.aload_n 0) 45 0), (45, e1 (.iload 5) 47 5), (47, e1 (.aload_n 0) 48 0)],
  [(48, e3 (.getfield 27) 51 12 13 2), (51, e1 (.iload 5) 53 5), (53, ei (.iconst 0) 54 0 (0)), (54, e0 (.iadd) 55), (55, e0 (.iaload) 56), (56, e3 (.invokevirtual 323) 59 4 3 0), (59, e1 (.aload_n 0) 60 0), (60, e3 (.getfield 46) 63 12 30 2), (63, e1 (.iload_n 2) 64 2)],
  [(64, e0 (.iaload) 65), (65, e1 (.if_icmp .ne 10) 68 75), (68, ei (.iconst 1) 69 0 (1)), (69, e1 (.iload 4) 71 4), (71, e0 (.ishl) 72), (72, e1 (.goto 4) 75 76), (75, ei (.iconst 0) 76 0 (0)), (76, e0 (.ior) 77), (77, e1 (.istore_n 3) 78 3), (78, ei (.iinc 4 1) 81 4 (1))],
  [(81, e1 (.goto (-57)) 84 24), (84, e1 (.iload_n 3) 85 3), (85, e0 (.ireturn) 86)]]
noncomputable def zE_Mo_ends (α : Type) : Nat → zX α := fun i => bif Nat.beq i 0 then zA_vR_V 12 f_Mo_fresh else bif Nat.beq i 1 then zA_vRII_I 12 f_Mo_isState else bif Nat.beq i 2 then zA_vRI_I 12 f_Mo_no else bif Nat.beq i 3 then zA_II_I f_Mo_rowOf else bif Nat.beq i 4 then zA_vRII_I 12 f_Mo_beginning else fun _ _ _ => none
def zc_Mo_ends : Nat → Bool := fun pc => Nat.beq pc 24
def D_Mo_ends_24 (k : Nat → Int32 → Int32 → Int32 → Int32 → zM → Option (Int32 × zM)) (lv : zV) (st : List Value) (S : zM) : Option (Int32 × zM) := match lv, st with
  | [some (.ref a0), some (.int a1), some (.int a2), some (.int a3), some (.int a4), _], [] => k a0 a1 a2 a3 a4 S
  | _, _ => none
theorem d_Mo_ends_24 {g : zV → Nat → List Value → zM → Prop} (Hw : zWk g) {k : Nat → Int32 → Int32 → Int32 → Int32 → zM → Option (Int32 × zM)} {res : (Int32 × zM)} {lv : zV} {st : List Value} {S : zM} (h : D_Mo_ends_24 k lv st S = some res) (hk : ∀ a0 a1 a2 a3 a4 S, k a0 a1 a2 a3 a4 S = some res → g [some (.ref a0), some (.int a1), some (.int a2), some (.int a3), some (.int a4), none] 24 [] S) : g lv 24 st S := by
  unfold D_Mo_ends_24 at h
  split at h
  · exact Hw _ _ _ _ _ (by simp [zle]) (hk _ _ _ _ _ _  h)
  · cases h
set_option maxRecDepth 100000 in
theorem r_Mo_ends_24 (n : Nat) (a0 : Nat) (a1 : Int32) (a2 : Int32) (a3 : Int32) (a4 : Int32) (S : zM) : L_Mo_ends_24 (n + 1) a0 a1 a2 a3 a4 S = zrt false zP_Mo_ends (zE_Mo_ends (Int32 × zM)) zc_Mo_ends zkI (fun pc lv st S => bif Nat.beq pc 24 then D_Mo_ends_24 (L_Mo_ends_24 n) lv st S else none) 1000 24 [some (.ref a0), some (.int a1), some (.int a2), some (.int a3), some (.int a4), none] [] S := rfl
theorem g_Mo_ends_24 {g : zV → Nat → List Value → zM → Prop} {res : (Int32 × zM)} (H : zCl false zP_Mo_ends (zE_Mo_ends (Int32 × zM)) zkI res g) (Hw : zWk g) (n : Nat) : ∀ (a0 : Nat) (a1 : Int32) (a2 : Int32) (a3 : Int32) (a4 : Int32) (S : zM), L_Mo_ends_24 n a0 a1 a2 a3 a4 S = some res → g [some (.ref a0), some (.int a1), some (.int a2), some (.int a3), some (.int a4), none] 24 [] S := by
  induction n with
  | zero => intro a0 a1 a2 a3 a4 S h; cases h
  | succ n ih =>
    intro a0 a1 a2 a3 a4 S h
    refine H zc_Mo_ends _ 1000 _ _ _ _ ((r_Mo_ends_24 n a0 a1 a2 a3 a4 S).symm.trans h) (fun pc lv st S hK => ?_)
    rcases zdis hK with ⟨rfl, hK⟩ | hK
    · exact d_Mo_ends_24 Hw hK ih
    cases hK
set_option maxRecDepth 100000 in
theorem r_Mo_ends (a0 : Nat) (a1 : Int32) (a2 : Int32) (S : zM) : f_Mo_ends a0 a1 a2 S = zrt false zP_Mo_ends (zE_Mo_ends (Int32 × zM)) zc_Mo_ends zkI (fun pc lv st S => bif Nat.beq pc 24 then D_Mo_ends_24 (L_Mo_ends_24 zF) lv st S else none) 1000 0 [some (.ref a0), some (.int a1), some (.int a2), none, none, none] [] S := rfl
theorem G_Mo_ends {g : zV → Nat → List Value → zM → Prop} {res : (Int32 × zM)} (H : zCl false zP_Mo_ends (zE_Mo_ends (Int32 × zM)) zkI res g) (Hw : zWk g) (a0 : Nat) (a1 : Int32) (a2 : Int32) (S : zM) (h : f_Mo_ends a0 a1 a2 S = some res) : g [some (.ref a0), some (.int a1), some (.int a2), none, none, none] 0 [] S := by
  refine H zc_Mo_ends _ 1000 _ _ _ _ ((r_Mo_ends a0 a1 a2 S).symm.trans h) (fun pc lv st S hK => ?_)
  rcases zdis hK with ⟨rfl, hK⟩ | hK
  · exact d_Mo_ends_24 Hw hK (g_Mo_ends_24 H Hw  zF)
  cases hK
set_option maxRecDepth 100000 in
theorem ok_Mo_ends : zokT 12 [61, 115, 63, 95, 96] false 4 93 6 false (some .int) cX12_ends zP_Mo_ends = true := by decide +kernel
set_option maxRecDepth 100000 in
theorem s_Mo_ends {l : Launch} {HB : Heap} {b L : Nat} {xs : Nat → Int32} {aK aV : Nat → Nat} {G : va_G} {tc : Nat → ClassId} (h0 : zSnd l HB b L xs aK aV G tc (zMT.getD 61 zyD) (fun α => zA_vR_V 12 f_Mo_fresh)) (h1 : zSnd l HB b L xs aK aV G tc (zMT.getD 115 zyD) (fun α => zA_vRII_I 12 f_Mo_isState)) (h2 : zSnd l HB b L xs aK aV G tc (zMT.getD 63 zyD) (fun α => zA_vRI_I 12 f_Mo_no)) (h3 : zSnd l HB b L xs aK aV G tc (zMT.getD 95 zyD) (fun α => zA_II_I f_Mo_rowOf)) (h4 : zSnd l HB b L xs aK aV G tc (zMT.getD 96 zyD) (fun α => zA_vRII_I 12 f_Mo_beginning)) : zSnd l HB b L xs aK aV G tc (zMT.getD 122 zyD) (fun α => zA_vRII_I 12 f_Mo_ends) := by
  rw [show zMT.getD 122 zyD = (yX12_ends, cX12_ends, 6, (some .int), 0, 3, 4, 93) from rfl]
  intro α as S k res h
  unfold zA_vRII_I at h
  dsimp only at h
  split at h
  · rename_i a0 a1 a2
    obtain ⟨p, hp, h⟩ := zbind h
    unfold zcl at hp
    split at hp
    · rename_i hkd
      have hm := zmeth (l := l) (HB := HB) (b := b) (L := L) (xs := xs) (aK := aK) (aV := aV) (G := G) (tc := tc) (q := (yX12_ends, cX12_ends, 6, (some .int), 0, 3, 4, 93)) (o := 12) (cs := [61, 115, 63, 95, 96]) (rz := false) (T := zP_Mo_ends) (E := zE_Mo_ends (Int32 × zM)) (kr := zkI) (res := p) (v0 := some (.int p.1)) (S0 := p.2) (as := [.ref a0, .int a1, .int a2]) (S := S) zMT_fine (by decide +kernel) (fun i as S k' h => by
        unfold zE_Mo_ends at h
        rcases zdisf h with ⟨rfl, h⟩ | h
        · exact h0 _ _ _ _ _ h
        rcases zdisf h with ⟨rfl, h⟩ | h
        · exact h1 _ _ _ _ _ h
        rcases zdisf h with ⟨rfl, h⟩ | h
        · exact h2 _ _ _ _ _ h
        rcases zdisf h with ⟨rfl, h⟩ | h
        · exact h3 _ _ _ _ _ h
        rcases zdisf h with ⟨rfl, h⟩ | h
        · exact h4 _ _ _ _ _ h
        cases h) ok_Mo_ends rfl (fun v S' h => zkI_inv h) (Nat.le_of_ble_eq_true rfl) (fun g H Hw => Hw _ [some (.ref a0), some (.int a1), some (.int a2), none, none, none] _ _ _ ⟨rfl, rfl, rfl, trivial⟩ (G_Mo_ends H Hw a0 a1 a2 S hp))
      exact ⟨_, _, h, hm.1, rfl, fun _ => ⟨_, _, rfl⟩, (fun _ U H hK hH a r e => by cases e; exact zrecv (ci := 12) (by omega) hkd rfl U H hK hH), hm.2⟩
    · cases hp
  · cases h
def zP_Pieces_put : List (List (Nat × zE)) := [[(0, e1 (.aload_n 0) 1 0), (1, e3 (.getfield 37) 4 6 5 0), (4, ei (.bipush 16) 6 0 (16)), (6, e1 (.if_icmp .ge 33) 9 39), (9, e1 (.aload_n 0) 10 0), (10, e3 (.getfield 11) 13 6 0 2), (13, e1 (.aload_n 0) 14 0), (14, e3 (.getfield 37) 17 6 5 0)],
  [(17, e1 (.iload_n 1) 18 1), (18, e0 (.iastore) 19), (19, e1 (.aload_n 0) 20 0), (20, e3 (.getfield 17) 23 6 1 2), (23, e1 (.aload_n 0) 24 0), (24, e3 (.getfield 37) 27 6 5 0), (27, e1 (.aload_n 2) 28 2), (28, e3 (.aastore) 29 8 0 0), (29, e1 (.aload_n 0) 30 0), (30, e0 (.dup) 31), (31, e3 (.getfield 37) 34 6 5 0)],
  [(34, ei (.iconst 1) 35 0 (1)), (35, e0 (.iadd) 36), (36, e3 (.putfield 37) 39 6 5 0), (39, e0 (.return_) 40)]]
noncomputable def zE_Pieces_put (α : Type) : Nat → zX α := fun _ => fun _ _ _ => none
def zc_Pieces_put : Nat → Bool := fun pc => false
set_option maxRecDepth 100000 in
theorem r_Pieces_put (a0 : Nat) (a1 : Int32) (a2 : Nat) (S : zM) : f_Pieces_put a0 a1 a2 S = zrt false zP_Pieces_put (zE_Pieces_put zM) zc_Pieces_put zkV (fun pc lv st S => none) 1000 0 [some (.ref a0), some (.int a1), some (.ref a2)] [] S := rfl
theorem G_Pieces_put {g : zV → Nat → List Value → zM → Prop} {res : zM} (H : zCl false zP_Pieces_put (zE_Pieces_put zM) zkV res g) (Hw : zWk g) (a0 : Nat) (a1 : Int32) (a2 : Nat) (S : zM) (h : f_Pieces_put a0 a1 a2 S = some res) : g [some (.ref a0), some (.int a1), some (.ref a2)] 0 [] S := by
  refine H zc_Pieces_put _ 1000 _ _ _ _ ((r_Pieces_put a0 a1 a2 S).symm.trans h) (fun pc lv st S hK => ?_)
  cases hK
set_option maxRecDepth 100000 in
theorem ok_Pieces_put : zokT 6 [] false 0 0 3 false none cX6_put zP_Pieces_put = true := by decide +kernel
set_option maxRecDepth 100000 in
theorem s_Pieces_put {l : Launch} {HB : Heap} {b L : Nat} {xs : Nat → Int32} {aK aV : Nat → Nat} {G : va_G} {tc : Nat → ClassId} : zSnd l HB b L xs aK aV G tc (zMT.getD 123 zyD) (fun α => zA_vRIR_V 6 f_Pieces_put) := by
  rw [show zMT.getD 123 zyD = (yX6_put, cX6_put, 3, none, 0, 3, 0, 0) from rfl]
  intro α as S k res h
  unfold zA_vRIR_V at h
  dsimp only at h
  split at h
  · rename_i a0 a1 a2
    obtain ⟨p, hp, h⟩ := zbind h
    unfold zcl at hp
    split at hp
    · rename_i hkd
      have hm := zmeth (l := l) (HB := HB) (b := b) (L := L) (xs := xs) (aK := aK) (aV := aV) (G := G) (tc := tc) (q := (yX6_put, cX6_put, 3, none, 0, 3, 0, 0)) (o := 6) (cs := []) (rz := false) (T := zP_Pieces_put) (E := zE_Pieces_put zM) (kr := zkV) (res := p) (v0 := none) (S0 := p) (as := [.ref a0, .int a1, .ref a2]) (S := S) zMT_fine (by decide +kernel) (fun i as S k' h => by
        unfold zE_Pieces_put at h
        cases h) ok_Pieces_put rfl (fun v S' h => zkV_inv h) (Nat.le_of_ble_eq_true rfl) (fun g H Hw => Hw _ [some (.ref a0), some (.int a1), some (.ref a2)] _ _ _ ⟨rfl, rfl, rfl, trivial⟩ (G_Pieces_put H Hw a0 a1 a2 S hp))
      exact ⟨_, _, h, hm.1, rfl, fun _ => ⟨_, _, rfl⟩, (fun _ U H hK hH a r e => by cases e; exact zrecv (ci := 6) (by omega) hkd rfl U H hK hH), hm.2⟩
    · cases hp
  · cases h
def zP_Pass_alwaysTakes : List (List (Nat × zE)) := [[(0, ei (.iconst 0) 1 0 (0)), (1, e1 (.istore_n 2) 2 2), (2, e1 (.iload_n 2) 3 2), (3, e1 (.aload_n 0) 4 0), (4, e3 (.getfield 28) 7 5 3 0), (7, e1 (.if_icmp .ge 72) 10 79), (10, e1 (.aload_n 0) 11 0), (11, e1 (.iload_n 2) 12 2), (12, e3 (.invokevirtual 50) 15 0 2 0), (15, e1 (.astore_n 3) 16 3)],
  [(16, e1 (.aload_n 3) 17 3), (17, e1 (.ifnull 56) 20 73), (20, e1 (.aload_n 0) 21 0), (21, e1 (.iload_n 2) 22 2), (22, e3 (.invokevirtual 54) 25 1 2 0), (25, e1 (.ifCond .eq 48) 28 73), (28, e1 (.aload_n 3) 29 3), (29, e3 (.getfield 58) 32 9 0 2)],
  [(32, e3 (.getfield 62) 35 8 1 0), (35, ei (.iconst 1) 36 0 (1)), (36, e1 (.if_icmp .ne 37) 39 73), (39, e1 (.aload_n 3) 40 3), (40, e3 (.getfield 58) 43 9 0 2), (43, ei (.iconst 0) 44 0 (0)), (44, e3 (.invokevirtual 67) 47 2 2 0), (47, e1 (.iload_n 1) 48 1)],
  [(48, e1 (.if_icmp .ne 25) 51 73), (51, e1 (.aload_n 3) 52 3), (52, e3 (.getfield 70) 55 9 2 0), (55, ei (.sipush 511) 58 0 (511)), (58, e1 (.if_icmp .ne 15) 61 73), (61, e1 (.aload_n 3) 62 3), (62, e3 (.getfield 73) 65 9 3 0)],
  [(65, ei (.sipush 511) 68 0 (511)), (68, e1 (.if_icmp .ne 5) 71 73), (71, ei (.iconst 1) 72 0 (1)), (72, e0 (.ireturn) 73), (73, ei (.iinc 2 1) 76 2 (1)), (76, e1 (.goto (-74)) 79 2), (79, ei (.iconst 0) 80 0 (0))],
  [(80, e0 (.ireturn) 81)]]
noncomputable def zE_Pass_alwaysTakes (α : Type) : Nat → zX α := fun i => bif Nat.beq i 0 then zA_vRI_N 5 f_Pass_ruleAt else bif Nat.beq i 1 then zA_vRI_I 5 f_Pass_serves else bif Nat.beq i 2 then zA_vRI_I 8 f_Row_at else fun _ _ _ => none
def zc_Pass_alwaysTakes : Nat → Bool := fun pc => Nat.beq pc 2
def D_Pass_alwaysTakes_2 (k : Nat → Int32 → Int32 → zM → Option (Int32 × zM)) (lv : zV) (st : List Value) (S : zM) : Option (Int32 × zM) := match lv, st with
  | [some (.ref a0), some (.int a1), some (.int a2), _], [] => k a0 a1 a2 S
  | _, _ => none
theorem d_Pass_alwaysTakes_2 {g : zV → Nat → List Value → zM → Prop} (Hw : zWk g) {k : Nat → Int32 → Int32 → zM → Option (Int32 × zM)} {res : (Int32 × zM)} {lv : zV} {st : List Value} {S : zM} (h : D_Pass_alwaysTakes_2 k lv st S = some res) (hk : ∀ a0 a1 a2 S, k a0 a1 a2 S = some res → g [some (.ref a0), some (.int a1), some (.int a2), none] 2 [] S) : g lv 2 st S := by
  unfold D_Pass_alwaysTakes_2 at h
  split at h
  · exact Hw _ _ _ _ _ (by simp [zle]) (hk _ _ _ _  h)
  · cases h
set_option maxRecDepth 100000 in
theorem r_Pass_alwaysTakes_2 (n : Nat) (a0 : Nat) (a1 : Int32) (a2 : Int32) (S : zM) : L_Pass_alwaysTakes_2 (n + 1) a0 a1 a2 S = zrt true zP_Pass_alwaysTakes (zE_Pass_alwaysTakes (Int32 × zM)) zc_Pass_alwaysTakes zkI (fun pc lv st S => bif Nat.beq pc 2 then D_Pass_alwaysTakes_2 (L_Pass_alwaysTakes_2 n) lv st S else none) 1000 2 [some (.ref a0), some (.int a1), some (.int a2), none] [] S := rfl
theorem g_Pass_alwaysTakes_2 {g : zV → Nat → List Value → zM → Prop} {res : (Int32 × zM)} (H : zCl true zP_Pass_alwaysTakes (zE_Pass_alwaysTakes (Int32 × zM)) zkI res g) (Hw : zWk g) (n : Nat) : ∀ (a0 : Nat) (a1 : Int32) (a2 : Int32) (S : zM), L_Pass_alwaysTakes_2 n a0 a1 a2 S = some res → g [some (.ref a0), some (.int a1), some (.int a2), none] 2 [] S := by
  induction n with
  | zero => intro a0 a1 a2 S h; cases h
  | succ n ih =>
    intro a0 a1 a2 S h
    refine H zc_Pass_alwaysTakes _ 1000 _ _ _ _ ((r_Pass_alwaysTakes_2 n a0 a1 a2 S).symm.trans h) (fun pc lv st S hK => ?_)
    rcases zdis hK with ⟨rfl, hK⟩ | hK
    · exact d_Pass_alwaysTakes_2 Hw hK ih
    cases hK
set_option maxRecDepth 100000 in
theorem r_Pass_alwaysTakes (a0 : Nat) (a1 : Int32) (S : zM) : f_Pass_alwaysTakes a0 a1 S = zrt true zP_Pass_alwaysTakes (zE_Pass_alwaysTakes (Int32 × zM)) zc_Pass_alwaysTakes zkI (fun pc lv st S => bif Nat.beq pc 2 then D_Pass_alwaysTakes_2 (L_Pass_alwaysTakes_2 zF) lv st S else none) 1000 0 [some (.ref a0), some (.int a1), none, none] [] S := rfl
theorem G_Pass_alwaysTakes {g : zV → Nat → List Value → zM → Prop} {res : (Int32 × zM)} (H : zCl true zP_Pass_alwaysTakes (zE_Pass_alwaysTakes (Int32 × zM)) zkI res g) (Hw : zWk g) (a0 : Nat) (a1 : Int32) (S : zM) (h : f_Pass_alwaysTakes a0 a1 S = some res) : g [some (.ref a0), some (.int a1), none, none] 0 [] S := by
  refine H zc_Pass_alwaysTakes _ 1000 _ _ _ _ ((r_Pass_alwaysTakes a0 a1 S).symm.trans h) (fun pc lv st S hK => ?_)
  rcases zdis hK with ⟨rfl, hK⟩ | hK
  · exact d_Pass_alwaysTakes_2 Hw hK (g_Pass_alwaysTakes_2 H Hw  zF)
  cases hK
set_option maxRecDepth 100000 in
theorem ok_Pass_alwaysTakes : zokT 5 [47, 103, 50] false 3 61 4 true (some .boolean) cX5_alwaysTakes zP_Pass_alwaysTakes = true := by decide +kernel
set_option maxRecDepth 100000 in
theorem s_Pass_alwaysTakes {l : Launch} {HB : Heap} {b L : Nat} {xs : Nat → Int32} {aK aV : Nat → Nat} {G : va_G} {tc : Nat → ClassId} (h0 : zSnd l HB b L xs aK aV G tc (zMT.getD 47 zyD) (fun α => zA_vRI_N 5 f_Pass_ruleAt)) (h1 : zSnd l HB b L xs aK aV G tc (zMT.getD 103 zyD) (fun α => zA_vRI_I 5 f_Pass_serves)) (h2 : zSnd l HB b L xs aK aV G tc (zMT.getD 50 zyD) (fun α => zA_vRI_I 8 f_Row_at)) : zSnd l HB b L xs aK aV G tc (zMT.getD 124 zyD) (fun α => zA_vRI_I 5 f_Pass_alwaysTakes) := by
  rw [show zMT.getD 124 zyD = (yX5_alwaysTakes, cX5_alwaysTakes, 4, (some .boolean), 0, 2, 3, 61) from rfl]
  intro α as S k res h
  unfold zA_vRI_I at h
  dsimp only at h
  split at h
  · rename_i a0 a1
    obtain ⟨p, hp, h⟩ := zbind h
    unfold zcl at hp
    split at hp
    · rename_i hkd
      have hm := zmeth (l := l) (HB := HB) (b := b) (L := L) (xs := xs) (aK := aK) (aV := aV) (G := G) (tc := tc) (q := (yX5_alwaysTakes, cX5_alwaysTakes, 4, (some .boolean), 0, 2, 3, 61)) (o := 5) (cs := [47, 103, 50]) (rz := true) (T := zP_Pass_alwaysTakes) (E := zE_Pass_alwaysTakes (Int32 × zM)) (kr := zkI) (res := p) (v0 := some (.int p.1)) (S0 := p.2) (as := [.ref a0, .int a1]) (S := S) zMT_fine (by decide +kernel) (fun i as S k' h => by
        unfold zE_Pass_alwaysTakes at h
        rcases zdisf h with ⟨rfl, h⟩ | h
        · exact h0 _ _ _ _ _ h
        rcases zdisf h with ⟨rfl, h⟩ | h
        · exact h1 _ _ _ _ _ h
        rcases zdisf h with ⟨rfl, h⟩ | h
        · exact h2 _ _ _ _ _ h
        cases h) ok_Pass_alwaysTakes rfl (fun v S' h => zkI_inv h) (Nat.le_of_ble_eq_true rfl) (fun g H Hw => Hw _ [some (.ref a0), some (.int a1), none, none] _ _ _ ⟨rfl, rfl, trivial⟩ (G_Pass_alwaysTakes H Hw a0 a1 S hp))
      exact ⟨_, _, h, hm.1, rfl, fun _ => ⟨_, _, rfl⟩, (fun _ U H hK hH a r e => by cases e; exact zrecv (ci := 5) (by omega) hkd rfl U H hK hH), hm.2⟩
    · cases hp
  · cases h
def zP_Pieces_gather : List (List (Nat × zE)) := [[(0, e1 (.aload_n 0) 1 0), (1, ei (.iconst 0) 2 0 (0)), (2, e3 (.putfield 37) 5 6 5 0), (5, ei (.iconst 0) 6 0 (0)), (6, e1 (.istore_n 2) 7 2), (7, e1 (.iload_n 2) 8 2), (8, e1 (.aload_n 1) 9 1), (9, e3 (.getfield 41) 12 5 3 0), (12, e1 (.if_icmp .ge 36) 15 48), (15, e1 (.aload_n 1) 16 1)],
  [(16, e1 (.iload_n 2) 17 2), (17, e3 (.invokevirtual 46) 20 0 2 0), (20, e1 (.astore_n 3) 21 3), (21, e1 (.aload_n 3) 22 3), (22, e1 (.ifnull 20) 25 42), (25, e1 (.aload_n 1) 26 1), (26, e1 (.iload_n 2) 27 2), (27, e3 (.invokevirtual 50) 30 1 2 0), (30, e1 (.ifCond .eq 12) 33 42)],
  [(33, e1 (.aload_n 0) 34 0), (34, e1 (.iload_n 2) 35 2), (35, e1 (.aload_n 3) 36 3), (36, e3 (.getfield 53) 39 9 1 2), (39, e3 (.invokevirtual 59) 42 2 3 0), (42, ei (.iinc 2 1) 45 2 (1)), (45, e1 (.goto (-38)) 48 7)],
  [(48, ei (.iconst 0) 49 0 (0)), (49, e1 (.istore_n 2) 50 2), (50, e1 (.iload_n 2) 51 2), (51, ei (.bipush 8) 53 0 (8)), (53, e1 (.if_icmp .ge 31) 56 84), (56, e1 (.aload_n 1) 57 1), (57, e1 (.iload_n 2) 58 2), (58, e3 (.invokevirtual 63) 61 3 2 0), (61, e1 (.ifCond .ne 17) 64 78)],
  [(64, e1 (.aload_n 0) 65 0), (65, ei (.bipush 8) 67 0 (8)), (67, e1 (.iload_n 2) 68 2), (68, e0 (.iadd) 69), (69, e1 (.aload_n 0) 70 0), (70, e3 (.getfield 21) 73 6 2 2), (73, e1 (.iload_n 2) 74 2), (74, e3 (.aaload) 75 8 0 2), (75, e3 (.invokevirtual 59) 78 2 3 0), (78, ei (.iinc 2 1) 81 2 (1))],
  [(81, e1 (.goto (-31)) 84 50), (84, e0 (.return_) 85)]]
noncomputable def zE_Pieces_gather (α : Type) : Nat → zX α := fun i => bif Nat.beq i 0 then zA_vRI_N 5 f_Pass_ruleAt else bif Nat.beq i 1 then zA_vRI_I 5 f_Pass_serves else bif Nat.beq i 2 then zA_vRIR_V 6 f_Pieces_put else bif Nat.beq i 3 then zA_vRI_I 5 f_Pass_alwaysTakes else fun _ _ _ => none
def zc_Pieces_gather : Nat → Bool := fun pc => Nat.beq pc 7 || Nat.beq pc 48 || Nat.beq pc 50
def D_Pieces_gather_7 (k : Nat → Nat → Int32 → zM → Option zM) (lv : zV) (st : List Value) (S : zM) : Option zM := match lv, st with
  | [some (.ref a0), some (.ref a1), some (.int a2), _], [] => k a0 a1 a2 S
  | _, _ => none
theorem d_Pieces_gather_7 {g : zV → Nat → List Value → zM → Prop} (Hw : zWk g) {k : Nat → Nat → Int32 → zM → Option zM} {res : zM} {lv : zV} {st : List Value} {S : zM} (h : D_Pieces_gather_7 k lv st S = some res) (hk : ∀ a0 a1 a2 S, k a0 a1 a2 S = some res → g [some (.ref a0), some (.ref a1), some (.int a2), none] 7 [] S) : g lv 7 st S := by
  unfold D_Pieces_gather_7 at h
  split at h
  · exact Hw _ _ _ _ _ (by simp [zle]) (hk _ _ _ _  h)
  · cases h
def D_Pieces_gather_48 (k : Nat → Nat → zM → Option zM) (lv : zV) (st : List Value) (S : zM) : Option zM := match lv, st with
  | [some (.ref a0), some (.ref a1), _, _], [] => k a0 a1 S
  | _, _ => none
theorem d_Pieces_gather_48 {g : zV → Nat → List Value → zM → Prop} (Hw : zWk g) {k : Nat → Nat → zM → Option zM} {res : zM} {lv : zV} {st : List Value} {S : zM} (h : D_Pieces_gather_48 k lv st S = some res) (hk : ∀ a0 a1 S, k a0 a1 S = some res → g [some (.ref a0), some (.ref a1), none, none] 48 [] S) : g lv 48 st S := by
  unfold D_Pieces_gather_48 at h
  split at h
  · exact Hw _ _ _ _ _ (by simp [zle]) (hk _ _ _  h)
  · cases h
def D_Pieces_gather_50 (k : Nat → Nat → Int32 → zM → Option zM) (lv : zV) (st : List Value) (S : zM) : Option zM := match lv, st with
  | [some (.ref a0), some (.ref a1), some (.int a2), _], [] => k a0 a1 a2 S
  | _, _ => none
theorem d_Pieces_gather_50 {g : zV → Nat → List Value → zM → Prop} (Hw : zWk g) {k : Nat → Nat → Int32 → zM → Option zM} {res : zM} {lv : zV} {st : List Value} {S : zM} (h : D_Pieces_gather_50 k lv st S = some res) (hk : ∀ a0 a1 a2 S, k a0 a1 a2 S = some res → g [some (.ref a0), some (.ref a1), some (.int a2), none] 50 [] S) : g lv 50 st S := by
  unfold D_Pieces_gather_50 at h
  split at h
  · exact Hw _ _ _ _ _ (by simp [zle]) (hk _ _ _ _  h)
  · cases h
set_option maxRecDepth 100000 in
theorem r_Pieces_gather_50 (n : Nat) (a0 : Nat) (a1 : Nat) (a2 : Int32) (S : zM) : L_Pieces_gather_50 (n + 1) a0 a1 a2 S = zrt false zP_Pieces_gather (zE_Pieces_gather zM) zc_Pieces_gather zkV (fun pc lv st S => bif Nat.beq pc 50 then D_Pieces_gather_50 (L_Pieces_gather_50 n) lv st S else none) 1000 50 [some (.ref a0), some (.ref a1), some (.int a2), none] [] S := rfl
theorem g_Pieces_gather_50 {g : zV → Nat → List Value → zM → Prop} {res : zM} (H : zCl false zP_Pieces_gather (zE_Pieces_gather zM) zkV res g) (Hw : zWk g) (n : Nat) : ∀ (a0 : Nat) (a1 : Nat) (a2 : Int32) (S : zM), L_Pieces_gather_50 n a0 a1 a2 S = some res → g [some (.ref a0), some (.ref a1), some (.int a2), none] 50 [] S := by
  induction n with
  | zero => intro a0 a1 a2 S h; cases h
  | succ n ih =>
    intro a0 a1 a2 S h
    refine H zc_Pieces_gather _ 1000 _ _ _ _ ((r_Pieces_gather_50 n a0 a1 a2 S).symm.trans h) (fun pc lv st S hK => ?_)
    rcases zdis hK with ⟨rfl, hK⟩ | hK
    · exact d_Pieces_gather_50 Hw hK ih
    cases hK
set_option maxRecDepth 100000 in
theorem r_Pieces_gather_48 (k50 : Nat → Nat → Int32 → zM → Option zM) (a0 : Nat) (a1 : Nat) (S : zM) : F_Pieces_gather_48 k50 a0 a1 S = zrt false zP_Pieces_gather (zE_Pieces_gather zM) zc_Pieces_gather zkV (fun pc lv st S => bif Nat.beq pc 50 then D_Pieces_gather_50 k50 lv st S else none) 1000 48 [some (.ref a0), some (.ref a1), none, none] [] S := rfl
theorem g_Pieces_gather_48 {g : zV → Nat → List Value → zM → Prop} {res : zM} (H : zCl false zP_Pieces_gather (zE_Pieces_gather zM) zkV res g) (Hw : zWk g) {k50 : Nat → Nat → Int32 → zM → Option zM} (hk50 : ∀ a0 a1 a2 S, k50 a0 a1 a2 S = some res → g [some (.ref a0), some (.ref a1), some (.int a2), none] 50 [] S) (a0 : Nat) (a1 : Nat) (S : zM) (h : F_Pieces_gather_48 k50 a0 a1 S = some res) : g [some (.ref a0), some (.ref a1), none, none] 48 [] S := by
  refine H zc_Pieces_gather _ 1000 _ _ _ _ ((r_Pieces_gather_48 k50 a0 a1 S).symm.trans h) (fun pc lv st S hK => ?_)
  rcases zdis hK with ⟨rfl, hK⟩ | hK
  · exact d_Pieces_gather_50 Hw hK hk50
  cases hK
set_option maxRecDepth 100000 in
theorem r_Pieces_gather_7 (k48 : Nat → Nat → zM → Option zM) (n : Nat) (a0 : Nat) (a1 : Nat) (a2 : Int32) (S : zM) : L_Pieces_gather_7 k48 (n + 1) a0 a1 a2 S = zrt false zP_Pieces_gather (zE_Pieces_gather zM) zc_Pieces_gather zkV (fun pc lv st S => bif Nat.beq pc 7 then D_Pieces_gather_7 (L_Pieces_gather_7 k48 n) lv st S else bif Nat.beq pc 48 then D_Pieces_gather_48 k48 lv st S else none) 1000 7 [some (.ref a0), some (.ref a1), some (.int a2), none] [] S := rfl
theorem g_Pieces_gather_7 {g : zV → Nat → List Value → zM → Prop} {res : zM} (H : zCl false zP_Pieces_gather (zE_Pieces_gather zM) zkV res g) (Hw : zWk g) {k48 : Nat → Nat → zM → Option zM} (hk48 : ∀ a0 a1 S, k48 a0 a1 S = some res → g [some (.ref a0), some (.ref a1), none, none] 48 [] S) (n : Nat) : ∀ (a0 : Nat) (a1 : Nat) (a2 : Int32) (S : zM), L_Pieces_gather_7 k48 n a0 a1 a2 S = some res → g [some (.ref a0), some (.ref a1), some (.int a2), none] 7 [] S := by
  induction n with
  | zero => intro a0 a1 a2 S h; cases h
  | succ n ih =>
    intro a0 a1 a2 S h
    refine H zc_Pieces_gather _ 1000 _ _ _ _ ((r_Pieces_gather_7 k48 n a0 a1 a2 S).symm.trans h) (fun pc lv st S hK => ?_)
    rcases zdis hK with ⟨rfl, hK⟩ | hK
    · exact d_Pieces_gather_7 Hw hK ih
    rcases zdis hK with ⟨rfl, hK⟩ | hK
    · exact d_Pieces_gather_48 Hw hK hk48
    cases hK
set_option maxRecDepth 100000 in
theorem r_Pieces_gather (a0 : Nat) (a1 : Nat) (S : zM) : f_Pieces_gather a0 a1 S = zrt false zP_Pieces_gather (zE_Pieces_gather zM) zc_Pieces_gather zkV (fun pc lv st S => bif Nat.beq pc 7 then D_Pieces_gather_7 (L_Pieces_gather_7 (F_Pieces_gather_48 (L_Pieces_gather_50 zF)) zF) lv st S else none) 1000 0 [some (.ref a0), some (.ref a1), none, none] [] S := rfl
theorem G_Pieces_gather {g : zV → Nat → List Value → zM → Prop} {res : zM} (H : zCl false zP_Pieces_gather (zE_Pieces_gather zM) zkV res g) (Hw : zWk g) (a0 : Nat) (a1 : Nat) (S : zM) (h : f_Pieces_gather a0 a1 S = some res) : g [some (.ref a0), some (.ref a1), none, none] 0 [] S := by
  refine H zc_Pieces_gather _ 1000 _ _ _ _ ((r_Pieces_gather a0 a1 S).symm.trans h) (fun pc lv st S hK => ?_)
  rcases zdis hK with ⟨rfl, hK⟩ | hK
  · exact d_Pieces_gather_7 Hw hK (g_Pieces_gather_7 H Hw (g_Pieces_gather_48 H Hw (g_Pieces_gather_50 H Hw  zF)) zF)
  cases hK
set_option maxRecDepth 100000 in
theorem ok_Pieces_gather : zokT 6 [47, 103, 123, 124] false 4 84 4 false none cX6_gather zP_Pieces_gather = true := by decide +kernel
set_option maxRecDepth 100000 in
theorem s_Pieces_gather {l : Launch} {HB : Heap} {b L : Nat} {xs : Nat → Int32} {aK aV : Nat → Nat} {G : va_G} {tc : Nat → ClassId} (h0 : zSnd l HB b L xs aK aV G tc (zMT.getD 47 zyD) (fun α => zA_vRI_N 5 f_Pass_ruleAt)) (h1 : zSnd l HB b L xs aK aV G tc (zMT.getD 103 zyD) (fun α => zA_vRI_I 5 f_Pass_serves)) (h2 : zSnd l HB b L xs aK aV G tc (zMT.getD 123 zyD) (fun α => zA_vRIR_V 6 f_Pieces_put)) (h3 : zSnd l HB b L xs aK aV G tc (zMT.getD 124 zyD) (fun α => zA_vRI_I 5 f_Pass_alwaysTakes)) : zSnd l HB b L xs aK aV G tc (zMT.getD 125 zyD) (fun α => zA_vRR_V 6 f_Pieces_gather) := by
  rw [show zMT.getD 125 zyD = (yX6_gather, cX6_gather, 4, none, 0, 2, 4, 84) from rfl]
  intro α as S k res h
  unfold zA_vRR_V at h
  dsimp only at h
  split at h
  · rename_i a0 a1
    obtain ⟨p, hp, h⟩ := zbind h
    unfold zcl at hp
    split at hp
    · rename_i hkd
      have hm := zmeth (l := l) (HB := HB) (b := b) (L := L) (xs := xs) (aK := aK) (aV := aV) (G := G) (tc := tc) (q := (yX6_gather, cX6_gather, 4, none, 0, 2, 4, 84)) (o := 6) (cs := [47, 103, 123, 124]) (rz := false) (T := zP_Pieces_gather) (E := zE_Pieces_gather zM) (kr := zkV) (res := p) (v0 := none) (S0 := p) (as := [.ref a0, .ref a1]) (S := S) zMT_fine (by decide +kernel) (fun i as S k' h => by
        unfold zE_Pieces_gather at h
        rcases zdisf h with ⟨rfl, h⟩ | h
        · exact h0 _ _ _ _ _ h
        rcases zdisf h with ⟨rfl, h⟩ | h
        · exact h1 _ _ _ _ _ h
        rcases zdisf h with ⟨rfl, h⟩ | h
        · exact h2 _ _ _ _ _ h
        rcases zdisf h with ⟨rfl, h⟩ | h
        · exact h3 _ _ _ _ _ h
        cases h) ok_Pieces_gather rfl (fun v S' h => zkV_inv h) (Nat.le_of_ble_eq_true rfl) (fun g H Hw => Hw _ [some (.ref a0), some (.ref a1), none, none] _ _ _ ⟨rfl, rfl, trivial⟩ (G_Pieces_gather H Hw a0 a1 S hp))
      exact ⟨_, _, h, hm.1, rfl, fun _ => ⟨_, _, rfl⟩, (fun _ U H hK hH a r e => by cases e; exact zrecv (ci := 6) (by omega) hkd rfl U H hK hH), hm.2⟩
    · cases hp
  · cases h
def zP_Cl_gatherPieces : List (List (Nat × zE)) := [[(0, e1 (.aload_n 0) 1 0), (1, e3 (.getfield 65) 4 11 10 2), (4, e1 (.iload_n 1) 5 1), (5, e3 (.invokevirtual 132) 8 0 2 0), (8, e1 (.astore_n 2) 9 2), (9, e1 (.aload_n 2) 10 2), (10, e1 (.ifnonnull 5) 13 15), (13, ei (.iconst 0) 14 0 (0)), (14, e0 (.ireturn) 15), (15, e1 (.aload_n 0) 16 0)],
  [(16, e3 (.getfield 51) 19 11 8 2), (19, e1 (.aload_n 2) 20 2), (20, e3 (.invokevirtual 222) 23 1 2 0), (23, ei (.iconst 1) 24 0 (1)), (24, e0 (.ireturn) 25)]]
noncomputable def zE_Cl_gatherPieces (α : Type) : Nat → zX α := fun i => bif Nat.beq i 0 then zA_vRI_N 10 f_Script_passAt else bif Nat.beq i 1 then zA_vRR_V 6 f_Pieces_gather else fun _ _ _ => none
def zc_Cl_gatherPieces : Nat → Bool := fun pc => false
set_option maxRecDepth 100000 in
theorem r_Cl_gatherPieces (a0 : Nat) (a1 : Int32) (S : zM) : f_Cl_gatherPieces a0 a1 S = zrt true zP_Cl_gatherPieces (zE_Cl_gatherPieces (Int32 × zM)) zc_Cl_gatherPieces zkI (fun pc lv st S => none) 1000 0 [some (.ref a0), some (.int a1), none] [] S := rfl
theorem G_Cl_gatherPieces {g : zV → Nat → List Value → zM → Prop} {res : (Int32 × zM)} (H : zCl true zP_Cl_gatherPieces (zE_Cl_gatherPieces (Int32 × zM)) zkI res g) (Hw : zWk g) (a0 : Nat) (a1 : Int32) (S : zM) (h : f_Cl_gatherPieces a0 a1 S = some res) : g [some (.ref a0), some (.int a1), none] 0 [] S := by
  refine H zc_Cl_gatherPieces _ 1000 _ _ _ _ ((r_Cl_gatherPieces a0 a1 S).symm.trans h) (fun pc lv st S hK => ?_)
  cases hK
set_option maxRecDepth 100000 in
theorem ok_Cl_gatherPieces : zokT 11 [44, 125] false 5 107 3 true (some .boolean) cX11_gatherPieces zP_Cl_gatherPieces = true := by decide +kernel
set_option maxRecDepth 100000 in
theorem s_Cl_gatherPieces {l : Launch} {HB : Heap} {b L : Nat} {xs : Nat → Int32} {aK aV : Nat → Nat} {G : va_G} {tc : Nat → ClassId} (h0 : zSnd l HB b L xs aK aV G tc (zMT.getD 44 zyD) (fun α => zA_vRI_N 10 f_Script_passAt)) (h1 : zSnd l HB b L xs aK aV G tc (zMT.getD 125 zyD) (fun α => zA_vRR_V 6 f_Pieces_gather)) : zSnd l HB b L xs aK aV G tc (zMT.getD 126 zyD) (fun α => zA_vRI_I 11 f_Cl_gatherPieces) := by
  rw [show zMT.getD 126 zyD = (yX11_gatherPieces, cX11_gatherPieces, 3, (some .boolean), 0, 2, 5, 107) from rfl]
  intro α as S k res h
  unfold zA_vRI_I at h
  dsimp only at h
  split at h
  · rename_i a0 a1
    obtain ⟨p, hp, h⟩ := zbind h
    unfold zcl at hp
    split at hp
    · rename_i hkd
      have hm := zmeth (l := l) (HB := HB) (b := b) (L := L) (xs := xs) (aK := aK) (aV := aV) (G := G) (tc := tc) (q := (yX11_gatherPieces, cX11_gatherPieces, 3, (some .boolean), 0, 2, 5, 107)) (o := 11) (cs := [44, 125]) (rz := true) (T := zP_Cl_gatherPieces) (E := zE_Cl_gatherPieces (Int32 × zM)) (kr := zkI) (res := p) (v0 := some (.int p.1)) (S0 := p.2) (as := [.ref a0, .int a1]) (S := S) zMT_fine (by decide +kernel) (fun i as S k' h => by
        unfold zE_Cl_gatherPieces at h
        rcases zdisf h with ⟨rfl, h⟩ | h
        · exact h0 _ _ _ _ _ h
        rcases zdisf h with ⟨rfl, h⟩ | h
        · exact h1 _ _ _ _ _ h
        cases h) ok_Cl_gatherPieces rfl (fun v S' h => zkI_inv h) (Nat.le_of_ble_eq_true rfl) (fun g H Hw => Hw _ [some (.ref a0), some (.int a1), none] _ _ _ ⟨rfl, rfl, trivial⟩ (G_Cl_gatherPieces H Hw a0 a1 S hp))
      exact ⟨_, _, h, hm.1, rfl, fun _ => ⟨_, _, rfl⟩, (fun _ U H hK hH a r e => by cases e; exact zrecv (ci := 11) (by omega) hkd rfl U H hK hH), hm.2⟩
    · cases hp
  · cases h
def zP_Cl_pieces : List (List (Nat × zE)) := [[(0, e1 (.aload_n 0) 1 0), (1, e1 (.iload_n 1) 2 1), (2, e3 (.invokevirtual 199) 5 0 2 0), (5, e1 (.ifCond .eq 17) 8 22), (8, e1 (.aload_n 0) 9 0), (9, e1 (.aload_n 0) 10 0), (10, e3 (.getfield 51) 13 11 8 2), (13, e3 (.getfield 202) 16 6 5 0)],
  [(16, e3 (.invokevirtual 109) 19 1 2 0), (19, e1 (.goto 8) 22 27), (22, e1 (.aload_n 0) 23 0), (23, ei (.iconst 1) 24 0 (1)), (24, e3 (.invokevirtual 79) 27 2 2 0), (27, e0 (.ireturn) 28)]]
noncomputable def zE_Cl_pieces (α : Type) : Nat → zX α := fun i => bif Nat.beq i 0 then zA_vRI_I 11 f_Cl_gatherPieces else bif Nat.beq i 1 then zA_vRI_I 11 f_Cl_answer else bif Nat.beq i 2 then zA_vRI_I 11 f_Cl_refuse else fun _ _ _ => none
def zc_Cl_pieces : Nat → Bool := fun pc => false
set_option maxRecDepth 100000 in
theorem r_Cl_pieces (a0 : Nat) (a1 : Int32) (S : zM) : f_Cl_pieces a0 a1 S = zrt false zP_Cl_pieces (zE_Cl_pieces (Int32 × zM)) zc_Cl_pieces zkI (fun pc lv st S => none) 1000 0 [some (.ref a0), some (.int a1)] [] S := rfl
theorem G_Cl_pieces {g : zV → Nat → List Value → zM → Prop} {res : (Int32 × zM)} (H : zCl false zP_Cl_pieces (zE_Cl_pieces (Int32 × zM)) zkI res g) (Hw : zWk g) (a0 : Nat) (a1 : Int32) (S : zM) (h : f_Cl_pieces a0 a1 S = some res) : g [some (.ref a0), some (.int a1)] 0 [] S := by
  refine H zc_Cl_pieces _ 1000 _ _ _ _ ((r_Cl_pieces a0 a1 S).symm.trans h) (fun pc lv st S hK => ?_)
  cases hK
set_option maxRecDepth 100000 in
theorem ok_Cl_pieces : zokT 11 [126, 59, 16] false 6 129 2 false (some .int) cX11_pieces zP_Cl_pieces = true := by decide +kernel
set_option maxRecDepth 100000 in
theorem s_Cl_pieces {l : Launch} {HB : Heap} {b L : Nat} {xs : Nat → Int32} {aK aV : Nat → Nat} {G : va_G} {tc : Nat → ClassId} (h0 : zSnd l HB b L xs aK aV G tc (zMT.getD 126 zyD) (fun α => zA_vRI_I 11 f_Cl_gatherPieces)) (h1 : zSnd l HB b L xs aK aV G tc (zMT.getD 59 zyD) (fun α => zA_vRI_I 11 f_Cl_answer)) (h2 : zSnd l HB b L xs aK aV G tc (zMT.getD 16 zyD) (fun α => zA_vRI_I 11 f_Cl_refuse)) : zSnd l HB b L xs aK aV G tc (zMT.getD 127 zyD) (fun α => zA_vRI_I 11 f_Cl_pieces) := by
  rw [show zMT.getD 127 zyD = (yX11_pieces, cX11_pieces, 2, (some .int), 0, 2, 6, 129) from rfl]
  intro α as S k res h
  unfold zA_vRI_I at h
  dsimp only at h
  split at h
  · rename_i a0 a1
    obtain ⟨p, hp, h⟩ := zbind h
    unfold zcl at hp
    split at hp
    · rename_i hkd
      have hm := zmeth (l := l) (HB := HB) (b := b) (L := L) (xs := xs) (aK := aK) (aV := aV) (G := G) (tc := tc) (q := (yX11_pieces, cX11_pieces, 2, (some .int), 0, 2, 6, 129)) (o := 11) (cs := [126, 59, 16]) (rz := false) (T := zP_Cl_pieces) (E := zE_Cl_pieces (Int32 × zM)) (kr := zkI) (res := p) (v0 := some (.int p.1)) (S0 := p.2) (as := [.ref a0, .int a1]) (S := S) zMT_fine (by decide +kernel) (fun i as S k' h => by
        unfold zE_Cl_pieces at h
        rcases zdisf h with ⟨rfl, h⟩ | h
        · exact h0 _ _ _ _ _ h
        rcases zdisf h with ⟨rfl, h⟩ | h
        · exact h1 _ _ _ _ _ h
        rcases zdisf h with ⟨rfl, h⟩ | h
        · exact h2 _ _ _ _ _ h
        cases h) ok_Cl_pieces rfl (fun v S' h => zkI_inv h) (Nat.le_of_ble_eq_true rfl) (fun g H Hw => Hw _ [some (.ref a0), some (.int a1)] _ _ _ ⟨rfl, rfl, trivial⟩ (G_Cl_pieces H Hw a0 a1 S hp))
      exact ⟨_, _, h, hm.1, rfl, fun _ => ⟨_, _, rfl⟩, (fun _ U H hK hH a r e => by cases e; exact zrecv (ci := 11) (by omega) hkd rfl U H hK hH), hm.2⟩
    · cases hp
  · cases h
def zP_Mo_isTurned : List (List (Nat × zE)) := [[(0, ei (.iconst 0) 1 0 (0)), (1, e1 (.istore_n 3) 2 3), (2, e1 (.iload_n 3) 3 3), (3, e1 (.aload_n 0) 4 0), (4, e3 (.getfield 20) 7 12 11 2), (7, e1 (.iload_n 1) 8 1), (8, e0 (.iaload) 9), (9, e1 (.if_icmp .ge 88) 12 97), (12, e1 (.iload_n 1) 13 1), (13, e1 (.iload_n 3) 14 3), (14, e3 (.invokestatic 319) 17 0 2 0)],
  [(17, e1 (.istore 4) 19 4), (19, e1 (.aload_n 0) 20 0), (20, e3 (.getfield 67) 23 12 39 2), (23, ei (.bipush 8) 25 0 (8)), (25, e1 (.iload_n 1) 26 1), (26, e0 (.imul) 27), (27, e1 (.iload_n 3) 28 3), (28, e0 (.iadd) 29), (29, e0 (.baload) 30), (30, e1 (.ifCond .ne 61) 33 91)],
  [(33, e1 (.aload_n 0) 34 0), (34, e3 (.getfield 27) 37 12 13 2), (37, e1 (.iload 4) 39 4), (39, ei (.iconst 0) 40 0 (0)), (40, e0 (.iadd) 41), (41, e0 (.iaload) 42), (42, ei (.iconst 1) 43 0 (1)), (43, e1 (.if_icmp .ne 48) 46 91), (46, e1 (.aload_n 0) 47 0), (47, e3 (.getfield 27) 50 12 13 2)],
  [(50, e1 (.iload 4) 52 4), (52, ei (.iconst 4) 53 0 (4)), (53, e0 (.iadd) 54), (54, e0 (.iaload) 55), (55, e1 (.iload_n 2) 56 2), (56, e1 (.if_icmp .ne 35) 59 91), (59, e1 (.aload_n 0) 60 0), (60, e3 (.getfield 27) 63 12 13 2), (63, e1 (.iload 4) 65 4)],
  [(65, ei (.iconst 2) 66 0 (2)), (66, e0 (.iadd) 67), (67, e0 (.iaload) 68), (68, ei (.sipush 511) 71 0 (511)), (71, e1 (.if_icmp .ne 20) 74 91), (74, e1 (.aload_n 0) 75 0), (75, e3 (.getfield 27) 78 12 13 2), (78, e1 (.iload 4) 80 4)],
  [(80, ei (.iconst 3) 81 0 (3)), (81, e0 (.iadd) 82), (82, e0 (.iaload) 83), (83, ei (.sipush 511) 86 0 (511)), (86, e1 (.if_icmp .ne 5) 89 91), (89, ei (.iconst 1) 90 0 (1)), (90, e0 (.ireturn) 91), (91, ei (.iinc 3 1) 94 3 (1)), (94, e1 (.goto (-92)) 97 2)],
  [(97, ei (.iconst 0) 98 0 (0)), (98, e0 (.ireturn) 99)]]
noncomputable def zE_Mo_isTurned (α : Type) : Nat → zX α := fun i => bif Nat.beq i 0 then zA_II_I f_Mo_rowOf else fun _ _ _ => none
def zc_Mo_isTurned : Nat → Bool := fun pc => Nat.beq pc 2
def D_Mo_isTurned_2 (k : Nat → Int32 → Int32 → Int32 → zM → Option (Int32 × zM)) (lv : zV) (st : List Value) (S : zM) : Option (Int32 × zM) := match lv, st with
  | [some (.ref a0), some (.int a1), some (.int a2), some (.int a3), _], [] => k a0 a1 a2 a3 S
  | _, _ => none
theorem d_Mo_isTurned_2 {g : zV → Nat → List Value → zM → Prop} (Hw : zWk g) {k : Nat → Int32 → Int32 → Int32 → zM → Option (Int32 × zM)} {res : (Int32 × zM)} {lv : zV} {st : List Value} {S : zM} (h : D_Mo_isTurned_2 k lv st S = some res) (hk : ∀ a0 a1 a2 a3 S, k a0 a1 a2 a3 S = some res → g [some (.ref a0), some (.int a1), some (.int a2), some (.int a3), none] 2 [] S) : g lv 2 st S := by
  unfold D_Mo_isTurned_2 at h
  split at h
  · exact Hw _ _ _ _ _ (by simp [zle]) (hk _ _ _ _ _  h)
  · cases h
set_option maxRecDepth 100000 in
theorem r_Mo_isTurned_2 (n : Nat) (a0 : Nat) (a1 : Int32) (a2 : Int32) (a3 : Int32) (S : zM) : L_Mo_isTurned_2 (n + 1) a0 a1 a2 a3 S = zrt true zP_Mo_isTurned (zE_Mo_isTurned (Int32 × zM)) zc_Mo_isTurned zkI (fun pc lv st S => bif Nat.beq pc 2 then D_Mo_isTurned_2 (L_Mo_isTurned_2 n) lv st S else none) 1000 2 [some (.ref a0), some (.int a1), some (.int a2), some (.int a3), none] [] S := rfl
theorem g_Mo_isTurned_2 {g : zV → Nat → List Value → zM → Prop} {res : (Int32 × zM)} (H : zCl true zP_Mo_isTurned (zE_Mo_isTurned (Int32 × zM)) zkI res g) (Hw : zWk g) (n : Nat) : ∀ (a0 : Nat) (a1 : Int32) (a2 : Int32) (a3 : Int32) (S : zM), L_Mo_isTurned_2 n a0 a1 a2 a3 S = some res → g [some (.ref a0), some (.int a1), some (.int a2), some (.int a3), none] 2 [] S := by
  induction n with
  | zero => intro a0 a1 a2 a3 S h; cases h
  | succ n ih =>
    intro a0 a1 a2 a3 S h
    refine H zc_Mo_isTurned _ 1000 _ _ _ _ ((r_Mo_isTurned_2 n a0 a1 a2 a3 S).symm.trans h) (fun pc lv st S hK => ?_)
    rcases zdis hK with ⟨rfl, hK⟩ | hK
    · exact d_Mo_isTurned_2 Hw hK ih
    cases hK
set_option maxRecDepth 100000 in
theorem r_Mo_isTurned (a0 : Nat) (a1 : Int32) (a2 : Int32) (S : zM) : f_Mo_isTurned a0 a1 a2 S = zrt true zP_Mo_isTurned (zE_Mo_isTurned (Int32 × zM)) zc_Mo_isTurned zkI (fun pc lv st S => bif Nat.beq pc 2 then D_Mo_isTurned_2 (L_Mo_isTurned_2 zF) lv st S else none) 1000 0 [some (.ref a0), some (.int a1), some (.int a2), none, none] [] S := rfl
theorem G_Mo_isTurned {g : zV → Nat → List Value → zM → Prop} {res : (Int32 × zM)} (H : zCl true zP_Mo_isTurned (zE_Mo_isTurned (Int32 × zM)) zkI res g) (Hw : zWk g) (a0 : Nat) (a1 : Int32) (a2 : Int32) (S : zM) (h : f_Mo_isTurned a0 a1 a2 S = some res) : g [some (.ref a0), some (.int a1), some (.int a2), none, none] 0 [] S := by
  refine H zc_Mo_isTurned _ 1000 _ _ _ _ ((r_Mo_isTurned a0 a1 a2 S).symm.trans h) (fun pc lv st S hK => ?_)
  rcases zdis hK with ⟨rfl, hK⟩ | hK
  · exact d_Mo_isTurned_2 Hw hK (g_Mo_isTurned_2 H Hw  zF)
  cases hK
set_option maxRecDepth 100000 in
theorem ok_Mo_isTurned : zokT 12 [95] false 1 21 5 true (some .boolean) cX12_isTurned zP_Mo_isTurned = true := by decide +kernel
set_option maxRecDepth 100000 in
theorem s_Mo_isTurned {l : Launch} {HB : Heap} {b L : Nat} {xs : Nat → Int32} {aK aV : Nat → Nat} {G : va_G} {tc : Nat → ClassId} (h0 : zSnd l HB b L xs aK aV G tc (zMT.getD 95 zyD) (fun α => zA_II_I f_Mo_rowOf)) : zSnd l HB b L xs aK aV G tc (zMT.getD 128 zyD) (fun α => zA_vRII_I 12 f_Mo_isTurned) := by
  rw [show zMT.getD 128 zyD = (yX12_isTurned, cX12_isTurned, 5, (some .boolean), 0, 3, 1, 21) from rfl]
  intro α as S k res h
  unfold zA_vRII_I at h
  dsimp only at h
  split at h
  · rename_i a0 a1 a2
    obtain ⟨p, hp, h⟩ := zbind h
    unfold zcl at hp
    split at hp
    · rename_i hkd
      have hm := zmeth (l := l) (HB := HB) (b := b) (L := L) (xs := xs) (aK := aK) (aV := aV) (G := G) (tc := tc) (q := (yX12_isTurned, cX12_isTurned, 5, (some .boolean), 0, 3, 1, 21)) (o := 12) (cs := [95]) (rz := true) (T := zP_Mo_isTurned) (E := zE_Mo_isTurned (Int32 × zM)) (kr := zkI) (res := p) (v0 := some (.int p.1)) (S0 := p.2) (as := [.ref a0, .int a1, .int a2]) (S := S) zMT_fine (by decide +kernel) (fun i as S k' h => by
        unfold zE_Mo_isTurned at h
        rcases zdisf h with ⟨rfl, h⟩ | h
        · exact h0 _ _ _ _ _ h
        cases h) ok_Mo_isTurned rfl (fun v S' h => zkI_inv h) (Nat.le_of_ble_eq_true rfl) (fun g H Hw => Hw _ [some (.ref a0), some (.int a1), some (.int a2), none, none] _ _ _ ⟨rfl, rfl, rfl, trivial⟩ (G_Mo_isTurned H Hw a0 a1 a2 S hp))
      exact ⟨_, _, h, hm.1, rfl, fun _ => ⟨_, _, rfl⟩, (fun _ U H hK hH a r e => by cases e; exact zrecv (ci := 12) (by omega) hkd rfl U H hK hH), hm.2⟩
    · cases hp
  · cases h
def zP_Mo_laysPieces : List (List (Nat × zE)) := [[(0, e1 (.aload_n 0) 1 0), (1, ei (.iconst 0) 2 0 (0)), (2, e3 (.putfield 332) 5 12 35 0), (5, ei (.iconst 0) 6 0 (0)), (6, e1 (.istore_n 2) 7 2), (7, e1 (.iload_n 2) 8 2), (8, e1 (.aload_n 0) 9 0), (9, e3 (.getfield 20) 12 12 11 2), (12, e1 (.iload_n 1) 13 1), (13, e0 (.iaload) 14), (14, e1 (.if_icmp .ge 105) 17 119)],
  [(17, e1 (.aload_n 0) 18 0), (18, e3 (.getfield 67) 21 12 39 2), (21, ei (.bipush 8) 23 0 (8)), (23, e1 (.iload_n 1) 24 1), (24, e0 (.imul) 25), (25, e1 (.iload_n 2) 26 2), (26, e0 (.iadd) 27), (27, e0 (.baload) 28), (28, e1 (.ifCond .ne 85) 31 113), (31, e1 (.aload_n 0) 32 0)],
  [(32, e3 (.getfield 49) 35 12 32 2), (35, e1 (.aload_n 0) 36 0), (36, e3 (.getfield 332) 39 12 35 0), (39, e1 (.iload_n 2) 40 2), (40, e0 (.iastore) 41), (41, e1 (.aload_n 0) 42 0), (42, e3 (.getfield 52) 45 12 33 2), (45, e1 (.aload_n 0) 46 0), (46, e3 (.getfield 332) 49 12 35 0)],
  [(49, e1 (.aload_n 0) 50 0), (50, e3 (.getfield 27) 53 12 13 2), (53, e1 (.iload_n 1) 54 1), (54, e1 (.iload_n 2) 55 2), (55, e3 (.invokestatic 319) 58 0 2 0), (58, ei (.iconst 1) 59 0 (1)), (59, e0 (.iadd) 60), (60, e0 (.iaload) 61), (61, e0 (.iastore) 62), (62, ei (.iconst 0) 63 0 (0)), (63, e1 (.istore_n 3) 64 3)],
  [(64, e1 (.iload_n 3) 65 3), (65, ei (.iconst 4) 66 0 (4)), (66, e1 (.if_icmp .ge 37) 69 103), (69, e1 (.aload_n 0) 70 0), (70, e3 (.getfield 55) 73 12 34 2), (73, ei (.iconst 4) 74 0 (4)), (74, e1 (.aload_n 0) 75 0), (75, e3 (.getfield 332) 78 12 35 0), (78, e0 (.imul) 79), (79, e1 (.iload_n 3) 80 3)],
  [(80, e0 (.iadd) 81), (81, e1 (.aload_n 0) 82 0), (82, e3 (.getfield 27) 85 12 13 2), (85, e1 (.iload_n 1) 86 1), (86, e1 (.iload_n 2) 87 2), (87, e3 (.invokestatic 319) 90 0 2 0), (90, ei (.bipush 7) 92 0 (7)), (92, e0 (.iadd) 93), (93, e1 (.iload_n 3) 94 3), (94, e0 (.iadd) 95), (95, e0 (.iaload) 96)],
  [(96, e0 (.iastore) 97), (97, ei (.iinc 3 1) 100 3 (1)), (100, e1 (.goto (-36)) 103 64), (103, e1 (.aload_n 0) 104 0), (104, e0 (.dup) 105), (105, e3 (.getfield 332) 108 12 35 0), (108, ei (.iconst 1) 109 0 (1)), (109, e0 (.iadd) 110), (110, e3 (.putfield 332) 113 12 35 0)],
  [(113, ei (.iinc 2 1) 116 2 (1)), (116, e1 (.goto (-109)) 119 7), (119, ei (.iconst 0) 120 0 (0)), (120, e1 (.istore_n 2) 121 2), (121, e1 (.iload_n 2) 122 2), (122, ei (.bipush 8) 124 0 (8)), (124, e1 (.if_icmp .ge 63) 127 187), (127, e1 (.aload_n 0) 128 0)],
  [(128, e1 (.iload_n 1) 129 1), (129, e1 (.iload_n 2) 130 2), (130, e3 (.invokevirtual 335) 133 1 3 0), (133, e1 (.ifCond .ne 48) 136 181), (136, e1 (.aload_n 0) 137 0), (137, e3 (.getfield 49) 140 12 32 2), (140, e1 (.aload_n 0) 141 0), (141, e3 (.getfield 332) 144 12 35 0)],
  [(144, ei (.bipush 8) 146 0 (8)), (146, e1 (.iload_n 2) 147 2), (147, e0 (.iadd) 148), (148, e0 (.iastore) 149), (149, e1 (.aload_n 0) 150 0), (150, e3 (.getfield 52) 153 12 33 2), (153, e1 (.aload_n 0) 154 0), (154, e3 (.getfield 332) 157 12 35 0), (157, ei (.iconst 1) 158 0 (1)), (158, e0 (.iastore) 159), (159, e1 (.aload_n 0) 160 0)],
  [(160, e3 (.getfield 55) 163 12 34 2), (163, ei (.iconst 4) 164 0 (4)), (164, e1 (.aload_n 0) 165 0), (165, e3 (.getfield 332) 168 12 35 0), (168, e0 (.imul) 169), (169, e1 (.iload_n 2) 170 2), (170, e0 (.iastore) 171), (171, e1 (.aload_n 0) 172 0), (172, e0 (.dup) 173), (173, e3 (.getfield 332) 176 12 35 0)],
  [(176, ei (.iconst 1) 177 0 (1)), (177, e0 (.iadd) 178), (178, e3 (.putfield 332) 181 12 35 0), (181, ei (.iinc 2 1) 184 2 (1)), (184, e1 (.goto (-63)) 187 121), (187, e0 (.return_) 188)]]
noncomputable def zE_Mo_laysPieces (α : Type) : Nat → zX α := fun i => bif Nat.beq i 0 then zA_II_I f_Mo_rowOf else bif Nat.beq i 1 then zA_vRII_I 12 f_Mo_isTurned else fun _ _ _ => none
def zc_Mo_laysPieces : Nat → Bool := fun pc => Nat.beq pc 7 || Nat.beq pc 64 || Nat.beq pc 103 || Nat.beq pc 119 || Nat.beq pc 121
def D_Mo_laysPieces_7 (k : Nat → Int32 → Int32 → zM → Option zM) (lv : zV) (st : List Value) (S : zM) : Option zM := match lv, st with
  | [some (.ref a0), some (.int a1), some (.int a2), _], [] => k a0 a1 a2 S
  | _, _ => none
theorem d_Mo_laysPieces_7 {g : zV → Nat → List Value → zM → Prop} (Hw : zWk g) {k : Nat → Int32 → Int32 → zM → Option zM} {res : zM} {lv : zV} {st : List Value} {S : zM} (h : D_Mo_laysPieces_7 k lv st S = some res) (hk : ∀ a0 a1 a2 S, k a0 a1 a2 S = some res → g [some (.ref a0), some (.int a1), some (.int a2), none] 7 [] S) : g lv 7 st S := by
  unfold D_Mo_laysPieces_7 at h
  split at h
  · exact Hw _ _ _ _ _ (by simp [zle]) (hk _ _ _ _  h)
  · cases h
def D_Mo_laysPieces_64 (k : Nat → Int32 → Int32 → Int32 → zM → Option zM) (lv : zV) (st : List Value) (S : zM) : Option zM := match lv, st with
  | [some (.ref a0), some (.int a1), some (.int a2), some (.int a3)], [] => k a0 a1 a2 a3 S
  | _, _ => none
theorem d_Mo_laysPieces_64 {g : zV → Nat → List Value → zM → Prop} (Hw : zWk g) {k : Nat → Int32 → Int32 → Int32 → zM → Option zM} {res : zM} {lv : zV} {st : List Value} {S : zM} (h : D_Mo_laysPieces_64 k lv st S = some res) (hk : ∀ a0 a1 a2 a3 S, k a0 a1 a2 a3 S = some res → g [some (.ref a0), some (.int a1), some (.int a2), some (.int a3)] 64 [] S) : g lv 64 st S := by
  unfold D_Mo_laysPieces_64 at h
  split at h
  · exact Hw _ _ _ _ _ (by simp [zle]) (hk _ _ _ _ _  h)
  · cases h
def D_Mo_laysPieces_103 (k : Nat → Int32 → Int32 → zM → Option zM) (lv : zV) (st : List Value) (S : zM) : Option zM := match lv, st with
  | [some (.ref a0), some (.int a1), some (.int a2), _], [] => k a0 a1 a2 S
  | _, _ => none
theorem d_Mo_laysPieces_103 {g : zV → Nat → List Value → zM → Prop} (Hw : zWk g) {k : Nat → Int32 → Int32 → zM → Option zM} {res : zM} {lv : zV} {st : List Value} {S : zM} (h : D_Mo_laysPieces_103 k lv st S = some res) (hk : ∀ a0 a1 a2 S, k a0 a1 a2 S = some res → g [some (.ref a0), some (.int a1), some (.int a2), none] 103 [] S) : g lv 103 st S := by
  unfold D_Mo_laysPieces_103 at h
  split at h
  · exact Hw _ _ _ _ _ (by simp [zle]) (hk _ _ _ _  h)
  · cases h
def D_Mo_laysPieces_119 (k : Nat → Int32 → zM → Option zM) (lv : zV) (st : List Value) (S : zM) : Option zM := match lv, st with
  | [some (.ref a0), some (.int a1), _, _], [] => k a0 a1 S
  | _, _ => none
theorem d_Mo_laysPieces_119 {g : zV → Nat → List Value → zM → Prop} (Hw : zWk g) {k : Nat → Int32 → zM → Option zM} {res : zM} {lv : zV} {st : List Value} {S : zM} (h : D_Mo_laysPieces_119 k lv st S = some res) (hk : ∀ a0 a1 S, k a0 a1 S = some res → g [some (.ref a0), some (.int a1), none, none] 119 [] S) : g lv 119 st S := by
  unfold D_Mo_laysPieces_119 at h
  split at h
  · exact Hw _ _ _ _ _ (by simp [zle]) (hk _ _ _  h)
  · cases h
def D_Mo_laysPieces_121 (k : Nat → Int32 → Int32 → zM → Option zM) (lv : zV) (st : List Value) (S : zM) : Option zM := match lv, st with
  | [some (.ref a0), some (.int a1), some (.int a2), _], [] => k a0 a1 a2 S
  | _, _ => none
theorem d_Mo_laysPieces_121 {g : zV → Nat → List Value → zM → Prop} (Hw : zWk g) {k : Nat → Int32 → Int32 → zM → Option zM} {res : zM} {lv : zV} {st : List Value} {S : zM} (h : D_Mo_laysPieces_121 k lv st S = some res) (hk : ∀ a0 a1 a2 S, k a0 a1 a2 S = some res → g [some (.ref a0), some (.int a1), some (.int a2), none] 121 [] S) : g lv 121 st S := by
  unfold D_Mo_laysPieces_121 at h
  split at h
  · exact Hw _ _ _ _ _ (by simp [zle]) (hk _ _ _ _  h)
  · cases h
set_option maxRecDepth 100000 in
theorem r_Mo_laysPieces_121 (n : Nat) (a0 : Nat) (a1 : Int32) (a2 : Int32) (S : zM) : L_Mo_laysPieces_121 (n + 1) a0 a1 a2 S = zrt false zP_Mo_laysPieces (zE_Mo_laysPieces zM) zc_Mo_laysPieces zkV (fun pc lv st S => bif Nat.beq pc 121 then D_Mo_laysPieces_121 (L_Mo_laysPieces_121 n) lv st S else none) 1000 121 [some (.ref a0), some (.int a1), some (.int a2), none] [] S := rfl
theorem g_Mo_laysPieces_121 {g : zV → Nat → List Value → zM → Prop} {res : zM} (H : zCl false zP_Mo_laysPieces (zE_Mo_laysPieces zM) zkV res g) (Hw : zWk g) (n : Nat) : ∀ (a0 : Nat) (a1 : Int32) (a2 : Int32) (S : zM), L_Mo_laysPieces_121 n a0 a1 a2 S = some res → g [some (.ref a0), some (.int a1), some (.int a2), none] 121 [] S := by
  induction n with
  | zero => intro a0 a1 a2 S h; cases h
  | succ n ih =>
    intro a0 a1 a2 S h
    refine H zc_Mo_laysPieces _ 1000 _ _ _ _ ((r_Mo_laysPieces_121 n a0 a1 a2 S).symm.trans h) (fun pc lv st S hK => ?_)
    rcases zdis hK with ⟨rfl, hK⟩ | hK
    · exact d_Mo_laysPieces_121 Hw hK ih
    cases hK
set_option maxRecDepth 100000 in
theorem r_Mo_laysPieces_119 (k121 : Nat → Int32 → Int32 → zM → Option zM) (a0 : Nat) (a1 : Int32) (S : zM) : F_Mo_laysPieces_119 k121 a0 a1 S = zrt false zP_Mo_laysPieces (zE_Mo_laysPieces zM) zc_Mo_laysPieces zkV (fun pc lv st S => bif Nat.beq pc 121 then D_Mo_laysPieces_121 k121 lv st S else none) 1000 119 [some (.ref a0), some (.int a1), none, none] [] S := rfl
theorem g_Mo_laysPieces_119 {g : zV → Nat → List Value → zM → Prop} {res : zM} (H : zCl false zP_Mo_laysPieces (zE_Mo_laysPieces zM) zkV res g) (Hw : zWk g) {k121 : Nat → Int32 → Int32 → zM → Option zM} (hk121 : ∀ a0 a1 a2 S, k121 a0 a1 a2 S = some res → g [some (.ref a0), some (.int a1), some (.int a2), none] 121 [] S) (a0 : Nat) (a1 : Int32) (S : zM) (h : F_Mo_laysPieces_119 k121 a0 a1 S = some res) : g [some (.ref a0), some (.int a1), none, none] 119 [] S := by
  refine H zc_Mo_laysPieces _ 1000 _ _ _ _ ((r_Mo_laysPieces_119 k121 a0 a1 S).symm.trans h) (fun pc lv st S hK => ?_)
  rcases zdis hK with ⟨rfl, hK⟩ | hK
  · exact d_Mo_laysPieces_121 Hw hK hk121
  cases hK
set_option maxRecDepth 100000 in
theorem r_Mo_laysPieces_103 (k7 : Nat → Int32 → Int32 → zM → Option zM) (a0 : Nat) (a1 : Int32) (a2 : Int32) (S : zM) : F_Mo_laysPieces_103 k7 a0 a1 a2 S = zrt false zP_Mo_laysPieces (zE_Mo_laysPieces zM) zc_Mo_laysPieces zkV (fun pc lv st S => bif Nat.beq pc 7 then D_Mo_laysPieces_7 k7 lv st S else none) 1000 103 [some (.ref a0), some (.int a1), some (.int a2), none] [] S := rfl
theorem g_Mo_laysPieces_103 {g : zV → Nat → List Value → zM → Prop} {res : zM} (H : zCl false zP_Mo_laysPieces (zE_Mo_laysPieces zM) zkV res g) (Hw : zWk g) {k7 : Nat → Int32 → Int32 → zM → Option zM} (hk7 : ∀ a0 a1 a2 S, k7 a0 a1 a2 S = some res → g [some (.ref a0), some (.int a1), some (.int a2), none] 7 [] S) (a0 : Nat) (a1 : Int32) (a2 : Int32) (S : zM) (h : F_Mo_laysPieces_103 k7 a0 a1 a2 S = some res) : g [some (.ref a0), some (.int a1), some (.int a2), none] 103 [] S := by
  refine H zc_Mo_laysPieces _ 1000 _ _ _ _ ((r_Mo_laysPieces_103 k7 a0 a1 a2 S).symm.trans h) (fun pc lv st S hK => ?_)
  rcases zdis hK with ⟨rfl, hK⟩ | hK
  · exact d_Mo_laysPieces_7 Hw hK hk7
  cases hK
set_option maxRecDepth 100000 in
theorem r_Mo_laysPieces_64 (k103 : Nat → Int32 → Int32 → zM → Option zM) (n : Nat) (a0 : Nat) (a1 : Int32) (a2 : Int32) (a3 : Int32) (S : zM) : L_Mo_laysPieces_64 k103 (n + 1) a0 a1 a2 a3 S = zrt false zP_Mo_laysPieces (zE_Mo_laysPieces zM) zc_Mo_laysPieces zkV (fun pc lv st S => bif Nat.beq pc 64 then D_Mo_laysPieces_64 (L_Mo_laysPieces_64 k103 n) lv st S else bif Nat.beq pc 103 then D_Mo_laysPieces_103 k103 lv st S else none) 1000 64 [some (.ref a0), some (.int a1), some (.int a2), some (.int a3)] [] S := rfl
theorem g_Mo_laysPieces_64 {g : zV → Nat → List Value → zM → Prop} {res : zM} (H : zCl false zP_Mo_laysPieces (zE_Mo_laysPieces zM) zkV res g) (Hw : zWk g) {k103 : Nat → Int32 → Int32 → zM → Option zM} (hk103 : ∀ a0 a1 a2 S, k103 a0 a1 a2 S = some res → g [some (.ref a0), some (.int a1), some (.int a2), none] 103 [] S) (n : Nat) : ∀ (a0 : Nat) (a1 : Int32) (a2 : Int32) (a3 : Int32) (S : zM), L_Mo_laysPieces_64 k103 n a0 a1 a2 a3 S = some res → g [some (.ref a0), some (.int a1), some (.int a2), some (.int a3)] 64 [] S := by
  induction n with
  | zero => intro a0 a1 a2 a3 S h; cases h
  | succ n ih =>
    intro a0 a1 a2 a3 S h
    refine H zc_Mo_laysPieces _ 1000 _ _ _ _ ((r_Mo_laysPieces_64 k103 n a0 a1 a2 a3 S).symm.trans h) (fun pc lv st S hK => ?_)
    rcases zdis hK with ⟨rfl, hK⟩ | hK
    · exact d_Mo_laysPieces_64 Hw hK ih
    rcases zdis hK with ⟨rfl, hK⟩ | hK
    · exact d_Mo_laysPieces_103 Hw hK hk103
    cases hK
set_option maxRecDepth 100000 in
theorem r_Mo_laysPieces_7 (k119 : Nat → Int32 → zM → Option zM) (n : Nat) (a0 : Nat) (a1 : Int32) (a2 : Int32) (S : zM) : L_Mo_laysPieces_7 k119 (n + 1) a0 a1 a2 S = zrt false zP_Mo_laysPieces (zE_Mo_laysPieces zM) zc_Mo_laysPieces zkV (fun pc lv st S => bif Nat.beq pc 7 then D_Mo_laysPieces_7 (L_Mo_laysPieces_7 k119 n) lv st S else bif Nat.beq pc 64 then D_Mo_laysPieces_64 (L_Mo_laysPieces_64 (F_Mo_laysPieces_103 (L_Mo_laysPieces_7 k119 n)) zF) lv st S else bif Nat.beq pc 119 then D_Mo_laysPieces_119 k119 lv st S else none) 1000 7 [some (.ref a0), some (.int a1), some (.int a2), none] [] S := rfl
theorem g_Mo_laysPieces_7 {g : zV → Nat → List Value → zM → Prop} {res : zM} (H : zCl false zP_Mo_laysPieces (zE_Mo_laysPieces zM) zkV res g) (Hw : zWk g) {k119 : Nat → Int32 → zM → Option zM} (hk119 : ∀ a0 a1 S, k119 a0 a1 S = some res → g [some (.ref a0), some (.int a1), none, none] 119 [] S) (n : Nat) : ∀ (a0 : Nat) (a1 : Int32) (a2 : Int32) (S : zM), L_Mo_laysPieces_7 k119 n a0 a1 a2 S = some res → g [some (.ref a0), some (.int a1), some (.int a2), none] 7 [] S := by
  induction n with
  | zero => intro a0 a1 a2 S h; cases h
  | succ n ih =>
    intro a0 a1 a2 S h
    refine H zc_Mo_laysPieces _ 1000 _ _ _ _ ((r_Mo_laysPieces_7 k119 n a0 a1 a2 S).symm.trans h) (fun pc lv st S hK => ?_)
    rcases zdis hK with ⟨rfl, hK⟩ | hK
    · exact d_Mo_laysPieces_7 Hw hK ih
    rcases zdis hK with ⟨rfl, hK⟩ | hK
    · exact d_Mo_laysPieces_64 Hw hK (g_Mo_laysPieces_64 H Hw (g_Mo_laysPieces_103 H Hw ih) zF)
    rcases zdis hK with ⟨rfl, hK⟩ | hK
    · exact d_Mo_laysPieces_119 Hw hK hk119
    cases hK
set_option maxRecDepth 100000 in
theorem r_Mo_laysPieces (a0 : Nat) (a1 : Int32) (S : zM) : f_Mo_laysPieces a0 a1 S = zrt false zP_Mo_laysPieces (zE_Mo_laysPieces zM) zc_Mo_laysPieces zkV (fun pc lv st S => bif Nat.beq pc 7 then D_Mo_laysPieces_7 (L_Mo_laysPieces_7 (F_Mo_laysPieces_119 (L_Mo_laysPieces_121 zF)) zF) lv st S else none) 1000 0 [some (.ref a0), some (.int a1), none, none] [] S := rfl
theorem G_Mo_laysPieces {g : zV → Nat → List Value → zM → Prop} {res : zM} (H : zCl false zP_Mo_laysPieces (zE_Mo_laysPieces zM) zkV res g) (Hw : zWk g) (a0 : Nat) (a1 : Int32) (S : zM) (h : f_Mo_laysPieces a0 a1 S = some res) : g [some (.ref a0), some (.int a1), none, none] 0 [] S := by
  refine H zc_Mo_laysPieces _ 1000 _ _ _ _ ((r_Mo_laysPieces a0 a1 S).symm.trans h) (fun pc lv st S hK => ?_)
  rcases zdis hK with ⟨rfl, hK⟩ | hK
  · exact d_Mo_laysPieces_7 Hw hK (g_Mo_laysPieces_7 H Hw (g_Mo_laysPieces_119 H Hw (g_Mo_laysPieces_121 H Hw  zF)) zF)
  cases hK
set_option maxRecDepth 100000 in
theorem ok_Mo_laysPieces : zokT 12 [95, 128] false 2 45 4 false none cX12_laysPieces zP_Mo_laysPieces = true := by decide +kernel
set_option maxRecDepth 100000 in
theorem s_Mo_laysPieces {l : Launch} {HB : Heap} {b L : Nat} {xs : Nat → Int32} {aK aV : Nat → Nat} {G : va_G} {tc : Nat → ClassId} (h0 : zSnd l HB b L xs aK aV G tc (zMT.getD 95 zyD) (fun α => zA_II_I f_Mo_rowOf)) (h1 : zSnd l HB b L xs aK aV G tc (zMT.getD 128 zyD) (fun α => zA_vRII_I 12 f_Mo_isTurned)) : zSnd l HB b L xs aK aV G tc (zMT.getD 129 zyD) (fun α => zA_vRI_V 12 f_Mo_laysPieces) := by
  rw [show zMT.getD 129 zyD = (yX12_laysPieces, cX12_laysPieces, 4, none, 0, 2, 2, 45) from rfl]
  intro α as S k res h
  unfold zA_vRI_V at h
  dsimp only at h
  split at h
  · rename_i a0 a1
    obtain ⟨p, hp, h⟩ := zbind h
    unfold zcl at hp
    split at hp
    · rename_i hkd
      have hm := zmeth (l := l) (HB := HB) (b := b) (L := L) (xs := xs) (aK := aK) (aV := aV) (G := G) (tc := tc) (q := (yX12_laysPieces, cX12_laysPieces, 4, none, 0, 2, 2, 45)) (o := 12) (cs := [95, 128]) (rz := false) (T := zP_Mo_laysPieces) (E := zE_Mo_laysPieces zM) (kr := zkV) (res := p) (v0 := none) (S0 := p) (as := [.ref a0, .int a1]) (S := S) zMT_fine (by decide +kernel) (fun i as S k' h => by
        unfold zE_Mo_laysPieces at h
        rcases zdisf h with ⟨rfl, h⟩ | h
        · exact h0 _ _ _ _ _ h
        rcases zdisf h with ⟨rfl, h⟩ | h
        · exact h1 _ _ _ _ _ h
        cases h) ok_Mo_laysPieces rfl (fun v S' h => zkV_inv h) (Nat.le_of_ble_eq_true rfl) (fun g H Hw => Hw _ [some (.ref a0), some (.int a1), none, none] _ _ _ ⟨rfl, rfl, trivial⟩ (G_Mo_laysPieces H Hw a0 a1 S hp))
      exact ⟨_, _, h, hm.1, rfl, fun _ => ⟨_, _, rfl⟩, (fun _ U H hK hH a r e => by cases e; exact zrecv (ci := 12) (by omega) hkd rfl U H hK hH), hm.2⟩
    · cases hp
  · cases h
def zP_Mo_pieces : List (List (Nat × zE)) := [[(0, e1 (.aload_n 0) 1 0), (1, e3 (.invokevirtual 272) 4 0 1 0), (4, e1 (.aload_n 0) 5 0), (5, e1 (.iload_n 1) 6 1), (6, e3 (.invokevirtual 303) 9 1 2 0), (9, e1 (.ifCond .ne 9) 12 18), (12, e1 (.aload_n 0) 13 0), (13, ei (.iconst 1) 14 0 (1)), (14, e3 (.invokevirtual 275) 17 2 2 0)],
  [(17, e0 (.ireturn) 18), (18, e1 (.aload_n 0) 19 0), (19, e1 (.iload_n 1) 20 1), (20, e3 (.invokevirtual 338) 23 3 2 0), (23, e1 (.aload_n 0) 24 0), (24, e3 (.getfield 332) 27 12 35 0), (27, e0 (.ireturn) 28)]]
noncomputable def zE_Mo_pieces (α : Type) : Nat → zX α := fun i => bif Nat.beq i 0 then zA_vR_V 12 f_Mo_fresh else bif Nat.beq i 1 then zA_vRI_I 12 f_Mo_isPass else bif Nat.beq i 2 then zA_vRI_I 12 f_Mo_no else bif Nat.beq i 3 then zA_vRI_V 12 f_Mo_laysPieces else fun _ _ _ => none
def zc_Mo_pieces : Nat → Bool := fun pc => false
set_option maxRecDepth 100000 in
theorem r_Mo_pieces (a0 : Nat) (a1 : Int32) (S : zM) : f_Mo_pieces a0 a1 S = zrt false zP_Mo_pieces (zE_Mo_pieces (Int32 × zM)) zc_Mo_pieces zkI (fun pc lv st S => none) 1000 0 [some (.ref a0), some (.int a1)] [] S := rfl
theorem G_Mo_pieces {g : zV → Nat → List Value → zM → Prop} {res : (Int32 × zM)} (H : zCl false zP_Mo_pieces (zE_Mo_pieces (Int32 × zM)) zkI res g) (Hw : zWk g) (a0 : Nat) (a1 : Int32) (S : zM) (h : f_Mo_pieces a0 a1 S = some res) : g [some (.ref a0), some (.int a1)] 0 [] S := by
  refine H zc_Mo_pieces _ 1000 _ _ _ _ ((r_Mo_pieces a0 a1 S).symm.trans h) (fun pc lv st S hK => ?_)
  cases hK
set_option maxRecDepth 100000 in
theorem ok_Mo_pieces : zokT 12 [61, 94, 63, 129] false 3 68 2 false (some .int) cX12_pieces zP_Mo_pieces = true := by decide +kernel
set_option maxRecDepth 100000 in
theorem s_Mo_pieces {l : Launch} {HB : Heap} {b L : Nat} {xs : Nat → Int32} {aK aV : Nat → Nat} {G : va_G} {tc : Nat → ClassId} (h0 : zSnd l HB b L xs aK aV G tc (zMT.getD 61 zyD) (fun α => zA_vR_V 12 f_Mo_fresh)) (h1 : zSnd l HB b L xs aK aV G tc (zMT.getD 94 zyD) (fun α => zA_vRI_I 12 f_Mo_isPass)) (h2 : zSnd l HB b L xs aK aV G tc (zMT.getD 63 zyD) (fun α => zA_vRI_I 12 f_Mo_no)) (h3 : zSnd l HB b L xs aK aV G tc (zMT.getD 129 zyD) (fun α => zA_vRI_V 12 f_Mo_laysPieces)) : zSnd l HB b L xs aK aV G tc (zMT.getD 130 zyD) (fun α => zA_vRI_I 12 f_Mo_pieces) := by
  rw [show zMT.getD 130 zyD = (yX12_pieces, cX12_pieces, 2, (some .int), 0, 2, 3, 68) from rfl]
  intro α as S k res h
  unfold zA_vRI_I at h
  dsimp only at h
  split at h
  · rename_i a0 a1
    obtain ⟨p, hp, h⟩ := zbind h
    unfold zcl at hp
    split at hp
    · rename_i hkd
      have hm := zmeth (l := l) (HB := HB) (b := b) (L := L) (xs := xs) (aK := aK) (aV := aV) (G := G) (tc := tc) (q := (yX12_pieces, cX12_pieces, 2, (some .int), 0, 2, 3, 68)) (o := 12) (cs := [61, 94, 63, 129]) (rz := false) (T := zP_Mo_pieces) (E := zE_Mo_pieces (Int32 × zM)) (kr := zkI) (res := p) (v0 := some (.int p.1)) (S0 := p.2) (as := [.ref a0, .int a1]) (S := S) zMT_fine (by decide +kernel) (fun i as S k' h => by
        unfold zE_Mo_pieces at h
        rcases zdisf h with ⟨rfl, h⟩ | h
        · exact h0 _ _ _ _ _ h
        rcases zdisf h with ⟨rfl, h⟩ | h
        · exact h1 _ _ _ _ _ h
        rcases zdisf h with ⟨rfl, h⟩ | h
        · exact h2 _ _ _ _ _ h
        rcases zdisf h with ⟨rfl, h⟩ | h
        · exact h3 _ _ _ _ _ h
        cases h) ok_Mo_pieces rfl (fun v S' h => zkI_inv h) (Nat.le_of_ble_eq_true rfl) (fun g H Hw => Hw _ [some (.ref a0), some (.int a1)] _ _ _ ⟨rfl, rfl, trivial⟩ (G_Mo_pieces H Hw a0 a1 S hp))
      exact ⟨_, _, h, hm.1, rfl, fun _ => ⟨_, _, rfl⟩, (fun _ U H hK hH a r e => by cases e; exact zrecv (ci := 12) (by omega) hkd rfl U H hK hH), hm.2⟩
    · cases hp
  · cases h
def zP_Pieces_whatOf : List (List (Nat × zE)) := [[(0, e1 (.iload_n 1) 1 1), (1, e1 (.ifCond .lt 17) 4 18), (4, e1 (.iload_n 1) 5 1), (5, e1 (.aload_n 0) 6 0), (6, e3 (.getfield 37) 9 6 5 0), (9, e1 (.if_icmp .ge 9) 12 18), (12, e1 (.iload_n 1) 13 1), (13, ei (.bipush 16) 15 0 (16)), (15, e1 (.if_icmp .lt 7) 18 22)],
  [(18, ei (.iconst (-1)) 19 0 (-1)), (19, e1 (.goto 9) 22 28), (22, e1 (.aload_n 0) 23 0), (23, e3 (.getfield 11) 26 6 0 2), (26, e1 (.iload_n 1) 27 1), (27, e0 (.iaload) 28), (28, e0 (.ireturn) 29)]]
noncomputable def zE_Pieces_whatOf (α : Type) : Nat → zX α := fun _ => fun _ _ _ => none
def zc_Pieces_whatOf : Nat → Bool := fun pc => false
set_option maxRecDepth 100000 in
theorem r_Pieces_whatOf (a0 : Nat) (a1 : Int32) (S : zM) : f_Pieces_whatOf a0 a1 S = zrt false zP_Pieces_whatOf (zE_Pieces_whatOf (Int32 × zM)) zc_Pieces_whatOf zkI (fun pc lv st S => none) 1000 0 [some (.ref a0), some (.int a1)] [] S := rfl
theorem G_Pieces_whatOf {g : zV → Nat → List Value → zM → Prop} {res : (Int32 × zM)} (H : zCl false zP_Pieces_whatOf (zE_Pieces_whatOf (Int32 × zM)) zkI res g) (Hw : zWk g) (a0 : Nat) (a1 : Int32) (S : zM) (h : f_Pieces_whatOf a0 a1 S = some res) : g [some (.ref a0), some (.int a1)] 0 [] S := by
  refine H zc_Pieces_whatOf _ 1000 _ _ _ _ ((r_Pieces_whatOf a0 a1 S).symm.trans h) (fun pc lv st S hK => ?_)
  cases hK
set_option maxRecDepth 100000 in
theorem ok_Pieces_whatOf : zokT 6 [] false 0 0 2 false (some .int) cX6_whatOf zP_Pieces_whatOf = true := by decide +kernel
set_option maxRecDepth 100000 in
theorem s_Pieces_whatOf {l : Launch} {HB : Heap} {b L : Nat} {xs : Nat → Int32} {aK aV : Nat → Nat} {G : va_G} {tc : Nat → ClassId} : zSnd l HB b L xs aK aV G tc (zMT.getD 131 zyD) (fun α => zA_vRI_I 6 f_Pieces_whatOf) := by
  rw [show zMT.getD 131 zyD = (yX6_whatOf, cX6_whatOf, 2, (some .int), 0, 2, 0, 0) from rfl]
  intro α as S k res h
  unfold zA_vRI_I at h
  dsimp only at h
  split at h
  · rename_i a0 a1
    obtain ⟨p, hp, h⟩ := zbind h
    unfold zcl at hp
    split at hp
    · rename_i hkd
      have hm := zmeth (l := l) (HB := HB) (b := b) (L := L) (xs := xs) (aK := aK) (aV := aV) (G := G) (tc := tc) (q := (yX6_whatOf, cX6_whatOf, 2, (some .int), 0, 2, 0, 0)) (o := 6) (cs := []) (rz := false) (T := zP_Pieces_whatOf) (E := zE_Pieces_whatOf (Int32 × zM)) (kr := zkI) (res := p) (v0 := some (.int p.1)) (S0 := p.2) (as := [.ref a0, .int a1]) (S := S) zMT_fine (by decide +kernel) (fun i as S k' h => by
        unfold zE_Pieces_whatOf at h
        cases h) ok_Pieces_whatOf rfl (fun v S' h => zkI_inv h) (Nat.le_of_ble_eq_true rfl) (fun g H Hw => Hw _ [some (.ref a0), some (.int a1)] _ _ _ ⟨rfl, rfl, trivial⟩ (G_Pieces_whatOf H Hw a0 a1 S hp))
      exact ⟨_, _, h, hm.1, rfl, fun _ => ⟨_, _, rfl⟩, (fun _ U H hK hH a r e => by cases e; exact zrecv (ci := 6) (by omega) hkd rfl U H hK hH), hm.2⟩
    · cases hp
  · cases h
def zP_Cl_piece : List (List (Nat × zE)) := [[(0, e1 (.aload_n 0) 1 0), (1, e1 (.iload_n 1) 2 1), (2, e3 (.invokevirtual 199) 5 0 2 0), (5, e1 (.ifCond .eq 18) 8 23), (8, e1 (.iload_n 2) 9 2), (9, e1 (.ifCond .lt 14) 12 23), (12, e1 (.iload_n 2) 13 2), (13, e1 (.aload_n 0) 14 0), (14, e3 (.getfield 51) 17 11 8 2)],
  [(17, e3 (.getfield 202) 20 6 5 0), (20, e1 (.if_icmp .lt 9) 23 29), (23, e1 (.aload_n 0) 24 0), (24, ei (.iconst 1) 25 0 (1)), (25, e3 (.invokevirtual 79) 28 1 2 0), (28, e0 (.ireturn) 29), (29, e1 (.aload_n 0) 30 0), (30, e1 (.aload_n 0) 31 0), (31, e3 (.getfield 51) 34 11 8 2)],
  [(34, e1 (.iload_n 2) 35 2), (35, e3 (.invokevirtual 205) 38 2 2 0), (38, e3 (.invokevirtual 109) 41 3 2 0), (41, e0 (.ireturn) 42)]]
noncomputable def zE_Cl_piece (α : Type) : Nat → zX α := fun i => bif Nat.beq i 0 then zA_vRI_I 11 f_Cl_gatherPieces else bif Nat.beq i 1 then zA_vRI_I 11 f_Cl_refuse else bif Nat.beq i 2 then zA_vRI_I 6 f_Pieces_whatOf else bif Nat.beq i 3 then zA_vRI_I 11 f_Cl_answer else fun _ _ _ => none
def zc_Cl_piece : Nat → Bool := fun pc => false
set_option maxRecDepth 100000 in
theorem r_Cl_piece (a0 : Nat) (a1 : Int32) (a2 : Int32) (S : zM) : f_Cl_piece a0 a1 a2 S = zrt false zP_Cl_piece (zE_Cl_piece (Int32 × zM)) zc_Cl_piece zkI (fun pc lv st S => none) 1000 0 [some (.ref a0), some (.int a1), some (.int a2)] [] S := rfl
theorem G_Cl_piece {g : zV → Nat → List Value → zM → Prop} {res : (Int32 × zM)} (H : zCl false zP_Cl_piece (zE_Cl_piece (Int32 × zM)) zkI res g) (Hw : zWk g) (a0 : Nat) (a1 : Int32) (a2 : Int32) (S : zM) (h : f_Cl_piece a0 a1 a2 S = some res) : g [some (.ref a0), some (.int a1), some (.int a2)] 0 [] S := by
  refine H zc_Cl_piece _ 1000 _ _ _ _ ((r_Cl_piece a0 a1 a2 S).symm.trans h) (fun pc lv st S hK => ?_)
  cases hK
set_option maxRecDepth 100000 in
theorem ok_Cl_piece : zokT 11 [126, 16, 131, 59] false 6 129 3 false (some .int) cX11_piece zP_Cl_piece = true := by decide +kernel
set_option maxRecDepth 100000 in
theorem s_Cl_piece {l : Launch} {HB : Heap} {b L : Nat} {xs : Nat → Int32} {aK aV : Nat → Nat} {G : va_G} {tc : Nat → ClassId} (h0 : zSnd l HB b L xs aK aV G tc (zMT.getD 126 zyD) (fun α => zA_vRI_I 11 f_Cl_gatherPieces)) (h1 : zSnd l HB b L xs aK aV G tc (zMT.getD 16 zyD) (fun α => zA_vRI_I 11 f_Cl_refuse)) (h2 : zSnd l HB b L xs aK aV G tc (zMT.getD 131 zyD) (fun α => zA_vRI_I 6 f_Pieces_whatOf)) (h3 : zSnd l HB b L xs aK aV G tc (zMT.getD 59 zyD) (fun α => zA_vRI_I 11 f_Cl_answer)) : zSnd l HB b L xs aK aV G tc (zMT.getD 132 zyD) (fun α => zA_vRII_I 11 f_Cl_piece) := by
  rw [show zMT.getD 132 zyD = (yX11_piece, cX11_piece, 3, (some .int), 0, 3, 6, 129) from rfl]
  intro α as S k res h
  unfold zA_vRII_I at h
  dsimp only at h
  split at h
  · rename_i a0 a1 a2
    obtain ⟨p, hp, h⟩ := zbind h
    unfold zcl at hp
    split at hp
    · rename_i hkd
      have hm := zmeth (l := l) (HB := HB) (b := b) (L := L) (xs := xs) (aK := aK) (aV := aV) (G := G) (tc := tc) (q := (yX11_piece, cX11_piece, 3, (some .int), 0, 3, 6, 129)) (o := 11) (cs := [126, 16, 131, 59]) (rz := false) (T := zP_Cl_piece) (E := zE_Cl_piece (Int32 × zM)) (kr := zkI) (res := p) (v0 := some (.int p.1)) (S0 := p.2) (as := [.ref a0, .int a1, .int a2]) (S := S) zMT_fine (by decide +kernel) (fun i as S k' h => by
        unfold zE_Cl_piece at h
        rcases zdisf h with ⟨rfl, h⟩ | h
        · exact h0 _ _ _ _ _ h
        rcases zdisf h with ⟨rfl, h⟩ | h
        · exact h1 _ _ _ _ _ h
        rcases zdisf h with ⟨rfl, h⟩ | h
        · exact h2 _ _ _ _ _ h
        rcases zdisf h with ⟨rfl, h⟩ | h
        · exact h3 _ _ _ _ _ h
        cases h) ok_Cl_piece rfl (fun v S' h => zkI_inv h) (Nat.le_of_ble_eq_true rfl) (fun g H Hw => Hw _ [some (.ref a0), some (.int a1), some (.int a2)] _ _ _ ⟨rfl, rfl, rfl, trivial⟩ (G_Cl_piece H Hw a0 a1 a2 S hp))
      exact ⟨_, _, h, hm.1, rfl, fun _ => ⟨_, _, rfl⟩, (fun _ U H hK hH a r e => by cases e; exact zrecv (ci := 11) (by omega) hkd rfl U H hK hH), hm.2⟩
    · cases hp
  · cases h
def zP_Mo_piece : List (List (Nat × zE)) := [[(0, e1 (.aload_n 0) 1 0), (1, e3 (.invokevirtual 272) 4 0 1 0), (4, e1 (.aload_n 0) 5 0), (5, e1 (.iload_n 1) 6 1), (6, e3 (.invokevirtual 303) 9 1 2 0), (9, e1 (.ifCond .ne 9) 12 18), (12, e1 (.aload_n 0) 13 0), (13, ei (.iconst 1) 14 0 (1)), (14, e3 (.invokevirtual 275) 17 2 2 0)],
  [(17, e0 (.ireturn) 18), (18, e1 (.aload_n 0) 19 0), (19, e1 (.iload_n 1) 20 1), (20, e3 (.invokevirtual 338) 23 3 2 0), (23, e1 (.iload_n 2) 24 2), (24, ei (.iconst 0) 25 0 (0)), (25, e1 (.aload_n 0) 26 0), (26, e3 (.getfield 332) 29 12 35 0), (29, ei (.iconst 1) 30 0 (1)), (30, e0 (.isub) 31), (31, e3 (.invokestatic 156) 34 4 3 0)],
  [(34, e1 (.ifCond .eq 12) 37 46), (37, e1 (.aload_n 0) 38 0), (38, e3 (.getfield 49) 41 12 32 2), (41, e1 (.iload_n 2) 42 2), (42, e0 (.iaload) 43), (43, e1 (.goto 8) 46 51), (46, e1 (.aload_n 0) 47 0), (47, ei (.iconst 1) 48 0 (1))],
  [(48, e3 (.invokevirtual 275) 51 2 2 0), (51, e0 (.ireturn) 52)]]
noncomputable def zE_Mo_piece (α : Type) : Nat → zX α := fun i => bif Nat.beq i 0 then zA_vR_V 12 f_Mo_fresh else bif Nat.beq i 1 then zA_vRI_I 12 f_Mo_isPass else bif Nat.beq i 2 then zA_vRI_I 12 f_Mo_no else bif Nat.beq i 3 then zA_vRI_V 12 f_Mo_laysPieces else bif Nat.beq i 4 then zA_III_I f_Mo_in else fun _ _ _ => none
def zc_Mo_piece : Nat → Bool := fun pc => false
set_option maxRecDepth 100000 in
theorem r_Mo_piece (a0 : Nat) (a1 : Int32) (a2 : Int32) (S : zM) : f_Mo_piece a0 a1 a2 S = zrt false zP_Mo_piece (zE_Mo_piece (Int32 × zM)) zc_Mo_piece zkI (fun pc lv st S => none) 1000 0 [some (.ref a0), some (.int a1), some (.int a2)] [] S := rfl
theorem G_Mo_piece {g : zV → Nat → List Value → zM → Prop} {res : (Int32 × zM)} (H : zCl false zP_Mo_piece (zE_Mo_piece (Int32 × zM)) zkI res g) (Hw : zWk g) (a0 : Nat) (a1 : Int32) (a2 : Int32) (S : zM) (h : f_Mo_piece a0 a1 a2 S = some res) : g [some (.ref a0), some (.int a1), some (.int a2)] 0 [] S := by
  refine H zc_Mo_piece _ 1000 _ _ _ _ ((r_Mo_piece a0 a1 a2 S).symm.trans h) (fun pc lv st S hK => ?_)
  cases hK
set_option maxRecDepth 100000 in
theorem ok_Mo_piece : zokT 12 [61, 94, 63, 129, 62] false 3 68 3 false (some .int) cX12_piece zP_Mo_piece = true := by decide +kernel
set_option maxRecDepth 100000 in
theorem s_Mo_piece {l : Launch} {HB : Heap} {b L : Nat} {xs : Nat → Int32} {aK aV : Nat → Nat} {G : va_G} {tc : Nat → ClassId} (h0 : zSnd l HB b L xs aK aV G tc (zMT.getD 61 zyD) (fun α => zA_vR_V 12 f_Mo_fresh)) (h1 : zSnd l HB b L xs aK aV G tc (zMT.getD 94 zyD) (fun α => zA_vRI_I 12 f_Mo_isPass)) (h2 : zSnd l HB b L xs aK aV G tc (zMT.getD 63 zyD) (fun α => zA_vRI_I 12 f_Mo_no)) (h3 : zSnd l HB b L xs aK aV G tc (zMT.getD 129 zyD) (fun α => zA_vRI_V 12 f_Mo_laysPieces)) (h4 : zSnd l HB b L xs aK aV G tc (zMT.getD 62 zyD) (fun α => zA_III_I f_Mo_in)) : zSnd l HB b L xs aK aV G tc (zMT.getD 133 zyD) (fun α => zA_vRII_I 12 f_Mo_piece) := by
  rw [show zMT.getD 133 zyD = (yX12_piece, cX12_piece, 3, (some .int), 0, 3, 3, 68) from rfl]
  intro α as S k res h
  unfold zA_vRII_I at h
  dsimp only at h
  split at h
  · rename_i a0 a1 a2
    obtain ⟨p, hp, h⟩ := zbind h
    unfold zcl at hp
    split at hp
    · rename_i hkd
      have hm := zmeth (l := l) (HB := HB) (b := b) (L := L) (xs := xs) (aK := aK) (aV := aV) (G := G) (tc := tc) (q := (yX12_piece, cX12_piece, 3, (some .int), 0, 3, 3, 68)) (o := 12) (cs := [61, 94, 63, 129, 62]) (rz := false) (T := zP_Mo_piece) (E := zE_Mo_piece (Int32 × zM)) (kr := zkI) (res := p) (v0 := some (.int p.1)) (S0 := p.2) (as := [.ref a0, .int a1, .int a2]) (S := S) zMT_fine (by decide +kernel) (fun i as S k' h => by
        unfold zE_Mo_piece at h
        rcases zdisf h with ⟨rfl, h⟩ | h
        · exact h0 _ _ _ _ _ h
        rcases zdisf h with ⟨rfl, h⟩ | h
        · exact h1 _ _ _ _ _ h
        rcases zdisf h with ⟨rfl, h⟩ | h
        · exact h2 _ _ _ _ _ h
        rcases zdisf h with ⟨rfl, h⟩ | h
        · exact h3 _ _ _ _ _ h
        rcases zdisf h with ⟨rfl, h⟩ | h
        · exact h4 _ _ _ _ _ h
        cases h) ok_Mo_piece rfl (fun v S' h => zkI_inv h) (Nat.le_of_ble_eq_true rfl) (fun g H Hw => Hw _ [some (.ref a0), some (.int a1), some (.int a2)] _ _ _ ⟨rfl, rfl, rfl, trivial⟩ (G_Mo_piece H Hw a0 a1 a2 S hp))
      exact ⟨_, _, h, hm.1, rfl, fun _ => ⟨_, _, rfl⟩, (fun _ U H hK hH a r e => by cases e; exact zrecv (ci := 12) (by omega) hkd rfl U H hK hH), hm.2⟩
    · cases hp
  · cases h
def zP_Pieces_lettersOf : List (List (Nat × zE)) := [[(0, e1 (.iload_n 1) 1 1), (1, e1 (.ifCond .lt 17) 4 18), (4, e1 (.iload_n 1) 5 1), (5, e1 (.aload_n 0) 6 0), (6, e3 (.getfield 37) 9 6 5 0), (9, e1 (.if_icmp .ge 9) 12 18), (12, e1 (.iload_n 1) 13 1), (13, ei (.bipush 16) 15 0 (16)), (15, e1 (.if_icmp .lt 7) 18 22)],
  [(18, e0 (.aconst_null) 19), (19, e1 (.goto 9) 22 28), (22, e1 (.aload_n 0) 23 0), (23, e3 (.getfield 17) 26 6 1 2), (26, e1 (.iload_n 1) 27 1), (27, e3 (.aaload) 28 8 0 3), (28, e0 (.areturn) 29)]]
noncomputable def zE_Pieces_lettersOf (α : Type) : Nat → zX α := fun _ => fun _ _ _ => none
def zc_Pieces_lettersOf : Nat → Bool := fun pc => false
set_option maxRecDepth 100000 in
theorem r_Pieces_lettersOf (a0 : Nat) (a1 : Int32) (S : zM) : f_Pieces_lettersOf a0 a1 S = zrt false zP_Pieces_lettersOf (zE_Pieces_lettersOf (Option Nat × zM)) zc_Pieces_lettersOf zkN (fun pc lv st S => none) 1000 0 [some (.ref a0), some (.int a1)] [] S := rfl
theorem G_Pieces_lettersOf {g : zV → Nat → List Value → zM → Prop} {res : (Option Nat × zM)} (H : zCl false zP_Pieces_lettersOf (zE_Pieces_lettersOf (Option Nat × zM)) zkN res g) (Hw : zWk g) (a0 : Nat) (a1 : Int32) (S : zM) (h : f_Pieces_lettersOf a0 a1 S = some res) : g [some (.ref a0), some (.int a1)] 0 [] S := by
  refine H zc_Pieces_lettersOf _ 1000 _ _ _ _ ((r_Pieces_lettersOf a0 a1 S).symm.trans h) (fun pc lv st S hK => ?_)
  cases hK
set_option maxRecDepth 100000 in
theorem ok_Pieces_lettersOf : zokT 6 [] false 0 0 2 false (some (.object "CarriedLetters$Row")) cX6_lettersOf zP_Pieces_lettersOf = true := by decide +kernel
set_option maxRecDepth 100000 in
theorem s_Pieces_lettersOf {l : Launch} {HB : Heap} {b L : Nat} {xs : Nat → Int32} {aK aV : Nat → Nat} {G : va_G} {tc : Nat → ClassId} : zSnd l HB b L xs aK aV G tc (zMT.getD 134 zyD) (fun α => zA_vRI_N 6 f_Pieces_lettersOf) := by
  rw [show zMT.getD 134 zyD = (yX6_lettersOf, cX6_lettersOf, 2, (some (.object "CarriedLetters$Row")), 0, 2, 0, 0) from rfl]
  intro α as S k res h
  unfold zA_vRI_N at h
  dsimp only at h
  split at h
  · rename_i a0 a1
    obtain ⟨p, hp, h⟩ := zbind h
    unfold zcl at hp
    split at hp
    · rename_i hkd
      have hm := zmeth (l := l) (HB := HB) (b := b) (L := L) (xs := xs) (aK := aK) (aV := aV) (G := G) (tc := tc) (q := (yX6_lettersOf, cX6_lettersOf, 2, (some (.object "CarriedLetters$Row")), 0, 2, 0, 0)) (o := 6) (cs := []) (rz := false) (T := zP_Pieces_lettersOf) (E := zE_Pieces_lettersOf (Option Nat × zM)) (kr := zkN) (res := p) (v0 := some (match p.1 with | some a => .ref a | none => .null)) (S0 := p.2) (as := [.ref a0, .int a1]) (S := S) zMT_fine (by decide +kernel) (fun i as S k' h => by
        unfold zE_Pieces_lettersOf at h
        cases h) ok_Pieces_lettersOf rfl (fun v S' h => zkN_inv h) (Nat.le_of_ble_eq_true rfl) (fun g H Hw => Hw _ [some (.ref a0), some (.int a1)] _ _ _ ⟨rfl, rfl, trivial⟩ (G_Pieces_lettersOf H Hw a0 a1 S hp))
      exact ⟨_, _, (by cases hq : p.1 <;> rw [hq] at h <;> exact h), hm.1, rfl, fun _ => ⟨_, _, rfl⟩, (fun _ U H hK hH a r e => by cases e; exact zrecv (ci := 6) (by omega) hkd rfl U H hK hH), hm.2⟩
    · cases hp
  · cases h
def zP_Row_agrees : List (List (Nat × zE)) := [[(0, ei (.iconst 0) 1 0 (0)), (1, e1 (.istore_n 3) 2 3), (2, e1 (.iload_n 3) 3 3), (3, e1 (.aload_n 2) 4 2), (4, e3 (.getfield 15) 7 8 1 0), (7, e1 (.if_icmp .ge 36) 10 43), (10, e1 (.iload_n 1) 11 1), (11, e1 (.iload_n 3) 12 3), (12, e0 (.iadd) 13), (13, e1 (.aload_n 0) 14 0), (14, e3 (.getfield 15) 17 8 1 0)],
  [(17, e1 (.if_icmp .ge 26) 20 43), (20, e1 (.aload_n 0) 21 0), (21, e1 (.iload_n 1) 22 1), (22, e1 (.iload_n 3) 23 3), (23, e0 (.iadd) 24), (24, e3 (.invokevirtual 32) 27 0 2 0), (27, e1 (.aload_n 2) 28 2), (28, e1 (.iload_n 3) 29 3), (29, e3 (.invokevirtual 32) 32 0 2 0)],
  [(32, e1 (.if_icmp .eq 5) 35 37), (35, ei (.iconst 0) 36 0 (0)), (36, e0 (.ireturn) 37), (37, ei (.iinc 3 1) 40 3 (1)), (40, e1 (.goto (-38)) 43 2), (43, ei (.iconst 1) 44 0 (1)), (44, e0 (.ireturn) 45)]]
noncomputable def zE_Row_agrees (α : Type) : Nat → zX α := fun i => bif Nat.beq i 0 then zA_vRI_I 8 f_Row_at else fun _ _ _ => none
def zc_Row_agrees : Nat → Bool := fun pc => Nat.beq pc 2
def D_Row_agrees_2 (k : Nat → Int32 → Nat → Int32 → zM → Option (Int32 × zM)) (lv : zV) (st : List Value) (S : zM) : Option (Int32 × zM) := match lv, st with
  | [some (.ref a0), some (.int a1), some (.ref a2), some (.int a3)], [] => k a0 a1 a2 a3 S
  | _, _ => none
theorem d_Row_agrees_2 {g : zV → Nat → List Value → zM → Prop} (Hw : zWk g) {k : Nat → Int32 → Nat → Int32 → zM → Option (Int32 × zM)} {res : (Int32 × zM)} {lv : zV} {st : List Value} {S : zM} (h : D_Row_agrees_2 k lv st S = some res) (hk : ∀ a0 a1 a2 a3 S, k a0 a1 a2 a3 S = some res → g [some (.ref a0), some (.int a1), some (.ref a2), some (.int a3)] 2 [] S) : g lv 2 st S := by
  unfold D_Row_agrees_2 at h
  split at h
  · exact Hw _ _ _ _ _ (by simp [zle]) (hk _ _ _ _ _  h)
  · cases h
set_option maxRecDepth 100000 in
theorem r_Row_agrees_2 (n : Nat) (a0 : Nat) (a1 : Int32) (a2 : Nat) (a3 : Int32) (S : zM) : L_Row_agrees_2 (n + 1) a0 a1 a2 a3 S = zrt true zP_Row_agrees (zE_Row_agrees (Int32 × zM)) zc_Row_agrees zkI (fun pc lv st S => bif Nat.beq pc 2 then D_Row_agrees_2 (L_Row_agrees_2 n) lv st S else none) 1000 2 [some (.ref a0), some (.int a1), some (.ref a2), some (.int a3)] [] S := rfl
theorem g_Row_agrees_2 {g : zV → Nat → List Value → zM → Prop} {res : (Int32 × zM)} (H : zCl true zP_Row_agrees (zE_Row_agrees (Int32 × zM)) zkI res g) (Hw : zWk g) (n : Nat) : ∀ (a0 : Nat) (a1 : Int32) (a2 : Nat) (a3 : Int32) (S : zM), L_Row_agrees_2 n a0 a1 a2 a3 S = some res → g [some (.ref a0), some (.int a1), some (.ref a2), some (.int a3)] 2 [] S := by
  induction n with
  | zero => intro a0 a1 a2 a3 S h; cases h
  | succ n ih =>
    intro a0 a1 a2 a3 S h
    refine H zc_Row_agrees _ 1000 _ _ _ _ ((r_Row_agrees_2 n a0 a1 a2 a3 S).symm.trans h) (fun pc lv st S hK => ?_)
    rcases zdis hK with ⟨rfl, hK⟩ | hK
    · exact d_Row_agrees_2 Hw hK ih
    cases hK
set_option maxRecDepth 100000 in
theorem r_Row_agrees (a0 : Nat) (a1 : Int32) (a2 : Nat) (S : zM) : f_Row_agrees a0 a1 a2 S = zrt true zP_Row_agrees (zE_Row_agrees (Int32 × zM)) zc_Row_agrees zkI (fun pc lv st S => bif Nat.beq pc 2 then D_Row_agrees_2 (L_Row_agrees_2 zF) lv st S else none) 1000 0 [some (.ref a0), some (.int a1), some (.ref a2), none] [] S := rfl
theorem G_Row_agrees {g : zV → Nat → List Value → zM → Prop} {res : (Int32 × zM)} (H : zCl true zP_Row_agrees (zE_Row_agrees (Int32 × zM)) zkI res g) (Hw : zWk g) (a0 : Nat) (a1 : Int32) (a2 : Nat) (S : zM) (h : f_Row_agrees a0 a1 a2 S = some res) : g [some (.ref a0), some (.int a1), some (.ref a2), none] 0 [] S := by
  refine H zc_Row_agrees _ 1000 _ _ _ _ ((r_Row_agrees a0 a1 a2 S).symm.trans h) (fun pc lv st S hK => ?_)
  rcases zdis hK with ⟨rfl, hK⟩ | hK
  · exact d_Row_agrees_2 Hw hK (g_Row_agrees_2 H Hw  zF)
  cases hK
set_option maxRecDepth 100000 in
theorem ok_Row_agrees : zokT 8 [50] false 1 21 4 true (some .boolean) cX8_agrees zP_Row_agrees = true := by decide +kernel
set_option maxRecDepth 100000 in
theorem s_Row_agrees {l : Launch} {HB : Heap} {b L : Nat} {xs : Nat → Int32} {aK aV : Nat → Nat} {G : va_G} {tc : Nat → ClassId} (h0 : zSnd l HB b L xs aK aV G tc (zMT.getD 50 zyD) (fun α => zA_vRI_I 8 f_Row_at)) : zSnd l HB b L xs aK aV G tc (zMT.getD 135 zyD) (fun α => zA_vRIR_I 8 f_Row_agrees) := by
  rw [show zMT.getD 135 zyD = (yX8_agrees, cX8_agrees, 4, (some .boolean), 0, 3, 1, 21) from rfl]
  intro α as S k res h
  unfold zA_vRIR_I at h
  dsimp only at h
  split at h
  · rename_i a0 a1 a2
    obtain ⟨p, hp, h⟩ := zbind h
    unfold zcl at hp
    split at hp
    · rename_i hkd
      have hm := zmeth (l := l) (HB := HB) (b := b) (L := L) (xs := xs) (aK := aK) (aV := aV) (G := G) (tc := tc) (q := (yX8_agrees, cX8_agrees, 4, (some .boolean), 0, 3, 1, 21)) (o := 8) (cs := [50]) (rz := true) (T := zP_Row_agrees) (E := zE_Row_agrees (Int32 × zM)) (kr := zkI) (res := p) (v0 := some (.int p.1)) (S0 := p.2) (as := [.ref a0, .int a1, .ref a2]) (S := S) zMT_fine (by decide +kernel) (fun i as S k' h => by
        unfold zE_Row_agrees at h
        rcases zdisf h with ⟨rfl, h⟩ | h
        · exact h0 _ _ _ _ _ h
        cases h) ok_Row_agrees rfl (fun v S' h => zkI_inv h) (Nat.le_of_ble_eq_true rfl) (fun g H Hw => Hw _ [some (.ref a0), some (.int a1), some (.ref a2), none] _ _ _ ⟨rfl, rfl, rfl, trivial⟩ (G_Row_agrees H Hw a0 a1 a2 S hp))
      exact ⟨_, _, h, hm.1, rfl, fun _ => ⟨_, _, rfl⟩, (fun _ U H hK hH a r e => by cases e; exact zrecv (ci := 8) (by omega) hkd rfl U H hK hH), hm.2⟩
    · cases hp
  · cases h
def zP_Pieces_reach : List (List (Nat × zE)) := [[(0, e1 (.iload_n 1) 1 1), (1, ei (.iconst 4) 2 0 (4)), (2, e0 (.imul) 3), (3, e1 (.iload_n 2) 4 2), (4, e0 (.iadd) 5), (5, e1 (.istore 4) 7 4), (7, e1 (.iload 4) 9 4), (9, e1 (.ifCond .lt 37) 12 46), (12, e1 (.iload 4) 14 4), (14, e1 (.aload_n 0) 15 0), (15, e3 (.getfield 24) 18 6 3 2)],
  [(18, e0 (.arraylength) 19), (19, e1 (.if_icmp .ge 27) 22 46), (22, e1 (.iload_n 3) 23 3), (23, e1 (.aload_n 0) 24 0), (24, e3 (.getfield 24) 27 6 3 2), (27, e1 (.iload 4) 29 4), (29, e0 (.iaload) 30), (30, e1 (.if_icmp .ge 16) 33 46)],
  [(33, e1 (.aload_n 0) 34 0), (34, e3 (.getfield 24) 37 6 3 2), (37, e1 (.iload 4) 39 4), (39, e1 (.iload_n 3) 40 3), (40, e0 (.iastore) 41), (41, e1 (.aload_n 0) 42 0), (42, ei (.iconst 1) 43 0 (1)), (43, e3 (.putfield 87) 46 6 7 1), (46, e0 (.return_) 47)]]
noncomputable def zE_Pieces_reach (α : Type) : Nat → zX α := fun _ => fun _ _ _ => none
def zc_Pieces_reach : Nat → Bool := fun pc => false
set_option maxRecDepth 100000 in
theorem r_Pieces_reach (a0 : Nat) (a1 : Int32) (a2 : Int32) (a3 : Int32) (S : zM) : f_Pieces_reach a0 a1 a2 a3 S = zrt false zP_Pieces_reach (zE_Pieces_reach zM) zc_Pieces_reach zkV (fun pc lv st S => none) 1000 0 [some (.ref a0), some (.int a1), some (.int a2), some (.int a3), none] [] S := rfl
theorem G_Pieces_reach {g : zV → Nat → List Value → zM → Prop} {res : zM} (H : zCl false zP_Pieces_reach (zE_Pieces_reach zM) zkV res g) (Hw : zWk g) (a0 : Nat) (a1 : Int32) (a2 : Int32) (a3 : Int32) (S : zM) (h : f_Pieces_reach a0 a1 a2 a3 S = some res) : g [some (.ref a0), some (.int a1), some (.int a2), some (.int a3), none] 0 [] S := by
  refine H zc_Pieces_reach _ 1000 _ _ _ _ ((r_Pieces_reach a0 a1 a2 a3 S).symm.trans h) (fun pc lv st S hK => ?_)
  cases hK
set_option maxRecDepth 100000 in
theorem ok_Pieces_reach : zokT 6 [] false 0 0 5 false none cX6_reach zP_Pieces_reach = true := by decide +kernel
set_option maxRecDepth 100000 in
theorem s_Pieces_reach {l : Launch} {HB : Heap} {b L : Nat} {xs : Nat → Int32} {aK aV : Nat → Nat} {G : va_G} {tc : Nat → ClassId} : zSnd l HB b L xs aK aV G tc (zMT.getD 136 zyD) (fun α => zA_vRIII_V 6 f_Pieces_reach) := by
  rw [show zMT.getD 136 zyD = (yX6_reach, cX6_reach, 5, none, 0, 4, 0, 0) from rfl]
  intro α as S k res h
  unfold zA_vRIII_V at h
  dsimp only at h
  split at h
  · rename_i a0 a1 a2 a3
    obtain ⟨p, hp, h⟩ := zbind h
    unfold zcl at hp
    split at hp
    · rename_i hkd
      have hm := zmeth (l := l) (HB := HB) (b := b) (L := L) (xs := xs) (aK := aK) (aV := aV) (G := G) (tc := tc) (q := (yX6_reach, cX6_reach, 5, none, 0, 4, 0, 0)) (o := 6) (cs := []) (rz := false) (T := zP_Pieces_reach) (E := zE_Pieces_reach zM) (kr := zkV) (res := p) (v0 := none) (S0 := p) (as := [.ref a0, .int a1, .int a2, .int a3]) (S := S) zMT_fine (by decide +kernel) (fun i as S k' h => by
        unfold zE_Pieces_reach at h
        cases h) ok_Pieces_reach rfl (fun v S' h => zkV_inv h) (Nat.le_of_ble_eq_true rfl) (fun g H Hw => Hw _ [some (.ref a0), some (.int a1), some (.int a2), some (.int a3), none] _ _ _ ⟨rfl, rfl, rfl, rfl, trivial⟩ (G_Pieces_reach H Hw a0 a1 a2 a3 S hp))
      exact ⟨_, _, h, hm.1, rfl, fun _ => ⟨_, _, rfl⟩, (fun _ U H hK hH a r e => by cases e; exact zrecv (ci := 6) (by omega) hkd rfl U H hK hH), hm.2⟩
    · cases hp
  · cases h
def zP_Pieces_follow : List (List (Nat × zE)) := [[(0, e1 (.aload_n 0) 1 0), (1, e1 (.iload_n 1) 2 1), (2, e3 (.invokevirtual 76) 5 0 2 0), (5, e1 (.astore 5) 7 5), (7, e1 (.aload_n 0) 8 0), (8, e1 (.iload 4) 10 4), (10, e3 (.invokevirtual 76) 13 0 2 0), (13, e1 (.astore 6) 15 6), (15, e1 (.aload 5) 17 5)],
  [(17, e1 (.ifnull 19) 20 36), (20, e1 (.aload 6) 22 6), (22, e1 (.ifnull 14) 25 36), (25, e1 (.aload 5) 27 5), (27, e1 (.iload_n 2) 28 2), (28, e1 (.aload 6) 30 6), (30, e3 (.invokevirtual 94) 33 1 3 0)],
  [(33, e1 (.ifCond .ne 4) 36 37), (36, e0 (.return_) 37), (37, e1 (.aload 5) 39 5), (39, e3 (.getfield 80) 42 8 1 0), (42, e1 (.iload_n 2) 43 2), (43, e0 (.isub) 44), (44, e1 (.istore 7) 46 7), (46, e1 (.aload 6) 48 6)],
  [(48, e3 (.getfield 80) 51 8 1 0), (51, e1 (.iload 7) 53 7), (53, e1 (.if_icmp .ne 18) 56 71), (56, e1 (.aload_n 0) 57 0), (57, e1 (.aload_n 0) 58 0), (58, e3 (.getfield 73) 61 6 6 0), (61, e1 (.iload_n 3) 62 3), (62, e3 (.invokestatic 98) 65 996 2 0)],
  [(65, e3 (.putfield 73) 68 6 6 0), (68, e1 (.goto 47) 71 115), (71, e1 (.aload 6) 73 6), (73, e3 (.getfield 80) 76 8 1 0), (76, e1 (.iload 7) 78 7), (78, e1 (.if_icmp .ge 19) 81 97)],
  [(81, e1 (.aload_n 0) 82 0), (82, e1 (.iload_n 1) 83 1), (83, e1 (.iload_n 2) 84 2), (84, e1 (.aload 6) 86 6), (86, e3 (.getfield 80) 89 8 1 0), (89, e0 (.iadd) 90), (90, e1 (.iload_n 3) 91 3), (91, e3 (.invokevirtual 104) 94 2 4 0), (94, e1 (.goto 21) 97 115)],
  [(97, e1 (.aload_n 0) 98 0), (98, e1 (.iload 4) 100 4), (100, e1 (.iload 7) 102 7), (102, e1 (.iload_n 3) 103 3), (103, e1 (.aload 6) 105 6), (105, e3 (.getfield 80) 108 8 1 0), (108, e0 (.iadd) 109), (109, e1 (.iload 7) 111 7), (111, e0 (.isub) 112)],
  [(112, e3 (.invokevirtual 104) 115 2 4 0), (115, e0 (.return_) 116)]]
noncomputable def zE_Pieces_follow (α : Type) : Nat → zX α := fun i => bif Nat.beq i 0 then zA_vRI_N 6 f_Pieces_lettersOf else bif Nat.beq i 1 then zA_vRIR_I 8 f_Row_agrees else bif Nat.beq i 2 then zA_vRIII_V 6 f_Pieces_reach else fun _ _ _ => none
def zc_Pieces_follow : Nat → Bool := fun pc => false
set_option maxRecDepth 100000 in
theorem r_Pieces_follow (a0 : Nat) (a1 : Int32) (a2 : Int32) (a3 : Int32) (a4 : Int32) (S : zM) : f_Pieces_follow a0 a1 a2 a3 a4 S = zrt false zP_Pieces_follow (zE_Pieces_follow zM) zc_Pieces_follow zkV (fun pc lv st S => none) 1000 0 [some (.ref a0), some (.int a1), some (.int a2), some (.int a3), some (.int a4), none, none, none] [] S := rfl
theorem G_Pieces_follow {g : zV → Nat → List Value → zM → Prop} {res : zM} (H : zCl false zP_Pieces_follow (zE_Pieces_follow zM) zkV res g) (Hw : zWk g) (a0 : Nat) (a1 : Int32) (a2 : Int32) (a3 : Int32) (a4 : Int32) (S : zM) (h : f_Pieces_follow a0 a1 a2 a3 a4 S = some res) : g [some (.ref a0), some (.int a1), some (.int a2), some (.int a3), some (.int a4), none, none, none] 0 [] S := by
  refine H zc_Pieces_follow _ 1000 _ _ _ _ ((r_Pieces_follow a0 a1 a2 a3 a4 S).symm.trans h) (fun pc lv st S hK => ?_)
  cases hK
set_option maxRecDepth 100000 in
theorem ok_Pieces_follow : zokT 6 [134, 135, 136] false 2 44 8 false none cX6_follow zP_Pieces_follow = true := by decide +kernel
set_option maxRecDepth 100000 in
theorem s_Pieces_follow {l : Launch} {HB : Heap} {b L : Nat} {xs : Nat → Int32} {aK aV : Nat → Nat} {G : va_G} {tc : Nat → ClassId} (h0 : zSnd l HB b L xs aK aV G tc (zMT.getD 134 zyD) (fun α => zA_vRI_N 6 f_Pieces_lettersOf)) (h1 : zSnd l HB b L xs aK aV G tc (zMT.getD 135 zyD) (fun α => zA_vRIR_I 8 f_Row_agrees)) (h2 : zSnd l HB b L xs aK aV G tc (zMT.getD 136 zyD) (fun α => zA_vRIII_V 6 f_Pieces_reach)) : zSnd l HB b L xs aK aV G tc (zMT.getD 137 zyD) (fun α => zA_vRIIII_V 6 f_Pieces_follow) := by
  rw [show zMT.getD 137 zyD = (yX6_follow, cX6_follow, 8, none, 0, 5, 2, 44) from rfl]
  intro α as S k res h
  unfold zA_vRIIII_V at h
  dsimp only at h
  split at h
  · rename_i a0 a1 a2 a3 a4
    obtain ⟨p, hp, h⟩ := zbind h
    unfold zcl at hp
    split at hp
    · rename_i hkd
      have hm := zmeth (l := l) (HB := HB) (b := b) (L := L) (xs := xs) (aK := aK) (aV := aV) (G := G) (tc := tc) (q := (yX6_follow, cX6_follow, 8, none, 0, 5, 2, 44)) (o := 6) (cs := [134, 135, 136]) (rz := false) (T := zP_Pieces_follow) (E := zE_Pieces_follow zM) (kr := zkV) (res := p) (v0 := none) (S0 := p) (as := [.ref a0, .int a1, .int a2, .int a3, .int a4]) (S := S) zMT_fine (by decide +kernel) (fun i as S k' h => by
        unfold zE_Pieces_follow at h
        rcases zdisf h with ⟨rfl, h⟩ | h
        · exact h0 _ _ _ _ _ h
        rcases zdisf h with ⟨rfl, h⟩ | h
        · exact h1 _ _ _ _ _ h
        rcases zdisf h with ⟨rfl, h⟩ | h
        · exact h2 _ _ _ _ _ h
        cases h) ok_Pieces_follow rfl (fun v S' h => zkV_inv h) (Nat.le_of_ble_eq_true rfl) (fun g H Hw => Hw _ [some (.ref a0), some (.int a1), some (.int a2), some (.int a3), some (.int a4), none, none, none] _ _ _ ⟨rfl, rfl, rfl, rfl, rfl, trivial⟩ (G_Pieces_follow H Hw a0 a1 a2 a3 a4 S hp))
      exact ⟨_, _, h, hm.1, rfl, fun _ => ⟨_, _, rfl⟩, (fun _ U H hK hH a r e => by cases e; exact zrecv (ci := 6) (by omega) hkd rfl U H hK hH), hm.2⟩
    · cases hp
  · cases h
def zP_Pieces_followAll : List (List (Nat × zE)) := [[(0, ei (.iconst 0) 1 0 (0)), (1, e1 (.istore_n 1) 2 1), (2, e1 (.iload_n 1) 3 1), (3, e1 (.aload_n 0) 4 0), (4, e3 (.getfield 24) 7 6 3 2), (7, e0 (.arraylength) 8), (8, e1 (.if_icmp .ge 55) 11 63), (11, e1 (.aload_n 0) 12 0), (12, e3 (.getfield 24) 15 6 3 2), (15, e1 (.iload_n 1) 16 1)],
  [(16, e0 (.iaload) 17), (17, e1 (.aload_n 0) 18 0), (18, e3 (.getfield 73) 21 6 6 0), (21, e1 (.if_icmp .ge 36) 24 57), (24, ei (.iconst 0) 25 0 (0)), (25, e1 (.istore_n 2) 26 2), (26, e1 (.iload_n 2) 27 2), (27, e1 (.aload_n 0) 28 0), (28, e3 (.getfield 37) 31 6 5 0), (31, e1 (.if_icmp .ge 26) 34 57)],
  [(34, e1 (.aload_n 0) 35 0), (35, e1 (.iload_n 1) 36 1), (36, ei (.iconst 4) 37 0 (4)), (37, e0 (.idiv) 38), (38, e1 (.iload_n 1) 39 1), (39, ei (.iconst 4) 40 0 (4)), (40, e0 (.irem) 41), (41, e1 (.aload_n 0) 42 0), (42, e3 (.getfield 24) 45 6 3 2), (45, e1 (.iload_n 1) 46 1), (46, e0 (.iaload) 47), (47, e1 (.iload_n 2) 48 2)],
  [(48, e3 (.invokevirtual 83) 51 0 5 0), (51, ei (.iinc 2 1) 54 2 (1)), (54, e1 (.goto (-28)) 57 26), (57, ei (.iinc 1 1) 60 1 (1)), (60, e1 (.goto (-58)) 63 2), (63, e0 (.return_) 64)]]
noncomputable def zE_Pieces_followAll (α : Type) : Nat → zX α := fun i => bif Nat.beq i 0 then zA_vRIIII_V 6 f_Pieces_follow else fun _ _ _ => none
def zc_Pieces_followAll : Nat → Bool := fun pc => Nat.beq pc 2 || Nat.beq pc 26 || Nat.beq pc 57
def D_Pieces_followAll_2 (k : Nat → Int32 → zM → Option zM) (lv : zV) (st : List Value) (S : zM) : Option zM := match lv, st with
  | [some (.ref a0), some (.int a1), _], [] => k a0 a1 S
  | _, _ => none
theorem d_Pieces_followAll_2 {g : zV → Nat → List Value → zM → Prop} (Hw : zWk g) {k : Nat → Int32 → zM → Option zM} {res : zM} {lv : zV} {st : List Value} {S : zM} (h : D_Pieces_followAll_2 k lv st S = some res) (hk : ∀ a0 a1 S, k a0 a1 S = some res → g [some (.ref a0), some (.int a1), none] 2 [] S) : g lv 2 st S := by
  unfold D_Pieces_followAll_2 at h
  split at h
  · exact Hw _ _ _ _ _ (by simp [zle]) (hk _ _ _  h)
  · cases h
def D_Pieces_followAll_26 (k : Nat → Int32 → Int32 → zM → Option zM) (lv : zV) (st : List Value) (S : zM) : Option zM := match lv, st with
  | [some (.ref a0), some (.int a1), some (.int a2)], [] => k a0 a1 a2 S
  | _, _ => none
theorem d_Pieces_followAll_26 {g : zV → Nat → List Value → zM → Prop} (Hw : zWk g) {k : Nat → Int32 → Int32 → zM → Option zM} {res : zM} {lv : zV} {st : List Value} {S : zM} (h : D_Pieces_followAll_26 k lv st S = some res) (hk : ∀ a0 a1 a2 S, k a0 a1 a2 S = some res → g [some (.ref a0), some (.int a1), some (.int a2)] 26 [] S) : g lv 26 st S := by
  unfold D_Pieces_followAll_26 at h
  split at h
  · exact Hw _ _ _ _ _ (by simp [zle]) (hk _ _ _ _  h)
  · cases h
def D_Pieces_followAll_57 (k : Nat → Int32 → zM → Option zM) (lv : zV) (st : List Value) (S : zM) : Option zM := match lv, st with
  | [some (.ref a0), some (.int a1), _], [] => k a0 a1 S
  | _, _ => none
theorem d_Pieces_followAll_57 {g : zV → Nat → List Value → zM → Prop} (Hw : zWk g) {k : Nat → Int32 → zM → Option zM} {res : zM} {lv : zV} {st : List Value} {S : zM} (h : D_Pieces_followAll_57 k lv st S = some res) (hk : ∀ a0 a1 S, k a0 a1 S = some res → g [some (.ref a0), some (.int a1), none] 57 [] S) : g lv 57 st S := by
  unfold D_Pieces_followAll_57 at h
  split at h
  · exact Hw _ _ _ _ _ (by simp [zle]) (hk _ _ _  h)
  · cases h
set_option maxRecDepth 100000 in
theorem r_Pieces_followAll_57 (k2 : Nat → Int32 → zM → Option zM) (a0 : Nat) (a1 : Int32) (S : zM) : F_Pieces_followAll_57 k2 a0 a1 S = zrt false zP_Pieces_followAll (zE_Pieces_followAll zM) zc_Pieces_followAll zkV (fun pc lv st S => bif Nat.beq pc 2 then D_Pieces_followAll_2 k2 lv st S else none) 1000 57 [some (.ref a0), some (.int a1), none] [] S := rfl
theorem g_Pieces_followAll_57 {g : zV → Nat → List Value → zM → Prop} {res : zM} (H : zCl false zP_Pieces_followAll (zE_Pieces_followAll zM) zkV res g) (Hw : zWk g) {k2 : Nat → Int32 → zM → Option zM} (hk2 : ∀ a0 a1 S, k2 a0 a1 S = some res → g [some (.ref a0), some (.int a1), none] 2 [] S) (a0 : Nat) (a1 : Int32) (S : zM) (h : F_Pieces_followAll_57 k2 a0 a1 S = some res) : g [some (.ref a0), some (.int a1), none] 57 [] S := by
  refine H zc_Pieces_followAll _ 1000 _ _ _ _ ((r_Pieces_followAll_57 k2 a0 a1 S).symm.trans h) (fun pc lv st S hK => ?_)
  rcases zdis hK with ⟨rfl, hK⟩ | hK
  · exact d_Pieces_followAll_2 Hw hK hk2
  cases hK
set_option maxRecDepth 100000 in
theorem r_Pieces_followAll_26 (k57 : Nat → Int32 → zM → Option zM) (n : Nat) (a0 : Nat) (a1 : Int32) (a2 : Int32) (S : zM) : L_Pieces_followAll_26 k57 (n + 1) a0 a1 a2 S = zrt false zP_Pieces_followAll (zE_Pieces_followAll zM) zc_Pieces_followAll zkV (fun pc lv st S => bif Nat.beq pc 26 then D_Pieces_followAll_26 (L_Pieces_followAll_26 k57 n) lv st S else bif Nat.beq pc 57 then D_Pieces_followAll_57 k57 lv st S else none) 1000 26 [some (.ref a0), some (.int a1), some (.int a2)] [] S := rfl
theorem g_Pieces_followAll_26 {g : zV → Nat → List Value → zM → Prop} {res : zM} (H : zCl false zP_Pieces_followAll (zE_Pieces_followAll zM) zkV res g) (Hw : zWk g) {k57 : Nat → Int32 → zM → Option zM} (hk57 : ∀ a0 a1 S, k57 a0 a1 S = some res → g [some (.ref a0), some (.int a1), none] 57 [] S) (n : Nat) : ∀ (a0 : Nat) (a1 : Int32) (a2 : Int32) (S : zM), L_Pieces_followAll_26 k57 n a0 a1 a2 S = some res → g [some (.ref a0), some (.int a1), some (.int a2)] 26 [] S := by
  induction n with
  | zero => intro a0 a1 a2 S h; cases h
  | succ n ih =>
    intro a0 a1 a2 S h
    refine H zc_Pieces_followAll _ 1000 _ _ _ _ ((r_Pieces_followAll_26 k57 n a0 a1 a2 S).symm.trans h) (fun pc lv st S hK => ?_)
    rcases zdis hK with ⟨rfl, hK⟩ | hK
    · exact d_Pieces_followAll_26 Hw hK ih
    rcases zdis hK with ⟨rfl, hK⟩ | hK
    · exact d_Pieces_followAll_57 Hw hK hk57
    cases hK
set_option maxRecDepth 100000 in
theorem r_Pieces_followAll_2 (n : Nat) (a0 : Nat) (a1 : Int32) (S : zM) : L_Pieces_followAll_2 (n + 1) a0 a1 S = zrt false zP_Pieces_followAll (zE_Pieces_followAll zM) zc_Pieces_followAll zkV (fun pc lv st S => bif Nat.beq pc 26 then D_Pieces_followAll_26 (L_Pieces_followAll_26 (F_Pieces_followAll_57 (L_Pieces_followAll_2 n)) zF) lv st S else bif Nat.beq pc 57 then D_Pieces_followAll_57 (F_Pieces_followAll_57 (L_Pieces_followAll_2 n)) lv st S else none) 1000 2 [some (.ref a0), some (.int a1), none] [] S := rfl
theorem g_Pieces_followAll_2 {g : zV → Nat → List Value → zM → Prop} {res : zM} (H : zCl false zP_Pieces_followAll (zE_Pieces_followAll zM) zkV res g) (Hw : zWk g) (n : Nat) : ∀ (a0 : Nat) (a1 : Int32) (S : zM), L_Pieces_followAll_2 n a0 a1 S = some res → g [some (.ref a0), some (.int a1), none] 2 [] S := by
  induction n with
  | zero => intro a0 a1 S h; cases h
  | succ n ih =>
    intro a0 a1 S h
    refine H zc_Pieces_followAll _ 1000 _ _ _ _ ((r_Pieces_followAll_2 n a0 a1 S).symm.trans h) (fun pc lv st S hK => ?_)
    rcases zdis hK with ⟨rfl, hK⟩ | hK
    · exact d_Pieces_followAll_26 Hw hK (g_Pieces_followAll_26 H Hw (g_Pieces_followAll_57 H Hw ih) zF)
    rcases zdis hK with ⟨rfl, hK⟩ | hK
    · exact d_Pieces_followAll_57 Hw hK (g_Pieces_followAll_57 H Hw ih)
    cases hK
set_option maxRecDepth 100000 in
theorem r_Pieces_followAll (a0 : Nat) (S : zM) : f_Pieces_followAll a0 S = zrt false zP_Pieces_followAll (zE_Pieces_followAll zM) zc_Pieces_followAll zkV (fun pc lv st S => bif Nat.beq pc 2 then D_Pieces_followAll_2 (L_Pieces_followAll_2 zF) lv st S else none) 1000 0 [some (.ref a0), none, none] [] S := rfl
theorem G_Pieces_followAll {g : zV → Nat → List Value → zM → Prop} {res : zM} (H : zCl false zP_Pieces_followAll (zE_Pieces_followAll zM) zkV res g) (Hw : zWk g) (a0 : Nat) (S : zM) (h : f_Pieces_followAll a0 S = some res) : g [some (.ref a0), none, none] 0 [] S := by
  refine H zc_Pieces_followAll _ 1000 _ _ _ _ ((r_Pieces_followAll a0 S).symm.trans h) (fun pc lv st S hK => ?_)
  rcases zdis hK with ⟨rfl, hK⟩ | hK
  · exact d_Pieces_followAll_2 Hw hK (g_Pieces_followAll_2 H Hw  zF)
  cases hK
set_option maxRecDepth 100000 in
theorem ok_Pieces_followAll : zokT 6 [137] false 3 71 3 false none cX6_followAll zP_Pieces_followAll = true := by decide +kernel
set_option maxRecDepth 100000 in
theorem s_Pieces_followAll {l : Launch} {HB : Heap} {b L : Nat} {xs : Nat → Int32} {aK aV : Nat → Nat} {G : va_G} {tc : Nat → ClassId} (h0 : zSnd l HB b L xs aK aV G tc (zMT.getD 137 zyD) (fun α => zA_vRIIII_V 6 f_Pieces_follow)) : zSnd l HB b L xs aK aV G tc (zMT.getD 138 zyD) (fun α => zA_vR_V 6 f_Pieces_followAll) := by
  rw [show zMT.getD 138 zyD = (yX6_followAll, cX6_followAll, 3, none, 0, 1, 3, 71) from rfl]
  intro α as S k res h
  unfold zA_vR_V at h
  dsimp only at h
  split at h
  · rename_i a0
    obtain ⟨p, hp, h⟩ := zbind h
    unfold zcl at hp
    split at hp
    · rename_i hkd
      have hm := zmeth (l := l) (HB := HB) (b := b) (L := L) (xs := xs) (aK := aK) (aV := aV) (G := G) (tc := tc) (q := (yX6_followAll, cX6_followAll, 3, none, 0, 1, 3, 71)) (o := 6) (cs := [137]) (rz := false) (T := zP_Pieces_followAll) (E := zE_Pieces_followAll zM) (kr := zkV) (res := p) (v0 := none) (S0 := p) (as := [.ref a0]) (S := S) zMT_fine (by decide +kernel) (fun i as S k' h => by
        unfold zE_Pieces_followAll at h
        rcases zdisf h with ⟨rfl, h⟩ | h
        · exact h0 _ _ _ _ _ h
        cases h) ok_Pieces_followAll rfl (fun v S' h => zkV_inv h) (Nat.le_of_ble_eq_true rfl) (fun g H Hw => Hw _ [some (.ref a0), none, none] _ _ _ ⟨rfl, trivial⟩ (G_Pieces_followAll H Hw a0 S hp))
      exact ⟨_, _, h, hm.1, rfl, fun _ => ⟨_, _, rfl⟩, (fun _ U H hK hH a r e => by cases e; exact zrecv (ci := 6) (by omega) hkd rfl U H hK hH), hm.2⟩
    · cases hp
  · cases h
def zP_Pieces_fewestReadTwice : List (List (Nat × zE)) := [[(0, e1 (.aload_n 0) 1 0), (1, e3 (.getfield 24) 4 6 3 2), (4, ei (.ldc 66) 6 0 (1000000)), (6, e3 (.invokestatic 67) 9 0 2 0), (9, e1 (.aload_n 0) 10 0), (10, ei (.ldc 66) 12 0 (1000000)), (12, e3 (.putfield 73) 15 6 6 0), (15, ei (.iconst 0) 16 0 (0))],
  [(16, e1 (.istore_n 1) 17 1), (17, e1 (.iload_n 1) 18 1), (18, e1 (.aload_n 0) 19 0), (19, e3 (.getfield 37) 22 6 5 0), (22, e1 (.if_icmp .ge 60) 25 82), (25, e1 (.aload_n 0) 26 0), (26, e1 (.iload_n 1) 27 1), (27, e3 (.invokevirtual 76) 30 1 2 0), (30, e1 (.astore_n 2) 31 2), (31, e1 (.aload_n 2) 32 2)],
  [(32, e1 (.ifnull 10) 35 42), (35, e1 (.aload_n 2) 36 2), (36, e3 (.getfield 80) 39 8 1 0), (39, e1 (.ifCond .ne 5) 42 44), (42, ei (.iconst 0) 43 0 (0)), (43, e0 (.ireturn) 44), (44, ei (.iconst 0) 45 0 (0)), (45, e1 (.istore_n 3) 46 3), (46, e1 (.iload_n 3) 47 3), (47, e1 (.aload_n 0) 48 0)],
  [(48, e3 (.getfield 37) 51 6 5 0), (51, e1 (.if_icmp .ge 25) 54 76), (54, e1 (.iload_n 3) 55 3), (55, e1 (.iload_n 1) 56 1), (56, e1 (.if_icmp .eq 14) 59 70), (59, e1 (.aload_n 0) 60 0), (60, e1 (.iload_n 1) 61 1), (61, ei (.iconst 0) 62 0 (0)), (62, e1 (.aload_n 2) 63 2), (63, e3 (.getfield 80) 66 8 1 0)],
  [(66, e1 (.iload_n 3) 67 3), (67, e3 (.invokevirtual 83) 70 2 5 0), (70, ei (.iinc 3 1) 73 3 (1)), (73, e1 (.goto (-27)) 76 46), (76, ei (.iinc 1 1) 79 1 (1)), (79, e1 (.goto (-62)) 82 17)],
  [(82, e1 (.aload_n 0) 83 0), (83, ei (.iconst 1) 84 0 (1)), (84, e3 (.putfield 87) 87 6 7 1), (87, ei (.iconst 0) 88 0 (0)), (88, e1 (.istore_n 1) 89 1), (89, e1 (.iload_n 1) 90 1), (90, e1 (.aload_n 0) 91 0), (91, e3 (.getfield 24) 94 6 3 2), (94, e0 (.arraylength) 95), (95, e1 (.if_icmp .ge 25) 98 120)],
  [(98, e1 (.aload_n 0) 99 0), (99, e3 (.getfield 87) 102 6 7 1), (102, e1 (.ifCond .eq 18) 105 120), (105, e1 (.aload_n 0) 106 0), (106, ei (.iconst 0) 107 0 (0)), (107, e3 (.putfield 87) 110 6 7 1), (110, e1 (.aload_n 0) 111 0), (111, e3 (.invokevirtual 91) 114 3 1 0)],
  [(114, ei (.iinc 1 1) 117 1 (1)), (117, e1 (.goto (-28)) 120 89), (120, e1 (.aload_n 0) 121 0), (121, e3 (.getfield 73) 124 6 6 0), (124, ei (.ldc 66) 126 0 (1000000)), (126, e1 (.if_icmp .ne 8) 129 134)],
  [(129, ei (.bipush (-2)) 131 0 (-2)), (131, e1 (.goto 7) 134 138), (134, e1 (.aload_n 0) 135 0), (135, e3 (.getfield 73) 138 6 6 0), (138, e0 (.ireturn) 139)]]
noncomputable def zE_Pieces_fewestReadTwice (α : Type) : Nat → zX α := fun i => bif Nat.beq i 0 then zA_RI_V f_J_fill else bif Nat.beq i 1 then zA_vRI_N 6 f_Pieces_lettersOf else bif Nat.beq i 2 then zA_vRIIII_V 6 f_Pieces_follow else bif Nat.beq i 3 then zA_vR_V 6 f_Pieces_followAll else fun _ _ _ => none
def zc_Pieces_fewestReadTwice : Nat → Bool := fun pc => Nat.beq pc 17 || Nat.beq pc 46 || Nat.beq pc 76 || Nat.beq pc 82 || Nat.beq pc 89
def D_Pieces_fewestReadTwice_17 (k : Nat → Int32 → zM → Option (Int32 × zM)) (lv : zV) (st : List Value) (S : zM) : Option (Int32 × zM) := match lv, st with
  | [some (.ref a0), some (.int a1), _, _], [] => k a0 a1 S
  | _, _ => none
theorem d_Pieces_fewestReadTwice_17 {g : zV → Nat → List Value → zM → Prop} (Hw : zWk g) {k : Nat → Int32 → zM → Option (Int32 × zM)} {res : (Int32 × zM)} {lv : zV} {st : List Value} {S : zM} (h : D_Pieces_fewestReadTwice_17 k lv st S = some res) (hk : ∀ a0 a1 S, k a0 a1 S = some res → g [some (.ref a0), some (.int a1), none, none] 17 [] S) : g lv 17 st S := by
  unfold D_Pieces_fewestReadTwice_17 at h
  split at h
  · exact Hw _ _ _ _ _ (by simp [zle]) (hk _ _ _  h)
  · cases h
def D_Pieces_fewestReadTwice_46 (k : Nat → Int32 → Nat → Int32 → zM → Option (Int32 × zM)) (lv : zV) (st : List Value) (S : zM) : Option (Int32 × zM) := match lv, st with
  | [some (.ref a0), some (.int a1), some (.ref a2), some (.int a3)], [] => k a0 a1 a2 a3 S
  | _, _ => none
theorem d_Pieces_fewestReadTwice_46 {g : zV → Nat → List Value → zM → Prop} (Hw : zWk g) {k : Nat → Int32 → Nat → Int32 → zM → Option (Int32 × zM)} {res : (Int32 × zM)} {lv : zV} {st : List Value} {S : zM} (h : D_Pieces_fewestReadTwice_46 k lv st S = some res) (hk : ∀ a0 a1 a2 a3 S, k a0 a1 a2 a3 S = some res → g [some (.ref a0), some (.int a1), some (.ref a2), some (.int a3)] 46 [] S) : g lv 46 st S := by
  unfold D_Pieces_fewestReadTwice_46 at h
  split at h
  · exact Hw _ _ _ _ _ (by simp [zle]) (hk _ _ _ _ _  h)
  · cases h
def D_Pieces_fewestReadTwice_76 (k : Nat → Int32 → zM → Option (Int32 × zM)) (lv : zV) (st : List Value) (S : zM) : Option (Int32 × zM) := match lv, st with
  | [some (.ref a0), some (.int a1), _, _], [] => k a0 a1 S
  | _, _ => none
theorem d_Pieces_fewestReadTwice_76 {g : zV → Nat → List Value → zM → Prop} (Hw : zWk g) {k : Nat → Int32 → zM → Option (Int32 × zM)} {res : (Int32 × zM)} {lv : zV} {st : List Value} {S : zM} (h : D_Pieces_fewestReadTwice_76 k lv st S = some res) (hk : ∀ a0 a1 S, k a0 a1 S = some res → g [some (.ref a0), some (.int a1), none, none] 76 [] S) : g lv 76 st S := by
  unfold D_Pieces_fewestReadTwice_76 at h
  split at h
  · exact Hw _ _ _ _ _ (by simp [zle]) (hk _ _ _  h)
  · cases h
def D_Pieces_fewestReadTwice_82 (k : Nat → zM → Option (Int32 × zM)) (lv : zV) (st : List Value) (S : zM) : Option (Int32 × zM) := match lv, st with
  | [some (.ref a0), _, _, _], [] => k a0 S
  | _, _ => none
theorem d_Pieces_fewestReadTwice_82 {g : zV → Nat → List Value → zM → Prop} (Hw : zWk g) {k : Nat → zM → Option (Int32 × zM)} {res : (Int32 × zM)} {lv : zV} {st : List Value} {S : zM} (h : D_Pieces_fewestReadTwice_82 k lv st S = some res) (hk : ∀ a0 S, k a0 S = some res → g [some (.ref a0), none, none, none] 82 [] S) : g lv 82 st S := by
  unfold D_Pieces_fewestReadTwice_82 at h
  split at h
  · exact Hw _ _ _ _ _ (by simp [zle]) (hk _ _  h)
  · cases h
def D_Pieces_fewestReadTwice_89 (k : Nat → Int32 → zM → Option (Int32 × zM)) (lv : zV) (st : List Value) (S : zM) : Option (Int32 × zM) := match lv, st with
  | [some (.ref a0), some (.int a1), _, _], [] => k a0 a1 S
  | _, _ => none
theorem d_Pieces_fewestReadTwice_89 {g : zV → Nat → List Value → zM → Prop} (Hw : zWk g) {k : Nat → Int32 → zM → Option (Int32 × zM)} {res : (Int32 × zM)} {lv : zV} {st : List Value} {S : zM} (h : D_Pieces_fewestReadTwice_89 k lv st S = some res) (hk : ∀ a0 a1 S, k a0 a1 S = some res → g [some (.ref a0), some (.int a1), none, none] 89 [] S) : g lv 89 st S := by
  unfold D_Pieces_fewestReadTwice_89 at h
  split at h
  · exact Hw _ _ _ _ _ (by simp [zle]) (hk _ _ _  h)
  · cases h
set_option maxRecDepth 100000 in
theorem r_Pieces_fewestReadTwice_89 (n : Nat) (a0 : Nat) (a1 : Int32) (S : zM) : L_Pieces_fewestReadTwice_89 (n + 1) a0 a1 S = zrt false zP_Pieces_fewestReadTwice (zE_Pieces_fewestReadTwice (Int32 × zM)) zc_Pieces_fewestReadTwice zkI (fun pc lv st S => bif Nat.beq pc 89 then D_Pieces_fewestReadTwice_89 (L_Pieces_fewestReadTwice_89 n) lv st S else none) 1000 89 [some (.ref a0), some (.int a1), none, none] [] S := rfl
theorem g_Pieces_fewestReadTwice_89 {g : zV → Nat → List Value → zM → Prop} {res : (Int32 × zM)} (H : zCl false zP_Pieces_fewestReadTwice (zE_Pieces_fewestReadTwice (Int32 × zM)) zkI res g) (Hw : zWk g) (n : Nat) : ∀ (a0 : Nat) (a1 : Int32) (S : zM), L_Pieces_fewestReadTwice_89 n a0 a1 S = some res → g [some (.ref a0), some (.int a1), none, none] 89 [] S := by
  induction n with
  | zero => intro a0 a1 S h; cases h
  | succ n ih =>
    intro a0 a1 S h
    refine H zc_Pieces_fewestReadTwice _ 1000 _ _ _ _ ((r_Pieces_fewestReadTwice_89 n a0 a1 S).symm.trans h) (fun pc lv st S hK => ?_)
    rcases zdis hK with ⟨rfl, hK⟩ | hK
    · exact d_Pieces_fewestReadTwice_89 Hw hK ih
    cases hK
set_option maxRecDepth 100000 in
theorem r_Pieces_fewestReadTwice_82 (k89 : Nat → Int32 → zM → Option (Int32 × zM)) (a0 : Nat) (S : zM) : F_Pieces_fewestReadTwice_82 k89 a0 S = zrt false zP_Pieces_fewestReadTwice (zE_Pieces_fewestReadTwice (Int32 × zM)) zc_Pieces_fewestReadTwice zkI (fun pc lv st S => bif Nat.beq pc 89 then D_Pieces_fewestReadTwice_89 k89 lv st S else none) 1000 82 [some (.ref a0), none, none, none] [] S := rfl
theorem g_Pieces_fewestReadTwice_82 {g : zV → Nat → List Value → zM → Prop} {res : (Int32 × zM)} (H : zCl false zP_Pieces_fewestReadTwice (zE_Pieces_fewestReadTwice (Int32 × zM)) zkI res g) (Hw : zWk g) {k89 : Nat → Int32 → zM → Option (Int32 × zM)} (hk89 : ∀ a0 a1 S, k89 a0 a1 S = some res → g [some (.ref a0), some (.int a1), none, none] 89 [] S) (a0 : Nat) (S : zM) (h : F_Pieces_fewestReadTwice_82 k89 a0 S = some res) : g [some (.ref a0), none, none, none] 82 [] S := by
  refine H zc_Pieces_fewestReadTwice _ 1000 _ _ _ _ ((r_Pieces_fewestReadTwice_82 k89 a0 S).symm.trans h) (fun pc lv st S hK => ?_)
  rcases zdis hK with ⟨rfl, hK⟩ | hK
  · exact d_Pieces_fewestReadTwice_89 Hw hK hk89
  cases hK
set_option maxRecDepth 100000 in
theorem r_Pieces_fewestReadTwice_76 (k17 : Nat → Int32 → zM → Option (Int32 × zM)) (a0 : Nat) (a1 : Int32) (S : zM) : F_Pieces_fewestReadTwice_76 k17 a0 a1 S = zrt false zP_Pieces_fewestReadTwice (zE_Pieces_fewestReadTwice (Int32 × zM)) zc_Pieces_fewestReadTwice zkI (fun pc lv st S => bif Nat.beq pc 17 then D_Pieces_fewestReadTwice_17 k17 lv st S else none) 1000 76 [some (.ref a0), some (.int a1), none, none] [] S := rfl
theorem g_Pieces_fewestReadTwice_76 {g : zV → Nat → List Value → zM → Prop} {res : (Int32 × zM)} (H : zCl false zP_Pieces_fewestReadTwice (zE_Pieces_fewestReadTwice (Int32 × zM)) zkI res g) (Hw : zWk g) {k17 : Nat → Int32 → zM → Option (Int32 × zM)} (hk17 : ∀ a0 a1 S, k17 a0 a1 S = some res → g [some (.ref a0), some (.int a1), none, none] 17 [] S) (a0 : Nat) (a1 : Int32) (S : zM) (h : F_Pieces_fewestReadTwice_76 k17 a0 a1 S = some res) : g [some (.ref a0), some (.int a1), none, none] 76 [] S := by
  refine H zc_Pieces_fewestReadTwice _ 1000 _ _ _ _ ((r_Pieces_fewestReadTwice_76 k17 a0 a1 S).symm.trans h) (fun pc lv st S hK => ?_)
  rcases zdis hK with ⟨rfl, hK⟩ | hK
  · exact d_Pieces_fewestReadTwice_17 Hw hK hk17
  cases hK
set_option maxRecDepth 100000 in
theorem r_Pieces_fewestReadTwice_46 (k76 : Nat → Int32 → zM → Option (Int32 × zM)) (n : Nat) (a0 : Nat) (a1 : Int32) (a2 : Nat) (a3 : Int32) (S : zM) : L_Pieces_fewestReadTwice_46 k76 (n + 1) a0 a1 a2 a3 S = zrt false zP_Pieces_fewestReadTwice (zE_Pieces_fewestReadTwice (Int32 × zM)) zc_Pieces_fewestReadTwice zkI (fun pc lv st S => bif Nat.beq pc 46 then D_Pieces_fewestReadTwice_46 (L_Pieces_fewestReadTwice_46 k76 n) lv st S else bif Nat.beq pc 76 then D_Pieces_fewestReadTwice_76 k76 lv st S else none) 1000 46 [some (.ref a0), some (.int a1), some (.ref a2), some (.int a3)] [] S := rfl
theorem g_Pieces_fewestReadTwice_46 {g : zV → Nat → List Value → zM → Prop} {res : (Int32 × zM)} (H : zCl false zP_Pieces_fewestReadTwice (zE_Pieces_fewestReadTwice (Int32 × zM)) zkI res g) (Hw : zWk g) {k76 : Nat → Int32 → zM → Option (Int32 × zM)} (hk76 : ∀ a0 a1 S, k76 a0 a1 S = some res → g [some (.ref a0), some (.int a1), none, none] 76 [] S) (n : Nat) : ∀ (a0 : Nat) (a1 : Int32) (a2 : Nat) (a3 : Int32) (S : zM), L_Pieces_fewestReadTwice_46 k76 n a0 a1 a2 a3 S = some res → g [some (.ref a0), some (.int a1), some (.ref a2), some (.int a3)] 46 [] S := by
  induction n with
  | zero => intro a0 a1 a2 a3 S h; cases h
  | succ n ih =>
    intro a0 a1 a2 a3 S h
    refine H zc_Pieces_fewestReadTwice _ 1000 _ _ _ _ ((r_Pieces_fewestReadTwice_46 k76 n a0 a1 a2 a3 S).symm.trans h) (fun pc lv st S hK => ?_)
    rcases zdis hK with ⟨rfl, hK⟩ | hK
    · exact d_Pieces_fewestReadTwice_46 Hw hK ih
    rcases zdis hK with ⟨rfl, hK⟩ | hK
    · exact d_Pieces_fewestReadTwice_76 Hw hK hk76
    cases hK
set_option maxRecDepth 100000 in
theorem r_Pieces_fewestReadTwice_17 (k82 : Nat → zM → Option (Int32 × zM)) (n : Nat) (a0 : Nat) (a1 : Int32) (S : zM) : L_Pieces_fewestReadTwice_17 k82 (n + 1) a0 a1 S = zrt false zP_Pieces_fewestReadTwice (zE_Pieces_fewestReadTwice (Int32 × zM)) zc_Pieces_fewestReadTwice zkI (fun pc lv st S => bif Nat.beq pc 46 then D_Pieces_fewestReadTwice_46 (L_Pieces_fewestReadTwice_46 (F_Pieces_fewestReadTwice_76 (L_Pieces_fewestReadTwice_17 k82 n)) zF) lv st S else bif Nat.beq pc 82 then D_Pieces_fewestReadTwice_82 k82 lv st S else none) 1000 17 [some (.ref a0), some (.int a1), none, none] [] S := rfl
theorem g_Pieces_fewestReadTwice_17 {g : zV → Nat → List Value → zM → Prop} {res : (Int32 × zM)} (H : zCl false zP_Pieces_fewestReadTwice (zE_Pieces_fewestReadTwice (Int32 × zM)) zkI res g) (Hw : zWk g) {k82 : Nat → zM → Option (Int32 × zM)} (hk82 : ∀ a0 S, k82 a0 S = some res → g [some (.ref a0), none, none, none] 82 [] S) (n : Nat) : ∀ (a0 : Nat) (a1 : Int32) (S : zM), L_Pieces_fewestReadTwice_17 k82 n a0 a1 S = some res → g [some (.ref a0), some (.int a1), none, none] 17 [] S := by
  induction n with
  | zero => intro a0 a1 S h; cases h
  | succ n ih =>
    intro a0 a1 S h
    refine H zc_Pieces_fewestReadTwice _ 1000 _ _ _ _ ((r_Pieces_fewestReadTwice_17 k82 n a0 a1 S).symm.trans h) (fun pc lv st S hK => ?_)
    rcases zdis hK with ⟨rfl, hK⟩ | hK
    · exact d_Pieces_fewestReadTwice_46 Hw hK (g_Pieces_fewestReadTwice_46 H Hw (g_Pieces_fewestReadTwice_76 H Hw ih) zF)
    rcases zdis hK with ⟨rfl, hK⟩ | hK
    · exact d_Pieces_fewestReadTwice_82 Hw hK hk82
    cases hK
set_option maxRecDepth 100000 in
theorem r_Pieces_fewestReadTwice (a0 : Nat) (S : zM) : f_Pieces_fewestReadTwice a0 S = zrt false zP_Pieces_fewestReadTwice (zE_Pieces_fewestReadTwice (Int32 × zM)) zc_Pieces_fewestReadTwice zkI (fun pc lv st S => bif Nat.beq pc 17 then D_Pieces_fewestReadTwice_17 (L_Pieces_fewestReadTwice_17 (F_Pieces_fewestReadTwice_82 (L_Pieces_fewestReadTwice_89 zF)) zF) lv st S else none) 1000 0 [some (.ref a0), none, none, none] [] S := rfl
theorem G_Pieces_fewestReadTwice {g : zV → Nat → List Value → zM → Prop} {res : (Int32 × zM)} (H : zCl false zP_Pieces_fewestReadTwice (zE_Pieces_fewestReadTwice (Int32 × zM)) zkI res g) (Hw : zWk g) (a0 : Nat) (S : zM) (h : f_Pieces_fewestReadTwice a0 S = some res) : g [some (.ref a0), none, none, none] 0 [] S := by
  refine H zc_Pieces_fewestReadTwice _ 1000 _ _ _ _ ((r_Pieces_fewestReadTwice a0 S).symm.trans h) (fun pc lv st S hK => ?_)
  rcases zdis hK with ⟨rfl, hK⟩ | hK
  · exact d_Pieces_fewestReadTwice_17 Hw hK (g_Pieces_fewestReadTwice_17 H Hw (g_Pieces_fewestReadTwice_82 H Hw (g_Pieces_fewestReadTwice_89 H Hw  zF)) zF)
  cases hK
set_option maxRecDepth 100000 in
theorem ok_Pieces_fewestReadTwice : zokT 6 [46, 134, 137, 138] false 4 93 4 false (some .int) cX6_fewestReadTwice zP_Pieces_fewestReadTwice = true := by decide +kernel
set_option maxRecDepth 100000 in
theorem s_Pieces_fewestReadTwice {l : Launch} {HB : Heap} {b L : Nat} {xs : Nat → Int32} {aK aV : Nat → Nat} {G : va_G} {tc : Nat → ClassId} (h0 : zSnd l HB b L xs aK aV G tc (zMT.getD 46 zyD) (fun α => zA_RI_V f_J_fill)) (h1 : zSnd l HB b L xs aK aV G tc (zMT.getD 134 zyD) (fun α => zA_vRI_N 6 f_Pieces_lettersOf)) (h2 : zSnd l HB b L xs aK aV G tc (zMT.getD 137 zyD) (fun α => zA_vRIIII_V 6 f_Pieces_follow)) (h3 : zSnd l HB b L xs aK aV G tc (zMT.getD 138 zyD) (fun α => zA_vR_V 6 f_Pieces_followAll)) : zSnd l HB b L xs aK aV G tc (zMT.getD 139 zyD) (fun α => zA_vR_I 6 f_Pieces_fewestReadTwice) := by
  rw [show zMT.getD 139 zyD = (yX6_fewestReadTwice, cX6_fewestReadTwice, 4, (some .int), 0, 1, 4, 93) from rfl]
  intro α as S k res h
  unfold zA_vR_I at h
  dsimp only at h
  split at h
  · rename_i a0
    obtain ⟨p, hp, h⟩ := zbind h
    unfold zcl at hp
    split at hp
    · rename_i hkd
      have hm := zmeth (l := l) (HB := HB) (b := b) (L := L) (xs := xs) (aK := aK) (aV := aV) (G := G) (tc := tc) (q := (yX6_fewestReadTwice, cX6_fewestReadTwice, 4, (some .int), 0, 1, 4, 93)) (o := 6) (cs := [46, 134, 137, 138]) (rz := false) (T := zP_Pieces_fewestReadTwice) (E := zE_Pieces_fewestReadTwice (Int32 × zM)) (kr := zkI) (res := p) (v0 := some (.int p.1)) (S0 := p.2) (as := [.ref a0]) (S := S) zMT_fine (by decide +kernel) (fun i as S k' h => by
        unfold zE_Pieces_fewestReadTwice at h
        rcases zdisf h with ⟨rfl, h⟩ | h
        · exact h0 _ _ _ _ _ h
        rcases zdisf h with ⟨rfl, h⟩ | h
        · exact h1 _ _ _ _ _ h
        rcases zdisf h with ⟨rfl, h⟩ | h
        · exact h2 _ _ _ _ _ h
        rcases zdisf h with ⟨rfl, h⟩ | h
        · exact h3 _ _ _ _ _ h
        cases h) ok_Pieces_fewestReadTwice rfl (fun v S' h => zkI_inv h) (Nat.le_of_ble_eq_true rfl) (fun g H Hw => Hw _ [some (.ref a0), none, none, none] _ _ _ ⟨rfl, trivial⟩ (G_Pieces_fewestReadTwice H Hw a0 S hp))
      exact ⟨_, _, h, hm.1, rfl, fun _ => ⟨_, _, rfl⟩, (fun _ U H hK hH a r e => by cases e; exact zrecv (ci := 6) (by omega) hkd rfl U H hK hH), hm.2⟩
    · cases hp
  · cases h
def zP_Cl_clear : List (List (Nat × zE)) := [[(0, e1 (.aload_n 0) 1 0), (1, e1 (.iload_n 1) 2 1), (2, e3 (.invokevirtual 199) 5 0 2 0), (5, e1 (.ifCond .ne 9) 8 14), (8, e1 (.aload_n 0) 9 0), (9, ei (.iconst 1) 10 0 (1)), (10, e3 (.invokevirtual 79) 13 1 2 0), (13, e0 (.ireturn) 14), (14, e1 (.aload_n 0) 15 0), (15, e1 (.aload_n 0) 16 0)],
  [(16, e3 (.getfield 51) 19 11 8 2), (19, e3 (.invokevirtual 208) 22 2 1 0), (22, ei (.bipush (-2)) 24 0 (-2)), (24, e1 (.if_icmp .ne 7) 27 31), (27, ei (.iconst 1) 28 0 (1)), (28, e1 (.goto 4) 31 32), (31, ei (.iconst 0) 32 0 (0))],
  [(32, e3 (.invokevirtual 109) 35 3 2 0), (35, e0 (.ireturn) 36)]]
noncomputable def zE_Cl_clear (α : Type) : Nat → zX α := fun i => bif Nat.beq i 0 then zA_vRI_I 11 f_Cl_gatherPieces else bif Nat.beq i 1 then zA_vRI_I 11 f_Cl_refuse else bif Nat.beq i 2 then zA_vR_I 6 f_Pieces_fewestReadTwice else bif Nat.beq i 3 then zA_vRI_I 11 f_Cl_answer else fun _ _ _ => none
def zc_Cl_clear : Nat → Bool := fun pc => false
set_option maxRecDepth 100000 in
theorem r_Cl_clear (a0 : Nat) (a1 : Int32) (S : zM) : f_Cl_clear a0 a1 S = zrt false zP_Cl_clear (zE_Cl_clear (Int32 × zM)) zc_Cl_clear zkI (fun pc lv st S => none) 1000 0 [some (.ref a0), some (.int a1)] [] S := rfl
theorem G_Cl_clear {g : zV → Nat → List Value → zM → Prop} {res : (Int32 × zM)} (H : zCl false zP_Cl_clear (zE_Cl_clear (Int32 × zM)) zkI res g) (Hw : zWk g) (a0 : Nat) (a1 : Int32) (S : zM) (h : f_Cl_clear a0 a1 S = some res) : g [some (.ref a0), some (.int a1)] 0 [] S := by
  refine H zc_Cl_clear _ 1000 _ _ _ _ ((r_Cl_clear a0 a1 S).symm.trans h) (fun pc lv st S hK => ?_)
  cases hK
set_option maxRecDepth 100000 in
theorem ok_Cl_clear : zokT 11 [126, 16, 139, 59] false 6 129 2 false (some .int) cX11_clear zP_Cl_clear = true := by decide +kernel
set_option maxRecDepth 100000 in
theorem s_Cl_clear {l : Launch} {HB : Heap} {b L : Nat} {xs : Nat → Int32} {aK aV : Nat → Nat} {G : va_G} {tc : Nat → ClassId} (h0 : zSnd l HB b L xs aK aV G tc (zMT.getD 126 zyD) (fun α => zA_vRI_I 11 f_Cl_gatherPieces)) (h1 : zSnd l HB b L xs aK aV G tc (zMT.getD 16 zyD) (fun α => zA_vRI_I 11 f_Cl_refuse)) (h2 : zSnd l HB b L xs aK aV G tc (zMT.getD 139 zyD) (fun α => zA_vR_I 6 f_Pieces_fewestReadTwice)) (h3 : zSnd l HB b L xs aK aV G tc (zMT.getD 59 zyD) (fun α => zA_vRI_I 11 f_Cl_answer)) : zSnd l HB b L xs aK aV G tc (zMT.getD 140 zyD) (fun α => zA_vRI_I 11 f_Cl_clear) := by
  rw [show zMT.getD 140 zyD = (yX11_clear, cX11_clear, 2, (some .int), 0, 2, 6, 129) from rfl]
  intro α as S k res h
  unfold zA_vRI_I at h
  dsimp only at h
  split at h
  · rename_i a0 a1
    obtain ⟨p, hp, h⟩ := zbind h
    unfold zcl at hp
    split at hp
    · rename_i hkd
      have hm := zmeth (l := l) (HB := HB) (b := b) (L := L) (xs := xs) (aK := aK) (aV := aV) (G := G) (tc := tc) (q := (yX11_clear, cX11_clear, 2, (some .int), 0, 2, 6, 129)) (o := 11) (cs := [126, 16, 139, 59]) (rz := false) (T := zP_Cl_clear) (E := zE_Cl_clear (Int32 × zM)) (kr := zkI) (res := p) (v0 := some (.int p.1)) (S0 := p.2) (as := [.ref a0, .int a1]) (S := S) zMT_fine (by decide +kernel) (fun i as S k' h => by
        unfold zE_Cl_clear at h
        rcases zdisf h with ⟨rfl, h⟩ | h
        · exact h0 _ _ _ _ _ h
        rcases zdisf h with ⟨rfl, h⟩ | h
        · exact h1 _ _ _ _ _ h
        rcases zdisf h with ⟨rfl, h⟩ | h
        · exact h2 _ _ _ _ _ h
        rcases zdisf h with ⟨rfl, h⟩ | h
        · exact h3 _ _ _ _ _ h
        cases h) ok_Cl_clear rfl (fun v S' h => zkI_inv h) (Nat.le_of_ble_eq_true rfl) (fun g H Hw => Hw _ [some (.ref a0), some (.int a1)] _ _ _ ⟨rfl, rfl, trivial⟩ (G_Cl_clear H Hw a0 a1 S hp))
      exact ⟨_, _, h, hm.1, rfl, fun _ => ⟨_, _, rfl⟩, (fun _ U H hK hH a r e => by cases e; exact zrecv (ci := 11) (by omega) hkd rfl U H hK hH), hm.2⟩
    · cases hp
  · cases h
def zP_Mo_areOne : List (List (Nat × zE)) := [[(0, e1 (.aload_n 0) 1 0), (1, e3 (.getfield 52) 4 12 33 2), (4, e1 (.iload_n 1) 5 1), (5, e0 (.iaload) 6), (6, e1 (.iload_n 2) 7 2), (7, e0 (.isub) 8), (8, e1 (.aload_n 0) 9 0), (9, e3 (.getfield 52) 12 12 33 2), (12, e1 (.iload_n 3) 13 3), (13, e0 (.iaload) 14), (14, e1 (.iload 4) 16 4)],
  [(16, e0 (.isub) 17), (17, e1 (.if_icmp .ge 14) 20 31), (20, e1 (.aload_n 0) 21 0), (21, e3 (.getfield 52) 24 12 33 2), (24, e1 (.iload_n 1) 25 1), (25, e0 (.iaload) 26), (26, e1 (.iload_n 2) 27 2), (27, e0 (.isub) 28), (28, e1 (.goto 12) 31 40), (31, e1 (.aload_n 0) 32 0)],
  [(32, e3 (.getfield 52) 35 12 33 2), (35, e1 (.iload_n 3) 36 3), (36, e0 (.iaload) 37), (37, e1 (.iload 4) 39 4), (39, e0 (.isub) 40), (40, e1 (.istore 5) 42 5), (42, ei (.iconst 0) 43 0 (0)), (43, e1 (.istore 6) 45 6), (45, e1 (.iload 6) 47 6), (47, e1 (.iload 5) 49 5)],
  [(49, e1 (.if_icmp .ge 41) 52 90), (52, e1 (.aload_n 0) 53 0), (53, e3 (.getfield 55) 56 12 34 2), (56, ei (.iconst 4) 57 0 (4)), (57, e1 (.iload_n 1) 58 1), (58, e0 (.imul) 59), (59, e1 (.iload_n 2) 60 2), (60, e0 (.iadd) 61), (61, e1 (.iload 6) 63 6), (63, e0 (.iadd) 64)],
  [(64, e0 (.iaload) 65), (65, e1 (.aload_n 0) 66 0), (66, e3 (.getfield 55) 69 12 34 2), (69, ei (.iconst 4) 70 0 (4)), (70, e1 (.iload_n 3) 71 3), (71, e0 (.imul) 72), (72, e1 (.iload 4) 74 4), (74, e0 (.iadd) 75), (75, e1 (.iload 6) 77 6), (77, e0 (.iadd) 78), (78, e0 (.iaload) 79), (79, e1 (.if_icmp .eq 5) 82 84)],
  [(82, ei (.iconst 0) 83 0 (0)), (83, e0 (.ireturn) 84), (84, ei (.iinc 6 1) 87 6 (1)), (87, e1 (.goto (-42)) 90 45), (90, ei (.iconst 1) 91 0 (1)), (91, e0 (.ireturn) 92)]]
noncomputable def zE_Mo_areOne (α : Type) : Nat → zX α := fun _ => fun _ _ _ => none
def zc_Mo_areOne : Nat → Bool := fun pc => Nat.beq pc 45
def D_Mo_areOne_45 (k : Nat → Int32 → Int32 → Int32 → Int32 → Int32 → Int32 → zM → Option (Int32 × zM)) (lv : zV) (st : List Value) (S : zM) : Option (Int32 × zM) := match lv, st with
  | [some (.ref a0), some (.int a1), some (.int a2), some (.int a3), some (.int a4), some (.int a5), some (.int a6)], [] => k a0 a1 a2 a3 a4 a5 a6 S
  | _, _ => none
theorem d_Mo_areOne_45 {g : zV → Nat → List Value → zM → Prop} (Hw : zWk g) {k : Nat → Int32 → Int32 → Int32 → Int32 → Int32 → Int32 → zM → Option (Int32 × zM)} {res : (Int32 × zM)} {lv : zV} {st : List Value} {S : zM} (h : D_Mo_areOne_45 k lv st S = some res) (hk : ∀ a0 a1 a2 a3 a4 a5 a6 S, k a0 a1 a2 a3 a4 a5 a6 S = some res → g [some (.ref a0), some (.int a1), some (.int a2), some (.int a3), some (.int a4), some (.int a5), some (.int a6)] 45 [] S) : g lv 45 st S := by
  unfold D_Mo_areOne_45 at h
  split at h
  · exact Hw _ _ _ _ _ (by simp [zle]) (hk _ _ _ _ _ _ _ _  h)
  · cases h
set_option maxRecDepth 100000 in
theorem r_Mo_areOne_45 (n : Nat) (a0 : Nat) (a1 : Int32) (a2 : Int32) (a3 : Int32) (a4 : Int32) (a5 : Int32) (a6 : Int32) (S : zM) : L_Mo_areOne_45 (n + 1) a0 a1 a2 a3 a4 a5 a6 S = zrt true zP_Mo_areOne (zE_Mo_areOne (Int32 × zM)) zc_Mo_areOne zkI (fun pc lv st S => bif Nat.beq pc 45 then D_Mo_areOne_45 (L_Mo_areOne_45 n) lv st S else none) 1000 45 [some (.ref a0), some (.int a1), some (.int a2), some (.int a3), some (.int a4), some (.int a5), some (.int a6)] [] S := rfl
theorem g_Mo_areOne_45 {g : zV → Nat → List Value → zM → Prop} {res : (Int32 × zM)} (H : zCl true zP_Mo_areOne (zE_Mo_areOne (Int32 × zM)) zkI res g) (Hw : zWk g) (n : Nat) : ∀ (a0 : Nat) (a1 : Int32) (a2 : Int32) (a3 : Int32) (a4 : Int32) (a5 : Int32) (a6 : Int32) (S : zM), L_Mo_areOne_45 n a0 a1 a2 a3 a4 a5 a6 S = some res → g [some (.ref a0), some (.int a1), some (.int a2), some (.int a3), some (.int a4), some (.int a5), some (.int a6)] 45 [] S := by
  induction n with
  | zero => intro a0 a1 a2 a3 a4 a5 a6 S h; cases h
  | succ n ih =>
    intro a0 a1 a2 a3 a4 a5 a6 S h
    refine H zc_Mo_areOne _ 1000 _ _ _ _ ((r_Mo_areOne_45 n a0 a1 a2 a3 a4 a5 a6 S).symm.trans h) (fun pc lv st S hK => ?_)
    rcases zdis hK with ⟨rfl, hK⟩ | hK
    · exact d_Mo_areOne_45 Hw hK ih
    cases hK
set_option maxRecDepth 100000 in
theorem r_Mo_areOne (a0 : Nat) (a1 : Int32) (a2 : Int32) (a3 : Int32) (a4 : Int32) (S : zM) : f_Mo_areOne a0 a1 a2 a3 a4 S = zrt true zP_Mo_areOne (zE_Mo_areOne (Int32 × zM)) zc_Mo_areOne zkI (fun pc lv st S => bif Nat.beq pc 45 then D_Mo_areOne_45 (L_Mo_areOne_45 zF) lv st S else none) 1000 0 [some (.ref a0), some (.int a1), some (.int a2), some (.int a3), some (.int a4), none, none] [] S := rfl
theorem G_Mo_areOne {g : zV → Nat → List Value → zM → Prop} {res : (Int32 × zM)} (H : zCl true zP_Mo_areOne (zE_Mo_areOne (Int32 × zM)) zkI res g) (Hw : zWk g) (a0 : Nat) (a1 : Int32) (a2 : Int32) (a3 : Int32) (a4 : Int32) (S : zM) (h : f_Mo_areOne a0 a1 a2 a3 a4 S = some res) : g [some (.ref a0), some (.int a1), some (.int a2), some (.int a3), some (.int a4), none, none] 0 [] S := by
  refine H zc_Mo_areOne _ 1000 _ _ _ _ ((r_Mo_areOne a0 a1 a2 a3 a4 S).symm.trans h) (fun pc lv st S hK => ?_)
  rcases zdis hK with ⟨rfl, hK⟩ | hK
  · exact d_Mo_areOne_45 Hw hK (g_Mo_areOne_45 H Hw  zF)
  cases hK
set_option maxRecDepth 100000 in
theorem ok_Mo_areOne : zokT 12 [] false 0 0 7 true (some .boolean) cX12_areOne zP_Mo_areOne = true := by decide +kernel
set_option maxRecDepth 100000 in
theorem s_Mo_areOne {l : Launch} {HB : Heap} {b L : Nat} {xs : Nat → Int32} {aK aV : Nat → Nat} {G : va_G} {tc : Nat → ClassId} : zSnd l HB b L xs aK aV G tc (zMT.getD 141 zyD) (fun α => zA_vRIIII_I 12 f_Mo_areOne) := by
  rw [show zMT.getD 141 zyD = (yX12_areOne, cX12_areOne, 7, (some .boolean), 0, 5, 0, 0) from rfl]
  intro α as S k res h
  unfold zA_vRIIII_I at h
  dsimp only at h
  split at h
  · rename_i a0 a1 a2 a3 a4
    obtain ⟨p, hp, h⟩ := zbind h
    unfold zcl at hp
    split at hp
    · rename_i hkd
      have hm := zmeth (l := l) (HB := HB) (b := b) (L := L) (xs := xs) (aK := aK) (aV := aV) (G := G) (tc := tc) (q := (yX12_areOne, cX12_areOne, 7, (some .boolean), 0, 5, 0, 0)) (o := 12) (cs := []) (rz := true) (T := zP_Mo_areOne) (E := zE_Mo_areOne (Int32 × zM)) (kr := zkI) (res := p) (v0 := some (.int p.1)) (S0 := p.2) (as := [.ref a0, .int a1, .int a2, .int a3, .int a4]) (S := S) zMT_fine (by decide +kernel) (fun i as S k' h => by
        unfold zE_Mo_areOne at h
        cases h) ok_Mo_areOne rfl (fun v S' h => zkI_inv h) (Nat.le_of_ble_eq_true rfl) (fun g H Hw => Hw _ [some (.ref a0), some (.int a1), some (.int a2), some (.int a3), some (.int a4), none, none] _ _ _ ⟨rfl, rfl, rfl, rfl, rfl, trivial⟩ (G_Mo_areOne H Hw a0 a1 a2 a3 a4 S hp))
      exact ⟨_, _, h, hm.1, rfl, fun _ => ⟨_, _, rfl⟩, (fun _ U H hK hH a r e => by cases e; exact zrecv (ci := 12) (by omega) hkd rfl U H hK hH), hm.2⟩
    · cases hp
  · cases h
def zP_Mo_isReached : List (List (Nat × zE)) := [[(0, ei (.iconst 5) 1 0 (5)), (1, e1 (.iload_n 1) 2 1), (2, e0 (.imul) 3), (3, e1 (.iload_n 2) 4 2), (4, e0 (.iadd) 5), (5, e1 (.istore 4) 7 4), (7, e1 (.aload_n 0) 8 0), (8, e3 (.getfield 58) 11 12 36 2), (11, e1 (.iload 4) 13 4), (13, e1 (.iload_n 3) 14 3), (14, e1 (.aload_n 0) 15 0), (15, e3 (.getfield 58) 18 12 36 2)],
  [(18, e1 (.iload 4) 20 4), (20, e0 (.iaload) 21), (21, e1 (.if_icmp .ge 7) 24 28), (24, e1 (.iload_n 3) 25 3), (25, e1 (.goto 10) 28 35), (28, e1 (.aload_n 0) 29 0), (29, e3 (.getfield 58) 32 12 36 2)],
  [(32, e1 (.iload 4) 34 4), (34, e0 (.iaload) 35), (35, e0 (.iastore) 36), (36, e0 (.return_) 37)]]
noncomputable def zE_Mo_isReached (α : Type) : Nat → zX α := fun _ => fun _ _ _ => none
def zc_Mo_isReached : Nat → Bool := fun pc => false
set_option maxRecDepth 100000 in
theorem r_Mo_isReached (a0 : Nat) (a1 : Int32) (a2 : Int32) (a3 : Int32) (S : zM) : f_Mo_isReached a0 a1 a2 a3 S = zrt false zP_Mo_isReached (zE_Mo_isReached zM) zc_Mo_isReached zkV (fun pc lv st S => none) 1000 0 [some (.ref a0), some (.int a1), some (.int a2), some (.int a3), none] [] S := rfl
theorem G_Mo_isReached {g : zV → Nat → List Value → zM → Prop} {res : zM} (H : zCl false zP_Mo_isReached (zE_Mo_isReached zM) zkV res g) (Hw : zWk g) (a0 : Nat) (a1 : Int32) (a2 : Int32) (a3 : Int32) (S : zM) (h : f_Mo_isReached a0 a1 a2 a3 S = some res) : g [some (.ref a0), some (.int a1), some (.int a2), some (.int a3), none] 0 [] S := by
  refine H zc_Mo_isReached _ 1000 _ _ _ _ ((r_Mo_isReached a0 a1 a2 a3 S).symm.trans h) (fun pc lv st S hK => ?_)
  cases hK
set_option maxRecDepth 100000 in
theorem ok_Mo_isReached : zokT 12 [] false 0 0 5 false none cX12_isReached zP_Mo_isReached = true := by decide +kernel
set_option maxRecDepth 100000 in
theorem s_Mo_isReached {l : Launch} {HB : Heap} {b L : Nat} {xs : Nat → Int32} {aK aV : Nat → Nat} {G : va_G} {tc : Nat → ClassId} : zSnd l HB b L xs aK aV G tc (zMT.getD 142 zyD) (fun α => zA_vRIII_V 12 f_Mo_isReached) := by
  rw [show zMT.getD 142 zyD = (yX12_isReached, cX12_isReached, 5, none, 0, 4, 0, 0) from rfl]
  intro α as S k res h
  unfold zA_vRIII_V at h
  dsimp only at h
  split at h
  · rename_i a0 a1 a2 a3
    obtain ⟨p, hp, h⟩ := zbind h
    unfold zcl at hp
    split at hp
    · rename_i hkd
      have hm := zmeth (l := l) (HB := HB) (b := b) (L := L) (xs := xs) (aK := aK) (aV := aV) (G := G) (tc := tc) (q := (yX12_isReached, cX12_isReached, 5, none, 0, 4, 0, 0)) (o := 12) (cs := []) (rz := false) (T := zP_Mo_isReached) (E := zE_Mo_isReached zM) (kr := zkV) (res := p) (v0 := none) (S0 := p) (as := [.ref a0, .int a1, .int a2, .int a3]) (S := S) zMT_fine (by decide +kernel) (fun i as S k' h => by
        unfold zE_Mo_isReached at h
        cases h) ok_Mo_isReached rfl (fun v S' h => zkV_inv h) (Nat.le_of_ble_eq_true rfl) (fun g H Hw => Hw _ [some (.ref a0), some (.int a1), some (.int a2), some (.int a3), none] _ _ _ ⟨rfl, rfl, rfl, rfl, trivial⟩ (G_Mo_isReached H Hw a0 a1 a2 a3 S hp))
      exact ⟨_, _, h, hm.1, rfl, fun _ => ⟨_, _, rfl⟩, (fun _ U H hK hH a r e => by cases e; exact zrecv (ci := 12) (by omega) hkd rfl U H hK hH), hm.2⟩
    · cases hp
  · cases h
def zP_Mo_nearest : List (List (Nat × zE)) := [[(0, ei (.iconst (-1)) 1 0 (-1)), (1, e1 (.istore_n 1) 2 1), (2, ei (.iconst 0) 3 0 (0)), (3, e1 (.istore_n 2) 4 2), (4, e1 (.iload_n 2) 5 2), (5, ei (.bipush 80) 7 0 (80)), (7, e1 (.if_icmp .ge 52) 10 59), (10, e1 (.aload_n 0) 11 0), (11, e3 (.getfield 61) 14 12 37 2), (14, e1 (.iload_n 2) 15 2), (15, e0 (.baload) 16)],
  [(16, e1 (.ifCond .ne 37) 19 53), (19, e1 (.aload_n 0) 20 0), (20, e3 (.getfield 58) 23 12 36 2), (23, e1 (.iload_n 2) 24 2), (24, e0 (.iaload) 25), (25, ei (.ldc_w 348) 28 0 (1000000)), (28, e1 (.if_icmp .ge 25) 31 53), (31, e1 (.iload_n 1) 32 1)],
  [(32, ei (.iconst (-1)) 33 0 (-1)), (33, e1 (.if_icmp .eq 18) 36 51), (36, e1 (.aload_n 0) 37 0), (37, e3 (.getfield 58) 40 12 36 2), (40, e1 (.iload_n 2) 41 2), (41, e0 (.iaload) 42), (42, e1 (.aload_n 0) 43 0), (43, e3 (.getfield 58) 46 12 36 2), (46, e1 (.iload_n 1) 47 1), (47, e0 (.iaload) 48)],
  [(48, e1 (.if_icmp .ge 5) 51 53), (51, e1 (.iload_n 2) 52 2), (52, e1 (.istore_n 1) 53 1), (53, ei (.iinc 2 1) 56 2 (1)), (56, e1 (.goto (-52)) 59 4), (59, e1 (.iload_n 1) 60 1), (60, e0 (.ireturn) 61)]]
noncomputable def zE_Mo_nearest (α : Type) : Nat → zX α := fun _ => fun _ _ _ => none
def zc_Mo_nearest : Nat → Bool := fun pc => Nat.beq pc 4
def D_Mo_nearest_4 (k : Nat → Int32 → Int32 → zM → Option (Int32 × zM)) (lv : zV) (st : List Value) (S : zM) : Option (Int32 × zM) := match lv, st with
  | [some (.ref a0), some (.int a1), some (.int a2)], [] => k a0 a1 a2 S
  | _, _ => none
theorem d_Mo_nearest_4 {g : zV → Nat → List Value → zM → Prop} (Hw : zWk g) {k : Nat → Int32 → Int32 → zM → Option (Int32 × zM)} {res : (Int32 × zM)} {lv : zV} {st : List Value} {S : zM} (h : D_Mo_nearest_4 k lv st S = some res) (hk : ∀ a0 a1 a2 S, k a0 a1 a2 S = some res → g [some (.ref a0), some (.int a1), some (.int a2)] 4 [] S) : g lv 4 st S := by
  unfold D_Mo_nearest_4 at h
  split at h
  · exact Hw _ _ _ _ _ (by simp [zle]) (hk _ _ _ _  h)
  · cases h
set_option maxRecDepth 100000 in
theorem r_Mo_nearest_4 (n : Nat) (a0 : Nat) (a1 : Int32) (a2 : Int32) (S : zM) : L_Mo_nearest_4 (n + 1) a0 a1 a2 S = zrt false zP_Mo_nearest (zE_Mo_nearest (Int32 × zM)) zc_Mo_nearest zkI (fun pc lv st S => bif Nat.beq pc 4 then D_Mo_nearest_4 (L_Mo_nearest_4 n) lv st S else none) 1000 4 [some (.ref a0), some (.int a1), some (.int a2)] [] S := rfl
theorem g_Mo_nearest_4 {g : zV → Nat → List Value → zM → Prop} {res : (Int32 × zM)} (H : zCl false zP_Mo_nearest (zE_Mo_nearest (Int32 × zM)) zkI res g) (Hw : zWk g) (n : Nat) : ∀ (a0 : Nat) (a1 : Int32) (a2 : Int32) (S : zM), L_Mo_nearest_4 n a0 a1 a2 S = some res → g [some (.ref a0), some (.int a1), some (.int a2)] 4 [] S := by
  induction n with
  | zero => intro a0 a1 a2 S h; cases h
  | succ n ih =>
    intro a0 a1 a2 S h
    refine H zc_Mo_nearest _ 1000 _ _ _ _ ((r_Mo_nearest_4 n a0 a1 a2 S).symm.trans h) (fun pc lv st S hK => ?_)
    rcases zdis hK with ⟨rfl, hK⟩ | hK
    · exact d_Mo_nearest_4 Hw hK ih
    cases hK
set_option maxRecDepth 100000 in
theorem r_Mo_nearest (a0 : Nat) (S : zM) : f_Mo_nearest a0 S = zrt false zP_Mo_nearest (zE_Mo_nearest (Int32 × zM)) zc_Mo_nearest zkI (fun pc lv st S => bif Nat.beq pc 4 then D_Mo_nearest_4 (L_Mo_nearest_4 zF) lv st S else none) 1000 0 [some (.ref a0), none, none] [] S := rfl
theorem G_Mo_nearest {g : zV → Nat → List Value → zM → Prop} {res : (Int32 × zM)} (H : zCl false zP_Mo_nearest (zE_Mo_nearest (Int32 × zM)) zkI res g) (Hw : zWk g) (a0 : Nat) (S : zM) (h : f_Mo_nearest a0 S = some res) : g [some (.ref a0), none, none] 0 [] S := by
  refine H zc_Mo_nearest _ 1000 _ _ _ _ ((r_Mo_nearest a0 S).symm.trans h) (fun pc lv st S hK => ?_)
  rcases zdis hK with ⟨rfl, hK⟩ | hK
  · exact d_Mo_nearest_4 Hw hK (g_Mo_nearest_4 H Hw  zF)
  cases hK
set_option maxRecDepth 100000 in
theorem ok_Mo_nearest : zokT 12 [] false 0 0 3 false (some .int) cX12_nearest zP_Mo_nearest = true := by decide +kernel
set_option maxRecDepth 100000 in
theorem s_Mo_nearest {l : Launch} {HB : Heap} {b L : Nat} {xs : Nat → Int32} {aK aV : Nat → Nat} {G : va_G} {tc : Nat → ClassId} : zSnd l HB b L xs aK aV G tc (zMT.getD 143 zyD) (fun α => zA_vR_I 12 f_Mo_nearest) := by
  rw [show zMT.getD 143 zyD = (yX12_nearest, cX12_nearest, 3, (some .int), 0, 1, 0, 0) from rfl]
  intro α as S k res h
  unfold zA_vR_I at h
  dsimp only at h
  split at h
  · rename_i a0
    obtain ⟨p, hp, h⟩ := zbind h
    unfold zcl at hp
    split at hp
    · rename_i hkd
      have hm := zmeth (l := l) (HB := HB) (b := b) (L := L) (xs := xs) (aK := aK) (aV := aV) (G := G) (tc := tc) (q := (yX12_nearest, cX12_nearest, 3, (some .int), 0, 1, 0, 0)) (o := 12) (cs := []) (rz := false) (T := zP_Mo_nearest) (E := zE_Mo_nearest (Int32 × zM)) (kr := zkI) (res := p) (v0 := some (.int p.1)) (S0 := p.2) (as := [.ref a0]) (S := S) zMT_fine (by decide +kernel) (fun i as S k' h => by
        unfold zE_Mo_nearest at h
        cases h) ok_Mo_nearest rfl (fun v S' h => zkI_inv h) (Nat.le_of_ble_eq_true rfl) (fun g H Hw => Hw _ [some (.ref a0), none, none] _ _ _ ⟨rfl, trivial⟩ (G_Mo_nearest H Hw a0 S hp))
      exact ⟨_, _, h, hm.1, rfl, fun _ => ⟨_, _, rfl⟩, (fun _ U H hK hH a r e => by cases e; exact zrecv (ci := 12) (by omega) hkd rfl U H hK hH), hm.2⟩
    · cases hp
  · cases h
def zP_Mo_goesFrom : List (List (Nat × zE)) := [[(0, e1 (.aload_n 0) 1 0), (1, e3 (.getfield 52) 4 12 33 2), (4, e1 (.iload_n 1) 5 1), (5, e0 (.iaload) 6), (6, e1 (.iload_n 2) 7 2), (7, e0 (.isub) 8), (8, e1 (.istore 4) 10 4), (10, ei (.iconst 0) 11 0 (0)), (11, e1 (.istore 5) 13 5), (13, e1 (.iload 5) 15 5), (15, e1 (.aload_n 0) 16 0)],
  [(16, e3 (.getfield 332) 19 12 35 0), (19, e1 (.if_icmp .ge 71) 22 90), (22, e1 (.aload_n 0) 23 0), (23, e1 (.iload_n 1) 24 1), (24, e1 (.iload_n 2) 25 2), (25, e1 (.iload 5) 27 5), (27, ei (.iconst 0) 28 0 (0)), (28, e3 (.invokevirtual 341) 31 0 5 0), (31, e1 (.ifCond .eq 53) 34 84)],
  [(34, e1 (.aload_n 0) 35 0), (35, e3 (.getfield 52) 38 12 33 2), (38, e1 (.iload 5) 40 5), (40, e0 (.iaload) 41), (41, e1 (.iload 4) 43 4), (43, e1 (.if_icmp .gt 21) 46 64), (46, e1 (.aload_n 0) 47 0), (47, e1 (.iload_n 1) 48 1)],
  [(48, e1 (.iload_n 2) 49 2), (49, e1 (.aload_n 0) 50 0), (50, e3 (.getfield 52) 53 12 33 2), (53, e1 (.iload 5) 55 5), (55, e0 (.iaload) 56), (56, e0 (.iadd) 57), (57, e1 (.iload_n 3) 58 3), (58, e3 (.invokevirtual 344) 61 1 4 0), (61, e1 (.goto 23) 64 84)],
  [(64, e1 (.aload_n 0) 65 0), (65, e1 (.iload 5) 67 5), (67, e1 (.iload 4) 69 4), (69, e1 (.iload_n 3) 70 3), (70, e1 (.aload_n 0) 71 0), (71, e3 (.getfield 52) 74 12 33 2), (74, e1 (.iload 5) 76 5), (76, e0 (.iaload) 77), (77, e0 (.iadd) 78), (78, e1 (.iload 4) 80 4)],
  [(80, e0 (.isub) 81), (81, e3 (.invokevirtual 344) 84 1 4 0), (84, ei (.iinc 5 1) 87 5 (1)), (87, e1 (.goto (-74)) 90 13), (90, e0 (.return_) 91)]]
noncomputable def zE_Mo_goesFrom (α : Type) : Nat → zX α := fun i => bif Nat.beq i 0 then zA_vRIIII_I 12 f_Mo_areOne else bif Nat.beq i 1 then zA_vRIII_V 12 f_Mo_isReached else fun _ _ _ => none
def zc_Mo_goesFrom : Nat → Bool := fun pc => Nat.beq pc 13
def D_Mo_goesFrom_13 (k : Nat → Int32 → Int32 → Int32 → Int32 → Int32 → zM → Option zM) (lv : zV) (st : List Value) (S : zM) : Option zM := match lv, st with
  | [some (.ref a0), some (.int a1), some (.int a2), some (.int a3), some (.int a4), some (.int a5)], [] => k a0 a1 a2 a3 a4 a5 S
  | _, _ => none
theorem d_Mo_goesFrom_13 {g : zV → Nat → List Value → zM → Prop} (Hw : zWk g) {k : Nat → Int32 → Int32 → Int32 → Int32 → Int32 → zM → Option zM} {res : zM} {lv : zV} {st : List Value} {S : zM} (h : D_Mo_goesFrom_13 k lv st S = some res) (hk : ∀ a0 a1 a2 a3 a4 a5 S, k a0 a1 a2 a3 a4 a5 S = some res → g [some (.ref a0), some (.int a1), some (.int a2), some (.int a3), some (.int a4), some (.int a5)] 13 [] S) : g lv 13 st S := by
  unfold D_Mo_goesFrom_13 at h
  split at h
  · exact Hw _ _ _ _ _ (by simp [zle]) (hk _ _ _ _ _ _ _  h)
  · cases h
set_option maxRecDepth 100000 in
theorem r_Mo_goesFrom_13 (n : Nat) (a0 : Nat) (a1 : Int32) (a2 : Int32) (a3 : Int32) (a4 : Int32) (a5 : Int32) (S : zM) : L_Mo_goesFrom_13 (n + 1) a0 a1 a2 a3 a4 a5 S = zrt false zP_Mo_goesFrom (zE_Mo_goesFrom zM) zc_Mo_goesFrom zkV (fun pc lv st S => bif Nat.beq pc 13 then D_Mo_goesFrom_13 (L_Mo_goesFrom_13 n) lv st S else none) 1000 13 [some (.ref a0), some (.int a1), some (.int a2), some (.int a3), some (.int a4), some (.int a5)] [] S := rfl
theorem g_Mo_goesFrom_13 {g : zV → Nat → List Value → zM → Prop} {res : zM} (H : zCl false zP_Mo_goesFrom (zE_Mo_goesFrom zM) zkV res g) (Hw : zWk g) (n : Nat) : ∀ (a0 : Nat) (a1 : Int32) (a2 : Int32) (a3 : Int32) (a4 : Int32) (a5 : Int32) (S : zM), L_Mo_goesFrom_13 n a0 a1 a2 a3 a4 a5 S = some res → g [some (.ref a0), some (.int a1), some (.int a2), some (.int a3), some (.int a4), some (.int a5)] 13 [] S := by
  induction n with
  | zero => intro a0 a1 a2 a3 a4 a5 S h; cases h
  | succ n ih =>
    intro a0 a1 a2 a3 a4 a5 S h
    refine H zc_Mo_goesFrom _ 1000 _ _ _ _ ((r_Mo_goesFrom_13 n a0 a1 a2 a3 a4 a5 S).symm.trans h) (fun pc lv st S hK => ?_)
    rcases zdis hK with ⟨rfl, hK⟩ | hK
    · exact d_Mo_goesFrom_13 Hw hK ih
    cases hK
set_option maxRecDepth 100000 in
theorem r_Mo_goesFrom (a0 : Nat) (a1 : Int32) (a2 : Int32) (a3 : Int32) (S : zM) : f_Mo_goesFrom a0 a1 a2 a3 S = zrt false zP_Mo_goesFrom (zE_Mo_goesFrom zM) zc_Mo_goesFrom zkV (fun pc lv st S => bif Nat.beq pc 13 then D_Mo_goesFrom_13 (L_Mo_goesFrom_13 zF) lv st S else none) 1000 0 [some (.ref a0), some (.int a1), some (.int a2), some (.int a3), none, none] [] S := rfl
theorem G_Mo_goesFrom {g : zV → Nat → List Value → zM → Prop} {res : zM} (H : zCl false zP_Mo_goesFrom (zE_Mo_goesFrom zM) zkV res g) (Hw : zWk g) (a0 : Nat) (a1 : Int32) (a2 : Int32) (a3 : Int32) (S : zM) (h : f_Mo_goesFrom a0 a1 a2 a3 S = some res) : g [some (.ref a0), some (.int a1), some (.int a2), some (.int a3), none, none] 0 [] S := by
  refine H zc_Mo_goesFrom _ 1000 _ _ _ _ ((r_Mo_goesFrom a0 a1 a2 a3 S).symm.trans h) (fun pc lv st S hK => ?_)
  rcases zdis hK with ⟨rfl, hK⟩ | hK
  · exact d_Mo_goesFrom_13 Hw hK (g_Mo_goesFrom_13 H Hw  zF)
  cases hK
set_option maxRecDepth 100000 in
theorem ok_Mo_goesFrom : zokT 12 [141, 142] false 1 26 6 false none cX12_goesFrom zP_Mo_goesFrom = true := by decide +kernel
set_option maxRecDepth 100000 in
theorem s_Mo_goesFrom {l : Launch} {HB : Heap} {b L : Nat} {xs : Nat → Int32} {aK aV : Nat → Nat} {G : va_G} {tc : Nat → ClassId} (h0 : zSnd l HB b L xs aK aV G tc (zMT.getD 141 zyD) (fun α => zA_vRIIII_I 12 f_Mo_areOne)) (h1 : zSnd l HB b L xs aK aV G tc (zMT.getD 142 zyD) (fun α => zA_vRIII_V 12 f_Mo_isReached)) : zSnd l HB b L xs aK aV G tc (zMT.getD 144 zyD) (fun α => zA_vRIII_V 12 f_Mo_goesFrom) := by
  rw [show zMT.getD 144 zyD = (yX12_goesFrom, cX12_goesFrom, 6, none, 0, 4, 1, 26) from rfl]
  intro α as S k res h
  unfold zA_vRIII_V at h
  dsimp only at h
  split at h
  · rename_i a0 a1 a2 a3
    obtain ⟨p, hp, h⟩ := zbind h
    unfold zcl at hp
    split at hp
    · rename_i hkd
      have hm := zmeth (l := l) (HB := HB) (b := b) (L := L) (xs := xs) (aK := aK) (aV := aV) (G := G) (tc := tc) (q := (yX12_goesFrom, cX12_goesFrom, 6, none, 0, 4, 1, 26)) (o := 12) (cs := [141, 142]) (rz := false) (T := zP_Mo_goesFrom) (E := zE_Mo_goesFrom zM) (kr := zkV) (res := p) (v0 := none) (S0 := p) (as := [.ref a0, .int a1, .int a2, .int a3]) (S := S) zMT_fine (by decide +kernel) (fun i as S k' h => by
        unfold zE_Mo_goesFrom at h
        rcases zdisf h with ⟨rfl, h⟩ | h
        · exact h0 _ _ _ _ _ h
        rcases zdisf h with ⟨rfl, h⟩ | h
        · exact h1 _ _ _ _ _ h
        cases h) ok_Mo_goesFrom rfl (fun v S' h => zkV_inv h) (Nat.le_of_ble_eq_true rfl) (fun g H Hw => Hw _ [some (.ref a0), some (.int a1), some (.int a2), some (.int a3), none, none] _ _ _ ⟨rfl, rfl, rfl, rfl, trivial⟩ (G_Mo_goesFrom H Hw a0 a1 a2 a3 S hp))
      exact ⟨_, _, h, hm.1, rfl, fun _ => ⟨_, _, rfl⟩, (fun _ U H hK hH a r e => by cases e; exact zrecv (ci := 12) (by omega) hkd rfl U H hK hH), hm.2⟩
    · cases hp
  · cases h
def zP_Mo_unclearOf : List (List (Nat × zE)) := [[(0, ei (.iconst 0) 1 0 (0)), (1, e1 (.istore_n 1) 2 1), (2, e1 (.iload_n 1) 3 1), (3, ei (.bipush 80) 5 0 (80)), (5, e1 (.if_icmp .ge 25) 8 30), (8, e1 (.aload_n 0) 9 0), (9, e3 (.getfield 58) 12 12 36 2), (12, e1 (.iload_n 1) 13 1), (13, ei (.ldc_w 348) 16 0 (1000000))],
  [(16, e0 (.iastore) 17), (17, e1 (.aload_n 0) 18 0), (18, e3 (.getfield 61) 21 12 37 2), (21, e1 (.iload_n 1) 22 1), (22, ei (.iconst 0) 23 0 (0)), (23, e0 (.bastore) 24), (24, ei (.iinc 1 1) 27 1 (1)), (27, e1 (.goto (-25)) 30 2), (30, ei (.iconst 0) 31 0 (0)), (31, e1 (.istore_n 1) 32 1)],
  [(32, e1 (.iload_n 1) 33 1), (33, e1 (.aload_n 0) 34 0), (34, e3 (.getfield 332) 37 12 35 0), (37, e1 (.if_icmp .ge 84) 40 121), (40, e1 (.aload_n 0) 41 0), (41, e3 (.getfield 52) 44 12 33 2), (44, e1 (.iload_n 1) 45 1), (45, e0 (.iaload) 46), (46, e1 (.ifCond .ne 5) 49 51)],
  [(49, ei (.iconst 0) 50 0 (0)), (50, e0 (.ireturn) 51), (51, ei (.iconst 0) 52 0 (0)), (52, e1 (.istore_n 2) 53 2), (53, e1 (.iload_n 2) 54 2), (54, e1 (.aload_n 0) 55 0), (55, e3 (.getfield 332) 58 12 35 0), (58, e1 (.if_icmp .ge 57) 61 115), (61, e1 (.iload_n 1) 62 1), (62, e1 (.iload_n 2) 63 2), (63, e1 (.if_icmp .eq 46) 66 109)],
  [(66, e1 (.aload_n 0) 67 0), (67, e3 (.getfield 52) 70 12 33 2), (70, e1 (.iload_n 2) 71 2), (71, e0 (.iaload) 72), (72, e1 (.aload_n 0) 73 0), (73, e3 (.getfield 52) 76 12 33 2), (76, e1 (.iload_n 1) 77 1), (77, e0 (.iaload) 78), (78, e1 (.if_icmp .gt 31) 81 109)],
  [(81, e1 (.aload_n 0) 82 0), (82, e1 (.iload_n 1) 83 1), (83, ei (.iconst 0) 84 0 (0)), (84, e1 (.iload_n 2) 85 2), (85, ei (.iconst 0) 86 0 (0)), (86, e3 (.invokevirtual 341) 89 0 5 0), (89, e1 (.ifCond .eq 20) 92 109), (92, e1 (.aload_n 0) 93 0), (93, e1 (.iload_n 1) 94 1), (94, e1 (.aload_n 0) 95 0), (95, e3 (.getfield 52) 98 12 33 2)],
  [(98, e1 (.iload_n 2) 99 2), (99, e0 (.iaload) 100), (100, e1 (.aload_n 0) 101 0), (101, e3 (.getfield 52) 104 12 33 2), (104, e1 (.iload_n 1) 105 1), (105, e0 (.iaload) 106), (106, e3 (.invokevirtual 344) 109 1 4 0), (109, ei (.iinc 2 1) 112 2 (1))],
  [(112, e1 (.goto (-59)) 115 53), (115, ei (.iinc 1 1) 118 1 (1)), (118, e1 (.goto (-86)) 121 32), (121, e1 (.aload_n 0) 122 0), (122, e3 (.invokevirtual 349) 125 2 1 0), (125, e1 (.istore_n 1) 126 1), (126, e1 (.iload_n 1) 127 1), (127, ei (.iconst (-1)) 128 0 (-1))],
  [(128, e1 (.if_icmp .eq 55) 131 183), (131, e1 (.aload_n 0) 132 0), (132, e3 (.getfield 61) 135 12 37 2), (135, e1 (.iload_n 1) 136 1), (136, ei (.iconst 1) 137 0 (1)), (137, e0 (.bastore) 138), (138, e1 (.iload_n 1) 139 1), (139, ei (.iconst 5) 140 0 (5)), (140, e0 (.idiv) 141), (141, e1 (.istore_n 2) 142 2), (142, e1 (.iload_n 1) 143 1), (143, ei (.iconst 5) 144 0 (5))],
  [(144, e0 (.irem) 145), (145, e1 (.istore_n 3) 146 3), (146, e1 (.iload_n 3) 147 3), (147, e1 (.aload_n 0) 148 0), (148, e3 (.getfield 52) 151 12 33 2), (151, e1 (.iload_n 2) 152 2), (152, e0 (.iaload) 153), (153, e1 (.if_icmp .ne 10) 156 163), (156, e1 (.aload_n 0) 157 0), (157, e3 (.getfield 58) 160 12 36 2)],
  [(160, e1 (.iload_n 1) 161 1), (161, e0 (.iaload) 162), (162, e0 (.ireturn) 163), (163, e1 (.aload_n 0) 164 0), (164, e1 (.iload_n 2) 165 2), (165, e1 (.iload_n 3) 166 3), (166, e1 (.aload_n 0) 167 0), (167, e3 (.getfield 58) 170 12 36 2), (170, e1 (.iload_n 1) 171 1), (171, e0 (.iaload) 172), (172, e3 (.invokevirtual 352) 175 3 4 0), (175, e1 (.aload_n 0) 176 0)],
  [(176, e3 (.invokevirtual 349) 179 2 1 0), (179, e1 (.istore_n 1) 180 1), (180, e1 (.goto (-54)) 183 126), (183, ei (.bipush (-2)) 185 0 (-2)), (185, e0 (.ireturn) 186)]]
noncomputable def zE_Mo_unclearOf (α : Type) : Nat → zX α := fun i => bif Nat.beq i 0 then zA_vRIIII_I 12 f_Mo_areOne else bif Nat.beq i 1 then zA_vRIII_V 12 f_Mo_isReached else bif Nat.beq i 2 then zA_vR_I 12 f_Mo_nearest else bif Nat.beq i 3 then zA_vRIII_V 12 f_Mo_goesFrom else fun _ _ _ => none
def zc_Mo_unclearOf : Nat → Bool := fun pc => Nat.beq pc 2 || Nat.beq pc 30 || Nat.beq pc 32 || Nat.beq pc 53 || Nat.beq pc 115 || Nat.beq pc 121 || Nat.beq pc 126
def D_Mo_unclearOf_2 (k : Nat → Int32 → zM → Option (Int32 × zM)) (lv : zV) (st : List Value) (S : zM) : Option (Int32 × zM) := match lv, st with
  | [some (.ref a0), some (.int a1), _, _], [] => k a0 a1 S
  | _, _ => none
theorem d_Mo_unclearOf_2 {g : zV → Nat → List Value → zM → Prop} (Hw : zWk g) {k : Nat → Int32 → zM → Option (Int32 × zM)} {res : (Int32 × zM)} {lv : zV} {st : List Value} {S : zM} (h : D_Mo_unclearOf_2 k lv st S = some res) (hk : ∀ a0 a1 S, k a0 a1 S = some res → g [some (.ref a0), some (.int a1), none, none] 2 [] S) : g lv 2 st S := by
  unfold D_Mo_unclearOf_2 at h
  split at h
  · exact Hw _ _ _ _ _ (by simp [zle]) (hk _ _ _  h)
  · cases h
def D_Mo_unclearOf_30 (k : Nat → zM → Option (Int32 × zM)) (lv : zV) (st : List Value) (S : zM) : Option (Int32 × zM) := match lv, st with
  | [some (.ref a0), _, _, _], [] => k a0 S
  | _, _ => none
theorem d_Mo_unclearOf_30 {g : zV → Nat → List Value → zM → Prop} (Hw : zWk g) {k : Nat → zM → Option (Int32 × zM)} {res : (Int32 × zM)} {lv : zV} {st : List Value} {S : zM} (h : D_Mo_unclearOf_30 k lv st S = some res) (hk : ∀ a0 S, k a0 S = some res → g [some (.ref a0), none, none, none] 30 [] S) : g lv 30 st S := by
  unfold D_Mo_unclearOf_30 at h
  split at h
  · exact Hw _ _ _ _ _ (by simp [zle]) (hk _ _  h)
  · cases h
def D_Mo_unclearOf_32 (k : Nat → Int32 → zM → Option (Int32 × zM)) (lv : zV) (st : List Value) (S : zM) : Option (Int32 × zM) := match lv, st with
  | [some (.ref a0), some (.int a1), _, _], [] => k a0 a1 S
  | _, _ => none
theorem d_Mo_unclearOf_32 {g : zV → Nat → List Value → zM → Prop} (Hw : zWk g) {k : Nat → Int32 → zM → Option (Int32 × zM)} {res : (Int32 × zM)} {lv : zV} {st : List Value} {S : zM} (h : D_Mo_unclearOf_32 k lv st S = some res) (hk : ∀ a0 a1 S, k a0 a1 S = some res → g [some (.ref a0), some (.int a1), none, none] 32 [] S) : g lv 32 st S := by
  unfold D_Mo_unclearOf_32 at h
  split at h
  · exact Hw _ _ _ _ _ (by simp [zle]) (hk _ _ _  h)
  · cases h
def D_Mo_unclearOf_53 (k : Nat → Int32 → Int32 → zM → Option (Int32 × zM)) (lv : zV) (st : List Value) (S : zM) : Option (Int32 × zM) := match lv, st with
  | [some (.ref a0), some (.int a1), some (.int a2), _], [] => k a0 a1 a2 S
  | _, _ => none
theorem d_Mo_unclearOf_53 {g : zV → Nat → List Value → zM → Prop} (Hw : zWk g) {k : Nat → Int32 → Int32 → zM → Option (Int32 × zM)} {res : (Int32 × zM)} {lv : zV} {st : List Value} {S : zM} (h : D_Mo_unclearOf_53 k lv st S = some res) (hk : ∀ a0 a1 a2 S, k a0 a1 a2 S = some res → g [some (.ref a0), some (.int a1), some (.int a2), none] 53 [] S) : g lv 53 st S := by
  unfold D_Mo_unclearOf_53 at h
  split at h
  · exact Hw _ _ _ _ _ (by simp [zle]) (hk _ _ _ _  h)
  · cases h
def D_Mo_unclearOf_115 (k : Nat → Int32 → zM → Option (Int32 × zM)) (lv : zV) (st : List Value) (S : zM) : Option (Int32 × zM) := match lv, st with
  | [some (.ref a0), some (.int a1), _, _], [] => k a0 a1 S
  | _, _ => none
theorem d_Mo_unclearOf_115 {g : zV → Nat → List Value → zM → Prop} (Hw : zWk g) {k : Nat → Int32 → zM → Option (Int32 × zM)} {res : (Int32 × zM)} {lv : zV} {st : List Value} {S : zM} (h : D_Mo_unclearOf_115 k lv st S = some res) (hk : ∀ a0 a1 S, k a0 a1 S = some res → g [some (.ref a0), some (.int a1), none, none] 115 [] S) : g lv 115 st S := by
  unfold D_Mo_unclearOf_115 at h
  split at h
  · exact Hw _ _ _ _ _ (by simp [zle]) (hk _ _ _  h)
  · cases h
def D_Mo_unclearOf_121 (k : Nat → zM → Option (Int32 × zM)) (lv : zV) (st : List Value) (S : zM) : Option (Int32 × zM) := match lv, st with
  | [some (.ref a0), _, _, _], [] => k a0 S
  | _, _ => none
theorem d_Mo_unclearOf_121 {g : zV → Nat → List Value → zM → Prop} (Hw : zWk g) {k : Nat → zM → Option (Int32 × zM)} {res : (Int32 × zM)} {lv : zV} {st : List Value} {S : zM} (h : D_Mo_unclearOf_121 k lv st S = some res) (hk : ∀ a0 S, k a0 S = some res → g [some (.ref a0), none, none, none] 121 [] S) : g lv 121 st S := by
  unfold D_Mo_unclearOf_121 at h
  split at h
  · exact Hw _ _ _ _ _ (by simp [zle]) (hk _ _  h)
  · cases h
def D_Mo_unclearOf_126 (k : Nat → Int32 → zM → Option (Int32 × zM)) (lv : zV) (st : List Value) (S : zM) : Option (Int32 × zM) := match lv, st with
  | [some (.ref a0), some (.int a1), _, _], [] => k a0 a1 S
  | _, _ => none
theorem d_Mo_unclearOf_126 {g : zV → Nat → List Value → zM → Prop} (Hw : zWk g) {k : Nat → Int32 → zM → Option (Int32 × zM)} {res : (Int32 × zM)} {lv : zV} {st : List Value} {S : zM} (h : D_Mo_unclearOf_126 k lv st S = some res) (hk : ∀ a0 a1 S, k a0 a1 S = some res → g [some (.ref a0), some (.int a1), none, none] 126 [] S) : g lv 126 st S := by
  unfold D_Mo_unclearOf_126 at h
  split at h
  · exact Hw _ _ _ _ _ (by simp [zle]) (hk _ _ _  h)
  · cases h
set_option maxRecDepth 100000 in
theorem r_Mo_unclearOf_126 (n : Nat) (a0 : Nat) (a1 : Int32) (S : zM) : L_Mo_unclearOf_126 (n + 1) a0 a1 S = zrt false zP_Mo_unclearOf (zE_Mo_unclearOf (Int32 × zM)) zc_Mo_unclearOf zkI (fun pc lv st S => bif Nat.beq pc 126 then D_Mo_unclearOf_126 (L_Mo_unclearOf_126 n) lv st S else none) 1000 126 [some (.ref a0), some (.int a1), none, none] [] S := rfl
theorem g_Mo_unclearOf_126 {g : zV → Nat → List Value → zM → Prop} {res : (Int32 × zM)} (H : zCl false zP_Mo_unclearOf (zE_Mo_unclearOf (Int32 × zM)) zkI res g) (Hw : zWk g) (n : Nat) : ∀ (a0 : Nat) (a1 : Int32) (S : zM), L_Mo_unclearOf_126 n a0 a1 S = some res → g [some (.ref a0), some (.int a1), none, none] 126 [] S := by
  induction n with
  | zero => intro a0 a1 S h; cases h
  | succ n ih =>
    intro a0 a1 S h
    refine H zc_Mo_unclearOf _ 1000 _ _ _ _ ((r_Mo_unclearOf_126 n a0 a1 S).symm.trans h) (fun pc lv st S hK => ?_)
    rcases zdis hK with ⟨rfl, hK⟩ | hK
    · exact d_Mo_unclearOf_126 Hw hK ih
    cases hK
set_option maxRecDepth 100000 in
theorem r_Mo_unclearOf_121 (k126 : Nat → Int32 → zM → Option (Int32 × zM)) (a0 : Nat) (S : zM) : F_Mo_unclearOf_121 k126 a0 S = zrt false zP_Mo_unclearOf (zE_Mo_unclearOf (Int32 × zM)) zc_Mo_unclearOf zkI (fun pc lv st S => bif Nat.beq pc 126 then D_Mo_unclearOf_126 k126 lv st S else none) 1000 121 [some (.ref a0), none, none, none] [] S := rfl
theorem g_Mo_unclearOf_121 {g : zV → Nat → List Value → zM → Prop} {res : (Int32 × zM)} (H : zCl false zP_Mo_unclearOf (zE_Mo_unclearOf (Int32 × zM)) zkI res g) (Hw : zWk g) {k126 : Nat → Int32 → zM → Option (Int32 × zM)} (hk126 : ∀ a0 a1 S, k126 a0 a1 S = some res → g [some (.ref a0), some (.int a1), none, none] 126 [] S) (a0 : Nat) (S : zM) (h : F_Mo_unclearOf_121 k126 a0 S = some res) : g [some (.ref a0), none, none, none] 121 [] S := by
  refine H zc_Mo_unclearOf _ 1000 _ _ _ _ ((r_Mo_unclearOf_121 k126 a0 S).symm.trans h) (fun pc lv st S hK => ?_)
  rcases zdis hK with ⟨rfl, hK⟩ | hK
  · exact d_Mo_unclearOf_126 Hw hK hk126
  cases hK
set_option maxRecDepth 100000 in
theorem r_Mo_unclearOf_115 (k32 : Nat → Int32 → zM → Option (Int32 × zM)) (a0 : Nat) (a1 : Int32) (S : zM) : F_Mo_unclearOf_115 k32 a0 a1 S = zrt false zP_Mo_unclearOf (zE_Mo_unclearOf (Int32 × zM)) zc_Mo_unclearOf zkI (fun pc lv st S => bif Nat.beq pc 32 then D_Mo_unclearOf_32 k32 lv st S else none) 1000 115 [some (.ref a0), some (.int a1), none, none] [] S := rfl
theorem g_Mo_unclearOf_115 {g : zV → Nat → List Value → zM → Prop} {res : (Int32 × zM)} (H : zCl false zP_Mo_unclearOf (zE_Mo_unclearOf (Int32 × zM)) zkI res g) (Hw : zWk g) {k32 : Nat → Int32 → zM → Option (Int32 × zM)} (hk32 : ∀ a0 a1 S, k32 a0 a1 S = some res → g [some (.ref a0), some (.int a1), none, none] 32 [] S) (a0 : Nat) (a1 : Int32) (S : zM) (h : F_Mo_unclearOf_115 k32 a0 a1 S = some res) : g [some (.ref a0), some (.int a1), none, none] 115 [] S := by
  refine H zc_Mo_unclearOf _ 1000 _ _ _ _ ((r_Mo_unclearOf_115 k32 a0 a1 S).symm.trans h) (fun pc lv st S hK => ?_)
  rcases zdis hK with ⟨rfl, hK⟩ | hK
  · exact d_Mo_unclearOf_32 Hw hK hk32
  cases hK
set_option maxRecDepth 100000 in
theorem r_Mo_unclearOf_53 (k115 : Nat → Int32 → zM → Option (Int32 × zM)) (n : Nat) (a0 : Nat) (a1 : Int32) (a2 : Int32) (S : zM) : L_Mo_unclearOf_53 k115 (n + 1) a0 a1 a2 S = zrt false zP_Mo_unclearOf (zE_Mo_unclearOf (Int32 × zM)) zc_Mo_unclearOf zkI (fun pc lv st S => bif Nat.beq pc 53 then D_Mo_unclearOf_53 (L_Mo_unclearOf_53 k115 n) lv st S else bif Nat.beq pc 115 then D_Mo_unclearOf_115 k115 lv st S else none) 1000 53 [some (.ref a0), some (.int a1), some (.int a2), none] [] S := rfl
theorem g_Mo_unclearOf_53 {g : zV → Nat → List Value → zM → Prop} {res : (Int32 × zM)} (H : zCl false zP_Mo_unclearOf (zE_Mo_unclearOf (Int32 × zM)) zkI res g) (Hw : zWk g) {k115 : Nat → Int32 → zM → Option (Int32 × zM)} (hk115 : ∀ a0 a1 S, k115 a0 a1 S = some res → g [some (.ref a0), some (.int a1), none, none] 115 [] S) (n : Nat) : ∀ (a0 : Nat) (a1 : Int32) (a2 : Int32) (S : zM), L_Mo_unclearOf_53 k115 n a0 a1 a2 S = some res → g [some (.ref a0), some (.int a1), some (.int a2), none] 53 [] S := by
  induction n with
  | zero => intro a0 a1 a2 S h; cases h
  | succ n ih =>
    intro a0 a1 a2 S h
    refine H zc_Mo_unclearOf _ 1000 _ _ _ _ ((r_Mo_unclearOf_53 k115 n a0 a1 a2 S).symm.trans h) (fun pc lv st S hK => ?_)
    rcases zdis hK with ⟨rfl, hK⟩ | hK
    · exact d_Mo_unclearOf_53 Hw hK ih
    rcases zdis hK with ⟨rfl, hK⟩ | hK
    · exact d_Mo_unclearOf_115 Hw hK hk115
    cases hK
set_option maxRecDepth 100000 in
theorem r_Mo_unclearOf_32 (k121 : Nat → zM → Option (Int32 × zM)) (n : Nat) (a0 : Nat) (a1 : Int32) (S : zM) : L_Mo_unclearOf_32 k121 (n + 1) a0 a1 S = zrt false zP_Mo_unclearOf (zE_Mo_unclearOf (Int32 × zM)) zc_Mo_unclearOf zkI (fun pc lv st S => bif Nat.beq pc 53 then D_Mo_unclearOf_53 (L_Mo_unclearOf_53 (F_Mo_unclearOf_115 (L_Mo_unclearOf_32 k121 n)) zF) lv st S else bif Nat.beq pc 121 then D_Mo_unclearOf_121 k121 lv st S else none) 1000 32 [some (.ref a0), some (.int a1), none, none] [] S := rfl
theorem g_Mo_unclearOf_32 {g : zV → Nat → List Value → zM → Prop} {res : (Int32 × zM)} (H : zCl false zP_Mo_unclearOf (zE_Mo_unclearOf (Int32 × zM)) zkI res g) (Hw : zWk g) {k121 : Nat → zM → Option (Int32 × zM)} (hk121 : ∀ a0 S, k121 a0 S = some res → g [some (.ref a0), none, none, none] 121 [] S) (n : Nat) : ∀ (a0 : Nat) (a1 : Int32) (S : zM), L_Mo_unclearOf_32 k121 n a0 a1 S = some res → g [some (.ref a0), some (.int a1), none, none] 32 [] S := by
  induction n with
  | zero => intro a0 a1 S h; cases h
  | succ n ih =>
    intro a0 a1 S h
    refine H zc_Mo_unclearOf _ 1000 _ _ _ _ ((r_Mo_unclearOf_32 k121 n a0 a1 S).symm.trans h) (fun pc lv st S hK => ?_)
    rcases zdis hK with ⟨rfl, hK⟩ | hK
    · exact d_Mo_unclearOf_53 Hw hK (g_Mo_unclearOf_53 H Hw (g_Mo_unclearOf_115 H Hw ih) zF)
    rcases zdis hK with ⟨rfl, hK⟩ | hK
    · exact d_Mo_unclearOf_121 Hw hK hk121
    cases hK
set_option maxRecDepth 100000 in
theorem r_Mo_unclearOf_30 (k32 : Nat → Int32 → zM → Option (Int32 × zM)) (a0 : Nat) (S : zM) : F_Mo_unclearOf_30 k32 a0 S = zrt false zP_Mo_unclearOf (zE_Mo_unclearOf (Int32 × zM)) zc_Mo_unclearOf zkI (fun pc lv st S => bif Nat.beq pc 32 then D_Mo_unclearOf_32 k32 lv st S else none) 1000 30 [some (.ref a0), none, none, none] [] S := rfl
theorem g_Mo_unclearOf_30 {g : zV → Nat → List Value → zM → Prop} {res : (Int32 × zM)} (H : zCl false zP_Mo_unclearOf (zE_Mo_unclearOf (Int32 × zM)) zkI res g) (Hw : zWk g) {k32 : Nat → Int32 → zM → Option (Int32 × zM)} (hk32 : ∀ a0 a1 S, k32 a0 a1 S = some res → g [some (.ref a0), some (.int a1), none, none] 32 [] S) (a0 : Nat) (S : zM) (h : F_Mo_unclearOf_30 k32 a0 S = some res) : g [some (.ref a0), none, none, none] 30 [] S := by
  refine H zc_Mo_unclearOf _ 1000 _ _ _ _ ((r_Mo_unclearOf_30 k32 a0 S).symm.trans h) (fun pc lv st S hK => ?_)
  rcases zdis hK with ⟨rfl, hK⟩ | hK
  · exact d_Mo_unclearOf_32 Hw hK hk32
  cases hK
set_option maxRecDepth 100000 in
theorem r_Mo_unclearOf_2 (k30 : Nat → zM → Option (Int32 × zM)) (n : Nat) (a0 : Nat) (a1 : Int32) (S : zM) : L_Mo_unclearOf_2 k30 (n + 1) a0 a1 S = zrt false zP_Mo_unclearOf (zE_Mo_unclearOf (Int32 × zM)) zc_Mo_unclearOf zkI (fun pc lv st S => bif Nat.beq pc 2 then D_Mo_unclearOf_2 (L_Mo_unclearOf_2 k30 n) lv st S else bif Nat.beq pc 30 then D_Mo_unclearOf_30 k30 lv st S else none) 1000 2 [some (.ref a0), some (.int a1), none, none] [] S := rfl
theorem g_Mo_unclearOf_2 {g : zV → Nat → List Value → zM → Prop} {res : (Int32 × zM)} (H : zCl false zP_Mo_unclearOf (zE_Mo_unclearOf (Int32 × zM)) zkI res g) (Hw : zWk g) {k30 : Nat → zM → Option (Int32 × zM)} (hk30 : ∀ a0 S, k30 a0 S = some res → g [some (.ref a0), none, none, none] 30 [] S) (n : Nat) : ∀ (a0 : Nat) (a1 : Int32) (S : zM), L_Mo_unclearOf_2 k30 n a0 a1 S = some res → g [some (.ref a0), some (.int a1), none, none] 2 [] S := by
  induction n with
  | zero => intro a0 a1 S h; cases h
  | succ n ih =>
    intro a0 a1 S h
    refine H zc_Mo_unclearOf _ 1000 _ _ _ _ ((r_Mo_unclearOf_2 k30 n a0 a1 S).symm.trans h) (fun pc lv st S hK => ?_)
    rcases zdis hK with ⟨rfl, hK⟩ | hK
    · exact d_Mo_unclearOf_2 Hw hK ih
    rcases zdis hK with ⟨rfl, hK⟩ | hK
    · exact d_Mo_unclearOf_30 Hw hK hk30
    cases hK
set_option maxRecDepth 100000 in
theorem r_Mo_unclearOf (a0 : Nat) (S : zM) : f_Mo_unclearOf a0 S = zrt false zP_Mo_unclearOf (zE_Mo_unclearOf (Int32 × zM)) zc_Mo_unclearOf zkI (fun pc lv st S => bif Nat.beq pc 2 then D_Mo_unclearOf_2 (L_Mo_unclearOf_2 (F_Mo_unclearOf_30 (L_Mo_unclearOf_32 (F_Mo_unclearOf_121 (L_Mo_unclearOf_126 zF)) zF)) zF) lv st S else none) 1000 0 [some (.ref a0), none, none, none] [] S := rfl
theorem G_Mo_unclearOf {g : zV → Nat → List Value → zM → Prop} {res : (Int32 × zM)} (H : zCl false zP_Mo_unclearOf (zE_Mo_unclearOf (Int32 × zM)) zkI res g) (Hw : zWk g) (a0 : Nat) (S : zM) (h : f_Mo_unclearOf a0 S = some res) : g [some (.ref a0), none, none, none] 0 [] S := by
  refine H zc_Mo_unclearOf _ 1000 _ _ _ _ ((r_Mo_unclearOf a0 S).symm.trans h) (fun pc lv st S hK => ?_)
  rcases zdis hK with ⟨rfl, hK⟩ | hK
  · exact d_Mo_unclearOf_2 Hw hK (g_Mo_unclearOf_2 H Hw (g_Mo_unclearOf_30 H Hw (g_Mo_unclearOf_32 H Hw (g_Mo_unclearOf_121 H Hw (g_Mo_unclearOf_126 H Hw  zF)) zF)) zF)
  cases hK
set_option maxRecDepth 100000 in
theorem ok_Mo_unclearOf : zokT 12 [141, 142, 143, 144] false 2 51 4 false (some .int) cX12_unclearOf zP_Mo_unclearOf = true := by decide +kernel
set_option maxRecDepth 100000 in
theorem s_Mo_unclearOf {l : Launch} {HB : Heap} {b L : Nat} {xs : Nat → Int32} {aK aV : Nat → Nat} {G : va_G} {tc : Nat → ClassId} (h0 : zSnd l HB b L xs aK aV G tc (zMT.getD 141 zyD) (fun α => zA_vRIIII_I 12 f_Mo_areOne)) (h1 : zSnd l HB b L xs aK aV G tc (zMT.getD 142 zyD) (fun α => zA_vRIII_V 12 f_Mo_isReached)) (h2 : zSnd l HB b L xs aK aV G tc (zMT.getD 143 zyD) (fun α => zA_vR_I 12 f_Mo_nearest)) (h3 : zSnd l HB b L xs aK aV G tc (zMT.getD 144 zyD) (fun α => zA_vRIII_V 12 f_Mo_goesFrom)) : zSnd l HB b L xs aK aV G tc (zMT.getD 145 zyD) (fun α => zA_vR_I 12 f_Mo_unclearOf) := by
  rw [show zMT.getD 145 zyD = (yX12_unclearOf, cX12_unclearOf, 4, (some .int), 0, 1, 2, 51) from rfl]
  intro α as S k res h
  unfold zA_vR_I at h
  dsimp only at h
  split at h
  · rename_i a0
    obtain ⟨p, hp, h⟩ := zbind h
    unfold zcl at hp
    split at hp
    · rename_i hkd
      have hm := zmeth (l := l) (HB := HB) (b := b) (L := L) (xs := xs) (aK := aK) (aV := aV) (G := G) (tc := tc) (q := (yX12_unclearOf, cX12_unclearOf, 4, (some .int), 0, 1, 2, 51)) (o := 12) (cs := [141, 142, 143, 144]) (rz := false) (T := zP_Mo_unclearOf) (E := zE_Mo_unclearOf (Int32 × zM)) (kr := zkI) (res := p) (v0 := some (.int p.1)) (S0 := p.2) (as := [.ref a0]) (S := S) zMT_fine (by decide +kernel) (fun i as S k' h => by
        unfold zE_Mo_unclearOf at h
        rcases zdisf h with ⟨rfl, h⟩ | h
        · exact h0 _ _ _ _ _ h
        rcases zdisf h with ⟨rfl, h⟩ | h
        · exact h1 _ _ _ _ _ h
        rcases zdisf h with ⟨rfl, h⟩ | h
        · exact h2 _ _ _ _ _ h
        rcases zdisf h with ⟨rfl, h⟩ | h
        · exact h3 _ _ _ _ _ h
        cases h) ok_Mo_unclearOf rfl (fun v S' h => zkI_inv h) (Nat.le_of_ble_eq_true rfl) (fun g H Hw => Hw _ [some (.ref a0), none, none, none] _ _ _ ⟨rfl, trivial⟩ (G_Mo_unclearOf H Hw a0 S hp))
      exact ⟨_, _, h, hm.1, rfl, fun _ => ⟨_, _, rfl⟩, (fun _ U H hK hH a r e => by cases e; exact zrecv (ci := 12) (by omega) hkd rfl U H hK hH), hm.2⟩
    · cases hp
  · cases h
def zP_Mo_clear : List (List (Nat × zE)) := [[(0, e1 (.aload_n 0) 1 0), (1, e3 (.invokevirtual 272) 4 0 1 0), (4, e1 (.aload_n 0) 5 0), (5, e1 (.iload_n 1) 6 1), (6, e3 (.invokevirtual 303) 9 1 2 0), (9, e1 (.ifCond .ne 9) 12 18), (12, e1 (.aload_n 0) 13 0), (13, ei (.iconst 1) 14 0 (1)), (14, e3 (.invokevirtual 275) 17 2 2 0)],
  [(17, e0 (.ireturn) 18), (18, e1 (.aload_n 0) 19 0), (19, e1 (.iload_n 1) 20 1), (20, e3 (.invokevirtual 338) 23 3 2 0), (23, e1 (.aload_n 0) 24 0), (24, e3 (.invokevirtual 355) 27 4 1 0), (27, ei (.bipush (-2)) 29 0 (-2)), (29, e1 (.if_icmp .ne 7) 32 36)],
  [(32, ei (.iconst 1) 33 0 (1)), (33, e1 (.goto 4) 36 37), (36, ei (.iconst 0) 37 0 (0)), (37, e0 (.ireturn) 38)]]
noncomputable def zE_Mo_clear (α : Type) : Nat → zX α := fun i => bif Nat.beq i 0 then zA_vR_V 12 f_Mo_fresh else bif Nat.beq i 1 then zA_vRI_I 12 f_Mo_isPass else bif Nat.beq i 2 then zA_vRI_I 12 f_Mo_no else bif Nat.beq i 3 then zA_vRI_V 12 f_Mo_laysPieces else bif Nat.beq i 4 then zA_vR_I 12 f_Mo_unclearOf else fun _ _ _ => none
def zc_Mo_clear : Nat → Bool := fun pc => false
set_option maxRecDepth 100000 in
theorem r_Mo_clear (a0 : Nat) (a1 : Int32) (S : zM) : f_Mo_clear a0 a1 S = zrt false zP_Mo_clear (zE_Mo_clear (Int32 × zM)) zc_Mo_clear zkI (fun pc lv st S => none) 1000 0 [some (.ref a0), some (.int a1)] [] S := rfl
theorem G_Mo_clear {g : zV → Nat → List Value → zM → Prop} {res : (Int32 × zM)} (H : zCl false zP_Mo_clear (zE_Mo_clear (Int32 × zM)) zkI res g) (Hw : zWk g) (a0 : Nat) (a1 : Int32) (S : zM) (h : f_Mo_clear a0 a1 S = some res) : g [some (.ref a0), some (.int a1)] 0 [] S := by
  refine H zc_Mo_clear _ 1000 _ _ _ _ ((r_Mo_clear a0 a1 S).symm.trans h) (fun pc lv st S hK => ?_)
  cases hK
set_option maxRecDepth 100000 in
theorem ok_Mo_clear : zokT 12 [61, 94, 63, 129, 145] false 3 74 2 false (some .int) cX12_clear zP_Mo_clear = true := by decide +kernel
set_option maxRecDepth 100000 in
theorem s_Mo_clear {l : Launch} {HB : Heap} {b L : Nat} {xs : Nat → Int32} {aK aV : Nat → Nat} {G : va_G} {tc : Nat → ClassId} (h0 : zSnd l HB b L xs aK aV G tc (zMT.getD 61 zyD) (fun α => zA_vR_V 12 f_Mo_fresh)) (h1 : zSnd l HB b L xs aK aV G tc (zMT.getD 94 zyD) (fun α => zA_vRI_I 12 f_Mo_isPass)) (h2 : zSnd l HB b L xs aK aV G tc (zMT.getD 63 zyD) (fun α => zA_vRI_I 12 f_Mo_no)) (h3 : zSnd l HB b L xs aK aV G tc (zMT.getD 129 zyD) (fun α => zA_vRI_V 12 f_Mo_laysPieces)) (h4 : zSnd l HB b L xs aK aV G tc (zMT.getD 145 zyD) (fun α => zA_vR_I 12 f_Mo_unclearOf)) : zSnd l HB b L xs aK aV G tc (zMT.getD 146 zyD) (fun α => zA_vRI_I 12 f_Mo_clear) := by
  rw [show zMT.getD 146 zyD = (yX12_clear, cX12_clear, 2, (some .int), 0, 2, 3, 74) from rfl]
  intro α as S k res h
  unfold zA_vRI_I at h
  dsimp only at h
  split at h
  · rename_i a0 a1
    obtain ⟨p, hp, h⟩ := zbind h
    unfold zcl at hp
    split at hp
    · rename_i hkd
      have hm := zmeth (l := l) (HB := HB) (b := b) (L := L) (xs := xs) (aK := aK) (aV := aV) (G := G) (tc := tc) (q := (yX12_clear, cX12_clear, 2, (some .int), 0, 2, 3, 74)) (o := 12) (cs := [61, 94, 63, 129, 145]) (rz := false) (T := zP_Mo_clear) (E := zE_Mo_clear (Int32 × zM)) (kr := zkI) (res := p) (v0 := some (.int p.1)) (S0 := p.2) (as := [.ref a0, .int a1]) (S := S) zMT_fine (by decide +kernel) (fun i as S k' h => by
        unfold zE_Mo_clear at h
        rcases zdisf h with ⟨rfl, h⟩ | h
        · exact h0 _ _ _ _ _ h
        rcases zdisf h with ⟨rfl, h⟩ | h
        · exact h1 _ _ _ _ _ h
        rcases zdisf h with ⟨rfl, h⟩ | h
        · exact h2 _ _ _ _ _ h
        rcases zdisf h with ⟨rfl, h⟩ | h
        · exact h3 _ _ _ _ _ h
        rcases zdisf h with ⟨rfl, h⟩ | h
        · exact h4 _ _ _ _ _ h
        cases h) ok_Mo_clear rfl (fun v S' h => zkI_inv h) (Nat.le_of_ble_eq_true rfl) (fun g H Hw => Hw _ [some (.ref a0), some (.int a1)] _ _ _ ⟨rfl, rfl, trivial⟩ (G_Mo_clear H Hw a0 a1 S hp))
      exact ⟨_, _, h, hm.1, rfl, fun _ => ⟨_, _, rfl⟩, (fun _ U H hK hH a r e => by cases e; exact zrecv (ci := 12) (by omega) hkd rfl U H hK hH), hm.2⟩
    · cases hp
  · cases h
def zP_Cl_unclear : List (List (Nat × zE)) := [[(0, e1 (.aload_n 0) 1 0), (1, e1 (.iload_n 1) 2 1), (2, e3 (.invokevirtual 199) 5 0 2 0), (5, e1 (.ifCond .eq 17) 8 22), (8, e1 (.aload_n 0) 9 0), (9, e1 (.aload_n 0) 10 0), (10, e3 (.getfield 51) 13 11 8 2), (13, e3 (.invokevirtual 208) 16 1 1 0)],
  [(16, e3 (.invokevirtual 109) 19 2 2 0), (19, e1 (.goto 8) 22 27), (22, e1 (.aload_n 0) 23 0), (23, ei (.iconst 1) 24 0 (1)), (24, e3 (.invokevirtual 79) 27 3 2 0), (27, e0 (.ireturn) 28)]]
noncomputable def zE_Cl_unclear (α : Type) : Nat → zX α := fun i => bif Nat.beq i 0 then zA_vRI_I 11 f_Cl_gatherPieces else bif Nat.beq i 1 then zA_vR_I 6 f_Pieces_fewestReadTwice else bif Nat.beq i 2 then zA_vRI_I 11 f_Cl_answer else bif Nat.beq i 3 then zA_vRI_I 11 f_Cl_refuse else fun _ _ _ => none
def zc_Cl_unclear : Nat → Bool := fun pc => false
set_option maxRecDepth 100000 in
theorem r_Cl_unclear (a0 : Nat) (a1 : Int32) (S : zM) : f_Cl_unclear a0 a1 S = zrt false zP_Cl_unclear (zE_Cl_unclear (Int32 × zM)) zc_Cl_unclear zkI (fun pc lv st S => none) 1000 0 [some (.ref a0), some (.int a1)] [] S := rfl
theorem G_Cl_unclear {g : zV → Nat → List Value → zM → Prop} {res : (Int32 × zM)} (H : zCl false zP_Cl_unclear (zE_Cl_unclear (Int32 × zM)) zkI res g) (Hw : zWk g) (a0 : Nat) (a1 : Int32) (S : zM) (h : f_Cl_unclear a0 a1 S = some res) : g [some (.ref a0), some (.int a1)] 0 [] S := by
  refine H zc_Cl_unclear _ 1000 _ _ _ _ ((r_Cl_unclear a0 a1 S).symm.trans h) (fun pc lv st S hK => ?_)
  cases hK
set_option maxRecDepth 100000 in
theorem ok_Cl_unclear : zokT 11 [126, 139, 59, 16] false 6 129 2 false (some .int) cX11_unclear zP_Cl_unclear = true := by decide +kernel
set_option maxRecDepth 100000 in
theorem s_Cl_unclear {l : Launch} {HB : Heap} {b L : Nat} {xs : Nat → Int32} {aK aV : Nat → Nat} {G : va_G} {tc : Nat → ClassId} (h0 : zSnd l HB b L xs aK aV G tc (zMT.getD 126 zyD) (fun α => zA_vRI_I 11 f_Cl_gatherPieces)) (h1 : zSnd l HB b L xs aK aV G tc (zMT.getD 139 zyD) (fun α => zA_vR_I 6 f_Pieces_fewestReadTwice)) (h2 : zSnd l HB b L xs aK aV G tc (zMT.getD 59 zyD) (fun α => zA_vRI_I 11 f_Cl_answer)) (h3 : zSnd l HB b L xs aK aV G tc (zMT.getD 16 zyD) (fun α => zA_vRI_I 11 f_Cl_refuse)) : zSnd l HB b L xs aK aV G tc (zMT.getD 147 zyD) (fun α => zA_vRI_I 11 f_Cl_unclear) := by
  rw [show zMT.getD 147 zyD = (yX11_unclear, cX11_unclear, 2, (some .int), 0, 2, 6, 129) from rfl]
  intro α as S k res h
  unfold zA_vRI_I at h
  dsimp only at h
  split at h
  · rename_i a0 a1
    obtain ⟨p, hp, h⟩ := zbind h
    unfold zcl at hp
    split at hp
    · rename_i hkd
      have hm := zmeth (l := l) (HB := HB) (b := b) (L := L) (xs := xs) (aK := aK) (aV := aV) (G := G) (tc := tc) (q := (yX11_unclear, cX11_unclear, 2, (some .int), 0, 2, 6, 129)) (o := 11) (cs := [126, 139, 59, 16]) (rz := false) (T := zP_Cl_unclear) (E := zE_Cl_unclear (Int32 × zM)) (kr := zkI) (res := p) (v0 := some (.int p.1)) (S0 := p.2) (as := [.ref a0, .int a1]) (S := S) zMT_fine (by decide +kernel) (fun i as S k' h => by
        unfold zE_Cl_unclear at h
        rcases zdisf h with ⟨rfl, h⟩ | h
        · exact h0 _ _ _ _ _ h
        rcases zdisf h with ⟨rfl, h⟩ | h
        · exact h1 _ _ _ _ _ h
        rcases zdisf h with ⟨rfl, h⟩ | h
        · exact h2 _ _ _ _ _ h
        rcases zdisf h with ⟨rfl, h⟩ | h
        · exact h3 _ _ _ _ _ h
        cases h) ok_Cl_unclear rfl (fun v S' h => zkI_inv h) (Nat.le_of_ble_eq_true rfl) (fun g H Hw => Hw _ [some (.ref a0), some (.int a1)] _ _ _ ⟨rfl, rfl, trivial⟩ (G_Cl_unclear H Hw a0 a1 S hp))
      exact ⟨_, _, h, hm.1, rfl, fun _ => ⟨_, _, rfl⟩, (fun _ U H hK hH a r e => by cases e; exact zrecv (ci := 11) (by omega) hkd rfl U H hK hH), hm.2⟩
    · cases hp
  · cases h
def zP_Mo_unclear : List (List (Nat × zE)) := [[(0, e1 (.aload_n 0) 1 0), (1, e3 (.invokevirtual 272) 4 0 1 0), (4, e1 (.aload_n 0) 5 0), (5, e1 (.iload_n 1) 6 1), (6, e3 (.invokevirtual 303) 9 1 2 0), (9, e1 (.ifCond .ne 9) 12 18), (12, e1 (.aload_n 0) 13 0), (13, ei (.iconst 1) 14 0 (1)), (14, e3 (.invokevirtual 275) 17 2 2 0)],
  [(17, e0 (.ireturn) 18), (18, e1 (.aload_n 0) 19 0), (19, e1 (.iload_n 1) 20 1), (20, e3 (.invokevirtual 338) 23 3 2 0), (23, e1 (.aload_n 0) 24 0), (24, e3 (.invokevirtual 355) 27 4 1 0), (27, e0 (.ireturn) 28)]]
noncomputable def zE_Mo_unclear (α : Type) : Nat → zX α := fun i => bif Nat.beq i 0 then zA_vR_V 12 f_Mo_fresh else bif Nat.beq i 1 then zA_vRI_I 12 f_Mo_isPass else bif Nat.beq i 2 then zA_vRI_I 12 f_Mo_no else bif Nat.beq i 3 then zA_vRI_V 12 f_Mo_laysPieces else bif Nat.beq i 4 then zA_vR_I 12 f_Mo_unclearOf else fun _ _ _ => none
def zc_Mo_unclear : Nat → Bool := fun pc => false
set_option maxRecDepth 100000 in
theorem r_Mo_unclear (a0 : Nat) (a1 : Int32) (S : zM) : f_Mo_unclear a0 a1 S = zrt false zP_Mo_unclear (zE_Mo_unclear (Int32 × zM)) zc_Mo_unclear zkI (fun pc lv st S => none) 1000 0 [some (.ref a0), some (.int a1)] [] S := rfl
theorem G_Mo_unclear {g : zV → Nat → List Value → zM → Prop} {res : (Int32 × zM)} (H : zCl false zP_Mo_unclear (zE_Mo_unclear (Int32 × zM)) zkI res g) (Hw : zWk g) (a0 : Nat) (a1 : Int32) (S : zM) (h : f_Mo_unclear a0 a1 S = some res) : g [some (.ref a0), some (.int a1)] 0 [] S := by
  refine H zc_Mo_unclear _ 1000 _ _ _ _ ((r_Mo_unclear a0 a1 S).symm.trans h) (fun pc lv st S hK => ?_)
  cases hK
set_option maxRecDepth 100000 in
theorem ok_Mo_unclear : zokT 12 [61, 94, 63, 129, 145] false 3 74 2 false (some .int) cX12_unclear zP_Mo_unclear = true := by decide +kernel
set_option maxRecDepth 100000 in
theorem s_Mo_unclear {l : Launch} {HB : Heap} {b L : Nat} {xs : Nat → Int32} {aK aV : Nat → Nat} {G : va_G} {tc : Nat → ClassId} (h0 : zSnd l HB b L xs aK aV G tc (zMT.getD 61 zyD) (fun α => zA_vR_V 12 f_Mo_fresh)) (h1 : zSnd l HB b L xs aK aV G tc (zMT.getD 94 zyD) (fun α => zA_vRI_I 12 f_Mo_isPass)) (h2 : zSnd l HB b L xs aK aV G tc (zMT.getD 63 zyD) (fun α => zA_vRI_I 12 f_Mo_no)) (h3 : zSnd l HB b L xs aK aV G tc (zMT.getD 129 zyD) (fun α => zA_vRI_V 12 f_Mo_laysPieces)) (h4 : zSnd l HB b L xs aK aV G tc (zMT.getD 145 zyD) (fun α => zA_vR_I 12 f_Mo_unclearOf)) : zSnd l HB b L xs aK aV G tc (zMT.getD 148 zyD) (fun α => zA_vRI_I 12 f_Mo_unclear) := by
  rw [show zMT.getD 148 zyD = (yX12_unclear, cX12_unclear, 2, (some .int), 0, 2, 3, 74) from rfl]
  intro α as S k res h
  unfold zA_vRI_I at h
  dsimp only at h
  split at h
  · rename_i a0 a1
    obtain ⟨p, hp, h⟩ := zbind h
    unfold zcl at hp
    split at hp
    · rename_i hkd
      have hm := zmeth (l := l) (HB := HB) (b := b) (L := L) (xs := xs) (aK := aK) (aV := aV) (G := G) (tc := tc) (q := (yX12_unclear, cX12_unclear, 2, (some .int), 0, 2, 3, 74)) (o := 12) (cs := [61, 94, 63, 129, 145]) (rz := false) (T := zP_Mo_unclear) (E := zE_Mo_unclear (Int32 × zM)) (kr := zkI) (res := p) (v0 := some (.int p.1)) (S0 := p.2) (as := [.ref a0, .int a1]) (S := S) zMT_fine (by decide +kernel) (fun i as S k' h => by
        unfold zE_Mo_unclear at h
        rcases zdisf h with ⟨rfl, h⟩ | h
        · exact h0 _ _ _ _ _ h
        rcases zdisf h with ⟨rfl, h⟩ | h
        · exact h1 _ _ _ _ _ h
        rcases zdisf h with ⟨rfl, h⟩ | h
        · exact h2 _ _ _ _ _ h
        rcases zdisf h with ⟨rfl, h⟩ | h
        · exact h3 _ _ _ _ _ h
        rcases zdisf h with ⟨rfl, h⟩ | h
        · exact h4 _ _ _ _ _ h
        cases h) ok_Mo_unclear rfl (fun v S' h => zkI_inv h) (Nat.le_of_ble_eq_true rfl) (fun g H Hw => Hw _ [some (.ref a0), some (.int a1)] _ _ _ ⟨rfl, rfl, trivial⟩ (G_Mo_unclear H Hw a0 a1 S hp))
      exact ⟨_, _, h, hm.1, rfl, fun _ => ⟨_, _, rfl⟩, (fun _ U H hK hH a r e => by cases e; exact zrecv (ci := 12) (by omega) hkd rfl U H hK hH), hm.2⟩
    · cases hp
  · cases h
def zP_Row_takeWord : List (List (Nat × zE)) := [[(0, e1 (.aload_n 0) 1 0), (1, e3 (.invokevirtual 25) 4 0 1 0), (4, ei (.bipush 56) 6 0 (56)), (6, e1 (.istore_n 3) 7 3), (7, e1 (.iload_n 3) 8 3), (8, e1 (.ifCond .lt 60) 11 68), (11, e1 (.lload_n 1) 12 1), (12, e1 (.iload_n 3) 13 3), (13, e0 (.lushr) 14), (14, e0 (.l2i) 15), (15, ei (.sipush 255) 18 0 (255))],
  [(18, e0 (.iand) 19), (19, e1 (.istore 4) 21 4), (21, e1 (.iload 4) 23 4), (23, e1 (.ifCond .ne 13) 26 36), (26, e1 (.aload_n 0) 27 0), (27, e3 (.getfield 15) 30 8 1 0), (30, e1 (.ifCond .ne 6) 33 36)],
  [(33, e1 (.goto 29) 36 62), (36, e1 (.iload 4) 38 4), (38, ei (.bipush 97) 40 0 (97)), (40, e1 (.if_icmp .lt 10) 43 50), (43, e1 (.iload 4) 45 4), (45, ei (.bipush 104) 47 0 (104)), (47, e1 (.if_icmp .le 5) 50 52)],
  [(50, ei (.iconst 0) 51 0 (0)), (51, e0 (.ireturn) 52), (52, e1 (.aload_n 0) 53 0), (53, e1 (.iload 4) 55 4), (55, ei (.bipush 97) 57 0 (97)), (57, e0 (.isub) 58), (58, e3 (.invokevirtual 40) 61 1 2 0), (61, e0 (.pop) 62), (62, ei (.iinc 3 (-8)) 65 3 (-8))],
  [(65, e1 (.goto (-58)) 68 7), (68, e1 (.aload_n 0) 69 0), (69, e3 (.getfield 15) 72 8 1 0), (72, e1 (.ifCond .le 7) 75 79), (75, ei (.iconst 1) 76 0 (1)), (76, e1 (.goto 4) 79 80), (79, ei (.iconst 0) 80 0 (0))],
  [(80, e0 (.ireturn) 81)]]
noncomputable def zE_Row_takeWord (α : Type) : Nat → zX α := fun i => bif Nat.beq i 0 then zA_vR_V 8 f_Row_drop else bif Nat.beq i 1 then zA_vRI_I 8 f_Row_add else fun _ _ _ => none
def zc_Row_takeWord : Nat → Bool := fun pc => Nat.beq pc 7
def D_Row_takeWord_7 (k : Nat → Int64 → Int32 → zM → Option (Int32 × zM)) (lv : zV) (st : List Value) (S : zM) : Option (Int32 × zM) := match lv, st with
  | [some (.ref a0), some (.long a1), _, some (.int a3), _], [] => k a0 a1 a3 S
  | _, _ => none
theorem d_Row_takeWord_7 {g : zV → Nat → List Value → zM → Prop} (Hw : zWk g) {k : Nat → Int64 → Int32 → zM → Option (Int32 × zM)} {res : (Int32 × zM)} {lv : zV} {st : List Value} {S : zM} (h : D_Row_takeWord_7 k lv st S = some res) (hk : ∀ a0 a1 a3 S, k a0 a1 a3 S = some res → g [some (.ref a0), some (.long a1), none, some (.int a3), none] 7 [] S) : g lv 7 st S := by
  unfold D_Row_takeWord_7 at h
  split at h
  · exact Hw _ _ _ _ _ (by simp [zle]) (hk _ _ _ _  h)
  · cases h
set_option maxRecDepth 100000 in
theorem r_Row_takeWord_7 (n : Nat) (a0 : Nat) (a1 : Int64) (a3 : Int32) (S : zM) : L_Row_takeWord_7 (n + 1) a0 a1 a3 S = zrt true zP_Row_takeWord (zE_Row_takeWord (Int32 × zM)) zc_Row_takeWord zkI (fun pc lv st S => bif Nat.beq pc 7 then D_Row_takeWord_7 (L_Row_takeWord_7 n) lv st S else none) 1000 7 [some (.ref a0), some (.long a1), none, some (.int a3), none] [] S := rfl
theorem g_Row_takeWord_7 {g : zV → Nat → List Value → zM → Prop} {res : (Int32 × zM)} (H : zCl true zP_Row_takeWord (zE_Row_takeWord (Int32 × zM)) zkI res g) (Hw : zWk g) (n : Nat) : ∀ (a0 : Nat) (a1 : Int64) (a3 : Int32) (S : zM), L_Row_takeWord_7 n a0 a1 a3 S = some res → g [some (.ref a0), some (.long a1), none, some (.int a3), none] 7 [] S := by
  induction n with
  | zero => intro a0 a1 a3 S h; cases h
  | succ n ih =>
    intro a0 a1 a3 S h
    refine H zc_Row_takeWord _ 1000 _ _ _ _ ((r_Row_takeWord_7 n a0 a1 a3 S).symm.trans h) (fun pc lv st S hK => ?_)
    rcases zdis hK with ⟨rfl, hK⟩ | hK
    · exact d_Row_takeWord_7 Hw hK ih
    cases hK
set_option maxRecDepth 100000 in
theorem r_Row_takeWord (a0 : Nat) (a1 : Int64) (S : zM) : f_Row_takeWord a0 a1 S = zrt true zP_Row_takeWord (zE_Row_takeWord (Int32 × zM)) zc_Row_takeWord zkI (fun pc lv st S => bif Nat.beq pc 7 then D_Row_takeWord_7 (L_Row_takeWord_7 zF) lv st S else none) 1000 0 [some (.ref a0), some (.long a1), none, none, none] [] S := rfl
theorem G_Row_takeWord {g : zV → Nat → List Value → zM → Prop} {res : (Int32 × zM)} (H : zCl true zP_Row_takeWord (zE_Row_takeWord (Int32 × zM)) zkI res g) (Hw : zWk g) (a0 : Nat) (a1 : Int64) (S : zM) (h : f_Row_takeWord a0 a1 S = some res) : g [some (.ref a0), some (.long a1), none, none, none] 0 [] S := by
  refine H zc_Row_takeWord _ 1000 _ _ _ _ ((r_Row_takeWord a0 a1 S).symm.trans h) (fun pc lv st S hK => ?_)
  rcases zdis hK with ⟨rfl, hK⟩ | hK
  · exact d_Row_takeWord_7 Hw hK (g_Row_takeWord_7 H Hw  zF)
  cases hK
set_option maxRecDepth 100000 in
theorem ok_Row_takeWord : zokT 8 [36, 3] false 1 21 5 true (some .boolean) cX8_takeWord zP_Row_takeWord = true := by decide +kernel
set_option maxRecDepth 100000 in
theorem s_Row_takeWord {l : Launch} {HB : Heap} {b L : Nat} {xs : Nat → Int32} {aK aV : Nat → Nat} {G : va_G} {tc : Nat → ClassId} (h0 : zSnd l HB b L xs aK aV G tc (zMT.getD 36 zyD) (fun α => zA_vR_V 8 f_Row_drop)) (h1 : zSnd l HB b L xs aK aV G tc (zMT.getD 3 zyD) (fun α => zA_vRI_I 8 f_Row_add)) : zSnd l HB b L xs aK aV G tc (zMT.getD 149 zyD) (fun α => zA_vRJ_I 8 f_Row_takeWord) := by
  rw [show zMT.getD 149 zyD = (yX8_takeWord, cX8_takeWord, 5, (some .boolean), 0, 2, 1, 21) from rfl]
  intro α as S k res h
  unfold zA_vRJ_I at h
  dsimp only at h
  split at h
  · rename_i a0 a1
    obtain ⟨p, hp, h⟩ := zbind h
    unfold zcl at hp
    split at hp
    · rename_i hkd
      have hm := zmeth (l := l) (HB := HB) (b := b) (L := L) (xs := xs) (aK := aK) (aV := aV) (G := G) (tc := tc) (q := (yX8_takeWord, cX8_takeWord, 5, (some .boolean), 0, 2, 1, 21)) (o := 8) (cs := [36, 3]) (rz := true) (T := zP_Row_takeWord) (E := zE_Row_takeWord (Int32 × zM)) (kr := zkI) (res := p) (v0 := some (.int p.1)) (S0 := p.2) (as := [.ref a0, .long a1]) (S := S) zMT_fine (by decide +kernel) (fun i as S k' h => by
        unfold zE_Row_takeWord at h
        rcases zdisf h with ⟨rfl, h⟩ | h
        · exact h0 _ _ _ _ _ h
        rcases zdisf h with ⟨rfl, h⟩ | h
        · exact h1 _ _ _ _ _ h
        cases h) ok_Row_takeWord rfl (fun v S' h => zkI_inv h) (Nat.le_of_ble_eq_true rfl) (fun g H Hw => Hw _ [some (.ref a0), some (.long a1), none, none, none] _ _ _ ⟨rfl, rfl, trivial⟩ (G_Row_takeWord H Hw a0 a1 S hp))
      exact ⟨_, _, h, hm.1, rfl, fun _ => ⟨_, _, rfl⟩, (fun _ U H hK hH a r e => by cases e; exact zrecv (ci := 8) (by omega) hkd rfl U H hK hH), hm.2⟩
    · cases hp
  · cases h
def zP_Row_holds : List (List (Nat × zE)) := [[(0, e1 (.iload_n 1) 1 1), (1, e1 (.aload_n 2) 2 2), (2, e3 (.getfield 15) 5 8 1 0), (5, e0 (.iadd) 6), (6, e1 (.aload_n 0) 7 0), (7, e3 (.getfield 15) 10 8 1 0), (10, e1 (.if_icmp .gt 16) 13 26), (13, e1 (.aload_n 0) 14 0), (14, e1 (.iload_n 1) 15 1), (15, e1 (.aload_n 2) 16 2)],
  [(16, e3 (.invokevirtual 36) 19 0 3 0), (19, e1 (.ifCond .eq 7) 22 26), (22, ei (.iconst 1) 23 0 (1)), (23, e1 (.goto 4) 26 27), (26, ei (.iconst 0) 27 0 (0)), (27, e0 (.ireturn) 28)]]
noncomputable def zE_Row_holds (α : Type) : Nat → zX α := fun i => bif Nat.beq i 0 then zA_vRIR_I 8 f_Row_agrees else fun _ _ _ => none
def zc_Row_holds : Nat → Bool := fun pc => false
set_option maxRecDepth 100000 in
theorem r_Row_holds (a0 : Nat) (a1 : Int32) (a2 : Nat) (S : zM) : f_Row_holds a0 a1 a2 S = zrt true zP_Row_holds (zE_Row_holds (Int32 × zM)) zc_Row_holds zkI (fun pc lv st S => none) 1000 0 [some (.ref a0), some (.int a1), some (.ref a2)] [] S := rfl
theorem G_Row_holds {g : zV → Nat → List Value → zM → Prop} {res : (Int32 × zM)} (H : zCl true zP_Row_holds (zE_Row_holds (Int32 × zM)) zkI res g) (Hw : zWk g) (a0 : Nat) (a1 : Int32) (a2 : Nat) (S : zM) (h : f_Row_holds a0 a1 a2 S = some res) : g [some (.ref a0), some (.int a1), some (.ref a2)] 0 [] S := by
  refine H zc_Row_holds _ 1000 _ _ _ _ ((r_Row_holds a0 a1 a2 S).symm.trans h) (fun pc lv st S hK => ?_)
  cases hK
set_option maxRecDepth 100000 in
theorem ok_Row_holds : zokT 8 [135] false 2 44 3 true (some .boolean) cX8_holds zP_Row_holds = true := by decide +kernel
set_option maxRecDepth 100000 in
theorem s_Row_holds {l : Launch} {HB : Heap} {b L : Nat} {xs : Nat → Int32} {aK aV : Nat → Nat} {G : va_G} {tc : Nat → ClassId} (h0 : zSnd l HB b L xs aK aV G tc (zMT.getD 135 zyD) (fun α => zA_vRIR_I 8 f_Row_agrees)) : zSnd l HB b L xs aK aV G tc (zMT.getD 150 zyD) (fun α => zA_vRIR_I 8 f_Row_holds) := by
  rw [show zMT.getD 150 zyD = (yX8_holds, cX8_holds, 3, (some .boolean), 0, 3, 2, 44) from rfl]
  intro α as S k res h
  unfold zA_vRIR_I at h
  dsimp only at h
  split at h
  · rename_i a0 a1 a2
    obtain ⟨p, hp, h⟩ := zbind h
    unfold zcl at hp
    split at hp
    · rename_i hkd
      have hm := zmeth (l := l) (HB := HB) (b := b) (L := L) (xs := xs) (aK := aK) (aV := aV) (G := G) (tc := tc) (q := (yX8_holds, cX8_holds, 3, (some .boolean), 0, 3, 2, 44)) (o := 8) (cs := [135]) (rz := true) (T := zP_Row_holds) (E := zE_Row_holds (Int32 × zM)) (kr := zkI) (res := p) (v0 := some (.int p.1)) (S0 := p.2) (as := [.ref a0, .int a1, .ref a2]) (S := S) zMT_fine (by decide +kernel) (fun i as S k' h => by
        unfold zE_Row_holds at h
        rcases zdisf h with ⟨rfl, h⟩ | h
        · exact h0 _ _ _ _ _ h
        cases h) ok_Row_holds rfl (fun v S' h => zkI_inv h) (Nat.le_of_ble_eq_true rfl) (fun g H Hw => Hw _ [some (.ref a0), some (.int a1), some (.ref a2)] _ _ _ ⟨rfl, rfl, rfl, trivial⟩ (G_Row_holds H Hw a0 a1 a2 S hp))
      exact ⟨_, _, h, hm.1, rfl, fun _ => ⟨_, _, rfl⟩, (fun _ U H hK hH a r e => by cases e; exact zrecv (ci := 8) (by omega) hkd rfl U H hK hH), hm.2⟩
    · cases hp
  · cases h
def zP_Pieces_waysBehind : List (List (Nat × zE)) := [[(0, e1 (.aload_n 0) 1 0), (1, e1 (.iload_n 3) 2 3), (2, e3 (.invokevirtual 76) 5 0 2 0), (5, e1 (.astore 4) 7 4), (7, e1 (.aload 4) 9 4), (9, e1 (.ifnull 21) 12 30), (12, e1 (.aload 4) 14 4), (14, e3 (.getfield 80) 17 8 1 0)],
  [(17, e1 (.ifCond .eq 13) 20 30), (20, e1 (.aload_n 1) 21 1), (21, e1 (.iload_n 2) 22 2), (22, e1 (.aload 4) 24 4), (24, e3 (.invokevirtual 112) 27 1 3 0), (27, e1 (.ifCond .ne 5) 30 32), (30, ei (.iconst 0) 31 0 (0)), (31, e0 (.ireturn) 32)],
  [(32, e1 (.iload_n 2) 33 2), (33, e1 (.aload 4) 35 4), (35, e3 (.getfield 80) 38 8 1 0), (38, e0 (.iadd) 39), (39, e1 (.istore 5) 41 5), (41, e1 (.iload 5) 43 5), (43, e1 (.ifCond .lt 13) 46 56), (46, e1 (.iload 5) 48 5)],
  [(48, e1 (.aload_n 0) 49 0), (49, e3 (.getfield 27) 52 6 4 2), (52, e0 (.arraylength) 53), (53, e1 (.if_icmp .lt 7) 56 60), (56, ei (.iconst 0) 57 0 (0)), (57, e1 (.goto 10) 60 67), (60, e1 (.aload_n 0) 61 0), (61, e3 (.getfield 27) 64 6 4 2)],
  [(64, e1 (.iload 5) 66 5), (66, e0 (.iaload) 67), (67, e0 (.ireturn) 68)]]
noncomputable def zE_Pieces_waysBehind (α : Type) : Nat → zX α := fun i => bif Nat.beq i 0 then zA_vRI_N 6 f_Pieces_lettersOf else bif Nat.beq i 1 then zA_vRIR_I 8 f_Row_holds else fun _ _ _ => none
def zc_Pieces_waysBehind : Nat → Bool := fun pc => false
set_option maxRecDepth 100000 in
theorem r_Pieces_waysBehind (a0 : Nat) (a1 : Nat) (a2 : Int32) (a3 : Int32) (S : zM) : f_Pieces_waysBehind a0 a1 a2 a3 S = zrt false zP_Pieces_waysBehind (zE_Pieces_waysBehind (Int32 × zM)) zc_Pieces_waysBehind zkI (fun pc lv st S => none) 1000 0 [some (.ref a0), some (.ref a1), some (.int a2), some (.int a3), none, none] [] S := rfl
theorem G_Pieces_waysBehind {g : zV → Nat → List Value → zM → Prop} {res : (Int32 × zM)} (H : zCl false zP_Pieces_waysBehind (zE_Pieces_waysBehind (Int32 × zM)) zkI res g) (Hw : zWk g) (a0 : Nat) (a1 : Nat) (a2 : Int32) (a3 : Int32) (S : zM) (h : f_Pieces_waysBehind a0 a1 a2 a3 S = some res) : g [some (.ref a0), some (.ref a1), some (.int a2), some (.int a3), none, none] 0 [] S := by
  refine H zc_Pieces_waysBehind _ 1000 _ _ _ _ ((r_Pieces_waysBehind a0 a1 a2 a3 S).symm.trans h) (fun pc lv st S hK => ?_)
  cases hK
set_option maxRecDepth 100000 in
theorem ok_Pieces_waysBehind : zokT 6 [134, 150] false 3 66 6 false (some .int) cX6_waysBehind zP_Pieces_waysBehind = true := by decide +kernel
set_option maxRecDepth 100000 in
theorem s_Pieces_waysBehind {l : Launch} {HB : Heap} {b L : Nat} {xs : Nat → Int32} {aK aV : Nat → Nat} {G : va_G} {tc : Nat → ClassId} (h0 : zSnd l HB b L xs aK aV G tc (zMT.getD 134 zyD) (fun α => zA_vRI_N 6 f_Pieces_lettersOf)) (h1 : zSnd l HB b L xs aK aV G tc (zMT.getD 150 zyD) (fun α => zA_vRIR_I 8 f_Row_holds)) : zSnd l HB b L xs aK aV G tc (zMT.getD 151 zyD) (fun α => zA_vRRII_I 6 f_Pieces_waysBehind) := by
  rw [show zMT.getD 151 zyD = (yX6_waysBehind, cX6_waysBehind, 6, (some .int), 0, 4, 3, 66) from rfl]
  intro α as S k res h
  unfold zA_vRRII_I at h
  dsimp only at h
  split at h
  · rename_i a0 a1 a2 a3
    obtain ⟨p, hp, h⟩ := zbind h
    unfold zcl at hp
    split at hp
    · rename_i hkd
      have hm := zmeth (l := l) (HB := HB) (b := b) (L := L) (xs := xs) (aK := aK) (aV := aV) (G := G) (tc := tc) (q := (yX6_waysBehind, cX6_waysBehind, 6, (some .int), 0, 4, 3, 66)) (o := 6) (cs := [134, 150]) (rz := false) (T := zP_Pieces_waysBehind) (E := zE_Pieces_waysBehind (Int32 × zM)) (kr := zkI) (res := p) (v0 := some (.int p.1)) (S0 := p.2) (as := [.ref a0, .ref a1, .int a2, .int a3]) (S := S) zMT_fine (by decide +kernel) (fun i as S k' h => by
        unfold zE_Pieces_waysBehind at h
        rcases zdisf h with ⟨rfl, h⟩ | h
        · exact h0 _ _ _ _ _ h
        rcases zdisf h with ⟨rfl, h⟩ | h
        · exact h1 _ _ _ _ _ h
        cases h) ok_Pieces_waysBehind rfl (fun v S' h => zkI_inv h) (Nat.le_of_ble_eq_true rfl) (fun g H Hw => Hw _ [some (.ref a0), some (.ref a1), some (.int a2), some (.int a3), none, none] _ _ _ ⟨rfl, rfl, rfl, rfl, trivial⟩ (G_Pieces_waysBehind H Hw a0 a1 a2 a3 S hp))
      exact ⟨_, _, h, hm.1, rfl, fun _ => ⟨_, _, rfl⟩, (fun _ U H hK hH a r e => by cases e; exact zrecv (ci := 6) (by omega) hkd rfl U H hK hH), hm.2⟩
    · cases hp
  · cases h
def zP_Pieces_countReadings : List (List (Nat × zE)) := [[(0, e1 (.aload_n 1) 1 1), (1, e3 (.getfield 80) 4 8 1 0), (4, e1 (.aload_n 0) 5 0), (5, e3 (.getfield 27) 8 6 4 2), (8, e0 (.arraylength) 9), (9, e1 (.if_icmp .lt 5) 12 14), (12, ei (.iconst 0) 13 0 (0)), (13, e0 (.ireturn) 14), (14, e1 (.aload_n 0) 15 0), (15, e3 (.getfield 27) 18 6 4 2)],
  [(18, e1 (.aload_n 1) 19 1), (19, e3 (.getfield 80) 22 8 1 0), (22, ei (.iconst 1) 23 0 (1)), (23, e0 (.iastore) 24), (24, e1 (.aload_n 1) 25 1), (25, e3 (.getfield 80) 28 8 1 0), (28, ei (.iconst 1) 29 0 (1)), (29, e0 (.isub) 30), (30, e1 (.istore_n 2) 31 2), (31, e1 (.iload_n 2) 32 2)],
  [(32, e1 (.ifCond .lt 48) 35 80), (35, e1 (.aload_n 0) 36 0), (36, e3 (.getfield 27) 39 6 4 2), (39, e1 (.iload_n 2) 40 2), (40, ei (.iconst 0) 41 0 (0)), (41, e0 (.iastore) 42), (42, ei (.iconst 0) 43 0 (0)), (43, e1 (.istore_n 3) 44 3), (44, e1 (.iload_n 3) 45 3), (45, e1 (.aload_n 0) 46 0), (46, e3 (.getfield 37) 49 6 5 0)],
  [(49, e1 (.if_icmp .ge 25) 52 74), (52, e1 (.aload_n 0) 53 0), (53, e3 (.getfield 27) 56 6 4 2), (56, e1 (.iload_n 2) 57 2), (57, e0 (.dup2) 58), (58, e0 (.iaload) 59), (59, e1 (.aload_n 0) 60 0), (60, e1 (.aload_n 1) 61 1), (61, e1 (.iload_n 2) 62 2), (62, e1 (.iload_n 3) 63 3), (63, e3 (.invokevirtual 108) 66 0 4 0)],
  [(66, e0 (.iadd) 67), (67, e0 (.iastore) 68), (68, ei (.iinc 3 1) 71 3 (1)), (71, e1 (.goto (-27)) 74 44), (74, ei (.iinc 2 (-1)) 77 2 (-1)), (77, e1 (.goto (-46)) 80 31)],
  [(80, e1 (.aload_n 0) 81 0), (81, e3 (.getfield 27) 84 6 4 2), (84, ei (.iconst 0) 85 0 (0)), (85, e0 (.iaload) 86), (86, e0 (.ireturn) 87)]]
noncomputable def zE_Pieces_countReadings (α : Type) : Nat → zX α := fun i => bif Nat.beq i 0 then zA_vRRII_I 6 f_Pieces_waysBehind else fun _ _ _ => none
def zc_Pieces_countReadings : Nat → Bool := fun pc => Nat.beq pc 31 || Nat.beq pc 44 || Nat.beq pc 74
def D_Pieces_countReadings_31 (k : Nat → Nat → Int32 → zM → Option (Int32 × zM)) (lv : zV) (st : List Value) (S : zM) : Option (Int32 × zM) := match lv, st with
  | [some (.ref a0), some (.ref a1), some (.int a2), _], [] => k a0 a1 a2 S
  | _, _ => none
theorem d_Pieces_countReadings_31 {g : zV → Nat → List Value → zM → Prop} (Hw : zWk g) {k : Nat → Nat → Int32 → zM → Option (Int32 × zM)} {res : (Int32 × zM)} {lv : zV} {st : List Value} {S : zM} (h : D_Pieces_countReadings_31 k lv st S = some res) (hk : ∀ a0 a1 a2 S, k a0 a1 a2 S = some res → g [some (.ref a0), some (.ref a1), some (.int a2), none] 31 [] S) : g lv 31 st S := by
  unfold D_Pieces_countReadings_31 at h
  split at h
  · exact Hw _ _ _ _ _ (by simp [zle]) (hk _ _ _ _  h)
  · cases h
def D_Pieces_countReadings_44 (k : Nat → Nat → Int32 → Int32 → zM → Option (Int32 × zM)) (lv : zV) (st : List Value) (S : zM) : Option (Int32 × zM) := match lv, st with
  | [some (.ref a0), some (.ref a1), some (.int a2), some (.int a3)], [] => k a0 a1 a2 a3 S
  | _, _ => none
theorem d_Pieces_countReadings_44 {g : zV → Nat → List Value → zM → Prop} (Hw : zWk g) {k : Nat → Nat → Int32 → Int32 → zM → Option (Int32 × zM)} {res : (Int32 × zM)} {lv : zV} {st : List Value} {S : zM} (h : D_Pieces_countReadings_44 k lv st S = some res) (hk : ∀ a0 a1 a2 a3 S, k a0 a1 a2 a3 S = some res → g [some (.ref a0), some (.ref a1), some (.int a2), some (.int a3)] 44 [] S) : g lv 44 st S := by
  unfold D_Pieces_countReadings_44 at h
  split at h
  · exact Hw _ _ _ _ _ (by simp [zle]) (hk _ _ _ _ _  h)
  · cases h
def D_Pieces_countReadings_74 (k : Nat → Nat → Int32 → zM → Option (Int32 × zM)) (lv : zV) (st : List Value) (S : zM) : Option (Int32 × zM) := match lv, st with
  | [some (.ref a0), some (.ref a1), some (.int a2), _], [] => k a0 a1 a2 S
  | _, _ => none
theorem d_Pieces_countReadings_74 {g : zV → Nat → List Value → zM → Prop} (Hw : zWk g) {k : Nat → Nat → Int32 → zM → Option (Int32 × zM)} {res : (Int32 × zM)} {lv : zV} {st : List Value} {S : zM} (h : D_Pieces_countReadings_74 k lv st S = some res) (hk : ∀ a0 a1 a2 S, k a0 a1 a2 S = some res → g [some (.ref a0), some (.ref a1), some (.int a2), none] 74 [] S) : g lv 74 st S := by
  unfold D_Pieces_countReadings_74 at h
  split at h
  · exact Hw _ _ _ _ _ (by simp [zle]) (hk _ _ _ _  h)
  · cases h
set_option maxRecDepth 100000 in
theorem r_Pieces_countReadings_74 (k31 : Nat → Nat → Int32 → zM → Option (Int32 × zM)) (a0 : Nat) (a1 : Nat) (a2 : Int32) (S : zM) : F_Pieces_countReadings_74 k31 a0 a1 a2 S = zrt false zP_Pieces_countReadings (zE_Pieces_countReadings (Int32 × zM)) zc_Pieces_countReadings zkI (fun pc lv st S => bif Nat.beq pc 31 then D_Pieces_countReadings_31 k31 lv st S else none) 1000 74 [some (.ref a0), some (.ref a1), some (.int a2), none] [] S := rfl
theorem g_Pieces_countReadings_74 {g : zV → Nat → List Value → zM → Prop} {res : (Int32 × zM)} (H : zCl false zP_Pieces_countReadings (zE_Pieces_countReadings (Int32 × zM)) zkI res g) (Hw : zWk g) {k31 : Nat → Nat → Int32 → zM → Option (Int32 × zM)} (hk31 : ∀ a0 a1 a2 S, k31 a0 a1 a2 S = some res → g [some (.ref a0), some (.ref a1), some (.int a2), none] 31 [] S) (a0 : Nat) (a1 : Nat) (a2 : Int32) (S : zM) (h : F_Pieces_countReadings_74 k31 a0 a1 a2 S = some res) : g [some (.ref a0), some (.ref a1), some (.int a2), none] 74 [] S := by
  refine H zc_Pieces_countReadings _ 1000 _ _ _ _ ((r_Pieces_countReadings_74 k31 a0 a1 a2 S).symm.trans h) (fun pc lv st S hK => ?_)
  rcases zdis hK with ⟨rfl, hK⟩ | hK
  · exact d_Pieces_countReadings_31 Hw hK hk31
  cases hK
set_option maxRecDepth 100000 in
theorem r_Pieces_countReadings_44 (k74 : Nat → Nat → Int32 → zM → Option (Int32 × zM)) (n : Nat) (a0 : Nat) (a1 : Nat) (a2 : Int32) (a3 : Int32) (S : zM) : L_Pieces_countReadings_44 k74 (n + 1) a0 a1 a2 a3 S = zrt false zP_Pieces_countReadings (zE_Pieces_countReadings (Int32 × zM)) zc_Pieces_countReadings zkI (fun pc lv st S => bif Nat.beq pc 44 then D_Pieces_countReadings_44 (L_Pieces_countReadings_44 k74 n) lv st S else bif Nat.beq pc 74 then D_Pieces_countReadings_74 k74 lv st S else none) 1000 44 [some (.ref a0), some (.ref a1), some (.int a2), some (.int a3)] [] S := rfl
theorem g_Pieces_countReadings_44 {g : zV → Nat → List Value → zM → Prop} {res : (Int32 × zM)} (H : zCl false zP_Pieces_countReadings (zE_Pieces_countReadings (Int32 × zM)) zkI res g) (Hw : zWk g) {k74 : Nat → Nat → Int32 → zM → Option (Int32 × zM)} (hk74 : ∀ a0 a1 a2 S, k74 a0 a1 a2 S = some res → g [some (.ref a0), some (.ref a1), some (.int a2), none] 74 [] S) (n : Nat) : ∀ (a0 : Nat) (a1 : Nat) (a2 : Int32) (a3 : Int32) (S : zM), L_Pieces_countReadings_44 k74 n a0 a1 a2 a3 S = some res → g [some (.ref a0), some (.ref a1), some (.int a2), some (.int a3)] 44 [] S := by
  induction n with
  | zero => intro a0 a1 a2 a3 S h; cases h
  | succ n ih =>
    intro a0 a1 a2 a3 S h
    refine H zc_Pieces_countReadings _ 1000 _ _ _ _ ((r_Pieces_countReadings_44 k74 n a0 a1 a2 a3 S).symm.trans h) (fun pc lv st S hK => ?_)
    rcases zdis hK with ⟨rfl, hK⟩ | hK
    · exact d_Pieces_countReadings_44 Hw hK ih
    rcases zdis hK with ⟨rfl, hK⟩ | hK
    · exact d_Pieces_countReadings_74 Hw hK hk74
    cases hK
set_option maxRecDepth 100000 in
theorem r_Pieces_countReadings_31 (n : Nat) (a0 : Nat) (a1 : Nat) (a2 : Int32) (S : zM) : L_Pieces_countReadings_31 (n + 1) a0 a1 a2 S = zrt false zP_Pieces_countReadings (zE_Pieces_countReadings (Int32 × zM)) zc_Pieces_countReadings zkI (fun pc lv st S => bif Nat.beq pc 44 then D_Pieces_countReadings_44 (L_Pieces_countReadings_44 (F_Pieces_countReadings_74 (L_Pieces_countReadings_31 n)) zF) lv st S else none) 1000 31 [some (.ref a0), some (.ref a1), some (.int a2), none] [] S := rfl
theorem g_Pieces_countReadings_31 {g : zV → Nat → List Value → zM → Prop} {res : (Int32 × zM)} (H : zCl false zP_Pieces_countReadings (zE_Pieces_countReadings (Int32 × zM)) zkI res g) (Hw : zWk g) (n : Nat) : ∀ (a0 : Nat) (a1 : Nat) (a2 : Int32) (S : zM), L_Pieces_countReadings_31 n a0 a1 a2 S = some res → g [some (.ref a0), some (.ref a1), some (.int a2), none] 31 [] S := by
  induction n with
  | zero => intro a0 a1 a2 S h; cases h
  | succ n ih =>
    intro a0 a1 a2 S h
    refine H zc_Pieces_countReadings _ 1000 _ _ _ _ ((r_Pieces_countReadings_31 n a0 a1 a2 S).symm.trans h) (fun pc lv st S hK => ?_)
    rcases zdis hK with ⟨rfl, hK⟩ | hK
    · exact d_Pieces_countReadings_44 Hw hK (g_Pieces_countReadings_44 H Hw (g_Pieces_countReadings_74 H Hw ih) zF)
    cases hK
set_option maxRecDepth 100000 in
theorem r_Pieces_countReadings (a0 : Nat) (a1 : Nat) (S : zM) : f_Pieces_countReadings a0 a1 S = zrt false zP_Pieces_countReadings (zE_Pieces_countReadings (Int32 × zM)) zc_Pieces_countReadings zkI (fun pc lv st S => bif Nat.beq pc 31 then D_Pieces_countReadings_31 (L_Pieces_countReadings_31 zF) lv st S else none) 1000 0 [some (.ref a0), some (.ref a1), none, none] [] S := rfl
theorem G_Pieces_countReadings {g : zV → Nat → List Value → zM → Prop} {res : (Int32 × zM)} (H : zCl false zP_Pieces_countReadings (zE_Pieces_countReadings (Int32 × zM)) zkI res g) (Hw : zWk g) (a0 : Nat) (a1 : Nat) (S : zM) (h : f_Pieces_countReadings a0 a1 S = some res) : g [some (.ref a0), some (.ref a1), none, none] 0 [] S := by
  refine H zc_Pieces_countReadings _ 1000 _ _ _ _ ((r_Pieces_countReadings a0 a1 S).symm.trans h) (fun pc lv st S hK => ?_)
  rcases zdis hK with ⟨rfl, hK⟩ | hK
  · exact d_Pieces_countReadings_31 Hw hK (g_Pieces_countReadings_31 H Hw  zF)
  cases hK
set_option maxRecDepth 100000 in
theorem ok_Pieces_countReadings : zokT 6 [151] false 4 91 4 false (some .int) cX6_countReadings zP_Pieces_countReadings = true := by decide +kernel
set_option maxRecDepth 100000 in
theorem s_Pieces_countReadings {l : Launch} {HB : Heap} {b L : Nat} {xs : Nat → Int32} {aK aV : Nat → Nat} {G : va_G} {tc : Nat → ClassId} (h0 : zSnd l HB b L xs aK aV G tc (zMT.getD 151 zyD) (fun α => zA_vRRII_I 6 f_Pieces_waysBehind)) : zSnd l HB b L xs aK aV G tc (zMT.getD 152 zyD) (fun α => zA_vRR_I 6 f_Pieces_countReadings) := by
  rw [show zMT.getD 152 zyD = (yX6_countReadings, cX6_countReadings, 4, (some .int), 0, 2, 4, 91) from rfl]
  intro α as S k res h
  unfold zA_vRR_I at h
  dsimp only at h
  split at h
  · rename_i a0 a1
    obtain ⟨p, hp, h⟩ := zbind h
    unfold zcl at hp
    split at hp
    · rename_i hkd
      have hm := zmeth (l := l) (HB := HB) (b := b) (L := L) (xs := xs) (aK := aK) (aV := aV) (G := G) (tc := tc) (q := (yX6_countReadings, cX6_countReadings, 4, (some .int), 0, 2, 4, 91)) (o := 6) (cs := [151]) (rz := false) (T := zP_Pieces_countReadings) (E := zE_Pieces_countReadings (Int32 × zM)) (kr := zkI) (res := p) (v0 := some (.int p.1)) (S0 := p.2) (as := [.ref a0, .ref a1]) (S := S) zMT_fine (by decide +kernel) (fun i as S k' h => by
        unfold zE_Pieces_countReadings at h
        rcases zdisf h with ⟨rfl, h⟩ | h
        · exact h0 _ _ _ _ _ h
        cases h) ok_Pieces_countReadings rfl (fun v S' h => zkI_inv h) (Nat.le_of_ble_eq_true rfl) (fun g H Hw => Hw _ [some (.ref a0), some (.ref a1), none, none] _ _ _ ⟨rfl, rfl, trivial⟩ (G_Pieces_countReadings H Hw a0 a1 S hp))
      exact ⟨_, _, h, hm.1, rfl, fun _ => ⟨_, _, rfl⟩, (fun _ U H hK hH a r e => by cases e; exact zrecv (ci := 6) (by omega) hkd rfl U H hK hH), hm.2⟩
    · cases hp
  · cases h
def zP_Cl_readings : List (List (Nat × zE)) := [[(0, e1 (.aload_n 0) 1 0), (1, e1 (.iload_n 1) 2 1), (2, e3 (.invokevirtual 199) 5 0 2 0), (5, e1 (.ifCond .ne 9) 8 14), (8, e1 (.aload_n 0) 9 0), (9, ei (.iconst 1) 10 0 (1)), (10, e3 (.invokevirtual 79) 13 1 2 0), (13, e0 (.ireturn) 14), (14, e1 (.aload_n 0) 15 0), (15, e3 (.getfield 35) 18 11 4 2)],
  [(18, e1 (.lload_n 2) 19 2), (19, e3 (.invokevirtual 211) 22 2 2 0), (22, e1 (.ifCond .eq 21) 25 43), (25, e1 (.aload_n 0) 26 0), (26, e1 (.aload_n 0) 27 0), (27, e3 (.getfield 51) 30 11 8 2), (30, e1 (.aload_n 0) 31 0), (31, e3 (.getfield 35) 34 11 4 2)],
  [(34, e3 (.invokevirtual 215) 37 3 2 0), (37, e3 (.invokevirtual 109) 40 4 2 0), (40, e1 (.goto 8) 43 48), (43, e1 (.aload_n 0) 44 0), (44, ei (.iconst 2) 45 0 (2)), (45, e3 (.invokevirtual 79) 48 1 2 0)],
  [(48, e0 (.ireturn) 49)]]
noncomputable def zE_Cl_readings (α : Type) : Nat → zX α := fun i => bif Nat.beq i 0 then zA_vRI_I 11 f_Cl_gatherPieces else bif Nat.beq i 1 then zA_vRI_I 11 f_Cl_refuse else bif Nat.beq i 2 then zA_vRJ_I 8 f_Row_takeWord else bif Nat.beq i 3 then zA_vRR_I 6 f_Pieces_countReadings else bif Nat.beq i 4 then zA_vRI_I 11 f_Cl_answer else fun _ _ _ => none
def zc_Cl_readings : Nat → Bool := fun pc => false
set_option maxRecDepth 100000 in
theorem r_Cl_readings (a0 : Nat) (a1 : Int32) (a2 : Int64) (S : zM) : f_Cl_readings a0 a1 a2 S = zrt false zP_Cl_readings (zE_Cl_readings (Int32 × zM)) zc_Cl_readings zkI (fun pc lv st S => none) 1000 0 [some (.ref a0), some (.int a1), some (.long a2), none] [] S := rfl
theorem G_Cl_readings {g : zV → Nat → List Value → zM → Prop} {res : (Int32 × zM)} (H : zCl false zP_Cl_readings (zE_Cl_readings (Int32 × zM)) zkI res g) (Hw : zWk g) (a0 : Nat) (a1 : Int32) (a2 : Int64) (S : zM) (h : f_Cl_readings a0 a1 a2 S = some res) : g [some (.ref a0), some (.int a1), some (.long a2), none] 0 [] S := by
  refine H zc_Cl_readings _ 1000 _ _ _ _ ((r_Cl_readings a0 a1 a2 S).symm.trans h) (fun pc lv st S hK => ?_)
  cases hK
set_option maxRecDepth 100000 in
theorem ok_Cl_readings : zokT 11 [126, 16, 149, 152, 59] false 6 129 4 false (some .int) cX11_readings zP_Cl_readings = true := by decide +kernel
set_option maxRecDepth 100000 in
theorem s_Cl_readings {l : Launch} {HB : Heap} {b L : Nat} {xs : Nat → Int32} {aK aV : Nat → Nat} {G : va_G} {tc : Nat → ClassId} (h0 : zSnd l HB b L xs aK aV G tc (zMT.getD 126 zyD) (fun α => zA_vRI_I 11 f_Cl_gatherPieces)) (h1 : zSnd l HB b L xs aK aV G tc (zMT.getD 16 zyD) (fun α => zA_vRI_I 11 f_Cl_refuse)) (h2 : zSnd l HB b L xs aK aV G tc (zMT.getD 149 zyD) (fun α => zA_vRJ_I 8 f_Row_takeWord)) (h3 : zSnd l HB b L xs aK aV G tc (zMT.getD 152 zyD) (fun α => zA_vRR_I 6 f_Pieces_countReadings)) (h4 : zSnd l HB b L xs aK aV G tc (zMT.getD 59 zyD) (fun α => zA_vRI_I 11 f_Cl_answer)) : zSnd l HB b L xs aK aV G tc (zMT.getD 153 zyD) (fun α => zA_vRIJ_I 11 f_Cl_readings) := by
  rw [show zMT.getD 153 zyD = (yX11_readings, cX11_readings, 4, (some .int), 0, 3, 6, 129) from rfl]
  intro α as S k res h
  unfold zA_vRIJ_I at h
  dsimp only at h
  split at h
  · rename_i a0 a1 a2
    obtain ⟨p, hp, h⟩ := zbind h
    unfold zcl at hp
    split at hp
    · rename_i hkd
      have hm := zmeth (l := l) (HB := HB) (b := b) (L := L) (xs := xs) (aK := aK) (aV := aV) (G := G) (tc := tc) (q := (yX11_readings, cX11_readings, 4, (some .int), 0, 3, 6, 129)) (o := 11) (cs := [126, 16, 149, 152, 59]) (rz := false) (T := zP_Cl_readings) (E := zE_Cl_readings (Int32 × zM)) (kr := zkI) (res := p) (v0 := some (.int p.1)) (S0 := p.2) (as := [.ref a0, .int a1, .long a2]) (S := S) zMT_fine (by decide +kernel) (fun i as S k' h => by
        unfold zE_Cl_readings at h
        rcases zdisf h with ⟨rfl, h⟩ | h
        · exact h0 _ _ _ _ _ h
        rcases zdisf h with ⟨rfl, h⟩ | h
        · exact h1 _ _ _ _ _ h
        rcases zdisf h with ⟨rfl, h⟩ | h
        · exact h2 _ _ _ _ _ h
        rcases zdisf h with ⟨rfl, h⟩ | h
        · exact h3 _ _ _ _ _ h
        rcases zdisf h with ⟨rfl, h⟩ | h
        · exact h4 _ _ _ _ _ h
        cases h) ok_Cl_readings rfl (fun v S' h => zkI_inv h) (Nat.le_of_ble_eq_true rfl) (fun g H Hw => Hw _ [some (.ref a0), some (.int a1), some (.long a2), none] _ _ _ ⟨rfl, rfl, rfl, trivial⟩ (G_Cl_readings H Hw a0 a1 a2 S hp))
      exact ⟨_, _, h, hm.1, rfl, fun _ => ⟨_, _, rfl⟩, (fun _ U H hK hH a r e => by cases e; exact zrecv (ci := 11) (by omega) hkd rfl U H hK hH), hm.2⟩
    · cases hp
  · cases h
def zP_Mo_laysLetters : List (List (Nat × zE)) := [[(0, ei (.bipush 8) 2 0 (8)), (2, e1 (.istore_n 3) 3 3), (3, e1 (.iload_n 3) 4 3), (4, e1 (.ifCond .le 27) 7 31), (7, e1 (.lload_n 1) 8 1), (8, ei (.bipush 8) 10 0 (8)), (10, e1 (.iload_n 3) 11 3), (11, e0 (.imul) 12), (12, ei (.bipush 8) 14 0 (8)), (14, e0 (.isub) 15), (15, e0 (.lshr) 16)],
  [(16, ej (.ldc2_w 401) 19 (255)), (19, e0 (.land) 20), (20, ej (.lconst 0) 21 (0)), (21, e0 (.lcmp) 22), (22, e1 (.ifCond .ne 9) 25 31), (25, ei (.iinc 3 (-1)) 28 3 (-1)), (28, e1 (.goto (-25)) 31 3), (31, e1 (.aload_n 0) 32 0)],
  [(32, e1 (.iload_n 3) 33 3), (33, e3 (.putfield 358) 36 12 41 0), (36, ei (.iconst 0) 37 0 (0)), (37, e1 (.istore 4) 39 4), (39, e1 (.iload 4) 41 4), (41, e1 (.iload_n 3) 42 3), (42, e1 (.if_icmp .ge 53) 45 95), (45, e1 (.lload_n 1) 46 1), (46, ei (.bipush 8) 48 0 (8))],
  [(48, e1 (.iload_n 3) 49 3), (49, ei (.iconst 1) 50 0 (1)), (50, e0 (.isub) 51), (51, e1 (.iload 4) 53 4), (53, e0 (.isub) 54), (54, e0 (.imul) 55), (55, e0 (.lshr) 56), (56, ej (.ldc2_w 401) 59 (255)), (59, e0 (.land) 60), (60, e0 (.l2i) 61), (61, e1 (.istore 5) 63 5), (63, e1 (.iload 5) 65 5)],
  [(65, ei (.bipush 97) 67 0 (97)), (67, ei (.bipush 104) 69 0 (104)), (69, e3 (.invokestatic 156) 72 0 3 0), (72, e1 (.ifCond .ne 5) 75 77), (75, ei (.iconst 0) 76 0 (0)), (76, e0 (.ireturn) 77), (77, e1 (.aload_n 0) 78 0), (78, e3 (.getfield 70) 81 12 40 2)],
  [(81, e1 (.iload 4) 83 4), (83, e1 (.iload 5) 85 5), (85, ei (.bipush 97) 87 0 (97)), (87, e0 (.isub) 88), (88, e0 (.iastore) 89), (89, ei (.iinc 4 1) 92 4 (1)), (92, e1 (.goto (-53)) 95 39), (95, e1 (.iload_n 3) 96 3)],
  [(96, e1 (.ifCond .le 7) 99 103), (99, ei (.iconst 1) 100 0 (1)), (100, e1 (.goto 4) 103 104), (103, ei (.iconst 0) 104 0 (0)), (104, e0 (.ireturn) 105)]]
noncomputable def zE_Mo_laysLetters (α : Type) : Nat → zX α := fun i => bif Nat.beq i 0 then zA_III_I f_Mo_in else fun _ _ _ => none
def zc_Mo_laysLetters : Nat → Bool := fun pc => Nat.beq pc 3 || Nat.beq pc 31 || Nat.beq pc 39
def D_Mo_laysLetters_3 (k : Nat → Int64 → Int32 → zM → Option (Int32 × zM)) (lv : zV) (st : List Value) (S : zM) : Option (Int32 × zM) := match lv, st with
  | [some (.ref a0), some (.long a1), _, some (.int a3), _, _], [] => k a0 a1 a3 S
  | _, _ => none
theorem d_Mo_laysLetters_3 {g : zV → Nat → List Value → zM → Prop} (Hw : zWk g) {k : Nat → Int64 → Int32 → zM → Option (Int32 × zM)} {res : (Int32 × zM)} {lv : zV} {st : List Value} {S : zM} (h : D_Mo_laysLetters_3 k lv st S = some res) (hk : ∀ a0 a1 a3 S, k a0 a1 a3 S = some res → g [some (.ref a0), some (.long a1), none, some (.int a3), none, none] 3 [] S) : g lv 3 st S := by
  unfold D_Mo_laysLetters_3 at h
  split at h
  · exact Hw _ _ _ _ _ (by simp [zle]) (hk _ _ _ _  h)
  · cases h
def D_Mo_laysLetters_31 (k : Nat → Int64 → Int32 → zM → Option (Int32 × zM)) (lv : zV) (st : List Value) (S : zM) : Option (Int32 × zM) := match lv, st with
  | [some (.ref a0), some (.long a1), _, some (.int a3), _, _], [] => k a0 a1 a3 S
  | _, _ => none
theorem d_Mo_laysLetters_31 {g : zV → Nat → List Value → zM → Prop} (Hw : zWk g) {k : Nat → Int64 → Int32 → zM → Option (Int32 × zM)} {res : (Int32 × zM)} {lv : zV} {st : List Value} {S : zM} (h : D_Mo_laysLetters_31 k lv st S = some res) (hk : ∀ a0 a1 a3 S, k a0 a1 a3 S = some res → g [some (.ref a0), some (.long a1), none, some (.int a3), none, none] 31 [] S) : g lv 31 st S := by
  unfold D_Mo_laysLetters_31 at h
  split at h
  · exact Hw _ _ _ _ _ (by simp [zle]) (hk _ _ _ _  h)
  · cases h
def D_Mo_laysLetters_39 (k : Nat → Int64 → Int32 → Int32 → zM → Option (Int32 × zM)) (lv : zV) (st : List Value) (S : zM) : Option (Int32 × zM) := match lv, st with
  | [some (.ref a0), some (.long a1), _, some (.int a3), some (.int a4), _], [] => k a0 a1 a3 a4 S
  | _, _ => none
theorem d_Mo_laysLetters_39 {g : zV → Nat → List Value → zM → Prop} (Hw : zWk g) {k : Nat → Int64 → Int32 → Int32 → zM → Option (Int32 × zM)} {res : (Int32 × zM)} {lv : zV} {st : List Value} {S : zM} (h : D_Mo_laysLetters_39 k lv st S = some res) (hk : ∀ a0 a1 a3 a4 S, k a0 a1 a3 a4 S = some res → g [some (.ref a0), some (.long a1), none, some (.int a3), some (.int a4), none] 39 [] S) : g lv 39 st S := by
  unfold D_Mo_laysLetters_39 at h
  split at h
  · exact Hw _ _ _ _ _ (by simp [zle]) (hk _ _ _ _ _  h)
  · cases h
set_option maxRecDepth 100000 in
theorem r_Mo_laysLetters_39 (n : Nat) (a0 : Nat) (a1 : Int64) (a3 : Int32) (a4 : Int32) (S : zM) : L_Mo_laysLetters_39 (n + 1) a0 a1 a3 a4 S = zrt true zP_Mo_laysLetters (zE_Mo_laysLetters (Int32 × zM)) zc_Mo_laysLetters zkI (fun pc lv st S => bif Nat.beq pc 39 then D_Mo_laysLetters_39 (L_Mo_laysLetters_39 n) lv st S else none) 1000 39 [some (.ref a0), some (.long a1), none, some (.int a3), some (.int a4), none] [] S := rfl
theorem g_Mo_laysLetters_39 {g : zV → Nat → List Value → zM → Prop} {res : (Int32 × zM)} (H : zCl true zP_Mo_laysLetters (zE_Mo_laysLetters (Int32 × zM)) zkI res g) (Hw : zWk g) (n : Nat) : ∀ (a0 : Nat) (a1 : Int64) (a3 : Int32) (a4 : Int32) (S : zM), L_Mo_laysLetters_39 n a0 a1 a3 a4 S = some res → g [some (.ref a0), some (.long a1), none, some (.int a3), some (.int a4), none] 39 [] S := by
  induction n with
  | zero => intro a0 a1 a3 a4 S h; cases h
  | succ n ih =>
    intro a0 a1 a3 a4 S h
    refine H zc_Mo_laysLetters _ 1000 _ _ _ _ ((r_Mo_laysLetters_39 n a0 a1 a3 a4 S).symm.trans h) (fun pc lv st S hK => ?_)
    rcases zdis hK with ⟨rfl, hK⟩ | hK
    · exact d_Mo_laysLetters_39 Hw hK ih
    cases hK
set_option maxRecDepth 100000 in
theorem r_Mo_laysLetters_31 (k39 : Nat → Int64 → Int32 → Int32 → zM → Option (Int32 × zM)) (a0 : Nat) (a1 : Int64) (a3 : Int32) (S : zM) : F_Mo_laysLetters_31 k39 a0 a1 a3 S = zrt true zP_Mo_laysLetters (zE_Mo_laysLetters (Int32 × zM)) zc_Mo_laysLetters zkI (fun pc lv st S => bif Nat.beq pc 39 then D_Mo_laysLetters_39 k39 lv st S else none) 1000 31 [some (.ref a0), some (.long a1), none, some (.int a3), none, none] [] S := rfl
theorem g_Mo_laysLetters_31 {g : zV → Nat → List Value → zM → Prop} {res : (Int32 × zM)} (H : zCl true zP_Mo_laysLetters (zE_Mo_laysLetters (Int32 × zM)) zkI res g) (Hw : zWk g) {k39 : Nat → Int64 → Int32 → Int32 → zM → Option (Int32 × zM)} (hk39 : ∀ a0 a1 a3 a4 S, k39 a0 a1 a3 a4 S = some res → g [some (.ref a0), some (.long a1), none, some (.int a3), some (.int a4), none] 39 [] S) (a0 : Nat) (a1 : Int64) (a3 : Int32) (S : zM) (h : F_Mo_laysLetters_31 k39 a0 a1 a3 S = some res) : g [some (.ref a0), some (.long a1), none, some (.int a3), none, none] 31 [] S := by
  refine H zc_Mo_laysLetters _ 1000 _ _ _ _ ((r_Mo_laysLetters_31 k39 a0 a1 a3 S).symm.trans h) (fun pc lv st S hK => ?_)
  rcases zdis hK with ⟨rfl, hK⟩ | hK
  · exact d_Mo_laysLetters_39 Hw hK hk39
  cases hK
set_option maxRecDepth 100000 in
theorem r_Mo_laysLetters_3 (k31 : Nat → Int64 → Int32 → zM → Option (Int32 × zM)) (n : Nat) (a0 : Nat) (a1 : Int64) (a3 : Int32) (S : zM) : L_Mo_laysLetters_3 k31 (n + 1) a0 a1 a3 S = zrt true zP_Mo_laysLetters (zE_Mo_laysLetters (Int32 × zM)) zc_Mo_laysLetters zkI (fun pc lv st S => bif Nat.beq pc 3 then D_Mo_laysLetters_3 (L_Mo_laysLetters_3 k31 n) lv st S else bif Nat.beq pc 31 then D_Mo_laysLetters_31 k31 lv st S else none) 1000 3 [some (.ref a0), some (.long a1), none, some (.int a3), none, none] [] S := rfl
theorem g_Mo_laysLetters_3 {g : zV → Nat → List Value → zM → Prop} {res : (Int32 × zM)} (H : zCl true zP_Mo_laysLetters (zE_Mo_laysLetters (Int32 × zM)) zkI res g) (Hw : zWk g) {k31 : Nat → Int64 → Int32 → zM → Option (Int32 × zM)} (hk31 : ∀ a0 a1 a3 S, k31 a0 a1 a3 S = some res → g [some (.ref a0), some (.long a1), none, some (.int a3), none, none] 31 [] S) (n : Nat) : ∀ (a0 : Nat) (a1 : Int64) (a3 : Int32) (S : zM), L_Mo_laysLetters_3 k31 n a0 a1 a3 S = some res → g [some (.ref a0), some (.long a1), none, some (.int a3), none, none] 3 [] S := by
  induction n with
  | zero => intro a0 a1 a3 S h; cases h
  | succ n ih =>
    intro a0 a1 a3 S h
    refine H zc_Mo_laysLetters _ 1000 _ _ _ _ ((r_Mo_laysLetters_3 k31 n a0 a1 a3 S).symm.trans h) (fun pc lv st S hK => ?_)
    rcases zdis hK with ⟨rfl, hK⟩ | hK
    · exact d_Mo_laysLetters_3 Hw hK ih
    rcases zdis hK with ⟨rfl, hK⟩ | hK
    · exact d_Mo_laysLetters_31 Hw hK hk31
    cases hK
set_option maxRecDepth 100000 in
theorem r_Mo_laysLetters (a0 : Nat) (a1 : Int64) (S : zM) : f_Mo_laysLetters a0 a1 S = zrt true zP_Mo_laysLetters (zE_Mo_laysLetters (Int32 × zM)) zc_Mo_laysLetters zkI (fun pc lv st S => bif Nat.beq pc 3 then D_Mo_laysLetters_3 (L_Mo_laysLetters_3 (F_Mo_laysLetters_31 (L_Mo_laysLetters_39 zF)) zF) lv st S else none) 1000 0 [some (.ref a0), some (.long a1), none, none, none, none] [] S := rfl
theorem G_Mo_laysLetters {g : zV → Nat → List Value → zM → Prop} {res : (Int32 × zM)} (H : zCl true zP_Mo_laysLetters (zE_Mo_laysLetters (Int32 × zM)) zkI res g) (Hw : zWk g) (a0 : Nat) (a1 : Int64) (S : zM) (h : f_Mo_laysLetters a0 a1 S = some res) : g [some (.ref a0), some (.long a1), none, none, none, none] 0 [] S := by
  refine H zc_Mo_laysLetters _ 1000 _ _ _ _ ((r_Mo_laysLetters a0 a1 S).symm.trans h) (fun pc lv st S hK => ?_)
  rcases zdis hK with ⟨rfl, hK⟩ | hK
  · exact d_Mo_laysLetters_3 Hw hK (g_Mo_laysLetters_3 H Hw (g_Mo_laysLetters_31 H Hw (g_Mo_laysLetters_39 H Hw  zF)) zF)
  cases hK
set_option maxRecDepth 100000 in
theorem ok_Mo_laysLetters : zokT 12 [62] false 1 22 6 true (some .boolean) cX12_laysLetters zP_Mo_laysLetters = true := by decide +kernel
set_option maxRecDepth 100000 in
theorem s_Mo_laysLetters {l : Launch} {HB : Heap} {b L : Nat} {xs : Nat → Int32} {aK aV : Nat → Nat} {G : va_G} {tc : Nat → ClassId} (h0 : zSnd l HB b L xs aK aV G tc (zMT.getD 62 zyD) (fun α => zA_III_I f_Mo_in)) : zSnd l HB b L xs aK aV G tc (zMT.getD 154 zyD) (fun α => zA_vRJ_I 12 f_Mo_laysLetters) := by
  rw [show zMT.getD 154 zyD = (yX12_laysLetters, cX12_laysLetters, 6, (some .boolean), 0, 2, 1, 22) from rfl]
  intro α as S k res h
  unfold zA_vRJ_I at h
  dsimp only at h
  split at h
  · rename_i a0 a1
    obtain ⟨p, hp, h⟩ := zbind h
    unfold zcl at hp
    split at hp
    · rename_i hkd
      have hm := zmeth (l := l) (HB := HB) (b := b) (L := L) (xs := xs) (aK := aK) (aV := aV) (G := G) (tc := tc) (q := (yX12_laysLetters, cX12_laysLetters, 6, (some .boolean), 0, 2, 1, 22)) (o := 12) (cs := [62]) (rz := true) (T := zP_Mo_laysLetters) (E := zE_Mo_laysLetters (Int32 × zM)) (kr := zkI) (res := p) (v0 := some (.int p.1)) (S0 := p.2) (as := [.ref a0, .long a1]) (S := S) zMT_fine (by decide +kernel) (fun i as S k' h => by
        unfold zE_Mo_laysLetters at h
        rcases zdisf h with ⟨rfl, h⟩ | h
        · exact h0 _ _ _ _ _ h
        cases h) ok_Mo_laysLetters rfl (fun v S' h => zkI_inv h) (Nat.le_of_ble_eq_true rfl) (fun g H Hw => Hw _ [some (.ref a0), some (.long a1), none, none, none, none] _ _ _ ⟨rfl, rfl, trivial⟩ (G_Mo_laysLetters H Hw a0 a1 S hp))
      exact ⟨_, _, h, hm.1, rfl, fun _ => ⟨_, _, rfl⟩, (fun _ U H hK hH a r e => by cases e; exact zrecv (ci := 12) (by omega) hkd rfl U H hK hH), hm.2⟩
    · cases hp
  · cases h
def zP_Mo_isPieceAt : List (List (Nat × zE)) := [[(0, e1 (.aload_n 0) 1 0), (1, e3 (.getfield 52) 4 12 33 2), (4, e1 (.iload_n 1) 5 1), (5, e0 (.iaload) 6), (6, e1 (.ifCond .eq 18) 9 24), (9, e1 (.iload_n 2) 10 2), (10, e1 (.aload_n 0) 11 0), (11, e3 (.getfield 52) 14 12 33 2), (14, e1 (.iload_n 1) 15 1), (15, e0 (.iaload) 16)],
  [(16, e0 (.iadd) 17), (17, e1 (.aload_n 0) 18 0), (18, e3 (.getfield 358) 21 12 41 0), (21, e1 (.if_icmp .le 5) 24 26), (24, ei (.iconst 0) 25 0 (0)), (25, e0 (.ireturn) 26), (26, ei (.iconst 0) 27 0 (0)), (27, e1 (.istore_n 3) 28 3), (28, e1 (.iload_n 3) 29 3), (29, e1 (.aload_n 0) 30 0), (30, e3 (.getfield 52) 33 12 33 2)],
  [(33, e1 (.iload_n 1) 34 1), (34, e0 (.iaload) 35), (35, e1 (.if_icmp .ge 32) 38 67), (38, e1 (.aload_n 0) 39 0), (39, e3 (.getfield 70) 42 12 40 2), (42, e1 (.iload_n 2) 43 2), (43, e1 (.iload_n 3) 44 3), (44, e0 (.iadd) 45), (45, e0 (.iaload) 46), (46, e1 (.aload_n 0) 47 0), (47, e3 (.getfield 55) 50 12 34 2)],
  [(50, ei (.iconst 4) 51 0 (4)), (51, e1 (.iload_n 1) 52 1), (52, e0 (.imul) 53), (53, e1 (.iload_n 3) 54 3), (54, e0 (.iadd) 55), (55, e0 (.iaload) 56), (56, e1 (.if_icmp .eq 5) 59 61), (59, ei (.iconst 0) 60 0 (0)), (60, e0 (.ireturn) 61), (61, ei (.iinc 3 1) 64 3 (1))],
  [(64, e1 (.goto (-36)) 67 28), (67, ei (.iconst 1) 68 0 (1)), (68, e0 (.ireturn) 69)]]
noncomputable def zE_Mo_isPieceAt (α : Type) : Nat → zX α := fun _ => fun _ _ _ => none
def zc_Mo_isPieceAt : Nat → Bool := fun pc => Nat.beq pc 28
def D_Mo_isPieceAt_28 (k : Nat → Int32 → Int32 → Int32 → zM → Option (Int32 × zM)) (lv : zV) (st : List Value) (S : zM) : Option (Int32 × zM) := match lv, st with
  | [some (.ref a0), some (.int a1), some (.int a2), some (.int a3)], [] => k a0 a1 a2 a3 S
  | _, _ => none
theorem d_Mo_isPieceAt_28 {g : zV → Nat → List Value → zM → Prop} (Hw : zWk g) {k : Nat → Int32 → Int32 → Int32 → zM → Option (Int32 × zM)} {res : (Int32 × zM)} {lv : zV} {st : List Value} {S : zM} (h : D_Mo_isPieceAt_28 k lv st S = some res) (hk : ∀ a0 a1 a2 a3 S, k a0 a1 a2 a3 S = some res → g [some (.ref a0), some (.int a1), some (.int a2), some (.int a3)] 28 [] S) : g lv 28 st S := by
  unfold D_Mo_isPieceAt_28 at h
  split at h
  · exact Hw _ _ _ _ _ (by simp [zle]) (hk _ _ _ _ _  h)
  · cases h
set_option maxRecDepth 100000 in
theorem r_Mo_isPieceAt_28 (n : Nat) (a0 : Nat) (a1 : Int32) (a2 : Int32) (a3 : Int32) (S : zM) : L_Mo_isPieceAt_28 (n + 1) a0 a1 a2 a3 S = zrt true zP_Mo_isPieceAt (zE_Mo_isPieceAt (Int32 × zM)) zc_Mo_isPieceAt zkI (fun pc lv st S => bif Nat.beq pc 28 then D_Mo_isPieceAt_28 (L_Mo_isPieceAt_28 n) lv st S else none) 1000 28 [some (.ref a0), some (.int a1), some (.int a2), some (.int a3)] [] S := rfl
theorem g_Mo_isPieceAt_28 {g : zV → Nat → List Value → zM → Prop} {res : (Int32 × zM)} (H : zCl true zP_Mo_isPieceAt (zE_Mo_isPieceAt (Int32 × zM)) zkI res g) (Hw : zWk g) (n : Nat) : ∀ (a0 : Nat) (a1 : Int32) (a2 : Int32) (a3 : Int32) (S : zM), L_Mo_isPieceAt_28 n a0 a1 a2 a3 S = some res → g [some (.ref a0), some (.int a1), some (.int a2), some (.int a3)] 28 [] S := by
  induction n with
  | zero => intro a0 a1 a2 a3 S h; cases h
  | succ n ih =>
    intro a0 a1 a2 a3 S h
    refine H zc_Mo_isPieceAt _ 1000 _ _ _ _ ((r_Mo_isPieceAt_28 n a0 a1 a2 a3 S).symm.trans h) (fun pc lv st S hK => ?_)
    rcases zdis hK with ⟨rfl, hK⟩ | hK
    · exact d_Mo_isPieceAt_28 Hw hK ih
    cases hK
set_option maxRecDepth 100000 in
theorem r_Mo_isPieceAt (a0 : Nat) (a1 : Int32) (a2 : Int32) (S : zM) : f_Mo_isPieceAt a0 a1 a2 S = zrt true zP_Mo_isPieceAt (zE_Mo_isPieceAt (Int32 × zM)) zc_Mo_isPieceAt zkI (fun pc lv st S => bif Nat.beq pc 28 then D_Mo_isPieceAt_28 (L_Mo_isPieceAt_28 zF) lv st S else none) 1000 0 [some (.ref a0), some (.int a1), some (.int a2), none] [] S := rfl
theorem G_Mo_isPieceAt {g : zV → Nat → List Value → zM → Prop} {res : (Int32 × zM)} (H : zCl true zP_Mo_isPieceAt (zE_Mo_isPieceAt (Int32 × zM)) zkI res g) (Hw : zWk g) (a0 : Nat) (a1 : Int32) (a2 : Int32) (S : zM) (h : f_Mo_isPieceAt a0 a1 a2 S = some res) : g [some (.ref a0), some (.int a1), some (.int a2), none] 0 [] S := by
  refine H zc_Mo_isPieceAt _ 1000 _ _ _ _ ((r_Mo_isPieceAt a0 a1 a2 S).symm.trans h) (fun pc lv st S hK => ?_)
  rcases zdis hK with ⟨rfl, hK⟩ | hK
  · exact d_Mo_isPieceAt_28 Hw hK (g_Mo_isPieceAt_28 H Hw  zF)
  cases hK
set_option maxRecDepth 100000 in
theorem ok_Mo_isPieceAt : zokT 12 [] false 0 0 4 true (some .boolean) cX12_isPieceAt zP_Mo_isPieceAt = true := by decide +kernel
set_option maxRecDepth 100000 in
theorem s_Mo_isPieceAt {l : Launch} {HB : Heap} {b L : Nat} {xs : Nat → Int32} {aK aV : Nat → Nat} {G : va_G} {tc : Nat → ClassId} : zSnd l HB b L xs aK aV G tc (zMT.getD 155 zyD) (fun α => zA_vRII_I 12 f_Mo_isPieceAt) := by
  rw [show zMT.getD 155 zyD = (yX12_isPieceAt, cX12_isPieceAt, 4, (some .boolean), 0, 3, 0, 0) from rfl]
  intro α as S k res h
  unfold zA_vRII_I at h
  dsimp only at h
  split at h
  · rename_i a0 a1 a2
    obtain ⟨p, hp, h⟩ := zbind h
    unfold zcl at hp
    split at hp
    · rename_i hkd
      have hm := zmeth (l := l) (HB := HB) (b := b) (L := L) (xs := xs) (aK := aK) (aV := aV) (G := G) (tc := tc) (q := (yX12_isPieceAt, cX12_isPieceAt, 4, (some .boolean), 0, 3, 0, 0)) (o := 12) (cs := []) (rz := true) (T := zP_Mo_isPieceAt) (E := zE_Mo_isPieceAt (Int32 × zM)) (kr := zkI) (res := p) (v0 := some (.int p.1)) (S0 := p.2) (as := [.ref a0, .int a1, .int a2]) (S := S) zMT_fine (by decide +kernel) (fun i as S k' h => by
        unfold zE_Mo_isPieceAt at h
        cases h) ok_Mo_isPieceAt rfl (fun v S' h => zkI_inv h) (Nat.le_of_ble_eq_true rfl) (fun g H Hw => Hw _ [some (.ref a0), some (.int a1), some (.int a2), none] _ _ _ ⟨rfl, rfl, rfl, trivial⟩ (G_Mo_isPieceAt H Hw a0 a1 a2 S hp))
      exact ⟨_, _, h, hm.1, rfl, fun _ => ⟨_, _, rfl⟩, (fun _ U H hK hH a r e => by cases e; exact zrecv (ci := 12) (by omega) hkd rfl U H hK hH), hm.2⟩
    · cases hp
  · cases h
def zP_Mo_laysReadings : List (List (Nat × zE)) := [[(0, e1 (.aload_n 0) 1 0), (1, e1 (.iload_n 1) 2 1), (2, e3 (.invokevirtual 338) 5 0 2 0), (5, e1 (.aload_n 0) 6 0), (6, e3 (.getfield 64) 9 12 38 2), (9, e1 (.aload_n 0) 10 0), (10, e3 (.getfield 358) 13 12 41 0), (13, ei (.iconst 1) 14 0 (1)), (14, e0 (.iastore) 15), (15, e1 (.aload_n 0) 16 0)],
  [(16, e3 (.getfield 358) 19 12 41 0), (19, ei (.iconst 1) 20 0 (1)), (20, e0 (.isub) 21), (21, e1 (.istore_n 2) 22 2), (22, e1 (.iload_n 2) 23 2), (23, e1 (.ifCond .lt 67) 26 90), (26, e1 (.aload_n 0) 27 0), (27, e3 (.getfield 64) 30 12 38 2), (30, e1 (.iload_n 2) 31 2), (31, ei (.iconst 0) 32 0 (0))],
  [(32, e0 (.iastore) 33), (33, ei (.iconst 0) 34 0 (0)), (34, e1 (.istore_n 3) 35 3), (35, e1 (.iload_n 3) 36 3), (36, e1 (.aload_n 0) 37 0), (37, e3 (.getfield 332) 40 12 35 0), (40, e1 (.if_icmp .ge 44) 43 84), (43, e1 (.aload_n 0) 44 0), (44, e3 (.getfield 64) 47 12 38 2), (47, e1 (.iload_n 2) 48 2)],
  [(48, e0 (.dup2) 49), (49, e0 (.iaload) 50), (50, e1 (.aload_n 0) 51 0), (51, e1 (.iload_n 3) 52 3), (52, e1 (.iload_n 2) 53 2), (53, e3 (.invokevirtual 361) 56 1 3 0), (56, e1 (.ifCond .eq 19) 59 75), (59, e1 (.aload_n 0) 60 0), (60, e3 (.getfield 64) 63 12 38 2), (63, e1 (.iload_n 2) 64 2)],
  [(64, e1 (.aload_n 0) 65 0), (65, e3 (.getfield 52) 68 12 33 2), (68, e1 (.iload_n 3) 69 3), (69, e0 (.iaload) 70), (70, e0 (.iadd) 71), (71, e0 (.iaload) 72), (72, e1 (.goto 4) 75 76), (75, ei (.iconst 0) 76 0 (0)), (76, e0 (.iadd) 77), (77, e0 (.iastore) 78), (78, ei (.iinc 3 1) 81 3 (1))],
  [(81, e1 (.goto (-46)) 84 35), (84, ei (.iinc 2 (-1)) 87 2 (-1)), (87, e1 (.goto (-65)) 90 22), (90, e0 (.return_) 91)]]
noncomputable def zE_Mo_laysReadings (α : Type) : Nat → zX α := fun i => bif Nat.beq i 0 then zA_vRI_V 12 f_Mo_laysPieces else bif Nat.beq i 1 then zA_vRII_I 12 f_Mo_isPieceAt else fun _ _ _ => none
def zc_Mo_laysReadings : Nat → Bool := fun pc => Nat.beq pc 22 || Nat.beq pc 35 || Nat.beq pc 84
def D_Mo_laysReadings_22 (k : Nat → Int32 → zM → Option zM) (lv : zV) (st : List Value) (S : zM) : Option zM := match lv, st with
  | [some (.ref a0), _, some (.int a2), _], [] => k a0 a2 S
  | _, _ => none
theorem d_Mo_laysReadings_22 {g : zV → Nat → List Value → zM → Prop} (Hw : zWk g) {k : Nat → Int32 → zM → Option zM} {res : zM} {lv : zV} {st : List Value} {S : zM} (h : D_Mo_laysReadings_22 k lv st S = some res) (hk : ∀ a0 a2 S, k a0 a2 S = some res → g [some (.ref a0), none, some (.int a2), none] 22 [] S) : g lv 22 st S := by
  unfold D_Mo_laysReadings_22 at h
  split at h
  · exact Hw _ _ _ _ _ (by simp [zle]) (hk _ _ _  h)
  · cases h
def D_Mo_laysReadings_35 (k : Nat → Int32 → Int32 → zM → Option zM) (lv : zV) (st : List Value) (S : zM) : Option zM := match lv, st with
  | [some (.ref a0), _, some (.int a2), some (.int a3)], [] => k a0 a2 a3 S
  | _, _ => none
theorem d_Mo_laysReadings_35 {g : zV → Nat → List Value → zM → Prop} (Hw : zWk g) {k : Nat → Int32 → Int32 → zM → Option zM} {res : zM} {lv : zV} {st : List Value} {S : zM} (h : D_Mo_laysReadings_35 k lv st S = some res) (hk : ∀ a0 a2 a3 S, k a0 a2 a3 S = some res → g [some (.ref a0), none, some (.int a2), some (.int a3)] 35 [] S) : g lv 35 st S := by
  unfold D_Mo_laysReadings_35 at h
  split at h
  · exact Hw _ _ _ _ _ (by simp [zle]) (hk _ _ _ _  h)
  · cases h
def D_Mo_laysReadings_84 (k : Nat → Int32 → zM → Option zM) (lv : zV) (st : List Value) (S : zM) : Option zM := match lv, st with
  | [some (.ref a0), _, some (.int a2), _], [] => k a0 a2 S
  | _, _ => none
theorem d_Mo_laysReadings_84 {g : zV → Nat → List Value → zM → Prop} (Hw : zWk g) {k : Nat → Int32 → zM → Option zM} {res : zM} {lv : zV} {st : List Value} {S : zM} (h : D_Mo_laysReadings_84 k lv st S = some res) (hk : ∀ a0 a2 S, k a0 a2 S = some res → g [some (.ref a0), none, some (.int a2), none] 84 [] S) : g lv 84 st S := by
  unfold D_Mo_laysReadings_84 at h
  split at h
  · exact Hw _ _ _ _ _ (by simp [zle]) (hk _ _ _  h)
  · cases h
set_option maxRecDepth 100000 in
theorem r_Mo_laysReadings_84 (k22 : Nat → Int32 → zM → Option zM) (a0 : Nat) (a2 : Int32) (S : zM) : F_Mo_laysReadings_84 k22 a0 a2 S = zrt false zP_Mo_laysReadings (zE_Mo_laysReadings zM) zc_Mo_laysReadings zkV (fun pc lv st S => bif Nat.beq pc 22 then D_Mo_laysReadings_22 k22 lv st S else none) 1000 84 [some (.ref a0), none, some (.int a2), none] [] S := rfl
theorem g_Mo_laysReadings_84 {g : zV → Nat → List Value → zM → Prop} {res : zM} (H : zCl false zP_Mo_laysReadings (zE_Mo_laysReadings zM) zkV res g) (Hw : zWk g) {k22 : Nat → Int32 → zM → Option zM} (hk22 : ∀ a0 a2 S, k22 a0 a2 S = some res → g [some (.ref a0), none, some (.int a2), none] 22 [] S) (a0 : Nat) (a2 : Int32) (S : zM) (h : F_Mo_laysReadings_84 k22 a0 a2 S = some res) : g [some (.ref a0), none, some (.int a2), none] 84 [] S := by
  refine H zc_Mo_laysReadings _ 1000 _ _ _ _ ((r_Mo_laysReadings_84 k22 a0 a2 S).symm.trans h) (fun pc lv st S hK => ?_)
  rcases zdis hK with ⟨rfl, hK⟩ | hK
  · exact d_Mo_laysReadings_22 Hw hK hk22
  cases hK
set_option maxRecDepth 100000 in
theorem r_Mo_laysReadings_35 (k84 : Nat → Int32 → zM → Option zM) (n : Nat) (a0 : Nat) (a2 : Int32) (a3 : Int32) (S : zM) : L_Mo_laysReadings_35 k84 (n + 1) a0 a2 a3 S = zrt false zP_Mo_laysReadings (zE_Mo_laysReadings zM) zc_Mo_laysReadings zkV (fun pc lv st S => bif Nat.beq pc 35 then D_Mo_laysReadings_35 (L_Mo_laysReadings_35 k84 n) lv st S else bif Nat.beq pc 84 then D_Mo_laysReadings_84 k84 lv st S else none) 1000 35 [some (.ref a0), none, some (.int a2), some (.int a3)] [] S := rfl
theorem g_Mo_laysReadings_35 {g : zV → Nat → List Value → zM → Prop} {res : zM} (H : zCl false zP_Mo_laysReadings (zE_Mo_laysReadings zM) zkV res g) (Hw : zWk g) {k84 : Nat → Int32 → zM → Option zM} (hk84 : ∀ a0 a2 S, k84 a0 a2 S = some res → g [some (.ref a0), none, some (.int a2), none] 84 [] S) (n : Nat) : ∀ (a0 : Nat) (a2 : Int32) (a3 : Int32) (S : zM), L_Mo_laysReadings_35 k84 n a0 a2 a3 S = some res → g [some (.ref a0), none, some (.int a2), some (.int a3)] 35 [] S := by
  induction n with
  | zero => intro a0 a2 a3 S h; cases h
  | succ n ih =>
    intro a0 a2 a3 S h
    refine H zc_Mo_laysReadings _ 1000 _ _ _ _ ((r_Mo_laysReadings_35 k84 n a0 a2 a3 S).symm.trans h) (fun pc lv st S hK => ?_)
    rcases zdis hK with ⟨rfl, hK⟩ | hK
    · exact d_Mo_laysReadings_35 Hw hK ih
    rcases zdis hK with ⟨rfl, hK⟩ | hK
    · exact d_Mo_laysReadings_84 Hw hK hk84
    cases hK
set_option maxRecDepth 100000 in
theorem r_Mo_laysReadings_22 (n : Nat) (a0 : Nat) (a2 : Int32) (S : zM) : L_Mo_laysReadings_22 (n + 1) a0 a2 S = zrt false zP_Mo_laysReadings (zE_Mo_laysReadings zM) zc_Mo_laysReadings zkV (fun pc lv st S => bif Nat.beq pc 35 then D_Mo_laysReadings_35 (L_Mo_laysReadings_35 (F_Mo_laysReadings_84 (L_Mo_laysReadings_22 n)) zF) lv st S else none) 1000 22 [some (.ref a0), none, some (.int a2), none] [] S := rfl
theorem g_Mo_laysReadings_22 {g : zV → Nat → List Value → zM → Prop} {res : zM} (H : zCl false zP_Mo_laysReadings (zE_Mo_laysReadings zM) zkV res g) (Hw : zWk g) (n : Nat) : ∀ (a0 : Nat) (a2 : Int32) (S : zM), L_Mo_laysReadings_22 n a0 a2 S = some res → g [some (.ref a0), none, some (.int a2), none] 22 [] S := by
  induction n with
  | zero => intro a0 a2 S h; cases h
  | succ n ih =>
    intro a0 a2 S h
    refine H zc_Mo_laysReadings _ 1000 _ _ _ _ ((r_Mo_laysReadings_22 n a0 a2 S).symm.trans h) (fun pc lv st S hK => ?_)
    rcases zdis hK with ⟨rfl, hK⟩ | hK
    · exact d_Mo_laysReadings_35 Hw hK (g_Mo_laysReadings_35 H Hw (g_Mo_laysReadings_84 H Hw ih) zF)
    cases hK
set_option maxRecDepth 100000 in
theorem r_Mo_laysReadings (a0 : Nat) (a1 : Int32) (S : zM) : f_Mo_laysReadings a0 a1 S = zrt false zP_Mo_laysReadings (zE_Mo_laysReadings zM) zc_Mo_laysReadings zkV (fun pc lv st S => bif Nat.beq pc 22 then D_Mo_laysReadings_22 (L_Mo_laysReadings_22 zF) lv st S else none) 1000 0 [some (.ref a0), some (.int a1), none, none] [] S := rfl
theorem G_Mo_laysReadings {g : zV → Nat → List Value → zM → Prop} {res : zM} (H : zCl false zP_Mo_laysReadings (zE_Mo_laysReadings zM) zkV res g) (Hw : zWk g) (a0 : Nat) (a1 : Int32) (S : zM) (h : f_Mo_laysReadings a0 a1 S = some res) : g [some (.ref a0), some (.int a1), none, none] 0 [] S := by
  refine H zc_Mo_laysReadings _ 1000 _ _ _ _ ((r_Mo_laysReadings a0 a1 S).symm.trans h) (fun pc lv st S hK => ?_)
  rcases zdis hK with ⟨rfl, hK⟩ | hK
  · exact d_Mo_laysReadings_22 Hw hK (g_Mo_laysReadings_22 H Hw  zF)
  cases hK
set_option maxRecDepth 100000 in
theorem ok_Mo_laysReadings : zokT 12 [129, 155] false 3 68 4 false none cX12_laysReadings zP_Mo_laysReadings = true := by decide +kernel
set_option maxRecDepth 100000 in
theorem s_Mo_laysReadings {l : Launch} {HB : Heap} {b L : Nat} {xs : Nat → Int32} {aK aV : Nat → Nat} {G : va_G} {tc : Nat → ClassId} (h0 : zSnd l HB b L xs aK aV G tc (zMT.getD 129 zyD) (fun α => zA_vRI_V 12 f_Mo_laysPieces)) (h1 : zSnd l HB b L xs aK aV G tc (zMT.getD 155 zyD) (fun α => zA_vRII_I 12 f_Mo_isPieceAt)) : zSnd l HB b L xs aK aV G tc (zMT.getD 156 zyD) (fun α => zA_vRI_V 12 f_Mo_laysReadings) := by
  rw [show zMT.getD 156 zyD = (yX12_laysReadings, cX12_laysReadings, 4, none, 0, 2, 3, 68) from rfl]
  intro α as S k res h
  unfold zA_vRI_V at h
  dsimp only at h
  split at h
  · rename_i a0 a1
    obtain ⟨p, hp, h⟩ := zbind h
    unfold zcl at hp
    split at hp
    · rename_i hkd
      have hm := zmeth (l := l) (HB := HB) (b := b) (L := L) (xs := xs) (aK := aK) (aV := aV) (G := G) (tc := tc) (q := (yX12_laysReadings, cX12_laysReadings, 4, none, 0, 2, 3, 68)) (o := 12) (cs := [129, 155]) (rz := false) (T := zP_Mo_laysReadings) (E := zE_Mo_laysReadings zM) (kr := zkV) (res := p) (v0 := none) (S0 := p) (as := [.ref a0, .int a1]) (S := S) zMT_fine (by decide +kernel) (fun i as S k' h => by
        unfold zE_Mo_laysReadings at h
        rcases zdisf h with ⟨rfl, h⟩ | h
        · exact h0 _ _ _ _ _ h
        rcases zdisf h with ⟨rfl, h⟩ | h
        · exact h1 _ _ _ _ _ h
        cases h) ok_Mo_laysReadings rfl (fun v S' h => zkV_inv h) (Nat.le_of_ble_eq_true rfl) (fun g H Hw => Hw _ [some (.ref a0), some (.int a1), none, none] _ _ _ ⟨rfl, rfl, trivial⟩ (G_Mo_laysReadings H Hw a0 a1 S hp))
      exact ⟨_, _, h, hm.1, rfl, fun _ => ⟨_, _, rfl⟩, (fun _ U H hK hH a r e => by cases e; exact zrecv (ci := 12) (by omega) hkd rfl U H hK hH), hm.2⟩
    · cases hp
  · cases h
def zP_Mo_readings : List (List (Nat × zE)) := [[(0, e1 (.aload_n 0) 1 0), (1, e3 (.invokevirtual 272) 4 0 1 0), (4, e1 (.aload_n 0) 5 0), (5, e1 (.iload_n 1) 6 1), (6, e3 (.invokevirtual 303) 9 1 2 0), (9, e1 (.ifCond .ne 9) 12 18), (12, e1 (.aload_n 0) 13 0), (13, ei (.iconst 1) 14 0 (1)), (14, e3 (.invokevirtual 275) 17 2 2 0)],
  [(17, e0 (.ireturn) 18), (18, e1 (.aload_n 0) 19 0), (19, e1 (.lload_n 2) 20 2), (20, e3 (.invokevirtual 364) 23 3 2 0), (23, e1 (.ifCond .ne 9) 26 32), (26, e1 (.aload_n 0) 27 0), (27, ei (.iconst 2) 28 0 (2)), (28, e3 (.invokevirtual 275) 31 2 2 0), (31, e0 (.ireturn) 32)],
  [(32, e1 (.aload_n 0) 33 0), (33, e1 (.iload_n 1) 34 1), (34, e3 (.invokevirtual 368) 37 4 2 0), (37, e1 (.aload_n 0) 38 0), (38, e3 (.getfield 64) 41 12 38 2), (41, ei (.iconst 0) 42 0 (0)), (42, e0 (.iaload) 43), (43, e0 (.ireturn) 44)]]
noncomputable def zE_Mo_readings (α : Type) : Nat → zX α := fun i => bif Nat.beq i 0 then zA_vR_V 12 f_Mo_fresh else bif Nat.beq i 1 then zA_vRI_I 12 f_Mo_isPass else bif Nat.beq i 2 then zA_vRI_I 12 f_Mo_no else bif Nat.beq i 3 then zA_vRJ_I 12 f_Mo_laysLetters else bif Nat.beq i 4 then zA_vRI_V 12 f_Mo_laysReadings else fun _ _ _ => none
def zc_Mo_readings : Nat → Bool := fun pc => false
set_option maxRecDepth 100000 in
theorem r_Mo_readings (a0 : Nat) (a1 : Int32) (a2 : Int64) (S : zM) : f_Mo_readings a0 a1 a2 S = zrt false zP_Mo_readings (zE_Mo_readings (Int32 × zM)) zc_Mo_readings zkI (fun pc lv st S => none) 1000 0 [some (.ref a0), some (.int a1), some (.long a2), none] [] S := rfl
theorem G_Mo_readings {g : zV → Nat → List Value → zM → Prop} {res : (Int32 × zM)} (H : zCl false zP_Mo_readings (zE_Mo_readings (Int32 × zM)) zkI res g) (Hw : zWk g) (a0 : Nat) (a1 : Int32) (a2 : Int64) (S : zM) (h : f_Mo_readings a0 a1 a2 S = some res) : g [some (.ref a0), some (.int a1), some (.long a2), none] 0 [] S := by
  refine H zc_Mo_readings _ 1000 _ _ _ _ ((r_Mo_readings a0 a1 a2 S).symm.trans h) (fun pc lv st S hK => ?_)
  cases hK
set_option maxRecDepth 100000 in
theorem ok_Mo_readings : zokT 12 [61, 94, 63, 154, 156] false 4 91 4 false (some .int) cX12_readings zP_Mo_readings = true := by decide +kernel
set_option maxRecDepth 100000 in
theorem s_Mo_readings {l : Launch} {HB : Heap} {b L : Nat} {xs : Nat → Int32} {aK aV : Nat → Nat} {G : va_G} {tc : Nat → ClassId} (h0 : zSnd l HB b L xs aK aV G tc (zMT.getD 61 zyD) (fun α => zA_vR_V 12 f_Mo_fresh)) (h1 : zSnd l HB b L xs aK aV G tc (zMT.getD 94 zyD) (fun α => zA_vRI_I 12 f_Mo_isPass)) (h2 : zSnd l HB b L xs aK aV G tc (zMT.getD 63 zyD) (fun α => zA_vRI_I 12 f_Mo_no)) (h3 : zSnd l HB b L xs aK aV G tc (zMT.getD 154 zyD) (fun α => zA_vRJ_I 12 f_Mo_laysLetters)) (h4 : zSnd l HB b L xs aK aV G tc (zMT.getD 156 zyD) (fun α => zA_vRI_V 12 f_Mo_laysReadings)) : zSnd l HB b L xs aK aV G tc (zMT.getD 157 zyD) (fun α => zA_vRIJ_I 12 f_Mo_readings) := by
  rw [show zMT.getD 157 zyD = (yX12_readings, cX12_readings, 4, (some .int), 0, 3, 4, 91) from rfl]
  intro α as S k res h
  unfold zA_vRIJ_I at h
  dsimp only at h
  split at h
  · rename_i a0 a1 a2
    obtain ⟨p, hp, h⟩ := zbind h
    unfold zcl at hp
    split at hp
    · rename_i hkd
      have hm := zmeth (l := l) (HB := HB) (b := b) (L := L) (xs := xs) (aK := aK) (aV := aV) (G := G) (tc := tc) (q := (yX12_readings, cX12_readings, 4, (some .int), 0, 3, 4, 91)) (o := 12) (cs := [61, 94, 63, 154, 156]) (rz := false) (T := zP_Mo_readings) (E := zE_Mo_readings (Int32 × zM)) (kr := zkI) (res := p) (v0 := some (.int p.1)) (S0 := p.2) (as := [.ref a0, .int a1, .long a2]) (S := S) zMT_fine (by decide +kernel) (fun i as S k' h => by
        unfold zE_Mo_readings at h
        rcases zdisf h with ⟨rfl, h⟩ | h
        · exact h0 _ _ _ _ _ h
        rcases zdisf h with ⟨rfl, h⟩ | h
        · exact h1 _ _ _ _ _ h
        rcases zdisf h with ⟨rfl, h⟩ | h
        · exact h2 _ _ _ _ _ h
        rcases zdisf h with ⟨rfl, h⟩ | h
        · exact h3 _ _ _ _ _ h
        rcases zdisf h with ⟨rfl, h⟩ | h
        · exact h4 _ _ _ _ _ h
        cases h) ok_Mo_readings rfl (fun v S' h => zkI_inv h) (Nat.le_of_ble_eq_true rfl) (fun g H Hw => Hw _ [some (.ref a0), some (.int a1), some (.long a2), none] _ _ _ ⟨rfl, rfl, rfl, trivial⟩ (G_Mo_readings H Hw a0 a1 a2 S hp))
      exact ⟨_, _, h, hm.1, rfl, fun _ => ⟨_, _, rfl⟩, (fun _ U H hK hH a r e => by cases e; exact zrecv (ci := 12) (by omega) hkd rfl U H hK hH), hm.2⟩
    · cases hp
  · cases h
def zP_Pieces_firstPieceAt : List (List (Nat × zE)) := [[(0, ei (.iconst 0) 1 0 (0)), (1, e1 (.istore_n 3) 2 3), (2, e1 (.iload_n 3) 3 3), (3, e1 (.aload_n 0) 4 0), (4, e3 (.getfield 37) 7 6 5 0), (7, e1 (.if_icmp .ge 21) 10 28), (10, e1 (.aload_n 0) 11 0), (11, e1 (.aload_n 1) 12 1), (12, e1 (.iload_n 2) 13 2), (13, e1 (.iload_n 3) 14 3), (14, e3 (.invokevirtual 108) 17 0 4 0)],
  [(17, e1 (.ifCond .le 5) 20 22), (20, e1 (.iload_n 3) 21 3), (21, e0 (.ireturn) 22), (22, ei (.iinc 3 1) 25 3 (1)), (25, e1 (.goto (-23)) 28 2), (28, ei (.iconst (-1)) 29 0 (-1)), (29, e0 (.ireturn) 30)]]
noncomputable def zE_Pieces_firstPieceAt (α : Type) : Nat → zX α := fun i => bif Nat.beq i 0 then zA_vRRII_I 6 f_Pieces_waysBehind else fun _ _ _ => none
def zc_Pieces_firstPieceAt : Nat → Bool := fun pc => Nat.beq pc 2
def D_Pieces_firstPieceAt_2 (k : Nat → Nat → Int32 → Int32 → zM → Option (Int32 × zM)) (lv : zV) (st : List Value) (S : zM) : Option (Int32 × zM) := match lv, st with
  | [some (.ref a0), some (.ref a1), some (.int a2), some (.int a3)], [] => k a0 a1 a2 a3 S
  | _, _ => none
theorem d_Pieces_firstPieceAt_2 {g : zV → Nat → List Value → zM → Prop} (Hw : zWk g) {k : Nat → Nat → Int32 → Int32 → zM → Option (Int32 × zM)} {res : (Int32 × zM)} {lv : zV} {st : List Value} {S : zM} (h : D_Pieces_firstPieceAt_2 k lv st S = some res) (hk : ∀ a0 a1 a2 a3 S, k a0 a1 a2 a3 S = some res → g [some (.ref a0), some (.ref a1), some (.int a2), some (.int a3)] 2 [] S) : g lv 2 st S := by
  unfold D_Pieces_firstPieceAt_2 at h
  split at h
  · exact Hw _ _ _ _ _ (by simp [zle]) (hk _ _ _ _ _  h)
  · cases h
set_option maxRecDepth 100000 in
theorem r_Pieces_firstPieceAt_2 (n : Nat) (a0 : Nat) (a1 : Nat) (a2 : Int32) (a3 : Int32) (S : zM) : L_Pieces_firstPieceAt_2 (n + 1) a0 a1 a2 a3 S = zrt false zP_Pieces_firstPieceAt (zE_Pieces_firstPieceAt (Int32 × zM)) zc_Pieces_firstPieceAt zkI (fun pc lv st S => bif Nat.beq pc 2 then D_Pieces_firstPieceAt_2 (L_Pieces_firstPieceAt_2 n) lv st S else none) 1000 2 [some (.ref a0), some (.ref a1), some (.int a2), some (.int a3)] [] S := rfl
theorem g_Pieces_firstPieceAt_2 {g : zV → Nat → List Value → zM → Prop} {res : (Int32 × zM)} (H : zCl false zP_Pieces_firstPieceAt (zE_Pieces_firstPieceAt (Int32 × zM)) zkI res g) (Hw : zWk g) (n : Nat) : ∀ (a0 : Nat) (a1 : Nat) (a2 : Int32) (a3 : Int32) (S : zM), L_Pieces_firstPieceAt_2 n a0 a1 a2 a3 S = some res → g [some (.ref a0), some (.ref a1), some (.int a2), some (.int a3)] 2 [] S := by
  induction n with
  | zero => intro a0 a1 a2 a3 S h; cases h
  | succ n ih =>
    intro a0 a1 a2 a3 S h
    refine H zc_Pieces_firstPieceAt _ 1000 _ _ _ _ ((r_Pieces_firstPieceAt_2 n a0 a1 a2 a3 S).symm.trans h) (fun pc lv st S hK => ?_)
    rcases zdis hK with ⟨rfl, hK⟩ | hK
    · exact d_Pieces_firstPieceAt_2 Hw hK ih
    cases hK
set_option maxRecDepth 100000 in
theorem r_Pieces_firstPieceAt (a0 : Nat) (a1 : Nat) (a2 : Int32) (S : zM) : f_Pieces_firstPieceAt a0 a1 a2 S = zrt false zP_Pieces_firstPieceAt (zE_Pieces_firstPieceAt (Int32 × zM)) zc_Pieces_firstPieceAt zkI (fun pc lv st S => bif Nat.beq pc 2 then D_Pieces_firstPieceAt_2 (L_Pieces_firstPieceAt_2 zF) lv st S else none) 1000 0 [some (.ref a0), some (.ref a1), some (.int a2), none] [] S := rfl
theorem G_Pieces_firstPieceAt {g : zV → Nat → List Value → zM → Prop} {res : (Int32 × zM)} (H : zCl false zP_Pieces_firstPieceAt (zE_Pieces_firstPieceAt (Int32 × zM)) zkI res g) (Hw : zWk g) (a0 : Nat) (a1 : Nat) (a2 : Int32) (S : zM) (h : f_Pieces_firstPieceAt a0 a1 a2 S = some res) : g [some (.ref a0), some (.ref a1), some (.int a2), none] 0 [] S := by
  refine H zc_Pieces_firstPieceAt _ 1000 _ _ _ _ ((r_Pieces_firstPieceAt a0 a1 a2 S).symm.trans h) (fun pc lv st S hK => ?_)
  rcases zdis hK with ⟨rfl, hK⟩ | hK
  · exact d_Pieces_firstPieceAt_2 Hw hK (g_Pieces_firstPieceAt_2 H Hw  zF)
  cases hK
set_option maxRecDepth 100000 in
theorem ok_Pieces_firstPieceAt : zokT 6 [151] false 4 91 4 false (some .int) cX6_firstPieceAt zP_Pieces_firstPieceAt = true := by decide +kernel
set_option maxRecDepth 100000 in
theorem s_Pieces_firstPieceAt {l : Launch} {HB : Heap} {b L : Nat} {xs : Nat → Int32} {aK aV : Nat → Nat} {G : va_G} {tc : Nat → ClassId} (h0 : zSnd l HB b L xs aK aV G tc (zMT.getD 151 zyD) (fun α => zA_vRRII_I 6 f_Pieces_waysBehind)) : zSnd l HB b L xs aK aV G tc (zMT.getD 158 zyD) (fun α => zA_vRRI_I 6 f_Pieces_firstPieceAt) := by
  rw [show zMT.getD 158 zyD = (yX6_firstPieceAt, cX6_firstPieceAt, 4, (some .int), 0, 3, 4, 91) from rfl]
  intro α as S k res h
  unfold zA_vRRI_I at h
  dsimp only at h
  split at h
  · rename_i a0 a1 a2
    obtain ⟨p, hp, h⟩ := zbind h
    unfold zcl at hp
    split at hp
    · rename_i hkd
      have hm := zmeth (l := l) (HB := HB) (b := b) (L := L) (xs := xs) (aK := aK) (aV := aV) (G := G) (tc := tc) (q := (yX6_firstPieceAt, cX6_firstPieceAt, 4, (some .int), 0, 3, 4, 91)) (o := 6) (cs := [151]) (rz := false) (T := zP_Pieces_firstPieceAt) (E := zE_Pieces_firstPieceAt (Int32 × zM)) (kr := zkI) (res := p) (v0 := some (.int p.1)) (S0 := p.2) (as := [.ref a0, .ref a1, .int a2]) (S := S) zMT_fine (by decide +kernel) (fun i as S k' h => by
        unfold zE_Pieces_firstPieceAt at h
        rcases zdisf h with ⟨rfl, h⟩ | h
        · exact h0 _ _ _ _ _ h
        cases h) ok_Pieces_firstPieceAt rfl (fun v S' h => zkI_inv h) (Nat.le_of_ble_eq_true rfl) (fun g H Hw => Hw _ [some (.ref a0), some (.ref a1), some (.int a2), none] _ _ _ ⟨rfl, rfl, rfl, trivial⟩ (G_Pieces_firstPieceAt H Hw a0 a1 a2 S hp))
      exact ⟨_, _, h, hm.1, rfl, fun _ => ⟨_, _, rfl⟩, (fun _ U H hK hH a r e => by cases e; exact zrecv (ci := 6) (by omega) hkd rfl U H hK hH), hm.2⟩
    · cases hp
  · cases h
def zP_Pieces_firstReadingAt : List (List (Nat × zE)) := [[(0, e1 (.iload_n 2) 1 2), (1, e1 (.ifCond .lt 11) 4 12), (4, e1 (.aload_n 0) 5 0), (5, e1 (.aload_n 1) 6 1), (6, e3 (.invokevirtual 115) 9 0 2 0), (9, e1 (.ifCond .ne 5) 12 14), (12, ei (.iconst (-1)) 13 0 (-1)), (13, e0 (.ireturn) 14), (14, ei (.iconst 0) 15 0 (0)), (15, e1 (.istore_n 3) 16 3)],
  [(16, ei (.iconst 0) 17 0 (0)), (17, e1 (.istore 4) 19 4), (19, e1 (.iload 4) 21 4), (21, e1 (.iload_n 2) 22 2), (22, e1 (.if_icmp .gt 61) 25 83), (25, e1 (.iload_n 3) 26 3), (26, e1 (.aload_n 1) 27 1), (27, e3 (.getfield 80) 30 8 1 0), (30, e1 (.if_icmp .ge 53) 33 83)],
  [(33, e1 (.aload_n 0) 34 0), (34, e1 (.aload_n 1) 35 1), (35, e1 (.iload_n 3) 36 3), (36, e3 (.invokevirtual 119) 39 1 3 0), (39, e1 (.istore 5) 41 5), (41, e1 (.aload_n 0) 42 0), (42, e1 (.iload 5) 44 5), (44, e3 (.invokevirtual 76) 47 2 2 0), (47, e1 (.astore 6) 49 6)],
  [(49, e1 (.aload 6) 51 6), (51, e1 (.ifnonnull 5) 54 56), (54, ei (.iconst (-1)) 55 0 (-1)), (55, e0 (.ireturn) 56), (56, e1 (.iload 4) 58 4), (58, e1 (.iload_n 2) 59 2), (59, e1 (.if_icmp .ne 10) 62 69), (62, e1 (.aload_n 0) 63 0), (63, e1 (.iload 5) 65 5)],
  [(65, e3 (.invokevirtual 123) 68 3 2 0), (68, e0 (.ireturn) 69), (69, e1 (.iload_n 3) 70 3), (70, e1 (.aload 6) 72 6), (72, e3 (.getfield 80) 75 8 1 0), (75, e0 (.iadd) 76), (76, e1 (.istore_n 3) 77 3), (77, ei (.iinc 4 1) 80 4 (1))],
  [(80, e1 (.goto (-61)) 83 19), (83, ei (.iconst (-1)) 84 0 (-1)), (84, e0 (.ireturn) 85)]]
noncomputable def zE_Pieces_firstReadingAt (α : Type) : Nat → zX α := fun i => bif Nat.beq i 0 then zA_vRR_I 6 f_Pieces_countReadings else bif Nat.beq i 1 then zA_vRRI_I 6 f_Pieces_firstPieceAt else bif Nat.beq i 2 then zA_vRI_N 6 f_Pieces_lettersOf else bif Nat.beq i 3 then zA_vRI_I 6 f_Pieces_whatOf else fun _ _ _ => none
def zc_Pieces_firstReadingAt : Nat → Bool := fun pc => Nat.beq pc 19
def D_Pieces_firstReadingAt_19 (k : Nat → Nat → Int32 → Int32 → Int32 → zM → Option (Int32 × zM)) (lv : zV) (st : List Value) (S : zM) : Option (Int32 × zM) := match lv, st with
  | [some (.ref a0), some (.ref a1), some (.int a2), some (.int a3), some (.int a4), _, _], [] => k a0 a1 a2 a3 a4 S
  | _, _ => none
theorem d_Pieces_firstReadingAt_19 {g : zV → Nat → List Value → zM → Prop} (Hw : zWk g) {k : Nat → Nat → Int32 → Int32 → Int32 → zM → Option (Int32 × zM)} {res : (Int32 × zM)} {lv : zV} {st : List Value} {S : zM} (h : D_Pieces_firstReadingAt_19 k lv st S = some res) (hk : ∀ a0 a1 a2 a3 a4 S, k a0 a1 a2 a3 a4 S = some res → g [some (.ref a0), some (.ref a1), some (.int a2), some (.int a3), some (.int a4), none, none] 19 [] S) : g lv 19 st S := by
  unfold D_Pieces_firstReadingAt_19 at h
  split at h
  · exact Hw _ _ _ _ _ (by simp [zle]) (hk _ _ _ _ _ _  h)
  · cases h
set_option maxRecDepth 100000 in
theorem r_Pieces_firstReadingAt_19 (n : Nat) (a0 : Nat) (a1 : Nat) (a2 : Int32) (a3 : Int32) (a4 : Int32) (S : zM) : L_Pieces_firstReadingAt_19 (n + 1) a0 a1 a2 a3 a4 S = zrt false zP_Pieces_firstReadingAt (zE_Pieces_firstReadingAt (Int32 × zM)) zc_Pieces_firstReadingAt zkI (fun pc lv st S => bif Nat.beq pc 19 then D_Pieces_firstReadingAt_19 (L_Pieces_firstReadingAt_19 n) lv st S else none) 1000 19 [some (.ref a0), some (.ref a1), some (.int a2), some (.int a3), some (.int a4), none, none] [] S := rfl
theorem g_Pieces_firstReadingAt_19 {g : zV → Nat → List Value → zM → Prop} {res : (Int32 × zM)} (H : zCl false zP_Pieces_firstReadingAt (zE_Pieces_firstReadingAt (Int32 × zM)) zkI res g) (Hw : zWk g) (n : Nat) : ∀ (a0 : Nat) (a1 : Nat) (a2 : Int32) (a3 : Int32) (a4 : Int32) (S : zM), L_Pieces_firstReadingAt_19 n a0 a1 a2 a3 a4 S = some res → g [some (.ref a0), some (.ref a1), some (.int a2), some (.int a3), some (.int a4), none, none] 19 [] S := by
  induction n with
  | zero => intro a0 a1 a2 a3 a4 S h; cases h
  | succ n ih =>
    intro a0 a1 a2 a3 a4 S h
    refine H zc_Pieces_firstReadingAt _ 1000 _ _ _ _ ((r_Pieces_firstReadingAt_19 n a0 a1 a2 a3 a4 S).symm.trans h) (fun pc lv st S hK => ?_)
    rcases zdis hK with ⟨rfl, hK⟩ | hK
    · exact d_Pieces_firstReadingAt_19 Hw hK ih
    cases hK
set_option maxRecDepth 100000 in
theorem r_Pieces_firstReadingAt (a0 : Nat) (a1 : Nat) (a2 : Int32) (S : zM) : f_Pieces_firstReadingAt a0 a1 a2 S = zrt false zP_Pieces_firstReadingAt (zE_Pieces_firstReadingAt (Int32 × zM)) zc_Pieces_firstReadingAt zkI (fun pc lv st S => bif Nat.beq pc 19 then D_Pieces_firstReadingAt_19 (L_Pieces_firstReadingAt_19 zF) lv st S else none) 1000 0 [some (.ref a0), some (.ref a1), some (.int a2), none, none, none, none] [] S := rfl
theorem G_Pieces_firstReadingAt {g : zV → Nat → List Value → zM → Prop} {res : (Int32 × zM)} (H : zCl false zP_Pieces_firstReadingAt (zE_Pieces_firstReadingAt (Int32 × zM)) zkI res g) (Hw : zWk g) (a0 : Nat) (a1 : Nat) (a2 : Int32) (S : zM) (h : f_Pieces_firstReadingAt a0 a1 a2 S = some res) : g [some (.ref a0), some (.ref a1), some (.int a2), none, none, none, none] 0 [] S := by
  refine H zc_Pieces_firstReadingAt _ 1000 _ _ _ _ ((r_Pieces_firstReadingAt a0 a1 a2 S).symm.trans h) (fun pc lv st S hK => ?_)
  rcases zdis hK with ⟨rfl, hK⟩ | hK
  · exact d_Pieces_firstReadingAt_19 Hw hK (g_Pieces_firstReadingAt_19 H Hw  zF)
  cases hK
set_option maxRecDepth 100000 in
theorem ok_Pieces_firstReadingAt : zokT 6 [152, 158, 134, 131] false 5 114 7 false (some .int) cX6_firstReadingAt zP_Pieces_firstReadingAt = true := by decide +kernel
set_option maxRecDepth 100000 in
theorem s_Pieces_firstReadingAt {l : Launch} {HB : Heap} {b L : Nat} {xs : Nat → Int32} {aK aV : Nat → Nat} {G : va_G} {tc : Nat → ClassId} (h0 : zSnd l HB b L xs aK aV G tc (zMT.getD 152 zyD) (fun α => zA_vRR_I 6 f_Pieces_countReadings)) (h1 : zSnd l HB b L xs aK aV G tc (zMT.getD 158 zyD) (fun α => zA_vRRI_I 6 f_Pieces_firstPieceAt)) (h2 : zSnd l HB b L xs aK aV G tc (zMT.getD 134 zyD) (fun α => zA_vRI_N 6 f_Pieces_lettersOf)) (h3 : zSnd l HB b L xs aK aV G tc (zMT.getD 131 zyD) (fun α => zA_vRI_I 6 f_Pieces_whatOf)) : zSnd l HB b L xs aK aV G tc (zMT.getD 159 zyD) (fun α => zA_vRRI_I 6 f_Pieces_firstReadingAt) := by
  rw [show zMT.getD 159 zyD = (yX6_firstReadingAt, cX6_firstReadingAt, 7, (some .int), 0, 3, 5, 114) from rfl]
  intro α as S k res h
  unfold zA_vRRI_I at h
  dsimp only at h
  split at h
  · rename_i a0 a1 a2
    obtain ⟨p, hp, h⟩ := zbind h
    unfold zcl at hp
    split at hp
    · rename_i hkd
      have hm := zmeth (l := l) (HB := HB) (b := b) (L := L) (xs := xs) (aK := aK) (aV := aV) (G := G) (tc := tc) (q := (yX6_firstReadingAt, cX6_firstReadingAt, 7, (some .int), 0, 3, 5, 114)) (o := 6) (cs := [152, 158, 134, 131]) (rz := false) (T := zP_Pieces_firstReadingAt) (E := zE_Pieces_firstReadingAt (Int32 × zM)) (kr := zkI) (res := p) (v0 := some (.int p.1)) (S0 := p.2) (as := [.ref a0, .ref a1, .int a2]) (S := S) zMT_fine (by decide +kernel) (fun i as S k' h => by
        unfold zE_Pieces_firstReadingAt at h
        rcases zdisf h with ⟨rfl, h⟩ | h
        · exact h0 _ _ _ _ _ h
        rcases zdisf h with ⟨rfl, h⟩ | h
        · exact h1 _ _ _ _ _ h
        rcases zdisf h with ⟨rfl, h⟩ | h
        · exact h2 _ _ _ _ _ h
        rcases zdisf h with ⟨rfl, h⟩ | h
        · exact h3 _ _ _ _ _ h
        cases h) ok_Pieces_firstReadingAt rfl (fun v S' h => zkI_inv h) (Nat.le_of_ble_eq_true rfl) (fun g H Hw => Hw _ [some (.ref a0), some (.ref a1), some (.int a2), none, none, none, none] _ _ _ ⟨rfl, rfl, rfl, trivial⟩ (G_Pieces_firstReadingAt H Hw a0 a1 a2 S hp))
      exact ⟨_, _, h, hm.1, rfl, fun _ => ⟨_, _, rfl⟩, (fun _ U H hK hH a r e => by cases e; exact zrecv (ci := 6) (by omega) hkd rfl U H hK hH), hm.2⟩
    · cases hp
  · cases h
def zP_Cl_reading : List (List (Nat × zE)) := [[(0, e1 (.aload_n 0) 1 0), (1, e1 (.iload_n 1) 2 1), (2, e3 (.invokevirtual 199) 5 0 2 0), (5, e1 (.ifCond .ne 9) 8 14), (8, e1 (.aload_n 0) 9 0), (9, ei (.iconst 1) 10 0 (1)), (10, e3 (.invokevirtual 79) 13 1 2 0), (13, e0 (.ireturn) 14), (14, e1 (.aload_n 0) 15 0), (15, e3 (.getfield 35) 18 11 4 2)],
  [(18, e1 (.lload_n 2) 19 2), (19, e3 (.invokevirtual 211) 22 2 2 0), (22, e1 (.ifCond .ne 9) 25 31), (25, e1 (.aload_n 0) 26 0), (26, ei (.iconst 2) 27 0 (2)), (27, e3 (.invokevirtual 79) 30 1 2 0), (30, e0 (.ireturn) 31), (31, e1 (.aload_n 0) 32 0)],
  [(32, e3 (.getfield 51) 35 11 8 2), (35, e1 (.aload_n 0) 36 0), (36, e3 (.getfield 35) 39 11 4 2), (39, e1 (.iload 4) 41 4), (41, e3 (.invokevirtual 219) 44 3 3 0), (44, e1 (.istore 5) 46 5), (46, e1 (.iload 5) 48 5)],
  [(48, ei (.iconst (-1)) 49 0 (-1)), (49, e1 (.if_icmp .ne 11) 52 60), (52, e1 (.aload_n 0) 53 0), (53, ei (.iconst 1) 54 0 (1)), (54, e3 (.invokevirtual 79) 57 1 2 0), (57, e1 (.goto 9) 60 66), (60, e1 (.aload_n 0) 61 0), (61, e1 (.iload 5) 63 5), (63, e3 (.invokevirtual 109) 66 4 2 0)],
  [(66, e0 (.ireturn) 67)]]
noncomputable def zE_Cl_reading (α : Type) : Nat → zX α := fun i => bif Nat.beq i 0 then zA_vRI_I 11 f_Cl_gatherPieces else bif Nat.beq i 1 then zA_vRI_I 11 f_Cl_refuse else bif Nat.beq i 2 then zA_vRJ_I 8 f_Row_takeWord else bif Nat.beq i 3 then zA_vRRI_I 6 f_Pieces_firstReadingAt else bif Nat.beq i 4 then zA_vRI_I 11 f_Cl_answer else fun _ _ _ => none
def zc_Cl_reading : Nat → Bool := fun pc => false
set_option maxRecDepth 100000 in
theorem r_Cl_reading (a0 : Nat) (a1 : Int32) (a2 : Int64) (a4 : Int32) (S : zM) : f_Cl_reading a0 a1 a2 a4 S = zrt false zP_Cl_reading (zE_Cl_reading (Int32 × zM)) zc_Cl_reading zkI (fun pc lv st S => none) 1000 0 [some (.ref a0), some (.int a1), some (.long a2), none, some (.int a4), none] [] S := rfl
theorem G_Cl_reading {g : zV → Nat → List Value → zM → Prop} {res : (Int32 × zM)} (H : zCl false zP_Cl_reading (zE_Cl_reading (Int32 × zM)) zkI res g) (Hw : zWk g) (a0 : Nat) (a1 : Int32) (a2 : Int64) (a4 : Int32) (S : zM) (h : f_Cl_reading a0 a1 a2 a4 S = some res) : g [some (.ref a0), some (.int a1), some (.long a2), none, some (.int a4), none] 0 [] S := by
  refine H zc_Cl_reading _ 1000 _ _ _ _ ((r_Cl_reading a0 a1 a2 a4 S).symm.trans h) (fun pc lv st S hK => ?_)
  cases hK
set_option maxRecDepth 100000 in
theorem ok_Cl_reading : zokT 11 [126, 16, 149, 159, 59] false 6 140 6 false (some .int) cX11_reading zP_Cl_reading = true := by decide +kernel
set_option maxRecDepth 100000 in
theorem s_Cl_reading {l : Launch} {HB : Heap} {b L : Nat} {xs : Nat → Int32} {aK aV : Nat → Nat} {G : va_G} {tc : Nat → ClassId} (h0 : zSnd l HB b L xs aK aV G tc (zMT.getD 126 zyD) (fun α => zA_vRI_I 11 f_Cl_gatherPieces)) (h1 : zSnd l HB b L xs aK aV G tc (zMT.getD 16 zyD) (fun α => zA_vRI_I 11 f_Cl_refuse)) (h2 : zSnd l HB b L xs aK aV G tc (zMT.getD 149 zyD) (fun α => zA_vRJ_I 8 f_Row_takeWord)) (h3 : zSnd l HB b L xs aK aV G tc (zMT.getD 159 zyD) (fun α => zA_vRRI_I 6 f_Pieces_firstReadingAt)) (h4 : zSnd l HB b L xs aK aV G tc (zMT.getD 59 zyD) (fun α => zA_vRI_I 11 f_Cl_answer)) : zSnd l HB b L xs aK aV G tc (zMT.getD 160 zyD) (fun α => zA_vRIJI_I 11 f_Cl_reading) := by
  rw [show zMT.getD 160 zyD = (yX11_reading, cX11_reading, 6, (some .int), 0, 4, 6, 140) from rfl]
  intro α as S k res h
  unfold zA_vRIJI_I at h
  dsimp only at h
  split at h
  · rename_i a0 a1 a2 a4
    obtain ⟨p, hp, h⟩ := zbind h
    unfold zcl at hp
    split at hp
    · rename_i hkd
      have hm := zmeth (l := l) (HB := HB) (b := b) (L := L) (xs := xs) (aK := aK) (aV := aV) (G := G) (tc := tc) (q := (yX11_reading, cX11_reading, 6, (some .int), 0, 4, 6, 140)) (o := 11) (cs := [126, 16, 149, 159, 59]) (rz := false) (T := zP_Cl_reading) (E := zE_Cl_reading (Int32 × zM)) (kr := zkI) (res := p) (v0 := some (.int p.1)) (S0 := p.2) (as := [.ref a0, .int a1, .long a2, .int a4]) (S := S) zMT_fine (by decide +kernel) (fun i as S k' h => by
        unfold zE_Cl_reading at h
        rcases zdisf h with ⟨rfl, h⟩ | h
        · exact h0 _ _ _ _ _ h
        rcases zdisf h with ⟨rfl, h⟩ | h
        · exact h1 _ _ _ _ _ h
        rcases zdisf h with ⟨rfl, h⟩ | h
        · exact h2 _ _ _ _ _ h
        rcases zdisf h with ⟨rfl, h⟩ | h
        · exact h3 _ _ _ _ _ h
        rcases zdisf h with ⟨rfl, h⟩ | h
        · exact h4 _ _ _ _ _ h
        cases h) ok_Cl_reading rfl (fun v S' h => zkI_inv h) (Nat.le_of_ble_eq_true rfl) (fun g H Hw => Hw _ [some (.ref a0), some (.int a1), some (.long a2), none, some (.int a4), none] _ _ _ ⟨rfl, rfl, rfl, rfl, trivial⟩ (G_Cl_reading H Hw a0 a1 a2 a4 S hp))
      exact ⟨_, _, h, hm.1, rfl, fun _ => ⟨_, _, rfl⟩, (fun _ U H hK hH a r e => by cases e; exact zrecv (ci := 11) (by omega) hkd rfl U H hK hH), hm.2⟩
    · cases hp
  · cases h
def zP_Mo_firstPiece : List (List (Nat × zE)) := [[(0, ei (.iconst 0) 1 0 (0)), (1, e1 (.istore_n 2) 2 2), (2, e1 (.aload_n 0) 3 0), (3, e1 (.iload_n 2) 4 2), (4, e1 (.iload_n 1) 5 1), (5, e3 (.invokevirtual 361) 8 0 3 0), (8, e1 (.ifCond .eq 19) 11 27), (11, e1 (.aload_n 0) 12 0), (12, e3 (.getfield 64) 15 12 38 2), (15, e1 (.iload_n 1) 16 1)],
  [(16, e1 (.aload_n 0) 17 0), (17, e3 (.getfield 52) 20 12 33 2), (20, e1 (.iload_n 2) 21 2), (21, e0 (.iaload) 22), (22, e0 (.iadd) 23), (23, e0 (.iaload) 24), (24, e1 (.ifCond .ne 9) 27 33), (27, ei (.iinc 2 1) 30 2 (1)), (30, e1 (.goto (-28)) 33 2)],
  [(33, e1 (.iload_n 2) 34 2), (34, e0 (.ireturn) 35)]]
noncomputable def zE_Mo_firstPiece (α : Type) : Nat → zX α := fun i => bif Nat.beq i 0 then zA_vRII_I 12 f_Mo_isPieceAt else fun _ _ _ => none
def zc_Mo_firstPiece : Nat → Bool := fun pc => Nat.beq pc 2
def D_Mo_firstPiece_2 (k : Nat → Int32 → Int32 → zM → Option (Int32 × zM)) (lv : zV) (st : List Value) (S : zM) : Option (Int32 × zM) := match lv, st with
  | [some (.ref a0), some (.int a1), some (.int a2)], [] => k a0 a1 a2 S
  | _, _ => none
theorem d_Mo_firstPiece_2 {g : zV → Nat → List Value → zM → Prop} (Hw : zWk g) {k : Nat → Int32 → Int32 → zM → Option (Int32 × zM)} {res : (Int32 × zM)} {lv : zV} {st : List Value} {S : zM} (h : D_Mo_firstPiece_2 k lv st S = some res) (hk : ∀ a0 a1 a2 S, k a0 a1 a2 S = some res → g [some (.ref a0), some (.int a1), some (.int a2)] 2 [] S) : g lv 2 st S := by
  unfold D_Mo_firstPiece_2 at h
  split at h
  · exact Hw _ _ _ _ _ (by simp [zle]) (hk _ _ _ _  h)
  · cases h
set_option maxRecDepth 100000 in
theorem r_Mo_firstPiece_2 (n : Nat) (a0 : Nat) (a1 : Int32) (a2 : Int32) (S : zM) : L_Mo_firstPiece_2 (n + 1) a0 a1 a2 S = zrt false zP_Mo_firstPiece (zE_Mo_firstPiece (Int32 × zM)) zc_Mo_firstPiece zkI (fun pc lv st S => bif Nat.beq pc 2 then D_Mo_firstPiece_2 (L_Mo_firstPiece_2 n) lv st S else none) 1000 2 [some (.ref a0), some (.int a1), some (.int a2)] [] S := rfl
theorem g_Mo_firstPiece_2 {g : zV → Nat → List Value → zM → Prop} {res : (Int32 × zM)} (H : zCl false zP_Mo_firstPiece (zE_Mo_firstPiece (Int32 × zM)) zkI res g) (Hw : zWk g) (n : Nat) : ∀ (a0 : Nat) (a1 : Int32) (a2 : Int32) (S : zM), L_Mo_firstPiece_2 n a0 a1 a2 S = some res → g [some (.ref a0), some (.int a1), some (.int a2)] 2 [] S := by
  induction n with
  | zero => intro a0 a1 a2 S h; cases h
  | succ n ih =>
    intro a0 a1 a2 S h
    refine H zc_Mo_firstPiece _ 1000 _ _ _ _ ((r_Mo_firstPiece_2 n a0 a1 a2 S).symm.trans h) (fun pc lv st S hK => ?_)
    rcases zdis hK with ⟨rfl, hK⟩ | hK
    · exact d_Mo_firstPiece_2 Hw hK ih
    cases hK
set_option maxRecDepth 100000 in
theorem r_Mo_firstPiece (a0 : Nat) (a1 : Int32) (S : zM) : f_Mo_firstPiece a0 a1 S = zrt false zP_Mo_firstPiece (zE_Mo_firstPiece (Int32 × zM)) zc_Mo_firstPiece zkI (fun pc lv st S => bif Nat.beq pc 2 then D_Mo_firstPiece_2 (L_Mo_firstPiece_2 zF) lv st S else none) 1000 0 [some (.ref a0), some (.int a1), none] [] S := rfl
theorem G_Mo_firstPiece {g : zV → Nat → List Value → zM → Prop} {res : (Int32 × zM)} (H : zCl false zP_Mo_firstPiece (zE_Mo_firstPiece (Int32 × zM)) zkI res g) (Hw : zWk g) (a0 : Nat) (a1 : Int32) (S : zM) (h : f_Mo_firstPiece a0 a1 S = some res) : g [some (.ref a0), some (.int a1), none] 0 [] S := by
  refine H zc_Mo_firstPiece _ 1000 _ _ _ _ ((r_Mo_firstPiece a0 a1 S).symm.trans h) (fun pc lv st S hK => ?_)
  rcases zdis hK with ⟨rfl, hK⟩ | hK
  · exact d_Mo_firstPiece_2 Hw hK (g_Mo_firstPiece_2 H Hw  zF)
  cases hK
set_option maxRecDepth 100000 in
theorem ok_Mo_firstPiece : zokT 12 [155] false 1 23 3 false (some .int) cX12_firstPiece zP_Mo_firstPiece = true := by decide +kernel
set_option maxRecDepth 100000 in
theorem s_Mo_firstPiece {l : Launch} {HB : Heap} {b L : Nat} {xs : Nat → Int32} {aK aV : Nat → Nat} {G : va_G} {tc : Nat → ClassId} (h0 : zSnd l HB b L xs aK aV G tc (zMT.getD 155 zyD) (fun α => zA_vRII_I 12 f_Mo_isPieceAt)) : zSnd l HB b L xs aK aV G tc (zMT.getD 161 zyD) (fun α => zA_vRI_I 12 f_Mo_firstPiece) := by
  rw [show zMT.getD 161 zyD = (yX12_firstPiece, cX12_firstPiece, 3, (some .int), 0, 2, 1, 23) from rfl]
  intro α as S k res h
  unfold zA_vRI_I at h
  dsimp only at h
  split at h
  · rename_i a0 a1
    obtain ⟨p, hp, h⟩ := zbind h
    unfold zcl at hp
    split at hp
    · rename_i hkd
      have hm := zmeth (l := l) (HB := HB) (b := b) (L := L) (xs := xs) (aK := aK) (aV := aV) (G := G) (tc := tc) (q := (yX12_firstPiece, cX12_firstPiece, 3, (some .int), 0, 2, 1, 23)) (o := 12) (cs := [155]) (rz := false) (T := zP_Mo_firstPiece) (E := zE_Mo_firstPiece (Int32 × zM)) (kr := zkI) (res := p) (v0 := some (.int p.1)) (S0 := p.2) (as := [.ref a0, .int a1]) (S := S) zMT_fine (by decide +kernel) (fun i as S k' h => by
        unfold zE_Mo_firstPiece at h
        rcases zdisf h with ⟨rfl, h⟩ | h
        · exact h0 _ _ _ _ _ h
        cases h) ok_Mo_firstPiece rfl (fun v S' h => zkI_inv h) (Nat.le_of_ble_eq_true rfl) (fun g H Hw => Hw _ [some (.ref a0), some (.int a1), none] _ _ _ ⟨rfl, rfl, trivial⟩ (G_Mo_firstPiece H Hw a0 a1 S hp))
      exact ⟨_, _, h, hm.1, rfl, fun _ => ⟨_, _, rfl⟩, (fun _ U H hK hH a r e => by cases e; exact zrecv (ci := 12) (by omega) hkd rfl U H hK hH), hm.2⟩
    · cases hp
  · cases h
