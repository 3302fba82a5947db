def zP_Reader_init : List (List (Nat × zE)) := [[(0, e1 (.aload_n 0) 1 0), (1, e3 (.invokespecial 3) 4 999 0 0), (4, e1 (.aload_n 0) 5 0), (5, ei (.iconst 0) 6 0 (0)), (6, e3 (.newarray .int) 8 100 0 0), (8, e3 (.putfield 9) 11 7 0 2), (11, e0 (.return_) 12)]]
noncomputable def zE_Reader_init (α : Type) : Nat → zX α := fun _ => fun _ _ _ => none
def zc_Reader_init : Nat → Bool := fun pc => false
set_option maxRecDepth 100000 in
theorem r_Reader_init (a0 : Nat) (S : zM) : f_Reader_init a0 S = zrt false zP_Reader_init (zE_Reader_init zM) zc_Reader_init zkV (fun pc lv st S => none) 1000 0 [some (.ref a0)] [] S := rfl
theorem G_Reader_init {g : zV → Nat → List Value → zM → Prop} {res : zM} (H : zCl false zP_Reader_init (zE_Reader_init zM) zkV res g) (Hw : zWk g) (a0 : Nat) (S : zM) (h : f_Reader_init a0 S = some res) : g [some (.ref a0)] 0 [] S := by
  refine H zc_Reader_init _ 1000 _ _ _ _ ((r_Reader_init a0 S).symm.trans h) (fun pc lv st S hK => ?_)
  cases hK
set_option maxRecDepth 100000 in
theorem ok_Reader_init : zokT 7 [] true 1 20 1 false none cX7_init zP_Reader_init = true := by decide +kernel
set_option maxRecDepth 100000 in
theorem s_Reader_init {l : Launch} {HB : Heap} {b L : Nat} {xs : Nat → Int32} {aK aV : Nat → Nat} {G : va_G} {tc : Nat → ClassId} : zSnd l HB b L xs aK aV G tc (zMT.getD 0 zyD) (fun α => zA_vR_V 7 f_Reader_init) := by
  rw [show zMT.getD 0 zyD = (yX7_init, cX7_init, 1, none, 2, 1, 1, 20) from rfl]
  intro α as S k res h
  unfold zA_vR_V at h
  dsimp only at h
  split at h
  · rename_i a0
    obtain ⟨p, hp, h⟩ := zbind h
    unfold zcl at hp
    split at hp
    · rename_i hkd
      have hm := zmeth (l := l) (HB := HB) (b := b) (L := L) (xs := xs) (aK := aK) (aV := aV) (G := G) (tc := tc) (q := (yX7_init, cX7_init, 1, none, 2, 1, 1, 20)) (o := 7) (cs := []) (rz := false) (T := zP_Reader_init) (E := zE_Reader_init zM) (kr := zkV) (res := p) (v0 := none) (S0 := p) (as := [.ref a0]) (S := S) zMT_fine (by decide +kernel) (fun i as S k' h => by
        unfold zE_Reader_init at h
        cases h) ok_Reader_init rfl (fun v S' h => zkV_inv h) (Nat.le_of_ble_eq_true rfl) (fun g H Hw => Hw _ [some (.ref a0)] _ _ _ ⟨rfl, trivial⟩ (G_Reader_init H Hw a0 S hp))
      exact ⟨_, _, h, hm.1, rfl, fun _ => ⟨_, _, rfl⟩, (fun q => by cases q), hm.2⟩
    · cases hp
  · cases h
def zP_Row_init : List (List (Nat × zE)) := [[(0, e1 (.aload_n 0) 1 0), (1, e3 (.invokespecial 3) 4 999 0 0), (4, e1 (.aload_n 0) 5 0), (5, e1 (.iload_n 1) 6 1), (6, e1 (.ifCond .ge 7) 9 13), (9, ei (.iconst 0) 10 0 (0)), (10, e1 (.goto 4) 13 14), (13, e1 (.iload_n 1) 14 1), (14, e3 (.newarray .int) 16 100 0 0)],
  [(16, e3 (.putfield 9) 19 8 0 2), (19, e0 (.return_) 20)]]
noncomputable def zE_Row_init (α : Type) : Nat → zX α := fun _ => fun _ _ _ => none
def zc_Row_init : Nat → Bool := fun pc => false
set_option maxRecDepth 100000 in
theorem r_Row_init (a0 : Nat) (a1 : Int32) (S : zM) : f_Row_init a0 a1 S = zrt false zP_Row_init (zE_Row_init zM) zc_Row_init zkV (fun pc lv st S => none) 1000 0 [some (.ref a0), some (.int a1)] [] S := rfl
theorem G_Row_init {g : zV → Nat → List Value → zM → Prop} {res : zM} (H : zCl false zP_Row_init (zE_Row_init zM) zkV res g) (Hw : zWk g) (a0 : Nat) (a1 : Int32) (S : zM) (h : f_Row_init a0 a1 S = some res) : g [some (.ref a0), some (.int a1)] 0 [] S := by
  refine H zc_Row_init _ 1000 _ _ _ _ ((r_Row_init a0 a1 S).symm.trans h) (fun pc lv st S hK => ?_)
  cases hK
set_option maxRecDepth 100000 in
theorem ok_Row_init : zokT 8 [] true 1 20 2 false none cX8_init zP_Row_init = true := by decide +kernel
set_option maxRecDepth 100000 in
theorem s_Row_init {l : Launch} {HB : Heap} {b L : Nat} {xs : Nat → Int32} {aK aV : Nat → Nat} {G : va_G} {tc : Nat → ClassId} : zSnd l HB b L xs aK aV G tc (zMT.getD 1 zyD) (fun α => zA_vRI_V 8 f_Row_init) := by
  rw [show zMT.getD 1 zyD = (yX8_init, cX8_init, 2, none, 2, 2, 1, 20) from rfl]
  intro α as S k res h
  unfold zA_vRI_V at h
  dsimp only at h
  split at h
  · rename_i a0 a1
    obtain ⟨p, hp, h⟩ := zbind h
    unfold zcl at hp
    split at hp
    · rename_i hkd
      have hm := zmeth (l := l) (HB := HB) (b := b) (L := L) (xs := xs) (aK := aK) (aV := aV) (G := G) (tc := tc) (q := (yX8_init, cX8_init, 2, none, 2, 2, 1, 20)) (o := 8) (cs := []) (rz := false) (T := zP_Row_init) (E := zE_Row_init zM) (kr := zkV) (res := p) (v0 := none) (S0 := p) (as := [.ref a0, .int a1]) (S := S) zMT_fine (by decide +kernel) (fun i as S k' h => by
        unfold zE_Row_init at h
        cases h) ok_Row_init rfl (fun v S' h => zkV_inv h) (Nat.le_of_ble_eq_true rfl) (fun g H Hw => Hw _ [some (.ref a0), some (.int a1)] _ _ _ ⟨rfl, rfl, trivial⟩ (G_Row_init H Hw a0 a1 S hp))
      exact ⟨_, _, h, hm.1, rfl, fun _ => ⟨_, _, rfl⟩, (fun q => by cases q), hm.2⟩
    · cases hp
  · cases h
def zP_Carrier_init : List (List (Nat × zE)) := [[(0, e1 (.aload_n 0) 1 0), (1, e3 (.invokespecial 3) 4 999 0 0), (4, e1 (.aload_n 0) 5 0), (5, ei (.iconst 3) 6 0 (3)), (6, e3 (.anewarray 9) 9 8 0 0), (9, e3 (.putfield 11) 12 1 0 2), (12, e1 (.aload_n 0) 13 0), (13, ei (.iconst 3) 14 0 (3)), (14, e3 (.newarray .int) 16 100 0 0)],
  [(16, e3 (.putfield 17) 19 1 1 2), (19, e1 (.aload_n 0) 20 0), (20, ei (.bipush 24) 22 0 (24)), (22, e3 (.newarray .int) 24 100 0 0), (24, e3 (.putfield 21) 27 1 2 2), (27, e1 (.aload_n 0) 28 0), (28, e3 (.new 9) 31 8 2 0), (31, e0 (.dup) 32)],
  [(32, ei (.bipush 60) 34 0 (60)), (34, e3 (.invokespecial 24) 37 0 2 0), (37, e3 (.putfield 27) 40 1 3 2), (40, e1 (.aload_n 0) 41 0), (41, e3 (.new 9) 44 8 2 0), (44, e0 (.dup) 45), (45, ei (.bipush 60) 47 0 (60)), (47, e3 (.invokespecial 24) 50 0 2 0)],
  [(50, e3 (.putfield 31) 53 1 4 2), (53, ei (.iconst 0) 54 0 (0)), (54, e1 (.istore_n 1) 55 1), (55, e1 (.iload_n 1) 56 1), (56, ei (.iconst 3) 57 0 (3)), (57, e1 (.if_icmp .ge 24) 60 81), (60, e1 (.aload_n 0) 61 0), (61, e3 (.getfield 11) 64 1 0 2)],
  [(64, e1 (.iload_n 1) 65 1), (65, e3 (.new 9) 68 8 2 0), (68, e0 (.dup) 69), (69, ei (.bipush 60) 71 0 (60)), (71, e3 (.invokespecial 24) 74 0 2 0), (74, e3 (.aastore) 75 8 0 0), (75, ei (.iinc 1 1) 78 1 (1)), (78, e1 (.goto (-23)) 81 55)],
  [(81, e0 (.return_) 82)]]
noncomputable def zE_Carrier_init (α : Type) : Nat → zX α := fun i => bif Nat.beq i 0 then zA_vRI_V 8 f_Row_init else fun _ _ _ => none
def zc_Carrier_init : Nat → Bool := fun pc => Nat.beq pc 55
def D_Carrier_init_55 (k : Nat → Int32 → zM → Option zM) (lv : zV) (st : List Value) (S : zM) : Option zM := match lv, st with
  | [some (.ref a0), some (.int a1)], [] => k a0 a1 S
  | _, _ => none
theorem d_Carrier_init_55 {g : zV → Nat → List Value → zM → Prop} (Hw : zWk g) {k : Nat → Int32 → zM → Option zM} {res : zM} {lv : zV} {st : List Value} {S : zM} (h : D_Carrier_init_55 k lv st S = some res) (hk : ∀ a0 a1 S, k a0 a1 S = some res → g [some (.ref a0), some (.int a1)] 55 [] S) : g lv 55 st S := by
  unfold D_Carrier_init_55 at h
  split at h
  · exact Hw _ _ _ _ _ (by simp [zle]) (hk _ _ _  h)
  · cases h
set_option maxRecDepth 100000 in
theorem r_Carrier_init_55 (n : Nat) (a0 : Nat) (a1 : Int32) (S : zM) : L_Carrier_init_55 (n + 1) a0 a1 S = zrt false zP_Carrier_init (zE_Carrier_init zM) zc_Carrier_init zkV (fun pc lv st S => bif Nat.beq pc 55 then D_Carrier_init_55 (L_Carrier_init_55 n) lv st S else none) 1000 55 [some (.ref a0), some (.int a1)] [] S := rfl
theorem g_Carrier_init_55 {g : zV → Nat → List Value → zM → Prop} {res : zM} (H : zCl false zP_Carrier_init (zE_Carrier_init zM) zkV res g) (Hw : zWk g) (n : Nat) : ∀ (a0 : Nat) (a1 : Int32) (S : zM), L_Carrier_init_55 n a0 a1 S = some res → g [some (.ref a0), some (.int a1)] 55 [] S := by
  induction n with
  | zero => intro a0 a1 S h; cases h
  | succ n ih =>
    intro a0 a1 S h
    refine H zc_Carrier_init _ 1000 _ _ _ _ ((r_Carrier_init_55 n a0 a1 S).symm.trans h) (fun pc lv st S hK => ?_)
    rcases zdis hK with ⟨rfl, hK⟩ | hK
    · exact d_Carrier_init_55 Hw hK ih
    cases hK
set_option maxRecDepth 100000 in
theorem r_Carrier_init (a0 : Nat) (S : zM) : f_Carrier_init a0 S = zrt false zP_Carrier_init (zE_Carrier_init zM) zc_Carrier_init zkV (fun pc lv st S => bif Nat.beq pc 55 then D_Carrier_init_55 (L_Carrier_init_55 zF) lv st S else none) 1000 0 [some (.ref a0), none] [] S := rfl
theorem G_Carrier_init {g : zV → Nat → List Value → zM → Prop} {res : zM} (H : zCl false zP_Carrier_init (zE_Carrier_init zM) zkV res g) (Hw : zWk g) (a0 : Nat) (S : zM) (h : f_Carrier_init a0 S = some res) : g [some (.ref a0), none] 0 [] S := by
  refine H zc_Carrier_init _ 1000 _ _ _ _ ((r_Carrier_init a0 S).symm.trans h) (fun pc lv st S hK => ?_)
  rcases zdis hK with ⟨rfl, hK⟩ | hK
  · exact d_Carrier_init_55 Hw hK (g_Carrier_init_55 H Hw  zF)
  cases hK
set_option maxRecDepth 100000 in
theorem ok_Carrier_init : zokT 1 [1] true 2 41 2 false none cX1_init zP_Carrier_init = true := by decide +kernel
set_option maxRecDepth 100000 in
theorem s_Carrier_init {l : Launch} {HB : Heap} {b L : Nat} {xs : Nat → Int32} {aK aV : Nat → Nat} {G : va_G} {tc : Nat → ClassId} (h0 : zSnd l HB b L xs aK aV G tc (zMT.getD 1 zyD) (fun α => zA_vRI_V 8 f_Row_init)) : zSnd l HB b L xs aK aV G tc (zMT.getD 2 zyD) (fun α => zA_vR_V 1 f_Carrier_init) := by
  rw [show zMT.getD 2 zyD = (yX1_init, cX1_init, 2, none, 2, 1, 2, 41) from rfl]
  intro α as S k res h
  unfold zA_vR_V at h
  dsimp only at h
  split at h
  · rename_i a0
    obtain ⟨p, hp, h⟩ := zbind h
    unfold zcl at hp
    split at hp
    · rename_i hkd
      have hm := zmeth (l := l) (HB := HB) (b := b) (L := L) (xs := xs) (aK := aK) (aV := aV) (G := G) (tc := tc) (q := (yX1_init, cX1_init, 2, none, 2, 1, 2, 41)) (o := 1) (cs := [1]) (rz := false) (T := zP_Carrier_init) (E := zE_Carrier_init zM) (kr := zkV) (res := p) (v0 := none) (S0 := p) (as := [.ref a0]) (S := S) zMT_fine (by decide +kernel) (fun i as S k' h => by
        unfold zE_Carrier_init at h
        rcases zdisf h with ⟨rfl, h⟩ | h
        · exact h0 _ _ _ _ _ h
        cases h) ok_Carrier_init rfl (fun v S' h => zkV_inv h) (Nat.le_of_ble_eq_true rfl) (fun g H Hw => Hw _ [some (.ref a0), none] _ _ _ ⟨rfl, trivial⟩ (G_Carrier_init H Hw a0 S hp))
      exact ⟨_, _, h, hm.1, rfl, fun _ => ⟨_, _, rfl⟩, (fun q => by cases q), hm.2⟩
    · cases hp
  · cases h
def zP_Row_add : List (List (Nat × zE)) := [[(0, e1 (.aload_n 0) 1 0), (1, e3 (.getfield 15) 4 8 1 0), (4, e1 (.aload_n 0) 5 0), (5, e3 (.getfield 9) 8 8 0 2), (8, e0 (.arraylength) 9), (9, e1 (.if_icmp .lt 5) 12 14), (12, ei (.iconst 0) 13 0 (0)), (13, e0 (.ireturn) 14), (14, e1 (.aload_n 0) 15 0), (15, e3 (.getfield 9) 18 8 0 2)],
  [(18, e1 (.aload_n 0) 19 0), (19, e3 (.getfield 15) 22 8 1 0), (22, e1 (.iload_n 1) 23 1), (23, ei (.bipush 7) 25 0 (7)), (25, e0 (.iand) 26), (26, e0 (.iastore) 27), (27, e1 (.aload_n 0) 28 0), (28, e0 (.dup) 29), (29, e3 (.getfield 15) 32 8 1 0)],
  [(32, ei (.iconst 1) 33 0 (1)), (33, e0 (.iadd) 34), (34, e3 (.putfield 15) 37 8 1 0), (37, ei (.iconst 1) 38 0 (1)), (38, e0 (.ireturn) 39)]]
noncomputable def zE_Row_add (α : Type) : Nat → zX α := fun _ => fun _ _ _ => none
def zc_Row_add : Nat → Bool := fun pc => false
set_option maxRecDepth 100000 in
theorem r_Row_add (a0 : Nat) (a1 : Int32) (S : zM) : f_Row_add a0 a1 S = zrt true zP_Row_add (zE_Row_add (Int32 × zM)) zc_Row_add zkI (fun pc lv st S => none) 1000 0 [some (.ref a0), some (.int a1)] [] S := rfl
theorem G_Row_add {g : zV → Nat → List Value → zM → Prop} {res : (Int32 × zM)} (H : zCl true zP_Row_add (zE_Row_add (Int32 × zM)) zkI res g) (Hw : zWk g) (a0 : Nat) (a1 : Int32) (S : zM) (h : f_Row_add a0 a1 S = some res) : g [some (.ref a0), some (.int a1)] 0 [] S := by
  refine H zc_Row_add _ 1000 _ _ _ _ ((r_Row_add a0 a1 S).symm.trans h) (fun pc lv st S hK => ?_)
  cases hK
set_option maxRecDepth 100000 in
theorem ok_Row_add : zokT 8 [] false 0 0 2 true (some .boolean) cX8_add zP_Row_add = true := by decide +kernel
set_option maxRecDepth 100000 in
theorem s_Row_add {l : Launch} {HB : Heap} {b L : Nat} {xs : Nat → Int32} {aK aV : Nat → Nat} {G : va_G} {tc : Nat → ClassId} : zSnd l HB b L xs aK aV G tc (zMT.getD 3 zyD) (fun α => zA_vRI_I 8 f_Row_add) := by
  rw [show zMT.getD 3 zyD = (yX8_add, cX8_add, 2, (some .boolean), 0, 2, 0, 0) from rfl]
  intro α as S k res h
  unfold zA_vRI_I at h
  dsimp only at h
  split at h
  · rename_i a0 a1
    obtain ⟨p, hp, h⟩ := zbind h
    unfold zcl at hp
    split at hp
    · rename_i hkd
      have hm := zmeth (l := l) (HB := HB) (b := b) (L := L) (xs := xs) (aK := aK) (aV := aV) (G := G) (tc := tc) (q := (yX8_add, cX8_add, 2, (some .boolean), 0, 2, 0, 0)) (o := 8) (cs := []) (rz := true) (T := zP_Row_add) (E := zE_Row_add (Int32 × zM)) (kr := zkI) (res := p) (v0 := some (.int p.1)) (S0 := p.2) (as := [.ref a0, .int a1]) (S := S) zMT_fine (by decide +kernel) (fun i as S k' h => by
        unfold zE_Row_add at h
        cases h) ok_Row_add rfl (fun v S' h => zkI_inv h) (Nat.le_of_ble_eq_true rfl) (fun g H Hw => Hw _ [some (.ref a0), some (.int a1)] _ _ _ ⟨rfl, rfl, trivial⟩ (G_Row_add H Hw a0 a1 S hp))
      exact ⟨_, _, h, hm.1, rfl, fun _ => ⟨_, _, rfl⟩, (fun _ U H hK hH a r e => by cases e; exact zrecv (ci := 8) (by omega) hkd rfl U H hK hH), hm.2⟩
    · cases hp
  · cases h
def zP_Pieces_init : List (List (Nat × zE)) := [[(0, e1 (.aload_n 0) 1 0), (1, e3 (.invokespecial 3) 4 999 0 0), (4, e1 (.aload_n 0) 5 0), (5, ei (.bipush 16) 7 0 (16)), (7, e3 (.newarray .int) 9 100 0 0), (9, e3 (.putfield 11) 12 6 0 2), (12, e1 (.aload_n 0) 13 0), (13, ei (.bipush 16) 15 0 (16)), (15, e3 (.anewarray 15) 18 8 0 0)],
  [(18, e3 (.putfield 17) 21 6 1 2), (21, e1 (.aload_n 0) 22 0), (22, ei (.bipush 8) 24 0 (8)), (24, e3 (.anewarray 15) 27 8 0 0), (27, e3 (.putfield 21) 30 6 2 2), (30, e1 (.aload_n 0) 31 0), (31, ei (.bipush 64) 33 0 (64))],
  [(33, e3 (.newarray .int) 35 100 0 0), (35, e3 (.putfield 24) 38 6 3 2), (38, e1 (.aload_n 0) 39 0), (39, ei (.bipush 9) 41 0 (9)), (41, e3 (.newarray .int) 43 100 0 0), (43, e3 (.putfield 27) 46 6 4 2), (46, ei (.iconst 0) 47 0 (0)), (47, e1 (.istore_n 1) 48 1)],
  [(48, e1 (.iload_n 1) 49 1), (49, ei (.bipush 8) 51 0 (8)), (51, e1 (.if_icmp .ge 31) 54 82), (54, e3 (.new 15) 57 8 2 0), (57, e0 (.dup) 58), (58, ei (.iconst 1) 59 0 (1)), (59, e3 (.invokespecial 30) 62 0 2 0), (62, e1 (.astore_n 2) 63 2), (63, e1 (.aload_n 2) 64 2)],
  [(64, e1 (.iload_n 1) 65 1), (65, e3 (.invokevirtual 33) 68 1 2 0), (68, e0 (.pop) 69), (69, e1 (.aload_n 0) 70 0), (70, e3 (.getfield 21) 73 6 2 2), (73, e1 (.iload_n 1) 74 1), (74, e1 (.aload_n 2) 75 2), (75, e3 (.aastore) 76 8 0 0), (76, ei (.iinc 1 1) 79 1 (1)), (79, e1 (.goto (-31)) 82 48)],
  [(82, e0 (.return_) 83)]]
noncomputable def zE_Pieces_init (α : Type) : Nat → zX α := fun i => bif Nat.beq i 0 then zA_vRI_V 8 f_Row_init else bif Nat.beq i 1 then zA_vRI_I 8 f_Row_add else fun _ _ _ => none
def zc_Pieces_init : Nat → Bool := fun pc => Nat.beq pc 48
def D_Pieces_init_48 (k : Nat → Int32 → zM → Option zM) (lv : zV) (st : List Value) (S : zM) : Option zM := match lv, st with
  | [some (.ref a0), some (.int a1), _], [] => k a0 a1 S
  | _, _ => none
theorem d_Pieces_init_48 {g : zV → Nat → List Value → zM → Prop} (Hw : zWk g) {k : Nat → Int32 → zM → Option zM} {res : zM} {lv : zV} {st : List Value} {S : zM} (h : D_Pieces_init_48 k lv st S = some res) (hk : ∀ a0 a1 S, k a0 a1 S = some res → g [some (.ref a0), some (.int a1), none] 48 [] S) : g lv 48 st S := by
  unfold D_Pieces_init_48 at h
  split at h
  · exact Hw _ _ _ _ _ (by simp [zle]) (hk _ _ _  h)
  · cases h
set_option maxRecDepth 100000 in
theorem r_Pieces_init_48 (n : Nat) (a0 : Nat) (a1 : Int32) (S : zM) : L_Pieces_init_48 (n + 1) a0 a1 S = zrt false zP_Pieces_init (zE_Pieces_init zM) zc_Pieces_init zkV (fun pc lv st S => bif Nat.beq pc 48 then D_Pieces_init_48 (L_Pieces_init_48 n) lv st S else none) 1000 48 [some (.ref a0), some (.int a1), none] [] S := rfl
theorem g_Pieces_init_48 {g : zV → Nat → List Value → zM → Prop} {res : zM} (H : zCl false zP_Pieces_init (zE_Pieces_init zM) zkV res g) (Hw : zWk g) (n : Nat) : ∀ (a0 : Nat) (a1 : Int32) (S : zM), L_Pieces_init_48 n a0 a1 S = some res → g [some (.ref a0), some (.int a1), none] 48 [] S := by
  induction n with
  | zero => intro a0 a1 S h; cases h
  | succ n ih =>
    intro a0 a1 S h
    refine H zc_Pieces_init _ 1000 _ _ _ _ ((r_Pieces_init_48 n a0 a1 S).symm.trans h) (fun pc lv st S hK => ?_)
    rcases zdis hK with ⟨rfl, hK⟩ | hK
    · exact d_Pieces_init_48 Hw hK ih
    cases hK
set_option maxRecDepth 100000 in
theorem r_Pieces_init (a0 : Nat) (S : zM) : f_Pieces_init a0 S = zrt false zP_Pieces_init (zE_Pieces_init zM) zc_Pieces_init zkV (fun pc lv st S => bif Nat.beq pc 48 then D_Pieces_init_48 (L_Pieces_init_48 zF) lv st S else none) 1000 0 [some (.ref a0), none, none] [] S := rfl
theorem G_Pieces_init {g : zV → Nat → List Value → zM → Prop} {res : zM} (H : zCl false zP_Pieces_init (zE_Pieces_init zM) zkV res g) (Hw : zWk g) (a0 : Nat) (S : zM) (h : f_Pieces_init a0 S = some res) : g [some (.ref a0), none, none] 0 [] S := by
  refine H zc_Pieces_init _ 1000 _ _ _ _ ((r_Pieces_init a0 S).symm.trans h) (fun pc lv st S hK => ?_)
  rcases zdis hK with ⟨rfl, hK⟩ | hK
  · exact d_Pieces_init_48 Hw hK (g_Pieces_init_48 H Hw  zF)
  cases hK
set_option maxRecDepth 100000 in
theorem ok_Pieces_init : zokT 6 [1, 3] true 2 41 3 false none cX6_init zP_Pieces_init = true := by decide +kernel
set_option maxRecDepth 100000 in
theorem s_Pieces_init {l : Launch} {HB : Heap} {b L : Nat} {xs : Nat → Int32} {aK aV : Nat → Nat} {G : va_G} {tc : Nat → ClassId} (h0 : zSnd l HB b L xs aK aV G tc (zMT.getD 1 zyD) (fun α => zA_vRI_V 8 f_Row_init)) (h1 : zSnd l HB b L xs aK aV G tc (zMT.getD 3 zyD) (fun α => zA_vRI_I 8 f_Row_add)) : zSnd l HB b L xs aK aV G tc (zMT.getD 4 zyD) (fun α => zA_vR_V 6 f_Pieces_init) := by
  rw [show zMT.getD 4 zyD = (yX6_init, cX6_init, 3, none, 2, 1, 2, 41) from rfl]
  intro α as S k res h
  unfold zA_vR_V at h
  dsimp only at h
  split at h
  · rename_i a0
    obtain ⟨p, hp, h⟩ := zbind h
    unfold zcl at hp
    split at hp
    · rename_i hkd
      have hm := zmeth (l := l) (HB := HB) (b := b) (L := L) (xs := xs) (aK := aK) (aV := aV) (G := G) (tc := tc) (q := (yX6_init, cX6_init, 3, none, 2, 1, 2, 41)) (o := 6) (cs := [1, 3]) (rz := false) (T := zP_Pieces_init) (E := zE_Pieces_init zM) (kr := zkV) (res := p) (v0 := none) (S0 := p) (as := [.ref a0]) (S := S) zMT_fine (by decide +kernel) (fun i as S k' h => by
        unfold zE_Pieces_init at h
        rcases zdisf h with ⟨rfl, h⟩ | h
        · exact h0 _ _ _ _ _ h
        rcases zdisf h with ⟨rfl, h⟩ | h
        · exact h1 _ _ _ _ _ h
        cases h) ok_Pieces_init rfl (fun v S' h => zkV_inv h) (Nat.le_of_ble_eq_true rfl) (fun g H Hw => Hw _ [some (.ref a0), none, none] _ _ _ ⟨rfl, trivial⟩ (G_Pieces_init H Hw a0 S hp))
      exact ⟨_, _, h, hm.1, rfl, fun _ => ⟨_, _, rfl⟩, (fun q => by cases q), hm.2⟩
    · cases hp
  · cases h
def zP_Acts_init : List (List (Nat × zE)) := [[(0, e1 (.aload_n 0) 1 0), (1, e3 (.invokespecial 3) 4 999 0 0), (4, e1 (.aload_n 0) 5 0), (5, ei (.bipush 12) 7 0 (12)), (7, e3 (.newarray .int) 9 100 0 0), (9, e3 (.putfield 9) 12 0 0 2), (12, e0 (.return_) 13)]]
noncomputable def zE_Acts_init (α : Type) : Nat → zX α := fun _ => fun _ _ _ => none
def zc_Acts_init : Nat → Bool := fun pc => false
set_option maxRecDepth 100000 in
theorem r_Acts_init (a0 : Nat) (S : zM) : f_Acts_init a0 S = zrt false zP_Acts_init (zE_Acts_init zM) zc_Acts_init zkV (fun pc lv st S => none) 1000 0 [some (.ref a0)] [] S := rfl
theorem G_Acts_init {g : zV → Nat → List Value → zM → Prop} {res : zM} (H : zCl false zP_Acts_init (zE_Acts_init zM) zkV res g) (Hw : zWk g) (a0 : Nat) (S : zM) (h : f_Acts_init a0 S = some res) : g [some (.ref a0)] 0 [] S := by
  refine H zc_Acts_init _ 1000 _ _ _ _ ((r_Acts_init a0 S).symm.trans h) (fun pc lv st S hK => ?_)
  cases hK
set_option maxRecDepth 100000 in
theorem ok_Acts_init : zokT 0 [] true 1 20 1 false none cX0_init zP_Acts_init = true := by decide +kernel
set_option maxRecDepth 100000 in
theorem s_Acts_init {l : Launch} {HB : Heap} {b L : Nat} {xs : Nat → Int32} {aK aV : Nat → Nat} {G : va_G} {tc : Nat → ClassId} : zSnd l HB b L xs aK aV G tc (zMT.getD 5 zyD) (fun α => zA_vR_V 0 f_Acts_init) := by
  rw [show zMT.getD 5 zyD = (yX0_init, cX0_init, 1, none, 2, 1, 1, 20) from rfl]
  intro α as S k res h
  unfold zA_vR_V at h
  dsimp only at h
  split at h
  · rename_i a0
    obtain ⟨p, hp, h⟩ := zbind h
    unfold zcl at hp
    split at hp
    · rename_i hkd
      have hm := zmeth (l := l) (HB := HB) (b := b) (L := L) (xs := xs) (aK := aK) (aV := aV) (G := G) (tc := tc) (q := (yX0_init, cX0_init, 1, none, 2, 1, 1, 20)) (o := 0) (cs := []) (rz := false) (T := zP_Acts_init) (E := zE_Acts_init zM) (kr := zkV) (res := p) (v0 := none) (S0 := p) (as := [.ref a0]) (S := S) zMT_fine (by decide +kernel) (fun i as S k' h => by
        unfold zE_Acts_init at h
        cases h) ok_Acts_init rfl (fun v S' h => zkV_inv h) (Nat.le_of_ble_eq_true rfl) (fun g H Hw => Hw _ [some (.ref a0)] _ _ _ ⟨rfl, trivial⟩ (G_Acts_init H Hw a0 S hp))
      exact ⟨_, _, h, hm.1, rfl, fun _ => ⟨_, _, rfl⟩, (fun q => by cases q), hm.2⟩
    · cases hp
  · cases h
def zP_Machine_init : List (List (Nat × zE)) := [[(0, e1 (.aload_n 0) 1 0), (1, e3 (.invokespecial 3) 4 999 0 0), (4, e1 (.aload_n 0) 5 0), (5, ei (.sipush 264) 8 0 (264)), (8, e3 (.newarray .int) 10 100 0 0), (10, e3 (.putfield 11) 13 3 0 2), (13, e1 (.aload_n 0) 14 0), (14, ei (.bipush 33) 16 0 (33))],
  [(16, e3 (.newarray .int) 18 100 0 0), (18, e3 (.putfield 15) 21 3 1 2), (21, e1 (.aload_n 0) 22 0), (22, ei (.bipush 33) 24 0 (33)), (24, e3 (.newarray .int) 26 100 0 0), (26, e3 (.putfield 18) 29 3 2 2), (29, e1 (.aload_n 0) 30 0), (30, ei (.bipush 9) 32 0 (9))],
  [(32, e3 (.newarray .int) 34 100 0 0), (34, e3 (.putfield 21) 37 3 3 2), (37, e1 (.aload_n 0) 38 0), (38, ei (.bipush 9) 40 0 (9)), (40, e3 (.newarray .int) 42 100 0 0), (42, e3 (.putfield 24) 45 3 4 2), (45, e1 (.aload_n 0) 46 0), (46, ei (.bipush 8) 48 0 (8))],
  [(48, e3 (.newarray .int) 50 100 0 0), (50, e3 (.putfield 27) 53 3 5 2), (53, e0 (.return_) 54)]]
noncomputable def zE_Machine_init (α : Type) : Nat → zX α := fun _ => fun _ _ _ => none
def zc_Machine_init : Nat → Bool := fun pc => false
set_option maxRecDepth 100000 in
theorem r_Machine_init (a0 : Nat) (S : zM) : f_Machine_init a0 S = zrt false zP_Machine_init (zE_Machine_init zM) zc_Machine_init zkV (fun pc lv st S => none) 1000 0 [some (.ref a0)] [] S := rfl
theorem G_Machine_init {g : zV → Nat → List Value → zM → Prop} {res : zM} (H : zCl false zP_Machine_init (zE_Machine_init zM) zkV res g) (Hw : zWk g) (a0 : Nat) (S : zM) (h : f_Machine_init a0 S = some res) : g [some (.ref a0)] 0 [] S := by
  refine H zc_Machine_init _ 1000 _ _ _ _ ((r_Machine_init a0 S).symm.trans h) (fun pc lv st S hK => ?_)
  cases hK
set_option maxRecDepth 100000 in
theorem ok_Machine_init : zokT 3 [] true 1 20 1 false none cX3_init zP_Machine_init = true := by decide +kernel
set_option maxRecDepth 100000 in
theorem s_Machine_init {l : Launch} {HB : Heap} {b L : Nat} {xs : Nat → Int32} {aK aV : Nat → Nat} {G : va_G} {tc : Nat → ClassId} : zSnd l HB b L xs aK aV G tc (zMT.getD 6 zyD) (fun α => zA_vR_V 3 f_Machine_init) := by
  rw [show zMT.getD 6 zyD = (yX3_init, cX3_init, 1, none, 2, 1, 1, 20) from rfl]
  intro α as S k res h
  unfold zA_vR_V at h
  dsimp only at h
  split at h
  · rename_i a0
    obtain ⟨p, hp, h⟩ := zbind h
    unfold zcl at hp
    split at hp
    · rename_i hkd
      have hm := zmeth (l := l) (HB := HB) (b := b) (L := L) (xs := xs) (aK := aK) (aV := aV) (G := G) (tc := tc) (q := (yX3_init, cX3_init, 1, none, 2, 1, 1, 20)) (o := 3) (cs := []) (rz := false) (T := zP_Machine_init) (E := zE_Machine_init zM) (kr := zkV) (res := p) (v0 := none) (S0 := p) (as := [.ref a0]) (S := S) zMT_fine (by decide +kernel) (fun i as S k' h => by
        unfold zE_Machine_init at h
        cases h) ok_Machine_init rfl (fun v S' h => zkV_inv h) (Nat.le_of_ble_eq_true rfl) (fun g H Hw => Hw _ [some (.ref a0)] _ _ _ ⟨rfl, trivial⟩ (G_Machine_init H Hw a0 S hp))
      exact ⟨_, _, h, hm.1, rfl, fun _ => ⟨_, _, rfl⟩, (fun q => by cases q), hm.2⟩
    · cases hp
  · cases h
def zP_Rule_init : List (List (Nat × zE)) := [[(0, e1 (.aload_n 0) 1 0), (1, e3 (.invokespecial 3) 4 999 0 0), (4, e1 (.aload_n 0) 5 0), (5, e3 (.new 9) 8 8 2 0), (8, e0 (.dup) 9), (9, ei (.iconst 3) 10 0 (3)), (10, e3 (.invokespecial 11) 13 0 2 0), (13, e3 (.putfield 14) 16 9 0 2)],
  [(16, e1 (.aload_n 0) 17 0), (17, e3 (.new 9) 20 8 2 0), (20, e0 (.dup) 21), (21, ei (.iconst 4) 22 0 (4)), (22, e3 (.invokespecial 11) 25 0 2 0), (25, e3 (.putfield 20) 28 9 1 2), (28, e0 (.return_) 29)]]
noncomputable def zE_Rule_init (α : Type) : Nat → zX α := fun i => bif Nat.beq i 0 then zA_vRI_V 8 f_Row_init else fun _ _ _ => none
def zc_Rule_init : Nat → Bool := fun pc => false
set_option maxRecDepth 100000 in
theorem r_Rule_init (a0 : Nat) (S : zM) : f_Rule_init a0 S = zrt false zP_Rule_init (zE_Rule_init zM) zc_Rule_init zkV (fun pc lv st S => none) 1000 0 [some (.ref a0)] [] S := rfl
theorem G_Rule_init {g : zV → Nat → List Value → zM → Prop} {res : zM} (H : zCl false zP_Rule_init (zE_Rule_init zM) zkV res g) (Hw : zWk g) (a0 : Nat) (S : zM) (h : f_Rule_init a0 S = some res) : g [some (.ref a0)] 0 [] S := by
  refine H zc_Rule_init _ 1000 _ _ _ _ ((r_Rule_init a0 S).symm.trans h) (fun pc lv st S hK => ?_)
  cases hK
set_option maxRecDepth 100000 in
theorem ok_Rule_init : zokT 9 [1] true 2 41 1 false none cX9_init zP_Rule_init = true := by decide +kernel
set_option maxRecDepth 100000 in
theorem s_Rule_init {l : Launch} {HB : Heap} {b L : Nat} {xs : Nat → Int32} {aK aV : Nat → Nat} {G : va_G} {tc : Nat → ClassId} (h0 : zSnd l HB b L xs aK aV G tc (zMT.getD 1 zyD) (fun α => zA_vRI_V 8 f_Row_init)) : zSnd l HB b L xs aK aV G tc (zMT.getD 7 zyD) (fun α => zA_vR_V 9 f_Rule_init) := by
  rw [show zMT.getD 7 zyD = (yX9_init, cX9_init, 1, none, 2, 1, 2, 41) from rfl]
  intro α as S k res h
  unfold zA_vR_V at h
  dsimp only at h
  split at h
  · rename_i a0
    obtain ⟨p, hp, h⟩ := zbind h
    unfold zcl at hp
    split at hp
    · rename_i hkd
      have hm := zmeth (l := l) (HB := HB) (b := b) (L := L) (xs := xs) (aK := aK) (aV := aV) (G := G) (tc := tc) (q := (yX9_init, cX9_init, 1, none, 2, 1, 2, 41)) (o := 9) (cs := [1]) (rz := false) (T := zP_Rule_init) (E := zE_Rule_init zM) (kr := zkV) (res := p) (v0 := none) (S0 := p) (as := [.ref a0]) (S := S) zMT_fine (by decide +kernel) (fun i as S k' h => by
        unfold zE_Rule_init at h
        rcases zdisf h with ⟨rfl, h⟩ | h
        · exact h0 _ _ _ _ _ h
        cases h) ok_Rule_init rfl (fun v S' h => zkV_inv h) (Nat.le_of_ble_eq_true rfl) (fun g H Hw => Hw _ [some (.ref a0)] _ _ _ ⟨rfl, trivial⟩ (G_Rule_init H Hw a0 S hp))
      exact ⟨_, _, h, hm.1, rfl, fun _ => ⟨_, _, rfl⟩, (fun q => by cases q), hm.2⟩
    · cases hp
  · cases h
def zP_Pass_init : List (List (Nat × zE)) := [[(0, e1 (.aload_n 0) 1 0), (1, e3 (.invokespecial 3) 4 999 0 0), (4, e1 (.aload_n 0) 5 0), (5, ei (.bipush 8) 7 0 (8)), (7, e3 (.anewarray 9) 10 9 0 0), (10, e3 (.putfield 11) 13 5 0 2), (13, e1 (.aload_n 0) 14 0), (14, e3 (.new 17) 17 3 7 0)],
  [(17, e0 (.dup) 18), (18, e3 (.invokespecial 19) 21 0 1 0), (21, e3 (.putfield 20) 24 5 1 2), (24, e1 (.aload_n 0) 25 0), (25, e3 (.new 17) 28 3 7 0), (28, e0 (.dup) 29), (29, e3 (.invokespecial 19) 32 0 1 0)],
  [(32, e3 (.putfield 24) 35 5 2 2), (35, ei (.iconst 0) 36 0 (0)), (36, e1 (.istore_n 1) 37 1), (37, e1 (.iload_n 1) 38 1), (38, ei (.bipush 8) 40 0 (8)), (40, e1 (.if_icmp .ge 22) 43 62), (43, e1 (.aload_n 0) 44 0), (44, e3 (.getfield 11) 47 5 0 2), (47, e1 (.iload_n 1) 48 1)],
  [(48, e3 (.new 9) 51 9 4 0), (51, e0 (.dup) 52), (52, e3 (.invokespecial 27) 55 1 1 0), (55, e3 (.aastore) 56 9 0 0), (56, ei (.iinc 1 1) 59 1 (1)), (59, e1 (.goto (-22)) 62 37), (62, e0 (.return_) 63)]]
noncomputable def zE_Pass_init (α : Type) : Nat → zX α := fun i => bif Nat.beq i 0 then zA_vR_V 3 f_Machine_init else bif Nat.beq i 1 then zA_vR_V 9 f_Rule_init else fun _ _ _ => none
def zc_Pass_init : Nat → Bool := fun pc => Nat.beq pc 37
def D_Pass_init_37 (k : Nat → Int32 → zM → Option zM) (lv : zV) (st : List Value) (S : zM) : Option zM := match lv, st with
  | [some (.ref a0), some (.int a1)], [] => k a0 a1 S
  | _, _ => none
theorem d_Pass_init_37 {g : zV → Nat → List Value → zM → Prop} (Hw : zWk g) {k : Nat → Int32 → zM → Option zM} {res : zM} {lv : zV} {st : List Value} {S : zM} (h : D_Pass_init_37 k lv st S = some res) (hk : ∀ a0 a1 S, k a0 a1 S = some res → g [some (.ref a0), some (.int a1)] 37 [] S) : g lv 37 st S := by
  unfold D_Pass_init_37 at h
  split at h
  · exact Hw _ _ _ _ _ (by simp [zle]) (hk _ _ _  h)
  · cases h
set_option maxRecDepth 100000 in
theorem r_Pass_init_37 (n : Nat) (a0 : Nat) (a1 : Int32) (S : zM) : L_Pass_init_37 (n + 1) a0 a1 S = zrt false zP_Pass_init (zE_Pass_init zM) zc_Pass_init zkV (fun pc lv st S => bif Nat.beq pc 37 then D_Pass_init_37 (L_Pass_init_37 n) lv st S else none) 1000 37 [some (.ref a0), some (.int a1)] [] S := rfl
theorem g_Pass_init_37 {g : zV → Nat → List Value → zM → Prop} {res : zM} (H : zCl false zP_Pass_init (zE_Pass_init zM) zkV res g) (Hw : zWk g) (n : Nat) : ∀ (a0 : Nat) (a1 : Int32) (S : zM), L_Pass_init_37 n a0 a1 S = some res → g [some (.ref a0), some (.int a1)] 37 [] S := by
  induction n with
  | zero => intro a0 a1 S h; cases h
  | succ n ih =>
    intro a0 a1 S h
    refine H zc_Pass_init _ 1000 _ _ _ _ ((r_Pass_init_37 n a0 a1 S).symm.trans h) (fun pc lv st S hK => ?_)
    rcases zdis hK with ⟨rfl, hK⟩ | hK
    · exact d_Pass_init_37 Hw hK ih
    cases hK
set_option maxRecDepth 100000 in
theorem r_Pass_init (a0 : Nat) (S : zM) : f_Pass_init a0 S = zrt false zP_Pass_init (zE_Pass_init zM) zc_Pass_init zkV (fun pc lv st S => bif Nat.beq pc 37 then D_Pass_init_37 (L_Pass_init_37 zF) lv st S else none) 1000 0 [some (.ref a0), none] [] S := rfl
theorem G_Pass_init {g : zV → Nat → List Value → zM → Prop} {res : zM} (H : zCl false zP_Pass_init (zE_Pass_init zM) zkV res g) (Hw : zWk g) (a0 : Nat) (S : zM) (h : f_Pass_init a0 S = some res) : g [some (.ref a0), none] 0 [] S := by
  refine H zc_Pass_init _ 1000 _ _ _ _ ((r_Pass_init a0 S).symm.trans h) (fun pc lv st S hK => ?_)
  rcases zdis hK with ⟨rfl, hK⟩ | hK
  · exact d_Pass_init_37 Hw hK (g_Pass_init_37 H Hw  zF)
  cases hK
set_option maxRecDepth 100000 in
theorem ok_Pass_init : zokT 5 [6, 7] true 3 61 2 false none cX5_init zP_Pass_init = true := by decide +kernel
set_option maxRecDepth 100000 in
theorem s_Pass_init {l : Launch} {HB : Heap} {b L : Nat} {xs : Nat → Int32} {aK aV : Nat → Nat} {G : va_G} {tc : Nat → ClassId} (h0 : zSnd l HB b L xs aK aV G tc (zMT.getD 6 zyD) (fun α => zA_vR_V 3 f_Machine_init)) (h1 : zSnd l HB b L xs aK aV G tc (zMT.getD 7 zyD) (fun α => zA_vR_V 9 f_Rule_init)) : zSnd l HB b L xs aK aV G tc (zMT.getD 8 zyD) (fun α => zA_vR_V 5 f_Pass_init) := by
  rw [show zMT.getD 8 zyD = (yX5_init, cX5_init, 2, none, 2, 1, 3, 61) from rfl]
  intro α as S k res h
  unfold zA_vR_V at h
  dsimp only at h
  split at h
  · rename_i a0
    obtain ⟨p, hp, h⟩ := zbind h
    unfold zcl at hp
    split at hp
    · rename_i hkd
      have hm := zmeth (l := l) (HB := HB) (b := b) (L := L) (xs := xs) (aK := aK) (aV := aV) (G := G) (tc := tc) (q := (yX5_init, cX5_init, 2, none, 2, 1, 3, 61)) (o := 5) (cs := [6, 7]) (rz := false) (T := zP_Pass_init) (E := zE_Pass_init zM) (kr := zkV) (res := p) (v0 := none) (S0 := p) (as := [.ref a0]) (S := S) zMT_fine (by decide +kernel) (fun i as S k' h => by
        unfold zE_Pass_init at h
        rcases zdisf h with ⟨rfl, h⟩ | h
        · exact h0 _ _ _ _ _ h
        rcases zdisf h with ⟨rfl, h⟩ | h
        · exact h1 _ _ _ _ _ h
        cases h) ok_Pass_init rfl (fun v S' h => zkV_inv h) (Nat.le_of_ble_eq_true rfl) (fun g H Hw => Hw _ [some (.ref a0), none] _ _ _ ⟨rfl, trivial⟩ (G_Pass_init H Hw a0 S hp))
      exact ⟨_, _, h, hm.1, rfl, fun _ => ⟨_, _, rfl⟩, (fun q => by cases q), hm.2⟩
    · cases hp
  · cases h
def zP_Script_init : List (List (Nat × zE)) := [[(0, e1 (.aload_n 0) 1 0), (1, e3 (.invokespecial 3) 4 999 0 0), (4, e1 (.aload_n 0) 5 0), (5, ei (.iconst 4) 6 0 (4)), (6, e3 (.newarray .long) 8 101 0 0), (8, e3 (.putfield 9) 11 10 0 2), (11, e1 (.aload_n 0) 12 0), (12, ei (.iconst 4) 13 0 (4)), (13, e3 (.newarray .int) 15 100 0 0), (15, e3 (.putfield 15) 18 10 1 2)],
  [(18, e1 (.aload_n 0) 19 0), (19, ei (.iconst 3) 20 0 (3)), (20, e3 (.anewarray 19) 23 5 0 0), (23, e3 (.putfield 21) 26 10 2 2), (26, ei (.iconst 0) 27 0 (0)), (27, e1 (.istore_n 1) 28 1), (28, e1 (.iload_n 1) 29 1), (29, ei (.iconst 3) 30 0 (3)), (30, e1 (.if_icmp .ge 22) 33 52)],
  [(33, e1 (.aload_n 0) 34 0), (34, e3 (.getfield 21) 37 10 2 2), (37, e1 (.iload_n 1) 38 1), (38, e3 (.new 19) 41 5 6 0), (41, e0 (.dup) 42), (42, e3 (.invokespecial 25) 45 0 1 0), (45, e3 (.aastore) 46 5 0 0), (46, ei (.iinc 1 1) 49 1 (1))],
  [(49, e1 (.goto (-21)) 52 28), (52, e0 (.return_) 53)]]
noncomputable def zE_Script_init (α : Type) : Nat → zX α := fun i => bif Nat.beq i 0 then zA_vR_V 5 f_Pass_init else fun _ _ _ => none
def zc_Script_init : Nat → Bool := fun pc => Nat.beq pc 28
def D_Script_init_28 (k : Nat → Int32 → zM → Option zM) (lv : zV) (st : List Value) (S : zM) : Option zM := match lv, st with
  | [some (.ref a0), some (.int a1)], [] => k a0 a1 S
  | _, _ => none
theorem d_Script_init_28 {g : zV → Nat → List Value → zM → Prop} (Hw : zWk g) {k : Nat → Int32 → zM → Option zM} {res : zM} {lv : zV} {st : List Value} {S : zM} (h : D_Script_init_28 k lv st S = some res) (hk : ∀ a0 a1 S, k a0 a1 S = some res → g [some (.ref a0), some (.int a1)] 28 [] S) : g lv 28 st S := by
  unfold D_Script_init_28 at h
  split at h
  · exact Hw _ _ _ _ _ (by simp [zle]) (hk _ _ _  h)
  · cases h
set_option maxRecDepth 100000 in
theorem r_Script_init_28 (n : Nat) (a0 : Nat) (a1 : Int32) (S : zM) : L_Script_init_28 (n + 1) a0 a1 S = zrt false zP_Script_init (zE_Script_init zM) zc_Script_init zkV (fun pc lv st S => bif Nat.beq pc 28 then D_Script_init_28 (L_Script_init_28 n) lv st S else none) 1000 28 [some (.ref a0), some (.int a1)] [] S := rfl
theorem g_Script_init_28 {g : zV → Nat → List Value → zM → Prop} {res : zM} (H : zCl false zP_Script_init (zE_Script_init zM) zkV res g) (Hw : zWk g) (n : Nat) : ∀ (a0 : Nat) (a1 : Int32) (S : zM), L_Script_init_28 n a0 a1 S = some res → g [some (.ref a0), some (.int a1)] 28 [] S := by
  induction n with
  | zero => intro a0 a1 S h; cases h
  | succ n ih =>
    intro a0 a1 S h
    refine H zc_Script_init _ 1000 _ _ _ _ ((r_Script_init_28 n a0 a1 S).symm.trans h) (fun pc lv st S hK => ?_)
    rcases zdis hK with ⟨rfl, hK⟩ | hK
    · exact d_Script_init_28 Hw hK ih
    cases hK
set_option maxRecDepth 100000 in
theorem r_Script_init (a0 : Nat) (S : zM) : f_Script_init a0 S = zrt false zP_Script_init (zE_Script_init zM) zc_Script_init zkV (fun pc lv st S => bif Nat.beq pc 28 then D_Script_init_28 (L_Script_init_28 zF) lv st S else none) 1000 0 [some (.ref a0), none] [] S := rfl
theorem G_Script_init {g : zV → Nat → List Value → zM → Prop} {res : zM} (H : zCl false zP_Script_init (zE_Script_init zM) zkV res g) (Hw : zWk g) (a0 : Nat) (S : zM) (h : f_Script_init a0 S = some res) : g [some (.ref a0), none] 0 [] S := by
  refine H zc_Script_init _ 1000 _ _ _ _ ((r_Script_init a0 S).symm.trans h) (fun pc lv st S hK => ?_)
  rcases zdis hK with ⟨rfl, hK⟩ | hK
  · exact d_Script_init_28 Hw hK (g_Script_init_28 H Hw  zF)
  cases hK
set_option maxRecDepth 100000 in
theorem ok_Script_init : zokT 10 [8] true 4 82 2 false none cX10_init zP_Script_init = true := by decide +kernel
set_option maxRecDepth 100000 in
theorem s_Script_init {l : Launch} {HB : Heap} {b L : Nat} {xs : Nat → Int32} {aK aV : Nat → Nat} {G : va_G} {tc : Nat → ClassId} (h0 : zSnd l HB b L xs aK aV G tc (zMT.getD 8 zyD) (fun α => zA_vR_V 5 f_Pass_init)) : zSnd l HB b L xs aK aV G tc (zMT.getD 9 zyD) (fun α => zA_vR_V 10 f_Script_init) := by
  rw [show zMT.getD 9 zyD = (yX10_init, cX10_init, 2, none, 2, 1, 4, 82) from rfl]
  intro α as S k res h
  unfold zA_vR_V at h
  dsimp only at h
  split at h
  · rename_i a0
    obtain ⟨p, hp, h⟩ := zbind h
    unfold zcl at hp
    split at hp
    · rename_i hkd
      have hm := zmeth (l := l) (HB := HB) (b := b) (L := L) (xs := xs) (aK := aK) (aV := aV) (G := G) (tc := tc) (q := (yX10_init, cX10_init, 2, none, 2, 1, 4, 82)) (o := 10) (cs := [8]) (rz := false) (T := zP_Script_init) (E := zE_Script_init zM) (kr := zkV) (res := p) (v0 := none) (S0 := p) (as := [.ref a0]) (S := S) zMT_fine (by decide +kernel) (fun i as S k' h => by
        unfold zE_Script_init at h
        rcases zdisf h with ⟨rfl, h⟩ | h
        · exact h0 _ _ _ _ _ h
        cases h) ok_Script_init rfl (fun v S' h => zkV_inv h) (Nat.le_of_ble_eq_true rfl) (fun g H Hw => Hw _ [some (.ref a0), none] _ _ _ ⟨rfl, trivial⟩ (G_Script_init H Hw a0 S hp))
      exact ⟨_, _, h, hm.1, rfl, fun _ => ⟨_, _, rfl⟩, (fun q => by cases q), hm.2⟩
    · cases hp
  · cases h
def zP_Cl_init : List (List (Nat × zE)) := [[(0, e1 (.aload_n 0) 1 0), (1, e3 (.invokespecial 1) 4 999 0 0), (4, e1 (.aload_n 0) 5 0), (5, ei (.sipush 900) 8 0 (900)), (8, e3 (.newarray .int) 10 100 0 0), (10, e3 (.putfield 9) 13 11 0 2), (13, e1 (.aload_n 0) 14 0), (14, e3 (.new 13) 17 7 8 0)],
  [(17, e0 (.dup) 18), (18, e3 (.invokespecial 15) 21 0 1 0), (21, e3 (.putfield 16) 24 11 1 2), (24, e1 (.aload_n 0) 25 0), (25, e3 (.new 20) 28 1 6 0), (28, e0 (.dup) 29), (29, e3 (.invokespecial 22) 32 1 1 0)],
  [(32, e3 (.putfield 23) 35 11 2 2), (35, e1 (.aload_n 0) 36 0), (36, e3 (.new 20) 39 1 6 0), (39, e0 (.dup) 40), (40, e3 (.invokespecial 22) 43 1 1 0), (43, e3 (.putfield 27) 46 11 3 2), (46, e1 (.aload_n 0) 47 0), (47, e3 (.new 30) 50 8 2 0)],
  [(50, e0 (.dup) 51), (51, ei (.bipush 8) 53 0 (8)), (53, e3 (.invokespecial 32) 56 2 2 0), (56, e3 (.putfield 35) 59 11 4 2), (59, e1 (.aload_n 0) 60 0), (60, e3 (.new 30) 63 8 2 0), (63, e0 (.dup) 64)],
  [(64, ei (.bipush 8) 66 0 (8)), (66, e3 (.invokespecial 32) 69 2 2 0), (69, e3 (.putfield 39) 72 11 5 2), (72, e1 (.aload_n 0) 73 0), (73, e3 (.new 30) 76 8 2 0), (76, e0 (.dup) 77), (77, ei (.bipush 60) 79 0 (60)), (79, e3 (.invokespecial 32) 82 2 2 0)],
  [(82, e3 (.putfield 42) 85 11 6 2), (85, e1 (.aload_n 0) 86 0), (86, ei (.bipush 61) 88 0 (61)), (88, e3 (.newarray .int) 90 100 0 0), (90, e3 (.putfield 45) 93 11 7 2), (93, e1 (.aload_n 0) 94 0), (94, e3 (.new 48) 97 6 8 0)],
  [(97, e0 (.dup) 98), (98, e3 (.invokespecial 50) 101 3 1 0), (101, e3 (.putfield 51) 104 11 8 2), (104, e1 (.aload_n 0) 105 0), (105, e3 (.new 55) 108 0 2 0), (108, e0 (.dup) 109), (109, e3 (.invokespecial 57) 112 4 1 0)],
  [(112, e3 (.putfield 58) 115 11 9 2), (115, e1 (.aload_n 0) 116 0), (116, e3 (.new 62) 119 10 6 0), (119, e0 (.dup) 120), (120, e3 (.invokespecial 64) 123 5 1 0), (123, e3 (.putfield 65) 126 11 10 2), (126, e1 (.aload_n 0) 127 0), (127, e3 (.new 62) 130 10 6 0)],
  [(130, e0 (.dup) 131), (131, e3 (.invokespecial 64) 134 5 1 0), (134, e3 (.putfield 69) 137 11 11 2), (137, e0 (.return_) 138)]]
noncomputable def zE_Cl_init (α : Type) : Nat → zX α := fun i => bif Nat.beq i 0 then zA_vR_V 7 f_Reader_init else bif Nat.beq i 1 then zA_vR_V 1 f_Carrier_init else bif Nat.beq i 2 then zA_vRI_V 8 f_Row_init else bif Nat.beq i 3 then zA_vR_V 6 f_Pieces_init else bif Nat.beq i 4 then zA_vR_V 0 f_Acts_init else bif Nat.beq i 5 then zA_vR_V 10 f_Script_init else fun _ _ _ => none
def zc_Cl_init : Nat → Bool := fun pc => false
set_option maxRecDepth 100000 in
theorem r_Cl_init (a0 : Nat) (S : zM) : f_Cl_init a0 S = zrt false zP_Cl_init (zE_Cl_init zM) zc_Cl_init zkV (fun pc lv st S => none) 1000 0 [some (.ref a0)] [] S := rfl
theorem G_Cl_init {g : zV → Nat → List Value → zM → Prop} {res : zM} (H : zCl false zP_Cl_init (zE_Cl_init zM) zkV res g) (Hw : zWk g) (a0 : Nat) (S : zM) (h : f_Cl_init a0 S = some res) : g [some (.ref a0)] 0 [] S := by
  refine H zc_Cl_init _ 1000 _ _ _ _ ((r_Cl_init a0 S).symm.trans h) (fun pc lv st S hK => ?_)
  cases hK
set_option maxRecDepth 100000 in
theorem ok_Cl_init : zokT 11 [0, 2, 1, 4, 5, 9] true 5 103 1 false none cX11_init zP_Cl_init = true := by decide +kernel
set_option maxRecDepth 100000 in
theorem s_Cl_init {l : Launch} {HB : Heap} {b L : Nat} {xs : Nat → Int32} {aK aV : Nat → Nat} {G : va_G} {tc : Nat → ClassId} (h0 : zSnd l HB b L xs aK aV G tc (zMT.getD 0 zyD) (fun α => zA_vR_V 7 f_Reader_init)) (h1 : zSnd l HB b L xs aK aV G tc (zMT.getD 2 zyD) (fun α => zA_vR_V 1 f_Carrier_init)) (h2 : zSnd l HB b L xs aK aV G tc (zMT.getD 1 zyD) (fun α => zA_vRI_V 8 f_Row_init)) (h3 : zSnd l HB b L xs aK aV G tc (zMT.getD 4 zyD) (fun α => zA_vR_V 6 f_Pieces_init)) (h4 : zSnd l HB b L xs aK aV G tc (zMT.getD 5 zyD) (fun α => zA_vR_V 0 f_Acts_init)) (h5 : zSnd l HB b L xs aK aV G tc (zMT.getD 9 zyD) (fun α => zA_vR_V 10 f_Script_init)) : zSnd l HB b L xs aK aV G tc (zMT.getD 10 zyD) (fun α => zA_vR_V 11 f_Cl_init) := by
  rw [show zMT.getD 10 zyD = (yX11_init, cX11_init, 1, none, 2, 1, 5, 103) from rfl]
  intro α as S k res h
  unfold zA_vR_V at h
  dsimp only at h
  split at h
  · rename_i a0
    obtain ⟨p, hp, h⟩ := zbind h
    unfold zcl at hp
    split at hp
    · rename_i hkd
      have hm := zmeth (l := l) (HB := HB) (b := b) (L := L) (xs := xs) (aK := aK) (aV := aV) (G := G) (tc := tc) (q := (yX11_init, cX11_init, 1, none, 2, 1, 5, 103)) (o := 11) (cs := [0, 2, 1, 4, 5, 9]) (rz := false) (T := zP_Cl_init) (E := zE_Cl_init zM) (kr := zkV) (res := p) (v0 := none) (S0 := p) (as := [.ref a0]) (S := S) zMT_fine (by decide +kernel) (fun i as S k' h => by
        unfold zE_Cl_init at h
        rcases zdisf h with ⟨rfl, h⟩ | h
        · exact h0 _ _ _ _ _ h
        rcases zdisf h with ⟨rfl, h⟩ | h
        · exact h1 _ _ _ _ _ h
        rcases zdisf h with ⟨rfl, h⟩ | h
        · exact h2 _ _ _ _ _ h
        rcases zdisf h with ⟨rfl, h⟩ | h
        · exact h3 _ _ _ _ _ h
        rcases zdisf h with ⟨rfl, h⟩ | h
        · exact h4 _ _ _ _ _ h
        rcases zdisf h with ⟨rfl, h⟩ | h
        · exact h5 _ _ _ _ _ h
        cases h) ok_Cl_init rfl (fun v S' h => zkV_inv h) (Nat.le_of_ble_eq_true rfl) (fun g H Hw => Hw _ [some (.ref a0)] _ _ _ ⟨rfl, trivial⟩ (G_Cl_init H Hw a0 S hp))
      exact ⟨_, _, h, hm.1, rfl, fun _ => ⟨_, _, rfl⟩, (fun q => by cases q), hm.2⟩
    · cases hp
  · cases h
def zP_Mo_init : List (List (Nat × zE)) := [[(0, e1 (.aload_n 0) 1 0), (1, e3 (.invokespecial 1) 4 999 0 0), (4, e1 (.aload_n 0) 5 0), (5, ei (.iconst (-1)) 6 0 (-1)), (6, e3 (.putfield 9) 9 12 3 0), (9, e1 (.aload_n 0) 10 0), (10, ei (.sipush 900) 13 0 (900)), (13, e3 (.newarray .int) 15 100 0 0), (15, e3 (.putfield 13) 18 12 4 2)],
  [(18, e1 (.aload_n 0) 19 0), (19, ei (.iconst 4) 20 0 (4)), (20, e3 (.newarray .int) 22 100 0 0), (22, e3 (.putfield 17) 25 12 10 2), (25, e1 (.aload_n 0) 26 0), (26, ei (.iconst 3) 27 0 (3)), (27, e3 (.newarray .int) 29 100 0 0), (29, e3 (.putfield 20) 32 12 11 2)],
  [(32, e1 (.aload_n 0) 33 0), (33, ei (.iconst 3) 34 0 (3)), (34, e3 (.newarray .boolean) 36 102 0 0), (36, e3 (.putfield 23) 39 12 12 2), (39, e1 (.aload_n 0) 40 0), (40, ei (.sipush 264) 43 0 (264)), (43, e3 (.newarray .int) 45 100 0 0), (45, e3 (.putfield 27) 48 12 13 2)],
  [(48, e1 (.aload_n 0) 49 0), (49, ei (.iconst 4) 50 0 (4)), (50, e3 (.newarray .int) 52 100 0 0), (52, e3 (.putfield 30) 55 12 17 2), (55, e1 (.aload_n 0) 56 0), (56, ei (.iconst 4) 57 0 (4)), (57, e3 (.newarray .long) 59 101 0 0), (59, e3 (.putfield 33) 62 12 18 2), (62, e1 (.aload_n 0) 63 0), (63, ei (.iconst 3) 64 0 (3))],
  [(64, e3 (.newarray .int) 66 100 0 0), (66, e3 (.putfield 37) 69 12 19 2), (69, e1 (.aload_n 0) 70 0), (70, ei (.iconst 3) 71 0 (3)), (71, e3 (.newarray .boolean) 73 102 0 0), (73, e3 (.putfield 40) 76 12 20 2), (76, e1 (.aload_n 0) 77 0), (77, ei (.sipush 264) 80 0 (264))],
  [(80, e3 (.newarray .int) 82 100 0 0), (82, e3 (.putfield 43) 85 12 21 2), (85, e1 (.aload_n 0) 86 0), (86, ei (.bipush 73) 88 0 (73)), (88, e3 (.newarray .int) 90 100 0 0), (90, e3 (.putfield 46) 93 12 30 2), (93, e1 (.aload_n 0) 94 0), (94, ei (.bipush 16) 96 0 (16))],
  [(96, e3 (.newarray .int) 98 100 0 0), (98, e3 (.putfield 49) 101 12 32 2), (101, e1 (.aload_n 0) 102 0), (102, ei (.bipush 16) 104 0 (16)), (104, e3 (.newarray .int) 106 100 0 0), (106, e3 (.putfield 52) 109 12 33 2), (109, e1 (.aload_n 0) 110 0), (110, ei (.bipush 64) 112 0 (64))],
  [(112, e3 (.newarray .int) 114 100 0 0), (114, e3 (.putfield 55) 117 12 34 2), (117, e1 (.aload_n 0) 118 0), (118, ei (.bipush 80) 120 0 (80)), (120, e3 (.newarray .int) 122 100 0 0), (122, e3 (.putfield 58) 125 12 36 2), (125, e1 (.aload_n 0) 126 0), (126, ei (.bipush 80) 128 0 (80))],
  [(128, e3 (.newarray .boolean) 130 102 0 0), (130, e3 (.putfield 61) 133 12 37 2), (133, e1 (.aload_n 0) 134 0), (134, ei (.bipush 9) 136 0 (9)), (136, e3 (.newarray .int) 138 100 0 0), (138, e3 (.putfield 64) 141 12 38 2), (141, e1 (.aload_n 0) 142 0), (142, ei (.bipush 24) 144 0 (24))],
  [(144, e3 (.newarray .boolean) 146 102 0 0), (146, e3 (.putfield 67) 149 12 39 2), (149, e1 (.aload_n 0) 150 0), (150, ei (.bipush 64) 152 0 (64)), (152, e3 (.newarray .int) 154 100 0 0), (154, e3 (.putfield 70) 157 12 40 2), (157, e1 (.aload_n 0) 158 0), (158, ei (.bipush 64) 160 0 (64))],
  [(160, e3 (.newarray .int) 162 100 0 0), (162, e3 (.putfield 73) 165 12 42 2), (165, e1 (.aload_n 0) 166 0), (166, ei (.bipush 24) 168 0 (24)), (168, e3 (.newarray .int) 170 100 0 0), (170, e3 (.putfield 76) 173 12 44 2), (173, e1 (.aload_n 0) 174 0), (174, ei (.iconst 3) 175 0 (3)), (175, e3 (.newarray .int) 177 100 0 0)],
  [(177, e3 (.putfield 79) 180 12 45 2), (180, e1 (.aload_n 0) 181 0), (181, ei (.iconst 3) 182 0 (3)), (182, e3 (.newarray .int) 184 100 0 0), (184, e3 (.putfield 82) 187 12 46 2), (187, e1 (.aload_n 0) 188 0), (188, ei (.sipush 180) 191 0 (180)), (191, e3 (.newarray .int) 193 100 0 0)],
  [(193, e3 (.putfield 85) 196 12 47 2), (196, e1 (.aload_n 0) 197 0), (197, ei (.bipush 60) 199 0 (60)), (199, e3 (.newarray .int) 201 100 0 0), (201, e3 (.putfield 88) 204 12 50 2), (204, e1 (.aload_n 0) 205 0), (205, ei (.bipush 24) 207 0 (24)), (207, e3 (.newarray .int) 209 100 0 0)],
  [(209, e3 (.putfield 91) 212 12 51 2), (212, e1 (.aload_n 0) 213 0), (213, ei (.iconst 3) 214 0 (3)), (214, e3 (.newarray .int) 216 100 0 0), (216, e3 (.putfield 94) 219 12 52 2), (219, e1 (.aload_n 0) 220 0), (220, ei (.iconst 3) 221 0 (3)), (221, e3 (.newarray .int) 223 100 0 0), (223, e3 (.putfield 97) 226 12 53 2)],
  [(226, e1 (.aload_n 0) 227 0), (227, ei (.sipush 180) 230 0 (180)), (230, e3 (.newarray .int) 232 100 0 0), (232, e3 (.putfield 100) 235 12 54 2), (235, e1 (.aload_n 0) 236 0), (236, ei (.bipush 60) 238 0 (60)), (238, e3 (.newarray .int) 240 100 0 0)],
  [(240, e3 (.putfield 103) 243 12 55 2), (243, e1 (.aload_n 0) 244 0), (244, ei (.bipush 61) 246 0 (61)), (246, e3 (.newarray .int) 248 100 0 0), (248, e3 (.putfield 106) 251 12 57 2), (251, e1 (.aload_n 0) 252 0), (252, ei (.sipush 1365) 255 0 (1365)), (255, e3 (.newarray .int) 257 100 0 0)],
  [(257, e3 (.putfield 109) 260 12 58 2), (260, e1 (.aload_n 0) 261 0), (261, ei (.sipush 1365) 264 0 (1365)), (264, e3 (.newarray .int) 266 100 0 0), (266, e3 (.putfield 112) 269 12 59 2), (269, e1 (.aload_n 0) 270 0), (270, ei (.sipush 5460) 273 0 (5460))],
  [(273, e3 (.newarray .long) 275 101 0 0), (275, e3 (.putfield 115) 278 12 60 2), (278, e1 (.aload_n 0) 279 0), (279, ei (.iconst 4) 280 0 (4)), (280, e3 (.newarray .long) 282 101 0 0), (282, e3 (.putfield 118) 285 12 63 2), (285, e1 (.aload_n 0) 286 0), (286, ei (.iconst 5) 287 0 (5)), (287, e3 (.newarray .int) 289 100 0 0)],
  [(289, e3 (.putfield 121) 292 12 64 2), (292, e1 (.aload_n 0) 293 0), (293, ei (.bipush 12) 295 0 (12)), (295, e3 (.newarray .int) 297 100 0 0), (297, e3 (.putfield 124) 300 12 65 2), (300, e0 (.return_) 301)]]
noncomputable def zE_Mo_init (α : Type) : Nat → zX α := fun _ => fun _ _ _ => none
def zc_Mo_init : Nat → Bool := fun pc => false
set_option maxRecDepth 100000 in
theorem r_Mo_init (a0 : Nat) (S : zM) : f_Mo_init a0 S = zrt false zP_Mo_init (zE_Mo_init zM) zc_Mo_init zkV (fun pc lv st S => none) 1000 0 [some (.ref a0)] [] S := rfl
theorem G_Mo_init {g : zV → Nat → List Value → zM → Prop} {res : zM} (H : zCl false zP_Mo_init (zE_Mo_init zM) zkV res g) (Hw : zWk g) (a0 : Nat) (S : zM) (h : f_Mo_init a0 S = some res) : g [some (.ref a0)] 0 [] S := by
  refine H zc_Mo_init _ 1000 _ _ _ _ ((r_Mo_init a0 S).symm.trans h) (fun pc lv st S hK => ?_)
  cases hK
set_option maxRecDepth 100000 in
theorem ok_Mo_init : zokT 12 [] true 1 20 1 false none cX12_init zP_Mo_init = true := by decide +kernel
set_option maxRecDepth 100000 in
theorem s_Mo_init {l : Launch} {HB : Heap} {b L : Nat} {xs : Nat → Int32} {aK aV : Nat → Nat} {G : va_G} {tc : Nat → ClassId} : zSnd l HB b L xs aK aV G tc (zMT.getD 11 zyD) (fun α => zA_vR_V 12 f_Mo_init) := by
  rw [show zMT.getD 11 zyD = (yX12_init, cX12_init, 1, none, 2, 1, 1, 20) from rfl]
  intro α as S k res h
  unfold zA_vR_V at h
  dsimp only at h
  split at h
  · rename_i a0
    obtain ⟨p, hp, h⟩ := zbind h
    unfold zcl at hp
    split at hp
    · rename_i hkd
      have hm := zmeth (l := l) (HB := HB) (b := b) (L := L) (xs := xs) (aK := aK) (aV := aV) (G := G) (tc := tc) (q := (yX12_init, cX12_init, 1, none, 2, 1, 1, 20)) (o := 12) (cs := []) (rz := false) (T := zP_Mo_init) (E := zE_Mo_init zM) (kr := zkV) (res := p) (v0 := none) (S0 := p) (as := [.ref a0]) (S := S) zMT_fine (by decide +kernel) (fun i as S k' h => by
        unfold zE_Mo_init at h
        cases h) ok_Mo_init rfl (fun v S' h => zkV_inv h) (Nat.le_of_ble_eq_true rfl) (fun g H Hw => Hw _ [some (.ref a0)] _ _ _ ⟨rfl, trivial⟩ (G_Mo_init H Hw a0 S hp))
      exact ⟨_, _, h, hm.1, rfl, fun _ => ⟨_, _, rfl⟩, (fun q => by cases q), hm.2⟩
    · cases hp
  · cases h
def zP_Cl_putOnTape : List (List (Nat × zE)) := [[(0, ei (.bipush 24) 2 0 (24)), (2, e1 (.istore_n 2) 3 2), (3, e1 (.iload_n 2) 4 2), (4, e1 (.ifCond .lt 45) 7 49), (7, e1 (.aload_n 0) 8 0), (8, e3 (.getfield 72) 11 11 13 0), (11, ei (.sipush 900) 14 0 (900)), (14, e1 (.if_icmp .ge 35) 17 49)],
  [(17, e1 (.aload_n 0) 18 0), (18, e3 (.getfield 9) 21 11 0 2), (21, e1 (.aload_n 0) 22 0), (22, e3 (.getfield 72) 25 11 13 0), (25, e1 (.iload_n 1) 26 1), (26, e1 (.iload_n 2) 27 2), (27, e0 (.iushr) 28), (28, ei (.sipush 255) 31 0 (255)), (31, e0 (.iand) 32)],
  [(32, e0 (.iastore) 33), (33, e1 (.aload_n 0) 34 0), (34, e0 (.dup) 35), (35, e3 (.getfield 72) 38 11 13 0), (38, ei (.iconst 1) 39 0 (1)), (39, e0 (.iadd) 40), (40, e3 (.putfield 72) 43 11 13 0), (43, ei (.iinc 2 (-8)) 46 2 (-8)), (46, e1 (.goto (-43)) 49 3)],
  [(49, e0 (.return_) 50)]]
noncomputable def zE_Cl_putOnTape (α : Type) : Nat → zX α := fun _ => fun _ _ _ => none
def zc_Cl_putOnTape : Nat → Bool := fun pc => Nat.beq pc 3
def D_Cl_putOnTape_3 (k : Nat → Int32 → Int32 → zM → Option zM) (lv : zV) (st : List Value) (S : zM) : Option zM := match lv, st with
  | [some (.ref a0), some (.int a1), some (.int a2)], [] => k a0 a1 a2 S
  | _, _ => none
theorem d_Cl_putOnTape_3 {g : zV → Nat → List Value → zM → Prop} (Hw : zWk g) {k : Nat → Int32 → Int32 → zM → Option zM} {res : zM} {lv : zV} {st : List Value} {S : zM} (h : D_Cl_putOnTape_3 k lv st S = some res) (hk : ∀ a0 a1 a2 S, k a0 a1 a2 S = some res → g [some (.ref a0), some (.int a1), some (.int a2)] 3 [] S) : g lv 3 st S := by
  unfold D_Cl_putOnTape_3 at h
  split at h
  · exact Hw _ _ _ _ _ (by simp [zle]) (hk _ _ _ _  h)
  · cases h
set_option maxRecDepth 100000 in
theorem r_Cl_putOnTape_3 (n : Nat) (a0 : Nat) (a1 : Int32) (a2 : Int32) (S : zM) : L_Cl_putOnTape_3 (n + 1) a0 a1 a2 S = zrt false zP_Cl_putOnTape (zE_Cl_putOnTape zM) zc_Cl_putOnTape zkV (fun pc lv st S => bif Nat.beq pc 3 then D_Cl_putOnTape_3 (L_Cl_putOnTape_3 n) lv st S else none) 1000 3 [some (.ref a0), some (.int a1), some (.int a2)] [] S := rfl
theorem g_Cl_putOnTape_3 {g : zV → Nat → List Value → zM → Prop} {res : zM} (H : zCl false zP_Cl_putOnTape (zE_Cl_putOnTape zM) zkV res g) (Hw : zWk g) (n : Nat) : ∀ (a0 : Nat) (a1 : Int32) (a2 : Int32) (S : zM), L_Cl_putOnTape_3 n a0 a1 a2 S = some res → g [some (.ref a0), some (.int a1), some (.int a2)] 3 [] S := by
  induction n with
  | zero => intro a0 a1 a2 S h; cases h
  | succ n ih =>
    intro a0 a1 a2 S h
    refine H zc_Cl_putOnTape _ 1000 _ _ _ _ ((r_Cl_putOnTape_3 n a0 a1 a2 S).symm.trans h) (fun pc lv st S hK => ?_)
    rcases zdis hK with ⟨rfl, hK⟩ | hK
    · exact d_Cl_putOnTape_3 Hw hK ih
    cases hK
set_option maxRecDepth 100000 in
theorem r_Cl_putOnTape (a0 : Nat) (a1 : Int32) (S : zM) : f_Cl_putOnTape a0 a1 S = zrt false zP_Cl_putOnTape (zE_Cl_putOnTape zM) zc_Cl_putOnTape zkV (fun pc lv st S => bif Nat.beq pc 3 then D_Cl_putOnTape_3 (L_Cl_putOnTape_3 zF) lv st S else none) 1000 0 [some (.ref a0), some (.int a1), none] [] S := rfl
theorem G_Cl_putOnTape {g : zV → Nat → List Value → zM → Prop} {res : zM} (H : zCl false zP_Cl_putOnTape (zE_Cl_putOnTape zM) zkV res g) (Hw : zWk g) (a0 : Nat) (a1 : Int32) (S : zM) (h : f_Cl_putOnTape a0 a1 S = some res) : g [some (.ref a0), some (.int a1), none] 0 [] S := by
  refine H zc_Cl_putOnTape _ 1000 _ _ _ _ ((r_Cl_putOnTape a0 a1 S).symm.trans h) (fun pc lv st S hK => ?_)
  rcases zdis hK with ⟨rfl, hK⟩ | hK
  · exact d_Cl_putOnTape_3 Hw hK (g_Cl_putOnTape_3 H Hw  zF)
  cases hK
set_option maxRecDepth 100000 in
theorem ok_Cl_putOnTape : zokT 11 [] false 0 0 3 false none cX11_putOnTape zP_Cl_putOnTape = true := by decide +kernel
set_option maxRecDepth 100000 in
theorem s_Cl_putOnTape {l : Launch} {HB : Heap} {b L : Nat} {xs : Nat → Int32} {aK aV : Nat → Nat} {G : va_G} {tc : Nat → ClassId} : zSnd l HB b L xs aK aV G tc (zMT.getD 12 zyD) (fun α => zA_vRI_V 11 f_Cl_putOnTape) := by
  rw [show zMT.getD 12 zyD = (yX11_putOnTape, cX11_putOnTape, 3, none, 0, 2, 0, 0) from rfl]
  intro α as S k res h
  unfold zA_vRI_V at h
  dsimp only at h
  split at h
  · rename_i a0 a1
    obtain ⟨p, hp, h⟩ := zbind h
    unfold zcl at hp
    split at hp
    · rename_i hkd
      have hm := zmeth (l := l) (HB := HB) (b := b) (L := L) (xs := xs) (aK := aK) (aV := aV) (G := G) (tc := tc) (q := (yX11_putOnTape, cX11_putOnTape, 3, none, 0, 2, 0, 0)) (o := 11) (cs := []) (rz := false) (T := zP_Cl_putOnTape) (E := zE_Cl_putOnTape zM) (kr := zkV) (res := p) (v0 := none) (S0 := p) (as := [.ref a0, .int a1]) (S := S) zMT_fine (by decide +kernel) (fun i as S k' h => by
        unfold zE_Cl_putOnTape at h
        cases h) ok_Cl_putOnTape rfl (fun v S' h => zkV_inv h) (Nat.le_of_ble_eq_true rfl) (fun g H Hw => Hw _ [some (.ref a0), some (.int a1), none] _ _ _ ⟨rfl, rfl, trivial⟩ (G_Cl_putOnTape H Hw a0 a1 S hp))
      exact ⟨_, _, h, hm.1, rfl, fun _ => ⟨_, _, rfl⟩, (fun _ U H hK hH a r e => by cases e; exact zrecv (ci := 11) (by omega) hkd rfl U H hK hH), hm.2⟩
    · cases hp
  · cases h
def zP_Cl_feed : List (List (Nat × zE)) := [[(0, e1 (.aload_n 0) 1 0), (1, e3 (.getfield 72) 4 11 13 0), (4, ei (.bipush 20) 6 0 (20)), (6, e0 (.iadd) 7), (7, ei (.sipush 900) 10 0 (900)), (10, e1 (.if_icmp .le 5) 13 15), (13, ei (.iconst (-1)) 14 0 (-1)), (14, e0 (.ireturn) 15), (15, e1 (.aload_n 0) 16 0)],
  [(16, e1 (.iload_n 1) 17 1), (17, e3 (.invokevirtual 76) 20 0 2 0), (20, e1 (.aload_n 0) 21 0), (21, e1 (.iload_n 2) 22 2), (22, e3 (.invokevirtual 76) 25 0 2 0), (25, e1 (.aload_n 0) 26 0), (26, e1 (.iload_n 3) 27 3), (27, e3 (.invokevirtual 76) 30 0 2 0), (30, e1 (.aload_n 0) 31 0), (31, e1 (.iload 4) 33 4)],
  [(33, e3 (.invokevirtual 76) 36 0 2 0), (36, e1 (.aload_n 0) 37 0), (37, e1 (.iload 5) 39 5), (39, e3 (.invokevirtual 76) 42 0 2 0), (42, e1 (.aload_n 0) 43 0), (43, e3 (.getfield 72) 46 11 13 0), (46, e0 (.ireturn) 47)]]
noncomputable def zE_Cl_feed (α : Type) : Nat → zX α := fun i => bif Nat.beq i 0 then zA_vRI_V 11 f_Cl_putOnTape else fun _ _ _ => none
def zc_Cl_feed : Nat → Bool := fun pc => false
set_option maxRecDepth 100000 in
theorem r_Cl_feed (a0 : Nat) (a1 : Int32) (a2 : Int32) (a3 : Int32) (a4 : Int32) (a5 : Int32) (S : zM) : f_Cl_feed a0 a1 a2 a3 a4 a5 S = zrt false zP_Cl_feed (zE_Cl_feed (Int32 × zM)) zc_Cl_feed zkI (fun pc lv st S => none) 1000 0 [some (.ref a0), some (.int a1), some (.int a2), some (.int a3), some (.int a4), some (.int a5)] [] S := rfl
theorem G_Cl_feed {g : zV → Nat → List Value → zM → Prop} {res : (Int32 × zM)} (H : zCl false zP_Cl_feed (zE_Cl_feed (Int32 × zM)) zkI res g) (Hw : zWk g) (a0 : Nat) (a1 : Int32) (a2 : Int32) (a3 : Int32) (a4 : Int32) (a5 : Int32) (S : zM) (h : f_Cl_feed a0 a1 a2 a3 a4 a5 S = some res) : g [some (.ref a0), some (.int a1), some (.int a2), some (.int a3), some (.int a4), some (.int a5)] 0 [] S := by
  refine H zc_Cl_feed _ 1000 _ _ _ _ ((r_Cl_feed a0 a1 a2 a3 a4 a5 S).symm.trans h) (fun pc lv st S hK => ?_)
  cases hK
set_option maxRecDepth 100000 in
theorem ok_Cl_feed : zokT 11 [12] false 1 22 6 false (some .int) cX11_feed zP_Cl_feed = true := by decide +kernel
set_option maxRecDepth 100000 in
theorem s_Cl_feed {l : Launch} {HB : Heap} {b L : Nat} {xs : Nat → Int32} {aK aV : Nat → Nat} {G : va_G} {tc : Nat → ClassId} (h0 : zSnd l HB b L xs aK aV G tc (zMT.getD 12 zyD) (fun α => zA_vRI_V 11 f_Cl_putOnTape)) : zSnd l HB b L xs aK aV G tc (zMT.getD 13 zyD) (fun α => zA_vRIIIII_I 11 f_Cl_feed) := by
  rw [show zMT.getD 13 zyD = (yX11_feed, cX11_feed, 6, (some .int), 0, 6, 1, 22) from rfl]
  intro α as S k res h
  unfold zA_vRIIIII_I at h
  dsimp only at h
  split at h
  · rename_i a0 a1 a2 a3 a4 a5
    obtain ⟨p, hp, h⟩ := zbind h
    unfold zcl at hp
    split at hp
    · rename_i hkd
      have hm := zmeth (l := l) (HB := HB) (b := b) (L := L) (xs := xs) (aK := aK) (aV := aV) (G := G) (tc := tc) (q := (yX11_feed, cX11_feed, 6, (some .int), 0, 6, 1, 22)) (o := 11) (cs := [12]) (rz := false) (T := zP_Cl_feed) (E := zE_Cl_feed (Int32 × zM)) (kr := zkI) (res := p) (v0 := some (.int p.1)) (S0 := p.2) (as := [.ref a0, .int a1, .int a2, .int a3, .int a4, .int a5]) (S := S) zMT_fine (by decide +kernel) (fun i as S k' h => by
        unfold zE_Cl_feed at h
        rcases zdisf h with ⟨rfl, h⟩ | h
        · exact h0 _ _ _ _ _ h
        cases h) ok_Cl_feed rfl (fun v S' h => zkI_inv h) (Nat.le_of_ble_eq_true rfl) (fun g H Hw => Hw _ [some (.ref a0), some (.int a1), some (.int a2), some (.int a3), some (.int a4), some (.int a5)] _ _ _ ⟨rfl, rfl, rfl, rfl, rfl, rfl, trivial⟩ (G_Cl_feed H Hw a0 a1 a2 a3 a4 a5 S hp))
      exact ⟨_, _, h, hm.1, rfl, fun _ => ⟨_, _, rfl⟩, (fun _ U H hK hH a r e => by cases e; exact zrecv (ci := 11) (by omega) hkd rfl U H hK hH), hm.2⟩
    · cases hp
  · cases h
def zP_Mo_laysWord : List (List (Nat × zE)) := [[(0, ei (.iconst 0) 1 0 (0)), (1, e1 (.istore_n 2) 2 2), (2, e1 (.iload_n 2) 3 2), (3, ei (.iconst 4) 4 0 (4)), (4, e1 (.if_icmp .ge 33) 7 37), (7, e1 (.aload_n 0) 8 0), (8, e3 (.getfield 13) 11 12 4 2), (11, e1 (.aload_n 0) 12 0), (12, e3 (.getfield 133) 15 12 5 0), (15, e1 (.iload_n 2) 16 2)],
  [(16, e0 (.iadd) 17), (17, e1 (.iload_n 1) 18 1), (18, ei (.bipush 24) 20 0 (24)), (20, ei (.bipush 8) 22 0 (8)), (22, e1 (.iload_n 2) 23 2), (23, e0 (.imul) 24), (24, e0 (.isub) 25), (25, e0 (.ishr) 26), (26, ei (.sipush 255) 29 0 (255)), (29, e0 (.iand) 30), (30, e0 (.iastore) 31), (31, ei (.iinc 2 1) 34 2 (1))],
  [(34, e1 (.goto (-32)) 37 2), (37, e1 (.aload_n 0) 38 0), (38, e0 (.dup) 39), (39, e3 (.getfield 133) 42 12 5 0), (42, ei (.iconst 4) 43 0 (4)), (43, e0 (.iadd) 44), (44, e3 (.putfield 133) 47 12 5 0), (47, e0 (.return_) 48)]]
noncomputable def zE_Mo_laysWord (α : Type) : Nat → zX α := fun _ => fun _ _ _ => none
def zc_Mo_laysWord : Nat → Bool := fun pc => Nat.beq pc 2
def D_Mo_laysWord_2 (k : Nat → Int32 → Int32 → zM → Option zM) (lv : zV) (st : List Value) (S : zM) : Option zM := match lv, st with
  | [some (.ref a0), some (.int a1), some (.int a2)], [] => k a0 a1 a2 S
  | _, _ => none
theorem d_Mo_laysWord_2 {g : zV → Nat → List Value → zM → Prop} (Hw : zWk g) {k : Nat → Int32 → Int32 → zM → Option zM} {res : zM} {lv : zV} {st : List Value} {S : zM} (h : D_Mo_laysWord_2 k lv st S = some res) (hk : ∀ a0 a1 a2 S, k a0 a1 a2 S = some res → g [some (.ref a0), some (.int a1), some (.int a2)] 2 [] S) : g lv 2 st S := by
  unfold D_Mo_laysWord_2 at h
  split at h
  · exact Hw _ _ _ _ _ (by simp [zle]) (hk _ _ _ _  h)
  · cases h
set_option maxRecDepth 100000 in
theorem r_Mo_laysWord_2 (n : Nat) (a0 : Nat) (a1 : Int32) (a2 : Int32) (S : zM) : L_Mo_laysWord_2 (n + 1) a0 a1 a2 S = zrt false zP_Mo_laysWord (zE_Mo_laysWord zM) zc_Mo_laysWord zkV (fun pc lv st S => bif Nat.beq pc 2 then D_Mo_laysWord_2 (L_Mo_laysWord_2 n) lv st S else none) 1000 2 [some (.ref a0), some (.int a1), some (.int a2)] [] S := rfl
theorem g_Mo_laysWord_2 {g : zV → Nat → List Value → zM → Prop} {res : zM} (H : zCl false zP_Mo_laysWord (zE_Mo_laysWord zM) zkV res g) (Hw : zWk g) (n : Nat) : ∀ (a0 : Nat) (a1 : Int32) (a2 : Int32) (S : zM), L_Mo_laysWord_2 n a0 a1 a2 S = some res → g [some (.ref a0), some (.int a1), some (.int a2)] 2 [] S := by
  induction n with
  | zero => intro a0 a1 a2 S h; cases h
  | succ n ih =>
    intro a0 a1 a2 S h
    refine H zc_Mo_laysWord _ 1000 _ _ _ _ ((r_Mo_laysWord_2 n a0 a1 a2 S).symm.trans h) (fun pc lv st S hK => ?_)
    rcases zdis hK with ⟨rfl, hK⟩ | hK
    · exact d_Mo_laysWord_2 Hw hK ih
    cases hK
set_option maxRecDepth 100000 in
theorem r_Mo_laysWord (a0 : Nat) (a1 : Int32) (S : zM) : f_Mo_laysWord a0 a1 S = zrt false zP_Mo_laysWord (zE_Mo_laysWord zM) zc_Mo_laysWord zkV (fun pc lv st S => bif Nat.beq pc 2 then D_Mo_laysWord_2 (L_Mo_laysWord_2 zF) lv st S else none) 1000 0 [some (.ref a0), some (.int a1), none] [] S := rfl
theorem G_Mo_laysWord {g : zV → Nat → List Value → zM → Prop} {res : zM} (H : zCl false zP_Mo_laysWord (zE_Mo_laysWord zM) zkV res g) (Hw : zWk g) (a0 : Nat) (a1 : Int32) (S : zM) (h : f_Mo_laysWord a0 a1 S = some res) : g [some (.ref a0), some (.int a1), none] 0 [] S := by
  refine H zc_Mo_laysWord _ 1000 _ _ _ _ ((r_Mo_laysWord a0 a1 S).symm.trans h) (fun pc lv st S hK => ?_)
  rcases zdis hK with ⟨rfl, hK⟩ | hK
  · exact d_Mo_laysWord_2 Hw hK (g_Mo_laysWord_2 H Hw  zF)
  cases hK
set_option maxRecDepth 100000 in
theorem ok_Mo_laysWord : zokT 12 [] false 0 0 3 false none cX12_laysWord zP_Mo_laysWord = true := by decide +kernel
set_option maxRecDepth 100000 in
theorem s_Mo_laysWord {l : Launch} {HB : Heap} {b L : Nat} {xs : Nat → Int32} {aK aV : Nat → Nat} {G : va_G} {tc : Nat → ClassId} : zSnd l HB b L xs aK aV G tc (zMT.getD 14 zyD) (fun α => zA_vRI_V 12 f_Mo_laysWord) := by
  rw [show zMT.getD 14 zyD = (yX12_laysWord, cX12_laysWord, 3, none, 0, 2, 0, 0) from rfl]
  intro α as S k res h
  unfold zA_vRI_V at h
  dsimp only at h
  split at h
  · rename_i a0 a1
    obtain ⟨p, hp, h⟩ := zbind h
    unfold zcl at hp
    split at hp
    · rename_i hkd
      have hm := zmeth (l := l) (HB := HB) (b := b) (L := L) (xs := xs) (aK := aK) (aV := aV) (G := G) (tc := tc) (q := (yX12_laysWord, cX12_laysWord, 3, none, 0, 2, 0, 0)) (o := 12) (cs := []) (rz := false) (T := zP_Mo_laysWord) (E := zE_Mo_laysWord zM) (kr := zkV) (res := p) (v0 := none) (S0 := p) (as := [.ref a0, .int a1]) (S := S) zMT_fine (by decide +kernel) (fun i as S k' h => by
        unfold zE_Mo_laysWord at h
        cases h) ok_Mo_laysWord rfl (fun v S' h => zkV_inv h) (Nat.le_of_ble_eq_true rfl) (fun g H Hw => Hw _ [some (.ref a0), some (.int a1), none] _ _ _ ⟨rfl, rfl, trivial⟩ (G_Mo_laysWord H Hw a0 a1 S hp))
      exact ⟨_, _, h, hm.1, rfl, fun _ => ⟨_, _, rfl⟩, (fun _ U H hK hH a r e => by cases e; exact zrecv (ci := 12) (by omega) hkd rfl U H hK hH), hm.2⟩
    · cases hp
  · cases h
def zP_Mo_feed : List (List (Nat × zE)) := [[(0, e1 (.aload_n 0) 1 0), (1, ei (.iconst 0) 2 0 (0)), (2, e3 (.putfield 127) 5 12 0 0), (5, e1 (.aload_n 0) 6 0), (6, e3 (.getfield 133) 9 12 5 0), (9, ei (.sipush 880) 12 0 (880)), (12, e1 (.if_icmp .le 5) 15 17), (15, ei (.iconst (-1)) 16 0 (-1))],
  [(16, e0 (.ireturn) 17), (17, e1 (.aload_n 0) 18 0), (18, e1 (.iload_n 1) 19 1), (19, e3 (.invokevirtual 136) 22 0 2 0), (22, e1 (.aload_n 0) 23 0), (23, e1 (.iload_n 2) 24 2), (24, e3 (.invokevirtual 136) 27 0 2 0), (27, e1 (.aload_n 0) 28 0), (28, e1 (.iload_n 3) 29 3), (29, e3 (.invokevirtual 136) 32 0 2 0)],
  [(32, e1 (.aload_n 0) 33 0), (33, e1 (.iload 4) 35 4), (35, e3 (.invokevirtual 136) 38 0 2 0), (38, e1 (.aload_n 0) 39 0), (39, e1 (.iload 5) 41 5), (41, e3 (.invokevirtual 136) 44 0 2 0), (44, e1 (.aload_n 0) 45 0), (45, e3 (.getfield 133) 48 12 5 0)],
  [(48, e0 (.ireturn) 49)]]
noncomputable def zE_Mo_feed (α : Type) : Nat → zX α := fun i => bif Nat.beq i 0 then zA_vRI_V 12 f_Mo_laysWord else fun _ _ _ => none
def zc_Mo_feed : Nat → Bool := fun pc => false
set_option maxRecDepth 100000 in
theorem r_Mo_feed (a0 : Nat) (a1 : Int32) (a2 : Int32) (a3 : Int32) (a4 : Int32) (a5 : Int32) (S : zM) : f_Mo_feed a0 a1 a2 a3 a4 a5 S = zrt false zP_Mo_feed (zE_Mo_feed (Int32 × zM)) zc_Mo_feed zkI (fun pc lv st S => none) 1000 0 [some (.ref a0), some (.int a1), some (.int a2), some (.int a3), some (.int a4), some (.int a5)] [] S := rfl
theorem G_Mo_feed {g : zV → Nat → List Value → zM → Prop} {res : (Int32 × zM)} (H : zCl false zP_Mo_feed (zE_Mo_feed (Int32 × zM)) zkI res g) (Hw : zWk g) (a0 : Nat) (a1 : Int32) (a2 : Int32) (a3 : Int32) (a4 : Int32) (a5 : Int32) (S : zM) (h : f_Mo_feed a0 a1 a2 a3 a4 a5 S = some res) : g [some (.ref a0), some (.int a1), some (.int a2), some (.int a3), some (.int a4), some (.int a5)] 0 [] S := by
  refine H zc_Mo_feed _ 1000 _ _ _ _ ((r_Mo_feed a0 a1 a2 a3 a4 a5 S).symm.trans h) (fun pc lv st S hK => ?_)
  cases hK
set_option maxRecDepth 100000 in
theorem ok_Mo_feed : zokT 12 [14] false 1 22 6 false (some .int) cX12_feed zP_Mo_feed = true := by decide +kernel
set_option maxRecDepth 100000 in
theorem s_Mo_feed {l : Launch} {HB : Heap} {b L : Nat} {xs : Nat → Int32} {aK aV : Nat → Nat} {G : va_G} {tc : Nat → ClassId} (h0 : zSnd l HB b L xs aK aV G tc (zMT.getD 14 zyD) (fun α => zA_vRI_V 12 f_Mo_laysWord)) : zSnd l HB b L xs aK aV G tc (zMT.getD 15 zyD) (fun α => zA_vRIIIII_I 12 f_Mo_feed) := by
  rw [show zMT.getD 15 zyD = (yX12_feed, cX12_feed, 6, (some .int), 0, 6, 1, 22) from rfl]
  intro α as S k res h
  unfold zA_vRIIIII_I at h
  dsimp only at h
  split at h
  · rename_i a0 a1 a2 a3 a4 a5
    obtain ⟨p, hp, h⟩ := zbind h
    unfold zcl at hp
    split at hp
    · rename_i hkd
      have hm := zmeth (l := l) (HB := HB) (b := b) (L := L) (xs := xs) (aK := aK) (aV := aV) (G := G) (tc := tc) (q := (yX12_feed, cX12_feed, 6, (some .int), 0, 6, 1, 22)) (o := 12) (cs := [14]) (rz := false) (T := zP_Mo_feed) (E := zE_Mo_feed (Int32 × zM)) (kr := zkI) (res := p) (v0 := some (.int p.1)) (S0 := p.2) (as := [.ref a0, .int a1, .int a2, .int a3, .int a4, .int a5]) (S := S) zMT_fine (by decide +kernel) (fun i as S k' h => by
        unfold zE_Mo_feed at h
        rcases zdisf h with ⟨rfl, h⟩ | h
        · exact h0 _ _ _ _ _ h
        cases h) ok_Mo_feed rfl (fun v S' h => zkI_inv h) (Nat.le_of_ble_eq_true rfl) (fun g H Hw => Hw _ [some (.ref a0), some (.int a1), some (.int a2), some (.int a3), some (.int a4), some (.int a5)] _ _ _ ⟨rfl, rfl, rfl, rfl, rfl, rfl, trivial⟩ (G_Mo_feed H Hw a0 a1 a2 a3 a4 a5 S hp))
      exact ⟨_, _, h, hm.1, rfl, fun _ => ⟨_, _, rfl⟩, (fun _ U H hK hH a r e => by cases e; exact zrecv (ci := 12) (by omega) hkd rfl U H hK hH), hm.2⟩
    · cases hp
  · cases h
def zP_Cl_refuse : List (List (Nat × zE)) := [[(0, e1 (.aload_n 0) 1 0), (1, e1 (.iload_n 1) 2 1), (2, e3 (.putfield 112) 5 11 16 0), (5, ei (.iconst (-1)) 6 0 (-1)), (6, e0 (.ireturn) 7)]]
noncomputable def zE_Cl_refuse (α : Type) : Nat → zX α := fun _ => fun _ _ _ => none
def zc_Cl_refuse : Nat → Bool := fun pc => false
set_option maxRecDepth 100000 in
theorem r_Cl_refuse (a0 : Nat) (a1 : Int32) (S : zM) : f_Cl_refuse a0 a1 S = zrt false zP_Cl_refuse (zE_Cl_refuse (Int32 × zM)) zc_Cl_refuse zkI (fun pc lv st S => none) 1000 0 [some (.ref a0), some (.int a1)] [] S := rfl
theorem G_Cl_refuse {g : zV → Nat → List Value → zM → Prop} {res : (Int32 × zM)} (H : zCl false zP_Cl_refuse (zE_Cl_refuse (Int32 × zM)) zkI res g) (Hw : zWk g) (a0 : Nat) (a1 : Int32) (S : zM) (h : f_Cl_refuse a0 a1 S = some res) : g [some (.ref a0), some (.int a1)] 0 [] S := by
  refine H zc_Cl_refuse _ 1000 _ _ _ _ ((r_Cl_refuse a0 a1 S).symm.trans h) (fun pc lv st S hK => ?_)
  cases hK
set_option maxRecDepth 100000 in
theorem ok_Cl_refuse : zokT 11 [] false 0 0 2 false (some .int) cX11_refuse zP_Cl_refuse = true := by decide +kernel
set_option maxRecDepth 100000 in
theorem s_Cl_refuse {l : Launch} {HB : Heap} {b L : Nat} {xs : Nat → Int32} {aK aV : Nat → Nat} {G : va_G} {tc : Nat → ClassId} : zSnd l HB b L xs aK aV G tc (zMT.getD 16 zyD) (fun α => zA_vRI_I 11 f_Cl_refuse) := by
  rw [show zMT.getD 16 zyD = (yX11_refuse, cX11_refuse, 2, (some .int), 0, 2, 0, 0) from rfl]
  intro α as S k res h
  unfold zA_vRI_I at h
  dsimp only at h
  split at h
  · rename_i a0 a1
    obtain ⟨p, hp, h⟩ := zbind h
    unfold zcl at hp
    split at hp
    · rename_i hkd
      have hm := zmeth (l := l) (HB := HB) (b := b) (L := L) (xs := xs) (aK := aK) (aV := aV) (G := G) (tc := tc) (q := (yX11_refuse, cX11_refuse, 2, (some .int), 0, 2, 0, 0)) (o := 11) (cs := []) (rz := false) (T := zP_Cl_refuse) (E := zE_Cl_refuse (Int32 × zM)) (kr := zkI) (res := p) (v0 := some (.int p.1)) (S0 := p.2) (as := [.ref a0, .int a1]) (S := S) zMT_fine (by decide +kernel) (fun i as S k' h => by
        unfold zE_Cl_refuse at h
        cases h) ok_Cl_refuse rfl (fun v S' h => zkI_inv h) (Nat.le_of_ble_eq_true rfl) (fun g H Hw => Hw _ [some (.ref a0), some (.int a1)] _ _ _ ⟨rfl, rfl, trivial⟩ (G_Cl_refuse H Hw a0 a1 S hp))
      exact ⟨_, _, h, hm.1, rfl, fun _ => ⟨_, _, rfl⟩, (fun _ U H hK hH a r e => by cases e; exact zrecv (ci := 11) (by omega) hkd rfl U H hK hH), hm.2⟩
    · cases hp
  · cases h
def zP_Script_drop : List (List (Nat × zE)) := [[(0, e1 (.aload_n 0) 1 0), (1, ei (.iconst 0) 2 0 (0)), (2, e3 (.putfield 26) 5 10 3 0), (5, e1 (.aload_n 0) 6 0), (6, ei (.iconst 0) 7 0 (0)), (7, e3 (.putfield 30) 10 10 4 0), (10, e1 (.aload_n 0) 11 0), (11, ei (.iconst 0) 12 0 (0)), (12, e3 (.putfield 33) 15 10 5 0), (15, e0 (.return_) 16)]]
noncomputable def zE_Script_drop (α : Type) : Nat → zX α := fun _ => fun _ _ _ => none
def zc_Script_drop : Nat → Bool := fun pc => false
set_option maxRecDepth 100000 in
theorem r_Script_drop (a0 : Nat) (S : zM) : f_Script_drop a0 S = zrt false zP_Script_drop (zE_Script_drop zM) zc_Script_drop zkV (fun pc lv st S => none) 1000 0 [some (.ref a0)] [] S := rfl
theorem G_Script_drop {g : zV → Nat → List Value → zM → Prop} {res : zM} (H : zCl false zP_Script_drop (zE_Script_drop zM) zkV res g) (Hw : zWk g) (a0 : Nat) (S : zM) (h : f_Script_drop a0 S = some res) : g [some (.ref a0)] 0 [] S := by
  refine H zc_Script_drop _ 1000 _ _ _ _ ((r_Script_drop a0 S).symm.trans h) (fun pc lv st S hK => ?_)
  cases hK
set_option maxRecDepth 100000 in
theorem ok_Script_drop : zokT 10 [] false 0 0 1 false none cX10_drop zP_Script_drop = true := by decide +kernel
set_option maxRecDepth 100000 in
theorem s_Script_drop {l : Launch} {HB : Heap} {b L : Nat} {xs : Nat → Int32} {aK aV : Nat → Nat} {G : va_G} {tc : Nat → ClassId} : zSnd l HB b L xs aK aV G tc (zMT.getD 17 zyD) (fun α => zA_vR_V 10 f_Script_drop) := by
  rw [show zMT.getD 17 zyD = (yX10_drop, cX10_drop, 1, none, 0, 1, 0, 0) from rfl]
  intro α as S k res h
  unfold zA_vR_V at h
  dsimp only at h
  split at h
  · rename_i a0
    obtain ⟨p, hp, h⟩ := zbind h
    unfold zcl at hp
    split at hp
    · rename_i hkd
      have hm := zmeth (l := l) (HB := HB) (b := b) (L := L) (xs := xs) (aK := aK) (aV := aV) (G := G) (tc := tc) (q := (yX10_drop, cX10_drop, 1, none, 0, 1, 0, 0)) (o := 10) (cs := []) (rz := false) (T := zP_Script_drop) (E := zE_Script_drop zM) (kr := zkV) (res := p) (v0 := none) (S0 := p) (as := [.ref a0]) (S := S) zMT_fine (by decide +kernel) (fun i as S k' h => by
        unfold zE_Script_drop at h
        cases h) ok_Script_drop rfl (fun v S' h => zkV_inv h) (Nat.le_of_ble_eq_true rfl) (fun g H Hw => Hw _ [some (.ref a0)] _ _ _ ⟨rfl, trivial⟩ (G_Script_drop H Hw a0 S hp))
      exact ⟨_, _, h, hm.1, rfl, fun _ => ⟨_, _, rfl⟩, (fun _ U H hK hH a r e => by cases e; exact zrecv (ci := 10) (by omega) hkd rfl U H hK hH), hm.2⟩
    · cases hp
  · cases h
def zP_Reader_sortOf : List (List (Nat × zE)) := [[(0, e1 (.iload_n 0) 1 0), (1, ei (.bipush 97) 3 0 (97)), (3, e1 (.if_icmp .lt 11) 6 14), (6, e1 (.iload_n 0) 7 0), (7, ei (.bipush 122) 9 0 (122)), (9, e1 (.if_icmp .gt 5) 12 14), (12, ei (.iconst 1) 13 0 (1)), (13, e0 (.ireturn) 14), (14, e1 (.iload_n 0) 15 0), (15, ei (.bipush 48) 17 0 (48))],
  [(17, e1 (.if_icmp .lt 11) 20 28), (20, e1 (.iload_n 0) 21 0), (21, ei (.bipush 57) 23 0 (57)), (23, e1 (.if_icmp .gt 5) 26 28), (26, ei (.iconst 2) 27 0 (2)), (27, e0 (.ireturn) 28), (28, e1 (.iload_n 0) 29 0), (29, ei (.bipush 59) 31 0 (59)), (31, e1 (.if_icmp .ne 7) 34 38)],
  [(34, ei (.iconst 3) 35 0 (3)), (35, e1 (.goto 4) 38 39), (38, ei (.iconst 4) 39 0 (4)), (39, e0 (.ireturn) 40)]]
noncomputable def zE_Reader_sortOf (α : Type) : Nat → zX α := fun _ => fun _ _ _ => none
def zc_Reader_sortOf : Nat → Bool := fun pc => false
set_option maxRecDepth 100000 in
theorem r_Reader_sortOf (a0 : Int32) (S : zM) : f_Reader_sortOf a0 S = zrt false zP_Reader_sortOf (zE_Reader_sortOf (Int32 × zM)) zc_Reader_sortOf zkI (fun pc lv st S => none) 1000 0 [some (.int a0)] [] S := rfl
theorem G_Reader_sortOf {g : zV → Nat → List Value → zM → Prop} {res : (Int32 × zM)} (H : zCl false zP_Reader_sortOf (zE_Reader_sortOf (Int32 × zM)) zkI res g) (Hw : zWk g) (a0 : Int32) (S : zM) (h : f_Reader_sortOf a0 S = some res) : g [some (.int a0)] 0 [] S := by
  refine H zc_Reader_sortOf _ 1000 _ _ _ _ ((r_Reader_sortOf a0 S).symm.trans h) (fun pc lv st S hK => ?_)
  cases hK
set_option maxRecDepth 100000 in
theorem ok_Reader_sortOf : zokT 7 [] false 0 0 1 false (some .int) cX7_sortOf zP_Reader_sortOf = true := by decide +kernel
set_option maxRecDepth 100000 in
theorem s_Reader_sortOf {l : Launch} {HB : Heap} {b L : Nat} {xs : Nat → Int32} {aK aV : Nat → Nat} {G : va_G} {tc : Nat → ClassId} : zSnd l HB b L xs aK aV G tc (zMT.getD 18 zyD) (fun α => zA_I_I f_Reader_sortOf) := by
  rw [show zMT.getD 18 zyD = (yX7_sortOf, cX7_sortOf, 1, (some .int), 1, 1, 0, 0) from rfl]
  intro α as S k res h
  unfold zA_I_I at h
  dsimp only at h
  split at h
  · rename_i a0
    obtain ⟨p, hp, h⟩ := zbind h
    have hm := zmeth (l := l) (HB := HB) (b := b) (L := L) (xs := xs) (aK := aK) (aV := aV) (G := G) (tc := tc) (q := (yX7_sortOf, cX7_sortOf, 1, (some .int), 1, 1, 0, 0)) (o := 7) (cs := []) (rz := false) (T := zP_Reader_sortOf) (E := zE_Reader_sortOf (Int32 × zM)) (kr := zkI) (res := p) (v0 := some (.int p.1)) (S0 := p.2) (as := [.int a0]) (S := S) zMT_fine (by decide +kernel) (fun i as S k' h => by
      unfold zE_Reader_sortOf at h
      cases h) ok_Reader_sortOf rfl (fun v S' h => zkI_inv h) (Nat.le_of_ble_eq_true rfl) (fun g H Hw => Hw _ [some (.int a0)] _ _ _ ⟨rfl, trivial⟩ (G_Reader_sortOf H Hw a0 S hp))
    exact ⟨_, _, h, hm.1, rfl, fun q => absurd rfl q, (fun q => by cases q), hm.2⟩
  · cases h
def zP_Reader_next : List (List (Nat × zE)) := [[(0, e1 (.aload_n 0) 1 0), (1, e3 (.getfield 28) 4 7 2 0), (4, e1 (.aload_n 0) 5 0), (5, e3 (.getfield 24) 8 7 1 0), (8, e1 (.if_icmp .ge 30) 11 38), (11, e1 (.aload_n 0) 12 0), (12, e3 (.getfield 9) 15 7 0 2), (15, e1 (.aload_n 0) 16 0)],
  [(16, e3 (.getfield 28) 19 7 2 0), (19, e0 (.iaload) 20), (20, ei (.bipush 32) 22 0 (32)), (22, e1 (.if_icmp .ne 16) 25 38), (25, e1 (.aload_n 0) 26 0), (26, e0 (.dup) 27), (27, e3 (.getfield 28) 30 7 2 0), (30, ei (.iconst 1) 31 0 (1)), (31, e0 (.iadd) 32)],
  [(32, e3 (.putfield 28) 35 7 2 0), (35, e1 (.goto (-35)) 38 0), (38, e1 (.aload_n 0) 39 0), (39, e1 (.aload_n 0) 40 0), (40, e3 (.getfield 28) 43 7 2 0), (43, e3 (.putfield 58) 46 7 6 0), (46, e1 (.aload_n 0) 47 0), (47, e3 (.getfield 28) 50 7 2 0)],
  [(50, e1 (.aload_n 0) 51 0), (51, e3 (.getfield 24) 54 7 1 0), (54, e1 (.if_icmp .lt 9) 57 63), (57, e1 (.aload_n 0) 58 0), (58, ei (.iconst 0) 59 0 (0)), (59, e3 (.putfield 51) 62 7 5 0), (62, e0 (.return_) 63), (63, e1 (.aload_n 0) 64 0)],
  [(64, e1 (.aload_n 0) 65 0), (65, e3 (.getfield 9) 68 7 0 2), (68, e1 (.aload_n 0) 69 0), (69, e3 (.getfield 28) 72 7 2 0), (72, e0 (.iaload) 73), (73, e3 (.invokestatic 187) 76 0 1 0), (76, e3 (.putfield 51) 79 7 5 0), (79, e1 (.aload_n 0) 80 0)],
  [(80, e0 (.dup) 81), (81, e3 (.getfield 28) 84 7 2 0), (84, ei (.iconst 1) 85 0 (1)), (85, e0 (.iadd) 86), (86, e3 (.putfield 28) 89 7 2 0), (89, e1 (.aload_n 0) 90 0), (90, e3 (.getfield 51) 93 7 5 0), (93, ei (.iconst 1) 94 0 (1)), (94, e1 (.if_icmp .eq 12) 97 106)],
  [(97, e1 (.aload_n 0) 98 0), (98, e3 (.getfield 51) 101 7 5 0), (101, ei (.iconst 2) 102 0 (2)), (102, e1 (.if_icmp .eq 4) 105 106), (105, e0 (.return_) 106), (106, e1 (.aload_n 0) 107 0), (107, e3 (.getfield 28) 110 7 2 0), (110, e1 (.aload_n 0) 111 0), (111, e3 (.getfield 24) 114 7 1 0)],
  [(114, e1 (.if_icmp .ge 35) 117 149), (117, e1 (.aload_n 0) 118 0), (118, e3 (.getfield 9) 121 7 0 2), (121, e1 (.aload_n 0) 122 0), (122, e3 (.getfield 28) 125 7 2 0), (125, e0 (.iaload) 126), (126, e3 (.invokestatic 187) 129 0 1 0)],
  [(129, e1 (.aload_n 0) 130 0), (130, e3 (.getfield 51) 133 7 5 0), (133, e1 (.if_icmp .ne 16) 136 149), (136, e1 (.aload_n 0) 137 0), (137, e0 (.dup) 138), (138, e3 (.getfield 28) 141 7 2 0), (141, ei (.iconst 1) 142 0 (1)), (142, e0 (.iadd) 143), (143, e3 (.putfield 28) 146 7 2 0)],
  [(146, e1 (.goto (-40)) 149 106), (149, e1 (.aload_n 0) 150 0), (150, e3 (.getfield 28) 153 7 2 0), (153, e1 (.aload_n 0) 154 0), (154, e3 (.getfield 58) 157 7 6 0), (157, e0 (.isub) 158), (158, e1 (.aload_n 0) 159 0), (159, e3 (.getfield 51) 162 7 5 0)],
  [(162, ei (.iconst 1) 163 0 (1)), (163, e1 (.if_icmp .ne 8) 166 171), (166, ei (.bipush 7) 168 0 (7)), (168, e1 (.goto 4) 171 172), (171, ei (.iconst 1) 172 0 (1)), (172, e1 (.if_icmp .le 8) 175 180), (175, e1 (.aload_n 0) 176 0)],
  [(176, ei (.iconst 4) 177 0 (4)), (177, e3 (.putfield 51) 180 7 5 0), (180, e0 (.return_) 181)]]
noncomputable def zE_Reader_next (α : Type) : Nat → zX α := fun i => bif Nat.beq i 0 then zA_I_I f_Reader_sortOf else fun _ _ _ => none
def zc_Reader_next : Nat → Bool := fun pc => Nat.beq pc 0 || Nat.beq pc 38 || Nat.beq pc 106 || Nat.beq pc 149
def D_Reader_next_0 (k : Nat → zM → Option zM) (lv : zV) (st : List Value) (S : zM) : Option zM := match lv, st with
  | [some (.ref a0)], [] => k a0 S
  | _, _ => none
theorem d_Reader_next_0 {g : zV → Nat → List Value → zM → Prop} (Hw : zWk g) {k : Nat → zM → Option zM} {res : zM} {lv : zV} {st : List Value} {S : zM} (h : D_Reader_next_0 k lv st S = some res) (hk : ∀ a0 S, k a0 S = some res → g [some (.ref a0)] 0 [] S) : g lv 0 st S := by
  unfold D_Reader_next_0 at h
  split at h
  · exact Hw _ _ _ _ _ (by simp [zle]) (hk _ _  h)
  · cases h
def D_Reader_next_38 (k : Nat → zM → Option zM) (lv : zV) (st : List Value) (S : zM) : Option zM := match lv, st with
  | [some (.ref a0)], [] => k a0 S
  | _, _ => none
theorem d_Reader_next_38 {g : zV → Nat → List Value → zM → Prop} (Hw : zWk g) {k : Nat → zM → Option zM} {res : zM} {lv : zV} {st : List Value} {S : zM} (h : D_Reader_next_38 k lv st S = some res) (hk : ∀ a0 S, k a0 S = some res → g [some (.ref a0)] 38 [] S) : g lv 38 st S := by
  unfold D_Reader_next_38 at h
  split at h
  · exact Hw _ _ _ _ _ (by simp [zle]) (hk _ _  h)
  · cases h
def D_Reader_next_106 (k : Nat → zM → Option zM) (lv : zV) (st : List Value) (S : zM) : Option zM := match lv, st with
  | [some (.ref a0)], [] => k a0 S
  | _, _ => none
theorem d_Reader_next_106 {g : zV → Nat → List Value → zM → Prop} (Hw : zWk g) {k : Nat → zM → Option zM} {res : zM} {lv : zV} {st : List Value} {S : zM} (h : D_Reader_next_106 k lv st S = some res) (hk : ∀ a0 S, k a0 S = some res → g [some (.ref a0)] 106 [] S) : g lv 106 st S := by
  unfold D_Reader_next_106 at h
  split at h
  · exact Hw _ _ _ _ _ (by simp [zle]) (hk _ _  h)
  · cases h
def D_Reader_next_149 (k : Nat → zM → Option zM) (lv : zV) (st : List Value) (S : zM) : Option zM := match lv, st with
  | [some (.ref a0)], [] => k a0 S
  | _, _ => none
theorem d_Reader_next_149 {g : zV → Nat → List Value → zM → Prop} (Hw : zWk g) {k : Nat → zM → Option zM} {res : zM} {lv : zV} {st : List Value} {S : zM} (h : D_Reader_next_149 k lv st S = some res) (hk : ∀ a0 S, k a0 S = some res → g [some (.ref a0)] 149 [] S) : g lv 149 st S := by
  unfold D_Reader_next_149 at h
  split at h
  · exact Hw _ _ _ _ _ (by simp [zle]) (hk _ _  h)
  · cases h
set_option maxRecDepth 100000 in
theorem r_Reader_next_149 (a0 : Nat) (S : zM) : F_Reader_next_149 a0 S = zrt false zP_Reader_next (zE_Reader_next zM) zc_Reader_next zkV (fun pc lv st S => none) 1000 149 [some (.ref a0)] [] S := rfl
theorem g_Reader_next_149 {g : zV → Nat → List Value → zM → Prop} {res : zM} (H : zCl false zP_Reader_next (zE_Reader_next zM) zkV res g) (Hw : zWk g) (a0 : Nat) (S : zM) (h : F_Reader_next_149 a0 S = some res) : g [some (.ref a0)] 149 [] S := by
  refine H zc_Reader_next _ 1000 _ _ _ _ ((r_Reader_next_149 a0 S).symm.trans h) (fun pc lv st S hK => ?_)
  cases hK
set_option maxRecDepth 100000 in
theorem r_Reader_next_106 (k149 : Nat → zM → Option zM) (n : Nat) (a0 : Nat) (S : zM) : L_Reader_next_106 k149 (n + 1) a0 S = zrt false zP_Reader_next (zE_Reader_next zM) zc_Reader_next zkV (fun pc lv st S => bif Nat.beq pc 106 then D_Reader_next_106 (L_Reader_next_106 k149 n) lv st S else bif Nat.beq pc 149 then D_Reader_next_149 k149 lv st S else none) 1000 106 [some (.ref a0)] [] S := rfl
theorem g_Reader_next_106 {g : zV → Nat → List Value → zM → Prop} {res : zM} (H : zCl false zP_Reader_next (zE_Reader_next zM) zkV res g) (Hw : zWk g) {k149 : Nat → zM → Option zM} (hk149 : ∀ a0 S, k149 a0 S = some res → g [some (.ref a0)] 149 [] S) (n : Nat) : ∀ (a0 : Nat) (S : zM), L_Reader_next_106 k149 n a0 S = some res → g [some (.ref a0)] 106 [] S := by
  induction n with
  | zero => intro a0 S h; cases h
  | succ n ih =>
    intro a0 S h
    refine H zc_Reader_next _ 1000 _ _ _ _ ((r_Reader_next_106 k149 n a0 S).symm.trans h) (fun pc lv st S hK => ?_)
    rcases zdis hK with ⟨rfl, hK⟩ | hK
    · exact d_Reader_next_106 Hw hK ih
    rcases zdis hK with ⟨rfl, hK⟩ | hK
    · exact d_Reader_next_149 Hw hK hk149
    cases hK
set_option maxRecDepth 100000 in
theorem r_Reader_next_38 (k106 : Nat → zM → Option zM) (a0 : Nat) (S : zM) : F_Reader_next_38 k106 a0 S = zrt false zP_Reader_next (zE_Reader_next zM) zc_Reader_next zkV (fun pc lv st S => bif Nat.beq pc 106 then D_Reader_next_106 k106 lv st S else none) 1000 38 [some (.ref a0)] [] S := rfl
theorem g_Reader_next_38 {g : zV → Nat → List Value → zM → Prop} {res : zM} (H : zCl false zP_Reader_next (zE_Reader_next zM) zkV res g) (Hw : zWk g) {k106 : Nat → zM → Option zM} (hk106 : ∀ a0 S, k106 a0 S = some res → g [some (.ref a0)] 106 [] S) (a0 : Nat) (S : zM) (h : F_Reader_next_38 k106 a0 S = some res) : g [some (.ref a0)] 38 [] S := by
  refine H zc_Reader_next _ 1000 _ _ _ _ ((r_Reader_next_38 k106 a0 S).symm.trans h) (fun pc lv st S hK => ?_)
  rcases zdis hK with ⟨rfl, hK⟩ | hK
  · exact d_Reader_next_106 Hw hK hk106
  cases hK
set_option maxRecDepth 100000 in
theorem r_Reader_next_0 (k38 : Nat → zM → Option zM) (n : Nat) (a0 : Nat) (S : zM) : L_Reader_next_0 k38 (n + 1) a0 S = zrt false zP_Reader_next (zE_Reader_next zM) zc_Reader_next zkV (fun pc lv st S => bif Nat.beq pc 0 then D_Reader_next_0 (L_Reader_next_0 k38 n) lv st S else bif Nat.beq pc 38 then D_Reader_next_38 k38 lv st S else none) 1000 0 [some (.ref a0)] [] S := rfl
theorem g_Reader_next_0 {g : zV → Nat → List Value → zM → Prop} {res : zM} (H : zCl false zP_Reader_next (zE_Reader_next zM) zkV res g) (Hw : zWk g) {k38 : Nat → zM → Option zM} (hk38 : ∀ a0 S, k38 a0 S = some res → g [some (.ref a0)] 38 [] S) (n : Nat) : ∀ (a0 : Nat) (S : zM), L_Reader_next_0 k38 n a0 S = some res → g [some (.ref a0)] 0 [] S := by
  induction n with
  | zero => intro a0 S h; cases h
  | succ n ih =>
    intro a0 S h
    refine H zc_Reader_next _ 1000 _ _ _ _ ((r_Reader_next_0 k38 n a0 S).symm.trans h) (fun pc lv st S hK => ?_)
    rcases zdis hK with ⟨rfl, hK⟩ | hK
    · exact d_Reader_next_0 Hw hK ih
    rcases zdis hK with ⟨rfl, hK⟩ | hK
    · exact d_Reader_next_38 Hw hK hk38
    cases hK
theorem G_Reader_next {g : zV → Nat → List Value → zM → Prop} {res : zM} (H : zCl false zP_Reader_next (zE_Reader_next zM) zkV res g) (Hw : zWk g) (a0 : Nat) (S : zM) (h : f_Reader_next a0 S = some res) : g [some (.ref a0)] 0 [] S := by
  refine Hw _ [some (.ref a0)] _ _ _ (by simp [zle]) ((g_Reader_next_0 H Hw (g_Reader_next_38 H Hw (g_Reader_next_106 H Hw (g_Reader_next_149 H Hw ) zF)) zF) a0 S h)
set_option maxRecDepth 100000 in
theorem ok_Reader_next : zokT 7 [18] false 1 20 1 false none cX7_next zP_Reader_next = true := by decide +kernel
set_option maxRecDepth 100000 in
theorem s_Reader_next {l : Launch} {HB : Heap} {b L : Nat} {xs : Nat → Int32} {aK aV : Nat → Nat} {G : va_G} {tc : Nat → ClassId} (h0 : zSnd l HB b L xs aK aV G tc (zMT.getD 18 zyD) (fun α => zA_I_I f_Reader_sortOf)) : zSnd l HB b L xs aK aV G tc (zMT.getD 19 zyD) (fun α => zA_vR_V 7 f_Reader_next) := by
  rw [show zMT.getD 19 zyD = (yX7_next, cX7_next, 1, none, 0, 1, 1, 20) from rfl]
  intro α as S k res h
  unfold zA_vR_V at h
  dsimp only at h
  split at h
  · rename_i a0
    obtain ⟨p, hp, h⟩ := zbind h
    unfold zcl at hp
    split at hp
    · rename_i hkd
      have hm := zmeth (l := l) (HB := HB) (b := b) (L := L) (xs := xs) (aK := aK) (aV := aV) (G := G) (tc := tc) (q := (yX7_next, cX7_next, 1, none, 0, 1, 1, 20)) (o := 7) (cs := [18]) (rz := false) (T := zP_Reader_next) (E := zE_Reader_next zM) (kr := zkV) (res := p) (v0 := none) (S0 := p) (as := [.ref a0]) (S := S) zMT_fine (by decide +kernel) (fun i as S k' h => by
        unfold zE_Reader_next at h
        rcases zdisf h with ⟨rfl, h⟩ | h
        · exact h0 _ _ _ _ _ h
        cases h) ok_Reader_next rfl (fun v S' h => zkV_inv h) (Nat.le_of_ble_eq_true rfl) (fun g H Hw => Hw _ [some (.ref a0)] _ _ _ ⟨rfl, trivial⟩ (G_Reader_next H Hw a0 S hp))
      exact ⟨_, _, h, hm.1, rfl, fun _ => ⟨_, _, rfl⟩, (fun _ U H hK hH a r e => by cases e; exact zrecv (ci := 7) (by omega) hkd rfl U H hK hH), hm.2⟩
    · cases hp
  · cases h
def zP_Reader_byteAt : List (List (Nat × zE)) := [[(0, e1 (.iload_n 1) 1 1), (1, e1 (.ifCond .lt 20) 4 21), (4, e1 (.iload_n 1) 5 1), (5, e1 (.aload_n 0) 6 0), (6, e3 (.getfield 24) 9 7 1 0), (9, e1 (.if_icmp .ge 12) 12 21), (12, e1 (.iload_n 1) 13 1), (13, e1 (.aload_n 0) 14 0), (14, e3 (.getfield 9) 17 7 0 2)],
  [(17, e0 (.arraylength) 18), (18, e1 (.if_icmp .lt 7) 21 25), (21, ei (.iconst 0) 22 0 (0)), (22, e1 (.goto 9) 25 31), (25, e1 (.aload_n 0) 26 0), (26, e3 (.getfield 9) 29 7 0 2), (29, e1 (.iload_n 1) 30 1), (30, e0 (.iaload) 31), (31, e0 (.ireturn) 32)]]
noncomputable def zE_Reader_byteAt (α : Type) : Nat → zX α := fun _ => fun _ _ _ => none
def zc_Reader_byteAt : Nat → Bool := fun pc => false
set_option maxRecDepth 100000 in
theorem r_Reader_byteAt (a0 : Nat) (a1 : Int32) (S : zM) : f_Reader_byteAt a0 a1 S = zrt false zP_Reader_byteAt (zE_Reader_byteAt (Int32 × zM)) zc_Reader_byteAt zkI (fun pc lv st S => none) 1000 0 [some (.ref a0), some (.int a1)] [] S := rfl
theorem G_Reader_byteAt {g : zV → Nat → List Value → zM → Prop} {res : (Int32 × zM)} (H : zCl false zP_Reader_byteAt (zE_Reader_byteAt (Int32 × zM)) zkI res g) (Hw : zWk g) (a0 : Nat) (a1 : Int32) (S : zM) (h : f_Reader_byteAt a0 a1 S = some res) : g [some (.ref a0), some (.int a1)] 0 [] S := by
  refine H zc_Reader_byteAt _ 1000 _ _ _ _ ((r_Reader_byteAt a0 a1 S).symm.trans h) (fun pc lv st S hK => ?_)
  cases hK
set_option maxRecDepth 100000 in
theorem ok_Reader_byteAt : zokT 7 [] false 0 0 2 false (some .int) cX7_byteAt zP_Reader_byteAt = true := by decide +kernel
set_option maxRecDepth 100000 in
theorem s_Reader_byteAt {l : Launch} {HB : Heap} {b L : Nat} {xs : Nat → Int32} {aK aV : Nat → Nat} {G : va_G} {tc : Nat → ClassId} : zSnd l HB b L xs aK aV G tc (zMT.getD 21 zyD) (fun α => zA_vRI_I 7 f_Reader_byteAt) := by
  rw [show zMT.getD 21 zyD = (yX7_byteAt, cX7_byteAt, 2, (some .int), 0, 2, 0, 0) from rfl]
  intro α as S k res h
  unfold zA_vRI_I at h
  dsimp only at h
  split at h
  · rename_i a0 a1
    obtain ⟨p, hp, h⟩ := zbind h
    unfold zcl at hp
    split at hp
    · rename_i hkd
      have hm := zmeth (l := l) (HB := HB) (b := b) (L := L) (xs := xs) (aK := aK) (aV := aV) (G := G) (tc := tc) (q := (yX7_byteAt, cX7_byteAt, 2, (some .int), 0, 2, 0, 0)) (o := 7) (cs := []) (rz := false) (T := zP_Reader_byteAt) (E := zE_Reader_byteAt (Int32 × zM)) (kr := zkI) (res := p) (v0 := some (.int p.1)) (S0 := p.2) (as := [.ref a0, .int a1]) (S := S) zMT_fine (by decide +kernel) (fun i as S k' h => by
        unfold zE_Reader_byteAt at h
        cases h) ok_Reader_byteAt rfl (fun v S' h => zkI_inv h) (Nat.le_of_ble_eq_true rfl) (fun g H Hw => Hw _ [some (.ref a0), some (.int a1)] _ _ _ ⟨rfl, rfl, trivial⟩ (G_Reader_byteAt H Hw a0 a1 S hp))
      exact ⟨_, _, h, hm.1, rfl, fun _ => ⟨_, _, rfl⟩, (fun _ U H hK hH a r e => by cases e; exact zrecv (ci := 7) (by omega) hkd rfl U H hK hH), hm.2⟩
    · cases hp
  · cases h
def zP_Reader_is : List (List (Nat × zE)) := [[(0, e1 (.aload_n 0) 1 0), (1, e3 (.getfield 51) 4 7 5 0), (4, ei (.iconst 1) 5 0 (1)), (5, e1 (.if_icmp .ne 19) 8 24), (8, e1 (.aload_n 0) 9 0), (9, e3 (.getfield 28) 12 7 2 0), (12, e1 (.aload_n 0) 13 0), (13, e3 (.getfield 58) 16 7 6 0)],
  [(16, e0 (.isub) 17), (17, e1 (.aload_n 1) 18 1), (18, e3 (.invokevirtual 190) 21 0 1 0), (21, e1 (.if_icmp .eq 5) 24 26), (24, ei (.iconst 0) 25 0 (0)), (25, e0 (.ireturn) 26), (26, ei (.iconst 0) 27 0 (0)), (27, e1 (.istore_n 2) 28 2), (28, e1 (.iload_n 2) 29 2), (29, e1 (.aload_n 1) 30 1), (30, e3 (.invokevirtual 190) 33 0 1 0)],
  [(33, e1 (.if_icmp .ge 29) 36 62), (36, e1 (.aload_n 0) 37 0), (37, e1 (.aload_n 0) 38 0), (38, e3 (.getfield 58) 41 7 6 0), (41, e1 (.iload_n 2) 42 2), (42, e0 (.iadd) 43), (43, e3 (.invokevirtual 91) 46 1 2 0), (46, e1 (.aload_n 1) 47 1), (47, e1 (.iload_n 2) 48 2)],
  [(48, e3 (.invokevirtual 195) 51 2 2 0), (51, e1 (.if_icmp .eq 5) 54 56), (54, ei (.iconst 0) 55 0 (0)), (55, e0 (.ireturn) 56), (56, ei (.iinc 2 1) 59 2 (1)), (59, e1 (.goto (-31)) 62 28), (62, ei (.iconst 1) 63 0 (1)), (63, e0 (.ireturn) 64)]]
noncomputable def zE_Reader_is (α : Type) : Nat → zX α := fun i => bif Nat.beq i 0 then zA_R_I f_J_length else bif Nat.beq i 1 then zA_vRI_I 7 f_Reader_byteAt else bif Nat.beq i 2 then zA_RI_I f_J_charAt else fun _ _ _ => none
def zc_Reader_is : Nat → Bool := fun pc => Nat.beq pc 28
def D_Reader_is_28 (k : Nat → Nat → Int32 → zM → Option (Int32 × zM)) (lv : zV) (st : List Value) (S : zM) : Option (Int32 × zM) := match lv, st with
  | [some (.ref a0), some (.ref a1), some (.int a2)], [] => k a0 a1 a2 S
  | _, _ => none
theorem d_Reader_is_28 {g : zV → Nat → List Value → zM → Prop} (Hw : zWk g) {k : Nat → Nat → Int32 → zM → Option (Int32 × zM)} {res : (Int32 × zM)} {lv : zV} {st : List Value} {S : zM} (h : D_Reader_is_28 k lv st S = some res) (hk : ∀ a0 a1 a2 S, k a0 a1 a2 S = some res → g [some (.ref a0), some (.ref a1), some (.int a2)] 28 [] S) : g lv 28 st S := by
  unfold D_Reader_is_28 at h
  split at h
  · exact Hw _ _ _ _ _ (by simp [zle]) (hk _ _ _ _  h)
  · cases h
set_option maxRecDepth 100000 in
theorem r_Reader_is_28 (n : Nat) (a0 : Nat) (a1 : Nat) (a2 : Int32) (S : zM) : L_Reader_is_28 (n + 1) a0 a1 a2 S = zrt true zP_Reader_is (zE_Reader_is (Int32 × zM)) zc_Reader_is zkI (fun pc lv st S => bif Nat.beq pc 28 then D_Reader_is_28 (L_Reader_is_28 n) lv st S else none) 1000 28 [some (.ref a0), some (.ref a1), some (.int a2)] [] S := rfl
theorem g_Reader_is_28 {g : zV → Nat → List Value → zM → Prop} {res : (Int32 × zM)} (H : zCl true zP_Reader_is (zE_Reader_is (Int32 × zM)) zkI res g) (Hw : zWk g) (n : Nat) : ∀ (a0 : Nat) (a1 : Nat) (a2 : Int32) (S : zM), L_Reader_is_28 n a0 a1 a2 S = some res → g [some (.ref a0), some (.ref a1), some (.int a2)] 28 [] S := by
  induction n with
  | zero => intro a0 a1 a2 S h; cases h
  | succ n ih =>
    intro a0 a1 a2 S h
    refine H zc_Reader_is _ 1000 _ _ _ _ ((r_Reader_is_28 n a0 a1 a2 S).symm.trans h) (fun pc lv st S hK => ?_)
    rcases zdis hK with ⟨rfl, hK⟩ | hK
    · exact d_Reader_is_28 Hw hK ih
    cases hK
set_option maxRecDepth 100000 in
theorem r_Reader_is (a0 : Nat) (a1 : Nat) (S : zM) : f_Reader_is a0 a1 S = zrt true zP_Reader_is (zE_Reader_is (Int32 × zM)) zc_Reader_is zkI (fun pc lv st S => bif Nat.beq pc 28 then D_Reader_is_28 (L_Reader_is_28 zF) lv st S else none) 1000 0 [some (.ref a0), some (.ref a1), none] [] S := rfl
theorem G_Reader_is {g : zV → Nat → List Value → zM → Prop} {res : (Int32 × zM)} (H : zCl true zP_Reader_is (zE_Reader_is (Int32 × zM)) zkI res g) (Hw : zWk g) (a0 : Nat) (a1 : Nat) (S : zM) (h : f_Reader_is a0 a1 S = some res) : g [some (.ref a0), some (.ref a1), none] 0 [] S := by
  refine H zc_Reader_is _ 1000 _ _ _ _ ((r_Reader_is a0 a1 S).symm.trans h) (fun pc lv st S hK => ?_)
  rcases zdis hK with ⟨rfl, hK⟩ | hK
  · exact d_Reader_is_28 Hw hK (g_Reader_is_28 H Hw  zF)
  cases hK
set_option maxRecDepth 100000 in
theorem ok_Reader_is : zokT 7 [20, 21, 22] false 5 151 3 true (some .boolean) cX7_is zP_Reader_is = true := by decide +kernel
set_option maxRecDepth 100000 in
theorem s_Reader_is {l : Launch} {HB : Heap} {b L : Nat} {xs : Nat → Int32} {aK aV : Nat → Nat} {G : va_G} {tc : Nat → ClassId} (h0 : zSnd l HB b L xs aK aV G tc (zMT.getD 20 zyD) (fun α => zA_R_I f_J_length)) (h1 : zSnd l HB b L xs aK aV G tc (zMT.getD 21 zyD) (fun α => zA_vRI_I 7 f_Reader_byteAt)) (h2 : zSnd l HB b L xs aK aV G tc (zMT.getD 22 zyD) (fun α => zA_RI_I f_J_charAt)) : zSnd l HB b L xs aK aV G tc (zMT.getD 23 zyD) (fun α => zA_vRR_I 7 f_Reader_is) := by
  rw [show zMT.getD 23 zyD = (yX7_is, cX7_is, 3, (some .boolean), 0, 2, 5, 151) from rfl]
  intro α as S k res h
  unfold zA_vRR_I at h
  dsimp only at h
  split at h
  · rename_i a0 a1
    obtain ⟨p, hp, h⟩ := zbind h
    unfold zcl at hp
    split at hp
    · rename_i hkd
      have hm := zmeth (l := l) (HB := HB) (b := b) (L := L) (xs := xs) (aK := aK) (aV := aV) (G := G) (tc := tc) (q := (yX7_is, cX7_is, 3, (some .boolean), 0, 2, 5, 151)) (o := 7) (cs := [20, 21, 22]) (rz := true) (T := zP_Reader_is) (E := zE_Reader_is (Int32 × zM)) (kr := zkI) (res := p) (v0 := some (.int p.1)) (S0 := p.2) (as := [.ref a0, .ref a1]) (S := S) zMT_fine (by decide +kernel) (fun i as S k' h => by
        unfold zE_Reader_is at h
        rcases zdisf h with ⟨rfl, h⟩ | h
        · exact h0 _ _ _ _ _ h
        rcases zdisf h with ⟨rfl, h⟩ | h
        · exact h1 _ _ _ _ _ h
        rcases zdisf h with ⟨rfl, h⟩ | h
        · exact h2 _ _ _ _ _ h
        cases h) ok_Reader_is rfl (fun v S' h => zkI_inv h) (Nat.le_of_ble_eq_true rfl) (fun g H Hw => Hw _ [some (.ref a0), some (.ref a1), none] _ _ _ ⟨rfl, rfl, trivial⟩ (G_Reader_is H Hw a0 a1 S hp))
      exact ⟨_, _, h, hm.1, rfl, fun _ => ⟨_, _, rfl⟩, (fun _ U H hK hH a r e => by cases e; exact zrecv (ci := 7) (by omega) hkd rfl U H hK hH), hm.2⟩
    · cases hp
  · cases h
def zP_Reader_scriptLine : List (List (Nat × zE)) := [[(0, e1 (.aload_n 0) 1 0), (1, e3 (.invokevirtual 44) 4 0 1 0), (4, e1 (.aload_n 0) 5 0), (5, e3 (.ldc 89) 7 1 4 0), (7, e3 (.invokevirtual 68) 10 1 2 0), (10, e1 (.ifCond .ne 5) 13 15), (13, ei (.iconst 1) 14 0 (1)), (14, e0 (.ireturn) 15), (15, e1 (.aload_n 0) 16 0)],
  [(16, e3 (.invokevirtual 44) 19 0 1 0), (19, e1 (.aload_n 0) 20 0), (20, e3 (.getfield 51) 23 7 5 0), (23, ei (.iconst 2) 24 0 (2)), (24, e1 (.if_icmp .eq 5) 27 29), (27, ei (.iconst 1) 28 0 (1)), (28, e0 (.ireturn) 29), (29, e1 (.aload_n 0) 30 0), (30, e1 (.aload_n 0) 31 0), (31, e3 (.getfield 58) 34 7 6 0)],
  [(34, e3 (.invokevirtual 91) 37 2 2 0), (37, ei (.bipush 48) 39 0 (48)), (39, e0 (.isub) 40), (40, e1 (.istore_n 1) 41 1), (41, e1 (.iload_n 1) 42 1), (42, ei (.iconst 2) 43 0 (2)), (43, e1 (.if_icmp .lt 8) 46 51), (46, e1 (.iload_n 1) 47 1), (47, ei (.iconst 4) 48 0 (4))],
  [(48, e1 (.if_icmp .le 5) 51 53), (51, ei (.iconst 2) 52 0 (2)), (52, e0 (.ireturn) 53), (53, e1 (.aload_n 0) 54 0), (54, e3 (.getfield 31) 57 7 3 2), (57, e1 (.iload_n 1) 58 1), (58, e3 (.putfield 95) 61 10 3 0), (61, e1 (.aload_n 0) 62 0), (62, e3 (.invokevirtual 44) 65 0 1 0)],
  [(65, ei (.iconst 0) 66 0 (0)), (66, e0 (.ireturn) 67)]]
noncomputable def zE_Reader_scriptLine (α : Type) : Nat → zX α := fun i => bif Nat.beq i 0 then zA_vR_V 7 f_Reader_next else bif Nat.beq i 1 then zA_vRR_I 7 f_Reader_is else bif Nat.beq i 2 then zA_vRI_I 7 f_Reader_byteAt else fun _ _ _ => none
def zc_Reader_scriptLine : Nat → Bool := fun pc => false
set_option maxRecDepth 100000 in
theorem r_Reader_scriptLine (a0 : Nat) (S : zM) : f_Reader_scriptLine a0 S = zrt false zP_Reader_scriptLine (zE_Reader_scriptLine (Int32 × zM)) zc_Reader_scriptLine zkI (fun pc lv st S => none) 1000 0 [some (.ref a0), none] [] S := rfl
theorem G_Reader_scriptLine {g : zV → Nat → List Value → zM → Prop} {res : (Int32 × zM)} (H : zCl false zP_Reader_scriptLine (zE_Reader_scriptLine (Int32 × zM)) zkI res g) (Hw : zWk g) (a0 : Nat) (S : zM) (h : f_Reader_scriptLine a0 S = some res) : g [some (.ref a0), none] 0 [] S := by
  refine H zc_Reader_scriptLine _ 1000 _ _ _ _ ((r_Reader_scriptLine a0 S).symm.trans h) (fun pc lv st S hK => ?_)
  cases hK
set_option maxRecDepth 100000 in
theorem ok_Reader_scriptLine : zokT 7 [19, 23, 21] false 6 173 2 false (some .int) cX7_scriptLine zP_Reader_scriptLine = true := by decide +kernel
set_option maxRecDepth 100000 in
theorem s_Reader_scriptLine {l : Launch} {HB : Heap} {b L : Nat} {xs : Nat → Int32} {aK aV : Nat → Nat} {G : va_G} {tc : Nat → ClassId} (h0 : zSnd l HB b L xs aK aV G tc (zMT.getD 19 zyD) (fun α => zA_vR_V 7 f_Reader_next)) (h1 : zSnd l HB b L xs aK aV G tc (zMT.getD 23 zyD) (fun α => zA_vRR_I 7 f_Reader_is)) (h2 : zSnd l HB b L xs aK aV G tc (zMT.getD 21 zyD) (fun α => zA_vRI_I 7 f_Reader_byteAt)) : zSnd l HB b L xs aK aV G tc (zMT.getD 24 zyD) (fun α => zA_vR_I 7 f_Reader_scriptLine) := by
  rw [show zMT.getD 24 zyD = (yX7_scriptLine, cX7_scriptLine, 2, (some .int), 0, 1, 6, 173) from rfl]
  intro α as S k res h
  unfold zA_vR_I at h
  dsimp only at h
  split at h
  · rename_i a0
    obtain ⟨p, hp, h⟩ := zbind h
    unfold zcl at hp
    split at hp
    · rename_i hkd
      have hm := zmeth (l := l) (HB := HB) (b := b) (L := L) (xs := xs) (aK := aK) (aV := aV) (G := G) (tc := tc) (q := (yX7_scriptLine, cX7_scriptLine, 2, (some .int), 0, 1, 6, 173)) (o := 7) (cs := [19, 23, 21]) (rz := false) (T := zP_Reader_scriptLine) (E := zE_Reader_scriptLine (Int32 × zM)) (kr := zkI) (res := p) (v0 := some (.int p.1)) (S0 := p.2) (as := [.ref a0]) (S := S) zMT_fine (by decide +kernel) (fun i as S k' h => by
        unfold zE_Reader_scriptLine at h
        rcases zdisf h with ⟨rfl, h⟩ | h
        · exact h0 _ _ _ _ _ h
        rcases zdisf h with ⟨rfl, h⟩ | h
        · exact h1 _ _ _ _ _ h
        rcases zdisf h with ⟨rfl, h⟩ | h
        · exact h2 _ _ _ _ _ h
        cases h) ok_Reader_scriptLine rfl (fun v S' h => zkI_inv h) (Nat.le_of_ble_eq_true rfl) (fun g H Hw => Hw _ [some (.ref a0), none] _ _ _ ⟨rfl, trivial⟩ (G_Reader_scriptLine H Hw a0 S hp))
      exact ⟨_, _, h, hm.1, rfl, fun _ => ⟨_, _, rfl⟩, (fun _ U H hK hH a r e => by cases e; exact zrecv (ci := 7) (by omega) hkd rfl U H hK hH), hm.2⟩
    · cases hp
  · cases h
def zP_Reader_isKept : List (List (Nat × zE)) := [[(0, e1 (.aload_n 0) 1 0), (1, e3 (.ldc 67) 3 1 0 0), (3, e3 (.invokevirtual 68) 6 0 2 0), (6, e1 (.ifCond .ne 102) 9 108), (9, e1 (.aload_n 0) 10 0), (10, e3 (.ldc 75) 12 1 1 0), (12, e3 (.invokevirtual 68) 15 0 2 0), (15, e1 (.ifCond .ne 93) 18 108)],
  [(18, e1 (.aload_n 0) 19 0), (19, e3 (.ldc 80) 21 1 2 0), (21, e3 (.invokevirtual 68) 24 0 2 0), (24, e1 (.ifCond .ne 84) 27 108), (27, e1 (.aload_n 0) 28 0), (28, e3 (.ldc 84) 30 1 3 0), (30, e3 (.invokevirtual 68) 33 0 2 0)],
  [(33, e1 (.ifCond .ne 75) 36 108), (36, e1 (.aload_n 0) 37 0), (37, e3 (.ldc 89) 39 1 4 0), (39, e3 (.invokevirtual 68) 42 0 2 0), (42, e1 (.ifCond .ne 66) 45 108), (45, e1 (.aload_n 0) 46 0), (46, e3 (.ldc 113) 48 1 5 0)],
  [(48, e3 (.invokevirtual 68) 51 0 2 0), (51, e1 (.ifCond .ne 57) 54 108), (54, e1 (.aload_n 0) 55 0), (55, e3 (.ldc 135) 57 1 6 0), (57, e3 (.invokevirtual 68) 60 0 2 0), (60, e1 (.ifCond .ne 48) 63 108), (63, e1 (.aload_n 0) 64 0)],
  [(64, e3 (.ldc 146) 66 1 7 0), (66, e3 (.invokevirtual 68) 69 0 2 0), (69, e1 (.ifCond .ne 39) 72 108), (72, e1 (.aload_n 0) 73 0), (73, e3 (.ldc 164) 75 1 8 0), (75, e3 (.invokevirtual 68) 78 0 2 0), (78, e1 (.ifCond .ne 30) 81 108)],
  [(81, e1 (.aload_n 0) 82 0), (82, e3 (.ldc 173) 84 1 9 0), (84, e3 (.invokevirtual 68) 87 0 2 0), (87, e1 (.ifCond .ne 21) 90 108), (90, e1 (.aload_n 0) 91 0), (91, e3 (.ldc 175) 93 1 10 0), (93, e3 (.invokevirtual 68) 96 0 2 0)],
  [(96, e1 (.ifCond .ne 12) 99 108), (99, e1 (.aload_n 0) 100 0), (100, e3 (.ldc 180) 102 1 11 0), (102, e3 (.invokevirtual 68) 105 0 2 0), (105, e1 (.ifCond .eq 7) 108 112), (108, ei (.iconst 1) 109 0 (1)), (109, e1 (.goto 4) 112 113)],
  [(112, ei (.iconst 0) 113 0 (0)), (113, e0 (.ireturn) 114)]]
noncomputable def zE_Reader_isKept (α : Type) : Nat → zX α := fun i => bif Nat.beq i 0 then zA_vRR_I 7 f_Reader_is else fun _ _ _ => none
def zc_Reader_isKept : Nat → Bool := fun pc => false
set_option maxRecDepth 100000 in
theorem r_Reader_isKept (a0 : Nat) (S : zM) : f_Reader_isKept a0 S = zrt true zP_Reader_isKept (zE_Reader_isKept (Int32 × zM)) zc_Reader_isKept zkI (fun pc lv st S => none) 1000 0 [some (.ref a0)] [] S := rfl
theorem G_Reader_isKept {g : zV → Nat → List Value → zM → Prop} {res : (Int32 × zM)} (H : zCl true zP_Reader_isKept (zE_Reader_isKept (Int32 × zM)) zkI res g) (Hw : zWk g) (a0 : Nat) (S : zM) (h : f_Reader_isKept a0 S = some res) : g [some (.ref a0)] 0 [] S := by
  refine H zc_Reader_isKept _ 1000 _ _ _ _ ((r_Reader_isKept a0 S).symm.trans h) (fun pc lv st S hK => ?_)
  cases hK
set_option maxRecDepth 100000 in
theorem ok_Reader_isKept : zokT 7 [23] false 6 173 1 true (some .boolean) cX7_isKept zP_Reader_isKept = true := by decide +kernel
set_option maxRecDepth 100000 in
theorem s_Reader_isKept {l : Launch} {HB : Heap} {b L : Nat} {xs : Nat → Int32} {aK aV : Nat → Nat} {G : va_G} {tc : Nat → ClassId} (h0 : zSnd l HB b L xs aK aV G tc (zMT.getD 23 zyD) (fun α => zA_vRR_I 7 f_Reader_is)) : zSnd l HB b L xs aK aV G tc (zMT.getD 25 zyD) (fun α => zA_vR_I 7 f_Reader_isKept) := by
  rw [show zMT.getD 25 zyD = (yX7_isKept, cX7_isKept, 1, (some .boolean), 0, 1, 6, 173) from rfl]
  intro α as S k res h
  unfold zA_vR_I at h
  dsimp only at h
  split at h
  · rename_i a0
    obtain ⟨p, hp, h⟩ := zbind h
    unfold zcl at hp
    split at hp
    · rename_i hkd
      have hm := zmeth (l := l) (HB := HB) (b := b) (L := L) (xs := xs) (aK := aK) (aV := aV) (G := G) (tc := tc) (q := (yX7_isKept, cX7_isKept, 1, (some .boolean), 0, 1, 6, 173)) (o := 7) (cs := [23]) (rz := true) (T := zP_Reader_isKept) (E := zE_Reader_isKept (Int32 × zM)) (kr := zkI) (res := p) (v0 := some (.int p.1)) (S0 := p.2) (as := [.ref a0]) (S := S) zMT_fine (by decide +kernel) (fun i as S k' h => by
        unfold zE_Reader_isKept at h
        rcases zdisf h with ⟨rfl, h⟩ | h
        · exact h0 _ _ _ _ _ h
        cases h) ok_Reader_isKept rfl (fun v S' h => zkI_inv h) (Nat.le_of_ble_eq_true rfl) (fun g H Hw => Hw _ [some (.ref a0)] _ _ _ ⟨rfl, trivial⟩ (G_Reader_isKept H Hw a0 S hp))
      exact ⟨_, _, h, hm.1, rfl, fun _ => ⟨_, _, rfl⟩, (fun _ U H hK hH a r e => by cases e; exact zrecv (ci := 7) (by omega) hkd rfl U H hK hH), hm.2⟩
    · cases hp
  · cases h
def zP_Reader_nameHere : List (List (Nat × zE)) := [[(0, ej (.lconst 0) 1 (0)), (1, e1 (.lstore_n 1) 2 1), (2, e1 (.aload_n 0) 3 0), (3, e3 (.getfield 58) 6 7 6 0), (6, e1 (.istore_n 3) 7 3), (7, e1 (.iload_n 3) 8 3), (8, e1 (.aload_n 0) 9 0), (9, e3 (.getfield 28) 12 7 2 0), (12, e1 (.if_icmp .ge 21) 15 33), (15, e1 (.lload_n 1) 16 1)],
  [(16, ei (.bipush 8) 18 0 (8)), (18, e0 (.lshl) 19), (19, e1 (.aload_n 0) 20 0), (20, e1 (.iload_n 3) 21 3), (21, e3 (.invokevirtual 91) 24 0 2 0), (24, e0 (.i2l) 25), (25, e0 (.lor) 26), (26, e1 (.lstore_n 1) 27 1), (27, ei (.iinc 3 1) 30 3 (1)), (30, e1 (.goto (-23)) 33 7)],
  [(33, e1 (.lload_n 1) 34 1), (34, e0 (.lreturn) 35)]]
noncomputable def zE_Reader_nameHere (α : Type) : Nat → zX α := fun i => bif Nat.beq i 0 then zA_vRI_I 7 f_Reader_byteAt else fun _ _ _ => none
def zc_Reader_nameHere : Nat → Bool := fun pc => Nat.beq pc 7
def D_Reader_nameHere_7 (k : Nat → Int64 → Int32 → zM → Option (Int64 × zM)) (lv : zV) (st : List Value) (S : zM) : Option (Int64 × zM) := match lv, st with
  | [some (.ref a0), some (.long a1), _, some (.int a3)], [] => k a0 a1 a3 S
  | _, _ => none
theorem d_Reader_nameHere_7 {g : zV → Nat → List Value → zM → Prop} (Hw : zWk g) {k : Nat → Int64 → Int32 → zM → Option (Int64 × zM)} {res : (Int64 × zM)} {lv : zV} {st : List Value} {S : zM} (h : D_Reader_nameHere_7 k lv st S = some res) (hk : ∀ a0 a1 a3 S, k a0 a1 a3 S = some res → g [some (.ref a0), some (.long a1), none, some (.int a3)] 7 [] S) : g lv 7 st S := by
  unfold D_Reader_nameHere_7 at h
  split at h
  · exact Hw _ _ _ _ _ (by simp [zle]) (hk _ _ _ _  h)
  · cases h
set_option maxRecDepth 100000 in
theorem r_Reader_nameHere_7 (n : Nat) (a0 : Nat) (a1 : Int64) (a3 : Int32) (S : zM) : L_Reader_nameHere_7 (n + 1) a0 a1 a3 S = zrt false zP_Reader_nameHere (zE_Reader_nameHere (Int64 × zM)) zc_Reader_nameHere zkJ (fun pc lv st S => bif Nat.beq pc 7 then D_Reader_nameHere_7 (L_Reader_nameHere_7 n) lv st S else none) 1000 7 [some (.ref a0), some (.long a1), none, some (.int a3)] [] S := rfl
theorem g_Reader_nameHere_7 {g : zV → Nat → List Value → zM → Prop} {res : (Int64 × zM)} (H : zCl false zP_Reader_nameHere (zE_Reader_nameHere (Int64 × zM)) zkJ res g) (Hw : zWk g) (n : Nat) : ∀ (a0 : Nat) (a1 : Int64) (a3 : Int32) (S : zM), L_Reader_nameHere_7 n a0 a1 a3 S = some res → g [some (.ref a0), some (.long a1), none, some (.int a3)] 7 [] S := by
  induction n with
  | zero => intro a0 a1 a3 S h; cases h
  | succ n ih =>
    intro a0 a1 a3 S h
    refine H zc_Reader_nameHere _ 1000 _ _ _ _ ((r_Reader_nameHere_7 n a0 a1 a3 S).symm.trans h) (fun pc lv st S hK => ?_)
    rcases zdis hK with ⟨rfl, hK⟩ | hK
    · exact d_Reader_nameHere_7 Hw hK ih
    cases hK
set_option maxRecDepth 100000 in
theorem r_Reader_nameHere (a0 : Nat) (S : zM) : f_Reader_nameHere a0 S = zrt false zP_Reader_nameHere (zE_Reader_nameHere (Int64 × zM)) zc_Reader_nameHere zkJ (fun pc lv st S => bif Nat.beq pc 7 then D_Reader_nameHere_7 (L_Reader_nameHere_7 zF) lv st S else none) 1000 0 [some (.ref a0), none, none, none] [] S := rfl
theorem G_Reader_nameHere {g : zV → Nat → List Value → zM → Prop} {res : (Int64 × zM)} (H : zCl false zP_Reader_nameHere (zE_Reader_nameHere (Int64 × zM)) zkJ res g) (Hw : zWk g) (a0 : Nat) (S : zM) (h : f_Reader_nameHere a0 S = some res) : g [some (.ref a0), none, none, none] 0 [] S := by
  refine H zc_Reader_nameHere _ 1000 _ _ _ _ ((r_Reader_nameHere a0 S).symm.trans h) (fun pc lv st S hK => ?_)
  rcases zdis hK with ⟨rfl, hK⟩ | hK
  · exact d_Reader_nameHere_7 Hw hK (g_Reader_nameHere_7 H Hw  zF)
  cases hK
set_option maxRecDepth 100000 in
theorem ok_Reader_nameHere : zokT 7 [21] false 1 21 4 false (some .long) cX7_nameHere zP_Reader_nameHere = true := by decide +kernel
set_option maxRecDepth 100000 in
theorem s_Reader_nameHere {l : Launch} {HB : Heap} {b L : Nat} {xs : Nat → Int32} {aK aV : Nat → Nat} {G : va_G} {tc : Nat → ClassId} (h0 : zSnd l HB b L xs aK aV G tc (zMT.getD 21 zyD) (fun α => zA_vRI_I 7 f_Reader_byteAt)) : zSnd l HB b L xs aK aV G tc (zMT.getD 26 zyD) (fun α => zA_vR_J 7 f_Reader_nameHere) := by
  rw [show zMT.getD 26 zyD = (yX7_nameHere, cX7_nameHere, 4, (some .long), 0, 1, 1, 21) from rfl]
  intro α as S k res h
  unfold zA_vR_J at h
  dsimp only at h
  split at h
  · rename_i a0
    obtain ⟨p, hp, h⟩ := zbind h
    unfold zcl at hp
    split at hp
    · rename_i hkd
      have hm := zmeth (l := l) (HB := HB) (b := b) (L := L) (xs := xs) (aK := aK) (aV := aV) (G := G) (tc := tc) (q := (yX7_nameHere, cX7_nameHere, 4, (some .long), 0, 1, 1, 21)) (o := 7) (cs := [21]) (rz := false) (T := zP_Reader_nameHere) (E := zE_Reader_nameHere (Int64 × zM)) (kr := zkJ) (res := p) (v0 := some (.long p.1)) (S0 := p.2) (as := [.ref a0]) (S := S) zMT_fine (by decide +kernel) (fun i as S k' h => by
        unfold zE_Reader_nameHere at h
        rcases zdisf h with ⟨rfl, h⟩ | h
        · exact h0 _ _ _ _ _ h
        cases h) ok_Reader_nameHere rfl (fun v S' h => zkJ_inv h) (Nat.le_of_ble_eq_true rfl) (fun g H Hw => Hw _ [some (.ref a0), none, none, none] _ _ _ ⟨rfl, trivial⟩ (G_Reader_nameHere H Hw a0 S hp))
      exact ⟨_, _, h, hm.1, rfl, fun _ => ⟨_, _, rfl⟩, (fun _ U H hK hH a r e => by cases e; exact zrecv (ci := 7) (by omega) hkd rfl U H hK hH), hm.2⟩
    · cases hp
  · cases h
def zP_Script_lettersOfKind : List (List (Nat × zE)) := [[(0, ei (.iconst 0) 1 0 (0)), (1, e1 (.istore_n 3) 2 3), (2, e1 (.iload_n 3) 3 3), (3, e1 (.aload_n 0) 4 0), (4, e3 (.getfield 30) 7 10 4 0), (7, e1 (.if_icmp .ge 32) 10 39), (10, e1 (.iload_n 3) 11 3), (11, ei (.iconst 4) 12 0 (4)), (12, e1 (.if_icmp .ge 27) 15 39), (15, e1 (.aload_n 0) 16 0)],
  [(16, e3 (.getfield 9) 19 10 0 2), (19, e1 (.iload_n 3) 20 3), (20, e0 (.laload) 21), (21, e1 (.lload_n 1) 22 1), (22, e0 (.lcmp) 23), (23, e1 (.ifCond .ne 10) 26 33), (26, e1 (.aload_n 0) 27 0), (27, e3 (.getfield 15) 30 10 1 2), (30, e1 (.iload_n 3) 31 3), (31, e0 (.iaload) 32)],
  [(32, e0 (.ireturn) 33), (33, ei (.iinc 3 1) 36 3 (1)), (36, e1 (.goto (-34)) 39 2), (39, ei (.iconst (-1)) 40 0 (-1)), (40, e0 (.ireturn) 41)]]
noncomputable def zE_Script_lettersOfKind (α : Type) : Nat → zX α := fun _ => fun _ _ _ => none
def zc_Script_lettersOfKind : Nat → Bool := fun pc => Nat.beq pc 2
def D_Script_lettersOfKind_2 (k : Nat → Int64 → Int32 → zM → Option (Int32 × zM)) (lv : zV) (st : List Value) (S : zM) : Option (Int32 × zM) := match lv, st with
  | [some (.ref a0), some (.long a1), _, some (.int a3)], [] => k a0 a1 a3 S
  | _, _ => none
theorem d_Script_lettersOfKind_2 {g : zV → Nat → List Value → zM → Prop} (Hw : zWk g) {k : Nat → Int64 → Int32 → zM → Option (Int32 × zM)} {res : (Int32 × zM)} {lv : zV} {st : List Value} {S : zM} (h : D_Script_lettersOfKind_2 k lv st S = some res) (hk : ∀ a0 a1 a3 S, k a0 a1 a3 S = some res → g [some (.ref a0), some (.long a1), none, some (.int a3)] 2 [] S) : g lv 2 st S := by
  unfold D_Script_lettersOfKind_2 at h
  split at h
  · exact Hw _ _ _ _ _ (by simp [zle]) (hk _ _ _ _  h)
  · cases h
set_option maxRecDepth 100000 in
theorem r_Script_lettersOfKind_2 (n : Nat) (a0 : Nat) (a1 : Int64) (a3 : Int32) (S : zM) : L_Script_lettersOfKind_2 (n + 1) a0 a1 a3 S = zrt false zP_Script_lettersOfKind (zE_Script_lettersOfKind (Int32 × zM)) zc_Script_lettersOfKind zkI (fun pc lv st S => bif Nat.beq pc 2 then D_Script_lettersOfKind_2 (L_Script_lettersOfKind_2 n) lv st S else none) 1000 2 [some (.ref a0), some (.long a1), none, some (.int a3)] [] S := rfl
theorem g_Script_lettersOfKind_2 {g : zV → Nat → List Value → zM → Prop} {res : (Int32 × zM)} (H : zCl false zP_Script_lettersOfKind (zE_Script_lettersOfKind (Int32 × zM)) zkI res g) (Hw : zWk g) (n : Nat) : ∀ (a0 : Nat) (a1 : Int64) (a3 : Int32) (S : zM), L_Script_lettersOfKind_2 n a0 a1 a3 S = some res → g [some (.ref a0), some (.long a1), none, some (.int a3)] 2 [] S := by
  induction n with
  | zero => intro a0 a1 a3 S h; cases h
  | succ n ih =>
    intro a0 a1 a3 S h
    refine H zc_Script_lettersOfKind _ 1000 _ _ _ _ ((r_Script_lettersOfKind_2 n a0 a1 a3 S).symm.trans h) (fun pc lv st S hK => ?_)
    rcases zdis hK with ⟨rfl, hK⟩ | hK
    · exact d_Script_lettersOfKind_2 Hw hK ih
    cases hK
set_option maxRecDepth 100000 in
theorem r_Script_lettersOfKind (a0 : Nat) (a1 : Int64) (S : zM) : f_Script_lettersOfKind a0 a1 S = zrt false zP_Script_lettersOfKind (zE_Script_lettersOfKind (Int32 × zM)) zc_Script_lettersOfKind zkI (fun pc lv st S => bif Nat.beq pc 2 then D_Script_lettersOfKind_2 (L_Script_lettersOfKind_2 zF) lv st S else none) 1000 0 [some (.ref a0), some (.long a1), none, none] [] S := rfl
theorem G_Script_lettersOfKind {g : zV → Nat → List Value → zM → Prop} {res : (Int32 × zM)} (H : zCl false zP_Script_lettersOfKind (zE_Script_lettersOfKind (Int32 × zM)) zkI res g) (Hw : zWk g) (a0 : Nat) (a1 : Int64) (S : zM) (h : f_Script_lettersOfKind a0 a1 S = some res) : g [some (.ref a0), some (.long a1), none, none] 0 [] S := by
  refine H zc_Script_lettersOfKind _ 1000 _ _ _ _ ((r_Script_lettersOfKind a0 a1 S).symm.trans h) (fun pc lv st S hK => ?_)
  rcases zdis hK with ⟨rfl, hK⟩ | hK
  · exact d_Script_lettersOfKind_2 Hw hK (g_Script_lettersOfKind_2 H Hw  zF)
  cases hK
set_option maxRecDepth 100000 in
theorem ok_Script_lettersOfKind : zokT 10 [] false 0 0 4 false (some .int) cX10_lettersOfKind zP_Script_lettersOfKind = true := by decide +kernel
set_option maxRecDepth 100000 in
theorem s_Script_lettersOfKind {l : Launch} {HB : Heap} {b L : Nat} {xs : Nat → Int32} {aK aV : Nat → Nat} {G : va_G} {tc : Nat → ClassId} : zSnd l HB b L xs aK aV G tc (zMT.getD 27 zyD) (fun α => zA_vRJ_I 10 f_Script_lettersOfKind) := by
  rw [show zMT.getD 27 zyD = (yX10_lettersOfKind, cX10_lettersOfKind, 4, (some .int), 0, 2, 0, 0) from rfl]
  intro α as S k res h
  unfold zA_vRJ_I at h
  dsimp only at h
  split at h
  · rename_i a0 a1
    obtain ⟨p, hp, h⟩ := zbind h
    unfold zcl at hp
    split at hp
    · rename_i hkd
      have hm := zmeth (l := l) (HB := HB) (b := b) (L := L) (xs := xs) (aK := aK) (aV := aV) (G := G) (tc := tc) (q := (yX10_lettersOfKind, cX10_lettersOfKind, 4, (some .int), 0, 2, 0, 0)) (o := 10) (cs := []) (rz := false) (T := zP_Script_lettersOfKind) (E := zE_Script_lettersOfKind (Int32 × zM)) (kr := zkI) (res := p) (v0 := some (.int p.1)) (S0 := p.2) (as := [.ref a0, .long a1]) (S := S) zMT_fine (by decide +kernel) (fun i as S k' h => by
        unfold zE_Script_lettersOfKind at h
        cases h) ok_Script_lettersOfKind rfl (fun v S' h => zkI_inv h) (Nat.le_of_ble_eq_true rfl) (fun g H Hw => Hw _ [some (.ref a0), some (.long a1), none, none] _ _ _ ⟨rfl, rfl, trivial⟩ (G_Script_lettersOfKind H Hw a0 a1 S hp))
      exact ⟨_, _, h, hm.1, rfl, fun _ => ⟨_, _, rfl⟩, (fun _ U H hK hH a r e => by cases e; exact zrecv (ci := 10) (by omega) hkd rfl U H hK hH), hm.2⟩
    · cases hp
  · cases h
def zP_Reader_areLetters : List (List (Nat × zE)) := [[(0, e1 (.aload_n 0) 1 0), (1, e3 (.getfield 51) 4 7 5 0), (4, ei (.iconst 1) 5 0 (1)), (5, e1 (.if_icmp .ne 16) 8 21), (8, e1 (.aload_n 0) 9 0), (9, e3 (.getfield 28) 12 7 2 0), (12, e1 (.aload_n 0) 13 0), (13, e3 (.getfield 58) 16 7 6 0)],
  [(16, e0 (.isub) 17), (17, e1 (.iload_n 1) 18 1), (18, e1 (.if_icmp .le 5) 21 23), (21, ei (.iconst 0) 22 0 (0)), (22, e0 (.ireturn) 23), (23, e1 (.aload_n 0) 24 0), (24, e3 (.getfield 58) 27 7 6 0), (27, e1 (.istore_n 2) 28 2), (28, e1 (.iload_n 2) 29 2), (29, e1 (.aload_n 0) 30 0), (30, e3 (.getfield 28) 33 7 2 0)],
  [(33, e1 (.if_icmp .ge 21) 36 54), (36, e1 (.aload_n 0) 37 0), (37, e1 (.iload_n 2) 38 2), (38, e3 (.invokevirtual 91) 41 0 2 0), (41, ei (.bipush 104) 43 0 (104)), (43, e1 (.if_icmp .le 5) 46 48), (46, ei (.iconst 0) 47 0 (0)), (47, e0 (.ireturn) 48)],
  [(48, ei (.iinc 2 1) 51 2 (1)), (51, e1 (.goto (-23)) 54 28), (54, ei (.iconst 1) 55 0 (1)), (55, e0 (.ireturn) 56)]]
noncomputable def zE_Reader_areLetters (α : Type) : Nat → zX α := fun i => bif Nat.beq i 0 then zA_vRI_I 7 f_Reader_byteAt else fun _ _ _ => none
def zc_Reader_areLetters : Nat → Bool := fun pc => Nat.beq pc 28
def D_Reader_areLetters_28 (k : Nat → Int32 → zM → Option (Int32 × zM)) (lv : zV) (st : List Value) (S : zM) : Option (Int32 × zM) := match lv, st with
  | [some (.ref a0), _, some (.int a2)], [] => k a0 a2 S
  | _, _ => none
theorem d_Reader_areLetters_28 {g : zV → Nat → List Value → zM → Prop} (Hw : zWk g) {k : Nat → Int32 → zM → Option (Int32 × zM)} {res : (Int32 × zM)} {lv : zV} {st : List Value} {S : zM} (h : D_Reader_areLetters_28 k lv st S = some res) (hk : ∀ a0 a2 S, k a0 a2 S = some res → g [some (.ref a0), none, some (.int a2)] 28 [] S) : g lv 28 st S := by
  unfold D_Reader_areLetters_28 at h
  split at h
  · exact Hw _ _ _ _ _ (by simp [zle]) (hk _ _ _  h)
  · cases h
set_option maxRecDepth 100000 in
theorem r_Reader_areLetters_28 (n : Nat) (a0 : Nat) (a2 : Int32) (S : zM) : L_Reader_areLetters_28 (n + 1) a0 a2 S = zrt true zP_Reader_areLetters (zE_Reader_areLetters (Int32 × zM)) zc_Reader_areLetters zkI (fun pc lv st S => bif Nat.beq pc 28 then D_Reader_areLetters_28 (L_Reader_areLetters_28 n) lv st S else none) 1000 28 [some (.ref a0), none, some (.int a2)] [] S := rfl
theorem g_Reader_areLetters_28 {g : zV → Nat → List Value → zM → Prop} {res : (Int32 × zM)} (H : zCl true zP_Reader_areLetters (zE_Reader_areLetters (Int32 × zM)) zkI res g) (Hw : zWk g) (n : Nat) : ∀ (a0 : Nat) (a2 : Int32) (S : zM), L_Reader_areLetters_28 n a0 a2 S = some res → g [some (.ref a0), none, some (.int a2)] 28 [] S := by
  induction n with
  | zero => intro a0 a2 S h; cases h
  | succ n ih =>
    intro a0 a2 S h
    refine H zc_Reader_areLetters _ 1000 _ _ _ _ ((r_Reader_areLetters_28 n a0 a2 S).symm.trans h) (fun pc lv st S hK => ?_)
    rcases zdis hK with ⟨rfl, hK⟩ | hK
    · exact d_Reader_areLetters_28 Hw hK ih
    cases hK
set_option maxRecDepth 100000 in
theorem r_Reader_areLetters (a0 : Nat) (a1 : Int32) (S : zM) : f_Reader_areLetters a0 a1 S = zrt true zP_Reader_areLetters (zE_Reader_areLetters (Int32 × zM)) zc_Reader_areLetters zkI (fun pc lv st S => bif Nat.beq pc 28 then D_Reader_areLetters_28 (L_Reader_areLetters_28 zF) lv st S else none) 1000 0 [some (.ref a0), some (.int a1), none] [] S := rfl
theorem G_Reader_areLetters {g : zV → Nat → List Value → zM → Prop} {res : (Int32 × zM)} (H : zCl true zP_Reader_areLetters (zE_Reader_areLetters (Int32 × zM)) zkI res g) (Hw : zWk g) (a0 : Nat) (a1 : Int32) (S : zM) (h : f_Reader_areLetters a0 a1 S = some res) : g [some (.ref a0), some (.int a1), none] 0 [] S := by
  refine H zc_Reader_areLetters _ 1000 _ _ _ _ ((r_Reader_areLetters a0 a1 S).symm.trans h) (fun pc lv st S hK => ?_)
  rcases zdis hK with ⟨rfl, hK⟩ | hK
  · exact d_Reader_areLetters_28 Hw hK (g_Reader_areLetters_28 H Hw  zF)
  cases hK
set_option maxRecDepth 100000 in
theorem ok_Reader_areLetters : zokT 7 [21] false 1 21 3 true (some .boolean) cX7_areLetters zP_Reader_areLetters = true := by decide +kernel
set_option maxRecDepth 100000 in
theorem s_Reader_areLetters {l : Launch} {HB : Heap} {b L : Nat} {xs : Nat → Int32} {aK aV : Nat → Nat} {G : va_G} {tc : Nat → ClassId} (h0 : zSnd l HB b L xs aK aV G tc (zMT.getD 21 zyD) (fun α => zA_vRI_I 7 f_Reader_byteAt)) : zSnd l HB b L xs aK aV G tc (zMT.getD 28 zyD) (fun α => zA_vRI_I 7 f_Reader_areLetters) := by
  rw [show zMT.getD 28 zyD = (yX7_areLetters, cX7_areLetters, 3, (some .boolean), 0, 2, 1, 21) from rfl]
  intro α as S k res h
  unfold zA_vRI_I at h
  dsimp only at h
  split at h
  · rename_i a0 a1
    obtain ⟨p, hp, h⟩ := zbind h
    unfold zcl at hp
    split at hp
    · rename_i hkd
      have hm := zmeth (l := l) (HB := HB) (b := b) (L := L) (xs := xs) (aK := aK) (aV := aV) (G := G) (tc := tc) (q := (yX7_areLetters, cX7_areLetters, 3, (some .boolean), 0, 2, 1, 21)) (o := 7) (cs := [21]) (rz := true) (T := zP_Reader_areLetters) (E := zE_Reader_areLetters (Int32 × zM)) (kr := zkI) (res := p) (v0 := some (.int p.1)) (S0 := p.2) (as := [.ref a0, .int a1]) (S := S) zMT_fine (by decide +kernel) (fun i as S k' h => by
        unfold zE_Reader_areLetters at h
        rcases zdisf h with ⟨rfl, h⟩ | h
        · exact h0 _ _ _ _ _ h
        cases h) ok_Reader_areLetters rfl (fun v S' h => zkI_inv h) (Nat.le_of_ble_eq_true rfl) (fun g H Hw => Hw _ [some (.ref a0), some (.int a1), none] _ _ _ ⟨rfl, rfl, trivial⟩ (G_Reader_areLetters H Hw a0 a1 S hp))
      exact ⟨_, _, h, hm.1, rfl, fun _ => ⟨_, _, rfl⟩, (fun _ U H hK hH a r e => by cases e; exact zrecv (ci := 7) (by omega) hkd rfl U H hK hH), hm.2⟩
    · cases hp
  · cases h
def zP_Reader_letterBits : List (List (Nat × zE)) := [[(0, ei (.iconst 0) 1 0 (0)), (1, e1 (.istore_n 1) 2 1), (2, e1 (.aload_n 0) 3 0), (3, e3 (.getfield 58) 6 7 6 0), (6, e1 (.istore_n 2) 7 2), (7, e1 (.iload_n 2) 8 2), (8, e1 (.aload_n 0) 9 0), (9, e3 (.getfield 28) 12 7 2 0), (12, e1 (.if_icmp .ge 22) 15 34), (15, e1 (.iload_n 1) 16 1)],
  [(16, ei (.iconst 1) 17 0 (1)), (17, e1 (.aload_n 0) 18 0), (18, e1 (.iload_n 2) 19 2), (19, e3 (.invokevirtual 91) 22 0 2 0), (22, ei (.bipush 97) 24 0 (97)), (24, e0 (.isub) 25), (25, e0 (.ishl) 26), (26, e0 (.ior) 27), (27, e1 (.istore_n 1) 28 1), (28, ei (.iinc 2 1) 31 2 (1)), (31, e1 (.goto (-24)) 34 7)],
  [(34, e1 (.iload_n 1) 35 1), (35, e0 (.ireturn) 36)]]
noncomputable def zE_Reader_letterBits (α : Type) : Nat → zX α := fun i => bif Nat.beq i 0 then zA_vRI_I 7 f_Reader_byteAt else fun _ _ _ => none
def zc_Reader_letterBits : Nat → Bool := fun pc => Nat.beq pc 7
def D_Reader_letterBits_7 (k : Nat → Int32 → Int32 → zM → Option (Int32 × zM)) (lv : zV) (st : List Value) (S : zM) : Option (Int32 × zM) := match lv, st with
  | [some (.ref a0), some (.int a1), some (.int a2)], [] => k a0 a1 a2 S
  | _, _ => none
theorem d_Reader_letterBits_7 {g : zV → Nat → List Value → zM → Prop} (Hw : zWk g) {k : Nat → Int32 → Int32 → zM → Option (Int32 × zM)} {res : (Int32 × zM)} {lv : zV} {st : List Value} {S : zM} (h : D_Reader_letterBits_7 k lv st S = some res) (hk : ∀ a0 a1 a2 S, k a0 a1 a2 S = some res → g [some (.ref a0), some (.int a1), some (.int a2)] 7 [] S) : g lv 7 st S := by
  unfold D_Reader_letterBits_7 at h
  split at h
  · exact Hw _ _ _ _ _ (by simp [zle]) (hk _ _ _ _  h)
  · cases h
set_option maxRecDepth 100000 in
theorem r_Reader_letterBits_7 (n : Nat) (a0 : Nat) (a1 : Int32) (a2 : Int32) (S : zM) : L_Reader_letterBits_7 (n + 1) a0 a1 a2 S = zrt false zP_Reader_letterBits (zE_Reader_letterBits (Int32 × zM)) zc_Reader_letterBits zkI (fun pc lv st S => bif Nat.beq pc 7 then D_Reader_letterBits_7 (L_Reader_letterBits_7 n) lv st S else none) 1000 7 [some (.ref a0), some (.int a1), some (.int a2)] [] S := rfl
theorem g_Reader_letterBits_7 {g : zV → Nat → List Value → zM → Prop} {res : (Int32 × zM)} (H : zCl false zP_Reader_letterBits (zE_Reader_letterBits (Int32 × zM)) zkI res g) (Hw : zWk g) (n : Nat) : ∀ (a0 : Nat) (a1 : Int32) (a2 : Int32) (S : zM), L_Reader_letterBits_7 n a0 a1 a2 S = some res → g [some (.ref a0), some (.int a1), some (.int a2)] 7 [] S := by
  induction n with
  | zero => intro a0 a1 a2 S h; cases h
  | succ n ih =>
    intro a0 a1 a2 S h
    refine H zc_Reader_letterBits _ 1000 _ _ _ _ ((r_Reader_letterBits_7 n a0 a1 a2 S).symm.trans h) (fun pc lv st S hK => ?_)
    rcases zdis hK with ⟨rfl, hK⟩ | hK
    · exact d_Reader_letterBits_7 Hw hK ih
    cases hK
set_option maxRecDepth 100000 in
theorem r_Reader_letterBits (a0 : Nat) (S : zM) : f_Reader_letterBits a0 S = zrt false zP_Reader_letterBits (zE_Reader_letterBits (Int32 × zM)) zc_Reader_letterBits zkI (fun pc lv st S => bif Nat.beq pc 7 then D_Reader_letterBits_7 (L_Reader_letterBits_7 zF) lv st S else none) 1000 0 [some (.ref a0), none, none] [] S := rfl
theorem G_Reader_letterBits {g : zV → Nat → List Value → zM → Prop} {res : (Int32 × zM)} (H : zCl false zP_Reader_letterBits (zE_Reader_letterBits (Int32 × zM)) zkI res g) (Hw : zWk g) (a0 : Nat) (S : zM) (h : f_Reader_letterBits a0 S = some res) : g [some (.ref a0), none, none] 0 [] S := by
  refine H zc_Reader_letterBits _ 1000 _ _ _ _ ((r_Reader_letterBits a0 S).symm.trans h) (fun pc lv st S hK => ?_)
  rcases zdis hK with ⟨rfl, hK⟩ | hK
  · exact d_Reader_letterBits_7 Hw hK (g_Reader_letterBits_7 H Hw  zF)
  cases hK
set_option maxRecDepth 100000 in
theorem ok_Reader_letterBits : zokT 7 [21] false 1 21 3 false (some .int) cX7_letterBits zP_Reader_letterBits = true := by decide +kernel
set_option maxRecDepth 100000 in
theorem s_Reader_letterBits {l : Launch} {HB : Heap} {b L : Nat} {xs : Nat → Int32} {aK aV : Nat → Nat} {G : va_G} {tc : Nat → ClassId} (h0 : zSnd l HB b L xs aK aV G tc (zMT.getD 21 zyD) (fun α => zA_vRI_I 7 f_Reader_byteAt)) : zSnd l HB b L xs aK aV G tc (zMT.getD 29 zyD) (fun α => zA_vR_I 7 f_Reader_letterBits) := by
  rw [show zMT.getD 29 zyD = (yX7_letterBits, cX7_letterBits, 3, (some .int), 0, 1, 1, 21) from rfl]
  intro α as S k res h
  unfold zA_vR_I at h
  dsimp only at h
  split at h
  · rename_i a0
    obtain ⟨p, hp, h⟩ := zbind h
    unfold zcl at hp
    split at hp
    · rename_i hkd
      have hm := zmeth (l := l) (HB := HB) (b := b) (L := L) (xs := xs) (aK := aK) (aV := aV) (G := G) (tc := tc) (q := (yX7_letterBits, cX7_letterBits, 3, (some .int), 0, 1, 1, 21)) (o := 7) (cs := [21]) (rz := false) (T := zP_Reader_letterBits) (E := zE_Reader_letterBits (Int32 × zM)) (kr := zkI) (res := p) (v0 := some (.int p.1)) (S0 := p.2) (as := [.ref a0]) (S := S) zMT_fine (by decide +kernel) (fun i as S k' h => by
        unfold zE_Reader_letterBits at h
        rcases zdisf h with ⟨rfl, h⟩ | h
        · exact h0 _ _ _ _ _ h
        cases h) ok_Reader_letterBits rfl (fun v S' h => zkI_inv h) (Nat.le_of_ble_eq_true rfl) (fun g H Hw => Hw _ [some (.ref a0), none, none] _ _ _ ⟨rfl, trivial⟩ (G_Reader_letterBits H Hw a0 S hp))
      exact ⟨_, _, h, hm.1, rfl, fun _ => ⟨_, _, rfl⟩, (fun _ U H hK hH a r e => by cases e; exact zrecv (ci := 7) (by omega) hkd rfl U H hK hH), hm.2⟩
    · cases hp
  · cases h
def zP_J_bitCount : List (List (Nat × zE)) := [[(0, e1 (.iload_n 0) 1 0), (1, e1 (.iload_n 0) 2 0), (2, ei (.iconst 1) 3 0 (1)), (3, e0 (.iushr) 4), (4, ei (.ldc_w 265) 7 0 (1431655765)), (7, e0 (.iand) 8), (8, e0 (.isub) 9), (9, e1 (.istore_n 0) 10 0), (10, e1 (.iload_n 0) 11 0), (11, ei (.ldc_w 266) 14 0 (858993459)), (14, e0 (.iand) 15), (15, e1 (.iload_n 0) 16 0)],
  [(16, ei (.iconst 2) 17 0 (2)), (17, e0 (.iushr) 18), (18, ei (.ldc_w 266) 21 0 (858993459)), (21, e0 (.iand) 22), (22, e0 (.iadd) 23), (23, e1 (.istore_n 0) 24 0), (24, e1 (.iload_n 0) 25 0), (25, e1 (.iload_n 0) 26 0), (26, ei (.iconst 4) 27 0 (4)), (27, e0 (.iushr) 28), (28, e0 (.iadd) 29), (29, ei (.ldc_w 267) 32 0 (252645135))],
  [(32, e0 (.iand) 33), (33, e1 (.istore_n 0) 34 0), (34, e1 (.iload_n 0) 35 0), (35, e1 (.iload_n 0) 36 0), (36, ei (.bipush 8) 38 0 (8)), (38, e0 (.iushr) 39), (39, e0 (.iadd) 40), (40, e1 (.istore_n 0) 41 0), (41, e1 (.iload_n 0) 42 0), (42, e1 (.iload_n 0) 43 0), (43, ei (.bipush 16) 45 0 (16)), (45, e0 (.iushr) 46), (46, e0 (.iadd) 47), (47, e1 (.istore_n 0) 48 0)],
  [(48, e1 (.iload_n 0) 49 0), (49, ei (.bipush 63) 51 0 (63)), (51, e0 (.iand) 52), (52, e0 (.ireturn) 53)]]
noncomputable def zE_J_bitCount (α : Type) : Nat → zX α := fun _ => fun _ _ _ => none
def zc_J_bitCount : Nat → Bool := fun pc => false
set_option maxRecDepth 100000 in
theorem r_J_bitCount (a0 : Int32) (S : zM) : f_J_bitCount a0 S = zrt false zP_J_bitCount (zE_J_bitCount (Int32 × zM)) zc_J_bitCount zkI (fun pc lv st S => none) 1000 0 [some (.int a0)] [] S := rfl
theorem G_J_bitCount {g : zV → Nat → List Value → zM → Prop} {res : (Int32 × zM)} (H : zCl false zP_J_bitCount (zE_J_bitCount (Int32 × zM)) zkI res g) (Hw : zWk g) (a0 : Int32) (S : zM) (h : f_J_bitCount a0 S = some res) : g [some (.int a0)] 0 [] S := by
  refine H zc_J_bitCount _ 1000 _ _ _ _ ((r_J_bitCount a0 S).symm.trans h) (fun pc lv st S hK => ?_)
  cases hK
set_option maxRecDepth 100000 in
theorem ok_J_bitCount : zokT 14 [] false 0 0 1 false (some .int) cJ6_bitCount_0f7a4 zP_J_bitCount = true := by decide +kernel
set_option maxRecDepth 100000 in
theorem s_J_bitCount {l : Launch} {HB : Heap} {b L : Nat} {xs : Nat → Int32} {aK aV : Nat → Nat} {G : va_G} {tc : Nat → ClassId} : zSnd l HB b L xs aK aV G tc (zMT.getD 30 zyD) (fun α => zA_I_I f_J_bitCount) := by
  rw [show zMT.getD 30 zyD = (yJ6_bitCount_0f7a4, cJ6_bitCount_0f7a4, 1, (some .int), 1, 1, 0, 0) from rfl]
  intro α as S k res h
  unfold zA_I_I at h
  dsimp only at h
  split at h
  · rename_i a0
    obtain ⟨p, hp, h⟩ := zbind h
    have hm := zmeth (l := l) (HB := HB) (b := b) (L := L) (xs := xs) (aK := aK) (aV := aV) (G := G) (tc := tc) (q := (yJ6_bitCount_0f7a4, cJ6_bitCount_0f7a4, 1, (some .int), 1, 1, 0, 0)) (o := 14) (cs := []) (rz := false) (T := zP_J_bitCount) (E := zE_J_bitCount (Int32 × zM)) (kr := zkI) (res := p) (v0 := some (.int p.1)) (S0 := p.2) (as := [.int a0]) (S := S) zMT_fine (by decide +kernel) (fun i as S k' h => by
      unfold zE_J_bitCount at h
      cases h) ok_J_bitCount rfl (fun v S' h => zkI_inv h) (Nat.le_of_ble_eq_true rfl) (fun g H Hw => Hw _ [some (.int a0)] _ _ _ ⟨rfl, trivial⟩ (G_J_bitCount H Hw a0 S hp))
    exact ⟨_, _, h, hm.1, rfl, fun q => absurd rfl q, (fun q => by cases q), hm.2⟩
  · cases h
def zP_Script_addKind : List (List (Nat × zE)) := [[(0, e1 (.aload_n 0) 1 0), (1, e3 (.getfield 30) 4 10 4 0), (4, ei (.iconst 4) 5 0 (4)), (5, e1 (.if_icmp .ge 33) 8 38), (8, e1 (.aload_n 0) 9 0), (9, e3 (.getfield 9) 12 10 0 2), (12, e1 (.aload_n 0) 13 0), (13, e3 (.getfield 30) 16 10 4 0)],
  [(16, e1 (.lload_n 1) 17 1), (17, e0 (.lastore) 18), (18, e1 (.aload_n 0) 19 0), (19, e3 (.getfield 15) 22 10 1 2), (22, e1 (.aload_n 0) 23 0), (23, e3 (.getfield 30) 26 10 4 0), (26, e1 (.iload_n 3) 27 3), (27, e0 (.iastore) 28), (28, e1 (.aload_n 0) 29 0), (29, e0 (.dup) 30), (30, e3 (.getfield 30) 33 10 4 0)],
  [(33, ei (.iconst 1) 34 0 (1)), (34, e0 (.iadd) 35), (35, e3 (.putfield 30) 38 10 4 0), (38, e0 (.return_) 39)]]
noncomputable def zE_Script_addKind (α : Type) : Nat → zX α := fun _ => fun _ _ _ => none
def zc_Script_addKind : Nat → Bool := fun pc => false
set_option maxRecDepth 100000 in
theorem r_Script_addKind (a0 : Nat) (a1 : Int64) (a3 : Int32) (S : zM) : f_Script_addKind a0 a1 a3 S = zrt false zP_Script_addKind (zE_Script_addKind zM) zc_Script_addKind zkV (fun pc lv st S => none) 1000 0 [some (.ref a0), some (.long a1), none, some (.int a3)] [] S := rfl
theorem G_Script_addKind {g : zV → Nat → List Value → zM → Prop} {res : zM} (H : zCl false zP_Script_addKind (zE_Script_addKind zM) zkV res g) (Hw : zWk g) (a0 : Nat) (a1 : Int64) (a3 : Int32) (S : zM) (h : f_Script_addKind a0 a1 a3 S = some res) : g [some (.ref a0), some (.long a1), none, some (.int a3)] 0 [] S := by
  refine H zc_Script_addKind _ 1000 _ _ _ _ ((r_Script_addKind a0 a1 a3 S).symm.trans h) (fun pc lv st S hK => ?_)
  cases hK
set_option maxRecDepth 100000 in
theorem ok_Script_addKind : zokT 10 [] false 0 0 4 false none cX10_addKind zP_Script_addKind = true := by decide +kernel
set_option maxRecDepth 100000 in
theorem s_Script_addKind {l : Launch} {HB : Heap} {b L : Nat} {xs : Nat → Int32} {aK aV : Nat → Nat} {G : va_G} {tc : Nat → ClassId} : zSnd l HB b L xs aK aV G tc (zMT.getD 31 zyD) (fun α => zA_vRJI_V 10 f_Script_addKind) := by
  rw [show zMT.getD 31 zyD = (yX10_addKind, cX10_addKind, 4, none, 0, 3, 0, 0) from rfl]
  intro α as S k res h
  unfold zA_vRJI_V at h
  dsimp only at h
  split at h
  · rename_i a0 a1 a3
    obtain ⟨p, hp, h⟩ := zbind h
    unfold zcl at hp
    split at hp
    · rename_i hkd
      have hm := zmeth (l := l) (HB := HB) (b := b) (L := L) (xs := xs) (aK := aK) (aV := aV) (G := G) (tc := tc) (q := (yX10_addKind, cX10_addKind, 4, none, 0, 3, 0, 0)) (o := 10) (cs := []) (rz := false) (T := zP_Script_addKind) (E := zE_Script_addKind zM) (kr := zkV) (res := p) (v0 := none) (S0 := p) (as := [.ref a0, .long a1, .int a3]) (S := S) zMT_fine (by decide +kernel) (fun i as S k' h => by
        unfold zE_Script_addKind at h
        cases h) ok_Script_addKind rfl (fun v S' h => zkV_inv h) (Nat.le_of_ble_eq_true rfl) (fun g H Hw => Hw _ [some (.ref a0), some (.long a1), none, some (.int a3)] _ _ _ ⟨rfl, rfl, rfl, trivial⟩ (G_Script_addKind H Hw a0 a1 a3 S hp))
      exact ⟨_, _, h, hm.1, rfl, fun _ => ⟨_, _, rfl⟩, (fun _ U H hK hH a r e => by cases e; exact zrecv (ci := 10) (by omega) hkd rfl U H hK hH), hm.2⟩
    · cases hp
  · cases h
def zP_Reader_kindLine : List (List (Nat × zE)) := [[(0, e1 (.aload_n 0) 1 0), (1, e3 (.getfield 31) 4 7 3 2), (4, e3 (.getfield 98) 7 10 4 0), (7, ei (.iconst 4) 8 0 (4)), (8, e1 (.if_icmp .lt 5) 11 13), (11, ei (.iconst 5) 12 0 (5)), (12, e0 (.ireturn) 13), (13, e1 (.aload_n 0) 14 0), (14, e3 (.invokevirtual 44) 17 0 1 0)],
  [(17, e1 (.aload_n 0) 18 0), (18, e3 (.getfield 51) 21 7 5 0), (21, ei (.iconst 1) 22 0 (1)), (22, e1 (.if_icmp .ne 23) 25 45), (25, e1 (.aload_n 0) 26 0), (26, e3 (.getfield 28) 29 7 2 0), (29, e1 (.aload_n 0) 30 0), (30, e3 (.getfield 58) 33 7 6 0)],
  [(33, e0 (.isub) 34), (34, ei (.iconst 2) 35 0 (2)), (35, e1 (.if_icmp .lt 10) 38 45), (38, e1 (.aload_n 0) 39 0), (39, e3 (.invokevirtual 101) 42 1 1 0), (42, e1 (.ifCond .eq 5) 45 47), (45, ei (.iconst 1) 46 0 (1)), (46, e0 (.ireturn) 47), (47, e1 (.aload_n 0) 48 0)],
  [(48, e3 (.invokevirtual 105) 51 2 1 0), (51, e1 (.lstore_n 1) 52 1), (52, e1 (.aload_n 0) 53 0), (53, e3 (.getfield 31) 56 7 3 2), (56, e1 (.lload_n 1) 57 1), (57, e3 (.invokevirtual 109) 60 3 2 0), (60, ei (.iconst (-1)) 61 0 (-1)), (61, e1 (.if_icmp .eq 5) 64 66)],
  [(64, ei (.iconst 3) 65 0 (3)), (65, e0 (.ireturn) 66), (66, e1 (.aload_n 0) 67 0), (67, e3 (.invokevirtual 44) 70 0 1 0), (70, e1 (.aload_n 0) 71 0), (71, e3 (.ldc 113) 73 1 5 0), (73, e3 (.invokevirtual 68) 76 4 2 0), (76, e1 (.ifCond .ne 5) 79 81), (79, ei (.iconst 1) 80 0 (1))],
  [(80, e0 (.ireturn) 81), (81, e1 (.aload_n 0) 82 0), (82, e3 (.invokevirtual 44) 85 0 1 0), (85, e1 (.aload_n 0) 86 0), (86, ei (.bipush 7) 88 0 (7)), (88, e3 (.invokevirtual 115) 91 5 2 0), (91, e1 (.ifCond .ne 5) 94 96), (94, ei (.iconst 1) 95 0 (1)), (95, e0 (.ireturn) 96)],
  [(96, e1 (.aload_n 0) 97 0), (97, e3 (.invokevirtual 119) 100 6 1 0), (100, e1 (.istore_n 3) 101 3), (101, e1 (.iload_n 3) 102 3), (102, e3 (.invokestatic 122) 105 7 1 0), (105, e1 (.aload_n 0) 106 0), (106, e3 (.getfield 28) 109 7 2 0), (109, e1 (.aload_n 0) 110 0), (110, e3 (.getfield 58) 113 7 6 0)],
  [(113, e0 (.isub) 114), (114, e1 (.if_icmp .eq 5) 117 119), (117, ei (.iconst 3) 118 0 (3)), (118, e0 (.ireturn) 119), (119, e1 (.aload_n 0) 120 0), (120, e3 (.getfield 31) 123 7 3 2), (123, e1 (.lload_n 1) 124 1), (124, e1 (.iload_n 3) 125 3), (125, e3 (.invokevirtual 127) 128 8 3 0)],
  [(128, e1 (.aload_n 0) 129 0), (129, e3 (.invokevirtual 44) 132 0 1 0), (132, ei (.iconst 0) 133 0 (0)), (133, e0 (.ireturn) 134)]]
noncomputable def zE_Reader_kindLine (α : Type) : Nat → zX α := fun i => bif Nat.beq i 0 then zA_vR_V 7 f_Reader_next else bif Nat.beq i 1 then zA_vR_I 7 f_Reader_isKept else bif Nat.beq i 2 then zA_vR_J 7 f_Reader_nameHere else bif Nat.beq i 3 then zA_vRJ_I 10 f_Script_lettersOfKind else bif Nat.beq i 4 then zA_vRR_I 7 f_Reader_is else bif Nat.beq i 5 then zA_vRI_I 7 f_Reader_areLetters else bif Nat.beq i 6 then zA_vR_I 7 f_Reader_letterBits else bif Nat.beq i 7 then zA_I_I f_J_bitCount else bif Nat.beq i 8 then zA_vRJI_V 10 f_Script_addKind else fun _ _ _ => none
def zc_Reader_kindLine : Nat → Bool := fun pc => false
set_option maxRecDepth 100000 in
theorem r_Reader_kindLine (a0 : Nat) (S : zM) : f_Reader_kindLine a0 S = zrt false zP_Reader_kindLine (zE_Reader_kindLine (Int32 × zM)) zc_Reader_kindLine zkI (fun pc lv st S => none) 1000 0 [some (.ref a0), none, none, none] [] S := rfl
theorem G_Reader_kindLine {g : zV → Nat → List Value → zM → Prop} {res : (Int32 × zM)} (H : zCl false zP_Reader_kindLine (zE_Reader_kindLine (Int32 × zM)) zkI res g) (Hw : zWk g) (a0 : Nat) (S : zM) (h : f_Reader_kindLine a0 S = some res) : g [some (.ref a0), none, none, none] 0 [] S := by
  refine H zc_Reader_kindLine _ 1000 _ _ _ _ ((r_Reader_kindLine a0 S).symm.trans h) (fun pc lv st S hK => ?_)
  cases hK
set_option maxRecDepth 100000 in
theorem ok_Reader_kindLine : zokT 7 [19, 25, 26, 27, 23, 28, 29, 30, 31] false 7 193 4 false (some .int) cX7_kindLine zP_Reader_kindLine = true := by decide +kernel
set_option maxRecDepth 100000 in
theorem s_Reader_kindLine {l : Launch} {HB : Heap} {b L : Nat} {xs : Nat → Int32} {aK aV : Nat → Nat} {G : va_G} {tc : Nat → ClassId} (h0 : zSnd l HB b L xs aK aV G tc (zMT.getD 19 zyD) (fun α => zA_vR_V 7 f_Reader_next)) (h1 : zSnd l HB b L xs aK aV G tc (zMT.getD 25 zyD) (fun α => zA_vR_I 7 f_Reader_isKept)) (h2 : zSnd l HB b L xs aK aV G tc (zMT.getD 26 zyD) (fun α => zA_vR_J 7 f_Reader_nameHere)) (h3 : zSnd l HB b L xs aK aV G tc (zMT.getD 27 zyD) (fun α => zA_vRJ_I 10 f_Script_lettersOfKind)) (h4 : zSnd l HB b L xs aK aV G tc (zMT.getD 23 zyD) (fun α => zA_vRR_I 7 f_Reader_is)) (h5 : zSnd l HB b L xs aK aV G tc (zMT.getD 28 zyD) (fun α => zA_vRI_I 7 f_Reader_areLetters)) (h6 : zSnd l HB b L xs aK aV G tc (zMT.getD 29 zyD) (fun α => zA_vR_I 7 f_Reader_letterBits)) (h7 : zSnd l HB b L xs aK aV G tc (zMT.getD 30 zyD) (fun α => zA_I_I f_J_bitCount)) (h8 : zSnd l HB b L xs aK aV G tc (zMT.getD 31 zyD) (fun α => zA_vRJI_V 10 f_Script_addKind)) : zSnd l HB b L xs aK aV G tc (zMT.getD 32 zyD) (fun α => zA_vR_I 7 f_Reader_kindLine) := by
  rw [show zMT.getD 32 zyD = (yX7_kindLine, cX7_kindLine, 4, (some .int), 0, 1, 7, 193) from rfl]
  intro α as S k res h
  unfold zA_vR_I at h
  dsimp only at h
  split at h
  · rename_i a0
    obtain ⟨p, hp, h⟩ := zbind h
    unfold zcl at hp
    split at hp
    · rename_i hkd
      have hm := zmeth (l := l) (HB := HB) (b := b) (L := L) (xs := xs) (aK := aK) (aV := aV) (G := G) (tc := tc) (q := (yX7_kindLine, cX7_kindLine, 4, (some .int), 0, 1, 7, 193)) (o := 7) (cs := [19, 25, 26, 27, 23, 28, 29, 30, 31]) (rz := false) (T := zP_Reader_kindLine) (E := zE_Reader_kindLine (Int32 × zM)) (kr := zkI) (res := p) (v0 := some (.int p.1)) (S0 := p.2) (as := [.ref a0]) (S := S) zMT_fine (by decide +kernel) (fun i as S k' h => by
        unfold zE_Reader_kindLine at h
        rcases zdisf h with ⟨rfl, h⟩ | h
        · exact h0 _ _ _ _ _ h
        rcases zdisf h with ⟨rfl, h⟩ | h
        · exact h1 _ _ _ _ _ h
        rcases zdisf h with ⟨rfl, h⟩ | h
        · exact h2 _ _ _ _ _ h
        rcases zdisf h with ⟨rfl, h⟩ | h
        · exact h3 _ _ _ _ _ h
        rcases zdisf h with ⟨rfl, h⟩ | h
        · exact h4 _ _ _ _ _ h
        rcases zdisf h with ⟨rfl, h⟩ | h
        · exact h5 _ _ _ _ _ h
        rcases zdisf h with ⟨rfl, h⟩ | h
        · exact h6 _ _ _ _ _ h
        rcases zdisf h with ⟨rfl, h⟩ | h
        · exact h7 _ _ _ _ _ h
        rcases zdisf h with ⟨rfl, h⟩ | h
        · exact h8 _ _ _ _ _ h
        cases h) ok_Reader_kindLine rfl (fun v S' h => zkI_inv h) (Nat.le_of_ble_eq_true rfl) (fun g H Hw => Hw _ [some (.ref a0), none, none, none] _ _ _ ⟨rfl, trivial⟩ (G_Reader_kindLine H Hw a0 S hp))
      exact ⟨_, _, h, hm.1, rfl, fun _ => ⟨_, _, rfl⟩, (fun _ U H hK hH a r e => by cases e; exact zrecv (ci := 7) (by omega) hkd rfl U H hK hH), hm.2⟩
    · cases hp
  · cases h
def zP_Pass_drop : List (List (Nat × zE)) := [[(0, e1 (.aload_n 0) 1 0), (1, ei (.iconst 0) 2 0 (0)), (2, e3 (.putfield 28) 5 5 3 0), (5, e1 (.aload_n 0) 6 0), (6, ei (.iconst 0) 7 0 (0)), (7, e3 (.putfield 32) 10 5 4 1), (10, e1 (.aload_n 0) 11 0), (11, ei (.iconst 0) 12 0 (0)), (12, e3 (.putfield 36) 15 5 5 0), (15, e0 (.return_) 16)]]
noncomputable def zE_Pass_drop (α : Type) : Nat → zX α := fun _ => fun _ _ _ => none
def zc_Pass_drop : Nat → Bool := fun pc => false
set_option maxRecDepth 100000 in
theorem r_Pass_drop (a0 : Nat) (S : zM) : f_Pass_drop a0 S = zrt false zP_Pass_drop (zE_Pass_drop zM) zc_Pass_drop zkV (fun pc lv st S => none) 1000 0 [some (.ref a0)] [] S := rfl
theorem G_Pass_drop {g : zV → Nat → List Value → zM → Prop} {res : zM} (H : zCl false zP_Pass_drop (zE_Pass_drop zM) zkV res g) (Hw : zWk g) (a0 : Nat) (S : zM) (h : f_Pass_drop a0 S = some res) : g [some (.ref a0)] 0 [] S := by
  refine H zc_Pass_drop _ 1000 _ _ _ _ ((r_Pass_drop a0 S).symm.trans h) (fun pc lv st S hK => ?_)
  cases hK
set_option maxRecDepth 100000 in
theorem ok_Pass_drop : zokT 5 [] false 0 0 1 false none cX5_drop zP_Pass_drop = true := by decide +kernel
set_option maxRecDepth 100000 in
theorem s_Pass_drop {l : Launch} {HB : Heap} {b L : Nat} {xs : Nat → Int32} {aK aV : Nat → Nat} {G : va_G} {tc : Nat → ClassId} : zSnd l HB b L xs aK aV G tc (zMT.getD 33 zyD) (fun α => zA_vR_V 5 f_Pass_drop) := by
  rw [show zMT.getD 33 zyD = (yX5_drop, cX5_drop, 1, none, 0, 1, 0, 0) from rfl]
  intro α as S k res h
  unfold zA_vR_V at h
  dsimp only at h
  split at h
  · rename_i a0
    obtain ⟨p, hp, h⟩ := zbind h
    unfold zcl at hp
    split at hp
    · rename_i hkd
      have hm := zmeth (l := l) (HB := HB) (b := b) (L := L) (xs := xs) (aK := aK) (aV := aV) (G := G) (tc := tc) (q := (yX5_drop, cX5_drop, 1, none, 0, 1, 0, 0)) (o := 5) (cs := []) (rz := false) (T := zP_Pass_drop) (E := zE_Pass_drop zM) (kr := zkV) (res := p) (v0 := none) (S0 := p) (as := [.ref a0]) (S := S) zMT_fine (by decide +kernel) (fun i as S k' h => by
        unfold zE_Pass_drop at h
        cases h) ok_Pass_drop rfl (fun v S' h => zkV_inv h) (Nat.le_of_ble_eq_true rfl) (fun g H Hw => Hw _ [some (.ref a0)] _ _ _ ⟨rfl, trivial⟩ (G_Pass_drop H Hw a0 S hp))
      exact ⟨_, _, h, hm.1, rfl, fun _ => ⟨_, _, rfl⟩, (fun _ U H hK hH a r e => by cases e; exact zrecv (ci := 5) (by omega) hkd rfl U H hK hH), hm.2⟩
    · cases hp
  · cases h
def zP_Script_addPass : List (List (Nat × zE)) := [[(0, e1 (.aload_n 0) 1 0), (1, e3 (.getfield 33) 4 10 5 0), (4, ei (.iconst 3) 5 0 (3)), (5, e1 (.if_icmp .lt 5) 8 10), (8, e0 (.aconst_null) 9), (9, e0 (.areturn) 10), (10, e1 (.aload_n 0) 11 0), (11, e3 (.getfield 21) 14 10 2 2), (14, e1 (.aload_n 0) 15 0), (15, e3 (.getfield 33) 18 10 5 0)],
  [(18, e3 (.aaload) 19 5 0 3), (19, e1 (.astore_n 1) 20 1), (20, e1 (.aload_n 1) 21 1), (21, e1 (.ifnull 17) 24 38), (24, e1 (.aload_n 1) 25 1), (25, e3 (.invokevirtual 36) 28 0 1 0), (28, e1 (.aload_n 0) 29 0), (29, e0 (.dup) 30), (30, e3 (.getfield 33) 33 10 5 0)],
  [(33, ei (.iconst 1) 34 0 (1)), (34, e0 (.iadd) 35), (35, e3 (.putfield 33) 38 10 5 0), (38, e1 (.aload_n 1) 39 1), (39, e0 (.areturn) 40)]]
noncomputable def zE_Script_addPass (α : Type) : Nat → zX α := fun i => bif Nat.beq i 0 then zA_vR_V 5 f_Pass_drop else fun _ _ _ => none
def zc_Script_addPass : Nat → Bool := fun pc => false
set_option maxRecDepth 100000 in
theorem r_Script_addPass (a0 : Nat) (S : zM) : f_Script_addPass a0 S = zrt false zP_Script_addPass (zE_Script_addPass (Option Nat × zM)) zc_Script_addPass zkN (fun pc lv st S => none) 1000 0 [some (.ref a0), none] [] S := rfl
theorem G_Script_addPass {g : zV → Nat → List Value → zM → Prop} {res : (Option Nat × zM)} (H : zCl false zP_Script_addPass (zE_Script_addPass (Option Nat × zM)) zkN res g) (Hw : zWk g) (a0 : Nat) (S : zM) (h : f_Script_addPass a0 S = some res) : g [some (.ref a0), none] 0 [] S := by
  refine H zc_Script_addPass _ 1000 _ _ _ _ ((r_Script_addPass a0 S).symm.trans h) (fun pc lv st S hK => ?_)
  cases hK
set_option maxRecDepth 100000 in
theorem ok_Script_addPass : zokT 10 [33] false 1 20 2 false (some (.object "CarriedLetters$Pass")) cX10_addPass zP_Script_addPass = true := by decide +kernel
set_option maxRecDepth 100000 in
theorem s_Script_addPass {l : Launch} {HB : Heap} {b L : Nat} {xs : Nat → Int32} {aK aV : Nat → Nat} {G : va_G} {tc : Nat → ClassId} (h0 : zSnd l HB b L xs aK aV G tc (zMT.getD 33 zyD) (fun α => zA_vR_V 5 f_Pass_drop)) : zSnd l HB b L xs aK aV G tc (zMT.getD 34 zyD) (fun α => zA_vR_N 10 f_Script_addPass) := by
  rw [show zMT.getD 34 zyD = (yX10_addPass, cX10_addPass, 2, (some (.object "CarriedLetters$Pass")), 0, 1, 1, 20) from rfl]
  intro α as S k res h
  unfold zA_vR_N at h
  dsimp only at h
  split at h
  · rename_i a0
    obtain ⟨p, hp, h⟩ := zbind h
    unfold zcl at hp
    split at hp
    · rename_i hkd
      have hm := zmeth (l := l) (HB := HB) (b := b) (L := L) (xs := xs) (aK := aK) (aV := aV) (G := G) (tc := tc) (q := (yX10_addPass, cX10_addPass, 2, (some (.object "CarriedLetters$Pass")), 0, 1, 1, 20)) (o := 10) (cs := [33]) (rz := false) (T := zP_Script_addPass) (E := zE_Script_addPass (Option Nat × zM)) (kr := zkN) (res := p) (v0 := some (match p.1 with | some a => .ref a | none => .null)) (S0 := p.2) (as := [.ref a0]) (S := S) zMT_fine (by decide +kernel) (fun i as S k' h => by
        unfold zE_Script_addPass at h
        rcases zdisf h with ⟨rfl, h⟩ | h
        · exact h0 _ _ _ _ _ h
        cases h) ok_Script_addPass rfl (fun v S' h => zkN_inv h) (Nat.le_of_ble_eq_true rfl) (fun g H Hw => Hw _ [some (.ref a0), none] _ _ _ ⟨rfl, trivial⟩ (G_Script_addPass H Hw a0 S hp))
      exact ⟨_, _, (by cases hq : p.1 <;> rw [hq] at h <;> exact h), hm.1, rfl, fun _ => ⟨_, _, rfl⟩, (fun _ U H hK hH a r e => by cases e; exact zrecv (ci := 10) (by omega) hkd rfl U H hK hH), hm.2⟩
    · cases hp
  · cases h
def zP_Reader_passLine : List (List (Nat × zE)) := [[(0, e1 (.aload_n 0) 1 0), (1, e1 (.aload_n 0) 2 0), (2, e3 (.getfield 31) 5 7 3 2), (5, e3 (.invokevirtual 131) 8 0 1 0), (8, e3 (.putfield 35) 11 7 4 2), (11, e1 (.aload_n 0) 12 0), (12, e3 (.getfield 35) 15 7 4 3), (15, e1 (.ifnonnull 5) 18 20)],
  [(18, ei (.iconst 5) 19 0 (5)), (19, e0 (.ireturn) 20), (20, e1 (.aload_n 0) 21 0), (21, e3 (.invokevirtual 44) 24 1 1 0), (24, e1 (.aload_n 0) 25 0), (25, e3 (.ldc 135) 27 1 6 0), (27, e3 (.invokevirtual 68) 30 2 2 0), (30, e1 (.ifCond .eq 15) 33 45)],
  [(33, e1 (.aload_n 0) 34 0), (34, e3 (.getfield 35) 37 7 4 2), (37, ei (.iconst 1) 38 0 (1)), (38, e3 (.putfield 137) 41 5 4 1), (41, e1 (.aload_n 0) 42 0), (42, e3 (.invokevirtual 44) 45 1 1 0), (45, ei (.iconst 0) 46 0 (0)), (46, e0 (.ireturn) 47)]]
noncomputable def zE_Reader_passLine (α : Type) : Nat → zX α := fun i => bif Nat.beq i 0 then zA_vR_N 10 f_Script_addPass else bif Nat.beq i 1 then zA_vR_V 7 f_Reader_next else bif Nat.beq i 2 then zA_vRR_I 7 f_Reader_is else fun _ _ _ => none
def zc_Reader_passLine : Nat → Bool := fun pc => false
set_option maxRecDepth 100000 in
theorem r_Reader_passLine (a0 : Nat) (S : zM) : f_Reader_passLine a0 S = zrt false zP_Reader_passLine (zE_Reader_passLine (Int32 × zM)) zc_Reader_passLine zkI (fun pc lv st S => none) 1000 0 [some (.ref a0)] [] S := rfl
theorem G_Reader_passLine {g : zV → Nat → List Value → zM → Prop} {res : (Int32 × zM)} (H : zCl false zP_Reader_passLine (zE_Reader_passLine (Int32 × zM)) zkI res g) (Hw : zWk g) (a0 : Nat) (S : zM) (h : f_Reader_passLine a0 S = some res) : g [some (.ref a0)] 0 [] S := by
  refine H zc_Reader_passLine _ 1000 _ _ _ _ ((r_Reader_passLine a0 S).symm.trans h) (fun pc lv st S hK => ?_)
  cases hK
set_option maxRecDepth 100000 in
theorem ok_Reader_passLine : zokT 7 [34, 19, 23] false 6 173 1 false (some .int) cX7_passLine zP_Reader_passLine = true := by decide +kernel
set_option maxRecDepth 100000 in
theorem s_Reader_passLine {l : Launch} {HB : Heap} {b L : Nat} {xs : Nat → Int32} {aK aV : Nat → Nat} {G : va_G} {tc : Nat → ClassId} (h0 : zSnd l HB b L xs aK aV G tc (zMT.getD 34 zyD) (fun α => zA_vR_N 10 f_Script_addPass)) (h1 : zSnd l HB b L xs aK aV G tc (zMT.getD 19 zyD) (fun α => zA_vR_V 7 f_Reader_next)) (h2 : zSnd l HB b L xs aK aV G tc (zMT.getD 23 zyD) (fun α => zA_vRR_I 7 f_Reader_is)) : zSnd l HB b L xs aK aV G tc (zMT.getD 35 zyD) (fun α => zA_vR_I 7 f_Reader_passLine) := by
  rw [show zMT.getD 35 zyD = (yX7_passLine, cX7_passLine, 1, (some .int), 0, 1, 6, 173) from rfl]
  intro α as S k res h
  unfold zA_vR_I at h
  dsimp only at h
  split at h
  · rename_i a0
    obtain ⟨p, hp, h⟩ := zbind h
    unfold zcl at hp
    split at hp
    · rename_i hkd
      have hm := zmeth (l := l) (HB := HB) (b := b) (L := L) (xs := xs) (aK := aK) (aV := aV) (G := G) (tc := tc) (q := (yX7_passLine, cX7_passLine, 1, (some .int), 0, 1, 6, 173)) (o := 7) (cs := [34, 19, 23]) (rz := false) (T := zP_Reader_passLine) (E := zE_Reader_passLine (Int32 × zM)) (kr := zkI) (res := p) (v0 := some (.int p.1)) (S0 := p.2) (as := [.ref a0]) (S := S) zMT_fine (by decide +kernel) (fun i as S k' h => by
        unfold zE_Reader_passLine at h
        rcases zdisf h with ⟨rfl, h⟩ | h
        · exact h0 _ _ _ _ _ h
        rcases zdisf h with ⟨rfl, h⟩ | h
        · exact h1 _ _ _ _ _ h
        rcases zdisf h with ⟨rfl, h⟩ | h
        · exact h2 _ _ _ _ _ h
        cases h) ok_Reader_passLine rfl (fun v S' h => zkI_inv h) (Nat.le_of_ble_eq_true rfl) (fun g H Hw => Hw _ [some (.ref a0)] _ _ _ ⟨rfl, trivial⟩ (G_Reader_passLine H Hw a0 S hp))
      exact ⟨_, _, h, hm.1, rfl, fun _ => ⟨_, _, rfl⟩, (fun _ U H hK hH a r e => by cases e; exact zrecv (ci := 7) (by omega) hkd rfl U H hK hH), hm.2⟩
    · cases hp
  · cases h
def zP_Row_drop : List (List (Nat × zE)) := [[(0, e1 (.aload_n 0) 1 0), (1, ei (.iconst 0) 2 0 (0)), (2, e3 (.putfield 15) 5 8 1 0), (5, e0 (.return_) 6)]]
noncomputable def zE_Row_drop (α : Type) : Nat → zX α := fun _ => fun _ _ _ => none
def zc_Row_drop : Nat → Bool := fun pc => false
set_option maxRecDepth 100000 in
theorem r_Row_drop (a0 : Nat) (S : zM) : f_Row_drop a0 S = zrt false zP_Row_drop (zE_Row_drop zM) zc_Row_drop zkV (fun pc lv st S => none) 1000 0 [some (.ref a0)] [] S := rfl
theorem G_Row_drop {g : zV → Nat → List Value → zM → Prop} {res : zM} (H : zCl false zP_Row_drop (zE_Row_drop zM) zkV res g) (Hw : zWk g) (a0 : Nat) (S : zM) (h : f_Row_drop a0 S = some res) : g [some (.ref a0)] 0 [] S := by
  refine H zc_Row_drop _ 1000 _ _ _ _ ((r_Row_drop a0 S).symm.trans h) (fun pc lv st S hK => ?_)
  cases hK
set_option maxRecDepth 100000 in
theorem ok_Row_drop : zokT 8 [] false 0 0 1 false none cX8_drop zP_Row_drop = true := by decide +kernel
set_option maxRecDepth 100000 in
theorem s_Row_drop {l : Launch} {HB : Heap} {b L : Nat} {xs : Nat → Int32} {aK aV : Nat → Nat} {G : va_G} {tc : Nat → ClassId} : zSnd l HB b L xs aK aV G tc (zMT.getD 36 zyD) (fun α => zA_vR_V 8 f_Row_drop) := by
  rw [show zMT.getD 36 zyD = (yX8_drop, cX8_drop, 1, none, 0, 1, 0, 0) from rfl]
  intro α as S k res h
  unfold zA_vR_V at h
  dsimp only at h
  split at h
  · rename_i a0
    obtain ⟨p, hp, h⟩ := zbind h
    unfold zcl at hp
    split at hp
    · rename_i hkd
      have hm := zmeth (l := l) (HB := HB) (b := b) (L := L) (xs := xs) (aK := aK) (aV := aV) (G := G) (tc := tc) (q := (yX8_drop, cX8_drop, 1, none, 0, 1, 0, 0)) (o := 8) (cs := []) (rz := false) (T := zP_Row_drop) (E := zE_Row_drop zM) (kr := zkV) (res := p) (v0 := none) (S0 := p) (as := [.ref a0]) (S := S) zMT_fine (by decide +kernel) (fun i as S k' h => by
        unfold zE_Row_drop at h
        cases h) ok_Row_drop rfl (fun v S' h => zkV_inv h) (Nat.le_of_ble_eq_true rfl) (fun g H Hw => Hw _ [some (.ref a0)] _ _ _ ⟨rfl, trivial⟩ (G_Row_drop H Hw a0 S hp))
      exact ⟨_, _, h, hm.1, rfl, fun _ => ⟨_, _, rfl⟩, (fun _ U H hK hH a r e => by cases e; exact zrecv (ci := 8) (by omega) hkd rfl U H hK hH), hm.2⟩
    · cases hp
  · cases h
def zP_Rule_drop : List (List (Nat × zE)) := [[(0, e1 (.aload_n 0) 1 0), (1, e3 (.getfield 14) 4 9 0 2), (4, e3 (.invokevirtual 23) 7 0 1 0), (7, e1 (.aload_n 0) 8 0), (8, e3 (.getfield 20) 11 9 1 2), (11, e3 (.invokevirtual 23) 14 0 1 0), (14, e1 (.aload_n 0) 15 0), (15, ei (.sipush 511) 18 0 (511))],
  [(18, e3 (.putfield 26) 21 9 2 0), (21, e1 (.aload_n 0) 22 0), (22, ei (.sipush 511) 25 0 (511)), (25, e3 (.putfield 30) 28 9 3 0), (28, e0 (.return_) 29)]]
noncomputable def zE_Rule_drop (α : Type) : Nat → zX α := fun i => bif Nat.beq i 0 then zA_vR_V 8 f_Row_drop else fun _ _ _ => none
def zc_Rule_drop : Nat → Bool := fun pc => false
set_option maxRecDepth 100000 in
theorem r_Rule_drop (a0 : Nat) (S : zM) : f_Rule_drop a0 S = zrt false zP_Rule_drop (zE_Rule_drop zM) zc_Rule_drop zkV (fun pc lv st S => none) 1000 0 [some (.ref a0)] [] S := rfl
theorem G_Rule_drop {g : zV → Nat → List Value → zM → Prop} {res : zM} (H : zCl false zP_Rule_drop (zE_Rule_drop zM) zkV res g) (Hw : zWk g) (a0 : Nat) (S : zM) (h : f_Rule_drop a0 S = some res) : g [some (.ref a0)] 0 [] S := by
  refine H zc_Rule_drop _ 1000 _ _ _ _ ((r_Rule_drop a0 S).symm.trans h) (fun pc lv st S hK => ?_)
  cases hK
set_option maxRecDepth 100000 in
theorem ok_Rule_drop : zokT 9 [36] false 1 20 1 false none cX9_drop zP_Rule_drop = true := by decide +kernel
set_option maxRecDepth 100000 in
theorem s_Rule_drop {l : Launch} {HB : Heap} {b L : Nat} {xs : Nat → Int32} {aK aV : Nat → Nat} {G : va_G} {tc : Nat → ClassId} (h0 : zSnd l HB b L xs aK aV G tc (zMT.getD 36 zyD) (fun α => zA_vR_V 8 f_Row_drop)) : zSnd l HB b L xs aK aV G tc (zMT.getD 37 zyD) (fun α => zA_vR_V 9 f_Rule_drop) := by
  rw [show zMT.getD 37 zyD = (yX9_drop, cX9_drop, 1, none, 0, 1, 1, 20) from rfl]
  intro α as S k res h
  unfold zA_vR_V at h
  dsimp only at h
  split at h
  · rename_i a0
    obtain ⟨p, hp, h⟩ := zbind h
    unfold zcl at hp
    split at hp
    · rename_i hkd
      have hm := zmeth (l := l) (HB := HB) (b := b) (L := L) (xs := xs) (aK := aK) (aV := aV) (G := G) (tc := tc) (q := (yX9_drop, cX9_drop, 1, none, 0, 1, 1, 20)) (o := 9) (cs := [36]) (rz := false) (T := zP_Rule_drop) (E := zE_Rule_drop zM) (kr := zkV) (res := p) (v0 := none) (S0 := p) (as := [.ref a0]) (S := S) zMT_fine (by decide +kernel) (fun i as S k' h => by
        unfold zE_Rule_drop at h
        rcases zdisf h with ⟨rfl, h⟩ | h
        · exact h0 _ _ _ _ _ h
        cases h) ok_Rule_drop rfl (fun v S' h => zkV_inv h) (Nat.le_of_ble_eq_true rfl) (fun g H Hw => Hw _ [some (.ref a0)] _ _ _ ⟨rfl, trivial⟩ (G_Rule_drop H Hw a0 S hp))
      exact ⟨_, _, h, hm.1, rfl, fun _ => ⟨_, _, rfl⟩, (fun _ U H hK hH a r e => by cases e; exact zrecv (ci := 9) (by omega) hkd rfl U H hK hH), hm.2⟩
    · cases hp
  · cases h
def zP_Pass_addRule : List (List (Nat × zE)) := [[(0, e1 (.aload_n 0) 1 0), (1, e3 (.getfield 28) 4 5 3 0), (4, ei (.bipush 8) 6 0 (8)), (6, e1 (.if_icmp .lt 5) 9 11), (9, e0 (.aconst_null) 10), (10, e0 (.areturn) 11), (11, e1 (.aload_n 0) 12 0), (12, e3 (.getfield 11) 15 5 0 2), (15, e1 (.aload_n 0) 16 0)],
  [(16, e3 (.getfield 28) 19 5 3 0), (19, e3 (.aaload) 20 9 0 3), (20, e1 (.astore_n 1) 21 1), (21, e1 (.aload_n 1) 22 1), (22, e1 (.ifnull 17) 25 39), (25, e1 (.aload_n 1) 26 1), (26, e3 (.invokevirtual 39) 29 0 1 0), (29, e1 (.aload_n 0) 30 0), (30, e0 (.dup) 31), (31, e3 (.getfield 28) 34 5 3 0)],
  [(34, ei (.iconst 1) 35 0 (1)), (35, e0 (.iadd) 36), (36, e3 (.putfield 28) 39 5 3 0), (39, e1 (.aload_n 1) 40 1), (40, e0 (.areturn) 41)]]
noncomputable def zE_Pass_addRule (α : Type) : Nat → zX α := fun i => bif Nat.beq i 0 then zA_vR_V 9 f_Rule_drop else fun _ _ _ => none
def zc_Pass_addRule : Nat → Bool := fun pc => false
set_option maxRecDepth 100000 in
theorem r_Pass_addRule (a0 : Nat) (S : zM) : f_Pass_addRule a0 S = zrt false zP_Pass_addRule (zE_Pass_addRule (Option Nat × zM)) zc_Pass_addRule zkN (fun pc lv st S => none) 1000 0 [some (.ref a0), none] [] S := rfl
theorem G_Pass_addRule {g : zV → Nat → List Value → zM → Prop} {res : (Option Nat × zM)} (H : zCl false zP_Pass_addRule (zE_Pass_addRule (Option Nat × zM)) zkN res g) (Hw : zWk g) (a0 : Nat) (S : zM) (h : f_Pass_addRule a0 S = some res) : g [some (.ref a0), none] 0 [] S := by
  refine H zc_Pass_addRule _ 1000 _ _ _ _ ((r_Pass_addRule a0 S).symm.trans h) (fun pc lv st S hK => ?_)
  cases hK
set_option maxRecDepth 100000 in
theorem ok_Pass_addRule : zokT 5 [37] false 2 40 2 false (some (.object "CarriedLetters$Rule")) cX5_addRule zP_Pass_addRule = true := by decide +kernel
set_option maxRecDepth 100000 in
theorem s_Pass_addRule {l : Launch} {HB : Heap} {b L : Nat} {xs : Nat → Int32} {aK aV : Nat → Nat} {G : va_G} {tc : Nat → ClassId} (h0 : zSnd l HB b L xs aK aV G tc (zMT.getD 37 zyD) (fun α => zA_vR_V 9 f_Rule_drop)) : zSnd l HB b L xs aK aV G tc (zMT.getD 38 zyD) (fun α => zA_vR_N 5 f_Pass_addRule) := by
  rw [show zMT.getD 38 zyD = (yX5_addRule, cX5_addRule, 2, (some (.object "CarriedLetters$Rule")), 0, 1, 2, 40) from rfl]
  intro α as S k res h
  unfold zA_vR_N at h
  dsimp only at h
  split at h
  · rename_i a0
    obtain ⟨p, hp, h⟩ := zbind h
    unfold zcl at hp
    split at hp
    · rename_i hkd
      have hm := zmeth (l := l) (HB := HB) (b := b) (L := L) (xs := xs) (aK := aK) (aV := aV) (G := G) (tc := tc) (q := (yX5_addRule, cX5_addRule, 2, (some (.object "CarriedLetters$Rule")), 0, 1, 2, 40)) (o := 5) (cs := [37]) (rz := false) (T := zP_Pass_addRule) (E := zE_Pass_addRule (Option Nat × zM)) (kr := zkN) (res := p) (v0 := some (match p.1 with | some a => .ref a | none => .null)) (S0 := p.2) (as := [.ref a0]) (S := S) zMT_fine (by decide +kernel) (fun i as S k' h => by
        unfold zE_Pass_addRule at h
        rcases zdisf h with ⟨rfl, h⟩ | h
        · exact h0 _ _ _ _ _ h
        cases h) ok_Pass_addRule rfl (fun v S' h => zkN_inv h) (Nat.le_of_ble_eq_true rfl) (fun g H Hw => Hw _ [some (.ref a0), none] _ _ _ ⟨rfl, trivial⟩ (G_Pass_addRule H Hw a0 S hp))
      exact ⟨_, _, (by cases hq : p.1 <;> rw [hq] at h <;> exact h), hm.1, rfl, fun _ => ⟨_, _, rfl⟩, (fun _ U H hK hH a r e => by cases e; exact zrecv (ci := 5) (by omega) hkd rfl U H hK hH), hm.2⟩
    · cases hp
  · cases h
def zP_Reader_sideBits : List (List (Nat × zE)) := [[(0, e1 (.aload_n 0) 1 0), (1, e3 (.ldc 180) 3 1 11 0), (3, e3 (.invokevirtual 68) 6 0 2 0), (6, e1 (.ifCond .eq 10) 9 16), (9, ei (.sipush 256) 12 0 (256)), (12, e1 (.istore_n 1) 13 1), (13, e1 (.goto 61) 16 74)],
  [(16, e1 (.aload_n 0) 17 0), (17, ei (.iconst 1) 18 0 (1)), (18, e3 (.invokevirtual 115) 21 1 2 0), (21, e1 (.ifCond .eq 11) 24 32), (24, e1 (.aload_n 0) 25 0), (25, e3 (.invokevirtual 119) 28 2 1 0), (28, e1 (.istore_n 1) 29 1), (29, e1 (.goto 45) 32 74)],
  [(32, e1 (.aload_n 0) 33 0), (33, e3 (.getfield 51) 36 7 5 0), (36, ei (.iconst 1) 37 0 (1)), (37, e1 (.if_icmp .ne 23) 40 60), (40, e1 (.aload_n 0) 41 0), (41, e3 (.getfield 28) 44 7 2 0), (44, e1 (.aload_n 0) 45 0), (45, e3 (.getfield 58) 48 7 6 0)],
  [(48, e0 (.isub) 49), (49, ei (.iconst 1) 50 0 (1)), (50, e1 (.if_icmp .eq 10) 53 60), (53, e1 (.aload_n 0) 54 0), (54, e3 (.invokevirtual 101) 57 3 1 0), (57, e1 (.ifCond .eq 5) 60 62), (60, ei (.iconst (-1)) 61 0 (-1)), (61, e0 (.ireturn) 62), (62, e1 (.aload_n 0) 63 0), (63, e3 (.getfield 31) 66 7 3 2)],
  [(66, e1 (.aload_n 0) 67 0), (67, e3 (.invokevirtual 105) 70 4 1 0), (70, e3 (.invokevirtual 109) 73 5 2 0), (73, e1 (.istore_n 1) 74 1), (74, e1 (.iload_n 1) 75 1), (75, ei (.iconst (-1)) 76 0 (-1)), (76, e1 (.if_icmp .ne 6) 79 82), (79, ei (.bipush (-4)) 81 0 (-4))],
  [(81, e0 (.ireturn) 82), (82, e1 (.aload_n 0) 83 0), (83, e3 (.invokevirtual 44) 86 6 1 0), (86, e1 (.iload_n 1) 87 1), (87, e0 (.ireturn) 88)]]
noncomputable def zE_Reader_sideBits (α : Type) : Nat → zX α := fun i => bif Nat.beq i 0 then zA_vRR_I 7 f_Reader_is else bif Nat.beq i 1 then zA_vRI_I 7 f_Reader_areLetters else bif Nat.beq i 2 then zA_vR_I 7 f_Reader_letterBits else bif Nat.beq i 3 then zA_vR_I 7 f_Reader_isKept else bif Nat.beq i 4 then zA_vR_J 7 f_Reader_nameHere else bif Nat.beq i 5 then zA_vRJ_I 10 f_Script_lettersOfKind else bif Nat.beq i 6 then zA_vR_V 7 f_Reader_next else fun _ _ _ => none
def zc_Reader_sideBits : Nat → Bool := fun pc => false
set_option maxRecDepth 100000 in
theorem r_Reader_sideBits (a0 : Nat) (S : zM) : f_Reader_sideBits a0 S = zrt false zP_Reader_sideBits (zE_Reader_sideBits (Int32 × zM)) zc_Reader_sideBits zkI (fun pc lv st S => none) 1000 0 [some (.ref a0), none] [] S := rfl
theorem G_Reader_sideBits {g : zV → Nat → List Value → zM → Prop} {res : (Int32 × zM)} (H : zCl false zP_Reader_sideBits (zE_Reader_sideBits (Int32 × zM)) zkI res g) (Hw : zWk g) (a0 : Nat) (S : zM) (h : f_Reader_sideBits a0 S = some res) : g [some (.ref a0), none] 0 [] S := by
  refine H zc_Reader_sideBits _ 1000 _ _ _ _ ((r_Reader_sideBits a0 S).symm.trans h) (fun pc lv st S hK => ?_)
  cases hK
set_option maxRecDepth 100000 in
theorem ok_Reader_sideBits : zokT 7 [23, 28, 29, 25, 26, 27, 19] false 7 193 2 false (some .int) cX7_sideBits zP_Reader_sideBits = true := by decide +kernel
set_option maxRecDepth 100000 in
theorem s_Reader_sideBits {l : Launch} {HB : Heap} {b L : Nat} {xs : Nat → Int32} {aK aV : Nat → Nat} {G : va_G} {tc : Nat → ClassId} (h0 : zSnd l HB b L xs aK aV G tc (zMT.getD 23 zyD) (fun α => zA_vRR_I 7 f_Reader_is)) (h1 : zSnd l HB b L xs aK aV G tc (zMT.getD 28 zyD) (fun α => zA_vRI_I 7 f_Reader_areLetters)) (h2 : zSnd l HB b L xs aK aV G tc (zMT.getD 29 zyD) (fun α => zA_vR_I 7 f_Reader_letterBits)) (h3 : zSnd l HB b L xs aK aV G tc (zMT.getD 25 zyD) (fun α => zA_vR_I 7 f_Reader_isKept)) (h4 : zSnd l HB b L xs aK aV G tc (zMT.getD 26 zyD) (fun α => zA_vR_J 7 f_Reader_nameHere)) (h5 : zSnd l HB b L xs aK aV G tc (zMT.getD 27 zyD) (fun α => zA_vRJ_I 10 f_Script_lettersOfKind)) (h6 : zSnd l HB b L xs aK aV G tc (zMT.getD 19 zyD) (fun α => zA_vR_V 7 f_Reader_next)) : zSnd l HB b L xs aK aV G tc (zMT.getD 39 zyD) (fun α => zA_vR_I 7 f_Reader_sideBits) := by
  rw [show zMT.getD 39 zyD = (yX7_sideBits, cX7_sideBits, 2, (some .int), 0, 1, 7, 193) from rfl]
  intro α as S k res h
  unfold zA_vR_I at h
  dsimp only at h
  split at h
  · rename_i a0
    obtain ⟨p, hp, h⟩ := zbind h
    unfold zcl at hp
    split at hp
    · rename_i hkd
      have hm := zmeth (l := l) (HB := HB) (b := b) (L := L) (xs := xs) (aK := aK) (aV := aV) (G := G) (tc := tc) (q := (yX7_sideBits, cX7_sideBits, 2, (some .int), 0, 1, 7, 193)) (o := 7) (cs := [23, 28, 29, 25, 26, 27, 19]) (rz := false) (T := zP_Reader_sideBits) (E := zE_Reader_sideBits (Int32 × zM)) (kr := zkI) (res := p) (v0 := some (.int p.1)) (S0 := p.2) (as := [.ref a0]) (S := S) zMT_fine (by decide +kernel) (fun i as S k' h => by
        unfold zE_Reader_sideBits at h
        rcases zdisf h with ⟨rfl, h⟩ | h
        · exact h0 _ _ _ _ _ h
        rcases zdisf h with ⟨rfl, h⟩ | h
        · exact h1 _ _ _ _ _ h
        rcases zdisf h with ⟨rfl, h⟩ | h
        · exact h2 _ _ _ _ _ h
        rcases zdisf h with ⟨rfl, h⟩ | h
        · exact h3 _ _ _ _ _ h
        rcases zdisf h with ⟨rfl, h⟩ | h
        · exact h4 _ _ _ _ _ h
        rcases zdisf h with ⟨rfl, h⟩ | h
        · exact h5 _ _ _ _ _ h
        rcases zdisf h with ⟨rfl, h⟩ | h
        · exact h6 _ _ _ _ _ h
        cases h) ok_Reader_sideBits rfl (fun v S' h => zkI_inv h) (Nat.le_of_ble_eq_true rfl) (fun g H Hw => Hw _ [some (.ref a0), none] _ _ _ ⟨rfl, trivial⟩ (G_Reader_sideBits H Hw a0 S hp))
      exact ⟨_, _, h, hm.1, rfl, fun _ => ⟨_, _, rfl⟩, (fun _ U H hK hH a r e => by cases e; exact zrecv (ci := 7) (by omega) hkd rfl U H hK hH), hm.2⟩
    · cases hp
  · cases h
def zP_Reader_lettersInto : List (List (Nat × zE)) := [[(0, e1 (.aload_n 0) 1 0), (1, e1 (.iload_n 2) 2 2), (2, e3 (.invokevirtual 115) 5 0 2 0), (5, e1 (.ifCond .ne 5) 8 10), (8, ei (.iconst 1) 9 0 (1)), (9, e0 (.ireturn) 10), (10, e1 (.aload_n 0) 11 0), (11, e3 (.getfield 58) 14 7 6 0), (14, e1 (.istore_n 3) 15 3), (15, e1 (.iload_n 3) 16 3)],
  [(16, e1 (.aload_n 0) 17 0), (17, e3 (.getfield 28) 20 7 2 0), (20, e1 (.if_icmp .ge 22) 23 42), (23, e1 (.aload_n 1) 24 1), (24, e1 (.aload_n 0) 25 0), (25, e1 (.iload_n 3) 26 3), (26, e3 (.invokevirtual 91) 29 1 2 0), (29, ei (.bipush 97) 31 0 (97)), (31, e0 (.isub) 32)],
  [(32, e3 (.invokevirtual 182) 35 2 2 0), (35, e0 (.pop) 36), (36, ei (.iinc 3 1) 39 3 (1)), (39, e1 (.goto (-24)) 42 15), (42, e1 (.aload_n 0) 43 0), (43, e3 (.invokevirtual 44) 46 3 1 0), (46, ei (.iconst 0) 47 0 (0)), (47, e0 (.ireturn) 48)]]
noncomputable def zE_Reader_lettersInto (α : Type) : Nat → zX α := fun i => bif Nat.beq i 0 then zA_vRI_I 7 f_Reader_areLetters else bif Nat.beq i 1 then zA_vRI_I 7 f_Reader_byteAt else bif Nat.beq i 2 then zA_vRI_I 8 f_Row_add else bif Nat.beq i 3 then zA_vR_V 7 f_Reader_next else fun _ _ _ => none
def zc_Reader_lettersInto : Nat → Bool := fun pc => Nat.beq pc 15
def D_Reader_lettersInto_15 (k : Nat → Nat → Int32 → zM → Option (Int32 × zM)) (lv : zV) (st : List Value) (S : zM) : Option (Int32 × zM) := match lv, st with
  | [some (.ref a0), some (.ref a1), _, some (.int a3)], [] => k a0 a1 a3 S
  | _, _ => none
theorem d_Reader_lettersInto_15 {g : zV → Nat → List Value → zM → Prop} (Hw : zWk g) {k : Nat → Nat → Int32 → zM → Option (Int32 × zM)} {res : (Int32 × zM)} {lv : zV} {st : List Value} {S : zM} (h : D_Reader_lettersInto_15 k lv st S = some res) (hk : ∀ a0 a1 a3 S, k a0 a1 a3 S = some res → g [some (.ref a0), some (.ref a1), none, some (.int a3)] 15 [] S) : g lv 15 st S := by
  unfold D_Reader_lettersInto_15 at h
  split at h
  · exact Hw _ _ _ _ _ (by simp [zle]) (hk _ _ _ _  h)
  · cases h
set_option maxRecDepth 100000 in
theorem r_Reader_lettersInto_15 (n : Nat) (a0 : Nat) (a1 : Nat) (a3 : Int32) (S : zM) : L_Reader_lettersInto_15 (n + 1) a0 a1 a3 S = zrt false zP_Reader_lettersInto (zE_Reader_lettersInto (Int32 × zM)) zc_Reader_lettersInto zkI (fun pc lv st S => bif Nat.beq pc 15 then D_Reader_lettersInto_15 (L_Reader_lettersInto_15 n) lv st S else none) 1000 15 [some (.ref a0), some (.ref a1), none, some (.int a3)] [] S := rfl
theorem g_Reader_lettersInto_15 {g : zV → Nat → List Value → zM → Prop} {res : (Int32 × zM)} (H : zCl false zP_Reader_lettersInto (zE_Reader_lettersInto (Int32 × zM)) zkI res g) (Hw : zWk g) (n : Nat) : ∀ (a0 : Nat) (a1 : Nat) (a3 : Int32) (S : zM), L_Reader_lettersInto_15 n a0 a1 a3 S = some res → g [some (.ref a0), some (.ref a1), none, some (.int a3)] 15 [] S := by
  induction n with
  | zero => intro a0 a1 a3 S h; cases h
  | succ n ih =>
    intro a0 a1 a3 S h
    refine H zc_Reader_lettersInto _ 1000 _ _ _ _ ((r_Reader_lettersInto_15 n a0 a1 a3 S).symm.trans h) (fun pc lv st S hK => ?_)
    rcases zdis hK with ⟨rfl, hK⟩ | hK
    · exact d_Reader_lettersInto_15 Hw hK ih
    cases hK
set_option maxRecDepth 100000 in
theorem r_Reader_lettersInto (a0 : Nat) (a1 : Nat) (a2 : Int32) (S : zM) : f_Reader_lettersInto a0 a1 a2 S = zrt false zP_Reader_lettersInto (zE_Reader_lettersInto (Int32 × zM)) zc_Reader_lettersInto zkI (fun pc lv st S => bif Nat.beq pc 15 then D_Reader_lettersInto_15 (L_Reader_lettersInto_15 zF) lv st S else none) 1000 0 [some (.ref a0), some (.ref a1), some (.int a2), none] [] S := rfl
theorem G_Reader_lettersInto {g : zV → Nat → List Value → zM → Prop} {res : (Int32 × zM)} (H : zCl false zP_Reader_lettersInto (zE_Reader_lettersInto (Int32 × zM)) zkI res g) (Hw : zWk g) (a0 : Nat) (a1 : Nat) (a2 : Int32) (S : zM) (h : f_Reader_lettersInto a0 a1 a2 S = some res) : g [some (.ref a0), some (.ref a1), some (.int a2), none] 0 [] S := by
  refine H zc_Reader_lettersInto _ 1000 _ _ _ _ ((r_Reader_lettersInto a0 a1 a2 S).symm.trans h) (fun pc lv st S hK => ?_)
  rcases zdis hK with ⟨rfl, hK⟩ | hK
  · exact d_Reader_lettersInto_15 Hw hK (g_Reader_lettersInto_15 H Hw  zF)
  cases hK
set_option maxRecDepth 100000 in
theorem ok_Reader_lettersInto : zokT 7 [28, 21, 3, 19] false 2 43 4 false (some .int) cX7_lettersInto zP_Reader_lettersInto = true := by decide +kernel
set_option maxRecDepth 100000 in
theorem s_Reader_lettersInto {l : Launch} {HB : Heap} {b L : Nat} {xs : Nat → Int32} {aK aV : Nat → Nat} {G : va_G} {tc : Nat → ClassId} (h0 : zSnd l HB b L xs aK aV G tc (zMT.getD 28 zyD) (fun α => zA_vRI_I 7 f_Reader_areLetters)) (h1 : zSnd l HB b L xs aK aV G tc (zMT.getD 21 zyD) (fun α => zA_vRI_I 7 f_Reader_byteAt)) (h2 : zSnd l HB b L xs aK aV G tc (zMT.getD 3 zyD) (fun α => zA_vRI_I 8 f_Row_add)) (h3 : zSnd l HB b L xs aK aV G tc (zMT.getD 19 zyD) (fun α => zA_vR_V 7 f_Reader_next)) : zSnd l HB b L xs aK aV G tc (zMT.getD 40 zyD) (fun α => zA_vRRI_I 7 f_Reader_lettersInto) := by
  rw [show zMT.getD 40 zyD = (yX7_lettersInto, cX7_lettersInto, 4, (some .int), 0, 3, 2, 43) from rfl]
  intro α as S k res h
  unfold zA_vRRI_I at h
  dsimp only at h
  split at h
  · rename_i a0 a1 a2
    obtain ⟨p, hp, h⟩ := zbind h
    unfold zcl at hp
    split at hp
    · rename_i hkd
      have hm := zmeth (l := l) (HB := HB) (b := b) (L := L) (xs := xs) (aK := aK) (aV := aV) (G := G) (tc := tc) (q := (yX7_lettersInto, cX7_lettersInto, 4, (some .int), 0, 3, 2, 43)) (o := 7) (cs := [28, 21, 3, 19]) (rz := false) (T := zP_Reader_lettersInto) (E := zE_Reader_lettersInto (Int32 × zM)) (kr := zkI) (res := p) (v0 := some (.int p.1)) (S0 := p.2) (as := [.ref a0, .ref a1, .int a2]) (S := S) zMT_fine (by decide +kernel) (fun i as S k' h => by
        unfold zE_Reader_lettersInto at h
        rcases zdisf h with ⟨rfl, h⟩ | h
        · exact h0 _ _ _ _ _ h
        rcases zdisf h with ⟨rfl, h⟩ | h
        · exact h1 _ _ _ _ _ h
        rcases zdisf h with ⟨rfl, h⟩ | h
        · exact h2 _ _ _ _ _ h
        rcases zdisf h with ⟨rfl, h⟩ | h
        · exact h3 _ _ _ _ _ h
        cases h) ok_Reader_lettersInto rfl (fun v S' h => zkI_inv h) (Nat.le_of_ble_eq_true rfl) (fun g H Hw => Hw _ [some (.ref a0), some (.ref a1), some (.int a2), none] _ _ _ ⟨rfl, rfl, rfl, trivial⟩ (G_Reader_lettersInto H Hw a0 a1 a2 S hp))
      exact ⟨_, _, h, hm.1, rfl, fun _ => ⟨_, _, rfl⟩, (fun _ U H hK hH a r e => by cases e; exact zrecv (ci := 7) (by omega) hkd rfl U H hK hH), hm.2⟩
    · cases hp
  · cases h
def zP_Reader_outcomeFault : List (List (Nat × zE)) := [[(0, e1 (.aload_n 0) 1 0), (1, e3 (.ldc 173) 3 1 9 0), (3, e3 (.invokevirtual 68) 6 0 2 0), (6, e1 (.ifCond .ne 5) 9 11), (9, ei (.iconst 1) 10 0 (1)), (10, e0 (.ireturn) 11), (11, e1 (.aload_n 0) 12 0), (12, e3 (.invokevirtual 44) 15 1 1 0), (15, e1 (.aload_n 0) 16 0)],
  [(16, e3 (.ldc 175) 18 1 10 0), (18, e3 (.invokevirtual 68) 21 0 2 0), (21, e1 (.ifCond .eq 9) 24 30), (24, e1 (.aload_n 0) 25 0), (25, e3 (.invokevirtual 44) 28 1 1 0), (28, ei (.iconst 0) 29 0 (0)), (29, e0 (.ireturn) 30), (30, e1 (.aload_n 0) 31 0), (31, e1 (.aload_n 1) 32 1)],
  [(32, e3 (.getfield 177) 35 9 1 2), (35, ei (.iconst 4) 36 0 (4)), (36, e3 (.invokevirtual 160) 39 2 3 0), (39, e0 (.ireturn) 40)]]
noncomputable def zE_Reader_outcomeFault (α : Type) : Nat → zX α := fun i => bif Nat.beq i 0 then zA_vRR_I 7 f_Reader_is else bif Nat.beq i 1 then zA_vR_V 7 f_Reader_next else bif Nat.beq i 2 then zA_vRRI_I 7 f_Reader_lettersInto else fun _ _ _ => none
def zc_Reader_outcomeFault : Nat → Bool := fun pc => false
set_option maxRecDepth 100000 in
theorem r_Reader_outcomeFault (a0 : Nat) (a1 : Nat) (S : zM) : f_Reader_outcomeFault a0 a1 S = zrt false zP_Reader_outcomeFault (zE_Reader_outcomeFault (Int32 × zM)) zc_Reader_outcomeFault zkI (fun pc lv st S => none) 1000 0 [some (.ref a0), some (.ref a1)] [] S := rfl
theorem G_Reader_outcomeFault {g : zV → Nat → List Value → zM → Prop} {res : (Int32 × zM)} (H : zCl false zP_Reader_outcomeFault (zE_Reader_outcomeFault (Int32 × zM)) zkI res g) (Hw : zWk g) (a0 : Nat) (a1 : Nat) (S : zM) (h : f_Reader_outcomeFault a0 a1 S = some res) : g [some (.ref a0), some (.ref a1)] 0 [] S := by
  refine H zc_Reader_outcomeFault _ 1000 _ _ _ _ ((r_Reader_outcomeFault a0 a1 S).symm.trans h) (fun pc lv st S hK => ?_)
  cases hK
set_option maxRecDepth 100000 in
theorem ok_Reader_outcomeFault : zokT 7 [23, 19, 40] false 6 173 2 false (some .int) cX7_outcomeFault zP_Reader_outcomeFault = true := by decide +kernel
set_option maxRecDepth 100000 in
theorem s_Reader_outcomeFault {l : Launch} {HB : Heap} {b L : Nat} {xs : Nat → Int32} {aK aV : Nat → Nat} {G : va_G} {tc : Nat → ClassId} (h0 : zSnd l HB b L xs aK aV G tc (zMT.getD 23 zyD) (fun α => zA_vRR_I 7 f_Reader_is)) (h1 : zSnd l HB b L xs aK aV G tc (zMT.getD 19 zyD) (fun α => zA_vR_V 7 f_Reader_next)) (h2 : zSnd l HB b L xs aK aV G tc (zMT.getD 40 zyD) (fun α => zA_vRRI_I 7 f_Reader_lettersInto)) : zSnd l HB b L xs aK aV G tc (zMT.getD 41 zyD) (fun α => zA_vRR_I 7 f_Reader_outcomeFault) := by
  rw [show zMT.getD 41 zyD = (yX7_outcomeFault, cX7_outcomeFault, 2, (some .int), 0, 2, 6, 173) from rfl]
  intro α as S k res h
  unfold zA_vRR_I at h
  dsimp only at h
  split at h
  · rename_i a0 a1
    obtain ⟨p, hp, h⟩ := zbind h
    unfold zcl at hp
    split at hp
    · rename_i hkd
      have hm := zmeth (l := l) (HB := HB) (b := b) (L := L) (xs := xs) (aK := aK) (aV := aV) (G := G) (tc := tc) (q := (yX7_outcomeFault, cX7_outcomeFault, 2, (some .int), 0, 2, 6, 173)) (o := 7) (cs := [23, 19, 40]) (rz := false) (T := zP_Reader_outcomeFault) (E := zE_Reader_outcomeFault (Int32 × zM)) (kr := zkI) (res := p) (v0 := some (.int p.1)) (S0 := p.2) (as := [.ref a0, .ref a1]) (S := S) zMT_fine (by decide +kernel) (fun i as S k' h => by
        unfold zE_Reader_outcomeFault at h
        rcases zdisf h with ⟨rfl, h⟩ | h
        · exact h0 _ _ _ _ _ h
        rcases zdisf h with ⟨rfl, h⟩ | h
        · exact h1 _ _ _ _ _ h
        rcases zdisf h with ⟨rfl, h⟩ | h
        · exact h2 _ _ _ _ _ h
        cases h) ok_Reader_outcomeFault rfl (fun v S' h => zkI_inv h) (Nat.le_of_ble_eq_true rfl) (fun g H Hw => Hw _ [some (.ref a0), some (.ref a1)] _ _ _ ⟨rfl, rfl, trivial⟩ (G_Reader_outcomeFault H Hw a0 a1 S hp))
      exact ⟨_, _, h, hm.1, rfl, fun _ => ⟨_, _, rfl⟩, (fun _ U H hK hH a r e => by cases e; exact zrecv (ci := 7) (by omega) hkd rfl U H hK hH), hm.2⟩
    · cases hp
  · cases h
