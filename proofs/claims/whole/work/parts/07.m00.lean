def zP_Row_add : List (List (Nat × zE)) := [[(0, e1 (.aload_n 0) 1 0), (1, e3 (.getfield 15) 4 8 1 0), (4, e1 (.aload_n 0) 5 0), (5, e3 (.getfield 9) 8 8 0 2), (8, e0 (.arraylength) 9), (9, e1 (.if_icmp .lt 5) 12 14), (12, ei (.iconst 0) 13 0 (0)), (13, e0 (.ireturn) 14), (14, e1 (.aload_n 0) 15 0), (15, e3 (.getfield 9) 18 8 0 2)],
  [(18, e1 (.aload_n 0) 19 0), (19, e3 (.getfield 15) 22 8 1 0), (22, e1 (.iload_n 1) 23 1), (23, ei (.bipush 7) 25 0 (7)), (25, e0 (.iand) 26), (26, e0 (.iastore) 27), (27, e1 (.aload_n 0) 28 0), (28, e0 (.dup) 29), (29, e3 (.getfield 15) 32 8 1 0)],
  [(32, ei (.iconst 1) 33 0 (1)), (33, e0 (.iadd) 34), (34, e3 (.putfield 15) 37 8 1 0), (37, ei (.iconst 1) 38 0 (1)), (38, e0 (.ireturn) 39)]]
noncomputable def zE_Row_add (α : Type) : Nat → zX α := fun _ => fun _ _ _ => none
def zc_Row_add : Nat → Bool := fun pc => false
set_option maxRecDepth 100000 in
theorem r_Row_add (a0 : Nat) (a1 : Int32) (S : zM) : f_Row_add a0 a1 S = zrt true zP_Row_add (zE_Row_add (Int32 × zM)) zc_Row_add zkI (fun pc lv st S => none) 1000 0 [some (.ref a0), some (.int a1)] [] S := rfl
theorem G_Row_add {g : zV → Nat → List Value → zM → Prop} {res : (Int32 × zM)} (H : zCl true zP_Row_add (zE_Row_add (Int32 × zM)) zkI res g) (Hw : zWk g) (a0 : Nat) (a1 : Int32) (S : zM) (h : f_Row_add a0 a1 S = some res) : g [some (.ref a0), some (.int a1)] 0 [] S := by
  refine H zc_Row_add _ 1000 _ _ _ _ ((r_Row_add a0 a1 S).symm.trans h) (fun pc lv st S hK => ?_)
  cases hK
set_option maxRecDepth 100000 in
theorem ok_Row_add : zokT 8 [] false 0 0 2 true (some .boolean) cX8_add zP_Row_add = true := by decide +kernel
set_option maxRecDepth 100000 in
theorem s_Row_add {l : Launch} {HB : Heap} {b L : Nat} {xs : Nat → Int32} {aK aV : Nat → Nat} {G : va_G} {tc : Nat → ClassId} : zSnd l HB b L xs aK aV G tc (zMT.getD 3 zyD) (fun α => zA_vRI_I 8 f_Row_add) := by
  rw [show zMT.getD 3 zyD = (yX8_add, cX8_add, 2, (some .boolean), 0, 2, 0, 0) from rfl]
  intro α as S k res h
  unfold zA_vRI_I at h
  dsimp only at h
  split at h
  · rename_i a0 a1
    obtain ⟨p, hp, h⟩ := zbind h
    unfold zcl at hp
    split at hp
    · rename_i hkd
      have hm := zmeth (l := l) (HB := HB) (b := b) (L := L) (xs := xs) (aK := aK) (aV := aV) (G := G) (tc := tc) (q := (yX8_add, cX8_add, 2, (some .boolean), 0, 2, 0, 0)) (o := 8) (cs := []) (rz := true) (T := zP_Row_add) (E := zE_Row_add (Int32 × zM)) (kr := zkI) (res := p) (v0 := some (.int p.1)) (S0 := p.2) (as := [.ref a0, .int a1]) (S := S) zMT_fine (by decide +kernel) (fun i as S k' h => by
        unfold zE_Row_add at h
        cases h) ok_Row_add rfl (fun v S' h => zkI_inv h) (Nat.le_of_ble_eq_true rfl) (fun g H Hw => Hw _ [some (.ref a0), some (.int a1)] _ _ _ ⟨rfl, rfl, trivial⟩ (G_Row_add H Hw a0 a1 S hp))
      exact ⟨_, _, h, hm.1, rfl, fun _ => ⟨_, _, rfl⟩, fun _ U H hK hH a r e => by cases e; exact zrecv (ci := 8) (by omega) hkd rfl U H hK hH, hm.2⟩
    · cases hp
  · cases h
def zP_Row_drop : List (List (Nat × zE)) := [[(0, e1 (.aload_n 0) 1 0), (1, ei (.iconst 0) 2 0 (0)), (2, e3 (.putfield 15) 5 8 1 0), (5, e0 (.return_) 6)]]
noncomputable def zE_Row_drop (α : Type) : Nat → zX α := fun _ => fun _ _ _ => none
def zc_Row_drop : Nat → Bool := fun pc => false
set_option maxRecDepth 100000 in
theorem r_Row_drop (a0 : Nat) (S : zM) : f_Row_drop a0 S = zrt false zP_Row_drop (zE_Row_drop zM) zc_Row_drop zkV (fun pc lv st S => none) 1000 0 [some (.ref a0)] [] S := rfl
theorem G_Row_drop {g : zV → Nat → List Value → zM → Prop} {res : zM} (H : zCl false zP_Row_drop (zE_Row_drop zM) zkV res g) (Hw : zWk g) (a0 : Nat) (S : zM) (h : f_Row_drop a0 S = some res) : g [some (.ref a0)] 0 [] S := by
  refine H zc_Row_drop _ 1000 _ _ _ _ ((r_Row_drop a0 S).symm.trans h) (fun pc lv st S hK => ?_)
  cases hK
set_option maxRecDepth 100000 in
theorem ok_Row_drop : zokT 8 [] false 0 0 1 false none cX8_drop zP_Row_drop = true := by decide +kernel
set_option maxRecDepth 100000 in
theorem s_Row_drop {l : Launch} {HB : Heap} {b L : Nat} {xs : Nat → Int32} {aK aV : Nat → Nat} {G : va_G} {tc : Nat → ClassId} : zSnd l HB b L xs aK aV G tc (zMT.getD 36 zyD) (fun α => zA_vR_V 8 f_Row_drop) := by
  rw [show zMT.getD 36 zyD = (yX8_drop, cX8_drop, 1, none, 0, 1, 0, 0) from rfl]
  intro α as S k res h
  unfold zA_vR_V at h
  dsimp only at h
  split at h
  · rename_i a0
    obtain ⟨p, hp, h⟩ := zbind h
    unfold zcl at hp
    split at hp
    · rename_i hkd
      have hm := zmeth (l := l) (HB := HB) (b := b) (L := L) (xs := xs) (aK := aK) (aV := aV) (G := G) (tc := tc) (q := (yX8_drop, cX8_drop, 1, none, 0, 1, 0, 0)) (o := 8) (cs := []) (rz := false) (T := zP_Row_drop) (E := zE_Row_drop zM) (kr := zkV) (res := p) (v0 := none) (S0 := p) (as := [.ref a0]) (S := S) zMT_fine (by decide +kernel) (fun i as S k' h => by
        unfold zE_Row_drop at h
        cases h) ok_Row_drop rfl (fun v S' h => zkV_inv h) (Nat.le_of_ble_eq_true rfl) (fun g H Hw => Hw _ [some (.ref a0)] _ _ _ ⟨rfl, trivial⟩ (G_Row_drop H Hw a0 S hp))
      exact ⟨_, _, h, hm.1, rfl, fun _ => ⟨_, _, rfl⟩, fun _ U H hK hH a r e => by cases e; exact zrecv (ci := 8) (by omega) hkd rfl U H hK hH, hm.2⟩
    · cases hp
  · cases h
def zP_Row_at : List (List (Nat × zE)) := [[(0, e1 (.iload_n 1) 1 1), (1, e1 (.ifCond .lt 20) 4 21), (4, e1 (.iload_n 1) 5 1), (5, e1 (.aload_n 0) 6 0), (6, e3 (.getfield 15) 9 8 1 0), (9, e1 (.if_icmp .ge 12) 12 21), (12, e1 (.iload_n 1) 13 1), (13, e1 (.aload_n 0) 14 0), (14, e3 (.getfield 9) 17 8 0 2)],
  [(17, e0 (.arraylength) 18), (18, e1 (.if_icmp .lt 7) 21 25), (21, ei (.iconst (-1)) 22 0 (-1)), (22, e1 (.goto 9) 25 31), (25, e1 (.aload_n 0) 26 0), (26, e3 (.getfield 9) 29 8 0 2), (29, e1 (.iload_n 1) 30 1), (30, e0 (.iaload) 31), (31, e0 (.ireturn) 32)]]
noncomputable def zE_Row_at (α : Type) : Nat → zX α := fun _ => fun _ _ _ => none
def zc_Row_at : Nat → Bool := fun pc => false
set_option maxRecDepth 100000 in
theorem r_Row_at (a0 : Nat) (a1 : Int32) (S : zM) : f_Row_at a0 a1 S = zrt false zP_Row_at (zE_Row_at (Int32 × zM)) zc_Row_at zkI (fun pc lv st S => none) 1000 0 [some (.ref a0), some (.int a1)] [] S := rfl
theorem G_Row_at {g : zV → Nat → List Value → zM → Prop} {res : (Int32 × zM)} (H : zCl false zP_Row_at (zE_Row_at (Int32 × zM)) zkI res g) (Hw : zWk g) (a0 : Nat) (a1 : Int32) (S : zM) (h : f_Row_at a0 a1 S = some res) : g [some (.ref a0), some (.int a1)] 0 [] S := by
  refine H zc_Row_at _ 1000 _ _ _ _ ((r_Row_at a0 a1 S).symm.trans h) (fun pc lv st S hK => ?_)
  cases hK
set_option maxRecDepth 100000 in
theorem ok_Row_at : zokT 8 [] false 0 0 2 false (some .int) cX8_at zP_Row_at = true := by decide +kernel
set_option maxRecDepth 100000 in
theorem s_Row_at {l : Launch} {HB : Heap} {b L : Nat} {xs : Nat → Int32} {aK aV : Nat → Nat} {G : va_G} {tc : Nat → ClassId} : zSnd l HB b L xs aK aV G tc (zMT.getD 50 zyD) (fun α => zA_vRI_I 8 f_Row_at) := by
  rw [show zMT.getD 50 zyD = (yX8_at, cX8_at, 2, (some .int), 0, 2, 0, 0) from rfl]
  intro α as S k res h
  unfold zA_vRI_I at h
  dsimp only at h
  split at h
  · rename_i a0 a1
    obtain ⟨p, hp, h⟩ := zbind h
    unfold zcl at hp
    split at hp
    · rename_i hkd
      have hm := zmeth (l := l) (HB := HB) (b := b) (L := L) (xs := xs) (aK := aK) (aV := aV) (G := G) (tc := tc) (q := (yX8_at, cX8_at, 2, (some .int), 0, 2, 0, 0)) (o := 8) (cs := []) (rz := false) (T := zP_Row_at) (E := zE_Row_at (Int32 × zM)) (kr := zkI) (res := p) (v0 := some (.int p.1)) (S0 := p.2) (as := [.ref a0, .int a1]) (S := S) zMT_fine (by decide +kernel) (fun i as S k' h => by
        unfold zE_Row_at at h
        cases h) ok_Row_at rfl (fun v S' h => zkI_inv h) (Nat.le_of_ble_eq_true rfl) (fun g H Hw => Hw _ [some (.ref a0), some (.int a1)] _ _ _ ⟨rfl, rfl, trivial⟩ (G_Row_at H Hw a0 a1 S hp))
      exact ⟨_, _, h, hm.1, rfl, fun _ => ⟨_, _, rfl⟩, fun _ U H hK hH a r e => by cases e; exact zrecv (ci := 8) (by omega) hkd rfl U H hK hH, hm.2⟩
    · cases hp
  · cases h
def zP_Row_takeWord : List (List (Nat × zE)) := [[(0, e1 (.aload_n 0) 1 0), (1, e3 (.invokevirtual 25) 4 0 1 0), (4, ei (.bipush 56) 6 0 (56)), (6, e1 (.istore_n 3) 7 3), (7, e1 (.iload_n 3) 8 3), (8, e1 (.ifCond .lt 60) 11 68), (11, e1 (.lload_n 1) 12 1), (12, e1 (.iload_n 3) 13 3), (13, e0 (.lushr) 14), (14, e0 (.l2i) 15), (15, ei (.sipush 255) 18 0 (255))],
  [(18, e0 (.iand) 19), (19, e1 (.istore 4) 21 4), (21, e1 (.iload 4) 23 4), (23, e1 (.ifCond .ne 13) 26 36), (26, e1 (.aload_n 0) 27 0), (27, e3 (.getfield 15) 30 8 1 0), (30, e1 (.ifCond .ne 6) 33 36)],
  [(33, e1 (.goto 29) 36 62), (36, e1 (.iload 4) 38 4), (38, ei (.bipush 97) 40 0 (97)), (40, e1 (.if_icmp .lt 10) 43 50), (43, e1 (.iload 4) 45 4), (45, ei (.bipush 104) 47 0 (104)), (47, e1 (.if_icmp .le 5) 50 52)],
  [(50, ei (.iconst 0) 51 0 (0)), (51, e0 (.ireturn) 52), (52, e1 (.aload_n 0) 53 0), (53, e1 (.iload 4) 55 4), (55, ei (.bipush 97) 57 0 (97)), (57, e0 (.isub) 58), (58, e3 (.invokevirtual 40) 61 1 2 0), (61, e0 (.pop) 62), (62, ei (.iinc 3 (-8)) 65 3 (-8))],
  [(65, e1 (.goto (-58)) 68 7), (68, e1 (.aload_n 0) 69 0), (69, e3 (.getfield 15) 72 8 1 0), (72, e1 (.ifCond .le 7) 75 79), (75, ei (.iconst 1) 76 0 (1)), (76, e1 (.goto 4) 79 80), (79, ei (.iconst 0) 80 0 (0))],
  [(80, e0 (.ireturn) 81)]]
noncomputable def zE_Row_takeWord (α : Type) : Nat → zX α := fun i => bif Nat.beq i 0 then zA_vR_V 8 f_Row_drop else bif Nat.beq i 1 then zA_vRI_I 8 f_Row_add else fun _ _ _ => none
def zc_Row_takeWord : Nat → Bool := fun pc => Nat.beq pc 7
def D_Row_takeWord_7 (k : Nat → Int64 → Int32 → zM → Option (Int32 × zM)) (lv : zV) (st : List Value) (S : zM) : Option (Int32 × zM) := match lv, st with
  | [some (.ref a0), some (.long a1), _, some (.int a3), _], [] => k a0 a1 a3 S
  | _, _ => none
theorem d_Row_takeWord_7 {g : zV → Nat → List Value → zM → Prop} (Hw : zWk g) {k : Nat → Int64 → Int32 → zM → Option (Int32 × zM)} {res : (Int32 × zM)} {lv : zV} {st : List Value} {S : zM} (h : D_Row_takeWord_7 k lv st S = some res) (hk : ∀ a0 a1 a3 S, k a0 a1 a3 S = some res → g [some (.ref a0), some (.long a1), none, some (.int a3), none] 7 [] S) : g lv 7 st S := by
  unfold D_Row_takeWord_7 at h
  split at h
  · exact Hw _ _ _ _ _ (by simp [zle]) (hk _ _ _ _  h)
  · cases h
set_option maxRecDepth 100000 in
theorem r_Row_takeWord_7 (n : Nat) (a0 : Nat) (a1 : Int64) (a3 : Int32) (S : zM) : L_Row_takeWord_7 (n + 1) a0 a1 a3 S = zrt true zP_Row_takeWord (zE_Row_takeWord (Int32 × zM)) zc_Row_takeWord zkI (fun pc lv st S => bif Nat.beq pc 7 then D_Row_takeWord_7 (L_Row_takeWord_7 n) lv st S else none) 1000 7 [some (.ref a0), some (.long a1), none, some (.int a3), none] [] S := rfl
theorem g_Row_takeWord_7 {g : zV → Nat → List Value → zM → Prop} {res : (Int32 × zM)} (H : zCl true zP_Row_takeWord (zE_Row_takeWord (Int32 × zM)) zkI res g) (Hw : zWk g) (n : Nat) : ∀ (a0 : Nat) (a1 : Int64) (a3 : Int32) (S : zM), L_Row_takeWord_7 n a0 a1 a3 S = some res → g [some (.ref a0), some (.long a1), none, some (.int a3), none] 7 [] S := by
  induction n with
  | zero => intro a0 a1 a3 S h; cases h
  | succ n ih =>
    intro a0 a1 a3 S h
    refine H zc_Row_takeWord _ 1000 _ _ _ _ ((r_Row_takeWord_7 n a0 a1 a3 S).symm.trans h) (fun pc lv st S hK => ?_)
    rcases zdis hK with ⟨rfl, hK⟩ | hK
    · exact d_Row_takeWord_7 Hw hK ih
    cases hK
set_option maxRecDepth 100000 in
theorem r_Row_takeWord (a0 : Nat) (a1 : Int64) (S : zM) : f_Row_takeWord a0 a1 S = zrt true zP_Row_takeWord (zE_Row_takeWord (Int32 × zM)) zc_Row_takeWord zkI (fun pc lv st S => bif Nat.beq pc 7 then D_Row_takeWord_7 (L_Row_takeWord_7 zF) lv st S else none) 1000 0 [some (.ref a0), some (.long a1), none, none, none] [] S := rfl
theorem G_Row_takeWord {g : zV → Nat → List Value → zM → Prop} {res : (Int32 × zM)} (H : zCl true zP_Row_takeWord (zE_Row_takeWord (Int32 × zM)) zkI res g) (Hw : zWk g) (a0 : Nat) (a1 : Int64) (S : zM) (h : f_Row_takeWord a0 a1 S = some res) : g [some (.ref a0), some (.long a1), none, none, none] 0 [] S := by
  refine H zc_Row_takeWord _ 1000 _ _ _ _ ((r_Row_takeWord a0 a1 S).symm.trans h) (fun pc lv st S hK => ?_)
  rcases zdis hK with ⟨rfl, hK⟩ | hK
  · exact d_Row_takeWord_7 Hw hK (g_Row_takeWord_7 H Hw  zF)
  cases hK
set_option maxRecDepth 100000 in
theorem ok_Row_takeWord : zokT 8 [36, 3] false 1 21 5 true (some .boolean) cX8_takeWord zP_Row_takeWord = true := by decide +kernel
set_option maxRecDepth 100000 in
theorem s_Row_takeWord {l : Launch} {HB : Heap} {b L : Nat} {xs : Nat → Int32} {aK aV : Nat → Nat} {G : va_G} {tc : Nat → ClassId} (h0 : zSnd l HB b L xs aK aV G tc (zMT.getD 36 zyD) (fun α => zA_vR_V 8 f_Row_drop)) (h1 : zSnd l HB b L xs aK aV G tc (zMT.getD 3 zyD) (fun α => zA_vRI_I 8 f_Row_add)) : zSnd l HB b L xs aK aV G tc (zMT.getD 149 zyD) (fun α => zA_vRJ_I 8 f_Row_takeWord) := by
  rw [show zMT.getD 149 zyD = (yX8_takeWord, cX8_takeWord, 5, (some .boolean), 0, 2, 1, 21) from rfl]
  intro α as S k res h
  unfold zA_vRJ_I at h
  dsimp only at h
  split at h
  · rename_i a0 a1
    obtain ⟨p, hp, h⟩ := zbind h
    unfold zcl at hp
    split at hp
    · rename_i hkd
      have hm := zmeth (l := l) (HB := HB) (b := b) (L := L) (xs := xs) (aK := aK) (aV := aV) (G := G) (tc := tc) (q := (yX8_takeWord, cX8_takeWord, 5, (some .boolean), 0, 2, 1, 21)) (o := 8) (cs := [36, 3]) (rz := true) (T := zP_Row_takeWord) (E := zE_Row_takeWord (Int32 × zM)) (kr := zkI) (res := p) (v0 := some (.int p.1)) (S0 := p.2) (as := [.ref a0, .long a1]) (S := S) zMT_fine (by decide +kernel) (fun i as S k' h => by
        unfold zE_Row_takeWord at h
        rcases zdisf h with ⟨rfl, h⟩ | h
        · exact h0 _ _ _ _ _ h
        rcases zdisf h with ⟨rfl, h⟩ | h
        · exact h1 _ _ _ _ _ h
        cases h) ok_Row_takeWord rfl (fun v S' h => zkI_inv h) (Nat.le_of_ble_eq_true rfl) (fun g H Hw => Hw _ [some (.ref a0), some (.long a1), none, none, none] _ _ _ ⟨rfl, rfl, trivial⟩ (G_Row_takeWord H Hw a0 a1 S hp))
      exact ⟨_, _, h, hm.1, rfl, fun _ => ⟨_, _, rfl⟩, fun _ U H hK hH a r e => by cases e; exact zrecv (ci := 8) (by omega) hkd rfl U H hK hH, hm.2⟩
    · cases hp
  · cases h
def zP_Row_addAll : List (List (Nat × zE)) := [[(0, e1 (.aload_n 0) 1 0), (1, e3 (.getfield 15) 4 8 1 0), (4, e1 (.aload_n 1) 5 1), (5, e3 (.getfield 15) 8 8 1 0), (8, e0 (.iadd) 9), (9, e1 (.aload_n 0) 10 0), (10, e3 (.getfield 9) 13 8 0 2), (13, e0 (.arraylength) 14), (14, e1 (.if_icmp .le 5) 17 19)],
  [(17, ei (.iconst 0) 18 0 (0)), (18, e0 (.ireturn) 19), (19, e1 (.aload_n 1) 20 1), (20, e3 (.getfield 9) 23 8 0 2), (23, ei (.iconst 0) 24 0 (0)), (24, e1 (.aload_n 0) 25 0), (25, e3 (.getfield 9) 28 8 0 2), (28, e1 (.aload_n 0) 29 0), (29, e3 (.getfield 15) 32 8 1 0)],
  [(32, e1 (.aload_n 1) 33 1), (33, e3 (.getfield 15) 36 8 1 0), (36, e3 (.invokestatic 19) 39 998 5 0), (39, e1 (.aload_n 0) 40 0), (40, e0 (.dup) 41), (41, e3 (.getfield 15) 44 8 1 0), (44, e1 (.aload_n 1) 45 1), (45, e3 (.getfield 15) 48 8 1 0)],
  [(48, e0 (.iadd) 49), (49, e3 (.putfield 15) 52 8 1 0), (52, ei (.iconst 1) 53 0 (1)), (53, e0 (.ireturn) 54)]]
noncomputable def zE_Row_addAll (α : Type) : Nat → zX α := fun _ => fun _ _ _ => none
def zc_Row_addAll : Nat → Bool := fun pc => false
set_option maxRecDepth 100000 in
theorem r_Row_addAll (a0 : Nat) (a1 : Nat) (S : zM) : f_Row_addAll a0 a1 S = zrt true zP_Row_addAll (zE_Row_addAll (Int32 × zM)) zc_Row_addAll zkI (fun pc lv st S => none) 1000 0 [some (.ref a0), some (.ref a1)] [] S := rfl
theorem G_Row_addAll {g : zV → Nat → List Value → zM → Prop} {res : (Int32 × zM)} (H : zCl true zP_Row_addAll (zE_Row_addAll (Int32 × zM)) zkI res g) (Hw : zWk g) (a0 : Nat) (a1 : Nat) (S : zM) (h : f_Row_addAll a0 a1 S = some res) : g [some (.ref a0), some (.ref a1)] 0 [] S := by
  refine H zc_Row_addAll _ 1000 _ _ _ _ ((r_Row_addAll a0 a1 S).symm.trans h) (fun pc lv st S hK => ?_)
  cases hK
set_option maxRecDepth 100000 in
theorem ok_Row_addAll : zokT 8 [] false 1 60 2 true (some .boolean) cX8_addAll zP_Row_addAll = true := by decide +kernel
set_option maxRecDepth 100000 in
theorem s_Row_addAll {l : Launch} {HB : Heap} {b L : Nat} {xs : Nat → Int32} {aK aV : Nat → Nat} {G : va_G} {tc : Nat → ClassId} : zSnd l HB b L xs aK aV G tc (zMT.getD 165 zyD) (fun α => zA_vRR_I 8 f_Row_addAll) := by
  rw [show zMT.getD 165 zyD = (yX8_addAll, cX8_addAll, 2, (some .boolean), 0, 2, 1, 60) from rfl]
  intro α as S k res h
  unfold zA_vRR_I at h
  dsimp only at h
  split at h
  · rename_i a0 a1
    obtain ⟨p, hp, h⟩ := zbind h
    unfold zcl at hp
    split at hp
    · rename_i hkd
      have hm := zmeth (l := l) (HB := HB) (b := b) (L := L) (xs := xs) (aK := aK) (aV := aV) (G := G) (tc := tc) (q := (yX8_addAll, cX8_addAll, 2, (some .boolean), 0, 2, 1, 60)) (o := 8) (cs := []) (rz := true) (T := zP_Row_addAll) (E := zE_Row_addAll (Int32 × zM)) (kr := zkI) (res := p) (v0 := some (.int p.1)) (S0 := p.2) (as := [.ref a0, .ref a1]) (S := S) zMT_fine (by decide +kernel) (fun i as S k' h => by
        unfold zE_Row_addAll at h
        cases h) ok_Row_addAll rfl (fun v S' h => zkI_inv h) (Nat.le_of_ble_eq_true rfl) (fun g H Hw => Hw _ [some (.ref a0), some (.ref a1)] _ _ _ ⟨rfl, rfl, trivial⟩ (G_Row_addAll H Hw a0 a1 S hp))
      exact ⟨_, _, h, hm.1, rfl, fun _ => ⟨_, _, rfl⟩, fun _ U H hK hH a r e => by cases e; exact zrecv (ci := 8) (by omega) hkd rfl U H hK hH, hm.2⟩
    · cases hp
  · cases h
def zP_Row_copy : List (List (Nat × zE)) := [[(0, e1 (.aload_n 0) 1 0), (1, e3 (.invokevirtual 25) 4 0 1 0), (4, e1 (.aload_n 0) 5 0), (5, e1 (.aload_n 1) 6 1), (6, e3 (.invokevirtual 28) 9 1 2 0), (9, e0 (.pop) 10), (10, e0 (.return_) 11)]]
noncomputable def zE_Row_copy (α : Type) : Nat → zX α := fun i => bif Nat.beq i 0 then zA_vR_V 8 f_Row_drop else bif Nat.beq i 1 then zA_vRR_I 8 f_Row_addAll else fun _ _ _ => none
def zc_Row_copy : Nat → Bool := fun pc => false
set_option maxRecDepth 100000 in
theorem r_Row_copy (a0 : Nat) (a1 : Nat) (S : zM) : f_Row_copy a0 a1 S = zrt false zP_Row_copy (zE_Row_copy zM) zc_Row_copy zkV (fun pc lv st S => none) 1000 0 [some (.ref a0), some (.ref a1)] [] S := rfl
theorem G_Row_copy {g : zV → Nat → List Value → zM → Prop} {res : zM} (H : zCl false zP_Row_copy (zE_Row_copy zM) zkV res g) (Hw : zWk g) (a0 : Nat) (a1 : Nat) (S : zM) (h : f_Row_copy a0 a1 S = some res) : g [some (.ref a0), some (.ref a1)] 0 [] S := by
  refine H zc_Row_copy _ 1000 _ _ _ _ ((r_Row_copy a0 a1 S).symm.trans h) (fun pc lv st S hK => ?_)
  cases hK
set_option maxRecDepth 100000 in
theorem ok_Row_copy : zokT 8 [36, 165] false 2 81 2 false none cX8_copy zP_Row_copy = true := by decide +kernel
set_option maxRecDepth 100000 in
theorem s_Row_copy {l : Launch} {HB : Heap} {b L : Nat} {xs : Nat → Int32} {aK aV : Nat → Nat} {G : va_G} {tc : Nat → ClassId} (h0 : zSnd l HB b L xs aK aV G tc (zMT.getD 36 zyD) (fun α => zA_vR_V 8 f_Row_drop)) (h1 : zSnd l HB b L xs aK aV G tc (zMT.getD 165 zyD) (fun α => zA_vRR_I 8 f_Row_addAll)) : zSnd l HB b L xs aK aV G tc (zMT.getD 166 zyD) (fun α => zA_vRR_V 8 f_Row_copy) := by
  rw [show zMT.getD 166 zyD = (yX8_copy, cX8_copy, 2, none, 0, 2, 2, 81) from rfl]
  intro α as S k res h
  unfold zA_vRR_V at h
  dsimp only at h
  split at h
  · rename_i a0 a1
    obtain ⟨p, hp, h⟩ := zbind h
    unfold zcl at hp
    split at hp
    · rename_i hkd
      have hm := zmeth (l := l) (HB := HB) (b := b) (L := L) (xs := xs) (aK := aK) (aV := aV) (G := G) (tc := tc) (q := (yX8_copy, cX8_copy, 2, none, 0, 2, 2, 81)) (o := 8) (cs := [36, 165]) (rz := false) (T := zP_Row_copy) (E := zE_Row_copy zM) (kr := zkV) (res := p) (v0 := none) (S0 := p) (as := [.ref a0, .ref a1]) (S := S) zMT_fine (by decide +kernel) (fun i as S k' h => by
        unfold zE_Row_copy at h
        rcases zdisf h with ⟨rfl, h⟩ | h
        · exact h0 _ _ _ _ _ h
        rcases zdisf h with ⟨rfl, h⟩ | h
        · exact h1 _ _ _ _ _ h
        cases h) ok_Row_copy rfl (fun v S' h => zkV_inv h) (Nat.le_of_ble_eq_true rfl) (fun g H Hw => Hw _ [some (.ref a0), some (.ref a1)] _ _ _ ⟨rfl, rfl, trivial⟩ (G_Row_copy H Hw a0 a1 S hp))
      exact ⟨_, _, h, hm.1, rfl, fun _ => ⟨_, _, rfl⟩, fun _ U H hK hH a r e => by cases e; exact zrecv (ci := 8) (by omega) hkd rfl U H hK hH, hm.2⟩
    · cases hp
  · cases h
def zP_Row_addBlock : List (List (Nat × zE)) := [[(0, e1 (.iload_n 3) 1 3), (1, ei (.iconst 1) 2 0 (1)), (2, e0 (.isub) 3), (3, e1 (.istore 4) 5 4), (5, e1 (.iload 4) 7 4), (7, e1 (.ifCond .lt 24) 10 31), (10, e1 (.aload_n 0) 11 0), (11, e1 (.lload_n 1) 12 1), (12, ei (.iconst 3) 13 0 (3)), (13, e1 (.iload 4) 15 4), (15, e0 (.imul) 16)],
  [(16, e0 (.lushr) 17), (17, e0 (.l2i) 18), (18, ei (.bipush 7) 20 0 (7)), (20, e0 (.iand) 21), (21, e3 (.invokevirtual 40) 24 0 2 0), (24, e0 (.pop) 25), (25, ei (.iinc 4 (-1)) 28 4 (-1)), (28, e1 (.goto (-23)) 31 5), (31, e0 (.return_) 32)]]
noncomputable def zE_Row_addBlock (α : Type) : Nat → zX α := fun i => bif Nat.beq i 0 then zA_vRI_I 8 f_Row_add else fun _ _ _ => none
def zc_Row_addBlock : Nat → Bool := fun pc => Nat.beq pc 5
def D_Row_addBlock_5 (k : Nat → Int64 → Int32 → zM → Option zM) (lv : zV) (st : List Value) (S : zM) : Option zM := match lv, st with
  | [some (.ref a0), some (.long a1), _, _, some (.int a4)], [] => k a0 a1 a4 S
  | _, _ => none
theorem d_Row_addBlock_5 {g : zV → Nat → List Value → zM → Prop} (Hw : zWk g) {k : Nat → Int64 → Int32 → zM → Option zM} {res : zM} {lv : zV} {st : List Value} {S : zM} (h : D_Row_addBlock_5 k lv st S = some res) (hk : ∀ a0 a1 a4 S, k a0 a1 a4 S = some res → g [some (.ref a0), some (.long a1), none, none, some (.int a4)] 5 [] S) : g lv 5 st S := by
  unfold D_Row_addBlock_5 at h
  split at h
  · exact Hw _ _ _ _ _ (by simp [zle]) (hk _ _ _ _  h)
  · cases h
set_option maxRecDepth 100000 in
theorem r_Row_addBlock_5 (n : Nat) (a0 : Nat) (a1 : Int64) (a4 : Int32) (S : zM) : L_Row_addBlock_5 (n + 1) a0 a1 a4 S = zrt false zP_Row_addBlock (zE_Row_addBlock zM) zc_Row_addBlock zkV (fun pc lv st S => bif Nat.beq pc 5 then D_Row_addBlock_5 (L_Row_addBlock_5 n) lv st S else none) 1000 5 [some (.ref a0), some (.long a1), none, none, some (.int a4)] [] S := rfl
theorem g_Row_addBlock_5 {g : zV → Nat → List Value → zM → Prop} {res : zM} (H : zCl false zP_Row_addBlock (zE_Row_addBlock zM) zkV res g) (Hw : zWk g) (n : Nat) : ∀ (a0 : Nat) (a1 : Int64) (a4 : Int32) (S : zM), L_Row_addBlock_5 n a0 a1 a4 S = some res → g [some (.ref a0), some (.long a1), none, none, some (.int a4)] 5 [] S := by
  induction n with
  | zero => intro a0 a1 a4 S h; cases h
  | succ n ih =>
    intro a0 a1 a4 S h
    refine H zc_Row_addBlock _ 1000 _ _ _ _ ((r_Row_addBlock_5 n a0 a1 a4 S).symm.trans h) (fun pc lv st S hK => ?_)
    rcases zdis hK with ⟨rfl, hK⟩ | hK
    · exact d_Row_addBlock_5 Hw hK ih
    cases hK
set_option maxRecDepth 100000 in
theorem r_Row_addBlock (a0 : Nat) (a1 : Int64) (a3 : Int32) (S : zM) : f_Row_addBlock a0 a1 a3 S = zrt false zP_Row_addBlock (zE_Row_addBlock zM) zc_Row_addBlock zkV (fun pc lv st S => bif Nat.beq pc 5 then D_Row_addBlock_5 (L_Row_addBlock_5 zF) lv st S else none) 1000 0 [some (.ref a0), some (.long a1), none, some (.int a3), none] [] S := rfl
theorem G_Row_addBlock {g : zV → Nat → List Value → zM → Prop} {res : zM} (H : zCl false zP_Row_addBlock (zE_Row_addBlock zM) zkV res g) (Hw : zWk g) (a0 : Nat) (a1 : Int64) (a3 : Int32) (S : zM) (h : f_Row_addBlock a0 a1 a3 S = some res) : g [some (.ref a0), some (.long a1), none, some (.int a3), none] 0 [] S := by
  refine H zc_Row_addBlock _ 1000 _ _ _ _ ((r_Row_addBlock a0 a1 a3 S).symm.trans h) (fun pc lv st S hK => ?_)
  rcases zdis hK with ⟨rfl, hK⟩ | hK
  · exact d_Row_addBlock_5 Hw hK (g_Row_addBlock_5 H Hw  zF)
  cases hK
set_option maxRecDepth 100000 in
theorem ok_Row_addBlock : zokT 8 [3] false 1 21 5 false none cX8_addBlock zP_Row_addBlock = true := by decide +kernel
set_option maxRecDepth 100000 in
theorem s_Row_addBlock {l : Launch} {HB : Heap} {b L : Nat} {xs : Nat → Int32} {aK aV : Nat → Nat} {G : va_G} {tc : Nat → ClassId} (h0 : zSnd l HB b L xs aK aV G tc (zMT.getD 3 zyD) (fun α => zA_vRI_I 8 f_Row_add)) : zSnd l HB b L xs aK aV G tc (zMT.getD 274 zyD) (fun α => zA_vRJI_V 8 f_Row_addBlock) := by
  rw [show zMT.getD 274 zyD = (yX8_addBlock, cX8_addBlock, 5, none, 0, 3, 1, 21) from rfl]
  intro α as S k res h
  unfold zA_vRJI_V at h
  dsimp only at h
  split at h
  · rename_i a0 a1 a3
    obtain ⟨p, hp, h⟩ := zbind h
    unfold zcl at hp
    split at hp
    · rename_i hkd
      have hm := zmeth (l := l) (HB := HB) (b := b) (L := L) (xs := xs) (aK := aK) (aV := aV) (G := G) (tc := tc) (q := (yX8_addBlock, cX8_addBlock, 5, none, 0, 3, 1, 21)) (o := 8) (cs := [3]) (rz := false) (T := zP_Row_addBlock) (E := zE_Row_addBlock zM) (kr := zkV) (res := p) (v0 := none) (S0 := p) (as := [.ref a0, .long a1, .int a3]) (S := S) zMT_fine (by decide +kernel) (fun i as S k' h => by
        unfold zE_Row_addBlock at h
        rcases zdisf h with ⟨rfl, h⟩ | h
        · exact h0 _ _ _ _ _ h
        cases h) ok_Row_addBlock rfl (fun v S' h => zkV_inv h) (Nat.le_of_ble_eq_true rfl) (fun g H Hw => Hw _ [some (.ref a0), some (.long a1), none, some (.int a3), none] _ _ _ ⟨rfl, rfl, rfl, trivial⟩ (G_Row_addBlock H Hw a0 a1 a3 S hp))
      exact ⟨_, _, h, hm.1, rfl, fun _ => ⟨_, _, rfl⟩, fun _ U H hK hH a r e => by cases e; exact zrecv (ci := 8) (by omega) hkd rfl U H hK hH, hm.2⟩
    · cases hp
  · cases h
