def zP_Mo_changesOf : List (List (Nat × zE)) := [[(0, ei (.iconst 0) 1 0 (0)), (1, e1 (.istore_n 1) 2 1), (2, e1 (.iload_n 1) 3 1), (3, e1 (.aload_n 0) 4 0), (4, e3 (.getfield 358) 7 12 41 0), (7, e1 (.if_icmp .gt 16) 10 23), (10, e1 (.aload_n 0) 11 0), (11, e3 (.getfield 106) 14 12 57 2), (14, e1 (.iload_n 1) 15 1), (15, e1 (.iload_n 1) 16 1)],
  [(16, e0 (.iastore) 17), (17, ei (.iinc 1 1) 20 1 (1)), (20, e1 (.goto (-18)) 23 2), (23, ei (.iconst 1) 24 0 (1)), (24, e1 (.istore_n 1) 25 1), (25, e1 (.iload_n 1) 26 1), (26, e1 (.aload_n 0) 27 0), (27, e3 (.getfield 413) 30 12 56 0), (30, e1 (.if_icmp .gt 134) 33 164)],
  [(33, e1 (.aload_n 0) 34 0), (34, e3 (.getfield 106) 37 12 57 2), (37, ei (.iconst 0) 38 0 (0)), (38, e0 (.iaload) 39), (39, e1 (.istore_n 2) 40 2), (40, e1 (.aload_n 0) 41 0), (41, e3 (.getfield 106) 44 12 57 2), (44, ei (.iconst 0) 45 0 (0)), (45, e1 (.iload_n 1) 46 1), (46, e0 (.iastore) 47), (47, ei (.iconst 1) 48 0 (1))],
  [(48, e1 (.istore_n 3) 49 3), (49, e1 (.iload_n 3) 50 3), (50, e1 (.aload_n 0) 51 0), (51, e3 (.getfield 358) 54 12 41 0), (54, e1 (.if_icmp .gt 104) 57 158), (57, e1 (.aload_n 0) 58 0), (58, e3 (.getfield 106) 61 12 57 2), (61, e1 (.iload_n 3) 62 3), (62, e0 (.iaload) 63), (63, e1 (.istore 4) 65 4)],
  [(65, e1 (.iload_n 2) 66 2), (66, e1 (.aload_n 0) 67 0), (67, e3 (.getfield 103) 70 12 55 2), (70, e1 (.iload_n 1) 71 1), (71, ei (.iconst 1) 72 0 (1)), (72, e0 (.isub) 73), (73, e0 (.iaload) 74), (74, e1 (.aload_n 0) 75 0), (75, e3 (.getfield 70) 78 12 40 2), (78, e1 (.iload_n 3) 79 3), (79, ei (.iconst 1) 80 0 (1))],
  [(80, e0 (.isub) 81), (81, e0 (.iaload) 82), (82, e1 (.if_icmp .ne 7) 85 89), (85, ei (.iconst 0) 86 0 (0)), (86, e1 (.goto 4) 89 90), (89, ei (.iconst 1) 90 0 (1)), (90, e0 (.iadd) 91), (91, e1 (.istore 5) 93 5), (93, e1 (.iload 4) 95 4), (95, ei (.iconst 1) 96 0 (1))],
  [(96, e0 (.iadd) 97), (97, e1 (.iload 5) 99 5), (99, e1 (.if_icmp .ge 10) 102 109), (102, e1 (.iload 4) 104 4), (104, ei (.iconst 1) 105 0 (1)), (105, e0 (.iadd) 106), (106, e1 (.goto 5) 109 111), (109, e1 (.iload 5) 111 5), (111, e1 (.istore 5) 113 5)],
  [(113, e1 (.aload_n 0) 114 0), (114, e3 (.getfield 106) 117 12 57 2), (117, e1 (.iload_n 3) 118 3), (118, e1 (.aload_n 0) 119 0), (119, e3 (.getfield 106) 122 12 57 2), (122, e1 (.iload_n 3) 123 3), (123, ei (.iconst 1) 124 0 (1)), (124, e0 (.isub) 125), (125, e0 (.iaload) 126), (126, ei (.iconst 1) 127 0 (1)), (127, e0 (.iadd) 128)],
  [(128, e1 (.iload 5) 130 5), (130, e1 (.if_icmp .ge 16) 133 146), (133, e1 (.aload_n 0) 134 0), (134, e3 (.getfield 106) 137 12 57 2), (137, e1 (.iload_n 3) 138 3), (138, ei (.iconst 1) 139 0 (1)), (139, e0 (.isub) 140), (140, e0 (.iaload) 141), (141, ei (.iconst 1) 142 0 (1)), (142, e0 (.iadd) 143), (143, e1 (.goto 5) 146 148)],
  [(146, e1 (.iload 5) 148 5), (148, e0 (.iastore) 149), (149, e1 (.iload 4) 151 4), (151, e1 (.istore_n 2) 152 2), (152, ei (.iinc 3 1) 155 3 (1)), (155, e1 (.goto (-106)) 158 49), (158, ei (.iinc 1 1) 161 1 (1))],
  [(161, e1 (.goto (-136)) 164 25), (164, e1 (.aload_n 0) 165 0), (165, e3 (.getfield 106) 168 12 57 2), (168, e1 (.aload_n 0) 169 0), (169, e3 (.getfield 358) 172 12 41 0), (172, e0 (.iaload) 173), (173, e0 (.ireturn) 174)]]
noncomputable def zE_Mo_changesOf (α : Type) : Nat → zX α := fun _ => fun _ _ _ => none
def zc_Mo_changesOf : Nat → Bool := fun pc => Nat.beq pc 2 || Nat.beq pc 23 || Nat.beq pc 25 || Nat.beq pc 49 || Nat.beq pc 158
def D_Mo_changesOf_2 (k : Nat → Int32 → zM → Option (Int32 × zM)) (lv : zV) (st : List Value) (S : zM) : Option (Int32 × zM) := match lv, st with
  | [some (.ref a0), some (.int a1), _, _, _, _], [] => k a0 a1 S
  | _, _ => none
theorem d_Mo_changesOf_2 {g : zV → Nat → List Value → zM → Prop} (Hw : zWk g) {k : Nat → Int32 → zM → Option (Int32 × zM)} {res : (Int32 × zM)} {lv : zV} {st : List Value} {S : zM} (h : D_Mo_changesOf_2 k lv st S = some res) (hk : ∀ a0 a1 S, k a0 a1 S = some res → g [some (.ref a0), some (.int a1), none, none, none, none] 2 [] S) : g lv 2 st S := by
  unfold D_Mo_changesOf_2 at h
  split at h
  · exact Hw _ _ _ _ _ (by simp [zle]) (hk _ _ _  h)
  · cases h
def D_Mo_changesOf_23 (k : Nat → zM → Option (Int32 × zM)) (lv : zV) (st : List Value) (S : zM) : Option (Int32 × zM) := match lv, st with
  | [some (.ref a0), _, _, _, _, _], [] => k a0 S
  | _, _ => none
theorem d_Mo_changesOf_23 {g : zV → Nat → List Value → zM → Prop} (Hw : zWk g) {k : Nat → zM → Option (Int32 × zM)} {res : (Int32 × zM)} {lv : zV} {st : List Value} {S : zM} (h : D_Mo_changesOf_23 k lv st S = some res) (hk : ∀ a0 S, k a0 S = some res → g [some (.ref a0), none, none, none, none, none] 23 [] S) : g lv 23 st S := by
  unfold D_Mo_changesOf_23 at h
  split at h
  · exact Hw _ _ _ _ _ (by simp [zle]) (hk _ _  h)
  · cases h
def D_Mo_changesOf_25 (k : Nat → Int32 → zM → Option (Int32 × zM)) (lv : zV) (st : List Value) (S : zM) : Option (Int32 × zM) := match lv, st with
  | [some (.ref a0), some (.int a1), _, _, _, _], [] => k a0 a1 S
  | _, _ => none
theorem d_Mo_changesOf_25 {g : zV → Nat → List Value → zM → Prop} (Hw : zWk g) {k : Nat → Int32 → zM → Option (Int32 × zM)} {res : (Int32 × zM)} {lv : zV} {st : List Value} {S : zM} (h : D_Mo_changesOf_25 k lv st S = some res) (hk : ∀ a0 a1 S, k a0 a1 S = some res → g [some (.ref a0), some (.int a1), none, none, none, none] 25 [] S) : g lv 25 st S := by
  unfold D_Mo_changesOf_25 at h
  split at h
  · exact Hw _ _ _ _ _ (by simp [zle]) (hk _ _ _  h)
  · cases h
def D_Mo_changesOf_49 (k : Nat → Int32 → Int32 → Int32 → zM → Option (Int32 × zM)) (lv : zV) (st : List Value) (S : zM) : Option (Int32 × zM) := match lv, st with
  | [some (.ref a0), some (.int a1), some (.int a2), some (.int a3), _, _], [] => k a0 a1 a2 a3 S
  | _, _ => none
theorem d_Mo_changesOf_49 {g : zV → Nat → List Value → zM → Prop} (Hw : zWk g) {k : Nat → Int32 → Int32 → Int32 → zM → Option (Int32 × zM)} {res : (Int32 × zM)} {lv : zV} {st : List Value} {S : zM} (h : D_Mo_changesOf_49 k lv st S = some res) (hk : ∀ a0 a1 a2 a3 S, k a0 a1 a2 a3 S = some res → g [some (.ref a0), some (.int a1), some (.int a2), some (.int a3), none, none] 49 [] S) : g lv 49 st S := by
  unfold D_Mo_changesOf_49 at h
  split at h
  · exact Hw _ _ _ _ _ (by simp [zle]) (hk _ _ _ _ _  h)
  · cases h
def D_Mo_changesOf_158 (k : Nat → Int32 → zM → Option (Int32 × zM)) (lv : zV) (st : List Value) (S : zM) : Option (Int32 × zM) := match lv, st with
  | [some (.ref a0), some (.int a1), _, _, _, _], [] => k a0 a1 S
  | _, _ => none
theorem d_Mo_changesOf_158 {g : zV → Nat → List Value → zM → Prop} (Hw : zWk g) {k : Nat → Int32 → zM → Option (Int32 × zM)} {res : (Int32 × zM)} {lv : zV} {st : List Value} {S : zM} (h : D_Mo_changesOf_158 k lv st S = some res) (hk : ∀ a0 a1 S, k a0 a1 S = some res → g [some (.ref a0), some (.int a1), none, none, none, none] 158 [] S) : g lv 158 st S := by
  unfold D_Mo_changesOf_158 at h
  split at h
  · exact Hw _ _ _ _ _ (by simp [zle]) (hk _ _ _  h)
  · cases h
set_option maxRecDepth 100000 in
theorem r_Mo_changesOf_158 (k25 : Nat → Int32 → zM → Option (Int32 × zM)) (a0 : Nat) (a1 : Int32) (S : zM) : F_Mo_changesOf_158 k25 a0 a1 S = zrt false zP_Mo_changesOf (zE_Mo_changesOf (Int32 × zM)) zc_Mo_changesOf zkI (fun pc lv st S => bif Nat.beq pc 25 then D_Mo_changesOf_25 k25 lv st S else none) 1000 158 [some (.ref a0), some (.int a1), none, none, none, none] [] S := rfl
theorem g_Mo_changesOf_158 {g : zV → Nat → List Value → zM → Prop} {res : (Int32 × zM)} (H : zCl false zP_Mo_changesOf (zE_Mo_changesOf (Int32 × zM)) zkI res g) (Hw : zWk g) {k25 : Nat → Int32 → zM → Option (Int32 × zM)} (hk25 : ∀ a0 a1 S, k25 a0 a1 S = some res → g [some (.ref a0), some (.int a1), none, none, none, none] 25 [] S) (a0 : Nat) (a1 : Int32) (S : zM) (h : F_Mo_changesOf_158 k25 a0 a1 S = some res) : g [some (.ref a0), some (.int a1), none, none, none, none] 158 [] S := by
  refine H zc_Mo_changesOf _ 1000 _ _ _ _ ((r_Mo_changesOf_158 k25 a0 a1 S).symm.trans h) (fun pc lv st S hK => ?_)
  rcases zdis hK with ⟨rfl, hK⟩ | hK
  · exact d_Mo_changesOf_25 Hw hK hk25
  cases hK
set_option maxRecDepth 100000 in
theorem r_Mo_changesOf_49 (k158 : Nat → Int32 → zM → Option (Int32 × zM)) (n : Nat) (a0 : Nat) (a1 : Int32) (a2 : Int32) (a3 : Int32) (S : zM) : L_Mo_changesOf_49 k158 (n + 1) a0 a1 a2 a3 S = zrt false zP_Mo_changesOf (zE_Mo_changesOf (Int32 × zM)) zc_Mo_changesOf zkI (fun pc lv st S => bif Nat.beq pc 49 then D_Mo_changesOf_49 (L_Mo_changesOf_49 k158 n) lv st S else bif Nat.beq pc 158 then D_Mo_changesOf_158 k158 lv st S else none) 1000 49 [some (.ref a0), some (.int a1), some (.int a2), some (.int a3), none, none] [] S := rfl
theorem g_Mo_changesOf_49 {g : zV → Nat → List Value → zM → Prop} {res : (Int32 × zM)} (H : zCl false zP_Mo_changesOf (zE_Mo_changesOf (Int32 × zM)) zkI res g) (Hw : zWk g) {k158 : Nat → Int32 → zM → Option (Int32 × zM)} (hk158 : ∀ a0 a1 S, k158 a0 a1 S = some res → g [some (.ref a0), some (.int a1), none, none, none, none] 158 [] S) (n : Nat) : ∀ (a0 : Nat) (a1 : Int32) (a2 : Int32) (a3 : Int32) (S : zM), L_Mo_changesOf_49 k158 n a0 a1 a2 a3 S = some res → g [some (.ref a0), some (.int a1), some (.int a2), some (.int a3), none, none] 49 [] S := by
  induction n with
  | zero => intro a0 a1 a2 a3 S h; cases h
  | succ n ih =>
    intro a0 a1 a2 a3 S h
    refine H zc_Mo_changesOf _ 1000 _ _ _ _ ((r_Mo_changesOf_49 k158 n a0 a1 a2 a3 S).symm.trans h) (fun pc lv st S hK => ?_)
    rcases zdis hK with ⟨rfl, hK⟩ | hK
    · exact d_Mo_changesOf_49 Hw hK ih
    rcases zdis hK with ⟨rfl, hK⟩ | hK
    · exact d_Mo_changesOf_158 Hw hK hk158
    cases hK
set_option maxRecDepth 100000 in
theorem r_Mo_changesOf_25 (n : Nat) (a0 : Nat) (a1 : Int32) (S : zM) : L_Mo_changesOf_25 (n + 1) a0 a1 S = zrt false zP_Mo_changesOf (zE_Mo_changesOf (Int32 × zM)) zc_Mo_changesOf zkI (fun pc lv st S => bif Nat.beq pc 49 then D_Mo_changesOf_49 (L_Mo_changesOf_49 (F_Mo_changesOf_158 (L_Mo_changesOf_25 n)) zF) lv st S else none) 1000 25 [some (.ref a0), some (.int a1), none, none, none, none] [] S := rfl
theorem g_Mo_changesOf_25 {g : zV → Nat → List Value → zM → Prop} {res : (Int32 × zM)} (H : zCl false zP_Mo_changesOf (zE_Mo_changesOf (Int32 × zM)) zkI res g) (Hw : zWk g) (n : Nat) : ∀ (a0 : Nat) (a1 : Int32) (S : zM), L_Mo_changesOf_25 n a0 a1 S = some res → g [some (.ref a0), some (.int a1), none, none, none, none] 25 [] S := by
  induction n with
  | zero => intro a0 a1 S h; cases h
  | succ n ih =>
    intro a0 a1 S h
    refine H zc_Mo_changesOf _ 1000 _ _ _ _ ((r_Mo_changesOf_25 n a0 a1 S).symm.trans h) (fun pc lv st S hK => ?_)
    rcases zdis hK with ⟨rfl, hK⟩ | hK
    · exact d_Mo_changesOf_49 Hw hK (g_Mo_changesOf_49 H Hw (g_Mo_changesOf_158 H Hw ih) zF)
    cases hK
set_option maxRecDepth 100000 in
theorem r_Mo_changesOf_23 (k25 : Nat → Int32 → zM → Option (Int32 × zM)) (a0 : Nat) (S : zM) : F_Mo_changesOf_23 k25 a0 S = zrt false zP_Mo_changesOf (zE_Mo_changesOf (Int32 × zM)) zc_Mo_changesOf zkI (fun pc lv st S => bif Nat.beq pc 25 then D_Mo_changesOf_25 k25 lv st S else none) 1000 23 [some (.ref a0), none, none, none, none, none] [] S := rfl
theorem g_Mo_changesOf_23 {g : zV → Nat → List Value → zM → Prop} {res : (Int32 × zM)} (H : zCl false zP_Mo_changesOf (zE_Mo_changesOf (Int32 × zM)) zkI res g) (Hw : zWk g) {k25 : Nat → Int32 → zM → Option (Int32 × zM)} (hk25 : ∀ a0 a1 S, k25 a0 a1 S = some res → g [some (.ref a0), some (.int a1), none, none, none, none] 25 [] S) (a0 : Nat) (S : zM) (h : F_Mo_changesOf_23 k25 a0 S = some res) : g [some (.ref a0), none, none, none, none, none] 23 [] S := by
  refine H zc_Mo_changesOf _ 1000 _ _ _ _ ((r_Mo_changesOf_23 k25 a0 S).symm.trans h) (fun pc lv st S hK => ?_)
  rcases zdis hK with ⟨rfl, hK⟩ | hK
  · exact d_Mo_changesOf_25 Hw hK hk25
  cases hK
set_option maxRecDepth 100000 in
theorem r_Mo_changesOf_2 (k23 : Nat → zM → Option (Int32 × zM)) (n : Nat) (a0 : Nat) (a1 : Int32) (S : zM) : L_Mo_changesOf_2 k23 (n + 1) a0 a1 S = zrt false zP_Mo_changesOf (zE_Mo_changesOf (Int32 × zM)) zc_Mo_changesOf zkI (fun pc lv st S => bif Nat.beq pc 2 then D_Mo_changesOf_2 (L_Mo_changesOf_2 k23 n) lv st S else bif Nat.beq pc 23 then D_Mo_changesOf_23 k23 lv st S else none) 1000 2 [some (.ref a0), some (.int a1), none, none, none, none] [] S := rfl
theorem g_Mo_changesOf_2 {g : zV → Nat → List Value → zM → Prop} {res : (Int32 × zM)} (H : zCl false zP_Mo_changesOf (zE_Mo_changesOf (Int32 × zM)) zkI res g) (Hw : zWk g) {k23 : Nat → zM → Option (Int32 × zM)} (hk23 : ∀ a0 S, k23 a0 S = some res → g [some (.ref a0), none, none, none, none, none] 23 [] S) (n : Nat) : ∀ (a0 : Nat) (a1 : Int32) (S : zM), L_Mo_changesOf_2 k23 n a0 a1 S = some res → g [some (.ref a0), some (.int a1), none, none, none, none] 2 [] S := by
  induction n with
  | zero => intro a0 a1 S h; cases h
  | succ n ih =>
    intro a0 a1 S h
    refine H zc_Mo_changesOf _ 1000 _ _ _ _ ((r_Mo_changesOf_2 k23 n a0 a1 S).symm.trans h) (fun pc lv st S hK => ?_)
    rcases zdis hK with ⟨rfl, hK⟩ | hK
    · exact d_Mo_changesOf_2 Hw hK ih
    rcases zdis hK with ⟨rfl, hK⟩ | hK
    · exact d_Mo_changesOf_23 Hw hK hk23
    cases hK
set_option maxRecDepth 100000 in
theorem r_Mo_changesOf (a0 : Nat) (S : zM) : f_Mo_changesOf a0 S = zrt false zP_Mo_changesOf (zE_Mo_changesOf (Int32 × zM)) zc_Mo_changesOf zkI (fun pc lv st S => bif Nat.beq pc 2 then D_Mo_changesOf_2 (L_Mo_changesOf_2 (F_Mo_changesOf_23 (L_Mo_changesOf_25 zF)) zF) lv st S else none) 1000 0 [some (.ref a0), none, none, none, none, none] [] S := rfl
theorem G_Mo_changesOf {g : zV → Nat → List Value → zM → Prop} {res : (Int32 × zM)} (H : zCl false zP_Mo_changesOf (zE_Mo_changesOf (Int32 × zM)) zkI res g) (Hw : zWk g) (a0 : Nat) (S : zM) (h : f_Mo_changesOf a0 S = some res) : g [some (.ref a0), none, none, none, none, none] 0 [] S := by
  refine H zc_Mo_changesOf _ 1000 _ _ _ _ ((r_Mo_changesOf a0 S).symm.trans h) (fun pc lv st S hK => ?_)
  rcases zdis hK with ⟨rfl, hK⟩ | hK
  · exact d_Mo_changesOf_2 Hw hK (g_Mo_changesOf_2 H Hw (g_Mo_changesOf_23 H Hw (g_Mo_changesOf_25 H Hw  zF)) zF)
  cases hK
set_option maxRecDepth 100000 in
theorem ok_Mo_changesOf : zokT 12 [] false 0 0 6 false (some .int) cX12_changesOf zP_Mo_changesOf = true := by decide +kernel
set_option maxRecDepth 100000 in
theorem s_Mo_changesOf {l : Launch} {HB : Heap} {b L : Nat} {xs : Nat → Int32} {aK aV : Nat → Nat} {G : va_G} {tc : Nat → ClassId} : zSnd l HB b L xs aK aV G tc (zMT.getD 202 zyD) (fun α => zA_vR_I 12 f_Mo_changesOf) := by
  rw [show zMT.getD 202 zyD = (yX12_changesOf, cX12_changesOf, 6, (some .int), 0, 1, 0, 0) from rfl]
  intro α as S k res h
  unfold zA_vR_I at h
  dsimp only at h
  split at h
  · rename_i a0
    obtain ⟨p, hp, h⟩ := zbind h
    unfold zcl at hp
    split at hp
    · rename_i hkd
      have hm := zmeth (l := l) (HB := HB) (b := b) (L := L) (xs := xs) (aK := aK) (aV := aV) (G := G) (tc := tc) (q := (yX12_changesOf, cX12_changesOf, 6, (some .int), 0, 1, 0, 0)) (o := 12) (cs := []) (rz := false) (T := zP_Mo_changesOf) (E := zE_Mo_changesOf (Int32 × zM)) (kr := zkI) (res := p) (v0 := some (.int p.1)) (S0 := p.2) (as := [.ref a0]) (S := S) zMT_fine (by decide +kernel) (fun i as S k' h => by
        unfold zE_Mo_changesOf at h
        cases h) ok_Mo_changesOf rfl (fun v S' h => zkI_inv h) (Nat.le_of_ble_eq_true rfl) (fun g H Hw => Hw _ [some (.ref a0), none, none, none, none, none] _ _ _ ⟨rfl, trivial⟩ (G_Mo_changesOf H Hw a0 S hp))
      exact ⟨_, _, h, hm.1, rfl, fun _ => ⟨_, _, rfl⟩, (fun _ U H hK hH a r e => by cases e; exact zrecv (ci := 12) (by omega) hkd rfl U H hK hH), hm.2⟩
    · cases hp
  · cases h
def zP_Mo_apart : List (List (Nat × zE)) := [[(0, e1 (.aload_n 0) 1 0), (1, e3 (.invokevirtual 272) 4 0 1 0), (4, e1 (.aload_n 0) 5 0), (5, e3 (.getfield 293) 8 12 9 1), (8, e1 (.ifCond .ne 9) 11 17), (11, e1 (.aload_n 0) 12 0), (12, ei (.iconst 1) 13 0 (1)), (13, e3 (.invokevirtual 275) 16 1 2 0)],
  [(16, e0 (.ireturn) 17), (17, e1 (.aload_n 0) 18 0), (18, e1 (.lload_n 3) 19 3), (19, e3 (.invokevirtual 364) 22 2 2 0), (22, e1 (.ifCond .eq 11) 25 33), (25, e1 (.aload_n 0) 26 0), (26, e1 (.lload_n 1) 27 1), (27, e3 (.invokevirtual 364) 30 2 2 0), (30, e1 (.ifCond .ne 9) 33 39)],
  [(33, e1 (.aload_n 0) 34 0), (34, ei (.iconst 2) 35 0 (2)), (35, e3 (.invokevirtual 275) 38 1 2 0), (38, e0 (.ireturn) 39), (39, e1 (.aload_n 0) 40 0), (40, ei (.iconst 0) 41 0 (0)), (41, e3 (.invokevirtual 406) 44 3 2 0), (44, e1 (.istore 5) 46 5), (46, e1 (.iload 5) 48 5)],
  [(48, e1 (.ifCond .eq 10) 51 58), (51, e1 (.aload_n 0) 52 0), (52, e1 (.iload 5) 54 5), (54, e3 (.invokevirtual 275) 57 1 2 0), (57, e0 (.ireturn) 58), (58, e1 (.aload_n 0) 59 0), (59, e1 (.aload_n 0) 60 0), (60, e3 (.getfield 358) 63 12 41 0), (63, e3 (.putfield 413) 66 12 56 0)],
  [(66, ei (.iconst 0) 67 0 (0)), (67, e1 (.istore 6) 69 6), (69, e1 (.iload 6) 71 6), (71, e1 (.aload_n 0) 72 0), (72, e3 (.getfield 358) 75 12 41 0), (75, e1 (.if_icmp .ge 23) 78 98), (78, e1 (.aload_n 0) 79 0), (79, e3 (.getfield 103) 82 12 55 2)],
  [(82, e1 (.iload 6) 84 6), (84, e1 (.aload_n 0) 85 0), (85, e3 (.getfield 70) 88 12 40 2), (88, e1 (.iload 6) 90 6), (90, e0 (.iaload) 91), (91, e0 (.iastore) 92), (92, ei (.iinc 6 1) 95 6 (1)), (95, e1 (.goto (-26)) 98 69)],
  [(98, e1 (.aload_n 0) 99 0), (99, e1 (.lload_n 3) 100 3), (100, e3 (.invokevirtual 364) 103 2 2 0), (103, e1 (.istore 6) 105 6), (105, e1 (.aload_n 0) 106 0), (106, ei (.iconst 0) 107 0 (0)), (107, e3 (.invokevirtual 406) 110 3 2 0), (110, e1 (.istore 5) 112 5)],
  [(112, e1 (.iload 5) 114 5), (114, e1 (.ifCond .ne 8) 117 122), (117, e1 (.iload 6) 119 6), (119, e1 (.ifCond .ne 12) 122 131), (122, e1 (.aload_n 0) 123 0), (123, e1 (.iload 5) 125 5), (125, e3 (.invokevirtual 275) 128 1 2 0)],
  [(128, e1 (.goto 7) 131 135), (131, e1 (.aload_n 0) 132 0), (132, e3 (.invokevirtual 416) 135 4 1 0), (135, e0 (.ireturn) 136)]]
noncomputable def zE_Mo_apart (α : Type) : Nat → zX α := fun i => bif Nat.beq i 0 then zA_vR_V 12 f_Mo_fresh else bif Nat.beq i 1 then zA_vRI_I 12 f_Mo_no else bif Nat.beq i 2 then zA_vRJ_I 12 f_Mo_laysLetters else bif Nat.beq i 3 then zA_vRI_I 12 f_Mo_goesAll else bif Nat.beq i 4 then zA_vR_I 12 f_Mo_changesOf else fun _ _ _ => none
def zc_Mo_apart : Nat → Bool := fun pc => Nat.beq pc 69 || Nat.beq pc 98
def D_Mo_apart_69 (k : Nat → Int64 → Int32 → zM → Option (Int32 × zM)) (lv : zV) (st : List Value) (S : zM) : Option (Int32 × zM) := match lv, st with
  | [some (.ref a0), _, _, some (.long a3), _, _, some (.int a6)], [] => k a0 a3 a6 S
  | _, _ => none
theorem d_Mo_apart_69 {g : zV → Nat → List Value → zM → Prop} (Hw : zWk g) {k : Nat → Int64 → Int32 → zM → Option (Int32 × zM)} {res : (Int32 × zM)} {lv : zV} {st : List Value} {S : zM} (h : D_Mo_apart_69 k lv st S = some res) (hk : ∀ a0 a3 a6 S, k a0 a3 a6 S = some res → g [some (.ref a0), none, none, some (.long a3), none, none, some (.int a6)] 69 [] S) : g lv 69 st S := by
  unfold D_Mo_apart_69 at h
  split at h
  · exact Hw _ _ _ _ _ (by simp [zle]) (hk _ _ _ _  h)
  · cases h
def D_Mo_apart_98 (k : Nat → Int64 → zM → Option (Int32 × zM)) (lv : zV) (st : List Value) (S : zM) : Option (Int32 × zM) := match lv, st with
  | [some (.ref a0), _, _, some (.long a3), _, _, _], [] => k a0 a3 S
  | _, _ => none
theorem d_Mo_apart_98 {g : zV → Nat → List Value → zM → Prop} (Hw : zWk g) {k : Nat → Int64 → zM → Option (Int32 × zM)} {res : (Int32 × zM)} {lv : zV} {st : List Value} {S : zM} (h : D_Mo_apart_98 k lv st S = some res) (hk : ∀ a0 a3 S, k a0 a3 S = some res → g [some (.ref a0), none, none, some (.long a3), none, none, none] 98 [] S) : g lv 98 st S := by
  unfold D_Mo_apart_98 at h
  split at h
  · exact Hw _ _ _ _ _ (by simp [zle]) (hk _ _ _  h)
  · cases h
set_option maxRecDepth 100000 in
theorem r_Mo_apart_98 (a0 : Nat) (a3 : Int64) (S : zM) : F_Mo_apart_98 a0 a3 S = zrt false zP_Mo_apart (zE_Mo_apart (Int32 × zM)) zc_Mo_apart zkI (fun pc lv st S => none) 1000 98 [some (.ref a0), none, none, some (.long a3), none, none, none] [] S := rfl
theorem g_Mo_apart_98 {g : zV → Nat → List Value → zM → Prop} {res : (Int32 × zM)} (H : zCl false zP_Mo_apart (zE_Mo_apart (Int32 × zM)) zkI res g) (Hw : zWk g) (a0 : Nat) (a3 : Int64) (S : zM) (h : F_Mo_apart_98 a0 a3 S = some res) : g [some (.ref a0), none, none, some (.long a3), none, none, none] 98 [] S := by
  refine H zc_Mo_apart _ 1000 _ _ _ _ ((r_Mo_apart_98 a0 a3 S).symm.trans h) (fun pc lv st S hK => ?_)
  cases hK
set_option maxRecDepth 100000 in
theorem r_Mo_apart_69 (k98 : Nat → Int64 → zM → Option (Int32 × zM)) (n : Nat) (a0 : Nat) (a3 : Int64) (a6 : Int32) (S : zM) : L_Mo_apart_69 k98 (n + 1) a0 a3 a6 S = zrt false zP_Mo_apart (zE_Mo_apart (Int32 × zM)) zc_Mo_apart zkI (fun pc lv st S => bif Nat.beq pc 69 then D_Mo_apart_69 (L_Mo_apart_69 k98 n) lv st S else bif Nat.beq pc 98 then D_Mo_apart_98 k98 lv st S else none) 1000 69 [some (.ref a0), none, none, some (.long a3), none, none, some (.int a6)] [] S := rfl
theorem g_Mo_apart_69 {g : zV → Nat → List Value → zM → Prop} {res : (Int32 × zM)} (H : zCl false zP_Mo_apart (zE_Mo_apart (Int32 × zM)) zkI res g) (Hw : zWk g) {k98 : Nat → Int64 → zM → Option (Int32 × zM)} (hk98 : ∀ a0 a3 S, k98 a0 a3 S = some res → g [some (.ref a0), none, none, some (.long a3), none, none, none] 98 [] S) (n : Nat) : ∀ (a0 : Nat) (a3 : Int64) (a6 : Int32) (S : zM), L_Mo_apart_69 k98 n a0 a3 a6 S = some res → g [some (.ref a0), none, none, some (.long a3), none, none, some (.int a6)] 69 [] S := by
  induction n with
  | zero => intro a0 a3 a6 S h; cases h
  | succ n ih =>
    intro a0 a3 a6 S h
    refine H zc_Mo_apart _ 1000 _ _ _ _ ((r_Mo_apart_69 k98 n a0 a3 a6 S).symm.trans h) (fun pc lv st S hK => ?_)
    rcases zdis hK with ⟨rfl, hK⟩ | hK
    · exact d_Mo_apart_69 Hw hK ih
    rcases zdis hK with ⟨rfl, hK⟩ | hK
    · exact d_Mo_apart_98 Hw hK hk98
    cases hK
set_option maxRecDepth 100000 in
theorem r_Mo_apart (a0 : Nat) (a1 : Int64) (a3 : Int64) (S : zM) : f_Mo_apart a0 a1 a3 S = zrt false zP_Mo_apart (zE_Mo_apart (Int32 × zM)) zc_Mo_apart zkI (fun pc lv st S => bif Nat.beq pc 69 then D_Mo_apart_69 (L_Mo_apart_69 (F_Mo_apart_98) zF) lv st S else none) 1000 0 [some (.ref a0), some (.long a1), none, some (.long a3), none, none, none] [] S := rfl
theorem G_Mo_apart {g : zV → Nat → List Value → zM → Prop} {res : (Int32 × zM)} (H : zCl false zP_Mo_apart (zE_Mo_apart (Int32 × zM)) zkI res g) (Hw : zWk g) (a0 : Nat) (a1 : Int64) (a3 : Int64) (S : zM) (h : f_Mo_apart a0 a1 a3 S = some res) : g [some (.ref a0), some (.long a1), none, some (.long a3), none, none, none] 0 [] S := by
  refine H zc_Mo_apart _ 1000 _ _ _ _ ((r_Mo_apart a0 a1 a3 S).symm.trans h) (fun pc lv st S hK => ?_)
  rcases zdis hK with ⟨rfl, hK⟩ | hK
  · exact d_Mo_apart_69 Hw hK (g_Mo_apart_69 H Hw (g_Mo_apart_98 H Hw ) zF)
  cases hK
set_option maxRecDepth 100000 in
theorem ok_Mo_apart : zokT 12 [61, 63, 154, 184, 202] false 7 173 7 false (some .int) cX12_apart zP_Mo_apart = true := by decide +kernel
set_option maxRecDepth 100000 in
theorem s_Mo_apart {l : Launch} {HB : Heap} {b L : Nat} {xs : Nat → Int32} {aK aV : Nat → Nat} {G : va_G} {tc : Nat → ClassId} (h0 : zSnd l HB b L xs aK aV G tc (zMT.getD 61 zyD) (fun α => zA_vR_V 12 f_Mo_fresh)) (h1 : zSnd l HB b L xs aK aV G tc (zMT.getD 63 zyD) (fun α => zA_vRI_I 12 f_Mo_no)) (h2 : zSnd l HB b L xs aK aV G tc (zMT.getD 154 zyD) (fun α => zA_vRJ_I 12 f_Mo_laysLetters)) (h3 : zSnd l HB b L xs aK aV G tc (zMT.getD 184 zyD) (fun α => zA_vRI_I 12 f_Mo_goesAll)) (h4 : zSnd l HB b L xs aK aV G tc (zMT.getD 202 zyD) (fun α => zA_vR_I 12 f_Mo_changesOf)) : zSnd l HB b L xs aK aV G tc (zMT.getD 203 zyD) (fun α => zA_vRJJ_I 12 f_Mo_apart) := by
  rw [show zMT.getD 203 zyD = (yX12_apart, cX12_apart, 7, (some .int), 0, 3, 7, 173) from rfl]
  intro α as S k res h
  unfold zA_vRJJ_I at h
  dsimp only at h
  split at h
  · rename_i a0 a1 a3
    obtain ⟨p, hp, h⟩ := zbind h
    unfold zcl at hp
    split at hp
    · rename_i hkd
      have hm := zmeth (l := l) (HB := HB) (b := b) (L := L) (xs := xs) (aK := aK) (aV := aV) (G := G) (tc := tc) (q := (yX12_apart, cX12_apart, 7, (some .int), 0, 3, 7, 173)) (o := 12) (cs := [61, 63, 154, 184, 202]) (rz := false) (T := zP_Mo_apart) (E := zE_Mo_apart (Int32 × zM)) (kr := zkI) (res := p) (v0 := some (.int p.1)) (S0 := p.2) (as := [.ref a0, .long a1, .long a3]) (S := S) zMT_fine (by decide +kernel) (fun i as S k' h => by
        unfold zE_Mo_apart at h
        rcases zdisf h with ⟨rfl, h⟩ | h
        · exact h0 _ _ _ _ _ h
        rcases zdisf h with ⟨rfl, h⟩ | h
        · exact h1 _ _ _ _ _ h
        rcases zdisf h with ⟨rfl, h⟩ | h
        · exact h2 _ _ _ _ _ h
        rcases zdisf h with ⟨rfl, h⟩ | h
        · exact h3 _ _ _ _ _ h
        rcases zdisf h with ⟨rfl, h⟩ | h
        · exact h4 _ _ _ _ _ h
        cases h) ok_Mo_apart rfl (fun v S' h => zkI_inv h) (Nat.le_of_ble_eq_true rfl) (fun g H Hw => Hw _ [some (.ref a0), some (.long a1), none, some (.long a3), none, none, none] _ _ _ ⟨rfl, rfl, rfl, trivial⟩ (G_Mo_apart H Hw a0 a1 a3 S hp))
      exact ⟨_, _, h, hm.1, rfl, fun _ => ⟨_, _, rfl⟩, (fun _ U H hK hH a r e => by cases e; exact zrecv (ci := 12) (by omega) hkd rfl U H hK hH), hm.2⟩
    · cases hp
  · cases h
def zP_Cl_bringTurned : List (List (Nat × zE)) := [[(0, e1 (.aload_n 0) 1 0), (1, e3 (.invokevirtual 115) 4 0 1 0), (4, e1 (.ifCond .eq 5) 7 9), (7, ei (.iconst 1) 8 0 (1)), (8, e0 (.ireturn) 9), (9, e1 (.aload_n 0) 10 0), (10, e3 (.getfield 35) 13 11 4 2), (13, e1 (.lload_n 1) 14 1), (14, e3 (.invokevirtual 211) 17 1 2 0)],
  [(17, e1 (.ifCond .eq 22) 20 39), (20, e1 (.aload_n 0) 21 0), (21, e3 (.getfield 27) 24 11 3 2), (24, e1 (.aload_n 0) 25 0), (25, e3 (.getfield 65) 28 11 10 2), (28, e1 (.aload_n 0) 29 0), (29, e3 (.getfield 35) 32 11 4 2)],
  [(32, ei (.iconst 1) 33 0 (1)), (33, e3 (.invokevirtual 226) 36 2 4 0), (36, e1 (.goto 4) 39 40), (39, ei (.iconst 2) 40 0 (2)), (40, e0 (.ireturn) 41)]]
noncomputable def zE_Cl_bringTurned (α : Type) : Nat → zX α := fun i => bif Nat.beq i 0 then zA_vR_I 11 f_Cl_noScript else bif Nat.beq i 1 then zA_vRJ_I 8 f_Row_takeWord else bif Nat.beq i 2 then zA_vRRRI_I 1 f_Carrier_bring else fun _ _ _ => none
def zc_Cl_bringTurned : Nat → Bool := fun pc => false
set_option maxRecDepth 100000 in
theorem r_Cl_bringTurned (a0 : Nat) (a1 : Int64) (S : zM) : f_Cl_bringTurned a0 a1 S = zrt false zP_Cl_bringTurned (zE_Cl_bringTurned (Int32 × zM)) zc_Cl_bringTurned zkI (fun pc lv st S => none) 1000 0 [some (.ref a0), some (.long a1), none] [] S := rfl
theorem G_Cl_bringTurned {g : zV → Nat → List Value → zM → Prop} {res : (Int32 × zM)} (H : zCl false zP_Cl_bringTurned (zE_Cl_bringTurned (Int32 × zM)) zkI res g) (Hw : zWk g) (a0 : Nat) (a1 : Int64) (S : zM) (h : f_Cl_bringTurned a0 a1 S = some res) : g [some (.ref a0), some (.long a1), none] 0 [] S := by
  refine H zc_Cl_bringTurned _ 1000 _ _ _ _ ((r_Cl_bringTurned a0 a1 S).symm.trans h) (fun pc lv st S hK => ?_)
  cases hK
set_option maxRecDepth 100000 in
theorem ok_Cl_bringTurned : zokT 11 [87, 149, 175] false 5 166 3 false (some .int) cX11_bringTurned zP_Cl_bringTurned = true := by decide +kernel
set_option maxRecDepth 100000 in
theorem s_Cl_bringTurned {l : Launch} {HB : Heap} {b L : Nat} {xs : Nat → Int32} {aK aV : Nat → Nat} {G : va_G} {tc : Nat → ClassId} (h0 : zSnd l HB b L xs aK aV G tc (zMT.getD 87 zyD) (fun α => zA_vR_I 11 f_Cl_noScript)) (h1 : zSnd l HB b L xs aK aV G tc (zMT.getD 149 zyD) (fun α => zA_vRJ_I 8 f_Row_takeWord)) (h2 : zSnd l HB b L xs aK aV G tc (zMT.getD 175 zyD) (fun α => zA_vRRRI_I 1 f_Carrier_bring)) : zSnd l HB b L xs aK aV G tc (zMT.getD 204 zyD) (fun α => zA_vRJ_I 11 f_Cl_bringTurned) := by
  rw [show zMT.getD 204 zyD = (yX11_bringTurned, cX11_bringTurned, 3, (some .int), 0, 2, 5, 166) from rfl]
  intro α as S k res h
  unfold zA_vRJ_I at h
  dsimp only at h
  split at h
  · rename_i a0 a1
    obtain ⟨p, hp, h⟩ := zbind h
    unfold zcl at hp
    split at hp
    · rename_i hkd
      have hm := zmeth (l := l) (HB := HB) (b := b) (L := L) (xs := xs) (aK := aK) (aV := aV) (G := G) (tc := tc) (q := (yX11_bringTurned, cX11_bringTurned, 3, (some .int), 0, 2, 5, 166)) (o := 11) (cs := [87, 149, 175]) (rz := false) (T := zP_Cl_bringTurned) (E := zE_Cl_bringTurned (Int32 × zM)) (kr := zkI) (res := p) (v0 := some (.int p.1)) (S0 := p.2) (as := [.ref a0, .long a1]) (S := S) zMT_fine (by decide +kernel) (fun i as S k' h => by
        unfold zE_Cl_bringTurned at h
        rcases zdisf h with ⟨rfl, h⟩ | h
        · exact h0 _ _ _ _ _ h
        rcases zdisf h with ⟨rfl, h⟩ | h
        · exact h1 _ _ _ _ _ h
        rcases zdisf h with ⟨rfl, h⟩ | h
        · exact h2 _ _ _ _ _ h
        cases h) ok_Cl_bringTurned rfl (fun v S' h => zkI_inv h) (Nat.le_of_ble_eq_true rfl) (fun g H Hw => Hw _ [some (.ref a0), some (.long a1), none] _ _ _ ⟨rfl, rfl, trivial⟩ (G_Cl_bringTurned H Hw a0 a1 S hp))
      exact ⟨_, _, h, hm.1, rfl, fun _ => ⟨_, _, rfl⟩, (fun _ U H hK hH a r e => by cases e; exact zrecv (ci := 11) (by omega) hkd rfl U H hK hH), hm.2⟩
    · cases hp
  · cases h
def zP_Cl_turned : List (List (Nat × zE)) := [[(0, e1 (.aload_n 0) 1 0), (1, e1 (.lload_n 1) 2 1), (2, e3 (.invokevirtual 254) 5 0 2 0), (5, e1 (.istore_n 3) 6 3), (6, e1 (.iload_n 3) 7 3), (7, e1 (.ifCond .eq 11) 10 18), (10, e1 (.aload_n 0) 11 0), (11, e1 (.iload_n 3) 12 3), (12, e3 (.invokevirtual 79) 15 1 2 0), (15, e1 (.goto 17) 18 32)],
  [(18, e1 (.aload_n 0) 19 0), (19, e1 (.aload_n 0) 20 0), (20, e3 (.getfield 27) 23 11 3 2), (23, e3 (.getfield 230) 26 1 3 2), (26, e3 (.getfield 161) 29 8 1 0), (29, e3 (.invokevirtual 109) 32 2 2 0)],
  [(32, e0 (.ireturn) 33)]]
noncomputable def zE_Cl_turned (α : Type) : Nat → zX α := fun i => bif Nat.beq i 0 then zA_vRJ_I 11 f_Cl_bringTurned else bif Nat.beq i 1 then zA_vRI_I 11 f_Cl_refuse else bif Nat.beq i 2 then zA_vRI_I 11 f_Cl_answer else fun _ _ _ => none
def zc_Cl_turned : Nat → Bool := fun pc => false
set_option maxRecDepth 100000 in
theorem r_Cl_turned (a0 : Nat) (a1 : Int64) (S : zM) : f_Cl_turned a0 a1 S = zrt false zP_Cl_turned (zE_Cl_turned (Int32 × zM)) zc_Cl_turned zkI (fun pc lv st S => none) 1000 0 [some (.ref a0), some (.long a1), none, none] [] S := rfl
theorem G_Cl_turned {g : zV → Nat → List Value → zM → Prop} {res : (Int32 × zM)} (H : zCl false zP_Cl_turned (zE_Cl_turned (Int32 × zM)) zkI res g) (Hw : zWk g) (a0 : Nat) (a1 : Int64) (S : zM) (h : f_Cl_turned a0 a1 S = some res) : g [some (.ref a0), some (.long a1), none, none] 0 [] S := by
  refine H zc_Cl_turned _ 1000 _ _ _ _ ((r_Cl_turned a0 a1 S).symm.trans h) (fun pc lv st S hK => ?_)
  cases hK
set_option maxRecDepth 100000 in
theorem ok_Cl_turned : zokT 11 [204, 16, 59] false 6 188 4 false (some .int) cX11_turned zP_Cl_turned = true := by decide +kernel
set_option maxRecDepth 100000 in
theorem s_Cl_turned {l : Launch} {HB : Heap} {b L : Nat} {xs : Nat → Int32} {aK aV : Nat → Nat} {G : va_G} {tc : Nat → ClassId} (h0 : zSnd l HB b L xs aK aV G tc (zMT.getD 204 zyD) (fun α => zA_vRJ_I 11 f_Cl_bringTurned)) (h1 : zSnd l HB b L xs aK aV G tc (zMT.getD 16 zyD) (fun α => zA_vRI_I 11 f_Cl_refuse)) (h2 : zSnd l HB b L xs aK aV G tc (zMT.getD 59 zyD) (fun α => zA_vRI_I 11 f_Cl_answer)) : zSnd l HB b L xs aK aV G tc (zMT.getD 205 zyD) (fun α => zA_vRJ_I 11 f_Cl_turned) := by
  rw [show zMT.getD 205 zyD = (yX11_turned, cX11_turned, 4, (some .int), 0, 2, 6, 188) from rfl]
  intro α as S k res h
  unfold zA_vRJ_I at h
  dsimp only at h
  split at h
  · rename_i a0 a1
    obtain ⟨p, hp, h⟩ := zbind h
    unfold zcl at hp
    split at hp
    · rename_i hkd
      have hm := zmeth (l := l) (HB := HB) (b := b) (L := L) (xs := xs) (aK := aK) (aV := aV) (G := G) (tc := tc) (q := (yX11_turned, cX11_turned, 4, (some .int), 0, 2, 6, 188)) (o := 11) (cs := [204, 16, 59]) (rz := false) (T := zP_Cl_turned) (E := zE_Cl_turned (Int32 × zM)) (kr := zkI) (res := p) (v0 := some (.int p.1)) (S0 := p.2) (as := [.ref a0, .long a1]) (S := S) zMT_fine (by decide +kernel) (fun i as S k' h => by
        unfold zE_Cl_turned at h
        rcases zdisf h with ⟨rfl, h⟩ | h
        · exact h0 _ _ _ _ _ h
        rcases zdisf h with ⟨rfl, h⟩ | h
        · exact h1 _ _ _ _ _ h
        rcases zdisf h with ⟨rfl, h⟩ | h
        · exact h2 _ _ _ _ _ h
        cases h) ok_Cl_turned rfl (fun v S' h => zkI_inv h) (Nat.le_of_ble_eq_true rfl) (fun g H Hw => Hw _ [some (.ref a0), some (.long a1), none, none] _ _ _ ⟨rfl, rfl, trivial⟩ (G_Cl_turned H Hw a0 a1 S hp))
      exact ⟨_, _, h, hm.1, rfl, fun _ => ⟨_, _, rfl⟩, (fun _ U H hK hH a r e => by cases e; exact zrecv (ci := 11) (by omega) hkd rfl U H hK hH), hm.2⟩
    · cases hp
  · cases h
def zP_Mo_goesTurned : List (List (Nat × zE)) := [[(0, e1 (.aload_n 0) 1 0), (1, e3 (.getfield 293) 4 12 9 1), (4, e1 (.ifCond .ne 7) 7 11), (7, ei (.iconst 1) 8 0 (1)), (8, e1 (.goto 20) 11 28), (11, e1 (.aload_n 0) 12 0), (12, e1 (.lload_n 1) 13 1), (13, e3 (.invokevirtual 364) 16 0 2 0)],
  [(16, e1 (.ifCond .eq 11) 19 27), (19, e1 (.aload_n 0) 20 0), (20, ei (.iconst 1) 21 0 (1)), (21, e3 (.invokevirtual 406) 24 1 2 0), (24, e1 (.goto 4) 27 28), (27, ei (.iconst 2) 28 0 (2)), (28, e0 (.ireturn) 29)]]
noncomputable def zE_Mo_goesTurned (α : Type) : Nat → zX α := fun i => bif Nat.beq i 0 then zA_vRJ_I 12 f_Mo_laysLetters else bif Nat.beq i 1 then zA_vRI_I 12 f_Mo_goesAll else fun _ _ _ => none
def zc_Mo_goesTurned : Nat → Bool := fun pc => false
set_option maxRecDepth 100000 in
theorem r_Mo_goesTurned (a0 : Nat) (a1 : Int64) (S : zM) : f_Mo_goesTurned a0 a1 S = zrt false zP_Mo_goesTurned (zE_Mo_goesTurned (Int32 × zM)) zc_Mo_goesTurned zkI (fun pc lv st S => none) 1000 0 [some (.ref a0), some (.long a1), none] [] S := rfl
theorem G_Mo_goesTurned {g : zV → Nat → List Value → zM → Prop} {res : (Int32 × zM)} (H : zCl false zP_Mo_goesTurned (zE_Mo_goesTurned (Int32 × zM)) zkI res g) (Hw : zWk g) (a0 : Nat) (a1 : Int64) (S : zM) (h : f_Mo_goesTurned a0 a1 S = some res) : g [some (.ref a0), some (.long a1), none] 0 [] S := by
  refine H zc_Mo_goesTurned _ 1000 _ _ _ _ ((r_Mo_goesTurned a0 a1 S).symm.trans h) (fun pc lv st S hK => ?_)
  cases hK
set_option maxRecDepth 100000 in
theorem ok_Mo_goesTurned : zokT 12 [154, 184] false 7 173 3 false (some .int) cX12_goesTurned zP_Mo_goesTurned = true := by decide +kernel
set_option maxRecDepth 100000 in
theorem s_Mo_goesTurned {l : Launch} {HB : Heap} {b L : Nat} {xs : Nat → Int32} {aK aV : Nat → Nat} {G : va_G} {tc : Nat → ClassId} (h0 : zSnd l HB b L xs aK aV G tc (zMT.getD 154 zyD) (fun α => zA_vRJ_I 12 f_Mo_laysLetters)) (h1 : zSnd l HB b L xs aK aV G tc (zMT.getD 184 zyD) (fun α => zA_vRI_I 12 f_Mo_goesAll)) : zSnd l HB b L xs aK aV G tc (zMT.getD 206 zyD) (fun α => zA_vRJ_I 12 f_Mo_goesTurned) := by
  rw [show zMT.getD 206 zyD = (yX12_goesTurned, cX12_goesTurned, 3, (some .int), 0, 2, 7, 173) from rfl]
  intro α as S k res h
  unfold zA_vRJ_I at h
  dsimp only at h
  split at h
  · rename_i a0 a1
    obtain ⟨p, hp, h⟩ := zbind h
    unfold zcl at hp
    split at hp
    · rename_i hkd
      have hm := zmeth (l := l) (HB := HB) (b := b) (L := L) (xs := xs) (aK := aK) (aV := aV) (G := G) (tc := tc) (q := (yX12_goesTurned, cX12_goesTurned, 3, (some .int), 0, 2, 7, 173)) (o := 12) (cs := [154, 184]) (rz := false) (T := zP_Mo_goesTurned) (E := zE_Mo_goesTurned (Int32 × zM)) (kr := zkI) (res := p) (v0 := some (.int p.1)) (S0 := p.2) (as := [.ref a0, .long a1]) (S := S) zMT_fine (by decide +kernel) (fun i as S k' h => by
        unfold zE_Mo_goesTurned at h
        rcases zdisf h with ⟨rfl, h⟩ | h
        · exact h0 _ _ _ _ _ h
        rcases zdisf h with ⟨rfl, h⟩ | h
        · exact h1 _ _ _ _ _ h
        cases h) ok_Mo_goesTurned rfl (fun v S' h => zkI_inv h) (Nat.le_of_ble_eq_true rfl) (fun g H Hw => Hw _ [some (.ref a0), some (.long a1), none] _ _ _ ⟨rfl, rfl, trivial⟩ (G_Mo_goesTurned H Hw a0 a1 S hp))
      exact ⟨_, _, h, hm.1, rfl, fun _ => ⟨_, _, rfl⟩, (fun _ U H hK hH a r e => by cases e; exact zrecv (ci := 12) (by omega) hkd rfl U H hK hH), hm.2⟩
    · cases hp
  · cases h
def zP_Mo_turned : List (List (Nat × zE)) := [[(0, e1 (.aload_n 0) 1 0), (1, e3 (.invokevirtual 272) 4 0 1 0), (4, e1 (.aload_n 0) 5 0), (5, e1 (.lload_n 1) 6 1), (6, e3 (.invokevirtual 419) 9 1 2 0), (9, e1 (.istore_n 3) 10 3), (10, e1 (.iload_n 3) 11 3), (11, e1 (.ifCond .eq 11) 14 22), (14, e1 (.aload_n 0) 15 0), (15, e1 (.iload_n 3) 16 3)],
  [(16, e3 (.invokevirtual 275) 19 2 2 0), (19, e1 (.goto 7) 22 26), (22, e1 (.aload_n 0) 23 0), (23, e3 (.getfield 358) 26 12 41 0), (26, e0 (.ireturn) 27)]]
noncomputable def zE_Mo_turned (α : Type) : Nat → zX α := fun i => bif Nat.beq i 0 then zA_vR_V 12 f_Mo_fresh else bif Nat.beq i 1 then zA_vRJ_I 12 f_Mo_goesTurned else bif Nat.beq i 2 then zA_vRI_I 12 f_Mo_no else fun _ _ _ => none
def zc_Mo_turned : Nat → Bool := fun pc => false
set_option maxRecDepth 100000 in
theorem r_Mo_turned (a0 : Nat) (a1 : Int64) (S : zM) : f_Mo_turned a0 a1 S = zrt false zP_Mo_turned (zE_Mo_turned (Int32 × zM)) zc_Mo_turned zkI (fun pc lv st S => none) 1000 0 [some (.ref a0), some (.long a1), none, none] [] S := rfl
theorem G_Mo_turned {g : zV → Nat → List Value → zM → Prop} {res : (Int32 × zM)} (H : zCl false zP_Mo_turned (zE_Mo_turned (Int32 × zM)) zkI res g) (Hw : zWk g) (a0 : Nat) (a1 : Int64) (S : zM) (h : f_Mo_turned a0 a1 S = some res) : g [some (.ref a0), some (.long a1), none, none] 0 [] S := by
  refine H zc_Mo_turned _ 1000 _ _ _ _ ((r_Mo_turned a0 a1 S).symm.trans h) (fun pc lv st S hK => ?_)
  cases hK
set_option maxRecDepth 100000 in
theorem ok_Mo_turned : zokT 12 [61, 206, 63] false 8 195 4 false (some .int) cX12_turned zP_Mo_turned = true := by decide +kernel
set_option maxRecDepth 100000 in
theorem s_Mo_turned {l : Launch} {HB : Heap} {b L : Nat} {xs : Nat → Int32} {aK aV : Nat → Nat} {G : va_G} {tc : Nat → ClassId} (h0 : zSnd l HB b L xs aK aV G tc (zMT.getD 61 zyD) (fun α => zA_vR_V 12 f_Mo_fresh)) (h1 : zSnd l HB b L xs aK aV G tc (zMT.getD 206 zyD) (fun α => zA_vRJ_I 12 f_Mo_goesTurned)) (h2 : zSnd l HB b L xs aK aV G tc (zMT.getD 63 zyD) (fun α => zA_vRI_I 12 f_Mo_no)) : zSnd l HB b L xs aK aV G tc (zMT.getD 207 zyD) (fun α => zA_vRJ_I 12 f_Mo_turned) := by
  rw [show zMT.getD 207 zyD = (yX12_turned, cX12_turned, 4, (some .int), 0, 2, 8, 195) from rfl]
  intro α as S k res h
  unfold zA_vRJ_I at h
  dsimp only at h
  split at h
  · rename_i a0 a1
    obtain ⟨p, hp, h⟩ := zbind h
    unfold zcl at hp
    split at hp
    · rename_i hkd
      have hm := zmeth (l := l) (HB := HB) (b := b) (L := L) (xs := xs) (aK := aK) (aV := aV) (G := G) (tc := tc) (q := (yX12_turned, cX12_turned, 4, (some .int), 0, 2, 8, 195)) (o := 12) (cs := [61, 206, 63]) (rz := false) (T := zP_Mo_turned) (E := zE_Mo_turned (Int32 × zM)) (kr := zkI) (res := p) (v0 := some (.int p.1)) (S0 := p.2) (as := [.ref a0, .long a1]) (S := S) zMT_fine (by decide +kernel) (fun i as S k' h => by
        unfold zE_Mo_turned at h
        rcases zdisf h with ⟨rfl, h⟩ | h
        · exact h0 _ _ _ _ _ h
        rcases zdisf h with ⟨rfl, h⟩ | h
        · exact h1 _ _ _ _ _ h
        rcases zdisf h with ⟨rfl, h⟩ | h
        · exact h2 _ _ _ _ _ h
        cases h) ok_Mo_turned rfl (fun v S' h => zkI_inv h) (Nat.le_of_ble_eq_true rfl) (fun g H Hw => Hw _ [some (.ref a0), some (.long a1), none, none] _ _ _ ⟨rfl, rfl, trivial⟩ (G_Mo_turned H Hw a0 a1 S hp))
      exact ⟨_, _, h, hm.1, rfl, fun _ => ⟨_, _, rfl⟩, (fun _ U H hK hH a r e => by cases e; exact zrecv (ci := 12) (by omega) hkd rfl U H hK hH), hm.2⟩
    · cases hp
  · cases h
def zP_Cl_turnedOut : List (List (Nat × zE)) := [[(0, e1 (.aload_n 0) 1 0), (1, e1 (.lload_n 1) 2 1), (2, e3 (.invokevirtual 254) 5 0 2 0), (5, e1 (.istore 4) 7 4), (7, e1 (.iload 4) 9 4), (9, e1 (.ifCond .eq 12) 12 21), (12, e1 (.aload_n 0) 13 0), (13, e1 (.iload 4) 15 4), (15, e3 (.invokevirtual 79) 18 1 2 0)],
  [(18, e1 (.goto 15) 21 33), (21, e1 (.aload_n 0) 22 0), (22, e1 (.aload_n 0) 23 0), (23, e3 (.getfield 27) 26 11 3 2), (26, e3 (.getfield 230) 29 1 3 2), (29, e1 (.iload_n 3) 30 3), (30, e3 (.invokevirtual 177) 33 2 3 0)],
  [(33, e0 (.ireturn) 34)]]
noncomputable def zE_Cl_turnedOut (α : Type) : Nat → zX α := fun i => bif Nat.beq i 0 then zA_vRJ_I 11 f_Cl_bringTurned else bif Nat.beq i 1 then zA_vRI_I 11 f_Cl_refuse else bif Nat.beq i 2 then zA_vRRI_I 11 f_Cl_answerLetter else fun _ _ _ => none
def zc_Cl_turnedOut : Nat → Bool := fun pc => false
set_option maxRecDepth 100000 in
theorem r_Cl_turnedOut (a0 : Nat) (a1 : Int64) (a3 : Int32) (S : zM) : f_Cl_turnedOut a0 a1 a3 S = zrt false zP_Cl_turnedOut (zE_Cl_turnedOut (Int32 × zM)) zc_Cl_turnedOut zkI (fun pc lv st S => none) 1000 0 [some (.ref a0), some (.long a1), none, some (.int a3), none] [] S := rfl
theorem G_Cl_turnedOut {g : zV → Nat → List Value → zM → Prop} {res : (Int32 × zM)} (H : zCl false zP_Cl_turnedOut (zE_Cl_turnedOut (Int32 × zM)) zkI res g) (Hw : zWk g) (a0 : Nat) (a1 : Int64) (a3 : Int32) (S : zM) (h : f_Cl_turnedOut a0 a1 a3 S = some res) : g [some (.ref a0), some (.long a1), none, some (.int a3), none] 0 [] S := by
  refine H zc_Cl_turnedOut _ 1000 _ _ _ _ ((r_Cl_turnedOut a0 a1 a3 S).symm.trans h) (fun pc lv st S hK => ?_)
  cases hK
set_option maxRecDepth 100000 in
theorem ok_Cl_turnedOut : zokT 11 [204, 16, 108] false 6 188 5 false (some .int) cX11_turnedOut zP_Cl_turnedOut = true := by decide +kernel
set_option maxRecDepth 100000 in
theorem s_Cl_turnedOut {l : Launch} {HB : Heap} {b L : Nat} {xs : Nat → Int32} {aK aV : Nat → Nat} {G : va_G} {tc : Nat → ClassId} (h0 : zSnd l HB b L xs aK aV G tc (zMT.getD 204 zyD) (fun α => zA_vRJ_I 11 f_Cl_bringTurned)) (h1 : zSnd l HB b L xs aK aV G tc (zMT.getD 16 zyD) (fun α => zA_vRI_I 11 f_Cl_refuse)) (h2 : zSnd l HB b L xs aK aV G tc (zMT.getD 108 zyD) (fun α => zA_vRRI_I 11 f_Cl_answerLetter)) : zSnd l HB b L xs aK aV G tc (zMT.getD 208 zyD) (fun α => zA_vRJI_I 11 f_Cl_turnedOut) := by
  rw [show zMT.getD 208 zyD = (yX11_turnedOut, cX11_turnedOut, 5, (some .int), 0, 3, 6, 188) from rfl]
  intro α as S k res h
  unfold zA_vRJI_I at h
  dsimp only at h
  split at h
  · rename_i a0 a1 a3
    obtain ⟨p, hp, h⟩ := zbind h
    unfold zcl at hp
    split at hp
    · rename_i hkd
      have hm := zmeth (l := l) (HB := HB) (b := b) (L := L) (xs := xs) (aK := aK) (aV := aV) (G := G) (tc := tc) (q := (yX11_turnedOut, cX11_turnedOut, 5, (some .int), 0, 3, 6, 188)) (o := 11) (cs := [204, 16, 108]) (rz := false) (T := zP_Cl_turnedOut) (E := zE_Cl_turnedOut (Int32 × zM)) (kr := zkI) (res := p) (v0 := some (.int p.1)) (S0 := p.2) (as := [.ref a0, .long a1, .int a3]) (S := S) zMT_fine (by decide +kernel) (fun i as S k' h => by
        unfold zE_Cl_turnedOut at h
        rcases zdisf h with ⟨rfl, h⟩ | h
        · exact h0 _ _ _ _ _ h
        rcases zdisf h with ⟨rfl, h⟩ | h
        · exact h1 _ _ _ _ _ h
        rcases zdisf h with ⟨rfl, h⟩ | h
        · exact h2 _ _ _ _ _ h
        cases h) ok_Cl_turnedOut rfl (fun v S' h => zkI_inv h) (Nat.le_of_ble_eq_true rfl) (fun g H Hw => Hw _ [some (.ref a0), some (.long a1), none, some (.int a3), none] _ _ _ ⟨rfl, rfl, rfl, trivial⟩ (G_Cl_turnedOut H Hw a0 a1 a3 S hp))
      exact ⟨_, _, h, hm.1, rfl, fun _ => ⟨_, _, rfl⟩, (fun _ U H hK hH a r e => by cases e; exact zrecv (ci := 11) (by omega) hkd rfl U H hK hH), hm.2⟩
    · cases hp
  · cases h
def zP_Mo_turnedOut : List (List (Nat × zE)) := [[(0, e1 (.aload_n 0) 1 0), (1, e3 (.invokevirtual 272) 4 0 1 0), (4, e1 (.aload_n 0) 5 0), (5, e1 (.lload_n 1) 6 1), (6, e3 (.invokevirtual 419) 9 1 2 0), (9, e1 (.istore 4) 11 4), (11, e1 (.iload 4) 13 4), (13, e1 (.ifCond .eq 10) 16 23)],
  [(16, e1 (.aload_n 0) 17 0), (17, e1 (.iload 4) 19 4), (19, e3 (.invokevirtual 275) 22 2 2 0), (22, e0 (.ireturn) 23), (23, e1 (.iload_n 3) 24 3), (24, ei (.iconst 0) 25 0 (0)), (25, e1 (.aload_n 0) 26 0), (26, e3 (.getfield 358) 29 12 41 0), (29, ei (.iconst 1) 30 0 (1)), (30, e0 (.isub) 31), (31, e3 (.invokestatic 156) 34 3 3 0)],
  [(34, e1 (.ifCond .eq 12) 37 46), (37, e1 (.aload_n 0) 38 0), (38, e3 (.getfield 70) 41 12 40 2), (41, e1 (.iload_n 3) 42 3), (42, e0 (.iaload) 43), (43, e1 (.goto 8) 46 51), (46, e1 (.aload_n 0) 47 0), (47, ei (.iconst 1) 48 0 (1))],
  [(48, e3 (.invokevirtual 275) 51 2 2 0), (51, e0 (.ireturn) 52)]]
noncomputable def zE_Mo_turnedOut (α : Type) : Nat → zX α := fun i => bif Nat.beq i 0 then zA_vR_V 12 f_Mo_fresh else bif Nat.beq i 1 then zA_vRJ_I 12 f_Mo_goesTurned else bif Nat.beq i 2 then zA_vRI_I 12 f_Mo_no else bif Nat.beq i 3 then zA_III_I f_Mo_in else fun _ _ _ => none
def zc_Mo_turnedOut : Nat → Bool := fun pc => false
set_option maxRecDepth 100000 in
theorem r_Mo_turnedOut (a0 : Nat) (a1 : Int64) (a3 : Int32) (S : zM) : f_Mo_turnedOut a0 a1 a3 S = zrt false zP_Mo_turnedOut (zE_Mo_turnedOut (Int32 × zM)) zc_Mo_turnedOut zkI (fun pc lv st S => none) 1000 0 [some (.ref a0), some (.long a1), none, some (.int a3), none] [] S := rfl
theorem G_Mo_turnedOut {g : zV → Nat → List Value → zM → Prop} {res : (Int32 × zM)} (H : zCl false zP_Mo_turnedOut (zE_Mo_turnedOut (Int32 × zM)) zkI res g) (Hw : zWk g) (a0 : Nat) (a1 : Int64) (a3 : Int32) (S : zM) (h : f_Mo_turnedOut a0 a1 a3 S = some res) : g [some (.ref a0), some (.long a1), none, some (.int a3), none] 0 [] S := by
  refine H zc_Mo_turnedOut _ 1000 _ _ _ _ ((r_Mo_turnedOut a0 a1 a3 S).symm.trans h) (fun pc lv st S hK => ?_)
  cases hK
set_option maxRecDepth 100000 in
theorem ok_Mo_turnedOut : zokT 12 [61, 206, 63, 62] false 8 195 5 false (some .int) cX12_turnedOut zP_Mo_turnedOut = true := by decide +kernel
set_option maxRecDepth 100000 in
theorem s_Mo_turnedOut {l : Launch} {HB : Heap} {b L : Nat} {xs : Nat → Int32} {aK aV : Nat → Nat} {G : va_G} {tc : Nat → ClassId} (h0 : zSnd l HB b L xs aK aV G tc (zMT.getD 61 zyD) (fun α => zA_vR_V 12 f_Mo_fresh)) (h1 : zSnd l HB b L xs aK aV G tc (zMT.getD 206 zyD) (fun α => zA_vRJ_I 12 f_Mo_goesTurned)) (h2 : zSnd l HB b L xs aK aV G tc (zMT.getD 63 zyD) (fun α => zA_vRI_I 12 f_Mo_no)) (h3 : zSnd l HB b L xs aK aV G tc (zMT.getD 62 zyD) (fun α => zA_III_I f_Mo_in)) : zSnd l HB b L xs aK aV G tc (zMT.getD 209 zyD) (fun α => zA_vRJI_I 12 f_Mo_turnedOut) := by
  rw [show zMT.getD 209 zyD = (yX12_turnedOut, cX12_turnedOut, 5, (some .int), 0, 3, 8, 195) from rfl]
  intro α as S k res h
  unfold zA_vRJI_I at h
  dsimp only at h
  split at h
  · rename_i a0 a1 a3
    obtain ⟨p, hp, h⟩ := zbind h
    unfold zcl at hp
    split at hp
    · rename_i hkd
      have hm := zmeth (l := l) (HB := HB) (b := b) (L := L) (xs := xs) (aK := aK) (aV := aV) (G := G) (tc := tc) (q := (yX12_turnedOut, cX12_turnedOut, 5, (some .int), 0, 3, 8, 195)) (o := 12) (cs := [61, 206, 63, 62]) (rz := false) (T := zP_Mo_turnedOut) (E := zE_Mo_turnedOut (Int32 × zM)) (kr := zkI) (res := p) (v0 := some (.int p.1)) (S0 := p.2) (as := [.ref a0, .long a1, .int a3]) (S := S) zMT_fine (by decide +kernel) (fun i as S k' h => by
        unfold zE_Mo_turnedOut at h
        rcases zdisf h with ⟨rfl, h⟩ | h
        · exact h0 _ _ _ _ _ h
        rcases zdisf h with ⟨rfl, h⟩ | h
        · exact h1 _ _ _ _ _ h
        rcases zdisf h with ⟨rfl, h⟩ | h
        · exact h2 _ _ _ _ _ h
        rcases zdisf h with ⟨rfl, h⟩ | h
        · exact h3 _ _ _ _ _ h
        cases h) ok_Mo_turnedOut rfl (fun v S' h => zkI_inv h) (Nat.le_of_ble_eq_true rfl) (fun g H Hw => Hw _ [some (.ref a0), some (.long a1), none, some (.int a3), none] _ _ _ ⟨rfl, rfl, rfl, trivial⟩ (G_Mo_turnedOut H Hw a0 a1 a3 S hp))
      exact ⟨_, _, h, hm.1, rfl, fun _ => ⟨_, _, rfl⟩, (fun _ U H hK hH a r e => by cases e; exact zrecv (ci := 12) (by omega) hkd rfl U H hK hH), hm.2⟩
    · cases hp
  · cases h
def zP_Cl_troubleUpTo : List (List (Nat × zE)) := [[(0, e1 (.aload_n 0) 1 0), (1, e3 (.invokevirtual 115) 4 0 1 0), (4, e1 (.ifCond .ne 7) 7 11), (7, e1 (.iload_n 2) 8 2), (8, e1 (.ifCond .ne 5) 11 13), (11, ei (.iconst 1) 12 0 (1)), (12, e0 (.ireturn) 13), (13, e1 (.iload_n 1) 14 1), (14, ei (.iconst 1) 15 0 (1)), (15, e1 (.if_icmp .lt 8) 18 23)],
  [(18, e1 (.iload_n 1) 19 1), (19, ei (.iconst 5) 20 0 (5)), (20, e1 (.if_icmp .le 7) 23 27), (23, ei (.iconst 2) 24 0 (2)), (24, e1 (.goto 4) 27 28), (27, ei (.iconst 0) 28 0 (0)), (28, e0 (.ireturn) 29)]]
noncomputable def zE_Cl_troubleUpTo (α : Type) : Nat → zX α := fun i => bif Nat.beq i 0 then zA_vR_I 11 f_Cl_noScript else fun _ _ _ => none
def zc_Cl_troubleUpTo : Nat → Bool := fun pc => false
set_option maxRecDepth 100000 in
theorem r_Cl_troubleUpTo (a0 : Nat) (a1 : Int32) (a2 : Int32) (S : zM) : f_Cl_troubleUpTo a0 a1 a2 S = zrt false zP_Cl_troubleUpTo (zE_Cl_troubleUpTo (Int32 × zM)) zc_Cl_troubleUpTo zkI (fun pc lv st S => none) 1000 0 [some (.ref a0), some (.int a1), some (.int a2)] [] S := rfl
theorem G_Cl_troubleUpTo {g : zV → Nat → List Value → zM → Prop} {res : (Int32 × zM)} (H : zCl false zP_Cl_troubleUpTo (zE_Cl_troubleUpTo (Int32 × zM)) zkI res g) (Hw : zWk g) (a0 : Nat) (a1 : Int32) (a2 : Int32) (S : zM) (h : f_Cl_troubleUpTo a0 a1 a2 S = some res) : g [some (.ref a0), some (.int a1), some (.int a2)] 0 [] S := by
  refine H zc_Cl_troubleUpTo _ 1000 _ _ _ _ ((r_Cl_troubleUpTo a0 a1 a2 S).symm.trans h) (fun pc lv st S hK => ?_)
  cases hK
set_option maxRecDepth 100000 in
theorem ok_Cl_troubleUpTo : zokT 11 [87] false 1 20 3 false (some .int) cX11_troubleUpTo zP_Cl_troubleUpTo = true := by decide +kernel
set_option maxRecDepth 100000 in
theorem s_Cl_troubleUpTo {l : Launch} {HB : Heap} {b L : Nat} {xs : Nat → Int32} {aK aV : Nat → Nat} {G : va_G} {tc : Nat → ClassId} (h0 : zSnd l HB b L xs aK aV G tc (zMT.getD 87 zyD) (fun α => zA_vR_I 11 f_Cl_noScript)) : zSnd l HB b L xs aK aV G tc (zMT.getD 210 zyD) (fun α => zA_vRII_I 11 f_Cl_troubleUpTo) := by
  rw [show zMT.getD 210 zyD = (yX11_troubleUpTo, cX11_troubleUpTo, 3, (some .int), 0, 3, 1, 20) from rfl]
  intro α as S k res h
  unfold zA_vRII_I at h
  dsimp only at h
  split at h
  · rename_i a0 a1 a2
    obtain ⟨p, hp, h⟩ := zbind h
    unfold zcl at hp
    split at hp
    · rename_i hkd
      have hm := zmeth (l := l) (HB := HB) (b := b) (L := L) (xs := xs) (aK := aK) (aV := aV) (G := G) (tc := tc) (q := (yX11_troubleUpTo, cX11_troubleUpTo, 3, (some .int), 0, 3, 1, 20)) (o := 11) (cs := [87]) (rz := false) (T := zP_Cl_troubleUpTo) (E := zE_Cl_troubleUpTo (Int32 × zM)) (kr := zkI) (res := p) (v0 := some (.int p.1)) (S0 := p.2) (as := [.ref a0, .int a1, .int a2]) (S := S) zMT_fine (by decide +kernel) (fun i as S k' h => by
        unfold zE_Cl_troubleUpTo at h
        rcases zdisf h with ⟨rfl, h⟩ | h
        · exact h0 _ _ _ _ _ h
        cases h) ok_Cl_troubleUpTo rfl (fun v S' h => zkI_inv h) (Nat.le_of_ble_eq_true rfl) (fun g H Hw => Hw _ [some (.ref a0), some (.int a1), some (.int a2)] _ _ _ ⟨rfl, rfl, rfl, trivial⟩ (G_Cl_troubleUpTo H Hw a0 a1 a2 S hp))
      exact ⟨_, _, h, hm.1, rfl, fun _ => ⟨_, _, rfl⟩, (fun _ U H hK hH a r e => by cases e; exact zrecv (ci := 11) (by omega) hkd rfl U H hK hH), hm.2⟩
    · cases hp
  · cases h
def zP_Cl_countUpTo : List (List (Nat × zE)) := [[(0, ei (.iconst 0) 1 0 (0)), (1, e1 (.istore_n 2) 2 2), (2, ei (.iconst 1) 3 0 (1)), (3, e1 (.istore_n 3) 4 3), (4, ei (.iconst 0) 5 0 (0)), (5, e1 (.istore 4) 7 4), (7, e1 (.iload 4) 9 4), (9, e1 (.iload_n 1) 10 1), (10, e1 (.if_icmp .ge 23) 13 33), (13, e1 (.iload 4) 15 4), (15, ei (.iconst 5) 16 0 (5))],
  [(16, e1 (.if_icmp .ge 17) 19 33), (19, e1 (.iload_n 3) 20 3), (20, e1 (.iload_n 0) 21 0), (21, e0 (.imul) 22), (22, e1 (.istore_n 3) 23 3), (23, e1 (.iload_n 2) 24 2), (24, e1 (.iload_n 3) 25 3), (25, e0 (.iadd) 26), (26, e1 (.istore_n 2) 27 2), (27, ei (.iinc 4 1) 30 4 (1)), (30, e1 (.goto (-23)) 33 7)],
  [(33, e1 (.iload_n 2) 34 2), (34, e0 (.ireturn) 35)]]
noncomputable def zE_Cl_countUpTo (α : Type) : Nat → zX α := fun _ => fun _ _ _ => none
def zc_Cl_countUpTo : Nat → Bool := fun pc => Nat.beq pc 7
def D_Cl_countUpTo_7 (k : Int32 → Int32 → Int32 → Int32 → Int32 → zM → Option (Int32 × zM)) (lv : zV) (st : List Value) (S : zM) : Option (Int32 × zM) := match lv, st with
  | [some (.int a0), some (.int a1), some (.int a2), some (.int a3), some (.int a4)], [] => k a0 a1 a2 a3 a4 S
  | _, _ => none
theorem d_Cl_countUpTo_7 {g : zV → Nat → List Value → zM → Prop} (Hw : zWk g) {k : Int32 → Int32 → Int32 → Int32 → Int32 → zM → Option (Int32 × zM)} {res : (Int32 × zM)} {lv : zV} {st : List Value} {S : zM} (h : D_Cl_countUpTo_7 k lv st S = some res) (hk : ∀ a0 a1 a2 a3 a4 S, k a0 a1 a2 a3 a4 S = some res → g [some (.int a0), some (.int a1), some (.int a2), some (.int a3), some (.int a4)] 7 [] S) : g lv 7 st S := by
  unfold D_Cl_countUpTo_7 at h
  split at h
  · exact Hw _ _ _ _ _ (by simp [zle]) (hk _ _ _ _ _ _  h)
  · cases h
set_option maxRecDepth 100000 in
theorem r_Cl_countUpTo_7 (n : Nat) (a0 : Int32) (a1 : Int32) (a2 : Int32) (a3 : Int32) (a4 : Int32) (S : zM) : L_Cl_countUpTo_7 (n + 1) a0 a1 a2 a3 a4 S = zrt false zP_Cl_countUpTo (zE_Cl_countUpTo (Int32 × zM)) zc_Cl_countUpTo zkI (fun pc lv st S => bif Nat.beq pc 7 then D_Cl_countUpTo_7 (L_Cl_countUpTo_7 n) lv st S else none) 1000 7 [some (.int a0), some (.int a1), some (.int a2), some (.int a3), some (.int a4)] [] S := rfl
theorem g_Cl_countUpTo_7 {g : zV → Nat → List Value → zM → Prop} {res : (Int32 × zM)} (H : zCl false zP_Cl_countUpTo (zE_Cl_countUpTo (Int32 × zM)) zkI res g) (Hw : zWk g) (n : Nat) : ∀ (a0 : Int32) (a1 : Int32) (a2 : Int32) (a3 : Int32) (a4 : Int32) (S : zM), L_Cl_countUpTo_7 n a0 a1 a2 a3 a4 S = some res → g [some (.int a0), some (.int a1), some (.int a2), some (.int a3), some (.int a4)] 7 [] S := by
  induction n with
  | zero => intro a0 a1 a2 a3 a4 S h; cases h
  | succ n ih =>
    intro a0 a1 a2 a3 a4 S h
    refine H zc_Cl_countUpTo _ 1000 _ _ _ _ ((r_Cl_countUpTo_7 n a0 a1 a2 a3 a4 S).symm.trans h) (fun pc lv st S hK => ?_)
    rcases zdis hK with ⟨rfl, hK⟩ | hK
    · exact d_Cl_countUpTo_7 Hw hK ih
    cases hK
set_option maxRecDepth 100000 in
theorem r_Cl_countUpTo (a0 : Int32) (a1 : Int32) (S : zM) : f_Cl_countUpTo a0 a1 S = zrt false zP_Cl_countUpTo (zE_Cl_countUpTo (Int32 × zM)) zc_Cl_countUpTo zkI (fun pc lv st S => bif Nat.beq pc 7 then D_Cl_countUpTo_7 (L_Cl_countUpTo_7 zF) lv st S else none) 1000 0 [some (.int a0), some (.int a1), none, none, none] [] S := rfl
theorem G_Cl_countUpTo {g : zV → Nat → List Value → zM → Prop} {res : (Int32 × zM)} (H : zCl false zP_Cl_countUpTo (zE_Cl_countUpTo (Int32 × zM)) zkI res g) (Hw : zWk g) (a0 : Int32) (a1 : Int32) (S : zM) (h : f_Cl_countUpTo a0 a1 S = some res) : g [some (.int a0), some (.int a1), none, none, none] 0 [] S := by
  refine H zc_Cl_countUpTo _ 1000 _ _ _ _ ((r_Cl_countUpTo a0 a1 S).symm.trans h) (fun pc lv st S hK => ?_)
  rcases zdis hK with ⟨rfl, hK⟩ | hK
  · exact d_Cl_countUpTo_7 Hw hK (g_Cl_countUpTo_7 H Hw  zF)
  cases hK
set_option maxRecDepth 100000 in
theorem ok_Cl_countUpTo : zokT 11 [] false 0 0 5 false (some .int) cX11_countUpTo zP_Cl_countUpTo = true := by decide +kernel
set_option maxRecDepth 100000 in
theorem s_Cl_countUpTo {l : Launch} {HB : Heap} {b L : Nat} {xs : Nat → Int32} {aK aV : Nat → Nat} {G : va_G} {tc : Nat → ClassId} : zSnd l HB b L xs aK aV G tc (zMT.getD 211 zyD) (fun α => zA_II_I f_Cl_countUpTo) := by
  rw [show zMT.getD 211 zyD = (yX11_countUpTo, cX11_countUpTo, 5, (some .int), 1, 2, 0, 0) from rfl]
  intro α as S k res h
  unfold zA_II_I at h
  dsimp only at h
  split at h
  · rename_i a0 a1
    obtain ⟨p, hp, h⟩ := zbind h
    have hm := zmeth (l := l) (HB := HB) (b := b) (L := L) (xs := xs) (aK := aK) (aV := aV) (G := G) (tc := tc) (q := (yX11_countUpTo, cX11_countUpTo, 5, (some .int), 1, 2, 0, 0)) (o := 11) (cs := []) (rz := false) (T := zP_Cl_countUpTo) (E := zE_Cl_countUpTo (Int32 × zM)) (kr := zkI) (res := p) (v0 := some (.int p.1)) (S0 := p.2) (as := [.int a0, .int a1]) (S := S) zMT_fine (by decide +kernel) (fun i as S k' h => by
      unfold zE_Cl_countUpTo at h
      cases h) ok_Cl_countUpTo rfl (fun v S' h => zkI_inv h) (Nat.le_of_ble_eq_true rfl) (fun g H Hw => Hw _ [some (.int a0), some (.int a1), none, none, none] _ _ _ ⟨rfl, rfl, trivial⟩ (G_Cl_countUpTo H Hw a0 a1 S hp))
    exact ⟨_, _, h, hm.1, rfl, fun q => absurd rfl q, (fun q => by cases q), hm.2⟩
  · cases h
def zP_Cl_words : List (List (Nat × zE)) := [[(0, e1 (.aload_n 0) 1 0), (1, e1 (.iload_n 1) 2 1), (2, ei (.iconst 1) 3 0 (1)), (3, e3 (.invokevirtual 258) 6 0 3 0), (6, e1 (.istore_n 2) 7 2), (7, e1 (.iload_n 2) 8 2), (8, e1 (.ifCond .eq 11) 11 19), (11, e1 (.aload_n 0) 12 0), (12, e1 (.iload_n 2) 13 2), (13, e3 (.invokevirtual 79) 16 1 2 0)],
  [(16, e1 (.goto 18) 19 34), (19, e1 (.aload_n 0) 20 0), (20, e1 (.aload_n 0) 21 0), (21, e3 (.getfield 65) 24 11 10 2), (24, e3 (.getfield 119) 27 10 3 0), (27, e1 (.iload_n 1) 28 1), (28, e3 (.invokestatic 262) 31 2 2 0), (31, e3 (.invokevirtual 109) 34 3 2 0)],
  [(34, e0 (.ireturn) 35)]]
noncomputable def zE_Cl_words (α : Type) : Nat → zX α := fun i => bif Nat.beq i 0 then zA_vRII_I 11 f_Cl_troubleUpTo else bif Nat.beq i 1 then zA_vRI_I 11 f_Cl_refuse else bif Nat.beq i 2 then zA_II_I f_Cl_countUpTo else bif Nat.beq i 3 then zA_vRI_I 11 f_Cl_answer else fun _ _ _ => none
def zc_Cl_words : Nat → Bool := fun pc => false
set_option maxRecDepth 100000 in
theorem r_Cl_words (a0 : Nat) (a1 : Int32) (S : zM) : f_Cl_words a0 a1 S = zrt false zP_Cl_words (zE_Cl_words (Int32 × zM)) zc_Cl_words zkI (fun pc lv st S => none) 1000 0 [some (.ref a0), some (.int a1), none] [] S := rfl
theorem G_Cl_words {g : zV → Nat → List Value → zM → Prop} {res : (Int32 × zM)} (H : zCl false zP_Cl_words (zE_Cl_words (Int32 × zM)) zkI res g) (Hw : zWk g) (a0 : Nat) (a1 : Int32) (S : zM) (h : f_Cl_words a0 a1 S = some res) : g [some (.ref a0), some (.int a1), none] 0 [] S := by
  refine H zc_Cl_words _ 1000 _ _ _ _ ((r_Cl_words a0 a1 S).symm.trans h) (fun pc lv st S hK => ?_)
  cases hK
set_option maxRecDepth 100000 in
theorem ok_Cl_words : zokT 11 [210, 16, 211, 59] false 2 42 3 false (some .int) cX11_words zP_Cl_words = true := by decide +kernel
set_option maxRecDepth 100000 in
theorem s_Cl_words {l : Launch} {HB : Heap} {b L : Nat} {xs : Nat → Int32} {aK aV : Nat → Nat} {G : va_G} {tc : Nat → ClassId} (h0 : zSnd l HB b L xs aK aV G tc (zMT.getD 210 zyD) (fun α => zA_vRII_I 11 f_Cl_troubleUpTo)) (h1 : zSnd l HB b L xs aK aV G tc (zMT.getD 16 zyD) (fun α => zA_vRI_I 11 f_Cl_refuse)) (h2 : zSnd l HB b L xs aK aV G tc (zMT.getD 211 zyD) (fun α => zA_II_I f_Cl_countUpTo)) (h3 : zSnd l HB b L xs aK aV G tc (zMT.getD 59 zyD) (fun α => zA_vRI_I 11 f_Cl_answer)) : zSnd l HB b L xs aK aV G tc (zMT.getD 212 zyD) (fun α => zA_vRI_I 11 f_Cl_words) := by
  rw [show zMT.getD 212 zyD = (yX11_words, cX11_words, 3, (some .int), 0, 2, 2, 42) from rfl]
  intro α as S k res h
  unfold zA_vRI_I at h
  dsimp only at h
  split at h
  · rename_i a0 a1
    obtain ⟨p, hp, h⟩ := zbind h
    unfold zcl at hp
    split at hp
    · rename_i hkd
      have hm := zmeth (l := l) (HB := HB) (b := b) (L := L) (xs := xs) (aK := aK) (aV := aV) (G := G) (tc := tc) (q := (yX11_words, cX11_words, 3, (some .int), 0, 2, 2, 42)) (o := 11) (cs := [210, 16, 211, 59]) (rz := false) (T := zP_Cl_words) (E := zE_Cl_words (Int32 × zM)) (kr := zkI) (res := p) (v0 := some (.int p.1)) (S0 := p.2) (as := [.ref a0, .int a1]) (S := S) zMT_fine (by decide +kernel) (fun i as S k' h => by
        unfold zE_Cl_words at h
        rcases zdisf h with ⟨rfl, h⟩ | h
        · exact h0 _ _ _ _ _ h
        rcases zdisf h with ⟨rfl, h⟩ | h
        · exact h1 _ _ _ _ _ h
        rcases zdisf h with ⟨rfl, h⟩ | h
        · exact h2 _ _ _ _ _ h
        rcases zdisf h with ⟨rfl, h⟩ | h
        · exact h3 _ _ _ _ _ h
        cases h) ok_Cl_words rfl (fun v S' h => zkI_inv h) (Nat.le_of_ble_eq_true rfl) (fun g H Hw => Hw _ [some (.ref a0), some (.int a1), none] _ _ _ ⟨rfl, rfl, trivial⟩ (G_Cl_words H Hw a0 a1 S hp))
      exact ⟨_, _, h, hm.1, rfl, fun _ => ⟨_, _, rfl⟩, (fun _ U H hK hH a r e => by cases e; exact zrecv (ci := 11) (by omega) hkd rfl U H hK hH), hm.2⟩
    · cases hp
  · cases h
def zP_Mo_wordsWhy : List (List (Nat × zE)) := [[(0, e1 (.aload_n 0) 1 0), (1, e3 (.getfield 293) 4 12 9 1), (4, e1 (.ifCond .eq 7) 7 11), (7, e1 (.iload_n 1) 8 1), (8, e1 (.ifCond .ne 7) 11 15), (11, ei (.iconst 1) 12 0 (1)), (12, e1 (.goto 17) 15 29), (15, e1 (.iload_n 2) 16 2)],
  [(16, ei (.iconst 1) 17 0 (1)), (17, ei (.iconst 5) 18 0 (5)), (18, e3 (.invokestatic 156) 21 0 3 0), (21, e1 (.ifCond .eq 7) 24 28), (24, ei (.iconst 0) 25 0 (0)), (25, e1 (.goto 4) 28 29), (28, ei (.iconst 2) 29 0 (2)), (29, e0 (.ireturn) 30)]]
noncomputable def zE_Mo_wordsWhy (α : Type) : Nat → zX α := fun i => bif Nat.beq i 0 then zA_III_I f_Mo_in else fun _ _ _ => none
def zc_Mo_wordsWhy : Nat → Bool := fun pc => false
set_option maxRecDepth 100000 in
theorem r_Mo_wordsWhy (a0 : Nat) (a1 : Int32) (a2 : Int32) (S : zM) : f_Mo_wordsWhy a0 a1 a2 S = zrt false zP_Mo_wordsWhy (zE_Mo_wordsWhy (Int32 × zM)) zc_Mo_wordsWhy zkI (fun pc lv st S => none) 1000 0 [some (.ref a0), some (.int a1), some (.int a2)] [] S := rfl
theorem G_Mo_wordsWhy {g : zV → Nat → List Value → zM → Prop} {res : (Int32 × zM)} (H : zCl false zP_Mo_wordsWhy (zE_Mo_wordsWhy (Int32 × zM)) zkI res g) (Hw : zWk g) (a0 : Nat) (a1 : Int32) (a2 : Int32) (S : zM) (h : f_Mo_wordsWhy a0 a1 a2 S = some res) : g [some (.ref a0), some (.int a1), some (.int a2)] 0 [] S := by
  refine H zc_Mo_wordsWhy _ 1000 _ _ _ _ ((r_Mo_wordsWhy a0 a1 a2 S).symm.trans h) (fun pc lv st S hK => ?_)
  cases hK
set_option maxRecDepth 100000 in
theorem ok_Mo_wordsWhy : zokT 12 [62] false 1 22 3 false (some .int) cX12_wordsWhy zP_Mo_wordsWhy = true := by decide +kernel
set_option maxRecDepth 100000 in
theorem s_Mo_wordsWhy {l : Launch} {HB : Heap} {b L : Nat} {xs : Nat → Int32} {aK aV : Nat → Nat} {G : va_G} {tc : Nat → ClassId} (h0 : zSnd l HB b L xs aK aV G tc (zMT.getD 62 zyD) (fun α => zA_III_I f_Mo_in)) : zSnd l HB b L xs aK aV G tc (zMT.getD 213 zyD) (fun α => zA_vRII_I 12 f_Mo_wordsWhy) := by
  rw [show zMT.getD 213 zyD = (yX12_wordsWhy, cX12_wordsWhy, 3, (some .int), 0, 3, 1, 22) from rfl]
  intro α as S k res h
  unfold zA_vRII_I at h
  dsimp only at h
  split at h
  · rename_i a0 a1 a2
    obtain ⟨p, hp, h⟩ := zbind h
    unfold zcl at hp
    split at hp
    · rename_i hkd
      have hm := zmeth (l := l) (HB := HB) (b := b) (L := L) (xs := xs) (aK := aK) (aV := aV) (G := G) (tc := tc) (q := (yX12_wordsWhy, cX12_wordsWhy, 3, (some .int), 0, 3, 1, 22)) (o := 12) (cs := [62]) (rz := false) (T := zP_Mo_wordsWhy) (E := zE_Mo_wordsWhy (Int32 × zM)) (kr := zkI) (res := p) (v0 := some (.int p.1)) (S0 := p.2) (as := [.ref a0, .int a1, .int a2]) (S := S) zMT_fine (by decide +kernel) (fun i as S k' h => by
        unfold zE_Mo_wordsWhy at h
        rcases zdisf h with ⟨rfl, h⟩ | h
        · exact h0 _ _ _ _ _ h
        cases h) ok_Mo_wordsWhy rfl (fun v S' h => zkI_inv h) (Nat.le_of_ble_eq_true rfl) (fun g H Hw => Hw _ [some (.ref a0), some (.int a1), some (.int a2)] _ _ _ ⟨rfl, rfl, rfl, trivial⟩ (G_Mo_wordsWhy H Hw a0 a1 a2 S hp))
      exact ⟨_, _, h, hm.1, rfl, fun _ => ⟨_, _, rfl⟩, (fun _ U H hK hH a r e => by cases e; exact zrecv (ci := 12) (by omega) hkd rfl U H hK hH), hm.2⟩
    · cases hp
  · cases h
def zP_Mo_isRefused : List (List (Nat × zE)) := [[(0, e1 (.aload_n 0) 1 0), (1, e3 (.invokevirtual 272) 4 0 1 0), (4, e1 (.aload_n 0) 5 0), (5, e1 (.iload_n 1) 6 1), (6, e3 (.putfield 130) 9 12 1 0), (9, e1 (.iload_n 1) 10 1), (10, e1 (.ifCond .eq 7) 13 17), (13, ei (.iconst 1) 14 0 (1)), (14, e1 (.goto 4) 17 18)],
  [(17, ei (.iconst 0) 18 0 (0)), (18, e0 (.ireturn) 19)]]
noncomputable def zE_Mo_isRefused (α : Type) : Nat → zX α := fun i => bif Nat.beq i 0 then zA_vR_V 12 f_Mo_fresh else fun _ _ _ => none
def zc_Mo_isRefused : Nat → Bool := fun pc => false
set_option maxRecDepth 100000 in
theorem r_Mo_isRefused (a0 : Nat) (a1 : Int32) (S : zM) : f_Mo_isRefused a0 a1 S = zrt true zP_Mo_isRefused (zE_Mo_isRefused (Int32 × zM)) zc_Mo_isRefused zkI (fun pc lv st S => none) 1000 0 [some (.ref a0), some (.int a1)] [] S := rfl
theorem G_Mo_isRefused {g : zV → Nat → List Value → zM → Prop} {res : (Int32 × zM)} (H : zCl true zP_Mo_isRefused (zE_Mo_isRefused (Int32 × zM)) zkI res g) (Hw : zWk g) (a0 : Nat) (a1 : Int32) (S : zM) (h : f_Mo_isRefused a0 a1 S = some res) : g [some (.ref a0), some (.int a1)] 0 [] S := by
  refine H zc_Mo_isRefused _ 1000 _ _ _ _ ((r_Mo_isRefused a0 a1 S).symm.trans h) (fun pc lv st S hK => ?_)
  cases hK
set_option maxRecDepth 100000 in
theorem ok_Mo_isRefused : zokT 12 [61] false 1 20 2 true (some .boolean) cX12_isRefused zP_Mo_isRefused = true := by decide +kernel
set_option maxRecDepth 100000 in
theorem s_Mo_isRefused {l : Launch} {HB : Heap} {b L : Nat} {xs : Nat → Int32} {aK aV : Nat → Nat} {G : va_G} {tc : Nat → ClassId} (h0 : zSnd l HB b L xs aK aV G tc (zMT.getD 61 zyD) (fun α => zA_vR_V 12 f_Mo_fresh)) : zSnd l HB b L xs aK aV G tc (zMT.getD 214 zyD) (fun α => zA_vRI_I 12 f_Mo_isRefused) := by
  rw [show zMT.getD 214 zyD = (yX12_isRefused, cX12_isRefused, 2, (some .boolean), 0, 2, 1, 20) from rfl]
  intro α as S k res h
  unfold zA_vRI_I at h
  dsimp only at h
  split at h
  · rename_i a0 a1
    obtain ⟨p, hp, h⟩ := zbind h
    unfold zcl at hp
    split at hp
    · rename_i hkd
      have hm := zmeth (l := l) (HB := HB) (b := b) (L := L) (xs := xs) (aK := aK) (aV := aV) (G := G) (tc := tc) (q := (yX12_isRefused, cX12_isRefused, 2, (some .boolean), 0, 2, 1, 20)) (o := 12) (cs := [61]) (rz := true) (T := zP_Mo_isRefused) (E := zE_Mo_isRefused (Int32 × zM)) (kr := zkI) (res := p) (v0 := some (.int p.1)) (S0 := p.2) (as := [.ref a0, .int a1]) (S := S) zMT_fine (by decide +kernel) (fun i as S k' h => by
        unfold zE_Mo_isRefused at h
        rcases zdisf h with ⟨rfl, h⟩ | h
        · exact h0 _ _ _ _ _ h
        cases h) ok_Mo_isRefused rfl (fun v S' h => zkI_inv h) (Nat.le_of_ble_eq_true rfl) (fun g H Hw => Hw _ [some (.ref a0), some (.int a1)] _ _ _ ⟨rfl, rfl, trivial⟩ (G_Mo_isRefused H Hw a0 a1 S hp))
      exact ⟨_, _, h, hm.1, rfl, fun _ => ⟨_, _, rfl⟩, (fun _ U H hK hH a r e => by cases e; exact zrecv (ci := 12) (by omega) hkd rfl U H hK hH), hm.2⟩
    · cases hp
  · cases h
def zP_Mo_manyUpTo : List (List (Nat × zE)) := [[(0, ei (.iconst 0) 1 0 (0)), (1, e1 (.istore_n 2) 2 2), (2, ei (.iconst 1) 3 0 (1)), (3, e1 (.istore_n 3) 4 3), (4, ei (.iconst 0) 5 0 (0)), (5, e1 (.istore 4) 7 4), (7, e1 (.iload 4) 9 4), (9, e1 (.iload_n 1) 10 1), (10, e1 (.if_icmp .ge 20) 13 30), (13, e1 (.iload_n 3) 14 3), (14, e1 (.aload_n 0) 15 0), (15, e3 (.getfield 284) 18 12 6 0)],
  [(18, e0 (.imul) 19), (19, e1 (.istore_n 3) 20 3), (20, e1 (.iload_n 2) 21 2), (21, e1 (.iload_n 3) 22 3), (22, e0 (.iadd) 23), (23, e1 (.istore_n 2) 24 2), (24, ei (.iinc 4 1) 27 4 (1)), (27, e1 (.goto (-20)) 30 7), (30, e1 (.iload_n 2) 31 2), (31, e0 (.ireturn) 32)]]
noncomputable def zE_Mo_manyUpTo (α : Type) : Nat → zX α := fun _ => fun _ _ _ => none
def zc_Mo_manyUpTo : Nat → Bool := fun pc => Nat.beq pc 7
def D_Mo_manyUpTo_7 (k : Nat → Int32 → Int32 → Int32 → Int32 → zM → Option (Int32 × zM)) (lv : zV) (st : List Value) (S : zM) : Option (Int32 × zM) := match lv, st with
  | [some (.ref a0), some (.int a1), some (.int a2), some (.int a3), some (.int a4)], [] => k a0 a1 a2 a3 a4 S
  | _, _ => none
theorem d_Mo_manyUpTo_7 {g : zV → Nat → List Value → zM → Prop} (Hw : zWk g) {k : Nat → Int32 → Int32 → Int32 → Int32 → zM → Option (Int32 × zM)} {res : (Int32 × zM)} {lv : zV} {st : List Value} {S : zM} (h : D_Mo_manyUpTo_7 k lv st S = some res) (hk : ∀ a0 a1 a2 a3 a4 S, k a0 a1 a2 a3 a4 S = some res → g [some (.ref a0), some (.int a1), some (.int a2), some (.int a3), some (.int a4)] 7 [] S) : g lv 7 st S := by
  unfold D_Mo_manyUpTo_7 at h
  split at h
  · exact Hw _ _ _ _ _ (by simp [zle]) (hk _ _ _ _ _ _  h)
  · cases h
set_option maxRecDepth 100000 in
theorem r_Mo_manyUpTo_7 (n : Nat) (a0 : Nat) (a1 : Int32) (a2 : Int32) (a3 : Int32) (a4 : Int32) (S : zM) : L_Mo_manyUpTo_7 (n + 1) a0 a1 a2 a3 a4 S = zrt false zP_Mo_manyUpTo (zE_Mo_manyUpTo (Int32 × zM)) zc_Mo_manyUpTo zkI (fun pc lv st S => bif Nat.beq pc 7 then D_Mo_manyUpTo_7 (L_Mo_manyUpTo_7 n) lv st S else none) 1000 7 [some (.ref a0), some (.int a1), some (.int a2), some (.int a3), some (.int a4)] [] S := rfl
theorem g_Mo_manyUpTo_7 {g : zV → Nat → List Value → zM → Prop} {res : (Int32 × zM)} (H : zCl false zP_Mo_manyUpTo (zE_Mo_manyUpTo (Int32 × zM)) zkI res g) (Hw : zWk g) (n : Nat) : ∀ (a0 : Nat) (a1 : Int32) (a2 : Int32) (a3 : Int32) (a4 : Int32) (S : zM), L_Mo_manyUpTo_7 n a0 a1 a2 a3 a4 S = some res → g [some (.ref a0), some (.int a1), some (.int a2), some (.int a3), some (.int a4)] 7 [] S := by
  induction n with
  | zero => intro a0 a1 a2 a3 a4 S h; cases h
  | succ n ih =>
    intro a0 a1 a2 a3 a4 S h
    refine H zc_Mo_manyUpTo _ 1000 _ _ _ _ ((r_Mo_manyUpTo_7 n a0 a1 a2 a3 a4 S).symm.trans h) (fun pc lv st S hK => ?_)
    rcases zdis hK with ⟨rfl, hK⟩ | hK
    · exact d_Mo_manyUpTo_7 Hw hK ih
    cases hK
set_option maxRecDepth 100000 in
theorem r_Mo_manyUpTo (a0 : Nat) (a1 : Int32) (S : zM) : f_Mo_manyUpTo a0 a1 S = zrt false zP_Mo_manyUpTo (zE_Mo_manyUpTo (Int32 × zM)) zc_Mo_manyUpTo zkI (fun pc lv st S => bif Nat.beq pc 7 then D_Mo_manyUpTo_7 (L_Mo_manyUpTo_7 zF) lv st S else none) 1000 0 [some (.ref a0), some (.int a1), none, none, none] [] S := rfl
theorem G_Mo_manyUpTo {g : zV → Nat → List Value → zM → Prop} {res : (Int32 × zM)} (H : zCl false zP_Mo_manyUpTo (zE_Mo_manyUpTo (Int32 × zM)) zkI res g) (Hw : zWk g) (a0 : Nat) (a1 : Int32) (S : zM) (h : f_Mo_manyUpTo a0 a1 S = some res) : g [some (.ref a0), some (.int a1), none, none, none] 0 [] S := by
  refine H zc_Mo_manyUpTo _ 1000 _ _ _ _ ((r_Mo_manyUpTo a0 a1 S).symm.trans h) (fun pc lv st S hK => ?_)
  rcases zdis hK with ⟨rfl, hK⟩ | hK
  · exact d_Mo_manyUpTo_7 Hw hK (g_Mo_manyUpTo_7 H Hw  zF)
  cases hK
set_option maxRecDepth 100000 in
theorem ok_Mo_manyUpTo : zokT 12 [] false 0 0 5 false (some .int) cX12_manyUpTo zP_Mo_manyUpTo = true := by decide +kernel
set_option maxRecDepth 100000 in
theorem s_Mo_manyUpTo {l : Launch} {HB : Heap} {b L : Nat} {xs : Nat → Int32} {aK aV : Nat → Nat} {G : va_G} {tc : Nat → ClassId} : zSnd l HB b L xs aK aV G tc (zMT.getD 215 zyD) (fun α => zA_vRI_I 12 f_Mo_manyUpTo) := by
  rw [show zMT.getD 215 zyD = (yX12_manyUpTo, cX12_manyUpTo, 5, (some .int), 0, 2, 0, 0) from rfl]
  intro α as S k res h
  unfold zA_vRI_I at h
  dsimp only at h
  split at h
  · rename_i a0 a1
    obtain ⟨p, hp, h⟩ := zbind h
    unfold zcl at hp
    split at hp
    · rename_i hkd
      have hm := zmeth (l := l) (HB := HB) (b := b) (L := L) (xs := xs) (aK := aK) (aV := aV) (G := G) (tc := tc) (q := (yX12_manyUpTo, cX12_manyUpTo, 5, (some .int), 0, 2, 0, 0)) (o := 12) (cs := []) (rz := false) (T := zP_Mo_manyUpTo) (E := zE_Mo_manyUpTo (Int32 × zM)) (kr := zkI) (res := p) (v0 := some (.int p.1)) (S0 := p.2) (as := [.ref a0, .int a1]) (S := S) zMT_fine (by decide +kernel) (fun i as S k' h => by
        unfold zE_Mo_manyUpTo at h
        cases h) ok_Mo_manyUpTo rfl (fun v S' h => zkI_inv h) (Nat.le_of_ble_eq_true rfl) (fun g H Hw => Hw _ [some (.ref a0), some (.int a1), none, none, none] _ _ _ ⟨rfl, rfl, trivial⟩ (G_Mo_manyUpTo H Hw a0 a1 S hp))
      exact ⟨_, _, h, hm.1, rfl, fun _ => ⟨_, _, rfl⟩, (fun _ U H hK hH a r e => by cases e; exact zrecv (ci := 12) (by omega) hkd rfl U H hK hH), hm.2⟩
    · cases hp
  · cases h
def zP_Mo_words : List (List (Nat × zE)) := [[(0, e1 (.aload_n 0) 1 0), (1, e1 (.aload_n 0) 2 0), (2, ei (.iconst 1) 3 0 (1)), (3, e1 (.iload_n 1) 4 1), (4, e3 (.invokevirtual 454) 7 0 3 0), (7, e3 (.invokevirtual 458) 10 1 2 0), (10, e1 (.ifCond .eq 7) 13 17), (13, ei (.iconst (-1)) 14 0 (-1)), (14, e1 (.goto 8) 17 22)],
  [(17, e1 (.aload_n 0) 18 0), (18, e1 (.iload_n 1) 19 1), (19, e3 (.invokevirtual 435) 22 2 2 0), (22, e0 (.ireturn) 23)]]
noncomputable def zE_Mo_words (α : Type) : Nat → zX α := fun i => bif Nat.beq i 0 then zA_vRII_I 12 f_Mo_wordsWhy else bif Nat.beq i 1 then zA_vRI_I 12 f_Mo_isRefused else bif Nat.beq i 2 then zA_vRI_I 12 f_Mo_manyUpTo else fun _ _ _ => none
def zc_Mo_words : Nat → Bool := fun pc => false
set_option maxRecDepth 100000 in
theorem r_Mo_words (a0 : Nat) (a1 : Int32) (S : zM) : f_Mo_words a0 a1 S = zrt false zP_Mo_words (zE_Mo_words (Int32 × zM)) zc_Mo_words zkI (fun pc lv st S => none) 1000 0 [some (.ref a0), some (.int a1)] [] S := rfl
theorem G_Mo_words {g : zV → Nat → List Value → zM → Prop} {res : (Int32 × zM)} (H : zCl false zP_Mo_words (zE_Mo_words (Int32 × zM)) zkI res g) (Hw : zWk g) (a0 : Nat) (a1 : Int32) (S : zM) (h : f_Mo_words a0 a1 S = some res) : g [some (.ref a0), some (.int a1)] 0 [] S := by
  refine H zc_Mo_words _ 1000 _ _ _ _ ((r_Mo_words a0 a1 S).symm.trans h) (fun pc lv st S hK => ?_)
  cases hK
set_option maxRecDepth 100000 in
theorem ok_Mo_words : zokT 12 [213, 214, 215] false 2 44 2 false (some .int) cX12_words zP_Mo_words = true := by decide +kernel
set_option maxRecDepth 100000 in
theorem s_Mo_words {l : Launch} {HB : Heap} {b L : Nat} {xs : Nat → Int32} {aK aV : Nat → Nat} {G : va_G} {tc : Nat → ClassId} (h0 : zSnd l HB b L xs aK aV G tc (zMT.getD 213 zyD) (fun α => zA_vRII_I 12 f_Mo_wordsWhy)) (h1 : zSnd l HB b L xs aK aV G tc (zMT.getD 214 zyD) (fun α => zA_vRI_I 12 f_Mo_isRefused)) (h2 : zSnd l HB b L xs aK aV G tc (zMT.getD 215 zyD) (fun α => zA_vRI_I 12 f_Mo_manyUpTo)) : zSnd l HB b L xs aK aV G tc (zMT.getD 216 zyD) (fun α => zA_vRI_I 12 f_Mo_words) := by
  rw [show zMT.getD 216 zyD = (yX12_words, cX12_words, 2, (some .int), 0, 2, 2, 44) from rfl]
  intro α as S k res h
  unfold zA_vRI_I at h
  dsimp only at h
  split at h
  · rename_i a0 a1
    obtain ⟨p, hp, h⟩ := zbind h
    unfold zcl at hp
    split at hp
    · rename_i hkd
      have hm := zmeth (l := l) (HB := HB) (b := b) (L := L) (xs := xs) (aK := aK) (aV := aV) (G := G) (tc := tc) (q := (yX12_words, cX12_words, 2, (some .int), 0, 2, 2, 44)) (o := 12) (cs := [213, 214, 215]) (rz := false) (T := zP_Mo_words) (E := zE_Mo_words (Int32 × zM)) (kr := zkI) (res := p) (v0 := some (.int p.1)) (S0 := p.2) (as := [.ref a0, .int a1]) (S := S) zMT_fine (by decide +kernel) (fun i as S k' h => by
        unfold zE_Mo_words at h
        rcases zdisf h with ⟨rfl, h⟩ | h
        · exact h0 _ _ _ _ _ h
        rcases zdisf h with ⟨rfl, h⟩ | h
        · exact h1 _ _ _ _ _ h
        rcases zdisf h with ⟨rfl, h⟩ | h
        · exact h2 _ _ _ _ _ h
        cases h) ok_Mo_words rfl (fun v S' h => zkI_inv h) (Nat.le_of_ble_eq_true rfl) (fun g H Hw => Hw _ [some (.ref a0), some (.int a1)] _ _ _ ⟨rfl, rfl, trivial⟩ (G_Mo_words H Hw a0 a1 S hp))
      exact ⟨_, _, h, hm.1, rfl, fun _ => ⟨_, _, rfl⟩, (fun _ U H hK hH a r e => by cases e; exact zrecv (ci := 12) (by omega) hkd rfl U H hK hH), hm.2⟩
    · cases hp
  · cases h
def zP_Outcomes_init : List (List (Nat × zE)) := [[(0, e1 (.aload_n 0) 1 0), (1, e3 (.invokespecial 3) 4 999 0 0), (4, e1 (.aload_n 0) 5 0), (5, ei (.sipush 1364) 8 0 (1364)), (8, e3 (.newarray .int) 10 100 0 0), (10, e3 (.putfield 9) 13 4 0 2), (13, e1 (.aload_n 0) 14 0), (14, ei (.sipush 4092) 17 0 (4092))],
  [(17, e3 (.newarray .long) 19 101 0 0), (19, e3 (.putfield 15) 22 4 1 2), (22, e1 (.aload_n 0) 23 0), (23, ei (.sipush 2048) 26 0 (2048)), (26, e3 (.newarray .int) 28 100 0 0), (28, e3 (.putfield 19) 31 4 2 2), (31, e0 (.return_) 32)]]
noncomputable def zE_Outcomes_init (α : Type) : Nat → zX α := fun _ => fun _ _ _ => none
def zc_Outcomes_init : Nat → Bool := fun pc => false
set_option maxRecDepth 100000 in
theorem r_Outcomes_init (a0 : Nat) (S : zM) : f_Outcomes_init a0 S = zrt false zP_Outcomes_init (zE_Outcomes_init zM) zc_Outcomes_init zkV (fun pc lv st S => none) 1000 0 [some (.ref a0)] [] S := rfl
theorem G_Outcomes_init {g : zV → Nat → List Value → zM → Prop} {res : zM} (H : zCl false zP_Outcomes_init (zE_Outcomes_init zM) zkV res g) (Hw : zWk g) (a0 : Nat) (S : zM) (h : f_Outcomes_init a0 S = some res) : g [some (.ref a0)] 0 [] S := by
  refine H zc_Outcomes_init _ 1000 _ _ _ _ ((r_Outcomes_init a0 S).symm.trans h) (fun pc lv st S hK => ?_)
  cases hK
set_option maxRecDepth 100000 in
theorem ok_Outcomes_init : zokT 4 [] true 1 20 1 false none cX4_init zP_Outcomes_init = true := by decide +kernel
set_option maxRecDepth 100000 in
theorem s_Outcomes_init {l : Launch} {HB : Heap} {b L : Nat} {xs : Nat → Int32} {aK aV : Nat → Nat} {G : va_G} {tc : Nat → ClassId} : zSnd l HB b L xs aK aV G tc (zMT.getD 217 zyD) (fun α => zA_vR_V 4 f_Outcomes_init) := by
  rw [show zMT.getD 217 zyD = (yX4_init, cX4_init, 1, none, 2, 1, 1, 20) from rfl]
  intro α as S k res h
  unfold zA_vR_V at h
  dsimp only at h
  split at h
  · rename_i a0
    obtain ⟨p, hp, h⟩ := zbind h
    unfold zcl at hp
    split at hp
    · rename_i hkd
      have hm := zmeth (l := l) (HB := HB) (b := b) (L := L) (xs := xs) (aK := aK) (aV := aV) (G := G) (tc := tc) (q := (yX4_init, cX4_init, 1, none, 2, 1, 1, 20)) (o := 4) (cs := []) (rz := false) (T := zP_Outcomes_init) (E := zE_Outcomes_init zM) (kr := zkV) (res := p) (v0 := none) (S0 := p) (as := [.ref a0]) (S := S) zMT_fine (by decide +kernel) (fun i as S k' h => by
        unfold zE_Outcomes_init at h
        cases h) ok_Outcomes_init rfl (fun v S' h => zkV_inv h) (Nat.le_of_ble_eq_true rfl) (fun g H Hw => Hw _ [some (.ref a0)] _ _ _ ⟨rfl, trivial⟩ (G_Outcomes_init H Hw a0 S hp))
      exact ⟨_, _, h, hm.1, rfl, fun _ => ⟨_, _, rfl⟩, (fun q => by cases q), hm.2⟩
    · cases hp
  · cases h
def zP_Census_init : List (List (Nat × zE)) := [[(0, e1 (.aload_n 0) 1 0), (1, e3 (.invokespecial 3) 4 999 0 0), (4, e1 (.aload_n 0) 5 0), (5, e3 (.new 9) 8 4 3 0), (8, e0 (.dup) 9), (9, e3 (.invokespecial 11) 12 0 1 0), (12, e3 (.putfield 12) 15 2 0 2), (15, e1 (.aload_n 0) 16 0)],
  [(16, e3 (.new 9) 19 4 3 0), (19, e0 (.dup) 20), (20, e3 (.invokespecial 11) 23 0 1 0), (23, e3 (.putfield 18) 26 2 1 2), (26, e1 (.aload_n 0) 27 0), (27, e3 (.new 21) 30 1 6 0), (30, e0 (.dup) 31), (31, e3 (.invokespecial 23) 34 1 1 0)],
  [(34, e3 (.putfield 24) 37 2 2 2), (37, e1 (.aload_n 0) 38 0), (38, e3 (.new 28) 41 8 2 0), (41, e0 (.dup) 42), (42, ei (.bipush 8) 44 0 (8)), (44, e3 (.invokespecial 30) 47 2 2 0), (47, e3 (.putfield 33) 50 2 3 2)],
  [(50, e1 (.aload_n 0) 51 0), (51, e3 (.new 28) 54 8 2 0), (54, e0 (.dup) 55), (55, ei (.bipush 60) 57 0 (60)), (57, e3 (.invokespecial 30) 60 2 2 0), (60, e3 (.putfield 37) 63 2 4 2), (63, e1 (.aload_n 0) 64 0)],
  [(64, ei (.sipush 1364) 67 0 (1364)), (67, e3 (.newarray .int) 69 100 0 0), (69, e3 (.putfield 40) 72 2 5 2), (72, e1 (.aload_n 0) 73 0), (73, ei (.sipush 1364) 76 0 (1364)), (76, e3 (.newarray .int) 78 100 0 0), (78, e3 (.putfield 44) 81 2 6 2)],
  [(81, e1 (.aload_n 0) 82 0), (82, ei (.sipush 1364) 85 0 (1364)), (85, e3 (.newarray .boolean) 87 102 0 0), (87, e3 (.putfield 47) 90 2 7 2), (90, e1 (.aload_n 0) 91 0), (91, ei (.bipush 6) 93 0 (6)), (93, e3 (.newarray .int) 95 100 0 0), (95, e3 (.putfield 51) 98 2 8 2)],
  [(98, e1 (.aload_n 0) 99 0), (99, e3 (.getfield 51) 102 2 8 2), (102, ei (.bipush (-3)) 104 0 (-3)), (104, e3 (.invokestatic 54) 107 3 2 0), (107, e0 (.return_) 108)]]
noncomputable def zE_Census_init (α : Type) : Nat → zX α := fun i => bif Nat.beq i 0 then zA_vR_V 4 f_Outcomes_init else bif Nat.beq i 1 then zA_vR_V 1 f_Carrier_init else bif Nat.beq i 2 then zA_vRI_V 8 f_Row_init else bif Nat.beq i 3 then zA_RI_V f_J_fill else fun _ _ _ => none
def zc_Census_init : Nat → Bool := fun pc => false
set_option maxRecDepth 100000 in
theorem r_Census_init (a0 : Nat) (S : zM) : f_Census_init a0 S = zrt false zP_Census_init (zE_Census_init zM) zc_Census_init zkV (fun pc lv st S => none) 1000 0 [some (.ref a0)] [] S := rfl
theorem G_Census_init {g : zV → Nat → List Value → zM → Prop} {res : zM} (H : zCl false zP_Census_init (zE_Census_init zM) zkV res g) (Hw : zWk g) (a0 : Nat) (S : zM) (h : f_Census_init a0 S = some res) : g [some (.ref a0)] 0 [] S := by
  refine H zc_Census_init _ 1000 _ _ _ _ ((r_Census_init a0 S).symm.trans h) (fun pc lv st S hK => ?_)
  cases hK
set_option maxRecDepth 100000 in
theorem ok_Census_init : zokT 2 [217, 2, 1, 46] true 3 62 1 false none cX2_init zP_Census_init = true := by decide +kernel
set_option maxRecDepth 100000 in
theorem s_Census_init {l : Launch} {HB : Heap} {b L : Nat} {xs : Nat → Int32} {aK aV : Nat → Nat} {G : va_G} {tc : Nat → ClassId} (h0 : zSnd l HB b L xs aK aV G tc (zMT.getD 217 zyD) (fun α => zA_vR_V 4 f_Outcomes_init)) (h1 : zSnd l HB b L xs aK aV G tc (zMT.getD 2 zyD) (fun α => zA_vR_V 1 f_Carrier_init)) (h2 : zSnd l HB b L xs aK aV G tc (zMT.getD 1 zyD) (fun α => zA_vRI_V 8 f_Row_init)) (h3 : zSnd l HB b L xs aK aV G tc (zMT.getD 46 zyD) (fun α => zA_RI_V f_J_fill)) : zSnd l HB b L xs aK aV G tc (zMT.getD 218 zyD) (fun α => zA_vR_V 2 f_Census_init) := by
  rw [show zMT.getD 218 zyD = (yX2_init, cX2_init, 1, none, 2, 1, 3, 62) from rfl]
  intro α as S k res h
  unfold zA_vR_V at h
  dsimp only at h
  split at h
  · rename_i a0
    obtain ⟨p, hp, h⟩ := zbind h
    unfold zcl at hp
    split at hp
    · rename_i hkd
      have hm := zmeth (l := l) (HB := HB) (b := b) (L := L) (xs := xs) (aK := aK) (aV := aV) (G := G) (tc := tc) (q := (yX2_init, cX2_init, 1, none, 2, 1, 3, 62)) (o := 2) (cs := [217, 2, 1, 46]) (rz := false) (T := zP_Census_init) (E := zE_Census_init zM) (kr := zkV) (res := p) (v0 := none) (S0 := p) (as := [.ref a0]) (S := S) zMT_fine (by decide +kernel) (fun i as S k' h => by
        unfold zE_Census_init at h
        rcases zdisf h with ⟨rfl, h⟩ | h
        · exact h0 _ _ _ _ _ h
        rcases zdisf h with ⟨rfl, h⟩ | h
        · exact h1 _ _ _ _ _ h
        rcases zdisf h with ⟨rfl, h⟩ | h
        · exact h2 _ _ _ _ _ h
        rcases zdisf h with ⟨rfl, h⟩ | h
        · exact h3 _ _ _ _ _ h
        cases h) ok_Census_init rfl (fun v S' h => zkV_inv h) (Nat.le_of_ble_eq_true rfl) (fun g H Hw => Hw _ [some (.ref a0)] _ _ _ ⟨rfl, trivial⟩ (G_Census_init H Hw a0 S hp))
      exact ⟨_, _, h, hm.1, rfl, fun _ => ⟨_, _, rfl⟩, (fun q => by cases q), hm.2⟩
    · cases hp
  · cases h
def zP_Census_count : List (List (Nat × zE)) := [[(0, e1 (.aload_n 0) 1 0), (1, e3 (.getfield 70) 4 2 9 3), (4, e1 (.ifnonnull 7) 7 11), (7, ei (.iconst 0) 8 0 (0)), (8, e1 (.goto 20) 11 28), (11, ei (.sipush 1364) 14 0 (1364)), (14, e1 (.aload_n 0) 15 0), (15, e3 (.getfield 70) 18 2 9 2)],
  [(18, e3 (.getfield 104) 21 10 3 0), (21, e1 (.iload_n 1) 22 1), (22, e3 (.invokestatic 109) 25 0 2 0), (25, e3 (.invokestatic 112) 28 996 2 0), (28, e0 (.ireturn) 29)]]
noncomputable def zE_Census_count (α : Type) : Nat → zX α := fun i => bif Nat.beq i 0 then zA_II_I f_Cl_countUpTo else fun _ _ _ => none
def zc_Census_count : Nat → Bool := fun pc => false
set_option maxRecDepth 100000 in
theorem r_Census_count (a0 : Nat) (a1 : Int32) (S : zM) : f_Census_count a0 a1 S = zrt false zP_Census_count (zE_Census_count (Int32 × zM)) zc_Census_count zkI (fun pc lv st S => none) 1000 0 [some (.ref a0), some (.int a1)] [] S := rfl
theorem G_Census_count {g : zV → Nat → List Value → zM → Prop} {res : (Int32 × zM)} (H : zCl false zP_Census_count (zE_Census_count (Int32 × zM)) zkI res g) (Hw : zWk g) (a0 : Nat) (a1 : Int32) (S : zM) (h : f_Census_count a0 a1 S = some res) : g [some (.ref a0), some (.int a1)] 0 [] S := by
  refine H zc_Census_count _ 1000 _ _ _ _ ((r_Census_count a0 a1 S).symm.trans h) (fun pc lv st S hK => ?_)
  cases hK
set_option maxRecDepth 100000 in
theorem ok_Census_count : zokT 2 [211] false 1 24 2 false (some .int) cX2_count zP_Census_count = true := by decide +kernel
set_option maxRecDepth 100000 in
theorem s_Census_count {l : Launch} {HB : Heap} {b L : Nat} {xs : Nat → Int32} {aK aV : Nat → Nat} {G : va_G} {tc : Nat → ClassId} (h0 : zSnd l HB b L xs aK aV G tc (zMT.getD 211 zyD) (fun α => zA_II_I f_Cl_countUpTo)) : zSnd l HB b L xs aK aV G tc (zMT.getD 219 zyD) (fun α => zA_vRI_I 2 f_Census_count) := by
  rw [show zMT.getD 219 zyD = (yX2_count, cX2_count, 2, (some .int), 0, 2, 1, 24) from rfl]
  intro α as S k res h
  unfold zA_vRI_I at h
  dsimp only at h
  split at h
  · rename_i a0 a1
    obtain ⟨p, hp, h⟩ := zbind h
    unfold zcl at hp
    split at hp
    · rename_i hkd
      have hm := zmeth (l := l) (HB := HB) (b := b) (L := L) (xs := xs) (aK := aK) (aV := aV) (G := G) (tc := tc) (q := (yX2_count, cX2_count, 2, (some .int), 0, 2, 1, 24)) (o := 2) (cs := [211]) (rz := false) (T := zP_Census_count) (E := zE_Census_count (Int32 × zM)) (kr := zkI) (res := p) (v0 := some (.int p.1)) (S0 := p.2) (as := [.ref a0, .int a1]) (S := S) zMT_fine (by decide +kernel) (fun i as S k' h => by
        unfold zE_Census_count at h
        rcases zdisf h with ⟨rfl, h⟩ | h
        · exact h0 _ _ _ _ _ h
        cases h) ok_Census_count rfl (fun v S' h => zkI_inv h) (Nat.le_of_ble_eq_true rfl) (fun g H Hw => Hw _ [some (.ref a0), some (.int a1)] _ _ _ ⟨rfl, rfl, trivial⟩ (G_Census_count H Hw a0 a1 S hp))
      exact ⟨_, _, h, hm.1, rfl, fun _ => ⟨_, _, rfl⟩, (fun _ U H hK hH a r e => by cases e; exact zrecv (ci := 2) (by omega) hkd rfl U H hK hH), hm.2⟩
    · cases hp
  · cases h
def zP_Census_spelled : List (List (Nat × zE)) := [[(0, e1 (.aload_n 0) 1 0), (1, e3 (.getfield 70) 4 2 9 3), (4, e1 (.ifnull 14) 7 18), (7, e1 (.aload_n 0) 8 0), (8, e3 (.getfield 70) 11 2 9 2), (11, e3 (.getfield 104) 14 10 3 0), (14, ei (.iconst 1) 15 0 (1)), (15, e1 (.if_icmp .ge 7) 18 22)],
  [(18, ej (.ldc2_w 115) 21 (-1)), (21, e0 (.lreturn) 22), (22, ej (.lconst 0) 23 (0)), (23, e1 (.lstore_n 2) 24 2), (24, e1 (.iload_n 1) 25 1), (25, e1 (.istore 4) 27 4), (27, ei (.iconst 0) 28 0 (0)), (28, e1 (.istore 5) 30 5), (30, e1 (.iload 5) 32 5)],
  [(32, ei (.iconst 5) 33 0 (5)), (33, e1 (.if_icmp .ge 51) 36 84), (36, e1 (.iload 4) 38 4), (38, e1 (.ifCond .lt 46) 41 84), (41, e1 (.lload_n 2) 42 2), (42, ei (.bipush 97) 44 0 (97)), (44, e1 (.iload 4) 46 4), (46, e1 (.aload_n 0) 47 0), (47, e3 (.getfield 70) 50 2 9 2)],
  [(50, e3 (.getfield 104) 53 10 3 0), (53, e0 (.irem) 54), (54, e0 (.iadd) 55), (55, e0 (.i2l) 56), (56, ei (.bipush 8) 58 0 (8)), (58, e1 (.iload 5) 60 5), (60, e0 (.imul) 61), (61, e0 (.lshl) 62), (62, e0 (.lor) 63), (63, e1 (.lstore_n 2) 64 2)],
  [(64, e1 (.iload 4) 66 4), (66, e1 (.aload_n 0) 67 0), (67, e3 (.getfield 70) 70 2 9 2), (70, e3 (.getfield 104) 73 10 3 0), (73, e0 (.idiv) 74), (74, ei (.iconst 1) 75 0 (1)), (75, e0 (.isub) 76), (76, e1 (.istore 4) 78 4), (78, ei (.iinc 5 1) 81 5 (1))],
  [(81, e1 (.goto (-51)) 84 30), (84, e1 (.lload_n 2) 85 2), (85, e0 (.lreturn) 86)]]
noncomputable def zE_Census_spelled (α : Type) : Nat → zX α := fun _ => fun _ _ _ => none
def zc_Census_spelled : Nat → Bool := fun pc => Nat.beq pc 30
def D_Census_spelled_30 (k : Nat → Int64 → Int32 → Int32 → zM → Option (Int64 × zM)) (lv : zV) (st : List Value) (S : zM) : Option (Int64 × zM) := match lv, st with
  | [some (.ref a0), _, some (.long a2), _, some (.int a4), some (.int a5)], [] => k a0 a2 a4 a5 S
  | _, _ => none
theorem d_Census_spelled_30 {g : zV → Nat → List Value → zM → Prop} (Hw : zWk g) {k : Nat → Int64 → Int32 → Int32 → zM → Option (Int64 × zM)} {res : (Int64 × zM)} {lv : zV} {st : List Value} {S : zM} (h : D_Census_spelled_30 k lv st S = some res) (hk : ∀ a0 a2 a4 a5 S, k a0 a2 a4 a5 S = some res → g [some (.ref a0), none, some (.long a2), none, some (.int a4), some (.int a5)] 30 [] S) : g lv 30 st S := by
  unfold D_Census_spelled_30 at h
  split at h
  · exact Hw _ _ _ _ _ (by simp [zle]) (hk _ _ _ _ _  h)
  · cases h
set_option maxRecDepth 100000 in
theorem r_Census_spelled_30 (n : Nat) (a0 : Nat) (a2 : Int64) (a4 : Int32) (a5 : Int32) (S : zM) : L_Census_spelled_30 (n + 1) a0 a2 a4 a5 S = zrt false zP_Census_spelled (zE_Census_spelled (Int64 × zM)) zc_Census_spelled zkJ (fun pc lv st S => bif Nat.beq pc 30 then D_Census_spelled_30 (L_Census_spelled_30 n) lv st S else none) 1000 30 [some (.ref a0), none, some (.long a2), none, some (.int a4), some (.int a5)] [] S := rfl
theorem g_Census_spelled_30 {g : zV → Nat → List Value → zM → Prop} {res : (Int64 × zM)} (H : zCl false zP_Census_spelled (zE_Census_spelled (Int64 × zM)) zkJ res g) (Hw : zWk g) (n : Nat) : ∀ (a0 : Nat) (a2 : Int64) (a4 : Int32) (a5 : Int32) (S : zM), L_Census_spelled_30 n a0 a2 a4 a5 S = some res → g [some (.ref a0), none, some (.long a2), none, some (.int a4), some (.int a5)] 30 [] S := by
  induction n with
  | zero => intro a0 a2 a4 a5 S h; cases h
  | succ n ih =>
    intro a0 a2 a4 a5 S h
    refine H zc_Census_spelled _ 1000 _ _ _ _ ((r_Census_spelled_30 n a0 a2 a4 a5 S).symm.trans h) (fun pc lv st S hK => ?_)
    rcases zdis hK with ⟨rfl, hK⟩ | hK
    · exact d_Census_spelled_30 Hw hK ih
    cases hK
set_option maxRecDepth 100000 in
theorem r_Census_spelled (a0 : Nat) (a1 : Int32) (S : zM) : f_Census_spelled a0 a1 S = zrt false zP_Census_spelled (zE_Census_spelled (Int64 × zM)) zc_Census_spelled zkJ (fun pc lv st S => bif Nat.beq pc 30 then D_Census_spelled_30 (L_Census_spelled_30 zF) lv st S else none) 1000 0 [some (.ref a0), some (.int a1), none, none, none, none] [] S := rfl
theorem G_Census_spelled {g : zV → Nat → List Value → zM → Prop} {res : (Int64 × zM)} (H : zCl false zP_Census_spelled (zE_Census_spelled (Int64 × zM)) zkJ res g) (Hw : zWk g) (a0 : Nat) (a1 : Int32) (S : zM) (h : f_Census_spelled a0 a1 S = some res) : g [some (.ref a0), some (.int a1), none, none, none, none] 0 [] S := by
  refine H zc_Census_spelled _ 1000 _ _ _ _ ((r_Census_spelled a0 a1 S).symm.trans h) (fun pc lv st S hK => ?_)
  rcases zdis hK with ⟨rfl, hK⟩ | hK
  · exact d_Census_spelled_30 Hw hK (g_Census_spelled_30 H Hw  zF)
  cases hK
set_option maxRecDepth 100000 in
theorem ok_Census_spelled : zokT 2 [] false 0 0 6 false (some .long) cX2_spelled zP_Census_spelled = true := by decide +kernel
set_option maxRecDepth 100000 in
theorem s_Census_spelled {l : Launch} {HB : Heap} {b L : Nat} {xs : Nat → Int32} {aK aV : Nat → Nat} {G : va_G} {tc : Nat → ClassId} : zSnd l HB b L xs aK aV G tc (zMT.getD 220 zyD) (fun α => zA_vRI_J 2 f_Census_spelled) := by
  rw [show zMT.getD 220 zyD = (yX2_spelled, cX2_spelled, 6, (some .long), 0, 2, 0, 0) from rfl]
  intro α as S k res h
  unfold zA_vRI_J at h
  dsimp only at h
  split at h
  · rename_i a0 a1
    obtain ⟨p, hp, h⟩ := zbind h
    unfold zcl at hp
    split at hp
    · rename_i hkd
      have hm := zmeth (l := l) (HB := HB) (b := b) (L := L) (xs := xs) (aK := aK) (aV := aV) (G := G) (tc := tc) (q := (yX2_spelled, cX2_spelled, 6, (some .long), 0, 2, 0, 0)) (o := 2) (cs := []) (rz := false) (T := zP_Census_spelled) (E := zE_Census_spelled (Int64 × zM)) (kr := zkJ) (res := p) (v0 := some (.long p.1)) (S0 := p.2) (as := [.ref a0, .int a1]) (S := S) zMT_fine (by decide +kernel) (fun i as S k' h => by
        unfold zE_Census_spelled at h
        cases h) ok_Census_spelled rfl (fun v S' h => zkJ_inv h) (Nat.le_of_ble_eq_true rfl) (fun g H Hw => Hw _ [some (.ref a0), some (.int a1), none, none, none, none] _ _ _ ⟨rfl, rfl, trivial⟩ (G_Census_spelled H Hw a0 a1 S hp))
      exact ⟨_, _, h, hm.1, rfl, fun _ => ⟨_, _, rfl⟩, (fun _ U H hK hH a r e => by cases e; exact zrecv (ci := 2) (by omega) hkd rfl U H hK hH), hm.2⟩
    · cases hp
  · cases h
def zP_Row_block : List (List (Nat × zE)) := [[(0, ej (.lconst 1) 1 (1)), (1, e1 (.lstore_n 2) 2 2), (2, e1 (.iload_n 1) 3 1), (3, ei (.bipush 20) 5 0 (20)), (5, e0 (.imul) 6), (6, e1 (.istore 4) 8 4), (8, e1 (.iload 4) 10 4), (10, e1 (.istore 5) 12 5), (12, e1 (.iload 5) 14 5), (14, e1 (.iload 4) 16 4)],
  [(16, ei (.bipush 20) 18 0 (20)), (18, e0 (.iadd) 19), (19, e1 (.if_icmp .ge 30) 22 49), (22, e1 (.iload 5) 24 5), (24, e1 (.aload_n 0) 25 0), (25, e3 (.getfield 15) 28 8 1 0), (28, e1 (.if_icmp .ge 21) 31 49), (31, e1 (.lload_n 2) 32 2)],
  [(32, ei (.iconst 3) 33 0 (3)), (33, e0 (.lshl) 34), (34, e1 (.aload_n 0) 35 0), (35, e1 (.iload 5) 37 5), (37, e3 (.invokevirtual 32) 40 0 2 0), (40, e0 (.i2l) 41), (41, e0 (.lor) 42), (42, e1 (.lstore_n 2) 43 2), (43, ei (.iinc 5 1) 46 5 (1)), (46, e1 (.goto (-34)) 49 12)],
  [(49, e1 (.lload_n 2) 50 2), (50, e0 (.lreturn) 51)]]
noncomputable def zE_Row_block (α : Type) : Nat → zX α := fun i => bif Nat.beq i 0 then zA_vRI_I 8 f_Row_at else fun _ _ _ => none
def zc_Row_block : Nat → Bool := fun pc => Nat.beq pc 12
def D_Row_block_12 (k : Nat → Int64 → Int32 → Int32 → zM → Option (Int64 × zM)) (lv : zV) (st : List Value) (S : zM) : Option (Int64 × zM) := match lv, st with
  | [some (.ref a0), _, some (.long a2), _, some (.int a4), some (.int a5)], [] => k a0 a2 a4 a5 S
  | _, _ => none
theorem d_Row_block_12 {g : zV → Nat → List Value → zM → Prop} (Hw : zWk g) {k : Nat → Int64 → Int32 → Int32 → zM → Option (Int64 × zM)} {res : (Int64 × zM)} {lv : zV} {st : List Value} {S : zM} (h : D_Row_block_12 k lv st S = some res) (hk : ∀ a0 a2 a4 a5 S, k a0 a2 a4 a5 S = some res → g [some (.ref a0), none, some (.long a2), none, some (.int a4), some (.int a5)] 12 [] S) : g lv 12 st S := by
  unfold D_Row_block_12 at h
  split at h
  · exact Hw _ _ _ _ _ (by simp [zle]) (hk _ _ _ _ _  h)
  · cases h
set_option maxRecDepth 100000 in
theorem r_Row_block_12 (n : Nat) (a0 : Nat) (a2 : Int64) (a4 : Int32) (a5 : Int32) (S : zM) : L_Row_block_12 (n + 1) a0 a2 a4 a5 S = zrt false zP_Row_block (zE_Row_block (Int64 × zM)) zc_Row_block zkJ (fun pc lv st S => bif Nat.beq pc 12 then D_Row_block_12 (L_Row_block_12 n) lv st S else none) 1000 12 [some (.ref a0), none, some (.long a2), none, some (.int a4), some (.int a5)] [] S := rfl
theorem g_Row_block_12 {g : zV → Nat → List Value → zM → Prop} {res : (Int64 × zM)} (H : zCl false zP_Row_block (zE_Row_block (Int64 × zM)) zkJ res g) (Hw : zWk g) (n : Nat) : ∀ (a0 : Nat) (a2 : Int64) (a4 : Int32) (a5 : Int32) (S : zM), L_Row_block_12 n a0 a2 a4 a5 S = some res → g [some (.ref a0), none, some (.long a2), none, some (.int a4), some (.int a5)] 12 [] S := by
  induction n with
  | zero => intro a0 a2 a4 a5 S h; cases h
  | succ n ih =>
    intro a0 a2 a4 a5 S h
    refine H zc_Row_block _ 1000 _ _ _ _ ((r_Row_block_12 n a0 a2 a4 a5 S).symm.trans h) (fun pc lv st S hK => ?_)
    rcases zdis hK with ⟨rfl, hK⟩ | hK
    · exact d_Row_block_12 Hw hK ih
    cases hK
set_option maxRecDepth 100000 in
theorem r_Row_block (a0 : Nat) (a1 : Int32) (S : zM) : f_Row_block a0 a1 S = zrt false zP_Row_block (zE_Row_block (Int64 × zM)) zc_Row_block zkJ (fun pc lv st S => bif Nat.beq pc 12 then D_Row_block_12 (L_Row_block_12 zF) lv st S else none) 1000 0 [some (.ref a0), some (.int a1), none, none, none, none] [] S := rfl
theorem G_Row_block {g : zV → Nat → List Value → zM → Prop} {res : (Int64 × zM)} (H : zCl false zP_Row_block (zE_Row_block (Int64 × zM)) zkJ res g) (Hw : zWk g) (a0 : Nat) (a1 : Int32) (S : zM) (h : f_Row_block a0 a1 S = some res) : g [some (.ref a0), some (.int a1), none, none, none, none] 0 [] S := by
  refine H zc_Row_block _ 1000 _ _ _ _ ((r_Row_block a0 a1 S).symm.trans h) (fun pc lv st S hK => ?_)
  rcases zdis hK with ⟨rfl, hK⟩ | hK
  · exact d_Row_block_12 Hw hK (g_Row_block_12 H Hw  zF)
  cases hK
set_option maxRecDepth 100000 in
theorem ok_Row_block : zokT 8 [50] false 1 21 6 false (some .long) cX8_block zP_Row_block = true := by decide +kernel
set_option maxRecDepth 100000 in
theorem s_Row_block {l : Launch} {HB : Heap} {b L : Nat} {xs : Nat → Int32} {aK aV : Nat → Nat} {G : va_G} {tc : Nat → ClassId} (h0 : zSnd l HB b L xs aK aV G tc (zMT.getD 50 zyD) (fun α => zA_vRI_I 8 f_Row_at)) : zSnd l HB b L xs aK aV G tc (zMT.getD 221 zyD) (fun α => zA_vRI_J 8 f_Row_block) := by
  rw [show zMT.getD 221 zyD = (yX8_block, cX8_block, 6, (some .long), 0, 2, 1, 21) from rfl]
  intro α as S k res h
  unfold zA_vRI_J at h
  dsimp only at h
  split at h
  · rename_i a0 a1
    obtain ⟨p, hp, h⟩ := zbind h
    unfold zcl at hp
    split at hp
    · rename_i hkd
      have hm := zmeth (l := l) (HB := HB) (b := b) (L := L) (xs := xs) (aK := aK) (aV := aV) (G := G) (tc := tc) (q := (yX8_block, cX8_block, 6, (some .long), 0, 2, 1, 21)) (o := 8) (cs := [50]) (rz := false) (T := zP_Row_block) (E := zE_Row_block (Int64 × zM)) (kr := zkJ) (res := p) (v0 := some (.long p.1)) (S0 := p.2) (as := [.ref a0, .int a1]) (S := S) zMT_fine (by decide +kernel) (fun i as S k' h => by
        unfold zE_Row_block at h
        rcases zdisf h with ⟨rfl, h⟩ | h
        · exact h0 _ _ _ _ _ h
        cases h) ok_Row_block rfl (fun v S' h => zkJ_inv h) (Nat.le_of_ble_eq_true rfl) (fun g H Hw => Hw _ [some (.ref a0), some (.int a1), none, none, none, none] _ _ _ ⟨rfl, rfl, trivial⟩ (G_Row_block H Hw a0 a1 S hp))
      exact ⟨_, _, h, hm.1, rfl, fun _ => ⟨_, _, rfl⟩, (fun _ U H hK hH a r e => by cases e; exact zrecv (ci := 8) (by omega) hkd rfl U H hK hH), hm.2⟩
    · cases hp
  · cases h
def zP_Outcomes_blockOf : List (List (Nat × zE)) := [[(0, e1 (.iload_n 1) 1 1), (1, e1 (.ifCond .lt 19) 4 20), (4, e1 (.iload_n 1) 5 1), (5, ei (.sipush 1364) 8 0 (1364)), (8, e1 (.if_icmp .ge 12) 11 20), (11, e1 (.iload_n 2) 12 2), (12, e1 (.ifCond .lt 8) 15 20), (15, e1 (.iload_n 2) 16 2)],
  [(16, ei (.iconst 3) 17 0 (3)), (17, e1 (.if_icmp .lt 7) 20 24), (20, ej (.lconst 0) 21 (0)), (21, e1 (.goto 13) 24 34), (24, e1 (.aload_n 0) 25 0), (25, e3 (.getfield 15) 28 4 1 2), (28, e1 (.iload_n 1) 29 1), (29, ei (.iconst 3) 30 0 (3)), (30, e0 (.imul) 31), (31, e1 (.iload_n 2) 32 2)],
  [(32, e0 (.iadd) 33), (33, e0 (.laload) 34), (34, e0 (.lreturn) 35)]]
noncomputable def zE_Outcomes_blockOf (α : Type) : Nat → zX α := fun _ => fun _ _ _ => none
def zc_Outcomes_blockOf : Nat → Bool := fun pc => false
set_option maxRecDepth 100000 in
theorem r_Outcomes_blockOf (a0 : Nat) (a1 : Int32) (a2 : Int32) (S : zM) : f_Outcomes_blockOf a0 a1 a2 S = zrt false zP_Outcomes_blockOf (zE_Outcomes_blockOf (Int64 × zM)) zc_Outcomes_blockOf zkJ (fun pc lv st S => none) 1000 0 [some (.ref a0), some (.int a1), some (.int a2)] [] S := rfl
theorem G_Outcomes_blockOf {g : zV → Nat → List Value → zM → Prop} {res : (Int64 × zM)} (H : zCl false zP_Outcomes_blockOf (zE_Outcomes_blockOf (Int64 × zM)) zkJ res g) (Hw : zWk g) (a0 : Nat) (a1 : Int32) (a2 : Int32) (S : zM) (h : f_Outcomes_blockOf a0 a1 a2 S = some res) : g [some (.ref a0), some (.int a1), some (.int a2)] 0 [] S := by
  refine H zc_Outcomes_blockOf _ 1000 _ _ _ _ ((r_Outcomes_blockOf a0 a1 a2 S).symm.trans h) (fun pc lv st S hK => ?_)
  cases hK
set_option maxRecDepth 100000 in
theorem ok_Outcomes_blockOf : zokT 4 [] false 0 0 3 false (some .long) cX4_blockOf zP_Outcomes_blockOf = true := by decide +kernel
set_option maxRecDepth 100000 in
theorem s_Outcomes_blockOf {l : Launch} {HB : Heap} {b L : Nat} {xs : Nat → Int32} {aK aV : Nat → Nat} {G : va_G} {tc : Nat → ClassId} : zSnd l HB b L xs aK aV G tc (zMT.getD 222 zyD) (fun α => zA_vRII_J 4 f_Outcomes_blockOf) := by
  rw [show zMT.getD 222 zyD = (yX4_blockOf, cX4_blockOf, 3, (some .long), 0, 3, 0, 0) from rfl]
  intro α as S k res h
  unfold zA_vRII_J at h
  dsimp only at h
  split at h
  · rename_i a0 a1 a2
    obtain ⟨p, hp, h⟩ := zbind h
    unfold zcl at hp
    split at hp
    · rename_i hkd
      have hm := zmeth (l := l) (HB := HB) (b := b) (L := L) (xs := xs) (aK := aK) (aV := aV) (G := G) (tc := tc) (q := (yX4_blockOf, cX4_blockOf, 3, (some .long), 0, 3, 0, 0)) (o := 4) (cs := []) (rz := false) (T := zP_Outcomes_blockOf) (E := zE_Outcomes_blockOf (Int64 × zM)) (kr := zkJ) (res := p) (v0 := some (.long p.1)) (S0 := p.2) (as := [.ref a0, .int a1, .int a2]) (S := S) zMT_fine (by decide +kernel) (fun i as S k' h => by
        unfold zE_Outcomes_blockOf at h
        cases h) ok_Outcomes_blockOf rfl (fun v S' h => zkJ_inv h) (Nat.le_of_ble_eq_true rfl) (fun g H Hw => Hw _ [some (.ref a0), some (.int a1), some (.int a2)] _ _ _ ⟨rfl, rfl, rfl, trivial⟩ (G_Outcomes_blockOf H Hw a0 a1 a2 S hp))
      exact ⟨_, _, h, hm.1, rfl, fun _ => ⟨_, _, rfl⟩, (fun _ U H hK hH a r e => by cases e; exact zrecv (ci := 4) (by omega) hkd rfl U H hK hH), hm.2⟩
    · cases hp
  · cases h
def zP_Outcomes_sameBlocks : List (List (Nat × zE)) := [[(0, e1 (.aload_n 0) 1 0), (1, e1 (.iload_n 1) 2 1), (2, ei (.iconst 0) 3 0 (0)), (3, e3 (.invokevirtual 45) 6 0 3 0), (6, e1 (.aload_n 0) 7 0), (7, e1 (.iload_n 2) 8 2), (8, ei (.iconst 0) 9 0 (0)), (9, e3 (.invokevirtual 45) 12 0 3 0), (12, e0 (.lcmp) 13), (13, e1 (.ifCond .ne 39) 16 52)],
  [(16, e1 (.aload_n 0) 17 0), (17, e1 (.iload_n 1) 18 1), (18, ei (.iconst 1) 19 0 (1)), (19, e3 (.invokevirtual 45) 22 0 3 0), (22, e1 (.aload_n 0) 23 0), (23, e1 (.iload_n 2) 24 2), (24, ei (.iconst 1) 25 0 (1)), (25, e3 (.invokevirtual 45) 28 0 3 0), (28, e0 (.lcmp) 29), (29, e1 (.ifCond .ne 23) 32 52)],
  [(32, e1 (.aload_n 0) 33 0), (33, e1 (.iload_n 1) 34 1), (34, ei (.iconst 2) 35 0 (2)), (35, e3 (.invokevirtual 45) 38 0 3 0), (38, e1 (.aload_n 0) 39 0), (39, e1 (.iload_n 2) 40 2), (40, ei (.iconst 2) 41 0 (2)), (41, e3 (.invokevirtual 45) 44 0 3 0), (44, e0 (.lcmp) 45), (45, e1 (.ifCond .ne 7) 48 52)],
  [(48, ei (.iconst 1) 49 0 (1)), (49, e1 (.goto 4) 52 53), (52, ei (.iconst 0) 53 0 (0)), (53, e0 (.ireturn) 54)]]
noncomputable def zE_Outcomes_sameBlocks (α : Type) : Nat → zX α := fun i => bif Nat.beq i 0 then zA_vRII_J 4 f_Outcomes_blockOf else fun _ _ _ => none
def zc_Outcomes_sameBlocks : Nat → Bool := fun pc => false
set_option maxRecDepth 100000 in
theorem r_Outcomes_sameBlocks (a0 : Nat) (a1 : Int32) (a2 : Int32) (S : zM) : f_Outcomes_sameBlocks a0 a1 a2 S = zrt true zP_Outcomes_sameBlocks (zE_Outcomes_sameBlocks (Int32 × zM)) zc_Outcomes_sameBlocks zkI (fun pc lv st S => none) 1000 0 [some (.ref a0), some (.int a1), some (.int a2)] [] S := rfl
theorem G_Outcomes_sameBlocks {g : zV → Nat → List Value → zM → Prop} {res : (Int32 × zM)} (H : zCl true zP_Outcomes_sameBlocks (zE_Outcomes_sameBlocks (Int32 × zM)) zkI res g) (Hw : zWk g) (a0 : Nat) (a1 : Int32) (a2 : Int32) (S : zM) (h : f_Outcomes_sameBlocks a0 a1 a2 S = some res) : g [some (.ref a0), some (.int a1), some (.int a2)] 0 [] S := by
  refine H zc_Outcomes_sameBlocks _ 1000 _ _ _ _ ((r_Outcomes_sameBlocks a0 a1 a2 S).symm.trans h) (fun pc lv st S hK => ?_)
  cases hK
set_option maxRecDepth 100000 in
theorem ok_Outcomes_sameBlocks : zokT 4 [222] false 1 22 3 true (some .boolean) cX4_sameBlocks zP_Outcomes_sameBlocks = true := by decide +kernel
set_option maxRecDepth 100000 in
theorem s_Outcomes_sameBlocks {l : Launch} {HB : Heap} {b L : Nat} {xs : Nat → Int32} {aK aV : Nat → Nat} {G : va_G} {tc : Nat → ClassId} (h0 : zSnd l HB b L xs aK aV G tc (zMT.getD 222 zyD) (fun α => zA_vRII_J 4 f_Outcomes_blockOf)) : zSnd l HB b L xs aK aV G tc (zMT.getD 223 zyD) (fun α => zA_vRII_I 4 f_Outcomes_sameBlocks) := by
  rw [show zMT.getD 223 zyD = (yX4_sameBlocks, cX4_sameBlocks, 3, (some .boolean), 0, 3, 1, 22) from rfl]
  intro α as S k res h
  unfold zA_vRII_I at h
  dsimp only at h
  split at h
  · rename_i a0 a1 a2
    obtain ⟨p, hp, h⟩ := zbind h
    unfold zcl at hp
    split at hp
    · rename_i hkd
      have hm := zmeth (l := l) (HB := HB) (b := b) (L := L) (xs := xs) (aK := aK) (aV := aV) (G := G) (tc := tc) (q := (yX4_sameBlocks, cX4_sameBlocks, 3, (some .boolean), 0, 3, 1, 22)) (o := 4) (cs := [222]) (rz := true) (T := zP_Outcomes_sameBlocks) (E := zE_Outcomes_sameBlocks (Int32 × zM)) (kr := zkI) (res := p) (v0 := some (.int p.1)) (S0 := p.2) (as := [.ref a0, .int a1, .int a2]) (S := S) zMT_fine (by decide +kernel) (fun i as S k' h => by
        unfold zE_Outcomes_sameBlocks at h
        rcases zdisf h with ⟨rfl, h⟩ | h
        · exact h0 _ _ _ _ _ h
        cases h) ok_Outcomes_sameBlocks rfl (fun v S' h => zkI_inv h) (Nat.le_of_ble_eq_true rfl) (fun g H Hw => Hw _ [some (.ref a0), some (.int a1), some (.int a2)] _ _ _ ⟨rfl, rfl, rfl, trivial⟩ (G_Outcomes_sameBlocks H Hw a0 a1 a2 S hp))
      exact ⟨_, _, h, hm.1, rfl, fun _ => ⟨_, _, rfl⟩, (fun _ U H hK hH a r e => by cases e; exact zrecv (ci := 4) (by omega) hkd rfl U H hK hH), hm.2⟩
    · cases hp
  · cases h
def zP_Outcomes_seat : List (List (Nat × zE)) := [[(0, e1 (.aload_n 0) 1 0), (1, e1 (.iload_n 1) 2 1), (2, ei (.iconst 0) 3 0 (0)), (3, e3 (.invokevirtual 45) 6 0 3 0), (6, ej (.ldc2_w 49) 9 (31)), (9, e0 (.lmul) 10), (10, e1 (.aload_n 0) 11 0), (11, e1 (.iload_n 1) 12 1), (12, ei (.iconst 1) 13 0 (1)), (13, e3 (.invokevirtual 45) 16 0 3 0)],
  [(16, e0 (.ladd) 17), (17, ej (.ldc2_w 49) 20 (31)), (20, e0 (.lmul) 21), (21, e1 (.aload_n 0) 22 0), (22, e1 (.iload_n 1) 23 1), (23, ei (.iconst 2) 24 0 (2)), (24, e3 (.invokevirtual 45) 27 0 3 0), (27, e0 (.ladd) 28), (28, e1 (.lstore_n 2) 29 2), (29, e1 (.lload_n 2) 30 2), (30, ej (.ldc2_w 51) 33 (-7046029254386353131))],
  [(33, e0 (.lmul) 34), (34, ei (.bipush 53) 36 0 (53)), (36, e0 (.lushr) 37), (37, e0 (.l2i) 38), (38, e1 (.istore 4) 40 4), (40, ei (.iconst 0) 41 0 (0)), (41, e1 (.istore 5) 43 5), (43, e1 (.iload 5) 45 5), (45, ei (.sipush 2048) 48 0 (2048))],
  [(48, e1 (.if_icmp .ge 69) 51 117), (51, e1 (.iload 4) 53 4), (53, e1 (.iload 5) 55 5), (55, e0 (.iadd) 56), (56, ei (.sipush 2047) 59 0 (2047)), (59, e0 (.iand) 60), (60, e1 (.istore 6) 62 6), (62, e1 (.aload_n 0) 63 0), (63, e3 (.getfield 19) 66 4 2 2)],
  [(66, e1 (.iload 6) 68 6), (68, e0 (.iaload) 69), (69, e1 (.ifCond .ne 15) 72 84), (72, e1 (.aload_n 0) 73 0), (73, e3 (.getfield 19) 76 4 2 2), (76, e1 (.iload 6) 78 6), (78, e1 (.iload_n 1) 79 1), (79, ei (.iconst 1) 80 0 (1))],
  [(80, e0 (.iadd) 81), (81, e0 (.iastore) 82), (82, ei (.iconst (-1)) 83 0 (-1)), (83, e0 (.ireturn) 84), (84, e1 (.aload_n 0) 85 0), (85, e1 (.aload_n 0) 86 0), (86, e3 (.getfield 19) 89 4 2 2), (89, e1 (.iload 6) 91 6), (91, e0 (.iaload) 92), (92, ei (.iconst 1) 93 0 (1)), (93, e0 (.isub) 94), (94, e1 (.iload_n 1) 95 1), (95, e3 (.invokevirtual 53) 98 1 3 0)],
  [(98, e1 (.ifCond .eq 13) 101 111), (101, e1 (.aload_n 0) 102 0), (102, e3 (.getfield 19) 105 4 2 2), (105, e1 (.iload 6) 107 6), (107, e0 (.iaload) 108), (108, ei (.iconst 1) 109 0 (1)), (109, e0 (.isub) 110), (110, e0 (.ireturn) 111), (111, ei (.iinc 5 1) 114 5 (1))],
  [(114, e1 (.goto (-71)) 117 43), (117, ei (.iconst (-1)) 118 0 (-1)), (118, e0 (.ireturn) 119)]]
noncomputable def zE_Outcomes_seat (α : Type) : Nat → zX α := fun i => bif Nat.beq i 0 then zA_vRII_J 4 f_Outcomes_blockOf else bif Nat.beq i 1 then zA_vRII_I 4 f_Outcomes_sameBlocks else fun _ _ _ => none
def zc_Outcomes_seat : Nat → Bool := fun pc => Nat.beq pc 43
def D_Outcomes_seat_43 (k : Nat → Int32 → Int32 → Int32 → zM → Option (Int32 × zM)) (lv : zV) (st : List Value) (S : zM) : Option (Int32 × zM) := match lv, st with
  | [some (.ref a0), some (.int a1), _, _, some (.int a4), some (.int a5), _], [] => k a0 a1 a4 a5 S
  | _, _ => none
theorem d_Outcomes_seat_43 {g : zV → Nat → List Value → zM → Prop} (Hw : zWk g) {k : Nat → Int32 → Int32 → Int32 → zM → Option (Int32 × zM)} {res : (Int32 × zM)} {lv : zV} {st : List Value} {S : zM} (h : D_Outcomes_seat_43 k lv st S = some res) (hk : ∀ a0 a1 a4 a5 S, k a0 a1 a4 a5 S = some res → g [some (.ref a0), some (.int a1), none, none, some (.int a4), some (.int a5), none] 43 [] S) : g lv 43 st S := by
  unfold D_Outcomes_seat_43 at h
  split at h
  · exact Hw _ _ _ _ _ (by simp [zle]) (hk _ _ _ _ _  h)
  · cases h
set_option maxRecDepth 100000 in
theorem r_Outcomes_seat_43 (n : Nat) (a0 : Nat) (a1 : Int32) (a4 : Int32) (a5 : Int32) (S : zM) : L_Outcomes_seat_43 (n + 1) a0 a1 a4 a5 S = zrt false zP_Outcomes_seat (zE_Outcomes_seat (Int32 × zM)) zc_Outcomes_seat zkI (fun pc lv st S => bif Nat.beq pc 43 then D_Outcomes_seat_43 (L_Outcomes_seat_43 n) lv st S else none) 1000 43 [some (.ref a0), some (.int a1), none, none, some (.int a4), some (.int a5), none] [] S := rfl
theorem g_Outcomes_seat_43 {g : zV → Nat → List Value → zM → Prop} {res : (Int32 × zM)} (H : zCl false zP_Outcomes_seat (zE_Outcomes_seat (Int32 × zM)) zkI res g) (Hw : zWk g) (n : Nat) : ∀ (a0 : Nat) (a1 : Int32) (a4 : Int32) (a5 : Int32) (S : zM), L_Outcomes_seat_43 n a0 a1 a4 a5 S = some res → g [some (.ref a0), some (.int a1), none, none, some (.int a4), some (.int a5), none] 43 [] S := by
  induction n with
  | zero => intro a0 a1 a4 a5 S h; cases h
  | succ n ih =>
    intro a0 a1 a4 a5 S h
    refine H zc_Outcomes_seat _ 1000 _ _ _ _ ((r_Outcomes_seat_43 n a0 a1 a4 a5 S).symm.trans h) (fun pc lv st S hK => ?_)
    rcases zdis hK with ⟨rfl, hK⟩ | hK
    · exact d_Outcomes_seat_43 Hw hK ih
    cases hK
set_option maxRecDepth 100000 in
theorem r_Outcomes_seat (a0 : Nat) (a1 : Int32) (S : zM) : f_Outcomes_seat a0 a1 S = zrt false zP_Outcomes_seat (zE_Outcomes_seat (Int32 × zM)) zc_Outcomes_seat zkI (fun pc lv st S => bif Nat.beq pc 43 then D_Outcomes_seat_43 (L_Outcomes_seat_43 zF) lv st S else none) 1000 0 [some (.ref a0), some (.int a1), none, none, none, none, none] [] S := rfl
theorem G_Outcomes_seat {g : zV → Nat → List Value → zM → Prop} {res : (Int32 × zM)} (H : zCl false zP_Outcomes_seat (zE_Outcomes_seat (Int32 × zM)) zkI res g) (Hw : zWk g) (a0 : Nat) (a1 : Int32) (S : zM) (h : f_Outcomes_seat a0 a1 S = some res) : g [some (.ref a0), some (.int a1), none, none, none, none, none] 0 [] S := by
  refine H zc_Outcomes_seat _ 1000 _ _ _ _ ((r_Outcomes_seat a0 a1 S).symm.trans h) (fun pc lv st S hK => ?_)
  rcases zdis hK with ⟨rfl, hK⟩ | hK
  · exact d_Outcomes_seat_43 Hw hK (g_Outcomes_seat_43 H Hw  zF)
  cases hK
set_option maxRecDepth 100000 in
theorem ok_Outcomes_seat : zokT 4 [222, 223] false 2 44 7 false (some .int) cX4_seat zP_Outcomes_seat = true := by decide +kernel
set_option maxRecDepth 100000 in
theorem s_Outcomes_seat {l : Launch} {HB : Heap} {b L : Nat} {xs : Nat → Int32} {aK aV : Nat → Nat} {G : va_G} {tc : Nat → ClassId} (h0 : zSnd l HB b L xs aK aV G tc (zMT.getD 222 zyD) (fun α => zA_vRII_J 4 f_Outcomes_blockOf)) (h1 : zSnd l HB b L xs aK aV G tc (zMT.getD 223 zyD) (fun α => zA_vRII_I 4 f_Outcomes_sameBlocks)) : zSnd l HB b L xs aK aV G tc (zMT.getD 224 zyD) (fun α => zA_vRI_I 4 f_Outcomes_seat) := by
  rw [show zMT.getD 224 zyD = (yX4_seat, cX4_seat, 7, (some .int), 0, 2, 2, 44) from rfl]
  intro α as S k res h
  unfold zA_vRI_I at h
  dsimp only at h
  split at h
  · rename_i a0 a1
    obtain ⟨p, hp, h⟩ := zbind h
    unfold zcl at hp
    split at hp
    · rename_i hkd
      have hm := zmeth (l := l) (HB := HB) (b := b) (L := L) (xs := xs) (aK := aK) (aV := aV) (G := G) (tc := tc) (q := (yX4_seat, cX4_seat, 7, (some .int), 0, 2, 2, 44)) (o := 4) (cs := [222, 223]) (rz := false) (T := zP_Outcomes_seat) (E := zE_Outcomes_seat (Int32 × zM)) (kr := zkI) (res := p) (v0 := some (.int p.1)) (S0 := p.2) (as := [.ref a0, .int a1]) (S := S) zMT_fine (by decide +kernel) (fun i as S k' h => by
        unfold zE_Outcomes_seat at h
        rcases zdisf h with ⟨rfl, h⟩ | h
        · exact h0 _ _ _ _ _ h
        rcases zdisf h with ⟨rfl, h⟩ | h
        · exact h1 _ _ _ _ _ h
        cases h) ok_Outcomes_seat rfl (fun v S' h => zkI_inv h) (Nat.le_of_ble_eq_true rfl) (fun g H Hw => Hw _ [some (.ref a0), some (.int a1), none, none, none, none, none] _ _ _ ⟨rfl, rfl, trivial⟩ (G_Outcomes_seat H Hw a0 a1 S hp))
      exact ⟨_, _, h, hm.1, rfl, fun _ => ⟨_, _, rfl⟩, (fun _ U H hK hH a r e => by cases e; exact zrecv (ci := 4) (by omega) hkd rfl U H hK hH), hm.2⟩
    · cases hp
  · cases h
def zP_Outcomes_put : List (List (Nat × zE)) := [[(0, e1 (.iload_n 1) 1 1), (1, e1 (.ifCond .lt 10) 4 11), (4, e1 (.iload_n 1) 5 1), (5, ei (.sipush 1364) 8 0 (1364)), (8, e1 (.if_icmp .lt 5) 11 13), (11, ei (.iconst (-1)) 12 0 (-1)), (12, e0 (.ireturn) 13), (13, e1 (.iload_n 2) 14 2), (14, e1 (.ifCond .eq 13) 17 27)],
  [(17, e1 (.aload_n 0) 18 0), (18, e3 (.getfield 9) 21 4 0 2), (21, e1 (.iload_n 1) 22 1), (22, e1 (.iload_n 2) 23 2), (23, e0 (.ineg) 24), (24, e0 (.iastore) 25), (25, ei (.iconst (-1)) 26 0 (-1)), (26, e0 (.ireturn) 27), (27, e1 (.aload_n 0) 28 0), (28, e3 (.getfield 9) 31 4 0 2), (31, e1 (.iload_n 1) 32 1)],
  [(32, e1 (.aload_n 3) 33 3), (33, e3 (.getfield 28) 36 8 1 0), (36, e0 (.iastore) 37), (37, ei (.iconst 0) 38 0 (0)), (38, e1 (.istore 4) 40 4), (40, e1 (.iload 4) 42 4), (42, ei (.iconst 3) 43 0 (3)), (43, e1 (.if_icmp .ge 26) 46 69), (46, e1 (.aload_n 0) 47 0), (47, e3 (.getfield 15) 50 4 1 2)],
  [(50, e1 (.iload_n 1) 51 1), (51, ei (.iconst 3) 52 0 (3)), (52, e0 (.imul) 53), (53, e1 (.iload 4) 55 4), (55, e0 (.iadd) 56), (56, e1 (.aload_n 3) 57 3), (57, e1 (.iload 4) 59 4), (59, e3 (.invokevirtual 34) 62 0 2 0), (62, e0 (.lastore) 63), (63, ei (.iinc 4 1) 66 4 (1))],
  [(66, e1 (.goto (-26)) 69 40), (69, e1 (.aload_n 0) 70 0), (70, e1 (.iload_n 1) 71 1), (71, e3 (.invokevirtual 38) 74 1 2 0), (74, e0 (.ireturn) 75)]]
noncomputable def zE_Outcomes_put (α : Type) : Nat → zX α := fun i => bif Nat.beq i 0 then zA_vRI_J 8 f_Row_block else bif Nat.beq i 1 then zA_vRI_I 4 f_Outcomes_seat else fun _ _ _ => none
def zc_Outcomes_put : Nat → Bool := fun pc => Nat.beq pc 40
def D_Outcomes_put_40 (k : Nat → Int32 → Nat → Int32 → zM → Option (Int32 × zM)) (lv : zV) (st : List Value) (S : zM) : Option (Int32 × zM) := match lv, st with
  | [some (.ref a0), some (.int a1), _, some (.ref a3), some (.int a4)], [] => k a0 a1 a3 a4 S
  | _, _ => none
theorem d_Outcomes_put_40 {g : zV → Nat → List Value → zM → Prop} (Hw : zWk g) {k : Nat → Int32 → Nat → Int32 → zM → Option (Int32 × zM)} {res : (Int32 × zM)} {lv : zV} {st : List Value} {S : zM} (h : D_Outcomes_put_40 k lv st S = some res) (hk : ∀ a0 a1 a3 a4 S, k a0 a1 a3 a4 S = some res → g [some (.ref a0), some (.int a1), none, some (.ref a3), some (.int a4)] 40 [] S) : g lv 40 st S := by
  unfold D_Outcomes_put_40 at h
  split at h
  · exact Hw _ _ _ _ _ (by simp [zle]) (hk _ _ _ _ _  h)
  · cases h
set_option maxRecDepth 100000 in
theorem r_Outcomes_put_40 (n : Nat) (a0 : Nat) (a1 : Int32) (a3 : Nat) (a4 : Int32) (S : zM) : L_Outcomes_put_40 (n + 1) a0 a1 a3 a4 S = zrt false zP_Outcomes_put (zE_Outcomes_put (Int32 × zM)) zc_Outcomes_put zkI (fun pc lv st S => bif Nat.beq pc 40 then D_Outcomes_put_40 (L_Outcomes_put_40 n) lv st S else none) 1000 40 [some (.ref a0), some (.int a1), none, some (.ref a3), some (.int a4)] [] S := rfl
theorem g_Outcomes_put_40 {g : zV → Nat → List Value → zM → Prop} {res : (Int32 × zM)} (H : zCl false zP_Outcomes_put (zE_Outcomes_put (Int32 × zM)) zkI res g) (Hw : zWk g) (n : Nat) : ∀ (a0 : Nat) (a1 : Int32) (a3 : Nat) (a4 : Int32) (S : zM), L_Outcomes_put_40 n a0 a1 a3 a4 S = some res → g [some (.ref a0), some (.int a1), none, some (.ref a3), some (.int a4)] 40 [] S := by
  induction n with
  | zero => intro a0 a1 a3 a4 S h; cases h
  | succ n ih =>
    intro a0 a1 a3 a4 S h
    refine H zc_Outcomes_put _ 1000 _ _ _ _ ((r_Outcomes_put_40 n a0 a1 a3 a4 S).symm.trans h) (fun pc lv st S hK => ?_)
    rcases zdis hK with ⟨rfl, hK⟩ | hK
    · exact d_Outcomes_put_40 Hw hK ih
    cases hK
set_option maxRecDepth 100000 in
theorem r_Outcomes_put (a0 : Nat) (a1 : Int32) (a2 : Int32) (a3 : Nat) (S : zM) : f_Outcomes_put a0 a1 a2 a3 S = zrt false zP_Outcomes_put (zE_Outcomes_put (Int32 × zM)) zc_Outcomes_put zkI (fun pc lv st S => bif Nat.beq pc 40 then D_Outcomes_put_40 (L_Outcomes_put_40 zF) lv st S else none) 1000 0 [some (.ref a0), some (.int a1), some (.int a2), some (.ref a3), none] [] S := rfl
theorem G_Outcomes_put {g : zV → Nat → List Value → zM → Prop} {res : (Int32 × zM)} (H : zCl false zP_Outcomes_put (zE_Outcomes_put (Int32 × zM)) zkI res g) (Hw : zWk g) (a0 : Nat) (a1 : Int32) (a2 : Int32) (a3 : Nat) (S : zM) (h : f_Outcomes_put a0 a1 a2 a3 S = some res) : g [some (.ref a0), some (.int a1), some (.int a2), some (.ref a3), none] 0 [] S := by
  refine H zc_Outcomes_put _ 1000 _ _ _ _ ((r_Outcomes_put a0 a1 a2 a3 S).symm.trans h) (fun pc lv st S hK => ?_)
  rcases zdis hK with ⟨rfl, hK⟩ | hK
  · exact d_Outcomes_put_40 Hw hK (g_Outcomes_put_40 H Hw  zF)
  cases hK
set_option maxRecDepth 100000 in
theorem ok_Outcomes_put : zokT 4 [221, 224] false 3 70 5 false (some .int) cX4_put zP_Outcomes_put = true := by decide +kernel
set_option maxRecDepth 100000 in
theorem s_Outcomes_put {l : Launch} {HB : Heap} {b L : Nat} {xs : Nat → Int32} {aK aV : Nat → Nat} {G : va_G} {tc : Nat → ClassId} (h0 : zSnd l HB b L xs aK aV G tc (zMT.getD 221 zyD) (fun α => zA_vRI_J 8 f_Row_block)) (h1 : zSnd l HB b L xs aK aV G tc (zMT.getD 224 zyD) (fun α => zA_vRI_I 4 f_Outcomes_seat)) : zSnd l HB b L xs aK aV G tc (zMT.getD 225 zyD) (fun α => zA_vRIIR_I 4 f_Outcomes_put) := by
  rw [show zMT.getD 225 zyD = (yX4_put, cX4_put, 5, (some .int), 0, 4, 3, 70) from rfl]
  intro α as S k res h
  unfold zA_vRIIR_I at h
  dsimp only at h
  split at h
  · rename_i a0 a1 a2 a3
    obtain ⟨p, hp, h⟩ := zbind h
    unfold zcl at hp
    split at hp
    · rename_i hkd
      have hm := zmeth (l := l) (HB := HB) (b := b) (L := L) (xs := xs) (aK := aK) (aV := aV) (G := G) (tc := tc) (q := (yX4_put, cX4_put, 5, (some .int), 0, 4, 3, 70)) (o := 4) (cs := [221, 224]) (rz := false) (T := zP_Outcomes_put) (E := zE_Outcomes_put (Int32 × zM)) (kr := zkI) (res := p) (v0 := some (.int p.1)) (S0 := p.2) (as := [.ref a0, .int a1, .int a2, .ref a3]) (S := S) zMT_fine (by decide +kernel) (fun i as S k' h => by
        unfold zE_Outcomes_put at h
        rcases zdisf h with ⟨rfl, h⟩ | h
        · exact h0 _ _ _ _ _ h
        rcases zdisf h with ⟨rfl, h⟩ | h
        · exact h1 _ _ _ _ _ h
        cases h) ok_Outcomes_put rfl (fun v S' h => zkI_inv h) (Nat.le_of_ble_eq_true rfl) (fun g H Hw => Hw _ [some (.ref a0), some (.int a1), some (.int a2), some (.ref a3), none] _ _ _ ⟨rfl, rfl, rfl, rfl, trivial⟩ (G_Outcomes_put H Hw a0 a1 a2 a3 S hp))
      exact ⟨_, _, h, hm.1, rfl, fun _ => ⟨_, _, rfl⟩, (fun _ U H hK hH a r e => by cases e; exact zrecv (ci := 4) (by omega) hkd rfl U H hK hH), hm.2⟩
    · cases hp
  · cases h
def zP_Census_learn : List (List (Nat × zE)) := [[(0, e1 (.aload_n 0) 1 0), (1, e1 (.aload_n 1) 2 1), (2, e3 (.putfield 70) 5 2 9 2), (5, e1 (.aload_n 0) 6 0), (6, e1 (.iload_n 2) 7 2), (7, e3 (.invokevirtual 74) 10 0 2 0), (10, e1 (.istore_n 3) 11 3), (11, e1 (.aload_n 0) 12 0), (12, e3 (.getfield 63) 15 2 10 0), (15, e1 (.istore 4) 17 4)],
  [(17, e1 (.iload 4) 19 4), (19, e1 (.iload_n 3) 20 3), (20, e1 (.if_icmp .ge 77) 23 97), (23, e1 (.aload_n 0) 24 0), (24, e3 (.getfield 33) 27 2 3 2), (27, e1 (.aload_n 0) 28 0), (28, e1 (.iload 4) 30 4), (30, e3 (.invokevirtual 78) 33 1 2 0)],
  [(33, e3 (.invokevirtual 82) 36 2 2 0), (36, e0 (.pop) 37), (37, e1 (.aload_n 0) 38 0), (38, e3 (.getfield 24) 41 2 2 2), (41, e1 (.aload_n 1) 42 1), (42, e1 (.aload_n 0) 43 0), (43, e3 (.getfield 33) 46 2 3 2), (46, ei (.iconst 0) 47 0 (0)), (47, e3 (.invokevirtual 86) 50 3 4 0)],
  [(50, e1 (.istore 5) 52 5), (52, e1 (.aload_n 0) 53 0), (53, e3 (.getfield 44) 56 2 6 2), (56, e1 (.iload 4) 58 4), (58, e1 (.aload_n 0) 59 0), (59, e3 (.getfield 12) 62 2 0 2), (62, e1 (.iload 4) 64 4)],
  [(64, e1 (.iload 5) 66 5), (66, e1 (.aload_n 0) 67 0), (67, e3 (.getfield 24) 70 2 2 2), (70, e3 (.getfield 90) 73 1 3 2), (73, e3 (.invokevirtual 91) 76 4 4 0), (76, e0 (.iastore) 77), (77, e1 (.aload_n 0) 78 0), (78, e3 (.getfield 40) 81 2 5 2)],
  [(81, e1 (.iload 4) 83 4), (83, e1 (.aload_n 0) 84 0), (84, e3 (.getfield 24) 87 2 2 2), (87, e3 (.getfield 95) 90 1 5 0), (90, e0 (.iastore) 91), (91, ei (.iinc 4 1) 94 4 (1)), (94, e1 (.goto (-77)) 97 17)],
  [(97, e1 (.aload_n 0) 98 0), (98, e1 (.aload_n 0) 99 0), (99, e3 (.getfield 63) 102 2 10 0), (102, e1 (.iload_n 3) 103 3), (103, e3 (.invokestatic 98) 106 997 2 0), (106, e3 (.putfield 63) 109 2 10 0), (109, e0 (.return_) 110)]]
noncomputable def zE_Census_learn (α : Type) : Nat → zX α := fun i => bif Nat.beq i 0 then zA_vRI_I 2 f_Census_count else bif Nat.beq i 1 then zA_vRI_J 2 f_Census_spelled else bif Nat.beq i 2 then zA_vRJ_I 8 f_Row_takeWord else bif Nat.beq i 3 then zA_vRRRI_I 1 f_Carrier_bring else bif Nat.beq i 4 then zA_vRIIR_I 4 f_Outcomes_put else fun _ _ _ => none
def zc_Census_learn : Nat → Bool := fun pc => Nat.beq pc 17
def D_Census_learn_17 (k : Nat → Nat → Int32 → Int32 → zM → Option zM) (lv : zV) (st : List Value) (S : zM) : Option zM := match lv, st with
  | [some (.ref a0), some (.ref a1), _, some (.int a3), some (.int a4), _], [] => k a0 a1 a3 a4 S
  | _, _ => none
theorem d_Census_learn_17 {g : zV → Nat → List Value → zM → Prop} (Hw : zWk g) {k : Nat → Nat → Int32 → Int32 → zM → Option zM} {res : zM} {lv : zV} {st : List Value} {S : zM} (h : D_Census_learn_17 k lv st S = some res) (hk : ∀ a0 a1 a3 a4 S, k a0 a1 a3 a4 S = some res → g [some (.ref a0), some (.ref a1), none, some (.int a3), some (.int a4), none] 17 [] S) : g lv 17 st S := by
  unfold D_Census_learn_17 at h
  split at h
  · exact Hw _ _ _ _ _ (by simp [zle]) (hk _ _ _ _ _  h)
  · cases h
set_option maxRecDepth 100000 in
theorem r_Census_learn_17 (n : Nat) (a0 : Nat) (a1 : Nat) (a3 : Int32) (a4 : Int32) (S : zM) : L_Census_learn_17 (n + 1) a0 a1 a3 a4 S = zrt false zP_Census_learn (zE_Census_learn zM) zc_Census_learn zkV (fun pc lv st S => bif Nat.beq pc 17 then D_Census_learn_17 (L_Census_learn_17 n) lv st S else none) 1000 17 [some (.ref a0), some (.ref a1), none, some (.int a3), some (.int a4), none] [] S := rfl
theorem g_Census_learn_17 {g : zV → Nat → List Value → zM → Prop} {res : zM} (H : zCl false zP_Census_learn (zE_Census_learn zM) zkV res g) (Hw : zWk g) (n : Nat) : ∀ (a0 : Nat) (a1 : Nat) (a3 : Int32) (a4 : Int32) (S : zM), L_Census_learn_17 n a0 a1 a3 a4 S = some res → g [some (.ref a0), some (.ref a1), none, some (.int a3), some (.int a4), none] 17 [] S := by
  induction n with
  | zero => intro a0 a1 a3 a4 S h; cases h
  | succ n ih =>
    intro a0 a1 a3 a4 S h
    refine H zc_Census_learn _ 1000 _ _ _ _ ((r_Census_learn_17 n a0 a1 a3 a4 S).symm.trans h) (fun pc lv st S hK => ?_)
    rcases zdis hK with ⟨rfl, hK⟩ | hK
    · exact d_Census_learn_17 Hw hK ih
    cases hK
set_option maxRecDepth 100000 in
theorem r_Census_learn (a0 : Nat) (a1 : Nat) (a2 : Int32) (S : zM) : f_Census_learn a0 a1 a2 S = zrt false zP_Census_learn (zE_Census_learn zM) zc_Census_learn zkV (fun pc lv st S => bif Nat.beq pc 17 then D_Census_learn_17 (L_Census_learn_17 zF) lv st S else none) 1000 0 [some (.ref a0), some (.ref a1), some (.int a2), none, none, none] [] S := rfl
theorem G_Census_learn {g : zV → Nat → List Value → zM → Prop} {res : zM} (H : zCl false zP_Census_learn (zE_Census_learn zM) zkV res g) (Hw : zWk g) (a0 : Nat) (a1 : Nat) (a2 : Int32) (S : zM) (h : f_Census_learn a0 a1 a2 S = some res) : g [some (.ref a0), some (.ref a1), some (.int a2), none, none, none] 0 [] S := by
  refine H zc_Census_learn _ 1000 _ _ _ _ ((r_Census_learn a0 a1 a2 S).symm.trans h) (fun pc lv st S hK => ?_)
  rcases zdis hK with ⟨rfl, hK⟩ | hK
  · exact d_Census_learn_17 Hw hK (g_Census_learn_17 H Hw  zF)
  cases hK
set_option maxRecDepth 100000 in
theorem ok_Census_learn : zokT 2 [219, 220, 149, 175, 225] false 5 166 6 false none cX2_learn zP_Census_learn = true := by decide +kernel
set_option maxRecDepth 100000 in
theorem s_Census_learn {l : Launch} {HB : Heap} {b L : Nat} {xs : Nat → Int32} {aK aV : Nat → Nat} {G : va_G} {tc : Nat → ClassId} (h0 : zSnd l HB b L xs aK aV G tc (zMT.getD 219 zyD) (fun α => zA_vRI_I 2 f_Census_count)) (h1 : zSnd l HB b L xs aK aV G tc (zMT.getD 220 zyD) (fun α => zA_vRI_J 2 f_Census_spelled)) (h2 : zSnd l HB b L xs aK aV G tc (zMT.getD 149 zyD) (fun α => zA_vRJ_I 8 f_Row_takeWord)) (h3 : zSnd l HB b L xs aK aV G tc (zMT.getD 175 zyD) (fun α => zA_vRRRI_I 1 f_Carrier_bring)) (h4 : zSnd l HB b L xs aK aV G tc (zMT.getD 225 zyD) (fun α => zA_vRIIR_I 4 f_Outcomes_put)) : zSnd l HB b L xs aK aV G tc (zMT.getD 226 zyD) (fun α => zA_vRRI_V 2 f_Census_learn) := by
  rw [show zMT.getD 226 zyD = (yX2_learn, cX2_learn, 6, none, 0, 3, 5, 166) from rfl]
  intro α as S k res h
  unfold zA_vRRI_V at h
  dsimp only at h
  split at h
  · rename_i a0 a1 a2
    obtain ⟨p, hp, h⟩ := zbind h
    unfold zcl at hp
    split at hp
    · rename_i hkd
      have hm := zmeth (l := l) (HB := HB) (b := b) (L := L) (xs := xs) (aK := aK) (aV := aV) (G := G) (tc := tc) (q := (yX2_learn, cX2_learn, 6, none, 0, 3, 5, 166)) (o := 2) (cs := [219, 220, 149, 175, 225]) (rz := false) (T := zP_Census_learn) (E := zE_Census_learn zM) (kr := zkV) (res := p) (v0 := none) (S0 := p) (as := [.ref a0, .ref a1, .int a2]) (S := S) zMT_fine (by decide +kernel) (fun i as S k' h => by
        unfold zE_Census_learn at h
        rcases zdisf h with ⟨rfl, h⟩ | h
        · exact h0 _ _ _ _ _ h
        rcases zdisf h with ⟨rfl, h⟩ | h
        · exact h1 _ _ _ _ _ h
        rcases zdisf h with ⟨rfl, h⟩ | h
        · exact h2 _ _ _ _ _ h
        rcases zdisf h with ⟨rfl, h⟩ | h
        · exact h3 _ _ _ _ _ h
        rcases zdisf h with ⟨rfl, h⟩ | h
        · exact h4 _ _ _ _ _ h
        cases h) ok_Census_learn rfl (fun v S' h => zkV_inv h) (Nat.le_of_ble_eq_true rfl) (fun g H Hw => Hw _ [some (.ref a0), some (.ref a1), some (.int a2), none, none, none] _ _ _ ⟨rfl, rfl, rfl, trivial⟩ (G_Census_learn H Hw a0 a1 a2 S hp))
      exact ⟨_, _, h, hm.1, rfl, fun _ => ⟨_, _, rfl⟩, (fun _ U H hK hH a r e => by cases e; exact zrecv (ci := 2) (by omega) hkd rfl U H hK hH), hm.2⟩
    · cases hp
  · cases h
def zP_Cl_censusUpTo : List (List (Nat × zE)) := [[(0, e1 (.aload_n 0) 1 0), (1, e3 (.getfield 326) 4 11 12 3), (4, e1 (.ifnonnull 14) 7 18), (7, e1 (.aload_n 0) 8 0), (8, e3 (.new 270) 11 2 12 0), (11, e0 (.dup) 12), (12, e3 (.invokespecial 330) 15 0 1 0), (15, e3 (.putfield 326) 18 11 12 2)],
  [(18, e1 (.aload_n 0) 19 0), (19, e3 (.getfield 326) 22 11 12 2), (22, e1 (.aload_n 0) 23 0), (23, e3 (.getfield 65) 26 11 10 2), (26, e1 (.iload_n 1) 27 1), (27, e3 (.invokevirtual 331) 30 1 3 0), (30, e1 (.aload_n 0) 31 0), (31, e3 (.getfield 326) 34 11 12 3)],
  [(34, e0 (.areturn) 35)]]
noncomputable def zE_Cl_censusUpTo (α : Type) : Nat → zX α := fun i => bif Nat.beq i 0 then zA_vR_V 2 f_Census_init else bif Nat.beq i 1 then zA_vRRI_V 2 f_Census_learn else fun _ _ _ => none
def zc_Cl_censusUpTo : Nat → Bool := fun pc => false
set_option maxRecDepth 100000 in
theorem r_Cl_censusUpTo (a0 : Nat) (a1 : Int32) (S : zM) : f_Cl_censusUpTo a0 a1 S = zrt false zP_Cl_censusUpTo (zE_Cl_censusUpTo (Nat × zM)) zc_Cl_censusUpTo zkR (fun pc lv st S => none) 1000 0 [some (.ref a0), some (.int a1)] [] S := rfl
theorem G_Cl_censusUpTo {g : zV → Nat → List Value → zM → Prop} {res : (Nat × zM)} (H : zCl false zP_Cl_censusUpTo (zE_Cl_censusUpTo (Nat × zM)) zkR res g) (Hw : zWk g) (a0 : Nat) (a1 : Int32) (S : zM) (h : f_Cl_censusUpTo a0 a1 S = some res) : g [some (.ref a0), some (.int a1)] 0 [] S := by
  refine H zc_Cl_censusUpTo _ 1000 _ _ _ _ ((r_Cl_censusUpTo a0 a1 S).symm.trans h) (fun pc lv st S hK => ?_)
  cases hK
set_option maxRecDepth 100000 in
theorem ok_Cl_censusUpTo : zokT 11 [218, 226] false 6 191 2 false (some (.object "CarriedLetters$Census")) cX11_censusUpTo zP_Cl_censusUpTo = true := by decide +kernel
set_option maxRecDepth 100000 in
theorem s_Cl_censusUpTo {l : Launch} {HB : Heap} {b L : Nat} {xs : Nat → Int32} {aK aV : Nat → Nat} {G : va_G} {tc : Nat → ClassId} (h0 : zSnd l HB b L xs aK aV G tc (zMT.getD 218 zyD) (fun α => zA_vR_V 2 f_Census_init)) (h1 : zSnd l HB b L xs aK aV G tc (zMT.getD 226 zyD) (fun α => zA_vRRI_V 2 f_Census_learn)) : zSnd l HB b L xs aK aV G tc (zMT.getD 227 zyD) (fun α => zA_vRI_R 11 f_Cl_censusUpTo) := by
  rw [show zMT.getD 227 zyD = (yX11_censusUpTo, cX11_censusUpTo, 2, (some (.object "CarriedLetters$Census")), 0, 2, 6, 191) from rfl]
  intro α as S k res h
  unfold zA_vRI_R at h
  dsimp only at h
  split at h
  · rename_i a0 a1
    obtain ⟨p, hp, h⟩ := zbind h
    unfold zcl at hp
    split at hp
    · rename_i hkd
      have hm := zmeth (l := l) (HB := HB) (b := b) (L := L) (xs := xs) (aK := aK) (aV := aV) (G := G) (tc := tc) (q := (yX11_censusUpTo, cX11_censusUpTo, 2, (some (.object "CarriedLetters$Census")), 0, 2, 6, 191)) (o := 11) (cs := [218, 226]) (rz := false) (T := zP_Cl_censusUpTo) (E := zE_Cl_censusUpTo (Nat × zM)) (kr := zkR) (res := p) (v0 := some (.ref p.1)) (S0 := p.2) (as := [.ref a0, .int a1]) (S := S) zMT_fine (by decide +kernel) (fun i as S k' h => by
        unfold zE_Cl_censusUpTo at h
        rcases zdisf h with ⟨rfl, h⟩ | h
        · exact h0 _ _ _ _ _ h
        rcases zdisf h with ⟨rfl, h⟩ | h
        · exact h1 _ _ _ _ _ h
        cases h) ok_Cl_censusUpTo rfl (fun v S' h => zkR_inv h) (Nat.le_of_ble_eq_true rfl) (fun g H Hw => Hw _ [some (.ref a0), some (.int a1)] _ _ _ ⟨rfl, rfl, trivial⟩ (G_Cl_censusUpTo H Hw a0 a1 S hp))
      exact ⟨_, _, h, hm.1, rfl, fun _ => ⟨_, _, rfl⟩, (fun _ U H hK hH a r e => by cases e; exact zrecv (ci := 11) (by omega) hkd rfl U H hK hH), hm.2⟩
    · cases hp
  · cases h
def zP_Census_firstDoubled : List (List (Nat × zE)) := [[(0, e1 (.aload_n 0) 1 0), (1, e1 (.iload_n 1) 2 1), (2, e3 (.invokevirtual 74) 5 0 2 0), (5, e1 (.istore_n 2) 6 2), (6, ei (.iconst 0) 7 0 (0)), (7, e1 (.istore_n 3) 8 3), (8, e1 (.iload_n 3) 9 3), (9, e1 (.iload_n 2) 10 2), (10, e1 (.if_icmp .ge 21) 13 31), (13, e1 (.aload_n 0) 14 0), (14, e3 (.getfield 44) 17 2 6 2)],
  [(17, e1 (.iload_n 3) 18 3), (18, e0 (.iaload) 19), (19, ei (.iconst (-1)) 20 0 (-1)), (20, e1 (.if_icmp .eq 5) 23 25), (23, e1 (.iload_n 3) 24 3), (24, e0 (.ireturn) 25), (25, ei (.iinc 3 1) 28 3 (1)), (28, e1 (.goto (-20)) 31 8), (31, ei (.iconst (-1)) 32 0 (-1))],
  [(32, e0 (.ireturn) 33)]]
noncomputable def zE_Census_firstDoubled (α : Type) : Nat → zX α := fun i => bif Nat.beq i 0 then zA_vRI_I 2 f_Census_count else fun _ _ _ => none
def zc_Census_firstDoubled : Nat → Bool := fun pc => Nat.beq pc 8
def D_Census_firstDoubled_8 (k : Nat → Int32 → Int32 → zM → Option (Int32 × zM)) (lv : zV) (st : List Value) (S : zM) : Option (Int32 × zM) := match lv, st with
  | [some (.ref a0), _, some (.int a2), some (.int a3)], [] => k a0 a2 a3 S
  | _, _ => none
theorem d_Census_firstDoubled_8 {g : zV → Nat → List Value → zM → Prop} (Hw : zWk g) {k : Nat → Int32 → Int32 → zM → Option (Int32 × zM)} {res : (Int32 × zM)} {lv : zV} {st : List Value} {S : zM} (h : D_Census_firstDoubled_8 k lv st S = some res) (hk : ∀ a0 a2 a3 S, k a0 a2 a3 S = some res → g [some (.ref a0), none, some (.int a2), some (.int a3)] 8 [] S) : g lv 8 st S := by
  unfold D_Census_firstDoubled_8 at h
  split at h
  · exact Hw _ _ _ _ _ (by simp [zle]) (hk _ _ _ _  h)
  · cases h
set_option maxRecDepth 100000 in
theorem r_Census_firstDoubled_8 (n : Nat) (a0 : Nat) (a2 : Int32) (a3 : Int32) (S : zM) : L_Census_firstDoubled_8 (n + 1) a0 a2 a3 S = zrt false zP_Census_firstDoubled (zE_Census_firstDoubled (Int32 × zM)) zc_Census_firstDoubled zkI (fun pc lv st S => bif Nat.beq pc 8 then D_Census_firstDoubled_8 (L_Census_firstDoubled_8 n) lv st S else none) 1000 8 [some (.ref a0), none, some (.int a2), some (.int a3)] [] S := rfl
theorem g_Census_firstDoubled_8 {g : zV → Nat → List Value → zM → Prop} {res : (Int32 × zM)} (H : zCl false zP_Census_firstDoubled (zE_Census_firstDoubled (Int32 × zM)) zkI res g) (Hw : zWk g) (n : Nat) : ∀ (a0 : Nat) (a2 : Int32) (a3 : Int32) (S : zM), L_Census_firstDoubled_8 n a0 a2 a3 S = some res → g [some (.ref a0), none, some (.int a2), some (.int a3)] 8 [] S := by
  induction n with
  | zero => intro a0 a2 a3 S h; cases h
  | succ n ih =>
    intro a0 a2 a3 S h
    refine H zc_Census_firstDoubled _ 1000 _ _ _ _ ((r_Census_firstDoubled_8 n a0 a2 a3 S).symm.trans h) (fun pc lv st S hK => ?_)
    rcases zdis hK with ⟨rfl, hK⟩ | hK
    · exact d_Census_firstDoubled_8 Hw hK ih
    cases hK
set_option maxRecDepth 100000 in
theorem r_Census_firstDoubled (a0 : Nat) (a1 : Int32) (S : zM) : f_Census_firstDoubled a0 a1 S = zrt false zP_Census_firstDoubled (zE_Census_firstDoubled (Int32 × zM)) zc_Census_firstDoubled zkI (fun pc lv st S => bif Nat.beq pc 8 then D_Census_firstDoubled_8 (L_Census_firstDoubled_8 zF) lv st S else none) 1000 0 [some (.ref a0), some (.int a1), none, none] [] S := rfl
theorem G_Census_firstDoubled {g : zV → Nat → List Value → zM → Prop} {res : (Int32 × zM)} (H : zCl false zP_Census_firstDoubled (zE_Census_firstDoubled (Int32 × zM)) zkI res g) (Hw : zWk g) (a0 : Nat) (a1 : Int32) (S : zM) (h : f_Census_firstDoubled a0 a1 S = some res) : g [some (.ref a0), some (.int a1), none, none] 0 [] S := by
  refine H zc_Census_firstDoubled _ 1000 _ _ _ _ ((r_Census_firstDoubled a0 a1 S).symm.trans h) (fun pc lv st S hK => ?_)
  rcases zdis hK with ⟨rfl, hK⟩ | hK
  · exact d_Census_firstDoubled_8 Hw hK (g_Census_firstDoubled_8 H Hw  zF)
  cases hK
set_option maxRecDepth 100000 in
theorem ok_Census_firstDoubled : zokT 2 [219] false 2 45 4 false (some .int) cX2_firstDoubled zP_Census_firstDoubled = true := by decide +kernel
set_option maxRecDepth 100000 in
theorem s_Census_firstDoubled {l : Launch} {HB : Heap} {b L : Nat} {xs : Nat → Int32} {aK aV : Nat → Nat} {G : va_G} {tc : Nat → ClassId} (h0 : zSnd l HB b L xs aK aV G tc (zMT.getD 219 zyD) (fun α => zA_vRI_I 2 f_Census_count)) : zSnd l HB b L xs aK aV G tc (zMT.getD 228 zyD) (fun α => zA_vRI_I 2 f_Census_firstDoubled) := by
  rw [show zMT.getD 228 zyD = (yX2_firstDoubled, cX2_firstDoubled, 4, (some .int), 0, 2, 2, 45) from rfl]
  intro α as S k res h
  unfold zA_vRI_I at h
  dsimp only at h
  split at h
  · rename_i a0 a1
    obtain ⟨p, hp, h⟩ := zbind h
    unfold zcl at hp
    split at hp
    · rename_i hkd
      have hm := zmeth (l := l) (HB := HB) (b := b) (L := L) (xs := xs) (aK := aK) (aV := aV) (G := G) (tc := tc) (q := (yX2_firstDoubled, cX2_firstDoubled, 4, (some .int), 0, 2, 2, 45)) (o := 2) (cs := [219]) (rz := false) (T := zP_Census_firstDoubled) (E := zE_Census_firstDoubled (Int32 × zM)) (kr := zkI) (res := p) (v0 := some (.int p.1)) (S0 := p.2) (as := [.ref a0, .int a1]) (S := S) zMT_fine (by decide +kernel) (fun i as S k' h => by
        unfold zE_Census_firstDoubled at h
        rcases zdisf h with ⟨rfl, h⟩ | h
        · exact h0 _ _ _ _ _ h
        cases h) ok_Census_firstDoubled rfl (fun v S' h => zkI_inv h) (Nat.le_of_ble_eq_true rfl) (fun g H Hw => Hw _ [some (.ref a0), some (.int a1), none, none] _ _ _ ⟨rfl, rfl, trivial⟩ (G_Census_firstDoubled H Hw a0 a1 S hp))
      exact ⟨_, _, h, hm.1, rfl, fun _ => ⟨_, _, rfl⟩, (fun _ U H hK hH a r e => by cases e; exact zrecv (ci := 2) (by omega) hkd rfl U H hK hH), hm.2⟩
    · cases hp
  · cases h
def zP_Cl_reversible : List (List (Nat × zE)) := [[(0, e1 (.aload_n 0) 1 0), (1, e1 (.iload_n 1) 2 1), (2, ei (.iconst 1) 3 0 (1)), (3, e3 (.invokevirtual 258) 6 0 3 0), (6, e1 (.istore_n 2) 7 2), (7, e1 (.iload_n 2) 8 2), (8, e1 (.ifCond .eq 11) 11 19), (11, e1 (.aload_n 0) 12 0), (12, e1 (.iload_n 2) 13 2), (13, e3 (.invokevirtual 79) 16 1 2 0)],
  [(16, e1 (.goto 25) 19 41), (19, e1 (.aload_n 0) 20 0), (20, e1 (.aload_n 0) 21 0), (21, e1 (.iload_n 1) 22 1), (22, e3 (.invokevirtual 265) 25 2 2 0), (25, e1 (.iload_n 1) 26 1), (26, e3 (.invokevirtual 269) 29 3 2 0), (29, ei (.iconst (-1)) 30 0 (-1)), (30, e1 (.if_icmp .ne 7) 33 37)],
  [(33, ei (.iconst 1) 34 0 (1)), (34, e1 (.goto 4) 37 38), (37, ei (.iconst 0) 38 0 (0)), (38, e3 (.invokevirtual 109) 41 4 2 0), (41, e0 (.ireturn) 42)]]
noncomputable def zE_Cl_reversible (α : Type) : Nat → zX α := fun i => bif Nat.beq i 0 then zA_vRII_I 11 f_Cl_troubleUpTo else bif Nat.beq i 1 then zA_vRI_I 11 f_Cl_refuse else bif Nat.beq i 2 then zA_vRI_R 11 f_Cl_censusUpTo else bif Nat.beq i 3 then zA_vRI_I 2 f_Census_firstDoubled else bif Nat.beq i 4 then zA_vRI_I 11 f_Cl_answer else fun _ _ _ => none
def zc_Cl_reversible : Nat → Bool := fun pc => false
set_option maxRecDepth 100000 in
theorem r_Cl_reversible (a0 : Nat) (a1 : Int32) (S : zM) : f_Cl_reversible a0 a1 S = zrt false zP_Cl_reversible (zE_Cl_reversible (Int32 × zM)) zc_Cl_reversible zkI (fun pc lv st S => none) 1000 0 [some (.ref a0), some (.int a1), none] [] S := rfl
theorem G_Cl_reversible {g : zV → Nat → List Value → zM → Prop} {res : (Int32 × zM)} (H : zCl false zP_Cl_reversible (zE_Cl_reversible (Int32 × zM)) zkI res g) (Hw : zWk g) (a0 : Nat) (a1 : Int32) (S : zM) (h : f_Cl_reversible a0 a1 S = some res) : g [some (.ref a0), some (.int a1), none] 0 [] S := by
  refine H zc_Cl_reversible _ 1000 _ _ _ _ ((r_Cl_reversible a0 a1 S).symm.trans h) (fun pc lv st S hK => ?_)
  cases hK
set_option maxRecDepth 100000 in
theorem ok_Cl_reversible : zokT 11 [210, 16, 227, 228, 59] false 7 212 3 false (some .int) cX11_reversible zP_Cl_reversible = true := by decide +kernel
set_option maxRecDepth 100000 in
theorem s_Cl_reversible {l : Launch} {HB : Heap} {b L : Nat} {xs : Nat → Int32} {aK aV : Nat → Nat} {G : va_G} {tc : Nat → ClassId} (h0 : zSnd l HB b L xs aK aV G tc (zMT.getD 210 zyD) (fun α => zA_vRII_I 11 f_Cl_troubleUpTo)) (h1 : zSnd l HB b L xs aK aV G tc (zMT.getD 16 zyD) (fun α => zA_vRI_I 11 f_Cl_refuse)) (h2 : zSnd l HB b L xs aK aV G tc (zMT.getD 227 zyD) (fun α => zA_vRI_R 11 f_Cl_censusUpTo)) (h3 : zSnd l HB b L xs aK aV G tc (zMT.getD 228 zyD) (fun α => zA_vRI_I 2 f_Census_firstDoubled)) (h4 : zSnd l HB b L xs aK aV G tc (zMT.getD 59 zyD) (fun α => zA_vRI_I 11 f_Cl_answer)) : zSnd l HB b L xs aK aV G tc (zMT.getD 229 zyD) (fun α => zA_vRI_I 11 f_Cl_reversible) := by
  rw [show zMT.getD 229 zyD = (yX11_reversible, cX11_reversible, 3, (some .int), 0, 2, 7, 212) from rfl]
  intro α as S k res h
  unfold zA_vRI_I at h
  dsimp only at h
  split at h
  · rename_i a0 a1
    obtain ⟨p, hp, h⟩ := zbind h
    unfold zcl at hp
    split at hp
    · rename_i hkd
      have hm := zmeth (l := l) (HB := HB) (b := b) (L := L) (xs := xs) (aK := aK) (aV := aV) (G := G) (tc := tc) (q := (yX11_reversible, cX11_reversible, 3, (some .int), 0, 2, 7, 212)) (o := 11) (cs := [210, 16, 227, 228, 59]) (rz := false) (T := zP_Cl_reversible) (E := zE_Cl_reversible (Int32 × zM)) (kr := zkI) (res := p) (v0 := some (.int p.1)) (S0 := p.2) (as := [.ref a0, .int a1]) (S := S) zMT_fine (by decide +kernel) (fun i as S k' h => by
        unfold zE_Cl_reversible at h
        rcases zdisf h with ⟨rfl, h⟩ | h
        · exact h0 _ _ _ _ _ h
        rcases zdisf h with ⟨rfl, h⟩ | h
        · exact h1 _ _ _ _ _ h
        rcases zdisf h with ⟨rfl, h⟩ | h
        · exact h2 _ _ _ _ _ h
        rcases zdisf h with ⟨rfl, h⟩ | h
        · exact h3 _ _ _ _ _ h
        rcases zdisf h with ⟨rfl, h⟩ | h
        · exact h4 _ _ _ _ _ h
        cases h) ok_Cl_reversible rfl (fun v S' h => zkI_inv h) (Nat.le_of_ble_eq_true rfl) (fun g H Hw => Hw _ [some (.ref a0), some (.int a1), none] _ _ _ ⟨rfl, rfl, trivial⟩ (G_Cl_reversible H Hw a0 a1 S hp))
      exact ⟨_, _, h, hm.1, rfl, fun _ => ⟨_, _, rfl⟩, (fun _ U H hK hH a r e => by cases e; exact zrecv (ci := 11) (by omega) hkd rfl U H hK hH), hm.2⟩
    · cases hp
  · cases h
def zP_Mo_lettersOf : List (List (Nat × zE)) := [[(0, ei (.iconst 1) 1 0 (1)), (1, e1 (.istore_n 2) 2 2), (2, e1 (.iload_n 1) 3 1), (3, e1 (.istore_n 3) 4 3), (4, e1 (.aload_n 0) 5 0), (5, e3 (.getfield 284) 8 12 6 0), (8, e1 (.istore 4) 10 4), (10, e1 (.iload_n 3) 11 3), (11, e1 (.iload 4) 13 4), (13, e1 (.if_icmp .lt 23) 16 36)],
  [(16, e1 (.iload_n 3) 17 3), (17, e1 (.iload 4) 19 4), (19, e0 (.isub) 20), (20, e1 (.istore_n 3) 21 3), (21, e1 (.iload 4) 23 4), (23, e1 (.aload_n 0) 24 0), (24, e3 (.getfield 284) 27 12 6 0), (27, e0 (.imul) 28), (28, e1 (.istore 4) 30 4), (30, ei (.iinc 2 1) 33 2 (1))],
  [(33, e1 (.goto (-23)) 36 10), (36, e1 (.iload_n 2) 37 2), (37, e0 (.ireturn) 38)]]
noncomputable def zE_Mo_lettersOf (α : Type) : Nat → zX α := fun _ => fun _ _ _ => none
def zc_Mo_lettersOf : Nat → Bool := fun pc => Nat.beq pc 10
def D_Mo_lettersOf_10 (k : Nat → Int32 → Int32 → Int32 → zM → Option (Int32 × zM)) (lv : zV) (st : List Value) (S : zM) : Option (Int32 × zM) := match lv, st with
  | [some (.ref a0), _, some (.int a2), some (.int a3), some (.int a4)], [] => k a0 a2 a3 a4 S
  | _, _ => none
theorem d_Mo_lettersOf_10 {g : zV → Nat → List Value → zM → Prop} (Hw : zWk g) {k : Nat → Int32 → Int32 → Int32 → zM → Option (Int32 × zM)} {res : (Int32 × zM)} {lv : zV} {st : List Value} {S : zM} (h : D_Mo_lettersOf_10 k lv st S = some res) (hk : ∀ a0 a2 a3 a4 S, k a0 a2 a3 a4 S = some res → g [some (.ref a0), none, some (.int a2), some (.int a3), some (.int a4)] 10 [] S) : g lv 10 st S := by
  unfold D_Mo_lettersOf_10 at h
  split at h
  · exact Hw _ _ _ _ _ (by simp [zle]) (hk _ _ _ _ _  h)
  · cases h
set_option maxRecDepth 100000 in
theorem r_Mo_lettersOf_10 (n : Nat) (a0 : Nat) (a2 : Int32) (a3 : Int32) (a4 : Int32) (S : zM) : L_Mo_lettersOf_10 (n + 1) a0 a2 a3 a4 S = zrt false zP_Mo_lettersOf (zE_Mo_lettersOf (Int32 × zM)) zc_Mo_lettersOf zkI (fun pc lv st S => bif Nat.beq pc 10 then D_Mo_lettersOf_10 (L_Mo_lettersOf_10 n) lv st S else none) 1000 10 [some (.ref a0), none, some (.int a2), some (.int a3), some (.int a4)] [] S := rfl
theorem g_Mo_lettersOf_10 {g : zV → Nat → List Value → zM → Prop} {res : (Int32 × zM)} (H : zCl false zP_Mo_lettersOf (zE_Mo_lettersOf (Int32 × zM)) zkI res g) (Hw : zWk g) (n : Nat) : ∀ (a0 : Nat) (a2 : Int32) (a3 : Int32) (a4 : Int32) (S : zM), L_Mo_lettersOf_10 n a0 a2 a3 a4 S = some res → g [some (.ref a0), none, some (.int a2), some (.int a3), some (.int a4)] 10 [] S := by
  induction n with
  | zero => intro a0 a2 a3 a4 S h; cases h
  | succ n ih =>
    intro a0 a2 a3 a4 S h
    refine H zc_Mo_lettersOf _ 1000 _ _ _ _ ((r_Mo_lettersOf_10 n a0 a2 a3 a4 S).symm.trans h) (fun pc lv st S hK => ?_)
    rcases zdis hK with ⟨rfl, hK⟩ | hK
    · exact d_Mo_lettersOf_10 Hw hK ih
    cases hK
set_option maxRecDepth 100000 in
theorem r_Mo_lettersOf (a0 : Nat) (a1 : Int32) (S : zM) : f_Mo_lettersOf a0 a1 S = zrt false zP_Mo_lettersOf (zE_Mo_lettersOf (Int32 × zM)) zc_Mo_lettersOf zkI (fun pc lv st S => bif Nat.beq pc 10 then D_Mo_lettersOf_10 (L_Mo_lettersOf_10 zF) lv st S else none) 1000 0 [some (.ref a0), some (.int a1), none, none, none] [] S := rfl
theorem G_Mo_lettersOf {g : zV → Nat → List Value → zM → Prop} {res : (Int32 × zM)} (H : zCl false zP_Mo_lettersOf (zE_Mo_lettersOf (Int32 × zM)) zkI res g) (Hw : zWk g) (a0 : Nat) (a1 : Int32) (S : zM) (h : f_Mo_lettersOf a0 a1 S = some res) : g [some (.ref a0), some (.int a1), none, none, none] 0 [] S := by
  refine H zc_Mo_lettersOf _ 1000 _ _ _ _ ((r_Mo_lettersOf a0 a1 S).symm.trans h) (fun pc lv st S hK => ?_)
  rcases zdis hK with ⟨rfl, hK⟩ | hK
  · exact d_Mo_lettersOf_10 Hw hK (g_Mo_lettersOf_10 H Hw  zF)
  cases hK
set_option maxRecDepth 100000 in
theorem ok_Mo_lettersOf : zokT 12 [] false 0 0 5 false (some .int) cX12_lettersOf zP_Mo_lettersOf = true := by decide +kernel
set_option maxRecDepth 100000 in
theorem s_Mo_lettersOf {l : Launch} {HB : Heap} {b L : Nat} {xs : Nat → Int32} {aK aV : Nat → Nat} {G : va_G} {tc : Nat → ClassId} : zSnd l HB b L xs aK aV G tc (zMT.getD 230 zyD) (fun α => zA_vRI_I 12 f_Mo_lettersOf) := by
  rw [show zMT.getD 230 zyD = (yX12_lettersOf, cX12_lettersOf, 5, (some .int), 0, 2, 0, 0) from rfl]
  intro α as S k res h
  unfold zA_vRI_I at h
  dsimp only at h
  split at h
  · rename_i a0 a1
    obtain ⟨p, hp, h⟩ := zbind h
    unfold zcl at hp
    split at hp
    · rename_i hkd
      have hm := zmeth (l := l) (HB := HB) (b := b) (L := L) (xs := xs) (aK := aK) (aV := aV) (G := G) (tc := tc) (q := (yX12_lettersOf, cX12_lettersOf, 5, (some .int), 0, 2, 0, 0)) (o := 12) (cs := []) (rz := false) (T := zP_Mo_lettersOf) (E := zE_Mo_lettersOf (Int32 × zM)) (kr := zkI) (res := p) (v0 := some (.int p.1)) (S0 := p.2) (as := [.ref a0, .int a1]) (S := S) zMT_fine (by decide +kernel) (fun i as S k' h => by
        unfold zE_Mo_lettersOf at h
        cases h) ok_Mo_lettersOf rfl (fun v S' h => zkI_inv h) (Nat.le_of_ble_eq_true rfl) (fun g H Hw => Hw _ [some (.ref a0), some (.int a1), none, none, none] _ _ _ ⟨rfl, rfl, trivial⟩ (G_Mo_lettersOf H Hw a0 a1 S hp))
      exact ⟨_, _, h, hm.1, rfl, fun _ => ⟨_, _, rfl⟩, (fun _ U H hK hH a r e => by cases e; exact zrecv (ci := 12) (by omega) hkd rfl U H hK hH), hm.2⟩
    · cases hp
  · cases h
def zP_Mo_laysIndex : List (List (Nat × zE)) := [[(0, e1 (.iload_n 1) 1 1), (1, e1 (.istore_n 2) 2 2), (2, e1 (.aload_n 0) 3 0), (3, e3 (.getfield 284) 6 12 6 0), (6, e1 (.istore_n 3) 7 3), (7, e1 (.aload_n 0) 8 0), (8, e1 (.aload_n 0) 9 0), (9, e1 (.iload_n 1) 10 1), (10, e3 (.invokevirtual 423) 13 0 2 0), (13, e3 (.putfield 358) 16 12 41 0)],
  [(16, ei (.iconst 1) 17 0 (1)), (17, e1 (.istore 4) 19 4), (19, e1 (.iload 4) 21 4), (21, e1 (.aload_n 0) 22 0), (22, e3 (.getfield 358) 25 12 41 0), (25, e1 (.if_icmp .ge 20) 28 45), (28, e1 (.iload_n 2) 29 2), (29, e1 (.iload_n 3) 30 3), (30, e0 (.isub) 31), (31, e1 (.istore_n 2) 32 2)],
  [(32, e1 (.iload_n 3) 33 3), (33, e1 (.aload_n 0) 34 0), (34, e3 (.getfield 284) 37 12 6 0), (37, e0 (.imul) 38), (38, e1 (.istore_n 3) 39 3), (39, ei (.iinc 4 1) 42 4 (1)), (42, e1 (.goto (-23)) 45 19), (45, e1 (.aload_n 0) 46 0), (46, e3 (.getfield 358) 49 12 41 0)],
  [(49, ei (.iconst 1) 50 0 (1)), (50, e0 (.isub) 51), (51, e1 (.istore 4) 53 4), (53, e1 (.iload 4) 55 4), (55, e1 (.ifCond .lt 29) 58 84), (58, e1 (.aload_n 0) 59 0), (59, e3 (.getfield 70) 62 12 40 2), (62, e1 (.iload 4) 64 4)],
  [(64, e1 (.iload_n 2) 65 2), (65, e1 (.aload_n 0) 66 0), (66, e3 (.getfield 284) 69 12 6 0), (69, e0 (.irem) 70), (70, e0 (.iastore) 71), (71, e1 (.iload_n 2) 72 2), (72, e1 (.aload_n 0) 73 0), (73, e3 (.getfield 284) 76 12 6 0), (76, e0 (.idiv) 77), (77, e1 (.istore_n 2) 78 2), (78, ei (.iinc 4 (-1)) 81 4 (-1))],
  [(81, e1 (.goto (-28)) 84 53), (84, e0 (.return_) 85)]]
noncomputable def zE_Mo_laysIndex (α : Type) : Nat → zX α := fun i => bif Nat.beq i 0 then zA_vRI_I 12 f_Mo_lettersOf else fun _ _ _ => none
def zc_Mo_laysIndex : Nat → Bool := fun pc => Nat.beq pc 19 || Nat.beq pc 45 || Nat.beq pc 53
def D_Mo_laysIndex_19 (k : Nat → Int32 → Int32 → Int32 → zM → Option zM) (lv : zV) (st : List Value) (S : zM) : Option zM := match lv, st with
  | [some (.ref a0), _, some (.int a2), some (.int a3), some (.int a4)], [] => k a0 a2 a3 a4 S
  | _, _ => none
theorem d_Mo_laysIndex_19 {g : zV → Nat → List Value → zM → Prop} (Hw : zWk g) {k : Nat → Int32 → Int32 → Int32 → zM → Option zM} {res : zM} {lv : zV} {st : List Value} {S : zM} (h : D_Mo_laysIndex_19 k lv st S = some res) (hk : ∀ a0 a2 a3 a4 S, k a0 a2 a3 a4 S = some res → g [some (.ref a0), none, some (.int a2), some (.int a3), some (.int a4)] 19 [] S) : g lv 19 st S := by
  unfold D_Mo_laysIndex_19 at h
  split at h
  · exact Hw _ _ _ _ _ (by simp [zle]) (hk _ _ _ _ _  h)
  · cases h
def D_Mo_laysIndex_45 (k : Nat → Int32 → zM → Option zM) (lv : zV) (st : List Value) (S : zM) : Option zM := match lv, st with
  | [some (.ref a0), _, some (.int a2), _, _], [] => k a0 a2 S
  | _, _ => none
theorem d_Mo_laysIndex_45 {g : zV → Nat → List Value → zM → Prop} (Hw : zWk g) {k : Nat → Int32 → zM → Option zM} {res : zM} {lv : zV} {st : List Value} {S : zM} (h : D_Mo_laysIndex_45 k lv st S = some res) (hk : ∀ a0 a2 S, k a0 a2 S = some res → g [some (.ref a0), none, some (.int a2), none, none] 45 [] S) : g lv 45 st S := by
  unfold D_Mo_laysIndex_45 at h
  split at h
  · exact Hw _ _ _ _ _ (by simp [zle]) (hk _ _ _  h)
  · cases h
def D_Mo_laysIndex_53 (k : Nat → Int32 → Int32 → zM → Option zM) (lv : zV) (st : List Value) (S : zM) : Option zM := match lv, st with
  | [some (.ref a0), _, some (.int a2), _, some (.int a4)], [] => k a0 a2 a4 S
  | _, _ => none
theorem d_Mo_laysIndex_53 {g : zV → Nat → List Value → zM → Prop} (Hw : zWk g) {k : Nat → Int32 → Int32 → zM → Option zM} {res : zM} {lv : zV} {st : List Value} {S : zM} (h : D_Mo_laysIndex_53 k lv st S = some res) (hk : ∀ a0 a2 a4 S, k a0 a2 a4 S = some res → g [some (.ref a0), none, some (.int a2), none, some (.int a4)] 53 [] S) : g lv 53 st S := by
  unfold D_Mo_laysIndex_53 at h
  split at h
  · exact Hw _ _ _ _ _ (by simp [zle]) (hk _ _ _ _  h)
  · cases h
set_option maxRecDepth 100000 in
theorem r_Mo_laysIndex_53 (n : Nat) (a0 : Nat) (a2 : Int32) (a4 : Int32) (S : zM) : L_Mo_laysIndex_53 (n + 1) a0 a2 a4 S = zrt false zP_Mo_laysIndex (zE_Mo_laysIndex zM) zc_Mo_laysIndex zkV (fun pc lv st S => bif Nat.beq pc 53 then D_Mo_laysIndex_53 (L_Mo_laysIndex_53 n) lv st S else none) 1000 53 [some (.ref a0), none, some (.int a2), none, some (.int a4)] [] S := rfl
theorem g_Mo_laysIndex_53 {g : zV → Nat → List Value → zM → Prop} {res : zM} (H : zCl false zP_Mo_laysIndex (zE_Mo_laysIndex zM) zkV res g) (Hw : zWk g) (n : Nat) : ∀ (a0 : Nat) (a2 : Int32) (a4 : Int32) (S : zM), L_Mo_laysIndex_53 n a0 a2 a4 S = some res → g [some (.ref a0), none, some (.int a2), none, some (.int a4)] 53 [] S := by
  induction n with
  | zero => intro a0 a2 a4 S h; cases h
  | succ n ih =>
    intro a0 a2 a4 S h
    refine H zc_Mo_laysIndex _ 1000 _ _ _ _ ((r_Mo_laysIndex_53 n a0 a2 a4 S).symm.trans h) (fun pc lv st S hK => ?_)
    rcases zdis hK with ⟨rfl, hK⟩ | hK
    · exact d_Mo_laysIndex_53 Hw hK ih
    cases hK
set_option maxRecDepth 100000 in
theorem r_Mo_laysIndex_45 (k53 : Nat → Int32 → Int32 → zM → Option zM) (a0 : Nat) (a2 : Int32) (S : zM) : F_Mo_laysIndex_45 k53 a0 a2 S = zrt false zP_Mo_laysIndex (zE_Mo_laysIndex zM) zc_Mo_laysIndex zkV (fun pc lv st S => bif Nat.beq pc 53 then D_Mo_laysIndex_53 k53 lv st S else none) 1000 45 [some (.ref a0), none, some (.int a2), none, none] [] S := rfl
theorem g_Mo_laysIndex_45 {g : zV → Nat → List Value → zM → Prop} {res : zM} (H : zCl false zP_Mo_laysIndex (zE_Mo_laysIndex zM) zkV res g) (Hw : zWk g) {k53 : Nat → Int32 → Int32 → zM → Option zM} (hk53 : ∀ a0 a2 a4 S, k53 a0 a2 a4 S = some res → g [some (.ref a0), none, some (.int a2), none, some (.int a4)] 53 [] S) (a0 : Nat) (a2 : Int32) (S : zM) (h : F_Mo_laysIndex_45 k53 a0 a2 S = some res) : g [some (.ref a0), none, some (.int a2), none, none] 45 [] S := by
  refine H zc_Mo_laysIndex _ 1000 _ _ _ _ ((r_Mo_laysIndex_45 k53 a0 a2 S).symm.trans h) (fun pc lv st S hK => ?_)
  rcases zdis hK with ⟨rfl, hK⟩ | hK
  · exact d_Mo_laysIndex_53 Hw hK hk53
  cases hK
set_option maxRecDepth 100000 in
theorem r_Mo_laysIndex_19 (k45 : Nat → Int32 → zM → Option zM) (n : Nat) (a0 : Nat) (a2 : Int32) (a3 : Int32) (a4 : Int32) (S : zM) : L_Mo_laysIndex_19 k45 (n + 1) a0 a2 a3 a4 S = zrt false zP_Mo_laysIndex (zE_Mo_laysIndex zM) zc_Mo_laysIndex zkV (fun pc lv st S => bif Nat.beq pc 19 then D_Mo_laysIndex_19 (L_Mo_laysIndex_19 k45 n) lv st S else bif Nat.beq pc 45 then D_Mo_laysIndex_45 k45 lv st S else none) 1000 19 [some (.ref a0), none, some (.int a2), some (.int a3), some (.int a4)] [] S := rfl
theorem g_Mo_laysIndex_19 {g : zV → Nat → List Value → zM → Prop} {res : zM} (H : zCl false zP_Mo_laysIndex (zE_Mo_laysIndex zM) zkV res g) (Hw : zWk g) {k45 : Nat → Int32 → zM → Option zM} (hk45 : ∀ a0 a2 S, k45 a0 a2 S = some res → g [some (.ref a0), none, some (.int a2), none, none] 45 [] S) (n : Nat) : ∀ (a0 : Nat) (a2 : Int32) (a3 : Int32) (a4 : Int32) (S : zM), L_Mo_laysIndex_19 k45 n a0 a2 a3 a4 S = some res → g [some (.ref a0), none, some (.int a2), some (.int a3), some (.int a4)] 19 [] S := by
  induction n with
  | zero => intro a0 a2 a3 a4 S h; cases h
  | succ n ih =>
    intro a0 a2 a3 a4 S h
    refine H zc_Mo_laysIndex _ 1000 _ _ _ _ ((r_Mo_laysIndex_19 k45 n a0 a2 a3 a4 S).symm.trans h) (fun pc lv st S hK => ?_)
    rcases zdis hK with ⟨rfl, hK⟩ | hK
    · exact d_Mo_laysIndex_19 Hw hK ih
    rcases zdis hK with ⟨rfl, hK⟩ | hK
    · exact d_Mo_laysIndex_45 Hw hK hk45
    cases hK
set_option maxRecDepth 100000 in
theorem r_Mo_laysIndex (a0 : Nat) (a1 : Int32) (S : zM) : f_Mo_laysIndex a0 a1 S = zrt false zP_Mo_laysIndex (zE_Mo_laysIndex zM) zc_Mo_laysIndex zkV (fun pc lv st S => bif Nat.beq pc 19 then D_Mo_laysIndex_19 (L_Mo_laysIndex_19 (F_Mo_laysIndex_45 (L_Mo_laysIndex_53 zF)) zF) lv st S else none) 1000 0 [some (.ref a0), some (.int a1), none, none, none] [] S := rfl
theorem G_Mo_laysIndex {g : zV → Nat → List Value → zM → Prop} {res : zM} (H : zCl false zP_Mo_laysIndex (zE_Mo_laysIndex zM) zkV res g) (Hw : zWk g) (a0 : Nat) (a1 : Int32) (S : zM) (h : f_Mo_laysIndex a0 a1 S = some res) : g [some (.ref a0), some (.int a1), none, none, none] 0 [] S := by
  refine H zc_Mo_laysIndex _ 1000 _ _ _ _ ((r_Mo_laysIndex a0 a1 S).symm.trans h) (fun pc lv st S hK => ?_)
  rcases zdis hK with ⟨rfl, hK⟩ | hK
  · exact d_Mo_laysIndex_19 Hw hK (g_Mo_laysIndex_19 H Hw (g_Mo_laysIndex_45 H Hw (g_Mo_laysIndex_53 H Hw  zF)) zF)
  cases hK
set_option maxRecDepth 100000 in
theorem ok_Mo_laysIndex : zokT 12 [230] false 1 24 5 false none cX12_laysIndex zP_Mo_laysIndex = true := by decide +kernel
set_option maxRecDepth 100000 in
theorem s_Mo_laysIndex {l : Launch} {HB : Heap} {b L : Nat} {xs : Nat → Int32} {aK aV : Nat → Nat} {G : va_G} {tc : Nat → ClassId} (h0 : zSnd l HB b L xs aK aV G tc (zMT.getD 230 zyD) (fun α => zA_vRI_I 12 f_Mo_lettersOf)) : zSnd l HB b L xs aK aV G tc (zMT.getD 231 zyD) (fun α => zA_vRI_V 12 f_Mo_laysIndex) := by
  rw [show zMT.getD 231 zyD = (yX12_laysIndex, cX12_laysIndex, 5, none, 0, 2, 1, 24) from rfl]
  intro α as S k res h
  unfold zA_vRI_V at h
  dsimp only at h
  split at h
  · rename_i a0 a1
    obtain ⟨p, hp, h⟩ := zbind h
    unfold zcl at hp
    split at hp
    · rename_i hkd
      have hm := zmeth (l := l) (HB := HB) (b := b) (L := L) (xs := xs) (aK := aK) (aV := aV) (G := G) (tc := tc) (q := (yX12_laysIndex, cX12_laysIndex, 5, none, 0, 2, 1, 24)) (o := 12) (cs := [230]) (rz := false) (T := zP_Mo_laysIndex) (E := zE_Mo_laysIndex zM) (kr := zkV) (res := p) (v0 := none) (S0 := p) (as := [.ref a0, .int a1]) (S := S) zMT_fine (by decide +kernel) (fun i as S k' h => by
        unfold zE_Mo_laysIndex at h
        rcases zdisf h with ⟨rfl, h⟩ | h
        · exact h0 _ _ _ _ _ h
        cases h) ok_Mo_laysIndex rfl (fun v S' h => zkV_inv h) (Nat.le_of_ble_eq_true rfl) (fun g H Hw => Hw _ [some (.ref a0), some (.int a1), none, none, none] _ _ _ ⟨rfl, rfl, trivial⟩ (G_Mo_laysIndex H Hw a0 a1 S hp))
      exact ⟨_, _, h, hm.1, rfl, fun _ => ⟨_, _, rfl⟩, (fun _ U H hK hH a r e => by cases e; exact zrecv (ci := 12) (by omega) hkd rfl U H hK hH), hm.2⟩
    · cases hp
  · cases h
def zP_Mo_keyOf : List (List (Nat × zE)) := [[(0, ej (.lconst 0) 1 (0)), (1, e1 (.lstore_n 2) 2 2), (2, ei (.bipush 19) 4 0 (19)), (4, e1 (.iload_n 1) 5 1), (5, e0 (.imul) 6), (6, e1 (.istore 4) 8 4), (8, e1 (.iload 4) 10 4), (10, ei (.bipush 19) 12 0 (19)), (12, e1 (.iload_n 1) 13 1), (13, e0 (.imul) 14), (14, ei (.bipush 19) 16 0 (19))],
  [(16, e0 (.iadd) 17), (17, e1 (.if_icmp .ge 39) 20 56), (20, ej (.ldc2_w 433) 23 (9)), (23, e1 (.lload_n 2) 24 2), (24, e0 (.lmul) 25), (25, e1 (.iload 4) 27 4), (27, e1 (.aload_n 0) 28 0), (28, e3 (.getfield 358) 31 12 41 0), (31, e1 (.if_icmp .ge 15) 34 46)],
  [(34, e1 (.aload_n 0) 35 0), (35, e3 (.getfield 70) 38 12 40 2), (38, e1 (.iload 4) 40 4), (40, e0 (.iaload) 41), (41, ei (.iconst 1) 42 0 (1)), (42, e0 (.iadd) 43), (43, e1 (.goto 4) 46 47), (46, ei (.iconst 0) 47 0 (0)), (47, e0 (.i2l) 48)],
  [(48, e0 (.ladd) 49), (49, e1 (.lstore_n 2) 50 2), (50, ei (.iinc 4 1) 53 4 (1)), (53, e1 (.goto (-45)) 56 8), (56, e1 (.lload_n 2) 57 2), (57, e0 (.lreturn) 58)]]
noncomputable def zE_Mo_keyOf (α : Type) : Nat → zX α := fun _ => fun _ _ _ => none
def zc_Mo_keyOf : Nat → Bool := fun pc => Nat.beq pc 8
def D_Mo_keyOf_8 (k : Nat → Int32 → Int64 → Int32 → zM → Option (Int64 × zM)) (lv : zV) (st : List Value) (S : zM) : Option (Int64 × zM) := match lv, st with
  | [some (.ref a0), some (.int a1), some (.long a2), _, some (.int a4)], [] => k a0 a1 a2 a4 S
  | _, _ => none
theorem d_Mo_keyOf_8 {g : zV → Nat → List Value → zM → Prop} (Hw : zWk g) {k : Nat → Int32 → Int64 → Int32 → zM → Option (Int64 × zM)} {res : (Int64 × zM)} {lv : zV} {st : List Value} {S : zM} (h : D_Mo_keyOf_8 k lv st S = some res) (hk : ∀ a0 a1 a2 a4 S, k a0 a1 a2 a4 S = some res → g [some (.ref a0), some (.int a1), some (.long a2), none, some (.int a4)] 8 [] S) : g lv 8 st S := by
  unfold D_Mo_keyOf_8 at h
  split at h
  · exact Hw _ _ _ _ _ (by simp [zle]) (hk _ _ _ _ _  h)
  · cases h
set_option maxRecDepth 100000 in
theorem r_Mo_keyOf_8 (n : Nat) (a0 : Nat) (a1 : Int32) (a2 : Int64) (a4 : Int32) (S : zM) : L_Mo_keyOf_8 (n + 1) a0 a1 a2 a4 S = zrt false zP_Mo_keyOf (zE_Mo_keyOf (Int64 × zM)) zc_Mo_keyOf zkJ (fun pc lv st S => bif Nat.beq pc 8 then D_Mo_keyOf_8 (L_Mo_keyOf_8 n) lv st S else none) 1000 8 [some (.ref a0), some (.int a1), some (.long a2), none, some (.int a4)] [] S := rfl
theorem g_Mo_keyOf_8 {g : zV → Nat → List Value → zM → Prop} {res : (Int64 × zM)} (H : zCl false zP_Mo_keyOf (zE_Mo_keyOf (Int64 × zM)) zkJ res g) (Hw : zWk g) (n : Nat) : ∀ (a0 : Nat) (a1 : Int32) (a2 : Int64) (a4 : Int32) (S : zM), L_Mo_keyOf_8 n a0 a1 a2 a4 S = some res → g [some (.ref a0), some (.int a1), some (.long a2), none, some (.int a4)] 8 [] S := by
  induction n with
  | zero => intro a0 a1 a2 a4 S h; cases h
  | succ n ih =>
    intro a0 a1 a2 a4 S h
    refine H zc_Mo_keyOf _ 1000 _ _ _ _ ((r_Mo_keyOf_8 n a0 a1 a2 a4 S).symm.trans h) (fun pc lv st S hK => ?_)
    rcases zdis hK with ⟨rfl, hK⟩ | hK
    · exact d_Mo_keyOf_8 Hw hK ih
    cases hK
set_option maxRecDepth 100000 in
theorem r_Mo_keyOf (a0 : Nat) (a1 : Int32) (S : zM) : f_Mo_keyOf a0 a1 S = zrt false zP_Mo_keyOf (zE_Mo_keyOf (Int64 × zM)) zc_Mo_keyOf zkJ (fun pc lv st S => bif Nat.beq pc 8 then D_Mo_keyOf_8 (L_Mo_keyOf_8 zF) lv st S else none) 1000 0 [some (.ref a0), some (.int a1), none, none, none] [] S := rfl
theorem G_Mo_keyOf {g : zV → Nat → List Value → zM → Prop} {res : (Int64 × zM)} (H : zCl false zP_Mo_keyOf (zE_Mo_keyOf (Int64 × zM)) zkJ res g) (Hw : zWk g) (a0 : Nat) (a1 : Int32) (S : zM) (h : f_Mo_keyOf a0 a1 S = some res) : g [some (.ref a0), some (.int a1), none, none, none] 0 [] S := by
  refine H zc_Mo_keyOf _ 1000 _ _ _ _ ((r_Mo_keyOf a0 a1 S).symm.trans h) (fun pc lv st S hK => ?_)
  rcases zdis hK with ⟨rfl, hK⟩ | hK
  · exact d_Mo_keyOf_8 Hw hK (g_Mo_keyOf_8 H Hw  zF)
  cases hK
set_option maxRecDepth 100000 in
theorem ok_Mo_keyOf : zokT 12 [] false 0 0 5 false (some .long) cX12_keyOf zP_Mo_keyOf = true := by decide +kernel
set_option maxRecDepth 100000 in
theorem s_Mo_keyOf {l : Launch} {HB : Heap} {b L : Nat} {xs : Nat → Int32} {aK aV : Nat → Nat} {G : va_G} {tc : Nat → ClassId} : zSnd l HB b L xs aK aV G tc (zMT.getD 232 zyD) (fun α => zA_vRI_J 12 f_Mo_keyOf) := by
  rw [show zMT.getD 232 zyD = (yX12_keyOf, cX12_keyOf, 5, (some .long), 0, 2, 0, 0) from rfl]
  intro α as S k res h
  unfold zA_vRI_J at h
  dsimp only at h
  split at h
  · rename_i a0 a1
    obtain ⟨p, hp, h⟩ := zbind h
    unfold zcl at hp
    split at hp
    · rename_i hkd
      have hm := zmeth (l := l) (HB := HB) (b := b) (L := L) (xs := xs) (aK := aK) (aV := aV) (G := G) (tc := tc) (q := (yX12_keyOf, cX12_keyOf, 5, (some .long), 0, 2, 0, 0)) (o := 12) (cs := []) (rz := false) (T := zP_Mo_keyOf) (E := zE_Mo_keyOf (Int64 × zM)) (kr := zkJ) (res := p) (v0 := some (.long p.1)) (S0 := p.2) (as := [.ref a0, .int a1]) (S := S) zMT_fine (by decide +kernel) (fun i as S k' h => by
        unfold zE_Mo_keyOf at h
        cases h) ok_Mo_keyOf rfl (fun v S' h => zkJ_inv h) (Nat.le_of_ble_eq_true rfl) (fun g H Hw => Hw _ [some (.ref a0), some (.int a1), none, none, none] _ _ _ ⟨rfl, rfl, trivial⟩ (G_Mo_keyOf H Hw a0 a1 S hp))
      exact ⟨_, _, h, hm.1, rfl, fun _ => ⟨_, _, rfl⟩, (fun _ U H hK hH a r e => by cases e; exact zrecv (ci := 12) (by omega) hkd rfl U H hK hH), hm.2⟩
    · cases hp
  · cases h
def zP_Mo_laysWords : List (List (Nat × zE)) := [[(0, e1 (.aload_n 0) 1 0), (1, e1 (.aload_n 0) 2 0), (2, e1 (.iload_n 1) 3 1), (3, e3 (.invokevirtual 435) 6 0 2 0), (6, e3 (.putfield 438) 9 12 61 0), (9, ei (.iconst 0) 10 0 (0)), (10, e1 (.istore_n 2) 11 2), (11, e1 (.iload_n 2) 12 2), (12, e1 (.aload_n 0) 13 0), (13, e3 (.getfield 438) 16 12 61 0)],
  [(16, e1 (.if_icmp .ge 63) 19 79), (19, e1 (.aload_n 0) 20 0), (20, e1 (.iload_n 2) 21 2), (21, e3 (.invokevirtual 426) 24 1 2 0), (24, e1 (.aload_n 0) 25 0), (25, e3 (.getfield 109) 28 12 58 2), (28, e1 (.iload_n 2) 29 2), (29, e1 (.aload_n 0) 30 0), (30, ei (.iconst 0) 31 0 (0)), (31, e3 (.invokevirtual 406) 34 2 2 0)],
  [(34, e0 (.iastore) 35), (35, e1 (.aload_n 0) 36 0), (36, e3 (.getfield 112) 39 12 59 2), (39, e1 (.iload_n 2) 40 2), (40, e1 (.aload_n 0) 41 0), (41, e3 (.getfield 358) 44 12 41 0), (44, e0 (.iastore) 45), (45, ei (.iconst 0) 46 0 (0)), (46, e1 (.istore_n 3) 47 3), (47, e1 (.iload_n 3) 48 3)],
  [(48, ei (.iconst 4) 49 0 (4)), (49, e1 (.if_icmp .ge 24) 52 73), (52, e1 (.aload_n 0) 53 0), (53, e3 (.getfield 115) 56 12 60 2), (56, ei (.iconst 4) 57 0 (4)), (57, e1 (.iload_n 2) 58 2), (58, e0 (.imul) 59), (59, e1 (.iload_n 3) 60 3), (60, e0 (.iadd) 61), (61, e1 (.aload_n 0) 62 0), (62, e1 (.iload_n 3) 63 3), (63, e3 (.invokevirtual 441) 66 3 2 0)],
  [(66, e0 (.lastore) 67), (67, ei (.iinc 3 1) 70 3 (1)), (70, e1 (.goto (-23)) 73 47), (73, ei (.iinc 2 1) 76 2 (1)), (76, e1 (.goto (-65)) 79 11), (79, e0 (.return_) 80)]]
noncomputable def zE_Mo_laysWords (α : Type) : Nat → zX α := fun i => bif Nat.beq i 0 then zA_vRI_I 12 f_Mo_manyUpTo else bif Nat.beq i 1 then zA_vRI_V 12 f_Mo_laysIndex else bif Nat.beq i 2 then zA_vRI_I 12 f_Mo_goesAll else bif Nat.beq i 3 then zA_vRI_J 12 f_Mo_keyOf else fun _ _ _ => none
def zc_Mo_laysWords : Nat → Bool := fun pc => Nat.beq pc 11 || Nat.beq pc 47 || Nat.beq pc 73
def D_Mo_laysWords_11 (k : Nat → Int32 → zM → Option zM) (lv : zV) (st : List Value) (S : zM) : Option zM := match lv, st with
  | [some (.ref a0), _, some (.int a2), _], [] => k a0 a2 S
  | _, _ => none
theorem d_Mo_laysWords_11 {g : zV → Nat → List Value → zM → Prop} (Hw : zWk g) {k : Nat → Int32 → zM → Option zM} {res : zM} {lv : zV} {st : List Value} {S : zM} (h : D_Mo_laysWords_11 k lv st S = some res) (hk : ∀ a0 a2 S, k a0 a2 S = some res → g [some (.ref a0), none, some (.int a2), none] 11 [] S) : g lv 11 st S := by
  unfold D_Mo_laysWords_11 at h
  split at h
  · exact Hw _ _ _ _ _ (by simp [zle]) (hk _ _ _  h)
  · cases h
def D_Mo_laysWords_47 (k : Nat → Int32 → Int32 → zM → Option zM) (lv : zV) (st : List Value) (S : zM) : Option zM := match lv, st with
  | [some (.ref a0), _, some (.int a2), some (.int a3)], [] => k a0 a2 a3 S
  | _, _ => none
theorem d_Mo_laysWords_47 {g : zV → Nat → List Value → zM → Prop} (Hw : zWk g) {k : Nat → Int32 → Int32 → zM → Option zM} {res : zM} {lv : zV} {st : List Value} {S : zM} (h : D_Mo_laysWords_47 k lv st S = some res) (hk : ∀ a0 a2 a3 S, k a0 a2 a3 S = some res → g [some (.ref a0), none, some (.int a2), some (.int a3)] 47 [] S) : g lv 47 st S := by
  unfold D_Mo_laysWords_47 at h
  split at h
  · exact Hw _ _ _ _ _ (by simp [zle]) (hk _ _ _ _  h)
  · cases h
def D_Mo_laysWords_73 (k : Nat → Int32 → zM → Option zM) (lv : zV) (st : List Value) (S : zM) : Option zM := match lv, st with
  | [some (.ref a0), _, some (.int a2), _], [] => k a0 a2 S
  | _, _ => none
theorem d_Mo_laysWords_73 {g : zV → Nat → List Value → zM → Prop} (Hw : zWk g) {k : Nat → Int32 → zM → Option zM} {res : zM} {lv : zV} {st : List Value} {S : zM} (h : D_Mo_laysWords_73 k lv st S = some res) (hk : ∀ a0 a2 S, k a0 a2 S = some res → g [some (.ref a0), none, some (.int a2), none] 73 [] S) : g lv 73 st S := by
  unfold D_Mo_laysWords_73 at h
  split at h
  · exact Hw _ _ _ _ _ (by simp [zle]) (hk _ _ _  h)
  · cases h
set_option maxRecDepth 100000 in
theorem r_Mo_laysWords_73 (k11 : Nat → Int32 → zM → Option zM) (a0 : Nat) (a2 : Int32) (S : zM) : F_Mo_laysWords_73 k11 a0 a2 S = zrt false zP_Mo_laysWords (zE_Mo_laysWords zM) zc_Mo_laysWords zkV (fun pc lv st S => bif Nat.beq pc 11 then D_Mo_laysWords_11 k11 lv st S else none) 1000 73 [some (.ref a0), none, some (.int a2), none] [] S := rfl
theorem g_Mo_laysWords_73 {g : zV → Nat → List Value → zM → Prop} {res : zM} (H : zCl false zP_Mo_laysWords (zE_Mo_laysWords zM) zkV res g) (Hw : zWk g) {k11 : Nat → Int32 → zM → Option zM} (hk11 : ∀ a0 a2 S, k11 a0 a2 S = some res → g [some (.ref a0), none, some (.int a2), none] 11 [] S) (a0 : Nat) (a2 : Int32) (S : zM) (h : F_Mo_laysWords_73 k11 a0 a2 S = some res) : g [some (.ref a0), none, some (.int a2), none] 73 [] S := by
  refine H zc_Mo_laysWords _ 1000 _ _ _ _ ((r_Mo_laysWords_73 k11 a0 a2 S).symm.trans h) (fun pc lv st S hK => ?_)
  rcases zdis hK with ⟨rfl, hK⟩ | hK
  · exact d_Mo_laysWords_11 Hw hK hk11
  cases hK
set_option maxRecDepth 100000 in
theorem r_Mo_laysWords_47 (k73 : Nat → Int32 → zM → Option zM) (n : Nat) (a0 : Nat) (a2 : Int32) (a3 : Int32) (S : zM) : L_Mo_laysWords_47 k73 (n + 1) a0 a2 a3 S = zrt false zP_Mo_laysWords (zE_Mo_laysWords zM) zc_Mo_laysWords zkV (fun pc lv st S => bif Nat.beq pc 47 then D_Mo_laysWords_47 (L_Mo_laysWords_47 k73 n) lv st S else bif Nat.beq pc 73 then D_Mo_laysWords_73 k73 lv st S else none) 1000 47 [some (.ref a0), none, some (.int a2), some (.int a3)] [] S := rfl
theorem g_Mo_laysWords_47 {g : zV → Nat → List Value → zM → Prop} {res : zM} (H : zCl false zP_Mo_laysWords (zE_Mo_laysWords zM) zkV res g) (Hw : zWk g) {k73 : Nat → Int32 → zM → Option zM} (hk73 : ∀ a0 a2 S, k73 a0 a2 S = some res → g [some (.ref a0), none, some (.int a2), none] 73 [] S) (n : Nat) : ∀ (a0 : Nat) (a2 : Int32) (a3 : Int32) (S : zM), L_Mo_laysWords_47 k73 n a0 a2 a3 S = some res → g [some (.ref a0), none, some (.int a2), some (.int a3)] 47 [] S := by
  induction n with
  | zero => intro a0 a2 a3 S h; cases h
  | succ n ih =>
    intro a0 a2 a3 S h
    refine H zc_Mo_laysWords _ 1000 _ _ _ _ ((r_Mo_laysWords_47 k73 n a0 a2 a3 S).symm.trans h) (fun pc lv st S hK => ?_)
    rcases zdis hK with ⟨rfl, hK⟩ | hK
    · exact d_Mo_laysWords_47 Hw hK ih
    rcases zdis hK with ⟨rfl, hK⟩ | hK
    · exact d_Mo_laysWords_73 Hw hK hk73
    cases hK
set_option maxRecDepth 100000 in
theorem r_Mo_laysWords_11 (n : Nat) (a0 : Nat) (a2 : Int32) (S : zM) : L_Mo_laysWords_11 (n + 1) a0 a2 S = zrt false zP_Mo_laysWords (zE_Mo_laysWords zM) zc_Mo_laysWords zkV (fun pc lv st S => bif Nat.beq pc 47 then D_Mo_laysWords_47 (L_Mo_laysWords_47 (F_Mo_laysWords_73 (L_Mo_laysWords_11 n)) zF) lv st S else none) 1000 11 [some (.ref a0), none, some (.int a2), none] [] S := rfl
theorem g_Mo_laysWords_11 {g : zV → Nat → List Value → zM → Prop} {res : zM} (H : zCl false zP_Mo_laysWords (zE_Mo_laysWords zM) zkV res g) (Hw : zWk g) (n : Nat) : ∀ (a0 : Nat) (a2 : Int32) (S : zM), L_Mo_laysWords_11 n a0 a2 S = some res → g [some (.ref a0), none, some (.int a2), none] 11 [] S := by
  induction n with
  | zero => intro a0 a2 S h; cases h
  | succ n ih =>
    intro a0 a2 S h
    refine H zc_Mo_laysWords _ 1000 _ _ _ _ ((r_Mo_laysWords_11 n a0 a2 S).symm.trans h) (fun pc lv st S hK => ?_)
    rcases zdis hK with ⟨rfl, hK⟩ | hK
    · exact d_Mo_laysWords_47 Hw hK (g_Mo_laysWords_47 H Hw (g_Mo_laysWords_73 H Hw ih) zF)
    cases hK
set_option maxRecDepth 100000 in
theorem r_Mo_laysWords (a0 : Nat) (a1 : Int32) (S : zM) : f_Mo_laysWords a0 a1 S = zrt false zP_Mo_laysWords (zE_Mo_laysWords zM) zc_Mo_laysWords zkV (fun pc lv st S => bif Nat.beq pc 11 then D_Mo_laysWords_11 (L_Mo_laysWords_11 zF) lv st S else none) 1000 0 [some (.ref a0), some (.int a1), none, none] [] S := rfl
theorem G_Mo_laysWords {g : zV → Nat → List Value → zM → Prop} {res : zM} (H : zCl false zP_Mo_laysWords (zE_Mo_laysWords zM) zkV res g) (Hw : zWk g) (a0 : Nat) (a1 : Int32) (S : zM) (h : f_Mo_laysWords a0 a1 S = some res) : g [some (.ref a0), some (.int a1), none, none] 0 [] S := by
  refine H zc_Mo_laysWords _ 1000 _ _ _ _ ((r_Mo_laysWords a0 a1 S).symm.trans h) (fun pc lv st S hK => ?_)
  rcases zdis hK with ⟨rfl, hK⟩ | hK
  · exact d_Mo_laysWords_11 Hw hK (g_Mo_laysWords_11 H Hw  zF)
  cases hK
set_option maxRecDepth 100000 in
theorem ok_Mo_laysWords : zokT 12 [215, 231, 184, 232] false 7 173 4 false none cX12_laysWords zP_Mo_laysWords = true := by decide +kernel
set_option maxRecDepth 100000 in
theorem s_Mo_laysWords {l : Launch} {HB : Heap} {b L : Nat} {xs : Nat → Int32} {aK aV : Nat → Nat} {G : va_G} {tc : Nat → ClassId} (h0 : zSnd l HB b L xs aK aV G tc (zMT.getD 215 zyD) (fun α => zA_vRI_I 12 f_Mo_manyUpTo)) (h1 : zSnd l HB b L xs aK aV G tc (zMT.getD 231 zyD) (fun α => zA_vRI_V 12 f_Mo_laysIndex)) (h2 : zSnd l HB b L xs aK aV G tc (zMT.getD 184 zyD) (fun α => zA_vRI_I 12 f_Mo_goesAll)) (h3 : zSnd l HB b L xs aK aV G tc (zMT.getD 232 zyD) (fun α => zA_vRI_J 12 f_Mo_keyOf)) : zSnd l HB b L xs aK aV G tc (zMT.getD 233 zyD) (fun α => zA_vRI_V 12 f_Mo_laysWords) := by
  rw [show zMT.getD 233 zyD = (yX12_laysWords, cX12_laysWords, 4, none, 0, 2, 7, 173) from rfl]
  intro α as S k res h
  unfold zA_vRI_V at h
  dsimp only at h
  split at h
  · rename_i a0 a1
    obtain ⟨p, hp, h⟩ := zbind h
    unfold zcl at hp
    split at hp
    · rename_i hkd
      have hm := zmeth (l := l) (HB := HB) (b := b) (L := L) (xs := xs) (aK := aK) (aV := aV) (G := G) (tc := tc) (q := (yX12_laysWords, cX12_laysWords, 4, none, 0, 2, 7, 173)) (o := 12) (cs := [215, 231, 184, 232]) (rz := false) (T := zP_Mo_laysWords) (E := zE_Mo_laysWords zM) (kr := zkV) (res := p) (v0 := none) (S0 := p) (as := [.ref a0, .int a1]) (S := S) zMT_fine (by decide +kernel) (fun i as S k' h => by
        unfold zE_Mo_laysWords at h
        rcases zdisf h with ⟨rfl, h⟩ | h
        · exact h0 _ _ _ _ _ h
        rcases zdisf h with ⟨rfl, h⟩ | h
        · exact h1 _ _ _ _ _ h
        rcases zdisf h with ⟨rfl, h⟩ | h
        · exact h2 _ _ _ _ _ h
        rcases zdisf h with ⟨rfl, h⟩ | h
        · exact h3 _ _ _ _ _ h
        cases h) ok_Mo_laysWords rfl (fun v S' h => zkV_inv h) (Nat.le_of_ble_eq_true rfl) (fun g H Hw => Hw _ [some (.ref a0), some (.int a1), none, none] _ _ _ ⟨rfl, rfl, trivial⟩ (G_Mo_laysWords H Hw a0 a1 S hp))
      exact ⟨_, _, h, hm.1, rfl, fun _ => ⟨_, _, rfl⟩, (fun _ U H hK hH a r e => by cases e; exact zrecv (ci := 12) (by omega) hkd rfl U H hK hH), hm.2⟩
    · cases hp
  · cases h
def zP_Mo_areAlike : List (List (Nat × zE)) := [[(0, e1 (.aload_n 0) 1 0), (1, e3 (.getfield 109) 4 12 58 2), (4, e1 (.iload_n 1) 5 1), (5, e0 (.iaload) 6), (6, e1 (.ifCond .ne 12) 9 18), (9, e1 (.aload_n 0) 10 0), (10, e3 (.getfield 109) 13 12 58 2), (13, e1 (.iload_n 2) 14 2), (14, e0 (.iaload) 15), (15, e1 (.ifCond .eq 5) 18 20)],
  [(18, ei (.iconst 0) 19 0 (0)), (19, e0 (.ireturn) 20), (20, ei (.iconst 0) 21 0 (0)), (21, e1 (.istore_n 3) 22 3), (22, e1 (.iload_n 3) 23 3), (23, ei (.iconst 4) 24 0 (4)), (24, e1 (.if_icmp .ge 35) 27 59), (27, e1 (.aload_n 0) 28 0), (28, e3 (.getfield 115) 31 12 60 2), (31, ei (.iconst 4) 32 0 (4))],
  [(32, e1 (.iload_n 1) 33 1), (33, e0 (.imul) 34), (34, e1 (.iload_n 3) 35 3), (35, e0 (.iadd) 36), (36, e0 (.laload) 37), (37, e1 (.aload_n 0) 38 0), (38, e3 (.getfield 115) 41 12 60 2), (41, ei (.iconst 4) 42 0 (4)), (42, e1 (.iload_n 2) 43 2), (43, e0 (.imul) 44), (44, e1 (.iload_n 3) 45 3), (45, e0 (.iadd) 46), (46, e0 (.laload) 47), (47, e0 (.lcmp) 48)],
  [(48, e1 (.ifCond .eq 5) 51 53), (51, ei (.iconst 0) 52 0 (0)), (52, e0 (.ireturn) 53), (53, ei (.iinc 3 1) 56 3 (1)), (56, e1 (.goto (-34)) 59 22), (59, ei (.iconst 1) 60 0 (1)), (60, e0 (.ireturn) 61)]]
noncomputable def zE_Mo_areAlike (α : Type) : Nat → zX α := fun _ => fun _ _ _ => none
def zc_Mo_areAlike : Nat → Bool := fun pc => Nat.beq pc 22
def D_Mo_areAlike_22 (k : Nat → Int32 → Int32 → Int32 → zM → Option (Int32 × zM)) (lv : zV) (st : List Value) (S : zM) : Option (Int32 × zM) := match lv, st with
  | [some (.ref a0), some (.int a1), some (.int a2), some (.int a3)], [] => k a0 a1 a2 a3 S
  | _, _ => none
theorem d_Mo_areAlike_22 {g : zV → Nat → List Value → zM → Prop} (Hw : zWk g) {k : Nat → Int32 → Int32 → Int32 → zM → Option (Int32 × zM)} {res : (Int32 × zM)} {lv : zV} {st : List Value} {S : zM} (h : D_Mo_areAlike_22 k lv st S = some res) (hk : ∀ a0 a1 a2 a3 S, k a0 a1 a2 a3 S = some res → g [some (.ref a0), some (.int a1), some (.int a2), some (.int a3)] 22 [] S) : g lv 22 st S := by
  unfold D_Mo_areAlike_22 at h
  split at h
  · exact Hw _ _ _ _ _ (by simp [zle]) (hk _ _ _ _ _  h)
  · cases h
set_option maxRecDepth 100000 in
theorem r_Mo_areAlike_22 (n : Nat) (a0 : Nat) (a1 : Int32) (a2 : Int32) (a3 : Int32) (S : zM) : L_Mo_areAlike_22 (n + 1) a0 a1 a2 a3 S = zrt true zP_Mo_areAlike (zE_Mo_areAlike (Int32 × zM)) zc_Mo_areAlike zkI (fun pc lv st S => bif Nat.beq pc 22 then D_Mo_areAlike_22 (L_Mo_areAlike_22 n) lv st S else none) 1000 22 [some (.ref a0), some (.int a1), some (.int a2), some (.int a3)] [] S := rfl
theorem g_Mo_areAlike_22 {g : zV → Nat → List Value → zM → Prop} {res : (Int32 × zM)} (H : zCl true zP_Mo_areAlike (zE_Mo_areAlike (Int32 × zM)) zkI res g) (Hw : zWk g) (n : Nat) : ∀ (a0 : Nat) (a1 : Int32) (a2 : Int32) (a3 : Int32) (S : zM), L_Mo_areAlike_22 n a0 a1 a2 a3 S = some res → g [some (.ref a0), some (.int a1), some (.int a2), some (.int a3)] 22 [] S := by
  induction n with
  | zero => intro a0 a1 a2 a3 S h; cases h
  | succ n ih =>
    intro a0 a1 a2 a3 S h
    refine H zc_Mo_areAlike _ 1000 _ _ _ _ ((r_Mo_areAlike_22 n a0 a1 a2 a3 S).symm.trans h) (fun pc lv st S hK => ?_)
    rcases zdis hK with ⟨rfl, hK⟩ | hK
    · exact d_Mo_areAlike_22 Hw hK ih
    cases hK
set_option maxRecDepth 100000 in
theorem r_Mo_areAlike (a0 : Nat) (a1 : Int32) (a2 : Int32) (S : zM) : f_Mo_areAlike a0 a1 a2 S = zrt true zP_Mo_areAlike (zE_Mo_areAlike (Int32 × zM)) zc_Mo_areAlike zkI (fun pc lv st S => bif Nat.beq pc 22 then D_Mo_areAlike_22 (L_Mo_areAlike_22 zF) lv st S else none) 1000 0 [some (.ref a0), some (.int a1), some (.int a2), none] [] S := rfl
theorem G_Mo_areAlike {g : zV → Nat → List Value → zM → Prop} {res : (Int32 × zM)} (H : zCl true zP_Mo_areAlike (zE_Mo_areAlike (Int32 × zM)) zkI res g) (Hw : zWk g) (a0 : Nat) (a1 : Int32) (a2 : Int32) (S : zM) (h : f_Mo_areAlike a0 a1 a2 S = some res) : g [some (.ref a0), some (.int a1), some (.int a2), none] 0 [] S := by
  refine H zc_Mo_areAlike _ 1000 _ _ _ _ ((r_Mo_areAlike a0 a1 a2 S).symm.trans h) (fun pc lv st S hK => ?_)
  rcases zdis hK with ⟨rfl, hK⟩ | hK
  · exact d_Mo_areAlike_22 Hw hK (g_Mo_areAlike_22 H Hw  zF)
  cases hK
set_option maxRecDepth 100000 in
theorem ok_Mo_areAlike : zokT 12 [] false 0 0 4 true (some .boolean) cX12_areAlike zP_Mo_areAlike = true := by decide +kernel
set_option maxRecDepth 100000 in
theorem s_Mo_areAlike {l : Launch} {HB : Heap} {b L : Nat} {xs : Nat → Int32} {aK aV : Nat → Nat} {G : va_G} {tc : Nat → ClassId} : zSnd l HB b L xs aK aV G tc (zMT.getD 234 zyD) (fun α => zA_vRII_I 12 f_Mo_areAlike) := by
  rw [show zMT.getD 234 zyD = (yX12_areAlike, cX12_areAlike, 4, (some .boolean), 0, 3, 0, 0) from rfl]
  intro α as S k res h
  unfold zA_vRII_I at h
  dsimp only at h
  split at h
  · rename_i a0 a1 a2
    obtain ⟨p, hp, h⟩ := zbind h
    unfold zcl at hp
    split at hp
    · rename_i hkd
      have hm := zmeth (l := l) (HB := HB) (b := b) (L := L) (xs := xs) (aK := aK) (aV := aV) (G := G) (tc := tc) (q := (yX12_areAlike, cX12_areAlike, 4, (some .boolean), 0, 3, 0, 0)) (o := 12) (cs := []) (rz := true) (T := zP_Mo_areAlike) (E := zE_Mo_areAlike (Int32 × zM)) (kr := zkI) (res := p) (v0 := some (.int p.1)) (S0 := p.2) (as := [.ref a0, .int a1, .int a2]) (S := S) zMT_fine (by decide +kernel) (fun i as S k' h => by
        unfold zE_Mo_areAlike at h
        cases h) ok_Mo_areAlike rfl (fun v S' h => zkI_inv h) (Nat.le_of_ble_eq_true rfl) (fun g H Hw => Hw _ [some (.ref a0), some (.int a1), some (.int a2), none] _ _ _ ⟨rfl, rfl, rfl, trivial⟩ (G_Mo_areAlike H Hw a0 a1 a2 S hp))
      exact ⟨_, _, h, hm.1, rfl, fun _ => ⟨_, _, rfl⟩, (fun _ U H hK hH a r e => by cases e; exact zrecv (ci := 12) (by omega) hkd rfl U H hK hH), hm.2⟩
    · cases hp
  · cases h
def zP_Mo_firstAlike : List (List (Nat × zE)) := [[(0, ei (.iconst 0) 1 0 (0)), (1, e1 (.istore_n 2) 2 2), (2, e1 (.iload_n 2) 3 2), (3, e1 (.iload_n 1) 4 1), (4, e1 (.if_icmp .ge 20) 7 24), (7, e1 (.aload_n 0) 8 0), (8, e1 (.iload_n 1) 9 1), (9, e1 (.iload_n 2) 10 2), (10, e3 (.invokevirtual 445) 13 0 3 0), (13, e1 (.ifCond .eq 5) 16 18)],
  [(16, e1 (.iload_n 2) 17 2), (17, e0 (.ireturn) 18), (18, ei (.iinc 2 1) 21 2 (1)), (21, e1 (.goto (-19)) 24 2), (24, ei (.iconst (-1)) 25 0 (-1)), (25, e0 (.ireturn) 26)]]
noncomputable def zE_Mo_firstAlike (α : Type) : Nat → zX α := fun i => bif Nat.beq i 0 then zA_vRII_I 12 f_Mo_areAlike else fun _ _ _ => none
def zc_Mo_firstAlike : Nat → Bool := fun pc => Nat.beq pc 2
def D_Mo_firstAlike_2 (k : Nat → Int32 → Int32 → zM → Option (Int32 × zM)) (lv : zV) (st : List Value) (S : zM) : Option (Int32 × zM) := match lv, st with
  | [some (.ref a0), some (.int a1), some (.int a2)], [] => k a0 a1 a2 S
  | _, _ => none
theorem d_Mo_firstAlike_2 {g : zV → Nat → List Value → zM → Prop} (Hw : zWk g) {k : Nat → Int32 → Int32 → zM → Option (Int32 × zM)} {res : (Int32 × zM)} {lv : zV} {st : List Value} {S : zM} (h : D_Mo_firstAlike_2 k lv st S = some res) (hk : ∀ a0 a1 a2 S, k a0 a1 a2 S = some res → g [some (.ref a0), some (.int a1), some (.int a2)] 2 [] S) : g lv 2 st S := by
  unfold D_Mo_firstAlike_2 at h
  split at h
  · exact Hw _ _ _ _ _ (by simp [zle]) (hk _ _ _ _  h)
  · cases h
set_option maxRecDepth 100000 in
theorem r_Mo_firstAlike_2 (n : Nat) (a0 : Nat) (a1 : Int32) (a2 : Int32) (S : zM) : L_Mo_firstAlike_2 (n + 1) a0 a1 a2 S = zrt false zP_Mo_firstAlike (zE_Mo_firstAlike (Int32 × zM)) zc_Mo_firstAlike zkI (fun pc lv st S => bif Nat.beq pc 2 then D_Mo_firstAlike_2 (L_Mo_firstAlike_2 n) lv st S else none) 1000 2 [some (.ref a0), some (.int a1), some (.int a2)] [] S := rfl
theorem g_Mo_firstAlike_2 {g : zV → Nat → List Value → zM → Prop} {res : (Int32 × zM)} (H : zCl false zP_Mo_firstAlike (zE_Mo_firstAlike (Int32 × zM)) zkI res g) (Hw : zWk g) (n : Nat) : ∀ (a0 : Nat) (a1 : Int32) (a2 : Int32) (S : zM), L_Mo_firstAlike_2 n a0 a1 a2 S = some res → g [some (.ref a0), some (.int a1), some (.int a2)] 2 [] S := by
  induction n with
  | zero => intro a0 a1 a2 S h; cases h
  | succ n ih =>
    intro a0 a1 a2 S h
    refine H zc_Mo_firstAlike _ 1000 _ _ _ _ ((r_Mo_firstAlike_2 n a0 a1 a2 S).symm.trans h) (fun pc lv st S hK => ?_)
    rcases zdis hK with ⟨rfl, hK⟩ | hK
    · exact d_Mo_firstAlike_2 Hw hK ih
    cases hK
set_option maxRecDepth 100000 in
theorem r_Mo_firstAlike (a0 : Nat) (a1 : Int32) (S : zM) : f_Mo_firstAlike a0 a1 S = zrt false zP_Mo_firstAlike (zE_Mo_firstAlike (Int32 × zM)) zc_Mo_firstAlike zkI (fun pc lv st S => bif Nat.beq pc 2 then D_Mo_firstAlike_2 (L_Mo_firstAlike_2 zF) lv st S else none) 1000 0 [some (.ref a0), some (.int a1), none] [] S := rfl
theorem G_Mo_firstAlike {g : zV → Nat → List Value → zM → Prop} {res : (Int32 × zM)} (H : zCl false zP_Mo_firstAlike (zE_Mo_firstAlike (Int32 × zM)) zkI res g) (Hw : zWk g) (a0 : Nat) (a1 : Int32) (S : zM) (h : f_Mo_firstAlike a0 a1 S = some res) : g [some (.ref a0), some (.int a1), none] 0 [] S := by
  refine H zc_Mo_firstAlike _ 1000 _ _ _ _ ((r_Mo_firstAlike a0 a1 S).symm.trans h) (fun pc lv st S hK => ?_)
  rcases zdis hK with ⟨rfl, hK⟩ | hK
  · exact d_Mo_firstAlike_2 Hw hK (g_Mo_firstAlike_2 H Hw  zF)
  cases hK
set_option maxRecDepth 100000 in
theorem ok_Mo_firstAlike : zokT 12 [234] false 1 23 3 false (some .int) cX12_firstAlike zP_Mo_firstAlike = true := by decide +kernel
set_option maxRecDepth 100000 in
theorem s_Mo_firstAlike {l : Launch} {HB : Heap} {b L : Nat} {xs : Nat → Int32} {aK aV : Nat → Nat} {G : va_G} {tc : Nat → ClassId} (h0 : zSnd l HB b L xs aK aV G tc (zMT.getD 234 zyD) (fun α => zA_vRII_I 12 f_Mo_areAlike)) : zSnd l HB b L xs aK aV G tc (zMT.getD 235 zyD) (fun α => zA_vRI_I 12 f_Mo_firstAlike) := by
  rw [show zMT.getD 235 zyD = (yX12_firstAlike, cX12_firstAlike, 3, (some .int), 0, 2, 1, 23) from rfl]
  intro α as S k res h
  unfold zA_vRI_I at h
  dsimp only at h
  split at h
  · rename_i a0 a1
    obtain ⟨p, hp, h⟩ := zbind h
    unfold zcl at hp
    split at hp
    · rename_i hkd
      have hm := zmeth (l := l) (HB := HB) (b := b) (L := L) (xs := xs) (aK := aK) (aV := aV) (G := G) (tc := tc) (q := (yX12_firstAlike, cX12_firstAlike, 3, (some .int), 0, 2, 1, 23)) (o := 12) (cs := [234]) (rz := false) (T := zP_Mo_firstAlike) (E := zE_Mo_firstAlike (Int32 × zM)) (kr := zkI) (res := p) (v0 := some (.int p.1)) (S0 := p.2) (as := [.ref a0, .int a1]) (S := S) zMT_fine (by decide +kernel) (fun i as S k' h => by
        unfold zE_Mo_firstAlike at h
        rcases zdisf h with ⟨rfl, h⟩ | h
        · exact h0 _ _ _ _ _ h
        cases h) ok_Mo_firstAlike rfl (fun v S' h => zkI_inv h) (Nat.le_of_ble_eq_true rfl) (fun g H Hw => Hw _ [some (.ref a0), some (.int a1), none] _ _ _ ⟨rfl, rfl, trivial⟩ (G_Mo_firstAlike H Hw a0 a1 S hp))
      exact ⟨_, _, h, hm.1, rfl, fun _ => ⟨_, _, rfl⟩, (fun _ U H hK hH a r e => by cases e; exact zrecv (ci := 12) (by omega) hkd rfl U H hK hH), hm.2⟩
    · cases hp
  · cases h
def zP_Mo_doubledMany : List (List (Nat × zE)) := [[(0, e1 (.aload_n 0) 1 0), (1, e1 (.iload_n 1) 2 1), (2, e3 (.invokevirtual 448) 5 0 2 0), (5, ei (.iconst 0) 6 0 (0)), (6, e1 (.istore_n 2) 7 2), (7, ei (.iconst 0) 8 0 (0)), (8, e1 (.istore_n 3) 9 3), (9, e1 (.iload_n 3) 10 3), (10, e1 (.aload_n 0) 11 0), (11, e3 (.getfield 438) 14 12 61 0), (14, e1 (.if_icmp .ge 26) 17 40)],
  [(17, e1 (.iload_n 2) 18 2), (18, e1 (.aload_n 0) 19 0), (19, e1 (.iload_n 3) 20 3), (20, e3 (.invokevirtual 451) 23 1 2 0), (23, ei (.iconst (-1)) 24 0 (-1)), (24, e1 (.if_icmp .ne 7) 27 31), (27, ei (.iconst 0) 28 0 (0)), (28, e1 (.goto 4) 31 32), (31, ei (.iconst 1) 32 0 (1))],
  [(32, e0 (.iadd) 33), (33, e1 (.istore_n 2) 34 2), (34, ei (.iinc 3 1) 37 3 (1)), (37, e1 (.goto (-28)) 40 9), (40, e1 (.iload_n 2) 41 2), (41, e0 (.ireturn) 42)]]
noncomputable def zE_Mo_doubledMany (α : Type) : Nat → zX α := fun i => bif Nat.beq i 0 then zA_vRI_V 12 f_Mo_laysWords else bif Nat.beq i 1 then zA_vRI_I 12 f_Mo_firstAlike else fun _ _ _ => none
def zc_Mo_doubledMany : Nat → Bool := fun pc => Nat.beq pc 9
def D_Mo_doubledMany_9 (k : Nat → Int32 → Int32 → zM → Option (Int32 × zM)) (lv : zV) (st : List Value) (S : zM) : Option (Int32 × zM) := match lv, st with
  | [some (.ref a0), _, some (.int a2), some (.int a3)], [] => k a0 a2 a3 S
  | _, _ => none
theorem d_Mo_doubledMany_9 {g : zV → Nat → List Value → zM → Prop} (Hw : zWk g) {k : Nat → Int32 → Int32 → zM → Option (Int32 × zM)} {res : (Int32 × zM)} {lv : zV} {st : List Value} {S : zM} (h : D_Mo_doubledMany_9 k lv st S = some res) (hk : ∀ a0 a2 a3 S, k a0 a2 a3 S = some res → g [some (.ref a0), none, some (.int a2), some (.int a3)] 9 [] S) : g lv 9 st S := by
  unfold D_Mo_doubledMany_9 at h
  split at h
  · exact Hw _ _ _ _ _ (by simp [zle]) (hk _ _ _ _  h)
  · cases h
set_option maxRecDepth 100000 in
theorem r_Mo_doubledMany_9 (n : Nat) (a0 : Nat) (a2 : Int32) (a3 : Int32) (S : zM) : L_Mo_doubledMany_9 (n + 1) a0 a2 a3 S = zrt false zP_Mo_doubledMany (zE_Mo_doubledMany (Int32 × zM)) zc_Mo_doubledMany zkI (fun pc lv st S => bif Nat.beq pc 9 then D_Mo_doubledMany_9 (L_Mo_doubledMany_9 n) lv st S else none) 1000 9 [some (.ref a0), none, some (.int a2), some (.int a3)] [] S := rfl
theorem g_Mo_doubledMany_9 {g : zV → Nat → List Value → zM → Prop} {res : (Int32 × zM)} (H : zCl false zP_Mo_doubledMany (zE_Mo_doubledMany (Int32 × zM)) zkI res g) (Hw : zWk g) (n : Nat) : ∀ (a0 : Nat) (a2 : Int32) (a3 : Int32) (S : zM), L_Mo_doubledMany_9 n a0 a2 a3 S = some res → g [some (.ref a0), none, some (.int a2), some (.int a3)] 9 [] S := by
  induction n with
  | zero => intro a0 a2 a3 S h; cases h
  | succ n ih =>
    intro a0 a2 a3 S h
    refine H zc_Mo_doubledMany _ 1000 _ _ _ _ ((r_Mo_doubledMany_9 n a0 a2 a3 S).symm.trans h) (fun pc lv st S hK => ?_)
    rcases zdis hK with ⟨rfl, hK⟩ | hK
    · exact d_Mo_doubledMany_9 Hw hK ih
    cases hK
set_option maxRecDepth 100000 in
theorem r_Mo_doubledMany (a0 : Nat) (a1 : Int32) (S : zM) : f_Mo_doubledMany a0 a1 S = zrt false zP_Mo_doubledMany (zE_Mo_doubledMany (Int32 × zM)) zc_Mo_doubledMany zkI (fun pc lv st S => bif Nat.beq pc 9 then D_Mo_doubledMany_9 (L_Mo_doubledMany_9 zF) lv st S else none) 1000 0 [some (.ref a0), some (.int a1), none, none] [] S := rfl
theorem G_Mo_doubledMany {g : zV → Nat → List Value → zM → Prop} {res : (Int32 × zM)} (H : zCl false zP_Mo_doubledMany (zE_Mo_doubledMany (Int32 × zM)) zkI res g) (Hw : zWk g) (a0 : Nat) (a1 : Int32) (S : zM) (h : f_Mo_doubledMany a0 a1 S = some res) : g [some (.ref a0), some (.int a1), none, none] 0 [] S := by
  refine H zc_Mo_doubledMany _ 1000 _ _ _ _ ((r_Mo_doubledMany a0 a1 S).symm.trans h) (fun pc lv st S hK => ?_)
  rcases zdis hK with ⟨rfl, hK⟩ | hK
  · exact d_Mo_doubledMany_9 Hw hK (g_Mo_doubledMany_9 H Hw  zF)
  cases hK
set_option maxRecDepth 100000 in
theorem ok_Mo_doubledMany : zokT 12 [233, 235] false 8 196 4 false (some .int) cX12_doubledMany zP_Mo_doubledMany = true := by decide +kernel
set_option maxRecDepth 100000 in
theorem s_Mo_doubledMany {l : Launch} {HB : Heap} {b L : Nat} {xs : Nat → Int32} {aK aV : Nat → Nat} {G : va_G} {tc : Nat → ClassId} (h0 : zSnd l HB b L xs aK aV G tc (zMT.getD 233 zyD) (fun α => zA_vRI_V 12 f_Mo_laysWords)) (h1 : zSnd l HB b L xs aK aV G tc (zMT.getD 235 zyD) (fun α => zA_vRI_I 12 f_Mo_firstAlike)) : zSnd l HB b L xs aK aV G tc (zMT.getD 236 zyD) (fun α => zA_vRI_I 12 f_Mo_doubledMany) := by
  rw [show zMT.getD 236 zyD = (yX12_doubledMany, cX12_doubledMany, 4, (some .int), 0, 2, 8, 196) from rfl]
  intro α as S k res h
  unfold zA_vRI_I at h
  dsimp only at h
  split at h
  · rename_i a0 a1
    obtain ⟨p, hp, h⟩ := zbind h
    unfold zcl at hp
    split at hp
    · rename_i hkd
      have hm := zmeth (l := l) (HB := HB) (b := b) (L := L) (xs := xs) (aK := aK) (aV := aV) (G := G) (tc := tc) (q := (yX12_doubledMany, cX12_doubledMany, 4, (some .int), 0, 2, 8, 196)) (o := 12) (cs := [233, 235]) (rz := false) (T := zP_Mo_doubledMany) (E := zE_Mo_doubledMany (Int32 × zM)) (kr := zkI) (res := p) (v0 := some (.int p.1)) (S0 := p.2) (as := [.ref a0, .int a1]) (S := S) zMT_fine (by decide +kernel) (fun i as S k' h => by
        unfold zE_Mo_doubledMany at h
        rcases zdisf h with ⟨rfl, h⟩ | h
        · exact h0 _ _ _ _ _ h
        rcases zdisf h with ⟨rfl, h⟩ | h
        · exact h1 _ _ _ _ _ h
        cases h) ok_Mo_doubledMany rfl (fun v S' h => zkI_inv h) (Nat.le_of_ble_eq_true rfl) (fun g H Hw => Hw _ [some (.ref a0), some (.int a1), none, none] _ _ _ ⟨rfl, rfl, trivial⟩ (G_Mo_doubledMany H Hw a0 a1 S hp))
      exact ⟨_, _, h, hm.1, rfl, fun _ => ⟨_, _, rfl⟩, (fun _ U H hK hH a r e => by cases e; exact zrecv (ci := 12) (by omega) hkd rfl U H hK hH), hm.2⟩
    · cases hp
  · cases h
def zP_Mo_reversible : List (List (Nat × zE)) := [[(0, e1 (.aload_n 0) 1 0), (1, e1 (.aload_n 0) 2 0), (2, ei (.iconst 1) 3 0 (1)), (3, e1 (.iload_n 1) 4 1), (4, e3 (.invokevirtual 454) 7 0 3 0), (7, e3 (.invokevirtual 458) 10 1 2 0), (10, e1 (.ifCond .eq 7) 13 17), (13, ei (.iconst (-1)) 14 0 (-1)), (14, e1 (.goto 16) 17 30)],
  [(17, e1 (.aload_n 0) 18 0), (18, e1 (.iload_n 1) 19 1), (19, e3 (.invokevirtual 461) 22 2 2 0), (22, e1 (.ifCond .ne 7) 25 29), (25, ei (.iconst 1) 26 0 (1)), (26, e1 (.goto 4) 29 30), (29, ei (.iconst 0) 30 0 (0)), (30, e0 (.ireturn) 31)]]
noncomputable def zE_Mo_reversible (α : Type) : Nat → zX α := fun i => bif Nat.beq i 0 then zA_vRII_I 12 f_Mo_wordsWhy else bif Nat.beq i 1 then zA_vRI_I 12 f_Mo_isRefused else bif Nat.beq i 2 then zA_vRI_I 12 f_Mo_doubledMany else fun _ _ _ => none
def zc_Mo_reversible : Nat → Bool := fun pc => false
set_option maxRecDepth 100000 in
theorem r_Mo_reversible (a0 : Nat) (a1 : Int32) (S : zM) : f_Mo_reversible a0 a1 S = zrt false zP_Mo_reversible (zE_Mo_reversible (Int32 × zM)) zc_Mo_reversible zkI (fun pc lv st S => none) 1000 0 [some (.ref a0), some (.int a1)] [] S := rfl
theorem G_Mo_reversible {g : zV → Nat → List Value → zM → Prop} {res : (Int32 × zM)} (H : zCl false zP_Mo_reversible (zE_Mo_reversible (Int32 × zM)) zkI res g) (Hw : zWk g) (a0 : Nat) (a1 : Int32) (S : zM) (h : f_Mo_reversible a0 a1 S = some res) : g [some (.ref a0), some (.int a1)] 0 [] S := by
  refine H zc_Mo_reversible _ 1000 _ _ _ _ ((r_Mo_reversible a0 a1 S).symm.trans h) (fun pc lv st S hK => ?_)
  cases hK
set_option maxRecDepth 100000 in
theorem ok_Mo_reversible : zokT 12 [213, 214, 236] false 9 219 2 false (some .int) cX12_reversible zP_Mo_reversible = true := by decide +kernel
set_option maxRecDepth 100000 in
theorem s_Mo_reversible {l : Launch} {HB : Heap} {b L : Nat} {xs : Nat → Int32} {aK aV : Nat → Nat} {G : va_G} {tc : Nat → ClassId} (h0 : zSnd l HB b L xs aK aV G tc (zMT.getD 213 zyD) (fun α => zA_vRII_I 12 f_Mo_wordsWhy)) (h1 : zSnd l HB b L xs aK aV G tc (zMT.getD 214 zyD) (fun α => zA_vRI_I 12 f_Mo_isRefused)) (h2 : zSnd l HB b L xs aK aV G tc (zMT.getD 236 zyD) (fun α => zA_vRI_I 12 f_Mo_doubledMany)) : zSnd l HB b L xs aK aV G tc (zMT.getD 237 zyD) (fun α => zA_vRI_I 12 f_Mo_reversible) := by
  rw [show zMT.getD 237 zyD = (yX12_reversible, cX12_reversible, 2, (some .int), 0, 2, 9, 219) from rfl]
  intro α as S k res h
  unfold zA_vRI_I at h
  dsimp only at h
  split at h
  · rename_i a0 a1
    obtain ⟨p, hp, h⟩ := zbind h
    unfold zcl at hp
    split at hp
    · rename_i hkd
      have hm := zmeth (l := l) (HB := HB) (b := b) (L := L) (xs := xs) (aK := aK) (aV := aV) (G := G) (tc := tc) (q := (yX12_reversible, cX12_reversible, 2, (some .int), 0, 2, 9, 219)) (o := 12) (cs := [213, 214, 236]) (rz := false) (T := zP_Mo_reversible) (E := zE_Mo_reversible (Int32 × zM)) (kr := zkI) (res := p) (v0 := some (.int p.1)) (S0 := p.2) (as := [.ref a0, .int a1]) (S := S) zMT_fine (by decide +kernel) (fun i as S k' h => by
        unfold zE_Mo_reversible at h
        rcases zdisf h with ⟨rfl, h⟩ | h
        · exact h0 _ _ _ _ _ h
        rcases zdisf h with ⟨rfl, h⟩ | h
        · exact h1 _ _ _ _ _ h
        rcases zdisf h with ⟨rfl, h⟩ | h
        · exact h2 _ _ _ _ _ h
        cases h) ok_Mo_reversible rfl (fun v S' h => zkI_inv h) (Nat.le_of_ble_eq_true rfl) (fun g H Hw => Hw _ [some (.ref a0), some (.int a1)] _ _ _ ⟨rfl, rfl, trivial⟩ (G_Mo_reversible H Hw a0 a1 S hp))
      exact ⟨_, _, h, hm.1, rfl, fun _ => ⟨_, _, rfl⟩, (fun _ U H hK hH a r e => by cases e; exact zrecv (ci := 12) (by omega) hkd rfl U H hK hH), hm.2⟩
    · cases hp
  · cases h
def zP_Census_firstAlike : List (List (Nat × zE)) := [[(0, e1 (.iload_n 1) 1 1), (1, e1 (.ifCond .lt 10) 4 11), (4, e1 (.iload_n 1) 5 1), (5, ei (.sipush 1364) 8 0 (1364)), (8, e1 (.if_icmp .lt 7) 11 15), (11, ei (.iconst (-1)) 12 0 (-1)), (12, e1 (.goto 9) 15 21), (15, e1 (.aload_n 0) 16 0)],
  [(16, e3 (.getfield 44) 19 2 6 2), (19, e1 (.iload_n 1) 20 1), (20, e0 (.iaload) 21), (21, e0 (.ireturn) 22)]]
noncomputable def zE_Census_firstAlike (α : Type) : Nat → zX α := fun _ => fun _ _ _ => none
def zc_Census_firstAlike : Nat → Bool := fun pc => false
set_option maxRecDepth 100000 in
theorem r_Census_firstAlike (a0 : Nat) (a1 : Int32) (S : zM) : f_Census_firstAlike a0 a1 S = zrt false zP_Census_firstAlike (zE_Census_firstAlike (Int32 × zM)) zc_Census_firstAlike zkI (fun pc lv st S => none) 1000 0 [some (.ref a0), some (.int a1)] [] S := rfl
theorem G_Census_firstAlike {g : zV → Nat → List Value → zM → Prop} {res : (Int32 × zM)} (H : zCl false zP_Census_firstAlike (zE_Census_firstAlike (Int32 × zM)) zkI res g) (Hw : zWk g) (a0 : Nat) (a1 : Int32) (S : zM) (h : f_Census_firstAlike a0 a1 S = some res) : g [some (.ref a0), some (.int a1)] 0 [] S := by
  refine H zc_Census_firstAlike _ 1000 _ _ _ _ ((r_Census_firstAlike a0 a1 S).symm.trans h) (fun pc lv st S hK => ?_)
  cases hK
set_option maxRecDepth 100000 in
theorem ok_Census_firstAlike : zokT 2 [] false 0 0 2 false (some .int) cX2_firstAlike zP_Census_firstAlike = true := by decide +kernel
set_option maxRecDepth 100000 in
theorem s_Census_firstAlike {l : Launch} {HB : Heap} {b L : Nat} {xs : Nat → Int32} {aK aV : Nat → Nat} {G : va_G} {tc : Nat → ClassId} : zSnd l HB b L xs aK aV G tc (zMT.getD 238 zyD) (fun α => zA_vRI_I 2 f_Census_firstAlike) := by
  rw [show zMT.getD 238 zyD = (yX2_firstAlike, cX2_firstAlike, 2, (some .int), 0, 2, 0, 0) from rfl]
  intro α as S k res h
  unfold zA_vRI_I at h
  dsimp only at h
  split at h
  · rename_i a0 a1
    obtain ⟨p, hp, h⟩ := zbind h
    unfold zcl at hp
    split at hp
    · rename_i hkd
      have hm := zmeth (l := l) (HB := HB) (b := b) (L := L) (xs := xs) (aK := aK) (aV := aV) (G := G) (tc := tc) (q := (yX2_firstAlike, cX2_firstAlike, 2, (some .int), 0, 2, 0, 0)) (o := 2) (cs := []) (rz := false) (T := zP_Census_firstAlike) (E := zE_Census_firstAlike (Int32 × zM)) (kr := zkI) (res := p) (v0 := some (.int p.1)) (S0 := p.2) (as := [.ref a0, .int a1]) (S := S) zMT_fine (by decide +kernel) (fun i as S k' h => by
        unfold zE_Census_firstAlike at h
        cases h) ok_Census_firstAlike rfl (fun v S' h => zkI_inv h) (Nat.le_of_ble_eq_true rfl) (fun g H Hw => Hw _ [some (.ref a0), some (.int a1)] _ _ _ ⟨rfl, rfl, trivial⟩ (G_Census_firstAlike H Hw a0 a1 S hp))
      exact ⟨_, _, h, hm.1, rfl, fun _ => ⟨_, _, rfl⟩, (fun _ U H hK hH a r e => by cases e; exact zrecv (ci := 2) (by omega) hkd rfl U H hK hH), hm.2⟩
    · cases hp
  · cases h
def zP_Cl_answerWord : List (List (Nat × zE)) := [[(0, e1 (.aload_n 0) 1 0), (1, ei (.iconst 0) 2 0 (0)), (2, e3 (.putfield 112) 5 11 16 0), (5, e1 (.aload_n 1) 6 1), (6, e1 (.iload_n 2) 7 2), (7, e3 (.invokevirtual 365) 10 0 2 0), (10, e0 (.lreturn) 11)]]
noncomputable def zE_Cl_answerWord (α : Type) : Nat → zX α := fun i => bif Nat.beq i 0 then zA_vRI_J 2 f_Census_spelled else fun _ _ _ => none
def zc_Cl_answerWord : Nat → Bool := fun pc => false
set_option maxRecDepth 100000 in
theorem r_Cl_answerWord (a0 : Nat) (a1 : Nat) (a2 : Int32) (S : zM) : f_Cl_answerWord a0 a1 a2 S = zrt false zP_Cl_answerWord (zE_Cl_answerWord (Int64 × zM)) zc_Cl_answerWord zkJ (fun pc lv st S => none) 1000 0 [some (.ref a0), some (.ref a1), some (.int a2)] [] S := rfl
theorem G_Cl_answerWord {g : zV → Nat → List Value → zM → Prop} {res : (Int64 × zM)} (H : zCl false zP_Cl_answerWord (zE_Cl_answerWord (Int64 × zM)) zkJ res g) (Hw : zWk g) (a0 : Nat) (a1 : Nat) (a2 : Int32) (S : zM) (h : f_Cl_answerWord a0 a1 a2 S = some res) : g [some (.ref a0), some (.ref a1), some (.int a2)] 0 [] S := by
  refine H zc_Cl_answerWord _ 1000 _ _ _ _ ((r_Cl_answerWord a0 a1 a2 S).symm.trans h) (fun pc lv st S hK => ?_)
  cases hK
set_option maxRecDepth 100000 in
theorem ok_Cl_answerWord : zokT 11 [220] false 1 25 3 false (some .long) cX11_answerWord zP_Cl_answerWord = true := by decide +kernel
set_option maxRecDepth 100000 in
theorem s_Cl_answerWord {l : Launch} {HB : Heap} {b L : Nat} {xs : Nat → Int32} {aK aV : Nat → Nat} {G : va_G} {tc : Nat → ClassId} (h0 : zSnd l HB b L xs aK aV G tc (zMT.getD 220 zyD) (fun α => zA_vRI_J 2 f_Census_spelled)) : zSnd l HB b L xs aK aV G tc (zMT.getD 239 zyD) (fun α => zA_vRRI_J 11 f_Cl_answerWord) := by
  rw [show zMT.getD 239 zyD = (yX11_answerWord, cX11_answerWord, 3, (some .long), 0, 3, 1, 25) from rfl]
  intro α as S k res h
  unfold zA_vRRI_J at h
  dsimp only at h
  split at h
  · rename_i a0 a1 a2
    obtain ⟨p, hp, h⟩ := zbind h
    unfold zcl at hp
    split at hp
    · rename_i hkd
      have hm := zmeth (l := l) (HB := HB) (b := b) (L := L) (xs := xs) (aK := aK) (aV := aV) (G := G) (tc := tc) (q := (yX11_answerWord, cX11_answerWord, 3, (some .long), 0, 3, 1, 25)) (o := 11) (cs := [220]) (rz := false) (T := zP_Cl_answerWord) (E := zE_Cl_answerWord (Int64 × zM)) (kr := zkJ) (res := p) (v0 := some (.long p.1)) (S0 := p.2) (as := [.ref a0, .ref a1, .int a2]) (S := S) zMT_fine (by decide +kernel) (fun i as S k' h => by
        unfold zE_Cl_answerWord at h
        rcases zdisf h with ⟨rfl, h⟩ | h
        · exact h0 _ _ _ _ _ h
        cases h) ok_Cl_answerWord rfl (fun v S' h => zkJ_inv h) (Nat.le_of_ble_eq_true rfl) (fun g H Hw => Hw _ [some (.ref a0), some (.ref a1), some (.int a2)] _ _ _ ⟨rfl, rfl, rfl, trivial⟩ (G_Cl_answerWord H Hw a0 a1 a2 S hp))
      exact ⟨_, _, h, hm.1, rfl, fun _ => ⟨_, _, rfl⟩, (fun _ U H hK hH a r e => by cases e; exact zrecv (ci := 11) (by omega) hkd rfl U H hK hH), hm.2⟩
    · cases hp
  · cases h
def zP_Cl_failing : List (List (Nat × zE)) := [[(0, e1 (.aload_n 0) 1 0), (1, e1 (.iload_n 1) 2 1), (2, e1 (.iload_n 2) 3 2), (3, e1 (.ifCond .eq 8) 6 11), (6, e1 (.iload_n 2) 7 2), (7, ei (.iconst 1) 8 0 (1)), (8, e1 (.if_icmp .ne 7) 11 15), (11, ei (.iconst 1) 12 0 (1)), (12, e1 (.goto 4) 15 16), (15, ei (.iconst 0) 16 0 (0))],
  [(16, e3 (.invokevirtual 258) 19 0 3 0), (19, e1 (.istore_n 3) 20 3), (20, e1 (.iload_n 3) 21 3), (21, e1 (.ifCond .eq 10) 24 31), (24, e1 (.aload_n 0) 25 0), (25, e1 (.iload_n 3) 26 3), (26, e3 (.invokevirtual 79) 29 1 2 0), (29, e0 (.i2l) 30), (30, e0 (.lreturn) 31), (31, e1 (.aload_n 0) 32 0)],
  [(32, e1 (.iload_n 1) 33 1), (33, e3 (.invokevirtual 265) 36 2 2 0), (36, e1 (.astore 4) 38 4), (38, e1 (.aload 4) 40 4), (40, e1 (.iload_n 1) 41 1), (41, e3 (.invokevirtual 269) 44 3 2 0), (44, e1 (.istore 5) 46 5), (46, e1 (.iload 5) 48 5)],
  [(48, ei (.iconst (-1)) 49 0 (-1)), (49, e1 (.if_icmp .ne 10) 52 59), (52, e1 (.aload_n 0) 53 0), (53, ei (.iconst 5) 54 0 (5)), (54, e3 (.invokevirtual 79) 57 1 2 0), (57, e0 (.i2l) 58), (58, e0 (.lreturn) 59), (59, e1 (.aload_n 0) 60 0), (60, e1 (.aload 4) 62 4), (62, e1 (.iload_n 2) 63 2), (63, e1 (.ifCond .ne 8) 66 71)],
  [(66, e1 (.iload 5) 68 5), (68, e1 (.goto 10) 71 78), (71, e1 (.aload 4) 73 4), (73, e1 (.iload 5) 75 5), (75, e3 (.invokevirtual 274) 78 4 2 0), (78, e3 (.invokevirtual 277) 81 5 3 0)],
  [(81, e0 (.lreturn) 82)]]
noncomputable def zE_Cl_failing (α : Type) : Nat → zX α := fun i => bif Nat.beq i 0 then zA_vRII_I 11 f_Cl_troubleUpTo else bif Nat.beq i 1 then zA_vRI_I 11 f_Cl_refuse else bif Nat.beq i 2 then zA_vRI_R 11 f_Cl_censusUpTo else bif Nat.beq i 3 then zA_vRI_I 2 f_Census_firstDoubled else bif Nat.beq i 4 then zA_vRI_I 2 f_Census_firstAlike else bif Nat.beq i 5 then zA_vRRI_J 11 f_Cl_answerWord else fun _ _ _ => none
def zc_Cl_failing : Nat → Bool := fun pc => false
set_option maxRecDepth 100000 in
theorem r_Cl_failing (a0 : Nat) (a1 : Int32) (a2 : Int32) (S : zM) : f_Cl_failing a0 a1 a2 S = zrt false zP_Cl_failing (zE_Cl_failing (Int64 × zM)) zc_Cl_failing zkJ (fun pc lv st S => none) 1000 0 [some (.ref a0), some (.int a1), some (.int a2), none, none, none] [] S := rfl
theorem G_Cl_failing {g : zV → Nat → List Value → zM → Prop} {res : (Int64 × zM)} (H : zCl false zP_Cl_failing (zE_Cl_failing (Int64 × zM)) zkJ res g) (Hw : zWk g) (a0 : Nat) (a1 : Int32) (a2 : Int32) (S : zM) (h : f_Cl_failing a0 a1 a2 S = some res) : g [some (.ref a0), some (.int a1), some (.int a2), none, none, none] 0 [] S := by
  refine H zc_Cl_failing _ 1000 _ _ _ _ ((r_Cl_failing a0 a1 a2 S).symm.trans h) (fun pc lv st S hK => ?_)
  cases hK
set_option maxRecDepth 100000 in
theorem ok_Cl_failing : zokT 11 [210, 16, 227, 228, 238, 239] false 7 212 6 false (some .long) cX11_failing zP_Cl_failing = true := by decide +kernel
set_option maxRecDepth 100000 in
theorem s_Cl_failing {l : Launch} {HB : Heap} {b L : Nat} {xs : Nat → Int32} {aK aV : Nat → Nat} {G : va_G} {tc : Nat → ClassId} (h0 : zSnd l HB b L xs aK aV G tc (zMT.getD 210 zyD) (fun α => zA_vRII_I 11 f_Cl_troubleUpTo)) (h1 : zSnd l HB b L xs aK aV G tc (zMT.getD 16 zyD) (fun α => zA_vRI_I 11 f_Cl_refuse)) (h2 : zSnd l HB b L xs aK aV G tc (zMT.getD 227 zyD) (fun α => zA_vRI_R 11 f_Cl_censusUpTo)) (h3 : zSnd l HB b L xs aK aV G tc (zMT.getD 228 zyD) (fun α => zA_vRI_I 2 f_Census_firstDoubled)) (h4 : zSnd l HB b L xs aK aV G tc (zMT.getD 238 zyD) (fun α => zA_vRI_I 2 f_Census_firstAlike)) (h5 : zSnd l HB b L xs aK aV G tc (zMT.getD 239 zyD) (fun α => zA_vRRI_J 11 f_Cl_answerWord)) : zSnd l HB b L xs aK aV G tc (zMT.getD 240 zyD) (fun α => zA_vRII_J 11 f_Cl_failing) := by
  rw [show zMT.getD 240 zyD = (yX11_failing, cX11_failing, 6, (some .long), 0, 3, 7, 212) from rfl]
  intro α as S k res h
  unfold zA_vRII_J at h
  dsimp only at h
  split at h
  · rename_i a0 a1 a2
    obtain ⟨p, hp, h⟩ := zbind h
    unfold zcl at hp
    split at hp
    · rename_i hkd
      have hm := zmeth (l := l) (HB := HB) (b := b) (L := L) (xs := xs) (aK := aK) (aV := aV) (G := G) (tc := tc) (q := (yX11_failing, cX11_failing, 6, (some .long), 0, 3, 7, 212)) (o := 11) (cs := [210, 16, 227, 228, 238, 239]) (rz := false) (T := zP_Cl_failing) (E := zE_Cl_failing (Int64 × zM)) (kr := zkJ) (res := p) (v0 := some (.long p.1)) (S0 := p.2) (as := [.ref a0, .int a1, .int a2]) (S := S) zMT_fine (by decide +kernel) (fun i as S k' h => by
        unfold zE_Cl_failing at h
        rcases zdisf h with ⟨rfl, h⟩ | h
        · exact h0 _ _ _ _ _ h
        rcases zdisf h with ⟨rfl, h⟩ | h
        · exact h1 _ _ _ _ _ h
        rcases zdisf h with ⟨rfl, h⟩ | h
        · exact h2 _ _ _ _ _ h
        rcases zdisf h with ⟨rfl, h⟩ | h
        · exact h3 _ _ _ _ _ h
        rcases zdisf h with ⟨rfl, h⟩ | h
        · exact h4 _ _ _ _ _ h
        rcases zdisf h with ⟨rfl, h⟩ | h
        · exact h5 _ _ _ _ _ h
        cases h) ok_Cl_failing rfl (fun v S' h => zkJ_inv h) (Nat.le_of_ble_eq_true rfl) (fun g H Hw => Hw _ [some (.ref a0), some (.int a1), some (.int a2), none, none, none] _ _ _ ⟨rfl, rfl, rfl, trivial⟩ (G_Cl_failing H Hw a0 a1 a2 S hp))
      exact ⟨_, _, h, hm.1, rfl, fun _ => ⟨_, _, rfl⟩, (fun _ U H hK hH a r e => by cases e; exact zrecv (ci := 11) (by omega) hkd rfl U H hK hH), hm.2⟩
    · cases hp
  · cases h
def zP_Mo_wordOf : List (List (Nat × zE)) := [[(0, e1 (.aload_n 0) 1 0), (1, e1 (.iload_n 1) 2 1), (2, e3 (.invokevirtual 426) 5 0 2 0), (5, ej (.lconst 0) 6 (0)), (6, e1 (.lstore_n 2) 7 2), (7, ei (.iconst 0) 8 0 (0)), (8, e1 (.istore 4) 10 4), (10, e1 (.iload 4) 12 4), (12, e1 (.aload_n 0) 13 0), (13, e3 (.getfield 358) 16 12 41 0)],
  [(16, e1 (.if_icmp .ge 28) 19 44), (19, ej (.ldc2_w 429) 22 (256)), (22, e1 (.lload_n 2) 23 2), (23, e0 (.lmul) 24), (24, ej (.ldc2_w 431) 27 (97)), (27, e0 (.ladd) 28), (28, e1 (.aload_n 0) 29 0), (29, e3 (.getfield 70) 32 12 40 2)],
  [(32, e1 (.iload 4) 34 4), (34, e0 (.iaload) 35), (35, e0 (.i2l) 36), (36, e0 (.ladd) 37), (37, e1 (.lstore_n 2) 38 2), (38, ei (.iinc 4 1) 41 4 (1)), (41, e1 (.goto (-31)) 44 10), (44, e1 (.lload_n 2) 45 2), (45, e0 (.lreturn) 46)]]
noncomputable def zE_Mo_wordOf (α : Type) : Nat → zX α := fun i => bif Nat.beq i 0 then zA_vRI_V 12 f_Mo_laysIndex else fun _ _ _ => none
def zc_Mo_wordOf : Nat → Bool := fun pc => Nat.beq pc 10
def D_Mo_wordOf_10 (k : Nat → Int64 → Int32 → zM → Option (Int64 × zM)) (lv : zV) (st : List Value) (S : zM) : Option (Int64 × zM) := match lv, st with
  | [some (.ref a0), _, some (.long a2), _, some (.int a4)], [] => k a0 a2 a4 S
  | _, _ => none
theorem d_Mo_wordOf_10 {g : zV → Nat → List Value → zM → Prop} (Hw : zWk g) {k : Nat → Int64 → Int32 → zM → Option (Int64 × zM)} {res : (Int64 × zM)} {lv : zV} {st : List Value} {S : zM} (h : D_Mo_wordOf_10 k lv st S = some res) (hk : ∀ a0 a2 a4 S, k a0 a2 a4 S = some res → g [some (.ref a0), none, some (.long a2), none, some (.int a4)] 10 [] S) : g lv 10 st S := by
  unfold D_Mo_wordOf_10 at h
  split at h
  · exact Hw _ _ _ _ _ (by simp [zle]) (hk _ _ _ _  h)
  · cases h
set_option maxRecDepth 100000 in
theorem r_Mo_wordOf_10 (n : Nat) (a0 : Nat) (a2 : Int64) (a4 : Int32) (S : zM) : L_Mo_wordOf_10 (n + 1) a0 a2 a4 S = zrt false zP_Mo_wordOf (zE_Mo_wordOf (Int64 × zM)) zc_Mo_wordOf zkJ (fun pc lv st S => bif Nat.beq pc 10 then D_Mo_wordOf_10 (L_Mo_wordOf_10 n) lv st S else none) 1000 10 [some (.ref a0), none, some (.long a2), none, some (.int a4)] [] S := rfl
theorem g_Mo_wordOf_10 {g : zV → Nat → List Value → zM → Prop} {res : (Int64 × zM)} (H : zCl false zP_Mo_wordOf (zE_Mo_wordOf (Int64 × zM)) zkJ res g) (Hw : zWk g) (n : Nat) : ∀ (a0 : Nat) (a2 : Int64) (a4 : Int32) (S : zM), L_Mo_wordOf_10 n a0 a2 a4 S = some res → g [some (.ref a0), none, some (.long a2), none, some (.int a4)] 10 [] S := by
  induction n with
  | zero => intro a0 a2 a4 S h; cases h
  | succ n ih =>
    intro a0 a2 a4 S h
    refine H zc_Mo_wordOf _ 1000 _ _ _ _ ((r_Mo_wordOf_10 n a0 a2 a4 S).symm.trans h) (fun pc lv st S hK => ?_)
    rcases zdis hK with ⟨rfl, hK⟩ | hK
    · exact d_Mo_wordOf_10 Hw hK ih
    cases hK
set_option maxRecDepth 100000 in
theorem r_Mo_wordOf (a0 : Nat) (a1 : Int32) (S : zM) : f_Mo_wordOf a0 a1 S = zrt false zP_Mo_wordOf (zE_Mo_wordOf (Int64 × zM)) zc_Mo_wordOf zkJ (fun pc lv st S => bif Nat.beq pc 10 then D_Mo_wordOf_10 (L_Mo_wordOf_10 zF) lv st S else none) 1000 0 [some (.ref a0), some (.int a1), none, none, none] [] S := rfl
theorem G_Mo_wordOf {g : zV → Nat → List Value → zM → Prop} {res : (Int64 × zM)} (H : zCl false zP_Mo_wordOf (zE_Mo_wordOf (Int64 × zM)) zkJ res g) (Hw : zWk g) (a0 : Nat) (a1 : Int32) (S : zM) (h : f_Mo_wordOf a0 a1 S = some res) : g [some (.ref a0), some (.int a1), none, none, none] 0 [] S := by
  refine H zc_Mo_wordOf _ 1000 _ _ _ _ ((r_Mo_wordOf a0 a1 S).symm.trans h) (fun pc lv st S hK => ?_)
  rcases zdis hK with ⟨rfl, hK⟩ | hK
  · exact d_Mo_wordOf_10 Hw hK (g_Mo_wordOf_10 H Hw  zF)
  cases hK
set_option maxRecDepth 100000 in
theorem ok_Mo_wordOf : zokT 12 [231] false 2 48 5 false (some .long) cX12_wordOf zP_Mo_wordOf = true := by decide +kernel
set_option maxRecDepth 100000 in
theorem s_Mo_wordOf {l : Launch} {HB : Heap} {b L : Nat} {xs : Nat → Int32} {aK aV : Nat → Nat} {G : va_G} {tc : Nat → ClassId} (h0 : zSnd l HB b L xs aK aV G tc (zMT.getD 231 zyD) (fun α => zA_vRI_V 12 f_Mo_laysIndex)) : zSnd l HB b L xs aK aV G tc (zMT.getD 241 zyD) (fun α => zA_vRI_J 12 f_Mo_wordOf) := by
  rw [show zMT.getD 241 zyD = (yX12_wordOf, cX12_wordOf, 5, (some .long), 0, 2, 2, 48) from rfl]
  intro α as S k res h
  unfold zA_vRI_J at h
  dsimp only at h
  split at h
  · rename_i a0 a1
    obtain ⟨p, hp, h⟩ := zbind h
    unfold zcl at hp
    split at hp
    · rename_i hkd
      have hm := zmeth (l := l) (HB := HB) (b := b) (L := L) (xs := xs) (aK := aK) (aV := aV) (G := G) (tc := tc) (q := (yX12_wordOf, cX12_wordOf, 5, (some .long), 0, 2, 2, 48)) (o := 12) (cs := [231]) (rz := false) (T := zP_Mo_wordOf) (E := zE_Mo_wordOf (Int64 × zM)) (kr := zkJ) (res := p) (v0 := some (.long p.1)) (S0 := p.2) (as := [.ref a0, .int a1]) (S := S) zMT_fine (by decide +kernel) (fun i as S k' h => by
        unfold zE_Mo_wordOf at h
        rcases zdisf h with ⟨rfl, h⟩ | h
        · exact h0 _ _ _ _ _ h
        cases h) ok_Mo_wordOf rfl (fun v S' h => zkJ_inv h) (Nat.le_of_ble_eq_true rfl) (fun g H Hw => Hw _ [some (.ref a0), some (.int a1), none, none, none] _ _ _ ⟨rfl, rfl, trivial⟩ (G_Mo_wordOf H Hw a0 a1 S hp))
      exact ⟨_, _, h, hm.1, rfl, fun _ => ⟨_, _, rfl⟩, (fun _ U H hK hH a r e => by cases e; exact zrecv (ci := 12) (by omega) hkd rfl U H hK hH), hm.2⟩
    · cases hp
  · cases h
