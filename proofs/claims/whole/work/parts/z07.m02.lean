def zP_Mo_script : List (List (Nat × zE)) := [[(0, e1 (.aload_n 0) 1 0), (1, e3 (.invokevirtual 272) 4 0 1 0), (4, e1 (.iload_n 1) 5 1), (5, ei (.iconst 0) 6 0 (0)), (6, e1 (.aload_n 0) 7 0), (7, e3 (.getfield 133) 10 12 5 0), (10, e3 (.invokestatic 156) 13 1 3 0), (13, e1 (.ifCond .ne 9) 16 22)],
  [(16, e1 (.aload_n 0) 17 0), (17, ei (.iconst 2) 18 0 (2)), (18, e3 (.invokevirtual 275) 21 2 2 0), (21, e0 (.ireturn) 22), (22, e1 (.aload_n 0) 23 0), (23, ei (.iconst 0) 24 0 (0)), (24, e3 (.putfield 133) 27 12 5 0), (27, e1 (.aload_n 0) 28 0), (28, ei (.iconst 0) 29 0 (0)), (29, e3 (.putfield 278) 32 12 2 0)],
  [(32, e1 (.aload_n 0) 33 0), (33, e1 (.iload_n 1) 34 1), (34, e3 (.invokevirtual 281) 37 3 2 0), (37, e1 (.ifCond .ne 25) 40 62), (40, e1 (.aload_n 0) 41 0), (41, e1 (.aload_n 0) 42 0), (42, e3 (.getfield 173) 45 12 27 0), (45, e3 (.putfield 278) 48 12 2 0)],
  [(48, e1 (.aload_n 0) 49 0), (49, e1 (.aload_n 0) 50 0), (50, e3 (.getfield 176) 53 12 28 0), (53, e3 (.putfield 9) 56 12 3 0), (56, e1 (.aload_n 0) 57 0), (57, ei (.iconst 4) 58 0 (4)), (58, e3 (.invokevirtual 275) 61 2 2 0), (61, e0 (.ireturn) 62), (62, e1 (.aload_n 0) 63 0), (63, e1 (.aload_n 0) 64 0)],
  [(64, e3 (.getfield 225) 67 12 14 0), (67, e3 (.putfield 284) 70 12 6 0), (70, e1 (.aload_n 0) 71 0), (71, e1 (.aload_n 0) 72 0), (72, e3 (.getfield 218) 75 12 15 0), (75, e3 (.putfield 287) 78 12 7 0), (78, e1 (.aload_n 0) 79 0), (79, e1 (.aload_n 0) 80 0)],
  [(80, e3 (.getfield 244) 83 12 16 0), (83, e3 (.putfield 290) 86 12 8 0), (86, ei (.iconst 0) 87 0 (0)), (87, e1 (.istore_n 2) 88 2), (88, e1 (.iload_n 2) 89 2), (89, ei (.iconst 4) 90 0 (4)), (90, e1 (.if_icmp .ge 21) 93 111), (93, e1 (.aload_n 0) 94 0), (94, e3 (.getfield 17) 97 12 10 2)],
  [(97, e1 (.iload_n 2) 98 2), (98, e1 (.aload_n 0) 99 0), (99, e3 (.getfield 30) 102 12 17 2), (102, e1 (.iload_n 2) 103 2), (103, e0 (.iaload) 104), (104, e0 (.iastore) 105), (105, ei (.iinc 2 1) 108 2 (1)), (108, e1 (.goto (-20)) 111 88), (111, ei (.iconst 0) 112 0 (0))],
  [(112, e1 (.istore_n 2) 113 2), (113, e1 (.iload_n 2) 114 2), (114, ei (.iconst 3) 115 0 (3)), (115, e1 (.if_icmp .ge 45) 118 160), (118, e1 (.aload_n 0) 119 0), (119, e3 (.getfield 20) 122 12 11 2), (122, e1 (.iload_n 2) 123 2), (123, e1 (.iload_n 2) 124 2), (124, e1 (.aload_n 0) 125 0), (125, e3 (.getfield 290) 128 12 8 0)],
  [(128, e1 (.if_icmp .ge 12) 131 140), (131, e1 (.aload_n 0) 132 0), (132, e3 (.getfield 37) 135 12 19 2), (135, e1 (.iload_n 2) 136 2), (136, e0 (.iaload) 137), (137, e1 (.goto 4) 140 141), (140, ei (.iconst 0) 141 0 (0)), (141, e0 (.iastore) 142), (142, e1 (.aload_n 0) 143 0), (143, e3 (.getfield 23) 146 12 12 2)],
  [(146, e1 (.iload_n 2) 147 2), (147, e1 (.aload_n 0) 148 0), (148, e3 (.getfield 40) 151 12 20 2), (151, e1 (.iload_n 2) 152 2), (152, e0 (.baload) 153), (153, e0 (.bastore) 154), (154, ei (.iinc 2 1) 157 2 (1)), (157, e1 (.goto (-44)) 160 113)],
  [(160, ei (.iconst 0) 161 0 (0)), (161, e1 (.istore_n 2) 162 2), (162, e1 (.iload_n 2) 163 2), (163, ei (.sipush 264) 166 0 (264)), (166, e1 (.if_icmp .ge 21) 169 187), (169, e1 (.aload_n 0) 170 0), (170, e3 (.getfield 27) 173 12 13 2), (173, e1 (.iload_n 2) 174 2), (174, e1 (.aload_n 0) 175 0), (175, e3 (.getfield 43) 178 12 21 2)],
  [(178, e1 (.iload_n 2) 179 2), (179, e0 (.iaload) 180), (180, e0 (.iastore) 181), (181, ei (.iinc 2 1) 184 2 (1)), (184, e1 (.goto (-22)) 187 162), (187, ei (.iconst 0) 188 0 (0)), (188, e1 (.istore_n 2) 189 2), (189, e1 (.iload_n 2) 190 2), (190, ei (.bipush 24) 192 0 (24))],
  [(192, e1 (.if_icmp .ge 16) 195 208), (195, e1 (.aload_n 0) 196 0), (196, e3 (.getfield 67) 199 12 39 2), (199, e1 (.iload_n 2) 200 2), (200, ei (.iconst 0) 201 0 (0)), (201, e0 (.bastore) 202), (202, ei (.iinc 2 1) 205 2 (1)), (205, e1 (.goto (-16)) 208 189)],
  [(208, e1 (.aload_n 0) 209 0), (209, ei (.iconst 1) 210 0 (1)), (210, e3 (.putfield 293) 213 12 9 1), (213, e1 (.aload_n 0) 214 0), (214, ei (.iconst 0) 215 0 (0)), (215, e3 (.putfield 297) 218 12 48 1), (218, e1 (.aload_n 0) 219 0), (219, ei (.iconst 0) 220 0 (0)), (220, e3 (.putfield 300) 223 12 66 0), (223, e1 (.aload_n 0) 224 0)],
  [(224, e3 (.getfield 290) 227 12 8 0), (227, e0 (.ireturn) 228)]]
noncomputable def zE_Mo_script (α : Type) : Nat → zX α := fun i => bif Nat.beq i 0 then zA_vR_V 12 f_Mo_fresh else bif Nat.beq i 1 then zA_III_I f_Mo_in else bif Nat.beq i 2 then zA_vRI_I 12 f_Mo_no else bif Nat.beq i 3 then zA_vRI_I 12 f_Mo_readAll else fun _ _ _ => none
def zc_Mo_script : Nat → Bool := fun pc => Nat.beq pc 88 || Nat.beq pc 111 || Nat.beq pc 113 || Nat.beq pc 160 || Nat.beq pc 162 || Nat.beq pc 187 || Nat.beq pc 189
def D_Mo_script_88 (k : Nat → Int32 → zM → Option (Int32 × zM)) (lv : zV) (st : List Value) (S : zM) : Option (Int32 × zM) := match lv, st with
  | [some (.ref a0), _, some (.int a2)], [] => k a0 a2 S
  | _, _ => none
theorem d_Mo_script_88 {g : zV → Nat → List Value → zM → Prop} (Hw : zWk g) {k : Nat → Int32 → zM → Option (Int32 × zM)} {res : (Int32 × zM)} {lv : zV} {st : List Value} {S : zM} (h : D_Mo_script_88 k lv st S = some res) (hk : ∀ a0 a2 S, k a0 a2 S = some res → g [some (.ref a0), none, some (.int a2)] 88 [] S) : g lv 88 st S := by
  unfold D_Mo_script_88 at h
  split at h
  · exact Hw _ _ _ _ _ (by simp [zle]) (hk _ _ _  h)
  · cases h
def D_Mo_script_111 (k : Nat → zM → Option (Int32 × zM)) (lv : zV) (st : List Value) (S : zM) : Option (Int32 × zM) := match lv, st with
  | [some (.ref a0), _, _], [] => k a0 S
  | _, _ => none
theorem d_Mo_script_111 {g : zV → Nat → List Value → zM → Prop} (Hw : zWk g) {k : Nat → zM → Option (Int32 × zM)} {res : (Int32 × zM)} {lv : zV} {st : List Value} {S : zM} (h : D_Mo_script_111 k lv st S = some res) (hk : ∀ a0 S, k a0 S = some res → g [some (.ref a0), none, none] 111 [] S) : g lv 111 st S := by
  unfold D_Mo_script_111 at h
  split at h
  · exact Hw _ _ _ _ _ (by simp [zle]) (hk _ _  h)
  · cases h
def D_Mo_script_113 (k : Nat → Int32 → zM → Option (Int32 × zM)) (lv : zV) (st : List Value) (S : zM) : Option (Int32 × zM) := match lv, st with
  | [some (.ref a0), _, some (.int a2)], [] => k a0 a2 S
  | _, _ => none
theorem d_Mo_script_113 {g : zV → Nat → List Value → zM → Prop} (Hw : zWk g) {k : Nat → Int32 → zM → Option (Int32 × zM)} {res : (Int32 × zM)} {lv : zV} {st : List Value} {S : zM} (h : D_Mo_script_113 k lv st S = some res) (hk : ∀ a0 a2 S, k a0 a2 S = some res → g [some (.ref a0), none, some (.int a2)] 113 [] S) : g lv 113 st S := by
  unfold D_Mo_script_113 at h
  split at h
  · exact Hw _ _ _ _ _ (by simp [zle]) (hk _ _ _  h)
  · cases h
def D_Mo_script_160 (k : Nat → zM → Option (Int32 × zM)) (lv : zV) (st : List Value) (S : zM) : Option (Int32 × zM) := match lv, st with
  | [some (.ref a0), _, _], [] => k a0 S
  | _, _ => none
theorem d_Mo_script_160 {g : zV → Nat → List Value → zM → Prop} (Hw : zWk g) {k : Nat → zM → Option (Int32 × zM)} {res : (Int32 × zM)} {lv : zV} {st : List Value} {S : zM} (h : D_Mo_script_160 k lv st S = some res) (hk : ∀ a0 S, k a0 S = some res → g [some (.ref a0), none, none] 160 [] S) : g lv 160 st S := by
  unfold D_Mo_script_160 at h
  split at h
  · exact Hw _ _ _ _ _ (by simp [zle]) (hk _ _  h)
  · cases h
def D_Mo_script_162 (k : Nat → Int32 → zM → Option (Int32 × zM)) (lv : zV) (st : List Value) (S : zM) : Option (Int32 × zM) := match lv, st with
  | [some (.ref a0), _, some (.int a2)], [] => k a0 a2 S
  | _, _ => none
theorem d_Mo_script_162 {g : zV → Nat → List Value → zM → Prop} (Hw : zWk g) {k : Nat → Int32 → zM → Option (Int32 × zM)} {res : (Int32 × zM)} {lv : zV} {st : List Value} {S : zM} (h : D_Mo_script_162 k lv st S = some res) (hk : ∀ a0 a2 S, k a0 a2 S = some res → g [some (.ref a0), none, some (.int a2)] 162 [] S) : g lv 162 st S := by
  unfold D_Mo_script_162 at h
  split at h
  · exact Hw _ _ _ _ _ (by simp [zle]) (hk _ _ _  h)
  · cases h
def D_Mo_script_187 (k : Nat → zM → Option (Int32 × zM)) (lv : zV) (st : List Value) (S : zM) : Option (Int32 × zM) := match lv, st with
  | [some (.ref a0), _, _], [] => k a0 S
  | _, _ => none
theorem d_Mo_script_187 {g : zV → Nat → List Value → zM → Prop} (Hw : zWk g) {k : Nat → zM → Option (Int32 × zM)} {res : (Int32 × zM)} {lv : zV} {st : List Value} {S : zM} (h : D_Mo_script_187 k lv st S = some res) (hk : ∀ a0 S, k a0 S = some res → g [some (.ref a0), none, none] 187 [] S) : g lv 187 st S := by
  unfold D_Mo_script_187 at h
  split at h
  · exact Hw _ _ _ _ _ (by simp [zle]) (hk _ _  h)
  · cases h
def D_Mo_script_189 (k : Nat → Int32 → zM → Option (Int32 × zM)) (lv : zV) (st : List Value) (S : zM) : Option (Int32 × zM) := match lv, st with
  | [some (.ref a0), _, some (.int a2)], [] => k a0 a2 S
  | _, _ => none
theorem d_Mo_script_189 {g : zV → Nat → List Value → zM → Prop} (Hw : zWk g) {k : Nat → Int32 → zM → Option (Int32 × zM)} {res : (Int32 × zM)} {lv : zV} {st : List Value} {S : zM} (h : D_Mo_script_189 k lv st S = some res) (hk : ∀ a0 a2 S, k a0 a2 S = some res → g [some (.ref a0), none, some (.int a2)] 189 [] S) : g lv 189 st S := by
  unfold D_Mo_script_189 at h
  split at h
  · exact Hw _ _ _ _ _ (by simp [zle]) (hk _ _ _  h)
  · cases h
set_option maxRecDepth 100000 in
theorem r_Mo_script_189 (n : Nat) (a0 : Nat) (a2 : Int32) (S : zM) : L_Mo_script_189 (n + 1) a0 a2 S = zrt false zP_Mo_script (zE_Mo_script (Int32 × zM)) zc_Mo_script zkI (fun pc lv st S => bif Nat.beq pc 189 then D_Mo_script_189 (L_Mo_script_189 n) lv st S else none) 1000 189 [some (.ref a0), none, some (.int a2)] [] S := rfl
theorem g_Mo_script_189 {g : zV → Nat → List Value → zM → Prop} {res : (Int32 × zM)} (H : zCl false zP_Mo_script (zE_Mo_script (Int32 × zM)) zkI res g) (Hw : zWk g) (n : Nat) : ∀ (a0 : Nat) (a2 : Int32) (S : zM), L_Mo_script_189 n a0 a2 S = some res → g [some (.ref a0), none, some (.int a2)] 189 [] S := by
  induction n with
  | zero => intro a0 a2 S h; cases h
  | succ n ih =>
    intro a0 a2 S h
    refine H zc_Mo_script _ 1000 _ _ _ _ ((r_Mo_script_189 n a0 a2 S).symm.trans h) (fun pc lv st S hK => ?_)
    rcases zdis hK with ⟨rfl, hK⟩ | hK
    · exact d_Mo_script_189 Hw hK ih
    cases hK
set_option maxRecDepth 100000 in
theorem r_Mo_script_187 (k189 : Nat → Int32 → zM → Option (Int32 × zM)) (a0 : Nat) (S : zM) : F_Mo_script_187 k189 a0 S = zrt false zP_Mo_script (zE_Mo_script (Int32 × zM)) zc_Mo_script zkI (fun pc lv st S => bif Nat.beq pc 189 then D_Mo_script_189 k189 lv st S else none) 1000 187 [some (.ref a0), none, none] [] S := rfl
theorem g_Mo_script_187 {g : zV → Nat → List Value → zM → Prop} {res : (Int32 × zM)} (H : zCl false zP_Mo_script (zE_Mo_script (Int32 × zM)) zkI res g) (Hw : zWk g) {k189 : Nat → Int32 → zM → Option (Int32 × zM)} (hk189 : ∀ a0 a2 S, k189 a0 a2 S = some res → g [some (.ref a0), none, some (.int a2)] 189 [] S) (a0 : Nat) (S : zM) (h : F_Mo_script_187 k189 a0 S = some res) : g [some (.ref a0), none, none] 187 [] S := by
  refine H zc_Mo_script _ 1000 _ _ _ _ ((r_Mo_script_187 k189 a0 S).symm.trans h) (fun pc lv st S hK => ?_)
  rcases zdis hK with ⟨rfl, hK⟩ | hK
  · exact d_Mo_script_189 Hw hK hk189
  cases hK
set_option maxRecDepth 100000 in
theorem r_Mo_script_162 (k187 : Nat → zM → Option (Int32 × zM)) (n : Nat) (a0 : Nat) (a2 : Int32) (S : zM) : L_Mo_script_162 k187 (n + 1) a0 a2 S = zrt false zP_Mo_script (zE_Mo_script (Int32 × zM)) zc_Mo_script zkI (fun pc lv st S => bif Nat.beq pc 162 then D_Mo_script_162 (L_Mo_script_162 k187 n) lv st S else bif Nat.beq pc 187 then D_Mo_script_187 k187 lv st S else none) 1000 162 [some (.ref a0), none, some (.int a2)] [] S := rfl
theorem g_Mo_script_162 {g : zV → Nat → List Value → zM → Prop} {res : (Int32 × zM)} (H : zCl false zP_Mo_script (zE_Mo_script (Int32 × zM)) zkI res g) (Hw : zWk g) {k187 : Nat → zM → Option (Int32 × zM)} (hk187 : ∀ a0 S, k187 a0 S = some res → g [some (.ref a0), none, none] 187 [] S) (n : Nat) : ∀ (a0 : Nat) (a2 : Int32) (S : zM), L_Mo_script_162 k187 n a0 a2 S = some res → g [some (.ref a0), none, some (.int a2)] 162 [] S := by
  induction n with
  | zero => intro a0 a2 S h; cases h
  | succ n ih =>
    intro a0 a2 S h
    refine H zc_Mo_script _ 1000 _ _ _ _ ((r_Mo_script_162 k187 n a0 a2 S).symm.trans h) (fun pc lv st S hK => ?_)
    rcases zdis hK with ⟨rfl, hK⟩ | hK
    · exact d_Mo_script_162 Hw hK ih
    rcases zdis hK with ⟨rfl, hK⟩ | hK
    · exact d_Mo_script_187 Hw hK hk187
    cases hK
set_option maxRecDepth 100000 in
theorem r_Mo_script_160 (k162 : Nat → Int32 → zM → Option (Int32 × zM)) (a0 : Nat) (S : zM) : F_Mo_script_160 k162 a0 S = zrt false zP_Mo_script (zE_Mo_script (Int32 × zM)) zc_Mo_script zkI (fun pc lv st S => bif Nat.beq pc 162 then D_Mo_script_162 k162 lv st S else none) 1000 160 [some (.ref a0), none, none] [] S := rfl
theorem g_Mo_script_160 {g : zV → Nat → List Value → zM → Prop} {res : (Int32 × zM)} (H : zCl false zP_Mo_script (zE_Mo_script (Int32 × zM)) zkI res g) (Hw : zWk g) {k162 : Nat → Int32 → zM → Option (Int32 × zM)} (hk162 : ∀ a0 a2 S, k162 a0 a2 S = some res → g [some (.ref a0), none, some (.int a2)] 162 [] S) (a0 : Nat) (S : zM) (h : F_Mo_script_160 k162 a0 S = some res) : g [some (.ref a0), none, none] 160 [] S := by
  refine H zc_Mo_script _ 1000 _ _ _ _ ((r_Mo_script_160 k162 a0 S).symm.trans h) (fun pc lv st S hK => ?_)
  rcases zdis hK with ⟨rfl, hK⟩ | hK
  · exact d_Mo_script_162 Hw hK hk162
  cases hK
set_option maxRecDepth 100000 in
theorem r_Mo_script_113 (k160 : Nat → zM → Option (Int32 × zM)) (n : Nat) (a0 : Nat) (a2 : Int32) (S : zM) : L_Mo_script_113 k160 (n + 1) a0 a2 S = zrt false zP_Mo_script (zE_Mo_script (Int32 × zM)) zc_Mo_script zkI (fun pc lv st S => bif Nat.beq pc 113 then D_Mo_script_113 (L_Mo_script_113 k160 n) lv st S else bif Nat.beq pc 160 then D_Mo_script_160 k160 lv st S else none) 1000 113 [some (.ref a0), none, some (.int a2)] [] S := rfl
theorem g_Mo_script_113 {g : zV → Nat → List Value → zM → Prop} {res : (Int32 × zM)} (H : zCl false zP_Mo_script (zE_Mo_script (Int32 × zM)) zkI res g) (Hw : zWk g) {k160 : Nat → zM → Option (Int32 × zM)} (hk160 : ∀ a0 S, k160 a0 S = some res → g [some (.ref a0), none, none] 160 [] S) (n : Nat) : ∀ (a0 : Nat) (a2 : Int32) (S : zM), L_Mo_script_113 k160 n a0 a2 S = some res → g [some (.ref a0), none, some (.int a2)] 113 [] S := by
  induction n with
  | zero => intro a0 a2 S h; cases h
  | succ n ih =>
    intro a0 a2 S h
    refine H zc_Mo_script _ 1000 _ _ _ _ ((r_Mo_script_113 k160 n a0 a2 S).symm.trans h) (fun pc lv st S hK => ?_)
    rcases zdis hK with ⟨rfl, hK⟩ | hK
    · exact d_Mo_script_113 Hw hK ih
    rcases zdis hK with ⟨rfl, hK⟩ | hK
    · exact d_Mo_script_160 Hw hK hk160
    cases hK
set_option maxRecDepth 100000 in
theorem r_Mo_script_111 (k113 : Nat → Int32 → zM → Option (Int32 × zM)) (a0 : Nat) (S : zM) : F_Mo_script_111 k113 a0 S = zrt false zP_Mo_script (zE_Mo_script (Int32 × zM)) zc_Mo_script zkI (fun pc lv st S => bif Nat.beq pc 113 then D_Mo_script_113 k113 lv st S else none) 1000 111 [some (.ref a0), none, none] [] S := rfl
theorem g_Mo_script_111 {g : zV → Nat → List Value → zM → Prop} {res : (Int32 × zM)} (H : zCl false zP_Mo_script (zE_Mo_script (Int32 × zM)) zkI res g) (Hw : zWk g) {k113 : Nat → Int32 → zM → Option (Int32 × zM)} (hk113 : ∀ a0 a2 S, k113 a0 a2 S = some res → g [some (.ref a0), none, some (.int a2)] 113 [] S) (a0 : Nat) (S : zM) (h : F_Mo_script_111 k113 a0 S = some res) : g [some (.ref a0), none, none] 111 [] S := by
  refine H zc_Mo_script _ 1000 _ _ _ _ ((r_Mo_script_111 k113 a0 S).symm.trans h) (fun pc lv st S hK => ?_)
  rcases zdis hK with ⟨rfl, hK⟩ | hK
  · exact d_Mo_script_113 Hw hK hk113
  cases hK
set_option maxRecDepth 100000 in
theorem r_Mo_script_88 (k111 : Nat → zM → Option (Int32 × zM)) (n : Nat) (a0 : Nat) (a2 : Int32) (S : zM) : L_Mo_script_88 k111 (n + 1) a0 a2 S = zrt false zP_Mo_script (zE_Mo_script (Int32 × zM)) zc_Mo_script zkI (fun pc lv st S => bif Nat.beq pc 88 then D_Mo_script_88 (L_Mo_script_88 k111 n) lv st S else bif Nat.beq pc 111 then D_Mo_script_111 k111 lv st S else none) 1000 88 [some (.ref a0), none, some (.int a2)] [] S := rfl
theorem g_Mo_script_88 {g : zV → Nat → List Value → zM → Prop} {res : (Int32 × zM)} (H : zCl false zP_Mo_script (zE_Mo_script (Int32 × zM)) zkI res g) (Hw : zWk g) {k111 : Nat → zM → Option (Int32 × zM)} (hk111 : ∀ a0 S, k111 a0 S = some res → g [some (.ref a0), none, none] 111 [] S) (n : Nat) : ∀ (a0 : Nat) (a2 : Int32) (S : zM), L_Mo_script_88 k111 n a0 a2 S = some res → g [some (.ref a0), none, some (.int a2)] 88 [] S := by
  induction n with
  | zero => intro a0 a2 S h; cases h
  | succ n ih =>
    intro a0 a2 S h
    refine H zc_Mo_script _ 1000 _ _ _ _ ((r_Mo_script_88 k111 n a0 a2 S).symm.trans h) (fun pc lv st S hK => ?_)
    rcases zdis hK with ⟨rfl, hK⟩ | hK
    · exact d_Mo_script_88 Hw hK ih
    rcases zdis hK with ⟨rfl, hK⟩ | hK
    · exact d_Mo_script_111 Hw hK hk111
    cases hK
set_option maxRecDepth 100000 in
theorem r_Mo_script (a0 : Nat) (a1 : Int32) (S : zM) : f_Mo_script a0 a1 S = zrt false zP_Mo_script (zE_Mo_script (Int32 × zM)) zc_Mo_script zkI (fun pc lv st S => bif Nat.beq pc 88 then D_Mo_script_88 (L_Mo_script_88 (F_Mo_script_111 (L_Mo_script_113 (F_Mo_script_160 (L_Mo_script_162 (F_Mo_script_187 (L_Mo_script_189 zF)) zF)) zF)) zF) lv st S else none) 1000 0 [some (.ref a0), some (.int a1), none] [] S := rfl
theorem G_Mo_script {g : zV → Nat → List Value → zM → Prop} {res : (Int32 × zM)} (H : zCl false zP_Mo_script (zE_Mo_script (Int32 × zM)) zkI res g) (Hw : zWk g) (a0 : Nat) (a1 : Int32) (S : zM) (h : f_Mo_script a0 a1 S = some res) : g [some (.ref a0), some (.int a1), none] 0 [] S := by
  refine H zc_Mo_script _ 1000 _ _ _ _ ((r_Mo_script a0 a1 S).symm.trans h) (fun pc lv st S hK => ?_)
  rcases zdis hK with ⟨rfl, hK⟩ | hK
  · exact d_Mo_script_88 Hw hK (g_Mo_script_88 H Hw (g_Mo_script_111 H Hw (g_Mo_script_113 H Hw (g_Mo_script_160 H Hw (g_Mo_script_162 H Hw (g_Mo_script_187 H Hw (g_Mo_script_189 H Hw  zF)) zF)) zF)) zF)
  cases hK
set_option maxRecDepth 100000 in
theorem ok_Mo_script : zokT 12 [61, 62, 63, 81] false 11 278 3 false (some .int) cX12_script zP_Mo_script = true := by decide +kernel
set_option maxRecDepth 100000 in
theorem s_Mo_script {l : Launch} {HB : Heap} {b L : Nat} {xs : Nat → Int32} {aK aV : Nat → Nat} {G : va_G} {tc : Nat → ClassId} (h0 : zSnd l HB b L xs aK aV G tc (zMT.getD 61 zyD) (fun α => zA_vR_V 12 f_Mo_fresh)) (h1 : zSnd l HB b L xs aK aV G tc (zMT.getD 62 zyD) (fun α => zA_III_I f_Mo_in)) (h2 : zSnd l HB b L xs aK aV G tc (zMT.getD 63 zyD) (fun α => zA_vRI_I 12 f_Mo_no)) (h3 : zSnd l HB b L xs aK aV G tc (zMT.getD 81 zyD) (fun α => zA_vRI_I 12 f_Mo_readAll)) : zSnd l HB b L xs aK aV G tc (zMT.getD 82 zyD) (fun α => zA_vRI_I 12 f_Mo_script) := by
  rw [show zMT.getD 82 zyD = (yX12_script, cX12_script, 3, (some .int), 0, 2, 11, 278) from rfl]
  intro α as S k res h
  unfold zA_vRI_I at h
  dsimp only at h
  split at h
  · rename_i a0 a1
    obtain ⟨p, hp, h⟩ := zbind h
    unfold zcl at hp
    split at hp
    · rename_i hkd
      have hm := zmeth (l := l) (HB := HB) (b := b) (L := L) (xs := xs) (aK := aK) (aV := aV) (G := G) (tc := tc) (q := (yX12_script, cX12_script, 3, (some .int), 0, 2, 11, 278)) (o := 12) (cs := [61, 62, 63, 81]) (rz := false) (T := zP_Mo_script) (E := zE_Mo_script (Int32 × zM)) (kr := zkI) (res := p) (v0 := some (.int p.1)) (S0 := p.2) (as := [.ref a0, .int a1]) (S := S) zMT_fine (by decide +kernel) (fun i as S k' h => by
        unfold zE_Mo_script at h
        rcases zdisf h with ⟨rfl, h⟩ | h
        · exact h0 _ _ _ _ _ h
        rcases zdisf h with ⟨rfl, h⟩ | h
        · exact h1 _ _ _ _ _ h
        rcases zdisf h with ⟨rfl, h⟩ | h
        · exact h2 _ _ _ _ _ h
        rcases zdisf h with ⟨rfl, h⟩ | h
        · exact h3 _ _ _ _ _ h
        cases h) ok_Mo_script rfl (fun v S' h => zkI_inv h) (Nat.le_of_ble_eq_true rfl) (fun g H Hw => Hw _ [some (.ref a0), some (.int a1), none] _ _ _ ⟨rfl, rfl, trivial⟩ (G_Mo_script H Hw a0 a1 S hp))
      exact ⟨_, _, h, hm.1, rfl, fun _ => ⟨_, _, rfl⟩, (fun _ U H hK hH a r e => by cases e; exact zrecv (ci := 12) (by omega) hkd rfl U H hK hH), hm.2⟩
    · cases hp
  · cases h
def zP_Cl_fault : List (List (Nat × zE)) := [[(0, e1 (.aload_n 0) 1 0), (1, e3 (.getfield 87) 4 11 14 0), (4, e0 (.ireturn) 5)]]
noncomputable def zE_Cl_fault (α : Type) : Nat → zX α := fun _ => fun _ _ _ => none
def zc_Cl_fault : Nat → Bool := fun pc => false
set_option maxRecDepth 100000 in
theorem r_Cl_fault (a0 : Nat) (S : zM) : f_Cl_fault a0 S = zrt false zP_Cl_fault (zE_Cl_fault (Int32 × zM)) zc_Cl_fault zkI (fun pc lv st S => none) 1000 0 [some (.ref a0)] [] S := rfl
theorem G_Cl_fault {g : zV → Nat → List Value → zM → Prop} {res : (Int32 × zM)} (H : zCl false zP_Cl_fault (zE_Cl_fault (Int32 × zM)) zkI res g) (Hw : zWk g) (a0 : Nat) (S : zM) (h : f_Cl_fault a0 S = some res) : g [some (.ref a0)] 0 [] S := by
  refine H zc_Cl_fault _ 1000 _ _ _ _ ((r_Cl_fault a0 S).symm.trans h) (fun pc lv st S hK => ?_)
  cases hK
set_option maxRecDepth 100000 in
theorem ok_Cl_fault : zokT 11 [] false 0 0 1 false (some .int) cX11_fault zP_Cl_fault = true := by decide +kernel
set_option maxRecDepth 100000 in
theorem s_Cl_fault {l : Launch} {HB : Heap} {b L : Nat} {xs : Nat → Int32} {aK aV : Nat → Nat} {G : va_G} {tc : Nat → ClassId} : zSnd l HB b L xs aK aV G tc (zMT.getD 83 zyD) (fun α => zA_vR_I 11 f_Cl_fault) := by
  rw [show zMT.getD 83 zyD = (yX11_fault, cX11_fault, 1, (some .int), 0, 1, 0, 0) from rfl]
  intro α as S k res h
  unfold zA_vR_I at h
  dsimp only at h
  split at h
  · rename_i a0
    obtain ⟨p, hp, h⟩ := zbind h
    unfold zcl at hp
    split at hp
    · rename_i hkd
      have hm := zmeth (l := l) (HB := HB) (b := b) (L := L) (xs := xs) (aK := aK) (aV := aV) (G := G) (tc := tc) (q := (yX11_fault, cX11_fault, 1, (some .int), 0, 1, 0, 0)) (o := 11) (cs := []) (rz := false) (T := zP_Cl_fault) (E := zE_Cl_fault (Int32 × zM)) (kr := zkI) (res := p) (v0 := some (.int p.1)) (S0 := p.2) (as := [.ref a0]) (S := S) zMT_fine (by decide +kernel) (fun i as S k' h => by
        unfold zE_Cl_fault at h
        cases h) ok_Cl_fault rfl (fun v S' h => zkI_inv h) (Nat.le_of_ble_eq_true rfl) (fun g H Hw => Hw _ [some (.ref a0)] _ _ _ ⟨rfl, trivial⟩ (G_Cl_fault H Hw a0 S hp))
      exact ⟨_, _, h, hm.1, rfl, fun _ => ⟨_, _, rfl⟩, (fun _ U H hK hH a r e => by cases e; exact zrecv (ci := 11) (by omega) hkd rfl U H hK hH), hm.2⟩
    · cases hp
  · cases h
def zP_Mo_fault : List (List (Nat × zE)) := [[(0, e1 (.aload_n 0) 1 0), (1, ei (.iconst 0) 2 0 (0)), (2, e3 (.putfield 127) 5 12 0 0), (5, e1 (.aload_n 0) 6 0), (6, e3 (.getfield 278) 9 12 2 0), (9, e0 (.ireturn) 10)]]
noncomputable def zE_Mo_fault (α : Type) : Nat → zX α := fun _ => fun _ _ _ => none
def zc_Mo_fault : Nat → Bool := fun pc => false
set_option maxRecDepth 100000 in
theorem r_Mo_fault (a0 : Nat) (S : zM) : f_Mo_fault a0 S = zrt false zP_Mo_fault (zE_Mo_fault (Int32 × zM)) zc_Mo_fault zkI (fun pc lv st S => none) 1000 0 [some (.ref a0)] [] S := rfl
theorem G_Mo_fault {g : zV → Nat → List Value → zM → Prop} {res : (Int32 × zM)} (H : zCl false zP_Mo_fault (zE_Mo_fault (Int32 × zM)) zkI res g) (Hw : zWk g) (a0 : Nat) (S : zM) (h : f_Mo_fault a0 S = some res) : g [some (.ref a0)] 0 [] S := by
  refine H zc_Mo_fault _ 1000 _ _ _ _ ((r_Mo_fault a0 S).symm.trans h) (fun pc lv st S hK => ?_)
  cases hK
set_option maxRecDepth 100000 in
theorem ok_Mo_fault : zokT 12 [] false 0 0 1 false (some .int) cX12_fault zP_Mo_fault = true := by decide +kernel
set_option maxRecDepth 100000 in
theorem s_Mo_fault {l : Launch} {HB : Heap} {b L : Nat} {xs : Nat → Int32} {aK aV : Nat → Nat} {G : va_G} {tc : Nat → ClassId} : zSnd l HB b L xs aK aV G tc (zMT.getD 84 zyD) (fun α => zA_vR_I 12 f_Mo_fault) := by
  rw [show zMT.getD 84 zyD = (yX12_fault, cX12_fault, 1, (some .int), 0, 1, 0, 0) from rfl]
  intro α as S k res h
  unfold zA_vR_I at h
  dsimp only at h
  split at h
  · rename_i a0
    obtain ⟨p, hp, h⟩ := zbind h
    unfold zcl at hp
    split at hp
    · rename_i hkd
      have hm := zmeth (l := l) (HB := HB) (b := b) (L := L) (xs := xs) (aK := aK) (aV := aV) (G := G) (tc := tc) (q := (yX12_fault, cX12_fault, 1, (some .int), 0, 1, 0, 0)) (o := 12) (cs := []) (rz := false) (T := zP_Mo_fault) (E := zE_Mo_fault (Int32 × zM)) (kr := zkI) (res := p) (v0 := some (.int p.1)) (S0 := p.2) (as := [.ref a0]) (S := S) zMT_fine (by decide +kernel) (fun i as S k' h => by
        unfold zE_Mo_fault at h
        cases h) ok_Mo_fault rfl (fun v S' h => zkI_inv h) (Nat.le_of_ble_eq_true rfl) (fun g H Hw => Hw _ [some (.ref a0)] _ _ _ ⟨rfl, trivial⟩ (G_Mo_fault H Hw a0 S hp))
      exact ⟨_, _, h, hm.1, rfl, fun _ => ⟨_, _, rfl⟩, (fun _ U H hK hH a r e => by cases e; exact zrecv (ci := 12) (by omega) hkd rfl U H hK hH), hm.2⟩
    · cases hp
  · cases h
def zP_Cl_where : List (List (Nat × zE)) := [[(0, e1 (.aload_n 0) 1 0), (1, e3 (.getfield 112) 4 11 16 0), (4, ei (.iconst 4) 5 0 (4)), (5, e1 (.if_icmp .ne 10) 8 15), (8, e1 (.aload_n 0) 9 0), (9, e3 (.getfield 93) 12 11 15 0), (12, e1 (.goto 4) 15 16), (15, ei (.iconst (-1)) 16 0 (-1))],
  [(16, e0 (.ireturn) 17)]]
noncomputable def zE_Cl_where (α : Type) : Nat → zX α := fun _ => fun _ _ _ => none
def zc_Cl_where : Nat → Bool := fun pc => false
set_option maxRecDepth 100000 in
theorem r_Cl_where (a0 : Nat) (S : zM) : f_Cl_where a0 S = zrt false zP_Cl_where (zE_Cl_where (Int32 × zM)) zc_Cl_where zkI (fun pc lv st S => none) 1000 0 [some (.ref a0)] [] S := rfl
theorem G_Cl_where {g : zV → Nat → List Value → zM → Prop} {res : (Int32 × zM)} (H : zCl false zP_Cl_where (zE_Cl_where (Int32 × zM)) zkI res g) (Hw : zWk g) (a0 : Nat) (S : zM) (h : f_Cl_where a0 S = some res) : g [some (.ref a0)] 0 [] S := by
  refine H zc_Cl_where _ 1000 _ _ _ _ ((r_Cl_where a0 S).symm.trans h) (fun pc lv st S hK => ?_)
  cases hK
set_option maxRecDepth 100000 in
theorem ok_Cl_where : zokT 11 [] false 0 0 1 false (some .int) cX11_where zP_Cl_where = true := by decide +kernel
set_option maxRecDepth 100000 in
theorem s_Cl_where {l : Launch} {HB : Heap} {b L : Nat} {xs : Nat → Int32} {aK aV : Nat → Nat} {G : va_G} {tc : Nat → ClassId} : zSnd l HB b L xs aK aV G tc (zMT.getD 85 zyD) (fun α => zA_vR_I 11 f_Cl_where) := by
  rw [show zMT.getD 85 zyD = (yX11_where, cX11_where, 1, (some .int), 0, 1, 0, 0) from rfl]
  intro α as S k res h
  unfold zA_vR_I at h
  dsimp only at h
  split at h
  · rename_i a0
    obtain ⟨p, hp, h⟩ := zbind h
    unfold zcl at hp
    split at hp
    · rename_i hkd
      have hm := zmeth (l := l) (HB := HB) (b := b) (L := L) (xs := xs) (aK := aK) (aV := aV) (G := G) (tc := tc) (q := (yX11_where, cX11_where, 1, (some .int), 0, 1, 0, 0)) (o := 11) (cs := []) (rz := false) (T := zP_Cl_where) (E := zE_Cl_where (Int32 × zM)) (kr := zkI) (res := p) (v0 := some (.int p.1)) (S0 := p.2) (as := [.ref a0]) (S := S) zMT_fine (by decide +kernel) (fun i as S k' h => by
        unfold zE_Cl_where at h
        cases h) ok_Cl_where rfl (fun v S' h => zkI_inv h) (Nat.le_of_ble_eq_true rfl) (fun g H Hw => Hw _ [some (.ref a0)] _ _ _ ⟨rfl, trivial⟩ (G_Cl_where H Hw a0 S hp))
      exact ⟨_, _, h, hm.1, rfl, fun _ => ⟨_, _, rfl⟩, (fun _ U H hK hH a r e => by cases e; exact zrecv (ci := 11) (by omega) hkd rfl U H hK hH), hm.2⟩
    · cases hp
  · cases h
def zP_Mo_where : List (List (Nat × zE)) := [[(0, e1 (.aload_n 0) 1 0), (1, ei (.iconst 0) 2 0 (0)), (2, e3 (.putfield 127) 5 12 0 0), (5, e1 (.aload_n 0) 6 0), (6, e3 (.getfield 130) 9 12 1 0), (9, ei (.iconst 4) 10 0 (4)), (10, e1 (.if_icmp .ne 10) 13 20), (13, e1 (.aload_n 0) 14 0), (14, e3 (.getfield 9) 17 12 3 0)],
  [(17, e1 (.goto 4) 20 21), (20, ei (.iconst (-1)) 21 0 (-1)), (21, e0 (.ireturn) 22)]]
noncomputable def zE_Mo_where (α : Type) : Nat → zX α := fun _ => fun _ _ _ => none
def zc_Mo_where : Nat → Bool := fun pc => false
set_option maxRecDepth 100000 in
theorem r_Mo_where (a0 : Nat) (S : zM) : f_Mo_where a0 S = zrt false zP_Mo_where (zE_Mo_where (Int32 × zM)) zc_Mo_where zkI (fun pc lv st S => none) 1000 0 [some (.ref a0)] [] S := rfl
theorem G_Mo_where {g : zV → Nat → List Value → zM → Prop} {res : (Int32 × zM)} (H : zCl false zP_Mo_where (zE_Mo_where (Int32 × zM)) zkI res g) (Hw : zWk g) (a0 : Nat) (S : zM) (h : f_Mo_where a0 S = some res) : g [some (.ref a0)] 0 [] S := by
  refine H zc_Mo_where _ 1000 _ _ _ _ ((r_Mo_where a0 S).symm.trans h) (fun pc lv st S hK => ?_)
  cases hK
set_option maxRecDepth 100000 in
theorem ok_Mo_where : zokT 12 [] false 0 0 1 false (some .int) cX12_where zP_Mo_where = true := by decide +kernel
set_option maxRecDepth 100000 in
theorem s_Mo_where {l : Launch} {HB : Heap} {b L : Nat} {xs : Nat → Int32} {aK aV : Nat → Nat} {G : va_G} {tc : Nat → ClassId} : zSnd l HB b L xs aK aV G tc (zMT.getD 86 zyD) (fun α => zA_vR_I 12 f_Mo_where) := by
  rw [show zMT.getD 86 zyD = (yX12_where, cX12_where, 1, (some .int), 0, 1, 0, 0) from rfl]
  intro α as S k res h
  unfold zA_vR_I at h
  dsimp only at h
  split at h
  · rename_i a0
    obtain ⟨p, hp, h⟩ := zbind h
    unfold zcl at hp
    split at hp
    · rename_i hkd
      have hm := zmeth (l := l) (HB := HB) (b := b) (L := L) (xs := xs) (aK := aK) (aV := aV) (G := G) (tc := tc) (q := (yX12_where, cX12_where, 1, (some .int), 0, 1, 0, 0)) (o := 12) (cs := []) (rz := false) (T := zP_Mo_where) (E := zE_Mo_where (Int32 × zM)) (kr := zkI) (res := p) (v0 := some (.int p.1)) (S0 := p.2) (as := [.ref a0]) (S := S) zMT_fine (by decide +kernel) (fun i as S k' h => by
        unfold zE_Mo_where at h
        cases h) ok_Mo_where rfl (fun v S' h => zkI_inv h) (Nat.le_of_ble_eq_true rfl) (fun g H Hw => Hw _ [some (.ref a0)] _ _ _ ⟨rfl, trivial⟩ (G_Mo_where H Hw a0 S hp))
      exact ⟨_, _, h, hm.1, rfl, fun _ => ⟨_, _, rfl⟩, (fun _ U H hK hH a r e => by cases e; exact zrecv (ci := 12) (by omega) hkd rfl U H hK hH), hm.2⟩
    · cases hp
  · cases h
def zP_Cl_noScript : List (List (Nat × zE)) := [[(0, e1 (.aload_n 0) 1 0), (1, e3 (.getfield 65) 4 11 10 2), (4, e3 (.getfield 106) 7 10 5 0), (7, e1 (.ifCond .ne 7) 10 14), (10, ei (.iconst 1) 11 0 (1)), (11, e1 (.goto 4) 14 15), (14, ei (.iconst 0) 15 0 (0)), (15, e0 (.ireturn) 16)]]
noncomputable def zE_Cl_noScript (α : Type) : Nat → zX α := fun _ => fun _ _ _ => none
def zc_Cl_noScript : Nat → Bool := fun pc => false
set_option maxRecDepth 100000 in
theorem r_Cl_noScript (a0 : Nat) (S : zM) : f_Cl_noScript a0 S = zrt true zP_Cl_noScript (zE_Cl_noScript (Int32 × zM)) zc_Cl_noScript zkI (fun pc lv st S => none) 1000 0 [some (.ref a0)] [] S := rfl
theorem G_Cl_noScript {g : zV → Nat → List Value → zM → Prop} {res : (Int32 × zM)} (H : zCl true zP_Cl_noScript (zE_Cl_noScript (Int32 × zM)) zkI res g) (Hw : zWk g) (a0 : Nat) (S : zM) (h : f_Cl_noScript a0 S = some res) : g [some (.ref a0)] 0 [] S := by
  refine H zc_Cl_noScript _ 1000 _ _ _ _ ((r_Cl_noScript a0 S).symm.trans h) (fun pc lv st S hK => ?_)
  cases hK
set_option maxRecDepth 100000 in
theorem ok_Cl_noScript : zokT 11 [] false 0 0 1 true (some .boolean) cX11_noScript zP_Cl_noScript = true := by decide +kernel
set_option maxRecDepth 100000 in
theorem s_Cl_noScript {l : Launch} {HB : Heap} {b L : Nat} {xs : Nat → Int32} {aK aV : Nat → Nat} {G : va_G} {tc : Nat → ClassId} : zSnd l HB b L xs aK aV G tc (zMT.getD 87 zyD) (fun α => zA_vR_I 11 f_Cl_noScript) := by
  rw [show zMT.getD 87 zyD = (yX11_noScript, cX11_noScript, 1, (some .boolean), 0, 1, 0, 0) from rfl]
  intro α as S k res h
  unfold zA_vR_I at h
  dsimp only at h
  split at h
  · rename_i a0
    obtain ⟨p, hp, h⟩ := zbind h
    unfold zcl at hp
    split at hp
    · rename_i hkd
      have hm := zmeth (l := l) (HB := HB) (b := b) (L := L) (xs := xs) (aK := aK) (aV := aV) (G := G) (tc := tc) (q := (yX11_noScript, cX11_noScript, 1, (some .boolean), 0, 1, 0, 0)) (o := 11) (cs := []) (rz := true) (T := zP_Cl_noScript) (E := zE_Cl_noScript (Int32 × zM)) (kr := zkI) (res := p) (v0 := some (.int p.1)) (S0 := p.2) (as := [.ref a0]) (S := S) zMT_fine (by decide +kernel) (fun i as S k' h => by
        unfold zE_Cl_noScript at h
        cases h) ok_Cl_noScript rfl (fun v S' h => zkI_inv h) (Nat.le_of_ble_eq_true rfl) (fun g H Hw => Hw _ [some (.ref a0)] _ _ _ ⟨rfl, trivial⟩ (G_Cl_noScript H Hw a0 S hp))
      exact ⟨_, _, h, hm.1, rfl, fun _ => ⟨_, _, rfl⟩, (fun _ U H hK hH a r e => by cases e; exact zrecv (ci := 11) (by omega) hkd rfl U H hK hH), hm.2⟩
    · cases hp
  · cases h
def zP_Cl_about : List (List (Nat × zE)) := [[(0, e1 (.aload_n 0) 1 0), (1, e3 (.invokevirtual 115) 4 0 1 0), (4, e1 (.ifCond .eq 9) 7 13), (7, e1 (.aload_n 0) 8 0), (8, ei (.iconst 1) 9 0 (1)), (9, e3 (.invokevirtual 79) 12 1 2 0), (12, e0 (.ireturn) 13), (13, e1 (.iload_n 1) 14 1), (14, et (.tableswitch 78 0 3 #[30, 42, 54, 66]) 92 [(0, 44), (1, 56), (2, 68), (3, 80)])],
  [],
  [(44, e1 (.aload_n 0) 45 0), (45, e1 (.aload_n 0) 46 0), (46, e3 (.getfield 65) 49 11 10 2)],
  [(49, e3 (.getfield 119) 52 10 3 0), (52, e3 (.invokevirtual 109) 55 2 2 0), (55, e0 (.ireturn) 56), (56, e1 (.aload_n 0) 57 0), (57, e1 (.aload_n 0) 58 0), (58, e3 (.getfield 65) 61 11 10 2), (61, e3 (.getfield 122) 64 10 4 0)],
  [(64, e3 (.invokevirtual 109) 67 2 2 0), (67, e0 (.ireturn) 68), (68, e1 (.aload_n 0) 69 0), (69, e1 (.aload_n 0) 70 0), (70, e3 (.getfield 65) 73 11 10 2), (73, e3 (.getfield 106) 76 10 5 0), (76, e3 (.invokevirtual 109) 79 2 2 0), (79, e0 (.ireturn) 80)],
  [(80, e1 (.aload_n 0) 81 0), (81, e1 (.aload_n 0) 82 0), (82, e3 (.getfield 65) 85 11 10 2), (85, e3 (.invokevirtual 125) 88 3 1 0), (88, e3 (.invokevirtual 109) 91 2 2 0), (91, e0 (.ireturn) 92), (92, e1 (.aload_n 0) 93 0), (93, ei (.iconst 1) 94 0 (1)), (94, e3 (.invokevirtual 79) 97 1 2 0)],
  [(97, e0 (.ireturn) 98)]]
noncomputable def zE_Cl_about (α : Type) : Nat → zX α := fun i => bif Nat.beq i 0 then zA_vR_I 11 f_Cl_noScript else bif Nat.beq i 1 then zA_vRI_I 11 f_Cl_refuse else bif Nat.beq i 2 then zA_vRI_I 11 f_Cl_answer else bif Nat.beq i 3 then zA_vR_I 10 f_Script_ruleCount else fun _ _ _ => none
def zc_Cl_about : Nat → Bool := fun pc => false
set_option maxRecDepth 100000 in
theorem r_Cl_about (a0 : Nat) (a1 : Int32) (S : zM) : f_Cl_about a0 a1 S = zrt false zP_Cl_about (zE_Cl_about (Int32 × zM)) zc_Cl_about zkI (fun pc lv st S => none) 1000 0 [some (.ref a0), some (.int a1)] [] S := rfl
theorem G_Cl_about {g : zV → Nat → List Value → zM → Prop} {res : (Int32 × zM)} (H : zCl false zP_Cl_about (zE_Cl_about (Int32 × zM)) zkI res g) (Hw : zWk g) (a0 : Nat) (a1 : Int32) (S : zM) (h : f_Cl_about a0 a1 S = some res) : g [some (.ref a0), some (.int a1)] 0 [] S := by
  refine H zc_Cl_about _ 1000 _ _ _ _ ((r_Cl_about a0 a1 S).symm.trans h) (fun pc lv st S hK => ?_)
  cases hK
set_option maxRecDepth 100000 in
theorem ok_Cl_about : zokT 11 [87, 16, 59, 45] false 2 44 2 false (some .int) cX11_about zP_Cl_about = true := by decide +kernel
set_option maxRecDepth 100000 in
theorem s_Cl_about {l : Launch} {HB : Heap} {b L : Nat} {xs : Nat → Int32} {aK aV : Nat → Nat} {G : va_G} {tc : Nat → ClassId} (h0 : zSnd l HB b L xs aK aV G tc (zMT.getD 87 zyD) (fun α => zA_vR_I 11 f_Cl_noScript)) (h1 : zSnd l HB b L xs aK aV G tc (zMT.getD 16 zyD) (fun α => zA_vRI_I 11 f_Cl_refuse)) (h2 : zSnd l HB b L xs aK aV G tc (zMT.getD 59 zyD) (fun α => zA_vRI_I 11 f_Cl_answer)) (h3 : zSnd l HB b L xs aK aV G tc (zMT.getD 45 zyD) (fun α => zA_vR_I 10 f_Script_ruleCount)) : zSnd l HB b L xs aK aV G tc (zMT.getD 88 zyD) (fun α => zA_vRI_I 11 f_Cl_about) := by
  rw [show zMT.getD 88 zyD = (yX11_about, cX11_about, 2, (some .int), 0, 2, 2, 44) from rfl]
  intro α as S k res h
  unfold zA_vRI_I at h
  dsimp only at h
  split at h
  · rename_i a0 a1
    obtain ⟨p, hp, h⟩ := zbind h
    unfold zcl at hp
    split at hp
    · rename_i hkd
      have hm := zmeth (l := l) (HB := HB) (b := b) (L := L) (xs := xs) (aK := aK) (aV := aV) (G := G) (tc := tc) (q := (yX11_about, cX11_about, 2, (some .int), 0, 2, 2, 44)) (o := 11) (cs := [87, 16, 59, 45]) (rz := false) (T := zP_Cl_about) (E := zE_Cl_about (Int32 × zM)) (kr := zkI) (res := p) (v0 := some (.int p.1)) (S0 := p.2) (as := [.ref a0, .int a1]) (S := S) zMT_fine (by decide +kernel) (fun i as S k' h => by
        unfold zE_Cl_about at h
        rcases zdisf h with ⟨rfl, h⟩ | h
        · exact h0 _ _ _ _ _ h
        rcases zdisf h with ⟨rfl, h⟩ | h
        · exact h1 _ _ _ _ _ h
        rcases zdisf h with ⟨rfl, h⟩ | h
        · exact h2 _ _ _ _ _ h
        rcases zdisf h with ⟨rfl, h⟩ | h
        · exact h3 _ _ _ _ _ h
        cases h) ok_Cl_about rfl (fun v S' h => zkI_inv h) (Nat.le_of_ble_eq_true rfl) (fun g H Hw => Hw _ [some (.ref a0), some (.int a1)] _ _ _ ⟨rfl, rfl, trivial⟩ (G_Cl_about H Hw a0 a1 S hp))
      exact ⟨_, _, h, hm.1, rfl, fun _ => ⟨_, _, rfl⟩, (fun _ U H hK hH a r e => by cases e; exact zrecv (ci := 11) (by omega) hkd rfl U H hK hH), hm.2⟩
    · cases hp
  · cases h
def zP_Mo_ruleAll : List (List (Nat × zE)) := [[(0, e1 (.aload_n 0) 1 0), (1, e3 (.getfield 20) 4 12 11 2), (4, ei (.iconst 0) 5 0 (0)), (5, e0 (.iaload) 6), (6, e1 (.aload_n 0) 7 0), (7, e3 (.getfield 20) 10 12 11 2), (10, ei (.iconst 1) 11 0 (1)), (11, e0 (.iaload) 12), (12, e0 (.iadd) 13), (13, e1 (.aload_n 0) 14 0), (14, e3 (.getfield 20) 17 12 11 2)],
  [(17, ei (.iconst 2) 18 0 (2)), (18, e0 (.iaload) 19), (19, e0 (.iadd) 20), (20, e0 (.ireturn) 21)]]
noncomputable def zE_Mo_ruleAll (α : Type) : Nat → zX α := fun _ => fun _ _ _ => none
def zc_Mo_ruleAll : Nat → Bool := fun pc => false
set_option maxRecDepth 100000 in
theorem r_Mo_ruleAll (a0 : Nat) (S : zM) : f_Mo_ruleAll a0 S = zrt false zP_Mo_ruleAll (zE_Mo_ruleAll (Int32 × zM)) zc_Mo_ruleAll zkI (fun pc lv st S => none) 1000 0 [some (.ref a0)] [] S := rfl
theorem G_Mo_ruleAll {g : zV → Nat → List Value → zM → Prop} {res : (Int32 × zM)} (H : zCl false zP_Mo_ruleAll (zE_Mo_ruleAll (Int32 × zM)) zkI res g) (Hw : zWk g) (a0 : Nat) (S : zM) (h : f_Mo_ruleAll a0 S = some res) : g [some (.ref a0)] 0 [] S := by
  refine H zc_Mo_ruleAll _ 1000 _ _ _ _ ((r_Mo_ruleAll a0 S).symm.trans h) (fun pc lv st S hK => ?_)
  cases hK
set_option maxRecDepth 100000 in
theorem ok_Mo_ruleAll : zokT 12 [] false 0 0 1 false (some .int) cX12_ruleAll zP_Mo_ruleAll = true := by decide +kernel
set_option maxRecDepth 100000 in
theorem s_Mo_ruleAll {l : Launch} {HB : Heap} {b L : Nat} {xs : Nat → Int32} {aK aV : Nat → Nat} {G : va_G} {tc : Nat → ClassId} : zSnd l HB b L xs aK aV G tc (zMT.getD 89 zyD) (fun α => zA_vR_I 12 f_Mo_ruleAll) := by
  rw [show zMT.getD 89 zyD = (yX12_ruleAll, cX12_ruleAll, 1, (some .int), 0, 1, 0, 0) from rfl]
  intro α as S k res h
  unfold zA_vR_I at h
  dsimp only at h
  split at h
  · rename_i a0
    obtain ⟨p, hp, h⟩ := zbind h
    unfold zcl at hp
    split at hp
    · rename_i hkd
      have hm := zmeth (l := l) (HB := HB) (b := b) (L := L) (xs := xs) (aK := aK) (aV := aV) (G := G) (tc := tc) (q := (yX12_ruleAll, cX12_ruleAll, 1, (some .int), 0, 1, 0, 0)) (o := 12) (cs := []) (rz := false) (T := zP_Mo_ruleAll) (E := zE_Mo_ruleAll (Int32 × zM)) (kr := zkI) (res := p) (v0 := some (.int p.1)) (S0 := p.2) (as := [.ref a0]) (S := S) zMT_fine (by decide +kernel) (fun i as S k' h => by
        unfold zE_Mo_ruleAll at h
        cases h) ok_Mo_ruleAll rfl (fun v S' h => zkI_inv h) (Nat.le_of_ble_eq_true rfl) (fun g H Hw => Hw _ [some (.ref a0)] _ _ _ ⟨rfl, trivial⟩ (G_Mo_ruleAll H Hw a0 S hp))
      exact ⟨_, _, h, hm.1, rfl, fun _ => ⟨_, _, rfl⟩, (fun _ U H hK hH a r e => by cases e; exact zrecv (ci := 12) (by omega) hkd rfl U H hK hH), hm.2⟩
    · cases hp
  · cases h
def zP_Mo_about : List (List (Nat × zE)) := [[(0, e1 (.aload_n 0) 1 0), (1, e3 (.invokevirtual 272) 4 0 1 0), (4, e1 (.aload_n 0) 5 0), (5, e3 (.getfield 293) 8 12 9 1), (8, e1 (.ifCond .ne 9) 11 17), (11, e1 (.aload_n 0) 12 0), (12, ei (.iconst 1) 13 0 (1)), (13, e3 (.invokevirtual 275) 16 1 2 0)],
  [(16, e0 (.ireturn) 17), (17, e1 (.iload_n 1) 18 1), (18, et (.tableswitch 50 0 3 #[30, 35, 40, 45]) 68 [(0, 48), (1, 53), (2, 58), (3, 63)])],
  [],
  [(48, e1 (.aload_n 0) 49 0), (49, e3 (.getfield 284) 52 12 6 0), (52, e0 (.ireturn) 53), (53, e1 (.aload_n 0) 54 0), (54, e3 (.getfield 287) 57 12 7 0), (57, e0 (.ireturn) 58), (58, e1 (.aload_n 0) 59 0), (59, e3 (.getfield 290) 62 12 8 0), (62, e0 (.ireturn) 63), (63, e1 (.aload_n 0) 64 0)],
  [(64, e3 (.invokevirtual 306) 67 2 1 0), (67, e0 (.ireturn) 68), (68, e1 (.aload_n 0) 69 0), (69, ei (.iconst 1) 70 0 (1)), (70, e3 (.invokevirtual 275) 73 1 2 0), (73, e0 (.ireturn) 74)]]
noncomputable def zE_Mo_about (α : Type) : Nat → zX α := fun i => bif Nat.beq i 0 then zA_vR_V 12 f_Mo_fresh else bif Nat.beq i 1 then zA_vRI_I 12 f_Mo_no else bif Nat.beq i 2 then zA_vR_I 12 f_Mo_ruleAll else fun _ _ _ => none
def zc_Mo_about : Nat → Bool := fun pc => false
set_option maxRecDepth 100000 in
theorem r_Mo_about (a0 : Nat) (a1 : Int32) (S : zM) : f_Mo_about a0 a1 S = zrt false zP_Mo_about (zE_Mo_about (Int32 × zM)) zc_Mo_about zkI (fun pc lv st S => none) 1000 0 [some (.ref a0), some (.int a1)] [] S := rfl
theorem G_Mo_about {g : zV → Nat → List Value → zM → Prop} {res : (Int32 × zM)} (H : zCl false zP_Mo_about (zE_Mo_about (Int32 × zM)) zkI res g) (Hw : zWk g) (a0 : Nat) (a1 : Int32) (S : zM) (h : f_Mo_about a0 a1 S = some res) : g [some (.ref a0), some (.int a1)] 0 [] S := by
  refine H zc_Mo_about _ 1000 _ _ _ _ ((r_Mo_about a0 a1 S).symm.trans h) (fun pc lv st S hK => ?_)
  cases hK
set_option maxRecDepth 100000 in
theorem ok_Mo_about : zokT 12 [61, 63, 89] false 1 21 2 false (some .int) cX12_about zP_Mo_about = true := by decide +kernel
set_option maxRecDepth 100000 in
theorem s_Mo_about {l : Launch} {HB : Heap} {b L : Nat} {xs : Nat → Int32} {aK aV : Nat → Nat} {G : va_G} {tc : Nat → ClassId} (h0 : zSnd l HB b L xs aK aV G tc (zMT.getD 61 zyD) (fun α => zA_vR_V 12 f_Mo_fresh)) (h1 : zSnd l HB b L xs aK aV G tc (zMT.getD 63 zyD) (fun α => zA_vRI_I 12 f_Mo_no)) (h2 : zSnd l HB b L xs aK aV G tc (zMT.getD 89 zyD) (fun α => zA_vR_I 12 f_Mo_ruleAll)) : zSnd l HB b L xs aK aV G tc (zMT.getD 90 zyD) (fun α => zA_vRI_I 12 f_Mo_about) := by
  rw [show zMT.getD 90 zyD = (yX12_about, cX12_about, 2, (some .int), 0, 2, 1, 21) from rfl]
  intro α as S k res h
  unfold zA_vRI_I at h
  dsimp only at h
  split at h
  · rename_i a0 a1
    obtain ⟨p, hp, h⟩ := zbind h
    unfold zcl at hp
    split at hp
    · rename_i hkd
      have hm := zmeth (l := l) (HB := HB) (b := b) (L := L) (xs := xs) (aK := aK) (aV := aV) (G := G) (tc := tc) (q := (yX12_about, cX12_about, 2, (some .int), 0, 2, 1, 21)) (o := 12) (cs := [61, 63, 89]) (rz := false) (T := zP_Mo_about) (E := zE_Mo_about (Int32 × zM)) (kr := zkI) (res := p) (v0 := some (.int p.1)) (S0 := p.2) (as := [.ref a0, .int a1]) (S := S) zMT_fine (by decide +kernel) (fun i as S k' h => by
        unfold zE_Mo_about at h
        rcases zdisf h with ⟨rfl, h⟩ | h
        · exact h0 _ _ _ _ _ h
        rcases zdisf h with ⟨rfl, h⟩ | h
        · exact h1 _ _ _ _ _ h
        rcases zdisf h with ⟨rfl, h⟩ | h
        · exact h2 _ _ _ _ _ h
        cases h) ok_Mo_about rfl (fun v S' h => zkI_inv h) (Nat.le_of_ble_eq_true rfl) (fun g H Hw => Hw _ [some (.ref a0), some (.int a1)] _ _ _ ⟨rfl, rfl, trivial⟩ (G_Mo_about H Hw a0 a1 S hp))
      exact ⟨_, _, h, hm.1, rfl, fun _ => ⟨_, _, rfl⟩, (fun _ U H hK hH a r e => by cases e; exact zrecv (ci := 12) (by omega) hkd rfl U H hK hH), hm.2⟩
    · cases hp
  · cases h
def zP_Cl_kind : List (List (Nat × zE)) := [[(0, e1 (.iload_n 1) 1 1), (1, e1 (.ifCond .lt 19) 4 20), (4, e1 (.iload_n 1) 5 1), (5, e1 (.aload_n 0) 6 0), (6, e3 (.getfield 65) 9 11 10 2), (9, e3 (.getfield 122) 12 10 4 0), (12, e1 (.if_icmp .ge 8) 15 20), (15, e1 (.iload_n 1) 16 1)],
  [(16, ei (.iconst 4) 17 0 (4)), (17, e1 (.if_icmp .lt 9) 20 26), (20, e1 (.aload_n 0) 21 0), (21, ei (.iconst 1) 22 0 (1)), (22, e3 (.invokevirtual 79) 25 0 2 0), (25, e0 (.ireturn) 26), (26, e1 (.aload_n 0) 27 0), (27, e1 (.aload_n 0) 28 0), (28, e3 (.getfield 65) 31 11 10 2), (31, e3 (.getfield 129) 34 10 1 2)],
  [(34, e1 (.iload_n 1) 35 1), (35, e0 (.iaload) 36), (36, e3 (.invokevirtual 109) 39 1 2 0), (39, e0 (.ireturn) 40)]]
noncomputable def zE_Cl_kind (α : Type) : Nat → zX α := fun i => bif Nat.beq i 0 then zA_vRI_I 11 f_Cl_refuse else bif Nat.beq i 1 then zA_vRI_I 11 f_Cl_answer else fun _ _ _ => none
def zc_Cl_kind : Nat → Bool := fun pc => false
set_option maxRecDepth 100000 in
theorem r_Cl_kind (a0 : Nat) (a1 : Int32) (S : zM) : f_Cl_kind a0 a1 S = zrt false zP_Cl_kind (zE_Cl_kind (Int32 × zM)) zc_Cl_kind zkI (fun pc lv st S => none) 1000 0 [some (.ref a0), some (.int a1)] [] S := rfl
theorem G_Cl_kind {g : zV → Nat → List Value → zM → Prop} {res : (Int32 × zM)} (H : zCl false zP_Cl_kind (zE_Cl_kind (Int32 × zM)) zkI res g) (Hw : zWk g) (a0 : Nat) (a1 : Int32) (S : zM) (h : f_Cl_kind a0 a1 S = some res) : g [some (.ref a0), some (.int a1)] 0 [] S := by
  refine H zc_Cl_kind _ 1000 _ _ _ _ ((r_Cl_kind a0 a1 S).symm.trans h) (fun pc lv st S hK => ?_)
  cases hK
set_option maxRecDepth 100000 in
theorem ok_Cl_kind : zokT 11 [16, 59] false 1 21 2 false (some .int) cX11_kind zP_Cl_kind = true := by decide +kernel
set_option maxRecDepth 100000 in
theorem s_Cl_kind {l : Launch} {HB : Heap} {b L : Nat} {xs : Nat → Int32} {aK aV : Nat → Nat} {G : va_G} {tc : Nat → ClassId} (h0 : zSnd l HB b L xs aK aV G tc (zMT.getD 16 zyD) (fun α => zA_vRI_I 11 f_Cl_refuse)) (h1 : zSnd l HB b L xs aK aV G tc (zMT.getD 59 zyD) (fun α => zA_vRI_I 11 f_Cl_answer)) : zSnd l HB b L xs aK aV G tc (zMT.getD 91 zyD) (fun α => zA_vRI_I 11 f_Cl_kind) := by
  rw [show zMT.getD 91 zyD = (yX11_kind, cX11_kind, 2, (some .int), 0, 2, 1, 21) from rfl]
  intro α as S k res h
  unfold zA_vRI_I at h
  dsimp only at h
  split at h
  · rename_i a0 a1
    obtain ⟨p, hp, h⟩ := zbind h
    unfold zcl at hp
    split at hp
    · rename_i hkd
      have hm := zmeth (l := l) (HB := HB) (b := b) (L := L) (xs := xs) (aK := aK) (aV := aV) (G := G) (tc := tc) (q := (yX11_kind, cX11_kind, 2, (some .int), 0, 2, 1, 21)) (o := 11) (cs := [16, 59]) (rz := false) (T := zP_Cl_kind) (E := zE_Cl_kind (Int32 × zM)) (kr := zkI) (res := p) (v0 := some (.int p.1)) (S0 := p.2) (as := [.ref a0, .int a1]) (S := S) zMT_fine (by decide +kernel) (fun i as S k' h => by
        unfold zE_Cl_kind at h
        rcases zdisf h with ⟨rfl, h⟩ | h
        · exact h0 _ _ _ _ _ h
        rcases zdisf h with ⟨rfl, h⟩ | h
        · exact h1 _ _ _ _ _ h
        cases h) ok_Cl_kind rfl (fun v S' h => zkI_inv h) (Nat.le_of_ble_eq_true rfl) (fun g H Hw => Hw _ [some (.ref a0), some (.int a1)] _ _ _ ⟨rfl, rfl, trivial⟩ (G_Cl_kind H Hw a0 a1 S hp))
      exact ⟨_, _, h, hm.1, rfl, fun _ => ⟨_, _, rfl⟩, (fun _ U H hK hH a r e => by cases e; exact zrecv (ci := 11) (by omega) hkd rfl U H hK hH), hm.2⟩
    · cases hp
  · cases h
def zP_Mo_kind : List (List (Nat × zE)) := [[(0, e1 (.aload_n 0) 1 0), (1, e3 (.invokevirtual 272) 4 0 1 0), (4, e1 (.aload_n 0) 5 0), (5, e3 (.getfield 293) 8 12 9 1), (8, e1 (.ifCond .eq 26) 11 34), (11, e1 (.iload_n 1) 12 1), (12, ei (.iconst 0) 13 0 (0)), (13, e1 (.aload_n 0) 14 0), (14, e3 (.getfield 287) 17 12 7 0)],
  [(17, ei (.iconst 1) 18 0 (1)), (18, e0 (.isub) 19), (19, e3 (.invokestatic 156) 22 1 3 0), (22, e1 (.ifCond .eq 12) 25 34), (25, e1 (.aload_n 0) 26 0), (26, e3 (.getfield 17) 29 12 10 2), (29, e1 (.iload_n 1) 30 1), (30, e0 (.iaload) 31), (31, e1 (.goto 8) 34 39)],
  [(34, e1 (.aload_n 0) 35 0), (35, ei (.iconst 1) 36 0 (1)), (36, e3 (.invokevirtual 275) 39 2 2 0), (39, e0 (.ireturn) 40)]]
noncomputable def zE_Mo_kind (α : Type) : Nat → zX α := fun i => bif Nat.beq i 0 then zA_vR_V 12 f_Mo_fresh else bif Nat.beq i 1 then zA_III_I f_Mo_in else bif Nat.beq i 2 then zA_vRI_I 12 f_Mo_no else fun _ _ _ => none
def zc_Mo_kind : Nat → Bool := fun pc => false
set_option maxRecDepth 100000 in
theorem r_Mo_kind (a0 : Nat) (a1 : Int32) (S : zM) : f_Mo_kind a0 a1 S = zrt false zP_Mo_kind (zE_Mo_kind (Int32 × zM)) zc_Mo_kind zkI (fun pc lv st S => none) 1000 0 [some (.ref a0), some (.int a1)] [] S := rfl
theorem G_Mo_kind {g : zV → Nat → List Value → zM → Prop} {res : (Int32 × zM)} (H : zCl false zP_Mo_kind (zE_Mo_kind (Int32 × zM)) zkI res g) (Hw : zWk g) (a0 : Nat) (a1 : Int32) (S : zM) (h : f_Mo_kind a0 a1 S = some res) : g [some (.ref a0), some (.int a1)] 0 [] S := by
  refine H zc_Mo_kind _ 1000 _ _ _ _ ((r_Mo_kind a0 a1 S).symm.trans h) (fun pc lv st S hK => ?_)
  cases hK
set_option maxRecDepth 100000 in
theorem ok_Mo_kind : zokT 12 [61, 62, 63] false 1 22 2 false (some .int) cX12_kind zP_Mo_kind = true := by decide +kernel
set_option maxRecDepth 100000 in
theorem s_Mo_kind {l : Launch} {HB : Heap} {b L : Nat} {xs : Nat → Int32} {aK aV : Nat → Nat} {G : va_G} {tc : Nat → ClassId} (h0 : zSnd l HB b L xs aK aV G tc (zMT.getD 61 zyD) (fun α => zA_vR_V 12 f_Mo_fresh)) (h1 : zSnd l HB b L xs aK aV G tc (zMT.getD 62 zyD) (fun α => zA_III_I f_Mo_in)) (h2 : zSnd l HB b L xs aK aV G tc (zMT.getD 63 zyD) (fun α => zA_vRI_I 12 f_Mo_no)) : zSnd l HB b L xs aK aV G tc (zMT.getD 92 zyD) (fun α => zA_vRI_I 12 f_Mo_kind) := by
  rw [show zMT.getD 92 zyD = (yX12_kind, cX12_kind, 2, (some .int), 0, 2, 1, 22) from rfl]
  intro α as S k res h
  unfold zA_vRI_I at h
  dsimp only at h
  split at h
  · rename_i a0 a1
    obtain ⟨p, hp, h⟩ := zbind h
    unfold zcl at hp
    split at hp
    · rename_i hkd
      have hm := zmeth (l := l) (HB := HB) (b := b) (L := L) (xs := xs) (aK := aK) (aV := aV) (G := G) (tc := tc) (q := (yX12_kind, cX12_kind, 2, (some .int), 0, 2, 1, 22)) (o := 12) (cs := [61, 62, 63]) (rz := false) (T := zP_Mo_kind) (E := zE_Mo_kind (Int32 × zM)) (kr := zkI) (res := p) (v0 := some (.int p.1)) (S0 := p.2) (as := [.ref a0, .int a1]) (S := S) zMT_fine (by decide +kernel) (fun i as S k' h => by
        unfold zE_Mo_kind at h
        rcases zdisf h with ⟨rfl, h⟩ | h
        · exact h0 _ _ _ _ _ h
        rcases zdisf h with ⟨rfl, h⟩ | h
        · exact h1 _ _ _ _ _ h
        rcases zdisf h with ⟨rfl, h⟩ | h
        · exact h2 _ _ _ _ _ h
        cases h) ok_Mo_kind rfl (fun v S' h => zkI_inv h) (Nat.le_of_ble_eq_true rfl) (fun g H Hw => Hw _ [some (.ref a0), some (.int a1)] _ _ _ ⟨rfl, rfl, trivial⟩ (G_Mo_kind H Hw a0 a1 S hp))
      exact ⟨_, _, h, hm.1, rfl, fun _ => ⟨_, _, rfl⟩, (fun _ U H hK hH a r e => by cases e; exact zrecv (ci := 12) (by omega) hkd rfl U H hK hH), hm.2⟩
    · cases hp
  · cases h
def zP_Cl_pass : List (List (Nat × zE)) := [[(0, e1 (.aload_n 0) 1 0), (1, e3 (.getfield 65) 4 11 10 2), (4, e1 (.iload_n 1) 5 1), (5, e3 (.invokevirtual 132) 8 0 2 0), (8, e1 (.astore_n 3) 9 3), (9, e1 (.aload_n 3) 10 3), (10, e1 (.ifnonnull 9) 13 19), (13, e1 (.aload_n 0) 14 0), (14, ei (.iconst 1) 15 0 (1)), (15, e3 (.invokevirtual 79) 18 1 2 0)],
  [(18, e0 (.ireturn) 19), (19, e1 (.iload_n 2) 20 2), (20, et (.tableswitch 66 0 2 #[28, 37, 54]) 86 [(0, 48), (1, 57), (2, 74)])],
  [],
  [(48, e1 (.aload_n 0) 49 0), (49, e1 (.aload_n 3) 50 3), (50, e3 (.getfield 136) 53 5 3 0), (53, e3 (.invokevirtual 109) 56 2 2 0), (56, e0 (.ireturn) 57), (57, e1 (.aload_n 0) 58 0), (58, e1 (.aload_n 3) 59 3), (59, e3 (.getfield 140) 62 5 4 1), (62, e1 (.ifCond .eq 7) 65 69)],
  [(65, ei (.iconst 1) 66 0 (1)), (66, e1 (.goto 4) 69 70), (69, ei (.iconst 0) 70 0 (0)), (70, e3 (.invokevirtual 109) 73 2 2 0), (73, e0 (.ireturn) 74), (74, e1 (.aload_n 0) 75 0), (75, e1 (.aload_n 3) 76 3), (76, e3 (.getfield 143) 79 5 1 2), (79, e3 (.getfield 147) 82 3 6 0)],
  [(82, e3 (.invokevirtual 109) 85 2 2 0), (85, e0 (.ireturn) 86), (86, e1 (.aload_n 0) 87 0), (87, ei (.iconst 1) 88 0 (1)), (88, e3 (.invokevirtual 79) 91 1 2 0), (91, e0 (.ireturn) 92)]]
noncomputable def zE_Cl_pass (α : Type) : Nat → zX α := fun i => bif Nat.beq i 0 then zA_vRI_N 10 f_Script_passAt else bif Nat.beq i 1 then zA_vRI_I 11 f_Cl_refuse else bif Nat.beq i 2 then zA_vRI_I 11 f_Cl_answer else fun _ _ _ => none
def zc_Cl_pass : Nat → Bool := fun pc => false
set_option maxRecDepth 100000 in
theorem r_Cl_pass (a0 : Nat) (a1 : Int32) (a2 : Int32) (S : zM) : f_Cl_pass a0 a1 a2 S = zrt false zP_Cl_pass (zE_Cl_pass (Int32 × zM)) zc_Cl_pass zkI (fun pc lv st S => none) 1000 0 [some (.ref a0), some (.int a1), some (.int a2), none] [] S := rfl
theorem G_Cl_pass {g : zV → Nat → List Value → zM → Prop} {res : (Int32 × zM)} (H : zCl false zP_Cl_pass (zE_Cl_pass (Int32 × zM)) zkI res g) (Hw : zWk g) (a0 : Nat) (a1 : Int32) (a2 : Int32) (S : zM) (h : f_Cl_pass a0 a1 a2 S = some res) : g [some (.ref a0), some (.int a1), some (.int a2), none] 0 [] S := by
  refine H zc_Cl_pass _ 1000 _ _ _ _ ((r_Cl_pass a0 a1 a2 S).symm.trans h) (fun pc lv st S hK => ?_)
  cases hK
set_option maxRecDepth 100000 in
theorem ok_Cl_pass : zokT 11 [44, 16, 59] false 1 21 4 false (some .int) cX11_pass zP_Cl_pass = true := by decide +kernel
set_option maxRecDepth 100000 in
theorem s_Cl_pass {l : Launch} {HB : Heap} {b L : Nat} {xs : Nat → Int32} {aK aV : Nat → Nat} {G : va_G} {tc : Nat → ClassId} (h0 : zSnd l HB b L xs aK aV G tc (zMT.getD 44 zyD) (fun α => zA_vRI_N 10 f_Script_passAt)) (h1 : zSnd l HB b L xs aK aV G tc (zMT.getD 16 zyD) (fun α => zA_vRI_I 11 f_Cl_refuse)) (h2 : zSnd l HB b L xs aK aV G tc (zMT.getD 59 zyD) (fun α => zA_vRI_I 11 f_Cl_answer)) : zSnd l HB b L xs aK aV G tc (zMT.getD 93 zyD) (fun α => zA_vRII_I 11 f_Cl_pass) := by
  rw [show zMT.getD 93 zyD = (yX11_pass, cX11_pass, 4, (some .int), 0, 3, 1, 21) from rfl]
  intro α as S k res h
  unfold zA_vRII_I at h
  dsimp only at h
  split at h
  · rename_i a0 a1 a2
    obtain ⟨p, hp, h⟩ := zbind h
    unfold zcl at hp
    split at hp
    · rename_i hkd
      have hm := zmeth (l := l) (HB := HB) (b := b) (L := L) (xs := xs) (aK := aK) (aV := aV) (G := G) (tc := tc) (q := (yX11_pass, cX11_pass, 4, (some .int), 0, 3, 1, 21)) (o := 11) (cs := [44, 16, 59]) (rz := false) (T := zP_Cl_pass) (E := zE_Cl_pass (Int32 × zM)) (kr := zkI) (res := p) (v0 := some (.int p.1)) (S0 := p.2) (as := [.ref a0, .int a1, .int a2]) (S := S) zMT_fine (by decide +kernel) (fun i as S k' h => by
        unfold zE_Cl_pass at h
        rcases zdisf h with ⟨rfl, h⟩ | h
        · exact h0 _ _ _ _ _ h
        rcases zdisf h with ⟨rfl, h⟩ | h
        · exact h1 _ _ _ _ _ h
        rcases zdisf h with ⟨rfl, h⟩ | h
        · exact h2 _ _ _ _ _ h
        cases h) ok_Cl_pass rfl (fun v S' h => zkI_inv h) (Nat.le_of_ble_eq_true rfl) (fun g H Hw => Hw _ [some (.ref a0), some (.int a1), some (.int a2), none] _ _ _ ⟨rfl, rfl, rfl, trivial⟩ (G_Cl_pass H Hw a0 a1 a2 S hp))
      exact ⟨_, _, h, hm.1, rfl, fun _ => ⟨_, _, rfl⟩, (fun _ U H hK hH a r e => by cases e; exact zrecv (ci := 11) (by omega) hkd rfl U H hK hH), hm.2⟩
    · cases hp
  · cases h
def zP_Mo_isPass : List (List (Nat × zE)) := [[(0, e1 (.aload_n 0) 1 0), (1, e3 (.getfield 293) 4 12 9 1), (4, e1 (.ifCond .eq 21) 7 25), (7, e1 (.iload_n 1) 8 1), (8, ei (.iconst 0) 9 0 (0)), (9, e1 (.aload_n 0) 10 0), (10, e3 (.getfield 290) 13 12 8 0), (13, ei (.iconst 1) 14 0 (1)), (14, e0 (.isub) 15), (15, e3 (.invokestatic 156) 18 0 3 0)],
  [(18, e1 (.ifCond .eq 7) 21 25), (21, ei (.iconst 1) 22 0 (1)), (22, e1 (.goto 4) 25 26), (25, ei (.iconst 0) 26 0 (0)), (26, e0 (.ireturn) 27)]]
noncomputable def zE_Mo_isPass (α : Type) : Nat → zX α := fun i => bif Nat.beq i 0 then zA_III_I f_Mo_in else fun _ _ _ => none
def zc_Mo_isPass : Nat → Bool := fun pc => false
set_option maxRecDepth 100000 in
theorem r_Mo_isPass (a0 : Nat) (a1 : Int32) (S : zM) : f_Mo_isPass a0 a1 S = zrt true zP_Mo_isPass (zE_Mo_isPass (Int32 × zM)) zc_Mo_isPass zkI (fun pc lv st S => none) 1000 0 [some (.ref a0), some (.int a1)] [] S := rfl
theorem G_Mo_isPass {g : zV → Nat → List Value → zM → Prop} {res : (Int32 × zM)} (H : zCl true zP_Mo_isPass (zE_Mo_isPass (Int32 × zM)) zkI res g) (Hw : zWk g) (a0 : Nat) (a1 : Int32) (S : zM) (h : f_Mo_isPass a0 a1 S = some res) : g [some (.ref a0), some (.int a1)] 0 [] S := by
  refine H zc_Mo_isPass _ 1000 _ _ _ _ ((r_Mo_isPass a0 a1 S).symm.trans h) (fun pc lv st S hK => ?_)
  cases hK
set_option maxRecDepth 100000 in
theorem ok_Mo_isPass : zokT 12 [62] false 1 22 2 true (some .boolean) cX12_isPass zP_Mo_isPass = true := by decide +kernel
set_option maxRecDepth 100000 in
theorem s_Mo_isPass {l : Launch} {HB : Heap} {b L : Nat} {xs : Nat → Int32} {aK aV : Nat → Nat} {G : va_G} {tc : Nat → ClassId} (h0 : zSnd l HB b L xs aK aV G tc (zMT.getD 62 zyD) (fun α => zA_III_I f_Mo_in)) : zSnd l HB b L xs aK aV G tc (zMT.getD 94 zyD) (fun α => zA_vRI_I 12 f_Mo_isPass) := by
  rw [show zMT.getD 94 zyD = (yX12_isPass, cX12_isPass, 2, (some .boolean), 0, 2, 1, 22) from rfl]
  intro α as S k res h
  unfold zA_vRI_I at h
  dsimp only at h
  split at h
  · rename_i a0 a1
    obtain ⟨p, hp, h⟩ := zbind h
    unfold zcl at hp
    split at hp
    · rename_i hkd
      have hm := zmeth (l := l) (HB := HB) (b := b) (L := L) (xs := xs) (aK := aK) (aV := aV) (G := G) (tc := tc) (q := (yX12_isPass, cX12_isPass, 2, (some .boolean), 0, 2, 1, 22)) (o := 12) (cs := [62]) (rz := true) (T := zP_Mo_isPass) (E := zE_Mo_isPass (Int32 × zM)) (kr := zkI) (res := p) (v0 := some (.int p.1)) (S0 := p.2) (as := [.ref a0, .int a1]) (S := S) zMT_fine (by decide +kernel) (fun i as S k' h => by
        unfold zE_Mo_isPass at h
        rcases zdisf h with ⟨rfl, h⟩ | h
        · exact h0 _ _ _ _ _ h
        cases h) ok_Mo_isPass rfl (fun v S' h => zkI_inv h) (Nat.le_of_ble_eq_true rfl) (fun g H Hw => Hw _ [some (.ref a0), some (.int a1)] _ _ _ ⟨rfl, rfl, trivial⟩ (G_Mo_isPass H Hw a0 a1 S hp))
      exact ⟨_, _, h, hm.1, rfl, fun _ => ⟨_, _, rfl⟩, (fun _ U H hK hH a r e => by cases e; exact zrecv (ci := 12) (by omega) hkd rfl U H hK hH), hm.2⟩
    · cases hp
  · cases h
def zP_Mo_rowOf : List (List (Nat × zE)) := [[(0, ei (.bipush 11) 2 0 (11)), (2, ei (.bipush 8) 4 0 (8)), (4, e1 (.iload_n 0) 5 0), (5, e0 (.imul) 6), (6, e1 (.iload_n 1) 7 1), (7, e0 (.iadd) 8), (8, e0 (.imul) 9), (9, e0 (.ireturn) 10)]]
noncomputable def zE_Mo_rowOf (α : Type) : Nat → zX α := fun _ => fun _ _ _ => none
def zc_Mo_rowOf : Nat → Bool := fun pc => false
set_option maxRecDepth 100000 in
theorem r_Mo_rowOf (a0 : Int32) (a1 : Int32) (S : zM) : f_Mo_rowOf a0 a1 S = zrt false zP_Mo_rowOf (zE_Mo_rowOf (Int32 × zM)) zc_Mo_rowOf zkI (fun pc lv st S => none) 1000 0 [some (.int a0), some (.int a1)] [] S := rfl
theorem G_Mo_rowOf {g : zV → Nat → List Value → zM → Prop} {res : (Int32 × zM)} (H : zCl false zP_Mo_rowOf (zE_Mo_rowOf (Int32 × zM)) zkI res g) (Hw : zWk g) (a0 : Int32) (a1 : Int32) (S : zM) (h : f_Mo_rowOf a0 a1 S = some res) : g [some (.int a0), some (.int a1)] 0 [] S := by
  refine H zc_Mo_rowOf _ 1000 _ _ _ _ ((r_Mo_rowOf a0 a1 S).symm.trans h) (fun pc lv st S hK => ?_)
  cases hK
set_option maxRecDepth 100000 in
theorem ok_Mo_rowOf : zokT 12 [] false 0 0 2 false (some .int) cX12_rowOf zP_Mo_rowOf = true := by decide +kernel
set_option maxRecDepth 100000 in
theorem s_Mo_rowOf {l : Launch} {HB : Heap} {b L : Nat} {xs : Nat → Int32} {aK aV : Nat → Nat} {G : va_G} {tc : Nat → ClassId} : zSnd l HB b L xs aK aV G tc (zMT.getD 95 zyD) (fun α => zA_II_I f_Mo_rowOf) := by
  rw [show zMT.getD 95 zyD = (yX12_rowOf, cX12_rowOf, 2, (some .int), 1, 2, 0, 0) from rfl]
  intro α as S k res h
  unfold zA_II_I at h
  dsimp only at h
  split at h
  · rename_i a0 a1
    obtain ⟨p, hp, h⟩ := zbind h
    have hm := zmeth (l := l) (HB := HB) (b := b) (L := L) (xs := xs) (aK := aK) (aV := aV) (G := G) (tc := tc) (q := (yX12_rowOf, cX12_rowOf, 2, (some .int), 1, 2, 0, 0)) (o := 12) (cs := []) (rz := false) (T := zP_Mo_rowOf) (E := zE_Mo_rowOf (Int32 × zM)) (kr := zkI) (res := p) (v0 := some (.int p.1)) (S0 := p.2) (as := [.int a0, .int a1]) (S := S) zMT_fine (by decide +kernel) (fun i as S k' h => by
      unfold zE_Mo_rowOf at h
      cases h) ok_Mo_rowOf rfl (fun v S' h => zkI_inv h) (Nat.le_of_ble_eq_true rfl) (fun g H Hw => Hw _ [some (.int a0), some (.int a1)] _ _ _ ⟨rfl, rfl, trivial⟩ (G_Mo_rowOf H Hw a0 a1 S hp))
    exact ⟨_, _, h, hm.1, rfl, fun q => absurd rfl q, (fun q => by cases q), hm.2⟩
  · cases h
def zP_Mo_beginning : List (List (Nat × zE)) := [[(0, e1 (.iload_n 2) 1 2), (1, e1 (.istore_n 3) 2 3), (2, ei (.iconst 0) 3 0 (0)), (3, e1 (.istore 4) 5 4), (5, e1 (.iload 4) 7 4), (7, ei (.iconst 3) 8 0 (3)), (8, e1 (.if_icmp .ge 36) 11 44), (11, ei (.bipush 8) 13 0 (8)), (13, e1 (.iload_n 3) 14 3), (14, e0 (.imul) 15), (15, e1 (.iload 4) 17 4)],
  [(17, e1 (.iload_n 2) 18 2), (18, e1 (.if_icmp .ge 17) 21 35), (21, e1 (.aload_n 0) 22 0), (22, e3 (.getfield 27) 25 12 13 2), (25, e1 (.iload_n 1) 26 1), (26, ei (.iconst 4) 27 0 (4)), (27, e0 (.iadd) 28), (28, e1 (.iload 4) 30 4), (30, e0 (.iadd) 31), (31, e0 (.iaload) 32)],
  [(32, e1 (.goto 4) 35 36), (35, ei (.iconst 0) 36 0 (0)), (36, e0 (.iadd) 37), (37, e1 (.istore_n 3) 38 3), (38, ei (.iinc 4 1) 41 4 (1)), (41, e1 (.goto (-36)) 44 5), (44, e1 (.iload_n 3) 45 3), (45, e0 (.ireturn) 46)]]
noncomputable def zE_Mo_beginning (α : Type) : Nat → zX α := fun _ => fun _ _ _ => none
def zc_Mo_beginning : Nat → Bool := fun pc => Nat.beq pc 5
def D_Mo_beginning_5 (k : Nat → Int32 → Int32 → Int32 → Int32 → zM → Option (Int32 × zM)) (lv : zV) (st : List Value) (S : zM) : Option (Int32 × zM) := match lv, st with
  | [some (.ref a0), some (.int a1), some (.int a2), some (.int a3), some (.int a4)], [] => k a0 a1 a2 a3 a4 S
  | _, _ => none
theorem d_Mo_beginning_5 {g : zV → Nat → List Value → zM → Prop} (Hw : zWk g) {k : Nat → Int32 → Int32 → Int32 → Int32 → zM → Option (Int32 × zM)} {res : (Int32 × zM)} {lv : zV} {st : List Value} {S : zM} (h : D_Mo_beginning_5 k lv st S = some res) (hk : ∀ a0 a1 a2 a3 a4 S, k a0 a1 a2 a3 a4 S = some res → g [some (.ref a0), some (.int a1), some (.int a2), some (.int a3), some (.int a4)] 5 [] S) : g lv 5 st S := by
  unfold D_Mo_beginning_5 at h
  split at h
  · exact Hw _ _ _ _ _ (by simp [zle]) (hk _ _ _ _ _ _  h)
  · cases h
set_option maxRecDepth 100000 in
theorem r_Mo_beginning_5 (n : Nat) (a0 : Nat) (a1 : Int32) (a2 : Int32) (a3 : Int32) (a4 : Int32) (S : zM) : L_Mo_beginning_5 (n + 1) a0 a1 a2 a3 a4 S = zrt false zP_Mo_beginning (zE_Mo_beginning (Int32 × zM)) zc_Mo_beginning zkI (fun pc lv st S => bif Nat.beq pc 5 then D_Mo_beginning_5 (L_Mo_beginning_5 n) lv st S else none) 1000 5 [some (.ref a0), some (.int a1), some (.int a2), some (.int a3), some (.int a4)] [] S := rfl
theorem g_Mo_beginning_5 {g : zV → Nat → List Value → zM → Prop} {res : (Int32 × zM)} (H : zCl false zP_Mo_beginning (zE_Mo_beginning (Int32 × zM)) zkI res g) (Hw : zWk g) (n : Nat) : ∀ (a0 : Nat) (a1 : Int32) (a2 : Int32) (a3 : Int32) (a4 : Int32) (S : zM), L_Mo_beginning_5 n a0 a1 a2 a3 a4 S = some res → g [some (.ref a0), some (.int a1), some (.int a2), some (.int a3), some (.int a4)] 5 [] S := by
  induction n with
  | zero => intro a0 a1 a2 a3 a4 S h; cases h
  | succ n ih =>
    intro a0 a1 a2 a3 a4 S h
    refine H zc_Mo_beginning _ 1000 _ _ _ _ ((r_Mo_beginning_5 n a0 a1 a2 a3 a4 S).symm.trans h) (fun pc lv st S hK => ?_)
    rcases zdis hK with ⟨rfl, hK⟩ | hK
    · exact d_Mo_beginning_5 Hw hK ih
    cases hK
set_option maxRecDepth 100000 in
theorem r_Mo_beginning (a0 : Nat) (a1 : Int32) (a2 : Int32) (S : zM) : f_Mo_beginning a0 a1 a2 S = zrt false zP_Mo_beginning (zE_Mo_beginning (Int32 × zM)) zc_Mo_beginning zkI (fun pc lv st S => bif Nat.beq pc 5 then D_Mo_beginning_5 (L_Mo_beginning_5 zF) lv st S else none) 1000 0 [some (.ref a0), some (.int a1), some (.int a2), none, none] [] S := rfl
theorem G_Mo_beginning {g : zV → Nat → List Value → zM → Prop} {res : (Int32 × zM)} (H : zCl false zP_Mo_beginning (zE_Mo_beginning (Int32 × zM)) zkI res g) (Hw : zWk g) (a0 : Nat) (a1 : Int32) (a2 : Int32) (S : zM) (h : f_Mo_beginning a0 a1 a2 S = some res) : g [some (.ref a0), some (.int a1), some (.int a2), none, none] 0 [] S := by
  refine H zc_Mo_beginning _ 1000 _ _ _ _ ((r_Mo_beginning a0 a1 a2 S).symm.trans h) (fun pc lv st S hK => ?_)
  rcases zdis hK with ⟨rfl, hK⟩ | hK
  · exact d_Mo_beginning_5 Hw hK (g_Mo_beginning_5 H Hw  zF)
  cases hK
set_option maxRecDepth 100000 in
theorem ok_Mo_beginning : zokT 12 [] false 0 0 5 false (some .int) cX12_beginning zP_Mo_beginning = true := by decide +kernel
set_option maxRecDepth 100000 in
theorem s_Mo_beginning {l : Launch} {HB : Heap} {b L : Nat} {xs : Nat → Int32} {aK aV : Nat → Nat} {G : va_G} {tc : Nat → ClassId} : zSnd l HB b L xs aK aV G tc (zMT.getD 96 zyD) (fun α => zA_vRII_I 12 f_Mo_beginning) := by
  rw [show zMT.getD 96 zyD = (yX12_beginning, cX12_beginning, 5, (some .int), 0, 3, 0, 0) from rfl]
  intro α as S k res h
  unfold zA_vRII_I at h
  dsimp only at h
  split at h
  · rename_i a0 a1 a2
    obtain ⟨p, hp, h⟩ := zbind h
    unfold zcl at hp
    split at hp
    · rename_i hkd
      have hm := zmeth (l := l) (HB := HB) (b := b) (L := L) (xs := xs) (aK := aK) (aV := aV) (G := G) (tc := tc) (q := (yX12_beginning, cX12_beginning, 5, (some .int), 0, 3, 0, 0)) (o := 12) (cs := []) (rz := false) (T := zP_Mo_beginning) (E := zE_Mo_beginning (Int32 × zM)) (kr := zkI) (res := p) (v0 := some (.int p.1)) (S0 := p.2) (as := [.ref a0, .int a1, .int a2]) (S := S) zMT_fine (by decide +kernel) (fun i as S k' h => by
        unfold zE_Mo_beginning at h
        cases h) ok_Mo_beginning rfl (fun v S' h => zkI_inv h) (Nat.le_of_ble_eq_true rfl) (fun g H Hw => Hw _ [some (.ref a0), some (.int a1), some (.int a2), none, none] _ _ _ ⟨rfl, rfl, rfl, trivial⟩ (G_Mo_beginning H Hw a0 a1 a2 S hp))
      exact ⟨_, _, h, hm.1, rfl, fun _ => ⟨_, _, rfl⟩, (fun _ U H hK hH a r e => by cases e; exact zrecv (ci := 12) (by omega) hkd rfl U H hK hH), hm.2⟩
    · cases hp
  · cases h
def zP_Mo_isBeginning : List (List (Nat × zE)) := [[(0, ei (.iconst 0) 1 0 (0)), (1, e1 (.istore_n 3) 2 3), (2, e1 (.iload_n 3) 3 3), (3, e1 (.aload_n 0) 4 0), (4, e3 (.getfield 20) 7 12 11 2), (7, e1 (.iload_n 1) 8 1), (8, e0 (.iaload) 9), (9, e1 (.if_icmp .ge 53) 12 62), (12, e1 (.iload_n 1) 13 1), (13, e1 (.iload_n 3) 14 3), (14, e3 (.invokestatic 319) 17 0 2 0)],
  [(17, e1 (.istore 4) 19 4), (19, ei (.iconst 0) 20 0 (0)), (20, e1 (.istore 5) 22 5), (22, e1 (.iload 5) 24 5), (24, e1 (.aload_n 0) 25 0), (25, e3 (.getfield 27) 28 12 13 2), (28, e1 (.iload 4) 30 4), (30, ei (.iconst 0) 31 0 (0)), (31, e0 (.iadd) 32)],
  [(32, e0 (.iaload) 33), (33, e1 (.if_icmp .gt 23) 36 56), (36, e1 (.aload_n 0) 37 0), (37, e1 (.iload 4) 39 4), (39, e1 (.iload 5) 41 5), (41, e3 (.invokevirtual 323) 44 1 3 0), (44, e1 (.iload_n 2) 45 2), (45, e1 (.if_icmp .ne 5) 48 50)],
  [(48, ei (.iconst 1) 49 0 (1)), (49, e0 (.ireturn) 50), (50, ei (.iinc 5 1) 53 5 (1)), (53, e1 (.goto (-31)) 56 22), (56, ei (.iinc 3 1) 59 3 (1)), (59, e1 (.goto (-57)) 62 2), (62, e1 (.iload_n 2) 63 2), (63, e1 (.ifCond .ne 7) 66 70)],
  [(66, ei (.iconst 1) 67 0 (1)), (67, e1 (.goto 4) 70 71), (70, ei (.iconst 0) 71 0 (0)), (71, e0 (.ireturn) 72)]]
noncomputable def zE_Mo_isBeginning (α : Type) : Nat → zX α := fun i => bif Nat.beq i 0 then zA_II_I f_Mo_rowOf else bif Nat.beq i 1 then zA_vRII_I 12 f_Mo_beginning else fun _ _ _ => none
def zc_Mo_isBeginning : Nat → Bool := fun pc => Nat.beq pc 2 || Nat.beq pc 22 || Nat.beq pc 56
def D_Mo_isBeginning_2 (k : Nat → Int32 → Int32 → Int32 → zM → Option (Int32 × zM)) (lv : zV) (st : List Value) (S : zM) : Option (Int32 × zM) := match lv, st with
  | [some (.ref a0), some (.int a1), some (.int a2), some (.int a3), _, _], [] => k a0 a1 a2 a3 S
  | _, _ => none
theorem d_Mo_isBeginning_2 {g : zV → Nat → List Value → zM → Prop} (Hw : zWk g) {k : Nat → Int32 → Int32 → Int32 → zM → Option (Int32 × zM)} {res : (Int32 × zM)} {lv : zV} {st : List Value} {S : zM} (h : D_Mo_isBeginning_2 k lv st S = some res) (hk : ∀ a0 a1 a2 a3 S, k a0 a1 a2 a3 S = some res → g [some (.ref a0), some (.int a1), some (.int a2), some (.int a3), none, none] 2 [] S) : g lv 2 st S := by
  unfold D_Mo_isBeginning_2 at h
  split at h
  · exact Hw _ _ _ _ _ (by simp [zle]) (hk _ _ _ _ _  h)
  · cases h
def D_Mo_isBeginning_22 (k : Nat → Int32 → Int32 → Int32 → Int32 → Int32 → zM → Option (Int32 × zM)) (lv : zV) (st : List Value) (S : zM) : Option (Int32 × zM) := match lv, st with
  | [some (.ref a0), some (.int a1), some (.int a2), some (.int a3), some (.int a4), some (.int a5)], [] => k a0 a1 a2 a3 a4 a5 S
  | _, _ => none
theorem d_Mo_isBeginning_22 {g : zV → Nat → List Value → zM → Prop} (Hw : zWk g) {k : Nat → Int32 → Int32 → Int32 → Int32 → Int32 → zM → Option (Int32 × zM)} {res : (Int32 × zM)} {lv : zV} {st : List Value} {S : zM} (h : D_Mo_isBeginning_22 k lv st S = some res) (hk : ∀ a0 a1 a2 a3 a4 a5 S, k a0 a1 a2 a3 a4 a5 S = some res → g [some (.ref a0), some (.int a1), some (.int a2), some (.int a3), some (.int a4), some (.int a5)] 22 [] S) : g lv 22 st S := by
  unfold D_Mo_isBeginning_22 at h
  split at h
  · exact Hw _ _ _ _ _ (by simp [zle]) (hk _ _ _ _ _ _ _  h)
  · cases h
def D_Mo_isBeginning_56 (k : Nat → Int32 → Int32 → Int32 → zM → Option (Int32 × zM)) (lv : zV) (st : List Value) (S : zM) : Option (Int32 × zM) := match lv, st with
  | [some (.ref a0), some (.int a1), some (.int a2), some (.int a3), _, _], [] => k a0 a1 a2 a3 S
  | _, _ => none
theorem d_Mo_isBeginning_56 {g : zV → Nat → List Value → zM → Prop} (Hw : zWk g) {k : Nat → Int32 → Int32 → Int32 → zM → Option (Int32 × zM)} {res : (Int32 × zM)} {lv : zV} {st : List Value} {S : zM} (h : D_Mo_isBeginning_56 k lv st S = some res) (hk : ∀ a0 a1 a2 a3 S, k a0 a1 a2 a3 S = some res → g [some (.ref a0), some (.int a1), some (.int a2), some (.int a3), none, none] 56 [] S) : g lv 56 st S := by
  unfold D_Mo_isBeginning_56 at h
  split at h
  · exact Hw _ _ _ _ _ (by simp [zle]) (hk _ _ _ _ _  h)
  · cases h
set_option maxRecDepth 100000 in
theorem r_Mo_isBeginning_56 (k2 : Nat → Int32 → Int32 → Int32 → zM → Option (Int32 × zM)) (a0 : Nat) (a1 : Int32) (a2 : Int32) (a3 : Int32) (S : zM) : F_Mo_isBeginning_56 k2 a0 a1 a2 a3 S = zrt true zP_Mo_isBeginning (zE_Mo_isBeginning (Int32 × zM)) zc_Mo_isBeginning zkI (fun pc lv st S => bif Nat.beq pc 2 then D_Mo_isBeginning_2 k2 lv st S else none) 1000 56 [some (.ref a0), some (.int a1), some (.int a2), some (.int a3), none, none] [] S := rfl
theorem g_Mo_isBeginning_56 {g : zV → Nat → List Value → zM → Prop} {res : (Int32 × zM)} (H : zCl true zP_Mo_isBeginning (zE_Mo_isBeginning (Int32 × zM)) zkI res g) (Hw : zWk g) {k2 : Nat → Int32 → Int32 → Int32 → zM → Option (Int32 × zM)} (hk2 : ∀ a0 a1 a2 a3 S, k2 a0 a1 a2 a3 S = some res → g [some (.ref a0), some (.int a1), some (.int a2), some (.int a3), none, none] 2 [] S) (a0 : Nat) (a1 : Int32) (a2 : Int32) (a3 : Int32) (S : zM) (h : F_Mo_isBeginning_56 k2 a0 a1 a2 a3 S = some res) : g [some (.ref a0), some (.int a1), some (.int a2), some (.int a3), none, none] 56 [] S := by
  refine H zc_Mo_isBeginning _ 1000 _ _ _ _ ((r_Mo_isBeginning_56 k2 a0 a1 a2 a3 S).symm.trans h) (fun pc lv st S hK => ?_)
  rcases zdis hK with ⟨rfl, hK⟩ | hK
  · exact d_Mo_isBeginning_2 Hw hK hk2
  cases hK
set_option maxRecDepth 100000 in
theorem r_Mo_isBeginning_22 (k56 : Nat → Int32 → Int32 → Int32 → zM → Option (Int32 × zM)) (n : Nat) (a0 : Nat) (a1 : Int32) (a2 : Int32) (a3 : Int32) (a4 : Int32) (a5 : Int32) (S : zM) : L_Mo_isBeginning_22 k56 (n + 1) a0 a1 a2 a3 a4 a5 S = zrt true zP_Mo_isBeginning (zE_Mo_isBeginning (Int32 × zM)) zc_Mo_isBeginning zkI (fun pc lv st S => bif Nat.beq pc 22 then D_Mo_isBeginning_22 (L_Mo_isBeginning_22 k56 n) lv st S else bif Nat.beq pc 56 then D_Mo_isBeginning_56 k56 lv st S else none) 1000 22 [some (.ref a0), some (.int a1), some (.int a2), some (.int a3), some (.int a4), some (.int a5)] [] S := rfl
theorem g_Mo_isBeginning_22 {g : zV → Nat → List Value → zM → Prop} {res : (Int32 × zM)} (H : zCl true zP_Mo_isBeginning (zE_Mo_isBeginning (Int32 × zM)) zkI res g) (Hw : zWk g) {k56 : Nat → Int32 → Int32 → Int32 → zM → Option (Int32 × zM)} (hk56 : ∀ a0 a1 a2 a3 S, k56 a0 a1 a2 a3 S = some res → g [some (.ref a0), some (.int a1), some (.int a2), some (.int a3), none, none] 56 [] S) (n : Nat) : ∀ (a0 : Nat) (a1 : Int32) (a2 : Int32) (a3 : Int32) (a4 : Int32) (a5 : Int32) (S : zM), L_Mo_isBeginning_22 k56 n a0 a1 a2 a3 a4 a5 S = some res → g [some (.ref a0), some (.int a1), some (.int a2), some (.int a3), some (.int a4), some (.int a5)] 22 [] S := by
  induction n with
  | zero => intro a0 a1 a2 a3 a4 a5 S h; cases h
  | succ n ih =>
    intro a0 a1 a2 a3 a4 a5 S h
    refine H zc_Mo_isBeginning _ 1000 _ _ _ _ ((r_Mo_isBeginning_22 k56 n a0 a1 a2 a3 a4 a5 S).symm.trans h) (fun pc lv st S hK => ?_)
    rcases zdis hK with ⟨rfl, hK⟩ | hK
    · exact d_Mo_isBeginning_22 Hw hK ih
    rcases zdis hK with ⟨rfl, hK⟩ | hK
    · exact d_Mo_isBeginning_56 Hw hK hk56
    cases hK
set_option maxRecDepth 100000 in
theorem r_Mo_isBeginning_2 (n : Nat) (a0 : Nat) (a1 : Int32) (a2 : Int32) (a3 : Int32) (S : zM) : L_Mo_isBeginning_2 (n + 1) a0 a1 a2 a3 S = zrt true zP_Mo_isBeginning (zE_Mo_isBeginning (Int32 × zM)) zc_Mo_isBeginning zkI (fun pc lv st S => bif Nat.beq pc 22 then D_Mo_isBeginning_22 (L_Mo_isBeginning_22 (F_Mo_isBeginning_56 (L_Mo_isBeginning_2 n)) zF) lv st S else none) 1000 2 [some (.ref a0), some (.int a1), some (.int a2), some (.int a3), none, none] [] S := rfl
theorem g_Mo_isBeginning_2 {g : zV → Nat → List Value → zM → Prop} {res : (Int32 × zM)} (H : zCl true zP_Mo_isBeginning (zE_Mo_isBeginning (Int32 × zM)) zkI res g) (Hw : zWk g) (n : Nat) : ∀ (a0 : Nat) (a1 : Int32) (a2 : Int32) (a3 : Int32) (S : zM), L_Mo_isBeginning_2 n a0 a1 a2 a3 S = some res → g [some (.ref a0), some (.int a1), some (.int a2), some (.int a3), none, none] 2 [] S := by
  induction n with
  | zero => intro a0 a1 a2 a3 S h; cases h
  | succ n ih =>
    intro a0 a1 a2 a3 S h
    refine H zc_Mo_isBeginning _ 1000 _ _ _ _ ((r_Mo_isBeginning_2 n a0 a1 a2 a3 S).symm.trans h) (fun pc lv st S hK => ?_)
    rcases zdis hK with ⟨rfl, hK⟩ | hK
    · exact d_Mo_isBeginning_22 Hw hK (g_Mo_isBeginning_22 H Hw (g_Mo_isBeginning_56 H Hw ih) zF)
    cases hK
set_option maxRecDepth 100000 in
theorem r_Mo_isBeginning (a0 : Nat) (a1 : Int32) (a2 : Int32) (S : zM) : f_Mo_isBeginning a0 a1 a2 S = zrt true zP_Mo_isBeginning (zE_Mo_isBeginning (Int32 × zM)) zc_Mo_isBeginning zkI (fun pc lv st S => bif Nat.beq pc 2 then D_Mo_isBeginning_2 (L_Mo_isBeginning_2 zF) lv st S else none) 1000 0 [some (.ref a0), some (.int a1), some (.int a2), none, none, none] [] S := rfl
theorem G_Mo_isBeginning {g : zV → Nat → List Value → zM → Prop} {res : (Int32 × zM)} (H : zCl true zP_Mo_isBeginning (zE_Mo_isBeginning (Int32 × zM)) zkI res g) (Hw : zWk g) (a0 : Nat) (a1 : Int32) (a2 : Int32) (S : zM) (h : f_Mo_isBeginning a0 a1 a2 S = some res) : g [some (.ref a0), some (.int a1), some (.int a2), none, none, none] 0 [] S := by
  refine H zc_Mo_isBeginning _ 1000 _ _ _ _ ((r_Mo_isBeginning a0 a1 a2 S).symm.trans h) (fun pc lv st S hK => ?_)
  rcases zdis hK with ⟨rfl, hK⟩ | hK
  · exact d_Mo_isBeginning_2 Hw hK (g_Mo_isBeginning_2 H Hw  zF)
  cases hK
set_option maxRecDepth 100000 in
theorem ok_Mo_isBeginning : zokT 12 [95, 96] false 1 24 6 true (some .boolean) cX12_isBeginning zP_Mo_isBeginning = true := by decide +kernel
set_option maxRecDepth 100000 in
theorem s_Mo_isBeginning {l : Launch} {HB : Heap} {b L : Nat} {xs : Nat → Int32} {aK aV : Nat → Nat} {G : va_G} {tc : Nat → ClassId} (h0 : zSnd l HB b L xs aK aV G tc (zMT.getD 95 zyD) (fun α => zA_II_I f_Mo_rowOf)) (h1 : zSnd l HB b L xs aK aV G tc (zMT.getD 96 zyD) (fun α => zA_vRII_I 12 f_Mo_beginning)) : zSnd l HB b L xs aK aV G tc (zMT.getD 97 zyD) (fun α => zA_vRII_I 12 f_Mo_isBeginning) := by
  rw [show zMT.getD 97 zyD = (yX12_isBeginning, cX12_isBeginning, 6, (some .boolean), 0, 3, 1, 24) from rfl]
  intro α as S k res h
  unfold zA_vRII_I at h
  dsimp only at h
  split at h
  · rename_i a0 a1 a2
    obtain ⟨p, hp, h⟩ := zbind h
    unfold zcl at hp
    split at hp
    · rename_i hkd
      have hm := zmeth (l := l) (HB := HB) (b := b) (L := L) (xs := xs) (aK := aK) (aV := aV) (G := G) (tc := tc) (q := (yX12_isBeginning, cX12_isBeginning, 6, (some .boolean), 0, 3, 1, 24)) (o := 12) (cs := [95, 96]) (rz := true) (T := zP_Mo_isBeginning) (E := zE_Mo_isBeginning (Int32 × zM)) (kr := zkI) (res := p) (v0 := some (.int p.1)) (S0 := p.2) (as := [.ref a0, .int a1, .int a2]) (S := S) zMT_fine (by decide +kernel) (fun i as S k' h => by
        unfold zE_Mo_isBeginning at h
        rcases zdisf h with ⟨rfl, h⟩ | h
        · exact h0 _ _ _ _ _ h
        rcases zdisf h with ⟨rfl, h⟩ | h
        · exact h1 _ _ _ _ _ h
        cases h) ok_Mo_isBeginning rfl (fun v S' h => zkI_inv h) (Nat.le_of_ble_eq_true rfl) (fun g H Hw => Hw _ [some (.ref a0), some (.int a1), some (.int a2), none, none, none] _ _ _ ⟨rfl, rfl, rfl, trivial⟩ (G_Mo_isBeginning H Hw a0 a1 a2 S hp))
      exact ⟨_, _, h, hm.1, rfl, fun _ => ⟨_, _, rfl⟩, (fun _ U H hK hH a r e => by cases e; exact zrecv (ci := 12) (by omega) hkd rfl U H hK hH), hm.2⟩
    · cases hp
  · cases h
def zP_Mo_laysStates : List (List (Nat × zE)) := [[(0, e1 (.aload_n 0) 1 0), (1, ei (.iconst 0) 2 0 (0)), (2, e3 (.putfield 312) 5 12 31 0), (5, ei (.iconst 0) 6 0 (0)), (6, e1 (.istore_n 2) 7 2), (7, e1 (.iload_n 2) 8 2), (8, ei (.sipush 2048) 11 0 (2048)), (11, e1 (.if_icmp .ge 38) 14 49), (14, e1 (.aload_n 0) 15 0), (15, e1 (.iload_n 1) 16 1)],
  [(16, e1 (.iload_n 2) 17 2), (17, e3 (.invokevirtual 326) 20 0 3 0), (20, e1 (.ifCond .eq 23) 23 43), (23, e1 (.aload_n 0) 24 0), (24, e3 (.getfield 46) 27 12 30 2), (27, e1 (.aload_n 0) 28 0), (28, e3 (.getfield 312) 31 12 31 0), (31, e1 (.iload_n 2) 32 2)],
  [(32, e0 (.iastore) 33), (33, e1 (.aload_n 0) 34 0), (34, e0 (.dup) 35), (35, e3 (.getfield 312) 38 12 31 0), (38, ei (.iconst 1) 39 0 (1)), (39, e0 (.iadd) 40), (40, e3 (.putfield 312) 43 12 31 0), (43, ei (.iinc 2 1) 46 2 (1)), (46, e1 (.goto (-39)) 49 7)],
  [(49, e0 (.return_) 50)]]
noncomputable def zE_Mo_laysStates (α : Type) : Nat → zX α := fun i => bif Nat.beq i 0 then zA_vRII_I 12 f_Mo_isBeginning else fun _ _ _ => none
def zc_Mo_laysStates : Nat → Bool := fun pc => Nat.beq pc 7
def D_Mo_laysStates_7 (k : Nat → Int32 → Int32 → zM → Option zM) (lv : zV) (st : List Value) (S : zM) : Option zM := match lv, st with
  | [some (.ref a0), some (.int a1), some (.int a2)], [] => k a0 a1 a2 S
  | _, _ => none
theorem d_Mo_laysStates_7 {g : zV → Nat → List Value → zM → Prop} (Hw : zWk g) {k : Nat → Int32 → Int32 → zM → Option zM} {res : zM} {lv : zV} {st : List Value} {S : zM} (h : D_Mo_laysStates_7 k lv st S = some res) (hk : ∀ a0 a1 a2 S, k a0 a1 a2 S = some res → g [some (.ref a0), some (.int a1), some (.int a2)] 7 [] S) : g lv 7 st S := by
  unfold D_Mo_laysStates_7 at h
  split at h
  · exact Hw _ _ _ _ _ (by simp [zle]) (hk _ _ _ _  h)
  · cases h
set_option maxRecDepth 100000 in
theorem r_Mo_laysStates_7 (n : Nat) (a0 : Nat) (a1 : Int32) (a2 : Int32) (S : zM) : L_Mo_laysStates_7 (n + 1) a0 a1 a2 S = zrt false zP_Mo_laysStates (zE_Mo_laysStates zM) zc_Mo_laysStates zkV (fun pc lv st S => bif Nat.beq pc 7 then D_Mo_laysStates_7 (L_Mo_laysStates_7 n) lv st S else none) 1000 7 [some (.ref a0), some (.int a1), some (.int a2)] [] S := rfl
theorem g_Mo_laysStates_7 {g : zV → Nat → List Value → zM → Prop} {res : zM} (H : zCl false zP_Mo_laysStates (zE_Mo_laysStates zM) zkV res g) (Hw : zWk g) (n : Nat) : ∀ (a0 : Nat) (a1 : Int32) (a2 : Int32) (S : zM), L_Mo_laysStates_7 n a0 a1 a2 S = some res → g [some (.ref a0), some (.int a1), some (.int a2)] 7 [] S := by
  induction n with
  | zero => intro a0 a1 a2 S h; cases h
  | succ n ih =>
    intro a0 a1 a2 S h
    refine H zc_Mo_laysStates _ 1000 _ _ _ _ ((r_Mo_laysStates_7 n a0 a1 a2 S).symm.trans h) (fun pc lv st S hK => ?_)
    rcases zdis hK with ⟨rfl, hK⟩ | hK
    · exact d_Mo_laysStates_7 Hw hK ih
    cases hK
set_option maxRecDepth 100000 in
theorem r_Mo_laysStates (a0 : Nat) (a1 : Int32) (S : zM) : f_Mo_laysStates a0 a1 S = zrt false zP_Mo_laysStates (zE_Mo_laysStates zM) zc_Mo_laysStates zkV (fun pc lv st S => bif Nat.beq pc 7 then D_Mo_laysStates_7 (L_Mo_laysStates_7 zF) lv st S else none) 1000 0 [some (.ref a0), some (.int a1), none] [] S := rfl
theorem G_Mo_laysStates {g : zV → Nat → List Value → zM → Prop} {res : zM} (H : zCl false zP_Mo_laysStates (zE_Mo_laysStates zM) zkV res g) (Hw : zWk g) (a0 : Nat) (a1 : Int32) (S : zM) (h : f_Mo_laysStates a0 a1 S = some res) : g [some (.ref a0), some (.int a1), none] 0 [] S := by
  refine H zc_Mo_laysStates _ 1000 _ _ _ _ ((r_Mo_laysStates a0 a1 S).symm.trans h) (fun pc lv st S hK => ?_)
  rcases zdis hK with ⟨rfl, hK⟩ | hK
  · exact d_Mo_laysStates_7 Hw hK (g_Mo_laysStates_7 H Hw  zF)
  cases hK
set_option maxRecDepth 100000 in
theorem ok_Mo_laysStates : zokT 12 [97] false 2 49 3 false none cX12_laysStates zP_Mo_laysStates = true := by decide +kernel
set_option maxRecDepth 100000 in
theorem s_Mo_laysStates {l : Launch} {HB : Heap} {b L : Nat} {xs : Nat → Int32} {aK aV : Nat → Nat} {G : va_G} {tc : Nat → ClassId} (h0 : zSnd l HB b L xs aK aV G tc (zMT.getD 97 zyD) (fun α => zA_vRII_I 12 f_Mo_isBeginning)) : zSnd l HB b L xs aK aV G tc (zMT.getD 98 zyD) (fun α => zA_vRI_V 12 f_Mo_laysStates) := by
  rw [show zMT.getD 98 zyD = (yX12_laysStates, cX12_laysStates, 3, none, 0, 2, 2, 49) from rfl]
  intro α as S k res h
  unfold zA_vRI_V at h
  dsimp only at h
  split at h
  · rename_i a0 a1
    obtain ⟨p, hp, h⟩ := zbind h
    unfold zcl at hp
    split at hp
    · rename_i hkd
      have hm := zmeth (l := l) (HB := HB) (b := b) (L := L) (xs := xs) (aK := aK) (aV := aV) (G := G) (tc := tc) (q := (yX12_laysStates, cX12_laysStates, 3, none, 0, 2, 2, 49)) (o := 12) (cs := [97]) (rz := false) (T := zP_Mo_laysStates) (E := zE_Mo_laysStates zM) (kr := zkV) (res := p) (v0 := none) (S0 := p) (as := [.ref a0, .int a1]) (S := S) zMT_fine (by decide +kernel) (fun i as S k' h => by
        unfold zE_Mo_laysStates at h
        rcases zdisf h with ⟨rfl, h⟩ | h
        · exact h0 _ _ _ _ _ h
        cases h) ok_Mo_laysStates rfl (fun v S' h => zkV_inv h) (Nat.le_of_ble_eq_true rfl) (fun g H Hw => Hw _ [some (.ref a0), some (.int a1), none] _ _ _ ⟨rfl, rfl, trivial⟩ (G_Mo_laysStates H Hw a0 a1 S hp))
      exact ⟨_, _, h, hm.1, rfl, fun _ => ⟨_, _, rfl⟩, (fun _ U H hK hH a r e => by cases e; exact zrecv (ci := 12) (by omega) hkd rfl U H hK hH), hm.2⟩
    · cases hp
  · cases h
def zP_Mo_pass : List (List (Nat × zE)) := [[(0, e1 (.aload_n 0) 1 0), (1, e3 (.invokevirtual 272) 4 0 1 0), (4, e1 (.aload_n 0) 5 0), (5, e1 (.iload_n 1) 6 1), (6, e3 (.invokevirtual 303) 9 1 2 0), (9, e1 (.ifCond .eq 12) 12 21), (12, e1 (.iload_n 2) 13 2), (13, ei (.iconst 0) 14 0 (0)), (14, ei (.iconst 2) 15 0 (2)), (15, e3 (.invokestatic 156) 18 2 3 0)],
  [(18, e1 (.ifCond .ne 9) 21 27), (21, e1 (.aload_n 0) 22 0), (22, ei (.iconst 1) 23 0 (1)), (23, e3 (.invokevirtual 275) 26 3 2 0), (26, e0 (.ireturn) 27), (27, e1 (.aload_n 0) 28 0), (28, e1 (.iload_n 1) 29 1), (29, e3 (.invokevirtual 309) 32 4 2 0)],
  [(32, e1 (.iload_n 2) 33 2), (33, e1 (.ifCond .ne 12) 36 45), (36, e1 (.aload_n 0) 37 0), (37, e3 (.getfield 20) 40 12 11 2), (40, e1 (.iload_n 1) 41 1), (41, e0 (.iaload) 42), (42, e1 (.goto 29) 45 71), (45, e1 (.iload_n 2) 46 2), (46, ei (.iconst 1) 47 0 (1)), (47, e1 (.if_icmp .ne 20) 50 67)],
  [(50, e1 (.aload_n 0) 51 0), (51, e3 (.getfield 23) 54 12 12 2), (54, e1 (.iload_n 1) 55 1), (55, e0 (.baload) 56), (56, e1 (.ifCond .eq 7) 59 63), (59, ei (.iconst 1) 60 0 (1)), (60, e1 (.goto 11) 63 71), (63, ei (.iconst 0) 64 0 (0))],
  [(64, e1 (.goto 7) 67 71), (67, e1 (.aload_n 0) 68 0), (68, e3 (.getfield 312) 71 12 31 0), (71, e0 (.ireturn) 72)]]
noncomputable def zE_Mo_pass (α : Type) : Nat → zX α := fun i => bif Nat.beq i 0 then zA_vR_V 12 f_Mo_fresh else bif Nat.beq i 1 then zA_vRI_I 12 f_Mo_isPass else bif Nat.beq i 2 then zA_III_I f_Mo_in else bif Nat.beq i 3 then zA_vRI_I 12 f_Mo_no else bif Nat.beq i 4 then zA_vRI_V 12 f_Mo_laysStates else fun _ _ _ => none
def zc_Mo_pass : Nat → Bool := fun pc => false
set_option maxRecDepth 100000 in
theorem r_Mo_pass (a0 : Nat) (a1 : Int32) (a2 : Int32) (S : zM) : f_Mo_pass a0 a1 a2 S = zrt false zP_Mo_pass (zE_Mo_pass (Int32 × zM)) zc_Mo_pass zkI (fun pc lv st S => none) 1000 0 [some (.ref a0), some (.int a1), some (.int a2)] [] S := rfl
theorem G_Mo_pass {g : zV → Nat → List Value → zM → Prop} {res : (Int32 × zM)} (H : zCl false zP_Mo_pass (zE_Mo_pass (Int32 × zM)) zkI res g) (Hw : zWk g) (a0 : Nat) (a1 : Int32) (a2 : Int32) (S : zM) (h : f_Mo_pass a0 a1 a2 S = some res) : g [some (.ref a0), some (.int a1), some (.int a2)] 0 [] S := by
  refine H zc_Mo_pass _ 1000 _ _ _ _ ((r_Mo_pass a0 a1 a2 S).symm.trans h) (fun pc lv st S hK => ?_)
  cases hK
set_option maxRecDepth 100000 in
theorem ok_Mo_pass : zokT 12 [61, 94, 62, 63, 98] false 3 71 3 false (some .int) cX12_pass zP_Mo_pass = true := by decide +kernel
set_option maxRecDepth 100000 in
theorem s_Mo_pass {l : Launch} {HB : Heap} {b L : Nat} {xs : Nat → Int32} {aK aV : Nat → Nat} {G : va_G} {tc : Nat → ClassId} (h0 : zSnd l HB b L xs aK aV G tc (zMT.getD 61 zyD) (fun α => zA_vR_V 12 f_Mo_fresh)) (h1 : zSnd l HB b L xs aK aV G tc (zMT.getD 94 zyD) (fun α => zA_vRI_I 12 f_Mo_isPass)) (h2 : zSnd l HB b L xs aK aV G tc (zMT.getD 62 zyD) (fun α => zA_III_I f_Mo_in)) (h3 : zSnd l HB b L xs aK aV G tc (zMT.getD 63 zyD) (fun α => zA_vRI_I 12 f_Mo_no)) (h4 : zSnd l HB b L xs aK aV G tc (zMT.getD 98 zyD) (fun α => zA_vRI_V 12 f_Mo_laysStates)) : zSnd l HB b L xs aK aV G tc (zMT.getD 99 zyD) (fun α => zA_vRII_I 12 f_Mo_pass) := by
  rw [show zMT.getD 99 zyD = (yX12_pass, cX12_pass, 3, (some .int), 0, 3, 3, 71) from rfl]
  intro α as S k res h
  unfold zA_vRII_I at h
  dsimp only at h
  split at h
  · rename_i a0 a1 a2
    obtain ⟨p, hp, h⟩ := zbind h
    unfold zcl at hp
    split at hp
    · rename_i hkd
      have hm := zmeth (l := l) (HB := HB) (b := b) (L := L) (xs := xs) (aK := aK) (aV := aV) (G := G) (tc := tc) (q := (yX12_pass, cX12_pass, 3, (some .int), 0, 3, 3, 71)) (o := 12) (cs := [61, 94, 62, 63, 98]) (rz := false) (T := zP_Mo_pass) (E := zE_Mo_pass (Int32 × zM)) (kr := zkI) (res := p) (v0 := some (.int p.1)) (S0 := p.2) (as := [.ref a0, .int a1, .int a2]) (S := S) zMT_fine (by decide +kernel) (fun i as S k' h => by
        unfold zE_Mo_pass at h
        rcases zdisf h with ⟨rfl, h⟩ | h
        · exact h0 _ _ _ _ _ h
        rcases zdisf h with ⟨rfl, h⟩ | h
        · exact h1 _ _ _ _ _ h
        rcases zdisf h with ⟨rfl, h⟩ | h
        · exact h2 _ _ _ _ _ h
        rcases zdisf h with ⟨rfl, h⟩ | h
        · exact h3 _ _ _ _ _ h
        rcases zdisf h with ⟨rfl, h⟩ | h
        · exact h4 _ _ _ _ _ h
        cases h) ok_Mo_pass rfl (fun v S' h => zkI_inv h) (Nat.le_of_ble_eq_true rfl) (fun g H Hw => Hw _ [some (.ref a0), some (.int a1), some (.int a2)] _ _ _ ⟨rfl, rfl, rfl, trivial⟩ (G_Mo_pass H Hw a0 a1 a2 S hp))
      exact ⟨_, _, h, hm.1, rfl, fun _ => ⟨_, _, rfl⟩, (fun _ U H hK hH a r e => by cases e; exact zrecv (ci := 12) (by omega) hkd rfl U H hK hH), hm.2⟩
    · cases hp
  · cases h
def zP_Script_ruleAt : List (List (Nat × zE)) := [[(0, e1 (.aload_n 0) 1 0), (1, e1 (.iload_n 1) 2 1), (2, e3 (.invokevirtual 39) 5 0 2 0), (5, e1 (.astore_n 3) 6 3), (6, e1 (.aload_n 3) 7 3), (7, e1 (.ifnonnull 7) 10 14), (10, e0 (.aconst_null) 11), (11, e1 (.goto 8) 14 19), (14, e1 (.aload_n 3) 15 3), (15, e1 (.iload_n 2) 16 2)],
  [(16, e3 (.invokevirtual 43) 19 1 2 0), (19, e0 (.areturn) 20)]]
noncomputable def zE_Script_ruleAt (α : Type) : Nat → zX α := fun i => bif Nat.beq i 0 then zA_vRI_N 10 f_Script_passAt else bif Nat.beq i 1 then zA_vRI_N 5 f_Pass_ruleAt else fun _ _ _ => none
def zc_Script_ruleAt : Nat → Bool := fun pc => false
set_option maxRecDepth 100000 in
theorem r_Script_ruleAt (a0 : Nat) (a1 : Int32) (a2 : Int32) (S : zM) : f_Script_ruleAt a0 a1 a2 S = zrt false zP_Script_ruleAt (zE_Script_ruleAt (Option Nat × zM)) zc_Script_ruleAt zkN (fun pc lv st S => none) 1000 0 [some (.ref a0), some (.int a1), some (.int a2), none] [] S := rfl
theorem G_Script_ruleAt {g : zV → Nat → List Value → zM → Prop} {res : (Option Nat × zM)} (H : zCl false zP_Script_ruleAt (zE_Script_ruleAt (Option Nat × zM)) zkN res g) (Hw : zWk g) (a0 : Nat) (a1 : Int32) (a2 : Int32) (S : zM) (h : f_Script_ruleAt a0 a1 a2 S = some res) : g [some (.ref a0), some (.int a1), some (.int a2), none] 0 [] S := by
  refine H zc_Script_ruleAt _ 1000 _ _ _ _ ((r_Script_ruleAt a0 a1 a2 S).symm.trans h) (fun pc lv st S hK => ?_)
  cases hK
set_option maxRecDepth 100000 in
theorem ok_Script_ruleAt : zokT 10 [44, 47] false 1 21 4 false (some (.object "CarriedLetters$Rule")) cX10_ruleAt zP_Script_ruleAt = true := by decide +kernel
set_option maxRecDepth 100000 in
theorem s_Script_ruleAt {l : Launch} {HB : Heap} {b L : Nat} {xs : Nat → Int32} {aK aV : Nat → Nat} {G : va_G} {tc : Nat → ClassId} (h0 : zSnd l HB b L xs aK aV G tc (zMT.getD 44 zyD) (fun α => zA_vRI_N 10 f_Script_passAt)) (h1 : zSnd l HB b L xs aK aV G tc (zMT.getD 47 zyD) (fun α => zA_vRI_N 5 f_Pass_ruleAt)) : zSnd l HB b L xs aK aV G tc (zMT.getD 100 zyD) (fun α => zA_vRII_N 10 f_Script_ruleAt) := by
  rw [show zMT.getD 100 zyD = (yX10_ruleAt, cX10_ruleAt, 4, (some (.object "CarriedLetters$Rule")), 0, 3, 1, 21) from rfl]
  intro α as S k res h
  unfold zA_vRII_N at h
  dsimp only at h
  split at h
  · rename_i a0 a1 a2
    obtain ⟨p, hp, h⟩ := zbind h
    unfold zcl at hp
    split at hp
    · rename_i hkd
      have hm := zmeth (l := l) (HB := HB) (b := b) (L := L) (xs := xs) (aK := aK) (aV := aV) (G := G) (tc := tc) (q := (yX10_ruleAt, cX10_ruleAt, 4, (some (.object "CarriedLetters$Rule")), 0, 3, 1, 21)) (o := 10) (cs := [44, 47]) (rz := false) (T := zP_Script_ruleAt) (E := zE_Script_ruleAt (Option Nat × zM)) (kr := zkN) (res := p) (v0 := some (match p.1 with | some a => .ref a | none => .null)) (S0 := p.2) (as := [.ref a0, .int a1, .int a2]) (S := S) zMT_fine (by decide +kernel) (fun i as S k' h => by
        unfold zE_Script_ruleAt at h
        rcases zdisf h with ⟨rfl, h⟩ | h
        · exact h0 _ _ _ _ _ h
        rcases zdisf h with ⟨rfl, h⟩ | h
        · exact h1 _ _ _ _ _ h
        cases h) ok_Script_ruleAt rfl (fun v S' h => zkN_inv h) (Nat.le_of_ble_eq_true rfl) (fun g H Hw => Hw _ [some (.ref a0), some (.int a1), some (.int a2), none] _ _ _ ⟨rfl, rfl, rfl, trivial⟩ (G_Script_ruleAt H Hw a0 a1 a2 S hp))
      exact ⟨_, _, (by cases hq : p.1 <;> rw [hq] at h <;> exact h), hm.1, rfl, fun _ => ⟨_, _, rfl⟩, (fun _ U H hK hH a r e => by cases e; exact zrecv (ci := 10) (by omega) hkd rfl U H hK hH), hm.2⟩
    · cases hp
  · cases h
def zP_Cl_bitsBelow : List (List (Nat × zE)) := [[(0, ei (.iconst 1) 1 0 (1)), (1, e1 (.iload_n 0) 2 0), (2, e0 (.ishl) 3), (3, ei (.iconst 1) 4 0 (1)), (4, e0 (.isub) 5), (5, e0 (.ireturn) 6)]]
noncomputable def zE_Cl_bitsBelow (α : Type) : Nat → zX α := fun _ => fun _ _ _ => none
def zc_Cl_bitsBelow : Nat → Bool := fun pc => false
set_option maxRecDepth 100000 in
theorem r_Cl_bitsBelow (a0 : Int32) (S : zM) : f_Cl_bitsBelow a0 S = zrt false zP_Cl_bitsBelow (zE_Cl_bitsBelow (Int32 × zM)) zc_Cl_bitsBelow zkI (fun pc lv st S => none) 1000 0 [some (.int a0)] [] S := rfl
theorem G_Cl_bitsBelow {g : zV → Nat → List Value → zM → Prop} {res : (Int32 × zM)} (H : zCl false zP_Cl_bitsBelow (zE_Cl_bitsBelow (Int32 × zM)) zkI res g) (Hw : zWk g) (a0 : Int32) (S : zM) (h : f_Cl_bitsBelow a0 S = some res) : g [some (.int a0)] 0 [] S := by
  refine H zc_Cl_bitsBelow _ 1000 _ _ _ _ ((r_Cl_bitsBelow a0 S).symm.trans h) (fun pc lv st S hK => ?_)
  cases hK
set_option maxRecDepth 100000 in
theorem ok_Cl_bitsBelow : zokT 11 [] false 0 0 1 false (some .int) cX11_bitsBelow zP_Cl_bitsBelow = true := by decide +kernel
set_option maxRecDepth 100000 in
theorem s_Cl_bitsBelow {l : Launch} {HB : Heap} {b L : Nat} {xs : Nat → Int32} {aK aV : Nat → Nat} {G : va_G} {tc : Nat → ClassId} : zSnd l HB b L xs aK aV G tc (zMT.getD 101 zyD) (fun α => zA_I_I f_Cl_bitsBelow) := by
  rw [show zMT.getD 101 zyD = (yX11_bitsBelow, cX11_bitsBelow, 1, (some .int), 1, 1, 0, 0) from rfl]
  intro α as S k res h
  unfold zA_I_I at h
  dsimp only at h
  split at h
  · rename_i a0
    obtain ⟨p, hp, h⟩ := zbind h
    have hm := zmeth (l := l) (HB := HB) (b := b) (L := L) (xs := xs) (aK := aK) (aV := aV) (G := G) (tc := tc) (q := (yX11_bitsBelow, cX11_bitsBelow, 1, (some .int), 1, 1, 0, 0)) (o := 11) (cs := []) (rz := false) (T := zP_Cl_bitsBelow) (E := zE_Cl_bitsBelow (Int32 × zM)) (kr := zkI) (res := p) (v0 := some (.int p.1)) (S0 := p.2) (as := [.int a0]) (S := S) zMT_fine (by decide +kernel) (fun i as S k' h => by
      unfold zE_Cl_bitsBelow at h
      cases h) ok_Cl_bitsBelow rfl (fun v S' h => zkI_inv h) (Nat.le_of_ble_eq_true rfl) (fun g H Hw => Hw _ [some (.int a0)] _ _ _ ⟨rfl, trivial⟩ (G_Cl_bitsBelow H Hw a0 S hp))
    exact ⟨_, _, h, hm.1, rfl, fun q => absurd rfl q, (fun q => by cases q), hm.2⟩
  · cases h
def zP_Pass_serving : List (List (Nat × zE)) := [[(0, e1 (.aload_n 0) 1 0), (1, e3 (.getfield 28) 4 5 3 0), (4, e3 (.invokestatic 42) 7 0 1 0), (7, e1 (.aload_n 0) 8 0), (8, e3 (.getfield 36) 11 5 5 0), (11, ei (.iconst (-1)) 12 0 (-1)), (12, e0 (.ixor) 13), (13, e0 (.iand) 14), (14, e0 (.ireturn) 15)]]
noncomputable def zE_Pass_serving (α : Type) : Nat → zX α := fun i => bif Nat.beq i 0 then zA_I_I f_Cl_bitsBelow else fun _ _ _ => none
def zc_Pass_serving : Nat → Bool := fun pc => false
set_option maxRecDepth 100000 in
theorem r_Pass_serving (a0 : Nat) (S : zM) : f_Pass_serving a0 S = zrt false zP_Pass_serving (zE_Pass_serving (Int32 × zM)) zc_Pass_serving zkI (fun pc lv st S => none) 1000 0 [some (.ref a0)] [] S := rfl
theorem G_Pass_serving {g : zV → Nat → List Value → zM → Prop} {res : (Int32 × zM)} (H : zCl false zP_Pass_serving (zE_Pass_serving (Int32 × zM)) zkI res g) (Hw : zWk g) (a0 : Nat) (S : zM) (h : f_Pass_serving a0 S = some res) : g [some (.ref a0)] 0 [] S := by
  refine H zc_Pass_serving _ 1000 _ _ _ _ ((r_Pass_serving a0 S).symm.trans h) (fun pc lv st S hK => ?_)
  cases hK
set_option maxRecDepth 100000 in
theorem ok_Pass_serving : zokT 5 [101] false 1 20 1 false (some .int) cX5_serving zP_Pass_serving = true := by decide +kernel
set_option maxRecDepth 100000 in
theorem s_Pass_serving {l : Launch} {HB : Heap} {b L : Nat} {xs : Nat → Int32} {aK aV : Nat → Nat} {G : va_G} {tc : Nat → ClassId} (h0 : zSnd l HB b L xs aK aV G tc (zMT.getD 101 zyD) (fun α => zA_I_I f_Cl_bitsBelow)) : zSnd l HB b L xs aK aV G tc (zMT.getD 102 zyD) (fun α => zA_vR_I 5 f_Pass_serving) := by
  rw [show zMT.getD 102 zyD = (yX5_serving, cX5_serving, 1, (some .int), 0, 1, 1, 20) from rfl]
  intro α as S k res h
  unfold zA_vR_I at h
  dsimp only at h
  split at h
  · rename_i a0
    obtain ⟨p, hp, h⟩ := zbind h
    unfold zcl at hp
    split at hp
    · rename_i hkd
      have hm := zmeth (l := l) (HB := HB) (b := b) (L := L) (xs := xs) (aK := aK) (aV := aV) (G := G) (tc := tc) (q := (yX5_serving, cX5_serving, 1, (some .int), 0, 1, 1, 20)) (o := 5) (cs := [101]) (rz := false) (T := zP_Pass_serving) (E := zE_Pass_serving (Int32 × zM)) (kr := zkI) (res := p) (v0 := some (.int p.1)) (S0 := p.2) (as := [.ref a0]) (S := S) zMT_fine (by decide +kernel) (fun i as S k' h => by
        unfold zE_Pass_serving at h
        rcases zdisf h with ⟨rfl, h⟩ | h
        · exact h0 _ _ _ _ _ h
        cases h) ok_Pass_serving rfl (fun v S' h => zkI_inv h) (Nat.le_of_ble_eq_true rfl) (fun g H Hw => Hw _ [some (.ref a0)] _ _ _ ⟨rfl, trivial⟩ (G_Pass_serving H Hw a0 S hp))
      exact ⟨_, _, h, hm.1, rfl, fun _ => ⟨_, _, rfl⟩, (fun _ U H hK hH a r e => by cases e; exact zrecv (ci := 5) (by omega) hkd rfl U H hK hH), hm.2⟩
    · cases hp
  · cases h
def zP_Pass_serves : List (List (Nat × zE)) := [[(0, e1 (.aload_n 0) 1 0), (1, e3 (.invokevirtual 46) 4 0 1 0), (4, e1 (.iload_n 1) 5 1), (5, e0 (.ishr) 6), (6, ei (.iconst 1) 7 0 (1)), (7, e0 (.iand) 8), (8, ei (.iconst 1) 9 0 (1)), (9, e1 (.if_icmp .ne 7) 12 16), (12, ei (.iconst 1) 13 0 (1)), (13, e1 (.goto 4) 16 17)],
  [(16, ei (.iconst 0) 17 0 (0)), (17, e0 (.ireturn) 18)]]
noncomputable def zE_Pass_serves (α : Type) : Nat → zX α := fun i => bif Nat.beq i 0 then zA_vR_I 5 f_Pass_serving else fun _ _ _ => none
def zc_Pass_serves : Nat → Bool := fun pc => false
set_option maxRecDepth 100000 in
theorem r_Pass_serves (a0 : Nat) (a1 : Int32) (S : zM) : f_Pass_serves a0 a1 S = zrt true zP_Pass_serves (zE_Pass_serves (Int32 × zM)) zc_Pass_serves zkI (fun pc lv st S => none) 1000 0 [some (.ref a0), some (.int a1)] [] S := rfl
theorem G_Pass_serves {g : zV → Nat → List Value → zM → Prop} {res : (Int32 × zM)} (H : zCl true zP_Pass_serves (zE_Pass_serves (Int32 × zM)) zkI res g) (Hw : zWk g) (a0 : Nat) (a1 : Int32) (S : zM) (h : f_Pass_serves a0 a1 S = some res) : g [some (.ref a0), some (.int a1)] 0 [] S := by
  refine H zc_Pass_serves _ 1000 _ _ _ _ ((r_Pass_serves a0 a1 S).symm.trans h) (fun pc lv st S hK => ?_)
  cases hK
set_option maxRecDepth 100000 in
theorem ok_Pass_serves : zokT 5 [102] false 2 40 2 true (some .boolean) cX5_serves zP_Pass_serves = true := by decide +kernel
set_option maxRecDepth 100000 in
theorem s_Pass_serves {l : Launch} {HB : Heap} {b L : Nat} {xs : Nat → Int32} {aK aV : Nat → Nat} {G : va_G} {tc : Nat → ClassId} (h0 : zSnd l HB b L xs aK aV G tc (zMT.getD 102 zyD) (fun α => zA_vR_I 5 f_Pass_serving)) : zSnd l HB b L xs aK aV G tc (zMT.getD 103 zyD) (fun α => zA_vRI_I 5 f_Pass_serves) := by
  rw [show zMT.getD 103 zyD = (yX5_serves, cX5_serves, 2, (some .boolean), 0, 2, 2, 40) from rfl]
  intro α as S k res h
  unfold zA_vRI_I at h
  dsimp only at h
  split at h
  · rename_i a0 a1
    obtain ⟨p, hp, h⟩ := zbind h
    unfold zcl at hp
    split at hp
    · rename_i hkd
      have hm := zmeth (l := l) (HB := HB) (b := b) (L := L) (xs := xs) (aK := aK) (aV := aV) (G := G) (tc := tc) (q := (yX5_serves, cX5_serves, 2, (some .boolean), 0, 2, 2, 40)) (o := 5) (cs := [102]) (rz := true) (T := zP_Pass_serves) (E := zE_Pass_serves (Int32 × zM)) (kr := zkI) (res := p) (v0 := some (.int p.1)) (S0 := p.2) (as := [.ref a0, .int a1]) (S := S) zMT_fine (by decide +kernel) (fun i as S k' h => by
        unfold zE_Pass_serves at h
        rcases zdisf h with ⟨rfl, h⟩ | h
        · exact h0 _ _ _ _ _ h
        cases h) ok_Pass_serves rfl (fun v S' h => zkI_inv h) (Nat.le_of_ble_eq_true rfl) (fun g H Hw => Hw _ [some (.ref a0), some (.int a1)] _ _ _ ⟨rfl, rfl, trivial⟩ (G_Pass_serves H Hw a0 a1 S hp))
      exact ⟨_, _, h, hm.1, rfl, fun _ => ⟨_, _, rfl⟩, (fun _ U H hK hH a r e => by cases e; exact zrecv (ci := 5) (by omega) hkd rfl U H hK hH), hm.2⟩
    · cases hp
  · cases h
def zP_Script_isAside : List (List (Nat × zE)) := [[(0, e1 (.aload_n 0) 1 0), (1, e1 (.iload_n 1) 2 1), (2, e3 (.invokevirtual 39) 5 0 2 0), (5, e1 (.astore_n 3) 6 3), (6, e1 (.aload_n 3) 7 3), (7, e1 (.ifnull 23) 10 30), (10, e1 (.aload_n 3) 11 3), (11, e1 (.iload_n 2) 12 2), (12, e3 (.invokevirtual 43) 15 1 2 0), (15, e1 (.ifnull 15) 18 30)],
  [(18, e1 (.aload_n 3) 19 3), (19, e1 (.iload_n 2) 20 2), (20, e3 (.invokevirtual 59) 23 2 2 0), (23, e1 (.ifCond .ne 7) 26 30), (26, ei (.iconst 1) 27 0 (1)), (27, e1 (.goto 4) 30 31), (30, ei (.iconst 0) 31 0 (0)), (31, e0 (.ireturn) 32)]]
noncomputable def zE_Script_isAside (α : Type) : Nat → zX α := fun i => bif Nat.beq i 0 then zA_vRI_N 10 f_Script_passAt else bif Nat.beq i 1 then zA_vRI_N 5 f_Pass_ruleAt else bif Nat.beq i 2 then zA_vRI_I 5 f_Pass_serves else fun _ _ _ => none
def zc_Script_isAside : Nat → Bool := fun pc => false
set_option maxRecDepth 100000 in
theorem r_Script_isAside (a0 : Nat) (a1 : Int32) (a2 : Int32) (S : zM) : f_Script_isAside a0 a1 a2 S = zrt true zP_Script_isAside (zE_Script_isAside (Int32 × zM)) zc_Script_isAside zkI (fun pc lv st S => none) 1000 0 [some (.ref a0), some (.int a1), some (.int a2), none] [] S := rfl
theorem G_Script_isAside {g : zV → Nat → List Value → zM → Prop} {res : (Int32 × zM)} (H : zCl true zP_Script_isAside (zE_Script_isAside (Int32 × zM)) zkI res g) (Hw : zWk g) (a0 : Nat) (a1 : Int32) (a2 : Int32) (S : zM) (h : f_Script_isAside a0 a1 a2 S = some res) : g [some (.ref a0), some (.int a1), some (.int a2), none] 0 [] S := by
  refine H zc_Script_isAside _ 1000 _ _ _ _ ((r_Script_isAside a0 a1 a2 S).symm.trans h) (fun pc lv st S hK => ?_)
  cases hK
set_option maxRecDepth 100000 in
theorem ok_Script_isAside : zokT 10 [44, 47, 103] false 3 61 4 true (some .boolean) cX10_isAside zP_Script_isAside = true := by decide +kernel
set_option maxRecDepth 100000 in
theorem s_Script_isAside {l : Launch} {HB : Heap} {b L : Nat} {xs : Nat → Int32} {aK aV : Nat → Nat} {G : va_G} {tc : Nat → ClassId} (h0 : zSnd l HB b L xs aK aV G tc (zMT.getD 44 zyD) (fun α => zA_vRI_N 10 f_Script_passAt)) (h1 : zSnd l HB b L xs aK aV G tc (zMT.getD 47 zyD) (fun α => zA_vRI_N 5 f_Pass_ruleAt)) (h2 : zSnd l HB b L xs aK aV G tc (zMT.getD 103 zyD) (fun α => zA_vRI_I 5 f_Pass_serves)) : zSnd l HB b L xs aK aV G tc (zMT.getD 104 zyD) (fun α => zA_vRII_I 10 f_Script_isAside) := by
  rw [show zMT.getD 104 zyD = (yX10_isAside, cX10_isAside, 4, (some .boolean), 0, 3, 3, 61) from rfl]
  intro α as S k res h
  unfold zA_vRII_I at h
  dsimp only at h
  split at h
  · rename_i a0 a1 a2
    obtain ⟨p, hp, h⟩ := zbind h
    unfold zcl at hp
    split at hp
    · rename_i hkd
      have hm := zmeth (l := l) (HB := HB) (b := b) (L := L) (xs := xs) (aK := aK) (aV := aV) (G := G) (tc := tc) (q := (yX10_isAside, cX10_isAside, 4, (some .boolean), 0, 3, 3, 61)) (o := 10) (cs := [44, 47, 103]) (rz := true) (T := zP_Script_isAside) (E := zE_Script_isAside (Int32 × zM)) (kr := zkI) (res := p) (v0 := some (.int p.1)) (S0 := p.2) (as := [.ref a0, .int a1, .int a2]) (S := S) zMT_fine (by decide +kernel) (fun i as S k' h => by
        unfold zE_Script_isAside at h
        rcases zdisf h with ⟨rfl, h⟩ | h
        · exact h0 _ _ _ _ _ h
        rcases zdisf h with ⟨rfl, h⟩ | h
        · exact h1 _ _ _ _ _ h
        rcases zdisf h with ⟨rfl, h⟩ | h
        · exact h2 _ _ _ _ _ h
        cases h) ok_Script_isAside rfl (fun v S' h => zkI_inv h) (Nat.le_of_ble_eq_true rfl) (fun g H Hw => Hw _ [some (.ref a0), some (.int a1), some (.int a2), none] _ _ _ ⟨rfl, rfl, rfl, trivial⟩ (G_Script_isAside H Hw a0 a1 a2 S hp))
      exact ⟨_, _, h, hm.1, rfl, fun _ => ⟨_, _, rfl⟩, (fun _ U H hK hH a r e => by cases e; exact zrecv (ci := 10) (by omega) hkd rfl U H hK hH), hm.2⟩
    · cases hp
  · cases h
def zP_Cl_rule : List (List (Nat × zE)) := [[(0, e1 (.aload_n 0) 1 0), (1, e3 (.getfield 65) 4 11 10 2), (4, e1 (.iload_n 1) 5 1), (5, e1 (.iload_n 2) 6 2), (6, e3 (.invokevirtual 152) 9 0 3 0), (9, e1 (.astore 4) 11 4), (11, e1 (.aload 4) 13 4), (13, e1 (.ifnonnull 9) 16 22)],
  [(16, e1 (.aload_n 0) 17 0), (17, ei (.iconst 1) 18 0 (1)), (18, e3 (.invokevirtual 79) 21 1 2 0), (21, e0 (.ireturn) 22), (22, e1 (.iload_n 3) 23 3), (23, et (.tableswitch 101 0 4 #[33, 46, 59, 69, 79]) 124 [(0, 56), (1, 69), (2, 82), (3, 92), (4, 102)])],
  [],
  [(56, e1 (.aload_n 0) 57 0), (57, e1 (.aload 4) 59 4), (59, e3 (.getfield 156) 62 9 0 2), (62, e3 (.getfield 161) 65 8 1 0)],
  [(65, e3 (.invokevirtual 109) 68 2 2 0), (68, e0 (.ireturn) 69), (69, e1 (.aload_n 0) 70 0), (70, e1 (.aload 4) 72 4), (72, e3 (.getfield 164) 75 9 1 2), (75, e3 (.getfield 161) 78 8 1 0), (78, e3 (.invokevirtual 109) 81 2 2 0)],
  [(81, e0 (.ireturn) 82), (82, e1 (.aload_n 0) 83 0), (83, e1 (.aload 4) 85 4), (85, e3 (.getfield 167) 88 9 2 0), (88, e3 (.invokevirtual 109) 91 2 2 0), (91, e0 (.ireturn) 92), (92, e1 (.aload_n 0) 93 0), (93, e1 (.aload 4) 95 4), (95, e3 (.getfield 170) 98 9 3 0)],
  [(98, e3 (.invokevirtual 109) 101 2 2 0), (101, e0 (.ireturn) 102), (102, e1 (.aload_n 0) 103 0), (103, e1 (.aload_n 0) 104 0), (104, e3 (.getfield 65) 107 11 10 2), (107, e1 (.iload_n 1) 108 1), (108, e1 (.iload_n 2) 109 2), (109, e3 (.invokevirtual 173) 112 3 3 0)],
  [(112, e1 (.ifCond .eq 7) 115 119), (115, ei (.iconst 1) 116 0 (1)), (116, e1 (.goto 4) 119 120), (119, ei (.iconst 0) 120 0 (0)), (120, e3 (.invokevirtual 109) 123 2 2 0), (123, e0 (.ireturn) 124), (124, e1 (.aload_n 0) 125 0), (125, ei (.iconst 1) 126 0 (1)), (126, e3 (.invokevirtual 79) 129 1 2 0)],
  [(129, e0 (.ireturn) 130)]]
noncomputable def zE_Cl_rule (α : Type) : Nat → zX α := fun i => bif Nat.beq i 0 then zA_vRII_N 10 f_Script_ruleAt else bif Nat.beq i 1 then zA_vRI_I 11 f_Cl_refuse else bif Nat.beq i 2 then zA_vRI_I 11 f_Cl_answer else bif Nat.beq i 3 then zA_vRII_I 10 f_Script_isAside else fun _ _ _ => none
def zc_Cl_rule : Nat → Bool := fun pc => false
set_option maxRecDepth 100000 in
theorem r_Cl_rule (a0 : Nat) (a1 : Int32) (a2 : Int32) (a3 : Int32) (S : zM) : f_Cl_rule a0 a1 a2 a3 S = zrt false zP_Cl_rule (zE_Cl_rule (Int32 × zM)) zc_Cl_rule zkI (fun pc lv st S => none) 1000 0 [some (.ref a0), some (.int a1), some (.int a2), some (.int a3), none] [] S := rfl
theorem G_Cl_rule {g : zV → Nat → List Value → zM → Prop} {res : (Int32 × zM)} (H : zCl false zP_Cl_rule (zE_Cl_rule (Int32 × zM)) zkI res g) (Hw : zWk g) (a0 : Nat) (a1 : Int32) (a2 : Int32) (a3 : Int32) (S : zM) (h : f_Cl_rule a0 a1 a2 a3 S = some res) : g [some (.ref a0), some (.int a1), some (.int a2), some (.int a3), none] 0 [] S := by
  refine H zc_Cl_rule _ 1000 _ _ _ _ ((r_Cl_rule a0 a1 a2 a3 S).symm.trans h) (fun pc lv st S hK => ?_)
  cases hK
set_option maxRecDepth 100000 in
theorem ok_Cl_rule : zokT 11 [100, 16, 59, 104] false 4 84 5 false (some .int) cX11_rule zP_Cl_rule = true := by decide +kernel
set_option maxRecDepth 100000 in
theorem s_Cl_rule {l : Launch} {HB : Heap} {b L : Nat} {xs : Nat → Int32} {aK aV : Nat → Nat} {G : va_G} {tc : Nat → ClassId} (h0 : zSnd l HB b L xs aK aV G tc (zMT.getD 100 zyD) (fun α => zA_vRII_N 10 f_Script_ruleAt)) (h1 : zSnd l HB b L xs aK aV G tc (zMT.getD 16 zyD) (fun α => zA_vRI_I 11 f_Cl_refuse)) (h2 : zSnd l HB b L xs aK aV G tc (zMT.getD 59 zyD) (fun α => zA_vRI_I 11 f_Cl_answer)) (h3 : zSnd l HB b L xs aK aV G tc (zMT.getD 104 zyD) (fun α => zA_vRII_I 10 f_Script_isAside)) : zSnd l HB b L xs aK aV G tc (zMT.getD 105 zyD) (fun α => zA_vRIII_I 11 f_Cl_rule) := by
  rw [show zMT.getD 105 zyD = (yX11_rule, cX11_rule, 5, (some .int), 0, 4, 4, 84) from rfl]
  intro α as S k res h
  unfold zA_vRIII_I at h
  dsimp only at h
  split at h
  · rename_i a0 a1 a2 a3
    obtain ⟨p, hp, h⟩ := zbind h
    unfold zcl at hp
    split at hp
    · rename_i hkd
      have hm := zmeth (l := l) (HB := HB) (b := b) (L := L) (xs := xs) (aK := aK) (aV := aV) (G := G) (tc := tc) (q := (yX11_rule, cX11_rule, 5, (some .int), 0, 4, 4, 84)) (o := 11) (cs := [100, 16, 59, 104]) (rz := false) (T := zP_Cl_rule) (E := zE_Cl_rule (Int32 × zM)) (kr := zkI) (res := p) (v0 := some (.int p.1)) (S0 := p.2) (as := [.ref a0, .int a1, .int a2, .int a3]) (S := S) zMT_fine (by decide +kernel) (fun i as S k' h => by
        unfold zE_Cl_rule at h
        rcases zdisf h with ⟨rfl, h⟩ | h
        · exact h0 _ _ _ _ _ h
        rcases zdisf h with ⟨rfl, h⟩ | h
        · exact h1 _ _ _ _ _ h
        rcases zdisf h with ⟨rfl, h⟩ | h
        · exact h2 _ _ _ _ _ h
        rcases zdisf h with ⟨rfl, h⟩ | h
        · exact h3 _ _ _ _ _ h
        cases h) ok_Cl_rule rfl (fun v S' h => zkI_inv h) (Nat.le_of_ble_eq_true rfl) (fun g H Hw => Hw _ [some (.ref a0), some (.int a1), some (.int a2), some (.int a3), none] _ _ _ ⟨rfl, rfl, rfl, rfl, trivial⟩ (G_Cl_rule H Hw a0 a1 a2 a3 S hp))
      exact ⟨_, _, h, hm.1, rfl, fun _ => ⟨_, _, rfl⟩, (fun _ U H hK hH a r e => by cases e; exact zrecv (ci := 11) (by omega) hkd rfl U H hK hH), hm.2⟩
    · cases hp
  · cases h
def zP_Mo_isRule : List (List (Nat × zE)) := [[(0, e1 (.aload_n 0) 1 0), (1, e1 (.iload_n 1) 2 1), (2, e3 (.invokevirtual 303) 5 0 2 0), (5, e1 (.ifCond .eq 23) 8 28), (8, e1 (.iload_n 2) 9 2), (9, ei (.iconst 0) 10 0 (0)), (10, e1 (.aload_n 0) 11 0), (11, e3 (.getfield 20) 14 12 11 2), (14, e1 (.iload_n 1) 15 1), (15, e0 (.iaload) 16)],
  [(16, ei (.iconst 1) 17 0 (1)), (17, e0 (.isub) 18), (18, e3 (.invokestatic 156) 21 1 3 0), (21, e1 (.ifCond .eq 7) 24 28), (24, ei (.iconst 1) 25 0 (1)), (25, e1 (.goto 4) 28 29), (28, ei (.iconst 0) 29 0 (0)), (29, e0 (.ireturn) 30)]]
noncomputable def zE_Mo_isRule (α : Type) : Nat → zX α := fun i => bif Nat.beq i 0 then zA_vRI_I 12 f_Mo_isPass else bif Nat.beq i 1 then zA_III_I f_Mo_in else fun _ _ _ => none
def zc_Mo_isRule : Nat → Bool := fun pc => false
set_option maxRecDepth 100000 in
theorem r_Mo_isRule (a0 : Nat) (a1 : Int32) (a2 : Int32) (S : zM) : f_Mo_isRule a0 a1 a2 S = zrt true zP_Mo_isRule (zE_Mo_isRule (Int32 × zM)) zc_Mo_isRule zkI (fun pc lv st S => none) 1000 0 [some (.ref a0), some (.int a1), some (.int a2)] [] S := rfl
theorem G_Mo_isRule {g : zV → Nat → List Value → zM → Prop} {res : (Int32 × zM)} (H : zCl true zP_Mo_isRule (zE_Mo_isRule (Int32 × zM)) zkI res g) (Hw : zWk g) (a0 : Nat) (a1 : Int32) (a2 : Int32) (S : zM) (h : f_Mo_isRule a0 a1 a2 S = some res) : g [some (.ref a0), some (.int a1), some (.int a2)] 0 [] S := by
  refine H zc_Mo_isRule _ 1000 _ _ _ _ ((r_Mo_isRule a0 a1 a2 S).symm.trans h) (fun pc lv st S hK => ?_)
  cases hK
set_option maxRecDepth 100000 in
theorem ok_Mo_isRule : zokT 12 [94, 62] false 2 43 3 true (some .boolean) cX12_isRule zP_Mo_isRule = true := by decide +kernel
set_option maxRecDepth 100000 in
theorem s_Mo_isRule {l : Launch} {HB : Heap} {b L : Nat} {xs : Nat → Int32} {aK aV : Nat → Nat} {G : va_G} {tc : Nat → ClassId} (h0 : zSnd l HB b L xs aK aV G tc (zMT.getD 94 zyD) (fun α => zA_vRI_I 12 f_Mo_isPass)) (h1 : zSnd l HB b L xs aK aV G tc (zMT.getD 62 zyD) (fun α => zA_III_I f_Mo_in)) : zSnd l HB b L xs aK aV G tc (zMT.getD 106 zyD) (fun α => zA_vRII_I 12 f_Mo_isRule) := by
  rw [show zMT.getD 106 zyD = (yX12_isRule, cX12_isRule, 3, (some .boolean), 0, 3, 2, 43) from rfl]
  intro α as S k res h
  unfold zA_vRII_I at h
  dsimp only at h
  split at h
  · rename_i a0 a1 a2
    obtain ⟨p, hp, h⟩ := zbind h
    unfold zcl at hp
    split at hp
    · rename_i hkd
      have hm := zmeth (l := l) (HB := HB) (b := b) (L := L) (xs := xs) (aK := aK) (aV := aV) (G := G) (tc := tc) (q := (yX12_isRule, cX12_isRule, 3, (some .boolean), 0, 3, 2, 43)) (o := 12) (cs := [94, 62]) (rz := true) (T := zP_Mo_isRule) (E := zE_Mo_isRule (Int32 × zM)) (kr := zkI) (res := p) (v0 := some (.int p.1)) (S0 := p.2) (as := [.ref a0, .int a1, .int a2]) (S := S) zMT_fine (by decide +kernel) (fun i as S k' h => by
        unfold zE_Mo_isRule at h
        rcases zdisf h with ⟨rfl, h⟩ | h
        · exact h0 _ _ _ _ _ h
        rcases zdisf h with ⟨rfl, h⟩ | h
        · exact h1 _ _ _ _ _ h
        cases h) ok_Mo_isRule rfl (fun v S' h => zkI_inv h) (Nat.le_of_ble_eq_true rfl) (fun g H Hw => Hw _ [some (.ref a0), some (.int a1), some (.int a2)] _ _ _ ⟨rfl, rfl, rfl, trivial⟩ (G_Mo_isRule H Hw a0 a1 a2 S hp))
      exact ⟨_, _, h, hm.1, rfl, fun _ => ⟨_, _, rfl⟩, (fun _ U H hK hH a r e => by cases e; exact zrecv (ci := 12) (by omega) hkd rfl U H hK hH), hm.2⟩
    · cases hp
  · cases h
def zP_Mo_rule : List (List (Nat × zE)) := [[(0, e1 (.aload_n 0) 1 0), (1, e3 (.invokevirtual 272) 4 0 1 0), (4, e1 (.aload_n 0) 5 0), (5, e1 (.iload_n 1) 6 1), (6, e1 (.iload_n 2) 7 2), (7, e3 (.invokevirtual 315) 10 1 3 0), (10, e1 (.ifCond .eq 12) 13 22), (13, e1 (.iload_n 3) 14 3), (14, ei (.iconst 0) 15 0 (0)), (15, ei (.iconst 4) 16 0 (4))],
  [(16, e3 (.invokestatic 156) 19 2 3 0), (19, e1 (.ifCond .ne 9) 22 28), (22, e1 (.aload_n 0) 23 0), (23, ei (.iconst 1) 24 0 (1)), (24, e3 (.invokevirtual 275) 27 3 2 0), (27, e0 (.ireturn) 28), (28, e1 (.iload_n 3) 29 3), (29, ei (.iconst 4) 30 0 (4)), (30, e1 (.if_icmp .ne 25) 33 55)],
  [(33, e1 (.aload_n 0) 34 0), (34, e3 (.getfield 67) 37 12 39 2), (37, ei (.bipush 8) 39 0 (8)), (39, e1 (.iload_n 1) 40 1), (40, e0 (.imul) 41), (41, e1 (.iload_n 2) 42 2), (42, e0 (.iadd) 43), (43, e0 (.baload) 44), (44, e1 (.ifCond .eq 7) 47 51), (47, ei (.iconst 1) 48 0 (1))],
  [(48, e1 (.goto 19) 51 67), (51, ei (.iconst 0) 52 0 (0)), (52, e1 (.goto 15) 55 67), (55, e1 (.aload_n 0) 56 0), (56, e3 (.getfield 27) 59 12 13 2), (59, e1 (.iload_n 1) 60 1), (60, e1 (.iload_n 2) 61 2), (61, e3 (.invokestatic 319) 64 4 2 0)],
  [(64, e1 (.iload_n 3) 65 3), (65, e0 (.iadd) 66), (66, e0 (.iaload) 67), (67, e0 (.ireturn) 68)]]
noncomputable def zE_Mo_rule (α : Type) : Nat → zX α := fun i => bif Nat.beq i 0 then zA_vR_V 12 f_Mo_fresh else bif Nat.beq i 1 then zA_vRII_I 12 f_Mo_isRule else bif Nat.beq i 2 then zA_III_I f_Mo_in else bif Nat.beq i 3 then zA_vRI_I 12 f_Mo_no else bif Nat.beq i 4 then zA_II_I f_Mo_rowOf else fun _ _ _ => none
def zc_Mo_rule : Nat → Bool := fun pc => false
set_option maxRecDepth 100000 in
theorem r_Mo_rule (a0 : Nat) (a1 : Int32) (a2 : Int32) (a3 : Int32) (S : zM) : f_Mo_rule a0 a1 a2 a3 S = zrt false zP_Mo_rule (zE_Mo_rule (Int32 × zM)) zc_Mo_rule zkI (fun pc lv st S => none) 1000 0 [some (.ref a0), some (.int a1), some (.int a2), some (.int a3)] [] S := rfl
theorem G_Mo_rule {g : zV → Nat → List Value → zM → Prop} {res : (Int32 × zM)} (H : zCl false zP_Mo_rule (zE_Mo_rule (Int32 × zM)) zkI res g) (Hw : zWk g) (a0 : Nat) (a1 : Int32) (a2 : Int32) (a3 : Int32) (S : zM) (h : f_Mo_rule a0 a1 a2 a3 S = some res) : g [some (.ref a0), some (.int a1), some (.int a2), some (.int a3)] 0 [] S := by
  refine H zc_Mo_rule _ 1000 _ _ _ _ ((r_Mo_rule a0 a1 a2 a3 S).symm.trans h) (fun pc lv st S hK => ?_)
  cases hK
set_option maxRecDepth 100000 in
theorem ok_Mo_rule : zokT 12 [61, 106, 62, 63, 95] false 3 65 4 false (some .int) cX12_rule zP_Mo_rule = true := by decide +kernel
set_option maxRecDepth 100000 in
theorem s_Mo_rule {l : Launch} {HB : Heap} {b L : Nat} {xs : Nat → Int32} {aK aV : Nat → Nat} {G : va_G} {tc : Nat → ClassId} (h0 : zSnd l HB b L xs aK aV G tc (zMT.getD 61 zyD) (fun α => zA_vR_V 12 f_Mo_fresh)) (h1 : zSnd l HB b L xs aK aV G tc (zMT.getD 106 zyD) (fun α => zA_vRII_I 12 f_Mo_isRule)) (h2 : zSnd l HB b L xs aK aV G tc (zMT.getD 62 zyD) (fun α => zA_III_I f_Mo_in)) (h3 : zSnd l HB b L xs aK aV G tc (zMT.getD 63 zyD) (fun α => zA_vRI_I 12 f_Mo_no)) (h4 : zSnd l HB b L xs aK aV G tc (zMT.getD 95 zyD) (fun α => zA_II_I f_Mo_rowOf)) : zSnd l HB b L xs aK aV G tc (zMT.getD 107 zyD) (fun α => zA_vRIII_I 12 f_Mo_rule) := by
  rw [show zMT.getD 107 zyD = (yX12_rule, cX12_rule, 4, (some .int), 0, 4, 3, 65) from rfl]
  intro α as S k res h
  unfold zA_vRIII_I at h
  dsimp only at h
  split at h
  · rename_i a0 a1 a2 a3
    obtain ⟨p, hp, h⟩ := zbind h
    unfold zcl at hp
    split at hp
    · rename_i hkd
      have hm := zmeth (l := l) (HB := HB) (b := b) (L := L) (xs := xs) (aK := aK) (aV := aV) (G := G) (tc := tc) (q := (yX12_rule, cX12_rule, 4, (some .int), 0, 4, 3, 65)) (o := 12) (cs := [61, 106, 62, 63, 95]) (rz := false) (T := zP_Mo_rule) (E := zE_Mo_rule (Int32 × zM)) (kr := zkI) (res := p) (v0 := some (.int p.1)) (S0 := p.2) (as := [.ref a0, .int a1, .int a2, .int a3]) (S := S) zMT_fine (by decide +kernel) (fun i as S k' h => by
        unfold zE_Mo_rule at h
        rcases zdisf h with ⟨rfl, h⟩ | h
        · exact h0 _ _ _ _ _ h
        rcases zdisf h with ⟨rfl, h⟩ | h
        · exact h1 _ _ _ _ _ h
        rcases zdisf h with ⟨rfl, h⟩ | h
        · exact h2 _ _ _ _ _ h
        rcases zdisf h with ⟨rfl, h⟩ | h
        · exact h3 _ _ _ _ _ h
        rcases zdisf h with ⟨rfl, h⟩ | h
        · exact h4 _ _ _ _ _ h
        cases h) ok_Mo_rule rfl (fun v S' h => zkI_inv h) (Nat.le_of_ble_eq_true rfl) (fun g H Hw => Hw _ [some (.ref a0), some (.int a1), some (.int a2), some (.int a3)] _ _ _ ⟨rfl, rfl, rfl, rfl, trivial⟩ (G_Mo_rule H Hw a0 a1 a2 a3 S hp))
      exact ⟨_, _, h, hm.1, rfl, fun _ => ⟨_, _, rfl⟩, (fun _ U H hK hH a r e => by cases e; exact zrecv (ci := 12) (by omega) hkd rfl U H hK hH), hm.2⟩
    · cases hp
  · cases h
def zP_Cl_answerLetter : List (List (Nat × zE)) := [[(0, e1 (.aload_n 1) 1 1), (1, e1 (.iload_n 2) 2 2), (2, e3 (.invokevirtual 362) 5 0 2 0), (5, e1 (.istore_n 3) 6 3), (6, e1 (.iload_n 3) 7 3), (7, ei (.iconst (-1)) 8 0 (-1)), (8, e1 (.if_icmp .ne 11) 11 19), (11, e1 (.aload_n 0) 12 0), (12, ei (.iconst 1) 13 0 (1)), (13, e3 (.invokevirtual 79) 16 1 2 0)],
  [(16, e1 (.goto 8) 19 24), (19, e1 (.aload_n 0) 20 0), (20, e1 (.iload_n 3) 21 3), (21, e3 (.invokevirtual 109) 24 2 2 0), (24, e0 (.ireturn) 25)]]
noncomputable def zE_Cl_answerLetter (α : Type) : Nat → zX α := fun i => bif Nat.beq i 0 then zA_vRI_I 8 f_Row_at else bif Nat.beq i 1 then zA_vRI_I 11 f_Cl_refuse else bif Nat.beq i 2 then zA_vRI_I 11 f_Cl_answer else fun _ _ _ => none
def zc_Cl_answerLetter : Nat → Bool := fun pc => false
set_option maxRecDepth 100000 in
theorem r_Cl_answerLetter (a0 : Nat) (a1 : Nat) (a2 : Int32) (S : zM) : f_Cl_answerLetter a0 a1 a2 S = zrt false zP_Cl_answerLetter (zE_Cl_answerLetter (Int32 × zM)) zc_Cl_answerLetter zkI (fun pc lv st S => none) 1000 0 [some (.ref a0), some (.ref a1), some (.int a2), none] [] S := rfl
theorem G_Cl_answerLetter {g : zV → Nat → List Value → zM → Prop} {res : (Int32 × zM)} (H : zCl false zP_Cl_answerLetter (zE_Cl_answerLetter (Int32 × zM)) zkI res g) (Hw : zWk g) (a0 : Nat) (a1 : Nat) (a2 : Int32) (S : zM) (h : f_Cl_answerLetter a0 a1 a2 S = some res) : g [some (.ref a0), some (.ref a1), some (.int a2), none] 0 [] S := by
  refine H zc_Cl_answerLetter _ 1000 _ _ _ _ ((r_Cl_answerLetter a0 a1 a2 S).symm.trans h) (fun pc lv st S hK => ?_)
  cases hK
set_option maxRecDepth 100000 in
theorem ok_Cl_answerLetter : zokT 11 [50, 16, 59] false 1 21 4 false (some .int) cX11_answerLetter zP_Cl_answerLetter = true := by decide +kernel
set_option maxRecDepth 100000 in
theorem s_Cl_answerLetter {l : Launch} {HB : Heap} {b L : Nat} {xs : Nat → Int32} {aK aV : Nat → Nat} {G : va_G} {tc : Nat → ClassId} (h0 : zSnd l HB b L xs aK aV G tc (zMT.getD 50 zyD) (fun α => zA_vRI_I 8 f_Row_at)) (h1 : zSnd l HB b L xs aK aV G tc (zMT.getD 16 zyD) (fun α => zA_vRI_I 11 f_Cl_refuse)) (h2 : zSnd l HB b L xs aK aV G tc (zMT.getD 59 zyD) (fun α => zA_vRI_I 11 f_Cl_answer)) : zSnd l HB b L xs aK aV G tc (zMT.getD 108 zyD) (fun α => zA_vRRI_I 11 f_Cl_answerLetter) := by
  rw [show zMT.getD 108 zyD = (yX11_answerLetter, cX11_answerLetter, 4, (some .int), 0, 3, 1, 21) from rfl]
  intro α as S k res h
  unfold zA_vRRI_I at h
  dsimp only at h
  split at h
  · rename_i a0 a1 a2
    obtain ⟨p, hp, h⟩ := zbind h
    unfold zcl at hp
    split at hp
    · rename_i hkd
      have hm := zmeth (l := l) (HB := HB) (b := b) (L := L) (xs := xs) (aK := aK) (aV := aV) (G := G) (tc := tc) (q := (yX11_answerLetter, cX11_answerLetter, 4, (some .int), 0, 3, 1, 21)) (o := 11) (cs := [50, 16, 59]) (rz := false) (T := zP_Cl_answerLetter) (E := zE_Cl_answerLetter (Int32 × zM)) (kr := zkI) (res := p) (v0 := some (.int p.1)) (S0 := p.2) (as := [.ref a0, .ref a1, .int a2]) (S := S) zMT_fine (by decide +kernel) (fun i as S k' h => by
        unfold zE_Cl_answerLetter at h
        rcases zdisf h with ⟨rfl, h⟩ | h
        · exact h0 _ _ _ _ _ h
        rcases zdisf h with ⟨rfl, h⟩ | h
        · exact h1 _ _ _ _ _ h
        rcases zdisf h with ⟨rfl, h⟩ | h
        · exact h2 _ _ _ _ _ h
        cases h) ok_Cl_answerLetter rfl (fun v S' h => zkI_inv h) (Nat.le_of_ble_eq_true rfl) (fun g H Hw => Hw _ [some (.ref a0), some (.ref a1), some (.int a2), none] _ _ _ ⟨rfl, rfl, rfl, trivial⟩ (G_Cl_answerLetter H Hw a0 a1 a2 S hp))
      exact ⟨_, _, h, hm.1, rfl, fun _ => ⟨_, _, rfl⟩, (fun _ U H hK hH a r e => by cases e; exact zrecv (ci := 11) (by omega) hkd rfl U H hK hH), hm.2⟩
    · cases hp
  · cases h
def zP_Cl_letter : List (List (Nat × zE)) := [[(0, e1 (.aload_n 0) 1 0), (1, e3 (.getfield 65) 4 11 10 2), (4, e1 (.iload_n 1) 5 1), (5, e1 (.iload_n 2) 6 2), (6, e3 (.invokevirtual 152) 9 0 3 0), (9, e1 (.astore 5) 11 5), (11, e1 (.aload 5) 13 5), (13, e1 (.ifnull 12) 16 25)],
  [(16, e1 (.iload_n 3) 17 3), (17, e1 (.ifCond .lt 8) 20 25), (20, e1 (.iload_n 3) 21 3), (21, ei (.iconst 1) 22 0 (1)), (22, e1 (.if_icmp .le 9) 25 31), (25, e1 (.aload_n 0) 26 0), (26, ei (.iconst 1) 27 0 (1)), (27, e3 (.invokevirtual 79) 30 1 2 0), (30, e0 (.ireturn) 31), (31, e1 (.aload_n 0) 32 0)],
  [(32, e1 (.iload_n 3) 33 3), (33, e1 (.ifCond .ne 11) 36 44), (36, e1 (.aload 5) 38 5), (38, e3 (.getfield 156) 41 9 0 2), (41, e1 (.goto 8) 44 49), (44, e1 (.aload 5) 46 5), (46, e3 (.getfield 164) 49 9 1 2)],
  [(49, e1 (.iload 4) 51 4), (51, e3 (.invokevirtual 177) 54 2 3 0), (54, e0 (.ireturn) 55)]]
noncomputable def zE_Cl_letter (α : Type) : Nat → zX α := fun i => bif Nat.beq i 0 then zA_vRII_N 10 f_Script_ruleAt else bif Nat.beq i 1 then zA_vRI_I 11 f_Cl_refuse else bif Nat.beq i 2 then zA_vRRI_I 11 f_Cl_answerLetter else fun _ _ _ => none
def zc_Cl_letter : Nat → Bool := fun pc => false
set_option maxRecDepth 100000 in
theorem r_Cl_letter (a0 : Nat) (a1 : Int32) (a2 : Int32) (a3 : Int32) (a4 : Int32) (S : zM) : f_Cl_letter a0 a1 a2 a3 a4 S = zrt false zP_Cl_letter (zE_Cl_letter (Int32 × zM)) zc_Cl_letter zkI (fun pc lv st S => none) 1000 0 [some (.ref a0), some (.int a1), some (.int a2), some (.int a3), some (.int a4), none] [] S := rfl
theorem G_Cl_letter {g : zV → Nat → List Value → zM → Prop} {res : (Int32 × zM)} (H : zCl false zP_Cl_letter (zE_Cl_letter (Int32 × zM)) zkI res g) (Hw : zWk g) (a0 : Nat) (a1 : Int32) (a2 : Int32) (a3 : Int32) (a4 : Int32) (S : zM) (h : f_Cl_letter a0 a1 a2 a3 a4 S = some res) : g [some (.ref a0), some (.int a1), some (.int a2), some (.int a3), some (.int a4), none] 0 [] S := by
  refine H zc_Cl_letter _ 1000 _ _ _ _ ((r_Cl_letter a0 a1 a2 a3 a4 S).symm.trans h) (fun pc lv st S hK => ?_)
  cases hK
set_option maxRecDepth 100000 in
theorem ok_Cl_letter : zokT 11 [100, 16, 108] false 2 44 6 false (some .int) cX11_letter zP_Cl_letter = true := by decide +kernel
set_option maxRecDepth 100000 in
theorem s_Cl_letter {l : Launch} {HB : Heap} {b L : Nat} {xs : Nat → Int32} {aK aV : Nat → Nat} {G : va_G} {tc : Nat → ClassId} (h0 : zSnd l HB b L xs aK aV G tc (zMT.getD 100 zyD) (fun α => zA_vRII_N 10 f_Script_ruleAt)) (h1 : zSnd l HB b L xs aK aV G tc (zMT.getD 16 zyD) (fun α => zA_vRI_I 11 f_Cl_refuse)) (h2 : zSnd l HB b L xs aK aV G tc (zMT.getD 108 zyD) (fun α => zA_vRRI_I 11 f_Cl_answerLetter)) : zSnd l HB b L xs aK aV G tc (zMT.getD 109 zyD) (fun α => zA_vRIIII_I 11 f_Cl_letter) := by
  rw [show zMT.getD 109 zyD = (yX11_letter, cX11_letter, 6, (some .int), 0, 5, 2, 44) from rfl]
  intro α as S k res h
  unfold zA_vRIIII_I at h
  dsimp only at h
  split at h
  · rename_i a0 a1 a2 a3 a4
    obtain ⟨p, hp, h⟩ := zbind h
    unfold zcl at hp
    split at hp
    · rename_i hkd
      have hm := zmeth (l := l) (HB := HB) (b := b) (L := L) (xs := xs) (aK := aK) (aV := aV) (G := G) (tc := tc) (q := (yX11_letter, cX11_letter, 6, (some .int), 0, 5, 2, 44)) (o := 11) (cs := [100, 16, 108]) (rz := false) (T := zP_Cl_letter) (E := zE_Cl_letter (Int32 × zM)) (kr := zkI) (res := p) (v0 := some (.int p.1)) (S0 := p.2) (as := [.ref a0, .int a1, .int a2, .int a3, .int a4]) (S := S) zMT_fine (by decide +kernel) (fun i as S k' h => by
        unfold zE_Cl_letter at h
        rcases zdisf h with ⟨rfl, h⟩ | h
        · exact h0 _ _ _ _ _ h
        rcases zdisf h with ⟨rfl, h⟩ | h
        · exact h1 _ _ _ _ _ h
        rcases zdisf h with ⟨rfl, h⟩ | h
        · exact h2 _ _ _ _ _ h
        cases h) ok_Cl_letter rfl (fun v S' h => zkI_inv h) (Nat.le_of_ble_eq_true rfl) (fun g H Hw => Hw _ [some (.ref a0), some (.int a1), some (.int a2), some (.int a3), some (.int a4), none] _ _ _ ⟨rfl, rfl, rfl, rfl, rfl, trivial⟩ (G_Cl_letter H Hw a0 a1 a2 a3 a4 S hp))
      exact ⟨_, _, h, hm.1, rfl, fun _ => ⟨_, _, rfl⟩, (fun _ U H hK hH a r e => by cases e; exact zrecv (ci := 11) (by omega) hkd rfl U H hK hH), hm.2⟩
    · cases hp
  · cases h
def zP_Mo_letter : List (List (Nat × zE)) := [[(0, e1 (.aload_n 0) 1 0), (1, e3 (.invokevirtual 272) 4 0 1 0), (4, e1 (.aload_n 0) 5 0), (5, e1 (.iload_n 1) 6 1), (6, e1 (.iload_n 2) 7 2), (7, e3 (.invokevirtual 315) 10 1 3 0), (10, e1 (.ifCond .eq 35) 13 45), (13, e1 (.iload_n 3) 14 3), (14, ei (.iconst 0) 15 0 (0)), (15, ei (.iconst 1) 16 0 (1))],
  [(16, e3 (.invokestatic 156) 19 2 3 0), (19, e1 (.ifCond .eq 26) 22 45), (22, e1 (.iload 4) 24 4), (24, ei (.iconst 0) 25 0 (0)), (25, e1 (.aload_n 0) 26 0), (26, e3 (.getfield 27) 29 12 13 2), (29, e1 (.iload_n 1) 30 1), (30, e1 (.iload_n 2) 31 2), (31, e3 (.invokestatic 319) 34 3 2 0)],
  [(34, e1 (.iload_n 3) 35 3), (35, e0 (.iadd) 36), (36, e0 (.iaload) 37), (37, ei (.iconst 1) 38 0 (1)), (38, e0 (.isub) 39), (39, e3 (.invokestatic 156) 42 2 3 0), (42, e1 (.ifCond .ne 9) 45 51), (45, e1 (.aload_n 0) 46 0), (46, ei (.iconst 1) 47 0 (1)), (47, e3 (.invokevirtual 275) 50 4 2 0)],
  [(50, e0 (.ireturn) 51), (51, e1 (.aload_n 0) 52 0), (52, e3 (.getfield 27) 55 12 13 2), (55, e1 (.iload_n 1) 56 1), (56, e1 (.iload_n 2) 57 2), (57, e3 (.invokestatic 319) 60 3 2 0), (60, e1 (.iload_n 3) 61 3), (61, e1 (.ifCond .ne 7) 64 68)],
  [(64, ei (.iconst 4) 65 0 (4)), (65, e1 (.goto 5) 68 70), (68, ei (.bipush 7) 70 0 (7)), (70, e0 (.iadd) 71), (71, e1 (.iload 4) 73 4), (73, e0 (.iadd) 74), (74, e0 (.iaload) 75), (75, e0 (.ireturn) 76)]]
noncomputable def zE_Mo_letter (α : Type) : Nat → zX α := fun i => bif Nat.beq i 0 then zA_vR_V 12 f_Mo_fresh else bif Nat.beq i 1 then zA_vRII_I 12 f_Mo_isRule else bif Nat.beq i 2 then zA_III_I f_Mo_in else bif Nat.beq i 3 then zA_II_I f_Mo_rowOf else bif Nat.beq i 4 then zA_vRI_I 12 f_Mo_no else fun _ _ _ => none
def zc_Mo_letter : Nat → Bool := fun pc => false
set_option maxRecDepth 100000 in
theorem r_Mo_letter (a0 : Nat) (a1 : Int32) (a2 : Int32) (a3 : Int32) (a4 : Int32) (S : zM) : f_Mo_letter a0 a1 a2 a3 a4 S = zrt false zP_Mo_letter (zE_Mo_letter (Int32 × zM)) zc_Mo_letter zkI (fun pc lv st S => none) 1000 0 [some (.ref a0), some (.int a1), some (.int a2), some (.int a3), some (.int a4)] [] S := rfl
theorem G_Mo_letter {g : zV → Nat → List Value → zM → Prop} {res : (Int32 × zM)} (H : zCl false zP_Mo_letter (zE_Mo_letter (Int32 × zM)) zkI res g) (Hw : zWk g) (a0 : Nat) (a1 : Int32) (a2 : Int32) (a3 : Int32) (a4 : Int32) (S : zM) (h : f_Mo_letter a0 a1 a2 a3 a4 S = some res) : g [some (.ref a0), some (.int a1), some (.int a2), some (.int a3), some (.int a4)] 0 [] S := by
  refine H zc_Mo_letter _ 1000 _ _ _ _ ((r_Mo_letter a0 a1 a2 a3 a4 S).symm.trans h) (fun pc lv st S hK => ?_)
  cases hK
set_option maxRecDepth 100000 in
theorem ok_Mo_letter : zokT 12 [61, 106, 62, 95, 63] false 3 65 5 false (some .int) cX12_letter zP_Mo_letter = true := by decide +kernel
set_option maxRecDepth 100000 in
theorem s_Mo_letter {l : Launch} {HB : Heap} {b L : Nat} {xs : Nat → Int32} {aK aV : Nat → Nat} {G : va_G} {tc : Nat → ClassId} (h0 : zSnd l HB b L xs aK aV G tc (zMT.getD 61 zyD) (fun α => zA_vR_V 12 f_Mo_fresh)) (h1 : zSnd l HB b L xs aK aV G tc (zMT.getD 106 zyD) (fun α => zA_vRII_I 12 f_Mo_isRule)) (h2 : zSnd l HB b L xs aK aV G tc (zMT.getD 62 zyD) (fun α => zA_III_I f_Mo_in)) (h3 : zSnd l HB b L xs aK aV G tc (zMT.getD 95 zyD) (fun α => zA_II_I f_Mo_rowOf)) (h4 : zSnd l HB b L xs aK aV G tc (zMT.getD 63 zyD) (fun α => zA_vRI_I 12 f_Mo_no)) : zSnd l HB b L xs aK aV G tc (zMT.getD 110 zyD) (fun α => zA_vRIIII_I 12 f_Mo_letter) := by
  rw [show zMT.getD 110 zyD = (yX12_letter, cX12_letter, 5, (some .int), 0, 5, 3, 65) from rfl]
  intro α as S k res h
  unfold zA_vRIIII_I at h
  dsimp only at h
  split at h
  · rename_i a0 a1 a2 a3 a4
    obtain ⟨p, hp, h⟩ := zbind h
    unfold zcl at hp
    split at hp
    · rename_i hkd
      have hm := zmeth (l := l) (HB := HB) (b := b) (L := L) (xs := xs) (aK := aK) (aV := aV) (G := G) (tc := tc) (q := (yX12_letter, cX12_letter, 5, (some .int), 0, 5, 3, 65)) (o := 12) (cs := [61, 106, 62, 95, 63]) (rz := false) (T := zP_Mo_letter) (E := zE_Mo_letter (Int32 × zM)) (kr := zkI) (res := p) (v0 := some (.int p.1)) (S0 := p.2) (as := [.ref a0, .int a1, .int a2, .int a3, .int a4]) (S := S) zMT_fine (by decide +kernel) (fun i as S k' h => by
        unfold zE_Mo_letter at h
        rcases zdisf h with ⟨rfl, h⟩ | h
        · exact h0 _ _ _ _ _ h
        rcases zdisf h with ⟨rfl, h⟩ | h
        · exact h1 _ _ _ _ _ h
        rcases zdisf h with ⟨rfl, h⟩ | h
        · exact h2 _ _ _ _ _ h
        rcases zdisf h with ⟨rfl, h⟩ | h
        · exact h3 _ _ _ _ _ h
        rcases zdisf h with ⟨rfl, h⟩ | h
        · exact h4 _ _ _ _ _ h
        cases h) ok_Mo_letter rfl (fun v S' h => zkI_inv h) (Nat.le_of_ble_eq_true rfl) (fun g H Hw => Hw _ [some (.ref a0), some (.int a1), some (.int a2), some (.int a3), some (.int a4)] _ _ _ ⟨rfl, rfl, rfl, rfl, rfl, trivial⟩ (G_Mo_letter H Hw a0 a1 a2 a3 a4 S hp))
      exact ⟨_, _, h, hm.1, rfl, fun _ => ⟨_, _, rfl⟩, (fun _ U H hK hH a r e => by cases e; exact zrecv (ci := 12) (by omega) hkd rfl U H hK hH), hm.2⟩
    · cases hp
  · cases h
def zP_Machine_has : List (List (Nat × zE)) := [[(0, e1 (.iload_n 1) 1 1), (1, e1 (.ifCond .lt 21) 4 22), (4, e1 (.iload_n 1) 5 1), (5, e1 (.aload_n 0) 6 0), (6, e3 (.getfield 30) 9 3 6 0), (9, e1 (.if_icmp .ge 13) 12 22), (12, e1 (.iload_n 1) 13 1), (13, ei (.bipush 33) 15 0 (33)), (15, e1 (.if_icmp .ge 7) 18 22)],
  [(18, ei (.iconst 1) 19 0 (1)), (19, e1 (.goto 4) 22 23), (22, ei (.iconst 0) 23 0 (0)), (23, e0 (.ireturn) 24)]]
noncomputable def zE_Machine_has (α : Type) : Nat → zX α := fun _ => fun _ _ _ => none
def zc_Machine_has : Nat → Bool := fun pc => false
set_option maxRecDepth 100000 in
theorem r_Machine_has (a0 : Nat) (a1 : Int32) (S : zM) : f_Machine_has a0 a1 S = zrt true zP_Machine_has (zE_Machine_has (Int32 × zM)) zc_Machine_has zkI (fun pc lv st S => none) 1000 0 [some (.ref a0), some (.int a1)] [] S := rfl
theorem G_Machine_has {g : zV → Nat → List Value → zM → Prop} {res : (Int32 × zM)} (H : zCl true zP_Machine_has (zE_Machine_has (Int32 × zM)) zkI res g) (Hw : zWk g) (a0 : Nat) (a1 : Int32) (S : zM) (h : f_Machine_has a0 a1 S = some res) : g [some (.ref a0), some (.int a1)] 0 [] S := by
  refine H zc_Machine_has _ 1000 _ _ _ _ ((r_Machine_has a0 a1 S).symm.trans h) (fun pc lv st S hK => ?_)
  cases hK
set_option maxRecDepth 100000 in
theorem ok_Machine_has : zokT 3 [] false 0 0 2 true (some .boolean) cX3_has zP_Machine_has = true := by decide +kernel
set_option maxRecDepth 100000 in
theorem s_Machine_has {l : Launch} {HB : Heap} {b L : Nat} {xs : Nat → Int32} {aK aV : Nat → Nat} {G : va_G} {tc : Nat → ClassId} : zSnd l HB b L xs aK aV G tc (zMT.getD 111 zyD) (fun α => zA_vRI_I 3 f_Machine_has) := by
  rw [show zMT.getD 111 zyD = (yX3_has, cX3_has, 2, (some .boolean), 0, 2, 0, 0) from rfl]
  intro α as S k res h
  unfold zA_vRI_I at h
  dsimp only at h
  split at h
  · rename_i a0 a1
    obtain ⟨p, hp, h⟩ := zbind h
    unfold zcl at hp
    split at hp
    · rename_i hkd
      have hm := zmeth (l := l) (HB := HB) (b := b) (L := L) (xs := xs) (aK := aK) (aV := aV) (G := G) (tc := tc) (q := (yX3_has, cX3_has, 2, (some .boolean), 0, 2, 0, 0)) (o := 3) (cs := []) (rz := true) (T := zP_Machine_has) (E := zE_Machine_has (Int32 × zM)) (kr := zkI) (res := p) (v0 := some (.int p.1)) (S0 := p.2) (as := [.ref a0, .int a1]) (S := S) zMT_fine (by decide +kernel) (fun i as S k' h => by
        unfold zE_Machine_has at h
        cases h) ok_Machine_has rfl (fun v S' h => zkI_inv h) (Nat.le_of_ble_eq_true rfl) (fun g H Hw => Hw _ [some (.ref a0), some (.int a1)] _ _ _ ⟨rfl, rfl, trivial⟩ (G_Machine_has H Hw a0 a1 S hp))
      exact ⟨_, _, h, hm.1, rfl, fun _ => ⟨_, _, rfl⟩, (fun _ U H hK hH a r e => by cases e; exact zrecv (ci := 3) (by omega) hkd rfl U H hK hH), hm.2⟩
    · cases hp
  · cases h
def zP_Cl_machineWith : List (List (Nat × zE)) := [[(0, e1 (.aload_n 0) 1 0), (1, e3 (.getfield 65) 4 11 10 2), (4, e1 (.iload_n 1) 5 1), (5, e3 (.invokevirtual 132) 8 0 2 0), (8, e1 (.astore_n 3) 9 3), (9, e1 (.aload_n 3) 10 3), (10, e1 (.ifnull 14) 13 24), (13, e1 (.aload_n 3) 14 3), (14, e3 (.getfield 143) 17 5 1 2)],
  [(17, e1 (.iload_n 2) 18 2), (18, e3 (.invokevirtual 195) 21 1 2 0), (21, e1 (.ifCond .ne 7) 24 28), (24, e0 (.aconst_null) 25), (25, e1 (.goto 7) 28 32), (28, e1 (.aload_n 3) 29 3), (29, e3 (.getfield 143) 32 5 1 2)],
  [(32, e0 (.areturn) 33)]]
noncomputable def zE_Cl_machineWith (α : Type) : Nat → zX α := fun i => bif Nat.beq i 0 then zA_vRI_N 10 f_Script_passAt else bif Nat.beq i 1 then zA_vRI_I 3 f_Machine_has else fun _ _ _ => none
def zc_Cl_machineWith : Nat → Bool := fun pc => false
set_option maxRecDepth 100000 in
theorem r_Cl_machineWith (a0 : Nat) (a1 : Int32) (a2 : Int32) (S : zM) : f_Cl_machineWith a0 a1 a2 S = zrt false zP_Cl_machineWith (zE_Cl_machineWith (Option Nat × zM)) zc_Cl_machineWith zkN (fun pc lv st S => none) 1000 0 [some (.ref a0), some (.int a1), some (.int a2), none] [] S := rfl
theorem G_Cl_machineWith {g : zV → Nat → List Value → zM → Prop} {res : (Option Nat × zM)} (H : zCl false zP_Cl_machineWith (zE_Cl_machineWith (Option Nat × zM)) zkN res g) (Hw : zWk g) (a0 : Nat) (a1 : Int32) (a2 : Int32) (S : zM) (h : f_Cl_machineWith a0 a1 a2 S = some res) : g [some (.ref a0), some (.int a1), some (.int a2), none] 0 [] S := by
  refine H zc_Cl_machineWith _ 1000 _ _ _ _ ((r_Cl_machineWith a0 a1 a2 S).symm.trans h) (fun pc lv st S hK => ?_)
  cases hK
set_option maxRecDepth 100000 in
theorem ok_Cl_machineWith : zokT 11 [44, 111] false 1 21 4 false (some (.object "CarriedLetters$Machine")) cX11_machineWith zP_Cl_machineWith = true := by decide +kernel
set_option maxRecDepth 100000 in
theorem s_Cl_machineWith {l : Launch} {HB : Heap} {b L : Nat} {xs : Nat → Int32} {aK aV : Nat → Nat} {G : va_G} {tc : Nat → ClassId} (h0 : zSnd l HB b L xs aK aV G tc (zMT.getD 44 zyD) (fun α => zA_vRI_N 10 f_Script_passAt)) (h1 : zSnd l HB b L xs aK aV G tc (zMT.getD 111 zyD) (fun α => zA_vRI_I 3 f_Machine_has)) : zSnd l HB b L xs aK aV G tc (zMT.getD 112 zyD) (fun α => zA_vRII_N 11 f_Cl_machineWith) := by
  rw [show zMT.getD 112 zyD = (yX11_machineWith, cX11_machineWith, 4, (some (.object "CarriedLetters$Machine")), 0, 3, 1, 21) from rfl]
  intro α as S k res h
  unfold zA_vRII_N at h
  dsimp only at h
  split at h
  · rename_i a0 a1 a2
    obtain ⟨p, hp, h⟩ := zbind h
    unfold zcl at hp
    split at hp
    · rename_i hkd
      have hm := zmeth (l := l) (HB := HB) (b := b) (L := L) (xs := xs) (aK := aK) (aV := aV) (G := G) (tc := tc) (q := (yX11_machineWith, cX11_machineWith, 4, (some (.object "CarriedLetters$Machine")), 0, 3, 1, 21)) (o := 11) (cs := [44, 111]) (rz := false) (T := zP_Cl_machineWith) (E := zE_Cl_machineWith (Option Nat × zM)) (kr := zkN) (res := p) (v0 := some (match p.1 with | some a => .ref a | none => .null)) (S0 := p.2) (as := [.ref a0, .int a1, .int a2]) (S := S) zMT_fine (by decide +kernel) (fun i as S k' h => by
        unfold zE_Cl_machineWith at h
        rcases zdisf h with ⟨rfl, h⟩ | h
        · exact h0 _ _ _ _ _ h
        rcases zdisf h with ⟨rfl, h⟩ | h
        · exact h1 _ _ _ _ _ h
        cases h) ok_Cl_machineWith rfl (fun v S' h => zkN_inv h) (Nat.le_of_ble_eq_true rfl) (fun g H Hw => Hw _ [some (.ref a0), some (.int a1), some (.int a2), none] _ _ _ ⟨rfl, rfl, rfl, trivial⟩ (G_Cl_machineWith H Hw a0 a1 a2 S hp))
      exact ⟨_, _, (by cases hq : p.1 <;> rw [hq] at h <;> exact h), hm.1, rfl, fun _ => ⟨_, _, rfl⟩, (fun _ U H hK hH a r e => by cases e; exact zrecv (ci := 11) (by omega) hkd rfl U H hK hH), hm.2⟩
    · cases hp
  · cases h
def zP_Machine_step : List (List (Nat × zE)) := [[(0, e1 (.aload_n 0) 1 0), (1, e1 (.iload_n 1) 2 1), (2, e3 (.invokevirtual 34) 5 0 2 0), (5, e1 (.ifCond .eq 27) 8 32), (8, e1 (.iload_n 2) 9 2), (9, e1 (.ifCond .lt 23) 12 32), (12, e1 (.iload_n 2) 13 2), (13, ei (.bipush 8) 15 0 (8)), (15, e1 (.if_icmp .ge 17) 18 32)],
  [(18, e1 (.aload_n 0) 19 0), (19, e3 (.getfield 11) 22 3 0 2), (22, e1 (.iload_n 1) 23 1), (23, ei (.bipush 8) 25 0 (8)), (25, e0 (.imul) 26), (26, e1 (.iload_n 2) 27 2), (27, e0 (.iadd) 28), (28, e0 (.iaload) 29), (29, e1 (.goto 5) 32 34)],
  [(32, ei (.bipush (-2)) 34 0 (-2)), (34, e0 (.ireturn) 35)]]
noncomputable def zE_Machine_step (α : Type) : Nat → zX α := fun i => bif Nat.beq i 0 then zA_vRI_I 3 f_Machine_has else fun _ _ _ => none
def zc_Machine_step : Nat → Bool := fun pc => false
set_option maxRecDepth 100000 in
theorem r_Machine_step (a0 : Nat) (a1 : Int32) (a2 : Int32) (S : zM) : f_Machine_step a0 a1 a2 S = zrt false zP_Machine_step (zE_Machine_step (Int32 × zM)) zc_Machine_step zkI (fun pc lv st S => none) 1000 0 [some (.ref a0), some (.int a1), some (.int a2)] [] S := rfl
theorem G_Machine_step {g : zV → Nat → List Value → zM → Prop} {res : (Int32 × zM)} (H : zCl false zP_Machine_step (zE_Machine_step (Int32 × zM)) zkI res g) (Hw : zWk g) (a0 : Nat) (a1 : Int32) (a2 : Int32) (S : zM) (h : f_Machine_step a0 a1 a2 S = some res) : g [some (.ref a0), some (.int a1), some (.int a2)] 0 [] S := by
  refine H zc_Machine_step _ 1000 _ _ _ _ ((r_Machine_step a0 a1 a2 S).symm.trans h) (fun pc lv st S hK => ?_)
  cases hK
set_option maxRecDepth 100000 in
theorem ok_Machine_step : zokT 3 [111] false 1 21 3 false (some .int) cX3_step zP_Machine_step = true := by decide +kernel
set_option maxRecDepth 100000 in
theorem s_Machine_step {l : Launch} {HB : Heap} {b L : Nat} {xs : Nat → Int32} {aK aV : Nat → Nat} {G : va_G} {tc : Nat → ClassId} (h0 : zSnd l HB b L xs aK aV G tc (zMT.getD 111 zyD) (fun α => zA_vRI_I 3 f_Machine_has)) : zSnd l HB b L xs aK aV G tc (zMT.getD 113 zyD) (fun α => zA_vRII_I 3 f_Machine_step) := by
  rw [show zMT.getD 113 zyD = (yX3_step, cX3_step, 3, (some .int), 0, 3, 1, 21) from rfl]
  intro α as S k res h
  unfold zA_vRII_I at h
  dsimp only at h
  split at h
  · rename_i a0 a1 a2
    obtain ⟨p, hp, h⟩ := zbind h
    unfold zcl at hp
    split at hp
    · rename_i hkd
      have hm := zmeth (l := l) (HB := HB) (b := b) (L := L) (xs := xs) (aK := aK) (aV := aV) (G := G) (tc := tc) (q := (yX3_step, cX3_step, 3, (some .int), 0, 3, 1, 21)) (o := 3) (cs := [111]) (rz := false) (T := zP_Machine_step) (E := zE_Machine_step (Int32 × zM)) (kr := zkI) (res := p) (v0 := some (.int p.1)) (S0 := p.2) (as := [.ref a0, .int a1, .int a2]) (S := S) zMT_fine (by decide +kernel) (fun i as S k' h => by
        unfold zE_Machine_step at h
        rcases zdisf h with ⟨rfl, h⟩ | h
        · exact h0 _ _ _ _ _ h
        cases h) ok_Machine_step rfl (fun v S' h => zkI_inv h) (Nat.le_of_ble_eq_true rfl) (fun g H Hw => Hw _ [some (.ref a0), some (.int a1), some (.int a2)] _ _ _ ⟨rfl, rfl, rfl, trivial⟩ (G_Machine_step H Hw a0 a1 a2 S hp))
      exact ⟨_, _, h, hm.1, rfl, fun _ => ⟨_, _, rfl⟩, (fun _ U H hK hH a r e => by cases e; exact zrecv (ci := 3) (by omega) hkd rfl U H hK hH), hm.2⟩
    · cases hp
  · cases h
def zP_Cl_goes : List (List (Nat × zE)) := [[(0, e1 (.aload_n 0) 1 0), (1, e1 (.iload_n 1) 2 1), (2, e1 (.iload_n 2) 3 2), (3, e3 (.invokevirtual 181) 6 0 3 0), (6, e1 (.astore 4) 8 4), (8, e1 (.aload 4) 10 4), (10, e1 (.ifnull 13) 13 23), (13, e1 (.iload_n 3) 14 3), (14, e1 (.ifCond .lt 9) 17 23)],
  [(17, e1 (.iload_n 3) 18 3), (18, ei (.bipush 8) 20 0 (8)), (20, e1 (.if_icmp .lt 9) 23 29), (23, e1 (.aload_n 0) 24 0), (24, ei (.iconst 1) 25 0 (1)), (25, e3 (.invokevirtual 79) 28 1 2 0), (28, e0 (.ireturn) 29), (29, e1 (.aload_n 0) 30 0), (30, e1 (.aload 4) 32 4)],
  [(32, e1 (.iload_n 2) 33 2), (33, e1 (.iload_n 3) 34 3), (34, e3 (.invokevirtual 185) 37 2 3 0), (37, e3 (.invokevirtual 109) 40 3 2 0), (40, e0 (.ireturn) 41)]]
noncomputable def zE_Cl_goes (α : Type) : Nat → zX α := fun i => bif Nat.beq i 0 then zA_vRII_N 11 f_Cl_machineWith else bif Nat.beq i 1 then zA_vRI_I 11 f_Cl_refuse else bif Nat.beq i 2 then zA_vRII_I 3 f_Machine_step else bif Nat.beq i 3 then zA_vRI_I 11 f_Cl_answer else fun _ _ _ => none
def zc_Cl_goes : Nat → Bool := fun pc => false
set_option maxRecDepth 100000 in
theorem r_Cl_goes (a0 : Nat) (a1 : Int32) (a2 : Int32) (a3 : Int32) (S : zM) : f_Cl_goes a0 a1 a2 a3 S = zrt false zP_Cl_goes (zE_Cl_goes (Int32 × zM)) zc_Cl_goes zkI (fun pc lv st S => none) 1000 0 [some (.ref a0), some (.int a1), some (.int a2), some (.int a3), none] [] S := rfl
theorem G_Cl_goes {g : zV → Nat → List Value → zM → Prop} {res : (Int32 × zM)} (H : zCl false zP_Cl_goes (zE_Cl_goes (Int32 × zM)) zkI res g) (Hw : zWk g) (a0 : Nat) (a1 : Int32) (a2 : Int32) (a3 : Int32) (S : zM) (h : f_Cl_goes a0 a1 a2 a3 S = some res) : g [some (.ref a0), some (.int a1), some (.int a2), some (.int a3), none] 0 [] S := by
  refine H zc_Cl_goes _ 1000 _ _ _ _ ((r_Cl_goes a0 a1 a2 a3 S).symm.trans h) (fun pc lv st S hK => ?_)
  cases hK
set_option maxRecDepth 100000 in
theorem ok_Cl_goes : zokT 11 [112, 16, 113, 59] false 2 44 5 false (some .int) cX11_goes zP_Cl_goes = true := by decide +kernel
set_option maxRecDepth 100000 in
theorem s_Cl_goes {l : Launch} {HB : Heap} {b L : Nat} {xs : Nat → Int32} {aK aV : Nat → Nat} {G : va_G} {tc : Nat → ClassId} (h0 : zSnd l HB b L xs aK aV G tc (zMT.getD 112 zyD) (fun α => zA_vRII_N 11 f_Cl_machineWith)) (h1 : zSnd l HB b L xs aK aV G tc (zMT.getD 16 zyD) (fun α => zA_vRI_I 11 f_Cl_refuse)) (h2 : zSnd l HB b L xs aK aV G tc (zMT.getD 113 zyD) (fun α => zA_vRII_I 3 f_Machine_step)) (h3 : zSnd l HB b L xs aK aV G tc (zMT.getD 59 zyD) (fun α => zA_vRI_I 11 f_Cl_answer)) : zSnd l HB b L xs aK aV G tc (zMT.getD 114 zyD) (fun α => zA_vRIII_I 11 f_Cl_goes) := by
  rw [show zMT.getD 114 zyD = (yX11_goes, cX11_goes, 5, (some .int), 0, 4, 2, 44) from rfl]
  intro α as S k res h
  unfold zA_vRIII_I at h
  dsimp only at h
  split at h
  · rename_i a0 a1 a2 a3
    obtain ⟨p, hp, h⟩ := zbind h
    unfold zcl at hp
    split at hp
    · rename_i hkd
      have hm := zmeth (l := l) (HB := HB) (b := b) (L := L) (xs := xs) (aK := aK) (aV := aV) (G := G) (tc := tc) (q := (yX11_goes, cX11_goes, 5, (some .int), 0, 4, 2, 44)) (o := 11) (cs := [112, 16, 113, 59]) (rz := false) (T := zP_Cl_goes) (E := zE_Cl_goes (Int32 × zM)) (kr := zkI) (res := p) (v0 := some (.int p.1)) (S0 := p.2) (as := [.ref a0, .int a1, .int a2, .int a3]) (S := S) zMT_fine (by decide +kernel) (fun i as S k' h => by
        unfold zE_Cl_goes at h
        rcases zdisf h with ⟨rfl, h⟩ | h
        · exact h0 _ _ _ _ _ h
        rcases zdisf h with ⟨rfl, h⟩ | h
        · exact h1 _ _ _ _ _ h
        rcases zdisf h with ⟨rfl, h⟩ | h
        · exact h2 _ _ _ _ _ h
        rcases zdisf h with ⟨rfl, h⟩ | h
        · exact h3 _ _ _ _ _ h
        cases h) ok_Cl_goes rfl (fun v S' h => zkI_inv h) (Nat.le_of_ble_eq_true rfl) (fun g H Hw => Hw _ [some (.ref a0), some (.int a1), some (.int a2), some (.int a3), none] _ _ _ ⟨rfl, rfl, rfl, rfl, trivial⟩ (G_Cl_goes H Hw a0 a1 a2 a3 S hp))
      exact ⟨_, _, h, hm.1, rfl, fun _ => ⟨_, _, rfl⟩, (fun _ U H hK hH a r e => by cases e; exact zrecv (ci := 11) (by omega) hkd rfl U H hK hH), hm.2⟩
    · cases hp
  · cases h
def zP_Mo_isState : List (List (Nat × zE)) := [[(0, e1 (.aload_n 0) 1 0), (1, e1 (.iload_n 1) 2 1), (2, e3 (.invokevirtual 303) 5 0 2 0), (5, e1 (.ifCond .ne 5) 8 10), (8, ei (.iconst 0) 9 0 (0)), (9, e0 (.ireturn) 10), (10, e1 (.aload_n 0) 11 0), (11, e1 (.iload_n 1) 12 1), (12, e3 (.invokevirtual 309) 15 1 2 0), (15, e1 (.iload_n 2) 16 2)],
  [(16, ei (.iconst 0) 17 0 (0)), (17, e1 (.aload_n 0) 18 0), (18, e3 (.getfield 312) 21 12 31 0), (21, ei (.iconst 1) 22 0 (1)), (22, e0 (.isub) 23), (23, e3 (.invokestatic 156) 26 2 3 0), (26, e0 (.ireturn) 27)]]
noncomputable def zE_Mo_isState (α : Type) : Nat → zX α := fun i => bif Nat.beq i 0 then zA_vRI_I 12 f_Mo_isPass else bif Nat.beq i 1 then zA_vRI_V 12 f_Mo_laysStates else bif Nat.beq i 2 then zA_III_I f_Mo_in else fun _ _ _ => none
def zc_Mo_isState : Nat → Bool := fun pc => false
set_option maxRecDepth 100000 in
theorem r_Mo_isState (a0 : Nat) (a1 : Int32) (a2 : Int32) (S : zM) : f_Mo_isState a0 a1 a2 S = zrt true zP_Mo_isState (zE_Mo_isState (Int32 × zM)) zc_Mo_isState zkI (fun pc lv st S => none) 1000 0 [some (.ref a0), some (.int a1), some (.int a2)] [] S := rfl
theorem G_Mo_isState {g : zV → Nat → List Value → zM → Prop} {res : (Int32 × zM)} (H : zCl true zP_Mo_isState (zE_Mo_isState (Int32 × zM)) zkI res g) (Hw : zWk g) (a0 : Nat) (a1 : Int32) (a2 : Int32) (S : zM) (h : f_Mo_isState a0 a1 a2 S = some res) : g [some (.ref a0), some (.int a1), some (.int a2)] 0 [] S := by
  refine H zc_Mo_isState _ 1000 _ _ _ _ ((r_Mo_isState a0 a1 a2 S).symm.trans h) (fun pc lv st S hK => ?_)
  cases hK
set_option maxRecDepth 100000 in
theorem ok_Mo_isState : zokT 12 [94, 98, 62] false 3 71 3 true (some .boolean) cX12_isState zP_Mo_isState = true := by decide +kernel
set_option maxRecDepth 100000 in
theorem s_Mo_isState {l : Launch} {HB : Heap} {b L : Nat} {xs : Nat → Int32} {aK aV : Nat → Nat} {G : va_G} {tc : Nat → ClassId} (h0 : zSnd l HB b L xs aK aV G tc (zMT.getD 94 zyD) (fun α => zA_vRI_I 12 f_Mo_isPass)) (h1 : zSnd l HB b L xs aK aV G tc (zMT.getD 98 zyD) (fun α => zA_vRI_V 12 f_Mo_laysStates)) (h2 : zSnd l HB b L xs aK aV G tc (zMT.getD 62 zyD) (fun α => zA_III_I f_Mo_in)) : zSnd l HB b L xs aK aV G tc (zMT.getD 115 zyD) (fun α => zA_vRII_I 12 f_Mo_isState) := by
  rw [show zMT.getD 115 zyD = (yX12_isState, cX12_isState, 3, (some .boolean), 0, 3, 3, 71) from rfl]
  intro α as S k res h
  unfold zA_vRII_I at h
  dsimp only at h
  split at h
  · rename_i a0 a1 a2
    obtain ⟨p, hp, h⟩ := zbind h
    unfold zcl at hp
    split at hp
    · rename_i hkd
      have hm := zmeth (l := l) (HB := HB) (b := b) (L := L) (xs := xs) (aK := aK) (aV := aV) (G := G) (tc := tc) (q := (yX12_isState, cX12_isState, 3, (some .boolean), 0, 3, 3, 71)) (o := 12) (cs := [94, 98, 62]) (rz := true) (T := zP_Mo_isState) (E := zE_Mo_isState (Int32 × zM)) (kr := zkI) (res := p) (v0 := some (.int p.1)) (S0 := p.2) (as := [.ref a0, .int a1, .int a2]) (S := S) zMT_fine (by decide +kernel) (fun i as S k' h => by
        unfold zE_Mo_isState at h
        rcases zdisf h with ⟨rfl, h⟩ | h
        · exact h0 _ _ _ _ _ h
        rcases zdisf h with ⟨rfl, h⟩ | h
        · exact h1 _ _ _ _ _ h
        rcases zdisf h with ⟨rfl, h⟩ | h
        · exact h2 _ _ _ _ _ h
        cases h) ok_Mo_isState rfl (fun v S' h => zkI_inv h) (Nat.le_of_ble_eq_true rfl) (fun g H Hw => Hw _ [some (.ref a0), some (.int a1), some (.int a2)] _ _ _ ⟨rfl, rfl, rfl, trivial⟩ (G_Mo_isState H Hw a0 a1 a2 S hp))
      exact ⟨_, _, h, hm.1, rfl, fun _ => ⟨_, _, rfl⟩, (fun _ U H hK hH a r e => by cases e; exact zrecv (ci := 12) (by omega) hkd rfl U H hK hH), hm.2⟩
    · cases hp
  · cases h
def zP_Mo_goes : List (List (Nat × zE)) := [[(0, e1 (.aload_n 0) 1 0), (1, e3 (.invokevirtual 272) 4 0 1 0), (4, e1 (.aload_n 0) 5 0), (5, e1 (.iload_n 1) 6 1), (6, e1 (.iload_n 2) 7 2), (7, e3 (.invokevirtual 329) 10 1 3 0), (10, e1 (.ifCond .eq 13) 13 23), (13, e1 (.iload_n 3) 14 3), (14, ei (.iconst 0) 15 0 (0)), (15, ei (.bipush 7) 17 0 (7))],
  [(17, e3 (.invokestatic 156) 20 2 3 0), (20, e1 (.ifCond .ne 9) 23 29), (23, e1 (.aload_n 0) 24 0), (24, ei (.iconst 1) 25 0 (1)), (25, e3 (.invokevirtual 275) 28 3 2 0), (28, e0 (.ireturn) 29), (29, e1 (.aload_n 0) 30 0), (30, e3 (.getfield 46) 33 12 30 2)],
  [(33, e1 (.iload_n 2) 34 2), (34, e0 (.iaload) 35), (35, ei (.sipush 512) 38 0 (512)), (38, e0 (.idiv) 39), (39, e1 (.istore 4) 41 4), (41, e1 (.iload 4) 43 4), (43, ei (.iconst 3) 44 0 (3)), (44, e1 (.if_icmp .ne 6) 47 50), (47, ei (.bipush (-2)) 49 0 (-2))],
  [(49, e0 (.ireturn) 50), (50, e1 (.iload 4) 52 4), (52, e1 (.ifCond .ne 8) 55 60), (55, ei (.bipush 64) 57 0 (64)), (57, e1 (.goto 15) 60 72), (60, e1 (.iload 4) 62 4), (62, ei (.iconst 1) 63 0 (1)), (63, e1 (.if_icmp .ne 8) 66 71)],
  [(66, ei (.bipush 8) 68 0 (8)), (68, e1 (.goto 4) 71 72), (71, ei (.iconst 1) 72 0 (1)), (72, e1 (.istore 5) 74 5), (74, e1 (.aload_n 0) 75 0), (75, e3 (.getfield 46) 78 12 30 2), (78, e1 (.iload_n 2) 79 2), (79, e0 (.iaload) 80)],
  [(80, ei (.sipush 512) 83 0 (512)), (83, e0 (.iadd) 84), (84, e1 (.iload 5) 86 5), (86, e1 (.iload_n 3) 87 3), (87, e0 (.imul) 88), (88, e0 (.iadd) 89), (89, e1 (.istore 6) 91 6), (91, ei (.iconst 0) 92 0 (0)), (92, e1 (.istore 7) 94 7), (94, e1 (.iload 7) 96 7)],
  [(96, e1 (.aload_n 0) 97 0), (97, e3 (.getfield 312) 100 12 31 0), (100, e1 (.if_icmp .ge 24) 103 124), (103, e1 (.aload_n 0) 104 0), (104, e3 (.getfield 46) 107 12 30 2), (107, e1 (.iload 7) 109 7), (109, e0 (.iaload) 110), (110, e1 (.iload 6) 112 6)],
  [(112, e1 (.if_icmp .ne 6) 115 118), (115, e1 (.iload 7) 117 7), (117, e0 (.ireturn) 118), (118, ei (.iinc 7 1) 121 7 (1)), (121, e1 (.goto (-27)) 124 94), (124, ei (.bipush (-2)) 126 0 (-2)), (126, e0 (.ireturn) 127)]]
noncomputable def zE_Mo_goes (α : Type) : Nat → zX α := fun i => bif Nat.beq i 0 then zA_vR_V 12 f_Mo_fresh else bif Nat.beq i 1 then zA_vRII_I 12 f_Mo_isState else bif Nat.beq i 2 then zA_III_I f_Mo_in else bif Nat.beq i 3 then zA_vRI_I 12 f_Mo_no else fun _ _ _ => none
def zc_Mo_goes : Nat → Bool := fun pc => Nat.beq pc 94
def D_Mo_goes_94 (k : Nat → Int32 → Int32 → zM → Option (Int32 × zM)) (lv : zV) (st : List Value) (S : zM) : Option (Int32 × zM) := match lv, st with
  | [some (.ref a0), _, _, _, _, _, some (.int a6), some (.int a7)], [] => k a0 a6 a7 S
  | _, _ => none
theorem d_Mo_goes_94 {g : zV → Nat → List Value → zM → Prop} (Hw : zWk g) {k : Nat → Int32 → Int32 → zM → Option (Int32 × zM)} {res : (Int32 × zM)} {lv : zV} {st : List Value} {S : zM} (h : D_Mo_goes_94 k lv st S = some res) (hk : ∀ a0 a6 a7 S, k a0 a6 a7 S = some res → g [some (.ref a0), none, none, none, none, none, some (.int a6), some (.int a7)] 94 [] S) : g lv 94 st S := by
  unfold D_Mo_goes_94 at h
  split at h
  · exact Hw _ _ _ _ _ (by simp [zle]) (hk _ _ _ _  h)
  · cases h
set_option maxRecDepth 100000 in
theorem r_Mo_goes_94 (n : Nat) (a0 : Nat) (a6 : Int32) (a7 : Int32) (S : zM) : L_Mo_goes_94 (n + 1) a0 a6 a7 S = zrt false zP_Mo_goes (zE_Mo_goes (Int32 × zM)) zc_Mo_goes zkI (fun pc lv st S => bif Nat.beq pc 94 then D_Mo_goes_94 (L_Mo_goes_94 n) lv st S else none) 1000 94 [some (.ref a0), none, none, none, none, none, some (.int a6), some (.int a7)] [] S := rfl
theorem g_Mo_goes_94 {g : zV → Nat → List Value → zM → Prop} {res : (Int32 × zM)} (H : zCl false zP_Mo_goes (zE_Mo_goes (Int32 × zM)) zkI res g) (Hw : zWk g) (n : Nat) : ∀ (a0 : Nat) (a6 : Int32) (a7 : Int32) (S : zM), L_Mo_goes_94 n a0 a6 a7 S = some res → g [some (.ref a0), none, none, none, none, none, some (.int a6), some (.int a7)] 94 [] S := by
  induction n with
  | zero => intro a0 a6 a7 S h; cases h
  | succ n ih =>
    intro a0 a6 a7 S h
    refine H zc_Mo_goes _ 1000 _ _ _ _ ((r_Mo_goes_94 n a0 a6 a7 S).symm.trans h) (fun pc lv st S hK => ?_)
    rcases zdis hK with ⟨rfl, hK⟩ | hK
    · exact d_Mo_goes_94 Hw hK ih
    cases hK
set_option maxRecDepth 100000 in
theorem r_Mo_goes (a0 : Nat) (a1 : Int32) (a2 : Int32) (a3 : Int32) (S : zM) : f_Mo_goes a0 a1 a2 a3 S = zrt false zP_Mo_goes (zE_Mo_goes (Int32 × zM)) zc_Mo_goes zkI (fun pc lv st S => bif Nat.beq pc 94 then D_Mo_goes_94 (L_Mo_goes_94 zF) lv st S else none) 1000 0 [some (.ref a0), some (.int a1), some (.int a2), some (.int a3), none, none, none, none] [] S := rfl
theorem G_Mo_goes {g : zV → Nat → List Value → zM → Prop} {res : (Int32 × zM)} (H : zCl false zP_Mo_goes (zE_Mo_goes (Int32 × zM)) zkI res g) (Hw : zWk g) (a0 : Nat) (a1 : Int32) (a2 : Int32) (a3 : Int32) (S : zM) (h : f_Mo_goes a0 a1 a2 a3 S = some res) : g [some (.ref a0), some (.int a1), some (.int a2), some (.int a3), none, none, none, none] 0 [] S := by
  refine H zc_Mo_goes _ 1000 _ _ _ _ ((r_Mo_goes a0 a1 a2 a3 S).symm.trans h) (fun pc lv st S hK => ?_)
  rcases zdis hK with ⟨rfl, hK⟩ | hK
  · exact d_Mo_goes_94 Hw hK (g_Mo_goes_94 H Hw  zF)
  cases hK
set_option maxRecDepth 100000 in
theorem ok_Mo_goes : zokT 12 [61, 115, 62, 63] false 4 93 8 false (some .int) cX12_goes zP_Mo_goes = true := by decide +kernel
set_option maxRecDepth 100000 in
theorem s_Mo_goes {l : Launch} {HB : Heap} {b L : Nat} {xs : Nat → Int32} {aK aV : Nat → Nat} {G : va_G} {tc : Nat → ClassId} (h0 : zSnd l HB b L xs aK aV G tc (zMT.getD 61 zyD) (fun α => zA_vR_V 12 f_Mo_fresh)) (h1 : zSnd l HB b L xs aK aV G tc (zMT.getD 115 zyD) (fun α => zA_vRII_I 12 f_Mo_isState)) (h2 : zSnd l HB b L xs aK aV G tc (zMT.getD 62 zyD) (fun α => zA_III_I f_Mo_in)) (h3 : zSnd l HB b L xs aK aV G tc (zMT.getD 63 zyD) (fun α => zA_vRI_I 12 f_Mo_no)) : zSnd l HB b L xs aK aV G tc (zMT.getD 116 zyD) (fun α => zA_vRIII_I 12 f_Mo_goes) := by
  rw [show zMT.getD 116 zyD = (yX12_goes, cX12_goes, 8, (some .int), 0, 4, 4, 93) from rfl]
  intro α as S k res h
  unfold zA_vRIII_I at h
  dsimp only at h
  split at h
  · rename_i a0 a1 a2 a3
    obtain ⟨p, hp, h⟩ := zbind h
    unfold zcl at hp
    split at hp
    · rename_i hkd
      have hm := zmeth (l := l) (HB := HB) (b := b) (L := L) (xs := xs) (aK := aK) (aV := aV) (G := G) (tc := tc) (q := (yX12_goes, cX12_goes, 8, (some .int), 0, 4, 4, 93)) (o := 12) (cs := [61, 115, 62, 63]) (rz := false) (T := zP_Mo_goes) (E := zE_Mo_goes (Int32 × zM)) (kr := zkI) (res := p) (v0 := some (.int p.1)) (S0 := p.2) (as := [.ref a0, .int a1, .int a2, .int a3]) (S := S) zMT_fine (by decide +kernel) (fun i as S k' h => by
        unfold zE_Mo_goes at h
        rcases zdisf h with ⟨rfl, h⟩ | h
        · exact h0 _ _ _ _ _ h
        rcases zdisf h with ⟨rfl, h⟩ | h
        · exact h1 _ _ _ _ _ h
        rcases zdisf h with ⟨rfl, h⟩ | h
        · exact h2 _ _ _ _ _ h
        rcases zdisf h with ⟨rfl, h⟩ | h
        · exact h3 _ _ _ _ _ h
        cases h) ok_Mo_goes rfl (fun v S' h => zkI_inv h) (Nat.le_of_ble_eq_true rfl) (fun g H Hw => Hw _ [some (.ref a0), some (.int a1), some (.int a2), some (.int a3), none, none, none, none] _ _ _ ⟨rfl, rfl, rfl, rfl, trivial⟩ (G_Mo_goes H Hw a0 a1 a2 a3 S hp))
      exact ⟨_, _, h, hm.1, rfl, fun _ => ⟨_, _, rfl⟩, (fun _ U H hK hH a r e => by cases e; exact zrecv (ci := 12) (by omega) hkd rfl U H hK hH), hm.2⟩
    · cases hp
  · cases h
def zP_Machine_depthOf : List (List (Nat × zE)) := [[(0, e1 (.aload_n 0) 1 0), (1, e1 (.iload_n 1) 2 1), (2, e3 (.invokevirtual 34) 5 0 2 0), (5, e1 (.ifCond .eq 12) 8 17), (8, e1 (.aload_n 0) 9 0), (9, e3 (.getfield 15) 12 3 1 2), (12, e1 (.iload_n 1) 13 1), (13, e0 (.iaload) 14), (14, e1 (.goto 4) 17 18)],
  [(17, ei (.iconst (-1)) 18 0 (-1)), (18, e0 (.ireturn) 19)]]
noncomputable def zE_Machine_depthOf (α : Type) : Nat → zX α := fun i => bif Nat.beq i 0 then zA_vRI_I 3 f_Machine_has else fun _ _ _ => none
def zc_Machine_depthOf : Nat → Bool := fun pc => false
set_option maxRecDepth 100000 in
theorem r_Machine_depthOf (a0 : Nat) (a1 : Int32) (S : zM) : f_Machine_depthOf a0 a1 S = zrt false zP_Machine_depthOf (zE_Machine_depthOf (Int32 × zM)) zc_Machine_depthOf zkI (fun pc lv st S => none) 1000 0 [some (.ref a0), some (.int a1)] [] S := rfl
theorem G_Machine_depthOf {g : zV → Nat → List Value → zM → Prop} {res : (Int32 × zM)} (H : zCl false zP_Machine_depthOf (zE_Machine_depthOf (Int32 × zM)) zkI res g) (Hw : zWk g) (a0 : Nat) (a1 : Int32) (S : zM) (h : f_Machine_depthOf a0 a1 S = some res) : g [some (.ref a0), some (.int a1)] 0 [] S := by
  refine H zc_Machine_depthOf _ 1000 _ _ _ _ ((r_Machine_depthOf a0 a1 S).symm.trans h) (fun pc lv st S hK => ?_)
  cases hK
set_option maxRecDepth 100000 in
theorem ok_Machine_depthOf : zokT 3 [111] false 1 21 2 false (some .int) cX3_depthOf zP_Machine_depthOf = true := by decide +kernel
set_option maxRecDepth 100000 in
theorem s_Machine_depthOf {l : Launch} {HB : Heap} {b L : Nat} {xs : Nat → Int32} {aK aV : Nat → Nat} {G : va_G} {tc : Nat → ClassId} (h0 : zSnd l HB b L xs aK aV G tc (zMT.getD 111 zyD) (fun α => zA_vRI_I 3 f_Machine_has)) : zSnd l HB b L xs aK aV G tc (zMT.getD 117 zyD) (fun α => zA_vRI_I 3 f_Machine_depthOf) := by
  rw [show zMT.getD 117 zyD = (yX3_depthOf, cX3_depthOf, 2, (some .int), 0, 2, 1, 21) from rfl]
  intro α as S k res h
  unfold zA_vRI_I at h
  dsimp only at h
  split at h
  · rename_i a0 a1
    obtain ⟨p, hp, h⟩ := zbind h
    unfold zcl at hp
    split at hp
    · rename_i hkd
      have hm := zmeth (l := l) (HB := HB) (b := b) (L := L) (xs := xs) (aK := aK) (aV := aV) (G := G) (tc := tc) (q := (yX3_depthOf, cX3_depthOf, 2, (some .int), 0, 2, 1, 21)) (o := 3) (cs := [111]) (rz := false) (T := zP_Machine_depthOf) (E := zE_Machine_depthOf (Int32 × zM)) (kr := zkI) (res := p) (v0 := some (.int p.1)) (S0 := p.2) (as := [.ref a0, .int a1]) (S := S) zMT_fine (by decide +kernel) (fun i as S k' h => by
        unfold zE_Machine_depthOf at h
        rcases zdisf h with ⟨rfl, h⟩ | h
        · exact h0 _ _ _ _ _ h
        cases h) ok_Machine_depthOf rfl (fun v S' h => zkI_inv h) (Nat.le_of_ble_eq_true rfl) (fun g H Hw => Hw _ [some (.ref a0), some (.int a1)] _ _ _ ⟨rfl, rfl, trivial⟩ (G_Machine_depthOf H Hw a0 a1 S hp))
      exact ⟨_, _, h, hm.1, rfl, fun _ => ⟨_, _, rfl⟩, (fun _ U H hK hH a r e => by cases e; exact zrecv (ci := 3) (by omega) hkd rfl U H hK hH), hm.2⟩
    · cases hp
  · cases h
def zP_Cl_depth : List (List (Nat × zE)) := [[(0, e1 (.aload_n 0) 1 0), (1, e1 (.iload_n 1) 2 1), (2, e1 (.iload_n 2) 3 2), (3, e3 (.invokevirtual 181) 6 0 3 0), (6, e1 (.astore_n 3) 7 3), (7, e1 (.aload_n 3) 8 3), (8, e1 (.ifnonnull 11) 11 19), (11, e1 (.aload_n 0) 12 0), (12, ei (.iconst 1) 13 0 (1)), (13, e3 (.invokevirtual 79) 16 1 2 0)],
  [(16, e1 (.goto 12) 19 28), (19, e1 (.aload_n 0) 20 0), (20, e1 (.aload_n 3) 21 3), (21, e1 (.iload_n 2) 22 2), (22, e3 (.invokevirtual 189) 25 2 2 0), (25, e3 (.invokevirtual 109) 28 3 2 0), (28, e0 (.ireturn) 29)]]
noncomputable def zE_Cl_depth (α : Type) : Nat → zX α := fun i => bif Nat.beq i 0 then zA_vRII_N 11 f_Cl_machineWith else bif Nat.beq i 1 then zA_vRI_I 11 f_Cl_refuse else bif Nat.beq i 2 then zA_vRI_I 3 f_Machine_depthOf else bif Nat.beq i 3 then zA_vRI_I 11 f_Cl_answer else fun _ _ _ => none
def zc_Cl_depth : Nat → Bool := fun pc => false
set_option maxRecDepth 100000 in
theorem r_Cl_depth (a0 : Nat) (a1 : Int32) (a2 : Int32) (S : zM) : f_Cl_depth a0 a1 a2 S = zrt false zP_Cl_depth (zE_Cl_depth (Int32 × zM)) zc_Cl_depth zkI (fun pc lv st S => none) 1000 0 [some (.ref a0), some (.int a1), some (.int a2), none] [] S := rfl
theorem G_Cl_depth {g : zV → Nat → List Value → zM → Prop} {res : (Int32 × zM)} (H : zCl false zP_Cl_depth (zE_Cl_depth (Int32 × zM)) zkI res g) (Hw : zWk g) (a0 : Nat) (a1 : Int32) (a2 : Int32) (S : zM) (h : f_Cl_depth a0 a1 a2 S = some res) : g [some (.ref a0), some (.int a1), some (.int a2), none] 0 [] S := by
  refine H zc_Cl_depth _ 1000 _ _ _ _ ((r_Cl_depth a0 a1 a2 S).symm.trans h) (fun pc lv st S hK => ?_)
  cases hK
set_option maxRecDepth 100000 in
theorem ok_Cl_depth : zokT 11 [112, 16, 117, 59] false 2 44 4 false (some .int) cX11_depth zP_Cl_depth = true := by decide +kernel
set_option maxRecDepth 100000 in
theorem s_Cl_depth {l : Launch} {HB : Heap} {b L : Nat} {xs : Nat → Int32} {aK aV : Nat → Nat} {G : va_G} {tc : Nat → ClassId} (h0 : zSnd l HB b L xs aK aV G tc (zMT.getD 112 zyD) (fun α => zA_vRII_N 11 f_Cl_machineWith)) (h1 : zSnd l HB b L xs aK aV G tc (zMT.getD 16 zyD) (fun α => zA_vRI_I 11 f_Cl_refuse)) (h2 : zSnd l HB b L xs aK aV G tc (zMT.getD 117 zyD) (fun α => zA_vRI_I 3 f_Machine_depthOf)) (h3 : zSnd l HB b L xs aK aV G tc (zMT.getD 59 zyD) (fun α => zA_vRI_I 11 f_Cl_answer)) : zSnd l HB b L xs aK aV G tc (zMT.getD 118 zyD) (fun α => zA_vRII_I 11 f_Cl_depth) := by
  rw [show zMT.getD 118 zyD = (yX11_depth, cX11_depth, 4, (some .int), 0, 3, 2, 44) from rfl]
  intro α as S k res h
  unfold zA_vRII_I at h
  dsimp only at h
  split at h
  · rename_i a0 a1 a2
    obtain ⟨p, hp, h⟩ := zbind h
    unfold zcl at hp
    split at hp
    · rename_i hkd
      have hm := zmeth (l := l) (HB := HB) (b := b) (L := L) (xs := xs) (aK := aK) (aV := aV) (G := G) (tc := tc) (q := (yX11_depth, cX11_depth, 4, (some .int), 0, 3, 2, 44)) (o := 11) (cs := [112, 16, 117, 59]) (rz := false) (T := zP_Cl_depth) (E := zE_Cl_depth (Int32 × zM)) (kr := zkI) (res := p) (v0 := some (.int p.1)) (S0 := p.2) (as := [.ref a0, .int a1, .int a2]) (S := S) zMT_fine (by decide +kernel) (fun i as S k' h => by
        unfold zE_Cl_depth at h
        rcases zdisf h with ⟨rfl, h⟩ | h
        · exact h0 _ _ _ _ _ h
        rcases zdisf h with ⟨rfl, h⟩ | h
        · exact h1 _ _ _ _ _ h
        rcases zdisf h with ⟨rfl, h⟩ | h
        · exact h2 _ _ _ _ _ h
        rcases zdisf h with ⟨rfl, h⟩ | h
        · exact h3 _ _ _ _ _ h
        cases h) ok_Cl_depth rfl (fun v S' h => zkI_inv h) (Nat.le_of_ble_eq_true rfl) (fun g H Hw => Hw _ [some (.ref a0), some (.int a1), some (.int a2), none] _ _ _ ⟨rfl, rfl, rfl, trivial⟩ (G_Cl_depth H Hw a0 a1 a2 S hp))
      exact ⟨_, _, h, hm.1, rfl, fun _ => ⟨_, _, rfl⟩, (fun _ U H hK hH a r e => by cases e; exact zrecv (ci := 11) (by omega) hkd rfl U H hK hH), hm.2⟩
    · cases hp
  · cases h
def zP_Mo_depth : List (List (Nat × zE)) := [[(0, e1 (.aload_n 0) 1 0), (1, e3 (.invokevirtual 272) 4 0 1 0), (4, e1 (.aload_n 0) 5 0), (5, e1 (.iload_n 1) 6 1), (6, e1 (.iload_n 2) 7 2), (7, e3 (.invokevirtual 329) 10 1 3 0), (10, e1 (.ifCond .eq 16) 13 26), (13, e1 (.aload_n 0) 14 0), (14, e3 (.getfield 46) 17 12 30 2)],
  [(17, e1 (.iload_n 2) 18 2), (18, e0 (.iaload) 19), (19, ei (.sipush 512) 22 0 (512)), (22, e0 (.idiv) 23), (23, e1 (.goto 8) 26 31), (26, e1 (.aload_n 0) 27 0), (27, ei (.iconst 1) 28 0 (1)), (28, e3 (.invokevirtual 275) 31 2 2 0), (31, e0 (.ireturn) 32)]]
noncomputable def zE_Mo_depth (α : Type) : Nat → zX α := fun i => bif Nat.beq i 0 then zA_vR_V 12 f_Mo_fresh else bif Nat.beq i 1 then zA_vRII_I 12 f_Mo_isState else bif Nat.beq i 2 then zA_vRI_I 12 f_Mo_no else fun _ _ _ => none
def zc_Mo_depth : Nat → Bool := fun pc => false
set_option maxRecDepth 100000 in
theorem r_Mo_depth (a0 : Nat) (a1 : Int32) (a2 : Int32) (S : zM) : f_Mo_depth a0 a1 a2 S = zrt false zP_Mo_depth (zE_Mo_depth (Int32 × zM)) zc_Mo_depth zkI (fun pc lv st S => none) 1000 0 [some (.ref a0), some (.int a1), some (.int a2)] [] S := rfl
theorem G_Mo_depth {g : zV → Nat → List Value → zM → Prop} {res : (Int32 × zM)} (H : zCl false zP_Mo_depth (zE_Mo_depth (Int32 × zM)) zkI res g) (Hw : zWk g) (a0 : Nat) (a1 : Int32) (a2 : Int32) (S : zM) (h : f_Mo_depth a0 a1 a2 S = some res) : g [some (.ref a0), some (.int a1), some (.int a2)] 0 [] S := by
  refine H zc_Mo_depth _ 1000 _ _ _ _ ((r_Mo_depth a0 a1 a2 S).symm.trans h) (fun pc lv st S hK => ?_)
  cases hK
set_option maxRecDepth 100000 in
theorem ok_Mo_depth : zokT 12 [61, 115, 63] false 4 93 3 false (some .int) cX12_depth zP_Mo_depth = true := by decide +kernel
set_option maxRecDepth 100000 in
theorem s_Mo_depth {l : Launch} {HB : Heap} {b L : Nat} {xs : Nat → Int32} {aK aV : Nat → Nat} {G : va_G} {tc : Nat → ClassId} (h0 : zSnd l HB b L xs aK aV G tc (zMT.getD 61 zyD) (fun α => zA_vR_V 12 f_Mo_fresh)) (h1 : zSnd l HB b L xs aK aV G tc (zMT.getD 115 zyD) (fun α => zA_vRII_I 12 f_Mo_isState)) (h2 : zSnd l HB b L xs aK aV G tc (zMT.getD 63 zyD) (fun α => zA_vRI_I 12 f_Mo_no)) : zSnd l HB b L xs aK aV G tc (zMT.getD 119 zyD) (fun α => zA_vRII_I 12 f_Mo_depth) := by
  rw [show zMT.getD 119 zyD = (yX12_depth, cX12_depth, 3, (some .int), 0, 3, 4, 93) from rfl]
  intro α as S k res h
  unfold zA_vRII_I at h
  dsimp only at h
  split at h
  · rename_i a0 a1 a2
    obtain ⟨p, hp, h⟩ := zbind h
    unfold zcl at hp
    split at hp
    · rename_i hkd
      have hm := zmeth (l := l) (HB := HB) (b := b) (L := L) (xs := xs) (aK := aK) (aV := aV) (G := G) (tc := tc) (q := (yX12_depth, cX12_depth, 3, (some .int), 0, 3, 4, 93)) (o := 12) (cs := [61, 115, 63]) (rz := false) (T := zP_Mo_depth) (E := zE_Mo_depth (Int32 × zM)) (kr := zkI) (res := p) (v0 := some (.int p.1)) (S0 := p.2) (as := [.ref a0, .int a1, .int a2]) (S := S) zMT_fine (by decide +kernel) (fun i as S k' h => by
        unfold zE_Mo_depth at h
        rcases zdisf h with ⟨rfl, h⟩ | h
        · exact h0 _ _ _ _ _ h
        rcases zdisf h with ⟨rfl, h⟩ | h
        · exact h1 _ _ _ _ _ h
        rcases zdisf h with ⟨rfl, h⟩ | h
        · exact h2 _ _ _ _ _ h
        cases h) ok_Mo_depth rfl (fun v S' h => zkI_inv h) (Nat.le_of_ble_eq_true rfl) (fun g H Hw => Hw _ [some (.ref a0), some (.int a1), some (.int a2)] _ _ _ ⟨rfl, rfl, rfl, trivial⟩ (G_Mo_depth H Hw a0 a1 a2 S hp))
      exact ⟨_, _, h, hm.1, rfl, fun _ => ⟨_, _, rfl⟩, (fun _ U H hK hH a r e => by cases e; exact zrecv (ci := 12) (by omega) hkd rfl U H hK hH), hm.2⟩
    · cases hp
  · cases h
def zP_Machine_endingAt : List (List (Nat × zE)) := [[(0, e1 (.aload_n 0) 1 0), (1, e1 (.iload_n 1) 2 1), (2, e3 (.invokevirtual 34) 5 0 2 0), (5, e1 (.ifCond .eq 12) 8 17), (8, e1 (.aload_n 0) 9 0), (9, e3 (.getfield 18) 12 3 2 2), (12, e1 (.iload_n 1) 13 1), (13, e0 (.iaload) 14), (14, e1 (.goto 4) 17 18)],
  [(17, ei (.iconst 0) 18 0 (0)), (18, e0 (.ireturn) 19)]]
noncomputable def zE_Machine_endingAt (α : Type) : Nat → zX α := fun i => bif Nat.beq i 0 then zA_vRI_I 3 f_Machine_has else fun _ _ _ => none
def zc_Machine_endingAt : Nat → Bool := fun pc => false
set_option maxRecDepth 100000 in
theorem r_Machine_endingAt (a0 : Nat) (a1 : Int32) (S : zM) : f_Machine_endingAt a0 a1 S = zrt false zP_Machine_endingAt (zE_Machine_endingAt (Int32 × zM)) zc_Machine_endingAt zkI (fun pc lv st S => none) 1000 0 [some (.ref a0), some (.int a1)] [] S := rfl
theorem G_Machine_endingAt {g : zV → Nat → List Value → zM → Prop} {res : (Int32 × zM)} (H : zCl false zP_Machine_endingAt (zE_Machine_endingAt (Int32 × zM)) zkI res g) (Hw : zWk g) (a0 : Nat) (a1 : Int32) (S : zM) (h : f_Machine_endingAt a0 a1 S = some res) : g [some (.ref a0), some (.int a1)] 0 [] S := by
  refine H zc_Machine_endingAt _ 1000 _ _ _ _ ((r_Machine_endingAt a0 a1 S).symm.trans h) (fun pc lv st S hK => ?_)
  cases hK
set_option maxRecDepth 100000 in
theorem ok_Machine_endingAt : zokT 3 [111] false 1 21 2 false (some .int) cX3_endingAt zP_Machine_endingAt = true := by decide +kernel
set_option maxRecDepth 100000 in
theorem s_Machine_endingAt {l : Launch} {HB : Heap} {b L : Nat} {xs : Nat → Int32} {aK aV : Nat → Nat} {G : va_G} {tc : Nat → ClassId} (h0 : zSnd l HB b L xs aK aV G tc (zMT.getD 111 zyD) (fun α => zA_vRI_I 3 f_Machine_has)) : zSnd l HB b L xs aK aV G tc (zMT.getD 120 zyD) (fun α => zA_vRI_I 3 f_Machine_endingAt) := by
  rw [show zMT.getD 120 zyD = (yX3_endingAt, cX3_endingAt, 2, (some .int), 0, 2, 1, 21) from rfl]
  intro α as S k res h
  unfold zA_vRI_I at h
  dsimp only at h
  split at h
  · rename_i a0 a1
    obtain ⟨p, hp, h⟩ := zbind h
    unfold zcl at hp
    split at hp
    · rename_i hkd
      have hm := zmeth (l := l) (HB := HB) (b := b) (L := L) (xs := xs) (aK := aK) (aV := aV) (G := G) (tc := tc) (q := (yX3_endingAt, cX3_endingAt, 2, (some .int), 0, 2, 1, 21)) (o := 3) (cs := [111]) (rz := false) (T := zP_Machine_endingAt) (E := zE_Machine_endingAt (Int32 × zM)) (kr := zkI) (res := p) (v0 := some (.int p.1)) (S0 := p.2) (as := [.ref a0, .int a1]) (S := S) zMT_fine (by decide +kernel) (fun i as S k' h => by
        unfold zE_Machine_endingAt at h
        rcases zdisf h with ⟨rfl, h⟩ | h
        · exact h0 _ _ _ _ _ h
        cases h) ok_Machine_endingAt rfl (fun v S' h => zkI_inv h) (Nat.le_of_ble_eq_true rfl) (fun g H Hw => Hw _ [some (.ref a0), some (.int a1)] _ _ _ ⟨rfl, rfl, trivial⟩ (G_Machine_endingAt H Hw a0 a1 S hp))
      exact ⟨_, _, h, hm.1, rfl, fun _ => ⟨_, _, rfl⟩, (fun _ U H hK hH a r e => by cases e; exact zrecv (ci := 3) (by omega) hkd rfl U H hK hH), hm.2⟩
    · cases hp
  · cases h
def zP_Cl_ends : List (List (Nat × zE)) := [[(0, e1 (.aload_n 0) 1 0), (1, e1 (.iload_n 1) 2 1), (2, e1 (.iload_n 2) 3 2), (3, e3 (.invokevirtual 181) 6 0 3 0), (6, e1 (.astore_n 3) 7 3), (7, e1 (.aload_n 3) 8 3), (8, e1 (.ifnonnull 11) 11 19), (11, e1 (.aload_n 0) 12 0), (12, ei (.iconst 1) 13 0 (1)), (13, e3 (.invokevirtual 79) 16 1 2 0)],
  [(16, e1 (.goto 12) 19 28), (19, e1 (.aload_n 0) 20 0), (20, e1 (.aload_n 3) 21 3), (21, e1 (.iload_n 2) 22 2), (22, e3 (.invokevirtual 192) 25 2 2 0), (25, e3 (.invokevirtual 109) 28 3 2 0), (28, e0 (.ireturn) 29)]]
noncomputable def zE_Cl_ends (α : Type) : Nat → zX α := fun i => bif Nat.beq i 0 then zA_vRII_N 11 f_Cl_machineWith else bif Nat.beq i 1 then zA_vRI_I 11 f_Cl_refuse else bif Nat.beq i 2 then zA_vRI_I 3 f_Machine_endingAt else bif Nat.beq i 3 then zA_vRI_I 11 f_Cl_answer else fun _ _ _ => none
def zc_Cl_ends : Nat → Bool := fun pc => false
set_option maxRecDepth 100000 in
theorem r_Cl_ends (a0 : Nat) (a1 : Int32) (a2 : Int32) (S : zM) : f_Cl_ends a0 a1 a2 S = zrt false zP_Cl_ends (zE_Cl_ends (Int32 × zM)) zc_Cl_ends zkI (fun pc lv st S => none) 1000 0 [some (.ref a0), some (.int a1), some (.int a2), none] [] S := rfl
theorem G_Cl_ends {g : zV → Nat → List Value → zM → Prop} {res : (Int32 × zM)} (H : zCl false zP_Cl_ends (zE_Cl_ends (Int32 × zM)) zkI res g) (Hw : zWk g) (a0 : Nat) (a1 : Int32) (a2 : Int32) (S : zM) (h : f_Cl_ends a0 a1 a2 S = some res) : g [some (.ref a0), some (.int a1), some (.int a2), none] 0 [] S := by
  refine H zc_Cl_ends _ 1000 _ _ _ _ ((r_Cl_ends a0 a1 a2 S).symm.trans h) (fun pc lv st S hK => ?_)
  cases hK
set_option maxRecDepth 100000 in
theorem ok_Cl_ends : zokT 11 [112, 16, 120, 59] false 2 44 4 false (some .int) cX11_ends zP_Cl_ends = true := by decide +kernel
set_option maxRecDepth 100000 in
theorem s_Cl_ends {l : Launch} {HB : Heap} {b L : Nat} {xs : Nat → Int32} {aK aV : Nat → Nat} {G : va_G} {tc : Nat → ClassId} (h0 : zSnd l HB b L xs aK aV G tc (zMT.getD 112 zyD) (fun α => zA_vRII_N 11 f_Cl_machineWith)) (h1 : zSnd l HB b L xs aK aV G tc (zMT.getD 16 zyD) (fun α => zA_vRI_I 11 f_Cl_refuse)) (h2 : zSnd l HB b L xs aK aV G tc (zMT.getD 120 zyD) (fun α => zA_vRI_I 3 f_Machine_endingAt)) (h3 : zSnd l HB b L xs aK aV G tc (zMT.getD 59 zyD) (fun α => zA_vRI_I 11 f_Cl_answer)) : zSnd l HB b L xs aK aV G tc (zMT.getD 121 zyD) (fun α => zA_vRII_I 11 f_Cl_ends) := by
  rw [show zMT.getD 121 zyD = (yX11_ends, cX11_ends, 4, (some .int), 0, 3, 2, 44) from rfl]
  intro α as S k res h
  unfold zA_vRII_I at h
  dsimp only at h
  split at h
  · rename_i a0 a1 a2
    obtain ⟨p, hp, h⟩ := zbind h
    unfold zcl at hp
    split at hp
    · rename_i hkd
      have hm := zmeth (l := l) (HB := HB) (b := b) (L := L) (xs := xs) (aK := aK) (aV := aV) (G := G) (tc := tc) (q := (yX11_ends, cX11_ends, 4, (some .int), 0, 3, 2, 44)) (o := 11) (cs := [112, 16, 120, 59]) (rz := false) (T := zP_Cl_ends) (E := zE_Cl_ends (Int32 × zM)) (kr := zkI) (res := p) (v0 := some (.int p.1)) (S0 := p.2) (as := [.ref a0, .int a1, .int a2]) (S := S) zMT_fine (by decide +kernel) (fun i as S k' h => by
        unfold zE_Cl_ends at h
        rcases zdisf h with ⟨rfl, h⟩ | h
        · exact h0 _ _ _ _ _ h
        rcases zdisf h with ⟨rfl, h⟩ | h
        · exact h1 _ _ _ _ _ h
        rcases zdisf h with ⟨rfl, h⟩ | h
        · exact h2 _ _ _ _ _ h
        rcases zdisf h with ⟨rfl, h⟩ | h
        · exact h3 _ _ _ _ _ h
        cases h) ok_Cl_ends rfl (fun v S' h => zkI_inv h) (Nat.le_of_ble_eq_true rfl) (fun g H Hw => Hw _ [some (.ref a0), some (.int a1), some (.int a2), none] _ _ _ ⟨rfl, rfl, rfl, trivial⟩ (G_Cl_ends H Hw a0 a1 a2 S hp))
      exact ⟨_, _, h, hm.1, rfl, fun _ => ⟨_, _, rfl⟩, (fun _ U H hK hH a r e => by cases e; exact zrecv (ci := 11) (by omega) hkd rfl U H hK hH), hm.2⟩
    · cases hp
  · cases h
