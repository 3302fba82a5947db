/-! what the tables and the start say, at the law's entry (the checks are written by genworld.py) -/
def ztm : Nat → Term := fun i => bif Nat.beq i 12 then .string "CarriedLetters" 356 else .string "CarriedLetters$Reader" ([67, 75, 80, 84, 89, 113, 135, 146, 164, 173, 175, 180].getD i 0)
def zFl : List Cond := flatC (Jvm.Cond.and given_1 narrow_1)
def zvl (i : Nat) : Term := .field (ztm i) "java/lang/String" "value" "[B"
def zTa : List (Nat × Nat × Nat × Nat) := [(69, 70, 71, 72), (91, 92, 93, 94), (101, 102, 103, 104), (112, 113, 114, 115), (79, 80, 81, 82), (124, 125, 126, 127), (135, 136, 137, 138), (150, 151, 152, 153), (166, 167, 168, 169), (184, 185, 186, 187), (199, 200, 201, 202), (217, 218, 219, 220), (236, 237, 238, 239)]
def zTb : List (List Nat) := [[73, 74, 75, 76, 77, 78], [95, 96, 97, 98], [105, 106, 107, 108], [116, 117, 118, 119], [83, 84, 85, 86, 87, 88, 89], [128, 129], [139, 140, 141, 142, 143], [154, 155, 156, 157, 158], [170, 171, 172, 173, 174, 175], [188, 189], [203, 204, 205, 206], [221, 222, 223, 224], [240, 241, 242, 243, 244, 245, 246, 247, 248, 249, 250, 251]]
def zTc : List (List (Nat × Nat)) := [[], [(99, 0)], [(109, 0), (111, 0)], [(120, 0), (122, 0), (123, 0)], [(90, 0), (100, 1), (110, 1), (121, 1)], [(130, 0), (132, 0), (133, 0), (134, 0), (131, 0)], [(144, 0), (146, 0), (147, 0), (148, 0), (145, 0), (149, 0)], [(159, 0), (161, 0), (162, 0), (163, 0), (160, 0), (164, 0), (165, 0)], [(176, 0), (178, 0), (179, 0), (180, 0), (177, 0), (181, 0), (182, 0), (183, 0)], [(190, 0), (192, 0), (193, 0), (194, 0), (191, 0), (195, 0), (196, 0), (197, 0), (198, 0)], [(207, 0), (209, 0), (210, 0), (211, 0), (208, 0), (212, 0), (213, 0), (214, 0), (215, 0), (216, 0)], [(225, 0), (227, 0), (228, 0), (229, 0), (226, 0), (230, 0), (231, 0), (232, 0), (233, 0), (234, 0), (235, 0)], [(252, 0), (254, 0), (255, 0), (256, 0), (253, 0), (257, 0), (258, 0), (259, 0), (260, 0), (261, 0), (262, 0), (263, 0)]]
def zTd : List Nat := [274, 322, 346, 371, 299, 395, 423, 452, 483, 511, 542, 574]
def zis (n : Nat) (w : Cond) : Bool := decide (zFl[n]? = some w)
theorem zis_in {n : Nat} {w : Cond} (h : zis n w = true) : w ∈ zFl := List.mem_of_getElem? (of_decide_eq_true h)
set_option maxRecDepth 100000 in
set_option maxHeartbeats 8000000 in
theorem zs_a0 : (zis 69 (.exactly (ztm 0) "java/lang/String") && zis 70 (.eq (.field (ztm 0) "java/lang/String" "coder" "B") (.int 0)) && zis 71 (.arrayOf (zvl 0) .byte) && zis 72 (.eq (.length (zvl 0)) (.int (Int32.ofNat ((zstr.map List.length).getD 0 0))))) = true := by decide +kernel
set_option maxRecDepth 100000 in
set_option maxHeartbeats 8000000 in
theorem zs_b0 : (List.range ((zstr.map List.length).getD 0 0)).all (fun j => zis ((zTb.getD 0 []).getD j 0) (.eq (.elem (zvl 0) (.int (Int32.ofNat j))) (.int ((zstr.getD 0 []).getD j 0)))) = true := by decide +kernel
set_option maxRecDepth 100000 in
set_option maxHeartbeats 8000000 in
theorem zs_c0 : (List.range 0).all (fun j => (zis ((zTc.getD 0 []).getD j (0, 0)).1 (.not (.eq (ztm 0) (ztm j)))) || (zis ((zTc.getD 0 []).getD j (0, 0)).1 (.not (.eq (ztm j) (ztm 0))))) = true := by decide +kernel
set_option maxRecDepth 100000 in
set_option maxHeartbeats 8000000 in
theorem zs_a1 : (zis 91 (.exactly (ztm 1) "java/lang/String") && zis 92 (.eq (.field (ztm 1) "java/lang/String" "coder" "B") (.int 0)) && zis 93 (.arrayOf (zvl 1) .byte) && zis 94 (.eq (.length (zvl 1)) (.int (Int32.ofNat ((zstr.map List.length).getD 1 0))))) = true := by decide +kernel
set_option maxRecDepth 100000 in
set_option maxHeartbeats 8000000 in
theorem zs_b1 : (List.range ((zstr.map List.length).getD 1 0)).all (fun j => zis ((zTb.getD 1 []).getD j 0) (.eq (.elem (zvl 1) (.int (Int32.ofNat j))) (.int ((zstr.getD 1 []).getD j 0)))) = true := by decide +kernel
set_option maxRecDepth 100000 in
set_option maxHeartbeats 8000000 in
theorem zs_c1 : (List.range 1).all (fun j => (zis ((zTc.getD 1 []).getD j (0, 0)).1 (.not (.eq (ztm 1) (ztm j)))) || (zis ((zTc.getD 1 []).getD j (0, 0)).1 (.not (.eq (ztm j) (ztm 1))))) = true := by decide +kernel
set_option maxRecDepth 100000 in
set_option maxHeartbeats 8000000 in
theorem zs_a2 : (zis 101 (.exactly (ztm 2) "java/lang/String") && zis 102 (.eq (.field (ztm 2) "java/lang/String" "coder" "B") (.int 0)) && zis 103 (.arrayOf (zvl 2) .byte) && zis 104 (.eq (.length (zvl 2)) (.int (Int32.ofNat ((zstr.map List.length).getD 2 0))))) = true := by decide +kernel
set_option maxRecDepth 100000 in
set_option maxHeartbeats 8000000 in
theorem zs_b2 : (List.range ((zstr.map List.length).getD 2 0)).all (fun j => zis ((zTb.getD 2 []).getD j 0) (.eq (.elem (zvl 2) (.int (Int32.ofNat j))) (.int ((zstr.getD 2 []).getD j 0)))) = true := by decide +kernel
set_option maxRecDepth 100000 in
set_option maxHeartbeats 8000000 in
theorem zs_c2 : (List.range 2).all (fun j => (zis ((zTc.getD 2 []).getD j (0, 0)).1 (.not (.eq (ztm 2) (ztm j)))) || (zis ((zTc.getD 2 []).getD j (0, 0)).1 (.not (.eq (ztm j) (ztm 2))))) = true := by decide +kernel
set_option maxRecDepth 100000 in
set_option maxHeartbeats 8000000 in
theorem zs_a3 : (zis 112 (.exactly (ztm 3) "java/lang/String") && zis 113 (.eq (.field (ztm 3) "java/lang/String" "coder" "B") (.int 0)) && zis 114 (.arrayOf (zvl 3) .byte) && zis 115 (.eq (.length (zvl 3)) (.int (Int32.ofNat ((zstr.map List.length).getD 3 0))))) = true := by decide +kernel
set_option maxRecDepth 100000 in
set_option maxHeartbeats 8000000 in
theorem zs_b3 : (List.range ((zstr.map List.length).getD 3 0)).all (fun j => zis ((zTb.getD 3 []).getD j 0) (.eq (.elem (zvl 3) (.int (Int32.ofNat j))) (.int ((zstr.getD 3 []).getD j 0)))) = true := by decide +kernel
set_option maxRecDepth 100000 in
set_option maxHeartbeats 8000000 in
theorem zs_c3 : (List.range 3).all (fun j => (zis ((zTc.getD 3 []).getD j (0, 0)).1 (.not (.eq (ztm 3) (ztm j)))) || (zis ((zTc.getD 3 []).getD j (0, 0)).1 (.not (.eq (ztm j) (ztm 3))))) = true := by decide +kernel
set_option maxRecDepth 100000 in
set_option maxHeartbeats 8000000 in
theorem zs_a4 : (zis 79 (.exactly (ztm 4) "java/lang/String") && zis 80 (.eq (.field (ztm 4) "java/lang/String" "coder" "B") (.int 0)) && zis 81 (.arrayOf (zvl 4) .byte) && zis 82 (.eq (.length (zvl 4)) (.int (Int32.ofNat ((zstr.map List.length).getD 4 0))))) = true := by decide +kernel
set_option maxRecDepth 100000 in
set_option maxHeartbeats 8000000 in
theorem zs_b4 : (List.range ((zstr.map List.length).getD 4 0)).all (fun j => zis ((zTb.getD 4 []).getD j 0) (.eq (.elem (zvl 4) (.int (Int32.ofNat j))) (.int ((zstr.getD 4 []).getD j 0)))) = true := by decide +kernel
set_option maxRecDepth 100000 in
set_option maxHeartbeats 8000000 in
theorem zs_c4 : (List.range 4).all (fun j => (zis ((zTc.getD 4 []).getD j (0, 0)).1 (.not (.eq (ztm 4) (ztm j)))) || (zis ((zTc.getD 4 []).getD j (0, 0)).1 (.not (.eq (ztm j) (ztm 4))))) = true := by decide +kernel
set_option maxRecDepth 100000 in
set_option maxHeartbeats 8000000 in
theorem zs_a5 : (zis 124 (.exactly (ztm 5) "java/lang/String") && zis 125 (.eq (.field (ztm 5) "java/lang/String" "coder" "B") (.int 0)) && zis 126 (.arrayOf (zvl 5) .byte) && zis 127 (.eq (.length (zvl 5)) (.int (Int32.ofNat ((zstr.map List.length).getD 5 0))))) = true := by decide +kernel
set_option maxRecDepth 100000 in
set_option maxHeartbeats 8000000 in
theorem zs_b5 : (List.range ((zstr.map List.length).getD 5 0)).all (fun j => zis ((zTb.getD 5 []).getD j 0) (.eq (.elem (zvl 5) (.int (Int32.ofNat j))) (.int ((zstr.getD 5 []).getD j 0)))) = true := by decide +kernel
set_option maxRecDepth 100000 in
set_option maxHeartbeats 8000000 in
theorem zs_c5 : (List.range 5).all (fun j => (zis ((zTc.getD 5 []).getD j (0, 0)).1 (.not (.eq (ztm 5) (ztm j)))) || (zis ((zTc.getD 5 []).getD j (0, 0)).1 (.not (.eq (ztm j) (ztm 5))))) = true := by decide +kernel
set_option maxRecDepth 100000 in
set_option maxHeartbeats 8000000 in
theorem zs_a6 : (zis 135 (.exactly (ztm 6) "java/lang/String") && zis 136 (.eq (.field (ztm 6) "java/lang/String" "coder" "B") (.int 0)) && zis 137 (.arrayOf (zvl 6) .byte) && zis 138 (.eq (.length (zvl 6)) (.int (Int32.ofNat ((zstr.map List.length).getD 6 0))))) = true := by decide +kernel
set_option maxRecDepth 100000 in
set_option maxHeartbeats 8000000 in
theorem zs_b6 : (List.range ((zstr.map List.length).getD 6 0)).all (fun j => zis ((zTb.getD 6 []).getD j 0) (.eq (.elem (zvl 6) (.int (Int32.ofNat j))) (.int ((zstr.getD 6 []).getD j 0)))) = true := by decide +kernel
set_option maxRecDepth 100000 in
set_option maxHeartbeats 8000000 in
theorem zs_c6 : (List.range 6).all (fun j => (zis ((zTc.getD 6 []).getD j (0, 0)).1 (.not (.eq (ztm 6) (ztm j)))) || (zis ((zTc.getD 6 []).getD j (0, 0)).1 (.not (.eq (ztm j) (ztm 6))))) = true := by decide +kernel
set_option maxRecDepth 100000 in
set_option maxHeartbeats 8000000 in
theorem zs_a7 : (zis 150 (.exactly (ztm 7) "java/lang/String") && zis 151 (.eq (.field (ztm 7) "java/lang/String" "coder" "B") (.int 0)) && zis 152 (.arrayOf (zvl 7) .byte) && zis 153 (.eq (.length (zvl 7)) (.int (Int32.ofNat ((zstr.map List.length).getD 7 0))))) = true := by decide +kernel
set_option maxRecDepth 100000 in
set_option maxHeartbeats 8000000 in
theorem zs_b7 : (List.range ((zstr.map List.length).getD 7 0)).all (fun j => zis ((zTb.getD 7 []).getD j 0) (.eq (.elem (zvl 7) (.int (Int32.ofNat j))) (.int ((zstr.getD 7 []).getD j 0)))) = true := by decide +kernel
set_option maxRecDepth 100000 in
set_option maxHeartbeats 8000000 in
theorem zs_c7 : (List.range 7).all (fun j => (zis ((zTc.getD 7 []).getD j (0, 0)).1 (.not (.eq (ztm 7) (ztm j)))) || (zis ((zTc.getD 7 []).getD j (0, 0)).1 (.not (.eq (ztm j) (ztm 7))))) = true := by decide +kernel
set_option maxRecDepth 100000 in
set_option maxHeartbeats 8000000 in
theorem zs_a8 : (zis 166 (.exactly (ztm 8) "java/lang/String") && zis 167 (.eq (.field (ztm 8) "java/lang/String" "coder" "B") (.int 0)) && zis 168 (.arrayOf (zvl 8) .byte) && zis 169 (.eq (.length (zvl 8)) (.int (Int32.ofNat ((zstr.map List.length).getD 8 0))))) = true := by decide +kernel
set_option maxRecDepth 100000 in
set_option maxHeartbeats 8000000 in
theorem zs_b8 : (List.range ((zstr.map List.length).getD 8 0)).all (fun j => zis ((zTb.getD 8 []).getD j 0) (.eq (.elem (zvl 8) (.int (Int32.ofNat j))) (.int ((zstr.getD 8 []).getD j 0)))) = true := by decide +kernel
set_option maxRecDepth 100000 in
set_option maxHeartbeats 8000000 in
theorem zs_c8 : (List.range 8).all (fun j => (zis ((zTc.getD 8 []).getD j (0, 0)).1 (.not (.eq (ztm 8) (ztm j)))) || (zis ((zTc.getD 8 []).getD j (0, 0)).1 (.not (.eq (ztm j) (ztm 8))))) = true := by decide +kernel
set_option maxRecDepth 100000 in
set_option maxHeartbeats 8000000 in
theorem zs_a9 : (zis 184 (.exactly (ztm 9) "java/lang/String") && zis 185 (.eq (.field (ztm 9) "java/lang/String" "coder" "B") (.int 0)) && zis 186 (.arrayOf (zvl 9) .byte) && zis 187 (.eq (.length (zvl 9)) (.int (Int32.ofNat ((zstr.map List.length).getD 9 0))))) = true := by decide +kernel
set_option maxRecDepth 100000 in
set_option maxHeartbeats 8000000 in
theorem zs_b9 : (List.range ((zstr.map List.length).getD 9 0)).all (fun j => zis ((zTb.getD 9 []).getD j 0) (.eq (.elem (zvl 9) (.int (Int32.ofNat j))) (.int ((zstr.getD 9 []).getD j 0)))) = true := by decide +kernel
set_option maxRecDepth 100000 in
set_option maxHeartbeats 8000000 in
theorem zs_c9 : (List.range 9).all (fun j => (zis ((zTc.getD 9 []).getD j (0, 0)).1 (.not (.eq (ztm 9) (ztm j)))) || (zis ((zTc.getD 9 []).getD j (0, 0)).1 (.not (.eq (ztm j) (ztm 9))))) = true := by decide +kernel
set_option maxRecDepth 100000 in
set_option maxHeartbeats 8000000 in
theorem zs_a10 : (zis 199 (.exactly (ztm 10) "java/lang/String") && zis 200 (.eq (.field (ztm 10) "java/lang/String" "coder" "B") (.int 0)) && zis 201 (.arrayOf (zvl 10) .byte) && zis 202 (.eq (.length (zvl 10)) (.int (Int32.ofNat ((zstr.map List.length).getD 10 0))))) = true := by decide +kernel
set_option maxRecDepth 100000 in
set_option maxHeartbeats 8000000 in
theorem zs_b10 : (List.range ((zstr.map List.length).getD 10 0)).all (fun j => zis ((zTb.getD 10 []).getD j 0) (.eq (.elem (zvl 10) (.int (Int32.ofNat j))) (.int ((zstr.getD 10 []).getD j 0)))) = true := by decide +kernel
set_option maxRecDepth 100000 in
set_option maxHeartbeats 8000000 in
theorem zs_c10 : (List.range 10).all (fun j => (zis ((zTc.getD 10 []).getD j (0, 0)).1 (.not (.eq (ztm 10) (ztm j)))) || (zis ((zTc.getD 10 []).getD j (0, 0)).1 (.not (.eq (ztm j) (ztm 10))))) = true := by decide +kernel
set_option maxRecDepth 100000 in
set_option maxHeartbeats 8000000 in
theorem zs_a11 : (zis 217 (.exactly (ztm 11) "java/lang/String") && zis 218 (.eq (.field (ztm 11) "java/lang/String" "coder" "B") (.int 0)) && zis 219 (.arrayOf (zvl 11) .byte) && zis 220 (.eq (.length (zvl 11)) (.int (Int32.ofNat ((zstr.map List.length).getD 11 0))))) = true := by decide +kernel
set_option maxRecDepth 100000 in
set_option maxHeartbeats 8000000 in
theorem zs_b11 : (List.range ((zstr.map List.length).getD 11 0)).all (fun j => zis ((zTb.getD 11 []).getD j 0) (.eq (.elem (zvl 11) (.int (Int32.ofNat j))) (.int ((zstr.getD 11 []).getD j 0)))) = true := by decide +kernel
set_option maxRecDepth 100000 in
set_option maxHeartbeats 8000000 in
theorem zs_c11 : (List.range 11).all (fun j => (zis ((zTc.getD 11 []).getD j (0, 0)).1 (.not (.eq (ztm 11) (ztm j)))) || (zis ((zTc.getD 11 []).getD j (0, 0)).1 (.not (.eq (ztm j) (ztm 11))))) = true := by decide +kernel
set_option maxRecDepth 100000 in
set_option maxHeartbeats 8000000 in
theorem zs_a12 : (zis 236 (.exactly (ztm 12) "java/lang/String") && zis 237 (.eq (.field (ztm 12) "java/lang/String" "coder" "B") (.int 0)) && zis 238 (.arrayOf (zvl 12) .byte) && zis 239 (.eq (.length (zvl 12)) (.int (Int32.ofNat ((zstr.map List.length).getD 12 0))))) = true := by decide +kernel
set_option maxRecDepth 100000 in
set_option maxHeartbeats 8000000 in
theorem zs_b12 : (List.range ((zstr.map List.length).getD 12 0)).all (fun j => zis ((zTb.getD 12 []).getD j 0) (.eq (.elem (zvl 12) (.int (Int32.ofNat j))) (.int ((zstr.getD 12 []).getD j 0)))) = true := by decide +kernel
set_option maxRecDepth 100000 in
set_option maxHeartbeats 8000000 in
theorem zs_c12 : (List.range 12).all (fun j => (zis ((zTc.getD 12 []).getD j (0, 0)).1 (.not (.eq (ztm 12) (ztm j)))) || (zis ((zTc.getD 12 []).getD j (0, 0)).1 (.not (.eq (ztm j) (ztm 12))))) = true := by decide +kernel
theorem zs_a (i : Nat) (h : i < 13) : (Cond.exactly (ztm i) "java/lang/String" ∈ zFl ∧ Cond.eq (.field (ztm i) "java/lang/String" "coder" "B") (.int 0) ∈ zFl) ∧ Cond.arrayOf (zvl i) .byte ∈ zFl ∧ Cond.eq (.length (zvl i)) (.int (Int32.ofNat ((zstr.map List.length).getD i 0))) ∈ zFl := by
  match i, h with
  | 0, _ => have h := zs_a0; simp only [Bool.and_eq_true] at h; exact ⟨⟨zis_in h.1.1.1, zis_in h.1.1.2⟩, zis_in h.1.2, zis_in h.2⟩
  | 1, _ => have h := zs_a1; simp only [Bool.and_eq_true] at h; exact ⟨⟨zis_in h.1.1.1, zis_in h.1.1.2⟩, zis_in h.1.2, zis_in h.2⟩
  | 2, _ => have h := zs_a2; simp only [Bool.and_eq_true] at h; exact ⟨⟨zis_in h.1.1.1, zis_in h.1.1.2⟩, zis_in h.1.2, zis_in h.2⟩
  | 3, _ => have h := zs_a3; simp only [Bool.and_eq_true] at h; exact ⟨⟨zis_in h.1.1.1, zis_in h.1.1.2⟩, zis_in h.1.2, zis_in h.2⟩
  | 4, _ => have h := zs_a4; simp only [Bool.and_eq_true] at h; exact ⟨⟨zis_in h.1.1.1, zis_in h.1.1.2⟩, zis_in h.1.2, zis_in h.2⟩
  | 5, _ => have h := zs_a5; simp only [Bool.and_eq_true] at h; exact ⟨⟨zis_in h.1.1.1, zis_in h.1.1.2⟩, zis_in h.1.2, zis_in h.2⟩
  | 6, _ => have h := zs_a6; simp only [Bool.and_eq_true] at h; exact ⟨⟨zis_in h.1.1.1, zis_in h.1.1.2⟩, zis_in h.1.2, zis_in h.2⟩
  | 7, _ => have h := zs_a7; simp only [Bool.and_eq_true] at h; exact ⟨⟨zis_in h.1.1.1, zis_in h.1.1.2⟩, zis_in h.1.2, zis_in h.2⟩
  | 8, _ => have h := zs_a8; simp only [Bool.and_eq_true] at h; exact ⟨⟨zis_in h.1.1.1, zis_in h.1.1.2⟩, zis_in h.1.2, zis_in h.2⟩
  | 9, _ => have h := zs_a9; simp only [Bool.and_eq_true] at h; exact ⟨⟨zis_in h.1.1.1, zis_in h.1.1.2⟩, zis_in h.1.2, zis_in h.2⟩
  | 10, _ => have h := zs_a10; simp only [Bool.and_eq_true] at h; exact ⟨⟨zis_in h.1.1.1, zis_in h.1.1.2⟩, zis_in h.1.2, zis_in h.2⟩
  | 11, _ => have h := zs_a11; simp only [Bool.and_eq_true] at h; exact ⟨⟨zis_in h.1.1.1, zis_in h.1.1.2⟩, zis_in h.1.2, zis_in h.2⟩
  | 12, _ => have h := zs_a12; simp only [Bool.and_eq_true] at h; exact ⟨⟨zis_in h.1.1.1, zis_in h.1.1.2⟩, zis_in h.1.2, zis_in h.2⟩
  | n + 13, h => omega
theorem zs_b (i : Nat) (h : i < 13) (j : Nat) (hj : j < (zstr.map List.length).getD i 0) : Cond.eq (.elem (zvl i) (.int (Int32.ofNat j))) (.int ((zstr.getD i []).getD j 0)) ∈ zFl := by
  match i, h, hj with
  | 0, _, hj => exact zis_in (List.all_eq_true.mp zs_b0 j (List.mem_range.mpr hj))
  | 1, _, hj => exact zis_in (List.all_eq_true.mp zs_b1 j (List.mem_range.mpr hj))
  | 2, _, hj => exact zis_in (List.all_eq_true.mp zs_b2 j (List.mem_range.mpr hj))
  | 3, _, hj => exact zis_in (List.all_eq_true.mp zs_b3 j (List.mem_range.mpr hj))
  | 4, _, hj => exact zis_in (List.all_eq_true.mp zs_b4 j (List.mem_range.mpr hj))
  | 5, _, hj => exact zis_in (List.all_eq_true.mp zs_b5 j (List.mem_range.mpr hj))
  | 6, _, hj => exact zis_in (List.all_eq_true.mp zs_b6 j (List.mem_range.mpr hj))
  | 7, _, hj => exact zis_in (List.all_eq_true.mp zs_b7 j (List.mem_range.mpr hj))
  | 8, _, hj => exact zis_in (List.all_eq_true.mp zs_b8 j (List.mem_range.mpr hj))
  | 9, _, hj => exact zis_in (List.all_eq_true.mp zs_b9 j (List.mem_range.mpr hj))
  | 10, _, hj => exact zis_in (List.all_eq_true.mp zs_b10 j (List.mem_range.mpr hj))
  | 11, _, hj => exact zis_in (List.all_eq_true.mp zs_b11 j (List.mem_range.mpr hj))
  | 12, _, hj => exact zis_in (List.all_eq_true.mp zs_b12 j (List.mem_range.mpr hj))
  | n + 13, h, _ => omega
theorem zs_c (i : Nat) (h : i < 13) (j : Nat) (hj : j < i) : Cond.not (Cond.eq (ztm i) (ztm j)) ∈ zFl ∨ Cond.not (Cond.eq (ztm j) (ztm i)) ∈ zFl := by
  match i, h, hj with
  | 0, _, hj => have q := List.all_eq_true.mp zs_c0 j (List.mem_range.mpr hj); simp only [Bool.or_eq_true] at q; exact q.imp zis_in zis_in
  | 1, _, hj => have q := List.all_eq_true.mp zs_c1 j (List.mem_range.mpr hj); simp only [Bool.or_eq_true] at q; exact q.imp zis_in zis_in
  | 2, _, hj => have q := List.all_eq_true.mp zs_c2 j (List.mem_range.mpr hj); simp only [Bool.or_eq_true] at q; exact q.imp zis_in zis_in
  | 3, _, hj => have q := List.all_eq_true.mp zs_c3 j (List.mem_range.mpr hj); simp only [Bool.or_eq_true] at q; exact q.imp zis_in zis_in
  | 4, _, hj => have q := List.all_eq_true.mp zs_c4 j (List.mem_range.mpr hj); simp only [Bool.or_eq_true] at q; exact q.imp zis_in zis_in
  | 5, _, hj => have q := List.all_eq_true.mp zs_c5 j (List.mem_range.mpr hj); simp only [Bool.or_eq_true] at q; exact q.imp zis_in zis_in
  | 6, _, hj => have q := List.all_eq_true.mp zs_c6 j (List.mem_range.mpr hj); simp only [Bool.or_eq_true] at q; exact q.imp zis_in zis_in
  | 7, _, hj => have q := List.all_eq_true.mp zs_c7 j (List.mem_range.mpr hj); simp only [Bool.or_eq_true] at q; exact q.imp zis_in zis_in
  | 8, _, hj => have q := List.all_eq_true.mp zs_c8 j (List.mem_range.mpr hj); simp only [Bool.or_eq_true] at q; exact q.imp zis_in zis_in
  | 9, _, hj => have q := List.all_eq_true.mp zs_c9 j (List.mem_range.mpr hj); simp only [Bool.or_eq_true] at q; exact q.imp zis_in zis_in
  | 10, _, hj => have q := List.all_eq_true.mp zs_c10 j (List.mem_range.mpr hj); simp only [Bool.or_eq_true] at q; exact q.imp zis_in zis_in
  | 11, _, hj => have q := List.all_eq_true.mp zs_c11 j (List.mem_range.mpr hj); simp only [Bool.or_eq_true] at q; exact q.imp zis_in zis_in
  | 12, _, hj => have q := List.all_eq_true.mp zs_c12 j (List.mem_range.mpr hj); simp only [Bool.or_eq_true] at q; exact q.imp zis_in zis_in
  | n + 13, h, _ => omega
/-- the reference's own places of the same texts -/
def zm2 : List Nat := [190, 192, 194, 196, 198, 200, 202, 204, 206, 208, 210, 212]
set_option maxRecDepth 100000 in
set_option maxHeartbeats 8000000 in
theorem zs_d : (List.range 12).all (fun i => zis (zTd.getD i 0) (.eq (ztm i) (.string "CarriedLettersModel" (zm2.getD i 0)))) = true := by decide +kernel
set_option maxRecDepth 100000 in
set_option maxHeartbeats 8000000 in
theorem zs_e : zstrs.all (fun q => decide (Cond.stringRef q.1 q.2.1 q.2.2.1 ∈ lw_tbl)) = true := by decide +kernel
set_option maxRecDepth 100000 in
theorem zs_f : zstrs.all (fun q => (decide (q.2.2.2 < 13) && decide (Term.string q.1 q.2.1 = ztm q.2.2.2)) || (decide (q.2.2.2 < 12) && decide (Term.string q.1 q.2.1 = .string "CarriedLettersModel" (zm2.getD q.2.2.2 0)))) = true := by decide +kernel
def zwds : List Cond := [.laysStatic "java/lang/String" "COMPACT_STRINGS" "Z", .initialized "java/lang/String", .laysStatic "jdk/internal/util/Preconditions" "SIOOBE_FORMATTER" "Ljava/util/function/BiFunction;", .initialized "jdk/internal/util/Preconditions", .laysStatic Bundle.tN "UNASSIGNED_STACK" Bundle.steD, .initialized Bundle.tN, .laysStatic Bundle.tN "SUPPRESSED_SENTINEL" Bundle.listD, .arrayClass .int, .arrayClass .long, .arrayClass .boolean, .arrayOver (.object RX5), .arrayOver (.object RX8), .arrayOver (.object RX9), .instantiable "java/util/NoSuchElementException" 6]
set_option maxRecDepth 100000 in
set_option maxHeartbeats 8000000 in
theorem zwds_in : zwds.all (fun w => decide (w ∈ lw_tbl)) = true := by decide +kernel
theorem zwd_at (i : Nat) {w : Cond} (h : zwds[i]? = some w) : w ∈ lw_tbl := of_decide_eq_true (List.all_eq_true.mp zwds_in w (List.mem_of_getElem? h))
def zst3 : List Cond := [Cond.eq (.static "java/lang/String" "COMPACT_STRINGS" "Z") (.int 1), .isRef (.static "jdk/internal/util/Preconditions" "SIOOBE_FORMATTER" "Ljava/util/function/BiFunction;"), .isRef (.static Bundle.tN "UNASSIGNED_STACK" Bundle.steD), .isRef (.static Bundle.tN "SUPPRESSED_SENTINEL" Bundle.listD)]
set_option maxRecDepth 100000 in
set_option maxHeartbeats 8000000 in
theorem zst3_in : (zis 4 (zst3.getD 0 (.count 0)) && zis 5 (zst3.getD 1 (.count 0)) && zis 9 (zst3.getD 2 (.count 0)) && zis 10 (zst3.getD 3 (.count 0))) = true := by decide +kernel
theorem zst_in : ∀ w ∈ zst3, w ∈ zFl := by
  have h := zst3_in
  simp only [Bool.and_eq_true] at h
  intro w hw
  simp only [zst3, List.mem_cons, List.not_mem_nil, or_false] at hw
  rcases hw with rfl | rfl | rfl | rfl
  · exact zis_in h.1.1.1
  · exact zis_in h.1.1.2
  · exact zis_in h.1.2
  · exact zis_in h.2
theorem zst_at (i : Nat) {w : Cond} (h : zst3[i]? = some w) : w ∈ zFl := zst_in w (List.mem_of_getElem? h)
theorem z_prim {s : State} {args : Array Value} {ty : FieldType} (h : (Cond.arrayClass ty).before args s = true) : ∃ cA : ClassId, ArrOfT s cA ty ∧ s.vm.findClass ("[" ++ ty.toString) = some cA := by
  obtain ⟨c, k, comp, h1, h2, h3⟩ := Cond.arrayClass_spec (show (Cond.arrayClass ty).holds args s none s [] = true from h)
  exact ⟨c, fun N z => ⟨(fun k h => by cases h), k, h2, comp, h3⟩, h1⟩
theorem z_objs {s : State} {args : Array Value} {C : String} (h : (Cond.arrayOver (.object C)).before args s = true) : ∃ cA : ClassId, ArrOfT s cA (.object C) ∧ va_RA s cA (.object C) := by
  obtain ⟨comp, c, k, f1, -, f2, f3, f4⟩ := Cond.arrayOver_spec (show (Cond.arrayOver (.object C)).holds args s none s [] = true from h)
  exact ⟨c, fun N z => ⟨(fun k h => by cases h), k, f2, comp, f3⟩, k, comp, f2, f3, f1, f4⟩
theorem law_world {p : Program} {s : State} {m : MethodId} {meth : Method} {c : Code} {b L : Nat} {xs : Nat → Int32} (C0 : lw_At p s m meth c b L xs) : ∃ (aK aV : Nat → Nat) (G : va_G) (tc : Nat → ClassId), zKS s.heap b L xs aK aV G tc s := by
  obtain ⟨hx, hb, hr, hml, hown, hts, hX, hbl, hlocks, hgv⟩ := id C0
  have hfl : ∀ w ∈ zFl, w.before #[Value.ref b] s = true := flat_of_before _ hgv
  have hA : ∀ a : Nat, a < s.heap.size → ¬ s.heap.size ≤ a := fun a h => Nat.not_le.mpr h
  obtain ⟨adK, adV, hS, hev⟩ := vk_Sof (args := #[Value.ref b]) (s := s) (N := 13) (tm := ztm) (len := zstr.map List.length) (byt := zstr) (A := fun q => s.heap.size ≤ q)
    (fun i hi => by
      have : ∀ i, i < 13 → (zstr.map List.length).getD i 0 < 100 := by decide +kernel
      have := this i hi
      omega)
    (fun i hi => by
      exact hfl _ (zs_a i hi).1.1)
    (fun i hi => by
      exact hfl _ (zs_a i hi).1.2)
    (fun i hi => by
      exact hfl _ (zs_a i hi).2.1)
    (fun i hi => by
      exact hfl _ (zs_a i hi).2.2)
    (fun i hi j hj => by
      exact hfl _ (zs_b i hi j hj))
    (fun i j hi hj hij => by
      rcases Nat.lt_or_gt_of_ne hij with q | q
      · have := zs_c j hj i q
        rcases this with h | h
        · exact Or.inr (hfl _ h)
        · exact Or.inl (hfl _ h)
      · have := zs_c i hi j q
        rcases this with h | h
        · exact Or.inl (hfl _ h)
        · exact Or.inr (hfl _ h)) hA
  have hKc : ∀ k : Nat, ∃ D : ClassId × (Nat → Nat), ∀ q : vw_C, vwC[k]? = some q → u_Kn s q.1 q.2.1 q.2.2 D.1 D.2 := by
    intro k
    by_cases hk : k < 13
    · obtain ⟨C, T, N, ty, z1, z2, z3, z4, z5, z6, z7, z8, z9, z10⟩ := zcls_ok k hk
      obtain ⟨cC, iS, hu⟩ := u_known (s := s) (args := #[Value.ref b]) (C := C) (T := T) (N := N) (n := N) (ws := zTs) (fun w hw => hts w (List.mem_filter.mp hw).1) z4 (hts _ (List.mem_filter.mp z9).1)
      exact ⟨(cC, iS), fun q hq => by rw [z1] at hq; cases hq; exact hu⟩
    · by_cases h13 : k = 13
      · subst h13
        obtain ⟨cC, iS, hu⟩ := u_known (s := s) (args := #[Value.ref b]) (C := "java/util/NoSuchElementException") (T := TX0) (N := 0) (n := 6) (ws := []) (fun w hw => by cases hw) (fun w hw => by cases hw) (hts _ (zwd_at 13 rfl))
        exact ⟨(cC, iS), fun q hq => by
          have e : vwC[13]? = some ("java/util/NoSuchElementException", TX0, 0) := rfl
          rw [e] at hq; cases hq; exact hu⟩
      · refine ⟨(0, fun _ => 0), fun q hq => ?_⟩
        have : vwC.length = 14 := by decide +kernel
        rw [List.getElem?_eq_none (by omega)] at hq
        cases hq
  obtain ⟨c0, i0a, i0b⟩ := z_prim (hts _ (zwd_at 7 rfl))
  obtain ⟨c1, i1a, i1b⟩ := z_prim (hts _ (zwd_at 8 rfl))
  obtain ⟨c2, i2a, i2b⟩ := z_prim (hts _ (zwd_at 9 rfl))
  obtain ⟨c5, i5a, i5b⟩ := z_objs (C := RX5) (hts _ (zwd_at 10 rfl))
  obtain ⟨c8, i8a, i8b⟩ := z_objs (C := RX8) (hts _ (zwd_at 11 rfl))
  obtain ⟨c9, i9a, i9b⟩ := z_objs (C := RX9) (hts _ (zwd_at 12 rfl))
  obtain ⟨aK, haK⟩ : ∃ aK : Nat → Nat, aK = fun i => if i < 1000000 then adK i else adV (i - 1000000) := ⟨_, rfl⟩
  have ak : ∀ i, i < 13 → aK i = adK i := fun i hi => by rw [haK]; exact if_pos (by omega)
  refine ⟨aK, adV, (fun k => (Classical.choose (hKc k)).1, fun k => (Classical.choose (hKc k)).2), (fun k => if k = 100 then c0 else if k = 101 then c1 else if k = 102 then c2 else if k = 115 then c5 else if k = 118 then c8 else c9), ⟨fun k q hq => Classical.choose_spec (hKc k) q hq, fun k q hq => ?_⟩, fun w hw hn => ?_, fun q hq => ?_, ⟨hX, hbl⟩, ⟨fun i hi => ?_, fun i j hi hj e => hS.2 i j hi hj (by rw [← ak i hi, ← ak j hj]; exact e)⟩, va_AO.of (hts _ (zwd_at 10 rfl)), va_AO.of (hts _ (zwd_at 11 rfl)), va_AO.of (hts _ (zwd_at 12 rfl)), fun k hk => ?_, ?_, ?_, ?_, ?_⟩
  · match k, hq with
    | 0, hq => cases hq; exact ⟨i0a, i0b⟩
    | 1, hq => cases hq; exact ⟨i1a, i1b⟩
    | 2, hq => cases hq; exact ⟨i2a, i2b⟩
    | 3, hq => cases hq; exact ⟨i5a, i5b⟩
    | 4, hq => cases hq; exact ⟨i8a, i8b⟩
    | 5, hq => cases hq; exact ⟨i9a, i9b⟩
    | k + 6, hq => simp at hq
  · cases w with
    | fieldLinkNest a i b n d h => exact va_Nw.of rfl (hts _ hw)
    | methodLinkNest a i x h => exact va_Nw.of rfl (hts _ hw)
    | castable a i => exact va_Nw.of rfl (hts _ hw)
    | declares x => exact va_Nw.of rfl (hts _ hw)
    | _ => cases hn
  · have h1 := of_decide_eq_true (List.all_eq_true.mp zs_e q hq)
    have h2 := List.all_eq_true.mp zs_f q hq
    simp only [Bool.or_eq_true, Bool.and_eq_true, decide_eq_true_eq] at h2
    refine vk_R.of (A := #[Value.ref b]) (hts _ h1) ?_
    rcases h2 with ⟨g1, g2⟩ | ⟨g1, g2⟩
    · rw [g2, ak _ g1]; exact hev _ g1
    · have := zis_in (List.all_eq_true.mp zs_d q.2.2.2 (List.mem_range.mpr g1))
      obtain ⟨y, y1, y2⟩ := Cond.eq_one (show (Cond.eq (ztm q.2.2.2) (.string "CarriedLettersModel" (zm2.getD q.2.2.2 0))).holds #[Value.ref b] s none s [] = true from hfl _ this)
      rw [g2, ak _ (by omega), y2, ← y1]
      exact hev _ (by omega)
  · rw [ak i hi]; exact hS.1 i hi
  · rw [haK]
    show (if 1000000 + k < 1000000 then adK (1000000 + k) else adV (1000000 + k - 1000000)) = adV k
    rw [if_neg (by omega), show 1000000 + k - 1000000 = k by omega]
  · obtain ⟨y, y1, y2⟩ := Cond.eq_one (show (Cond.eq (.static "java/lang/String" "COMPACT_STRINGS" "Z") (.int 1)).holds #[Value.ref b] s none s [] = true from hfl _ (zst_at 0 rfl))
    have y2 : some (Value.int 1) = some y := y2
    cases y2
    exact va_Zof (hts _ (zwd_at 0 rfl)) (hts _ (zwd_at 1 rfl)) y1 hA
  · exact va_Zqof (hts _ (zwd_at 2 rfl)) (hts _ (zwd_at 3 rfl)) (hfl _ (zst_at 1 rfl)) hA
  · exact vx_Zqof (hts _ (zwd_at 4 rfl)) (hts _ (zwd_at 5 rfl)) (hfl _ (zst_at 2 rfl)) hA
  · exact vx_Zqof (hts _ (zwd_at 6 rfl)) (hts _ (zwd_at 5 rfl)) (hfl _ (zst_at 3 rfl)) hA
