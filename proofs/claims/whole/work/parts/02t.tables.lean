def zTs : List Cond := lw_tbl.filter goodWord
theorem zTs_of {i : Nat} {w : Cond} (h : lw_tbl[i]? = some w) (hg : goodWord w = true) : w ∈ zTs := List.mem_filter.mpr ⟨List.mem_of_getElem? h, hg⟩
theorem zmem_all {α : Type} (f : α → Cond) (l : List α) (ps : List Nat) (h : l.map (fun q => some (f q)) = ps.map (fun i => lw_tbl[i]?)) : ∀ q ∈ l, f q ∈ lw_tbl := by
  intro q hq
  have h1 : some (f q) ∈ l.map (fun q => some (f q)) := List.mem_map.mpr ⟨q, hq, rfl⟩
  rw [h] at h1
  obtain ⟨i, -, hi⟩ := List.mem_map.mp h1
  exact List.mem_of_getElem? hi
theorem zTs_all (ws : List Cond) (ps : List Nat) (h : ws.map (fun q => some q) = ps.map (fun i => lw_tbl[i]?)) (hg : ws.all goodWord = true) : ∀ w ∈ ws, w ∈ zTs := fun w hw => List.mem_filter.mpr ⟨zmem_all id ws ps h w hw, List.all_eq_true.mp hg w hw⟩
set_option maxRecDepth 100000 in
theorem zin_0 : ∀ w ∈ u_ws RX0 TX0 2, w ∈ zTs := zTs_all _ [280, 282] (by decide +kernel) (by decide +kernel)
set_option maxRecDepth 100000 in
theorem zin_1 : ∀ w ∈ u_ws RX1 TX1 6, w ∈ zTs := zTs_all _ [218, 220, 222, 224, 226, 228] (by decide +kernel) (by decide +kernel)
set_option maxRecDepth 100000 in
theorem zin_2 : ∀ w ∈ u_ws RX2 TX2 12, w ∈ zTs := zTs_all _ [1104, 1106, 1108, 1110, 1112, 1114, 1116, 1118, 1120, 1122, 1124, 1126] (by decide +kernel) (by decide +kernel)
set_option maxRecDepth 100000 in
theorem zin_3 : ∀ w ∈ u_ws RX3 TX3 7, w ∈ zTs := zTs_all _ [314, 316, 318, 320, 322, 324, 326] (by decide +kernel) (by decide +kernel)
set_option maxRecDepth 100000 in
theorem zin_4 : ∀ w ∈ u_ws RX4 TX4 3, w ∈ zTs := zTs_all _ [1081, 1083, 1085] (by decide +kernel) (by decide +kernel)
set_option maxRecDepth 100000 in
theorem zin_5 : ∀ w ∈ u_ws RX5 TX5 6, w ∈ zTs := zTs_all _ [383, 385, 387, 389, 391, 393] (by decide +kernel) (by decide +kernel)
set_option maxRecDepth 100000 in
theorem zin_6 : ∀ w ∈ u_ws RX6 TX6 8, w ∈ zTs := zTs_all _ [254, 256, 258, 260, 262, 264, 266, 268] (by decide +kernel) (by decide +kernel)
set_option maxRecDepth 100000 in
theorem zin_7 : ∀ w ∈ u_ws RX7 TX7 8, w ∈ zTs := zTs_all _ [165, 167, 169, 171, 173, 175, 177, 179] (by decide +kernel) (by decide +kernel)
set_option maxRecDepth 100000 in
theorem zin_8 : ∀ w ∈ u_ws RX8 TX8 2, w ∈ zTs := zTs_all _ [204, 206] (by decide +kernel) (by decide +kernel)
set_option maxRecDepth 100000 in
theorem zin_9 : ∀ w ∈ u_ws RX9 TX9 4, w ∈ zTs := zTs_all _ [355, 357, 359, 361] (by decide +kernel) (by decide +kernel)
set_option maxRecDepth 100000 in
theorem zin_10 : ∀ w ∈ u_ws RX10 TX10 6, w ∈ zTs := zTs_all _ [410, 412, 414, 416, 418, 420] (by decide +kernel) (by decide +kernel)
set_option maxRecDepth 100000 in
theorem zin_11 : ∀ w ∈ u_ws RX11 TX11 18, w ∈ zTs := zTs_all _ [441, 443, 445, 447, 449, 451, 453, 455, 457, 459, 461, 463, 465, 467, 469, 471, 473, 475] (by decide +kernel) (by decide +kernel)
set_option maxRecDepth 100000 in
theorem zin_12 : ∀ w ∈ u_ws RX12 TX12 67, w ∈ zTs := zTs_all _ [1502, 1504, 1506, 1508, 1510, 1512, 1514, 1516, 1518, 1520, 1522, 1524, 1526, 1528, 1530, 1532, 1534, 1536, 1538, 1540, 1542, 1544, 1546, 1548, 1550, 1552, 1554, 1556, 1558, 1560, 1562, 1564, 1566, 1568, 1570, 1572, 1574, 1576, 1578, 1580, 1582, 1584, 1586, 1588, 1590, 1592, 1594, 1596, 1598, 1600, 1602, 1604, 1606, 1608, 1610, 1612, 1614, 1616, 1618, 1620, 1622, 1624, 1626, 1628, 1630, 1632, 1634] (by decide +kernel) (by decide +kernel)
def zow : List String := ["CarriedLetters$Acts", "CarriedLetters$Carrier", "CarriedLetters$Census", "CarriedLetters$Machine", "CarriedLetters$Outcomes", "CarriedLetters$Pass", "CarriedLetters$Pieces", "CarriedLetters$Reader", "CarriedLetters$Row", "CarriedLetters$Rule", "CarriedLetters$Script", "CarriedLetters", "CarriedLettersModel", "CarriedLettersLaw", "java/lang/Integer", "java/lang/Math", "java/util/Arrays"]
/-- of a class: its row of the tables, and its field's types -/
def zCls (ci : Nat) (C : String) (T : u_T) (N : Nat) (ty : Nat → FieldType) : Prop :=
  vwC[ci]? = some (C, T, N) ∧ zfn.getD ci 0 = N ∧ zow.getD ci "" = C ∧ (∀ w ∈ u_ws C T N, w ∈ zTs) ∧ (∀ k, k < N → parseFieldDescriptor (T k).2.2.1 = some (ty k)) ∧ (∀ a, a < N → ∀ b, b < N → a ≠ b → (T a).2.1 ≠ (T b).2.1) ∧ (∀ k, k < N → (match ty k with
    | .int => 0
    | .boolean => 2
    | .object _ => 1
    | .array _ => 1
    | _ => 9) = (zft.getD ci []).getD k 0) ∧ (∀ k, k < N → (T k).1 = C) ∧ (Cond.instantiable C N ∈ zTs) ∧ (Cond.initialized C ∈ zTs)
set_option maxRecDepth 100000 in
theorem zcls_ok (ci : Nat) (h : ci < 13) : ∃ C T N ty, zCls ci C T N ty := by
  match ci, h with
  | 0, _ => exact ⟨RX0, TX0, 2, tyX0, rfl, rfl, rfl, zin_0, tyX0_ok, nmX0, by decide +kernel, by decide +kernel, zTs_of (i := 272) (by decide +kernel) (by decide +kernel), zTs_of (i := 122) (by decide +kernel) (by decide +kernel)⟩
  | 1, _ => exact ⟨RX1, TX1, 6, tyX1, rfl, rfl, rfl, zin_1, tyX1_ok, nmX1, by decide +kernel, by decide +kernel, zTs_of (i := 184) (by decide +kernel) (by decide +kernel), zTs_of (i := 119) (by decide +kernel) (by decide +kernel)⟩
  | 2, _ => exact ⟨RX2, TX2, 12, tyX2, rfl, rfl, rfl, zin_2, tyX2_ok, nmX2, by decide +kernel, by decide +kernel, zTs_of (i := 1067) (by decide +kernel) (by decide +kernel), zTs_of (i := 136) (by decide +kernel) (by decide +kernel)⟩
  | 3, _ => exact ⟨RX3, TX3, 7, tyX3, rfl, rfl, rfl, zin_3, tyX3_ok, nmX3, by decide +kernel, by decide +kernel, zTs_of (i := 301) (by decide +kernel) (by decide +kernel), zTs_of (i := 125) (by decide +kernel) (by decide +kernel)⟩
  | 4, _ => exact ⟨RX4, TX4, 3, tyX4, rfl, rfl, rfl, zin_4, tyX4_ok, nmX4, by decide +kernel, by decide +kernel, zTs_of (i := 1073) (by decide +kernel) (by decide +kernel), zTs_of (i := 137) (by decide +kernel) (by decide +kernel)⟩
  | 5, _ => exact ⟨RX5, TX5, 6, tyX5, rfl, rfl, rfl, zin_5, tyX5_ok, nmX5, by decide +kernel, by decide +kernel, zTs_of (i := 293) (by decide +kernel) (by decide +kernel), zTs_of (i := 124) (by decide +kernel) (by decide +kernel)⟩
  | 6, _ => exact ⟨RX6, TX6, 8, tyX6, rfl, rfl, rfl, zin_6, tyX6_ok, nmX6, by decide +kernel, by decide +kernel, zTs_of (i := 234) (by decide +kernel) (by decide +kernel), zTs_of (i := 121) (by decide +kernel) (by decide +kernel)⟩
  | 7, _ => exact ⟨RX7, TX7, 8, tyX7, rfl, rfl, rfl, zin_7, tyX7_ok, nmX7, by decide +kernel, by decide +kernel, zTs_of (i := 151) (by decide +kernel) (by decide +kernel), zTs_of (i := 118) (by decide +kernel) (by decide +kernel)⟩
  | 8, _ => exact ⟨RX8, TX8, 2, tyX8, rfl, rfl, rfl, zin_8, tyX8_ok, nmX8, by decide +kernel, by decide +kernel, zTs_of (i := 191) (by decide +kernel) (by decide +kernel), zTs_of (i := 120) (by decide +kernel) (by decide +kernel)⟩
  | 9, _ => exact ⟨RX9, TX9, 4, tyX9, rfl, rfl, rfl, zin_9, tyX9_ok, nmX9, by decide +kernel, by decide +kernel, zTs_of (i := 330) (by decide +kernel) (by decide +kernel), zTs_of (i := 126) (by decide +kernel) (by decide +kernel)⟩
  | 10, _ => exact ⟨RX10, TX10, 6, tyX10, rfl, rfl, rfl, zin_10, tyX10_ok, nmX10, by decide +kernel, by decide +kernel, zTs_of (i := 286) (by decide +kernel) (by decide +kernel), zTs_of (i := 123) (by decide +kernel) (by decide +kernel)⟩
  | 11, _ => exact ⟨RX11, TX11, 18, tyX11, rfl, rfl, rfl, zin_11, tyX11_ok, nmX11, by decide +kernel, by decide +kernel, zTs_of (i := 143) (by decide +kernel) (by decide +kernel), zTs_of (i := 117) (by decide +kernel) (by decide +kernel)⟩
  | 12, _ => exact ⟨RX12, TX12, 67, tyX12, rfl, rfl, rfl, zin_12, tyX12_ok, nmX12, by decide +kernel, by decide +kernel, zTs_of (i := 1431) (by decide +kernel) (by decide +kernel), zTs_of (i := 127) (by decide +kernel) (by decide +kernel)⟩
  | n + 13, h => omega
def zT (ci : Nat) : u_T := (vwC.getD ci ("", TX0, 0)).2.1
def zLF : List (Nat × Nat × Nat × Nat × Nat) := [(7, 9, 7, 0, 0), (8, 9, 8, 0, 0), (1, 11, 1, 0, 0), (1, 17, 1, 1, 0), (1, 21, 1, 2, 0), (1, 27, 1, 3, 0), (1, 31, 1, 4, 0), (8, 15, 8, 1, 0), (6, 11, 6, 0, 0), (6, 17, 6, 1, 0), (6, 21, 6, 2, 0), (6, 24, 6, 3, 0), (6, 27, 6, 4, 0), (0, 9, 0, 0, 0), (3, 11, 3, 0, 0), (3, 15, 3, 1, 0), (3, 18, 3, 2, 0), (3, 21, 3, 3, 0), (3, 24, 3, 4, 0), (3, 27, 3, 5, 0), (9, 14, 9, 0, 0), (9, 20, 9, 1, 0), (5, 11, 5, 0, 0), (5, 20, 5, 1, 0), (5, 24, 5, 2, 0), (10, 9, 10, 0, 0), (10, 15, 10, 1, 0), (10, 21, 10, 2, 0), (11, 9, 11, 0, 0), (11, 16, 11, 1, 0), (11, 23, 11, 2, 0), (11, 27, 11, 3, 0), (11, 35, 11, 4, 0), (11, 39, 11, 5, 0), (11, 42, 11, 6, 0), (11, 45, 11, 7, 0), (11, 51, 11, 8, 0), (11, 58, 11, 9, 0), (11, 65, 11, 10, 0), (11, 69, 11, 11, 0), (12, 9, 12, 3, 0), (12, 13, 12, 4, 0), (12, 17, 12, 10, 0), (12, 20, 12, 11, 0), (12, 23, 12, 12, 0), (12, 27, 12, 13, 0), (12, 30, 12, 17, 0), (12, 33, 12, 18, 0), (12, 37, 12, 19, 0), (12, 40, 12, 20, 0), (12, 43, 12, 21, 0), (12, 46, 12, 30, 0), (12, 49, 12, 32, 0), (12, 52, 12, 33, 0), (12, 55, 12, 34, 0), (12, 58, 12, 36, 0), (12, 61, 12, 37, 0), (12, 64, 12, 38, 0), (12, 67, 12, 39, 0), (12, 70, 12, 40, 0), (12, 73, 12, 42, 0), (12, 76, 12, 44, 0), (12, 79, 12, 45, 0), (12, 82, 12, 46, 0), (12, 85, 12, 47, 0), (12, 88, 12, 50, 0), (12, 91, 12, 51, 0), (12, 94, 12, 52, 0), (12, 97, 12, 53, 0), (12, 100, 12, 54, 0), (12, 103, 12, 55, 0), (12, 106, 12, 57, 0), (12, 109, 12, 58, 0), (12, 112, 12, 59, 0), (12, 115, 12, 60, 0), (12, 118, 12, 63, 0), (12, 121, 12, 64, 0), (12, 124, 12, 65, 0), (11, 72, 11, 13, 0), (12, 133, 12, 5, 0), (12, 127, 12, 0, 0), (11, 112, 11, 16, 0), (10, 26, 10, 3, 0), (10, 30, 10, 4, 0), (10, 33, 10, 5, 0), (7, 28, 7, 2, 0), (7, 24, 7, 1, 0), (7, 58, 7, 6, 0), (7, 51, 7, 5, 0), (7, 31, 7, 3, 0), (7, 95, 10, 3, 1), (7, 98, 10, 4, 1), (5, 28, 5, 3, 0), (5, 32, 5, 4, 0), (5, 36, 5, 5, 0), (7, 35, 7, 4, 0), (7, 137, 5, 4, 1), (9, 26, 9, 2, 0), (9, 30, 9, 3, 0), (7, 177, 9, 1, 1), (7, 151, 9, 2, 1), (7, 156, 9, 0, 1), (7, 166, 9, 3, 1), (10, 47, 5, 3, 1), (3, 52, 5, 3, 1), (3, 61, 9, 2, 1), (3, 66, 9, 3, 1), (3, 30, 3, 6, 0), (3, 79, 8, 1, 1), (10, 63, 5, 1, 1), (10, 73, 5, 2, 1), (7, 61, 7, 7, 0), (0, 15, 0, 1, 0), (4, 19, 4, 2, 0), (2, 12, 2, 0, 0), (2, 51, 2, 8, 0), (2, 63, 2, 10, 0), (2, 67, 2, 11, 0), (11, 326, 11, 12, 0), (11, 87, 11, 14, 0), (11, 90, 7, 7, 1), (11, 93, 11, 15, 0), (11, 96, 11, 17, 0), (11, 106, 10, 5, 1), (12, 130, 12, 1, 0), (12, 140, 12, 22, 0), (12, 143, 12, 24, 0), (12, 150, 12, 23, 0), (12, 153, 12, 25, 0), (12, 160, 12, 26, 0), (12, 225, 12, 14, 0), (12, 173, 12, 27, 0), (12, 176, 12, 28, 0), (12, 218, 12, 15, 0), (12, 244, 12, 16, 0), (12, 247, 12, 29, 0), (12, 278, 12, 2, 0), (12, 284, 12, 6, 0), (12, 287, 12, 7, 0), (12, 290, 12, 8, 0), (12, 293, 12, 9, 0), (12, 297, 12, 48, 0), (12, 300, 12, 66, 0), (11, 119, 10, 3, 1), (11, 122, 10, 4, 1), (11, 129, 10, 1, 1), (11, 136, 5, 3, 1), (11, 140, 5, 4, 1), (11, 143, 5, 1, 1), (11, 147, 3, 6, 1), (12, 312, 12, 31, 0), (11, 156, 9, 0, 1), (11, 161, 8, 1, 1), (11, 164, 9, 1, 1), (11, 167, 9, 2, 1), (11, 170, 9, 3, 1), (6, 37, 6, 5, 0), (5, 58, 9, 0, 1), (5, 62, 8, 1, 1), (5, 70, 9, 2, 1), (5, 73, 9, 3, 1), (6, 41, 5, 3, 1), (6, 53, 9, 1, 1), (11, 202, 6, 5, 1), (12, 332, 12, 35, 0), (6, 87, 6, 7, 0), (6, 80, 8, 1, 1), (6, 73, 6, 6, 0), (12, 358, 12, 41, 0), (1, 40, 1, 5, 0), (1, 79, 5, 2, 1), (1, 83, 5, 1, 1), (1, 93, 8, 1, 1), (1, 65, 5, 4, 1), (1, 48, 10, 5, 1), (11, 230, 1, 3, 1), (12, 380, 12, 43, 0), (12, 403, 12, 49, 0), (12, 413, 12, 56, 0), (4, 9, 4, 0, 0), (4, 15, 4, 1, 0), (2, 18, 2, 1, 0), (2, 24, 2, 2, 0), (2, 33, 2, 3, 0), (2, 37, 2, 4, 0), (2, 40, 2, 5, 0), (2, 44, 2, 6, 0), (2, 47, 2, 7, 0), (2, 70, 2, 9, 0), (2, 104, 10, 3, 1), (4, 28, 8, 1, 1), (2, 90, 1, 3, 1), (2, 95, 1, 5, 1), (12, 438, 12, 61, 0), (10, 50, 5, 5, 1), (11, 361, 0, 1, 1)]
def zwF (q : Nat × Nat × Nat × Nat × Nat) : Cond := match q with
  | (o, i, ci, k, 0) => .fieldLink (zow.getD o "") i (zT ci k).1 (zT ci k).2.1 (zT ci k).2.2.1
  | (o, i, ci, k, _) => .fieldLinkNest (zow.getD o "") i (zT ci k).1 (zT ci k).2.1 (zT ci k).2.2.1 "CarriedLetters"
set_option maxRecDepth 100000 in
theorem zLF_ok : ∀ q ∈ zLF, zwF q ∈ lw_tbl := zmem_all _ _ [156, 196, 209, 210, 211, 212, 215, 197, 245, 246, 247, 248, 249, 277, 306, 307, 308, 309, 310, 311, 337, 341, 364, 365, 369, 396, 397, 399, 423, 424, 425, 426, 427, 428, 429, 430, 431, 432, 433, 434, 1439, 1440, 1446, 1447, 1448, 1449, 1453, 1454, 1455, 1456, 1457, 1466, 1468, 1469, 1470, 1472, 1473, 1474, 1475, 1476, 1478, 1480, 1481, 1482, 1483, 1486, 1487, 1488, 1489, 1490, 1491, 1493, 1494, 1495, 1496, 1498, 1499, 1500, 436, 1441, 1436, 439, 400, 404, 407, 158, 157, 162, 161, 159, 402, 405, 372, 377, 381, 160, 379, 345, 350, 343, 346, 339, 353, 375, 374, 348, 352, 312, 202, 368, 371, 163, 278, 1080, 1092, 1100, 1102, 1103, 435, 437, 164, 438, 440, 408, 1437, 1458, 1460, 1459, 1461, 1462, 1450, 1463, 1464, 1451, 1452, 1465, 1438, 1442, 1443, 1444, 1445, 1484, 1501, 403, 406, 398, 376, 380, 367, 313, 1467, 340, 203, 344, 349, 354, 250, 338, 200, 347, 351, 373, 342, 251, 1471, 253, 199, 252, 1477, 217, 370, 366, 201, 378, 409, 214, 1479, 1485, 1492, 1078, 1079, 1093, 1094, 1095, 1096, 1097, 1098, 1099, 1101, 401, 198, 213, 216, 1497, 382, 279] (by decide +kernel)
def zLC : List (Nat × Nat × Nat) := [(1, 9, 8), (6, 15, 8), (9, 9, 8), (5, 9, 9), (5, 17, 3), (10, 19, 5), (11, 13, 7), (11, 20, 1), (11, 30, 8), (11, 48, 6), (11, 55, 0), (11, 62, 10), (2, 9, 4), (2, 21, 1), (2, 28, 8), (11, 270, 2), (13, 8, 11), (13, 16, 12)]
set_option maxRecDepth 100000 in
theorem zLC_ok : ∀ q ∈ zLC, Cond.classLink (zow.getD q.1 "") q.2.1 (zow.getD q.2.2 "") ∈ lw_tbl := zmem_all _ _ [189, 239, 335, 298, 300, 291, 150, 183, 231, 233, 271, 285, 1072, 1088, 1090, 1066, 142, 1430] (by decide +kernel)
def zLK : List (Nat × Nat × Int32) := [(14, 265, 1431655765), (14, 266, 858993459), (14, 267, 252645135), (6, 66, 1000000), (12, 348, 1000000)]
set_option maxRecDepth 100000 in
theorem zLK_ok : ∀ q ∈ zLK, Cond.constant (zow.getD q.1 "") q.2.1 q.2.2 ∈ lw_tbl := zmem_all _ _ [618, 619, 620, 861, 1847] (by decide +kernel)
def zLJ : List (Nat × Nat × Int64) := [(12, 214, 32), (12, 216, 96), (12, 401, 255), (2, 115, (-1)), (4, 49, 31), (4, 51, (-7046029254386353131)), (12, 433, 9), (12, 429, 256), (12, 431, 97), (12, 464, (-1)), (13, 88, 4294967295)]
set_option maxRecDepth 100000 in
theorem zLJ_ok : ∀ q ∈ zLJ, Cond.constantLong (zow.getD q.1 "") q.2.1 q.2.2 ∈ lw_tbl := zmem_all _ _ [1730, 1731, 1876, 1144, 1163, 1164, 2017, 2035, 2036, 2030, 2129] (by decide +kernel)
def zLO : List (Nat × Nat) := [(7, 3), (8, 3), (1, 3), (6, 3), (0, 3), (3, 3), (9, 3), (5, 3), (10, 3), (11, 1), (12, 1), (4, 3), (2, 3)]
set_option maxRecDepth 100000 in
theorem zLO_ok : ∀ q ∈ zLO, Cond.methodLink (zow.getD q.1 "") q.2 objectInit ∈ lw_tbl := zmem_all _ _ [155, 195, 188, 238, 276, 305, 334, 297, 290, 147, 1435, 1077, 1071] (by decide +kernel)
def zLA : List (Nat × Nat) := [(8, 19), (0, 19)]
set_option maxRecDepth 100000 in
theorem zLA_ok : ∀ q ∈ zLA, Cond.methodLink (zow.getD q.1 "") q.2 arraycopyName ∈ lw_tbl := zmem_all _ _ [947, 1334] (by decide +kernel)
/-- the methods, by their numbers: name, code, locals, answer, how it is called (0 virtual, 1 static, 2 a constructor), how many arguments, frames and words of locals that it needs -/
abbrev zY : Type := MethodName × ByteArray × Nat × Option FieldType × Nat × Nat × Nat × Nat
def zMT : List zY := [(yX7_init, cX7_init, 1, none, 2, 1, 1, 20),
  (yX8_init, cX8_init, 2, none, 2, 2, 1, 20),
  (yX1_init, cX1_init, 2, none, 2, 1, 2, 41),
  (yX8_add, cX8_add, 2, (some .boolean), 0, 2, 0, 0),
  (yX6_init, cX6_init, 3, none, 2, 1, 2, 41),
  (yX0_init, cX0_init, 1, none, 2, 1, 1, 20),
  (yX3_init, cX3_init, 1, none, 2, 1, 1, 20),
  (yX9_init, cX9_init, 1, none, 2, 1, 2, 41),
  (yX5_init, cX5_init, 2, none, 2, 1, 3, 61),
  (yX10_init, cX10_init, 2, none, 2, 1, 4, 82),
  (yX11_init, cX11_init, 1, none, 2, 1, 5, 103),
  (yX12_init, cX12_init, 1, none, 2, 1, 1, 20),
  (yX11_putOnTape, cX11_putOnTape, 3, none, 0, 2, 0, 0),
  (yX11_feed, cX11_feed, 6, (some .int), 0, 6, 1, 22),
  (yX12_laysWord, cX12_laysWord, 3, none, 0, 2, 0, 0),
  (yX12_feed, cX12_feed, 6, (some .int), 0, 6, 1, 22),
  (yX11_refuse, cX11_refuse, 2, (some .int), 0, 2, 0, 0),
  (yJ9_min_7cf53, cJ9_min_7cf53, 2, (some .int), 1, 2, 0, 0),
  (yJ9_max_7cf53, cJ9_max_7cf53, 2, (some .int), 1, 2, 0, 0),
  (yX10_drop, cX10_drop, 1, none, 0, 1, 0, 0),
  (yX7_sortOf, cX7_sortOf, 1, (some .int), 1, 1, 0, 0),
  (yX7_next, cX7_next, 1, none, 0, 1, 1, 20),
  (yJ0_length_8abf5, cJ0_length_8abf5, 1, (some .int), 0, 1, 2, 80),
  (yX7_byteAt, cX7_byteAt, 2, (some .int), 0, 2, 0, 0),
  (yJ0_charAt_5068e, cJ0_charAt_5068e, 2, (some .char), 0, 2, 4, 130),
  (yX7_is, cX7_is, 3, (some .boolean), 0, 2, 5, 151),
  (yX7_scriptLine, cX7_scriptLine, 2, (some .int), 0, 1, 6, 173),
  (yX7_isKept, cX7_isKept, 1, (some .boolean), 0, 1, 6, 173),
  (yX7_nameHere, cX7_nameHere, 4, (some .long), 0, 1, 1, 21),
  (yX10_lettersOfKind, cX10_lettersOfKind, 4, (some .int), 0, 2, 0, 0),
  (yX7_areLetters, cX7_areLetters, 3, (some .boolean), 0, 2, 1, 21),
  (yX7_letterBits, cX7_letterBits, 3, (some .int), 0, 1, 1, 21),
  (yJ6_bitCount_0f7a4, cJ6_bitCount_0f7a4, 1, (some .int), 1, 1, 0, 0),
  (yX10_addKind, cX10_addKind, 4, none, 0, 3, 0, 0),
  (yX7_kindLine, cX7_kindLine, 4, (some .int), 0, 1, 7, 193),
  (yX5_drop, cX5_drop, 1, none, 0, 1, 0, 0),
  (yX10_addPass, cX10_addPass, 2, (some (.object "CarriedLetters$Pass")), 0, 1, 1, 20),
  (yX7_passLine, cX7_passLine, 1, (some .int), 0, 1, 6, 173),
  (yX8_drop, cX8_drop, 1, none, 0, 1, 0, 0),
  (yX9_drop, cX9_drop, 1, none, 0, 1, 1, 20),
  (yX5_addRule, cX5_addRule, 2, (some (.object "CarriedLetters$Rule")), 0, 1, 2, 40),
  (yX7_sideBits, cX7_sideBits, 2, (some .int), 0, 1, 7, 193),
  (yX7_lettersInto, cX7_lettersInto, 4, (some .int), 0, 3, 2, 43),
  (yX7_outcomeFault, cX7_outcomeFault, 2, (some .int), 0, 2, 6, 173),
  (yX7_ruleLine, cX7_ruleLine, 3, (some .int), 0, 1, 8, 214),
  (yX7_line, cX7_line, 2, (some .int), 0, 2, 9, 236),
  (yX10_passAt, cX10_passAt, 2, (some (.object "CarriedLetters$Pass")), 0, 2, 0, 0),
  (yX10_ruleCount, cX10_ruleCount, 4, (some .int), 0, 1, 1, 21),
  (yJ7_fill_53178, cJ7_fill_53178, 4, none, 1, 2, 0, 0),
  (yX5_ruleAt, cX5_ruleAt, 2, (some (.object "CarriedLetters$Rule")), 0, 2, 0, 0),
  (yX3_bearSides, cX3_bearSides, 5, none, 0, 2, 1, 21),
  (yX9_taken, cX9_taken, 2, (some (.object "CarriedLetters$Row")), 0, 2, 0, 0),
  (yX8_at, cX8_at, 2, (some .int), 0, 2, 0, 0),
  (yX3_leadOn, cX3_leadOn, 9, none, 0, 5, 1, 21),
  (yX3_build, cX3_build, 5, none, 0, 3, 2, 49),
  (yX10_buildMachines, cX10_buildMachines, 3, none, 0, 1, 3, 73),
  (yX7_read, cX7_read, 6, (some .int), 0, 4, 10, 257),
  (yX0_drop, cX0_drop, 1, none, 0, 1, 0, 0),
  (yX4_forget, cX4_forget, 1, none, 0, 1, 1, 23),
  (yX2_forget, cX2_forget, 1, none, 0, 1, 2, 43),
  (yX11_forgetWords, cX11_forgetWords, 1, none, 0, 1, 3, 63),
  (yX11_answer, cX11_answer, 2, (some .int), 0, 2, 0, 0),
  (yX11_script, cX11_script, 3, (some .int), 0, 2, 11, 282),
  (yX12_fresh, cX12_fresh, 1, none, 0, 1, 0, 0),
  (yX12_in, cX12_in, 3, (some .boolean), 1, 3, 0, 0),
  (yX12_no, cX12_no, 2, (some .int), 0, 2, 0, 0),
  (yX12_see, cX12_see, 2, (some .int), 0, 2, 0, 0),
  (yX12_goesOn, cX12_goesOn, 2, none, 0, 1, 1, 22),
  (yX12_isWord, cX12_isWord, 3, (some .boolean), 0, 2, 5, 151),
  (yX12_hasScript, cX12_hasScript, 1, (some .boolean), 0, 1, 0, 0),
  (yX12_errs, cX12_errs, 2, (some .boolean), 0, 2, 0, 0),
  (yX12_needs, cX12_needs, 2, (some .boolean), 0, 2, 6, 173),
  (yX12_readScript, cX12_readScript, 1, (some .boolean), 0, 1, 7, 194),
  (yX12_isKeyword, cX12_isKeyword, 1, (some .boolean), 0, 1, 6, 173),
  (yX12_spelt, cX12_spelt, 4, (some .long), 0, 1, 0, 0),
  (yX12_kindHere, cX12_kindHere, 2, (some .int), 0, 1, 1, 23),
  (yX12_areLetters, cX12_areLetters, 3, (some .boolean), 0, 2, 0, 0),
  (yX12_readKind, cX12_readKind, 4, (some .boolean), 0, 1, 7, 194),
  (yX12_readPass, cX12_readPass, 1, (some .boolean), 0, 1, 6, 173),
  (yX12_readSide, cX12_readSide, 2, (some .boolean), 0, 1, 7, 193),
  (yX12_readLetters, cX12_readLetters, 6, (some .boolean), 0, 5, 2, 43),
  (yX12_readRule, cX12_readRule, 3, (some .boolean), 0, 1, 8, 214),
  (yX12_readLine, cX12_readLine, 1, (some .boolean), 0, 1, 9, 236),
  (yX12_readAll, cX12_readAll, 3, (some .boolean), 0, 2, 10, 256),
  (yX12_script, cX12_script, 3, (some .int), 0, 2, 11, 278),
  (yX11_fault, cX11_fault, 1, (some .int), 0, 1, 0, 0),
  (yX12_fault, cX12_fault, 1, (some .int), 0, 1, 0, 0),
  (yX11_where, cX11_where, 1, (some .int), 0, 1, 0, 0),
  (yX12_where, cX12_where, 1, (some .int), 0, 1, 0, 0),
  (yX11_noScript, cX11_noScript, 1, (some .boolean), 0, 1, 0, 0),
  (yX11_about, cX11_about, 2, (some .int), 0, 2, 2, 44),
  (yX12_ruleAll, cX12_ruleAll, 1, (some .int), 0, 1, 0, 0),
  (yX12_about, cX12_about, 2, (some .int), 0, 2, 1, 21),
  (yX11_kind, cX11_kind, 2, (some .int), 0, 2, 1, 21),
  (yX12_kind, cX12_kind, 2, (some .int), 0, 2, 1, 22),
  (yX11_pass, cX11_pass, 4, (some .int), 0, 3, 1, 21),
  (yX12_isPass, cX12_isPass, 2, (some .boolean), 0, 2, 1, 22),
  (yX12_rowOf, cX12_rowOf, 2, (some .int), 1, 2, 0, 0),
  (yX12_beginning, cX12_beginning, 5, (some .int), 0, 3, 0, 0),
  (yX12_isBeginning, cX12_isBeginning, 6, (some .boolean), 0, 3, 1, 24),
  (yX12_laysStates, cX12_laysStates, 3, none, 0, 2, 2, 49),
  (yX12_pass, cX12_pass, 3, (some .int), 0, 3, 3, 71),
  (yX10_ruleAt, cX10_ruleAt, 4, (some (.object "CarriedLetters$Rule")), 0, 3, 1, 21),
  (yX11_bitsBelow, cX11_bitsBelow, 1, (some .int), 1, 1, 0, 0),
  (yX5_serving, cX5_serving, 1, (some .int), 0, 1, 1, 20),
  (yX5_serves, cX5_serves, 2, (some .boolean), 0, 2, 2, 40),
  (yX10_isAside, cX10_isAside, 4, (some .boolean), 0, 3, 3, 61),
  (yX11_rule, cX11_rule, 5, (some .int), 0, 4, 4, 84),
  (yX12_isRule, cX12_isRule, 3, (some .boolean), 0, 3, 2, 43),
  (yX12_rule, cX12_rule, 4, (some .int), 0, 4, 3, 65),
  (yX11_answerLetter, cX11_answerLetter, 4, (some .int), 0, 3, 1, 21),
  (yX11_letter, cX11_letter, 6, (some .int), 0, 5, 2, 44),
  (yX12_letter, cX12_letter, 5, (some .int), 0, 5, 3, 65),
  (yX3_has, cX3_has, 2, (some .boolean), 0, 2, 0, 0),
  (yX11_machineWith, cX11_machineWith, 4, (some (.object "CarriedLetters$Machine")), 0, 3, 1, 21),
  (yX3_step, cX3_step, 3, (some .int), 0, 3, 1, 21),
  (yX11_goes, cX11_goes, 5, (some .int), 0, 4, 2, 44),
  (yX12_isState, cX12_isState, 3, (some .boolean), 0, 3, 3, 71),
  (yX12_goes, cX12_goes, 8, (some .int), 0, 4, 4, 93),
  (yX3_depthOf, cX3_depthOf, 2, (some .int), 0, 2, 1, 21),
  (yX11_depth, cX11_depth, 4, (some .int), 0, 3, 2, 44),
  (yX12_depth, cX12_depth, 3, (some .int), 0, 3, 4, 93),
  (yX3_endingAt, cX3_endingAt, 2, (some .int), 0, 2, 1, 21),
  (yX11_ends, cX11_ends, 4, (some .int), 0, 3, 2, 44),
  (yX12_ends, cX12_ends, 6, (some .int), 0, 3, 4, 93),
  (yX6_put, cX6_put, 3, none, 0, 3, 0, 0),
  (yX5_alwaysTakes, cX5_alwaysTakes, 4, (some .boolean), 0, 2, 3, 61),
  (yX6_gather, cX6_gather, 4, none, 0, 2, 4, 84),
  (yX11_gatherPieces, cX11_gatherPieces, 3, (some .boolean), 0, 2, 5, 107),
  (yX11_pieces, cX11_pieces, 2, (some .int), 0, 2, 6, 129),
  (yX12_isTurned, cX12_isTurned, 5, (some .boolean), 0, 3, 1, 21),
  (yX12_laysPieces, cX12_laysPieces, 4, none, 0, 2, 2, 45),
  (yX12_pieces, cX12_pieces, 2, (some .int), 0, 2, 3, 68),
  (yX6_whatOf, cX6_whatOf, 2, (some .int), 0, 2, 0, 0),
  (yX11_piece, cX11_piece, 3, (some .int), 0, 3, 6, 129),
  (yX12_piece, cX12_piece, 3, (some .int), 0, 3, 3, 68),
  (yX6_lettersOf, cX6_lettersOf, 2, (some (.object "CarriedLetters$Row")), 0, 2, 0, 0),
  (yX8_agrees, cX8_agrees, 4, (some .boolean), 0, 3, 1, 21),
  (yX6_reach, cX6_reach, 5, none, 0, 4, 0, 0),
  (yX6_follow, cX6_follow, 8, none, 0, 5, 2, 44),
  (yX6_followAll, cX6_followAll, 3, none, 0, 1, 3, 71),
  (yX6_fewestReadTwice, cX6_fewestReadTwice, 4, (some .int), 0, 1, 4, 93),
  (yX11_clear, cX11_clear, 2, (some .int), 0, 2, 6, 129),
  (yX12_areOne, cX12_areOne, 7, (some .boolean), 0, 5, 0, 0),
  (yX12_isReached, cX12_isReached, 5, none, 0, 4, 0, 0),
  (yX12_nearest, cX12_nearest, 3, (some .int), 0, 1, 0, 0),
  (yX12_goesFrom, cX12_goesFrom, 6, none, 0, 4, 1, 26),
  (yX12_unclearOf, cX12_unclearOf, 4, (some .int), 0, 1, 2, 51),
  (yX12_clear, cX12_clear, 2, (some .int), 0, 2, 3, 74),
  (yX11_unclear, cX11_unclear, 2, (some .int), 0, 2, 6, 129),
  (yX12_unclear, cX12_unclear, 2, (some .int), 0, 2, 3, 74),
  (yX8_takeWord, cX8_takeWord, 5, (some .boolean), 0, 2, 1, 21),
  (yX8_holds, cX8_holds, 3, (some .boolean), 0, 3, 2, 44),
  (yX6_waysBehind, cX6_waysBehind, 6, (some .int), 0, 4, 3, 66),
  (yX6_countReadings, cX6_countReadings, 4, (some .int), 0, 2, 4, 91),
  (yX11_readings, cX11_readings, 4, (some .int), 0, 3, 6, 129),
  (yX12_laysLetters, cX12_laysLetters, 6, (some .boolean), 0, 2, 1, 22),
  (yX12_isPieceAt, cX12_isPieceAt, 4, (some .boolean), 0, 3, 0, 0),
  (yX12_laysReadings, cX12_laysReadings, 4, none, 0, 2, 3, 68),
  (yX12_readings, cX12_readings, 4, (some .int), 0, 3, 4, 91),
  (yX6_firstPieceAt, cX6_firstPieceAt, 4, (some .int), 0, 3, 4, 91),
  (yX6_firstReadingAt, cX6_firstReadingAt, 7, (some .int), 0, 3, 5, 114),
  (yX11_reading, cX11_reading, 6, (some .int), 0, 4, 6, 140),
  (yX12_firstPiece, cX12_firstPiece, 3, (some .int), 0, 2, 1, 23),
  (yX12_reading, cX12_reading, 8, (some .int), 0, 4, 4, 91),
  (yX11_sure, cX11_sure, 3, (some .int), 0, 1, 5, 116),
  (yX12_sure, cX12_sure, 2, (some .int), 0, 1, 3, 74),
  (yX8_addAll, cX8_addAll, 2, (some .boolean), 0, 2, 1, 60),
  (yX8_copy, cX8_copy, 2, none, 0, 2, 2, 81),
  (yX1_behindPass, cX1_behindPass, 2, (some (.object "CarriedLetters$Row")), 0, 2, 0, 0),
  (yX8_beside, cX8_beside, 2, (some .int), 0, 2, 0, 0),
  (yX3_ruleFor, cX3_ruleFor, 10, (some .int), 0, 4, 1, 21),
  (yX1_noteServed, cX1_noteServed, 4, none, 0, 3, 0, 0),
  (yX9_given, cX9_given, 2, (some (.object "CarriedLetters$Row")), 0, 2, 0, 0),
  (yX1_throughRound, cX1_throughRound, 11, (some .boolean), 0, 4, 2, 81),
  (yX8_same, cX8_same, 3, (some .boolean), 0, 2, 0, 0),
  (yX1_throughPass, cX1_throughPass, 8, (some .int), 0, 4, 3, 111),
  (yX1_bring, cX1_bring, 9, (some .int), 0, 4, 4, 138),
  (yX11_carry, cX11_carry, 4, (some .int), 0, 2, 5, 166),
  (yX12_sideAt, cX12_sideAt, 2, (some .int), 0, 2, 1, 22),
  (yX12_fits, cX12_fits, 7, (some .boolean), 0, 5, 2, 43),
  (yX12_serving, cX12_serving, 8, (some .int), 0, 5, 3, 69),
  (yX12_goesRound, cX12_goesRound, 10, (some .boolean), 0, 3, 4, 96),
  (yX12_isChanged, cX12_isChanged, 2, (some .boolean), 0, 1, 0, 0),
  (yX12_comesOut, cX12_comesOut, 2, none, 0, 1, 0, 0),
  (yX12_goesPass, cX12_goesPass, 4, (some .int), 0, 3, 5, 125),
  (yX12_goesAll, cX12_goesAll, 6, (some .int), 0, 2, 6, 148),
  (yX12_remembers, cX12_remembers, 2, none, 0, 1, 0, 0),
  (yX12_carry, cX12_carry, 4, (some .int), 0, 2, 7, 173),
  (yX11_out, cX11_out, 2, (some .int), 0, 2, 2, 44),
  (yX12_out, cX12_out, 2, (some .int), 0, 2, 1, 22),
  (yX11_carriedBehind, cX11_carriedBehind, 2, (some (.object "CarriedLetters$Row")), 0, 2, 1, 21),
  (yX11_behind, cX11_behind, 3, (some .int), 0, 2, 2, 42),
  (yX12_behind, cX12_behind, 2, (some .int), 0, 2, 2, 43),
  (yX11_outOf, cX11_outOf, 4, (some .int), 0, 3, 2, 44),
  (yX12_outOf, cX12_outOf, 3, (some .int), 0, 3, 2, 43),
  (yX1_roundsOf, cX1_roundsOf, 2, (some .int), 0, 2, 0, 0),
  (yX11_rounds, cX11_rounds, 2, (some .int), 0, 2, 2, 42),
  (yX12_rounds, cX12_rounds, 2, (some .int), 0, 2, 2, 43),
  (yX1_servedBy, cX1_servedBy, 3, (some .int), 0, 3, 0, 0),
  (yX11_served, cX11_served, 3, (some .int), 0, 3, 2, 44),
  (yX12_served, cX12_served, 3, (some .int), 0, 3, 3, 65),
  (yX8_changesTo, cX8_changesTo, 7, (some .int), 0, 3, 1, 21),
  (yX11_apart, cX11_apart, 6, (some .int), 0, 3, 5, 166),
  (yX12_changesOf, cX12_changesOf, 6, (some .int), 0, 1, 0, 0),
  (yX12_apart, cX12_apart, 7, (some .int), 0, 3, 7, 173),
  (yX11_bringTurned, cX11_bringTurned, 3, (some .int), 0, 2, 5, 166),
  (yX11_turned, cX11_turned, 4, (some .int), 0, 2, 6, 188),
  (yX12_goesTurned, cX12_goesTurned, 3, (some .int), 0, 2, 7, 173),
  (yX12_turned, cX12_turned, 4, (some .int), 0, 2, 8, 195),
  (yX11_turnedOut, cX11_turnedOut, 5, (some .int), 0, 3, 6, 188),
  (yX12_turnedOut, cX12_turnedOut, 5, (some .int), 0, 3, 8, 195),
  (yX11_troubleUpTo, cX11_troubleUpTo, 3, (some .int), 0, 3, 1, 20),
  (yX11_countUpTo, cX11_countUpTo, 5, (some .int), 1, 2, 0, 0),
  (yX11_words, cX11_words, 3, (some .int), 0, 2, 2, 42),
  (yX12_wordsWhy, cX12_wordsWhy, 3, (some .int), 0, 3, 1, 22),
  (yX12_isRefused, cX12_isRefused, 2, (some .boolean), 0, 2, 1, 20),
  (yX12_manyUpTo, cX12_manyUpTo, 5, (some .int), 0, 2, 0, 0),
  (yX12_words, cX12_words, 2, (some .int), 0, 2, 2, 44),
  (yX4_init, cX4_init, 1, none, 2, 1, 1, 20),
  (yX2_init, cX2_init, 1, none, 2, 1, 3, 62),
  (yX2_count, cX2_count, 2, (some .int), 0, 2, 1, 24),
  (yX2_spelled, cX2_spelled, 6, (some .long), 0, 2, 0, 0),
  (yX8_block, cX8_block, 6, (some .long), 0, 2, 1, 21),
  (yX4_blockOf, cX4_blockOf, 3, (some .long), 0, 3, 0, 0),
  (yX4_sameBlocks, cX4_sameBlocks, 3, (some .boolean), 0, 3, 1, 22),
  (yX4_seat, cX4_seat, 7, (some .int), 0, 2, 2, 44),
  (yX4_put, cX4_put, 5, (some .int), 0, 4, 3, 70),
  (yX2_learn, cX2_learn, 6, none, 0, 3, 5, 166),
  (yX11_censusUpTo, cX11_censusUpTo, 2, (some (.object "CarriedLetters$Census")), 0, 2, 6, 191),
  (yX2_firstDoubled, cX2_firstDoubled, 4, (some .int), 0, 2, 2, 45),
  (yX11_reversible, cX11_reversible, 3, (some .int), 0, 2, 7, 212),
  (yX12_lettersOf, cX12_lettersOf, 5, (some .int), 0, 2, 0, 0),
  (yX12_laysIndex, cX12_laysIndex, 5, none, 0, 2, 1, 24),
  (yX12_keyOf, cX12_keyOf, 5, (some .long), 0, 2, 0, 0),
  (yX12_laysWords, cX12_laysWords, 4, none, 0, 2, 7, 173),
  (yX12_areAlike, cX12_areAlike, 4, (some .boolean), 0, 3, 0, 0),
  (yX12_firstAlike, cX12_firstAlike, 3, (some .int), 0, 2, 1, 23),
  (yX12_doubledMany, cX12_doubledMany, 4, (some .int), 0, 2, 8, 196),
  (yX12_reversible, cX12_reversible, 2, (some .int), 0, 2, 9, 219),
  (yX2_firstAlike, cX2_firstAlike, 2, (some .int), 0, 2, 0, 0),
  (yX11_answerWord, cX11_answerWord, 3, (some .long), 0, 3, 1, 25),
  (yX11_failing, cX11_failing, 6, (some .long), 0, 3, 7, 212),
  (yX12_wordOf, cX12_wordOf, 5, (some .long), 0, 2, 2, 48),
  (yX12_failing, cX12_failing, 5, (some .long), 0, 3, 8, 196),
  (yX2_countDoubled, cX2_countDoubled, 5, (some .int), 0, 2, 2, 45),
  (yX11_doubled, cX11_doubled, 3, (some .int), 0, 2, 7, 212),
  (yX12_doubled, cX12_doubled, 2, (some .int), 0, 2, 9, 219),
  (yX4_lengthOf, cX4_lengthOf, 2, (some .int), 0, 2, 0, 0),
  (yX2_lengthOf, cX2_lengthOf, 2, (some .int), 0, 2, 1, 21),
  (yX2_countFailed, cX2_countFailed, 6, (some .int), 0, 3, 2, 45),
  (yX11_fails, cX11_fails, 4, (some .int), 0, 3, 7, 212),
  (yX12_fails, cX12_fails, 5, (some .int), 0, 3, 8, 196),
  (yX2_firstFailed, cX2_firstFailed, 5, (some .int), 0, 3, 2, 45),
  (yX11_firstFail, cX11_firstFail, 6, (some .long), 0, 3, 7, 212),
  (yX12_firstFail, cX12_firstFail, 4, (some .long), 0, 3, 8, 196),
  (yX11_troubleOfSource, cX11_troubleOfSource, 5, (some .int), 0, 3, 2, 45),
  (yX4_cameAs, cX4_cameAs, 4, (some .boolean), 0, 3, 2, 46),
  (yX2_countSources, cX2_countSources, 6, (some .int), 0, 3, 3, 69),
  (yX11_sources, cX11_sources, 5, (some .int), 0, 3, 7, 212),
  (yX12_seeks, cX12_seeks, 4, (some .boolean), 0, 2, 2, 47),
  (yX12_sourceWhy, cX12_sourceWhy, 5, (some .int), 0, 3, 3, 70),
  (yX12_isSource, cX12_isSource, 2, (some .boolean), 0, 2, 0, 0),
  (yX12_sources, cX12_sources, 6, (some .int), 0, 3, 8, 196),
  (yX2_sourceAt, cX2_sourceAt, 7, (some .int), 0, 4, 3, 69),
  (yX11_source, cX11_source, 8, (some .long), 0, 4, 7, 212),
  (yX12_source, cX12_source, 7, (some .long), 0, 4, 8, 196),
  (yX2_firstLongest, cX2_firstLongest, 5, (some .int), 0, 2, 2, 45),
  (yX11_longest, cX11_longest, 5, (some .int), 0, 2, 7, 212),
  (yX12_longestAt, cX12_longestAt, 4, (some .int), 0, 2, 8, 196),
  (yX12_longest, cX12_longest, 3, (some .int), 0, 2, 9, 219),
  (yX11_longestOf, cX11_longestOf, 5, (some .long), 0, 2, 7, 212),
  (yX12_longestOf, cX12_longestOf, 3, (some .long), 0, 2, 9, 219),
  (yX2_servingIn, cX2_servingIn, 6, (some .int), 0, 3, 2, 45),
  (yX11_idle, cX11_idle, 5, (some .int), 0, 3, 7, 212),
  (yX12_idle, cX12_idle, 6, (some .int), 0, 3, 7, 173),
  (yX8_addBlock, cX8_addBlock, 5, none, 0, 3, 1, 21),
  (yX4_into, cX4_into, 5, none, 0, 3, 2, 45),
  (yX2_comesBack, cX2_comesBack, 2, (some .boolean), 0, 2, 5, 166),
  (yX2_learnBack, cX2_learnBack, 4, none, 0, 2, 6, 187),
  (yX2_countBack, cX2_countBack, 5, (some .int), 0, 2, 2, 45),
  (yX11_comeBack, cX11_comeBack, 4, (some .int), 0, 2, 7, 212),
  (yX12_backOf, cX12_backOf, 4, (some .int), 0, 2, 7, 173),
  (yX12_comeBack, cX12_comeBack, 4, (some .int), 0, 2, 8, 196),
  (yX2_firstLost, cX2_firstLost, 4, (some .int), 0, 2, 2, 45),
  (yX11_lost, cX11_lost, 5, (some .long), 0, 2, 7, 212),
  (yX12_lost, cX12_lost, 3, (some .long), 0, 2, 8, 196),
  (yX10_turnAside, cX10_turnAside, 4, none, 0, 3, 1, 21),
  (yX4_putSame, cX4_putSame, 4, (some .int), 0, 3, 3, 70),
  (yX2_doubledWithout, cX2_doubledWithout, 7, (some .int), 0, 4, 5, 166),
  (yX2_worstRule, cX2_worstRule, 8, (some .int), 0, 2, 6, 192),
  (yX11_worst, cX11_worst, 3, (some .int), 0, 2, 7, 219),
  (yX12_worst, cX12_worst, 7, (some .int), 0, 2, 9, 219),
  (yX0_keep, cX0_keep, 3, none, 0, 3, 1, 60),
  (yX10_asideCount, cX10_asideCount, 4, (some .int), 0, 1, 1, 21),
  (yX11_aside, cX11_aside, 4, (some .int), 0, 4, 4, 84),
  (yX12_asideMany, cX12_asideMany, 4, (some .int), 0, 1, 0, 0),
  (yX12_aside, cX12_aside, 6, (some .int), 0, 4, 3, 65),
  (yX0_takeLatest, cX0_takeLatest, 1, (some .int), 0, 1, 0, 0),
  (yX11_undo, cX11_undo, 2, (some .boolean), 0, 1, 4, 83),
  (yX12_undo, cX12_undo, 1, (some .boolean), 0, 1, 1, 20),
  (yX11_empty, cX11_empty, 5, (some .int), 0, 2, 2, 40),
  (yX12_isEmpty, cX12_isEmpty, 3, (some .boolean), 0, 2, 0, 0),
  (yX12_empty, cX12_empty, 4, (some .int), 0, 2, 1, 22),
  (yX12_thrown, cX12_thrown, 1, (some .int), 0, 1, 0, 0),
  (yX11_size, cX11_size, 2, (some .int), 0, 2, 0, 0),
  (yX12_size, cX12_size, 2, (some .int), 0, 2, 0, 0),
  (yX11_trouble, cX11_trouble, 1, (some .int), 0, 1, 0, 0),
  (yX12_trouble, cX12_trouble, 1, (some .int), 0, 1, 0, 0)]
def zyD : zY := (yX0_init, cX0_init, 0, none, 9, 0, 0, 0)
def zwY (q : zY) : List Cond := match q.2.2.2.2.1 with
  | 0 => [.code q.1 q.2.1 q.2.2.1 q.2.2.2.1, .initialized q.1.cls, .instanceMethod q.1, .selects q.1.cls q.1 q.1]
  | 1 => [.code q.1 q.2.1 q.2.2.1 q.2.2.2.1, .initialized q.1.cls, .static q.1]
  | _ => [.code q.1 q.2.1 q.2.2.1 q.2.2.2.1, .initialized q.1.cls, .instanceMethod q.1]
set_option maxRecDepth 100000 in
theorem zMT_ok0 : ∀ w ∈ ((zMT.drop 0).take 40).flatMap zwY, w ∈ zTs := zTs_all _ [154, 118, 153, 194, 120, 193, 187, 119, 186, 244, 120, 242, 243, 237, 121, 236, 275, 122, 274, 304, 125, 303, 333, 126, 332, 296, 124, 295, 289, 123, 288, 146, 117, 145, 1434, 127, 1433, 485, 117, 484, 0, 481, 117, 479, 480, 1648, 127, 1647, 48, 1644, 127, 1642, 1643, 493, 117, 492, 1, 500, 128, 499, 503, 128, 502, 507, 123, 505, 506, 514, 118, 513, 511, 118, 510, 2, 527, 129, 525, 526, 537, 118, 536, 5, 541, 129, 539, 540, 523, 118, 522, 4, 579, 118, 578, 6, 589, 118, 588, 8, 602, 118, 601, 9, 606, 123, 604, 605, 610, 118, 609, 10, 614, 118, 613, 11, 617, 133, 616, 624, 123, 622, 623, 585, 118, 584, 7, 636, 124, 634, 635, 632, 123, 630, 631, 628, 118, 627, 12, 652, 120, 650, 651, 648, 126, 646, 647] (by decide +kernel) (by decide +kernel)
set_option maxRecDepth 100000 in
theorem zMT_ok1 : ∀ w ∈ ((zMT.drop 40).take 40).flatMap zwY, w ∈ zTs := zTs_all _ [644, 124, 642, 643, 656, 118, 655, 14, 660, 118, 659, 15, 665, 118, 664, 16, 640, 118, 639, 13, 518, 118, 517, 3, 673, 123, 671, 672, 669, 123, 667, 668, 684, 134, 683, 692, 124, 690, 691, 688, 125, 687, 17, 700, 126, 698, 699, 704, 120, 702, 703, 696, 125, 695, 18, 681, 125, 679, 680, 677, 123, 675, 676, 497, 118, 495, 496, 708, 122, 706, 707, 720, 137, 718, 719, 716, 136, 714, 715, 712, 117, 711, 19, 726, 117, 725, 20, 489, 117, 487, 488, 1656, 127, 1655, 49, 1659, 127, 1658, 1663, 127, 1662, 50, 1675, 127, 1674, 53, 1671, 127, 1670, 52, 1684, 127, 1683, 55, 1694, 127, 1693, 57, 1698, 127, 1697, 58, 1703, 127, 1702, 59, 1690, 127, 1689, 56, 1712, 127, 1711, 61, 1729, 127, 1728, 63, 1725, 127, 1724, 62, 1735, 127, 1734, 64, 1708, 127, 1707, 60, 1739, 127, 1738, 65, 1747, 127, 1746, 67] (by decide +kernel) (by decide +kernel)
set_option maxRecDepth 100000 in
theorem zMT_ok2 : ∀ w ∈ ((zMT.drop 80).take 40).flatMap zwY, w ∈ zTs := zTs_all _ [1751, 127, 1750, 68, 1743, 127, 1742, 66, 1679, 127, 1678, 54, 1667, 127, 1666, 51, 1652, 127, 1650, 1651, 731, 117, 729, 730, 1755, 127, 1753, 1754, 735, 117, 733, 734, 1759, 127, 1757, 1758, 743, 117, 742, 21, 739, 117, 737, 738, 1767, 127, 1766, 69, 1763, 127, 1761, 1762, 748, 117, 746, 747, 1771, 127, 1769, 1770, 752, 117, 750, 751, 1779, 127, 1778, 70, 1790, 127, 1789, 1794, 127, 1793, 73, 1787, 127, 1786, 72, 1783, 127, 1782, 71, 1775, 127, 1773, 1774, 761, 123, 759, 760, 777, 117, 776, 774, 124, 772, 773, 770, 124, 768, 769, 766, 123, 764, 765, 757, 117, 755, 756, 1802, 127, 1801, 74, 1798, 127, 1796, 1797, 785, 117, 784, 22, 781, 117, 779, 780, 1806, 127, 1804, 1805, 798, 125, 796, 797, 794, 117, 793, 23, 802, 125, 800, 801, 790, 117, 788, 789, 1814, 127, 1813, 75, 1810, 127, 1808, 1809, 811, 125, 809, 810] (by decide +kernel) (by decide +kernel)
set_option maxRecDepth 100000 in
theorem zMT_ok3 : ∀ w ∈ ((zMT.drop 120).take 40).flatMap zwY, w ∈ zTs := zTs_all _ [807, 117, 805, 806, 1818, 127, 1816, 1817, 819, 125, 817, 818, 815, 117, 813, 814, 1822, 127, 1820, 1821, 837, 121, 836, 25, 841, 124, 839, 840, 831, 121, 829, 830, 827, 117, 826, 24, 823, 117, 821, 822, 1834, 127, 1833, 77, 1830, 127, 1829, 76, 1826, 127, 1824, 1825, 852, 121, 850, 851, 848, 117, 846, 847, 1838, 127, 1836, 1837, 866, 121, 865, 26, 874, 120, 872, 873, 880, 121, 879, 28, 870, 121, 869, 27, 884, 121, 883, 29, 860, 121, 858, 859, 856, 117, 854, 855, 1851, 127, 1850, 79, 1855, 127, 1854, 80, 1859, 127, 1858, 81, 1863, 127, 1862, 82, 1846, 127, 1845, 78, 1842, 127, 1840, 1841, 888, 117, 886, 887, 1867, 127, 1865, 1866, 896, 120, 894, 895, 910, 120, 908, 909, 906, 121, 905, 30, 902, 121, 900, 901, 892, 117, 890, 891, 1875, 127, 1874, 83, 1884, 127, 1883, 85, 1880, 127, 1879, 84, 1871, 127, 1869, 1870] (by decide +kernel) (by decide +kernel)
set_option maxRecDepth 100000 in
theorem zMT_ok4 : ∀ w ∈ ((zMT.drop 160).take 40).flatMap zwY, w ∈ zTs := zTs_all _ [924, 121, 923, 31, 919, 121, 917, 918, 915, 117, 913, 914, 1892, 127, 1891, 86, 1888, 127, 1886, 1887, 929, 117, 927, 928, 1896, 127, 1894, 1895, 946, 120, 944, 945, 942, 120, 940, 941, 954, 119, 952, 953, 972, 120, 970, 971, 968, 125, 966, 967, 980, 119, 979, 34, 986, 126, 984, 985, 962, 119, 961, 33, 991, 120, 989, 990, 958, 119, 957, 32, 937, 119, 935, 936, 933, 117, 931, 932, 1924, 127, 1923, 92, 1920, 127, 1919, 91, 1916, 127, 1915, 90, 1912, 127, 1911, 89, 1928, 127, 1927, 93, 1932, 127, 1931, 94, 1908, 127, 1907, 88, 1904, 127, 1903, 87, 1936, 127, 1935, 95, 1900, 127, 1898, 1899, 995, 117, 993, 994, 1940, 127, 1938, 1939, 1003, 117, 1002, 35, 999, 117, 997, 998, 1944, 127, 1942, 1943, 1008, 117, 1006, 1007, 1948, 127, 1946, 1947, 1016, 119, 1014, 1015, 1012, 117, 1010, 1011, 1952, 127, 1950, 1951, 1024, 119, 1022, 1023] (by decide +kernel) (by decide +kernel)
set_option maxRecDepth 100000 in
theorem zMT_ok5 : ∀ w ∈ ((zMT.drop 200).take 40).flatMap zwY, w ∈ zTs := zTs_all _ [1020, 117, 1018, 1019, 1956, 127, 1954, 1955, 1033, 120, 1031, 1032, 1028, 117, 1026, 1027, 1964, 127, 1963, 96, 1960, 127, 1958, 1959, 1042, 117, 1041, 36, 1038, 117, 1036, 1037, 1972, 127, 1971, 97, 1968, 127, 1966, 1967, 1046, 117, 1044, 1045, 1976, 127, 1974, 1975, 1054, 117, 1053, 37, 1057, 117, 1056, 1050, 117, 1048, 1049, 1984, 127, 1983, 98, 1988, 127, 1987, 99, 1992, 127, 1991, 100, 1980, 127, 1978, 1979, 1076, 137, 1075, 1070, 136, 1069, 1137, 136, 1136, 39, 1143, 136, 1141, 1142, 1154, 120, 1152, 1153, 1162, 137, 1161, 41, 1168, 137, 1167, 42, 1158, 137, 1157, 40, 1150, 137, 1148, 1149, 1133, 136, 1131, 1132, 1065, 117, 1064, 38, 1173, 136, 1171, 1172, 1061, 117, 1059, 1060, 2012, 127, 2011, 104, 2008, 127, 2007, 103, 2016, 127, 2015, 105, 2004, 127, 2003, 102, 2025, 127, 2024, 107, 2021, 127, 2020, 106, 2000, 127, 1999, 101, 1996, 127, 1994, 1995] (by decide +kernel) (by decide +kernel)
set_option maxRecDepth 100000 in
theorem zMT_ok6 : ∀ w ∈ ((zMT.drop 240).take 40).flatMap zwY, w ∈ zTs := zTs_all _ [1181, 136, 1179, 1180, 1185, 117, 1184, 43, 1177, 117, 1175, 1176, 2034, 127, 2033, 108, 2029, 127, 2027, 2028, 1194, 136, 1192, 1193, 1190, 117, 1188, 1189, 2040, 127, 2038, 2039, 1210, 137, 1208, 1209, 1206, 136, 1204, 1205, 1202, 136, 1200, 1201, 1198, 117, 1196, 1197, 2044, 127, 2042, 2043, 1218, 136, 1216, 1217, 1214, 117, 1212, 1213, 2048, 127, 2046, 2047, 1226, 117, 1225, 44, 1234, 137, 1232, 1233, 1230, 136, 1228, 1229, 1222, 117, 1220, 1221, 2060, 127, 2059, 110, 2056, 127, 2055, 109, 2064, 127, 2063, 111, 2052, 127, 2050, 2051, 1243, 136, 1241, 1242, 1239, 117, 1237, 1238, 2068, 127, 2066, 2067, 1251, 136, 1249, 1250, 1247, 117, 1245, 1246, 2076, 127, 2075, 112, 2072, 127, 2070, 2071, 1256, 117, 1254, 1255, 2080, 127, 2078, 2079, 1265, 136, 1263, 1264, 1260, 117, 1258, 1259, 2084, 127, 2082, 2083, 1288, 120, 1286, 1287, 1282, 137, 1280, 1281, 1278, 136, 1277, 45, 1274, 136, 1272, 1273] (by decide +kernel) (by decide +kernel)
set_option maxRecDepth 100000 in
theorem zMT_ok7 : ∀ w ∈ ((zMT.drop 280).take 40).flatMap zwY, w ∈ zTs := zTs_all _ [1293, 136, 1291, 1292, 1270, 117, 1268, 1269, 2092, 127, 2091, 113, 2088, 127, 2086, 2087, 1301, 136, 1299, 1300, 1297, 117, 1295, 1296, 2096, 127, 2094, 2095, 1316, 123, 1314, 1315, 1324, 137, 1322, 1323, 1320, 136, 1319, 46, 1309, 136, 1307, 1308, 1305, 117, 1303, 1304, 2100, 127, 2098, 2099, 1333, 122, 1331, 1332, 1338, 123, 1336, 1337, 1328, 117, 1326, 1327, 2108, 127, 2107, 114, 2104, 127, 2102, 2103, 1347, 122, 1345, 1346, 1343, 117, 1341, 1342, 2112, 127, 2110, 2111, 1363, 117, 1361, 1362, 2120, 127, 2119, 115, 2116, 127, 2114, 2115, 1640, 127, 1638, 1639, 1351, 117, 1349, 1350, 2124, 127, 2122, 2123, 1355, 117, 1353, 1354, 2128, 127, 2126, 2127] (by decide +kernel) (by decide +kernel)
def zLM : List (Nat × Nat × Nat × Nat) := [(1, 24, 1, 0), (6, 30, 1, 0), (6, 33, 3, 0), (9, 11, 1, 0), (5, 19, 6, 1), (5, 27, 7, 1), (10, 25, 8, 0), (11, 15, 0, 1), (11, 22, 2, 0), (11, 32, 1, 0), (11, 50, 4, 0), (11, 57, 5, 1), (11, 64, 9, 0), (11, 76, 12, 0), (12, 136, 14, 0), (7, 187, 20, 0), (7, 190, 22, 0), (7, 91, 23, 0), (7, 195, 24, 0), (7, 44, 21, 0), (7, 68, 25, 0), (7, 101, 27, 0), (7, 105, 28, 0), (7, 109, 29, 0), (7, 115, 30, 0), (7, 119, 31, 0), (7, 122, 32, 0), (7, 127, 33, 0), (10, 36, 35, 0), (7, 131, 36, 0), (9, 23, 38, 0), (5, 39, 39, 0), (7, 182, 3, 0), (7, 160, 42, 0), (7, 142, 40, 0), (7, 148, 41, 0), (7, 169, 43, 0), (7, 72, 26, 0), (7, 77, 34, 0), (7, 81, 37, 0), (7, 86, 44, 0), (10, 39, 46, 0), (3, 57, 49, 0), (3, 69, 51, 0), (3, 73, 52, 0), (3, 38, 48, 0), (3, 44, 50, 0), (3, 48, 53, 0), (10, 67, 54, 0), (7, 15, 17, 0), (7, 21, 18, 0), (7, 39, 19, 0), (7, 47, 45, 0), (7, 54, 47, 0), (7, 64, 55, 0), (4, 22, 48, 0), (2, 60, 58, 0), (2, 54, 48, 0), (11, 335, 59, 0), (11, 79, 16, 0), (11, 83, 56, 0), (11, 100, 57, 0), (11, 103, 60, 0), (11, 109, 61, 0), (12, 146, 66, 0), (12, 156, 64, 0), (12, 163, 22, 0), (12, 169, 24, 0), (12, 179, 68, 0), (12, 183, 70, 0), (12, 187, 67, 0), (12, 228, 69, 0), (12, 232, 71, 0), (12, 221, 74, 0), (12, 235, 73, 0), (12, 238, 75, 0), (12, 241, 76, 0), (12, 250, 79, 0), (12, 253, 80, 0), (12, 257, 72, 0), (12, 260, 77, 0), (12, 263, 78, 0), (12, 266, 81, 0), (12, 269, 82, 0), (12, 272, 63, 0), (12, 275, 65, 0), (12, 281, 83, 0), (11, 115, 89, 0), (11, 125, 47, 0), (12, 306, 91, 0), (11, 132, 46, 0), (12, 319, 97, 0), (12, 323, 98, 0), (12, 326, 99, 0), (12, 303, 96, 0), (12, 309, 100, 0), (10, 43, 49, 0), (5, 42, 103, 1), (5, 46, 104, 0), (10, 59, 105, 0), (11, 152, 102, 0), (11, 173, 106, 0), (12, 315, 108, 0), (11, 362, 52, 0), (11, 177, 110, 0), (11, 195, 113, 0), (3, 34, 113, 0), (11, 181, 114, 0), (11, 185, 115, 0), (12, 329, 117, 0), (11, 189, 119, 0), (11, 192, 122, 0), (5, 50, 49, 0), (5, 54, 105, 0), (5, 67, 52, 0), (6, 46, 49, 0), (6, 50, 105, 0), (6, 59, 125, 0), (6, 63, 126, 0), (11, 222, 127, 0), (11, 199, 128, 0), (12, 335, 130, 0), (12, 338, 131, 0), (11, 205, 133, 0), (8, 32, 52, 0), (6, 76, 136, 0), (6, 94, 137, 0), (6, 98, 17, 0), (6, 104, 138, 0), (6, 83, 139, 0), (6, 67, 48, 0), (6, 91, 140, 0), (11, 208, 141, 0), (12, 341, 143, 0), (12, 344, 144, 0), (12, 349, 145, 0), (12, 352, 146, 0), (12, 355, 147, 0), (8, 25, 38, 0), (8, 40, 3, 0), (8, 36, 137, 0), (6, 112, 152, 0), (6, 108, 153, 0), (11, 211, 151, 0), (11, 215, 154, 0), (12, 361, 157, 0), (12, 364, 156, 0), (12, 368, 158, 0), (6, 115, 154, 0), (6, 119, 160, 0), (6, 123, 133, 0), (11, 219, 161, 0), (12, 371, 163, 0), (8, 28, 167, 0), (3, 82, 170, 0), (3, 85, 32, 0), (1, 86, 104, 0), (1, 90, 38, 0), (1, 96, 171, 0), (1, 102, 49, 0), (1, 106, 52, 0), (1, 110, 3, 0), (1, 114, 172, 0), (1, 118, 51, 0), (1, 124, 18, 0), (1, 130, 173, 0), (1, 133, 167, 0), (1, 71, 174, 0), (1, 75, 175, 0), (1, 34, 48, 0), (1, 44, 168, 0), (1, 53, 46, 0), (1, 57, 169, 0), (1, 61, 176, 0), (11, 226, 177, 0), (12, 374, 179, 0), (12, 377, 180, 0), (12, 383, 181, 0), (12, 387, 182, 0), (12, 391, 183, 0), (12, 394, 184, 0), (12, 397, 185, 0), (12, 406, 186, 0), (12, 410, 187, 0), (11, 243, 169, 0), (11, 233, 191, 0), (11, 237, 196, 0), (11, 240, 199, 0), (8, 44, 17, 0), (11, 246, 168, 0), (11, 250, 202, 0), (12, 416, 204, 0), (11, 254, 206, 0), (12, 419, 208, 0), (11, 258, 212, 0), (11, 262, 213, 0), (12, 454, 215, 0), (12, 458, 216, 0), (12, 435, 217, 0), (2, 11, 219, 1), (2, 23, 2, 0), (2, 30, 1, 0), (2, 109, 213, 1), (2, 112, 17, 0), (4, 45, 224, 0), (4, 53, 225, 0), (4, 34, 223, 0), (4, 38, 226, 0), (2, 74, 221, 0), (2, 78, 222, 0), (2, 82, 151, 0), (2, 86, 177, 0), (2, 91, 227, 0), (2, 98, 18, 0), (11, 330, 220, 0), (11, 331, 228, 0), (11, 265, 229, 0), (11, 269, 230, 0), (12, 423, 232, 0), (12, 426, 233, 0), (12, 441, 234, 0), (12, 445, 236, 0), (12, 448, 235, 0), (12, 451, 237, 0), (12, 461, 238, 0), (11, 365, 222, 0), (11, 274, 240, 0), (11, 277, 241, 0), (12, 466, 243, 0), (11, 281, 245, 0), (2, 117, 248, 0), (2, 120, 249, 0), (11, 284, 250, 0), (11, 287, 253, 0), (4, 42, 248, 0), (2, 121, 257, 0), (11, 290, 256, 0), (11, 294, 258, 0), (12, 469, 260, 0), (12, 472, 261, 0), (12, 476, 262, 0), (11, 298, 264, 0), (11, 302, 267, 0), (11, 305, 249, 0), (12, 479, 269, 0), (2, 125, 103, 1), (11, 308, 103, 0), (11, 311, 273, 0), (4, 57, 38, 0), (4, 60, 17, 0), (4, 66, 276, 0), (2, 132, 277, 0), (2, 136, 175, 0), (2, 128, 278, 0), (11, 314, 279, 0), (11, 317, 280, 0), (12, 482, 282, 0), (11, 320, 284, 0), (2, 159, 288, 0), (2, 140, 245, 0), (2, 143, 102, 0), (2, 147, 106, 0), (2, 151, 287, 0), (2, 155, 289, 0), (11, 323, 290, 0), (10, 53, 32, 0), (11, 338, 287, 0), (11, 342, 293, 0), (11, 345, 294, 0), (12, 485, 296, 0), (11, 348, 298, 0), (11, 351, 104, 0), (13, 7, 301, 0), (12, 488, 302, 0), (13, 15, 10, 0), (13, 18, 11, 0), (13, 19, 13, 0), (13, 23, 15, 0), (13, 24, 62, 0), (13, 27, 84, 0), (13, 28, 85, 0), (13, 32, 86, 0), (13, 33, 87, 0), (13, 36, 88, 0), (13, 37, 90, 0), (13, 40, 92, 0), (13, 41, 93, 0), (13, 44, 94, 0), (13, 45, 95, 0), (13, 49, 101, 0), (13, 50, 107, 0), (13, 54, 109, 0), (13, 55, 111, 0), (13, 59, 112, 0), (13, 60, 116, 0), (13, 63, 118, 0), (13, 64, 120, 0), (13, 67, 121, 0), (13, 68, 123, 0), (13, 71, 124, 0), (13, 72, 129, 0), (13, 75, 132, 0), (13, 76, 134, 0), (13, 79, 135, 0), (13, 80, 142, 0), (13, 83, 148, 0), (13, 84, 149, 0), (13, 87, 150, 0), (13, 90, 155, 0), (13, 94, 159, 0), (13, 95, 162, 0), (13, 99, 164, 0), (13, 100, 165, 0), (13, 103, 166, 0), (13, 104, 178, 0), (13, 108, 188, 0), (13, 109, 189, 0), (13, 112, 190, 0), (13, 113, 192, 0), (13, 116, 193, 0), (13, 117, 194, 0), (13, 120, 195, 0), (13, 121, 197, 0), (13, 124, 198, 0), (13, 125, 200, 0), (13, 128, 201, 0), (13, 129, 203, 0), (13, 133, 205, 0), (13, 134, 207, 0), (13, 137, 209, 0), (13, 138, 210, 0), (13, 142, 211, 0), (13, 143, 214, 0), (13, 146, 218, 0), (13, 147, 231, 0), (13, 150, 239, 0), (13, 151, 242, 0), (13, 155, 244, 0), (13, 156, 246, 0), (13, 159, 247, 0), (13, 160, 251, 0), (13, 163, 252, 0), (13, 164, 254, 0), (13, 167, 255, 0), (13, 168, 259, 0), (13, 171, 263, 0), (13, 172, 265, 0), (13, 176, 266, 0), (13, 177, 268, 0), (13, 180, 270, 0), (13, 181, 271, 0), (13, 185, 272, 0), (13, 186, 274, 0), (13, 189, 275, 0), (13, 190, 281, 0), (13, 193, 283, 0), (13, 194, 285, 0), (13, 197, 286, 0), (13, 198, 291, 0), (13, 201, 292, 0), (13, 202, 295, 0), (13, 205, 297, 0), (13, 206, 299, 0), (13, 210, 300, 0), (13, 216, 303, 0), (13, 217, 304, 0), (13, 220, 305, 0), (13, 223, 306, 0), (13, 224, 307, 0), (13, 227, 308, 0)]
def zwM (q : Nat × Nat × Nat × Nat) : Cond := match q with
  | (o, i, j, 0) => .methodLink (zow.getD o "") i (zMT.getD j zyD).1
  | (o, i, j, _) => .methodLinkNest (zow.getD o "") i (zMT.getD j zyD).1 "CarriedLetters"
set_option maxRecDepth 100000 in
theorem zLM_ok : ∀ q ∈ zLM, zwM q ∈ lw_tbl := zmem_all _ _ [192, 240, 241, 336, 302, 331, 294, 152, 185, 232, 235, 273, 287, 482, 1645, 512, 524, 534, 538, 508, 520, 586, 599, 603, 607, 611, 615, 621, 633, 629, 649, 645, 661, 657, 641, 653, 662, 576, 582, 625, 637, 670, 689, 697, 701, 682, 685, 693, 678, 498, 501, 504, 515, 666, 674, 721, 717, 722, 713, 490, 494, 705, 709, 723, 1672, 1657, 1685, 1686, 1681, 1695, 1668, 1691, 1700, 1726, 1709, 1722, 1732, 1744, 1748, 1687, 1705, 1736, 1740, 1676, 1653, 1660, 1664, 740, 744, 1764, 753, 1788, 1791, 1784, 1776, 1780, 762, 775, 771, 767, 758, 763, 1799, 786, 782, 795, 803, 791, 799, 1811, 808, 816, 842, 843, 844, 832, 833, 834, 838, 828, 824, 1831, 1827, 849, 875, 863, 871, 876, 877, 867, 862, 881, 857, 1848, 1852, 1856, 1860, 1843, 897, 898, 911, 907, 903, 893, 899, 1881, 1872, 1877, 920, 921, 925, 916, 1889, 943, 969, 973, 963, 964, 965, 974, 975, 976, 977, 981, 982, 983, 987, 959, 988, 938, 939, 950, 951, 955, 934, 1921, 1917, 1913, 1909, 1925, 1929, 1905, 1901, 1933, 1004, 1000, 1013, 1021, 1034, 1029, 1030, 1961, 1039, 1969, 1051, 1055, 1981, 1985, 1989, 1074, 1089, 1091, 1138, 1139, 1159, 1165, 1151, 1155, 1134, 1140, 1145, 1146, 1147, 1169, 1068, 1130, 1062, 1170, 2009, 2005, 2013, 2022, 2001, 2018, 1997, 1186, 1178, 1182, 2031, 1191, 1207, 1203, 1199, 1215, 1235, 1231, 1223, 1227, 2057, 2053, 2061, 1240, 1248, 1252, 2073, 1266, 1261, 1262, 1283, 1284, 1285, 1279, 1289, 1275, 1271, 1290, 2089, 1298, 1321, 1310, 1311, 1312, 1313, 1317, 1306, 1339, 1329, 1330, 1335, 2105, 1344, 1364, 1360, 2117, 144, 1432, 478, 1641, 486, 1649, 728, 1752, 732, 1756, 736, 1760, 745, 1768, 749, 1772, 754, 1795, 778, 1803, 787, 1807, 804, 1815, 812, 1819, 820, 1823, 845, 1835, 853, 1839, 885, 1864, 889, 1868, 912, 1885, 926, 1893, 930, 1897, 992, 1937, 996, 1941, 1005, 1945, 1009, 1949, 1017, 1953, 1025, 1957, 1035, 1965, 1043, 1973, 1047, 1977, 1058, 1993, 1174, 2026, 1187, 2037, 1195, 2041, 1211, 2045, 1219, 2049, 1236, 2065, 1244, 2069, 1253, 2077, 1257, 2081, 1267, 2085, 1294, 2093, 1302, 2097, 1325, 2101, 1340, 2109, 2113, 1637, 1348, 2121, 1352, 2125] (by decide +kernel)
