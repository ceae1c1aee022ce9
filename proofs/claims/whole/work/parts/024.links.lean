/-! The words behind the operands, printed by wip/links.py: (place in lw_tbl, ..) -/
def zcns : List String := [RX0, RX1, RX2, RX3, RX4, RX5, RX6, RX7, RX8, RX9, RX10, RX11, RX12, "NothingAboveThreeLaw", "java/lang/Math", "java/lang/String", "java/lang/StringLatin1", "java/util/Arrays", "jdk/internal/util/Preconditions"]
def zcn (k : Nat) : String := zcns.getD k ""
def zT (ci : Nat) : u_T := match ci with
  | 0 => TX0
  | 1 => TX1
  | 2 => TX2
  | 3 => TX3
  | 4 => TX4
  | 5 => TX5
  | 6 => TX6
  | 7 => TX7
  | 8 => TX8
  | 9 => TX9
  | 10 => TX10
  | 11 => TX11
  | _ => TX12
def zTB : List Cond := lw_tbl.filter goodWord
def zhas (j : Nat) (w : Cond) : Bool := decide (lw_tbl[j]? = some w) && goodWord w
theorem zhas_in {j : Nat} {w : Cond} (h : zhas j w = true) : w ∈ zTB := by
  simp only [zhas, Bool.and_eq_true, decide_eq_true_eq] at h
  exact List.mem_filter.mpr ⟨List.mem_of_getElem? h.1, h.2⟩
theorem zTB_good {w : Cond} (h : w ∈ zTB) : (w.onTables && w.keeps) = true ∨ ∃ ty, w = .arrayClass ty := good_of_word (List.mem_filter.mp h).2
def zFL : List (Nat × Nat × Nat × Nat × Nat) := [(150, 4, 9, 4, 0), (151, 11, 92, 4, 1), (152, 4, 19, 4, 1), (153, 4, 31, 4, 2), (154, 4, 43, 4, 3), (155, 4, 34, 4, 4), (156, 10, 22, 4, 5), (157, 8, 32, 4, 5), (158, 6, 51, 4, 5), (159, 4, 53, 4, 5), (160, 6, 68, 4, 6), (161, 4, 46, 4, 6), (162, 4, 37, 4, 7), (163, 4, 15, 4, 8), (164, 11, 149, 4, 8), (191, 8, 9, 8, 0), (192, 11, 119, 8, 0), (193, 8, 15, 8, 1), (194, 8, 28, 8, 2), (195, 11, 126, 8, 2), (216, 9, 9, 9, 0), (217, 11, 165, 9, 0), (218, 1, 98, 9, 0), (219, 9, 15, 9, 1), (220, 11, 168, 9, 1), (221, 1, 92, 9, 1), (222, 9, 18, 9, 2), (223, 11, 171, 9, 2), (224, 1, 95, 9, 2), (225, 9, 21, 9, 3), (226, 10, 18, 9, 3), (227, 7, 64, 9, 3), (228, 11, 159, 9, 3), (229, 1, 83, 9, 3), (239, 10, 12, 10, 0), (240, 11, 133, 10, 0), (250, 6, 9, 6, 0), (251, 6, 15, 6, 1), (252, 6, 21, 6, 2), (253, 6, 18, 6, 3), (254, 6, 45, 6, 4), (255, 6, 48, 6, 5), (256, 6, 90, 6, 6), (257, 6, 99, 6, 7), (258, 6, 105, 6, 8), (259, 6, 102, 6, 9), (260, 6, 82, 6, 10), (306, 3, 20, 3, 0), (307, 11, 152, 3, 0), (308, 3, 25, 3, 1), (309, 1, 21, 3, 1), (310, 11, 183, 3, 1), (311, 3, 28, 3, 2), (312, 1, 30, 3, 2), (313, 11, 189, 3, 2), (314, 3, 67, 3, 3), (315, 11, 211, 3, 3), (316, 3, 31, 3, 4), (317, 11, 215, 3, 4), (318, 3, 34, 3, 5), (319, 11, 218, 3, 5), (320, 3, 37, 3, 6), (321, 11, 221, 3, 6), (322, 3, 40, 3, 7), (323, 11, 331, 3, 7), (324, 3, 43, 3, 8), (325, 11, 361, 3, 8), (326, 3, 46, 3, 9), (327, 0, 102, 3, 9), (328, 11, 367, 3, 9), (329, 3, 49, 3, 10), (330, 0, 107, 3, 10), (331, 11, 370, 3, 10), (332, 3, 52, 3, 11), (333, 11, 324, 3, 11), (366, 1, 9, 1, 0), (367, 5, 43, 1, 0), (368, 1, 15, 1, 1), (369, 3, 86, 1, 1), (370, 5, 46, 1, 1), (371, 1, 18, 1, 2), (372, 3, 87, 1, 2), (373, 5, 49, 1, 2), (374, 1, 49, 1, 3), (375, 3, 80, 1, 3), (376, 3, 77, 1, 4), (377, 1, 53, 1, 4), (378, 11, 297, 1, 4), (379, 5, 21, 1, 5), (380, 3, 71, 1, 5), (381, 1, 56, 1, 5), (382, 7, 79, 1, 5), (383, 11, 208, 1, 5), (384, 1, 59, 1, 6), (385, 3, 83, 1, 6), (386, 5, 52, 1, 6), (387, 7, 82, 1, 6), (413, 7, 12, 7, 0), (414, 7, 18, 7, 1), (415, 7, 22, 7, 2), (416, 7, 25, 7, 3), (417, 7, 94, 7, 4), (418, 7, 28, 7, 5), (419, 7, 34, 7, 6), (420, 11, 269, 7, 6), (421, 7, 38, 7, 7), (422, 11, 266, 7, 7), (446, 2, 35, 2, 0), (447, 11, 345, 2, 0), (448, 2, 39, 2, 1), (449, 11, 348, 2, 1), (450, 2, 42, 2, 2), (451, 11, 342, 2, 2), (452, 2, 9, 2, 3), (468, 0, 11, 0, 0), (469, 0, 15, 0, 1), (470, 0, 18, 0, 2), (471, 0, 21, 0, 3), (472, 0, 78, 0, 4), (473, 11, 377, 0, 4), (474, 0, 82, 0, 5), (475, 0, 86, 0, 6), (476, 0, 96, 0, 7), (477, 0, 99, 0, 8), (497, 11, 10, 11, 0), (498, 11, 19, 11, 1), (499, 11, 26, 11, 2), (500, 11, 33, 11, 3), (501, 11, 39, 11, 4), (502, 11, 45, 11, 5), (503, 11, 129, 11, 6), (504, 11, 141, 11, 7), (505, 11, 52, 11, 8), (506, 11, 56, 11, 9), (507, 11, 383, 11, 10), (508, 11, 60, 11, 11), (509, 11, 67, 11, 12), (510, 11, 74, 11, 13), (511, 11, 81, 11, 14), (512, 11, 88, 11, 15), (939, 5, 15, 5, 0), (940, 5, 18, 5, 1), (941, 5, 11, 5, 2), (1591, 12, 1, 12, 0), (1592, 12, 7, 12, 1), (1593, 12, 17, 12, 2), (1594, 12, 20, 12, 3), (1595, 12, 475, 12, 4), (1596, 12, 111, 12, 5), (1597, 12, 123, 12, 6), (1598, 12, 120, 12, 7), (1599, 12, 114, 12, 8), (1600, 12, 117, 12, 9), (1601, 12, 153, 12, 10), (1602, 12, 23, 12, 11), (1603, 12, 26, 12, 12), (1604, 12, 29, 12, 13), (1605, 12, 226, 12, 14), (1606, 12, 274, 12, 15), (1607, 12, 32, 12, 16), (1608, 12, 35, 12, 17), (1609, 12, 38, 12, 18), (1610, 12, 41, 12, 19), (1611, 12, 235, 12, 20), (1612, 12, 44, 12, 21), (1613, 12, 47, 12, 22), (1614, 12, 50, 12, 23), (1615, 12, 53, 12, 24), (1616, 12, 56, 12, 25), (1617, 12, 59, 12, 26), (1618, 12, 62, 12, 27), (1619, 12, 65, 12, 28), (1620, 12, 306, 12, 29), (1621, 12, 301, 12, 30), (1622, 12, 298, 12, 31), (1623, 12, 304, 12, 32), (1624, 12, 295, 12, 33), (1625, 12, 68, 12, 34), (1626, 12, 313, 12, 35), (1627, 12, 309, 12, 36), (1628, 12, 344, 12, 37), (1629, 12, 347, 12, 38), (1630, 12, 361, 12, 39), (1631, 12, 71, 12, 40), (1632, 12, 74, 12, 41), (1633, 12, 77, 12, 42), (1634, 12, 80, 12, 43), (1635, 12, 368, 12, 44), (1636, 12, 371, 12, 45), (1637, 12, 374, 12, 46), (1638, 12, 83, 12, 47), (1639, 12, 86, 12, 48), (1640, 12, 89, 12, 49), (1641, 12, 92, 12, 50), (1642, 12, 417, 12, 51), (1643, 12, 413, 12, 52), (1644, 12, 420, 12, 53), (1645, 12, 95, 12, 54), (1646, 12, 98, 12, 55), (1647, 12, 101, 12, 56), (1648, 12, 105, 12, 57), (1649, 12, 433, 12, 58), (1650, 12, 108, 12, 59)]
def zFLw (q : Nat × Nat × Nat × Nat × Nat) : Cond := .fieldLink (zcn q.2.1) q.2.2.1 (zT q.2.2.2.1 q.2.2.2.2).1 (zT q.2.2.2.1 q.2.2.2.2).2.1 (zT q.2.2.2.1 q.2.2.2.2).2.2.1
set_option maxRecDepth 100000 in
theorem zFL_ok : zFL.all (fun q => zhas q.1 (zFLw q)) = true := by decide +kernel
def zstat : List (String × String) := [("", ""), ("NothingAboveThree$ValleyReader", "WITHOUT"), ("NothingAboveThree$ValleyReader", "LEAST"), ("NothingAboveThree$ValleyReader", "MOST"), ("NothingAboveThree$WayReader", "FIRST_MOST"), ("NothingAboveThree$WayReader", "SECOND_MOST"), ("NothingAboveThree$TaskReader", "RANKS")]
def zGS : List (Nat × Nat × Nat × Nat) := [(294, 3, 9, 1), (690, 8, 19, 1), (759, 8, 58, 3), (761, 8, 61, 2), (806, 10, 48, 4), (808, 10, 52, 5), (898, 6, 169, 6)]
def zGSw (q : Nat × Nat × Nat × Nat) : Cond := .fieldLink (zcn q.2.1) q.2.2.1 (zstat.getD q.2.2.2 ("", "")).1 (zstat.getD q.2.2.2 ("", "")).2 "[I"
set_option maxRecDepth 100000 in
theorem zGS_ok : zGS.all (fun q => zhas q.1 (zGSw q)) = true := by decide +kernel
set_option maxRecDepth 100000 in
theorem zlay0 : ∀ w ∈ u_ws RX0 TX0 9, w ∈ zTB := fun w h => by
  have h1 := goodIn_r (big := lw_tbl) (u_ws RX0 TX0 9) [478, 480, 482, 484, 486, 488, 490, 492, 494] (by decide +kernel) (by decide +kernel) w h
  exact List.mem_filter.mpr ⟨h1.1, List.all_eq_true.mp (show (u_ws RX0 TX0 9).all goodWord = true by decide +kernel) w h⟩
set_option maxRecDepth 100000 in
theorem zlay1 : ∀ w ∈ u_ws RX1 TX1 7, w ∈ zTB := fun w h => by
  have h1 := goodIn_r (big := lw_tbl) (u_ws RX1 TX1 7) [388, 390, 392, 394, 396, 398, 400] (by decide +kernel) (by decide +kernel) w h
  exact List.mem_filter.mpr ⟨h1.1, List.all_eq_true.mp (show (u_ws RX1 TX1 7).all goodWord = true by decide +kernel) w h⟩
set_option maxRecDepth 100000 in
theorem zlay2 : ∀ w ∈ u_ws RX2 TX2 4, w ∈ zTB := fun w h => by
  have h1 := goodIn_r (big := lw_tbl) (u_ws RX2 TX2 4) [453, 455, 457, 459] (by decide +kernel) (by decide +kernel) w h
  exact List.mem_filter.mpr ⟨h1.1, List.all_eq_true.mp (show (u_ws RX2 TX2 4).all goodWord = true by decide +kernel) w h⟩
set_option maxRecDepth 100000 in
theorem zlay3 : ∀ w ∈ u_ws RX3 TX3 12, w ∈ zTB := fun w h => by
  have h1 := goodIn_r (big := lw_tbl) (u_ws RX3 TX3 12) [334, 336, 338, 340, 342, 344, 346, 348, 350, 352, 354, 356] (by decide +kernel) (by decide +kernel) w h
  exact List.mem_filter.mpr ⟨h1.1, List.all_eq_true.mp (show (u_ws RX3 TX3 12).all goodWord = true by decide +kernel) w h⟩
set_option maxRecDepth 100000 in
theorem zlay4 : ∀ w ∈ u_ws RX4 TX4 9, w ∈ zTB := fun w h => by
  have h1 := goodIn_r (big := lw_tbl) (u_ws RX4 TX4 9) [165, 167, 169, 171, 173, 175, 177, 179, 181] (by decide +kernel) (by decide +kernel) w h
  exact List.mem_filter.mpr ⟨h1.1, List.all_eq_true.mp (show (u_ws RX4 TX4 9).all goodWord = true by decide +kernel) w h⟩
set_option maxRecDepth 100000 in
theorem zlay5 : ∀ w ∈ u_ws RX5 TX5 3, w ∈ zTB := fun w h => by
  have h1 := goodIn_r (big := lw_tbl) (u_ws RX5 TX5 3) [942, 944, 946] (by decide +kernel) (by decide +kernel) w h
  exact List.mem_filter.mpr ⟨h1.1, List.all_eq_true.mp (show (u_ws RX5 TX5 3).all goodWord = true by decide +kernel) w h⟩
set_option maxRecDepth 100000 in
theorem zlay6 : ∀ w ∈ u_ws RX6 TX6 11, w ∈ zTB := fun w h => by
  have h1 := goodIn_r (big := lw_tbl) (u_ws RX6 TX6 11) [261, 263, 265, 267, 269, 271, 273, 275, 277, 279, 281] (by decide +kernel) (by decide +kernel) w h
  exact List.mem_filter.mpr ⟨h1.1, List.all_eq_true.mp (show (u_ws RX6 TX6 11).all goodWord = true by decide +kernel) w h⟩
set_option maxRecDepth 100000 in
theorem zlay7 : ∀ w ∈ u_ws RX7 TX7 8, w ∈ zTB := fun w h => by
  have h1 := goodIn_r (big := lw_tbl) (u_ws RX7 TX7 8) [423, 425, 427, 429, 431, 433, 435, 437] (by decide +kernel) (by decide +kernel) w h
  exact List.mem_filter.mpr ⟨h1.1, List.all_eq_true.mp (show (u_ws RX7 TX7 8).all goodWord = true by decide +kernel) w h⟩
set_option maxRecDepth 100000 in
theorem zlay8 : ∀ w ∈ u_ws RX8 TX8 3, w ∈ zTB := fun w h => by
  have h1 := goodIn_r (big := lw_tbl) (u_ws RX8 TX8 3) [196, 198, 200] (by decide +kernel) (by decide +kernel) w h
  exact List.mem_filter.mpr ⟨h1.1, List.all_eq_true.mp (show (u_ws RX8 TX8 3).all goodWord = true by decide +kernel) w h⟩
set_option maxRecDepth 100000 in
theorem zlay9 : ∀ w ∈ u_ws RX9 TX9 4, w ∈ zTB := fun w h => by
  have h1 := goodIn_r (big := lw_tbl) (u_ws RX9 TX9 4) [230, 232, 234, 236] (by decide +kernel) (by decide +kernel) w h
  exact List.mem_filter.mpr ⟨h1.1, List.all_eq_true.mp (show (u_ws RX9 TX9 4).all goodWord = true by decide +kernel) w h⟩
set_option maxRecDepth 100000 in
theorem zlay10 : ∀ w ∈ u_ws RX10 TX10 1, w ∈ zTB := fun w h => by
  have h1 := goodIn_r (big := lw_tbl) (u_ws RX10 TX10 1) [241] (by decide +kernel) (by decide +kernel) w h
  exact List.mem_filter.mpr ⟨h1.1, List.all_eq_true.mp (show (u_ws RX10 TX10 1).all goodWord = true by decide +kernel) w h⟩
set_option maxRecDepth 100000 in
theorem zlay11 : ∀ w ∈ u_ws RX11 TX11 16, w ∈ zTB := fun w h => by
  have h1 := goodIn_r (big := lw_tbl) (u_ws RX11 TX11 16) [513, 515, 517, 519, 521, 523, 525, 527, 529, 531, 533, 535, 537, 539, 541, 543] (by decide +kernel) (by decide +kernel) w h
  exact List.mem_filter.mpr ⟨h1.1, List.all_eq_true.mp (show (u_ws RX11 TX11 16).all goodWord = true by decide +kernel) w h⟩
set_option maxRecDepth 100000 in
theorem zlay12 : ∀ w ∈ u_ws RX12 TX12 60, w ∈ zTB := fun w h => by
  have h1 := goodIn_r (big := lw_tbl) (u_ws RX12 TX12 60) [1651, 1653, 1655, 1657, 1659, 1661, 1663, 1665, 1667, 1669, 1671, 1673, 1675, 1677, 1679, 1681, 1683, 1685, 1687, 1689, 1691, 1693, 1695, 1697, 1699, 1701, 1703, 1705, 1707, 1709, 1711, 1713, 1715, 1717, 1719, 1721, 1723, 1725, 1727, 1729, 1731, 1733, 1735, 1737, 1739, 1741, 1743, 1745, 1747, 1749, 1751, 1753, 1755, 1757, 1759, 1761, 1763, 1765, 1767, 1769] (by decide +kernel) (by decide +kernel) w h
  exact List.mem_filter.mpr ⟨h1.1, List.all_eq_true.mp (show (u_ws RX12 TX12 60).all goodWord = true by decide +kernel) w h⟩
def zIN : List (Nat × Nat × Nat) := [(0, 463, 120), (1, 361, 117), (2, 441, 119), (3, 289, 115), (4, 145, 110), (5, 927, 132), (6, 245, 114), (7, 404, 118), (8, 186, 111), (9, 211, 113), (10, 205, 112), (11, 137, 109), (12, 1586, 121)]
set_option maxRecDepth 100000 in
theorem zIN_ok : zIN.all (fun q => zhas q.2.1 (.instantiable (zcn q.1) (zfn q.1)) && zhas q.2.2 (.initialized (zcn q.1))) = true := by decide +kernel
def zexn : List String := ["java/lang/IllegalArgumentException", "java/util/NoSuchElementException", "java/lang/IllegalStateException", "java/lang/IndexOutOfBoundsException"]
def zclnm (k : Nat) : String := if k < 1000 then zcn k else if k < 2000 then zexn.getD (k - 1000) "" else "[I"
def zCL : List (Nat × Nat × Nat × Nat) := [(136, 13, 8, 11), (144, 11, 7, 4), (185, 11, 16, 8), (204, 11, 23, 10), (210, 10, 9, 9), (244, 11, 30, 6), (284, 11, 37, 9), (286, 11, 43, 5), (288, 11, 49, 3), (302, 3, 16, 2000), (360, 11, 64, 1), (403, 11, 71, 7), (409, 7, 9, 1), (411, 7, 31, 9), (440, 11, 78, 2), (462, 11, 85, 0), (595, 13, 13, 1000), (604, 11, 389, 1000), (926, 6, 34, 5), (932, 17, 317, 2000), (959, 13, 28, 1003), (960, 13, 30, 1001), (969, 11, 398, 1003), (988, 11, 392, 1001), (1044, 13, 45, 1002), (1053, 11, 395, 1002), (1585, 13, 152, 12)]
set_option maxRecDepth 100000 in
theorem zCL_ok : zCL.all (fun q => zhas q.1 (.classLink (zcn q.2.1) q.2.2.1 (zclnm q.2.2.2))) = true := by decide +kernel
def zCI : List (Nat × Nat × Nat × Nat) := [(685, 4, 56, 100000), (1029, 11, 182, 1000000000), (1086, 1, 101, 1000000000), (1950, 12, 294, 1000000000)]
theorem zCI_ok : zCI.all (fun q => zhas q.1 (.constant (zcn q.2.1) q.2.2.1 (nI q.2.2.2))) = true := by decide +kernel
def zCJ : List (Nat × Nat × Nat × Nat) := [(1459, 0, 38, 3), (1533, 0, 110, 1000000000), (1534, 0, 112, 1000), (2125, 12, 426, 1000), (2126, 12, 428, 1000000000), (2165, 12, 445, 4), (2222, 12, 470, 3), (2251, 13, 275, 4294967295)]
theorem zCJ_ok : zCJ.all (fun q => zhas q.1 (.constantLong (zcn q.2.1) q.2.2.1 (lN q.2.2.2))) = true := by decide +kernel
def zML : List (Nat × Nat × Nat × Nat) := [(138, 13, 151, 0), (290, 11, 51, 226), (303, 3, 55, 343), (546, 13, 155, 1), (550, 11, 96, 232), (554, 13, 175, 5), (558, 13, 208, 15), (562, 11, 224, 230), (569, 13, 306, 45), (573, 11, 386, 227), (577, 13, 310, 46), (581, 13, 314, 47), (585, 11, 100, 49), (588, 13, 318, 48), (592, 13, 159, 294), (596, 13, 7, 2), (600, 11, 104, 56), (668, 11, 108, 233), (678, 4, 40, 234), (682, 4, 49, 235), (686, 11, 111, 283), (692, 8, 37, 284), (697, 8, 43, 241), (701, 4, 65, 339), (705, 15, 335, 337), (711, 4, 70, 336), (715, 15, 492, 338), (719, 15, 495, 341), (722, 16, 9, 340), (727, 15, 1059, 344), (749, 4, 74, 242), (754, 8, 51, 236), (758, 8, 55, 234), (763, 8, 64, 243), (767, 4, 61, 236), (769, 8, 68, 239), (773, 4, 57, 238), (777, 11, 115, 237), (781, 11, 122, 228), (786, 13, 169, 295), (789, 13, 15, 3), (793, 11, 132, 292), (797, 10, 27, 236), (799, 10, 33, 241), (801, 10, 41, 234), (802, 10, 44, 293), (810, 10, 55, 243), (811, 10, 59, 286), (815, 9, 25, 287), (820, 10, 63, 239), (821, 11, 137, 61), (826, 11, 402, 288), (831, 13, 172, 296), (834, 13, 18, 4), (838, 11, 144, 251), (842, 6, 56, 236), (843, 6, 60, 252), (847, 6, 73, 241), (849, 6, 79, 240), (853, 6, 64, 253), (857, 6, 86, 254), (861, 6, 93, 256), (865, 6, 108, 238), (866, 6, 112, 257), (870, 6, 134, 262), (874, 6, 120, 234), (877, 6, 123, 243), (878, 6, 127, 266), (882, 6, 131, 255), (886, 6, 96, 258), (891, 6, 140, 259), (895, 6, 159, 264), (901, 6, 163, 263), (905, 6, 144, 265), (910, 6, 148, 260), (914, 6, 166, 239), (918, 6, 156, 261), (922, 11, 145, 250), (928, 6, 36, 342), (935, 6, 42, 244), (949, 13, 179, 297), (952, 13, 21, 6), (956, 13, 182, 298), (961, 13, 24, 7), (965, 11, 155, 59), (984, 11, 162, 57), (1003, 13, 186, 299), (1006, 13, 32, 8), (1010, 11, 174, 289), (1014, 9, 39, 290), (1018, 13, 189, 300), (1021, 13, 35, 9), (1025, 11, 178, 50), (1030, 13, 193, 301), (1033, 13, 39, 10), (1037, 11, 186, 51), (1041, 13, 196, 302), (1045, 13, 42, 11), (1049, 11, 192, 58), (1068, 11, 196, 205), (1073, 1, 31, 207), (1077, 11, 200, 209), (1081, 1, 62, 212), (1087, 1, 102, 213), (1090, 1, 106, 214), (1094, 1, 66, 215), (1098, 1, 109, 216), (1101, 1, 74, 217), (1105, 11, 204, 229), (1109, 13, 199, 303), (1112, 13, 47, 12), (1116, 13, 202, 304), (1119, 13, 50, 13), (1123, 13, 205, 305), (1126, 13, 53, 14), (1130, 13, 212, 306), (1133, 13, 56, 16), (1137, 11, 227, 60), (1141, 11, 231, 245), (1145, 5, 27, 246), (1149, 5, 31, 247), (1153, 5, 35, 248), (1156, 13, 215, 307), (1159, 13, 60, 17), (1163, 11, 235, 52), (1167, 11, 239, 62), (1170, 11, 243, 63), (1174, 11, 251, 206), (1178, 1, 34, 343), (1181, 13, 219, 308), (1184, 13, 64, 18), (1188, 11, 247, 208), (1192, 13, 222, 309), (1195, 13, 67, 20), (1199, 11, 259, 54), (1203, 11, 279, 53), (1207, 11, 262, 268), (1212, 7, 48, 275), (1216, 7, 95, 276), (1220, 7, 107, 279), (1224, 7, 99, 277), (1228, 7, 103, 278), (1232, 7, 110, 280), (1237, 7, 117, 287), (1238, 7, 52, 274), (1242, 7, 56, 281), (1246, 7, 60, 273), (1251, 7, 71, 206), (1252, 7, 75, 209), (1253, 7, 88, 245), (1254, 11, 272, 269), (1258, 11, 276, 270), (1262, 13, 226, 310), (1265, 13, 71, 21), (1269, 13, 230, 311), (1272, 13, 75, 22), (1276, 11, 282, 271), (1280, 7, 67, 272), (1284, 13, 233, 312), (1287, 13, 79, 23), (1291, 13, 236, 313), (1294, 13, 82, 24), (1298, 11, 286, 64), (1302, 11, 289, 65), (1306, 11, 293, 210), (1310, 1, 70, 209), (1311, 13, 239, 314), (1314, 13, 86, 25), (1319, 13, 242, 315), (1322, 13, 89, 26), (1326, 13, 245, 316), (1329, 13, 92, 27), (1333, 11, 305, 184), (1336, 13, 248, 317), (1339, 13, 95, 28), (1343, 11, 308, 185), (1346, 13, 251, 318), (1349, 13, 98, 29), (1353, 11, 311, 186), (1356, 0, 24, 185), (1358, 13, 254, 319), (1361, 13, 101, 30), (1365, 11, 314, 187), (1368, 13, 257, 320), (1371, 13, 104, 31), (1375, 13, 260, 321), (1378, 13, 107, 32), (1382, 13, 263, 322), (1385, 13, 110, 37), (1389, 13, 266, 323), (1392, 13, 113, 38), (1396, 11, 334, 55), (1399, 11, 338, 222), (1403, 2, 21, 220), (1406, 2, 45, 219), (1410, 2, 15, 343), (1413, 2, 49, 221), (1417, 2, 52, 223), (1421, 13, 269, 324), (1424, 13, 116, 39), (1428, 11, 351, 224), (1432, 2, 55, 225), (1437, 13, 272, 325), (1440, 13, 119, 40), (1444, 11, 354, 219), (1445, 11, 358, 221), (1446, 13, 277, 326), (1449, 13, 122, 33), (1453, 11, 317, 188), (1456, 0, 34, 189), (1460, 13, 281, 327), (1463, 13, 126, 41), (1467, 13, 285, 328), (1470, 13, 130, 42), (1474, 11, 364, 196), (1479, 0, 64, 197), (1482, 0, 68, 198), (1486, 0, 71, 199), (1491, 13, 288, 329), (1494, 13, 133, 19), (1498, 11, 255, 211), (1502, 1, 77, 246), (1503, 13, 291, 330), (1506, 13, 136, 43), (1510, 13, 294, 331), (1513, 13, 139, 44), (1517, 11, 373, 200), (1521, 0, 89, 201), (1525, 0, 92, 202), (1529, 11, 380, 203), (1538, 13, 297, 332), (1541, 13, 142, 34), (1545, 11, 321, 190), (1549, 0, 40, 343), (1550, 0, 46, 191), (1554, 0, 50, 192), (1558, 13, 300, 333), (1561, 13, 145, 35), (1565, 13, 303, 334), (1568, 13, 148, 36), (1572, 11, 327, 193), (1575, 0, 54, 194), (1578, 0, 57, 195), (1581, 13, 165, 66), (1587, 13, 154, 69), (1773, 13, 158, 70), (1777, 13, 164, 85), (1781, 12, 171, 67), (1785, 12, 175, 82), (1789, 12, 142, 71), (1793, 12, 179, 81), (1797, 12, 126, 73), (1801, 12, 182, 76), (1805, 12, 130, 74), (1808, 12, 185, 84), (1812, 12, 158, 77), (1815, 12, 134, 339), (1816, 12, 138, 336), (1822, 12, 149, 72), (1826, 12, 189, 78), (1830, 12, 192, 79), (1834, 12, 146, 75), (1837, 12, 196, 80), (1841, 12, 199, 83), (1845, 13, 171, 88), (1849, 12, 229, 86), (1864, 12, 232, 87), (1868, 13, 174, 98), (1872, 12, 277, 97), (1881, 12, 259, 96), (1885, 12, 269, 95), (1889, 12, 264, 94), (1893, 12, 241, 90), (1897, 12, 238, 89), (1901, 12, 244, 93), (1905, 12, 256, 92), (1909, 12, 253, 91), (1915, 13, 178, 99), (1919, 13, 181, 100), (1923, 12, 280, 68), (1926, 13, 185, 102), (1930, 12, 284, 101), (1934, 13, 188, 105), (1938, 12, 291, 104), (1942, 12, 287, 103), (1946, 13, 192, 106), (1951, 13, 195, 107), (1955, 13, 198, 114), (1959, 12, 325, 113), (1963, 12, 328, 108), (1967, 12, 331, 112), (1971, 12, 316, 121), (1975, 12, 335, 119), (1979, 12, 319, 111), (1982, 12, 322, 110), (1986, 13, 201, 115), (1990, 13, 204, 116), (1994, 13, 207, 117), (1998, 13, 211, 118), (2002, 13, 214, 123), (2006, 12, 338, 122), (2010, 12, 341, 120), (2014, 13, 218, 126), (2018, 12, 353, 125), (2022, 12, 357, 124), (2026, 12, 350, 109), (2030, 13, 221, 127), (2034, 13, 225, 135), (2038, 12, 390, 134), (2042, 12, 394, 132), (2046, 12, 377, 129), (2050, 12, 364, 128), (2054, 12, 381, 130), (2058, 12, 384, 133), (2062, 12, 387, 131), (2066, 13, 229, 136), (2070, 13, 232, 138), (2074, 12, 398, 137), (2078, 13, 235, 139), (2082, 13, 238, 143), (2086, 12, 401, 141), (2090, 12, 404, 140), (2094, 12, 407, 142), (2098, 13, 241, 144), (2102, 13, 244, 145), (2106, 13, 290, 146), (2110, 13, 293, 148), (2114, 12, 410, 147), (2117, 13, 296, 150), (2121, 12, 423, 149), (2127, 13, 299, 152), (2131, 12, 430, 155), (2134, 12, 436, 151), (2138, 13, 302, 153), (2142, 13, 305, 154), (2146, 13, 247, 158), (2150, 12, 439, 157), (2154, 13, 250, 159), (2158, 12, 442, 156), (2161, 13, 253, 160), (2166, 13, 256, 163), (2170, 12, 447, 162), (2174, 12, 450, 161), (2177, 13, 259, 164), (2181, 13, 262, 165), (2185, 13, 265, 166), (2189, 13, 268, 172), (2193, 12, 461, 171), (2196, 12, 464, 170), (2199, 12, 453, 167), (2202, 12, 467, 169), (2206, 12, 457, 168), (2210, 13, 271, 173), (2214, 13, 274, 174), (2218, 13, 280, 175), (2223, 13, 284, 176), (2227, 13, 287, 178), (2231, 12, 472, 177), (2235, 13, 309, 179), (2239, 13, 313, 180), (2243, 13, 317, 181), (2247, 13, 321, 182)]
set_option maxRecDepth 100000 in
theorem zML_ok : zML.all (fun q => zhas q.1 (.methodLink (zcn q.2.1) q.2.2.1 (zmName (zP q.2.2.2)))) = true := by decide +kernel
def zNL : List (Nat × Nat × Nat) := [(11, 9, 231), (11, 18, 282), (11, 25, 291), (10, 11, 285), (11, 32, 249), (11, 66, 204), (11, 73, 267), (7, 11, 204), (7, 33, 285), (11, 80, 218), (11, 87, 183), (8, 47, 49), (4, 78, 49), (10, 37, 49), (9, 29, 49), (11, 401, 285), (6, 172, 49), (1, 88, 49), (5, 39, 49), (7, 113, 49), (7, 85, 62), (2, 25, 49), (0, 74, 49)]
noncomputable def zNLw (q : Nat × Nat × Nat) : Cond := .methodLinkNest (zcn q.1) q.2.1 (zmName (zP q.2.2)) RX11
def zNLj : List Nat := [146, 187, 206, 212, 246, 362, 405, 410, 412, 442, 464, 753, 768, 800, 819, 825, 900, 1085, 1152, 1236, 1250, 1411, 1490]
set_option maxRecDepth 100000 in
theorem zNL_in : zNL.map (fun q => some (zNLw q)) = zNLj.map (fun j => lw_tbl[j]?) := by decide +kernel
def zP_copy : List (Nat × Nat × Nat) := [(566, 3, 61), (691, 8, 22), (830, 9, 33), (934, 17, 150), (1072, 1, 24)]
theorem zP_copy_ok : zP_copy.all (fun q => zhas q.1 (.methodLink (zcn q.2.1) q.2.2 arraycopyName)) = true := by decide +kernel
def zP_objinit : List (Nat × Nat × Nat) := [(141, 11, 1), (149, 4, 3), (190, 8, 3), (209, 10, 3), (215, 9, 3), (249, 6, 3), (293, 3, 3), (365, 1, 3), (408, 7, 3), (445, 2, 3), (467, 0, 3), (938, 5, 3), (1590, 12, 11)]
theorem zP_objinit_ok : zP_objinit.all (fun q => zhas q.1 (.methodLink (zcn q.2.1) q.2.2 Lib.objectInit)) = true := by decide +kernel
def zP_clone : List (Nat × Nat × Nat) := [(296, 3, 15), (931, 17, 316)]
theorem zP_clone_ok : zP_clone.all (fun q => zhas q.1 (.methodLink (zcn q.2.1) q.2.2 ⟨"[I", "clone", "()Ljava/lang/Object;"⟩)) = true := by decide +kernel
def zP_max : List (Nat × Nat × Nat) := [(675, 4, 28), (915, 6, 31), (1179, 1, 40), (1318, 11, 300), (1357, 0, 28), (1436, 2, 58)]
theorem zP_max_ok : zP_max.all (fun q => zhas q.1 (.methodLink (zcn q.2.1) q.2.2 Lib.Math.max.name)) = true := by decide +kernel
def zP_min : List (Nat × Nat × Nat) := [(672, 4, 22), (909, 6, 25), (933, 17, 304), (1180, 1, 46), (1211, 7, 42), (1412, 2, 29), (1478, 0, 61)]
theorem zP_min_ok : zP_min.all (fun q => zhas q.1 (.methodLink (zcn q.2.1) q.2.2 Lib.Math.min.name)) = true := by decide +kernel
def zP_minL : List (Nat × Nat × Nat) := [(1535, 0, 114)]
theorem zP_minL_ok : zP_minL.all (fun q => zhas q.1 (.methodLink (zcn q.2.1) q.2.2 Lib.MathLoose.min_long.x)) = true := by decide +kernel
theorem zx_compact : Cond.fieldLink "java/lang/String" 38 "java/lang/String" "COMPACT_STRINGS" "Z" ∈ zTB := zhas_in (j := 709) (by decide +kernel)
theorem zx_fmt : Cond.fieldLink "java/lang/String" 1053 "jdk/internal/util/Preconditions" "SIOOBE_FORMATTER" "Ljava/util/function/BiFunction;" ∈ zTB := zhas_in (j := 725) (by decide +kernel)
theorem zx_value : Cond.fieldLink "java/lang/String" 9 "java/lang/String" "value" "[B" ∈ zTB := zhas_in (j := 2272) (by decide +kernel)
theorem zx_coder : Cond.fieldLink "java/lang/String" 15 "java/lang/String" "coder" "B" ∈ zTB := zhas_in (j := 2273) (by decide +kernel)
theorem zx_same : Cond.sameMethod "[I" "java/lang/Object" "clone" "()Ljava/lang/Object;" ∈ zTB := zhas_in (j := 297) (by decide +kernel)
theorem zx_cnat : Cond.native ⟨"java/lang/Object", "clone", "()Ljava/lang/Object;"⟩ ∈ zTB := zhas_in (j := 298) (by decide +kernel)
theorem zx_cins : Cond.instanceMethod ⟨"java/lang/Object", "clone", "()Ljava/lang/Object;"⟩ ∈ zTB := zhas_in (j := 299) (by decide +kernel)
theorem zx_csel : Cond.selects "[I" ⟨"[I", "clone", "()Ljava/lang/Object;"⟩ ⟨"java/lang/Object", "clone", "()Ljava/lang/Object;"⟩ ∈ zTB := zhas_in (j := 300) (by decide +kernel)
theorem zx_anat : Cond.native arraycopyName ∈ zTB := zhas_in (j := 568) (by decide +kernel)
theorem zx_asta : Cond.static arraycopyName ∈ zTB := zhas_in (j := 567) (by decide +kernel)
theorem zx_aini : Cond.initialized "java/lang/System" ∈ zTB := zhas_in (j := 127) (by decide +kernel)
theorem zx_oins : Cond.instanceMethod Lib.objectInit ∈ zTB := zhas_in (j := 142) (by decide +kernel)
theorem zx_int : Cond.arrayClass .int ∈ zTB := zhas_in (j := 184) (by decide +kernel)
theorem zx_long : Cond.arrayClass .long ∈ zTB := zhas_in (j := 1772) (by decide +kernel)
theorem zx_bool : Cond.arrayClass .boolean ∈ zTB := zhas_in (j := 203) (by decide +kernel)
theorem zx_mini : Cond.initialized "java/lang/Math" ∈ zTB := zhas_in (j := 126) (by decide +kernel)
theorem zx_maxs : Cond.static Lib.Math.max.name ∈ zTB := zhas_in (j := 676) (by decide +kernel)
theorem zx_mins : Cond.static Lib.Math.min.name ∈ zTB := zhas_in (j := 673) (by decide +kernel)
theorem zx_minLs : Cond.static Lib.MathLoose.min_long.x ∈ zTB := zhas_in (j := 1536) (by decide +kernel)
theorem zx_ocode : Cond.code Lib.objectInit ⟨#[0xb1]⟩ 1 none ∈ zTB := zhas_in (j := 143) (by decide +kernel)
theorem zx_maxc : Cond.code Lib.Math.max.name Lib.Math.max.code 2 (some .int) ∈ zTB := zhas_in (j := 677) (by decide +kernel)
theorem zx_minc : Cond.code Lib.Math.min.name Lib.Math.min.code 2 (some .int) ∈ zTB := zhas_in (j := 674) (by decide +kernel)
theorem zx_minLc : Cond.code Lib.MathLoose.min_long.x Lib.MathLoose.min_long.code 4 (some .long) ∈ zTB := zhas_in (j := 1537) (by decide +kernel)
