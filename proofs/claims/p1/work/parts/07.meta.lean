/-! THE METHODS' OWN WORDS -/
def a_cw (y : Nat) : Cond := match aMeL[y]? with
  | some m => .code m.1 m.2.1 m.2.2.1 m.2.2.2.1
  | none => .tt
def a_mok (y : Nat) : Bool := match aMeL[y]? with
  | some m => plainName m.1.cls && decide (m.1.cls ≠ "java/lang/invoke/MethodHandle" ∧ m.1.cls ≠ "java/lang/invoke/VarHandle") && decide ((parseMethodDescriptor m.1.desc).map (fun d => d.parameters.length) = some (if m.2.2.2.2.1 = true then m.2.2.2.2.2.1 else m.2.2.2.2.2.1 - 1)) && decide (m.2.2.1 ≤ 40) && (m.2.2.2.2.1 || (decide (1 ≤ m.2.2.2.2.2.1) && decide (m.2.2.2.2.2.2.1 < 12) && decide ((a_cn m.2.2.2.2.2.2.1).1 = m.1.cls)))
  | none => false
set_option maxRecDepth 100000 in
theorem a_mokA : ∀ y, y < 208 → a_mok y = true := by decide +kernel
def a_plain (y : Nat) : Bool := decide (1 ≤ y ∧ y < 208) && (match aMeL[y]? with
  | some m => !m.2.2.2.2.2.2.2
  | none => false)
set_option maxRecDepth 100000 in
theorem a_cws0 : [1, 2, 3, 4, 5, 6, 7, 8, 9, 10, 11, 12, 13, 14, 15, 16, 17, 18, 19, 21, 22, 23, 24, 25].map a_cw = [129, 137, 144, 149, 201, 204, 285, 303, 349, 387, 419, 425, 445, 514, 561, 565, 569, 573, 577, 585, 589, 659, 663, 667].filterMap (fun i => lw_tbl[i]?) := rfl
set_option maxRecDepth 100000 in
theorem a_cws1 : [26, 27, 28, 29, 30, 31, 32, 33, 34, 35, 36, 37, 38, 39, 40, 41, 42, 43, 44, 45, 46, 47, 48, 49].map a_cw = [671, 674, 678, 682, 686, 689, 693, 697, 700, 704, 708, 712, 716, 720, 723, 727, 734, 737, 740, 743, 747, 751, 756, 760].filterMap (fun i => lw_tbl[i]?) := rfl
set_option maxRecDepth 100000 in
theorem a_cws2 : [50, 51, 52, 53, 54, 55, 56, 57, 58, 59, 60, 61, 62, 63, 64, 65, 66, 67, 68, 69, 70, 71, 72, 73].map a_cw = [764, 768, 772, 781, 785, 789, 793, 797, 801, 805, 809, 814, 818, 822, 826, 830, 834, 838, 843, 847, 851, 857, 861, 871].filterMap (fun i => lw_tbl[i]?) := rfl
set_option maxRecDepth 100000 in
theorem a_cws3 : [74, 75, 76, 77, 78, 79, 80, 81, 82, 83, 84, 85, 86, 87, 88, 89, 90, 91, 92, 93, 94, 95, 96, 97].map a_cw = [875, 879, 884, 888, 892, 896, 900, 905, 910, 914, 918, 923, 930, 934, 938, 942, 946, 950, 955, 959, 963, 967, 970, 974].filterMap (fun i => lw_tbl[i]?) := rfl
set_option maxRecDepth 100000 in
theorem a_cws4 : [98, 99, 100, 101, 102, 103, 104, 105, 106, 107, 108, 109, 110, 111, 112, 113, 114, 115, 116, 117, 118, 120, 121, 122].map a_cw = [978, 983, 987, 991, 995, 999, 1002, 1007, 1011, 1016, 1020, 1024, 1028, 1033, 1037, 1042, 1046, 1050, 1054, 1058, 1062, 1069, 1073, 1076].filterMap (fun i => lw_tbl[i]?) := rfl
set_option maxRecDepth 100000 in
theorem a_cws5 : [123, 124, 126, 127, 128, 129, 131, 132, 134, 135, 136, 137, 138, 139, 140, 141, 142, 143, 144, 145, 146, 147, 148, 149].map a_cw = [1085, 1090, 1099, 1103, 1107, 1111, 1120, 1124, 1147, 1151, 1157, 1164, 1168, 1172, 1177, 1401, 1405, 1409, 1413, 1417, 1421, 1425, 1429, 1433].filterMap (fun i => lw_tbl[i]?) := rfl
set_option maxRecDepth 100000 in
theorem a_cws6 : [150, 151, 152, 153, 154, 155, 156, 157, 158, 159, 160, 161, 162, 163, 164, 165, 166, 167, 168, 169, 170, 171, 172, 173].map a_cw = [1437, 1441, 1445, 1448, 1452, 1455, 1460, 1465, 1468, 1471, 1474, 1478, 1482, 1494, 1498, 1502, 1506, 1510, 1514, 1518, 1522, 1526, 1531, 1535].filterMap (fun i => lw_tbl[i]?) := rfl
set_option maxRecDepth 100000 in
theorem a_cws7 : [174, 175, 176, 177, 178, 179, 180, 181, 182, 183, 184, 185, 186, 187, 188, 189, 190, 191, 192, 193, 194, 195, 196, 197].map a_cw = [1539, 1542, 1546, 1550, 1553, 1557, 1560, 1564, 1567, 1571, 1575, 1579, 1583, 1587, 1591, 1595, 1599, 1603, 1607, 1611, 1615, 1619, 1623, 1627].filterMap (fun i => lw_tbl[i]?) := rfl
set_option maxRecDepth 100000 in
theorem a_cws8 : [198, 199, 200, 201, 202, 203, 204, 205, 206, 207].map a_cw = [1631, 1635, 1639, 1643, 1647, 1651, 1655, 1659, 1663, 1667].filterMap (fun i => lw_tbl[i]?) := rfl
theorem a_cw_mem {l ix : List Nat} (h : l.map a_cw = ix.filterMap (fun i => lw_tbl[i]?)) : ∀ y ∈ l, a_cw y ∈ lw_tbl := by
  intro y hy
  have h1 : a_cw y ∈ l.map a_cw := List.mem_map.mpr ⟨y, hy, rfl⟩
  rw [h] at h1
  obtain ⟨i, -, hi⟩ := List.mem_filterMap.mp h1
  exact List.mem_of_getElem? hi
def a_plains : List Nat := [1, 2, 3, 4, 5, 6, 7, 8, 9, 10, 11, 12, 13, 14, 15, 16, 17, 18, 19, 21, 22, 23, 24, 25] ++ [26, 27, 28, 29, 30, 31, 32, 33, 34, 35, 36, 37, 38, 39, 40, 41, 42, 43, 44, 45, 46, 47, 48, 49] ++ [50, 51, 52, 53, 54, 55, 56, 57, 58, 59, 60, 61, 62, 63, 64, 65, 66, 67, 68, 69, 70, 71, 72, 73] ++ [74, 75, 76, 77, 78, 79, 80, 81, 82, 83, 84, 85, 86, 87, 88, 89, 90, 91, 92, 93, 94, 95, 96, 97] ++ [98, 99, 100, 101, 102, 103, 104, 105, 106, 107, 108, 109, 110, 111, 112, 113, 114, 115, 116, 117, 118, 120, 121, 122] ++ [123, 124, 126, 127, 128, 129, 131, 132, 134, 135, 136, 137, 138, 139, 140, 141, 142, 143, 144, 145, 146, 147, 148, 149] ++ [150, 151, 152, 153, 154, 155, 156, 157, 158, 159, 160, 161, 162, 163, 164, 165, 166, 167, 168, 169, 170, 171, 172, 173] ++ [174, 175, 176, 177, 178, 179, 180, 181, 182, 183, 184, 185, 186, 187, 188, 189, 190, 191, 192, 193, 194, 195, 196, 197] ++ [198, 199, 200, 201, 202, 203, 204, 205, 206, 207]
set_option maxRecDepth 100000 in
theorem a_plains_all : ∀ y, y < 208 → a_plain y = true → y ∈ a_plains := by decide +kernel
theorem a_cw_plain : ∀ y ∈ a_plains, a_cw y ∈ lw_tbl := by
  intro y hy
  unfold a_plains at hy
  simp only [List.mem_append] at hy
  rcases hy with (((((((h | h) | h) | h) | h) | h) | h) | h) | h
  · exact a_cw_mem a_cws0 y h
  · exact a_cw_mem a_cws1 y h
  · exact a_cw_mem a_cws2 y h
  · exact a_cw_mem a_cws3 y h
  · exact a_cw_mem a_cws4 y h
  · exact a_cw_mem a_cws5 y h
  · exact a_cw_mem a_cws6 y h
  · exact a_cw_mem a_cws7 y h
  · exact a_cw_mem a_cws8 y h
theorem a_code_in {y : Nat} (h : a_plain y = true) : a_cw y ∈ lw_good := by
  have hy : y < 208 := by
    unfold a_plain at h
    rw [Bool.and_eq_true] at h
    have := h.1
    simp at this
    exact this.2
  refine lw_good_in (a_cw_plain y (a_plains_all y hy h)) ?_
  unfold a_cw
  split <;> rfl
