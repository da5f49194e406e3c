/-! THE METHODS' OWN WORDS -/
def a_cw (y : Nat) : Cond := match aMeL[y]? with
  | some m => .code m.1 m.2.1 m.2.2.1 m.2.2.2.1
  | none => .tt
def a_mok (y : Nat) : Bool := match aMeL[y]? with
  | some m => plainName m.1.cls && decide (m.1.cls ≠ "java/lang/invoke/MethodHandle" ∧ m.1.cls ≠ "java/lang/invoke/VarHandle") && decide ((parseMethodDescriptor m.1.desc).map (fun d => d.parameters.length) = some (if m.2.2.2.2.1 = true then m.2.2.2.2.2.1 else m.2.2.2.2.2.1 - 1)) && decide (m.2.2.1 ≤ 40) && (m.2.2.2.2.1 || (decide (1 ≤ m.2.2.2.2.2.1) && decide (m.2.2.2.2.2.2.1 < 12) && decide ((a_cn m.2.2.2.2.2.2.1).1 = m.1.cls)))
  | none => false
set_option maxRecDepth 100000 in
theorem a_mokA : ∀ y, y < 208 → a_mok y = true := by decide +kernel
def a_plain (y : Nat) : Bool := decide (1 ≤ y ∧ y < 208) && (match aMeL[y]? with
  | some m => !m.2.2.2.2.2.2.2
  | none => false)
set_option maxRecDepth 100000 in
theorem a_cws0 : [1, 2, 3, 4, 5, 6, 7, 8, 9, 10, 11, 12, 13, 14, 15, 16, 17, 18, 19, 21, 22, 23, 24, 25].map a_cw = [127, 135, 142, 147, 199, 202, 283, 301, 347, 385, 417, 423, 443, 512, 559, 563, 567, 571, 575, 583, 587, 657, 661, 665].filterMap (fun i => lw_tbl[i]?) := rfl
set_option maxRecDepth 100000 in
theorem a_cws1 : [26, 27, 28, 29, 30, 31, 32, 33, 34, 35, 36, 37, 38, 39, 40, 41, 42, 43, 44, 45, 46, 47, 48, 49].map a_cw = [669, 672, 676, 680, 665, 683, 687, 691, 694, 698, 702, 706, 784, 710, 713, 718, 725, 728, 731, 734, 738, 742, 747, 821].filterMap (fun i => lw_tbl[i]?) := rfl
set_option maxRecDepth 100000 in
theorem a_cws2 : [50, 51, 52, 53, 54, 55, 56, 57, 58, 59, 60, 61, 62, 63, 64, 65, 66, 67, 68, 69, 70, 71, 72, 73].map a_cw = [825, 829, 833, 842, 751, 755, 759, 763, 767, 771, 775, 780, 872, 788, 817, 792, 796, 800, 805, 809, 813, 850, 854, 864].filterMap (fun i => lw_tbl[i]?) := rfl
set_option maxRecDepth 100000 in
theorem a_cws3 : [74, 75, 76, 77, 78, 79, 80, 81, 82, 83, 84, 85, 86, 87, 88, 89, 90, 91, 92, 93, 94, 95, 96, 97].map a_cw = [898, 868, 876, 880, 886, 890, 894, 902, 907, 911, 915, 920, 927, 931, 935, 939, 943, 846, 948, 952, 956, 960, 963, 967].filterMap (fun i => lw_tbl[i]?) := rfl
set_option maxRecDepth 100000 in
theorem a_cws4 : [98, 99, 100, 101, 102, 103, 104, 105, 106, 107, 108, 109, 110, 111, 112, 113, 114, 115, 116, 117, 118, 120, 121, 122].map a_cw = [971, 976, 980, 984, 988, 992, 995, 1000, 1004, 1009, 1013, 1017, 1021, 1026, 1030, 1035, 1039, 1043, 1047, 1051, 1055, 1062, 1066, 1069].filterMap (fun i => lw_tbl[i]?) := rfl
set_option maxRecDepth 100000 in
theorem a_cws5 : [123, 124, 126, 127, 128, 129, 131, 132, 134, 135, 136, 137, 138, 139, 140, 141, 142, 143, 144, 145, 146, 147, 148, 149].map a_cw = [1077, 1082, 1091, 1095, 1099, 1103, 1112, 1116, 1139, 1143, 1149, 1156, 1160, 1164, 1169, 1393, 1397, 1401, 1405, 1409, 1413, 1417, 1421, 1425].filterMap (fun i => lw_tbl[i]?) := rfl
set_option maxRecDepth 100000 in
theorem a_cws6 : [150, 151, 152, 153, 154, 155, 156, 157, 158, 159, 160, 161, 162, 163, 164, 165, 166, 167, 168, 169, 170, 171, 172, 173].map a_cw = [1429, 1433, 1437, 1440, 1444, 1447, 1452, 1457, 1460, 1463, 1466, 1470, 1474, 1486, 1490, 1494, 1498, 1502, 1506, 1510, 1514, 1518, 1523, 1527].filterMap (fun i => lw_tbl[i]?) := rfl
set_option maxRecDepth 100000 in
theorem a_cws7 : [174, 175, 176, 177, 178, 179, 180, 181, 182, 183, 184, 185, 186, 187, 188, 189, 190, 191, 192, 193, 194, 195, 196, 197].map a_cw = [1531, 1534, 1538, 1542, 1545, 1549, 1552, 1556, 1559, 1563, 1567, 1571, 1575, 1579, 1583, 1587, 1591, 1595, 1599, 1603, 1607, 1611, 1615, 1619].filterMap (fun i => lw_tbl[i]?) := rfl
set_option maxRecDepth 100000 in
theorem a_cws8 : [198, 199, 200, 201, 202, 203, 204, 205, 206, 207].map a_cw = [1623, 1627, 1631, 1635, 1639, 1643, 1647, 1651, 1655, 1659].filterMap (fun i => lw_tbl[i]?) := rfl
theorem a_cw_mem {l ix : List Nat} (h : l.map a_cw = ix.filterMap (fun i => lw_tbl[i]?)) : ∀ y ∈ l, a_cw y ∈ lw_tbl := by
  intro y hy
  have h1 : a_cw y ∈ l.map a_cw := List.mem_map.mpr ⟨y, hy, rfl⟩
  rw [h] at h1
  obtain ⟨i, -, hi⟩ := List.mem_filterMap.mp h1
  exact List.mem_of_getElem? hi
def a_plains : List Nat := [1, 2, 3, 4, 5, 6, 7, 8, 9, 10, 11, 12, 13, 14, 15, 16, 17, 18, 19, 21, 22, 23, 24, 25] ++ [26, 27, 28, 29, 30, 31, 32, 33, 34, 35, 36, 37, 38, 39, 40, 41, 42, 43, 44, 45, 46, 47, 48, 49] ++ [50, 51, 52, 53, 54, 55, 56, 57, 58, 59, 60, 61, 62, 63, 64, 65, 66, 67, 68, 69, 70, 71, 72, 73] ++ [74, 75, 76, 77, 78, 79, 80, 81, 82, 83, 84, 85, 86, 87, 88, 89, 90, 91, 92, 93, 94, 95, 96, 97] ++ [98, 99, 100, 101, 102, 103, 104, 105, 106, 107, 108, 109, 110, 111, 112, 113, 114, 115, 116, 117, 118, 120, 121, 122] ++ [123, 124, 126, 127, 128, 129, 131, 132, 134, 135, 136, 137, 138, 139, 140, 141, 142, 143, 144, 145, 146, 147, 148, 149] ++ [150, 151, 152, 153, 154, 155, 156, 157, 158, 159, 160, 161, 162, 163, 164, 165, 166, 167, 168, 169, 170, 171, 172, 173] ++ [174, 175, 176, 177, 178, 179, 180, 181, 182, 183, 184, 185, 186, 187, 188, 189, 190, 191, 192, 193, 194, 195, 196, 197] ++ [198, 199, 200, 201, 202, 203, 204, 205, 206, 207]
set_option maxRecDepth 100000 in
theorem a_plains_all : ∀ y, y < 208 → a_plain y = true → y ∈ a_plains := by decide +kernel
theorem a_cw_plain : ∀ y ∈ a_plains, a_cw y ∈ lw_tbl := by
  intro y hy
  unfold a_plains at hy
  simp only [List.mem_append] at hy
  rcases hy with (((((((h | h) | h) | h) | h) | h) | h) | h) | h
  · exact a_cw_mem a_cws0 y h
  · exact a_cw_mem a_cws1 y h
  · exact a_cw_mem a_cws2 y h
  · exact a_cw_mem a_cws3 y h
  · exact a_cw_mem a_cws4 y h
  · exact a_cw_mem a_cws5 y h
  · exact a_cw_mem a_cws6 y h
  · exact a_cw_mem a_cws7 y h
  · exact a_cw_mem a_cws8 y h
theorem a_code_in {y : Nat} (h : a_plain y = true) : a_cw y ∈ lw_good := by
  have hy : y < 208 := by
    unfold a_plain at h
    rw [Bool.and_eq_true] at h
    have := h.1
    simp at this
    exact this.2
  refine lw_good_in (a_cw_plain y (a_plains_all y hy h)) ?_
  unfold a_cw
  split <;> rfl
