/-! WORDS OF CALLS -/
def tblQ {α : Type} (f : α → Cond) (q : α × Nat) : Bool := decide (lw_tbl[q.2]? = some (f q.1)) && goodWord (f q.1)
theorem zip_tbl {α : Type} {f : α → Cond} {l : List α} {ps : List Nat} (hl9 : Nat.beq l.length ps.length = true) (h : (l.zip ps).all (tblQ f) = true) {q : α} (hq : q ∈ l) : f q ∈ lw_g := by
  have hl := Nat.eq_of_beq_eq_true hl9
  obtain ⟨i, hi⟩ := List.getElem?_of_mem hq
  have hi2 : i < l.length := (List.getElem?_eq_some_iff.mp hi).1
  obtain ⟨n, hn⟩ : ∃ n, ps[i]? = some n := ⟨ps[i], List.getElem?_eq_getElem (by omega)⟩
  have hz : (l.zip ps)[i]? = some (q, n) := by rw [List.getElem?_zip_eq_some]; exact ⟨hi, hn⟩
  have h2 := List.all_eq_true.mp h _ (List.mem_of_getElem? hz)
  unfold tblQ at h2
  rw [Bool.and_eq_true] at h2
  exact mem_g (List.mem_of_getElem? (of_decide_eq_true h2.1)) h2.2
def beqL : List UInt8 → List UInt8 → Bool
  | [], [] => true
  | a :: l, b :: k => Nat.beq a.toNat b.toNat && beqL l k
  | _, _ => false
theorem beqL_eq : ∀ {l k : List UInt8}, beqL l k = true → l = k
  | [], [], _ => rfl
  | a :: l, b :: k, h => by
    unfold beqL at h
    rw [Bool.and_eq_true] at h
    rw [beqL_eq h.2, UInt8.toNat_inj.mp (Nat.eq_of_beq_eq_true h.1)]
  | [], _ :: _, h => by cases h
  | _ :: _, [], h => by cases h
def beqB (a b : ByteArray) : Bool := beqL a.data.toList b.data.toList
theorem beqB_eq {a b : ByteArray} (h : beqB a b = true) : a = b := ByteArray.ext (Array.ext' (beqL_eq h))
def cdQ (q : Nat × Nat) : Bool := match tables_1[q.2]? with
  | some (.code y b n r) => decide (y = mtY q.1) && beqB b (mtB q.1) && Nat.beq n (PP q.1).2 && decide (r = mtR q.1)
  | _ => false
theorem cdQ_ok {q : Nat × Nat} (h : cdQ q = true) : Cond.code (mtY q.1) (mtB q.1) (PP q.1).2 (mtR q.1) ∈ lw_g := by
  unfold cdQ at h
  split at h
  · next y b n r e =>
    simp only [Bool.and_eq_true, decide_eq_true_eq] at h
    obtain ⟨⟨⟨h1, h2⟩, h3⟩, h4⟩ := h
    refine mem_g (List.mem_append_right _ (List.mem_of_getElem? (i := q.2) ?_)) rfl
    rw [e, h1, beqB_eq h2, Nat.eq_of_beq_eq_true h3, h4]
  · cases h
def CDl_p : List Nat := [984, 25, 480, 484, 488, 492, 519, 542, 554, 523, 558, 575, 591, 730, 793, 805, 830, 858, 863, 875, 894, 904, 908, 912, 916, 924, 930, 936, 941, 945, 953, 957, 973, 949, 961, 969, 977, 991, 999, 1011, 1016, 1029, 1043, 1047, 1051, 1097, 1109, 1127, 1055, 1063, 1059, 1141, 1157, 1161, 1188, 1145, 1152, 1165, 1192, 1228, 1236, 1240, 1244, 1298, 1302, 1306, 1320, 726, 546, 515, 507, 1117, 1120, 920, 503, 850, 1333, 1338, 1481, 1485, 1489, 1500, 1560, 1640, 1933, 1496, 1511, 1493, 1508, 1504, 1515, 1520, 1736, 1524, 1528, 1548, 1551, 1554, 1544, 1622, 1569, 1575, 1540, 1618, 1602, 1606, 1590, 1598, 1594, 1532, 1636, 1586, 1579, 1614, 1610, 1629, 1632, 1583, 1626, 1564, 1536, 1656, 1660, 1652, 1648, 1644, 1696, 1782, 1884, 1676, 1684, 1708, 1712, 1704, 1672, 1668, 1680, 1700, 1688, 1664, 1692, 1716, 1728, 1724, 1720, 1748, 1744, 1740, 1732, 1756, 1752, 1765, 1760, 1769, 1773, 1778, 1786, 1790, 1997, 1811, 1819, 1799, 1794, 1803, 1815, 1807, 1823, 1835, 1831, 1827, 1839, 1847, 1843, 1851, 1859, 1855, 1863, 1871, 1867, 1881, 1876, 1888, 1896, 1892, 1904, 1913, 1921, 1917, 1909, 1900, 1925, 1929, 1941, 1937, 1949, 1955, 1945, 1959, 1977, 1972, 1969, 1963, 1981, 2001, 1994, 1990, 1985, 2005, 2009, 2013, 2046, 2034, 2030, 2038, 2042, 2026, 2051, 2055, 2022, 2017, 2059, 2063, 2071, 2067, 2075, 156, 599, 718, 834, 676, 688, 680, 706, 844, 839, 813, 809, 817, 854, 822, 826, 965, 867, 871, 879, 887, 883, 898, 981, 995, 1007, 1003, 1020, 1025, 1033, 1038, 389, 1224, 1232, 1196, 1202, 1218, 1209, 1214, 410, 1169, 1182, 1174, 1178, 330, 1248, 1253, 1257, 1261, 1268, 1274, 1279, 1283, 1287, 1293, 269, 714, 595, 642, 646, 672, 693, 697, 308, 1310, 1324, 1314, 1328, 53, 587, 797, 801, 579, 583, 710, 603, 638, 776, 780, 664, 650, 684, 668, 659, 701, 610, 620, 631, 624, 106, 613, 616, 627, 634, 219, 722, 751, 788, 287, 784, 734, 741, 745, 768, 757, 772, 762, 33, 496, 500, 527, 531, 562, 566, 511, 550, 535, 570, 538, 367, 1067, 1072, 1076, 1080, 1089, 1085, 1093, 1113, 1101, 1105, 1131, 1135]
def cdA (id : Nat) : Bool := cdQ (id, (nth CDl_p id).getD 0)
set_option maxRecDepth 100000 in
theorem CD_0 : (List.range' 0 60).all cdA = true := by decide +kernel
set_option maxRecDepth 100000 in
theorem CD_60 : (List.range' 60 60).all cdA = true := by decide +kernel
set_option maxRecDepth 100000 in
theorem CD_120 : (List.range' 120 60).all cdA = true := by decide +kernel
set_option maxRecDepth 100000 in
theorem CD_180 : (List.range' 180 60).all cdA = true := by decide +kernel
set_option maxRecDepth 100000 in
theorem CD_240 : (List.range' 240 60).all cdA = true := by decide +kernel
set_option maxRecDepth 100000 in
theorem CD_300 : (List.range' 300 57).all cdA = true := by decide +kernel
def pnA (id : Nat) : Bool := decide ((parseMethodDescriptor (mtY id).desc).map (fun d => d.parameters.length) = some (mtN id))
set_option maxRecDepth 100000 in
theorem PN_0 : (List.range' 0 60).all pnA = true := by decide +kernel
set_option maxRecDepth 100000 in
theorem PN_60 : (List.range' 60 60).all pnA = true := by decide +kernel
set_option maxRecDepth 100000 in
theorem PN_120 : (List.range' 120 60).all pnA = true := by decide +kernel
set_option maxRecDepth 100000 in
theorem PN_180 : (List.range' 180 60).all pnA = true := by decide +kernel
set_option maxRecDepth 100000 in
theorem PN_240 : (List.range' 240 60).all pnA = true := by decide +kernel
set_option maxRecDepth 100000 in
theorem PN_300 : (List.range' 300 57).all pnA = true := by decide +kernel
theorem PN_all {id : Nat} (h : id < 357) : (parseMethodDescriptor (mtY id).desc).map (fun d => d.parameters.length) = some (mtN id) := by
  by_cases h0 : id < 60
  · exact of_decide_eq_true (List.all_eq_true.mp PN_0 id (List.mem_range'_1.mpr ⟨by omega, by omega⟩))
  by_cases h60 : id < 120
  · exact of_decide_eq_true (List.all_eq_true.mp PN_60 id (List.mem_range'_1.mpr ⟨by omega, by omega⟩))
  by_cases h120 : id < 180
  · exact of_decide_eq_true (List.all_eq_true.mp PN_120 id (List.mem_range'_1.mpr ⟨by omega, by omega⟩))
  by_cases h180 : id < 240
  · exact of_decide_eq_true (List.all_eq_true.mp PN_180 id (List.mem_range'_1.mpr ⟨by omega, by omega⟩))
  by_cases h240 : id < 300
  · exact of_decide_eq_true (List.all_eq_true.mp PN_240 id (List.mem_range'_1.mpr ⟨by omega, by omega⟩))
  by_cases h300 : id < 357
  · exact of_decide_eq_true (List.all_eq_true.mp PN_300 id (List.mem_range'_1.mpr ⟨by omega, by omega⟩))
  exact absurd h (by omega)
theorem CD_all {id : Nat} (h : id < 357) : Cond.code (mtY id) (mtB id) (PP id).2 (mtR id) ∈ lw_g := by
  by_cases h0 : id < 60
  · exact cdQ_ok (q := (id, _)) (List.all_eq_true.mp CD_0 id (List.mem_range'_1.mpr ⟨by omega, by omega⟩))
  by_cases h60 : id < 120
  · exact cdQ_ok (q := (id, _)) (List.all_eq_true.mp CD_60 id (List.mem_range'_1.mpr ⟨by omega, by omega⟩))
  by_cases h120 : id < 180
  · exact cdQ_ok (q := (id, _)) (List.all_eq_true.mp CD_120 id (List.mem_range'_1.mpr ⟨by omega, by omega⟩))
  by_cases h180 : id < 240
  · exact cdQ_ok (q := (id, _)) (List.all_eq_true.mp CD_180 id (List.mem_range'_1.mpr ⟨by omega, by omega⟩))
  by_cases h240 : id < 300
  · exact cdQ_ok (q := (id, _)) (List.all_eq_true.mp CD_240 id (List.mem_range'_1.mpr ⟨by omega, by omega⟩))
  by_cases h300 : id < 357
  · exact cdQ_ok (q := (id, _)) (List.all_eq_true.mp CD_300 id (List.mem_range'_1.mpr ⟨by omega, by omega⟩))
  exact absurd h (by omega)
def IMl : List Nat := [1, 2, 3, 4, 5, 6, 7, 8, 9, 10, 11, 12, 13, 14, 15, 16, 17, 18, 19, 20, 21, 22, 23, 24, 25, 26, 27, 28, 29, 30, 31, 32, 33, 34, 35, 36, 37, 38, 39, 40, 41, 42, 43, 44, 45, 46, 47, 48, 49, 50, 51, 52, 53, 54, 55, 56, 57, 58, 59, 60, 61, 62, 63, 64, 65, 66, 67, 68, 69, 70, 71, 73, 76, 77, 78, 79, 80, 81, 82, 83, 84, 87, 88, 89, 90, 91, 93, 94, 95, 98, 99, 100, 101, 102, 103, 104, 105, 106, 107, 108, 109, 110, 112, 113, 114, 117, 118, 119, 120, 121, 122, 123, 124, 125, 126, 127, 129, 130, 131, 133, 134, 135, 136, 137, 138, 139, 140, 141, 142, 143, 144, 145, 146, 147, 148, 149, 150, 151, 152, 153, 154, 155, 156, 157, 159, 160, 161, 162, 163, 164, 165, 166, 167, 168, 169, 170, 171, 172, 173, 174, 175, 176, 177, 178, 179, 180, 181, 182, 183, 184, 185, 186, 187, 188, 189, 190, 191, 192, 193, 194, 195, 196, 197, 198, 200, 201, 202, 203, 204, 205, 206, 207, 208, 209, 210, 211, 212, 213, 214, 215, 216, 217, 218, 219, 220, 221, 222, 223, 224, 225, 226, 227, 228, 229, 230, 231, 232, 233, 234, 235, 236, 237, 238, 239, 240, 241, 242, 243, 244, 245, 246, 247, 248, 249, 250, 251, 252, 253, 254, 255, 256, 257, 258, 259, 260, 261, 262, 263, 264, 265, 266, 267, 268, 269, 270, 271, 272, 273, 274, 275, 276, 277, 278, 279, 280, 281, 282, 283, 284, 285, 286, 287, 288, 289, 290, 291, 292, 293, 294, 295, 296, 297, 298, 299, 300, 301, 302, 303, 304, 305, 306, 307, 308, 309, 310, 311, 312, 313, 319, 320, 321, 322, 323, 324, 325, 326, 327, 328, 329, 330, 331, 332, 333, 334, 335, 336, 337, 338, 339, 340, 341, 342, 344, 345, 346, 347, 348, 349, 350, 351, 352, 353, 354, 355, 356]
def IMl_p : List Nat := [24, 478, 482, 486, 490, 517, 540, 552, 522, 557, 573, 589, 728, 791, 803, 828, 856, 861, 873, 892, 902, 906, 910, 914, 922, 928, 934, 939, 943, 951, 955, 971, 948, 960, 968, 975, 989, 997, 1009, 1014, 1027, 1041, 1045, 1049, 1095, 1107, 1125, 1054, 1062, 1058, 1139, 1155, 1159, 1186, 1144, 1151, 1164, 1190, 1226, 1234, 1238, 1242, 1296, 1300, 1304, 1318, 725, 545, 514, 506, 1116, 919, 1332, 1337, 1479, 1483, 1487, 1499, 1559, 1639, 1932, 1491, 1507, 1502, 1513, 1518, 1522, 1527, 1547, 1543, 1621, 1568, 1574, 1539, 1617, 1601, 1605, 1589, 1597, 1593, 1530, 1635, 1578, 1613, 1609, 1582, 1625, 1563, 1534, 1655, 1659, 1651, 1647, 1642, 1695, 1781, 1675, 1683, 1707, 1703, 1671, 1667, 1679, 1699, 1687, 1662, 1690, 1714, 1727, 1723, 1718, 1747, 1743, 1739, 1730, 1755, 1750, 1764, 1758, 1767, 1771, 1776, 1784, 1788, 1810, 1818, 1798, 1792, 1801, 1814, 1805, 1821, 1834, 1830, 1825, 1837, 1846, 1841, 1849, 1858, 1853, 1861, 1870, 1865, 1880, 1874, 1886, 1895, 1890, 1903, 1912, 1920, 1916, 1908, 1898, 1923, 1927, 1940, 1935, 1948, 1954, 1943, 1957, 1976, 1968, 1961, 1979, 2000, 1993, 1989, 1983, 2003, 2007, 2011, 2045, 2033, 2029, 2037, 2041, 2025, 2050, 2054, 2021, 2015, 2057, 2061, 2070, 2065, 2073, 155, 597, 716, 832, 674, 686, 678, 704, 842, 837, 811, 807, 815, 852, 820, 824, 963, 865, 869, 877, 885, 881, 896, 979, 993, 1005, 1001, 1018, 1024, 1031, 1037, 388, 1222, 1230, 1194, 1201, 1217, 1208, 1213, 409, 1167, 1180, 1172, 1176, 329, 1246, 1252, 1256, 1260, 1267, 1273, 1278, 1282, 1286, 1292, 268, 712, 593, 641, 645, 671, 692, 696, 307, 1308, 1322, 1312, 1326, 52, 585, 795, 799, 577, 581, 708, 601, 636, 774, 778, 662, 648, 682, 666, 657, 699, 608, 619, 630, 623, 218, 720, 749, 786, 286, 782, 732, 740, 744, 767, 756, 771, 761, 32, 494, 498, 525, 529, 560, 564, 509, 548, 533, 568, 366, 1065, 1070, 1074, 1079, 1088, 1084, 1091, 1111, 1099, 1104, 1129, 1134]
def IMl_f (id : Nat) : Cond := Cond.instanceMethod (mtY id)
set_option maxRecDepth 100000 in
theorem IMl_d : (IMl.zip IMl_p).all (tabQ IMl_f) = true := by decide +kernel
set_option maxRecDepth 100000 in
theorem IMl_l : Nat.beq IMl.length IMl_p.length = true := by decide +kernel
theorem IMl_ok {id : Nat} (h : id ∈ IMl) : IMl_f id ∈ lw_g := zip_tab IMl_l IMl_d h
def SMl : List Nat := [0, 72, 74, 75, 85, 86, 92, 96, 97, 111, 115, 116, 128, 132, 158, 199, 314, 315, 316, 317, 318, 343]
def SMl_p : List Nat := [983, 1119, 502, 849, 1495, 1510, 1735, 1550, 1553, 1585, 1628, 1631, 1883, 1711, 1996, 1971, 105, 612, 615, 626, 633, 537]
def SMl_f (id : Nat) : Cond := Cond.static (mtY id)
set_option maxRecDepth 100000 in
theorem SMl_d : (SMl.zip SMl_p).all (tabQ SMl_f) = true := by decide +kernel
set_option maxRecDepth 100000 in
theorem SMl_l : Nat.beq SMl.length SMl_p.length = true := by decide +kernel
theorem SMl_ok {id : Nat} (h : id ∈ SMl) : SMl_f id ∈ lw_g := zip_tab SMl_l SMl_d h
def SEl : List Nat := [2, 3, 4, 5, 6, 7, 8, 9, 10, 11, 12, 13, 14, 15, 16, 17, 18, 19, 20, 21, 22, 23, 24, 25, 26, 27, 28, 29, 30, 31, 32, 33, 34, 35, 36, 37, 38, 39, 40, 41, 42, 43, 44, 45, 46, 47, 48, 49, 50, 51, 52, 53, 54, 55, 56, 57, 58, 59, 60, 61, 62, 63, 64, 65, 66, 67, 68, 69, 70, 71, 73, 77, 78, 79, 80, 81, 82, 83, 84, 87, 88, 89, 90, 91, 93, 94, 95, 98, 99, 100, 101, 102, 103, 104, 105, 106, 107, 108, 109, 110, 112, 113, 114, 117, 118, 119, 120, 121, 122, 123, 124, 125, 126, 127, 129, 130, 131, 133, 134, 135, 136, 137, 138, 139, 140, 141, 142, 143, 144, 145, 146, 147, 148, 149, 150, 151, 152, 153, 154, 155, 156, 157, 159, 160, 161, 162, 163, 164, 165, 166, 167, 168, 169, 170, 171, 172, 173, 174, 175, 176, 177, 178, 179, 180, 181, 182, 183, 184, 185, 186, 187, 188, 189, 190, 191, 192, 193, 194, 195, 196, 197, 198, 200, 201, 202, 203, 204, 205, 206, 207, 208, 209, 210, 211, 212, 213, 214, 215, 216, 217, 218, 219, 220, 221, 222, 223, 224, 226, 227, 228, 229, 230, 231, 232, 233, 234, 235, 236, 237, 238, 239, 240, 241, 242, 243, 244, 245, 246, 247, 248, 249, 250, 251, 252, 253, 254, 255, 257, 258, 259, 260, 261, 262, 263, 265, 266, 267, 268, 270, 271, 272, 273, 274, 275, 276, 277, 278, 279, 281, 282, 283, 284, 285, 286, 287, 289, 290, 291, 292, 294, 295, 296, 297, 298, 299, 300, 301, 302, 303, 304, 305, 306, 307, 308, 309, 310, 311, 312, 313, 320, 321, 322, 324, 325, 326, 327, 328, 329, 330, 331, 333, 334, 335, 336, 337, 338, 339, 340, 341, 342, 345, 346, 347, 348, 349, 350, 351, 352, 353, 354, 355, 356]
def SEl_p : List Nat := [612, 616, 620, 624, 651, 674, 686, 2, 4, 707, 723, 862, 925, 937, 962, 990, 995, 1007, 1026, 1036, 1040, 1044, 1048, 1056, 1062, 1068, 1073, 1077, 1085, 1089, 1105, 21, 22, 23, 1109, 1123, 1131, 1143, 1148, 1161, 1175, 1179, 1183, 1229, 1241, 1259, 26, 28, 27, 1273, 1289, 1293, 1320, 35, 36, 37, 1324, 1360, 1368, 1372, 1376, 1430, 1434, 1438, 1452, 13, 3, 1, 0, 33, 20, 51, 1613, 1617, 1621, 52, 58, 75, 114, 1625, 53, 1636, 1647, 1652, 1656, 54, 57, 56, 72, 60, 61, 55, 71, 67, 68, 64, 66, 65, 1664, 74, 62, 70, 69, 63, 73, 59, 1668, 78, 79, 77, 76, 1776, 86, 97, 82, 84, 89, 88, 81, 80, 83, 87, 85, 1796, 1824, 1848, 91, 90, 1852, 94, 93, 92, 1864, 95, 1884, 96, 1892, 1901, 1905, 1910, 1918, 1922, 99, 101, 98, 1926, 1935, 100, 1939, 1955, 103, 102, 1959, 1971, 104, 1975, 1983, 105, 1987, 1995, 106, 1999, 107, 2008, 2020, 108, 2024, 109, 111, 113, 112, 110, 2032, 2057, 2061, 115, 2069, 116, 117, 2077, 2091, 119, 118, 2095, 2113, 122, 121, 120, 2117, 2137, 2141, 2145, 129, 126, 125, 127, 128, 124, 130, 131, 123, 2149, 2191, 2195, 132, 2199, 2207, 731, 850, 966, 808, 820, 812, 838, 976, 971, 945, 941, 949, 986, 954, 958, 1097, 999, 1003, 1011, 1019, 1015, 1030, 1113, 1127, 1139, 1135, 1152, 24, 1165, 25, 1356, 1364, 1328, 38, 41, 39, 40, 1301, 1314, 1306, 1310, 1380, 42, 43, 44, 45, 46, 47, 48, 49, 50, 846, 727, 8, 9, 10, 11, 12, 1442, 1456, 1446, 1460, 719, 929, 933, 711, 715, 842, 735, 770, 908, 912, 796, 782, 816, 800, 791, 833, 742, 5, 7, 6, 854, 883, 920, 916, 866, 14, 15, 18, 16, 19, 17, 628, 632, 659, 663, 694, 698, 643, 682, 667, 702, 1199, 1204, 1208, 29, 31, 30, 1225, 1245, 1233, 32, 1263, 34]
def SEl_f (id : Nat) : Cond := Cond.selects (mtY id).cls (mtY id) (mtY id)
set_option maxRecDepth 100000 in
theorem SEl_d : (SEl.zip SEl_p).all (tblQ SEl_f) = true := by decide +kernel
set_option maxRecDepth 100000 in
theorem SEl_l : Nat.beq SEl.length SEl_p.length = true := by decide +kernel
theorem SEl_ok {id : Nat} (h : id ∈ SEl) : SEl_f id ∈ lw_g := zip_tbl SEl_l SEl_d h
theorem VLl_q : VLl.all (fun q => SEl.elem q.2.2 && IMl.elem q.2.2) = true := by decide +kernel
theorem SLl_q : (SLl ++ NSl).all (fun q => SMl.elem q.2.2) = true := by decide +kernel
theorem ILl_q : (ILl ++ NIl).all (fun q => IMl.elem q.2.2 && decide ((mtY q.2.2).name = "<init>") && decide (mtR q.2.2 = none)) = true := by decide +kernel
theorem NVl_q : NVl = [] := rfl
theorem LNl_q : (VLl ++ (SLl ++ NSl) ++ (ILl ++ NIl)).all (fun q => Nat.blt q.2.2 357) = true := by decide +kernel
def okN (id : Nat) : Bool := true && plainName (mtY id).cls && decide ((mtY id).cls ≠ "java/lang/invoke/MethodHandle") && decide ((mtY id).cls ≠ "java/lang/invoke/VarHandle") && Nat.ble (PP id).2 40 && Nat.ble (mtK id) 38
set_option maxRecDepth 100000 in
theorem okN_all : (List.range 357).all okN = true := by decide +kernel
def INl : List Nat := [0, 1, 2, 3, 4, 5, 6, 7, 8, 9, 10, 11, 12, 14]
def INl_f (oc : Nat) : Cond := Cond.initialized (RN oc)
def INl_p : List Nat := [8, 16, 17, 14, 11, 13, 3, 10, 12, 2, 15, 1, 18, 20]
theorem INl_d : (INl.zip INl_p).all (tabQ INl_f) = true := by decide +kernel
theorem INl_l : Nat.beq INl.length INl_p.length = true := by decide +kernel
theorem INl_ok {oc : Nat} (h : oc ∈ INl) : INl_f oc ∈ lw_g := zip_tab INl_l INl_d h
set_option maxRecDepth 100000 in
theorem okO_all : (List.range 357).all (fun id => INl.elem (mtO id) && decide ((mtY id).cls = RN (mtO id))) = true := by decide +kernel
/-- what is so of every method but the law's -/
theorem mt_facts {id : Nat} (h : id < 357) : Cond.code (mtY id) (mtB id) (PP id).2 (mtR id) ∈ lw_g ∧ plainName (mtY id).cls = true ∧ (mtY id).cls ≠ "java/lang/invoke/MethodHandle" ∧ (mtY id).cls ≠ "java/lang/invoke/VarHandle" ∧ (PP id).2 ≤ 40 ∧ mtK id ≤ 38 ∧ (mtY id).cls = RN (mtO id) ∧ Cond.initialized (mtY id).cls ∈ lw_g := by
  have h1 := List.all_eq_true.mp okN_all id (List.mem_range.mpr h)
  have h2 := List.all_eq_true.mp okO_all id (List.mem_range.mpr h)
  unfold okN at h1
  simp only [Bool.and_eq_true, decide_eq_true_eq] at h1 h2
  obtain ⟨⟨⟨⟨⟨a, b⟩, c⟩, d⟩, e⟩, f⟩ := h1
  refine ⟨CD_all h, b, c, d, Nat.le_of_ble_eq_true e, Nat.le_of_ble_eq_true f, h2.2, ?_⟩
  rw [h2.2]
  exact INl_ok (mem_elem h2.1)
