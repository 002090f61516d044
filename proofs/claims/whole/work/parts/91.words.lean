/-! WORDS OF CALLS -/
theorem zip_tbl {α : Type} {f : α → Cond} {l : List α} {ps : List Nat} (hl9 : Nat.beq l.length ps.length = true) (h : walkT f lw_tbl (l.zip ps) = true) {q : α} (hq : q ∈ l) : f q ∈ lw_g :=
  mem_g (walk_of hl9 h hq).1 (walk_of hl9 h hq).2
def beqL : List UInt8 → List UInt8 → Bool
  | [], [] => true
  | a :: l, b :: k => Nat.beq a.toNat b.toNat && beqL l k
  | _, _ => false
theorem beqL_eq : ∀ {l k : List UInt8}, beqL l k = true → l = k
  | [], [], _ => rfl
  | a :: l, b :: k, h => by
    unfold beqL at h
    rw [Bool.and_eq_true] at h
    rw [beqL_eq h.2, UInt8.toNat_inj.mp (Nat.eq_of_beq_eq_true h.1)]
  | [], _ :: _, h => by cases h
  | _ :: _, [], h => by cases h
def beqB (a b : ByteArray) : Bool := beqL a.data.toList b.data.toList
theorem beqB_eq {a b : ByteArray} (h : beqB a b = true) : a = b := ByteArray.ext (Array.ext' (beqL_eq h))
def cdQ (q : Nat × Nat) : Bool := match tables_1[q.2]? with
  | some (.code y b n r) => decide (y = mtY q.1) && beqB b (mtB q.1) && Nat.beq n (PP q.1).2 && decide (r = mtR q.1)
  | _ => false
theorem cdQ_ok {q : Nat × Nat} (h : cdQ q = true) : Cond.code (mtY q.1) (mtB q.1) (PP q.1).2 (mtR q.1) ∈ lw_g := by
  unfold cdQ at h
  split at h
  · next y b n r e =>
    simp only [Bool.and_eq_true, decide_eq_true_eq] at h
    obtain ⟨⟨⟨h1, h2⟩, h3⟩, h4⟩ := h
    refine mem_g (List.mem_append_right _ (List.mem_of_getElem? (i := q.2) ?_)) rfl
    rw [e, h1, beqB_eq h2, Nat.eq_of_beq_eq_true h3, h4]
  · cases h
def CDl_p : List Nat := [984, 25, 480, 484, 488, 492, 519, 542, 554, 523, 558, 575, 591, 730, 793, 805, 830, 858, 863, 875, 894, 904, 908, 912, 916, 924, 930, 936, 941, 945, 953, 957, 973, 949, 961, 969, 977, 991, 999, 1011, 1016, 1029, 1043, 1047, 1051, 1097, 1109, 1127, 1055, 1063, 1059, 1141, 1157, 1161, 1188, 1145, 1152, 1165, 1192, 1228, 1236, 1240, 1244, 1298, 1302, 1306, 1320, 726, 546, 515, 507, 1117, 1120, 920, 503, 850, 1333, 1338, 1481, 1485, 1489, 1500, 1560, 1640, 1933, 1496, 1511, 1493, 1508, 1504, 1515, 1520, 1736, 1524, 1528, 1548, 1551, 1554, 1544, 1622, 1569, 1575, 1540, 1618, 1602, 1606, 1590, 1598, 1594, 1532, 1636, 1586, 1579, 1614, 1610, 1629, 1632, 1583, 1626, 1564, 1536, 1656, 1660, 1652, 1648, 1644, 1696, 1782, 1884, 1676, 1684, 1708, 1712, 1704, 1672, 1668, 1680, 1700, 1688, 1664, 1692, 1716, 1728, 1724, 1720, 1748, 1744, 1740, 1732, 1756, 1752, 1765, 1760, 1769, 1773, 1778, 1786, 1790, 1997, 1811, 1819, 1799, 1794, 1803, 1815, 1807, 1823, 1835, 1831, 1827, 1839, 1847, 1843, 1851, 1859, 1855, 1863, 1871, 1867, 1881, 1876, 1888, 1896, 1892, 1904, 1913, 1921, 1917, 1909, 1900, 1925, 1929, 1941, 1937, 1949, 1955, 1945, 1959, 1977, 1972, 1969, 1963, 1981, 2001, 1994, 1990, 1985, 2005, 2009, 2013, 2046, 2034, 2030, 2038, 2042, 2026, 2051, 2055, 2022, 2017, 2059, 2063, 2071, 2067, 2075, 156, 599, 718, 834, 676, 688, 680, 706, 844, 839, 813, 809, 817, 854, 822, 826, 965, 867, 871, 879, 887, 883, 898, 981, 995, 1007, 1003, 1020, 1025, 1033, 1038, 389, 1224, 1232, 1196, 1202, 1218, 1209, 1214, 410, 1169, 1182, 1174, 1178, 330, 1248, 1253, 1257, 1261, 1268, 1274, 1279, 1283, 1287, 1293, 269, 714, 595, 642, 646, 672, 693, 697, 308, 1310, 1324, 1314, 1328, 53, 587, 797, 801, 579, 583, 710, 603, 638, 776, 780, 664, 650, 684, 668, 659, 701, 610, 620, 631, 624, 106, 613, 616, 627, 634, 219, 722, 751, 788, 287, 784, 734, 741, 745, 768, 757, 772, 762, 33, 496, 500, 527, 531, 562, 566, 511, 550, 535, 570, 538, 367, 1067, 1072, 1076, 1080, 1089, 1085, 1093, 1113, 1101, 1105, 1131, 1135]
def cdA (id : Nat) : Bool := cdQ (id, (nth CDl_p id).getD 0)
set_option maxRecDepth 100000 in
theorem CD_0 : (List.range' 0 20).all cdA = true := by decide +kernel
set_option maxRecDepth 100000 in
theorem CD_20 : (List.range' 20 20).all cdA = true := by decide +kernel
set_option maxRecDepth 100000 in
theorem CD_40 : (List.range' 40 20).all cdA = true := by decide +kernel
set_option maxRecDepth 100000 in
theorem CD_60 : (List.range' 60 20).all cdA = true := by decide +kernel
set_option maxRecDepth 100000 in
theorem CD_80 : (List.range' 80 20).all cdA = true := by decide +kernel
set_option maxRecDepth 100000 in
theorem CD_100 : (List.range' 100 20).all cdA = true := by decide +kernel
set_option maxRecDepth 100000 in
theorem CD_120 : (List.range' 120 20).all cdA = true := by decide +kernel
set_option maxRecDepth 100000 in
theorem CD_140 : (List.range' 140 20).all cdA = true := by decide +kernel
set_option maxRecDepth 100000 in
theorem CD_160 : (List.range' 160 20).all cdA = true := by decide +kernel
set_option maxRecDepth 100000 in
theorem CD_180 : (List.range' 180 20).all cdA = true := by decide +kernel
set_option maxRecDepth 100000 in
theorem CD_200 : (List.range' 200 20).all cdA = true := by decide +kernel
set_option maxRecDepth 100000 in
theorem CD_220 : (List.range' 220 20).all cdA = true := by decide +kernel
set_option maxRecDepth 100000 in
theorem CD_240 : (List.range' 240 20).all cdA = true := by decide +kernel
set_option maxRecDepth 100000 in
theorem CD_260 : (List.range' 260 20).all cdA = true := by decide +kernel
set_option maxRecDepth 100000 in
theorem CD_280 : (List.range' 280 20).all cdA = true := by decide +kernel
set_option maxRecDepth 100000 in
theorem CD_300 : (List.range' 300 20).all cdA = true := by decide +kernel
set_option maxRecDepth 100000 in
theorem CD_320 : (List.range' 320 20).all cdA = true := by decide +kernel
set_option maxRecDepth 100000 in
theorem CD_340 : (List.range' 340 17).all cdA = true := by decide +kernel
def pnA (id : Nat) : Bool := decide ((parseMethodDescriptor (mtY id).desc).map (fun d => d.parameters.length) = some (mtN id))
set_option maxRecDepth 100000 in
theorem PN_0 : (List.range' 0 60).all pnA = true := by decide +kernel
set_option maxRecDepth 100000 in
theorem PN_60 : (List.range' 60 60).all pnA = true := by decide +kernel
set_option maxRecDepth 100000 in
theorem PN_120 : (List.range' 120 60).all pnA = true := by decide +kernel
set_option maxRecDepth 100000 in
theorem PN_180 : (List.range' 180 60).all pnA = true := by decide +kernel
set_option maxRecDepth 100000 in
theorem PN_240 : (List.range' 240 60).all pnA = true := by decide +kernel
set_option maxRecDepth 100000 in
theorem PN_300 : (List.range' 300 57).all pnA = true := by decide +kernel
theorem PN_all {id : Nat} (h : id < 357) : (parseMethodDescriptor (mtY id).desc).map (fun d => d.parameters.length) = some (mtN id) := by
  by_cases h0 : id < 60
  · exact of_decide_eq_true (List.all_eq_true.mp PN_0 id (List.mem_range'_1.mpr ⟨by omega, by omega⟩))
  by_cases h60 : id < 120
  · exact of_decide_eq_true (List.all_eq_true.mp PN_60 id (List.mem_range'_1.mpr ⟨by omega, by omega⟩))
  by_cases h120 : id < 180
  · exact of_decide_eq_true (List.all_eq_true.mp PN_120 id (List.mem_range'_1.mpr ⟨by omega, by omega⟩))
  by_cases h180 : id < 240
  · exact of_decide_eq_true (List.all_eq_true.mp PN_180 id (List.mem_range'_1.mpr ⟨by omega, by omega⟩))
  by_cases h240 : id < 300
  · exact of_decide_eq_true (List.all_eq_true.mp PN_240 id (List.mem_range'_1.mpr ⟨by omega, by omega⟩))
  by_cases h300 : id < 357
  · exact of_decide_eq_true (List.all_eq_true.mp PN_300 id (List.mem_range'_1.mpr ⟨by omega, by omega⟩))
  exact absurd h (by omega)
theorem CD_all {id : Nat} (h : id < 357) : Cond.code (mtY id) (mtB id) (PP id).2 (mtR id) ∈ lw_g := by
  by_cases h0 : id < 20
  · exact cdQ_ok (q := (id, _)) (List.all_eq_true.mp CD_0 id (List.mem_range'_1.mpr ⟨by omega, by omega⟩))
  by_cases h20 : id < 40
  · exact cdQ_ok (q := (id, _)) (List.all_eq_true.mp CD_20 id (List.mem_range'_1.mpr ⟨by omega, by omega⟩))
  by_cases h40 : id < 60
  · exact cdQ_ok (q := (id, _)) (List.all_eq_true.mp CD_40 id (List.mem_range'_1.mpr ⟨by omega, by omega⟩))
  by_cases h60 : id < 80
  · exact cdQ_ok (q := (id, _)) (List.all_eq_true.mp CD_60 id (List.mem_range'_1.mpr ⟨by omega, by omega⟩))
  by_cases h80 : id < 100
  · exact cdQ_ok (q := (id, _)) (List.all_eq_true.mp CD_80 id (List.mem_range'_1.mpr ⟨by omega, by omega⟩))
  by_cases h100 : id < 120
  · exact cdQ_ok (q := (id, _)) (List.all_eq_true.mp CD_100 id (List.mem_range'_1.mpr ⟨by omega, by omega⟩))
  by_cases h120 : id < 140
  · exact cdQ_ok (q := (id, _)) (List.all_eq_true.mp CD_120 id (List.mem_range'_1.mpr ⟨by omega, by omega⟩))
  by_cases h140 : id < 160
  · exact cdQ_ok (q := (id, _)) (List.all_eq_true.mp CD_140 id (List.mem_range'_1.mpr ⟨by omega, by omega⟩))
  by_cases h160 : id < 180
  · exact cdQ_ok (q := (id, _)) (List.all_eq_true.mp CD_160 id (List.mem_range'_1.mpr ⟨by omega, by omega⟩))
  by_cases h180 : id < 200
  · exact cdQ_ok (q := (id, _)) (List.all_eq_true.mp CD_180 id (List.mem_range'_1.mpr ⟨by omega, by omega⟩))
  by_cases h200 : id < 220
  · exact cdQ_ok (q := (id, _)) (List.all_eq_true.mp CD_200 id (List.mem_range'_1.mpr ⟨by omega, by omega⟩))
  by_cases h220 : id < 240
  · exact cdQ_ok (q := (id, _)) (List.all_eq_true.mp CD_220 id (List.mem_range'_1.mpr ⟨by omega, by omega⟩))
  by_cases h240 : id < 260
  · exact cdQ_ok (q := (id, _)) (List.all_eq_true.mp CD_240 id (List.mem_range'_1.mpr ⟨by omega, by omega⟩))
  by_cases h260 : id < 280
  · exact cdQ_ok (q := (id, _)) (List.all_eq_true.mp CD_260 id (List.mem_range'_1.mpr ⟨by omega, by omega⟩))
  by_cases h280 : id < 300
  · exact cdQ_ok (q := (id, _)) (List.all_eq_true.mp CD_280 id (List.mem_range'_1.mpr ⟨by omega, by omega⟩))
  by_cases h300 : id < 320
  · exact cdQ_ok (q := (id, _)) (List.all_eq_true.mp CD_300 id (List.mem_range'_1.mpr ⟨by omega, by omega⟩))
  by_cases h320 : id < 340
  · exact cdQ_ok (q := (id, _)) (List.all_eq_true.mp CD_320 id (List.mem_range'_1.mpr ⟨by omega, by omega⟩))
  by_cases h340 : id < 357
  · exact cdQ_ok (q := (id, _)) (List.all_eq_true.mp CD_340 id (List.mem_range'_1.mpr ⟨by omega, by omega⟩))
  exact absurd h (by omega)
def IMl : List Nat := [1, 332, 293, 225, 319, 280, 323, 288, 269, 344, 256, 264, 2, 3, 4, 5, 333, 334, 70, 339, 69, 6, 9, 335, 336, 341, 7, 68, 340, 8, 10, 337, 338, 342, 11, 297, 298, 294, 12, 282, 226, 300, 310, 311, 313, 312, 301, 283, 284, 305, 308, 304, 307, 285, 229, 231, 306, 230, 286, 287, 309, 232, 299, 281, 227, 320, 67, 13, 325, 326, 327, 321, 329, 331, 328, 330, 302, 303, 324, 322, 14, 295, 296, 15, 236, 235, 237, 239, 240, 16, 228, 234, 233, 238, 17, 18, 242, 243, 19, 244, 246, 245, 20, 247, 21, 22, 23, 24, 73, 25, 26, 27, 28, 29, 33, 30, 31, 34, 241, 35, 32, 36, 248, 37, 249, 38, 251, 250, 39, 40, 252, 253, 41, 254, 255, 42, 43, 44, 48, 50, 49, 345, 346, 347, 348, 350, 349, 351, 45, 353, 354, 46, 352, 71, 47, 355, 356, 51, 55, 56, 52, 53, 57, 265, 267, 268, 266, 54, 58, 259, 260, 262, 263, 261, 257, 59, 258, 60, 61, 62, 270, 271, 272, 273, 274, 275, 276, 277, 278, 279, 63, 64, 65, 289, 291, 66, 290, 292, 76, 77, 78, 79, 80, 87, 81, 89, 88, 90, 91, 93, 94, 109, 120, 102, 98, 95, 82, 119, 100, 101, 112, 117, 106, 108, 107, 104, 105, 114, 113, 103, 99, 118, 110, 83, 125, 124, 123, 121, 122, 139, 135, 134, 129, 136, 130, 138, 140, 126, 137, 133, 131, 141, 144, 143, 142, 148, 147, 146, 145, 150, 149, 152, 151, 153, 154, 155, 127, 156, 157, 162, 161, 163, 165, 159, 164, 160, 166, 169, 168, 167, 170, 172, 171, 173, 175, 174, 176, 178, 177, 180, 179, 181, 183, 182, 189, 184, 188, 185, 187, 186, 190, 191, 84, 193, 192, 196, 194, 195, 197, 201, 200, 198, 202, 206, 205, 204, 203, 207, 208, 209, 219, 218, 215, 212, 211, 213, 214, 210, 216, 217, 220, 221, 223, 222, 224]
def IMl_p : List Nat := [24, 7, 19, 102, 62, 49, 17, 20, 21, 36, 21, 20, 68, 3, 3, 3, 3, 3, 7, 2, 4, 2, 4, 2, 3, 3, 6, 4, 2, 3, 4, 2, 3, 3, 4, 3, 3, 3, 3, 3, 3, 3, 6, 10, 3, 6, 5, 4, 3, 2, 8, 4, 3, 4, 2, 3, 3, 3, 5, 3, 2, 4, 3, 3, 3, 3, 4, 2, 3, 7, 3, 4, 6, 4, 5, 3, 2, 3, 3, 3, 4, 3, 3, 3, 3, 3, 3, 4, 3, 3, 3, 4, 4, 9, 3, 4, 3, 3, 3, 3, 3, 3, 6, 3, 5, 3, 3, 3, 4, 2, 5, 5, 4, 3, 4, 2, 3, 4, 2, 4, 2, 3, 3, 9, 3, 3, 3, 3, 3, 4, 3, 5, 2, 3, 5, 3, 3, 3, 4, 3, 3, 2, 4, 3, 4, 4, 3, 2, 3, 3, 4, 2, 3, 4, 8, 3, 4, 4, 4, 6, 3, 3, 4, 2, 4, 3, 3, 5, 3, 3, 6, 6, 4, 3, 4, 3, 3, 3, 3, 3, 3, 5, 3, 3, 6, 5, 4, 3, 3, 5, 3, 3, 3, 3, 3, 5, 3, 3, 5, 4, 141, 3, 3, 3, 7, 2, 4, 5, 4, 3, 4, 2, 3, 4, 3, 3, 11, 3, 4, 5, 3, 3, 6, 3, 3, 3, 3, 3, 3, 3, 3, 3, 9, 3, 2, 4, 3, 3, 3, 2, 4, 3, 3, 3, 3, 3, 2, 4, 3, 3, 3, 6, 3, 4, 3, 2, 8, 3, 3, 2, 4, 2, 5, 2, 3, 4, 4, 2, 3, 3, 5, 2, 3, 4, 3, 3, 2, 3, 4, 3, 2, 3, 4, 2, 3, 4, 2, 3, 4, 3, 5, 5, 3, 4, 2, 4, 4, 3, 3, 3, 2, 3, 4, 2, 4, 2, 4, 5, 2, 3, 6, 7, 2, 3, 5, 3, 6, 2, 3, 3, 3, 5, 3, 3, 3, 3, 3, 3, 4, 3, 2, 3, 3, 4, 2]
def IMl_f (id : Nat) : Cond := Cond.instanceMethod (mtY id)
set_option maxRecDepth 100000 in
theorem IMl_d : walkT IMl_f tables_1 (IMl.zip IMl_p) = true := by decide +kernel
set_option maxRecDepth 100000 in
theorem IMl_l : Nat.beq IMl.length IMl_p.length = true := by decide +kernel
theorem IMl_ok {id : Nat} (h : id ∈ IMl) : IMl_f id ∈ lw_g := zip_tab IMl_l IMl_d h
def SMl : List Nat := [314, 74, 343, 315, 316, 317, 318, 75, 0, 72, 85, 86, 96, 97, 111, 115, 116, 132, 92, 128, 199, 158]
def SMl_p : List Nat := [105, 396, 34, 74, 2, 10, 6, 215, 133, 135, 375, 14, 39, 2, 31, 42, 2, 79, 23, 147, 87, 24]
def SMl_f (id : Nat) : Cond := Cond.static (mtY id)
set_option maxRecDepth 100000 in
theorem SMl_d : walkT SMl_f tables_1 (SMl.zip SMl_p) = true := by decide +kernel
set_option maxRecDepth 100000 in
theorem SMl_l : Nat.beq SMl.length SMl_p.length = true := by decide +kernel
theorem SMl_ok {id : Nat} (h : id ∈ SMl) : SMl_f id ∈ lw_g := zip_tab SMl_l SMl_d h
def SEl : List Nat := [70, 69, 9, 68, 10, 311, 313, 312, 283, 284, 285, 286, 287, 67, 326, 327, 329, 331, 328, 330, 73, 33, 34, 35, 253, 255, 48, 50, 49, 348, 350, 349, 354, 71, 356, 55, 56, 57, 260, 262, 263, 261, 271, 272, 273, 274, 275, 276, 277, 278, 279, 77, 81, 88, 94, 102, 98, 95, 82, 119, 100, 101, 112, 117, 106, 108, 107, 104, 105, 114, 113, 103, 99, 118, 110, 83, 124, 123, 121, 122, 135, 134, 129, 136, 130, 138, 126, 137, 133, 131, 143, 142, 147, 146, 145, 149, 151, 127, 161, 159, 164, 160, 168, 167, 171, 174, 177, 179, 182, 184, 188, 185, 187, 186, 84, 192, 194, 195, 200, 198, 205, 204, 203, 218, 215, 212, 211, 213, 214, 210, 216, 217, 222, 2, 3, 4, 5, 333, 334, 339, 6, 335, 336, 341, 7, 340, 8, 337, 338, 342, 11, 297, 298, 294, 12, 282, 226, 300, 310, 301, 305, 308, 304, 307, 229, 231, 306, 230, 309, 232, 299, 281, 227, 320, 13, 325, 321, 302, 303, 324, 322, 14, 295, 296, 15, 236, 235, 237, 239, 240, 16, 228, 234, 233, 238, 17, 18, 242, 243, 19, 244, 246, 245, 20, 247, 21, 22, 23, 24, 25, 26, 27, 28, 29, 30, 31, 241, 32, 36, 248, 37, 249, 38, 251, 250, 39, 40, 252, 41, 254, 42, 43, 44, 345, 346, 347, 351, 45, 353, 46, 352, 47, 355, 51, 52, 53, 265, 267, 268, 266, 54, 58, 259, 257, 59, 258, 60, 61, 62, 270, 63, 64, 65, 289, 291, 66, 290, 292, 78, 79, 80, 87, 89, 90, 91, 93, 109, 120, 125, 139, 140, 141, 144, 148, 150, 152, 153, 154, 155, 156, 157, 162, 163, 165, 166, 169, 170, 172, 173, 175, 176, 178, 180, 181, 183, 189, 190, 191, 193, 196, 197, 201, 202, 206, 207, 208, 209, 219, 220, 221, 223, 224]
def SEl_p : List Nat := [0, 0, 0, 0, 0, 0, 0, 0, 0, 0, 0, 0, 0, 0, 0, 0, 0, 0, 0, 0, 0, 0, 0, 0, 0, 0, 0, 0, 0, 0, 0, 0, 0, 0, 0, 0, 0, 0, 0, 0, 0, 0, 0, 0, 0, 0, 0, 0, 0, 0, 0, 0, 0, 0, 0, 0, 0, 0, 0, 0, 0, 0, 0, 0, 0, 0, 0, 0, 0, 0, 0, 0, 0, 0, 0, 0, 0, 0, 0, 0, 0, 0, 0, 0, 0, 0, 0, 0, 0, 0, 0, 0, 0, 0, 0, 0, 0, 0, 0, 0, 0, 0, 0, 0, 0, 0, 0, 0, 0, 0, 0, 0, 0, 0, 0, 0, 0, 0, 0, 0, 0, 0, 0, 0, 0, 0, 0, 0, 0, 0, 0, 0, 0, 479, 3, 3, 3, 3, 3, 10, 7, 7, 3, 3, 6, 7, 3, 7, 3, 3, 4, 3, 3, 3, 3, 3, 3, 3, 6, 27, 11, 8, 4, 3, 7, 3, 3, 3, 12, 4, 3, 3, 3, 3, 7, 3, 16, 24, 3, 3, 3, 4, 3, 3, 3, 3, 3, 3, 4, 3, 3, 3, 4, 4, 9, 3, 4, 3, 3, 3, 3, 3, 3, 6, 3, 5, 3, 3, 3, 7, 5, 5, 4, 3, 7, 3, 7, 7, 3, 3, 9, 3, 3, 3, 3, 3, 4, 3, 8, 3, 9, 3, 3, 15, 4, 3, 16, 3, 3, 7, 3, 13, 3, 9, 15, 3, 7, 4, 3, 3, 5, 3, 3, 27, 3, 3, 3, 3, 3, 3, 49, 3, 3, 3, 3, 5, 3, 3, 152, 3, 3, 3, 10, 10, 4, 3, 7, 3, 107, 19, 27, 23, 3, 11, 19, 7, 8, 3, 4, 7, 3, 3, 8, 3, 15, 3, 11, 3, 7, 3, 7, 3, 8, 11, 3, 7, 24, 3, 7, 7, 13, 3, 17, 3, 19, 3, 3, 3, 41, 3, 3, 7]
def SEl_f (id : Nat) : Cond := Cond.selects (mtY id).cls (mtY id) (mtY id)
set_option maxRecDepth 100000 in
theorem SEl_d : walkT SEl_f lw_tbl (SEl.zip SEl_p) = true := by decide +kernel
set_option maxRecDepth 100000 in
theorem SEl_l : Nat.beq SEl.length SEl_p.length = true := by decide +kernel
theorem SEl_ok {id : Nat} (h : id ∈ SEl) : SEl_f id ∈ lw_g := zip_tbl SEl_l SEl_d h
theorem VLl_q : VLl.all (fun q => SEl.elem q.2.2 && IMl.elem q.2.2) = true := by decide +kernel
theorem SLl_q : (SLl ++ NSl).all (fun q => SMl.elem q.2.2) = true := by decide +kernel
theorem ILl_q : (ILl ++ NIl).all (fun q => IMl.elem q.2.2 && decide ((mtY q.2.2).name = "<init>") && decide (mtR q.2.2 = none)) = true := by decide +kernel
theorem NVl_q : NVl = [] := rfl
theorem LNl_q : (VLl ++ (SLl ++ NSl) ++ (ILl ++ NIl)).all (fun q => Nat.blt q.2.2 357) = true := by decide +kernel
def okN (id : Nat) : Bool := true && plainName (mtY id).cls && decide ((mtY id).cls ≠ "java/lang/invoke/MethodHandle") && decide ((mtY id).cls ≠ "java/lang/invoke/VarHandle") && Nat.ble (PP id).2 40 && Nat.ble (mtK id) 38
set_option maxRecDepth 100000 in
theorem okN_all : (List.range 357).all okN = true := by decide +kernel
def INl : List Nat := [11, 9, 6, 0, 7, 4, 8, 5, 3, 10, 1, 2, 12, 14]
def INl_f (oc : Nat) : Cond := Cond.initialized (RN oc)
def INl_p : List Nat := [1, 0, 0, 4, 1, 0, 0, 0, 0, 0, 0, 0, 0, 1]
theorem INl_d : walkT INl_f tables_1 (INl.zip INl_p) = true := by decide +kernel
theorem INl_l : Nat.beq INl.length INl_p.length = true := by decide +kernel
theorem INl_ok {oc : Nat} (h : oc ∈ INl) : INl_f oc ∈ lw_g := zip_tab INl_l INl_d h
set_option maxRecDepth 100000 in
theorem okO_all : (List.range 357).all (fun id => INl.elem (mtO id) && decide ((mtY id).cls = RN (mtO id))) = true := by decide +kernel
/-- what is so of every method but the law's -/
theorem mt_facts {id : Nat} (h : id < 357) : Cond.code (mtY id) (mtB id) (PP id).2 (mtR id) ∈ lw_g ∧ plainName (mtY id).cls = true ∧ (mtY id).cls ≠ "java/lang/invoke/MethodHandle" ∧ (mtY id).cls ≠ "java/lang/invoke/VarHandle" ∧ (PP id).2 ≤ 40 ∧ mtK id ≤ 38 ∧ (mtY id).cls = RN (mtO id) ∧ Cond.initialized (mtY id).cls ∈ lw_g := by
  have h1 := List.all_eq_true.mp okN_all id (List.mem_range.mpr h)
  have h2 := List.all_eq_true.mp okO_all id (List.mem_range.mpr h)
  unfold okN at h1
  simp only [Bool.and_eq_true, decide_eq_true_eq] at h1 h2
  obtain ⟨⟨⟨⟨⟨a, b⟩, c⟩, d⟩, e⟩, f⟩ := h1
  refine ⟨CD_all h, b, c, d, Nat.le_of_ble_eq_true e, Nat.le_of_ble_eq_true f, h2.2, ?_⟩
  rw [h2.2]
  exact INl_ok (mem_elem h2.1)
