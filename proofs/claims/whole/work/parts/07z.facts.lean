/-! what the tables say of the program -/
/-- the words that every method has -/
def jtbl : List Cond := lw_tbl.filter goodWord
theorem mem_jtbl {w : Cond} (h : w ∈ lw_tbl) (hg : goodWord w = true) : w ∈ jtbl := List.mem_filter.mpr ⟨h, hg⟩
def jTyp (tc : Nat) : FieldType := match tc with
  | 0 => .int
  | 1 => .long
  | 2 => .boolean
  | 23 => .array .char
  | 24 => .array .int
  | 25 => .array .long
  | 26 => .array .boolean
  | 27 => .array (.object RX1)
  | 28 => .array (.object RX3)
  | 29 => .array (.array .int)
  | n => .object (jcn.getD (n - 10) "")
def jFT (c : Nat) : u_T := jTT.getD c TX0
theorem cls_ok : ∀ c : Nat, c ≤ 12 → vwCl[c]? = some (jcn.getD c "", jFT c, jnf.getD c 0)
  | 0, _ => rfl | 1, _ => rfl | 2, _ => rfl | 3, _ => rfl | 4, _ => rfl | 5, _ => rfl | 6, _ => rfl | 7, _ => rfl | 8, _ => rfl | 9, _ => rfl | 10, _ => rfl | 11, _ => rfl | 12, _ => rfl
  | n + 13, h => absurd h (by omega)
theorem ty_ok' : ∀ c, c < 13 → ∀ k, k < jnf.getD c 0 → parseFieldDescriptor ((jFT c) k).2.2.1 = some (jTyp (jty c k)) := by decide +kernel
theorem ty_ok {c : Nat} (h : c ≤ 12) : ∀ k, k < jnf.getD c 0 → parseFieldDescriptor ((jFT c) k).2.2.1 = some (jTyp (jty c k)) := ty_ok' c (by omega)
theorem nm_ok : ∀ c : Nat, c ≤ 12 → ∀ a, a < jnf.getD c 0 → ∀ b, b < jnf.getD c 0 → a ≠ b → ((jFT c) a).2.1 ≠ ((jFT c) b).2.1
  | 0, _ => nmX0 | 1, _ => nmX1 | 2, _ => nmX2 | 3, _ => nmX3 | 4, _ => nmX4 | 5, _ => nmX5 | 6, _ => nmX6 | 7, _ => nmX7 | 8, _ => nmX8 | 9, _ => nmX9 | 10, _ => nmX10 | 11, _ => nmX11 | 12, _ => nmX12
  | n + 13, h => absurd h (by omega)
theorem dl_ok' : ∀ c, c < 13 → ∀ k, k < jnf.getD c 0 → ((jFT c) k).1 = jcn.getD c "" := by decide +kernel
theorem tc_ok' : ∀ c, c < 13 → ∀ k, k < jnf.getD c 0 → jty c k ≤ 2 ∨ (10 ≤ jty c k ∧ jty c k ≤ 29) := by decide +kernel
theorem pick_mem {big ws : List Cond} {ps : List Nat} (h : ws = ps.filterMap (fun i => big[i]?)) : ∀ w ∈ ws, w ∈ big := by
  intro w hw
  rw [h] at hw
  obtain ⟨i, -, hi⟩ := List.mem_filterMap.mp hw
  exact List.mem_of_getElem? hi
theorem chunk_mem {l : List Cond} {big : List Cond} {n : Nat} (hl : l.length ≤ 40 * n) (h : ∀ c, c < n → ∀ w ∈ (l.drop (40 * c)).take 40, w ∈ big) : ∀ w ∈ l, w ∈ big := by
  intro w hw
  obtain ⟨i, hi⟩ := List.getElem?_of_mem hw
  have hlt := (List.getElem?_eq_some_iff.mp hi).1
  refine h (i / 40) (by omega) w (List.mem_of_getElem? (i := i % 40) ?_)
  rw [List.getElem?_take_of_lt (by omega), List.getElem?_drop, show 40 * (i / 40) + i % 40 = i by omega]
  exact hi
theorem goodP {big ws : List Cond} (h : ∀ w ∈ ws, w ∈ big) (hb : ∀ w ∈ big, w ∈ lw_tbl) (hg : ∀ w ∈ ws, goodWord w = true) : ∀ w ∈ ws, w ∈ jtbl := fun w hw => mem_jtbl (hb w (h w hw)) (hg w hw)
theorem tab_in : ∀ w ∈ tables_1, w ∈ lw_tbl := fun _ h => List.mem_append_right _ h
def jlays : List Cond := (List.range 13).flatMap (fun c => u_ws (jcn.getD c "") (jFT c) (jnf.getD c 0))
set_option maxRecDepth 100000 in
theorem e_lay_0 : ((jlays).drop 0).take 40 = [355, 357, 359, 361, 166, 168, 170, 172, 174, 291, 293, 295, 264, 266, 268, 270, 272, 274, 276, 106, 108, 110, 112, 114, 116, 118, 120, 122, 124, 126, 128, 130, 132, 134, 136, 138, 140, 142, 400, 402].filterMap (fun i => (tables_1)[i]?) := by rfl
set_option maxRecDepth 100000 in
theorem e_lay_1 : ((jlays).drop 40).take 40 = [413, 415, 212, 214, 216, 218, 220, 222, 224, 226, 228, 230, 232, 322, 324, 326, 328, 330, 332, 334, 336, 338, 340, 342, 377, 379, 381, 383, 385, 387, 389, 194, 196, 437, 439, 441, 443, 445, 447, 449].filterMap (fun i => (tables_1)[i]?) := by rfl
set_option maxRecDepth 100000 in
theorem e_lay_2 : ((jlays).drop 80).take 40 = [451, 453, 455, 457, 459, 461, 463, 465, 467, 469, 471, 473, 1434, 1436, 1438, 1440, 1442, 1444, 1446, 1448, 1450, 1452, 1454, 1456, 1458, 1460, 1462, 1464, 1466, 1468, 1470, 1472, 1474, 1476, 1478, 1480, 1482, 1484, 1486, 1488].filterMap (fun i => (tables_1)[i]?) := by rfl
set_option maxRecDepth 100000 in
theorem e_lay_3 : ((jlays).drop 120).take 40 = [1490, 1492, 1494, 1496, 1498, 1500, 1502, 1504, 1506, 1508, 1510, 1512, 1514, 1516, 1518, 1520, 1522, 1524, 1526, 1528, 1530, 1532, 1534, 1536, 1538, 1540, 1542, 1544, 1546, 1548, 1550, 1552, 1554, 1556, 1558, 1560, 1562, 1564, 1566, 1568].filterMap (fun i => (tables_1)[i]?) := by rfl
set_option maxRecDepth 100000 in
theorem e_lay_4 : ((jlays).drop 160).take 40 = [1570, 1572, 1574, 1576, 1578, 1580, 1582, 1584, 1586, 1588, 1590, 1592, 1594, 1596, 1598, 1600, 1602, 1604, 1606, 1608, 1610, 1612, 1614, 1616, 1618, 1620, 1622, 1624, 1626, 1628, 1630, 1632, 1634, 1636, 1638, 1640, 1642, 1644, 1646, 1648].filterMap (fun i => (tables_1)[i]?) := by rfl
set_option maxRecDepth 100000 in
theorem e_lay_5 : ((jlays).drop 200).take 40 = [1650, 1652, 1654, 1656, 1658, 1660, 1662, 1664, 1666, 1668, 1670, 1672].filterMap (fun i => (tables_1)[i]?) := by rfl
theorem q_lay : ∀ w ∈ jlays, w ∈ tables_1 := chunk_mem (n := 6) (by decide +kernel) (fun c hc => match c, hc with
  | 0, _ => pick_mem e_lay_0
  | 1, _ => pick_mem e_lay_1
  | 2, _ => pick_mem e_lay_2
  | 3, _ => pick_mem e_lay_3
  | 4, _ => pick_mem e_lay_4
  | 5, _ => pick_mem e_lay_5
  | c + 6, h => absurd h (by omega))
theorem lay_good : ∀ w ∈ jlays, goodWord w = true := by decide +kernel
theorem lay_ok {c : Nat} (h : c ≤ 12) : ∀ w ∈ u_ws (jcn.getD c "") (jFT c) (jnf.getD c 0), w ∈ jtbl := fun w hw =>
  goodP q_lay tab_in lay_good w (List.mem_flatMap.mpr ⟨c, List.mem_range.mpr (by omega), hw⟩)
def jfw (q : Nat × Nat × Nat × Nat) : Cond := Cond.fieldLink (jcn.getD q.1 "") q.2.1 (jcn.getD q.2.2.1 "") ((jFT q.2.2.1) q.2.2.2).2.1 ((jFT q.2.2.1) q.2.2.2).2.2.1
set_option maxRecDepth 100000 in
theorem e_fl_0 : ((jfl.map jfw).drop 0).take 40 = [352, 353, 351, 354, 46, 54, 59, 43, 152, 155, 71, 159, 161, 164, 62, 44, 288, 289, 290, 259, 260, 261, 262, 255, 257, 263, 40, 51, 76, 104, 154, 49, 74, 158, 163, 66, 98, 70, 75, 78].filterMap (fun i => (tables_1)[i]?) := by rfl
set_option maxRecDepth 100000 in
theorem e_fl_1 : ((jfl.map jfw).drop 40).take 40 = [82, 85, 89, 92, 95, 99, 101, 102, 36, 39, 45, 50, 53, 58, 63, 67, 398, 399, 103, 37, 47, 52, 60, 55, 90, 79, 83, 93, 64, 100, 96, 69, 88, 77, 73, 411, 412, 256, 41, 199].filterMap (fun i => (tables_1)[i]?) := by rfl
set_option maxRecDepth 100000 in
theorem e_fl_2 : ((jfl.map jfw).drop 80).take 40 = [200, 201, 210, 202, 204, 208, 205, 206, 207, 203, 313, 314, 315, 316, 311, 312, 320, 321, 258, 317, 318, 42, 319, 372, 373, 374, 375, 370, 371, 57, 86, 376, 80, 156, 192, 193, 418, 419, 420, 421].filterMap (fun i => (tables_1)[i]?) := by rfl
set_option maxRecDepth 100000 in
theorem e_fl_3 : ((jfl.map jfw).drop 120).take 40 = [422, 423, 424, 425, 426, 427, 428, 429, 430, 431, 432, 433, 434, 435, 436, 38, 48, 56, 61, 65, 68, 72, 160, 162, 165, 91, 94, 81, 84, 157, 87, 153, 97, 105, 209, 211, 1314, 1322, 1323, 1324].filterMap (fun i => (tables_1)[i]?) := by rfl
set_option maxRecDepth 100000 in
theorem e_fl_4 : ((jfl.map jfw).drop 160).take 40 = [1325, 1326, 1327, 1328, 1329, 1330, 1331, 1332, 1333, 1334, 1335, 1336, 1337, 1338, 1339, 1340, 1341, 1342, 1343, 1344, 1345, 1346, 1347, 1348, 1349, 1350, 1351, 1352, 1354, 1355, 1356, 1357, 1358, 1359, 1360, 1361, 1362, 1367, 1368, 1377].filterMap (fun i => (tables_1)[i]?) := by rfl
set_option maxRecDepth 100000 in
theorem e_fl_5 : ((jfl.map jfw).drop 200).take 40 = [1383, 1384, 1385, 1386, 1387, 1388, 1389, 1390, 1391, 1394, 1396, 1397, 1399, 1400, 1401, 1402, 1403, 1404, 1405, 1406, 1407, 1408, 1409, 1410, 1411, 1412, 1413, 1414, 1415, 1416, 1417, 1418, 1419, 1420, 1421, 1422, 1424, 1428, 1432, 1315].filterMap (fun i => (tables_1)[i]?) := by rfl
set_option maxRecDepth 100000 in
theorem e_fl_6 : ((jfl.map jfw).drop 240).take 40 = [1319, 1320, 1316, 1317, 1318, 1353, 1366, 1423, 1425, 1426, 1427, 1363, 1364, 1321, 1365, 1392, 1395, 1379, 1369, 1370, 1371, 1372, 1373, 1374, 1429, 1378, 1375, 1376, 1380, 1381, 1382, 1393, 1398, 1430, 1431, 1433].filterMap (fun i => (tables_1)[i]?) := by rfl
theorem q_fl : ∀ w ∈ jfl.map jfw, w ∈ tables_1 := chunk_mem (n := 7) (by decide +kernel) (fun c hc => match c, hc with
  | 0, _ => pick_mem e_fl_0
  | 1, _ => pick_mem e_fl_1
  | 2, _ => pick_mem e_fl_2
  | 3, _ => pick_mem e_fl_3
  | 4, _ => pick_mem e_fl_4
  | 5, _ => pick_mem e_fl_5
  | 6, _ => pick_mem e_fl_6
  | c + 7, h => absurd h (by omega))
theorem map_good {α : Type} {l : List α} {f : α → Cond} (h : ∀ q, goodWord (f q) = true) : ∀ w ∈ l.map f, goodWord w = true := by
  intro w hw
  obtain ⟨q, -, rfl⟩ := List.mem_map.mp hw
  exact h q
theorem fl_rng : ∀ q ∈ jfl, q.2.2.1 ≤ 12 ∧ q.2.2.2 < jnf.getD q.2.2.1 0 := by decide +kernel
theorem fl_ok {e : Nat} {q : Nat × Nat × Nat × Nat} (h : jfl[e]? = some q) : jfw q ∈ jtbl ∧ q.2.2.1 ≤ 12 ∧ q.2.2.2 < jnf.getD q.2.2.1 0 :=
  have hm : q ∈ jfl := List.mem_of_getElem? h
  ⟨goodP q_fl tab_in (map_good (fun _ => rfl)) _ (List.mem_map.mpr ⟨q, hm, rfl⟩), fl_rng q hm⟩
def jme (m : Nat) : MethodName × ByteArray × Nat × Option FieldType × Nat := jyy.getD m (yL_law, code, 4, some .boolean, 13)
def jy (m : Nat) : MethodName := (jme m).1
def jmw (q : Nat × Nat × Nat) : Cond := Cond.methodLink (jcn.getD q.1 "") q.2.1 (jy q.2.2)
def jnw (q : Nat × Nat × Nat) : Cond := Cond.methodLinkNest (jcn.getD q.1 "") q.2.1 (jy q.2.2) "SundayPit"
set_option maxRecDepth 100000 in
theorem e_ml_0 : ((jml.map jmw).drop 0).take 40 = [1153, 1154, 1171, 1167, 1163, 1185, 1186, 1198, 1202, 1203, 1204, 1205, 246, 840, 1272, 1273, 1274, 1275, 1276, 1292, 1293, 1095, 831, 832, 844, 836, 856, 857, 858, 866, 905, 862, 827, 852, 947, 874, 904, 899, 895, 900].filterMap (fun i => (tables_1)[i]?) := by rfl
set_option maxRecDepth 100000 in
theorem e_ml_1 : ((jml.map jmw).drop 40).take 40 = [891, 875, 1005, 971, 870, 883, 887, 975, 909, 913, 917, 920, 925, 928, 239, 779, 786, 782, 790, 848, 879, 640, 516, 517, 536, 540, 770, 626, 544, 597, 622, 646, 662, 666, 674, 761, 766, 601, 610, 627].filterMap (fun i => (tables_1)[i]?) := by rfl
set_option maxRecDepth 100000 in
theorem e_ml_2 : ((jml.map jmw).drop 80).take 40 = [628, 632, 636, 650, 654, 658, 670, 678, 682, 1238, 1239, 1240, 1241, 1242, 1243, 1249, 1250, 1256, 1257, 1258, 1262, 1263, 185, 521, 525, 526, 530, 533, 715, 606, 605, 614, 618, 707, 690, 694, 698, 702, 719, 723].filterMap (fun i => (tables_1)[i]?) := by rfl
set_option maxRecDepth 100000 in
theorem e_ml_3 : ((jml.map jmw).drop 120).take 40 = [711, 724, 757, 706, 728, 732, 736, 740, 744, 748, 751, 754, 310, 986, 993, 990, 998, 991, 999, 1000, 1001, 1009, 992, 1022, 1026, 1031, 1035, 1048, 1052, 1053, 1073, 1065, 1069, 1074, 1078, 1218, 1222, 189, 492, 496].filterMap (fun i => (tables_1)[i]?) := by rfl
set_option maxRecDepth 100000 in
theorem e_ml_4 : ((jml.map jmw).drop 160).take 40 = [1297, 179, 235, 242, 248, 251, 281, 300, 347, 366, 394, 407, 480, 484, 488, 504, 512, 771, 775, 794, 798, 802, 815, 819, 823, 931, 943, 952, 953, 954, 955, 956, 957, 958, 959, 967, 982, 1018, 1044, 1061].filterMap (fun i => (tables_1)[i]?) := by rfl
set_option maxRecDepth 100000 in
theorem e_ml_5 : ((jml.map jmw).drop 200).take 40 = [1079, 1087, 1096, 1109, 1113, 1137, 1149, 1159, 1175, 1181, 1194, 1206, 1214, 1226, 1234, 1251, 1268, 1284, 1289, 1299, 1091, 1117, 1124, 1128, 1129, 1706, 1710, 1702, 1698, 1713, 1731, 1721, 1724, 1755, 1751, 1761, 1694, 1717, 1727, 1743].filterMap (fun i => (tables_1)[i]?) := by rfl
set_option maxRecDepth 100000 in
theorem e_ml_6 : ((jml.map jmw).drop 240).take 40 = [1747, 1777, 1785, 1801, 1739, 1765, 1769, 1773, 1781, 1690, 1735, 1864, 1900, 1904, 1896, 1884, 1948, 1912, 1928, 1908, 1968, 1972, 1944, 1952, 1956, 1960, 1964, 1980, 1984, 1988, 1940, 1976, 2032, 1924, 1936, 1920, 1932, 2028, 1876, 1888].filterMap (fun i => (tables_1)[i]?) := by rfl
set_option maxRecDepth 100000 in
theorem e_ml_7 : ((jml.map jmw).drop 280).take 40 = [1880, 1892, 1916, 2000, 2012, 2016, 2024, 2039, 2047, 2051, 2055, 2072, 2076, 2080, 2068, 2093, 2097, 2089, 2106, 2110, 2122, 2126, 2151, 2159, 2162, 2147, 2183, 2179, 2175, 2191, 2209, 2205, 2201, 1797, 1841, 1829, 1813, 1817, 1809, 1789].filterMap (fun i => (tables_1)[i]?) := by rfl
set_option maxRecDepth 100000 in
theorem e_ml_8 : ((jml.map jmw).drop 320).take 40 = [1821, 1825, 1837, 1844, 1848, 1805, 1833, 1793, 1852, 1856, 1860, 1992, 1997, 2226, 2217, 2222, 2230, 2238, 2242, 2247, 2262, 2258, 24, 1309, 476, 1678, 500, 1682, 508, 1686, 807, 1868, 811, 1872, 935, 2003, 939, 2008, 948, 2020].filterMap (fun i => (tables_1)[i]?) := by rfl
set_option maxRecDepth 100000 in
theorem e_ml_9 : ((jml.map jmw).drop 360).take 40 = [963, 2035, 978, 2043, 1010, 2059, 1014, 2063, 1039, 2084, 1057, 2102, 1083, 2118, 1097, 2130, 1101, 2134, 1105, 2142, 1133, 2114, 1141, 2138, 1145, 2166, 1155, 2170, 1190, 2187, 1210, 2195, 1230, 2213, 1264, 2234, 1280, 2250, 1285, 2254].filterMap (fun i => (tables_1)[i]?) := by rfl
set_option maxRecDepth 100000 in
theorem e_ml_10 : ((jml.map jmw).drop 400).take 40 = [1303, 2267].filterMap (fun i => (tables_1)[i]?) := by rfl
theorem q_ml : ∀ w ∈ jml.map jmw, w ∈ tables_1 := chunk_mem (n := 11) (by decide +kernel) (fun c hc => match c, hc with
  | 0, _ => pick_mem e_ml_0
  | 1, _ => pick_mem e_ml_1
  | 2, _ => pick_mem e_ml_2
  | 3, _ => pick_mem e_ml_3
  | 4, _ => pick_mem e_ml_4
  | 5, _ => pick_mem e_ml_5
  | 6, _ => pick_mem e_ml_6
  | 7, _ => pick_mem e_ml_7
  | 8, _ => pick_mem e_ml_8
  | 9, _ => pick_mem e_ml_9
  | 10, _ => pick_mem e_ml_10
  | c + 11, h => absurd h (by omega))
set_option maxRecDepth 100000 in
theorem e_nl_0 : ((jnl.map jnw).drop 0).take 40 = [287, 686, 765, 1247, 1248, 309, 32, 148].filterMap (fun i => (tables_1)[i]?) := by rfl
theorem q_nl : ∀ w ∈ jnl.map jnw, w ∈ tables_1 := chunk_mem (n := 1) (by decide +kernel) (fun c hc => match c, hc with
  | 0, _ => pick_mem e_nl_0
  | c + 1, h => absurd h (by omega))
theorem ml_ok {q : Nat × Nat × Nat} (h : q ∈ jml) : jmw q ∈ jtbl := goodP q_ml tab_in (map_good (fun _ => rfl)) _ (List.mem_map.mpr ⟨q, h, rfl⟩)
theorem nl_ok {q : Nat × Nat × Nat} (h : q ∈ jnl) : jnw q ∈ lw_tbl := tab_in _ (q_nl _ (List.mem_map.mpr ⟨q, h, rfl⟩))
def jcodew (q : MethodName × ByteArray × Nat × Option FieldType × Nat) : Cond := Cond.code q.1 q.2.1 q.2.2.1 q.2.2.2.1
def jlawn : Nat := 342
set_option maxRecDepth 100000 in
theorem e_cw_0 : (((jyy.eraseIdx 342).map jcodew).drop 0).take 40 = [349, 797, 1152, 1170, 1166, 1162, 1184, 1197, 1209, 1201, 150, 245, 996, 843, 839, 822, 916, 818, 1271, 1291, 1302, 283, 934, 801, 1094, 1140, 253, 830, 835, 865, 855, 861, 826, 1127, 946, 890, 903, 898, 894, 1034].filterMap (fun i => (tables_1)[i]?) := by rfl
set_option maxRecDepth 100000 in
theorem e_cw_1 : (((jyy.eraseIdx 342).map jcodew).drop 40).take 40 = [962, 1004, 1132, 1008, 970, 869, 974, 908, 912, 919, 34, 238, 778, 781, 1112, 789, 851, 793, 873, 1174, 882, 878, 886, 847, 639, 642, 396, 515, 543, 600, 625, 631, 649, 661, 665, 669, 673, 677, 769, 409].filterMap (fun i => (tables_1)[i]?) := by rfl
set_option maxRecDepth 100000 in
theorem e_cw_2 : (((jyy.eraseIdx 342).map jcodew).drop 80).take 40 = [1237, 1246, 1254, 1261, 181, 520, 621, 609, 535, 532, 524, 539, 718, 547, 722, 604, 613, 617, 635, 653, 657, 681, 710, 685, 764, 705, 714, 689, 693, 697, 760, 701, 727, 731, 735, 739, 743, 747, 750, 753].filterMap (fun i => (tables_1)[i]?) := by rfl
set_option maxRecDepth 100000 in
theorem e_cw_3 : (((jyy.eraseIdx 342).map jcodew).drop 120).take 40 = [756, 302, 805, 985, 989, 1021, 1025, 1029, 1038, 1047, 1051, 1056, 368, 1072, 1064, 1082, 1068, 1077, 1217, 1229, 1221, 1225, 187, 483, 529, 507, 495, 499, 491, 1296, 1279, 26, 479, 503, 511, 810, 814, 938, 942, 951].filterMap (fun i => (tables_1)[i]?) := by rfl
set_option maxRecDepth 100000 in
theorem e_cw_4 : (((jyy.eraseIdx 342).map jcodew).drop 160).take 40 = [966, 981, 1013, 1017, 1042, 1060, 1086, 1100, 1104, 1108, 1136, 1144, 1148, 1158, 1193, 1213, 1233, 1267, 1283, 1288, 1306, 487, 774, 1090, 1120, 1116, 1311, 1726, 1681, 1685, 1716, 1712, 1723, 1709, 1705, 1701, 1697, 1734, 1730, 1720].filterMap (fun i => (tables_1)[i]?) := by rfl
set_option maxRecDepth 100000 in
theorem e_cw_5 : (((jyy.eraseIdx 342).map jcodew).drop 200).take 40 = [1758, 1754, 1820, 1746, 1764, 1750, 1693, 1742, 1768, 1772, 1780, 1776, 1784, 1738, 1689, 1867, 1871, 1903, 1907, 1887, 1899, 2027, 2015, 1879, 1951, 1947, 1915, 1911, 1891, 1931, 1963, 1971, 1975, 1967, 1943, 1955, 1959, 1979, 2034, 2031].filterMap (fun i => (tables_1)[i]?) := by rfl
set_option maxRecDepth 100000 in
theorem e_cw_6 : (((jyy.eraseIdx 342).map jcodew).drop 240).take 40 = [1939, 1927, 1923, 1935, 1919, 2002, 2161, 2054, 1895, 1883, 1875, 2006, 2019, 2011, 2023, 2042, 2038, 2050, 2058, 2046, 2062, 2075, 2079, 2083, 2071, 2066, 2096, 2100, 2092, 2087, 2109, 2113, 2105, 2129, 2117, 2125, 2121, 2133, 2137, 2141].filterMap (fun i => (tables_1)[i]?) := by rfl
set_option maxRecDepth 100000 in
theorem e_cw_7 : (((jyy.eraseIdx 342).map jcodew).drop 280).take 40 = [2154, 2165, 2150, 2145, 2169, 2186, 2182, 2178, 2173, 2194, 2190, 2208, 2212, 2204, 2198, 1800, 1792, 1851, 1832, 1843, 1840, 1847, 1816, 1812, 1824, 1828, 1808, 1836, 1804, 1796, 1863, 1855, 1788, 1859, 1994, 1999, 1983, 1991, 1987, 2229].filterMap (fun i => (tables_1)[i]?) := by rfl
set_option maxRecDepth 100000 in
theorem e_cw_8 : (((jyy.eraseIdx 342).map jcodew).drop 320).take 40 = [2225, 2220, 2233, 2216, 2249, 2241, 2245, 2237, 2253, 2265, 2261, 2257, 2270, 1188, 1177, 922, 977, 191, 930, 784, 927, 241].filterMap (fun i => (tables_1)[i]?) := by rfl
theorem q_cw : ∀ w ∈ (jyy.eraseIdx 342).map jcodew, w ∈ tables_1 := chunk_mem (n := 9) (by decide +kernel) (fun c hc => match c, hc with
  | 0, _ => pick_mem e_cw_0
  | 1, _ => pick_mem e_cw_1
  | 2, _ => pick_mem e_cw_2
  | 3, _ => pick_mem e_cw_3
  | 4, _ => pick_mem e_cw_4
  | 5, _ => pick_mem e_cw_5
  | 6, _ => pick_mem e_cw_6
  | 7, _ => pick_mem e_cw_7
  | 8, _ => pick_mem e_cw_8
  | c + 9, h => absurd h (by omega))
theorem cw_ok {m : Nat} (h : m < 343) (hl : m ≠ 342) : jcodew (jme m) ∈ jtbl := by
  refine goodP q_cw tab_in (map_good (fun _ => rfl)) _ (List.mem_map.mpr ⟨jme m, ?_, rfl⟩)
  have h1 : jyy[m]? = some (jme m) := by
    unfold jme
    have hjl : jyy.length = 343 := by decide +kernel
    have hm : m < jyy.length := by omega
    rw [List.getD_eq_getElem?_getD, List.getElem?_eq_getElem hm]
    rfl
  rw [List.mem_eraseIdx_iff_getElem?]
  exact ⟨m, hl, h1⟩
def jinst : List Nat := [0, 1, 2, 3, 4, 5, 6, 7, 8, 9, 10, 11, 12, 13, 14, 15, 16, 17, 18, 20, 21, 22, 23, 24, 25, 26, 27, 28, 29, 30, 31, 32, 33, 34, 35, 36, 37, 38, 39, 40, 41, 42, 43, 44, 45, 46, 47, 48, 50, 51, 52, 54, 55, 56, 57, 58, 59, 60, 61, 62, 63, 64, 66, 67, 68, 69, 70, 71, 72, 73, 74, 75, 76, 77, 78, 79, 80, 81, 82, 83, 84, 85, 86, 87, 90, 91, 92, 93, 94, 95, 96, 97, 98, 99, 100, 101, 102, 103, 104, 105, 106, 107, 108, 109, 110, 111, 112, 113, 114, 115, 116, 117, 121, 122, 123, 124, 125, 126, 127, 128, 129, 130, 131, 132, 133, 134, 135, 136, 137, 138, 139, 140, 141, 142, 143, 144, 145, 146, 147, 148, 149, 150, 151, 152, 153, 154, 155, 156, 157, 158, 159, 160, 161, 162, 163, 164, 165, 166, 167, 168, 169, 170, 171, 172, 173, 174, 175, 176, 177, 178, 179, 180, 181, 182, 183, 184, 185, 186, 188, 189, 190, 193, 194, 195, 196, 197, 198, 199, 200, 201, 202, 203, 204, 205, 206, 207, 208, 209, 210, 211, 212, 213, 214, 215, 216, 217, 218, 219, 220, 221, 222, 223, 224, 225, 226, 227, 228, 229, 230, 231, 232, 233, 234, 235, 236, 237, 239, 240, 241, 242, 243, 244, 247, 248, 249, 250, 251, 252, 253, 254, 255, 256, 257, 258, 259, 260, 261, 262, 263, 264, 265, 266, 267, 268, 269, 270, 271, 272, 273, 274, 275, 276, 277, 278, 279, 280, 281, 282, 283, 284, 285, 286, 287, 288, 289, 290, 291, 292, 293, 294, 295, 296, 297, 298, 300, 301, 302, 303, 304, 305, 306, 307, 308, 309, 310, 311, 312, 313, 316, 317, 318, 319, 320, 321, 322, 323, 325, 326, 327, 328, 329, 330, 331, 332]
def jstat : List Nat := [19, 49, 53, 65, 88, 89, 118, 119, 120, 187, 191, 192, 238, 245, 246, 299, 314, 315, 324, 333, 334, 335, 336, 337, 338, 339, 340, 341]
def jvirt : List Nat := [1, 2, 3, 4, 5, 6, 7, 8, 9, 11, 12, 13, 14, 15, 16, 17, 18, 20, 22, 23, 24, 25, 27, 28, 29, 30, 31, 32, 33, 34, 35, 36, 37, 38, 39, 40, 41, 42, 43, 44, 45, 46, 47, 48, 51, 52, 54, 55, 56, 57, 58, 59, 60, 61, 62, 63, 64, 67, 68, 69, 70, 71, 72, 73, 74, 75, 76, 77, 78, 80, 81, 82, 83, 85, 86, 87, 90, 91, 92, 93, 94, 95, 96, 97, 98, 99, 100, 101, 102, 103, 104, 105, 106, 107, 108, 109, 110, 111, 112, 113, 114, 115, 116, 117, 122, 123, 124, 125, 126, 127, 128, 129, 130, 131, 133, 134, 135, 136, 137, 138, 139, 140, 141, 143, 144, 145, 146, 147, 148, 149, 150, 152, 153, 154, 155, 156, 157, 158, 159, 160, 161, 162, 163, 164, 165, 166, 167, 168, 169, 170, 171, 172, 173, 174, 175, 176, 177, 178, 179, 180, 181, 182, 183, 184, 185, 188, 189, 190, 193, 194, 195, 196, 197, 198, 199, 200, 201, 202, 203, 204, 205, 206, 207, 208, 209, 210, 211, 212, 213, 214, 215, 216, 217, 218, 219, 220, 221, 222, 223, 224, 225, 226, 227, 228, 229, 230, 231, 232, 233, 234, 235, 236, 237, 239, 240, 241, 242, 243, 244, 247, 248, 249, 250, 251, 252, 253, 254, 255, 256, 257, 258, 259, 260, 261, 262, 263, 264, 265, 266, 267, 268, 269, 270, 271, 272, 273, 274, 275, 276, 277, 278, 279, 280, 281, 282, 283, 284, 285, 286, 287, 288, 289, 290, 291, 292, 293, 294, 295, 296, 297, 298, 300, 301, 302, 303, 304, 305, 306, 307, 308, 309, 310, 311, 312, 313, 316, 317, 318, 319, 320, 321, 322, 323, 325, 326, 327, 328, 329, 330, 331, 332]
set_option maxRecDepth 100000 in
theorem e_in_0 : ((jinst.map (fun m => Cond.instanceMethod (jy m))).drop 0).take 40 = [348, 795, 1150, 1169, 1165, 1160, 1182, 1195, 1207, 1200, 149, 243, 994, 841, 837, 820, 914, 816, 1269, 1300, 282, 932, 799, 1092, 1138, 252, 828, 834, 863, 853, 860, 824, 1125, 944, 888, 902, 897, 892, 1032, 960].filterMap (fun i => (tables_1)[i]?) := by rfl
set_option maxRecDepth 100000 in
theorem e_in_1 : ((jinst.map (fun m => Cond.instanceMethod (jy m))).drop 40).take 40 = [1002, 1130, 1007, 968, 867, 973, 906, 911, 33, 236, 776, 1110, 788, 849, 791, 871, 1172, 880, 876, 884, 845, 637, 395, 513, 542, 599, 624, 630, 648, 660, 664, 668, 672, 676, 768, 408, 1235, 1245, 1252, 1260].filterMap (fun i => (tables_1)[i]?) := by rfl
set_option maxRecDepth 100000 in
theorem e_in_2 : ((jinst.map (fun m => Cond.instanceMethod (jy m))).drop 80).take 40 = [180, 518, 619, 607, 522, 537, 717, 545, 720, 602, 611, 616, 633, 651, 655, 679, 709, 683, 762, 704, 713, 688, 692, 696, 759, 700, 726, 730, 734, 738, 742, 746, 301, 803, 983, 988, 1019, 1024, 1028, 1037].filterMap (fun i => (tables_1)[i]?) := by rfl
set_option maxRecDepth 100000 in
theorem e_in_3 : ((jinst.map (fun m => Cond.instanceMethod (jy m))).drop 120).take 40 = [1045, 1050, 1055, 367, 1071, 1062, 1080, 1067, 1076, 1215, 1227, 1220, 1224, 186, 481, 527, 505, 493, 497, 489, 1294, 1277, 25, 477, 501, 509, 808, 812, 936, 940, 949, 964, 979, 1011, 1015, 1040, 1058, 1084, 1098, 1102].filterMap (fun i => (tables_1)[i]?) := by rfl
set_option maxRecDepth 100000 in
theorem e_in_4 : ((jinst.map (fun m => Cond.instanceMethod (jy m))).drop 160).take 40 = [1106, 1134, 1142, 1146, 1156, 1191, 1211, 1231, 1265, 1281, 1286, 1304, 486, 773, 1089, 1119, 1115, 1310, 1679, 1683, 1715, 1708, 1704, 1700, 1696, 1733, 1729, 1719, 1757, 1753, 1819, 1745, 1763, 1749, 1692, 1741, 1767, 1771, 1779, 1775].filterMap (fun i => (tables_1)[i]?) := by rfl
set_option maxRecDepth 100000 in
theorem e_in_5 : ((jinst.map (fun m => Cond.instanceMethod (jy m))).drop 200).take 40 = [1783, 1737, 1687, 1866, 1869, 1902, 1906, 1886, 1898, 2026, 2014, 1878, 1950, 1946, 1914, 1910, 1890, 1930, 1962, 1970, 1974, 1966, 1942, 1954, 1958, 1978, 2030, 1938, 1926, 1922, 1934, 1918, 2053, 1894, 1882, 1873, 2004, 2018, 2009, 2021].filterMap (fun i => (tables_1)[i]?) := by rfl
set_option maxRecDepth 100000 in
theorem e_in_6 : ((jinst.map (fun m => Cond.instanceMethod (jy m))).drop 240).take 40 = [2041, 2036, 2049, 2057, 2044, 2060, 2074, 2078, 2082, 2070, 2064, 2095, 2099, 2091, 2085, 2108, 2112, 2103, 2128, 2115, 2124, 2119, 2131, 2135, 2139, 2153, 2164, 2149, 2143, 2167, 2185, 2181, 2177, 2171, 2193, 2188, 2207, 2211, 2203, 2196].filterMap (fun i => (tables_1)[i]?) := by rfl
set_option maxRecDepth 100000 in
theorem e_in_7 : ((jinst.map (fun m => Cond.instanceMethod (jy m))).drop 280).take 40 = [1799, 1791, 1850, 1831, 1839, 1846, 1815, 1811, 1823, 1827, 1807, 1835, 1803, 1795, 1862, 1854, 1787, 1858, 1982, 1990, 1986, 2228, 2224, 2219, 2232, 2214, 2240, 2244, 2235, 2251, 2264, 2260, 2255, 2268].filterMap (fun i => (tables_1)[i]?) := by rfl
theorem q_in : ∀ w ∈ jinst.map (fun m => Cond.instanceMethod (jy m)), w ∈ tables_1 := chunk_mem (n := 8) (by decide +kernel) (fun c hc => match c, hc with
  | 0, _ => pick_mem e_in_0
  | 1, _ => pick_mem e_in_1
  | 2, _ => pick_mem e_in_2
  | 3, _ => pick_mem e_in_3
  | 4, _ => pick_mem e_in_4
  | 5, _ => pick_mem e_in_5
  | 6, _ => pick_mem e_in_6
  | 7, _ => pick_mem e_in_7
  | c + 8, h => absurd h (by omega))
set_option maxRecDepth 100000 in
theorem e_st_0 : ((jstat.map (fun m => Cond.static (jy m))).drop 0).take 40 = [1290, 918, 780, 641, 534, 531, 749, 752, 755, 1725, 1711, 1722, 2033, 2001, 2160, 1842, 1993, 1998, 2248, 1187, 1176, 921, 976, 190, 929, 783, 926, 240].filterMap (fun i => (tables_1)[i]?) := by rfl
theorem q_st : ∀ w ∈ jstat.map (fun m => Cond.static (jy m)), w ∈ tables_1 := chunk_mem (n := 1) (by decide +kernel) (fun c hc => match c, hc with
  | 0, _ => pick_mem e_st_0
  | c + 1, h => absurd h (by omega))
def jvt : List Nat := [1, 2, 5, 6, 7, 8, 11, 12, 13, 14, 15, 16, 17, 18, 20, 22, 23, 24, 25, 27, 29, 30, 32, 33, 34, 35, 38, 39, 40, 41, 42, 44, 45, 47, 51, 52, 54, 56, 57, 58, 59, 60, 61, 62, 63, 64, 67, 80, 82, 85, 86, 87, 90, 91, 93, 94, 95, 96, 98, 99, 100, 101, 103, 104, 122, 123, 125, 129, 134, 135, 138, 139, 143, 144, 145, 146, 147, 148, 149, 150, 152, 153, 154, 155, 156, 157, 158, 159, 160, 161, 162, 163, 164, 165, 166, 167, 168, 169, 170, 171, 172, 173, 174, 175, 176, 177, 178, 179, 180, 188, 189, 214, 216, 250, 251, 253, 254, 256, 259, 260, 265, 269, 272, 274, 276, 277, 278, 279, 283, 284, 288, 290, 294, 323, 327, 328, 331, 332]
def jvp : List Nat := [3, 4, 9, 28, 31, 36, 37, 43, 46, 48, 55, 68, 69, 70, 71, 72, 73, 74, 75, 76, 77, 78, 81, 83, 92, 97, 102, 105, 106, 107, 108, 109, 110, 111, 112, 113, 114, 115, 116, 117, 124, 126, 127, 128, 130, 131, 133, 136, 137, 140, 141, 181, 182, 183, 184, 185, 190, 193, 194, 195, 196, 197, 198, 199, 200, 201, 202, 203, 204, 205, 206, 207, 208, 209, 210, 211, 212, 213, 215, 217, 218, 219, 220, 221, 222, 223, 224, 225, 226, 227, 228, 229, 230, 231, 232, 233, 234, 235, 236, 237, 239, 240, 241, 242, 243, 244, 247, 248, 249, 252, 255, 257, 258, 261, 262, 263, 264, 266, 267, 268, 270, 271, 273, 275, 280, 281, 282, 285, 286, 287, 289, 291, 292, 293, 295, 296, 297, 298, 300, 301, 302, 303, 304, 305, 306, 307, 308, 309, 310, 311, 312, 313, 316, 317, 318, 319, 320, 321, 322, 325, 326, 329, 330]
set_option maxRecDepth 100000 in
theorem e_vt_0 : ((jvt.map (fun m => Cond.selects (jy m).cls (jy m) (jy m))).drop 0).take 40 = [796, 1151, 1161, 1183, 1196, 1208, 244, 995, 842, 838, 821, 915, 817, 1270, 1301, 933, 800, 1093, 1139, 829, 864, 854, 825, 1126, 945, 889, 893, 1033, 961, 1003, 1131, 969, 868, 907, 237, 777, 1111, 850, 792, 872].filterMap (fun i => (tables_1)[i]?) := by rfl
set_option maxRecDepth 100000 in
theorem e_vt_1 : ((jvt.map (fun m => Cond.selects (jy m).cls (jy m) (jy m))).drop 40).take 40 = [1173, 881, 877, 885, 846, 638, 514, 1236, 1253, 519, 620, 608, 523, 538, 546, 721, 603, 612, 634, 652, 656, 680, 684, 763, 804, 984, 1020, 1046, 1063, 1081, 1216, 1228, 482, 528, 506, 494, 498, 490, 1295, 1278].filterMap (fun i => (tables_1)[i]?) := by rfl
set_option maxRecDepth 100000 in
theorem e_vt_2 : ((jvt.map (fun m => Cond.selects (jy m).cls (jy m) (jy m))).drop 80).take 40 = [478, 502, 510, 809, 813, 937, 941, 950, 965, 980, 1012, 1016, 1041, 1059, 1085, 1099, 1103, 1107, 1135, 1143, 1147, 1157, 1192, 1212, 1232, 1266, 1282, 1287, 1305, 1680, 1684, 1688, 1870, 1874, 2005, 2010, 2022, 2037, 2045, 2061].filterMap (fun i => (tables_1)[i]?) := by rfl
set_option maxRecDepth 100000 in
theorem e_vt_3 : ((jvt.map (fun m => Cond.selects (jy m).cls (jy m) (jy m))).drop 120).take 40 = [2065, 2086, 2104, 2116, 2120, 2132, 2136, 2140, 2144, 2168, 2172, 2189, 2197, 2215, 2236, 2252, 2256, 2269].filterMap (fun i => (tables_1)[i]?) := by rfl
theorem q_vt : ∀ w ∈ jvt.map (fun m => Cond.selects (jy m).cls (jy m) (jy m)), w ∈ tables_1 := chunk_mem (n := 4) (by decide +kernel) (fun c hc => match c, hc with
  | 0, _ => pick_mem e_vt_0
  | 1, _ => pick_mem e_vt_1
  | 2, _ => pick_mem e_vt_2
  | 3, _ => pick_mem e_vt_3
  | c + 4, h => absurd h (by omega))
set_option maxRecDepth 100000 in
theorem e_vp_0 : ((jvp.map (fun m => Cond.selects (jy m).cls (jy m) (jy m))).drop 0).take 40 = [50, 49, 51, 30, 31, 33, 32, 37, 35, 34, 29, 1, 2, 4, 5, 6, 7, 8, 9, 10, 11, 27, 54, 55, 19, 3, 17, 16, 18, 12, 13, 14, 26, 15, 20, 21, 22, 23, 24, 25].filterMap (fun i => (k2_sels lw_privs)[i]?) := by rfl
set_option maxRecDepth 100000 in
theorem e_vp_1 : ((jvp.map (fun m => Cond.selects (jy m).cls (jy m) (jy m))).drop 40).take 40 = [36, 38, 39, 40, 41, 42, 44, 43, 45, 52, 53, 0, 28, 46, 48, 47, 61, 60, 59, 58, 57, 64, 63, 62, 70, 69, 85, 67, 71, 68, 56, 66, 72, 73, 75, 74, 76, 65, 96, 103].filterMap (fun i => (k2_sels lw_privs)[i]?) := by rfl
set_option maxRecDepth 100000 in
theorem e_vp_2 : ((jvp.map (fun m => Cond.selects (jy m).cls (jy m) (jy m))).drop 80).take 40 = [104, 99, 102, 128, 126, 97, 115, 114, 106, 105, 100, 110, 118, 120, 121, 119, 113, 116, 117, 122, 129, 112, 109, 108, 111, 107, 132, 101, 98, 127, 130, 131, 133, 135, 136, 137, 134, 139, 140, 138].filterMap (fun i => (k2_sels lw_privs)[i]?) := by rfl
set_option maxRecDepth 100000 in
theorem e_vp_3 : ((jvp.map (fun m => Cond.selects (jy m).cls (jy m) (jy m))).drop 120).take 40 = [141, 142, 144, 143, 146, 147, 145, 150, 149, 148, 151, 153, 154, 152, 80, 78, 92, 88, 90, 91, 84, 83, 86, 87, 82, 89, 81, 79, 95, 93, 77, 94, 123, 125, 124, 157, 156, 155, 158, 159].filterMap (fun i => (k2_sels lw_privs)[i]?) := by rfl
set_option maxRecDepth 100000 in
theorem e_vp_4 : ((jvp.map (fun m => Cond.selects (jy m).cls (jy m) (jy m))).drop 160).take 40 = [160, 162, 161].filterMap (fun i => (k2_sels lw_privs)[i]?) := by rfl
theorem q_vp : ∀ w ∈ jvp.map (fun m => Cond.selects (jy m).cls (jy m) (jy m)), w ∈ k2_sels lw_privs := chunk_mem (n := 5) (by decide +kernel) (fun c hc => match c, hc with
  | 0, _ => pick_mem e_vp_0
  | 1, _ => pick_mem e_vp_1
  | 2, _ => pick_mem e_vp_2
  | 3, _ => pick_mem e_vp_3
  | 4, _ => pick_mem e_vp_4
  | c + 5, h => absurd h (by omega))
theorem in_ok {m : Nat} (h : m ∈ jinst) : Cond.instanceMethod (jy m) ∈ jtbl := goodP q_in tab_in (map_good (fun _ => rfl)) _ (List.mem_map.mpr ⟨m, h, rfl⟩)
theorem st_ok {m : Nat} (h : m ∈ jstat) : Cond.static (jy m) ∈ jtbl := goodP q_st tab_in (map_good (fun _ => rfl)) _ (List.mem_map.mpr ⟨m, h, rfl⟩)
theorem vt_ok {m : Nat} (h : m ∈ jvt ∨ m ∈ jvp) : Cond.selects (jy m).cls (jy m) (jy m) ∈ jtbl := by
  rcases h with h | h
  · exact goodP q_vt tab_in (map_good (fun _ => rfl)) _ (List.mem_map.mpr ⟨m, h, rfl⟩)
  · exact goodP q_vp (fun _ h => List.mem_append_left _ h) (map_good (fun _ => rfl)) _ (List.mem_map.mpr ⟨m, h, rfl⟩)
def jinw (c : Nat) : Cond := Cond.initialized (jcn.getD c "")
set_option maxRecDepth 100000 in
theorem e_ini_0 : (((List.range 17).map jinw).drop 0).take 40 = [11, 3, 9, 8, 2, 13, 14, 4, 10, 12, 5, 1, 15, 0, 21, 6, 7].filterMap (fun i => (tables_1)[i]?) := by rfl
theorem q_ini : ∀ w ∈ (List.range 17).map jinw, w ∈ tables_1 := chunk_mem (n := 1) (by decide +kernel) (fun c hc => match c, hc with
  | 0, _ => pick_mem e_ini_0
  | c + 1, h => absurd h (by omega))
theorem ini_ok {c : Nat} (h : c < 17) : Cond.initialized (jcn.getD c "") ∈ jtbl := goodP q_ini tab_in (map_good (fun _ => rfl)) _ (List.mem_map.mpr ⟨c, List.mem_range.mpr h, rfl⟩)
def jiw (c : Nat) : Cond := Cond.instantiable (jcn.getD c "") (jnf.getD c 0)
set_option maxRecDepth 100000 in
theorem e_inst_0 : (((List.range 13).map jiw).drop 0).take 40 = [346, 147, 280, 250, 31, 393, 406, 178, 299, 365, 184, 23, 1308].filterMap (fun i => (tables_1)[i]?) := by rfl
theorem q_inst : ∀ w ∈ (List.range 13).map jiw, w ∈ tables_1 := chunk_mem (n := 1) (by decide +kernel) (fun c hc => match c, hc with
  | 0, _ => pick_mem e_inst_0
  | c + 1, h => absurd h (by omega))
theorem inst_ok {c : Nat} (h : c ≤ 12) : Cond.instantiable (jcn.getD c "") (jnf.getD c 0) ∈ jtbl := goodP q_inst tab_in (map_good (fun _ => rfl)) _ (List.mem_map.mpr ⟨c, List.mem_range.mpr (by omega), rfl⟩)
def jclw (q : Nat × Nat × Nat) : Cond := Cond.classLink (jcn.getD q.1 "") q.2.1 (jcn.getD q.2.2 "")
def jciw (q : Nat × Nat × Int) : Cond := Cond.constant (jcn.getD q.1 "") q.2.1 (Int32.ofInt q.2.2)
def jcjw (q : Nat × Nat × Int) : Cond := Cond.constantLong (jcn.getD q.1 "") q.2.1 (Int64.ofInt q.2.2)
set_option maxRecDepth 100000 in
theorem e_cl_0 : ((jcw.map jclw).drop 0).take 40 = [285, 183, 304, 308, 30, 146, 177, 247, 249, 279, 298, 345, 364, 392, 405, 22, 1307].filterMap (fun i => (tables_1)[i]?) := by rfl
theorem q_cl : ∀ w ∈ jcw.map jclw, w ∈ tables_1 := chunk_mem (n := 1) (by decide +kernel) (fun c hc => match c, hc with
  | 0, _ => pick_mem e_cl_0
  | c + 1, h => absurd h (by omega))
set_option maxRecDepth 100000 in
theorem e_ci_0 : ((jci.map jciw).drop 0).take 40 = [1298, 1313, 2200, 2246, 2266, 1189, 1178, 1179, 1180].filterMap (fun i => (tables_1)[i]?) := by rfl
theorem q_ci : ∀ w ∈ jci.map jciw, w ∈ tables_1 := chunk_mem (n := 1) (by decide +kernel) (fun c hc => match c, hc with
  | 0, _ => pick_mem e_ci_0
  | c + 1, h => absurd h (by omega))
set_option maxRecDepth 100000 in
theorem e_cj_0 : ((jcj.map jcjw).drop 0).take 40 = [923, 924, 1255, 1043, 1121, 1122, 1123, 1759, 1760, 2007, 2067, 2088, 2101, 2155, 2156, 2157, 2158, 2146, 2174, 2199, 1995, 1996, 2221].filterMap (fun i => (tables_1)[i]?) := by rfl
theorem q_cj : ∀ w ∈ jcj.map jcjw, w ∈ tables_1 := chunk_mem (n := 1) (by decide +kernel) (fun c hc => match c, hc with
  | 0, _ => pick_mem e_cj_0
  | c + 1, h => absurd h (by omega))
theorem cl_ok {q : Nat × Nat × Nat} (h : q ∈ jcw) : jclw q ∈ jtbl := goodP q_cl tab_in (map_good (fun _ => rfl)) _ (List.mem_map.mpr ⟨q, h, rfl⟩)
theorem ci_ok {q : Nat × Nat × Int} (h : q ∈ jci) : jciw q ∈ jtbl := goodP q_ci tab_in (map_good (fun _ => rfl)) _ (List.mem_map.mpr ⟨q, h, rfl⟩)
theorem cj_ok {q : Nat × Nat × Int} (h : q ∈ jcj) : jcjw q ∈ jtbl := goodP q_cj tab_in (map_good (fun _ => rfl)) _ (List.mem_map.mpr ⟨q, h, rfl⟩)
def jolw (q : Nat × Nat) : Cond := Cond.methodLink (jcn.getD q.1 "") q.2 objectInit
def jalw (q : Nat × Nat) : Cond := Cond.methodLink (jcn.getD q.1 "") q.2 arraycopyName
set_option maxRecDepth 100000 in
theorem e_ol_0 : ((jol.map jolw).drop 0).take 40 = [350, 151, 284, 254, 35, 397, 410, 182, 303, 369, 188, 27, 1312].filterMap (fun i => (tables_1)[i]?) := by rfl
theorem q_ol : ∀ w ∈ jol.map jolw, w ∈ tables_1 := chunk_mem (n := 1) (by decide +kernel) (fun c hc => match c, hc with
  | 0, _ => pick_mem e_ol_0
  | c + 1, h => absurd h (by omega))
set_option maxRecDepth 100000 in
theorem e_al_0 : ((jal.map jalw).drop 0).take 40 = [997, 785, 643, 1030].filterMap (fun i => (tables_1)[i]?) := by rfl
theorem q_al : ∀ w ∈ jal.map jalw, w ∈ tables_1 := chunk_mem (n := 1) (by decide +kernel) (fun c hc => match c, hc with
  | 0, _ => pick_mem e_al_0
  | c + 1, h => absurd h (by omega))
theorem ol_ok {q : Nat × Nat} (h : q ∈ jol) : jolw q ∈ jtbl := goodP q_ol tab_in (map_good (fun _ => rfl)) _ (List.mem_map.mpr ⟨q, h, rfl⟩)
theorem al_ok {q : Nat × Nat} (h : q ∈ jal) : jalw q ∈ jtbl := goodP q_al tab_in (map_good (fun _ => rfl)) _ (List.mem_map.mpr ⟨q, h, rfl⟩)
def jmisc : List Cond := [.instanceMethod objectInit, .code objectInit ⟨#[0xb1]⟩ 1 none, .native arraycopyName, .static arraycopyName, .initialized "java/lang/System", .arrayClass .char, .arrayClass .int, .arrayClass .long, .arrayClass .boolean, .classLink RX8 24 "[[I"]
def jover : List Cond := [.arrayOver (.object RX1), .arrayOver (.object RX3), .arrayOver (.array .int)]
set_option maxRecDepth 100000 in
theorem e_ov_0 : ((jover).drop 0).take 40 = [286, 305, 307].filterMap (fun i => (tables_1)[i]?) := by rfl
theorem q_ov : ∀ w ∈ jover, w ∈ tables_1 := chunk_mem (n := 1) (by decide +kernel) (fun c hc => match c, hc with
  | 0, _ => pick_mem e_ov_0
  | c + 1, h => absurd h (by omega))
theorem ov_ok : ∀ w ∈ jover, w ∈ lw_tbl := fun w h => tab_in _ (q_ov w h)
set_option maxRecDepth 100000 in
theorem e_mi_0 : ((jmisc).drop 0).take 40 = [28, 29, 645, 644, 20, 1675, 145, 1676, 1677, 306].filterMap (fun i => (tables_1)[i]?) := by rfl
theorem q_mi : ∀ w ∈ jmisc, w ∈ tables_1 := chunk_mem (n := 1) (by decide +kernel) (fun c hc => match c, hc with
  | 0, _ => pick_mem e_mi_0
  | c + 1, h => absurd h (by omega))
theorem mi_ok {w : Cond} (k : Nat) (h : jmisc[k]? = some w) (hg : goodWord w = true) : w ∈ jtbl := mem_jtbl (tab_in _ (q_mi _ (List.mem_of_getElem? h))) hg
