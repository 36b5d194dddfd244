/-! what the tables say of the program -/
theorem mem_jtbl {w : Cond} (h : w ∈ lw_tbl) (hg : goodWord w = true) : w ∈ jtbl := List.mem_filter.mpr ⟨h, hg⟩
theorem mem_tab {w : Cond} (h : w ∈ tables_1) (hg : goodWord w = true) : w ∈ jtbl := mem_jtbl (List.mem_append_right _ h) hg
def jTyp (tc : Nat) : FieldType := match tc with
  | 0 => .int
  | 1 => .long
  | 2 => .boolean
  | 23 => .array .char
  | 24 => .array .int
  | 25 => .array .long
  | 26 => .array .boolean
  | 27 => .array (.object RX1)
  | 28 => .array (.object RX3)
  | 29 => .array (.array .int)
  | n => .object (jcn.getD (n - 10) "")
def jFT (c : Nat) : u_T := jTT.getD c TX0
theorem cls_ok : ∀ c : Nat, c ≤ 12 → vwCl[c]? = some (jcn.getD c "", jFT c, jnf.getD c 0)
  | 0, _ => rfl | 1, _ => rfl | 2, _ => rfl | 3, _ => rfl | 4, _ => rfl | 5, _ => rfl | 6, _ => rfl | 7, _ => rfl | 8, _ => rfl | 9, _ => rfl | 10, _ => rfl | 11, _ => rfl | 12, _ => rfl
  | n + 13, h => absurd h (by omega)
theorem ty_ok' : ∀ c, c < 13 → ∀ k, k < jnf.getD c 0 → parseFieldDescriptor ((jFT c) k).2.2.1 = some (jTyp (jty c k)) := by decide +kernel
theorem ty_ok {c : Nat} (h : c ≤ 12) : ∀ k, k < jnf.getD c 0 → parseFieldDescriptor ((jFT c) k).2.2.1 = some (jTyp (jty c k)) := ty_ok' c (by omega)
theorem nm_ok : ∀ c : Nat, c ≤ 12 → ∀ a, a < jnf.getD c 0 → ∀ b, b < jnf.getD c 0 → a ≠ b → ((jFT c) a).2.1 ≠ ((jFT c) b).2.1
  | 0, _ => nmX0 | 1, _ => nmX1 | 2, _ => nmX2 | 3, _ => nmX3 | 4, _ => nmX4 | 5, _ => nmX5 | 6, _ => nmX6 | 7, _ => nmX7 | 8, _ => nmX8 | 9, _ => nmX9 | 10, _ => nmX10 | 11, _ => nmX11 | 12, _ => nmX12
  | n + 13, h => absurd h (by omega)
theorem dl_ok' : ∀ c, c < 13 → ∀ k, k < jnf.getD c 0 → ((jFT c) k).1 = jcn.getD c "" := by decide +kernel
theorem tc_ok' : ∀ c, c < 13 → ∀ k, k < jnf.getD c 0 → jty c k ≤ 2 ∨ (10 ≤ jty c k ∧ jty c k ≤ 29) := by decide +kernel
def jlays : List Cond := (List.range 13).flatMap (fun c => u_ws (jcn.getD c "") (jFT c) (jnf.getD c 0))
def layp : List Nat := [355, 357, 359, 361, 166, 168, 170, 172, 174, 291, 293, 295, 264, 266, 268, 270, 272, 274, 276, 106, 108, 110, 112, 114, 116, 118, 120, 122, 124, 126, 128, 130, 132, 134, 136, 138, 140, 142, 400, 402, 413, 415, 212, 214, 216, 218, 220, 222, 224, 226, 228, 230, 232, 322, 324, 326, 328, 330, 332, 334, 336, 338, 340, 342, 377, 379, 381, 383, 385, 387, 389, 194, 196, 437, 439, 441, 443, 445, 447, 449, 451, 453, 455, 457, 459, 461, 463, 465, 467, 469, 471, 473, 1434, 1436, 1438, 1440, 1442, 1444, 1446, 1448, 1450, 1452, 1454, 1456, 1458, 1460, 1462, 1464, 1466, 1468, 1470, 1472, 1474, 1476, 1478, 1480, 1482, 1484, 1486, 1488, 1490, 1492, 1494, 1496, 1498, 1500, 1502, 1504, 1506, 1508, 1510, 1512, 1514, 1516, 1518, 1520, 1522, 1524, 1526, 1528, 1530, 1532, 1534, 1536, 1538, 1540, 1542, 1544, 1546, 1548, 1550, 1552, 1554, 1556, 1558, 1560, 1562, 1564, 1566, 1568, 1570, 1572, 1574, 1576, 1578, 1580, 1582, 1584, 1586, 1588, 1590, 1592, 1594, 1596, 1598, 1600, 1602, 1604, 1606, 1608, 1610, 1612, 1614, 1616, 1618, 1620, 1622, 1624, 1626, 1628, 1630, 1632, 1634, 1636, 1638, 1640, 1642, 1644, 1646, 1648, 1650, 1652, 1654, 1656, 1658, 1660, 1662, 1664, 1666, 1668, 1670, 1672]
theorem pick_mem {big ws : List Cond} {ps : List Nat} (h : ws = ps.filterMap (fun i => big[i]?)) : ∀ w ∈ ws, w ∈ big := by
  intro w hw
  rw [h] at hw
  obtain ⟨i, -, hi⟩ := List.mem_filterMap.mp hw
  exact List.mem_of_getElem? hi
set_option maxRecDepth 100000 in
theorem lay_eq : jlays = layp.filterMap (fun i => tables_1[i]?) := by rfl
theorem lay_tab : ∀ w ∈ jlays, w ∈ tables_1 := pick_mem lay_eq
theorem lay_good : ∀ w ∈ jlays, goodWord w = true := by decide +kernel
theorem lay_ok {c : Nat} (h : c ≤ 12) : ∀ w ∈ u_ws (jcn.getD c "") (jFT c) (jnf.getD c 0), w ∈ jtbl := fun w hw =>
  have hm : w ∈ jlays := List.mem_flatMap.mpr ⟨c, List.mem_range.mpr (by omega), hw⟩
  mem_tab (lay_tab w hm) (lay_good w hm)
def jfw (q : Nat × Nat × Nat × Nat) : Cond := Cond.fieldLink (jcn.getD q.1 "") q.2.1 (jcn.getD q.2.2.1 "") ((jFT q.2.2.1) q.2.2.2).2.1 ((jFT q.2.2.1) q.2.2.2).2.2.1
def flp : List Nat := [352, 353, 351, 354, 46, 54, 59, 43, 152, 155, 71, 159, 161, 164, 62, 44, 288, 289, 290, 259, 260, 261, 262, 255, 257, 263, 40, 51, 76, 104, 154, 49, 74, 158, 163, 66, 98, 70, 75, 78, 82, 85, 89, 92, 95, 99, 101, 102, 36, 39, 45, 50, 53, 58, 63, 67, 398, 399, 103, 37, 47, 52, 60, 55, 90, 79, 83, 93, 64, 100, 96, 69, 88, 77, 73, 411, 412, 256, 41, 199, 200, 201, 210, 202, 204, 208, 205, 206, 207, 203, 313, 314, 315, 316, 311, 312, 320, 321, 258, 317, 318, 42, 319, 372, 373, 374, 375, 370, 371, 57, 86, 376, 80, 156, 192, 193, 418, 419, 420, 421, 422, 423, 424, 425, 426, 427, 428, 429, 430, 431, 432, 433, 434, 435, 436, 38, 48, 56, 61, 65, 68, 72, 160, 162, 165, 91, 94, 81, 84, 157, 87, 153, 97, 105, 209, 211, 1314, 1322, 1323, 1324, 1325, 1326, 1327, 1328, 1329, 1330, 1331, 1332, 1333, 1334, 1335, 1336, 1337, 1338, 1339, 1340, 1341, 1342, 1343, 1344, 1345, 1346, 1347, 1348, 1349, 1350, 1351, 1352, 1354, 1355, 1356, 1357, 1358, 1359, 1360, 1361, 1362, 1367, 1368, 1377, 1383, 1384, 1385, 1386, 1387, 1388, 1389, 1390, 1391, 1394, 1396, 1397, 1399, 1400, 1401, 1402, 1403, 1404, 1405, 1406, 1407, 1408, 1409, 1410, 1411, 1412, 1413, 1414, 1415, 1416, 1417, 1418, 1419, 1420, 1421, 1422, 1424, 1428, 1432, 1315, 1319, 1320, 1316, 1317, 1318, 1353, 1366, 1423, 1425, 1426, 1427, 1363, 1364, 1321, 1365, 1392, 1395, 1379, 1369, 1370, 1371, 1372, 1373, 1374, 1429, 1378, 1375, 1376, 1380, 1381, 1382, 1393, 1398, 1430, 1431, 1433]
set_option maxRecDepth 100000 in
theorem fl_eq : jfl.map jfw = flp.filterMap (fun i => tables_1[i]?) := by rfl
theorem fl_tab : ∀ q ∈ jfl, jfw q ∈ tables_1 := fun q h => pick_mem fl_eq _ (List.mem_map.mpr ⟨q, h, rfl⟩)
theorem fl_rng : ∀ q ∈ jfl, q.2.2.1 ≤ 12 ∧ q.2.2.2 < jnf.getD q.2.2.1 0 := by decide +kernel
theorem fl_ok {e : Nat} {q : Nat × Nat × Nat × Nat} (h : jfl[e]? = some q) : jfw q ∈ jtbl ∧ q.2.2.1 ≤ 12 ∧ q.2.2.2 < jnf.getD q.2.2.1 0 :=
  have hm : q ∈ jfl := List.mem_of_getElem? h
  ⟨mem_tab (fl_tab q hm) rfl, fl_rng q hm⟩
