/-! ===== the law's cases ===== -/
theorem dt9_30 : th_dec code [(1300, .aload_n 1, 1), (1301, .aload_n 0, 1), (1302, .iload 4, 2), (1304, .iconst 1, 1), (1305, .iadd, 1), (1306, .iaload, 1), (1307, .aload_n 0, 1), (1308, .iload 4, 2), (1310, .iconst 2, 1), (1311, .iadd, 1), (1312, .iaload, 1), (1313, .aload_n 0, 1), (1314, .iload 4, 2), (1316, .iconst 3, 1), (1317, .iadd, 1), (1318, .iaload, 1), (1319, .invokevirtual 155, 3), (1322, .aload_n 2, 1), (1323, .aload_n 0, 1), (1324, .iload 4, 2), (1326, .iconst 1, 1), (1327, .iadd, 1), (1328, .iaload, 1), (1329, .aload_n 0, 1), (1330, .iload 4, 2), (1332, .iconst 2, 1), (1333, .iadd, 1), (1334, .iaload, 1), (1335, .aload_n 0, 1), (1336, .iload 4, 2), (1338, .iconst 3, 1), (1339, .iadd, 1), (1340, .iaload, 1), (1341, .invokevirtual 158, 3), (1344, .if_icmp .eq 476, 3)] = true := by decide +kernel
theorem dt9_31 : th_dec code [(1349, .aload_n 1, 1), (1350, .aload_n 0, 1), (1351, .iload 4, 2), (1353, .iconst 1, 1), (1354, .iadd, 1), (1355, .iaload, 1), (1356, .aload_n 0, 1), (1357, .iload 4, 2), (1359, .iconst 2, 1), (1360, .iadd, 1), (1361, .iaload, 1), (1362, .invokevirtual 159, 3), (1365, .aload_n 2, 1), (1366, .aload_n 0, 1), (1367, .iload 4, 2), (1369, .iconst 1, 1), (1370, .iadd, 1), (1371, .iaload, 1), (1372, .aload_n 0, 1), (1373, .iload 4, 2), (1375, .iconst 2, 1), (1376, .iadd, 1), (1377, .iaload, 1), (1378, .invokevirtual 162, 3), (1381, .if_icmp .eq 439, 3)] = true := by decide +kernel
theorem dt9_32 : th_dec code [(1386, .aload_n 1, 1), (1387, .invokevirtual 163, 3), (1390, .aload_n 2, 1), (1391, .invokevirtual 167, 3), (1394, .lcmp, 1), (1395, .ifCond .eq 425, 3)] = true := by decide +kernel
theorem dt9_33 : th_dec code [(1400, .aload_n 1, 1), (1401, .aload_n 0, 1), (1402, .iload 4, 2), (1404, .iconst 1, 1), (1405, .iadd, 1), (1406, .iaload, 1), (1407, .aload_n 0, 1), (1408, .iload 4, 2), (1410, .iconst 2, 1), (1411, .iadd, 1), (1412, .iaload, 1), (1413, .aload_n 0, 1), (1414, .iload 4, 2), (1416, .iconst 3, 1), (1417, .iadd, 1), (1418, .iaload, 1), (1419, .aload_n 0, 1), (1420, .iload 4, 2), (1422, .iconst 4, 1), (1423, .iadd, 1), (1424, .iaload, 1), (1425, .invokevirtual 168, 3), (1428, .aload_n 2, 1), (1429, .aload_n 0, 1), (1430, .iload 4, 2), (1432, .iconst 1, 1), (1433, .iadd, 1), (1434, .iaload, 1), (1435, .aload_n 0, 1), (1436, .iload 4, 2), (1438, .iconst 2, 1), (1439, .iadd, 1), (1440, .iaload, 1), (1441, .aload_n 0, 1), (1442, .iload 4, 2), (1444, .iconst 3, 1), (1445, .iadd, 1), (1446, .iaload, 1), (1447, .aload_n 0, 1), (1448, .iload 4, 2), (1450, .iconst 4, 1), (1451, .iadd, 1), (1452, .iaload, 1), (1453, .invokevirtual 172, 3), (1456, .if_icmp .eq 364, 3)] = true := by decide +kernel
theorem dt9_34 : th_dec code [(1461, .aload_n 1, 1), (1462, .aload_n 0, 1), (1463, .iload 4, 2), (1465, .iconst 1, 1), (1466, .iadd, 1), (1467, .iaload, 1), (1468, .aload_n 0, 1), (1469, .iload 4, 2), (1471, .iconst 2, 1), (1472, .iadd, 1), (1473, .iaload, 1), (1474, .invokevirtual 173, 3), (1477, .aload_n 2, 1), (1478, .aload_n 0, 1), (1479, .iload 4, 2), (1481, .iconst 1, 1), (1482, .iadd, 1), (1483, .iaload, 1), (1484, .aload_n 0, 1), (1485, .iload 4, 2), (1487, .iconst 2, 1), (1488, .iadd, 1), (1489, .iaload, 1), (1490, .invokevirtual 176, 3), (1493, .if_icmp .eq 327, 3)] = true := by decide +kernel
theorem dt9_35 : th_dec code [(1498, .aload_n 1, 1), (1499, .aload_n 0, 1), (1500, .iload 4, 2), (1502, .iconst 1, 1), (1503, .iadd, 1), (1504, .iaload, 1), (1505, .aload_n 0, 1), (1506, .iload 4, 2), (1508, .iconst 2, 1), (1509, .iadd, 1), (1510, .iaload, 1), (1511, .invokevirtual 177, 3), (1514, .aload_n 2, 1), (1515, .aload_n 0, 1), (1516, .iload 4, 2), (1518, .iconst 1, 1), (1519, .iadd, 1), (1520, .iaload, 1), (1521, .aload_n 0, 1), (1522, .iload 4, 2), (1524, .iconst 2, 1), (1525, .iadd, 1), (1526, .iaload, 1), (1527, .invokevirtual 180, 3), (1530, .if_icmp .eq 290, 3)] = true := by decide +kernel
theorem dt9_36 : th_dec code [(1535, .aload_n 1, 1), (1536, .aload_n 0, 1), (1537, .iload 4, 2), (1539, .iconst 1, 1), (1540, .iadd, 1), (1541, .iaload, 1), (1542, .aload_n 0, 1), (1543, .iload 4, 2), (1545, .iconst 2, 1), (1546, .iadd, 1), (1547, .iaload, 1), (1548, .invokevirtual 181, 3), (1551, .aload_n 2, 1), (1552, .aload_n 0, 1), (1553, .iload 4, 2), (1555, .iconst 1, 1), (1556, .iadd, 1), (1557, .iaload, 1), (1558, .aload_n 0, 1), (1559, .iload 4, 2), (1561, .iconst 2, 1), (1562, .iadd, 1), (1563, .iaload, 1), (1564, .invokevirtual 184, 3), (1567, .if_icmp .eq 253, 3)] = true := by decide +kernel
theorem dt9_37 : th_dec code [(1572, .aload_n 1, 1), (1573, .aload_n 0, 1), (1574, .iload 4, 2), (1576, .iconst 1, 1), (1577, .iadd, 1), (1578, .iaload, 1), (1579, .invokevirtual 185, 3), (1582, .aload_n 2, 1), (1583, .aload_n 0, 1), (1584, .iload 4, 2), (1586, .iconst 1, 1), (1587, .iadd, 1), (1588, .iaload, 1), (1589, .invokevirtual 188, 3), (1592, .if_icmp .eq 228, 3)] = true := by decide +kernel
theorem dt9_38 : th_dec code [(1597, .aload_n 1, 1), (1598, .aload_n 0, 1), (1599, .iload 4, 2), (1601, .iconst 1, 1), (1602, .iadd, 1), (1603, .iaload, 1), (1604, .invokevirtual 189, 3), (1607, .aload_n 2, 1), (1608, .aload_n 0, 1), (1609, .iload 4, 2), (1611, .iconst 1, 1), (1612, .iadd, 1), (1613, .iaload, 1), (1614, .invokevirtual 192, 3), (1617, .if_icmp .eq 203, 3)] = true := by decide +kernel
theorem dt9_39 : th_dec code [(1622, .aload_n 1, 1), (1623, .aload_n 0, 1), (1624, .iload 4, 2), (1626, .iconst 1, 1), (1627, .iadd, 1), (1628, .iaload, 1), (1629, .aload_n 0, 1), (1630, .iload 4, 2), (1632, .iconst 2, 1), (1633, .iadd, 1), (1634, .iaload, 1), (1635, .invokevirtual 193, 3), (1638, .aload_n 2, 1), (1639, .aload_n 0, 1), (1640, .iload 4, 2), (1642, .iconst 1, 1), (1643, .iadd, 1), (1644, .iaload, 1), (1645, .aload_n 0, 1), (1646, .iload 4, 2), (1648, .iconst 2, 1), (1649, .iadd, 1), (1650, .iaload, 1), (1651, .invokevirtual 196, 3), (1654, .if_icmp .eq 166, 3)] = true := by decide +kernel
theorem dt9_40 : th_dec code [(1659, .aload_n 1, 1), (1660, .aload_n 0, 1), (1661, .iload 4, 2), (1663, .iconst 1, 1), (1664, .iadd, 1), (1665, .iaload, 1), (1666, .aload_n 0, 1), (1667, .iload 4, 2), (1669, .iconst 2, 1), (1670, .iadd, 1), (1671, .iaload, 1), (1672, .aload_n 0, 1), (1673, .iload 4, 2), (1675, .iconst 3, 1), (1676, .iadd, 1), (1677, .iaload, 1), (1678, .invokevirtual 197, 3), (1681, .aload_n 2, 1), (1682, .aload_n 0, 1), (1683, .iload 4, 2), (1685, .iconst 1, 1), (1686, .iadd, 1), (1687, .iaload, 1), (1688, .aload_n 0, 1), (1689, .iload 4, 2), (1691, .iconst 2, 1), (1692, .iadd, 1), (1693, .iaload, 1), (1694, .aload_n 0, 1), (1695, .iload 4, 2), (1697, .iconst 3, 1), (1698, .iadd, 1), (1699, .iaload, 1), (1700, .invokevirtual 200, 3), (1703, .if_icmp .eq 117, 3)] = true := by decide +kernel
theorem dt9_41 : th_dec code [(1708, .aload_n 1, 1), (1709, .invokevirtual 201, 3), (1712, .aload_n 2, 1), (1713, .invokevirtual 204, 3), (1716, .if_icmp .eq 104, 3)] = true := by decide +kernel
theorem dt9_42 : th_dec code [(1721, .aload_n 1, 1), (1722, .aload_n 0, 1), (1723, .iload 4, 2), (1725, .iconst 1, 1), (1726, .iadd, 1), (1727, .iaload, 1), (1728, .invokevirtual 205, 3), (1731, .aload_n 2, 1), (1732, .aload_n 0, 1), (1733, .iload 4, 2), (1735, .iconst 1, 1), (1736, .iadd, 1), (1737, .iaload, 1), (1738, .invokevirtual 208, 3), (1741, .if_icmp .eq 79, 3)] = true := by decide +kernel
theorem dt9_43 : th_dec code [(1746, .aload_n 1, 1), (1747, .aload_n 0, 1), (1748, .iload 4, 2), (1750, .iconst 1, 1), (1751, .iadd, 1), (1752, .iaload, 1), (1753, .aload_n 0, 1), (1754, .iload 4, 2), (1756, .iconst 2, 1), (1757, .iadd, 1), (1758, .iaload, 1), (1759, .aload_n 0, 1), (1760, .iload 4, 2), (1762, .iconst 3, 1), (1763, .iadd, 1), (1764, .iaload, 1), (1765, .invokevirtual 209, 3), (1768, .aload_n 2, 1), (1769, .aload_n 0, 1), (1770, .iload 4, 2), (1772, .iconst 1, 1), (1773, .iadd, 1), (1774, .iaload, 1), (1775, .aload_n 0, 1), (1776, .iload 4, 2), (1778, .iconst 2, 1), (1779, .iadd, 1), (1780, .iaload, 1), (1781, .aload_n 0, 1), (1782, .iload 4, 2), (1784, .iconst 3, 1), (1785, .iadd, 1), (1786, .iaload, 1), (1787, .invokevirtual 212, 3), (1790, .if_icmp .eq 30, 3)] = true := by decide +kernel
theorem dt9_44 : th_dec code [(1795, .aload_n 1, 1), (1796, .aload_n 0, 1), (1797, .iload 4, 2), (1799, .iconst 1, 1), (1800, .iadd, 1), (1801, .iaload, 1), (1802, .invokevirtual 213, 3), (1805, .aload_n 2, 1), (1806, .aload_n 0, 1), (1807, .iload 4, 2), (1809, .iconst 1, 1), (1810, .iadd, 1), (1811, .iaload, 1), (1812, .invokevirtual 216, 3), (1815, .if_icmp .eq 5, 3)] = true := by decide +kernel
section
variable {p : Program} {l : Launch} {e : Env} {s : State} {m : MethodId} {below : List Frame} {meth : Method} {c : Code} {b L : Nat} {xs : Nat → Int32} {D : va_G} {cI cZ cJ : ClassId} {adC adM : Nat → Nat} {qo sa : Nat} {h mm : th_H} {o : Int64} {cells slots i n : Nat}
set_option maxHeartbeats 4000000 in
set_option maxRecDepth 100000 in
/-- swings -/
theorem lc_30 (X : lw_X p s m meth c b L xs D cI cZ cJ adC adM qo sa) (hL : L ≤ 3072) (hi : i + 6 ≤ L) (hn : n < 512) (hR : Rel n h mm) (hcs : cells + 1 ≤ 1134 ∧ slots + 6 ≤ 14355) (kk : ∀ h2 m2 o2, Rel (n + 1) h2 m2 → lw_V p l e s m below meth c b D cI cZ cJ adC adM qo (cells + 1) (slots + 6) 23 (i + 6) [] [] h2 m2 o2) : lw_V p l e s m below meth c b D cI cZ cJ adC adM qo cells slots 1300 i [] [] h mm o := by
  obtain ⟨r, h2, m2, e1, e2, hR2⟩ := s_swings (xs (i + 1)) (xs (i + 2)) (xs (i + 3)) n h mm hn hR
  have hc0 : cells ≤ 1134 ∧ slots ≤ 14355 := ⟨by omega, by omega⟩
  refine L_ald1 (pc := 1300) X (th_da dt9_30 0 rfl) ?_
  refine L_arg (pc := 1301) (j := 1) X hL hi (by decide) (by decide) (th_da dt9_30 1 rfl) (th_da dt9_30 2 rfl) (th_da dt9_30 3 rfl) (th_da dt9_30 4 rfl) (th_da dt9_30 5 rfl) ?_
  refine L_arg (pc := 1307) (j := 2) X hL hi (by decide) (by decide) (th_da dt9_30 6 rfl) (th_da dt9_30 7 rfl) (th_da dt9_30 8 rfl) (th_da dt9_30 9 rfl) (th_da dt9_30 10 rfl) ?_
  refine L_arg (pc := 1313) (j := 3) X hL hi (by decide) (by decide) (th_da dt9_30 11 rfl) (th_da dt9_30 12 rfl) (th_da dt9_30 13 rfl) (th_da dt9_30 14 rfl) (th_da dt9_30 15 rfl) ?_
  refine L_callC (pc := 1319) (st := []) X hc0 [xs (i + 1), xs (i + 2), xs (i + 3)] (th_da dt9_30 16 rfl) (mX3_swings l _ _ _ _ _ _ e1) w9cd_X3_swings w9ml_155 w9im_X3_swings w9se_X3_swings w9in_X3 h9_X3_swings ⟨Nat.le_of_ble_eq_true rfl, Nat.le_of_ble_eq_true rfl⟩ (Nat.le_of_ble_eq_true rfl) rfl ?_
  refine L_ald2 (pc := 1322) X (th_da dt9_30 17 rfl) ?_
  refine L_arg (pc := 1323) (j := 1) X hL hi (by decide) (by decide) (th_da dt9_30 18 rfl) (th_da dt9_30 19 rfl) (th_da dt9_30 20 rfl) (th_da dt9_30 21 rfl) (th_da dt9_30 22 rfl) ?_
  refine L_arg (pc := 1329) (j := 2) X hL hi (by decide) (by decide) (th_da dt9_30 23 rfl) (th_da dt9_30 24 rfl) (th_da dt9_30 25 rfl) (th_da dt9_30 26 rfl) (th_da dt9_30 27 rfl) ?_
  refine L_arg (pc := 1335) (j := 3) X hL hi (by decide) (by decide) (th_da dt9_30 28 rfl) (th_da dt9_30 29 rfl) (th_da dt9_30 30 rfl) (th_da dt9_30 31 rfl) (th_da dt9_30 32 rfl) ?_
  refine L_callM (pc := 1341) (st := [.int r]) X hc0 [xs (i + 1), xs (i + 2), xs (i + 3)] (th_da dt9_30 33 rfl) (mX4_swings l _ _ _ _ _ _ e2) w9cd_X4_swings w9ml_158 w9im_X4_swings w9se_X4_swings w9in_X4 h9_X4_swings ⟨Nat.le_of_ble_eq_true rfl, Nat.le_of_ble_eq_true rfl⟩ (Nat.le_of_ble_eq_true rfl) rfl ?_
  refine L_eq (pc := 1344) (tgt := 1820) X (th_da dt9_30 34 rfl) (by decide) ?_
  exact L_wide (Nat.le_add_right _ _) (Nat.le_add_right _ _) (L_next X (kk h2 m2 o hR2))
set_option maxHeartbeats 4000000 in
set_option maxRecDepth 100000 in
/-- peak -/
theorem lc_31 (X : lw_X p s m meth c b L xs D cI cZ cJ adC adM qo sa) (hL : L ≤ 3072) (hi : i + 6 ≤ L) (hn : n < 512) (hR : Rel n h mm) (hcs : cells + 1 ≤ 1134 ∧ slots + 6 ≤ 14355) (kk : ∀ h2 m2 o2, Rel (n + 1) h2 m2 → lw_V p l e s m below meth c b D cI cZ cJ adC adM qo (cells + 1) (slots + 6) 23 (i + 6) [] [] h2 m2 o2) : lw_V p l e s m below meth c b D cI cZ cJ adC adM qo cells slots 1349 i [] [] h mm o := by
  obtain ⟨r, h2, m2, e1, e2, hR2⟩ := s_peak (xs (i + 1)) (xs (i + 2)) n h mm hn hR
  have hc0 : cells ≤ 1134 ∧ slots ≤ 14355 := ⟨by omega, by omega⟩
  refine L_ald1 (pc := 1349) X (th_da dt9_31 0 rfl) ?_
  refine L_arg (pc := 1350) (j := 1) X hL hi (by decide) (by decide) (th_da dt9_31 1 rfl) (th_da dt9_31 2 rfl) (th_da dt9_31 3 rfl) (th_da dt9_31 4 rfl) (th_da dt9_31 5 rfl) ?_
  refine L_arg (pc := 1356) (j := 2) X hL hi (by decide) (by decide) (th_da dt9_31 6 rfl) (th_da dt9_31 7 rfl) (th_da dt9_31 8 rfl) (th_da dt9_31 9 rfl) (th_da dt9_31 10 rfl) ?_
  refine L_callC (pc := 1362) (st := []) X hc0 [xs (i + 1), xs (i + 2)] (th_da dt9_31 11 rfl) (mX3_peak l _ _ _ _ _ e1) w9cd_X3_peak w9ml_159 w9im_X3_peak w9se_X3_peak w9in_X3 h9_X3_peak ⟨Nat.le_of_ble_eq_true rfl, Nat.le_of_ble_eq_true rfl⟩ (Nat.le_of_ble_eq_true rfl) rfl ?_
  refine L_ald2 (pc := 1365) X (th_da dt9_31 12 rfl) ?_
  refine L_arg (pc := 1366) (j := 1) X hL hi (by decide) (by decide) (th_da dt9_31 13 rfl) (th_da dt9_31 14 rfl) (th_da dt9_31 15 rfl) (th_da dt9_31 16 rfl) (th_da dt9_31 17 rfl) ?_
  refine L_arg (pc := 1372) (j := 2) X hL hi (by decide) (by decide) (th_da dt9_31 18 rfl) (th_da dt9_31 19 rfl) (th_da dt9_31 20 rfl) (th_da dt9_31 21 rfl) (th_da dt9_31 22 rfl) ?_
  refine L_callM (pc := 1378) (st := [.int r]) X hc0 [xs (i + 1), xs (i + 2)] (th_da dt9_31 23 rfl) (mX4_peak l _ _ _ _ _ e2) w9cd_X4_peak w9ml_162 w9im_X4_peak w9se_X4_peak w9in_X4 h9_X4_peak ⟨Nat.le_of_ble_eq_true rfl, Nat.le_of_ble_eq_true rfl⟩ (Nat.le_of_ble_eq_true rfl) rfl ?_
  refine L_eq (pc := 1381) (tgt := 1820) X (th_da dt9_31 24 rfl) (by decide) ?_
  exact L_wide (Nat.le_add_right _ _) (Nat.le_add_right _ _) (L_next X (kk h2 m2 o hR2))
set_option maxHeartbeats 4000000 in
set_option maxRecDepth 100000 in
/-- off -/
theorem lc_32 (X : lw_X p s m meth c b L xs D cI cZ cJ adC adM qo sa) (hL : L ≤ 3072) (hi : i + 6 ≤ L) (hn : n < 512) (hR : Rel n h mm) (hcs : cells + 1 ≤ 1134 ∧ slots + 6 ≤ 14355) (kk : ∀ h2 m2 o2, Rel (n + 1) h2 m2 → lw_V p l e s m below meth c b D cI cZ cJ adC adM qo (cells + 1) (slots + 6) 23 (i + 6) [] [] h2 m2 o2) : lw_V p l e s m below meth c b D cI cZ cJ adC adM qo cells slots 1386 i [] [] h mm o := by
  obtain ⟨r, h2, m2, e1, e2, hR2⟩ := s_off  n h mm hn hR
  have hc0 : cells ≤ 1134 ∧ slots ≤ 14355 := ⟨by omega, by omega⟩
  refine L_ald1 (pc := 1386) X (th_da dt9_32 0 rfl) ?_
  refine L_callC (pc := 1387) (st := []) X hc0 [] (th_da dt9_32 1 rfl) (mX3_off l _ _ _ e1) w9cd_X3_off w9ml_163 w9im_X3_off w9se_X3_off w9in_X3 h9_X3_off ⟨Nat.le_of_ble_eq_true rfl, Nat.le_of_ble_eq_true rfl⟩ (Nat.le_of_ble_eq_true rfl) rfl ?_
  refine L_ald2 (pc := 1390) X (th_da dt9_32 2 rfl) ?_
  refine L_callM (pc := 1391) (st := [.long r]) X hc0 [] (th_da dt9_32 3 rfl) (mX4_off l _ _ _ e2) w9cd_X4_off w9ml_167 w9im_X4_off w9se_X4_off w9in_X4 h9_X4_off ⟨Nat.le_of_ble_eq_true rfl, Nat.le_of_ble_eq_true rfl⟩ (Nat.le_of_ble_eq_true rfl) rfl ?_
  refine L_leq (pc := 1394) (tgt := 1820) X (th_da dt9_32 4 rfl) (th_da dt9_32 5 rfl) (by decide) ?_
  exact L_wide (Nat.le_add_right _ _) (Nat.le_add_right _ _) (L_next X (kk h2 m2 o hR2))
set_option maxHeartbeats 4000000 in
set_option maxRecDepth 100000 in
/-- would -/
theorem lc_33 (X : lw_X p s m meth c b L xs D cI cZ cJ adC adM qo sa) (hL : L ≤ 3072) (hi : i + 6 ≤ L) (hn : n < 512) (hR : Rel n h mm) (hcs : cells + 1 ≤ 1134 ∧ slots + 6 ≤ 14355) (kk : ∀ h2 m2 o2, Rel (n + 1) h2 m2 → lw_V p l e s m below meth c b D cI cZ cJ adC adM qo (cells + 1) (slots + 6) 23 (i + 6) [] [] h2 m2 o2) : lw_V p l e s m below meth c b D cI cZ cJ adC adM qo cells slots 1400 i [] [] h mm o := by
  obtain ⟨r, h2, m2, e1, e2, hR2⟩ := s_would (xs (i + 1)) (xs (i + 2)) (xs (i + 3)) (xs (i + 4)) n h mm hn hR
  have hc0 : cells ≤ 1134 ∧ slots ≤ 14355 := ⟨by omega, by omega⟩
  refine L_ald1 (pc := 1400) X (th_da dt9_33 0 rfl) ?_
  refine L_arg (pc := 1401) (j := 1) X hL hi (by decide) (by decide) (th_da dt9_33 1 rfl) (th_da dt9_33 2 rfl) (th_da dt9_33 3 rfl) (th_da dt9_33 4 rfl) (th_da dt9_33 5 rfl) ?_
  refine L_arg (pc := 1407) (j := 2) X hL hi (by decide) (by decide) (th_da dt9_33 6 rfl) (th_da dt9_33 7 rfl) (th_da dt9_33 8 rfl) (th_da dt9_33 9 rfl) (th_da dt9_33 10 rfl) ?_
  refine L_arg (pc := 1413) (j := 3) X hL hi (by decide) (by decide) (th_da dt9_33 11 rfl) (th_da dt9_33 12 rfl) (th_da dt9_33 13 rfl) (th_da dt9_33 14 rfl) (th_da dt9_33 15 rfl) ?_
  refine L_arg (pc := 1419) (j := 4) X hL hi (by decide) (by decide) (th_da dt9_33 16 rfl) (th_da dt9_33 17 rfl) (th_da dt9_33 18 rfl) (th_da dt9_33 19 rfl) (th_da dt9_33 20 rfl) ?_
  refine L_callC (pc := 1425) (st := []) X hc0 [xs (i + 1), xs (i + 2), xs (i + 3), xs (i + 4)] (th_da dt9_33 21 rfl) (mX3_would l _ _ _ _ _ _ _ e1) w9cd_X3_would w9ml_168 w9im_X3_would w9se_X3_would w9in_X3 h9_X3_would ⟨Nat.le_of_ble_eq_true rfl, Nat.le_of_ble_eq_true rfl⟩ (Nat.le_of_ble_eq_true rfl) rfl ?_
  refine L_ald2 (pc := 1428) X (th_da dt9_33 22 rfl) ?_
  refine L_arg (pc := 1429) (j := 1) X hL hi (by decide) (by decide) (th_da dt9_33 23 rfl) (th_da dt9_33 24 rfl) (th_da dt9_33 25 rfl) (th_da dt9_33 26 rfl) (th_da dt9_33 27 rfl) ?_
  refine L_arg (pc := 1435) (j := 2) X hL hi (by decide) (by decide) (th_da dt9_33 28 rfl) (th_da dt9_33 29 rfl) (th_da dt9_33 30 rfl) (th_da dt9_33 31 rfl) (th_da dt9_33 32 rfl) ?_
  refine L_arg (pc := 1441) (j := 3) X hL hi (by decide) (by decide) (th_da dt9_33 33 rfl) (th_da dt9_33 34 rfl) (th_da dt9_33 35 rfl) (th_da dt9_33 36 rfl) (th_da dt9_33 37 rfl) ?_
  refine L_arg (pc := 1447) (j := 4) X hL hi (by decide) (by decide) (th_da dt9_33 38 rfl) (th_da dt9_33 39 rfl) (th_da dt9_33 40 rfl) (th_da dt9_33 41 rfl) (th_da dt9_33 42 rfl) ?_
  refine L_callM (pc := 1453) (st := [.int r]) X hc0 [xs (i + 1), xs (i + 2), xs (i + 3), xs (i + 4)] (th_da dt9_33 43 rfl) (mX4_would l _ _ _ _ _ _ _ e2) w9cd_X4_would w9ml_172 w9im_X4_would w9se_X4_would w9in_X4 h9_X4_would ⟨Nat.le_of_ble_eq_true rfl, Nat.le_of_ble_eq_true rfl⟩ (Nat.le_of_ble_eq_true rfl) rfl ?_
  refine L_eq (pc := 1456) (tgt := 1820) X (th_da dt9_33 44 rfl) (by decide) ?_
  exact L_wide (Nat.le_add_right _ _) (Nat.le_add_right _ _) (L_next X (kk h2 m2 o hR2))
set_option maxHeartbeats 4000000 in
set_option maxRecDepth 100000 in
/-- better -/
theorem lc_34 (X : lw_X p s m meth c b L xs D cI cZ cJ adC adM qo sa) (hL : L ≤ 3072) (hi : i + 6 ≤ L) (hn : n < 512) (hR : Rel n h mm) (hcs : cells + 1 ≤ 1134 ∧ slots + 6 ≤ 14355) (kk : ∀ h2 m2 o2, Rel (n + 1) h2 m2 → lw_V p l e s m below meth c b D cI cZ cJ adC adM qo (cells + 1) (slots + 6) 23 (i + 6) [] [] h2 m2 o2) : lw_V p l e s m below meth c b D cI cZ cJ adC adM qo cells slots 1461 i [] [] h mm o := by
  obtain ⟨r, h2, m2, e1, e2, hR2⟩ := s_better (xs (i + 1)) (xs (i + 2)) n h mm hn hR
  have hc0 : cells ≤ 1134 ∧ slots ≤ 14355 := ⟨by omega, by omega⟩
  refine L_ald1 (pc := 1461) X (th_da dt9_34 0 rfl) ?_
  refine L_arg (pc := 1462) (j := 1) X hL hi (by decide) (by decide) (th_da dt9_34 1 rfl) (th_da dt9_34 2 rfl) (th_da dt9_34 3 rfl) (th_da dt9_34 4 rfl) (th_da dt9_34 5 rfl) ?_
  refine L_arg (pc := 1468) (j := 2) X hL hi (by decide) (by decide) (th_da dt9_34 6 rfl) (th_da dt9_34 7 rfl) (th_da dt9_34 8 rfl) (th_da dt9_34 9 rfl) (th_da dt9_34 10 rfl) ?_
  refine L_callC (pc := 1474) (st := []) X hc0 [xs (i + 1), xs (i + 2)] (th_da dt9_34 11 rfl) (mX3_better l _ _ _ _ _ e1) w9cd_X3_better w9ml_173 w9im_X3_better w9se_X3_better w9in_X3 h9_X3_better ⟨Nat.le_of_ble_eq_true rfl, Nat.le_of_ble_eq_true rfl⟩ (Nat.le_of_ble_eq_true rfl) rfl ?_
  refine L_ald2 (pc := 1477) X (th_da dt9_34 12 rfl) ?_
  refine L_arg (pc := 1478) (j := 1) X hL hi (by decide) (by decide) (th_da dt9_34 13 rfl) (th_da dt9_34 14 rfl) (th_da dt9_34 15 rfl) (th_da dt9_34 16 rfl) (th_da dt9_34 17 rfl) ?_
  refine L_arg (pc := 1484) (j := 2) X hL hi (by decide) (by decide) (th_da dt9_34 18 rfl) (th_da dt9_34 19 rfl) (th_da dt9_34 20 rfl) (th_da dt9_34 21 rfl) (th_da dt9_34 22 rfl) ?_
  refine L_callM (pc := 1490) (st := [.int r]) X hc0 [xs (i + 1), xs (i + 2)] (th_da dt9_34 23 rfl) (mX4_better l _ _ _ _ _ e2) w9cd_X4_better w9ml_176 w9im_X4_better w9se_X4_better w9in_X4 h9_X4_better ⟨Nat.le_of_ble_eq_true rfl, Nat.le_of_ble_eq_true rfl⟩ (Nat.le_of_ble_eq_true rfl) rfl ?_
  refine L_eq (pc := 1493) (tgt := 1820) X (th_da dt9_34 24 rfl) (by decide) ?_
  exact L_wide (Nat.le_add_right _ _) (Nat.le_add_right _ _) (L_next X (kk h2 m2 o hR2))
set_option maxHeartbeats 4000000 in
set_option maxRecDepth 100000 in
/-- spares -/
theorem lc_35 (X : lw_X p s m meth c b L xs D cI cZ cJ adC adM qo sa) (hL : L ≤ 3072) (hi : i + 6 ≤ L) (hn : n < 512) (hR : Rel n h mm) (hcs : cells + 1 ≤ 1134 ∧ slots + 6 ≤ 14355) (kk : ∀ h2 m2 o2, Rel (n + 1) h2 m2 → lw_V p l e s m below meth c b D cI cZ cJ adC adM qo (cells + 1) (slots + 6) 23 (i + 6) [] [] h2 m2 o2) : lw_V p l e s m below meth c b D cI cZ cJ adC adM qo cells slots 1498 i [] [] h mm o := by
  obtain ⟨r, h2, m2, e1, e2, hR2⟩ := s_spares (xs (i + 1)) (xs (i + 2)) n h mm hn hR
  have hc0 : cells ≤ 1134 ∧ slots ≤ 14355 := ⟨by omega, by omega⟩
  refine L_ald1 (pc := 1498) X (th_da dt9_35 0 rfl) ?_
  refine L_arg (pc := 1499) (j := 1) X hL hi (by decide) (by decide) (th_da dt9_35 1 rfl) (th_da dt9_35 2 rfl) (th_da dt9_35 3 rfl) (th_da dt9_35 4 rfl) (th_da dt9_35 5 rfl) ?_
  refine L_arg (pc := 1505) (j := 2) X hL hi (by decide) (by decide) (th_da dt9_35 6 rfl) (th_da dt9_35 7 rfl) (th_da dt9_35 8 rfl) (th_da dt9_35 9 rfl) (th_da dt9_35 10 rfl) ?_
  refine L_callC (pc := 1511) (st := []) X hc0 [xs (i + 1), xs (i + 2)] (th_da dt9_35 11 rfl) (mX3_spares l _ _ _ _ _ e1) w9cd_X3_spares w9ml_177 w9im_X3_spares w9se_X3_spares w9in_X3 h9_X3_spares ⟨Nat.le_of_ble_eq_true rfl, Nat.le_of_ble_eq_true rfl⟩ (Nat.le_of_ble_eq_true rfl) rfl ?_
  refine L_ald2 (pc := 1514) X (th_da dt9_35 12 rfl) ?_
  refine L_arg (pc := 1515) (j := 1) X hL hi (by decide) (by decide) (th_da dt9_35 13 rfl) (th_da dt9_35 14 rfl) (th_da dt9_35 15 rfl) (th_da dt9_35 16 rfl) (th_da dt9_35 17 rfl) ?_
  refine L_arg (pc := 1521) (j := 2) X hL hi (by decide) (by decide) (th_da dt9_35 18 rfl) (th_da dt9_35 19 rfl) (th_da dt9_35 20 rfl) (th_da dt9_35 21 rfl) (th_da dt9_35 22 rfl) ?_
  refine L_callM (pc := 1527) (st := [.int r]) X hc0 [xs (i + 1), xs (i + 2)] (th_da dt9_35 23 rfl) (mX4_spares l _ _ _ _ _ e2) w9cd_X4_spares w9ml_180 w9im_X4_spares w9se_X4_spares w9in_X4 h9_X4_spares ⟨Nat.le_of_ble_eq_true rfl, Nat.le_of_ble_eq_true rfl⟩ (Nat.le_of_ble_eq_true rfl) rfl ?_
  refine L_eq (pc := 1530) (tgt := 1820) X (th_da dt9_35 24 rfl) (by decide) ?_
  exact L_wide (Nat.le_add_right _ _) (Nat.le_add_right _ _) (L_next X (kk h2 m2 o hR2))
set_option maxHeartbeats 4000000 in
set_option maxRecDepth 100000 in
/-- weightFor -/
theorem lc_36 (X : lw_X p s m meth c b L xs D cI cZ cJ adC adM qo sa) (hL : L ≤ 3072) (hi : i + 6 ≤ L) (hn : n < 512) (hR : Rel n h mm) (hcs : cells + 1 ≤ 1134 ∧ slots + 6 ≤ 14355) (kk : ∀ h2 m2 o2, Rel (n + 1) h2 m2 → lw_V p l e s m below meth c b D cI cZ cJ adC adM qo (cells + 1) (slots + 6) 23 (i + 6) [] [] h2 m2 o2) : lw_V p l e s m below meth c b D cI cZ cJ adC adM qo cells slots 1535 i [] [] h mm o := by
  obtain ⟨r, h2, m2, e1, e2, hR2⟩ := s_weightFor (xs (i + 1)) (xs (i + 2)) n h mm hn hR
  have hc0 : cells ≤ 1134 ∧ slots ≤ 14355 := ⟨by omega, by omega⟩
  refine L_ald1 (pc := 1535) X (th_da dt9_36 0 rfl) ?_
  refine L_arg (pc := 1536) (j := 1) X hL hi (by decide) (by decide) (th_da dt9_36 1 rfl) (th_da dt9_36 2 rfl) (th_da dt9_36 3 rfl) (th_da dt9_36 4 rfl) (th_da dt9_36 5 rfl) ?_
  refine L_arg (pc := 1542) (j := 2) X hL hi (by decide) (by decide) (th_da dt9_36 6 rfl) (th_da dt9_36 7 rfl) (th_da dt9_36 8 rfl) (th_da dt9_36 9 rfl) (th_da dt9_36 10 rfl) ?_
  refine L_callC (pc := 1548) (st := []) X hc0 [xs (i + 1), xs (i + 2)] (th_da dt9_36 11 rfl) (mX3_weightFor l _ _ _ _ _ e1) w9cd_X3_weightFor w9ml_181 w9im_X3_weightFor w9se_X3_weightFor w9in_X3 h9_X3_weightFor ⟨Nat.le_of_ble_eq_true rfl, Nat.le_of_ble_eq_true rfl⟩ (Nat.le_of_ble_eq_true rfl) rfl ?_
  refine L_ald2 (pc := 1551) X (th_da dt9_36 12 rfl) ?_
  refine L_arg (pc := 1552) (j := 1) X hL hi (by decide) (by decide) (th_da dt9_36 13 rfl) (th_da dt9_36 14 rfl) (th_da dt9_36 15 rfl) (th_da dt9_36 16 rfl) (th_da dt9_36 17 rfl) ?_
  refine L_arg (pc := 1558) (j := 2) X hL hi (by decide) (by decide) (th_da dt9_36 18 rfl) (th_da dt9_36 19 rfl) (th_da dt9_36 20 rfl) (th_da dt9_36 21 rfl) (th_da dt9_36 22 rfl) ?_
  refine L_callM (pc := 1564) (st := [.int r]) X hc0 [xs (i + 1), xs (i + 2)] (th_da dt9_36 23 rfl) (mX4_weightFor l _ _ _ _ _ e2) w9cd_X4_weightFor w9ml_184 w9im_X4_weightFor w9se_X4_weightFor w9in_X4 h9_X4_weightFor ⟨Nat.le_of_ble_eq_true rfl, Nat.le_of_ble_eq_true rfl⟩ (Nat.le_of_ble_eq_true rfl) rfl ?_
  refine L_eq (pc := 1567) (tgt := 1820) X (th_da dt9_36 24 rfl) (by decide) ?_
  exact L_wide (Nat.le_add_right _ _) (Nat.le_add_right _ _) (L_next X (kk h2 m2 o hR2))
set_option maxHeartbeats 4000000 in
set_option maxRecDepth 100000 in
/-- roomFor -/
theorem lc_37 (X : lw_X p s m meth c b L xs D cI cZ cJ adC adM qo sa) (hL : L ≤ 3072) (hi : i + 6 ≤ L) (hn : n < 512) (hR : Rel n h mm) (hcs : cells + 1 ≤ 1134 ∧ slots + 6 ≤ 14355) (kk : ∀ h2 m2 o2, Rel (n + 1) h2 m2 → lw_V p l e s m below meth c b D cI cZ cJ adC adM qo (cells + 1) (slots + 6) 23 (i + 6) [] [] h2 m2 o2) : lw_V p l e s m below meth c b D cI cZ cJ adC adM qo cells slots 1572 i [] [] h mm o := by
  obtain ⟨r, h2, m2, e1, e2, hR2⟩ := s_roomFor (xs (i + 1)) n h mm hn hR
  have hc0 : cells ≤ 1134 ∧ slots ≤ 14355 := ⟨by omega, by omega⟩
  refine L_ald1 (pc := 1572) X (th_da dt9_37 0 rfl) ?_
  refine L_arg (pc := 1573) (j := 1) X hL hi (by decide) (by decide) (th_da dt9_37 1 rfl) (th_da dt9_37 2 rfl) (th_da dt9_37 3 rfl) (th_da dt9_37 4 rfl) (th_da dt9_37 5 rfl) ?_
  refine L_callC (pc := 1579) (st := []) X hc0 [xs (i + 1)] (th_da dt9_37 6 rfl) (mX3_roomFor l _ _ _ _ e1) w9cd_X3_roomFor w9ml_185 w9im_X3_roomFor w9se_X3_roomFor w9in_X3 h9_X3_roomFor ⟨Nat.le_of_ble_eq_true rfl, Nat.le_of_ble_eq_true rfl⟩ (Nat.le_of_ble_eq_true rfl) rfl ?_
  refine L_ald2 (pc := 1582) X (th_da dt9_37 7 rfl) ?_
  refine L_arg (pc := 1583) (j := 1) X hL hi (by decide) (by decide) (th_da dt9_37 8 rfl) (th_da dt9_37 9 rfl) (th_da dt9_37 10 rfl) (th_da dt9_37 11 rfl) (th_da dt9_37 12 rfl) ?_
  refine L_callM (pc := 1589) (st := [.int r]) X hc0 [xs (i + 1)] (th_da dt9_37 13 rfl) (mX4_roomFor l _ _ _ _ e2) w9cd_X4_roomFor w9ml_188 w9im_X4_roomFor w9se_X4_roomFor w9in_X4 h9_X4_roomFor ⟨Nat.le_of_ble_eq_true rfl, Nat.le_of_ble_eq_true rfl⟩ (Nat.le_of_ble_eq_true rfl) rfl ?_
  refine L_eq (pc := 1592) (tgt := 1820) X (th_da dt9_37 14 rfl) (by decide) ?_
  exact L_wide (Nat.le_add_right _ _) (Nat.le_add_right _ _) (L_next X (kk h2 m2 o hR2))
set_option maxHeartbeats 4000000 in
set_option maxRecDepth 100000 in
/-- touched -/
theorem lc_38 (X : lw_X p s m meth c b L xs D cI cZ cJ adC adM qo sa) (hL : L ≤ 3072) (hi : i + 6 ≤ L) (hn : n < 512) (hR : Rel n h mm) (hcs : cells + 1 ≤ 1134 ∧ slots + 6 ≤ 14355) (kk : ∀ h2 m2 o2, Rel (n + 1) h2 m2 → lw_V p l e s m below meth c b D cI cZ cJ adC adM qo (cells + 1) (slots + 6) 23 (i + 6) [] [] h2 m2 o2) : lw_V p l e s m below meth c b D cI cZ cJ adC adM qo cells slots 1597 i [] [] h mm o := by
  obtain ⟨r, h2, m2, e1, e2, hR2⟩ := s_touched (xs (i + 1)) n h mm hn hR
  have hc0 : cells ≤ 1134 ∧ slots ≤ 14355 := ⟨by omega, by omega⟩
  refine L_ald1 (pc := 1597) X (th_da dt9_38 0 rfl) ?_
  refine L_arg (pc := 1598) (j := 1) X hL hi (by decide) (by decide) (th_da dt9_38 1 rfl) (th_da dt9_38 2 rfl) (th_da dt9_38 3 rfl) (th_da dt9_38 4 rfl) (th_da dt9_38 5 rfl) ?_
  refine L_callC (pc := 1604) (st := []) X hc0 [xs (i + 1)] (th_da dt9_38 6 rfl) (mX3_touched l _ _ _ _ e1) w9cd_X3_touched w9ml_189 w9im_X3_touched w9se_X3_touched w9in_X3 h9_X3_touched ⟨Nat.le_of_ble_eq_true rfl, Nat.le_of_ble_eq_true rfl⟩ (Nat.le_of_ble_eq_true rfl) rfl ?_
  refine L_ald2 (pc := 1607) X (th_da dt9_38 7 rfl) ?_
  refine L_arg (pc := 1608) (j := 1) X hL hi (by decide) (by decide) (th_da dt9_38 8 rfl) (th_da dt9_38 9 rfl) (th_da dt9_38 10 rfl) (th_da dt9_38 11 rfl) (th_da dt9_38 12 rfl) ?_
  refine L_callM (pc := 1614) (st := [.int r]) X hc0 [xs (i + 1)] (th_da dt9_38 13 rfl) (mX4_touched l _ _ _ _ e2) w9cd_X4_touched w9ml_192 w9im_X4_touched w9se_X4_touched w9in_X4 h9_X4_touched ⟨Nat.le_of_ble_eq_true rfl, Nat.le_of_ble_eq_true rfl⟩ (Nat.le_of_ble_eq_true rfl) rfl ?_
  refine L_eq (pc := 1617) (tgt := 1820) X (th_da dt9_38 14 rfl) (by decide) ?_
  exact L_wide (Nat.le_add_right _ _) (Nat.le_add_right _ _) (L_next X (kk h2 m2 o hR2))
set_option maxHeartbeats 4000000 in
set_option maxRecDepth 100000 in
/-- without -/
theorem lc_39 (X : lw_X p s m meth c b L xs D cI cZ cJ adC adM qo sa) (hL : L ≤ 3072) (hi : i + 6 ≤ L) (hn : n < 512) (hR : Rel n h mm) (hcs : cells + 1 ≤ 1134 ∧ slots + 6 ≤ 14355) (kk : ∀ h2 m2 o2, Rel (n + 1) h2 m2 → lw_V p l e s m below meth c b D cI cZ cJ adC adM qo (cells + 1) (slots + 6) 23 (i + 6) [] [] h2 m2 o2) : lw_V p l e s m below meth c b D cI cZ cJ adC adM qo cells slots 1622 i [] [] h mm o := by
  obtain ⟨r, h2, m2, e1, e2, hR2⟩ := s_without (xs (i + 1)) (xs (i + 2)) n h mm hn hR
  have hc0 : cells ≤ 1134 ∧ slots ≤ 14355 := ⟨by omega, by omega⟩
  refine L_ald1 (pc := 1622) X (th_da dt9_39 0 rfl) ?_
  refine L_arg (pc := 1623) (j := 1) X hL hi (by decide) (by decide) (th_da dt9_39 1 rfl) (th_da dt9_39 2 rfl) (th_da dt9_39 3 rfl) (th_da dt9_39 4 rfl) (th_da dt9_39 5 rfl) ?_
  refine L_arg (pc := 1629) (j := 2) X hL hi (by decide) (by decide) (th_da dt9_39 6 rfl) (th_da dt9_39 7 rfl) (th_da dt9_39 8 rfl) (th_da dt9_39 9 rfl) (th_da dt9_39 10 rfl) ?_
  refine L_callC (pc := 1635) (st := []) X hc0 [xs (i + 1), xs (i + 2)] (th_da dt9_39 11 rfl) (mX3_without l _ _ _ _ _ e1) w9cd_X3_without w9ml_193 w9im_X3_without w9se_X3_without w9in_X3 h9_X3_without ⟨Nat.le_of_ble_eq_true rfl, Nat.le_of_ble_eq_true rfl⟩ (Nat.le_of_ble_eq_true rfl) rfl ?_
  refine L_ald2 (pc := 1638) X (th_da dt9_39 12 rfl) ?_
  refine L_arg (pc := 1639) (j := 1) X hL hi (by decide) (by decide) (th_da dt9_39 13 rfl) (th_da dt9_39 14 rfl) (th_da dt9_39 15 rfl) (th_da dt9_39 16 rfl) (th_da dt9_39 17 rfl) ?_
  refine L_arg (pc := 1645) (j := 2) X hL hi (by decide) (by decide) (th_da dt9_39 18 rfl) (th_da dt9_39 19 rfl) (th_da dt9_39 20 rfl) (th_da dt9_39 21 rfl) (th_da dt9_39 22 rfl) ?_
  refine L_callM (pc := 1651) (st := [.int r]) X hc0 [xs (i + 1), xs (i + 2)] (th_da dt9_39 23 rfl) (mX4_without l _ _ _ _ _ e2) w9cd_X4_without w9ml_196 w9im_X4_without w9se_X4_without w9in_X4 h9_X4_without ⟨Nat.le_of_ble_eq_true rfl, Nat.le_of_ble_eq_true rfl⟩ (Nat.le_of_ble_eq_true rfl) rfl ?_
  refine L_eq (pc := 1654) (tgt := 1820) X (th_da dt9_39 24 rfl) (by decide) ?_
  exact L_wide (Nat.le_add_right _ _) (Nat.le_add_right _ _) (L_next X (kk h2 m2 o hR2))
set_option maxHeartbeats 4000000 in
set_option maxRecDepth 100000 in
/-- wider -/
theorem lc_40 (X : lw_X p s m meth c b L xs D cI cZ cJ adC adM qo sa) (hL : L ≤ 3072) (hi : i + 6 ≤ L) (hn : n < 512) (hR : Rel n h mm) (hcs : cells + 1 ≤ 1134 ∧ slots + 6 ≤ 14355) (kk : ∀ h2 m2 o2, Rel (n + 1) h2 m2 → lw_V p l e s m below meth c b D cI cZ cJ adC adM qo (cells + 1) (slots + 6) 23 (i + 6) [] [] h2 m2 o2) : lw_V p l e s m below meth c b D cI cZ cJ adC adM qo cells slots 1659 i [] [] h mm o := by
  obtain ⟨r, h2, m2, e1, e2, hR2⟩ := s_wider (xs (i + 1)) (xs (i + 2)) (xs (i + 3)) n h mm hn hR
  have hc0 : cells ≤ 1134 ∧ slots ≤ 14355 := ⟨by omega, by omega⟩
  refine L_ald1 (pc := 1659) X (th_da dt9_40 0 rfl) ?_
  refine L_arg (pc := 1660) (j := 1) X hL hi (by decide) (by decide) (th_da dt9_40 1 rfl) (th_da dt9_40 2 rfl) (th_da dt9_40 3 rfl) (th_da dt9_40 4 rfl) (th_da dt9_40 5 rfl) ?_
  refine L_arg (pc := 1666) (j := 2) X hL hi (by decide) (by decide) (th_da dt9_40 6 rfl) (th_da dt9_40 7 rfl) (th_da dt9_40 8 rfl) (th_da dt9_40 9 rfl) (th_da dt9_40 10 rfl) ?_
  refine L_arg (pc := 1672) (j := 3) X hL hi (by decide) (by decide) (th_da dt9_40 11 rfl) (th_da dt9_40 12 rfl) (th_da dt9_40 13 rfl) (th_da dt9_40 14 rfl) (th_da dt9_40 15 rfl) ?_
  refine L_callC (pc := 1678) (st := []) X hc0 [xs (i + 1), xs (i + 2), xs (i + 3)] (th_da dt9_40 16 rfl) (mX3_wider l _ _ _ _ _ _ e1) w9cd_X3_wider w9ml_197 w9im_X3_wider w9se_X3_wider w9in_X3 h9_X3_wider ⟨Nat.le_of_ble_eq_true rfl, Nat.le_of_ble_eq_true rfl⟩ (Nat.le_of_ble_eq_true rfl) rfl ?_
  refine L_ald2 (pc := 1681) X (th_da dt9_40 17 rfl) ?_
  refine L_arg (pc := 1682) (j := 1) X hL hi (by decide) (by decide) (th_da dt9_40 18 rfl) (th_da dt9_40 19 rfl) (th_da dt9_40 20 rfl) (th_da dt9_40 21 rfl) (th_da dt9_40 22 rfl) ?_
  refine L_arg (pc := 1688) (j := 2) X hL hi (by decide) (by decide) (th_da dt9_40 23 rfl) (th_da dt9_40 24 rfl) (th_da dt9_40 25 rfl) (th_da dt9_40 26 rfl) (th_da dt9_40 27 rfl) ?_
  refine L_arg (pc := 1694) (j := 3) X hL hi (by decide) (by decide) (th_da dt9_40 28 rfl) (th_da dt9_40 29 rfl) (th_da dt9_40 30 rfl) (th_da dt9_40 31 rfl) (th_da dt9_40 32 rfl) ?_
  refine L_callM (pc := 1700) (st := [.int r]) X hc0 [xs (i + 1), xs (i + 2), xs (i + 3)] (th_da dt9_40 33 rfl) (mX4_wider l _ _ _ _ _ _ e2) w9cd_X4_wider w9ml_200 w9im_X4_wider w9se_X4_wider w9in_X4 h9_X4_wider ⟨Nat.le_of_ble_eq_true rfl, Nat.le_of_ble_eq_true rfl⟩ (Nat.le_of_ble_eq_true rfl) rfl ?_
  refine L_eq (pc := 1703) (tgt := 1820) X (th_da dt9_40 34 rfl) (by decide) ?_
  exact L_wide (Nat.le_add_right _ _) (Nat.le_add_right _ _) (L_next X (kk h2 m2 o hR2))
set_option maxHeartbeats 4000000 in
set_option maxRecDepth 100000 in
/-- tight -/
theorem lc_41 (X : lw_X p s m meth c b L xs D cI cZ cJ adC adM qo sa) (hL : L ≤ 3072) (hi : i + 6 ≤ L) (hn : n < 512) (hR : Rel n h mm) (hcs : cells + 1 ≤ 1134 ∧ slots + 6 ≤ 14355) (kk : ∀ h2 m2 o2, Rel (n + 1) h2 m2 → lw_V p l e s m below meth c b D cI cZ cJ adC adM qo (cells + 1) (slots + 6) 23 (i + 6) [] [] h2 m2 o2) : lw_V p l e s m below meth c b D cI cZ cJ adC adM qo cells slots 1708 i [] [] h mm o := by
  obtain ⟨r, h2, m2, e1, e2, hR2⟩ := s_tight  n h mm hn hR
  have hc0 : cells ≤ 1134 ∧ slots ≤ 14355 := ⟨by omega, by omega⟩
  refine L_ald1 (pc := 1708) X (th_da dt9_41 0 rfl) ?_
  refine L_callC (pc := 1709) (st := []) X hc0 [] (th_da dt9_41 1 rfl) (mX3_tight l _ _ _ e1) w9cd_X3_tight w9ml_201 w9im_X3_tight w9se_X3_tight w9in_X3 h9_X3_tight ⟨Nat.le_of_ble_eq_true rfl, Nat.le_of_ble_eq_true rfl⟩ (Nat.le_of_ble_eq_true rfl) rfl ?_
  refine L_ald2 (pc := 1712) X (th_da dt9_41 2 rfl) ?_
  refine L_callM (pc := 1713) (st := [.int r]) X hc0 [] (th_da dt9_41 3 rfl) (mX4_tight l _ _ _ e2) w9cd_X4_tight w9ml_204 w9im_X4_tight w9se_X4_tight w9in_X4 h9_X4_tight ⟨Nat.le_of_ble_eq_true rfl, Nat.le_of_ble_eq_true rfl⟩ (Nat.le_of_ble_eq_true rfl) rfl ?_
  refine L_eq (pc := 1716) (tgt := 1820) X (th_da dt9_41 4 rfl) (by decide) ?_
  exact L_wide (Nat.le_add_right _ _) (Nat.le_add_right _ _) (L_next X (kk h2 m2 o hR2))
set_option maxHeartbeats 4000000 in
set_option maxRecDepth 100000 in
/-- enough -/
theorem lc_42 (X : lw_X p s m meth c b L xs D cI cZ cJ adC adM qo sa) (hL : L ≤ 3072) (hi : i + 6 ≤ L) (hn : n < 512) (hR : Rel n h mm) (hcs : cells + 1 ≤ 1134 ∧ slots + 6 ≤ 14355) (kk : ∀ h2 m2 o2, Rel (n + 1) h2 m2 → lw_V p l e s m below meth c b D cI cZ cJ adC adM qo (cells + 1) (slots + 6) 23 (i + 6) [] [] h2 m2 o2) : lw_V p l e s m below meth c b D cI cZ cJ adC adM qo cells slots 1721 i [] [] h mm o := by
  obtain ⟨r, h2, m2, e1, e2, hR2⟩ := s_enough (xs (i + 1)) n h mm hn hR
  have hc0 : cells ≤ 1134 ∧ slots ≤ 14355 := ⟨by omega, by omega⟩
  refine L_ald1 (pc := 1721) X (th_da dt9_42 0 rfl) ?_
  refine L_arg (pc := 1722) (j := 1) X hL hi (by decide) (by decide) (th_da dt9_42 1 rfl) (th_da dt9_42 2 rfl) (th_da dt9_42 3 rfl) (th_da dt9_42 4 rfl) (th_da dt9_42 5 rfl) ?_
  refine L_callC (pc := 1728) (st := []) X hc0 [xs (i + 1)] (th_da dt9_42 6 rfl) (mX3_enough l _ _ _ _ e1) w9cd_X3_enough w9ml_205 w9im_X3_enough w9se_X3_enough w9in_X3 h9_X3_enough ⟨Nat.le_of_ble_eq_true rfl, Nat.le_of_ble_eq_true rfl⟩ (Nat.le_of_ble_eq_true rfl) rfl ?_
  refine L_ald2 (pc := 1731) X (th_da dt9_42 7 rfl) ?_
  refine L_arg (pc := 1732) (j := 1) X hL hi (by decide) (by decide) (th_da dt9_42 8 rfl) (th_da dt9_42 9 rfl) (th_da dt9_42 10 rfl) (th_da dt9_42 11 rfl) (th_da dt9_42 12 rfl) ?_
  refine L_callM (pc := 1738) (st := [.int r]) X hc0 [xs (i + 1)] (th_da dt9_42 13 rfl) (mX4_enough l _ _ _ _ e2) w9cd_X4_enough w9ml_208 w9im_X4_enough w9se_X4_enough w9in_X4 h9_X4_enough ⟨Nat.le_of_ble_eq_true rfl, Nat.le_of_ble_eq_true rfl⟩ (Nat.le_of_ble_eq_true rfl) rfl ?_
  refine L_eq (pc := 1741) (tgt := 1820) X (th_da dt9_42 14 rfl) (by decide) ?_
  exact L_wide (Nat.le_add_right _ _) (Nat.le_add_right _ _) (L_next X (kk h2 m2 o hR2))
set_option maxHeartbeats 4000000 in
set_option maxRecDepth 100000 in
/-- storm -/
theorem lc_43 (X : lw_X p s m meth c b L xs D cI cZ cJ adC adM qo sa) (hL : L ≤ 3072) (hi : i + 6 ≤ L) (hn : n < 512) (hR : Rel n h mm) (hcs : cells + 1 ≤ 1134 ∧ slots + 6 ≤ 14355) (kk : ∀ h2 m2 o2, Rel (n + 1) h2 m2 → lw_V p l e s m below meth c b D cI cZ cJ adC adM qo (cells + 1) (slots + 6) 23 (i + 6) [] [] h2 m2 o2) : lw_V p l e s m below meth c b D cI cZ cJ adC adM qo cells slots 1746 i [] [] h mm o := by
  obtain ⟨r, h2, m2, e1, e2, hR2⟩ := s_storm (xs (i + 1)) (xs (i + 2)) (xs (i + 3)) n h mm hn hR
  have hc0 : cells ≤ 1134 ∧ slots ≤ 14355 := ⟨by omega, by omega⟩
  refine L_ald1 (pc := 1746) X (th_da dt9_43 0 rfl) ?_
  refine L_arg (pc := 1747) (j := 1) X hL hi (by decide) (by decide) (th_da dt9_43 1 rfl) (th_da dt9_43 2 rfl) (th_da dt9_43 3 rfl) (th_da dt9_43 4 rfl) (th_da dt9_43 5 rfl) ?_
  refine L_arg (pc := 1753) (j := 2) X hL hi (by decide) (by decide) (th_da dt9_43 6 rfl) (th_da dt9_43 7 rfl) (th_da dt9_43 8 rfl) (th_da dt9_43 9 rfl) (th_da dt9_43 10 rfl) ?_
  refine L_arg (pc := 1759) (j := 3) X hL hi (by decide) (by decide) (th_da dt9_43 11 rfl) (th_da dt9_43 12 rfl) (th_da dt9_43 13 rfl) (th_da dt9_43 14 rfl) (th_da dt9_43 15 rfl) ?_
  refine L_callC (pc := 1765) (st := []) X hc0 [xs (i + 1), xs (i + 2), xs (i + 3)] (th_da dt9_43 16 rfl) (mX3_storm l _ _ _ _ _ _ e1) w9cd_X3_storm w9ml_209 w9im_X3_storm w9se_X3_storm w9in_X3 h9_X3_storm ⟨Nat.le_of_ble_eq_true rfl, Nat.le_of_ble_eq_true rfl⟩ (Nat.le_of_ble_eq_true rfl) rfl ?_
  refine L_ald2 (pc := 1768) X (th_da dt9_43 17 rfl) ?_
  refine L_arg (pc := 1769) (j := 1) X hL hi (by decide) (by decide) (th_da dt9_43 18 rfl) (th_da dt9_43 19 rfl) (th_da dt9_43 20 rfl) (th_da dt9_43 21 rfl) (th_da dt9_43 22 rfl) ?_
  refine L_arg (pc := 1775) (j := 2) X hL hi (by decide) (by decide) (th_da dt9_43 23 rfl) (th_da dt9_43 24 rfl) (th_da dt9_43 25 rfl) (th_da dt9_43 26 rfl) (th_da dt9_43 27 rfl) ?_
  refine L_arg (pc := 1781) (j := 3) X hL hi (by decide) (by decide) (th_da dt9_43 28 rfl) (th_da dt9_43 29 rfl) (th_da dt9_43 30 rfl) (th_da dt9_43 31 rfl) (th_da dt9_43 32 rfl) ?_
  refine L_callM (pc := 1787) (st := [.int r]) X hc0 [xs (i + 1), xs (i + 2), xs (i + 3)] (th_da dt9_43 33 rfl) (mX4_storm l _ _ _ _ _ _ e2) w9cd_X4_storm w9ml_212 w9im_X4_storm w9se_X4_storm w9in_X4 h9_X4_storm ⟨Nat.le_of_ble_eq_true rfl, Nat.le_of_ble_eq_true rfl⟩ (Nat.le_of_ble_eq_true rfl) rfl ?_
  refine L_eq (pc := 1790) (tgt := 1820) X (th_da dt9_43 34 rfl) (by decide) ?_
  exact L_wide (Nat.le_add_right _ _) (Nat.le_add_right _ _) (L_next X (kk h2 m2 o hR2))
set_option maxHeartbeats 4000000 in
set_option maxRecDepth 100000 in
/-- count -/
theorem lc_44 (X : lw_X p s m meth c b L xs D cI cZ cJ adC adM qo sa) (hL : L ≤ 3072) (hi : i + 6 ≤ L) (hn : n < 512) (hR : Rel n h mm) (hcs : cells + 1 ≤ 1134 ∧ slots + 6 ≤ 14355) (kk : ∀ h2 m2 o2, Rel (n + 1) h2 m2 → lw_V p l e s m below meth c b D cI cZ cJ adC adM qo (cells + 1) (slots + 6) 23 (i + 6) [] [] h2 m2 o2) : lw_V p l e s m below meth c b D cI cZ cJ adC adM qo cells slots 1795 i [] [] h mm o := by
  obtain ⟨r, h2, m2, e1, e2, hR2⟩ := s_count (xs (i + 1)) n h mm hn hR
  have hc0 : cells ≤ 1134 ∧ slots ≤ 14355 := ⟨by omega, by omega⟩
  refine L_ald1 (pc := 1795) X (th_da dt9_44 0 rfl) ?_
  refine L_arg (pc := 1796) (j := 1) X hL hi (by decide) (by decide) (th_da dt9_44 1 rfl) (th_da dt9_44 2 rfl) (th_da dt9_44 3 rfl) (th_da dt9_44 4 rfl) (th_da dt9_44 5 rfl) ?_
  refine L_callC (pc := 1802) (st := []) X hc0 [xs (i + 1)] (th_da dt9_44 6 rfl) (mX3_count l _ _ _ _ e1) w9cd_X3_count w9ml_213 w9im_X3_count w9se_X3_count w9in_X3 h9_X3_count ⟨Nat.le_of_ble_eq_true rfl, Nat.le_of_ble_eq_true rfl⟩ (Nat.le_of_ble_eq_true rfl) rfl ?_
  refine L_ald2 (pc := 1805) X (th_da dt9_44 7 rfl) ?_
  refine L_arg (pc := 1806) (j := 1) X hL hi (by decide) (by decide) (th_da dt9_44 8 rfl) (th_da dt9_44 9 rfl) (th_da dt9_44 10 rfl) (th_da dt9_44 11 rfl) (th_da dt9_44 12 rfl) ?_
  refine L_callM (pc := 1812) (st := [.int r]) X hc0 [xs (i + 1)] (th_da dt9_44 13 rfl) (mX4_count l _ _ _ _ e2) w9cd_X4_count w9ml_216 w9im_X4_count w9se_X4_count w9in_X4 h9_X4_count ⟨Nat.le_of_ble_eq_true rfl, Nat.le_of_ble_eq_true rfl⟩ (Nat.le_of_ble_eq_true rfl) rfl ?_
  refine L_eq (pc := 1815) (tgt := 1820) X (th_da dt9_44 14 rfl) (by decide) ?_
  exact L_wide (Nat.le_add_right _ _) (Nat.le_add_right _ _) (L_next X (kk h2 m2 o hR2))
end
