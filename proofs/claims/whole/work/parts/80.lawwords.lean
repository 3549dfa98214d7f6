theorem mem_pos {big ws : List Cond} (ps : List Nat) (hp : ws = ps.filterMap (fun i => big[i]?)) : ∀ w ∈ ws, w ∈ big := by
  intro w hw
  rw [hp] at hw
  obtain ⟨i, -, hi⟩ := List.mem_filterMap.mp hw
  exact List.mem_of_getElem? hi
set_option maxRecDepth 20000 in
theorem lwp_wsL_law0_r1 : ∀ w ∈ wsL_law0_r1, w ∈ lw_tbl := mem_pos [93, 94, 59, 1356, 1357, 77, 1768, 1767, 95, 96, 97, 98, 99, 100, 101, 102, 60, 401, 402, 330, 331, 73, 403, 343] (by decide +kernel)
set_option maxRecDepth 20000 in
theorem lwp_wsL_law0_r2 : ∀ w ∈ wsL_law0_r2, w ∈ lw_tbl := mem_pos [344, 74, 404, 364, 365, 75, 405, 381, 382, 76, 406, 407, 399, 140, 65, 149, 408, 409, 103, 104, 105, 106, 107, 108] (by decide +kernel)
set_option maxRecDepth 20000 in
theorem lwp_wsL_law0_r3 : ∀ w ∈ wsL_law0_r3, w ∈ lw_tbl := mem_pos [61, 287, 157, 158, 66, 292, 297, 171, 114, 64, 301, 302, 173, 303, 304, 309, 110, 111, 112, 113, 150, 139, 151, 115] (by decide +kernel)
set_option maxRecDepth 20000 in
theorem lwp_wsL_law0_r4 : ∀ w ∈ wsL_law0_r4, w ∈ lw_tbl := mem_pos [116, 117, 125, 127, 118, 119, 63, 120, 129, 121, 122, 62, 123, 124, 141, 142, 143, 144, 145, 160, 161, 162, 170, 163] (by decide +kernel)
set_option maxRecDepth 20000 in
theorem lwp_wsL_law0_r5 : ∀ w ∈ wsL_law0_r5, w ∈ lw_tbl := mem_pos [164, 172, 174, 175, 176, 177, 178, 179, 180, 181, 182, 128, 183, 184, 185, 186, 130, 131, 187, 189, 0, 190, 191, 193] (by decide +kernel)
set_option maxRecDepth 20000 in
theorem lwp_wsL_law0_r6 : ∀ w ∈ wsL_law0_r6, w ∈ lw_tbl := mem_pos [1, 194, 195, 197, 2, 198, 245, 203, 68, 204, 246, 199, 200, 67, 201, 202, 205, 206, 207, 208, 209, 210, 69, 211] (by decide +kernel)
set_option maxRecDepth 20000 in
theorem lwp_wsL_law0_r7 : ∀ w ∈ wsL_law0_r7, w ∈ lw_tbl := mem_pos [212, 1797, 213, 232, 233, 234, 235, 236, 238, 239, 240, 241, 242, 244, 243, 70, 247, 248, 249, 250, 157, 251, 252, 253] (by decide +kernel)
set_option maxRecDepth 20000 in
theorem lwp_wsL_law0_r8 : ∀ w ∈ wsL_law0_r8, w ∈ lw_tbl := mem_pos [254, 255, 256, 71, 257, 258, 259, 72, 260, 261, 262, 263, 264, 265, 266, 267, 268, 269, 270, 271, 272, 273, 274, 275] (by decide +kernel)
set_option maxRecDepth 20000 in
theorem lwp_wsL_law0_r9 : ∀ w ∈ wsL_law0_r9, w ∈ lw_tbl := mem_pos [276, 277, 278, 279, 280, 281, 282, 283, 284, 286, 332, 333, 334, 335, 339, 336, 337, 338, 345, 346, 347, 348, 351, 353] (by decide +kernel)
set_option maxRecDepth 20000 in
theorem lwp_wsL_law0_r10 : ∀ w ∈ wsL_law0_r10, w ∈ lw_tbl := mem_pos [349, 350, 366, 367, 368, 369, 372, 370, 371, 384, 385, 386, 387, 391, 389, 393, 400, 1358, 1359, 1360, 1361, 1364, 1366, 1367] (by decide +kernel)
set_option maxRecDepth 20000 in
theorem lwp_wsL_law0_r11 : ∀ w ∈ wsL_law0_r11, w ∈ lw_tbl := mem_pos [1372, 1373, 1374, 1375, 1376, 1377, 1378, 1379, 1380, 1382, 1383, 1384, 1389, 1390, 1391, 1392, 1393, 1394, 1395, 620, 621, 58, 622, 623] (by decide +kernel)
set_option maxRecDepth 20000 in
theorem lwp_wsL_law0_r12 : ∀ w ∈ wsL_law0_r12, w ∈ lw_tbl := mem_pos [624, 625, 626, 627, 628, 629, 81, 697, 82, 433, 434, 435, 436, 713, 714, 715, 716, 725, 717, 718, 719, 720, 721, 722] (by decide +kernel)
set_option maxRecDepth 20000 in
theorem lwp_wsL_law0_r13 : ∀ w ∈ wsL_law0_r13, w ∈ lw_tbl := mem_pos [724, 726, 1469, 1470, 1471, 1472, 1363, 1473, 1474, 1475, 1476, 1478, 24, 1479, 1362, 1480, 1482, 25, 1483, 1465, 1466, 1467, 1468, 727] (by decide +kernel)
set_option maxRecDepth 20000 in
theorem lwp_wsL_law0_r14 : ∀ w ∈ wsL_law0_r14, w ∈ lw_tbl := mem_pos [728, 729, 730, 731, 732, 733, 735, 1484, 1485, 1486, 1487, 1488, 736, 737, 738, 739, 740, 741, 742, 744, 745, 746, 747, 748] (by decide +kernel)
set_option maxRecDepth 20000 in
theorem lwp_wsL_law0_r15 : ∀ w ∈ wsL_law0_r15, w ∈ lw_tbl := mem_pos [749, 1489, 1490, 1491, 1492, 750, 751, 752, 753, 754, 755, 756, 757, 758, 83, 774, 460, 461, 462, 1493, 1494, 1495, 1496, 429] (by decide +kernel)
set_option maxRecDepth 20000 in
theorem lwp_wsL_law0_r16 : ∀ w ∈ wsL_law0_r16, w ∈ lw_tbl := mem_pos [430, 431, 432, 1497, 1498, 1499, 1500, 1365, 775, 776, 777, 778, 779, 780, 781, 557, 558, 559, 560, 445, 1626, 1627, 1628, 1629] (by decide +kernel)
set_option maxRecDepth 20000 in
theorem lwp_wsL_law0_r17 : ∀ w ∈ wsL_law0_r17, w ∈ lw_tbl := mem_pos [1371, 784, 785, 786, 787, 788, 789, 790, 791, 792, 793, 794, 795, 442, 443, 444, 446, 447, 448, 449, 139, 450, 451, 452] (by decide +kernel)
set_option maxRecDepth 20000 in
theorem lwp_wsL_law0_r18 : ∀ w ∈ wsL_law0_r18, w ∈ lw_tbl := mem_pos [453, 454, 455, 456, 457, 458, 459, 796, 797, 798, 799, 801, 802, 803, 804, 805, 807, 8, 808, 809, 810, 811, 812, 813] (by decide +kernel)
set_option maxRecDepth 20000 in
theorem lwp_wsL_law0_r19 : ∀ w ∈ wsL_law0_r19, w ∈ lw_tbl := mem_pos [814, 815, 816, 817, 489, 818, 820, 9, 821, 1050, 1051, 1052, 495, 496, 497, 498, 1053, 1054, 1055, 1056, 1057, 513, 514, 515] (by decide +kernel)
set_option maxRecDepth 20000 in
theorem lwp_wsL_law0_r20 : ∀ w ∈ wsL_law0_r20, w ∈ lw_tbl := mem_pos [516, 517, 518, 519, 520, 468, 469, 470, 521, 522, 523, 524, 525, 526, 527, 528, 529, 530, 531, 532, 533, 534, 535, 1058] (by decide +kernel)
set_option maxRecDepth 20000 in
theorem lwp_wsL_law0_r21 : ∀ w ∈ wsL_law0_r21, w ∈ lw_tbl := mem_pos [1060, 11, 1061, 1062, 537, 538, 539, 540, 504, 505, 506, 507, 473, 474, 475, 476, 1063, 1064, 1065, 1066, 1068, 12, 1069, 1070] (by decide +kernel)
set_option maxRecDepth 20000 in
theorem lwp_wsL_law0_r22 : ∀ w ∈ wsL_law0_r22, w ∈ lw_tbl := mem_pos [1071, 1072, 1073, 1074, 1075, 1076, 1077, 1078, 1079, 1080, 1081, 1082, 1083, 1084, 1086, 13, 1087, 1088, 549, 550, 551, 1089, 1091, 14] (by decide +kernel)
set_option maxRecDepth 20000 in
theorem lwp_wsL_law0_r23 : ∀ w ∈ wsL_law0_r23, w ∈ lw_tbl := mem_pos [1092, 1093, 1095, 15, 1096, 1097, 1098, 1099, 1100, 1101, 1102, 1501, 1502, 1503, 1504, 1505, 1507, 26, 1508, 1509, 1511, 27, 1512, 1513] (by decide +kernel)
set_option maxRecDepth 20000 in
theorem lwp_wsL_law0_r24 : ∀ w ∈ wsL_law0_r24, w ∈ lw_tbl := mem_pos [1514, 1515, 1516, 1517, 1518, 1519, 1521, 28, 1522, 1523, 1525, 29, 1526, 1527, 1529, 30, 1530, 1531, 1533, 31, 1534, 1535, 1537, 32] (by decide +kernel)
set_option maxRecDepth 20000 in
theorem lwp_wsL_law0_r25 : ∀ w ∈ wsL_law0_r25, w ∈ lw_tbl := mem_pos [1538, 1539, 1540, 1541, 1542, 1544, 33, 1545, 1546, 1548, 34, 1549, 1550, 1552, 35, 1553, 1554, 1556, 36, 1557, 1558, 1560, 37, 1561] (by decide +kernel)
set_option maxRecDepth 20000 in
theorem lwp_wsL_law0_r26 : ∀ w ∈ wsL_law0_r26, w ∈ lw_tbl := mem_pos [1562, 1564, 38, 1565, 1566, 1568, 39, 1569, 1570, 1572, 40, 1573, 1369, 1574, 1576, 41, 1577, 1578, 1580, 42, 1581, 1582, 1584, 43] (by decide +kernel)
set_option maxRecDepth 20000 in
theorem lwp_wsL_law0_r27 : ∀ w ∈ wsL_law0_r27, w ∈ lw_tbl := mem_pos [1585, 1586, 1588, 44, 1589, 1590, 1592, 45, 1593, 1368, 1594, 1596, 46, 1597, 1598, 1600, 47, 1601, 1103, 1104, 1105, 1106, 1107, 1108] (by decide +kernel)
set_option maxRecDepth 20000 in
theorem lwp_wsL_law0_r28 : ∀ w ∈ wsL_law0_r28, w ∈ lw_tbl := mem_pos [1109, 1110, 1111, 1113, 16, 1114, 1115, 91, 1131, 1602, 1603, 1604, 1605, 1132, 1133, 1134, 1135, 1136, 1137, 1138, 463, 464, 465, 466] (by decide +kernel)
set_option maxRecDepth 20000 in
theorem lwp_wsL_law0_r29 : ∀ w ∈ wsL_law0_r29, w ∈ lw_tbl := mem_pos [467, 471, 472, 477, 478, 479, 480, 481, 482, 483, 484, 485, 487, 3, 488, 490, 491, 492, 493, 494, 499, 500, 501, 502] (by decide +kernel)
set_option maxRecDepth 20000 in
theorem lwp_wsL_law0_r30 : ∀ w ∈ wsL_law0_r30, w ∈ lw_tbl := mem_pos [503, 508, 510, 4, 511, 512, 536, 541, 543, 5, 544, 545, 546, 547, 548, 1606, 1607, 1608, 1609, 1610, 1612, 48, 1613, 1370] (by decide +kernel)
set_option maxRecDepth 20000 in
theorem lwp_wsL_law0_r31 : ∀ w ∈ wsL_law0_r31, w ∈ lw_tbl := mem_pos [1614, 1616, 49, 1617, 1618, 1620, 50, 1621, 437, 438, 439, 440, 552, 441, 1622, 1623, 1624, 1625, 553, 554, 555, 556, 1630, 1631] (by decide +kernel)
set_option maxRecDepth 20000 in
theorem lwp_wsL_law0_r32 : ∀ w ∈ wsL_law0_r32, w ∈ lw_tbl := mem_pos [1632, 1633, 561, 562, 563, 564, 1634, 1635, 1636, 1637, 1139, 1140, 1141, 1142, 1143, 1144, 1145, 569, 1638, 1639, 1640, 1641, 1642, 1644] (by decide +kernel)
set_option maxRecDepth 20000 in
theorem lwp_wsL_law0_r33 : ∀ w ∈ wsL_law0_r33, w ∈ lw_tbl := mem_pos [51, 1645, 1147, 1148, 1149, 1150, 1151, 1152, 1153, 1646, 1647, 1648, 1649, 565, 566, 567, 568, 570, 1650, 1651, 1652, 1653, 571, 572] (by decide +kernel)
set_option maxRecDepth 20000 in
theorem lwp_wsL_law0_r34 : ∀ w ∈ wsL_law0_r34, w ∈ lw_tbl := mem_pos [573, 574, 1654, 1655, 1656, 1657, 1155, 1156, 1157, 1158, 1159, 1160, 1161, 1162, 1164, 17, 1165, 1167, 1169, 18, 1170, 579, 580, 581] (by decide +kernel)
set_option maxRecDepth 20000 in
theorem lwp_wsL_law0_r35 : ∀ w ∈ wsL_law0_r35, w ∈ lw_tbl := mem_pos [582, 583, 584, 585, 586, 1658, 1659, 1660, 1661, 1171, 1172, 1173, 1174, 1175, 1176, 1177, 1178, 1180, 19, 1181, 591, 1662, 1663, 1664] (by decide +kernel)
set_option maxRecDepth 20000 in
theorem lwp_wsL_law0_r36 : ∀ w ∈ wsL_law0_r36, w ∈ lw_tbl := mem_pos [1665, 1666, 1668, 52, 1669, 1183, 1184, 1185, 1186, 1187, 1188, 1189, 1190, 1191, 1670, 1671, 1672, 1673, 1192, 1193, 1194, 1195, 1196, 1197] (by decide +kernel)
set_option maxRecDepth 20000 in
theorem lwp_wsL_law0_r37 : ∀ w ∈ wsL_law0_r37, w ∈ lw_tbl := mem_pos [1198, 1200, 1674, 1675, 1676, 1677, 1201, 1202, 1203, 1204, 1205, 1206, 1207, 587, 589, 6, 590, 1208, 1209, 1210, 1211, 1212, 1678, 1679] (by decide +kernel)
set_option maxRecDepth 20000 in
theorem lwp_wsL_law0_r38 : ∀ w ∈ wsL_law0_r38, w ∈ lw_tbl := mem_pos [1680, 1681, 1682, 1684, 53, 1685, 1686, 1688, 54, 1689, 575, 576, 577, 578, 592, 593, 594, 595, 596, 597, 1690, 1691, 1692, 1693] (by decide +kernel)
set_option maxRecDepth 20000 in
theorem lwp_wsL_law0_r39 : ∀ w ∈ wsL_law0_r39, w ∈ lw_tbl := mem_pos [1694, 1695, 1696, 92, 1697, 1701, 1703, 1702, 92, 1704, 1698, 1699, 1700, 1214, 1215, 1216, 1217, 1218, 1219, 1220, 1221, 1223, 20, 1224] (by decide +kernel)
set_option maxRecDepth 20000 in
theorem lwp_wsL_law0_r40 : ∀ w ∈ wsL_law0_r40, w ∈ lw_tbl := mem_pos [1226, 1227, 1228, 1229, 1705, 1706, 1707, 1708, 1709, 1710, 1711, 1230, 1231, 1232, 1233, 1234, 1235, 1236, 1237, 1238, 1239, 1240, 1712, 1713] (by decide +kernel)
set_option maxRecDepth 20000 in
theorem lwp_wsL_law0_r41 : ∀ w ∈ wsL_law0_r41, w ∈ lw_tbl := mem_pos [1714, 1715, 1241, 1242, 1243, 1244, 1245, 1246, 1247, 1248, 1250, 21, 1251, 1252, 1254, 22, 1255, 1716, 1717, 1718, 1719, 1720, 1722, 55] (by decide +kernel)
set_option maxRecDepth 20000 in
theorem lwp_wsL_law0_r42 : ∀ w ∈ wsL_law0_r42, w ∈ lw_tbl := mem_pos [1723, 1258, 1259, 1260, 1261, 1262, 1263, 1264, 1724, 1725, 1726, 1727, 1266, 1267, 1268, 1269, 1270, 1271, 1272, 1728, 1729, 1730, 1731, 1273] (by decide +kernel)
set_option maxRecDepth 20000 in
theorem lwp_wsL_law0_r43 : ∀ w ∈ wsL_law0_r43, w ∈ lw_tbl := mem_pos [1274, 1275, 1276, 1277, 1278, 1279, 1732, 1733, 1734, 1735, 1280, 1281, 1282, 1283, 1284, 1285, 1286, 1736, 1737, 1738, 1739, 1287, 1288, 1289] (by decide +kernel)
set_option maxRecDepth 20000 in
theorem lwp_wsL_law0_r44 : ∀ w ∈ wsL_law0_r44, w ∈ lw_tbl := mem_pos [1290, 1291, 1292, 1293, 1295, 1296, 1297, 1298, 1299, 1300, 1301, 1303, 1304, 1305, 1306, 1307, 1308, 1309, 1310, 614, 1311, 1740, 1741, 1742] (by decide +kernel)
set_option maxRecDepth 20000 in
theorem lwp_wsL_law0_r45 : ∀ w ∈ wsL_law0_r45, w ∈ lw_tbl := mem_pos [1743, 1381, 1312, 1313, 1314, 1315, 1316, 1317, 1318, 1320, 1321, 1322, 1323, 1324, 607, 608, 609, 610, 611, 612, 613, 1325, 616, 617] (by decide +kernel)
set_option maxRecDepth 20000 in
theorem lwp_wsL_law0_r46 : ∀ w ∈ wsL_law0_r46, w ∈ lw_tbl := mem_pos [618, 619, 1326, 1327, 1328, 1329, 1330, 1332, 23, 1333, 1334, 1335, 1336, 1337, 1338, 1339, 1340, 1341, 1342, 1343, 1344, 1345, 1346, 1347] (by decide +kernel)
set_option maxRecDepth 20000 in
theorem lwp_wsL_law0_r47 : ∀ w ∈ wsL_law0_r47, w ∈ lw_tbl := mem_pos [1744, 1745, 1746, 1747, 1748, 1750, 56, 1751, 1752, 1754, 57, 1755, 598, 599, 600, 601, 602, 603, 604, 605, 606, 615, 1756, 1757] (by decide +kernel)
set_option maxRecDepth 20000 in
theorem lwp_wsL_law0_r48 : ∀ w ∈ wsL_law0_r48, w ∈ lw_tbl := mem_pos [1758, 1759, 1385, 1386, 1387, 1388, 1760, 1761, 1762, 1348, 1349, 1350, 1351, 1352, 1353, 1354, 1763, 1764, 1765, 1766] (by decide +kernel)
theorem lwp_wsX80 : ∀ w ∈ wsX80, w ∈ lw_tbl := by decide +kernel
theorem lwp_wsX90 : ∀ w ∈ wsX90, w ∈ lw_tbl := by decide +kernel
theorem lwp_wsX70 : ∀ w ∈ wsX70, w ∈ lw_tbl := by decide +kernel
theorem lwp_wsX00 : ∀ w ∈ wsX00, w ∈ lw_tbl := by decide +kernel
theorem lwp_wsX10 : ∀ w ∈ wsX10, w ∈ lw_tbl := by decide +kernel
theorem lwp_wsX60 : ∀ w ∈ wsX60, w ∈ lw_tbl := by decide +kernel
theorem lwp_wsX50 : ∀ w ∈ wsX50, w ∈ lw_tbl := by decide +kernel
theorem lwp_wsX30 : ∀ w ∈ wsX30, w ∈ lw_tbl := by decide +kernel
theorem lwp_wsX40 : ∀ w ∈ wsX40, w ∈ lw_tbl := by decide +kernel
theorem lwp_wsX20 : ∀ w ∈ wsX20, w ∈ lw_tbl := by decide +kernel
theorem lwp_wsJx4a65c0 : ∀ w ∈ wsJx4a65c0, w ∈ lw_tbl := by decide +kernel
theorem mem_app9 {big a b : List Cond} (ha : ∀ w ∈ a, w ∈ big) (hb : ∀ w ∈ b, w ∈ big) : ∀ w ∈ a ++ b, w ∈ big := fun w h => (List.mem_append.mp h).elim (ha w) (hb w)
theorem lwp_law0 : ∀ w ∈ wsL_law0, w ∈ lw_tbl := (mem_app9 (mem_app9 (mem_app9 (mem_app9 (mem_app9 (mem_app9 (mem_app9 (mem_app9 (mem_app9 (mem_app9 (mem_app9 (mem_app9 (mem_app9 lwp_wsL_law0_r1 (mem_app9 lwp_wsL_law0_r2 (mem_app9 lwp_wsL_law0_r3 (mem_app9 lwp_wsL_law0_r4 (mem_app9 lwp_wsL_law0_r5 (mem_app9 lwp_wsL_law0_r6 (mem_app9 lwp_wsL_law0_r7 (mem_app9 lwp_wsL_law0_r8 (mem_app9 lwp_wsL_law0_r9 (mem_app9 lwp_wsL_law0_r10 (mem_app9 lwp_wsL_law0_r11 (mem_app9 lwp_wsL_law0_r12 (mem_app9 lwp_wsL_law0_r13 (mem_app9 lwp_wsL_law0_r14 (mem_app9 lwp_wsL_law0_r15 (mem_app9 lwp_wsL_law0_r16 (mem_app9 lwp_wsL_law0_r17 (mem_app9 lwp_wsL_law0_r18 (mem_app9 lwp_wsL_law0_r19 (mem_app9 lwp_wsL_law0_r20 (mem_app9 lwp_wsL_law0_r21 (mem_app9 lwp_wsL_law0_r22 (mem_app9 lwp_wsL_law0_r23 (mem_app9 lwp_wsL_law0_r24 (mem_app9 lwp_wsL_law0_r25 (mem_app9 lwp_wsL_law0_r26 (mem_app9 lwp_wsL_law0_r27 (mem_app9 lwp_wsL_law0_r28 (mem_app9 lwp_wsL_law0_r29 (mem_app9 lwp_wsL_law0_r30 (mem_app9 lwp_wsL_law0_r31 (mem_app9 lwp_wsL_law0_r32 (mem_app9 lwp_wsL_law0_r33 (mem_app9 lwp_wsL_law0_r34 (mem_app9 lwp_wsL_law0_r35 (mem_app9 lwp_wsL_law0_r36 (mem_app9 lwp_wsL_law0_r37 (mem_app9 lwp_wsL_law0_r38 (mem_app9 lwp_wsL_law0_r39 (mem_app9 lwp_wsL_law0_r40 (mem_app9 lwp_wsL_law0_r41 (mem_app9 lwp_wsL_law0_r42 (mem_app9 lwp_wsL_law0_r43 (mem_app9 lwp_wsL_law0_r44 (mem_app9 lwp_wsL_law0_r45 (mem_app9 lwp_wsL_law0_r46 (mem_app9 lwp_wsL_law0_r47 lwp_wsL_law0_r48))))))))))))))))))))))))))))))))))))))))))))))) lwp_wsX80) lwp_wsX90) lwp_wsX70) lwp_wsX00) lwp_wsX10) lwp_wsX60) lwp_wsX50) lwp_wsX30) lwp_wsX40) lwp_wsX20) lwp_wsJx4a65c0) (fun w h => absurd h List.not_mem_nil))
set_option maxRecDepth 20000 in
theorem lwp_x0 : ∀ w ∈ (vx_atS RX8 69 "java/lang/IllegalArgumentException" ["java/lang/RuntimeException", "java/lang/Exception"]).filter goodWord, w ∈ lw_tbl := by decide +kernel
set_option maxRecDepth 20000 in
theorem lwp_x1 : ∀ w ∈ (vx_atS RX8 80 "java/lang/IllegalStateException" ["java/lang/RuntimeException", "java/lang/Exception"]).filter goodWord, w ∈ lw_tbl := by decide +kernel
set_option maxRecDepth 20000 in
theorem lwp_x2 : ∀ w ∈ (vx_atS RX8 98 "java/lang/IndexOutOfBoundsException" ["java/lang/RuntimeException", "java/lang/Exception"]).filter goodWord, w ∈ lw_tbl := by decide +kernel
set_option maxRecDepth 20000 in
theorem lwp_x3 : ∀ w ∈ (vx_at13 RX8 167 "java/util/NoSuchElementException").filter goodWord, w ∈ lw_tbl := by decide +kernel
theorem wsL_law_in : ∀ w ∈ wsL_law, w ∈ lw_tbl := (mem_app9 (mem_app9 (mem_app9 (mem_app9 lwp_law0 lwp_x0) lwp_x1) lwp_x2) lwp_x3)
