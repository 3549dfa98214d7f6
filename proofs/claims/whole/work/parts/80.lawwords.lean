theorem mem_pos {big ws : List Cond} (ps : List Nat) (hp : ws = ps.filterMap (fun i => big[i]?)) : ∀ w ∈ ws, w ∈ big := by
  intro w hw
  rw [hp] at hw
  obtain ⟨i, -, hi⟩ := List.mem_filterMap.mp hw
  exact List.mem_of_getElem? hi
set_option maxRecDepth 20000 in
theorem lwp_wsL_law0_r1 : ∀ w ∈ wsL_law0_r1, w ∈ lw_tbl := mem_pos [92, 93, 58, 1351, 1352, 76, 1763, 1762, 94, 95, 96, 97, 98, 99, 100, 101, 59, 400, 401, 329, 330, 72, 402, 342] (by decide +kernel)
set_option maxRecDepth 20000 in
theorem lwp_wsL_law0_r2 : ∀ w ∈ wsL_law0_r2, w ∈ lw_tbl := mem_pos [343, 73, 403, 363, 364, 74, 404, 380, 381, 75, 405, 406, 398, 139, 64, 148, 407, 408, 102, 103, 104, 105, 106, 107] (by decide +kernel)
set_option maxRecDepth 20000 in
theorem lwp_wsL_law0_r3 : ∀ w ∈ wsL_law0_r3, w ∈ lw_tbl := mem_pos [60, 286, 156, 157, 65, 291, 296, 170, 113, 63, 300, 301, 172, 302, 303, 308, 109, 110, 111, 112, 149, 138, 150, 114] (by decide +kernel)
set_option maxRecDepth 20000 in
theorem lwp_wsL_law0_r4 : ∀ w ∈ wsL_law0_r4, w ∈ lw_tbl := mem_pos [115, 116, 124, 126, 117, 118, 62, 119, 128, 120, 121, 61, 122, 123, 140, 141, 142, 143, 144, 159, 160, 161, 169, 162] (by decide +kernel)
set_option maxRecDepth 20000 in
theorem lwp_wsL_law0_r5 : ∀ w ∈ wsL_law0_r5, w ∈ lw_tbl := mem_pos [163, 171, 173, 174, 175, 176, 177, 178, 179, 180, 181, 127, 182, 183, 184, 185, 129, 130, 186, 188, 0, 189, 190, 192] (by decide +kernel)
set_option maxRecDepth 20000 in
theorem lwp_wsL_law0_r6 : ∀ w ∈ wsL_law0_r6, w ∈ lw_tbl := mem_pos [1, 193, 194, 196, 2, 197, 244, 202, 67, 203, 245, 198, 199, 66, 200, 201, 204, 205, 206, 207, 208, 209, 68, 210] (by decide +kernel)
set_option maxRecDepth 20000 in
theorem lwp_wsL_law0_r7 : ∀ w ∈ wsL_law0_r7, w ∈ lw_tbl := mem_pos [211, 1792, 212, 231, 232, 233, 234, 235, 237, 238, 239, 240, 241, 243, 242, 69, 246, 247, 248, 249, 156, 250, 251, 252] (by decide +kernel)
set_option maxRecDepth 20000 in
theorem lwp_wsL_law0_r8 : ∀ w ∈ wsL_law0_r8, w ∈ lw_tbl := mem_pos [253, 254, 255, 70, 256, 257, 258, 71, 259, 260, 261, 262, 263, 264, 265, 266, 267, 268, 269, 270, 271, 272, 273, 274] (by decide +kernel)
set_option maxRecDepth 20000 in
theorem lwp_wsL_law0_r9 : ∀ w ∈ wsL_law0_r9, w ∈ lw_tbl := mem_pos [275, 276, 277, 278, 279, 280, 281, 282, 283, 285, 331, 332, 333, 334, 338, 335, 336, 337, 344, 345, 346, 347, 350, 352] (by decide +kernel)
set_option maxRecDepth 20000 in
theorem lwp_wsL_law0_r10 : ∀ w ∈ wsL_law0_r10, w ∈ lw_tbl := mem_pos [348, 349, 365, 366, 367, 368, 371, 369, 370, 383, 384, 385, 386, 390, 388, 392, 399, 1353, 1354, 1355, 1356, 1359, 1361, 1362] (by decide +kernel)
set_option maxRecDepth 20000 in
theorem lwp_wsL_law0_r11 : ∀ w ∈ wsL_law0_r11, w ∈ lw_tbl := mem_pos [1367, 1368, 1369, 1370, 1371, 1372, 1373, 1374, 1375, 1377, 1378, 1379, 1384, 1385, 1386, 1387, 1388, 1389, 1390, 619, 620, 57, 621, 622] (by decide +kernel)
set_option maxRecDepth 20000 in
theorem lwp_wsL_law0_r12 : ∀ w ∈ wsL_law0_r12, w ∈ lw_tbl := mem_pos [623, 624, 625, 626, 627, 628, 80, 696, 81, 432, 433, 434, 435, 712, 713, 714, 715, 724, 716, 717, 718, 719, 720, 721] (by decide +kernel)
set_option maxRecDepth 20000 in
theorem lwp_wsL_law0_r13 : ∀ w ∈ wsL_law0_r13, w ∈ lw_tbl := mem_pos [723, 725, 1464, 1465, 1466, 1467, 1358, 1468, 1469, 1470, 1471, 1473, 23, 1474, 1357, 1475, 1477, 24, 1478, 1460, 1461, 1462, 1463, 726] (by decide +kernel)
set_option maxRecDepth 20000 in
theorem lwp_wsL_law0_r14 : ∀ w ∈ wsL_law0_r14, w ∈ lw_tbl := mem_pos [727, 728, 729, 730, 731, 732, 734, 1479, 1480, 1481, 1482, 1483, 735, 736, 737, 738, 739, 740, 741, 743, 744, 745, 746, 747] (by decide +kernel)
set_option maxRecDepth 20000 in
theorem lwp_wsL_law0_r15 : ∀ w ∈ wsL_law0_r15, w ∈ lw_tbl := mem_pos [748, 1484, 1485, 1486, 1487, 749, 750, 751, 752, 753, 754, 755, 756, 757, 82, 773, 459, 460, 461, 1488, 1489, 1490, 1491, 428] (by decide +kernel)
set_option maxRecDepth 20000 in
theorem lwp_wsL_law0_r16 : ∀ w ∈ wsL_law0_r16, w ∈ lw_tbl := mem_pos [429, 430, 431, 1492, 1493, 1494, 1495, 1360, 774, 775, 776, 777, 778, 779, 780, 556, 557, 558, 559, 444, 1621, 1622, 1623, 1624] (by decide +kernel)
set_option maxRecDepth 20000 in
theorem lwp_wsL_law0_r17 : ∀ w ∈ wsL_law0_r17, w ∈ lw_tbl := mem_pos [1366, 783, 784, 785, 786, 787, 788, 789, 790, 791, 792, 793, 794, 441, 442, 443, 445, 446, 447, 448, 138, 449, 450, 451] (by decide +kernel)
set_option maxRecDepth 20000 in
theorem lwp_wsL_law0_r18 : ∀ w ∈ wsL_law0_r18, w ∈ lw_tbl := mem_pos [452, 453, 454, 455, 456, 457, 458, 795, 796, 797, 798, 800, 801, 802, 803, 804, 806, 8, 807, 808, 809, 810, 811, 812] (by decide +kernel)
set_option maxRecDepth 20000 in
theorem lwp_wsL_law0_r19 : ∀ w ∈ wsL_law0_r19, w ∈ lw_tbl := mem_pos [813, 814, 815, 816, 488, 817, 819, 9, 820, 1049, 1050, 1051, 494, 495, 496, 497, 1052, 1053, 1054, 1055, 1056, 512, 513, 514] (by decide +kernel)
set_option maxRecDepth 20000 in
theorem lwp_wsL_law0_r20 : ∀ w ∈ wsL_law0_r20, w ∈ lw_tbl := mem_pos [515, 516, 517, 518, 519, 467, 468, 469, 520, 521, 522, 523, 524, 525, 526, 527, 528, 529, 530, 531, 532, 533, 534, 1057] (by decide +kernel)
set_option maxRecDepth 20000 in
theorem lwp_wsL_law0_r21 : ∀ w ∈ wsL_law0_r21, w ∈ lw_tbl := mem_pos [1059, 11, 1060, 1061, 536, 537, 538, 539, 503, 504, 505, 506, 472, 473, 474, 475, 1062, 1063, 1064, 1065, 1067, 12, 1068, 1069] (by decide +kernel)
set_option maxRecDepth 20000 in
theorem lwp_wsL_law0_r22 : ∀ w ∈ wsL_law0_r22, w ∈ lw_tbl := mem_pos [1070, 1071, 1072, 1073, 1074, 1075, 1076, 1077, 1078, 1079, 1080, 1081, 1082, 1083, 1085, 13, 1086, 1087, 548, 549, 550, 1088, 1090, 14] (by decide +kernel)
set_option maxRecDepth 20000 in
theorem lwp_wsL_law0_r23 : ∀ w ∈ wsL_law0_r23, w ∈ lw_tbl := mem_pos [1091, 1092, 1094, 15, 1095, 1096, 1097, 1098, 1099, 1100, 1101, 1496, 1497, 1498, 1499, 1500, 1502, 25, 1503, 1504, 1506, 26, 1507, 1508] (by decide +kernel)
set_option maxRecDepth 20000 in
theorem lwp_wsL_law0_r24 : ∀ w ∈ wsL_law0_r24, w ∈ lw_tbl := mem_pos [1509, 1510, 1511, 1512, 1513, 1514, 1516, 27, 1517, 1518, 1520, 28, 1521, 1522, 1524, 29, 1525, 1526, 1528, 30, 1529, 1530, 1532, 31] (by decide +kernel)
set_option maxRecDepth 20000 in
theorem lwp_wsL_law0_r25 : ∀ w ∈ wsL_law0_r25, w ∈ lw_tbl := mem_pos [1533, 1534, 1535, 1536, 1537, 1539, 32, 1540, 1541, 1543, 33, 1544, 1545, 1547, 34, 1548, 1549, 1551, 35, 1552, 1553, 1555, 36, 1556] (by decide +kernel)
set_option maxRecDepth 20000 in
theorem lwp_wsL_law0_r26 : ∀ w ∈ wsL_law0_r26, w ∈ lw_tbl := mem_pos [1557, 1559, 37, 1560, 1561, 1563, 38, 1564, 1565, 1567, 39, 1568, 1364, 1569, 1571, 40, 1572, 1573, 1575, 41, 1576, 1577, 1579, 42] (by decide +kernel)
set_option maxRecDepth 20000 in
theorem lwp_wsL_law0_r27 : ∀ w ∈ wsL_law0_r27, w ∈ lw_tbl := mem_pos [1580, 1581, 1583, 43, 1584, 1585, 1587, 44, 1588, 1363, 1589, 1591, 45, 1592, 1593, 1595, 46, 1596, 1102, 1103, 1104, 1105, 1106, 1107] (by decide +kernel)
set_option maxRecDepth 20000 in
theorem lwp_wsL_law0_r28 : ∀ w ∈ wsL_law0_r28, w ∈ lw_tbl := mem_pos [1108, 1109, 1110, 1112, 16, 1113, 1114, 90, 1130, 1597, 1598, 1599, 1600, 1131, 1132, 1133, 1134, 1135, 1136, 1137, 462, 463, 464, 465] (by decide +kernel)
set_option maxRecDepth 20000 in
theorem lwp_wsL_law0_r29 : ∀ w ∈ wsL_law0_r29, w ∈ lw_tbl := mem_pos [466, 470, 471, 476, 477, 478, 479, 480, 481, 482, 483, 484, 486, 3, 487, 489, 490, 491, 492, 493, 498, 499, 500, 501] (by decide +kernel)
set_option maxRecDepth 20000 in
theorem lwp_wsL_law0_r30 : ∀ w ∈ wsL_law0_r30, w ∈ lw_tbl := mem_pos [502, 507, 509, 4, 510, 511, 535, 540, 542, 5, 543, 544, 545, 546, 547, 1601, 1602, 1603, 1604, 1605, 1607, 47, 1608, 1365] (by decide +kernel)
set_option maxRecDepth 20000 in
theorem lwp_wsL_law0_r31 : ∀ w ∈ wsL_law0_r31, w ∈ lw_tbl := mem_pos [1609, 1611, 48, 1612, 1613, 1615, 49, 1616, 436, 437, 438, 439, 551, 440, 1617, 1618, 1619, 1620, 552, 553, 554, 555, 1625, 1626] (by decide +kernel)
set_option maxRecDepth 20000 in
theorem lwp_wsL_law0_r32 : ∀ w ∈ wsL_law0_r32, w ∈ lw_tbl := mem_pos [1627, 1628, 560, 561, 562, 563, 1629, 1630, 1631, 1632, 1138, 1139, 1140, 1141, 1142, 1143, 1144, 568, 1633, 1634, 1635, 1636, 1637, 1639] (by decide +kernel)
set_option maxRecDepth 20000 in
theorem lwp_wsL_law0_r33 : ∀ w ∈ wsL_law0_r33, w ∈ lw_tbl := mem_pos [50, 1640, 1146, 1147, 1148, 1149, 1150, 1151, 1152, 1641, 1642, 1643, 1644, 564, 565, 566, 567, 569, 1645, 1646, 1647, 1648, 570, 571] (by decide +kernel)
set_option maxRecDepth 20000 in
theorem lwp_wsL_law0_r34 : ∀ w ∈ wsL_law0_r34, w ∈ lw_tbl := mem_pos [572, 573, 1649, 1650, 1651, 1652, 1154, 1155, 1156, 1157, 1158, 1159, 1160, 1162, 1164, 17, 1165, 578, 579, 580, 581, 582, 583, 584] (by decide +kernel)
set_option maxRecDepth 20000 in
theorem lwp_wsL_law0_r35 : ∀ w ∈ wsL_law0_r35, w ∈ lw_tbl := mem_pos [585, 1653, 1654, 1655, 1656, 1166, 1167, 1168, 1169, 1170, 1171, 1172, 1173, 1175, 18, 1176, 590, 1657, 1658, 1659, 1660, 1661, 1663, 51] (by decide +kernel)
set_option maxRecDepth 20000 in
theorem lwp_wsL_law0_r36 : ∀ w ∈ wsL_law0_r36, w ∈ lw_tbl := mem_pos [1664, 1178, 1179, 1180, 1181, 1182, 1183, 1184, 1185, 1186, 1665, 1666, 1667, 1668, 1187, 1188, 1189, 1190, 1191, 1192, 1193, 1195, 1669, 1670] (by decide +kernel)
set_option maxRecDepth 20000 in
theorem lwp_wsL_law0_r37 : ∀ w ∈ wsL_law0_r37, w ∈ lw_tbl := mem_pos [1671, 1672, 1196, 1197, 1198, 1199, 1200, 1201, 1202, 586, 588, 6, 589, 1203, 1204, 1205, 1206, 1207, 1673, 1674, 1675, 1676, 1677, 1679] (by decide +kernel)
set_option maxRecDepth 20000 in
theorem lwp_wsL_law0_r38 : ∀ w ∈ wsL_law0_r38, w ∈ lw_tbl := mem_pos [52, 1680, 1681, 1683, 53, 1684, 574, 575, 576, 577, 591, 592, 593, 594, 595, 596, 1685, 1686, 1687, 1688, 1689, 1690, 1691, 91] (by decide +kernel)
set_option maxRecDepth 20000 in
theorem lwp_wsL_law0_r39 : ∀ w ∈ wsL_law0_r39, w ∈ lw_tbl := mem_pos [1692, 1696, 1698, 1697, 91, 1699, 1693, 1694, 1695, 1209, 1210, 1211, 1212, 1213, 1214, 1215, 1216, 1218, 19, 1219, 1221, 1222, 1223, 1224] (by decide +kernel)
set_option maxRecDepth 20000 in
theorem lwp_wsL_law0_r40 : ∀ w ∈ wsL_law0_r40, w ∈ lw_tbl := mem_pos [1700, 1701, 1702, 1703, 1704, 1705, 1706, 1225, 1226, 1227, 1228, 1229, 1230, 1231, 1232, 1233, 1234, 1235, 1707, 1708, 1709, 1710, 1236, 1237] (by decide +kernel)
set_option maxRecDepth 20000 in
theorem lwp_wsL_law0_r41 : ∀ w ∈ wsL_law0_r41, w ∈ lw_tbl := mem_pos [1238, 1239, 1240, 1241, 1242, 1243, 1245, 20, 1246, 1247, 1249, 21, 1250, 1711, 1712, 1713, 1714, 1715, 1717, 54, 1718, 1253, 1254, 1255] (by decide +kernel)
set_option maxRecDepth 20000 in
theorem lwp_wsL_law0_r42 : ∀ w ∈ wsL_law0_r42, w ∈ lw_tbl := mem_pos [1256, 1257, 1258, 1259, 1719, 1720, 1721, 1722, 1261, 1262, 1263, 1264, 1265, 1266, 1267, 1723, 1724, 1725, 1726, 1268, 1269, 1270, 1271, 1272] (by decide +kernel)
set_option maxRecDepth 20000 in
theorem lwp_wsL_law0_r43 : ∀ w ∈ wsL_law0_r43, w ∈ lw_tbl := mem_pos [1273, 1274, 1727, 1728, 1729, 1730, 1275, 1276, 1277, 1278, 1279, 1280, 1281, 1731, 1732, 1733, 1734, 1282, 1283, 1284, 1285, 1286, 1287, 1288] (by decide +kernel)
set_option maxRecDepth 20000 in
theorem lwp_wsL_law0_r44 : ∀ w ∈ wsL_law0_r44, w ∈ lw_tbl := mem_pos [1290, 1291, 1292, 1293, 1294, 1295, 1296, 1298, 1299, 1300, 1301, 1302, 1303, 1304, 1305, 613, 1306, 1735, 1736, 1737, 1738, 1376, 1307, 1308] (by decide +kernel)
set_option maxRecDepth 20000 in
theorem lwp_wsL_law0_r45 : ∀ w ∈ wsL_law0_r45, w ∈ lw_tbl := mem_pos [1309, 1310, 1311, 1312, 1313, 1315, 1316, 1317, 1318, 1319, 606, 607, 608, 609, 610, 611, 612, 1320, 615, 616, 617, 618, 1321, 1322] (by decide +kernel)
set_option maxRecDepth 20000 in
theorem lwp_wsL_law0_r46 : ∀ w ∈ wsL_law0_r46, w ∈ lw_tbl := mem_pos [1323, 1324, 1325, 1327, 22, 1328, 1329, 1330, 1331, 1332, 1333, 1334, 1335, 1336, 1337, 1338, 1339, 1340, 1341, 1342, 1739, 1740, 1741, 1742] (by decide +kernel)
set_option maxRecDepth 20000 in
theorem lwp_wsL_law0_r47 : ∀ w ∈ wsL_law0_r47, w ∈ lw_tbl := mem_pos [1743, 1745, 55, 1746, 1747, 1749, 56, 1750, 597, 598, 599, 600, 601, 602, 603, 604, 605, 614, 1751, 1752, 1753, 1754, 1380, 1381] (by decide +kernel)
set_option maxRecDepth 20000 in
theorem lwp_wsL_law0_r48 : ∀ w ∈ wsL_law0_r48, w ∈ lw_tbl := mem_pos [1382, 1383, 1755, 1756, 1757, 1343, 1344, 1345, 1346, 1347, 1348, 1349, 1758, 1759, 1760, 1761] (by decide +kernel)
theorem lwp_wsX80 : ∀ w ∈ wsX80, w ∈ lw_tbl := by decide +kernel
theorem lwp_wsX90 : ∀ w ∈ wsX90, w ∈ lw_tbl := by decide +kernel
theorem lwp_wsX70 : ∀ w ∈ wsX70, w ∈ lw_tbl := by decide +kernel
theorem lwp_wsX00 : ∀ w ∈ wsX00, w ∈ lw_tbl := by decide +kernel
theorem lwp_wsX10 : ∀ w ∈ wsX10, w ∈ lw_tbl := by decide +kernel
theorem lwp_wsX60 : ∀ w ∈ wsX60, w ∈ lw_tbl := by decide +kernel
theorem lwp_wsX50 : ∀ w ∈ wsX50, w ∈ lw_tbl := by decide +kernel
theorem lwp_wsX30 : ∀ w ∈ wsX30, w ∈ lw_tbl := by decide +kernel
theorem lwp_wsX40 : ∀ w ∈ wsX40, w ∈ lw_tbl := by decide +kernel
theorem lwp_wsX20 : ∀ w ∈ wsX20, w ∈ lw_tbl := by decide +kernel
theorem lwp_wsJx4a65c0 : ∀ w ∈ wsJx4a65c0, w ∈ lw_tbl := by decide +kernel
theorem mem_app9 {big a b : List Cond} (ha : ∀ w ∈ a, w ∈ big) (hb : ∀ w ∈ b, w ∈ big) : ∀ w ∈ a ++ b, w ∈ big := fun w h => (List.mem_append.mp h).elim (ha w) (hb w)
theorem lwp_law0 : ∀ w ∈ wsL_law0, w ∈ lw_tbl := (mem_app9 (mem_app9 (mem_app9 (mem_app9 (mem_app9 (mem_app9 (mem_app9 (mem_app9 (mem_app9 (mem_app9 (mem_app9 (mem_app9 (mem_app9 lwp_wsL_law0_r1 (mem_app9 lwp_wsL_law0_r2 (mem_app9 lwp_wsL_law0_r3 (mem_app9 lwp_wsL_law0_r4 (mem_app9 lwp_wsL_law0_r5 (mem_app9 lwp_wsL_law0_r6 (mem_app9 lwp_wsL_law0_r7 (mem_app9 lwp_wsL_law0_r8 (mem_app9 lwp_wsL_law0_r9 (mem_app9 lwp_wsL_law0_r10 (mem_app9 lwp_wsL_law0_r11 (mem_app9 lwp_wsL_law0_r12 (mem_app9 lwp_wsL_law0_r13 (mem_app9 lwp_wsL_law0_r14 (mem_app9 lwp_wsL_law0_r15 (mem_app9 lwp_wsL_law0_r16 (mem_app9 lwp_wsL_law0_r17 (mem_app9 lwp_wsL_law0_r18 (mem_app9 lwp_wsL_law0_r19 (mem_app9 lwp_wsL_law0_r20 (mem_app9 lwp_wsL_law0_r21 (mem_app9 lwp_wsL_law0_r22 (mem_app9 lwp_wsL_law0_r23 (mem_app9 lwp_wsL_law0_r24 (mem_app9 lwp_wsL_law0_r25 (mem_app9 lwp_wsL_law0_r26 (mem_app9 lwp_wsL_law0_r27 (mem_app9 lwp_wsL_law0_r28 (mem_app9 lwp_wsL_law0_r29 (mem_app9 lwp_wsL_law0_r30 (mem_app9 lwp_wsL_law0_r31 (mem_app9 lwp_wsL_law0_r32 (mem_app9 lwp_wsL_law0_r33 (mem_app9 lwp_wsL_law0_r34 (mem_app9 lwp_wsL_law0_r35 (mem_app9 lwp_wsL_law0_r36 (mem_app9 lwp_wsL_law0_r37 (mem_app9 lwp_wsL_law0_r38 (mem_app9 lwp_wsL_law0_r39 (mem_app9 lwp_wsL_law0_r40 (mem_app9 lwp_wsL_law0_r41 (mem_app9 lwp_wsL_law0_r42 (mem_app9 lwp_wsL_law0_r43 (mem_app9 lwp_wsL_law0_r44 (mem_app9 lwp_wsL_law0_r45 (mem_app9 lwp_wsL_law0_r46 (mem_app9 lwp_wsL_law0_r47 lwp_wsL_law0_r48))))))))))))))))))))))))))))))))))))))))))))))) lwp_wsX80) lwp_wsX90) lwp_wsX70) lwp_wsX00) lwp_wsX10) lwp_wsX60) lwp_wsX50) lwp_wsX30) lwp_wsX40) lwp_wsX20) lwp_wsJx4a65c0) (fun w h => absurd h List.not_mem_nil))
set_option maxRecDepth 20000 in
theorem lwp_x0 : ∀ w ∈ (vx_atS RX8 69 "java/lang/IllegalArgumentException" ["java/lang/RuntimeException", "java/lang/Exception"]).filter goodWord, w ∈ lw_tbl := by decide +kernel
set_option maxRecDepth 20000 in
theorem lwp_x1 : ∀ w ∈ (vx_atS RX8 80 "java/lang/IllegalStateException" ["java/lang/RuntimeException", "java/lang/Exception"]).filter goodWord, w ∈ lw_tbl := by decide +kernel
set_option maxRecDepth 20000 in
theorem lwp_x2 : ∀ w ∈ (vx_atS RX8 98 "java/lang/IndexOutOfBoundsException" ["java/lang/RuntimeException", "java/lang/Exception"]).filter goodWord, w ∈ lw_tbl := by decide +kernel
set_option maxRecDepth 20000 in
theorem lwp_x3 : ∀ w ∈ (vx_at13 RX8 167 "java/util/NoSuchElementException").filter goodWord, w ∈ lw_tbl := by decide +kernel
theorem wsL_law_in : ∀ w ∈ wsL_law, w ∈ lw_tbl := (mem_app9 (mem_app9 (mem_app9 (mem_app9 lwp_law0 lwp_x0) lwp_x1) lwp_x2) lwp_x3)
