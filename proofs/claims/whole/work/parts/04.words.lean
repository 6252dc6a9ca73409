/-! words, by their places in the tables -/
def clT (c : Nat) : vw_C := vwCl.getD c (RX0, TX0, 0)
noncomputable def codeW (m : MI) : Cond := .code m.2.1 m.2.2.1 m.2.2.2.1 m.2.2.2.2.1
noncomputable def yM (M : Nat) : MethodName := (mi M).2.1
def flW (e : Nat × Nat × Nat × Nat) : Cond := .fieldLink (own e.1) e.2.1 ((clT e.2.2.1).2.1 e.2.2.2).1 ((clT e.2.2.1).2.1 e.2.2.2).2.1 ((clT e.2.2.1).2.1 e.2.2.2).2.2.1
noncomputable def mlW (e : Nat × Nat × Nat × Nat) : Cond := .methodLink (own e.1) e.2.1 (yM e.2.2.1)
def statN (k : Nat) : String := ["", "VERBS", "KINDS", "DIGITS", "LETTERS"].getD k ""
def virtM : List Nat := [1, 2, 3, 4, 6, 7, 8, 9, 10, 11, 12, 13, 14, 15, 16, 17, 18, 19, 20, 21, 22, 23, 24, 25, 26, 28, 29, 30, 31, 32, 33, 34, 35, 36, 37, 38, 41, 42, 45, 46, 47, 48, 49, 50, 51, 52, 53, 54, 55, 57, 58, 59, 60, 61, 62, 63, 64, 65, 67, 68, 69, 70, 71, 72, 73, 74, 75, 79, 80, 81, 82, 84, 85, 87, 88, 89, 90, 91, 92, 93, 95, 96, 97, 100, 101, 102, 103, 104, 105, 106, 108, 109, 110, 111, 112, 113, 114, 115, 116, 117, 118, 119, 120, 121, 122, 123, 124, 125, 126, 127, 128, 129, 130, 131, 132, 133, 134, 135, 136, 137, 138, 139, 140, 141, 142, 143, 144, 145, 146, 147, 148, 149, 150, 151, 152, 153, 154, 155, 156, 157, 158, 159, 160, 166, 167, 172, 175, 176, 177, 178, 179, 180, 181, 182, 183, 184, 185, 187, 188, 189, 190, 191, 192, 193, 194, 195, 196, 197, 198, 199, 200, 201, 202, 203, 204, 205, 206, 207, 208, 209, 210, 211, 212, 213, 214, 215, 216, 217, 218, 219, 220, 221, 222, 224, 225, 226, 227, 228, 229, 230, 231, 232, 233, 234, 236, 237, 238, 239, 240, 241, 242, 243, 244, 245, 246, 247, 248, 250, 251, 252, 253, 254, 255, 256, 257, 258, 259, 260, 261, 262, 263, 264, 265]
def statM : List Nat := [39, 44, 77, 78, 83, 98, 161, 162, 163, 164, 168, 169, 170, 171, 173, 174, 186, 223, 235, 249, 266, 270]
def specM : List Nat := [0, 5, 27, 40, 43, 56, 66, 76, 86, 94, 99, 107, 165]
noncomputable def WLa0 : List Cond := mtA0.map codeW
noncomputable def WLa1 : List Cond := mtA1.map codeW
noncomputable def WLa2 : List Cond := mtA2.map codeW
noncomputable def WLa3 : List Cond := mtA3.map codeW
noncomputable def WLa4 : List Cond := mtA4.map codeW
noncomputable def WLa5 : List Cond := mtA5.map codeW
noncomputable def WLa6 : List Cond := (mtA6.take 31).map codeW
noncomputable def WLb : List Cond := ftab.map flW
noncomputable def WLc : List Cond := (ctab.filter (fun e => Nat.ble e.2.2.2 2)).map mlW
noncomputable def WLd : List Cond := virtM.flatMap (fun M => [.instanceMethod (yM M), .selects (yM M).cls (yM M) (yM M)])
noncomputable def WLe : List Cond := statM.map (fun M => .static (yM M))
noncomputable def WLf : List Cond := specM.map (fun M => .instanceMethod (yM M))
def iniL : List String := ["DryLand$Act", "DryLand$Casks", "DryLand$Courts", "DryLand$Line", "DryLand$Nights", "DryLand$Papers", "DryLand$Reader", "DryLand$Sheets", "DryLand$Slips", "DryLand$Towns", "DryLand$Ways", "DryLand", "DryLandModel", "java/lang/Integer", "java/lang/Math", "java/util/Arrays", "java/lang/System"]
def WLg : List Cond := iniL.map (fun c => .initialized c)
def WLh : List Cond := ntab.flatMap (fun e => [.classLink (own e.1) e.2.1 (clT e.2.2).1, .instantiable (clT e.2.2).1 (clT e.2.2).2.2])
def WLi : List Cond := (List.range 13).flatMap (fun c => u_ws (clT c).1 (clT c).2.1 (clT c).2.2)
def WLj : List Cond := otab.map (fun e => .methodLink (own e.1) e.2 objectInit) ++ [.instanceMethod objectInit, .code objectInit ⟨#[0xb1]⟩ 1 none]
def WLk : List Cond := ytab.map (fun e => .methodLink (own e.1) e.2 arraycopyName) ++ [.native arraycopyName, .static arraycopyName]
def WLl : List Cond := ltab.map (fun e => .constant (own e.1) e.2.1 e.2.2) ++ jtab.map (fun e => .constantLong (own e.1) e.2 vLOST)
def WLm : List Cond := [.arrayClass .int, .arrayClass .boolean] ++ (atab.map (fun e => .classLink (own e.1) e.2 "DryLand$Line") ++ (utab.map (fun e => .classLink (own e.1) e.2 "[[I") ++ stab.map (fun e => .fieldLink (own e.1) e.2.1 "DryLand$Reader" (statN e.2.2) "[I")))
noncomputable def WLx : List Cond := xtab.map (fun e => .methodLink (own e.1) e.2.1 (yM (match e.2.2 with | 1 => 268 | 2 => 269 | _ => 267))) ++ [.static (yM 267), .static (yM 268), .static (yM 269)]
noncomputable def WL : List Cond := WLa0 ++ (WLa1 ++ (WLa2 ++ (WLa3 ++ (WLa4 ++ (WLa5 ++ (WLa6 ++ (WLb ++ (WLc ++ (WLd ++ (WLe ++ (WLf ++ (WLg ++ (WLh ++ (WLi ++ (WLj ++ (WLk ++ (WLx ++ (WLl ++ WLm))))))))))))))))))
def plc (ps : List Nat) : List Cond := ps.filterMap (fun i => lw_tbl[i]?)
theorem plc_in {ws : List Cond} {ps : List Nat} (h : ws = plc ps) : ∀ w ∈ ws, w ∈ lw_tbl := by
  intro w hw
  rw [h] at hw
  obtain ⟨i, -, hi⟩ := List.mem_filterMap.mp hw
  exact List.mem_of_getElem? hi
set_option maxRecDepth 100000 in
theorem WLa0_p : WLa0 = plc [111, 533, 541, 565, 583, 231, 757, 765, 778, 773, 782, 794, 799, 807, 803, 811, 825, 821, 830, 838, 1080, 1072, 1088, 1084, 1076, 1092, 1100, 299, 914, 939, 947, 918, 923, 927, 931, 956, 964, 972, 981, 984] := by rfl
set_option maxRecDepth 100000 in
theorem WLa0_g : WLa0.all goodWord = true := by decide +kernel
set_option maxRecDepth 100000 in
theorem WLa1_p : WLa1 = plc [453, 573, 569, 193, 682, 744, 716, 687, 708, 720, 692, 696, 700, 736, 732, 748, 282, 848, 856, 864, 869, 890, 873, 881, 894, 904, 94, 444, 493, 509, 519, 523, 527, 513, 503, 499, 67, 423, 429, 437] := by rfl
set_option maxRecDepth 100000 in
theorem WLa1_g : WLa1.all goodWord = true := by decide +kernel
set_option maxRecDepth 100000 in
theorem WLa2_p : WLa2 = plc [1039, 1049, 1057, 1060, 420, 433, 167, 638, 646, 651, 659, 663, 671, 675, 352, 1007, 1015, 1020, 1027, 127, 592, 604, 629, 600, 609, 617, 621, 59, 416, 537, 550, 554, 558, 579, 588, 596, 625, 634, 642, 655] := by rfl
set_option maxRecDepth 100000 in
theorem WLa2_g : WLa2.all goodWord = true := by decide +kernel
set_option maxRecDepth 100000 in
theorem WLa3_p : WLa3 = plc [667, 679, 704, 712, 724, 728, 740, 753, 761, 769, 786, 790, 834, 844, 852, 860, 877, 886, 900, 910, 935, 943, 952, 960, 968, 976, 989, 993, 1003, 1011, 1031, 1035, 1044, 1053, 1064, 1068, 1096, 1104, 1109, 1113] := by rfl
set_option maxRecDepth 100000 in
theorem WLa3_g : WLa3.all goodWord = true := by decide +kernel
set_option maxRecDepth 100000 in
theorem WLa4_p : WLa4 = plc [1117, 426, 545, 561, 996, 1122, 1376, 1714, 1365, 1413, 1362, 1368, 1372, 1387, 1398, 1384, 1391, 1395, 1380, 1402, 1359, 1410, 1406, 1417, 1436, 1432, 1424, 1428, 1421, 1440, 1444, 1448, 1460, 1456, 1452, 1464, 1476, 1468, 1472, 1480] := by rfl
set_option maxRecDepth 100000 in
theorem WLa4_g : WLa4.all goodWord = true := by decide +kernel
set_option maxRecDepth 100000 in
theorem WLa5_p : WLa5 = plc [1488, 1484, 1496, 1492, 1500, 1508, 1504, 1524, 1520, 1516, 1512, 1532, 1536, 1528, 1540, 1560, 1556, 1544, 1548, 1564, 1552, 1568, 1580, 1587, 1584, 1576, 1572, 1595, 1591, 1599, 1603, 1611, 1607, 1619, 1615, 1630, 1627, 1623, 1634, 1646] := by rfl
set_option maxRecDepth 100000 in
theorem WLa5_g : WLa5.all goodWord = true := by decide +kernel
set_option maxRecDepth 100000 in
theorem WLa6_p : WLa6 = plc [1642, 1638, 1650, 1654, 1658, 1662, 1666, 1670, 1675, 1682, 1679, 1686, 1690, 1694, 1698, 1702, 1706, 1710, 1722, 1726, 1718, 1730, 1734, 1738, 1742, 1746, 814, 999, 1023, 447, 612] := by rfl
set_option maxRecDepth 100000 in
theorem WLa6_g : WLa6.all goodWord = true := by decide +kernel
set_option maxRecDepth 100000 in
theorem WLb_p : WLb = plc [115, 116, 233, 235, 236, 237, 238, 239, 240, 241, 243, 245, 247, 242, 249, 301, 303, 305, 307, 309, 311, 312, 318, 319, 320, 315, 313, 316, 461, 473, 464, 467, 456, 458, 470, 196, 197, 198, 199, 200, 201, 202, 204, 206, 284, 285, 286, 96, 97, 98, 455, 459, 462, 466, 469, 472, 71, 72, 73, 74, 76, 169, 170, 171, 172, 173, 174, 354, 356, 358, 360, 362, 364, 129, 130, 131, 132, 133, 134, 135, 136, 137, 139, 379, 380, 381, 382, 383, 384, 385, 386, 387, 388, 389, 75, 99, 474, 457, 460, 463, 465, 468, 471, 138, 203, 302, 304, 306, 308, 310, 317, 355, 357, 359, 361, 363, 77, 234, 250, 117, 140, 175, 205, 207, 244, 246, 248, 287, 314, 365, 1126, 1127, 1128, 1130, 1131, 1132, 1133, 1134, 1135, 1136, 1141, 1142, 1143, 1144, 1145, 1146, 1147, 1148, 1150, 1152, 1153, 1154, 1156, 1157, 1159, 1160, 1161, 1162, 1163, 1165, 1166, 1169, 1170, 1171, 1172, 1173, 1181, 1182, 1183, 1184, 1186, 1187, 1188, 1189, 1190, 1192, 1193, 1194, 1196, 1197, 1198, 1199, 1200, 1124, 1137, 1138, 1139, 1129, 1140, 1149, 1151, 1155, 1158, 1164, 1167, 1168, 1174, 1175, 1176, 1177, 1178, 1179, 1180, 1185, 1191, 1195, 1125] := by rfl
set_option maxRecDepth 100000 in
theorem WLb_g : WLb.all goodWord = true := by decide +kernel
set_option maxRecDepth 100000 in
theorem WLc_p : WLc = plc [566, 584, 795, 796, 804, 812, 822, 839, 840, 1073, 1081, 1085, 1077, 1089, 915, 919, 920, 924, 928, 982, 570, 689, 693, 697, 733, 749, 882, 895, 896, 905, 906, 490, 506, 516, 520, 496, 500, 510, 524, 421, 427, 434, 1040, 1058, 430, 660, 672, 1025, 605, 601, 630, 606, 614, 610, 618, 417, 441, 530, 538, 543, 555, 559, 562, 580, 546, 589, 597, 626, 635, 643, 648, 656, 668, 680, 684, 705, 713, 717, 729, 741, 745, 754, 762, 770, 775, 779, 791, 800, 808, 818, 826, 827, 835, 845, 853, 861, 866, 870, 878, 887, 891, 901, 911, 936, 944, 953, 961, 969, 978, 994, 1004, 1012, 1017, 1036, 1045, 1046, 1054, 1069, 1097, 1105, 1363, 1373, 1381, 1385, 1388, 1392, 1396, 1360, 1366, 1369, 1377, 1399, 1407, 1411, 1433, 1429, 1422, 1425, 1457, 1453, 1473, 1485, 1493, 1505, 1521, 1517, 1513, 1529, 1533, 1553, 1557, 1561, 1577, 1581, 1585, 1573, 1592, 1608, 1616, 1628, 1624, 1643, 1639, 1680, 1711, 1719, 1723, 57, 1120, 413, 1356, 534, 1403, 547, 1414, 551, 1418, 575, 1437, 576, 1441, 585, 1445, 593, 1449, 622, 1461, 631, 1465, 639, 1469, 652, 1477, 664, 1481, 676, 1489, 701, 1497, 709, 1501, 721, 1509, 725, 1525, 737, 1537, 750, 1541, 758, 1545, 766, 1549, 783, 1565, 787, 1569, 831, 1588, 841, 1596, 849, 1600, 857, 1604, 874, 1612, 883, 1620, 897, 1631, 907, 1635, 932, 1647, 940, 1651, 949, 1655, 957, 1659, 965, 1663, 973, 1667, 986, 1672, 990, 1676, 1000, 1683, 1008, 1687, 1028, 1691, 1032, 1695, 1041, 1699, 1050, 1703, 1061, 1707, 1065, 1715, 1093, 1727, 1101, 1731, 1106, 1735, 1110, 1739, 1114, 1743] := by rfl
set_option maxRecDepth 100000 in
theorem WLc_g : WLc.all goodWord = true := by decide +kernel
set_option maxRecDepth 100000 in
theorem WLd_p : WLd = plc [531, 532, 539, 540, 563, 564, 581, 582, 755, 756, 763, 764, 776, 777, 771, 772, 780, 781, 792, 793, 797, 798, 805, 806, 801, 802, 809, 810, 823, 824, 819, 820, 828, 829, 836, 837, 1078, 1079, 1070, 1071, 1086, 1087, 1082, 1083, 1074, 1075, 1090, 1091, 1098, 1099, 912, 913, 937, 938, 945, 946, 916, 917, 921, 922, 925, 926, 929, 930, 954, 955, 962, 963, 970, 971, 979, 980, 571, 572, 567, 568, 742, 743, 714, 715, 685, 686, 706, 707, 718, 719, 690, 691, 694, 695, 698, 699, 734, 735, 730, 731, 746, 747, 846, 847, 854, 855, 862, 863, 867, 868, 888, 889, 871, 872, 879, 880, 892, 893, 902, 903, 442, 443, 491, 492, 507, 508, 517, 518, 521, 522, 525, 526, 511, 512, 501, 502, 497, 498, 435, 436, 1037, 1038, 1047, 1048, 1055, 1056, 418, 419, 431, 432, 636, 637, 644, 645, 649, 650, 657, 658, 661, 662, 669, 670, 673, 674, 1005, 1006, 1013, 1014, 1018, 1019, 590, 591, 602, 603, 627, 628, 598, 599, 607, 608, 615, 616, 619, 620, 414, 415, 535, 536, 548, 549, 552, 553, 556, 557, 577, 578, 586, 587, 594, 595, 623, 624, 632, 633, 640, 641, 653, 654, 665, 666, 677, 678, 702, 703, 710, 711, 722, 723, 726, 727, 738, 739, 751, 752, 759, 760, 767, 768, 784, 785, 788, 789, 832, 833, 842, 843, 850, 851, 858, 859, 875, 876, 884, 885, 898, 899, 908, 909, 933, 934, 941, 942, 950, 951, 958, 959, 966, 967, 974, 975, 987, 988, 991, 992, 1001, 1002, 1009, 1010, 1029, 1030, 1033, 1034, 1042, 1043, 1051, 1052, 1062, 1063, 1066, 1067, 1094, 1095, 1102, 1103, 1107, 1108, 1111, 1112, 1115, 1116, 1375, 1, 1713, 34, 1371, 0, 1383, 3, 1390, 4, 1394, 5, 1379, 2, 1401, 6, 1357, 1358, 1409, 7, 1404, 1405, 1415, 1416, 1435, 10, 1431, 9, 1427, 8, 1419, 1420, 1438, 1439, 1442, 1443, 1446, 1447, 1459, 12, 1455, 11, 1450, 1451, 1462, 1463, 1475, 13, 1466, 1467, 1470, 1471, 1478, 1479, 1487, 14, 1482, 1483, 1495, 15, 1490, 1491, 1498, 1499, 1507, 16, 1502, 1503, 1523, 19, 1519, 18, 1515, 17, 1510, 1511, 1531, 20, 1535, 21, 1526, 1527, 1538, 1539, 1559, 23, 1555, 22, 1542, 1543, 1546, 1547, 1563, 24, 1550, 1551, 1566, 1567, 1579, 26, 1583, 27, 1575, 25, 1570, 1571, 1594, 28, 1589, 1590, 1597, 1598, 1601, 1602, 1610, 29, 1605, 1606, 1618, 30, 1613, 1614, 1626, 31, 1621, 1622, 1632, 1633, 1645, 33, 1641, 32, 1636, 1637, 1648, 1649, 1652, 1653, 1656, 1657, 1660, 1661, 1664, 1665, 1668, 1669, 1673, 1674, 1677, 1678, 1684, 1685, 1688, 1689, 1692, 1693, 1696, 1697, 1700, 1701, 1704, 1705, 1708, 1709, 1721, 35, 1725, 36, 1716, 1717, 1728, 1729, 1732, 1733, 1736, 1737, 1740, 1741, 1744, 1745] := by rfl
set_option maxRecDepth 100000 in
theorem WLd_g : WLd.all goodWord = true := by decide +kernel
set_option maxRecDepth 100000 in
theorem WLe_p : WLe = plc [983, 681, 422, 428, 1059, 1026, 425, 544, 560, 995, 1364, 1412, 1361, 1367, 1386, 1397, 1423, 1586, 1629, 1681, 813, 611] := by rfl
set_option maxRecDepth 100000 in
theorem WLe_g : WLe.all goodWord = true := by decide +kernel
set_option maxRecDepth 100000 in
theorem WLf_p : WLf = plc [110, 230, 298, 452, 192, 281, 93, 66, 166, 351, 126, 58, 1121] := by rfl
set_option maxRecDepth 100000 in
theorem WLf_g : WLf.all goodWord = true := by decide +kernel
set_option maxRecDepth 100000 in
theorem WLg_p : WLg = plc [41, 45, 47, 52, 44, 46, 40, 39, 43, 48, 42, 38, 49, 54, 51, 53, 50] := by rfl
set_option maxRecDepth 100000 in
theorem WLg_g : WLg.all goodWord = true := by decide +kernel
set_option maxRecDepth 100000 in
theorem WLh_p : WLh = plc [449, 450, 63, 64, 90, 91, 107, 108, 123, 124, 163, 164, 189, 190, 227, 228, 278, 279, 295, 296, 348, 349, 55, 56, 1118, 1119] := by rfl
set_option maxRecDepth 100000 in
theorem WLh_g : WLh.all goodWord = true := by decide +kernel
set_option maxRecDepth 100000 in
theorem WLi_p : WLi = plc [118, 120, 251, 253, 255, 257, 259, 261, 263, 265, 267, 269, 271, 273, 275, 321, 323, 325, 327, 329, 331, 333, 335, 337, 339, 341, 343, 345, 475, 477, 479, 481, 483, 485, 487, 208, 210, 212, 214, 216, 218, 220, 222, 224, 288, 290, 292, 100, 102, 104, 78, 80, 82, 84, 86, 176, 178, 180, 182, 184, 186, 366, 368, 370, 372, 374, 376, 141, 143, 145, 147, 149, 151, 153, 155, 157, 159, 390, 392, 394, 396, 398, 400, 402, 404, 406, 408, 410, 1201, 1203, 1205, 1207, 1209, 1211, 1213, 1215, 1217, 1219, 1221, 1223, 1225, 1227, 1229, 1231, 1233, 1235, 1237, 1239, 1241, 1243, 1245, 1247, 1249, 1251, 1253, 1255, 1257, 1259, 1261, 1263, 1265, 1267, 1269, 1271, 1273, 1275, 1277, 1279, 1281, 1283, 1285, 1287, 1289, 1291, 1293, 1295, 1297, 1299, 1301, 1303, 1305, 1307, 1309, 1311, 1313, 1315, 1317, 1319, 1321, 1323, 1325, 1327, 1329, 1331, 1333, 1335, 1337, 1339, 1341, 1343, 1345, 1347, 1349, 1351, 1353] := by rfl
set_option maxRecDepth 100000 in
theorem WLi_g : WLi.all goodWord = true := by decide +kernel
set_option maxRecDepth 100000 in
theorem WLj_p : WLj = plc [112, 232, 300, 454, 194, 283, 95, 68, 168, 353, 128, 60, 1123, 61, 62] := by rfl
set_option maxRecDepth 100000 in
theorem WLj_g : WLj.all goodWord = true := by decide +kernel
set_option maxRecDepth 100000 in
theorem WLk_p : WLk = plc [688, 448, 438, 440, 439] := by rfl
set_option maxRecDepth 100000 in
theorem WLk_g : WLk.all goodWord = true := by decide +kernel
set_option maxRecDepth 100000 in
theorem WLx_p : WLx = plc [445, 1021, 1024, 613, 997, 998, 1022, 446] := by rfl
set_option maxRecDepth 100000 in
theorem WLx_g : WLx.all goodWord = true := by decide +kernel
set_option maxRecDepth 100000 in
theorem WLl_p : WLl = plc [815, 816, 817, 985, 977, 1671] := by rfl
set_option maxRecDepth 100000 in
theorem WLl_g : WLl.all goodWord = true := by decide +kernel
set_option maxRecDepth 100000 in
theorem WLm_p : WLm = plc [89, 162, 113, 195, 69, 494, 504, 528, 514] := by rfl
set_option maxRecDepth 100000 in
theorem WLm_g : WLm.all goodWord = true := by decide +kernel
theorem WL_in : ∀ w ∈ WL, w ∈ lw_tbl := by
  intro w hw
  unfold WL at hw
  simp only [List.mem_append] at hw
  rcases hw with h | h | h | h | h | h | h | h | h | h | h | h | h | h | h | h | h | h | h | h
  · exact plc_in WLa0_p w h
  · exact plc_in WLa1_p w h
  · exact plc_in WLa2_p w h
  · exact plc_in WLa3_p w h
  · exact plc_in WLa4_p w h
  · exact plc_in WLa5_p w h
  · exact plc_in WLa6_p w h
  · exact plc_in WLb_p w h
  · exact plc_in WLc_p w h
  · exact plc_in WLd_p w h
  · exact plc_in WLe_p w h
  · exact plc_in WLf_p w h
  · exact plc_in WLg_p w h
  · exact plc_in WLh_p w h
  · exact plc_in WLi_p w h
  · exact plc_in WLj_p w h
  · exact plc_in WLk_p w h
  · exact plc_in WLx_p w h
  · exact plc_in WLl_p w h
  · exact plc_in WLm_p w h
theorem WL_good : ∀ w ∈ WL, (w.onTables && w.keeps) = true ∨ ∃ ty, w = .arrayClass ty := by
  intro w hw
  unfold WL at hw
  simp only [List.mem_append] at hw
  rcases hw with h | h | h | h | h | h | h | h | h | h | h | h | h | h | h | h | h | h | h | h
  · exact good_of_word (List.all_eq_true.mp WLa0_g w h)
  · exact good_of_word (List.all_eq_true.mp WLa1_g w h)
  · exact good_of_word (List.all_eq_true.mp WLa2_g w h)
  · exact good_of_word (List.all_eq_true.mp WLa3_g w h)
  · exact good_of_word (List.all_eq_true.mp WLa4_g w h)
  · exact good_of_word (List.all_eq_true.mp WLa5_g w h)
  · exact good_of_word (List.all_eq_true.mp WLa6_g w h)
  · exact good_of_word (List.all_eq_true.mp WLb_g w h)
  · exact good_of_word (List.all_eq_true.mp WLc_g w h)
  · exact good_of_word (List.all_eq_true.mp WLd_g w h)
  · exact good_of_word (List.all_eq_true.mp WLe_g w h)
  · exact good_of_word (List.all_eq_true.mp WLf_g w h)
  · exact good_of_word (List.all_eq_true.mp WLg_g w h)
  · exact good_of_word (List.all_eq_true.mp WLh_g w h)
  · exact good_of_word (List.all_eq_true.mp WLi_g w h)
  · exact good_of_word (List.all_eq_true.mp WLj_g w h)
  · exact good_of_word (List.all_eq_true.mp WLk_g w h)
  · exact good_of_word (List.all_eq_true.mp WLx_g w h)
  · exact good_of_word (List.all_eq_true.mp WLl_g w h)
  · exact good_of_word (List.all_eq_true.mp WLm_g w h)
