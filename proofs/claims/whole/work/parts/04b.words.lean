/-! printed by wip/gen/words.py: where the words stand in the tables -/
def zWs : List Jvm.Cond := lw_tbl.filter goodWord
theorem zWs_in : ∀ w ∈ zWs, w ∈ lw_tbl := fun w h => (List.mem_filter.mp h).1
theorem zWs_of {w : Jvm.Cond} (h : w ∈ lw_tbl) (g : goodWord w = true) : w ∈ zWs := List.mem_filter.mpr ⟨h, g⟩
def zat2 (i : Nat) (w : Jvm.Cond) : Bool := match lw_tbl[i]? with
  | some w' => decide (w' = w) && goodWord w
  | none => false
theorem zat2_in {i : Nat} {w : Jvm.Cond} (h : zat2 i w = true) : w ∈ zWs := by
  unfold zat2 at h
  split at h
  · rename_i w' hw
    rw [Bool.and_eq_true] at h
    have e := of_decide_eq_true h.1
    subst e
    exact zWs_of (List.mem_of_getElem? hw) h.2
  · cases h
/-- each of a list has its word -/
def zall {α : Type} (f : α → Jvm.Cond) : List α → List Nat → Bool
  | [], _ => true
  | _ :: _, [] => false
  | x :: l, i :: r => zat2 i (f x) && zall f l r
theorem zall_in {α : Type} {f : α → Jvm.Cond} : ∀ {l : List α} {r : List Nat}, zall f l r = true → ∀ x ∈ l, f x ∈ zWs
  | [], _, _, x, hx => absurd hx List.not_mem_nil
  | _ :: _, [], h, _, _ => by cases h
  | y :: l, i :: r, h, x, hx => by
    simp only [zall, Bool.and_eq_true] at h
    rcases List.mem_cons.mp hx with rfl | hx
    · exact zat2_in h.1
    · exact zall_in h.2 x hx
set_option maxRecDepth 100000 in
theorem zx_lf0 : zall (fun q : Nat × Nat × Nat × Nat => Cond.fieldLink (zcname q.1) q.2.1 (zT q.2.2.1 q.2.2.2).1 (zT q.2.2.1 q.2.2.2).2.1 (zT q.2.2.1 q.2.2.2).2.2.1) zLf [255, 257, 259, 260, 261, 239, 240, 241, 208, 210, 297, 300, 301, 302, 303, 304, 222, 224, 225, 299, 191, 193, 194, 279, 281, 282, 122, 124, 126, 127, 128, 130, 132, 134, 136, 138, 140, 142, 144, 146, 148, 150, 298, 318, 319, 320, 321, 322, 323, 324, 325, 326, 327, 328, 329, 330, 331, 129, 123, 131, 133, 135, 137, 139, 141, 143, 223, 147, 145, 149, 125, 192, 209, 280, 256, 258, 947, 948, 949, 950, 951, 952, 953, 954, 955, 956, 957, 958, 959, 960, 961, 962, 963, 964, 965, 966, 967, 968, 969, 970, 971, 972, 973, 974, 975, 976, 977, 978, 979, 980, 981, 982, 983, 984, 985, 986, 987, 988, 989, 990, 991, 992, 993, 994, 995, 996, 997, 998, 999, 1000, 1001, 1002, 1003, 1004, 1005, 1006, 1007, 1008, 1009, 1010, 1011, 1012, 1013, 1014, 1015, 1016] = true := by decide +kernel
def zLm0 : List (Nat × Nat × Nat × Nat) := zLm.filter fun q => Nat.beq q.2.2.2 0
set_option maxRecDepth 100000 in
theorem zx_lm0 : zall (fun q : Nat × Nat × Nat × Nat => Cond.methodLink (zcname q.1) q.2.1 (zy q.2.2.1)) zLm0 [455, 465, 469, 477, 472, 110, 943, 361, 1159, 365, 1167, 377, 1175, 381, 1179, 393, 1191, 402, 1199, 406, 1203, 414, 1211, 422, 1215, 545, 1279, 557, 1295, 575, 1311, 596, 1335, 626, 1355, 630, 1359, 651, 1367, 655, 1371, 705, 1391, 709, 1399, 713, 1403, 731, 1416, 735, 1420, 739, 1424, 747, 1428, 756, 1436, 764, 1440, 785, 1452, 797, 1456, 801, 1460, 809, 1464, 821, 1472, 840, 1480, 854, 1484, 858, 1488, 885, 1524, 889, 1528, 897, 1532, 901, 1536, 913, 1540, 924, 1548, 928, 1552, 866, 870, 877, 881, 681, 682, 686, 701, 539, 569, 572, 430, 434, 442, 451, 461, 438, 501, 505, 540, 447, 509, 521, 513, 517, 525, 530, 535, 772, 784, 921, 401, 565, 583, 587, 591, 592, 595, 608, 613, 617, 621, 625, 604, 609, 369, 373, 385, 389, 397, 410, 418, 426, 549, 553, 561, 579, 600, 634, 645, 659, 663, 677, 693, 697, 667, 649, 650, 673, 717, 721, 725, 743, 751, 755, 760, 768, 776, 780, 789, 793, 805, 813, 817, 825, 828, 832, 836, 638, 844, 849, 862, 893, 905, 909, 917, 932, 936, 728, 1163, 1187, 1171, 1183, 1195, 1207, 1235, 1243, 1251, 1267, 1263, 1247, 1271, 1259, 1275, 1231, 1239, 1227, 1255, 1223, 1219, 1287, 1291, 1307, 1303, 1283, 1299, 1319, 1323, 1327, 1331, 1315, 1351, 1343, 1347, 1339, 1363, 1379, 1375, 1383, 1387, 1395, 1412, 1408, 1432, 1448, 1444, 1468, 1476, 1496, 1500, 1492, 1512, 1508, 1504, 1520, 1516, 1544] = true := by decide +kernel
set_option maxRecDepth 100000 in
theorem zx_lc0 : zall (fun q : Nat × Nat × Nat => Cond.classLink (zcname q.1) q.2.1 (zcname q.2.2)) zLc [108, 941, 116, 185, 202, 216, 233, 249, 273, 291] = true := by decide +kernel
set_option maxRecDepth 100000 in
theorem zx_lk0 : zall (fun q : Nat × Nat × Int32 => Cond.constant (zcname q.1) q.2.1 q.2.2) zLk [670, 671, 672] = true := by decide +kernel
set_option maxRecDepth 100000 in
theorem zx_lkl0 : zall (fun q : Nat × Nat × Int64 => Cond.constantLong (zcname q.1) q.2.1 q.2.2) zLkl [1556, 720, 1407] = true := by decide +kernel
set_option maxRecDepth 100000 in
theorem zx_lob0 : zall (fun q : Nat × Nat × Unit => Cond.methodLink (zcname q.1) q.2.1 objectInit) zLob [254, 238, 207, 296, 221, 190, 278, 121, 113, 946] = true := by decide +kernel
set_option maxRecDepth 100000 in
theorem zx_lcp0 : zall (fun q : Nat × Nat × Unit => Cond.methodLink (zcname q.1) q.2.1 arraycopyName) zLcp [853, 848, 940, 642] = true := by decide +kernel
set_option maxRecDepth 100000 in
theorem zx_lsf0 : zall (fun q : Nat × Nat × Nat => Cond.fieldLink (zcname q.1) q.2.1 "java/lang/String" (match q.2.2 with | 3 => "value" | _ => "coder") (match q.2.2 with | 3 => "[B" | _ => "B")) zLsf [1558, 1557] = true := by decide +kernel
set_option maxRecDepth 100000 in
theorem zx_lmx0 : zall (fun q : Nat × Nat × Unit => Cond.methodLink (zcname q.1) q.2.1 Lib.Math.max.name) zLmx [690] = true := by decide +kernel
set_option maxRecDepth 100000 in
theorem zx_mx0 : zall (fun w : Jvm.Cond => w) [.static Lib.Math.max.name, .initialized "java/lang/Math"] [691, 107] = true := by decide +kernel
set_option maxRecDepth 100000 in
theorem zx_mx1 : lw_tbl[692]? = some (Cond.code Lib.Math.max.name Lib.Math.max.code 2 (some .int)) := by rfl
def zstn (n : Nat) : String × String × String := match n with
  | 0 => ("SeatOn", "ABOVE", "[I")
  | 1 => ("SeatOn$Acts", "BODIES", "[I")
  | 2 => ("java/lang/String", "COMPACT_STRINGS", "Z")
  | _ => ("jdk/internal/util/Preconditions", "SIOOBE_FORMATTER", "Ljava/util/function/BiFunction;")
def zLst0 : List (Nat × Nat × Nat) := [(10, 38, 2), (10, 1053, 3), (0, 36, 1), (8, 303, 0)]
set_option maxRecDepth 100000 in
theorem zx_lst0 : zall (fun q : Nat × Nat × Nat => Cond.fieldLink (zcname q.1) q.2.1 (zstn q.2.2).1 (zstn q.2.2).2.1 (zstn q.2.2).2.2) zLst0 [459, 475, 873, 896] = true := by decide +kernel
def zInst : List Nat := (List.range 243).filter fun m => Nat.beq (zpar m).2 0
def zStat : List Nat := (List.range 243).filter fun m => Nat.beq (zpar m).2 1
def zVirt : List Nat := zInst.filter fun m => !(Nat.beq (zrk m) 6)
set_option maxRecDepth 100000 in
theorem zx_inst0 : zall (fun m => Cond.instanceMethod (zy m)) zInst [252, 863, 868, 879, 883, 236, 674, 678, 684, 688, 694, 698, 703, 205, 850, 806, 814, 818, 294, 431, 536, 522, 541, 566, 219, 419, 427, 444, 449, 436, 440, 503, 532, 507, 511, 515, 519, 527, 188, 845, 761, 769, 777, 781, 774, 276, 829, 833, 933, 906, 910, 837, 918, 937, 119, 639, 374, 390, 398, 550, 562, 580, 585, 589, 605, 790, 794, 618, 610, 615, 623, 601, 744, 111, 362, 366, 378, 382, 394, 403, 407, 415, 423, 546, 555, 558, 576, 597, 627, 631, 652, 656, 661, 665, 706, 710, 714, 723, 732, 736, 740, 748, 753, 757, 765, 786, 798, 802, 810, 822, 841, 855, 859, 886, 890, 898, 902, 914, 925, 929, 371, 387, 412, 636, 647, 944, 1165, 1377, 1173, 1185, 1209, 1189, 1197, 1160, 1168, 1176, 1180, 1192, 1200, 1204, 1212, 1237, 1233, 1245, 1241, 1253, 1249, 1269, 1273, 1277, 1265, 1261, 1257, 1229, 1225, 1221, 1216, 1289, 1293, 1285, 1309, 1305, 1301, 1280, 1321, 1325, 1333, 1329, 1317, 1296, 1312, 1345, 1353, 1349, 1341, 1336, 1356, 1365, 1360, 1368, 1381, 1385, 1389, 1372, 1397, 1392, 1400, 1414, 1410, 1404, 1417, 1421, 1425, 1434, 1429, 1437, 1450, 1446, 1441, 1453, 1457, 1461, 1470, 1465, 1473, 1481, 1485, 1498, 1502, 1494, 1514, 1510, 1506, 1522, 1518, 1489, 1525, 1529, 1533, 1478, 1537, 1546, 1541, 1549, 1553, 452, 462, 456, 466] = true := by decide +kernel
set_option maxRecDepth 100000 in
theorem zx_stat0 : zall (fun m => Cond.static (zy m)) zStat [871, 570, 573, 826, 922, 593, 894, 718, 726, 729, 668, 473, 470, 478] = true := by decide +kernel
set_option maxRecDepth 100000 in
theorem zx_virt0 : zall (fun m => Cond.selects (zy m).cls (zy m) (zy m)) zVirt [864, 29, 30, 31, 675, 679, 23, 24, 695, 699, 25, 851, 807, 815, 819, 432, 537, 523, 542, 567, 420, 428, 5, 6, 3, 4, 7, 13, 8, 9, 10, 11, 12, 846, 762, 770, 778, 782, 28, 830, 834, 934, 907, 911, 838, 919, 938, 640, 375, 391, 399, 551, 563, 581, 15, 16, 606, 791, 795, 619, 611, 17, 18, 602, 745, 363, 367, 379, 383, 395, 404, 408, 416, 424, 547, 14, 559, 577, 598, 628, 632, 653, 657, 21, 22, 707, 711, 715, 26, 733, 737, 741, 749, 27, 758, 766, 787, 799, 803, 811, 823, 842, 856, 860, 887, 891, 899, 903, 915, 926, 930, 0, 1, 2, 19, 20, 32, 69, 33, 34, 37, 35, 36, 1161, 1169, 1177, 1181, 1193, 1201, 1205, 1213, 42, 41, 44, 43, 46, 45, 50, 51, 52, 49, 48, 47, 40, 39, 38, 1217, 54, 55, 53, 58, 57, 56, 1281, 60, 61, 63, 62, 59, 1297, 1313, 65, 67, 66, 64, 1337, 1357, 68, 1361, 1369, 70, 71, 72, 1373, 73, 1393, 1401, 75, 74, 1405, 1418, 1422, 1426, 76, 1430, 1438, 78, 77, 1442, 1454, 1458, 1462, 79, 1466, 1474, 1482, 1486, 82, 83, 81, 86, 85, 84, 88, 87, 1490, 1526, 1530, 1534, 80, 1538, 89, 1542, 1550, 1554, 453, 463, 457, 467] = true := by decide +kernel
set_option maxRecDepth 100000 in
theorem zx_ini0 : zall (fun m => Cond.initialized (zy m).cls) (List.range 243) [97, 97, 97, 97, 97, 97, 96, 96, 96, 96, 96, 96, 96, 96, 94, 94, 94, 94, 94, 99, 99, 99, 99, 99, 99, 99, 99, 95, 95, 95, 95, 95, 95, 95, 95, 95, 95, 95, 95, 95, 95, 93, 93, 93, 93, 93, 93, 93, 98, 98, 98, 98, 98, 98, 98, 98, 98, 98, 98, 92, 92, 92, 92, 92, 92, 92, 92, 92, 92, 92, 92, 92, 92, 92, 92, 92, 92, 92, 92, 91, 91, 91, 91, 91, 91, 91, 91, 91, 91, 91, 91, 91, 91, 91, 91, 91, 91, 91, 91, 91, 91, 91, 91, 91, 91, 91, 91, 91, 91, 91, 91, 91, 91, 91, 91, 91, 91, 91, 91, 91, 91, 91, 91, 91, 91, 91, 91, 91, 91, 91, 91, 91, 91, 91, 91, 100, 100, 100, 100, 100, 100, 100, 100, 100, 100, 100, 100, 100, 100, 100, 100, 100, 100, 100, 100, 100, 100, 100, 100, 100, 100, 100, 100, 100, 100, 100, 100, 100, 100, 100, 100, 100, 100, 100, 100, 100, 100, 100, 100, 100, 100, 100, 100, 100, 100, 100, 100, 100, 100, 100, 100, 100, 100, 100, 100, 100, 100, 100, 100, 100, 100, 100, 100, 100, 100, 100, 100, 100, 100, 100, 100, 100, 100, 100, 100, 100, 100, 100, 100, 100, 100, 100, 100, 100, 100, 100, 100, 100, 100, 100, 100, 100, 100, 100, 100, 106, 101, 101, 101, 101, 101, 102, 103] = true := by decide +kernel
set_option maxRecDepth 100000 in
theorem zx_code0 : (List.range 243).map (fun m => Cond.code (zy m) (zby m) (znl m) (zret m)) = [253, 865, 869, 880, 872, 884, 237, 676, 680, 685, 689, 696, 700, 704, 206, 852, 808, 816, 820, 295, 433, 538, 524, 543, 568, 571, 574, 220, 421, 429, 445, 450, 437, 441, 504, 533, 508, 512, 516, 520, 528, 189, 847, 763, 771, 779, 783, 775, 277, 827, 831, 835, 935, 908, 912, 839, 920, 939, 923, 120, 641, 376, 392, 400, 552, 564, 582, 586, 590, 594, 607, 792, 796, 620, 612, 616, 624, 603, 746, 112, 364, 368, 380, 384, 396, 405, 409, 417, 425, 548, 556, 560, 578, 599, 629, 633, 654, 658, 662, 666, 708, 712, 716, 724, 734, 738, 742, 750, 754, 759, 767, 788, 800, 804, 812, 824, 843, 857, 861, 888, 892, 895, 900, 904, 916, 927, 931, 372, 388, 413, 719, 637, 648, 727, 730, 945, 1166, 1378, 1174, 1186, 1210, 1190, 1198, 1162, 1170, 1178, 1182, 1194, 1202, 1206, 1214, 1238, 1234, 1246, 1242, 1254, 1250, 1270, 1274, 1278, 1266, 1262, 1258, 1230, 1226, 1222, 1218, 1290, 1294, 1286, 1310, 1306, 1302, 1282, 1322, 1326, 1334, 1330, 1318, 1298, 1314, 1346, 1354, 1350, 1342, 1338, 1358, 1366, 1362, 1370, 1382, 1386, 1390, 1374, 1398, 1394, 1402, 1415, 1411, 1406, 1419, 1423, 1427, 1435, 1431, 1439, 1451, 1447, 1443, 1455, 1459, 1463, 1471, 1467, 1475, 1483, 1487, 1499, 1503, 1495, 1515, 1511, 1507, 1523, 1519, 1491, 1527, 1531, 1535, 1479, 1539, 1547, 1543, 1551, 1555, 669, 454, 464, 458, 468, 474, 471, 479].filterMap (fun i => lw_tbl[i]?) := by rfl
set_option maxRecDepth 100000 in
theorem zx_inst1 : zall (fun c => Cond.instantiable (zcname c) (zN c)) (List.range 10) [250, 234, 203, 292, 217, 186, 274, 117, 109, 942] = true := by decide +kernel
set_option maxRecDepth 100000 in
theorem zx_ini1 : zall (fun c => Cond.initialized (zcname c)) (List.range 10) [97, 96, 94, 99, 95, 93, 98, 92, 91, 100] = true := by decide +kernel
set_option maxRecDepth 100000 in
theorem zx_in0 : zall (fun w => w) (u_ws (zcname 0) (zT 0) (zN 0)) [262, 264, 266, 268, 270] = true := by decide +kernel
set_option maxRecDepth 100000 in
theorem zx_in1 : zall (fun w => w) (u_ws (zcname 1) (zT 1) (zN 1)) [242, 244, 246] = true := by decide +kernel
set_option maxRecDepth 100000 in
theorem zx_in2 : zall (fun w => w) (u_ws (zcname 2) (zT 2) (zN 2)) [211, 213] = true := by decide +kernel
set_option maxRecDepth 100000 in
theorem zx_in3 : zall (fun w => w) (u_ws (zcname 3) (zT 3) (zN 3)) [305, 307, 309, 311, 313, 315] = true := by decide +kernel
set_option maxRecDepth 100000 in
theorem zx_in4 : zall (fun w => w) (u_ws (zcname 4) (zT 4) (zN 4)) [226, 228, 230] = true := by decide +kernel
set_option maxRecDepth 100000 in
theorem zx_in5 : zall (fun w => w) (u_ws (zcname 5) (zT 5) (zN 5)) [195, 197, 199] = true := by decide +kernel
set_option maxRecDepth 100000 in
theorem zx_in6 : zall (fun w => w) (u_ws (zcname 6) (zT 6) (zN 6)) [283, 285, 287] = true := by decide +kernel
set_option maxRecDepth 100000 in
theorem zx_in7 : zall (fun w => w) (u_ws (zcname 7) (zT 7) (zN 7)) [151, 153, 155, 157, 159, 161, 163, 165, 167, 169, 171, 173, 175, 177, 179, 181] = true := by decide +kernel
set_option maxRecDepth 100000 in
theorem zx_in8 : zall (fun w => w) (u_ws (zcname 8) (zT 8) (zN 8)) [332, 334, 336, 338, 340, 342, 344, 346, 348, 350, 352, 354, 356, 358] = true := by decide +kernel
set_option maxRecDepth 100000 in
theorem zx_in9 : zall (fun w => w) (u_ws (zcname 9) (zT 9) (zN 9)) [1017, 1019, 1021, 1023, 1025, 1027, 1029, 1031, 1033, 1035, 1037, 1039, 1041, 1043, 1045, 1047, 1049, 1051, 1053, 1055, 1057, 1059, 1061, 1063, 1065, 1067, 1069, 1071, 1073, 1075, 1077, 1079, 1081, 1083, 1085, 1087, 1089, 1091, 1093, 1095, 1097, 1099, 1101, 1103, 1105, 1107, 1109, 1111, 1113, 1115, 1117, 1119, 1121, 1123, 1125, 1127, 1129, 1131, 1133, 1135, 1137, 1139, 1141, 1143, 1145, 1147, 1149, 1151, 1153, 1155] = true := by decide +kernel
theorem zx_in : ∀ c, c < 10 → ∀ w ∈ u_ws (zcname c) (zT c) (zN c), w ∈ zWs := by
  intro c hc w hw
  have hh : c = 0 ∨ c = 1 ∨ c = 2 ∨ c = 3 ∨ c = 4 ∨ c = 5 ∨ c = 6 ∨ c = 7 ∨ c = 8 ∨ c = 9 := by omega
  rcases hh with rfl | rfl | rfl | rfl | rfl | rfl | rfl | rfl | rfl | rfl
  · exact zall_in zx_in0 w hw
  · exact zall_in zx_in1 w hw
  · exact zall_in zx_in2 w hw
  · exact zall_in zx_in3 w hw
  · exact zall_in zx_in4 w hw
  · exact zall_in zx_in5 w hw
  · exact zall_in zx_in6 w hw
  · exact zall_in zx_in7 w hw
  · exact zall_in zx_in8 w hw
  · exact zall_in zx_in9 w hw
set_option maxRecDepth 100000 in
theorem zx_misc0 : zall (fun w : Jvm.Cond => w) [.arrayClass .int, .arrayClass .long, .arrayClass .boolean, .instanceMethod objectInit, .native arraycopyName, .static arraycopyName, .initialized "java/lang/System"] [184, 290, 1158, 114, 644, 643, 105] = true := by decide +kernel
set_option maxRecDepth 100000 in
theorem zx_oi0 : lw_tbl[115]? = some (Cond.code objectInit ⟨#[0xb1]⟩ 1 none) := by rfl
theorem zx_lf : ∀ q ∈ zLf, q.2.2.1 < 10 ∧ q.2.2.2 < zN q.2.2.1 ∧ Cond.fieldLink (zcname q.1) q.2.1 (zT q.2.2.1 q.2.2.2).1 (zT q.2.2.1 q.2.2.2).2.1 (zT q.2.2.1 q.2.2.2).2.2.1 ∈ zWs := by
  intro q hq
  have h : ∀ q ∈ zLf, q.2.2.1 < 10 ∧ q.2.2.2 < zN q.2.2.1 := by decide +kernel
  exact ⟨(h q hq).1, (h q hq).2, zall_in zx_lf0 q hq⟩
