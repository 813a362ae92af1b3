theorem xq_app {big a b : List Cond} (ha : ∀ w ∈ a, w ∈ big) (hb : ∀ w ∈ b, w ∈ big) : ∀ w ∈ a ++ b, w ∈ big := fun w h => (List.mem_append.mp h).elim (ha w) (hb w)
set_option maxRecDepth 20000 in
theorem inq_wsL_law_r1 : ∀ w ∈ wsL_law_r1, w ∈ lw_tbl := fun w h => (goodIn_r wsL_law_r1 [127, 128, 109, 1027, 1028, 122, 129, 130, 131, 132, 133, 134, 135, 136, 110, 408, 151, 152, 111, 409, 168, 169, 112, 410] (by decide +kernel) (by decide +kernel) w h).1
set_option maxRecDepth 20000 in
theorem inq_wsL_law_r2 : ∀ w ∈ wsL_law_r2, w ∈ lw_tbl := fun w h => (goodIn_r wsL_law_r2 [216, 217, 114, 411, 250, 251, 115, 412, 268, 269, 116, 413, 295, 296, 117, 414, 327, 328, 118, 415, 374, 375, 120, 416] (by decide +kernel) (by decide +kernel) w h).1
set_option maxRecDepth 20000 in
theorem inq_wsL_law_r3 : ∀ w ∈ wsL_law_r3, w ∈ lw_tbl := fun w h => (goodIn_r wsL_law_r3 [394, 395, 121, 417, 138, 139, 140, 150, 141, 154, 155, 156, 157, 170, 171, 172, 173, 181, 183, 187, 215, 189, 193, 196] (by decide +kernel) (by decide +kernel) w h).1
set_option maxRecDepth 20000 in
theorem inq_wsL_law_r4 : ∀ w ∈ wsL_law_r4, w ∈ lw_tbl := fun w h => (goodIn_r wsL_law_r4 [174, 175, 113, 176, 218, 219, 220, 221, 224, 223, 222, 252, 253, 254, 255, 256, 270, 271, 272, 273, 276, 277, 274, 275] (by decide +kernel) (by decide +kernel) w h).1
set_option maxRecDepth 20000 in
theorem inq_wsL_law_r5 : ∀ w ∈ wsL_law_r5, w ∈ lw_tbl := fun w h => (goodIn_r wsL_law_r5 [281, 297, 298, 299, 300, 304, 307, 309, 301, 302, 303, 329, 330, 331, 332, 363, 360, 361, 333, 334, 119, 362, 336, 337] (by decide +kernel) (by decide +kernel) w h).1
set_option maxRecDepth 20000 in
theorem inq_wsL_law_r6 : ∀ w ∈ wsL_law_r6, w ∈ lw_tbl := fun w h => (goodIn_r wsL_law_r6 [338, 339, 340, 341, 377, 378, 379, 380, 381, 397, 398, 399, 400, 1029, 1030, 1031, 1032, 1127, 1033, 1128, 1037, 1039, 1040, 1041] (by decide +kernel) (by decide +kernel) w h).1
set_option maxRecDepth 20000 in
theorem inq_wsL_law_r7 : ∀ w ∈ wsL_law_r7, w ∈ lw_tbl := fun w h => (goodIn_r wsL_law_r7 [1042, 1043, 1044, 1045, 1047, 1048, 1049, 1050, 1052, 1053, 1054, 1055, 1058, 1060, 1061, 1062, 1063, 442, 443, 444, 445, 142, 446, 447] (by decide +kernel) (by decide +kernel) w h).1
set_option maxRecDepth 20000 in
theorem inq_wsL_law_r8 : ∀ w ∈ wsL_law_r8, w ∈ lw_tbl := fun w h => (goodIn_r wsL_law_r8 [448, 449, 143, 1129, 1130, 1131, 1132, 1034, 1133, 1135, 38, 1136, 450, 451, 452, 453, 1137, 1138, 1139, 1140, 454, 455, 456, 457] (by decide +kernel) (by decide +kernel) w h).1
set_option maxRecDepth 20000 in
theorem inq_wsL_law_r9 : ∀ w ∈ wsL_law_r9, w ∈ lw_tbl := fun w h => (goodIn_r wsL_law_r9 [158, 383, 178, 458, 459, 460, 461, 159, 160, 144, 462, 463, 465, 0, 466, 467, 468, 469, 470, 471, 473, 1, 474, 475] (by decide +kernel) (by decide +kernel) w h).1
set_option maxRecDepth 20000 in
theorem inq_wsL_law_r10 : ∀ w ∈ wsL_law_r10, w ∈ lw_tbl := fun w h => (goodIn_r wsL_law_r10 [476, 477, 478, 479, 480, 481, 482, 123, 483, 484, 485, 486, 487, 489, 2, 490, 491, 492, 493, 494, 177, 495, 496, 497] (by decide +kernel) (by decide +kernel) w h).1
set_option maxRecDepth 20000 in
theorem inq_wsL_law_r11 : ∀ w ∈ wsL_law_r11, w ∈ lw_tbl := fun w h => (goodIn_r wsL_law_r11 [498, 499, 501, 3, 502, 504, 505, 506, 507, 508, 509, 510, 511, 512, 513, 229, 233, 234, 235, 514, 515, 516, 517, 401] (by decide +kernel) (by decide +kernel) w h).1
set_option maxRecDepth 20000 in
theorem inq_wsL_law_r12 : ∀ w ∈ wsL_law_r12, w ∈ lw_tbl := fun w h => (goodIn_r wsL_law_r12 [1141, 1142, 1143, 1144, 1035, 1036, 1038, 1145, 1147, 39, 1148, 1149, 1151, 40, 1152, 1153, 1155, 41, 1156, 1157, 1159, 42, 1160, 1161] (by decide +kernel) (by decide +kernel) w h).1
set_option maxRecDepth 20000 in
theorem inq_wsL_law_r13 : ∀ w ∈ wsL_law_r13, w ∈ lw_tbl := fun w h => (goodIn_r wsL_law_r13 [1162, 1163, 1164, 1166, 43, 1167, 1168, 1170, 44, 1171, 1172, 1173, 1175, 45, 1176, 1177, 1179, 46, 1180, 1181, 1182, 1183, 1184, 1186] (by decide +kernel) (by decide +kernel) w h).1
set_option maxRecDepth 20000 in
theorem inq_wsL_law_r14 : ∀ w ∈ wsL_law_r14, w ∈ lw_tbl := fun w h => (goodIn_r wsL_law_r14 [47, 1187, 1046, 518, 519, 520, 521, 182, 186, 227, 195, 232, 522, 523, 524, 525, 526, 528, 4, 529, 530, 531, 532, 533] (by decide +kernel) (by decide +kernel) w h).1
set_option maxRecDepth 20000 in
theorem inq_wsL_law_r15 : ∀ w ∈ wsL_law_r15, w ∈ lw_tbl := fun w h => (goodIn_r wsL_law_r15 [534, 535, 536, 538, 539, 540, 541, 542, 543, 544, 545, 236, 279, 231, 557, 546, 547, 549, 5, 550, 179, 552, 553, 554] (by decide +kernel) (by decide +kernel) w h).1
set_option maxRecDepth 20000 in
theorem inq_wsL_law_r16 : ∀ w ∈ wsL_law_r16, w ∈ lw_tbl := fun w h => (goodIn_r wsL_law_r16 [555, 192, 558, 559, 124, 560, 561, 562, 563, 1213, 1214, 1215, 1216, 1196, 1198, 48, 1199, 1205, 1207, 50, 1208, 1217, 1219, 52] (by decide +kernel) (by decide +kernel) w h).1
set_option maxRecDepth 20000 in
theorem inq_wsL_law_r17 : ∀ w ∈ wsL_law_r17, w ∈ lw_tbl := fun w h => (goodIn_r wsL_law_r17 [1220, 1221, 1223, 53, 1224, 1225, 1227, 54, 1228, 1201, 1203, 49, 1204, 1229, 1231, 55, 1232, 564, 565, 566, 567, 188, 1188, 1189] (by decide +kernel) (by decide +kernel) w h).1
set_option maxRecDepth 20000 in
theorem inq_wsL_law_r18 : ∀ w ∈ wsL_law_r18, w ∈ lw_tbl := fun w h => (goodIn_r wsL_law_r18 [1190, 1191, 568, 569, 570, 571, 572, 573, 574, 575, 576, 1192, 1193, 1194, 1195, 1200, 1209, 1211, 51, 1212, 578, 579, 580, 581] (by decide +kernel) (by decide +kernel) w h).1
set_option maxRecDepth 20000 in
theorem inq_wsL_law_r19 : ∀ w ∈ wsL_law_r19, w ∈ lw_tbl := fun w h => (goodIn_r wsL_law_r19 [191, 582, 583, 584, 585, 586, 587, 588, 589, 590, 591, 592, 593, 594, 597, 598, 599, 600, 601, 602, 225, 384, 603, 605] (by decide +kernel) (by decide +kernel) w h).1
set_option maxRecDepth 20000 in
theorem inq_wsL_law_r20 : ∀ w ∈ wsL_law_r20, w ∈ lw_tbl := fun w h => (goodIn_r wsL_law_r20 [604, 125, 230, 382, 606, 607, 126, 608, 609, 610, 611, 612, 613, 615, 6, 616, 617, 1237, 1238, 1239, 1240, 1241, 1243, 56] (by decide +kernel) (by decide +kernel) w h).1
set_option maxRecDepth 20000 in
theorem inq_wsL_law_r21 : ∀ w ∈ wsL_law_r21, w ∈ lw_tbl := fun w h => (goodIn_r wsL_law_r21 [1244, 1245, 1247, 57, 1248, 1249, 1251, 58, 1252, 1253, 1255, 59, 1256, 1257, 1259, 60, 1260, 1261, 1263, 61, 1264, 1265, 1267, 62] (by decide +kernel) (by decide +kernel) w h).1
set_option maxRecDepth 20000 in
theorem inq_wsL_law_r22 : ∀ w ∈ wsL_law_r22, w ∈ lw_tbl := fun w h => (goodIn_r wsL_law_r22 [1268, 1269, 1271, 63, 1272, 1273, 1275, 64, 1276, 618, 619, 620, 621, 622, 623, 624, 625, 1277, 1278, 1279, 1280, 626, 627, 628] (by decide +kernel) (by decide +kernel) w h).1
set_option maxRecDepth 20000 in
theorem inq_wsL_law_r23 : ∀ w ∈ wsL_law_r23, w ∈ lw_tbl := fun w h => (goodIn_r wsL_law_r23 [629, 630, 632, 7, 633, 634, 636, 8, 637, 638, 640, 9, 641, 258, 260, 642, 643, 644, 645, 257, 259, 646, 648, 10] (by decide +kernel) (by decide +kernel) w h).1
set_option maxRecDepth 20000 in
theorem inq_wsL_law_r24 : ∀ w ∈ wsL_law_r24, w ∈ lw_tbl := fun w h => (goodIn_r wsL_law_r24 [649, 194, 653, 651, 654, 655, 656, 657, 658, 659, 660, 661, 662, 190, 663, 664, 665, 1281, 1282, 1283, 1284, 1285, 1287, 65] (by decide +kernel) (by decide +kernel) w h).1
set_option maxRecDepth 20000 in
theorem inq_wsL_law_r25 : ∀ w ∈ wsL_law_r25, w ∈ lw_tbl := fun w h => (goodIn_r wsL_law_r25 [1288, 1289, 1291, 66, 1292, 1293, 1295, 67, 1296, 1297, 1299, 68, 1300, 1301, 1303, 69, 1304, 1305, 1307, 70, 1308, 1309, 1311, 71] (by decide +kernel) (by decide +kernel) w h).1
set_option maxRecDepth 20000 in
theorem inq_wsL_law_r26 : ∀ w ∈ wsL_law_r26, w ∈ lw_tbl := fun w h => (goodIn_r wsL_law_r26 [1312, 666, 667, 668, 669, 310, 670, 672, 11, 673, 674, 675, 676, 677, 280, 278, 184, 228, 678, 679, 680, 682, 12, 683] (by decide +kernel) (by decide +kernel) w h).1
set_option maxRecDepth 20000 in
theorem inq_wsL_law_r27 : ∀ w ∈ wsL_law_r27, w ∈ lw_tbl := fun w h => (goodIn_r wsL_law_r27 [684, 685, 686, 687, 689, 690, 691, 692, 311, 693, 695, 13, 696, 1356, 1357, 1358, 1359, 1051, 1317, 1319, 72, 1320, 1321, 1323] (by decide +kernel) (by decide +kernel) w h).1
set_option maxRecDepth 20000 in
theorem inq_wsL_law_r28 : ∀ w ∈ wsL_law_r28, w ∈ lw_tbl := fun w h => (goodIn_r wsL_law_r28 [73, 1324, 1325, 1327, 74, 1328, 1329, 1330, 1332, 75, 1333, 1348, 1350, 77, 1351, 1352, 1354, 78, 1355, 697, 698, 699, 700, 701] (by decide +kernel) (by decide +kernel) w h).1
set_option maxRecDepth 20000 in
theorem inq_wsL_law_r29 : ∀ w ∈ wsL_law_r29, w ∈ lw_tbl := fun w h => (goodIn_r wsL_law_r29 [703, 14, 704, 705, 706, 707, 708, 709, 1388, 1389, 1390, 1391, 1392, 1394, 82, 1395, 1396, 1398, 83, 1399, 1400, 1402, 84, 1403] (by decide +kernel) (by decide +kernel) w h).1
set_option maxRecDepth 20000 in
theorem inq_wsL_law_r30 : ∀ w ∈ wsL_law_r30, w ∈ lw_tbl := fun w h => (goodIn_r wsL_law_r30 [710, 711, 712, 713, 714, 715, 716, 717, 718, 719, 720, 721, 722, 723, 1233, 1234, 1235, 1236, 724, 725, 726, 727, 199, 728] (by decide +kernel) (by decide +kernel) w h).1
set_option maxRecDepth 20000 in
theorem inq_wsL_law_r31 : ∀ w ∈ wsL_law_r31, w ∈ lw_tbl := fun w h => (goodIn_r wsL_law_r31 [729, 730, 731, 732, 733, 1412, 1413, 1414, 1415, 734, 735, 736, 737, 738, 1313, 1314, 1315, 1316, 1334, 739, 740, 741, 742, 1344] (by decide +kernel) (by decide +kernel) w h).1
set_option maxRecDepth 20000 in
theorem inq_wsL_law_r32 : ∀ w ∈ wsL_law_r32, w ∈ lw_tbl := fun w h => (goodIn_r wsL_law_r32 [1345, 1346, 1347, 743, 744, 745, 746, 747, 306, 748, 749, 750, 751, 752, 753, 754, 755, 756, 758, 15, 759, 760, 761, 763] (by decide +kernel) (by decide +kernel) w h).1
set_option maxRecDepth 20000 in
theorem inq_wsL_law_r33 : ∀ w ∈ wsL_law_r33, w ∈ lw_tbl := fun w h => (goodIn_r wsL_law_r33 [16, 764, 1335, 1336, 1337, 1338, 1343, 1339, 1341, 76, 1342, 765, 766, 767, 768, 1376, 1377, 1378, 1379, 1380, 1382, 81, 1383, 769] (by decide +kernel) (by decide +kernel) w h).1
set_option maxRecDepth 20000 in
theorem inq_wsL_law_r34 : ∀ w ∈ wsL_law_r34, w ∈ lw_tbl := fun w h => (goodIn_r wsL_law_r34 [770, 771, 772, 773, 1384, 1385, 1386, 1387, 774, 775, 776, 777, 308, 1360, 1361, 1362, 1363, 1364, 1366, 79, 1367, 778, 779, 780] (by decide +kernel) (by decide +kernel) w h).1
set_option maxRecDepth 20000 in
theorem inq_wsL_law_r35 : ∀ w ∈ wsL_law_r35, w ∈ lw_tbl := fun w h => (goodIn_r wsL_law_r35 [781, 782, 784, 17, 785, 786, 787, 788, 789, 1368, 1369, 1370, 1371, 1372, 1374, 80, 1375, 791, 792, 793, 794, 795, 797, 18] (by decide +kernel) (by decide +kernel) w h).1
set_option maxRecDepth 20000 in
theorem inq_wsL_law_r36 : ∀ w ∈ wsL_law_r36, w ∈ lw_tbl := fun w h => (goodIn_r wsL_law_r36 [798, 799, 800, 801, 802, 197, 803, 804, 806, 19, 807, 808, 810, 20, 811, 180, 185, 812, 813, 814, 815, 343, 344, 817] (by decide +kernel) (by decide +kernel) w h).1
set_option maxRecDepth 20000 in
theorem inq_wsL_law_r37 : ∀ w ∈ wsL_law_r37, w ∈ lw_tbl := fun w h => (goodIn_r wsL_law_r37 [818, 819, 821, 21, 822, 305, 823, 824, 825, 826, 827, 828, 829, 830, 831, 832, 346, 833, 835, 22, 836, 837, 839, 23] (by decide +kernel) (by decide +kernel) w h).1
set_option maxRecDepth 20000 in
theorem inq_wsL_law_r38 : ∀ w ∈ wsL_law_r38, w ∈ lw_tbl := fun w h => (goodIn_r wsL_law_r38 [840, 841, 843, 24, 844, 845, 847, 25, 848, 1416, 1417, 1418, 1419, 1420, 1422, 85, 1423, 1424, 1426, 86, 1427, 1428, 1430, 87] (by decide +kernel) (by decide +kernel) w h).1
set_option maxRecDepth 20000 in
theorem inq_wsL_law_r39 : ∀ w ∈ wsL_law_r39, w ∈ lw_tbl := fun w h => (goodIn_r wsL_law_r39 [1431, 1432, 1434, 88, 1435, 1436, 1438, 89, 1439, 1056, 1057, 1440, 1442, 90, 1443, 1452, 879, 880, 1444, 1446, 91, 1447, 1448, 1450] (by decide +kernel) (by decide +kernel) w h).1
set_option maxRecDepth 20000 in
theorem inq_wsL_law_r40 : ∀ w ∈ wsL_law_r40, w ∈ lw_tbl := fun w h => (goodIn_r wsL_law_r40 [92, 1451, 1453, 1455, 93, 1456, 1457, 1459, 94, 1460, 1461, 1463, 95, 1464, 1465, 1467, 96, 1468, 1469, 1471, 97, 1472, 1473, 1475] (by decide +kernel) (by decide +kernel) w h).1
set_option maxRecDepth 20000 in
theorem inq_wsL_law_r41 : ∀ w ∈ wsL_law_r41, w ∈ lw_tbl := fun w h => (goodIn_r wsL_law_r41 [98, 1476, 849, 850, 851, 852, 364, 906, 853, 854, 855, 856, 345, 342, 857, 858, 859, 860, 861, 862, 864, 26, 865, 869] (by decide +kernel) (by decide +kernel) w h).1
set_option maxRecDepth 20000 in
theorem inq_wsL_law_r42 : ∀ w ∈ wsL_law_r42, w ∈ lw_tbl := fun w h => (goodIn_r wsL_law_r42 [866, 867, 126, 868, 870, 872, 27, 873, 874, 876, 28, 877, 878, 881, 883, 29, 884, 885, 887, 30, 888, 889, 890, 891] (by decide +kernel) (by decide +kernel) w h).1
set_option maxRecDepth 20000 in
theorem inq_wsL_law_r43 : ∀ w ∈ wsL_law_r43, w ∈ lw_tbl := fun w h => (goodIn_r wsL_law_r43 [892, 893, 894, 895, 897, 31, 898, 899, 900, 901, 902, 904, 32, 905, 1477, 1478, 1479, 1480, 1481, 907, 908, 909, 910, 1482] (by decide +kernel) (by decide +kernel) w h).1
set_option maxRecDepth 20000 in
theorem inq_wsL_law_r44 : ∀ w ∈ wsL_law_r44, w ∈ lw_tbl := fun w h => (goodIn_r wsL_law_r44 [1483, 1484, 1485, 1486, 1487, 911, 912, 913, 914, 1404, 1405, 1406, 1407, 915, 916, 917, 918, 1408, 1409, 1410, 1411, 919, 920, 921] (by decide +kernel) (by decide +kernel) w h).1
set_option maxRecDepth 20000 in
theorem inq_wsL_law_r45 : ∀ w ∈ wsL_law_r45, w ∈ lw_tbl := fun w h => (goodIn_r wsL_law_r45 [922, 923, 925, 33, 926, 927, 928, 929, 930, 931, 932, 1500, 1501, 1502, 1503, 1492, 1494, 99, 1495, 933, 934, 935, 936, 937] (by decide +kernel) (by decide +kernel) w h).1
set_option maxRecDepth 20000 in
theorem inq_wsL_law_r46 : ∀ w ∈ wsL_law_r46, w ∈ lw_tbl := fun w h => (goodIn_r wsL_law_r46 [939, 34, 940, 1504, 1505, 1506, 1507, 941, 942, 943, 944, 418, 1508, 1509, 1510, 1511, 1059, 945, 946, 947, 948, 970, 971, 972] (by decide +kernel) (by decide +kernel) w h).1
set_option maxRecDepth 20000 in
theorem inq_wsL_law_r47 : ∀ w ∈ wsL_law_r47, w ∈ lw_tbl := fun w h => (goodIn_r wsL_law_r47 [949, 951, 35, 952, 953, 955, 36, 956, 957, 958, 959, 960, 961, 962, 963, 964, 198, 965, 966, 967, 968, 1512, 1513, 1514] (by decide +kernel) (by decide +kernel) w h).1
set_option maxRecDepth 20000 in
theorem inq_wsL_law_r48 : ∀ w ∈ wsL_law_r48, w ∈ lw_tbl := fun w h => (goodIn_r wsL_law_r48 [1515, 1537, 1524, 1516, 1518, 100, 1519, 1520, 1522, 101, 1523, 1525, 1527, 102, 1528, 1529, 1531, 103, 1532, 1533, 1534, 1535, 1536, 973] (by decide +kernel) (by decide +kernel) w h).1
set_option maxRecDepth 20000 in
theorem inq_wsL_law_r49 : ∀ w ∈ wsL_law_r49, w ∈ lw_tbl := fun w h => (goodIn_r wsL_law_r49 [974, 975, 976, 977, 978, 979, 980, 1488, 1489, 1490, 1491, 981, 982, 983, 984, 985, 986, 987, 988, 1496, 1497, 1498, 1499, 989] (by decide +kernel) (by decide +kernel) w h).1
set_option maxRecDepth 20000 in
theorem inq_wsL_law_r50 : ∀ w ∈ wsL_law_r50, w ∈ lw_tbl := fun w h => (goodIn_r wsL_law_r50 [990, 991, 992, 993, 994, 995, 996, 226, 997, 999, 1000, 1001, 1002, 1003, 1538, 1539, 1540, 1541, 1542, 1544, 104, 1545, 1004, 1005] (by decide +kernel) (by decide +kernel) w h).1
set_option maxRecDepth 20000 in
theorem inq_wsL_law_r51 : ∀ w ∈ wsL_law_r51, w ∈ lw_tbl := fun w h => (goodIn_r wsL_law_r51 [1006, 1007, 402, 1008, 1009, 1010, 1011, 1546, 1547, 1548, 1549, 1012, 1013, 1014, 1015, 1016, 1017, 1018, 1019, 1020, 1026, 1022, 1024, 37] (by decide +kernel) (by decide +kernel) w h).1
set_option maxRecDepth 20000 in
theorem inq_wsL_law_r52 : ∀ w ∈ wsL_law_r52, w ∈ lw_tbl := fun w h => (goodIn_r wsL_law_r52 [1025, 1550, 1551, 1552, 1553, 1554, 1556, 105, 1557, 1558, 1560, 106, 1561, 1562, 1564, 107, 1565] (by decide +kernel) (by decide +kernel) w h).1
set_option maxRecDepth 20000 in
theorem inq_wsX110 : ∀ w ∈ wsX110, w ∈ lw_tbl := by decide +kernel
set_option maxRecDepth 20000 in
theorem inq_wsX120 : ∀ w ∈ wsX120, w ∈ lw_tbl := by decide +kernel
set_option maxRecDepth 20000 in
theorem inq_wsX100 : ∀ w ∈ wsX100, w ∈ lw_tbl := by decide +kernel
set_option maxRecDepth 20000 in
theorem inq_wsX80 : ∀ w ∈ wsX80, w ∈ lw_tbl := by decide +kernel
set_option maxRecDepth 20000 in
theorem inq_wsX90 : ∀ w ∈ wsX90, w ∈ lw_tbl := by decide +kernel
set_option maxRecDepth 20000 in
theorem inq_wsX60 : ∀ w ∈ wsX60, w ∈ lw_tbl := by decide +kernel
set_option maxRecDepth 20000 in
theorem inq_wsX70 : ∀ w ∈ wsX70, w ∈ lw_tbl := by decide +kernel
set_option maxRecDepth 20000 in
theorem inq_wsX20 : ∀ w ∈ wsX20, w ∈ lw_tbl := by decide +kernel
set_option maxRecDepth 20000 in
theorem inq_wsX10 : ∀ w ∈ wsX10, w ∈ lw_tbl := by decide +kernel
set_option maxRecDepth 20000 in
theorem inq_wsX00 : ∀ w ∈ wsX00, w ∈ lw_tbl := by decide +kernel
set_option maxRecDepth 20000 in
theorem inq_wsX30 : ∀ w ∈ wsX30, w ∈ lw_tbl := by decide +kernel
set_option maxRecDepth 20000 in
theorem inq_wsX40 : ∀ w ∈ wsX40, w ∈ lw_tbl := by decide +kernel
set_option maxRecDepth 20000 in
theorem inq_wsX50 : ∀ w ∈ wsX50, w ∈ lw_tbl := by decide +kernel
theorem wsL_law_in : ∀ w ∈ wsL_law, w ∈ lw_tbl := xq_app (xq_app (xq_app (xq_app (xq_app (xq_app (xq_app (xq_app (xq_app (xq_app (xq_app (xq_app (xq_app (xq_app (xq_app inq_wsL_law_r1 (xq_app inq_wsL_law_r2 (xq_app inq_wsL_law_r3 (xq_app inq_wsL_law_r4 (xq_app inq_wsL_law_r5 (xq_app inq_wsL_law_r6 (xq_app inq_wsL_law_r7 (xq_app inq_wsL_law_r8 (xq_app inq_wsL_law_r9 (xq_app inq_wsL_law_r10 (xq_app inq_wsL_law_r11 (xq_app inq_wsL_law_r12 (xq_app inq_wsL_law_r13 (xq_app inq_wsL_law_r14 (xq_app inq_wsL_law_r15 (xq_app inq_wsL_law_r16 (xq_app inq_wsL_law_r17 (xq_app inq_wsL_law_r18 (xq_app inq_wsL_law_r19 (xq_app inq_wsL_law_r20 (xq_app inq_wsL_law_r21 (xq_app inq_wsL_law_r22 (xq_app inq_wsL_law_r23 (xq_app inq_wsL_law_r24 (xq_app inq_wsL_law_r25 (xq_app inq_wsL_law_r26 (xq_app inq_wsL_law_r27 (xq_app inq_wsL_law_r28 (xq_app inq_wsL_law_r29 (xq_app inq_wsL_law_r30 (xq_app inq_wsL_law_r31 (xq_app inq_wsL_law_r32 (xq_app inq_wsL_law_r33 (xq_app inq_wsL_law_r34 (xq_app inq_wsL_law_r35 (xq_app inq_wsL_law_r36 (xq_app inq_wsL_law_r37 (xq_app inq_wsL_law_r38 (xq_app inq_wsL_law_r39 (xq_app inq_wsL_law_r40 (xq_app inq_wsL_law_r41 (xq_app inq_wsL_law_r42 (xq_app inq_wsL_law_r43 (xq_app inq_wsL_law_r44 (xq_app inq_wsL_law_r45 (xq_app inq_wsL_law_r46 (xq_app inq_wsL_law_r47 (xq_app inq_wsL_law_r48 (xq_app inq_wsL_law_r49 (xq_app inq_wsL_law_r50 (xq_app inq_wsL_law_r51 inq_wsL_law_r52))))))))))))))))))))))))))))))))))))))))))))))))))) inq_wsX110) inq_wsX120) inq_wsX100) inq_wsX80) inq_wsX90) inq_wsX60) inq_wsX70) inq_wsX20) inq_wsX10) inq_wsX00) inq_wsX30) inq_wsX40) inq_wsX50) (fun w h => absurd h List.not_mem_nil)
theorem inlX0 : ∀ w ∈ wsX00, w ∈ wsL_law := fun _ h => List.mem_append_left _ (List.mem_append_left _ (List.mem_append_left _ (List.mem_append_left _ (List.mem_append_right _ h))))
theorem inX0 : ∀ w ∈ wsX00, w ∈ lw_tbl := fun w h => wsL_law_in w (inlX0 w h)
theorem inlX1 : ∀ w ∈ wsX10, w ∈ wsL_law := fun _ h => List.mem_append_left _ (List.mem_append_left _ (List.mem_append_left _ (List.mem_append_left _ (List.mem_append_left _ (List.mem_append_right _ h)))))
theorem inX1 : ∀ w ∈ wsX10, w ∈ lw_tbl := fun w h => wsL_law_in w (inlX1 w h)
theorem inlX2 : ∀ w ∈ wsX20, w ∈ wsL_law := fun _ h => List.mem_append_left _ (List.mem_append_left _ (List.mem_append_left _ (List.mem_append_left _ (List.mem_append_left _ (List.mem_append_left _ (List.mem_append_right _ h))))))
theorem inX2 : ∀ w ∈ wsX20, w ∈ lw_tbl := fun w h => wsL_law_in w (inlX2 w h)
theorem inlX3 : ∀ w ∈ wsX30, w ∈ wsL_law := fun _ h => List.mem_append_left _ (List.mem_append_left _ (List.mem_append_left _ (List.mem_append_right _ h)))
theorem inX3 : ∀ w ∈ wsX30, w ∈ lw_tbl := fun w h => wsL_law_in w (inlX3 w h)
theorem inlX4 : ∀ w ∈ wsX40, w ∈ wsL_law := fun _ h => List.mem_append_left _ (List.mem_append_left _ (List.mem_append_right _ h))
theorem inX4 : ∀ w ∈ wsX40, w ∈ lw_tbl := fun w h => wsL_law_in w (inlX4 w h)
theorem inlX5 : ∀ w ∈ wsX50, w ∈ wsL_law := fun _ h => List.mem_append_left _ (List.mem_append_right _ h)
theorem inX5 : ∀ w ∈ wsX50, w ∈ lw_tbl := fun w h => wsL_law_in w (inlX5 w h)
theorem inlX6 : ∀ w ∈ wsX60, w ∈ wsL_law := fun _ h => List.mem_append_left _ (List.mem_append_left _ (List.mem_append_left _ (List.mem_append_left _ (List.mem_append_left _ (List.mem_append_left _ (List.mem_append_left _ (List.mem_append_left _ (List.mem_append_right _ h))))))))
theorem inX6 : ∀ w ∈ wsX60, w ∈ lw_tbl := fun w h => wsL_law_in w (inlX6 w h)
theorem inlX7 : ∀ w ∈ wsX70, w ∈ wsL_law := fun _ h => List.mem_append_left _ (List.mem_append_left _ (List.mem_append_left _ (List.mem_append_left _ (List.mem_append_left _ (List.mem_append_left _ (List.mem_append_left _ (List.mem_append_right _ h)))))))
theorem inX7 : ∀ w ∈ wsX70, w ∈ lw_tbl := fun w h => wsL_law_in w (inlX7 w h)
theorem inlX8 : ∀ w ∈ wsX80, w ∈ wsL_law := fun _ h => List.mem_append_left _ (List.mem_append_left _ (List.mem_append_left _ (List.mem_append_left _ (List.mem_append_left _ (List.mem_append_left _ (List.mem_append_left _ (List.mem_append_left _ (List.mem_append_left _ (List.mem_append_left _ (List.mem_append_right _ h))))))))))
theorem inX8 : ∀ w ∈ wsX80, w ∈ lw_tbl := fun w h => wsL_law_in w (inlX8 w h)
theorem inlX9 : ∀ w ∈ wsX90, w ∈ wsL_law := fun _ h => List.mem_append_left _ (List.mem_append_left _ (List.mem_append_left _ (List.mem_append_left _ (List.mem_append_left _ (List.mem_append_left _ (List.mem_append_left _ (List.mem_append_left _ (List.mem_append_left _ (List.mem_append_right _ h)))))))))
theorem inX9 : ∀ w ∈ wsX90, w ∈ lw_tbl := fun w h => wsL_law_in w (inlX9 w h)
theorem inlX10 : ∀ w ∈ wsX100, w ∈ wsL_law := fun _ h => List.mem_append_left _ (List.mem_append_left _ (List.mem_append_left _ (List.mem_append_left _ (List.mem_append_left _ (List.mem_append_left _ (List.mem_append_left _ (List.mem_append_left _ (List.mem_append_left _ (List.mem_append_left _ (List.mem_append_left _ (List.mem_append_right _ h)))))))))))
theorem inX10 : ∀ w ∈ wsX100, w ∈ lw_tbl := fun w h => wsL_law_in w (inlX10 w h)
theorem inlX11 : ∀ w ∈ wsX110, w ∈ wsL_law := fun _ h => List.mem_append_left _ (List.mem_append_left _ (List.mem_append_left _ (List.mem_append_left _ (List.mem_append_left _ (List.mem_append_left _ (List.mem_append_left _ (List.mem_append_left _ (List.mem_append_left _ (List.mem_append_left _ (List.mem_append_left _ (List.mem_append_left _ (List.mem_append_left _ (List.mem_append_right _ h)))))))))))))
theorem inX11 : ∀ w ∈ wsX110, w ∈ lw_tbl := fun w h => wsL_law_in w (inlX11 w h)
theorem inlX12 : ∀ w ∈ wsX120, w ∈ wsL_law := fun _ h => List.mem_append_left _ (List.mem_append_left _ (List.mem_append_left _ (List.mem_append_left _ (List.mem_append_left _ (List.mem_append_left _ (List.mem_append_left _ (List.mem_append_left _ (List.mem_append_left _ (List.mem_append_left _ (List.mem_append_left _ (List.mem_append_left _ (List.mem_append_right _ h))))))))))))
theorem inX12 : ∀ w ∈ wsX120, w ∈ lw_tbl := fun w h => wsL_law_in w (inlX12 w h)
theorem inJ6 : ∀ w ∈ wsJ60, w ∈ lw_tbl := by decide +kernel
theorem inJ13 : ∀ w ∈ wsJ130, w ∈ lw_tbl := by decide +kernel
theorem inJ9 : ∀ w ∈ wsJ90, w ∈ lw_tbl := by decide +kernel
theorem inJ10 : ∀ w ∈ wsJ100, w ∈ lw_tbl := by decide +kernel
theorem inJ7 : ∀ w ∈ wsJ70, w ∈ lw_tbl := by decide +kernel
abbrev vwCl : List vw_C := [(RX0, TX0, 4), (RX1, TX1, 7), (RX2, TX2, 6), (RX3, TX3, 4), (RX4, TX4, 2), (RX5, TX5, 6), (RX6, TX6, 6), (RX7, TX7, 3), (RX8, TX8, 3), (RX9, TX9, 7), (RX10, TX10, 2), (RX11, TX11, 11), (RX12, TX12, 31)]
