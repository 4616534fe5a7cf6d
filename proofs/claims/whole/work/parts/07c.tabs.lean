/-! tables of methods and links (printed by program) -/
def codeT : List (Nat × Nat × Nat) := [(0, 304, 8), (1, 796, 8), (2, 847, 8), (3, 31, 2), (4, 350, 2), (5, 361, 2), (6, 365, 2), (7, 746, 2), (8, 666, 2), (9, 162, 4), (10, 494, 4), (11, 582, 4), (12, 598, 4), (13, 650, 4), (14, 594, 4), (15, 602, 4), (16, 638, 4), (17, 658, 4), (18, 586, 4), (19, 630, 4), (20, 654, 4), (21, 634, 4), (22, 642, 4), (23, 646, 4), (24, 662, 4), (25, 676, 4), (26, 680, 4), (27, 684, 4), (28, 688, 4), (29, 590, 4), (30, 626, 4), (31, 606, 4), (32, 614, 4), (33, 618, 4), (34, 610, 4), (35, 622, 4), (36, 37, 3), (37, 354, 3), (38, 373, 3), (39, 325, 9), (40, 1010, 9), (41, 168, 5), (42, 498, 5), (43, 501, 5), (44, 507, 5), (45, 510, 5), (46, 504, 5), (47, 513, 5), (48, 516, 5), (49, 519, 5), (50, 572, 5), (51, 227, 7), (52, 384, 7), (53, 388, 7), (54, 396, 7), (55, 400, 7), (56, 403, 7), (57, 407, 7), (58, 411, 7), (59, 415, 7), (60, 419, 7), (61, 423, 7), (62, 427, 7), (63, 430, 7), (64, 219, 6), (65, 380, 6), (66, 713, 6), (67, 734, 6), (68, 938, 6), (69, 792, 6), (70, 802, 6), (71, 726, 6), (72, 760, 6), (73, 773, 6), (74, 781, 6), (75, 753, 6), (76, 730, 6), (77, 777, 6), (78, 738, 6), (79, 742, 6), (80, 750, 6), (81, 869, 6), (82, 865, 6), (83, 930, 6), (84, 964, 6), (85, 821, 6), (86, 825, 6), (87, 830, 6), (88, 833, 6), (89, 836, 6), (90, 23, 1), (91, 478, 1), (92, 482, 1), (93, 486, 1), (94, 490, 1), (95, 369, 1), (96, 692, 1), (97, 696, 1), (98, 718, 1), (99, 765, 1), (100, 700, 1), (101, 722, 1), (102, 769, 1), (103, 809, 1), (104, 785, 1), (105, 788, 1), (106, 806, 1), (107, 813, 1), (108, 817, 1), (109, 843, 1), (110, 851, 1), (111, 856, 1), (112, 861, 1), (113, 874, 1), (114, 878, 1), (115, 882, 1), (116, 886, 1), (117, 894, 1), (118, 890, 1), (119, 898, 1), (120, 902, 1), (121, 906, 1), (122, 910, 1), (123, 914, 1), (124, 918, 1), (125, 922, 1), (126, 926, 1), (127, 934, 1), (128, 942, 1), (129, 946, 1), (130, 952, 1), (131, 956, 1), (132, 960, 1), (133, 968, 1), (134, 972, 1), (135, 977, 1), (136, 981, 1), (137, 985, 1), (138, 989, 1), (139, 994, 1), (140, 998, 1), (141, 1002, 1), (142, 1006, 1), (143, 1014, 1), (144, 1018, 1), (145, 1022, 1), (146, 1026, 1), (147, 1030, 1), (148, 1034, 1), (149, 1038, 1), (150, 1042, 1), (151, 706, 1), (152, 703, 1), (153, 709, 1), (154, 1047, 12), (155, 1337, 12), (156, 1341, 12), (157, 1345, 12), (158, 1357, 12), (159, 1367, 12), (160, 1364, 12), (161, 1058, 12), (162, 1055, 12), (163, 1361, 12), (164, 1353, 12), (165, 1371, 12), (166, 1375, 12), (167, 1387, 12), (168, 1403, 12), (169, 1391, 12), (170, 1399, 12), (171, 1052, 12), (172, 1349, 12), (173, 1463, 12), (174, 1383, 12), (175, 1379, 12), (176, 1395, 12), (177, 1407, 12), (178, 1427, 12), (179, 1423, 12), (180, 1431, 12), (181, 1415, 12), (182, 1411, 12), (183, 1419, 12), (184, 1435, 12), (185, 1439, 12), (186, 1459, 12), (187, 1451, 12), (188, 1455, 12), (189, 1443, 12), (190, 1447, 12), (191, 1530, 12), (192, 1474, 12), (193, 1533, 12), (194, 1732, 12), (195, 1471, 12), (196, 1497, 12), (197, 1545, 12), (198, 1075, 12), (199, 1079, 12), (200, 1083, 12), (201, 1063, 12), (202, 1111, 12), (203, 1478, 12), (204, 1602, 12), (205, 1599, 12), (206, 1071, 12), (207, 1087, 12), (208, 1099, 12), (209, 1095, 12), (210, 1091, 12), (211, 1103, 12), (212, 1107, 12), (213, 1067, 12), (214, 1489, 12), (215, 1486, 12), (216, 1482, 12), (217, 1501, 12), (218, 1518, 12), (219, 1505, 12), (220, 1526, 12), (221, 1522, 12), (222, 1514, 12), (223, 1510, 12), (224, 1537, 12), (225, 1549, 12), (226, 1553, 12), (227, 1636, 12), (228, 1632, 12), (229, 1564, 12), (230, 1568, 12), (231, 1677, 12), (232, 1595, 12), (233, 1591, 12), (234, 1467, 12), (235, 1493, 12), (236, 1541, 12), (237, 1572, 12), (238, 1560, 12), (239, 1557, 12), (240, 1576, 12), (241, 1580, 12), (242, 1587, 12), (243, 1584, 12), (244, 1607, 12), (245, 1615, 12), (246, 1619, 12), (247, 1611, 12), (248, 1624, 12), (249, 1628, 12), (250, 1640, 12), (251, 1644, 12), (252, 1649, 12), (253, 1661, 12), (254, 1665, 12), (255, 1657, 12), (256, 1669, 12), (257, 1653, 12), (258, 1681, 12), (259, 1673, 12), (260, 1685, 12), (261, 1693, 12), (262, 1689, 12), (263, 1705, 12), (264, 1709, 12), (265, 1701, 12), (266, 1697, 12), (267, 1713, 12), (268, 1717, 12), (269, 1721, 12), (270, 1725, 12), (271, 1729, 12), (272, 1736, 12), (273, 1740, 12), (274, 1744, 12), (275, 1748, 12), (276, 1752, 12), (277, 1760, 12), (278, 1756, 12), (279, 1768, 12), (280, 1764, 12), (281, 1772, 12), (282, 1776, 12), (283, 1780, 12), (284, 669, 18), (285, 577, 17), (286, 756, 17), (287, 524, 13), (288, 534, 13), (289, 528, 13), (290, 538, 13), (291, 544, 13), (292, 541, 14), (293, 562, 16), (294, 558, 16), (295, 552, 16), (296, 555, 16), (297, 391, 10), (298, 357, 10), (299, 549, 15)]
def statT : List (Nat × Nat) := [(33, 617), (43, 500), (44, 506), (45, 509), (46, 503), (47, 512), (48, 515), (49, 518), (50, 571), (56, 402), (63, 429), (75, 752), (80, 749), (88, 832), (89, 835), (103, 808), (105, 787), (151, 705), (152, 702), (153, 708), (159, 1366), (160, 1363), (161, 1057), (162, 1054), (192, 1473), (193, 1532), (194, 1731), (204, 1601), (214, 1488), (238, 1559), (242, 1586), (284, 668), (285, 576), (286, 755), (291, 543), (292, 540), (293, 561), (294, 557), (295, 551), (296, 554), (297, 390), (298, 356), (299, 548)]
def virtT : List (Nat × Nat × Nat) := [(1, 794, 935), (2, 845, 986), (4, 348, 489), (5, 360, 0), (6, 363, 504), (7, 744, 885), (8, 664, 805), (10, 492, 633), (11, 581, 12), (12, 597, 16), (13, 649, 28), (14, 593, 15), (15, 601, 17), (16, 637, 25), (17, 657, 30), (18, 585, 13), (19, 629, 23), (20, 653, 29), (21, 633, 24), (22, 641, 26), (23, 645, 27), (24, 661, 31), (25, 675, 32), (26, 679, 33), (27, 683, 34), (28, 687, 35), (29, 589, 14), (30, 625, 22), (31, 605, 18), (32, 613, 20), (34, 609, 19), (35, 621, 21), (37, 352, 493), (38, 371, 512), (40, 1008, 1149), (42, 496, 637), (52, 382, 523), (53, 387, 2), (54, 395, 3), (55, 399, 4), (57, 406, 5), (58, 410, 6), (59, 414, 7), (60, 418, 8), (61, 422, 9), (62, 426, 10), (65, 378, 519), (66, 711, 852), (67, 732, 873), (68, 936, 1077), (69, 790, 931), (70, 800, 941), (71, 724, 865), (72, 758, 899), (73, 771, 912), (74, 779, 920), (76, 729, 38), (77, 776, 42), (78, 737, 39), (79, 741, 40), (81, 867, 1008), (82, 863, 1004), (83, 928, 1069), (84, 962, 1103), (85, 819, 960), (86, 824, 43), (87, 829, 44), (91, 476, 617), (92, 481, 11), (93, 484, 625), (94, 488, 629), (95, 368, 1), (96, 690, 831), (97, 694, 835), (98, 716, 857), (99, 763, 904), (100, 699, 36), (101, 721, 37), (102, 768, 41), (104, 783, 924), (106, 804, 945), (107, 811, 952), (108, 815, 956), (109, 841, 982), (110, 849, 990), (111, 854, 995), (112, 859, 1000), (113, 872, 1013), (114, 876, 1017), (115, 881, 45), (116, 885, 46), (117, 893, 47), (118, 888, 1029), (119, 897, 48), (120, 900, 1041), (121, 904, 1045), (122, 909, 49), (123, 912, 1053), (124, 917, 50), (125, 921, 51), (126, 925, 52), (127, 932, 1073), (128, 940, 1081), (129, 944, 1085), (130, 950, 1091), (131, 954, 1095), (132, 959, 53), (133, 966, 1107), (134, 970, 1111), (135, 976, 54), (136, 979, 1120), (137, 983, 1124), (138, 987, 1128), (139, 992, 1133), (140, 996, 1137), (141, 1000, 1141), (142, 1005, 55), (143, 1012, 1153), (144, 1017, 56), (145, 1020, 1161), (146, 1024, 1165), (147, 1028, 1169), (148, 1033, 57), (149, 1037, 58), (150, 1041, 59), (155, 1335, 1476), (156, 1340, 74), (157, 1343, 1484), (158, 1356, 76), (163, 1360, 77), (164, 1352, 75), (165, 1370, 78), (166, 1374, 79), (167, 1386, 82), (168, 1402, 86), (169, 1390, 83), (170, 1398, 85), (171, 1051, 60), (172, 1347, 1488), (173, 1461, 1602), (174, 1382, 81), (175, 1378, 80), (176, 1394, 84), (177, 1406, 87), (178, 1426, 92), (179, 1422, 91), (180, 1430, 93), (181, 1414, 89), (182, 1410, 88), (183, 1418, 90), (184, 1434, 94), (185, 1438, 95), (186, 1458, 100), (187, 1450, 98), (188, 1454, 99), (189, 1442, 96), (190, 1446, 97), (191, 1529, 113), (195, 1470, 101), (196, 1496, 105), (197, 1544, 115), (198, 1074, 64), (199, 1078, 65), (200, 1082, 66), (201, 1062, 61), (202, 1110, 73), (203, 1477, 102), (205, 1598, 123), (206, 1070, 63), (207, 1086, 67), (208, 1098, 70), (209, 1094, 69), (210, 1090, 68), (211, 1102, 71), (212, 1106, 72), (213, 1066, 62), (215, 1485, 104), (216, 1481, 103), (217, 1500, 106), (218, 1517, 110), (219, 1504, 107), (220, 1525, 112), (221, 1521, 111), (222, 1513, 109), (223, 1509, 108), (224, 1536, 114), (225, 1548, 116), (226, 1552, 117), (227, 1635, 127), (228, 1631, 126), (229, 1563, 118), (230, 1567, 119), (231, 1676, 132), (232, 1594, 122), (233, 1590, 121), (234, 1465, 1606), (235, 1491, 1632), (236, 1539, 1680), (237, 1571, 120), (239, 1555, 1696), (240, 1574, 1715), (241, 1578, 1719), (243, 1582, 1723), (244, 1605, 1746), (245, 1614, 124), (246, 1618, 125), (247, 1609, 1750), (248, 1622, 1763), (249, 1626, 1767), (250, 1638, 1779), (251, 1642, 1783), (252, 1647, 1788), (253, 1660, 129), (254, 1664, 130), (255, 1656, 128), (256, 1668, 131), (257, 1651, 1792), (258, 1680, 133), (259, 1671, 1812), (260, 1683, 1824), (261, 1692, 134), (262, 1687, 1828), (263, 1704, 136), (264, 1708, 137), (265, 1700, 135), (266, 1695, 1836), (267, 1711, 1852), (268, 1715, 1856), (269, 1719, 1860), (270, 1723, 1864), (271, 1727, 1868), (272, 1734, 1875), (273, 1738, 1879), (274, 1742, 1883), (275, 1746, 1887), (276, 1750, 1891), (277, 1759, 138), (278, 1754, 1895), (279, 1767, 139), (280, 1762, 1903), (281, 1770, 1911), (282, 1774, 1915), (283, 1778, 1919), (287, 522, 663), (288, 532, 673), (289, 526, 667), (290, 536, 677)]
def iniT : List (Nat × Nat) := [(0, 303), (3, 30), (9, 161), (36, 36), (39, 324), (41, 167), (51, 226), (64, 218), (90, 22), (154, 1046)]
def mlk : Nat → List (Nat × Nat × Nat × Nat) := fun o => match o with
  | 0 => [(24, 36, 3, 308), (25, 38, 1, 797), (29, 286, 0, 798)]
  | 1 => [(36, 36, 3, 35), (54, 37, 1, 351), (60, 5, 1, 358), (64, 6, 1, 362)]
  | 2 => [(13, 41, 3, 166), (26, 42, 1, 495), (30, 4, 1, 578), (51, 11, 1, 579), (55, 18, 1, 583), (63, 12, 1, 595), (67, 14, 1, 591), (74, 15, 1, 599), (77, 16, 1, 635), (81, 13, 1, 647), (85, 29, 1, 587), (88, 19, 1, 627), (91, 20, 1, 651), (94, 24, 1, 659), (97, 26, 1, 677), (100, 27, 1, 681), (103, 28, 1, 685), (109, 21, 1, 631), (121, 17, 1, 655), (128, 22, 1, 639), (132, 23, 1, 643), (138, 8, 1, 663), (142, 284, 0, 667), (150, 25, 1, 673), (183, 31, 1, 603), (186, 30, 1, 623), (189, 6, 1, 615), (195, 34, 1, 607), (198, 32, 1, 611), (201, 33, 0, 616), (204, 35, 1, 619)]
  | 3 => [(24, 298, 0, 355)]
  | 5 => [(26, 43, 0, 499), (30, 46, 0, 502), (34, 47, 0, 511), (37, 50, 0, 570), (41, 285, 0, 575), (47, 44, 0, 505), (50, 45, 0, 508), (53, 48, 0, 514), (68, 49, 0, 517)]
  | 6 => [(40, 53, 1, 385), (58, 54, 1, 393), (62, 55, 1, 397), (65, 57, 1, 404), (68, 58, 1, 408), (79, 59, 1, 412), (82, 60, 1, 416), (86, 62, 1, 424), (95, 297, 0, 389), (101, 298, 0, 392), (116, 56, 0, 401), (126, 61, 1, 420), (133, 63, 0, 428)]
  | 7 => [(11, 36, 3, 222), (20, 51, 3, 225), (38, 52, 1, 381), (61, 76, 1, 727), (65, 79, 1, 739), (69, 75, 0, 751), (73, 77, 1, 774), (76, 286, 0, 754), (81, 285, 0, 747), (90, 67, 1, 731), (96, 78, 1, 735), (117, 7, 1, 743), (120, 80, 0, 748), (124, 71, 1, 870), (127, 81, 1, 866), (131, 86, 1, 822), (134, 87, 1, 827), (137, 65, 1, 839), (140, 72, 1, 826), (143, 88, 0, 831), (146, 74, 1, 838), (149, 89, 0, 834)]
  | 8 => [(22, 3, 3, 29), (32, 9, 2, 160), (41, 64, 2, 217), (51, 0, 2, 302), (68, 39, 3, 323), (82, 36, 3, 346), (83, 4, 1, 347), (86, 95, 1, 366), (89, 92, 1, 479), (93, 10, 1, 491), (108, 38, 1, 370), (112, 65, 1, 377), (119, 100, 1, 697), (137, 152, 0, 701), (141, 153, 0, 707), (144, 66, 1, 710), (148, 8, 1, 714), (151, 101, 1, 719), (163, 71, 1, 723), (166, 72, 1, 757), (178, 67, 1, 761), (181, 102, 1, 766), (193, 73, 1, 770), (196, 74, 1, 778), (208, 105, 0, 786), (212, 69, 1, 789), (215, 1, 1, 793), (218, 70, 1, 799), (224, 103, 0, 807), (234, 85, 1, 818), (241, 2, 1, 844), (256, 63, 0, 857), (259, 82, 1, 862), (267, 115, 1, 879), (270, 116, 1, 883), (273, 117, 1, 891), (276, 119, 1, 895), (279, 122, 1, 907), (283, 124, 1, 915), (286, 125, 1, 919), (289, 126, 1, 923), (292, 83, 1, 927), (296, 68, 1, 935), (299, 286, 0, 947), (305, 285, 0, 948), (308, 132, 1, 957), (311, 84, 1, 961), (314, 284, 0, 973), (319, 135, 1, 974), (323, 81, 1, 990), (335, 142, 1, 1003), (338, 40, 1, 1007), (342, 144, 1, 1015), (345, 148, 1, 1031), (348, 149, 1, 1035), (351, 150, 1, 1039), (354, 151, 0, 704)]
  | 9 => [(164, 171, 1, 1049), (168, 162, 0, 1053), (172, 201, 1, 1060), (175, 202, 1, 1108), (181, 156, 1, 1338), (189, 161, 0, 1056), (196, 158, 1, 1354), (200, 163, 1, 1358), (204, 160, 0, 1362), (208, 159, 0, 1365), (211, 165, 1, 1368), (230, 167, 1, 1384), (233, 166, 1, 1372), (236, 169, 1, 1388), (239, 164, 1, 1350), (260, 175, 1, 1376), (269, 174, 1, 1380), (273, 176, 1, 1392), (277, 177, 1, 1404), (280, 182, 1, 1408), (283, 183, 1, 1416), (286, 184, 1, 1432), (289, 181, 1, 1412), (293, 170, 1, 1396), (296, 185, 1, 1436), (299, 168, 1, 1400), (302, 178, 1, 1424), (305, 179, 1, 1420), (308, 180, 1, 1428), (311, 189, 1, 1440), (314, 186, 1, 1456), (320, 187, 1, 1448), (323, 190, 1, 1444), (326, 188, 1, 1452), (334, 192, 0, 1472), (344, 213, 1, 1064), (348, 204, 0, 1600), (351, 198, 1, 1072), (354, 199, 1, 1076), (357, 200, 1, 1080), (360, 208, 1, 1096), (363, 207, 1, 1084), (366, 209, 1, 1092), (376, 206, 1, 1068), (379, 210, 1, 1088), (382, 211, 1, 1100), (385, 212, 1, 1104), (389, 214, 0, 1487), (395, 217, 1, 1498), (399, 191, 1, 1527), (402, 218, 1, 1515), (405, 221, 1, 1519), (408, 219, 1, 1502), (411, 222, 1, 1511), (414, 220, 1, 1523), (417, 193, 0, 1531), (420, 223, 1, 1507), (423, 227, 1, 1633), (426, 229, 1, 1561), (429, 224, 1, 1534), (432, 205, 1, 1596), (435, 226, 1, 1550), (438, 232, 1, 1592), (441, 195, 1, 1468), (444, 203, 1, 1475), (447, 216, 1, 1479), (450, 215, 1, 1483), (454, 196, 1, 1494), (457, 197, 1, 1542), (460, 225, 1, 1546), (463, 238, 0, 1558), (467, 230, 1, 1565), (470, 237, 1, 1569), (473, 242, 0, 1585), (476, 233, 1, 1588), (481, 245, 1, 1612), (485, 246, 1, 1616), (488, 228, 1, 1629), (498, 253, 1, 1658), (501, 254, 1, 1662), (504, 255, 1, 1654), (507, 256, 1, 1666), (510, 231, 1, 1674), (513, 258, 1, 1678), (517, 261, 1, 1690), (521, 263, 1, 1702), (524, 264, 1, 1706), (527, 265, 1, 1698), (530, 194, 0, 1730), (533, 277, 1, 1757), (536, 279, 1, 1765)]
  | 12 => [(335, 289, 1, 525), (492, 290, 1, 535), (495, 292, 0, 539), (498, 295, 0, 550), (1059, 299, 0, 547)]
  | 13 => [(9, 291, 0, 542)]
  | 14 => [(48, 294, 0, 556), (67, 296, 0, 553), (71, 293, 0, 560), (414, 291, 0, 559)]
  | 17 => [(9, 90, 2, 21), (12, 154, 2, 1045), (13, 91, 1, 475), (17, 155, 1, 1334), (18, 93, 1, 483), (22, 157, 1, 1342), (23, 94, 1, 487), (27, 172, 1, 1346), (28, 96, 1, 689), (31, 173, 1, 1460), (32, 97, 1, 693), (36, 234, 1, 1464), (37, 98, 1, 715), (40, 235, 1, 1490), (41, 99, 1, 762), (44, 236, 1, 1538), (45, 104, 1, 782), (49, 239, 1, 1554), (50, 106, 1, 803), (54, 240, 1, 1573), (55, 107, 1, 810), (59, 241, 1, 1577), (60, 108, 1, 814), (63, 243, 1, 1581), (64, 109, 1, 840), (68, 244, 1, 1604), (69, 110, 1, 848), (72, 247, 1, 1608), (73, 111, 1, 853), (76, 248, 1, 1621), (77, 112, 1, 858), (80, 249, 1, 1625), (81, 113, 1, 871), (84, 250, 1, 1637), (85, 114, 1, 875), (89, 257, 1, 1650), (90, 118, 1, 887), (93, 259, 1, 1670), (94, 120, 1, 899), (97, 260, 1, 1682), (98, 121, 1, 903), (101, 262, 1, 1686), (102, 123, 1, 911), (105, 266, 1, 1694), (106, 127, 1, 931), (109, 267, 1, 1710), (110, 128, 1, 939), (113, 268, 1, 1714), (114, 129, 1, 943), (117, 251, 1, 1641), (118, 130, 1, 949), (121, 252, 1, 1646), (122, 131, 1, 953), (125, 269, 1, 1718), (126, 133, 1, 965), (129, 270, 1, 1722), (130, 134, 1, 969), (133, 271, 1, 1726), (134, 136, 1, 978), (137, 272, 1, 1733), (138, 137, 1, 982), (141, 273, 1, 1737), (142, 138, 1, 986), (146, 274, 1, 1741), (147, 139, 1, 991), (151, 275, 1, 1745), (152, 140, 1, 995), (155, 276, 1, 1749), (156, 141, 1, 999), (159, 278, 1, 1753), (160, 143, 1, 1011), (163, 280, 1, 1761), (164, 145, 1, 1019), (167, 281, 1, 1769), (168, 146, 1, 1023), (171, 282, 1, 1773), (172, 147, 1, 1027), (175, 283, 1, 1777)]
  | _ => []
def olk : Nat → List (Nat × Nat) := fun o => match o with
  | 0 => [(3, 305)]
  | 1 => [(5, 32)]
  | 2 => [(5, 163)]
  | 3 => [(3, 38)]
  | 4 => [(3, 326)]
  | 5 => [(3, 169)]
  | 6 => [(3, 228)]
  | 7 => [(3, 220)]
  | 8 => [(1, 24)]
  | 9 => [(7, 1048)]
  | _ => []
def alk : Nat → List (Nat × Nat) := fun o => match o with
  | 3 => [(40, 374)]
  | _ => []
def slk : Nat → List (Nat × Nat × Nat) := fun o => match o with
  | 5 => [(58, 6, 521), (64, 7, 531)]
  | _ => []
def clk : Nat → List (Nat × Nat × Nat) := fun o => match o with
  | 0 => [(9, 3, 306)]
  | 1 => [(34, 3, 33)]
  | 2 => [(11, 5, 164)]
  | 7 => [(9, 3, 221), (18, 6, 223)]
  | 8 => [(20, 1, 27), (30, 2, 158), (39, 7, 215), (49, 0, 300), (56, 3, 320), (66, 4, 321)]
  | 17 => [(7, 8, 19), (10, 9, 1043)]
  | _ => []
def clkM : Nat → List (Nat × Nat × Nat) := fun o => match o with
  | 6 => [(35, 11, 229)]
  | 8 => [(73, 10, 344)]
  | _ => []
def cik : Nat → List (Nat × Nat × Nat) := fun o => match o with
  | 7 => [(152, 1103515245, 837)]
  | 9 => [(347, 1103515245, 1603), (491, 999999, 1645)]
  | 10 => [(265, 1431655765, 670), (266, 858993459, 671), (267, 252645135, 672)]
  | _ => []
def clg : Nat → List (Nat × Nat × Nat) := fun o => match o with
  | 5 => [(74, 10, 573), (76, 27, 574)]
  | 6 => [(137, 100, 431)]
  | 8 => [(251, 4, 852)]
  | 9 => [(187, 27, 1059), (393, 100, 1506), (479, 4, 1620)]
  | _ => []
theorem init_ok : ∀ e ∈ codeT, tables_1[e.2.2]? = some (.initialized (mY e.1).cls) := by decide +kernel
theorem mem_t1 {w : Cond} (h : w ∈ tables_1_1) : w ∈ tables_1 := List.mem_append_left _ h
theorem mem_t2 {w : Cond} (h : w ∈ tables_1_2) : w ∈ tables_1 := List.mem_append_right _ (List.mem_append_left _ h)
theorem mem_t3 {w : Cond} (h : w ∈ tables_1_3) : w ∈ tables_1 := List.mem_append_right _ (List.mem_append_right _ (List.mem_append_left _ h))
theorem mem_t4 {w : Cond} (h : w ∈ tables_1_4) : w ∈ tables_1 := List.mem_append_right _ (List.mem_append_right _ (List.mem_append_right _ (List.mem_append_left _ h)))
theorem mem_t5 {w : Cond} (h : w ∈ tables_1_5) : w ∈ tables_1 := List.mem_append_right _ (List.mem_append_right _ (List.mem_append_right _ (List.mem_append_right _ (List.mem_append_left _ h))))
theorem mem_t6 {w : Cond} (h : w ∈ tables_1_6) : w ∈ tables_1 := List.mem_append_right _ (List.mem_append_right _ (List.mem_append_right _ (List.mem_append_right _ (List.mem_append_right _ (List.mem_append_left _ h)))))
theorem mem_t7 {w : Cond} (h : w ∈ tables_1_7) : w ∈ tables_1 := List.mem_append_right _ (List.mem_append_right _ (List.mem_append_right _ (List.mem_append_right _ (List.mem_append_right _ (List.mem_append_right _ (List.mem_append_left _ h))))))
theorem mem_t8 {w : Cond} (h : w ∈ tables_1_8) : w ∈ tables_1 := List.mem_append_right _ (List.mem_append_right _ (List.mem_append_right _ (List.mem_append_right _ (List.mem_append_right _ (List.mem_append_right _ (List.mem_append_right _ (h)))))))
set_option maxRecDepth 100000 in
theorem ct_0 : tables_1_2[64]? = some (.code yX0_init cX0_init 2 none) := rfl
theorem cw_0 : Cond.code (mY 0) (mB 0) (mLoc 0) (mRet 0) ∈ tables_1 := mem_t2 (List.mem_of_getElem? ct_0)
set_option maxRecDepth 100000 in
theorem ct_1 : tables_1_4[76]? = some (.code yX0_push cX0_push 2 none) := rfl
theorem cw_1 : Cond.code (mY 1) (mB 1) (mLoc 1) (mRet 1) ∈ tables_1 := mem_t4 (List.mem_of_getElem? ct_1)
set_option maxRecDepth 100000 in
theorem ct_2 : tables_1_4[127]? = some (.code yX0_pop cX0_pop 2 (some .boolean)) := rfl
theorem cw_2 : Cond.code (mY 2) (mB 2) (mLoc 2) (mRet 2) ∈ tables_1 := mem_t4 (List.mem_of_getElem? ct_2)
set_option maxRecDepth 100000 in
theorem ct_3 : tables_1_1[31]? = some (.code yX1_init cX1_init 1 none) := rfl
theorem cw_3 : Cond.code (mY 3) (mB 3) (mLoc 3) (mRet 3) ∈ tables_1 := mem_t1 (List.mem_of_getElem? ct_3)
set_option maxRecDepth 100000 in
theorem ct_4 : tables_1_2[110]? = some (.code yX1_empty cX1_empty 1 none) := rfl
theorem cw_4 : Cond.code (mY 4) (mB 4) (mLoc 4) (mRet 4) ∈ tables_1 := mem_t2 (List.mem_of_getElem? ct_4)
set_option maxRecDepth 100000 in
theorem ct_5 : tables_1_2[121]? = some (.code yX1_addUntoldLaw cX1_addUntoldLaw 3 none) := rfl
theorem cw_5 : Cond.code (mY 5) (mB 5) (mLoc 5) (mRet 5) ∈ tables_1 := mem_t2 (List.mem_of_getElem? ct_5)
set_option maxRecDepth 100000 in
theorem ct_6 : tables_1_2[125]? = some (.code yX1_addCode cX1_addCode 2 none) := rfl
theorem cw_6 : Cond.code (mY 6) (mB 6) (mLoc 6) (mRet 6) ∈ tables_1 := mem_t2 (List.mem_of_getElem? ct_6)
set_option maxRecDepth 100000 in
theorem ct_7 : tables_1_4[26]? = some (.code yX1_elseBehind cX1_elseBehind 3 (some .int)) := rfl
theorem cw_7 : Cond.code (mY 7) (mB 7) (mLoc 7) (mRet 7) ∈ tables_1 := mem_t4 (List.mem_of_getElem? ct_7)
set_option maxRecDepth 100000 in
theorem ct_8 : tables_1_3[186]? = some (.code yX1_notchesOf cX1_notchesOf 4 (some .int)) := rfl
theorem cw_8 : Cond.code (mY 8) (mB 8) (mLoc 8) (mRet 8) ∈ tables_1 := mem_t3 (List.mem_of_getElem? ct_8)
set_option maxRecDepth 100000 in
theorem ct_9 : tables_1_1[162]? = some (.code yX2_init cX2_init 2 none) := rfl
theorem cw_9 : Cond.code (mY 9) (mB 9) (mLoc 9) (mRet 9) ∈ tables_1 := mem_t1 (List.mem_of_getElem? ct_9)
set_option maxRecDepth 100000 in
theorem ct_10 : tables_1_3[14]? = some (.code yX2_readText cX2_readText 6 (some .int)) := rfl
theorem cw_10 : Cond.code (mY 10) (mB 10) (mLoc 10) (mRet 10) ∈ tables_1 := mem_t3 (List.mem_of_getElem? ct_10)
set_option maxRecDepth 100000 in
theorem ct_11 : tables_1_3[102]? = some (.code yX2_kind cX2_kind 1 (some .int)) := rfl
theorem cw_11 : Cond.code (mY 11) (mB 11) (mLoc 11) (mRet 11) ∈ tables_1 := mem_t3 (List.mem_of_getElem? ct_11)
set_option maxRecDepth 100000 in
theorem ct_12 : tables_1_3[118]? = some (.code yX2_fail cX2_fail 2 (some .boolean)) := rfl
theorem cw_12 : Cond.code (mY 12) (mB 12) (mLoc 12) (mRet 12) ∈ tables_1 := mem_t3 (List.mem_of_getElem? ct_12)
set_option maxRecDepth 100000 in
theorem ct_13 : tables_1_3[170]? = some (.code yX2_failLater cX2_failLater 2 none) := rfl
theorem cw_13 : Cond.code (mY 13) (mB 13) (mLoc 13) (mRet 13) ∈ tables_1 := mem_t3 (List.mem_of_getElem? ct_13)
set_option maxRecDepth 100000 in
theorem ct_14 : tables_1_3[114]? = some (.code yX2_pass cX2_pass 1 (some .boolean)) := rfl
theorem cw_14 : Cond.code (mY 14) (mB 14) (mLoc 14) (mRet 14) ∈ tables_1 := mem_t3 (List.mem_of_getElem? ct_14)
set_option maxRecDepth 100000 in
theorem ct_15 : tables_1_3[122]? = some (.code yX2_take cX2_take 2 (some .boolean)) := rfl
theorem cw_15 : Cond.code (mY 15) (mB 15) (mLoc 15) (mRet 15) ∈ tables_1 := mem_t3 (List.mem_of_getElem? ct_15)
set_option maxRecDepth 100000 in
theorem ct_16 : tables_1_3[158]? = some (.code yX2_taken cX2_taken 1 (some .long)) := rfl
theorem cw_16 : Cond.code (mY 16) (mB 16) (mLoc 16) (mRet 16) ∈ tables_1 := mem_t3 (List.mem_of_getElem? ct_16)
set_option maxRecDepth 100000 in
theorem ct_17 : tables_1_3[178]? = some (.code yX2_takeNumber cX2_takeNumber 3 (some .boolean)) := rfl
theorem cw_17 : Cond.code (mY 17) (mB 17) (mLoc 17) (mRet 17) ∈ tables_1 := mem_t3 (List.mem_of_getElem? ct_17)
set_option maxRecDepth 100000 in
theorem ct_18 : tables_1_3[106]? = some (.code yX2_readTell cX2_readTell 2 (some .boolean)) := rfl
theorem cw_18 : Cond.code (mY 18) (mB 18) (mLoc 18) (mRet 18) ∈ tables_1 := mem_t3 (List.mem_of_getElem? ct_18)
set_option maxRecDepth 100000 in
theorem ct_19 : tables_1_3[150]? = some (.code yX2_readLog cX2_readLog 1 (some .boolean)) := rfl
theorem cw_19 : Cond.code (mY 19) (mB 19) (mLoc 19) (mRet 19) ∈ tables_1 := mem_t3 (List.mem_of_getElem? ct_19)
set_option maxRecDepth 100000 in
theorem ct_20 : tables_1_3[174]? = some (.code yX2_readField cX2_readField 1 (some .boolean)) := rfl
theorem cw_20 : Cond.code (mY 20) (mB 20) (mLoc 20) (mRet 20) ∈ tables_1 := mem_t3 (List.mem_of_getElem? ct_20)
set_option maxRecDepth 100000 in
theorem ct_21 : tables_1_3[154]? = some (.code yX2_takeNewName cX2_takeNewName 1 (some .boolean)) := rfl
theorem cw_21 : Cond.code (mY 21) (mB 21) (mLoc 21) (mRet 21) ∈ tables_1 := mem_t3 (List.mem_of_getElem? ct_21)
set_option maxRecDepth 100000 in
theorem ct_22 : tables_1_3[162]? = some (.code yX2_logNamed cX2_logNamed 4 (some .int)) := rfl
theorem cw_22 : Cond.code (mY 22) (mB 22) (mLoc 22) (mRet 22) ∈ tables_1 := mem_t3 (List.mem_of_getElem? ct_22)
set_option maxRecDepth 100000 in
theorem ct_23 : tables_1_3[166]? = some (.code yX2_fieldNamed cX2_fieldNamed 4 (some .int)) := rfl
theorem cw_23 : Cond.code (mY 23) (mB 23) (mLoc 23) (mRet 23) ∈ tables_1 := mem_t3 (List.mem_of_getElem? ct_23)
set_option maxRecDepth 100000 in
theorem ct_24 : tables_1_3[182]? = some (.code yX2_readNotch cX2_readNotch 2 (some .boolean)) := rfl
theorem cw_24 : Cond.code (mY 24) (mB 24) (mLoc 24) (mRet 24) ∈ tables_1 := mem_t3 (List.mem_of_getElem? ct_24)
set_option maxRecDepth 100000 in
theorem ct_25 : tables_1_3[196]? = some (.code yX2_readTo cX2_readTo 3 (some .boolean)) := rfl
theorem cw_25 : Cond.code (mY 25) (mB 25) (mLoc 25) (mRet 25) ∈ tables_1 := mem_t3 (List.mem_of_getElem? ct_25)
set_option maxRecDepth 100000 in
theorem ct_26 : tables_1_3[200]? = some (.code yX2_readDrain cX2_readDrain 3 (some .boolean)) := rfl
theorem cw_26 : Cond.code (mY 26) (mB 26) (mLoc 26) (mRet 26) ∈ tables_1 := mem_t3 (List.mem_of_getElem? ct_26)
set_option maxRecDepth 100000 in
theorem ct_27 : tables_1_3[204]? = some (.code yX2_readSpring cX2_readSpring 1 (some .boolean)) := rfl
theorem cw_27 : Cond.code (mY 27) (mB 27) (mLoc 27) (mRet 27) ∈ tables_1 := mem_t3 (List.mem_of_getElem? ct_27)
set_option maxRecDepth 100000 in
theorem ct_28 : tables_1_3[208]? = some (.code yX2_readSeed cX2_readSeed 1 (some .boolean)) := rfl
theorem cw_28 : Cond.code (mY 28) (mB 28) (mLoc 28) (mRet 28) ∈ tables_1 := mem_t3 (List.mem_of_getElem? ct_28)
set_option maxRecDepth 100000 in
theorem ct_29 : tables_1_3[110]? = some (.code yX2_readLaw cX2_readLaw 3 (some .boolean)) := rfl
theorem cw_29 : Cond.code (mY 29) (mB 29) (mLoc 29) (mRet 29) ∈ tables_1 := mem_t3 (List.mem_of_getElem? ct_29)
set_option maxRecDepth 100000 in
theorem ct_30 : tables_1_3[146]? = some (.code yX2_takeAsCode cX2_takeAsCode 3 (some .boolean)) := rfl
theorem cw_30 : Cond.code (mY 30) (mB 30) (mLoc 30) (mRet 30) ∈ tables_1 := mem_t3 (List.mem_of_getElem? ct_30)
set_option maxRecDepth 100000 in
theorem ct_31 : tables_1_3[126]? = some (.code yX2_readSum cX2_readSum 5 (some .boolean)) := rfl
theorem cw_31 : Cond.code (mY 31) (mB 31) (mLoc 31) (mRet 31) ∈ tables_1 := mem_t3 (List.mem_of_getElem? ct_31)
set_option maxRecDepth 100000 in
theorem ct_32 : tables_1_3[134]? = some (.code yX2_addUnit cX2_addUnit 2 (some .boolean)) := rfl
theorem cw_32 : Cond.code (mY 32) (mB 32) (mLoc 32) (mRet 32) ∈ tables_1 := mem_t3 (List.mem_of_getElem? ct_32)
set_option maxRecDepth 100000 in
theorem ct_33 : tables_1_3[138]? = some (.code yX2_rank cX2_rank 1 (some .int)) := rfl
theorem cw_33 : Cond.code (mY 33) (mB 33) (mLoc 33) (mRet 33) ∈ tables_1 := mem_t3 (List.mem_of_getElem? ct_33)
set_option maxRecDepth 100000 in
theorem ct_34 : tables_1_3[130]? = some (.code yX2_putWaiting cX2_putWaiting 2 none) := rfl
theorem cw_34 : Cond.code (mY 34) (mB 34) (mLoc 34) (mRet 34) ∈ tables_1 := mem_t3 (List.mem_of_getElem? ct_34)
set_option maxRecDepth 100000 in
theorem ct_35 : tables_1_3[142]? = some (.code yX2_addWaiting cX2_addWaiting 2 none) := rfl
theorem cw_35 : Cond.code (mY 35) (mB 35) (mLoc 35) (mRet 35) ∈ tables_1 := mem_t3 (List.mem_of_getElem? ct_35)
set_option maxRecDepth 100000 in
theorem ct_36 : tables_1_1[37]? = some (.code yX3_init cX3_init 1 none) := rfl
theorem cw_36 : Cond.code (mY 36) (mB 36) (mLoc 36) (mRet 36) ∈ tables_1 := mem_t1 (List.mem_of_getElem? ct_36)
set_option maxRecDepth 100000 in
theorem ct_37 : tables_1_2[114]? = some (.code yX3_empty cX3_empty 1 none) := rfl
theorem cw_37 : Cond.code (mY 37) (mB 37) (mLoc 37) (mRet 37) ∈ tables_1 := mem_t2 (List.mem_of_getElem? ct_37)
set_option maxRecDepth 100000 in
theorem ct_38 : tables_1_2[133]? = some (.code yX3_become cX3_become 2 none) := rfl
theorem cw_38 : Cond.code (mY 38) (mB 38) (mLoc 38) (mRet 38) ∈ tables_1 := mem_t2 (List.mem_of_getElem? ct_38)
set_option maxRecDepth 100000 in
theorem ct_39 : tables_1_2[85]? = some (.code yX4_init cX4_init 1 none) := rfl
theorem cw_39 : Cond.code (mY 39) (mB 39) (mLoc 39) (mRet 39) ∈ tables_1 := mem_t2 (List.mem_of_getElem? ct_39)
set_option maxRecDepth 100000 in
theorem ct_40 : tables_1_5[50]? = some (.code yX4_fitsKnown cX4_fitsKnown 4 (some .boolean)) := rfl
theorem cw_40 : Cond.code (mY 40) (mB 40) (mLoc 40) (mRet 40) ∈ tables_1 := mem_t5 (List.mem_of_getElem? ct_40)
set_option maxRecDepth 100000 in
theorem ct_41 : tables_1_1[168]? = some (.code yX5_init cX5_init 1 none) := rfl
theorem cw_41 : Cond.code (mY 41) (mB 41) (mLoc 41) (mRet 41) ∈ tables_1 := mem_t1 (List.mem_of_getElem? ct_41)
set_option maxRecDepth 100000 in
theorem ct_42 : tables_1_3[18]? = some (.code yX5_scan cX5_scan 5 none) := rfl
theorem cw_42 : Cond.code (mY 42) (mB 42) (mLoc 42) (mRet 42) ∈ tables_1 := mem_t3 (List.mem_of_getElem? ct_42)
set_option maxRecDepth 100000 in
theorem ct_43 : tables_1_3[21]? = some (.code yX5_isBlank cX5_isBlank 1 (some .boolean)) := rfl
theorem cw_43 : Cond.code (mY 43) (mB 43) (mLoc 43) (mRet 43) ∈ tables_1 := mem_t3 (List.mem_of_getElem? ct_43)
set_option maxRecDepth 100000 in
theorem ct_44 : tables_1_3[27]? = some (.code yX5_isLetter cX5_isLetter 1 (some .boolean)) := rfl
theorem cw_44 : Cond.code (mY 44) (mB 44) (mLoc 44) (mRet 44) ∈ tables_1 := mem_t3 (List.mem_of_getElem? ct_44)
set_option maxRecDepth 100000 in
theorem ct_45 : tables_1_3[30]? = some (.code yX5_isDigit cX5_isDigit 1 (some .boolean)) := rfl
theorem cw_45 : Cond.code (mY 45) (mB 45) (mLoc 45) (mRet 45) ∈ tables_1 := mem_t3 (List.mem_of_getElem? ct_45)
set_option maxRecDepth 100000 in
theorem ct_46 : tables_1_3[24]? = some (.code yX5_endOfToken cX5_endOfToken 6 (some .int)) := rfl
theorem cw_46 : Cond.code (mY 46) (mB 46) (mLoc 46) (mRet 46) ∈ tables_1 := mem_t3 (List.mem_of_getElem? ct_46)
set_option maxRecDepth 100000 in
theorem ct_47 : tables_1_3[33]? = some (.code yX5_kindOf cX5_kindOf 4 (some .int)) := rfl
theorem cw_47 : Cond.code (mY 47) (mB 47) (mLoc 47) (mRet 47) ∈ tables_1 := mem_t3 (List.mem_of_getElem? ct_47)
set_option maxRecDepth 100000 in
theorem ct_48 : tables_1_3[36]? = some (.code yX5_wordOrName cX5_wordOrName 4 (some .int)) := rfl
theorem cw_48 : Cond.code (mY 48) (mB 48) (mLoc 48) (mRet 48) ∈ tables_1 := mem_t3 (List.mem_of_getElem? ct_48)
set_option maxRecDepth 100000 in
theorem ct_49 : tables_1_3[39]? = some (.code yX5_isWord cX5_isWord 6 (some .boolean)) := rfl
theorem cw_49 : Cond.code (mY 49) (mB 49) (mLoc 49) (mRet 49) ∈ tables_1 := mem_t3 (List.mem_of_getElem? ct_49)
set_option maxRecDepth 100000 in
theorem ct_50 : tables_1_3[92]? = some (.code yX5_valueOf cX5_valueOf 6 (some .long)) := rfl
theorem cw_50 : Cond.code (mY 50) (mB 50) (mLoc 50) (mRet 50) ∈ tables_1 := mem_t3 (List.mem_of_getElem? ct_50)
set_option maxRecDepth 100000 in
theorem ct_51 : tables_1_1[227]? = some (.code yX6_init cX6_init 1 none) := rfl
theorem cw_51 : Cond.code (mY 51) (mB 51) (mLoc 51) (mRet 51) ∈ tables_1 := mem_t1 (List.mem_of_getElem? ct_51)
set_option maxRecDepth 100000 in
theorem ct_52 : tables_1_2[144]? = some (.code yX6_solve cX6_solve 3 none) := rfl
theorem cw_52 : Cond.code (mY 52) (mB 52) (mLoc 52) (mRet 52) ∈ tables_1 := mem_t2 (List.mem_of_getElem? ct_52)
set_option maxRecDepth 100000 in
theorem ct_53 : tables_1_2[148]? = some (.code yX6_clear cX6_clear 2 none) := rfl
theorem cw_53 : Cond.code (mY 53) (mB 53) (mLoc 53) (mRet 53) ∈ tables_1 := mem_t2 (List.mem_of_getElem? ct_53)
set_option maxRecDepth 100000 in
theorem ct_54 : tables_1_2[156]? = some (.code yX6_partLogs cX6_partLogs 5 none) := rfl
theorem cw_54 : Cond.code (mY 54) (mB 54) (mLoc 54) (mRet 54) ∈ tables_1 := mem_t2 (List.mem_of_getElem? ct_54)
set_option maxRecDepth 100000 in
theorem ct_55 : tables_1_2[160]? = some (.code yX6_reachLogs cX6_reachLogs 6 none) := rfl
theorem cw_55 : Cond.code (mY 55) (mB 55) (mLoc 55) (mRet 55) ∈ tables_1 := mem_t2 (List.mem_of_getElem? ct_55)
set_option maxRecDepth 100000 in
theorem ct_56 : tables_1_2[163]? = some (.code yX6_nextLog cX6_nextLog 4 (some .int)) := rfl
theorem cw_56 : Cond.code (mY 56) (mB 56) (mLoc 56) (mRet 56) ∈ tables_1 := mem_t2 (List.mem_of_getElem? ct_56)
set_option maxRecDepth 100000 in
theorem ct_57 : tables_1_2[167]? = some (.code yX6_openLogs cX6_openLogs 6 none) := rfl
theorem cw_57 : Cond.code (mY 57) (mB 57) (mLoc 57) (mRet 57) ∈ tables_1 := mem_t2 (List.mem_of_getElem? ct_57)
set_option maxRecDepth 100000 in
theorem ct_58 : tables_1_2[171]? = some (.code yX6_reachesClosedLog cX6_reachesClosedLog 3 (some .boolean)) := rfl
theorem cw_58 : Cond.code (mY 58) (mB 58) (mLoc 58) (mRet 58) ∈ tables_1 := mem_t2 (List.mem_of_getElem? ct_58)
set_option maxRecDepth 100000 in
theorem ct_59 : tables_1_2[175]? = some (.code yX6_makeRows cX6_makeRows 8 none) := rfl
theorem cw_59 : Cond.code (mY 59) (mB 59) (mLoc 59) (mRet 59) ∈ tables_1 := mem_t2 (List.mem_of_getElem? ct_59)
set_option maxRecDepth 100000 in
theorem ct_60 : tables_1_2[179]? = some (.code yX6_solveRows cX6_solveRows 8 none) := rfl
theorem cw_60 : Cond.code (mY 60) (mB 60) (mLoc 60) (mRet 60) ∈ tables_1 := mem_t2 (List.mem_of_getElem? ct_60)
set_option maxRecDepth 100000 in
theorem ct_61 : tables_1_2[183]? = some (.code yX6_reduceRow cX6_reduceRow 10 none) := rfl
theorem cw_61 : Cond.code (mY 61) (mB 61) (mLoc 61) (mRet 61) ∈ tables_1 := mem_t2 (List.mem_of_getElem? ct_61)
set_option maxRecDepth 100000 in
theorem ct_62 : tables_1_2[187]? = some (.code yX6_shareOut cX6_shareOut 5 none) := rfl
theorem cw_62 : Cond.code (mY 62) (mB 62) (mLoc 62) (mRet 62) ∈ tables_1 := mem_t2 (List.mem_of_getElem? ct_62)
set_option maxRecDepth 100000 in
theorem ct_63 : tables_1_2[190]? = some (.code yX6_hundredfold cX6_hundredfold 4 (some .int)) := rfl
theorem cw_63 : Cond.code (mY 63) (mB 63) (mLoc 63) (mRet 63) ∈ tables_1 := mem_t2 (List.mem_of_getElem? ct_63)
set_option maxRecDepth 100000 in
theorem ct_64 : tables_1_1[219]? = some (.code yX7_init cX7_init 2 none) := rfl
theorem cw_64 : Cond.code (mY 64) (mB 64) (mLoc 64) (mRet 64) ∈ tables_1 := mem_t1 (List.mem_of_getElem? ct_64)
set_option maxRecDepth 100000 in
theorem ct_65 : tables_1_2[140]? = some (.code yX7_settle cX7_settle 1 none) := rfl
theorem cw_65 : Cond.code (mY 65) (mB 65) (mLoc 65) (mRet 65) ∈ tables_1 := mem_t2 (List.mem_of_getElem? ct_65)
set_option maxRecDepth 100000 in
theorem ct_66 : tables_1_3[233]? = some (.code yX7_widthsOf cX7_widthsOf 4 (some .int)) := rfl
theorem cw_66 : Cond.code (mY 66) (mB 66) (mLoc 66) (mRet 66) ∈ tables_1 := mem_t3 (List.mem_of_getElem? ct_66)
set_option maxRecDepth 100000 in
theorem ct_67 : tables_1_4[14]? = some (.code yX7_widthsTo cX7_widthsTo 4 (some .int)) := rfl
theorem cw_67 : Cond.code (mY 67) (mB 67) (mLoc 67) (mRet 67) ∈ tables_1 := mem_t4 (List.mem_of_getElem? ct_67)
set_option maxRecDepth 100000 in
theorem ct_68 : tables_1_4[218]? = some (.code yX7_drainTarget cX7_drainTarget 2 (some .int)) := rfl
theorem cw_68 : Cond.code (mY 68) (mB 68) (mLoc 68) (mRet 68) ∈ tables_1 := mem_t4 (List.mem_of_getElem? ct_68)
set_option maxRecDepth 100000 in
theorem ct_69 : tables_1_4[72]? = some (.code yX7_canStep cX7_canStep 3 (some .boolean)) := rfl
theorem cw_69 : Cond.code (mY 69) (mB 69) (mLoc 69) (mRet 69) ∈ tables_1 := mem_t4 (List.mem_of_getElem? ct_69)
set_option maxRecDepth 100000 in
theorem ct_70 : tables_1_4[82]? = some (.code yX7_doStep cX7_doStep 2 none) := rfl
theorem cw_70 : Cond.code (mY 70) (mB 70) (mLoc 70) (mRet 70) ∈ tables_1 := mem_t4 (List.mem_of_getElem? ct_70)
set_option maxRecDepth 100000 in
theorem ct_71 : tables_1_4[6]? = some (.code yX7_needsOf cX7_needsOf 2 (some .int)) := rfl
theorem cw_71 : Cond.code (mY 71) (mB 71) (mLoc 71) (mRet 71) ∈ tables_1 := mem_t4 (List.mem_of_getElem? ct_71)
set_option maxRecDepth 100000 in
theorem ct_72 : tables_1_4[40]? = some (.code yX7_worthOf cX7_worthOf 2 (some .int)) := rfl
theorem cw_72 : Cond.code (mY 72) (mB 72) (mLoc 72) (mRet 72) ∈ tables_1 := mem_t4 (List.mem_of_getElem? ct_72)
set_option maxRecDepth 100000 in
theorem ct_73 : tables_1_4[53]? = some (.code yX7_costsOf cX7_costsOf 2 (some .int)) := rfl
theorem cw_73 : Cond.code (mY 73) (mB 73) (mLoc 73) (mRet 73) ∈ tables_1 := mem_t4 (List.mem_of_getElem? ct_73)
set_option maxRecDepth 100000 in
theorem ct_74 : tables_1_4[61]? = some (.code yX7_siltsOf cX7_siltsOf 2 (some .int)) := rfl
theorem cw_74 : Cond.code (mY 74) (mB 74) (mLoc 74) (mRet 74) ∈ tables_1 := mem_t4 (List.mem_of_getElem? ct_74)
set_option maxRecDepth 100000 in
theorem ct_75 : tables_1_4[33]? = some (.code yX7_heldTo cX7_heldTo 2 (some .int)) := rfl
theorem cw_75 : Cond.code (mY 75) (mB 75) (mLoc 75) (mRet 75) ∈ tables_1 := mem_t4 (List.mem_of_getElem? ct_75)
set_option maxRecDepth 100000 in
theorem ct_76 : tables_1_4[10]? = some (.code yX7_lookAtField cX7_lookAtField 2 none) := rfl
theorem cw_76 : Cond.code (mY 76) (mB 76) (mLoc 76) (mRet 76) ∈ tables_1 := mem_t4 (List.mem_of_getElem? ct_76)
set_option maxRecDepth 100000 in
theorem ct_77 : tables_1_4[57]? = some (.code yX7_lookAtNotch cX7_lookAtNotch 2 none) := rfl
theorem cw_77 : Cond.code (mY 77) (mB 77) (mLoc 77) (mRet 77) ∈ tables_1 := mem_t4 (List.mem_of_getElem? ct_77)
set_option maxRecDepth 100000 in
theorem ct_78 : tables_1_4[18]? = some (.code yX7_lookAround cX7_lookAround 2 none) := rfl
theorem cw_78 : Cond.code (mY 78) (mB 78) (mLoc 78) (mRet 78) ∈ tables_1 := mem_t4 (List.mem_of_getElem? ct_78)
set_option maxRecDepth 100000 in
theorem ct_79 : tables_1_4[22]? = some (.code yX7_valueOf cX7_valueOf 5 (some .int)) := rfl
theorem cw_79 : Cond.code (mY 79) (mB 79) (mLoc 79) (mRet 79) ∈ tables_1 := mem_t4 (List.mem_of_getElem? ct_79)
set_option maxRecDepth 100000 in
theorem ct_80 : tables_1_4[30]? = some (.code yX7_joined cX7_joined 3 (some .int)) := rfl
theorem cw_80 : Cond.code (mY 80) (mB 80) (mLoc 80) (mRet 80) ∈ tables_1 := mem_t4 (List.mem_of_getElem? ct_80)
set_option maxRecDepth 100000 in
theorem ct_81 : tables_1_4[149]? = some (.code yX7_lacks cX7_lacks 2 (some .boolean)) := rfl
theorem cw_81 : Cond.code (mY 81) (mB 81) (mLoc 81) (mRet 81) ∈ tables_1 := mem_t4 (List.mem_of_getElem? ct_81)
set_option maxRecDepth 100000 in
theorem ct_82 : tables_1_4[145]? = some (.code yX7_lackingFields cX7_lackingFields 3 (some .int)) := rfl
theorem cw_82 : Cond.code (mY 82) (mB 82) (mLoc 82) (mRet 82) ∈ tables_1 := mem_t4 (List.mem_of_getElem? ct_82)
set_option maxRecDepth 100000 in
theorem ct_83 : tables_1_4[210]? = some (.code yX7_lacksSomewhere cX7_lacksSomewhere 2 (some .boolean)) := rfl
theorem cw_83 : Cond.code (mY 83) (mB 83) (mLoc 83) (mRet 83) ∈ tables_1 := mem_t4 (List.mem_of_getElem? ct_83)
set_option maxRecDepth 100000 in
theorem ct_84 : tables_1_5[4]? = some (.code yX7_grownOfAll cX7_grownOfAll 3 (some .int)) := rfl
theorem cw_84 : Cond.code (mY 84) (mB 84) (mLoc 84) (mRet 84) ∈ tables_1 := mem_t5 (List.mem_of_getElem? ct_84)
set_option maxRecDepth 100000 in
theorem ct_85 : tables_1_4[101]? = some (.code yX7_passDays cX7_passDays 6 none) := rfl
theorem cw_85 : Cond.code (mY 85) (mB 85) (mLoc 85) (mRet 85) ∈ tables_1 := mem_t4 (List.mem_of_getElem? ct_85)
set_option maxRecDepth 100000 in
theorem ct_86 : tables_1_4[105]? = some (.code yX7_grow cX7_grow 2 none) := rfl
theorem cw_86 : Cond.code (mY 86) (mB 86) (mLoc 86) (mRet 86) ∈ tables_1 := mem_t4 (List.mem_of_getElem? ct_86)
set_option maxRecDepth 100000 in
theorem ct_87 : tables_1_4[110]? = some (.code yX7_silt cX7_silt 4 (some .boolean)) := rfl
theorem cw_87 : Cond.code (mY 87) (mB 87) (mLoc 87) (mRet 87) ∈ tables_1 := mem_t4 (List.mem_of_getElem? ct_87)
set_option maxRecDepth 100000 in
theorem ct_88 : tables_1_4[113]? = some (.code yX7_lot cX7_lot 4 (some .int)) := rfl
theorem cw_88 : Cond.code (mY 88) (mB 88) (mLoc 88) (mRet 88) ∈ tables_1 := mem_t4 (List.mem_of_getElem? ct_88)
set_option maxRecDepth 100000 in
theorem ct_89 : tables_1_4[116]? = some (.code yX7_mixed cX7_mixed 3 (some .int)) := rfl
theorem cw_89 : Cond.code (mY 89) (mB 89) (mLoc 89) (mRet 89) ∈ tables_1 := mem_t4 (List.mem_of_getElem? ct_89)
set_option maxRecDepth 100000 in
theorem ct_90 : tables_1_1[23]? = some (.code yX8_init cX8_init 2 none) := rfl
theorem cw_90 : Cond.code (mY 90) (mB 90) (mLoc 90) (mRet 90) ∈ tables_1 := mem_t1 (List.mem_of_getElem? ct_90)
set_option maxRecDepth 100000 in
theorem ct_91 : tables_1_2[238]? = some (.code yX8_feed cX8_feed 6 (some .int)) := rfl
theorem cw_91 : Cond.code (mY 91) (mB 91) (mLoc 91) (mRet 91) ∈ tables_1 := mem_t2 (List.mem_of_getElem? ct_91)
set_option maxRecDepth 100000 in
theorem ct_92 : tables_1_3[2]? = some (.code yX8_putOnTape cX8_putOnTape 3 none) := rfl
theorem cw_92 : Cond.code (mY 92) (mB 92) (mLoc 92) (mRet 92) ∈ tables_1 := mem_t3 (List.mem_of_getElem? ct_92)
set_option maxRecDepth 100000 in
theorem ct_93 : tables_1_3[6]? = some (.code yX8_back cX8_back 2 (some .int)) := rfl
theorem cw_93 : Cond.code (mY 93) (mB 93) (mLoc 93) (mRet 93) ∈ tables_1 := mem_t3 (List.mem_of_getElem? ct_93)
set_option maxRecDepth 100000 in
theorem ct_94 : tables_1_3[10]? = some (.code yX8_read cX8_read 3 (some .int)) := rfl
theorem cw_94 : Cond.code (mY 94) (mB 94) (mLoc 94) (mRet 94) ∈ tables_1 := mem_t3 (List.mem_of_getElem? ct_94)
set_option maxRecDepth 100000 in
theorem ct_95 : tables_1_2[129]? = some (.code yX8_beginPlan cX8_beginPlan 2 none) := rfl
theorem cw_95 : Cond.code (mY 95) (mB 95) (mLoc 95) (mRet 95) ∈ tables_1 := mem_t2 (List.mem_of_getElem? ct_95)
set_option maxRecDepth 100000 in
theorem ct_96 : tables_1_3[212]? = some (.code yX8_place cX8_place 1 (some .int)) := rfl
theorem cw_96 : Cond.code (mY 96) (mB 96) (mLoc 96) (mRet 96) ∈ tables_1 := mem_t3 (List.mem_of_getElem? ct_96)
set_option maxRecDepth 100000 in
theorem ct_97 : tables_1_3[216]? = some (.code yX8_log cX8_log 3 (some .int)) := rfl
theorem cw_97 : Cond.code (mY 97) (mB 97) (mLoc 97) (mRet 97) ∈ tables_1 := mem_t3 (List.mem_of_getElem? ct_97)
set_option maxRecDepth 100000 in
theorem ct_98 : tables_1_3[238]? = some (.code yX8_field cX8_field 3 (some .int)) := rfl
theorem cw_98 : Cond.code (mY 98) (mB 98) (mLoc 98) (mRet 98) ∈ tables_1 := mem_t3 (List.mem_of_getElem? ct_98)
set_option maxRecDepth 100000 in
theorem ct_99 : tables_1_4[45]? = some (.code yX8_notch cX8_notch 3 (some .int)) := rfl
theorem cw_99 : Cond.code (mY 99) (mB 99) (mLoc 99) (mRet 99) ∈ tables_1 := mem_t4 (List.mem_of_getElem? ct_99)
set_option maxRecDepth 100000 in
theorem ct_100 : tables_1_3[220]? = some (.code yX8_isLog cX8_isLog 2 (some .boolean)) := rfl
theorem cw_100 : Cond.code (mY 100) (mB 100) (mLoc 100) (mRet 100) ∈ tables_1 := mem_t3 (List.mem_of_getElem? ct_100)
set_option maxRecDepth 100000 in
theorem ct_101 : tables_1_4[2]? = some (.code yX8_isField cX8_isField 2 (some .boolean)) := rfl
theorem cw_101 : Cond.code (mY 101) (mB 101) (mLoc 101) (mRet 101) ∈ tables_1 := mem_t4 (List.mem_of_getElem? ct_101)
set_option maxRecDepth 100000 in
theorem ct_102 : tables_1_4[49]? = some (.code yX8_isNotch cX8_isNotch 2 (some .boolean)) := rfl
theorem cw_102 : Cond.code (mY 102) (mB 102) (mLoc 102) (mRet 102) ∈ tables_1 := mem_t4 (List.mem_of_getElem? ct_102)
set_option maxRecDepth 100000 in
theorem ct_103 : tables_1_4[89]? = some (.code yX8_isFrom cX8_isFrom 3 (some .boolean)) := rfl
theorem cw_103 : Cond.code (mY 103) (mB 103) (mLoc 103) (mRet 103) ∈ tables_1 := mem_t4 (List.mem_of_getElem? ct_103)
set_option maxRecDepth 100000 in
theorem ct_104 : tables_1_4[65]? = some (.code yX8_step cX8_step 4 (some .int)) := rfl
theorem cw_104 : Cond.code (mY 104) (mB 104) (mLoc 104) (mRet 104) ∈ tables_1 := mem_t4 (List.mem_of_getElem? ct_104)
set_option maxRecDepth 100000 in
theorem ct_105 : tables_1_4[68]? = some (.code yX8_stepNumber cX8_stepNumber 2 (some .int)) := rfl
theorem cw_105 : Cond.code (mY 105) (mB 105) (mLoc 105) (mRet 105) ∈ tables_1 := mem_t4 (List.mem_of_getElem? ct_105)
set_option maxRecDepth 100000 in
theorem ct_106 : tables_1_4[86]? = some (.code yX8_drain cX8_drain 4 (some .boolean)) := rfl
theorem cw_106 : Cond.code (mY 106) (mB 106) (mLoc 106) (mRet 106) ∈ tables_1 := mem_t4 (List.mem_of_getElem? ct_106)
set_option maxRecDepth 100000 in
theorem ct_107 : tables_1_4[93]? = some (.code yX8_spring cX8_spring 2 (some .boolean)) := rfl
theorem cw_107 : Cond.code (mY 107) (mB 107) (mLoc 107) (mRet 107) ∈ tables_1 := mem_t4 (List.mem_of_getElem? ct_107)
set_option maxRecDepth 100000 in
theorem ct_108 : tables_1_4[97]? = some (.code yX8_days cX8_days 2 (some .int)) := rfl
theorem cw_108 : Cond.code (mY 108) (mB 108) (mLoc 108) (mRet 108) ∈ tables_1 := mem_t4 (List.mem_of_getElem? ct_108)
set_option maxRecDepth 100000 in
theorem ct_109 : tables_1_4[123]? = some (.code yX8_undo cX8_undo 1 (some .boolean)) := rfl
theorem cw_109 : Cond.code (mY 109) (mB 109) (mLoc 109) (mRet 109) ∈ tables_1 := mem_t4 (List.mem_of_getElem? ct_109)
set_option maxRecDepth 100000 in
theorem ct_110 : tables_1_4[131]? = some (.code yX8_river cX8_river 3 (some .int)) := rfl
theorem cw_110 : Cond.code (mY 110) (mB 110) (mLoc 110) (mRet 110) ∈ tables_1 := mem_t4 (List.mem_of_getElem? ct_110)
set_option maxRecDepth 100000 in
theorem ct_111 : tables_1_4[136]? = some (.code yX8_round cX8_round 1 (some .int)) := rfl
theorem cw_111 : Cond.code (mY 111) (mB 111) (mLoc 111) (mRet 111) ∈ tables_1 := mem_t4 (List.mem_of_getElem? ct_111)
set_option maxRecDepth 100000 in
theorem ct_112 : tables_1_4[141]? = some (.code yX8_lacking cX8_lacking 1 (some .int)) := rfl
theorem cw_112 : Cond.code (mY 112) (mB 112) (mLoc 112) (mRet 112) ∈ tables_1 := mem_t4 (List.mem_of_getElem? ct_112)
set_option maxRecDepth 100000 in
theorem ct_113 : tables_1_4[154]? = some (.code yX8_dry cX8_dry 3 (some .int)) := rfl
theorem cw_113 : Cond.code (mY 113) (mB 113) (mLoc 113) (mRet 113) ∈ tables_1 := mem_t4 (List.mem_of_getElem? ct_113)
set_option maxRecDepth 100000 in
theorem ct_114 : tables_1_4[158]? = some (.code yX8_feels cX8_feels 4 (some .int)) := rfl
theorem cw_114 : Cond.code (mY 114) (mB 114) (mLoc 114) (mRet 114) ∈ tables_1 := mem_t4 (List.mem_of_getElem? ct_114)
set_option maxRecDepth 100000 in
theorem ct_115 : tables_1_4[162]? = some (.code yX8_wouldStep cX8_wouldStep 2 (some .boolean)) := rfl
theorem cw_115 : Cond.code (mY 115) (mB 115) (mLoc 115) (mRet 115) ∈ tables_1 := mem_t4 (List.mem_of_getElem? ct_115)
set_option maxRecDepth 100000 in
theorem ct_116 : tables_1_4[166]? = some (.code yX8_feelsWhatWould cX8_feelsWhatWould 6 (some .int)) := rfl
theorem cw_116 : Cond.code (mY 116) (mB 116) (mLoc 116) (mRet 116) ∈ tables_1 := mem_t4 (List.mem_of_getElem? ct_116)
set_option maxRecDepth 100000 in
theorem ct_117 : tables_1_4[174]? = some (.code yX8_feelAllSteps cX8_feelAllSteps 4 none) := rfl
theorem cw_117 : Cond.code (mY 117) (mB 117) (mLoc 117) (mRet 117) ∈ tables_1 := mem_t4 (List.mem_of_getElem? ct_117)
set_option maxRecDepth 100000 in
theorem ct_118 : tables_1_4[170]? = some (.code yX8_unfelt cX8_unfelt 3 (some .int)) := rfl
theorem cw_118 : Cond.code (mY 118) (mB 118) (mLoc 118) (mRet 118) ∈ tables_1 := mem_t4 (List.mem_of_getElem? ct_118)
set_option maxRecDepth 100000 in
theorem ct_119 : tables_1_4[178]? = some (.code yX8_isUnfelt cX8_isUnfelt 3 (some .boolean)) := rfl
theorem cw_119 : Cond.code (mY 119) (mB 119) (mLoc 119) (mRet 119) ∈ tables_1 := mem_t4 (List.mem_of_getElem? ct_119)
set_option maxRecDepth 100000 in
theorem ct_120 : tables_1_4[182]? = some (.code yX8_best cX8_best 14 (some .int)) := rfl
theorem cw_120 : Cond.code (mY 120) (mB 120) (mLoc 120) (mRet 120) ∈ tables_1 := mem_t4 (List.mem_of_getElem? ct_120)
set_option maxRecDepth 100000 in
theorem ct_121 : tables_1_4[186]? = some (.code yX8_tempted cX8_tempted 4 (some .int)) := rfl
theorem cw_121 : Cond.code (mY 121) (mB 121) (mLoc 121) (mRet 121) ∈ tables_1 := mem_t4 (List.mem_of_getElem? ct_121)
set_option maxRecDepth 100000 in
theorem ct_122 : tables_1_4[190]? = some (.code yX8_wouldHaveMoreAt cX8_wouldHaveMoreAt 4 (some .boolean)) := rfl
theorem cw_122 : Cond.code (mY 122) (mB 122) (mLoc 122) (mRet 122) ∈ tables_1 := mem_t4 (List.mem_of_getElem? ct_122)
set_option maxRecDepth 100000 in
theorem ct_123 : tables_1_4[194]? = some (.code yX8_mend cX8_mend 3 (some .int)) := rfl
theorem cw_123 : Cond.code (mY 123) (mB 123) (mLoc 123) (mRet 123) ∈ tables_1 := mem_t4 (List.mem_of_getElem? ct_123)
set_option maxRecDepth 100000 in
theorem ct_124 : tables_1_4[198]? = some (.code yX8_findMend cX8_findMend 5 (some .boolean)) := rfl
theorem cw_124 : Cond.code (mY 124) (mB 124) (mLoc 124) (mRet 124) ∈ tables_1 := mem_t4 (List.mem_of_getElem? ct_124)
set_option maxRecDepth 100000 in
theorem ct_125 : tables_1_4[202]? = some (.code yX8_splitMend cX8_splitMend 6 (some .boolean)) := rfl
theorem cw_125 : Cond.code (mY 125) (mB 125) (mLoc 125) (mRet 125) ∈ tables_1 := mem_t4 (List.mem_of_getElem? ct_125)
set_option maxRecDepth 100000 in
theorem ct_126 : tables_1_4[206]? = some (.code yX8_wouldMend cX8_wouldMend 3 (some .boolean)) := rfl
theorem cw_126 : Cond.code (mY 126) (mB 126) (mLoc 126) (mRet 126) ∈ tables_1 := mem_t4 (List.mem_of_getElem? ct_126)
set_option maxRecDepth 100000 in
theorem ct_127 : tables_1_4[214]? = some (.code yX8_feeds cX8_feeds 7 (some .int)) := rfl
theorem cw_127 : Cond.code (mY 127) (mB 127) (mLoc 127) (mRet 127) ∈ tables_1 := mem_t4 (List.mem_of_getElem? ct_127)
set_option maxRecDepth 100000 in
theorem ct_128 : tables_1_4[222]? = some (.code yX8_hangs cX8_hangs 4 (some .int)) := rfl
theorem cw_128 : Cond.code (mY 128) (mB 128) (mLoc 128) (mRet 128) ∈ tables_1 := mem_t4 (List.mem_of_getElem? ct_128)
set_option maxRecDepth 100000 in
theorem ct_129 : tables_1_4[226]? = some (.code yX8_spread cX8_spread 4 (some .int)) := rfl
theorem cw_129 : Cond.code (mY 129) (mB 129) (mLoc 129) (mRet 129) ∈ tables_1 := mem_t4 (List.mem_of_getElem? ct_129)
set_option maxRecDepth 100000 in
theorem ct_130 : tables_1_4[232]? = some (.code yX8_richest cX8_richest 3 (some .int)) := rfl
theorem cw_130 : Cond.code (mY 130) (mB 130) (mLoc 130) (mRet 130) ∈ tables_1 := mem_t4 (List.mem_of_getElem? ct_130)
set_option maxRecDepth 100000 in
theorem ct_131 : tables_1_4[236]? = some (.code yX8_crop cX8_crop 2 (some .int)) := rfl
theorem cw_131 : Cond.code (mY 131) (mB 131) (mLoc 131) (mRet 131) ∈ tables_1 := mem_t4 (List.mem_of_getElem? ct_131)
set_option maxRecDepth 100000 in
theorem ct_132 : tables_1_5[0]? = some (.code yX8_wouldPassDays cX8_wouldPassDays 4 none) := rfl
theorem cw_132 : Cond.code (mY 132) (mB 132) (mLoc 132) (mRet 132) ∈ tables_1 := mem_t5 (List.mem_of_getElem? ct_132)
set_option maxRecDepth 100000 in
theorem ct_133 : tables_1_5[8]? = some (.code yX8_again cX8_again 3 (some .int)) := rfl
theorem cw_133 : Cond.code (mY 133) (mB 133) (mLoc 133) (mRet 133) ∈ tables_1 := mem_t5 (List.mem_of_getElem? ct_133)
set_option maxRecDepth 100000 in
theorem ct_134 : tables_1_5[12]? = some (.code yX8_swap cX8_swap 6 (some .int)) := rfl
theorem cw_134 : Cond.code (mY 134) (mB 134) (mLoc 134) (mRet 134) ∈ tables_1 := mem_t5 (List.mem_of_getElem? ct_134)
set_option maxRecDepth 100000 in
theorem ct_135 : tables_1_5[17]? = some (.code yX8_wouldSwap cX8_wouldSwap 3 none) := rfl
theorem cw_135 : Cond.code (mY 135) (mB 135) (mLoc 135) (mRet 135) ∈ tables_1 := mem_t5 (List.mem_of_getElem? ct_135)
set_option maxRecDepth 100000 in
theorem ct_136 : tables_1_5[21]? = some (.code yX8_grownIn cX8_grownIn 3 (some .int)) := rfl
theorem cw_136 : Cond.code (mY 136) (mB 136) (mLoc 136) (mRet 136) ∈ tables_1 := mem_t5 (List.mem_of_getElem? ct_136)
set_option maxRecDepth 100000 in
theorem ct_137 : tables_1_5[25]? = some (.code yX8_wideIn cX8_wideIn 3 (some .int)) := rfl
theorem cw_137 : Cond.code (mY 137) (mB 137) (mLoc 137) (mRet 137) ∈ tables_1 := mem_t5 (List.mem_of_getElem? ct_137)
set_option maxRecDepth 100000 in
theorem ct_138 : tables_1_5[29]? = some (.code yX8_year cX8_year 6 (some .int)) := rfl
theorem cw_138 : Cond.code (mY 138) (mB 138) (mLoc 138) (mRet 138) ∈ tables_1 := mem_t5 (List.mem_of_getElem? ct_138)
set_option maxRecDepth 100000 in
theorem ct_139 : tables_1_5[34]? = some (.code yX8_tell cX8_tell 5 (some .int)) := rfl
theorem cw_139 : Cond.code (mY 139) (mB 139) (mLoc 139) (mRet 139) ∈ tables_1 := mem_t5 (List.mem_of_getElem? ct_139)
set_option maxRecDepth 100000 in
theorem ct_140 : tables_1_5[38]? = some (.code yX8_forget cX8_forget 2 (some .int)) := rfl
theorem cw_140 : Cond.code (mY 140) (mB 140) (mLoc 140) (mRet 140) ∈ tables_1 := mem_t5 (List.mem_of_getElem? ct_140)
set_option maxRecDepth 100000 in
theorem ct_141 : tables_1_5[42]? = some (.code yX8_fits cX8_fits 4 (some .int)) := rfl
theorem cw_141 : Cond.code (mY 141) (mB 141) (mLoc 141) (mRet 141) ∈ tables_1 := mem_t5 (List.mem_of_getElem? ct_141)
set_option maxRecDepth 100000 in
theorem ct_142 : tables_1_5[46]? = some (.code yX8_stepsThatFit cX8_stepsThatFit 4 (some .int)) := rfl
theorem cw_142 : Cond.code (mY 142) (mB 142) (mLoc 142) (mRet 142) ∈ tables_1 := mem_t5 (List.mem_of_getElem? ct_142)
set_option maxRecDepth 100000 in
theorem ct_143 : tables_1_5[54]? = some (.code yX8_ask cX8_ask 7 (some .int)) := rfl
theorem cw_143 : Cond.code (mY 143) (mB 143) (mLoc 143) (mRet 143) ∈ tables_1 := mem_t5 (List.mem_of_getElem? ct_143)
set_option maxRecDepth 100000 in
theorem ct_144 : tables_1_5[58]? = some (.code yX8_leftAtWorst cX8_leftAtWorst 7 (some .int)) := rfl
theorem cw_144 : Cond.code (mY 144) (mB 144) (mLoc 144) (mRet 144) ∈ tables_1 := mem_t5 (List.mem_of_getElem? ct_144)
set_option maxRecDepth 100000 in
theorem ct_145 : tables_1_5[62]? = some (.code yX8_hold cX8_hold 2 (some .boolean)) := rfl
theorem cw_145 : Cond.code (mY 145) (mB 145) (mLoc 145) (mRet 145) ∈ tables_1 := mem_t5 (List.mem_of_getElem? ct_145)
set_option maxRecDepth 100000 in
theorem ct_146 : tables_1_5[66]? = some (.code yX8_restore cX8_restore 2 (some .boolean)) := rfl
theorem cw_146 : Cond.code (mY 146) (mB 146) (mLoc 146) (mRet 146) ∈ tables_1 := mem_t5 (List.mem_of_getElem? ct_146)
set_option maxRecDepth 100000 in
theorem ct_147 : tables_1_5[70]? = some (.code yX8_count cX8_count 2 (some .int)) := rfl
theorem cw_147 : Cond.code (mY 147) (mB 147) (mLoc 147) (mRet 147) ∈ tables_1 := mem_t5 (List.mem_of_getElem? ct_147)
set_option maxRecDepth 100000 in
theorem ct_148 : tables_1_5[74]? = some (.code yX8_flowOfAll cX8_flowOfAll 3 (some .int)) := rfl
theorem cw_148 : Cond.code (mY 148) (mB 148) (mLoc 148) (mRet 148) ∈ tables_1 := mem_t5 (List.mem_of_getElem? ct_148)
set_option maxRecDepth 100000 in
theorem ct_149 : tables_1_5[78]? = some (.code yX8_slotsThatHold cX8_slotsThatHold 3 (some .int)) := rfl
theorem cw_149 : Cond.code (mY 149) (mB 149) (mLoc 149) (mRet 149) ∈ tables_1 := mem_t5 (List.mem_of_getElem? ct_149)
set_option maxRecDepth 100000 in
theorem ct_150 : tables_1_5[82]? = some (.code yX8_stepsThatCanBe cX8_stepsThatCanBe 3 (some .int)) := rfl
theorem cw_150 : Cond.code (mY 150) (mB 150) (mLoc 150) (mRet 150) ∈ tables_1 := mem_t5 (List.mem_of_getElem? ct_150)
set_option maxRecDepth 100000 in
theorem ct_151 : tables_1_3[226]? = some (.code yX8_greatestDivisor cX8_greatestDivisor 11 (some .long)) := rfl
theorem cw_151 : Cond.code (mY 151) (mB 151) (mLoc 151) (mRet 151) ∈ tables_1 := mem_t3 (List.mem_of_getElem? ct_151)
set_option maxRecDepth 100000 in
theorem ct_152 : tables_1_3[223]? = some (.code yX8_overInLeast cX8_overInLeast 6 (some .int)) := rfl
theorem cw_152 : Cond.code (mY 152) (mB 152) (mLoc 152) (mRet 152) ∈ tables_1 := mem_t3 (List.mem_of_getElem? ct_152)
set_option maxRecDepth 100000 in
theorem ct_153 : tables_1_3[229]? = some (.code yX8_underInLeast cX8_underInLeast 6 (some .int)) := rfl
theorem cw_153 : Cond.code (mY 153) (mB 153) (mLoc 153) (mRet 153) ∈ tables_1 := mem_t3 (List.mem_of_getElem? ct_153)
set_option maxRecDepth 100000 in
theorem ct_154 : tables_1_5[87]? = some (.code yX9_init cX9_init 1 none) := rfl
theorem cw_154 : Cond.code (mY 154) (mB 154) (mLoc 154) (mRet 154) ∈ tables_1 := mem_t5 (List.mem_of_getElem? ct_154)
set_option maxRecDepth 100000 in
theorem ct_155 : tables_1_6[137]? = some (.code yX9_feed cX9_feed 6 (some .int)) := rfl
theorem cw_155 : Cond.code (mY 155) (mB 155) (mLoc 155) (mRet 155) ∈ tables_1 := mem_t6 (List.mem_of_getElem? ct_155)
set_option maxRecDepth 100000 in
theorem ct_156 : tables_1_6[141]? = some (.code yX9_lays cX9_lays 3 none) := rfl
theorem cw_156 : Cond.code (mY 156) (mB 156) (mLoc 156) (mRet 156) ∈ tables_1 := mem_t6 (List.mem_of_getElem? ct_156)
set_option maxRecDepth 100000 in
theorem ct_157 : tables_1_6[145]? = some (.code yX9_back cX9_back 2 (some .int)) := rfl
theorem cw_157 : Cond.code (mY 157) (mB 157) (mLoc 157) (mRet 157) ∈ tables_1 := mem_t6 (List.mem_of_getElem? ct_157)
set_option maxRecDepth 100000 in
theorem ct_158 : tables_1_6[157]? = some (.code yX9_byteAt cX9_byteAt 2 (some .int)) := rfl
theorem cw_158 : Cond.code (mY 158) (mB 158) (mLoc 158) (mRet 158) ∈ tables_1 := mem_t6 (List.mem_of_getElem? ct_158)
set_option maxRecDepth 100000 in
theorem ct_159 : tables_1_6[167]? = some (.code yX9_isDigit cX9_isDigit 1 (some .boolean)) := rfl
theorem cw_159 : Cond.code (mY 159) (mB 159) (mLoc 159) (mRet 159) ∈ tables_1 := mem_t6 (List.mem_of_getElem? ct_159)
set_option maxRecDepth 100000 in
theorem ct_160 : tables_1_6[164]? = some (.code yX9_isLetter cX9_isLetter 1 (some .boolean)) := rfl
theorem cw_160 : Cond.code (mY 160) (mB 160) (mLoc 160) (mRet 160) ∈ tables_1 := mem_t6 (List.mem_of_getElem? ct_160)
set_option maxRecDepth 100000 in
theorem ct_161 : tables_1_5[98]? = some (.code yX9_appends cX9_appends 3 (some .long)) := rfl
theorem cw_161 : Cond.code (mY 161) (mB 161) (mLoc 161) (mRet 161) ∈ tables_1 := mem_t5 (List.mem_of_getElem? ct_161)
set_option maxRecDepth 100000 in
theorem ct_162 : tables_1_5[95]? = some (.code yX9_letters cX9_letters 7 (some .long)) := rfl
theorem cw_162 : Cond.code (mY 162) (mB 162) (mLoc 162) (mRet 162) ∈ tables_1 := mem_t5 (List.mem_of_getElem? ct_162)
set_option maxRecDepth 100000 in
theorem ct_163 : tables_1_6[161]? = some (.code yX9_token cX9_token 6 none) := rfl
theorem cw_163 : Cond.code (mY 163) (mB 163) (mLoc 163) (mRet 163) ∈ tables_1 := mem_t6 (List.mem_of_getElem? ct_163)
set_option maxRecDepth 100000 in
theorem ct_164 : tables_1_6[153]? = some (.code yX9_cut cX9_cut 8 none) := rfl
theorem cw_164 : Cond.code (mY 164) (mB 164) (mLoc 164) (mRet 164) ∈ tables_1 := mem_t6 (List.mem_of_getElem? ct_164)
set_option maxRecDepth 100000 in
theorem ct_165 : tables_1_6[171]? = some (.code yX9_sign cX9_sign 5 (some .int)) := rfl
theorem cw_165 : Cond.code (mY 165) (mB 165) (mLoc 165) (mRet 165) ∈ tables_1 := mem_t6 (List.mem_of_getElem? ct_165)
set_option maxRecDepth 100000 in
theorem ct_166 : tables_1_6[175]? = some (.code yX9_is cX9_is 2 (some .boolean)) := rfl
theorem cw_166 : Cond.code (mY 166) (mB 166) (mLoc 166) (mRet 166) ∈ tables_1 := mem_t6 (List.mem_of_getElem? ct_166)
set_option maxRecDepth 100000 in
theorem ct_167 : tables_1_6[187]? = some (.code yX9_fail cX9_fail 2 none) := rfl
theorem cw_167 : Cond.code (mY 167) (mB 167) (mLoc 167) (mRet 167) ∈ tables_1 := mem_t6 (List.mem_of_getElem? ct_167)
set_option maxRecDepth 100000 in
theorem ct_168 : tables_1_6[203]? = some (.code yX9_wrong cX9_wrong 4 none) := rfl
theorem cw_168 : Cond.code (mY 168) (mB 168) (mLoc 168) (mRet 168) ∈ tables_1 := mem_t6 (List.mem_of_getElem? ct_168)
set_option maxRecDepth 100000 in
theorem ct_169 : tables_1_6[191]? = some (.code yX9_goesOn cX9_goesOn 1 none) := rfl
theorem cw_169 : Cond.code (mY 169) (mB 169) (mLoc 169) (mRet 169) ∈ tables_1 := mem_t6 (List.mem_of_getElem? ct_169)
set_option maxRecDepth 100000 in
theorem ct_170 : tables_1_6[199]? = some (.code yX9_must cX9_must 2 none) := rfl
theorem cw_170 : Cond.code (mY 170) (mB 170) (mLoc 170) (mRet 170) ∈ tables_1 := mem_t6 (List.mem_of_getElem? ct_170)
set_option maxRecDepth 100000 in
theorem ct_171 : tables_1_5[92]? = some (.code yX9_plain cX9_plain 3 none) := rfl
theorem cw_171 : Cond.code (mY 171) (mB 171) (mLoc 171) (mRet 171) ∈ tables_1 := mem_t5 (List.mem_of_getElem? ct_171)
set_option maxRecDepth 100000 in
theorem ct_172 : tables_1_6[149]? = some (.code yX9_read cX9_read 2 (some .int)) := rfl
theorem cw_172 : Cond.code (mY 172) (mB 172) (mLoc 172) (mRet 172) ∈ tables_1 := mem_t6 (List.mem_of_getElem? ct_172)
set_option maxRecDepth 100000 in
theorem ct_173 : tables_1_7[23]? = some (.code yX9_place cX9_place 1 (some .int)) := rfl
theorem cw_173 : Cond.code (mY 173) (mB 173) (mLoc 173) (mRet 173) ∈ tables_1 := mem_t7 (List.mem_of_getElem? ct_173)
set_option maxRecDepth 100000 in
theorem ct_174 : tables_1_6[183]? = some (.code yX9_roomFor cX9_roomFor 3 none) := rfl
theorem cw_174 : Cond.code (mY 174) (mB 174) (mLoc 174) (mRet 174) ∈ tables_1 := mem_t6 (List.mem_of_getElem? ct_174)
set_option maxRecDepth 100000 in
theorem ct_175 : tables_1_6[179]? = some (.code yX9_tellOne cX9_tellOne 2 none) := rfl
theorem cw_175 : Cond.code (mY 175) (mB 175) (mLoc 175) (mRet 175) ∈ tables_1 := mem_t6 (List.mem_of_getElem? ct_175)
set_option maxRecDepth 100000 in
theorem ct_176 : tables_1_6[195]? = some (.code yX9_named cX9_named 3 (some .int)) := rfl
theorem cw_176 : Cond.code (mY 176) (mB 176) (mLoc 176) (mRet 176) ∈ tables_1 := mem_t6 (List.mem_of_getElem? ct_176)
set_option maxRecDepth 100000 in
theorem ct_177 : tables_1_6[207]? = some (.code yX9_endsName cX9_endsName 3 none) := rfl
theorem cw_177 : Cond.code (mY 177) (mB 177) (mLoc 177) (mRet 177) ∈ tables_1 := mem_t6 (List.mem_of_getElem? ct_177)
set_option maxRecDepth 100000 in
theorem ct_178 : tables_1_6[227]? = some (.code yX9_foundOf cX9_foundOf 4 (some .int)) := rfl
theorem cw_178 : Cond.code (mY 178) (mB 178) (mLoc 178) (mRet 178) ∈ tables_1 := mem_t6 (List.mem_of_getElem? ct_178)
set_option maxRecDepth 100000 in
theorem ct_179 : tables_1_6[223]? = some (.code yX9_known cX9_known 4 (some .int)) := rfl
theorem cw_179 : Cond.code (mY 179) (mB 179) (mLoc 179) (mRet 179) ∈ tables_1 := mem_t6 (List.mem_of_getElem? ct_179)
set_option maxRecDepth 100000 in
theorem ct_180 : tables_1_6[231]? = some (.code yX9_toTold cX9_toTold 4 (some .int)) := rfl
theorem cw_180 : Cond.code (mY 180) (mB 180) (mLoc 180) (mRet 180) ∈ tables_1 := mem_t6 (List.mem_of_getElem? ct_180)
set_option maxRecDepth 100000 in
theorem ct_181 : tables_1_6[215]? = some (.code yX9_bounded cX9_bounded 4 (some .int)) := rfl
theorem cw_181 : Cond.code (mY 181) (mB 181) (mLoc 181) (mRet 181) ∈ tables_1 := mem_t6 (List.mem_of_getElem? ct_181)
set_option maxRecDepth 100000 in
theorem ct_182 : tables_1_6[211]? = some (.code yX9_tellField cX9_tellField 3 none) := rfl
theorem cw_182 : Cond.code (mY 182) (mB 182) (mLoc 182) (mRet 182) ∈ tables_1 := mem_t6 (List.mem_of_getElem? ct_182)
set_option maxRecDepth 100000 in
theorem ct_183 : tables_1_6[219]? = some (.code yX9_tellNotch cX9_tellNotch 5 none) := rfl
theorem cw_183 : Cond.code (mY 183) (mB 183) (mLoc 183) (mRet 183) ∈ tables_1 := mem_t6 (List.mem_of_getElem? ct_183)
set_option maxRecDepth 100000 in
theorem ct_184 : tables_1_6[235]? = some (.code yX9_tellDrain cX9_tellDrain 4 none) := rfl
theorem cw_184 : Cond.code (mY 184) (mB 184) (mLoc 184) (mRet 184) ∈ tables_1 := mem_t6 (List.mem_of_getElem? ct_184)
set_option maxRecDepth 100000 in
theorem ct_185 : tables_1_6[239]? = some (.code yX9_tellLaw cX9_tellLaw 4 none) := rfl
theorem cw_185 : Cond.code (mY 185) (mB 185) (mLoc 185) (mRet 185) ∈ tables_1 := mem_t6 (List.mem_of_getElem? ct_185)
set_option maxRecDepth 100000 in
theorem ct_186 : tables_1_7[19]? = some (.code yX9_term cX9_term 1 none) := rfl
theorem cw_186 : Cond.code (mY 186) (mB 186) (mLoc 186) (mRet 186) ∈ tables_1 := mem_t7 (List.mem_of_getElem? ct_186)
set_option maxRecDepth 100000 in
theorem ct_187 : tables_1_7[11]? = some (.code yX9_emit cX9_emit 3 none) := rfl
theorem cw_187 : Cond.code (mY 187) (mB 187) (mLoc 187) (mRet 187) ∈ tables_1 := mem_t7 (List.mem_of_getElem? ct_187)
set_option maxRecDepth 100000 in
theorem ct_188 : tables_1_7[15]? = some (.code yX9_comesOut cX9_comesOut 3 none) := rfl
theorem cw_188 : Cond.code (mY 188) (mB 188) (mLoc 188) (mRet 188) ∈ tables_1 := mem_t7 (List.mem_of_getElem? ct_188)
set_option maxRecDepth 100000 in
theorem ct_189 : tables_1_7[3]? = some (.code yX9_expression cX9_expression 3 none) := rfl
theorem cw_189 : Cond.code (mY 189) (mB 189) (mLoc 189) (mRet 189) ∈ tables_1 := mem_t7 (List.mem_of_getElem? ct_189)
set_option maxRecDepth 100000 in
theorem ct_190 : tables_1_7[7]? = some (.code yX9_unit cX9_unit 1 none) := rfl
theorem cw_190 : Cond.code (mY 190) (mB 190) (mLoc 190) (mRet 190) ∈ tables_1 := mem_t7 (List.mem_of_getElem? ct_190)
set_option maxRecDepth 100000 in
theorem ct_191 : tables_1_7[90]? = some (.code yX9_termOf cX9_termOf 8 (some .int)) := rfl
theorem cw_191 : Cond.code (mY 191) (mB 191) (mLoc 191) (mRet 191) ∈ tables_1 := mem_t7 (List.mem_of_getElem? ct_191)
set_option maxRecDepth 100000 in
theorem ct_192 : tables_1_7[34]? = some (.code yX9_in cX9_in 3 (some .boolean)) := rfl
theorem cw_192 : Cond.code (mY 192) (mB 192) (mLoc 192) (mRet 192) ∈ tables_1 := mem_t7 (List.mem_of_getElem? ct_192)
set_option maxRecDepth 100000 in
theorem ct_193 : tables_1_7[93]? = some (.code yX9_within cX9_within 3 (some .int)) := rfl
theorem cw_193 : Cond.code (mY 193) (mB 193) (mLoc 193) (mRet 193) ∈ tables_1 := mem_t7 (List.mem_of_getElem? ct_193)
set_option maxRecDepth 100000 in
theorem ct_194 : tables_1_8[52]? = some (.code yX9_bits cX9_bits 3 (some .int)) := rfl
theorem cw_194 : Cond.code (mY 194) (mB 194) (mLoc 194) (mRet 194) ∈ tables_1 := mem_t8 (List.mem_of_getElem? ct_194)
set_option maxRecDepth 100000 in
theorem ct_195 : tables_1_7[31]? = some (.code yX9_isLog cX9_isLog 2 (some .boolean)) := rfl
theorem cw_195 : Cond.code (mY 195) (mB 195) (mLoc 195) (mRet 195) ∈ tables_1 := mem_t7 (List.mem_of_getElem? ct_195)
set_option maxRecDepth 100000 in
theorem ct_196 : tables_1_7[57]? = some (.code yX9_isField cX9_isField 2 (some .boolean)) := rfl
theorem cw_196 : Cond.code (mY 196) (mB 196) (mLoc 196) (mRet 196) ∈ tables_1 := mem_t7 (List.mem_of_getElem? ct_196)
set_option maxRecDepth 100000 in
theorem ct_197 : tables_1_7[105]? = some (.code yX9_isNotch cX9_isNotch 2 (some .boolean)) := rfl
theorem cw_197 : Cond.code (mY 197) (mB 197) (mLoc 197) (mRet 197) ∈ tables_1 := mem_t7 (List.mem_of_getElem? ct_197)
set_option maxRecDepth 100000 in
theorem ct_198 : tables_1_5[115]? = some (.code yX9_fromLog cX9_fromLog 2 (some .int)) := rfl
theorem cw_198 : Cond.code (mY 198) (mB 198) (mLoc 198) (mRet 198) ∈ tables_1 := mem_t5 (List.mem_of_getElem? ct_198)
set_option maxRecDepth 100000 in
theorem ct_199 : tables_1_5[119]? = some (.code yX9_toWhere cX9_toWhere 2 (some .int)) := rfl
theorem cw_199 : Cond.code (mY 199) (mB 199) (mLoc 199) (mRet 199) ∈ tables_1 := mem_t5 (List.mem_of_getElem? ct_199)
set_option maxRecDepth 100000 in
theorem ct_200 : tables_1_5[123]? = some (.code yX9_wideAt cX9_wideAt 2 (some .int)) := rfl
theorem cw_200 : Cond.code (mY 200) (mB 200) (mLoc 200) (mRet 200) ∈ tables_1 := mem_t5 (List.mem_of_getElem? ct_200)
set_option maxRecDepth 100000 in
theorem ct_201 : tables_1_5[103]? = some (.code yX9_begins cX9_begins 2 none) := rfl
theorem cw_201 : Cond.code (mY 201) (mB 201) (mLoc 201) (mRet 201) ∈ tables_1 := mem_t5 (List.mem_of_getElem? ct_201)
set_option maxRecDepth 100000 in
theorem ct_202 : tables_1_5[151]? = some (.code yX9_keepsRow cX9_keepsRow 2 none) := rfl
theorem cw_202 : Cond.code (mY 202) (mB 202) (mLoc 202) (mRet 202) ∈ tables_1 := mem_t5 (List.mem_of_getElem? ct_202)
set_option maxRecDepth 100000 in
theorem ct_203 : tables_1_7[38]? = some (.code yX9_copies cX9_copies 2 none) := rfl
theorem cw_203 : Cond.code (mY 203) (mB 203) (mLoc 203) (mRet 203) ∈ tables_1 := mem_t7 (List.mem_of_getElem? ct_203)
set_option maxRecDepth 100000 in
theorem ct_204 : tables_1_7[162]? = some (.code yX9_mixed cX9_mixed 3 (some .int)) := rfl
theorem cw_204 : Cond.code (mY 204) (mB 204) (mLoc 204) (mRet 204) ∈ tables_1 := mem_t7 (List.mem_of_getElem? ct_204)
set_option maxRecDepth 100000 in
theorem ct_205 : tables_1_7[159]? = some (.code yX9_lotOf cX9_lotOf 2 (some .int)) := rfl
theorem cw_205 : Cond.code (mY 205) (mB 205) (mLoc 205) (mRet 205) ∈ tables_1 := mem_t7 (List.mem_of_getElem? ct_205)
set_option maxRecDepth 100000 in
theorem ct_206 : tables_1_5[111]? = some (.code yX9_fillsLeads cX9_fillsLeads 5 none) := rfl
theorem cw_206 : Cond.code (mY 206) (mB 206) (mLoc 206) (mRet 206) ∈ tables_1 := mem_t5 (List.mem_of_getElem? ct_206)
set_option maxRecDepth 100000 in
theorem ct_207 : tables_1_5[127]? = some (.code yX9_comesBy cX9_comesBy 5 (some .int)) := rfl
theorem cw_207 : Cond.code (mY 207) (mB 207) (mLoc 207) (mRet 207) ∈ tables_1 := mem_t5 (List.mem_of_getElem? ct_207)
set_option maxRecDepth 100000 in
theorem ct_208 : tables_1_5[139]? = some (.code yX9_isOut cX9_isOut 3 (some .boolean)) := rfl
theorem cw_208 : Cond.code (mY 208) (mB 208) (mLoc 208) (mRet 208) ∈ tables_1 := mem_t5 (List.mem_of_getElem? ct_208)
set_option maxRecDepth 100000 in
theorem ct_209 : tables_1_5[135]? = some (.code yX9_outBits cX9_outBits 3 (some .int)) := rfl
theorem cw_209 : Cond.code (mY 209) (mB 209) (mLoc 209) (mRet 209) ∈ tables_1 := mem_t5 (List.mem_of_getElem? ct_209)
set_option maxRecDepth 100000 in
theorem ct_210 : tables_1_5[131]? = some (.code yX9_isShut cX9_isShut 3 (some .boolean)) := rfl
theorem cw_210 : Cond.code (mY 210) (mB 210) (mLoc 210) (mRet 210) ∈ tables_1 := mem_t5 (List.mem_of_getElem? ct_210)
set_option maxRecDepth 100000 in
theorem ct_211 : tables_1_5[143]? = some (.code yX9_fillsTable cX9_fillsTable 4 none) := rfl
theorem cw_211 : Cond.code (mY 211) (mB 211) (mLoc 211) (mRet 211) ∈ tables_1 := mem_t5 (List.mem_of_getElem? ct_211)
set_option maxRecDepth 100000 in
theorem ct_212 : tables_1_5[147]? = some (.code yX9_clears cX9_clears 10 none) := rfl
theorem cw_212 : Cond.code (mY 212) (mB 212) (mLoc 212) (mRet 212) ∈ tables_1 := mem_t5 (List.mem_of_getElem? ct_212)
set_option maxRecDepth 100000 in
theorem ct_213 : tables_1_5[107]? = some (.code yX9_parts cX9_parts 5 none) := rfl
theorem cw_213 : Cond.code (mY 213) (mB 213) (mLoc 213) (mRet 213) ∈ tables_1 := mem_t5 (List.mem_of_getElem? ct_213)
set_option maxRecDepth 100000 in
theorem ct_214 : tables_1_7[49]? = some (.code yX9_common cX9_common 10 (some .long)) := rfl
theorem cw_214 : Cond.code (mY 214) (mB 214) (mLoc 214) (mRet 214) ∈ tables_1 := mem_t7 (List.mem_of_getElem? ct_214)
set_option maxRecDepth 100000 in
theorem ct_215 : tables_1_7[46]? = some (.code yX9_termOfTwo cX9_termOfTwo 6 (some .int)) := rfl
theorem cw_215 : Cond.code (mY 215) (mB 215) (mLoc 215) (mRet 215) ∈ tables_1 := mem_t7 (List.mem_of_getElem? ct_215)
set_option maxRecDepth 100000 in
theorem ct_216 : tables_1_7[42]? = some (.code yX9_logOver cX9_logOver 2 (some .long)) := rfl
theorem cw_216 : Cond.code (mY 216) (mB 216) (mLoc 216) (mRet 216) ∈ tables_1 := mem_t7 (List.mem_of_getElem? ct_216)
set_option maxRecDepth 100000 in
theorem ct_217 : tables_1_7[61]? = some (.code yX9_fieldOver cX9_fieldOver 5 (some .long)) := rfl
theorem cw_217 : Cond.code (mY 217) (mB 217) (mLoc 217) (mRet 217) ∈ tables_1 := mem_t7 (List.mem_of_getElem? ct_217)
set_option maxRecDepth 100000 in
theorem ct_218 : tables_1_7[78]? = some (.code yX9_widthsTo cX9_widthsTo 4 (some .int)) := rfl
theorem cw_218 : Cond.code (mY 218) (mB 218) (mLoc 218) (mRet 218) ∈ tables_1 := mem_t7 (List.mem_of_getElem? ct_218)
set_option maxRecDepth 100000 in
theorem ct_219 : tables_1_7[65]? = some (.code yX9_flowOf cX9_flowOf 2 (some .int)) := rfl
theorem cw_219 : Cond.code (mY 219) (mB 219) (mLoc 219) (mRet 219) ∈ tables_1 := mem_t7 (List.mem_of_getElem? ct_219)
set_option maxRecDepth 100000 in
theorem ct_220 : tables_1_7[86]? = some (.code yX9_lawTells cX9_lawTells 7 (some .int)) := rfl
theorem cw_220 : Cond.code (mY 220) (mB 220) (mLoc 220) (mRet 220) ∈ tables_1 := mem_t7 (List.mem_of_getElem? ct_220)
set_option maxRecDepth 100000 in
theorem ct_221 : tables_1_7[82]? = some (.code yX9_views cX9_views 3 none) := rfl
theorem cw_221 : Cond.code (mY 221) (mB 221) (mLoc 221) (mRet 221) ∈ tables_1 := mem_t7 (List.mem_of_getElem? ct_221)
set_option maxRecDepth 100000 in
theorem ct_222 : tables_1_7[74]? = some (.code yX9_viewsField cX9_viewsField 2 none) := rfl
theorem cw_222 : Cond.code (mY 222) (mB 222) (mLoc 222) (mRet 222) ∈ tables_1 := mem_t7 (List.mem_of_getElem? ct_222)
set_option maxRecDepth 100000 in
theorem ct_223 : tables_1_7[70]? = some (.code yX9_needsOf cX9_needsOf 2 (some .int)) := rfl
theorem cw_223 : Cond.code (mY 223) (mB 223) (mLoc 223) (mRet 223) ∈ tables_1 := mem_t7 (List.mem_of_getElem? ct_223)
set_option maxRecDepth 100000 in
theorem ct_224 : tables_1_7[97]? = some (.code yX9_worthOf cX9_worthOf 2 (some .int)) := rfl
theorem cw_224 : Cond.code (mY 224) (mB 224) (mLoc 224) (mRet 224) ∈ tables_1 := mem_t7 (List.mem_of_getElem? ct_224)
set_option maxRecDepth 100000 in
theorem ct_225 : tables_1_7[109]? = some (.code yX9_costsOf cX9_costsOf 2 (some .int)) := rfl
theorem cw_225 : Cond.code (mY 225) (mB 225) (mLoc 225) (mRet 225) ∈ tables_1 := mem_t7 (List.mem_of_getElem? ct_225)
set_option maxRecDepth 100000 in
theorem ct_226 : tables_1_7[113]? = some (.code yX9_siltsOf cX9_siltsOf 2 (some .int)) := rfl
theorem cw_226 : Cond.code (mY 226) (mB 226) (mLoc 226) (mRet 226) ∈ tables_1 := mem_t7 (List.mem_of_getElem? ct_226)
set_option maxRecDepth 100000 in
theorem ct_227 : tables_1_7[196]? = some (.code yX9_isLacking cX9_isLacking 2 (some .boolean)) := rfl
theorem cw_227 : Cond.code (mY 227) (mB 227) (mLoc 227) (mRet 227) ∈ tables_1 := mem_t7 (List.mem_of_getElem? ct_227)
set_option maxRecDepth 100000 in
theorem ct_228 : tables_1_7[192]? = some (.code yX9_lackingBits cX9_lackingBits 3 (some .int)) := rfl
theorem cw_228 : Cond.code (mY 228) (mB 228) (mLoc 228) (mRet 228) ∈ tables_1 := mem_t7 (List.mem_of_getElem? ct_228)
set_option maxRecDepth 100000 in
theorem ct_229 : tables_1_7[124]? = some (.code yX9_canStep cX9_canStep 2 (some .boolean)) := rfl
theorem cw_229 : Cond.code (mY 229) (mB 229) (mLoc 229) (mRet 229) ∈ tables_1 := mem_t7 (List.mem_of_getElem? ct_229)
set_option maxRecDepth 100000 in
theorem ct_230 : tables_1_7[128]? = some (.code yX9_steps cX9_steps 2 none) := rfl
theorem cw_230 : Cond.code (mY 230) (mB 230) (mLoc 230) (mRet 230) ∈ tables_1 := mem_t7 (List.mem_of_getElem? ct_230)
set_option maxRecDepth 100000 in
theorem ct_231 : tables_1_7[237]? = some (.code yX9_canBits cX9_canBits 3 (some .int)) := rfl
theorem cw_231 : Cond.code (mY 231) (mB 231) (mLoc 231) (mRet 231) ∈ tables_1 := mem_t7 (List.mem_of_getElem? ct_231)
set_option maxRecDepth 100000 in
theorem ct_232 : tables_1_7[155]? = some (.code yX9_dayGoes cX9_dayGoes 3 none) := rfl
theorem cw_232 : Cond.code (mY 232) (mB 232) (mLoc 232) (mRet 232) ∈ tables_1 := mem_t7 (List.mem_of_getElem? ct_232)
set_option maxRecDepth 100000 in
theorem ct_233 : tables_1_7[151]? = some (.code yX9_goes cX9_goes 3 none) := rfl
theorem cw_233 : Cond.code (mY 233) (mB 233) (mLoc 233) (mRet 233) ∈ tables_1 := mem_t7 (List.mem_of_getElem? ct_233)
set_option maxRecDepth 100000 in
theorem ct_234 : tables_1_7[27]? = some (.code yX9_log cX9_log 5 (some .int)) := rfl
theorem cw_234 : Cond.code (mY 234) (mB 234) (mLoc 234) (mRet 234) ∈ tables_1 := mem_t7 (List.mem_of_getElem? ct_234)
set_option maxRecDepth 100000 in
theorem ct_235 : tables_1_7[53]? = some (.code yX9_field cX9_field 3 (some .int)) := rfl
theorem cw_235 : Cond.code (mY 235) (mB 235) (mLoc 235) (mRet 235) ∈ tables_1 := mem_t7 (List.mem_of_getElem? ct_235)
set_option maxRecDepth 100000 in
theorem ct_236 : tables_1_7[101]? = some (.code yX9_notch cX9_notch 3 (some .int)) := rfl
theorem cw_236 : Cond.code (mY 236) (mB 236) (mLoc 236) (mRet 236) ∈ tables_1 := mem_t7 (List.mem_of_getElem? ct_236)
set_option maxRecDepth 100000 in
theorem ct_237 : tables_1_7[132]? = some (.code yX9_records cX9_records 2 none) := rfl
theorem cw_237 : Cond.code (mY 237) (mB 237) (mLoc 237) (mRet 237) ∈ tables_1 := mem_t7 (List.mem_of_getElem? ct_237)
set_option maxRecDepth 100000 in
theorem ct_238 : tables_1_7[120]? = some (.code yX9_stepOf cX9_stepOf 2 (some .int)) := rfl
theorem cw_238 : Cond.code (mY 238) (mB 238) (mLoc 238) (mRet 238) ∈ tables_1 := mem_t7 (List.mem_of_getElem? ct_238)
set_option maxRecDepth 100000 in
theorem ct_239 : tables_1_7[117]? = some (.code yX9_step cX9_step 4 (some .int)) := rfl
theorem cw_239 : Cond.code (mY 239) (mB 239) (mLoc 239) (mRet 239) ∈ tables_1 := mem_t7 (List.mem_of_getElem? ct_239)
set_option maxRecDepth 100000 in
theorem ct_240 : tables_1_7[136]? = some (.code yX9_drain cX9_drain 4 (some .boolean)) := rfl
theorem cw_240 : Cond.code (mY 240) (mB 240) (mLoc 240) (mRet 240) ∈ tables_1 := mem_t7 (List.mem_of_getElem? ct_240)
set_option maxRecDepth 100000 in
theorem ct_241 : tables_1_7[140]? = some (.code yX9_spring cX9_spring 2 (some .boolean)) := rfl
theorem cw_241 : Cond.code (mY 241) (mB 241) (mLoc 241) (mRet 241) ∈ tables_1 := mem_t7 (List.mem_of_getElem? ct_241)
set_option maxRecDepth 100000 in
theorem ct_242 : tables_1_7[147]? = some (.code yX9_isLong cX9_isLong 1 (some .boolean)) := rfl
theorem cw_242 : Cond.code (mY 242) (mB 242) (mLoc 242) (mRet 242) ∈ tables_1 := mem_t7 (List.mem_of_getElem? ct_242)
set_option maxRecDepth 100000 in
theorem ct_243 : tables_1_7[144]? = some (.code yX9_days cX9_days 2 (some .int)) := rfl
theorem cw_243 : Cond.code (mY 243) (mB 243) (mLoc 243) (mRet 243) ∈ tables_1 := mem_t7 (List.mem_of_getElem? ct_243)
set_option maxRecDepth 100000 in
theorem ct_244 : tables_1_7[167]? = some (.code yX9_undo cX9_undo 2 (some .boolean)) := rfl
theorem cw_244 : Cond.code (mY 244) (mB 244) (mLoc 244) (mRet 244) ∈ tables_1 := mem_t7 (List.mem_of_getElem? ct_244)
set_option maxRecDepth 100000 in
theorem ct_245 : tables_1_7[175]? = some (.code yX9_riverOver cX9_riverOver 4 (some .long)) := rfl
theorem cw_245 : Cond.code (mY 245) (mB 245) (mLoc 245) (mRet 245) ∈ tables_1 := mem_t7 (List.mem_of_getElem? ct_245)
set_option maxRecDepth 100000 in
theorem ct_246 : tables_1_7[179]? = some (.code yX9_quartersOver cX9_quartersOver 5 (some .long)) := rfl
theorem cw_246 : Cond.code (mY 246) (mB 246) (mLoc 246) (mRet 246) ∈ tables_1 := mem_t7 (List.mem_of_getElem? ct_246)
set_option maxRecDepth 100000 in
theorem ct_247 : tables_1_7[171]? = some (.code yX9_river cX9_river 2 (some .int)) := rfl
theorem cw_247 : Cond.code (mY 247) (mB 247) (mLoc 247) (mRet 247) ∈ tables_1 := mem_t7 (List.mem_of_getElem? ct_247)
set_option maxRecDepth 100000 in
theorem ct_248 : tables_1_7[184]? = some (.code yX9_round cX9_round 1 (some .int)) := rfl
theorem cw_248 : Cond.code (mY 248) (mB 248) (mLoc 248) (mRet 248) ∈ tables_1 := mem_t7 (List.mem_of_getElem? ct_248)
set_option maxRecDepth 100000 in
theorem ct_249 : tables_1_7[188]? = some (.code yX9_lacking cX9_lacking 1 (some .int)) := rfl
theorem cw_249 : Cond.code (mY 249) (mB 249) (mLoc 249) (mRet 249) ∈ tables_1 := mem_t7 (List.mem_of_getElem? ct_249)
set_option maxRecDepth 100000 in
theorem ct_250 : tables_1_7[200]? = some (.code yX9_dry cX9_dry 3 (some .int)) := rfl
theorem cw_250 : Cond.code (mY 250) (mB 250) (mLoc 250) (mRet 250) ∈ tables_1 := mem_t7 (List.mem_of_getElem? ct_250)
set_option maxRecDepth 100000 in
theorem ct_251 : tables_1_7[204]? = some (.code yX9_spread cX9_spread 5 (some .int)) := rfl
theorem cw_251 : Cond.code (mY 251) (mB 251) (mLoc 251) (mRet 251) ∈ tables_1 := mem_t7 (List.mem_of_getElem? ct_251)
set_option maxRecDepth 100000 in
theorem ct_252 : tables_1_7[209]? = some (.code yX9_richest cX9_richest 3 (some .int)) := rfl
theorem cw_252 : Cond.code (mY 252) (mB 252) (mLoc 252) (mRet 252) ∈ tables_1 := mem_t7 (List.mem_of_getElem? ct_252)
set_option maxRecDepth 100000 in
theorem ct_253 : tables_1_7[221]? = some (.code yX9_keepsOvers cX9_keepsOvers 2 none) := rfl
theorem cw_253 : Cond.code (mY 253) (mB 253) (mLoc 253) (mRet 253) ∈ tables_1 := mem_t7 (List.mem_of_getElem? ct_253)
set_option maxRecDepth 100000 in
theorem ct_254 : tables_1_7[225]? = some (.code yX9_tries cX9_tries 2 none) := rfl
theorem cw_254 : Cond.code (mY 254) (mB 254) (mLoc 254) (mRet 254) ∈ tables_1 := mem_t7 (List.mem_of_getElem? ct_254)
set_option maxRecDepth 100000 in
theorem ct_255 : tables_1_7[217]? = some (.code yX9_triesFromNow cX9_triesFromNow 2 none) := rfl
theorem cw_255 : Cond.code (mY 255) (mB 255) (mLoc 255) (mRet 255) ∈ tables_1 := mem_t7 (List.mem_of_getElem? ct_255)
set_option maxRecDepth 100000 in
theorem ct_256 : tables_1_7[229]? = some (.code yX9_feelsOf cX9_feelsOf 6 (some .int)) := rfl
theorem cw_256 : Cond.code (mY 256) (mB 256) (mLoc 256) (mRet 256) ∈ tables_1 := mem_t7 (List.mem_of_getElem? ct_256)
set_option maxRecDepth 100000 in
theorem ct_257 : tables_1_7[213]? = some (.code yX9_feels cX9_feels 4 (some .int)) := rfl
theorem cw_257 : Cond.code (mY 257) (mB 257) (mLoc 257) (mRet 257) ∈ tables_1 := mem_t7 (List.mem_of_getElem? ct_257)
set_option maxRecDepth 100000 in
theorem ct_258 : tables_1_8[1]? = some (.code yX9_isFelt cX9_isFelt 2 (some .boolean)) := rfl
theorem cw_258 : Cond.code (mY 258) (mB 258) (mLoc 258) (mRet 258) ∈ tables_1 := mem_t8 (List.mem_of_getElem? ct_258)
set_option maxRecDepth 100000 in
theorem ct_259 : tables_1_7[233]? = some (.code yX9_unfelt cX9_unfelt 4 (some .int)) := rfl
theorem cw_259 : Cond.code (mY 259) (mB 259) (mLoc 259) (mRet 259) ∈ tables_1 := mem_t7 (List.mem_of_getElem? ct_259)
set_option maxRecDepth 100000 in
theorem ct_260 : tables_1_8[5]? = some (.code yX9_best cX9_best 11 (some .int)) := rfl
theorem cw_260 : Cond.code (mY 260) (mB 260) (mLoc 260) (mRet 260) ∈ tables_1 := mem_t8 (List.mem_of_getElem? ct_260)
set_option maxRecDepth 100000 in
theorem ct_261 : tables_1_8[13]? = some (.code yX9_isLed cX9_isLed 4 (some .boolean)) := rfl
theorem cw_261 : Cond.code (mY 261) (mB 261) (mLoc 261) (mRet 261) ∈ tables_1 := mem_t8 (List.mem_of_getElem? ct_261)
set_option maxRecDepth 100000 in
theorem ct_262 : tables_1_8[9]? = some (.code yX9_tempted cX9_tempted 5 (some .int)) := rfl
theorem cw_262 : Cond.code (mY 262) (mB 262) (mLoc 262) (mRet 262) ∈ tables_1 := mem_t8 (List.mem_of_getElem? ct_262)
set_option maxRecDepth 100000 in
theorem ct_263 : tables_1_8[25]? = some (.code yX9_areDone cX9_areDone 3 (some .boolean)) := rfl
theorem cw_263 : Cond.code (mY 263) (mB 263) (mLoc 263) (mRet 263) ∈ tables_1 := mem_t8 (List.mem_of_getElem? ct_263)
set_option maxRecDepth 100000 in
theorem ct_264 : tables_1_8[29]? = some (.code yX9_goesOnTo cX9_goesOnTo 5 (some .boolean)) := rfl
theorem cw_264 : Cond.code (mY 264) (mB 264) (mLoc 264) (mRet 264) ∈ tables_1 := mem_t8 (List.mem_of_getElem? ct_264)
set_option maxRecDepth 100000 in
theorem ct_265 : tables_1_8[21]? = some (.code yX9_mendOf cX9_mendOf 3 (some .int)) := rfl
theorem cw_265 : Cond.code (mY 265) (mB 265) (mLoc 265) (mRet 265) ∈ tables_1 := mem_t8 (List.mem_of_getElem? ct_265)
set_option maxRecDepth 100000 in
theorem ct_266 : tables_1_8[17]? = some (.code yX9_mend cX9_mend 3 (some .int)) := rfl
theorem cw_266 : Cond.code (mY 266) (mB 266) (mLoc 266) (mRet 266) ∈ tables_1 := mem_t8 (List.mem_of_getElem? ct_266)
set_option maxRecDepth 100000 in
theorem ct_267 : tables_1_8[33]? = some (.code yX9_feeds cX9_feeds 5 (some .int)) := rfl
theorem cw_267 : Cond.code (mY 267) (mB 267) (mLoc 267) (mRet 267) ∈ tables_1 := mem_t8 (List.mem_of_getElem? ct_267)
set_option maxRecDepth 100000 in
theorem ct_268 : tables_1_8[37]? = some (.code yX9_hangs cX9_hangs 4 (some .int)) := rfl
theorem cw_268 : Cond.code (mY 268) (mB 268) (mLoc 268) (mRet 268) ∈ tables_1 := mem_t8 (List.mem_of_getElem? ct_268)
set_option maxRecDepth 100000 in
theorem ct_269 : tables_1_8[41]? = some (.code yX9_crop cX9_crop 4 (some .int)) := rfl
theorem cw_269 : Cond.code (mY 269) (mB 269) (mLoc 269) (mRet 269) ∈ tables_1 := mem_t8 (List.mem_of_getElem? ct_269)
set_option maxRecDepth 100000 in
theorem ct_270 : tables_1_8[45]? = some (.code yX9_again cX9_again 3 (some .int)) := rfl
theorem cw_270 : Cond.code (mY 270) (mB 270) (mLoc 270) (mRet 270) ∈ tables_1 := mem_t8 (List.mem_of_getElem? ct_270)
set_option maxRecDepth 100000 in
theorem ct_271 : tables_1_8[49]? = some (.code yX9_swap cX9_swap 5 (some .int)) := rfl
theorem cw_271 : Cond.code (mY 271) (mB 271) (mLoc 271) (mRet 271) ∈ tables_1 := mem_t8 (List.mem_of_getElem? ct_271)
set_option maxRecDepth 100000 in
theorem ct_272 : tables_1_8[56]? = some (.code yX9_grownIn cX9_grownIn 3 (some .int)) := rfl
theorem cw_272 : Cond.code (mY 272) (mB 272) (mLoc 272) (mRet 272) ∈ tables_1 := mem_t8 (List.mem_of_getElem? ct_272)
set_option maxRecDepth 100000 in
theorem ct_273 : tables_1_8[60]? = some (.code yX9_wideIn cX9_wideIn 3 (some .int)) := rfl
theorem cw_273 : Cond.code (mY 273) (mB 273) (mLoc 273) (mRet 273) ∈ tables_1 := mem_t8 (List.mem_of_getElem? ct_273)
set_option maxRecDepth 100000 in
theorem ct_274 : tables_1_8[64]? = some (.code yX9_year cX9_year 6 (some .int)) := rfl
theorem cw_274 : Cond.code (mY 274) (mB 274) (mLoc 274) (mRet 274) ∈ tables_1 := mem_t8 (List.mem_of_getElem? ct_274)
set_option maxRecDepth 100000 in
theorem ct_275 : tables_1_8[68]? = some (.code yX9_tell cX9_tell 4 (some .int)) := rfl
theorem cw_275 : Cond.code (mY 275) (mB 275) (mLoc 275) (mRet 275) ∈ tables_1 := mem_t8 (List.mem_of_getElem? ct_275)
set_option maxRecDepth 100000 in
theorem ct_276 : tables_1_8[72]? = some (.code yX9_forget cX9_forget 2 (some .int)) := rfl
theorem cw_276 : Cond.code (mY 276) (mB 276) (mLoc 276) (mRet 276) ∈ tables_1 := mem_t8 (List.mem_of_getElem? ct_276)
set_option maxRecDepth 100000 in
theorem ct_277 : tables_1_8[80]? = some (.code yX9_fitBits cX9_fitBits 7 (some .int)) := rfl
theorem cw_277 : Cond.code (mY 277) (mB 277) (mLoc 277) (mRet 277) ∈ tables_1 := mem_t8 (List.mem_of_getElem? ct_277)
set_option maxRecDepth 100000 in
theorem ct_278 : tables_1_8[76]? = some (.code yX9_fits cX9_fits 4 (some .int)) := rfl
theorem cw_278 : Cond.code (mY 278) (mB 278) (mLoc 278) (mRet 278) ∈ tables_1 := mem_t8 (List.mem_of_getElem? ct_278)
set_option maxRecDepth 100000 in
theorem ct_279 : tables_1_8[88]? = some (.code yX9_worstBy cX9_worstBy 7 (some .int)) := rfl
theorem cw_279 : Cond.code (mY 279) (mB 279) (mLoc 279) (mRet 279) ∈ tables_1 := mem_t8 (List.mem_of_getElem? ct_279)
set_option maxRecDepth 100000 in
theorem ct_280 : tables_1_8[84]? = some (.code yX9_ask cX9_ask 7 (some .int)) := rfl
theorem cw_280 : Cond.code (mY 280) (mB 280) (mLoc 280) (mRet 280) ∈ tables_1 := mem_t8 (List.mem_of_getElem? ct_280)
set_option maxRecDepth 100000 in
theorem ct_281 : tables_1_8[92]? = some (.code yX9_hold cX9_hold 3 (some .boolean)) := rfl
theorem cw_281 : Cond.code (mY 281) (mB 281) (mLoc 281) (mRet 281) ∈ tables_1 := mem_t8 (List.mem_of_getElem? ct_281)
set_option maxRecDepth 100000 in
theorem ct_282 : tables_1_8[96]? = some (.code yX9_restore cX9_restore 3 (some .boolean)) := rfl
theorem cw_282 : Cond.code (mY 282) (mB 282) (mLoc 282) (mRet 282) ∈ tables_1 := mem_t8 (List.mem_of_getElem? ct_282)
set_option maxRecDepth 100000 in
theorem ct_283 : tables_1_8[100]? = some (.code yX9_count cX9_count 4 (some .int)) := rfl
theorem cw_283 : Cond.code (mY 283) (mB 283) (mLoc 283) (mRet 283) ∈ tables_1 := mem_t8 (List.mem_of_getElem? ct_283)
set_option maxRecDepth 100000 in
theorem ct_284 : tables_1_3[189]? = some (.code yJ6_bitCount_0f7a4 cJ6_bitCount_0f7a4 1 (some .int)) := rfl
theorem cw_284 : Cond.code (mY 284) (mB 284) (mLoc 284) (mRet 284) ∈ tables_1 := mem_t3 (List.mem_of_getElem? ct_284)
set_option maxRecDepth 100000 in
theorem ct_285 : tables_1_3[97]? = some (.code yJ9_max_7cf53 cJ9_max_7cf53 2 (some .int)) := rfl
theorem cw_285 : Cond.code (mY 285) (mB 285) (mLoc 285) (mRet 285) ∈ tables_1 := mem_t3 (List.mem_of_getElem? ct_285)
set_option maxRecDepth 100000 in
theorem ct_286 : tables_1_4[36]? = some (.code yJ9_min_7cf53 cJ9_min_7cf53 2 (some .int)) := rfl
theorem cw_286 : Cond.code (mY 286) (mB 286) (mLoc 286) (mRet 286) ∈ tables_1 := mem_t4 (List.mem_of_getElem? ct_286)
set_option maxRecDepth 100000 in
theorem ct_287 : tables_1_3[44]? = some (.code yJ0_length_8abf5 cJ0_length_8abf5 1 (some .int)) := rfl
theorem cw_287 : Cond.code (mY 287) (mB 287) (mLoc 287) (mRet 287) ∈ tables_1 := mem_t3 (List.mem_of_getElem? ct_287)
set_option maxRecDepth 100000 in
theorem ct_288 : tables_1_3[54]? = some (.code yJ0_charAt_5068e cJ0_charAt_5068e 2 (some .char)) := rfl
theorem cw_288 : Cond.code (mY 288) (mB 288) (mLoc 288) (mRet 288) ∈ tables_1 := mem_t3 (List.mem_of_getElem? ct_288)
set_option maxRecDepth 100000 in
theorem ct_289 : tables_1_3[48]? = some (.code yJ0_coder_7d493 cJ0_coder_7d493 1 (some .byte)) := rfl
theorem cw_289 : Cond.code (mY 289) (mB 289) (mLoc 289) (mRet 289) ∈ tables_1 := mem_t3 (List.mem_of_getElem? ct_289)
set_option maxRecDepth 100000 in
theorem ct_290 : tables_1_3[58]? = some (.code yJ0_isLatin1_aae02 cJ0_isLatin1_aae02 1 (some .boolean)) := rfl
theorem cw_290 : Cond.code (mY 290) (mB 290) (mLoc 290) (mRet 290) ∈ tables_1 := mem_t3 (List.mem_of_getElem? ct_290)
set_option maxRecDepth 100000 in
theorem ct_291 : tables_1_3[64]? = some (.code yJ0_checkIndex_df160 cJ0_checkIndex_df160 2 none) := rfl
theorem cw_291 : Cond.code (mY 291) (mB 291) (mLoc 291) (mRet 291) ∈ tables_1 := mem_t3 (List.mem_of_getElem? ct_291)
set_option maxRecDepth 100000 in
theorem ct_292 : tables_1_3[61]? = some (.code yJ1_charAt_3b067 cJ1_charAt_3b067 2 (some .char)) := rfl
theorem cw_292 : Cond.code (mY 292) (mB 292) (mLoc 292) (mRet 292) ∈ tables_1 := mem_t3 (List.mem_of_getElem? ct_292)
set_option maxRecDepth 100000 in
theorem ct_293 : tables_1_3[82]? = some (.code yJ2_getChar_3b067 cJ2_getChar_3b067 2 (some .char)) := rfl
theorem cw_293 : Cond.code (mY 293) (mB 293) (mLoc 293) (mRet 293) ∈ tables_1 := mem_t3 (List.mem_of_getElem? ct_293)
set_option maxRecDepth 100000 in
theorem ct_294 : tables_1_3[78]? = some (.code yJ2_length_9d52b cJ2_length_9d52b 1 (some .int)) := rfl
theorem cw_294 : Cond.code (mY 294) (mB 294) (mLoc 294) (mRet 294) ∈ tables_1 := mem_t3 (List.mem_of_getElem? ct_294)
set_option maxRecDepth 100000 in
theorem ct_295 : tables_1_3[72]? = some (.code yJ2_charAt_3b067 cJ2_charAt_3b067 2 (some .char)) := rfl
theorem cw_295 : Cond.code (mY 295) (mB 295) (mLoc 295) (mRet 295) ∈ tables_1 := mem_t3 (List.mem_of_getElem? ct_295)
set_option maxRecDepth 100000 in
theorem ct_296 : tables_1_3[75]? = some (.code yJ2_checkIndex_2214a cJ2_checkIndex_2214a 2 none) := rfl
theorem cw_296 : Cond.code (mY 296) (mB 296) (mLoc 296) (mRet 296) ∈ tables_1 := mem_t3 (List.mem_of_getElem? ct_296)
set_option maxRecDepth 100000 in
theorem ct_297 : tables_1_2[151]? = some (.code yJ7_fill_d0a16 cJ7_fill_d0a16 5 none) := rfl
theorem cw_297 : Cond.code (mY 297) (mB 297) (mLoc 297) (mRet 297) ∈ tables_1 := mem_t2 (List.mem_of_getElem? ct_297)
set_option maxRecDepth 100000 in
theorem ct_298 : tables_1_2[117]? = some (.code yJ7_fill_53178 cJ7_fill_53178 4 none) := rfl
theorem cw_298 : Cond.code (mY 298) (mB 298) (mLoc 298) (mRet 298) ∈ tables_1 := mem_t2 (List.mem_of_getElem? ct_298)
set_option maxRecDepth 100000 in
theorem ct_299 : tables_1_3[69]? = some (.code yJ3_checkIndex_8e157 cJ3_checkIndex_8e157 3 (some .int)) := rfl
theorem cw_299 : Cond.code (mY 299) (mB 299) (mLoc 299) (mRet 299) ∈ tables_1 := mem_t3 (List.mem_of_getElem? ct_299)
theorem cwg_0 (k : Nat) (h1 : 0 ≤ k) (h2 : k < 16) : Cond.code (mY k) (mB k) (mLoc k) (mRet k) ∈ tables_1 := by
  rcases (show k = 0 ∨ k = 1 ∨ k = 2 ∨ k = 3 ∨ k = 4 ∨ k = 5 ∨ k = 6 ∨ k = 7 ∨ k = 8 ∨ k = 9 ∨ k = 10 ∨ k = 11 ∨ k = 12 ∨ k = 13 ∨ k = 14 ∨ k = 15 by omega) with rfl | rfl | rfl | rfl | rfl | rfl | rfl | rfl | rfl | rfl | rfl | rfl | rfl | rfl | rfl | rfl
  · exact cw_0
  · exact cw_1
  · exact cw_2
  · exact cw_3
  · exact cw_4
  · exact cw_5
  · exact cw_6
  · exact cw_7
  · exact cw_8
  · exact cw_9
  · exact cw_10
  · exact cw_11
  · exact cw_12
  · exact cw_13
  · exact cw_14
  · exact cw_15
theorem cwg_1 (k : Nat) (h1 : 16 ≤ k) (h2 : k < 32) : Cond.code (mY k) (mB k) (mLoc k) (mRet k) ∈ tables_1 := by
  rcases (show k = 16 ∨ k = 17 ∨ k = 18 ∨ k = 19 ∨ k = 20 ∨ k = 21 ∨ k = 22 ∨ k = 23 ∨ k = 24 ∨ k = 25 ∨ k = 26 ∨ k = 27 ∨ k = 28 ∨ k = 29 ∨ k = 30 ∨ k = 31 by omega) with rfl | rfl | rfl | rfl | rfl | rfl | rfl | rfl | rfl | rfl | rfl | rfl | rfl | rfl | rfl | rfl
  · exact cw_16
  · exact cw_17
  · exact cw_18
  · exact cw_19
  · exact cw_20
  · exact cw_21
  · exact cw_22
  · exact cw_23
  · exact cw_24
  · exact cw_25
  · exact cw_26
  · exact cw_27
  · exact cw_28
  · exact cw_29
  · exact cw_30
  · exact cw_31
theorem cwg_2 (k : Nat) (h1 : 32 ≤ k) (h2 : k < 48) : Cond.code (mY k) (mB k) (mLoc k) (mRet k) ∈ tables_1 := by
  rcases (show k = 32 ∨ k = 33 ∨ k = 34 ∨ k = 35 ∨ k = 36 ∨ k = 37 ∨ k = 38 ∨ k = 39 ∨ k = 40 ∨ k = 41 ∨ k = 42 ∨ k = 43 ∨ k = 44 ∨ k = 45 ∨ k = 46 ∨ k = 47 by omega) with rfl | rfl | rfl | rfl | rfl | rfl | rfl | rfl | rfl | rfl | rfl | rfl | rfl | rfl | rfl | rfl
  · exact cw_32
  · exact cw_33
  · exact cw_34
  · exact cw_35
  · exact cw_36
  · exact cw_37
  · exact cw_38
  · exact cw_39
  · exact cw_40
  · exact cw_41
  · exact cw_42
  · exact cw_43
  · exact cw_44
  · exact cw_45
  · exact cw_46
  · exact cw_47
theorem cwg_3 (k : Nat) (h1 : 48 ≤ k) (h2 : k < 64) : Cond.code (mY k) (mB k) (mLoc k) (mRet k) ∈ tables_1 := by
  rcases (show k = 48 ∨ k = 49 ∨ k = 50 ∨ k = 51 ∨ k = 52 ∨ k = 53 ∨ k = 54 ∨ k = 55 ∨ k = 56 ∨ k = 57 ∨ k = 58 ∨ k = 59 ∨ k = 60 ∨ k = 61 ∨ k = 62 ∨ k = 63 by omega) with rfl | rfl | rfl | rfl | rfl | rfl | rfl | rfl | rfl | rfl | rfl | rfl | rfl | rfl | rfl | rfl
  · exact cw_48
  · exact cw_49
  · exact cw_50
  · exact cw_51
  · exact cw_52
  · exact cw_53
  · exact cw_54
  · exact cw_55
  · exact cw_56
  · exact cw_57
  · exact cw_58
  · exact cw_59
  · exact cw_60
  · exact cw_61
  · exact cw_62
  · exact cw_63
theorem cwg_4 (k : Nat) (h1 : 64 ≤ k) (h2 : k < 80) : Cond.code (mY k) (mB k) (mLoc k) (mRet k) ∈ tables_1 := by
  rcases (show k = 64 ∨ k = 65 ∨ k = 66 ∨ k = 67 ∨ k = 68 ∨ k = 69 ∨ k = 70 ∨ k = 71 ∨ k = 72 ∨ k = 73 ∨ k = 74 ∨ k = 75 ∨ k = 76 ∨ k = 77 ∨ k = 78 ∨ k = 79 by omega) with rfl | rfl | rfl | rfl | rfl | rfl | rfl | rfl | rfl | rfl | rfl | rfl | rfl | rfl | rfl | rfl
  · exact cw_64
  · exact cw_65
  · exact cw_66
  · exact cw_67
  · exact cw_68
  · exact cw_69
  · exact cw_70
  · exact cw_71
  · exact cw_72
  · exact cw_73
  · exact cw_74
  · exact cw_75
  · exact cw_76
  · exact cw_77
  · exact cw_78
  · exact cw_79
theorem cwg_5 (k : Nat) (h1 : 80 ≤ k) (h2 : k < 96) : Cond.code (mY k) (mB k) (mLoc k) (mRet k) ∈ tables_1 := by
  rcases (show k = 80 ∨ k = 81 ∨ k = 82 ∨ k = 83 ∨ k = 84 ∨ k = 85 ∨ k = 86 ∨ k = 87 ∨ k = 88 ∨ k = 89 ∨ k = 90 ∨ k = 91 ∨ k = 92 ∨ k = 93 ∨ k = 94 ∨ k = 95 by omega) with rfl | rfl | rfl | rfl | rfl | rfl | rfl | rfl | rfl | rfl | rfl | rfl | rfl | rfl | rfl | rfl
  · exact cw_80
  · exact cw_81
  · exact cw_82
  · exact cw_83
  · exact cw_84
  · exact cw_85
  · exact cw_86
  · exact cw_87
  · exact cw_88
  · exact cw_89
  · exact cw_90
  · exact cw_91
  · exact cw_92
  · exact cw_93
  · exact cw_94
  · exact cw_95
theorem cwg_6 (k : Nat) (h1 : 96 ≤ k) (h2 : k < 112) : Cond.code (mY k) (mB k) (mLoc k) (mRet k) ∈ tables_1 := by
  rcases (show k = 96 ∨ k = 97 ∨ k = 98 ∨ k = 99 ∨ k = 100 ∨ k = 101 ∨ k = 102 ∨ k = 103 ∨ k = 104 ∨ k = 105 ∨ k = 106 ∨ k = 107 ∨ k = 108 ∨ k = 109 ∨ k = 110 ∨ k = 111 by omega) with rfl | rfl | rfl | rfl | rfl | rfl | rfl | rfl | rfl | rfl | rfl | rfl | rfl | rfl | rfl | rfl
  · exact cw_96
  · exact cw_97
  · exact cw_98
  · exact cw_99
  · exact cw_100
  · exact cw_101
  · exact cw_102
  · exact cw_103
  · exact cw_104
  · exact cw_105
  · exact cw_106
  · exact cw_107
  · exact cw_108
  · exact cw_109
  · exact cw_110
  · exact cw_111
theorem cwg_7 (k : Nat) (h1 : 112 ≤ k) (h2 : k < 128) : Cond.code (mY k) (mB k) (mLoc k) (mRet k) ∈ tables_1 := by
  rcases (show k = 112 ∨ k = 113 ∨ k = 114 ∨ k = 115 ∨ k = 116 ∨ k = 117 ∨ k = 118 ∨ k = 119 ∨ k = 120 ∨ k = 121 ∨ k = 122 ∨ k = 123 ∨ k = 124 ∨ k = 125 ∨ k = 126 ∨ k = 127 by omega) with rfl | rfl | rfl | rfl | rfl | rfl | rfl | rfl | rfl | rfl | rfl | rfl | rfl | rfl | rfl | rfl
  · exact cw_112
  · exact cw_113
  · exact cw_114
  · exact cw_115
  · exact cw_116
  · exact cw_117
  · exact cw_118
  · exact cw_119
  · exact cw_120
  · exact cw_121
  · exact cw_122
  · exact cw_123
  · exact cw_124
  · exact cw_125
  · exact cw_126
  · exact cw_127
theorem cwg_8 (k : Nat) (h1 : 128 ≤ k) (h2 : k < 144) : Cond.code (mY k) (mB k) (mLoc k) (mRet k) ∈ tables_1 := by
  rcases (show k = 128 ∨ k = 129 ∨ k = 130 ∨ k = 131 ∨ k = 132 ∨ k = 133 ∨ k = 134 ∨ k = 135 ∨ k = 136 ∨ k = 137 ∨ k = 138 ∨ k = 139 ∨ k = 140 ∨ k = 141 ∨ k = 142 ∨ k = 143 by omega) with rfl | rfl | rfl | rfl | rfl | rfl | rfl | rfl | rfl | rfl | rfl | rfl | rfl | rfl | rfl | rfl
  · exact cw_128
  · exact cw_129
  · exact cw_130
  · exact cw_131
  · exact cw_132
  · exact cw_133
  · exact cw_134
  · exact cw_135
  · exact cw_136
  · exact cw_137
  · exact cw_138
  · exact cw_139
  · exact cw_140
  · exact cw_141
  · exact cw_142
  · exact cw_143
theorem cwg_9 (k : Nat) (h1 : 144 ≤ k) (h2 : k < 160) : Cond.code (mY k) (mB k) (mLoc k) (mRet k) ∈ tables_1 := by
  rcases (show k = 144 ∨ k = 145 ∨ k = 146 ∨ k = 147 ∨ k = 148 ∨ k = 149 ∨ k = 150 ∨ k = 151 ∨ k = 152 ∨ k = 153 ∨ k = 154 ∨ k = 155 ∨ k = 156 ∨ k = 157 ∨ k = 158 ∨ k = 159 by omega) with rfl | rfl | rfl | rfl | rfl | rfl | rfl | rfl | rfl | rfl | rfl | rfl | rfl | rfl | rfl | rfl
  · exact cw_144
  · exact cw_145
  · exact cw_146
  · exact cw_147
  · exact cw_148
  · exact cw_149
  · exact cw_150
  · exact cw_151
  · exact cw_152
  · exact cw_153
  · exact cw_154
  · exact cw_155
  · exact cw_156
  · exact cw_157
  · exact cw_158
  · exact cw_159
theorem cwg_10 (k : Nat) (h1 : 160 ≤ k) (h2 : k < 176) : Cond.code (mY k) (mB k) (mLoc k) (mRet k) ∈ tables_1 := by
  rcases (show k = 160 ∨ k = 161 ∨ k = 162 ∨ k = 163 ∨ k = 164 ∨ k = 165 ∨ k = 166 ∨ k = 167 ∨ k = 168 ∨ k = 169 ∨ k = 170 ∨ k = 171 ∨ k = 172 ∨ k = 173 ∨ k = 174 ∨ k = 175 by omega) with rfl | rfl | rfl | rfl | rfl | rfl | rfl | rfl | rfl | rfl | rfl | rfl | rfl | rfl | rfl | rfl
  · exact cw_160
  · exact cw_161
  · exact cw_162
  · exact cw_163
  · exact cw_164
  · exact cw_165
  · exact cw_166
  · exact cw_167
  · exact cw_168
  · exact cw_169
  · exact cw_170
  · exact cw_171
  · exact cw_172
  · exact cw_173
  · exact cw_174
  · exact cw_175
theorem cwg_11 (k : Nat) (h1 : 176 ≤ k) (h2 : k < 192) : Cond.code (mY k) (mB k) (mLoc k) (mRet k) ∈ tables_1 := by
  rcases (show k = 176 ∨ k = 177 ∨ k = 178 ∨ k = 179 ∨ k = 180 ∨ k = 181 ∨ k = 182 ∨ k = 183 ∨ k = 184 ∨ k = 185 ∨ k = 186 ∨ k = 187 ∨ k = 188 ∨ k = 189 ∨ k = 190 ∨ k = 191 by omega) with rfl | rfl | rfl | rfl | rfl | rfl | rfl | rfl | rfl | rfl | rfl | rfl | rfl | rfl | rfl | rfl
  · exact cw_176
  · exact cw_177
  · exact cw_178
  · exact cw_179
  · exact cw_180
  · exact cw_181
  · exact cw_182
  · exact cw_183
  · exact cw_184
  · exact cw_185
  · exact cw_186
  · exact cw_187
  · exact cw_188
  · exact cw_189
  · exact cw_190
  · exact cw_191
theorem cwg_12 (k : Nat) (h1 : 192 ≤ k) (h2 : k < 208) : Cond.code (mY k) (mB k) (mLoc k) (mRet k) ∈ tables_1 := by
  rcases (show k = 192 ∨ k = 193 ∨ k = 194 ∨ k = 195 ∨ k = 196 ∨ k = 197 ∨ k = 198 ∨ k = 199 ∨ k = 200 ∨ k = 201 ∨ k = 202 ∨ k = 203 ∨ k = 204 ∨ k = 205 ∨ k = 206 ∨ k = 207 by omega) with rfl | rfl | rfl | rfl | rfl | rfl | rfl | rfl | rfl | rfl | rfl | rfl | rfl | rfl | rfl | rfl
  · exact cw_192
  · exact cw_193
  · exact cw_194
  · exact cw_195
  · exact cw_196
  · exact cw_197
  · exact cw_198
  · exact cw_199
  · exact cw_200
  · exact cw_201
  · exact cw_202
  · exact cw_203
  · exact cw_204
  · exact cw_205
  · exact cw_206
  · exact cw_207
theorem cwg_13 (k : Nat) (h1 : 208 ≤ k) (h2 : k < 224) : Cond.code (mY k) (mB k) (mLoc k) (mRet k) ∈ tables_1 := by
  rcases (show k = 208 ∨ k = 209 ∨ k = 210 ∨ k = 211 ∨ k = 212 ∨ k = 213 ∨ k = 214 ∨ k = 215 ∨ k = 216 ∨ k = 217 ∨ k = 218 ∨ k = 219 ∨ k = 220 ∨ k = 221 ∨ k = 222 ∨ k = 223 by omega) with rfl | rfl | rfl | rfl | rfl | rfl | rfl | rfl | rfl | rfl | rfl | rfl | rfl | rfl | rfl | rfl
  · exact cw_208
  · exact cw_209
  · exact cw_210
  · exact cw_211
  · exact cw_212
  · exact cw_213
  · exact cw_214
  · exact cw_215
  · exact cw_216
  · exact cw_217
  · exact cw_218
  · exact cw_219
  · exact cw_220
  · exact cw_221
  · exact cw_222
  · exact cw_223
theorem cwg_14 (k : Nat) (h1 : 224 ≤ k) (h2 : k < 240) : Cond.code (mY k) (mB k) (mLoc k) (mRet k) ∈ tables_1 := by
  rcases (show k = 224 ∨ k = 225 ∨ k = 226 ∨ k = 227 ∨ k = 228 ∨ k = 229 ∨ k = 230 ∨ k = 231 ∨ k = 232 ∨ k = 233 ∨ k = 234 ∨ k = 235 ∨ k = 236 ∨ k = 237 ∨ k = 238 ∨ k = 239 by omega) with rfl | rfl | rfl | rfl | rfl | rfl | rfl | rfl | rfl | rfl | rfl | rfl | rfl | rfl | rfl | rfl
  · exact cw_224
  · exact cw_225
  · exact cw_226
  · exact cw_227
  · exact cw_228
  · exact cw_229
  · exact cw_230
  · exact cw_231
  · exact cw_232
  · exact cw_233
  · exact cw_234
  · exact cw_235
  · exact cw_236
  · exact cw_237
  · exact cw_238
  · exact cw_239
theorem cwg_15 (k : Nat) (h1 : 240 ≤ k) (h2 : k < 256) : Cond.code (mY k) (mB k) (mLoc k) (mRet k) ∈ tables_1 := by
  rcases (show k = 240 ∨ k = 241 ∨ k = 242 ∨ k = 243 ∨ k = 244 ∨ k = 245 ∨ k = 246 ∨ k = 247 ∨ k = 248 ∨ k = 249 ∨ k = 250 ∨ k = 251 ∨ k = 252 ∨ k = 253 ∨ k = 254 ∨ k = 255 by omega) with rfl | rfl | rfl | rfl | rfl | rfl | rfl | rfl | rfl | rfl | rfl | rfl | rfl | rfl | rfl | rfl
  · exact cw_240
  · exact cw_241
  · exact cw_242
  · exact cw_243
  · exact cw_244
  · exact cw_245
  · exact cw_246
  · exact cw_247
  · exact cw_248
  · exact cw_249
  · exact cw_250
  · exact cw_251
  · exact cw_252
  · exact cw_253
  · exact cw_254
  · exact cw_255
theorem cwg_16 (k : Nat) (h1 : 256 ≤ k) (h2 : k < 272) : Cond.code (mY k) (mB k) (mLoc k) (mRet k) ∈ tables_1 := by
  rcases (show k = 256 ∨ k = 257 ∨ k = 258 ∨ k = 259 ∨ k = 260 ∨ k = 261 ∨ k = 262 ∨ k = 263 ∨ k = 264 ∨ k = 265 ∨ k = 266 ∨ k = 267 ∨ k = 268 ∨ k = 269 ∨ k = 270 ∨ k = 271 by omega) with rfl | rfl | rfl | rfl | rfl | rfl | rfl | rfl | rfl | rfl | rfl | rfl | rfl | rfl | rfl | rfl
  · exact cw_256
  · exact cw_257
  · exact cw_258
  · exact cw_259
  · exact cw_260
  · exact cw_261
  · exact cw_262
  · exact cw_263
  · exact cw_264
  · exact cw_265
  · exact cw_266
  · exact cw_267
  · exact cw_268
  · exact cw_269
  · exact cw_270
  · exact cw_271
theorem cwg_17 (k : Nat) (h1 : 272 ≤ k) (h2 : k < 288) : Cond.code (mY k) (mB k) (mLoc k) (mRet k) ∈ tables_1 := by
  rcases (show k = 272 ∨ k = 273 ∨ k = 274 ∨ k = 275 ∨ k = 276 ∨ k = 277 ∨ k = 278 ∨ k = 279 ∨ k = 280 ∨ k = 281 ∨ k = 282 ∨ k = 283 ∨ k = 284 ∨ k = 285 ∨ k = 286 ∨ k = 287 by omega) with rfl | rfl | rfl | rfl | rfl | rfl | rfl | rfl | rfl | rfl | rfl | rfl | rfl | rfl | rfl | rfl
  · exact cw_272
  · exact cw_273
  · exact cw_274
  · exact cw_275
  · exact cw_276
  · exact cw_277
  · exact cw_278
  · exact cw_279
  · exact cw_280
  · exact cw_281
  · exact cw_282
  · exact cw_283
  · exact cw_284
  · exact cw_285
  · exact cw_286
  · exact cw_287
theorem cwg_18 (k : Nat) (h1 : 288 ≤ k) (h2 : k < 300) : Cond.code (mY k) (mB k) (mLoc k) (mRet k) ∈ tables_1 := by
  rcases (show k = 288 ∨ k = 289 ∨ k = 290 ∨ k = 291 ∨ k = 292 ∨ k = 293 ∨ k = 294 ∨ k = 295 ∨ k = 296 ∨ k = 297 ∨ k = 298 ∨ k = 299 by omega) with rfl | rfl | rfl | rfl | rfl | rfl | rfl | rfl | rfl | rfl | rfl | rfl
  · exact cw_288
  · exact cw_289
  · exact cw_290
  · exact cw_291
  · exact cw_292
  · exact cw_293
  · exact cw_294
  · exact cw_295
  · exact cw_296
  · exact cw_297
  · exact cw_298
  · exact cw_299
theorem codew_ok (k : Nat) (hk : k < 300) : Cond.code (mY k) (mB k) (mLoc k) (mRet k) ∈ tables_1 := by
  by_cases h0 : k < 16
  · exact cwg_0 k (by omega) h0
  by_cases h1 : k < 32
  · exact cwg_1 k (by omega) h1
  by_cases h2 : k < 48
  · exact cwg_2 k (by omega) h2
  by_cases h3 : k < 64
  · exact cwg_3 k (by omega) h3
  by_cases h4 : k < 80
  · exact cwg_4 k (by omega) h4
  by_cases h5 : k < 96
  · exact cwg_5 k (by omega) h5
  by_cases h6 : k < 112
  · exact cwg_6 k (by omega) h6
  by_cases h7 : k < 128
  · exact cwg_7 k (by omega) h7
  by_cases h8 : k < 144
  · exact cwg_8 k (by omega) h8
  by_cases h9 : k < 160
  · exact cwg_9 k (by omega) h9
  by_cases h10 : k < 176
  · exact cwg_10 k (by omega) h10
  by_cases h11 : k < 192
  · exact cwg_11 k (by omega) h11
  by_cases h12 : k < 208
  · exact cwg_12 k (by omega) h12
  by_cases h13 : k < 224
  · exact cwg_13 k (by omega) h13
  by_cases h14 : k < 240
  · exact cwg_14 k (by omega) h14
  by_cases h15 : k < 256
  · exact cwg_15 k (by omega) h15
  by_cases h16 : k < 272
  · exact cwg_16 k (by omega) h16
  by_cases h17 : k < 288
  · exact cwg_17 k (by omega) h17
  exact cwg_18 k (by omega) hk
theorem meth_ok : ∀ e ∈ codeT, plainFor (mY e.1) = true ∧ oNm (mOwn e.1) = (mY e.1).cls ∧ ((mY e.1).cls ≠ "java/lang/invoke/MethodHandle" ∧ (mY e.1).cls ≠ "java/lang/invoke/VarHandle") ∧ (parseMethodDescriptor (mY e.1).desc).map (fun d => d.parameters.length) = some (mArg e.1) := by decide +kernel
theorem stat_ok : ∀ e ∈ statT, tables_1[e.2]? = some (.static (mY e.1)) := by decide +kernel
theorem virt_ok : ∀ e ∈ virtT, tables_1[e.2.1]? = some (.instanceMethod (mY e.1)) ∧ lw_tbl[e.2.2]? = some (.selects (mY e.1).cls (mY e.1) (mY e.1)) := by decide +kernel
theorem ini_ok : ∀ e ∈ iniT, tables_1[e.2]? = some (.instanceMethod (mY e.1)) ∧ (mY e.1).name = "<init>" ∧ mRet e.1 = none := by decide +kernel
theorem mlk_ok : ∀ o, o < 18 → ∀ e ∈ mlk o, tables_1[e.2.2.2]? = some (if e.2.2.1 = 3 then .methodLinkNest (oNm o) e.1 (mY e.2.1) "SluiceLogs" else .methodLink (oNm o) e.1 (mY e.2.1)) := by decide +kernel
theorem olk_ok : ∀ o, o < 18 → ∀ e ∈ olk o, tables_1[e.2]? = some (.methodLink (oNm o) e.1 objectInit) := by decide +kernel
theorem alk_ok : ∀ o, o < 18 → ∀ e ∈ alk o, tables_1[e.2]? = some (.methodLink (oNm o) e.1 arraycopyName) := by decide +kernel
theorem clk_ok : ∀ o, o < 18 → ∀ e ∈ clk o, tables_1[e.2.2]? = some (.classLink (oNm o) e.1 (oNm e.2.1)) := by decide +kernel
theorem clkM_ok : ∀ o, o < 18 → ∀ e ∈ clkM o, tables_1[e.2.2]? = some (.classLink (oNm o) e.1 ("[" ++ (FieldType.array (ety (e.2.1 - 10))).toString)) := by decide +kernel
theorem cik_ok : ∀ o, o < 18 → ∀ e ∈ cik o, tables_1[e.2.2]? = some (.constant (oNm o) e.1 (Int32.ofNat e.2.1)) := by decide +kernel
theorem clg_ok : ∀ o, o < 18 → ∀ e ∈ clg o, tables_1[e.2.2]? = some (.constantLong (oNm o) e.1 (Int64.ofNat e.2.1)) := by decide +kernel
def insT : List Nat := [301, 28, 159, 34, 322, 165, 224, 216, 20, 1044]
def iniC : List Nat := [8, 2, 4, 3, 9, 5, 7, 6, 1, 12]
theorem ins_ok : ∀ c, c < 10 → tables_1[insT.getD c 0]? = some (.instantiable (oNm c) (clN c)) ∧ tables_1[iniC.getD c 0]? = some (.initialized (oNm c)) := by decide +kernel
theorem misc_ok : tables_1[376]? = some (.native arraycopyName) ∧ tables_1[375]? = some (.static arraycopyName) ∧ tables_1[11]? = some (.initialized "java/lang/System") ∧ tables_1[25]? = some (.instanceMethod objectInit) ∧ tables_1[26]? = some (.code objectInit ⟨#[0xb1]⟩ 1 none) := by decide +kernel
theorem arrc_ok : tables_1[83]? = some (.arrayClass .int) ∧ tables_1[82]? = some (.arrayClass .long) ∧ tables_1[280]? = some (.arrayClass .boolean) ∧ tables_1[81]? = some (.arrayClass .byte) := by decide +kernel
