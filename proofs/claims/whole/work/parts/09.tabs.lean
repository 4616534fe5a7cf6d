/-! tables of methods and links (printed by program) -/
def codeT : List (Nat × Nat × Nat) := [(0, 304, 8), (1, 800, 8), (2, 851, 8), (3, 91, 4), (4, 350, 4), (5, 361, 4), (6, 365, 4), (7, 750, 4), (8, 670, 4), (9, 31, 2), (10, 498, 2), (11, 586, 2), (12, 602, 2), (13, 654, 2), (14, 598, 2), (15, 606, 2), (16, 642, 2), (17, 662, 2), (18, 590, 2), (19, 634, 2), (20, 658, 2), (21, 638, 2), (22, 646, 2), (23, 650, 2), (24, 666, 2), (25, 680, 2), (26, 684, 2), (27, 688, 2), (28, 692, 2), (29, 594, 2), (30, 630, 2), (31, 610, 2), (32, 618, 2), (33, 622, 2), (34, 614, 2), (35, 626, 2), (36, 97, 5), (37, 354, 5), (38, 373, 5), (39, 325, 9), (40, 1014, 9), (41, 37, 3), (42, 502, 3), (43, 505, 3), (44, 511, 3), (45, 514, 3), (46, 508, 3), (47, 517, 3), (48, 520, 3), (49, 523, 3), (50, 576, 3), (51, 227, 7), (52, 384, 7), (53, 388, 7), (54, 399, 7), (55, 403, 7), (56, 406, 7), (57, 410, 7), (58, 414, 7), (59, 418, 7), (60, 422, 7), (61, 426, 7), (62, 430, 7), (63, 433, 7), (64, 219, 6), (65, 380, 6), (66, 717, 6), (67, 738, 6), (68, 942, 6), (69, 796, 6), (70, 806, 6), (71, 730, 6), (72, 764, 6), (73, 777, 6), (74, 785, 6), (75, 757, 6), (76, 734, 6), (77, 781, 6), (78, 742, 6), (79, 746, 6), (80, 754, 6), (81, 873, 6), (82, 869, 6), (83, 934, 6), (84, 968, 6), (85, 825, 6), (86, 829, 6), (87, 834, 6), (88, 837, 6), (89, 840, 6), (90, 23, 1), (91, 482, 1), (92, 486, 1), (93, 490, 1), (94, 494, 1), (95, 369, 1), (96, 696, 1), (97, 700, 1), (98, 722, 1), (99, 769, 1), (100, 704, 1), (101, 726, 1), (102, 773, 1), (103, 813, 1), (104, 789, 1), (105, 792, 1), (106, 810, 1), (107, 817, 1), (108, 821, 1), (109, 847, 1), (110, 855, 1), (111, 860, 1), (112, 865, 1), (113, 878, 1), (114, 882, 1), (115, 886, 1), (116, 890, 1), (117, 898, 1), (118, 894, 1), (119, 902, 1), (120, 906, 1), (121, 910, 1), (122, 914, 1), (123, 918, 1), (124, 922, 1), (125, 926, 1), (126, 930, 1), (127, 938, 1), (128, 946, 1), (129, 950, 1), (130, 956, 1), (131, 960, 1), (132, 964, 1), (133, 972, 1), (134, 976, 1), (135, 981, 1), (136, 985, 1), (137, 989, 1), (138, 993, 1), (139, 998, 1), (140, 1002, 1), (141, 1006, 1), (142, 1010, 1), (143, 1018, 1), (144, 1022, 1), (145, 1026, 1), (146, 1030, 1), (147, 1034, 1), (148, 1038, 1), (149, 1042, 1), (150, 1046, 1), (151, 710, 1), (152, 707, 1), (153, 713, 1), (154, 1051, 12), (155, 1341, 12), (156, 1345, 12), (157, 1349, 12), (158, 1361, 12), (159, 1371, 12), (160, 1368, 12), (161, 1062, 12), (162, 1059, 12), (163, 1365, 12), (164, 1357, 12), (165, 1375, 12), (166, 1379, 12), (167, 1391, 12), (168, 1407, 12), (169, 1395, 12), (170, 1403, 12), (171, 1056, 12), (172, 1353, 12), (173, 1467, 12), (174, 1387, 12), (175, 1383, 12), (176, 1399, 12), (177, 1411, 12), (178, 1431, 12), (179, 1427, 12), (180, 1435, 12), (181, 1419, 12), (182, 1415, 12), (183, 1423, 12), (184, 1439, 12), (185, 1443, 12), (186, 1463, 12), (187, 1455, 12), (188, 1459, 12), (189, 1447, 12), (190, 1451, 12), (191, 1534, 12), (192, 1478, 12), (193, 1537, 12), (194, 1736, 12), (195, 1475, 12), (196, 1501, 12), (197, 1549, 12), (198, 1079, 12), (199, 1083, 12), (200, 1087, 12), (201, 1067, 12), (202, 1115, 12), (203, 1482, 12), (204, 1606, 12), (205, 1603, 12), (206, 1075, 12), (207, 1091, 12), (208, 1103, 12), (209, 1099, 12), (210, 1095, 12), (211, 1107, 12), (212, 1111, 12), (213, 1071, 12), (214, 1493, 12), (215, 1490, 12), (216, 1486, 12), (217, 1505, 12), (218, 1522, 12), (219, 1509, 12), (220, 1530, 12), (221, 1526, 12), (222, 1518, 12), (223, 1514, 12), (224, 1541, 12), (225, 1553, 12), (226, 1557, 12), (227, 1640, 12), (228, 1636, 12), (229, 1568, 12), (230, 1572, 12), (231, 1681, 12), (232, 1599, 12), (233, 1595, 12), (234, 1471, 12), (235, 1497, 12), (236, 1545, 12), (237, 1576, 12), (238, 1564, 12), (239, 1561, 12), (240, 1580, 12), (241, 1584, 12), (242, 1591, 12), (243, 1588, 12), (244, 1611, 12), (245, 1619, 12), (246, 1623, 12), (247, 1615, 12), (248, 1628, 12), (249, 1632, 12), (250, 1644, 12), (251, 1648, 12), (252, 1653, 12), (253, 1665, 12), (254, 1669, 12), (255, 1661, 12), (256, 1673, 12), (257, 1657, 12), (258, 1685, 12), (259, 1677, 12), (260, 1689, 12), (261, 1697, 12), (262, 1693, 12), (263, 1709, 12), (264, 1713, 12), (265, 1705, 12), (266, 1701, 12), (267, 1717, 12), (268, 1721, 12), (269, 1725, 12), (270, 1729, 12), (271, 1733, 12), (272, 1740, 12), (273, 1744, 12), (274, 1748, 12), (275, 1752, 12), (276, 1756, 12), (277, 1764, 12), (278, 1760, 12), (279, 1772, 12), (280, 1768, 12), (281, 1776, 12), (282, 1780, 12), (283, 1784, 12), (284, 673, 18), (285, 581, 17), (286, 760, 17), (287, 528, 13), (288, 538, 13), (289, 532, 13), (290, 542, 13), (291, 548, 13), (292, 545, 14), (293, 566, 16), (294, 562, 16), (295, 556, 16), (296, 559, 16), (297, 391, 10), (298, 357, 10), (299, 395, 10), (300, 553, 15)]
def statT : List (Nat × Nat) := [(33, 621), (43, 504), (44, 510), (45, 513), (46, 507), (47, 516), (48, 519), (49, 522), (50, 575), (56, 405), (63, 432), (75, 756), (80, 753), (88, 836), (89, 839), (103, 812), (105, 791), (151, 709), (152, 706), (153, 712), (159, 1370), (160, 1367), (161, 1061), (162, 1058), (192, 1477), (193, 1536), (194, 1735), (204, 1605), (214, 1492), (238, 1563), (242, 1590), (284, 672), (285, 580), (286, 759), (291, 547), (292, 544), (293, 565), (294, 561), (295, 555), (296, 558), (297, 390), (298, 356), (299, 394), (300, 552)]
def virtT : List (Nat × Nat × Nat) := [(1, 798, 939), (2, 849, 990), (4, 348, 489), (5, 360, 0), (6, 363, 504), (7, 748, 889), (8, 668, 809), (10, 496, 637), (11, 585, 12), (12, 601, 16), (13, 653, 28), (14, 597, 15), (15, 605, 17), (16, 641, 25), (17, 661, 30), (18, 589, 13), (19, 633, 23), (20, 657, 29), (21, 637, 24), (22, 645, 26), (23, 649, 27), (24, 665, 31), (25, 679, 32), (26, 683, 33), (27, 687, 34), (28, 691, 35), (29, 593, 14), (30, 629, 22), (31, 609, 18), (32, 617, 20), (34, 613, 19), (35, 625, 21), (37, 352, 493), (38, 371, 512), (40, 1012, 1153), (42, 500, 641), (52, 382, 523), (53, 387, 2), (54, 398, 3), (55, 402, 4), (57, 409, 5), (58, 413, 6), (59, 417, 7), (60, 421, 8), (61, 425, 9), (62, 429, 10), (65, 378, 519), (66, 715, 856), (67, 736, 877), (68, 940, 1081), (69, 794, 935), (70, 804, 945), (71, 728, 869), (72, 762, 903), (73, 775, 916), (74, 783, 924), (76, 733, 38), (77, 780, 42), (78, 741, 39), (79, 745, 40), (81, 871, 1012), (82, 867, 1008), (83, 932, 1073), (84, 966, 1107), (85, 823, 964), (86, 828, 43), (87, 833, 44), (91, 480, 621), (92, 485, 11), (93, 488, 629), (94, 492, 633), (95, 368, 1), (96, 694, 835), (97, 698, 839), (98, 720, 861), (99, 767, 908), (100, 703, 36), (101, 725, 37), (102, 772, 41), (104, 787, 928), (106, 808, 949), (107, 815, 956), (108, 819, 960), (109, 845, 986), (110, 853, 994), (111, 858, 999), (112, 863, 1004), (113, 876, 1017), (114, 880, 1021), (115, 885, 45), (116, 889, 46), (117, 897, 47), (118, 892, 1033), (119, 901, 48), (120, 904, 1045), (121, 908, 1049), (122, 913, 49), (123, 916, 1057), (124, 921, 50), (125, 925, 51), (126, 929, 52), (127, 936, 1077), (128, 944, 1085), (129, 948, 1089), (130, 954, 1095), (131, 958, 1099), (132, 963, 53), (133, 970, 1111), (134, 974, 1115), (135, 980, 54), (136, 983, 1124), (137, 987, 1128), (138, 991, 1132), (139, 996, 1137), (140, 1000, 1141), (141, 1004, 1145), (142, 1009, 55), (143, 1016, 1157), (144, 1021, 56), (145, 1024, 1165), (146, 1028, 1169), (147, 1032, 1173), (148, 1037, 57), (149, 1041, 58), (150, 1045, 59), (155, 1339, 1480), (156, 1344, 74), (157, 1347, 1488), (158, 1360, 76), (163, 1364, 77), (164, 1356, 75), (165, 1374, 78), (166, 1378, 79), (167, 1390, 82), (168, 1406, 86), (169, 1394, 83), (170, 1402, 85), (171, 1055, 60), (172, 1351, 1492), (173, 1465, 1606), (174, 1386, 81), (175, 1382, 80), (176, 1398, 84), (177, 1410, 87), (178, 1430, 92), (179, 1426, 91), (180, 1434, 93), (181, 1418, 89), (182, 1414, 88), (183, 1422, 90), (184, 1438, 94), (185, 1442, 95), (186, 1462, 100), (187, 1454, 98), (188, 1458, 99), (189, 1446, 96), (190, 1450, 97), (191, 1533, 113), (195, 1474, 101), (196, 1500, 105), (197, 1548, 115), (198, 1078, 64), (199, 1082, 65), (200, 1086, 66), (201, 1066, 61), (202, 1114, 73), (203, 1481, 102), (205, 1602, 123), (206, 1074, 63), (207, 1090, 67), (208, 1102, 70), (209, 1098, 69), (210, 1094, 68), (211, 1106, 71), (212, 1110, 72), (213, 1070, 62), (215, 1489, 104), (216, 1485, 103), (217, 1504, 106), (218, 1521, 110), (219, 1508, 107), (220, 1529, 112), (221, 1525, 111), (222, 1517, 109), (223, 1513, 108), (224, 1540, 114), (225, 1552, 116), (226, 1556, 117), (227, 1639, 127), (228, 1635, 126), (229, 1567, 118), (230, 1571, 119), (231, 1680, 132), (232, 1598, 122), (233, 1594, 121), (234, 1469, 1610), (235, 1495, 1636), (236, 1543, 1684), (237, 1575, 120), (239, 1559, 1700), (240, 1578, 1719), (241, 1582, 1723), (243, 1586, 1727), (244, 1609, 1750), (245, 1618, 124), (246, 1622, 125), (247, 1613, 1754), (248, 1626, 1767), (249, 1630, 1771), (250, 1642, 1783), (251, 1646, 1787), (252, 1651, 1792), (253, 1664, 129), (254, 1668, 130), (255, 1660, 128), (256, 1672, 131), (257, 1655, 1796), (258, 1684, 133), (259, 1675, 1816), (260, 1687, 1828), (261, 1696, 134), (262, 1691, 1832), (263, 1708, 136), (264, 1712, 137), (265, 1704, 135), (266, 1699, 1840), (267, 1715, 1856), (268, 1719, 1860), (269, 1723, 1864), (270, 1727, 1868), (271, 1731, 1872), (272, 1738, 1879), (273, 1742, 1883), (274, 1746, 1887), (275, 1750, 1891), (276, 1754, 1895), (277, 1763, 138), (278, 1758, 1899), (279, 1771, 139), (280, 1766, 1907), (281, 1774, 1915), (282, 1778, 1919), (283, 1782, 1923), (287, 526, 667), (288, 536, 677), (289, 530, 671), (290, 540, 681)]
def iniT : List (Nat × Nat) := [(0, 303), (3, 90), (9, 30), (36, 96), (39, 324), (41, 36), (51, 226), (64, 218), (90, 22), (154, 1050)]
def mlk : Nat → List (Nat × Nat × Nat × Nat) := fun o => match o with
  | 0 => [(24, 36, 3, 308), (25, 38, 1, 801), (29, 286, 0, 802)]
  | 1 => [(36, 36, 3, 95), (54, 37, 1, 351), (60, 5, 1, 358), (64, 6, 1, 362)]
  | 2 => [(13, 41, 3, 35), (22, 42, 1, 499), (30, 4, 1, 582), (51, 11, 1, 583), (55, 18, 1, 587), (63, 12, 1, 599), (67, 14, 1, 595), (74, 15, 1, 603), (77, 16, 1, 639), (81, 13, 1, 651), (85, 29, 1, 591), (88, 19, 1, 631), (91, 20, 1, 655), (94, 24, 1, 663), (97, 26, 1, 681), (100, 27, 1, 685), (103, 28, 1, 689), (109, 21, 1, 635), (121, 17, 1, 659), (128, 22, 1, 643), (132, 23, 1, 647), (138, 8, 1, 667), (142, 284, 0, 671), (150, 25, 1, 677), (183, 31, 1, 607), (186, 30, 1, 627), (189, 6, 1, 619), (195, 34, 1, 611), (198, 32, 1, 615), (201, 33, 0, 620), (204, 35, 1, 623)]
  | 3 => [(24, 298, 0, 355)]
  | 5 => [(26, 43, 0, 503), (30, 46, 0, 506), (34, 47, 0, 515), (37, 50, 0, 574), (41, 285, 0, 579), (47, 44, 0, 509), (50, 45, 0, 512), (53, 48, 0, 518), (68, 49, 0, 521)]
  | 6 => [(40, 53, 1, 385), (58, 54, 1, 396), (62, 55, 1, 400), (65, 57, 1, 407), (68, 58, 1, 411), (79, 59, 1, 415), (82, 60, 1, 419), (86, 62, 1, 427), (95, 297, 0, 389), (101, 298, 0, 392), (104, 299, 0, 393), (119, 56, 0, 404), (129, 61, 1, 423), (136, 63, 0, 431)]
  | 7 => [(11, 36, 3, 222), (20, 51, 3, 225), (38, 52, 1, 381), (61, 76, 1, 731), (65, 79, 1, 743), (69, 75, 0, 755), (73, 77, 1, 778), (76, 286, 0, 758), (81, 285, 0, 751), (90, 67, 1, 735), (96, 78, 1, 739), (117, 7, 1, 747), (120, 80, 0, 752), (124, 71, 1, 874), (127, 81, 1, 870), (131, 86, 1, 826), (134, 87, 1, 831), (137, 65, 1, 843), (140, 72, 1, 830), (143, 88, 0, 835), (146, 74, 1, 842), (149, 89, 0, 838)]
  | 8 => [(22, 9, 3, 29), (29, 3, 3, 89), (39, 64, 3, 217), (49, 0, 2, 302), (66, 39, 3, 323), (80, 36, 3, 346), (81, 4, 1, 347), (84, 95, 1, 366), (87, 92, 1, 483), (91, 10, 1, 495), (106, 38, 1, 370), (110, 65, 1, 377), (117, 299, 0, 435), (123, 100, 1, 701), (141, 152, 0, 705), (145, 153, 0, 711), (148, 66, 1, 714), (152, 8, 1, 718), (155, 101, 1, 723), (167, 71, 1, 727), (170, 72, 1, 761), (182, 67, 1, 765), (185, 102, 1, 770), (197, 73, 1, 774), (200, 74, 1, 782), (212, 105, 0, 790), (216, 69, 1, 793), (219, 1, 1, 797), (222, 70, 1, 803), (228, 103, 0, 811), (238, 85, 1, 822), (245, 2, 1, 848), (260, 63, 0, 861), (263, 82, 1, 866), (271, 115, 1, 883), (274, 116, 1, 887), (277, 117, 1, 895), (280, 119, 1, 899), (283, 122, 1, 911), (287, 124, 1, 919), (290, 125, 1, 923), (293, 126, 1, 927), (296, 83, 1, 931), (300, 68, 1, 939), (303, 286, 0, 951), (309, 285, 0, 952), (312, 132, 1, 961), (315, 84, 1, 965), (318, 284, 0, 977), (323, 135, 1, 978), (327, 81, 1, 994), (339, 142, 1, 1007), (342, 40, 1, 1011), (346, 144, 1, 1019), (349, 148, 1, 1035), (352, 149, 1, 1039), (355, 150, 1, 1043), (358, 151, 0, 708)]
  | 9 => [(164, 171, 1, 1053), (168, 162, 0, 1057), (172, 201, 1, 1064), (175, 202, 1, 1112), (181, 156, 1, 1342), (189, 161, 0, 1060), (196, 158, 1, 1358), (200, 163, 1, 1362), (204, 160, 0, 1366), (208, 159, 0, 1369), (211, 165, 1, 1372), (230, 167, 1, 1388), (233, 166, 1, 1376), (236, 169, 1, 1392), (239, 164, 1, 1354), (260, 175, 1, 1380), (269, 174, 1, 1384), (273, 176, 1, 1396), (277, 177, 1, 1408), (280, 182, 1, 1412), (283, 183, 1, 1420), (286, 184, 1, 1436), (289, 181, 1, 1416), (293, 170, 1, 1400), (296, 185, 1, 1440), (299, 168, 1, 1404), (302, 178, 1, 1428), (305, 179, 1, 1424), (308, 180, 1, 1432), (311, 189, 1, 1444), (314, 186, 1, 1460), (320, 187, 1, 1452), (323, 190, 1, 1448), (326, 188, 1, 1456), (334, 192, 0, 1476), (344, 213, 1, 1068), (348, 204, 0, 1604), (351, 198, 1, 1076), (354, 199, 1, 1080), (357, 200, 1, 1084), (360, 208, 1, 1100), (363, 207, 1, 1088), (366, 209, 1, 1096), (376, 206, 1, 1072), (379, 210, 1, 1092), (382, 211, 1, 1104), (385, 212, 1, 1108), (389, 214, 0, 1491), (395, 217, 1, 1502), (399, 191, 1, 1531), (402, 218, 1, 1519), (405, 221, 1, 1523), (408, 219, 1, 1506), (411, 222, 1, 1515), (414, 220, 1, 1527), (417, 193, 0, 1535), (420, 223, 1, 1511), (423, 227, 1, 1637), (426, 229, 1, 1565), (429, 224, 1, 1538), (432, 205, 1, 1600), (435, 226, 1, 1554), (438, 232, 1, 1596), (441, 195, 1, 1472), (444, 203, 1, 1479), (447, 216, 1, 1483), (450, 215, 1, 1487), (454, 196, 1, 1498), (457, 197, 1, 1546), (460, 225, 1, 1550), (463, 238, 0, 1562), (467, 230, 1, 1569), (470, 237, 1, 1573), (473, 242, 0, 1589), (476, 233, 1, 1592), (481, 245, 1, 1616), (485, 246, 1, 1620), (488, 228, 1, 1633), (498, 253, 1, 1662), (501, 254, 1, 1666), (504, 255, 1, 1658), (507, 256, 1, 1670), (510, 231, 1, 1678), (513, 258, 1, 1682), (517, 261, 1, 1694), (521, 263, 1, 1706), (524, 264, 1, 1710), (527, 265, 1, 1702), (530, 194, 0, 1734), (533, 277, 1, 1761), (536, 279, 1, 1769)]
  | 12 => [(335, 289, 1, 529), (492, 290, 1, 539), (495, 292, 0, 543), (498, 295, 0, 554), (1059, 300, 0, 551)]
  | 13 => [(9, 291, 0, 546)]
  | 14 => [(48, 294, 0, 560), (67, 296, 0, 557), (71, 293, 0, 564), (414, 291, 0, 563)]
  | 17 => [(9, 90, 2, 21), (12, 154, 2, 1049), (13, 91, 1, 479), (17, 155, 1, 1338), (18, 93, 1, 487), (22, 157, 1, 1346), (23, 94, 1, 491), (27, 172, 1, 1350), (28, 96, 1, 693), (31, 173, 1, 1464), (32, 97, 1, 697), (36, 234, 1, 1468), (37, 98, 1, 719), (40, 235, 1, 1494), (41, 99, 1, 766), (44, 236, 1, 1542), (45, 104, 1, 786), (49, 239, 1, 1558), (50, 106, 1, 807), (54, 240, 1, 1577), (55, 107, 1, 814), (59, 241, 1, 1581), (60, 108, 1, 818), (63, 243, 1, 1585), (64, 109, 1, 844), (68, 244, 1, 1608), (69, 110, 1, 852), (72, 247, 1, 1612), (73, 111, 1, 857), (76, 248, 1, 1625), (77, 112, 1, 862), (80, 249, 1, 1629), (81, 113, 1, 875), (84, 250, 1, 1641), (85, 114, 1, 879), (89, 257, 1, 1654), (90, 118, 1, 891), (93, 259, 1, 1674), (94, 120, 1, 903), (97, 260, 1, 1686), (98, 121, 1, 907), (101, 262, 1, 1690), (102, 123, 1, 915), (105, 266, 1, 1698), (106, 127, 1, 935), (109, 267, 1, 1714), (110, 128, 1, 943), (113, 268, 1, 1718), (114, 129, 1, 947), (117, 251, 1, 1645), (118, 130, 1, 953), (121, 252, 1, 1650), (122, 131, 1, 957), (125, 269, 1, 1722), (126, 133, 1, 969), (129, 270, 1, 1726), (130, 134, 1, 973), (133, 271, 1, 1730), (134, 136, 1, 982), (137, 272, 1, 1737), (138, 137, 1, 986), (141, 273, 1, 1741), (142, 138, 1, 990), (146, 274, 1, 1745), (147, 139, 1, 995), (151, 275, 1, 1749), (152, 140, 1, 999), (155, 276, 1, 1753), (156, 141, 1, 1003), (159, 278, 1, 1757), (160, 143, 1, 1015), (163, 280, 1, 1765), (164, 145, 1, 1023), (167, 281, 1, 1773), (168, 146, 1, 1027), (171, 282, 1, 1777), (172, 147, 1, 1031), (175, 283, 1, 1781)]
  | _ => []
def olk : Nat → List (Nat × Nat) := fun o => match o with
  | 0 => [(3, 305)]
  | 1 => [(5, 92)]
  | 2 => [(5, 32)]
  | 3 => [(3, 98)]
  | 4 => [(3, 326)]
  | 5 => [(3, 38)]
  | 6 => [(3, 228)]
  | 7 => [(3, 220)]
  | 8 => [(1, 24)]
  | 9 => [(7, 1052)]
  | _ => []
def alk : Nat → List (Nat × Nat) := fun o => match o with
  | 3 => [(40, 374)]
  | _ => []
def slk : Nat → List (Nat × Nat × Nat) := fun o => match o with
  | 5 => [(58, 6, 525), (64, 7, 535)]
  | _ => []
def clk : Nat → List (Nat × Nat × Nat) := fun o => match o with
  | 0 => [(9, 3, 306)]
  | 1 => [(34, 3, 93)]
  | 2 => [(11, 5, 33)]
  | 7 => [(9, 3, 221), (18, 6, 223)]
  | 8 => [(20, 2, 27), (27, 1, 87), (37, 7, 215), (47, 0, 300), (54, 3, 320), (64, 4, 321)]
  | 17 => [(7, 8, 19), (10, 9, 1047)]
  | _ => []
def clkM : Nat → List (Nat × Nat × Nat) := fun o => match o with
  | 6 => [(35, 11, 229)]
  | 8 => [(71, 10, 344)]
  | _ => []
def cik : Nat → List (Nat × Nat × Nat) := fun o => match o with
  | 7 => [(152, 1103515245, 841)]
  | 9 => [(347, 1103515245, 1607), (491, 999999, 1649)]
  | 10 => [(265, 1431655765, 674), (266, 858993459, 675), (267, 252645135, 676)]
  | _ => []
def clg : Nat → List (Nat × Nat × Nat) := fun o => match o with
  | 5 => [(74, 10, 577), (76, 27, 578)]
  | 6 => [(140, 100, 434)]
  | 8 => [(255, 4, 856)]
  | 9 => [(187, 27, 1063), (393, 100, 1510), (479, 4, 1624)]
  | _ => []
theorem init_ok : ∀ e ∈ codeT, tables_1[e.2.2]? = some (.initialized (mY e.1).cls) := by decide +kernel
set_option maxRecDepth 100000 in
theorem cw_0 : tables_1[304]? = some (.code (mY 0) (mB 0) (mLoc 0) (mRet 0)) := rfl
set_option maxRecDepth 100000 in
theorem cw_1 : tables_1[800]? = some (.code (mY 1) (mB 1) (mLoc 1) (mRet 1)) := rfl
set_option maxRecDepth 100000 in
theorem cw_2 : tables_1[851]? = some (.code (mY 2) (mB 2) (mLoc 2) (mRet 2)) := rfl
set_option maxRecDepth 100000 in
theorem cw_3 : tables_1[91]? = some (.code (mY 3) (mB 3) (mLoc 3) (mRet 3)) := rfl
set_option maxRecDepth 100000 in
theorem cw_4 : tables_1[350]? = some (.code (mY 4) (mB 4) (mLoc 4) (mRet 4)) := rfl
set_option maxRecDepth 100000 in
theorem cw_5 : tables_1[361]? = some (.code (mY 5) (mB 5) (mLoc 5) (mRet 5)) := rfl
set_option maxRecDepth 100000 in
theorem cw_6 : tables_1[365]? = some (.code (mY 6) (mB 6) (mLoc 6) (mRet 6)) := rfl
set_option maxRecDepth 100000 in
theorem cw_7 : tables_1[750]? = some (.code (mY 7) (mB 7) (mLoc 7) (mRet 7)) := rfl
set_option maxRecDepth 100000 in
theorem cw_8 : tables_1[670]? = some (.code (mY 8) (mB 8) (mLoc 8) (mRet 8)) := rfl
set_option maxRecDepth 100000 in
theorem cw_9 : tables_1[31]? = some (.code (mY 9) (mB 9) (mLoc 9) (mRet 9)) := rfl
set_option maxRecDepth 100000 in
theorem cw_10 : tables_1[498]? = some (.code (mY 10) (mB 10) (mLoc 10) (mRet 10)) := rfl
set_option maxRecDepth 100000 in
theorem cw_11 : tables_1[586]? = some (.code (mY 11) (mB 11) (mLoc 11) (mRet 11)) := rfl
set_option maxRecDepth 100000 in
theorem cw_12 : tables_1[602]? = some (.code (mY 12) (mB 12) (mLoc 12) (mRet 12)) := rfl
set_option maxRecDepth 100000 in
theorem cw_13 : tables_1[654]? = some (.code (mY 13) (mB 13) (mLoc 13) (mRet 13)) := rfl
set_option maxRecDepth 100000 in
theorem cw_14 : tables_1[598]? = some (.code (mY 14) (mB 14) (mLoc 14) (mRet 14)) := rfl
set_option maxRecDepth 100000 in
theorem cw_15 : tables_1[606]? = some (.code (mY 15) (mB 15) (mLoc 15) (mRet 15)) := rfl
set_option maxRecDepth 100000 in
theorem cw_16 : tables_1[642]? = some (.code (mY 16) (mB 16) (mLoc 16) (mRet 16)) := rfl
set_option maxRecDepth 100000 in
theorem cw_17 : tables_1[662]? = some (.code (mY 17) (mB 17) (mLoc 17) (mRet 17)) := rfl
set_option maxRecDepth 100000 in
theorem cw_18 : tables_1[590]? = some (.code (mY 18) (mB 18) (mLoc 18) (mRet 18)) := rfl
set_option maxRecDepth 100000 in
theorem cw_19 : tables_1[634]? = some (.code (mY 19) (mB 19) (mLoc 19) (mRet 19)) := rfl
set_option maxRecDepth 100000 in
theorem cw_20 : tables_1[658]? = some (.code (mY 20) (mB 20) (mLoc 20) (mRet 20)) := rfl
set_option maxRecDepth 100000 in
theorem cw_21 : tables_1[638]? = some (.code (mY 21) (mB 21) (mLoc 21) (mRet 21)) := rfl
set_option maxRecDepth 100000 in
theorem cw_22 : tables_1[646]? = some (.code (mY 22) (mB 22) (mLoc 22) (mRet 22)) := rfl
set_option maxRecDepth 100000 in
theorem cw_23 : tables_1[650]? = some (.code (mY 23) (mB 23) (mLoc 23) (mRet 23)) := rfl
set_option maxRecDepth 100000 in
theorem cw_24 : tables_1[666]? = some (.code (mY 24) (mB 24) (mLoc 24) (mRet 24)) := rfl
set_option maxRecDepth 100000 in
theorem cw_25 : tables_1[680]? = some (.code (mY 25) (mB 25) (mLoc 25) (mRet 25)) := rfl
set_option maxRecDepth 100000 in
theorem cw_26 : tables_1[684]? = some (.code (mY 26) (mB 26) (mLoc 26) (mRet 26)) := rfl
set_option maxRecDepth 100000 in
theorem cw_27 : tables_1[688]? = some (.code (mY 27) (mB 27) (mLoc 27) (mRet 27)) := rfl
set_option maxRecDepth 100000 in
theorem cw_28 : tables_1[692]? = some (.code (mY 28) (mB 28) (mLoc 28) (mRet 28)) := rfl
set_option maxRecDepth 100000 in
theorem cw_29 : tables_1[594]? = some (.code (mY 29) (mB 29) (mLoc 29) (mRet 29)) := rfl
set_option maxRecDepth 100000 in
theorem cw_30 : tables_1[630]? = some (.code (mY 30) (mB 30) (mLoc 30) (mRet 30)) := rfl
set_option maxRecDepth 100000 in
theorem cw_31 : tables_1[610]? = some (.code (mY 31) (mB 31) (mLoc 31) (mRet 31)) := rfl
set_option maxRecDepth 100000 in
theorem cw_32 : tables_1[618]? = some (.code (mY 32) (mB 32) (mLoc 32) (mRet 32)) := rfl
set_option maxRecDepth 100000 in
theorem cw_33 : tables_1[622]? = some (.code (mY 33) (mB 33) (mLoc 33) (mRet 33)) := rfl
set_option maxRecDepth 100000 in
theorem cw_34 : tables_1[614]? = some (.code (mY 34) (mB 34) (mLoc 34) (mRet 34)) := rfl
set_option maxRecDepth 100000 in
theorem cw_35 : tables_1[626]? = some (.code (mY 35) (mB 35) (mLoc 35) (mRet 35)) := rfl
set_option maxRecDepth 100000 in
theorem cw_36 : tables_1[97]? = some (.code (mY 36) (mB 36) (mLoc 36) (mRet 36)) := rfl
set_option maxRecDepth 100000 in
theorem cw_37 : tables_1[354]? = some (.code (mY 37) (mB 37) (mLoc 37) (mRet 37)) := rfl
set_option maxRecDepth 100000 in
theorem cw_38 : tables_1[373]? = some (.code (mY 38) (mB 38) (mLoc 38) (mRet 38)) := rfl
set_option maxRecDepth 100000 in
theorem cw_39 : tables_1[325]? = some (.code (mY 39) (mB 39) (mLoc 39) (mRet 39)) := rfl
set_option maxRecDepth 100000 in
theorem cw_40 : tables_1[1014]? = some (.code (mY 40) (mB 40) (mLoc 40) (mRet 40)) := rfl
set_option maxRecDepth 100000 in
theorem cw_41 : tables_1[37]? = some (.code (mY 41) (mB 41) (mLoc 41) (mRet 41)) := rfl
set_option maxRecDepth 100000 in
theorem cw_42 : tables_1[502]? = some (.code (mY 42) (mB 42) (mLoc 42) (mRet 42)) := rfl
set_option maxRecDepth 100000 in
theorem cw_43 : tables_1[505]? = some (.code (mY 43) (mB 43) (mLoc 43) (mRet 43)) := rfl
set_option maxRecDepth 100000 in
theorem cw_44 : tables_1[511]? = some (.code (mY 44) (mB 44) (mLoc 44) (mRet 44)) := rfl
set_option maxRecDepth 100000 in
theorem cw_45 : tables_1[514]? = some (.code (mY 45) (mB 45) (mLoc 45) (mRet 45)) := rfl
set_option maxRecDepth 100000 in
theorem cw_46 : tables_1[508]? = some (.code (mY 46) (mB 46) (mLoc 46) (mRet 46)) := rfl
set_option maxRecDepth 100000 in
theorem cw_47 : tables_1[517]? = some (.code (mY 47) (mB 47) (mLoc 47) (mRet 47)) := rfl
set_option maxRecDepth 100000 in
theorem cw_48 : tables_1[520]? = some (.code (mY 48) (mB 48) (mLoc 48) (mRet 48)) := rfl
set_option maxRecDepth 100000 in
theorem cw_49 : tables_1[523]? = some (.code (mY 49) (mB 49) (mLoc 49) (mRet 49)) := rfl
set_option maxRecDepth 100000 in
theorem cw_50 : tables_1[576]? = some (.code (mY 50) (mB 50) (mLoc 50) (mRet 50)) := rfl
set_option maxRecDepth 100000 in
theorem cw_51 : tables_1[227]? = some (.code (mY 51) (mB 51) (mLoc 51) (mRet 51)) := rfl
set_option maxRecDepth 100000 in
theorem cw_52 : tables_1[384]? = some (.code (mY 52) (mB 52) (mLoc 52) (mRet 52)) := rfl
set_option maxRecDepth 100000 in
theorem cw_53 : tables_1[388]? = some (.code (mY 53) (mB 53) (mLoc 53) (mRet 53)) := rfl
set_option maxRecDepth 100000 in
theorem cw_54 : tables_1[399]? = some (.code (mY 54) (mB 54) (mLoc 54) (mRet 54)) := rfl
set_option maxRecDepth 100000 in
theorem cw_55 : tables_1[403]? = some (.code (mY 55) (mB 55) (mLoc 55) (mRet 55)) := rfl
set_option maxRecDepth 100000 in
theorem cw_56 : tables_1[406]? = some (.code (mY 56) (mB 56) (mLoc 56) (mRet 56)) := rfl
set_option maxRecDepth 100000 in
theorem cw_57 : tables_1[410]? = some (.code (mY 57) (mB 57) (mLoc 57) (mRet 57)) := rfl
set_option maxRecDepth 100000 in
theorem cw_58 : tables_1[414]? = some (.code (mY 58) (mB 58) (mLoc 58) (mRet 58)) := rfl
set_option maxRecDepth 100000 in
theorem cw_59 : tables_1[418]? = some (.code (mY 59) (mB 59) (mLoc 59) (mRet 59)) := rfl
set_option maxRecDepth 100000 in
theorem cw_60 : tables_1[422]? = some (.code (mY 60) (mB 60) (mLoc 60) (mRet 60)) := rfl
set_option maxRecDepth 100000 in
theorem cw_61 : tables_1[426]? = some (.code (mY 61) (mB 61) (mLoc 61) (mRet 61)) := rfl
set_option maxRecDepth 100000 in
theorem cw_62 : tables_1[430]? = some (.code (mY 62) (mB 62) (mLoc 62) (mRet 62)) := rfl
set_option maxRecDepth 100000 in
theorem cw_63 : tables_1[433]? = some (.code (mY 63) (mB 63) (mLoc 63) (mRet 63)) := rfl
set_option maxRecDepth 100000 in
theorem cw_64 : tables_1[219]? = some (.code (mY 64) (mB 64) (mLoc 64) (mRet 64)) := rfl
set_option maxRecDepth 100000 in
theorem cw_65 : tables_1[380]? = some (.code (mY 65) (mB 65) (mLoc 65) (mRet 65)) := rfl
set_option maxRecDepth 100000 in
theorem cw_66 : tables_1[717]? = some (.code (mY 66) (mB 66) (mLoc 66) (mRet 66)) := rfl
set_option maxRecDepth 100000 in
theorem cw_67 : tables_1[738]? = some (.code (mY 67) (mB 67) (mLoc 67) (mRet 67)) := rfl
set_option maxRecDepth 100000 in
theorem cw_68 : tables_1[942]? = some (.code (mY 68) (mB 68) (mLoc 68) (mRet 68)) := rfl
set_option maxRecDepth 100000 in
theorem cw_69 : tables_1[796]? = some (.code (mY 69) (mB 69) (mLoc 69) (mRet 69)) := rfl
set_option maxRecDepth 100000 in
theorem cw_70 : tables_1[806]? = some (.code (mY 70) (mB 70) (mLoc 70) (mRet 70)) := rfl
set_option maxRecDepth 100000 in
theorem cw_71 : tables_1[730]? = some (.code (mY 71) (mB 71) (mLoc 71) (mRet 71)) := rfl
set_option maxRecDepth 100000 in
theorem cw_72 : tables_1[764]? = some (.code (mY 72) (mB 72) (mLoc 72) (mRet 72)) := rfl
set_option maxRecDepth 100000 in
theorem cw_73 : tables_1[777]? = some (.code (mY 73) (mB 73) (mLoc 73) (mRet 73)) := rfl
set_option maxRecDepth 100000 in
theorem cw_74 : tables_1[785]? = some (.code (mY 74) (mB 74) (mLoc 74) (mRet 74)) := rfl
set_option maxRecDepth 100000 in
theorem cw_75 : tables_1[757]? = some (.code (mY 75) (mB 75) (mLoc 75) (mRet 75)) := rfl
set_option maxRecDepth 100000 in
theorem cw_76 : tables_1[734]? = some (.code (mY 76) (mB 76) (mLoc 76) (mRet 76)) := rfl
set_option maxRecDepth 100000 in
theorem cw_77 : tables_1[781]? = some (.code (mY 77) (mB 77) (mLoc 77) (mRet 77)) := rfl
set_option maxRecDepth 100000 in
theorem cw_78 : tables_1[742]? = some (.code (mY 78) (mB 78) (mLoc 78) (mRet 78)) := rfl
set_option maxRecDepth 100000 in
theorem cw_79 : tables_1[746]? = some (.code (mY 79) (mB 79) (mLoc 79) (mRet 79)) := rfl
set_option maxRecDepth 100000 in
theorem cw_80 : tables_1[754]? = some (.code (mY 80) (mB 80) (mLoc 80) (mRet 80)) := rfl
set_option maxRecDepth 100000 in
theorem cw_81 : tables_1[873]? = some (.code (mY 81) (mB 81) (mLoc 81) (mRet 81)) := rfl
set_option maxRecDepth 100000 in
theorem cw_82 : tables_1[869]? = some (.code (mY 82) (mB 82) (mLoc 82) (mRet 82)) := rfl
set_option maxRecDepth 100000 in
theorem cw_83 : tables_1[934]? = some (.code (mY 83) (mB 83) (mLoc 83) (mRet 83)) := rfl
set_option maxRecDepth 100000 in
theorem cw_84 : tables_1[968]? = some (.code (mY 84) (mB 84) (mLoc 84) (mRet 84)) := rfl
set_option maxRecDepth 100000 in
theorem cw_85 : tables_1[825]? = some (.code (mY 85) (mB 85) (mLoc 85) (mRet 85)) := rfl
set_option maxRecDepth 100000 in
theorem cw_86 : tables_1[829]? = some (.code (mY 86) (mB 86) (mLoc 86) (mRet 86)) := rfl
set_option maxRecDepth 100000 in
theorem cw_87 : tables_1[834]? = some (.code (mY 87) (mB 87) (mLoc 87) (mRet 87)) := rfl
set_option maxRecDepth 100000 in
theorem cw_88 : tables_1[837]? = some (.code (mY 88) (mB 88) (mLoc 88) (mRet 88)) := rfl
set_option maxRecDepth 100000 in
theorem cw_89 : tables_1[840]? = some (.code (mY 89) (mB 89) (mLoc 89) (mRet 89)) := rfl
set_option maxRecDepth 100000 in
theorem cw_90 : tables_1[23]? = some (.code (mY 90) (mB 90) (mLoc 90) (mRet 90)) := rfl
set_option maxRecDepth 100000 in
theorem cw_91 : tables_1[482]? = some (.code (mY 91) (mB 91) (mLoc 91) (mRet 91)) := rfl
set_option maxRecDepth 100000 in
theorem cw_92 : tables_1[486]? = some (.code (mY 92) (mB 92) (mLoc 92) (mRet 92)) := rfl
set_option maxRecDepth 100000 in
theorem cw_93 : tables_1[490]? = some (.code (mY 93) (mB 93) (mLoc 93) (mRet 93)) := rfl
set_option maxRecDepth 100000 in
theorem cw_94 : tables_1[494]? = some (.code (mY 94) (mB 94) (mLoc 94) (mRet 94)) := rfl
set_option maxRecDepth 100000 in
theorem cw_95 : tables_1[369]? = some (.code (mY 95) (mB 95) (mLoc 95) (mRet 95)) := rfl
set_option maxRecDepth 100000 in
theorem cw_96 : tables_1[696]? = some (.code (mY 96) (mB 96) (mLoc 96) (mRet 96)) := rfl
set_option maxRecDepth 100000 in
theorem cw_97 : tables_1[700]? = some (.code (mY 97) (mB 97) (mLoc 97) (mRet 97)) := rfl
set_option maxRecDepth 100000 in
theorem cw_98 : tables_1[722]? = some (.code (mY 98) (mB 98) (mLoc 98) (mRet 98)) := rfl
set_option maxRecDepth 100000 in
theorem cw_99 : tables_1[769]? = some (.code (mY 99) (mB 99) (mLoc 99) (mRet 99)) := rfl
set_option maxRecDepth 100000 in
theorem cw_100 : tables_1[704]? = some (.code (mY 100) (mB 100) (mLoc 100) (mRet 100)) := rfl
set_option maxRecDepth 100000 in
theorem cw_101 : tables_1[726]? = some (.code (mY 101) (mB 101) (mLoc 101) (mRet 101)) := rfl
set_option maxRecDepth 100000 in
theorem cw_102 : tables_1[773]? = some (.code (mY 102) (mB 102) (mLoc 102) (mRet 102)) := rfl
set_option maxRecDepth 100000 in
theorem cw_103 : tables_1[813]? = some (.code (mY 103) (mB 103) (mLoc 103) (mRet 103)) := rfl
set_option maxRecDepth 100000 in
theorem cw_104 : tables_1[789]? = some (.code (mY 104) (mB 104) (mLoc 104) (mRet 104)) := rfl
set_option maxRecDepth 100000 in
theorem cw_105 : tables_1[792]? = some (.code (mY 105) (mB 105) (mLoc 105) (mRet 105)) := rfl
set_option maxRecDepth 100000 in
theorem cw_106 : tables_1[810]? = some (.code (mY 106) (mB 106) (mLoc 106) (mRet 106)) := rfl
set_option maxRecDepth 100000 in
theorem cw_107 : tables_1[817]? = some (.code (mY 107) (mB 107) (mLoc 107) (mRet 107)) := rfl
set_option maxRecDepth 100000 in
theorem cw_108 : tables_1[821]? = some (.code (mY 108) (mB 108) (mLoc 108) (mRet 108)) := rfl
set_option maxRecDepth 100000 in
theorem cw_109 : tables_1[847]? = some (.code (mY 109) (mB 109) (mLoc 109) (mRet 109)) := rfl
set_option maxRecDepth 100000 in
theorem cw_110 : tables_1[855]? = some (.code (mY 110) (mB 110) (mLoc 110) (mRet 110)) := rfl
set_option maxRecDepth 100000 in
theorem cw_111 : tables_1[860]? = some (.code (mY 111) (mB 111) (mLoc 111) (mRet 111)) := rfl
set_option maxRecDepth 100000 in
theorem cw_112 : tables_1[865]? = some (.code (mY 112) (mB 112) (mLoc 112) (mRet 112)) := rfl
set_option maxRecDepth 100000 in
theorem cw_113 : tables_1[878]? = some (.code (mY 113) (mB 113) (mLoc 113) (mRet 113)) := rfl
set_option maxRecDepth 100000 in
theorem cw_114 : tables_1[882]? = some (.code (mY 114) (mB 114) (mLoc 114) (mRet 114)) := rfl
set_option maxRecDepth 100000 in
theorem cw_115 : tables_1[886]? = some (.code (mY 115) (mB 115) (mLoc 115) (mRet 115)) := rfl
set_option maxRecDepth 100000 in
theorem cw_116 : tables_1[890]? = some (.code (mY 116) (mB 116) (mLoc 116) (mRet 116)) := rfl
set_option maxRecDepth 100000 in
theorem cw_117 : tables_1[898]? = some (.code (mY 117) (mB 117) (mLoc 117) (mRet 117)) := rfl
set_option maxRecDepth 100000 in
theorem cw_118 : tables_1[894]? = some (.code (mY 118) (mB 118) (mLoc 118) (mRet 118)) := rfl
set_option maxRecDepth 100000 in
theorem cw_119 : tables_1[902]? = some (.code (mY 119) (mB 119) (mLoc 119) (mRet 119)) := rfl
set_option maxRecDepth 100000 in
theorem cw_120 : tables_1[906]? = some (.code (mY 120) (mB 120) (mLoc 120) (mRet 120)) := rfl
set_option maxRecDepth 100000 in
theorem cw_121 : tables_1[910]? = some (.code (mY 121) (mB 121) (mLoc 121) (mRet 121)) := rfl
set_option maxRecDepth 100000 in
theorem cw_122 : tables_1[914]? = some (.code (mY 122) (mB 122) (mLoc 122) (mRet 122)) := rfl
set_option maxRecDepth 100000 in
theorem cw_123 : tables_1[918]? = some (.code (mY 123) (mB 123) (mLoc 123) (mRet 123)) := rfl
set_option maxRecDepth 100000 in
theorem cw_124 : tables_1[922]? = some (.code (mY 124) (mB 124) (mLoc 124) (mRet 124)) := rfl
set_option maxRecDepth 100000 in
theorem cw_125 : tables_1[926]? = some (.code (mY 125) (mB 125) (mLoc 125) (mRet 125)) := rfl
set_option maxRecDepth 100000 in
theorem cw_126 : tables_1[930]? = some (.code (mY 126) (mB 126) (mLoc 126) (mRet 126)) := rfl
set_option maxRecDepth 100000 in
theorem cw_127 : tables_1[938]? = some (.code (mY 127) (mB 127) (mLoc 127) (mRet 127)) := rfl
set_option maxRecDepth 100000 in
theorem cw_128 : tables_1[946]? = some (.code (mY 128) (mB 128) (mLoc 128) (mRet 128)) := rfl
set_option maxRecDepth 100000 in
theorem cw_129 : tables_1[950]? = some (.code (mY 129) (mB 129) (mLoc 129) (mRet 129)) := rfl
set_option maxRecDepth 100000 in
theorem cw_130 : tables_1[956]? = some (.code (mY 130) (mB 130) (mLoc 130) (mRet 130)) := rfl
set_option maxRecDepth 100000 in
theorem cw_131 : tables_1[960]? = some (.code (mY 131) (mB 131) (mLoc 131) (mRet 131)) := rfl
set_option maxRecDepth 100000 in
theorem cw_132 : tables_1[964]? = some (.code (mY 132) (mB 132) (mLoc 132) (mRet 132)) := rfl
set_option maxRecDepth 100000 in
theorem cw_133 : tables_1[972]? = some (.code (mY 133) (mB 133) (mLoc 133) (mRet 133)) := rfl
set_option maxRecDepth 100000 in
theorem cw_134 : tables_1[976]? = some (.code (mY 134) (mB 134) (mLoc 134) (mRet 134)) := rfl
set_option maxRecDepth 100000 in
theorem cw_135 : tables_1[981]? = some (.code (mY 135) (mB 135) (mLoc 135) (mRet 135)) := rfl
set_option maxRecDepth 100000 in
theorem cw_136 : tables_1[985]? = some (.code (mY 136) (mB 136) (mLoc 136) (mRet 136)) := rfl
set_option maxRecDepth 100000 in
theorem cw_137 : tables_1[989]? = some (.code (mY 137) (mB 137) (mLoc 137) (mRet 137)) := rfl
set_option maxRecDepth 100000 in
theorem cw_138 : tables_1[993]? = some (.code (mY 138) (mB 138) (mLoc 138) (mRet 138)) := rfl
set_option maxRecDepth 100000 in
theorem cw_139 : tables_1[998]? = some (.code (mY 139) (mB 139) (mLoc 139) (mRet 139)) := rfl
set_option maxRecDepth 100000 in
theorem cw_140 : tables_1[1002]? = some (.code (mY 140) (mB 140) (mLoc 140) (mRet 140)) := rfl
set_option maxRecDepth 100000 in
theorem cw_141 : tables_1[1006]? = some (.code (mY 141) (mB 141) (mLoc 141) (mRet 141)) := rfl
set_option maxRecDepth 100000 in
theorem cw_142 : tables_1[1010]? = some (.code (mY 142) (mB 142) (mLoc 142) (mRet 142)) := rfl
set_option maxRecDepth 100000 in
theorem cw_143 : tables_1[1018]? = some (.code (mY 143) (mB 143) (mLoc 143) (mRet 143)) := rfl
set_option maxRecDepth 100000 in
theorem cw_144 : tables_1[1022]? = some (.code (mY 144) (mB 144) (mLoc 144) (mRet 144)) := rfl
set_option maxRecDepth 100000 in
theorem cw_145 : tables_1[1026]? = some (.code (mY 145) (mB 145) (mLoc 145) (mRet 145)) := rfl
set_option maxRecDepth 100000 in
theorem cw_146 : tables_1[1030]? = some (.code (mY 146) (mB 146) (mLoc 146) (mRet 146)) := rfl
set_option maxRecDepth 100000 in
theorem cw_147 : tables_1[1034]? = some (.code (mY 147) (mB 147) (mLoc 147) (mRet 147)) := rfl
set_option maxRecDepth 100000 in
theorem cw_148 : tables_1[1038]? = some (.code (mY 148) (mB 148) (mLoc 148) (mRet 148)) := rfl
set_option maxRecDepth 100000 in
theorem cw_149 : tables_1[1042]? = some (.code (mY 149) (mB 149) (mLoc 149) (mRet 149)) := rfl
set_option maxRecDepth 100000 in
theorem cw_150 : tables_1[1046]? = some (.code (mY 150) (mB 150) (mLoc 150) (mRet 150)) := rfl
set_option maxRecDepth 100000 in
theorem cw_151 : tables_1[710]? = some (.code (mY 151) (mB 151) (mLoc 151) (mRet 151)) := rfl
set_option maxRecDepth 100000 in
theorem cw_152 : tables_1[707]? = some (.code (mY 152) (mB 152) (mLoc 152) (mRet 152)) := rfl
set_option maxRecDepth 100000 in
theorem cw_153 : tables_1[713]? = some (.code (mY 153) (mB 153) (mLoc 153) (mRet 153)) := rfl
set_option maxRecDepth 100000 in
theorem cw_154 : tables_1[1051]? = some (.code (mY 154) (mB 154) (mLoc 154) (mRet 154)) := rfl
set_option maxRecDepth 100000 in
theorem cw_155 : tables_1[1341]? = some (.code (mY 155) (mB 155) (mLoc 155) (mRet 155)) := rfl
set_option maxRecDepth 100000 in
theorem cw_156 : tables_1[1345]? = some (.code (mY 156) (mB 156) (mLoc 156) (mRet 156)) := rfl
set_option maxRecDepth 100000 in
theorem cw_157 : tables_1[1349]? = some (.code (mY 157) (mB 157) (mLoc 157) (mRet 157)) := rfl
set_option maxRecDepth 100000 in
theorem cw_158 : tables_1[1361]? = some (.code (mY 158) (mB 158) (mLoc 158) (mRet 158)) := rfl
set_option maxRecDepth 100000 in
theorem cw_159 : tables_1[1371]? = some (.code (mY 159) (mB 159) (mLoc 159) (mRet 159)) := rfl
set_option maxRecDepth 100000 in
theorem cw_160 : tables_1[1368]? = some (.code (mY 160) (mB 160) (mLoc 160) (mRet 160)) := rfl
set_option maxRecDepth 100000 in
theorem cw_161 : tables_1[1062]? = some (.code (mY 161) (mB 161) (mLoc 161) (mRet 161)) := rfl
set_option maxRecDepth 100000 in
theorem cw_162 : tables_1[1059]? = some (.code (mY 162) (mB 162) (mLoc 162) (mRet 162)) := rfl
set_option maxRecDepth 100000 in
theorem cw_163 : tables_1[1365]? = some (.code (mY 163) (mB 163) (mLoc 163) (mRet 163)) := rfl
set_option maxRecDepth 100000 in
theorem cw_164 : tables_1[1357]? = some (.code (mY 164) (mB 164) (mLoc 164) (mRet 164)) := rfl
set_option maxRecDepth 100000 in
theorem cw_165 : tables_1[1375]? = some (.code (mY 165) (mB 165) (mLoc 165) (mRet 165)) := rfl
set_option maxRecDepth 100000 in
theorem cw_166 : tables_1[1379]? = some (.code (mY 166) (mB 166) (mLoc 166) (mRet 166)) := rfl
set_option maxRecDepth 100000 in
theorem cw_167 : tables_1[1391]? = some (.code (mY 167) (mB 167) (mLoc 167) (mRet 167)) := rfl
set_option maxRecDepth 100000 in
theorem cw_168 : tables_1[1407]? = some (.code (mY 168) (mB 168) (mLoc 168) (mRet 168)) := rfl
set_option maxRecDepth 100000 in
theorem cw_169 : tables_1[1395]? = some (.code (mY 169) (mB 169) (mLoc 169) (mRet 169)) := rfl
set_option maxRecDepth 100000 in
theorem cw_170 : tables_1[1403]? = some (.code (mY 170) (mB 170) (mLoc 170) (mRet 170)) := rfl
set_option maxRecDepth 100000 in
theorem cw_171 : tables_1[1056]? = some (.code (mY 171) (mB 171) (mLoc 171) (mRet 171)) := rfl
set_option maxRecDepth 100000 in
theorem cw_172 : tables_1[1353]? = some (.code (mY 172) (mB 172) (mLoc 172) (mRet 172)) := rfl
set_option maxRecDepth 100000 in
theorem cw_173 : tables_1[1467]? = some (.code (mY 173) (mB 173) (mLoc 173) (mRet 173)) := rfl
set_option maxRecDepth 100000 in
theorem cw_174 : tables_1[1387]? = some (.code (mY 174) (mB 174) (mLoc 174) (mRet 174)) := rfl
set_option maxRecDepth 100000 in
theorem cw_175 : tables_1[1383]? = some (.code (mY 175) (mB 175) (mLoc 175) (mRet 175)) := rfl
set_option maxRecDepth 100000 in
theorem cw_176 : tables_1[1399]? = some (.code (mY 176) (mB 176) (mLoc 176) (mRet 176)) := rfl
set_option maxRecDepth 100000 in
theorem cw_177 : tables_1[1411]? = some (.code (mY 177) (mB 177) (mLoc 177) (mRet 177)) := rfl
set_option maxRecDepth 100000 in
theorem cw_178 : tables_1[1431]? = some (.code (mY 178) (mB 178) (mLoc 178) (mRet 178)) := rfl
set_option maxRecDepth 100000 in
theorem cw_179 : tables_1[1427]? = some (.code (mY 179) (mB 179) (mLoc 179) (mRet 179)) := rfl
set_option maxRecDepth 100000 in
theorem cw_180 : tables_1[1435]? = some (.code (mY 180) (mB 180) (mLoc 180) (mRet 180)) := rfl
set_option maxRecDepth 100000 in
theorem cw_181 : tables_1[1419]? = some (.code (mY 181) (mB 181) (mLoc 181) (mRet 181)) := rfl
set_option maxRecDepth 100000 in
theorem cw_182 : tables_1[1415]? = some (.code (mY 182) (mB 182) (mLoc 182) (mRet 182)) := rfl
set_option maxRecDepth 100000 in
theorem cw_183 : tables_1[1423]? = some (.code (mY 183) (mB 183) (mLoc 183) (mRet 183)) := rfl
set_option maxRecDepth 100000 in
theorem cw_184 : tables_1[1439]? = some (.code (mY 184) (mB 184) (mLoc 184) (mRet 184)) := rfl
set_option maxRecDepth 100000 in
theorem cw_185 : tables_1[1443]? = some (.code (mY 185) (mB 185) (mLoc 185) (mRet 185)) := rfl
set_option maxRecDepth 100000 in
theorem cw_186 : tables_1[1463]? = some (.code (mY 186) (mB 186) (mLoc 186) (mRet 186)) := rfl
set_option maxRecDepth 100000 in
theorem cw_187 : tables_1[1455]? = some (.code (mY 187) (mB 187) (mLoc 187) (mRet 187)) := rfl
set_option maxRecDepth 100000 in
theorem cw_188 : tables_1[1459]? = some (.code (mY 188) (mB 188) (mLoc 188) (mRet 188)) := rfl
set_option maxRecDepth 100000 in
theorem cw_189 : tables_1[1447]? = some (.code (mY 189) (mB 189) (mLoc 189) (mRet 189)) := rfl
set_option maxRecDepth 100000 in
theorem cw_190 : tables_1[1451]? = some (.code (mY 190) (mB 190) (mLoc 190) (mRet 190)) := rfl
set_option maxRecDepth 100000 in
theorem cw_191 : tables_1[1534]? = some (.code (mY 191) (mB 191) (mLoc 191) (mRet 191)) := rfl
set_option maxRecDepth 100000 in
theorem cw_192 : tables_1[1478]? = some (.code (mY 192) (mB 192) (mLoc 192) (mRet 192)) := rfl
set_option maxRecDepth 100000 in
theorem cw_193 : tables_1[1537]? = some (.code (mY 193) (mB 193) (mLoc 193) (mRet 193)) := rfl
set_option maxRecDepth 100000 in
theorem cw_194 : tables_1[1736]? = some (.code (mY 194) (mB 194) (mLoc 194) (mRet 194)) := rfl
set_option maxRecDepth 100000 in
theorem cw_195 : tables_1[1475]? = some (.code (mY 195) (mB 195) (mLoc 195) (mRet 195)) := rfl
set_option maxRecDepth 100000 in
theorem cw_196 : tables_1[1501]? = some (.code (mY 196) (mB 196) (mLoc 196) (mRet 196)) := rfl
set_option maxRecDepth 100000 in
theorem cw_197 : tables_1[1549]? = some (.code (mY 197) (mB 197) (mLoc 197) (mRet 197)) := rfl
set_option maxRecDepth 100000 in
theorem cw_198 : tables_1[1079]? = some (.code (mY 198) (mB 198) (mLoc 198) (mRet 198)) := rfl
set_option maxRecDepth 100000 in
theorem cw_199 : tables_1[1083]? = some (.code (mY 199) (mB 199) (mLoc 199) (mRet 199)) := rfl
set_option maxRecDepth 100000 in
theorem cw_200 : tables_1[1087]? = some (.code (mY 200) (mB 200) (mLoc 200) (mRet 200)) := rfl
set_option maxRecDepth 100000 in
theorem cw_201 : tables_1[1067]? = some (.code (mY 201) (mB 201) (mLoc 201) (mRet 201)) := rfl
set_option maxRecDepth 100000 in
theorem cw_202 : tables_1[1115]? = some (.code (mY 202) (mB 202) (mLoc 202) (mRet 202)) := rfl
set_option maxRecDepth 100000 in
theorem cw_203 : tables_1[1482]? = some (.code (mY 203) (mB 203) (mLoc 203) (mRet 203)) := rfl
set_option maxRecDepth 100000 in
theorem cw_204 : tables_1[1606]? = some (.code (mY 204) (mB 204) (mLoc 204) (mRet 204)) := rfl
set_option maxRecDepth 100000 in
theorem cw_205 : tables_1[1603]? = some (.code (mY 205) (mB 205) (mLoc 205) (mRet 205)) := rfl
set_option maxRecDepth 100000 in
theorem cw_206 : tables_1[1075]? = some (.code (mY 206) (mB 206) (mLoc 206) (mRet 206)) := rfl
set_option maxRecDepth 100000 in
theorem cw_207 : tables_1[1091]? = some (.code (mY 207) (mB 207) (mLoc 207) (mRet 207)) := rfl
set_option maxRecDepth 100000 in
theorem cw_208 : tables_1[1103]? = some (.code (mY 208) (mB 208) (mLoc 208) (mRet 208)) := rfl
set_option maxRecDepth 100000 in
theorem cw_209 : tables_1[1099]? = some (.code (mY 209) (mB 209) (mLoc 209) (mRet 209)) := rfl
set_option maxRecDepth 100000 in
theorem cw_210 : tables_1[1095]? = some (.code (mY 210) (mB 210) (mLoc 210) (mRet 210)) := rfl
set_option maxRecDepth 100000 in
theorem cw_211 : tables_1[1107]? = some (.code (mY 211) (mB 211) (mLoc 211) (mRet 211)) := rfl
set_option maxRecDepth 100000 in
theorem cw_212 : tables_1[1111]? = some (.code (mY 212) (mB 212) (mLoc 212) (mRet 212)) := rfl
set_option maxRecDepth 100000 in
theorem cw_213 : tables_1[1071]? = some (.code (mY 213) (mB 213) (mLoc 213) (mRet 213)) := rfl
set_option maxRecDepth 100000 in
theorem cw_214 : tables_1[1493]? = some (.code (mY 214) (mB 214) (mLoc 214) (mRet 214)) := rfl
set_option maxRecDepth 100000 in
theorem cw_215 : tables_1[1490]? = some (.code (mY 215) (mB 215) (mLoc 215) (mRet 215)) := rfl
set_option maxRecDepth 100000 in
theorem cw_216 : tables_1[1486]? = some (.code (mY 216) (mB 216) (mLoc 216) (mRet 216)) := rfl
set_option maxRecDepth 100000 in
theorem cw_217 : tables_1[1505]? = some (.code (mY 217) (mB 217) (mLoc 217) (mRet 217)) := rfl
set_option maxRecDepth 100000 in
theorem cw_218 : tables_1[1522]? = some (.code (mY 218) (mB 218) (mLoc 218) (mRet 218)) := rfl
set_option maxRecDepth 100000 in
theorem cw_219 : tables_1[1509]? = some (.code (mY 219) (mB 219) (mLoc 219) (mRet 219)) := rfl
set_option maxRecDepth 100000 in
theorem cw_220 : tables_1[1530]? = some (.code (mY 220) (mB 220) (mLoc 220) (mRet 220)) := rfl
set_option maxRecDepth 100000 in
theorem cw_221 : tables_1[1526]? = some (.code (mY 221) (mB 221) (mLoc 221) (mRet 221)) := rfl
set_option maxRecDepth 100000 in
theorem cw_222 : tables_1[1518]? = some (.code (mY 222) (mB 222) (mLoc 222) (mRet 222)) := rfl
set_option maxRecDepth 100000 in
theorem cw_223 : tables_1[1514]? = some (.code (mY 223) (mB 223) (mLoc 223) (mRet 223)) := rfl
set_option maxRecDepth 100000 in
theorem cw_224 : tables_1[1541]? = some (.code (mY 224) (mB 224) (mLoc 224) (mRet 224)) := rfl
set_option maxRecDepth 100000 in
theorem cw_225 : tables_1[1553]? = some (.code (mY 225) (mB 225) (mLoc 225) (mRet 225)) := rfl
set_option maxRecDepth 100000 in
theorem cw_226 : tables_1[1557]? = some (.code (mY 226) (mB 226) (mLoc 226) (mRet 226)) := rfl
set_option maxRecDepth 100000 in
theorem cw_227 : tables_1[1640]? = some (.code (mY 227) (mB 227) (mLoc 227) (mRet 227)) := rfl
set_option maxRecDepth 100000 in
theorem cw_228 : tables_1[1636]? = some (.code (mY 228) (mB 228) (mLoc 228) (mRet 228)) := rfl
set_option maxRecDepth 100000 in
theorem cw_229 : tables_1[1568]? = some (.code (mY 229) (mB 229) (mLoc 229) (mRet 229)) := rfl
set_option maxRecDepth 100000 in
theorem cw_230 : tables_1[1572]? = some (.code (mY 230) (mB 230) (mLoc 230) (mRet 230)) := rfl
set_option maxRecDepth 100000 in
theorem cw_231 : tables_1[1681]? = some (.code (mY 231) (mB 231) (mLoc 231) (mRet 231)) := rfl
set_option maxRecDepth 100000 in
theorem cw_232 : tables_1[1599]? = some (.code (mY 232) (mB 232) (mLoc 232) (mRet 232)) := rfl
set_option maxRecDepth 100000 in
theorem cw_233 : tables_1[1595]? = some (.code (mY 233) (mB 233) (mLoc 233) (mRet 233)) := rfl
set_option maxRecDepth 100000 in
theorem cw_234 : tables_1[1471]? = some (.code (mY 234) (mB 234) (mLoc 234) (mRet 234)) := rfl
set_option maxRecDepth 100000 in
theorem cw_235 : tables_1[1497]? = some (.code (mY 235) (mB 235) (mLoc 235) (mRet 235)) := rfl
set_option maxRecDepth 100000 in
theorem cw_236 : tables_1[1545]? = some (.code (mY 236) (mB 236) (mLoc 236) (mRet 236)) := rfl
set_option maxRecDepth 100000 in
theorem cw_237 : tables_1[1576]? = some (.code (mY 237) (mB 237) (mLoc 237) (mRet 237)) := rfl
set_option maxRecDepth 100000 in
theorem cw_238 : tables_1[1564]? = some (.code (mY 238) (mB 238) (mLoc 238) (mRet 238)) := rfl
set_option maxRecDepth 100000 in
theorem cw_239 : tables_1[1561]? = some (.code (mY 239) (mB 239) (mLoc 239) (mRet 239)) := rfl
set_option maxRecDepth 100000 in
theorem cw_240 : tables_1[1580]? = some (.code (mY 240) (mB 240) (mLoc 240) (mRet 240)) := rfl
set_option maxRecDepth 100000 in
theorem cw_241 : tables_1[1584]? = some (.code (mY 241) (mB 241) (mLoc 241) (mRet 241)) := rfl
set_option maxRecDepth 100000 in
theorem cw_242 : tables_1[1591]? = some (.code (mY 242) (mB 242) (mLoc 242) (mRet 242)) := rfl
set_option maxRecDepth 100000 in
theorem cw_243 : tables_1[1588]? = some (.code (mY 243) (mB 243) (mLoc 243) (mRet 243)) := rfl
set_option maxRecDepth 100000 in
theorem cw_244 : tables_1[1611]? = some (.code (mY 244) (mB 244) (mLoc 244) (mRet 244)) := rfl
set_option maxRecDepth 100000 in
theorem cw_245 : tables_1[1619]? = some (.code (mY 245) (mB 245) (mLoc 245) (mRet 245)) := rfl
set_option maxRecDepth 100000 in
theorem cw_246 : tables_1[1623]? = some (.code (mY 246) (mB 246) (mLoc 246) (mRet 246)) := rfl
set_option maxRecDepth 100000 in
theorem cw_247 : tables_1[1615]? = some (.code (mY 247) (mB 247) (mLoc 247) (mRet 247)) := rfl
set_option maxRecDepth 100000 in
theorem cw_248 : tables_1[1628]? = some (.code (mY 248) (mB 248) (mLoc 248) (mRet 248)) := rfl
set_option maxRecDepth 100000 in
theorem cw_249 : tables_1[1632]? = some (.code (mY 249) (mB 249) (mLoc 249) (mRet 249)) := rfl
set_option maxRecDepth 100000 in
theorem cw_250 : tables_1[1644]? = some (.code (mY 250) (mB 250) (mLoc 250) (mRet 250)) := rfl
set_option maxRecDepth 100000 in
theorem cw_251 : tables_1[1648]? = some (.code (mY 251) (mB 251) (mLoc 251) (mRet 251)) := rfl
set_option maxRecDepth 100000 in
theorem cw_252 : tables_1[1653]? = some (.code (mY 252) (mB 252) (mLoc 252) (mRet 252)) := rfl
set_option maxRecDepth 100000 in
theorem cw_253 : tables_1[1665]? = some (.code (mY 253) (mB 253) (mLoc 253) (mRet 253)) := rfl
set_option maxRecDepth 100000 in
theorem cw_254 : tables_1[1669]? = some (.code (mY 254) (mB 254) (mLoc 254) (mRet 254)) := rfl
set_option maxRecDepth 100000 in
theorem cw_255 : tables_1[1661]? = some (.code (mY 255) (mB 255) (mLoc 255) (mRet 255)) := rfl
set_option maxRecDepth 100000 in
theorem cw_256 : tables_1[1673]? = some (.code (mY 256) (mB 256) (mLoc 256) (mRet 256)) := rfl
set_option maxRecDepth 100000 in
theorem cw_257 : tables_1[1657]? = some (.code (mY 257) (mB 257) (mLoc 257) (mRet 257)) := rfl
set_option maxRecDepth 100000 in
theorem cw_258 : tables_1[1685]? = some (.code (mY 258) (mB 258) (mLoc 258) (mRet 258)) := rfl
set_option maxRecDepth 100000 in
theorem cw_259 : tables_1[1677]? = some (.code (mY 259) (mB 259) (mLoc 259) (mRet 259)) := rfl
set_option maxRecDepth 100000 in
theorem cw_260 : tables_1[1689]? = some (.code (mY 260) (mB 260) (mLoc 260) (mRet 260)) := rfl
set_option maxRecDepth 100000 in
theorem cw_261 : tables_1[1697]? = some (.code (mY 261) (mB 261) (mLoc 261) (mRet 261)) := rfl
set_option maxRecDepth 100000 in
theorem cw_262 : tables_1[1693]? = some (.code (mY 262) (mB 262) (mLoc 262) (mRet 262)) := rfl
set_option maxRecDepth 100000 in
theorem cw_263 : tables_1[1709]? = some (.code (mY 263) (mB 263) (mLoc 263) (mRet 263)) := rfl
set_option maxRecDepth 100000 in
theorem cw_264 : tables_1[1713]? = some (.code (mY 264) (mB 264) (mLoc 264) (mRet 264)) := rfl
set_option maxRecDepth 100000 in
theorem cw_265 : tables_1[1705]? = some (.code (mY 265) (mB 265) (mLoc 265) (mRet 265)) := rfl
set_option maxRecDepth 100000 in
theorem cw_266 : tables_1[1701]? = some (.code (mY 266) (mB 266) (mLoc 266) (mRet 266)) := rfl
set_option maxRecDepth 100000 in
theorem cw_267 : tables_1[1717]? = some (.code (mY 267) (mB 267) (mLoc 267) (mRet 267)) := rfl
set_option maxRecDepth 100000 in
theorem cw_268 : tables_1[1721]? = some (.code (mY 268) (mB 268) (mLoc 268) (mRet 268)) := rfl
set_option maxRecDepth 100000 in
theorem cw_269 : tables_1[1725]? = some (.code (mY 269) (mB 269) (mLoc 269) (mRet 269)) := rfl
set_option maxRecDepth 100000 in
theorem cw_270 : tables_1[1729]? = some (.code (mY 270) (mB 270) (mLoc 270) (mRet 270)) := rfl
set_option maxRecDepth 100000 in
theorem cw_271 : tables_1[1733]? = some (.code (mY 271) (mB 271) (mLoc 271) (mRet 271)) := rfl
set_option maxRecDepth 100000 in
theorem cw_272 : tables_1[1740]? = some (.code (mY 272) (mB 272) (mLoc 272) (mRet 272)) := rfl
set_option maxRecDepth 100000 in
theorem cw_273 : tables_1[1744]? = some (.code (mY 273) (mB 273) (mLoc 273) (mRet 273)) := rfl
set_option maxRecDepth 100000 in
theorem cw_274 : tables_1[1748]? = some (.code (mY 274) (mB 274) (mLoc 274) (mRet 274)) := rfl
set_option maxRecDepth 100000 in
theorem cw_275 : tables_1[1752]? = some (.code (mY 275) (mB 275) (mLoc 275) (mRet 275)) := rfl
set_option maxRecDepth 100000 in
theorem cw_276 : tables_1[1756]? = some (.code (mY 276) (mB 276) (mLoc 276) (mRet 276)) := rfl
set_option maxRecDepth 100000 in
theorem cw_277 : tables_1[1764]? = some (.code (mY 277) (mB 277) (mLoc 277) (mRet 277)) := rfl
set_option maxRecDepth 100000 in
theorem cw_278 : tables_1[1760]? = some (.code (mY 278) (mB 278) (mLoc 278) (mRet 278)) := rfl
set_option maxRecDepth 100000 in
theorem cw_279 : tables_1[1772]? = some (.code (mY 279) (mB 279) (mLoc 279) (mRet 279)) := rfl
set_option maxRecDepth 100000 in
theorem cw_280 : tables_1[1768]? = some (.code (mY 280) (mB 280) (mLoc 280) (mRet 280)) := rfl
set_option maxRecDepth 100000 in
theorem cw_281 : tables_1[1776]? = some (.code (mY 281) (mB 281) (mLoc 281) (mRet 281)) := rfl
set_option maxRecDepth 100000 in
theorem cw_282 : tables_1[1780]? = some (.code (mY 282) (mB 282) (mLoc 282) (mRet 282)) := rfl
set_option maxRecDepth 100000 in
theorem cw_283 : tables_1[1784]? = some (.code (mY 283) (mB 283) (mLoc 283) (mRet 283)) := rfl
set_option maxRecDepth 100000 in
theorem cw_284 : tables_1[673]? = some (.code (mY 284) (mB 284) (mLoc 284) (mRet 284)) := rfl
set_option maxRecDepth 100000 in
theorem cw_285 : tables_1[581]? = some (.code (mY 285) (mB 285) (mLoc 285) (mRet 285)) := rfl
set_option maxRecDepth 100000 in
theorem cw_286 : tables_1[760]? = some (.code (mY 286) (mB 286) (mLoc 286) (mRet 286)) := rfl
set_option maxRecDepth 100000 in
theorem cw_287 : tables_1[528]? = some (.code (mY 287) (mB 287) (mLoc 287) (mRet 287)) := rfl
set_option maxRecDepth 100000 in
theorem cw_288 : tables_1[538]? = some (.code (mY 288) (mB 288) (mLoc 288) (mRet 288)) := rfl
set_option maxRecDepth 100000 in
theorem cw_289 : tables_1[532]? = some (.code (mY 289) (mB 289) (mLoc 289) (mRet 289)) := rfl
set_option maxRecDepth 100000 in
theorem cw_290 : tables_1[542]? = some (.code (mY 290) (mB 290) (mLoc 290) (mRet 290)) := rfl
set_option maxRecDepth 100000 in
theorem cw_291 : tables_1[548]? = some (.code (mY 291) (mB 291) (mLoc 291) (mRet 291)) := rfl
set_option maxRecDepth 100000 in
theorem cw_292 : tables_1[545]? = some (.code (mY 292) (mB 292) (mLoc 292) (mRet 292)) := rfl
set_option maxRecDepth 100000 in
theorem cw_293 : tables_1[566]? = some (.code (mY 293) (mB 293) (mLoc 293) (mRet 293)) := rfl
set_option maxRecDepth 100000 in
theorem cw_294 : tables_1[562]? = some (.code (mY 294) (mB 294) (mLoc 294) (mRet 294)) := rfl
set_option maxRecDepth 100000 in
theorem cw_295 : tables_1[556]? = some (.code (mY 295) (mB 295) (mLoc 295) (mRet 295)) := rfl
set_option maxRecDepth 100000 in
theorem cw_296 : tables_1[559]? = some (.code (mY 296) (mB 296) (mLoc 296) (mRet 296)) := rfl
set_option maxRecDepth 100000 in
theorem cw_297 : tables_1[391]? = some (.code (mY 297) (mB 297) (mLoc 297) (mRet 297)) := rfl
set_option maxRecDepth 100000 in
theorem cw_298 : tables_1[357]? = some (.code (mY 298) (mB 298) (mLoc 298) (mRet 298)) := rfl
set_option maxRecDepth 100000 in
theorem cw_299 : tables_1[395]? = some (.code (mY 299) (mB 299) (mLoc 299) (mRet 299)) := rfl
set_option maxRecDepth 100000 in
theorem cw_300 : tables_1[553]? = some (.code (mY 300) (mB 300) (mLoc 300) (mRet 300)) := rfl
theorem cwg_0 : ∀ k ∈ [0, 1, 2, 3, 4, 5, 6, 7, 8, 9, 10, 11, 12, 13, 14, 15], Cond.code (mY k) (mB k) (mLoc k) (mRet k) ∈ tables_1 := List.forall_mem_cons.mpr ⟨List.mem_of_getElem? cw_0, List.forall_mem_cons.mpr ⟨List.mem_of_getElem? cw_1, List.forall_mem_cons.mpr ⟨List.mem_of_getElem? cw_2, List.forall_mem_cons.mpr ⟨List.mem_of_getElem? cw_3, List.forall_mem_cons.mpr ⟨List.mem_of_getElem? cw_4, List.forall_mem_cons.mpr ⟨List.mem_of_getElem? cw_5, List.forall_mem_cons.mpr ⟨List.mem_of_getElem? cw_6, List.forall_mem_cons.mpr ⟨List.mem_of_getElem? cw_7, List.forall_mem_cons.mpr ⟨List.mem_of_getElem? cw_8, List.forall_mem_cons.mpr ⟨List.mem_of_getElem? cw_9, List.forall_mem_cons.mpr ⟨List.mem_of_getElem? cw_10, List.forall_mem_cons.mpr ⟨List.mem_of_getElem? cw_11, List.forall_mem_cons.mpr ⟨List.mem_of_getElem? cw_12, List.forall_mem_cons.mpr ⟨List.mem_of_getElem? cw_13, List.forall_mem_cons.mpr ⟨List.mem_of_getElem? cw_14, List.forall_mem_cons.mpr ⟨List.mem_of_getElem? cw_15, fun _ h => absurd h List.not_mem_nil⟩⟩⟩⟩⟩⟩⟩⟩⟩⟩⟩⟩⟩⟩⟩⟩
theorem cwg_1 : ∀ k ∈ [16, 17, 18, 19, 20, 21, 22, 23, 24, 25, 26, 27, 28, 29, 30, 31], Cond.code (mY k) (mB k) (mLoc k) (mRet k) ∈ tables_1 := List.forall_mem_cons.mpr ⟨List.mem_of_getElem? cw_16, List.forall_mem_cons.mpr ⟨List.mem_of_getElem? cw_17, List.forall_mem_cons.mpr ⟨List.mem_of_getElem? cw_18, List.forall_mem_cons.mpr ⟨List.mem_of_getElem? cw_19, List.forall_mem_cons.mpr ⟨List.mem_of_getElem? cw_20, List.forall_mem_cons.mpr ⟨List.mem_of_getElem? cw_21, List.forall_mem_cons.mpr ⟨List.mem_of_getElem? cw_22, List.forall_mem_cons.mpr ⟨List.mem_of_getElem? cw_23, List.forall_mem_cons.mpr ⟨List.mem_of_getElem? cw_24, List.forall_mem_cons.mpr ⟨List.mem_of_getElem? cw_25, List.forall_mem_cons.mpr ⟨List.mem_of_getElem? cw_26, List.forall_mem_cons.mpr ⟨List.mem_of_getElem? cw_27, List.forall_mem_cons.mpr ⟨List.mem_of_getElem? cw_28, List.forall_mem_cons.mpr ⟨List.mem_of_getElem? cw_29, List.forall_mem_cons.mpr ⟨List.mem_of_getElem? cw_30, List.forall_mem_cons.mpr ⟨List.mem_of_getElem? cw_31, fun _ h => absurd h List.not_mem_nil⟩⟩⟩⟩⟩⟩⟩⟩⟩⟩⟩⟩⟩⟩⟩⟩
theorem cwg_2 : ∀ k ∈ [32, 33, 34, 35, 36, 37, 38, 39, 40, 41, 42, 43, 44, 45, 46, 47], Cond.code (mY k) (mB k) (mLoc k) (mRet k) ∈ tables_1 := List.forall_mem_cons.mpr ⟨List.mem_of_getElem? cw_32, List.forall_mem_cons.mpr ⟨List.mem_of_getElem? cw_33, List.forall_mem_cons.mpr ⟨List.mem_of_getElem? cw_34, List.forall_mem_cons.mpr ⟨List.mem_of_getElem? cw_35, List.forall_mem_cons.mpr ⟨List.mem_of_getElem? cw_36, List.forall_mem_cons.mpr ⟨List.mem_of_getElem? cw_37, List.forall_mem_cons.mpr ⟨List.mem_of_getElem? cw_38, List.forall_mem_cons.mpr ⟨List.mem_of_getElem? cw_39, List.forall_mem_cons.mpr ⟨List.mem_of_getElem? cw_40, List.forall_mem_cons.mpr ⟨List.mem_of_getElem? cw_41, List.forall_mem_cons.mpr ⟨List.mem_of_getElem? cw_42, List.forall_mem_cons.mpr ⟨List.mem_of_getElem? cw_43, List.forall_mem_cons.mpr ⟨List.mem_of_getElem? cw_44, List.forall_mem_cons.mpr ⟨List.mem_of_getElem? cw_45, List.forall_mem_cons.mpr ⟨List.mem_of_getElem? cw_46, List.forall_mem_cons.mpr ⟨List.mem_of_getElem? cw_47, fun _ h => absurd h List.not_mem_nil⟩⟩⟩⟩⟩⟩⟩⟩⟩⟩⟩⟩⟩⟩⟩⟩
theorem cwg_3 : ∀ k ∈ [48, 49, 50, 51, 52, 53, 54, 55, 56, 57, 58, 59, 60, 61, 62, 63], Cond.code (mY k) (mB k) (mLoc k) (mRet k) ∈ tables_1 := List.forall_mem_cons.mpr ⟨List.mem_of_getElem? cw_48, List.forall_mem_cons.mpr ⟨List.mem_of_getElem? cw_49, List.forall_mem_cons.mpr ⟨List.mem_of_getElem? cw_50, List.forall_mem_cons.mpr ⟨List.mem_of_getElem? cw_51, List.forall_mem_cons.mpr ⟨List.mem_of_getElem? cw_52, List.forall_mem_cons.mpr ⟨List.mem_of_getElem? cw_53, List.forall_mem_cons.mpr ⟨List.mem_of_getElem? cw_54, List.forall_mem_cons.mpr ⟨List.mem_of_getElem? cw_55, List.forall_mem_cons.mpr ⟨List.mem_of_getElem? cw_56, List.forall_mem_cons.mpr ⟨List.mem_of_getElem? cw_57, List.forall_mem_cons.mpr ⟨List.mem_of_getElem? cw_58, List.forall_mem_cons.mpr ⟨List.mem_of_getElem? cw_59, List.forall_mem_cons.mpr ⟨List.mem_of_getElem? cw_60, List.forall_mem_cons.mpr ⟨List.mem_of_getElem? cw_61, List.forall_mem_cons.mpr ⟨List.mem_of_getElem? cw_62, List.forall_mem_cons.mpr ⟨List.mem_of_getElem? cw_63, fun _ h => absurd h List.not_mem_nil⟩⟩⟩⟩⟩⟩⟩⟩⟩⟩⟩⟩⟩⟩⟩⟩
theorem cwg_4 : ∀ k ∈ [64, 65, 66, 67, 68, 69, 70, 71, 72, 73, 74, 75, 76, 77, 78, 79], Cond.code (mY k) (mB k) (mLoc k) (mRet k) ∈ tables_1 := List.forall_mem_cons.mpr ⟨List.mem_of_getElem? cw_64, List.forall_mem_cons.mpr ⟨List.mem_of_getElem? cw_65, List.forall_mem_cons.mpr ⟨List.mem_of_getElem? cw_66, List.forall_mem_cons.mpr ⟨List.mem_of_getElem? cw_67, List.forall_mem_cons.mpr ⟨List.mem_of_getElem? cw_68, List.forall_mem_cons.mpr ⟨List.mem_of_getElem? cw_69, List.forall_mem_cons.mpr ⟨List.mem_of_getElem? cw_70, List.forall_mem_cons.mpr ⟨List.mem_of_getElem? cw_71, List.forall_mem_cons.mpr ⟨List.mem_of_getElem? cw_72, List.forall_mem_cons.mpr ⟨List.mem_of_getElem? cw_73, List.forall_mem_cons.mpr ⟨List.mem_of_getElem? cw_74, List.forall_mem_cons.mpr ⟨List.mem_of_getElem? cw_75, List.forall_mem_cons.mpr ⟨List.mem_of_getElem? cw_76, List.forall_mem_cons.mpr ⟨List.mem_of_getElem? cw_77, List.forall_mem_cons.mpr ⟨List.mem_of_getElem? cw_78, List.forall_mem_cons.mpr ⟨List.mem_of_getElem? cw_79, fun _ h => absurd h List.not_mem_nil⟩⟩⟩⟩⟩⟩⟩⟩⟩⟩⟩⟩⟩⟩⟩⟩
theorem cwg_5 : ∀ k ∈ [80, 81, 82, 83, 84, 85, 86, 87, 88, 89, 90, 91, 92, 93, 94, 95], Cond.code (mY k) (mB k) (mLoc k) (mRet k) ∈ tables_1 := List.forall_mem_cons.mpr ⟨List.mem_of_getElem? cw_80, List.forall_mem_cons.mpr ⟨List.mem_of_getElem? cw_81, List.forall_mem_cons.mpr ⟨List.mem_of_getElem? cw_82, List.forall_mem_cons.mpr ⟨List.mem_of_getElem? cw_83, List.forall_mem_cons.mpr ⟨List.mem_of_getElem? cw_84, List.forall_mem_cons.mpr ⟨List.mem_of_getElem? cw_85, List.forall_mem_cons.mpr ⟨List.mem_of_getElem? cw_86, List.forall_mem_cons.mpr ⟨List.mem_of_getElem? cw_87, List.forall_mem_cons.mpr ⟨List.mem_of_getElem? cw_88, List.forall_mem_cons.mpr ⟨List.mem_of_getElem? cw_89, List.forall_mem_cons.mpr ⟨List.mem_of_getElem? cw_90, List.forall_mem_cons.mpr ⟨List.mem_of_getElem? cw_91, List.forall_mem_cons.mpr ⟨List.mem_of_getElem? cw_92, List.forall_mem_cons.mpr ⟨List.mem_of_getElem? cw_93, List.forall_mem_cons.mpr ⟨List.mem_of_getElem? cw_94, List.forall_mem_cons.mpr ⟨List.mem_of_getElem? cw_95, fun _ h => absurd h List.not_mem_nil⟩⟩⟩⟩⟩⟩⟩⟩⟩⟩⟩⟩⟩⟩⟩⟩
theorem cwg_6 : ∀ k ∈ [96, 97, 98, 99, 100, 101, 102, 103, 104, 105, 106, 107, 108, 109, 110, 111], Cond.code (mY k) (mB k) (mLoc k) (mRet k) ∈ tables_1 := List.forall_mem_cons.mpr ⟨List.mem_of_getElem? cw_96, List.forall_mem_cons.mpr ⟨List.mem_of_getElem? cw_97, List.forall_mem_cons.mpr ⟨List.mem_of_getElem? cw_98, List.forall_mem_cons.mpr ⟨List.mem_of_getElem? cw_99, List.forall_mem_cons.mpr ⟨List.mem_of_getElem? cw_100, List.forall_mem_cons.mpr ⟨List.mem_of_getElem? cw_101, List.forall_mem_cons.mpr ⟨List.mem_of_getElem? cw_102, List.forall_mem_cons.mpr ⟨List.mem_of_getElem? cw_103, List.forall_mem_cons.mpr ⟨List.mem_of_getElem? cw_104, List.forall_mem_cons.mpr ⟨List.mem_of_getElem? cw_105, List.forall_mem_cons.mpr ⟨List.mem_of_getElem? cw_106, List.forall_mem_cons.mpr ⟨List.mem_of_getElem? cw_107, List.forall_mem_cons.mpr ⟨List.mem_of_getElem? cw_108, List.forall_mem_cons.mpr ⟨List.mem_of_getElem? cw_109, List.forall_mem_cons.mpr ⟨List.mem_of_getElem? cw_110, List.forall_mem_cons.mpr ⟨List.mem_of_getElem? cw_111, fun _ h => absurd h List.not_mem_nil⟩⟩⟩⟩⟩⟩⟩⟩⟩⟩⟩⟩⟩⟩⟩⟩
theorem cwg_7 : ∀ k ∈ [112, 113, 114, 115, 116, 117, 118, 119, 120, 121, 122, 123, 124, 125, 126, 127], Cond.code (mY k) (mB k) (mLoc k) (mRet k) ∈ tables_1 := List.forall_mem_cons.mpr ⟨List.mem_of_getElem? cw_112, List.forall_mem_cons.mpr ⟨List.mem_of_getElem? cw_113, List.forall_mem_cons.mpr ⟨List.mem_of_getElem? cw_114, List.forall_mem_cons.mpr ⟨List.mem_of_getElem? cw_115, List.forall_mem_cons.mpr ⟨List.mem_of_getElem? cw_116, List.forall_mem_cons.mpr ⟨List.mem_of_getElem? cw_117, List.forall_mem_cons.mpr ⟨List.mem_of_getElem? cw_118, List.forall_mem_cons.mpr ⟨List.mem_of_getElem? cw_119, List.forall_mem_cons.mpr ⟨List.mem_of_getElem? cw_120, List.forall_mem_cons.mpr ⟨List.mem_of_getElem? cw_121, List.forall_mem_cons.mpr ⟨List.mem_of_getElem? cw_122, List.forall_mem_cons.mpr ⟨List.mem_of_getElem? cw_123, List.forall_mem_cons.mpr ⟨List.mem_of_getElem? cw_124, List.forall_mem_cons.mpr ⟨List.mem_of_getElem? cw_125, List.forall_mem_cons.mpr ⟨List.mem_of_getElem? cw_126, List.forall_mem_cons.mpr ⟨List.mem_of_getElem? cw_127, fun _ h => absurd h List.not_mem_nil⟩⟩⟩⟩⟩⟩⟩⟩⟩⟩⟩⟩⟩⟩⟩⟩
theorem cwg_8 : ∀ k ∈ [128, 129, 130, 131, 132, 133, 134, 135, 136, 137, 138, 139, 140, 141, 142, 143], Cond.code (mY k) (mB k) (mLoc k) (mRet k) ∈ tables_1 := List.forall_mem_cons.mpr ⟨List.mem_of_getElem? cw_128, List.forall_mem_cons.mpr ⟨List.mem_of_getElem? cw_129, List.forall_mem_cons.mpr ⟨List.mem_of_getElem? cw_130, List.forall_mem_cons.mpr ⟨List.mem_of_getElem? cw_131, List.forall_mem_cons.mpr ⟨List.mem_of_getElem? cw_132, List.forall_mem_cons.mpr ⟨List.mem_of_getElem? cw_133, List.forall_mem_cons.mpr ⟨List.mem_of_getElem? cw_134, List.forall_mem_cons.mpr ⟨List.mem_of_getElem? cw_135, List.forall_mem_cons.mpr ⟨List.mem_of_getElem? cw_136, List.forall_mem_cons.mpr ⟨List.mem_of_getElem? cw_137, List.forall_mem_cons.mpr ⟨List.mem_of_getElem? cw_138, List.forall_mem_cons.mpr ⟨List.mem_of_getElem? cw_139, List.forall_mem_cons.mpr ⟨List.mem_of_getElem? cw_140, List.forall_mem_cons.mpr ⟨List.mem_of_getElem? cw_141, List.forall_mem_cons.mpr ⟨List.mem_of_getElem? cw_142, List.forall_mem_cons.mpr ⟨List.mem_of_getElem? cw_143, fun _ h => absurd h List.not_mem_nil⟩⟩⟩⟩⟩⟩⟩⟩⟩⟩⟩⟩⟩⟩⟩⟩
theorem cwg_9 : ∀ k ∈ [144, 145, 146, 147, 148, 149, 150, 151, 152, 153, 154, 155, 156, 157, 158, 159], Cond.code (mY k) (mB k) (mLoc k) (mRet k) ∈ tables_1 := List.forall_mem_cons.mpr ⟨List.mem_of_getElem? cw_144, List.forall_mem_cons.mpr ⟨List.mem_of_getElem? cw_145, List.forall_mem_cons.mpr ⟨List.mem_of_getElem? cw_146, List.forall_mem_cons.mpr ⟨List.mem_of_getElem? cw_147, List.forall_mem_cons.mpr ⟨List.mem_of_getElem? cw_148, List.forall_mem_cons.mpr ⟨List.mem_of_getElem? cw_149, List.forall_mem_cons.mpr ⟨List.mem_of_getElem? cw_150, List.forall_mem_cons.mpr ⟨List.mem_of_getElem? cw_151, List.forall_mem_cons.mpr ⟨List.mem_of_getElem? cw_152, List.forall_mem_cons.mpr ⟨List.mem_of_getElem? cw_153, List.forall_mem_cons.mpr ⟨List.mem_of_getElem? cw_154, List.forall_mem_cons.mpr ⟨List.mem_of_getElem? cw_155, List.forall_mem_cons.mpr ⟨List.mem_of_getElem? cw_156, List.forall_mem_cons.mpr ⟨List.mem_of_getElem? cw_157, List.forall_mem_cons.mpr ⟨List.mem_of_getElem? cw_158, List.forall_mem_cons.mpr ⟨List.mem_of_getElem? cw_159, fun _ h => absurd h List.not_mem_nil⟩⟩⟩⟩⟩⟩⟩⟩⟩⟩⟩⟩⟩⟩⟩⟩
theorem cwg_10 : ∀ k ∈ [160, 161, 162, 163, 164, 165, 166, 167, 168, 169, 170, 171, 172, 173, 174, 175], Cond.code (mY k) (mB k) (mLoc k) (mRet k) ∈ tables_1 := List.forall_mem_cons.mpr ⟨List.mem_of_getElem? cw_160, List.forall_mem_cons.mpr ⟨List.mem_of_getElem? cw_161, List.forall_mem_cons.mpr ⟨List.mem_of_getElem? cw_162, List.forall_mem_cons.mpr ⟨List.mem_of_getElem? cw_163, List.forall_mem_cons.mpr ⟨List.mem_of_getElem? cw_164, List.forall_mem_cons.mpr ⟨List.mem_of_getElem? cw_165, List.forall_mem_cons.mpr ⟨List.mem_of_getElem? cw_166, List.forall_mem_cons.mpr ⟨List.mem_of_getElem? cw_167, List.forall_mem_cons.mpr ⟨List.mem_of_getElem? cw_168, List.forall_mem_cons.mpr ⟨List.mem_of_getElem? cw_169, List.forall_mem_cons.mpr ⟨List.mem_of_getElem? cw_170, List.forall_mem_cons.mpr ⟨List.mem_of_getElem? cw_171, List.forall_mem_cons.mpr ⟨List.mem_of_getElem? cw_172, List.forall_mem_cons.mpr ⟨List.mem_of_getElem? cw_173, List.forall_mem_cons.mpr ⟨List.mem_of_getElem? cw_174, List.forall_mem_cons.mpr ⟨List.mem_of_getElem? cw_175, fun _ h => absurd h List.not_mem_nil⟩⟩⟩⟩⟩⟩⟩⟩⟩⟩⟩⟩⟩⟩⟩⟩
theorem cwg_11 : ∀ k ∈ [176, 177, 178, 179, 180, 181, 182, 183, 184, 185, 186, 187, 188, 189, 190, 191], Cond.code (mY k) (mB k) (mLoc k) (mRet k) ∈ tables_1 := List.forall_mem_cons.mpr ⟨List.mem_of_getElem? cw_176, List.forall_mem_cons.mpr ⟨List.mem_of_getElem? cw_177, List.forall_mem_cons.mpr ⟨List.mem_of_getElem? cw_178, List.forall_mem_cons.mpr ⟨List.mem_of_getElem? cw_179, List.forall_mem_cons.mpr ⟨List.mem_of_getElem? cw_180, List.forall_mem_cons.mpr ⟨List.mem_of_getElem? cw_181, List.forall_mem_cons.mpr ⟨List.mem_of_getElem? cw_182, List.forall_mem_cons.mpr ⟨List.mem_of_getElem? cw_183, List.forall_mem_cons.mpr ⟨List.mem_of_getElem? cw_184, List.forall_mem_cons.mpr ⟨List.mem_of_getElem? cw_185, List.forall_mem_cons.mpr ⟨List.mem_of_getElem? cw_186, List.forall_mem_cons.mpr ⟨List.mem_of_getElem? cw_187, List.forall_mem_cons.mpr ⟨List.mem_of_getElem? cw_188, List.forall_mem_cons.mpr ⟨List.mem_of_getElem? cw_189, List.forall_mem_cons.mpr ⟨List.mem_of_getElem? cw_190, List.forall_mem_cons.mpr ⟨List.mem_of_getElem? cw_191, fun _ h => absurd h List.not_mem_nil⟩⟩⟩⟩⟩⟩⟩⟩⟩⟩⟩⟩⟩⟩⟩⟩
theorem cwg_12 : ∀ k ∈ [192, 193, 194, 195, 196, 197, 198, 199, 200, 201, 202, 203, 204, 205, 206, 207], Cond.code (mY k) (mB k) (mLoc k) (mRet k) ∈ tables_1 := List.forall_mem_cons.mpr ⟨List.mem_of_getElem? cw_192, List.forall_mem_cons.mpr ⟨List.mem_of_getElem? cw_193, List.forall_mem_cons.mpr ⟨List.mem_of_getElem? cw_194, List.forall_mem_cons.mpr ⟨List.mem_of_getElem? cw_195, List.forall_mem_cons.mpr ⟨List.mem_of_getElem? cw_196, List.forall_mem_cons.mpr ⟨List.mem_of_getElem? cw_197, List.forall_mem_cons.mpr ⟨List.mem_of_getElem? cw_198, List.forall_mem_cons.mpr ⟨List.mem_of_getElem? cw_199, List.forall_mem_cons.mpr ⟨List.mem_of_getElem? cw_200, List.forall_mem_cons.mpr ⟨List.mem_of_getElem? cw_201, List.forall_mem_cons.mpr ⟨List.mem_of_getElem? cw_202, List.forall_mem_cons.mpr ⟨List.mem_of_getElem? cw_203, List.forall_mem_cons.mpr ⟨List.mem_of_getElem? cw_204, List.forall_mem_cons.mpr ⟨List.mem_of_getElem? cw_205, List.forall_mem_cons.mpr ⟨List.mem_of_getElem? cw_206, List.forall_mem_cons.mpr ⟨List.mem_of_getElem? cw_207, fun _ h => absurd h List.not_mem_nil⟩⟩⟩⟩⟩⟩⟩⟩⟩⟩⟩⟩⟩⟩⟩⟩
theorem cwg_13 : ∀ k ∈ [208, 209, 210, 211, 212, 213, 214, 215, 216, 217, 218, 219, 220, 221, 222, 223], Cond.code (mY k) (mB k) (mLoc k) (mRet k) ∈ tables_1 := List.forall_mem_cons.mpr ⟨List.mem_of_getElem? cw_208, List.forall_mem_cons.mpr ⟨List.mem_of_getElem? cw_209, List.forall_mem_cons.mpr ⟨List.mem_of_getElem? cw_210, List.forall_mem_cons.mpr ⟨List.mem_of_getElem? cw_211, List.forall_mem_cons.mpr ⟨List.mem_of_getElem? cw_212, List.forall_mem_cons.mpr ⟨List.mem_of_getElem? cw_213, List.forall_mem_cons.mpr ⟨List.mem_of_getElem? cw_214, List.forall_mem_cons.mpr ⟨List.mem_of_getElem? cw_215, List.forall_mem_cons.mpr ⟨List.mem_of_getElem? cw_216, List.forall_mem_cons.mpr ⟨List.mem_of_getElem? cw_217, List.forall_mem_cons.mpr ⟨List.mem_of_getElem? cw_218, List.forall_mem_cons.mpr ⟨List.mem_of_getElem? cw_219, List.forall_mem_cons.mpr ⟨List.mem_of_getElem? cw_220, List.forall_mem_cons.mpr ⟨List.mem_of_getElem? cw_221, List.forall_mem_cons.mpr ⟨List.mem_of_getElem? cw_222, List.forall_mem_cons.mpr ⟨List.mem_of_getElem? cw_223, fun _ h => absurd h List.not_mem_nil⟩⟩⟩⟩⟩⟩⟩⟩⟩⟩⟩⟩⟩⟩⟩⟩
theorem cwg_14 : ∀ k ∈ [224, 225, 226, 227, 228, 229, 230, 231, 232, 233, 234, 235, 236, 237, 238, 239], Cond.code (mY k) (mB k) (mLoc k) (mRet k) ∈ tables_1 := List.forall_mem_cons.mpr ⟨List.mem_of_getElem? cw_224, List.forall_mem_cons.mpr ⟨List.mem_of_getElem? cw_225, List.forall_mem_cons.mpr ⟨List.mem_of_getElem? cw_226, List.forall_mem_cons.mpr ⟨List.mem_of_getElem? cw_227, List.forall_mem_cons.mpr ⟨List.mem_of_getElem? cw_228, List.forall_mem_cons.mpr ⟨List.mem_of_getElem? cw_229, List.forall_mem_cons.mpr ⟨List.mem_of_getElem? cw_230, List.forall_mem_cons.mpr ⟨List.mem_of_getElem? cw_231, List.forall_mem_cons.mpr ⟨List.mem_of_getElem? cw_232, List.forall_mem_cons.mpr ⟨List.mem_of_getElem? cw_233, List.forall_mem_cons.mpr ⟨List.mem_of_getElem? cw_234, List.forall_mem_cons.mpr ⟨List.mem_of_getElem? cw_235, List.forall_mem_cons.mpr ⟨List.mem_of_getElem? cw_236, List.forall_mem_cons.mpr ⟨List.mem_of_getElem? cw_237, List.forall_mem_cons.mpr ⟨List.mem_of_getElem? cw_238, List.forall_mem_cons.mpr ⟨List.mem_of_getElem? cw_239, fun _ h => absurd h List.not_mem_nil⟩⟩⟩⟩⟩⟩⟩⟩⟩⟩⟩⟩⟩⟩⟩⟩
theorem cwg_15 : ∀ k ∈ [240, 241, 242, 243, 244, 245, 246, 247, 248, 249, 250, 251, 252, 253, 254, 255], Cond.code (mY k) (mB k) (mLoc k) (mRet k) ∈ tables_1 := List.forall_mem_cons.mpr ⟨List.mem_of_getElem? cw_240, List.forall_mem_cons.mpr ⟨List.mem_of_getElem? cw_241, List.forall_mem_cons.mpr ⟨List.mem_of_getElem? cw_242, List.forall_mem_cons.mpr ⟨List.mem_of_getElem? cw_243, List.forall_mem_cons.mpr ⟨List.mem_of_getElem? cw_244, List.forall_mem_cons.mpr ⟨List.mem_of_getElem? cw_245, List.forall_mem_cons.mpr ⟨List.mem_of_getElem? cw_246, List.forall_mem_cons.mpr ⟨List.mem_of_getElem? cw_247, List.forall_mem_cons.mpr ⟨List.mem_of_getElem? cw_248, List.forall_mem_cons.mpr ⟨List.mem_of_getElem? cw_249, List.forall_mem_cons.mpr ⟨List.mem_of_getElem? cw_250, List.forall_mem_cons.mpr ⟨List.mem_of_getElem? cw_251, List.forall_mem_cons.mpr ⟨List.mem_of_getElem? cw_252, List.forall_mem_cons.mpr ⟨List.mem_of_getElem? cw_253, List.forall_mem_cons.mpr ⟨List.mem_of_getElem? cw_254, List.forall_mem_cons.mpr ⟨List.mem_of_getElem? cw_255, fun _ h => absurd h List.not_mem_nil⟩⟩⟩⟩⟩⟩⟩⟩⟩⟩⟩⟩⟩⟩⟩⟩
theorem cwg_16 : ∀ k ∈ [256, 257, 258, 259, 260, 261, 262, 263, 264, 265, 266, 267, 268, 269, 270, 271], Cond.code (mY k) (mB k) (mLoc k) (mRet k) ∈ tables_1 := List.forall_mem_cons.mpr ⟨List.mem_of_getElem? cw_256, List.forall_mem_cons.mpr ⟨List.mem_of_getElem? cw_257, List.forall_mem_cons.mpr ⟨List.mem_of_getElem? cw_258, List.forall_mem_cons.mpr ⟨List.mem_of_getElem? cw_259, List.forall_mem_cons.mpr ⟨List.mem_of_getElem? cw_260, List.forall_mem_cons.mpr ⟨List.mem_of_getElem? cw_261, List.forall_mem_cons.mpr ⟨List.mem_of_getElem? cw_262, List.forall_mem_cons.mpr ⟨List.mem_of_getElem? cw_263, List.forall_mem_cons.mpr ⟨List.mem_of_getElem? cw_264, List.forall_mem_cons.mpr ⟨List.mem_of_getElem? cw_265, List.forall_mem_cons.mpr ⟨List.mem_of_getElem? cw_266, List.forall_mem_cons.mpr ⟨List.mem_of_getElem? cw_267, List.forall_mem_cons.mpr ⟨List.mem_of_getElem? cw_268, List.forall_mem_cons.mpr ⟨List.mem_of_getElem? cw_269, List.forall_mem_cons.mpr ⟨List.mem_of_getElem? cw_270, List.forall_mem_cons.mpr ⟨List.mem_of_getElem? cw_271, fun _ h => absurd h List.not_mem_nil⟩⟩⟩⟩⟩⟩⟩⟩⟩⟩⟩⟩⟩⟩⟩⟩
theorem cwg_17 : ∀ k ∈ [272, 273, 274, 275, 276, 277, 278, 279, 280, 281, 282, 283, 284, 285, 286, 287], Cond.code (mY k) (mB k) (mLoc k) (mRet k) ∈ tables_1 := List.forall_mem_cons.mpr ⟨List.mem_of_getElem? cw_272, List.forall_mem_cons.mpr ⟨List.mem_of_getElem? cw_273, List.forall_mem_cons.mpr ⟨List.mem_of_getElem? cw_274, List.forall_mem_cons.mpr ⟨List.mem_of_getElem? cw_275, List.forall_mem_cons.mpr ⟨List.mem_of_getElem? cw_276, List.forall_mem_cons.mpr ⟨List.mem_of_getElem? cw_277, List.forall_mem_cons.mpr ⟨List.mem_of_getElem? cw_278, List.forall_mem_cons.mpr ⟨List.mem_of_getElem? cw_279, List.forall_mem_cons.mpr ⟨List.mem_of_getElem? cw_280, List.forall_mem_cons.mpr ⟨List.mem_of_getElem? cw_281, List.forall_mem_cons.mpr ⟨List.mem_of_getElem? cw_282, List.forall_mem_cons.mpr ⟨List.mem_of_getElem? cw_283, List.forall_mem_cons.mpr ⟨List.mem_of_getElem? cw_284, List.forall_mem_cons.mpr ⟨List.mem_of_getElem? cw_285, List.forall_mem_cons.mpr ⟨List.mem_of_getElem? cw_286, List.forall_mem_cons.mpr ⟨List.mem_of_getElem? cw_287, fun _ h => absurd h List.not_mem_nil⟩⟩⟩⟩⟩⟩⟩⟩⟩⟩⟩⟩⟩⟩⟩⟩
theorem cwg_18 : ∀ k ∈ [288, 289, 290, 291, 292, 293, 294, 295, 296, 297, 298, 299, 300], Cond.code (mY k) (mB k) (mLoc k) (mRet k) ∈ tables_1 := List.forall_mem_cons.mpr ⟨List.mem_of_getElem? cw_288, List.forall_mem_cons.mpr ⟨List.mem_of_getElem? cw_289, List.forall_mem_cons.mpr ⟨List.mem_of_getElem? cw_290, List.forall_mem_cons.mpr ⟨List.mem_of_getElem? cw_291, List.forall_mem_cons.mpr ⟨List.mem_of_getElem? cw_292, List.forall_mem_cons.mpr ⟨List.mem_of_getElem? cw_293, List.forall_mem_cons.mpr ⟨List.mem_of_getElem? cw_294, List.forall_mem_cons.mpr ⟨List.mem_of_getElem? cw_295, List.forall_mem_cons.mpr ⟨List.mem_of_getElem? cw_296, List.forall_mem_cons.mpr ⟨List.mem_of_getElem? cw_297, List.forall_mem_cons.mpr ⟨List.mem_of_getElem? cw_298, List.forall_mem_cons.mpr ⟨List.mem_of_getElem? cw_299, List.forall_mem_cons.mpr ⟨List.mem_of_getElem? cw_300, fun _ h => absurd h List.not_mem_nil⟩⟩⟩⟩⟩⟩⟩⟩⟩⟩⟩⟩⟩
theorem codew_ok : ∀ k, k < 301 → Cond.code (mY k) (mB k) (mLoc k) (mRet k) ∈ tables_1 := by
  intro k hk
  have h : k ∈ [0, 1, 2, 3, 4, 5, 6, 7, 8, 9, 10, 11, 12, 13, 14, 15] ∨ k ∈ [16, 17, 18, 19, 20, 21, 22, 23, 24, 25, 26, 27, 28, 29, 30, 31] ∨ k ∈ [32, 33, 34, 35, 36, 37, 38, 39, 40, 41, 42, 43, 44, 45, 46, 47] ∨ k ∈ [48, 49, 50, 51, 52, 53, 54, 55, 56, 57, 58, 59, 60, 61, 62, 63] ∨ k ∈ [64, 65, 66, 67, 68, 69, 70, 71, 72, 73, 74, 75, 76, 77, 78, 79] ∨ k ∈ [80, 81, 82, 83, 84, 85, 86, 87, 88, 89, 90, 91, 92, 93, 94, 95] ∨ k ∈ [96, 97, 98, 99, 100, 101, 102, 103, 104, 105, 106, 107, 108, 109, 110, 111] ∨ k ∈ [112, 113, 114, 115, 116, 117, 118, 119, 120, 121, 122, 123, 124, 125, 126, 127] ∨ k ∈ [128, 129, 130, 131, 132, 133, 134, 135, 136, 137, 138, 139, 140, 141, 142, 143] ∨ k ∈ [144, 145, 146, 147, 148, 149, 150, 151, 152, 153, 154, 155, 156, 157, 158, 159] ∨ k ∈ [160, 161, 162, 163, 164, 165, 166, 167, 168, 169, 170, 171, 172, 173, 174, 175] ∨ k ∈ [176, 177, 178, 179, 180, 181, 182, 183, 184, 185, 186, 187, 188, 189, 190, 191] ∨ k ∈ [192, 193, 194, 195, 196, 197, 198, 199, 200, 201, 202, 203, 204, 205, 206, 207] ∨ k ∈ [208, 209, 210, 211, 212, 213, 214, 215, 216, 217, 218, 219, 220, 221, 222, 223] ∨ k ∈ [224, 225, 226, 227, 228, 229, 230, 231, 232, 233, 234, 235, 236, 237, 238, 239] ∨ k ∈ [240, 241, 242, 243, 244, 245, 246, 247, 248, 249, 250, 251, 252, 253, 254, 255] ∨ k ∈ [256, 257, 258, 259, 260, 261, 262, 263, 264, 265, 266, 267, 268, 269, 270, 271] ∨ k ∈ [272, 273, 274, 275, 276, 277, 278, 279, 280, 281, 282, 283, 284, 285, 286, 287] ∨ k ∈ [288, 289, 290, 291, 292, 293, 294, 295, 296, 297, 298, 299, 300] := by
    simp only [List.mem_cons, List.not_mem_nil, or_false]
    omega
  rcases h with h | h | h | h | h | h | h | h | h | h | h | h | h | h | h | h | h | h | h
  · exact cwg_0 k h
  · exact cwg_1 k h
  · exact cwg_2 k h
  · exact cwg_3 k h
  · exact cwg_4 k h
  · exact cwg_5 k h
  · exact cwg_6 k h
  · exact cwg_7 k h
  · exact cwg_8 k h
  · exact cwg_9 k h
  · exact cwg_10 k h
  · exact cwg_11 k h
  · exact cwg_12 k h
  · exact cwg_13 k h
  · exact cwg_14 k h
  · exact cwg_15 k h
  · exact cwg_16 k h
  · exact cwg_17 k h
  · exact cwg_18 k h
theorem meth_ok : ∀ e ∈ codeT, plainFor (mY e.1) = true ∧ oNm (mOwn e.1) = (mY e.1).cls ∧ ((mY e.1).cls ≠ "java/lang/invoke/MethodHandle" ∧ (mY e.1).cls ≠ "java/lang/invoke/VarHandle") ∧ (parseMethodDescriptor (mY e.1).desc).map (fun d => d.parameters.length) = some (mArg e.1) := by decide +kernel
theorem stat_ok : ∀ e ∈ statT, tables_1[e.2]? = some (.static (mY e.1)) := by decide +kernel
theorem virt_ok : ∀ e ∈ virtT, tables_1[e.2.1]? = some (.instanceMethod (mY e.1)) ∧ lw_tbl[e.2.2]? = some (.selects (mY e.1).cls (mY e.1) (mY e.1)) := by decide +kernel
theorem ini_ok : ∀ e ∈ iniT, tables_1[e.2]? = some (.instanceMethod (mY e.1)) ∧ (mY e.1).name = "<init>" ∧ mRet e.1 = none := by decide +kernel
theorem mlk_ok : ∀ o, o < 18 → ∀ e ∈ mlk o, tables_1[e.2.2.2]? = some (if e.2.2.1 = 3 then .methodLinkNest (oNm o) e.1 (mY e.2.1) "SluiceLogs" else .methodLink (oNm o) e.1 (mY e.2.1)) := by decide +kernel
theorem olk_ok : ∀ o, o < 18 → ∀ e ∈ olk o, tables_1[e.2]? = some (.methodLink (oNm o) e.1 objectInit) := by decide +kernel
theorem alk_ok : ∀ o, o < 18 → ∀ e ∈ alk o, tables_1[e.2]? = some (.methodLink (oNm o) e.1 arraycopyName) := by decide +kernel
theorem clk_ok : ∀ o, o < 18 → ∀ e ∈ clk o, tables_1[e.2.2]? = some (.classLink (oNm o) e.1 (oNm e.2.1)) := by decide +kernel
theorem clkM_ok : ∀ o, o < 18 → ∀ e ∈ clkM o, tables_1[e.2.2]? = some (.classLink (oNm o) e.1 ("[" ++ (FieldType.array (ety (e.2.1 - 10))).toString)) := by decide +kernel
theorem cik_ok : ∀ o, o < 18 → ∀ e ∈ cik o, tables_1[e.2.2]? = some (.constant (oNm o) e.1 (Int32.ofNat e.2.1)) := by decide +kernel
theorem clg_ok : ∀ o, o < 18 → ∀ e ∈ clg o, tables_1[e.2.2]? = some (.constantLong (oNm o) e.1 (Int64.ofNat e.2.1)) := by decide +kernel
def insT : List Nat := [301, 88, 28, 94, 322, 34, 224, 216, 20, 1048]
def iniC : List Nat := [8, 4, 2, 5, 9, 3, 7, 6, 1, 12]
theorem ins_ok : ∀ c, c < 10 → tables_1[insT.getD c 0]? = some (.instantiable (oNm c) (clN c)) ∧ tables_1[iniC.getD c 0]? = some (.initialized (oNm c)) := by decide +kernel
theorem misc_ok : tables_1[376]? = some (.native arraycopyName) ∧ tables_1[375]? = some (.static arraycopyName) ∧ tables_1[11]? = some (.initialized "java/lang/System") ∧ tables_1[25]? = some (.instanceMethod objectInit) ∧ tables_1[26]? = some (.code objectInit ⟨#[0xb1]⟩ 1 none) := by decide +kernel
theorem arrc_ok : tables_1[56]? = some (.arrayClass .int) ∧ tables_1[57]? = some (.arrayClass .long) ∧ tables_1[280]? = some (.arrayClass .boolean) ∧ tables_1[55]? = some (.arrayClass .byte) := by decide +kernel
