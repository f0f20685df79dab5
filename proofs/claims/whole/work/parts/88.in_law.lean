set_option maxRecDepth 20000 in
theorem wsL_law_in : ∀ w ∈ wsL_law, w ∈ lw_tbl := fun w h => (goodIn_p wsL_law [116, 119, 124, 211, 249, 337, 1146, 401, 404, 407, 411, 1368, 1371, 1375, 415, 418, 422, 1379, 426, 430, 1383, 434, 438, 441, 1387, 445, 449, 1391, 453, 457, 1395, 461, 465, 469, 1399, 1403, 473, 477, 482, 499, 503, 523, 527, 533, 536, 540, 543, 547, 551, 556, 560, 564, 572, 1407, 1411, 1415, 1420, 1423, 1428, 576, 580, 584, 589, 618, 623, 627, 631, 636, 641, 1432, 1436, 645, 650, 668, 672, 675, 680, 684, 688, 1440, 1444, 1448, 692, 696, 1452, 700, 704, 708, 712, 716, 719, 723, 726, 730, 737, 741, 745, 751, 755, 758, 761, 766, 769, 775, 778, 781, 784, 789, 792, 795, 804, 807, 810, 814, 819, 824, 828, 832, 836, 841, 845, 849, 853, 857, 899, 870, 874, 882, 889, 895, 878, 861, 865, 903, 907, 911, 916, 920, 924, 1457, 1461, 1465, 1468, 1471, 1484, 1488, 1492, 1496, 1500, 1504, 1508, 1512, 1516, 1520, 1524, 1528, 1532, 1536, 1540, 1544, 1548, 1552, 1556, 1560, 928, 1564, 932, 936, 1568, 940, 944, 949, 977, 981, 986, 991, 995, 999, 1002, 1006, 1010, 1014, 1017, 1022, 1026, 1030, 1034, 1038, 1042, 1047, 1051, 1055, 1060, 1105, 1111, 1116, 1123, 1129, 1133, 1572, 1576, 1579, 1583, 1587, 1591, 1595, 1599, 1603, 1607, 1611, 1615, 1619, 1137, 1141, 1623] (by decide +kernel) (by decide +kernel) w h).1
theorem inX0 : ∀ w ∈ wsX00, w ∈ lw_tbl := fun w h => wsL_law_in w (inlX0 w h)
theorem inX1 : ∀ w ∈ wsX10, w ∈ lw_tbl := fun w h => wsL_law_in w (inlX1 w h)
theorem inX2 : ∀ w ∈ wsX20, w ∈ lw_tbl := fun w h => wsL_law_in w (inlX2 w h)
theorem inX3 : ∀ w ∈ wsX30, w ∈ lw_tbl := fun w h => wsL_law_in w (inlX3 w h)
theorem inX4 : ∀ w ∈ wsX40, w ∈ lw_tbl := fun w h => wsL_law_in w (inlX4 w h)
theorem inX5 : ∀ w ∈ wsX50, w ∈ lw_tbl := fun w h => wsL_law_in w (inlX5 w h)
theorem inX6 : ∀ w ∈ wsX60, w ∈ lw_tbl := fun w h => wsL_law_in w (inlX6 w h)
theorem inX7 : ∀ w ∈ wsX70, w ∈ lw_tbl := fun w h => wsL_law_in w (inlX7 w h)
theorem inX8 : ∀ w ∈ wsX80, w ∈ lw_tbl := fun w h => wsL_law_in w (inlX8 w h)
theorem inX9 : ∀ w ∈ wsX90, w ∈ lw_tbl := fun w h => wsL_law_in w (inlX9 w h)
theorem inX10 : ∀ w ∈ wsX100, w ∈ lw_tbl := fun w h => wsL_law_in w (inlX10 w h)
theorem inX11 : ∀ w ∈ wsX110, w ∈ lw_tbl := fun w h => wsL_law_in w (inlX11 w h)
