/-! THE LAW'S WORDS ARE AMONG THE CLAIM'S, row by row -/
set_option maxRecDepth 20000 in
theorem win_1 : ∀ w ∈ wsL_law0_r1, w ∈ lw_tbl := fun w h => (goodIn_p wsL_law0_r1 [139, 142] (by decide +kernel) (by decide +kernel) w h).1
set_option maxRecDepth 20000 in
theorem win_2 : ∀ w ∈ wsL_law0_r2, w ∈ lw_tbl := fun w h => (goodIn_p wsL_law0_r2 [] (by decide +kernel) (by decide +kernel) w h).1
set_option maxRecDepth 20000 in
theorem win_3 : ∀ w ∈ wsL_law0_r3, w ∈ lw_tbl := fun w h => (goodIn_p wsL_law0_r3 [147, 195] (by decide +kernel) (by decide +kernel) w h).1
set_option maxRecDepth 20000 in
theorem win_4 : ∀ w ∈ wsL_law0_r4, w ∈ lw_tbl := fun w h => (goodIn_p wsL_law0_r4 [258, 264, 305, 328] (by decide +kernel) (by decide +kernel) w h).1
set_option maxRecDepth 20000 in
theorem win_5 : ∀ w ∈ wsL_law0_r5, w ∈ lw_tbl := fun w h => (goodIn_p wsL_law0_r5 [357, 376, 396] (by decide +kernel) (by decide +kernel) w h).1
set_option maxRecDepth 20000 in
theorem win_6 : ∀ w ∈ wsL_law0_r6, w ∈ lw_tbl := fun w h => (goodIn_p wsL_law0_r6 [404, 481] (by decide +kernel) (by decide +kernel) w h).1
set_option maxRecDepth 20000 in
theorem win_7 : ∀ w ∈ wsL_law0_r7, w ∈ lw_tbl := fun w h => (goodIn_p wsL_law0_r7 [507, 1504] (by decide +kernel) (by decide +kernel) w h).1
set_option maxRecDepth 20000 in
theorem win_8 : ∀ w ∈ wsL_law0_r8, w ∈ lw_tbl := fun w h => (goodIn_p wsL_law0_r8 [] (by decide +kernel) (by decide +kernel) w h).1
set_option maxRecDepth 20000 in
theorem win_9 : ∀ w ∈ wsL_law0_r9, w ∈ lw_tbl := fun w h => (goodIn_p wsL_law0_r9 [] (by decide +kernel) (by decide +kernel) w h).1
set_option maxRecDepth 20000 in
theorem win_10 : ∀ w ∈ wsL_law0_r10, w ∈ lw_tbl := fun w h => (goodIn_p wsL_law0_r10 [569, 573, 1491, 1496, 577] (by decide +kernel) (by decide +kernel) w h).1
set_option maxRecDepth 20000 in
theorem win_11 : ∀ w ∈ wsL_law0_r11, w ∈ lw_tbl := fun w h => (goodIn_p wsL_law0_r11 [1500, 581, 585, 589] (by decide +kernel) (by decide +kernel) w h).1
set_option maxRecDepth 20000 in
theorem win_12 : ∀ w ∈ wsL_law0_r12, w ∈ lw_tbl := fun w h => (goodIn_p wsL_law0_r12 [594, 597, 601, 604, 607] (by decide +kernel) (by decide +kernel) w h).1
set_option maxRecDepth 20000 in
theorem win_13 : ∀ w ∈ wsL_law0_r13, w ∈ lw_tbl := fun w h => (goodIn_p wsL_law0_r13 [611, 615, 620, 624, 630] (by decide +kernel) (by decide +kernel) w h).1
set_option maxRecDepth 20000 in
theorem win_14 : ∀ w ∈ wsL_law0_r14, w ∈ lw_tbl := fun w h => (goodIn_p wsL_law0_r14 [634, 637, 640, 645, 648, 651, 654] (by decide +kernel) (by decide +kernel) w h).1
set_option maxRecDepth 20000 in
theorem win_15 : ∀ w ∈ wsL_law0_r15, w ∈ lw_tbl := fun w h => (goodIn_p wsL_law0_r15 [658, 668, 671, 674, 678] (by decide +kernel) (by decide +kernel) w h).1
set_option maxRecDepth 20000 in
theorem win_16 : ∀ w ∈ wsL_law0_r16, w ∈ lw_tbl := fun w h => (goodIn_p wsL_law0_r16 [684, 688, 692, 697] (by decide +kernel) (by decide +kernel) w h).1
set_option maxRecDepth 20000 in
theorem win_17 : ∀ w ∈ wsL_law0_r17, w ∈ lw_tbl := fun w h => (goodIn_p wsL_law0_r17 [701, 705, 708, 712, 716, 720] (by decide +kernel) (by decide +kernel) w h).1
set_option maxRecDepth 20000 in
theorem win_18 : ∀ w ∈ wsL_law0_r18, w ∈ lw_tbl := fun w h => (goodIn_p wsL_law0_r18 [725, 729, 733, 739, 743] (by decide +kernel) (by decide +kernel) w h).1
set_option maxRecDepth 20000 in
theorem win_19 : ∀ w ∈ wsL_law0_r19, w ∈ lw_tbl := fun w h => (goodIn_p wsL_law0_r19 [748, 752, 756, 760, 765] (by decide +kernel) (by decide +kernel) w h).1
set_option maxRecDepth 20000 in
theorem win_20 : ∀ w ∈ wsL_law0_r20, w ∈ lw_tbl := fun w h => (goodIn_p wsL_law0_r20 [769, 772, 776, 781, 785, 789] (by decide +kernel) (by decide +kernel) w h).1
set_option maxRecDepth 20000 in
theorem win_21 : ∀ w ∈ wsL_law0_r21, w ∈ lw_tbl := fun w h => (goodIn_p wsL_law0_r21 [793, 797, 802, 806, 810] (by decide +kernel) (by decide +kernel) w h).1
set_option maxRecDepth 20000 in
theorem win_22 : ∀ w ∈ wsL_law0_r22, w ∈ lw_tbl := fun w h => (goodIn_p wsL_law0_r22 [814, 818, 821, 828, 832, 836] (by decide +kernel) (by decide +kernel) w h).1
set_option maxRecDepth 20000 in
theorem win_23 : ∀ w ∈ wsL_law0_r23, w ∈ lw_tbl := fun w h => (goodIn_p wsL_law0_r23 [840, 1738, 1742] (by decide +kernel) (by decide +kernel) w h).1
set_option maxRecDepth 20000 in
theorem win_24 : ∀ w ∈ wsL_law0_r24, w ∈ lw_tbl := fun w h => (goodIn_p wsL_law0_r24 [1746, 1750, 1753, 1756, 1760] (by decide +kernel) (by decide +kernel) w h).1
set_option maxRecDepth 20000 in
theorem win_25 : ∀ w ∈ wsL_law0_r25, w ∈ lw_tbl := fun w h => (goodIn_p wsL_law0_r25 [1764, 1768, 1772, 1776, 1780, 1784] (by decide +kernel) (by decide +kernel) w h).1
set_option maxRecDepth 20000 in
theorem win_26 : ∀ w ∈ wsL_law0_r26, w ∈ lw_tbl := fun w h => (goodIn_p wsL_law0_r26 [1788, 1792, 1796, 1800, 1804] (by decide +kernel) (by decide +kernel) w h).1
set_option maxRecDepth 20000 in
theorem win_27 : ∀ w ∈ wsL_law0_r27, w ∈ lw_tbl := fun w h => (goodIn_p wsL_law0_r27 [1808, 1812, 1816, 1820, 1824, 1828] (by decide +kernel) (by decide +kernel) w h).1
set_option maxRecDepth 20000 in
theorem win_28 : ∀ w ∈ wsL_law0_r28, w ∈ lw_tbl := fun w h => (goodIn_p wsL_law0_r28 [1832, 1835, 1839, 1843, 1847, 844] (by decide +kernel) (by decide +kernel) w h).1
set_option maxRecDepth 20000 in
theorem win_29 : ∀ w ∈ wsL_law0_r29, w ∈ lw_tbl := fun w h => (goodIn_p wsL_law0_r29 [1851, 848, 852, 856, 860] (by decide +kernel) (by decide +kernel) w h).1
set_option maxRecDepth 20000 in
theorem win_30 : ∀ w ∈ wsL_law0_r30, w ∈ lw_tbl := fun w h => (goodIn_p wsL_law0_r30 [866, 871, 875, 880, 885] (by decide +kernel) (by decide +kernel) w h).1
set_option maxRecDepth 20000 in
theorem win_31 : ∀ w ∈ wsL_law0_r31, w ∈ lw_tbl := fun w h => (goodIn_p wsL_law0_r31 [890, 897, 901, 906, 911] (by decide +kernel) (by decide +kernel) w h).1
set_option maxRecDepth 20000 in
theorem win_32 : ∀ w ∈ wsL_law0_r32, w ∈ lw_tbl := fun w h => (goodIn_p wsL_law0_r32 [915, 919, 925] (by decide +kernel) (by decide +kernel) w h).1
set_option maxRecDepth 20000 in
theorem win_33 : ∀ w ∈ wsL_law0_r33, w ∈ lw_tbl := fun w h => (goodIn_p wsL_law0_r33 [929, 933, 938, 944, 948] (by decide +kernel) (by decide +kernel) w h).1
set_option maxRecDepth 20000 in
theorem win_34 : ∀ w ∈ wsL_law0_r34, w ∈ lw_tbl := fun w h => (goodIn_p wsL_law0_r34 [952, 956, 960, 964, 971, 975] (by decide +kernel) (by decide +kernel) w h).1
set_option maxRecDepth 20000 in
theorem win_35 : ∀ w ∈ wsL_law0_r35, w ∈ lw_tbl := fun w h => (goodIn_p wsL_law0_r35 [980, 984, 989, 993, 998] (by decide +kernel) (by decide +kernel) w h).1
set_option maxRecDepth 20000 in
theorem win_36 : ∀ w ∈ wsL_law0_r36, w ∈ lw_tbl := fun w h => (goodIn_p wsL_law0_r36 [1002, 1006, 1010, 1015, 1019, 1025] (by decide +kernel) (by decide +kernel) w h).1
set_option maxRecDepth 20000 in
theorem win_37 : ∀ w ∈ wsL_law0_r37, w ∈ lw_tbl := fun w h => (goodIn_p wsL_law0_r37 [1029, 1034, 1038, 1043] (by decide +kernel) (by decide +kernel) w h).1
set_option maxRecDepth 20000 in
theorem win_38 : ∀ w ∈ wsL_law0_r38, w ∈ lw_tbl := fun w h => (goodIn_p wsL_law0_r38 [1048, 1052, 1059, 1064, 1068] (by decide +kernel) (by decide +kernel) w h).1
set_option maxRecDepth 20000 in
theorem win_39 : ∀ w ∈ wsL_law0_r39, w ∈ lw_tbl := fun w h => (goodIn_p wsL_law0_r39 [1073, 1078, 1082, 1087, 1092] (by decide +kernel) (by decide +kernel) w h).1
set_option maxRecDepth 20000 in
theorem win_40 : ∀ w ∈ wsL_law0_r40, w ∈ lw_tbl := fun w h => (goodIn_p wsL_law0_r40 [1096, 1855, 1859, 1863, 1867, 1871] (by decide +kernel) (by decide +kernel) w h).1
set_option maxRecDepth 20000 in
theorem win_41 : ∀ w ∈ wsL_law0_r41, w ∈ lw_tbl := fun w h => (goodIn_p wsL_law0_r41 [1875, 1879, 1883, 1887, 1891, 1895] (by decide +kernel) (by decide +kernel) w h).1
set_option maxRecDepth 20000 in
theorem win_42 : ∀ w ∈ wsL_law0_r42, w ∈ lw_tbl := fun w h => (goodIn_p wsL_law0_r42 [1899, 1903, 1907, 1911] (by decide +kernel) (by decide +kernel) w h).1
set_option maxRecDepth 20000 in
theorem win_43 : ∀ w ∈ wsL_law0_r43, w ∈ lw_tbl := fun w h => (goodIn_p wsL_law0_r43 [1915, 1919, 1923, 1926, 1930, 1934, 1938] (by decide +kernel) (by decide +kernel) w h).1
set_option maxRecDepth 20000 in
theorem win_44 : ∀ w ∈ wsL_law0_r44, w ∈ lw_tbl := fun w h => (goodIn_p wsL_law0_r44 [1942, 1946, 1950, 1954, 1958, 1962] (by decide +kernel) (by decide +kernel) w h).1
set_option maxRecDepth 20000 in
theorem win_45 : ∀ w ∈ wsL_law0_r45, w ∈ lw_tbl := fun w h => (goodIn_p wsL_law0_r45 [1966, 1970, 1974, 1978, 1982, 1986] (by decide +kernel) (by decide +kernel) w h).1
set_option maxRecDepth 20000 in
theorem win_46 : ∀ w ∈ wsL_law0_r46, w ∈ lw_tbl := fun w h => (goodIn_p wsL_law0_r46 [1990, 1994, 1998, 2002, 2006] (by decide +kernel) (by decide +kernel) w h).1
set_option maxRecDepth 20000 in
theorem win_47 : ∀ w ∈ wsL_law0_r47, w ∈ lw_tbl := fun w h => (goodIn_p wsL_law0_r47 [1102, 2010, 1106, 2014, 1110] (by decide +kernel) (by decide +kernel) w h).1
set_option maxRecDepth 20000 in
theorem win_48 : ∀ w ∈ wsL_law0_r48, w ∈ lw_tbl := fun w h => (goodIn_p wsL_law0_r48 [2018, 1115, 2022, 1119, 2026] (by decide +kernel) (by decide +kernel) w h).1
set_option maxRecDepth 20000 in
theorem win_49 : ∀ w ∈ wsL_law0_r49, w ∈ lw_tbl := fun w h => (goodIn_p wsL_law0_r49 [1124, 1128, 2030, 2034, 2038] (by decide +kernel) (by decide +kernel) w h).1
set_option maxRecDepth 20000 in
theorem win_50 : ∀ w ∈ wsL_law0_r50, w ∈ lw_tbl := fun w h => (goodIn_p wsL_law0_r50 [2042, 1132, 2046, 2050, 2054, 2058] (by decide +kernel) (by decide +kernel) w h).1
set_option maxRecDepth 20000 in
theorem win_51 : ∀ w ∈ wsL_law0_r51, w ∈ lw_tbl := fun w h => (goodIn_p wsL_law0_r51 [1138, 1142, 2062, 2066, 1146, 2070] (by decide +kernel) (by decide +kernel) w h).1
set_option maxRecDepth 20000 in
theorem win_52 : ∀ w ∈ wsL_law0_r52, w ∈ lw_tbl := fun w h => (goodIn_p wsL_law0_r52 [1150, 2074, 2078, 1154, 1158] (by decide +kernel) (by decide +kernel) w h).1
set_option maxRecDepth 20000 in
theorem win_53 : ∀ w ∈ wsL_law0_r53, w ∈ lw_tbl := fun w h => (goodIn_p wsL_law0_r53 [2082, 2086, 1162, 1166, 2090, 1170] (by decide +kernel) (by decide +kernel) w h).1
set_option maxRecDepth 20000 in
theorem win_54 : ∀ w ∈ wsL_law0_r54, w ∈ lw_tbl := fun w h => (goodIn_p wsL_law0_r54 [1174, 2094, 2098, 1389] (by decide +kernel) (by decide +kernel) w h).1
set_option maxRecDepth 20000 in
theorem win_55 : ∀ w ∈ wsL_law0_r55, w ∈ lw_tbl := fun w h => (goodIn_p wsL_law0_r55 [2102, 2106, 2110, 1487, 1179] (by decide +kernel) (by decide +kernel) w h).1
set_option maxRecDepth 20000 in
theorem win_56 : ∀ w ∈ wsL_law0_r56, w ∈ lw_tbl := fun w h => (goodIn_p wsL_law0_r56 [2114, 1185, 1189, 2118, 2122] (by decide +kernel) (by decide +kernel) w h).1
set_option maxRecDepth 20000 in
theorem win_57 : ∀ w ∈ wsL_law0_r57, w ∈ lw_tbl := fun w h => (goodIn_p wsL_law0_r57 [1194, 1199, 1203, 1208, 2126, 2130] (by decide +kernel) (by decide +kernel) w h).1
set_option maxRecDepth 20000 in
theorem win_58 : ∀ w ∈ wsL_law0_r58, w ∈ lw_tbl := fun w h => (goodIn_p wsL_law0_r58 [2133, 1457, 1465, 2137] (by decide +kernel) (by decide +kernel) w h).1
set_option maxRecDepth 20000 in
theorem win_59 : ∀ w ∈ wsL_law0_r59, w ∈ lw_tbl := fun w h => (goodIn_p wsL_law0_r59 [1212, 2141, 1217, 1221, 1225, 2145] (by decide +kernel) (by decide +kernel) w h).1
set_option maxRecDepth 20000 in
theorem win_60 : ∀ w ∈ wsL_law0_r60, w ∈ lw_tbl := fun w h => (goodIn_p wsL_law0_r60 [2149, 1229, 2153, 1472, 1476] (by decide +kernel) (by decide +kernel) w h).1
set_option maxRecDepth 20000 in
theorem win_61 : ∀ w ∈ wsL_law0_r61, w ∈ lw_tbl := fun w h => (goodIn_p wsL_law0_r61 [1480, 1483, 2157, 1233, 1238, 1242] (by decide +kernel) (by decide +kernel) w h).1
set_option maxRecDepth 20000 in
theorem win_62 : ∀ w ∈ wsL_law0_r62, w ∈ lw_tbl := fun w h => (goodIn_p wsL_law0_r62 [1246, 2161, 2165, 2170, 2174] (by decide +kernel) (by decide +kernel) w h).1
set_option maxRecDepth 20000 in
theorem win_63 : ∀ w ∈ wsL_law0_r63, w ∈ lw_tbl := fun w h => (goodIn_p wsL_law0_r63 [1251, 2178, 1255, 1259, 1263] (by decide +kernel) (by decide +kernel) w h).1
set_option maxRecDepth 20000 in
theorem win_64 : ∀ w ∈ wsL_law0_r64, w ∈ lw_tbl := fun w h => (goodIn_p wsL_law0_r64 [1271, 2182, 2186, 2190, 2195] (by decide +kernel) (by decide +kernel) w h).1
set_option maxRecDepth 20000 in
theorem win_65 : ∀ w ∈ wsL_law0_r65, w ∈ lw_tbl := fun w h => (goodIn_p wsL_law0_r65 [1276, 1280, 2199, 2203, 2207] (by decide +kernel) (by decide +kernel) w h).1
set_option maxRecDepth 20000 in
theorem win_66 : ∀ w ∈ wsL_law0_r66, w ∈ lw_tbl := fun w h => (goodIn_p wsL_law0_r66 [1286, 2211, 1290, 1294] (by decide +kernel) (by decide +kernel) w h).1
set_option maxRecDepth 20000 in
theorem win_67 : ∀ w ∈ wsL_law0_r67, w ∈ lw_tbl := fun w h => (goodIn_p wsL_law0_r67 [1300, 1321, 1304, 1308, 1311, 1315] (by decide +kernel) (by decide +kernel) w h).1
set_option maxRecDepth 20000 in
theorem win_68 : ∀ w ∈ wsL_law0_r68, w ∈ lw_tbl := fun w h => (goodIn_p wsL_law0_r68 [1328, 1335, 2215] (by decide +kernel) (by decide +kernel) w h).1
set_option maxRecDepth 20000 in
theorem win_69 : ∀ w ∈ wsL_law0_r69, w ∈ lw_tbl := fun w h => (goodIn_p wsL_law0_r69 [2219, 2223, 2227, 2231, 2235, 2239] (by decide +kernel) (by decide +kernel) w h).1
set_option maxRecDepth 20000 in
theorem win_70 : ∀ w ∈ wsL_law0_r70, w ∈ lw_tbl := fun w h => (goodIn_p wsL_law0_r70 [2243, 1340, 1344, 1349, 1353] (by decide +kernel) (by decide +kernel) w h).1
set_option maxRecDepth 20000 in
theorem win_71 : ∀ w ∈ wsL_law0_r71, w ∈ lw_tbl := fun w h => (goodIn_p wsL_law0_r71 [1361, 1365, 2247, 2251, 2255, 2259] (by decide +kernel) (by decide +kernel) w h).1
set_option maxRecDepth 20000 in
theorem win_72 : ∀ w ∈ wsL_law0_r72, w ∈ lw_tbl := fun w h => (goodIn_p wsL_law0_r72 [2263, 1369, 1373, 2267, 1377] (by decide +kernel) (by decide +kernel) w h).1
set_option maxRecDepth 20000 in
theorem win_73 : ∀ w ∈ wsL_law0_r73, w ∈ lw_tbl := fun w h => (goodIn_p wsL_law0_r73 [2271, 1381, 2275] (by decide +kernel) (by decide +kernel) w h).1
theorem winX_00 : ∀ w ∈ wsX00, w ∈ lw_tbl := fun w h => (goodIn_p wsX00 [] (by decide +kernel) (by decide +kernel) w h).1
theorem winX_10 : ∀ w ∈ wsX10, w ∈ lw_tbl := fun w h => (goodIn_p wsX10 [] (by decide +kernel) (by decide +kernel) w h).1
theorem winX_100 : ∀ w ∈ wsX100, w ∈ lw_tbl := fun w h => (goodIn_p wsX100 [] (by decide +kernel) (by decide +kernel) w h).1
theorem winX_110 : ∀ w ∈ wsX110, w ∈ lw_tbl := fun w h => (goodIn_p wsX110 [] (by decide +kernel) (by decide +kernel) w h).1
theorem winX_120 : ∀ w ∈ wsX120, w ∈ lw_tbl := fun w h => (goodIn_p wsX120 [] (by decide +kernel) (by decide +kernel) w h).1
theorem winX_20 : ∀ w ∈ wsX20, w ∈ lw_tbl := fun w h => (goodIn_p wsX20 [] (by decide +kernel) (by decide +kernel) w h).1
theorem winX_30 : ∀ w ∈ wsX30, w ∈ lw_tbl := fun w h => (goodIn_p wsX30 [] (by decide +kernel) (by decide +kernel) w h).1
theorem winX_40 : ∀ w ∈ wsX40, w ∈ lw_tbl := fun w h => (goodIn_p wsX40 [] (by decide +kernel) (by decide +kernel) w h).1
theorem winX_50 : ∀ w ∈ wsX50, w ∈ lw_tbl := fun w h => (goodIn_p wsX50 [] (by decide +kernel) (by decide +kernel) w h).1
theorem winX_60 : ∀ w ∈ wsX60, w ∈ lw_tbl := fun w h => (goodIn_p wsX60 [] (by decide +kernel) (by decide +kernel) w h).1
theorem winX_70 : ∀ w ∈ wsX70, w ∈ lw_tbl := fun w h => (goodIn_p wsX70 [] (by decide +kernel) (by decide +kernel) w h).1
theorem winX_80 : ∀ w ∈ wsX80, w ∈ lw_tbl := fun w h => (goodIn_p wsX80 [] (by decide +kernel) (by decide +kernel) w h).1
theorem winX_90 : ∀ w ∈ wsX90, w ∈ lw_tbl := fun w h => (goodIn_p wsX90 [] (by decide +kernel) (by decide +kernel) w h).1
theorem wsL_law_in0 : ∀ w ∈ wsL_law0, w ∈ lw_tbl := by
  unfold wsL_law0
  exact List.forall_mem_append.mpr ⟨List.forall_mem_append.mpr ⟨List.forall_mem_append.mpr ⟨List.forall_mem_append.mpr ⟨List.forall_mem_append.mpr ⟨List.forall_mem_append.mpr ⟨List.forall_mem_append.mpr ⟨List.forall_mem_append.mpr ⟨List.forall_mem_append.mpr ⟨List.forall_mem_append.mpr ⟨List.forall_mem_append.mpr ⟨List.forall_mem_append.mpr ⟨List.forall_mem_append.mpr ⟨List.forall_mem_append.mpr ⟨List.forall_mem_append.mpr ⟨win_1, List.forall_mem_append.mpr ⟨win_2, List.forall_mem_append.mpr ⟨win_3, List.forall_mem_append.mpr ⟨win_4, List.forall_mem_append.mpr ⟨win_5, List.forall_mem_append.mpr ⟨win_6, List.forall_mem_append.mpr ⟨win_7, List.forall_mem_append.mpr ⟨win_8, List.forall_mem_append.mpr ⟨win_9, List.forall_mem_append.mpr ⟨win_10, List.forall_mem_append.mpr ⟨win_11, List.forall_mem_append.mpr ⟨win_12, List.forall_mem_append.mpr ⟨win_13, List.forall_mem_append.mpr ⟨win_14, List.forall_mem_append.mpr ⟨win_15, List.forall_mem_append.mpr ⟨win_16, List.forall_mem_append.mpr ⟨win_17, List.forall_mem_append.mpr ⟨win_18, List.forall_mem_append.mpr ⟨win_19, List.forall_mem_append.mpr ⟨win_20, List.forall_mem_append.mpr ⟨win_21, List.forall_mem_append.mpr ⟨win_22, List.forall_mem_append.mpr ⟨win_23, List.forall_mem_append.mpr ⟨win_24, List.forall_mem_append.mpr ⟨win_25, List.forall_mem_append.mpr ⟨win_26, List.forall_mem_append.mpr ⟨win_27, List.forall_mem_append.mpr ⟨win_28, List.forall_mem_append.mpr ⟨win_29, List.forall_mem_append.mpr ⟨win_30, List.forall_mem_append.mpr ⟨win_31, List.forall_mem_append.mpr ⟨win_32, List.forall_mem_append.mpr ⟨win_33, List.forall_mem_append.mpr ⟨win_34, List.forall_mem_append.mpr ⟨win_35, List.forall_mem_append.mpr ⟨win_36, List.forall_mem_append.mpr ⟨win_37, List.forall_mem_append.mpr ⟨win_38, List.forall_mem_append.mpr ⟨win_39, List.forall_mem_append.mpr ⟨win_40, List.forall_mem_append.mpr ⟨win_41, List.forall_mem_append.mpr ⟨win_42, List.forall_mem_append.mpr ⟨win_43, List.forall_mem_append.mpr ⟨win_44, List.forall_mem_append.mpr ⟨win_45, List.forall_mem_append.mpr ⟨win_46, List.forall_mem_append.mpr ⟨win_47, List.forall_mem_append.mpr ⟨win_48, List.forall_mem_append.mpr ⟨win_49, List.forall_mem_append.mpr ⟨win_50, List.forall_mem_append.mpr ⟨win_51, List.forall_mem_append.mpr ⟨win_52, List.forall_mem_append.mpr ⟨win_53, List.forall_mem_append.mpr ⟨win_54, List.forall_mem_append.mpr ⟨win_55, List.forall_mem_append.mpr ⟨win_56, List.forall_mem_append.mpr ⟨win_57, List.forall_mem_append.mpr ⟨win_58, List.forall_mem_append.mpr ⟨win_59, List.forall_mem_append.mpr ⟨win_60, List.forall_mem_append.mpr ⟨win_61, List.forall_mem_append.mpr ⟨win_62, List.forall_mem_append.mpr ⟨win_63, List.forall_mem_append.mpr ⟨win_64, List.forall_mem_append.mpr ⟨win_65, List.forall_mem_append.mpr ⟨win_66, List.forall_mem_append.mpr ⟨win_67, List.forall_mem_append.mpr ⟨win_68, List.forall_mem_append.mpr ⟨win_69, List.forall_mem_append.mpr ⟨win_70, List.forall_mem_append.mpr ⟨win_71, List.forall_mem_append.mpr ⟨win_72, win_73⟩⟩⟩⟩⟩⟩⟩⟩⟩⟩⟩⟩⟩⟩⟩⟩⟩⟩⟩⟩⟩⟩⟩⟩⟩⟩⟩⟩⟩⟩⟩⟩⟩⟩⟩⟩⟩⟩⟩⟩⟩⟩⟩⟩⟩⟩⟩⟩⟩⟩⟩⟩⟩⟩⟩⟩⟩⟩⟩⟩⟩⟩⟩⟩⟩⟩⟩⟩⟩⟩⟩⟩, winX_110⟩, winX_120⟩, winX_90⟩, winX_40⟩, winX_80⟩, winX_60⟩, winX_50⟩, winX_70⟩, winX_20⟩, winX_10⟩, winX_00⟩, winX_30⟩, winX_100⟩, (fun _ h => absurd h List.not_mem_nil)⟩
