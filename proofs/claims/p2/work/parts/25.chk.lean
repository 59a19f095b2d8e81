/-! the methods' words, 2 -/
theorem em_c60 : em_chk 60 9 ev_code_60 [(0, 1383), (5, 1385)] = true := by decide +kernel
theorem em_c61 : em_chk 61 26 ev_code_61 [(2, 1392), (6, 1388), (11, 1390), (16, 1392), (19, 1210), (22, 1391)] = true := by decide +kernel
theorem em_c62 : em_chk 62 20 ev_code_62 [(1, 1389), (5, 1392), (8, 4146)] = true := by decide +kernel
theorem em_c63 : em_chk 63 66 ev_code_63 [(1, 1410), (5, 1389), (11, 1392), (14, 4146), (29, 1392), (32, 1207), (54, 1389), (61, 1390)] = true := by decide +kernel
theorem em_c64 : em_chk 64 23 ev_code_64 [(1, 1392), (4, 1210), (8, 1391)] = true := by decide +kernel
theorem em_c65 : em_chk 65 24 ev_code_65 [(2, 1208), (5, 1325), (11, 1329), (16, 1206)] = true := by decide +kernel
theorem em_c66 : em_chk 66 124 ev_code_66 [(0, 192), (4, 194), (8, 613), (25, 614), (29, 634), (42, 638), (48, 726), (65, 627), (68, 729), (72, 634), (84, 733), (90, 652), (94, 157), (98, 224), (103, 713), (109, 764), (120, 634)] = true := by decide +kernel
theorem em_c67 : em_chk 67 7 ev_code_67 [(3, 197)] = true := by decide +kernel
theorem em_c68 : em_chk 68 39 ev_code_68 [(1, 200), (4, 201), (12, 223), (14, 209), (19, 210)] = true := by decide +kernel
theorem em_c69 : em_chk 69 60 ev_code_69 [(33, 617), (38, 157), (41, 620), (46, 624), (51, 161), (56, 162)] = true := by decide +kernel
theorem em_c70 : em_chk 70 29 ev_code_70 [(13, 514), (16, 575)] = true := by decide +kernel
theorem em_c71 : em_chk 71 8 ev_code_71 [(1, 637)] = true := by decide +kernel
theorem em_c72 : em_chk 72 5 ev_code_72 [(1, 96)] = true := by decide +kernel
theorem em_c73 : em_chk 73 31 ev_code_73 [(11, 627), (14, 630)] = true := by decide +kernel
theorem em_c74 : em_chk 74 13 ev_code_74 [(1, 142)] = true := by decide +kernel
theorem em_c75 : em_chk 75 88 ev_code_75 [(16, 514), (25, 575), (29, 634), (38, 589), (42, 634), (51, 641), (55, 634), (62, 652), (68, 709), (74, 713)] = true := by decide +kernel
theorem em_c76 : em_chk 76 31 ev_code_76 [(6, 126), (15, 553), (18, 4119)] = true := by decide +kernel
theorem em_c77 : em_chk 77 4 ev_code_77 [] = true := by decide +kernel
theorem em_c78 : em_chk 78 10 ev_code_78 [(1, 644), (5, 648)] = true := by decide +kernel
theorem em_c79 : em_chk 79 28 ev_code_79 [(6, 126), (15, 553)] = true := by decide +kernel
theorem em_c80 : em_chk 80 32 ev_code_80 [(6, 126), (16, 553), (19, 557)] = true := by decide +kernel
theorem em_c81 : em_chk 81 6 ev_code_81 [(2, 656)] = true := by decide +kernel
theorem em_c82 : em_chk 82 82 ev_code_82 [(15, 244), (19, 213), (64, 213), (73, 211), (78, 213)] = true := by decide +kernel
theorem em_c83 : em_chk 83 39 ev_code_83 [(1, 209), (6, 210), (19, 209), (24, 247), (28, 210), (32, 261), (35, 209)] = true := by decide +kernel
theorem em_c84 : em_chk 84 33 ev_code_84 [(4, 126), (12, 553), (20, 557), (23, 4131)] = true := by decide +kernel
theorem em_c85 : em_chk 85 34 ev_code_85 [(1, 230), (10, 237), (16, 324), (23, 237), (29, 324)] = true := by decide +kernel
theorem em_c86 : em_chk 86 5 ev_code_86 [(1, 234)] = true := by decide +kernel
theorem em_c87 : em_chk 87 5 ev_code_87 [(1, 213)] = true := by decide +kernel
theorem em_c88 : em_chk 88 8 ev_code_88 [(2, 328)] = true := by decide +kernel
theorem em_c89 : em_chk 89 55 ev_code_89 [(1, 213), (7, 331), (14, 244), (18, 276), (27, 209), (30, 334), (50, 213)] = true := by decide +kernel
