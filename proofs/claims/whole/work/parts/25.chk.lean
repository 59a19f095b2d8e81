/-! the methods' words, 2 -/
theorem em_c58 : em_chk 58 4 ev_code_58 [] = true := by decide +kernel
theorem em_c59 : em_chk 59 10 ev_code_59 [(1, 644), (5, 648)] = true := by decide +kernel
theorem em_c60 : em_chk 60 28 ev_code_60 [(6, 126), (15, 553)] = true := by decide +kernel
theorem em_c61 : em_chk 61 32 ev_code_61 [(6, 126), (16, 553), (19, 557)] = true := by decide +kernel
theorem em_c62 : em_chk 62 45 ev_code_62 [(6, 124), (14, 125), (35, 124)] = true := by decide +kernel
theorem em_c63 : em_chk 63 6 ev_code_63 [(2, 656)] = true := by decide +kernel
theorem em_c64 : em_chk 64 82 ev_code_64 [(15, 244), (19, 213), (64, 213), (73, 211), (78, 213)] = true := by decide +kernel
theorem em_c65 : em_chk 65 39 ev_code_65 [(1, 209), (6, 210), (19, 209), (24, 247), (28, 210), (32, 261), (35, 209)] = true := by decide +kernel
theorem em_c66 : em_chk 66 33 ev_code_66 [(4, 126), (12, 553), (20, 557), (23, 4131)] = true := by decide +kernel
theorem em_c67 : em_chk 67 34 ev_code_67 [(1, 230), (10, 237), (16, 324), (23, 237), (29, 324)] = true := by decide +kernel
theorem em_c68 : em_chk 68 5 ev_code_68 [(1, 234)] = true := by decide +kernel
theorem em_c69 : em_chk 69 5 ev_code_69 [(1, 213)] = true := by decide +kernel
theorem em_c70 : em_chk 70 8 ev_code_70 [(2, 328)] = true := by decide +kernel
theorem em_c71 : em_chk 71 55 ev_code_71 [(1, 213), (7, 331), (14, 244), (18, 276), (27, 209), (30, 334), (50, 213)] = true := by decide +kernel
theorem em_c72 : em_chk 72 40 ev_code_72 [] = true := by decide +kernel
theorem em_c73 : em_chk 73 19 ev_code_73 [(0, 201), (7, 210)] = true := by decide +kernel
theorem em_c74 : em_chk 74 121 ev_code_74 [(78, 337), (97, 338)] = true := by decide +kernel
theorem em_c75 : em_chk 75 8 ev_code_75 [(2, 241)] = true := by decide +kernel
theorem em_c76 : em_chk 76 77 ev_code_76 [(2, 213), (7, 244), (11, 276), (18, 281), (25, 209), (30, 213), (36, 213)] = true := by decide +kernel
theorem em_c77 : em_chk 77 13 ev_code_77 [] = true := by decide +kernel
theorem em_c78 : em_chk 78 59 ev_code_78 [(1, 209), (8, 210), (24, 210), (29, 250), (36, 260), (54, 210)] = true := by decide +kernel
theorem em_c79 : em_chk 79 33 ev_code_79 [(15, 223), (25, 270), (28, 273)] = true := by decide +kernel
theorem em_c80 : em_chk 80 34 ev_code_80 [(8, 230), (18, 716), (22, 634)] = true := by decide +kernel
theorem em_c81 : em_chk 81 6 ev_code_81 [(2, 720)] = true := by decide +kernel
theorem em_c82 : em_chk 82 42 ev_code_82 [(1, 210), (6, 209), (11, 213), (18, 723), (26, 724)] = true := by decide +kernel
theorem em_c83 : em_chk 83 10 ev_code_83 [(2, 302), (5, 321)] = true := by decide +kernel
theorem em_c84 : em_chk 84 92 ev_code_84 [(26, 514), (32, 514), (35, 566), (46, 634), (54, 514), (60, 514), (63, 599), (74, 634)] = true := by decide +kernel
