/-! the methods' words, 3 -/
theorem em_c90 : em_chk 90 40 ev_code_90 [] = true := by decide +kernel
theorem em_c91 : em_chk 91 19 ev_code_91 [(0, 201), (7, 210)] = true := by decide +kernel
theorem em_c92 : em_chk 92 121 ev_code_92 [(78, 337), (97, 338)] = true := by decide +kernel
theorem em_c93 : em_chk 93 8 ev_code_93 [(2, 241)] = true := by decide +kernel
theorem em_c94 : em_chk 94 77 ev_code_94 [(2, 213), (7, 244), (11, 276), (18, 281), (25, 209), (30, 213), (36, 213)] = true := by decide +kernel
theorem em_c95 : em_chk 95 13 ev_code_95 [] = true := by decide +kernel
theorem em_c96 : em_chk 96 59 ev_code_96 [(1, 209), (8, 210), (24, 210), (29, 250), (36, 260), (54, 210)] = true := by decide +kernel
theorem em_c97 : em_chk 97 33 ev_code_97 [(15, 223), (25, 270), (28, 273)] = true := by decide +kernel
theorem em_c98 : em_chk 98 34 ev_code_98 [(8, 230), (18, 716), (22, 634)] = true := by decide +kernel
theorem em_c99 : em_chk 99 6 ev_code_99 [(2, 720)] = true := by decide +kernel
theorem em_c100 : em_chk 100 42 ev_code_100 [(1, 210), (6, 209), (11, 213), (18, 723), (26, 724)] = true := by decide +kernel
theorem em_c101 : em_chk 101 10 ev_code_101 [(2, 302), (5, 321)] = true := by decide +kernel
theorem em_c102 : em_chk 102 92 ev_code_102 [(26, 514), (32, 514), (35, 566), (46, 634), (54, 514), (60, 514), (63, 599), (74, 634)] = true := by decide +kernel
theorem em_c103 : em_chk 103 17 ev_code_103 [(1, 125), (5, 125)] = true := by decide +kernel
theorem em_c104 : em_chk 104 22 ev_code_104 [(1, 125), (5, 125), (10, 125)] = true := by decide +kernel
theorem em_c105 : em_chk 105 76 ev_code_105 [(15, 736), (19, 634), (41, 158), (47, 514), (50, 570), (53, 757), (64, 634)] = true := by decide +kernel
theorem em_c106 : em_chk 106 52 ev_code_106 [(29, 158), (32, 739), (37, 158), (40, 743), (45, 158), (48, 747)] = true := by decide +kernel
theorem em_c107 : em_chk 107 5 ev_code_107 [(1, 111)] = true := by decide +kernel
theorem em_c108 : em_chk 108 61 ev_code_108 [(6, 111)] = true := by decide +kernel
theorem em_c109 : em_chk 109 41 ev_code_109 [(6, 111)] = true := by decide +kernel
theorem em_c110 : em_chk 110 5 ev_code_110 [(1, 125)] = true := by decide +kernel
theorem em_c111 : em_chk 111 15 ev_code_111 [(2, 761)] = true := by decide +kernel
theorem em_c112 : em_chk 112 39 ev_code_112 [(4, 111)] = true := by decide +kernel
theorem em_c113 : em_chk 113 51 ev_code_113 [(4, 96)] = true := by decide +kernel
