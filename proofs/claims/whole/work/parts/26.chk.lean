/-! the methods' words, 3 -/
theorem em_c85 : em_chk 85 17 ev_code_85 [(1, 125), (5, 125)] = true := by decide +kernel
theorem em_c86 : em_chk 86 22 ev_code_86 [(1, 125), (5, 125), (10, 125)] = true := by decide +kernel
theorem em_c87 : em_chk 87 76 ev_code_87 [(15, 736), (19, 634), (41, 158), (47, 514), (50, 570), (53, 757), (64, 634)] = true := by decide +kernel
theorem em_c88 : em_chk 88 52 ev_code_88 [(29, 158), (32, 739), (37, 158), (40, 743), (45, 158), (48, 747)] = true := by decide +kernel
theorem em_c89 : em_chk 89 5 ev_code_89 [(1, 111)] = true := by decide +kernel
theorem em_c90 : em_chk 90 61 ev_code_90 [(6, 111)] = true := by decide +kernel
theorem em_c91 : em_chk 91 41 ev_code_91 [(6, 111)] = true := by decide +kernel
theorem em_c92 : em_chk 92 5 ev_code_92 [(1, 125)] = true := by decide +kernel
theorem em_c93 : em_chk 93 15 ev_code_93 [(2, 761)] = true := by decide +kernel
theorem em_c94 : em_chk 94 39 ev_code_94 [(4, 111)] = true := by decide +kernel
theorem em_c95 : em_chk 95 51 ev_code_95 [(4, 96)] = true := by decide +kernel
theorem em_c96 : em_chk 96 65 ev_code_96 [(11, 514), (14, 531), (35, 514), (40, 514), (43, 593)] = true := by decide +kernel
theorem em_c97 : em_chk 97 60 ev_code_97 [(2, 534), (8, 541), (13, 565), (21, 566), (31, 570), (36, 574), (41, 575), (48, 579)] = true := by decide +kernel
theorem em_c98 : em_chk 98 19 ev_code_98 [(1, 537), (8, 159), (15, 160)] = true := by decide +kernel
theorem em_c99 : em_chk 99 5 ev_code_99 [(1, 122)] = true := by decide +kernel
theorem em_c100 : em_chk 100 13 ev_code_100 [(2, 545), (8, 549)] = true := by decide +kernel
theorem em_c101 : em_chk 101 80 ev_code_101 [(1, 126), (19, 123), (27, 123), (45, 123), (63, 125), (68, 125), (73, 126)] = true := by decide +kernel
theorem em_c102 : em_chk 102 45 ev_code_102 [(6, 126), (14, 553), (25, 557), (28, 561)] = true := by decide +kernel
theorem em_c103 : em_chk 103 58 ev_code_103 [(14, 582), (25, 586), (37, 575), (45, 589)] = true := by decide +kernel
theorem em_c104 : em_chk 104 27 ev_code_104 [(11, 125)] = true := by decide +kernel
theorem em_c105 : em_chk 105 83 ev_code_105 [(2, 566), (7, 566), (17, 566), (25, 596), (34, 575), (38, 575), (46, 603), (52, 606), (63, 603), (69, 606)] = true := by decide +kernel
theorem em_c106 : em_chk 106 22 ev_code_106 [(2, 534), (8, 541), (13, 565), (18, 575)] = true := by decide +kernel
theorem em_c107 : em_chk 107 25 ev_code_107 [(2, 534), (8, 541), (13, 570), (16, 574), (21, 575)] = true := by decide +kernel
theorem em_c108 : em_chk 108 33 ev_code_108 [(1, 589), (5, 589), (13, 599), (21, 599)] = true := by decide +kernel
