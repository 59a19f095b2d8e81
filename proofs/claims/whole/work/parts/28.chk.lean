/-! the methods' words, 5 -/
theorem em_c123 : em_chk 123 11 ev_code_123 [(1, 495), (6, 438)] = true := by decide +kernel
theorem em_c124 : em_chk 124 15 ev_code_124 [(0, 442), (7, 496)] = true := by decide +kernel
theorem em_c125 : em_chk 125 19 ev_code_125 [(2, 446), (7, 209), (12, 210), (15, 450)] = true := by decide +kernel
theorem em_c126 : em_chk 126 22 ev_code_126 [(0, 201), (7, 210), (11, 449)] = true := by decide +kernel
theorem em_c127 : em_chk 127 44 ev_code_127 [(1, 438), (9, 495), (18, 495), (22, 454)] = true := by decide +kernel
theorem em_c128 : em_chk 128 9 ev_code_128 [(0, 360), (5, 362)] = true := by decide +kernel
theorem em_c129 : em_chk 129 7 ev_code_129 [(3, 365)] = true := by decide +kernel
theorem em_c130 : em_chk 130 98 ev_code_130 [(1, 368), (5, 369), (10, 374), (16, 375), (24, 496), (32, 376), (35, 495)] = true := by decide +kernel
theorem em_c131 : em_chk 131 5 ev_code_131 [(1, 209)] = true := by decide +kernel
theorem em_c132 : em_chk 132 17 ev_code_132 [(13, 379)] = true := by decide +kernel
theorem em_c133 : em_chk 133 33 ev_code_133 [(2, 382), (10, 223), (24, 270), (27, 273)] = true := by decide +kernel
theorem em_c134 : em_chk 134 38 ev_code_134 [] = true := by decide +kernel
theorem em_c135 : em_chk 135 36 ev_code_135 [(8, 1680), (15, 1676), (22, 1681)] = true := by decide +kernel
theorem em_c136 : em_chk 136 16 ev_code_136 [(1, 1685), (8, 495), (12, 1689)] = true := by decide +kernel
theorem em_c137 : em_chk 137 19 ev_code_137 [(0, 442), (7, 496)] = true := by decide +kernel
theorem em_c138 : em_chk 138 15 ev_code_138 [(3, 1692)] = true := by decide +kernel
theorem em_c139 : em_chk 139 24 ev_code_139 [(3, 1536), (12, 1536)] = true := by decide +kernel
theorem em_c140 : em_chk 140 54 ev_code_140 [(1, 1266), (5, 1321), (8, 1193), (11, 1379), (16, 1402), (25, 1406), (30, 1333), (41, 1334)] = true := by decide +kernel
theorem em_c141 : em_chk 141 101 ev_code_141 [(1, 104), (6, 1271), (9, 1317), (26, 1271), (29, 1317)] = true := by decide +kernel
theorem em_c142 : em_chk 142 51 ev_code_142 [(3, 1266), (7, 1321), (10, 1193), (13, 1379), (18, 1402), (27, 1406), (32, 1333)] = true := by decide +kernel
theorem em_c143 : em_chk 143 41 ev_code_143 [(4, 1271), (7, 1317)] = true := by decide +kernel
