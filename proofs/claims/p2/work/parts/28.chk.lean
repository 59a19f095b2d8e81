/-! the methods' words, 5 -/
theorem em_c127 : em_chk 127 86 ev_code_127 [(1, 1443), (8, 1266), (12, 1321), (15, 1193), (18, 1495), (22, 1193), (26, 1195), (41, 1334), (82, 1495)] = true := by decide +kernel
theorem em_c128 : em_chk 128 81 ev_code_128 [(7, 1317), (13, 1498), (17, 1499), (21, 1500), (35, 1500), (40, 1321), (43, 1333), (48, 1501), (53, 1500), (58, 1321), (61, 1333), (66, 1501), (69, 1502)] = true := by decide +kernel
theorem em_c129 : em_chk 129 8 ev_code_129 [(2, 425)] = true := by decide +kernel
theorem em_c130 : em_chk 130 45 ev_code_130 [(10, 434), (16, 213), (21, 244), (26, 213), (30, 443), (35, 213), (40, 213)] = true := by decide +kernel
theorem em_c131 : em_chk 131 11 ev_code_131 [(1, 495), (6, 438)] = true := by decide +kernel
theorem em_c132 : em_chk 132 15 ev_code_132 [(0, 442), (7, 496)] = true := by decide +kernel
theorem em_c133 : em_chk 133 19 ev_code_133 [(2, 446), (7, 209), (12, 210), (15, 450)] = true := by decide +kernel
theorem em_c134 : em_chk 134 22 ev_code_134 [(0, 201), (7, 210), (11, 449)] = true := by decide +kernel
theorem em_c135 : em_chk 135 44 ev_code_135 [(1, 438), (9, 495), (18, 495), (22, 454)] = true := by decide +kernel
theorem em_c136 : em_chk 136 9 ev_code_136 [(0, 360), (5, 362)] = true := by decide +kernel
theorem em_c137 : em_chk 137 7 ev_code_137 [(3, 365)] = true := by decide +kernel
theorem em_c138 : em_chk 138 98 ev_code_138 [(1, 368), (5, 369), (10, 374), (16, 375), (24, 496), (32, 376), (35, 495)] = true := by decide +kernel
theorem em_c139 : em_chk 139 5 ev_code_139 [(1, 209)] = true := by decide +kernel
theorem em_c140 : em_chk 140 17 ev_code_140 [(13, 379)] = true := by decide +kernel
theorem em_c141 : em_chk 141 33 ev_code_141 [(2, 382), (10, 223), (24, 270), (27, 273)] = true := by decide +kernel
theorem em_c142 : em_chk 142 38 ev_code_142 [] = true := by decide +kernel
theorem em_c143 : em_chk 143 36 ev_code_143 [(8, 1680), (15, 1676), (22, 1681)] = true := by decide +kernel
theorem em_c144 : em_chk 144 16 ev_code_144 [(1, 1685), (8, 495), (12, 1689)] = true := by decide +kernel
theorem em_c145 : em_chk 145 19 ev_code_145 [(0, 442), (7, 496)] = true := by decide +kernel
theorem em_c146 : em_chk 146 15 ev_code_146 [(3, 1692)] = true := by decide +kernel
theorem em_c147 : em_chk 147 24 ev_code_147 [(3, 1536), (12, 1536)] = true := by decide +kernel
theorem em_c148 : em_chk 148 54 ev_code_148 [(1, 1266), (5, 1321), (8, 1193), (11, 1379), (16, 1402), (25, 1406), (30, 1333), (41, 1334)] = true := by decide +kernel
theorem em_c149 : em_chk 149 101 ev_code_149 [(1, 104), (6, 1271), (9, 1317), (26, 1271), (29, 1317)] = true := by decide +kernel
theorem em_c150 : em_chk 150 51 ev_code_150 [(3, 1266), (7, 1321), (10, 1193), (13, 1379), (18, 1402), (27, 1406), (32, 1333)] = true := by decide +kernel
theorem em_c151 : em_chk 151 41 ev_code_151 [(4, 1271), (7, 1317)] = true := by decide +kernel
