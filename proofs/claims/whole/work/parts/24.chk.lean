/-! the methods' words, 1 -/
theorem em_c27 : em_chk 27 7 ev_code_27 [(3, 1305)] = true := by decide +kernel
theorem em_c28 : em_chk 28 15 ev_code_28 [] = true := by decide +kernel
theorem em_c29 : em_chk 29 24 ev_code_29 [(3, 1305), (12, 1305)] = true := by decide +kernel
theorem em_c30 : em_chk 30 42 ev_code_30 [(26, 1265), (30, 1265)] = true := by decide +kernel
theorem em_c31 : em_chk 31 108 ev_code_31 [(8, 1317), (19, 1321), (22, 1333), (27, 1334), (37, 1266), (41, 1321), (44, 1193), (48, 104), (55, 1321), (58, 1333), (69, 1321), (72, 1333), (78, 1220), (93, 1272), (98, 1272), (104, 1340)] = true := by decide +kernel
theorem em_c32 : em_chk 32 5 ev_code_32 [(1, 1208)] = true := by decide +kernel
theorem em_c33 : em_chk 33 15 ev_code_33 [(2, 1208), (5, 1325), (11, 1329)] = true := by decide +kernel
theorem em_c34 : em_chk 34 7 ev_code_34 [(3, 1328)] = true := by decide +kernel
theorem em_c35 : em_chk 35 18 ev_code_35 [] = true := by decide +kernel
theorem em_c36 : em_chk 36 7 ev_code_36 [(1, 1206)] = true := by decide +kernel
theorem em_c37 : em_chk 37 16 ev_code_37 [(3, 1337)] = true := by decide +kernel
theorem em_c38 : em_chk 38 54 ev_code_38 [(4, 1266), (8, 1321), (11, 1193), (14, 1317), (21, 1266), (25, 1321), (28, 1193), (32, 1321), (35, 1333)] = true := by decide +kernel
theorem em_c39 : em_chk 39 12 ev_code_39 [(7, 1343)] = true := by decide +kernel
theorem em_c40 : em_chk 40 36 ev_code_40 [(13, 1268)] = true := by decide +kernel
theorem em_c41 : em_chk 41 5 ev_code_41 [(1, 1265)] = true := by decide +kernel
theorem em_c42 : em_chk 42 21 ev_code_42 [(3, 253), (14, 256)] = true := by decide +kernel
theorem em_c43 : em_chk 43 10 ev_code_43 [(3, 1237), (6, 1258)] = true := by decide +kernel
theorem em_c44 : em_chk 44 40 ev_code_44 [(1, 1261), (7, 1262), (32, 270), (35, 273)] = true := by decide +kernel
theorem em_c45 : em_chk 45 124 ev_code_45 [(0, 192), (4, 194), (8, 613), (25, 614), (29, 634), (42, 638), (48, 726), (65, 627), (68, 729), (72, 634), (84, 733), (90, 652), (94, 157), (98, 224), (103, 713), (109, 764), (120, 634)] = true := by decide +kernel
theorem em_c46 : em_chk 46 7 ev_code_46 [(3, 197)] = true := by decide +kernel
theorem em_c47 : em_chk 47 39 ev_code_47 [(1, 200), (4, 201), (12, 223), (14, 209), (19, 210)] = true := by decide +kernel
theorem em_c48 : em_chk 48 60 ev_code_48 [(33, 617), (38, 157), (41, 620), (46, 624), (51, 161), (56, 162)] = true := by decide +kernel
theorem em_c49 : em_chk 49 29 ev_code_49 [(13, 514), (16, 575)] = true := by decide +kernel
theorem em_c50 : em_chk 50 5 ev_code_50 [(1, 126)] = true := by decide +kernel
theorem em_c51 : em_chk 51 8 ev_code_51 [(1, 637)] = true := by decide +kernel
theorem em_c52 : em_chk 52 5 ev_code_52 [(1, 96)] = true := by decide +kernel
theorem em_c53 : em_chk 53 31 ev_code_53 [(11, 627), (14, 630)] = true := by decide +kernel
theorem em_c54 : em_chk 54 13 ev_code_54 [(1, 142)] = true := by decide +kernel
theorem em_c55 : em_chk 55 88 ev_code_55 [(16, 514), (25, 575), (29, 634), (38, 589), (42, 634), (51, 641), (55, 634), (62, 652), (68, 709), (74, 713)] = true := by decide +kernel
theorem em_c56 : em_chk 56 31 ev_code_56 [(6, 126), (15, 553), (18, 4119)] = true := by decide +kernel
theorem em_c57 : em_chk 57 32 ev_code_57 [(6, 126), (14, 123), (22, 123)] = true := by decide +kernel
