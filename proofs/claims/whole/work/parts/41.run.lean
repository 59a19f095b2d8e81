/-! the script's run, 1: evaluated by the kernel in pieces -/
theorem em_e1_2 : em_st (ev_rs em_k1_2 ev_code_96 [2, 3, 4] (ev_mk 0 43 200706706786775608273826186820318123199578162 12058503545239875606340262275919149510816107693622 em_m6 4370 0 0)) (ev_mk 0 43 379112668375020593406111933001505015247421490 12058503545239875606340262275919149510816107727926 em_m7 4370 0 0) = true := by decide +kernel
theorem em_c1_2k {l : Launch} {D : Nat → ClassId} {I : Nat → Nat → Nat} : ex_Callee l D I em_k1_2 5 := em_d 5
noncomputable def em_k1_3 : Nat → Nat → ev_M → Nat → ev_St := (ev_dp 5)
theorem em_e1_3 : em_st (ev_rs em_k1_3 ev_code_96 [1, 2, 3, 4] (ev_mk 0 43 379112668375020593406111933001505015247421490 12058503545239875606340262275919149510816107727926 em_m7 4370 0 0)) (ev_mk 0 14 557518629963265578538416568648623385876119602 2553487449350240299240735542 em_m7 4370 0 0) = true := by decide +kernel
theorem em_c1_3k {l : Launch} {D : Nat → ClassId} {I : Nat → Nat → Nat} : ex_Callee l D I em_k1_3 5 := em_d 5
noncomputable def em_m8 : ev_M := ev_wl [(2176, 5)] em_m7
noncomputable def em_k1_4 : Nat → Nat → ev_M → Nat → ev_St := (ev_dp 5)
theorem em_e1_4 : em_st (ev_rs em_k1_4 ev_code_96 [1, 2, 3, 4] (ev_mk 0 14 557518629963265578538416568648623385876119602 2553487449350240299240735542 em_m7 4370 0 0)) (ev_mk 0 43 289909687580898100839987949376843047804354610 12058503545239875606340343273949063690970813024566 em_m8 4370 0 0) = true := by decide +kernel
theorem em_c1_4k {l : Launch} {D : Nat → ClassId} {I : Nat → Nat → Nat} : ex_Callee l D I em_k1_4 5 := em_d 5
noncomputable def em_m9 : ev_M := ev_wl [(2243, 5), (2275, 37)] em_m8
noncomputable def em_k1_5 : Nat → Nat → ev_M → Nat → ev_St := (ev_dp 5)
theorem em_e1_5 : em_st (ev_rs em_k1_5 ev_code_96 [2, 3, 4] (ev_mk 0 43 289909687580898100839987949376843047804354610 12058503545239875606340343273949063690970813024566 em_m8 4370 0 0)) (ev_mk 0 43 468315649169143085972273695558029939852197938 12058503545239875606340343273949063690970813058870 em_m9 4370 0 0) = true := by decide +kernel
theorem em_c1_5k {l : Launch} {D : Nat → ClassId} {I : Nat → Nat → Nat} : ex_Callee l D I em_k1_5 5 := em_d 5
noncomputable def em_k1_6 : Nat → Nat → ev_M → Nat → ev_St := (ev_dp 5)
