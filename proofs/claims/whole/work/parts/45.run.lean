/-! the script's run, 5: evaluated by the kernel in pieces -/
theorem em_e8_1 : em_st (ev_rs em_k8_1 ev_code_55 [8] (ev_mk 0 68 31792740811379119989665704722097514096337388730920648709389287667458043117216788436383424059772925861073553798464378609673492065407953979994951480023286562866 2866618126096360734071001638 em_m22 4640 3 246)) (ev_mk 1 0 0 65671334597090536691 em_m23 4640 3 246) = true := by decide +kernel
theorem em_c8_1k {l : Launch} {D : Nat → ClassId} {I : Nat → Nat → Nat} : ex_Callee l D I em_k8_1 7 := em_d 7
theorem em_f8 {l : Launch} {D : Nat → ClassId} {I : Nat → Nat → Nat} : em_F l D I 8 55 117818968802531701075789376815327765524431333080700151649265282737258546 em_m21 4391 (ev_mk 1 0 0 65671334597090536691 em_m23 4640 3 246) := em_FP fun y bytes maxL ret xs hok0 => (fun (hok : em_ok y.cls y.name bytes ret maxL ev_code_55 xs) => em_Prs em_c8_0k hok em_e8_0 (em_Prs em_c8_1k hok em_e8_1 (em_Pend rfl))) hok0
noncomputable def em_m24 : ev_M := ev_wl [(2176, 1)] em_m23
noncomputable def em_k9_0 : Nat → Nat → ev_M → Nat → ev_St := (ev_dp 5)
theorem em_e9_0 : em_st (ev_rs em_k9_0 ev_code_96 [0, 3, 4] (ev_mk 0 0 540722 0 em_m23 4640 0 0)) (ev_mk 0 43 111503725992653115707683313729724677175656498 12058503545239875606340262275919149510816107676470 em_m24 4640 0 0) = true := by decide +kernel
theorem em_c9_0k {l : Launch} {D : Nat → ClassId} {I : Nat → Nat → Nat} : ex_Callee l D I em_k9_0 5 := em_d 5
noncomputable def em_m25 : ev_M := ev_wl [(2173, 4294967281), (2174, 113), (2176, 9), (2177, 13), (2178, 17), (2179, 21), (2180, 25), (2181, 29), (2182, 33), (2183, 37), (2184, 41), (2185, 45), (2186, 49), (2187, 53), (2188, 57), (2189, 61), (2190, 65), (2191, 69), (2192, 73), (2193, 77), (2194, 81), (2195, 85), (2196, 89), (2197, 93), (2198, 97), (2199, 101), (2200, 105), (2201, 109), (2202, 113), (2203, 117)] em_m24
noncomputable def em_k9_1 : Nat → Nat → ev_M → Nat → ev_St := (ev_dp 5)
theorem em_e9_1 : em_st (ev_rs em_k9_1 ev_code_96 [1, 2, 3] (ev_mk 0 43 111503725992653115707683313729724677175656498 12058503545239875606340262275919149510816107676470 em_m24 4640 0 0)) (ev_mk 0 43 200706706786775608273826186820318123199578162 12058503545239875606340262275919149510816107693622 em_m25 4640 0 0) = true := by decide +kernel
theorem em_c9_1k {l : Launch} {D : Nat → ClassId} {I : Nat → Nat → Nat} : ex_Callee l D I em_k9_1 5 := em_d 5
noncomputable def em_m26 : ev_M := ev_wl [(2173, 1), (2174, 1), (2176, 1), (2177, 9), (2178, 13), (2179, 17), (2180, 21), (2181, 25), (2182, 29), (2183, 33), (2184, 37), (2185, 41), (2186, 45), (2187, 49), (2188, 53), (2189, 57), (2190, 61), (2191, 65), (2192, 69), (2193, 73), (2194, 77), (2195, 81), (2196, 85), (2197, 89), (2198, 93), (2199, 97), (2200, 101), (2201, 105), (2202, 109), (2203, 113), (2243, 1)] em_m25
noncomputable def em_k9_2 : Nat → Nat → ev_M → Nat → ev_St := (ev_dp 5)
theorem em_e9_2 : em_st (ev_rs em_k9_2 ev_code_96 [2, 3, 4] (ev_mk 0 43 200706706786775608273826186820318123199578162 12058503545239875606340262275919149510816107693622 em_m25 4640 0 0)) (ev_mk 0 43 379112668375020593406111933001505015247421490 12058503545239875606340262275919149510816107727926 em_m26 4640 0 0) = true := by decide +kernel
theorem em_c9_2k {l : Launch} {D : Nat → ClassId} {I : Nat → Nat → Nat} : ex_Callee l D I em_k9_2 5 := em_d 5
noncomputable def em_k9_3 : Nat → Nat → ev_M → Nat → ev_St := (ev_dp 5)
