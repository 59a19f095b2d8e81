/-! the script's run, 2: evaluated by the kernel in pieces -/
theorem em_e1_6 : em_st (ev_rs em_k1_6 ev_code_96 [8] (ev_mk 0 43 468315649169143085972273695558029939852197938 12058503545239875606340343273949063690970813058870 em_m9 4370 0 0)) (ev_mk 1 0 0 5 em_m9 4370 0 0) = true := by decide +kernel
theorem em_c1_6k {l : Launch} {D : Nat → ClassId} {I : Nat → Nat → Nat} : ex_Callee l D I em_k1_6 5 := em_d 5
theorem em_f1 {l : Launch} {D : Nat → ClassId} {I : Nat → Nat → Nat} : em_F l D I 6 96 540722 em_m4 4370 (ev_mk 1 0 0 5 em_m9 4370 0 0) := em_FP fun y bytes maxL ret xs hok0 => (fun (hok : em_ok y.cls y.name bytes ret maxL ev_code_96 xs) => em_Prs em_c1_0k hok em_e1_0 (em_Prs em_c1_1k hok em_e1_1 (em_Prs em_c1_2k hok em_e1_2 (em_Prs em_c1_3k hok em_e1_3 (em_Prs em_c1_4k hok em_e1_4 (em_Prs em_c1_5k hok em_e1_5 (em_Prs em_c1_6k hok em_e1_6 (em_Pend rfl)))))))) hok0
noncomputable def em_k2_0 : Nat → Nat → ev_M → Nat → ev_St := (ev_kn 96 540722 4370 em_m4 (ev_mk 1 0 0 5 em_m9 4370 0 0) (ev_kn 55 110539783202401028331229282741832465242549304086614197079367307969970226 4121 em_m2 (ev_mk 1 0 0 65671334597090536691 em_m4 4370 3 246) (ev_dp 8)))
theorem em_e2_0 : em_st (ev_rs em_k2_0 ev_code_45 [8] (ev_mk 0 0 540722 0 em_m1 4100 0 0)) (ev_mk 1 0 0 32401674142365518231 em_m9 4370 5 266) = true := by decide +kernel
theorem em_c2_0k {l : Launch} {D : Nat → ClassId} {I : Nat → Nat → Nat} : ex_Callee l D I em_k2_0 8 := em_Fkn (em_Fkn (em_d 8) (em_Fd (by decide) em_f0)) (em_Fd (by decide) em_f1)
theorem em_f2 {l : Launch} {D : Nat → ClassId} {I : Nat → Nat → Nat} : em_F l D I 9 45 540722 em_m1 4100 (ev_mk 1 0 0 32401674142365518231 em_m9 4370 5 266) := em_FP fun y bytes maxL ret xs hok0 => (fun (hok : em_ok y.cls y.name bytes ret maxL ev_code_45 xs) => em_Prs em_c2_0k hok em_e2_0 (em_Pend rfl)) hok0
noncomputable def em_m10 : ev_M := ev_wl [(4370, 93), (4371, 89), (4372, 117), (4373, 701738)] em_m9
noncomputable def em_k3_0 : Nat → Nat → ev_M → Nat → ev_St := (ev_dp 5)
theorem em_e3_0 : em_st (ev_rs em_k3_0 ev_code_140 [0, 2, 3, 4, 6, 8] (ev_mk 0 0 22300745198530623141540440639131231151888966 0 em_m9 4370 0 0)) (ev_mk 0 41 417468044339467201024610340373186682855059189623999444431130887736867307744871563129959127622 15495762004179797612388659989345171068746161193053 em_m10 4374 1 4) = true := by decide +kernel
theorem em_c3_0k {l : Launch} {D : Nat → ClassId} {I : Nat → Nat → Nat} : ex_Callee l D I em_k3_0 5 := em_d 5
noncomputable def em_m11 : ev_M := ev_wl [(4370, 117), (4371, 113)] em_m10
noncomputable def em_k3_1 : Nat → Nat → ev_M → Nat → ev_St := (ev_dp 5)
theorem em_e3_1 : em_st (ev_rs em_k3_1 ev_code_140 [7] (ev_mk 0 41 417468044339467201024610340373186682855059189623999444431130887736867307744871563129959127622 15495762004179797612388659989345171068746161193053 em_m10 4374 1 4)) (ev_mk 1 0 0 5 em_m11 4374 1 4) = true := by decide +kernel
theorem em_c3_1k {l : Launch} {D : Nat → ClassId} {I : Nat → Nat → Nat} : ex_Callee l D I em_k3_1 5 := em_d 5
theorem em_l3 : em_low 4370 em_m9 em_m11 = true := by decide +kernel
theorem em_g3 {l : Launch} {D : Nat → ClassId} {I : Nat → Nat → Nat} : em_F l D I 6 140 22300745198530623141540440639131231151888966 em_m9 4370 (ev_mk 1 0 0 5 em_m11 4374 1 4) := em_FP fun y bytes maxL ret xs hok0 => (fun (hok : em_ok y.cls y.name bytes ret maxL ev_code_140 xs) => em_Prs em_c3_0k hok em_e3_0 (em_Prs em_c3_1k hok em_e3_1 (em_Pend rfl))) hok0
theorem em_f3 {l : Launch} {D : Nat → ClassId} {I : Nat → Nat → Nat} : em_F l D I 6 140 22300745198530623141540440639131231151888966 em_m9 4370 (ev_mk 1 0 0 5 em_m9 4370 1 4) := em_Fforget em_g3 em_l3 rfl
noncomputable def em_k4_0 : Nat → Nat → ev_M → Nat → ev_St := (ev_kn 140 22300745198530623141540440639131231151888966 4370 em_m9 (ev_mk 1 0 0 5 em_m9 4370 1 4) (ev_dp 6))
theorem em_e4_0 : em_st (ev_rs em_k4_0 ev_code_139 [4] (ev_mk 0 0 22300745198530623141540440639131231151888966 0 em_m9 4370 0 0)) (ev_mk 1 0 0 5 em_m9 4370 2 8) = true := by decide +kernel
theorem em_c4_0k {l : Launch} {D : Nat → ClassId} {I : Nat → Nat → Nat} : ex_Callee l D I em_k4_0 6 := em_Fkn (em_d 6) (em_Fd (by decide) em_f3)
theorem em_l4 : em_low 4370 em_m9 em_m9 = true := by decide +kernel
theorem em_g4 {l : Launch} {D : Nat → ClassId} {I : Nat → Nat → Nat} : em_F l D I 7 139 22300745198530623141540440639131231151888966 em_m9 4370 (ev_mk 1 0 0 5 em_m9 4370 2 8) := em_FP fun y bytes maxL ret xs hok0 => (fun (hok : em_ok y.cls y.name bytes ret maxL ev_code_139 xs) => em_Prs em_c4_0k hok em_e4_0 (em_Pend rfl)) hok0
theorem em_f4 {l : Launch} {D : Nat → ClassId} {I : Nat → Nat → Nat} : em_F l D I 7 139 22300745198530623141540440639131231151888966 em_m9 4370 (ev_mk 1 0 0 5 em_m9 4370 2 8) := em_Fforget em_g4 em_l4 rfl
noncomputable def em_m12 : ev_M := ev_wl [(4370, 93), (4371, 89), (4372, 117), (4373, 705322)] em_m9
noncomputable def em_k5_0 : Nat → Nat → ev_M → Nat → ev_St := (ev_dp 5)
