/-! every method's words are its code's; the interpreter by depth -/
theorem em_none {i code : Nat} (h : ek_me i = none) : em_all i code := fun y b n r hme => by rw [h] at hme; cases hme
theorem em_j : ∀ i, i < 144 → em_all i (ev_code i)
  | 0, _ => em_none (by decide +kernel)
  | 1, _ => em_chkE em_c1
  | 2, _ => em_chkE em_c2
  | 3, _ => em_chkE em_c3
  | 4, _ => em_chkE em_c4
  | 5, _ => em_chkE em_c5
  | 6, _ => em_chkE em_c6
  | 7, _ => em_chkE em_c7
  | 8, _ => em_chkE em_c8
  | 9, _ => em_chkE em_c9
  | 10, _ => em_chkE em_c10
  | 11, _ => em_chkE em_c11
  | 12, _ => em_chkE em_c12
  | 13, _ => em_chkE em_c13
  | 14, _ => em_chkE em_c14
  | 15, _ => em_none (by decide +kernel)
  | 16, _ => em_chkE em_c16
  | 17, _ => em_chkE em_c17
  | 18, _ => em_chkE em_c18
  | 19, _ => em_chkE em_c19
  | 20, _ => em_chkE em_c20
  | 21, _ => em_chkE em_c21
  | 22, _ => em_chkE em_c22
  | 23, _ => em_chkE em_c23
  | 24, _ => em_chkE em_c24
  | 25, _ => em_chkE em_c25
  | 26, _ => em_chkE em_c26
  | 27, _ => em_chkE em_c27
  | 28, _ => em_chkE em_c28
  | 29, _ => em_chkE em_c29
  | 30, _ => em_chkE em_c30
  | 31, _ => em_chkE em_c31
  | 32, _ => em_chkE em_c32
  | 33, _ => em_chkE em_c33
  | 34, _ => em_chkE em_c34
  | 35, _ => em_chkE em_c35
  | 36, _ => em_chkE em_c36
  | 37, _ => em_chkE em_c37
  | 38, _ => em_chkE em_c38
  | 39, _ => em_chkE em_c39
  | 40, _ => em_chkE em_c40
  | 41, _ => em_chkE em_c41
  | 42, _ => em_chkE em_c42
  | 43, _ => em_chkE em_c43
  | 44, _ => em_chkE em_c44
  | 45, _ => em_chkE em_c45
  | 46, _ => em_chkE em_c46
  | 47, _ => em_chkE em_c47
  | 48, _ => em_chkE em_c48
  | 49, _ => em_chkE em_c49
  | 50, _ => em_chkE em_c50
  | 51, _ => em_chkE em_c51
  | 52, _ => em_chkE em_c52
  | 53, _ => em_chkE em_c53
  | 54, _ => em_chkE em_c54
  | 55, _ => em_chkE em_c55
  | 56, _ => em_chkE em_c56
  | 57, _ => em_chkE em_c57
  | 58, _ => em_chkE em_c58
  | 59, _ => em_chkE em_c59
  | 60, _ => em_chkE em_c60
  | 61, _ => em_chkE em_c61
  | 62, _ => em_chkE em_c62
  | 63, _ => em_chkE em_c63
  | 64, _ => em_chkE em_c64
  | 65, _ => em_chkE em_c65
  | 66, _ => em_chkE em_c66
  | 67, _ => em_chkE em_c67
  | 68, _ => em_chkE em_c68
  | 69, _ => em_chkE em_c69
  | 70, _ => em_chkE em_c70
  | 71, _ => em_chkE em_c71
  | 72, _ => em_chkE em_c72
  | 73, _ => em_chkE em_c73
  | 74, _ => em_chkE em_c74
  | 75, _ => em_chkE em_c75
  | 76, _ => em_chkE em_c76
  | 77, _ => em_chkE em_c77
  | 78, _ => em_chkE em_c78
  | 79, _ => em_chkE em_c79
  | 80, _ => em_chkE em_c80
  | 81, _ => em_chkE em_c81
  | 82, _ => em_chkE em_c82
  | 83, _ => em_chkE em_c83
  | 84, _ => em_chkE em_c84
  | 85, _ => em_chkE em_c85
  | 86, _ => em_chkE em_c86
  | 87, _ => em_chkE em_c87
  | 88, _ => em_chkE em_c88
  | 89, _ => em_chkE em_c89
  | 90, _ => em_chkE em_c90
  | 91, _ => em_chkE em_c91
  | 92, _ => em_chkE em_c92
  | 93, _ => em_chkE em_c93
  | 94, _ => em_chkE em_c94
  | 95, _ => em_chkE em_c95
  | 96, _ => em_chkE em_c96
  | 97, _ => em_chkE em_c97
  | 98, _ => em_chkE em_c98
  | 99, _ => em_chkE em_c99
  | 100, _ => em_chkE em_c100
  | 101, _ => em_chkE em_c101
  | 102, _ => em_chkE em_c102
  | 103, _ => em_chkE em_c103
  | 104, _ => em_chkE em_c104
  | 105, _ => em_chkE em_c105
  | 106, _ => em_chkE em_c106
  | 107, _ => em_chkE em_c107
  | 108, _ => em_chkE em_c108
  | 109, _ => em_chkE em_c109
  | 110, _ => em_chkE em_c110
  | 111, _ => em_chkE em_c111
  | 112, _ => em_chkE em_c112
  | 113, _ => em_chkE em_c113
  | 114, _ => em_chkE em_c114
  | 115, _ => em_chkE em_c115
  | 116, _ => em_chkE em_c116
  | 117, _ => em_chkE em_c117
  | 118, _ => em_chkE em_c118
  | 119, _ => em_chkE em_c119
  | 120, _ => em_chkE em_c120
  | 121, _ => em_chkE em_c121
  | 122, _ => em_chkE em_c122
  | 123, _ => em_chkE em_c123
  | 124, _ => em_chkE em_c124
  | 125, _ => em_chkE em_c125
  | 126, _ => em_chkE em_c126
  | 127, _ => em_chkE em_c127
  | 128, _ => em_chkE em_c128
  | 129, _ => em_chkE em_c129
  | 130, _ => em_chkE em_c130
  | 131, _ => em_chkE em_c131
  | 132, _ => em_chkE em_c132
  | 133, _ => em_chkE em_c133
  | 134, _ => em_chkE em_c134
  | 135, _ => em_chkE em_c135
  | 136, _ => em_chkE em_c136
  | 137, _ => em_chkE em_c137
  | 138, _ => em_chkE em_c138
  | 139, _ => em_chkE em_c139
  | 140, _ => em_chkE em_c140
  | 141, _ => em_chkE em_c141
  | 142, _ => em_chkE em_c142
  | 143, _ => em_chkE em_c143
  | n + 144, h => absurd h (by omega)
theorem em_hall (i : Nat) (y : MethodName) (b : ByteArray) (n : Nat) (r : Option FieldType) (h : ek_me i = some (y, b, n, r)) : plainName y.cls = true ∧ ∃ xs, em_ok y.cls y.name b r n (ev_code i) xs := by
  by_cases hi : i < 144
  · exact em_j i hi y b n r h
  · exfalso
    have hl : ek_ci.length = 144 := by decide +kernel
    have h2 : ek_ci[i]? = none := List.getElem?_eq_none (by omega)
    unfold ek_me at h
    rw [h2] at h
    cases h
noncomputable def ev_dp (d : Nat) : Nat → Nat → ev_M → Nat → ev_St := Nat.rec (motive := fun _ => Nat → Nat → ev_M → Nat → ev_St) (fun _ _ M _ => ev_bad M) (fun _ ih => ev_m1 13 ih) d
/-- what the interpreter answers, the machine does: every method, at every depth -/
theorem em_d {l : Launch} {D : Nat → ClassId} {I : Nat → Nat → Nat} : ∀ d, ex_Callee l D I (ev_dp d) d := by
  intro d
  induction d with
  | zero => exact fun i L M top al B H vs y bytes maxL ret _ _ _ _ _ _ h1 => absurd (show (2 : Nat) = 1 from h1) (by decide)
  | succ d ih => exact em_callee ih em_hall
