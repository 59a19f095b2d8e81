/-! the methods' words are their codes': each method by its number -/
def em_x (xl : List (Nat × Nat)) (pc : Nat) : Nat := match xl.find? (fun q => Nat.beq q.1 pc) with
  | some q => q.2
  | none => 9999
noncomputable def em_chk (i N code : Nat) (xl : List (Nat × Nat)) : Bool := match ek_me i with
  | none => true
  | some (y, b, n, r) => Bool.and (plainName y.cls) (Bool.and (Nat.beq (Nat.shiftRight code (Nat.mul 64 N)) 0) ((List.range N).all fun pc => Bool.or (Nat.beq (ev_w code pc % 128) 0) (ib_at y.cls y.name b r n pc (ev_w code pc) (em_x xl pc))))
def em_all (i code : Nat) : Prop := ∀ (y : MethodName) (b : ByteArray) (n : Nat) (r : Option FieldType), ek_me i = some (y, b, n, r) → plainName y.cls = true ∧ ∃ xs, em_ok y.cls y.name b r n code xs
theorem em_chkE {i N code : Nat} {xl : List (Nat × Nat)} (h : em_chk i N code xl = true) : em_all i code := by
  intro y b n r hme
  unfold em_chk at h
  rw [hme] at h
  obtain ⟨h1, h2⟩ := Bool.and_eq_true_iff.mp h
  obtain ⟨h3, h4⟩ := Bool.and_eq_true_iff.mp h2
  refine ⟨h1, em_x xl, fun pc => ?_⟩
  by_cases hp : pc < N
  · rcases Bool.or_eq_true_iff.mp (List.all_eq_true.mp h4 pc (List.mem_range.mpr hp)) with z | z
    · exact Or.inl (ev_beqE.mp z)
    · exact Or.inr z
  · left
    have h5 : code / 2 ^ (64 * N) = 0 := by
      have := ev_beqE.mp h3
      rw [show Nat.shiftRight code (Nat.mul 64 N) = code / 2 ^ (64 * N) from Nat.shiftRight_eq_div_pow _ _] at this
      exact this
    have h6 : code / 2 ^ (64 * pc) = 0 := by
      rw [show 64 * pc = 64 * N + 64 * (pc - N) by omega, Nat.pow_add, ← Nat.div_div_eq_div_mul, h5, Nat.zero_div]
    unfold ev_w
    rw [show Nat.shiftRight code (Nat.mul 64 pc) = code / 2 ^ (64 * pc) from Nat.shiftRight_eq_div_pow _ _, h6]
theorem em_c1 : em_chk 1 148 ev_code_1 [(1, 84), (7, 87), (10, 155), (15, 88), (18, 156), (22, 89), (26, 4096), (29, 157), (33, 105), (37, 4097), (40, 158), (44, 87), (49, 118), (52, 159), (56, 87), (61, 118), (64, 160), (69, 161), (74, 162), (81, 155), (89, 155), (93, 87), (107, 118), (121, 156), (129, 156), (133, 88), (137, 4098)] = true := by decide +kernel
theorem em_c2 : em_chk 2 26 ev_code_2 [(1, 93), (7, 104), (9, 94), (15, 104), (17, 95), (22, 96)] = true := by decide +kernel
theorem em_c3 : em_chk 3 18 ev_code_3 [(1, 109), (7, 104), (9, 110), (14, 111)] = true := by decide +kernel
theorem em_c4 : em_chk 4 36 ev_code_4 [(1, 121), (7, 104), (9, 123), (15, 104), (17, 124), (22, 125), (27, 126), (32, 122)] = true := by decide +kernel
theorem em_c5 : em_chk 5 25 ev_code_5 [(1, 141), (6, 142), (11, 143), (16, 144), (21, 145)] = true := by decide +kernel
theorem em_c6 : em_chk 6 96 ev_code_6 [(1, 1192), (5, 1193), (9, 1195), (12, 1266), (16, 1193), (20, 1195), (23, 1267), (28, 104), (38, 1268), (43, 104), (45, 1269), (50, 1293), (52, 1270), (56, 1193), (60, 1195), (63, 1271), (75, 1266), (78, 1193), (82, 1195), (85, 1220)] = true := by decide +kernel
theorem em_c7 : em_chk 7 12 ev_code_7 [(1, 1198), (5, 1205), (8, 1206)] = true := by decide +kernel
theorem em_c8 : em_chk 8 10 ev_code_8 [(1, 1201), (6, 1209)] = true := by decide +kernel
theorem em_c9 : em_chk 9 5 ev_code_9 [(1, 1204)] = true := by decide +kernel
theorem em_c10 : em_chk 10 25 ev_code_10 [(2, 1212), (7, 1212), (13, 1206), (17, 1208), (20, 1224)] = true := by decide +kernel
theorem em_c11 : em_chk 11 23 ev_code_11 [(7, 1227), (19, 1208)] = true := by decide +kernel
theorem em_c12 : em_chk 12 11 ev_code_12 [(2, 1208), (7, 1230)] = true := by decide +kernel
theorem em_c13 : em_chk 13 60 ev_code_13 [(1, 1206), (11, 1206), (14, 1205), (27, 1233), (33, 1206), (37, 1234), (41, 1206), (49, 1263), (52, 1264), (56, 1206)] = true := by decide +kernel
theorem em_c14 : em_chk 14 5 ev_code_14 [(1, 769)] = true := by decide +kernel
theorem em_c16 : em_chk 16 36 ev_code_16 [(2, 514), (8, 784), (12, 789), (21, 792), (32, 793)] = true := by decide +kernel
theorem em_c17 : em_chk 17 41 ev_code_17 [(6, 155), (14, 155)] = true := by decide +kernel
theorem em_c18 : em_chk 18 22 ev_code_18 [] = true := by decide +kernel
theorem em_c19 : em_chk 19 22 ev_code_19 [] = true := by decide +kernel
theorem em_c20 : em_chk 20 133 ev_code_20 [(6, 124), (14, 126), (21, 126), (25, 123), (35, 125), (48, 126), (53, 122), (64, 123), (96, 123), (103, 124), (111, 125), (118, 125), (123, 126), (128, 126)] = true := by decide +kernel
theorem em_c21 : em_chk 21 17 ev_code_21 [(2, 161), (7, 161), (13, 796)] = true := by decide +kernel
theorem em_c22 : em_chk 22 14 ev_code_22 [(9, 799)] = true := by decide +kernel
theorem em_c23 : em_chk 23 40 ev_code_23 [(9, 627), (21, 729)] = true := by decide +kernel
theorem em_c24 : em_chk 24 41 ev_code_24 [(6, 156), (14, 156)] = true := by decide +kernel
theorem em_c25 : em_chk 25 5 ev_code_25 [(1, 143)] = true := by decide +kernel
theorem em_c26 : em_chk 26 53 ev_code_26 [(2, 1302), (7, 1308), (11, 1311), (19, 1193), (23, 1195), (31, 104), (41, 1220), (49, 1314)] = true := by decide +kernel
