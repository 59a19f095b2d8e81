/-! the methods' words are their codes': each method by its number -/
def em_x (xl : List (Nat × Nat)) (pc : Nat) : Nat := match xl.find? (fun q => Nat.beq q.1 pc) with
  | some q => q.2
  | none => 9999
noncomputable def em_chk (i N code : Nat) (xl : List (Nat × Nat)) : Bool := match ek_me i with
  | none => true
  | some (y, b, n, r) => Bool.and (plainName y.cls) (Bool.and (Nat.beq (Nat.shiftRight code (Nat.mul 64 N)) 0) ((List.range N).all fun pc => Bool.or (Nat.beq (ev_w code pc % 128) 0) (ib_at y.cls y.name b r n pc (ev_w code pc) (em_x xl pc))))
def em_all (i code : Nat) : Prop := ∀ (y : MethodName) (b : ByteArray) (n : Nat) (r : Option FieldType), ek_me i = some (y, b, n, r) → plainName y.cls = true ∧ ∃ xs, em_ok y.cls y.name b r n code xs
theorem em_chkE {i N code : Nat} {xl : List (Nat × Nat)} (h : em_chk i N code xl = true) : em_all i code := by
  intro y b n r hme
  unfold em_chk at h
  rw [hme] at h
  obtain ⟨h1, h2⟩ := Bool.and_eq_true_iff.mp h
  obtain ⟨h3, h4⟩ := Bool.and_eq_true_iff.mp h2
  refine ⟨h1, em_x xl, fun pc => ?_⟩
  by_cases hp : pc < N
  · rcases Bool.or_eq_true_iff.mp (List.all_eq_true.mp h4 pc (List.mem_range.mpr hp)) with z | z
    · exact Or.inl (ev_beqE.mp z)
    · exact Or.inr z
  · left
    have h5 : code / 2 ^ (64 * N) = 0 := by
      have := ev_beqE.mp h3
      rw [show Nat.shiftRight code (Nat.mul 64 N) = code / 2 ^ (64 * N) from Nat.shiftRight_eq_div_pow _ _] at this
      exact this
    have h6 : code / 2 ^ (64 * pc) = 0 := by
      rw [show 64 * pc = 64 * N + 64 * (pc - N) by omega, Nat.pow_add, ← Nat.div_div_eq_div_mul, h5, Nat.zero_div]
    unfold ev_w
    rw [show Nat.shiftRight code (Nat.mul 64 pc) = code / 2 ^ (64 * pc) from Nat.shiftRight_eq_div_pow _ _, h6]
    rfl
theorem em_c1 : em_chk 1 148 ev_code_1 [(1, 84), (7, 87), (10, 155), (15, 88), (18, 156), (22, 89), (26, 4096), (29, 157), (33, 105), (37, 4097), (40, 158), (44, 87), (49, 118), (52, 159), (56, 87), (61, 118), (64, 160), (69, 161), (74, 162), (81, 155), (89, 155), (93, 87), (107, 118), (121, 156), (129, 156), (133, 88), (137, 4098)] = true := by decide +kernel
theorem em_c2 : em_chk 2 1 ev_code_2 [] = true := by decide +kernel
theorem em_c3 : em_chk 3 26 ev_code_3 [(1, 93), (7, 104), (9, 94), (15, 104), (17, 95), (22, 96)] = true := by decide +kernel
theorem em_c20 : em_chk 20 22 ev_code_20 [] = true := by decide +kernel
