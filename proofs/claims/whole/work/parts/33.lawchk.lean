/-! the law's helpers and the law: their words are their codes -/
noncomputable def em_chkL (N cw : Nat) (xl : List (Nat × Nat)) : Bool := Bool.and (Nat.beq (Nat.shiftRight cw (Nat.mul 64 N)) 0) ((List.range N).all fun pc => Bool.or (Nat.beq (ev_w cw pc % 128) 0) (ib_atL "SetsalikeLaw" "law" code ret 7 pc (ev_w cw pc) (em_x xl pc)))
theorem em_chkLE {N cw : Nat} {xl : List (Nat × Nat)} (h : em_chkL N cw xl = true) : em_okL "SetsalikeLaw" "law" code ret 7 cw (em_x xl) := by
  intro pc
  obtain ⟨h3, h4⟩ := Bool.and_eq_true_iff.mp h
  by_cases hp : pc < N
  · rcases Bool.or_eq_true_iff.mp (List.all_eq_true.mp h4 pc (List.mem_range.mpr hp)) with z | z
    · exact Or.inl (ev_beqE.mp z)
    · exact Or.inr z
  · exact Or.inl (em_hi h3 hp)
theorem em_w15 : em_chkW 15 26 ev_code_15 [(6, 780), (10, 4138)] = true := by decide +kernel
theorem em_l : em_chkL 3103 ev_code_0 [(0, 79), (4, 81), (8, 1187), (12, 1189), (16, 765), (20, 4137), (264, 775), (288, 1298), (294, 1294), (310, 4138), (3082, 609), (3086, 1671)] = true := by decide +kernel
/-- the law's helpers, at every depth -/
theorem em_dW {l : Launch} {D : Nat → ClassId} {I : Nat → Nat → Nat} (d : Nat) : ex_CalleeW l D I (ev_dp (d + 1)) (d + 1) := by
  intro i L M top al B H vs y bytes maxL ret hh hme hav hfit hR hcst hC h1
  have hi : i = 15 := by
    by_cases h15 : i = 15
    · exact h15
    · exfalso
      unfold ek_mw at hme
      have hn : ek_cw.find? (fun q => Nat.beq q.1 i) = none := by
        rw [List.find?_eq_none]
        intro q hq
        have : q = (15, 777) := by simpa [ek_cw] using hq
        subst this
        exact fun z => h15 (ev_beqE.mp z).symm
      rw [hn] at hme
      cases hme
  subst hi
  obtain ⟨hpl, xs, hok⟩ := em_chkWE em_w15 hme
  exact em_bodyW (i := 15) (k := 13) (xs := xs) (em_d d) hpl hok hav hfit hR hcst hC rfl h1
