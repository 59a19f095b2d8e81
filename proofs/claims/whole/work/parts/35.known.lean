/-! a known answer of one call, put before the callee -/
noncomputable def em_st (a b : ev_St) : Bool := ev_un a fun a1 a2 a3 a4 M a6 a7 a8 => ev_un b fun b1 b2 b3 b4 N b6 b7 b8 =>
  Bool.and (Nat.beq a1 b1) (Bool.and (Nat.beq a2 b2) (Bool.and (Nat.beq a3 b3) (Bool.and (Nat.beq a4 b4) (Bool.and (em_eq 9 M N) (Bool.and (Nat.beq a6 b6) (Bool.and (Nat.beq a7 b7) (Nat.beq a8 b8)))))))
theorem em_stE {a b : ev_St} (h : em_st a b = true) : a = b := by
  obtain ⟨a1, a2, a3, a4, M, a6, a7, a8⟩ := a
  obtain ⟨b1, b2, b3, b4, N, b6, b7, b8⟩ := b
  have h : Bool.and (Nat.beq a1 b1) (Bool.and (Nat.beq a2 b2) (Bool.and (Nat.beq a3 b3) (Bool.and (Nat.beq a4 b4) (Bool.and (em_eq 9 M N) (Bool.and (Nat.beq a6 b6) (Bool.and (Nat.beq a7 b7) (Nat.beq a8 b8))))))) = true := h
  obtain ⟨h1, h⟩ := Bool.and_eq_true_iff.mp h
  obtain ⟨h2, h⟩ := Bool.and_eq_true_iff.mp h
  obtain ⟨h3, h⟩ := Bool.and_eq_true_iff.mp h
  obtain ⟨h4, h⟩ := Bool.and_eq_true_iff.mp h
  obtain ⟨h5, h⟩ := Bool.and_eq_true_iff.mp h
  obtain ⟨h6, h⟩ := Bool.and_eq_true_iff.mp h
  obtain ⟨h7, h8⟩ := Bool.and_eq_true_iff.mp h
  rw [ev_beqE.mp h1, ev_beqE.mp h2, ev_beqE.mp h3, ev_beqE.mp h4, em_eqE 9 _ _ h5, ev_beqE.mp h6, ev_beqE.mp h7, ev_beqE.mp h8]
noncomputable def ev_kn (i0 L0 top0 : Nat) (M0 : ev_M) (res : ev_St) (call : Nat → Nat → ev_M → Nat → ev_St) (i L : Nat) (M : ev_M) (top : Nat) : ev_St :=
  ev_c (Bool.and (Nat.beq i i0) (Bool.and (Nat.beq L L0) (Bool.and (Nat.beq top top0) (em_eq 9 M M0)))) res (call i L M top)
theorem em_kn {i0 L0 top0 : Nat} {M0 : ev_M} {res : ev_St} {call : Nat → Nat → ev_M → Nat → ev_St} (h : call i0 L0 M0 top0 = res) : ev_kn i0 L0 top0 M0 res call = call := by
  funext i L M top
  unfold ev_kn
  rw [ec_c]
  by_cases hb : Bool.and (Nat.beq i i0) (Bool.and (Nat.beq L L0) (Bool.and (Nat.beq top top0) (em_eq 9 M M0))) = true
  · rw [if_pos hb]
    obtain ⟨h1, hb⟩ := Bool.and_eq_true_iff.mp hb
    obtain ⟨h2, hb⟩ := Bool.and_eq_true_iff.mp hb
    obtain ⟨h3, h4⟩ := Bool.and_eq_true_iff.mp hb
    rw [ev_beqE.mp h1, ev_beqE.mp h2, ev_beqE.mp h3, em_eqE 9 _ _ h4, h]
  · rw [if_neg hb]
/-- a run in two pieces: the state between is known -/
theorem em_two {call : Nat → Nat → ev_M → Nat → ev_St} {code k1 k2 : Nat} {a b c : ev_St} (h1 : ev_run ev_C ev_sw call code k1 a = b) (h2 : ev_run ev_C ev_sw call code k2 b = c) : ev_run ev_C ev_sw call code k2 (ev_run ev_C ev_sw call code k1 a) = c := by rw [h1, h2]
