/-! new cells are forgotten; two memories are compared -/
noncomputable def em_eq (d : Nat) : ev_T d → ev_T d → Bool := Nat.rec (motive := fun d => ev_T d → ev_T d → Bool) (fun a b => Nat.beq a b)
  (fun _ ih s t => Prod.rec (motive := fun _ => Bool) (fun a b => Prod.rec (motive := fun _ => Bool) (fun x y => Bool.and (ih a x) (ih b y)) t) s) d
theorem em_eqE : ∀ (d : Nat) (s t : ev_T d), em_eq d s t = true → s = t := by
  intro d
  induction d with
  | zero => exact fun s t h => ev_beqE.mp h
  | succ d ih =>
    intro s t h
    obtain ⟨a, b, rfl⟩ := et_cases d s
    obtain ⟨x, y, rfl⟩ := et_cases d t
    obtain ⟨h1, h2⟩ := Bool.and_eq_true_iff.mp (show Bool.and (em_eq d a x) (em_eq d b y) = true from h)
    rw [ih _ _ h1, ih _ _ h2]
/-- the words below top are the same -/
noncomputable def em_low (top : Nat) (M M2 : ev_M) : Bool := (List.range top).all fun a => Nat.beq (ev_rd M2 a) (ev_rd M a)
theorem em_lowE {top : Nat} {M M2 : ev_M} (h : em_low top M M2 = true) : ∀ a, a < top → ev_rd M2 a = ev_rd M a := fun a ha => ev_beqE.mp (List.all_eq_true.mp h a (List.mem_range.mpr ha))
theorem ex_forget {D : Nat → ClassId} {I : Nat → Nat → Nat} {al al' : Nat → Nat} {B B' : Nat → Nat → Nat → Prop} {M M2 : ev_M} {top t2 : Nat} {H H' : Heap} (h : eg_R D I al B M top H) (hX : eg_X al B al' B') (h2 : eg_R D I al' B' M2 t2 H') (hM : ∀ a, a < top → ev_rd M2 a = ev_rd M a) : eg_R D I al B M top H' := by
  obtain ⟨r1, r2, r3, r4, r5, r6⟩ := h
  refine ⟨fun b kd n hB => ?_, r2, r3, r4, r5, r6⟩
  obtain ⟨q1, q2⟩ := hX b kd n hB
  obtain ⟨cell, e1, e2⟩ := h2.1 b kd n q1
  rw [q2] at e1
  obtain ⟨c0, f1, f2⟩ := r1 b kd n hB
  obtain ⟨g1, g2, -⟩ := r4 b kd n hB
  refine ⟨cell, e1, ?_⟩
  by_cases h19 : kd = 19
  · exact Or.inl h19
  · rcases e2 with e2 | ⟨e2, e3, e4, e5, e6⟩
    · exact absurd e2 h19
    · rcases f2 with f2 | ⟨-, -, -, -, f6⟩
      · exact absurd f2 h19
      · refine Or.inr ⟨e2, e3, fun h8 => ?_, e5, fun k hk => ?_⟩
        · rw [← hM b g2]; exact e4 h8
        · have hw : eg_word M2 b kd k = eg_word M b kd k := by
            unfold eg_word
            rw [hM (b + eg_off kd + k) (by omega)]
          obtain ⟨k1, k2, k3⟩ := f6 k hk
          obtain ⟨l1, l2, l3⟩ := e6 k hk
          rw [hw, (k1.ext hX).2] at l3
          exact ⟨k1, k2, l3⟩
section EH
variable {p : Program} {l : Launch} {e : Env} {R : Room} {s : State} {m : MethodId} {args : Array Value} {below : List Frame} {meth : Method} {c : Code} {Q : State → Prop} {Fin : Nat → ev_M → Nat → Nat → Nat → Prop}
variable {D : Nat → ClassId} {I : Nat → Nat → Nat} {al0 : Nat → Nat} {B0 : Nat → Nat → Nat → Prop} {nL : Nat}
variable {cd : ByteArray} {w pc L S top cc ss : Nat} {M : ev_M} {al : Nat → Nat} {B : Nat → Nat → Nat → Prop} {H : Heap} {ls : Array Slot} {stk : List Value} {locs : List Loc}
/-- behind a call that left the old cells as they were: the new ones are forgotten -/
theorem ex_back0 (hc : ex_Cfg D I al0 B0 nL s al B M top L S ss H ls stk locs) {r : List Value} {S2 v t2 s2 : Nat} {M2 : ev_M} {ret : Option FieldType} {a : Array Value} {st t : State} {rv : Option Value} (hs : ex_stk al B r S2) (hq : ex_Qc D I al B H ret v M2 t2 s2 a st (.returned rv) t) (hM : ∀ a, a < top → ev_rd M2 a = ev_rd M a) {Lc : List Loc} (hL : ∀ q ∈ Lc, ex_A2 al B H.size q.base) :
    ex_Cfg D I al0 B0 nL s al B M top L S2 (ss + s2) t.heap ls r (locs ++ Lc) := by
  obtain ⟨rv', al', B', h1, h2, h3, h4, h5, h6, h7, h8, h9⟩ := hq
  obtain ⟨c1, c2, c3, c4, c5, c6, c7, c8⟩ := hc
  refine ⟨ex_forget c1 h3 h4 hM, c2, c3, c4, hs, ⟨Nat.le_trans c6.1 h6, fun q g1 g2 => ?_, fun q hq => ?_⟩, by rw [h8, c7, Nat.add_assoc], c8⟩
  · rw [h7 q (Nat.lt_of_lt_of_le g1 c6.1) (fun z => g2 (ex_Asub ⟨c1, c2, c3, c4, c5, c6, c7, c8⟩ z))]
    exact c6.2.1 q g1 g2
  · rcases List.mem_append.mp hq with z | z
    · exact c6.2.2 q z
    · exact ex_Asub ⟨c1, c2, c3, c4, c5, c6, c7, c8⟩ (hL q z)
end EH
