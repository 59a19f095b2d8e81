/-! facts of single calls, and how they are come by: the room may be larger; a method's run in pieces; what is new is forgotten -/
theorem em_roomM {s : State} {pl : Platform} {r r' : Room} (h1 : r.frames ≤ r'.frames) (h2 : r.locals ≤ r'.locals) (h3 : r.cells ≤ r'.cells) (h4 : r.slots ≤ r'.slots) (h : s.hasRoom pl r' = true) : s.hasRoom pl r = true := by
  simp only [State.hasRoom, Bool.and_eq_true, decide_eq_true_eq] at h ⊢
  obtain ⟨⟨⟨⟨a0, a1, a2, a3, a4, a5⟩, b1⟩, c1⟩, d1⟩ := h
  exact ⟨⟨⟨⟨by omega, by omega, by omega, by omega, by omega, a5⟩, by omega⟩, by omega⟩, d1⟩
theorem em_metM {l : Launch} {y : MethodName} {ws : List Cond} {rm rm' : Room} {Pc : Array Value → State → Prop} {Qc : Array Value → State → Outcome → State → Prop} {mc ms : Nat} {free : Addr → Prop} (h1 : rm.frames ≤ rm'.frames) (h2 : rm.locals ≤ rm'.locals) (h3 : rm.cells ≤ rm'.cells) (h4 : rm.slots ≤ rm'.slots) (h : Met l y ws rm Pc Qc mc ms free) : Met l y ws rm' Pc Qc mc ms free := by
  intro p e ha hf hc s m args below hfr happ hp hk
  refine h p e ha hf hc s m args below hfr ?_ hp hk
  obtain ⟨q1, q2, q3, q4, q5, q6, q7, q8⟩ := (Spec.appliesLoose_iff hfr).mp happ
  exact (Spec.appliesLoose_iff hfr).mpr ⟨q1, q2, q3, q4, q5, q6, em_roomM h1 h2 h3 h4 q7, q8⟩
/-- of one call: what the machine does -/
def em_F (l : Launch) (D : Nat → ClassId) (I : Nat → Nat → Nat) (fr i L : Nat) (M : ev_M) (top : Nat) (res : ev_St) : Prop :=
  ∀ (al : Nat → Nat) (B : Nat → Nat → Nat → Prop) (H : Heap) (vs : List Value) (y : MethodName) (bytes : ByteArray) (maxL : Nat) (ret : Option FieldType), ek_me i = some (y, bytes, maxL, ret) →
    ex_av al B vs L → (lg_sl vs).length ≤ maxL → eg_R D I al B M top H → (∀ v ∈ ek_cst, eg_ok B v) → ev_C ≤ top → res.1 = 1 →
    Met l y (Cond.code y bytes maxL ret :: ex_TS) { frames := fr, cells := res.2.2.2.2.2.2.1, slots := res.2.2.2.2.2.2.2, locals := 2000 * fr } (ex_Pc D I al B H vs)
      (ex_Qc D I al B H ret res.2.2.2.1 res.2.2.2.2.1 res.2.2.2.2.2.1 res.2.2.2.2.2.2.2) res.2.2.2.2.2.2.1 res.2.2.2.2.2.2.2 (ex_A2 al B H.size)
section FF
variable {l : Launch} {D : Nat → ClassId} {I : Nat → Nat → Nat} {call : Nat → Nat → ev_M → Nat → ev_St} {fr i i0 L L0 top top0 : Nat} {M M0 : ev_M} {res : ev_St}
theorem em_2k {a b : Nat} (h : a ≤ b) : 2000 * a ≤ 2000 * b := Nat.mul_le_mul_left _ h
theorem em_Fd {fr' : Nat} (hf : fr ≤ fr') (h : em_F l D I fr i L M top res) : em_F l D I fr' i L M top res := fun al B H vs y bytes maxL ret h1 h2 h3 h4 h5 h6 h7 =>
  em_metM (rm := { frames := fr, cells := res.2.2.2.2.2.2.1, slots := res.2.2.2.2.2.2.2, locals := 2000 * fr }) (rm' := { frames := fr', cells := res.2.2.2.2.2.2.1, slots := res.2.2.2.2.2.2.2, locals := 2000 * fr' }) hf (em_2k hf) (Nat.le_refl _) (Nat.le_refl _) (h al B H vs y bytes maxL ret h1 h2 h3 h4 h5 h6 h7)
/-- what one call gives is known: put before the callee -/
theorem em_Fkn (hc : ex_Callee l D I call fr) (hf : em_F l D I fr i0 L0 M0 top0 res) : ex_Callee l D I (ev_kn i0 L0 top0 M0 res call) fr := by
  intro i L M top al B H vs y bytes maxL ret hme hav hfit hR hcst hC h1
  unfold ev_kn at h1 ⊢
  rw [ec_c] at h1 ⊢
  by_cases hb : Bool.and (Nat.beq i i0) (Bool.and (Nat.beq L L0) (Bool.and (Nat.beq top top0) (em_eq 9 M M0))) = true
  · rw [if_pos hb] at h1 ⊢
    obtain ⟨g1, hb⟩ := Bool.and_eq_true_iff.mp hb
    obtain ⟨g2, hb⟩ := Bool.and_eq_true_iff.mp hb
    obtain ⟨g3, g4⟩ := Bool.and_eq_true_iff.mp hb
    have e1 := ev_beqE.mp g1
    have e2 := ev_beqE.mp g2
    have e3 := ev_beqE.mp g3
    have e4 := em_eqE 9 _ _ g4
    subst e1 e2 e3 e4
    exact hf al B H vs y bytes maxL ret hme hav hfit hR hcst hC h1
  · rw [if_neg hb] at h1 ⊢
    exact hc i L M top al B H vs y bytes maxL ret hme hav hfit hR hcst hC h1
theorem em_FknW (hc : ex_CalleeW l D I call fr) (hn : ek_mw i0 = none) : ex_CalleeW l D I (ev_kn i0 L0 top0 M0 res call) fr := by
  intro i L M top al B H vs y bytes maxL ret hh hme hav hfit hR hcst hC h1
  have hi : ¬ Nat.beq i i0 = true := fun z => by rw [ev_beqE.mp z, hn] at hme; cases hme
  unfold ev_kn at h1 ⊢
  rw [ec_c, if_neg (fun z => hi (Bool.and_eq_true_iff.mp z).1)] at h1 ⊢
  exact hc i L M top al B H vs y bytes maxL ret hh hme hav hfit hR hcst hC h1
/-- no cell -/
noncomputable def em_nr (v : Nat) : Bool := Bool.or (Nat.beq v 0) (Bool.or (ev_tag v 1) (Bool.or (ev_tag v 3) (Nat.beq v 4)))
theorem em_nrE {v : Nat} (h : em_nr v = true) : v % 4 ≠ 2 := by
  intro z
  rcases Bool.or_eq_true_iff.mp h with q | q
  · have := ev_beqE.mp q; omega
  · rcases Bool.or_eq_true_iff.mp q with q | q
    · have := (ev_tagE _ _).mp q; omega
    · rcases Bool.or_eq_true_iff.mp q with q | q
      · have := (ev_tagE _ _).mp q; omega
      · have := ev_beqE.mp q; omega
theorem em_nrOk {B B' : Nat → Nat → Nat → Prop} {v : Nat} (h : v % 4 ≠ 2) (hv : eg_ok B v) : eg_ok B' v := by
  refine ⟨hv.1, ?_⟩
  rcases hv.2 with q | q | q | q
  · exact Or.inl q
  · exact Or.inr (Or.inl q)
  · exact absurd q.1 h
  · exact Or.inr (Or.inr (Or.inr q))
theorem em_nrVal (al al' : Nat → Nat) {v : Nat} (h : v % 4 ≠ 2) : eg_val al v = eg_val al' v := by
  unfold eg_val
  by_cases h1 : v % 4 = 1
  · rw [if_pos h1, if_pos h1]
  · rw [if_neg h1, if_neg h1]
    by_cases h3 : v % 4 = 3
    · rw [if_pos h3, if_pos h3]
    · rw [if_neg h3, if_neg h3, if_neg h, if_neg h]
/-- a call that left the old words as they were: the new cells are forgotten -/
theorem em_Fforget {v c s t2 : Nat} {M2 : ev_M} (h : em_F l D I fr i L M top (ev_mk 1 0 0 v M2 t2 c s)) (hl : em_low top M M2 = true) (hv : em_nr v = true) : em_F l D I fr i L M top (ev_mk 1 0 0 v M top c s) := by
  intro al B H vs y bytes maxL ret hme hav hfit hR hcst hC h1
  have hM := h al B H vs y bytes maxL ret hme hav hfit hR hcst hC rfl
  intro p e ha hf hc s0 m args below hfr happ hp hk
  obtain ⟨n, o, g1, g2, g3, g4, L9, g5, g6⟩ := hM p e ha hf hc s0 m args below hfr happ hp hk
  refine ⟨n, o, g1, g2, g3, ?_, L9, g5, g6⟩
  obtain ⟨rv, al', B', q1, q2, q3, q4, q5, q6, q7, q8, q9⟩ := g4
  refine ⟨rv, al, B, q1, ?_, eg_X.rf, ex_forget hR q3 q4 (em_lowE hl), fun b kd n hb => Or.inl hb, q6, q7, q8, hC⟩
  rcases q2 with q2 | ⟨z1, z2, z3⟩
  · exact Or.inl q2
  · have z4 : rv = some (eg_val al' v) := z3
    exact Or.inr ⟨z1, em_nrOk (em_nrE hv) z2, z4.trans (congrArg some (em_nrVal al' al (em_nrE hv)))⟩
end FF
/-- a method's run, in pieces: from 'st' on it comes to 'res' -/
def em_P (l : Launch) (D : Nat → ClassId) (I : Nat → Nat → Nat) (fr : Nat) (y : MethodName) (bytes : ByteArray) (maxL : Nat) (ret : Option FieldType) (L0 : Nat) (M0 : ev_M) (top0 : Nat) (res st : ev_St) : Prop :=
  ∀ (al0 : Nat → Nat) (B0 : Nat → Nat → Nat → Prop) (vs : List Value) (p : Program) (e : Env) (s : State) (m : MethodId) (args : Array Value) (below : List Frame) (meth : Method) (c : Code),
    eg_R D I al0 B0 M0 top0 s.heap → (∀ v ∈ ek_cst, eg_ok B0 v) → ex_av al0 B0 vs L0 → ev_C ≤ top0 → p.tables.exec = Jvm.exec → c.code = bytes → s.vm.findClass y.cls = some m.cls → (∀ w ∈ ex_TS, w.before args s = true) → ex_K D I al0 (ex_A al0 B0 s) s s.heap →
    c.maxLocals = maxL → meth.sig.returnType = ret → meth.locks = false → meth.name = y.name →
    ex_G p l e { frames := fr + 1, cells := res.2.2.2.2.2.2.1, slots := res.2.2.2.2.2.2.2, locals := 2000 * (fr + 1) } s m args below meth c (MQ below (ex_Qc D I al0 B0 s.heap ret res.2.2.2.1 res.2.2.2.2.1 res.2.2.2.2.2.1 res.2.2.2.2.2.2.2) args s res.2.2.2.2.2.2.1 res.2.2.2.2.2.2.2 (ex_A2 al0 B0 s.heap.size))
      (fun S' M' t' c' s' => S' = res.2.2.2.1 ∧ M' = res.2.2.2.2.1 ∧ t' = res.2.2.2.2.2.1 ∧ c' = res.2.2.2.2.2.2.1 ∧ s' = res.2.2.2.2.2.2.2) D I al0 B0 maxL st
section PP
variable {l : Launch} {D : Nat → ClassId} {I : Nat → Nat → Nat} {call : Nat → Nat → ev_M → Nat → ev_St} {fr i k L0 top0 maxL code : Nat} {y : MethodName} {bytes : ByteArray} {ret : Option FieldType} {M0 : ev_M} {res st st' : ev_St} {xs : Nat → Nat}
theorem em_Pend (h : res.1 = 1) : em_P l D I fr y bytes maxL ret L0 M0 top0 res res := fun al0 B0 vs p e s m args below meth c _ _ _ _ _ _ _ _ _ _ _ _ _ =>
  ⟨fun z => absurd (h.symm.trans z) (by decide), fun _ => ⟨⟨Nat.le_refl _, Nat.le_refl _⟩, rfl, rfl, rfl, rfl, rfl⟩, Or.inr h⟩
theorem em_Prun (hcal : ex_Callee l D I call fr) (hok : em_ok y.cls y.name bytes ret maxL code xs) (he : em_st (ev_run ev_C ev_sw call code k st) st' = true) (h : em_P l D I fr y bytes maxL ret L0 M0 top0 res st') : em_P l D I fr y bytes maxL ret L0 M0 top0 res st := by
  intro al0 B0 vs p e s m args below meth c hR hcst hav hC hx hb hown hts hK hml hret hlk hnm
  rw [← em_stE he] at h
  exact ex_run (own := y.cls) hx hb hown hts hK hml ⟨Nat.le_refl _, Nat.le_refl _⟩ hcst hcal (ex_hF (v := res.2.2.2.1) (M2 := res.2.2.2.2.1) (t2 := res.2.2.2.2.2.1) (c2 := res.2.2.2.2.2.2.1) (s2 := res.2.2.2.2.2.2.2) hx hb hret hlk) (by rw [hnm]; exact hok) k st
    (h al0 B0 vs p e s m args below meth c hR hcst hav hC hx hb hown hts hK hml hret hlk hnm)
theorem em_PrunL (hcal : ex_Callee l D I call fr) (hcalW : ex_CalleeW l D I call fr) (hok : em_okL y.cls y.name bytes ret maxL code xs) (he : em_st (ev_run ev_C ev_sw call code k st) st' = true) (h : em_P l D I fr y bytes maxL ret L0 M0 top0 res st') : em_P l D I fr y bytes maxL ret L0 M0 top0 res st := by
  intro al0 B0 vs p e s m args below meth c hR hcst hav hC hx hb hown hts hK hml hret hlk hnm
  rw [← em_stE he] at h
  exact ex_runL (own := y.cls) hx hb hown hts hK hml ⟨Nat.le_refl _, Nat.le_refl _⟩ hcst hcal hcalW (ex_hF (v := res.2.2.2.1) (M2 := res.2.2.2.2.1) (t2 := res.2.2.2.2.2.1) (c2 := res.2.2.2.2.2.2.1) (s2 := res.2.2.2.2.2.2.2) hx hb hret hlk) (by rw [hnm]; exact hok) k st
    (h al0 B0 vs p e s m args below meth c hR hcst hav hC hx hb hown hts hK hml hret hlk hnm)
/-- the locals hold no new cell -/
noncomputable def em_lok (L0 L : Nat) : Bool := Bool.and (Nat.beq (Nat.shiftRight L 1440) 0) ((List.range 20).all fun i => Bool.or (em_nr (ew_wd L i)) (Nat.beq (ew_wd L i) (ew_wd L0 0)))
theorem em_lokE {L0 L : Nat} (h : em_lok L0 L = true) (i : Nat) : ew_wd L i % 4 ≠ 2 ∨ ew_wd L i = ew_wd L0 0 := by
  obtain ⟨h1, h2⟩ := Bool.and_eq_true_iff.mp h
  by_cases hi : i < 20
  · rcases Bool.or_eq_true_iff.mp (List.all_eq_true.mp h2 i (List.mem_range.mpr hi)) with q | q
    · exact Or.inl (em_nrE q)
    · exact Or.inr (ev_beqE.mp q)
  · left
    have h3 : L / 2 ^ 1440 = 0 := by
      have := ev_beqE.mp h1
      rw [show Nat.shiftRight L 1440 = L / 2 ^ 1440 from Nat.shiftRight_eq_div_pow _ _] at this
      exact this
    have h4 : ew_wd L i = 0 := by
      have e1 : (ew_W : Nat) ^ i = 2 ^ 1440 * 2 ^ (72 * (i - 20)) := by
        rw [show ew_W = 2 ^ 72 from rfl, ← Nat.pow_mul, ← Nat.pow_add]
        congr 1
        omega
      show L / ew_W ^ i % ew_W = 0
      rw [e1, ← Nat.div_div_eq_div_mul, h3, Nat.zero_div, Nat.zero_mod]
    rw [h4]; decide
theorem em_stk0 {al : Nat → Nat} {B : Nat → Nat → Nat → Prop} {stk : List Value} (h : ex_stk al B stk 0) : stk = [] := by
  cases stk with
  | nil => rfl
  | cons v r =>
    obtain ⟨w, S2, h1, h2, -, -⟩ := h
    have := h2.ne0
    omega
/-- amid a method's run: what is new since its start is forgotten -/
theorem em_Pfg {pc L cc ss t2 : Nat} {M2 : ev_M} (hl : em_low top0 M0 M2 = true) (hk : em_lok L0 L = true) (h : em_P l D I fr y bytes maxL ret L0 M0 top0 res (ev_mk 0 pc L 0 M0 top0 cc ss)) : em_P l D I fr y bytes maxL ret L0 M0 top0 res (ev_mk 0 pc L 0 M2 t2 cc ss) := by
  intro al0 B0 vs p e s m args below meth c hR hcst hav hC hx hb hown hts hK hml hret hlk hnm
  have h9 := h al0 B0 vs p e s m args below meth c hR hcst hav hC hx hb hown hts hK hml hret hlk hnm
  refine ⟨fun _ => ⟨(h9.1 rfl).1, fun al B H ls stk locs hc => ?_⟩, fun z => absurd z (show ¬ (0 : Nat) = 1 by decide), Or.inl rfl⟩
  refine (h9.1 rfl).2 al0 B0 H ls stk locs ?_
  obtain ⟨c1, c2, c3, c4, c5, c6, c7, c8⟩ := hc
  refine ⟨ex_forget hR c2 c1 (em_lowE hl), eg_X.rf, fun b kd n hb => Or.inl hb, ⟨c4.1, c4.2.1, fun i hi => ?_⟩, ?_, c6, c7, hC⟩
  · obtain ⟨d1, d2⟩ := c4.2.2 i hi
    have d3 : ls[i]? = some (.val (eg_val al (ew_wd L i))) := d2
    rcases em_lokE hk i with q | q
    · exact ⟨em_nrOk q d1, d3.trans (congrArg (fun x => some (Slot.val x)) (em_nrVal al al0 q))⟩
    · have e0 : ew_wd L0 0 ≠ 0 := by rw [← q]; exact hi
      have e1 := (ex_av_wd vs L0 0 hav 0 e0).1
      have e2 := (e1.ext c2).2
      refine ⟨(show eg_ok B0 (ew_wd L i) by rw [q]; exact e1), (show ls[i]? = some (.val (eg_val al0 (ew_wd L i))) from ?_)⟩
      rw [d3, q, e2]
  · rw [em_stk0 c5]
    exact (rfl : (0 : Nat) = 0)
theorem em_PMet {vs : List Value} {al : Nat → Nat} {B : Nat → Nat → Nat → Prop} {H : Heap} (hpl : plainName y.cls = true) (h : em_P l D I fr y bytes maxL ret L0 M0 top0 res (ev_mk 0 0 L0 0 M0 top0 0 0)) (hav : ex_av al B vs L0) (hfit : (lg_sl vs).length ≤ maxL) (hR : eg_R D I al B M0 top0 H) (hcst : ∀ v ∈ ek_cst, eg_ok B v) (hC : ev_C ≤ top0) :
    Met l y (Cond.code y bytes maxL ret :: ex_TS) { frames := fr + 1, cells := res.2.2.2.2.2.2.1, slots := res.2.2.2.2.2.2.2, locals := 2000 * (fr + 1) } (ex_Pc D I al B H vs)
      (ex_Qc D I al B H ret res.2.2.2.1 res.2.2.2.2.1 res.2.2.2.2.2.1 res.2.2.2.2.2.2.2) res.2.2.2.2.2.2.1 res.2.2.2.2.2.2.2 (ex_A2 al B H.size) := by
  refine Met.ofW (cc := bytes) (maxL := maxL) (ret := ret) hpl rfl ?_
  intro p e s m args below meth c s₁ Bd hml hv
  obtain ⟨rfl, hH, hK⟩ := hv
  subst hH
  have hts0 := atoms_spec (ws := Cond.code y bytes maxL ret :: ex_TS) Bd.pre
  have hin : meth.name = y.name := (name_of_methodNamed Bd.named Bd.method).1
  rw [lg_entry_eq]
  have hst := h al B vs p e s m vs.toArray below meth c hR hcst hav hC Bd.exec Bd.bytes (findClass_of_methodNamed Bd.named) (fun w hw => hts0 w (List.mem_cons_of_mem _ hw)) hK hml Bd.returns Bd.notSynchronized hin
  exact (hst.1 rfl).2 al B s.heap _ [] [] ⟨hR, eg_X.rf, fun b kd n h => Or.inl h, ex_entry hav hfit, rfl, va_S.rf, rfl, hC⟩
/-- a fact, from the run of its method -/
theorem em_FP (h : ∀ (y : MethodName) (bytes : ByteArray) (maxL : Nat) (ret : Option FieldType) (xs : Nat → Nat), em_ok y.cls y.name bytes ret maxL (ev_code i) xs → em_P l D I fr y bytes maxL ret L0 M0 top0 res (ev_mk 0 0 L0 0 M0 top0 0 0)) : em_F l D I (fr + 1) i L0 M0 top0 res := by
  intro al B H vs y bytes maxL ret hme hav hfit hR hcst hC h1
  obtain ⟨hpl, xs, hok⟩ := em_hall i y bytes maxL ret hme
  exact em_PMet hpl (h y bytes maxL ret xs hok) hav hfit hR hcst hC
end PP
/-- a memory, by what differs from another -/
noncomputable def ev_wl (q : List (Nat × Nat)) : ev_M → ev_M := List.rec (motive := fun _ => ev_M → ev_M) (fun M => M) (fun x _ ih M => ev_wr M x.1 x.2 ih) q
