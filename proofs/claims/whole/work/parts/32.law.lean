/-! the law's own steps: its helpers among the callees -/
theorem ex_goodW {y : MethodName} {b : ByteArray} {n : Nat} {r : Option FieldType} {hh : List (Nat × Nat × Nat × Nat)} (h : Cond.codeWith y b n r hh ∈ ex_TS) : ∀ w ∈ Cond.codeWith y b n r hh :: ex_TS, w ∈ ex_TS ∧ ((w.onTables && w.keeps) = true ∨ ∃ ty, w = .arrayClass ty) := by
  intro w hw
  rcases List.mem_cons.mp hw with rfl | hw
  · exact ⟨h, good_of_word (ex_TSm h).2⟩
  · exact ⟨hw, good_of_word (ex_TSm hw).2⟩
noncomputable def ib_invSW (own : String) (cd : ByteArray) (pc w x : Nat) : Bool := match ek_mw (ev_a w), decode cd pc, ex_TS[x]? with
  | some (y, _, maxL, ret, _), .ok (.invokestatic idx, 3), some (.methodLink o i y') => decide (maxL = ev_b w / 32 ∧ maxL < 64 ∧ (maxL = 0 → ev_b w % 32 = 0) ∧ Nat.ble 128 (ev_d w) = ret.isSome ∧ y.cls ≠ "java/lang/invoke/MethodHandle" ∧ y.cls ≠ "java/lang/invoke/VarHandle" ∧ Cond.initialized y.cls ∈ ex_TS ∧ Cond.static y ∈ ex_TS ∧
      ev_len w = 3 ∧ o = own ∧ i = idx ∧ y' = y ∧ (parseMethodDescriptor y.desc).map (fun d => d.parameters.length) = some (ev_b w % 32))
  | _, _, _ => false
noncomputable def ib_atL (own mn : String) (cd : ByteArray) (ret : Option FieldType) (nL pc w x : Nat) : Bool := Bool.or (ib_at own mn cd ret nL pc w x) (Bool.and (Nat.beq (w % 128) 45) (ib_invSW own cd pc w x))
def em_okL (own mn : String) (cd : ByteArray) (ret : Option FieldType) (nL code : Nat) (xs : Nat → Nat) : Prop := ∀ pc, ev_w code pc % 128 = 0 ∨ ib_atL own mn cd ret nL pc (ev_w code pc) (xs pc) = true
section EH
variable {p : Program} {l : Launch} {e : Env} {R : Room} {s : State} {m : MethodId} {args : Array Value} {below : List Frame} {meth : Method} {c : Code} {Q : State → Prop} {Fin : Nat → ev_M → Nat → Nat → Nat → Prop}
variable {D : Nat → ClassId} {I : Nat → Nat → Nat} {al0 : Nat → Nat} {B0 : Nat → Nat → Nat → Prop} {nL : Nat}
variable {cd : ByteArray} {w pc L S top cc ss : Nat} {M : ev_M} {al : Nat → Nat} {B : Nat → Nat → Nat → Prop} {H : Heap} {ls : Array Slot} {stk : List Value} {locs : List Loc}
variable {call : Nat → Nat → ev_M → Nat → ev_St} {fr : Nat} {ret : Option FieldType}
theorem ex_inv0W {G : Prop} {y : MethodName} {bytes : ByteArray} {maxL : Nat} {hh : List (Nat × Nat × Nat × Nat)} (hcal : ex_CalleeW l D I call fr) (hme : ek_mw (ev_a w) = some (y, bytes, maxL, ret, hh)) (hmL : maxL = ev_b w / 32) (hm0 : maxL = 0 → ev_b w % 32 = 0) (hcst : ∀ v ∈ ek_cst, eg_ok B0 v)
    (h : ex_G p l e R s m args below meth c Q Fin D I al0 B0 nL (ev_inv call w pc L S M top cc ss)) (hc : ex_Cfg D I al0 B0 nL s al B M top L S ss H ls stk locs)
    (kk : ∀ (vs r : List Value) (S2 L2 c2 s2 v t2 : Nat) (M2 : ev_M), vs.length = ev_b w % 32 → stk = vs.reverse ++ r → ex_stk al B r S2 → ex_av al B vs L2 → (r.map fun v => v.category).sum ≤ 8 →
      Met l y (Cond.codeWith y bytes maxL ret hh :: ex_TS) { frames := fr, cells := c2, slots := s2, locals := 2000 * fr } (ex_Pc D I al B H vs) (ex_Qc D I al B H ret v M2 t2 s2) c2 s2 (ex_A2 al B H.size) →
      ex_G p l e R s m args below meth c Q Fin D I al0 B0 nL (ev_c (Nat.ble 128 (ev_d w)) (ev_c (Nat.beq v 0) (ev_bad M) (ev_nx w pc L (ev_ps S2 v) M2 t2 (cc + c2) (ss + s2))) (ev_nx w pc L S2 M2 t2 (cc + c2) (ss + s2))) → G) : G := by
  have hb31 : Nat.land (ev_b w) 31 = ev_b w % 32 := Nat.and_two_pow_sub_one_eq_mod _ 5
  have hb5 : Nat.shiftRight (ev_b w) 5 = ev_b w / 32 := Nat.shiftRight_eq_div_pow _ 5
  unfold ev_inv at h
  rw [hb31, hb5] at h
  refine ex_args (vs := []) _ h hc.2.2.2.2.1 (show ex_av al B [] 0 from rfl) (fun us r L2 S2 g1 g2 g3 g4 h => ?_)
  rw [List.append_nil] at g4
  refine ex_ite h (fun hb0 h => ?_) (fun _ h => ex_badG h)
  obtain ⟨q1, q2⟩ := Bool.and_eq_true_iff.mp hb0
  obtain ⟨q3, q4⟩ := Bool.and_eq_true_iff.mp q2
  rw [ec_un] at h
  refine ex_ite h (fun hb1 h => ?_) (fun _ h => ex_badG h)
  rw [ec_f, ec_f, ec_f] at h
  have hfit := ex_fitE g4 (fun z => List.eq_nil_of_length_eq_zero (by rw [g1]; exact hm0 (by rw [hmL]; exact z))) q1
  exact kk us r S2 L2 _ _ _ _ _ g1 g2 g3 g4 (ex_wgt8 g3 q4) (hcal (ev_a w) L2 M top al B H us y bytes maxL ret hh hme g4 (by rw [hmL]; exact hfit) hc.1 (fun v hv => ((hcst v hv).ext hc.2.1).1) hc.2.2.2.2.2.2.2 (ev_beqE.mp hb1)) h
theorem eh_invSW (hx : p.tables.exec = Jvm.exec) (hb : c.code = cd) {own : String} (hown : s.vm.findClass own = some m.cls) (hts : ∀ w ∈ ex_TS, w.before args s = true) (hK : ex_K D I al0 (ex_A al0 B0 s) s s.heap) (hml : c.maxLocals = nL) (hRR : fr + 1 ≤ R.frames ∧ 2000 * (fr + 1) ≤ R.locals) (hcst : ∀ v ∈ ek_cst, eg_ok B0 v) (hcal : ex_CalleeW l D I call fr) {x : Nat} (hI : ib_invSW own cd pc w x = true) (h : ex_G p l e R s m args below meth c Q Fin D I al0 B0 nL (ev_inv call w pc L S M top cc ss)) (hc : ex_Cfg D I al0 B0 nL s al B M top L S ss H ls stk locs) : W p l e R s m args below meth c H locs cc ss Q (F0 m pc ls stk) := by
  unfold ib_invSW at hI
  split at hI
  next y bytes maxL ret hh idx o i y' hme hd hw =>
    obtain ⟨b1, b2, b3, b4, b5, b6, b7, b8, i1, rfl, rfl, rfl, i4⟩ := of_decide_eq_true hI
    have hret : 128 ≤ ev_d w ↔ ret ≠ none := by
      cases ret with
      | none => exact ⟨fun z => (by rw [show Nat.ble 128 (ev_d w) = true from Nat.ble_eq_true_of_le z] at b4; cases b4), fun z => absurd rfl z⟩
      | some t => exact ⟨fun _ z => (by cases z), fun _ => Nat.le_of_ble_eq_true b4⟩
    have hcode := ek_mwIn hme
    refine ex_inv0W hcal hme b1 b3 hcst h hc (fun vs r S2 L2 c2 s2 v t2 M2 g1 g2 g3 g4 g6 hM h => ?_)
    have hbd := ex_bd h
    refine ex_on (a := vs.toArray) hc g3 i1 hret h (fun T hT X => ?_)
    obtain ⟨v', st₀, t, T', L', h0, X', hL, e1, e2, hq, st⟩ := ey_runSW (S := ⟨hx, hb, hml, hown, hts⟩) (n := ev_b w % 32) (bytes := bytes) (maxL := maxL) (ret := ret) (hh := hh) hM rfl rfl hRR.1 (by show 8 + (maxL + 11) + 2000 * fr ≤ _; omega) (pay_in hts (ex_goodW hcode)) List.mem_cons_self (hts _ hcode) (hts _ b7) ⟨b5, b6⟩ (ip_lenE i4) (hts _ (List.mem_of_getElem? hw)) (hts _ b8)
      (As := vs) ⟨ex_Pc_blind, fun U hU hW => ⟨rfl, hU, ex_atCall hK hcst hc hW⟩⟩ (g := F0 m pc ls stk) (rest := r) rfl g1 hc.2.2.2.1.1 g2 (by show 2 * 0 + _ ≤ 8; omega) hd hbd T hT X
    exact ⟨v', st₀, t, T', L', X', hL, e1, hq, st⟩
  next => cases hI
theorem ex_stepL (hx : p.tables.exec = Jvm.exec) (hb : c.code = cd) {own : String} (hown : s.vm.findClass own = some m.cls) (hts : ∀ w ∈ ex_TS, w.before args s = true) (hK : ex_K D I al0 (ex_A al0 B0 s) s s.heap) (hml : c.maxLocals = nL) (hRR : fr + 1 ≤ R.frames ∧ 2000 * (fr + 1) ≤ R.locals) (hcst : ∀ v ∈ ek_cst, eg_ok B0 v) (hcal : ex_Callee l D I call fr) (hcalW : ex_CalleeW l D I call fr) (hF : ex_HF p l e R s m args below meth c Q Fin D I al0 B0 nL cd ret) {code : Nat} {xs : Nat → Nat}
    (hok : em_okL own meth.name cd ret nL code xs) (st : ev_St) (h : ex_G p l e R s m args below meth c Q Fin D I al0 B0 nL (ev_step ev_C ev_sw call code st)) : ex_G p l e R s m args below meth c Q Fin D I al0 B0 nL st := by
  obtain ⟨stat, pc, L, S, M, top, cc, ss⟩ := st
  have h : ex_G p l e R s m args below meth c Q Fin D I al0 B0 nL (ev_c (Nat.beq stat 0) (ev_f (ev_w code pc) fun w => ev_f (Nat.land w 127) fun op => ev_do ev_C ev_sw call op w pc L S M top cc ss) (ev_mk stat pc L S M top cc ss)) := h
  by_cases hs : stat = 0
  · subst hs
    rw [ec_c, if_pos (show Nat.beq 0 0 = true from rfl), ec_f, ec_f, show Nat.land (ev_w code pc) 127 = ev_w code pc % 128 from Nat.and_two_pow_sub_one_eq_mod _ 7] at h
    refine ⟨fun _ => ⟨eb_do h, fun al B H ls stk locs hc => ?_⟩, fun z => absurd z (show ¬ (0 : Nat) = 1 by decide), Or.inl rfl⟩
    rcases hok pc with z | z
    · rw [z] at h
      exact ex_badG (M := M) h
    · rcases Bool.or_eq_true_iff.mp z with z | z
      · exact ex_do hx hb hown hts hK hml hRR hcst hcal hF z h hc
      · obtain ⟨z1, z2⟩ := Bool.and_eq_true_iff.mp z
        rw [ev_beqE.mp z1] at h
        exact eh_invSW hx hb hown hts hK hml hRR hcst hcalW z2 (show ex_G p l e R s m args below meth c Q Fin D I al0 B0 nL (ev_inv call (ev_w code pc) pc L S M top cc ss) from h) hc
  · rw [ec_c, if_neg (fun z => hs (ev_beqE.mp z))] at h
    exact h
theorem ex_runL (hx : p.tables.exec = Jvm.exec) (hb : c.code = cd) {own : String} (hown : s.vm.findClass own = some m.cls) (hts : ∀ w ∈ ex_TS, w.before args s = true) (hK : ex_K D I al0 (ex_A al0 B0 s) s s.heap) (hml : c.maxLocals = nL) (hRR : fr + 1 ≤ R.frames ∧ 2000 * (fr + 1) ≤ R.locals) (hcst : ∀ v ∈ ek_cst, eg_ok B0 v) (hcal : ex_Callee l D I call fr) (hcalW : ex_CalleeW l D I call fr) (hF : ex_HF p l e R s m args below meth c Q Fin D I al0 B0 nL cd ret) {code : Nat} {xs : Nat → Nat}
    (hok : em_okL own meth.name cd ret nL code xs) : ∀ (k : Nat) (st : ev_St), ex_G p l e R s m args below meth c Q Fin D I al0 B0 nL (ev_run ev_C ev_sw call code k st) → ex_G p l e R s m args below meth c Q Fin D I al0 B0 nL st := by
  intro k
  induction k with
  | zero => exact fun st h => ex_stepL hx hb hown hts hK hml hRR hcst hcal hcalW hF hok st h
  | succ k ih =>
    intro st h
    refine ih st ?_
    have h : ex_G p l e R s m args below meth c Q Fin D I al0 B0 nL (ev_un (ev_run ev_C ev_sw call code k st) fun stat pc L S M top c s => ev_c (Nat.beq stat 0) (ev_run ev_C ev_sw call code k (ev_mk stat pc L S M top c s)) (ev_mk stat pc L S M top c s)) := h
    rw [ec_un] at h
    exact ex_ite h (fun _ h => ih _ h) (fun _ h => h)
end EH
