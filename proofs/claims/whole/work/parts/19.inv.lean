/-! one step is one instruction: calls -/
def ib_ini (k : Nat) (c : String) : Bool := match ex_TS[k]? with
  | some (.initialized c') => decide (c' = c)
  | _ => false
theorem ib_iniE {k : Nat} {c : String} (h : ib_ini k c = true) : Cond.initialized c ∈ ex_TS := by
  unfold ib_ini at h
  split at h
  next c' hw => cases of_decide_eq_true h; exact List.mem_of_getElem? hw
  next => cases h
def ib_ins (k : Nat) (y : MethodName) : Bool := match ex_TS[k]? with
  | some (.instanceMethod c') => decide (c' = y)
  | _ => false
theorem ib_insE {k : Nat} {y : MethodName} (h : ib_ins k y = true) : Cond.instanceMethod y ∈ ex_TS := by
  unfold ib_ins at h
  split at h
  next c' hw => cases of_decide_eq_true h; exact List.mem_of_getElem? hw
  next => cases h
def ib_sta (k : Nat) (y : MethodName) : Bool := match ex_TS[k]? with
  | some (.static c') => decide (c' = y)
  | _ => false
theorem ib_staE {k : Nat} {y : MethodName} (h : ib_sta k y = true) : Cond.static y ∈ ex_TS := by
  unfold ib_sta at h
  split at h
  next c' hw => cases of_decide_eq_true h; exact List.mem_of_getElem? hw
  next => cases h
/-- the code chosen is y's: by a word, or because y is private -/
def ib_sel (k3 k4 : Nat) (C : String) (y : MethodName) : Bool := match ex_TS[k3]?, k4, ex_NW[k4 - 1]? with
  | some (.selects C' z z'), 0, _ => decide (C' = C ∧ z = y ∧ z' = y)
  | some (.selects C' z z'), _ + 1, some (.privateMethod y') => decide (C' = C ∧ z' = z ∧ z.cls = y.cls ∧ y' = y)
  | _, _, _ => false
theorem ex_selPriv {args : Array Value} {s : State} {C : String} {y z : MethodName} (hy : y.cls ≠ "java/lang/invoke/MethodHandle" ∧ y.cls ≠ "java/lang/invoke/VarHandle") (hsel : (Cond.selects C z z).before args s = true) (hzc : z.cls = y.cls) (hpriv : (Cond.privateMethod y).before args s = true) (hinst : (Cond.instanceMethod y).before args s = true) :
    (Cond.selects C y y).before args s = true := by
  obtain ⟨c, r, m, q1, q2, q3, q4, kP, hkP, hkPi⟩ := Cond.selects_spec hsel
  obtain ⟨mk, methM, hnamed, hmethM, -, -⟩ := Cond.instanceMethod_spec hinst
  have hfound : s.methodFound? y.cls y.name y.desc = some mk := State.methodFound?_of_named hnamed hy
  have hcls : mk.cls = m.cls := by
    have h1 := findClass_of_methodNamed hnamed
    have h2 := findClass_of_methodNamed q3
    rw [hzc] at h2
    exact Option.some.inj (h1.symm.trans h2)
  have hsl : selectMethod {} s.vm c mk = .method mk := selectMethod_private hmethM (Cond.privateMethod_at hpriv mk methM hnamed hmethM)
  simp only [Cond.before, Cond.holds, Cond.value, q1, hfound, hnamed, hsl, hcls, hkP]
  simp; exact hkPi
theorem ib_selE {args : Array Value} {s : State} {k3 k4 : Nat} {C : String} {y : MethodName} (h : ib_sel k3 k4 C y = true) (hts : ∀ w ∈ ex_TS, w.before args s = true) (hnw : ∀ w ∈ ex_NW, va_Nw w s) (hy : y.cls ≠ "java/lang/invoke/MethodHandle" ∧ y.cls ≠ "java/lang/invoke/VarHandle") (hin : Cond.instanceMethod y ∈ ex_TS) :
    (Cond.selects C y y).before args s = true := by
  unfold ib_sel at h
  split at h
  next C' z z' hw =>
    obtain ⟨rfl, rfl, rfl⟩ := of_decide_eq_true h
    exact hts _ (List.mem_of_getElem? hw)
  next C' z z' k y' hw hn =>
    obtain ⟨rfl, rfl, h3, rfl⟩ := of_decide_eq_true h
    exact ex_selPriv hy (hts _ (List.mem_of_getElem? hw)) h3 (va_Nw.use rfl (hnw _ (List.mem_of_getElem? hn))) (hts _ hin)
  next => cases h
noncomputable def ek_w (i : Nat) : Nat × Nat × Nat × Nat := (ek_ww[i]?).getD (0, 0, 0, 0)
noncomputable def ib_cal (w : Nat) (y : MethodName) (maxL : Nat) (ret : Option FieldType) : Bool := Bool.and (decide (maxL = ev_b w / 32 ∧ maxL < 64 ∧ (maxL = 0 → ev_b w % 32 = 0) ∧ Nat.ble 128 (ev_d w) = ret.isSome ∧ y.cls ≠ "java/lang/invoke/MethodHandle" ∧ y.cls ≠ "java/lang/invoke/VarHandle")) (ib_ini (ek_w (ev_a w)).2.1 y.cls)
theorem ex_good {y : MethodName} {b : ByteArray} {n : Nat} {r : Option FieldType} (h : Cond.code y b n r ∈ ex_TS) : ∀ w ∈ Cond.code y b n r :: ex_TS, w ∈ ex_TS ∧ ((w.onTables && w.keeps) = true ∨ ∃ ty, w = .arrayClass ty) := by
  intro w hw
  rcases List.mem_cons.mp hw with rfl | hw
  · exact ⟨h, good_of_word (ex_TSm h).2⟩
  · exact ⟨hw, good_of_word (ex_TSm hw).2⟩
theorem ex_recv {al : Nat → Nat} {B : Nat → Nat → Nat → Prop} {vs : List Value} {L : Nat} (h : ex_av al B vs L) (ht : L % 4 = 2) : ∃ b n As, vs = .ref (al b) :: As ∧ B b (L / 4 % 64) n := by
  cases vs with
  | nil =>
    have : L = 0 := h
    omega
  | cons v r =>
    obtain ⟨w, L2, e1, hw, e2, -⟩ := h
    have hX : ∃ y, L = w + ew_W * y := by
      rw [e1]
      by_cases q : w % 4 = 3
      · rw [if_pos q]; exact ⟨ew_W * L2, by rw [Nat.mul_assoc]⟩
      · rw [if_neg q]; exact ⟨L2, rfl⟩
    obtain ⟨y, hy⟩ := hX
    rw [show ew_W = 4722366482869645213696 from rfl] at hy
    have h1 : w % 4 = 2 := by omega
    have h2 : L / 4 % 64 = w / 4 % 64 := by omega
    rcases hw.2 with z | z | z | z
    · omega
    · omega
    · obtain ⟨-, n, hB⟩ := z
      exact ⟨w / 256, n, r, by rw [e2, eg_val_r _ h1], by rw [h2]; exact hB⟩
    · omega
section EH
variable {p : Program} {l : Launch} {e : Env} {R : Room} {s : State} {m : MethodId} {args : Array Value} {below : List Frame} {meth : Method} {c : Code} {Q : State → Prop} {Fin : Nat → ev_M → Nat → Nat → Nat → Prop}
variable {D : Nat → ClassId} {I : Nat → Nat → Nat} {al0 : Nat → Nat} {B0 : Nat → Nat → Nat → Prop} {nL : Nat}
variable {cd : ByteArray} {w pc L S top cc ss : Nat} {M : ev_M} {al : Nat → Nat} {B : Nat → Nat → Nat → Prop} {H : Heap} {ls : Array Slot} {stk : List Value} {locs : List Loc}
variable {call : Nat → Nat → ev_M → Nat → ev_St} {fr : Nat}
theorem ex_inv0 {G : Prop} {y : MethodName} {bytes : ByteArray} {maxL : Nat} {ret : Option FieldType} (hcal : ex_Callee l D I call fr) (hme : ek_me (ev_a w) = some (y, bytes, maxL, ret)) (hmL : maxL = ev_b w / 32) (hm0 : maxL = 0 → ev_b w % 32 = 0) (hcst : ∀ v ∈ ek_cst, eg_ok B0 v)
    (h : ex_G p l e R s m args below meth c Q Fin D I al0 B0 nL (ev_inv call w pc L S M top cc ss)) (hc : ex_Cfg D I al0 B0 nL s al B M top L S ss H ls stk locs)
    (kk : ∀ (vs r : List Value) (S2 L2 c2 s2 v t2 : Nat) (M2 : ev_M), vs.length = ev_b w % 32 → stk = vs.reverse ++ r → ex_stk al B r S2 → ex_av al B vs L2 → (ev_d w % 128 ≠ 0 → L2 % 4 = 2 ∧ L2 / 4 % 64 + 1 = ev_d w % 128) → (r.map fun v => v.category).sum ≤ 8 →
      Met l y (Cond.code y bytes maxL ret :: ex_TS) { frames := fr, cells := c2, slots := s2, locals := 2000 * fr } (ex_Pc D I al B H vs) (ex_Qc D I al B H ret v M2 t2 s2) c2 s2 (ex_A2 al B H.size) →
      ex_G p l e R s m args below meth c Q Fin D I al0 B0 nL (ev_c (Nat.ble 128 (ev_d w)) (ev_c (Nat.beq v 0) (ev_bad M) (ev_nx w pc L (ev_ps S2 v) M2 t2 (cc + c2) (ss + s2))) (ev_nx w pc L S2 M2 t2 (cc + c2) (ss + s2))) → G) : G := by
  have hb31 : Nat.land (ev_b w) 31 = ev_b w % 32 := Nat.and_two_pow_sub_one_eq_mod _ 5
  have hb5 : Nat.shiftRight (ev_b w) 5 = ev_b w / 32 := Nat.shiftRight_eq_div_pow _ 5
  unfold ev_inv at h
  rw [hb31, hb5] at h
  refine ex_args (vs := []) _ h hc.2.2.2.2.1 (show ex_av al B [] 0 from rfl) (fun us r L2 S2 g1 g2 g3 g4 h => ?_)
  rw [List.append_nil] at g4
  refine ex_ite h (fun hb0 h => ?_) (fun _ h => ex_badG h)
  obtain ⟨q1, q2⟩ := Bool.and_eq_true_iff.mp hb0
  obtain ⟨q3, q4⟩ := Bool.and_eq_true_iff.mp q2
  rw [ec_un] at h
  refine ex_ite h (fun hb1 h => ?_) (fun _ h => ex_badG h)
  rw [ec_f, ec_f, ec_f] at h
  have hfit := ex_fitE g4 (fun z => List.eq_nil_of_length_eq_zero (by rw [g1]; exact hm0 (by rw [hmL]; exact z))) q1
  refine kk us r S2 L2 _ _ _ _ _ g1 g2 g3 g4 (fun hd => ?_) (ex_wgt8 g3 q4) (hcal (ev_a w) L2 M top al B H us y bytes maxL ret hme g4 (by rw [hmL]; exact hfit) hc.1 (fun v hv => ((hcst v hv).ext hc.2.1).1) hc.2.2.2.2.2.2.2 (ev_beqE.mp hb1)) h
  rcases Bool.or_eq_true_iff.mp q3 with z | z
  · exact absurd (ev_beqE.mp z) hd
  · obtain ⟨z1, z2⟩ := Bool.and_eq_true_iff.mp z
    have h9 := ev_beqE.mp z2
    rw [ex_shr2, show Nat.land (L2 / 4) 63 = L2 / 4 % 64 from em_lo _] at h9
    exact ⟨(ev_tagE _ _).mp z1, h9⟩
theorem ex_calB {y : MethodName} {maxL : Nat} {ret : Option FieldType} (h : ib_cal w y maxL ret = true) : maxL = ev_b w / 32 ∧ maxL < 64 ∧ (maxL = 0 → ev_b w % 32 = 0) ∧ (128 ≤ ev_d w ↔ ret ≠ none) ∧ (y.cls ≠ "java/lang/invoke/MethodHandle" ∧ y.cls ≠ "java/lang/invoke/VarHandle") ∧ Cond.initialized y.cls ∈ ex_TS := by
  obtain ⟨h1, h2⟩ := Bool.and_eq_true_iff.mp h
  obtain ⟨i1, i2, i3, i4, i5, i6⟩ := of_decide_eq_true h1
  refine ⟨i1, i2, i3, ?_, ⟨i5, i6⟩, ib_iniE h2⟩
  cases ret with
  | none => exact ⟨fun z => (by rw [show Nat.ble 128 (ev_d w) = true from Nat.ble_eq_true_of_le z] at i4; cases i4), fun z => absurd rfl z⟩
  | some t => exact ⟨fun _ z => (by cases z), fun _ => Nat.le_of_ble_eq_true i4⟩
def ip_len (y : MethodName) (n : Nat) : Prop := (parseMethodDescriptor y.desc).map (fun d => d.parameters.length) = some n
theorem ip_lenE {y : MethodName} {n : Nat} (h : ip_len y n) : ∀ sig, parseMethodDescriptor y.desc = some sig → n = sig.parameters.length := by
  intro sig h2
  unfold ip_len at h
  rw [h2] at h
  exact (Option.some.inj h).symm
/-- a receiver, seen from a call -/
theorem ex_preV (hK : ex_K D I al0 (ex_A al0 B0 s) s s.heap) (hcst : ∀ v ∈ ek_cst, eg_ok B0 v) (hc : ex_Cfg D I al0 B0 nL s al B M top L S ss H ls stk locs) {b kd n : Nat} {As : List Value} (hB : B b kd n) (h1 : 8 ≤ kd) (h2 : kd < 19) : PreV s H (ek_nm kd) (al b) (ex_Pc D I al B H (.ref (al b) :: As)) As := by
  obtain ⟨cell, c1, c2, c3, -⟩ := ex_cell hc hB (by omega)
  exact ⟨ex_Pc_blind, ⟨cell, c1, by rw [c3]; rfl, by rw [c2]; exact (hK.1.1 kd h1 h2).2.1⟩, fun U hU hW => ⟨rfl, hU, ex_atCall hK hcst hc hW⟩⟩
noncomputable def ib_invV (own : String) (cd : ByteArray) (pc w x : Nat) : Bool := match ek_me (ev_a w), decode cd pc, ex_TS[x]? with
  | some (y, _, maxL, ret), .ok (.invokevirtual idx, 3), some (.methodLink o i y') => Bool.and (Bool.and (ib_cal w y maxL ret) (Bool.and (ib_ins (ek_w (ev_a w)).1 y) (ib_sel (ek_w (ev_a w)).2.2.1 (ek_w (ev_a w)).2.2.2 (ek_nm (ev_d w % 128 - 1)) y)))
      (decide (ev_len w = 3 ∧ o = own ∧ i = idx ∧ y' = y ∧ 9 ≤ ev_d w % 128 ∧ ev_d w % 128 < 20 ∧ (parseMethodDescriptor y.desc).map (fun d => d.parameters.length) = some (ev_b w % 32 - 1)))
  | _, _, _ => false
theorem eh_invV (hx : p.tables.exec = Jvm.exec) (hb : c.code = cd) {own : String} (hown : s.vm.findClass own = some m.cls) (hts : ∀ w ∈ ex_TS, w.before args s = true) (hK : ex_K D I al0 (ex_A al0 B0 s) s s.heap) (hml : c.maxLocals = nL) (hRR : fr + 1 ≤ R.frames ∧ 2000 * (fr + 1) ≤ R.locals) (hcst : ∀ v ∈ ek_cst, eg_ok B0 v) (hcal : ex_Callee l D I call fr) {x : Nat} (hI : ib_invV own cd pc w x = true) (h : ex_G p l e R s m args below meth c Q Fin D I al0 B0 nL (ev_inv call w pc L S M top cc ss)) (hc : ex_Cfg D I al0 B0 nL s al B M top L S ss H ls stk locs) : W p l e R s m args below meth c H locs cc ss Q (F0 m pc ls stk) := by
  unfold ib_invV at hI
  split at hI
  next y bytes maxL ret idx o i y' hme hd hw =>
    obtain ⟨a1, a2⟩ := Bool.and_eq_true_iff.mp hI
    obtain ⟨a3, a4⟩ := Bool.and_eq_true_iff.mp a1
    obtain ⟨a5, a6⟩ := Bool.and_eq_true_iff.mp a4
    obtain ⟨i1, rfl, rfl, rfl, i2, i3, i4⟩ := of_decide_eq_true a2
    obtain ⟨b1, b2, b3, b4, b5, b6⟩ := ex_calB a3
    have hins := ib_insE a5
    have hcode := ek_meIn hme
    refine ex_inv0 hcal hme b1 b3 hcst h hc (fun vs r S2 L2 c2 s2 v t2 M2 g1 g2 g3 g4 g5 g6 hM h => ?_)
    obtain ⟨g7, g8⟩ := g5 (by omega)
    obtain ⟨b, n, As, rfl, hB⟩ := ex_recv g4 g7
    have hkd : L2 / 4 % 64 = ev_d w % 128 - 1 := by omega
    rw [hkd] at hB
    have hbd := ex_bd h
    refine ex_on (a := (Value.ref (al b) :: As).toArray) hc g3 i1 b4 h (fun T hT X => ?_)
    obtain ⟨v', st₀, t, T', L', h0, X', hL, e1, e2, hq, st⟩ := va_runV (S := ⟨hx, hb, hml, hown, hts⟩) (n := ev_b w % 32 - 1) hM
      ⟨⟨rfl, rfl, hRR.1, by show 8 + (maxL + 11) + 2000 * fr ≤ _; omega, pay_in hts (ex_good hcode), List.mem_cons_self, hts _ hcode, hts _ b6, b5, ip_lenE i4, hts _ (List.mem_of_getElem? hw)⟩, hts _ hins, ib_selE a6 hts hK.2.1 b5 hins⟩
      (ex_preV hK hcst hc hB (by omega) (by omega)) (g := F0 m pc ls stk) (rest := r) rfl (by have : As.length + 1 = ev_b w % 32 := g1; omega) hc.2.2.2.1.1 (by show stk = _; rw [g2, List.reverse_cons, List.append_assoc]; rfl) (by show 2 * 0 + _ ≤ 8; omega) hd hbd T hT X
    exact ⟨v', st₀, t, T', L', X', hL, e1, hq, st⟩
  next => cases hI
noncomputable def ib_invS (own : String) (cd : ByteArray) (pc w x : Nat) : Bool := match ek_me (ev_a w), decode cd pc, ex_TS[x]? with
  | some (y, _, maxL, ret), .ok (.invokestatic idx, 3), some (.methodLink o i y') => Bool.and (Bool.and (ib_cal w y maxL ret) (ib_sta (ek_w (ev_a w)).1 y))
      (decide (ev_len w = 3 ∧ o = own ∧ i = idx ∧ y' = y ∧ (parseMethodDescriptor y.desc).map (fun d => d.parameters.length) = some (ev_b w % 32)))
  | _, _, _ => false
theorem eh_invS (hx : p.tables.exec = Jvm.exec) (hb : c.code = cd) {own : String} (hown : s.vm.findClass own = some m.cls) (hts : ∀ w ∈ ex_TS, w.before args s = true) (hK : ex_K D I al0 (ex_A al0 B0 s) s s.heap) (hml : c.maxLocals = nL) (hRR : fr + 1 ≤ R.frames ∧ 2000 * (fr + 1) ≤ R.locals) (hcst : ∀ v ∈ ek_cst, eg_ok B0 v) (hcal : ex_Callee l D I call fr) {x : Nat} (hI : ib_invS own cd pc w x = true) (h : ex_G p l e R s m args below meth c Q Fin D I al0 B0 nL (ev_inv call w pc L S M top cc ss)) (hc : ex_Cfg D I al0 B0 nL s al B M top L S ss H ls stk locs) : W p l e R s m args below meth c H locs cc ss Q (F0 m pc ls stk) := by
  unfold ib_invS at hI
  split at hI
  next y bytes maxL ret idx o i y' hme hd hw =>
    obtain ⟨a1, a2⟩ := Bool.and_eq_true_iff.mp hI
    obtain ⟨a3, a5⟩ := Bool.and_eq_true_iff.mp a1
    obtain ⟨i1, rfl, rfl, rfl, i4⟩ := of_decide_eq_true a2
    obtain ⟨b1, b2, b3, b4, b5, b6⟩ := ex_calB a3
    have hins := ib_staE a5
    have hcode := ek_meIn hme
    refine ex_inv0 hcal hme b1 b3 hcst h hc (fun vs r S2 L2 c2 s2 v t2 M2 g1 g2 g3 g4 g5 g6 hM h => ?_)
    have hbd := ex_bd h
    refine ex_on (a := vs.toArray) hc g3 i1 b4 h (fun T hT X => ?_)
    obtain ⟨v', st₀, t, T', L', h0, X', hL, e1, e2, hq, st⟩ := va_runS (S := ⟨hx, hb, hml, hown, hts⟩) (n := ev_b w % 32) hM
      ⟨⟨rfl, rfl, hRR.1, by show 8 + (maxL + 11) + 2000 * fr ≤ _; omega, pay_in hts (ex_good hcode), List.mem_cons_self, hts _ hcode, hts _ b6, b5, ip_lenE i4, hts _ (List.mem_of_getElem? hw)⟩, hts _ hins⟩
      (As := vs) ⟨ex_Pc_blind, fun U hU hW => ⟨rfl, hU, ex_atCall hK hcst hc hW⟩⟩ (g := F0 m pc ls stk) (rest := r) rfl g1 hc.2.2.2.1.1 g2 (by show 2 * 0 + _ ≤ 8; omega) hd hbd T hT X
    exact ⟨v', st₀, t, T', L', X', hL, e1, hq, st⟩
  next => cases hI
noncomputable def ib_invSN (own : String) (cd : ByteArray) (pc w x : Nat) : Bool := match ek_me (ev_a w), decode cd pc, ex_NW[x - 4096]? with
  | some (y, _, maxL, ret), .ok (.invokestatic idx, 3), some (.methodLinkNest o i y' _) => Bool.and (Bool.and (ib_cal w y maxL ret) (ib_sta (ek_w (ev_a w)).1 y))
      (decide (ev_len w = 3 ∧ o = own ∧ i = idx ∧ y' = y ∧ (parseMethodDescriptor y.desc).map (fun d => d.parameters.length) = some (ev_b w % 32)))
  | _, _, _ => false
theorem eh_invSN (hx : p.tables.exec = Jvm.exec) (hb : c.code = cd) {own : String} (hown : s.vm.findClass own = some m.cls) (hts : ∀ w ∈ ex_TS, w.before args s = true) (hK : ex_K D I al0 (ex_A al0 B0 s) s s.heap) (hml : c.maxLocals = nL) (hRR : fr + 1 ≤ R.frames ∧ 2000 * (fr + 1) ≤ R.locals) (hcst : ∀ v ∈ ek_cst, eg_ok B0 v) (hcal : ex_Callee l D I call fr) {x : Nat} (hI : ib_invSN own cd pc w x = true) (h : ex_G p l e R s m args below meth c Q Fin D I al0 B0 nL (ev_inv call w pc L S M top cc ss)) (hc : ex_Cfg D I al0 B0 nL s al B M top L S ss H ls stk locs) : W p l e R s m args below meth c H locs cc ss Q (F0 m pc ls stk) := by
  unfold ib_invSN at hI
  split at hI
  next y bytes maxL ret idx o i y' host hme hd hw =>
    obtain ⟨a1, a2⟩ := Bool.and_eq_true_iff.mp hI
    obtain ⟨a3, a5⟩ := Bool.and_eq_true_iff.mp a1
    obtain ⟨i1, rfl, rfl, rfl, i4⟩ := of_decide_eq_true a2
    obtain ⟨b1, b2, b3, b4, b5, b6⟩ := ex_calB a3
    have hins := ib_staE a5
    have hcode := ek_meIn hme
    refine ex_inv0 hcal hme b1 b3 hcst h hc (fun vs r S2 L2 c2 s2 v t2 M2 g1 g2 g3 g4 g5 g6 hM h => ?_)
    have hbd := ex_bd h
    refine ex_on (a := vs.toArray) hc g3 i1 b4 h (fun T hT X => ?_)
    obtain ⟨v', st₀, t, T', L', h0, X', hL, e1, e2, hq, st⟩ := va_runSN (S := ⟨hx, hb, hml, hown, hts⟩) (n := ev_b w % 32) (host := host) hM
      ⟨⟨⟨rfl, rfl, hRR.1, by show 8 + (maxL + 11) + 2000 * fr ≤ _; omega, pay_in hts (ex_good hcode), List.mem_cons_self⟩, hts _ hcode, hts _ b6, b5, ip_lenE i4, va_Nw.use rfl (hK.2.1 _ (List.mem_of_getElem? hw))⟩, hts _ hins, trivial⟩
      (As := vs) ⟨ex_Pc_blind, fun U hU hW => ⟨rfl, hU, ex_atCall hK hcst hc hW⟩⟩ (g := F0 m pc ls stk) (rest := r) rfl g1 hc.2.2.2.1.1 g2 (by show 2 * 0 + _ ≤ 8; omega) hd hbd T hT X
    exact ⟨v', st₀, t, T', L', X', hL, e1, hq, st⟩
  next => cases hI
noncomputable def ib_invI (own : String) (cd : ByteArray) (pc w x : Nat) : Bool := match ek_me (ev_a w), decode cd pc, ex_TS[x]? with
  | some (y, _, maxL, none), .ok (.invokespecial idx, 3), some (.methodLink o i y') => Bool.and (Bool.and (ib_cal w y maxL none) (ib_ins (ek_w (ev_a w)).1 y))
      (decide (ev_len w = 3 ∧ o = own ∧ i = idx ∧ y' = y ∧ y.name = "<init>" ∧ 1 ≤ ev_d w % 128 ∧ (parseMethodDescriptor y.desc).map (fun d => d.parameters.length) = some (ev_b w % 32 - 1)))
  | _, _, _ => false
theorem eh_invI (hx : p.tables.exec = Jvm.exec) (hb : c.code = cd) {own : String} (hown : s.vm.findClass own = some m.cls) (hts : ∀ w ∈ ex_TS, w.before args s = true) (hK : ex_K D I al0 (ex_A al0 B0 s) s s.heap) (hml : c.maxLocals = nL) (hRR : fr + 1 ≤ R.frames ∧ 2000 * (fr + 1) ≤ R.locals) (hcst : ∀ v ∈ ek_cst, eg_ok B0 v) (hcal : ex_Callee l D I call fr) {x : Nat} (hI : ib_invI own cd pc w x = true) (h : ex_G p l e R s m args below meth c Q Fin D I al0 B0 nL (ev_inv call w pc L S M top cc ss)) (hc : ex_Cfg D I al0 B0 nL s al B M top L S ss H ls stk locs) : W p l e R s m args below meth c H locs cc ss Q (F0 m pc ls stk) := by
  unfold ib_invI at hI
  split at hI
  next y bytes maxL idx o i y' hme hd hw =>
    obtain ⟨a1, a2⟩ := Bool.and_eq_true_iff.mp hI
    obtain ⟨a3, a5⟩ := Bool.and_eq_true_iff.mp a1
    obtain ⟨i1, rfl, rfl, rfl, i2, i3, i4⟩ := of_decide_eq_true a2
    obtain ⟨b1, b2, b3, b4, b5, b6⟩ := ex_calB a3
    have hins := ib_insE a5
    have hcode := ek_meIn hme
    refine ex_inv0 hcal hme b1 b3 hcst h hc (fun vs r S2 L2 c2 s2 v t2 M2 g1 g2 g3 g4 g5 g6 hM h => ?_)
    obtain ⟨g7, g8⟩ := g5 (by omega)
    obtain ⟨b, n, As, rfl, hB⟩ := ex_recv g4 g7
    have hbd := ex_bd h
    refine ex_on (a := (Value.ref (al b) :: As).toArray) hc g3 i1 b4 h (fun T hT X => ?_)
    obtain ⟨v', st₀, t, T', L', h0, X', hL, e1, e2, hq, st⟩ := va_runI (S := ⟨hx, hb, hml, hown, hts⟩) (n := ev_b w % 32 - 1) hM
      ⟨⟨rfl, rfl, hRR.1, by show 8 + (maxL + 11) + 2000 * fr ≤ _; omega, pay_in hts (ex_good hcode), List.mem_cons_self, hts _ hcode, hts _ b6, b5, ip_lenE i4, hts _ (List.mem_of_getElem? hw)⟩, i2, hts _ hins⟩
      (b := al b) (As := As) ⟨ex_Pc_blind, fun U hU hW => ⟨rfl, hU, ex_atCall hK hcst hc hW⟩⟩ (g := F0 m pc ls stk) (rest := r) rfl (by have : As.length + 1 = ev_b w % 32 := g1; omega) hc.2.2.2.1.1 (by show stk = _; rw [g2, List.reverse_cons, List.append_assoc]; rfl) (by show 2 * 0 + _ ≤ 8; omega) hd hbd T hT X
    exact ⟨v', st₀, t, T', L', X', hL, e1, hq, st⟩
  next => cases hI
noncomputable def ib_invIN (own : String) (cd : ByteArray) (pc w x : Nat) : Bool := match ek_me (ev_a w), decode cd pc, ex_NW[x - 4096]? with
  | some (y, _, maxL, none), .ok (.invokespecial idx, 3), some (.methodLinkNest o i y' _) => Bool.and (Bool.and (ib_cal w y maxL none) (ib_ins (ek_w (ev_a w)).1 y))
      (decide (ev_len w = 3 ∧ o = own ∧ i = idx ∧ y' = y ∧ y.name = "<init>" ∧ 1 ≤ ev_d w % 128 ∧ (parseMethodDescriptor y.desc).map (fun d => d.parameters.length) = some (ev_b w % 32 - 1)))
  | _, _, _ => false
theorem eh_invIN (hx : p.tables.exec = Jvm.exec) (hb : c.code = cd) {own : String} (hown : s.vm.findClass own = some m.cls) (hts : ∀ w ∈ ex_TS, w.before args s = true) (hK : ex_K D I al0 (ex_A al0 B0 s) s s.heap) (hml : c.maxLocals = nL) (hRR : fr + 1 ≤ R.frames ∧ 2000 * (fr + 1) ≤ R.locals) (hcst : ∀ v ∈ ek_cst, eg_ok B0 v) (hcal : ex_Callee l D I call fr) {x : Nat} (hI : ib_invIN own cd pc w x = true) (h : ex_G p l e R s m args below meth c Q Fin D I al0 B0 nL (ev_inv call w pc L S M top cc ss)) (hc : ex_Cfg D I al0 B0 nL s al B M top L S ss H ls stk locs) : W p l e R s m args below meth c H locs cc ss Q (F0 m pc ls stk) := by
  unfold ib_invIN at hI
  split at hI
  next y bytes maxL idx o i y' host hme hd hw =>
    obtain ⟨a1, a2⟩ := Bool.and_eq_true_iff.mp hI
    obtain ⟨a3, a5⟩ := Bool.and_eq_true_iff.mp a1
    obtain ⟨i1, rfl, rfl, rfl, i2, i3, i4⟩ := of_decide_eq_true a2
    obtain ⟨b1, b2, b3, b4, b5, b6⟩ := ex_calB a3
    have hins := ib_insE a5
    have hcode := ek_meIn hme
    refine ex_inv0 hcal hme b1 b3 hcst h hc (fun vs r S2 L2 c2 s2 v t2 M2 g1 g2 g3 g4 g5 g6 hM h => ?_)
    obtain ⟨g7, g8⟩ := g5 (by omega)
    obtain ⟨b, n, As, rfl, hB⟩ := ex_recv g4 g7
    have hbd := ex_bd h
    refine ex_on (a := (Value.ref (al b) :: As).toArray) hc g3 i1 b4 h (fun T hT X => ?_)
    obtain ⟨v', st₀, t, T', L', h0, X', hL, e1, e2, hq, st⟩ := va_runIN (S := ⟨hx, hb, hml, hown, hts⟩) (n := ev_b w % 32 - 1) (host := host) hM
      ⟨⟨⟨rfl, rfl, hRR.1, by show 8 + (maxL + 11) + 2000 * fr ≤ _; omega, pay_in hts (ex_good hcode), List.mem_cons_self⟩, hts _ hcode, hts _ b6, b5, ip_lenE i4, va_Nw.use rfl (hK.2.1 _ (List.mem_of_getElem? hw))⟩, i2, hts _ hins⟩
      (b := al b) (As := As) ⟨ex_Pc_blind, fun U hU hW => ⟨rfl, hU, ex_atCall hK hcst hc hW⟩⟩ (g := F0 m pc ls stk) (rest := r) rfl (by have : As.length + 1 = ev_b w % 32 := g1; omega) hc.2.2.2.1.1 (by show stk = _; rw [g2, List.reverse_cons, List.append_assoc]; rfl) (by show 2 * 0 + _ ≤ 8; omega) hd hbd T hT X
    exact ⟨v', st₀, t, T', L', X', hL, e1, hq, st⟩
  next => cases hI
end EH
