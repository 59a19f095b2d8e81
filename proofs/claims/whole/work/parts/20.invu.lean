/-! one step is one instruction: calls of what a class inherits, of an interface -/
theorem ek_up : Cond.superclass "java/lang/StringBuilder" "java/lang/AbstractStringBuilder" ∈ ex_TS := by decide +kernel
def ib_cod (k : Nat) (y : MethodName) : Bool := match ex_TS[k]? with
  | some (.code y' _ _ _) => decide (y' = y)
  | _ => false
theorem ib_codE {k : Nat} {y : MethodName} (h : ib_cod k y = true) : ∃ b n r, Cond.code y b n r ∈ ex_TS := by
  unfold ib_cod at h
  split at h
  next y' b n r hw => cases of_decide_eq_true h; exact ⟨b, n, r, List.mem_of_getElem? hw⟩
  next => cases h
theorem ek_u1 : Cond.sameMethod "java/lang/AbstractStringBuilder" "java/lang/AbstractStringBuilder" "length" "()I" ∈ ex_TS ∧ Cond.selects "java/lang/StringBuilder" ⟨"java/lang/AbstractStringBuilder", "length", "()I"⟩ ⟨"java/lang/StringBuilder", "length", "()I"⟩ ∈ ex_TS ∧ Cond.instanceMethod ⟨"java/lang/AbstractStringBuilder", "length", "()I"⟩ ∈ ex_TS := by decide +kernel
theorem ek_u2 : ∃ b n r, Cond.code ⟨"java/lang/AbstractStringBuilder", "length", "()I"⟩ b n r ∈ ex_TS := ib_codE (k := 236) (by decide +kernel)
theorem ek_mx : Cond.static Lib.Math.max.name ∈ ex_TS ∧ Cond.initialized "java/lang/Math" ∈ ex_TS ∧ Cond.code Lib.Math.max.name Lib.Math.max.code 2 (some .int) ∈ ex_TS := by decide +kernel
theorem ek_mn : Cond.static Lib.Math.min.name ∈ ex_TS ∧ Cond.code Lib.Math.min.name Lib.Math.min.code 2 (some .int) ∈ ex_TS := by decide +kernel
section EH
variable {p : Program} {l : Launch} {e : Env} {R : Room} {s : State} {m : MethodId} {args : Array Value} {below : List Frame} {meth : Method} {c : Code} {Q : State → Prop} {Fin : Nat → ev_M → Nat → Nat → Nat → Prop}
variable {D : Nat → ClassId} {I : Nat → Nat → Nat} {al0 : Nat → Nat} {B0 : Nat → Nat → Nat → Prop} {nL : Nat}
variable {cd : ByteArray} {w pc L S top cc ss : Nat} {M : ev_M} {al : Nat → Nat} {B : Nat → Nat → Nat → Prop} {H : Heap} {ls : Array Slot} {stk : List Value} {locs : List Loc}
variable {call : Nat → Nat → ev_M → Nat → ev_St} {fr : Nat}
noncomputable def ib_invU (own : String) (cd : ByteArray) (pc w x : Nat) : Bool := match ek_me (ev_a w), decode cd pc, ex_TS[x]? with
  | some (y, _, maxL, ret), .ok (.invokevirtual idx, 3), some (.methodLink o i x') => Bool.and (Bool.and (ib_cal w y maxL ret) (ib_ins (ek_w (ev_a w)).1 y))
      (decide (ev_len w = 3 ∧ o = own ∧ i = idx ∧ x' = ⟨"java/lang/AbstractStringBuilder", "length", "()I"⟩ ∧ y = ⟨"java/lang/StringBuilder", "length", "()I"⟩ ∧ ev_d w % 128 = 10 ∧ ev_b w % 32 = 1))
  | _, _, _ => false
theorem eh_invU (hx : p.tables.exec = Jvm.exec) (hb : c.code = cd) {own : String} (hown : s.vm.findClass own = some m.cls) (hts : ∀ w ∈ ex_TS, w.before args s = true) (hK : ex_K D I al0 (ex_A al0 B0 s) s s.heap) (hml : c.maxLocals = nL) (hRR : fr + 1 ≤ R.frames ∧ 2000 * (fr + 1) ≤ R.locals) (hcst : ∀ v ∈ ek_cst, eg_ok B0 v) (hcal : ex_Callee l D I call fr) {x : Nat} (hI : ib_invU own cd pc w x = true) (h : ex_G p l e R s m args below meth c Q Fin D I al0 B0 nL (ev_inv call w pc L S M top cc ss)) (hc : ex_Cfg D I al0 B0 nL s al B M top L S ss H ls stk locs) : W p l e R s m args below meth c H locs cc ss Q (F0 m pc ls stk) := by
  unfold ib_invU at hI
  split at hI
  next y bytes maxL ret idx o i x' hme hd hw =>
    obtain ⟨a1, a2⟩ := Bool.and_eq_true_iff.mp hI
    obtain ⟨a3, a5⟩ := Bool.and_eq_true_iff.mp a1
    obtain ⟨i1, rfl, rfl, rfl, rfl, i3, i4⟩ := of_decide_eq_true a2
    obtain ⟨b1, b2, b3, b4, b5, b6⟩ := ex_calB a3
    have hins := ib_insE a5
    have hcode := ek_meIn hme
    obtain ⟨u1, u2, u3⟩ := ek_u1
    obtain ⟨ub, un, ur, u4⟩ := ek_u2
    refine ex_inv0 hcal hme b1 b3 hcst h hc (fun vs r S2 L2 c2 s2 v t2 M2 g1 g2 g3 g4 g5 g6 hM h => ?_)
    obtain ⟨g7, g8⟩ := g5 (by omega)
    obtain ⟨b, n, As, rfl, hB⟩ := ex_recv g4 g7
    have hkd : L2 / 4 % 64 = 9 := by omega
    rw [hkd] at hB
    have hbd := ex_bd h
    refine ex_on (a := (Value.ref (al b) :: As).toArray) hc g3 i1 b4 h (fun T hT X => ?_)
    obtain ⟨v', st₀, t, T', L', h0, X', hL, e1, e2, hq, st⟩ := va_runU (S := ⟨hx, hb, hml, hown, hts⟩) (C := "java/lang/StringBuilder") (owner := "java/lang/AbstractStringBuilder") (n := 0) hM
      ⟨⟨rfl, rfl, hRR.1, by show 8 + (maxL + 11) + 2000 * fr ≤ _; omega, pay_in hts (ex_good hcode), List.mem_cons_self⟩, hts _ hcode, hts _ b6, ⟨by decide, by decide⟩, ip_lenE (y := ⟨"java/lang/AbstractStringBuilder", "length", "()I"⟩) (by unfold ip_len; decide +kernel), hts _ (List.mem_of_getElem? hw), hts _ u1, va_Decl.of (hts _ u3) (hts _ u4), hts _ u2, hts _ hins⟩
      (ex_preV hK hcst hc hB (by omega) (by omega)) (g := F0 m pc ls stk) (rest := r) rfl (by have : As.length + 1 = ev_b w % 32 := g1; omega) hc.2.2.2.1.1 (by show stk = _; rw [g2, List.reverse_cons, List.append_assoc]; rfl) (by show 2 * 0 + _ ≤ 8; omega) hd hbd T hT X
    exact ⟨v', st₀, t, T', L', X', hL, e1, hq, st⟩
  next => cases hI
noncomputable def ib_invSU (own : String) (cd : ByteArray) (pc w x : Nat) : Bool := match ek_me (ev_a w), decode cd pc, ex_TS[x]? with
  | some (y, _, maxL, ret), .ok (.invokespecial idx, 3), some (.methodLink o i y') => Bool.and (Bool.and (ib_cal w y maxL ret) (ib_ins (ek_w (ev_a w)).1 y))
      (decide (ev_len w = 3 ∧ o = own ∧ i = idx ∧ y' = y ∧ own = "java/lang/StringBuilder" ∧ y.cls = "java/lang/AbstractStringBuilder" ∧ y.name ≠ "<init>" ∧ ev_d w % 128 = 10 ∧ Cond.sameMethod y.cls y.cls y.name y.desc ∈ ex_TS ∧ (parseMethodDescriptor y.desc).map (fun d => d.parameters.length) = some (ev_b w % 32 - 1)))
  | _, _, _ => false
theorem eh_invSU (hx : p.tables.exec = Jvm.exec) (hb : c.code = cd) {own : String} (hown : s.vm.findClass own = some m.cls) (hts : ∀ w ∈ ex_TS, w.before args s = true) (hK : ex_K D I al0 (ex_A al0 B0 s) s s.heap) (hml : c.maxLocals = nL) (hRR : fr + 1 ≤ R.frames ∧ 2000 * (fr + 1) ≤ R.locals) (hcst : ∀ v ∈ ek_cst, eg_ok B0 v) (hcal : ex_Callee l D I call fr) {x : Nat} (hI : ib_invSU own cd pc w x = true) (h : ex_G p l e R s m args below meth c Q Fin D I al0 B0 nL (ev_inv call w pc L S M top cc ss)) (hc : ex_Cfg D I al0 B0 nL s al B M top L S ss H ls stk locs) : W p l e R s m args below meth c H locs cc ss Q (F0 m pc ls stk) := by
  unfold ib_invSU at hI
  split at hI
  next y bytes maxL ret idx o i y' hme hd hw =>
    obtain ⟨a1, a2⟩ := Bool.and_eq_true_iff.mp hI
    obtain ⟨a3, a5⟩ := Bool.and_eq_true_iff.mp a1
    obtain ⟨i1, rfl, rfl, rfl, i2, i5, i6, i3, i7, i4⟩ := of_decide_eq_true a2
    obtain ⟨b1, b2, b3, b4, b5, b6⟩ := ex_calB a3
    have hins := ib_insE a5
    have hcode := ek_meIn hme
    refine ex_inv0 hcal hme b1 b3 hcst h hc (fun vs r S2 L2 c2 s2 v t2 M2 g1 g2 g3 g4 g5 g6 hM h => ?_)
    obtain ⟨g7, g8⟩ := g5 (by omega)
    obtain ⟨b, n, As, rfl, hB⟩ := ex_recv g4 g7
    have hkd : L2 / 4 % 64 = 9 := by omega
    rw [hkd] at hB
    have hbd := ex_bd h
    refine ex_on (a := (Value.ref (al b) :: As).toArray) hc g3 i1 b4 h (fun T hT X => ?_)
    obtain ⟨v', st₀, t, T', L', h0, X', hL, e1, e2, hq, st⟩ := va_runSU (hK.1.1 9 (by omega) (by omega)).2 (S := ⟨hx, hb, hml, hown, hts⟩) (n := ev_b w % 32 - 1) hM
      ⟨⟨rfl, rfl, hRR.1, by show 8 + (maxL + 11) + 2000 * fr ≤ _; omega, pay_in hts (ex_good hcode), List.mem_cons_self⟩, hts _ (List.mem_of_getElem? hw), hts _ i7, by rw [i2, i5]; exact hts _ ek_up, hts _ hins, hts _ b6, hts _ hcode, i6, ip_lenE i4⟩
      (ex_preV hK hcst hc hB (by omega) (by omega)) (g := F0 m pc ls stk) (rest := r) rfl (by have : As.length + 1 = ev_b w % 32 := g1; omega) hc.2.2.2.1.1 (by show stk = _; rw [g2, List.reverse_cons, List.append_assoc]; rfl) (by show 2 * 0 + _ ≤ 8; omega) hd hbd T hT X
    exact ⟨v', st₀, t, T', L', X', hL, e1, hq, st⟩
  next => cases hI
noncomputable def ib_invF (own : String) (cd : ByteArray) (pc w x : Nat) : Bool := match ek_me (ev_a w), decode cd pc, ex_TS[x]? with
  | some (y, _, maxL, ret), .ok (.invokeinterface idx _, 5), some (.methodLink o i x') => Bool.and (Bool.and (ib_cal w y maxL ret) (ib_ins (ek_w (ev_a w)).1 y))
      (decide (ev_len w = 5 ∧ o = own ∧ i = idx ∧ 9 ≤ ev_d w % 128 ∧ ev_d w % 128 < 20 ∧ x'.cls ≠ "java/lang/invoke/MethodHandle" ∧ x'.cls ≠ "java/lang/invoke/VarHandle" ∧ Cond.selects (ek_nm (ev_d w % 128 - 1)) x' y ∈ ex_TS ∧
        Cond.declares x' ∈ ex_NW ∧ Cond.interfaceMethod x'.cls x'.cls x'.name x'.desc ∈ ex_NW ∧ Cond.publicMethod y ∈ ex_NW ∧ Cond.unhidden (ek_nm (ev_d w % 128 - 1)) x'.name x'.desc ∈ ex_NW ∧ Cond.castable (ek_nm (ev_d w % 128 - 1)) x'.cls ∈ ex_NW ∧
        (parseMethodDescriptor x'.desc).map (fun d => d.parameters.length) = some (ev_b w % 32 - 1)))
  | _, _, _ => false
theorem eh_invF (hx : p.tables.exec = Jvm.exec) (hb : c.code = cd) {own : String} (hown : s.vm.findClass own = some m.cls) (hts : ∀ w ∈ ex_TS, w.before args s = true) (hK : ex_K D I al0 (ex_A al0 B0 s) s s.heap) (hml : c.maxLocals = nL) (hRR : fr + 1 ≤ R.frames ∧ 2000 * (fr + 1) ≤ R.locals) (hcst : ∀ v ∈ ek_cst, eg_ok B0 v) (hcal : ex_Callee l D I call fr) {x : Nat} (hI : ib_invF own cd pc w x = true) (h : ex_G p l e R s m args below meth c Q Fin D I al0 B0 nL (ev_inv call w pc L S M top cc ss)) (hc : ex_Cfg D I al0 B0 nL s al B M top L S ss H ls stk locs) : W p l e R s m args below meth c H locs cc ss Q (F0 m pc ls stk) := by
  unfold ib_invF at hI
  split at hI
  next y bytes maxL ret idx cnt o i x' hme hd hw =>
    obtain ⟨a1, a2⟩ := Bool.and_eq_true_iff.mp hI
    obtain ⟨a3, a5⟩ := Bool.and_eq_true_iff.mp a1
    obtain ⟨i1, rfl, rfl, i2, i3, j1, j2, j3, j4, j5, j6, j7, j8, i4⟩ := of_decide_eq_true a2
    obtain ⟨b1, b2, b3, b4, b5, b6⟩ := ex_calB a3
    have hins := ib_insE a5
    have hcode := ek_meIn hme
    refine ex_inv0 hcal hme b1 b3 hcst h hc (fun vs r S2 L2 c2 s2 v t2 M2 g1 g2 g3 g4 g5 g6 hM h => ?_)
    obtain ⟨g7, g8⟩ := g5 (by omega)
    obtain ⟨b, n, As, rfl, hB⟩ := ex_recv g4 g7
    have hkd : L2 / 4 % 64 = ev_d w % 128 - 1 := by omega
    rw [hkd] at hB
    have hbd := ex_bd h
    refine ex_on (a := (Value.ref (al b) :: As).toArray) hc g3 i1 b4 h (fun T hT X => ?_)
    obtain ⟨v', st₀, t, T', L', h0, X', hL, e1, e2, hq, st⟩ := va_runF (hK.1.1 (ev_d w % 128 - 1) (by omega) (by omega)).2 (S := ⟨hx, hb, hml, hown, hts⟩) (n := ev_b w % 32 - 1) hM
      ⟨⟨rfl, rfl, hRR.1, by show 8 + (maxL + 11) + 2000 * fr ≤ _; omega, pay_in hts (ex_good hcode), List.mem_cons_self⟩, hts _ (List.mem_of_getElem? hw), va_Nw.use rfl (hK.2.1 _ j4), va_Nw.use rfl (hK.2.1 _ j5), hts _ j3, hts _ hins, va_Nw.use rfl (hK.2.1 _ j6), va_Nw.use rfl (hK.2.1 _ j7), va_Nw.use rfl (hK.2.1 _ j8), hts _ b6, hts _ hcode, ⟨j1, j2⟩, ip_lenE i4⟩
      (ex_preV hK hcst hc hB (by omega) (by omega)) (g := F0 m pc ls stk) (rest := r) rfl (by have : As.length + 1 = ev_b w % 32 := g1; omega) hc.2.2.2.1.1 (by show stk = _; rw [g2, List.reverse_cons, List.append_assoc]; rfl) (by show 2 * 0 + _ ≤ 8; omega) hd hbd T hT X
    exact ⟨v', st₀, t, T', L', X', hL, e1, hq, st⟩
  next => cases hI
noncomputable def ib_math (own : String) (cd : ByteArray) (pc w x : Nat) : Bool := match decode cd pc, ex_TS[x]? with
  | .ok (.invokestatic idx, 3), some (.methodLink o i y) => decide (ev_len w = 3 ∧ o = own ∧ i = idx ∧ ((ev_b w = 0 ∧ y = Lib.Math.max.name) ∨ (ev_b w = 1 ∧ y = Lib.Math.min.name)))
  | _, _ => false
theorem eb_o_math (h : ex_G p l e R s m args below meth c Q Fin D I al0 B0 nL (ev_o_math w pc L S M top cc ss)) : cc ≤ R.cells ∧ ss ≤ R.slots := by
  unfold ev_o_math ev_bin at h
  exact eb_2i h (fun _ _ _ h => eb_c h (fun h => eb_nx h) (fun h => eb_bad h))
theorem ex_slt {x y : Nat} (hx : x < 4294967296) (hy : y < 4294967296) : ev_slt x y = true ↔ nI x < nI y := (en_lt hx hy).symm
theorem eh_math (hx : p.tables.exec = Jvm.exec) (hb : c.code = cd) {own : String} (hown : s.vm.findClass own = some m.cls) (hts : ∀ w ∈ ex_TS, w.before args s = true) (hK : ex_K D I al0 (ex_A al0 B0 s) s s.heap) (hml : c.maxLocals = nL) (hRm : 1 ≤ R.frames ∧ 2000 ≤ R.locals) {x : Nat} (hI : ib_math own cd pc w x = true) (h : ex_G p l e R s m args below meth c Q Fin D I al0 B0 nL (ev_o_math w pc L S M top cc ss)) (hc : ex_Cfg D I al0 B0 nL s al B M top L S ss H ls stk locs) : W p l e R s m args below meth c H locs cc ss Q (F0 m pc ls stk) := by
  have hbd := eb_o_math h
  unfold ev_o_math ev_2i at h
  refine ex_1i (S := S) (stk := stk) (al := al) (B := B) h hc.2.2.2.2.1 (fun b r1 S1 e1 hb' h1 h => ex_1i h h1 (fun a r2 S2 e2 ha h2 h => ?_))
  subst e1; subst e2
  refine ex_ite h (fun hb0 h => ?_) (fun _ h => ex_badG h)
  have hwt := ex_wgt8 h2 hb0
  unfold ib_math at hI
  split at hI
  next idx o i y hd hw =>
    obtain ⟨i1, rfl, rfl, i2⟩ := of_decide_eq_true hI
    rw [ec_c, ec_c, ec_c] at h
    rcases i2 with ⟨i2, rfl⟩ | ⟨i2, rfl⟩
    · rw [if_pos (ev_beqE.mpr i2)] at h
      refine va_mmax hx hb (by rw [hml]; exact hc.2.2.2.1.1.symm) hown (hts _ (List.mem_of_getElem? hw)) (hts _ ek_mx.1) (hts _ ek_mx.2.1) (hts _ ek_mx.2.2) hRm.1 (by omega) hbd.1 hbd.2 hd ?_
      have k := ex_nx h (hc.stk (stk' := .int (if nI a < nI b then nI b else nI a) :: r2) (by
        by_cases q : nI a < nI b
        · rw [if_pos q, if_pos ((ex_slt ha hb').mpr q)]; exact ex_pI h2 hb' rfl
        · rw [if_neg q, if_neg (fun z => q ((ex_slt ha hb').mp z))]; exact ex_pI h2 ha rfl))
      rw [i1] at k
      exact k
    · rw [if_neg (fun z => by have := ev_beqE.mp z; omega)] at h
      refine va_mmin hx hb (by rw [hml]; exact hc.2.2.2.1.1.symm) hown (hts _ (List.mem_of_getElem? hw)) (hts _ ek_mn.1) (hts _ ek_mx.2.1) (hts _ ek_mn.2) hRm.1 (by omega) hbd.1 hbd.2 hd ?_
      have k := ex_nx h (hc.stk (stk' := .int (if nI b < nI a then nI b else nI a) :: r2) (by
        by_cases q : nI b < nI a
        · rw [if_pos q, if_pos ((ex_slt hb' ha).mpr q)]; exact ex_pI h2 hb' rfl
        · rw [if_neg q, if_neg (fun z => q ((ex_slt hb' ha).mp z))]; exact ex_pI h2 ha rfl))
      rw [i1] at k
      exact k
  next => cases hI
end EH
