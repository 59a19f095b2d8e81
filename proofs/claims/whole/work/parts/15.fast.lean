/-! one step is one instruction: what stands fast; a copy of a row -/
theorem ek_gc : Cond.selects "[Ljava/lang/Object;" ⟨"java/lang/Object", "getClass", "()Ljava/lang/Class;"⟩ ⟨"java/lang/Object", "getClass", "()Ljava/lang/Class;"⟩ ∈ ex_TS ∧ Cond.instanceMethod ⟨"java/lang/Object", "getClass", "()Ljava/lang/Class;"⟩ ∈ ex_TS ∧ Cond.native ⟨"java/lang/Object", "getClass", "()Ljava/lang/Class;"⟩ ∈ ex_TS ∧
  Cond.declares ⟨"java/lang/Object", "getClass", "()Ljava/lang/Class;"⟩ ∈ ex_NW := by decide +kernel
theorem ek_oi : Cond.instanceMethod Lib.objectInit ∈ ex_TS ∧ Cond.code Lib.objectInit ⟨#[0xb1]⟩ 1 none ∈ ex_TS := by decide +kernel
theorem ek_ac : Cond.native arraycopyName ∈ ex_TS ∧ Cond.static arraycopyName ∈ ex_TS ∧ Cond.initialized "java/lang/System" ∈ ex_TS := by decide +kernel
theorem ek_castO : ∀ kd, kd < 19 → (kd < 6 ∨ 8 ≤ kd) → Cond.castable (ek_cn kd) "java/lang/Object" ∈ ex_NW := by decide +kernel
theorem ek_acw : nativeFrameWords "java/lang/System" "arraycopy" 5 + 11 ≤ 1500 := by decide +kernel
section EH
variable {p : Program} {l : Launch} {e : Env} {R : Room} {s : State} {m : MethodId} {args : Array Value} {below : List Frame} {meth : Method} {c : Code} {Q : State → Prop} {Fin : Nat → ev_M → Nat → Nat → Nat → Prop}
variable {D : Nat → ClassId} {I : Nat → Nat → Nat} {al0 : Nat → Nat} {B0 : Nat → Nat → Nat → Prop} {nL : Nat}
variable {cd : ByteArray} {w pc L S top cc ss : Nat} {M : ev_M} {al : Nat → Nat} {B : Nat → Nat → Nat → Prop} {H : Heap} {ls : Array Slot} {stk : List Value} {locs : List Loc}
noncomputable def ib_pushI (own : String) (cd : ByteArray) (pc w x : Nat) : Bool := match decode cd pc, ex_TS[x]? with
  | .ok (.iconst n, 1), _ => decide (ev_len w = 1 ∧ Int32.ofInt n = nI (ev_a w))
  | .ok (.bipush n, 2), _ => decide (ev_len w = 2 ∧ (Int8.ofInt n).toInt32 = nI (ev_a w))
  | .ok (.sipush n, 3), _ => decide (ev_len w = 3 ∧ (Int16.ofInt n).toInt32 = nI (ev_a w))
  | .ok (.ldc idx, 2), some (.constant o i v) => decide (ev_len w = 2 ∧ o = own ∧ i = idx ∧ v = nI (ev_a w))
  | .ok (.getstatic idx, 3), some (.fieldLink o i ref nm ds) => decide (ev_len w = 3 ∧ o = own ∧ i = idx ∧ (ref, nm, ds, 4 * ev_a w + 1) ∈ ek_st)
  | _, _ => false
theorem ev_alt (w : Nat) : ev_a w < 4294967296 := Nat.mod_lt _ (by decide)
theorem eh_pushI (hx : p.tables.exec = Jvm.exec) (hb : c.code = cd) {own : String} (hown : s.vm.findClass own = some m.cls) (hts : ∀ w ∈ ex_TS, w.before args s = true) (hK : ex_K D I al0 (ex_A al0 B0 s) s s.heap) (hcst : ∀ v ∈ ek_cst, eg_ok B0 v) {x : Nat} (hI : ib_pushI own cd pc w x = true) (h : ex_G p l e R s m args below meth c Q Fin D I al0 B0 nL (ev_o_pushI w pc L S M top cc ss)) (hc : ex_Cfg D I al0 B0 nL s al B M top L S ss H ls stk locs) : W p l e R s m args below meth c H locs cc ss Q (F0 m pc ls stk) := by
  have k : W p l e R s m args below meth c H locs cc ss Q (F0 m (pc + ev_len w) ls (.int (nI (ev_a w)) :: stk)) := ex_nx h (hc.stk (ex_pI hc.2.2.2.2.1 (ev_alt w) rfl))
  unfold ib_pushI at hI
  split at hI
  next n _ hd =>
    obtain ⟨i1, i2⟩ := of_decide_eq_true hI
    rw [i1] at k
    exact lv_iconst hx hb hd i2 k
  next n _ hd =>
    obtain ⟨i1, i2⟩ := of_decide_eq_true hI
    rw [i1] at k
    exact lv_bipush hx hb hd i2 k
  next n _ hd =>
    obtain ⟨i1, i2⟩ := of_decide_eq_true hI
    rw [i1] at k
    exact lv_sipush hx hb hd i2 k
  next idx o i v hd hw =>
    obtain ⟨i1, rfl, rfl, rfl⟩ := of_decide_eq_true hI
    rw [i1] at k
    exact lv_ldc hx hb hown (hts _ (List.mem_of_getElem? hw)) hd k
  next idx o i ref nm ds hd hw =>
    obtain ⟨i1, rfl, rfl, i2⟩ := of_decide_eq_true hI
    rw [i1] at k
    have hZ := hK.2.2.2.1 _ i2
    rw [show eg_val al0 (4 * ev_a w + 1) = .int (nI (ev_a w)) from en_valI _ _] at hZ
    exact va_gets hx hb hZ hc.2.2.2.2.2.1 hown (hts _ (List.mem_of_getElem? hw)) (fun _ q => q) hd k
  next => cases hI
noncomputable def ib_pushL (own : String) (cd : ByteArray) (pc w x : Nat) : Bool := match decode cd pc, ex_TS[x]? with
  | .ok (.lconst n, 1), _ => decide (ev_len w = 1 ∧ Int64.ofNat (n : Nat) = lN (ev_a w))
  | .ok (.ldc2_w idx, 3), some (.constantLong o i v) => decide (ev_len w = 3 ∧ o = own ∧ i = idx ∧ v = lN (ev_a w))
  | _, _ => false
theorem eh_pushL (hx : p.tables.exec = Jvm.exec) (hb : c.code = cd) {own : String} (hown : s.vm.findClass own = some m.cls) (hts : ∀ w ∈ ex_TS, w.before args s = true) (hK : ex_K D I al0 (ex_A al0 B0 s) s s.heap) {x : Nat} (hI : ib_pushL own cd pc w x = true) (h : ex_G p l e R s m args below meth c Q Fin D I al0 B0 nL (ev_o_pushL w pc L S M top cc ss)) (hc : ex_Cfg D I al0 B0 nL s al B M top L S ss H ls stk locs) : W p l e R s m args below meth c H locs cc ss Q (F0 m pc ls stk) := by
  have k : W p l e R s m args below meth c H locs cc ss Q (F0 m (pc + ev_len w) ls (.long (lN (ev_a w)) :: stk)) := ex_nx h (hc.stk (ex_pL hc.2.2.2.2.1 (by have := ev_alt w; omega) rfl))
  unfold ib_pushL at hI
  split at hI
  next n _ hd =>
    obtain ⟨i1, i2⟩ := of_decide_eq_true hI
    rw [i1] at k
    exact lv_lconst hx hb hd i2 k
  next idx o i v hd hw =>
    obtain ⟨i1, rfl, rfl, rfl⟩ := of_decide_eq_true hI
    rw [i1] at k
    exact lv_ldc2 hx hb hown (hts _ (List.mem_of_getElem? hw)) hd k
  next => cases hI
noncomputable def ib_pushR (own : String) (cd : ByteArray) (pc w x : Nat) : Bool := Bool.and (decide (4 * ev_a w + 2 ∈ ek_cst)) (match decode cd pc, ex_TS[x]? with
  | .ok (.ldc idx, 2), some (.classLink o i nm) => decide (ev_len w = 2 ∧ o = own ∧ i = idx ∧ nm = "[Ljava/lang/Object;" ∧ (4 * ev_a w + 2) / 256 = ek_mir)
  | .ok (.ldc idx, 2), none => decide (ev_len w = 2 ∧ ∃ q ∈ ek_str, q.1 = own ∧ q.2.1 = idx ∧ q.2.2.2 = 4 * ev_a w + 2)
  | .ok (.getstatic idx, 3), some (.fieldLink o i ref nm ds) => decide (ev_len w = 3 ∧ o = own ∧ i = idx ∧ (ref, nm, ds, 4 * ev_a w + 2) ∈ ek_st)
  | _, _ => false)
theorem eh_pushR (hx : p.tables.exec = Jvm.exec) (hb : c.code = cd) {own : String} (hown : s.vm.findClass own = some m.cls) (hts : ∀ w ∈ ex_TS, w.before args s = true) (hK : ex_K D I al0 (ex_A al0 B0 s) s s.heap) (hcst : ∀ v ∈ ek_cst, eg_ok B0 v) {x : Nat} (hI : ib_pushR own cd pc w x = true) (h : ex_G p l e R s m args below meth c Q Fin D I al0 B0 nL (ev_o_pushR w pc L S M top cc ss)) (hc : ex_Cfg D I al0 B0 nL s al B M top L S ss H ls stk locs) : W p l e R s m args below meth c H locs cc ss Q (F0 m pc ls stk) := by
  have h9 := Bool.and_eq_true_iff.mp hI
  have hm : 4 * ev_a w + 2 ∈ ek_cst := of_decide_eq_true h9.1
  have hI := h9.2
  have hok := (hcst _ hm).ext hc.2.1
  have ht : (4 * ev_a w + 2) % 4 = 2 := by omega
  have h' : ex_G p l e R s m args below meth c Q Fin D I al0 B0 nL (ev_nx w pc L (ev_ps S (4 * ev_a w + 2)) M top cc ss) := h
  have k : W p l e R s m args below meth c H locs cc ss Q (F0 m (pc + ev_len w) ls (.ref (al0 ((4 * ev_a w + 2) / 256)) :: stk)) := ex_nx h' (hc.stk (ex_push hc.2.2.2.2.1 hok.1 (by rw [hok.2, eg_val_r _ ht])))
  split at hI
  next idx o i nm hd hw =>
    obtain ⟨i1, rfl, rfl, rfl, i2⟩ := of_decide_eq_true hI
    rw [i1, i2] at k
    exact va_ldcM hx hb hown (hts _ (List.mem_of_getElem? hw)) hK.2.2.2.2.2 hd k
  next idx hd _ =>
    obtain ⟨i1, q, hq, rfl, rfl, i2⟩ := of_decide_eq_true hI
    rw [i1, ← i2] at k
    exact va_ldcS hx hb hown (hK.2.2.2.2.1 q hq) hd k
  next idx o i ref nm ds hd hw =>
    obtain ⟨i1, rfl, rfl, i2⟩ := of_decide_eq_true hI
    rw [i1] at k
    have hZ := hK.2.2.2.1 _ i2
    rw [show eg_val al0 (4 * ev_a w + 2) = .ref (al0 ((4 * ev_a w + 2) / 256)) from eg_val_r _ ht] at hZ
    exact va_gets hx hb hZ hc.2.2.2.2.2.1 hown (hts _ (List.mem_of_getElem? hw)) (fun _ q => q) hd k
  next => cases hI
noncomputable def ib_getcls (own : String) (cd : ByteArray) (pc w x : Nat) : Bool := match decode cd pc, ex_TS[x]? with
  | .ok (.invokevirtual idx, 3), some (.methodLink o i y) => decide (ev_len w = 3 ∧ ev_b w = 5 ∧ o = own ∧ i = idx ∧ y = ⟨"java/lang/Object", "getClass", "()Ljava/lang/Class;"⟩ ∧ 4 * ev_a w + 2 ∈ ek_cst ∧ (4 * ev_a w + 2) / 256 = ek_mir)
  | _, _ => false
theorem eh_getcls (hx : p.tables.exec = Jvm.exec) (hb : c.code = cd) {own : String} (hown : s.vm.findClass own = some m.cls) (hts : ∀ w ∈ ex_TS, w.before args s = true) (hK : ex_K D I al0 (ex_A al0 B0 s) s s.heap) (hml : c.maxLocals = nL) (hRm : 1 ≤ R.frames ∧ 2000 ≤ R.locals) (hcst : ∀ v ∈ ek_cst, eg_ok B0 v) {x : Nat} (hI : ib_getcls own cd pc w x = true) (h : ex_G p l e R s m args below meth c Q Fin D I al0 B0 nL (ev_o_getcls w pc L S M top cc ss)) (hc : ex_Cfg D I al0 B0 nL s al B M top L S ss H ls stk locs) : W p l e R s m args below meth c H locs cc ss Q (F0 m pc ls stk) := by
  refine ex_1r (S := S) (stk := stk) (al := al) (B := B) h hc.2.2.2.2.1 (fun b n r S2 e1 hB h2 h => ?_)
  subst e1
  refine ex_ite h (fun hb0 h => ?_) (fun _ h => ex_badG h)
  have hwt := ex_wgt8 h2 hb0
  unfold ib_getcls at hI
  split at hI
  next idx o i y hd hw =>
    obtain ⟨i1, i2, rfl, rfl, rfl, i3, i4⟩ := of_decide_eq_true hI
    have hok := (hcst _ i3).ext hc.2.1
    have ht : (4 * ev_a w + 2) % 4 = 2 := by omega
    rw [i2] at hB
    obtain ⟨cell, c1, c2, c3, -⟩ := ex_cell hc hB (by decide)
    have h' : ex_G p l e R s m args below meth c Q Fin D I al0 B0 nL (ev_nx w pc L (ev_ps S2 (4 * ev_a w + 2)) M top cc ss) := h
    have k := ex_nx h' (hc.stk (ex_push h2 hok.1 (v := .ref (al0 ek_mir)) (by rw [hok.2, eg_val_r _ ht, i4])))
    rw [i1] at k
    exact va_getC hx hb (by rw [hml]; exact hc.2.2.2.1.1.symm) hown (hts _ (List.mem_of_getElem? hw)) (va_Nw.use rfl (hK.2.1 _ ek_gc.2.2.2)) (hts _ ek_gc.1) (hts _ ek_gc.2.1) (hts _ ek_gc.2.2.1) hK.2.2.2.2.2 ⟨cell, c1, by rw [c3]; rfl, by rw [c2]; exact ex_find hK.1 (kd := 5) (Or.inl (by decide))⟩ hRm.1 (by omega) hd k
  next => cases hI
noncomputable def ib_objinit (own : String) (cd : ByteArray) (pc w x : Nat) : Bool := match decode cd pc, ex_TS[x]? with
  | .ok (.invokespecial idx, 3), some (.methodLink o i y) => decide (ev_len w = 3 ∧ o = own ∧ i = idx ∧ y = Lib.objectInit)
  | _, _ => false
theorem eh_objinit (hx : p.tables.exec = Jvm.exec) (hb : c.code = cd) {own : String} (hown : s.vm.findClass own = some m.cls) (hts : ∀ w ∈ ex_TS, w.before args s = true) (hK : ex_K D I al0 (ex_A al0 B0 s) s s.heap) (hml : c.maxLocals = nL) (hRm : 1 ≤ R.frames ∧ 2000 ≤ R.locals) {x : Nat} (hI : ib_objinit own cd pc w x = true) (h : ex_G p l e R s m args below meth c Q Fin D I al0 B0 nL (ev_o_objinit w pc L S M top cc ss)) (hc : ex_Cfg D I al0 B0 nL s al B M top L S ss H ls stk locs) : W p l e R s m args below meth c H locs cc ss Q (F0 m pc ls stk) := by
  refine ex_1v (S := S) (stk := stk) (al := al) (B := B) h hc.2.2.2.2.1 (fun v r S2 e1 hv h2 h => ?_)
  subst e1
  refine ex_ite h (fun hb0 h => ?_) (fun _ h => ex_badG h)
  have h9 := Bool.and_eq_true_iff.mp hb0
  have ht : v % 4 = 2 := (ev_tagE _ _).mp h9.1
  have hwt := ex_wgt8 h2 h9.2
  rw [eg_val_r _ ht]
  unfold ib_objinit at hI
  split at hI
  next idx o i y hd hw =>
    obtain ⟨i1, rfl, rfl, rfl⟩ := of_decide_eq_true hI
    have k := ex_nx h (hc.stk h2)
    rw [i1] at k
    exact W.objInit hx hb hown (hts _ (List.mem_of_getElem? hw)) (hts _ ek_oi.1) (hts _ ek_oi.2) rfl (by show ls.size = c.maxLocals; rw [hml]; exact hc.2.2.2.1.1) rfl hd hRm.1 (by show 2 * 0 + _ + 12 ≤ _; omega) k
  next => cases hI
end EH
