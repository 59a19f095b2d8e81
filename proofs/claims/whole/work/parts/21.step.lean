/-! one step, whatever it is; a run; a method -/
noncomputable def id_op (cd : ByteArray) (pc w : Nat) (i : Instr) : Decidable (ip_op cd pc w i) := by delta ip_op; infer_instance
noncomputable def id_load (cd : ByteArray) (ret : Option FieldType) (nL pc w : Nat) : Decidable (ip_load cd pc w) := by delta ip_load; infer_instance
noncomputable def id_store (cd : ByteArray) (ret : Option FieldType) (nL pc w : Nat) : Decidable (ip_store cd nL pc w) := by delta ip_store; infer_instance
noncomputable def id_store2 (cd : ByteArray) (ret : Option FieldType) (nL pc w : Nat) : Decidable (ip_store2 cd nL pc w) := by delta ip_store2; infer_instance
noncomputable def id_iinc (cd : ByteArray) (ret : Option FieldType) (nL pc w : Nat) : Decidable (ip_iinc cd pc w) := by delta ip_iinc; infer_instance
noncomputable def id_if (cd : ByteArray) (ret : Option FieldType) (nL pc w : Nat) : Decidable (ip_if cd pc w) := by delta ip_if; infer_instance
noncomputable def id_ifcmp (cd : ByteArray) (ret : Option FieldType) (nL pc w : Nat) : Decidable (ip_ifcmp cd pc w) := by delta ip_ifcmp; infer_instance
noncomputable def id_acmp (cd : ByteArray) (ret : Option FieldType) (nL pc w : Nat) : Decidable (ip_acmp cd pc w) := by delta ip_acmp; infer_instance
noncomputable def id_ifnull (cd : ByteArray) (ret : Option FieldType) (nL pc w : Nat) : Decidable (ip_ifnull cd pc w) := by delta ip_ifnull; infer_instance
noncomputable def id_goto (cd : ByteArray) (ret : Option FieldType) (nL pc w : Nat) : Decidable (ip_goto cd pc w) := by delta ip_goto; infer_instance
noncomputable def id_switch (cd : ByteArray) (ret : Option FieldType) (nL pc w : Nat) : Decidable (ip_switch cd pc w) := by delta ip_switch; infer_instance
noncomputable def id_ret (cd : ByteArray) (ret : Option FieldType) (nL pc w : Nat) : Decidable (ip_ret cd ret pc) := by delta ip_ret; infer_instance
noncomputable def id_vret (cd : ByteArray) (ret : Option FieldType) (pc w : Nat) : Decidable (ip_vret cd ret pc w) := by delta ip_vret; infer_instance
noncomputable def id_alen (cd : ByteArray) (ret : Option FieldType) (nL pc w : Nat) : Decidable (ip_alen cd pc w) := by delta ip_alen ip_op; infer_instance
noncomputable def id_ald (cd : ByteArray) (ret : Option FieldType) (nL pc w : Nat) : Decidable (ip_ald cd pc w) := by delta ip_ald; infer_instance
noncomputable def id_ast (cd : ByteArray) (ret : Option FieldType) (nL pc w : Nat) : Decidable (ip_ast cd pc w) := by delta ip_ast; infer_instance
noncomputable def ib_at (own mn : String) (cd : ByteArray) (ret : Option FieldType) (nL pc w x : Nat) : Bool := match w % 128 with
  | 1 => ib_pushI own cd pc w x
  | 2 => ib_pushL own cd pc w x
  | 3 => @decide (ip_op cd pc w .aconst_null) (id_op cd pc w .aconst_null)
  | 4 => ib_pushR own cd pc w x
  | 5 => @decide (ip_load cd pc w) (id_load cd ret nL pc w)
  | 6 => @decide (ip_store cd nL pc w) (id_store cd ret nL pc w)
  | 7 => @decide (ip_store2 cd nL pc w) (id_store2 cd ret nL pc w)
  | 8 => @decide (ip_iinc cd pc w) (id_iinc cd ret nL pc w)
  | 9 => @decide (ip_op cd pc w .pop) (id_op cd pc w .pop)
  | 10 => @decide (ip_op cd pc w .pop2) (id_op cd pc w .pop2)
  | 11 => @decide (ip_op cd pc w .dup) (id_op cd pc w .dup)
  | 12 => @decide (ip_op cd pc w .dup_x1) (id_op cd pc w .dup_x1)
  | 13 => @decide (ip_op cd pc w .iadd) (id_op cd pc w .iadd)
  | 14 => @decide (ip_op cd pc w .isub) (id_op cd pc w .isub)
  | 15 => @decide (ip_op cd pc w .imul) (id_op cd pc w .imul)
  | 16 => @decide (ip_op cd pc w .irem) (id_op cd pc w .irem)
  | 17 => @decide (ip_op cd pc w .ishl) (id_op cd pc w .ishl)
  | 18 => @decide (ip_op cd pc w .ishr) (id_op cd pc w .ishr)
  | 19 => @decide (ip_op cd pc w .iand) (id_op cd pc w .iand)
  | 20 => @decide (ip_op cd pc w .ior) (id_op cd pc w .ior)
  | 21 => @decide (ip_op cd pc w .ixor) (id_op cd pc w .ixor)
  | 22 => @decide (ip_op cd pc w .ineg) (id_op cd pc w .ineg)
  | 23 => @decide (ip_op cd pc w .i2l) (id_op cd pc w .i2l)
  | 24 => @decide (ip_op cd pc w .i2b) (id_op cd pc w .i2b)
  | 25 => @decide (ip_op cd pc w .i2c) (id_op cd pc w .i2c)
  | 26 => @decide (ip_op cd pc w .ladd) (id_op cd pc w .ladd)
  | 27 => @decide (ip_op cd pc w .lmul) (id_op cd pc w .lmul)
  | 28 => @decide (ip_op cd pc w .lcmp) (id_op cd pc w .lcmp)
  | 29 => @decide (ip_if cd pc w) (id_if cd ret nL pc w)
  | 30 => @decide (ip_ifcmp cd pc w) (id_ifcmp cd ret nL pc w)
  | 31 => @decide (ip_acmp cd pc w) (id_acmp cd ret nL pc w)
  | 32 => @decide (ip_ifnull cd pc w) (id_ifnull cd ret nL pc w)
  | 33 => @decide (ip_goto cd pc w) (id_goto cd ret nL pc w)
  | 34 => @decide (ip_switch cd pc w) (id_switch cd ret nL pc w)
  | 35 => @decide (ip_ret cd ret pc) (id_ret cd ret nL pc w)
  | 36 => @decide (ip_vret cd ret pc w) (id_vret cd ret pc w)
  | 37 => ib_getf own cd pc w x
  | 38 => ib_putf mn own cd pc w x
  | 39 => @decide (ip_alen cd pc w) (id_alen cd ret nL pc w)
  | 40 => @decide (ip_ald cd pc w) (id_ald cd ret nL pc w)
  | 41 => @decide (ip_ast cd pc w) (id_ast cd ret nL pc w)
  | 42 => ib_new own cd pc w x
  | 43 => ib_newarr own cd pc w x
  | 44 => ib_cast own cd pc w x
  | 45 => Bool.or (ib_invV own cd pc w x) (Bool.or (ib_invS own cd pc w x) (Bool.or (ib_invI own cd pc w x) (Bool.or (ib_invSN own cd pc w x) (Bool.or (ib_invIN own cd pc w x) (Bool.or (ib_invF own cd pc w x) (Bool.or (ib_invSU own cd pc w x) (ib_invU own cd pc w x)))))))
  | 46 => ib_acopy own cd pc w x
  | 47 => ib_objinit own cd pc w x
  | 48 => ib_getcls own cd pc w x
  | 49 => ib_math own cd pc w x
  | _ => false
section EH
variable {p : Program} {l : Launch} {e : Env} {R : Room} {s : State} {m : MethodId} {args : Array Value} {below : List Frame} {meth : Method} {c : Code} {Q : State → Prop} {Fin : Nat → ev_M → Nat → Nat → Nat → Prop}
variable {D : Nat → ClassId} {I : Nat → Nat → Nat} {al0 : Nat → Nat} {B0 : Nat → Nat → Nat → Prop} {nL : Nat}
variable {cd : ByteArray} {w pc L S top cc ss : Nat} {M : ev_M} {al : Nat → Nat} {B : Nat → Nat → Nat → Prop} {H : Heap} {ls : Array Slot} {stk : List Value} {locs : List Loc}
variable {call : Nat → Nat → ev_M → Nat → ev_St} {fr : Nat} {ret : Option FieldType}
theorem ex_inv (hx : p.tables.exec = Jvm.exec) (hb : c.code = cd) {own : String} (hown : s.vm.findClass own = some m.cls) (hts : ∀ w ∈ ex_TS, w.before args s = true) (hK : ex_K D I al0 (ex_A al0 B0 s) s s.heap) (hml : c.maxLocals = nL) (hRR : fr + 1 ≤ R.frames ∧ 2000 * (fr + 1) ≤ R.locals) (hcst : ∀ v ∈ ek_cst, eg_ok B0 v) (hcal : ex_Callee l D I call fr) {x : Nat}
    (hI : Bool.or (ib_invV own cd pc w x) (Bool.or (ib_invS own cd pc w x) (Bool.or (ib_invI own cd pc w x) (Bool.or (ib_invSN own cd pc w x) (Bool.or (ib_invIN own cd pc w x) (Bool.or (ib_invF own cd pc w x) (Bool.or (ib_invSU own cd pc w x) (ib_invU own cd pc w x))))))) = true)
    (h : ex_G p l e R s m args below meth c Q Fin D I al0 B0 nL (ev_inv call w pc L S M top cc ss)) (hc : ex_Cfg D I al0 B0 nL s al B M top L S ss H ls stk locs) : W p l e R s m args below meth c H locs cc ss Q (F0 m pc ls stk) := by
  rcases Bool.or_eq_true_iff.mp hI with z | hI
  · exact eh_invV hx hb hown hts hK hml hRR hcst hcal z h hc
  rcases Bool.or_eq_true_iff.mp hI with z | hI
  · exact eh_invS hx hb hown hts hK hml hRR hcst hcal z h hc
  rcases Bool.or_eq_true_iff.mp hI with z | hI
  · exact eh_invI hx hb hown hts hK hml hRR hcst hcal z h hc
  rcases Bool.or_eq_true_iff.mp hI with z | hI
  · exact eh_invSN hx hb hown hts hK hml hRR hcst hcal z h hc
  rcases Bool.or_eq_true_iff.mp hI with z | hI
  · exact eh_invIN hx hb hown hts hK hml hRR hcst hcal z h hc
  rcases Bool.or_eq_true_iff.mp hI with z | hI
  · exact eh_invF hx hb hown hts hK hml hRR hcst hcal z h hc
  rcases Bool.or_eq_true_iff.mp hI with z | hI
  · exact eh_invSU hx hb hown hts hK hml hRR hcst hcal z h hc
  exact eh_invU hx hb hown hts hK hml hRR hcst hcal hI h hc
theorem ex_do (hx : p.tables.exec = Jvm.exec) (hb : c.code = cd) {own : String} (hown : s.vm.findClass own = some m.cls) (hts : ∀ w ∈ ex_TS, w.before args s = true) (hK : ex_K D I al0 (ex_A al0 B0 s) s s.heap) (hml : c.maxLocals = nL) (hRR : fr + 1 ≤ R.frames ∧ 2000 * (fr + 1) ≤ R.locals) (hcst : ∀ v ∈ ek_cst, eg_ok B0 v) (hcal : ex_Callee l D I call fr) (hF : ex_HF p l e R s m args below meth c Q Fin D I al0 B0 nL cd ret) {x : Nat}
    (hI : ib_at own meth.name cd ret nL pc w x = true) (h : ex_G p l e R s m args below meth c Q Fin D I al0 B0 nL (ev_do ev_C ev_sw call (w % 128) w pc L S M top cc ss)) (hc : ex_Cfg D I al0 B0 nL s al B M top L S ss H ls stk locs) : W p l e R s m args below meth c H locs cc ss Q (F0 m pc ls stk) := by
  have hRm : 1 ≤ R.frames ∧ 2000 ≤ R.locals := ⟨by omega, by omega⟩
  unfold ib_at at hI
  generalize w % 128 = op at hI h
  split at hI
  · have h : ex_G p l e R s m args below meth c Q Fin D I al0 B0 nL (ev_o_pushI w pc L S M top cc ss) := h
    exact eh_pushI hx hb hown hts hK hcst hI h hc
  · have h : ex_G p l e R s m args below meth c Q Fin D I al0 B0 nL (ev_o_pushL w pc L S M top cc ss) := h
    exact eh_pushL hx hb hown hts hK hI h hc
  · have h : ex_G p l e R s m args below meth c Q Fin D I al0 B0 nL (ev_o_null w pc L S M top cc ss) := h
    exact eh_null hx hb (@of_decide_eq_true _ (id_op cd pc w .aconst_null) hI) h hc
  · have h : ex_G p l e R s m args below meth c Q Fin D I al0 B0 nL (ev_o_pushR w pc L S M top cc ss) := h
    exact eh_pushR hx hb hown hts hK hcst hI h hc
  · have h : ex_G p l e R s m args below meth c Q Fin D I al0 B0 nL (ev_o_load w pc L S M top cc ss) := h
    exact eh_load hx hb (@of_decide_eq_true _ (id_load cd ret nL pc w) hI) h hc
  · have h : ex_G p l e R s m args below meth c Q Fin D I al0 B0 nL (ev_o_store w pc L S M top cc ss) := h
    exact eh_store hx hb (@of_decide_eq_true _ (id_store cd ret nL pc w) hI) h hc
  · have h : ex_G p l e R s m args below meth c Q Fin D I al0 B0 nL (ev_o_store2 w pc L S M top cc ss) := h
    exact eh_store2 hx hb (@of_decide_eq_true _ (id_store2 cd ret nL pc w) hI) h hc
  · have h : ex_G p l e R s m args below meth c Q Fin D I al0 B0 nL (ev_o_iinc w pc L S M top cc ss) := h
    exact eh_iinc hx hb (@of_decide_eq_true _ (id_iinc cd ret nL pc w) hI) h hc
  · have h : ex_G p l e R s m args below meth c Q Fin D I al0 B0 nL (ev_o_pop w pc L S M top cc ss) := h
    exact eh_pop hx hb (@of_decide_eq_true _ (id_op cd pc w .pop) hI) h hc
  · have h : ex_G p l e R s m args below meth c Q Fin D I al0 B0 nL (ev_o_pop2 w pc L S M top cc ss) := h
    exact eh_pop2 hx hb (@of_decide_eq_true _ (id_op cd pc w .pop2) hI) h hc
  · have h : ex_G p l e R s m args below meth c Q Fin D I al0 B0 nL (ev_o_dup w pc L S M top cc ss) := h
    exact eh_dup hx hb (@of_decide_eq_true _ (id_op cd pc w .dup) hI) h hc
  · have h : ex_G p l e R s m args below meth c Q Fin D I al0 B0 nL (ev_o_dup_x1 w pc L S M top cc ss) := h
    exact eh_dup_x1 hx hb (@of_decide_eq_true _ (id_op cd pc w .dup_x1) hI) h hc
  · have h : ex_G p l e R s m args below meth c Q Fin D I al0 B0 nL (ev_o_iadd w pc L S M top cc ss) := h
    exact eh_iadd hx hb (@of_decide_eq_true _ (id_op cd pc w .iadd) hI) h hc
  · have h : ex_G p l e R s m args below meth c Q Fin D I al0 B0 nL (ev_o_isub w pc L S M top cc ss) := h
    exact eh_isub hx hb (@of_decide_eq_true _ (id_op cd pc w .isub) hI) h hc
  · have h : ex_G p l e R s m args below meth c Q Fin D I al0 B0 nL (ev_o_imul w pc L S M top cc ss) := h
    exact eh_imul hx hb (@of_decide_eq_true _ (id_op cd pc w .imul) hI) h hc
  · have h : ex_G p l e R s m args below meth c Q Fin D I al0 B0 nL (ev_o_irem w pc L S M top cc ss) := h
    exact eh_irem hx hb (@of_decide_eq_true _ (id_op cd pc w .irem) hI) h hc
  · have h : ex_G p l e R s m args below meth c Q Fin D I al0 B0 nL (ev_o_ishl w pc L S M top cc ss) := h
    exact eh_ishl hx hb (@of_decide_eq_true _ (id_op cd pc w .ishl) hI) h hc
  · have h : ex_G p l e R s m args below meth c Q Fin D I al0 B0 nL (ev_o_ishr w pc L S M top cc ss) := h
    exact eh_ishr hx hb (@of_decide_eq_true _ (id_op cd pc w .ishr) hI) h hc
  · have h : ex_G p l e R s m args below meth c Q Fin D I al0 B0 nL (ev_o_iand w pc L S M top cc ss) := h
    exact eh_iand hx hb (@of_decide_eq_true _ (id_op cd pc w .iand) hI) h hc
  · have h : ex_G p l e R s m args below meth c Q Fin D I al0 B0 nL (ev_o_ior w pc L S M top cc ss) := h
    exact eh_ior hx hb (@of_decide_eq_true _ (id_op cd pc w .ior) hI) h hc
  · have h : ex_G p l e R s m args below meth c Q Fin D I al0 B0 nL (ev_o_ixor w pc L S M top cc ss) := h
    exact eh_ixor hx hb (@of_decide_eq_true _ (id_op cd pc w .ixor) hI) h hc
  · have h : ex_G p l e R s m args below meth c Q Fin D I al0 B0 nL (ev_o_ineg w pc L S M top cc ss) := h
    exact eh_ineg hx hb (@of_decide_eq_true _ (id_op cd pc w .ineg) hI) h hc
  · have h : ex_G p l e R s m args below meth c Q Fin D I al0 B0 nL (ev_o_i2l w pc L S M top cc ss) := h
    exact eh_i2l hx hb (@of_decide_eq_true _ (id_op cd pc w .i2l) hI) h hc
  · have h : ex_G p l e R s m args below meth c Q Fin D I al0 B0 nL (ev_o_i2b w pc L S M top cc ss) := h
    exact eh_i2b hx hb (@of_decide_eq_true _ (id_op cd pc w .i2b) hI) h hc
  · have h : ex_G p l e R s m args below meth c Q Fin D I al0 B0 nL (ev_o_i2c w pc L S M top cc ss) := h
    exact eh_i2c hx hb (@of_decide_eq_true _ (id_op cd pc w .i2c) hI) h hc
  · have h : ex_G p l e R s m args below meth c Q Fin D I al0 B0 nL (ev_o_ladd w pc L S M top cc ss) := h
    exact eh_ladd hx hb (@of_decide_eq_true _ (id_op cd pc w .ladd) hI) h hc
  · have h : ex_G p l e R s m args below meth c Q Fin D I al0 B0 nL (ev_o_lmul w pc L S M top cc ss) := h
    exact eh_lmul hx hb (@of_decide_eq_true _ (id_op cd pc w .lmul) hI) h hc
  · have h : ex_G p l e R s m args below meth c Q Fin D I al0 B0 nL (ev_o_lcmp w pc L S M top cc ss) := h
    exact eh_lcmp hx hb (@of_decide_eq_true _ (id_op cd pc w .lcmp) hI) h hc
  · have h : ex_G p l e R s m args below meth c Q Fin D I al0 B0 nL (ev_o_if w pc L S M top cc ss) := h
    exact eh_if hx hb (@of_decide_eq_true _ (id_if cd ret nL pc w) hI) h hc
  · have h : ex_G p l e R s m args below meth c Q Fin D I al0 B0 nL (ev_o_ifcmp w pc L S M top cc ss) := h
    exact eh_ifcmp hx hb (@of_decide_eq_true _ (id_ifcmp cd ret nL pc w) hI) h hc
  · have h : ex_G p l e R s m args below meth c Q Fin D I al0 B0 nL (ev_o_acmp w pc L S M top cc ss) := h
    exact eh_acmp hx hb (@of_decide_eq_true _ (id_acmp cd ret nL pc w) hI) h hc
  · have h : ex_G p l e R s m args below meth c Q Fin D I al0 B0 nL (ev_o_ifnull w pc L S M top cc ss) := h
    exact eh_ifnull hx hb (@of_decide_eq_true _ (id_ifnull cd ret nL pc w) hI) h hc
  · have h : ex_G p l e R s m args below meth c Q Fin D I al0 B0 nL (ev_o_goto w pc L S M top cc ss) := h
    exact eh_goto hx hb (@of_decide_eq_true _ (id_goto cd ret nL pc w) hI) h hc
  · have h : ex_G p l e R s m args below meth c Q Fin D I al0 B0 nL (ev_o_switch ev_sw w pc L S M top cc ss) := h
    exact eh_switch hx hb (@of_decide_eq_true _ (id_switch cd ret nL pc w) hI) h hc
  · have h : ex_G p l e R s m args below meth c Q Fin D I al0 B0 nL (ev_o_ret w pc L S M top cc ss) := h
    exact eh_ret (@of_decide_eq_true _ (id_ret cd ret nL pc w) hI) hF h hc
  · have h : ex_G p l e R s m args below meth c Q Fin D I al0 B0 nL (ev_o_vret w pc L S M top cc ss) := h
    exact eh_vret (@of_decide_eq_true _ (id_vret cd ret pc w) hI) hF h hc
  · have h : ex_G p l e R s m args below meth c Q Fin D I al0 B0 nL (ev_o_getf w pc L S M top cc ss) := h
    exact eh_getf hx hb hown hts hK hI h hc
  · have h : ex_G p l e R s m args below meth c Q Fin D I al0 B0 nL (ev_o_putf ev_C w pc L S M top cc ss) := h
    exact eh_putf hx hb hown hts hK hI h hc
  · have h : ex_G p l e R s m args below meth c Q Fin D I al0 B0 nL (ev_o_alen w pc L S M top cc ss) := h
    exact eh_alen hx hb hown hts hK (@of_decide_eq_true _ (id_alen cd ret nL pc w) hI) h hc
  · have h : ex_G p l e R s m args below meth c Q Fin D I al0 B0 nL (ev_o_ald w pc L S M top cc ss) := h
    exact eh_ald hx hb hown hts hK (@of_decide_eq_true _ (id_ald cd ret nL pc w) hI) h hc
  · have h : ex_G p l e R s m args below meth c Q Fin D I al0 B0 nL (ev_o_ast ev_C w pc L S M top cc ss) := h
    exact eh_ast hx hb hown hts hK (@of_decide_eq_true _ (id_ast cd ret nL pc w) hI) h hc
  · have h : ex_G p l e R s m args below meth c Q Fin D I al0 B0 nL (ev_o_new w pc L S M top cc ss) := h
    exact eh_new hx hb hown hts hK hI h hc
  · have h : ex_G p l e R s m args below meth c Q Fin D I al0 B0 nL (ev_o_newarr w pc L S M top cc ss) := h
    exact eh_newarr hx hb hown hts hK hI h hc
  · have h : ex_G p l e R s m args below meth c Q Fin D I al0 B0 nL (ev_o_cast w pc L S M top cc ss) := h
    exact eh_cast hx hb hown hts hK hI h hc
  · have h : ex_G p l e R s m args below meth c Q Fin D I al0 B0 nL (ev_inv call w pc L S M top cc ss) := h
    exact ex_inv hx hb hown hts hK hml hRR hcst hcal hI h hc
  · have h : ex_G p l e R s m args below meth c Q Fin D I al0 B0 nL (ev_o_acopy ev_C w pc L S M top cc ss) := h
    exact eh_acopy hx hb hown hts hK hml hRm hI h hc
  · have h : ex_G p l e R s m args below meth c Q Fin D I al0 B0 nL (ev_o_objinit w pc L S M top cc ss) := h
    exact eh_objinit hx hb hown hts hK hml hRm hI h hc
  · have h : ex_G p l e R s m args below meth c Q Fin D I al0 B0 nL (ev_o_getcls w pc L S M top cc ss) := h
    exact eh_getcls hx hb hown hts hK hml hRm hcst hI h hc
  · have h : ex_G p l e R s m args below meth c Q Fin D I al0 B0 nL (ev_o_math w pc L S M top cc ss) := h
    exact eh_math hx hb hown hts hK hml hRm hI h hc
  · cases hI
theorem eb_args {P : Prop} {k : Nat → Nat → ev_St} : ∀ (n : Nat) {L S : Nat}, ex_G p l e R s m args below meth c Q Fin D I al0 B0 nL (ev_args n M k L S) → (∀ L2 r, ex_G p l e R s m args below meth c Q Fin D I al0 B0 nL (k L2 r) → P) → P := by
  intro n
  induction n with
  | zero => exact fun h kk => kk _ _ h
  | succ n ih =>
    intro L S h kk
    refine eb_1v (S2 := S) (M2 := M) (k := fun v r => ev_f (Nat.add v (Nat.mul (ev_c (ev_tag v 3) (Nat.mul 4722366482869645213696 4722366482869645213696) 4722366482869645213696) L)) fun L2 => ev_args n M k L2 r) h (fun v r h => ?_)
    rw [ec_f] at h
    exact ih h kk
theorem eb_inv (h : ex_G p l e R s m args below meth c Q Fin D I al0 B0 nL (ev_inv call w pc L S M top cc ss)) : cc ≤ R.cells ∧ ss ≤ R.slots := by
  unfold ev_inv at h
  refine eb_args _ h (fun L2 r h => ?_)
  refine ex_ite h (fun _ h => ?_) (fun _ h => ex_badG h)
  rw [ec_un] at h
  refine ex_ite h (fun _ h => ?_) (fun _ h => ex_badG h)
  rw [ec_f, ec_f, ec_f] at h
  have := ex_bd h
  omega
theorem eb_do (h : ex_G p l e R s m args below meth c Q Fin D I al0 B0 nL (ev_do ev_C ev_sw call (w % 128) w pc L S M top cc ss)) : cc ≤ R.cells ∧ ss ≤ R.slots := by
  generalize w % 128 = op at h
  by_cases h49 : op < 50
  · rcases (show op = 0 ∨ op = 1 ∨ op = 2 ∨ op = 3 ∨ op = 4 ∨ op = 5 ∨ op = 6 ∨ op = 7 ∨ op = 8 ∨ op = 9 ∨ op = 10 ∨ op = 11 ∨ op = 12 ∨ op = 13 ∨ op = 14 ∨ op = 15 ∨ op = 16 ∨ op = 17 ∨ op = 18 ∨ op = 19 ∨ op = 20 ∨ op = 21 ∨ op = 22 ∨ op = 23 ∨ op = 24 ∨ op = 25 ∨ op = 26 ∨ op = 27 ∨ op = 28 ∨ op = 29 ∨ op = 30 ∨ op = 31 ∨ op = 32 ∨ op = 33 ∨ op = 34 ∨ op = 35 ∨ op = 36 ∨ op = 37 ∨ op = 38 ∨ op = 39 ∨ op = 40 ∨ op = 41 ∨ op = 42 ∨ op = 43 ∨ op = 44 ∨ op = 45 ∨ op = 46 ∨ op = 47 ∨ op = 48 ∨ op = 49 by omega) with rfl | rfl | rfl | rfl | rfl | rfl | rfl | rfl | rfl | rfl | rfl | rfl | rfl | rfl | rfl | rfl | rfl | rfl | rfl | rfl | rfl | rfl | rfl | rfl | rfl | rfl | rfl | rfl | rfl | rfl | rfl | rfl | rfl | rfl | rfl | rfl | rfl | rfl | rfl | rfl | rfl | rfl | rfl | rfl | rfl | rfl | rfl | rfl | rfl | rfl
    · exact eb_o_bad (show ex_G p l e R s m args below meth c Q Fin D I al0 B0 nL (ev_o_bad w pc L S M top cc ss) from h)
    · exact eb_o_pushI (show ex_G p l e R s m args below meth c Q Fin D I al0 B0 nL (ev_o_pushI w pc L S M top cc ss) from h)
    · exact eb_o_pushL (show ex_G p l e R s m args below meth c Q Fin D I al0 B0 nL (ev_o_pushL w pc L S M top cc ss) from h)
    · exact eb_o_null (show ex_G p l e R s m args below meth c Q Fin D I al0 B0 nL (ev_o_null w pc L S M top cc ss) from h)
    · exact eb_o_pushR (show ex_G p l e R s m args below meth c Q Fin D I al0 B0 nL (ev_o_pushR w pc L S M top cc ss) from h)
    · exact eb_o_load (show ex_G p l e R s m args below meth c Q Fin D I al0 B0 nL (ev_o_load w pc L S M top cc ss) from h)
    · exact eb_o_store (show ex_G p l e R s m args below meth c Q Fin D I al0 B0 nL (ev_o_store w pc L S M top cc ss) from h)
    · exact eb_o_store2 (show ex_G p l e R s m args below meth c Q Fin D I al0 B0 nL (ev_o_store2 w pc L S M top cc ss) from h)
    · exact eb_o_iinc (show ex_G p l e R s m args below meth c Q Fin D I al0 B0 nL (ev_o_iinc w pc L S M top cc ss) from h)
    · exact eb_o_pop (show ex_G p l e R s m args below meth c Q Fin D I al0 B0 nL (ev_o_pop w pc L S M top cc ss) from h)
    · exact eb_o_pop2 (show ex_G p l e R s m args below meth c Q Fin D I al0 B0 nL (ev_o_pop2 w pc L S M top cc ss) from h)
    · exact eb_o_dup (show ex_G p l e R s m args below meth c Q Fin D I al0 B0 nL (ev_o_dup w pc L S M top cc ss) from h)
    · exact eb_o_dup_x1 (show ex_G p l e R s m args below meth c Q Fin D I al0 B0 nL (ev_o_dup_x1 w pc L S M top cc ss) from h)
    · exact eb_o_iadd (show ex_G p l e R s m args below meth c Q Fin D I al0 B0 nL (ev_o_iadd w pc L S M top cc ss) from h)
    · exact eb_o_isub (show ex_G p l e R s m args below meth c Q Fin D I al0 B0 nL (ev_o_isub w pc L S M top cc ss) from h)
    · exact eb_o_imul (show ex_G p l e R s m args below meth c Q Fin D I al0 B0 nL (ev_o_imul w pc L S M top cc ss) from h)
    · exact eb_o_irem (show ex_G p l e R s m args below meth c Q Fin D I al0 B0 nL (ev_o_irem w pc L S M top cc ss) from h)
    · exact eb_o_ishl (show ex_G p l e R s m args below meth c Q Fin D I al0 B0 nL (ev_o_ishl w pc L S M top cc ss) from h)
    · exact eb_o_ishr (show ex_G p l e R s m args below meth c Q Fin D I al0 B0 nL (ev_o_ishr w pc L S M top cc ss) from h)
    · exact eb_o_iand (show ex_G p l e R s m args below meth c Q Fin D I al0 B0 nL (ev_o_iand w pc L S M top cc ss) from h)
    · exact eb_o_ior (show ex_G p l e R s m args below meth c Q Fin D I al0 B0 nL (ev_o_ior w pc L S M top cc ss) from h)
    · exact eb_o_ixor (show ex_G p l e R s m args below meth c Q Fin D I al0 B0 nL (ev_o_ixor w pc L S M top cc ss) from h)
    · exact eb_o_ineg (show ex_G p l e R s m args below meth c Q Fin D I al0 B0 nL (ev_o_ineg w pc L S M top cc ss) from h)
    · exact eb_o_i2l (show ex_G p l e R s m args below meth c Q Fin D I al0 B0 nL (ev_o_i2l w pc L S M top cc ss) from h)
    · exact eb_o_i2b (show ex_G p l e R s m args below meth c Q Fin D I al0 B0 nL (ev_o_i2b w pc L S M top cc ss) from h)
    · exact eb_o_i2c (show ex_G p l e R s m args below meth c Q Fin D I al0 B0 nL (ev_o_i2c w pc L S M top cc ss) from h)
    · exact eb_o_ladd (show ex_G p l e R s m args below meth c Q Fin D I al0 B0 nL (ev_o_ladd w pc L S M top cc ss) from h)
    · exact eb_o_lmul (show ex_G p l e R s m args below meth c Q Fin D I al0 B0 nL (ev_o_lmul w pc L S M top cc ss) from h)
    · exact eb_o_lcmp (show ex_G p l e R s m args below meth c Q Fin D I al0 B0 nL (ev_o_lcmp w pc L S M top cc ss) from h)
    · exact eb_o_if (show ex_G p l e R s m args below meth c Q Fin D I al0 B0 nL (ev_o_if w pc L S M top cc ss) from h)
    · exact eb_o_ifcmp (show ex_G p l e R s m args below meth c Q Fin D I al0 B0 nL (ev_o_ifcmp w pc L S M top cc ss) from h)
    · exact eb_o_acmp (show ex_G p l e R s m args below meth c Q Fin D I al0 B0 nL (ev_o_acmp w pc L S M top cc ss) from h)
    · exact eb_o_ifnull (show ex_G p l e R s m args below meth c Q Fin D I al0 B0 nL (ev_o_ifnull w pc L S M top cc ss) from h)
    · exact eb_o_goto (show ex_G p l e R s m args below meth c Q Fin D I al0 B0 nL (ev_o_goto w pc L S M top cc ss) from h)
    · exact eb_o_switch (show ex_G p l e R s m args below meth c Q Fin D I al0 B0 nL (ev_o_switch ev_sw w pc L S M top cc ss) from h)
    · exact eb_o_ret (show ex_G p l e R s m args below meth c Q Fin D I al0 B0 nL (ev_o_ret w pc L S M top cc ss) from h)
    · exact eb_o_vret (show ex_G p l e R s m args below meth c Q Fin D I al0 B0 nL (ev_o_vret w pc L S M top cc ss) from h)
    · exact eb_o_getf (show ex_G p l e R s m args below meth c Q Fin D I al0 B0 nL (ev_o_getf w pc L S M top cc ss) from h)
    · exact eb_o_putf (show ex_G p l e R s m args below meth c Q Fin D I al0 B0 nL (ev_o_putf ev_C w pc L S M top cc ss) from h)
    · exact eb_o_alen (show ex_G p l e R s m args below meth c Q Fin D I al0 B0 nL (ev_o_alen w pc L S M top cc ss) from h)
    · exact eb_o_ald (show ex_G p l e R s m args below meth c Q Fin D I al0 B0 nL (ev_o_ald w pc L S M top cc ss) from h)
    · exact eb_o_ast (show ex_G p l e R s m args below meth c Q Fin D I al0 B0 nL (ev_o_ast ev_C w pc L S M top cc ss) from h)
    · exact eb_o_new (show ex_G p l e R s m args below meth c Q Fin D I al0 B0 nL (ev_o_new w pc L S M top cc ss) from h)
    · exact eb_o_newarr (show ex_G p l e R s m args below meth c Q Fin D I al0 B0 nL (ev_o_newarr w pc L S M top cc ss) from h)
    · exact eb_o_cast (show ex_G p l e R s m args below meth c Q Fin D I al0 B0 nL (ev_o_cast w pc L S M top cc ss) from h)
    · exact eb_inv (show ex_G p l e R s m args below meth c Q Fin D I al0 B0 nL (ev_inv call w pc L S M top cc ss) from h)
    · exact eb_o_acopy (show ex_G p l e R s m args below meth c Q Fin D I al0 B0 nL (ev_o_acopy ev_C w pc L S M top cc ss) from h)
    · exact eb_o_objinit (show ex_G p l e R s m args below meth c Q Fin D I al0 B0 nL (ev_o_objinit w pc L S M top cc ss) from h)
    · exact eb_o_getcls (show ex_G p l e R s m args below meth c Q Fin D I al0 B0 nL (ev_o_getcls w pc L S M top cc ss) from h)
    · exact eb_o_math (show ex_G p l e R s m args below meth c Q Fin D I al0 B0 nL (ev_o_math w pc L S M top cc ss) from h)
  · have h2 : ex_G p l e R s m args below meth c Q Fin D I al0 B0 nL (ev_bad M) := by
      unfold ev_do at h
      rw [ec_c, if_pos (Nat.ble_eq_true_of_le (by omega))] at h
      exact h
    exact ex_badG h2
end EH
