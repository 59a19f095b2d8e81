/-! one step of the interpreter is one instruction of the machine: the plain ones -/
def ip_i (a : Nat) : Int := if a < 2147483648 then (a : Int) else (a : Int) - 4294967296
theorem en_sarlt {x k : Nat} (hx : x < 4294967296) : ev_sar x k < 4294967296 := by
  unfold ev_sar
  rw [ec_c]
  split
  · show 4294967295 - _ < _; omega
  · exact Nat.lt_of_le_of_lt (by show x >>> k ≤ x; rw [Nat.shiftRight_eq_div_pow]; exact Nat.div_le_self _ _) hx
section EH
variable {p : Program} {l : Launch} {e : Env} {R : Room} {s : State} {m : MethodId} {args : Array Value} {below : List Frame} {meth : Method} {c : Code} {Q : State → Prop} {Fin : Nat → ev_M → Nat → Nat → Nat → Prop}
variable {D : Nat → ClassId} {I : Nat → Nat → Nat} {al0 : Nat → Nat} {B0 : Nat → Nat → Nat → Prop} {nL : Nat}
variable {cd : ByteArray} {w pc L S top cc ss : Nat} {M : ev_M} {al : Nat → Nat} {B : Nat → Nat → Nat → Prop} {H : Heap} {ls : Array Slot} {stk : List Value} {locs : List Loc}
theorem eh_len {n : Nat} (h : W p l e R s m args below meth c H locs cc ss Q (F0 m (pc + ev_len w) ls stk)) (hl : ev_len w = n) : W p l e R s m args below meth c H locs cc ss Q (F0 m (pc + n) ls stk) := by rw [← hl]; exact h
theorem eh_bin {x y : Nat} {z : Int32} {r : List Value} {S2 zz : Nat} (h : ex_G p l e R s m args below meth c Q Fin D I al0 B0 nL (ev_bin x y S2 w pc L M top cc ss zz)) (hl : ev_len w = 1) (hs : ex_stk al B r S2) (hc : ex_Cfg D I al0 B0 nL s al B M top L S ss H ls stk locs) (hz : zz < 4294967296) (he : z = nI zz) : W p l e R s m args below meth c H locs cc ss Q (F0 m (pc + 1) ls (.int z :: r)) := by
  refine eh_len (w := w) (ex_nx h (hc.stk (ex_pI hs hz he))) hl
def ip_op (cd : ByteArray) (pc w : Nat) (i : Instr) : Prop := ev_len w = 1 ∧ decode cd pc = .ok (i, 1)
theorem eh_iadd (hx : p.tables.exec = Jvm.exec) (hb : c.code = cd) (hI : ip_op cd pc w .iadd) (h : ex_G p l e R s m args below meth c Q Fin D I al0 B0 nL (ev_o_iadd w pc L S M top cc ss)) (hc : ex_Cfg D I al0 B0 nL s al B M top L S ss H ls stk locs) : W p l e R s m args below meth c H locs cc ss Q (F0 m pc ls stk) := by
  refine ex_1i (S := S) (stk := stk) (al := al) (B := B) h hc.2.2.2.2.1 (fun y r S2 e1 hy h2 h => ex_1i h h2 (fun x r2 S3 e2 hx2 h3 h => ?_))
  subst e1; subst e2
  exact lv_iadd hx hb hI.2 (eh_bin h hI.1 h3 hc (Nat.mod_lt _ (by decide)) ((nI_add x y).trans (en_mod _).symm))
theorem eh_isub (hx : p.tables.exec = Jvm.exec) (hb : c.code = cd) (hI : ip_op cd pc w .isub) (h : ex_G p l e R s m args below meth c Q Fin D I al0 B0 nL (ev_o_isub w pc L S M top cc ss)) (hc : ex_Cfg D I al0 B0 nL s al B M top L S ss H ls stk locs) : W p l e R s m args below meth c H locs cc ss Q (F0 m pc ls stk) := by
  refine ex_1i (S := S) (stk := stk) (al := al) (B := B) h hc.2.2.2.2.1 (fun y r S2 e1 hy h2 h => ex_1i h h2 (fun x r2 S3 e2 hx2 h3 h => ?_))
  subst e1; subst e2
  exact lv_isub hx hb hI.2 (eh_bin h hI.1 h3 hc (Nat.mod_lt _ (by decide)) ((en_sub x hy).trans (en_mod _).symm))
theorem eh_imul (hx : p.tables.exec = Jvm.exec) (hb : c.code = cd) (hI : ip_op cd pc w .imul) (h : ex_G p l e R s m args below meth c Q Fin D I al0 B0 nL (ev_o_imul w pc L S M top cc ss)) (hc : ex_Cfg D I al0 B0 nL s al B M top L S ss H ls stk locs) : W p l e R s m args below meth c H locs cc ss Q (F0 m pc ls stk) := by
  refine ex_1i (S := S) (stk := stk) (al := al) (B := B) h hc.2.2.2.2.1 (fun y r S2 e1 hy h2 h => ex_1i h h2 (fun x r2 S3 e2 hx2 h3 h => ?_))
  subst e1; subst e2
  exact lv_imul hx hb hI.2 (eh_bin h hI.1 h3 hc (Nat.mod_lt _ (by decide)) ((pk_mul x y).trans (en_mod _).symm))
theorem eh_ishl (hx : p.tables.exec = Jvm.exec) (hb : c.code = cd) (hI : ip_op cd pc w .ishl) (h : ex_G p l e R s m args below meth c Q Fin D I al0 B0 nL (ev_o_ishl w pc L S M top cc ss)) (hc : ex_Cfg D I al0 B0 nL s al B M top L S ss H ls stk locs) : W p l e R s m args below meth c H locs cc ss Q (F0 m pc ls stk) := by
  refine ex_1i (S := S) (stk := stk) (al := al) (B := B) h hc.2.2.2.2.1 (fun y r S2 e1 hy h2 h => ex_1i h h2 (fun x r2 S3 e2 hx2 h3 h => ?_))
  subst e1; subst e2
  exact lv_ishl hx hb hI.2 (eh_bin h hI.1 h3 hc (Nat.mod_lt _ (by decide)) (en_shl hx2 hy))
theorem eh_ishr (hx : p.tables.exec = Jvm.exec) (hb : c.code = cd) (hI : ip_op cd pc w .ishr) (h : ex_G p l e R s m args below meth c Q Fin D I al0 B0 nL (ev_o_ishr w pc L S M top cc ss)) (hc : ex_Cfg D I al0 B0 nL s al B M top L S ss H ls stk locs) : W p l e R s m args below meth c H locs cc ss Q (F0 m pc ls stk) := by
  refine ex_1i (S := S) (stk := stk) (al := al) (B := B) h hc.2.2.2.2.1 (fun y r S2 e1 hy h2 h => ex_1i h h2 (fun x r2 S3 e2 hx2 h3 h => ?_))
  subst e1; subst e2
  exact lv_ishr hx hb hI.2 (eh_bin h hI.1 h3 hc (en_sarlt hx2) (en_shr hx2 hy))
theorem eh_iand (hx : p.tables.exec = Jvm.exec) (hb : c.code = cd) (hI : ip_op cd pc w .iand) (h : ex_G p l e R s m args below meth c Q Fin D I al0 B0 nL (ev_o_iand w pc L S M top cc ss)) (hc : ex_Cfg D I al0 B0 nL s al B M top L S ss H ls stk locs) : W p l e R s m args below meth c H locs cc ss Q (F0 m pc ls stk) := by
  refine ex_1i (S := S) (stk := stk) (al := al) (B := B) h hc.2.2.2.2.1 (fun y r S2 e1 hy h2 h => ex_1i h h2 (fun x r2 S3 e2 hx2 h3 h => ?_))
  subst e1; subst e2
  exact lv_iand hx hb hI.2 (eh_bin h hI.1 h3 hc (Nat.lt_of_le_of_lt Nat.and_le_left hx2) (en_and hx2 hy))
theorem eh_ior (hx : p.tables.exec = Jvm.exec) (hb : c.code = cd) (hI : ip_op cd pc w .ior) (h : ex_G p l e R s m args below meth c Q Fin D I al0 B0 nL (ev_o_ior w pc L S M top cc ss)) (hc : ex_Cfg D I al0 B0 nL s al B M top L S ss H ls stk locs) : W p l e R s m args below meth c H locs cc ss Q (F0 m pc ls stk) := by
  refine ex_1i (S := S) (stk := stk) (al := al) (B := B) h hc.2.2.2.2.1 (fun y r S2 e1 hy h2 h => ex_1i h h2 (fun x r2 S3 e2 hx2 h3 h => ?_))
  subst e1; subst e2
  exact lv_ior hx hb hI.2 (eh_bin h hI.1 h3 hc (Nat.or_lt_two_pow (n := 32) hx2 hy) (en_or hx2 hy))
theorem eh_ixor (hx : p.tables.exec = Jvm.exec) (hb : c.code = cd) (hI : ip_op cd pc w .ixor) (h : ex_G p l e R s m args below meth c Q Fin D I al0 B0 nL (ev_o_ixor w pc L S M top cc ss)) (hc : ex_Cfg D I al0 B0 nL s al B M top L S ss H ls stk locs) : W p l e R s m args below meth c H locs cc ss Q (F0 m pc ls stk) := by
  refine ex_1i (S := S) (stk := stk) (al := al) (B := B) h hc.2.2.2.2.1 (fun y r S2 e1 hy h2 h => ex_1i h h2 (fun x r2 S3 e2 hx2 h3 h => ?_))
  subst e1; subst e2
  exact lv_ixor hx hb hI.2 (eh_bin h hI.1 h3 hc (Nat.xor_lt_two_pow (n := 32) hx2 hy) (en_xor hx2 hy))
theorem eh_irem (hx : p.tables.exec = Jvm.exec) (hb : c.code = cd) (hI : ip_op cd pc w .irem) (h : ex_G p l e R s m args below meth c Q Fin D I al0 B0 nL (ev_o_irem w pc L S M top cc ss)) (hc : ex_Cfg D I al0 B0 nL s al B M top L S ss H ls stk locs) : W p l e R s m args below meth c H locs cc ss Q (F0 m pc ls stk) := by
  refine ex_1i (S := S) (stk := stk) (al := al) (B := B) h hc.2.2.2.2.1 (fun y r S2 e1 hy h2 h => ex_1i h h2 (fun x r2 S3 e2 hx2 h3 h => ?_))
  subst e1; subst e2
  refine ex_ite h (fun _ h => ex_badG h) (fun hb0 h => ?_)
  have hn : ev_neg x = false ∧ ev_neg y = false ∧ Nat.beq y 0 = false := by
    cases q1 : ev_neg x <;> cases q2 : ev_neg y <;> cases q3 : Nat.beq y 0 <;> simp_all
  have h1 : x < 2147483648 := by
    have := hn.1
    unfold ev_neg at this
    have h9 : ¬ 2147483648 ≤ x := fun z => by rw [Nat.ble_eq.mpr z] at this; cases this
    omega
  have h4 : y < 2147483648 := by
    have := hn.2.1
    unfold ev_neg at this
    have h9 : ¬ 2147483648 ≤ y := fun z => by rw [Nat.ble_eq.mpr z] at this; cases this
    omega
  have h5 : y ≠ 0 := fun z => by rw [z] at hn; exact absurd hn.2.2 (by decide)
  have hm : x % y < y := Nat.mod_lt _ (by omega)
  refine lv_irem hx hb hI.2 (fun z => h5 ((en_eq (a := y) (b := 0) (by omega) (by decide)).mp z)) ?_
  exact eh_bin h hI.1 h3 hc (by show x % y < _; omega) (pk_rem (by omega) (by omega) (by omega))
theorem eh_ineg (hx : p.tables.exec = Jvm.exec) (hb : c.code = cd) (hI : ip_op cd pc w .ineg) (h : ex_G p l e R s m args below meth c Q Fin D I al0 B0 nL (ev_o_ineg w pc L S M top cc ss)) (hc : ex_Cfg D I al0 B0 nL s al B M top L S ss H ls stk locs) : W p l e R s m args below meth c H locs cc ss Q (F0 m pc ls stk) := by
  refine ex_1i (S := S) (stk := stk) (al := al) (B := B) h hc.2.2.2.2.1 (fun x r S2 e1 hx2 h2 h => ?_)
  subst e1
  refine lv_ineg hx hb hI.2 ?_
  exact eh_len (w := w) (ex_nx h (hc.stk (ex_pI h2 (Nat.mod_lt _ (by decide)) (by rw [en_neg hx2]; exact (en_mod _).symm)))) hI.1
theorem eh_i2l (hx : p.tables.exec = Jvm.exec) (hb : c.code = cd) (hI : ip_op cd pc w .i2l) (h : ex_G p l e R s m args below meth c Q Fin D I al0 B0 nL (ev_o_i2l w pc L S M top cc ss)) (hc : ex_Cfg D I al0 B0 nL s al B M top L S ss H ls stk locs) : W p l e R s m args below meth c H locs cc ss Q (F0 m pc ls stk) := by
  refine ex_1i (S := S) (stk := stk) (al := al) (B := B) h hc.2.2.2.2.1 (fun x r S2 e1 hx2 h2 h => ?_)
  subst e1
  refine lv_i2l hx hb hI.2 rfl ?_
  refine eh_len (w := w) (ex_nx h (hc.stk (ex_pL h2 ?_ (en_i2l hx2)))) hI.1
  rw [ec_c]
  have hn : ev_neg x = true ↔ 2147483648 ≤ x := by unfold ev_neg; rw [Nat.ble_eq]
  split
  · show x + 18446744069414584320 < _; omega
  · omega
theorem eh_i2b (hx : p.tables.exec = Jvm.exec) (hb : c.code = cd) (hI : ip_op cd pc w .i2b) (h : ex_G p l e R s m args below meth c Q Fin D I al0 B0 nL (ev_o_i2b w pc L S M top cc ss)) (hc : ex_Cfg D I al0 B0 nL s al B M top L S ss H ls stk locs) : W p l e R s m args below meth c H locs cc ss Q (F0 m pc ls stk) := by
  refine ex_1i (S := S) (stk := stk) (al := al) (B := B) h hc.2.2.2.2.1 (fun x r S2 e1 hx2 h2 h => ?_)
  subst e1
  refine ex_ite h (fun _ h => ex_badG h) (fun hb0 h => ?_)
  have h9 : ¬ 128 ≤ x := fun z => by rw [Nat.ble_eq.mpr z] at hb0; cases hb0
  refine lv_i2b hx hb hI.2 rfl ?_
  exact eh_len (w := w) (ex_nx h (hc.stk (ex_pI h2 (by omega) (en_i2b x (by omega))))) hI.1
theorem eh_i2c (hx : p.tables.exec = Jvm.exec) (hb : c.code = cd) (hI : ip_op cd pc w .i2c) (h : ex_G p l e R s m args below meth c Q Fin D I al0 B0 nL (ev_o_i2c w pc L S M top cc ss)) (hc : ex_Cfg D I al0 B0 nL s al B M top L S ss H ls stk locs) : W p l e R s m args below meth c H locs cc ss Q (F0 m pc ls stk) := by
  refine ex_1i (S := S) (stk := stk) (al := al) (B := B) h hc.2.2.2.2.1 (fun x r S2 e1 hx2 h2 h => ?_)
  subst e1
  refine lv_i2c hx hb hI.2 rfl ?_
  exact eh_len (w := w) (ex_nx h (hc.stk (ex_pI h2 (by show x % 65536 < _; omega) (en_i2c hx2)))) hI.1
theorem eh_ladd (hx : p.tables.exec = Jvm.exec) (hb : c.code = cd) (hI : ip_op cd pc w .ladd) (h : ex_G p l e R s m args below meth c Q Fin D I al0 B0 nL (ev_o_ladd w pc L S M top cc ss)) (hc : ex_Cfg D I al0 B0 nL s al B M top L S ss H ls stk locs) : W p l e R s m args below meth c H locs cc ss Q (F0 m pc ls stk) := by
  refine ex_1l (S := S) (stk := stk) (al := al) (B := B) h hc.2.2.2.2.1 (fun y r S2 e1 hy h2 h => ex_1l h h2 (fun x r2 S3 e2 hx2 h3 h => ?_))
  subst e1; subst e2
  refine lv_ladd hx hb hI.2 ?_
  exact eh_len (w := w) (ex_nx h (hc.stk (ex_pL h3 (Nat.mod_lt _ (by decide)) (en_ladd x y)))) hI.1
theorem eh_lmul (hx : p.tables.exec = Jvm.exec) (hb : c.code = cd) (hI : ip_op cd pc w .lmul) (h : ex_G p l e R s m args below meth c Q Fin D I al0 B0 nL (ev_o_lmul w pc L S M top cc ss)) (hc : ex_Cfg D I al0 B0 nL s al B M top L S ss H ls stk locs) : W p l e R s m args below meth c H locs cc ss Q (F0 m pc ls stk) := by
  refine ex_1l (S := S) (stk := stk) (al := al) (B := B) h hc.2.2.2.2.1 (fun y r S2 e1 hy h2 h => ex_1l h h2 (fun x r2 S3 e2 hx2 h3 h => ?_))
  subst e1; subst e2
  refine lv_lmul hx hb hI.2 ?_
  exact eh_len (w := w) (ex_nx h (hc.stk (ex_pL h3 (Nat.mod_lt _ (by decide)) (en_lmul x y)))) hI.1
theorem eh_lcmp (hx : p.tables.exec = Jvm.exec) (hb : c.code = cd) (hI : ip_op cd pc w .lcmp) (h : ex_G p l e R s m args below meth c Q Fin D I al0 B0 nL (ev_o_lcmp w pc L S M top cc ss)) (hc : ex_Cfg D I al0 B0 nL s al B M top L S ss H ls stk locs) : W p l e R s m args below meth c H locs cc ss Q (F0 m pc ls stk) := by
  refine ex_1l (S := S) (stk := stk) (al := al) (B := B) h hc.2.2.2.2.1 (fun y r S2 e1 hy h2 h => ex_1l h h2 (fun x r2 S3 e2 hx2 h3 h => ?_))
  subst e1; subst e2
  refine ex_ite h (fun hb0 hh => ?_) (fun _ h => ex_badG h)
  have hxy : x = y := ev_beqE.mp hb0
  refine W.lcmp hx hb hI.2 ?_
  have e0 : lg_cmp (lN x) (lN y) = nI 0 := by rw [hxy]; simp [lg_cmp, nI_0]
  exact eh_len (w := w) (ex_nx hh (hc.stk (ex_pI (n := 0) h3 (by decide) e0))) hI.1
theorem eh_null (hx : p.tables.exec = Jvm.exec) (hb : c.code = cd) (hI : ip_op cd pc w .aconst_null) (h : ex_G p l e R s m args below meth c Q Fin D I al0 B0 nL (ev_o_null w pc L S M top cc ss)) (hc : ex_Cfg D I al0 B0 nL s al B M top L S ss H ls stk locs) : W p l e R s m args below meth c H locs cc ss Q (F0 m pc ls stk) :=
  lv_null hx hb hI.2 (eh_len (w := w) (ex_nx h (hc.stk (ex_push hc.2.2.2.2.1 en_okN rfl))) hI.1)
theorem eh_cat (v : Nat) {B : Nat → Nat → Nat → Prop} (hv : eg_ok B v) (h : ¬ v % 4 = 3) : (eg_val al v).category = 1 := by
  rcases hv.2 with q | q | q | q
  · rw [eg_val_i _ q.1]; rfl
  · exact absurd q.1 h
  · rw [eg_val_r _ q.1]; rfl
  · subst q; rfl
theorem eh_tagF {v t : Nat} (h : ev_tag v t = false) : ¬ v % 4 = t := fun z => by rw [(ev_tagE v t).mpr z] at h; cases h
theorem eh_pop (hx : p.tables.exec = Jvm.exec) (hb : c.code = cd) (hI : ip_op cd pc w .pop) (h : ex_G p l e R s m args below meth c Q Fin D I al0 B0 nL (ev_o_pop w pc L S M top cc ss)) (hc : ex_Cfg D I al0 B0 nL s al B M top L S ss H ls stk locs) : W p l e R s m args below meth c H locs cc ss Q (F0 m pc ls stk) := by
  refine ex_1v (S := S) (stk := stk) (al := al) (B := B) h hc.2.2.2.2.1 (fun v r S2 e1 hv h2 h => ?_)
  subst e1
  refine ex_ite h (fun _ h => ex_badG h) (fun hb0 h => ?_)
  exact lv_pop hx hb hI.2 (eh_cat v hv (eh_tagF hb0)) (eh_len (w := w) (ex_nx h (hc.stk h2)) hI.1)
theorem eh_pop2 (hx : p.tables.exec = Jvm.exec) (hb : c.code = cd) (hI : ip_op cd pc w .pop2) (h : ex_G p l e R s m args below meth c Q Fin D I al0 B0 nL (ev_o_pop2 w pc L S M top cc ss)) (hc : ex_Cfg D I al0 B0 nL s al B M top L S ss H ls stk locs) : W p l e R s m args below meth c H locs cc ss Q (F0 m pc ls stk) := by
  refine ex_1l (S := S) (stk := stk) (al := al) (B := B) h hc.2.2.2.2.1 (fun v r S2 e1 hv h2 h => ?_)
  subst e1
  exact lv_pop2_2 hx hb hI.2 rfl (eh_len (w := w) (ex_nx h (hc.stk h2)) hI.1)
theorem eh_back {v S2 : Nat} {r : List Value} (hv : eg_ok B v) (h2 : ex_stk al B r S2) : ex_stk al B (eg_val al v :: r) (ev_ps S2 v) := ex_push h2 hv rfl
theorem eh_dup (hx : p.tables.exec = Jvm.exec) (hb : c.code = cd) (hI : ip_op cd pc w .dup) (h : ex_G p l e R s m args below meth c Q Fin D I al0 B0 nL (ev_o_dup w pc L S M top cc ss)) (hc : ex_Cfg D I al0 B0 nL s al B M top L S ss H ls stk locs) : W p l e R s m args below meth c H locs cc ss Q (F0 m pc ls stk) := by
  refine ex_1v (S := S) (stk := stk) (al := al) (B := B) h hc.2.2.2.2.1 (fun v r S2 e1 hv h2 h => ?_)
  refine ex_ite h (fun _ h => ex_badG h) (fun hb0 h => ?_)
  have h3 : ex_stk al B (eg_val al v :: stk) (ev_ps S v) := ex_push hc.2.2.2.2.1 hv rfl
  have k := eh_len (w := w) (ex_nx h (hc.stk h3)) hI.1
  subst e1
  exact lv_dup hx hb hI.2 (eh_cat v hv (eh_tagF hb0)) k
theorem eh_dup_x1 (hx : p.tables.exec = Jvm.exec) (hb : c.code = cd) (hI : ip_op cd pc w .dup_x1) (h : ex_G p l e R s m args below meth c Q Fin D I al0 B0 nL (ev_o_dup_x1 w pc L S M top cc ss)) (hc : ex_Cfg D I al0 B0 nL s al B M top L S ss H ls stk locs) : W p l e R s m args below meth c H locs cc ss Q (F0 m pc ls stk) := by
  refine ex_1v (S := S) (stk := stk) (al := al) (B := B) h hc.2.2.2.2.1 (fun v r S2 e1 hv h2 h => ex_1v h h2 (fun u r2 S3 e2 hu h3 h => ?_))
  subst e1; subst e2
  refine ex_ite h (fun _ h => ex_badG h) (fun hb0 h => ?_)
  have hn : ev_tag v 3 = false ∧ ev_tag u 3 = false := by cases q1 : ev_tag v 3 <;> cases q2 : ev_tag u 3 <;> simp_all
  exact lv_dup_x1 hx hb hI.2 (eh_cat v hv (eh_tagF hn.1)) (eh_cat u hu (eh_tagF hn.2)) (eh_len (w := w) (ex_nx h (hc.stk (eh_back hv (eh_back hu (eh_back hv h3))))) hI.1)
end EH
