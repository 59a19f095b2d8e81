/-! what is used stays below the room; new cells -/
section EB
variable {p : Program} {l : Launch} {e : Env} {R : Room} {s : State} {m : MethodId} {args : Array Value} {below : List Frame} {meth : Method} {c : Code} {Q : State → Prop} {Fin : Nat → ev_M → Nat → Nat → Nat → Prop}
variable {D : Nat → ClassId} {I : Nat → Nat → Nat} {al0 : Nat → Nat} {B0 : Nat → Nat → Nat → Prop} {nL : Nat}
variable {cd : ByteArray} {w pc L S top cc ss : Nat} {M : ev_M} {al : Nat → Nat} {B : Nat → Nat → Nat → Prop} {H : Heap} {ls : Array Slot} {stk : List Value} {locs : List Loc}
variable {cc2 ss2 : Nat}
theorem eb_bad {P : Prop} {M2 : ev_M} (h : ex_G p l e R s m args below meth c Q Fin D I al0 B0 nL (ev_bad M2)) : P := ex_badG h
theorem eb_nx {w2 pc2 L2 S2 t2 : Nat} {M2 : ev_M} (h : ex_G p l e R s m args below meth c Q Fin D I al0 B0 nL (ev_nx w2 pc2 L2 S2 M2 t2 cc ss)) : cc ≤ R.cells ∧ ss ≤ R.slots := by
  unfold ev_nx at h
  rw [ec_f, ec_f] at h
  exact (h.1 rfl).1
theorem eb_jp {pc2 L2 S2 t2 : Nat} {M2 : ev_M} (h : ex_G p l e R s m args below meth c Q Fin D I al0 B0 nL (ev_jp pc2 L2 S2 M2 t2 cc ss)) : cc ≤ R.cells ∧ ss ≤ R.slots := by
  unfold ev_jp at h
  rw [ec_f, ec_f] at h
  exact (h.1 rfl).1
theorem eb_done {S2 t2 : Nat} {M2 : ev_M} (h : ex_G p l e R s m args below meth c Q Fin D I al0 B0 nL (ev_mk 1 0 0 S2 M2 t2 cc ss)) : (cc ≤ R.cells ∧ ss ≤ R.slots) ∧ Fin S2 M2 t2 cc ss := h.2.1 rfl
theorem eb_f {P : Prop} {n : Nat} {k : Nat → ev_St} (h : ex_G p l e R s m args below meth c Q Fin D I al0 B0 nL (ev_f n k)) (kk : ex_G p l e R s m args below meth c Q Fin D I al0 B0 nL (k n) → P) : P := by
  rw [ec_f] at h
  exact kk h
theorem eb_c {P : Prop} {b : Bool} {x y : ev_St} (h : ex_G p l e R s m args below meth c Q Fin D I al0 B0 nL (ev_c b x y)) (kt : ex_G p l e R s m args below meth c Q Fin D I al0 B0 nL x → P) (kf : ex_G p l e R s m args below meth c Q Fin D I al0 B0 nL y → P) : P := ex_ite h (fun _ h => kt h) (fun _ h => kf h)
theorem eb_1v {P : Prop} {S2 : Nat} {M2 : ev_M} {k : Nat → Nat → ev_St} (h : ex_G p l e R s m args below meth c Q Fin D I al0 B0 nL (ev_1v S2 M2 k)) (kk : ∀ v r, ex_G p l e R s m args below meth c Q Fin D I al0 B0 nL (k v r) → P) : P := by
  unfold ev_1v ev_top at h
  rw [ec_f, ec_f] at h
  exact eb_c h (fun h => eb_bad h) (fun h => kk _ _ h)
theorem eb_1i {P : Prop} {S2 : Nat} {M2 : ev_M} {k : Nat → Nat → ev_St} (h : ex_G p l e R s m args below meth c Q Fin D I al0 B0 nL (ev_1i S2 M2 k)) (kk : ∀ v r, ex_G p l e R s m args below meth c Q Fin D I al0 B0 nL (k v r) → P) : P := by
  unfold ev_1i ev_top at h
  rw [ec_f, ec_f] at h
  exact eb_c h (fun h => eb_f h (fun h => kk _ _ h)) (fun h => eb_bad h)
theorem eb_2i {P : Prop} {S2 : Nat} {M2 : ev_M} {k : Nat → Nat → Nat → ev_St} (h : ex_G p l e R s m args below meth c Q Fin D I al0 B0 nL (ev_2i S2 M2 k)) (kk : ∀ x y r, ex_G p l e R s m args below meth c Q Fin D I al0 B0 nL (k x y r) → P) : P := eb_1i h (fun _ _ h => eb_1i h (fun _ _ h => kk _ _ _ h))
theorem eb_1l {P : Prop} {S2 : Nat} {M2 : ev_M} {k : Nat → Nat → ev_St} (h : ex_G p l e R s m args below meth c Q Fin D I al0 B0 nL (ev_1l S2 M2 k)) (kk : ∀ v r, ex_G p l e R s m args below meth c Q Fin D I al0 B0 nL (k v r) → P) : P := by
  unfold ev_1l ev_top at h
  rw [ec_f, ec_f] at h
  exact eb_c h (fun h => eb_f h (fun h => kk _ _ h)) (fun h => eb_bad h)
theorem eb_2l {P : Prop} {S2 : Nat} {M2 : ev_M} {k : Nat → Nat → Nat → ev_St} (h : ex_G p l e R s m args below meth c Q Fin D I al0 B0 nL (ev_2l S2 M2 k)) (kk : ∀ x y r, ex_G p l e R s m args below meth c Q Fin D I al0 B0 nL (k x y r) → P) : P := eb_1l h (fun _ _ h => eb_1l h (fun _ _ h => kk _ _ _ h))
theorem eb_1r {P : Prop} {S2 kd : Nat} {M2 : ev_M} {k : Nat → Nat → ev_St} (h : ex_G p l e R s m args below meth c Q Fin D I al0 B0 nL (ev_1r S2 kd M2 k)) (kk : ∀ v r, ex_G p l e R s m args below meth c Q Fin D I al0 B0 nL (k v r) → P) : P := by
  unfold ev_1r ev_top at h
  rw [ec_f, ec_f] at h
  exact eb_c h (fun h => eb_c h (fun h => eb_f h (fun h => kk _ _ h)) (fun h => eb_bad h)) (fun h => eb_bad h)
theorem eb_top {P : Prop} {S2 : Nat} {k : Nat → Nat → ev_St} (h : ex_G p l e R s m args below meth c Q Fin D I al0 B0 nL (ev_top S2 k)) (kk : ∀ v r, ex_G p l e R s m args below meth c Q Fin D I al0 B0 nL (k v r) → P) : P := by
  unfold ev_top at h
  rw [ec_f, ec_f] at h
  exact kk _ _ h
theorem eb_wr {P : Prop} {a v : Nat} {M2 : ev_M} {k : ev_M → ev_St} (h : ex_G p l e R s m args below meth c Q Fin D I al0 B0 nL (ev_wr M2 a v k)) (kk : ∀ M3, ex_G p l e R s m args below meth c Q Fin D I al0 B0 nL (k M3) → P) : P := by
  rw [em_wr] at h
  exact kk _ h
theorem eb_cp {P : Prop} {k : ev_M → ev_St} (kk : ∀ M3, ex_G p l e R s m args below meth c Q Fin D I al0 B0 nL (k M3) → P) : ∀ (n : Nat) (M2 : ev_M) (a b : Nat), ex_G p l e R s m args below meth c Q Fin D I al0 B0 nL (ev_cp n k M2 a b) → P
  | 0, M2, _, _, h => kk M2 h
  | n + 1, M2, a, b, h => eb_f (k := fun v => ev_wr M2 b v fun M3 => ev_f (Nat.succ a) fun a2 => ev_f (Nat.succ b) fun b2 => ev_cp n k M3 a2 b2) h (fun h => eb_wr h (fun M3 h => eb_f h (fun h => eb_f h (fun h => eb_cp kk n M3 _ _ h))))
theorem eb_more {a : Nat} (h : Nat.succ cc ≤ R.cells ∧ Nat.add ss a ≤ R.slots) : cc ≤ R.cells ∧ ss ≤ R.slots := ⟨Nat.le_of_succ_le h.1, Nat.le_trans (Nat.le_add_right _ _) h.2⟩
theorem eb_o_bad (h : ex_G p l e R s m args below meth c Q Fin D I al0 B0 nL (ev_o_bad w pc L S M top cc ss)) : cc ≤ R.cells ∧ ss ≤ R.slots := by
  unfold ev_o_bad at h
  repeat' (first | with_reducible exact eb_bad h | with_reducible exact eb_nx h | with_reducible exact eb_jp h | with_reducible exact (eb_done h).1 | with_reducible refine eb_c h (fun h => ?_) (fun h => ?_) | with_reducible refine eb_f h (fun h => ?_) | with_reducible refine eb_1i h (fun _ _ h => ?_) | with_reducible refine eb_2i h (fun _ _ _ h => ?_) | with_reducible refine eb_1l h (fun _ _ h => ?_) | with_reducible refine eb_2l h (fun _ _ _ h => ?_) | with_reducible refine eb_1r h (fun _ _ h => ?_) | with_reducible refine eb_1v h (fun _ _ h => ?_) | with_reducible refine eb_top h (fun _ _ h => ?_) | with_reducible refine eb_wr h (fun _ h => ?_) | with_reducible refine eb_cp (fun _ h => ?_) _ _ _ _ h)
theorem eb_o_pushI (h : ex_G p l e R s m args below meth c Q Fin D I al0 B0 nL (ev_o_pushI w pc L S M top cc ss)) : cc ≤ R.cells ∧ ss ≤ R.slots := by
  unfold ev_o_pushI at h
  repeat' (first | with_reducible exact eb_bad h | with_reducible exact eb_nx h | with_reducible exact eb_jp h | with_reducible exact (eb_done h).1 | with_reducible refine eb_c h (fun h => ?_) (fun h => ?_) | with_reducible refine eb_f h (fun h => ?_) | with_reducible refine eb_1i h (fun _ _ h => ?_) | with_reducible refine eb_2i h (fun _ _ _ h => ?_) | with_reducible refine eb_1l h (fun _ _ h => ?_) | with_reducible refine eb_2l h (fun _ _ _ h => ?_) | with_reducible refine eb_1r h (fun _ _ h => ?_) | with_reducible refine eb_1v h (fun _ _ h => ?_) | with_reducible refine eb_top h (fun _ _ h => ?_) | with_reducible refine eb_wr h (fun _ h => ?_) | with_reducible refine eb_cp (fun _ h => ?_) _ _ _ _ h)
theorem eb_o_pushL (h : ex_G p l e R s m args below meth c Q Fin D I al0 B0 nL (ev_o_pushL w pc L S M top cc ss)) : cc ≤ R.cells ∧ ss ≤ R.slots := by
  unfold ev_o_pushL at h
  repeat' (first | with_reducible exact eb_bad h | with_reducible exact eb_nx h | with_reducible exact eb_jp h | with_reducible exact (eb_done h).1 | with_reducible refine eb_c h (fun h => ?_) (fun h => ?_) | with_reducible refine eb_f h (fun h => ?_) | with_reducible refine eb_1i h (fun _ _ h => ?_) | with_reducible refine eb_2i h (fun _ _ _ h => ?_) | with_reducible refine eb_1l h (fun _ _ h => ?_) | with_reducible refine eb_2l h (fun _ _ _ h => ?_) | with_reducible refine eb_1r h (fun _ _ h => ?_) | with_reducible refine eb_1v h (fun _ _ h => ?_) | with_reducible refine eb_top h (fun _ _ h => ?_) | with_reducible refine eb_wr h (fun _ h => ?_) | with_reducible refine eb_cp (fun _ h => ?_) _ _ _ _ h)
theorem eb_o_null (h : ex_G p l e R s m args below meth c Q Fin D I al0 B0 nL (ev_o_null w pc L S M top cc ss)) : cc ≤ R.cells ∧ ss ≤ R.slots := by
  unfold ev_o_null at h
  repeat' (first | with_reducible exact eb_bad h | with_reducible exact eb_nx h | with_reducible exact eb_jp h | with_reducible exact (eb_done h).1 | with_reducible refine eb_c h (fun h => ?_) (fun h => ?_) | with_reducible refine eb_f h (fun h => ?_) | with_reducible refine eb_1i h (fun _ _ h => ?_) | with_reducible refine eb_2i h (fun _ _ _ h => ?_) | with_reducible refine eb_1l h (fun _ _ h => ?_) | with_reducible refine eb_2l h (fun _ _ _ h => ?_) | with_reducible refine eb_1r h (fun _ _ h => ?_) | with_reducible refine eb_1v h (fun _ _ h => ?_) | with_reducible refine eb_top h (fun _ _ h => ?_) | with_reducible refine eb_wr h (fun _ h => ?_) | with_reducible refine eb_cp (fun _ h => ?_) _ _ _ _ h)
theorem eb_o_pushR (h : ex_G p l e R s m args below meth c Q Fin D I al0 B0 nL (ev_o_pushR w pc L S M top cc ss)) : cc ≤ R.cells ∧ ss ≤ R.slots := by
  unfold ev_o_pushR at h
  repeat' (first | with_reducible exact eb_bad h | with_reducible exact eb_nx h | with_reducible exact eb_jp h | with_reducible exact (eb_done h).1 | with_reducible refine eb_c h (fun h => ?_) (fun h => ?_) | with_reducible refine eb_f h (fun h => ?_) | with_reducible refine eb_1i h (fun _ _ h => ?_) | with_reducible refine eb_2i h (fun _ _ _ h => ?_) | with_reducible refine eb_1l h (fun _ _ h => ?_) | with_reducible refine eb_2l h (fun _ _ _ h => ?_) | with_reducible refine eb_1r h (fun _ _ h => ?_) | with_reducible refine eb_1v h (fun _ _ h => ?_) | with_reducible refine eb_top h (fun _ _ h => ?_) | with_reducible refine eb_wr h (fun _ h => ?_) | with_reducible refine eb_cp (fun _ h => ?_) _ _ _ _ h)
theorem eb_o_load (h : ex_G p l e R s m args below meth c Q Fin D I al0 B0 nL (ev_o_load w pc L S M top cc ss)) : cc ≤ R.cells ∧ ss ≤ R.slots := by
  unfold ev_o_load at h
  repeat' (first | with_reducible exact eb_bad h | with_reducible exact eb_nx h | with_reducible exact eb_jp h | with_reducible exact (eb_done h).1 | with_reducible refine eb_c h (fun h => ?_) (fun h => ?_) | with_reducible refine eb_f h (fun h => ?_) | with_reducible refine eb_1i h (fun _ _ h => ?_) | with_reducible refine eb_2i h (fun _ _ _ h => ?_) | with_reducible refine eb_1l h (fun _ _ h => ?_) | with_reducible refine eb_2l h (fun _ _ _ h => ?_) | with_reducible refine eb_1r h (fun _ _ h => ?_) | with_reducible refine eb_1v h (fun _ _ h => ?_) | with_reducible refine eb_top h (fun _ _ h => ?_) | with_reducible refine eb_wr h (fun _ h => ?_) | with_reducible refine eb_cp (fun _ h => ?_) _ _ _ _ h)
theorem eb_o_store (h : ex_G p l e R s m args below meth c Q Fin D I al0 B0 nL (ev_o_store w pc L S M top cc ss)) : cc ≤ R.cells ∧ ss ≤ R.slots := by
  unfold ev_o_store at h
  repeat' (first | with_reducible exact eb_bad h | with_reducible exact eb_nx h | with_reducible exact eb_jp h | with_reducible exact (eb_done h).1 | with_reducible refine eb_c h (fun h => ?_) (fun h => ?_) | with_reducible refine eb_f h (fun h => ?_) | with_reducible refine eb_1i h (fun _ _ h => ?_) | with_reducible refine eb_2i h (fun _ _ _ h => ?_) | with_reducible refine eb_1l h (fun _ _ h => ?_) | with_reducible refine eb_2l h (fun _ _ _ h => ?_) | with_reducible refine eb_1r h (fun _ _ h => ?_) | with_reducible refine eb_1v h (fun _ _ h => ?_) | with_reducible refine eb_top h (fun _ _ h => ?_) | with_reducible refine eb_wr h (fun _ h => ?_) | with_reducible refine eb_cp (fun _ h => ?_) _ _ _ _ h)
theorem eb_o_store2 (h : ex_G p l e R s m args below meth c Q Fin D I al0 B0 nL (ev_o_store2 w pc L S M top cc ss)) : cc ≤ R.cells ∧ ss ≤ R.slots := by
  unfold ev_o_store2 at h
  repeat' (first | with_reducible exact eb_bad h | with_reducible exact eb_nx h | with_reducible exact eb_jp h | with_reducible exact (eb_done h).1 | with_reducible refine eb_c h (fun h => ?_) (fun h => ?_) | with_reducible refine eb_f h (fun h => ?_) | with_reducible refine eb_1i h (fun _ _ h => ?_) | with_reducible refine eb_2i h (fun _ _ _ h => ?_) | with_reducible refine eb_1l h (fun _ _ h => ?_) | with_reducible refine eb_2l h (fun _ _ _ h => ?_) | with_reducible refine eb_1r h (fun _ _ h => ?_) | with_reducible refine eb_1v h (fun _ _ h => ?_) | with_reducible refine eb_top h (fun _ _ h => ?_) | with_reducible refine eb_wr h (fun _ h => ?_) | with_reducible refine eb_cp (fun _ h => ?_) _ _ _ _ h)
theorem eb_o_iinc (h : ex_G p l e R s m args below meth c Q Fin D I al0 B0 nL (ev_o_iinc w pc L S M top cc ss)) : cc ≤ R.cells ∧ ss ≤ R.slots := by
  unfold ev_o_iinc at h
  repeat' (first | with_reducible exact eb_bad h | with_reducible exact eb_nx h | with_reducible exact eb_jp h | with_reducible exact (eb_done h).1 | with_reducible refine eb_c h (fun h => ?_) (fun h => ?_) | with_reducible refine eb_f h (fun h => ?_) | with_reducible refine eb_1i h (fun _ _ h => ?_) | with_reducible refine eb_2i h (fun _ _ _ h => ?_) | with_reducible refine eb_1l h (fun _ _ h => ?_) | with_reducible refine eb_2l h (fun _ _ _ h => ?_) | with_reducible refine eb_1r h (fun _ _ h => ?_) | with_reducible refine eb_1v h (fun _ _ h => ?_) | with_reducible refine eb_top h (fun _ _ h => ?_) | with_reducible refine eb_wr h (fun _ h => ?_) | with_reducible refine eb_cp (fun _ h => ?_) _ _ _ _ h)
theorem eb_o_pop (h : ex_G p l e R s m args below meth c Q Fin D I al0 B0 nL (ev_o_pop w pc L S M top cc ss)) : cc ≤ R.cells ∧ ss ≤ R.slots := by
  unfold ev_o_pop at h
  repeat' (first | with_reducible exact eb_bad h | with_reducible exact eb_nx h | with_reducible exact eb_jp h | with_reducible exact (eb_done h).1 | with_reducible refine eb_c h (fun h => ?_) (fun h => ?_) | with_reducible refine eb_f h (fun h => ?_) | with_reducible refine eb_1i h (fun _ _ h => ?_) | with_reducible refine eb_2i h (fun _ _ _ h => ?_) | with_reducible refine eb_1l h (fun _ _ h => ?_) | with_reducible refine eb_2l h (fun _ _ _ h => ?_) | with_reducible refine eb_1r h (fun _ _ h => ?_) | with_reducible refine eb_1v h (fun _ _ h => ?_) | with_reducible refine eb_top h (fun _ _ h => ?_) | with_reducible refine eb_wr h (fun _ h => ?_) | with_reducible refine eb_cp (fun _ h => ?_) _ _ _ _ h)
theorem eb_o_pop2 (h : ex_G p l e R s m args below meth c Q Fin D I al0 B0 nL (ev_o_pop2 w pc L S M top cc ss)) : cc ≤ R.cells ∧ ss ≤ R.slots := by
  unfold ev_o_pop2 at h
  repeat' (first | with_reducible exact eb_bad h | with_reducible exact eb_nx h | with_reducible exact eb_jp h | with_reducible exact (eb_done h).1 | with_reducible refine eb_c h (fun h => ?_) (fun h => ?_) | with_reducible refine eb_f h (fun h => ?_) | with_reducible refine eb_1i h (fun _ _ h => ?_) | with_reducible refine eb_2i h (fun _ _ _ h => ?_) | with_reducible refine eb_1l h (fun _ _ h => ?_) | with_reducible refine eb_2l h (fun _ _ _ h => ?_) | with_reducible refine eb_1r h (fun _ _ h => ?_) | with_reducible refine eb_1v h (fun _ _ h => ?_) | with_reducible refine eb_top h (fun _ _ h => ?_) | with_reducible refine eb_wr h (fun _ h => ?_) | with_reducible refine eb_cp (fun _ h => ?_) _ _ _ _ h)
theorem eb_o_dup (h : ex_G p l e R s m args below meth c Q Fin D I al0 B0 nL (ev_o_dup w pc L S M top cc ss)) : cc ≤ R.cells ∧ ss ≤ R.slots := by
  unfold ev_o_dup at h
  repeat' (first | with_reducible exact eb_bad h | with_reducible exact eb_nx h | with_reducible exact eb_jp h | with_reducible exact (eb_done h).1 | with_reducible refine eb_c h (fun h => ?_) (fun h => ?_) | with_reducible refine eb_f h (fun h => ?_) | with_reducible refine eb_1i h (fun _ _ h => ?_) | with_reducible refine eb_2i h (fun _ _ _ h => ?_) | with_reducible refine eb_1l h (fun _ _ h => ?_) | with_reducible refine eb_2l h (fun _ _ _ h => ?_) | with_reducible refine eb_1r h (fun _ _ h => ?_) | with_reducible refine eb_1v h (fun _ _ h => ?_) | with_reducible refine eb_top h (fun _ _ h => ?_) | with_reducible refine eb_wr h (fun _ h => ?_) | with_reducible refine eb_cp (fun _ h => ?_) _ _ _ _ h)
theorem eb_o_dup_x1 (h : ex_G p l e R s m args below meth c Q Fin D I al0 B0 nL (ev_o_dup_x1 w pc L S M top cc ss)) : cc ≤ R.cells ∧ ss ≤ R.slots := by
  unfold ev_o_dup_x1 at h
  repeat' (first | with_reducible exact eb_bad h | with_reducible exact eb_nx h | with_reducible exact eb_jp h | with_reducible exact (eb_done h).1 | with_reducible refine eb_c h (fun h => ?_) (fun h => ?_) | with_reducible refine eb_f h (fun h => ?_) | with_reducible refine eb_1i h (fun _ _ h => ?_) | with_reducible refine eb_2i h (fun _ _ _ h => ?_) | with_reducible refine eb_1l h (fun _ _ h => ?_) | with_reducible refine eb_2l h (fun _ _ _ h => ?_) | with_reducible refine eb_1r h (fun _ _ h => ?_) | with_reducible refine eb_1v h (fun _ _ h => ?_) | with_reducible refine eb_top h (fun _ _ h => ?_) | with_reducible refine eb_wr h (fun _ h => ?_) | with_reducible refine eb_cp (fun _ h => ?_) _ _ _ _ h)
theorem eb_o_iadd (h : ex_G p l e R s m args below meth c Q Fin D I al0 B0 nL (ev_o_iadd w pc L S M top cc ss)) : cc ≤ R.cells ∧ ss ≤ R.slots := by
  unfold ev_o_iadd ev_bin at h
  repeat' (first | with_reducible exact eb_bad h | with_reducible exact eb_nx h | with_reducible exact eb_jp h | with_reducible exact (eb_done h).1 | with_reducible refine eb_c h (fun h => ?_) (fun h => ?_) | with_reducible refine eb_f h (fun h => ?_) | with_reducible refine eb_1i h (fun _ _ h => ?_) | with_reducible refine eb_2i h (fun _ _ _ h => ?_) | with_reducible refine eb_1l h (fun _ _ h => ?_) | with_reducible refine eb_2l h (fun _ _ _ h => ?_) | with_reducible refine eb_1r h (fun _ _ h => ?_) | with_reducible refine eb_1v h (fun _ _ h => ?_) | with_reducible refine eb_top h (fun _ _ h => ?_) | with_reducible refine eb_wr h (fun _ h => ?_) | with_reducible refine eb_cp (fun _ h => ?_) _ _ _ _ h)
theorem eb_o_isub (h : ex_G p l e R s m args below meth c Q Fin D I al0 B0 nL (ev_o_isub w pc L S M top cc ss)) : cc ≤ R.cells ∧ ss ≤ R.slots := by
  unfold ev_o_isub ev_bin at h
  repeat' (first | with_reducible exact eb_bad h | with_reducible exact eb_nx h | with_reducible exact eb_jp h | with_reducible exact (eb_done h).1 | with_reducible refine eb_c h (fun h => ?_) (fun h => ?_) | with_reducible refine eb_f h (fun h => ?_) | with_reducible refine eb_1i h (fun _ _ h => ?_) | with_reducible refine eb_2i h (fun _ _ _ h => ?_) | with_reducible refine eb_1l h (fun _ _ h => ?_) | with_reducible refine eb_2l h (fun _ _ _ h => ?_) | with_reducible refine eb_1r h (fun _ _ h => ?_) | with_reducible refine eb_1v h (fun _ _ h => ?_) | with_reducible refine eb_top h (fun _ _ h => ?_) | with_reducible refine eb_wr h (fun _ h => ?_) | with_reducible refine eb_cp (fun _ h => ?_) _ _ _ _ h)
theorem eb_o_imul (h : ex_G p l e R s m args below meth c Q Fin D I al0 B0 nL (ev_o_imul w pc L S M top cc ss)) : cc ≤ R.cells ∧ ss ≤ R.slots := by
  unfold ev_o_imul ev_bin at h
  repeat' (first | with_reducible exact eb_bad h | with_reducible exact eb_nx h | with_reducible exact eb_jp h | with_reducible exact (eb_done h).1 | with_reducible refine eb_c h (fun h => ?_) (fun h => ?_) | with_reducible refine eb_f h (fun h => ?_) | with_reducible refine eb_1i h (fun _ _ h => ?_) | with_reducible refine eb_2i h (fun _ _ _ h => ?_) | with_reducible refine eb_1l h (fun _ _ h => ?_) | with_reducible refine eb_2l h (fun _ _ _ h => ?_) | with_reducible refine eb_1r h (fun _ _ h => ?_) | with_reducible refine eb_1v h (fun _ _ h => ?_) | with_reducible refine eb_top h (fun _ _ h => ?_) | with_reducible refine eb_wr h (fun _ h => ?_) | with_reducible refine eb_cp (fun _ h => ?_) _ _ _ _ h)
theorem eb_o_irem (h : ex_G p l e R s m args below meth c Q Fin D I al0 B0 nL (ev_o_irem w pc L S M top cc ss)) : cc ≤ R.cells ∧ ss ≤ R.slots := by
  unfold ev_o_irem ev_bin at h
  repeat' (first | with_reducible exact eb_bad h | with_reducible exact eb_nx h | with_reducible exact eb_jp h | with_reducible exact (eb_done h).1 | with_reducible refine eb_c h (fun h => ?_) (fun h => ?_) | with_reducible refine eb_f h (fun h => ?_) | with_reducible refine eb_1i h (fun _ _ h => ?_) | with_reducible refine eb_2i h (fun _ _ _ h => ?_) | with_reducible refine eb_1l h (fun _ _ h => ?_) | with_reducible refine eb_2l h (fun _ _ _ h => ?_) | with_reducible refine eb_1r h (fun _ _ h => ?_) | with_reducible refine eb_1v h (fun _ _ h => ?_) | with_reducible refine eb_top h (fun _ _ h => ?_) | with_reducible refine eb_wr h (fun _ h => ?_) | with_reducible refine eb_cp (fun _ h => ?_) _ _ _ _ h)
theorem eb_o_ishl (h : ex_G p l e R s m args below meth c Q Fin D I al0 B0 nL (ev_o_ishl w pc L S M top cc ss)) : cc ≤ R.cells ∧ ss ≤ R.slots := by
  unfold ev_o_ishl ev_bin at h
  repeat' (first | with_reducible exact eb_bad h | with_reducible exact eb_nx h | with_reducible exact eb_jp h | with_reducible exact (eb_done h).1 | with_reducible refine eb_c h (fun h => ?_) (fun h => ?_) | with_reducible refine eb_f h (fun h => ?_) | with_reducible refine eb_1i h (fun _ _ h => ?_) | with_reducible refine eb_2i h (fun _ _ _ h => ?_) | with_reducible refine eb_1l h (fun _ _ h => ?_) | with_reducible refine eb_2l h (fun _ _ _ h => ?_) | with_reducible refine eb_1r h (fun _ _ h => ?_) | with_reducible refine eb_1v h (fun _ _ h => ?_) | with_reducible refine eb_top h (fun _ _ h => ?_) | with_reducible refine eb_wr h (fun _ h => ?_) | with_reducible refine eb_cp (fun _ h => ?_) _ _ _ _ h)
theorem eb_o_ishr (h : ex_G p l e R s m args below meth c Q Fin D I al0 B0 nL (ev_o_ishr w pc L S M top cc ss)) : cc ≤ R.cells ∧ ss ≤ R.slots := by
  unfold ev_o_ishr ev_bin at h
  repeat' (first | with_reducible exact eb_bad h | with_reducible exact eb_nx h | with_reducible exact eb_jp h | with_reducible exact (eb_done h).1 | with_reducible refine eb_c h (fun h => ?_) (fun h => ?_) | with_reducible refine eb_f h (fun h => ?_) | with_reducible refine eb_1i h (fun _ _ h => ?_) | with_reducible refine eb_2i h (fun _ _ _ h => ?_) | with_reducible refine eb_1l h (fun _ _ h => ?_) | with_reducible refine eb_2l h (fun _ _ _ h => ?_) | with_reducible refine eb_1r h (fun _ _ h => ?_) | with_reducible refine eb_1v h (fun _ _ h => ?_) | with_reducible refine eb_top h (fun _ _ h => ?_) | with_reducible refine eb_wr h (fun _ h => ?_) | with_reducible refine eb_cp (fun _ h => ?_) _ _ _ _ h)
theorem eb_o_iand (h : ex_G p l e R s m args below meth c Q Fin D I al0 B0 nL (ev_o_iand w pc L S M top cc ss)) : cc ≤ R.cells ∧ ss ≤ R.slots := by
  unfold ev_o_iand ev_bin at h
  repeat' (first | with_reducible exact eb_bad h | with_reducible exact eb_nx h | with_reducible exact eb_jp h | with_reducible exact (eb_done h).1 | with_reducible refine eb_c h (fun h => ?_) (fun h => ?_) | with_reducible refine eb_f h (fun h => ?_) | with_reducible refine eb_1i h (fun _ _ h => ?_) | with_reducible refine eb_2i h (fun _ _ _ h => ?_) | with_reducible refine eb_1l h (fun _ _ h => ?_) | with_reducible refine eb_2l h (fun _ _ _ h => ?_) | with_reducible refine eb_1r h (fun _ _ h => ?_) | with_reducible refine eb_1v h (fun _ _ h => ?_) | with_reducible refine eb_top h (fun _ _ h => ?_) | with_reducible refine eb_wr h (fun _ h => ?_) | with_reducible refine eb_cp (fun _ h => ?_) _ _ _ _ h)
theorem eb_o_ior (h : ex_G p l e R s m args below meth c Q Fin D I al0 B0 nL (ev_o_ior w pc L S M top cc ss)) : cc ≤ R.cells ∧ ss ≤ R.slots := by
  unfold ev_o_ior ev_bin at h
  repeat' (first | with_reducible exact eb_bad h | with_reducible exact eb_nx h | with_reducible exact eb_jp h | with_reducible exact (eb_done h).1 | with_reducible refine eb_c h (fun h => ?_) (fun h => ?_) | with_reducible refine eb_f h (fun h => ?_) | with_reducible refine eb_1i h (fun _ _ h => ?_) | with_reducible refine eb_2i h (fun _ _ _ h => ?_) | with_reducible refine eb_1l h (fun _ _ h => ?_) | with_reducible refine eb_2l h (fun _ _ _ h => ?_) | with_reducible refine eb_1r h (fun _ _ h => ?_) | with_reducible refine eb_1v h (fun _ _ h => ?_) | with_reducible refine eb_top h (fun _ _ h => ?_) | with_reducible refine eb_wr h (fun _ h => ?_) | with_reducible refine eb_cp (fun _ h => ?_) _ _ _ _ h)
theorem eb_o_ixor (h : ex_G p l e R s m args below meth c Q Fin D I al0 B0 nL (ev_o_ixor w pc L S M top cc ss)) : cc ≤ R.cells ∧ ss ≤ R.slots := by
  unfold ev_o_ixor ev_bin at h
  repeat' (first | with_reducible exact eb_bad h | with_reducible exact eb_nx h | with_reducible exact eb_jp h | with_reducible exact (eb_done h).1 | with_reducible refine eb_c h (fun h => ?_) (fun h => ?_) | with_reducible refine eb_f h (fun h => ?_) | with_reducible refine eb_1i h (fun _ _ h => ?_) | with_reducible refine eb_2i h (fun _ _ _ h => ?_) | with_reducible refine eb_1l h (fun _ _ h => ?_) | with_reducible refine eb_2l h (fun _ _ _ h => ?_) | with_reducible refine eb_1r h (fun _ _ h => ?_) | with_reducible refine eb_1v h (fun _ _ h => ?_) | with_reducible refine eb_top h (fun _ _ h => ?_) | with_reducible refine eb_wr h (fun _ h => ?_) | with_reducible refine eb_cp (fun _ h => ?_) _ _ _ _ h)
theorem eb_o_ineg (h : ex_G p l e R s m args below meth c Q Fin D I al0 B0 nL (ev_o_ineg w pc L S M top cc ss)) : cc ≤ R.cells ∧ ss ≤ R.slots := by
  unfold ev_o_ineg at h
  repeat' (first | with_reducible exact eb_bad h | with_reducible exact eb_nx h | with_reducible exact eb_jp h | with_reducible exact (eb_done h).1 | with_reducible refine eb_c h (fun h => ?_) (fun h => ?_) | with_reducible refine eb_f h (fun h => ?_) | with_reducible refine eb_1i h (fun _ _ h => ?_) | with_reducible refine eb_2i h (fun _ _ _ h => ?_) | with_reducible refine eb_1l h (fun _ _ h => ?_) | with_reducible refine eb_2l h (fun _ _ _ h => ?_) | with_reducible refine eb_1r h (fun _ _ h => ?_) | with_reducible refine eb_1v h (fun _ _ h => ?_) | with_reducible refine eb_top h (fun _ _ h => ?_) | with_reducible refine eb_wr h (fun _ h => ?_) | with_reducible refine eb_cp (fun _ h => ?_) _ _ _ _ h)
theorem eb_o_i2l (h : ex_G p l e R s m args below meth c Q Fin D I al0 B0 nL (ev_o_i2l w pc L S M top cc ss)) : cc ≤ R.cells ∧ ss ≤ R.slots := by
  unfold ev_o_i2l at h
  repeat' (first | with_reducible exact eb_bad h | with_reducible exact eb_nx h | with_reducible exact eb_jp h | with_reducible exact (eb_done h).1 | with_reducible refine eb_c h (fun h => ?_) (fun h => ?_) | with_reducible refine eb_f h (fun h => ?_) | with_reducible refine eb_1i h (fun _ _ h => ?_) | with_reducible refine eb_2i h (fun _ _ _ h => ?_) | with_reducible refine eb_1l h (fun _ _ h => ?_) | with_reducible refine eb_2l h (fun _ _ _ h => ?_) | with_reducible refine eb_1r h (fun _ _ h => ?_) | with_reducible refine eb_1v h (fun _ _ h => ?_) | with_reducible refine eb_top h (fun _ _ h => ?_) | with_reducible refine eb_wr h (fun _ h => ?_) | with_reducible refine eb_cp (fun _ h => ?_) _ _ _ _ h)
theorem eb_o_i2b (h : ex_G p l e R s m args below meth c Q Fin D I al0 B0 nL (ev_o_i2b w pc L S M top cc ss)) : cc ≤ R.cells ∧ ss ≤ R.slots := by
  unfold ev_o_i2b at h
  repeat' (first | with_reducible exact eb_bad h | with_reducible exact eb_nx h | with_reducible exact eb_jp h | with_reducible exact (eb_done h).1 | with_reducible refine eb_c h (fun h => ?_) (fun h => ?_) | with_reducible refine eb_f h (fun h => ?_) | with_reducible refine eb_1i h (fun _ _ h => ?_) | with_reducible refine eb_2i h (fun _ _ _ h => ?_) | with_reducible refine eb_1l h (fun _ _ h => ?_) | with_reducible refine eb_2l h (fun _ _ _ h => ?_) | with_reducible refine eb_1r h (fun _ _ h => ?_) | with_reducible refine eb_1v h (fun _ _ h => ?_) | with_reducible refine eb_top h (fun _ _ h => ?_) | with_reducible refine eb_wr h (fun _ h => ?_) | with_reducible refine eb_cp (fun _ h => ?_) _ _ _ _ h)
theorem eb_o_i2c (h : ex_G p l e R s m args below meth c Q Fin D I al0 B0 nL (ev_o_i2c w pc L S M top cc ss)) : cc ≤ R.cells ∧ ss ≤ R.slots := by
  unfold ev_o_i2c at h
  repeat' (first | with_reducible exact eb_bad h | with_reducible exact eb_nx h | with_reducible exact eb_jp h | with_reducible exact (eb_done h).1 | with_reducible refine eb_c h (fun h => ?_) (fun h => ?_) | with_reducible refine eb_f h (fun h => ?_) | with_reducible refine eb_1i h (fun _ _ h => ?_) | with_reducible refine eb_2i h (fun _ _ _ h => ?_) | with_reducible refine eb_1l h (fun _ _ h => ?_) | with_reducible refine eb_2l h (fun _ _ _ h => ?_) | with_reducible refine eb_1r h (fun _ _ h => ?_) | with_reducible refine eb_1v h (fun _ _ h => ?_) | with_reducible refine eb_top h (fun _ _ h => ?_) | with_reducible refine eb_wr h (fun _ h => ?_) | with_reducible refine eb_cp (fun _ h => ?_) _ _ _ _ h)
theorem eb_o_ladd (h : ex_G p l e R s m args below meth c Q Fin D I al0 B0 nL (ev_o_ladd w pc L S M top cc ss)) : cc ≤ R.cells ∧ ss ≤ R.slots := by
  unfold ev_o_ladd at h
  repeat' (first | with_reducible exact eb_bad h | with_reducible exact eb_nx h | with_reducible exact eb_jp h | with_reducible exact (eb_done h).1 | with_reducible refine eb_c h (fun h => ?_) (fun h => ?_) | with_reducible refine eb_f h (fun h => ?_) | with_reducible refine eb_1i h (fun _ _ h => ?_) | with_reducible refine eb_2i h (fun _ _ _ h => ?_) | with_reducible refine eb_1l h (fun _ _ h => ?_) | with_reducible refine eb_2l h (fun _ _ _ h => ?_) | with_reducible refine eb_1r h (fun _ _ h => ?_) | with_reducible refine eb_1v h (fun _ _ h => ?_) | with_reducible refine eb_top h (fun _ _ h => ?_) | with_reducible refine eb_wr h (fun _ h => ?_) | with_reducible refine eb_cp (fun _ h => ?_) _ _ _ _ h)
theorem eb_o_lmul (h : ex_G p l e R s m args below meth c Q Fin D I al0 B0 nL (ev_o_lmul w pc L S M top cc ss)) : cc ≤ R.cells ∧ ss ≤ R.slots := by
  unfold ev_o_lmul at h
  repeat' (first | with_reducible exact eb_bad h | with_reducible exact eb_nx h | with_reducible exact eb_jp h | with_reducible exact (eb_done h).1 | with_reducible refine eb_c h (fun h => ?_) (fun h => ?_) | with_reducible refine eb_f h (fun h => ?_) | with_reducible refine eb_1i h (fun _ _ h => ?_) | with_reducible refine eb_2i h (fun _ _ _ h => ?_) | with_reducible refine eb_1l h (fun _ _ h => ?_) | with_reducible refine eb_2l h (fun _ _ _ h => ?_) | with_reducible refine eb_1r h (fun _ _ h => ?_) | with_reducible refine eb_1v h (fun _ _ h => ?_) | with_reducible refine eb_top h (fun _ _ h => ?_) | with_reducible refine eb_wr h (fun _ h => ?_) | with_reducible refine eb_cp (fun _ h => ?_) _ _ _ _ h)
theorem eb_o_lcmp (h : ex_G p l e R s m args below meth c Q Fin D I al0 B0 nL (ev_o_lcmp w pc L S M top cc ss)) : cc ≤ R.cells ∧ ss ≤ R.slots := by
  unfold ev_o_lcmp at h
  repeat' (first | with_reducible exact eb_bad h | with_reducible exact eb_nx h | with_reducible exact eb_jp h | with_reducible exact (eb_done h).1 | with_reducible refine eb_c h (fun h => ?_) (fun h => ?_) | with_reducible refine eb_f h (fun h => ?_) | with_reducible refine eb_1i h (fun _ _ h => ?_) | with_reducible refine eb_2i h (fun _ _ _ h => ?_) | with_reducible refine eb_1l h (fun _ _ h => ?_) | with_reducible refine eb_2l h (fun _ _ _ h => ?_) | with_reducible refine eb_1r h (fun _ _ h => ?_) | with_reducible refine eb_1v h (fun _ _ h => ?_) | with_reducible refine eb_top h (fun _ _ h => ?_) | with_reducible refine eb_wr h (fun _ h => ?_) | with_reducible refine eb_cp (fun _ h => ?_) _ _ _ _ h)
theorem eb_o_if (h : ex_G p l e R s m args below meth c Q Fin D I al0 B0 nL (ev_o_if w pc L S M top cc ss)) : cc ≤ R.cells ∧ ss ≤ R.slots := by
  unfold ev_o_if at h
  repeat' (first | with_reducible exact eb_bad h | with_reducible exact eb_nx h | with_reducible exact eb_jp h | with_reducible exact (eb_done h).1 | with_reducible refine eb_c h (fun h => ?_) (fun h => ?_) | with_reducible refine eb_f h (fun h => ?_) | with_reducible refine eb_1i h (fun _ _ h => ?_) | with_reducible refine eb_2i h (fun _ _ _ h => ?_) | with_reducible refine eb_1l h (fun _ _ h => ?_) | with_reducible refine eb_2l h (fun _ _ _ h => ?_) | with_reducible refine eb_1r h (fun _ _ h => ?_) | with_reducible refine eb_1v h (fun _ _ h => ?_) | with_reducible refine eb_top h (fun _ _ h => ?_) | with_reducible refine eb_wr h (fun _ h => ?_) | with_reducible refine eb_cp (fun _ h => ?_) _ _ _ _ h)
theorem eb_o_ifcmp (h : ex_G p l e R s m args below meth c Q Fin D I al0 B0 nL (ev_o_ifcmp w pc L S M top cc ss)) : cc ≤ R.cells ∧ ss ≤ R.slots := by
  unfold ev_o_ifcmp at h
  repeat' (first | with_reducible exact eb_bad h | with_reducible exact eb_nx h | with_reducible exact eb_jp h | with_reducible exact (eb_done h).1 | with_reducible refine eb_c h (fun h => ?_) (fun h => ?_) | with_reducible refine eb_f h (fun h => ?_) | with_reducible refine eb_1i h (fun _ _ h => ?_) | with_reducible refine eb_2i h (fun _ _ _ h => ?_) | with_reducible refine eb_1l h (fun _ _ h => ?_) | with_reducible refine eb_2l h (fun _ _ _ h => ?_) | with_reducible refine eb_1r h (fun _ _ h => ?_) | with_reducible refine eb_1v h (fun _ _ h => ?_) | with_reducible refine eb_top h (fun _ _ h => ?_) | with_reducible refine eb_wr h (fun _ h => ?_) | with_reducible refine eb_cp (fun _ h => ?_) _ _ _ _ h)
theorem eb_o_acmp (h : ex_G p l e R s m args below meth c Q Fin D I al0 B0 nL (ev_o_acmp w pc L S M top cc ss)) : cc ≤ R.cells ∧ ss ≤ R.slots := by
  unfold ev_o_acmp at h
  repeat' (first | with_reducible exact eb_bad h | with_reducible exact eb_nx h | with_reducible exact eb_jp h | with_reducible exact (eb_done h).1 | with_reducible refine eb_c h (fun h => ?_) (fun h => ?_) | with_reducible refine eb_f h (fun h => ?_) | with_reducible refine eb_1i h (fun _ _ h => ?_) | with_reducible refine eb_2i h (fun _ _ _ h => ?_) | with_reducible refine eb_1l h (fun _ _ h => ?_) | with_reducible refine eb_2l h (fun _ _ _ h => ?_) | with_reducible refine eb_1r h (fun _ _ h => ?_) | with_reducible refine eb_1v h (fun _ _ h => ?_) | with_reducible refine eb_top h (fun _ _ h => ?_) | with_reducible refine eb_wr h (fun _ h => ?_) | with_reducible refine eb_cp (fun _ h => ?_) _ _ _ _ h)
theorem eb_o_ifnull (h : ex_G p l e R s m args below meth c Q Fin D I al0 B0 nL (ev_o_ifnull w pc L S M top cc ss)) : cc ≤ R.cells ∧ ss ≤ R.slots := by
  unfold ev_o_ifnull at h
  repeat' (first | with_reducible exact eb_bad h | with_reducible exact eb_nx h | with_reducible exact eb_jp h | with_reducible exact (eb_done h).1 | with_reducible refine eb_c h (fun h => ?_) (fun h => ?_) | with_reducible refine eb_f h (fun h => ?_) | with_reducible refine eb_1i h (fun _ _ h => ?_) | with_reducible refine eb_2i h (fun _ _ _ h => ?_) | with_reducible refine eb_1l h (fun _ _ h => ?_) | with_reducible refine eb_2l h (fun _ _ _ h => ?_) | with_reducible refine eb_1r h (fun _ _ h => ?_) | with_reducible refine eb_1v h (fun _ _ h => ?_) | with_reducible refine eb_top h (fun _ _ h => ?_) | with_reducible refine eb_wr h (fun _ h => ?_) | with_reducible refine eb_cp (fun _ h => ?_) _ _ _ _ h)
theorem eb_o_goto (h : ex_G p l e R s m args below meth c Q Fin D I al0 B0 nL (ev_o_goto w pc L S M top cc ss)) : cc ≤ R.cells ∧ ss ≤ R.slots := by
  unfold ev_o_goto at h
  repeat' (first | with_reducible exact eb_bad h | with_reducible exact eb_nx h | with_reducible exact eb_jp h | with_reducible exact (eb_done h).1 | with_reducible refine eb_c h (fun h => ?_) (fun h => ?_) | with_reducible refine eb_f h (fun h => ?_) | with_reducible refine eb_1i h (fun _ _ h => ?_) | with_reducible refine eb_2i h (fun _ _ _ h => ?_) | with_reducible refine eb_1l h (fun _ _ h => ?_) | with_reducible refine eb_2l h (fun _ _ _ h => ?_) | with_reducible refine eb_1r h (fun _ _ h => ?_) | with_reducible refine eb_1v h (fun _ _ h => ?_) | with_reducible refine eb_top h (fun _ _ h => ?_) | with_reducible refine eb_wr h (fun _ h => ?_) | with_reducible refine eb_cp (fun _ h => ?_) _ _ _ _ h)
theorem eb_o_switch (h : ex_G p l e R s m args below meth c Q Fin D I al0 B0 nL (ev_o_switch ev_sw w pc L S M top cc ss)) : cc ≤ R.cells ∧ ss ≤ R.slots := by
  unfold ev_o_switch at h
  repeat' (first | with_reducible exact eb_bad h | with_reducible exact eb_nx h | with_reducible exact eb_jp h | with_reducible exact (eb_done h).1 | with_reducible refine eb_c h (fun h => ?_) (fun h => ?_) | with_reducible refine eb_f h (fun h => ?_) | with_reducible refine eb_1i h (fun _ _ h => ?_) | with_reducible refine eb_2i h (fun _ _ _ h => ?_) | with_reducible refine eb_1l h (fun _ _ h => ?_) | with_reducible refine eb_2l h (fun _ _ _ h => ?_) | with_reducible refine eb_1r h (fun _ _ h => ?_) | with_reducible refine eb_1v h (fun _ _ h => ?_) | with_reducible refine eb_top h (fun _ _ h => ?_) | with_reducible refine eb_wr h (fun _ h => ?_) | with_reducible refine eb_cp (fun _ h => ?_) _ _ _ _ h)
theorem eb_o_ret (h : ex_G p l e R s m args below meth c Q Fin D I al0 B0 nL (ev_o_ret w pc L S M top cc ss)) : cc ≤ R.cells ∧ ss ≤ R.slots := by
  unfold ev_o_ret at h
  repeat' (first | with_reducible exact eb_bad h | with_reducible exact eb_nx h | with_reducible exact eb_jp h | with_reducible exact (eb_done h).1 | with_reducible refine eb_c h (fun h => ?_) (fun h => ?_) | with_reducible refine eb_f h (fun h => ?_) | with_reducible refine eb_1i h (fun _ _ h => ?_) | with_reducible refine eb_2i h (fun _ _ _ h => ?_) | with_reducible refine eb_1l h (fun _ _ h => ?_) | with_reducible refine eb_2l h (fun _ _ _ h => ?_) | with_reducible refine eb_1r h (fun _ _ h => ?_) | with_reducible refine eb_1v h (fun _ _ h => ?_) | with_reducible refine eb_top h (fun _ _ h => ?_) | with_reducible refine eb_wr h (fun _ h => ?_) | with_reducible refine eb_cp (fun _ h => ?_) _ _ _ _ h)
theorem eb_o_vret (h : ex_G p l e R s m args below meth c Q Fin D I al0 B0 nL (ev_o_vret w pc L S M top cc ss)) : cc ≤ R.cells ∧ ss ≤ R.slots := by
  unfold ev_o_vret at h
  repeat' (first | with_reducible exact eb_bad h | with_reducible exact eb_nx h | with_reducible exact eb_jp h | with_reducible exact (eb_done h).1 | with_reducible refine eb_c h (fun h => ?_) (fun h => ?_) | with_reducible refine eb_f h (fun h => ?_) | with_reducible refine eb_1i h (fun _ _ h => ?_) | with_reducible refine eb_2i h (fun _ _ _ h => ?_) | with_reducible refine eb_1l h (fun _ _ h => ?_) | with_reducible refine eb_2l h (fun _ _ _ h => ?_) | with_reducible refine eb_1r h (fun _ _ h => ?_) | with_reducible refine eb_1v h (fun _ _ h => ?_) | with_reducible refine eb_top h (fun _ _ h => ?_) | with_reducible refine eb_wr h (fun _ h => ?_) | with_reducible refine eb_cp (fun _ h => ?_) _ _ _ _ h)
theorem eb_o_getf (h : ex_G p l e R s m args below meth c Q Fin D I al0 B0 nL (ev_o_getf w pc L S M top cc ss)) : cc ≤ R.cells ∧ ss ≤ R.slots := by
  unfold ev_o_getf at h
  repeat' (first | with_reducible exact eb_bad h | with_reducible exact eb_nx h | with_reducible exact eb_jp h | with_reducible exact (eb_done h).1 | with_reducible refine eb_c h (fun h => ?_) (fun h => ?_) | with_reducible refine eb_f h (fun h => ?_) | with_reducible refine eb_1i h (fun _ _ h => ?_) | with_reducible refine eb_2i h (fun _ _ _ h => ?_) | with_reducible refine eb_1l h (fun _ _ h => ?_) | with_reducible refine eb_2l h (fun _ _ _ h => ?_) | with_reducible refine eb_1r h (fun _ _ h => ?_) | with_reducible refine eb_1v h (fun _ _ h => ?_) | with_reducible refine eb_top h (fun _ _ h => ?_) | with_reducible refine eb_wr h (fun _ h => ?_) | with_reducible refine eb_cp (fun _ h => ?_) _ _ _ _ h)
theorem eb_o_putf (h : ex_G p l e R s m args below meth c Q Fin D I al0 B0 nL (ev_o_putf ev_C w pc L S M top cc ss)) : cc ≤ R.cells ∧ ss ≤ R.slots := by
  unfold ev_o_putf at h
  repeat' (first | with_reducible exact eb_bad h | with_reducible exact eb_nx h | with_reducible exact eb_jp h | with_reducible exact (eb_done h).1 | with_reducible refine eb_c h (fun h => ?_) (fun h => ?_) | with_reducible refine eb_f h (fun h => ?_) | with_reducible refine eb_1i h (fun _ _ h => ?_) | with_reducible refine eb_2i h (fun _ _ _ h => ?_) | with_reducible refine eb_1l h (fun _ _ h => ?_) | with_reducible refine eb_2l h (fun _ _ _ h => ?_) | with_reducible refine eb_1r h (fun _ _ h => ?_) | with_reducible refine eb_1v h (fun _ _ h => ?_) | with_reducible refine eb_top h (fun _ _ h => ?_) | with_reducible refine eb_wr h (fun _ h => ?_) | with_reducible refine eb_cp (fun _ h => ?_) _ _ _ _ h)
theorem eb_o_alen (h : ex_G p l e R s m args below meth c Q Fin D I al0 B0 nL (ev_o_alen w pc L S M top cc ss)) : cc ≤ R.cells ∧ ss ≤ R.slots := by
  unfold ev_o_alen at h
  repeat' (first | with_reducible exact eb_bad h | with_reducible exact eb_nx h | with_reducible exact eb_jp h | with_reducible exact (eb_done h).1 | with_reducible refine eb_c h (fun h => ?_) (fun h => ?_) | with_reducible refine eb_f h (fun h => ?_) | with_reducible refine eb_1i h (fun _ _ h => ?_) | with_reducible refine eb_2i h (fun _ _ _ h => ?_) | with_reducible refine eb_1l h (fun _ _ h => ?_) | with_reducible refine eb_2l h (fun _ _ _ h => ?_) | with_reducible refine eb_1r h (fun _ _ h => ?_) | with_reducible refine eb_1v h (fun _ _ h => ?_) | with_reducible refine eb_top h (fun _ _ h => ?_) | with_reducible refine eb_wr h (fun _ h => ?_) | with_reducible refine eb_cp (fun _ h => ?_) _ _ _ _ h)
theorem eb_o_ald (h : ex_G p l e R s m args below meth c Q Fin D I al0 B0 nL (ev_o_ald w pc L S M top cc ss)) : cc ≤ R.cells ∧ ss ≤ R.slots := by
  unfold ev_o_ald at h
  repeat' (first | with_reducible exact eb_bad h | with_reducible exact eb_nx h | with_reducible exact eb_jp h | with_reducible exact (eb_done h).1 | with_reducible refine eb_c h (fun h => ?_) (fun h => ?_) | with_reducible refine eb_f h (fun h => ?_) | with_reducible refine eb_1i h (fun _ _ h => ?_) | with_reducible refine eb_2i h (fun _ _ _ h => ?_) | with_reducible refine eb_1l h (fun _ _ h => ?_) | with_reducible refine eb_2l h (fun _ _ _ h => ?_) | with_reducible refine eb_1r h (fun _ _ h => ?_) | with_reducible refine eb_1v h (fun _ _ h => ?_) | with_reducible refine eb_top h (fun _ _ h => ?_) | with_reducible refine eb_wr h (fun _ h => ?_) | with_reducible refine eb_cp (fun _ h => ?_) _ _ _ _ h)
theorem eb_o_ast (h : ex_G p l e R s m args below meth c Q Fin D I al0 B0 nL (ev_o_ast ev_C w pc L S M top cc ss)) : cc ≤ R.cells ∧ ss ≤ R.slots := by
  unfold ev_o_ast at h
  repeat' (first | with_reducible exact eb_bad h | with_reducible exact eb_nx h | with_reducible exact eb_jp h | with_reducible exact (eb_done h).1 | with_reducible refine eb_c h (fun h => ?_) (fun h => ?_) | with_reducible refine eb_f h (fun h => ?_) | with_reducible refine eb_1i h (fun _ _ h => ?_) | with_reducible refine eb_2i h (fun _ _ _ h => ?_) | with_reducible refine eb_1l h (fun _ _ h => ?_) | with_reducible refine eb_2l h (fun _ _ _ h => ?_) | with_reducible refine eb_1r h (fun _ _ h => ?_) | with_reducible refine eb_1v h (fun _ _ h => ?_) | with_reducible refine eb_top h (fun _ _ h => ?_) | with_reducible refine eb_wr h (fun _ h => ?_) | with_reducible refine eb_cp (fun _ h => ?_) _ _ _ _ h)
theorem eb_o_new (h : ex_G p l e R s m args below meth c Q Fin D I al0 B0 nL (ev_o_new w pc L S M top cc ss)) : cc ≤ R.cells ∧ ss ≤ R.slots := by
  unfold ev_o_new at h
  refine eb_f h (fun h => eb_c h (fun h => eb_f h (fun h => eb_f h (fun h => ?_))) (fun h => eb_bad h))
  exact eb_more (eb_nx h)
theorem eb_o_newarr (h : ex_G p l e R s m args below meth c Q Fin D I al0 B0 nL (ev_o_newarr w pc L S M top cc ss)) : cc ≤ R.cells ∧ ss ≤ R.slots := by
  unfold ev_o_newarr at h
  refine eb_1i h (fun n r h => eb_f h (fun h => eb_c h (fun h => eb_wr h (fun M2 h => eb_f h (fun h => eb_f h (fun h => ?_)))) (fun h => eb_bad h)))
  exact eb_more (eb_nx h)
theorem eb_o_cast (h : ex_G p l e R s m args below meth c Q Fin D I al0 B0 nL (ev_o_cast w pc L S M top cc ss)) : cc ≤ R.cells ∧ ss ≤ R.slots := by
  unfold ev_o_cast at h
  repeat' (first | with_reducible exact eb_bad h | with_reducible exact eb_nx h | with_reducible exact eb_jp h | with_reducible exact (eb_done h).1 | with_reducible refine eb_c h (fun h => ?_) (fun h => ?_) | with_reducible refine eb_f h (fun h => ?_) | with_reducible refine eb_1i h (fun _ _ h => ?_) | with_reducible refine eb_2i h (fun _ _ _ h => ?_) | with_reducible refine eb_1l h (fun _ _ h => ?_) | with_reducible refine eb_2l h (fun _ _ _ h => ?_) | with_reducible refine eb_1r h (fun _ _ h => ?_) | with_reducible refine eb_1v h (fun _ _ h => ?_) | with_reducible refine eb_top h (fun _ _ h => ?_) | with_reducible refine eb_wr h (fun _ h => ?_) | with_reducible refine eb_cp (fun _ h => ?_) _ _ _ _ h)
theorem eb_o_acopy (h : ex_G p l e R s m args below meth c Q Fin D I al0 B0 nL (ev_o_acopy ev_C w pc L S M top cc ss)) : cc ≤ R.cells ∧ ss ≤ R.slots := by
  unfold ev_o_acopy at h
  repeat' (first | with_reducible exact eb_bad h | with_reducible exact eb_nx h | with_reducible exact eb_jp h | with_reducible exact (eb_done h).1 | with_reducible refine eb_c h (fun h => ?_) (fun h => ?_) | with_reducible refine eb_f h (fun h => ?_) | with_reducible refine eb_1i h (fun _ _ h => ?_) | with_reducible refine eb_2i h (fun _ _ _ h => ?_) | with_reducible refine eb_1l h (fun _ _ h => ?_) | with_reducible refine eb_2l h (fun _ _ _ h => ?_) | with_reducible refine eb_1r h (fun _ _ h => ?_) | with_reducible refine eb_1v h (fun _ _ h => ?_) | with_reducible refine eb_top h (fun _ _ h => ?_) | with_reducible refine eb_wr h (fun _ h => ?_) | with_reducible refine eb_cp (fun _ h => ?_) _ _ _ _ h)
theorem eb_o_objinit (h : ex_G p l e R s m args below meth c Q Fin D I al0 B0 nL (ev_o_objinit w pc L S M top cc ss)) : cc ≤ R.cells ∧ ss ≤ R.slots := by
  unfold ev_o_objinit at h
  repeat' (first | with_reducible exact eb_bad h | with_reducible exact eb_nx h | with_reducible exact eb_jp h | with_reducible exact (eb_done h).1 | with_reducible refine eb_c h (fun h => ?_) (fun h => ?_) | with_reducible refine eb_f h (fun h => ?_) | with_reducible refine eb_1i h (fun _ _ h => ?_) | with_reducible refine eb_2i h (fun _ _ _ h => ?_) | with_reducible refine eb_1l h (fun _ _ h => ?_) | with_reducible refine eb_2l h (fun _ _ _ h => ?_) | with_reducible refine eb_1r h (fun _ _ h => ?_) | with_reducible refine eb_1v h (fun _ _ h => ?_) | with_reducible refine eb_top h (fun _ _ h => ?_) | with_reducible refine eb_wr h (fun _ h => ?_) | with_reducible refine eb_cp (fun _ h => ?_) _ _ _ _ h)
theorem eb_o_getcls (h : ex_G p l e R s m args below meth c Q Fin D I al0 B0 nL (ev_o_getcls w pc L S M top cc ss)) : cc ≤ R.cells ∧ ss ≤ R.slots := by
  unfold ev_o_getcls at h
  repeat' (first | with_reducible exact eb_bad h | with_reducible exact eb_nx h | with_reducible exact eb_jp h | with_reducible exact (eb_done h).1 | with_reducible refine eb_c h (fun h => ?_) (fun h => ?_) | with_reducible refine eb_f h (fun h => ?_) | with_reducible refine eb_1i h (fun _ _ h => ?_) | with_reducible refine eb_2i h (fun _ _ _ h => ?_) | with_reducible refine eb_1l h (fun _ _ h => ?_) | with_reducible refine eb_2l h (fun _ _ _ h => ?_) | with_reducible refine eb_1r h (fun _ _ h => ?_) | with_reducible refine eb_1v h (fun _ _ h => ?_) | with_reducible refine eb_top h (fun _ _ h => ?_) | with_reducible refine eb_wr h (fun _ h => ?_) | with_reducible refine eb_cp (fun _ h => ?_) _ _ _ _ h)
end EB
/-- a new cell at the end -/
theorem eg_push {D : Nat → ClassId} {I : Nat → Nat → Nat} {al : Nat → Nat} {B : Nat → Nat → Nat → Prop} {M M' : ev_M} {top : Nat} {H H' : Heap} {kd n : Nat} {cell : Cell} (hR : eg_R D I al B M top H) (hk : kd < 64) (ht : top + eg_off kd + n ≤ 32768) (hpos : 0 < eg_off kd + n) (hN : ¬ kd < 8 → n = ek_N kd)
    (hM : ∀ a, a < 32768 → ev_rd M' a = if kd < 8 ∧ a = top then n + 1 else ev_rd M a) (hh : H'[H.size]? = some cell) (ho : ∀ q, q < H.size → H'[q]? = H[q]?) (hcl : cell.cls = D kd) (hvm : cell.vm = .none) (hsz : kd < 8 → cell.slots.size = n)
    (hd : ∀ k, k < n → ek_d kd k ≤ 8 ∧ cell.slots[eg_ix I kd k]? = some (eg_val al (ek_d kd k % 4 + 1)) ∧ ev_ok (ek_d kd k) (ek_d kd k % 4 + 1) = true ∧ ek_d kd k % 4 ≠ 1) :
    eg_R D I (fun x => if x = top then H.size else al x) (fun b k j => B b k j ∨ (b = top ∧ k = kd ∧ j = n)) M' (top + eg_off kd + n) H' ∧ eg_X al B (fun x => if x = top then H.size else al x) (fun b k j => B b k j ∨ (b = top ∧ k = kd ∧ j = n)) := by
  obtain ⟨r1, r2, r3, r4, r5, r6⟩ := hR
  have hX : eg_X al B (fun x => if x = top then H.size else al x) (fun b k j => B b k j ∨ (b = top ∧ k = kd ∧ j = n)) := fun b k j hb => ⟨Or.inl hb, if_neg (by have := (r4 b k j hb).2.1; omega)⟩
  have hlt : ∀ b k j, B b k j → al b < H.size := fun b k j hb => by
    obtain ⟨c', e1, -⟩ := r1 b k j hb
    exact eg_ltA e1
  refine ⟨⟨fun b' kd' n' hb' => ?_, fun b kd1 n1 b' kd' n' hb hb' => ?_, fun b kd1 n1 kd' n' hb hb' => ?_, fun b kd1 n1 hb => ?_, fun a h2 h3 => ?_, ht⟩, hX⟩
  · rcases hb' with hb' | ⟨rfl, rfl, rfl⟩
    · obtain ⟨c', e1, e2⟩ := r1 b' kd' n' hb'
      have hbt := r4 b' kd' n' hb'
      refine ⟨c', by rw [(hX _ _ _ hb').2, ho _ (hlt _ _ _ hb')]; exact e1, ?_⟩
      rcases e2 with e2 | ⟨e2, e3, e4, e5, e6⟩
      · exact Or.inl e2
      · refine Or.inr ⟨e2, e3, fun h8 => ⟨by rw [hM b' (by omega), if_neg (by omega)]; exact (e4 h8).1, (e4 h8).2⟩, e5, fun j hj => ?_⟩
        have hw : eg_word M' b' kd' j = eg_word M b' kd' j := by
          unfold eg_word
          have hne : ¬ (kd < 8 ∧ b' + eg_off kd' + j = top) := fun z => by have := hbt.1; omega
          rw [hM (b' + eg_off kd' + j) (by have := hbt.1; omega), if_neg hne]
        rw [hw]
        obtain ⟨g1, g2, g3⟩ := e6 j hj
        exact ⟨(g1.ext hX).1, g2, by rw [(g1.ext hX).2]; exact g3⟩
    · refine ⟨cell, by simp only [if_true]; exact hh, Or.inr ⟨hcl, hvm, fun h8 => ⟨by rw [hM b' (by omega), if_pos ⟨h8, rfl⟩], hsz h8⟩, hN, fun j hj => ?_⟩⟩
      obtain ⟨d1, d2, d3, d4⟩ := hd j hj
      have hw : eg_word M' b' kd' j = ek_d kd' j % 4 + 1 := by
        unfold eg_word
        have h0 : ev_rd M' (b' + eg_off kd' + j) = 0 := by
          have hne : ¬ (kd' < 8 ∧ b' + eg_off kd' + j = b') := by
            rintro ⟨q1, q2⟩
            have : eg_off kd' = 1 := if_pos q1
            omega
          rw [hM (b' + eg_off kd' + j) (by omega), if_neg hne]
          exact r5 _ (by omega) (by omega)
        rw [if_pos h0]
      rw [hw]
      have hval : ∀ al : Nat → Nat, eg_val al (ek_d kd' j % 4 + 1) = eg_val (fun x => 0) (ek_d kd' j % 4 + 1) := by
        intro al
        rcases (show ek_d kd' j % 4 = 0 ∨ ek_d kd' j % 4 = 2 ∨ ek_d kd' j % 4 = 3 by omega) with q | q | q <;> rw [q] <;> rfl
      refine ⟨?_, d3, by rw [hval, ← hval al]; exact d2⟩
      rcases (show ek_d kd' j % 4 = 0 ∨ ek_d kd' j % 4 = 2 ∨ ek_d kd' j % 4 = 3 by omega) with q | q | q <;> rw [q]
      · exact en_okI (n := 0) (by decide)
      · exact en_okL (n := 0) (by decide)
      · exact en_okN
  · rcases hb with hb | ⟨rfl, rfl, rfl⟩ <;> rcases hb' with hb' | ⟨rfl, rfl, rfl⟩
    · rcases r2 b kd1 n1 b' kd' n' hb hb' with q | q
      · exact Or.inl q
      · refine Or.inr ⟨q.1, ?_⟩
        rw [(hX _ _ _ hb).2, (hX _ _ _ hb').2]
        exact q.2
    · have h1 := r4 b kd1 n1 hb
      refine Or.inr ⟨Or.inl (by omega), ?_⟩
      rw [(hX _ _ _ hb).2]
      simp only [if_true]
      have := hlt _ _ _ hb
      omega
    · have h1 := r4 b' kd' n' hb'
      refine Or.inr ⟨Or.inr (by omega), ?_⟩
      rw [(hX _ _ _ hb').2]
      simp only [if_true]
      have := hlt _ _ _ hb'
      omega
    · exact Or.inl rfl
  · rcases hb with hb | ⟨rfl, rfl, rfl⟩ <;> rcases hb' with hb' | ⟨q, rfl, rfl⟩
    · exact r3 _ _ _ _ _ hb hb'
    · have := (r4 _ _ _ hb).2.1; omega
    · have := (r4 _ _ _ hb').2.1; omega
    · exact ⟨rfl, rfl⟩
  · rcases hb with hb | ⟨rfl, rfl, rfl⟩
    · have := r4 b kd1 n1 hb
      omega
    · omega
  · rw [hM a h3, if_neg (by omega)]
    exact r5 a (by omega) h3
