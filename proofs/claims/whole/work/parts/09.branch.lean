/-! one step is one instruction: branches -/
theorem en_le {a b : Nat} (ha : a < 4294967296) (hb : b < 4294967296) : nI a ≤ nI b ↔ (Bool.not (ev_slt b a)) = true := by
  have h := en_lt hb ha
  have h2 : nI a ≤ nI b ↔ ¬ nI b < nI a := by
    rw [Int32.le_iff_toInt_le, Int32.lt_iff_toInt_lt]; omega
  rw [h2, h]
  cases ev_slt b a <;> simp
theorem en_cnd0 {k : Nat} (hk : k < 6) (a b d : Bool) : ev_c (Nat.ble 3 k) (ev_c (Nat.ble 4 k) (ev_c (Nat.ble 5 k) (Bool.not b) b) (Bool.not a)) (ev_c (Nat.ble 1 k) (ev_c (Nat.ble 2 k) a (Bool.not d)) d) =
    (if k = 0 then d else if k = 1 then Bool.not d else if k = 2 then a else if k = 3 then Bool.not a else if k = 4 then b else Bool.not b) := by
  rcases (show k = 0 ∨ k = 1 ∨ k = 2 ∨ k = 3 ∨ k = 4 ∨ k = 5 by omega) with rfl | rfl | rfl | rfl | rfl | rfl <;> rfl
theorem en_cnd {k x y : Nat} (hk : k < 6) : ev_cnd k x y = (if k = 0 then Nat.beq x y else if k = 1 then Bool.not (Nat.beq x y) else if k = 2 then ev_slt x y else if k = 3 then Bool.not (ev_slt x y) else if k = 4 then ev_slt y x else Bool.not (ev_slt y x)) :=
  en_cnd0 hk (ev_slt x y) (ev_slt y x) (Nat.beq x y)
theorem en_eqb {a b : Nat} (ha : a < 4294967296) (hb : b < 4294967296) : nI a = nI b ↔ Nat.beq a b = true := by rw [en_eq ha hb, ev_beqE]
theorem en_notb {b : Bool} {P : Prop} (h : P ↔ b = true) : ¬ P ↔ (Bool.not b) = true := by rw [h]; cases b <;> simp
noncomputable def ip_off (pc w : Nat) : Int := (ev_a w : Int) - (pc : Int)
theorem ip_tgt (pc w : Nat) : (pc : Int) + ip_off pc w = (ev_a w : Int) := by unfold ip_off; omega
def ex_rf (al : Nat → Nat) (v : Nat) : Option Nat := if v % 4 = 2 then some (al (v / 256)) else none
theorem ex_rfE (al : Nat → Nat) {v : Nat} (h : v % 4 = 2 ∨ v = 4) : eg_val al v = va_rf (ex_rf al v) := by
  unfold ex_rf
  rcases h with h | h
  · rw [if_pos h, eg_val_r _ h]; rfl
  · subst h; rfl
noncomputable def ip_sw1 (cd : ByteArray) (pc w x : Nat) : Bool := match decode cd pc with
  | .ok (.tableswitch dflt lo hi offs, _) => if (x : Int) < lo ∨ hi < (x : Int) then decide ((pc : Int) + dflt = (ev_sw (ev_a w) x : Int)) else (match offs[((x : Int) - lo).toNat]? with
    | some off => decide ((pc : Int) + off = (ev_sw (ev_a w) x : Int))
    | none => false)
  | .ok (.lookupswitch dflt ps, _) => ((ps.toList.zip (ps.toList.drop 1)).all (fun (a, next) => a.1 < next.1)) && decide ((pc : Int) + Op.lookupswitch.offset ps.toList dflt (x : Int) = (ev_sw (ev_a w) x : Int))
  | _ => false
def ip_switch (cd : ByteArray) (pc w : Nat) : Prop := (List.range 64).all (fun x => ip_sw1 cd pc w x) = true
section EH
variable {p : Program} {l : Launch} {e : Env} {R : Room} {s : State} {m : MethodId} {args : Array Value} {below : List Frame} {meth : Method} {c : Code} {Q : State → Prop} {Fin : Nat → ev_M → Nat → Nat → Nat → Prop}
variable {D : Nat → ClassId} {I : Nat → Nat → Nat} {al0 : Nat → Nat} {B0 : Nat → Nat → Nat → Prop} {nL : Nat}
variable {cd : ByteArray} {w pc L S top cc ss : Nat} {M : ev_M} {al : Nat → Nat} {B : Nat → Nat → Nat → Prop} {H : Heap} {ls : Array Slot} {stk : List Value} {locs : List Loc}
theorem eh_br {b : Bool} {P G1 G2 : Prop} {X Y : ev_St} (hP : P ↔ b = true) (h : ex_G p l e R s m args below meth c Q Fin D I al0 B0 nL (ev_c b X Y)) (k1 : ex_G p l e R s m args below meth c Q Fin D I al0 B0 nL X → G1) (k2 : ex_G p l e R s m args below meth c Q Fin D I al0 B0 nL Y → G2) : (P → G1) ∧ (¬ P → G2) := by
  cases b with
  | true => exact ⟨fun _ => k1 h, fun z => absurd (hP.mpr rfl) z⟩
  | false => exact ⟨fun z => absurd (hP.mp z) Bool.false_ne_true, fun _ => k2 h⟩
def ip_if (cd : ByteArray) (pc w : Nat) : Prop := ev_len w = 3 ∧ ((ev_b w = 0 ∧ decode cd pc = .ok (.ifCond .eq (ip_off pc w), 3)) ∨ (ev_b w = 1 ∧ decode cd pc = .ok (.ifCond .ne (ip_off pc w), 3)) ∨ (ev_b w = 2 ∧ decode cd pc = .ok (.ifCond .lt (ip_off pc w), 3)) ∨
  (ev_b w = 3 ∧ decode cd pc = .ok (.ifCond .ge (ip_off pc w), 3)) ∨ (ev_b w = 4 ∧ decode cd pc = .ok (.ifCond .gt (ip_off pc w), 3)) ∨ (ev_b w = 5 ∧ decode cd pc = .ok (.ifCond .le (ip_off pc w), 3)))
theorem eh_if (hx : p.tables.exec = Jvm.exec) (hb : c.code = cd) (hI : ip_if cd pc w) (h : ex_G p l e R s m args below meth c Q Fin D I al0 B0 nL (ev_o_if w pc L S M top cc ss)) (hc : ex_Cfg D I al0 B0 nL s al B M top L S ss H ls stk locs) : W p l e R s m args below meth c H locs cc ss Q (F0 m pc ls stk) := by
  refine ex_1i (S := S) (stk := stk) (al := al) (B := B) h hc.2.2.2.2.1 (fun x r S2 e1 hx2 h2 h => ?_)
  subst e1
  have hk : ev_b w < 6 := by rcases hI.2 with q | q | q | q | q | q <;> omega
  have h9 : ex_G p l e R s m args below meth c Q Fin D I al0 B0 nL (ev_c (ev_cnd (ev_b w) x 0) (ev_jp (ev_a w) L S2 M top cc ss) (ev_nx w pc L S2 M top cc ss)) := h
  rw [en_cnd hk] at h9
  have z0 : (0 : Int32) = nI 0 := nI_0.symm
  have K := fun {P : Prop} {b : Bool} (hP : P ↔ b = true) (h9 : ex_G p l e R s m args below meth c Q Fin D I al0 B0 nL (ev_c b (ev_jp (ev_a w) L S2 M top cc ss) (ev_nx w pc L S2 M top cc ss))) =>
    eh_br (P := P) hP h9 (fun g => ex_jp g (hc.stk h2)) (fun g => eh_len (w := w) (ex_nx g (hc.stk h2)) hI.1)
  rcases hI.2 with ⟨b1, i2⟩ | ⟨b1, i2⟩ | ⟨b1, i2⟩ | ⟨b1, i2⟩ | ⟨b1, i2⟩ | ⟨b1, i2⟩
  · rw [if_pos b1] at h9
    have q := K (P := nI x = 0) (by rw [z0]; exact en_eqb hx2 (by decide)) h9
    exact lv_if_eq hx hb i2 (ip_tgt pc w) q.1 q.2
  · rw [if_neg (by omega), if_pos b1] at h9
    have q := K (P := ¬ nI x = 0) (en_notb (by rw [z0]; exact en_eqb hx2 (by decide))) h9
    exact lv_if_ne hx hb i2 (ip_tgt pc w) q.1 (fun z => q.2 (fun y => y z))
  · rw [if_neg (by omega), if_neg (by omega), if_pos b1] at h9
    have q := K (P := nI x < 0) (by rw [z0]; exact en_lt hx2 (by decide)) h9
    exact lv_if_lt hx hb i2 (ip_tgt pc w) q.1 q.2
  · rw [if_neg (by omega), if_neg (by omega), if_neg (by omega), if_pos b1] at h9
    have q := K (P := 0 ≤ nI x) (by rw [z0]; exact en_le (by decide) hx2) h9
    exact lv_if_ge hx hb i2 (ip_tgt pc w) q.1 q.2
  · rw [if_neg (by omega), if_neg (by omega), if_neg (by omega), if_neg (by omega), if_pos b1] at h9
    have q := K (P := 0 < nI x) (by rw [z0]; exact en_lt (by decide) hx2) h9
    exact lv_if_gt hx hb i2 (ip_tgt pc w) q.1 q.2
  · rw [if_neg (by omega), if_neg (by omega), if_neg (by omega), if_neg (by omega), if_neg (by omega)] at h9
    have q := K (P := nI x ≤ 0) (by rw [z0]; exact en_le hx2 (by decide)) h9
    exact lv_if_le hx hb i2 (ip_tgt pc w) q.1 q.2
def ip_ifcmp (cd : ByteArray) (pc w : Nat) : Prop := ev_len w = 3 ∧ ((ev_b w = 0 ∧ decode cd pc = .ok (.if_icmp .eq (ip_off pc w), 3)) ∨ (ev_b w = 1 ∧ decode cd pc = .ok (.if_icmp .ne (ip_off pc w), 3)) ∨ (ev_b w = 2 ∧ decode cd pc = .ok (.if_icmp .lt (ip_off pc w), 3)) ∨
  (ev_b w = 3 ∧ decode cd pc = .ok (.if_icmp .ge (ip_off pc w), 3)) ∨ (ev_b w = 4 ∧ decode cd pc = .ok (.if_icmp .gt (ip_off pc w), 3)) ∨ (ev_b w = 5 ∧ decode cd pc = .ok (.if_icmp .le (ip_off pc w), 3)))
theorem eh_ifcmp (hx : p.tables.exec = Jvm.exec) (hb : c.code = cd) (hI : ip_ifcmp cd pc w) (h : ex_G p l e R s m args below meth c Q Fin D I al0 B0 nL (ev_o_ifcmp w pc L S M top cc ss)) (hc : ex_Cfg D I al0 B0 nL s al B M top L S ss H ls stk locs) : W p l e R s m args below meth c H locs cc ss Q (F0 m pc ls stk) := by
  refine ex_1i (S := S) (stk := stk) (al := al) (B := B) h hc.2.2.2.2.1 (fun y r0 S0 e0 hy h0 h => ex_1i h h0 (fun x r S2 e1 hx2 h2 h => ?_))
  subst e0; subst e1
  have hk : ev_b w < 6 := by rcases hI.2 with q | q | q | q | q | q <;> omega
  have h9 : ex_G p l e R s m args below meth c Q Fin D I al0 B0 nL (ev_c (ev_cnd (ev_b w) x y) (ev_jp (ev_a w) L S2 M top cc ss) (ev_nx w pc L S2 M top cc ss)) := h
  rw [en_cnd hk] at h9
  have K := fun {P : Prop} {b : Bool} (hP : P ↔ b = true) (h9 : ex_G p l e R s m args below meth c Q Fin D I al0 B0 nL (ev_c b (ev_jp (ev_a w) L S2 M top cc ss) (ev_nx w pc L S2 M top cc ss))) =>
    eh_br (P := P) hP h9 (fun g => ex_jp g (hc.stk h2)) (fun g => eh_len (w := w) (ex_nx g (hc.stk h2)) hI.1)
  rcases hI.2 with ⟨b1, i2⟩ | ⟨b1, i2⟩ | ⟨b1, i2⟩ | ⟨b1, i2⟩ | ⟨b1, i2⟩ | ⟨b1, i2⟩
  · rw [if_pos b1] at h9
    have q := K (P := nI x = nI y) (en_eqb hx2 hy) h9
    exact lv_icmp_eq hx hb i2 (ip_tgt pc w) q.1 q.2
  · rw [if_neg (by omega), if_pos b1] at h9
    have q := K (P := ¬ nI x = nI y) (en_notb (en_eqb hx2 hy)) h9
    exact lv_icmp_ne hx hb i2 (ip_tgt pc w) q.1 (fun z => q.2 (fun y => y z))
  · rw [if_neg (by omega), if_neg (by omega), if_pos b1] at h9
    have q := K (P := nI x < nI y) (en_lt hx2 hy) h9
    exact lv_icmp_lt hx hb i2 (ip_tgt pc w) q.1 q.2
  · rw [if_neg (by omega), if_neg (by omega), if_neg (by omega), if_pos b1] at h9
    have q := K (P := nI y ≤ nI x) (en_le hy hx2) h9
    exact lv_icmp_ge hx hb i2 (ip_tgt pc w) q.1 q.2
  · rw [if_neg (by omega), if_neg (by omega), if_neg (by omega), if_neg (by omega), if_pos b1] at h9
    have q := K (P := nI y < nI x) (en_lt hy hx2) h9
    exact lv_icmp_gt hx hb i2 (ip_tgt pc w) q.1 q.2
  · rw [if_neg (by omega), if_neg (by omega), if_neg (by omega), if_neg (by omega), if_neg (by omega)] at h9
    have q := K (P := nI x ≤ nI y) (en_le hx2 hy) h9
    exact lv_icmp_le hx hb i2 (ip_tgt pc w) q.1 q.2
def ip_goto (cd : ByteArray) (pc w : Nat) : Prop := decode cd pc = .ok (.goto (ip_off pc w), 3)
theorem eh_goto (hx : p.tables.exec = Jvm.exec) (hb : c.code = cd) (hI : ip_goto cd pc w) (h : ex_G p l e R s m args below meth c Q Fin D I al0 B0 nL (ev_o_goto w pc L S M top cc ss)) (hc : ex_Cfg D I al0 B0 nL s al B M top L S ss H ls stk locs) : W p l e R s m args below meth c H locs cc ss Q (F0 m pc ls stk) := lv_goto hx hb hI (ip_tgt pc w) (ex_jp h hc)
/-- two cells are one where their numbers are -/
theorem ex_same (hR : eg_R D I al B M top H) {x y : Nat} (hx : eg_ok B x) (hy : eg_ok B y) (tx : x % 4 = 2 ∨ x = 4) (ty : y % 4 = 2 ∨ y = 4) : ex_rf al x = ex_rf al y ↔ x = y := by
  constructor
  · intro h
    unfold ex_rf at h
    rcases tx with tx | tx <;> rcases ty with ty | ty
    · rw [if_pos tx, if_pos ty] at h
      have ha : al (x / 256) = al (y / 256) := Option.some.inj h
      have bx : ∃ n, B (x / 256) (x / 4 % 64) n := by
        rcases hx.2 with q | q | q | q
        · omega
        · omega
        · exact q.2
        · omega
      have by' : ∃ n, B (y / 256) (y / 4 % 64) n := by
        rcases hy.2 with q | q | q | q
        · omega
        · omega
        · exact q.2
        · omega
      obtain ⟨n, bx⟩ := bx
      obtain ⟨n', by'⟩ := by'
      rcases hR.2.1 _ _ _ _ _ _ bx by' with q | q
      · rw [← q] at by'
        have h3 := (hR.2.2.1 _ _ _ _ _ bx by').1
        omega
      · exact absurd ha q.2
    · rw [if_pos tx, if_neg (by omega)] at h; cases h
    · rw [if_neg (by omega), if_pos ty] at h; cases h
    · omega
  · rintro rfl; rfl
def ip_acmp (cd : ByteArray) (pc w : Nat) : Prop := ev_len w = 3 ∧ ((ev_b w = 0 ∧ decode cd pc = .ok (.if_acmp .eq (ip_off pc w), 3)) ∨ (ev_b w = 1 ∧ decode cd pc = .ok (.if_acmp .ne (ip_off pc w), 3)))
theorem eh_acmp (hx : p.tables.exec = Jvm.exec) (hb : c.code = cd) (hI : ip_acmp cd pc w) (h : ex_G p l e R s m args below meth c Q Fin D I al0 B0 nL (ev_o_acmp w pc L S M top cc ss)) (hc : ex_Cfg D I al0 B0 nL s al B M top L S ss H ls stk locs) : W p l e R s m args below meth c H locs cc ss Q (F0 m pc ls stk) := by
  refine ex_1v (S := S) (stk := stk) (al := al) (B := B) h hc.2.2.2.2.1 (fun y r0 S0 e0 hy h0 h => ex_1v h h0 (fun x r S2 e1 hx2 h2 h => ?_))
  subst e0; subst e1
  refine ex_ite h (fun hb0 h => ?_) (fun _ h => ex_badG h)
  have h9 := Bool.and_eq_true_iff.mp hb0
  have tx := (ev_isAE _).mp h9.1
  have ty := (ev_isAE _).mp h9.2
  rw [ex_rfE _ tx, ex_rfE _ ty]
  have hP : ex_rf al x = ex_rf al y ↔ Nat.beq x y = true := by rw [ex_same hc.1 hx2 hy tx ty, ev_beqE]
  have K := fun {P : Prop} {b : Bool} (hP : P ↔ b = true) (h9 : ex_G p l e R s m args below meth c Q Fin D I al0 B0 nL (ev_c b (ev_jp (ev_a w) L S2 M top cc ss) (ev_nx w pc L S2 M top cc ss))) =>
    eh_br (P := P) hP h9 (fun g => ex_jp g (hc.stk h2)) (fun g => eh_len (w := w) (ex_nx g (hc.stk h2)) hI.1)
  have h8 : ex_G p l e R s m args below meth c Q Fin D I al0 B0 nL (ev_c (ev_c (Nat.beq (ev_b w) 0) (Nat.beq x y) (Bool.not (Nat.beq x y))) (ev_jp (ev_a w) L S2 M top cc ss) (ev_nx w pc L S2 M top cc ss)) := h
  rcases hI.2 with ⟨b1, i2⟩ | ⟨b1, i2⟩
  · rw [b1] at h8
    have q := K (P := ex_rf al x = ex_rf al y) hP h8
    exact lv_acmp_eq hx hb i2 (ip_tgt pc w) q.1 q.2
  · rw [b1] at h8
    have q := K (P := ¬ ex_rf al x = ex_rf al y) (en_notb hP) h8
    exact lv_acmp_ne hx hb i2 (ip_tgt pc w) q.1 (fun z => q.2 (fun y => y z))
def ip_ifnull (cd : ByteArray) (pc w : Nat) : Prop := ev_len w = 3 ∧ ((ev_b w = 0 ∧ decode cd pc = .ok (.ifnull (ip_off pc w), 3)) ∨ (ev_b w = 1 ∧ decode cd pc = .ok (.ifnonnull (ip_off pc w), 3)))
theorem eh_ifnull (hx : p.tables.exec = Jvm.exec) (hb : c.code = cd) (hI : ip_ifnull cd pc w) (h : ex_G p l e R s m args below meth c Q Fin D I al0 B0 nL (ev_o_ifnull w pc L S M top cc ss)) (hc : ex_Cfg D I al0 B0 nL s al B M top L S ss H ls stk locs) : W p l e R s m args below meth c H locs cc ss Q (F0 m pc ls stk) := by
  refine ex_1v (S := S) (stk := stk) (al := al) (B := B) h hc.2.2.2.2.1 (fun x r S2 e1 hx2 h2 h => ?_)
  subst e1
  refine ex_ite h (fun hb0 h => ?_) (fun _ h => ex_badG h)
  have tx := (ev_isAE _).mp hb0
  have h8 : ex_G p l e R s m args below meth c Q Fin D I al0 B0 nL (ev_c (ev_c (Nat.beq (ev_b w) 0) (Nat.beq x 4) (Bool.not (Nat.beq x 4))) (ev_jp (ev_a w) L S2 M top cc ss) (ev_nx w pc L S2 M top cc ss)) := h
  have kj := fun (g : ex_G p l e R s m args below meth c Q Fin D I al0 B0 nL (ev_jp (ev_a w) L S2 M top cc ss)) => ex_jp g (hc.stk h2)
  have kn := fun (g : ex_G p l e R s m args below meth c Q Fin D I al0 B0 nL (ev_nx w pc L S2 M top cc ss)) => eh_len (w := w) (ex_nx g (hc.stk h2)) hI.1
  rcases tx with tx | tx
  · have hne : Nat.beq x 4 = false := by
      cases q : Nat.beq x 4 with
      | false => rfl
      | true => have := ev_beqE.mp q; omega
    rw [eg_val_r _ tx]
    rw [hne] at h8
    rcases hI.2 with ⟨b1, i2⟩ | ⟨b1, i2⟩
    · rw [b1] at h8
      exact lv_ifnull hx hb i2 (kn h8)
    · rw [b1] at h8
      exact lv_ifnonnull hx hb i2 (ip_tgt pc w) (kj h8)
  · rw [tx] at h8 ⊢
    rcases hI.2 with ⟨b1, i2⟩ | ⟨b1, i2⟩
    · rw [b1] at h8
      exact lv_ifnullN hx hb i2 (ip_tgt pc w) (kj h8)
    · rw [b1] at h8
      exact lv_ifnonnullN hx hb i2 (kn h8)
theorem eh_switch (hx : p.tables.exec = Jvm.exec) (hb : c.code = cd) (hI : ip_switch cd pc w) (h : ex_G p l e R s m args below meth c Q Fin D I al0 B0 nL (ev_o_switch ev_sw w pc L S M top cc ss)) (hc : ex_Cfg D I al0 B0 nL s al B M top L S ss H ls stk locs) : W p l e R s m args below meth c H locs cc ss Q (F0 m pc ls stk) := by
  refine ex_1i (S := S) (stk := stk) (al := al) (B := B) h hc.2.2.2.2.1 (fun x r S2 e1 hx2 h2 h => ?_)
  subst e1
  refine ex_ite h (fun _ h => ex_badG h) (fun hb0 h => ?_)
  have hx64 : x < 64 := by
    have h9 : ¬ 64 ≤ x := fun z => by rw [Nat.ble_eq.mpr z] at hb0; cases hb0
    omega
  have hI1 := List.all_eq_true.mp hI x (List.mem_range.mpr hx64)
  have k := ex_jp h (hc.stk h2)
  have hxi : (nI x).toInt = (x : Int) := by rw [en_int hx2, if_pos (by omega)]
  unfold ip_sw1 at hI1
  split at hI1
  next dflt lo hi offs len hd =>
    split at hI1
    next hout => exact lv_tableOut hx hb hd (by rw [hxi]; exact hout) (of_decide_eq_true hI1) k
    next hin =>
      split at hI1
      next off ho => exact lv_tableIn hx hb hd (by rw [hxi]; omega) (by rw [hxi]; omega) (by rw [hxi]; exact ho) (of_decide_eq_true hI1) k
      next => cases hI1
  next dflt ps len hd =>
    have h9 := Bool.and_eq_true_iff.mp hI1
    exact lv_lookup hx hb hd h9.1 rfl (by rw [hxi]; exact of_decide_eq_true h9.2) k
  next => cases hI1
end EH
