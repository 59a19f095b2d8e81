/-! one step is one instruction: cells -/
theorem eh_small : (∀ n, n < 128 → narrow .byte (.int (nI n)) = .int (nI n) ∧ fits .byte (.int (nI n)) = true) ∧ (∀ n, n < 2 → narrow .boolean (.int (nI n)) = .int (nI n) ∧ fits .boolean (.int (nI n)) = true) := by decide +kernel
/-- what the test of a type says of the value -/
theorem eh_fit {al : Nat → Nat} {B : Nat → Nat → Nat → Prop} {v : Nat} {ty : FieldType} (hv : eg_ok B v) (hd : ek_code ty ≤ 8) (h : ev_ok (ek_code ty) v = true) : narrow ty (eg_val al v) = eg_val al v ∧ fits ty (eg_val al v) = true := by
  unfold ev_ok at h
  simp only [ec_c] at h
  cases ty with
  | int =>
    have ht : v % 4 = 1 := (ev_tagE _ _).mp (Bool.and_eq_true_iff.mp h).1
    rw [eg_val_i _ ht]; exact ⟨rfl, rfl⟩
  | long =>
    have ht : v % 4 = 3 := (ev_tagE _ _).mp h
    rw [eg_val_l _ ht]; exact ⟨rfl, rfl⟩
  | byte =>
    have h9 := Bool.and_eq_true_iff.mp h
    have ht : v % 4 = 1 := (ev_tagE _ _).mp h9.1
    have hl : v ≤ 511 := Nat.le_of_ble_eq_true h9.2
    rw [eg_val_i _ ht]
    exact eh_small.1 _ (by omega)
  | boolean =>
    have h9 := Bool.and_eq_true_iff.mp h
    have ht : v % 4 = 1 := (ev_tagE _ _).mp h9.1
    have hl : v ≤ 5 := Nat.le_of_ble_eq_true h9.2
    rw [eg_val_i _ ht]
    exact eh_small.2 _ (by omega)
  | object C =>
    rcases (ev_isAE _).mp h with ht | ht
    · rw [eg_val_r _ ht]; exact ⟨rfl, rfl⟩
    · subst ht; exact ⟨rfl, rfl⟩
  | array t =>
    rcases (ev_isAE _).mp h with ht | ht
    · rw [eg_val_r _ ht]; exact ⟨rfl, rfl⟩
    · subst ht; exact ⟨rfl, rfl⟩
  | _ => exact absurd hd (by decide)
theorem eh_word {M : ev_M} {b kd k d : Nat} (hd : d = ek_d kd k) : ev_or (ev_rd M (b + eg_off kd + k)) (Nat.succ (Nat.land d 3)) = eg_word M b kd k := by
  unfold ev_or eg_word
  rw [ec_c, show Nat.land d 3 = d % 4 from Nat.and_two_pow_sub_one_eq_mod d 2, hd]
  by_cases h : ev_rd M (b + eg_off kd + k) = 0
  · rw [if_pos (ev_beqE.mpr h), if_pos h]
  · rw [if_neg (fun z => h (ev_beqE.mp z)), if_neg h]
section EH
variable {p : Program} {l : Launch} {e : Env} {R : Room} {s : State} {m : MethodId} {args : Array Value} {below : List Frame} {meth : Method} {c : Code} {Q : State → Prop} {Fin : Nat → ev_M → Nat → Nat → Nat → Prop}
variable {D : Nat → ClassId} {I : Nat → Nat → Nat} {al0 : Nat → Nat} {B0 : Nat → Nat → Nat → Prop} {nL : Nat}
variable {cd : ByteArray} {w pc L S top cc ss : Nat} {M : ev_M} {al : Nat → Nat} {B : Nat → Nat → Nat → Prop} {H : Heap} {ls : Array Slot} {stk : List Value} {locs : List Loc}
/-- the cell of a base -/
theorem ex_cell (hc : ex_Cfg D I al0 B0 nL s al B M top L S ss H ls stk locs) {b kd n : Nat} (hB : B b kd n) (h19 : kd ≠ 19) : ∃ cell : Cell, H[al b]? = some cell ∧ cell.cls = D kd ∧ cell.vm = .none ∧ (kd < 8 → ev_rd M b = n + 1 ∧ cell.slots.size = n) ∧ (¬ kd < 8 → n = ek_N kd) ∧ b + eg_off kd + n ≤ top ∧ top ≤ 32768 ∧
    ∀ k, k < n → eg_ok B (eg_word M b kd k) ∧ ev_ok (ek_d kd k) (eg_word M b kd k) = true ∧ cell.slots[eg_ix I kd k]? = some (eg_val al (eg_word M b kd k)) := by
  obtain ⟨cell, e1, e2⟩ := hc.1.1 b kd n hB
  rcases e2 with e2 | ⟨e2, e3, e4, e5, e6⟩
  · exact absurd e2 h19
  · exact ⟨cell, e1, e2, e3, e4, e5, (hc.1.2.2.2.1 b kd n hB).1, hc.1.2.2.2.2.2, e6⟩
theorem ex_Aw (hc : ex_Cfg D I al0 B0 nL s al B M top L S ss H ls stk locs) {b kd n : Nat} (hB : B b kd n) (hC : ev_C ≤ b) : ex_A al0 B0 s (al b) := by
  rcases hc.2.2.1 b kd n hB with h | h
  · exact Or.inl ⟨b, kd, n, h, hC, (hc.2.1 b kd n h).2.symm⟩
  · exact Or.inr h.1
/-- behind a write -/
theorem ex_wrote (hc : ex_Cfg D I al0 B0 nL s al B M top L S ss H ls stk locs) {b kd n k v : Nat} (hB : B b kd n) (hk : k < n) (h19 : kd ≠ 19) (hC : ev_C ≤ b) (hI : ¬ kd < 8 → ∀ x y, x < ek_N kd → y < ek_N kd → x ≠ y → I kd x ≠ I kd y) (hv : eg_ok B v) (ht : ev_ok (ek_d kd k) v = true) {cell : Cell} (hcell : H[al b]? = some cell)
    {H' : Heap} (e1 : H'[al b]? = some (cell.setSlot (eg_ix I kd k) (eg_val al v))) (e2 : H'.size = H.size) (e3 : ∀ q, q ≠ al b → H'[q]? = H[q]?) {stk' : List Value} {S' : Nat} (hs : ex_stk al B stk' S') :
    ex_Cfg D I al0 B0 nL s al B (em_up M (b + eg_off kd + k) v) top L S' ss H' ls stk' (locs ++ [⟨al b, eg_ix I kd k⟩]) :=
  ⟨eg_write hc.1 hB hk h19 hI hv ht hcell e1 e3, hc.2.1, hc.2.2.1, hc.2.2.2.1, hs, hc.2.2.2.2.2.1.put e2 e3 (ex_Aw hc hB hC), by rw [eg_tot_set e2 hcell e1 e3]; exact hc.2.2.2.2.2.2.1, hc.2.2.2.2.2.2.2⟩
noncomputable def ib_getf (own : String) (cd : ByteArray) (pc w x : Nat) : Bool := match decode cd pc, ex_TS[x]?, ex_NW[x - 4096]? with
  | .ok (.getfield idx, 3), some (.fieldLink o i ref nm ds), _ => decide (ev_len w = 3 ∧ 8 ≤ ev_b w ∧ ev_b w < 19 ∧ ev_a w < ek_N (ev_b w) ∧ ev_d w = ek_d (ev_b w) (ev_a w) ∧ o = own ∧ i = idx ∧ nm = (ek_T (ev_b w) (ev_a w)).2.1 ∧ ds = (ek_T (ev_b w) (ev_a w)).2.2.1 ∧
      (ref = (ek_T (ev_b w) (ev_a w)).1 ∨ Cond.sameField ref (ek_T (ev_b w) (ev_a w)).1 nm ds ∈ ex_TS))
  | .ok (.getfield idx, 3), none, some (.fieldLinkNest o i ref nm ds ho) => decide (ev_len w = 3 ∧ 8 ≤ ev_b w ∧ ev_b w < 19 ∧ ev_a w < ek_N (ev_b w) ∧ ev_d w = ek_d (ev_b w) (ev_a w) ∧ o = own ∧ i = idx ∧ nm = (ek_T (ev_b w) (ev_a w)).2.1 ∧ ds = (ek_T (ev_b w) (ev_a w)).2.2.1 ∧
      ref = (ek_T (ev_b w) (ev_a w)).1)
  | _, _, _ => false
theorem eh_getf (hx : p.tables.exec = Jvm.exec) (hb : c.code = cd) {own : String} (hown : s.vm.findClass own = some m.cls) (hts : ∀ w ∈ ex_TS, w.before args s = true) (hK : ex_K D I al0 (ex_A al0 B0 s) s s.heap) {x : Nat} (hI : ib_getf own cd pc w x = true) (h : ex_G p l e R s m args below meth c Q Fin D I al0 B0 nL (ev_o_getf w pc L S M top cc ss)) (hc : ex_Cfg D I al0 B0 nL s al B M top L S ss H ls stk locs) : W p l e R s m args below meth c H locs cc ss Q (F0 m pc ls stk) := by
  refine ex_1r (S := S) (stk := stk) (al := al) (B := B) h hc.2.2.2.2.1 (fun b n r S2 e1 hB h2 h => ?_)
  subst e1
  unfold ib_getf at hI
  split at hI
  next _ idx o i ref nm ds hd hw =>
    obtain ⟨i1, i2, i3, i4, i5, rfl, rfl, rfl, rfl, i6⟩ := of_decide_eq_true hI
    have hoff : eg_off (ev_b w) = 0 := if_neg (by omega)
    obtain ⟨cell, c1, c2, c3, -, c5, -, -, c6⟩ := ex_cell hc hB (by omega)
    obtain ⟨w1, w2, w3⟩ := c6 (ev_a w) (by rw [c5 (by omega)]; exact i4)
    obtain ⟨hS, hfc, kC, hkC, hkind⟩ := hK.1.1 (ev_b w) i2 i3
    obtain ⟨cf, kf, fi, f, hi, hsl⟩ := hS (ev_a w) i4
    have hst := (u_facts hfc hkC (u_lays hts (ek_in i2 i3) i4) hi).1
    have hsame : s.fieldFound? ref (ek_T (ev_b w) (ev_a w)).2.1 (ek_T (ev_b w) (ev_a w)).2.2.1 = some (cf, kf, fi, f) := by
      rcases i6 with i6 | i6
      · rw [i6]; exact hi
      · exact u_same (hts _ i6) _ hi
    refine W.getf hx hb hown (hts _ (List.mem_of_getElem? hw)) hsame hst c1 (by rw [c3]; exact fun h => by cases h) (v := eg_val al (eg_word M b (ev_b w) (ev_a w))) ?_ rfl rfl hd ?_
    · rw [hsl]
      rw [show eg_ix I (ev_b w) (ev_a w) = I (ev_b w) (ev_a w) from if_neg (by omega)] at w3
      exact w3
    · have e9 : ev_or (ev_rd M (Nat.add b (ev_a w))) (Nat.succ (Nat.land (ev_d w) 3)) = eg_word M b (ev_b w) (ev_a w) := by
        rw [← eh_word i5, hoff]; rfl
      rw [e9] at h
      exact eh_len (w := w) (ex_nx h (hc.stk (eh_back w1 h2))) i1
  next idx o i ref nm ds ho hd _ hw =>
    obtain ⟨i1, i2, i3, i4, i5, rfl, rfl, rfl, rfl, i6⟩ := of_decide_eq_true hI
    have hoff : eg_off (ev_b w) = 0 := if_neg (by omega)
    obtain ⟨cell, c1, c2, c3, -, c5, -, -, c6⟩ := ex_cell hc hB (by omega)
    obtain ⟨w1, w2, w3⟩ := c6 (ev_a w) (by rw [c5 (by omega)]; exact i4)
    obtain ⟨hS, hfc, kC, hkC, hkind⟩ := hK.1.1 (ev_b w) i2 i3
    obtain ⟨cf, kf, fi, f, hi, hsl⟩ := hS (ev_a w) i4
    have hst := (u_facts hfc hkC (u_lays hts (ek_in i2 i3) i4) hi).1
    refine va_Wgetf hx hb hown (va_Nw.use rfl (hK.2.1 _ (List.mem_of_getElem? hw))) (by rw [i6]; exact hi) hst c1 (by rw [c3]; exact fun h => by cases h) (v := eg_val al (eg_word M b (ev_b w) (ev_a w))) ?_ rfl rfl hd ?_
    · rw [hsl]
      rw [show eg_ix I (ev_b w) (ev_a w) = I (ev_b w) (ev_a w) from if_neg (by omega)] at w3
      exact w3
    · have e9 : ev_or (ev_rd M (Nat.add b (ev_a w))) (Nat.succ (Nat.land (ev_d w) 3)) = eg_word M b (ev_b w) (ev_a w) := by
        rw [← eh_word i5, hoff]; rfl
      rw [e9] at h
      exact eh_len (w := w) (ex_nx h (hc.stk (eh_back w1 h2))) i1
  next => cases hI
noncomputable def ib_putf (mn own : String) (cd : ByteArray) (pc w x : Nat) : Bool := match decode cd pc, ex_TS[x]?, ex_NW[x - 4096]? with
  | .ok (.putfield idx, 3), some (.fieldLink o i ref nm ds), _ => decide (ev_len w = 3 ∧ 8 ≤ ev_b w ∧ ev_b w < 19 ∧ ev_a w < ek_N (ev_b w) ∧ ev_d w ≤ 8 ∧ ev_d w = ek_d (ev_b w) (ev_a w) ∧ o = own ∧ i = idx ∧ nm = (ek_T (ev_b w) (ev_a w)).2.1 ∧ ds = (ek_T (ev_b w) (ev_a w)).2.2.1 ∧
      (ref = (ek_T (ev_b w) (ev_a w)).1 ∨ Cond.sameField ref (ek_T (ev_b w) (ev_a w)).1 nm ds ∈ ex_TS) ∧ ((ek_T (ev_b w) (ev_a w)).2.2.2 = false ∨ (mn = "<init>" ∧ (ek_T (ev_b w) (ev_a w)).1 = own)))
  | .ok (.putfield idx, 3), none, some (.fieldLinkNest o i ref nm ds ho) => decide (ev_len w = 3 ∧ 8 ≤ ev_b w ∧ ev_b w < 19 ∧ ev_a w < ek_N (ev_b w) ∧ ev_d w ≤ 8 ∧ ev_d w = ek_d (ev_b w) (ev_a w) ∧ o = own ∧ i = idx ∧ nm = (ek_T (ev_b w) (ev_a w)).2.1 ∧ ds = (ek_T (ev_b w) (ev_a w)).2.2.1 ∧
      ref = (ek_T (ev_b w) (ev_a w)).1 ∧ (ek_T (ev_b w) (ev_a w)).2.2.2 = false)
  | _, _, _ => false
theorem eh_putf (hx : p.tables.exec = Jvm.exec) (hb : c.code = cd) {own : String} (hown : s.vm.findClass own = some m.cls) (hts : ∀ w ∈ ex_TS, w.before args s = true) (hK : ex_K D I al0 (ex_A al0 B0 s) s s.heap) {x : Nat} (hI : ib_putf meth.name own cd pc w x = true) (h : ex_G p l e R s m args below meth c Q Fin D I al0 B0 nL (ev_o_putf ev_C w pc L S M top cc ss)) (hc : ex_Cfg D I al0 B0 nL s al B M top L S ss H ls stk locs) : W p l e R s m args below meth c H locs cc ss Q (F0 m pc ls stk) := by
  refine ex_1v (S := S) (stk := stk) (al := al) (B := B) h hc.2.2.2.2.1 (fun v r0 S0 e0 hv h0 h => ex_1r h h0 (fun b n r S2 e1 hB h2 h => ?_))
  subst e0; subst e1
  refine ex_ite h (fun hb0 h => ?_) (fun _ h => ex_badG h)
  rw [em_wr] at h
  have hC : ev_C ≤ b := Nat.le_of_ble_eq_true (Bool.and_eq_true_iff.mp hb0).1
  have hok : ev_ok (ev_d w) v = true := (Bool.and_eq_true_iff.mp hb0).2
  unfold ib_putf at hI
  split at hI
  next _ idx o i ref nm ds hd hw =>
    obtain ⟨i1, i2, i3, i4, i8, i5, rfl, rfl, rfl, rfl, i6, i7⟩ := of_decide_eq_true hI
    have hoff : eg_off (ev_b w) = 0 := if_neg (by omega)
    have hix : eg_ix I (ev_b w) (ev_a w) = I (ev_b w) (ev_a w) := if_neg (by omega)
    obtain ⟨cell, c1, c2, c3, -, c5, -, -, c6⟩ := ex_cell hc hB (by omega)
    have hkn : ev_a w < n := by rw [c5 (by omega)]; exact i4
    obtain ⟨w1, w2, w3⟩ := c6 (ev_a w) hkn
    rw [hix] at w3
    obtain ⟨hS, hfc, kC, hkC, hkind⟩ := hK.1.1 (ev_b w) i2 i3
    obtain ⟨cf, kf, fi, f, hi, hsl⟩ := hS (ev_a w) i4
    have hst := (u_facts hfc hkC (u_lays hts (ek_in i2 i3) i4) hi).1
    have hsame : s.fieldFound? ref (ek_T (ev_b w) (ev_a w)).2.1 (ek_T (ev_b w) (ev_a w)).2.2.1 = some (cf, kf, fi, f) := by
      rcases i6 with i6 | i6
      · rw [i6]; exact hi
      · exact u_same (hts _ i6) _ hi
    have hdc : ek_d (ev_b w) (ev_a w) = ek_code (ek_ty (ev_b w) (ev_a w)) := if_neg (by omega)
    have hfit := eh_fit (al := al) hv (by rw [← hdc, ← i5]; exact i8) (by rw [← hdc, ← i5]; exact hok)
    have hpd := (ek_ok i2 i3).1 (ev_a w) i4
    have hlay := hts _ (ek_in i2 i3 _ (u_in_lay i4))
    have fin : ∀ (H' : Heap), H'[al b]? = some (cell.setSlot (I (ev_b w) (ev_a w)) (eg_val al v)) → H'.size = H.size → (∀ q, q ≠ al b → H'[q]? = H[q]?) → W p l e R s m args below meth c H' (locs ++ [⟨al b, I (ev_b w) (ev_a w)⟩]) cc ss Q (F0 m (pc + 3) ls r) := by
      intro H' e1 e2 e3
      have k := ex_nx h (by
        have q := ex_wrote hc hB hkn (by omega) hC (fun _ => ex_inj hK.1 hts i2 i3) hv (by rw [← i5]; exact hok) c1 (by rw [hix]; exact e1) e2 e3 h2
        rw [hix] at q
        have ea : Nat.add b (ev_a w) = b + eg_off (ev_b w) + ev_a w := by rw [hoff]; rfl
        rw [← ea] at q
        exact q)
      rw [i1] at k
      exact k
    rcases i7 with i7 | ⟨i7, i9⟩
    · unfold u_lay at hlay
      rw [if_neg (by rw [i7]; decide)] at hlay
      have h6 := u_store hfc hkC hkind hlay hi hpd hfit.1 hfit.2
      refine W.putK hx hb (f := f) ⟨hown, hts _ (List.mem_of_getElem? hw), ⟨_, _, _, hsame⟩, hst⟩ (by rw [c2]; exact h6) c1 c3 (by rw [hsl]; exact k2_hasslot w3) rfl rfl hd fun H' e1 e2 e3 => ?_
      rw [hsl] at e1 ⊢
      exact fin H' e1 e2 e3
    · by_cases i7' : (ek_T (ev_b w) (ev_a w)).2.2.2 = true
      · unfold u_lay at hlay
        rw [if_pos i7'] at hlay
        have hcf : m.cls = cf := by
          obtain ⟨_, _, c', _, _, _, -, -, hf', -, -, -, hown2, -⟩ := Cond.laysFinal_spec hlay
          have e1 : c' = cf := by have := hi.symm.trans hf'; simp at this; exact this.1.symm
          rw [i9] at hown2
          rw [← e1]; exact Option.some.inj (hown.symm.trans hown2)
        have h6 := u_fits hfc hkC hkind (Or.inr hlay) hi hpd hfit.1 hfit.2
        refine W.putFinK hx hb hown (hts _ (List.mem_of_getElem? hw)) hsame hst hcf i7 (by rw [c2]; exact h6) c1 c3 (by rw [hsl]; exact k2_hasslot w3) rfl rfl hd fun H' e1 e2 e3 => ?_
        rw [hsl] at e1 ⊢
        exact fin H' e1 e2 e3
      · unfold u_lay at hlay
        rw [if_neg i7'] at hlay
        have h6 := u_store hfc hkC hkind hlay hi hpd hfit.1 hfit.2
        refine W.putK hx hb (f := f) ⟨hown, hts _ (List.mem_of_getElem? hw), ⟨_, _, _, hsame⟩, hst⟩ (by rw [c2]; exact h6) c1 c3 (by rw [hsl]; exact k2_hasslot w3) rfl rfl hd fun H' e1 e2 e3 => ?_
        rw [hsl] at e1 ⊢
        exact fin H' e1 e2 e3
  next idx o i ref nm ds ho hd _ hw =>
    obtain ⟨i1, i2, i3, i4, i8, i5, rfl, rfl, rfl, rfl, i6, i7⟩ := of_decide_eq_true hI
    have hoff : eg_off (ev_b w) = 0 := if_neg (by omega)
    have hix : eg_ix I (ev_b w) (ev_a w) = I (ev_b w) (ev_a w) := if_neg (by omega)
    obtain ⟨cell, c1, c2, c3, -, c5, -, -, c6⟩ := ex_cell hc hB (by omega)
    have hkn : ev_a w < n := by rw [c5 (by omega)]; exact i4
    obtain ⟨w1, w2, w3⟩ := c6 (ev_a w) hkn
    rw [hix] at w3
    obtain ⟨hS, hfc, kC, hkC, hkind⟩ := hK.1.1 (ev_b w) i2 i3
    obtain ⟨cf, kf, fi, f, hi, hsl⟩ := hS (ev_a w) i4
    have hst := (u_facts hfc hkC (u_lays hts (ek_in i2 i3) i4) hi).1
    have hdc : ek_d (ev_b w) (ev_a w) = ek_code (ek_ty (ev_b w) (ev_a w)) := if_neg (by omega)
    have hfit := eh_fit (al := al) hv (by rw [← hdc, ← i5]; exact i8) (by rw [← hdc, ← i5]; exact hok)
    have hpd := (ek_ok i2 i3).1 (ev_a w) i4
    have hlay := hts _ (ek_in i2 i3 _ (u_in_lay i4))
    unfold u_lay at hlay
    rw [if_neg (by rw [i7]; decide)] at hlay
    have h6 := u_store hfc hkC hkind hlay hi hpd hfit.1 hfit.2
    refine va_WputK hx hb (f := f) hown (va_Nw.use rfl (hK.2.1 _ (List.mem_of_getElem? hw))) (by rw [i6]; exact hi) hst (by rw [c2]; exact h6) c1 c3 (by rw [hsl]; exact k2_hasslot w3) rfl rfl hd fun H' e1 e2 e3 => ?_
    rw [hsl] at e1 ⊢
    have k := ex_nx h (by
      have q := ex_wrote hc hB hkn (by omega) hC (fun _ => ex_inj hK.1 hts i2 i3) hv (by rw [← i5]; exact hok) c1 (by rw [hix]; exact e1) e2 e3 h2
      rw [hix] at q
      have ea : Nat.add b (ev_a w) = b + eg_off (ev_b w) + ev_a w := by rw [hoff]; rfl
      rw [← ea] at q
      exact q)
    rw [i1] at k
    exact k
  next => cases hI
end EH
