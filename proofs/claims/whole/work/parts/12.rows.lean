/-! one step is one instruction: rows -/
theorem eh_word2 {M : ev_M} {b kd k d : Nat} (hd : d % 4 = ek_d kd k % 4) : ev_or (ev_rd M (b + eg_off kd + k)) (Nat.succ (Nat.land d 3)) = eg_word M b kd k := by
  unfold ev_or eg_word
  rw [ec_c, show Nat.land d 3 = d % 4 from Nat.and_two_pow_sub_one_eq_mod d 2, hd]
  by_cases h : ev_rd M (b + eg_off kd + k) = 0
  · rw [if_pos (ev_beqE.mpr h), if_pos h]
  · rw [if_neg (fun z => h (ev_beqE.mp z)), if_neg h]
theorem ex_arr {D : Nat → ClassId} {I : Nat → Nat → Nat} {s : State} (hK : ex_KF D I s) {kd : Nat} (h : kd < 6) {cell : Cell} (h1 : cell.cls = D kd) (h2 : cell.vm = .none) : s.isArrayOf cell (ek_el kd) := by
  refine ⟨fun k => (by rw [h2]; exact fun q => (by cases q)), ?_⟩
  have h3 := ((hK.2 kd h).1 0 (fun _ => .null)).2
  rw [h1]
  exact h3
theorem ex_inR {i n : Nat} {sz : Nat} (h : i < n) (hs : sz = n) (hn : n ≤ 32768) : ¬ ((nI i) < 0 ∨ sz ≤ (nI i).toNatClampNeg) := by
  have h1 : vp_in (nI i) n := vp_in_nI h (by omega)
  rw [hs]
  exact h1
theorem ek_dA {kd k : Nat} : (kd = 0 → ek_d kd k = 4) ∧ (kd = 1 → ek_d kd k = 0) ∧ (kd = 2 → ek_d kd k = 8) ∧ ((kd = 3 ∨ kd = 4 ∨ kd = 5) → ek_d kd k = 3) := by
  refine ⟨?_, ?_, ?_, ?_⟩
  · rintro rfl; rfl
  · rintro rfl; rfl
  · rintro rfl; rfl
  · rintro (rfl | rfl | rfl) <;> rfl
theorem ek_elR {kd : Nat} (h : kd = 3 ∨ kd = 4 ∨ kd = 5) : (ek_el kd).isReference = true := by rcases h with rfl | rfl | rfl <;> rfl
theorem ek_cO : Cond.castable "java/util/ArrayList" "java/lang/Object" ∈ ex_NW ∧ Cond.castable "[I" "java/lang/Object" ∈ ex_NW := by decide +kernel
section EH
variable {p : Program} {l : Launch} {e : Env} {R : Room} {s : State} {m : MethodId} {args : Array Value} {below : List Frame} {meth : Method} {c : Code} {Q : State → Prop} {Fin : Nat → ev_M → Nat → Nat → Nat → Prop}
variable {D : Nat → ClassId} {I : Nat → Nat → Nat} {al0 : Nat → Nat} {B0 : Nat → Nat → Nat → Prop} {nL : Nat}
variable {cd : ByteArray} {w pc L S top cc ss : Nat} {M : ev_M} {al : Nat → Nat} {B : Nat → Nat → Nat → Prop} {H : Heap} {ls : Array Slot} {stk : List Value} {locs : List Loc}
def ip_alen (cd : ByteArray) (pc w : Nat) : Prop := ev_b w < 6 ∧ ip_op cd pc w .arraylength
theorem eh_alen (hx : p.tables.exec = Jvm.exec) (hb : c.code = cd) {own : String} (hown : s.vm.findClass own = some m.cls) (hts : ∀ w ∈ ex_TS, w.before args s = true) (hK : ex_K D I al0 (ex_A al0 B0 s) s s.heap) (hI : ip_alen cd pc w) (h : ex_G p l e R s m args below meth c Q Fin D I al0 B0 nL (ev_o_alen w pc L S M top cc ss)) (hc : ex_Cfg D I al0 B0 nL s al B M top L S ss H ls stk locs) : W p l e R s m args below meth c H locs cc ss Q (F0 m pc ls stk) := by
  refine ex_1r (S := S) (stk := stk) (al := al) (B := B) h hc.2.2.2.2.1 (fun b n r S2 e1 hB h2 h => ?_)
  subst e1
  obtain ⟨cell, c1, c2, c3, c4, -, c7, c8, -⟩ := ex_cell hc hB (by have := hI.1; omega)
  obtain ⟨f1, f2⟩ := c4 (by have := hI.1; omega)
  refine W.alen hx hb c1 (ex_arr hK.1 hI.1 c2 c3) (n := nI n) (by rw [f2]; rfl) rfl rfl hI.2.2 ?_
  have e9 : Nat.pred (ev_rd M b) = n := by rw [f1]; rfl
  rw [e9] at h
  exact eh_len (w := w) (ex_nx h (hc.stk (ex_pI h2 (by omega) rfl))) hI.2.1
def ip_ald (cd : ByteArray) (pc w : Nat) : Prop := ev_len w = 1 ∧ ((ev_b w = 0 ∧ ev_d w % 4 = 0 ∧ decode cd pc = .ok (.baload, 1)) ∨ (ev_b w = 1 ∧ ev_d w % 4 = 0 ∧ decode cd pc = .ok (.iaload, 1)) ∨ (ev_b w = 2 ∧ ev_d w % 4 = 0 ∧ decode cd pc = .ok (.baload, 1)) ∨
  ((ev_b w = 3 ∨ ev_b w = 4 ∨ ev_b w = 5) ∧ ev_d w % 4 = 3 ∧ decode cd pc = .ok (.aaload, 1)))
theorem eh_ald (hx : p.tables.exec = Jvm.exec) (hb : c.code = cd) {own : String} (hown : s.vm.findClass own = some m.cls) (hts : ∀ w ∈ ex_TS, w.before args s = true) (hK : ex_K D I al0 (ex_A al0 B0 s) s s.heap) (hI : ip_ald cd pc w) (h : ex_G p l e R s m args below meth c Q Fin D I al0 B0 nL (ev_o_ald w pc L S M top cc ss)) (hc : ex_Cfg D I al0 B0 nL s al B M top L S ss H ls stk locs) : W p l e R s m args below meth c H locs cc ss Q (F0 m pc ls stk) := by
  refine ex_1i (S := S) (stk := stk) (al := al) (B := B) h hc.2.2.2.2.1 (fun i r0 S0 e0 hi h0 h => ex_1r h h0 (fun b n r S2 e1 hB h2 h => ?_))
  subst e0; subst e1
  refine ex_ite h (fun hb0 h => ?_) (fun _ h => ex_badG h)
  have hk6 : ev_b w < 6 := by rcases hI.2 with q | q | q | q <;> omega
  obtain ⟨cell, c1, c2, c3, c4, -, c7, c8, c6⟩ := ex_cell hc hB (by omega)
  obtain ⟨f1, f2⟩ := c4 (by omega)
  have hoff : eg_off (ev_b w) = 1 := if_pos (by omega)
  have hin : i < n := by
    have h9 : Nat.succ i ≤ Nat.pred (ev_rd M b) := Nat.le_of_ble_eq_true hb0
    rw [f1] at h9
    exact h9
  obtain ⟨w1, w2, w3⟩ := c6 i hin
  rw [show eg_ix I (ev_b w) i = i from if_pos (by omega)] at w3
  have hcl : (nI i).toNatClampNeg = i := nI_clamp (by omega)
  have hr := ex_inR (sz := cell.slots.size) hin f2 (by omega)
  have e9 : ev_d w % 4 = ek_d (ev_b w) i % 4 → ev_or (ev_rd M (Nat.succ (Nat.add b i))) (Nat.succ (Nat.land (ev_d w) 3)) = eg_word M b (ev_b w) i := by
    intro hd
    rw [← eh_word2 hd, hoff, show Nat.succ (Nat.add b i) = b + 1 + i by show b + i + 1 = _; omega]
  have hA := ex_arr hK.1 hk6 c2 c3
  have hvm : cell.vm ≠ .unknown := by rw [c3]; exact fun q => by cases q
  obtain ⟨d0, d1, d2, d3⟩ := @ek_dA (ev_b w) i
  rcases hI.2 with ⟨q1, q2, q3⟩ | ⟨q1, q2, q3⟩ | ⟨q1, q2, q3⟩ | ⟨q1, q2, q3⟩
  · rw [e9 (by rw [q2, d0 q1])] at h
    rw [q1] at hA
    exact W.bald (v := eg_val al (eg_word M b (ev_b w) i)) hx hb c1 hA hvm hr (by rw [hcl]; exact w3) rfl rfl q3 (eh_len (w := w) (ex_nx h (hc.stk (eh_back w1 h2))) hI.1)
  · rw [e9 (by rw [q2, d1 q1])] at h
    rw [q1] at hA
    exact W.iald (v := eg_val al (eg_word M b (ev_b w) i)) hx hb c1 hA hvm hr (by rw [hcl]; exact w3) rfl rfl q3 (eh_len (w := w) (ex_nx h (hc.stk (eh_back w1 h2))) hI.1)
  · rw [e9 (by rw [q2, d2 q1])] at h
    rw [q1] at hA
    exact W.zald (v := eg_val al (eg_word M b (ev_b w) i)) hx hb c1 hA hvm hr (by rw [hcl]; exact w3) rfl rfl q3 (eh_len (w := w) (ex_nx h (hc.stk (eh_back w1 h2))) hI.1)
  · rw [e9 (by rw [q2, d3 q1])] at h
    exact W.aald (v := eg_val al (eg_word M b (ev_b w) i)) hx hb c1 hA (ek_elR q1) hvm hr (by rw [hcl]; exact w3) rfl rfl q3 (eh_len (w := w) (ex_nx h (hc.stk (eh_back w1 h2))) hI.1)
def ip_ast (cd : ByteArray) (pc w : Nat) : Prop := ev_len w = 1 ∧ ((ev_b w = 0 ∧ ev_d w = 4 ∧ decode cd pc = .ok (.bastore, 1)) ∨ (ev_b w = 1 ∧ ev_d w = 0 ∧ decode cd pc = .ok (.iastore, 1)) ∨ (ev_b w = 2 ∧ ev_d w = 8 ∧ decode cd pc = .ok (.bastore, 1)) ∨
  ((ev_b w = 3 ∨ ev_b w = 4 ∨ ev_b w = 5) ∧ ev_d w = 3 ∧ decode cd pc = .ok (.aastore, 1)))
/-- a cell that may stand in a row: its class may -/
theorem ex_asg {own : String} (hK : ex_K D I al0 (ex_A al0 B0 s) s s.heap) {kd vk : Nat} (h : (kd = 3 ∧ vk = 13) ∨ (kd = 4 ∧ vk = 15) ∨ (kd = 5 ∧ (vk = 1 ∨ vk = 10))) :
    ∃ (kA : Class) (comp : ClassId) (t : FieldType) (kc kv : Class), s.vm.classes[D kd]? = some kA ∧ kA.kind = .array comp t ∧ t.isReference = true ∧ s.vm.classes[comp]? = some kc ∧ s.vm.classes[D vk]? = some kv ∧ s.vm.assignable (D vk) comp = true := by
  have obj : ∀ vk, 8 ≤ vk → vk < 19 → s.vm.findClass (ek_nm vk) = some (D vk) ∧ ∃ kv : Class, s.vm.classes[D vk]? = some kv := by
    intro vk h1 h2
    obtain ⟨-, h3, kv, h4, -⟩ := hK.1.1 vk h1 h2
    exact ⟨h3, kv, h4⟩
  rcases h with ⟨rfl, rfl⟩ | ⟨rfl, rfl⟩ | ⟨rfl, rfl | rfl⟩
  · obtain ⟨kA, comp, k1, k2, k3, -⟩ := (hK.1.2 3 (by decide)).2
    obtain ⟨o1, kv, o2⟩ := obj 13 (by decide) (by decide)
    obtain ⟨kE, hkE, -⟩ := Vm.findClass_spec k3
    have : D 13 = comp := Option.some.inj (o1.symm.trans k3)
    exact ⟨kA, comp, _, kE, kv, k1, k2, rfl, hkE, o2, by rw [this]; exact va_asg _ _⟩
  · obtain ⟨kA, comp, k1, k2, k3, -⟩ := (hK.1.2 4 (by decide)).2
    obtain ⟨o1, kv, o2⟩ := obj 15 (by decide) (by decide)
    obtain ⟨kE, hkE, -⟩ := Vm.findClass_spec k3
    have : D 15 = comp := Option.some.inj (o1.symm.trans k3)
    exact ⟨kA, comp, _, kE, kv, k1, k2, rfl, hkE, o2, by rw [this]; exact va_asg _ _⟩
  · obtain ⟨kA, comp, k1, k2, k3, -⟩ := (hK.1.2 5 (by decide)).2
    obtain ⟨kE, hkE, -⟩ := Vm.findClass_spec k3
    obtain ⟨c0, t1, f1, f2, f3⟩ := Cond.castable_spec (hK.2.1 _ ek_cO.2)
    have g1 : s.vm.findClass "[I" = some (D 1) := (hK.1.2 1 (by decide)).2
    obtain ⟨kv, hkv, -⟩ := Vm.findClass_spec g1
    cases g1.symm.trans f1
    cases k3.symm.trans f2
    exact ⟨kA, comp, _, kE, kv, k1, k2, rfl, hkE, hkv, f3⟩
  · obtain ⟨kA, comp, k1, k2, k3, -⟩ := (hK.1.2 5 (by decide)).2
    obtain ⟨kE, hkE, -⟩ := Vm.findClass_spec k3
    obtain ⟨c0, t1, f1, f2, f3⟩ := Cond.castable_spec (hK.2.1 _ ek_cO.1)
    obtain ⟨o1, kv, o2⟩ := obj 10 (by decide) (by decide)
    cases o1.symm.trans f1
    cases k3.symm.trans f2
    exact ⟨kA, comp, _, kE, kv, k1, k2, rfl, hkE, o2, f3⟩
theorem eh_ast (hx : p.tables.exec = Jvm.exec) (hb : c.code = cd) {own : String} (hown : s.vm.findClass own = some m.cls) (hts : ∀ w ∈ ex_TS, w.before args s = true) (hK : ex_K D I al0 (ex_A al0 B0 s) s s.heap) (hI : ip_ast cd pc w) (h : ex_G p l e R s m args below meth c Q Fin D I al0 B0 nL (ev_o_ast ev_C w pc L S M top cc ss)) (hc : ex_Cfg D I al0 B0 nL s al B M top L S ss H ls stk locs) : W p l e R s m args below meth c H locs cc ss Q (F0 m pc ls stk) := by
  refine ex_1v (S := S) (stk := stk) (al := al) (B := B) h hc.2.2.2.2.1 (fun v r9 S9 e9 hv h9 h => ex_1i h h9 (fun i r0 S0 e0 hi h0 h => ex_1r h h0 (fun b n r S2 e1 hB h2 h => ?_)))
  subst e9; subst e0; subst e1
  refine ex_ite h (fun hb0 h => ?_) (fun _ h => ex_badG h)
  rw [em_wr] at h
  have hC : ev_C ≤ b := Nat.le_of_ble_eq_true (Bool.and_eq_true_iff.mp hb0).1
  have hb1 := Bool.and_eq_true_iff.mp (Bool.and_eq_true_iff.mp hb0).2
  have hok : ev_ok (ev_d w) v = true := (Bool.and_eq_true_iff.mp hb1.1).1
  have has : ev_as (ev_b w) v = true := (Bool.and_eq_true_iff.mp hb1.1).2
  have hk6 : ev_b w < 6 := by rcases hI.2 with q | q | q | q <;> omega
  obtain ⟨cell, c1, c2, c3, c4, -, c7, c8, c6⟩ := ex_cell hc hB (by omega)
  obtain ⟨f1, f2⟩ := c4 (by omega)
  have hoff : eg_off (ev_b w) = 1 := if_pos (by omega)
  have hix : eg_ix I (ev_b w) i = i := if_pos (by omega)
  have hin : i < n := by
    have h9 : Nat.succ i ≤ Nat.pred (ev_rd M b) := Nat.le_of_ble_eq_true hb1.2
    rw [f1] at h9
    exact h9
  have hcl : (nI i).toNatClampNeg = i := nI_clamp (by omega)
  have hr := ex_inR (sz := cell.slots.size) hin f2 (by omega)
  have hA := ex_arr hK.1 hk6 c2 c3
  have hvm : cell.vm ≠ .unknown := by rw [c3]; exact fun q => by cases q
  obtain ⟨d0, d1, d2, d3⟩ := @ek_dA (ev_b w) i
  have fin : ev_d w = ek_d (ev_b w) i → ∀ (H' : Heap), H'[al b]? = some (cell.setSlot i (eg_val al v)) → H'.size = H.size → (∀ q, q ≠ al b → H'[q]? = H[q]?) → W p l e R s m args below meth c H' (locs ++ [⟨al b, i⟩]) cc ss Q (F0 m (pc + 1) ls r) := by
    intro hd H' e1 e2 e3
    have k := ex_nx h (by
      have q := ex_wrote hc hB hin (by omega) hC (fun z => absurd (show ev_b w < 8 by omega) z) hv (by rw [← hd]; exact hok) c1 (by rw [hix]; exact e1) e2 e3 h2
      rw [hix] at q
      have ea : Nat.succ (Nat.add b i) = b + eg_off (ev_b w) + i := by rw [hoff]; show b + i + 1 = _; omega
      rw [← ea] at q
      exact q)
    rw [hI.1] at k
    exact k
  rcases hI.2 with ⟨q1, q2, q3⟩ | ⟨q1, q2, q3⟩ | ⟨q1, q2, q3⟩ | ⟨q1, q2, q3⟩
  · have hf := eh_fit (al := al) (ty := .byte) hv (by decide) (by rw [q2] at hok; exact hok)
    have ht : v % 4 = 1 := by
      rw [q2] at hok
      unfold ev_ok at hok
      simp only [ec_c] at hok
      exact (ev_tagE _ _).mp (Bool.and_eq_true_iff.mp hok).1
    rw [q1] at hA
    have k := fin (by rw [q2, d0 q1])
    rw [eg_val_i _ ht] at k hf ⊢
    exact W.bast hx hb c1 hA hvm hr rfl rfl q3 (fun H' e1 e2 e3 => by rw [hcl] at e1 ⊢; rw [hf.1] at e1; exact k H' e1 e2 e3)
  · have ht : v % 4 = 1 := by
      rw [q2] at hok
      unfold ev_ok at hok
      simp only [ec_c] at hok
      exact (ev_tagE _ _).mp (Bool.and_eq_true_iff.mp hok).1
    rw [q1] at hA
    have k := fin (by rw [q2, d1 q1])
    rw [eg_val_i _ ht] at k ⊢
    exact W.iast hx hb c1 hA hvm hr rfl rfl q3 (fun H' e1 e2 e3 => by rw [hcl] at e1 ⊢; exact k H' e1 e2 e3)
  · have hf := eh_fit (al := al) (ty := .boolean) hv (by decide) (by rw [q2] at hok; exact hok)
    have ht : v % 4 = 1 := by
      rw [q2] at hok
      unfold ev_ok at hok
      simp only [ec_c] at hok
      exact (ev_tagE _ _).mp (Bool.and_eq_true_iff.mp hok).1
    rw [q1] at hA
    have k := fin (by rw [q2, d2 q1])
    rw [eg_val_i _ ht] at k hf ⊢
    exact W.zast hx hb c1 hA hvm hr rfl rfl q3 (fun H' e1 e2 e3 => by rw [hcl] at e1 ⊢; rw [hf.1] at e1; exact k H' e1 e2 e3)
  · unfold ev_as at has
    rw [ec_c, if_neg (fun z => by have := Nat.le_of_ble_eq_true z; omega)] at has
    have ht : v % 4 = 2 := (ev_tagE _ _).mp (Bool.and_eq_true_iff.mp has).1
    have has2 := (Bool.and_eq_true_iff.mp has).2
    rw [ex_shr2, show Nat.land (v / 4) 63 = v / 4 % 64 from em_lo _] at has2
    simp only [ec_c] at has2
    have hvk : (ev_b w = 3 ∧ v / 4 % 64 = 13) ∨ (ev_b w = 4 ∧ v / 4 % 64 = 15) ∨ (ev_b w = 5 ∧ (v / 4 % 64 = 1 ∨ v / 4 % 64 = 10)) := by
      rcases q1 with q1 | q1 | q1
      · rw [if_pos (ev_beqE.mpr q1)] at has2
        exact Or.inl ⟨q1, ev_beqE.mp has2⟩
      · rw [if_neg (fun z => by have := ev_beqE.mp z; omega), if_pos (ev_beqE.mpr q1)] at has2
        exact Or.inr (Or.inl ⟨q1, ev_beqE.mp has2⟩)
      · rw [if_neg (fun z => by have := ev_beqE.mp z; omega), if_neg (fun z => by have := ev_beqE.mp z; omega)] at has2
        refine Or.inr (Or.inr ⟨q1, ?_⟩)
        rcases Bool.or_eq_true_iff.mp has2 with z | z
        · exact Or.inl (ev_beqE.mp z)
        · exact Or.inr (ev_beqE.mp z)
    obtain ⟨kA, comp, t, kc, kv, a1, a2, a3, a4, a5, a6⟩ := ex_asg (own := own) hK hvk
    obtain ⟨nv, hBv⟩ : ∃ n, B (v / 256) (v / 4 % 64) n := by
      rcases hv.2 with q | q | q | q
      · omega
      · omega
      · exact q.2
      · omega
    obtain ⟨cv, v1, v2, v3, -⟩ := ex_cell hc hBv (by omega)
    have k := fin (by rw [q2, d3 q1])
    rw [eg_val_r _ ht] at k ⊢
    refine W.aast hx hb c1 (fun q z => by rw [c3] at z; cases z) hvm (by rw [c2]; exact a1) a2 a3 a4 ⟨fun z => hr (Or.inl z), by rw [hcl, f2]; exact hin⟩ v1 (fun q z => by rw [v3] at z; cases z) (by rw [v2]; exact a5) (by rw [v2]; exact a6) rfl rfl q3 (fun H' e1 e2 e3 => by rw [hcl] at e1 ⊢; exact k H' e1 e2 e3)
end EH
