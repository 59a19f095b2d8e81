/-! one step is one instruction: System.arraycopy -/
/-- a raw word of a row is written (0: what stands in a fresh row) -/
theorem eg_writeG {D : Nat → ClassId} {I : Nat → Nat → Nat} {al : Nat → Nat} {B : Nat → Nat → Nat → Prop} {M : ev_M} {top : Nat} {H H' : Heap} {b kd n k u v : Nat} {cell : Cell} (hR : eg_R D I al B M top H) (hb : B b kd n) (hk : k < n) (h8 : kd < 8)
    (hu : u < ew_W) (huv : (if u = 0 then ek_d kd k % 4 + 1 else u) = v) (hv : eg_ok B v) (ht : ev_ok (ek_d kd k) v = true) (hcell : H[al b]? = some cell)
    (h1 : H'[al b]? = some (cell.setSlot k (eg_val al v))) (ho : ∀ q, q ≠ al b → H'[q]? = H[q]?) : eg_R D I al B (em_up M (b + 1 + k) u) top H' := by
  obtain ⟨r1, r2, r3, r4, r5, r6⟩ := hR
  have ho1 : eg_off kd = 1 := if_pos h8
  have hbt := (r4 b kd n hb).1
  have hrw : ∀ a, a < 32768 → ev_rd (em_up M (b + 1 + k) u) a = if a = b + 1 + k then u else ev_rd M a := fun a ha => em_rw (by omega) ha hu
  refine ⟨fun b' kd' n' hb' => ?_, r2, r3, r4, fun a h2 h3 => ?_, r6⟩
  · obtain ⟨c', e1, e2⟩ := r1 b' kd' n' hb'
    have hbt' := (r4 b' kd' n' hb').1
    rcases r2 b kd n b' kd' n' hb hb' with hbb | ⟨hdis, hal⟩
    · subst hbb
      obtain ⟨rfl, rfl⟩ := r3 _ _ _ _ _ hb hb'
      rw [hcell] at e1
      cases e1
      obtain ⟨s1, s2, s3⟩ := eg_setCls cell k (eg_val al v)
      refine ⟨_, h1, ?_⟩
      rcases e2 with e2 | ⟨e2, e3, e4, e5, e6⟩
      · omega
      · refine Or.inr ⟨by rw [s1]; exact e2, by rw [s2]; exact e3, fun h8 => ?_, e5, fun j hj => ?_⟩
        · obtain ⟨f1, f2⟩ := e4 h8
          exact ⟨by rw [hrw b (by omega), if_neg (show ¬ b = b + 1 + k by omega)]; exact f1, by rw [s3]; exact f2⟩
        · by_cases hjk : j = k
          · subst hjk
            have hw : eg_word (em_up M (b + 1 + j) u) b kd j = v := by
              unfold eg_word
              rw [ho1, hrw (b + 1 + j) (by omega), if_pos rfl]
              exact huv
            rw [hw]
            have hlt := eg_lt (e6 j hj).2.2
            have hix : eg_ix I kd j = j := if_pos h8
            rw [hix] at hlt ⊢
            exact ⟨hv, ht, eg_setSelf _ _ hlt⟩
          · have hw : eg_word (em_up M (b + 1 + k) u) b kd j = eg_word M b kd j := by
              unfold eg_word
              rw [ho1, hrw (b + 1 + j) (by omega), if_neg (show ¬ b + 1 + j = b + 1 + k by omega)]
            rw [hw]
            obtain ⟨g1, g2, g3⟩ := e6 j hj
            refine ⟨g1, g2, ?_⟩
            have hix : eg_ix I kd j = j := if_pos h8
            rw [hix] at g3 ⊢
            rw [slot_ne _ _ (fun z => hjk z.symm)]
            exact g3
    · refine ⟨c', by rw [ho _ (fun z => hal z.symm)]; exact e1, ?_⟩
      rw [ho1] at hdis
      rcases e2 with e2 | ⟨e2, e3, e4, e5, e6⟩
      · exact Or.inl e2
      · refine Or.inr ⟨e2, e3, fun h8 => ?_, e5, fun j hj => ?_⟩
        · obtain ⟨f1, f2⟩ := e4 h8
          have hb2 := (r4 b' kd' n' hb').2.1
          have ho1 : eg_off kd' = 1 := if_pos h8
          exact ⟨by rw [hrw b' (by omega), if_neg (show ¬ b' = b + 1 + k by omega)]; exact f1, f2⟩
        · have hw : eg_word (em_up M (b + 1 + k) u) b' kd' j = eg_word M b' kd' j := by
            unfold eg_word
            rw [hrw (b' + eg_off kd' + j) (by omega), if_neg (show ¬ b' + eg_off kd' + j = b + 1 + k by omega)]
          rw [hw]
          exact e6 j hj
  · have ha : a ≠ b + 1 + k := by omega
    rw [hrw a h3, if_neg ha]
    exact r5 a h2 h3
theorem eg_rdlt (M : ev_M) (a : Nat) : ev_rd M a < ew_W := by rw [em_rd]; exact ew_wd_lt _ _
/-- a run of words is copied from one row to another -/
theorem eg_copy {D : Nat → ClassId} {I : Nat → Nat → Nat} {al : Nat → Nat} {B : Nat → Nat → Nat → Prop} {top a na b nb kd i j : Nat} {cs : Cell} (h8 : kd < 8) (hA : B a kd na) (hB : B b kd nb) (hab : a ≠ b) :
    ∀ (n t : Nat) (M : ev_M) (H : Heap) (cd : Cell), eg_R D I al B M top H → i + t + n ≤ na → j + t + n ≤ nb → H[al a]? = some cs → H[al b]? = some cd →
    ∀ H' : Heap, H'[al b]? = some (cd.storePairs j (((List.range' t n).map fun q => cs.slots.getD (i + q) .null).zipIdx t)) → (∀ q, q ≠ al b → H'[q]? = H[q]?) →
    ∃ M', (∀ k : ev_M → ev_St, ev_cp n k M (a + 1 + i + t) (b + 1 + j + t) = k M') ∧ eg_R D I al B M' top H' := by
  intro n
  induction n with
  | zero =>
    intro t M H cd hR hi hj hca hcb H' e1 e2
    have : H' = H := by
      apply Array.ext_getElem?
      intro q
      by_cases hq : q = al b
      · subst hq; rw [e1, hcb]; rfl
      · exact e2 q hq
    subst this
    exact ⟨M, fun k => rfl, hR⟩
  | succ n ih =>
    intro t M H cd hR hi hj hca hcb H' e1 e2
    obtain ⟨ca, f1, f2⟩ := hR.1 a kd na hA
    cases hca.symm.trans f1
    have hne : al a ≠ al b := by
      rcases hR.2.1 a kd na b kd nb hA hB with q | q
      · exact absurd q hab
      · exact q.2
    rcases f2 with f2 | ⟨f2, f3, f4, f5, f6⟩
    · omega
    obtain ⟨g1, g2, g3⟩ := f6 (i + t) (by omega)
    have ho1 : eg_off kd = 1 := if_pos h8
    have hix : eg_ix I kd (i + t) = i + t := if_pos h8
    rw [hix] at g3
    have hget : cs.slots.getD (i + t) .null = eg_val al (eg_word M a kd (i + t)) := by rw [Array.getD_eq_getD_getElem?, g3]; rfl
    have hlb : al b < H.size := eg_ltA hcb
    have hdd : ek_d kd (j + t) = ek_d kd (i + t) := by
      rw [show ek_d kd (j + t) = ek_code (ek_el kd) from if_pos h8, show ek_d kd (i + t) = ek_code (ek_el kd) from if_pos h8]
    have hw := eg_writeG (H' := H.setIfInBounds (al b) (cd.setSlot (j + t) (eg_val al (eg_word M a kd (i + t))))) (u := ev_rd M (a + 1 + i + t)) (k := j + t) hR hB (by omega) h8 (eg_rdlt _ _) (by
      rw [hdd]
      unfold eg_word
      rw [ho1, show a + 1 + i + t = a + 1 + (i + t) by omega]) g1 (by rw [hdd]; exact g2) hcb (by simp [Array.getElem?_setIfInBounds, hlb]) (fun q hq => by simp [Array.getElem?_setIfInBounds, Ne.symm hq])
    obtain ⟨M', k1, k2⟩ := ih (t + 1) _ _ (cd.setSlot (j + t) (eg_val al (eg_word M a kd (i + t)))) hw (by omega) (by omega) (by rw [Array.getElem?_setIfInBounds, if_neg (fun z => hne z.symm)]; exact hca) (by simp [Array.getElem?_setIfInBounds, hlb]) H' (by
      rw [e1, List.range'_succ, List.map_cons, List.zipIdx_cons, hget]
      rfl) (fun q hq => by rw [e2 q hq, Array.getElem?_setIfInBounds, if_neg (fun z => hq z.symm)])
    refine ⟨M', fun k => ?_, k2⟩
    have hst : ev_cp (n + 1) k M (a + 1 + i + t) (b + 1 + j + t) = ev_cp n k (em_up M (b + 1 + (j + t)) (ev_rd M (a + 1 + i + t))) (a + 1 + i + (t + 1)) (b + 1 + j + (t + 1)) := by
      show ev_f (ev_rd M (a + 1 + i + t)) (fun v => ev_wr M (b + 1 + j + t) v fun M2 => ev_f (Nat.succ (a + 1 + i + t)) fun a2 => ev_f (Nat.succ (b + 1 + j + t)) fun b2 => ev_cp n k M2 a2 b2) = _
      rw [ec_f, em_wr, ec_f, ec_f, show b + 1 + j + t = b + 1 + (j + t) by omega, show (b + 1 + (j + t)).succ = b + 1 + j + (t + 1) by omega, show (a + 1 + i + t).succ = a + 1 + i + (t + 1) by omega]
    rw [hst]
    exact k1 k
theorem ev_ckE : ∀ (n : Nat) (M : ev_M) (a : Nat), ev_ck n M a = true → ∀ q, q < n → ev_rd M (a + q) = 0 ∨ ev_rd M (a + q) = 4 ∨ (ev_rd M (a + q) % 4 = 2 ∧ (ev_rd M (a + q) / 4 % 64 ≤ 5 ∨ (8 ≤ ev_rd M (a + q) / 4 % 64 ∧ ev_rd M (a + q) / 4 % 64 ≤ 18))) := by
  intro n
  induction n with
  | zero => intro M a _ q hq; omega
  | succ n ih =>
    intro M a h q hq
    have h9 := Bool.and_eq_true_iff.mp h
    cases q with
    | zero =>
      have h8 := h9.1
      rw [ec_f, ex_shr2, show Nat.land (ev_rd M a / 4) 63 = ev_rd M a / 4 % 64 from em_lo _] at h8
      rw [Nat.add_zero]
      rcases Bool.or_eq_true_iff.mp h8 with z | z
      · exact Or.inl (ev_beqE.mp z)
      · rcases Bool.or_eq_true_iff.mp z with z | z
        · exact Or.inr (Or.inl (ev_beqE.mp z))
        · obtain ⟨z1, z2⟩ := Bool.and_eq_true_iff.mp z
          refine Or.inr (Or.inr ⟨(ev_tagE _ _).mp z1, ?_⟩)
          rcases Bool.or_eq_true_iff.mp z2 with z | z
          · exact Or.inl (Nat.le_of_ble_eq_true z)
          · obtain ⟨z1, z2⟩ := Bool.and_eq_true_iff.mp z
            exact Or.inr ⟨Nat.le_of_ble_eq_true z1, Nat.le_of_ble_eq_true z2⟩
    | succ q =>
      have := ih M (Nat.succ a) h9.2 q (by omega)
      rw [show a + (q + 1) = Nat.succ a + q by show _ = a + 1 + q; omega]
      exact this
theorem ek_codeEl {kd : Nat} (h : kd < 6) : ek_code (ek_el kd) ≤ 8 := by
  rcases (show kd = 0 ∨ kd = 1 ∨ kd = 2 ∨ kd = 3 ∨ kd = 4 ∨ kd = 5 by omega) with rfl | rfl | rfl | rfl | rfl | rfl <;> decide
section EH
variable {p : Program} {l : Launch} {e : Env} {R : Room} {s : State} {m : MethodId} {args : Array Value} {below : List Frame} {meth : Method} {c : Code} {Q : State → Prop} {Fin : Nat → ev_M → Nat → Nat → Nat → Prop}
variable {D : Nat → ClassId} {I : Nat → Nat → Nat} {al0 : Nat → Nat} {B0 : Nat → Nat → Nat → Prop} {nL : Nat}
variable {cd : ByteArray} {w pc L S top cc ss : Nat} {M : ev_M} {al : Nat → Nat} {B : Nat → Nat → Nat → Prop} {H : Heap} {ls : Array Slot} {stk : List Value} {locs : List Loc}
noncomputable def ib_acopy (own : String) (cd : ByteArray) (pc w x : Nat) : Bool := match decode cd pc, ex_TS[x]? with
  | .ok (.invokestatic idx, 3), some (.methodLink o i y) => decide (ev_len w = 3 ∧ (ev_b w ≤ 2 ∨ ev_b w = 5) ∧ o = own ∧ i = idx ∧ y = arraycopyName)
  | _, _ => false
theorem eh_acopy (hx : p.tables.exec = Jvm.exec) (hb : c.code = cd) {own : String} (hown : s.vm.findClass own = some m.cls) (hts : ∀ w ∈ ex_TS, w.before args s = true) (hK : ex_K D I al0 (ex_A al0 B0 s) s s.heap) (hml : c.maxLocals = nL) (hRm : 1 ≤ R.frames ∧ 2000 ≤ R.locals) {x : Nat} (hI : ib_acopy own cd pc w x = true) (h : ex_G p l e R s m args below meth c Q Fin D I al0 B0 nL (ev_o_acopy ev_C w pc L S M top cc ss)) (hc : ex_Cfg D I al0 B0 nL s al B M top L S ss H ls stk locs) : W p l e R s m args below meth c H locs cc ss Q (F0 m pc ls stk) := by
  refine ex_1i (S := S) (stk := stk) (al := al) (B := B) h hc.2.2.2.2.1 (fun n r1 S1 e1 hn h1 h => ex_1i h h1 (fun j r2 S2 e2 hj h2 h => ex_1r h h2 (fun b nb r3 S3 e3 hB h3 h => ex_1i h h3 (fun i r4 S4 e4 hi h4 h => ex_1r h h4 (fun a na r5 S5 e5 hA h5 h => ?_)))))
  subst e1; subst e2; subst e3; subst e4; subst e5
  refine ex_ite h (fun hb0 h => ?_) (fun _ h => ex_badG h)
  obtain ⟨q1, q2⟩ := Bool.and_eq_true_iff.mp hb0
  obtain ⟨q3, q4⟩ := Bool.and_eq_true_iff.mp q1
  obtain ⟨q5, q6⟩ := Bool.and_eq_true_iff.mp q3
  obtain ⟨q7, q8⟩ := Bool.and_eq_true_iff.mp q2
  obtain ⟨q9, q10⟩ := Bool.and_eq_true_iff.mp q8
  have hC : ev_C ≤ b := Nat.le_of_ble_eq_true q5
  have hwt := ex_wgt8 h5 q6
  have hab : a ≠ b := fun z => by
    rw [ev_beqE.mpr z] at q4
    cases q4
  unfold ib_acopy at hI
  split at hI
  next idx o ix y hd hw =>
    obtain ⟨i1, i2, rfl, rfl, rfl⟩ := of_decide_eq_true hI
    have hk6 : ev_b w < 6 := by omega
    obtain ⟨cs, c1, c2, c3, c4, -, c7, c8, c6⟩ := ex_cell hc hA (by omega)
    obtain ⟨cd', d1, d2, d3, d4, -, d7, d8, d6⟩ := ex_cell hc hB (by omega)
    obtain ⟨f1, f2⟩ := c4 (by omega)
    obtain ⟨g1, g2⟩ := d4 (by omega)
    rw [f1] at q7
    rw [g1] at q9
    have l1 : i + n ≤ na := Nat.le_of_ble_eq_true q7
    have l2 : j + n ≤ nb := Nat.le_of_ble_eq_true q9
    have z1 := nI_toInt (n := i) (by omega)
    have z2 := nI_toInt (n := j) (by omega)
    have z3 := nI_toInt (n := n) (by omega)
    have y1 : (nI i).toNatClampNeg = i := nI_clamp (by omega)
    have y2 : (nI j).toNatClampNeg = j := nI_clamp (by omega)
    have y3 : (nI n).toNatClampNeg = n := nI_clamp (by omega)
    obtain ⟨-, ka, hka, cm, hkk⟩ := (hK.1.2 (ev_b w) hk6).1 0 (fun _ => .null)
    have hka : s.vm.classes[D (ev_b w)]? = some ka := hka
    have hwd : ∀ q, q < n → cs.slots.getD (i + q) .null = eg_val al (eg_word M a (ev_b w) (i + q)) := by
      intro q hq
      have g3 := (c6 (i + q) (by omega)).2.2
      rw [show eg_ix I (ev_b w) (i + q) = i + q from if_pos (by omega)] at g3
      rw [Array.getD_eq_getD_getElem?, g3]; rfl
    intro T hT X
    obtain ⟨vm', X', step⟩ := X.arraycopy hx hown (hts _ (List.mem_of_getElem? hw)) (hts _ ek_ac.1) (hts _ ek_ac.2.1) (hts _ ek_ac.2.2) (src := al a) (dst := al b) (cs := cs) (cd := cd') (srcPos := nI i) (destPos := nI j) (n := nI n) (by rw [hT]; exact c1) (by rw [hT]; exact d1)
      (fun _ h => by rw [c3] at h; cases h) (fun _ h => by rw [d3] at h; cases h) (fun h => by rw [c3] at h; cases h) (fun h => by rw [d3] at h; cases h) (by rw [c2]; exact hka) (by rw [d2]; exact hka) hkk hkk (by simp) (nI_pos (by omega)) (nI_pos (by omega)) (nI_pos (by omega))
      (by rw [z1, z3, f2]; omega) (by rw [z2, z3, g2]; omega)
      (fun vm₁ hal q hq => by
        rw [y3] at hq
        rw [y1, hwd q hq]
        obtain ⟨w1, w2, -⟩ := c6 (i + q) (by omega)
        rw [show ek_d (ev_b w) (i + q) = ek_code (ek_el (ev_b w)) from if_pos (by omega)] at w2
        refine ⟨(eh_fit w1 (ek_codeEl hk6) w2).2, ?_⟩
        rcases i2 with i2 | i2
        · have ht : eg_word M a (ev_b w) (i + q) % 4 = 1 := by
            have hne : ek_code (ek_el (ev_b w)) ≠ 3 ∧ ek_code (ek_el (ev_b w)) ≠ 2 := by
              rcases (show ev_b w = 0 ∨ ev_b w = 1 ∨ ev_b w = 2 by omega) with z | z | z <;> rw [z] <;> decide
            unfold ev_ok at w2
            simp only [ec_c] at w2
            rw [if_neg (fun z => hne.1 (ev_beqE.mp z)), if_neg (fun z => hne.2 (ev_beqE.mp z))] at w2
            exact (ev_tagE _ _).mp (Bool.and_eq_true_iff.mp w2).1
          rw [eg_val_i _ ht]
          exact trivial
        · rw [i2] at q10
          have hck := ev_ckE n M _ q10 q hq
          have hwe : eg_word M a (ev_b w) (i + q) = 4 ∨ (eg_word M a (ev_b w) (i + q) % 4 = 2 ∧ (eg_word M a (ev_b w) (i + q) / 4 % 64 ≤ 5 ∨ (8 ≤ eg_word M a (ev_b w) (i + q) / 4 % 64 ∧ eg_word M a (ev_b w) (i + q) / 4 % 64 ≤ 18))) := by
            unfold eg_word
            rw [show eg_off (ev_b w) = 1 from if_pos (by omega), show a + 1 + (i + q) = Nat.succ (Nat.add a i) + q by show _ = a + i + 1 + q; omega, i2]
            rcases hck with z | z | z
            · rw [if_pos z]; exact Or.inl rfl
            · rw [if_neg (by rw [z]; decide)]; exact Or.inl z
            · rw [if_neg (by omega)]; exact Or.inr z
          rcases hwe with z | ⟨ht, hvk⟩
          · rw [z]; exact trivial
          · rw [eg_val_r _ ht]
            obtain ⟨nv, hBv⟩ : ∃ nn, B (eg_word M a (ev_b w) (i + q) / 256) (eg_word M a (ev_b w) (i + q) / 4 % 64) nn := by
              rcases w1.2 with z | z | z | z
              · omega
              · omega
              · exact z.2
              · omega
            obtain ⟨cv, v1, v2, v3, -⟩ := ex_cell hc hBv (by omega)
            have hcst := hK.2.1 _ (ek_castO (eg_word M a (ev_b w) (i + q) / 4 % 64) (by omega) (by omega))
            obtain ⟨c0, t1, p1, p2, p3⟩ := Cond.castable_spec hcst
            cases (ex_find hK.1 (kd := eg_word M a (ev_b w) (i + q) / 4 % 64) (by omega)).symm.trans p1
            obtain ⟨kv, hkv, -⟩ := Vm.findClass_spec p1
            have hRA := (hK.1.2 (ev_b w) hk6).2
            rw [i2] at hRA
            obtain ⟨kA, comp, r1, r2, r3, -⟩ := hRA
            have hka5 := hka
            have hkk5 := hkk
            rw [i2] at hka5 hkk5
            cases hka5.symm.trans r1
            cases hkk5.symm.trans r2
            cases r3.symm.trans p2
            obtain ⟨kE, hkE, -⟩ := Vm.findClass_spec p2
            obtain ⟨kC', hkC', -⟩ := hal.2.2 _ _ hkv
            obtain ⟨kE', hkE', -⟩ := hal.2.2 _ _ hkE
            refine ⟨cv, (show T.heap[_]? = some cv by rw [hT]; exact v1), (fun q h => by rw [v3] at h; cases h), ⟨kC', by rw [v2]; exact hkC'⟩, ⟨kE', hkE'⟩, ?_⟩
            show vm₁.assignable _ _ = true
            rw [hal.assignable, v2]
            exact p3)
      (g := F0 m pc ls (.int (nI n) :: .int (nI j) :: .ref (al b) :: .int (nI i) :: .ref (al a) :: r5)) rfl (by show ls.size = c.maxLocals; rw [hml]; exact hc.2.2.2.1.1) (rest := r5) rfl (by rw [hb]; exact hd) hRm.1 (by have := ek_acw; show 2 * 0 + _ + _ ≤ _; omega)
    have hlb : al b < H.size := eg_ltA d1
    have e1 : copied cs cd' (nI i) (nI j) (nI n) = cd'.storePairs j (((List.range' 0 n).map fun q => cs.slots.getD (i + q) .null).zipIdx 0) := by
      show cd'.storeRun (nI j).toNatClampNeg (cs.stretch (nI i).toNatClampNeg (nI n).toNatClampNeg) = _
      rw [y1, y2, y3]
      show cd'.storePairs j ((((List.range n).map fun q => cs.slots.getD (i + q) .null)).zipIdx) = _
      rw [List.range_eq_range']
    obtain ⟨M', k1, k2⟩ := eg_copy (cs := cs) (i := i) (j := j) (by omega) hA hB hab n 0 M H cd' hc.1 (by omega) (by omega) c1 d1 (H.setIfInBounds (al b) (copied cs cd' (nI i) (nI j) (nI n))) (by rw [e1]; simp [Array.getElem?_setIfInBounds, hlb]) (fun q hq => by simp [Array.getElem?_setIfInBounds, Ne.symm hq])
    have oq : ∀ q : Nat, q ≠ al b → (H.setIfInBounds (al b) (copied cs cd' (nI i) (nI j) (nI n)))[q]? = H[q]? := fun q hq => by simp [Array.getElem?_setIfInBounds, Ne.symm hq]
    have hS := hc.2.2.2.2.2.1
    have hAw := ex_Aw hc hB hC
    have k1 := k1 (fun M2 => ev_nx w pc L S5 M2 top cc ss)
    rw [Nat.add_zero, Nat.add_zero, show a + 1 + i = Nat.succ (Nat.add a i) by show _ = a + i + 1; omega, show b + 1 + j = Nat.succ (Nat.add b j) by show _ = b + j + 1; omega] at k1
    rw [k1] at h
    have k := ex_nx (H := H.setIfInBounds (al b) (copied cs cd' (nI i) (nI j) (nI n))) (al := al) (B := B) (ls := ls) (stk := r5) (locs := locs ++ (cs.stretch (nI i).toNatClampNeg (nI n).toNatClampNeg).zipIdx.map fun q => (⟨al b, (nI j).toNatClampNeg + q.2⟩ : Loc)) h
      ⟨k2, hc.2.1, hc.2.2.1, hc.2.2.2.1, h5, ⟨by simp; exact hS.1, fun q g1 g2 => by
        rw [oq q (fun e => g2 (by rw [e]; exact hAw))]
        exact hS.2.1 q g1 g2, fun q hq => by
        rcases List.mem_append.mp hq with h | h
        · exact hS.2.2 q h
        · obtain ⟨z, -, hz⟩ := List.mem_map.mp h
          rw [← hz]
          exact hAw⟩, by
        rw [← hc.2.2.2.2.2.2.1]
        refine eg_tot_same (by simp) (fun q => ?_)
        by_cases hq : q = al b
        · subst hq
          rw [d1, Array.getElem?_setIfInBounds, if_pos rfl, if_pos hlb]
          show some (copied cs cd' _ _ _).slots.size = some _
          rw [show (copied cs cd' (nI i) (nI j) (nI n)).slots.size = cd'.slots.size from (Cell.storeRun_facts _ _ _).2.2.1]
        · rw [oq q hq], hc.2.2.2.2.2.2.2⟩
    rw [i1] at k
    have hheap : ((T.setVm vm').setCell (al b) (copied cs cd' (nI i) (nI j) (nI n))).heap = H.setIfInBounds (al b) (copied cs cd' (nI i) (nI j) (nI n)) := by rw [← hT]; rfl
    obtain ⟨t, a1, b1⟩ := k _ hheap X'
    exact ⟨t, step t a1, b1⟩
  next => cases hI
end EH
