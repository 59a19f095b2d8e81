/-! a run; a method -/
def ev_w (code pc : Nat) : Nat := Nat.mod (Nat.shiftRight code (Nat.mul 64 pc)) 18446744073709551616
def em_ok (own mn : String) (cd : ByteArray) (ret : Option FieldType) (nL code : Nat) (xs : Nat → Nat) : Prop := ∀ pc, ev_w code pc % 128 = 0 ∨ ib_at own mn cd ret nL pc (ev_w code pc) (xs pc) = true
theorem en_char {n : Nat} (h : n < 65536) : narrow .char (.int (nI n)) = .int (nI n) := by
  have h1 : (nI n).toUInt32.toUInt16.toUInt32 = (nI n).toUInt32 % 65536 := by simp
  have h2 := en_i2c (x := n) (by omega)
  rw [Nat.mod_eq_of_lt h] at h2
  show Value.int ((nI n).toUInt32.toUInt16.toUInt32.toInt32) = _
  rw [h1, h2]
section EH
variable {p : Program} {l : Launch} {e : Env} {R : Room} {s : State} {m : MethodId} {args : Array Value} {below : List Frame} {meth : Method} {c : Code} {Q : State → Prop} {Fin : Nat → ev_M → Nat → Nat → Nat → Prop}
variable {D : Nat → ClassId} {I : Nat → Nat → Nat} {al0 : Nat → Nat} {B0 : Nat → Nat → Nat → Prop} {nL : Nat}
variable {cd : ByteArray} {w pc L S top cc ss : Nat} {M : ev_M} {al : Nat → Nat} {B : Nat → Nat → Nat → Prop} {H : Heap} {ls : Array Slot} {stk : List Value} {locs : List Loc}
variable {call : Nat → Nat → ev_M → Nat → ev_St} {fr : Nat} {ret : Option FieldType}
theorem ex_step (hx : p.tables.exec = Jvm.exec) (hb : c.code = cd) {own : String} (hown : s.vm.findClass own = some m.cls) (hts : ∀ w ∈ ex_TS, w.before args s = true) (hK : ex_K D I al0 (ex_A al0 B0 s) s s.heap) (hml : c.maxLocals = nL) (hRR : fr + 1 ≤ R.frames ∧ 2000 * (fr + 1) ≤ R.locals) (hcst : ∀ v ∈ ek_cst, eg_ok B0 v) (hcal : ex_Callee l D I call fr) (hF : ex_HF p l e R s m args below meth c Q Fin D I al0 B0 nL cd ret) {code : Nat} {xs : Nat → Nat}
    (hok : em_ok own meth.name cd ret nL code xs) (st : ev_St) (h : ex_G p l e R s m args below meth c Q Fin D I al0 B0 nL (ev_step ev_C ev_sw call code st)) : ex_G p l e R s m args below meth c Q Fin D I al0 B0 nL st := by
  obtain ⟨stat, pc, L, S, M, top, cc, ss⟩ := st
  have h : ex_G p l e R s m args below meth c Q Fin D I al0 B0 nL (ev_c (Nat.beq stat 0) (ev_f (ev_w code pc) fun w => ev_f (Nat.land w 127) fun op => ev_do ev_C ev_sw call op w pc L S M top cc ss) (ev_mk stat pc L S M top cc ss)) := h
  by_cases hs : stat = 0
  · subst hs
    rw [ec_c, if_pos (show Nat.beq 0 0 = true from rfl), ec_f, ec_f, show Nat.land (ev_w code pc) 127 = ev_w code pc % 128 from Nat.and_two_pow_sub_one_eq_mod _ 7] at h
    refine ⟨fun _ => ⟨eb_do h, fun al B H ls stk locs hc => ?_⟩, fun z => absurd z (show ¬ (0 : Nat) = 1 by decide), Or.inl rfl⟩
    rcases hok pc with z | z
    · rw [z] at h
      exact ex_badG (M := M) h
    · exact ex_do hx hb hown hts hK hml hRR hcst hcal hF z h hc
  · rw [ec_c, if_neg (fun z => hs (ev_beqE.mp z))] at h
    exact h
theorem ex_run (hx : p.tables.exec = Jvm.exec) (hb : c.code = cd) {own : String} (hown : s.vm.findClass own = some m.cls) (hts : ∀ w ∈ ex_TS, w.before args s = true) (hK : ex_K D I al0 (ex_A al0 B0 s) s s.heap) (hml : c.maxLocals = nL) (hRR : fr + 1 ≤ R.frames ∧ 2000 * (fr + 1) ≤ R.locals) (hcst : ∀ v ∈ ek_cst, eg_ok B0 v) (hcal : ex_Callee l D I call fr) (hF : ex_HF p l e R s m args below meth c Q Fin D I al0 B0 nL cd ret) {code : Nat} {xs : Nat → Nat}
    (hok : em_ok own meth.name cd ret nL code xs) : ∀ (k : Nat) (st : ev_St), ex_G p l e R s m args below meth c Q Fin D I al0 B0 nL (ev_run ev_C ev_sw call code k st) → ex_G p l e R s m args below meth c Q Fin D I al0 B0 nL st := by
  intro k
  induction k with
  | zero => exact fun st h => ex_step hx hb hown hts hK hml hRR hcst hcal hF hok st h
  | succ k ih =>
    intro st h
    refine ih st ?_
    have h : ex_G p l e R s m args below meth c Q Fin D I al0 B0 nL (ev_un (ev_run ev_C ev_sw call code k st) fun stat pc L S M top c s => ev_c (Nat.beq stat 0) (ev_run ev_C ev_sw call code k (ev_mk stat pc L S M top c s)) (ev_mk stat pc L S M top c s)) := h
    rw [ec_un] at h
    exact ex_ite h (fun _ h => ih _ h) (fun _ h => h)
theorem ex_hF {al : Nat → Nat} {B : Nat → Nat → Nat → Prop} {v t2 c2 s2 : Nat} {M2 : ev_M} (hx : p.tables.exec = Jvm.exec) (hb : c.code = cd) (hr : meth.sig.returnType = ret) (hlocks : meth.locks = false) :
    ex_HF p l e R s m args below meth c (MQ below (ex_Qc D I al B s.heap ret v M2 t2 s2) args s c2 s2 (ex_A2 al B s.heap.size)) (fun S' M' t' c' s' => S' = v ∧ M' = M2 ∧ t' = t2 ∧ c' = c2 ∧ s' = s2) D I al B nL cd ret := by
  intro v' M' t' c' s' hf al' B' H' ls' stk' locs' L' S' pc' hc hcase
  obtain ⟨rfl, rfl, rfl, rfl, rfl⟩ := hf
  have hS := hc.2.2.2.2.2.1
  have post : ∀ (rv : Option Value), ((ret = none ∧ v' = 0 ∧ rv = none) ∨ (ret ≠ none ∧ eg_ok B' v' ∧ rv = some (eg_val al' v'))) → ∀ t : State, t.heap = H' → s.WarmedH t.vm → ex_Qc D I al B s.heap ret v' M' t' s' args s (.returned rv) t := by
    intro rv h1 t ht _
    exact ⟨rv, al', B', rfl, h1, hc.2.1, by rw [ht]; exact hc.1, hc.2.2.1, by rw [ht]; exact hS.1, fun q g1 g2 => by rw [ht]; exact hS.2.1 q g1 g2, by rw [ht]; exact hc.2.2.2.2.2.2.1, hc.2.2.2.2.2.2.2⟩
  have hfr : ∀ q ∈ locs', ex_A2 al B s.heap.size q.base := fun q hq => hS.2.2 q hq
  rcases hcase with ⟨h1, rfl, h3, h4⟩ | ⟨h1, rfl, ⟨h3, h4, h5⟩ | ⟨h3, h4, h5⟩ | ⟨h3, ⟨rt, h4, h6⟩, h5⟩⟩
  · exact W.vret hx hb (hr.trans h3) (post none (Or.inl ⟨h3, h1, rfl⟩)) hfr h4 hlocks
  · have hp := post (some (eg_val al' v')) (Or.inr ⟨by rcases h4 with z | z | z | z <;> first | (rw [z]; exact fun q => by cases q) | (rw [z.1]; exact fun q => by cases q), h1, rfl⟩)
    rw [eg_val_i _ h3] at hp ⊢
    rcases h4 with z | ⟨z, z2⟩ | ⟨z, z2⟩ | ⟨z, z2⟩
    · exact W.iret hx hb (hr.trans z) hp hfr h5 hlocks
    · exact W.zret hx hb (hr.trans z) (eh_small.2 _ (by omega)).1 hp hfr h5 hlocks
    · exact W.zret hx hb (hr.trans z) (en_char (by omega)) hp hfr h5 hlocks
    · exact W.zret hx hb (hr.trans z) (eh_small.1 _ (by omega)).1 hp hfr h5 hlocks
  · have hp := post (some (eg_val al' v')) (Or.inr ⟨(fun q => by rw [h4] at q; cases q), h1, rfl⟩)
    rw [eg_val_l _ h3] at hp ⊢
    exact W.lret hx hb (hr.trans h4) hp hfr h5 hlocks
  · have hp := post (some (eg_val al' v')) (Or.inr ⟨(fun q => by rw [h4] at q; cases q), h1, rfl⟩)
    have hrt : (∃ n, rt = .object n) ∨ ∃ t, rt = .array t := by
      cases rt with
      | object n => exact Or.inl ⟨n, rfl⟩
      | array t => exact Or.inr ⟨t, rfl⟩
      | _ => cases h6
    exact W.aret hx hb (hr.trans h4) hrt (by
      rcases h3 with z | z
      · exact Or.inr ⟨_, eg_val_r _ z⟩
      · rw [z]; exact Or.inl rfl) hp hfr h5 hlocks
end EH
/-- the locals at a method's start -/
theorem ex_av_wd {al : Nat → Nat} {B : Nat → Nat → Nat → Prop} : ∀ (vs : List Value) (L k : Nat), ex_av al B vs L → ∀ i, ew_wd L i ≠ 0 → eg_ok B (ew_wd L i) ∧ (k + i, eg_val al (ew_wd L i)) ∈ lv_args k vs
  | [], L, k, h, i, hi => by
    rw [show L = 0 from h, ew_wd0] at hi
    exact absurd rfl hi
  | v :: r, L, k, ⟨w, L2, e1, hw, e2, hr⟩, i, hi => by
    have hpos : 0 < ew_W := by decide
    have hwW := hw.1
    have low : ∀ y, L = w + ew_W * y → ew_wd L 0 = w ∧ ∀ j, ew_wd L (j + 1) = ew_wd y j := by
      intro y hy
      refine ⟨?_, fun j => ?_⟩
      · unfold ew_wd
        rw [Nat.pow_zero, Nat.div_one, hy, Nat.add_mul_mod_self_left, Nat.mod_eq_of_lt hwW]
      · unfold ew_wd
        rw [Nat.pow_succ', ← Nat.div_div_eq_div_mul, hy, Nat.add_mul_div_left _ _ hpos, Nat.div_eq_of_lt hwW, Nat.zero_add]
    have hcat : v.category = 2 ↔ w % 4 = 3 := by
      rw [e2]
      rcases hw.2 with z | z | z | z
      · rw [eg_val_i _ z.1]
        exact ⟨fun h => absurd h (by show ¬ (1 : Nat) = 2; decide), fun h => by omega⟩
      · rw [eg_val_l _ z.1]
        exact ⟨fun _ => z.1, fun _ => rfl⟩
      · rw [eg_val_r _ z.1]
        exact ⟨fun h => absurd h (by show ¬ (1 : Nat) = 2; decide), fun h => by omega⟩
      · subst z
        exact ⟨fun h => absurd h (by show ¬ (1 : Nat) = 2; decide), fun h => by omega⟩
    by_cases ht : w % 4 = 3
    · rw [if_pos ht, Nat.mul_assoc] at e1
      obtain ⟨l1, l2⟩ := low _ e1
      cases i with
      | zero =>
        rw [l1]
        exact ⟨hw, by rw [← e2]; exact List.mem_cons_self⟩
      | succ j =>
        rw [l2] at hi ⊢
        cases j with
        | zero =>
          exfalso
          apply hi
          unfold ew_wd
          rw [Nat.pow_zero, Nat.div_one, Nat.mul_mod_right]
        | succ j =>
          have e9 : ew_wd (ew_W * L2) (j + 1) = ew_wd L2 j := by
            unfold ew_wd
            rw [Nat.pow_succ', ← Nat.div_div_eq_div_mul, Nat.mul_div_cancel_left _ hpos]
          rw [e9] at hi ⊢
          have ih := ex_av_wd r L2 (k + 2) hr j hi
          refine ⟨ih.1, List.mem_cons_of_mem _ ?_⟩
          rw [if_pos (hcat.mpr ht), show k + (j + 1 + 1) = k + 2 + j by omega]
          exact ih.2
    · rw [if_neg ht] at e1
      obtain ⟨l1, l2⟩ := low _ e1
      cases i with
      | zero =>
        rw [l1]
        exact ⟨hw, by rw [← e2]; exact List.mem_cons_self⟩
      | succ j =>
        rw [l2] at hi ⊢
        have ih := ex_av_wd r L2 (k + 1) hr j hi
        refine ⟨ih.1, List.mem_cons_of_mem _ ?_⟩
        rw [if_neg (fun z => ht (hcat.mp z)), show k + (j + 1) = k + 1 + j by omega]
        exact ih.2
theorem ex_entry {al : Nat → Nat} {B : Nat → Nat → Nat → Prop} {vs : List Value} {L n : Nat} (h : ex_av al B vs L) (hl : (lg_sl vs).length ≤ n) : ex_loc n al B ((lg_sl vs ++ List.replicate (n - (lg_sl vs).length) Slot.unset).toArray) L := by
  obtain ⟨h1, h2, h3⟩ := lv_entry vs hl
  refine ⟨h1, h2, fun i hi => ?_⟩
  obtain ⟨g1, g2⟩ := ex_av_wd vs L 0 h i hi
  rw [Nat.zero_add] at g2
  exact ⟨g1, h3 _ g2⟩
/-- one depth more -/
noncomputable def ev_m1 (k : Nat) (call : Nat → Nat → ev_M → Nat → ev_St) (i L : Nat) (M : ev_M) (top : Nat) : ev_St := ev_run ev_C ev_sw call (ev_code i) k (ev_mk 0 0 L 0 M top 0 0)
theorem em_body {l : Launch} {D : Nat → ClassId} {I : Nat → Nat → Nat} {call : Nat → Nat → ev_M → Nat → ev_St} {fr k i L top maxL : Nat} {M : ev_M} {res : ev_St} {al : Nat → Nat} {B : Nat → Nat → Nat → Prop} {H : Heap} {vs : List Value} {y : MethodName} {bytes : ByteArray} {ret : Option FieldType} {xs : Nat → Nat} (hcal : ex_Callee l D I call fr)
    (hpl : plainName y.cls = true) (hok : em_ok y.cls y.name bytes ret maxL (ev_code i) xs) (hav : ex_av al B vs L) (hfit : (lg_sl vs).length ≤ maxL) (hR : eg_R D I al B M top H) (hcst : ∀ v ∈ ek_cst, eg_ok B v) (hC : ev_C ≤ top) (hres : ev_m1 k call i L M top = res) (h1 : res.1 = 1) :
    Met l y (Cond.code y bytes maxL ret :: ex_TS) { frames := fr + 1, cells := res.2.2.2.2.2.2.1, slots := res.2.2.2.2.2.2.2, locals := 2000 * (fr + 1) } (ex_Pc D I al B H vs)
      (ex_Qc D I al B H ret res.2.2.2.1 res.2.2.2.2.1 res.2.2.2.2.2.1 res.2.2.2.2.2.2.2) res.2.2.2.2.2.2.1 res.2.2.2.2.2.2.2 (ex_A2 al B H.size) := by
  refine Met.ofW (cc := bytes) (maxL := maxL) (ret := ret) hpl rfl ?_
  intro p e s m args below meth c s₁ Bd hml hv
  obtain ⟨rfl, hH, hK⟩ := hv
  subst hH
  have hts0 := atoms_spec (ws := Cond.code y bytes maxL ret :: ex_TS) Bd.pre
  have hin : meth.name = y.name := (name_of_methodNamed Bd.named Bd.method).1
  rw [lg_entry_eq]
  rw [← hin] at hok
  have hfin : ex_G p l e { frames := fr + 1, cells := res.2.2.2.2.2.2.1, slots := res.2.2.2.2.2.2.2, locals := 2000 * (fr + 1) } s m vs.toArray below meth c (MQ below (ex_Qc D I al B s.heap ret res.2.2.2.1 res.2.2.2.2.1 res.2.2.2.2.2.1 res.2.2.2.2.2.2.2) vs.toArray s res.2.2.2.2.2.2.1 res.2.2.2.2.2.2.2 (ex_A2 al B s.heap.size))
      (fun S' M' t' c' s' => S' = res.2.2.2.1 ∧ M' = res.2.2.2.2.1 ∧ t' = res.2.2.2.2.2.1 ∧ c' = res.2.2.2.2.2.2.1 ∧ s' = res.2.2.2.2.2.2.2) D I al B maxL res := ⟨fun z => absurd (h1.symm.trans z) (by decide), fun _ => ⟨⟨Nat.le_refl _, Nat.le_refl _⟩, rfl, rfl, rfl, rfl, rfl⟩, Or.inr h1⟩
  have hst := ex_run (own := y.cls) Bd.exec Bd.bytes (findClass_of_methodNamed Bd.named) (fun w hw => hts0 w (List.mem_cons_of_mem _ hw)) hK hml ⟨Nat.le_refl _, Nat.le_refl _⟩ hcst hcal (ex_hF (v := res.2.2.2.1) (M2 := res.2.2.2.2.1) (t2 := res.2.2.2.2.2.1) (c2 := res.2.2.2.2.2.2.1) (s2 := res.2.2.2.2.2.2.2) Bd.exec Bd.bytes Bd.returns Bd.notSynchronized) hok k (ev_mk 0 0 L 0 M top 0 0)
    (by rw [show ev_run ev_C ev_sw call (ev_code i) k (ev_mk 0 0 L 0 M top 0 0) = res from hres]; exact hfin)
  exact (hst.1 rfl).2 al B s.heap _ [] [] ⟨hR, eg_X.rf, fun b kd n h => Or.inl h, ex_entry hav hfit, rfl, va_S.rf, rfl, hC⟩
theorem em_callee {l : Launch} {D : Nat → ClassId} {I : Nat → Nat → Nat} {call : Nat → Nat → ev_M → Nat → ev_St} {fr k : Nat} (hcal : ex_Callee l D I call fr)
    (hall : ∀ (i : Nat) (y : MethodName) (b : ByteArray) (n : Nat) (r : Option FieldType), ek_me i = some (y, b, n, r) → plainName y.cls = true ∧ ∃ xs, em_ok y.cls y.name b r n (ev_code i) xs) :
    ex_Callee l D I (ev_m1 k call) (fr + 1) := by
  intro i L M top al B H vs y bytes maxL ret hme hav hfit hR hcst hC h1
  obtain ⟨hpl, xs, hok⟩ := hall i y bytes maxL ret hme
  exact em_body (xs := xs) hcal hpl hok hav hfit hR hcst hC rfl h1
