/-! a method with a table of its own (the law's put and copy): called by its name, it returns -/
section EYS
variable {p : Program} {l : Launch} {e : Env} {R : Room} {s : State} {m : MethodId} {args : Array Value} {below : List Frame} {meth : Method} {c : Code} {T : State} {H : Heap} {locs : List Loc} {cells slots : Nat}
theorem ey_callSW (X : Stand p l e R s m args below meth c T locs cells slots) (hexec : p.tables.exec = Jvm.exec) {own : String} {index : Nat} {y : MethodName} {bytes : ByteArray} {maxL : Nat} {ret : Option FieldType} {hh : List (Nat × Nat × Nat × Nat)}
    (hown : s.vm.findClass own = some m.cls) (hlink : (Cond.methodLink own index y).before args s = true) (hstat : (Cond.static y).before args s = true) (hinit : (Cond.initialized y.cls).before args s = true)
    (hcode : (Cond.codeWith y bytes maxL ret hh).before args s = true) (hy : y.cls ≠ "java/lang/invoke/MethodHandle" ∧ y.cls ≠ "java/lang/invoke/VarHandle")
    {W9 : Nat} {Pre : Pt → Array Value → Prop} {Post : Pt → Array Value → Option Value → Pt → Prop} (hK : Back l R p e below s args y 3 W9 Pre Post)
    {g : JFrame} (hg : g.method = m) (hsize : g.locals.size = c.maxLocals) {argsL rest : List Value} (hlen : ∀ sig, parseMethodDescriptor y.desc = some sig → argsL.length = sig.parameters.length)
    (hstack : g.stack = argsL.reverse ++ rest) (hW : 2 * g.monitorRoom + (rest.map fun v => v.category).sum ≤ W9) (hdg : decode c.code g.pc = .ok (.invokestatic index, 3))
    (hpre : ∀ vm₁, s.WarmedH vm₁ → Pre ⟨T.setVm vm₁, locs, cells, slots⟩ argsL.toArray) :
    ∃ (v : Option Value) (vm₁ : Vm) (B : Pt), s.WarmedH vm₁ ∧ Stand p l e R s m args below meth c B.U B.locs B.cells B.slots ∧ Post ⟨T.setVm vm₁, locs, cells, slots⟩ argsL.toArray v B ∧
      ∀ target, Steps p.tables e below (B.U.setTop { g with pc := g.pc + 3, stack := v.toList ++ rest }) target → Steps p.tables e below (T.setTop g) target := by
  obtain ⟨mk, methM, cM, hnamed, hmethM, -, -, -, -, -, -, hsigM⟩ := Cond.codeWith_spec hcode
  have hstatic : methM.isStatic = true := Cond.static_spec hnamed hmethM hstat
  obtain ⟨kP, hkP, -⟩ := className_of_methodNamed hnamed
  have hinitP : kP.init = .initialized := Cond.initialized_spec (findClass_of_methodNamed hnamed) hkP hinit
  obtain ⟨vm₁, X₁, hstep₁⟩ := X.invokestatic hexec hown hlink hnamed hmethM hstatic hkP hinitP hy (g := g) hg (argsL := argsL) (rest := rest) (hlen _ hsigM) hstack hdg
  obtain ⟨v, B, X', hpost, hsteps⟩ := hK m meth c ⟨T.setVm vm₁, locs, cells, slots⟩ { g with stack := rest } (.invokestatic index) mk argsL.toArray X₁ hg hsize hdg hW (X₁.named hnamed) (hpre vm₁ X₁.warmed)
  exact ⟨v, vm₁, B, X₁.warmed, X', hpost, fun target h => hstep₁ _ fun acts => by rw [doInvoke_state]; exact hsteps.trans h⟩
theorem ey_runSW {y : MethodName} {bytes cc : ByteArray} {maxL nL mc ms n index : Nat} {ret : Option FieldType} {hh : List (Nat × Nat × Nat × Nat)} {ws : List Cond} {rm : Room} {Pc : Array Value → State → Prop} {Qc : Array Value → State → Outcome → State → Prop} {free : Addr → Prop} {Ts : List Cond} {own : String} {As rest : List Value} {g : JFrame}
    (S : CallFix p m c cc nL s args Ts own) (hM : Met l y ws rm Pc Qc mc ms free)
    (hrc : rm.cells = mc) (hrs : rm.slots = ms) (hfr : rm.frames + 1 ≤ R.frames) (hlo : 8 + (maxL + 11) + rm.locals ≤ R.locals) (hws : ∀ w ∈ ws, ∀ (a' : Array Value) (U : State), s.WarmedH U.vm → w.before a' U = true) (hcw : Cond.codeWith y bytes maxL ret hh ∈ ws)
    (hcode : (Cond.codeWith y bytes maxL ret hh).before args s = true) (hini : (Cond.initialized y.cls).before args s = true) (hy : y.cls ≠ "java/lang/invoke/MethodHandle" ∧ y.cls ≠ "java/lang/invoke/VarHandle") (hlen : ∀ sig, parseMethodDescriptor y.desc = some sig → n = sig.parameters.length)
    (hl : (Cond.methodLink own index y).before args s = true) (hstt : (Cond.static y).before args s = true) (hp : PreS s H Pc As)
    (hg : g.method = m) (hn : As.length = n) (hsize : g.locals.size = nL) (hstack : g.stack = As.reverse ++ rest) (hW : 2 * g.monitorRoom + (rest.map fun v => v.category).sum ≤ 8) (hdg : decode cc g.pc = .ok (.invokestatic index, 3)) (hf : cells + mc ≤ R.cells ∧ slots + ms ≤ R.slots) :
    va_Run p l e R s m args below meth c H locs cells slots mc ms g rest (Qc As.toArray) (free) := by
  have hK : Back l R p e below s args y 3 8 (PreOf R mc ms Pc) (PostOf Qc mc ms free) := va_backW (hh := hh) (bytes := bytes) (maxL := maxL) (ret := ret) hM hp.1 hrc hrs hfr hlo hws hcw (fun a' U hW => word_at hW (Or.inl (by first | rfl | simp [Cond.onTables, Cond.keeps, Cond.steady])) hini)
  obtain ⟨hx, hb, hml, ho, -⟩ := S
  intro T hT X
  obtain ⟨v, vm₁, ⟨U', l2, c2, s2⟩, hW₁, X', ⟨g', mk, t, L, e1, e2, hq, h1, hL, h2, h3⟩, st⟩ := ey_callSW X hx (hh := hh) (bytes := bytes) (maxL := maxL) (ret := ret) ho hl hstt hini hcode hy hK hg (hsize.trans hml.symm) (argsL := As) (rest := rest) (fun sig h => hn.trans (hlen sig h)) hstack hW (by rw [hb]; exact hdg)
    (fun vm₁ hW₁ => ⟨hf.1, hf.2, hp.2 (T.setVm vm₁) hT hW₁⟩)
  dsimp only [Pt.U, Pt.locs, Pt.cells, Pt.slots] at X' e1 e2 h1 h2 h3 st
  subst h1; subst h2; subst h3
  exact ⟨v, (T.setVm vm₁).calling g' mk As.toArray, t, U', L, hT, X', hL, e1, e2, hq, st⟩
end EYS
def ek_cw : List (Nat × Nat) := [(15, 777)]

noncomputable def ek_mw (i : Nat) : Option (MethodName × ByteArray × Nat × Option FieldType × List (Nat × Nat × Nat × Nat)) := match ek_cw.find? (fun q => Nat.beq q.1 i) with
  | some q => (match ex_TS[q.2]? with
    | some (.codeWith y b n r hh) => some (y, b, n, r, hh)
    | _ => none)
  | none => none
theorem ek_mwIn {i : Nat} {y : MethodName} {b : ByteArray} {n : Nat} {r : Option FieldType} {hh : List (Nat × Nat × Nat × Nat)} (h : ek_mw i = some (y, b, n, r, hh)) : Cond.codeWith y b n r hh ∈ ex_TS := by
  unfold ek_mw at h
  split at h
  · split at h
    next hw => cases h; exact List.mem_of_getElem? hw
    next => cases h
  · cases h
def ex_CalleeW (l : Launch) (D : Nat → ClassId) (I : Nat → Nat → Nat) (call : Nat → Nat → ev_M → Nat → ev_St) (fr : Nat) : Prop :=
  ∀ (i L : Nat) (M : ev_M) (top : Nat) (al : Nat → Nat) (B : Nat → Nat → Nat → Prop) (H : Heap) (vs : List Value) (y : MethodName) (bytes : ByteArray) (maxL : Nat) (ret : Option FieldType) (hh : List (Nat × Nat × Nat × Nat)), ek_mw i = some (y, bytes, maxL, ret, hh) →
    ex_av al B vs L → (lg_sl vs).length ≤ maxL → eg_R D I al B M top H → (∀ v ∈ ek_cst, eg_ok B v) → ev_C ≤ top → (call i L M top).1 = 1 →
    Met l y (Cond.codeWith y bytes maxL ret hh :: ex_TS) { frames := fr, cells := (call i L M top).2.2.2.2.2.2.1, slots := (call i L M top).2.2.2.2.2.2.2, locals := 2000 * fr } (ex_Pc D I al B H vs)
      (ex_Qc D I al B H ret (call i L M top).2.2.2.1 (call i L M top).2.2.2.2.1 (call i L M top).2.2.2.2.2.1 (call i L M top).2.2.2.2.2.2.2) (call i L M top).2.2.2.2.2.2.1 (call i L M top).2.2.2.2.2.2.2 (ex_A2 al B H.size)
theorem em_bodyW {l : Launch} {D : Nat → ClassId} {I : Nat → Nat → Nat} {call : Nat → Nat → ev_M → Nat → ev_St} {fr k i L top maxL : Nat} {M : ev_M} {res : ev_St} {al : Nat → Nat} {B : Nat → Nat → Nat → Prop} {H : Heap} {vs : List Value} {y : MethodName} {bytes : ByteArray} {ret : Option FieldType} {hh : List (Nat × Nat × Nat × Nat)} {xs : Nat → Nat} (hcal : ex_Callee l D I call fr)
    (hpl : plainName y.cls = true) (hok : em_ok y.cls y.name bytes ret maxL (ev_code i) xs) (hav : ex_av al B vs L) (hfit : (lg_sl vs).length ≤ maxL) (hR : eg_R D I al B M top H) (hcst : ∀ v ∈ ek_cst, eg_ok B v) (hC : ev_C ≤ top) (hres : ev_m1 k call i L M top = res) (h1 : res.1 = 1) :
    Met l y (Cond.codeWith y bytes maxL ret hh :: ex_TS) { frames := fr + 1, cells := res.2.2.2.2.2.2.1, slots := res.2.2.2.2.2.2.2, locals := 2000 * (fr + 1) } (ex_Pc D I al B H vs)
      (ex_Qc D I al B H ret res.2.2.2.1 res.2.2.2.2.1 res.2.2.2.2.2.1 res.2.2.2.2.2.2.2) res.2.2.2.2.2.2.1 res.2.2.2.2.2.2.2 (ex_A2 al B H.size) := by
  refine va_MetW (cc := bytes) (maxL := maxL) (ret := ret) (hh := hh) hpl rfl ?_
  intro p e s m args below meth c s₁ Bd hml hv
  obtain ⟨rfl, hH, hK⟩ := hv
  subst hH
  have hts0 := atoms_spec (ws := Cond.codeWith y bytes maxL ret hh :: ex_TS) Bd.pre
  have hin : meth.name = y.name := (name_of_methodNamed Bd.named Bd.method).1
  rw [lg_entry_eq]
  rw [← hin] at hok
  have hfin : ex_G p l e { frames := fr + 1, cells := res.2.2.2.2.2.2.1, slots := res.2.2.2.2.2.2.2, locals := 2000 * (fr + 1) } s m vs.toArray below meth c (MQ below (ex_Qc D I al B s.heap ret res.2.2.2.1 res.2.2.2.2.1 res.2.2.2.2.2.1 res.2.2.2.2.2.2.2) vs.toArray s res.2.2.2.2.2.2.1 res.2.2.2.2.2.2.2 (ex_A2 al B s.heap.size))
      (fun S' M' t' c' s' => S' = res.2.2.2.1 ∧ M' = res.2.2.2.2.1 ∧ t' = res.2.2.2.2.2.1 ∧ c' = res.2.2.2.2.2.2.1 ∧ s' = res.2.2.2.2.2.2.2) D I al B maxL res := ⟨fun z => absurd (h1.symm.trans z) (by decide), fun _ => ⟨⟨Nat.le_refl _, Nat.le_refl _⟩, rfl, rfl, rfl, rfl, rfl⟩, Or.inr h1⟩
  have hst := ex_run (own := y.cls) Bd.exec Bd.bytes (findClass_of_methodNamed Bd.named) (fun w hw => hts0 w (List.mem_cons_of_mem _ hw)) hK hml ⟨Nat.le_refl _, Nat.le_refl _⟩ hcst hcal (ex_hF (v := res.2.2.2.1) (M2 := res.2.2.2.2.1) (t2 := res.2.2.2.2.2.1) (c2 := res.2.2.2.2.2.2.1) (s2 := res.2.2.2.2.2.2.2) Bd.exec Bd.bytes Bd.returns Bd.notSynchronized) hok k (ev_mk 0 0 L 0 M top 0 0)
    (by rw [show ev_run ev_C ev_sw call (ev_code i) k (ev_mk 0 0 L 0 M top 0 0) = res from hres]; exact hfin)
  exact (hst.1 rfl).2 al B s.heap _ [] [] ⟨hR, eg_X.rf, fun b kd n h => Or.inl h, ex_entry hav hfit, rfl, va_S.rf, rfl, hC⟩
noncomputable def em_chkW (i N code : Nat) (xl : List (Nat × Nat)) : Bool := match ek_mw i with
  | none => true
  | some (y, b, n, r, _) => Bool.and (plainName y.cls) (Bool.and (Nat.beq (Nat.shiftRight code (Nat.mul 64 N)) 0) ((List.range N).all fun pc => Bool.or (Nat.beq (ev_w code pc % 128) 0) (ib_at y.cls y.name b r n pc (ev_w code pc) (em_x xl pc))))
theorem em_hi {code N pc : Nat} (h3 : Nat.beq (Nat.shiftRight code (Nat.mul 64 N)) 0 = true) (hp : ¬ pc < N) : ev_w code pc % 128 = 0 := by
  have h5 : code / 2 ^ (64 * N) = 0 := by
    have := ev_beqE.mp h3
    rw [show Nat.shiftRight code (Nat.mul 64 N) = code / 2 ^ (64 * N) from Nat.shiftRight_eq_div_pow _ _] at this
    exact this
  have h6 : code / 2 ^ (64 * pc) = 0 := by
    rw [show 64 * pc = 64 * N + 64 * (pc - N) by omega, Nat.pow_add, ← Nat.div_div_eq_div_mul, h5, Nat.zero_div]
  unfold ev_w
  rw [show Nat.shiftRight code (Nat.mul 64 pc) = code / 2 ^ (64 * pc) from Nat.shiftRight_eq_div_pow _ _, h6]
theorem em_chkWE {i N code : Nat} {xl : List (Nat × Nat)} (h : em_chkW i N code xl = true) {y : MethodName} {b : ByteArray} {n : Nat} {r : Option FieldType} {hh : List (Nat × Nat × Nat × Nat)} (hme : ek_mw i = some (y, b, n, r, hh)) : plainName y.cls = true ∧ ∃ xs, em_ok y.cls y.name b r n code xs := by
  unfold em_chkW at h
  rw [hme] at h
  obtain ⟨h1, h2⟩ := Bool.and_eq_true_iff.mp h
  obtain ⟨h3, h4⟩ := Bool.and_eq_true_iff.mp h2
  refine ⟨h1, em_x xl, fun pc => ?_⟩
  by_cases hp : pc < N
  · rcases Bool.or_eq_true_iff.mp (List.all_eq_true.mp h4 pc (List.mem_range.mpr hp)) with z | z
    · exact Or.inl (ev_beqE.mp z)
    · exact Or.inr z
  · exact Or.inl (em_hi h3 hp)
