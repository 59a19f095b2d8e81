/-! THE END: where the law's argument is this script, the law's run makes 6720317 slots: the claim's frame allows 6706008 -/
theorem eo_tot {H H' : Heap} {N : Nat} (h2 : ((H'.toList.drop H.size).map (fun c : Cell => c.slots.size)).sum ≤ N) (h3 : ∀ (a : Nat) (c : Cell), H[a]? = some c → ∃ c' : Cell, H'[a]? = some c' ∧ c'.slots.size = c.slots.size) : eg_tot H' ≤ eg_tot H + N := by
  have e : H'.toList = H'.toList.take H.size ++ H'.toList.drop H.size := (List.take_append_drop _ _).symm
  have e2 : (H'.toList.take H.size).map (fun c : Cell => c.slots.size) = H.toList.map (fun c : Cell => c.slots.size) := by
    apply List.ext_getElem?
    intro i
    rw [List.getElem?_map, List.getElem?_map, List.getElem?_take]
    by_cases hi : i < H.size
    · rw [if_pos hi, Array.getElem?_toList, Array.getElem?_toList]
      have hc : H[i]? = some H[i] := Array.getElem?_eq_getElem hi
      obtain ⟨c', q1, q2⟩ := h3 i _ hc
      rw [hc, q1, Option.map_some, Option.map_some, q2]
    · rw [if_neg hi, Array.getElem?_toList, Array.getElem?_eq_none (by omega)]
  have e3 : eg_tot H' = ((H'.toList.take H.size).map (fun c : Cell => c.slots.size)).sum + ((H'.toList.drop H.size).map (fun c : Cell => c.slots.size)).sum := by
    show (H'.toList.map fun c : Cell => c.slots.size).sum = _
    rw [← List.sum_append, ← List.map_append, ← e]
  rw [e3, e2]
  exact Nat.add_le_add_left h2 _
theorem eo_fit (a : Nat) : (lg_sl [Value.ref a]).length ≤ 7 := Nat.le_of_ble_eq_true rfl
theorem eo_met {l : Launch} {D : Nat → ClassId} {I : Nat → Nat → Nat} {fr L0 top0 maxL v0 t0 c0 s0 f0 l0 : Nat} {y : MethodName} {bytes : ByteArray} {ret : Option FieldType} {M0 M2 : ev_M} {res : ev_St} {vs : List Value} {al : Nat → Nat} {B : Nat → Nat → Nat → Prop} {H : Heap} (h : em_P l D I fr y bytes maxL ret L0 M0 top0 res (ev_mk 0 0 L0 0 M0 top0 0 0)) (hres : res = ev_mk 1 0 0 v0 M2 t0 c0 s0) (hf : fr + 1 = f0) (hl : 2000 * (fr + 1) = l0)
    (hpl : plainName y.cls = true) (hav : ex_av al B vs L0) (hfit : (lg_sl vs).length ≤ maxL) (hR : eg_R D I al B M0 top0 H) (hcst : ∀ v ∈ ek_cst, eg_ok B v) (hC : ev_C ≤ top0) :
    Met l y (Cond.code y bytes maxL ret :: ex_TS) { frames := f0, cells := c0, slots := s0, locals := l0 } (ex_Pc D I al B H vs) (ex_Qc D I al B H ret v0 M2 t0 s0) c0 s0 (ex_A2 al B H.size) := by
  subst hres hf hl
  have k := em_PMet (l := l) (D := D) (I := I) (fr := fr) (res := ev_mk 1 0 0 v0 M2 t0 c0 s0) hpl h hav hfit hR hcst hC
  exact k
theorem eo_nle {a : Nat} (h : a + 6720317 ≤ a + 6706008) : False := by omega
theorem eo_not {l : Launch} {p : Program} {e : Env} {s : State} {m : MethodId} {args : Array Value} {below : List Frame} {D : Nat → ClassId} {I : Nat → Nat → Nat} {al : Nat → Nat} {B : Nat → Nat → Nat → Prop} (hflags : l.flags = flags0)
    (hs : AtStart classFile x code maxLocals ret World_1 tables_1 room_1 Calls_1 rest_1 Pre_1 l p e s m args below)
    (hroom : s.hasRoom e.platform { frames := 10, cells := 186337, slots := 6720317, locals := 20000 } = true) (hargs : args = #[Value.ref (al 230)]) (hR : eg_R D I al B em_m0 2112 s.heap) (hcst : ∀ v ∈ ek_cst, eg_ok B v) (hB : B 230 1 1864)
    (hK : ex_K D I al (ex_A2 al B s.heap.size) s s.heap) : ¬ Claimed_1_1 := by
  intro hcl
  obtain ⟨hL, hW, hadm, hleast, hcas, hclk, hfr, hfit, hheap, happ, hcalls, hrest, hpre⟩ := hs
  obtain ⟨n', o', w1', w2', w3', hp1, hF⟩ := hcl l hflags hL hW p e hadm hcas hclk s m args below hfr hfit hheap happ ⟨hcalls, hrest, hpre⟩
  obtain ⟨q1, q2, q3, q4, q5, q6, q7, q8⟩ := (Spec.appliesLoose_iff hfr).mp ((Spec.applies_iff_loose hfr).mp happ).1
  have hts0 := atoms_spec (ws := Cond.code x code maxLocals ret :: tables_1) q8
  have hts : ∀ w ∈ lw_tbl, w.before args s = true := k2_hts_sels lw_privs (fun w hw => hts0 w (List.mem_cons_of_mem _ hw)) lw_privs_ok
  have happ2 : (headSpec (Cond.code x code 7 ret :: ex_TS) { frames := 10, cells := 186337, slots := 6720317, locals := 20000 }).appliesLoose x e.platform s = true := (Spec.appliesLoose_iff hfr).mpr ⟨q1, q2, q3, q4, q5, q6, hroom, atoms_intro (fun w hw => by
    rcases List.mem_cons.mp hw with rfl | hw
    · exact hts0 _ List.mem_cons_self
    · exact hts w (ex_TSm hw).1)⟩
  have hav : ex_av al B [Value.ref (al 230)] 58886 := ⟨58886, 0, rfl, ⟨by decide, Or.inr (Or.inr (Or.inl ⟨by decide, 1864, hB⟩))⟩, rfl, rfl⟩
  have hM := eo_met (l := l) (D := D) (I := I) (vs := [Value.ref (al 230)]) (y := x) (f0 := 10) (l0 := 20000) (em_law (em_chkLE em_l)) rfl (by decide) (by decide) (by decide) hav (eo_fit _) hR hcst (by decide)
  obtain ⟨n, o, w1, w2, w3, hQ, -⟩ := hM p e hadm hcas hclk s m args below hfr happ2 ⟨hargs, rfl, hK⟩ trivial
  obtain ⟨rfl, rfl⟩ := the_end_unique w1 w3 w1' w3'
  obtain ⟨rv, al', B', z1, z2, z3, z4, z5, z6, z7, z8, z9⟩ := hQ
  obtain ⟨f1, f2, f3, f4, f6, f7⟩ := hF.2.2
  have h9 := eo_tot (H := s.heap) (H' := (stepsAlone p.tables e n s).heap) (N := 6706008) f6 (fun a c hc => by
    obtain ⟨c', g1, g2, g3, g4⟩ := f7 a c hc
    exact ⟨c', g1, g3⟩)
  rw [z8] at h9
  exact eo_nle h9
