/-! a method's run in pieces of so many steps -/
noncomputable def ev_rs (call : Nat → Nat → ev_M → Nat → ev_St) (code : Nat) (ks : List Nat) : ev_St → ev_St := List.rec (motive := fun _ => ev_St → ev_St) (fun st => st) (fun k _ ih st => ih (ev_run ev_C ev_sw call code k st)) ks
section PP
variable {l : Launch} {D : Nat → ClassId} {I : Nat → Nat → Nat} {call : Nat → Nat → ev_M → Nat → ev_St} {fr i k L0 top0 maxL code : Nat} {y : MethodName} {bytes : ByteArray} {ret : Option FieldType} {M0 : ev_M} {res st st' : ev_St} {xs : Nat → Nat}
theorem em_Pr1 (hcal : ex_Callee l D I call fr) (hok : em_ok y.cls y.name bytes ret maxL code xs) (h : em_P l D I fr y bytes maxL ret L0 M0 top0 res (ev_run ev_C ev_sw call code k st)) : em_P l D I fr y bytes maxL ret L0 M0 top0 res st := by
  intro al0 B0 vs p e s m args below meth c hR hcst hav hC hx hb hown hts hK hml hret hlk hnm
  exact ex_run (own := y.cls) hx hb hown hts hK hml ⟨Nat.le_refl _, Nat.le_refl _⟩ hcst hcal (ex_hF (v := res.2.2.2.1) (M2 := res.2.2.2.2.1) (t2 := res.2.2.2.2.2.1) (c2 := res.2.2.2.2.2.2.1) (s2 := res.2.2.2.2.2.2.2) hx hb hret hlk) (by rw [hnm]; exact hok) k st
    (h al0 B0 vs p e s m args below meth c hR hcst hav hC hx hb hown hts hK hml hret hlk hnm)
theorem em_Pr1L (hcal : ex_Callee l D I call fr) (hcalW : ex_CalleeW l D I call fr) (hok : em_okL y.cls y.name bytes ret maxL code xs) (h : em_P l D I fr y bytes maxL ret L0 M0 top0 res (ev_run ev_C ev_sw call code k st)) : em_P l D I fr y bytes maxL ret L0 M0 top0 res st := by
  intro al0 B0 vs p e s m args below meth c hR hcst hav hC hx hb hown hts hK hml hret hlk hnm
  exact ex_runL (own := y.cls) hx hb hown hts hK hml ⟨Nat.le_refl _, Nat.le_refl _⟩ hcst hcal hcalW (ex_hF (v := res.2.2.2.1) (M2 := res.2.2.2.2.1) (t2 := res.2.2.2.2.2.1) (c2 := res.2.2.2.2.2.2.1) (s2 := res.2.2.2.2.2.2.2) hx hb hret hlk) (by rw [hnm]; exact hok) k st
    (h al0 B0 vs p e s m args below meth c hR hcst hav hC hx hb hown hts hK hml hret hlk hnm)
theorem em_Pr2 (hcal : ex_Callee l D I call fr) (hok : em_ok y.cls y.name bytes ret maxL code xs) : ∀ (ks : List Nat) (st : ev_St), em_P l D I fr y bytes maxL ret L0 M0 top0 res (ev_rs call code ks st) → em_P l D I fr y bytes maxL ret L0 M0 top0 res st
  | [], _, h => h
  | _ :: ks, _, h => em_Pr1 hcal hok (em_Pr2 hcal hok ks _ h)
theorem em_Pr2L (hcal : ex_Callee l D I call fr) (hcalW : ex_CalleeW l D I call fr) (hok : em_okL y.cls y.name bytes ret maxL code xs) : ∀ (ks : List Nat) (st : ev_St), em_P l D I fr y bytes maxL ret L0 M0 top0 res (ev_rs call code ks st) → em_P l D I fr y bytes maxL ret L0 M0 top0 res st
  | [], _, h => h
  | _ :: ks, _, h => em_Pr1L hcal hcalW hok (em_Pr2L hcal hcalW hok ks _ h)
theorem em_Prs {ks : List Nat} (hcal : ex_Callee l D I call fr) (hok : em_ok y.cls y.name bytes ret maxL code xs) (he : em_st (ev_rs call code ks st) st' = true) (h : em_P l D I fr y bytes maxL ret L0 M0 top0 res st') : em_P l D I fr y bytes maxL ret L0 M0 top0 res st := by
  rw [← em_stE he] at h
  exact em_Pr2 hcal hok ks st h
theorem em_PrsL {ks : List Nat} (hcal : ex_Callee l D I call fr) (hcalW : ex_CalleeW l D I call fr) (hok : em_okL y.cls y.name bytes ret maxL code xs) (he : em_st (ev_rs call code ks st) st' = true) (h : em_P l D I fr y bytes maxL ret L0 M0 top0 res st') : em_P l D I fr y bytes maxL ret L0 M0 top0 res st := by
  rw [← em_stE he] at h
  exact em_Pr2L hcal hcalW hok ks st h
end PP
