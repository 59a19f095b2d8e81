/-! the start: the witness' state, with this script for its row of ints and a plain object for the formatter; the claim is false there -/
abbrev so_s : State := sw1.about
theorem so_words : ∀ c ∈ (Cond.code x code maxLocals ret :: tables_1), c.before sw1.args0 so_s = true := sw1.words
set_option maxRecDepth 16384 in
theorem so_fit1 : argsFit so_s.vm ⟨0, 0⟩ sw1.args0 = true := by decide +kernel
def so_c0 : Cell := { cls := 49, slots := so_scr, vm := .none }
theorem so_len : so_ns.length = 1864 := by decide +kernel
theorem so_sz : so_scr.size = 1864 := by
  show (so_ns.map fun n => Value.int (Int32.ofNat n)).toArray.size = 1864
  rw [List.size_toArray, List.length_map, so_len]
theorem so_at {k n : Nat} (h : so_ns[k]? = some n) : so_scr[k]? = some (.int (Int32.ofNat n)) := by
  show (so_ns.map fun n => Value.int (Int32.ofNat n)).toArray[k]? = _
  rw [List.getElem?_toArray, List.getElem?_map, h]
  rfl
theorem so_ex {k : Nat} (h : k < 1864) : ∃ n, so_ns[k]? = some n := ⟨so_ns[k]'(by rw [so_len]; exact h), List.getElem?_eq_getElem _⟩
noncomputable def so_tl : List Cell := so_s.heap.toList.tail
set_option maxRecDepth 16384 in
theorem so_hl : so_s.heap.toList = so_c0 :: so_tl := rfl
theorem so_h0 : so_s.heap[0]? = some so_c0 := by
  rw [← Array.getElem?_toList, so_hl]
  rfl
set_option maxRecDepth 16384 in
theorem so_a0 : so_s.arrayAt? 0 = some so_c0 := by
  unfold State.arrayAt?
  rw [so_h0]
  rfl
theorem so_st (i : Nat) : so_s.slotType? 49 .none i = some .int := rfl
theorem so_fc : cellFits so_s so_c0 = true := by
  refine List.all_eq_true.mpr (fun i hi => ?_)
  have h1 : i < 1864 := by
    have := List.mem_range.mp hi
    rw [← so_sz]
    exact this
  obtain ⟨n, hn⟩ := so_ex h1
  have h2 : so_c0.slots[i]? = some (.int (Int32.ofNat n)) := so_at hn
  rw [h2]
  show so_s.fitsSlot 49 .none i (.int (Int32.ofNat n)) = true
  unfold State.fitsSlot
  rw [so_st]
  rfl
set_option maxRecDepth 16384 in
theorem so_ft : so_tl.all (cellFits so_s) = true := by decide +kernel
theorem so_fit2 : heapFits so_s = true := by
  show so_s.heap.all (cellFits so_s) = true
  rw [← Array.all_toList, so_hl, List.all_cons, so_fc, so_ft]
  rfl
theorem so_fold (f : Nat → Option Bool) : ∀ (q : List Nat), (∀ i ∈ q, f i = some true) → q.foldl (init := some true) (fun acc i => match acc with
    | some true => f i
    | x => x) = some true
  | [], _ => rfl
  | i :: q, h => by
    rw [List.foldl_cons]
    show List.foldl _ (f i) q = some true
    rw [h i List.mem_cons_self]
    exact so_fold f q (fun j hj => h j (List.mem_cons_of_mem _ hj))
theorem so_rv (i : Nat) (h1 : i < 1864) : (Cond.isInt (.elem (.arg 0) (.index 0))).value sw1.args0 so_s none so_s [i] = some true := by
  obtain ⟨n, hn⟩ := so_ex h1
  have h2 : so_c0.slots[i]? = some (.int (Int32.ofNat n)) := so_at hn
  have hi31 : i < 2 ^ 31 := by omega
  have hneg : ¬ (i.toInt32 < 0) := Int32.ofNat_not_neg hi31
  have hnat : i.toInt32.toNatClampNeg = i := by
    show (Int32.ofNat i).toInt.toNat = i
    rw [Int32.toInt_ofNat_small hi31]; rfl
  have ht : (Term.arg 0).eval sw1.args0 so_s none [i] so_s = some (.ref 0) := rfl
  simp [Cond.value, Term.eval, ht, so_a0, hneg, hnat, h2, sw1.args0]
set_option maxRecDepth 16384 in
theorem so_rst : rest_1_c.before sw1.args0 so_s = true := by
  have h1 : (Cond.isInt (.length (.arg 0))).value sw1.args0 so_s none so_s [] = some true := by
    have ht : (Term.arg 0).eval sw1.args0 so_s none [] so_s = some (.ref 0) := rfl
    have hs : so_c0.slots.size = 1864 := so_sz
    simp [Cond.value, Term.eval, ht, so_a0, hs, sw1.args0]
  have h2 : (Cond.all (.arg 0) (.isInt (.elem (.arg 0) (.index 0)))).value sw1.args0 so_s none so_s [] = some true := by
    show (match (Term.arg 0).eval sw1.args0 so_s none [] so_s with
      | some (.ref a) => (match so_s.arrayAt? a with
        | some ce => (List.range ce.slots.size).foldl (init := some true) fun acc i => match acc with
          | some true => (Cond.isInt (.elem (.arg 0) (.index 0))).value sw1.args0 so_s none so_s (i :: [])
          | x => x
        | none => none)
      | _ => none) = some true
    rw [show (Term.arg 0).eval sw1.args0 so_s none [] so_s = some (.ref 0) from rfl]
    show (match so_s.arrayAt? 0 with
        | some ce => (List.range ce.slots.size).foldl (init := some true) fun acc i => match acc with
          | some true => (Cond.isInt (.elem (.arg 0) (.index 0))).value sw1.args0 so_s none so_s (i :: [])
          | x => x
        | none => none) = some true
    rw [so_a0]
    exact so_fold (fun i => (Cond.isInt (.elem (.arg 0) (.index 0))).value sw1.args0 so_s none so_s (i :: [])) _ (fun i hi => so_rv i (by
      have := List.mem_range.mp hi
      rw [← so_sz]
      exact this))
  show ((Cond.and (.isInt (.length (.arg 0))) (.all (.arg 0) (.isInt (.elem (.arg 0) (.index 0))))).value sw1.args0 so_s none so_s [] == some true) = true
  simp only [Cond.value] at h1 h2 ⊢
  rw [h1, h2]
  rfl
set_option maxRecDepth 16384 in
theorem so_pre : (Cond.and given_1 narrow_1).before sw1.args0 so_s = true := by decide +kernel
set_option maxRecDepth 16384 in
theorem so_room1 : so_s.hasRoom sw1.e0.platform room_1 = true := launch0.hasRoom_least so_s room_1 (by decide +kernel) (by decide +kernel) (by decide +kernel) (by decide +kernel) (by decide +kernel) (by decide +kernel) (by decide +kernel)
set_option maxRecDepth 16384 in
theorem so_room2 : so_s.hasRoom sw1.e0.platform { frames := 10, cells := 186337, slots := 6720317, locals := 20000 } = true := launch0.hasRoom_least so_s { frames := 10, cells := 186337, slots := 6720317, locals := 20000 } (by decide +kernel) (by decide +kernel) (by decide +kernel) (by decide +kernel) (by decide +kernel) (by decide +kernel) (by decide +kernel)
set_option maxRecDepth 16384 in
theorem so_app : (headSpec (Cond.code x code maxLocals ret :: tables_1) room_1).applies x sw1.e0.platform so_s = true :=
  (Spec.applies_iff (m := ⟨0, 0⟩) (args := sw1.args0) (below := Lib.HandBits.below0) rfl).mpr ⟨rfl, rfl, rfl, by decide +kernel, by decide +kernel, by decide +kernel, so_room1, atoms_intro so_words⟩
theorem so_start : AtStart classFile x code maxLocals ret World_1 tables_1 room_1 Calls_1 rest_1 Pre_1 launch0 sw1.p0 sw1.e0 so_s ⟨0, 0⟩ sw1.args0 Lib.HandBits.below0 :=
  ⟨cw_lists, trivial, launch0.admits_env _ _ _, launch0.least_env, fairChoices_fair.cas, fairChoices_fair.clock, rfl, so_fit1, so_fit2, so_app, trivial, so_rst, so_pre⟩
/-- the cells of before: base, kind, places, address -/
def so_B : List (Nat × Nat × Nat × Nat) := [(8, 5, 0, 10), (9, 0, 100, 9), (110, 0, 100, 8), (211, 19, 1, 308), (212, 19, 1, 309), (213, 0, 0, 303), (214, 8, 4, 302), (218, 0, 1, 305), (220, 8, 4, 304), (224, 0, 1, 307), (226, 8, 4, 306), (230, 1, 1864, 0)]
def so_al (b : Nat) : Nat := match so_B.find? (fun q => Nat.beq q.1 b) with
  | some q => q.2.2.2
  | none => 0
def so_BP (b kd n : Nat) : Prop := ∃ q ∈ so_B, q.1 = b ∧ q.2.1 = kd ∧ q.2.2.1 = n
def so_D (kd : Nat) : ClassId := if kd = 0 then 51 else if kd = 1 then 49 else if kd = 2 then 53 else if kd = 3 then 54 else if kd = 4 then 55 else if kd = 5 then 56 else (so_s.vm.findClass (ek_nm kd)).getD 0
def so_sl (C f d : String) : Nat := match so_s.fieldFound? C f d with
  | some q => q.2.2.2.slot
  | none => 0
def so_I (kd k : Nat) : Nat := so_sl (ek_T kd k).1 (ek_T kd k).2.1 (ek_T kd k).2.2.1
theorem so_slE {C f d : String} (h : (so_s.fieldFound? C f d).isSome = true) : SlotIs so_s C f d (so_sl C f d) := by
  cases hf : so_s.fieldFound? C f d with
  | none => rw [hf] at h; cases h
  | some q =>
    obtain ⟨a, b, c, e⟩ := q
    exact ⟨a, b, c, e, hf, by unfold so_sl; rw [hf]⟩
def so_cl (C : String) (c : Nat) : Bool := match so_s.vm.findClass C with
  | some n => Bool.and (Nat.beq n c) (match so_s.vm.classes[c]? with
    | some k => (match k.kind with
      | .ordinary => true
      | _ => false)
    | none => false)
  | none => false
theorem so_clE {C : String} {c : Nat} (h : so_cl C c = true) : ClassAt so_s C c := by
  unfold so_cl at h
  split at h
  next n hn =>
    obtain ⟨h1, h2⟩ := Bool.and_eq_true_iff.mp h
    have e := ev_beqE.mp h1
    subst e
    split at h2
    next k hk =>
      split at h2
      next hkk => exact ⟨hn, k, hk, hkk⟩
      next => cases h2
    next => cases h2
  next => cases h
set_option maxRecDepth 16384 in
theorem so_kn : ((List.range 11).all fun j => Bool.and (so_cl (ek_nm (j + 8)) (so_D (j + 8))) ((List.range (ek_N (j + 8))).all fun k => (so_s.fieldFound? (ek_T (j + 8) k).1 (ek_T (j + 8) k).2.1 (ek_T (j + 8) k).2.2.1).isSome)) = true := by decide +kernel
theorem so_knE (kd : Nat) (h1 : 8 ≤ kd) (h2 : kd < 19) : u_Kn so_s (ek_nm kd) (ek_T kd) (ek_N kd) (so_D kd) (so_I kd) := by
  have h := List.all_eq_true.mp so_kn (kd - 8) (List.mem_range.mpr (by omega))
  rw [show kd - 8 + 8 = kd by omega] at h
  obtain ⟨h3, h4⟩ := Bool.and_eq_true_iff.mp h
  exact ⟨fun k hk => so_slE (List.all_eq_true.mp h4 k (List.mem_range.mpr hk)), so_clE h3⟩
def so_ar (cA : Nat) (ty : FieldType) : Bool := match so_s.vm.classes[cA]? with
  | some k => (match k.kind with
    | .array _ t => decide (t = ty)
    | _ => false)
  | none => false
theorem so_arE {cA : Nat} {ty : FieldType} (h : so_ar cA ty = true) : ArrOfT so_s cA ty := by
  unfold so_ar at h
  split at h
  next k hk =>
    split at h
    next comp t hkk =>
      have e := of_decide_eq_true h
      subst e
      exact fun n z => ⟨(fun q hq => by cases hq), k, hk, comp, hkk⟩
    next => cases h
  next => cases h
def so_ra (cA : Nat) (C : String) : Bool := match so_s.vm.classes[cA]? with
  | some k => (match k.kind with
    | .array comp t => Bool.and (decide (t = .object C)) (Bool.and (decide (so_s.vm.findClass C = some comp)) (decide (so_s.vm.findClass ("[" ++ (FieldType.object C).toString) = some cA)))
    | _ => false)
  | none => false
theorem so_raE {cA : Nat} {C : String} (h : so_ra cA C = true) : va_RA so_s cA (.object C) := by
  unfold so_ra at h
  split at h
  next k hk =>
    split at h
    next comp t hkk =>
      obtain ⟨h1, h2⟩ := Bool.and_eq_true_iff.mp h
      obtain ⟨h3, h4⟩ := Bool.and_eq_true_iff.mp h2
      have e := of_decide_eq_true h1
      subst e
      exact ⟨k, comp, hk, hkk, of_decide_eq_true h3, of_decide_eq_true h4⟩
    next => cases h
  next => cases h
set_option maxRecDepth 16384 in
theorem so_arr (kd : Nat) (h : kd < 6) : ArrOfT so_s (so_D kd) (ek_el kd) ∧ va_RA so_s (so_D kd) (ek_el kd) := by
  rcases (show kd = 0 ∨ kd = 1 ∨ kd = 2 ∨ kd = 3 ∨ kd = 4 ∨ kd = 5 by omega) with rfl | rfl | rfl | rfl | rfl | rfl
  · exact ⟨so_arE (cA := 51) (ty := .byte) (by decide +kernel), (show so_s.vm.findClass ("[" ++ FieldType.byte.toString) = some 51 by decide +kernel)⟩
  · exact ⟨so_arE (cA := 49) (ty := .int) (by decide +kernel), (show so_s.vm.findClass ("[" ++ FieldType.int.toString) = some 49 by decide +kernel)⟩
  · exact ⟨so_arE (cA := 53) (ty := .boolean) (by decide +kernel), (show so_s.vm.findClass ("[" ++ FieldType.boolean.toString) = some 53 by decide +kernel)⟩
  · exact ⟨so_arE (cA := 54) (ty := .object "Setsalike$Things") (by decide +kernel), so_raE (cA := 54) (C := "Setsalike$Things") (by decide +kernel)⟩
  · exact ⟨so_arE (cA := 55) (ty := .object "Setsalike$Walk") (by decide +kernel), so_raE (cA := 55) (C := "Setsalike$Walk") (by decide +kernel)⟩
  · exact ⟨so_arE (cA := 56) (ty := .object "java/lang/Object") (by decide +kernel), so_raE (cA := 56) (C := "java/lang/Object") (by decide +kernel)⟩
/-- a word may stand -/
noncomputable def so_okb (w : Nat) : Bool := Bool.and (decide (w < ew_W)) (Bool.or (decide (w % 4 = 1 ∧ w / 4 < 4294967296)) (Bool.or (decide (w % 4 = 3 ∧ w / 4 < 18446744073709551616)) (Bool.or (Bool.and (decide (w % 4 = 2)) (so_B.any fun q => decide (q.1 = w / 256 ∧ q.2.1 = w / 4 % 64))) (decide (w = 4)))))
theorem so_okE {w : Nat} (h : so_okb w = true) : eg_ok so_BP w := by
  obtain ⟨h1, h2⟩ := Bool.and_eq_true_iff.mp h
  refine ⟨of_decide_eq_true h1, ?_⟩
  rcases Bool.or_eq_true_iff.mp h2 with q | q
  · exact Or.inl (of_decide_eq_true q)
  · rcases Bool.or_eq_true_iff.mp q with q | q
    · exact Or.inr (Or.inl (of_decide_eq_true q))
    · rcases Bool.or_eq_true_iff.mp q with q | q
      · obtain ⟨q1, q2⟩ := Bool.and_eq_true_iff.mp q
        obtain ⟨z, z1, z2⟩ := List.any_eq_true.mp q2
        obtain ⟨z3, z4⟩ := of_decide_eq_true z2
        exact Or.inr (Or.inr (Or.inl ⟨of_decide_eq_true q1, z.2.2.1, z, z1, z3, z4, rfl⟩))
      · exact Or.inr (Or.inr (Or.inr (of_decide_eq_true q)))
noncomputable def so_ck (q : Nat × Nat × Nat × Nat) : Bool := match so_s.heap[q.2.2.2]? with
  | none => false
  | some ce => Bool.and (decide (so_al q.1 = q.2.2.2)) (Bool.or (decide (q.2.1 = 19)) (Bool.and (decide (ce.cls = so_D q.2.1)) (Bool.and (match ce.vm with
    | .none => true
    | _ => false) (Bool.and (decide (q.2.1 < 8 → ev_rd em_m0 q.1 = q.2.2.1 + 1 ∧ ce.slots.size = q.2.2.1)) (Bool.and (decide (¬ q.2.1 < 8 → q.2.2.1 = ek_N q.2.1)) ((List.range q.2.2.1).all fun k => Bool.and (so_okb (eg_word em_m0 q.1 q.2.1 k)) (Bool.and (ev_ok (ek_d q.2.1 k) (eg_word em_m0 q.1 q.2.1 k)) (decide (ce.slots[eg_ix so_I q.2.1 k]? = some (eg_val so_al (eg_word em_m0 q.1 q.2.1 k)))))))))))
theorem so_ckE {b kd n a : Nat} (h : so_ck (b, kd, n, a) = true) : eg_at so_D so_I so_al so_BP em_m0 b kd n so_s.heap := by
  unfold so_ck at h
  split at h
  next => cases h
  next ce hc =>
    obtain ⟨h0, h⟩ := Bool.and_eq_true_iff.mp h
    have e0 : so_al b = a := of_decide_eq_true h0
    refine ⟨ce, by rw [e0]; exact hc, ?_⟩
    rcases Bool.or_eq_true_iff.mp h with h | h
    · exact Or.inl (of_decide_eq_true h)
    · right
      obtain ⟨h1, h⟩ := Bool.and_eq_true_iff.mp h
      obtain ⟨h2, h⟩ := Bool.and_eq_true_iff.mp h
      obtain ⟨h3, h⟩ := Bool.and_eq_true_iff.mp h
      obtain ⟨h4, h5⟩ := Bool.and_eq_true_iff.mp h
      refine ⟨of_decide_eq_true h1, ?_, of_decide_eq_true h3, of_decide_eq_true h4, fun k hk => ?_⟩
      · split at h2
        next hv => exact hv
        next => cases h2
      · obtain ⟨g1, g2⟩ := Bool.and_eq_true_iff.mp (List.all_eq_true.mp h5 k (List.mem_range.mpr hk))
        obtain ⟨g3, g4⟩ := Bool.and_eq_true_iff.mp g2
        exact ⟨so_okE g1, g3, of_decide_eq_true g4⟩
set_option maxRecDepth 16384 in
theorem so_cks : ((so_B.take 11).all so_ck) = true := by decide +kernel
/-- the script's words, one after the other -/
noncomputable def so_walk (q : List Nat) : Nat → Bool := List.rec (motive := fun _ => Nat → Bool) (fun _ => true) (fun n _ ih a => Bool.and (Bool.and (Nat.beq (ev_rd em_m0 a) (Nat.succ (Nat.mul 4 n))) (Nat.ble n 100000)) (ih (Nat.succ a))) q
theorem so_walkE : ∀ (q : List Nat) (a : Nat), so_walk q a = true → ∀ (k n : Nat), q[k]? = some n → ev_rd em_m0 (a + k) = 4 * n + 1 ∧ n ≤ 100000
  | [], _, _, k, n, h => by rw [List.getElem?_nil] at h; cases h
  | m :: q, a, hw, k, n, h => by
    obtain ⟨h1, h2⟩ := Bool.and_eq_true_iff.mp (show Bool.and (Bool.and (Nat.beq (ev_rd em_m0 a) (Nat.succ (Nat.mul 4 m))) (Nat.ble m 100000)) (so_walk q (Nat.succ a)) = true from hw)
    cases k with
    | zero =>
      rw [List.getElem?_cons_zero] at h
      cases h
      obtain ⟨h3, h4⟩ := Bool.and_eq_true_iff.mp h1
      exact ⟨ev_beqE.mp h3, Nat.le_of_ble_eq_true h4⟩
    | succ k =>
      rw [List.getElem?_cons_succ] at h
      have := so_walkE q (Nat.succ a) h2 k n h
      rw [show a + (k + 1) = Nat.succ a + k by omega]
      exact this
set_option maxRecDepth 16384 in
theorem so_wk : so_walk so_ns 231 = true := by decide +kernel
theorem so_ok0 {n : Nat} (h : n ≤ 100000) : eg_ok so_BP (4 * n + 1) ∧ (4 * n + 1) % 4 = 1 := ⟨⟨by
  have : (100000 : Nat) * 4 + 1 < ew_W := by decide
  omega, Or.inl ⟨by omega, by omega⟩⟩, by omega⟩
theorem so_b0 : ev_rd em_m0 230 = 1865 := ev_beqE.mp (show Nat.beq (ev_rd em_m0 230) 1865 = true by decide +kernel)
theorem so_atS : eg_at so_D so_I so_al so_BP em_m0 230 1 1864 so_s.heap := by
  refine ⟨so_c0, so_h0, Or.inr ⟨rfl, rfl, fun _ => ⟨so_b0, so_sz⟩, fun h => absurd (show (1 : Nat) < 8 by decide) h, fun k hk => ?_⟩⟩
  obtain ⟨n, hn⟩ := so_ex hk
  obtain ⟨h1, h2⟩ := so_walkE so_ns 231 so_wk k n hn
  have hw : eg_word em_m0 230 1 k = 4 * n + 1 := by
    unfold eg_word
    rw [show 230 + eg_off 1 + k = 231 + k from rfl, h1, if_neg (by omega)]
  obtain ⟨h3, h4⟩ := so_ok0 h2
  rw [hw]
  refine ⟨h3, ?_, ?_⟩
  · show Bool.and (ev_tag (4 * n + 1) 1) true = true
    rw [(ev_tagE _ _).mpr h4]
    rfl
  · rw [eg_val_i _ h4, show (4 * n + 1) / 4 = n by omega]
    exact so_at hn
theorem so_mem {q : Nat × Nat × Nat × Nat} (h : q ∈ so_B) : q ∈ so_B.take 11 ∨ q = (230, 1, 1864, 0) := by
  have e : so_B = so_B.take 11 ++ [(230, 1, 1864, 0)] := rfl
  rw [e] at h
  rcases List.mem_append.mp h with z | z
  · exact Or.inl z
  · exact Or.inr (List.mem_singleton.mp z)
theorem so_apart : (so_B.all fun q => so_B.all fun r => decide (q.1 = r.1 ∨ ((q.1 + eg_off q.2.1 + q.2.2.1 ≤ r.1 ∨ r.1 + eg_off r.2.1 + r.2.2.1 ≤ q.1) ∧ so_al q.1 ≠ so_al r.1))) = true := by decide +kernel
theorem so_same : (so_B.all fun q => so_B.all fun r => decide (q.1 = r.1 → q.2.1 = r.2.1 ∧ q.2.2.1 = r.2.2.1)) = true := by decide +kernel
theorem so_in : (so_B.all fun q => decide (q.1 + eg_off q.2.1 + q.2.2.1 ≤ 2112 ∧ q.1 < 2112 ∧ q.2.1 < 64)) = true := by decide +kernel
set_option maxRecDepth 16384 in
theorem so_zero : ((List.range 479).all fun j => Nat.beq (ev_tg 9 em_m0 (j + 33)) 0) = true := by decide +kernel
theorem so_R : eg_R so_D so_I so_al so_BP em_m0 2112 so_s.heap := by
  refine ⟨?_, ?_, ?_, ?_, ?_, by decide⟩
  · rintro b kd n ⟨⟨b', kd', n', a⟩, hq, rfl, rfl, rfl⟩
    rcases so_mem hq with z | z
    · exact so_ckE (List.all_eq_true.mp so_cks _ z)
    · cases z
      exact so_atS
  · rintro b kd n b' kd' n' ⟨q, hq, rfl, rfl, rfl⟩ ⟨r, hr, rfl, rfl, rfl⟩
    exact of_decide_eq_true (List.all_eq_true.mp (List.all_eq_true.mp so_apart q hq) r hr)
  · rintro b kd n kd' n' ⟨q, hq, rfl, rfl, rfl⟩ ⟨r, hr, h, rfl, rfl⟩
    exact of_decide_eq_true (List.all_eq_true.mp (List.all_eq_true.mp so_same q hq) r hr) h.symm
  · rintro b kd n ⟨q, hq, rfl, rfl, rfl⟩
    exact of_decide_eq_true (List.all_eq_true.mp so_in q hq)
  · intro a h1 h2
    have h3 := ev_beqE.mp (List.all_eq_true.mp so_zero (a / 64 - 33) (List.mem_range.mpr (by omega)))
    have e : Nat.shiftRight a 6 = a / 64 - 33 + 33 := by
      rw [show Nat.shiftRight a 6 = a / 64 from Nat.shiftRight_eq_div_pow a 6]
      omega
    unfold ev_rd
    rw [e, h3]
    show Nat.mod (Nat.shiftRight 0 _) _ = 0
    rw [show ∀ k, Nat.shiftRight 0 k = 0 from fun k => Nat.zero_shiftRight k]
theorem so_cst : ∀ v ∈ ek_cst, eg_ok so_BP v := by
  have h : ek_cst.all so_okb = true := by decide +kernel
  exact fun v hv => so_okE (List.all_eq_true.mp h v hv)
def so_z (C n d : String) (v : Value) : Bool := match so_s.fieldFound? C n d with
  | some (_, kf, _, f) => Bool.and f.isStatic (Bool.and (match kf.init with
    | .initialized => true
    | _ => false) (match kf.statics with
    | some a => Bool.and (decide (a < so_s.heap.size)) (match so_s.heap[a]? with
      | some ce => Bool.and ce.vm.isStatics (decide (ce.slots[f.slot]? = some v))
      | none => false)
    | none => false))
  | none => false
theorem so_zE {C n d : String} {v : Value} (h : so_z C n d v = true) : va_Z C n d v (ex_A2 so_al so_BP so_s.heap.size) so_s so_s.heap := by
  unfold so_z at h
  split at h
  next cf kf fi f hf =>
    obtain ⟨h1, h⟩ := Bool.and_eq_true_iff.mp h
    obtain ⟨h2, h⟩ := Bool.and_eq_true_iff.mp h
    split at h
    next a ha =>
      obtain ⟨h3, h⟩ := Bool.and_eq_true_iff.mp h
      split at h
      next ce hc =>
        obtain ⟨h4, h5⟩ := Bool.and_eq_true_iff.mp h
        refine ⟨cf, kf, fi, f, a, ce, hf, h1, ?_, ha, hc, h4, of_decide_eq_true h5, ?_⟩
        · split at h2
          next hi => exact hi
          next => cases h2
        · rintro (⟨b, kd, n', ⟨q, hq, rfl, rfl, rfl⟩, g2, g3⟩ | g)
          · have := of_decide_eq_true (List.all_eq_true.mp so_in q hq)
            have g4 : (2112 : Nat) ≤ q.1 := g2
            omega
          · exact absurd g (Nat.not_le.mpr (of_decide_eq_true h3))
      next => cases h
    next => cases h
  next => cases h
set_option maxRecDepth 16384 in
theorem so_zs : (ek_st.all fun q => so_z q.1 q.2.1 q.2.2.1 (eg_val so_al q.2.2.2)) = true := by decide +kernel
set_option maxRecDepth 16384 in
theorem so_strs : (ek_str.all fun q => Bool.and ((Cond.stringRef q.1 q.2.1 q.2.2.1).before #[] so_s) (decide ((Term.string q.1 q.2.1).eval #[] so_s none [] so_s = some (.ref (so_al (q.2.2.2 / 256)))))) = true := by decide +kernel
set_option maxRecDepth 16384 in
theorem so_ao : (["Setsalike$Things", "Setsalike$Walk", "java/lang/Object"].all fun C => (Cond.arrayOver (.object C)).before #[] so_s) = true := by decide +kernel
def so_mi (C : String) (a : Nat) : Bool := match so_s.vm.findClass C with
  | some c => (match so_s.vm.classes[c]? with
    | some k => decide (k.mirror = some a)
    | none => false)
  | none => false
theorem so_miE {C : String} {a : Nat} (h : so_mi C a = true) : va_Mi C a so_s := by
  unfold so_mi at h
  split at h
  next c hc =>
    split at h
    next k hk => exact ⟨c, k, hc, hk, of_decide_eq_true h⟩
    next => cases h
  next => cases h
theorem so_nwT {w : Cond} (h : ex_isN w = true) : w.onTables = true := by
  cases w <;> first | rfl | cases h
theorem so_K : ex_K so_D so_I so_al (ex_A2 so_al so_BP so_s.heap.size) so_s so_s.heap := by
  have hts0 := so_words
  have hts : ∀ w ∈ lw_tbl, w.before sw1.args0 so_s = true := k2_hts_sels lw_privs (fun w hw => hts0 w (List.mem_cons_of_mem _ hw)) lw_privs_ok
  refine ⟨⟨so_knE, so_arr⟩, fun w hw => va_Nw.of (so_nwT (ex_NWm hw).2) (hts w (ex_NWm hw).1), fun C hC => va_AO.of (List.all_eq_true.mp so_ao C hC), fun q hq => so_zE (List.all_eq_true.mp so_zs q hq), fun q hq => ?_, so_miE (by decide +kernel)⟩
  obtain ⟨h1, h2⟩ := Bool.and_eq_true_iff.mp (List.all_eq_true.mp so_strs q hq)
  exact vk_R.of h1 (of_decide_eq_true h2)
/-- THE CLAIM IS FALSE -/
theorem so_false : ¬ Claimed_1_1 := eo_not (l := launch0) rfl so_start so_room2 rfl so_R so_cst ⟨(230, 1, 1864, 0), by decide +kernel, rfl, rfl, rfl⟩ so_K
theorem so_false2 : ¬ (Claimed_1_1 ∧ Claimed_1_2) := fun h => so_false h.1
