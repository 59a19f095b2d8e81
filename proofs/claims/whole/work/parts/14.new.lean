/-! one step is one instruction: new cells, casts, what stands fast -/
theorem ek_cd (ty : FieldType) (h : ek_code ty ≤ 8) (al : Nat → Nat) : defaultValue ty = eg_val al (ek_code ty % 4 + 1) ∧ ev_ok (ek_code ty) (ek_code ty % 4 + 1) = true ∧ ek_code ty % 4 ≠ 1 := by
  cases ty with
  | int => exact ⟨by rw [show eg_val al (ek_code .int % 4 + 1) = .int (nI 0) from rfl, nI_0]; rfl, rfl, by decide⟩
  | byte => exact ⟨by rw [show eg_val al (ek_code .byte % 4 + 1) = .int (nI 0) from rfl, nI_0]; rfl, rfl, by decide⟩
  | boolean => exact ⟨by rw [show eg_val al (ek_code .boolean % 4 + 1) = .int (nI 0) from rfl, nI_0]; rfl, rfl, by decide⟩
  | long => exact ⟨rfl, rfl, by decide⟩
  | object C => exact ⟨(eg_val_n al).symm, show ev_ok 3 4 = true from rfl, show (3 : Nat) % 4 ≠ 1 by decide⟩
  | array t => exact ⟨(eg_val_n al).symm, show ev_ok 3 4 = true from rfl, show (3 : Nat) % 4 ≠ 1 by decide⟩
  | _ => exact absurd h (by decide)
theorem ek_all : ∀ kd, kd < 19 → 8 ≤ kd → 0 < ek_N kd ∧ ∀ k, k < ek_N kd → ek_code (ek_ty kd k) ≤ 8 := by decide +kernel
theorem ek_le {kd : Nat} (h1 : 8 ≤ kd) (h2 : kd < 19) (k : Nat) (h : k < ek_N kd) : ek_code (ek_ty kd k) ≤ 8 := (ek_all kd h2 h1).2 k h
theorem ek_pos {kd : Nat} (h1 : 8 ≤ kd) (h2 : kd < 19) : 0 < ek_N kd := (ek_all kd h2 h1).1
theorem ex_find {D : Nat → ClassId} {I : Nat → Nat → Nat} {s : State} (hK : ex_KF D I s) {kd : Nat} (h : kd < 6 ∨ (8 ≤ kd ∧ kd < 19)) : s.vm.findClass (ek_cn kd) = some (D kd) := by
  rcases h with h | ⟨h1, h2⟩
  · have h3 := (hK.2 kd h).2
    rcases (show kd = 0 ∨ kd = 1 ∨ kd = 2 ∨ kd = 3 ∨ kd = 4 ∨ kd = 5 by omega) with rfl | rfl | rfl | rfl | rfl | rfl
    · exact h3
    · exact h3
    · exact h3
    · obtain ⟨_, _, -, -, -, q⟩ := h3; exact q
    · obtain ⟨_, _, -, -, -, q⟩ := h3; exact q
    · obtain ⟨_, _, -, -, -, q⟩ := h3; exact q
  · have h3 := (hK.1 kd h1 h2).2.1
    unfold ek_cn
    rw [if_neg (by omega), if_neg (by omega), if_neg (by omega), if_neg (by omega), if_neg (by omega), if_neg (by omega)]
    exact h3
theorem ex_wgt {al : Nat → Nat} {B : Nat → Nat → Nat → Prop} : ∀ (n : Nat) {stk : List Value} {S : Nat}, ex_stk al B stk S →
    (stk.map fun v => v.category).sum ≤ (Nat.rec (motive := fun _ => Nat → Nat) (fun _ => 9) (fun _ ih S => ev_c (Nat.beq S 0) 0 (Nat.add (ev_c (ev_tag (Nat.mod S 4722366482869645213696) 3) 2 1) (ih (Nat.div S 4722366482869645213696)))) n S : Nat) ∨
    9 ≤ (Nat.rec (motive := fun _ => Nat → Nat) (fun _ => 9) (fun _ ih S => ev_c (Nat.beq S 0) 0 (Nat.add (ev_c (ev_tag (Nat.mod S 4722366482869645213696) 3) 2 1) (ih (Nat.div S 4722366482869645213696)))) n S : Nat)
  | 0, _, _, _ => Or.inr (Nat.le_refl 9)
  | n + 1, stk, S, h => by
    show _ ≤ ev_c (Nat.beq S 0) 0 (Nat.add (ev_c (ev_tag (Nat.mod S 4722366482869645213696) 3) 2 1) _) ∨ 9 ≤ ev_c (Nat.beq S 0) 0 (Nat.add (ev_c (ev_tag (Nat.mod S 4722366482869645213696) 3) 2 1) _)
    rw [ec_c]
    cases stk with
    | nil => exact Or.inl (Nat.zero_le _)
    | cons v r =>
      obtain ⟨w, S2, h1, h2, h3, h4⟩ := h
      have e1 : S % ew_W = w := by rw [h1, Nat.mul_comm, Nat.mul_add_mod, Nat.mod_eq_of_lt h2.1]
      have e2 : S / ew_W = S2 := by rw [h1, Nat.mul_comm, Nat.mul_add_div (by decide), Nat.div_eq_of_lt h2.1, Nat.add_zero]
      have h0 : ¬ Nat.beq S 0 = true := fun z => by
        have := ev_beqE.mp z
        rw [this] at e1
        exact h2.ne0 (by rw [← e1]; rfl)
      rw [if_neg h0]
      have ih := ex_wgt n h4
      rw [← e2] at ih
      have hc : v.category ≤ ev_c (ev_tag (Nat.mod S 4722366482869645213696) 3) 2 1 := by
        rw [show Nat.mod S 4722366482869645213696 = w from e1, ec_c]
        by_cases ht : w % 4 = 3
        · rw [if_pos ((ev_tagE _ _).mpr ht), h3, eg_val_l _ ht]; exact Nat.le_refl 2
        · rw [if_neg (fun z => ht ((ev_tagE _ _).mp z)), h3, eh_cat w h2 ht]; exact Nat.le_refl 1
      rw [List.map_cons, List.sum_cons]
      generalize (ev_c (ev_tag (Nat.mod S 4722366482869645213696) 3) 2 1 : Nat) = a at *
      have e3 : Nat.div S 4722366482869645213696 = S / ew_W := rfl
      rw [e3]
      show v.category + _ ≤ a + _ ∨ 9 ≤ a + _
      omega
theorem ex_wgt8 {al : Nat → Nat} {B : Nat → Nat → Nat → Prop} {stk : List Value} {S : Nat} (h : ex_stk al B stk S) (hw : Nat.ble (ev_wgt S) 8 = true) : (stk.map fun v => v.category).sum ≤ 8 := by
  have h1 : ev_wgt S ≤ 8 := Nat.le_of_ble_eq_true hw
  rcases ex_wgt 9 h with q | q
  · exact Nat.le_trans q h1
  · exact absurd (Nat.le_trans q h1) (by decide)
section EH
variable {p : Program} {l : Launch} {e : Env} {R : Room} {s : State} {m : MethodId} {args : Array Value} {below : List Frame} {meth : Method} {c : Code} {Q : State → Prop} {Fin : Nat → ev_M → Nat → Nat → Nat → Prop}
variable {D : Nat → ClassId} {I : Nat → Nat → Nat} {al0 : Nat → Nat} {B0 : Nat → Nat → Nat → Prop} {nL : Nat}
variable {cd : ByteArray} {w pc L S top cc ss : Nat} {M : ev_M} {al : Nat → Nat} {B : Nat → Nat → Nat → Prop} {H : Heap} {ls : Array Slot} {stk : List Value} {locs : List Loc}
theorem ex_fresh (hc : ex_Cfg D I al0 B0 nL s al B M top L S ss H ls stk locs) : H.size ≥ s.heap.size := hc.2.2.2.2.2.1.1
/-- behind a new cell -/
theorem ex_born (hc : ex_Cfg D I al0 B0 nL s al B M top L S ss H ls stk locs) {kd n : Nat} {cell : Cell} {M' : ev_M} {H' : Heap} (hk : kd < 64) (ht : top + eg_off kd + n ≤ 32768) (hpos : 0 < eg_off kd + n) (hN : ¬ kd < 8 → n = ek_N kd)
    (hM : ∀ a, a < 32768 → ev_rd M' a = if kd < 8 ∧ a = top then n + 1 else ev_rd M a) (hh : H'[H.size]? = some cell) (hz : H'.size = H.size + 1) (ho : ∀ q, q < H.size → H'[q]? = H[q]?) (hcl : cell.cls = D kd) (hvm : cell.vm = .none) (hsz : cell.slots.size = n)
    (hd : ∀ k, k < n → ek_d kd k ≤ 8 ∧ cell.slots[eg_ix I kd k]? = some (eg_val al (ek_d kd k % 4 + 1)) ∧ ev_ok (ek_d kd k) (ek_d kd k % 4 + 1) = true ∧ ek_d kd k % 4 ≠ 1) {stk2 : List Value} {S2 : Nat} (hs : ex_stk al B stk2 S2) :
    ∃ al' B', ex_Cfg D I al0 B0 nL s al' B' M' (top + eg_off kd + n) L (ev_ps S2 (Nat.add (Nat.mul 256 top) (Nat.add (Nat.mul 4 kd) 2))) (Nat.add ss n) H' ls (.ref H.size :: stk2) locs := by
  obtain ⟨hR, hX⟩ := eg_push hc.1 hk ht hpos hN hM hh ho hcl hvm (fun _ => hsz) hd
  have hv : ∀ v, v = Nat.add (Nat.mul 256 top) (Nat.add (Nat.mul 4 kd) 2) → v % 4 = 2 ∧ v / 256 = top ∧ v / 4 % 64 = kd ∧ v < ew_W := by
    intro v hv
    have e : v = 256 * top + (4 * kd + 2) := hv
    have : ew_W = 4722366482869645213696 := rfl
    omega
  obtain ⟨v1, v2, v3, v4⟩ := hv _ rfl
  refine ⟨_, _, hR, hc.2.1.tr hX, fun b k j hb => ?_, hc.2.2.2.1.ext hX, ex_push (hs.ext hX) ⟨v4, Or.inr (Or.inr (Or.inl ⟨v1, n, Or.inr ⟨v2, v3, rfl⟩⟩))⟩ (by rw [eg_val_r _ v1, v2]; simp), ?_, ?_, by have := hc.2.2.2.2.2.2.2; omega⟩
  · rcases hb with hb | ⟨rfl, rfl, rfl⟩
    · have q : (if b = top then Array.size H else al b) = al b := (hX _ _ _ hb).2
      show B0 b k j ∨ (s.heap.size ≤ (if b = top then Array.size H else al b) ∧ ev_C ≤ b)
      rw [q]
      exact hc.2.2.1 b k j hb
    · refine Or.inr ⟨?_, hc.2.2.2.2.2.2.2⟩
      simp only [if_true]
      exact ex_fresh hc
  · obtain ⟨q1, q2, q3⟩ := hc.2.2.2.2.2.1
    exact ⟨by omega, fun q h1 h2 => (ho q (by omega)).trans (q2 q h1 h2), q3⟩
  · rw [eg_tot_push hz hh ho, hsz, hc.2.2.2.2.2.2.1]
    show _ = _ + (ss + n)
    omega
noncomputable def ib_new (own : String) (cd : ByteArray) (pc w x : Nat) : Bool := match decode cd pc, ex_TS[x]? with
  | .ok (.new idx, 3), some (.classLink o i nm) => decide (ev_len w = 3 ∧ 8 ≤ ev_b w ∧ ev_b w < 19 ∧ ev_a w = ek_N (ev_b w) ∧ o = own ∧ i = idx ∧ nm = ek_nm (ev_b w) ∧ Cond.instantiable nm (ek_N (ev_b w)) ∈ ex_TS ∧ Cond.initialized nm ∈ ex_TS)
  | _, _ => false
theorem eh_new (hx : p.tables.exec = Jvm.exec) (hb : c.code = cd) {own : String} (hown : s.vm.findClass own = some m.cls) (hts : ∀ w ∈ ex_TS, w.before args s = true) (hK : ex_K D I al0 (ex_A al0 B0 s) s s.heap) {x : Nat} (hI : ib_new own cd pc w x = true) (h : ex_G p l e R s m args below meth c Q Fin D I al0 B0 nL (ev_o_new w pc L S M top cc ss)) (hc : ex_Cfg D I al0 B0 nL s al B M top L S ss H ls stk locs) : W p l e R s m args below meth c H locs cc ss Q (F0 m pc ls stk) := by
  unfold ev_o_new at h
  rw [ec_f] at h
  refine ex_ite h (fun hb0 h => ?_) (fun _ h => ex_badG h)
  rw [ec_f, ec_f] at h
  have htop : top + ev_a w ≤ 32768 := Nat.le_of_ble_eq_true hb0
  have hbd := eb_nx h
  unfold ib_new at hI
  split at hI
  next idx o i nm hd hw =>
    obtain ⟨i1, i2, i3, i4, rfl, rfl, rfl, i5, i6⟩ := of_decide_eq_true hI
    have hoff : eg_off (ev_b w) = 0 := if_neg (by omega)
    have hfc := (hK.1.1 (ev_b w) i2 i3).2.1
    have hpos := ek_pos i2 i3
    refine W.newcK hx hb hown (hts _ (List.mem_of_getElem? hw)) (hts _ i5) (hts _ i6) rfl hd hbd.1 (by rw [← i4]; exact hbd.2) hfc rfl (fun H' kC g1 g2 g3 g4 => ?_)
    have hsz : (blank (D (ev_b w)) kC).slots.size = ek_N (ev_b w) := by
      obtain ⟨c', k', f1, f2, -, -, -, f3⟩ := Cond.instantiable_spec (hts _ i5)
      cases hfc.symm.trans f1
      cases g1.symm.trans f2
      rw [← f3]
      simp [blank]
    have hborn := u_born (ek_ty (ev_b w)) hts (ek_in i2 i3) (hK.1.1 (ev_b w) i2 i3) g1 g2 (ek_ok i2 i3).1
    obtain ⟨cell', b1, b2, b3, b4⟩ := hborn
    cases g2.symm.trans b1
    obtain ⟨al', B', hC⟩ := ex_born (M' := M) (n := ev_a w) hc (kd := ev_b w) (by omega) (by rw [hoff]; omega) (by rw [hoff, i4]; omega) (fun _ => i4) (fun a ha => by rw [if_neg (by omega)]) g2 g3 g4 b2 b3 (by rw [hsz, i4]) (fun k hk => by
      rw [i4] at hk
      have hdc : ek_d (ev_b w) k = ek_code (ek_ty (ev_b w) k) := if_neg (by omega)
      obtain ⟨q1, q2, q3⟩ := ek_cd (ek_ty (ev_b w) k) (ek_le i2 i3 k hk) al
      rw [hdc]
      refine ⟨ek_le i2 i3 k hk, ?_, q2, q3⟩
      rw [show eg_ix I (ev_b w) k = I (ev_b w) k from if_neg (by omega), ← q1]
      exact b4 k hk) hc.2.2.2.2.1
    have hk := ex_nx h (by rw [hoff] at hC; exact hC)
    rw [i1] at hk
    rw [i4] at hk
    exact hk
  next => cases hI
noncomputable def ib_newarr (own : String) (cd : ByteArray) (pc w x : Nat) : Bool := match decode cd pc, ex_TS[x]? with
  | .ok (.newarray t, 2), some (.arrayClass ty) => decide (ev_len w = 2 ∧ ev_b w < 3 ∧ newarray.typeOf t = ek_el (ev_b w) ∧ ty = newarray.typeOf t)
  | .ok (.anewarray idx, 3), some (.classLink o i nm) => decide (ev_len w = 3 ∧ 3 ≤ ev_b w ∧ ev_b w < 6 ∧ o = own ∧ i = idx ∧ ek_el (ev_b w) = .object nm ∧ nm ∈ ["Setsalike$Things", "Setsalike$Walk", "java/lang/Object"])
  | _, _ => false
theorem eh_newarr (hx : p.tables.exec = Jvm.exec) (hb : c.code = cd) {own : String} (hown : s.vm.findClass own = some m.cls) (hts : ∀ w ∈ ex_TS, w.before args s = true) (hK : ex_K D I al0 (ex_A al0 B0 s) s s.heap) {x : Nat} (hI : ib_newarr own cd pc w x = true) (h : ex_G p l e R s m args below meth c Q Fin D I al0 B0 nL (ev_o_newarr w pc L S M top cc ss)) (hc : ex_Cfg D I al0 B0 nL s al B M top L S ss H ls stk locs) : W p l e R s m args below meth c H locs cc ss Q (F0 m pc ls stk) := by
  refine ex_1i (S := S) (stk := stk) (al := al) (B := B) h hc.2.2.2.2.1 (fun n r S2 e1 hn h2 h => ?_)
  subst e1
  rw [ec_f] at h
  refine ex_ite h (fun hb0 h => ?_) (fun _ h => ex_badG h)
  rw [em_wr, ec_f, ec_f] at h
  have htop : top + n + 1 ≤ 32768 := Nat.le_of_ble_eq_true hb0
  have hbd := eb_nx h
  have hM : ∀ kd, kd < 8 → ∀ a, a < 32768 → ev_rd (em_up M top (Nat.succ n)) a = if kd < 8 ∧ a = top then n + 1 else ev_rd M a := by
    intro kd hkd a ha
    rw [em_rw (by omega) ha (by have : ew_W = 4722366482869645213696 := rfl; omega)]
    by_cases q : a = top
    · rw [if_pos q, if_pos ⟨hkd, q⟩]
    · rw [if_neg q, if_neg (fun z => q z.2)]
  have hcl : (nI n).toNatClampNeg = n := nI_clamp (by omega)
  have hn0 : ¬ nI n < 0 := nI_pos (by omega)
  have fin : ∀ kd, kd < 6 → ∀ (H' : Heap) (cell : Cell), kd = ev_b w → H'[H.size]? = some cell → H'.size = H.size + 1 → (∀ q, q < H.size → H'[q]? = H[q]?) → cell.cls = D kd → cell.vm = .none → cell.slots.size = n → (∀ k, k < n → cell.slots[k]? = some (eg_val al (ek_code (ek_el kd) % 4 + 1))) → ek_code (ek_el kd) ≤ 8 →
      W p l e R s m args below meth c H' locs (cc + 1) (ss + n) Q (F0 m (pc + ev_len w) ls (.ref H.size :: r)) := by
    intro kd hkd H' cell hkw g1 g2 g3 g4 g5 g6 g7 g8
    have hoff : eg_off kd = 1 := if_pos (by omega)
    obtain ⟨al', B', hC⟩ := ex_born (M' := em_up M top (Nat.succ n)) (n := n) hc (kd := kd) (by omega) (by rw [hoff]; omega) (by rw [hoff]; omega) (fun z => absurd (show kd < 8 by omega) z) (hM kd (by omega)) g1 g2 g3 g4 g5 g6 (fun k hk => by
      have hdc : ek_d kd k = ek_code (ek_el kd) := if_pos (by omega)
      obtain ⟨q1, q2, q3⟩ := ek_cd (ek_el kd) g8 al
      rw [hdc]
      refine ⟨g8, ?_, q2, q3⟩
      rw [show eg_ix I kd k = k from if_pos (by omega)]
      exact g7 k hk) h2
    rw [hkw] at hC hoff
    rw [hoff, show top + 1 + n = Nat.succ (Nat.add top n) by show _ = top + n + 1; omega] at hC
    exact ex_nx h hC
  unfold ib_newarr at hI
  split at hI
  next t ty hd hw =>
    obtain ⟨i1, i2, i3, rfl⟩ := of_decide_eq_true hI
    refine va_newaK hx hb (hts _ (List.mem_of_getElem? hw)) rfl hd rfl hn0 hcl (by
      rw [i3]
      rcases (show ev_b w = 0 ∨ ev_b w = 1 ∨ ev_b w = 2 by omega) with q | q | q <;> rw [q] <;> simp [ek_el, componentBytes] <;> omega) hbd.1 hbd.2 rfl (fun H' cA g1 g2 g3 g4 g5 => ?_)
    have hcA : cA = D (ev_b w) := by
      have h9 := ex_find hK.1 (kd := ev_b w) (Or.inl (by omega))
      rw [i3] at g5
      have h8 : ek_cn (ev_b w) = "[" ++ (ek_el (ev_b w)).toString := by
        rcases (show ev_b w = 0 ∨ ev_b w = 1 ∨ ev_b w = 2 by omega) with q | q | q <;> rw [q] <;> rfl
      rw [h8] at h9
      exact Option.some.inj (g5.symm.trans h9)
    have hle : ek_code (ek_el (ev_b w)) ≤ 8 := by
      rcases (show ev_b w = 0 ∨ ev_b w = 1 ∨ ev_b w = 2 by omega) with q | q | q <;> rw [q] <;> decide
    have hk := fin (ev_b w) (by omega) H' _ rfl g1 g2 g3 (by rw [← hcA]; rfl) rfl (arrV_size _ _ _) (fun k hk => by rw [arrV_read _ _ hk, i3, (ek_cd _ hle al).1]) hle
    rw [i1] at hk
    exact hk
  next idx o i nm hd hw =>
    obtain ⟨i1, i2, i3, rfl, rfl, i4, i5⟩ := of_decide_eq_true hI
    refine W.anew hx hb hown (hts _ (List.mem_of_getElem? hw)) (va_AO.use (hK.2.2.1 nm i5)) rfl hd rfl hn0 (by rw [hcl]; omega) hbd.1 (by rw [hcl]; exact hbd.2) (fun cA kA comp f1 f2 f3 f4 => ?_)
    have hcA : cA = D (ev_b w) := by
      have h9 := ex_find hK.1 (kd := ev_b w) (Or.inl (by omega))
      have h8 : ek_cn (ev_b w) = "[" ++ (ek_el (ev_b w)).toString := by
        rcases (show ev_b w = 3 ∨ ev_b w = 4 ∨ ev_b w = 5 by omega) with q | q | q <;> rw [q] <;> rfl
      rw [h8, i4] at h9
      exact Option.some.inj (f1.symm.trans h9)
    rw [hcl]
    have hle : ek_code (ek_el (ev_b w)) = 3 := by rw [i4]; rfl
    have hk := fin (ev_b w) (by omega) (H.push { cls := cA, slots := Array.replicate n .null, vm := .none }) { cls := cA, slots := Array.replicate n .null, vm := .none } rfl (by rw [Array.getElem?_push_size]) (by rw [Array.size_push]) (fun q hq => by rw [Array.getElem?_push, if_neg (Nat.ne_of_lt hq)]) hcA rfl (by simp) (fun k hk => by rw [hle]; simp [hk]; rfl) (by rw [hle]; decide)
    rw [i1] at hk
    exact hk
  next => cases hI
noncomputable def ib_cast (own : String) (cd : ByteArray) (pc w x : Nat) : Bool := match decode cd pc, ex_TS[x]? with
  | .ok (.checkcast idx, 3), some (.classLink o i nm) => decide (ev_len w = 3 ∧ (ev_b w < 6 ∨ (8 ≤ ev_b w ∧ ev_b w < 19)) ∧ o = own ∧ i = idx ∧ nm = ek_cn (ev_b w))
  | _, _ => false
theorem eh_cast (hx : p.tables.exec = Jvm.exec) (hb : c.code = cd) {own : String} (hown : s.vm.findClass own = some m.cls) (hts : ∀ w ∈ ex_TS, w.before args s = true) (hK : ex_K D I al0 (ex_A al0 B0 s) s s.heap) {x : Nat} (hI : ib_cast own cd pc w x = true) (h : ex_G p l e R s m args below meth c Q Fin D I al0 B0 nL (ev_o_cast w pc L S M top cc ss)) (hc : ex_Cfg D I al0 B0 nL s al B M top L S ss H ls stk locs) : W p l e R s m args below meth c H locs cc ss Q (F0 m pc ls stk) := by
  unfold ev_o_cast ev_top at h
  rw [ec_f, ec_f] at h
  refine ex_ite h (fun hb0 h => ?_) (fun _ h => ex_badG h)
  have h9 := Bool.and_eq_true_iff.mp hb0
  have ht : S % ew_W % 4 = 2 := (ev_tagE _ _).mp h9.1
  have hk2 : S % ew_W / 4 % 64 = ev_b w := by
    have h8 := ev_beqE.mp h9.2
    rw [ex_shr2] at h8
    rw [show S % ew_W / 4 % 64 = Nat.land (S % ew_W / 4) 63 from (em_lo _).symm]
    exact h8
  obtain ⟨r, e1, e2, e3⟩ := ex_top hc.2.2.2.2.1 (fun z => by rw [z] at ht; exact absurd ht (by decide))
  have k := ex_nx h hc
  rw [e1, eg_val_r _ ht] at k ⊢
  obtain ⟨n, hB⟩ : ∃ n, B (S % ew_W / 256) (ev_b w) n := by
    rcases e2.2 with q | q | q | q
    · omega
    · omega
    · rw [hk2] at q; exact q.2
    · omega
  unfold ib_cast at hI
  split at hI
  next idx o i nm hd hw =>
    obtain ⟨i1, i2, rfl, rfl, rfl⟩ := of_decide_eq_true hI
    obtain ⟨cell, c1, c2, c3, -⟩ := ex_cell hc hB (by omega)
    rw [i1] at k
    intro T hT X
    obtain ⟨vm', X', st⟩ := X.checkcastYes hx hown (hts _ (List.mem_of_getElem? hw)) (by rw [hT]; exact c1) (by rw [c3]; rfl) (ex_find hK.1 i2) (by rw [c2]; exact va_asg _ _) (g := F0 m pc ls (.ref (al (S % ew_W / 256)) :: r)) rfl rfl (by rw [hb]; exact hd)
    obtain ⟨t, a1, b1⟩ := k (T.setVm vm') hT X'
    exact ⟨t, st t a1, b1⟩
  next => cases hI
end EH
