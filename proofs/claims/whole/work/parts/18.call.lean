/-! a call: what is known at the callee's start, and behind it -/
theorem ek_cstOK : (∀ q ∈ ek_st, q.2.2.2 % 4 = 1 ∨ (q.2.2.2 % 4 = 2 ∧ q.2.2.2 ∈ ek_cst)) ∧ (∀ q ∈ ek_str, q.2.2.2 % 4 = 2 ∧ q.2.2.2 ∈ ek_cst) ∧ ∃ v ∈ ek_cst, v % 4 = 2 ∧ v / 256 = ek_mir := by decide +kernel
def ex_A2 (al : Nat → Nat) (B : Nat → Nat → Nat → Prop) (sz : Nat) : Nat → Prop := fun q => (∃ b kd n, B b kd n ∧ ev_C ≤ b ∧ al b = q) ∨ sz ≤ q
def ex_Pc (D : Nat → ClassId) (I : Nat → Nat → Nat) (al : Nat → Nat) (B : Nat → Nat → Nat → Prop) (H : Heap) (vs : List Value) : Array Value → State → Prop := fun a U => a = vs.toArray ∧ U.heap = H ∧ ex_K D I al (ex_A2 al B H.size) U H
def ex_Qc (D : Nat → ClassId) (I : Nat → Nat → Nat) (al : Nat → Nat) (B : Nat → Nat → Nat → Prop) (H : Heap) (ret : Option FieldType) (v : Nat) (M2 : ev_M) (t2 s2 : Nat) : Array Value → State → Outcome → State → Prop := fun _ _ o t =>
  ∃ (rv : Option Value) (al' : Nat → Nat) (B' : Nat → Nat → Nat → Prop), o = .returned rv ∧ ((ret = none ∧ v = 0 ∧ rv = none) ∨ (ret ≠ none ∧ eg_ok B' v ∧ rv = some (eg_val al' v))) ∧ eg_X al B al' B' ∧ eg_R D I al' B' M2 t2 t.heap ∧
    (∀ b kd n, B' b kd n → B b kd n ∨ (H.size ≤ al' b ∧ ev_C ≤ b)) ∧ H.size ≤ t.heap.size ∧ (∀ q, q < H.size → ¬ ex_A2 al B H.size q → t.heap[q]? = H[q]?) ∧ eg_tot t.heap = eg_tot H + s2 ∧ ev_C ≤ t2
theorem ex_Pc_blind {D : Nat → ClassId} {I : Nat → Nat → Nat} {al : Nat → Nat} {B : Nat → Nat → Nat → Prop} {H : Heap} {vs : List Value} : FrameBlind (ex_Pc D I al B H vs) := fun a U g mk h =>
  ⟨h.1, h.2.1, ex_K.at (U := U.calling g mk a) (show U.WarmedH U.vm from State.WarmedH.refl U) h.2.2 (fun _ _ _ => rfl) (fun _ _ q => q) (fun _ _ => rfl) (fun _ _ => rfl) rfl⟩
theorem ex_cstv {al al0 : Nat → Nat} {B B0 : Nat → Nat → Nat → Prop} (hcst : ∀ v ∈ ek_cst, eg_ok B0 v) (hX : eg_X al0 B0 al B) : (∀ q ∈ ek_st, eg_val al q.2.2.2 = eg_val al0 q.2.2.2) ∧ (∀ q ∈ ek_str, al (q.2.2.2 / 256) = al0 (q.2.2.2 / 256)) ∧ al ek_mir = al0 ek_mir := by
  obtain ⟨h1, h2, v, h3, h4, h5⟩ := ek_cstOK
  have key : ∀ v, v ∈ ek_cst → v % 4 = 2 → al (v / 256) = al0 (v / 256) := by
    intro v hv ht
    have := ((hcst v hv).ext hX).2
    rw [eg_val_r _ ht, eg_val_r _ ht] at this
    exact Value.ref.inj this
  refine ⟨fun q hq => ?_, fun q hq => key _ (h2 q hq).2 (h2 q hq).1, by rw [← h5]; exact key v h3 h4⟩
  rcases h1 q hq with z | z
  · rw [eg_val_i _ z, eg_val_i _ z]
  · exact ((hcst _ z.2).ext hX).2
/-- the callee's facts, by its number -/
def ek_ci : List Nat := [9999, 83, 92, 108, 120, 140, 1191, 1197, 1200, 1203, 1223, 1226, 1229, 1232, 768, 9999, 783, 516, 786, 791, 564, 795, 798, 801, 629, 732, 1301, 1304, 1307, 1310, 1313, 1316, 1320, 1324, 1327, 323, 1332, 1336, 1339, 1342, 1345, 1297, 252, 1236, 1260, 612, 196, 199, 616, 619, 578, 636, 623, 626, 633, 640, 592, 556, 588, 643, 647, 651, 560, 655, 658, 246, 712, 229, 233, 236, 327, 330, 333, 280, 336, 240, 243, 283, 249, 263, 715, 719, 722, 320, 728, 569, 602, 735, 738, 742, 746, 750, 573, 760, 763, 227, 513, 533, 536, 540, 544, 548, 552, 581, 585, 595, 605, 608, 598, 1674, 1662, 1509, 1382, 1387, 1405, 1409, 1413, 1516, 1494, 1445, 1497, 424, 427, 437, 441, 445, 448, 453, 359, 364, 367, 373, 378, 381, 384, 1679, 1684, 1688, 1691, 1535, 1538, 1655, 1614, 1617]
def ek_ww : List (Nat × Nat × Nat × Nat) := [(0, 0, 0, 0), (82, 46, 0, 0), (91, 47, 0, 0), (107, 48, 0, 0), (119, 49, 0, 0), (139, 50, 0, 0), (1190, 51, 0, 0), (1196, 54, 0, 0), (1199, 53, 0, 0), (1202, 52, 0, 0), (1221, 54, 1222, 0), (1225, 54, 20, 0), (1228, 54, 21, 0), (1231, 54, 22, 0), (767, 59, 0, 0), (0, 0, 0, 0), (781, 46, 782, 0), (515, 46, 1, 0), (785, 46, 0, 0), (790, 46, 0, 0), (562, 49, 563, 0), (794, 46, 16, 0), (797, 46, 17, 0), (800, 46, 18, 0), (628, 46, 10, 0), (730, 50, 731, 0), (1299, 51, 1300, 0), (1303, 51, 0, 0), (1306, 51, 0, 0), (1309, 51, 0, 0), (1312, 51, 23, 0), (1315, 51, 24, 0), (1318, 54, 1319, 0), (1322, 54, 1323, 0), (1326, 65, 0, 0), (322, 66, 0, 0), (1330, 54, 1331, 0), (1335, 51, 25, 0), (1338, 51, 26, 0), (1341, 51, 27, 0), (1344, 51, 28, 0), (1295, 51, 1296, 0), (251, 55, 0, 0), (1235, 57, 0, 0), (1259, 57, 0, 0), (610, 46, 611, 0), (195, 70, 0, 0), (198, 69, 0, 0), (615, 46, 7, 0), (618, 46, 8, 0), (576, 49, 577, 0), (635, 46, 0, 0), (621, 47, 622, 0), (625, 46, 9, 0), (631, 50, 632, 0), (639, 46, 11, 0), (590, 49, 591, 0), (554, 49, 555, 0), (587, 46, 0, 0), (642, 46, 0, 0), (645, 49, 646, 0), (649, 49, 650, 0), (558, 49, 559, 0), (653, 70, 654, 0), (657, 69, 0, 0), (245, 69, 279, 5), (710, 49, 711, 0), (228, 46, 0, 0), (231, 70, 232, 0), (235, 69, 0, 0), (325, 70, 326, 0), (329, 69, 0, 0), (332, 75, 0, 0), (277, 69, 279, 0), (335, 75, 0, 0), (238, 70, 239, 0), (242, 69, 0, 0), (282, 73, 0, 0), (248, 69, 279, 6), (262, 57, 0, 0), (714, 46, 0, 0), (717, 70, 718, 0), (721, 69, 0, 0), (319, 71, 0, 0), (727, 46, 12, 0), (567, 49, 568, 0), (600, 49, 601, 0), (734, 46, 13, 0), (737, 46, 14, 0), (740, 48, 741, 0), (744, 48, 745, 0), (748, 48, 749, 0), (571, 49, 572, 0), (758, 48, 759, 0), (762, 48, 15, 0), (225, 47, 226, 0), (511, 46, 512, 0), (532, 46, 2, 0), (535, 46, 3, 0), (538, 49, 539, 0), (542, 49, 543, 0), (546, 49, 547, 0), (550, 49, 551, 0), (580, 46, 0, 0), (583, 49, 584, 0), (594, 46, 4, 0), (604, 46, 5, 0), (607, 46, 6, 0), (597, 46, 0, 0), (1672, 51, 1673, 0), (1661, 51, 44, 0), (1508, 51, 35, 0), (1380, 54, 1381, 0), (1386, 67, 0, 0), (1404, 67, 9999, 0), (1408, 67, 9999, 0), (1411, 67, 1412, 0), (1515, 51, 36, 0), (1493, 51, 34, 0), (1444, 51, 0, 0), (1496, 51, 0, 0), (422, 70, 423, 0), (426, 69, 0, 0), (435, 71, 436, 0), (439, 71, 440, 0), (444, 69, 279, 18), (447, 69, 279, 19), (451, 71, 452, 0), (357, 70, 358, 0), (363, 71, 0, 0), (366, 71, 0, 0), (370, 69, 372, 0), (377, 57, 0, 0), (380, 57, 0, 0), (383, 57, 0, 0), (1678, 51, 0, 0), (1682, 71, 1683, 0), (1686, 71, 1687, 0), (1690, 73, 0, 0), (1534, 51, 37, 0), (1537, 51, 38, 0), (1654, 51, 43, 0), (1613, 51, 41, 0), (1616, 51, 42, 0)]
noncomputable def ek_me (i : Nat) : Option (MethodName × ByteArray × Nat × Option FieldType) := match ek_ci[i]? with
  | some x => (match ex_TS[x]? with
    | some (.code y b n r) => some (y, b, n, r)
    | _ => none)
  | none => none
theorem ek_meIn {i : Nat} {y : MethodName} {b : ByteArray} {n : Nat} {r : Option FieldType} (h : ek_me i = some (y, b, n, r)) : Cond.code y b n r ∈ ex_TS := by
  unfold ek_me at h
  split at h
  · split at h
    next hw => cases h; exact List.mem_of_getElem? hw
    next => cases h
  · cases h
/-- what a callee of depth fr does, by the interpreter 'call' -/
def ex_Callee (l : Launch) (D : Nat → ClassId) (I : Nat → Nat → Nat) (call : Nat → Nat → ev_M → Nat → ev_St) (fr : Nat) : Prop :=
  ∀ (i L : Nat) (M : ev_M) (top : Nat) (al : Nat → Nat) (B : Nat → Nat → Nat → Prop) (H : Heap) (vs : List Value) (y : MethodName) (bytes : ByteArray) (maxL : Nat) (ret : Option FieldType), ek_me i = some (y, bytes, maxL, ret) →
    ex_av al B vs L → (lg_sl vs).length ≤ maxL → eg_R D I al B M top H → (∀ v ∈ ek_cst, eg_ok B v) → ev_C ≤ top → (call i L M top).1 = 1 →
    Met l y (Cond.code y bytes maxL ret :: ex_TS) { frames := fr, cells := (call i L M top).2.2.2.2.2.2.1, slots := (call i L M top).2.2.2.2.2.2.2, locals := 2000 * fr } (ex_Pc D I al B H vs)
      (ex_Qc D I al B H ret (call i L M top).2.2.2.1 (call i L M top).2.2.2.2.1 (call i L M top).2.2.2.2.2.1 (call i L M top).2.2.2.2.2.2.2) (call i L M top).2.2.2.2.2.2.1 (call i L M top).2.2.2.2.2.2.2 (ex_A2 al B H.size)
theorem ec_un {α : Type} (st : ev_St) (k : Nat → Nat → Nat → Nat → ev_M → Nat → Nat → Nat → α) : ev_un st k = k st.1 st.2.1 st.2.2.1 st.2.2.2.1 st.2.2.2.2.1 st.2.2.2.2.2.1 st.2.2.2.2.2.2.1 st.2.2.2.2.2.2.2 := rfl
/-- do the arguments fit -/
theorem ex_fits {al : Nat → Nat} {B : Nat → Nat → Nat → Prop} : ∀ (vs : List Value) (q L : Nat), ex_av al B vs L → vs ≠ [] → 1 ≤ q → L / ew_W ^ (q - 1) < ew_W → ¬ L / ew_W ^ (q - 1) % 4 = 3 → (lg_sl vs).length ≤ q
  | [], _, _, _, h, _, _, _ => absurd rfl h
  | v :: r, q, L, ⟨w, L2, e1, hw, e2, hr⟩, _, hq, h1, h2 => by
    have hlen : (lg_sl (v :: r)).length = (if v.category = 2 then 2 else 1) + (lg_sl r).length := by
      show (lg_sl ([v] ++ r)).length = _
      unfold lg_sl
      rw [List.flatMap_append, List.length_append]
      by_cases hc : v.category = 2 <;> simp [hc]
    have hwW := hw.1
    have hpos : 0 < ew_W := by decide
    have hcat : v.category = 2 ↔ w % 4 = 3 := by
      rw [e2]
      rcases hw.2 with z | z | z | z
      · rw [eg_val_i _ z.1]
        exact ⟨fun h => absurd h (by show ¬ (1 : Nat) = 2; decide), fun h => by omega⟩
      · rw [eg_val_l _ z.1]
        exact ⟨fun _ => z.1, fun _ => rfl⟩
      · rw [eg_val_r _ z.1]
        exact ⟨fun h => absurd h (by show ¬ (1 : Nat) = 2; decide), fun h => by omega⟩
      · subst z
        exact ⟨fun h => absurd h (by show ¬ (1 : Nat) = 2; decide), fun h => by omega⟩
    have hL2 : r ≠ [] → 1 ≤ L2 := by
      intro hr0
      cases r with
      | nil => exact absurd rfl hr0
      | cons v' r' =>
        obtain ⟨w', L3, f1, f2, -⟩ := hr
        have := f2.ne0
        omega
    have big : ∀ X, 1 ≤ L2 → X * L2 ≥ X := fun X h => by
      have := Nat.mul_le_mul_left X h
      omega
    rw [hlen]
    by_cases ht : w % 4 = 3
    · rw [if_pos (hcat.mpr ht)]
      rw [if_pos ht] at e1
      have d1 : L / ew_W = ew_W * L2 := by rw [e1, Nat.mul_assoc, Nat.add_mul_div_left _ _ hpos, Nat.div_eq_of_lt hwW, Nat.zero_add]
      have d2 : L / ew_W / ew_W = L2 := by rw [d1, Nat.mul_div_cancel_left _ hpos]
      rcases (show q = 1 ∨ q = 2 ∨ ∃ q', q = q' + 3 by
        rcases q with - | - | - | q
        · omega
        · exact Or.inl rfl
        · exact Or.inr (Or.inl rfl)
        · exact Or.inr (Or.inr ⟨q, rfl⟩)) with rfl | rfl | ⟨q', rfl⟩
      · rw [Nat.sub_self, Nat.pow_zero, Nat.div_one] at h1 h2
        exfalso
        by_cases hr0 : r = []
        · subst hr0
          rw [show L2 = 0 from hr, Nat.mul_zero, Nat.add_zero] at e1
          exact h2 (by rw [e1]; exact ht)
        · have := big (ew_W * ew_W) (hL2 hr0)
          have : ew_W ≤ ew_W * ew_W := Nat.le_mul_of_pos_left _ hpos
          omega
      · rw [show 2 - 1 = 1 from rfl, Nat.pow_one, d1] at h1
        by_cases hr0 : r = []
        · subst hr0; exact Nat.le_refl 2
        · have := big ew_W (hL2 hr0)
          omega
      · by_cases hr0 : r = []
        · subst hr0; show 2 + 0 ≤ _; omega
        · have e9 : L / ew_W ^ (q' + 3 - 1) = L2 / ew_W ^ (q' + 1 - 1) := by
            rw [show q' + 3 - 1 = 2 + q' by omega, Nat.pow_add, ← Nat.div_div_eq_div_mul, show ew_W ^ 2 = ew_W * ew_W from Nat.pow_two _, ← Nat.div_div_eq_div_mul, d2, Nat.add_sub_cancel]
          rw [e9] at h1 h2
          have := ex_fits r (q' + 1) L2 hr hr0 (by omega) h1 h2
          omega
    · rw [if_neg (fun z => ht (hcat.mp z))]
      rw [if_neg ht] at e1
      have d1 : L / ew_W = L2 := by rw [e1, Nat.add_mul_div_left _ _ hpos, Nat.div_eq_of_lt hwW, Nat.zero_add]
      by_cases hr0 : r = []
      · subst hr0; show 1 + 0 ≤ _; omega
      · rcases (show q = 1 ∨ ∃ q', q = q' + 2 by
          rcases q with - | - | q
          · omega
          · exact Or.inl rfl
          · exact Or.inr ⟨q, rfl⟩) with rfl | ⟨q', rfl⟩
        · rw [Nat.sub_self, Nat.pow_zero, Nat.div_one] at h1
          have := big ew_W (hL2 hr0)
          omega
        · have e9 : L / ew_W ^ (q' + 2 - 1) = L2 / ew_W ^ (q' + 1 - 1) := by
            rw [show q' + 2 - 1 = 1 + q' by omega, Nat.pow_add, ← Nat.div_div_eq_div_mul, Nat.pow_one, d1, Nat.add_sub_cancel]
          rw [e9] at h1 h2
          have := ex_fits r (q' + 1) L2 hr hr0 (by omega) h1 h2
          omega
theorem ex_fitE {al : Nat → Nat} {B : Nat → Nat → Nat → Prop} {vs : List Value} {q L : Nat} (hv : ex_av al B vs L) (h0 : q = 0 → vs = []) (h : ev_fit q L = true) : (lg_sl vs).length ≤ q := by
  by_cases hn : vs = []
  · subst hn; exact Nat.zero_le _
  · have hq : 1 ≤ q := by
      rcases Nat.eq_zero_or_pos q with z | z
      · exact absurd (h0 z) hn
      · exact z
    unfold ev_fit at h
    rw [ec_f, ew_shift] at h
    obtain ⟨h1, h2⟩ := Bool.and_eq_true_iff.mp h
    have h3 : L / ew_W ^ (q - 1) < ew_W := Nat.le_of_ble_eq_true h1
    refine ex_fits vs q L hv hn hq h3 (fun z => ?_)
    rw [show ev_tag (L / ew_W ^ Nat.pred q) 3 = true from (ev_tagE _ _).mpr z] at h2
    cases h2
section EH
variable {p : Program} {l : Launch} {e : Env} {R : Room} {s : State} {m : MethodId} {args : Array Value} {below : List Frame} {meth : Method} {c : Code} {Q : State → Prop} {Fin : Nat → ev_M → Nat → Nat → Nat → Prop}
variable {D : Nat → ClassId} {I : Nat → Nat → Nat} {al0 : Nat → Nat} {B0 : Nat → Nat → Nat → Prop} {nL : Nat}
variable {cd : ByteArray} {w pc L S top cc ss : Nat} {M : ev_M} {al : Nat → Nat} {B : Nat → Nat → Nat → Prop} {H : Heap} {ls : Array Slot} {stk : List Value} {locs : List Loc}
theorem ex_Asub (hc : ex_Cfg D I al0 B0 nL s al B M top L S ss H ls stk locs) {q : Nat} (h : ex_A2 al B H.size q) : ex_A al0 B0 s q := by
  rcases h with ⟨b, kd, n, hB, hC, e⟩ | h
  · rw [← e]; exact ex_Aw hc hB hC
  · exact Or.inr (Nat.le_trans hc.2.2.2.2.2.1.1 h)
theorem ex_atCall (hK : ex_K D I al0 (ex_A al0 B0 s) s s.heap) (hcst : ∀ v ∈ ek_cst, eg_ok B0 v) (hc : ex_Cfg D I al0 B0 nL s al B M top L S ss H ls stk locs) {U : State} (hW : s.WarmedH U.vm) : ex_K D I al (ex_A2 al B H.size) U H := by
  obtain ⟨e1, e2, e3⟩ := ex_cstv hcst hc.2.1
  exact hK.at hW (fun a h1 h2 => hc.2.2.2.2.2.1.2.1 a h1 h2) (fun q _ h => ex_Asub hc h) e1 e2 e3
theorem ex_backCall (hc : ex_Cfg D I al0 B0 nL s al B M top L S ss H ls stk locs) {r : List Value} {S2 v t2 s2 : Nat} {M2 : ev_M} {ret : Option FieldType} {a : Array Value} {st t : State} {rv : Option Value} (hs : ex_stk al B r S2) (hq : ex_Qc D I al B H ret v M2 t2 s2 a st (.returned rv) t) {Lc : List Loc} (hL : ∀ q ∈ Lc, ex_A2 al B H.size q.base) :
    (ret = none ∧ rv = none ∧ ∃ al' B', ex_Cfg D I al0 B0 nL s al' B' M2 t2 L S2 (ss + s2) t.heap ls r (locs ++ Lc)) ∨ (ret ≠ none ∧ v ≠ 0 ∧ ∃ x, rv = some x ∧ ∃ al' B', ex_Cfg D I al0 B0 nL s al' B' M2 t2 L (ev_ps S2 v) (ss + s2) t.heap ls (x :: r) (locs ++ Lc)) := by
  obtain ⟨rv', al', B', h1, h2, h3, h4, h5, h6, h7, h8, h9⟩ := hq
  cases h1
  obtain ⟨c1, c2, c3, c4, c5, c6, c7, c8⟩ := hc
  have base : ∀ S' stk', ex_stk al' B' stk' S' → ex_Cfg D I al0 B0 nL s al' B' M2 t2 L S' (ss + s2) t.heap ls stk' (locs ++ Lc) := by
    intro S' stk' hs'
    refine ⟨h4, c2.tr h3, fun b kd n hb => ?_, c4.ext h3, hs', ⟨Nat.le_trans c6.1 h6, fun q g1 g2 => ?_, fun q hq => ?_⟩, by rw [h8, c7, Nat.add_assoc], h9⟩
    · rcases h5 b kd n hb with z | z
      · rcases c3 b kd n z with y | y
        · exact Or.inl y
        · rw [(h3 _ _ _ z).2]; exact Or.inr y
      · exact Or.inr ⟨Nat.le_trans c6.1 z.1, z.2⟩
    · rw [h7 q (Nat.lt_of_lt_of_le g1 c6.1) (fun z => g2 (ex_Asub ⟨c1, c2, c3, c4, c5, c6, c7, c8⟩ z))]
      exact c6.2.1 q g1 g2
    · rcases List.mem_append.mp hq with z | z
      · exact c6.2.2 q z
      · exact ex_Asub ⟨c1, c2, c3, c4, c5, c6, c7, c8⟩ (hL q z)
  rcases h2 with ⟨g1, -, g3⟩ | ⟨g1, g2, g3⟩
  · exact Or.inl ⟨g1, g3, al', B', base _ _ (hs.ext h3)⟩
  · exact Or.inr ⟨g1, g2.ne0, _, g3, al', B', base _ _ (ex_push (hs.ext h3) g2 rfl)⟩
/-- on, behind a call -/
theorem ex_on (hc : ex_Cfg D I al0 B0 nL s al B M top L S ss H ls stk locs) {r : List Value} {S2 v t2 c2 s2 n3 : Nat} {M2 : ev_M} {ret : Option FieldType} {a : Array Value} (hs : ex_stk al B r S2) (hlen : ev_len w = n3) (hd : 128 ≤ ev_d w ↔ ret ≠ none)
    (h : ex_G p l e R s m args below meth c Q Fin D I al0 B0 nL (ev_c (Nat.ble 128 (ev_d w)) (ev_c (Nat.beq v 0) (ev_bad M) (ev_nx w pc L (ev_ps S2 v) M2 t2 (cc + c2) (ss + s2))) (ev_nx w pc L S2 M2 t2 (cc + c2) (ss + s2))))
    (hr : ∀ T : State, T.heap = H → Stand p l e R s m args below meth c T locs cc ss → ∃ (v' : Option Value) (st₀ t T' : State) (Lc : List Loc), Stand p l e R s m args below meth c T' (locs ++ Lc) (cc + c2) (ss + s2) ∧ (∀ q ∈ Lc, ex_A2 al B H.size q.base) ∧ T'.heap = t.heap ∧
      ex_Qc D I al B H ret v M2 t2 s2 a st₀ (.returned v') t ∧ Goes p e below T (F0 m pc ls stk) T' (F0 m (pc + n3) ls (v'.toList ++ r))) : W p l e R s m args below meth c H locs cc ss Q (F0 m pc ls stk) := by
  intro T hT X
  obtain ⟨v', st₀, t, T', Lc, X', hL, e1, hq, st⟩ := hr T hT X
  have k : W p l e R s m args below meth c t.heap (locs ++ Lc) (cc + c2) (ss + s2) Q (F0 m (pc + ev_len w) ls (v'.toList ++ r)) := by
    rcases ex_backCall hc hs hq hL with ⟨g1, g2, al', B', g3⟩ | ⟨g1, g2, x, g3, al', B', g4⟩
    · rw [ec_c, if_neg (fun z => hd.mp (Nat.le_of_ble_eq_true z) g1)] at h
      rw [g2]
      exact ex_nx h g3
    · rw [ec_c, if_pos (Nat.ble_eq_true_of_le (hd.mpr g1)), ec_c, if_neg (fun z => g2 (ev_beqE.mp z))] at h
      rw [g3]
      exact ex_nx h g4
  rw [hlen] at k
  obtain ⟨t2', a1, b1⟩ := k T' e1 X'
  exact ⟨t2', st t2' a1, b1⟩
theorem ex_bd {S2 v t2 c2 s2 : Nat} {M2 : ev_M} (h : ex_G p l e R s m args below meth c Q Fin D I al0 B0 nL (ev_c (Nat.ble 128 (ev_d w)) (ev_c (Nat.beq v 0) (ev_bad M) (ev_nx w pc L (ev_ps S2 v) M2 t2 (cc + c2) (ss + s2))) (ev_nx w pc L S2 M2 t2 (cc + c2) (ss + s2)))) : cc + c2 ≤ R.cells ∧ ss + s2 ≤ R.slots :=
  ex_ite h (fun _ h => ex_ite h (fun _ h => ex_badG h) (fun _ h => eb_nx h)) (fun _ h => eb_nx h)
end EH
