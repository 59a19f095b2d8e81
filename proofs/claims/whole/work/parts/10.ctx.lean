/-! what is known at a method's start: the tables' words, the classes, what stands fast -/
def ex_TS : List Cond := lw_tbl.filter goodWord
def ex_isN : Cond → Bool
  | .fieldLinkNest .. => true
  | .methodLinkNest .. => true
  | .declares _ => true
  | .castable .. => true
  | .privateMethod _ => true
  | .publicMethod _ => true
  | .unhidden .. => true
  | .interfaceMethod a b _ _ => decide (a = b ∧ b ≠ "java/lang/invoke/MethodHandle" ∧ b ≠ "java/lang/invoke/VarHandle")
  | _ => false
def ex_NW : List Cond := lw_tbl.filter ex_isN
theorem ex_TSm {w : Cond} (h : w ∈ ex_TS) : w ∈ lw_tbl ∧ goodWord w = true := List.mem_filter.mp h
theorem ex_NWm {w : Cond} (h : w ∈ ex_NW) : w ∈ lw_tbl ∧ ex_isN w = true := List.mem_filter.mp h
theorem ex_NWwarm {w : Cond} (h : w ∈ ex_NW) {s U : State} (hW : s.WarmedH U.vm) (hZ : va_Nw w s) : va_Nw w U := by
  have h2 := (ex_NWm h).2
  cases w with
  | fieldLinkNest => exact va_Nw.warmF hW hZ
  | methodLinkNest => exact va_Nw.warmM hW hZ
  | declares => exact va_Nw.warmD hW hZ
  | castable => exact va_Nw.warmC hW hZ
  | privateMethod => exact va_tabs rfl (rfl : (s.setVm U.vm).vm = U.vm) (by rw [Cond.privateMethod_setVm hW.alike]; exact hZ)
  | publicMethod => exact va_tabs rfl (rfl : (s.setVm U.vm).vm = U.vm) (by rw [Cond.publicMethod_setVm hW.alike]; exact hZ)
  | unhidden => exact va_tabs rfl (rfl : (s.setVm U.vm).vm = U.vm) (by rw [Cond.unhidden_setVm hW.alike]; exact hZ)
  | interfaceMethod a b =>
    obtain ⟨rfl, h3⟩ := of_decide_eq_true h2
    obtain ⟨cL, kL, r1, -, -, -, -, hn1⟩ := Cond.interfaceMethod_spec hZ
    exact va_tabs rfl (rfl : (s.setVm U.vm).vm = U.vm) (by rw [Cond.interfaceMethod_setVm hW.alike hn1 h3]; exact hZ)
  | _ => simp [ex_isN] at h2
theorem eg_ltA {H : Heap} {a : Nat} {cell : Cell} (h : H[a]? = some cell) : a < H.size := (Array.getElem?_eq_some_iff.mp h).1
def ex_KF (D : Nat → ClassId) (I : Nat → Nat → Nat) (U : State) : Prop :=
  (∀ kd, 8 ≤ kd → kd < 19 → u_Kn U (ek_nm kd) (ek_T kd) (ek_N kd) (D kd) (I kd)) ∧ (∀ kd, kd < 6 → ArrOfT U (D kd) (ek_el kd) ∧ va_RA U (D kd) (ek_el kd))
theorem ex_KF.moved {D : Nat → ClassId} {I : Nat → Nat → Nat} {u U : State} (hvm : u.vm.Alike U.vm) (h : ex_KF D I u) : ex_KF D I U :=
  ⟨fun kd h1 h2 => u_Kn_moved hvm (h.1 kd h1 h2), fun kd h1 => ⟨arrOfT_moved hvm (h.2 kd h1).1, (h.2 kd h1).2.moved hvm⟩⟩
def ex_K (D : Nat → ClassId) (I : Nat → Nat → Nat) (al0 : Nat → Nat) (A : Nat → Prop) (U : State) (H : Heap) : Prop :=
  ex_KF D I U ∧ (∀ w ∈ ex_NW, va_Nw w U) ∧ (∀ C ∈ ["Setsalike$Things", "Setsalike$Walk", "java/lang/Object"], va_AO C U) ∧ (∀ q ∈ ek_st, va_Z q.1 q.2.1 q.2.2.1 (eg_val al0 q.2.2.2) A U H) ∧
  (∀ q ∈ ek_str, vk_R q.1 q.2.1 q.2.2.1 (al0 (q.2.2.2 / 256)) U) ∧ va_Mi "[Ljava/lang/Object;" (al0 ek_mir) U
/-- at a callee's start -/
theorem ex_K.at {D : Nat → ClassId} {I : Nat → Nat → Nat} {al0 al : Nat → Nat} {A A' : Nat → Prop} {u U : State} {H H1 : Heap} (hW : u.WarmedH U.vm) (h : ex_K D I al0 A u H) (hq : ∀ a : Nat, a < H.size → ¬ A a → H1[a]? = H[a]?) (hA : ∀ q, q < H.size → A' q → A q)
    (hv : ∀ q ∈ ek_st, eg_val al q.2.2.2 = eg_val al0 q.2.2.2) (hs : ∀ q ∈ ek_str, al (q.2.2.2 / 256) = al0 (q.2.2.2 / 256)) (hm : al ek_mir = al0 ek_mir) : ex_K D I al A' U H1 := by
  obtain ⟨h1, h2, h3, h4, h5, h6⟩ := h
  refine ⟨h1.moved hW.alike, fun w hw => ex_NWwarm hw hW (h2 w hw), fun C hC => va_AO.moved hW.alike (h3 C hC), fun q hq' => ?_, fun q hq' => ?_, ?_⟩
  · rw [hv q hq']
    obtain ⟨cf, kf, fi, f, a, cell, f1, f2, f3, f4, f5, f6, f7, f8⟩ := va_Z.moved hW.alike (h4 q hq')
    have hlt : a < H.size := eg_ltA f5
    exact ⟨cf, kf, fi, f, a, cell, f1, f2, f3, f4, by rw [hq a hlt f8]; exact f5, f6, f7, fun z => f8 (hA a hlt z)⟩
  · rw [hs q hq']
    exact vk_R.warm hW (h5 q hq')
  · rw [hm]
    exact va_Mi.moved hW.alike h6
theorem ek_in8 : ∀ w ∈ u_ws (ek_nm 8) (ek_T 8) (ek_N 8), w ∈ ex_TS := by decide +kernel
theorem ek_ok8 : (∀ k, k < ek_N 8 → parseFieldDescriptor (ek_T 8 k).2.2.1 = some (ek_ty 8 k)) ∧ (∀ a, a < ek_N 8 → ∀ b, b < ek_N 8 → a ≠ b → (ek_T 8 a).2.1 ≠ (ek_T 8 b).2.1) := by decide +kernel
theorem ek_in9 : ∀ w ∈ u_ws (ek_nm 9) (ek_T 9) (ek_N 9), w ∈ ex_TS := by decide +kernel
theorem ek_ok9 : (∀ k, k < ek_N 9 → parseFieldDescriptor (ek_T 9 k).2.2.1 = some (ek_ty 9 k)) ∧ (∀ a, a < ek_N 9 → ∀ b, b < ek_N 9 → a ≠ b → (ek_T 9 a).2.1 ≠ (ek_T 9 b).2.1) := by decide +kernel
theorem ek_in10 : ∀ w ∈ u_ws (ek_nm 10) (ek_T 10) (ek_N 10), w ∈ ex_TS := by decide +kernel
theorem ek_ok10 : (∀ k, k < ek_N 10 → parseFieldDescriptor (ek_T 10 k).2.2.1 = some (ek_ty 10 k)) ∧ (∀ a, a < ek_N 10 → ∀ b, b < ek_N 10 → a ≠ b → (ek_T 10 a).2.1 ≠ (ek_T 10 b).2.1) := by decide +kernel
theorem ek_in11 : ∀ w ∈ u_ws (ek_nm 11) (ek_T 11) (ek_N 11), w ∈ ex_TS := by decide +kernel
theorem ek_ok11 : (∀ k, k < ek_N 11 → parseFieldDescriptor (ek_T 11 k).2.2.1 = some (ek_ty 11 k)) ∧ (∀ a, a < ek_N 11 → ∀ b, b < ek_N 11 → a ≠ b → (ek_T 11 a).2.1 ≠ (ek_T 11 b).2.1) := by decide +kernel
theorem ek_in12 : ∀ w ∈ u_ws (ek_nm 12) (ek_T 12) (ek_N 12), w ∈ ex_TS := by decide +kernel
theorem ek_ok12 : (∀ k, k < ek_N 12 → parseFieldDescriptor (ek_T 12 k).2.2.1 = some (ek_ty 12 k)) ∧ (∀ a, a < ek_N 12 → ∀ b, b < ek_N 12 → a ≠ b → (ek_T 12 a).2.1 ≠ (ek_T 12 b).2.1) := by decide +kernel
theorem ek_in13 : ∀ w ∈ u_ws (ek_nm 13) (ek_T 13) (ek_N 13), w ∈ ex_TS := by decide +kernel
theorem ek_ok13 : (∀ k, k < ek_N 13 → parseFieldDescriptor (ek_T 13 k).2.2.1 = some (ek_ty 13 k)) ∧ (∀ a, a < ek_N 13 → ∀ b, b < ek_N 13 → a ≠ b → (ek_T 13 a).2.1 ≠ (ek_T 13 b).2.1) := by decide +kernel
theorem ek_in14 : ∀ w ∈ u_ws (ek_nm 14) (ek_T 14) (ek_N 14), w ∈ ex_TS := by decide +kernel
theorem ek_ok14 : (∀ k, k < ek_N 14 → parseFieldDescriptor (ek_T 14 k).2.2.1 = some (ek_ty 14 k)) ∧ (∀ a, a < ek_N 14 → ∀ b, b < ek_N 14 → a ≠ b → (ek_T 14 a).2.1 ≠ (ek_T 14 b).2.1) := by decide +kernel
theorem ek_in15 : ∀ w ∈ u_ws (ek_nm 15) (ek_T 15) (ek_N 15), w ∈ ex_TS := by decide +kernel
theorem ek_ok15 : (∀ k, k < ek_N 15 → parseFieldDescriptor (ek_T 15 k).2.2.1 = some (ek_ty 15 k)) ∧ (∀ a, a < ek_N 15 → ∀ b, b < ek_N 15 → a ≠ b → (ek_T 15 a).2.1 ≠ (ek_T 15 b).2.1) := by decide +kernel
theorem ek_in16 : ∀ w ∈ u_ws (ek_nm 16) (ek_T 16) (ek_N 16), w ∈ ex_TS := by decide +kernel
theorem ek_ok16 : (∀ k, k < ek_N 16 → parseFieldDescriptor (ek_T 16 k).2.2.1 = some (ek_ty 16 k)) ∧ (∀ a, a < ek_N 16 → ∀ b, b < ek_N 16 → a ≠ b → (ek_T 16 a).2.1 ≠ (ek_T 16 b).2.1) := by decide +kernel
theorem ek_in17 : ∀ w ∈ u_ws (ek_nm 17) (ek_T 17) (ek_N 17), w ∈ ex_TS := by decide +kernel
theorem ek_ok17 : (∀ k, k < ek_N 17 → parseFieldDescriptor (ek_T 17 k).2.2.1 = some (ek_ty 17 k)) ∧ (∀ a, a < ek_N 17 → ∀ b, b < ek_N 17 → a ≠ b → (ek_T 17 a).2.1 ≠ (ek_T 17 b).2.1) := by decide +kernel
theorem ek_in18 : ∀ w ∈ u_ws (ek_nm 18) (ek_T 18) (ek_N 18), w ∈ ex_TS := by decide +kernel
theorem ek_ok18 : (∀ k, k < ek_N 18 → parseFieldDescriptor (ek_T 18 k).2.2.1 = some (ek_ty 18 k)) ∧ (∀ a, a < ek_N 18 → ∀ b, b < ek_N 18 → a ≠ b → (ek_T 18 a).2.1 ≠ (ek_T 18 b).2.1) := by decide +kernel
theorem ek_in {kd : Nat} (h1 : 8 ≤ kd) (h2 : kd < 19) : ∀ w ∈ u_ws (ek_nm kd) (ek_T kd) (ek_N kd), w ∈ ex_TS := by
  rcases (show kd = 8 ∨ kd = 9 ∨ kd = 10 ∨ kd = 11 ∨ kd = 12 ∨ kd = 13 ∨ kd = 14 ∨ kd = 15 ∨ kd = 16 ∨ kd = 17 ∨ kd = 18 by omega) with rfl | rfl | rfl | rfl | rfl | rfl | rfl | rfl | rfl | rfl | rfl
  · exact ek_in8
  · exact ek_in9
  · exact ek_in10
  · exact ek_in11
  · exact ek_in12
  · exact ek_in13
  · exact ek_in14
  · exact ek_in15
  · exact ek_in16
  · exact ek_in17
  · exact ek_in18
theorem ek_ok {kd : Nat} (h1 : 8 ≤ kd) (h2 : kd < 19) : (∀ k, k < ek_N kd → parseFieldDescriptor (ek_T kd k).2.2.1 = some (ek_ty kd k)) ∧ (∀ a, a < ek_N kd → ∀ b, b < ek_N kd → a ≠ b → (ek_T kd a).2.1 ≠ (ek_T kd b).2.1) := by
  rcases (show kd = 8 ∨ kd = 9 ∨ kd = 10 ∨ kd = 11 ∨ kd = 12 ∨ kd = 13 ∨ kd = 14 ∨ kd = 15 ∨ kd = 16 ∨ kd = 17 ∨ kd = 18 by omega) with rfl | rfl | rfl | rfl | rfl | rfl | rfl | rfl | rfl | rfl | rfl
  · exact ek_ok8
  · exact ek_ok9
  · exact ek_ok10
  · exact ek_ok11
  · exact ek_ok12
  · exact ek_ok13
  · exact ek_ok14
  · exact ek_ok15
  · exact ek_ok16
  · exact ek_ok17
  · exact ek_ok18
/-- the places of a class's fields are apart -/
theorem ex_inj {D : Nat → ClassId} {I : Nat → Nat → Nat} {s : State} {args : Array Value} (hK : ex_KF D I s) (hts : ∀ w ∈ ex_TS, w.before args s = true) {kd : Nat} (h1 : 8 ≤ kd) (h2 : kd < 19) : ∀ x y, x < ek_N kd → y < ek_N kd → x ≠ y → I kd x ≠ I kd y :=
  va_apart (D := (fun _ => D kd, fun _ => I kd)) (cl := [(ek_nm kd, ek_T kd, ek_N kd)]) (tys := []) (own := "") (ci := 0) hts (ek_in h1 h2) (ek_ty kd) (ek_ok h1 h2).1 (ek_ok h1 h2).2
    ⟨fun c q hq => by
      cases c with
      | zero => cases hq; exact hK.1 kd h1 h2
      | succ c => simp at hq, fun k q hq => by simp at hq⟩ rfl
