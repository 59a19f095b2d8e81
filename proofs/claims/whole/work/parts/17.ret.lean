/-! one step is one instruction: returns -/
section EH
variable {p : Program} {l : Launch} {e : Env} {R : Room} {s : State} {m : MethodId} {args : Array Value} {below : List Frame} {meth : Method} {c : Code} {Q : State → Prop} {Fin : Nat → ev_M → Nat → Nat → Nat → Prop}
variable {D : Nat → ClassId} {I : Nat → Nat → Nat} {al0 : Nat → Nat} {B0 : Nat → Nat → Nat → Prop} {nL : Nat}
variable {cd : ByteArray} {w pc L S top cc ss : Nat} {M : ev_M} {al : Nat → Nat} {B : Nat → Nat → Nat → Prop} {H : Heap} {ls : Array Slot} {stk : List Value} {locs : List Loc}
/-- what follows from an answer -/
def ex_HF (p : Program) (l : Launch) (e : Env) (R : Room) (s : State) (m : MethodId) (args : Array Value) (below : List Frame) (meth : Method) (c : Code) (Q : State → Prop) (Fin : Nat → ev_M → Nat → Nat → Nat → Prop) (D : Nat → ClassId) (I : Nat → Nat → Nat) (al0 : Nat → Nat) (B0 : Nat → Nat → Nat → Prop) (nL : Nat) (cd : ByteArray) (ret : Option FieldType) : Prop :=
  ∀ (v : Nat) (M : ev_M) (top cc ss : Nat), Fin v M top cc ss → ∀ (al : Nat → Nat) (B : Nat → Nat → Nat → Prop) (H : Heap) (ls : Array Slot) (stk : List Value) (locs : List Loc) (L S pc : Nat), ex_Cfg D I al0 B0 nL s al B M top L S ss H ls stk locs →
    ((v = 0 ∧ stk = [] ∧ ret = none ∧ decode cd pc = .ok (.return_, 1)) ∨ (eg_ok B v ∧ stk = [eg_val al v] ∧ ((v % 4 = 1 ∧ ((ret = some .int) ∨ (ret = some .boolean ∧ v / 4 ≤ 1) ∨ (ret = some .char ∧ v / 4 ≤ 65535) ∨ (ret = some .byte ∧ v / 4 ≤ 127)) ∧ decode cd pc = .ok (.ireturn, 1)) ∨ (v % 4 = 3 ∧ ret = some .long ∧ decode cd pc = .ok (.lreturn, 1)) ∨ ((v % 4 = 2 ∨ v = 4) ∧ (∃ rt, ret = some rt ∧ rt.isReference = true) ∧ decode cd pc = .ok (.areturn, 1))))) → W p l e R s m args below meth c H locs cc ss Q (F0 m pc ls stk)
def ip_ret (cd : ByteArray) (ret : Option FieldType) (pc : Nat) : Prop := ret = none ∧ decode cd pc = .ok (.return_, 1)
theorem ex_stk0 {stk : List Value} {al : Nat → Nat} {B : Nat → Nat → Nat → Prop} (h : ex_stk al B stk 0) : stk = [] := by
  cases stk with
  | nil => rfl
  | cons v r =>
    obtain ⟨w, S2, h1, h2, -⟩ := h
    have h3 := h2.ne0
    have : ew_W = 4722366482869645213696 := rfl
    omega
theorem eh_ret {ret : Option FieldType} (hI : ip_ret cd ret pc) (hF : ex_HF p l e R s m args below meth c Q Fin D I al0 B0 nL cd ret) (h : ex_G p l e R s m args below meth c Q Fin D I al0 B0 nL (ev_o_ret w pc L S M top cc ss)) (hc : ex_Cfg D I al0 B0 nL s al B M top L S ss H ls stk locs) : W p l e R s m args below meth c H locs cc ss Q (F0 m pc ls stk) := by
  unfold ev_o_ret at h
  refine ex_ite h (fun hb0 h => ?_) (fun _ h => ex_badG h)
  have hS : S = 0 := ev_beqE.mp hb0
  subst hS
  have hst := ex_stk0 hc.2.2.2.2.1
  subst hst
  exact hF 0 M top cc ss (h.2.1 rfl).2 al B H ls [] locs L 0 pc hc (Or.inl ⟨rfl, rfl, hI.1, hI.2⟩)
def ip_vret (cd : ByteArray) (ret : Option FieldType) (pc w : Nat) : Prop := (ev_b w = 1 ∧ (ret = some .int ∨ (ret = some .boolean ∧ ev_a w = 1) ∨ (ret = some .char ∧ ev_a w = 65535) ∨ (ret = some .byte ∧ ev_a w = 127)) ∧ decode cd pc = .ok (.ireturn, 1)) ∨
  (ev_b w = 3 ∧ ret = some .long ∧ decode cd pc = .ok (.lreturn, 1)) ∨ (ev_b w = 2 ∧ (match ret with | some rt => rt.isReference | none => false) = true ∧ decode cd pc = .ok (.areturn, 1))
theorem eh_vret {ret : Option FieldType} (hI : ip_vret cd ret pc w) (hF : ex_HF p l e R s m args below meth c Q Fin D I al0 B0 nL cd ret) (h : ex_G p l e R s m args below meth c Q Fin D I al0 B0 nL (ev_o_vret w pc L S M top cc ss)) (hc : ex_Cfg D I al0 B0 nL s al B M top L S ss H ls stk locs) : W p l e R s m args below meth c H locs cc ss Q (F0 m pc ls stk) := by
  refine ex_1v (S := S) (stk := stk) (al := al) (B := B) h hc.2.2.2.2.1 (fun v r S2 e1 hv h2 h => ?_)
  subst e1
  refine ex_ite h (fun hb0 h9 => ?_) (fun _ h => ex_badG h)
  obtain ⟨q1, q3⟩ := Bool.and_eq_true_iff.mp hb0
  obtain ⟨q2, q4⟩ := Bool.and_eq_true_iff.mp q3
  have hS : S2 = 0 := ev_beqE.mp q1
  subst hS
  have hst := ex_stk0 h2
  subst hst
  refine hF v M top cc ss (h9.2.1 rfl).2 al B H ls [eg_val al v] locs L S pc hc (Or.inr ⟨hv, rfl, ?_⟩)
  rw [ec_c] at q2
  rw [ex_shr2] at q4
  rcases hI with ⟨i1, i3, i2⟩ | ⟨i1, i3, i2⟩ | ⟨i1, i3, i2⟩
  · rw [if_neg (fun z => by have := ev_beqE.mp z; omega), i1] at q2
    have hle : v / 4 ≤ ev_a w := by
      rcases Bool.or_eq_true_iff.mp q4 with z | z
      · have := Nat.le_of_ble_eq_true z
        omega
      · exact Nat.le_of_ble_eq_true z
    refine Or.inl ⟨(ev_tagE _ _).mp q2, ?_, i2⟩
    rcases i3 with i3 | ⟨i3, i4⟩ | ⟨i3, i4⟩ | ⟨i3, i4⟩
    · exact Or.inl i3
    · exact Or.inr (Or.inl ⟨i3, by omega⟩)
    · exact Or.inr (Or.inr (Or.inl ⟨i3, by omega⟩))
    · exact Or.inr (Or.inr (Or.inr ⟨i3, by omega⟩))
  · rw [if_neg (fun z => by have := ev_beqE.mp z; omega), i1] at q2
    exact Or.inr (Or.inl ⟨(ev_tagE _ _).mp q2, i3, i2⟩)
  · rw [if_pos (ev_beqE.mpr i1)] at q2
    refine Or.inr (Or.inr ⟨(ev_isAE _).mp q2, ?_, i2⟩)
    cases ret with
    | none => cases i3
    | some rt => exact ⟨rt, rfl, i3⟩
/-- the arguments of a call, off the stack -/
def ex_av (al : Nat → Nat) (B : Nat → Nat → Nat → Prop) : List Value → Nat → Prop
  | [], L => L = 0
  | v :: r, L => ∃ w L2, L = w + (if w % 4 = 3 then ew_W * ew_W else ew_W) * L2 ∧ eg_ok B w ∧ v = eg_val al w ∧ ex_av al B r L2
theorem ex_args {G : Prop} {k : Nat → Nat → ev_St} {al : Nat → Nat} {B : Nat → Nat → Nat → Prop} : ∀ (n : Nat) {L S : Nat} {stk vs : List Value}, ex_G p l e R s m args below meth c Q Fin D I al0 B0 nL (ev_args n M k L S) → ex_stk al B stk S → ex_av al B vs L →
    (∀ (us r : List Value) (L2 S2 : Nat), us.length = n → stk = us.reverse ++ r → ex_stk al B r S2 → ex_av al B (us ++ vs) L2 → ex_G p l e R s m args below meth c Q Fin D I al0 B0 nL (k L2 S2) → G) → G := by
  intro n
  induction n with
  | zero => exact fun h hs hv kk => kk [] _ _ _ rfl rfl hs hv h
  | succ n ih =>
    intro L S stk vs h hs hv kk
    refine ex_1v (S := S) (stk := stk) (al := al) (B := B) (M := M) (k := fun v r => ev_f (Nat.add v (Nat.mul (ev_c (ev_tag v 3) (Nat.mul 4722366482869645213696 4722366482869645213696) 4722366482869645213696) L)) fun L2 => ev_args n M k L2 r) h hs (fun v r S2 e1 hw h2 h => ?_)
    rw [ec_f] at h
    refine ih (vs := eg_val al v :: vs) h h2 ⟨v, L, ?_, hw, rfl, hv⟩ (fun us r2 L2 S3 g1 g2 g3 g4 g5 => ?_)
    · rw [ec_c]
      by_cases hz : v % 4 = 3
      · rw [if_pos ((ev_tagE _ _).mpr hz), if_pos hz]; rfl
      · rw [if_neg (fun z => hz ((ev_tagE _ _).mp z)), if_neg hz]; rfl
    · refine kk (us ++ [eg_val al v]) r2 L2 S3 (by rw [List.length_append, g1]; rfl) ?_ g3 (by rw [List.append_assoc]; exact g4) g5
      rw [e1, g2, List.reverse_append]
      rfl
end EH
