/-! the frame of a method, in numbers; what follows from one step -/
def eg_tot (H : Heap) : Nat := (H.toList.map fun c => c.slots.size).sum
theorem eg_tot_same {H H' : Heap} (hz : H'.size = H.size) (h : ∀ q : Nat, (H'[q]?).map (fun c : Cell => c.slots.size) = (H[q]?).map (fun c : Cell => c.slots.size)) : eg_tot H' = eg_tot H := by
  unfold eg_tot
  congr 1
  apply List.ext_getElem?
  intro i
  have h1 := h i
  rw [List.getElem?_map, List.getElem?_map, Array.getElem?_toList, Array.getElem?_toList]
  exact h1
theorem eg_tot_push {H H' : Heap} {cell : Cell} (hz : H'.size = H.size + 1) (hn : H'[H.size]? = some cell) (h : ∀ q : Nat, q < H.size → H'[q]? = H[q]?) : eg_tot H' = eg_tot H + cell.slots.size := by
  have e : H' = H.push cell := by
    apply Array.ext_getElem?
    intro i
    rw [Array.getElem?_push]
    split
    next hi => rw [hi]; exact hn
    next hi =>
      rcases Nat.lt_or_ge i H.size with q | q
      · exact h i q
      · rw [Array.getElem?_eq_none (by omega), Array.getElem?_eq_none (by omega)]
  rw [e, eg_tot, eg_tot, Array.toList_push, List.map_append, List.sum_append]
  simp
theorem eg_tot_set {H H' : Heap} {a i : Nat} {cell : Cell} {v : Value} (hz : H'.size = H.size) (hc : H[a]? = some cell) (h1 : H'[a]? = some (cell.setSlot i v)) (ho : ∀ q, q ≠ a → H'[q]? = H[q]?) : eg_tot H' = eg_tot H := by
  refine eg_tot_same hz (fun q => ?_)
  by_cases h : q = a
  · subst h
    rw [h1, hc]
    simp [(eg_setCls cell i v).2.2]
  · rw [ho q h]
def ex_loc (nL : Nat) (al : Nat → Nat) (B : Nat → Nat → Nat → Prop) (ls : Array Slot) (L : Nat) : Prop := ls.size = nL ∧ lv_wf ls ∧ ∀ i, ew_wd L i ≠ 0 → eg_ok B (ew_wd L i) ∧ ls[i]? = some (.val (eg_val al (ew_wd L i)))
def ex_stk (al : Nat → Nat) (B : Nat → Nat → Nat → Prop) : List Value → Nat → Prop
  | [], S => S = 0
  | v :: r, S => ∃ w S2, S = S2 * ew_W + w ∧ eg_ok B w ∧ v = eg_val al w ∧ ex_stk al B r S2
theorem ex_loc.ext {nL : Nat} {al al' : Nat → Nat} {B B' : Nat → Nat → Nat → Prop} {ls : Array Slot} {L : Nat} (h : ex_loc nL al B ls L) (x : eg_X al B al' B') : ex_loc nL al' B' ls L :=
  ⟨h.1, h.2.1, fun i hi => ⟨((h.2.2 i hi).1.ext x).1, by rw [((h.2.2 i hi).1.ext x).2]; exact (h.2.2 i hi).2⟩⟩
theorem ex_stk.ext {al al' : Nat → Nat} {B B' : Nat → Nat → Nat → Prop} (x : eg_X al B al' B') : ∀ {stk : List Value} {S : Nat}, ex_stk al B stk S → ex_stk al' B' stk S
  | [], _, h => h
  | _ :: _, _, ⟨w, S2, h1, h2, h3, h4⟩ => ⟨w, S2, h1, (h2.ext x).1, by rw [(h2.ext x).2]; exact h3, ex_stk.ext x h4⟩
theorem ex_top {al : Nat → Nat} {B : Nat → Nat → Nat → Prop} {stk : List Value} {S : Nat} (h : ex_stk al B stk S) (h0 : S % ew_W ≠ 0) : ∃ r, stk = eg_val al (S % ew_W) :: r ∧ eg_ok B (S % ew_W) ∧ ex_stk al B r (S / ew_W) := by
  cases stk with
  | nil => exact absurd (by rw [show S = 0 from h]; rfl) h0
  | cons v r =>
    obtain ⟨w, S2, h1, h2, h3, h4⟩ := h
    have e1 : S % ew_W = w := by rw [h1, Nat.mul_comm, Nat.mul_add_mod, Nat.mod_eq_of_lt h2.1]
    have e2 : S / ew_W = S2 := by rw [h1, Nat.mul_comm, Nat.mul_add_div (by decide), Nat.div_eq_of_lt h2.1, Nat.add_zero]
    rw [e1, e2]
    exact ⟨r, by rw [h3], h2, h4⟩
theorem ex_push {al : Nat → Nat} {B : Nat → Nat → Nat → Prop} {stk : List Value} {S w : Nat} {v : Value} (h : ex_stk al B stk S) (hw : eg_ok B w) (hv : v = eg_val al w) : ex_stk al B (v :: stk) (ev_ps S w) := ⟨w, S, rfl, hw, hv, h⟩
theorem ev_beqE {a b : Nat} : Nat.beq a b = true ↔ a = b := Iff.of_eq Nat.beq_eq
theorem ev_tagE (v t : Nat) : ev_tag v t = true ↔ v % 4 = t := by
  show Nat.beq (v &&& 3) t = true ↔ _
  rw [show v &&& 3 = v % 4 from Nat.and_two_pow_sub_one_eq_mod v 2]
  exact ev_beqE
theorem ev_isAE (v : Nat) : ev_isA v = true ↔ (v % 4 = 2 ∨ v = 4) := by
  show (ev_tag v 2 || Nat.beq v 4) = true ↔ _
  rw [Bool.or_eq_true, ev_tagE, ev_beqE]
section EX
variable {p : Program} {l : Launch} {e : Env} {R : Room} {s : State} {m : MethodId} {args : Array Value} {below : List Frame} {meth : Method} {c : Code} {Q : State → Prop} {Fin : Nat → ev_M → Nat → Nat → Nat → Prop}
variable {D : Nat → ClassId} {I : Nat → Nat → Nat} {al0 : Nat → Nat} {B0 : Nat → Nat → Nat → Prop} {nL : Nat}
/-- the cells of before that may be written, and all new ones -/
def ex_A (al0 : Nat → Nat) (B0 : Nat → Nat → Nat → Prop) (s : State) : Nat → Prop := fun q => (∃ b kd n, B0 b kd n ∧ ev_C ≤ b ∧ al0 b = q) ∨ s.heap.size ≤ q
def ex_Cfg (D : Nat → ClassId) (I : Nat → Nat → Nat) (al0 : Nat → Nat) (B0 : Nat → Nat → Nat → Prop) (nL : Nat) (s : State) (al : Nat → Nat) (B : Nat → Nat → Nat → Prop) (M : ev_M) (top L S cnt : Nat) (H : Heap) (ls : Array Slot) (stk : List Value) (locs : List Loc) : Prop :=
  eg_R D I al B M top H ∧ eg_X al0 B0 al B ∧ (∀ b kd n, B b kd n → B0 b kd n ∨ (s.heap.size ≤ al b ∧ ev_C ≤ b)) ∧ ex_loc nL al B ls L ∧ ex_stk al B stk S ∧ va_S (ex_A al0 B0 s) s.heap H locs ∧ eg_tot H = eg_tot s.heap + cnt ∧ ev_C ≤ top
def ex_G9 (p : Program) (l : Launch) (e : Env) (R : Room) (s : State) (m : MethodId) (args : Array Value) (below : List Frame) (meth : Method) (c : Code) (Q : State → Prop) (Fin : Nat → ev_M → Nat → Nat → Nat → Prop) (D : Nat → ClassId) (I : Nat → Nat → Nat) (al0 : Nat → Nat) (B0 : Nat → Nat → Nat → Prop) (nL : Nat)
    (stat pc L S : Nat) (M : ev_M) (top cc ss : Nat) : Prop :=
  (stat = 0 → (cc ≤ R.cells ∧ ss ≤ R.slots) ∧ ∀ al B H ls stk locs, ex_Cfg D I al0 B0 nL s al B M top L S ss H ls stk locs → W p l e R s m args below meth c H locs cc ss Q (F0 m pc ls stk)) ∧ (stat = 1 → (cc ≤ R.cells ∧ ss ≤ R.slots) ∧ Fin S M top cc ss) ∧ (stat = 0 ∨ stat = 1)
def ex_G (p : Program) (l : Launch) (e : Env) (R : Room) (s : State) (m : MethodId) (args : Array Value) (below : List Frame) (meth : Method) (c : Code) (Q : State → Prop) (Fin : Nat → ev_M → Nat → Nat → Nat → Prop) (D : Nat → ClassId) (I : Nat → Nat → Nat) (al0 : Nat → Nat) (B0 : Nat → Nat → Nat → Prop) (nL : Nat) (st : ev_St) : Prop :=
  ex_G9 p l e R s m args below meth c Q Fin D I al0 B0 nL st.1 st.2.1 st.2.2.1 st.2.2.2.1 st.2.2.2.2.1 st.2.2.2.2.2.1 st.2.2.2.2.2.2.1 st.2.2.2.2.2.2.2
abbrev ex_GG (p : Program) (l : Launch) (e : Env) (R : Room) (s : State) (m : MethodId) (args : Array Value) (below : List Frame) (meth : Method) (c : Code) (Q : State → Prop) (Fin : Nat → ev_M → Nat → Nat → Nat → Prop) (D : Nat → ClassId) (I : Nat → Nat → Nat) (al0 : Nat → Nat) (B0 : Nat → Nat → Nat → Prop) (nL : Nat) : ev_St → Prop := ex_G p l e R s m args below meth c Q Fin D I al0 B0 nL
theorem ex_badG {M : ev_M} {G : Prop} (h : ex_G p l e R s m args below meth c Q Fin D I al0 B0 nL (ev_bad M)) : G := by
  have h3 : (2 : Nat) = 0 ∨ (2 : Nat) = 1 := h.2.2
  omega
theorem ex_nx {w pc L S top cc ss : Nat} {M : ev_M} (h : ex_G p l e R s m args below meth c Q Fin D I al0 B0 nL (ev_nx w pc L S M top cc ss)) {al : Nat → Nat} {B : Nat → Nat → Nat → Prop} {H : Heap} {ls : Array Slot} {stk : List Value} {locs : List Loc}
    (hc : ex_Cfg D I al0 B0 nL s al B M top L S ss H ls stk locs) : W p l e R s m args below meth c H locs cc ss Q (F0 m (pc + ev_len w) ls stk) := by
  unfold ev_nx at h
  rw [ec_f, ec_f] at h
  exact (h.1 rfl).2 al B H ls stk locs hc
theorem ex_jp {pc L S top cc ss : Nat} {M : ev_M} (h : ex_G p l e R s m args below meth c Q Fin D I al0 B0 nL (ev_jp pc L S M top cc ss)) {al : Nat → Nat} {B : Nat → Nat → Nat → Prop} {H : Heap} {ls : Array Slot} {stk : List Value} {locs : List Loc}
    (hc : ex_Cfg D I al0 B0 nL s al B M top L S ss H ls stk locs) : W p l e R s m args below meth c H locs cc ss Q (F0 m pc ls stk) := by
  unfold ev_jp at h
  rw [ec_f, ec_f] at h
  exact (h.1 rfl).2 al B H ls stk locs hc
theorem ex_ite {b : Bool} {x y : ev_St} {G : Prop} (h : ex_G p l e R s m args below meth c Q Fin D I al0 B0 nL (ev_c b x y)) (kt : b = true → ex_G p l e R s m args below meth c Q Fin D I al0 B0 nL x → G) (kf : b = false → ex_G p l e R s m args below meth c Q Fin D I al0 B0 nL y → G) : G := by
  cases b with
  | true => exact kt rfl h
  | false => exact kf rfl h
/-- a value off the stack -/
theorem ex_1v {S : Nat} {M : ev_M} {k : Nat → Nat → ev_St} {G : Prop} {al : Nat → Nat} {B : Nat → Nat → Nat → Prop} {stk : List Value} (h : ex_G p l e R s m args below meth c Q Fin D I al0 B0 nL (ev_1v S M k)) (hs : ex_stk al B stk S)
    (kk : ∀ v r S2, stk = eg_val al v :: r → eg_ok B v → ex_stk al B r S2 → ex_G p l e R s m args below meth c Q Fin D I al0 B0 nL (k v S2) → G) : G := by
  unfold ev_1v ev_top at h
  rw [ec_f, ec_f] at h
  refine ex_ite h (fun _ h => ex_badG h) (fun hb h => ?_)
  have h0 : S % ew_W ≠ 0 := fun z => by
    have : Nat.beq (Nat.mod S 4722366482869645213696) 0 = true := ev_beqE.mpr z
    rw [this] at hb
    cases hb
  obtain ⟨r, e1, e2, e3⟩ := ex_top hs h0
  exact kk _ r _ e1 e2 e3 h
theorem ex_shr2 (v : Nat) : Nat.shiftRight v 2 = v / 4 := Nat.shiftRight_eq_div_pow v 2
theorem ex_shr8 (v : Nat) : Nat.shiftRight v 8 = v / 256 := Nat.shiftRight_eq_div_pow v 8
theorem ex_1i {S : Nat} {M : ev_M} {k : Nat → Nat → ev_St} {G : Prop} {al : Nat → Nat} {B : Nat → Nat → Nat → Prop} {stk : List Value} (h : ex_G p l e R s m args below meth c Q Fin D I al0 B0 nL (ev_1i S M k)) (hs : ex_stk al B stk S)
    (kk : ∀ n r S2, stk = .int (nI n) :: r → n < 4294967296 → ex_stk al B r S2 → ex_G p l e R s m args below meth c Q Fin D I al0 B0 nL (k n S2) → G) : G := by
  unfold ev_1i ev_top at h
  rw [ec_f, ec_f] at h
  refine ex_ite h (fun hb h => ?_) (fun _ h => ex_badG h)
  rw [ec_f, ex_shr2] at h
  have ht : S % ew_W % 4 = 1 := (ev_tagE _ _).mp hb
  obtain ⟨r, e1, e2, e3⟩ := ex_top hs (fun z => by rw [z] at ht; exact absurd ht (by decide))
  rw [eg_val_i _ ht] at e1
  refine kk _ r _ e1 ?_ e3 h
  rcases e2.2 with q | q | q | q
  · exact q.2
  · omega
  · omega
  · omega
theorem ex_1l {S : Nat} {M : ev_M} {k : Nat → Nat → ev_St} {G : Prop} {al : Nat → Nat} {B : Nat → Nat → Nat → Prop} {stk : List Value} (h : ex_G p l e R s m args below meth c Q Fin D I al0 B0 nL (ev_1l S M k)) (hs : ex_stk al B stk S)
    (kk : ∀ n r S2, stk = .long (lN n) :: r → n < 18446744073709551616 → ex_stk al B r S2 → ex_G p l e R s m args below meth c Q Fin D I al0 B0 nL (k n S2) → G) : G := by
  unfold ev_1l ev_top at h
  rw [ec_f, ec_f] at h
  refine ex_ite h (fun hb h => ?_) (fun _ h => ex_badG h)
  rw [ec_f, ex_shr2] at h
  have ht : S % ew_W % 4 = 3 := (ev_tagE _ _).mp hb
  obtain ⟨r, e1, e2, e3⟩ := ex_top hs (fun z => by rw [z] at ht; exact absurd ht (by decide))
  rw [eg_val_l _ ht] at e1
  refine kk _ r _ e1 ?_ e3 h
  rcases e2.2 with q | q | q | q
  · omega
  · exact q.2
  · omega
  · omega
theorem ex_1r {S kd : Nat} {M : ev_M} {k : Nat → Nat → ev_St} {G : Prop} {al : Nat → Nat} {B : Nat → Nat → Nat → Prop} {stk : List Value} (h : ex_G p l e R s m args below meth c Q Fin D I al0 B0 nL (ev_1r S kd M k)) (hs : ex_stk al B stk S)
    (kk : ∀ b n r S2, stk = .ref (al b) :: r → B b kd n → ex_stk al B r S2 → ex_G p l e R s m args below meth c Q Fin D I al0 B0 nL (k b S2) → G) : G := by
  unfold ev_1r ev_top at h
  rw [ec_f, ec_f] at h
  refine ex_ite h (fun hb h => ?_) (fun _ h => ex_badG h)
  refine ex_ite h (fun hk h => ?_) (fun _ h => ex_badG h)
  rw [ec_f, ex_shr8] at h
  have ht : S % ew_W % 4 = 2 := (ev_tagE _ _).mp hb
  have hk' : S % ew_W / 4 % 64 = kd := by
    have h9 := ev_beqE.mp hk
    rw [ex_shr2] at h9
    rw [show S % ew_W / 4 % 64 = Nat.land (S % ew_W / 4) 63 from (em_lo _).symm]
    exact h9
  obtain ⟨r, e1, e2, e3⟩ := ex_top hs (fun z => by rw [z] at ht; exact absurd ht (by decide))
  rw [eg_val_r _ ht] at e1
  rcases e2.2 with q | q | ⟨_, n, q⟩ | q
  · omega
  · omega
  · rw [hk'] at q
    exact kk _ n r _ e1 q e3 h
  · omega
/-- the stack alone has changed -/
theorem ex_Cfg.stk {al : Nat → Nat} {B : Nat → Nat → Nat → Prop} {M : ev_M} {top L S S' cnt : Nat} {H : Heap} {ls : Array Slot} {stk stk' : List Value} {locs : List Loc} (h : ex_Cfg D I al0 B0 nL s al B M top L S cnt H ls stk locs) (h2 : ex_stk al B stk' S') :
    ex_Cfg D I al0 B0 nL s al B M top L S' cnt H ls stk' locs := ⟨h.1, h.2.1, h.2.2.1, h.2.2.2.1, h2, h.2.2.2.2.2⟩
end EX
