/-! one step is one instruction: locals, branches -/
def ex_lv (nL : Nat) (al : Nat → Nat) (L : Nat) : List (Nat × Value) := (List.range nL).filterMap (fun i => if ew_wd L i = 0 then none else some (i, eg_val al (ew_wd L i)))
theorem ex_lv_mem {nL : Nat} {al : Nat → Nat} {L : Nat} {q : Nat × Value} : q ∈ ex_lv nL al L ↔ q.1 < nL ∧ ew_wd L q.1 ≠ 0 ∧ q.2 = eg_val al (ew_wd L q.1) := by
  unfold ex_lv
  rw [List.mem_filterMap]
  constructor
  · rintro ⟨i, hi, h⟩
    split at h
    · cases h
    · cases h
      exact ⟨List.mem_range.mp hi, by assumption, rfl⟩
  · rintro ⟨h1, h2, h3⟩
    refine ⟨q.1, List.mem_range.mpr h1, ?_⟩
    rw [if_neg h2, ← h3]
theorem ex_loc.has {nL : Nat} {al : Nat → Nat} {B : Nat → Nat → Nat → Prop} {ls : Array Slot} {L : Nat} (h : ex_loc nL al B ls L) : lv_has ls nL (ex_lv nL al L) :=
  ⟨h.1, h.2.1, fun q hq => by
    obtain ⟨h1, h2, h3⟩ := ex_lv_mem.mp hq
    rw [h3]
    exact (h.2.2 q.1 h2).2⟩
theorem ex_loc.lt {nL : Nat} {al : Nat → Nat} {B : Nat → Nat → Nat → Prop} {ls : Array Slot} {L i : Nat} (h : ex_loc nL al B ls L) (hi : ew_wd L i ≠ 0) : i < nL := by
  have := lv_lt (h.2.2 i hi).2
  rw [h.1] at this
  exact this
/-- behind a store of one word -/
theorem ex_loc.st1 {nL : Nat} {al : Nat → Nat} {B : Nat → Nat → Nat → Prop} {ls ls' : Array Slot} {L a v : Nat} (h : ex_loc nL al B ls L) (hv : eg_ok B v) (hp : ∀ i, i + 1 = a → ¬ ew_wd L i % 4 = 3)
    (h2 : lv_has ls' nL ((a, eg_val al v) :: (ex_lv nL al L).filter (fun q => !(q.1 == a) && !(q.1 + 1 == a && q.2.category == 2)))) : ex_loc nL al B ls' (ew_put L a v) := by
  refine ⟨h2.1, h2.2.1, fun i hi => ?_⟩
  rw [ew_put_wd hv.1] at hi ⊢
  by_cases hia : i = a
  · subst hia
    rw [if_pos rfl]
    exact ⟨hv, h2.2.2 _ List.mem_cons_self⟩
  · rw [if_neg hia] at hi ⊢
    obtain ⟨g1, g2⟩ := h.2.2 i hi
    refine ⟨g1, h2.2.2 (i, eg_val al (ew_wd L i)) (List.mem_cons_of_mem _ (List.mem_filter.mpr ⟨ex_lv_mem.mpr ⟨h.lt hi, hi, rfl⟩, ?_⟩))⟩
    have h3 : ¬ (i + 1 = a ∧ (eg_val al (ew_wd L i)).category = 2) := by
      rintro ⟨q1, q2⟩
      have := eh_cat (al := al) (ew_wd L i) g1 (hp i q1)
      omega
    simp only [Bool.and_eq_true, Bool.not_eq_true', beq_eq_false_iff_ne, ne_eq, Bool.and_eq_false_iff]
    refine ⟨hia, ?_⟩
    by_cases q1 : i + 1 = a
    · exact Or.inr (fun q2 => h3 ⟨q1, q2⟩)
    · exact Or.inl q1
theorem ex_loc.st2 {nL : Nat} {al : Nat → Nat} {B : Nat → Nat → Nat → Prop} {ls ls' : Array Slot} {L a v : Nat} (h : ex_loc nL al B ls L) (hv : eg_ok B v) (hp : ∀ i, i + 1 = a → ¬ ew_wd L i % 4 = 3)
    (h2 : lv_has ls' nL ((a, eg_val al v) :: (ex_lv nL al L).filter (fun q => !(q.1 == a) && (!(q.1 == a + 1) && !(q.1 + 1 == a && q.2.category == 2))))) : ex_loc nL al B ls' (ew_put (ew_put L a v) (a + 1) 0) := by
  refine ⟨h2.1, h2.2.1, fun i hi => ?_⟩
  rw [ew_put_wd (by decide)] at hi ⊢
  by_cases hi1 : i = a + 1
  · rw [if_pos hi1] at hi
    exact absurd rfl hi
  rw [if_neg hi1] at hi ⊢
  rw [ew_put_wd hv.1] at hi ⊢
  by_cases hia : i = a
  · subst hia
    rw [if_pos rfl]
    exact ⟨hv, h2.2.2 _ List.mem_cons_self⟩
  · rw [if_neg hia] at hi ⊢
    obtain ⟨g1, g2⟩ := h.2.2 i hi
    refine ⟨g1, h2.2.2 (i, eg_val al (ew_wd L i)) (List.mem_cons_of_mem _ (List.mem_filter.mpr ⟨ex_lv_mem.mpr ⟨h.lt hi, hi, rfl⟩, ?_⟩))⟩
    have h3 : ¬ (i + 1 = a ∧ (eg_val al (ew_wd L i)).category = 2) := by
      rintro ⟨q1, q2⟩
      have := eh_cat (al := al) (ew_wd L i) g1 (hp i q1)
      omega
    simp only [Bool.and_eq_true, Bool.not_eq_true', beq_eq_false_iff_ne, ne_eq, Bool.and_eq_false_iff]
    refine ⟨hia, hi1, ?_⟩
    by_cases q1 : i + 1 = a
    · exact Or.inr (fun q2 => h3 ⟨q1, q2⟩)
    · exact Or.inl q1
theorem ew_up1 (L i : Nat) : ew_wd (L * ew_W) (i + 1) = ew_wd L i := by
  rw [ew_wd, ew_wd, Nat.pow_succ, Nat.mul_comm (ew_W ^ i), Nat.mul_comm L, ← Nat.div_div_eq_div_mul, Nat.mul_div_cancel_left _ (by decide)]
def ip_f4 (a : Nat) : Fin 4 := ⟨a % 4, Nat.mod_lt _ (by decide)⟩
theorem ip_f4e {a : Nat} (h : a < 4) : ((ip_f4 a : Fin 4) : Nat) = a := Nat.mod_eq_of_lt h
section EH
variable {p : Program} {l : Launch} {e : Env} {R : Room} {s : State} {m : MethodId} {args : Array Value} {below : List Frame} {meth : Method} {c : Code} {Q : State → Prop} {Fin : Nat → ev_M → Nat → Nat → Nat → Prop}
variable {D : Nat → ClassId} {I : Nat → Nat → Nat} {al0 : Nat → Nat} {B0 : Nat → Nat → Nat → Prop} {nL : Nat}
variable {cd : ByteArray} {w pc L S top cc ss : Nat} {M : ev_M} {al : Nat → Nat} {B : Nat → Nat → Nat → Prop} {H : Heap} {ls : Array Slot} {stk : List Value} {locs : List Loc}
/-- the cell of the locals a step looks at -/
theorem ip_wd (L a : Nat) : Nat.mod (Nat.shiftRight L (Nat.mul 72 a)) 4722366482869645213696 = ew_wd L a := ew_wd_eq L a
def ip_load (cd : ByteArray) (pc w : Nat) : Prop :=
  (ev_b w = 1 ∧ ((ev_len w = 2 ∧ decode cd pc = .ok (.iload (ev_a w), 2)) ∨ (ev_len w = 1 ∧ ev_a w < 4 ∧ decode cd pc = .ok (.iload_n (ip_f4 (ev_a w)), 1)))) ∨
  (ev_b w = 3 ∧ ((ev_len w = 2 ∧ decode cd pc = .ok (.lload (ev_a w), 2)) ∨ (ev_len w = 1 ∧ ev_a w < 4 ∧ decode cd pc = .ok (.lload_n (ip_f4 (ev_a w)), 1)))) ∨
  (ev_b w = 2 ∧ ((ev_len w = 2 ∧ decode cd pc = .ok (.aload (ev_a w), 2)) ∨ (ev_len w = 1 ∧ ev_a w < 4 ∧ decode cd pc = .ok (.aload_n (ip_f4 (ev_a w)), 1))))
theorem eh_load (hx : p.tables.exec = Jvm.exec) (hb : c.code = cd) (hI : ip_load cd pc w) (h : ex_G p l e R s m args below meth c Q Fin D I al0 B0 nL (ev_o_load w pc L S M top cc ss)) (hc : ex_Cfg D I al0 B0 nL s al B M top L S ss H ls stk locs) : W p l e R s m args below meth c H locs cc ss Q (F0 m pc ls stk) := by
  unfold ev_o_load at h
  rw [ec_f, ip_wd] at h
  have hl := hc.2.2.2.1
  have hs := hc.2.2.2.2.1
  refine ex_ite h (fun hb0 hh => ?_) (fun _ h => ex_badG h)
  rw [ec_c] at hb0
  rcases hI with ⟨b1, hI⟩ | ⟨b1, hI⟩ | ⟨b1, hI⟩
  · rw [b1] at hb0
    have ht : ew_wd L (ev_a w) % 4 = 1 := (ev_tagE _ _).mp hb0
    obtain ⟨g1, g2⟩ := hl.2.2 (ev_a w) (fun z => by rw [z] at ht; exact absurd ht (by decide))
    have k := ex_nx hh (hc.stk (eh_back g1 hs))
    rw [eg_val_i _ ht] at g2 k
    rcases hI with ⟨i1, i2⟩ | ⟨i1, i3, i2⟩
    · exact lv_iload hx hb i2 g2 (eh_len (w := w) k i1)
    · exact lv_iload_n hx hb i2 (ip_f4e i3) g2 (eh_len (w := w) k i1)
  · rw [b1] at hb0
    have ht : ew_wd L (ev_a w) % 4 = 3 := (ev_tagE _ _).mp hb0
    obtain ⟨g1, g2⟩ := hl.2.2 (ev_a w) (fun z => by rw [z] at ht; exact absurd ht (by decide))
    have k := ex_nx hh (hc.stk (eh_back g1 hs))
    rw [eg_val_l _ ht] at g2 k
    rcases hI with ⟨i1, i2⟩ | ⟨i1, i3, i2⟩
    · exact lv_lload hx hb i2 g2 (eh_len (w := w) k i1)
    · exact lv_lload_n hx hb i2 (ip_f4e i3) g2 (eh_len (w := w) k i1)
  · rw [b1] at hb0
    have ht : ew_wd L (ev_a w) % 4 = 2 ∨ ew_wd L (ev_a w) = 4 := (ev_isAE _).mp hb0
    obtain ⟨g1, g2⟩ := hl.2.2 (ev_a w) (fun z => by rw [z] at ht; exact absurd ht (by decide))
    have k := ex_nx hh (hc.stk (eh_back g1 hs))
    rcases ht with ht | ht
    · rw [eg_val_r _ ht] at g2 k
      rcases hI with ⟨i1, i2⟩ | ⟨i1, i3, i2⟩
      · exact lv_aload hx hb i2 g2 (eh_len (w := w) k i1)
      · exact lv_aload_n hx hb i2 (ip_f4e i3) g2 (eh_len (w := w) k i1)
    · rw [ht, eg_val_n] at g2
      rw [ht] at k
      rcases hI with ⟨i1, i2⟩ | ⟨i1, i3, i2⟩
      · exact lv_aloadN hx hb i2 g2 (eh_len (w := w) k i1)
      · exact lv_aload_nN hx hb i2 (ip_f4e i3) g2 (eh_len (w := w) k i1)
theorem ex_Cfg.loc {L' S' : Nat} {ls' : Array Slot} {stk' : List Value} (h : ex_Cfg D I al0 B0 nL s al B M top L S ss H ls stk locs) (h1 : ex_loc nL al B ls' L') (h2 : ex_stk al B stk' S') : ex_Cfg D I al0 B0 nL s al B M top L' S' ss H ls' stk' locs :=
  ⟨h.1, h.2.1, h.2.2.1, h1, h2, h.2.2.2.2.2⟩
/-- the word below the one that is written is no long -/
theorem ip_below {a : Nat} (h : ev_tag (Nat.mod (Nat.shiftRight (Nat.mul L 4722366482869645213696) (Nat.mul 72 a)) 4722366482869645213696) 3 = false) : ∀ i, i + 1 = a → ¬ ew_wd L i % 4 = 3 := by
  rw [ip_wd] at h
  rintro i rfl
  have h2 := eh_tagF h
  rw [show Nat.mul L 4722366482869645213696 = L * ew_W from rfl, ew_up1] at h2
  exact h2
def ip_store (cd : ByteArray) (nL pc w : Nat) : Prop := ev_a w < nL ∧
  ((ev_b w = 1 ∧ ((ev_len w = 2 ∧ decode cd pc = .ok (.istore (ev_a w), 2)) ∨ (ev_len w = 1 ∧ ev_a w < 4 ∧ decode cd pc = .ok (.istore_n (ip_f4 (ev_a w)), 1)))) ∨
  (ev_b w = 2 ∧ ((ev_len w = 2 ∧ decode cd pc = .ok (.astore (ev_a w), 2)) ∨ (ev_len w = 1 ∧ ev_a w < 4 ∧ decode cd pc = .ok (.astore_n (ip_f4 (ev_a w)), 1)))))
theorem eh_store (hx : p.tables.exec = Jvm.exec) (hb : c.code = cd) (hI : ip_store cd nL pc w) (h : ex_G p l e R s m args below meth c Q Fin D I al0 B0 nL (ev_o_store w pc L S M top cc ss)) (hc : ex_Cfg D I al0 B0 nL s al B M top L S ss H ls stk locs) : W p l e R s m args below meth c H locs cc ss Q (F0 m pc ls stk) := by
  refine ex_1v (S := S) (stk := stk) (al := al) (B := B) h hc.2.2.2.2.1 (fun v r S2 e1 hv h2 h => ?_)
  subst e1
  rw [ec_f] at h
  refine ex_ite h (fun hb0 hh => ?_) (fun _ h => ex_badG h)
  rw [ec_f, ew_lf] at hh
  have hl := hc.2.2.2.1
  obtain ⟨hb1, hb2⟩ : ev_c (Nat.beq (ev_b w) 2) (ev_isA v) (ev_tag v (ev_b w)) = true ∧ ev_tag (Nat.mod (Nat.shiftRight (Nat.mul L 4722366482869645213696) (Nat.mul 72 (ev_a w))) 4722366482869645213696) 3 = false := by
    have h9 := Bool.and_eq_true_iff.mp hb0
    exact ⟨h9.1, by have := h9.2; revert this; cases ev_tag (Nat.mod (Nat.shiftRight (Nat.mul L 4722366482869645213696) (Nat.mul 72 (ev_a w))) 4722366482869645213696) 3 <;> simp⟩
  have hp := ip_below hb2
  rw [ec_c] at hb1
  obtain ⟨hn, hI⟩ := hI
  have K : ∀ ls' : Array Slot, lv_has ls' nL ((ev_a w, eg_val al v) :: (ex_lv nL al L).filter (fun q => !(q.1 == ev_a w) && !(q.1 + 1 == ev_a w && q.2.category == 2))) → W p l e R s m args below meth c H locs cc ss Q (F0 m (pc + ev_len w) ls' r) :=
    fun ls' h' => ex_nx hh (hc.loc (hl.st1 hv hp h') h2)
  rcases hI with ⟨b1, hI⟩ | ⟨b1, hI⟩
  · rw [b1] at hb1
    have ht : v % 4 = 1 := (ev_tagE _ _).mp hb1
    rw [eg_val_i _ ht] at K ⊢
    rcases hI with ⟨i1, i2⟩ | ⟨i1, i3, i2⟩
    · exact lv_istore hx hb i2 hl.has hn rfl (fun ls' h' => by have k := K ls' h'; rw [i1] at k; exact k)
    · exact lv_istore_n hx hb i2 (ip_f4e i3) hl.has hn rfl (fun ls' h' => by have k := K ls' h'; rw [i1] at k; exact k)
  · rw [b1] at hb1
    have ht : v % 4 = 2 ∨ v = 4 := (ev_isAE _).mp hb1
    rcases ht with ht | ht
    · rw [eg_val_r _ ht] at K ⊢
      rcases hI with ⟨i1, i2⟩ | ⟨i1, i3, i2⟩
      · exact lv_astore hx hb i2 hl.has hn rfl (fun ls' h' => by have k := K ls' h'; rw [i1] at k; exact k)
      · exact lv_astore_n hx hb i2 (ip_f4e i3) hl.has hn rfl (fun ls' h' => by have k := K ls' h'; rw [i1] at k; exact k)
    · rw [ht, eg_val_n] at K ⊢
      rcases hI with ⟨i1, i2⟩ | ⟨i1, i3, i2⟩
      · exact lv_astoreN hx hb i2 hl.has hn rfl (fun ls' h' => by have k := K ls' h'; rw [i1] at k; exact k)
      · exact lv_astore_nN hx hb i2 (ip_f4e i3) hl.has hn rfl (fun ls' h' => by have k := K ls' h'; rw [i1] at k; exact k)
def ip_store2 (cd : ByteArray) (nL pc w : Nat) : Prop := ev_a w + 1 < nL ∧ ((ev_len w = 2 ∧ decode cd pc = .ok (.lstore (ev_a w), 2)) ∨ (ev_len w = 1 ∧ ev_a w < 4 ∧ decode cd pc = .ok (.lstore_n (ip_f4 (ev_a w)), 1)))
theorem eh_store2 (hx : p.tables.exec = Jvm.exec) (hb : c.code = cd) (hI : ip_store2 cd nL pc w) (h : ex_G p l e R s m args below meth c Q Fin D I al0 B0 nL (ev_o_store2 w pc L S M top cc ss)) (hc : ex_Cfg D I al0 B0 nL s al B M top L S ss H ls stk locs) : W p l e R s m args below meth c H locs cc ss Q (F0 m pc ls stk) := by
  refine ex_1v (S := S) (stk := stk) (al := al) (B := B) h hc.2.2.2.2.1 (fun v r S2 e1 hv h2 h => ?_)
  subst e1
  rw [ec_f] at h
  refine ex_ite h (fun hb0 hh => ?_) (fun _ h => ex_badG h)
  rw [ec_f, ew_lf, show Nat.add (Nat.mul 72 (ev_a w)) 72 = Nat.mul 72 (ev_a w + 1) from rfl, ew_lf] at hh
  have hl := hc.2.2.2.1
  obtain ⟨hb1, hb2⟩ : ev_tag v 3 = true ∧ ev_tag (Nat.mod (Nat.shiftRight (Nat.mul L 4722366482869645213696) (Nat.mul 72 (ev_a w))) 4722366482869645213696) 3 = false := by
    have h9 := Bool.and_eq_true_iff.mp hb0
    exact ⟨h9.1, by have := h9.2; revert this; cases ev_tag (Nat.mod (Nat.shiftRight (Nat.mul L 4722366482869645213696) (Nat.mul 72 (ev_a w))) 4722366482869645213696) 3 <;> simp⟩
  have hp := ip_below hb2
  obtain ⟨hn, hI⟩ := hI
  have K : ∀ ls' : Array Slot, lv_has ls' nL ((ev_a w, eg_val al v) :: (ex_lv nL al L).filter (fun q => !(q.1 == ev_a w) && (!(q.1 == ev_a w + 1) && !(q.1 + 1 == ev_a w && q.2.category == 2)))) → W p l e R s m args below meth c H locs cc ss Q (F0 m (pc + ev_len w) ls' r) :=
    fun ls' h' => ex_nx hh (hc.loc (hl.st2 hv hp h') h2)
  have ht : v % 4 = 3 := (ev_tagE _ _).mp hb1
  rw [eg_val_l _ ht] at K ⊢
  rcases hI with ⟨i1, i2⟩ | ⟨i1, i3, i2⟩
  · exact lv_lstore hx hb i2 hl.has hn rfl (fun ls' h' => by have k := K ls' h'; rw [i1] at k; exact k)
  · exact lv_lstore_n hx hb i2 (ip_f4e i3) hl.has hn rfl (fun ls' h' => by have k := K ls' h'; rw [i1] at k; exact k)
def ip_iinc (cd : ByteArray) (pc w : Nat) : Prop := ev_len w = 3 ∧ decode cd pc = .ok (.iinc (ev_b w) (ip_i (ev_a w)), 3) ∧ Int32.ofInt (ip_i (ev_a w)) = nI (ev_a w)
theorem eh_iinc (hx : p.tables.exec = Jvm.exec) (hb : c.code = cd) (hI : ip_iinc cd pc w) (h : ex_G p l e R s m args below meth c Q Fin D I al0 B0 nL (ev_o_iinc w pc L S M top cc ss)) (hc : ex_Cfg D I al0 B0 nL s al B M top L S ss H ls stk locs) : W p l e R s m args below meth c H locs cc ss Q (F0 m pc ls stk) := by
  unfold ev_o_iinc at h
  rw [ec_f, ec_f, ip_wd] at h
  refine ex_ite h (fun hb0 hh => ?_) (fun _ h => ex_badG h)
  rw [ec_f, ew_lf, ex_shr2] at hh
  have ht : ew_wd L (ev_b w) % 4 = 1 := (ev_tagE _ _).mp hb0
  have hl := hc.2.2.2.1
  have h0 : ew_wd L (ev_b w) ≠ 0 := fun z => by rw [z] at ht; exact absurd ht (by decide)
  obtain ⟨g1, g2⟩ := hl.2.2 (ev_b w) h0
  rw [eg_val_i _ ht] at g2
  have hk : (ev_b w, Value.int (nI (ew_wd L (ev_b w) / 4))) ∈ ex_lv nL al L := ex_lv_mem.mpr ⟨hl.lt h0, h0, by rw [eg_val_i _ ht]⟩
  obtain ⟨k, hk⟩ := List.getElem?_of_mem hk
  have hv : nI (ew_wd L (ev_b w) / 4) + Int32.ofInt (ip_i (ev_a w)) = nI (Nat.mod (Nat.add (ew_wd L (ev_b w) / 4) (ev_a w)) 4294967296) := by
    rw [hI.2.2]
    exact (nI_add _ _).trans (en_mod _).symm
  refine lv_iinc hx hb hI.2.1 hl.has hk hv (hl.lt h0) rfl (fun ls' h' => ?_)
  have hok : eg_ok B (Nat.add (Nat.mul 4 (Nat.mod (Nat.add (ew_wd L (ev_b w) / 4) (ev_a w)) 4294967296)) 1) := en_okI (Nat.mod_lt _ (by decide))
  have hval : eg_val al (Nat.add (Nat.mul 4 (Nat.mod (Nat.add (ew_wd L (ev_b w) / 4) (ev_a w)) 4294967296)) 1) = .int (nI (Nat.mod (Nat.add (ew_wd L (ev_b w) / 4) (ev_a w)) 4294967296)) := en_valI al _
  have k2 := ex_nx hh (hc.loc (hl.st1 (ls' := ls') hok (fun i hi hz => ?_) (by rw [hval]; exact h')) hc.2.2.2.2.1)
  · rw [hI.1] at k2
    exact k2
  · have h1 : ew_wd L i ≠ 0 := fun z => by rw [z] at hz; exact absurd hz (by decide)
    obtain ⟨q1, q2⟩ := hl.2.2 i h1
    have h9 := hl.2.1.1 i _ q2 (by rw [eg_val_l _ hz]; rfl)
    rw [hi, g2] at h9
    cases h9
end EH
