/-! what the numbers mean on the machine: al: where a base lies; B: which bases are cells, of which kind, how many places; D, I: the classes' numbers, the fields' slots -/
def eg_val (al : Nat → Nat) (v : Nat) : Value := if v % 4 = 1 then .int (nI (v / 4)) else if v % 4 = 3 then .long (lN (v / 4)) else if v % 4 = 2 then .ref (al (v / 256)) else .null
theorem eg_val_i (al : Nat → Nat) {v : Nat} (h : v % 4 = 1) : eg_val al v = .int (nI (v / 4)) := if_pos h
theorem eg_val_l (al : Nat → Nat) {v : Nat} (h : v % 4 = 3) : eg_val al v = .long (lN (v / 4)) := (if_neg (show ¬ v % 4 = 1 by omega)).trans (if_pos h)
theorem eg_val_r (al : Nat → Nat) {v : Nat} (h : v % 4 = 2) : eg_val al v = .ref (al (v / 256)) := (if_neg (show ¬ v % 4 = 1 by omega)).trans ((if_neg (show ¬ v % 4 = 3 by omega)).trans (if_pos h))
theorem eg_val_n (al : Nat → Nat) : eg_val al 4 = .null := rfl
def eg_ok (B : Nat → Nat → Nat → Prop) (v : Nat) : Prop := v < ew_W ∧ ((v % 4 = 1 ∧ v / 4 < 4294967296) ∨ (v % 4 = 3 ∧ v / 4 < 18446744073709551616) ∨ (v % 4 = 2 ∧ ∃ n, B (v / 256) (v / 4 % 64) n) ∨ v = 4)
def eg_off (kd : Nat) : Nat := if kd < 8 then 1 else 0
def eg_ix (I : Nat → Nat → Nat) (kd k : Nat) : Nat := if kd < 8 then k else I kd k
noncomputable def eg_word (M : ev_M) (b kd k : Nat) : Nat := if ev_rd M (b + eg_off kd + k) = 0 then ek_d kd k % 4 + 1 else ev_rd M (b + eg_off kd + k)
def eg_at (D : Nat → ClassId) (I : Nat → Nat → Nat) (al : Nat → Nat) (B : Nat → Nat → Nat → Prop) (M : ev_M) (b kd n : Nat) (H : Heap) : Prop :=
  ∃ cell : Cell, H[al b]? = some cell ∧ (kd = 19 ∨ (cell.cls = D kd ∧ cell.vm = .none ∧ (kd < 8 → ev_rd M b = n + 1 ∧ cell.slots.size = n) ∧ (¬ kd < 8 → n = ek_N kd) ∧
    ∀ k, k < n → eg_ok B (eg_word M b kd k) ∧ ev_ok (ek_d kd k) (eg_word M b kd k) = true ∧ cell.slots[eg_ix I kd k]? = some (eg_val al (eg_word M b kd k))))
def eg_R (D : Nat → ClassId) (I : Nat → Nat → Nat) (al : Nat → Nat) (B : Nat → Nat → Nat → Prop) (M : ev_M) (top : Nat) (H : Heap) : Prop :=
  (∀ b kd n, B b kd n → eg_at D I al B M b kd n H) ∧
  (∀ b kd n b' kd' n', B b kd n → B b' kd' n' → b = b' ∨ ((b + eg_off kd + n ≤ b' ∨ b' + eg_off kd' + n' ≤ b) ∧ al b ≠ al b')) ∧
  (∀ b kd n kd' n', B b kd n → B b kd' n' → kd = kd' ∧ n = n') ∧
  (∀ b kd n, B b kd n → b + eg_off kd + n ≤ top ∧ b < top ∧ kd < 64) ∧
  (∀ a, top ≤ a → a < 32768 → ev_rd M a = 0) ∧ top ≤ 32768
/-- more cells, the old ones where they lay -/
def eg_X (al : Nat → Nat) (B : Nat → Nat → Nat → Prop) (al' : Nat → Nat) (B' : Nat → Nat → Nat → Prop) : Prop := ∀ b kd n, B b kd n → B' b kd n ∧ al' b = al b
theorem eg_X.rf {al : Nat → Nat} {B : Nat → Nat → Nat → Prop} : eg_X al B al B := fun _ _ _ h => ⟨h, rfl⟩
theorem eg_X.tr {al al' al2 : Nat → Nat} {B B' B2 : Nat → Nat → Nat → Prop} (h : eg_X al B al' B') (h2 : eg_X al' B' al2 B2) : eg_X al B al2 B2 := fun b kd n hb => ⟨(h2 b kd n (h b kd n hb).1).1, (h2 b kd n (h b kd n hb).1).2.trans (h b kd n hb).2⟩
theorem eg_ok.ext {al al' : Nat → Nat} {B B' : Nat → Nat → Nat → Prop} {v : Nat} (h : eg_ok B v) (x : eg_X al B al' B') : eg_ok B' v ∧ eg_val al' v = eg_val al v := by
  obtain ⟨h1, h2⟩ := h
  refine ⟨⟨h1, ?_⟩, ?_⟩
  · rcases h2 with h2 | h2 | ⟨h2, n, h3⟩ | h2
    · exact Or.inl h2
    · exact Or.inr (Or.inl h2)
    · exact Or.inr (Or.inr (Or.inl ⟨h2, n, (x _ _ _ h3).1⟩))
    · exact Or.inr (Or.inr (Or.inr h2))
  · rcases h2 with h2 | h2 | ⟨h2, n, h3⟩ | h2
    · rw [eg_val_i _ h2.1, eg_val_i _ h2.1]
    · rw [eg_val_l _ h2.1, eg_val_l _ h2.1]
    · rw [eg_val_r _ h2, eg_val_r _ h2, (x _ _ _ h3).2]
    · subst h2; rfl
theorem eg_ok.ne0 {B : Nat → Nat → Nat → Prop} {v : Nat} (h : eg_ok B v) : v ≠ 0 := by
  rintro rfl
  rcases h.2 with h2 | h2 | h2 | h2
  · exact absurd h2.1 (by decide)
  · exact absurd h2.1 (by decide)
  · exact absurd h2.1 (by decide)
  · exact absurd h2 (by decide)
theorem eg_setSelf (cell : Cell) {i : Nat} (v : Value) (h : i < cell.slots.size) : (cell.setSlot i v).slots[i]? = some v := Cell.slots_setSlot_self _ h
theorem eg_setCls (cell : Cell) (i : Nat) (v : Value) : (cell.setSlot i v).cls = cell.cls ∧ (cell.setSlot i v).vm = cell.vm ∧ (cell.setSlot i v).slots.size = cell.slots.size := ⟨rfl, rfl, by simp [Cell.setSlot]⟩
theorem eg_lt {a : Array Value} {i : Nat} {v : Value} (h : a[i]? = some v) : i < a.size := (Array.getElem?_eq_some_iff.mp h).1
/-- a word of a cell is written -/
theorem eg_write {D : Nat → ClassId} {I : Nat → Nat → Nat} {al : Nat → Nat} {B : Nat → Nat → Nat → Prop} {M : ev_M} {top : Nat} {H H' : Heap} {b kd n k v : Nat} {cell : Cell} (hR : eg_R D I al B M top H) (hb : B b kd n) (hk : k < n) (hkd : kd ≠ 19)
    (hI : ¬ kd < 8 → ∀ x y, x < ek_N kd → y < ek_N kd → x ≠ y → I kd x ≠ I kd y) (hv : eg_ok B v) (ht : ev_ok (ek_d kd k) v = true) (hcell : H[al b]? = some cell)
    (h1 : H'[al b]? = some (cell.setSlot (eg_ix I kd k) (eg_val al v))) (ho : ∀ q, q ≠ al b → H'[q]? = H[q]?) : eg_R D I al B (em_up M (b + eg_off kd + k) v) top H' := by
  obtain ⟨r1, r2, r3, r4, r5, r6⟩ := hR
  have hbt := (r4 b kd n hb).1
  have hrw : ∀ a, a < 32768 → ev_rd (em_up M (b + eg_off kd + k) v) a = if a = b + eg_off kd + k then v else ev_rd M a := fun a ha => em_rw (by omega) ha hv.1
  refine ⟨fun b' kd' n' hb' => ?_, r2, r3, r4, fun a h2 h3 => ?_, r6⟩
  · obtain ⟨c', e1, e2⟩ := r1 b' kd' n' hb'
    have hbt' := (r4 b' kd' n' hb').1
    rcases r2 b kd n b' kd' n' hb hb' with hbb | ⟨hdis, hal⟩
    · subst hbb
      obtain ⟨rfl, rfl⟩ := r3 _ _ _ _ _ hb hb'
      rw [hcell] at e1
      cases e1
      obtain ⟨s1, s2, s3⟩ := eg_setCls cell (eg_ix I kd k) (eg_val al v)
      refine ⟨_, h1, ?_⟩
      rcases e2 with e2 | ⟨e2, e3, e4, e5, e6⟩
      · exact absurd e2 hkd
      · refine Or.inr ⟨by rw [s1]; exact e2, by rw [s2]; exact e3, fun h8 => ?_, e5, fun j hj => ?_⟩
        · obtain ⟨f1, f2⟩ := e4 h8
          have ho1 : eg_off kd = 1 := if_pos h8
          exact ⟨by rw [hrw b (by omega), if_neg (show ¬ b = b + eg_off kd + k by omega)]; exact f1, by rw [s3]; exact f2⟩
        · by_cases hjk : j = k
          · subst hjk
            have hw : eg_word (em_up M (b + eg_off kd + j) v) b kd j = v := by
              unfold eg_word
              rw [hrw (b + eg_off kd + j) (by omega), if_pos rfl, if_neg hv.ne0]
            rw [hw]
            exact ⟨hv, ht, eg_setSelf _ _ (eg_lt (e6 j hj).2.2)⟩
          · have hw : eg_word (em_up M (b + eg_off kd + k) v) b kd j = eg_word M b kd j := by
              unfold eg_word
              rw [hrw (b + eg_off kd + j) (by omega), if_neg (show ¬ b + eg_off kd + j = b + eg_off kd + k by omega)]
            rw [hw]
            obtain ⟨g1, g2, g3⟩ := e6 j hj
            refine ⟨g1, g2, ?_⟩
            rw [slot_ne _ _ (fun z => ?_)]
            · exact g3
            · unfold eg_ix at z
              by_cases h8 : kd < 8
              · rw [if_pos h8, if_pos h8] at z; exact hjk z.symm
              · rw [if_neg h8, if_neg h8] at z
                exact hI h8 k j (by rw [← e5 h8]; exact hk) (by rw [← e5 h8]; exact hj) (fun q => hjk q.symm) z
    · refine ⟨c', by rw [ho _ (fun z => hal z.symm)]; exact e1, ?_⟩
      rcases e2 with e2 | ⟨e2, e3, e4, e5, e6⟩
      · exact Or.inl e2
      · refine Or.inr ⟨e2, e3, fun h8 => ?_, e5, fun j hj => ?_⟩
        · obtain ⟨f1, f2⟩ := e4 h8
          have hb2 := (r4 b' kd' n' hb').2.1
          have ho1 : eg_off kd' = 1 := if_pos h8
          exact ⟨by rw [hrw b' (by omega), if_neg (show ¬ b' = b + eg_off kd + k by omega)]; exact f1, f2⟩
        · have hw : eg_word (em_up M (b + eg_off kd + k) v) b' kd' j = eg_word M b' kd' j := by
            unfold eg_word
            rw [hrw (b' + eg_off kd' + j) (by omega), if_neg (show ¬ b' + eg_off kd' + j = b + eg_off kd + k by omega)]
          rw [hw]
          exact e6 j hj
  · have ha : a ≠ b + eg_off kd + k := by omega
    rw [hrw a h3, if_neg ha]
    exact r5 a h2 h3
