/-! plain facts of the interpreter's numbers and of its memory -/
theorem ec_c {α : Type} (b : Bool) (x y : α) : ev_c b x y = if b = true then x else y := by cases b <;> rfl
theorem ec_f {α : Type} (n : Nat) (k : Nat → α) : ev_f n k = k n := by cases n <;> rfl
def ew_W : Nat := 4722366482869645213696
theorem ew_pow : ew_W = 2 ^ 72 := by decide
theorem ew_pos (o : Nat) : 0 < ew_W ^ o := Nat.pow_pos (by decide)
/-- word o of x -/
def ew_wd (x o : Nat) : Nat := x / ew_W ^ o % ew_W
theorem ew_shift (x o : Nat) : Nat.shiftRight x (Nat.mul 72 o) = x / ew_W ^ o := by
  show x >>> (72 * o) = _
  rw [Nat.shiftRight_eq_div_pow, ew_pow, ← Nat.pow_mul]
theorem ew_wd_eq (x o : Nat) : Nat.mod (Nat.shiftRight x (Nat.mul 72 o)) 4722366482869645213696 = ew_wd x o := by
  rw [ew_shift]; rfl
def ew_put (x o v : Nat) : Nat := x - ew_wd x o * ew_W ^ o + v * ew_W ^ o
theorem ew_lf (x o v : Nat) : ev_lf x (Nat.mul 72 o) v = ew_put x o v := by
  show x - (Nat.mod (Nat.shiftRight x (Nat.mul 72 o)) 4722366482869645213696) <<< (72 * o) + v <<< (72 * o) = _
  rw [ew_wd_eq, Nat.shiftLeft_eq, Nat.shiftLeft_eq, ew_put, ew_pow, ← Nat.pow_mul]
theorem ew_split (x o : Nat) : x = x / ew_W ^ (o + 1) * ew_W ^ (o + 1) + ew_wd x o * ew_W ^ o + x % ew_W ^ o := by
  have h1 := Nat.div_add_mod x (ew_W ^ o)
  have h2 := Nat.div_add_mod (x / ew_W ^ o) ew_W
  have h3 : x / ew_W ^ (o + 1) = x / ew_W ^ o / ew_W := by rw [Nat.pow_succ, Nat.div_div_eq_div_mul]
  rw [h3, ew_wd]
  generalize hq : x / ew_W ^ o / ew_W = q at *
  generalize hr : x / ew_W ^ o % ew_W = r at *
  generalize hp : ew_W ^ o = P at *
  have e : q * ew_W ^ (o + 1) = P * (ew_W * q) := by rw [Nat.pow_succ, hp, Nat.mul_comm q, Nat.mul_assoc]
  rw [e, Nat.mul_comm r P, ← Nat.mul_add, h2, h1]
theorem ew_put_eq {x o v : Nat} : ew_put x o v = x / ew_W ^ (o + 1) * ew_W ^ (o + 1) + v * ew_W ^ o + x % ew_W ^ o := by
  have h := ew_split x o
  unfold ew_put
  generalize ew_wd x o * ew_W ^ o = b at *
  generalize v * ew_W ^ o = d at *
  generalize x / ew_W ^ (o + 1) * ew_W ^ (o + 1) = a at *
  generalize x % ew_W ^ o = f at *
  omega
theorem ew_wd_lo {q w r o j : Nat} (h : j < o) : ew_wd (q * ew_W ^ (o + 1) + w * ew_W ^ o + r) j = ew_wd r j := by
  obtain ⟨k, rfl⟩ : ∃ k, o = j + 1 + k := ⟨o - (j + 1), by omega⟩
  have e : q * ew_W ^ (j + 1 + k + 1) + w * ew_W ^ (j + 1 + k) + r = r + ew_W ^ j * (ew_W * (q * ew_W ^ (k + 1) + w * ew_W ^ k)) := by
    have h1 : ew_W ^ (j + 1 + k + 1) = ew_W ^ j * (ew_W * ew_W ^ (k + 1)) := by rw [show j + 1 + k + 1 = j + (1 + (k + 1)) by omega, Nat.pow_add, Nat.pow_add, Nat.pow_one]
    have h2 : ew_W ^ (j + 1 + k) = ew_W ^ j * (ew_W * ew_W ^ k) := by rw [show j + 1 + k = j + (1 + k) by omega, Nat.pow_add, Nat.pow_add, Nat.pow_one]
    rw [h1, h2]
    generalize ew_W ^ j = a
    generalize ew_W ^ (k + 1) = b
    generalize ew_W ^ k = d
    generalize ew_W = z
    simp only [Nat.mul_add]
    rw [show q * (a * (z * b)) = a * (z * (q * b)) by ac_rfl, show w * (a * (z * d)) = a * (z * (w * d)) by ac_rfl]
    omega
  rw [e, ew_wd, Nat.add_mul_div_left _ _ (ew_pos j), Nat.add_mul_mod_self_left, ew_wd]
theorem ew_wd_hi {q w r o j : Nat} (hw : w < ew_W) (hr : r < ew_W ^ o) (h : o < j) : ew_wd (q * ew_W ^ (o + 1) + w * ew_W ^ o + r) j = ew_wd (q * ew_W ^ (o + 1)) j := by
  obtain ⟨k, rfl⟩ : ∃ k, j = o + 1 + k := ⟨j - (o + 1), by omega⟩
  have hlt : w * ew_W ^ o + r < ew_W ^ (o + 1) := by
    rw [Nat.pow_succ]
    calc w * ew_W ^ o + r < w * ew_W ^ o + ew_W ^ o := by omega
      _ = (w + 1) * ew_W ^ o := by rw [Nat.add_mul, Nat.one_mul]
      _ ≤ ew_W * ew_W ^ o := Nat.mul_le_mul_right _ hw
      _ = ew_W ^ o * ew_W := Nat.mul_comm _ _
  have e1 : (q * ew_W ^ (o + 1) + w * ew_W ^ o + r) / ew_W ^ (o + 1) = q := by
    rw [Nat.add_assoc, Nat.add_comm, Nat.add_mul_div_right _ _ (ew_pos _), Nat.div_eq_of_lt hlt, Nat.zero_add]
  have e2 : q * ew_W ^ (o + 1) / ew_W ^ (o + 1) = q := Nat.mul_div_cancel _ (ew_pos _)
  rw [ew_wd, ew_wd, Nat.pow_add ew_W (o + 1) k, ← Nat.div_div_eq_div_mul, ← Nat.div_div_eq_div_mul, e1, e2]
theorem ew_wd_mid {q w r o : Nat} (hw : w < ew_W) (hr : r < ew_W ^ o) : ew_wd (q * ew_W ^ (o + 1) + w * ew_W ^ o + r) o = w := by
  have e : q * ew_W ^ (o + 1) + w * ew_W ^ o + r = r + ew_W ^ o * (w + ew_W * q) := by
    rw [Nat.pow_succ]
    generalize ew_W ^ o = a
    generalize ew_W = z
    simp only [Nat.mul_add]
    rw [show q * (a * z) = a * (z * q) by ac_rfl, show w * a = a * w by ac_rfl]
    omega
  rw [ew_wd, e, Nat.add_mul_div_left _ _ (ew_pos o), Nat.div_eq_of_lt hr, Nat.zero_add, Nat.add_mul_mod_self_left, Nat.mod_eq_of_lt hw]
theorem ew_wd_lt (x o : Nat) : ew_wd x o < ew_W := Nat.mod_lt _ (by decide)
theorem ew_put_wd {x o v : Nat} (hv : v < ew_W) (j : Nat) : ew_wd (ew_put x o v) j = if j = o then v else ew_wd x j := by
  have hr : x % ew_W ^ o < ew_W ^ o := Nat.mod_lt _ (ew_pos o)
  rw [ew_put_eq]
  rcases Nat.lt_trichotomy j o with h | h | h
  · rw [if_neg (by omega), ew_wd_lo h]
    conv => rhs; rw [ew_split x o]
    rw [ew_wd_lo h]
  · subst h
    rw [if_pos rfl, ew_wd_mid hv hr]
  · rw [if_neg (by omega), ew_wd_hi hv hr h]
    conv => rhs; rw [ew_split x o]
    rw [ew_wd_hi (ew_wd_lt _ _) hr h]
theorem ew_wd0 (o : Nat) : ew_wd 0 o = 0 := by simp [ew_wd]
/-! the tree -/
def et_b (i d : Nat) : Bool := Nat.beq (Nat.land (Nat.shiftRight i d) 1) 0
noncomputable def et_up (d : Nat) (t : ev_T d) (i v : Nat) : ev_T d := ev_ts d t i v id
theorem et_tg0 (t : ev_T 0) (i : Nat) : ev_tg 0 t i = t := rfl
def et_pr (d : Nat) (a b : ev_T d) : ev_T (d + 1) := (a, b)
theorem et_cases (d : Nat) (t : ev_T (d + 1)) : ∃ a b, t = et_pr d a b := ⟨(show ev_T d × ev_T d from t).1, (show ev_T d × ev_T d from t).2, rfl⟩
theorem et_tgS (d : Nat) (a b : ev_T d) (i : Nat) : ev_tg (d + 1) (et_pr d a b) i = if et_b i d = true then ev_tg d a i else ev_tg d b i := by
  show ev_c (et_b i d) (ev_tg d a i) (ev_tg d b i) = _
  rw [ec_c]
theorem et_tsS {α : Type} (d : Nat) (a b : ev_T d) (i v : Nat) (k : ev_T (d + 1) → α) : ev_ts (d + 1) (et_pr d a b) i v k = if et_b i d = true then ev_ts d a i v (fun a2 => k (et_pr d a2 b)) else ev_ts d b i v (fun b2 => k (et_pr d a b2)) := by
  show ev_c (et_b i d) (ev_ts d a i v (fun a2 => k (et_pr d a2 b))) (ev_ts d b i v (fun b2 => k (et_pr d a b2))) = _
  rw [ec_c]
theorem et_ts {α : Type} : ∀ (d : Nat) (t : ev_T d) (i v : Nat) (k : ev_T d → α), ev_ts d t i v k = k (et_up d t i v)
  | 0, _, _, _, _ => rfl
  | d + 1, t, i, v, k => by
    obtain ⟨a, b, rfl⟩ := et_cases d t
    unfold et_up
    rw [et_tsS, et_tsS]
    split
    · rw [et_ts d a i v, et_ts d a i v]; rfl
    · rw [et_ts d b i v, et_ts d b i v]; rfl
theorem et_upS (d : Nat) (a b : ev_T d) (i v : Nat) : et_up (d + 1) (et_pr d a b) i v = if et_b i d = true then et_pr d (et_up d a i v) b else et_pr d a (et_up d b i v) := by
  unfold et_up
  rw [et_tsS]
  split
  · rw [et_ts]; rfl
  · rw [et_ts]; rfl
theorem et_same : ∀ (d : Nat) (t : ev_T d) (i j v : Nat), (∀ k, k < d → et_b i k = et_b j k) → ev_tg d (et_up d t i v) j = v
  | 0, _, _, _, _, _ => rfl
  | d + 1, t, i, j, v, h => by
    obtain ⟨a, b, rfl⟩ := et_cases d t
    rw [et_upS]
    have hd := h d (Nat.lt_succ_self d)
    split
    next hc => rw [et_tgS, if_pos (by rw [← hd]; exact hc)]; exact et_same d a i j v (fun k hk => h k (by omega))
    next hc => rw [et_tgS, if_neg (by rw [← hd]; exact hc)]; exact et_same d b i j v (fun k hk => h k (by omega))
theorem et_other : ∀ (d : Nat) (t : ev_T d) (i j v : Nat), (∃ k, k < d ∧ et_b i k ≠ et_b j k) → ev_tg d (et_up d t i v) j = ev_tg d t j
  | 0, _, _, _, _, ⟨k, hk, _⟩ => absurd hk (Nat.not_lt_zero k)
  | d + 1, t, i, j, v, ⟨k, hk, hne⟩ => by
    obtain ⟨a, b, rfl⟩ := et_cases d t
    rw [et_upS]
    by_cases hkd : k = d
    · subst hkd
      split
      next hc => rw [et_tgS, et_tgS, if_neg (fun z => hne (by rw [hc, z])), if_neg (fun z => hne (by rw [hc, z]))]
      next hc =>
        have hj : et_b j k = true := by
          cases h1 : et_b i k <;> cases h2 : et_b j k <;> simp_all
        rw [et_tgS, et_tgS, if_pos hj, if_pos hj]
    · have hex : ∃ k, k < d ∧ et_b i k ≠ et_b j k := ⟨k, by omega, hne⟩
      split
      · rw [et_tgS, et_tgS, et_other d a i j v hex]
      · rw [et_tgS, et_tgS, et_other d b i j v hex]
theorem et_bit (i d : Nat) : et_b i d = !(i.testBit d) := by
  show Nat.beq ((i >>> d) &&& 1) 0 = _
  rw [Nat.testBit]
  have h : (1 &&& (i >>> d)) = (i >>> d) &&& 1 := Nat.and_comm _ _
  rw [h]
  cases (i >>> d) &&& 1 <;> rfl
theorem et_differ {i j : Nat} (hi : i < 512) (hj : j < 512) (h : i ≠ j) : ∃ k, k < 9 ∧ et_b i k ≠ et_b j k := by
  apply Classical.byContradiction
  intro hn
  apply h
  apply Nat.eq_of_testBit_eq
  intro k
  by_cases hk : k < 9
  · apply Classical.byContradiction
    intro hne
    exact hn ⟨k, hk, fun z => hne (by rw [et_bit, et_bit] at z; simpa using z)⟩
  · have hp : (512 : Nat) ≤ 2 ^ k := by
      have h2 : 2 ^ 9 ≤ 2 ^ k := Nat.pow_le_pow_right (by decide) (by omega)
      simpa using h2
    rw [Nat.testBit_lt_two_pow (by omega), Nat.testBit_lt_two_pow (by omega)]
/-! the memory -/
noncomputable def em_up (M : ev_M) (a v : Nat) : ev_M := et_up 9 M (a / 64) (ew_put (ev_tg 9 M (a / 64)) (a % 64) v)
theorem em_sh (a : Nat) : Nat.shiftRight a 6 = a / 64 := Nat.shiftRight_eq_div_pow a 6
theorem em_lo (a : Nat) : Nat.land a 63 = a % 64 := Nat.and_two_pow_sub_one_eq_mod a 6
theorem em_rd (M : ev_M) (a : Nat) : ev_rd M a = ew_wd (ev_tg 9 M (a / 64)) (a % 64) := by
  rw [ev_rd, ew_wd_eq, em_sh, em_lo]
theorem em_wr {α : Type} (M : ev_M) (a v : Nat) (k : ev_M → α) : ev_wr M a v k = k (em_up M a v) := by
  unfold ev_wr
  rw [ec_f, ec_f, ec_f, et_ts, ew_lf, em_sh, em_lo]
  rfl
theorem em_rw {M : ev_M} {a b v : Nat} (ha : a < 32768) (hb : b < 32768) (hv : v < ew_W) : ev_rd (em_up M a v) b = if b = a then v else ev_rd M b := by
  rw [em_rd, em_rd, em_up]
  by_cases h : b / 64 = a / 64
  · rw [h, et_same 9 M (a / 64) (a / 64) _ (fun _ _ => rfl), ew_put_wd hv]
    by_cases h2 : b % 64 = a % 64
    · rw [if_pos h2, if_pos (by omega)]
    · rw [if_neg h2, if_neg (by omega)]
  · rw [et_other 9 M _ _ _ (et_differ (by omega) (by omega) (fun z => h z.symm)), if_neg (by intro z; exact h (by rw [z]))]
