/-! ints and longs by their numbers -/
theorem en_bv (n : Nat) : (nI n).toBitVec = BitVec.ofNat 32 n := rfl
theorem en_bvl (n : Nat) : (lN n).toBitVec = BitVec.ofNat 64 n := rfl
theorem en_inj {x y : Int32} (h : x.toBitVec.toNat = y.toBitVec.toNat) : x = y := Int32.toBitVec_inj.mp (BitVec.eq_of_toNat_eq h)
theorem en_injl {x y : Int64} (h : x.toBitVec.toNat = y.toBitVec.toNat) : x = y := Int64.toBitVec_inj.mp (BitVec.eq_of_toNat_eq h)
theorem en_tn (n : Nat) : (nI n).toBitVec.toNat = n % 4294967296 := by rw [en_bv]; exact BitVec.toNat_ofNat n 32
theorem en_tnl (n : Nat) : (lN n).toBitVec.toNat = n % 18446744073709551616 := by rw [en_bvl]; exact BitVec.toNat_ofNat n 64
theorem en_mod (n : Nat) : nI (n % 4294967296) = nI n := en_inj (by rw [en_tn, en_tn, Nat.mod_mod])
theorem en_modl (n : Nat) : lN (n % 18446744073709551616) = lN n := en_injl (by rw [en_tnl, en_tnl, Nat.mod_mod])
theorem en_sub (a : Nat) {b : Nat} (hb : b < 4294967296) : nI a - nI b = nI (a + (4294967296 - b)) := by
  apply en_inj
  rw [Int32.toBitVec_sub, BitVec.toNat_sub, en_tn, en_tn, en_tn, Nat.mod_eq_of_lt hb]
  omega
theorem en_neg {b : Nat} (hb : b < 4294967296) : -nI b = nI (4294967296 - b) := by
  apply en_inj
  rw [Int32.toBitVec_neg, BitVec.toNat_neg, en_tn, en_tn, Nat.mod_eq_of_lt hb]
theorem en_and {a b : Nat} (ha : a < 4294967296) (hb : b < 4294967296) : nI a &&& nI b = nI (a &&& b) := by
  apply en_inj
  rw [Int32.toBitVec_and, BitVec.toNat_and, en_tn, en_tn, en_tn, Nat.mod_eq_of_lt ha, Nat.mod_eq_of_lt hb, Nat.mod_eq_of_lt (Nat.lt_of_le_of_lt Nat.and_le_left ha)]
theorem en_or {a b : Nat} (ha : a < 4294967296) (hb : b < 4294967296) : nI a ||| nI b = nI (a ||| b) := by
  apply en_inj
  rw [Int32.toBitVec_or, BitVec.toNat_or, en_tn, en_tn, en_tn, Nat.mod_eq_of_lt ha, Nat.mod_eq_of_lt hb, Nat.mod_eq_of_lt (Nat.or_lt_two_pow (n := 32) ha hb)]
theorem en_xor {a b : Nat} (ha : a < 4294967296) (hb : b < 4294967296) : nI a ^^^ nI b = nI (a ^^^ b) := by
  apply en_inj
  rw [Int32.toBitVec_xor, BitVec.toNat_xor, en_tn, en_tn, en_tn, Nat.mod_eq_of_lt ha, Nat.mod_eq_of_lt hb, Nat.mod_eq_of_lt (Nat.xor_lt_two_pow (n := 32) ha hb)]
theorem en_int {n : Nat} (h : n < 4294967296) : (nI n).toInt = if n < 2147483648 then (n : Int) else (n : Int) - 4294967296 := by
  rw [Int32.toInt, en_bv, BitVec.toInt_eq_toNat_cond, BitVec.toNat_ofNat]
  have e : n % 2 ^ 32 = n := Nat.mod_eq_of_lt h
  rw [e]
  split <;> split <;> omega
theorem en_intl {n : Nat} (h : n < 18446744073709551616) : (lN n).toInt = if n < 9223372036854775808 then (n : Int) else (n : Int) - 18446744073709551616 := by
  rw [Int64.toInt, en_bvl, BitVec.toInt_eq_toNat_cond, BitVec.toNat_ofNat]
  have e : n % 2 ^ 64 = n := Nat.mod_eq_of_lt h
  rw [e]
  split <;> split <;> omega
theorem en_eq {a b : Nat} (ha : a < 4294967296) (hb : b < 4294967296) : nI a = nI b ↔ a = b := by
  constructor
  · intro h
    have h1 := congrArg (fun x : Int32 => x.toBitVec.toNat) h
    simp only [en_tn] at h1
    omega
  · rintro rfl; rfl
theorem en_lt {a b : Nat} (ha : a < 4294967296) (hb : b < 4294967296) : nI a < nI b ↔ ev_slt a b = true := by
  rw [Int32.lt_iff_toInt_lt, en_int ha, en_int hb]
  show _ ↔ Nat.ble (Nat.succ ((a + 2147483648) % 4294967296)) ((b + 2147483648) % 4294967296) = true
  rw [Nat.ble_eq]
  split <;> split <;> omega
theorem en_cnt {y : Nat} (hy : y < 4294967296) : (nI y &&& 31) = nI (y &&& 31) := en_and hy (b := 31) (by decide)
theorem en_land (y : Nat) : Nat.land y 31 = y % 32 := Nat.and_two_pow_sub_one_eq_mod y 5
theorem en_smod : ∀ n, n < 32 → ((nI n).toBitVec.smod 32).toNat = n := by decide +kernel
theorem en_shl {x y : Nat} (hx : x < 4294967296) (hy : y < 4294967296) : nI x <<< (nI y &&& 31) = nI (Nat.shiftLeft x (Nat.land y 31) % 4294967296) := by
  apply en_inj
  have h31 : y &&& 31 = y % 32 := en_land y
  rw [en_cnt hy, en_mod, pk_shl (nI x) (nI (y &&& 31)) (y &&& 31) (en_smod _ (by rw [h31]; omega)), en_tn, en_tn, Nat.mod_eq_of_lt hx]
  show _ = (x <<< (y &&& 31)) % 4294967296
  rw [Nat.shiftLeft_eq]
theorem en_shr {x y : Nat} (hx : x < 4294967296) (hy : y < 4294967296) : nI x >>> (nI y &&& 31) = nI (ev_sar x (Nat.land y 31)) := by
  have h31 : y &&& 31 = y % 32 := en_land y
  rw [en_cnt hy]
  apply Int32.toInt_inj.mp
  rw [pk_shr (nI x) (nI (y &&& 31)) (y &&& 31) (en_smod _ (by rw [h31]; omega)), en_int hx]
  show _ = (nI (ev_sar x (y &&& 31))).toInt
  generalize y &&& 31 = k
  unfold ev_sar
  rw [ec_c]
  have hn : ev_neg x = true ↔ 2147483648 ≤ x := by unfold ev_neg; rw [Nat.ble_eq]
  by_cases h : x < 2147483648
  · rw [if_pos h, if_neg (by rw [hn]; omega)]
    have h1 : Nat.shiftRight x k ≤ x := by show x >>> k ≤ x; rw [Nat.shiftRight_eq_div_pow]; exact Nat.div_le_self _ _
    rw [en_int (by omega), if_pos (by omega)]
    rfl
  · rw [if_neg h, if_pos (by rw [hn]; omega)]
    have h1 : Nat.shiftRight (Nat.sub 4294967295 x) k ≤ Nat.sub 4294967295 x := by show (Nat.sub 4294967295 x) >>> k ≤ _; rw [Nat.shiftRight_eq_div_pow]; exact Nat.div_le_self _ _
    have h2 : Nat.sub 4294967295 x = 4294967295 - x := rfl
    have e : (x : Int) - 4294967296 = Int.negSucc (4294967295 - x) := by rw [Int.negSucc_eq]; omega
    rw [e]
    show Int.negSucc ((4294967295 - x) >>> k) = _
    have h3 : Nat.shiftRight (Nat.sub 4294967295 x) k = (4294967295 - x) >>> k := rfl
    rw [h3, h2] at h1
    rw [h3]
    show _ = (nI (4294967295 - (4294967295 - x) >>> k)).toInt
    rw [en_int (by omega), if_neg (by omega), Int.negSucc_eq]
    omega
theorem en_i2l {x : Nat} (hx : x < 4294967296) : (nI x).toInt64 = lN (ev_c (ev_neg x) (Nat.add x 18446744069414584320) x) := by
  apply Int64.toInt_inj.mp
  rw [Int32.toInt_toInt64, en_int hx, ec_c]
  have hn : ev_neg x = true ↔ 2147483648 ≤ x := by unfold ev_neg; rw [Nat.ble_eq]
  by_cases h : x < 2147483648
  · rw [if_pos h, if_neg (by rw [hn]; omega), en_intl (by omega), if_pos (by omega)]
  · rw [if_neg h, if_pos (by rw [hn]; omega)]
    have e : Nat.add x 18446744069414584320 = x + 18446744069414584320 := rfl
    rw [e, en_intl (by omega), if_neg (by omega)]
    omega
theorem en_i2b : ∀ n, n < 128 → (nI n).toInt8.toInt32 = nI n := by decide +kernel
theorem en_i2c {x : Nat} (hx : x < 4294967296) : ((nI x).toUInt32 % 65536).toInt32 = nI (x % 65536) := by
  rw [pk_char, en_tn, Nat.mod_eq_of_lt hx]
theorem en_ladd (a b : Nat) : lN a + lN b = lN ((a + b) % 18446744073709551616) := by rw [en_modl]; exact lN_add a b
theorem en_lmul (a b : Nat) : lN a * lN b = lN ((a * b) % 18446744073709551616) := by rw [en_modl]; exact lN_mul a b
theorem en_cl {n : Nat} (h : n < 2147483648) : (nI n).toNatClampNeg = n := nI_clamp (by omega)
theorem en_word (n : Nat) : (4 * n + 1) % 4 = 1 ∧ (4 * n + 1) / 4 = n := by omega
theorem en_wordl (n : Nat) : (4 * n + 3) % 4 = 3 ∧ (4 * n + 3) / 4 = n := by omega
theorem en_okI {B : Nat → Nat → Nat → Prop} {n : Nat} (h : n < 4294967296) : eg_ok B (4 * n + 1) := by
  obtain ⟨a, b⟩ := en_word n
  refine ⟨?_, Or.inl ⟨a, by rw [b]; exact h⟩⟩
  have : ew_W = 4722366482869645213696 := rfl
  omega
theorem en_okL {B : Nat → Nat → Nat → Prop} {n : Nat} (h : n < 18446744073709551616) : eg_ok B (4 * n + 3) := by
  obtain ⟨a, b⟩ := en_wordl n
  refine ⟨?_, Or.inr (Or.inl ⟨a, by rw [b]; exact h⟩)⟩
  have : ew_W = 4722366482869645213696 := rfl
  omega
theorem en_okN {B : Nat → Nat → Nat → Prop} : eg_ok B 4 := ⟨by decide, Or.inr (Or.inr (Or.inr rfl))⟩
theorem en_valI (al : Nat → Nat) (n : Nat) : eg_val al (4 * n + 1) = .int (nI n) := by
  obtain ⟨a, b⟩ := en_word n
  rw [eg_val_i _ a, b]
theorem en_valL (al : Nat → Nat) (n : Nat) : eg_val al (4 * n + 3) = .long (lN n) := by
  obtain ⟨a, b⟩ := en_wordl n
  rw [eg_val_l _ a, b]
theorem ex_pI {al : Nat → Nat} {B : Nat → Nat → Nat → Prop} {stk : List Value} {S n : Nat} {v : Int32} (h : ex_stk al B stk S) (hn : n < 4294967296) (hv : v = nI n) : ex_stk al B (.int v :: stk) (ev_pI S n) := ex_push h (en_okI hn) (by rw [hv]; exact (en_valI al n).symm)
theorem ex_pL {al : Nat → Nat} {B : Nat → Nat → Nat → Prop} {stk : List Value} {S n : Nat} {v : Int64} (h : ex_stk al B stk S) (hn : n < 18446744073709551616) (hv : v = lN n) : ex_stk al B (.long v :: stk) (ev_pL S n) := ex_push h (en_okL hn) (by rw [hv]; exact (en_valL al n).symm)
