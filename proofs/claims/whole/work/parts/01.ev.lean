
/-! A LITTLE INTERPRETER OVER NUMBERS (for the kernel): a value is a word: 0 nothing, 4 n + 1 the int n, 4 n + 2 the cell n, 4 n + 3 the long n, 4 null;
the stack, the locals, the code are numbers of words of 72 (the code: 64) bits; the memory is a tree of leaves of 64 words. A cell's number is its base * 64 + its kind. -/
noncomputable def ev_c {α : Type} (b : Bool) (x y : α) : α := Bool.rec (motive := fun _ => α) y x b
noncomputable def ev_f {α : Type} (n : Nat) (k : Nat → α) : α := Nat.rec (motive := fun _ => α) (k 0) (fun m _ => k (Nat.succ m)) n
def ev_T (d : Nat) : Type := Nat.rec (motive := fun _ => Type) Nat (fun _ t => t × t) d
noncomputable def ev_tg (d : Nat) : ev_T d → Nat → Nat := Nat.rec (motive := fun d => ev_T d → Nat → Nat) (fun t _ => t) (fun d ih t i => Prod.rec (motive := fun _ => Nat) (fun a b => ev_c (Nat.beq (Nat.land (Nat.shiftRight i d) 1) 0) (ih a i) (ih b i)) t) d
noncomputable def ev_ts {α : Type} (d : Nat) : ev_T d → Nat → Nat → (ev_T d → α) → α := Nat.rec (motive := fun d => ev_T d → Nat → Nat → (ev_T d → α) → α) (fun _ _ v k => k v)
  (fun d ih t i v k => Prod.rec (motive := fun _ => α) (fun a b => ev_c (Nat.beq (Nat.land (Nat.shiftRight i d) 1) 0) (ih a i v (fun a2 => k (a2, b))) (ih b i v (fun b2 => k (a, b2)))) t) d
abbrev ev_M : Type := ev_T 9
abbrev ev_St : Type := Nat × Nat × Nat × Nat × ev_M × Nat × Nat × Nat
noncomputable def ev_rd (M : ev_M) (a : Nat) : Nat := Nat.mod (Nat.shiftRight (ev_tg 9 M (Nat.shiftRight a 6)) (Nat.mul 72 (Nat.land a 63))) 4722366482869645213696
noncomputable def ev_lf (lf sh v : Nat) : Nat := Nat.add (Nat.sub lf (Nat.shiftLeft (Nat.mod (Nat.shiftRight lf sh) 4722366482869645213696) sh)) (Nat.shiftLeft v sh)
noncomputable def ev_wr {α : Type} (M : ev_M) (a v : Nat) (k : ev_M → α) : α :=
  ev_f (Nat.shiftRight a 6) fun i => ev_f (Nat.mul 72 (Nat.land a 63)) fun sh => ev_f (ev_lf (ev_tg 9 M i) sh v) fun lf => ev_ts 9 M i lf k
noncomputable def ev_mk (stat pc L S : Nat) (M : ev_M) (top c s : Nat) : ev_St := (stat, pc, L, S, M, top, c, s)
noncomputable def ev_bad (M : ev_M) : ev_St := ev_mk 2 0 0 0 M 0 0 0
noncomputable def ev_top {α : Type} (S : Nat) (k : Nat → Nat → α) : α := ev_f (Nat.mod S 4722366482869645213696) fun v => ev_f (Nat.div S 4722366482869645213696) fun r => k v r
noncomputable def ev_tag (v t : Nat) : Bool := Nat.beq (Nat.land v 3) t
-- a ref (tag 2) or null (4)
noncomputable def ev_isA (v : Nat) : Bool := Bool.or (ev_tag v 2) (Nat.beq v 4)
noncomputable def ev_a (w : Nat) : Nat := Nat.mod (Nat.shiftRight w 10) 4294967296
noncomputable def ev_b (w : Nat) : Nat := Nat.mod (Nat.shiftRight w 42) 2048
noncomputable def ev_d (w : Nat) : Nat := Nat.shiftRight w 53
noncomputable def ev_len (w : Nat) : Nat := Nat.mod (Nat.shiftRight w 7) 8
-- on with a new stack, behind this instruction
noncomputable def ev_nx (w pc L S : Nat) (M : ev_M) (top c s : Nat) : ev_St := ev_f (Nat.add pc (ev_len w)) fun p => ev_f S fun S2 => ev_mk 0 p L S2 M top c s
noncomputable def ev_jp (pc L S : Nat) (M : ev_M) (top c s : Nat) : ev_St := ev_f pc fun p => ev_f S fun S2 => ev_mk 0 p L S2 M top c s
noncomputable def ev_ps (S v : Nat) : Nat := Nat.add (Nat.mul S 4722366482869645213696) v
noncomputable def ev_pI (S n : Nat) : Nat := ev_ps S (Nat.add (Nat.mul 4 n) 1)
noncomputable def ev_pL (S n : Nat) : Nat := ev_ps S (Nat.add (Nat.mul 4 n) 3)
noncomputable def ev_neg (n : Nat) : Bool := Nat.ble 2147483648 n
noncomputable def ev_slt (a b : Nat) : Bool := Nat.blt (Nat.mod (Nat.add a 2147483648) 4294967296) (Nat.mod (Nat.add b 2147483648) 4294967296)
-- one int off the stack, two
noncomputable def ev_1i (S : Nat) (M : ev_M) (k : Nat → Nat → ev_St) : ev_St := ev_top S fun v r => ev_c (ev_tag v 1) (ev_f (Nat.shiftRight v 2) fun n => k n r) (ev_bad M)
noncomputable def ev_2i (S : Nat) (M : ev_M) (k : Nat → Nat → Nat → ev_St) : ev_St := ev_1i S M fun y r => ev_1i r M fun x r2 => k x y r2
noncomputable def ev_1l (S : Nat) (M : ev_M) (k : Nat → Nat → ev_St) : ev_St := ev_top S fun v r => ev_c (ev_tag v 3) (ev_f (Nat.shiftRight v 2) fun n => k n r) (ev_bad M)
noncomputable def ev_2l (S : Nat) (M : ev_M) (k : Nat → Nat → Nat → ev_St) : ev_St := ev_1l S M fun y r => ev_1l r M fun x r2 => k x y r2
-- a cell of a kind off the stack: its base
noncomputable def ev_1r (S kd : Nat) (M : ev_M) (k : Nat → Nat → ev_St) : ev_St := ev_top S fun v r => ev_c (ev_tag v 2) (ev_c (Nat.beq (Nat.land (Nat.shiftRight v 2) 63) kd) (ev_f (Nat.shiftRight v 8) fun b => k b r) (ev_bad M)) (ev_bad M)
-- any value off the stack
noncomputable def ev_1v (S : Nat) (M : ev_M) (k : Nat → Nat → ev_St) : ev_St := ev_top S fun v r => ev_c (Nat.beq v 0) (ev_bad M) (k v r)
noncomputable def ev_bin (x y r w pc L : Nat) (M : ev_M) (top c s z : Nat) : ev_St := ev_nx w pc L (ev_pI r z) M top c s
noncomputable def ev_cnd (a x y : Nat) : Bool := ev_c (Nat.ble 3 a) (ev_c (Nat.ble 4 a) (ev_c (Nat.ble 5 a) (Bool.not (ev_slt y x)) (ev_slt y x)) (Bool.not (ev_slt x y))) (ev_c (Nat.ble 1 a) (ev_c (Nat.ble 2 a) (ev_slt x y) (Bool.not (Nat.beq x y))) (Nat.beq x y))
noncomputable def ev_sar (x n : Nat) : Nat := ev_c (ev_neg x) (Nat.sub 4294967295 (Nat.shiftRight (Nat.sub 4294967295 x) n)) (Nat.shiftRight x n)
-- a word of the memory, or what stands in a fresh cell
noncomputable def ev_or (v dv : Nat) : Nat := ev_c (Nat.beq v 0) dv v
-- the weight of what lies under a call
noncomputable def ev_wgt (S : Nat) : Nat := Nat.rec (motive := fun _ => Nat → Nat) (fun _ => 9) (fun _ ih S => ev_c (Nat.beq S 0) 0 (Nat.add (ev_c (ev_tag (Nat.mod S 4722366482869645213696) 3) 2 1) (ih (Nat.div S 4722366482869645213696)))) 9 S
-- n values off the stack, as locals
noncomputable def ev_args (n : Nat) (M : ev_M) (k : Nat → Nat → ev_St) : Nat → Nat → ev_St := Nat.rec (motive := fun _ => Nat → Nat → ev_St) (fun L S => k L S)
  (fun _ ih L S => ev_1v S M fun v r => ev_f (Nat.add v (Nat.mul (ev_c (ev_tag v 3) (Nat.mul 4722366482869645213696 4722366482869645213696) 4722366482869645213696) L)) fun L2 => ih L2 r) n
-- n words from a to b
noncomputable def ev_cp (n : Nat) (k : ev_M → ev_St) : ev_M → Nat → Nat → ev_St := Nat.rec (motive := fun _ => ev_M → Nat → Nat → ev_St) (fun M _ _ => k M)
  (fun _ ih M a b => ev_f (ev_rd M a) fun v => ev_wr M b v fun M2 => ev_f (Nat.succ a) fun a2 => ev_f (Nat.succ b) fun b2 => ih M2 a2 b2) n

noncomputable def ev_un {α : Type} (st : ev_St) (k : Nat → Nat → Nat → Nat → ev_M → Nat → Nat → Nat → α) : α :=
  Prod.rec (motive := fun _ => α) (fun a r => Prod.rec (motive := fun _ => α) (fun b r => Prod.rec (motive := fun _ => α) (fun d r => Prod.rec (motive := fun _ => α) (fun e r => Prod.rec (motive := fun _ => α) (fun M r => Prod.rec (motive := fun _ => α) (fun t r => Prod.rec (motive := fun _ => α) (fun x y => k a b d e M t x y) r) r) r) r) r) r) st
/-- may this value stand in a field or row of that type: 0 int, 2 long, 3 a cell or null, 4 byte (small), 8 boolean -/
noncomputable def ev_ok (d v : Nat) : Bool := ev_c (Nat.beq d 3) (ev_isA v) (ev_c (Nat.beq d 2) (ev_tag v 3) (Bool.and (ev_tag v 1) (ev_c (Nat.beq d 0) true (ev_c (Nat.beq d 8) (Nat.ble v 5) (Nat.ble v 511)))))
/-- n words from a on: nothing, null, or cells that are no Class -/
noncomputable def ev_ck (n : Nat) (M : ev_M) : Nat → Bool := Nat.rec (motive := fun _ => Nat → Bool) (fun _ => true) (fun _ ih a => Bool.and (ev_f (ev_rd M a) fun v => Bool.or (Nat.beq v 0) (Bool.or (Nat.beq v 4) (Bool.and (ev_tag v 2) (Bool.or (Nat.ble (Nat.land (Nat.shiftRight v 2) 63) 5) (Bool.and (Nat.ble 8 (Nat.land (Nat.shiftRight v 2) 63)) (Nat.ble (Nat.land (Nat.shiftRight v 2) 63) 18)))))) (ih (Nat.succ a))) n
/-- may this cell stand in a row of cells of that kind -/
noncomputable def ev_as (kd v : Nat) : Bool := ev_c (Nat.ble kd 2) true (Bool.and (ev_tag v 2) (ev_c (Nat.beq kd 3) (Nat.beq (Nat.land (Nat.shiftRight v 2) 63) 13) (ev_c (Nat.beq kd 4) (Nat.beq (Nat.land (Nat.shiftRight v 2) 63) 15) (Bool.or (Nat.beq (Nat.land (Nat.shiftRight v 2) 63) 1) (Nat.beq (Nat.land (Nat.shiftRight v 2) 63) 10)))))
/-- do the arguments fit in q locals -/
noncomputable def ev_fit (q L : Nat) : Bool := ev_f (Nat.shiftRight L (Nat.mul 72 (Nat.pred q))) fun t => Bool.and (Nat.blt t 4722366482869645213696) (Bool.not (ev_tag t 3))
/-- a call: the values off the stack, the kind of the first one where it is asked, what lies under is light; the callee; its answer on the stack -/
noncomputable def ev_inv (call : Nat → Nat → ev_M → Nat → ev_St) (w pc L S : Nat) (M : ev_M) (top c s : Nat) : ev_St :=
  ev_args (Nat.land (ev_b w) 31) M (fun L2 r => ev_c (Bool.and (ev_fit (Nat.shiftRight (ev_b w) 5) L2) (Bool.and (Bool.or (Nat.beq (Nat.mod (ev_d w) 128) 0) (Bool.and (ev_tag L2 2) (Nat.beq (Nat.succ (Nat.land (Nat.shiftRight L2 2) 63)) (Nat.mod (ev_d w) 128)))) (Nat.ble (ev_wgt r) 8)))
    (ev_un (call (ev_a w) L2 M top) fun st _ _ v M2 t2 c2 s2 => ev_c (Nat.beq st 1) (ev_f (Nat.add c c2) fun c3 => ev_f (Nat.add s s2) fun s3 => ev_f t2 fun t3 => ev_c (Nat.ble 128 (ev_d w)) (ev_c (Nat.beq v 0) (ev_bad M) (ev_nx w pc L (ev_ps r v) M2 t3 c3 s3)) (ev_nx w pc L r M2 t3 c3 s3)) (ev_bad M)) (ev_bad M)) 0 S
noncomputable def ev_o_bad (w pc L S : Nat) (M : ev_M) (top c s : Nat) : ev_St := ev_bad M
noncomputable def ev_o_pushI (w pc L S : Nat) (M : ev_M) (top c s : Nat) : ev_St := ev_nx w pc L (ev_pI S (ev_a w)) M top c s
noncomputable def ev_o_pushL (w pc L S : Nat) (M : ev_M) (top c s : Nat) : ev_St := ev_nx w pc L (ev_pL S (ev_a w)) M top c s
noncomputable def ev_o_null (w pc L S : Nat) (M : ev_M) (top c s : Nat) : ev_St := ev_nx w pc L (ev_ps S 4) M top c s
noncomputable def ev_o_pushR (w pc L S : Nat) (M : ev_M) (top c s : Nat) : ev_St := ev_nx w pc L (ev_ps S (Nat.add (Nat.mul 4 (ev_a w)) 2)) M top c s
noncomputable def ev_o_load (w pc L S : Nat) (M : ev_M) (top c s : Nat) : ev_St := ev_f (Nat.mod (Nat.shiftRight L (Nat.mul 72 (ev_a w))) 4722366482869645213696) fun v => ev_c (ev_c (Nat.beq (ev_b w) 2) (ev_isA v) (ev_tag v (ev_b w))) (ev_nx w pc L (ev_ps S v) M top c s) (ev_bad M)
noncomputable def ev_o_store (w pc L S : Nat) (M : ev_M) (top c s : Nat) : ev_St := ev_1v S M fun v r => ev_f (Nat.mul 72 (ev_a w)) fun sh => ev_c (Bool.and (ev_c (Nat.beq (ev_b w) 2) (ev_isA v) (ev_tag v (ev_b w))) (Bool.not (ev_tag (Nat.mod (Nat.shiftRight (Nat.mul L 4722366482869645213696) sh) 4722366482869645213696) 3))) (ev_f (ev_lf L sh v) fun L2 => ev_nx w pc L2 r M top c s) (ev_bad M)
noncomputable def ev_o_store2 (w pc L S : Nat) (M : ev_M) (top c s : Nat) : ev_St := ev_1v S M fun v r => ev_f (Nat.mul 72 (ev_a w)) fun sh => ev_c (Bool.and (ev_tag v 3) (Bool.not (ev_tag (Nat.mod (Nat.shiftRight (Nat.mul L 4722366482869645213696) sh) 4722366482869645213696) 3))) (ev_f (ev_lf (ev_lf L sh v) (Nat.add sh 72) 0) fun L2 => ev_nx w pc L2 r M top c s) (ev_bad M)
noncomputable def ev_o_iinc (w pc L S : Nat) (M : ev_M) (top c s : Nat) : ev_St := ev_f (Nat.mul 72 (ev_b w)) fun sh => ev_f (Nat.mod (Nat.shiftRight L sh) 4722366482869645213696) fun v => ev_c (ev_tag v 1) (ev_f (ev_lf L sh (Nat.add (Nat.mul 4 (Nat.mod (Nat.add (Nat.shiftRight v 2) (ev_a w)) 4294967296)) 1)) fun L2 => ev_nx w pc L2 S M top c s) (ev_bad M)
noncomputable def ev_o_pop (w pc L S : Nat) (M : ev_M) (top c s : Nat) : ev_St := ev_1v S M fun v r => ev_c (ev_tag v 3) (ev_bad M) (ev_nx w pc L r M top c s)
noncomputable def ev_o_pop2 (w pc L S : Nat) (M : ev_M) (top c s : Nat) : ev_St := ev_1l S M fun v r => ev_nx w pc L r M top c s
noncomputable def ev_o_dup (w pc L S : Nat) (M : ev_M) (top c s : Nat) : ev_St := ev_1v S M fun v r => ev_c (ev_tag v 3) (ev_bad M) (ev_nx w pc L (ev_ps S v) M top c s)
noncomputable def ev_o_dup_x1 (w pc L S : Nat) (M : ev_M) (top c s : Nat) : ev_St := ev_1v S M fun v r => ev_1v r M fun u r2 => ev_c (Bool.or (ev_tag v 3) (ev_tag u 3)) (ev_bad M) (ev_nx w pc L (ev_ps (ev_ps (ev_ps r2 v) u) v) M top c s)
noncomputable def ev_o_iadd (w pc L S : Nat) (M : ev_M) (top c s : Nat) : ev_St := ev_2i S M fun x y r => ev_bin x y r w pc L M top c s (Nat.mod (Nat.add x y) 4294967296)
noncomputable def ev_o_isub (w pc L S : Nat) (M : ev_M) (top c s : Nat) : ev_St := ev_2i S M fun x y r => ev_bin x y r w pc L M top c s (Nat.mod (Nat.add x (Nat.sub 4294967296 y)) 4294967296)
noncomputable def ev_o_imul (w pc L S : Nat) (M : ev_M) (top c s : Nat) : ev_St := ev_2i S M fun x y r => ev_bin x y r w pc L M top c s (Nat.mod (Nat.mul x y) 4294967296)
noncomputable def ev_o_irem (w pc L S : Nat) (M : ev_M) (top c s : Nat) : ev_St := ev_2i S M fun x y r => ev_c (Bool.or (Bool.or (ev_neg x) (ev_neg y)) (Nat.beq y 0)) (ev_bad M) (ev_bin x y r w pc L M top c s (Nat.mod x y))
noncomputable def ev_o_ishl (w pc L S : Nat) (M : ev_M) (top c s : Nat) : ev_St := ev_2i S M fun x y r => ev_bin x y r w pc L M top c s (Nat.mod (Nat.shiftLeft x (Nat.land y 31)) 4294967296)
noncomputable def ev_o_ishr (w pc L S : Nat) (M : ev_M) (top c s : Nat) : ev_St := ev_2i S M fun x y r => ev_bin x y r w pc L M top c s (ev_sar x (Nat.land y 31))
noncomputable def ev_o_iand (w pc L S : Nat) (M : ev_M) (top c s : Nat) : ev_St := ev_2i S M fun x y r => ev_bin x y r w pc L M top c s (Nat.land x y)
noncomputable def ev_o_ior (w pc L S : Nat) (M : ev_M) (top c s : Nat) : ev_St := ev_2i S M fun x y r => ev_bin x y r w pc L M top c s (Nat.lor x y)
noncomputable def ev_o_ixor (w pc L S : Nat) (M : ev_M) (top c s : Nat) : ev_St := ev_2i S M fun x y r => ev_bin x y r w pc L M top c s (Nat.xor x y)
noncomputable def ev_o_ineg (w pc L S : Nat) (M : ev_M) (top c s : Nat) : ev_St := ev_1i S M fun x r => ev_nx w pc L (ev_pI r (Nat.mod (Nat.sub 4294967296 x) 4294967296)) M top c s
noncomputable def ev_o_i2l (w pc L S : Nat) (M : ev_M) (top c s : Nat) : ev_St := ev_1i S M fun x r => ev_nx w pc L (ev_pL r (ev_c (ev_neg x) (Nat.add x 18446744069414584320) x)) M top c s
noncomputable def ev_o_i2b (w pc L S : Nat) (M : ev_M) (top c s : Nat) : ev_St := ev_1i S M fun x r => ev_c (Nat.ble 128 x) (ev_bad M) (ev_nx w pc L (ev_pI r x) M top c s)
noncomputable def ev_o_i2c (w pc L S : Nat) (M : ev_M) (top c s : Nat) : ev_St := ev_1i S M fun x r => ev_nx w pc L (ev_pI r (Nat.mod x 65536)) M top c s
noncomputable def ev_o_ladd (w pc L S : Nat) (M : ev_M) (top c s : Nat) : ev_St := ev_2l S M fun x y r => ev_nx w pc L (ev_pL r (Nat.mod (Nat.add x y) 18446744073709551616)) M top c s
noncomputable def ev_o_lmul (w pc L S : Nat) (M : ev_M) (top c s : Nat) : ev_St := ev_2l S M fun x y r => ev_nx w pc L (ev_pL r (Nat.mod (Nat.mul x y) 18446744073709551616)) M top c s
noncomputable def ev_o_lcmp (w pc L S : Nat) (M : ev_M) (top c s : Nat) : ev_St := ev_2l S M fun x y r => ev_c (Nat.beq x y) (ev_nx w pc L (ev_pI r 0) M top c s) (ev_bad M)
noncomputable def ev_o_if (w pc L S : Nat) (M : ev_M) (top c s : Nat) : ev_St := ev_1i S M fun x r => ev_c (ev_cnd (ev_b w) x 0) (ev_jp (ev_a w) L r M top c s) (ev_nx w pc L r M top c s)
noncomputable def ev_o_ifcmp (w pc L S : Nat) (M : ev_M) (top c s : Nat) : ev_St := ev_2i S M fun x y r => ev_c (ev_cnd (ev_b w) x y) (ev_jp (ev_a w) L r M top c s) (ev_nx w pc L r M top c s)
noncomputable def ev_o_acmp (w pc L S : Nat) (M : ev_M) (top c s : Nat) : ev_St := ev_1v S M fun y r => ev_1v r M fun x r2 => ev_c (Bool.and (ev_isA x) (ev_isA y)) (ev_c (ev_c (Nat.beq (ev_b w) 0) (Nat.beq x y) (Bool.not (Nat.beq x y))) (ev_jp (ev_a w) L r2 M top c s) (ev_nx w pc L r2 M top c s)) (ev_bad M)
noncomputable def ev_o_ifnull (w pc L S : Nat) (M : ev_M) (top c s : Nat) : ev_St := ev_1v S M fun x r => ev_c (ev_isA x) (ev_c (ev_c (Nat.beq (ev_b w) 0) (Nat.beq x 4) (Bool.not (Nat.beq x 4))) (ev_jp (ev_a w) L r M top c s) (ev_nx w pc L r M top c s)) (ev_bad M)
noncomputable def ev_o_goto (w pc L S : Nat) (M : ev_M) (top c s : Nat) : ev_St := ev_jp (ev_a w) L S M top c s
noncomputable def ev_o_switch (sw : Nat → Nat → Nat) (w pc L S : Nat) (M : ev_M) (top c s : Nat) : ev_St := ev_1i S M fun x r => ev_c (Nat.ble 64 x) (ev_bad M) (ev_jp (sw (ev_a w) x) L r M top c s)
noncomputable def ev_o_ret (w pc L S : Nat) (M : ev_M) (top c s : Nat) : ev_St := ev_c (Nat.beq S 0) (ev_mk 1 0 0 0 M top c s) (ev_bad M)
noncomputable def ev_o_vret (w pc L S : Nat) (M : ev_M) (top c s : Nat) : ev_St := ev_1v S M fun v r => ev_c (Bool.and (Nat.beq r 0) (Bool.and (ev_c (Nat.beq (ev_b w) 2) (ev_isA v) (ev_tag v (ev_b w))) (Bool.or (Nat.ble 2 (ev_b w)) (Nat.ble (Nat.shiftRight v 2) (ev_a w))))) (ev_mk 1 0 0 v M top c s) (ev_bad M)
noncomputable def ev_o_getf (w pc L S : Nat) (M : ev_M) (top c s : Nat) : ev_St := ev_1r S (ev_b w) M fun b r => ev_nx w pc L (ev_ps r (ev_or (ev_rd M (Nat.add b (ev_a w))) (Nat.succ (Nat.land (ev_d w) 3)))) M top c s
noncomputable def ev_o_putf (C : Nat) (w pc L S : Nat) (M : ev_M) (top c s : Nat) : ev_St := ev_1v S M fun v r => ev_1r r (ev_b w) M fun b r2 => ev_c (Bool.and (Nat.ble C b) (ev_ok (ev_d w) v)) (ev_wr M (Nat.add b (ev_a w)) v fun M2 => ev_nx w pc L r2 M2 top c s) (ev_bad M)
noncomputable def ev_o_alen (w pc L S : Nat) (M : ev_M) (top c s : Nat) : ev_St := ev_1r S (ev_b w) M fun b r => ev_nx w pc L (ev_pI r (Nat.pred (ev_rd M b))) M top c s
noncomputable def ev_o_ald (w pc L S : Nat) (M : ev_M) (top c s : Nat) : ev_St := ev_1i S M fun i r => ev_1r r (ev_b w) M fun b r2 => ev_c (Nat.blt i (Nat.pred (ev_rd M b))) (ev_nx w pc L (ev_ps r2 (ev_or (ev_rd M (Nat.succ (Nat.add b i))) (Nat.succ (Nat.land (ev_d w) 3)))) M top c s) (ev_bad M)
noncomputable def ev_o_ast (C : Nat) (w pc L S : Nat) (M : ev_M) (top c s : Nat) : ev_St := ev_1v S M fun v r => ev_1i r M fun i r1 => ev_1r r1 (ev_b w) M fun b r2 => ev_c (Bool.and (Nat.ble C b) (Bool.and (Bool.and (ev_ok (ev_d w) v) (ev_as (ev_b w) v)) (Nat.blt i (Nat.pred (ev_rd M b))))) (ev_wr M (Nat.succ (Nat.add b i)) v fun M2 => ev_nx w pc L r2 M2 top c s) (ev_bad M)
noncomputable def ev_o_new (w pc L S : Nat) (M : ev_M) (top c s : Nat) : ev_St := ev_f (Nat.add top (ev_a w)) fun t2 => ev_c (Nat.ble t2 32768) (ev_f (Nat.succ c) fun c2 => ev_f (Nat.add s (ev_a w)) fun s2 => ev_nx w pc L (ev_ps S (Nat.add (Nat.mul 256 top) (Nat.add (Nat.mul 4 (ev_b w)) 2))) M t2 c2 s2) (ev_bad M)
noncomputable def ev_o_newarr (w pc L S : Nat) (M : ev_M) (top c s : Nat) : ev_St := ev_1i S M fun n r => ev_f (Nat.succ (Nat.add top n)) fun t2 => ev_c (Nat.ble t2 32768) (ev_wr M top (Nat.succ n) fun M2 => ev_f (Nat.succ c) fun c2 => ev_f (Nat.add s n) fun s2 => ev_nx w pc L (ev_ps r (Nat.add (Nat.mul 256 top) (Nat.add (Nat.mul 4 (ev_b w)) 2))) M2 t2 c2 s2) (ev_bad M)
noncomputable def ev_o_cast (w pc L S : Nat) (M : ev_M) (top c s : Nat) : ev_St := ev_top S fun v r => ev_c (Bool.and (ev_tag v 2) (Nat.beq (Nat.land (Nat.shiftRight v 2) 63) (ev_b w))) (ev_nx w pc L S M top c s) (ev_bad M)
noncomputable def ev_o_acopy (C : Nat) (w pc L S : Nat) (M : ev_M) (top c s : Nat) : ev_St := ev_1i S M fun n r => ev_1i r M fun j r1 => ev_1r r1 (ev_b w) M fun b r2 => ev_1i r2 M fun i r3 => ev_1r r3 (ev_b w) M fun a r4 => ev_c (Bool.and (Bool.and (Bool.and (Nat.ble C b) (Nat.ble (ev_wgt r4) 8)) (Bool.not (Nat.beq a b))) (Bool.and (Nat.ble (Nat.add i n) (Nat.pred (ev_rd M a))) (Bool.and (Nat.ble (Nat.add j n) (Nat.pred (ev_rd M b))) (ev_c (Nat.ble (ev_b w) 2) true (ev_ck n M (Nat.succ (Nat.add a i))))))) (ev_cp n (fun M2 => ev_nx w pc L r4 M2 top c s) M (Nat.succ (Nat.add a i)) (Nat.succ (Nat.add b j))) (ev_bad M)
noncomputable def ev_o_objinit (w pc L S : Nat) (M : ev_M) (top c s : Nat) : ev_St := ev_1v S M fun v r => ev_c (Bool.and (ev_tag v 2) (Nat.ble (ev_wgt r) 8)) (ev_nx w pc L r M top c s) (ev_bad M)
noncomputable def ev_o_getcls (w pc L S : Nat) (M : ev_M) (top c s : Nat) : ev_St := ev_1r S (ev_b w) M fun b r => ev_c (Nat.ble (ev_wgt r) 8) (ev_nx w pc L (ev_ps r (Nat.add (Nat.mul 4 (ev_a w)) 2)) M top c s) (ev_bad M)
noncomputable def ev_o_math (w pc L S : Nat) (M : ev_M) (top c s : Nat) : ev_St := ev_2i S M fun x y r => ev_c (Nat.ble (ev_wgt r) 8) (ev_bin x y r w pc L M top c s (ev_c (Nat.beq (ev_b w) 0) (ev_c (ev_slt x y) y x) (ev_c (ev_slt y x) y x))) (ev_bad M)
noncomputable def ev_do (C : Nat) (sw : Nat → Nat → Nat) (call : Nat → Nat → ev_M → Nat → ev_St) (op w pc L S : Nat) (M : ev_M) (top c s : Nat) : ev_St :=
  ev_c (Nat.ble 50 op) (ev_bad M) (ev_c (Nat.ble 25 op) (ev_c (Nat.ble 37 op) (ev_c (Nat.ble 43 op) (ev_c (Nat.ble 46 op) (ev_c (Nat.ble 48 op) (ev_c (Nat.ble 49 op) (ev_o_math w pc L S M top c s) (ev_o_getcls w pc L S M top c s)) (ev_c (Nat.ble 47 op) (ev_o_objinit w pc L S M top c s) (ev_o_acopy C w pc L S M top c s))) (ev_c (Nat.ble 44 op) (ev_c (Nat.ble 45 op) (ev_inv call w pc L S M top c s) (ev_o_cast w pc L S M top c s)) (ev_o_newarr w pc L S M top c s))) (ev_c (Nat.ble 40 op) (ev_c (Nat.ble 41 op) (ev_c (Nat.ble 42 op) (ev_o_new w pc L S M top c s) (ev_o_ast C w pc L S M top c s)) (ev_o_ald w pc L S M top c s)) (ev_c (Nat.ble 38 op) (ev_c (Nat.ble 39 op) (ev_o_alen w pc L S M top c s) (ev_o_putf C w pc L S M top c s)) (ev_o_getf w pc L S M top c s)))) (ev_c (Nat.ble 31 op) (ev_c (Nat.ble 34 op) (ev_c (Nat.ble 35 op) (ev_c (Nat.ble 36 op) (ev_o_vret w pc L S M top c s) (ev_o_ret w pc L S M top c s)) (ev_o_switch sw w pc L S M top c s)) (ev_c (Nat.ble 32 op) (ev_c (Nat.ble 33 op) (ev_o_goto w pc L S M top c s) (ev_o_ifnull w pc L S M top c s)) (ev_o_acmp w pc L S M top c s))) (ev_c (Nat.ble 28 op) (ev_c (Nat.ble 29 op) (ev_c (Nat.ble 30 op) (ev_o_ifcmp w pc L S M top c s) (ev_o_if w pc L S M top c s)) (ev_o_lcmp w pc L S M top c s)) (ev_c (Nat.ble 26 op) (ev_c (Nat.ble 27 op) (ev_o_lmul w pc L S M top c s) (ev_o_ladd w pc L S M top c s)) (ev_o_i2c w pc L S M top c s))))) (ev_c (Nat.ble 12 op) (ev_c (Nat.ble 18 op) (ev_c (Nat.ble 21 op) (ev_c (Nat.ble 23 op) (ev_c (Nat.ble 24 op) (ev_o_i2b w pc L S M top c s) (ev_o_i2l w pc L S M top c s)) (ev_c (Nat.ble 22 op) (ev_o_ineg w pc L S M top c s) (ev_o_ixor w pc L S M top c s))) (ev_c (Nat.ble 19 op) (ev_c (Nat.ble 20 op) (ev_o_ior w pc L S M top c s) (ev_o_iand w pc L S M top c s)) (ev_o_ishr w pc L S M top c s))) (ev_c (Nat.ble 15 op) (ev_c (Nat.ble 16 op) (ev_c (Nat.ble 17 op) (ev_o_ishl w pc L S M top c s) (ev_o_irem w pc L S M top c s)) (ev_o_imul w pc L S M top c s)) (ev_c (Nat.ble 13 op) (ev_c (Nat.ble 14 op) (ev_o_isub w pc L S M top c s) (ev_o_iadd w pc L S M top c s)) (ev_o_dup_x1 w pc L S M top c s)))) (ev_c (Nat.ble 6 op) (ev_c (Nat.ble 9 op) (ev_c (Nat.ble 10 op) (ev_c (Nat.ble 11 op) (ev_o_dup w pc L S M top c s) (ev_o_pop2 w pc L S M top c s)) (ev_o_pop w pc L S M top c s)) (ev_c (Nat.ble 7 op) (ev_c (Nat.ble 8 op) (ev_o_iinc w pc L S M top c s) (ev_o_store2 w pc L S M top c s)) (ev_o_store w pc L S M top c s))) (ev_c (Nat.ble 3 op) (ev_c (Nat.ble 4 op) (ev_c (Nat.ble 5 op) (ev_o_load w pc L S M top c s) (ev_o_pushR w pc L S M top c s)) (ev_o_null w pc L S M top c s)) (ev_c (Nat.ble 1 op) (ev_c (Nat.ble 2 op) (ev_o_pushL w pc L S M top c s) (ev_o_pushI w pc L S M top c s)) (ev_o_bad w pc L S M top c s))))))
noncomputable def ev_step (C : Nat) (sw : Nat → Nat → Nat) (call : Nat → Nat → ev_M → Nat → ev_St) (code : Nat) (st : ev_St) : ev_St :=
  ev_un st fun stat pc L S M top c s => ev_c (Nat.beq stat 0) (ev_f (Nat.mod (Nat.shiftRight code (Nat.mul 64 pc)) 18446744073709551616) fun w => ev_f (Nat.land w 127) fun op => ev_do C sw call op w pc L S M top c s) (ev_mk stat pc L S M top c s)
noncomputable def ev_run (C : Nat) (sw : Nat → Nat → Nat) (call : Nat → Nat → ev_M → Nat → ev_St) (code : Nat) (k : Nat) : ev_St → ev_St := Nat.rec (motive := fun _ => ev_St → ev_St) (fun st => ev_step C sw call code st)
  (fun _ ih st => ev_un (ih st) fun stat pc L S M top c s => ev_c (Nat.beq stat 0) (ih (ev_mk stat pc L S M top c s)) (ev_mk stat pc L S M top c s)) k
/-- a method: of depth d -/
noncomputable def ev_m (C : Nat) (sw : Nat → Nat → Nat) (code : Nat → Nat) (orc : (Nat → Nat → ev_M → Nat → ev_St) → Nat → Nat → Nat → ev_M → Nat → ev_St) (d : Nat) : Nat → Nat → ev_M → Nat → ev_St := Nat.rec (motive := fun _ => Nat → Nat → ev_M → Nat → ev_St) (fun _ _ M _ => ev_bad M)
  (fun d ih mi L M top => ev_run C sw (fun i L2 M2 t2 => orc ih d i L2 M2 t2) (code mi) 13 (ev_mk 0 0 L 0 M top 0 0)) d
