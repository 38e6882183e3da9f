/-! THE FAST MACHINE'S NUMBERS: what is reckoned over numbers is what the machine reckons over ints and longs -/
theorem fn_bv (n : Nat) : (Int32.ofNat n).toBitVec.toNat = n % 4294967296 := by simp
theorem fn_eq {x : Int32} {n : Nat} (h : x.toBitVec.toNat = n % 4294967296) : x = Int32.ofNat n := Int32.toBitVec_inj.mp (BitVec.eq_of_toNat_eq (h.trans (fn_bv n).symm))
theorem fn_inj {x y : Nat} : Int32.ofNat x = Int32.ofNat y ↔ x % 4294967296 = y % 4294967296 := by
  constructor
  · intro h
    rw [← fn_bv x, ← fn_bv y, h]
  · intro h
    exact fn_eq ((fn_bv x).trans h)
theorem fn_mod (n : Nat) : Int32.ofNat (n % 4294967296) = Int32.ofNat n := fn_inj.mpr (Nat.mod_mod _ _)
theorem fn_add (x y : Nat) : Int32.ofNat x + Int32.ofNat y = Int32.ofNat (fi_add x y) := by
  refine fn_eq ?_
  rw [Int32.toBitVec_add, BitVec.toNat_add, fn_bv, fn_bv]
  show _ = (x + y) % 4294967296 % 4294967296
  omega
theorem fn_sub (x y : Nat) : Int32.ofNat x - Int32.ofNat y = Int32.ofNat (fi_sub x y) := by
  refine fn_eq ?_
  rw [Int32.toBitVec_sub, BitVec.toNat_sub, fn_bv, fn_bv]
  show _ = (x + 4294967296 - y % 4294967296) % 4294967296 % 4294967296
  omega
theorem fn_mul (x y : Nat) : Int32.ofNat x * Int32.ofNat y = Int32.ofNat (fi_mul x y) := by
  refine fn_eq ?_
  rw [Int32.toBitVec_mul, BitVec.toNat_mul, fn_bv, fn_bv]
  show _ = (x * y) % 4294967296 % 4294967296
  rw [Nat.mod_mod, ← Nat.mul_mod]
theorem fn_and (x y : Nat) : Int32.ofNat x &&& Int32.ofNat y = Int32.ofNat (Nat.land x y) := by
  refine fn_eq ?_
  rw [Int32.toBitVec_and, BitVec.toNat_and, fn_bv, fn_bv]
  exact (Nat.and_mod_two_pow (n := 32)).symm
theorem fn_or (x y : Nat) : Int32.ofNat x ||| Int32.ofNat y = Int32.ofNat (Nat.lor x y) := by
  refine fn_eq ?_
  rw [Int32.toBitVec_or, BitVec.toNat_or, fn_bv, fn_bv]
  exact (Nat.or_mod_two_pow (n := 32)).symm
theorem fn_xor (x y : Nat) : Int32.ofNat x ^^^ Int32.ofNat y = Int32.ofNat (Nat.xor x y) := by
  refine fn_eq ?_
  rw [Int32.toBitVec_xor, BitVec.toNat_xor, fn_bv, fn_bv]
  exact (Nat.xor_mod_two_pow (n := 32)).symm
theorem fn_31 (y : Nat) : Int32.ofNat y &&& 31 = Int32.ofNat (y % 32) := by
  have h : (31 : Int32) = Int32.ofNat 31 := rfl
  rw [h, fn_and]
  refine fn_inj.mpr ?_
  have : Nat.land y 31 = y % 32 := Nat.and_two_pow_sub_one_eq_mod y 5
  rw [this]
theorem fn_s31 : ∀ j, j < 32 → ((Int32.ofNat j).toBitVec.smod 32).toNat = j := by decide +kernel
theorem fn_u31 : ∀ j, j < 32 → (((Int32.ofNat j).toUInt32 &&& Int32.toUInt32 31).toBitVec % 32).toNat = j := by decide +kernel
theorem fn_shl (x y : Nat) : Int32.ofNat x <<< (Int32.ofNat y &&& 31) = Int32.ofNat (fi_shl x y) := by
  refine fn_eq ?_
  rw [fn_31, pk_shl _ _ (y % 32) (fn_s31 _ (Nat.mod_lt _ (by decide))), fn_bv]
  show _ = (x <<< (y % 32)) % 4294967296 % 4294967296
  rw [Nat.mod_mod, Nat.shiftLeft_eq, Nat.mul_mod, Nat.mod_mod, ← Nat.mul_mod]
theorem fn_u31' (y : Nat) : (Int32.ofNat y).toUInt32 &&& Int32.toUInt32 31 = (Int32.ofNat (y % 32)).toUInt32 &&& Int32.toUInt32 31 := by
  rw [← Int32.toUInt32_and, ← Int32.toUInt32_and, fn_31, fn_31, Nat.mod_mod]
theorem fn_ushr (x y : Nat) : ((Int32.ofNat x).toUInt32 >>> ((Int32.ofNat y).toUInt32 &&& Int32.toUInt32 31)).toInt32 = Int32.ofNat (fi_ushr x y) := by
  refine fn_eq ?_
  rw [fn_u31', pk_ushr _ _ (y % 32) (fn_u31 _ (Nat.mod_lt _ (by decide))), fn_bv]
  show _ = ((x % 4294967296) >>> (y % 32)) % 4294967296
  rw [Nat.shiftRight_eq_div_pow]
  have h : (x % 4294967296) / 2 ^ (y % 32) ≤ x % 4294967296 := Nat.div_le_self _ _
  generalize (x % 4294967296) / 2 ^ (y % 32) = q at h ⊢
  omega
/-- an int's value -/
theorem fn_int (n : Nat) : (Int32.ofNat n).toInt = if n % 4294967296 < 2147483648 then ((n % 4294967296 : Nat) : Int) else ((n % 4294967296 : Nat) : Int) - 4294967296 := by
  rw [← Int32.toInt_toBitVec, BitVec.toInt_eq_toNat_cond, fn_bv]
  by_cases h : n % 4294967296 < 2147483648
  · rw [if_pos (by omega), if_pos h]
  · rw [if_neg (by omega), if_neg h]
    rfl
theorem fn_lt (x y : Nat) : Int32.ofNat x < Int32.ofNat y ↔ fi_ltb x y = true := by
  rw [Int32.lt_iff_toInt_lt, fn_int, fn_int]
  unfold fi_ltb fi_b
  rw [Nat.ble_eq]
  show _ ↔ (x + 2147483648) % 4294967296 + 1 ≤ (y + 2147483648) % 4294967296
  split <;> split <;> omega
theorem fn_eqb (x y : Nat) : Int32.ofNat x = Int32.ofNat y ↔ Nat.beq (Nat.mod x 4294967296) (Nat.mod y 4294967296) = true := by
  rw [Nat.beq_eq]
  exact fn_inj
theorem fn_ng (x : Nat) : fi_ng x = true ↔ 2147483648 ≤ x := by
  unfold fi_ng
  rw [Nat.ble_eq]
theorem fn_ng' (x : Nat) : fi_ng x = false ↔ x < 2147483648 := by
  constructor
  · intro h
    refine Nat.not_le.mp fun q => ?_
    rw [(fn_ng x).mpr q] at h
    cases h
  · intro h
    cases hq : fi_ng x with
    | false => rfl
    | true => exact absurd ((fn_ng x).mp hq) (Nat.not_le.mpr h)
theorem fn_fdiv (a d : Nat) (hd : 0 < d) : (-(a : Int) - 1) / (d : Int) = -((a / d : Nat) : Int) - 1 := by
  have h := Int.negSucc_ediv a (b := (d : Int)) (by omega)
  have e : (-(a : Int) - 1) = Int.negSucc a := by omega
  rw [e, h]
  have e2 : Int.ediv (a : Int) (d : Int) = ((a / d : Nat) : Int) := rfl
  omega
theorem fn_shr (x y : Nat) : Int32.ofNat x >>> (Int32.ofNat y &&& 31) = Int32.ofNat (fi_shr x y) := by
  refine Int32.toInt_inj.mp ?_
  rw [fn_31, pk_shr _ _ (y % 32) (fn_s31 _ (Nat.mod_lt _ (by decide))), fn_int, fn_int, Int.shiftRight_eq_div_pow]
  unfold fi_shr fi_shr0
  generalize hk : y % 32 = k
  have hk2 : Nat.mod y 32 = k := hk
  rw [hk2]
  have hd : 0 < 2 ^ k := Nat.pow_pos (by decide)
  have hx : Nat.mod x 4294967296 = x % 4294967296 := rfl
  rw [hx]
  have hx2 : x % 4294967296 < 4294967296 := Nat.mod_lt _ (by decide)
  generalize x % 4294967296 = u at hx2 ⊢
  cases hn : fi_ng u with
  | false =>
    have h1 := (fn_ng' u).mp hn
    show _ = (if (u >>> k) % 4294967296 < 2147483648 then (((u >>> k) % 4294967296 : Nat) : Int) else (((u >>> k) % 4294967296 : Nat) : Int) - 4294967296)
    rw [if_pos h1, Nat.shiftRight_eq_div_pow]
    have h2 : u / 2 ^ k ≤ u := Nat.div_le_self _ _
    rw [Nat.mod_eq_of_lt (by omega), if_pos (by omega)]
    exact (Int.natCast_ediv u (2 ^ k)).symm ▸ rfl
  | true =>
    have h1 := (fn_ng u).mp hn
    show _ = (if (4294967295 - (4294967295 - u) >>> k) % 4294967296 < 2147483648 then (((4294967295 - (4294967295 - u) >>> k) % 4294967296 : Nat) : Int) else (((4294967295 - (4294967295 - u) >>> k) % 4294967296 : Nat) : Int) - 4294967296)
    rw [if_neg (by omega), Nat.shiftRight_eq_div_pow]
    have h2 : (4294967295 - u) / 2 ^ k ≤ 4294967295 - u := Nat.div_le_self _ _
    have h3 := fn_fdiv (4294967295 - u) (2 ^ k) hd
    have h5 : ((u : Nat) : Int) - 4294967296 = -((4294967295 - u : Nat) : Int) - 1 := by omega
    rw [h5, h3]
    generalize (4294967295 - u) / 2 ^ k = q at h2 ⊢
    rw [Nat.mod_eq_of_lt (by omega), if_neg (by omega)]
    omega
theorem fn_div {x y : Nat} (hx : fi_ng (Nat.mod x 4294967296) = false) (hy : fi_ng (Nat.mod y 4294967296) = false) : Int32.ofNat x / Int32.ofNat y = Int32.ofNat (Nat.div (Nat.mod x 4294967296) (Nat.mod y 4294967296)) := by
  have h1 := (fn_ng' _).mp hx
  have h2 := (fn_ng' _).mp hy
  have h3 := Int32.ofNat_div (a := Nat.mod x 4294967296) (b := Nat.mod y 4294967296) h1 h2
  refine Eq.trans ?_ h3.symm
  have e1 : Int32.ofNat (Nat.mod x 4294967296) = Int32.ofNat x := fn_mod x
  have e2 : Int32.ofNat (Nat.mod y 4294967296) = Int32.ofNat y := fn_mod y
  rw [e1, e2]
theorem fn_rem0 {u v : Nat} (hu : u < 4294967296) (hv : v < 4294967296) (h0 : v ≠ 0) : (Int32.ofNat u % Int32.ofNat v) = Int32.ofNat (fi_rem0 u v) := by
  refine Int32.toInt_inj.mp ?_
  rw [Int32.toInt_mod, fn_int, fn_int, fn_int, Nat.mod_eq_of_lt hu, Nat.mod_eq_of_lt hv]
  have hV : ∃ a : Nat, a = fi_abs v ∧ 0 < a ∧ a ≤ 2147483648 ∧ ((if v < 2147483648 then (v : Int) else (v : Int) - 4294967296) = (a : Int) ∨ (if v < 2147483648 then (v : Int) else (v : Int) - 4294967296) = -(a : Int)) := by
    refine ⟨_, rfl, ?_⟩
    unfold fi_abs
    cases hn : fi_ng v with
    | false =>
      have h1 := (fn_ng' v).mp hn
      refine ⟨by show 0 < v; omega, by show v ≤ _; omega, Or.inl ?_⟩
      rw [if_pos h1]
    | true =>
      have h1 := (fn_ng v).mp hn
      refine ⟨by show 0 < 4294967296 - v; omega, by show 4294967296 - v ≤ _; omega, Or.inr ?_⟩
      rw [if_neg (by omega)]
      show _ = -((4294967296 - v : Nat) : Int)
      omega
  obtain ⟨a, ha, h1, h2, h3⟩ := hV
  have h4 : ∀ X : Int, X.tmod (if v < 2147483648 then (v : Int) else (v : Int) - 4294967296) = X.tmod (a : Int) := by
    intro X
    rcases h3 with h3 | h3
    · rw [h3]
    · rw [h3, Int.tmod_neg]
  rw [h4]
  unfold fi_rem0
  rw [← ha]
  cases hn : fi_ng u with
  | false =>
    have g1 := (fn_ng' u).mp hn
    show _ = (if (u % a) % 4294967296 < 2147483648 then (((u % a) % 4294967296 : Nat) : Int) else (((u % a) % 4294967296 : Nat) : Int) - 4294967296)
    rw [if_pos g1]
    have g2 : u % a < a := Nat.mod_lt _ h1
    rw [Nat.mod_eq_of_lt (a := u % a) (by omega), if_pos (by omega)]
    exact (Int.ofNat_tmod u a).symm
  | true =>
    have g1 := (fn_ng u).mp hn
    show _ = (if (4294967296 - (4294967296 - u) % a) % 4294967296 % 4294967296 < 2147483648 then (((4294967296 - (4294967296 - u) % a) % 4294967296 % 4294967296 : Nat) : Int) else (((4294967296 - (4294967296 - u) % a) % 4294967296 % 4294967296 : Nat) : Int) - 4294967296)
    rw [if_neg (by omega)]
    have e : ((u : Nat) : Int) - 4294967296 = -((4294967296 - u : Nat) : Int) := by omega
    rw [e, Int.neg_tmod, ← Int.ofNat_tmod]
    have g2 : (4294967296 - u) % a < a := Nat.mod_lt _ h1
    have g3 : (4294967296 - u) % a ≤ 4294967296 - u := Nat.mod_le _ _
    generalize (4294967296 - u) % a = w at g2 g3 ⊢
    rw [Nat.mod_mod]
    by_cases hw : w = 0
    · subst hw
      rfl
    · rw [Nat.mod_eq_of_lt (a := 4294967296 - w) (by omega)]
      by_cases g : 4294967296 - w < 2147483648
      · exfalso; omega
      · rw [if_neg g]
        omega
theorem fn_rem {x y : Nat} (h0 : Nat.beq (Nat.mod y 4294967296) 0 = false) : Int32.ofNat x - Int32.ofNat x / Int32.ofNat y * Int32.ofNat y = Int32.ofNat (fi_rem x y) := by
  rw [irem_eq_mod]
  have e1 : Int32.ofNat (Nat.mod x 4294967296) = Int32.ofNat x := fn_mod x
  have e2 : Int32.ofNat (Nat.mod y 4294967296) = Int32.ofNat y := fn_mod y
  have h1 : Nat.mod y 4294967296 ≠ 0 := fun q => by rw [q] at h0; cases h0
  have h2 := fn_rem0 (u := Nat.mod x 4294967296) (v := Nat.mod y 4294967296) (Nat.mod_lt _ (by decide)) (Nat.mod_lt _ (by decide)) h1
  rw [e1, e2] at h2
  exact h2
theorem fn_blef {a b : Nat} (h : ¬ a ≤ b) : Nat.ble a b = false := by
  cases q : Nat.ble a b with
  | false => rfl
  | true => exact absurd (Nat.le_of_ble_eq_true q) h
theorem fn_beqf {a b : Nat} (h : ¬ a = b) : Nat.beq a b = false := by
  cases q : Nat.beq a b with
  | false => rfl
  | true => exact absurd (Nat.eq_of_beq_eq_true q) h
theorem fn_0 (y : Nat) : Nat.beq (Nat.mod y 4294967296) 0 = false → ¬ Int32.ofNat y = 0 := by
  intro h q
  have h2 : (0 : Int32) = Int32.ofNat 0 := rfl
  rw [h2, fn_inj] at q
  have q2 : Nat.mod y 4294967296 = 0 := q
  rw [q2] at h
  cases h
/-! longs -/
theorem fn_lbv (n : Nat) : (Int64.ofNat n).toBitVec.toNat = n % 18446744073709551616 := by simp
theorem fn_leq {x : Int64} {n : Nat} (h : x.toBitVec.toNat = n % 18446744073709551616) : x = Int64.ofNat n := Int64.toBitVec_inj.mp (BitVec.eq_of_toNat_eq (h.trans (fn_lbv n).symm))
theorem fn_linj {x y : Nat} : Int64.ofNat x = Int64.ofNat y ↔ x % 18446744073709551616 = y % 18446744073709551616 := by
  constructor
  · intro h
    rw [← fn_lbv x, ← fn_lbv y, h]
  · intro h
    exact fn_leq ((fn_lbv x).trans h)
theorem fn_lmod (n : Nat) : Int64.ofNat (n % 18446744073709551616) = Int64.ofNat n := fn_linj.mpr (Nat.mod_mod _ _)
theorem fn_ladd (x y : Nat) : Int64.ofNat x + Int64.ofNat y = Int64.ofNat (fl_add x y) := by
  refine fn_leq ?_
  rw [Int64.toBitVec_add, BitVec.toNat_add, fn_lbv, fn_lbv]
  show _ = (x + y) % 18446744073709551616 % 18446744073709551616
  omega
theorem fn_lsub (x y : Nat) : Int64.ofNat x - Int64.ofNat y = Int64.ofNat (fl_sub x y) := by
  refine fn_leq ?_
  rw [Int64.toBitVec_sub, BitVec.toNat_sub, fn_lbv, fn_lbv]
  show _ = (x + 18446744073709551616 - y % 18446744073709551616) % 18446744073709551616 % 18446744073709551616
  omega
theorem fn_lmul (x y : Nat) : Int64.ofNat x * Int64.ofNat y = Int64.ofNat (fl_mul x y) := by
  refine fn_leq ?_
  rw [Int64.toBitVec_mul, BitVec.toNat_mul, fn_lbv, fn_lbv]
  show _ = (x * y) % 18446744073709551616 % 18446744073709551616
  rw [Nat.mod_mod, ← Nat.mul_mod]
theorem fn_lint (n : Nat) : (Int64.ofNat n).toInt = if n % 18446744073709551616 < 9223372036854775808 then ((n % 18446744073709551616 : Nat) : Int) else ((n % 18446744073709551616 : Nat) : Int) - 18446744073709551616 := by
  rw [← Int64.toInt_toBitVec, BitVec.toInt_eq_toNat_cond, fn_lbv]
  by_cases h : n % 18446744073709551616 < 9223372036854775808
  · rw [if_pos (by omega), if_pos h]
  · rw [if_neg (by omega), if_neg h]
    rfl
theorem fn_lbI (n : Nat) : ((fl_b n : Nat) : Int) = (Int64.ofNat n).toInt + 9223372036854775808 := by
  rw [fn_lint]
  unfold fl_b
  show (((n + 9223372036854775808) % 18446744073709551616 : Nat) : Int) = _
  split <;> omega
theorem fn_bI (n : Nat) : ((fi_b n : Nat) : Int) = (Int32.ofNat n).toInt + 2147483648 := by
  rw [fn_int]
  unfold fi_b
  show (((n + 2147483648) % 4294967296 : Nat) : Int) = _
  split <;> omega
theorem fl_cmp_eq (u v : Nat) : fl_cmp0 u v = if u < v then 4294967295 else if u = v then 0 else 1 := by
  unfold fl_cmp0
  by_cases h : u < v
  · rw [if_pos h, show Nat.ble (Nat.succ u) v = true from Nat.ble_eq.mpr h]
  · rw [if_neg h, show Nat.ble (Nat.succ u) v = false from fn_blef h]
    by_cases h2 : u = v
    · rw [if_pos h2, show Nat.beq u v = true from Nat.beq_eq.mpr h2]
    · rw [if_neg h2, show Nat.beq u v = false from fn_beqf h2]
theorem fn_m1 : (-1 : Int32) = Int32.ofNat 4294967295 := by decide +kernel
theorem fn_lcmp0 {X Y : Int64} {u v : Nat} (hx : (u : Int) = X.toInt + 9223372036854775808) (hy : (v : Int) = Y.toInt + 9223372036854775808) : lg_cmp X Y = Int32.ofNat (fl_cmp0 u v) := by
  rw [fl_cmp_eq]
  have h1 : X > Y ↔ Y.toInt < X.toInt := by rw [gt_iff_lt, Int64.lt_iff_toInt_lt]
  have h2 : X = Y ↔ X.toInt = Y.toInt := Int64.toInt_inj.symm
  unfold lg_cmp
  by_cases g1 : X > Y
  · have g3 := h1.mp g1
    rw [if_pos g1, if_neg (show ¬ u < v by omega), if_neg (show ¬ u = v by omega)]
    rfl
  · have g3 : ¬ Y.toInt < X.toInt := fun q => g1 (h1.mpr q)
    rw [if_neg g1]
    by_cases g2 : X = Y
    · have g4 := h2.mp g2
      rw [if_pos g2, if_neg (show ¬ u < v by omega), if_pos (show u = v by omega)]
      rfl
    · have g4 : ¬ X.toInt = Y.toInt := fun q => g2 (h2.mpr q)
      rw [if_neg g2, if_pos (show u < v by omega)]
      exact fn_m1
theorem fn_lcmp (x y : Nat) : lg_cmp (Int64.ofNat x) (Int64.ofNat y) = Int32.ofNat (fl_cmp x y) := by
  unfold fl_cmp
  exact fn_lcmp0 (fn_lbI x) (fn_lbI y)
theorem fn_i2l (x : Nat) : (Int32.ofNat x).toInt64 = Int64.ofNat (fi_sx (Nat.mod x 4294967296)) := by
  refine Int64.toInt_inj.mp ?_
  rw [Int32.toInt_toInt64, fn_int, fn_lint]
  have hx : Nat.mod x 4294967296 = x % 4294967296 := rfl
  rw [hx]
  have hx2 : x % 4294967296 < 4294967296 := Nat.mod_lt _ (by decide)
  generalize x % 4294967296 = u at hx2 ⊢
  unfold fi_sx
  cases hn : fi_ng u with
  | false =>
    have h1 := (fn_ng' u).mp hn
    show _ = (if u % 18446744073709551616 < _ then ((u % 18446744073709551616 : Nat) : Int) else ((u % 18446744073709551616 : Nat) : Int) - 18446744073709551616)
    split <;> split <;> omega
  | true =>
    have h1 := (fn_ng u).mp hn
    show _ = (if (u + 18446744069414584320) % 18446744073709551616 < _ then (((u + 18446744069414584320) % 18446744073709551616 : Nat) : Int) else (((u + 18446744069414584320) % 18446744073709551616 : Nat) : Int) - 18446744073709551616)
    split <;> split <;> omega
theorem fn_l2i (x : Nat) : (Int64.ofNat x).toInt32 = Int32.ofNat (Nat.mod x 4294967296) := by
  refine fn_eq ?_
  rw [Int64.toBitVec_toInt32, BitVec.signExtend_eq_setWidth_of_le _ (by decide), BitVec.toNat_setWidth, fn_lbv]
  show _ = x % 4294967296 % 4294967296
  omega
theorem fn_s63 : ∀ j, j < 64 → ((Int64.ofNat j).toBitVec.smod 64).toNat = j := by decide +kernel
theorem fn_63 (y : Nat) : (Int32.ofNat y).toInt64 &&& 63 = Int64.ofNat (y % 64) := by
  rw [fn_i2l]
  refine fn_leq ?_
  have h : (63 : Int64) = Int64.ofNat 63 := rfl
  rw [h, Int64.toBitVec_and, BitVec.toNat_and, fn_lbv, fn_lbv]
  have e : 63 % 18446744073709551616 = 2 ^ 6 - 1 := rfl
  rw [e, Nat.and_two_pow_sub_one_eq_mod]
  have hx : Nat.mod y 4294967296 = y % 4294967296 := rfl
  rw [hx]
  unfold fi_sx
  cases hn : fi_ng (y % 4294967296) with
  | false =>
    show (y % 4294967296) % 18446744073709551616 % 2 ^ 6 = _
    omega
  | true =>
    show (y % 4294967296 + 18446744069414584320) % 18446744073709551616 % 2 ^ 6 = _
    omega
theorem fn_lshl (x y : Nat) : Int64.ofNat x <<< ((Int32.ofNat y).toInt64 &&& 63) = Int64.ofNat (Nat.mod (Nat.shiftLeft x (Nat.mod y 64)) 18446744073709551616) := by
  refine fn_leq ?_
  rw [fn_63, Int64.toBitVec_shiftLeft, BitVec.shiftLeft_eq', fn_s63 _ (Nat.mod_lt _ (by decide)), BitVec.toNat_shiftLeft, fn_lbv]
  show _ = (x <<< (y % 64)) % 18446744073709551616 % 18446744073709551616
  rw [Nat.mod_mod, Nat.shiftLeft_eq, Nat.shiftLeft_eq]
  show (x % 18446744073709551616 * 2 ^ (y % 64)) % 18446744073709551616 = _
  rw [Nat.mul_mod, Nat.mod_mod, ← Nat.mul_mod]
theorem fn_char (x : Nat) : narrow .char (.int (Int32.ofNat x)) = .int (Int32.ofNat (Nat.mod x 65536)) := by
  show Value.int (Int32.ofNat x).toUInt32.toUInt16.toUInt32.toInt32 = _
  congr 1
  refine fn_eq ?_
  show (Int32.ofNat x).toUInt32.toUInt16.toUInt32.toBitVec.toNat = x % 65536 % 4294967296
  have h : (Int32.ofNat x).toUInt32.toNat = x % 4294967296 := fn_bv x
  show (Int32.ofNat x).toUInt32.toUInt16.toUInt32.toNat = _
  rw [UInt16.toNat_toUInt32, UInt32.toNat_toUInt16, h]
  omega
theorem fn_bool (x : Nat) : narrow .boolean (.int (Int32.ofNat x)) = .int (Int32.ofNat (Nat.mod x 2)) := by
  show Value.int (Int32.ofNat x &&& 1) = _
  congr 1
  have h : (1 : Int32) = Int32.ofNat 1 := rfl
  rw [h, fn_and]
  refine fn_inj.mpr ?_
  have : Nat.land x 1 = x % 2 := Nat.and_one_is_mod x
  rw [this]
  rfl
