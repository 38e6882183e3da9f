/-! cause: reckoning with longs that are not small -/
theorem gm_bm {z : Int} (h1 : -9223372036854775808 ≤ z) (h2 : z < 9223372036854775808) : z.bmod (2 ^ 64) = z := by
  have h := Int64.toInt_ofInt (n := z)
  rw [Int64.toInt_ofInt_of_le (by omega) (by omega)] at h
  exact h.symm
theorem gm_bm32 {z : Int} (h1 : -2147483648 ≤ z) (h2 : z < 2147483648) : z.bmod (2 ^ 32) = z := by
  have h := Int32.toInt_ofInt (n := z)
  rw [Int32.toInt_ofInt_of_le (by omega) (by omega)] at h
  exact h.symm
theorem gm_mul {x y : Int64} {a b : Int} (hx : x.toInt = a) (hy : y.toInt = b) (h1 : 0 ≤ a * b) (h2 : a * b < 9223372036854775808) : (x * y).toInt = a * b := by
  rw [Int64.toInt_mul, hx, hy]
  exact gm_bm (by omega) h2
theorem gm_div {x y : Int64} {a b : Int} (hx : x.toInt = a) (hy : y.toInt = b) (h1 : 0 ≤ a) (h2 : 0 < b) : (x / y).toInt = a / b := by
  have hn : y ≠ -1 := by
    intro q
    have q2 : y.toInt = (-1 : Int64).toInt := congrArg Int64.toInt q
    have q3 : (-1 : Int64).toInt = -1 := by decide +kernel
    omega
  rw [Int64.toInt_div_of_ne_right x y hn, hx, hy]
  exact Int.tdiv_eq_ediv_of_nonneg h1
theorem gm_rem {x y : Int64} {a b : Int} (hx : x.toInt = a) (hy : y.toInt = b) (h1 : 0 ≤ a) (h2 : 0 < b) (h3 : a < 9223372036854775808) : (x - x / y * y).toInt = a % b := by
  have hd := gm_div hx hy h1 h2
  have e1 : 0 ≤ a / b := Int.ediv_nonneg h1 (by omega)
  have e2 : b * (a / b) + a % b = a := Int.mul_ediv_add_emod a b
  have e3 : 0 ≤ a % b := Int.emod_nonneg a (by omega)
  have e4 : 0 ≤ b * (a / b) := Int.mul_nonneg (by omega) e1
  have e5 : (x / y * y).toInt = a / b * b := gm_mul hd hy (by rw [Int.mul_comm]; exact e4) (by rw [Int.mul_comm]; omega)
  rw [Int64.toInt_sub, hx, e5, Int.mul_comm (a / b) b]
  have e6 : a - b * (a / b) = a % b := by omega
  rw [e6]
  exact gm_bm (by omega) (by omega)
theorem gm_i2l (x : Int32) : x.toInt64.toInt = x.toInt := Int32.toInt_toInt64 x
theorem gm_pred {x : Int32} {a : Int} (hx : x.toInt = a) (h : 1 ≤ a) : (x - Int32.ofInt 1).toInt64.toInt = a - 1 := by
  have h1 : (Int32.ofInt 1).toInt = 1 := by decide +kernel
  have h2 := Int32.toInt_lt x
  rw [gm_i2l, Int32.toInt_sub, hx, h1]
  exact gm_bm32 (by omega) (by omega)
theorem gm_cmp (x y : Int64) : (x.toInt < y.toInt ∧ lg_cmp x y = -1) ∨ (x.toInt = y.toInt ∧ lg_cmp x y = 0) ∨ (y.toInt < x.toInt ∧ lg_cmp x y = 1) := by
  have h1 : x > y ↔ y.toInt < x.toInt := by rw [gt_iff_lt, Int64.lt_iff_toInt_lt]
  have h2 : x = y ↔ x.toInt = y.toInt := Int64.toInt_inj.symm
  unfold lg_cmp
  by_cases g1 : x > y
  · exact Or.inr (Or.inr ⟨h1.mp g1, if_pos g1⟩)
  · by_cases g2 : x = y
    · exact Or.inr (Or.inl ⟨h2.mp g2, by rw [if_neg g1, if_pos g2]⟩)
    · refine Or.inl ⟨?_, by rw [if_neg g1, if_neg g2]⟩
      have g3 : ¬ y.toInt < x.toInt := fun q => g1 (h1.mpr q)
      have g4 : ¬ x.toInt = y.toInt := fun q => g2 (h2.mpr q)
      omega
theorem gm_cmp0 {x y : Int64} {a b : Int} (hx : x.toInt = a) (hy : y.toInt = b) : lg_cmp x y = 0 ↔ a = b := by
  have d1 : ¬ (-1 : Int32) = 0 := by decide
  have d2 : ¬ (1 : Int32) = 0 := by decide
  rcases gm_cmp x y with ⟨h, e⟩ | ⟨h, e⟩ | ⟨h, e⟩
  · rw [e]; exact ⟨fun q => absurd q d1, fun q => by omega⟩
  · rw [e]; exact ⟨fun _ => by omega, fun _ => rfl⟩
  · rw [e]; exact ⟨fun q => absurd q d2, fun q => by omega⟩
theorem gm_cmpge {x y : Int64} {a b : Int} (hx : x.toInt = a) (hy : y.toInt = b) : 0 ≤ lg_cmp x y ↔ b ≤ a := by
  have d1 : ¬ (0 : Int32) ≤ -1 := by decide
  have d2 : (0 : Int32) ≤ 1 := by decide
  have d3 : (0 : Int32) ≤ 0 := by decide
  rcases gm_cmp x y with ⟨h, e⟩ | ⟨h, e⟩ | ⟨h, e⟩
  · rw [e]; exact ⟨fun q => absurd q d1, fun q => by omega⟩
  · rw [e]; exact ⟨fun _ => by omega, fun _ => d3⟩
  · rw [e]; exact ⟨fun _ => by omega, fun _ => d2⟩
theorem gm_z : (Int64.ofNat ((0 : Fin 2) : Nat)).toInt = 0 := by decide +kernel
theorem gm_nz {y : Int64} {b : Int} (hy : y.toInt = b) (h : 0 < b) : ¬ y = 0 := by
  intro q
  have q2 : y.toInt = (0 : Int64).toInt := congrArg Int64.toInt q
  have q3 : (0 : Int64).toInt = 0 := by decide +kernel
  omega
theorem gm_even {x : Int32} {a : Int} (hx : x.toInt = a) (h : 0 ≤ a) : x - x / Int32.ofInt 2 * Int32.ofInt 2 = 0 ↔ a % 2 = 0 := by
  have h2 : (Int32.ofInt 2).toInt = 2 := by decide +kernel
  have h0 : (0 : Int32).toInt = 0 := by decide +kernel
  rw [irem_eq_mod, ← Int32.toInt_inj, Int32.toInt_mod, hx, h2, h0, Int.tmod_eq_emod_of_nonneg h]
theorem mq_lrem {a b n pc : Nat} {al : List (Nat × Value)} {x y : Int64} (h : ¬ y = 0) (st : List Value) (r : mjH × Nat × Nat) : mj_op (.lrem, a, b, n) (pc, al, .long y :: .long x :: st, r) = some (pc + 1, al, .long (x - x / y * y) :: st, r) := by
  unfold mj_op; dsimp only; rw [if_neg h]; rfl
theorem mq_ldiv {a b n pc : Nat} {al : List (Nat × Value)} {x y : Int64} (h : ¬ y = 0) (st : List Value) (r : mjH × Nat × Nat) : mj_op (.ldiv, a, b, n) (pc, al, .long y :: .long x :: st, r) = some (pc + 1, al, .long (x / y) :: st, r) := by
  unfold mj_op; dsimp only; rw [if_neg h]; rfl
/-! squares -/
theorem fsq_yes {k : Int} {r : Nat} (hr : r < 400) (h : (r : Int) * r = k) : fsq k = true := by
  unfold fsq
  exact List.any_eq_true.mpr ⟨r, List.mem_range.mpr hr, decide_eq_true h⟩
theorem fsq_no {k : Int} {r : Nat} (h : k < (r : Int) * r) (hl : ∀ q : Nat, q < r → (q : Int) * q < k) : fsq k = false := by
  unfold fsq
  refine List.any_eq_false.mpr fun q _ hq => ?_
  have hq := of_decide_eq_true hq
  by_cases h1 : q < r
  · have := hl q h1
    omega
  · have h2 : (r : Int) ≤ (q : Int) := by omega
    have h3 : (r : Int) * r ≤ (q : Int) * q := Int.mul_le_mul h2 h2 (by omega) (by omega)
    omega
theorem gm_sq {r : Nat} (hr : r ≤ 400) : (0 : Int) ≤ (r : Int) * r ∧ (r : Int) * r ≤ 160000 := by
  have h : (r : Int) ≤ 400 := by omega
  exact ⟨Int.mul_nonneg (by omega) (by omega), Int.mul_le_mul h h (by omega) (by omega)⟩
theorem gm_nat {r : Nat} (hr : r ≤ 400) : (Int32.ofNat r).toInt = (r : Int) := by
  rw [fn_int, Nat.mod_eq_of_lt (by omega), if_pos (by omega)]
theorem gm_step (r : Nat) : Int32.ofNat r + Int32.ofInt 1 = Int32.ofNat (r + 1) := by
  have : Int32.ofInt 1 = Int32.ofNat 1 := by decide +kernel
  rw [this, fn_add]
  refine fn_inj.mpr ?_
  show (r + 1) % 4294967296 % 4294967296 = (r + 1) % 4294967296
  rw [Nat.mod_mod]
theorem fA_168 {pc : Nat} {e : mjE} (h : mj_at mcX7_isSquareNumber pc = some e) : fAt 168 pc e := h
/-- the loop that looks for the root -/
theorem isq_loop (d : Nat) {n : Int32} (hn : n.toInt ≤ 100000) (H : mjH) : ∀ (k r : Nat), r + k = 400 → (∀ q : Nat, q < r → (q : Int) * q < n.toInt) → ∀ al, mj_ld al 0 = some (.int n) → mj_ld al 1 = some (.int (Int32.ofNat r)) → fTo (fun m f => mj_run mj_P m (d + 1) 168 f) (2, al, [], H, 0, 0) (.inl (some (.int (if fsq n.toInt = true then Int32.ofInt 1 else Int32.ofInt 0))), H, 0, 0)
  | 0, r, hk, hl, al, _, _ => by
    have := hl 399 (by omega)
    omega
  | k + 1, r, hk, hl, al, h0, h1 => by
    have hX := fRun_meth (fun _ => 0) 0 168 d (by decide)
    have hL : mvL [(0, .int n), (1, .int (Int32.ofNat r))] al := mvL_cons h0 (mvL_cons h1 mvL_nil)
    have hr := gm_nat (r := r) (by omega)
    have hs := gm_sq (r := r) (by omega)
    refine fTo_mv hX (C := mcX7_isSquareNumber) rfl 2 (L := [(0, .int n), (1, .int (Int32.ofNat r))]) (pc' := 5) (L' := [(0, .int n), (1, .int (Int32.ofNat r))]) (st' := [.int (Int32.ofNat 100000), .int (Int32.ofNat r)]) rfl hL fun al1 hL1 => ?_
    have hc : ¬ Int32.ofNat 100000 < Int32.ofNat r := by
      rw [Int32.lt_iff_toInt_lt, hr]
      have : (Int32.ofNat 100000).toInt = 100000 := by decide +kernel
      omega
    refine fTo_op hX (f' := (8, al1, [], H, 0, 0)) (e := (.if_icmp .gt 20, 0, 0, 0)) (fA_168 (pc := 5) rfl) (mq_ifn hc) ?_
    refine fTo_mv hX (C := mcX7_isSquareNumber) rfl 8 (L := [(0, .int n), (1, .int (Int32.ofNat r))]) (pc' := 16) (L' := [(0, .int n), (1, .int (Int32.ofNat r))]) (st' := [.int (lg_cmp ((Int32.ofNat r).toInt64 * (Int32.ofNat r).toInt64) n.toInt64)]) rfl hL1 fun al2 hL2 => ?_
    have hr2 : (Int32.ofNat r).toInt64.toInt = (r : Int) := (gm_i2l _).trans hr
    have hm := gm_mul hr2 hr2 hs.1 (by omega)
    have hge := gm_cmpge hm (gm_i2l n)
    by_cases hb : n.toInt ≤ (r : Int) * r
    · refine fTo_op hX (f' := (25, al2, [], H, 0, 0)) (e := (.ifCond .ge 9, 0, 0, 0)) (fA_168 (pc := 16) rfl) (mq_ify (hge.mpr hb)) ?_
      refine fTo_mv hX (C := mcX7_isSquareNumber) rfl 8 (L := [(0, .int n), (1, .int (Int32.ofNat r))]) (pc' := 33) (L' := [(0, .int n), (1, .int (Int32.ofNat r))]) (st' := [.int (lg_cmp ((Int32.ofNat r).toInt64 * (Int32.ofNat r).toInt64) n.toInt64)]) rfl hL2 fun al3 hL3 => ?_
      have h0 := gm_cmp0 hm (gm_i2l n)
      by_cases he : (r : Int) * r = n.toInt
      · refine fTo_op hX (f' := (36, al3, [], H, 0, 0)) (e := (.ifCond .ne 7, 0, 0, 0)) (fA_168 (pc := 33) rfl) (mq_ifn (fun q => q (h0.mpr he))) ?_
        refine fTo_mv hX (C := mcX7_isSquareNumber) rfl 2 (L := [(0, .int n), (1, .int (Int32.ofNat r))]) (pc' := 41) (L' := [(0, .int n), (1, .int (Int32.ofNat r))]) (st' := [.int (Int32.ofInt 1)]) rfl hL3 fun al4 hL4 => ?_
        rw [fsq_yes (show r < 400 by omega) he, if_pos rfl]
        exact fTo_iret hX (fA_168 (pc := 41) rfl) (show (mj_P 168).2.2.1 = some .boolean from rfl) (fn_bool 1)
      · refine fTo_op hX (f' := (40, al3, [], H, 0, 0)) (e := (.ifCond .ne 7, 0, 0, 0)) (fA_168 (pc := 33) rfl) (mq_ify (fun q => he (h0.mp q))) ?_
        refine fTo_mv hX (C := mcX7_isSquareNumber) rfl 1 (L := [(0, .int n), (1, .int (Int32.ofNat r))]) (pc' := 41) (L' := [(0, .int n), (1, .int (Int32.ofNat r))]) (st' := [.int (Int32.ofInt 0)]) rfl hL3 fun al4 hL4 => ?_
        rw [fsq_no (show n.toInt < (r : Int) * r by omega) hl, if_neg (by decide)]
        exact fTo_iret hX (fA_168 (pc := 41) rfl) (show (mj_P 168).2.2.1 = some .boolean from rfl) (fn_bool 0)
    · refine fTo_op hX (f' := (19, al2, [], H, 0, 0)) (e := (.ifCond .ge 9, 0, 0, 0)) (fA_168 (pc := 16) rfl) (mq_ifn (fun q => hb (hge.mp q))) ?_
      refine fTo_mv hX (C := mcX7_isSquareNumber) rfl 2 (L := [(0, .int n), (1, .int (Int32.ofNat r))]) (pc' := 2) (L' := [(1, .int (Int32.ofNat r + Int32.ofInt 1)), (0, .int n)]) (st' := []) rfl hL2 fun al3 hL3 => ?_
      refine isq_loop d hn H k (r + 1) (by omega) (fun q hq => ?_) al3 (hL3 0 _ rfl) ?_
      · by_cases hq2 : q < r
        · exact hl q hq2
        · have e : q = r := by omega
          subst e
          omega
      · rw [← gm_step]
        exact hL3 1 _ rfl
theorem isq_to (d : Nat) {n : Int32} (hn : n.toInt ≤ 100000) (H : mjH) : fTo (fun m f => mj_run mj_P m (d + 1) 168 f) (0, lv_args 0 [.int n], [], H, 0, 0) (.inl (some (.int (if fsq n.toInt = true then Int32.ofInt 1 else Int32.ofInt 0))), H, 0, 0) := by
  have hX := fRun_meth (fun _ => 0) 0 168 d (by decide)
  refine fTo_mv hX (C := mcX7_isSquareNumber) rfl 2 (pc := 0) (L := [(0, .int n)]) (st := []) (al := [(0, .int n)]) (pc' := 2) (L' := [(1, .int (Int32.ofInt 0)), (0, .int n)]) (st' := []) rfl (fun i v h => h) fun al1 hL1 => ?_
  exact isq_loop d hn H 400 0 (by omega) (fun q hq => absurd hq (Nat.not_lt_zero q)) al1 (hL1 0 _ rfl) (hL1 1 _ rfl)
