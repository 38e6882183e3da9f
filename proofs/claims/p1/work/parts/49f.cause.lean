/-! cause: behind the ranges -/
theorem gm_sub32 {x y : Int32} {a b : Int} (hx : x.toInt = a) (hy : y.toInt = b) (h1 : -2147483648 ≤ a - b) (h2 : a - b < 2147483648) : (x - y).toInt = a - b := by
  rw [Int32.toInt_sub, hx, hy]
  exact gm_bm32 h1 h2
/-- the three ints are in range -/
def fcR (P S O : Int) : Prop := 2 ≤ P ∧ P ≤ 100000 ∧ 2 ≤ S ∧ S < P ∧ 1 ≤ O ∧ O ≤ 100000
theorem fcR_X {P S O : Int} (h : fcR P S O) : 0 ≤ O * (P - 1) ∧ O * (P - 1) ≤ 10000000000 := by
  obtain ⟨h1, h2, h3, h4, h5, h6⟩ := h
  have e : O * (P - 1) ≤ 100000 * 100000 := Int.mul_le_mul h6 (by omega) (by omega) (by omega)
  exact ⟨Int.mul_nonneg (by omega) (by omega), by omega⟩
theorem fcR_Q {P S O : Int} (h : fcR P S O) : 0 ≤ O * (P - 1) / (S - 1) ∧ O * (P - 1) / (S - 1) ≤ 10000000000 := by
  have hX := fcR_X h
  obtain ⟨h1, h2, h3, h4, h5, h6⟩ := h
  have e := Int.ediv_le_self (a := O * (P - 1)) (S - 1) hX.1
  exact ⟨Int.ediv_nonneg hX.1 (by omega), by omega⟩
theorem fcR_Y {P S O : Int} (h : fcR P S O) : 0 ≤ O * (P - 1) / (S - 1) * P ∧ O * (P - 1) / (S - 1) * P ≤ 1000000000000000 := by
  have hQ := fcR_Q h
  obtain ⟨h1, h2, h3, h4, h5, h6⟩ := h
  have e : O * (P - 1) / (S - 1) * P ≤ 10000000000 * 100000 := Int.mul_le_mul hQ.2 h2 (by omega) (by omega)
  exact ⟨Int.mul_nonneg hQ.1 (by omega), by omega⟩
theorem fcause0_r {P S O : Int} (h : ¬ O * (P - 1) % (S - 1) = 0) : fcause0 P S O = 114 := by
  unfold fcause0
  rw [if_pos h]
theorem fcause0_b {P S O : Int} (h : O * (P - 1) % (S - 1) = 0) (h2 : ¬ O * (P - 1) / (S - 1) * P % S = 0) : fcause0 P S O = 98 := by
  unfold fcause0
  rw [if_neg (fun q => q h), if_pos h2]
theorem fcause0_f {P S O : Int} (h : O * (P - 1) % (S - 1) = 0) (h2 : O * (P - 1) / (S - 1) * P % S = 0) (h3 : O * (P - 1) / (S - 1) * P / S < P) : fcause0 P S O = 102 := by
  unfold fcause0
  rw [if_neg (fun q => q h), if_neg (fun q => q h2), if_pos h3]
theorem fcause0_s {P S O : Int} (h : O * (P - 1) % (S - 1) = 0) (h2 : O * (P - 1) / (S - 1) * P % S = 0) (h3 : ¬ O * (P - 1) / (S - 1) * P / S < P) (h4 : O * (P - 1) / (S - 1) * P / S = P ∧ P % 2 = 0 ∧ fsq (S - O) = false) : fcause0 P S O = 115 := by
  unfold fcause0
  rw [if_neg (fun q => q h), if_neg (fun q => q h2), if_neg h3, if_pos h4]
theorem fcause0_n {P S O : Int} (h : O * (P - 1) % (S - 1) = 0) (h2 : O * (P - 1) / (S - 1) * P % S = 0) (h3 : ¬ O * (P - 1) / (S - 1) * P / S < P) (h4 : ¬ (O * (P - 1) / (S - 1) * P / S = P ∧ P % 2 = 0 ∧ fsq (S - O) = false)) : fcause0 P S O = 45 := by
  unfold fcause0
  rw [if_neg (fun q => q h), if_neg (fun q => q h2), if_neg h3, if_neg h4]
section FCS
variable {X : Nat → mjF → Option mjR} {ρ : Nat → Int32} {b d μ : Nat}
theorem cs_iret (hX : fRun ρ b μ d X) {pc a bb n : Nat} {al : List (Nat × Value)} {r : mjH × Nat × Nat} {v : Int32} {z : Int} {m : Nat} (he : fAt μ pc (.ireturn, a, bb, n)) (hr : (mj_P μ).2.2.1 = some .char) (hv : v = Int32.ofNat m) (hm : m < 65536) (hz : Int32.ofInt z = Int32.ofNat m) : fTo X (pc, al, [.int v], r) (.inl (some (.int (Int32.ofInt z))), r) := by
  rw [hz, hv]
  exact fTo_iret hX he hr ((fn_char m).trans (congrArg (fun q => Value.int (Int32.ofNat q)) (Nat.mod_eq_of_lt hm)))
theorem cs_ret (hX : fRun ρ b μ d X) {pc : Nat} {al : List (Nat × Value)} {r : mjH × Nat × Nat} {k z : Int} {m : Nat} (he : fAt μ pc (.bipush k, 0, 0, 0)) (he2 : fAt μ (pc + 2) (.ireturn, 0, 0, 0)) (hr : (mj_P μ).2.2.1 = some .char) (hv : (Int8.ofInt k).toInt32 = Int32.ofNat m) (hm : m < 65536) (hz : Int32.ofInt z = Int32.ofNat m) : fTo X (pc, al, [], r) (.inl (some (.int (Int32.ofInt z))), r) :=
  fTo_op hX (f' := (pc + 2, al, [.int (Int8.ofInt k).toInt32], r)) he rfl (cs_iret hX he2 hr hv hm hz)
end FCS
theorem fA_97 {pc : Nat} {e : mjE} (h : mj_at mcX7_cause pc = some e) : fAt 97 pc e := h
theorem fR_97 : (mj_P 97).2.2.1 = some .char := rfl
set_option maxHeartbeats 4000000 in
theorem cause_c {X : Nat → mjF → Option mjR} {ρ : Nat → Int32} {b d : Nat} (hX : fRun ρ b 97 (d + 1) X) {p s o : Int32} {P S O : Int} (hp : p.toInt = P) (hs : s.toInt = S) (ho : o.toInt = O) (hR : fcR P S O) {al : List (Nat × Value)} (hL : mvL [(1, .int p), (2, .int s), (3, .int o)] al) {H : mjH} {c c' : Nat} : fTo X (40, al, [], H, c, c') (.inl (some (.int (Int32.ofInt (fcause0 P S O)))), H, c, c') := by
  obtain ⟨r1, r2, r3, r4, r5, r6⟩ := id hR
  have bX := fcR_X hR
  have bQ := fcR_Q hR
  have bY := fcR_Y hR
  obtain ⟨p1, ep1, tp1⟩ : ∃ y : Int64, (p - Int32.ofInt 1).toInt64 = y ∧ y.toInt = P - 1 := ⟨_, rfl, gm_pred hp (by omega)⟩
  obtain ⟨s1, es1, ts1⟩ : ∃ y : Int64, (s - Int32.ofInt 1).toInt64 = y ∧ y.toInt = S - 1 := ⟨_, rfl, gm_pred hs (by omega)⟩
  obtain ⟨pl, epl, tpl⟩ : ∃ y : Int64, p.toInt64 = y ∧ y.toInt = P := ⟨_, rfl, (gm_i2l p).trans hp⟩
  obtain ⟨sl, esl, tsl⟩ : ∃ y : Int64, s.toInt64 = y ∧ y.toInt = S := ⟨_, rfl, (gm_i2l s).trans hs⟩
  obtain ⟨ol, eol, tol⟩ : ∃ y : Int64, o.toInt64 = y ∧ y.toInt = O := ⟨_, rfl, (gm_i2l o).trans ho⟩
  obtain ⟨x, ex, tx⟩ : ∃ y : Int64, ol * p1 = y ∧ y.toInt = O * (P - 1) := ⟨_, rfl, gm_mul tol tp1 bX.1 (by omega)⟩
  have n1 : ¬ s1 = 0 := gm_nz ts1 (by omega)
  have n2 : ¬ sl = 0 := gm_nz tsl (by omega)
  refine fTo_mv hX (C := mcX7_cause) rfl 8 (L := [(1, .int p), (2, .int s), (3, .int o)]) (pc' := 49) (L' := [(4, .long (o.toInt64 * (p - Int32.ofInt 1).toInt64)), (1, .int p), (2, .int s), (3, .int o)]) (st' := []) rfl hL fun al1 hL1 => ?_
  rw [ep1, eol, ex] at hL1
  clear hL
  refine fTo_mv hX (C := mcX7_cause) rfl 5 (L := [(4, .long x), (1, .int p), (2, .int s), (3, .int o)]) (pc' := 55) (L' := [(4, .long x), (1, .int p), (2, .int s), (3, .int o)]) (st' := [.long (s - Int32.ofInt 1).toInt64, .long x]) rfl hL1 fun al2 hL2 => ?_
  rw [es1]
  refine fTo_op hX (e := (.lrem, 0, 0, 0)) (fA_97 (pc := 55) rfl) (mq_lrem n1 _ _) ?_
  have t1 := gm_rem tx ts1 bX.1 (by omega) (by omega)
  generalize x - x / s1 * s1 = w1 at t1
  refine fTo_mv hX (C := mcX7_cause) rfl 2 (L := [(4, .long x), (1, .int p), (2, .int s), (3, .int o)]) (pc' := 58) (L' := [(4, .long x), (1, .int p), (2, .int s), (3, .int o)]) (st' := [.int (lg_cmp w1 (Int64.ofNat ((0 : Fin 2) : Nat)))]) rfl hL2 fun al3 hL3 => ?_
  have k1 := gm_cmp0 t1 gm_z
  by_cases b1 : O * (P - 1) % (S - 1) = 0
  rotate_left
  · refine fTo_op hX (f' := (61, al3, [], H, c, c')) (e := (.ifCond .eq 6, 0, 0, 0)) (fA_97 (pc := 58) rfl) (mq_ifn (fun q => b1 (k1.mp q))) ?_
    exact cs_ret hX (fA_97 (pc := 61) rfl) (fA_97 (pc := 63) rfl) fR_97 (m := 114) (by decide +kernel) (by decide) (by rw [fcause0_r b1]; decide +kernel)
  refine fTo_op hX (f' := (64, al3, [], H, c, c')) (e := (.ifCond .eq 6, 0, 0, 0)) (fA_97 (pc := 58) rfl) (mq_ify (k1.mpr b1)) ?_
  clear hL1 hL2 k1 t1
  refine fTo_mv hX (C := mcX7_cause) rfl 5 (L := [(4, .long x), (1, .int p), (2, .int s), (3, .int o)]) (pc' := 70) (L' := [(4, .long x), (1, .int p), (2, .int s), (3, .int o)]) (st' := [.long (s - Int32.ofInt 1).toInt64, .long x]) rfl hL3 fun al4 hL4 => ?_
  rw [es1]
  refine fTo_op hX (e := (.ldiv, 0, 0, 0)) (fA_97 (pc := 70) rfl) (mq_ldiv n1 _ _) ?_
  have tq := gm_div tx ts1 bX.1 (by omega)
  generalize x / s1 = q1 at tq
  obtain ⟨y, ey, ty⟩ : ∃ y : Int64, q1 * pl = y ∧ y.toInt = O * (P - 1) / (S - 1) * P := ⟨_, rfl, gm_mul tq tpl bY.1 (by omega)⟩
  refine fTo_mv hX (C := mcX7_cause) rfl 4 (L := [(4, .long x), (1, .int p), (2, .int s), (3, .int o)]) (pc' := 76) (L' := [(6, .long (q1 * p.toInt64)), (4, .long x), (1, .int p), (2, .int s), (3, .int o)]) (st' := []) rfl hL4 fun al5 hL5 => ?_
  rw [epl, ey] at hL5
  clear hL3 hL4
  refine fTo_mv hX (C := mcX7_cause) rfl 3 (L := [(6, .long y), (4, .long x), (1, .int p), (2, .int s), (3, .int o)]) (pc' := 80) (L' := [(6, .long y), (4, .long x), (1, .int p), (2, .int s), (3, .int o)]) (st' := [.long s.toInt64, .long y]) rfl hL5 fun al6 hL6 => ?_
  rw [esl]
  refine fTo_op hX (e := (.lrem, 0, 0, 0)) (fA_97 (pc := 80) rfl) (mq_lrem n2 _ _) ?_
  have t2 := gm_rem ty tsl bY.1 (by omega) (by omega)
  generalize y - y / sl * sl = w2 at t2
  refine fTo_mv hX (C := mcX7_cause) rfl 2 (L := [(6, .long y), (4, .long x), (1, .int p), (2, .int s), (3, .int o)]) (pc' := 83) (L' := [(6, .long y), (4, .long x), (1, .int p), (2, .int s), (3, .int o)]) (st' := [.int (lg_cmp w2 (Int64.ofNat ((0 : Fin 2) : Nat)))]) rfl hL6 fun al7 hL7 => ?_
  have k2 := gm_cmp0 t2 gm_z
  by_cases b2 : O * (P - 1) / (S - 1) * P % S = 0
  rotate_left
  · refine fTo_op hX (f' := (86, al7, [], H, c, c')) (e := (.ifCond .eq 6, 0, 0, 0)) (fA_97 (pc := 83) rfl) (mq_ifn (fun q => b2 (k2.mp q))) ?_
    exact cs_ret hX (fA_97 (pc := 86) rfl) (fA_97 (pc := 88) rfl) fR_97 (m := 98) (by decide +kernel) (by decide) (by rw [fcause0_b b1 b2]; decide +kernel)
  refine fTo_op hX (f' := (89, al7, [], H, c, c')) (e := (.ifCond .eq 6, 0, 0, 0)) (fA_97 (pc := 83) rfl) (mq_ify (k2.mpr b2)) ?_
  clear hL5 hL6 k2 t2
  refine fTo_mv hX (C := mcX7_cause) rfl 3 (L := [(6, .long y), (4, .long x), (1, .int p), (2, .int s), (3, .int o)]) (pc' := 93) (L' := [(6, .long y), (4, .long x), (1, .int p), (2, .int s), (3, .int o)]) (st' := [.long s.toInt64, .long y]) rfl hL7 fun al8 hL8 => ?_
  rw [esl]
  refine fTo_op hX (e := (.ldiv, 0, 0, 0)) (fA_97 (pc := 93) rfl) (mq_ldiv n2 _ _) ?_
  have tz := gm_div ty tsl bY.1 (by omega)
  generalize y / sl = z at tz
  refine fTo_mv hX (C := mcX7_cause) rfl 5 (L := [(6, .long y), (4, .long x), (1, .int p), (2, .int s), (3, .int o)]) (pc' := 101) (L' := [(8, .long z), (6, .long y), (4, .long x), (1, .int p), (2, .int s), (3, .int o)]) (st' := [.int (lg_cmp z p.toInt64)]) rfl hL8 fun al9 hL9 => ?_
  rw [epl]
  have k3 := gm_cmpge tz tpl
  by_cases b3 : O * (P - 1) / (S - 1) * P / S < P
  · refine fTo_op hX (f' := (104, al9, [], H, c, c')) (e := (.ifCond .ge 6, 0, 0, 0)) (fA_97 (pc := 101) rfl) (mq_ifn (fun q => by have := k3.mp q; omega)) ?_
    exact cs_ret hX (fA_97 (pc := 104) rfl) (fA_97 (pc := 106) rfl) fR_97 (m := 102) (by decide +kernel) (by decide) (by rw [fcause0_f b1 b2 b3]; decide +kernel)
  refine fTo_op hX (f' := (107, al9, [], H, c, c')) (e := (.ifCond .ge 6, 0, 0, 0)) (fA_97 (pc := 101) rfl) (mq_ify (k3.mpr (by omega))) ?_
  clear hL7 hL8 k3
  have hfin : (¬ (O * (P - 1) / (S - 1) * P / S = P ∧ P % 2 = 0 ∧ fsq (S - O) = false)) → ∀ al, fTo X (133, al, [], H, c, c') (.inl (some (.int (Int32.ofInt (fcause0 P S O)))), H, c, c') := fun h4 al =>
    cs_ret hX (fA_97 (pc := 133) rfl) (fA_97 (pc := 135) rfl) fR_97 (m := 45) (by decide +kernel) (by decide) (by rw [fcause0_n b1 b2 b3 h4]; decide +kernel)
  refine fTo_mv hX (C := mcX7_cause) rfl 4 (L := [(8, .long z), (6, .long y), (4, .long x), (1, .int p), (2, .int s), (3, .int o)]) (pc' := 112) (L' := [(8, .long z), (6, .long y), (4, .long x), (1, .int p), (2, .int s), (3, .int o)]) (st' := [.int (lg_cmp z p.toInt64)]) rfl hL9 fun al10 hL10 => ?_
  rw [epl]
  have k4 := gm_cmp0 tz tpl
  by_cases b4 : O * (P - 1) / (S - 1) * P / S = P
  rotate_left
  · refine fTo_op hX (f' := (133, al10, [], H, c, c')) (e := (.ifCond .ne 21, 0, 0, 0)) (fA_97 (pc := 112) rfl) (mq_ify (fun q => b4 (k4.mp q))) ?_
    exact hfin (fun q => b4 q.1) _
  refine fTo_op hX (f' := (115, al10, [], H, c, c')) (e := (.ifCond .ne 21, 0, 0, 0)) (fA_97 (pc := 112) rfl) (mq_ifn (fun q => q (k4.mpr b4))) ?_
  clear hL9 k4
  refine fTo_mv hX (C := mcX7_cause) rfl 2 (L := [(8, .long z), (6, .long y), (4, .long x), (1, .int p), (2, .int s), (3, .int o)]) (pc' := 117) (L' := [(8, .long z), (6, .long y), (4, .long x), (1, .int p), (2, .int s), (3, .int o)]) (st' := [.int (Int32.ofInt 2), .int p]) rfl hL10 fun al11 hL11 => ?_
  refine fTo_op hX (e := (.irem, 0, 0, 0)) (fA_97 (pc := 117) rfl) (mq_irem (by decide) _ _) ?_
  have k5 := gm_even hp (by omega)
  generalize p - p / Int32.ofInt 2 * Int32.ofInt 2 = w3 at k5
  by_cases b5 : P % 2 = 0
  rotate_left
  · refine fTo_op hX (f' := (133, al11, [], H, c, c')) (e := (.ifCond .ne 15, 0, 0, 0)) (fA_97 (pc := 118) rfl) (mq_ify (fun q => b5 (k5.mp q))) ?_
    exact hfin (fun q => b5 q.2.1) _
  refine fTo_op hX (f' := (121, al11, [], H, c, c')) (e := (.ifCond .ne 15, 0, 0, 0)) (fA_97 (pc := 118) rfl) (mq_ifn (fun q => q (k5.mpr b5))) ?_
  refine fTo_mv hX (C := mcX7_cause) rfl 3 (L := [(8, .long z), (6, .long y), (4, .long x), (1, .int p), (2, .int s), (3, .int o)]) (pc' := 124) (L' := [(8, .long z), (6, .long y), (4, .long x), (1, .int p), (2, .int s), (3, .int o)]) (st' := [.int (s - o)]) rfl hL11 fun al12 hL12 => ?_
  have tso := gm_sub32 hs ho (by omega) (by omega)
  generalize s - o = u at tso
  have hq := isq_to d (n := u) (by omega) H
  rw [tso] at hq
  refine fSt_call hX (pc := 124) (al := al12) (vs := [.int u]) (t := []) (fA_97 (pc := 124) rfl) (by decide) (show (mj_P 168).2.1 = 1 from rfl) (by decide) (show (1 : Nat) ≤ mj_mx.getD 168 0 by decide) hq _ ?_
  cases hsq : fsq (S - O) with
  | true =>
    rw [if_pos rfl]
    refine fTo_op hX (f' := (133, al12, [], H, c + 0, c' + 0)) (e := (.ifCond .ne 6, 0, 0, 0)) (fA_97 (pc := 127) rfl) (mq_ify (by decide)) ?_
    exact hfin (fun q => by rw [hsq] at q; cases q.2.2) _
  | false =>
    rw [if_neg (by decide)]
    refine fTo_op hX (f' := (130, al12, [], H, c + 0, c' + 0)) (e := (.ifCond .ne 6, 0, 0, 0)) (fA_97 (pc := 127) rfl) (mq_ifn (by decide)) ?_
    exact cs_ret hX (fA_97 (pc := 130) rfl) (fA_97 (pc := 132) rfl) fR_97 (m := 115) (by decide +kernel) (by decide) (by rw [fcause0_s b1 b2 b3 ⟨b4, b5, hsq⟩]; decide +kernel)
