/-! cause: the reference's method behind its ranges -/
set_option maxHeartbeats 4000000 in
theorem cause_m {X : Nat → mjF → Option mjR} {ρ : Nat → Int32} {b d : Nat} (hX : fRun ρ b 212 (d + 1) X) {p s o : Int32} {P S O : Int} (hp : p.toInt = P) (hs : s.toInt = S) (ho : o.toInt = O) (hR : fcR P S O) {al : List (Nat × Value)} (hL : mvL [(1, .int p), (2, .int s), (3, .int o)] al) (rr : mjH × Nat × Nat) : fTo X (59, al, [], rr) (.inl (some (.int (Int32.ofInt (fcause0 P S O)))), rr) := by
  obtain ⟨r1, r2, r3, r4, r5, r6⟩ := id hR
  have bX := fcR_X hR
  have bQ := fcR_Q hR
  have bY := fcR_Y hR
  obtain ⟨p1, ep1, tp1⟩ : ∃ y : Int64, (p - Int32.ofInt 1).toInt64 = y ∧ y.toInt = P - 1 := ⟨_, rfl, gm_pred hp (by omega)⟩
  obtain ⟨s1, es1, ts1⟩ : ∃ y : Int64, (s - Int32.ofInt 1).toInt64 = y ∧ y.toInt = S - 1 := ⟨_, rfl, gm_pred hs (by omega)⟩
  obtain ⟨pl, epl, tpl⟩ : ∃ y : Int64, p.toInt64 = y ∧ y.toInt = P := ⟨_, rfl, (gm_i2l p).trans hp⟩
  obtain ⟨sl, esl, tsl⟩ : ∃ y : Int64, s.toInt64 = y ∧ y.toInt = S := ⟨_, rfl, (gm_i2l s).trans hs⟩
  obtain ⟨ol, eol, tol⟩ : ∃ y : Int64, o.toInt64 = y ∧ y.toInt = O := ⟨_, rfl, (gm_i2l o).trans ho⟩
  obtain ⟨x, ex, tx⟩ : ∃ y : Int64, ol * p1 = y ∧ y.toInt = O * (P - 1) := ⟨_, rfl, gm_mul tol tp1 bX.1 (by omega)⟩
  have n1 : ¬ s1 = 0 := gm_nz ts1 (by omega)
  have n2 : ¬ sl = 0 := gm_nz tsl (by omega)
  refine fTo_mv hX (C := mcX8_cause) rfl 8 (L := [(1, .int p), (2, .int s), (3, .int o)]) (pc' := 68) (L' := [(4, .long (o.toInt64 * (p - Int32.ofInt 1).toInt64)), (1, .int p), (2, .int s), (3, .int o)]) (st' := []) rfl hL fun al1 hL1 => ?_
  rw [ep1, eol, ex] at hL1
  clear hL
  refine fTo_mv hX (C := mcX8_cause) rfl 5 (L := [(4, .long x), (1, .int p), (2, .int s), (3, .int o)]) (pc' := 74) (L' := [(4, .long x), (1, .int p), (2, .int s), (3, .int o)]) (st' := [.long (s - Int32.ofInt 1).toInt64, .long x]) rfl hL1 fun al2 hL2 => ?_
  rw [es1]
  refine fTo_op hX (e := (.lrem, 0, 0, 0)) (fA_212 (pc := 74) rfl) (mq_lrem n1 _ _) ?_
  have t1 := gm_rem tx ts1 bX.1 (by omega) (by omega)
  generalize x - x / s1 * s1 = w1 at t1
  refine fTo_mv hX (C := mcX8_cause) rfl 2 (L := [(4, .long x), (1, .int p), (2, .int s), (3, .int o)]) (pc' := 77) (L' := [(4, .long x), (1, .int p), (2, .int s), (3, .int o)]) (st' := [.int (lg_cmp w1 (Int64.ofNat ((0 : Fin 2) : Nat)))]) rfl hL2 fun al3 hL3 => ?_
  have k1 := gm_cmp0 t1 gm_z
  by_cases b1 : O * (P - 1) % (S - 1) = 0
  rotate_left
  · refine fTo_op hX (f' := (80, al3, [], rr)) (e := (.ifCond .eq 6, 0, 0, 0)) (fA_212 (pc := 77) rfl) (mq_ifn (fun q => b1 (k1.mp q))) ?_
    exact cs_ret hX (fA_212 (pc := 80) rfl) (fA_212 (pc := 82) rfl) fR_212 (m := 114) (by decide +kernel) (by decide) (by rw [fcause0_r b1]; decide +kernel)
  refine fTo_op hX (f' := (83, al3, [], rr)) (e := (.ifCond .eq 6, 0, 0, 0)) (fA_212 (pc := 77) rfl) (mq_ify (k1.mpr b1)) ?_
  clear hL1 hL2 k1 t1
  refine fTo_mv hX (C := mcX8_cause) rfl 7 (L := [(4, .long x), (1, .int p), (2, .int s), (3, .int o)]) (pc' := 91) (L' := [(4, .long x), (1, .int p), (2, .int s), (3, .int o)]) (st' := [.long (s - Int32.ofInt 1).toInt64, .long x, .long p.toInt64]) rfl hL3 fun al4 hL4 => ?_
  rw [es1, epl]
  refine fTo_op hX (e := (.ldiv, 0, 0, 0)) (fA_212 (pc := 91) rfl) (mq_ldiv n1 _ _) ?_
  have tq := gm_div tx ts1 bX.1 (by omega)
  generalize x / s1 = q1 at tq
  obtain ⟨y, ey, ty⟩ : ∃ y : Int64, pl * q1 = y ∧ y.toInt = O * (P - 1) / (S - 1) * P := ⟨_, rfl, by
    have h := gm_mul tpl tq (by rw [Int.mul_comm]; exact bY.1) (by rw [Int.mul_comm]; omega)
    rw [Int.mul_comm] at h
    exact h⟩
  refine fTo_mv hX (C := mcX8_cause) rfl 2 (L := [(4, .long x), (1, .int p), (2, .int s), (3, .int o)]) (pc' := 95) (L' := [(6, .long (pl * q1)), (4, .long x), (1, .int p), (2, .int s), (3, .int o)]) (st' := []) rfl hL4 fun al5 hL5 => ?_
  rw [ey] at hL5
  clear hL3 hL4
  refine fTo_mv hX (C := mcX8_cause) rfl 3 (L := [(6, .long y), (4, .long x), (1, .int p), (2, .int s), (3, .int o)]) (pc' := 99) (L' := [(6, .long y), (4, .long x), (1, .int p), (2, .int s), (3, .int o)]) (st' := [.long s.toInt64, .long y]) rfl hL5 fun al6 hL6 => ?_
  rw [esl]
  refine fTo_op hX (e := (.lrem, 0, 0, 0)) (fA_212 (pc := 99) rfl) (mq_lrem n2 _ _) ?_
  have t2 := gm_rem ty tsl bY.1 (by omega) (by omega)
  generalize y - y / sl * sl = w2 at t2
  refine fTo_mv hX (C := mcX8_cause) rfl 2 (L := [(6, .long y), (4, .long x), (1, .int p), (2, .int s), (3, .int o)]) (pc' := 102) (L' := [(6, .long y), (4, .long x), (1, .int p), (2, .int s), (3, .int o)]) (st' := [.int (lg_cmp w2 (Int64.ofNat ((0 : Fin 2) : Nat)))]) rfl hL6 fun al7 hL7 => ?_
  have k2 := gm_cmp0 t2 gm_z
  by_cases b2 : O * (P - 1) / (S - 1) * P % S = 0
  rotate_left
  · refine fTo_op hX (f' := (105, al7, [], rr)) (e := (.ifCond .eq 6, 0, 0, 0)) (fA_212 (pc := 102) rfl) (mq_ifn (fun q => b2 (k2.mp q))) ?_
    exact cs_ret hX (fA_212 (pc := 105) rfl) (fA_212 (pc := 107) rfl) fR_212 (m := 98) (by decide +kernel) (by decide) (by rw [fcause0_b b1 b2]; decide +kernel)
  refine fTo_op hX (f' := (108, al7, [], rr)) (e := (.ifCond .eq 6, 0, 0, 0)) (fA_212 (pc := 102) rfl) (mq_ify (k2.mpr b2)) ?_
  clear hL5 hL6 k2 t2
  have tz := gm_div ty tsl bY.1 (by omega)
  refine fTo_mv hX (C := mcX8_cause) rfl 3 (L := [(6, .long y), (4, .long x), (1, .int p), (2, .int s), (3, .int o)]) (pc' := 112) (L' := [(6, .long y), (4, .long x), (1, .int p), (2, .int s), (3, .int o)]) (st' := [.long s.toInt64, .long y]) rfl hL7 fun al8 hL8 => ?_
  rw [esl]
  refine fTo_op hX (e := (.ldiv, 0, 0, 0)) (fA_212 (pc := 112) rfl) (mq_ldiv n2 _ _) ?_
  refine fTo_mv hX (C := mcX8_cause) rfl 3 (L := [(6, .long y), (4, .long x), (1, .int p), (2, .int s), (3, .int o)]) (pc' := 116) (L' := [(6, .long y), (4, .long x), (1, .int p), (2, .int s), (3, .int o)]) (st' := [.int (lg_cmp (y / sl) p.toInt64)]) rfl hL8 fun al9 hL9 => ?_
  rw [epl]
  have k3 := gm_cmpge tz tpl
  by_cases b3 : O * (P - 1) / (S - 1) * P / S < P
  · refine fTo_op hX (f' := (119, al9, [], rr)) (e := (.ifCond .ge 6, 0, 0, 0)) (fA_212 (pc := 116) rfl) (mq_ifn (fun q => by have := k3.mp q; omega)) ?_
    exact cs_ret hX (fA_212 (pc := 119) rfl) (fA_212 (pc := 121) rfl) fR_212 (m := 102) (by decide +kernel) (by decide) (by rw [fcause0_f b1 b2 b3]; decide +kernel)
  refine fTo_op hX (f' := (122, al9, [], rr)) (e := (.ifCond .ge 6, 0, 0, 0)) (fA_212 (pc := 116) rfl) (mq_ify (k3.mpr (by omega))) ?_
  clear hL7 hL8 k3
  obtain ⟨lf, elf, tlf⟩ : ∃ y : Int64, (s - o).toInt64 = y ∧ y.toInt = S - O := ⟨_, rfl, (gm_i2l _).trans (gm_sub32 hs ho (by omega) (by omega))⟩
  refine fTo_mv hX (C := mcX8_cause) rfl 7 (L := [(6, .long y), (4, .long x), (1, .int p), (2, .int s), (3, .int o)]) (pc' := 131) (L' := [(10, .long (Int64.ofNat ((0 : Fin 2) : Nat))), (8, .long (s - o).toInt64), (6, .long y), (4, .long x), (1, .int p), (2, .int s), (3, .int o)]) (st' := []) rfl hL9 fun al10 hL10 => ?_
  rw [elf] at hL10
  have hLr : mvL [(10, .long (Int64.ofNat 0)), (8, .long lf), (6, .long y), (1, .int p), (2, .int s), (3, .int o)] al10 := mvL_cons (hL10 10 _ rfl) (mvL_cons (hL10 8 _ rfl) (mvL_cons (hL10 6 _ rfl) (mvL_cons (hL10 1 _ rfl) (mvL_cons (hL10 2 _ rfl) (mvL_cons (hL10 3 _ rfl) mvL_nil)))))
  obtain ⟨r, al11, q1', q2', q3', hL11, hst⟩ := root_loop hX tlf (by omega) rr 400 0 (by omega) (fun q hq => absurd hq (Nat.not_lt_zero q)) al10 hLr
  refine hst _ ?_
  clear hL9 hL10 hLr hst
  have hfin : (¬ (O * (P - 1) / (S - 1) * P / S = P ∧ P % 2 = 0 ∧ fsq (S - O) = false)) → ∀ al, fTo X (184, al, [], rr) (.inl (some (.int (Int32.ofInt (fcause0 P S O)))), rr) := fun h4 al =>
    cs_ret hX (fA_212 (pc := 184) rfl) (fA_212 (pc := 186) rfl) fR_212 (m := 45) (by decide +kernel) (by decide) (by rw [fcause0_n b1 b2 b3 h4]; decide +kernel)
  refine fTo_mv hX (C := mcX8_cause) rfl 3 (L := [(10, .long (Int64.ofNat r)), (8, .long lf), (6, .long y), (1, .int p), (2, .int s), (3, .int o)]) (pc' := 155) (L' := [(10, .long (Int64.ofNat r)), (8, .long lf), (6, .long y), (1, .int p), (2, .int s), (3, .int o)]) (st' := [.long s.toInt64, .long y]) rfl hL11 fun al12 hL12 => ?_
  rw [esl]
  refine fTo_op hX (e := (.ldiv, 0, 0, 0)) (fA_212 (pc := 155) rfl) (mq_ldiv n2 _ _) ?_
  refine fTo_mv hX (C := mcX8_cause) rfl 3 (L := [(10, .long (Int64.ofNat r)), (8, .long lf), (6, .long y), (1, .int p), (2, .int s), (3, .int o)]) (pc' := 159) (L' := [(10, .long (Int64.ofNat r)), (8, .long lf), (6, .long y), (1, .int p), (2, .int s), (3, .int o)]) (st' := [.int (lg_cmp (y / sl) p.toInt64)]) rfl hL12 fun al13 hL13 => ?_
  rw [epl]
  have k4 := gm_cmp0 tz tpl
  by_cases b4 : O * (P - 1) / (S - 1) * P / S = P
  rotate_left
  · refine fTo_op hX (f' := (184, al13, [], rr)) (e := (.ifCond .ne 25, 0, 0, 0)) (fA_212 (pc := 159) rfl) (mq_ify (fun q => b4 (k4.mp q))) ?_
    exact hfin (fun q => b4 q.1) _
  refine fTo_op hX (f' := (162, al13, [], rr)) (e := (.ifCond .ne 25, 0, 0, 0)) (fA_212 (pc := 159) rfl) (mq_ifn (fun q => q (k4.mpr b4))) ?_
  clear hL11 hL12 k4
  refine fTo_mv hX (C := mcX8_cause) rfl 2 (L := [(10, .long (Int64.ofNat r)), (8, .long lf), (6, .long y), (1, .int p), (2, .int s), (3, .int o)]) (pc' := 164) (L' := [(10, .long (Int64.ofNat r)), (8, .long lf), (6, .long y), (1, .int p), (2, .int s), (3, .int o)]) (st' := [.int (Int32.ofInt 2), .int p]) rfl hL13 fun al14 hL14 => ?_
  refine fTo_op hX (e := (.irem, 0, 0, 0)) (fA_212 (pc := 164) rfl) (mq_irem (by decide) _ _) ?_
  have k5 := gm_even hp (by omega)
  generalize p - p / Int32.ofInt 2 * Int32.ofInt 2 = w3 at k5
  by_cases b5 : P % 2 = 0
  rotate_left
  · refine fTo_op hX (f' := (184, al14, [], rr)) (e := (.ifCond .ne 19, 0, 0, 0)) (fA_212 (pc := 165) rfl) (mq_ify (fun q => b5 (k5.mp q))) ?_
    exact hfin (fun q => b5 q.2.1) _
  refine fTo_op hX (f' := (168, al14, [], rr)) (e := (.ifCond .ne 19, 0, 0, 0)) (fA_212 (pc := 165) rfl) (mq_ifn (fun q => q (k5.mpr b5))) ?_
  refine fTo_mv hX (C := mcX8_cause) rfl 5 (L := [(10, .long (Int64.ofNat r)), (8, .long lf), (6, .long y), (1, .int p), (2, .int s), (3, .int o)]) (pc' := 176) (L' := [(10, .long (Int64.ofNat r)), (8, .long lf), (6, .long y), (1, .int p), (2, .int s), (3, .int o)]) (st' := [.int (lg_cmp (Int64.ofNat r * Int64.ofNat r) lf)]) rfl hL14 fun al15 hL15 => ?_
  have hrn := gm_natL (r := r) (by omega)
  have hrs := gm_sq (r := r) (by omega)
  have k6 := gm_cmp0 (gm_mul hrn hrn hrs.1 (by omega)) tlf
  by_cases b6 : (r : Int) * r = S - O
  · refine fTo_op hX (f' := (184, al15, [], rr)) (e := (.ifCond .eq 8, 0, 0, 0)) (fA_212 (pc := 176) rfl) (mq_ify (k6.mpr b6)) ?_
    exact hfin (fun q => by rw [fsq_yes q1' b6] at q; cases q.2.2) _
  · refine fTo_op hX (f' := (179, al15, [], rr)) (e := (.ifCond .eq 8, 0, 0, 0)) (fA_212 (pc := 176) rfl) (mq_ifn (fun q => b6 (k6.mp q))) ?_
    have hq := fsq_no (k := S - O) (r := r) (by omega) q3'
    refine fTo_op hX (f' := (181, al15, [.int (Int8.ofInt 115).toInt32], rr)) (e := (.bipush 115, 0, 0, 0)) (fA_212 (pc := 179) rfl) rfl ?_
    refine fTo_op hX (f' := (186, al15, [.int (Int8.ofInt 115).toInt32], rr)) (e := (.goto 5, 0, 0, 0)) (fA_212 (pc := 181) rfl) rfl ?_
    exact cs_iret hX (fA_212 (pc := 186) rfl) fR_212 (m := 115) (by decide +kernel) (by decide) (by rw [fcause0_s b1 b2 b3 ⟨b4, b5, hq⟩]; decide +kernel)
noncomputable def fm_cs_m : fM := fun _ K iv lv g => fi_is 5 2147483665 iv (fwS 1 (fl_get 1 lv) (fwS 2 (fl_get 2 lv) (fwS 3 (fl_get 3 lv) (fwrv (fl_get 0 lv) (fun r1 => fwcr r1 g (fun r a n D => fB (Nat.beq a 7) (fcs_all iv (fun c iv => Nat.rec (motive := fun _ => Bool) (fset g r 7 n (fput D 9 1) (fun g => K iv (Sum.inl (some (Sum.inl 32))) g)) (fun _ _ => fset g r 7 n (fput D 9 0) (fun g => K iv (Sum.inl (some (Sum.inl c))) g)) c)) false))))))
theorem fsm_cs_m : fSM 212 1 fm_cs_m := by
  intro ρ b d hD n K iv lv g al H hiv hl hh h
  obtain ⟨d, rfl⟩ : ∃ q, d = q + 1 := ⟨d - 1, by omega⟩
  have hX := fRun_meth ρ b 212 (d + 1) (by decide)
  obtain ⟨h, h5⟩ := fi_is_1 (by decide) hiv h
  have h5 : ρ 5 = 17 := (fbi_inv h5).trans fb_17
  obtain ⟨e1, h⟩ := fwS_1 h
  obtain ⟨e2, h⟩ := fwS_1 h
  obtain ⟨e3, h⟩ := fwS_1 h
  obtain ⟨rr, e4, h7⟩ := fwrv_1 h
  obtain ⟨r, a, m, W, e5, hr, hc, h8⟩ := fwcr_1 h7
  clear h7
  subst e5
  obtain ⟨q, h⟩ := fB_1 h8
  have q := Nat.eq_of_beq_eq_true q
  subst q
  obtain ⟨p1, p2, p3⟩ := fHR_at hh hr hc (by decide)
  have hm : m = 14 := p3 (by decide)
  subst hm
  have l0 : mj_ld al 0 = some (.ref r) := fl_said hl e4 (fv_sr _) rfl
  have l1 : mj_ld al 1 = some (.int (ρ 1)) := fl_said hl e1 (fv_sk (by decide)) (fv_sym (by decide))
  have l2 : mj_ld al 2 = some (.int (ρ 2)) := fl_said hl e2 (fv_sk (by decide)) (fv_sym (by decide))
  have l3 : mj_ld al 3 = some (.int (ρ 3)) := fl_said hl e3 (fv_sk (by decide)) (fv_sym (by decide))
  have h6 : ρ 6 = fcause (ρ 1) (ρ 2) (ρ 3) := hiv.2.2.2 h5
  have hL : mvL [(0, .ref r), (1, .int (ρ 1)), (2, .int (ρ 2)), (3, .int (ρ 3))] al := mvL_cons l0 (mvL_cons l1 (mvL_cons l2 (mvL_cons l3 mvL_nil)))
  have hset : ∀ v : Nat, v < 4294967296 → (fdec 7 14 W).set 9 (.int (Int32.ofNat v)) = fdec 7 14 (fput W 9 v) := fun v hv =>
    fdec_set (fel_putI (by decide) (by decide) rfl hv) (fun i hi => fel_else (by decide) hv hi)
  have z0 : Int32.ofInt 0 = Int32.ofNat 0 := by decide +kernel
  have z1 : Int32.ofInt 1 = Int32.ofNat 1 := by decide +kernel
  rcases cause_m_rng hX hL p1 (fdec_len 7 14 W) (c := 0) (c' := 0) with ⟨hR, al', hL', hst⟩ | ⟨hR, al', hst⟩
  · obtain ⟨c, hcc, hcz⟩ := fcause0_v (ρ 1).toInt (ρ 2).toInt (ρ 3).toInt
    have hz : Int32.ofInt (fcause0 (ρ 1).toInt (ρ 2).toInt (ρ 3).toInt) = Int32.ofNat (c + 1) := by rw [hcz, Int32.ofInt_eq_ofNat]
    obtain ⟨iv', hiv', hk⟩ := fcs_all_1 hiv h hcc (h6.trans ((fcause_in hR).trans hz))
    obtain ⟨T, hk, t1, t2⟩ := fset_1 (show fset g r 7 14 (fput W 9 0) (fun g => K iv' (Sum.inl (some (Sum.inl (c + 1)))) g) = true from hk) (show r < 256 from Nat.lt_of_lt_of_le hr hh.2.1)
    have hL2 : mvL [(1, .int (ρ 1)), (2, .int (ρ 2)), (3, .int (ρ 3))] al' := mvL_cons (hL' 1 _ rfl) (mvL_cons (hL' 2 _ rfl) (mvL_cons (hL' 3 _ rfl) mvL_nil))
    have hto := hst _ (cause_m hX rfl rfl rfl hR hL2 _)
    rw [hz, z0, hset 0 (by decide)] at hto
    exact fGd_to (g' := (T, g.2)) hto hk hiv' rfl (fHR_set hh hr (fCR_mk p2 (by decide) p3) t1 t2) rfl rfl
  · obtain ⟨iv', hiv', hk⟩ := fcs_all_1 hiv h (c := 0) (by decide) (h6.trans (fcause_out hR))
    obtain ⟨T, hk, t1, t2⟩ := fset_1 (show fset g r 7 14 (fput W 9 1) (fun g => K iv' (Sum.inl (some (Sum.inl 32))) g) = true from hk) (show r < 256 from Nat.lt_of_lt_of_le hr hh.2.1)
    have e32 : (Int8.ofInt 32).toInt32 = Int32.ofNat 32 := by decide +kernel
    have hto : fTo (fun m f => mj_run mj_P m (d + 1 + 1) 212 f) (56, al', [], H.set r (7, (fdec 7 14 W).set 9 (.int (Int32.ofInt 1))), 0, 0) (.inl (some (.int (Int32.ofNat 32))), H.set r (7, (fdec 7 14 W).set 9 (.int (Int32.ofInt 1))), 0, 0) := by
      refine fTo_op hX (f' := (58, al', [.int (Int8.ofInt 32).toInt32], H.set r (7, (fdec 7 14 W).set 9 (.int (Int32.ofInt 1))), 0, 0)) (e := (.bipush 32, 0, 0, 0)) (fA_212 (pc := 56) rfl) rfl ?_
      rw [e32]
      exact fTo_iret hX (fA_212 (pc := 58) rfl) fR_212 (fn_char 32)
    have hto := hst _ hto
    rw [z1, hset 1 (by decide)] at hto
    exact fGd_to (g' := (T, g.2)) hto hk hiv' rfl (fHR_set hh hr (fCR_mk p2 (by decide) p3) t1 t2) rfl rfl
