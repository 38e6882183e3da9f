/-! shift: the reference's loop -/
noncomputable def o_andn (nz zr : fX) : fX := o_andz zr nz
noncomputable def o_shR (nx : fX) : fX := fun E lv st g => fnil st (fwrv (fl_get 4 lv) (fun r1 => fwcr r1 g (fun _ ab nb _ => fB (Nat.beq ab 84) (fwiv (fl_get 5 lv) (fun i => fB (Nat.ble (Nat.add i 2) nb) (fwiv (fl_get 2 lv) (fun p => fB (Nat.beq (Nat.mod p 4294967296) 0) false (fwiv (fl_get 6 lv) (fun _ => fwI (fl_get 3 lv) (nx E lv [] g))))) false)) false)))
theorem fA_190 {pc : Nat} {e : mjE} (h : mj_at mcX8_shift pc = some e) : fAt 190 pc e := h
theorem fo_shR {D : Nat} {lp : List Nat} {x : fX} (hx : fSB 190 lp D 111 x) : fSB 190 lp D 78 (o_shR x) := by
  intro ρ b d X K m jmp hD hX hj iv lv st g al Hp c s hiv hl hh h
  obtain ⟨e0, h⟩ := fnil_1 h
  subst e0
  obtain ⟨r1, e1, h1⟩ := fwrv_1 h
  obtain ⟨r, ab, nb, W, e2, hr, hc, h2⟩ := fwcr_1 h1
  obtain ⟨q1, h3⟩ := fB_1 h2
  have q1 := Nat.eq_of_beq_eq_true q1
  obtain ⟨i, e3, h4⟩ := fwiv_1 h3
  obtain ⟨q2, h5⟩ := fB_1 h4
  have q2 : i + 2 ≤ nb := Nat.le_of_ble_eq_true q2
  obtain ⟨p, e4, h6⟩ := fwiv_1 h5
  obtain ⟨q3, h7⟩ := fB_2 h6
  have q3 := fn_0 p q3
  obtain ⟨j, e5, h8⟩ := fwiv_1 h7
  obtain ⟨h9, hI⟩ := fwI_1 h8
  have hs := fwI_s h8
  obtain ⟨B, hB⟩ := hI ρ b
  clear h h1 h2 h3 h4 h5 h6 h7 h8
  subst e2 q1
  have l4 : mj_ld al 4 = some (.ref r) := fl_said hl e1 (fv_sr _) rfl
  have l5 : mj_ld al 5 = some (.int (Int32.ofNat i)) := fl_said hl e3 (fv_si _) rfl
  have l2 : mj_ld al 2 = some (.int (Int32.ofNat p)) := fl_said hl e4 (fv_si _) rfl
  have l6 : mj_ld al 6 = some (.int (Int32.ofNat j)) := fl_said hl e5 (fv_si _) rfl
  have l3 : mj_ld al 3 = some (.int B) := fl_said hl rfl hs hB
  obtain ⟨kk, vs, v1, v2, v3, v4, v5⟩ := fHR_at2 hh hr hc (by decide) (by decide)
  have hk : kk = 20 := by omega
  subst hk
  have hlt : i + 1 < vs.length := by omega
  obtain ⟨w, hw⟩ : ∃ w, vs[i + 1]? = some (.int w) := by
    have hm := List.all_eq_true.mp v4 vs[i + 1] (List.getElem_mem hlt)
    have hg := List.getElem?_eq_getElem hlt
    generalize vs[i + 1] = u at hm hg
    cases u with
    | int w => exact ⟨w, hg⟩
    | _ => cases hm
  have hi1 := gm_step i
  have t1 : fSt X (78, al, [], Hp, c, s) (84, al, [.int (Int32.ofNat (i + 1)), .ref r], Hp, c, s) := by
    rw [← hi1]
    refine fSt_trans (fSt_op hX (f' := (80, al, [.ref r], Hp, c, s)) (e := (.aload 4, 0, 0, 0)) (fA_190 (pc := 78) rfl) (mq_iload' l4 _ _)) ?_
    refine fSt_trans (fSt_op hX (f' := (82, al, [.int (Int32.ofNat i), .ref r], Hp, c, s)) (e := (.iload 5, 0, 0, 0)) (fA_190 (pc := 80) rfl) (mq_iload l5 _ _)) ?_
    refine fSt_trans (fSt_op hX (f' := (83, al, [.int (Int32.ofInt 1), .int (Int32.ofNat i), .ref r], Hp, c, s)) (e := (.iconst 1, 0, 0, 0)) (fA_190 (pc := 82) rfl) rfl) ?_
    exact fSt_op hX (e := (.iadd, 0, 0, 0)) (fA_190 (pc := 83) rfl) rfl
  have t2 : fSt X (84, al, [.int (Int32.ofNat (i + 1)), .ref r], Hp, c, s) (93, al, [.int (Int32.ofInt 1), .int (B >>> (Int32.ofNat j &&& 31) &&& Int32.ofInt 1), .int w, .int (Int32.ofNat (i + 1)), .ref r], Hp, c, s) := by
    refine fSt_trans (fSt_op hX (f' := (85, al, [.int (Int32.ofNat (i + 1)), .ref r, .int (Int32.ofNat (i + 1)), .ref r], Hp, c, s)) (e := (.dup2, 0, 0, 0)) (fA_190 (pc := 84) rfl) (mq_dup2 rfl rfl _ _)) ?_
    have hld : mj_op (.iaload, 0, 0, 0) (85, al, [.int (Int32.ofNat (i + 1)), .ref r, .int (Int32.ofNat (i + 1)), .ref r], Hp, c, s) = some (86, al, [.int w, .int (Int32.ofNat (i + 1)), .ref r], Hp, c, s) :=
      (show _ = mj_get 20 (85, al, [.int (Int32.ofNat (i + 1)), .ref r, .int (Int32.ofNat (i + 1)), .ref r], Hp, c, s) (Int32.ofNat (i + 1)) r [.int (Int32.ofNat (i + 1)), .ref r] from rfl).trans (mq_getv v1 hw (by omega))
    refine fSt_trans (fSt_op hX (e := (.iaload, 0, 0, 0)) (fA_190 (pc := 85) rfl) hld) ?_
    refine fSt_trans (fSt_op hX (f' := (87, al, [.int B, .int w, .int (Int32.ofNat (i + 1)), .ref r], Hp, c, s)) (e := (.iload_n 3, 0, 0, 0)) (fA_190 (pc := 86) rfl) (mq_iload_n (k := 3) l3 _ _)) ?_
    refine fSt_trans (fSt_op hX (f' := (89, al, [.int (Int32.ofNat j), .int B, .int w, .int (Int32.ofNat (i + 1)), .ref r], Hp, c, s)) (e := (.iload 6, 0, 0, 0)) (fA_190 (pc := 87) rfl) (mq_iload l6 _ _)) ?_
    refine fSt_trans (fSt_op hX (f' := (90, al, [.int (B >>> (Int32.ofNat j &&& 31)), .int w, .int (Int32.ofNat (i + 1)), .ref r], Hp, c, s)) (e := (.ishr, 0, 0, 0)) (fA_190 (pc := 89) rfl) rfl) ?_
    refine fSt_trans (fSt_op hX (f' := (91, al, [.int (Int32.ofInt 1), .int (B >>> (Int32.ofNat j &&& 31)), .int w, .int (Int32.ofNat (i + 1)), .ref r], Hp, c, s)) (e := (.iconst 1, 0, 0, 0)) (fA_190 (pc := 90) rfl) rfl) ?_
    refine fSt_trans (fSt_op hX (f' := (92, al, [.int (B >>> (Int32.ofNat j &&& 31) &&& Int32.ofInt 1), .int w, .int (Int32.ofNat (i + 1)), .ref r], Hp, c, s)) (e := (.iand, 0, 0, 0)) (fA_190 (pc := 91) rfl) rfl) ?_
    exact fSt_op hX (e := (.iconst 1, 0, 0, 0)) (fA_190 (pc := 92) rfl) rfl
  have t3 : ∃ z : Int32, fSt X (93, al, [.int (Int32.ofInt 1), .int (B >>> (Int32.ofNat j &&& 31) &&& Int32.ofInt 1), .int w, .int (Int32.ofNat (i + 1)), .ref r], Hp, c, s) (109, al, [.int z, .int w, .int (Int32.ofNat (i + 1)), .ref r], Hp, c, s) := by
    generalize B >>> (Int32.ofNat j &&& 31) &&& Int32.ofInt 1 = y
    generalize hS : [Value.int w, .int (Int32.ofNat (i + 1)), .ref r] = S
    by_cases hy : ¬ y = Int32.ofInt 1
    · refine ⟨Int32.ofInt 0, fSt_trans (fSt_op hX (f' := (108, al, S, Hp, c, s)) (e := (.if_icmp .ne 15, 0, 0, 0)) (fA_190 (pc := 93) rfl) (mq_ify hy)) ?_⟩
      exact fSt_op hX (e := (.iconst 0, 0, 0, 0)) (fA_190 (pc := 108) rfl) rfl
    · refine ⟨Int32.ofInt 1 <<< ((Int32.ofNat j + Int32.ofNat i - (Int32.ofNat j + Int32.ofNat i) / Int32.ofNat p * Int32.ofNat p) &&& 31), fSt_trans (fSt_op hX (f' := (96, al, S, Hp, c, s)) (e := (.if_icmp .ne 15, 0, 0, 0)) (fA_190 (pc := 93) rfl) (mq_ifn hy)) ?_⟩
      refine fSt_trans (fSt_op hX (f' := (97, al, .int (Int32.ofInt 1) :: S, Hp, c, s)) (e := (.iconst 1, 0, 0, 0)) (fA_190 (pc := 96) rfl) rfl) ?_
      refine fSt_trans (fSt_op hX (f' := (99, al, .int (Int32.ofNat j) :: .int (Int32.ofInt 1) :: S, Hp, c, s)) (e := (.iload 6, 0, 0, 0)) (fA_190 (pc := 97) rfl) (mq_iload l6 _ _)) ?_
      refine fSt_trans (fSt_op hX (f' := (101, al, .int (Int32.ofNat i) :: .int (Int32.ofNat j) :: .int (Int32.ofInt 1) :: S, Hp, c, s)) (e := (.iload 5, 0, 0, 0)) (fA_190 (pc := 99) rfl) (mq_iload l5 _ _)) ?_
      refine fSt_trans (fSt_op hX (f' := (102, al, .int (Int32.ofNat j + Int32.ofNat i) :: .int (Int32.ofInt 1) :: S, Hp, c, s)) (e := (.iadd, 0, 0, 0)) (fA_190 (pc := 101) rfl) rfl) ?_
      refine fSt_trans (fSt_op hX (f' := (103, al, .int (Int32.ofNat p) :: .int (Int32.ofNat j + Int32.ofNat i) :: .int (Int32.ofInt 1) :: S, Hp, c, s)) (e := (.iload_n 2, 0, 0, 0)) (fA_190 (pc := 102) rfl) (mq_iload_n (k := 2) l2 _ _)) ?_
      refine fSt_trans (fSt_op hX (e := (.irem, 0, 0, 0)) (fA_190 (pc := 103) rfl) (mq_irem q3 _ _)) ?_
      refine fSt_trans (fSt_op hX (f' := (105, al, .int (Int32.ofInt 1 <<< ((Int32.ofNat j + Int32.ofNat i - (Int32.ofNat j + Int32.ofNat i) / Int32.ofNat p * Int32.ofNat p) &&& 31)) :: S, Hp, c, s)) (e := (.ishl, 0, 0, 0)) (fA_190 (pc := 104) rfl) rfl) ?_
      exact fSt_op hX (e := (.goto 4, 0, 0, 0)) (fA_190 (pc := 105) rfl) rfl
  obtain ⟨z, t3⟩ := t3
  have t4 : fSt X (109, al, [.int z, .int w, .int (Int32.ofNat (i + 1)), .ref r], Hp, c, s) (111, al, [], Hp.set r (20, vs.set (i + 1) (.int (w ||| z))), c, s) := by
    refine fSt_trans (fSt_op hX (f' := (110, al, [.int (w ||| z), .int (Int32.ofNat (i + 1)), .ref r], Hp, c, s)) (e := (.ior, 0, 0, 0)) (fA_190 (pc := 109) rfl) rfl) ?_
    have hst : mj_op (.iastore, 0, 0, 0) (110, al, [.int (w ||| z), .int (Int32.ofNat (i + 1)), .ref r], Hp, c, s) = some (111, al, [], Hp.set r (20, vs.set (i + 1) (.int (w ||| z))), c, s) :=
      (show _ = mj_put 20 (110, al, [.int (w ||| z), .int (Int32.ofNat (i + 1)), .ref r], Hp, c, s) (.int (w ||| z)) (Int32.ofNat (i + 1)) r [] from rfl).trans (mq_put v1 rfl hlt (by omega))
    exact fSt_op hX (e := (.iastore, 0, 0, 0)) (fA_190 (pc := 110) rfl) hst
  have hF : fHR g (Hp.set r (20, vs.set (i + 1) (.int (w ||| z)))) := by
    have k1 := fHR_set hh hr (c := (84, nb, W)) (o := (20, vs.set (i + 1) (.int (w ||| z)))) (T := g.1) (fCR_mk2 (k := 20) v5 (by decide) (by rw [List.length_set]; exact v3) ?_) hc (fun _ _ _ => rfl)
    · exact k1
    · refine List.all_eq_true.mpr fun u hu => ?_
      rcases List.mem_or_eq_of_mem_set hu with hu | hu
      · exact List.all_eq_true.mp v4 u hu
      · subst hu
        rfl
  exact fGd_st (fSt_trans t1 (fSt_trans t2 (fSt_trans t3 t4))) rfl rfl (hx ρ b d X K m jmp hD hX hj iv lv [] g al _ c s hiv hl hF h9)
