/-! cause: the reference's method, its ranges and its end -/
section FCM
variable {X : Nat → mjF → Option mjR} {ρ : Nat → Int32} {b d : Nat}
theorem cause_m_out (hX : fRun ρ b 212 (d + 1) X) {L al : List (Nat × Value)} (hL : mvL L al) {H : mjH} {r c s : Nat} {vs : List Value} (hr : H[r]? = some (7, vs)) (hn : vs.length = 14) : ∃ al', fSt X (42, al, [.ref r], H, c, s) (56, al', [], H.set r (7, vs.set 9 (.int (Int32.ofInt 1))), c, s) := by
  obtain ⟨al1, hL1, s1⟩ := fSt_mv hX (C := mcX8_cause) rfl 5 (pc := 42) (L := L) (st := [.ref r]) (f' := (50, L, [.int (Int32.ofInt 0), .int (Int32.ofInt 0), .int (Int32.ofInt 0), .int (Int32.ofInt 1), .ref r])) rfl hL
  refine ⟨al1, fSt_trans (s1 (H, c, s)) ?_⟩
  have h2 : fSt X (50, al1, [.int (Int32.ofInt 0), .int (Int32.ofInt 0), .int (Int32.ofInt 0), .int (Int32.ofInt 1), .ref r], H, c, s) (53, al1, [.int (Int32.ofInt 1)], H.set r (7, vs.set 9 (.int (Int32.ofInt 1))), c, s) :=
    fSt_callV hX (vs := [.int (Int32.ofInt 0), .int (Int32.ofInt 0), .int (Int32.ofInt 0), .int (Int32.ofInt 1), .ref r]) (t := []) (fA_212 (pc := 50) rfl) rfl hr (show (mj_P 171).2.1 = 5 from rfl) (by decide) (show (5 : Nat) ≤ mj_mx.getD 171 0 by decide) (fails_1 d hr hn)
  exact fSt_trans h2 (fSt_op hX (e := (.ifCond .eq 6, 0, 0, 0)) (fA_212 (pc := 53) rfl) (mq_ifn (by decide)))
theorem cause_m_in (hX : fRun ρ b 212 (d + 1) X) {L al : List (Nat × Value)} (hL : mvL L al) {H : mjH} {r c s : Nat} {vs : List Value} (hr : H[r]? = some (7, vs)) (hn : vs.length = 14) : ∃ al', mvL L al' ∧ fSt X (46, al, [.ref r], H, c, s) (59, al', [], H.set r (7, vs.set 9 (.int (Int32.ofInt 0))), c, s) := by
  obtain ⟨al1, hL1, s1⟩ := fSt_mv hX (C := mcX8_cause) rfl 4 (pc := 46) (L := L) (st := [.ref r]) (f' := (50, L, [.int (Int32.ofInt 0), .int (Int32.ofInt 0), .int (Int32.ofInt 0), .int (Int32.ofInt 0), .ref r])) rfl hL
  refine ⟨al1, hL1, fSt_trans (s1 (H, c, s)) ?_⟩
  have h2 : fSt X (50, al1, [.int (Int32.ofInt 0), .int (Int32.ofInt 0), .int (Int32.ofInt 0), .int (Int32.ofInt 0), .ref r], H, c, s) (53, al1, [.int (Int32.ofInt 0)], H.set r (7, vs.set 9 (.int (Int32.ofInt 0))), c, s) :=
    fSt_callV hX (vs := [.int (Int32.ofInt 0), .int (Int32.ofInt 0), .int (Int32.ofInt 0), .int (Int32.ofInt 0), .ref r]) (t := []) (fA_212 (pc := 50) rfl) rfl hr (show (mj_P 171).2.1 = 5 from rfl) (by decide) (show (5 : Nat) ≤ mj_mx.getD 171 0 by decide) (fails_0 d hr hn)
  exact fSt_trans h2 (fSt_op hX (e := (.ifCond .eq 6, 0, 0, 0)) (fA_212 (pc := 53) rfl) (mq_ify (by decide)))
theorem gm_o64 : (Int64.ofNat 2).toInt = 2 ∧ (Int64.ofNat 100000).toInt = 100000 ∧ (Int64.ofNat ((1 : Fin 2) : Nat)).toInt = 1 := by decide +kernel
/-- a call of 'in', what is below it being one reference -/
theorem cs_in (hX : fRun ρ b 212 (d + 1) X) {k nn pc r : Nat} {al : List (Nat × Value)} {v lo hi : Int64} {V L U : Int} (he : fAt 212 pc (.invokestatic k, 0, 172, nn)) (hv : v.toInt = V) (hlo : lo.toInt = L) (hhi : hi.toInt = U) {H : mjH} {c s : Nat} : (L ≤ V ∧ V ≤ U ∧ fSt X (pc, al, [.long hi, .long lo, .long v, .ref r], H, c, s) (pc + 3, al, [.int (Int32.ofInt 1), .ref r], H, c, s)) ∨ (¬ (L ≤ V ∧ V ≤ U) ∧ fSt X (pc, al, [.long hi, .long lo, .long v, .ref r], H, c, s) (pc + 3, al, [.int (Int32.ofInt 0), .ref r], H, c, s)) := by
  rcases in_to d hv hlo hhi H with ⟨h1, h2, h3⟩ | ⟨h1, h3⟩
  · exact Or.inl ⟨h1, h2, fSt_call hX (vs := [.long hi, .long lo, .long v]) (t := [.ref r]) (v := some (.int (Int32.ofInt 1))) he (by decide) (show (mj_P 172).2.1 = 3 from rfl) (show (1 : Nat) ≤ 8 by decide) (show (6 : Nat) ≤ mj_mx.getD 172 0 by decide) h3⟩
  · exact Or.inr ⟨h1, fSt_call hX (vs := [.long hi, .long lo, .long v]) (t := [.ref r]) (v := some (.int (Int32.ofInt 0))) he (by decide) (show (mj_P 172).2.1 = 3 from rfl) (show (1 : Nat) ≤ 8 by decide) (show (6 : Nat) ≤ mj_mx.getD 172 0 by decide) h3⟩
theorem cause_m_rng (hX : fRun ρ b 212 (d + 1) X) {p s o : Int32} {al : List (Nat × Value)} {H : mjH} {r c c' : Nat} {vs : List Value} (hL : mvL [(0, .ref r), (1, .int p), (2, .int s), (3, .int o)] al) (hr : H[r]? = some (7, vs)) (hn : vs.length = 14) : (fcR p.toInt s.toInt o.toInt ∧ ∃ al', mvL [(0, .ref r), (1, .int p), (2, .int s), (3, .int o)] al' ∧ fSt X (0, al, [], H, c, c') (59, al', [], H.set r (7, vs.set 9 (.int (Int32.ofInt 0))), c, c')) ∨ (¬ fcR p.toInt s.toInt o.toInt ∧ ∃ al', fSt X (0, al, [], H, c, c') (56, al', [], H.set r (7, vs.set 9 (.int (Int32.ofInt 1))), c, c')) := by
  obtain ⟨g1, g2, g3⟩ := gm_o64
  unfold fcR
  obtain ⟨al1, hL1, s1⟩ := fSt_mv hX (C := mcX8_cause) rfl 5 (pc := 0) (L := [(0, .ref r), (1, .int p), (2, .int s), (3, .int o)]) (st := []) (f' := (9, [(0, .ref r), (1, .int p), (2, .int s), (3, .int o)], [.long (Int64.ofNat 100000), .long (Int64.ofNat 2), .long p.toInt64, .ref r])) rfl hL
  have s1 := s1 (H, c, c')
  rcases cs_in hX (r := r) (al := al1) (H := H) (c := c) (s := c') (fA_212 (pc := 9) (e := (.invokestatic 46, 0, 172, 0)) rfl) (gm_i2l p) g1 g2 with ⟨c1, c2, t1⟩ | ⟨c1, t1⟩
  rotate_left
  · have t1 := fSt_trans (fSt_trans s1 t1) (fSt_op hX (f' := (42, al1, [.ref r], H, c, c')) (e := (.ifCond .eq 30, 0, 0, 0)) (fA_212 (pc := 12) rfl) (mq_ify (by decide)))
    obtain ⟨al', h'⟩ := cause_m_out hX hL1 (c := c) (s := c') hr hn
    exact Or.inr ⟨by omega, al', fSt_trans t1 h'⟩
  have t1 := fSt_trans (fSt_trans s1 t1) (fSt_op hX (f' := (15, al1, [.ref r], H, c, c')) (e := (.ifCond .eq 30, 0, 0, 0)) (fA_212 (pc := 12) rfl) (mq_ifn (by decide)))
  obtain ⟨al2, hL2, s2⟩ := fSt_mv hX (C := mcX8_cause) rfl 7 (pc := 15) (L := [(0, .ref r), (1, .int p), (2, .int s), (3, .int o)]) (st := [.ref r]) (f' := (24, [(0, .ref r), (1, .int p), (2, .int s), (3, .int o)], [.long (p - Int32.ofInt 1).toInt64, .long (Int64.ofNat 2), .long s.toInt64, .ref r])) rfl hL1
  have s2 := fSt_trans t1 (s2 (H, c, c'))
  rcases cs_in hX (r := r) (al := al2) (H := H) (c := c) (s := c') (fA_212 (pc := 24) (e := (.invokestatic 46, 0, 172, 0)) rfl) (gm_i2l s) g1 (gm_pred (x := p) rfl (by omega)) with ⟨c3, c4, t2⟩ | ⟨c3, t2⟩
  rotate_left
  · have t2 := fSt_trans (fSt_trans s2 t2) (fSt_op hX (f' := (42, al2, [.ref r], H, c, c')) (e := (.ifCond .eq 15, 0, 0, 0)) (fA_212 (pc := 27) rfl) (mq_ify (by decide)))
    obtain ⟨al', h'⟩ := cause_m_out hX hL2 (c := c) (s := c') hr hn
    exact Or.inr ⟨by omega, al', fSt_trans t2 h'⟩
  have t2 := fSt_trans (fSt_trans s2 t2) (fSt_op hX (f' := (30, al2, [.ref r], H, c, c')) (e := (.ifCond .eq 15, 0, 0, 0)) (fA_212 (pc := 27) rfl) (mq_ifn (by decide)))
  obtain ⟨al3, hL3, s3⟩ := fSt_mv hX (C := mcX8_cause) rfl 4 (pc := 30) (L := [(0, .ref r), (1, .int p), (2, .int s), (3, .int o)]) (st := [.ref r]) (f' := (36, [(0, .ref r), (1, .int p), (2, .int s), (3, .int o)], [.long (Int64.ofNat 100000), .long (Int64.ofNat ((1 : Fin 2) : Nat)), .long o.toInt64, .ref r])) rfl hL2
  have s3 := fSt_trans t2 (s3 (H, c, c'))
  rcases cs_in hX (r := r) (al := al3) (H := H) (c := c) (s := c') (fA_212 (pc := 36) (e := (.invokestatic 46, 0, 172, 0)) rfl) (gm_i2l o) g3 g2 with ⟨c5, c6, t3⟩ | ⟨c5, t3⟩
  · have t3 := fSt_trans (fSt_trans s3 t3) (fSt_op hX (f' := (46, al3, [.ref r], H, c, c')) (e := (.ifCond .ne 7, 0, 0, 0)) (fA_212 (pc := 39) rfl) (mq_ify (by decide)))
    obtain ⟨al', hL', h'⟩ := cause_m_in hX hL3 (c := c) (s := c') hr hn
    exact Or.inl ⟨by omega, al', hL', fSt_trans t3 h'⟩
  · have t3 := fSt_trans (fSt_trans s3 t3) (fSt_op hX (f' := (42, al3, [.ref r], H, c, c')) (e := (.ifCond .ne 7, 0, 0, 0)) (fA_212 (pc := 39) rfl) (mq_ifn (by decide)))
    obtain ⟨al', h'⟩ := cause_m_out hX hL3 (c := c) (s := c') hr hn
    exact Or.inr ⟨by omega, al', fSt_trans t3 h'⟩
/-! the root -/
theorem gm_natL {r : Nat} (hr : r ≤ 400) : (Int64.ofNat r).toInt = (r : Int) := by
  rw [fn_lint, Nat.mod_eq_of_lt (by omega), if_pos (by omega)]
theorem gm_stepL (r : Nat) : Int64.ofNat r + Int64.ofNat ((1 : Fin 2) : Nat) = Int64.ofNat (r + 1) := by
  have : Int64.ofNat ((1 : Fin 2) : Nat) = Int64.ofNat 1 := rfl
  rw [this, fn_ladd]
  refine fn_linj.mpr ?_
  show (r + 1) % 18446744073709551616 % 18446744073709551616 = (r + 1) % 18446744073709551616
  rw [Nat.mod_mod]
theorem root_loop (hX : fRun ρ b 212 d X) {p s o : Int32} {y lf : Int64} {LF : Int} (hlf : lf.toInt = LF) (hle : LF ≤ 100000) (rr : mjH × Nat × Nat) : ∀ (k r : Nat), r + k = 400 → (∀ q : Nat, q < r → (q : Int) * q < LF) → ∀ al, mvL [(10, .long (Int64.ofNat r)), (8, .long lf), (6, .long y), (1, .int p), (2, .int s), (3, .int o)] al →
    ∃ (r' : Nat) (al' : List (Nat × Value)), r' < 400 ∧ LF ≤ (r' : Int) * r' ∧ (∀ q : Nat, q < r' → (q : Int) * q < LF) ∧ mvL [(10, .long (Int64.ofNat r')), (8, .long lf), (6, .long y), (1, .int p), (2, .int s), (3, .int o)] al' ∧ fSt X (131, al, [], rr) (151, al', [], rr)
  | 0, r, hk, hl, al, _ => by
    have := hl 399 (by omega)
    omega
  | k + 1, r, hk, hl, al, hL => by
    have hr := gm_natL (r := r) (by omega)
    have hs := gm_sq (r := r) (by omega)
    have hm := gm_mul hr hr hs.1 (by omega)
    have hge := gm_cmpge hm hlf
    obtain ⟨al1, hL1, s1⟩ := fSt_mv hX (C := mcX8_cause) rfl 5 (pc := 131) (L := [(10, .long (Int64.ofNat r)), (8, .long lf), (6, .long y), (1, .int p), (2, .int s), (3, .int o)]) (st := []) (f' := (139, [(10, .long (Int64.ofNat r)), (8, .long lf), (6, .long y), (1, .int p), (2, .int s), (3, .int o)], [.int (lg_cmp (Int64.ofNat r * Int64.ofNat r) lf)])) rfl hL
    have s1 := s1 rr
    by_cases hb : LF ≤ (r : Int) * r
    · exact ⟨r, al1, by omega, hb, hl, hL1, fSt_trans s1 (fSt_op hX (e := (.ifCond .ge 12, 0, 0, 0)) (fA_212 (pc := 139) rfl) (mq_ify (hge.mpr hb)))⟩
    · have s1 := fSt_trans s1 (fSt_op hX (f' := (142, al1, [], rr)) (e := (.ifCond .ge 12, 0, 0, 0)) (fA_212 (pc := 139) rfl) (mq_ifn (fun q => hb (hge.mp q))))
      obtain ⟨al2, hL2, s2⟩ := fSt_mv hX (C := mcX8_cause) rfl 5 (pc := 142) (L := [(10, .long (Int64.ofNat r)), (8, .long lf), (6, .long y), (1, .int p), (2, .int s), (3, .int o)]) (st := []) (f' := (131, [(10, .long (Int64.ofNat r + Int64.ofNat ((1 : Fin 2) : Nat))), (8, .long lf), (6, .long y), (1, .int p), (2, .int s), (3, .int o)], [])) rfl hL1
      have s2 := fSt_trans s1 (s2 rr)
      rw [gm_stepL] at hL2
      obtain ⟨r', al', h1, h2, h3, h4, h5⟩ := root_loop hX hlf hle rr k (r + 1) (by omega) (fun q hq => by
        by_cases hq2 : q < r
        · exact hl q hq2
        · have e : q = r := by omega
          subst e
          omega) al2 hL2
      exact ⟨r', al', h1, h2, h3, h4, fSt_trans s2 h5⟩
end FCM
