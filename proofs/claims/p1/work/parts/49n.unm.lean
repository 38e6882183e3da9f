/-! unmet: the reference's loops, a pair of factors at a time -/
def un_zv (v : Value) : Nat := match v with
  | .int x => if x = 0 then 1 else 0
  | _ => 0
def un_z : List Value → Nat
  | [] => 0
  | v :: t => un_zv v + un_z t
theorem un_z_rep (N : Nat) : un_z (List.replicate N (.int 0)) = N := by
  induction N with
  | zero => rfl
  | succ n ih =>
    rw [List.replicate_succ]
    show un_zv (.int 0) + un_z (List.replicate n (.int 0)) = n + 1
    rw [ih]
    show 1 + n = n + 1
    omega
theorem un_z_set {w : Value} (hw : un_zv w = 0) : ∀ {vs : List Value} {c : Nat}, vs[c]? = some (.int 0) → un_z (vs.set c w) + 1 = un_z vs
  | [], c, h => by cases h
  | v :: t, 0, h => by
    cases h
    show un_zv w + un_z t + 1 = un_zv (.int 0) + un_z t
    rw [hw]
    show 0 + un_z t + 1 = 1 + un_z t
    omega
  | v :: t, c + 1, h => by
    have ih := un_z_set hw (vs := t) (c := c) h
    show un_zv v + un_z (t.set c w) + 1 = un_zv v + un_z t
    omega
def un_code (L one other i : Nat) : Nat := L * un_set L i one + un_set L i other
def un_ok (L one other : Nat) : Nat → Nat → Nat → Bool
  | 0, _, _ => true
  | n + 1, M, i => decide (un_code L one other i < L * L) && (!(M.testBit (un_code L one other i)) && un_ok L one other n (M ||| 2 ^ un_code L one other i) (i + 1))
theorem un_ok_le {L one other : Nat} (k : Nat) : ∀ {n M i : Nat}, un_ok L one other (k + n) M i = true → un_ok L one other n M i = true
  | 0, _, _, _ => rfl
  | n + 1, M, i, h => by
    have h : (decide (un_code L one other i < L * L) && (!(M.testBit (un_code L one other i)) && un_ok L one other (k + n) (M ||| 2 ^ un_code L one other i) (i + 1))) = true := h
    show (decide (un_code L one other i < L * L) && (!(M.testBit (un_code L one other i)) && un_ok L one other n (M ||| 2 ^ un_code L one other i) (i + 1))) = true
    rw [Bool.and_eq_true, Bool.and_eq_true] at h ⊢
    exact ⟨h.1, h.2.1, un_ok_le k h.2.2⟩
theorem un_ok_all : (un_Ls.all fun L => (List.range (L + 1)).all fun one => (List.range one).all fun other => un_ok L one other (L * L) 0 0) = true := by decide +kernel
theorem un_ok_at {L one other m : Nat} (hL : L ∈ un_Ls) (ho : one ≤ L) (hp : other < one) (hm : m ≤ L * L) : un_ok L one other m 0 0 = true := by
  have h : un_ok L one other (L * L) 0 0 = true := List.all_eq_true.mp (List.all_eq_true.mp (List.all_eq_true.mp un_ok_all L hL) one (List.mem_range.mpr (by omega))) other (List.mem_range.mpr hp)
  have e : L * L = (L * L - m) + m := by omega
  rw [e] at h
  exact un_ok_le _ h
theorem un_set_id {α : Type} {H : List α} {r : Nat} {o : α} (h : H[r]? = some o) : H.set r o = H := by
  refine List.ext_getElem? fun i => ?_
  by_cases hi : i = r
  · subst hi
    rw [List.getElem?_set_self (fl_some_lt h), h]
  · rw [List.getElem?_set_ne (by omega)]
theorem un_sa {α : Type} (b a : α) : ∀ H : List α, (H ++ [a]).set H.length b = H ++ [b]
  | [] => rfl
  | x :: t => congrArg (x :: ·) (un_sa b a t)
/-- the locals between the loops; the round's number last written -/
def un_Lf (L m one other s r : Nat) (fc : Value) : List (Nat × Value) := [(8, .ref r), (1, .int (Int32.ofNat L)), (2, fc), (3, .int (Int32.ofNat m)), (5, .int (Int32.ofNat s)), (6, .int (Int32.ofNat one)), (7, .int (Int32.ofNat other))]
section UNM
variable {X : Nat → mjF → Option mjR} {ρ : Nat → Int32} {b d : Nat}
set_option maxHeartbeats 1000000 in
theorem un_row (hX : fRun ρ b 260 (d + 1 + 1) X) {L m one other s r fc : Nat} (hL : L ∈ un_Ls) (ho : one ≤ L) (hp : other ≤ L) (hm : m ≤ L * L) (c s0 : Nat) : ∀ (n i M : Nat) (vs : List Value) (H : mjH) (al : List (Nat × Value)), i + n = m → H[r]? = some (23, vs) → vs.length = L * L → vs.all mj_isint = true → (∀ j, j < L * L → M.testBit j = false → vs[j]? = some (.int 0)) → un_ok L one other n M i = true → mvL ((9, .int (Int32.ofNat i)) :: un_Lf L m one other s r (.int (Int32.ofNat fc))) al → ∃ (vs' : List Value) (al' : List (Nat × Value)), vs'.length = L * L ∧ vs'.all mj_isint = true ∧ un_z vs' + n = un_z vs ∧ mvL (un_Lf L m one other s r (.int (Int32.ofNat fc))) al' ∧ fSt X (96, al, [], H, c, s0) (131, al', [], H.set r (23, vs'), c, s0)
  | 0, i, M, vs, H, al, h1, h2, h3, h4, h5, h6, h7 => by
    obtain ⟨b1, b2⟩ := un_Lb hL
    have h81 : L * L ≤ 81 := Nat.mul_le_mul b2 b2
    obtain ⟨al1, hl1, hs1⟩ := fSt_mv hX (C := mcX8_unmet) rfl 2 (pc := 96) (L := (9, .int (Int32.ofNat i)) :: un_Lf L m one other s r (.int (Int32.ofNat fc))) (st := []) (f' := (99, (9, .int (Int32.ofNat i)) :: un_Lf L m one other s r (.int (Int32.ofNat fc)), [.int (Int32.ofNat m), .int (Int32.ofNat i)])) rfl h7
    refine ⟨vs, al1, h3, h4, rfl, fun j v hj => ?_, ?_⟩
    · have hne : 9 ≠ j := by
        intro q
        subst q
        cases hj
      exact hl1 j v ((fl_ld_cons hne).trans hj)
    · rw [un_set_id h2]
      refine fSt_trans (hs1 _) ?_
      exact fSt_op hX (f' := (131, al1, [], H, c, s0)) (e := (.if_icmp .ge 32, 0, 0, 0)) (fA_260 (pc := 99) rfl) (mq_ify ((un_le (by omega) (by omega)).mpr (by omega)))
  | n + 1, i, M, vs, H, al, h1, h2, h3, h4, h5, h6, h7 => by
    obtain ⟨b1, b2⟩ := un_Lb hL
    have h81 : L * L ≤ 81 := Nat.mul_le_mul b2 b2
    have h6 : (decide (un_code L one other i < L * L) && (!(M.testBit (un_code L one other i)) && un_ok L one other n (M ||| 2 ^ un_code L one other i) (i + 1))) = true := h6
    rw [Bool.and_eq_true, Bool.and_eq_true] at h6
    obtain ⟨k1, k2, k3⟩ := h6
    have k1 := of_decide_eq_true k1
    have k2 : M.testBit (un_code L one other i) = false := by
      cases hb : M.testBit (un_code L one other i) with
      | false => rfl
      | true => rw [hb] at k2; cases k2
    have hi : i < L * L := by omega
    have k4 := h5 _ k1 k2
    obtain ⟨al1, hl1, hs1⟩ := fSt_mv hX (C := mcX8_unmet) rfl 2 (pc := 96) (L := (9, .int (Int32.ofNat i)) :: un_Lf L m one other s r (.int (Int32.ofNat fc))) (st := []) (f' := (99, (9, .int (Int32.ofNat i)) :: un_Lf L m one other s r (.int (Int32.ofNat fc)), [.int (Int32.ofNat m), .int (Int32.ofNat i)])) rfl h7
    have t1 : fSt X (96, al, [], H, c, s0) (102, al1, [], H, c, s0) := by
      refine fSt_trans (hs1 _) ?_
      exact fSt_op hX (f' := (102, al1, [], H, c, s0)) (e := (.if_icmp .ge 32, 0, 0, 0)) (fA_260 (pc := 99) rfl) (mq_ifn (fun q => by have := (un_le (by omega) (by omega)).mp q; omega))
    obtain ⟨al2, hl2, hs2⟩ := fSt_mv hX (C := mcX8_unmet) rfl 5 (pc := 102) (L := (9, .int (Int32.ofNat i)) :: un_Lf L m one other s r (.int (Int32.ofNat fc))) (st := []) (f' := (110, (9, .int (Int32.ofNat i)) :: un_Lf L m one other s r (.int (Int32.ofNat fc)), [.int (Int32.ofNat one), .int (Int32.ofNat i), .int (Int32.ofNat L), .int (Int32.ofNat L), .ref r])) rfl hl1
    have t2 := fSt_call hX (pc := 110) (al := al2) (vs := [.int (Int32.ofNat one), .int (Int32.ofNat i), .int (Int32.ofNat L)]) (t := [.int (Int32.ofNat L), .ref r]) (v := some (.int (Int32.ofNat (un_set L i one)))) (c := c) (s := s0) (fA_260 (pc := 110) rfl) (by decide) (show (mj_P 258).2.1 = 3 from rfl) (show (2 : Nat) ≤ 8 by decide) (show (3 : Nat) ≤ mj_mx.getD 258 0 by decide) (set_to d hL hi ho H)
    obtain ⟨al3, hl3, hs3⟩ := fSt_mv hX (C := mcX8_unmet) rfl 4 (pc := 113) (L := (9, .int (Int32.ofNat i)) :: un_Lf L m one other s r (.int (Int32.ofNat fc))) (st := [.int (Int32.ofNat (un_set L i one)), .int (Int32.ofNat L), .ref r]) (f' := (119, (9, .int (Int32.ofNat i)) :: un_Lf L m one other s r (.int (Int32.ofNat fc)), [.int (Int32.ofNat other), .int (Int32.ofNat i), .int (Int32.ofNat L), .int (Int32.ofNat L * Int32.ofNat (un_set L i one)), .ref r])) rfl hl2
    have t3 := fSt_call hX (pc := 119) (al := al3) (vs := [.int (Int32.ofNat other), .int (Int32.ofNat i), .int (Int32.ofNat L)]) (t := [.int (Int32.ofNat L * Int32.ofNat (un_set L i one)), .ref r]) (v := some (.int (Int32.ofNat (un_set L i other)))) (c := c) (s := s0) (fA_260 (pc := 119) rfl) (by decide) (show (mj_P 258).2.1 = 3 from rfl) (show (2 : Nat) ≤ 8 by decide) (show (3 : Nat) ≤ mj_mx.getD 258 0 by decide) (set_to d hL hi hp H)
    obtain ⟨al4, hl4, hs4⟩ := fSt_mv hX (C := mcX8_unmet) rfl 2 (pc := 122) (L := (9, .int (Int32.ofNat i)) :: un_Lf L m one other s r (.int (Int32.ofNat fc))) (st := [.int (Int32.ofNat (un_set L i other)), .int (Int32.ofNat L * Int32.ofNat (un_set L i one)), .ref r]) (f' := (124, (9, .int (Int32.ofNat i)) :: un_Lf L m one other s r (.int (Int32.ofNat fc)), [.int (Int32.ofInt 1), .int (Int32.ofNat L * Int32.ofNat (un_set L i one) + Int32.ofNat (un_set L i other)), .ref r])) rfl hl3
    have ec : Int32.ofNat L * Int32.ofNat (un_set L i one) + Int32.ofNat (un_set L i other) = Int32.ofNat (un_code L one other i) := by rw [un_mul, un_add]; rfl
    rw [ec] at hs4
    have hst : mj_op (.bastore, 0, 0, 0) (124, al4, [.int (Int32.ofInt 1), .int (Int32.ofNat (un_code L one other i)), .ref r], H, c, s0) = some (125, al4, [], H.set r (23, vs.set (un_code L one other i) (narrow .boolean (.int (Int32.ofInt 1)))), c, s0) :=
      (show _ = mj_put 23 (124, al4, [.int (Int32.ofInt 1), .int (Int32.ofNat (un_code L one other i)), .ref r], H, c, s0) (narrow .boolean (.int (Int32.ofInt 1))) (Int32.ofNat (un_code L one other i)) r [] from rfl).trans (mq_put h2 rfl (by omega) (by omega))
    have t4 := fSt_op hX (e := (.bastore, 0, 0, 0)) (fA_260 (pc := 124) rfl) hst
    obtain ⟨al5, hl5, hs5⟩ := fSt_mv hX (C := mcX8_unmet) rfl 2 (pc := 125) (L := (9, .int (Int32.ofNat i)) :: un_Lf L m one other s r (.int (Int32.ofNat fc))) (st := []) (f' := (96, (9, .int (Int32.ofNat i + Int32.ofInt 1)) :: un_Lf L m one other s r (.int (Int32.ofNat fc)), [])) rfl hl4
    rw [gm_step] at hl5
    have ew : narrow .boolean (.int (Int32.ofInt 1)) = .int 1 := by
      have e : Int32.ofInt 1 = Int32.ofNat 1 := by decide +kernel
      rw [e, fn_bool]
      rfl
    rw [ew] at t4
    have hz : un_zv (.int 1) = 0 := by
      show (if (1 : Int32) = 0 then 1 else 0) = 0
      exact if_neg (by decide)
    have g1 : (H.set r (23, vs.set (un_code L one other i) (.int 1)))[r]? = some (23, vs.set (un_code L one other i) (.int 1)) := List.getElem?_set_self (fl_some_lt h2)
    have g2 : (vs.set (un_code L one other i) (.int 1)).all mj_isint = true := by
      refine List.all_eq_true.mpr fun u hu => ?_
      rcases List.mem_or_eq_of_mem_set hu with hu | hu
      · exact List.all_eq_true.mp h4 u hu
      · subst hu
        rfl
    have g3 : ∀ j, j < L * L → (M ||| 2 ^ un_code L one other i).testBit j = false → (vs.set (un_code L one other i) (.int 1))[j]? = some (.int 0) := by
      intro j hj hb
      rw [Nat.testBit_or, Nat.testBit_two_pow, Bool.or_eq_false_iff] at hb
      have hne : un_code L one other i ≠ j := of_decide_eq_false hb.2
      rw [List.getElem?_set_ne hne]
      exact h5 j hj hb.1
    obtain ⟨vs', al', q1, q2, q3, q4, q5⟩ := un_row hX hL ho hp hm c s0 n (i + 1) _ _ _ al5 (by omega) g1 (by rw [List.length_set]; exact h3) g2 g3 k3 hl5
    refine ⟨vs', al', q1, q2, ?_, q4, ?_⟩
    · have := un_z_set hz k4
      omega
    · rw [List.set_set] at q5
      exact fSt_trans t1 (fSt_trans (hs2 _) (fSt_trans t2 (fSt_trans (hs3 _) (fSt_trans t3 (fSt_trans (hs4 _) (fSt_trans t4 (fSt_trans (hs5 _) q5)))))))
/-- the locals of the count -/
def un_Lc (L m one other s r N j : Nat) (fc : Value) : List (Nat × Value) := [(11, .int (Int32.ofNat j)), (5, .int (Int32.ofNat s)), (10, .int (Int32.ofNat N)), (9, .ref r), (1, .int (Int32.ofNat L)), (2, fc), (3, .int (Int32.ofNat m)), (6, .int (Int32.ofNat one)), (7, .int (Int32.ofNat other))]
theorem un_Lc_of {L m one other s' r N j : Nat} {fc : Value} {L0 al : List (Nat × Value)} (h : mvL L0 al) (h11 : mj_ld L0 11 = some (.int (Int32.ofNat j))) (h5 : mj_ld L0 5 = some (.int (Int32.ofNat s'))) (h10 : mj_ld L0 10 = some (.int (Int32.ofNat N))) (h9 : mj_ld L0 9 = some (.ref r)) (h1 : mj_ld L0 1 = some (.int (Int32.ofNat L))) (h2 : mj_ld L0 2 = some fc) (h3 : mj_ld L0 3 = some (.int (Int32.ofNat m))) (h6 : mj_ld L0 6 = some (.int (Int32.ofNat one))) (h7 : mj_ld L0 7 = some (.int (Int32.ofNat other))) : mvL (un_Lc L m one other s' r N j fc) al :=
  mvL_cons (h _ _ h11) (mvL_cons (h _ _ h5) (mvL_cons (h _ _ h10) (mvL_cons (h _ _ h9) (mvL_cons (h _ _ h1) (mvL_cons (h _ _ h2) (mvL_cons (h _ _ h3) (mvL_cons (h _ _ h6) (mvL_cons (h _ _ h7) mvL_nil))))))))
set_option maxHeartbeats 1000000 in
theorem un_cnt (hX : fRun ρ b 260 d X) {L m one other r N fc : Nat} (hN : N ≤ 65536) (c s0 : Nat) {vs : List Value} {H : mjH} (hr : H[r]? = some (23, vs)) (hv : vs.length = N) (ha : vs.all mj_isint = true) : ∀ (n j s : Nat) (al : List (Nat × Value)), j + n = N → mvL (un_Lc L m one other s r N j (.int (Int32.ofNat fc))) al → ∃ al', mvL (un_Lc L m one other (s + un_z (vs.drop j)) r N N (.int (Int32.ofNat fc))) al' ∧ fSt X (143, al, [], H, c, s0) (178, al', [], H, c, s0)
  | 0, j, s, al, h1, h2 => by
    have e : j = N := by omega
    subst e
    rw [List.drop_eq_nil_of_le (by omega)]
    obtain ⟨al1, hl1, hs1⟩ := fSt_mv hX (C := mcX8_unmet) rfl 2 (pc := 143) (L := un_Lc L m one other s r j j (.int (Int32.ofNat fc))) (st := []) (f' := (147, un_Lc L m one other s r j j (.int (Int32.ofNat fc)), [.int (Int32.ofNat j), .int (Int32.ofNat j)])) rfl h2
    refine ⟨al1, hl1, fSt_trans (hs1 _) ?_⟩
    exact fSt_op hX (f' := (178, al1, [], H, c, s0)) (e := (.if_icmp .ge 31, 0, 0, 0)) (fA_260 (pc := 147) rfl) (mq_ify ((un_le (by omega) (by omega)).mpr (by omega)))
  | n + 1, j, s, al, h1, h2 => by
    have hj : j < vs.length := by omega
    rw [List.drop_eq_getElem_cons hj]
    have hg := List.getElem?_eq_getElem hj
    have hm := List.all_eq_true.mp ha vs[j] (List.getElem_mem hj)
    generalize vs[j] = u at hg hm
    obtain ⟨w, hw⟩ : ∃ w, u = .int w := by
      cases u with
      | int w => exact ⟨w, rfl⟩
      | _ => cases hm
    subst hw
    show ∃ al', mvL (un_Lc L m one other (s + (un_zv (.int w) + un_z (vs.drop (j + 1)))) r N N (.int (Int32.ofNat fc))) al' ∧ _
    obtain ⟨al1, hl1, hs1⟩ := fSt_mv hX (C := mcX8_unmet) rfl 2 (pc := 143) (L := un_Lc L m one other s r N j (.int (Int32.ofNat fc))) (st := []) (f' := (147, un_Lc L m one other s r N j (.int (Int32.ofNat fc)), [.int (Int32.ofNat N), .int (Int32.ofNat j)])) rfl h2
    have t1 : fSt X (143, al, [], H, c, s0) (150, al1, [], H, c, s0) := by
      refine fSt_trans (hs1 _) ?_
      exact fSt_op hX (f' := (150, al1, [], H, c, s0)) (e := (.if_icmp .ge 31, 0, 0, 0)) (fA_260 (pc := 147) rfl) (mq_ifn (fun q => by have := (un_le (by omega) (by omega)).mp q; omega))
    obtain ⟨al2, hl2, hs2⟩ := fSt_mv hX (C := mcX8_unmet) rfl 2 (pc := 150) (L := un_Lc L m one other s r N j (.int (Int32.ofNat fc))) (st := []) (f' := (154, un_Lc L m one other s r N j (.int (Int32.ofNat fc)), [.int (Int32.ofNat j), .ref r])) rfl hl1
    have hld : mj_op (.baload, 0, 0, 0) (154, al2, [.int (Int32.ofNat j), .ref r], H, c, s0) = some (155, al2, [.int w], H, c, s0) :=
      (show _ = mj_get 23 (154, al2, [.int (Int32.ofNat j), .ref r], H, c, s0) (Int32.ofNat j) r [] from rfl).trans (mq_getv hr hg (by omega))
    have t2 := fSt_op hX (e := (.baload, 0, 0, 0)) (fA_260 (pc := 154) rfl) hld
    obtain ⟨al3, hl3, hs3⟩ := fSt_mv hX (C := mcX8_unmet) rfl 3 (pc := 155) (L := un_Lc L m one other s r N j (.int (Int32.ofNat fc))) (st := [.int w]) (f' := (161, (12, .int w) :: un_Lc L m one other s r N j (.int (Int32.ofNat fc)), [.int w, .int (Int32.ofNat s)])) rfl hl2
    have t3 : ∃ z : Int32, Int32.ofNat s + z = Int32.ofNat (s + un_zv (.int w)) ∧ fSt X (161, al3, [.int w, .int (Int32.ofNat s)], H, c, s0) (169, al3, [.int z, .int (Int32.ofNat s)], H, c, s0) := by
      by_cases hw : w = 0
      · have e : un_zv (.int w) = 1 := if_pos hw
        rw [e]
        refine ⟨Int32.ofInt 1, gm_step s, ?_⟩
        refine fSt_trans (fSt_op hX (f' := (168, al3, [.int (Int32.ofNat s)], H, c, s0)) (e := (.ifCond .eq 7, 0, 0, 0)) (fA_260 (pc := 161) rfl) (mq_ify hw)) ?_
        exact fSt_op hX (e := (.iconst 1, 0, 0, 0)) (fA_260 (pc := 168) rfl) rfl
      · have e : un_zv (.int w) = 0 := if_neg hw
        rw [e]
        refine ⟨Int32.ofInt 0, ?_, ?_⟩
        · have e0 : Int32.ofInt 0 = Int32.ofNat 0 := by decide +kernel
          rw [e0, un_add]
        · refine fSt_trans (fSt_op hX (f' := (164, al3, [.int (Int32.ofNat s)], H, c, s0)) (e := (.ifCond .eq 7, 0, 0, 0)) (fA_260 (pc := 161) rfl) (mq_ifn hw)) ?_
          refine fSt_trans (fSt_op hX (f' := (165, al3, [.int (Int32.ofInt 0), .int (Int32.ofNat s)], H, c, s0)) (e := (.iconst 0, 0, 0, 0)) (fA_260 (pc := 164) rfl) rfl) ?_
          exact fSt_op hX (e := (.goto 4, 0, 0, 0)) (fA_260 (pc := 165) rfl) rfl
    obtain ⟨z, ez, t3⟩ := t3
    obtain ⟨al4, hl4, hs4⟩ := fSt_mv hX (C := mcX8_unmet) rfl 4 (pc := 169) (L := (12, .int w) :: un_Lc L m one other s r N j (.int (Int32.ofNat fc))) (st := [.int z, .int (Int32.ofNat s)]) (f' := (143, mv_s1 11 (.int (Int32.ofNat j + Int32.ofInt 1)) (mv_s1 5 (.int (Int32.ofNat s + z)) ((12, .int w) :: un_Lc L m one other s r N j (.int (Int32.ofNat fc)))), [])) rfl hl3
    rw [gm_step, ez] at hl4
    have hl5 : mvL (un_Lc L m one other (s + un_zv (.int w)) r N (j + 1) (.int (Int32.ofNat fc))) al4 := un_Lc_of hl4 rfl rfl rfl rfl rfl rfl rfl rfl rfl
    obtain ⟨al', q1, q2⟩ := un_cnt hX hN c s0 hr hv ha n (j + 1) _ al4 (by omega) hl5
    refine ⟨al', ?_, fSt_trans t1 (fSt_trans (hs2 _) (fSt_trans t2 (fSt_trans (hs3 _) (fSt_trans t3 (fSt_trans (hs4 _) q2)))))⟩
    rw [← Nat.add_assoc]
    exact q1
end UNM
noncomputable def un_inL (L : Nat) : Bool := List.rec (motive := fun _ => Bool) false (fun a _ ih => fB (Nat.beq L a) true ih) un_Ls
theorem un_inL_0 {L : Nat} : ∀ {Ls : List Nat}, List.rec (motive := fun _ => Bool) false (fun a _ ih => fB (Nat.beq L a) true ih) Ls = true → L ∈ Ls
  | [], h => by cases h
  | a :: t, h => by
    rcases fB_t (show fB (Nat.beq L a) true (List.rec (motive := fun _ => Bool) false (fun a _ ih => fB (Nat.beq L a) true ih) t) = true from h) with ⟨q, -⟩ | ⟨-, q⟩
    · rw [Nat.eq_of_beq_eq_true q]
      exact List.mem_cons_self
    · exact List.mem_cons_of_mem _ (un_inL_0 q)
theorem un_inL_1 {L : Nat} (h : un_inL L = true) : L ∈ un_Ls := un_inL_0 h
/-- the body of the loop over pairs of factors -/
noncomputable def o_unm (nx : fX) : fX := fun E lv st g => fnil st (fwiv (fl_get 1 lv) (fun L => fwiv (fl_get 2 lv) (fun fc => fwiv (fl_get 3 lv) (fun m => fwiv (fl_get 5 lv) (fun s => fwiv (fl_get 6 lv) (fun one => fwiv (fl_get 7 lv) (fun other => fB (un_inL L) (fB (Nat.ble one L) (fB (Nat.ble (Nat.succ other) one) (fB (Nat.ble m (Nat.mul L L)) (frc (Nat.mul L L) (fun N => frc (Nat.add s (Nat.sub N m)) (fun s => fnew g 87 N N (fun _ g => nx E (fF :: Sum.inl L :: Sum.inl fc :: Sum.inl m :: fF :: Sum.inl s :: Sum.inl one :: Sum.inl other :: []) [] g)))) false) false) false) false)))))))
set_option maxHeartbeats 1000000 in
theorem fo_unm {D : Nat} {lp : List Nat} {x : fX} (hD2 : 2 ≤ D) (hx : fSB 260 lp D 178 x) : fSB 260 lp D 86 (o_unm x) := by
  intro ρ b d X K mm jmp hD hX hj iv lv st g al Hp c s0 hiv hl hh h
  obtain ⟨e0, h⟩ := fnil_1 h
  subst e0
  obtain ⟨L, e1, h⟩ := fwiv_1 h
  obtain ⟨fc, e2, h⟩ := fwiv_1 h
  obtain ⟨m, e3, h⟩ := fwiv_1 h
  obtain ⟨s, e5, h⟩ := fwiv_1 h
  obtain ⟨one, e6, h⟩ := fwiv_1 h
  obtain ⟨other, e7, h⟩ := fwiv_1 h
  obtain ⟨q1, h⟩ := fB_1 h
  obtain ⟨q2, h⟩ := fB_1 h
  obtain ⟨q3, h⟩ := fB_1 h
  obtain ⟨q4, h⟩ := fB_1 h
  have hL := un_inL_1 q1
  have ho := Nat.le_of_ble_eq_true q2
  have hp : other < one := Nat.le_of_ble_eq_true q3
  have hm : m ≤ L * L := Nat.le_of_ble_eq_true q4
  have h := frc_t (k := fun N => frc (Nat.add s (Nat.sub N m)) (fun s => fnew g 87 N N (fun _ g => x (iv, (mm, (jmp, K))) (fF :: Sum.inl L :: Sum.inl fc :: Sum.inl m :: fF :: Sum.inl s :: Sum.inl one :: Sum.inl other :: []) [] g))) h
  have h := frc_t (k := fun s => fnew g 87 (Nat.mul L L) (Nat.mul L L) (fun _ g => x (iv, (mm, (jmp, K))) (fF :: Sum.inl L :: Sum.inl fc :: Sum.inl m :: fF :: Sum.inl s :: Sum.inl one :: Sum.inl other :: []) [] g)) h
  obtain ⟨hgl, T, h, t1, t2⟩ := fnew_1 h
  obtain ⟨b1, b2⟩ := un_Lb hL
  have h81 : L * L ≤ 81 := Nat.mul_le_mul b2 b2
  obtain ⟨d, rfl⟩ : ∃ q, d = q + 1 + 1 := ⟨d - 2, by omega⟩
  have l1 : mj_ld al 1 = some (.int (Int32.ofNat L)) := fl_said hl e1 (fv_si _) rfl
  have l2 : mj_ld al 2 = some (.int (Int32.ofNat fc)) := fl_said hl e2 (fv_si _) rfl
  have l3 : mj_ld al 3 = some (.int (Int32.ofNat m)) := fl_said hl e3 (fv_si _) rfl
  have l5 : mj_ld al 5 = some (.int (Int32.ofNat s)) := fl_said hl e5 (fv_si _) rfl
  have l6 : mj_ld al 6 = some (.int (Int32.ofNat one)) := fl_said hl e6 (fv_si _) rfl
  have l7 : mj_ld al 7 = some (.int (Int32.ofNat other)) := fl_said hl e7 (fv_si _) rfl
  have hL0 : mvL [(1, .int (Int32.ofNat L)), (2, .int (Int32.ofNat fc)), (3, .int (Int32.ofNat m)), (5, .int (Int32.ofNat s)), (6, .int (Int32.ofNat one)), (7, .int (Int32.ofNat other))] al := mvL_cons l1 (mvL_cons l2 (mvL_cons l3 (mvL_cons l5 (mvL_cons l6 (mvL_cons l7 mvL_nil)))))
  obtain ⟨al1, hl1, hs1⟩ := fSt_mv hX (C := mcX8_unmet) rfl 3 (pc := 86) (L := [(1, .int (Int32.ofNat L)), (2, .int (Int32.ofNat fc)), (3, .int (Int32.ofNat m)), (5, .int (Int32.ofNat s)), (6, .int (Int32.ofNat one)), (7, .int (Int32.ofNat other))]) (st := []) (f' := (89, [(1, .int (Int32.ofNat L)), (2, .int (Int32.ofNat fc)), (3, .int (Int32.ofNat m)), (5, .int (Int32.ofNat s)), (6, .int (Int32.ofNat one)), (7, .int (Int32.ofNat other))], [.int (Int32.ofNat L * Int32.ofNat L)])) rfl hL0
  rw [un_mul] at hs1
  have tn := fSt_op hX (e := (.newarray .boolean, 0, 0, 0)) (fA_260 (pc := 89) rfl) (mq_newa (pc := 89) (al := al1) (st := []) (H := Hp) (c := c) (s := s0) (t := .boolean) (kd := 23) (v := .int 0) (N := L * L) rfl (by omega))
  obtain ⟨al2, hl2, hs2⟩ := fSt_mv hX (C := mcX8_unmet) rfl 3 (pc := 91) (L := [(1, .int (Int32.ofNat L)), (2, .int (Int32.ofNat fc)), (3, .int (Int32.ofNat m)), (5, .int (Int32.ofNat s)), (6, .int (Int32.ofNat one)), (7, .int (Int32.ofNat other))]) (st := [.ref Hp.length]) (f' := (96, (9, .int (Int32.ofInt 0)) :: un_Lf L m one other s Hp.length (.int (Int32.ofNat fc)), [])) rfl hl1
  have ez : Int32.ofInt 0 = Int32.ofNat 0 := by decide +kernel
  rw [ez] at hl2
  have hr0 : (Hp ++ [(23, List.replicate (L * L) (.int 0))])[Hp.length]? = some (23, List.replicate (L * L) (.int 0)) := by
    rw [List.getElem?_append_right (Nat.le_refl _), Nat.sub_self]
    rfl
  obtain ⟨vs, al3, v1, v2, v3, hl3, hs3⟩ := un_row hX (s := s) (fc := fc) hL ho (by omega) hm (c + 1) (s0 + L * L) m 0 0 _ _ al2 (by omega) hr0 List.length_replicate (List.all_eq_true.mpr fun u hu => by rw [List.eq_of_mem_replicate hu]; rfl) (fun j hj _ => by rw [List.getElem?_replicate, if_pos hj]) (un_ok_at hL ho hp hm) hl2
  rw [un_z_rep] at v3
  rw [un_sa] at hs3
  have hr1 : (Hp ++ [(23, vs)])[Hp.length]? = some (23, vs) := by
    rw [List.getElem?_append_right (Nat.le_refl _), Nat.sub_self]
    rfl
  have hF := fHR_new hh (c := (87, L * L, 0)) (o := (23, vs)) (T := T) (x := (g.2.2.1 + 1, g.2.2.2 + L * L)) (fCR_mk2 (k := 23) (by omega) (by decide) v1 v2) hgl t1 t2
  generalize hH2 : Hp ++ [(23, vs)] = H2 at hs3 hr1 hF
  obtain ⟨al4, hl4, hs4⟩ := fSt_mv hX (C := mcX8_unmet) rfl 3 (pc := 131) (L := un_Lf L m one other s Hp.length (.int (Int32.ofNat fc))) (st := []) (f' := (137, (9, .ref Hp.length) :: un_Lf L m one other s Hp.length (.int (Int32.ofNat fc)), [.ref Hp.length])) rfl hl3
  have ta := fSt_op hX (e := (.arraylength, 0, 0, 0)) (fA_260 (pc := 137) rfl) (mq_alen (pc := 137) (al := al4) (st := []) (cs := (c + 1, s0 + L * L)) hr1 (by decide) (by decide))
  rw [v1] at ta
  obtain ⟨al5, hl5, hs5⟩ := fSt_mv hX (C := mcX8_unmet) rfl 3 (pc := 138) (L := (9, .ref Hp.length) :: un_Lf L m one other s Hp.length (.int (Int32.ofNat fc))) (st := [.int (Int32.ofNat (L * L))]) (f' := (143, (11, .int (Int32.ofInt 0)) :: (10, .int (Int32.ofNat (L * L))) :: (9, .ref Hp.length) :: un_Lf L m one other s Hp.length (.int (Int32.ofNat fc)), [])) rfl hl4
  rw [ez] at hl5
  have hl6 : mvL (un_Lc L m one other s Hp.length (L * L) 0 (.int (Int32.ofNat fc))) al5 := un_Lc_of hl5 rfl rfl rfl rfl rfl rfl rfl rfl rfl
  obtain ⟨al6, hl7, hs6⟩ := un_cnt hX (by omega) (c + 1) (s0 + L * L) hr1 v1 v2 (L * L) 0 s al5 (by omega) hl6
  have es : s + un_z (vs.drop 0) = s + (L * L - m) := by
    rw [List.drop_zero]
    omega
  rw [es] at hl7
  refine fGd_st (f' := (178, al6, [], H2, c + 1, s0 + L * L)) (g' := (T, g.2.1 + 1, g.2.2.1 + 1, g.2.2.2 + L * L)) (fSt_trans (hs1 _) (fSt_trans tn (fSt_trans (hs2 _) (fSt_trans hs3 (fSt_trans (hs4 _) (fSt_trans ta (fSt_trans (hs5 _) hs6))))))) ?_ ?_ ?_
  · show c + 1 + g.2.2.1 = c + (g.2.2.1 + 1)
    omega
  · show s0 + L * L + g.2.2.2 = s0 + (g.2.2.2 + L * L)
    omega
  · refine hx ρ b (d + 1 + 1) X K mm jmp hD hX hj iv _ [] _ al6 H2 _ _ hiv (fun j => ?_) hF h
    match j with
    | 0 => exact Or.inl rfl
    | 1 => exact Or.inr (Or.inr (hl7 1 _ rfl))
    | 2 => exact Or.inr (Or.inr (hl7 2 _ rfl))
    | 3 => exact Or.inr (Or.inr (hl7 3 _ rfl))
    | 4 => exact Or.inl rfl
    | 5 => exact Or.inr (Or.inr (hl7 5 _ rfl))
    | 6 => exact Or.inr (Or.inr (hl7 6 _ rfl))
    | 7 => exact Or.inr (Or.inr (hl7 7 _ rfl))
    | j + 8 => exact Or.inl (fl_get_nil j)
