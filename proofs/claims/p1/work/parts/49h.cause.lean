/-! cause: the reference's method -/
theorem gm_cmplt {x y : Int64} {a b : Int} (hx : x.toInt = a) (hy : y.toInt = b) : lg_cmp x y < 0 ↔ a < b := by
  have d1 : (-1 : Int32) < 0 := by decide
  have d2 : ¬ (1 : Int32) < 0 := by decide
  have d3 : ¬ (0 : Int32) < 0 := by decide
  rcases gm_cmp x y with ⟨h, e⟩ | ⟨h, e⟩ | ⟨h, e⟩
  · rw [e]; exact ⟨fun _ => by omega, fun _ => d1⟩
  · rw [e]; exact ⟨fun q => absurd q d3, fun q => by omega⟩
  · rw [e]; exact ⟨fun q => absurd q d2, fun q => by omega⟩
theorem gm_cmpgt {x y : Int64} {a b : Int} (hx : x.toInt = a) (hy : y.toInt = b) : 0 < lg_cmp x y ↔ b < a := by
  have d1 : ¬ (0 : Int32) < -1 := by decide
  have d2 : (0 : Int32) < 1 := by decide
  have d3 : ¬ (0 : Int32) < 0 := by decide
  rcases gm_cmp x y with ⟨h, e⟩ | ⟨h, e⟩ | ⟨h, e⟩
  · rw [e]; exact ⟨fun q => absurd q d1, fun q => by omega⟩
  · rw [e]; exact ⟨fun q => absurd q d3, fun q => by omega⟩
  · rw [e]; exact ⟨fun _ => by omega, fun _ => d2⟩
theorem fA_172 {pc : Nat} {e : mjE} (h : mj_at mcX8_in pc = some e) : fAt 172 pc e := h
theorem fA_171 {pc : Nat} {e : mjE} (h : mj_at mcX8_fails pc = some e) : fAt 171 pc e := h
theorem fA_212 {pc : Nat} {e : mjE} (h : mj_at mcX8_cause pc = some e) : fAt 212 pc e := h
theorem fR_212 : (mj_P 212).2.2.1 = some .char := rfl
theorem in_to (d : Nat) {v lo hi : Int64} {V L U : Int} (hv : v.toInt = V) (hlo : lo.toInt = L) (hhi : hi.toInt = U) (H : mjH) : (L ≤ V ∧ V ≤ U ∧ fTo (fun m f => mj_run mj_P m (d + 1) 172 f) (0, lv_args 0 [.long v, .long lo, .long hi], [], H, 0, 0) (.inl (some (.int (Int32.ofInt 1))), H, 0, 0)) ∨ (¬ (L ≤ V ∧ V ≤ U) ∧ fTo (fun m f => mj_run mj_P m (d + 1) 172 f) (0, lv_args 0 [.long v, .long lo, .long hi], [], H, 0, 0) (.inl (some (.int (Int32.ofInt 0))), H, 0, 0)) := by
  have hX := fRun_meth (fun _ => 0) 0 172 d (by decide)
  have hno : ∀ al, fTo (fun m f => mj_run mj_P m (d + 1) 172 f) (17, al, [], H, 0, 0) (.inl (some (.int (Int32.ofInt 0))), H, 0, 0) := fun al => by
    refine fTo_op hX (f' := (18, al, [.int (Int32.ofInt 0)], H, 0, 0)) (e := (.iconst 0, 0, 0, 0)) (fA_172 (pc := 17) rfl) rfl ?_
    exact fTo_iret hX (fA_172 (pc := 18) rfl) (show (mj_P 172).2.2.1 = some .boolean from rfl) (fn_bool 0)
  have h0 : lv_args 0 [.long v, .long lo, .long hi] = [(0, .long v), (2, .long lo), (4, .long hi)] := rfl
  rw [h0]
  obtain ⟨al1, hL1, s1⟩ := fSt_mv hX (C := mcX8_in) rfl 3 (pc := 0) (L := [(0, .long v), (2, .long lo), (4, .long hi)]) (st := []) (al := [(0, .long v), (2, .long lo), (4, .long hi)]) (f' := (3, [(0, .long v), (2, .long lo), (4, .long hi)], [.int (lg_cmp v lo)])) rfl (fun i v h => h)
  have k1 := gm_cmplt hv hlo
  by_cases c1 : V < L
  · refine Or.inr ⟨by omega, s1 _ _ ?_⟩
    refine fTo_op hX (f' := (17, al1, [], H, 0, 0)) (e := (.ifCond .lt 14, 0, 0, 0)) (fA_172 (pc := 3) rfl) (mq_ify (k1.mpr c1)) (hno _)
  have s2 := fSt_trans (s1 (H, 0, 0)) (fSt_op hX (f' := (6, al1, [], H, 0, 0)) (e := (.ifCond .lt 14, 0, 0, 0)) (fA_172 (pc := 3) rfl) (mq_ifn (fun q => c1 (k1.mp q))))
  obtain ⟨al2, hL2, s3⟩ := fSt_mv hX (C := mcX8_in) rfl 3 (pc := 6) (L := [(0, .long v), (2, .long lo), (4, .long hi)]) (st := []) (f' := (10, [(0, .long v), (2, .long lo), (4, .long hi)], [.int (lg_cmp v hi)])) rfl hL1
  have s3 := fSt_trans s2 (s3 (H, 0, 0))
  have k2 := gm_cmpgt hv hhi
  by_cases c2 : U < V
  · refine Or.inr ⟨by omega, s3 _ ?_⟩
    refine fTo_op hX (f' := (17, al2, [], H, 0, 0)) (e := (.ifCond .gt 7, 0, 0, 0)) (fA_172 (pc := 10) rfl) (mq_ify (k2.mpr c2)) (hno _)
  refine Or.inl ⟨by omega, by omega, s3 _ ?_⟩
  refine fTo_op hX (f' := (13, al2, [], H, 0, 0)) (e := (.ifCond .gt 7, 0, 0, 0)) (fA_172 (pc := 10) rfl) (mq_ifn (fun q => c2 (k2.mp q))) ?_
  refine fTo_mv hX (C := mcX8_in) rfl 2 (L := [(0, .long v), (2, .long lo), (4, .long hi)]) (pc' := 18) (L' := [(0, .long v), (2, .long lo), (4, .long hi)]) (st' := [.int (Int32.ofInt 1)]) rfl hL2 fun al3 hL3 => ?_
  exact fTo_iret hX (fA_172 (pc := 18) rfl) (show (mj_P 172).2.2.1 = some .boolean from rfl) (fn_bool 1)
/-- the first of its four, the others being 0 -/
theorem fails_1 (d : Nat) {H : mjH} {r : Nat} {vs : List Value} (hr : H[r]? = some (7, vs)) (hn : vs.length = 14) : fTo (fun m f => mj_run mj_P m (d + 1) 171 f) (0, lv_args 0 [.ref r, .int (Int32.ofInt 1), .int (Int32.ofInt 0), .int (Int32.ofInt 0), .int (Int32.ofInt 0)], [], H, 0, 0) (.inl (some (.int (Int32.ofInt 1))), H.set r (7, vs.set 9 (.int (Int32.ofInt 1))), 0, 0) := by
  have hX := fRun_meth (fun _ => 0) 0 171 d (by decide)
  have h0 : lv_args 0 [.ref r, .int (Int32.ofInt 1), .int (Int32.ofInt 0), .int (Int32.ofInt 0), .int (Int32.ofInt 0)] = [(0, .ref r), (1, .int (Int32.ofInt 1)), (2, .int (Int32.ofInt 0)), (3, .int (Int32.ofInt 0)), (4, .int (Int32.ofInt 0))] := rfl
  rw [h0]
  have hlt : r < H.length := fl_some_lt hr
  refine fTo_mv hX (C := mcX8_fails) rfl 2 (L := [(0, .ref r), (1, .int (Int32.ofInt 1))]) (pc' := 2) (L' := [(0, .ref r), (1, .int (Int32.ofInt 1))]) (st' := [.int (Int32.ofInt 1), .ref r]) rfl (mvL_cons rfl (mvL_cons rfl mvL_nil)) fun al1 hL1 => ?_
  refine fTo_op hX (f' := (5, al1, [.ref r], H, 0, 0)) (e := (.ifCond .eq 7, 0, 0, 0)) (fA_171 (pc := 2) rfl) (mq_ifn (by decide)) ?_
  refine fTo_mv hX (C := mcX8_fails) rfl 2 (L := [(0, .ref r), (1, .int (Int32.ofInt 1))]) (pc' := 35) (L' := [(0, .ref r), (1, .int (Int32.ofInt 1))]) (st' := [.int (Int32.ofInt 1), .ref r]) rfl hL1 fun al2 hL2 => ?_
  refine fTo_op hX (e := (.putfield 40, 7, 9, 0)) (fA_171 (pc := 35) rfl) (mq_putf hr (by omega) rfl) ?_
  have hr2 : (H.set r (7, vs.set 9 (.int (Int32.ofInt 1))))[r]? = some (7, vs.set 9 (.int (Int32.ofInt 1))) := List.getElem?_set_self hlt
  have hv : (vs.set 9 (.int (Int32.ofInt 1)))[9]? = some (.int (Int32.ofInt 1)) := List.getElem?_set_self (by omega)
  generalize H.set r (7, vs.set 9 (.int (Int32.ofInt 1))) = H2 at hr2 ⊢
  refine fTo_mv hX (C := mcX8_fails) rfl 1 (L := [(0, .ref r), (1, .int (Int32.ofInt 1))]) (pc' := 39) (L' := [(0, .ref r), (1, .int (Int32.ofInt 1))]) (st' := [.ref r]) rfl hL2 fun al3 hL3 => ?_
  refine fTo_op hX (e := (.getfield 40, 7, 9, 0)) (fA_171 (pc := 39) rfl) (mq_getf hr2 hv) ?_
  refine fTo_op hX (f' := (45, al3, [], H2, 0, 0)) (e := (.ifCond .le 7, 0, 0, 0)) (fA_171 (pc := 42) rfl) (mq_ifn (by decide)) ?_
  refine fTo_mv hX (C := mcX8_fails) rfl 2 (L := [(0, .ref r), (1, .int (Int32.ofInt 1))]) (pc' := 50) (L' := [(0, .ref r), (1, .int (Int32.ofInt 1))]) (st' := [.int (Int32.ofInt 1)]) rfl hL3 fun al4 hL4 => ?_
  exact fTo_iret hX (fA_171 (pc := 50) rfl) (show (mj_P 171).2.2.1 = some .boolean from rfl) (fn_bool 1)
theorem fails_0 (d : Nat) {H : mjH} {r : Nat} {vs : List Value} (hr : H[r]? = some (7, vs)) (hn : vs.length = 14) : fTo (fun m f => mj_run mj_P m (d + 1) 171 f) (0, lv_args 0 [.ref r, .int (Int32.ofInt 0), .int (Int32.ofInt 0), .int (Int32.ofInt 0), .int (Int32.ofInt 0)], [], H, 0, 0) (.inl (some (.int (Int32.ofInt 0))), H.set r (7, vs.set 9 (.int (Int32.ofInt 0))), 0, 0) := by
  have hX := fRun_meth (fun _ => 0) 0 171 d (by decide)
  have h0 : lv_args 0 [.ref r, .int (Int32.ofInt 0), .int (Int32.ofInt 0), .int (Int32.ofInt 0), .int (Int32.ofInt 0)] = [(0, .ref r), (1, .int (Int32.ofInt 0)), (2, .int (Int32.ofInt 0)), (3, .int (Int32.ofInt 0)), (4, .int (Int32.ofInt 0))] := rfl
  rw [h0]
  have hlt : r < H.length := fl_some_lt hr
  refine fTo_mv hX (C := mcX8_fails) rfl 2 (L := [(0, .ref r), (1, .int (Int32.ofInt 0)), (2, .int (Int32.ofInt 0)), (3, .int (Int32.ofInt 0)), (4, .int (Int32.ofInt 0))]) (pc' := 2) (L' := [(0, .ref r), (1, .int (Int32.ofInt 0)), (2, .int (Int32.ofInt 0)), (3, .int (Int32.ofInt 0)), (4, .int (Int32.ofInt 0))]) (st' := [.int (Int32.ofInt 0), .ref r]) rfl (fun i v h => h) fun al1 hL1 => ?_
  refine fTo_op hX (f' := (9, al1, [.ref r], H, 0, 0)) (e := (.ifCond .eq 7, 0, 0, 0)) (fA_171 (pc := 2) rfl) (mq_ify (by decide)) ?_
  refine fTo_mv hX (C := mcX8_fails) rfl 1 (L := [(0, .ref r), (1, .int (Int32.ofInt 0)), (2, .int (Int32.ofInt 0)), (3, .int (Int32.ofInt 0)), (4, .int (Int32.ofInt 0))]) (pc' := 10) (L' := [(0, .ref r), (1, .int (Int32.ofInt 0)), (2, .int (Int32.ofInt 0)), (3, .int (Int32.ofInt 0)), (4, .int (Int32.ofInt 0))]) (st' := [.int (Int32.ofInt 0), .ref r]) rfl hL1 fun al2 hL2 => ?_
  refine fTo_op hX (f' := (17, al2, [.ref r], H, 0, 0)) (e := (.ifCond .eq 7, 0, 0, 0)) (fA_171 (pc := 10) rfl) (mq_ify (by decide)) ?_
  refine fTo_mv hX (C := mcX8_fails) rfl 1 (L := [(0, .ref r), (1, .int (Int32.ofInt 0)), (2, .int (Int32.ofInt 0)), (3, .int (Int32.ofInt 0)), (4, .int (Int32.ofInt 0))]) (pc' := 18) (L' := [(0, .ref r), (1, .int (Int32.ofInt 0)), (2, .int (Int32.ofInt 0)), (3, .int (Int32.ofInt 0)), (4, .int (Int32.ofInt 0))]) (st' := [.int (Int32.ofInt 0), .ref r]) rfl hL2 fun al3 hL3 => ?_
  refine fTo_op hX (f' := (25, al3, [.ref r], H, 0, 0)) (e := (.ifCond .eq 7, 0, 0, 0)) (fA_171 (pc := 18) rfl) (mq_ify (by decide)) ?_
  refine fTo_mv hX (C := mcX8_fails) rfl 1 (L := [(0, .ref r), (1, .int (Int32.ofInt 0)), (2, .int (Int32.ofInt 0)), (3, .int (Int32.ofInt 0)), (4, .int (Int32.ofInt 0))]) (pc' := 27) (L' := [(0, .ref r), (1, .int (Int32.ofInt 0)), (2, .int (Int32.ofInt 0)), (3, .int (Int32.ofInt 0)), (4, .int (Int32.ofInt 0))]) (st' := [.int (Int32.ofInt 0), .ref r]) rfl hL3 fun al4 hL4 => ?_
  refine fTo_op hX (f' := (34, al4, [.ref r], H, 0, 0)) (e := (.ifCond .eq 7, 0, 0, 0)) (fA_171 (pc := 27) rfl) (mq_ify (by decide)) ?_
  refine fTo_op hX (f' := (35, al4, [.int (Int32.ofInt 0), .ref r], H, 0, 0)) (e := (.iconst 0, 0, 0, 0)) (fA_171 (pc := 34) rfl) rfl ?_
  refine fTo_op hX (e := (.putfield 40, 7, 9, 0)) (fA_171 (pc := 35) rfl) (mq_putf hr (by omega) rfl) ?_
  have hr2 : (H.set r (7, vs.set 9 (.int (Int32.ofInt 0))))[r]? = some (7, vs.set 9 (.int (Int32.ofInt 0))) := List.getElem?_set_self hlt
  have hv : (vs.set 9 (.int (Int32.ofInt 0)))[9]? = some (.int (Int32.ofInt 0)) := List.getElem?_set_self (by omega)
  generalize H.set r (7, vs.set 9 (.int (Int32.ofInt 0))) = H2 at hr2 ⊢
  refine fTo_mv hX (C := mcX8_fails) rfl 1 (L := [(0, .ref r), (1, .int (Int32.ofInt 0)), (2, .int (Int32.ofInt 0)), (3, .int (Int32.ofInt 0)), (4, .int (Int32.ofInt 0))]) (pc' := 39) (L' := [(0, .ref r), (1, .int (Int32.ofInt 0)), (2, .int (Int32.ofInt 0)), (3, .int (Int32.ofInt 0)), (4, .int (Int32.ofInt 0))]) (st' := [.ref r]) rfl hL4 fun al5 hL5 => ?_
  refine fTo_op hX (e := (.getfield 40, 7, 9, 0)) (fA_171 (pc := 39) rfl) (mq_getf hr2 hv) ?_
  refine fTo_op hX (f' := (49, al5, [], H2, 0, 0)) (e := (.ifCond .le 7, 0, 0, 0)) (fA_171 (pc := 42) rfl) (mq_ify (by decide)) ?_
  refine fTo_op hX (f' := (50, al5, [.int (Int32.ofInt 0)], H2, 0, 0)) (e := (.iconst 0, 0, 0, 0)) (fA_171 (pc := 49) rfl) rfl ?_
  exact fTo_iret hX (fA_171 (pc := 50) rfl) (show (mj_P 171).2.2.1 = some .boolean from rfl) (fn_bool 0)
