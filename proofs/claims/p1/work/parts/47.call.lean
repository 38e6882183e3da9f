/-! ENDS AND CALLS -/
section FEN
variable {X : Nat → mjF → Option mjR} {ρ : Nat → Int32} {b d μ : Nat} {K : fK}
theorem fs_end (hX : fRun ρ b μ d X) {e : mjE} {f : mjF} {g g' : fG} {R : mjR} {iv : fI} {r : fR} (he : fAt μ f.1 e) (hn : fNs e.1) (ho : ∀ k call, mj_go mj_P e μ k call f = some R) (hK : K iv r g' = true) (hiv : fIv ρ iv) (hr : R.1 = fr ρ b r) (hh : fHR g' R.2.1) (hc : R.2.2.1 + g.2.2.1 = f.2.2.2.2.1 + g'.2.2.1) (hs : R.2.2.2 + g.2.2.2 = f.2.2.2.2.2 + g'.2.2.2) : fGd X ρ b K f g := by
  refine ⟨1, R, iv, r, g', fun m hm => ?_, hK, hiv, hr, hh, hc, hs⟩
  obtain ⟨m, rfl⟩ : ∃ q, m = q + 1 := ⟨m - 1, by omega⟩
  exact hX.2.1 m f e R he hn (ho _ _)
end FEN
section FRT
variable {μ D pc : Nat} {lp : List Nat} {a bb n : Nat}
theorem fo_ret (he : fAt μ pc (.return_, a, bb, n)) (hr : (mj_P μ).2.2.1 = none) : fSB μ lp D pc o_ret := by
  intro ρ b d X K m jmp hD hX hj iv lv st g al Hp c s hiv hl hh h
  obtain ⟨e, h⟩ := fnil_1 h
  subst e
  exact fs_end hX (f := (pc, al, [], Hp, c, s)) (R := (.inl none, Hp, c, s)) he fNs_ret (fun k call => if_pos hr) h hiv rfl hh rfl rfl
theorem fo_iret {ty : FieldType} {w : Nat} (he : fAt μ pc (.ireturn, a, bb, n)) (hr : (mj_P μ).2.2.1 = some ty) (hw : ∀ v, v < w → narrow ty (.int (Int32.ofNat v)) = .int (Int32.ofNat v)) : fSB μ lp D pc (o_iret w) := by
  intro ρ b d X K m jmp hD hX hj iv lv st g al Hp c s hiv hl hh h
  obtain ⟨v, t, e9, h9⟩ := fw1_f h
  clear h
  subst e9
  obtain ⟨e, h⟩ := fnil_1 h9
  subst e
  obtain ⟨hv, h⟩ := fB_1 h
  have hv : v < w := Nat.le_of_ble_eq_true hv
  refine fs_end hX (f := (pc, al, [.int (Int32.ofNat v)], Hp, c, s)) (R := (.inl (some (.int (Int32.ofNat v))), Hp, c, s)) he fNs_iret (fun k call => ?_) h hiv rfl hh rfl rfl
  unfold mj_go
  dsimp only
  rw [hr]
  exact if_pos (hw v hv)
theorem fw_int (v : Nat) (_ : v < 4294967296) : narrow .int (.int (Int32.ofNat v)) = .int (Int32.ofNat v) := rfl
theorem fw_bool (v : Nat) (h : v < 2) : narrow .boolean (.int (Int32.ofNat v)) = .int (Int32.ofNat v) := by
  rw [fn_bool]
  have e : Nat.mod v 2 = v := Nat.mod_eq_of_lt h
  rw [e]
theorem fw_char (v : Nat) (h : v < 65536) : narrow .char (.int (Int32.ofNat v)) = .int (Int32.ofNat v) := by
  rw [fn_char]
  have e : Nat.mod v 65536 = v := Nat.mod_eq_of_lt h
  rw [e]
theorem fo_lret (he : fAt μ pc (.lreturn, a, bb, n)) (hr : (mj_P μ).2.2.1 = some .long) : fSB μ lp D pc o_lret := by
  intro ρ b d X K m jmp hD hX hj iv lv st g al Hp c s hiv hl hh h
  obtain ⟨v, t, e9, h9⟩ := fwl_f h
  clear h
  subst e9
  obtain ⟨e, h⟩ := fnil_1 h9
  subst e
  exact fs_end hX (f := (pc, al, [.long (Int64.ofNat v)], Hp, c, s)) (R := (.inl (some (.long (Int64.ofNat v))), Hp, c, s)) he fNs_lret (fun k call => if_pos hr) h hiv rfl hh rfl rfl
theorem fo_dret (he : fAt μ pc (.dreturn, a, bb, n)) (hr : (mj_P μ).2.2.1 = some .double) : fSB μ lp D pc o_dret := by
  intro ρ b d X K m jmp hD hX hj iv lv st g al Hp c s hiv hl hh h
  obtain ⟨t, e9, h9⟩ := fwd_1 h
  clear h
  subst e9
  obtain ⟨e, h⟩ := fnil_1 h9
  subst e
  exact fs_end hX (f := (pc, al, [.double 0], Hp, c, s)) (R := (.inl (some (.double 0)), Hp, c, s)) he fNs_dret (fun k call => if_pos hr) h hiv rfl hh rfl rfl
theorem fo_fret (he : fAt μ pc (.freturn, a, bb, n)) (hr : (mj_P μ).2.2.1 = some .float) : fSB μ lp D pc o_fret := by
  intro ρ b d X K m jmp hD hX hj iv lv st g al Hp c s hiv hl hh h
  obtain ⟨t, e9, h9⟩ := fwd_1 h
  clear h
  subst e9
  obtain ⟨e, h⟩ := fnil_1 h9
  subst e
  exact fs_end hX (f := (pc, al, [.float 0], Hp, c, s)) (R := (.inl (some (.float 0)), Hp, c, s)) he fNs_fret (fun k call => if_pos hr) h hiv rfl hh rfl rfl
theorem fo_aret (he : fAt μ pc (.areturn, a, bb, n)) (hr : mj_isref (mj_P μ).2.2.1 = true) : fSB μ lp D pc o_aret := by
  intro ρ b d X K m jmp hD hX hj iv lv st g al Hp c s hiv hl hh h
  obtain ⟨v, t, e9, h9⟩ := fwr_1 h
  clear h
  subst e9
  obtain ⟨e, h⟩ := fnil_1 h9
  subst e
  refine fs_end hX (f := (pc, al, [fv_r v], Hp, c, s)) (R := (.inl (some (fv_r v)), Hp, c, s)) he fNs_aret (fun k call => ?_) h hiv rfl hh rfl rfl
  cases v with
  | zero => exact if_pos hr
  | succ v => exact if_pos hr
theorem fo_throw {k ex w : Nat} (he : fAt μ pc (.new k, 1, ex, w)) (hh0 : (mj_P μ).2.2.2.2.isEmpty = true) : fSB μ lp D pc (o_throw ex) := by
  intro ρ b d X K m jmp hD hX hj iv lv st g al Hp c s hiv hl hh h
  obtain ⟨h4, h⟩ := fB_1 h
  obtain ⟨hl2, T, h, t1, t2⟩ := fnew_1 h
  refine fs_end hX (f := (pc, al, st.map (fv ρ b), Hp, c, s)) (R := (.inr ex, Hp ++ [(99, [])], c + 1, s + 6)) (r := .inr ex) he fNs_new (fun k call => ?_) h hiv rfl (fHR_new hh (c := (99, 0, 0)) ?_ hl2 t1 t2) (by show c + 1 + g.2.2.1 = c + (g.2.2.1 + 1); omega) (by show s + 6 + g.2.2.2 = s + (g.2.2.2 + 6); omega)
  · unfold mj_go
    dsimp only
    rw [if_neg (by decide), if_pos ⟨hh0, fl_len4_1 h4⟩]
  · refine ⟨by decide, ?_⟩
    rw [if_pos (Or.inr rfl)]
    exact ⟨rfl, fun q => absurd q (by decide)⟩
end FRT
theorem mq_objinit {μ pc k b n r : Nat} {k0 : mjF → Option mjR} {call : Nat → mjF → Option mjR} {al : List (Nat × Value)} {st : List Value} {R : mjH × Nat × Nat} (h : mj_cat st ≤ 8) : mj_go mj_P (.invokespecial k, 5, b, n) μ k0 call (pc, al, .ref r :: st, R) = k0 (pc + 3, al, st, R) := by
  unfold mj_go
  dsimp only
  rw [if_pos rfl]
  exact if_pos h
theorem mq_acopy {μ pc k b n r r' : Nat} {k0 : mjF → Option mjR} {call : Nat → mjF → Option mjR} {al : List (Nat × Value)} {st : List Value} {H H' : mjH} {cs : Nat × Nat} {x y z : Int32} (h : mj_cat st ≤ 8) (hH : mj_cpy H r x r' y z = some H') : mj_go mj_P (.invokestatic k, 6, b, n) μ k0 call (pc, al, .int z :: .int y :: .ref r' :: .int x :: .ref r :: st, H, cs) = k0 (pc + 3, al, st, H', cs) := by
  unfold mj_go
  dsimp only
  rw [if_pos rfl, hH]
  exact if_pos h
section FOB
variable {μ D pc : Nat} {lp : List Nat} {x : fX} {a bb n : Nat}
theorem fo_objinit {k : Nat} (he : fAt μ pc (.invokespecial k, 5, bb, n)) (hx : fSB μ lp D (pc + 3) x) : fSB μ lp D pc (o_objinit x) :=
  fs_sg he fNs_special hx fun ρ b E lv st g al Hp c s g1 g2 g3 h => by
    obtain ⟨v, t, e9, h9⟩ := fwr_1 h
    clear h
    subst e9
    obtain ⟨h1, h⟩ := fB_2 h9
    obtain ⟨h2, h⟩ := fB_1 h
    cases v with
    | zero => cases h1
    | succ v =>
      exact ⟨lv, t, g, al, Hp, c, s, g2, g3, h, fun k call => mq_objinit (fl_len4_1 h2), rfl, rfl⟩
theorem fdec_take {k n D m : Nat} (h : m ≤ n) : (fdec k n D).take m = fdec k m D := by
  refine List.ext_getElem? fun i => ?_
  rw [List.getElem?_take]
  by_cases hi : i < m
  · rw [if_pos hi, fdec_at (by omega), fdec_at hi]
  · rw [if_neg hi, List.getElem?_eq_none (by rw [fdec_len]; omega)]
theorem fdec_int (n D : Nat) : (fdec 20 n D).all mj_isint = true := by
  refine List.all_eq_true.mpr fun v hv => ?_
  unfold fdec at hv
  obtain ⟨j, -, rfl⟩ := List.mem_map.mp hv
  rw [fel_int (by decide) (by decide) (ftr_a (by decide) (by decide))]
  rfl
theorem fdec_cpy {n n' m D D' : Nat} (h1 : m ≤ n) (h2 : m ≤ n') : (fdec 20 n' D').take 0 ++ ((fdec 20 n D).drop 0).take m ++ (fdec 20 n' D').drop (0 + m) = fdec 20 n' (fd_cpy D D' m) := by
  rw [List.take_zero, List.nil_append, List.drop_zero, Nat.zero_add, fdec_take h1]
  refine List.ext_getElem? fun i => ?_
  by_cases hi : i < m
  · rw [List.getElem?_append_left (by rw [fdec_len]; exact hi), fdec_at hi, fdec_at (by omega), fel_int (by decide) (by decide) (ftr_a (by decide) (by decide)), fel_int (by decide) (by decide) (ftr_a (by decide) (by decide)), fd_cpy_at, if_pos hi]
  · rw [List.getElem?_append_right (by rw [fdec_len]; omega), fdec_len, List.getElem?_drop]
    have e : m + (i - m) = i := by omega
    rw [e]
    by_cases hi2 : i < n'
    · rw [fdec_at hi2, fdec_at hi2, fel_int (by decide) (by decide) (ftr_a (by decide) (by decide)), fel_int (by decide) (by decide) (ftr_a (by decide) (by decide)), fd_cpy_at, if_neg hi]
    · rw [List.getElem?_eq_none (by rw [fdec_len]; omega), List.getElem?_eq_none (by rw [fdec_len]; omega)]
theorem mq_cpy {H : mjH} {r r' m : Nat} {v0 v1 : List Value} (h0 : H[r]? = some (20, v0)) (h1 : H[r']? = some (20, v1)) (hm0 : m ≤ v0.length) (hm1 : m ≤ v1.length) (hm : m ≤ 65536) (hi : v0.all mj_isint = true) : mj_cpy H r (Int32.ofNat 0) r' (Int32.ofNat 0) (Int32.ofNat m) = some (H.set r' (20, v1.take 0 ++ (v0.drop 0).take m ++ v1.drop (0 + m))) := by
  obtain ⟨q1, q2⟩ := fx_toNat (show m < 2147483648 by omega)
  obtain ⟨q3, q4⟩ := fx_toNat (show 0 < 2147483648 by omega)
  unfold mj_cpy
  rw [h0, h1]
  show (if Int32.ofNat 0 < 0 ∨ Int32.ofNat 0 < 0 ∨ Int32.ofNat m < 0 ∨ v0.length < (Int32.ofNat 0).toNatClampNeg + (Int32.ofNat m).toNatClampNeg ∨ v1.length < (Int32.ofNat 0).toNatClampNeg + (Int32.ofNat m).toNatClampNeg ∨ ¬ ((v0.drop (Int32.ofNat 0).toNatClampNeg).take (Int32.ofNat m).toNatClampNeg).all mj_isint = true then none
    else some (H.set r' (20, v1.take (Int32.ofNat 0).toNatClampNeg ++ (v0.drop (Int32.ofNat 0).toNatClampNeg).take (Int32.ofNat m).toNatClampNeg ++ v1.drop ((Int32.ofNat 0).toNatClampNeg + (Int32.ofNat m).toNatClampNeg)))) = _
  rw [q2, q4, if_neg]
  refine fun q => ?_
  rcases q with q | q | q | q | q | q
  · exact q3 q
  · exact q3 q
  · exact q1 q
  · omega
  · omega
  · refine q (List.all_eq_true.mpr fun v hv => List.all_eq_true.mp hi v ?_)
    rw [List.drop_zero] at hv
    exact List.mem_of_mem_take hv
theorem fcpy_1 {a n D a' n' D' m : Nat} {k : Nat → Nat → Bool} (h : fcpy a n D a' n' D' m k = true) : m ≤ n ∧ m ≤ n' ∧ a' = 20 ∧ ((a = 20 ∧ k 20 (fd_cpy D D' m) = true) ∨ (a = 84 ∧ k 84 0 = true)) := by
  obtain ⟨h1, h⟩ := fB_1 (show fB (Nat.ble m n) (fB (Nat.ble m n') (fB (Nat.beq a 20) (fB (Nat.beq a' 20) (frc (fd_cpy D D' m) (fun D => k 20 D)) false) (fB (Nat.beq a 84) (fB (Nat.beq a' 20) (k 84 0) false) false)) false) false = true from h)
  obtain ⟨h2, h⟩ := fB_1 h
  refine ⟨Nat.le_of_ble_eq_true h1, Nat.le_of_ble_eq_true h2, ?_⟩
  rcases fB_t h with ⟨h3, h⟩ | ⟨h3, h⟩
  · obtain ⟨h4, h⟩ := fB_1 h
    exact ⟨Nat.eq_of_beq_eq_true h4, Or.inl ⟨Nat.eq_of_beq_eq_true h3, frc_t (k := fun D => k 20 D) h⟩⟩
  · obtain ⟨h4, h⟩ := fB_1 h
    obtain ⟨h5, h⟩ := fB_1 h
    exact ⟨Nat.eq_of_beq_eq_true h5, Or.inr ⟨Nat.eq_of_beq_eq_true h4, h⟩⟩
theorem fo_acopy {k : Nat} (he : fAt μ pc (.invokestatic k, 6, bb, n)) (hx : fSB μ lp D (pc + 3) x) : fSB μ lp D pc (o_acopy x) :=
  fs_sg he fNs_static hx fun ρ b E lv st g al Hp c s g1 g2 g3 h => by
    obtain ⟨dp, m, t, e9, h9⟩ := fw2_f h
    clear h
    subst e9
    obtain ⟨q, h⟩ := fB_1 h9
    have q := Nat.eq_of_beq_eq_true q
    subst q
    obtain ⟨r', t, a', n', D', e8, hr', hc', h8⟩ := fwc_1 h
    clear h h9
    subst e8
    obtain ⟨sp, t, e9, h9⟩ := fw1_f h8
    clear h8
    subst e9
    obtain ⟨q, h⟩ := fB_1 h9
    have q := Nat.eq_of_beq_eq_true q
    subst q
    obtain ⟨r, t, a, n, D, e8, hr, hc, h8⟩ := fwc_1 h
    clear h h9
    subst e8
    obtain ⟨h4, h⟩ := fB_1 h8
    obtain ⟨hm, hm', ha', hd⟩ := fcpy_1 h
    clear h h8
    subst ha'
    obtain ⟨w1, w2, -⟩ := fHR_at g3 hr' hc' (by decide)
    have hr256 : r' < 256 := Nat.lt_of_lt_of_le hr' g3.2.1
    rcases hd with ⟨ha, h⟩ | ⟨ha, h⟩
    · subst ha
      obtain ⟨v1, v2, -⟩ := fHR_at g3 hr hc (by decide)
      obtain ⟨T, h, t1, t2⟩ := fset_1 h hr256
      refine ⟨lv, t, (T, g.2), al, _, c, s, g2, fHR_set g3 hr' (o := (20, fdec 20 n' (fd_cpy D D' m))) (fCR_mk w2 (by decide) (fun q => absurd q (by decide))) t1 t2, h, ?_, rfl, rfl⟩
      exact fun k0 call => mq_acopy (fl_len4_1 h4) ((mq_cpy v1 w1 (by rw [fdec_len]; exact hm) (by rw [fdec_len]; exact hm') (by omega) (fdec_int _ _)).trans (by rw [fdec_cpy hm hm']))
    · subst ha
      obtain ⟨kk, vs, v1, v2, v3, v4, v5⟩ := fHR_at2 g3 hr hc (by decide) (by decide)
      have hk : kk = 20 := by omega
      subst hk
      obtain ⟨T, h, t1, t2⟩ := fset_1 h hr256
      refine ⟨lv, t, (T, g.2), al, _, c, s, g2, fHR_set g3 hr' (o := (20, (fdec 20 n' D').take 0 ++ (vs.drop 0).take m ++ (fdec 20 n' D').drop (0 + m))) ?_ t1 t2, h, ?_, rfl, rfl⟩
      · refine fCR_mk2 (k := 20) w2 (by decide) ?_ ?_
        · rw [List.take_zero, List.nil_append, List.drop_zero, Nat.zero_add, List.length_append, List.length_take, List.length_drop, fdec_len]
          omega
        · refine List.all_eq_true.mpr fun v hv => ?_
          rw [List.take_zero, List.nil_append, List.drop_zero] at hv
          rcases List.mem_append.mp hv with hv | hv
          · exact List.all_eq_true.mp v4 v (List.mem_of_mem_take hv)
          · exact List.all_eq_true.mp (fdec_int n' D') v (List.mem_of_mem_drop hv)
      · exact fun k0 call => mq_acopy (fl_len4_1 h4) (mq_cpy v1 w1 (by omega) (by rw [fdec_len]; exact hm') (by omega) v4)
end FOB
