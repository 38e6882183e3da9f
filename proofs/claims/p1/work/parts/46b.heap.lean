theorem fHR_at2 {g : fG} {H : mjH} (h : fHR g H) {r a n D : Nat} (hr : r < g.2.1) (hc : ft_get fD g.1 r = (a, n, D)) (ha : 64 ≤ a) (ha2 : a ≠ 99) : ∃ k vs, H[r]? = some (k, vs) ∧ k + 64 = a ∧ vs.length = n ∧ vs.all mj_isint = true ∧ n ≤ 65536 := by
  obtain ⟨c, h1, h2, h3⟩ := h.2.2 r hr
  rw [hc] at h2 h3
  rw [if_neg (fun q => q.elim (fun q => absurd ha (Nat.not_le.mpr q)) ha2)] at h3
  obtain ⟨k, vs⟩ := c
  exact ⟨k, vs, h1, h3.1, h3.2.1, h3.2.2, h2⟩
theorem fCR_mk2 {k n W : Nat} {vs : List Value} (hn : n ≤ 65536) (hk : k + 64 ≠ 99) (hl : vs.length = n) (ha : vs.all mj_isint = true) : fCR (k + 64, n, W) (k, vs) := by
  refine ⟨hn, ?_⟩
  rw [if_neg (fun q => q.elim (fun q => absurd (show k + 64 < 64 from q) (by omega)) hk)]
  exact ⟨rfl, hl, ha⟩
theorem fk_arr_1 {a : Nat} (h : fk_arr a = true) : (20 ≤ a ∧ a < 30) ∨ (84 ≤ a ∧ a < 94) := by
  unfold fk_arr at h
  rcases fB_t h with ⟨h1, h2⟩ | ⟨h1, h2⟩
  · have h1 := Nat.le_of_ble_eq_true h1
    have h2 := Nat.le_of_ble_eq_true h2
    omega
  · obtain ⟨h2, h3⟩ := fB_1 h2
    have h2 := Nat.le_of_ble_eq_true h2
    have h3 := Nat.le_of_ble_eq_true h3
    omega
theorem fk_or_1 {a k : Nat} (h : fk_or a k = true) : a = k ∨ a = k + 64 := by
  unfold fk_or at h
  rcases fB_t h with ⟨h1, h2⟩ | ⟨h1, h2⟩
  · exact Or.inl (Nat.eq_of_beq_eq_true h1)
  · exact Or.inr (Nat.eq_of_beq_eq_true h2)
theorem fdig_0 (j : Nat) : fdig 0 j = 0 := by
  show (0 >>> (64 + 32 * j)) % 4294967296 = 0
  rw [Nat.zero_shiftRight]
theorem fdigl_0 (j : Nat) : fdigl 0 j = 0 := by
  show (0 >>> (64 + 64 * j)) % 18446744073709551616 = 0
  rw [Nat.zero_shiftRight]
theorem fdec_rep {k n : Nat} {v : Value} (hv : ∀ j, fel k 0 j = v) : fdec k n 0 = List.replicate n v := by
  refine List.ext_getElem? fun j => ?_
  by_cases hj : j < n
  · rw [fdec_at hj, hv, List.getElem?_replicate, if_pos hj]
  · rw [List.getElem?_eq_none (by rw [fdec_len]; omega), List.getElem?_eq_none (by rw [List.length_replicate]; omega)]
theorem fl_len_eq (st : fL) : List.rec (motive := fun _ => Nat) 0 (fun _ _ n => Nat.succ n) st = st.length := by
  induction st with
  | nil => rfl
  | cons a t ih => exact congrArg Nat.succ ih
theorem fl_cat_le (ρ : Nat → Int32) (b : Nat) (st : fL) : mj_cat (st.map (fv ρ b)) ≤ 2 * st.length := by
  induction st with
  | nil => exact Nat.le_refl _
  | cons a t ih =>
    have h := fv_cat_le ρ b a
    have e : mj_cat ((a :: t).map (fv ρ b)) = (fv ρ b a).category + mj_cat (t.map (fv ρ b)) := by
      show (((a :: t).map (fv ρ b)).map fun v => v.category).sum = _
      rw [List.map_cons, List.map_cons, List.sum_cons]
      rfl
    rw [e, List.length_cons]
    omega
theorem fl_len4_1 {ρ : Nat → Int32} {b : Nat} {st : fL} (h : fl_len4 st = true) : mj_cat (st.map (fv ρ b)) ≤ 8 := by
  unfold fl_len4 at h
  have h := Nat.le_of_ble_eq_true h
  rw [fl_len_eq] at h
  have := fl_cat_le ρ b st
  omega
section FGO
variable {X : Nat → mjF → Option mjR} {ρ : Nat → Int32} {b d μ : Nat} {K : fK}
/-- an instruction that the law's script can't change -/
def fNs (i : Instr) : Prop := (∀ k, i ≠ .aload_n k) ∧ i ≠ .arraylength ∧ i ≠ .iaload
theorem fs_g (hX : fRun ρ b μ d X) {e : mjE} {f f' : mjF} {g g' : fG} (he : fAt μ f.1 e) (hn : fNs e.1) (ho : ∀ k call, mj_go mj_P e μ k call f = k f') (hc : f'.2.2.2.2.1 + g.2.2.1 = f.2.2.2.2.1 + g'.2.2.1) (hs : f'.2.2.2.2.2 + g.2.2.2 = f.2.2.2.2.2 + g'.2.2.2) (h : fGd X ρ b K f' g') : fGd X ρ b K f g := by
  obtain ⟨n, R, iv, r, g2, h1, h2, h3, h4, h5, h6, h7⟩ := h
  refine ⟨n + 1, R, iv, r, g2, fun m hm => ?_, h2, h3, h4, h5, by omega, by omega⟩
  obtain ⟨m, rfl⟩ : ∃ q, m = q + 1 := ⟨m - 1, by omega⟩
  exact hX.2.1 m f e R he hn ((ho _ _).trans (h1 m (by omega)))
end FGO
theorem fNs_new {k : Nat} : fNs (.new k) := ⟨(by intro _ q; cases q), (by intro q; cases q), (by intro q; cases q)⟩
theorem fNs_static {k : Nat} : fNs (.invokestatic k) := ⟨(by intro _ q; cases q), (by intro q; cases q), (by intro q; cases q)⟩
theorem fNs_virtual {k : Nat} : fNs (.invokevirtual k) := ⟨(by intro _ q; cases q), (by intro q; cases q), (by intro q; cases q)⟩
theorem fNs_special {k : Nat} : fNs (.invokespecial k) := ⟨(by intro _ q; cases q), (by intro q; cases q), (by intro q; cases q)⟩
theorem fNs_ret : fNs .return_ := ⟨(by intro _ q; cases q), (by intro q; cases q), (by intro q; cases q)⟩
theorem fNs_iret : fNs .ireturn := ⟨(by intro _ q; cases q), (by intro q; cases q), (by intro q; cases q)⟩
theorem fNs_lret : fNs .lreturn := ⟨(by intro _ q; cases q), (by intro q; cases q), (by intro q; cases q)⟩
theorem fNs_fret : fNs .freturn := ⟨(by intro _ q; cases q), (by intro q; cases q), (by intro q; cases q)⟩
theorem fNs_dret : fNs .dreturn := ⟨(by intro _ q; cases q), (by intro q; cases q), (by intro q; cases q)⟩
theorem fNs_aret : fNs .areturn := ⟨(by intro _ q; cases q), (by intro q; cases q), (by intro q; cases q)⟩
theorem fs_sg {μ D pc pc' : Nat} {lp : List Nat} {o x : fX} {e : mjE} (he : fAt μ pc e) (hn : fNs e.1) (hx : fSB μ lp D pc' x)
    (H : ∀ (ρ : Nat → Int32) (b : Nat) (E : fE) (lv st : fL) (g : fG) (al : List (Nat × Value)) (Hp : mjH) (c s : Nat), fIv ρ E.1 → fLR ρ b lv al → fHR g Hp → o E lv st g = true →
      ∃ lv' st' g' al' H' c' s', fLR ρ b lv' al' ∧ fHR g' H' ∧ x E lv' st' g' = true ∧ (∀ k call, mj_go mj_P e μ k call (pc, al, st.map (fv ρ b), Hp, c, s) = k (pc', al', st'.map (fv ρ b), H', c', s')) ∧ c' + g.2.2.1 = c + g'.2.2.1 ∧ s' + g.2.2.2 = s + g'.2.2.2) : fSB μ lp D pc o := by
  intro ρ b d X K n jmp hD hX hj iv lv st g al Hp c s hiv hl hh h
  obtain ⟨lv', st', g', al', H', c', s', h2, h3, h4, h5, h6, h7⟩ := H ρ b (iv, (n, (jmp, K))) lv st g al Hp c s hiv hl hh h
  exact fs_g hX (f := (pc, al, st.map (fv ρ b), Hp, c, s)) he hn h5 h6 h7 (hx ρ b d X K n jmp hD hX hj iv lv' st' g' al' H' c' s' hiv h2 h3 h4)
section FHP2
variable {pc : Nat} {al : List (Nat × Value)} {S st : List Value} {H : mjH} {cs : Nat × Nat}
theorem mq_ast {kd kx n x r : Nat} {i : Int32} {vs : List Value} (hx : H[x]? = some (kx, vs)) : mj_op (.aastore, kd, kx, n) (pc, al, .ref x :: .int i :: .ref r :: st, H, cs) = mj_put kd (pc, al, .ref x :: .int i :: .ref r :: st, H, cs) (.ref x) i r st := by
  unfold mj_op
  dsimp only
  rw [hx]
  dsimp only
  rw [if_pos rfl]
theorem mq_newa {t : ArrayType} {kd a b n N c s : Nat} {v : Value} (ht : mj_arr t = some (kd, v)) (hN : N ≤ 65536) : mj_op (.newarray t, a, b, n) (pc, al, .int (Int32.ofNat N) :: st, H, c, s) = some (pc + 2, al, .ref H.length :: st, H ++ [(kd, List.replicate N v)], c + 1, s + N) := by
  obtain ⟨h1, h2⟩ := fx_toNat (show N < 2147483648 by omega)
  unfold mj_op
  dsimp only
  rw [ht]
  dsimp only
  rw [h2, if_neg (fun q => q.elim h1 (by omega))]
  rfl
theorem mq_anewa {kd k b n N c s : Nat} (hN : N ≤ 65536) : mj_op (.anewarray k, kd, b, n) (pc, al, .int (Int32.ofNat N) :: st, H, c, s) = some (pc + 3, al, .ref H.length :: st, H ++ [(kd, List.replicate N .null)], c + 1, s + N) := by
  obtain ⟨h1, h2⟩ := fx_toNat (show N < 2147483648 by omega)
  unfold mj_op
  dsimp only
  rw [h2, if_neg (fun q => q.elim h1 (by omega))]
  rfl
end FHP2
theorem fx_ast_1 {kd v : Nat} {t : fL} {g : fG} {k : fL → fG → Bool} {Hp : mjH} (h1 : 25 ≤ kd) (h2 : kd < 30) (hv : v ≤ 65535) (h3 : fHR g Hp) (h : fx_ast kd v t g k = true) : ∃ i r m W t2 T, t = .inl i :: .inr (.inl (r + 1)) :: t2 ∧ k t2 (T, g.2) = true ∧ Hp[r]? = some (kd, fdec kd m W) ∧ i < m ∧ m ≤ 65536 ∧ fHR (T, g.2) (Hp.set r (kd, (fdec kd m W).set i (fv_r v))) := by
  unfold fx_ast at h
  obtain ⟨i, t, e9, h9⟩ := fw1_f h
  clear h
  subst e9
  obtain ⟨r, t, a, m, W, e8, hr, hcc, h8⟩ := fwc_1 h9
  clear h9
  subst e8
  obtain ⟨q, h⟩ := fB_1 h8
  have q := Nat.eq_of_beq_eq_true q
  subst q
  obtain ⟨hi, h⟩ := fB_1 h
  have hi : i < m := Nat.le_of_ble_eq_true hi
  obtain ⟨p1, p2, p3⟩ := fHR_at h3 hr hcc (by omega)
  obtain ⟨T, h, t1, t2⟩ := fset_1 h (show r < 256 from Nat.lt_of_lt_of_le hr h3.2.1)
  refine ⟨i, r, m, W, t, T, rfl, h, p1, hi, p2, fHR_set h3 hr ?_ t1 t2⟩
  rw [fdec_set (D' := fput W i v) (fel_putR (by omega) (by omega) (ftr_b h1) (by omega)) (fun j hj => fel_else (by omega) (by omega) hj)]
  exact fCR_mk p2 (by omega) p3
section FHO2
variable {μ D pc : Nat} {lp : List Nat} {x : fX} {a b n : Nat}
theorem fo_alen (he : fAt μ pc (.arraylength, a, b, n)) (hx : fSB μ lp D (pc + 1) x) : fSB μ lp D pc (o_alen x) :=
  fs_s he hx fun ρ b E lv st g al Hp c s g1 g2 g3 h => by
    obtain ⟨r, t, a, m, W, e8, hr, hcc, h9⟩ := fwc_1 h
    clear h
    subst e8
    obtain ⟨q, h⟩ := fB_1 h9
    refine ⟨E.1, lv, .inl m :: t, g, al, Hp, c, s, g1, g2, g3, h, ?_, rfl, rfl⟩
    rcases fk_arr_1 q with q | q
    · obtain ⟨p1, p2, p3⟩ := fHR_at g3 hr hcc (by omega)
      refine (mq_alen p1 q.1 q.2).trans ?_
      rw [fdec_len]
      rfl
    · obtain ⟨k, vs, p1, p2, p3, p4, p5⟩ := fHR_at2 g3 hr hcc (by omega) (by omega)
      refine (mq_alen p1 (by omega) (by omega)).trans ?_
      rw [p3]
      rfl
theorem fo_aastore {kd kx : Nat} (he : fAt μ pc (.aastore, kd, kx, n)) (h1 : 25 ≤ kd) (h2 : kd < 30) (h3 : kx < 30) (hx : fSB μ lp D (pc + 1) x) : fSB μ lp D pc (o_ast kd kx x) :=
  fs_s he hx fun ρ b E lv st g al Hp c s g1 g2 g3 h => by
    obtain ⟨v, t, e9, h9⟩ := fwr_1 h
    clear h
    subst e9
    rcases fB_t h9 with ⟨q, h⟩ | ⟨q, h⟩
    · have q := Nat.eq_of_beq_eq_true q
      subst q
      obtain ⟨i, r, m, W, t2, T, e8, h8, p1, p2, p3, p4⟩ := fx_ast_1 h1 h2 (by omega) g3 h
      subst e8
      exact ⟨E.1, lv, t2, (T, g.2), al, _, c, s, g1, g2, p4, h8, (show _ = mj_put kd (pc, al, .null :: .int (Int32.ofNat i) :: .ref r :: t2.map (fv ρ b), Hp, c, s) .null (Int32.ofNat i) r (t2.map (fv ρ b)) from rfl).trans (mq_put p1 rfl (by rw [fdec_len]; exact p2) (by rw [fdec_len]; exact p3)), rfl, rfl⟩
    · obtain ⟨hv, h⟩ := fB_1 h
      have hv := Nat.le_of_ble_eq_true hv
      obtain ⟨r', t', a, m', W', e8, hr, hcc, h8⟩ := fwc_1 h
      injection e8 with e8 e7
      injection e8 with e8
      injection e8 with e8
      subst e8 e7
      obtain ⟨q2, h⟩ := fB_1 h8
      obtain ⟨i, r, m, W, t2, T, e8, h6, p1, p2, p3, p4⟩ := fx_ast_1 h1 h2 hv g3 h
      subst e8
      have hxk : ∃ vs, Hp[r']? = some (kx, vs) := by
        rcases fk_or_1 q2 with q2 | q2
        · obtain ⟨w1, -, -⟩ := fHR_at g3 hr hcc (by omega)
          rw [q2] at w1
          exact ⟨_, w1⟩
        · obtain ⟨k, vs, w1, w2, -⟩ := fHR_at2 g3 hr hcc (by omega) (by omega)
          have : k = kx := by omega
          rw [this] at w1
          exact ⟨_, w1⟩
      obtain ⟨vs, hxk⟩ := hxk
      exact ⟨E.1, lv, t2, (T, g.2), al, _, c, s, g1, g2, p4, h6, (mq_ast (r := r) (i := Int32.ofNat i) hxk).trans (mq_put p1 rfl (by rw [fdec_len]; exact p2) (by rw [fdec_len]; exact p3)), rfl, rfl⟩
theorem fo_new {k ci m : Nat} (he : fAt μ pc (.new k, 0, ci, m)) (hd : fdec ci m 0 = mj_df ci) (hc : ci < 8) (hm : m = (mj_df ci).length) (hm2 : m ≤ 65536) (hx : fSB μ lp D (pc + 3) x) : fSB μ lp D pc (o_new ci m x) :=
  fs_sg he fNs_new hx fun ρ b E lv st g al Hp c s g1 g2 g3 h => by
    obtain ⟨hl, T, h, t1, t2⟩ := fnew_1 h
    refine ⟨lv, _ :: st, _, al, Hp ++ [(ci, mj_df ci)], c + 1, s + m, g2, fHR_new g3 (c := (ci, m, 0)) ?_ hl t1 t2, h, fun k call => ?_, by show c + 1 + g.2.2.1 = c + (g.2.2.1 + 1); omega, by show s + m + g.2.2.2 = s + (g.2.2.2 + m); omega⟩
    · rw [← hd]
      exact fCR_mk hm2 (by omega) (fun _ => hm)
    · show k (pc + 3, al, .ref Hp.length :: st.map (fv ρ b), _) = k (pc + 3, al, .ref g.2.1 :: st.map (fv ρ b), _)
      rw [g3.1]
theorem fo_newa_ {ln kd : Nat} {e : mjE} {v : Value} (he : fAt μ pc e) (h1 : 8 ≤ kd) (h2 : kd < 64) (hv : ∀ j, fel kd 0 j = v) (ho : ∀ al N st H c s, N ≤ 65536 → mj_op e (pc, al, .int (Int32.ofNat N) :: st, H, c, s) = some (pc + ln, al, .ref H.length :: st, H ++ [(kd, List.replicate N v)], c + 1, s + N)) (hx : fSB μ lp D (pc + ln) x) : fSB μ lp D pc (o_newa kd x) :=
  fs_s he hx fun ρ b E lv st g al Hp c s g1 g2 g3 h => by
    obtain ⟨N, t, e9, h9⟩ := fw1_f h
    clear h
    subst e9
    obtain ⟨hN, h⟩ := fB_1 h9
    have hN := Nat.le_of_ble_eq_true hN
    obtain ⟨hl, T, h, t1, t2⟩ := fnew_1 h
    refine ⟨E.1, lv, _ :: t, _, al, Hp ++ [(kd, List.replicate N v)], c + 1, s + N, g1, g2, fHR_new g3 (c := (kd, N, 0)) ?_ hl t1 t2, h, (ho al N (t.map (fv ρ b)) Hp c s hN).trans ?_, by show c + 1 + g.2.2.1 = c + (g.2.2.1 + 1); omega, by show s + N + g.2.2.2 = s + (g.2.2.2 + N); omega⟩
    · rw [← fdec_rep hv]
      exact fCR_mk hN h2 (fun q => by omega)
    · show _ = some (pc + ln, al, .ref g.2.1 :: t.map (fv ρ b), _)
      rw [g3.1]
theorem fo_newarray {t : ArrayType} {kd : Nat} {v : Value} (he : fAt μ pc (.newarray t, a, b, n)) (ht : mj_arr t = some (kd, v)) (h1 : 8 ≤ kd) (h2 : kd < 64) (hv : ∀ j, fel kd 0 j = v) (hx : fSB μ lp D (pc + 2) x) : fSB μ lp D pc (o_newa kd x) :=
  fo_newa_ he h1 h2 hv (fun al N st H c s hN => mq_newa ht hN) hx
theorem fo_anewarray {k kd : Nat} (he : fAt μ pc (.anewarray k, kd, b, n)) (h1 : 25 ≤ kd) (h2 : kd < 30) (hx : fSB μ lp D (pc + 3) x) : fSB μ lp D pc (o_newa kd x) :=
  fo_newa_ he (by omega) (by omega) (v := .null) (fun j => by rw [fel_ref (by omega) (by omega) (ftr_b h1), fdig_0]; rfl) (fun al N st H c s hN => mq_anewa hN) hx
theorem fel_20 (j : Nat) : fel 20 0 j = .int 0 := by rw [fel_int (by decide) (by decide) (ftr_a (by decide) (by decide)), fdig_0]; rfl
theorem fel_22 (j : Nat) : fel 22 0 j = .int 0 := by rw [fel_int (by decide) (by decide) (ftr_a (by decide) (by decide)), fdig_0]; rfl
theorem fel_23 (j : Nat) : fel 23 0 j = .int 0 := by rw [fel_int (by decide) (by decide) (ftr_a (by decide) (by decide)), fdig_0]; rfl
theorem fel_21 (D j : Nat) : fel 21 D j = .long (Int64.ofNat (fdigl D j)) := by unfold fel; rw [if_pos rfl]
theorem fel_21_0 (j : Nat) : fel 21 0 j = .long 0 := by rw [fel_21, fdigl_0]; rfl
theorem fel_24 (D j : Nat) : fel 24 D j = .double 0 := by unfold fel; rw [if_neg (by decide), if_pos rfl]
theorem fo_laload (he : fAt μ pc (.laload, a, b, n)) (hx : fSB μ lp D (pc + 1) x) : fSB μ lp D pc (o_lld x) :=
  fs_s he hx fun ρ b E lv st g al Hp c s g1 g2 g3 h => by
    obtain ⟨i, t, e9, h9⟩ := fw1_f h
    clear h
    subst e9
    obtain ⟨r, t, a, m, W, e8, hr, hcc, h8⟩ := fwc_1 h9
    clear h9
    subst e8
    obtain ⟨q, h⟩ := fB_1 h8
    have q := Nat.eq_of_beq_eq_true q
    subst q
    obtain ⟨hi, h⟩ := fB_1 h
    have hi := Nat.le_of_ble_eq_true hi
    obtain ⟨p1, p2, p3⟩ := fHR_at g3 hr hcc (by omega)
    refine ⟨E.1, lv, .inr (.inr (.inl (fdigl W i))) :: t, g, al, Hp, c, s, g1, g2, g3, frc_t (k := fun v => x E lv (Sum.inr (Sum.inr (Sum.inl v)) :: t) g) h, ?_, rfl, rfl⟩
    refine (show _ = mj_get 21 (pc, al, .int (Int32.ofNat i) :: .ref r :: t.map (fv ρ b), Hp, c, s) (Int32.ofNat i) r (t.map (fv ρ b)) from rfl).trans ((mq_get p1 rfl hi p2).trans ?_)
    rw [fel_21]
    rfl
theorem fo_lastore (he : fAt μ pc (.lastore, a, b, n)) (hx : fSB μ lp D (pc + 1) x) : fSB μ lp D pc (o_lst x) :=
  fs_s he hx fun ρ b E lv st g al Hp c s g1 g2 g3 h => by
    obtain ⟨v, t, e9, h9⟩ := fwl_f h
    clear h
    subst e9
    obtain ⟨i, t, e8, h8⟩ := fw1_f h9
    clear h9
    subst e8
    obtain ⟨r, t, a, m, W, e7, hr, hcc, h7⟩ := fwc_1 h8
    clear h8
    subst e7
    obtain ⟨q, h⟩ := fB_1 h7
    have q := Nat.eq_of_beq_eq_true q
    subst q
    obtain ⟨hi, h⟩ := fB_1 h
    have hi : i < m := Nat.le_of_ble_eq_true hi
    obtain ⟨p1, p2, p3⟩ := fHR_at g3 hr hcc (by omega)
    obtain ⟨T, h, t1, t2⟩ := fset_1 h (show r < 256 from Nat.lt_of_lt_of_le hr g3.2.1)
    have hvm : Nat.mod v 18446744073709551616 < 18446744073709551616 := Nat.mod_lt _ (by decide)
    refine ⟨E.1, lv, t, (T, g.2), al, Hp.set r (21, (fdec 21 m W).set i (.long (Int64.ofNat v))), c, s, g1, g2, fHR_set g3 hr ?_ t1 t2, h, (show _ = mj_put 21 (pc, al, .long (Int64.ofNat v) :: .int (Int32.ofNat i) :: .ref r :: t.map (fv ρ b), Hp, c, s) (.long (Int64.ofNat v)) (Int32.ofNat i) r (t.map (fv ρ b)) from rfl).trans (mq_put p1 rfl (by rw [fdec_len]; exact hi) (by rw [fdec_len]; exact p2)), rfl, rfl⟩
    rw [fdec_set (D' := fputl W i (Nat.mod v 18446744073709551616)) ((fel_21 _ _).trans (by rw [fdl_same hvm]; exact congrArg Value.long (fn_lmod v))) (fun j hj => by rw [fel_21, fel_21, fdl_else hvm hj])]
    exact fCR_mk p2 (by decide) p3
end FHO2
