/-- a call at e, where its instruction comes to mj_inv -/
def fSC (μ : Nat) (lp : List Nat) (D pc : Nat) (e : mjE) (o : fX) : Prop := ∀ (ρ : Nat → Int32) (b d : Nat) (X : Nat → mjF → Option mjR) (K : fK) (n : Nat) (jmp : fJ), D ≤ d → fRun ρ b μ d X → (∀ i q, lp[i]? = some q → fS X ρ b K q (jmp i)) →
  ∀ iv lv st g al H c s, fIv ρ iv → fLR ρ b lv al → fHR g H → (∀ k call, mj_go mj_P e μ k call (pc, al, st.map (fv ρ b), H, c, s) = mj_inv mj_P e μ k call (pc, al, st.map (fv ρ b), H, c, s) (st.map (fv ρ b))) → o (iv, (n, (jmp, K))) lv st g = true → fGd X ρ b K (pc, al, st.map (fv ρ b), H, c, s) g
section FCL
variable {μ D pc D' : Nat} {lp : List Nat} {e : mjE} {m : fM} {ds : List Bool} {fill : fL} {nx : fX}
theorem fs_backv {X : Nat → mjF → Option mjR} {ρ : Nat → Int32} {b d : Nat} {K : fK} {n : Nat} {jmp : fJ} {thr : Bool} {C : mjC} {hh : List (Nat × Nat × Nat × Nat)} (hX : fRun ρ b μ d X) (hD : D ≤ d) (hj : ∀ i q, lp[i]? = some q → fS X ρ b K q (jmp i)) (hx : fSB μ lp D (pc + 3) nx) {v : Option fV} {iv : fI} {lv t : fL} {g' : fG} {al : List (Nat × Value)} {H' : mjH} {S : List Value} {Hp : mjH} {c s c1 s1 : Nat} {g : fG}
    (hiv : fIv ρ iv) (hl : fLR ρ b lv al) (hh' : fHR g' H') (h : Option.rec (motive := fun _ => Bool) (nx (iv, (n, (jmp, K))) lv t g') (fun v => nx (iv, (n, (jmp, K))) lv (v :: t) g') v = true) (hc : c1 + g.2.2.1 = g'.2.2.1) (hs : s1 + g.2.2.2 = g'.2.2.2) :
    ∃ n0 R iv2 r2 g2, (∀ m, n0 ≤ m → mj_back thr C hh (X m) (pc, al, S, Hp, c, s) (t.map (fv ρ b)) (some (.inl (v.map (fv ρ b)), H', c1, s1)) = some R) ∧ K iv2 r2 g2 = true ∧ fIv ρ iv2 ∧ R.1 = fr ρ b r2 ∧ fHR g2 R.2.1 ∧ R.2.2.1 + g.2.2.1 = c + g2.2.2.1 ∧ R.2.2.2 + g.2.2.2 = s + g2.2.2.2 := by
  cases v with
  | none =>
    obtain ⟨n0, R, iv2, r2, g2, z1, z2, z3, z4, z5, z6, z7⟩ := hx ρ b d X K n jmp hD hX hj iv lv t g' al H' (c + c1) (s + s1) hiv hl hh' h
    have z6 : R.2.2.1 + g'.2.2.1 = (c + c1) + g2.2.2.1 := z6
    have z7 : R.2.2.2 + g'.2.2.2 = (s + s1) + g2.2.2.2 := z7
    exact ⟨n0, R, iv2, r2, g2, fun m hm => z1 m hm, z2, z3, z4, z5, by omega, by omega⟩
  | some v =>
    obtain ⟨n0, R, iv2, r2, g2, z1, z2, z3, z4, z5, z6, z7⟩ := hx ρ b d X K n jmp hD hX hj iv lv (v :: t) g' al H' (c + c1) (s + s1) hiv hl hh' h
    have z6 : R.2.2.1 + g'.2.2.1 = (c + c1) + g2.2.2.1 := z6
    have z7 : R.2.2.2 + g'.2.2.2 = (s + s1) + g2.2.2.2 := z7
    exact ⟨n0, R, iv2, r2, g2, fun m hm => z1 m hm, z2, z3, z4, z5, by omega, by omega⟩
theorem fo_call (he : fAt μ pc e) (hn : fNs e.1) (hm : fSM e.2.2.1 D' m) (hD' : D' + 1 ≤ D) (hfl : fFil fill) (h1 : (mj_P e.2.2.1).2.1 = ds.length) (h3 : fl_ds ds ≤ mj_mx.getD e.2.2.1 0)
    (hthr : (decide (e.2.1 ≤ 1) && (mj_P e.2.2.1).2.2.2.2.isEmpty) = true) (hh0 : (mj_P μ).2.2.2.2.isEmpty = true) (hx : fSB μ lp D (pc + 3) nx) : fSC μ lp D pc e (o_call m ds fill nx) := by
  intro ρ b d X K n jmp hD hX hj iv lv st g al H c s hiv hl hh hgo h
  refine fs_inv (back := fun E lv t g r => fback nx E lv t g (fun x => fe_K E (Prod.fst E) (Sum.inr x) g) r) hX hD hD' he hn hm hfl h1 h3 hgo hiv hh h ?_
  intro iv' t g' r H' c1 s1 w1 w2 w3 w4 w5
  cases r with
  | inl v => exact fs_backv (D := D) (lp := lp) hX hD hj hx w1 hl w2 w3 w4 w5
  | inr x =>
    have w3 : K iv' (Sum.inr x) g' = true := w3
    refine ⟨0, (.inr x, H', c + c1, s + s1), iv', .inr x, g', fun m _ => ?_, w3, w1, rfl, w2, by show c + c1 + g.2.2.1 = _; omega, by show s + s1 + g.2.2.2 = _; omega⟩
    rw [hthr]
    exact mj_back_x hh0
theorem fo_callH {hs : List (Nat × Nat × fX)} (he : fAt μ pc e) (hn : fNs e.1) (hm : fSM e.2.2.1 D' m) (hD' : D' + 1 ≤ D) (hfl : fFil fill) (h1 : (mj_P e.2.2.1).2.1 = ds.length) (h3 : fl_ds ds ≤ mj_mx.getD e.2.2.1 0)
    (hthr : hs = [] ∨ (decide (e.2.1 ≤ 1) && (mj_P e.2.2.1).2.2.2.2.isEmpty) = true) (hhs : fHd μ lp D pc hs) (hx : fSB μ lp D (pc + 3) nx) : fSC μ lp D pc e (o_callH m ds fill hs nx) := by
  intro ρ b d X K n jmp hD hX hj iv lv st g al H c s hiv hl hh hgo h
  refine fs_inv (back := fun E lv t g r => fback nx E lv t g (fun x => ff_find hs x (fun i tg => fl_set i fF fF lv (fun lv => tg E lv [] g))) r) hX hD hD' he hn hm hfl h1 h3 hgo hiv hh h ?_
  intro iv' t g' r H' c1 s1 w1 w2 w3 w4 w5
  cases r with
  | inl v => exact fs_backv (D := D) (lp := lp) hX hD hj hx w1 hl w2 w3 w4 w5
  | inr x =>
    obtain ⟨i, tg, z1, z2⟩ := ff_find_1 (show ff_find hs x (fun i tg => fl_set i fF fF lv (fun lv => tg (iv', (n, (jmp, K))) lv [] g')) = true from w3)
    have hthr : (decide (e.2.1 ≤ 1) && (mj_P e.2.2.1).2.2.2.2.isEmpty) = true := hthr.resolve_left (fun q => by rw [q] at z1; cases z1)
    obtain ⟨lv', y1, y2, y3⟩ := fl_set_1 i fF fF lv _ z2
    obtain ⟨q, pcT, e', u1, u2, u3, u4⟩ := hhs _ z1
    have hl' : fLR ρ b lv' (mj_rm1 i al) := fl_rm hl y2 y3
    obtain ⟨n0, R, iv2, r2, g2, x1, x2, x3, x4, x5, x6, x7⟩ := u4 ρ b d X K n jmp hD hX hj iv' lv' [] g' (mj_rm1 i al) H' (c + c1) (s + s1) w1 hl' w2 y1
    have x6 : R.2.2.1 + g'.2.2.1 = (c + c1) + g2.2.2.1 := x6
    have x7 : R.2.2.2 + g'.2.2.2 = (s + s1) + g2.2.2.2 := x7
    refine ⟨n0, R, iv2, r2, g2, fun m hm => ?_, x2, x3, x4, x5, by omega, by omega⟩
    rw [hthr]
    refine (mj_back_h (f := (pc, al, st.map (fv ρ b), H, c, s)) u1).trans ?_
    rcases u3 with ⟨i', v1, v2, v3⟩ | ⟨v1, v3⟩
    · have v2 : (i' : Nat) = i := v2
      refine (mj_hand_n u2 v1).trans ?_
      rw [v2, ← v3]
      exact x1 m hm
    · refine (mj_hand_w u2 v1).trans ?_
      rw [← v3]
      exact x1 m hm
theorem mq_stat {k ea y nn pc : Nat} {k0 : mjF → Option mjR} {call : Nat → mjF → Option mjR} {al : List (Nat × Value)} {st : List Value} {R : mjH × Nat × Nat} (h : ea ≠ 6) : mj_go mj_P (.invokestatic k, ea, y, nn) μ k0 call (pc, al, st, R) = mj_inv mj_P (.invokestatic k, ea, y, nn) μ k0 call (pc, al, st, R) st := by
  unfold mj_go
  dsimp only
  exact if_neg h
theorem mq_virt {k ea y kd pc r : Nat} {k0 : mjF → Option mjR} {call : Nat → mjF → Option mjR} {al : List (Nat × Value)} {st vs : List Value} {H : mjH} {cs : Nat × Nat} (h : st[(mj_P y).2.1 - 1]? = some (.ref r)) (hr : H[r]? = some (kd, vs)) : mj_go mj_P (.invokevirtual k, ea, y, kd) μ k0 call (pc, al, st, H, cs) = mj_inv mj_P (.invokevirtual k, ea, y, kd) μ k0 call (pc, al, st, H, cs) st := by
  unfold mj_go
  dsimp only
  rw [h]
  dsimp only
  rw [hr]
  dsimp only
  exact if_pos rfl
theorem mq_spec {k ea y nn pc r : Nat} {k0 : mjF → Option mjR} {call : Nat → mjF → Option mjR} {al : List (Nat × Value)} {st : List Value} {R : mjH × Nat × Nat} (hea : ea ≠ 5) (h : st[(mj_P y).2.1 - 1]? = some (.ref r)) : mj_go mj_P (.invokespecial k, ea, y, nn) μ k0 call (pc, al, st, R) = mj_inv mj_P (.invokespecial k, ea, y, nn) μ k0 call (pc, al, st, R) st := by
  unfold mj_go
  dsimp only
  rw [if_neg hea, h]
theorem fl_get_at {k : Nat} {v : fV} (hv : v ≠ fF) : ∀ {st : fL}, fl_get k st = v → st[k]? = some v := by
  induction k with
  | zero =>
    intro st h
    cases st with
    | nil => exact absurd (h.symm.trans (fl_get_nil 0)) hv
    | cons a t => exact congrArg some h
  | succ k ih =>
    intro st h
    cases st with
    | nil => exact absurd (h.symm.trans (fl_get_nil (k + 1))) hv
    | cons a t => exact ih (show fl_get k t = v from h)
theorem fl_nth_1 {k : Nat} {st : fL} {c : Nat → Bool} (h : fl_nth k st c = true) : ∃ r, st[k]? = some (.inr (.inl (r + 1))) ∧ c r = true := by
  unfold fl_nth at h
  generalize hv : fl_get k st = v at h
  cases v with
  | inl n => cases h
  | inr q =>
    cases q with
    | inr q => cases h
    | inl r =>
      cases r with
      | zero => cases h
      | succ r => exact ⟨r, fl_get_at (by intro q; cases q) hv, h⟩
theorem fo_static {k ea y nn : Nat} {o : fX} (hea : ea ≠ 6) (ho : fSC μ lp D pc (.invokestatic k, ea, y, nn) o) : fSB μ lp D pc o :=
  fun ρ b d X K n jmp hD hX hj iv lv st g al H c s hiv hl hh h => ho ρ b d X K n jmp hD hX hj iv lv st g al H c s hiv hl hh (fun _ _ => mq_stat hea) h
theorem fo_virtual {k ea y kd n : Nat} {o : fX} (hk : kd < 64) (hn : (mj_P y).2.1 = n + 1) (ho : fSC μ lp D pc (.invokevirtual k, ea, y, kd) o) : fSB μ lp D pc (o_recV kd n o) := by
  intro ρ b d X K n' jmp hD hX hj iv lv st g al H c s hiv hl hh h
  obtain ⟨r, h1, h2⟩ := fl_nth_1 h
  obtain ⟨h3, h4⟩ := fB_1 h2
  obtain ⟨h5, h6⟩ := fB_1 h4
  have h3 : r < g.2.1 := Nat.le_of_ble_eq_true h3
  have h5 := Nat.eq_of_beq_eq_true h5
  have h5 : (ft_get fD g.1 r).1 = kd := h5
  have hc : ft_get fD g.1 r = (kd, (ft_get fD g.1 r).2.1, (ft_get fD g.1 r).2.2) := by rw [← h5]
  obtain ⟨p1, -, -⟩ := fHR_at hh h3 hc hk
  have hs : (st.map (fv ρ b))[(mj_P y).2.1 - 1]? = some (.ref r) := by
    rw [hn, Nat.add_sub_cancel, List.getElem?_map, h1]
    rfl
  exact ho ρ b d X K n' jmp hD hX hj iv lv st g al H c s hiv hl hh (fun _ _ => mq_virt hs p1) h6
theorem fo_special {k ea y nn n : Nat} {o : fX} (hea : ea ≠ 5) (hn : (mj_P y).2.1 = n + 1) (ho : fSC μ lp D pc (.invokespecial k, ea, y, nn) o) : fSB μ lp D pc (o_recI n o) := by
  intro ρ b d X K n' jmp hD hX hj iv lv st g al H c s hiv hl hh h
  obtain ⟨r, h1, h2⟩ := fl_nth_1 h
  have hs : (st.map (fv ρ b))[(mj_P y).2.1 - 1]? = some (.ref r) := by
    rw [hn, Nat.add_sub_cancel, List.getElem?_map, h1]
    rfl
  exact ho ρ b d X K n' jmp hD hX hj iv lv st g al H c s hiv hl hh (fun _ _ => mq_spec hea hs) h2
end FCL
theorem fHd_nil {μ D pc : Nat} {lp : List Nat} : fHd μ lp D pc [] := fun a h => by cases h
theorem fHd_n {μ D pc E : Nat} {lp : List Nat} {hs : List (Nat × Nat × fX)} {tg : fX} {q : Nat × Nat × Nat × Nat} {e' : mjE} {i : Fin 4} (h1 : (mj_P μ).2.2.2.2.find? (fun x => decide (x.1 ≤ pc ∧ pc < x.2.1 ∧ x.2.2.2 = E)) = some q) (h2 : mj_at (mj_P μ).2.2.2.1 q.2.2.1 = some e') (h3 : e'.1 = .astore_n i) (h4 : fSB μ lp D (q.2.2.1 + 1) tg) (h : fHd μ lp D pc hs) : fHd μ lp D pc ((E, (i : Nat), tg) :: hs) := by
  intro a ha
  rcases List.mem_cons.mp ha with rfl | ha
  · exact ⟨q, _, e', h1, h2, Or.inl ⟨i, h3, rfl, rfl⟩, h4⟩
  · exact h a ha
theorem fHd_w {μ D pc E i : Nat} {lp : List Nat} {hs : List (Nat × Nat × fX)} {tg : fX} {q : Nat × Nat × Nat × Nat} {e' : mjE} (h1 : (mj_P μ).2.2.2.2.find? (fun x => decide (x.1 ≤ pc ∧ pc < x.2.1 ∧ x.2.2.2 = E)) = some q) (h2 : mj_at (mj_P μ).2.2.2.1 q.2.2.1 = some e') (h3 : e'.1 = .astore i) (h4 : fSB μ lp D (q.2.2.1 + 2) tg) (h : fHd μ lp D pc hs) : fHd μ lp D pc ((E, i, tg) :: hs) := by
  intro a ha
  rcases List.mem_cons.mp ha with rfl | ha
  · exact ⟨q, _, e', h1, h2, Or.inr ⟨h3, rfl⟩, h4⟩
  · exact h a ha
/-! METHODS -/
theorem fRun_meth (ρ : Nat → Int32) (b μ d : Nat) (hμ : μ ≠ 329) : fRun ρ b μ d (fun m f => mj_run mj_P m (d + 1) μ f) := by
  refine ⟨fun m f e f' R he ho h => ?_, fun m f e R he hn h => ?_, fun h => absurd h hμ⟩
  · show mj_run mj_P (m + 1) (d + 1) μ f = some R
    simp only [mj_run]
    rw [he]
    exact (mq_nsp ho).trans h
  · show mj_run mj_P (m + 1) (d + 1) μ f = some R
    simp only [mj_run]
    rw [he]
    exact h
theorem fx_nth_at {i : Nat} {x : fX} : ∀ {C : List fX}, C[i]? = some x → fx_nth i C = x := by
  induction i with
  | zero =>
    intro C h
    cases C with
    | nil => cases h
    | cons a t => exact Option.some.inj h
  | succ i ih =>
    intro C h
    cases C with
    | nil => cases h
    | cons a t => exact ih (show t[i]? = some x from h)
theorem fs_loop {X : Nat → mjF → Option mjR} {ρ : Nat → Int32} {b d μ D : Nat} {K : fK} {lp : List Nat} {C : List fX} (hX : fRun ρ b μ d X) (hD : D ≤ d) (hC : ∀ (i q : Nat), lp[i]? = some q → ∃ x : fX, C[i]? = some x ∧ fSB μ lp D q x) : ∀ (n i q : Nat), lp[i]? = some q → fS X ρ b K q (f_loop C K n i)
  | 0, i, q, hq => fun iv lv st g al H c s h1 h2 h3 h => by cases h
  | n + 1, i, q, hq => by
    obtain ⟨x, hx, hS⟩ := hC i q hq
    intro iv lv st g al H c s h1 h2 h3 h
    have h : fx_nth i C (iv, (n, (f_loop C K n, K))) lv st g = true := h
    rw [fx_nth_at hx] at h
    exact hS ρ b d X K n (f_loop C K n) hD hX (fun i q hq => fs_loop hX hD hC n i q hq) iv lv st g al H c s h1 h2 h3 h
theorem fs_meth {μ D : Nat} {lp : List Nat} {C : List fX} (hμ : μ ≠ 329) (h0 : lp[0]? = some 0) (hC : ∀ (i q : Nat), lp[i]? = some q → ∃ x : fX, C[i]? = some x ∧ fSB μ lp D q x) : fSM μ D (f_meth C) :=
  fun ρ b d hD n K iv lv g al H h1 h2 h3 h => fs_loop (b := b) (fRun_meth ρ b μ d hμ) hD hC n 0 0 h0 iv lv [] g al H 0 0 h1 h2 h3 h
/-- the heads, one by one -/
def fHs (μ : Nat) (lp : List Nat) (D : Nat) : List Nat → List fX → Prop
  | [], _ => True
  | q :: qs, x :: xs => fSB μ lp D q x ∧ fHs μ lp D qs xs
  | _ :: _, [] => False
theorem fHs_ok {μ D : Nat} {lp : List Nat} : ∀ {qs : List Nat} {xs : List fX}, fHs μ lp D qs xs → ∀ (i q : Nat), qs[i]? = some q → ∃ x : fX, xs[i]? = some x ∧ fSB μ lp D q x
  | [], _, _, i, q, hq => by cases hq
  | q0 :: qs, x :: xs, h, i, q, hq => by
    cases i with
    | zero =>
      cases hq
      exact ⟨x, rfl, h.1⟩
    | succ i => exact fHs_ok h.2 i q hq
  | _ :: _, [], h, _, _, _ => by cases h
theorem fs_methH {μ D : Nat} {lp : List Nat} {C : List fX} (hμ : μ ≠ 329) (h0 : lp[0]? = some 0) (hC : fHs μ lp D lp C) : fSM μ D (f_meth C) := fs_meth hμ h0 (fHs_ok hC)
