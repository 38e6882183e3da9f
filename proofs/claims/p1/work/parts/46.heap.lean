/-! THE OPS ON THE HEAP -/
theorem fx_toNat {i : Nat} (h : i < 2147483648) : ¬ (Int32.ofNat i < 0) ∧ (Int32.ofNat i).toNatClampNeg = i := by
  have e : (Int32.ofNat i).toInt = (i : Int) := by rw [fn_int, Nat.mod_eq_of_lt (by omega), if_pos h]
  refine ⟨?_, ?_⟩
  · rw [Int32.lt_iff_toInt_lt, e]
    have : (0 : Int32).toInt = 0 := rfl
    omega
  · show (Int32.ofNat i).toInt.toNat = i
    rw [e]
    rfl
theorem fel_int {k D j : Nat} (h1 : k ≠ 21) (h2 : k ≠ 24) (ht : ftr k j = false) : fel k D j = .int (Int32.ofNat (fdig D j)) := by
  unfold fel
  rw [if_neg h1, if_neg h2, ht, if_neg (by decide)]
theorem fel_ref {k D j : Nat} (h1 : k ≠ 21) (h2 : k ≠ 24) (ht : ftr k j = true) : fel k D j = fv_r (fdig D j) := by
  unfold fel
  rw [if_neg h1, if_neg h2, if_pos ht]
theorem fel_else {k D i j v : Nat} (h1 : k ≠ 21) (hv : v < 4294967296) (hij : i ≠ j) : fel k (fput D j v) i = fel k D i := by
  unfold fel
  rw [if_neg h1, if_neg h1, fd_else hv hij]
theorem fel_putI {k D j v : Nat} (h1 : k ≠ 21) (h2 : k ≠ 24) (ht : ftr k j = false) (hv : v < 4294967296) : fel k (fput D j v) j = .int (Int32.ofNat v) := by
  rw [fel_int h1 h2 ht, fd_same hv]
theorem fel_putR {k D j v : Nat} (h1 : k ≠ 21) (h2 : k ≠ 24) (ht : ftr k j = true) (hv : v < 4294967296) : fel k (fput D j v) j = fv_r v := by
  rw [fel_ref h1 h2 ht, fd_same hv]
theorem ftr_i {k j : Nat} {x : Int32} (hk : k < 8) (hj : (mj_df k)[j]? = some (.int x)) : ftr k j = false := by
  unfold ftr
  rw [if_pos hk, hj]
theorem ftr_r {k j : Nat} (hk : k < 8) (hj : (mj_df k)[j]? = some .null) : ftr k j = true := by
  unfold ftr
  rw [if_pos hk, hj]
theorem ftr_a {k j : Nat} (h1 : 8 ≤ k) (h2 : k < 25) : ftr k j = false := by
  unfold ftr
  rw [if_neg (by omega), decide_eq_false (by omega)]
theorem ftr_b {k j : Nat} (h2 : 25 ≤ k) : ftr k j = true := by
  unfold ftr
  rw [if_neg (by omega), decide_eq_true h2]
theorem fl_some_lt {α : Type} {l : List α} {j : Nat} {x : α} (h : l[j]? = some x) : j < l.length := (List.getElem?_eq_some_iff.mp h).1
theorem fCR_mk {a n W : Nat} (hn : n ≤ 65536) (ha : a < 64) (h8 : a < 8 → n = (mj_df a).length) : fCR (a, n, W) (a, fdec a n W) := by
  refine ⟨hn, ?_⟩
  rw [if_pos (Or.inl ha)]
  exact ⟨rfl, h8⟩
section FHP
variable {pc : Nat} {al : List (Nat × Value)} {S st : List Value} {H : mjH} {cs : Nat × Nat}
theorem mq_getf {k ci j n r : Nat} {vs : List Value} {v : Value} (hr : H[r]? = some (ci, vs)) (hv : vs[j]? = some v) : mj_op (.getfield k, ci, j, n) (pc, al, .ref r :: st, H, cs) = some (pc + 3, al, v :: st, H, cs) := by
  unfold mj_op
  dsimp only
  rw [hr]
  dsimp only
  rw [if_pos rfl, hv]
  rfl
theorem mq_putf {k ci j n r : Nat} {vs : List Value} {v : Value} (hr : H[r]? = some (ci, vs)) (hj : j < vs.length) (hv : mj_fit n v = true) : mj_op (.putfield k, ci, j, n) (pc, al, v :: .ref r :: st, H, cs) = some (pc + 3, al, st, H.set r (ci, vs.set j v), cs) := by
  unfold mj_op
  dsimp only
  rw [hr]
  dsimp only
  rw [if_pos ⟨rfl, hj, hv⟩]
theorem mq_alen {a b n r k : Nat} {vs : List Value} (hr : H[r]? = some (k, vs)) (h1 : 20 ≤ k) (h2 : k < 30) : mj_op (.arraylength, a, b, n) (pc, al, .ref r :: st, H, cs) = some (pc + 1, al, .int (Int32.ofNat vs.length) :: st, H, cs) := by
  unfold mj_op
  dsimp only
  rw [hr]
  dsimp only
  rw [if_pos ⟨h1, h2⟩]
  rfl
theorem mq_get {t r i a n W : Nat} (hr : H[r]? = some (a, fdec a n W)) (ht : a = t) (hi : i < n) (hn : n ≤ 65536) : mj_get t (pc, al, S, H, cs) (Int32.ofNat i) r st = some (pc + 1, al, fel a W i :: st, H, cs) := by
  obtain ⟨h1, h2⟩ := fx_toNat (show i < 2147483648 by omega)
  have hx : mj_ix (Int32.ofNat i) (fdec a n W) = some i := by
    unfold mj_ix
    rw [fdec_len, h2, if_neg (fun q => q.elim h1 (by omega))]
  unfold mj_get
  dsimp only
  rw [hr]
  dsimp only
  rw [if_pos ht, hx]
  dsimp only
  rw [fdec_at hi]
  rfl
theorem mq_put {t r i a : Nat} {vs : List Value} {v : Value} (hr : H[r]? = some (a, vs)) (ht : a = t) (hi : i < vs.length) (hn : vs.length ≤ 65536) : mj_put t (pc, al, S, H, cs) v (Int32.ofNat i) r st = some (pc + 1, al, st, H.set r (a, vs.set i v), cs) := by
  obtain ⟨h1, h2⟩ := fx_toNat (show i < 2147483648 by omega)
  have hx : mj_ix (Int32.ofNat i) vs = some i := by
    unfold mj_ix
    rw [h2, if_neg (fun q => q.elim h1 (by omega))]
  unfold mj_put
  dsimp only
  rw [hr]
  dsimp only
  rw [if_pos ht, hx]
end FHP
section FHO
variable {μ D pc : Nat} {lp : List Nat} {x : fX} {n : Nat}
theorem fo_geti {k ci j : Nat} (he : fAt μ pc (.getfield k, ci, j, n)) (hc : ci < 8) (hj : (mj_df ci)[j]? = some (.int 0)) (hx : fSB μ lp D (pc + 3) x) : fSB μ lp D pc (o_geti ci j x) :=
  fs_s he hx fun ρ b E lv st g al Hp c s h1 h2 h3 h => by
    obtain ⟨r, t, a, m, W, e9, hr, hcc, h9⟩ := fwc_1 h
    clear h
    subst e9
    obtain ⟨q, h⟩ := fB_1 h9
    have q := Nat.eq_of_beq_eq_true q
    subst q
    obtain ⟨p1, p2, p3⟩ := fHR_at h3 hr hcc (by omega)
    have hv : (fdec a m W)[j]? = some (.int (Int32.ofNat (fdig W j))) := by
      rw [fdec_at (by rw [p3 hc]; exact fl_some_lt hj), fel_int (by omega) (by omega) (ftr_i hc hj)]
    exact ⟨E.1, lv, .inl (fdig W j) :: t, g, al, Hp, c, s, h1, h2, h3, frc_t (k := fun v => x E lv (Sum.inl v :: t) g) h, mq_getf p1 hv, rfl, rfl⟩
theorem fo_getr {k ci j : Nat} (he : fAt μ pc (.getfield k, ci, j, n)) (hc : ci < 8) (hj : (mj_df ci)[j]? = some .null) (hx : fSB μ lp D (pc + 3) x) : fSB μ lp D pc (o_getr ci j x) :=
  fs_s he hx fun ρ b E lv st g al Hp c s h1 h2 h3 h => by
    obtain ⟨r, t, a, m, W, e9, hr, hcc, h9⟩ := fwc_1 h
    clear h
    subst e9
    obtain ⟨q, h⟩ := fB_1 h9
    have q := Nat.eq_of_beq_eq_true q
    subst q
    obtain ⟨p1, p2, p3⟩ := fHR_at h3 hr hcc (by omega)
    have hv : (fdec a m W)[j]? = some (fv_r (fdig W j)) := by
      rw [fdec_at (by rw [p3 hc]; exact fl_some_lt hj), fel_ref (by omega) (by omega) (ftr_r hc hj)]
    exact ⟨E.1, lv, .inr (.inl (fdig W j)) :: t, g, al, Hp, c, s, h1, h2, h3, frc_t (k := fun v => x E lv (Sum.inr (Sum.inl v) :: t) g) h, mq_getf p1 hv, rfl, rfl⟩
theorem fo_puti {k ci j : Nat} (he : fAt μ pc (.putfield k, ci, j, 0)) (hc : ci < 8) (hj : (mj_df ci)[j]? = some (.int 0)) (hx : fSB μ lp D (pc + 3) x) : fSB μ lp D pc (o_puti ci j x) :=
  fs_s he hx fun ρ b E lv st g al Hp c s h1 h2 h3 h => by
    obtain ⟨v, t, e9, h9⟩ := fw1_f h
    clear h
    subst e9
    obtain ⟨r, t, a, m, W, e8, hr, hcc, h8⟩ := fwc_1 h9
    clear h9
    subst e8
    have h9 := h8
    clear h8
    obtain ⟨q, h⟩ := fB_1 h9
    have q := Nat.eq_of_beq_eq_true q
    subst q
    obtain ⟨p1, p2, p3⟩ := fHR_at h3 hr hcc (by omega)
    have hj1 := fl_some_lt hj
    have hm := p3 hc
    obtain ⟨T, h, t1, t2⟩ := fset_1 h (show r < 256 from Nat.lt_of_lt_of_le hr h3.2.1)
    have hvm : Nat.mod v 4294967296 < 4294967296 := Nat.mod_lt _ (by decide)
    refine ⟨E.1, lv, t, (T, g.2), al, Hp.set r (a, (fdec a m W).set j (.int (Int32.ofNat v))), c, s, h1, h2, fHR_set h3 hr ?_ t1 t2, h, mq_putf p1 (by rw [fdec_len]; omega) rfl, rfl, rfl⟩
    rw [fdec_set (D' := fput W j (Nat.mod v 4294967296)) ((fel_putI (by omega) (by omega) (ftr_i hc hj) hvm).trans (congrArg Value.int (fn_mod v))) (fun i hi => fel_else (by omega) hvm hi)]
    exact fCR_mk p2 (by omega) p3
theorem fv_fit (v : Nat) : mj_fit 1 (fv_r v) = true := by cases v <;> rfl
theorem fo_putr {k ci j : Nat} (he : fAt μ pc (.putfield k, ci, j, 1)) (hc : ci < 8) (hj : (mj_df ci)[j]? = some .null) (hx : fSB μ lp D (pc + 3) x) : fSB μ lp D pc (o_putr ci j x) :=
  fs_s he hx fun ρ b E lv st g al Hp c s h1 h2 h3 h => by
    obtain ⟨v, t, e9, h9⟩ := fwr_1 h
    clear h
    subst e9
    obtain ⟨hv, h7⟩ := fB_1 h9
    clear h9
    have h9 := h7
    clear h7
    have hv := Nat.le_of_ble_eq_true hv
    obtain ⟨r, t, a, m, W, e8, hr, hcc, h8⟩ := fwc_1 h9
    clear h9
    subst e8
    have h9 := h8
    clear h8
    obtain ⟨q, h⟩ := fB_1 h9
    have q := Nat.eq_of_beq_eq_true q
    subst q
    obtain ⟨p1, p2, p3⟩ := fHR_at h3 hr hcc (by omega)
    have hj1 := fl_some_lt hj
    have hm := p3 hc
    obtain ⟨T, h, t1, t2⟩ := fset_1 h (show r < 256 from Nat.lt_of_lt_of_le hr h3.2.1)
    refine ⟨E.1, lv, t, (T, g.2), al, Hp.set r (a, (fdec a m W).set j (fv_r v)), c, s, h1, h2, fHR_set h3 hr ?_ t1 t2, h, mq_putf p1 (by rw [fdec_len]; omega) (fv_fit v), rfl, rfl⟩
    rw [fdec_set (D' := fput W j v) (fel_putR (by omega) (by omega) (ftr_r hc hj) (by omega)) (fun i hi => fel_else (by omega) (by omega) hi)]
    exact fCR_mk p2 (by omega) p3
theorem fo_ild_ {kd a b : Nat} {e : mjE} (he : fAt μ pc e) (h1 : 20 ≤ kd) (h2 : kd < 24) (h3 : kd ≠ 21) (ho : ∀ al i r st H cs, mj_op e (pc, al, .int i :: .ref r :: st, H, cs) = mj_get kd (pc, al, .int i :: .ref r :: st, H, cs) i r st) (hx : fSB μ lp D (pc + 1) x) : fSB μ lp D pc (o_ild kd x) :=
  fs_s he hx fun ρ b E lv st g al Hp c s g1 g2 g3 h => by
    obtain ⟨i, t, e9, h9⟩ := fw1_f h
    clear h
    subst e9
    obtain ⟨r, t, a, m, W, e8, hr, hcc, h8⟩ := fwc_1 h9
    clear h9
    subst e8
    have h9 := h8
    clear h8
    obtain ⟨q, h⟩ := fB_1 h9
    have q := Nat.eq_of_beq_eq_true q
    subst q
    obtain ⟨hi, h⟩ := fB_1 h
    have hi := Nat.le_of_ble_eq_true hi
    obtain ⟨p1, p2, p3⟩ := fHR_at g3 hr hcc (by omega)
    refine ⟨E.1, lv, .inl (fdig W i) :: t, g, al, Hp, c, s, g1, g2, g3, frc_t (k := fun v => x E lv (Sum.inl v :: t) g) h, ?_, rfl, rfl⟩
    refine (ho al (Int32.ofNat i) r (t.map (fv ρ b)) Hp (c, s)).trans ((mq_get p1 rfl hi p2).trans ?_)
    rw [fel_int (by omega) (by omega) (ftr_a (by omega) (by omega))]
    rfl
theorem fo_iaload {a b : Nat} (he : fAt μ pc (.iaload, a, b, n)) (hx : fSB μ lp D (pc + 1) x) : fSB μ lp D pc (o_ild 20 x) := fo_ild_ (a := a) (b := b) he (by decide) (by decide) (by decide) (fun _ _ _ _ _ _ => rfl) hx
theorem fo_caload {a b : Nat} (he : fAt μ pc (.caload, a, b, n)) (hx : fSB μ lp D (pc + 1) x) : fSB μ lp D pc (o_ild 22 x) := fo_ild_ (a := a) (b := b) he (by decide) (by decide) (by decide) (fun _ _ _ _ _ _ => rfl) hx
theorem fo_baload {a b : Nat} (he : fAt μ pc (.baload, a, b, n)) (hx : fSB μ lp D (pc + 1) x) : fSB μ lp D pc (o_ild 23 x) := fo_ild_ (a := a) (b := b) he (by decide) (by decide) (by decide) (fun _ _ _ _ _ _ => rfl) hx
theorem fo_aaload {kd b : Nat} (he : fAt μ pc (.aaload, kd, b, n)) (h1 : 25 ≤ kd) (h2 : kd < 30) (hx : fSB μ lp D (pc + 1) x) : fSB μ lp D pc (o_ald kd x) :=
  fs_s he hx fun ρ b E lv st g al Hp c s g1 g2 g3 h => by
    obtain ⟨i, t, e9, h9⟩ := fw1_f h
    clear h
    subst e9
    obtain ⟨r, t, a, m, W, e8, hr, hcc, h8⟩ := fwc_1 h9
    clear h9
    subst e8
    have h9 := h8
    clear h8
    obtain ⟨q, h⟩ := fB_1 h9
    have q := Nat.eq_of_beq_eq_true q
    subst q
    obtain ⟨hi, h⟩ := fB_1 h
    have hi := Nat.le_of_ble_eq_true hi
    obtain ⟨p1, p2, p3⟩ := fHR_at g3 hr hcc (by omega)
    refine ⟨E.1, lv, .inr (.inl (fdig W i)) :: t, g, al, Hp, c, s, g1, g2, g3, frc_t (k := fun v => x E lv (Sum.inr (Sum.inl v) :: t) g) h, ?_, rfl, rfl⟩
    refine (show _ = mj_get a (pc, al, .int (Int32.ofNat i) :: .ref r :: t.map (fv ρ b), Hp, c, s) (Int32.ofNat i) r (t.map (fv ρ b)) from rfl).trans ((mq_get p1 rfl hi p2).trans ?_)
    rw [fel_ref (by omega) (by omega) (ftr_b h1)]
    rfl
theorem fo_ist_k {kd m : Nat} {e : mjE} (he : fAt μ pc e) (h1 : 20 ≤ kd) (h2 : kd < 24) (h3 : kd ≠ 21) (hm : 0 < m) (hm2 : m ≤ 4294967296) (ho : ∀ al v i r st H cs, mj_op e (pc, al, .int (Int32.ofNat v) :: .int i :: .ref r :: st, H, cs) = mj_put kd (pc, al, .int (Int32.ofNat v) :: .int i :: .ref r :: st, H, cs) (.int (Int32.ofNat (v % m))) i r st) (hx : fSB μ lp D (pc + 1) x) : fSB μ lp D pc (o_ist kd m x) :=
  fs_s he hx fun ρ b E lv st g al Hp c s g1 g2 g3 h => by
    obtain ⟨i, v, t, e9, h9⟩ := fw2_f h
    clear h
    subst e9
    obtain ⟨r, t, a, m', W, e8, hr, hcc, h8⟩ := fwc_1 h9
    clear h9
    subst e8
    have h9 := h8
    clear h8
    obtain ⟨q, h⟩ := fB_1 h9
    have q := Nat.eq_of_beq_eq_true q
    subst q
    obtain ⟨hi, h⟩ := fB_1 h
    have hi : i < m' := Nat.le_of_ble_eq_true hi
    obtain ⟨p1, p2, p3⟩ := fHR_at g3 hr hcc (by omega)
    obtain ⟨T, h, t1, t2⟩ := fset_1 h (show r < 256 from Nat.lt_of_lt_of_le hr g3.2.1)
    have hvm : Nat.mod v m < 4294967296 := Nat.lt_of_lt_of_le (Nat.mod_lt _ hm) hm2
    refine ⟨E.1, lv, t, (T, g.2), al, Hp.set r (a, (fdec a m' W).set i (.int (Int32.ofNat (v % m)))), c, s, g1, g2, fHR_set g3 hr ?_ t1 t2, h, (ho al v (Int32.ofNat i) r (t.map (fv ρ b)) Hp (c, s)).trans (mq_put p1 rfl (by rw [fdec_len]; exact hi) (by rw [fdec_len]; exact p2)), rfl, rfl⟩
    show fCR (a, m', fput W i (Nat.mod v m)) (a, (fdec a m' W).set i (Value.int (Int32.ofNat (Nat.mod v m))))
    rw [fdec_set (D' := fput W i (Nat.mod v m)) (fel_putI (by omega) (by omega) (ftr_a (by omega) (by omega)) hvm) (fun j hj => fel_else (by omega) hvm hj)]
    exact fCR_mk p2 (by omega) p3
theorem fo_iastore {a b : Nat} (he : fAt μ pc (.iastore, a, b, n)) (hx : fSB μ lp D (pc + 1) x) : fSB μ lp D pc (o_ist 20 4294967296 x) :=
  fo_ist_k he (by decide) (by decide) (by decide) (by decide) (by decide) (fun al v i r st H cs => by rw [fn_mod]; rfl) hx
theorem fo_castore {a b : Nat} (he : fAt μ pc (.castore, a, b, n)) (hx : fSB μ lp D (pc + 1) x) : fSB μ lp D pc (o_ist 22 65536 x) :=
  fo_ist_k he (by decide) (by decide) (by decide) (by decide) (by decide) (fun al v i r st H cs => by rw [← show narrow .char (.int (Int32.ofNat v)) = .int (Int32.ofNat (v % 65536)) from fn_char v]; rfl) hx
theorem fo_bastore {a b : Nat} (he : fAt μ pc (.bastore, a, b, n)) (hx : fSB μ lp D (pc + 1) x) : fSB μ lp D pc (o_ist 23 2 x) :=
  fo_ist_k he (by decide) (by decide) (by decide) (by decide) (by decide) (fun al v i r st H cs => by rw [← show narrow .boolean (.int (Int32.ofNat v)) = .int (Int32.ofNat (v % 2)) from fn_bool v]; rfl) hx
end FHO
