/-! WHAT IS SAID IS MADE LESS -/
noncomputable def fwI (v : fV) (b : Bool) : Bool := Sum.rec (motive := fun _ => Bool) (fun _ => b) (fun r => fx_int r b) v
/-- of the local k it is said only that it is an int -/
noncomputable def o_wkI (k : Nat) (nx : fX) : fX := fun E lv st g => fwI (fl_get k lv) (fl_set k fF fZ lv (fun lv => nx E lv st g))
/-- the cell of a reference -/
noncomputable def fwcr (r1 : Nat) (g : fG) (k : Nat → Nat → Nat → Nat → Bool) : Bool := Nat.rec (motive := fun _ => Bool) false (fun r _ => Bool.rec (motive := fun _ => Bool) false (Prod.rec (motive := fun _ => Bool) (fun a b => Prod.rec (motive := fun _ => Bool) (fun n D => k r a n D) b) (ft_get fD g.1 r)) (Nat.ble (Nat.succ r) g.2.1)) r1
noncomputable def fwrv (v : fV) (k : Nat → Bool) : Bool := Sum.rec (motive := fun _ => Bool) (fun _ => false) (fun q => Sum.rec (motive := fun _ => Bool) (fun r => k r) (fun _ => false) q) v
noncomputable def fwiv (v : fV) (k : Nat → Bool) : Bool := Sum.rec (motive := fun _ => Bool) (fun n => k n) (fun _ => false) v
/-- the ints of an array are forgotten -/
noncomputable def fwkA (r1 : Nat) (g : fG) (k : fG → Bool) : Bool := fwcr r1 g (fun r a n _ => fB (Nat.beq a 20) (fset g r 84 n 0 k) false)
/-- those of the array that the local k names -/
noncomputable def o_wkL (k : Nat) (nx : fX) : fX := fun E lv st g => fwrv (fl_get k lv) (fun r => fwkA r g (fun g => nx E lv st g))
/-- those of the array in the first field of the object (of the class 1) that the local k names -/
noncomputable def o_wkF (k : Nat) (nx : fX) : fX := fun E lv st g => fwrv (fl_get k lv) (fun r => fwcr r g (fun _ a _ D => fB (Nat.beq a 1) (frc (fdig D 0) (fun r => fwkA r g (fun g => nx E lv st g))) false))
theorem fwcr_1 {r1 : Nat} {g : fG} {k : Nat → Nat → Nat → Nat → Bool} (h : fwcr r1 g k = true) : ∃ r a n D, r1 = r + 1 ∧ r < g.2.1 ∧ ft_get fD g.1 r = (a, n, D) ∧ k r a n D = true := by
  unfold fwcr at h
  cases r1 with
  | zero => cases h
  | succ r =>
    have h : (Bool.rec (motive := fun _ => Bool) false (Prod.rec (motive := fun _ => Bool) (fun a b => Prod.rec (motive := fun _ => Bool) (fun n D => k r a n D) b) (ft_get fD g.1 r)) (Nat.ble (Nat.succ r) g.2.1)) = true := h
    cases hb : Nat.ble (Nat.succ r) g.2.1 with
    | false => rw [hb] at h; cases h
    | true =>
      rw [hb] at h
      generalize hc : ft_get fD g.1 r = c at h
      obtain ⟨a, n, D⟩ := c
      exact ⟨r, a, n, D, rfl, Nat.le_of_ble_eq_true hb, hc, h⟩
theorem fwrv_1 {v : fV} {k : Nat → Bool} (h : fwrv v k = true) : ∃ r, v = .inr (.inl r) ∧ k r = true := by
  cases v with
  | inl n => cases h
  | inr q =>
    cases q with
    | inl r => exact ⟨r, rfl, h⟩
    | inr q => cases h
theorem fwiv_1 {v : fV} {k : Nat → Bool} (h : fwiv v k = true) : ∃ n, v = .inl n ∧ k n = true := by
  cases v with
  | inl n => exact ⟨n, rfl, h⟩
  | inr q => cases h
theorem fwI_1 {v : fV} {b : Bool} (h : fwI v b = true) : b = true ∧ ∀ (ρ : Nat → Int32) (c : Nat), ∃ y, fv ρ c v = .int y := by
  cases v with
  | inl n => exact ⟨h, fun _ _ => ⟨_, rfl⟩⟩
  | inr q =>
    have h : fx_int q b = true := h
    exact ⟨(fx_int_1 (ρ := fun _ => 0) (b := 0) h).1, fun ρ c => (fx_int_1 (ρ := ρ) (b := c) h).2⟩
theorem fwI_s {v : fV} {b : Bool} (h : fwI v b = true) : fv_s v := by
  cases v with
  | inl n => exact fv_si n
  | inr q =>
    have h : fx_int q b = true := h
    cases q with
    | inl r => cases h
    | inr q =>
      cases q with
      | inl n => cases h
      | inr j =>
        obtain ⟨h1, h2⟩ := fB_1 (show fB (Nat.ble j 7) b false = true from h)
        exact fv_sk (Nat.le_trans (Nat.le_of_ble_eq_true h1) (by decide))
theorem fwkA_1 {r1 : Nat} {g : fG} {k : fG → Bool} {H : mjH} (hh : fHR g H) (h : fwkA r1 g k = true) : ∃ T, k (T, g.2) = true ∧ fHR (T, g.2) H := by
  obtain ⟨r, a, n, D, e1, hr, hc, h⟩ := fwcr_1 h
  obtain ⟨q, h⟩ := fB_1 h
  have q := Nat.eq_of_beq_eq_true q
  subst q
  obtain ⟨p1, p2, -⟩ := fHR_at hh hr hc (by decide)
  obtain ⟨T, h, t1, t2⟩ := fset_1 h (show r < 256 from Nat.lt_of_lt_of_le hr hh.2.1)
  refine ⟨T, h, ?_⟩
  have key := fHR_set hh hr (c := (84, n, 0)) (o := (20, fdec 20 n D)) (fCR_mk2 (k := 20) p2 (by decide) (fdec_len _ _ _) (fdec_int _ _)) t1 t2
  have e : H.set r (20, fdec 20 n D) = H := by
    refine List.ext_getElem? fun i => ?_
    by_cases hi : i = r
    · subst hi
      rw [List.getElem?_set_self (fl_some_lt p1), p1]
    · rw [List.getElem?_set_ne (by omega)]
  rw [e] at key
  exact key
section FWK
variable {μ D pc : Nat} {lp : List Nat} {x : fX}
theorem fo_wkI {k : Nat} (hx : fSB μ lp D pc x) : fSB μ lp D pc (o_wkI k x) := by
  intro ρ b d X K m jmp hD hX hj iv lv st g al Hp c s hiv hl hh h
  obtain ⟨h1, h2⟩ := fwI_1 h
  have hs := fwI_s h
  obtain ⟨lv', q1, q2, q3⟩ := fl_set_1 k fF fZ lv _ h1
  refine hx ρ b d X K m jmp hD hX hj iv lv' st g al Hp c s hiv (fun j => ?_) hh q1
  rw [q2]
  by_cases hjk : j = k
  · rw [if_pos hjk, hjk]
    obtain ⟨y, hy⟩ := h2 ρ b
    exact Or.inr (Or.inl ⟨rfl, y, (fl_ld hl rfl hs).trans (congrArg some hy)⟩)
  · rw [if_neg hjk]
    exact hl j
theorem fo_wkL {k : Nat} (hx : fSB μ lp D pc x) : fSB μ lp D pc (o_wkL k x) := by
  intro ρ b d X K m jmp hD hX hj iv lv st g al Hp c s hiv hl hh h
  obtain ⟨r, e1, h⟩ := fwrv_1 h
  obtain ⟨T, h1, h2⟩ := fwkA_1 hh h
  obtain ⟨n, R, iv', r', g', w1, w2, w3, w4, w5, w6, w7⟩ := hx ρ b d X K m jmp hD hX hj iv lv st (T, g.2) al Hp c s hiv hl h2 h1
  exact ⟨n, R, iv', r', g', w1, w2, w3, w4, w5, w6, w7⟩
theorem fo_wkF {k : Nat} (hx : fSB μ lp D pc x) : fSB μ lp D pc (o_wkF k x) := by
  intro ρ b d X K m jmp hD hX hj iv lv st g al Hp c s hiv hl hh h
  obtain ⟨r, e1, h⟩ := fwrv_1 h
  obtain ⟨r0, a, n0, W, e2, hr, hc, h⟩ := fwcr_1 h
  obtain ⟨q, h⟩ := fB_1 h
  have h := frc_t (k := fun r => fwkA r g (fun g => x (iv, (m, (jmp, K))) lv st g)) h
  obtain ⟨T, h1, h2⟩ := fwkA_1 hh h
  obtain ⟨n, R, iv', r', g', w1, w2, w3, w4, w5, w6, w7⟩ := hx ρ b d X K m jmp hD hX hj iv lv st (T, g.2) al Hp c s hiv hl h2 h1
  exact ⟨n, R, iv', r', g', w1, w2, w3, w4, w5, w6, w7⟩
end FWK
/-! shift: the class's block that goes round -/
theorem mq_getv {t r i pc : Nat} {al : List (Nat × Value)} {S st : List Value} {H : mjH} {cs : Nat × Nat} {vs : List Value} {v : Value} (hr : H[r]? = some (t, vs)) (hv : vs[i]? = some v) (hn : vs.length ≤ 65536) : mj_get t (pc, al, S, H, cs) (Int32.ofNat i) r st = some (pc + 1, al, v :: st, H, cs) := by
  have hi := fl_some_lt hv
  obtain ⟨h1, h2⟩ := fx_toNat (show i < 2147483648 by omega)
  have hx : mj_ix (Int32.ofNat i) vs = some i := by
    unfold mj_ix
    rw [h2, if_neg (fun q => q.elim h1 (by omega))]
  unfold mj_get
  dsimp only
  rw [hr]
  dsimp only
  rw [if_pos rfl, hx]
  dsimp only
  rw [hv]
  rfl
section FSH
variable {ρ : Nat → Int32} {b : Nat}
theorem fA_14 {pc : Nat} {e : mjE} (h : mj_at mcX1_add pc = some e) : fAt 14 pc e := h
theorem fA_165 {pc : Nat} {e : mjE} (h : mj_at mcX7_lowBits pc = some e) : fAt 165 pc e := h
theorem fA_26 {pc : Nat} {e : mjE} (h : mj_at mcX1_makeShift pc = some e) : fAt 26 pc e := h
theorem lowBits_to (d : Nat) (p : Int32) (H : mjH) : ∃ q : Int32, fTo (fun m f => mj_run mj_P m (d + 1) 165 f) (0, lv_args 0 [.int p], [], H, 0, 0) (.inl (some (.int q)), H, 0, 0) := by
  have hX := fRun_meth (fun _ => 0) 0 165 d (by decide)
  refine ⟨Int32.ofInt 1 <<< (p &&& 31) - Int32.ofInt 1, ?_⟩
  refine fTo_mv hX (C := mcX7_lowBits) rfl 5 (pc := 0) (L := [(0, .int p)]) (st := []) (al := [(0, .int p)]) (pc' := 5) (L' := [(0, .int p)]) (st' := [.int (Int32.ofInt 1 <<< (p &&& 31) - Int32.ofInt 1)]) rfl (fun i v h => h) fun al' _ => ?_
  exact fTo_iret hX (fA_165 (pc := 5) rfl) (show (mj_P 165).2.2.1 = some .int from rfl) rfl
theorem mq_ifn {c : Prop} [Decidable c] {pc n : Nat} {off : Int} {al : List (Nat × Value)} {S st : List Value} {r : mjH × Nat × Nat} (h : ¬ c) : mj_br (pc, al, S, r) n off st c = some (pc + n, al, st, r) := if_neg h
theorem mq_ify {c : Prop} [Decidable c] {pc n : Nat} {off : Int} {al : List (Nat × Value)} {S st : List Value} {r : mjH × Nat × Nat} (h : c) : mj_br (pc, al, S, r) n off st c = some (mj_tg pc off, al, st, r) := if_pos h
theorem add_to (d : Nat) {w : Int32} {H : mjH} {r rb cnt : Nat} {x y : Value} {vs : List Value} (hr : H[r]? = some (1, [.ref rb, y, .int (Int32.ofNat cnt)])) (hb : H[rb]? = some (20, vs)) (hc : cnt < 160) (hv : vs.length = 160) (hne : r ≠ rb) :
    fTo (fun m f => mj_run mj_P m (d + 1) 14 f) (0, lv_args 0 [.ref r, .int w], [], H, 0, 0) (.inl none, (H.set rb (20, vs.set cnt (.int w))).set r (1, [.ref rb, y, .int (Int32.ofNat cnt + 1)]), 0, 0) := by
  have hX := fRun_meth (fun _ => 0) 0 14 d (by decide)
  have h0 : ¬ Int32.ofNat cnt < 0 := (fx_toNat (show cnt < 2147483648 by omega)).1
  have h160 : ¬ (Int16.ofInt 160).toInt32 ≤ Int32.ofNat cnt := by
    have e : (Int16.ofInt 160).toInt32 = Int32.ofNat 160 := by decide +kernel
    rw [e, Int32.le_iff_toInt_le, fn_int, fn_int, Nat.mod_eq_of_lt (show cnt < 4294967296 by omega), if_pos (by decide)]
    rw [if_pos (by omega)]
    omega
  show fTo _ (0, [(0, .ref r), (1, .int w)], [], H, 0, 0) _
  refine fTo_op hX (f' := (1, [(0, .ref r), (1, .int w)], [.ref r], H, 0, 0)) (e := (.aload_n 0, 0, 0, 0)) (fA_14 (pc := 0) rfl) rfl ?_
  refine fTo_op hX (e := (.getfield 19, 1, 2, 0)) (fA_14 (pc := 1) rfl) (mq_getf (v := .int (Int32.ofNat cnt)) hr rfl) ?_
  refine fTo_op hX (f' := (7, [(0, .ref r), (1, .int w)], [], H, 0, 0)) (e := (.ifCond .lt 33, 0, 0, 0)) (fA_14 (pc := 4) rfl) (mq_ifn h0) ?_
  refine fTo_op hX (f' := (8, [(0, .ref r), (1, .int w)], [.ref r], H, 0, 0)) (e := (.aload_n 0, 0, 0, 0)) (fA_14 (pc := 7) rfl) rfl ?_
  refine fTo_op hX (e := (.getfield 19, 1, 2, 0)) (fA_14 (pc := 8) rfl) (mq_getf (v := .int (Int32.ofNat cnt)) hr rfl) ?_
  refine fTo_op hX (f' := (14, [(0, .ref r), (1, .int w)], [.int (Int16.ofInt 160).toInt32, .int (Int32.ofNat cnt)], H, 0, 0)) (e := (.sipush 160, 0, 0, 0)) (fA_14 (pc := 11) rfl) rfl ?_
  refine fTo_op hX (f' := (17, [(0, .ref r), (1, .int w)], [], H, 0, 0)) (e := (.if_icmp .ge 23, 0, 0, 0)) (fA_14 (pc := 14) rfl) (mq_ifn h160) ?_
  refine fTo_op hX (f' := (18, [(0, .ref r), (1, .int w)], [.ref r], H, 0, 0)) (e := (.aload_n 0, 0, 0, 0)) (fA_14 (pc := 17) rfl) rfl ?_
  refine fTo_op hX (e := (.getfield 9, 1, 0, 1)) (fA_14 (pc := 18) rfl) (mq_getf (v := .ref rb) hr rfl) ?_
  refine fTo_op hX (f' := (22, [(0, .ref r), (1, .int w)], [.ref r, .ref rb], H, 0, 0)) (e := (.aload_n 0, 0, 0, 0)) (fA_14 (pc := 21) rfl) rfl ?_
  refine fTo_op hX (e := (.getfield 19, 1, 2, 0)) (fA_14 (pc := 22) rfl) (mq_getf (v := .int (Int32.ofNat cnt)) hr rfl) ?_
  refine fTo_op hX (f' := (26, [(0, .ref r), (1, .int w)], [.int w, .int (Int32.ofNat cnt), .ref rb], H, 0, 0)) (e := (.iload_n 1, 0, 0, 0)) (fA_14 (pc := 25) rfl) rfl ?_
  have hst : mj_op (.iastore, 0, 0, 0) (26, [(0, .ref r), (1, .int w)], [.int w, .int (Int32.ofNat cnt), .ref rb], H, 0, 0) = some (27, [(0, .ref r), (1, .int w)], [], H.set rb (20, vs.set cnt (.int w)), 0, 0) :=
    (show _ = mj_put 20 (26, [(0, .ref r), (1, .int w)], [.int w, .int (Int32.ofNat cnt), .ref rb], H, 0, 0) (.int w) (Int32.ofNat cnt) rb [] from rfl).trans (mq_put hb rfl (by omega) (by omega))
  refine fTo_op hX (e := (.iastore, 0, 0, 0)) (fA_14 (pc := 26) rfl) hst ?_
  have hr2 : (H.set rb (20, vs.set cnt (.int w)))[r]? = some (1, [.ref rb, y, .int (Int32.ofNat cnt)]) := by rw [List.getElem?_set_ne (by omega)]; exact hr
  generalize H.set rb (20, vs.set cnt (.int w)) = H2 at hr2 ⊢
  refine fTo_op hX (f' := (28, [(0, .ref r), (1, .int w)], [.ref r], H2, 0, 0)) (e := (.aload_n 0, 0, 0, 0)) (fA_14 (pc := 27) rfl) rfl ?_
  refine fTo_op hX (f' := (29, [(0, .ref r), (1, .int w)], [.ref r, .ref r], H2, 0, 0)) (e := (.dup, 0, 0, 0)) (fA_14 (pc := 28) rfl) rfl ?_
  refine fTo_op hX (e := (.getfield 19, 1, 2, 0)) (fA_14 (pc := 29) rfl) (mq_getf (v := .int (Int32.ofNat cnt)) hr2 rfl) ?_
  refine fTo_op hX (f' := (33, [(0, .ref r), (1, .int w)], [.int 1, .int (Int32.ofNat cnt), .ref r], H2, 0, 0)) (e := (.iconst 1, 0, 0, 0)) (fA_14 (pc := 32) rfl) rfl ?_
  refine fTo_op hX (f' := (34, [(0, .ref r), (1, .int w)], [.int (Int32.ofNat cnt + 1), .ref r], H2, 0, 0)) (e := (.iadd, 0, 0, 0)) (fA_14 (pc := 33) rfl) rfl ?_
  refine fTo_op hX (e := (.putfield 19, 1, 2, 0)) (fA_14 (pc := 34) rfl) (mq_putf hr2 (show 2 < 3 by decide) rfl) ?_
  exact fTo_end hX (e := (.return_, 0, 0, 0)) (fA_14 (pc := 37) rfl) fNs_ret fun k call => rfl
end FSH
