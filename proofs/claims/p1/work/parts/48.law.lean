/-! THE LAW'S OWN OPS: its script -/
noncomputable def f20 : fV := Sum.inr (Sum.inr (Sum.inr 20))
/-- is it the script, or the int k that isn't known -/
noncomputable def fwk (id : Nat) (st : fL) (k : fL → Bool) : Bool := fwd id st k
noncomputable def o_sld (nx : fX) : fX := fun E lv st g => fwk 20 lv (fun _ => nx E lv (Sum.inr (Sum.inr (Sum.inr 20)) :: st) g)
noncomputable def o_slen (nx : fX) : fX := fun E lv st g => fwk 20 st (fun t => fi_load 7 (Prod.fst E) (fun v => nx E lv (v :: t) g) (fun iv v => nx (fe_iv E iv) lv (v :: t) g))
noncomputable def fi_is (k n : Nat) (iv : fI) (b : Bool) : Bool := Prod.rec (motive := fun _ => Bool) (fun lo hi => fB (Nat.beq lo n) (fB (Nat.beq hi n) b false) false) (fi_get k iv)
noncomputable def o_sia (nx : fX) : fX := fun E lv st g => fw1 st false (fun i t => fwk 20 t (fun t => fB (Nat.ble i 4) (fi_is 7 2147483653 (Prod.fst E) (nx E lv (Sum.inr (Sum.inr (Sum.inr i)) :: t) g)) false))
noncomputable def o_and63 (nx : fX) : fX := fun E lv st g => fw1 st false (fun m t => fB (Nat.beq m 63) (fwk 0 t (fun t => nx E lv (Sum.inr (Sum.inr (Sum.inr 5)) :: t) g)) false)
noncomputable def o_i2c (nx : fX) : fX := fun E lv st g => fwk 1 st (fun t => fi_is 5 2147483695 (Prod.fst E) (nx E lv (Sum.inr (Sum.inr (Sum.inr 6)) :: t) g))
noncomputable def o_tsw (tgs : List fX) (dflt : fX) : fX := fun E lv st g => fwk 5 st (fun t => Prod.rec (motive := fun _ => Bool) (fun lo hi => fB (Nat.beq lo hi) (fB (Nat.ble 2147483648 lo) (frc (Nat.sub lo 2147483648) (fun n => fx_nth n tgs E lv t g)) false) (fB (Nat.ble 2147483703 lo) (dflt E lv t g) false)) (fi_get 5 (Prod.fst E)))
theorem fi_is_1 {ρ : Nat → Int32} {k n : Nat} {iv : fI} {b : Bool} (hk : k ≤ 7) (hiv : fIv ρ iv) (h : fi_is k n iv b = true) : b = true ∧ fbi (ρ k) = n := by
  unfold fi_is at h
  have hb := hiv.1 k hk
  generalize fi_get k iv = p at h hb
  obtain ⟨lo, hi⟩ := p
  obtain ⟨h1, h⟩ := fB_1 (show fB (Nat.beq lo n) (fB (Nat.beq hi n) b false) false = true from h)
  obtain ⟨h2, h⟩ := fB_1 h
  have h1 := Nat.eq_of_beq_eq_true h1
  have h2 := Nat.eq_of_beq_eq_true h2
  have hb1 : lo ≤ fbi (ρ k) := hb.1
  have hb2 : fbi (ρ k) ≤ hi := hb.2
  exact ⟨h, by omega⟩
theorem fs_sc {X : Nat → mjF → Option mjR} {ρ : Nat → Int32} {b d : Nat} {K : fK} (hX : fRun ρ b 329 d X) {e : mjE} {f f' : mjF} {g : fG} (he : fAt 329 f.1 e) (ho : fsc_op ρ b e f = some f') (hc : f'.2.2.2.2 = f.2.2.2.2) (h : fGd X ρ b K f' g) : fGd X ρ b K f g := by
  obtain ⟨n, R, iv, r, g2, h1, h2, h3, h4, h5, h6, h7⟩ := h
  refine ⟨n + 1, R, iv, r, g2, fun m hm => ?_, h2, h3, h4, h5, by rw [← hc]; exact h6, by rw [← hc]; exact h7⟩
  obtain ⟨m, rfl⟩ : ∃ q, m = q + 1 := ⟨m - 1, by omega⟩
  exact hX.2.2 rfl m f e f' R he ho (h1 m (by omega))
theorem fb_5 : Int32.ofNat (fi_b 2147483653) = 5 := by decide +kernel
theorem fb_47 : Int32.ofNat (fi_b 2147483695) = 47 := by decide +kernel
section FLW
variable {D pc : Nat} {lp : List Nat} {x : fX} {a bb n : Nat}
theorem fv_20 (ρ : Nat → Int32) (b : Nat) : fv ρ b (Sum.inr (Sum.inr (Sum.inr 20))) = .retAddr b := rfl
theorem fo_sld (he : fAt 329 pc (.aload_n 0, a, bb, n)) (hx : fSB 329 lp D (pc + 1) x) : fSB 329 lp D pc (o_sld x) := by
  intro ρ b d X K m jmp hD hX hj iv lv st g al Hp c s hiv hl hh h
  obtain ⟨t, e9, h9⟩ := fwd_1 h
  have hld : mj_ld al 0 = some (.retAddr b) := by
    refine fl_ld hl (k := 0) (v := Sum.inr (Sum.inr (Sum.inr 20))) ?_ (fv_sk (by decide))
    rw [e9]
    rfl
  refine fs_sc hX (f := (pc, al, st.map (fv ρ b), Hp, c, s)) (f' := (pc + 1, al, .retAddr b :: st.map (fv ρ b), Hp, c, s)) he ?_ rfl (hx ρ b d X K m jmp hD hX hj iv lv _ g al Hp c s hiv hl hh h9)
  unfold fsc_op
  dsimp only
  have hld' : mj_ld al ((0 : Fin 4) : Nat) = some (.retAddr b) := hld
  rw [hld']
  dsimp only
  rw [if_pos rfl]
  rfl
theorem mq_slen {ρ : Nat → Int32} {b : Nat} {al : List (Nat × Value)} {st : List Value} {r : mjH × Nat × Nat} : fsc_op ρ b (.arraylength, a, bb, n) (pc, al, .retAddr b :: st, r) = some (pc + 1, al, .int (ρ 7) :: st, r) := by
  unfold fsc_op
  dsimp only
  rw [if_pos rfl]
  rfl
theorem fo_slen (he : fAt 329 pc (.arraylength, a, bb, n)) (hx : fSB 329 lp D (pc + 1) x) : fSB 329 lp D pc (o_slen x) := by
  intro ρ b d X K m jmp hD hX hj iv lv st g al Hp c s hiv hl hh h
  obtain ⟨t, e9, h9⟩ := fwd_1 h
  clear h
  subst e9
  refine fs_sc hX (f := (pc, al, .retAddr b :: t.map (fv ρ b), Hp, c, s)) (f' := (pc + 1, al, .int (ρ 7) :: t.map (fv ρ b), Hp, c, s)) he mq_slen rfl ?_
  rcases fi_load_1 (b := b) (show 7 ≤ 7 by decide) hiv h9 with ⟨v, q1, q2⟩ | ⟨iv', v, q1, q2, q3⟩
  · rw [← q2]
    exact hx ρ b d X K m jmp hD hX hj iv lv (v :: t) g al Hp c s hiv hl hh q1
  · rw [← q3]
    exact hx ρ b d X K m jmp hD hX hj iv' lv (v :: t) g al Hp c s q2 hl hh q1
theorem fo_sia (he : fAt 329 pc (.iaload, a, bb, n)) (hx : fSB 329 lp D (pc + 1) x) : fSB 329 lp D pc (o_sia x) := by
  intro ρ b d X K m jmp hD hX hj iv lv st g al Hp c s hiv hl hh h
  obtain ⟨i, t, e9, h9⟩ := fw1_f h
  clear h
  subst e9
  obtain ⟨t, e8, h8⟩ := fwd_1 h9
  clear h9
  subst e8
  obtain ⟨hi, h⟩ := fB_1 h8
  have hi := Nat.le_of_ble_eq_true hi
  obtain ⟨h, h7⟩ := fi_is_1 (show 7 ≤ 7 by decide) hiv h
  have h7 : ρ 7 = 5 := (fbi_inv h7).trans fb_5
  obtain ⟨i1, i2⟩ := fx_toNat (show i < 2147483648 by omega)
  refine fs_sc hX (f := (pc, al, .int (Int32.ofNat i) :: .retAddr b :: t.map (fv ρ b), Hp, c, s)) (f' := (pc + 1, al, .int (ρ i) :: t.map (fv ρ b), Hp, c, s)) he ?_ rfl ?_
  · unfold fsc_op
    dsimp only
    rw [if_pos ⟨rfl, h7, by omega, i1⟩, i2]
    rfl
  · rw [← fv_sym (ρ := ρ) (b := b) (show i ≤ 7 by omega)]
    exact hx ρ b d X K m jmp hD hX hj iv lv (_ :: t) g al Hp c s hiv hl hh h
theorem fo_and63 (he : fAt 329 pc (.iand, a, bb, n)) (hx : fSB 329 lp D (pc + 1) x) : fSB 329 lp D pc (o_and63 x) :=
  fs_0 he hx fun ρ b E lv st g al r h1 h2 h3 h => by
    obtain ⟨m, t, e9, h9⟩ := fw1_f h
    clear h
    subst e9
    obtain ⟨hm, h⟩ := fB_1 h9
    have hm := Nat.eq_of_beq_eq_true hm
    subst hm
    obtain ⟨t, e8, h8⟩ := fwd_1 h
    clear h h9
    subst e8
    refine ⟨lv, _ :: t, al, h2, h8, ?_⟩
    have e1 : fv ρ b (Sum.inr (Sum.inr (Sum.inr 5))) = .int (ρ 0 &&& 63) := congrArg Value.int h1.2.1
    rw [List.map_cons, List.map_cons, List.map_cons, e1]
    rfl
theorem fo_i2c (he : fAt 329 pc (.i2c, a, bb, n)) (hx : fSB 329 lp D (pc + 1) x) : fSB 329 lp D pc (o_i2c x) :=
  fs_0 he hx fun ρ b E lv st g al r h1 h2 h3 h => by
    obtain ⟨t, e9, h9⟩ := fwd_1 h
    clear h
    subst e9
    obtain ⟨h, h5⟩ := fi_is_1 (show 5 ≤ 7 by decide) h1 h9
    have h5 : ρ 5 = 47 := (fbi_inv h5).trans fb_47
    refine ⟨lv, _ :: t, al, h2, h, ?_⟩
    have e1 : fv ρ b (Sum.inr (Sum.inr (Sum.inr 6))) = .int ((ρ 1).toUInt32 % 65536).toInt32 := congrArg Value.int (h1.2.2.1 h5)
    rw [List.map_cons, List.map_cons, e1]
    rfl
/-- the switch's targets, one by one -/
def fTs (lp : List Nat) (D pc : Nat) : List Int → List fX → Prop
  | [], [] => True
  | o :: os, x :: xs => fSB 329 lp D (mj_tg pc o) x ∧ fTs lp D pc os xs
  | _, _ => False
theorem fTs_at {i : Nat} {x : fX} : ∀ {os : List Int} {xs : List fX}, fTs lp D pc os xs → xs[i]? = some x → ∃ o : Int, os[i]? = some o ∧ fSB 329 lp D (mj_tg pc o) x := by
  induction i with
  | zero =>
    intro os xs h hx
    cases xs with
    | nil => cases hx
    | cons y ys =>
      cases os with
      | nil => cases h
      | cons o os =>
        cases hx
        exact ⟨o, rfl, h.1⟩
  | succ i ih =>
    intro os xs h hx
    cases xs with
    | nil => cases hx
    | cons y ys =>
      cases os with
      | nil => cases h
      | cons o os => exact ih h.2 hx
theorem fx_nth_some {i : Nat} {E : fE} {lv st : fL} {g : fG} : ∀ {C : List fX}, fx_nth i C E lv st g = true → ∃ x, C[i]? = some x ∧ x E lv st g = true := by
  induction i with
  | zero =>
    intro C h
    cases C with
    | nil => cases h
    | cons a t => exact ⟨a, rfl, h⟩
  | succ i ih =>
    intro C h
    cases C with
    | nil => cases h
    | cons a t => exact ih (C := t) h
theorem mq_tsw {dflt lo hi : Int} {offs : Array Int} {al : List (Nat × Value)} {y : Int32} {st : List Value} {r : mjH × Nat × Nat} : mj_op (.tableswitch dflt lo hi offs, a, bb, n) (pc, al, .int y :: st, r) = if y.toInt < lo ∨ hi < y.toInt then some (mj_tg pc dflt, al, st, r) else match offs[(y.toInt - lo).toNat]? with
    | some off => some (mj_tg pc off, al, st, r)
    | none => none := rfl
theorem fo_tsw {dflt : Int} {offs : Array Int} {tgs : List fX} {pcD : Nat} {nd : fX} (he : fAt 329 pc (.tableswitch dflt 0 54 offs, a, bb, n)) (hl : tgs.length = 55) (hp : mj_tg pc dflt = pcD) (hd : fSB 329 lp D pcD nd) (ht : fTs lp D pc offs.toList tgs) : fSB 329 lp D pc (o_tsw tgs nd) := by
  intro ρ b d X K m jmp hD hX hj iv lv st g al Hp c s hiv hlv hh h
  obtain ⟨t, e9, h9⟩ := fwd_1 h
  clear h
  subst e9
  have hb := hiv.1 5 (by decide)
  have h9 : Prod.rec (motive := fun _ => Bool) (fun lo hi => fB (Nat.beq lo hi) (fB (Nat.ble 2147483648 lo) (frc (Nat.sub lo 2147483648) (fun n => fx_nth n tgs (iv, (m, (jmp, K))) lv t g)) false) (fB (Nat.ble 2147483703 lo) (nd (iv, (m, (jmp, K))) lv t g) false)) (fi_get 5 iv) = true := h9
  generalize fi_get 5 iv = p at h9 hb
  obtain ⟨lo, hi⟩ := p
  have hb1 : lo ≤ fbi (ρ 5) := hb.1
  have hb2 : fbi (ρ 5) ≤ hi := hb.2
  have hf := fbi_eq (ρ 5)
  have h9 : fB (Nat.beq lo hi) (fB (Nat.ble 2147483648 lo) (frc (Nat.sub lo 2147483648) (fun n => fx_nth n tgs (iv, (m, (jmp, K))) lv t g)) false) (fB (Nat.ble 2147483703 lo) (nd (iv, (m, (jmp, K))) lv t g) false) = true := h9
  have e5 : (Sum.inr (Sum.inr (Sum.inr 5)) :: t : fL).map (fv ρ b) = .int (ρ 5) :: t.map (fv ρ b) := rfl
  rw [e5]
  rcases fB_t h9 with ⟨h1, h2⟩ | ⟨h1, h2⟩
  · have h1 := Nat.eq_of_beq_eq_true h1
    obtain ⟨h3, h4⟩ := fB_1 h2
    have h3 := Nat.le_of_ble_eq_true h3
    have h4 := frc_t (k := fun n => fx_nth n tgs (iv, (m, (jmp, K))) lv t g) h4
    obtain ⟨x, hx, h6⟩ := fx_nth_some h4
    obtain ⟨o, ho, hS⟩ := fTs_at ht hx
    have hlt : lo - 2147483648 < 55 := by rw [← hl]; exact fl_some_lt hx
    refine fs_op0 hX (f := (pc, al, .int (ρ 5) :: t.map (fv ρ b), Hp, c, s)) (f' := (mj_tg pc o, al, t.map (fv ρ b), Hp, c, s)) he ?_ rfl rfl (hS ρ b d X K m jmp hD hX hj iv lv t g al Hp c s hiv hlv hh h6)
    rw [mq_tsw, if_neg (by omega)]
    have e : ((ρ 5).toInt - 0).toNat = lo - 2147483648 := by omega
    rw [e, ← Array.getElem?_toList]
    have ho : offs.toList[lo - 2147483648]? = some o := ho
    rw [ho]
  · obtain ⟨h3, h4⟩ := fB_1 h2
    have h3 := Nat.le_of_ble_eq_true h3
    refine fs_op0 hX (f := (pc, al, .int (ρ 5) :: t.map (fv ρ b), Hp, c, s)) (f' := (pcD, al, t.map (fv ρ b), Hp, c, s)) he ?_ rfl rfl (hd ρ b d X K m jmp hD hX hj iv lv t g al Hp c s hiv hlv hh h4)
    rw [mq_tsw, if_pos (by omega), hp]
end FLW
