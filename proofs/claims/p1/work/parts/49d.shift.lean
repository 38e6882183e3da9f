/-! shift: what the loops do with their ints, of which nothing is said -/
noncomputable def fwZ (v : fV) (b : Bool) : Bool := Sum.rec (motive := fun _ => Bool) (fun _ => false) (fun q => Sum.rec (motive := fun _ => Bool) (fun _ => false) (fun q => Sum.rec (motive := fun _ => Bool) (fun _ => false) (fun k => fB (Nat.beq k 34) b false) q) q) v
theorem fwZ_1 {v : fV} {b : Bool} (h : fwZ v b = true) : v = fZ ∧ b = true := by
  cases v with
  | inl n => cases h
  | inr q =>
    cases q with
    | inl r => cases h
    | inr q =>
      cases q with
      | inl n => cases h
      | inr k =>
        obtain ⟨h1, h2⟩ := fB_1 (show fB (Nat.beq k 34) b false = true from h)
        have h1 := Nat.eq_of_beq_eq_true h1
        subst h1
        exact ⟨rfl, h2⟩
/-- the class's loop: a block is added, and goes round -/
noncomputable def o_shA (nx : fX) : fX := fun E lv st g => fnil st (fwrv (fl_get 0 lv) (fun r1 => fwcr r1 g (fun r a n D => fB (Nat.beq a 1) (frc (fdig D 2) (fun cnt => fB (Nat.ble cnt 159) (fwcr (fdig D 0) g (fun _ ab nb _ => fB (Nat.beq ab 84) (fB (Nat.beq nb 160) (fwiv (fl_get 1 lv) (fun p => fwiv (fl_get 4 lv) (fun i => fwZ (fl_get 3 lv) (fset g r 1 n (fput D 2 (Nat.succ cnt)) (fun g => nx E (Sum.inr (Sum.inl r1) :: Sum.inl p :: fF :: fZ :: Sum.inl i :: []) [] g))))) false) false)) false)) false)))
theorem fdec_1 (W : Nat) : fdec 1 3 W = [fv_r (fdig W 0), .int (Int32.ofNat (fdig W 1)), .int (Int32.ofNat (fdig W 2))] := rfl
theorem fl_said {ρ : Nat → Int32} {b k : Nat} {lv : fL} {al : List (Nat × Value)} (hl : fLR ρ b lv al) {v : fV} (h : fl_get k lv = v) (hn : fv_s v) {w : Value} (hw : fv ρ b v = w) : mj_ld al k = some w := (fl_ld hl h hn).trans (congrArg some hw)
theorem fo_shA {D : Nat} {lp : List Nat} {x : fX} (hD1 : 1 ≤ D) (hx : fSB 26 lp D 36 x) : fSB 26 lp D 16 (o_shA x) := by
  intro ρ b d X K m jmp hD hX hj iv lv st g al Hp c s hiv hl hh h
  obtain ⟨e0, h⟩ := fnil_1 h
  subst e0
  obtain ⟨r1, e1, h⟩ := fwrv_1 h
  obtain ⟨r, a, n, W, e2, hr, hc, h⟩ := fwcr_1 h
  obtain ⟨q, h⟩ := fB_1 h
  have q := Nat.eq_of_beq_eq_true q
  subst q
  have h := frc_t (k := fun cnt => fB (Nat.ble cnt 159) (fwcr (fdig W 0) g (fun _ ab nb _ => fB (Nat.beq ab 84) (fB (Nat.beq nb 160) (fwiv (fl_get 1 lv) (fun p => fwiv (fl_get 4 lv) (fun i => fwZ (fl_get 3 lv) (fset g r 1 n (fput W 2 (Nat.succ cnt)) (fun g => x (iv, (m, (jmp, K))) (Sum.inr (Sum.inl r1) :: Sum.inl p :: fF :: fZ :: Sum.inl i :: []) [] g))))) false) false)) false) h
  obtain ⟨hcnt, h⟩ := fB_1 h
  have hcnt := Nat.le_of_ble_eq_true hcnt
  obtain ⟨rb, ab, nb, Wb, e3, hrb, hcb, h⟩ := fwcr_1 h
  obtain ⟨q1, h11⟩ := fB_1 h
  have q1 := Nat.eq_of_beq_eq_true q1
  obtain ⟨q2, h12⟩ := fB_1 h11
  have q2 := Nat.eq_of_beq_eq_true q2
  obtain ⟨p, e4, h13⟩ := fwiv_1 h12
  obtain ⟨i, e5, h14⟩ := fwiv_1 h13
  obtain ⟨e6, h15⟩ := fwZ_1 h14
  obtain ⟨T, h16, t1, t2⟩ := fset_1 h15 (show r < 256 from Nat.lt_of_lt_of_le hr hh.2.1)
  clear h h11 h12 h13 h14 h15
  subst q1 q2
  obtain ⟨p1, p2, p3⟩ := fHR_at hh hr hc (by decide)
  have hn : n = 3 := p3 (by decide)
  subst hn
  obtain ⟨kk, vs, v1, v2, v3, v4, v5⟩ := fHR_at2 hh hrb hcb (by decide) (by decide)
  have hk : kk = 20 := by omega
  subst hk
  have hH : Hp[r]? = some (1, [.ref rb, .int (Int32.ofNat (fdig W 1)), .int (Int32.ofNat (fdig W 2))]) := by
    rw [p1, fdec_1, e3]
    rfl
  have hne : r ≠ rb := by
    intro q
    rw [q, v1] at hH
    cases hH
  subst e2
  have l0 : mj_ld al 0 = some (.ref r) := fl_said hl e1 (fv_sr _) rfl
  have l1 : mj_ld al 1 = some (.int (Int32.ofNat p)) := fl_said hl e4 (fv_si _) rfl
  have l4 : mj_ld al 4 = some (.int (Int32.ofNat i)) := fl_said hl e5 (fv_si _) rfl
  obtain ⟨w, l3⟩ : ∃ w, mj_ld al 3 = some (.int w) := by
    rcases hl 3 with z | ⟨z, y, hy⟩ | z
    · rw [e6] at z; cases z
    · exact ⟨y, hy⟩
    · exact ⟨0, z.trans (by rw [e6]; rfl)⟩
  obtain ⟨d, rfl⟩ : ∃ q, d = q + 1 := ⟨d - 1, by omega⟩
  have hL : mvL [(0, .ref r), (1, .int (Int32.ofNat p)), (3, .int w), (4, .int (Int32.ofNat i))] al := mvL_cons l0 (mvL_cons l1 (mvL_cons l3 (mvL_cons l4 mvL_nil)))
  refine fGd_mv hX (C := mcX1_makeShift) rfl 2 (L := [(0, .ref r), (1, .int (Int32.ofNat p)), (3, .int w), (4, .int (Int32.ofNat i))]) (pc' := 18) (L' := [(0, .ref r), (1, .int (Int32.ofNat p)), (3, .int w), (4, .int (Int32.ofNat i))]) (st' := [.int w, .ref r]) rfl hL fun al1 hL1 => ?_
  have hcall := fSt_callV hX (pc := 18) (al := al1) (vs := [.int w, .ref r]) (t := []) (v := none) (c := c) (s := s) (fA_26 (pc := 18) rfl) (show ([.int w, .ref r] ++ [] : List Value)[(mj_P 14).2.1 - 1]? = some (.ref r) from rfl) hH (show (mj_P 14).2.1 = 2 from rfl) (by decide) (show (2 : Nat) ≤ mj_mx.getD 14 0 by decide) (add_to d (x := .null) (w := w) hH v1 (by omega) v3 hne)
  refine fGd_st hcall rfl rfl ?_
  have hF : fHR (T, g.2) ((Hp.set rb (20, vs.set (fdig W 2) (.int w))).set r (1, [.ref rb, .int (Int32.ofNat (fdig W 1)), .int (Int32.ofNat (fdig W 2) + 1)])) := by
    have g1 : fHR g (Hp.set rb (20, vs.set (fdig W 2) (.int w))) := by
      have k1 := fHR_set hh hrb (c := (84, 160, Wb)) (o := (20, vs.set (fdig W 2) (.int w))) (T := g.1) (fCR_mk2 (k := 20) v5 (by decide) (by rw [List.length_set]; exact v3) ?_) hcb (fun _ _ _ => rfl)
      · exact k1
      · refine List.all_eq_true.mpr fun u hu => ?_
        rcases List.mem_or_eq_of_mem_set hu with hu | hu
        · exact List.all_eq_true.mp v4 u hu
        · subst hu
          rfl
    have e9 : [Value.ref rb, .int (Int32.ofNat (fdig W 1)), .int (Int32.ofNat (fdig W 2) + 1)] = fdec 1 3 (fput W 2 (Nat.succ (fdig W 2))) := by
      rw [fdec_1, fd_same (show Nat.succ (fdig W 2) < 4294967296 by omega), fd_else (by omega) (by decide), fd_else (by omega) (by decide), e3]
      have e10 : Int32.ofNat (fdig W 2) + 1 = Int32.ofNat (Nat.succ (fdig W 2)) := by
        have : (1 : Int32) = Int32.ofNat 1 := rfl
        rw [this, fn_add]
        refine fn_inj.mpr ?_
        show (fdig W 2 + 1) % 4294967296 % 4294967296 = (fdig W 2 + 1) % 4294967296
        rw [Nat.mod_mod]
      rw [e10]
      rfl
    rw [e9]
    exact fHR_set g1 hr (fCR_mk p2 (by decide) (fun _ => rfl)) t1 t2
  generalize (Hp.set rb (20, vs.set (fdig W 2) (.int w))).set r (1, [.ref rb, .int (Int32.ofNat (fdig W 1)), .int (Int32.ofNat (fdig W 2) + 1)]) = H2 at hF ⊢
  obtain ⟨al2, hL2, hs2⟩ := fSt_mv hX (C := mcX1_makeShift) rfl 4 (pc := 21) (L := [(0, .ref r), (1, .int (Int32.ofNat p)), (3, .int w), (4, .int (Int32.ofNat i))]) (st := []) (f' := (25, [(0, .ref r), (1, .int (Int32.ofNat p)), (3, .int w), (4, .int (Int32.ofNat i))], [.int _, .int _])) rfl hL1
  refine fGd_st (hs2 _) rfl rfl ?_
  obtain ⟨q3, hq⟩ := lowBits_to d (Int32.ofNat p) H2
  refine fGd_st (fSt_call hX (pc := 25) (al := al2) (vs := [.int (Int32.ofNat p)]) (t := [.int _]) (v := some (.int q3)) (fA_26 (pc := 25) rfl) (by decide) (show (mj_P 165).2.1 = 1 from rfl) (show (1 : Nat) ≤ 8 by decide) (show (1 : Nat) ≤ mj_mx.getD 165 0 by decide) hq) rfl rfl ?_
  obtain ⟨al3, hL3, hs3⟩ := fSt_mv hX (C := mcX1_makeShift) rfl 8 (pc := 28) (L := [(0, .ref r), (1, .int (Int32.ofNat p)), (3, .int w), (4, .int (Int32.ofNat i))]) (st := [.int q3, .int _]) (f' := (36, [(3, .int _), (0, .ref r), (1, .int (Int32.ofNat p)), (4, .int (Int32.ofNat i))], [])) rfl hL2
  refine fGd_st (hs3 _) rfl rfl ?_
  refine hx ρ b (d + 1) X K m jmp hD hX hj iv _ [] (T, g.2) al3 H2 _ _ hiv (fun j => ?_) hF h16
  match j with
  | 0 => exact Or.inr (Or.inr (hL3 0 _ rfl))
  | 1 => exact Or.inr (Or.inr (hL3 1 _ rfl))
  | 2 => exact Or.inl rfl
  | 3 => exact Or.inr (Or.inl ⟨rfl, _, hL3 3 _ rfl⟩)
  | 4 => exact Or.inr (Or.inr (hL3 4 _ rfl))
  | j + 5 => exact Or.inl (fl_get_nil j)
