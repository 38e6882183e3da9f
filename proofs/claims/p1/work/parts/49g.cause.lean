/-! cause: the class's method, whole -/
theorem gm_l2 : (2 : Int32).toInt = 2 ∧ (100000 : Int32).toInt = 100000 ∧ (1 : Int32).toInt = 1 := by decide +kernel
theorem gm_o2 : (Int32.ofInt 2).toInt = 2 ∧ (Int32.ofNat 100000).toInt = 100000 ∧ (Int32.ofInt 1).toInt = 1 := by decide +kernel
theorem fcause_in {p s o : Int32} (h : fcR p.toInt s.toInt o.toInt) : fcause p s o = Int32.ofInt (fcause0 p.toInt s.toInt o.toInt) := by
  obtain ⟨h1, h2, h3, h4, h5, h6⟩ := h
  obtain ⟨g1, g2, g3⟩ := gm_l2
  unfold fcause
  rw [if_neg]
  rw [Int32.lt_iff_toInt_lt, Int32.lt_iff_toInt_lt, Int32.lt_iff_toInt_lt, Int32.le_iff_toInt_le, Int32.lt_iff_toInt_lt, Int32.lt_iff_toInt_lt, g1, g2, g3]
  omega
theorem fcause_out {p s o : Int32} (h : ¬ fcR p.toInt s.toInt o.toInt) : fcause p s o = 0 := by
  obtain ⟨g1, g2, g3⟩ := gm_l2
  unfold fcause
  rw [if_pos]
  rw [Int32.lt_iff_toInt_lt, Int32.lt_iff_toInt_lt, Int32.lt_iff_toInt_lt, Int32.le_iff_toInt_le, Int32.lt_iff_toInt_lt, Int32.lt_iff_toInt_lt, g1, g2, g3]
  unfold fcR at h
  omega
theorem fcause0_v (P S O : Int) : ∃ c : Nat, c + 1 ∈ [0, 45, 98, 102, 114, 115] ∧ fcause0 P S O = ((c + 1 : Nat) : Int) := by
  unfold fcause0
  split
  · exact ⟨113, by decide, rfl⟩
  · split
    · exact ⟨97, by decide, rfl⟩
    · split
      · exact ⟨101, by decide, rfl⟩
      · split
        · exact ⟨114, by decide, rfl⟩
        · exact ⟨44, by decide, rfl⟩
theorem cause_rng {X : Nat → mjF → Option mjR} {ρ : Nat → Int32} {b d : Nat} (hX : fRun ρ b 97 d X) {p s o : Int32} {al : List (Nat × Value)} (hL : mvL [(1, .int p), (2, .int s), (3, .int o)] al) (r : mjH × Nat × Nat) : (fcR p.toInt s.toInt o.toInt ∧ ∃ al', mvL [(1, .int p), (2, .int s), (3, .int o)] al' ∧ fSt X (0, al, [], r) (40, al', [], r)) ∨ (¬ fcR p.toInt s.toInt o.toInt ∧ ∃ al', fSt X (0, al, [], r) (32, al', [], r)) := by
  obtain ⟨g1, g2, g3⟩ := gm_o2
  unfold fcR
  obtain ⟨al1, hL1, s1⟩ := fSt_mv hX (C := mcX7_cause) rfl 2 (pc := 0) (L := [(1, .int p), (2, .int s), (3, .int o)]) (st := []) (f' := (2, [(1, .int p), (2, .int s), (3, .int o)], [.int (Int32.ofInt 2), .int p])) rfl hL
  have s1 := s1 r
  by_cases c1 : p < Int32.ofInt 2
  · refine Or.inr ⟨?_, al1, fSt_trans s1 (fSt_op hX (f' := (32, al1, [], r)) (e := (.if_icmp .lt 30, 0, 0, 0)) (fA_97 (pc := 2) rfl) (mq_ify c1))⟩
    rw [Int32.lt_iff_toInt_lt, g1] at c1
    omega
  have s1 := fSt_trans s1 (fSt_op hX (f' := (5, al1, [], r)) (e := (.if_icmp .lt 30, 0, 0, 0)) (fA_97 (pc := 2) rfl) (mq_ifn c1))
  rw [Int32.lt_iff_toInt_lt, g1] at c1
  obtain ⟨al2, hL2, s2⟩ := fSt_mv hX (C := mcX7_cause) rfl 2 (pc := 5) (L := [(1, .int p), (2, .int s), (3, .int o)]) (st := []) (f' := (8, [(1, .int p), (2, .int s), (3, .int o)], [.int (Int32.ofNat 100000), .int p])) rfl hL1
  have s2 := fSt_trans s1 (s2 r)
  by_cases c2 : Int32.ofNat 100000 < p
  · refine Or.inr ⟨?_, al2, fSt_trans s2 (fSt_op hX (f' := (32, al2, [], r)) (e := (.if_icmp .gt 24, 0, 0, 0)) (fA_97 (pc := 8) rfl) (mq_ify c2))⟩
    rw [Int32.lt_iff_toInt_lt, g2] at c2
    omega
  have s2 := fSt_trans s2 (fSt_op hX (f' := (11, al2, [], r)) (e := (.if_icmp .gt 24, 0, 0, 0)) (fA_97 (pc := 8) rfl) (mq_ifn c2))
  rw [Int32.lt_iff_toInt_lt, g2] at c2
  obtain ⟨al3, hL3, s3⟩ := fSt_mv hX (C := mcX7_cause) rfl 2 (pc := 11) (L := [(1, .int p), (2, .int s), (3, .int o)]) (st := []) (f' := (13, [(1, .int p), (2, .int s), (3, .int o)], [.int (Int32.ofInt 2), .int s])) rfl hL2
  have s3 := fSt_trans s2 (s3 r)
  by_cases c3 : s < Int32.ofInt 2
  · refine Or.inr ⟨?_, al3, fSt_trans s3 (fSt_op hX (f' := (32, al3, [], r)) (e := (.if_icmp .lt 19, 0, 0, 0)) (fA_97 (pc := 13) rfl) (mq_ify c3))⟩
    rw [Int32.lt_iff_toInt_lt, g1] at c3
    omega
  have s3 := fSt_trans s3 (fSt_op hX (f' := (16, al3, [], r)) (e := (.if_icmp .lt 19, 0, 0, 0)) (fA_97 (pc := 13) rfl) (mq_ifn c3))
  rw [Int32.lt_iff_toInt_lt, g1] at c3
  obtain ⟨al4, hL4, s4⟩ := fSt_mv hX (C := mcX7_cause) rfl 2 (pc := 16) (L := [(1, .int p), (2, .int s), (3, .int o)]) (st := []) (f' := (18, [(1, .int p), (2, .int s), (3, .int o)], [.int p, .int s])) rfl hL3
  have s4 := fSt_trans s3 (s4 r)
  by_cases c4 : p ≤ s
  · refine Or.inr ⟨?_, al4, fSt_trans s4 (fSt_op hX (f' := (32, al4, [], r)) (e := (.if_icmp .ge 14, 0, 0, 0)) (fA_97 (pc := 18) rfl) (mq_ify c4))⟩
    rw [Int32.le_iff_toInt_le] at c4
    omega
  have s4 := fSt_trans s4 (fSt_op hX (f' := (21, al4, [], r)) (e := (.if_icmp .ge 14, 0, 0, 0)) (fA_97 (pc := 18) rfl) (mq_ifn c4))
  rw [Int32.le_iff_toInt_le] at c4
  obtain ⟨al5, hL5, s5⟩ := fSt_mv hX (C := mcX7_cause) rfl 2 (pc := 21) (L := [(1, .int p), (2, .int s), (3, .int o)]) (st := []) (f' := (23, [(1, .int p), (2, .int s), (3, .int o)], [.int (Int32.ofInt 1), .int o])) rfl hL4
  have s5 := fSt_trans s4 (s5 r)
  by_cases c5 : o < Int32.ofInt 1
  · refine Or.inr ⟨?_, al5, fSt_trans s5 (fSt_op hX (f' := (32, al5, [], r)) (e := (.if_icmp .lt 9, 0, 0, 0)) (fA_97 (pc := 23) rfl) (mq_ify c5))⟩
    rw [Int32.lt_iff_toInt_lt, g3] at c5
    omega
  have s5 := fSt_trans s5 (fSt_op hX (f' := (26, al5, [], r)) (e := (.if_icmp .lt 9, 0, 0, 0)) (fA_97 (pc := 23) rfl) (mq_ifn c5))
  rw [Int32.lt_iff_toInt_lt, g3] at c5
  obtain ⟨al6, hL6, s6⟩ := fSt_mv hX (C := mcX7_cause) rfl 2 (pc := 26) (L := [(1, .int p), (2, .int s), (3, .int o)]) (st := []) (f' := (29, [(1, .int p), (2, .int s), (3, .int o)], [.int (Int32.ofNat 100000), .int o])) rfl hL5
  have s6 := fSt_trans s5 (s6 r)
  by_cases c6 : o ≤ Int32.ofNat 100000
  · refine Or.inl ⟨?_, al6, hL6, fSt_trans s6 (fSt_op hX (f' := (40, al6, [], r)) (e := (.if_icmp .le 11, 0, 0, 0)) (fA_97 (pc := 29) rfl) (mq_ify c6))⟩
    rw [Int32.le_iff_toInt_le, g2] at c6
    omega
  · refine Or.inr ⟨?_, al6, fSt_trans s6 (fSt_op hX (f' := (32, al6, [], r)) (e := (.if_icmp .le 11, 0, 0, 0)) (fA_97 (pc := 29) rfl) (mq_ifn c6))⟩
    rw [Int32.le_iff_toInt_le, g2] at c6
    omega
/-- the letter's values, one after the other -/
noncomputable def fcs_1 (iv : fI) (c cb : Nat) (k : Nat → fI → Bool) : Bool := Prod.rec (motive := fun _ => Bool) (fun lo hi => fB (Nat.ble lo cb) (fB (Nat.ble cb hi) (k c (fi_set 6 (cb, cb) iv)) true) true) (fi_get 6 iv)
noncomputable def fcs_all (iv : fI) (k : Nat → fI → Bool) : Bool := fB (fcs_1 iv 0 2147483648 k) (fB (fcs_1 iv 45 2147483693 k) (fB (fcs_1 iv 98 2147483746 k) (fB (fcs_1 iv 102 2147483750 k) (fB (fcs_1 iv 114 2147483762 k) (fcs_1 iv 115 2147483763 k) false) false) false) false) false
noncomputable def fwS (id : Nat) (v : fV) (b : Bool) : Bool := Sum.rec (motive := fun _ => Bool) (fun _ => false) (fun q => Sum.rec (motive := fun _ => Bool) (fun _ => false) (fun q => Sum.rec (motive := fun _ => Bool) (fun _ => false) (fun k => fB (Nat.beq k id) b false) q) q) v
theorem fwS_1 {id : Nat} {v : fV} {b : Bool} (h : fwS id v b = true) : v = Sum.inr (Sum.inr (Sum.inr id)) ∧ b = true := by
  cases v with
  | inl n => cases h
  | inr q =>
    cases q with
    | inl r => cases h
    | inr q =>
      cases q with
      | inl n => cases h
      | inr k =>
        obtain ⟨h1, h2⟩ := fB_1 (show fB (Nat.beq k id) b false = true from h)
        have h1 := Nat.eq_of_beq_eq_true h1
        subst h1
        exact ⟨rfl, h2⟩
theorem fcs_1_1 {ρ : Nat → Int32} {iv : fI} {c cb : Nat} {k : Nat → fI → Bool} (hiv : fIv ρ iv) (h : fcs_1 iv c cb k = true) (h6 : fbi (ρ 6) = cb) : ∃ iv', fIv ρ iv' ∧ k c iv' = true := by
  unfold fcs_1 at h
  have hb := hiv.1 6 (by decide)
  generalize fi_get 6 iv = p at h hb
  obtain ⟨lo, hi⟩ := p
  have hb1 : lo ≤ fbi (ρ 6) := hb.1
  have hb2 : fbi (ρ 6) ≤ hi := hb.2
  rcases fB_t (show fB (Nat.ble lo cb) (fB (Nat.ble cb hi) (k c (fi_set 6 (cb, cb) iv)) true) true = true from h) with ⟨h1, h2⟩ | ⟨h1, h2⟩
  · rcases fB_t h2 with ⟨h3, h4⟩ | ⟨h3, h4⟩
    · refine ⟨_, fi_set_ok hiv (k := 6) (p := (cb, cb)) ?_, h4⟩
      exact ⟨Nat.le_of_eq h6.symm, Nat.le_of_eq h6⟩
    · have : Nat.ble cb hi = true := Nat.ble_eq.mpr (by omega)
      rw [this] at h3
      cases h3
  · have : Nat.ble lo cb = true := Nat.ble_eq.mpr (by omega)
    rw [this] at h1
    cases h1
theorem fcs_fb {x : Int32} {c : Nat} (h : x = Int32.ofNat c) (hc : c < 2147483648) : fbi x = 2147483648 + c := by
  have e : x.toInt = (c : Int) := by rw [h, fn_int, Nat.mod_eq_of_lt (by omega), if_pos hc]
  have := fbi_eq x
  omega
theorem fcs_all_1 {ρ : Nat → Int32} {iv : fI} {k : Nat → fI → Bool} (hiv : fIv ρ iv) (h : fcs_all iv k = true) {c : Nat} (hc : c ∈ [0, 45, 98, 102, 114, 115]) (h6 : ρ 6 = Int32.ofNat c) : ∃ iv', fIv ρ iv' ∧ k c iv' = true := by
  obtain ⟨q1, h⟩ := fB_1 h
  obtain ⟨q2, h⟩ := fB_1 h
  obtain ⟨q3, h⟩ := fB_1 h
  obtain ⟨q4, h⟩ := fB_1 h
  obtain ⟨q5, q6⟩ := fB_1 h
  simp only [List.mem_cons, List.not_mem_nil, or_false] at hc
  rcases hc with e | e | e | e | e | e
  all_goals subst e
  · exact fcs_1_1 hiv q1 (fcs_fb h6 (by decide))
  · exact fcs_1_1 hiv q2 (fcs_fb h6 (by decide))
  · exact fcs_1_1 hiv q3 (fcs_fb h6 (by decide))
  · exact fcs_1_1 hiv q4 (fcs_fb h6 (by decide))
  · exact fcs_1_1 hiv q5 (fcs_fb h6 (by decide))
  · exact fcs_1_1 hiv q6 (fcs_fb h6 (by decide))
def fj0 : fJ := fun _ _ _ _ _ => false
noncomputable def fm_cs_c : fM := fun _ K iv lv g => fi_is 5 2147483665 iv (fwS 1 (fl_get 1 lv) (fwS 2 (fl_get 2 lv) (fwS 3 (fl_get 3 lv) (fcs_all iv (fun c iv => Nat.rec (motive := fun _ => Bool) (o_throw 2 (iv, (0, (fj0, K))) [] [] g) (fun _ _ => K iv (Sum.inl (some (Sum.inl c))) g) c)))))
theorem fb_17 : Int32.ofNat (fi_b 2147483665) = 17 := by decide +kernel
theorem fh_97 : (mj_P 97).2.2.2.2.isEmpty = true := rfl
theorem fLR_nil (ρ : Nat → Int32) (b : Nat) (al : List (Nat × Value)) : fLR ρ b [] al := fun i => Or.inl (fl_get_nil i)
theorem fsm_cs_c : fSM 97 1 fm_cs_c := by
  intro ρ b d hD n K iv lv g al H hiv hl hh h
  obtain ⟨d, rfl⟩ : ∃ q, d = q + 1 := ⟨d - 1, by omega⟩
  have hX := fRun_meth ρ b 97 (d + 1) (by decide)
  obtain ⟨h, h5⟩ := fi_is_1 (by decide) hiv h
  have h5 : ρ 5 = 17 := (fbi_inv h5).trans fb_17
  obtain ⟨e1, h⟩ := fwS_1 h
  obtain ⟨e2, h⟩ := fwS_1 h
  obtain ⟨e3, h⟩ := fwS_1 h
  have l1 : mj_ld al 1 = some (.int (ρ 1)) := fl_said hl e1 (fv_sk (by decide)) (fv_sym (by decide))
  have l2 : mj_ld al 2 = some (.int (ρ 2)) := fl_said hl e2 (fv_sk (by decide)) (fv_sym (by decide))
  have l3 : mj_ld al 3 = some (.int (ρ 3)) := fl_said hl e3 (fv_sk (by decide)) (fv_sym (by decide))
  have h6 : ρ 6 = fcause (ρ 1) (ρ 2) (ρ 3) := hiv.2.2.2 h5
  have hL : mvL [(1, .int (ρ 1)), (2, .int (ρ 2)), (3, .int (ρ 3))] al := mvL_cons l1 (mvL_cons l2 (mvL_cons l3 mvL_nil))
  rcases cause_rng hX hL (H, 0, 0) with ⟨hR, al', hL', hst⟩ | ⟨hR, al', hst⟩
  · obtain ⟨c, hc, hcz⟩ := fcause0_v (ρ 1).toInt (ρ 2).toInt (ρ 3).toInt
    have hz : Int32.ofInt (fcause0 (ρ 1).toInt (ρ 2).toInt (ρ 3).toInt) = Int32.ofNat (c + 1) := by rw [hcz, Int32.ofInt_eq_ofNat]
    obtain ⟨iv', hiv', hk⟩ := fcs_all_1 hiv h hc (h6.trans ((fcause_in hR).trans hz))
    have hto := hst _ (cause_c hX rfl rfl rfl hR hL')
    rw [hz] at hto
    exact fGd_to hto hk hiv' rfl hh rfl rfl
  · obtain ⟨iv', hiv', hk⟩ := fcs_all_1 hiv h (c := 0) (by decide) (h6.trans (fcause_out hR))
    refine fGd_st (g' := g) hst rfl rfl ?_
    exact fo_throw (lp := []) (D := 0) (fA_97 (pc := 32) (e := (.new 85, 1, 2, 87)) rfl) fh_97 ρ b (d + 1) _ K 0 fj0 (Nat.zero_le _) hX (fun i q hq => by cases hq) iv' [] [] g al' H 0 0 hiv' (fLR_nil _ _ _) hh hk
