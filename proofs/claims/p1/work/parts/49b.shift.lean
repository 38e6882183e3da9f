theorem mj_ofI (x : Int32) : Int32.ofNat x.toBitVec.toNat = x := by
  apply Int32.toBitVec_inj.mp
  simp
/-! BITS OF AN INT THAT ISN'T KNOWN: all but its low ones -/
noncomputable def fi_andz (k c : Nat) (iv : fI) (Z N : fI → Bool) : Bool := frc (Nat.sub 4294967296 c) (fun p => fB (Nat.beq (Nat.pow 2 (Nat.log2 p)) p) (fB (Nat.ble p 2147483648) (fi_lt k 2147483648 iv N (fun iv => fi_lt k (Nat.add 2147483648 p) iv Z N)) false) false)
noncomputable def o_andz (zr nz : fX) : fX := fun E lv st g => fw2 st (fx_cmp st (fun k c t => fB (Nat.ble c 4294967295) (fi_andz k c (Prod.fst E) (fun iv => zr (fe_iv E iv) lv t g) (fun iv => nz (fe_iv E iv) lv t g)) false) (fun _ _ _ => false)) (fun x y t => fB (Nat.beq (Nat.mod (Nat.land x y) 4294967296) 0) (zr E lv t g) (nz E lv t g))
theorem fz_land {n j : Nat} (hn : n < 2 ^ 32) (hj : j ≤ 31) : n &&& (2 ^ 32 - 2 ^ j) = 0 ↔ n < 2 ^ j := by
  have hp : 0 < 2 ^ j := Nat.pow_pos (by decide)
  have hlt : 2 ^ j ≤ 2 ^ 31 := Nat.pow_le_pow_right (by decide) hj
  have e31 : (2 : Nat) ^ 31 = 2147483648 := rfl
  have e32 : (2 : Nat) ^ 32 = 4294967296 := rfl
  have hc : ∀ i, (2 ^ 32 - 2 ^ j).testBit i = (decide (i < 32) && !decide (i < j)) := by
    intro i
    have e : 2 ^ 32 - 2 ^ j = 2 ^ 32 - ((2 ^ j - 1) + 1) := by omega
    rw [e, Nat.testBit_two_pow_sub_succ (by omega), Nat.testBit_two_pow_sub_one]
  constructor
  · intro h
    refine Nat.lt_pow_two_of_testBit n fun i hi => ?_
    by_cases h32 : i < 32
    · have h2 : (n &&& (2 ^ 32 - 2 ^ j)).testBit i = false := by rw [h, Nat.zero_testBit]
      rw [Nat.testBit_and, hc, decide_eq_true h32, decide_eq_false (show ¬ i < j by omega)] at h2
      simpa using h2
    · exact Nat.testBit_lt_two_pow (Nat.lt_of_lt_of_le hn (Nat.pow_le_pow_right (by decide) (by omega)))
  · intro h
    refine Nat.eq_of_testBit_eq fun i => ?_
    rw [Nat.testBit_and, hc, Nat.zero_testBit]
    by_cases hi : i < j
    · rw [decide_eq_true hi]
      simp
    · rw [Nat.testBit_lt_two_pow (Nat.lt_of_lt_of_le h (Nat.pow_le_pow_right (by decide) (by omega)))]
      simp
theorem fz_and (x : Int32) {c j : Nat} (hj : j ≤ 31) (hc : 4294967296 - c = 2 ^ j) (hc2 : c ≤ 4294967295) : x &&& Int32.ofNat c = 0 ↔ (2147483648 ≤ fbi x ∧ fbi x < 2147483648 + 2 ^ j) := by
  have hn : x.toBitVec.toNat < 4294967296 := x.toBitVec.isLt
  have hx : x = Int32.ofNat x.toBitVec.toNat := (mj_ofI x).symm
  have hf := fbi_eq x
  have hi : x.toInt = if x.toBitVec.toNat < 2147483648 then (x.toBitVec.toNat : Int) else (x.toBitVec.toNat : Int) - 4294967296 := by
    have := fn_int x.toBitVec.toNat
    rw [← hx, Nat.mod_eq_of_lt hn] at this
    exact this
  have hlt : 2 ^ j ≤ 2 ^ 31 := Nat.pow_le_pow_right (by decide) hj
  have e31 : (2 : Nat) ^ 31 = 2147483648 := rfl
  have key : x &&& Int32.ofNat c = 0 ↔ x.toBitVec.toNat < 2 ^ j := by
    have e0 : (0 : Int32) = Int32.ofNat 0 := rfl
    generalize x.toBitVec.toNat = n at hx hn
    subst hx
    rw [fn_and, e0, fn_inj]
    have hle : Nat.land n c ≤ n := Nat.and_le_left
    rw [Nat.mod_eq_of_lt (by omega), Nat.zero_mod, ← fz_land (show n < 2 ^ 32 from hn) hj]
    have ec : 2 ^ 32 - 2 ^ j = c := by
      have e32 : (2 : Nat) ^ 32 = 4294967296 := rfl
      omega
    rw [ec]
    exact Iff.rfl
  rw [key]
  generalize x.toBitVec.toNat = n at *
  split at hi <;> omega
theorem fi_andz_1 {ρ : Nat → Int32} {k c : Nat} {iv : fI} {Z N : fI → Bool} (hk : k ≤ 7) (hc2 : c ≤ 4294967295) (hiv : fIv ρ iv) (h : fi_andz k c iv Z N = true) : (ρ k &&& Int32.ofNat c = 0 ∧ ∃ iv', fIv ρ iv' ∧ Z iv' = true) ∨ (¬ ρ k &&& Int32.ofNat c = 0 ∧ ∃ iv', fIv ρ iv' ∧ N iv' = true) := by
  have h := frc_t (k := fun p => fB (Nat.beq (Nat.pow 2 (Nat.log2 p)) p) (fB (Nat.ble p 2147483648) (fi_lt k 2147483648 iv N (fun iv => fi_lt k (Nat.add 2147483648 p) iv Z N)) false) false) h
  obtain ⟨h1, h⟩ := fB_1 h
  obtain ⟨h2, h⟩ := fB_1 h
  have h1 := Nat.eq_of_beq_eq_true h1
  have h2 := Nat.le_of_ble_eq_true h2
  have e : 4294967296 - c = 2 ^ Nat.log2 (4294967296 - c) := h1.symm
  have hj : Nat.log2 (4294967296 - c) ≤ 31 := by
    refine Nat.le_of_not_lt fun q => ?_
    have h5 : 2 ^ 32 ≤ 2 ^ Nat.log2 (4294967296 - c) := Nat.pow_le_pow_right (by decide) q
    have e32 : (2 : Nat) ^ 32 = 4294967296 := rfl
    have h2 : 4294967296 - c ≤ 2147483648 := h2
    omega
  have key := fz_and (ρ k) hj e hc2
  rw [← e] at key
  rcases fi_lt_1 hk hiv h with ⟨q1, q2⟩ | ⟨q1, iv', q2, q3⟩
  · exact Or.inr ⟨fun q => absurd (key.mp q).1 (by omega), q2⟩
  · rcases fi_lt_1 hk q2 q3 with ⟨q4, q5⟩ | ⟨q4, q5⟩
    · have q4 : fbi (ρ k) < 2147483648 + (4294967296 - c) := q4
      exact Or.inl ⟨key.mpr ⟨by omega, q4⟩, q5⟩
    · have q4 : ¬ fbi (ρ k) < 2147483648 + (4294967296 - c) := q4
      exact Or.inr ⟨fun q => q4 (key.mp q).2, q5⟩
section FAZ
variable {μ D pc pcZ pcN : Nat} {lp : List Nat} {zr nz : fX} {a b n : Nat}
theorem fo_andz {e2 : mjE} (he : fAt μ pc (.iand, a, b, n)) (he2 : fAt μ (pc + 1) e2) (hz : fSB μ lp D pcZ zr) (hn : fSB μ lp D pcN nz)
    (ho : ∀ al X st r, mj_op e2 (pc + 1, al, .int X :: st, r) = if X = 0 then some (pcZ, al, st, r) else some (pcN, al, st, r)) : fSB μ lp D pc (o_andz zr nz) := by
  intro ρ b d X K m jmp hD hX hj iv lv st g al Hp c s hiv hl hh h
  have key : ∃ (U V : Int32) (t : fL) (iv' : fI), st.map (fv ρ b) = .int V :: .int U :: t.map (fv ρ b) ∧ fIv ρ iv' ∧ ((U &&& V = 0 ∧ zr (iv', (m, (jmp, K))) lv t g = true) ∨ (¬ U &&& V = 0 ∧ nz (iv', (m, (jmp, K))) lv t g = true)) := by
    rcases fw2_1 h with ⟨x, y, t, e9, h9⟩ | h
    · clear h
      subst e9
      refine ⟨Int32.ofNat x, Int32.ofNat y, t, iv, rfl, hiv, ?_⟩
      have e0 : (0 : Int32) = Int32.ofNat 0 := rfl
      rw [fn_and, e0, fn_inj]
      rcases fB_t h9 with ⟨h1, h2⟩ | ⟨h1, h2⟩
      · exact Or.inl ⟨Nat.eq_of_beq_eq_true h1, h2⟩
      · refine Or.inr ⟨fun q => ?_, h2⟩
        have h3 : Nat.beq (Nat.mod (Nat.land x y) 4294967296) 0 = true := Nat.beq_eq.mpr q
        rw [h3] at h1
        cases h1
    · rcases fx_cmp_1 h with ⟨k, y, t, e9, hk, h9⟩ | ⟨x, k, t, e9, hk, h9⟩
      · clear h
        subst e9
        obtain ⟨hc, h9⟩ := fB_1 h9
        rcases fi_andz_1 hk (Nat.le_of_ble_eq_true hc) hiv h9 with ⟨h1, iv', h2, h3⟩ | ⟨h1, iv', h2, h3⟩
        · exact ⟨_, _, t, iv', fc_L hk, h2, Or.inl ⟨h1, h3⟩⟩
        · exact ⟨_, _, t, iv', fc_L hk, h2, Or.inr ⟨h1, h3⟩⟩
      · cases h9
  obtain ⟨U, V, t, iv', e, h2, h3⟩ := key
  rw [e]
  refine fs_op0 hX (f := (pc, al, .int V :: .int U :: t.map (fv ρ b), Hp, c, s)) (f' := (pc + 1, al, .int (U &&& V) :: t.map (fv ρ b), Hp, c, s)) he rfl rfl rfl ?_
  rcases h3 with ⟨h3, h4⟩ | ⟨h3, h4⟩
  · exact fs_op0 hX (f := (pc + 1, al, .int (U &&& V) :: t.map (fv ρ b), Hp, c, s)) (g' := g) he2 ((ho al _ _ _).trans (if_pos h3)) rfl rfl (hz ρ b d X K m jmp hD hX hj iv' lv t g al Hp c s h2 hl hh h4)
  · exact fs_op0 hX (f := (pc + 1, al, .int (U &&& V) :: t.map (fv ρ b), Hp, c, s)) (g' := g) he2 ((ho al _ _ _).trans (if_neg h3)) rfl rfl (hn ρ b d X K m jmp hD hX hj iv' lv t g al Hp c s h2 hl hh h4)
theorem fo_andz_eq {off : Int} {a2 b2 n2 : Nat} (he : fAt μ pc (.iand, a, b, n)) (he2 : fAt μ (pc + 1) (.ifCond .eq off, a2, b2, n2)) (hp : mj_tg (pc + 1) off = pcZ) (hz : fSB μ lp D pcZ zr) (hn : fSB μ lp D (pc + 1 + 3) nz) : fSB μ lp D pc (o_andz zr nz) :=
  fo_andz he he2 hz hn (fun al X st r => by rw [← hp]; rfl)
theorem fo_andz_ne {off : Int} {a2 b2 n2 : Nat} (he : fAt μ pc (.iand, a, b, n)) (he2 : fAt μ (pc + 1) (.ifCond .ne off, a2, b2, n2)) (hp : mj_tg (pc + 1) off = pcN) (hn : fSB μ lp D pcN nz) (hz : fSB μ lp D (pc + 1 + 3) zr) : fSB μ lp D pc (o_andz zr nz) :=
  fo_andz he he2 hz hn (fun al X st r => by
    have e : mj_op (.ifCond .ne off, a2, b2, n2) (pc + 1, al, .int X :: st, r) = if ¬ X = 0 then some (mj_tg (pc + 1) off, al, st, r) else some (pc + 1 + 3, al, st, r) := rfl
    rw [e, hp]
    by_cases h : X = 0
    · rw [if_neg (fun q => q h), if_pos h]
    · rw [if_pos h, if_neg h])
end FAZ
