/-! A LOCAL WHOSE INT IS KNOWN BY NOW -/
noncomputable def fwlit (v : fV) (iv : fI) (k : fV → Bool) : Bool := Sum.rec (motive := fun _ => Bool) (fun n => k (Sum.inl n)) (fun q => Sum.rec (motive := fun _ => Bool) (fun _ => false) (fun q => Sum.rec (motive := fun _ => Bool) (fun _ => false) (fun j => fB (Nat.ble j 7) (Prod.rec (motive := fun _ => Bool) (fun lo hi => fB (Nat.beq lo hi) (frc (fi_b lo) (fun m => k (Sum.inl m))) false) (fi_get j iv)) false) q) q) v
noncomputable def o_lit (k : Nat) (nx : fX) : fX := fun E lv st g => fwlit (fl_get k lv) (Prod.fst E) (fun v => fl_set k fF v lv (fun lv => nx E lv st g))
theorem fwlit_1 {ρ : Nat → Int32} {b : Nat} {v : fV} {iv : fI} {k : fV → Bool} (hiv : fIv ρ iv) (h : fwlit v iv k = true) : ∃ n, k (Sum.inl n) = true ∧ fv_s v ∧ fv ρ b v = .int (Int32.ofNat n) := by
  cases v with
  | inl n => exact ⟨n, h, fv_si n, rfl⟩
  | inr q =>
    cases q with
    | inl r => cases h
    | inr q =>
      cases q with
      | inl n => cases h
      | inr j =>
        obtain ⟨h1, h2⟩ := fB_1 (show fB (Nat.ble j 7) (Prod.rec (motive := fun _ => Bool) (fun lo hi => fB (Nat.beq lo hi) (frc (fi_b lo) (fun m => k (Sum.inl m))) false) (fi_get j iv)) false = true from h)
        have h1 := Nat.le_of_ble_eq_true h1
        have hb := hiv.1 j h1
        generalize fi_get j iv = p at h2 hb
        obtain ⟨lo, hi⟩ := p
        have hb1 : lo ≤ fbi (ρ j) := hb.1
        have hb2 : fbi (ρ j) ≤ hi := hb.2
        obtain ⟨h3, h4⟩ := fB_1 (show fB (Nat.beq lo hi) (frc (fi_b lo) (fun m => k (Sum.inl m))) false = true from h2)
        have h3 := Nat.eq_of_beq_eq_true h3
        have e := fbi_inv (x := ρ j) (n := lo) (by omega)
        exact ⟨_, frc_t (k := fun m => k (Sum.inl m)) h4, fv_sk (Nat.le_trans h1 (by decide)), (fv_sym h1).trans (congrArg Value.int e)⟩
theorem fo_lit {μ D pc : Nat} {lp : List Nat} {x : fX} {k : Nat} (hx : fSB μ lp D pc x) : fSB μ lp D pc (o_lit k x) := by
  intro ρ b d X K m jmp hD hX hj iv lv st g al Hp c s hiv hl hh h
  obtain ⟨n, h1, h2, h3⟩ := fwlit_1 (b := b) hiv h
  obtain ⟨lv', q1, q2, q3⟩ := fl_set_1 k fF (Sum.inl n) lv _ h1
  refine hx ρ b d X K m jmp hD hX hj iv lv' st g al Hp c s hiv (fun j => ?_) hh q1
  rw [q2]
  by_cases hjk : j = k
  · rw [if_pos hjk, hjk]
    exact Or.inr (Or.inr ((fl_ld hl rfl h2).trans (congrArg some h3)))
  · rw [if_neg hjk]
    exact hl j
