section FOP2
variable {μ D pc : Nat} {lp : List Nat} {x : fX} {a b n : Nat}
theorem fo_ild {ln k : Nat} {e : mjE} (he : fAt μ pc e) (hx : fSB μ lp D (pc + ln) x) (ho : ∀ al y st r, mj_ld al k = some (.int y) → mj_op e (pc, al, st, r) = some (pc + ln, al, .int y :: st, r)) : fSB μ lp D pc (o_iload k x) :=
  fs_s he hx fun ρ b E lv st g al Hp c s h1 h2 h3 h => by
    unfold o_iload at h
    cases hv : fl_get k lv with
    | inl n =>
      rw [hv] at h
      exact ⟨E.1, lv, .inl n :: st, g, al, Hp, c, s, h1, h2, h3, h, ho al _ _ _ (fl_ld h2 hv (fv_si n)), rfl, rfl⟩
    | inr r =>
      rw [hv] at h
      have h : fx_load r (Prod.fst E) (fun v => x E lv (v :: st) g) (fun iv v => x (fe_iv E iv) lv (v :: st) g) = true := h
      obtain ⟨j, hj, e9, h9⟩ := fx_load_1 (b := b) h1 h
      clear h
      subst e9
      have h := h9
      clear h9
      have hl : mj_ld al k = some (.int (ρ j)) := (fl_ld h2 hv (fv_sk (by omega))).trans (by rw [fv_sym hj])
      rcases h with ⟨v, q1, q2⟩ | ⟨iv', v, q1, q2, q3⟩
      · exact ⟨E.1, lv, v :: st, g, al, Hp, c, s, h1, h2, h3, q1, (ho al _ _ _ hl).trans (by rw [← q2]; rfl), rfl, rfl⟩
      · exact ⟨iv', lv, v :: st, g, al, Hp, c, s, q2, h2, h3, q1, (ho al _ _ _ hl).trans (by rw [← q3]; rfl), rfl, rfl⟩
theorem fo_iload_n {k : Fin 4} (he : fAt μ pc (.iload_n k, a, b, n)) (hx : fSB μ lp D (pc + 1) x) : fSB μ lp D pc (o_iload k x) := fo_ild he hx fun _ _ st r h => mq_iload_n h st r
theorem fo_iload {k : Nat} (he : fAt μ pc (.iload k, a, b, n)) (hx : fSB μ lp D (pc + 2) x) : fSB μ lp D pc (o_iload k x) := fo_ild he hx fun _ _ st r h => mq_iload h st r
theorem fo_ald_ {ln k : Nat} {e : mjE} (he : fAt μ pc e) (hx : fSB μ lp D (pc + ln) x) (ho : ∀ al r0 st r, mj_ld al k = some (fv_r r0) → mj_op e (pc, al, st, r) = some (pc + ln, al, fv_r r0 :: st, r)) : fSB μ lp D pc (o_aload k x) :=
  fs_0 he hx fun ρ b E lv st g al r h1 h2 h3 h => by
    unfold o_aload at h
    cases hv : fl_get k lv with
    | inl n => rw [hv] at h; cases h
    | inr q =>
      rw [hv] at h
      cases q with
      | inr q => cases h
      | inl r0 => exact ⟨lv, .inr (.inl r0) :: st, al, h2, h, ho al r0 _ _ (fl_ld h2 hv (fv_sr r0))⟩
theorem fo_aload_n {k : Fin 4} (he : fAt μ pc (.aload_n k, a, b, n)) (hx : fSB μ lp D (pc + 1) x) : fSB μ lp D pc (o_aload k x) := fo_ald_ he hx fun _ _ st r h => mq_aload_n h st r
theorem fo_aload {k : Nat} (he : fAt μ pc (.aload k, a, b, n)) (hx : fSB μ lp D (pc + 2) x) : fSB μ lp D pc (o_aload k x) := fo_ald_ he hx fun _ _ st r h => mq_aload h st r
theorem fo_lld_ {ln k : Nat} {e : mjE} (he : fAt μ pc e) (hx : fSB μ lp D (pc + ln) x) (ho : ∀ al y st r, mj_ld al k = some (.long y) → mj_op e (pc, al, st, r) = some (pc + ln, al, .long y :: st, r)) : fSB μ lp D pc (o_lload k x) :=
  fs_0 he hx fun ρ b E lv st g al r h1 h2 h3 h => by
    unfold o_lload at h
    cases hv : fl_get k lv with
    | inl n => rw [hv] at h; cases h
    | inr q =>
      rw [hv] at h
      cases q with
      | inl r0 => cases h
      | inr q =>
        cases q with
        | inl n => exact ⟨lv, .inr (.inr (.inl n)) :: st, al, h2, h, ho al _ _ _ (fl_ld h2 hv (fv_sl n))⟩
        | inr j =>
          have h : fx_loadL j (Prod.fst E) (fun v => x E lv (v :: st) g) = true := h
          obtain ⟨v, q1, y, q2, q3⟩ := fx_loadL_1 (b := b) h1 h
          have hj : j ≤ 15 := Nat.le_of_ble_eq_true (fB_1 (show fB (Nat.ble j 15) (fB (Nat.ble 8 j) (fi_loadL (Nat.sub j 8) (Prod.fst E) (fun v => x E lv (v :: st) g)) false) false = true from h)).1
          refine ⟨lv, v :: st, al, h2, q1, (ho al y _ _ ?_).trans (by rw [← q3]; rfl)⟩
          refine (fl_ld h2 hv (fv_sk (by omega))).trans ?_
          rw [← q2]
          rfl
theorem fo_lload_n {k : Fin 4} (he : fAt μ pc (.lload_n k, a, b, n)) (hx : fSB μ lp D (pc + 1) x) : fSB μ lp D pc (o_lload k x) := fo_lld_ he hx fun _ _ st r h => mq_lload_n h st r
theorem fo_lload {k : Nat} (he : fAt μ pc (.lload k, a, b, n)) (hx : fSB μ lp D (pc + 2) x) : fSB μ lp D pc (o_lload k x) := fo_lld_ he hx fun _ _ st r h => mq_lload h st r
theorem fx_int_1 {ρ : Nat → Int32} {b : Nat} {r : Nat ⊕ (Nat ⊕ Nat)} {k : Bool} (h : fx_int r k = true) : k = true ∧ ∃ y, fv ρ b (.inr r) = .int y := by
  cases r with
  | inl r => cases h
  | inr q =>
    cases q with
    | inl n => cases h
    | inr j =>
      obtain ⟨h1, h2⟩ := fB_1 (show fB (Nat.ble j 7) k false = true from h)
      exact ⟨h2, _, fv_sym (Nat.le_of_ble_eq_true h1)⟩
theorem fo_ist_ {ln k : Nat} {e : mjE} (he : fAt μ pc e) (hx : fSB μ lp D (pc + ln) x) (ho : ∀ al y st r, mj_op e (pc, al, .int y :: st, r) = some (pc + ln, mj_s1 k (.int y) al, st, r)) : fSB μ lp D pc (o_istore k x) :=
  fs_0 he hx fun ρ b E lv st g al r h1 h2 h3 h => by
    cases st with
    | nil => cases h
    | cons v t =>
      cases v with
      | inl n =>
        obtain ⟨lv', q1, q2, q3⟩ := fl_set_1 k fF (.inl n) lv _ (show fl_set k fF (.inl n) lv (fun lv => x E lv t g) = true from h)
        exact ⟨lv', t, _, fl_s1 h2 q2 q3, q1, ho al _ _ _⟩
      | inr q =>
        obtain ⟨h, y, hy⟩ := fx_int_1 (ρ := ρ) (b := b) (show fx_int q (fl_set k fF (.inr q) lv (fun lv => x E lv t g)) = true from h)
        obtain ⟨lv', q1, q2, q3⟩ := fl_set_1 k fF (.inr q) lv _ h
        refine ⟨lv', t, _, fl_s1 h2 q2 q3, q1, ?_⟩
        have e : (Sum.inr q :: t).map (fv ρ b) = .int y :: t.map (fv ρ b) := by rw [← hy]; rfl
        rw [e, hy]
        exact ho al _ _ _
theorem fo_istore_n {k : Fin 4} (he : fAt μ pc (.istore_n k, a, b, n)) (hx : fSB μ lp D (pc + 1) x) : fSB μ lp D pc (o_istore k x) := fo_ist_ he hx fun _ _ _ _ => rfl
theorem fo_istore {k : Nat} (he : fAt μ pc (.istore k, a, b, n)) (hx : fSB μ lp D (pc + 2) x) : fSB μ lp D pc (o_istore k x) := fo_ist_ he hx fun _ _ _ _ => rfl
theorem fo_ast_ {ln k : Nat} {e : mjE} (he : fAt μ pc e) (hx : fSB μ lp D (pc + ln) x) (ho : ∀ al r0 st r, mj_op e (pc, al, fv_r r0 :: st, r) = some (pc + ln, mj_s1 k (fv_r r0) al, st, r)) : fSB μ lp D pc (o_astore k x) :=
  fs_0 he hx fun ρ b E lv st g al r h1 h2 h3 h => by
    obtain ⟨r0, t, e9, h9⟩ := fwr_1 h
    clear h
    subst e9
    have h := h9
    clear h9
    obtain ⟨lv', q1, q2, q3⟩ := fl_set_1 k fF (.inr (.inl r0)) lv _ h
    exact ⟨lv', t, _, fl_s1 h2 q2 q3, q1, ho al _ _ _⟩
theorem fo_astore_n {k : Fin 4} (he : fAt μ pc (.astore_n k, a, b, n)) (hx : fSB μ lp D (pc + 1) x) : fSB μ lp D pc (o_astore k x) := fo_ast_ he hx fun _ r0 _ _ => by cases r0 <;> rfl
theorem fo_astore {k : Nat} (he : fAt μ pc (.astore k, a, b, n)) (hx : fSB μ lp D (pc + 2) x) : fSB μ lp D pc (o_astore k x) := fo_ast_ he hx fun _ r0 _ _ => by cases r0 <;> rfl
theorem fx_long_1 {ρ : Nat → Int32} {b k : Nat} {B : Bool} (h : fx_long k B = true) : B = true ∧ 8 ≤ k ∧ k ≤ 15 ∧ fv ρ b (.inr (.inr (.inr k))) = .long (ρ (k - 8)).toInt64 := by
  obtain ⟨h1, h⟩ := fB_1 (show fB (Nat.ble k 15) (fB (Nat.ble 8 k) B false) false = true from h)
  obtain ⟨h2, h⟩ := fB_1 h
  have h1 := Nat.le_of_ble_eq_true h1
  have h2 := Nat.le_of_ble_eq_true h2
  refine ⟨h, h2, h1, ?_⟩
  show fv_o ρ b k = _
  unfold fv_o
  rw [if_neg (by omega), if_pos h1]
theorem fo_lst_ {ln k : Nat} {e : mjE} (he : fAt μ pc e) (hx : fSB μ lp D (pc + ln) x) (ho : ∀ al y st r, mj_op e (pc, al, .long y :: st, r) = some (pc + ln, mj_s2 k (.long y) al, st, r)) : fSB μ lp D pc (o_lstore k x) :=
  fs_0 he hx fun ρ b E lv st g al r h1 h2 h3 h => by
    cases st with
    | nil => cases h
    | cons v t =>
      cases v with
      | inl n => cases h
      | inr q =>
        cases q with
        | inl r0 => cases h
        | inr q =>
          cases q with
          | inl m =>
            obtain ⟨lv', q1, q2, q3⟩ := fl_set2_1 k fF (.inr (.inr (.inl m))) lv _ (show fl_set2 k fF (.inr (.inr (.inl m))) lv (fun lv => x E lv t g) = true from h)
            exact ⟨lv', t, _, fl_s2 h2 q2 q3, q1, ho al _ _ _⟩
          | inr j =>
            obtain ⟨h, -, -, hy⟩ := fx_long_1 (ρ := ρ) (b := b) (show fx_long j (fl_set2 k fF (.inr (.inr (.inr j))) lv (fun lv => x E lv t g)) = true from h)
            obtain ⟨lv', q1, q2, q3⟩ := fl_set2_1 k fF (.inr (.inr (.inr j))) lv _ h
            refine ⟨lv', t, _, fl_s2 h2 q2 q3, q1, ?_⟩
            have e : (Sum.inr (Sum.inr (Sum.inr j)) :: t).map (fv ρ b) = .long (ρ (j - 8)).toInt64 :: t.map (fv ρ b) := by rw [← hy]; rfl
            rw [e, hy]
            exact ho al _ _ _
theorem fo_lstore_n {k : Fin 4} (he : fAt μ pc (.lstore_n k, a, b, n)) (hx : fSB μ lp D (pc + 1) x) : fSB μ lp D pc (o_lstore k x) := fo_lst_ he hx fun _ _ _ _ => rfl
theorem fo_lstore {k : Nat} (he : fAt μ pc (.lstore k, a, b, n)) (hx : fSB μ lp D (pc + 2) x) : fSB μ lp D pc (o_lstore k x) := fo_lst_ he hx fun _ _ _ _ => rfl
theorem fo_dstore {k : Nat} (he : fAt μ pc (.dstore k, a, b, n)) (hx : fSB μ lp D (pc + 2) x) : fSB μ lp D pc (o_dstore k x) :=
  fs_0 he hx fun ρ b E lv st g al r h1 h2 h3 h => by
    obtain ⟨t, e9, h9⟩ := fwd_1 h
    clear h
    subst e9
    have h := h9
    clear h9
    obtain ⟨lv', q1, q2, q3⟩ := fl_set2_1 k fF (.inr (.inr (.inr 24))) lv _ h
    exact ⟨lv', t, _, fl_s2 h2 q2 q3, q1, rfl⟩
theorem fo_fstore {k : Nat} (he : fAt μ pc (.fstore k, a, b, n)) (hx : fSB μ lp D (pc + 2) x) : fSB μ lp D pc (o_fstore k x) :=
  fs_0 he hx fun ρ b E lv st g al r h1 h2 h3 h => by
    obtain ⟨t, e9, h9⟩ := fwd_1 h
    clear h
    subst e9
    have h := h9
    clear h9
    obtain ⟨lv', q1, q2, q3⟩ := fl_set_1 k fF (.inr (.inr (.inr 16))) lv _ h
    exact ⟨lv', t, _, fl_s1 h2 q2 q3, q1, rfl⟩
theorem fo_iinc {k v : Nat} {w : Int} (he : fAt μ pc (.iinc k w, a, b, n)) (hw : Int32.ofInt w = Int32.ofNat v) (hx : fSB μ lp D (pc + 3) x) : fSB μ lp D pc (o_iinc k v x) :=
  fs_0 he hx fun ρ b E lv st g al r h1 h2 h3 h => by
    unfold o_iinc at h
    cases hv : fl_get k lv with
    | inr q => rw [hv] at h; cases h
    | inl m =>
      rw [hv] at h
      have h : fl_set k fF (.inl (fi_add m v)) lv (fun lv => x E lv st g) = true := frc_t (n := fi_add m v) (k := fun m => fl_set k fF (.inl m) lv (fun lv => x E lv st g)) h
      obtain ⟨lv', q1, q2, q3⟩ := fl_set_1 k fF (.inl (fi_add m v)) lv _ h
      refine ⟨lv', st, _, fl_s1 h2 q2 q3, q1, ?_⟩
      rw [mq_iinc (fl_ld h2 hv (fv_si m)), hw, fn_add]
      rfl
end FOP2
