section FOP2
variable {μ D pc : Nat} {lp : List Nat} {x : fX} {a b n : Nat}
theorem fo_bin {f : Nat → Nat → Nat} {e : mjE} (he : fAt μ pc e) (hx : fSB μ lp D (pc + 1) x) (ho : ∀ al y z st r, mj_op e (pc, al, .int (Int32.ofNat y) :: .int (Int32.ofNat z) :: st, r) = some (pc + 1, al, .int (Int32.ofNat (f z y)) :: st, r)) : fSB μ lp D pc (o_bin f x) :=
  fs_0 he hx fun ρ b E lv st g al r h1 h2 h3 h => by
    obtain ⟨z, y, t, e9, h9⟩ := fw2_f h
    clear h
    subst e9
    have h := h9
    clear h9
    exact ⟨lv, .inl (f z y) :: t, al, h2, frc_t (k := fun z => x E lv (Sum.inl z :: t) g) h, ho al y z _ _⟩
theorem fo_iadd (he : fAt μ pc (.iadd, a, b, n)) (hx : fSB μ lp D (pc + 1) x) : fSB μ lp D pc (o_bin fi_add x) := fo_bin he hx fun al y z st r => by rw [← fn_add]; rfl
theorem fo_isub (he : fAt μ pc (.isub, a, b, n)) (hx : fSB μ lp D (pc + 1) x) : fSB μ lp D pc (o_bin fi_sub x) := fo_bin he hx fun al y z st r => by rw [← fn_sub]; rfl
theorem fo_imul (he : fAt μ pc (.imul, a, b, n)) (hx : fSB μ lp D (pc + 1) x) : fSB μ lp D pc (o_bin fi_mul x) := fo_bin he hx fun al y z st r => by rw [← fn_mul]; rfl
theorem fo_iand (he : fAt μ pc (.iand, a, b, n)) (hx : fSB μ lp D (pc + 1) x) : fSB μ lp D pc (o_bin Nat.land x) := fo_bin he hx fun al y z st r => by rw [← fn_and]; rfl
theorem fo_ior (he : fAt μ pc (.ior, a, b, n)) (hx : fSB μ lp D (pc + 1) x) : fSB μ lp D pc (o_bin Nat.lor x) := fo_bin he hx fun al y z st r => by rw [← fn_or]; rfl
theorem fo_ixor (he : fAt μ pc (.ixor, a, b, n)) (hx : fSB μ lp D (pc + 1) x) : fSB μ lp D pc (o_bin Nat.xor x) := fo_bin he hx fun al y z st r => by rw [← fn_xor]; rfl
theorem fo_ishl (he : fAt μ pc (.ishl, a, b, n)) (hx : fSB μ lp D (pc + 1) x) : fSB μ lp D pc (o_bin fi_shl x) := fo_bin he hx fun al y z st r => by rw [← fn_shl]; rfl
theorem fo_ishr (he : fAt μ pc (.ishr, a, b, n)) (hx : fSB μ lp D (pc + 1) x) : fSB μ lp D pc (o_bin fi_shr x) := fo_bin he hx fun al y z st r => by rw [← fn_shr]; rfl
theorem fo_iushr (he : fAt μ pc (.iushr, a, b, n)) (hx : fSB μ lp D (pc + 1) x) : fSB μ lp D pc (o_bin fi_ushr x) := fo_bin he hx fun al y z st r => by rw [← fn_ushr]; rfl
theorem mq_irem {a b n pc : Nat} {al : List (Nat × Value)} {x y : Int32} (h : ¬ y = 0) (st : List Value) (r : mjH × Nat × Nat) : mj_op (.irem, a, b, n) (pc, al, .int y :: .int x :: st, r) = some (pc + 1, al, .int (x - x / y * y) :: st, r) := by
  unfold mj_op; dsimp only; rw [if_neg h]; rfl
theorem mq_idiv {a b n pc : Nat} {al : List (Nat × Value)} {x y : Int32} (h : ¬ y = 0) (st : List Value) (r : mjH × Nat × Nat) : mj_op (.idiv, a, b, n) (pc, al, .int y :: .int x :: st, r) = some (pc + 1, al, .int (x / y) :: st, r) := by
  unfold mj_op; dsimp only; rw [if_neg h]; rfl
theorem fo_irem (he : fAt μ pc (.irem, a, b, n)) (hx : fSB μ lp D (pc + 1) x) : fSB μ lp D pc (o_irem x) :=
  fs_0 he hx fun ρ b E lv st g al r h1 h2 h3 h => by
    obtain ⟨z, y, t, e9, h9⟩ := fw2_f h
    clear h
    subst e9
    have h := h9
    clear h9
    obtain ⟨h0, h⟩ := fB_2 h
    refine ⟨lv, .inl (fi_rem z y) :: t, al, h2, frc_t (k := fun z => x E lv (Sum.inl z :: t) g) h, ?_⟩
    refine (mq_irem (fn_0 y h0) (t.map (fv ρ b)) r).trans ?_
    rw [fn_rem h0]
    rfl
theorem fo_idiv (he : fAt μ pc (.idiv, a, b, n)) (hx : fSB μ lp D (pc + 1) x) : fSB μ lp D pc (o_idiv x) :=
  fs_0 he hx fun ρ b E lv st g al r h1 h2 h3 h => by
    obtain ⟨z, y, t, e9, h9⟩ := fw2_f h
    clear h
    subst e9
    have h := h9
    clear h9
    have h := frc_t (n := Nat.mod z 4294967296) (k := fun u => frc (Nat.mod y 4294967296) (fun v => fB (Nat.beq v 0) false (fB (fi_ng u) false (fB (fi_ng v) false (frc (Nat.div u v) (fun z => x E lv (Sum.inl z :: t) g)))))) h
    have h := frc_t (n := Nat.mod y 4294967296) (k := fun v => fB (Nat.beq v 0) false (fB (fi_ng (Nat.mod z 4294967296)) false (fB (fi_ng v) false (frc (Nat.div (Nat.mod z 4294967296) v) (fun z => x E lv (Sum.inl z :: t) g))))) h
    obtain ⟨h0, h⟩ := fB_2 h
    obtain ⟨hz, h⟩ := fB_2 h
    obtain ⟨hy, h⟩ := fB_2 h
    have h := frc_t (k := fun z => x E lv (Sum.inl z :: t) g) h
    refine ⟨lv, _ :: t, al, h2, h, ?_⟩
    refine (mq_idiv (fn_0 y h0) (t.map (fv ρ b)) r).trans ?_
    rw [fn_div hz hy]
    rfl
theorem fo_lbin {f : Nat → Nat → Nat} {e : mjE} (he : fAt μ pc e) (hx : fSB μ lp D (pc + 1) x) (ho : ∀ al y z st r, mj_op e (pc, al, .long (Int64.ofNat y) :: .long (Int64.ofNat z) :: st, r) = some (pc + 1, al, .long (Int64.ofNat (f z y)) :: st, r)) : fSB μ lp D pc (o_lbin f x) :=
  fs_0 he hx fun ρ b E lv st g al r h1 h2 h3 h => by
    rcases fw2l_1 h with ⟨z, y, t, e9, h9⟩ | h
    · clear h
      subst e9
      have h := h9
      clear h9
      exact ⟨lv, .inr (.inr (.inl (f z y))) :: t, al, h2, frc_t (k := fun z => x E lv (Sum.inr (Sum.inr (Sum.inl z)) :: t) g) h, ho al y z _ _⟩
    · cases h
theorem fo_ladd (he : fAt μ pc (.ladd, a, b, n)) (hx : fSB μ lp D (pc + 1) x) : fSB μ lp D pc (o_lbin fl_add x) := fo_lbin he hx fun al y z st r => by rw [← fn_ladd]; rfl
theorem fo_lsub (he : fAt μ pc (.lsub, a, b, n)) (hx : fSB μ lp D (pc + 1) x) : fSB μ lp D pc (o_lbin fl_sub x) := fo_lbin he hx fun al y z st r => by rw [← fn_lsub]; rfl
theorem fo_lmul (he : fAt μ pc (.lmul, a, b, n)) (hx : fSB μ lp D (pc + 1) x) : fSB μ lp D pc (o_lbin fl_mul x) := fo_lbin he hx fun al y z st r => by rw [← fn_lmul]; rfl
theorem fo_lshl (he : fAt μ pc (.lshl, a, b, n)) (hx : fSB μ lp D (pc + 1) x) : fSB μ lp D pc (o_lshl x) :=
  fs_0 he hx fun ρ b E lv st g al r h1 h2 h3 h => by
    obtain ⟨y, t, e9, h9⟩ := fw1_f h
    clear h
    subst e9
    have h := h9
    clear h9
    obtain ⟨z, t, e9, h9⟩ := fwl_f h
    clear h
    subst e9
    have h := h9
    clear h9
    refine ⟨lv, _ :: t, al, h2, frc_t (k := fun z => x E lv (Sum.inr (Sum.inr (Sum.inl z)) :: t) g) h, ?_⟩
    show _ = some (pc + 1, al, Value.long (Int64.ofNat (Nat.mod (Nat.shiftLeft z (Nat.mod y 64)) 18446744073709551616)) :: t.map (fv ρ b), r)
    rw [← fn_lshl]
    rfl
theorem fo_l2i (he : fAt μ pc (.l2i, a, b, n)) (hx : fSB μ lp D (pc + 1) x) : fSB μ lp D pc (o_l2i x) :=
  fs_0 he hx fun ρ b E lv st g al r h1 h2 h3 h => by
    obtain ⟨z, t, e9, h9⟩ := fwl_f h
    clear h
    subst e9
    have h := h9
    clear h9
    refine ⟨lv, _ :: t, al, h2, frc_t (k := fun z => x E lv (Sum.inl z :: t) g) h, ?_⟩
    show _ = some (pc + 1, al, Value.int (Int32.ofNat (Nat.mod z 4294967296)) :: t.map (fv ρ b), r)
    rw [← fn_l2i]
    rfl
theorem fo_i2l (he : fAt μ pc (.i2l, a, b, n)) (hx : fSB μ lp D (pc + 1) x) : fSB μ lp D pc (o_i2l x) :=
  fs_0 he hx fun ρ b E lv st g al r h1 h2 h3 h => by
    cases st with
    | nil => cases h
    | cons v t =>
      cases v with
      | inl z =>
        refine ⟨lv, _ :: t, al, h2, frc_t (k := fun z => x E lv (Sum.inr (Sum.inr (Sum.inl z)) :: t) g) h, ?_⟩
        show _ = some (pc + 1, al, Value.long (Int64.ofNat (fi_sx (Nat.mod z 4294967296))) :: t.map (fv ρ b), r)
        rw [← fn_i2l]
        rfl
      | inr q =>
        cases q with
        | inl r0 => cases h
        | inr q =>
          cases q with
          | inl m => cases h
          | inr k =>
            obtain ⟨hk, h⟩ := fB_1 (show fB (Nat.ble k 7) (fi_loadL k (Prod.fst E) (fun v => x E lv (v :: t) g)) false = true from h)
            have hk := Nat.le_of_ble_eq_true hk
            obtain ⟨v, q1, q2⟩ := fi_loadL_1 (b := b) hk h1 h
            refine ⟨lv, v :: t, al, h2, q1, ?_⟩
            have e : (Sum.inr (Sum.inr (Sum.inr k)) :: t).map (fv ρ b) = .int (ρ k) :: t.map (fv ρ b) := by rw [← fv_sym (b := b) hk]; rfl
            have e2 : (v :: t).map (fv ρ b) = .long (ρ k).toInt64 :: t.map (fv ρ b) := by rw [← q2]; rfl
            rw [e, e2]
            rfl
theorem mq_dup {a b n pc : Nat} {al : List (Nat × Value)} {v : Value} (h : v.category = 1) (st : List Value) (r : mjH × Nat × Nat) : mj_op (.dup, a, b, n) (pc, al, v :: st, r) = some (pc + 1, al, v :: v :: st, r) := by
  unfold mj_op; dsimp only; rw [if_pos h]; rfl
theorem mq_pop {a b n pc : Nat} {al : List (Nat × Value)} {v : Value} (h : v.category = 1) (st : List Value) (r : mjH × Nat × Nat) : mj_op (.pop, a, b, n) (pc, al, v :: st, r) = some (pc + 1, al, st, r) := by
  unfold mj_op; dsimp only; rw [if_pos h]
theorem mq_dup2 {a b n pc : Nat} {al : List (Nat × Value)} {v w : Value} (h : v.category = 1) (h2 : w.category = 1) (st : List Value) (r : mjH × Nat × Nat) : mj_op (.dup2, a, b, n) (pc, al, v :: w :: st, r) = some (pc + 1, al, v :: w :: v :: w :: st, r) := by
  unfold mj_op; dsimp only; rw [if_neg (by rw [h]; decide), if_pos h2]
theorem fo_dup (he : fAt μ pc (.dup, a, b, n)) (hx : fSB μ lp D (pc + 1) x) : fSB μ lp D pc (o_dup x) :=
  fs_0 he hx fun ρ b E lv st g al r h1 h2 h3 h => by
    cases st with
    | nil => cases h
    | cons v t =>
      obtain ⟨hv, h⟩ := fB_1 (show fB (fv_1 v) (x E lv (v :: v :: t) g) false = true from h)
      exact ⟨lv, v :: v :: t, al, h2, h, mq_dup (fv_cat.1 hv) (t.map (fv ρ b)) r⟩
theorem fo_pop (he : fAt μ pc (.pop, a, b, n)) (hx : fSB μ lp D (pc + 1) x) : fSB μ lp D pc (o_pop x) :=
  fs_0 he hx fun ρ b E lv st g al r h1 h2 h3 h => by
    cases st with
    | nil => cases h
    | cons v t =>
      obtain ⟨hv, h⟩ := fB_1 (show fB (fv_1 v) (x E lv t g) false = true from h)
      exact ⟨lv, t, al, h2, h, mq_pop (fv_cat.1 hv) (t.map (fv ρ b)) r⟩
theorem fo_dup2 (he : fAt μ pc (.dup2, a, b, n)) (hx : fSB μ lp D (pc + 1) x) : fSB μ lp D pc (o_dup2 x) :=
  fs_0 he hx fun ρ b E lv st g al r h1 h2 h3 h => by
    cases st with
    | nil => cases h
    | cons v t =>
      cases t with
      | nil => cases h
      | cons w t =>
        obtain ⟨hv, h⟩ := fB_1 (show fB (fv_1 v) (fB (fv_1 w) (x E lv (v :: w :: v :: w :: t) g) false) false = true from h)
        obtain ⟨hw, h⟩ := fB_1 h
        exact ⟨lv, v :: w :: v :: w :: t, al, h2, h, mq_dup2 (fv_cat.1 hv) (fv_cat.1 hw) (t.map (fv ρ b)) r⟩
end FOP2
