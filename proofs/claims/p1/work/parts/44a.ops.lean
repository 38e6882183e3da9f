/-! THE OPS, ONE BY ONE: those that work on locals and stack -/
theorem fs_s {μ D pc pc' : Nat} {lp : List Nat} {o x : fX} {e : mjE} (he : fAt μ pc e) (hx : fSB μ lp D pc' x)
    (H : ∀ (ρ : Nat → Int32) (b : Nat) (E : fE) (lv st : fL) (g : fG) (al : List (Nat × Value)) (Hp : mjH) (c s : Nat), fIv ρ E.1 → fLR ρ b lv al → fHR g Hp → o E lv st g = true →
      ∃ iv' lv' st' g' al' H' c' s', fIv ρ iv' ∧ fLR ρ b lv' al' ∧ fHR g' H' ∧ x (iv', E.2) lv' st' g' = true ∧ mj_op e (pc, al, st.map (fv ρ b), Hp, c, s) = some (pc', al', st'.map (fv ρ b), H', c', s') ∧ c' + g.2.2.1 = c + g'.2.2.1 ∧ s' + g.2.2.2 = s + g'.2.2.2) : fSB μ lp D pc o := by
  intro ρ b d X K n jmp hD hX hj iv lv st g al Hp c s hiv hl hh h
  obtain ⟨iv', lv', st', g', al', H', c', s', h1, h2, h3, h4, h5, h6, h7⟩ := H ρ b (iv, (n, (jmp, K))) lv st g al Hp c s hiv hl hh h
  exact fs_op hX (f := (pc, al, st.map (fv ρ b), Hp, c, s)) he h5 h6 h7 (hx ρ b d X K n jmp hD hX hj iv' lv' st' g' al' H' c' s' h1 h2 h3 h4)
/-- the same, where the heap and its counts stay, and the bounds -/
theorem fs_0 {μ D pc pc' : Nat} {lp : List Nat} {o x : fX} {e : mjE} (he : fAt μ pc e) (hx : fSB μ lp D pc' x)
    (H : ∀ (ρ : Nat → Int32) (b : Nat) (E : fE) (lv st : fL) (g : fG) (al : List (Nat × Value)) (r : mjH × Nat × Nat), fIv ρ E.1 → fLR ρ b lv al → fHR g r.1 → o E lv st g = true →
      ∃ lv' st' al', fLR ρ b lv' al' ∧ x E lv' st' g = true ∧ mj_op e (pc, al, st.map (fv ρ b), r) = some (pc', al', st'.map (fv ρ b), r)) : fSB μ lp D pc o :=
  fs_s he hx fun ρ b E lv st g al Hp c s h1 h2 h3 h => by
    obtain ⟨lv', st', al', q1, q2, q3⟩ := H ρ b E lv st g al (Hp, c, s) h1 h2 h3 h
    exact ⟨E.1, lv', st', g, al', Hp, c, s, h1, q1, h3, q2, q3, rfl, rfl⟩
section FOP
variable {μ D pc : Nat} {lp : List Nat} {x : fX} {a b n : Nat}
theorem fo_push {ln : Nat} {v : fV} {w : Value} {e : mjE} (he : fAt μ pc e) (hx : fSB μ lp D (pc + ln) x) (hw : ∀ ρ b, fv ρ b v = w) (ho : ∀ al st r, mj_op e (pc, al, st, r) = some (pc + ln, al, w :: st, r)) : fSB μ lp D pc (o_push v x) :=
  fs_0 he hx fun ρ b E lv st g al r h1 h2 h3 h => ⟨lv, v :: st, al, h2, h, (ho al (st.map (fv ρ b)) r).trans (by rw [← hw ρ b]; rfl)⟩
theorem fo_iconst {k : Int} {v : Nat} (he : fAt μ pc (.iconst k, a, b, n)) (hk : Int32.ofInt k = Int32.ofNat v) (hx : fSB μ lp D (pc + 1) x) : fSB μ lp D pc (o_push (.inl v) x) :=
  fo_push he hx (w := .int (Int32.ofInt k)) (fun _ _ => congrArg Value.int hk.symm) (fun _ _ _ => rfl)
theorem fo_bipush {k : Int} {v : Nat} (he : fAt μ pc (.bipush k, a, b, n)) (hk : (Int8.ofInt k).toInt32 = Int32.ofNat v) (hx : fSB μ lp D (pc + 2) x) : fSB μ lp D pc (o_push (.inl v) x) :=
  fo_push he hx (w := .int (Int8.ofInt k).toInt32) (fun _ _ => congrArg Value.int hk.symm) (fun _ _ _ => rfl)
theorem fo_sipush {k : Int} {v : Nat} (he : fAt μ pc (.sipush k, a, b, n)) (hk : (Int16.ofInt k).toInt32 = Int32.ofNat v) (hx : fSB μ lp D (pc + 3) x) : fSB μ lp D pc (o_push (.inl v) x) :=
  fo_push he hx (w := .int (Int16.ofInt k).toInt32) (fun _ _ => congrArg Value.int hk.symm) (fun _ _ _ => rfl)
theorem fo_ldc {k : Nat} (he : fAt μ pc (.ldc k, a, b, n)) (hx : fSB μ lp D (pc + 2) x) : fSB μ lp D pc (o_push (.inl a) x) :=
  fo_push he hx (w := .int (Int32.ofNat a)) (fun _ _ => rfl) (fun _ _ _ => rfl)
theorem fo_ldc_w {k : Nat} (he : fAt μ pc (.ldc_w k, a, b, n)) (hx : fSB μ lp D (pc + 3) x) : fSB μ lp D pc (o_push (.inl a) x) :=
  fo_push he hx (w := .int (Int32.ofNat a)) (fun _ _ => rfl) (fun _ _ _ => rfl)
theorem fo_ldc2 {k : Nat} (he : fAt μ pc (.ldc2_w k, a, b, n)) (hx : fSB μ lp D (pc + 3) x) : fSB μ lp D pc (o_push (.inr (.inr (.inl a))) x) :=
  fo_push he hx (w := .long (Int64.ofNat a)) (fun _ _ => rfl) (fun _ _ _ => rfl)
theorem fo_lconst {k : Fin 2} {v : Nat} (he : fAt μ pc (.lconst k, a, b, n)) (hk : (k : Nat) = v) (hx : fSB μ lp D (pc + 1) x) : fSB μ lp D pc (o_push (.inr (.inr (.inl v))) x) :=
  fo_push he hx (w := .long (Int64.ofNat (k : Nat))) (fun _ _ => by rw [hk]; rfl) (fun _ _ _ => rfl)
theorem fo_fconst (he : fAt μ pc (.fconst 0, a, b, n)) (hx : fSB μ lp D (pc + 1) x) : fSB μ lp D pc (o_push (.inr (.inr (.inr 16))) x) :=
  fo_push he hx (w := .float 0) (fun _ _ => rfl) (fun _ _ _ => rfl)
theorem fo_dconst (he : fAt μ pc (.dconst 0, a, b, n)) (hx : fSB μ lp D (pc + 1) x) : fSB μ lp D pc (o_push (.inr (.inr (.inr 24))) x) :=
  fo_push he hx (w := .double 0) (fun _ _ => rfl) (fun _ _ _ => rfl)
end FOP
