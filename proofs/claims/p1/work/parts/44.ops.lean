/-! THE OPS, ONE BY ONE: those that work on locals and stack -/
theorem fs_s {μ D pc pc' : Nat} {lp : List Nat} {o x : fX} {e : mjE} (he : fAt μ pc e) (hx : fSB μ lp D pc' x)
    (H : ∀ (ρ : Nat → Int32) (b : Nat) (E : fE) (lv st : fL) (g : fG) (al : List (Nat × Value)) (Hp : mjH) (c s : Nat), fIv ρ E.1 → fLR ρ b lv al → fHR g Hp → o E lv st g = true →
      ∃ iv' lv' st' g' al' H' c' s', fIv ρ iv' ∧ fLR ρ b lv' al' ∧ fHR g' H' ∧ x (iv', E.2) lv' st' g' = true ∧ mj_op e (pc, al, st.map (fv ρ b), Hp, c, s) = some (pc', al', st'.map (fv ρ b), H', c', s') ∧ c' + g.2.2.1 = c + g'.2.2.1 ∧ s' + g.2.2.2 = s + g'.2.2.2) : fSB μ lp D pc o := by
  intro ρ b d X K n jmp hD hX hj iv lv st g al Hp c s hiv hl hh h
  obtain ⟨iv', lv', st', g', al', H', c', s', h1, h2, h3, h4, h5, h6, h7⟩ := H ρ b (iv, (n, (jmp, K))) lv st g al Hp c s hiv hl hh h
  exact fs_op hX (f := (pc, al, st.map (fv ρ b), Hp, c, s)) he h5 h6 h7 (hx ρ b d X K n jmp hD hX hj iv' lv' st' g' al' H' c' s' h1 h2 h3 h4)
/-- the same, where the heap and its counts stay, and the bounds -/
theorem fs_0 {μ D pc pc' : Nat} {lp : List Nat} {o x : fX} {e : mjE} (he : fAt μ pc e) (hx : fSB μ lp D pc' x)
    (H : ∀ (ρ : Nat → Int32) (b : Nat) (E : fE) (lv st : fL) (g : fG) (al : List (Nat × Value)) (r : mjH × Nat × Nat), fIv ρ E.1 → fLR ρ b lv al → fHR g r.1 → o E lv st g = true →
      ∃ lv' st' al', fLR ρ b lv' al' ∧ x E lv' st' g = true ∧ mj_op e (pc, al, st.map (fv ρ b), r) = some (pc', al', st'.map (fv ρ b), r)) : fSB μ lp D pc o :=
  fs_s he hx fun ρ b E lv st g al Hp c s h1 h2 h3 h => by
    obtain ⟨lv', st', al', q1, q2, q3⟩ := H ρ b E lv st g al (Hp, c, s) h1 h2 h3 h
    exact ⟨E.1, lv', st', g, al', Hp, c, s, h1, q1, h3, q2, q3, rfl, rfl⟩
section FOP
variable {μ D pc : Nat} {lp : List Nat} {x : fX} {a b n : Nat}
theorem fo_push {ln : Nat} {v : fV} {w : Value} {e : mjE} (he : fAt μ pc e) (hx : fSB μ lp D (pc + ln) x) (hw : ∀ ρ b, fv ρ b v = w) (ho : ∀ al st r, mj_op e (pc, al, st, r) = some (pc + ln, al, w :: st, r)) : fSB μ lp D pc (o_push v x) :=
  fs_0 he hx fun ρ b E lv st g al r h1 h2 h3 h => ⟨lv, v :: st, al, h2, h, (ho al (st.map (fv ρ b)) r).trans (by rw [← hw ρ b]; rfl)⟩
theorem fo_iconst {k : Int} {v : Nat} (he : fAt μ pc (.iconst k, a, b, n)) (hk : Int32.ofInt k = Int32.ofNat v) (hx : fSB μ lp D (pc + 1) x) : fSB μ lp D pc (o_push (.inl v) x) :=
  fo_push he hx (w := .int (Int32.ofInt k)) (fun _ _ => congrArg Value.int hk.symm) (fun _ _ _ => rfl)
theorem fo_bipush {k : Int} {v : Nat} (he : fAt μ pc (.bipush k, a, b, n)) (hk : (Int8.ofInt k).toInt32 = Int32.ofNat v) (hx : fSB μ lp D (pc + 2) x) : fSB μ lp D pc (o_push (.inl v) x) :=
  fo_push he hx (w := .int (Int8.ofInt k).toInt32) (fun _ _ => congrArg Value.int hk.symm) (fun _ _ _ => rfl)
theorem fo_sipush {k : Int} {v : Nat} (he : fAt μ pc (.sipush k, a, b, n)) (hk : (Int16.ofInt k).toInt32 = Int32.ofNat v) (hx : fSB μ lp D (pc + 3) x) : fSB μ lp D pc (o_push (.inl v) x) :=
  fo_push he hx (w := .int (Int16.ofInt k).toInt32) (fun _ _ => congrArg Value.int hk.symm) (fun _ _ _ => rfl)
theorem fo_ldc {k : Nat} (he : fAt μ pc (.ldc k, a, b, n)) (hx : fSB μ lp D (pc + 2) x) : fSB μ lp D pc (o_push (.inl a) x) :=
  fo_push he hx (w := .int (Int32.ofNat a)) (fun _ _ => rfl) (fun _ _ _ => rfl)
theorem fo_ldc_w {k : Nat} (he : fAt μ pc (.ldc_w k, a, b, n)) (hx : fSB μ lp D (pc + 3) x) : fSB μ lp D pc (o_push (.inl a) x) :=
  fo_push he hx (w := .int (Int32.ofNat a)) (fun _ _ => rfl) (fun _ _ _ => rfl)
theorem fo_ldc2 {k : Nat} (he : fAt μ pc (.ldc2_w k, a, b, n)) (hx : fSB μ lp D (pc + 3) x) : fSB μ lp D pc (o_push (.inr (.inr (.inl a))) x) :=
  fo_push he hx (w := .long (Int64.ofNat a)) (fun _ _ => rfl) (fun _ _ _ => rfl)
theorem fo_lconst {k : Fin 2} {v : Nat} (he : fAt μ pc (.lconst k, a, b, n)) (hk : (k : Nat) = v) (hx : fSB μ lp D (pc + 1) x) : fSB μ lp D pc (o_push (.inr (.inr (.inl v))) x) :=
  fo_push he hx (w := .long (Int64.ofNat (k : Nat))) (fun _ _ => by rw [hk]; rfl) (fun _ _ _ => rfl)
theorem fo_fconst (he : fAt μ pc (.fconst 0, a, b, n)) (hx : fSB μ lp D (pc + 1) x) : fSB μ lp D pc (o_push (.inr (.inr (.inr 16))) x) :=
  fo_push he hx (w := .float 0) (fun _ _ => rfl) (fun _ _ _ => rfl)
theorem fo_dconst (he : fAt μ pc (.dconst 0, a, b, n)) (hx : fSB μ lp D (pc + 1) x) : fSB μ lp D pc (o_push (.inr (.inr (.inr 24))) x) :=
  fo_push he hx (w := .double 0) (fun _ _ => rfl) (fun _ _ _ => rfl)
end FOP
theorem fbi_lt (x : Int32) : fbi x < 4294967296 := by
  unfold fbi
  have := x.toInt_lt
  have h2 := x.le_toInt
  omega
theorem fbi_eq (x : Int32) : ((fbi x : Nat) : Int) = x.toInt + 2147483648 := by
  unfold fbi
  have h2 := x.le_toInt
  omega
theorem fbi_inv {x : Int32} {n : Nat} (h : fbi x = n) : x = Int32.ofNat (fi_b n) := by
  refine Int32.toInt_inj.mp ?_
  have h1 := fbi_eq x
  have h2 := fbi_lt x
  have h3 := fn_int (fi_b n)
  rw [h] at h1 h2
  rw [h3]
  unfold fi_b
  show _ = if (n + 2147483648) % 4294967296 % 4294967296 < 2147483648 then (((n + 2147483648) % 4294967296 % 4294967296 : Nat) : Int) else (((n + 2147483648) % 4294967296 % 4294967296 : Nat) : Int) - 4294967296
  split <;> omega
theorem fi_set_0 (k n : Nat) (iv : fI) (h : k ≤ 7) (j : Nat) (p : Nat × Nat) : j ≤ 7 → fi_get j (fi_set k p iv) = (if j = k ∧ k < iv.length then p else fi_get j iv) := by
  intro hj
  have hg : ∀ (iv : fI) (j : Nat), fi_get j iv = iv.getD j (0, 4294967295) := by
    intro iv
    induction iv with
    | nil => intro j; cases j <;> rfl
    | cons a t ih =>
      intro j
      cases j with
      | zero => rfl
      | succ j => exact ih j
  rw [hg, hg]
  unfold fi_set
  by_cases hjk : j = k
  · subst hjk
    by_cases hl : j < iv.length
    · rw [if_pos ⟨rfl, hl⟩, List.getD_eq_getElem?_getD, List.getElem?_set_self hl]
      rfl
    · rw [if_neg (fun q => hl q.2), List.set_eq_of_length_le (by omega)]
  · rw [if_neg (fun q => hjk q.1), List.getD_eq_getElem?_getD, List.getElem?_set_ne (by omega), ← List.getD_eq_getElem?_getD]
theorem fi_set_ok {ρ : Nat → Int32} {iv : fI} (h : fIv ρ iv) {k : Nat} {p : Nat × Nat} (hp : p.1 ≤ fbi (ρ k) ∧ fbi (ρ k) ≤ p.2) : fIv ρ (fi_set k p iv) := by
  intro j hj
  by_cases hk : k ≤ 7
  · rw [fi_set_0 k 0 iv hk j p hj]
    by_cases hjk : j = k ∧ k < iv.length
    · rw [if_pos hjk, hjk.1]
      exact hp
    · rw [if_neg hjk]
      exact h j hj
  · have hg : fi_get j (fi_set k p iv) = fi_get j iv := by
      have hg : ∀ (iv : fI) (j : Nat), fi_get j iv = iv.getD j (0, 4294967295) := by
        intro iv
        induction iv with
        | nil => intro j; cases j <;> rfl
        | cons a t ih =>
          intro j
          cases j with
          | zero => rfl
          | succ j => exact ih j
      rw [hg, hg]
      unfold fi_set
      rw [List.getD_eq_getElem?_getD, List.getElem?_set_ne (by omega), ← List.getD_eq_getElem?_getD]
    rw [hg]
    exact h j hj
theorem fi_all_1 {lo : Nat} {k : Nat → Bool} : ∀ {n : Nat}, fi_all n lo k = true → ∀ j, j ≤ n → k (lo + j) = true
  | 0, h, j, hj => by
    have e : j = 0 := by omega
    subst e
    exact h
  | n + 1, h, j, hj => by
    have h : Bool.rec (motive := fun _ => Bool) false (k (lo + (n + 1))) (fi_all n lo k) = true := h
    cases hq : fi_all n lo k with
    | false => rw [hq] at h; cases h
    | true =>
      rw [hq] at h
      by_cases hjn : j = n + 1
      · subst hjn
        exact h
      · exact fi_all_1 hq j (by omega)
/-- an unknown int is loaded -/
theorem fi_load_1 {ρ : Nat → Int32} {b : Nat} {k : Nat} {iv : fI} {K0 : fV → Bool} {K : fI → fV → Bool} (hk : k ≤ 7) (hiv : fIv ρ iv) (h : fi_load k iv K0 K = true) : (∃ v, K0 v = true ∧ fv ρ b v = .int (ρ k)) ∨ ∃ iv' v, K iv' v = true ∧ fIv ρ iv' ∧ fv ρ b v = .int (ρ k) := by
  unfold fi_load at h
  simp only [frc_eq] at h
  have hb := hiv k hk
  generalize fi_get k iv = p at h hb
  obtain ⟨lo, hi⟩ := p
  dsimp only at h hb
  cases he : Nat.beq lo hi with
  | true =>
    rw [he] at h
    dsimp only at h
    have he := Nat.eq_of_beq_eq_true he
    have e := fbi_inv (x := ρ k) (n := lo) (by omega)
    exact Or.inl ⟨_, h, congrArg Value.int e.symm⟩
  | false =>
    rw [he] at h
    dsimp only at h
    cases hs : Nat.ble hi (Nat.add lo 127) with
    | false =>
      rw [hs] at h
      exact Or.inl ⟨_, h, fv_sym hk⟩
    | true =>
      rw [hs] at h
      dsimp only at h
      have h2 := fi_all_1 h (fbi (ρ k) - lo) (Nat.sub_le_sub_right hb.2 lo)
      have e : lo + (fbi (ρ k) - lo) = fbi (ρ k) := by omega
      rw [e] at h2
      have e2 := fbi_inv (x := ρ k) (n := fbi (ρ k)) rfl
      exact Or.inr ⟨_, _, h2, fi_set_ok hiv ⟨Nat.le_refl _, Nat.le_refl _⟩, congrArg Value.int e2.symm⟩
theorem fx_load_1 {ρ : Nat → Int32} {b : Nat} {r : Nat ⊕ (Nat ⊕ Nat)} {iv : fI} {K0 : fV → Bool} {K : fI → fV → Bool} (hiv : fIv ρ iv) (h : fx_load r iv K0 K = true) : ∃ k, k ≤ 7 ∧ r = .inr (.inr k) ∧ ((∃ v, K0 v = true ∧ fv ρ b v = .int (ρ k)) ∨ ∃ iv' v, K iv' v = true ∧ fIv ρ iv' ∧ fv ρ b v = .int (ρ k)) := by
  cases r with
  | inl r => cases h
  | inr q =>
    cases q with
    | inl n => cases h
    | inr k =>
      have h : Bool.rec (motive := fun _ => Bool) false (fi_load k iv K0 K) (Nat.ble k 7) = true := h
      cases hk : Nat.ble k 7 with
      | false => rw [hk] at h; cases h
      | true =>
        rw [hk] at h
        have hk := Nat.le_of_ble_eq_true hk
        exact ⟨k, hk, rfl, fi_load_1 hk hiv h⟩
theorem fi_lsx_int {lo : Nat} (h : lo < 4294967296) : (Int64.ofNat (fi_lsx lo)).toInt = (lo : Int) - 2147483648 := by
  rw [fn_lint]
  unfold fi_lsx
  show (if (lo + 18446744071562067968) % 18446744073709551616 % 18446744073709551616 < 9223372036854775808 then (((lo + 18446744071562067968) % 18446744073709551616 % 18446744073709551616 : Nat) : Int) else (((lo + 18446744071562067968) % 18446744073709551616 % 18446744073709551616 : Nat) : Int) - 18446744073709551616) = _
  split <;> omega
theorem fi_loadL_1 {ρ : Nat → Int32} {b : Nat} {k : Nat} {iv : fI} {K : fV → Bool} (hk : k ≤ 7) (hiv : fIv ρ iv) (h : fi_loadL k iv K = true) : ∃ v, K v = true ∧ fv ρ b v = .long (ρ k).toInt64 := by
  unfold fi_loadL at h
  simp only [frc_eq] at h
  have hb := hiv k hk
  generalize fi_get k iv = p at h hb
  obtain ⟨lo, hi⟩ := p
  dsimp only at h hb
  cases he : Nat.beq hi lo with
  | false =>
    rw [he] at h
    exact ⟨_, h, fv_symL hk⟩
  | true =>
    rw [he] at h
    dsimp only at h
    have he := Nat.eq_of_beq_eq_true he
    refine ⟨_, h, ?_⟩
    have h1 := fbi_eq (ρ k)
    have h2 := fbi_lt (ρ k)
    have h3 : fbi (ρ k) = lo := by omega
    have e : Int64.ofNat (fi_lsx lo) = (ρ k).toInt64 := by
      refine Int64.toInt_inj.mp ?_
      rw [Int32.toInt_toInt64, fi_lsx_int (by omega)]
      omega
    exact congrArg Value.long e
theorem fx_loadL_1 {ρ : Nat → Int32} {b : Nat} {k : Nat} {iv : fI} {K : fV → Bool} (hiv : fIv ρ iv) (h : fx_loadL k iv K = true) : ∃ v, K v = true ∧ ∃ y, fv_o ρ b k = .long y ∧ fv ρ b v = .long y := by
  unfold fx_loadL at h
  obtain ⟨h1, h⟩ := fB_1 h
  obtain ⟨h2, h⟩ := fB_1 h
  have h1 := Nat.le_of_ble_eq_true h1
  have h2 := Nat.le_of_ble_eq_true h2
  obtain ⟨v, q1, q2⟩ := fi_loadL_1 (b := b) (show k - 8 ≤ 7 by omega) hiv h
  refine ⟨v, q1, _, ?_, q2⟩
  unfold fv_o
  rw [if_neg (by omega), if_pos (by omega)]
theorem mq_iload_n {k : Fin 4} {a b n pc : Nat} {al : List (Nat × Value)} {x : Int32} (h : mj_ld al k = some (.int x)) (st : List Value) (r : mjH × Nat × Nat) : mj_op (.iload_n k, a, b, n) (pc, al, st, r) = some (pc + 1, al, .int x :: st, r) := by
  unfold mj_op; dsimp only; rw [h]; rfl
theorem mq_iload {k a b n pc : Nat} {al : List (Nat × Value)} {x : Int32} (h : mj_ld al k = some (.int x)) (st : List Value) (r : mjH × Nat × Nat) : mj_op (.iload k, a, b, n) (pc, al, st, r) = some (pc + 2, al, .int x :: st, r) := by
  unfold mj_op; dsimp only; rw [h]; rfl
theorem mq_lload_n {k : Fin 4} {a b n pc : Nat} {al : List (Nat × Value)} {x : Int64} (h : mj_ld al k = some (.long x)) (st : List Value) (r : mjH × Nat × Nat) : mj_op (.lload_n k, a, b, n) (pc, al, st, r) = some (pc + 1, al, .long x :: st, r) := by
  unfold mj_op; dsimp only; rw [h]; rfl
theorem mq_lload {k a b n pc : Nat} {al : List (Nat × Value)} {x : Int64} (h : mj_ld al k = some (.long x)) (st : List Value) (r : mjH × Nat × Nat) : mj_op (.lload k, a, b, n) (pc, al, st, r) = some (pc + 2, al, .long x :: st, r) := by
  unfold mj_op; dsimp only; rw [h]; rfl
theorem mq_aload_n {k : Fin 4} {a b n pc : Nat} {al : List (Nat × Value)} {r0 : Nat} (h : mj_ld al k = some (fv_r r0)) (st : List Value) (r : mjH × Nat × Nat) : mj_op (.aload_n k, a, b, n) (pc, al, st, r) = some (pc + 1, al, fv_r r0 :: st, r) := by
  unfold mj_op; dsimp only; rw [h]; cases r0 <;> rfl
theorem mq_aload {k a b n pc : Nat} {al : List (Nat × Value)} {r0 : Nat} (h : mj_ld al k = some (fv_r r0)) (st : List Value) (r : mjH × Nat × Nat) : mj_op (.aload k, a, b, n) (pc, al, st, r) = some (pc + 2, al, fv_r r0 :: st, r) := by
  unfold mj_op; dsimp only; rw [h]; cases r0 <;> rfl
theorem mq_iinc {k a b n pc : Nat} {v : Int} {al : List (Nat × Value)} {x : Int32} (h : mj_ld al k = some (.int x)) (st : List Value) (r : mjH × Nat × Nat) : mj_op (.iinc k v, a, b, n) (pc, al, st, r) = some (pc + 3, mj_s1 k (.int (x + Int32.ofInt v)) al, st, r) := by
  unfold mj_op; dsimp only; rw [h]
theorem fv_ne {v : fV} (h : v ≠ .inr (.inr (.inr 99))) : v ≠ fF := h
section FOP2
variable {μ D pc : Nat} {lp : List Nat} {x : fX} {a b n : Nat}
theorem fo_ild {ln k : Nat} {e : mjE} (he : fAt μ pc e) (hx : fSB μ lp D (pc + ln) x) (ho : ∀ al y st r, mj_ld al k = some (.int y) → mj_op e (pc, al, st, r) = some (pc + ln, al, .int y :: st, r)) : fSB μ lp D pc (o_iload k x) :=
  fs_s he hx fun ρ b E lv st g al Hp c s h1 h2 h3 h => by
    unfold o_iload at h
    cases hv : fl_get k lv with
    | inl n =>
      rw [hv] at h
      exact ⟨E.1, lv, .inl n :: st, g, al, Hp, c, s, h1, h2, h3, h, ho al _ _ _ (fl_ld h2 hv (by intro q; cases q)), rfl, rfl⟩
    | inr r =>
      rw [hv] at h
      have h : fx_load r (Prod.fst E) (fun v => x E lv (v :: st) g) (fun iv v => x (fe_iv E iv) lv (v :: st) g) = true := h
      obtain ⟨j, hj, e9, h9⟩ := fx_load_1 (b := b) h1 h
      clear h
      subst e9
      have h := h9
      clear h9
      have hl : mj_ld al k = some (.int (ρ j)) := (fl_ld h2 hv (by intro q; injection q with q; injection q with q; injection q with q; omega)).trans (by rw [fv_sym hj])
      rcases h with ⟨v, q1, q2⟩ | ⟨iv', v, q1, q2, q3⟩
      · exact ⟨E.1, lv, v :: st, g, al, Hp, c, s, h1, h2, h3, q1, (ho al _ _ _ hl).trans (by rw [← q2]; rfl), rfl, rfl⟩
      · exact ⟨iv', lv, v :: st, g, al, Hp, c, s, q2, h2, h3, q1, (ho al _ _ _ hl).trans (by rw [← q3]; rfl), rfl, rfl⟩
theorem fo_iload_n {k : Fin 4} (he : fAt μ pc (.iload_n k, a, b, n)) (hx : fSB μ lp D (pc + 1) x) : fSB μ lp D pc (o_iload k x) := fo_ild he hx fun _ _ st r h => mq_iload_n h st r
theorem fo_iload {k : Nat} (he : fAt μ pc (.iload k, a, b, n)) (hx : fSB μ lp D (pc + 2) x) : fSB μ lp D pc (o_iload k x) := fo_ild he hx fun _ _ st r h => mq_iload h st r
theorem fo_ald_ {ln k : Nat} {e : mjE} (he : fAt μ pc e) (hx : fSB μ lp D (pc + ln) x) (ho : ∀ al r0 st r, mj_ld al k = some (fv_r r0) → mj_op e (pc, al, st, r) = some (pc + ln, al, fv_r r0 :: st, r)) : fSB μ lp D pc (o_aload k x) :=
  fs_0 he hx fun ρ b E lv st g al r h1 h2 h3 h => by
    unfold o_aload at h
    cases hv : fl_get k lv with
    | inl n => rw [hv] at h; cases h
    | inr q =>
      rw [hv] at h
      cases q with
      | inr q => cases h
      | inl r0 => exact ⟨lv, .inr (.inl r0) :: st, al, h2, h, ho al r0 _ _ (fl_ld h2 hv (by intro q; injection q with q; cases q))⟩
theorem fo_aload_n {k : Fin 4} (he : fAt μ pc (.aload_n k, a, b, n)) (hx : fSB μ lp D (pc + 1) x) : fSB μ lp D pc (o_aload k x) := fo_ald_ he hx fun _ _ st r h => mq_aload_n h st r
theorem fo_aload {k : Nat} (he : fAt μ pc (.aload k, a, b, n)) (hx : fSB μ lp D (pc + 2) x) : fSB μ lp D pc (o_aload k x) := fo_ald_ he hx fun _ _ st r h => mq_aload h st r
theorem fo_lld_ {ln k : Nat} {e : mjE} (he : fAt μ pc e) (hx : fSB μ lp D (pc + ln) x) (ho : ∀ al y st r, mj_ld al k = some (.long y) → mj_op e (pc, al, st, r) = some (pc + ln, al, .long y :: st, r)) : fSB μ lp D pc (o_lload k x) :=
  fs_0 he hx fun ρ b E lv st g al r h1 h2 h3 h => by
    unfold o_lload at h
    cases hv : fl_get k lv with
    | inl n => rw [hv] at h; cases h
    | inr q =>
      rw [hv] at h
      cases q with
      | inl r0 => cases h
      | inr q =>
        cases q with
        | inl n => exact ⟨lv, .inr (.inr (.inl n)) :: st, al, h2, h, ho al _ _ _ (fl_ld h2 hv (by intro q; injection q with q; injection q with q; cases q))⟩
        | inr j =>
          have h : fx_loadL j (Prod.fst E) (fun v => x E lv (v :: st) g) = true := h
          obtain ⟨v, q1, y, q2, q3⟩ := fx_loadL_1 (b := b) h1 h
          have hj : j ≠ 99 := by
            intro q
            subst q
            cases h
          refine ⟨lv, v :: st, al, h2, q1, (ho al y _ _ ?_).trans (by rw [← q3]; rfl)⟩
          refine (fl_ld h2 hv (by intro q; injection q with q; injection q with q; injection q with q; exact hj q)).trans ?_
          rw [← q2]
          rfl
theorem fo_lload_n {k : Fin 4} (he : fAt μ pc (.lload_n k, a, b, n)) (hx : fSB μ lp D (pc + 1) x) : fSB μ lp D pc (o_lload k x) := fo_lld_ he hx fun _ _ st r h => mq_lload_n h st r
theorem fo_lload {k : Nat} (he : fAt μ pc (.lload k, a, b, n)) (hx : fSB μ lp D (pc + 2) x) : fSB μ lp D pc (o_lload k x) := fo_lld_ he hx fun _ _ st r h => mq_lload h st r
theorem fx_int_1 {ρ : Nat → Int32} {b : Nat} {r : Nat ⊕ (Nat ⊕ Nat)} {k : Bool} (h : fx_int r k = true) : k = true ∧ ∃ y, fv ρ b (.inr r) = .int y := by
  cases r with
  | inl r => cases h
  | inr q =>
    cases q with
    | inl n => cases h
    | inr j =>
      obtain ⟨h1, h2⟩ := fB_1 (show fB (Nat.ble j 7) k false = true from h)
      exact ⟨h2, _, fv_sym (Nat.le_of_ble_eq_true h1)⟩
theorem fo_ist_ {ln k : Nat} {e : mjE} (he : fAt μ pc e) (hx : fSB μ lp D (pc + ln) x) (ho : ∀ al y st r, mj_op e (pc, al, .int y :: st, r) = some (pc + ln, mj_s1 k (.int y) al, st, r)) : fSB μ lp D pc (o_istore k x) :=
  fs_0 he hx fun ρ b E lv st g al r h1 h2 h3 h => by
    cases st with
    | nil => cases h
    | cons v t =>
      cases v with
      | inl n =>
        obtain ⟨lv', q1, q2, q3⟩ := fl_set_1 k fF (.inl n) lv _ (show fl_set k fF (.inl n) lv (fun lv => x E lv t g) = true from h)
        exact ⟨lv', t, _, fl_s1 h2 q2 q3, q1, ho al _ _ _⟩
      | inr q =>
        obtain ⟨h, y, hy⟩ := fx_int_1 (ρ := ρ) (b := b) (show fx_int q (fl_set k fF (.inr q) lv (fun lv => x E lv t g)) = true from h)
        obtain ⟨lv', q1, q2, q3⟩ := fl_set_1 k fF (.inr q) lv _ h
        refine ⟨lv', t, _, fl_s1 h2 q2 q3, q1, ?_⟩
        have e : (Sum.inr q :: t).map (fv ρ b) = .int y :: t.map (fv ρ b) := by rw [← hy]; rfl
        rw [e, hy]
        exact ho al _ _ _
theorem fo_istore_n {k : Fin 4} (he : fAt μ pc (.istore_n k, a, b, n)) (hx : fSB μ lp D (pc + 1) x) : fSB μ lp D pc (o_istore k x) := fo_ist_ he hx fun _ _ _ _ => rfl
theorem fo_istore {k : Nat} (he : fAt μ pc (.istore k, a, b, n)) (hx : fSB μ lp D (pc + 2) x) : fSB μ lp D pc (o_istore k x) := fo_ist_ he hx fun _ _ _ _ => rfl
theorem fo_ast_ {ln k : Nat} {e : mjE} (he : fAt μ pc e) (hx : fSB μ lp D (pc + ln) x) (ho : ∀ al r0 st r, mj_op e (pc, al, fv_r r0 :: st, r) = some (pc + ln, mj_s1 k (fv_r r0) al, st, r)) : fSB μ lp D pc (o_astore k x) :=
  fs_0 he hx fun ρ b E lv st g al r h1 h2 h3 h => by
    obtain ⟨r0, t, e9, h9⟩ := fwr_1 h
    clear h
    subst e9
    have h := h9
    clear h9
    obtain ⟨lv', q1, q2, q3⟩ := fl_set_1 k fF (.inr (.inl r0)) lv _ h
    exact ⟨lv', t, _, fl_s1 h2 q2 q3, q1, ho al _ _ _⟩
theorem fo_astore_n {k : Fin 4} (he : fAt μ pc (.astore_n k, a, b, n)) (hx : fSB μ lp D (pc + 1) x) : fSB μ lp D pc (o_astore k x) := fo_ast_ he hx fun _ r0 _ _ => by cases r0 <;> rfl
theorem fo_astore {k : Nat} (he : fAt μ pc (.astore k, a, b, n)) (hx : fSB μ lp D (pc + 2) x) : fSB μ lp D pc (o_astore k x) := fo_ast_ he hx fun _ r0 _ _ => by cases r0 <;> rfl
theorem fx_long_1 {ρ : Nat → Int32} {b k : Nat} {B : Bool} (h : fx_long k B = true) : B = true ∧ 8 ≤ k ∧ k ≤ 15 ∧ fv ρ b (.inr (.inr (.inr k))) = .long (ρ (k - 8)).toInt64 := by
  obtain ⟨h1, h⟩ := fB_1 (show fB (Nat.ble k 15) (fB (Nat.ble 8 k) B false) false = true from h)
  obtain ⟨h2, h⟩ := fB_1 h
  have h1 := Nat.le_of_ble_eq_true h1
  have h2 := Nat.le_of_ble_eq_true h2
  refine ⟨h, h2, h1, ?_⟩
  show fv_o ρ b k = _
  unfold fv_o
  rw [if_neg (by omega), if_pos h1]
theorem fo_lst_ {ln k : Nat} {e : mjE} (he : fAt μ pc e) (hx : fSB μ lp D (pc + ln) x) (ho : ∀ al y st r, mj_op e (pc, al, .long y :: st, r) = some (pc + ln, mj_s2 k (.long y) al, st, r)) : fSB μ lp D pc (o_lstore k x) :=
  fs_0 he hx fun ρ b E lv st g al r h1 h2 h3 h => by
    cases st with
    | nil => cases h
    | cons v t =>
      cases v with
      | inl n => cases h
      | inr q =>
        cases q with
        | inl r0 => cases h
        | inr q =>
          cases q with
          | inl m =>
            obtain ⟨lv', q1, q2, q3⟩ := fl_set2_1 k fF (.inr (.inr (.inl m))) lv _ (show fl_set2 k fF (.inr (.inr (.inl m))) lv (fun lv => x E lv t g) = true from h)
            exact ⟨lv', t, _, fl_s2 h2 q2 q3, q1, ho al _ _ _⟩
          | inr j =>
            obtain ⟨h, -, -, hy⟩ := fx_long_1 (ρ := ρ) (b := b) (show fx_long j (fl_set2 k fF (.inr (.inr (.inr j))) lv (fun lv => x E lv t g)) = true from h)
            obtain ⟨lv', q1, q2, q3⟩ := fl_set2_1 k fF (.inr (.inr (.inr j))) lv _ h
            refine ⟨lv', t, _, fl_s2 h2 q2 q3, q1, ?_⟩
            have e : (Sum.inr (Sum.inr (Sum.inr j)) :: t).map (fv ρ b) = .long (ρ (j - 8)).toInt64 :: t.map (fv ρ b) := by rw [← hy]; rfl
            rw [e, hy]
            exact ho al _ _ _
theorem fo_lstore_n {k : Fin 4} (he : fAt μ pc (.lstore_n k, a, b, n)) (hx : fSB μ lp D (pc + 1) x) : fSB μ lp D pc (o_lstore k x) := fo_lst_ he hx fun _ _ _ _ => rfl
theorem fo_lstore {k : Nat} (he : fAt μ pc (.lstore k, a, b, n)) (hx : fSB μ lp D (pc + 2) x) : fSB μ lp D pc (o_lstore k x) := fo_lst_ he hx fun _ _ _ _ => rfl
theorem fo_dstore {k : Nat} (he : fAt μ pc (.dstore k, a, b, n)) (hx : fSB μ lp D (pc + 2) x) : fSB μ lp D pc (o_dstore k x) :=
  fs_0 he hx fun ρ b E lv st g al r h1 h2 h3 h => by
    obtain ⟨t, e9, h9⟩ := fwd_1 h
    clear h
    subst e9
    have h := h9
    clear h9
    obtain ⟨lv', q1, q2, q3⟩ := fl_set2_1 k fF (.inr (.inr (.inr 24))) lv _ h
    exact ⟨lv', t, _, fl_s2 h2 q2 q3, q1, rfl⟩
theorem fo_fstore {k : Nat} (he : fAt μ pc (.fstore k, a, b, n)) (hx : fSB μ lp D (pc + 2) x) : fSB μ lp D pc (o_fstore k x) :=
  fs_0 he hx fun ρ b E lv st g al r h1 h2 h3 h => by
    obtain ⟨t, e9, h9⟩ := fwd_1 h
    clear h
    subst e9
    have h := h9
    clear h9
    obtain ⟨lv', q1, q2, q3⟩ := fl_set_1 k fF (.inr (.inr (.inr 16))) lv _ h
    exact ⟨lv', t, _, fl_s1 h2 q2 q3, q1, rfl⟩
theorem fo_iinc {k v : Nat} {w : Int} (he : fAt μ pc (.iinc k w, a, b, n)) (hw : Int32.ofInt w = Int32.ofNat v) (hx : fSB μ lp D (pc + 3) x) : fSB μ lp D pc (o_iinc k v x) :=
  fs_0 he hx fun ρ b E lv st g al r h1 h2 h3 h => by
    unfold o_iinc at h
    cases hv : fl_get k lv with
    | inr q => rw [hv] at h; cases h
    | inl m =>
      rw [hv] at h
      obtain ⟨lv', q1, q2, q3⟩ := fl_set_1 k fF (.inl (fi_add m v)) lv _ (show fl_set k fF (.inl (fi_add m v)) lv (fun lv => x E lv st g) = true from h)
      refine ⟨lv', st, _, fl_s1 h2 q2 q3, q1, ?_⟩
      rw [mq_iinc (fl_ld h2 hv (by intro q; cases q)), hw, fn_add]
      rfl
theorem fo_bin {f : Nat → Nat → Nat} {e : mjE} (he : fAt μ pc e) (hx : fSB μ lp D (pc + 1) x) (ho : ∀ al y z st r, mj_op e (pc, al, .int (Int32.ofNat y) :: .int (Int32.ofNat z) :: st, r) = some (pc + 1, al, .int (Int32.ofNat (f z y)) :: st, r)) : fSB μ lp D pc (o_bin f x) :=
  fs_0 he hx fun ρ b E lv st g al r h1 h2 h3 h => by
    obtain ⟨z, y, t, e9, h9⟩ := fw2_f h
    clear h
    subst e9
    have h := h9
    clear h9
    exact ⟨lv, .inl (f z y) :: t, al, h2, h, ho al y z _ _⟩
theorem fo_iadd (he : fAt μ pc (.iadd, a, b, n)) (hx : fSB μ lp D (pc + 1) x) : fSB μ lp D pc (o_bin fi_add x) := fo_bin he hx fun al y z st r => by rw [← fn_add]; rfl
theorem fo_isub (he : fAt μ pc (.isub, a, b, n)) (hx : fSB μ lp D (pc + 1) x) : fSB μ lp D pc (o_bin fi_sub x) := fo_bin he hx fun al y z st r => by rw [← fn_sub]; rfl
theorem fo_imul (he : fAt μ pc (.imul, a, b, n)) (hx : fSB μ lp D (pc + 1) x) : fSB μ lp D pc (o_bin fi_mul x) := fo_bin he hx fun al y z st r => by rw [← fn_mul]; rfl
theorem fo_iand (he : fAt μ pc (.iand, a, b, n)) (hx : fSB μ lp D (pc + 1) x) : fSB μ lp D pc (o_bin Nat.land x) := fo_bin he hx fun al y z st r => by rw [← fn_and]; rfl
theorem fo_ior (he : fAt μ pc (.ior, a, b, n)) (hx : fSB μ lp D (pc + 1) x) : fSB μ lp D pc (o_bin Nat.lor x) := fo_bin he hx fun al y z st r => by rw [← fn_or]; rfl
theorem fo_ixor (he : fAt μ pc (.ixor, a, b, n)) (hx : fSB μ lp D (pc + 1) x) : fSB μ lp D pc (o_bin Nat.xor x) := fo_bin he hx fun al y z st r => by rw [← fn_xor]; rfl
theorem fo_ishl (he : fAt μ pc (.ishl, a, b, n)) (hx : fSB μ lp D (pc + 1) x) : fSB μ lp D pc (o_bin fi_shl x) := fo_bin he hx fun al y z st r => by rw [← fn_shl]; rfl
theorem fo_ishr (he : fAt μ pc (.ishr, a, b, n)) (hx : fSB μ lp D (pc + 1) x) : fSB μ lp D pc (o_bin fi_shr x) := fo_bin he hx fun al y z st r => by rw [← fn_shr]; rfl
theorem fo_iushr (he : fAt μ pc (.iushr, a, b, n)) (hx : fSB μ lp D (pc + 1) x) : fSB μ lp D pc (o_bin fi_ushr x) := fo_bin he hx fun al y z st r => by rw [← fn_ushr]; rfl
theorem mq_irem {a b n pc : Nat} {al : List (Nat × Value)} {x y : Int32} (h : ¬ y = 0) (st : List Value) (r : mjH × Nat × Nat) : mj_op (.irem, a, b, n) (pc, al, .int y :: .int x :: st, r) = some (pc + 1, al, .int (x - x / y * y) :: st, r) := by
  unfold mj_op; dsimp only; rw [if_neg h]; rfl
theorem mq_idiv {a b n pc : Nat} {al : List (Nat × Value)} {x y : Int32} (h : ¬ y = 0) (st : List Value) (r : mjH × Nat × Nat) : mj_op (.idiv, a, b, n) (pc, al, .int y :: .int x :: st, r) = some (pc + 1, al, .int (x / y) :: st, r) := by
  unfold mj_op; dsimp only; rw [if_neg h]; rfl
theorem fo_irem (he : fAt μ pc (.irem, a, b, n)) (hx : fSB μ lp D (pc + 1) x) : fSB μ lp D pc (o_irem x) :=
  fs_0 he hx fun ρ b E lv st g al r h1 h2 h3 h => by
    obtain ⟨z, y, t, e9, h9⟩ := fw2_f h
    clear h
    subst e9
    have h := h9
    clear h9
    obtain ⟨h0, h⟩ := fB_2 h
    refine ⟨lv, .inl (fi_rem z y) :: t, al, h2, h, ?_⟩
    refine (mq_irem (fn_0 y h0) (t.map (fv ρ b)) r).trans ?_
    rw [fn_rem h0]
    rfl
theorem fo_idiv (he : fAt μ pc (.idiv, a, b, n)) (hx : fSB μ lp D (pc + 1) x) : fSB μ lp D pc (o_idiv x) :=
  fs_0 he hx fun ρ b E lv st g al r h1 h2 h3 h => by
    obtain ⟨z, y, t, e9, h9⟩ := fw2_f h
    clear h
    subst e9
    have h := h9
    clear h9
    have h : fB (Nat.beq (Nat.mod y 4294967296) 0) false (fB (fi_ng (Nat.mod z 4294967296)) false (fB (fi_ng (Nat.mod y 4294967296)) false (x E lv (.inl (Nat.div (Nat.mod z 4294967296) (Nat.mod y 4294967296)) :: t) g))) = true := h
    obtain ⟨h0, h⟩ := fB_2 h
    obtain ⟨hz, h⟩ := fB_2 h
    obtain ⟨hy, h⟩ := fB_2 h
    refine ⟨lv, _ :: t, al, h2, h, ?_⟩
    refine (mq_idiv (fn_0 y h0) (t.map (fv ρ b)) r).trans ?_
    rw [fn_div hz hy]
    rfl
theorem fo_lbin {f : Nat → Nat → Nat} {e : mjE} (he : fAt μ pc e) (hx : fSB μ lp D (pc + 1) x) (ho : ∀ al y z st r, mj_op e (pc, al, .long (Int64.ofNat y) :: .long (Int64.ofNat z) :: st, r) = some (pc + 1, al, .long (Int64.ofNat (f z y)) :: st, r)) : fSB μ lp D pc (o_lbin f x) :=
  fs_0 he hx fun ρ b E lv st g al r h1 h2 h3 h => by
    rcases fw2l_1 h with ⟨z, y, t, e9, h9⟩ | h
    · clear h
      subst e9
      have h := h9
      clear h9
      exact ⟨lv, .inr (.inr (.inl (f z y))) :: t, al, h2, h, ho al y z _ _⟩
    · cases h
theorem fo_ladd (he : fAt μ pc (.ladd, a, b, n)) (hx : fSB μ lp D (pc + 1) x) : fSB μ lp D pc (o_lbin fl_add x) := fo_lbin he hx fun al y z st r => by rw [← fn_ladd]; rfl
theorem fo_lsub (he : fAt μ pc (.lsub, a, b, n)) (hx : fSB μ lp D (pc + 1) x) : fSB μ lp D pc (o_lbin fl_sub x) := fo_lbin he hx fun al y z st r => by rw [← fn_lsub]; rfl
theorem fo_lmul (he : fAt μ pc (.lmul, a, b, n)) (hx : fSB μ lp D (pc + 1) x) : fSB μ lp D pc (o_lbin fl_mul x) := fo_lbin he hx fun al y z st r => by rw [← fn_lmul]; rfl
theorem fo_lshl (he : fAt μ pc (.lshl, a, b, n)) (hx : fSB μ lp D (pc + 1) x) : fSB μ lp D pc (o_lshl x) :=
  fs_0 he hx fun ρ b E lv st g al r h1 h2 h3 h => by
    obtain ⟨y, t, e9, h9⟩ := fw1_f h
    clear h
    subst e9
    have h := h9
    clear h9
    obtain ⟨z, t, e9, h9⟩ := fwl_f h
    clear h
    subst e9
    have h := h9
    clear h9
    refine ⟨lv, _ :: t, al, h2, h, ?_⟩
    show _ = some (pc + 1, al, Value.long (Int64.ofNat (Nat.mod (Nat.shiftLeft z (Nat.mod y 64)) 18446744073709551616)) :: t.map (fv ρ b), r)
    rw [← fn_lshl]
    rfl
theorem fo_l2i (he : fAt μ pc (.l2i, a, b, n)) (hx : fSB μ lp D (pc + 1) x) : fSB μ lp D pc (o_l2i x) :=
  fs_0 he hx fun ρ b E lv st g al r h1 h2 h3 h => by
    obtain ⟨z, t, e9, h9⟩ := fwl_f h
    clear h
    subst e9
    have h := h9
    clear h9
    refine ⟨lv, _ :: t, al, h2, h, ?_⟩
    show _ = some (pc + 1, al, Value.int (Int32.ofNat (Nat.mod z 4294967296)) :: t.map (fv ρ b), r)
    rw [← fn_l2i]
    rfl
theorem fo_i2l (he : fAt μ pc (.i2l, a, b, n)) (hx : fSB μ lp D (pc + 1) x) : fSB μ lp D pc (o_i2l x) :=
  fs_0 he hx fun ρ b E lv st g al r h1 h2 h3 h => by
    cases st with
    | nil => cases h
    | cons v t =>
      cases v with
      | inl z =>
        refine ⟨lv, _ :: t, al, h2, h, ?_⟩
        show _ = some (pc + 1, al, Value.long (Int64.ofNat (fi_sx (Nat.mod z 4294967296))) :: t.map (fv ρ b), r)
        rw [← fn_i2l]
        rfl
      | inr q =>
        cases q with
        | inl r0 => cases h
        | inr q =>
          cases q with
          | inl m => cases h
          | inr k =>
            obtain ⟨hk, h⟩ := fB_1 (show fB (Nat.ble k 7) (fi_loadL k (Prod.fst E) (fun v => x E lv (v :: t) g)) false = true from h)
            have hk := Nat.le_of_ble_eq_true hk
            obtain ⟨v, q1, q2⟩ := fi_loadL_1 (b := b) hk h1 h
            refine ⟨lv, v :: t, al, h2, q1, ?_⟩
            have e : (Sum.inr (Sum.inr (Sum.inr k)) :: t).map (fv ρ b) = .int (ρ k) :: t.map (fv ρ b) := by rw [← fv_sym (b := b) hk]; rfl
            have e2 : (v :: t).map (fv ρ b) = .long (ρ k).toInt64 :: t.map (fv ρ b) := by rw [← q2]; rfl
            rw [e, e2]
            rfl
theorem mq_dup {a b n pc : Nat} {al : List (Nat × Value)} {v : Value} (h : v.category = 1) (st : List Value) (r : mjH × Nat × Nat) : mj_op (.dup, a, b, n) (pc, al, v :: st, r) = some (pc + 1, al, v :: v :: st, r) := by
  unfold mj_op; dsimp only; rw [if_pos h]; rfl
theorem mq_pop {a b n pc : Nat} {al : List (Nat × Value)} {v : Value} (h : v.category = 1) (st : List Value) (r : mjH × Nat × Nat) : mj_op (.pop, a, b, n) (pc, al, v :: st, r) = some (pc + 1, al, st, r) := by
  unfold mj_op; dsimp only; rw [if_pos h]
theorem mq_dup2 {a b n pc : Nat} {al : List (Nat × Value)} {v w : Value} (h : v.category = 1) (h2 : w.category = 1) (st : List Value) (r : mjH × Nat × Nat) : mj_op (.dup2, a, b, n) (pc, al, v :: w :: st, r) = some (pc + 1, al, v :: w :: v :: w :: st, r) := by
  unfold mj_op; dsimp only; rw [if_neg (by rw [h]; decide), if_pos h2]
theorem fo_dup (he : fAt μ pc (.dup, a, b, n)) (hx : fSB μ lp D (pc + 1) x) : fSB μ lp D pc (o_dup x) :=
  fs_0 he hx fun ρ b E lv st g al r h1 h2 h3 h => by
    cases st with
    | nil => cases h
    | cons v t =>
      obtain ⟨hv, h⟩ := fB_1 (show fB (fv_1 v) (x E lv (v :: v :: t) g) false = true from h)
      exact ⟨lv, v :: v :: t, al, h2, h, mq_dup (fv_cat.1 hv) (t.map (fv ρ b)) r⟩
theorem fo_pop (he : fAt μ pc (.pop, a, b, n)) (hx : fSB μ lp D (pc + 1) x) : fSB μ lp D pc (o_pop x) :=
  fs_0 he hx fun ρ b E lv st g al r h1 h2 h3 h => by
    cases st with
    | nil => cases h
    | cons v t =>
      obtain ⟨hv, h⟩ := fB_1 (show fB (fv_1 v) (x E lv t g) false = true from h)
      exact ⟨lv, t, al, h2, h, mq_pop (fv_cat.1 hv) (t.map (fv ρ b)) r⟩
theorem fo_dup2 (he : fAt μ pc (.dup2, a, b, n)) (hx : fSB μ lp D (pc + 1) x) : fSB μ lp D pc (o_dup2 x) :=
  fs_0 he hx fun ρ b E lv st g al r h1 h2 h3 h => by
    cases st with
    | nil => cases h
    | cons v t =>
      cases t with
      | nil => cases h
      | cons w t =>
        obtain ⟨hv, h⟩ := fB_1 (show fB (fv_1 v) (fB (fv_1 w) (x E lv (v :: w :: v :: w :: t) g) false) false = true from h)
        obtain ⟨hw, h⟩ := fB_1 h
        exact ⟨lv, v :: w :: v :: w :: t, al, h2, h, mq_dup2 (fv_cat.1 hv) (fv_cat.1 hw) (t.map (fv ρ b)) r⟩
end FOP2
