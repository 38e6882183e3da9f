/-! BRANCHES -/
theorem fi_lt_1 {ρ : Nat → Int32} {k c : Nat} {iv : fI} {T E : fI → Bool} (hk : k ≤ 7) (hiv : fIv ρ iv) (h : fi_lt k c iv T E = true) : (fbi (ρ k) < c ∧ ∃ iv', fIv ρ iv' ∧ T iv' = true) ∨ (¬ fbi (ρ k) < c ∧ ∃ iv', fIv ρ iv' ∧ E iv' = true) := by
  unfold fi_lt at h
  have hb := hiv.1 k hk
  generalize hp : fi_get k iv = p at h hb
  obtain ⟨lo, hi⟩ := p
  have hb1 : lo ≤ fbi (ρ k) := hb.1
  have hb2 : fbi (ρ k) ≤ hi := hb.2
  have h : Bool.rec (motive := fun _ => Bool) (Bool.rec (motive := fun _ => Bool) (Bool.rec (motive := fun _ => Bool) false (E (fi_set k (c, hi) iv)) (T (fi_set k (lo, Nat.sub c 1) iv))) (E iv) (Nat.ble c lo)) (T iv) (Nat.ble (Nat.succ hi) c) = true := h
  cases h1 : Nat.ble (Nat.succ hi) c with
  | true =>
    rw [h1] at h
    have h1 := Nat.le_of_ble_eq_true h1
    exact Or.inl ⟨by omega, iv, hiv, h⟩
  | false =>
    rw [h1] at h
    cases h2 : Nat.ble c lo with
    | true =>
      rw [h2] at h
      have h2 := Nat.le_of_ble_eq_true h2
      exact Or.inr ⟨by omega, iv, hiv, h⟩
    | false =>
      rw [h2] at h
      have h : Bool.rec (motive := fun _ => Bool) false (E (fi_set k (c, hi) iv)) (T (fi_set k (lo, Nat.sub c 1) iv)) = true := h
      cases h3 : T (fi_set k (lo, Nat.sub c 1) iv) with
      | false => rw [h3] at h; cases h
      | true =>
        rw [h3] at h
        by_cases hc : fbi (ρ k) < c
        · exact Or.inl ⟨hc, _, fi_set_ok hiv ⟨hb1, show fbi (ρ k) ≤ c - 1 by omega⟩, h3⟩
        · exact Or.inr ⟨hc, _, fi_set_ok hiv ⟨show c ≤ fbi (ρ k) by omega, hb2⟩, h⟩
theorem fi_eq_1 {ρ : Nat → Int32} {k c : Nat} {iv : fI} {T E : fI → Bool} (hk : k ≤ 7) (hiv : fIv ρ iv) (h : fi_eq k c iv T E = true) : (fbi (ρ k) = c ∧ ∃ iv', fIv ρ iv' ∧ T iv' = true) ∨ (¬ fbi (ρ k) = c ∧ ∃ iv', fIv ρ iv' ∧ E iv' = true) := by
  unfold fi_eq at h
  rcases fi_lt_1 hk hiv h with ⟨h1, h2⟩ | ⟨h1, iv', h2, h3⟩
  · exact Or.inr ⟨by omega, h2⟩
  · rcases fi_lt_1 hk h2 h3 with ⟨h4, h5⟩ | ⟨h4, h5⟩
    · have h4 : fbi (ρ k) < c + 1 := h4
      exact Or.inl ⟨by omega, h5⟩
    · have h4 : ¬ fbi (ρ k) < c + 1 := h4
      exact Or.inr ⟨by omega, h5⟩
theorem fx_cmp_1 {st : fL} {L R : Nat → Nat → fL → Bool} (h : fx_cmp st L R = true) : (∃ k y t, st = .inl y :: .inr (.inr (.inr k)) :: t ∧ k ≤ 7 ∧ L k y t = true) ∨ (∃ x k t, st = .inr (.inr (.inr k)) :: .inl x :: t ∧ k ≤ 7 ∧ R x k t = true) := by
  cases st with
  | nil => cases h
  | cons v t =>
    cases t with
    | nil => cases v <;> cases h
    | cons w t =>
      cases v with
      | inl y =>
        cases w with
        | inl x => cases h
        | inr q =>
          cases q with
          | inl r => cases h
          | inr q =>
            cases q with
            | inl m => cases h
            | inr k =>
              obtain ⟨h1, h2⟩ := fB_1 (show fB (Nat.ble k 7) (L k y t) false = true from h)
              exact Or.inl ⟨k, y, t, rfl, Nat.le_of_ble_eq_true h1, h2⟩
      | inr q =>
        cases q with
        | inl r => cases h
        | inr q =>
          cases q with
          | inl m => cases h
          | inr k =>
            obtain ⟨h1, h2⟩ := fB_1 (show fB (Nat.ble k 7) (Sum.rec (motive := fun _ => Bool) (fun x => R x k t) (fun _ => false) w) false = true from h)
            cases w with
            | inl x => exact Or.inr ⟨x, k, t, rfl, Nat.le_of_ble_eq_true h1, h2⟩
            | inr q => cases h2
theorem fb_lt (x : Int32) (n : Nat) : x < Int32.ofNat n ↔ fbi x < fi_b n := by
  rw [Int32.lt_iff_toInt_lt]
  have h1 := fbi_eq x
  have h2 := fn_bI n
  omega
theorem fb_gt (x : Int32) (n : Nat) : Int32.ofNat n < x ↔ ¬ fbi x < Nat.succ (fi_b n) := by
  rw [Int32.lt_iff_toInt_lt]
  have h1 := fbi_eq x
  have h2 := fn_bI n
  omega
theorem fb_eq (x : Int32) (n : Nat) : x = Int32.ofNat n ↔ fbi x = fi_b n := by
  rw [← Int32.toInt_inj]
  have h1 := fbi_eq x
  have h2 := fn_bI n
  omega
section FBR
variable {ρ : Nat → Int32} {b : Nat} {E : fE} {lv st : fL} {g : fG} {tg nx : fX}
/-- what a comparison of two ints says: P or not, and where it goes on -/
def fc_is (ρ : Nat → Int32) (b : Nat) (P : Int32 → Int32 → Prop) (E : fE) (lv st : fL) (g : fG) (tg nx : fX) : Prop := ∃ (X Y : Int32) (t : fL) (iv' : fI), st.map (fv ρ b) = .int Y :: .int X :: t.map (fv ρ b) ∧ fIv ρ iv' ∧ ((P X Y ∧ tg (iv', E.2) lv t g = true) ∨ (¬ P X Y ∧ nx (iv', E.2) lv t g = true))
theorem fc_L {k y : Nat} {t : fL} (hk : k ≤ 7) : (Sum.inl y :: Sum.inr (Sum.inr (Sum.inr k)) :: t : fL).map (fv ρ b) = .int (Int32.ofNat y) :: .int (ρ k) :: t.map (fv ρ b) := by rw [← fv_sym (b := b) hk]; rfl
theorem fc_R {k y : Nat} {t : fL} (hk : k ≤ 7) : (Sum.inr (Sum.inr (Sum.inr k)) :: Sum.inl y :: t : fL).map (fv ρ b) = .int (ρ k) :: .int (Int32.ofNat y) :: t.map (fv ρ b) := by rw [← fv_sym (b := b) hk]; rfl
theorem fc_eq (hiv : fIv ρ E.1) (h : o_eq tg nx E lv st g = true) : fc_is ρ b (fun X Y => X = Y) E lv st g tg nx := by
  rcases fw2_1 h with ⟨x, y, t, e9, h9⟩ | h
  · clear h
    subst e9
    have h := h9
    clear h9
    refine ⟨Int32.ofNat x, Int32.ofNat y, t, E.1, rfl, hiv, ?_⟩
    rcases fB_t h with ⟨h1, h2⟩ | ⟨h1, h2⟩
    · exact Or.inl ⟨(fn_eqb x y).mpr h1, h2⟩
    · exact Or.inr ⟨fun q => (by rw [(fn_eqb x y).mp q] at h1; cases h1), h2⟩
  · rcases fx_cmp_1 h with ⟨k, y, t, e9, hk, h9⟩ | ⟨x, k, t, e9, hk, h9⟩ <;> clear h <;> subst e9
    · rcases fi_eq_1 hk hiv h9 with ⟨h1, iv', h2, h3⟩ | ⟨h1, iv', h2, h3⟩
      · exact ⟨_, _, t, iv', fc_L hk, h2, Or.inl ⟨(fb_eq _ _).mpr h1, h3⟩⟩
      · exact ⟨_, _, t, iv', fc_L hk, h2, Or.inr ⟨fun q => h1 ((fb_eq _ _).mp q), h3⟩⟩
    · rcases fi_eq_1 hk hiv h9 with ⟨h1, iv', h2, h3⟩ | ⟨h1, iv', h2, h3⟩
      · exact ⟨_, _, t, iv', fc_R hk, h2, Or.inl ⟨((fb_eq _ _).mpr h1).symm, h3⟩⟩
      · exact ⟨_, _, t, iv', fc_R hk, h2, Or.inr ⟨fun q => h1 ((fb_eq _ _).mp q.symm), h3⟩⟩
theorem fc_lt (hiv : fIv ρ E.1) (h : o_lt tg nx E lv st g = true) : fc_is ρ b (fun X Y => X < Y) E lv st g tg nx := by
  rcases fw2_1 h with ⟨x, y, t, e9, h9⟩ | h
  · clear h
    subst e9
    have h := h9
    clear h9
    refine ⟨Int32.ofNat x, Int32.ofNat y, t, E.1, rfl, hiv, ?_⟩
    rcases fB_t h with ⟨h1, h2⟩ | ⟨h1, h2⟩
    · exact Or.inl ⟨(fn_lt x y).mpr h1, h2⟩
    · exact Or.inr ⟨fun q => (by rw [(fn_lt x y).mp q] at h1; cases h1), h2⟩
  · rcases fx_cmp_1 h with ⟨k, y, t, e9, hk, h9⟩ | ⟨x, k, t, e9, hk, h9⟩ <;> clear h <;> subst e9
    · rcases fi_lt_1 hk hiv h9 with ⟨h1, iv', h2, h3⟩ | ⟨h1, iv', h2, h3⟩
      · exact ⟨_, _, t, iv', fc_L hk, h2, Or.inl ⟨(fb_lt _ _).mpr h1, h3⟩⟩
      · exact ⟨_, _, t, iv', fc_L hk, h2, Or.inr ⟨fun q => h1 ((fb_lt _ _).mp q), h3⟩⟩
    · rcases fi_lt_1 hk hiv h9 with ⟨h1, iv', h2, h3⟩ | ⟨h1, iv', h2, h3⟩
      · exact ⟨_, _, t, iv', fc_R hk, h2, Or.inr ⟨fun q => (fb_gt _ _).mp q h1, h3⟩⟩
      · exact ⟨_, _, t, iv', fc_R hk, h2, Or.inl ⟨(fb_gt _ _).mpr h1, h3⟩⟩
theorem fc_gt (hiv : fIv ρ E.1) (h : o_gt tg nx E lv st g = true) : fc_is ρ b (fun X Y => Y < X) E lv st g tg nx := by
  rcases fw2_1 h with ⟨x, y, t, e9, h9⟩ | h
  · clear h
    subst e9
    have h := h9
    clear h9
    refine ⟨Int32.ofNat x, Int32.ofNat y, t, E.1, rfl, hiv, ?_⟩
    rcases fB_t h with ⟨h1, h2⟩ | ⟨h1, h2⟩
    · exact Or.inl ⟨(fn_lt y x).mpr h1, h2⟩
    · exact Or.inr ⟨fun q => (by rw [(fn_lt y x).mp q] at h1; cases h1), h2⟩
  · rcases fx_cmp_1 h with ⟨k, y, t, e9, hk, h9⟩ | ⟨x, k, t, e9, hk, h9⟩ <;> clear h <;> subst e9
    · rcases fi_lt_1 hk hiv h9 with ⟨h1, iv', h2, h3⟩ | ⟨h1, iv', h2, h3⟩
      · exact ⟨_, _, t, iv', fc_L hk, h2, Or.inr ⟨fun q => (fb_gt _ _).mp q h1, h3⟩⟩
      · exact ⟨_, _, t, iv', fc_L hk, h2, Or.inl ⟨(fb_gt _ _).mpr h1, h3⟩⟩
    · rcases fi_lt_1 hk hiv h9 with ⟨h1, iv', h2, h3⟩ | ⟨h1, iv', h2, h3⟩
      · exact ⟨_, _, t, iv', fc_R hk, h2, Or.inl ⟨(fb_lt _ _).mpr h1, h3⟩⟩
      · exact ⟨_, _, t, iv', fc_R hk, h2, Or.inr ⟨fun q => h1 ((fb_lt _ _).mp q), h3⟩⟩
theorem fc_ne {P : Int32 → Int32 → Prop} (h : fc_is ρ b P E lv st g nx tg) : fc_is ρ b (fun X Y => ¬ P X Y) E lv st g tg nx := by
  obtain ⟨X, Y, t, iv', h1, h2, h3⟩ := h
  refine ⟨X, Y, t, iv', h1, h2, ?_⟩
  rcases h3 with ⟨h3, h4⟩ | ⟨h3, h4⟩
  · exact Or.inr ⟨fun q => q h3, h4⟩
  · exact Or.inl ⟨h3, h4⟩
end FBR
section FBO
variable {μ D pc pcT : Nat} {lp : List Nat} {tg nx : fX} {a b n : Nat} {off : Int}
theorem fs_c {P : Int32 → Int32 → Prop} {Q : Int32 → Int32 → Prop} [∀ X Y, Decidable (Q X Y)] {o : fX} {e : mjE} (he : fAt μ pc e) (ht : fSB μ lp D pcT tg) (hn : fSB μ lp D (pc + 3) nx) (hPQ : ∀ X Y, P X Y ↔ Q X Y)
    (ho : ∀ al X Y st r, mj_op e (pc, al, .int Y :: .int X :: st, r) = if Q X Y then some (pcT, al, st, r) else some (pc + 3, al, st, r))
    (H : ∀ (ρ : Nat → Int32) (b : Nat) (E : fE) (lv st : fL) (g : fG), fIv ρ E.1 → o E lv st g = true → fc_is ρ b P E lv st g tg nx) : fSB μ lp D pc o := by
  intro ρ b d X K m jmp hD hX hj iv lv st g al Hp c s hiv hl hh h
  obtain ⟨U, V, t, iv', h1, h2, h3⟩ := H ρ b (iv, (m, (jmp, K))) lv st g hiv h
  rw [h1]
  rcases h3 with ⟨h3, h4⟩ | ⟨h3, h4⟩
  · exact fs_op0 hX (f := (pc, al, _, Hp, c, s)) he ((ho al U V _ _).trans (if_pos ((hPQ U V).mp h3))) rfl rfl (ht ρ b d X K m jmp hD hX hj iv' lv t g al Hp c s h2 hl hh h4)
  · exact fs_op0 hX (f := (pc, al, _, Hp, c, s)) he ((ho al U V _ _).trans (if_neg (fun q => h3 ((hPQ U V).mpr q)))) rfl rfl (hn ρ b d X K m jmp hD hX hj iv' lv t g al Hp c s h2 hl hh h4)
theorem fs_z {P : Int32 → Int32 → Prop} {Q : Int32 → Prop} [∀ X, Decidable (Q X)] {o : fX} {e : mjE} (he : fAt μ pc e) (ht : fSB μ lp D pcT tg) (hn : fSB μ lp D (pc + 3) nx) (hPQ : ∀ X, P X 0 ↔ Q X)
    (ho : ∀ al X st r, mj_op e (pc, al, .int X :: st, r) = if Q X then some (pcT, al, st, r) else some (pc + 3, al, st, r))
    (H : ∀ (ρ : Nat → Int32) (b : Nat) (E : fE) (lv st : fL) (g : fG), fIv ρ E.1 → o E lv st g = true → fc_is ρ b P E lv st g tg nx) : fSB μ lp D pc (o_z o) := by
  intro ρ b d X K m jmp hD hX hj iv lv st g al Hp c s hiv hl hh h
  obtain ⟨U, V, t, iv', h1, h2, h3⟩ := H ρ b (iv, (m, (jmp, K))) lv (.inl 0 :: st) g hiv h
  have h1 : Value.int 0 :: st.map (fv ρ b) = .int V :: .int U :: t.map (fv ρ b) := h1
  injection h1 with e1 e2
  injection e1 with e1
  subst e1
  rw [e2]
  rcases h3 with ⟨h3, h4⟩ | ⟨h3, h4⟩
  · exact fs_op0 hX (f := (pc, al, _, Hp, c, s)) he ((ho al U _ _).trans (if_pos ((hPQ U).mp h3))) rfl rfl (ht ρ b d X K m jmp hD hX hj iv' lv t g al Hp c s h2 hl hh h4)
  · exact fs_op0 hX (f := (pc, al, _, Hp, c, s)) he ((ho al U _ _).trans (if_neg (fun q => h3 ((hPQ U).mpr q)))) rfl rfl (hn ρ b d X K m jmp hD hX hj iv' lv t g al Hp c s h2 hl hh h4)
theorem fb_ge (X Y : Int32) : ¬ X < Y ↔ Y ≤ X := by
  rw [Int32.lt_iff_toInt_lt, Int32.le_iff_toInt_le]
  omega
theorem fo_icmp_eq (he : fAt μ pc (.if_icmp .eq off, a, b, n)) (hp : mj_tg pc off = pcT) (ht : fSB μ lp D pcT tg) (hn : fSB μ lp D (pc + 3) nx) : fSB μ lp D pc (o_eq tg nx) :=
  fs_c he ht hn (fun _ _ => Iff.rfl) (fun al X Y st r => by rw [← hp]; rfl) (fun ρ b E lv st g h1 h => fc_eq h1 h)
theorem fo_icmp_ne (he : fAt μ pc (.if_icmp .ne off, a, b, n)) (hp : mj_tg pc off = pcT) (ht : fSB μ lp D pcT tg) (hn : fSB μ lp D (pc + 3) nx) : fSB μ lp D pc (o_ne tg nx) :=
  fs_c (Q := fun X Y => ¬ X = Y) he ht hn (fun _ _ => Iff.rfl) (fun al X Y st r => by rw [← hp]; rfl) (fun ρ b E lv st g h1 h => fc_ne (fc_eq h1 h))
theorem fo_icmp_lt (he : fAt μ pc (.if_icmp .lt off, a, b, n)) (hp : mj_tg pc off = pcT) (ht : fSB μ lp D pcT tg) (hn : fSB μ lp D (pc + 3) nx) : fSB μ lp D pc (o_lt tg nx) :=
  fs_c he ht hn (fun _ _ => Iff.rfl) (fun al X Y st r => by rw [← hp]; rfl) (fun ρ b E lv st g h1 h => fc_lt h1 h)
theorem fo_icmp_ge (he : fAt μ pc (.if_icmp .ge off, a, b, n)) (hp : mj_tg pc off = pcT) (ht : fSB μ lp D pcT tg) (hn : fSB μ lp D (pc + 3) nx) : fSB μ lp D pc (o_ge tg nx) :=
  fs_c (Q := fun X Y => Y ≤ X) he ht hn (fun X Y => fb_ge X Y) (fun al X Y st r => by rw [← hp]; rfl) (fun ρ b E lv st g h1 h => fc_ne (fc_lt h1 h))
theorem fo_icmp_gt (he : fAt μ pc (.if_icmp .gt off, a, b, n)) (hp : mj_tg pc off = pcT) (ht : fSB μ lp D pcT tg) (hn : fSB μ lp D (pc + 3) nx) : fSB μ lp D pc (o_gt tg nx) :=
  fs_c he ht hn (fun _ _ => Iff.rfl) (fun al X Y st r => by rw [← hp]; rfl) (fun ρ b E lv st g h1 h => fc_gt h1 h)
theorem fo_icmp_le (he : fAt μ pc (.if_icmp .le off, a, b, n)) (hp : mj_tg pc off = pcT) (ht : fSB μ lp D pcT tg) (hn : fSB μ lp D (pc + 3) nx) : fSB μ lp D pc (o_le tg nx) :=
  fs_c (Q := fun X Y => X ≤ Y) he ht hn (fun X Y => fb_ge Y X) (fun al X Y st r => by rw [← hp]; rfl) (fun ρ b E lv st g h1 h => fc_ne (fc_gt h1 h))
theorem fo_if_eq (he : fAt μ pc (.ifCond .eq off, a, b, n)) (hp : mj_tg pc off = pcT) (ht : fSB μ lp D pcT tg) (hn : fSB μ lp D (pc + 3) nx) : fSB μ lp D pc (o_z (o_eq tg nx)) :=
  fs_z (Q := fun X => X = 0) he ht hn (fun _ => Iff.rfl) (fun al X st r => by rw [← hp]; rfl) (fun ρ b E lv st g h1 h => fc_eq h1 h)
theorem fo_if_ne (he : fAt μ pc (.ifCond .ne off, a, b, n)) (hp : mj_tg pc off = pcT) (ht : fSB μ lp D pcT tg) (hn : fSB μ lp D (pc + 3) nx) : fSB μ lp D pc (o_z (o_ne tg nx)) :=
  fs_z (Q := fun X => ¬ X = 0) he ht hn (fun _ => Iff.rfl) (fun al X st r => by rw [← hp]; rfl) (fun ρ b E lv st g h1 h => fc_ne (fc_eq h1 h))
theorem fo_if_lt (he : fAt μ pc (.ifCond .lt off, a, b, n)) (hp : mj_tg pc off = pcT) (ht : fSB μ lp D pcT tg) (hn : fSB μ lp D (pc + 3) nx) : fSB μ lp D pc (o_z (o_lt tg nx)) :=
  fs_z (Q := fun X => X < 0) he ht hn (fun _ => Iff.rfl) (fun al X st r => by rw [← hp]; rfl) (fun ρ b E lv st g h1 h => fc_lt h1 h)
theorem fo_if_ge (he : fAt μ pc (.ifCond .ge off, a, b, n)) (hp : mj_tg pc off = pcT) (ht : fSB μ lp D pcT tg) (hn : fSB μ lp D (pc + 3) nx) : fSB μ lp D pc (o_z (o_ge tg nx)) :=
  fs_z (Q := fun X => 0 ≤ X) he ht hn (fun X => fb_ge X 0) (fun al X st r => by rw [← hp]; rfl) (fun ρ b E lv st g h1 h => fc_ne (fc_lt h1 h))
theorem fo_if_gt (he : fAt μ pc (.ifCond .gt off, a, b, n)) (hp : mj_tg pc off = pcT) (ht : fSB μ lp D pcT tg) (hn : fSB μ lp D (pc + 3) nx) : fSB μ lp D pc (o_z (o_gt tg nx)) :=
  fs_z (Q := fun X => 0 < X) he ht hn (fun _ => Iff.rfl) (fun al X st r => by rw [← hp]; rfl) (fun ρ b E lv st g h1 h => fc_gt h1 h)
theorem fo_if_le (he : fAt μ pc (.ifCond .le off, a, b, n)) (hp : mj_tg pc off = pcT) (ht : fSB μ lp D pcT tg) (hn : fSB μ lp D (pc + 3) nx) : fSB μ lp D pc (o_z (o_le tg nx)) :=
  fs_z (Q := fun X => X ≤ 0) he ht hn (fun X => fb_ge 0 X) (fun al X st r => by rw [← hp]; rfl) (fun ρ b E lv st g h1 h => fc_ne (fc_gt h1 h))
theorem fo_goto {x : fX} (he : fAt μ pc (.goto off, a, b, n)) (hp : mj_tg pc off = pcT) (hx : fSB μ lp D pcT x) : fSB μ lp D pc x :=
  fs_0 he hx fun ρ b E lv st g al r h1 h2 h3 h => ⟨lv, st, al, h2, h, by rw [← hp]; rfl⟩
theorem fo_back {i q : Nat} (h : lp[i]? = some q) : fSB μ lp D q (o_back i) :=
  fun ρ b d X K m jmp hD hX hj => hj i q h
theorem fo_bad : fSB μ lp D pc o_bad := by
  intro ρ b d X K m jmp hD hX hj iv lv st g al Hp c s hiv hl hh h
  cases h
theorem fo_null {e : mjE} {pcA pcB : Nat} (he : fAt μ pc e) (ht : fSB μ lp D pcA tg) (hn : fSB μ lp D pcB nx) (h0 : ∀ al st r, mj_op e (pc, al, .null :: st, r) = some (pcA, al, st, r)) (h1 : ∀ al x st r, mj_op e (pc, al, .ref x :: st, r) = some (pcB, al, st, r)) : fSB μ lp D pc (o_ifnull tg nx) := by
  intro ρ b d X K m jmp hD hX hj iv lv st g al Hp c s hiv hl hh h
  obtain ⟨r0, t, e9, h9⟩ := fwr_1 h
  clear h
  subst e9
  have h := h9
  clear h9
  rcases fB_t h with ⟨q, h⟩ | ⟨q, h⟩
  · have q := Nat.eq_of_beq_eq_true q
    subst q
    exact fs_op0 hX (f := (pc, al, _, Hp, c, s)) he (h0 al _ _) rfl rfl (ht ρ b d X K m jmp hD hX hj iv lv t g al Hp c s hiv hl hh h)
  · cases r0 with
    | zero => cases q
    | succ r0 => exact fs_op0 hX (f := (pc, al, _, Hp, c, s)) he (h1 al r0 _ _) rfl rfl (hn ρ b d X K m jmp hD hX hj iv lv t g al Hp c s hiv hl hh h)
theorem fo_ifnull (he : fAt μ pc (.ifnull off, a, b, n)) (hp : mj_tg pc off = pcT) (ht : fSB μ lp D pcT tg) (hn : fSB μ lp D (pc + 3) nx) : fSB μ lp D pc (o_ifnull tg nx) :=
  fo_null he ht hn (fun _ _ _ => by rw [← hp]; rfl) (fun _ _ _ _ => rfl)
theorem fo_ifnonnull (he : fAt μ pc (.ifnonnull off, a, b, n)) (hp : mj_tg pc off = pcT) (ht : fSB μ lp D pcT tg) (hn : fSB μ lp D (pc + 3) nx) : fSB μ lp D pc (o_ifnonnull tg nx) :=
  fo_null he hn ht (fun _ _ _ => rfl) (fun _ _ _ _ => by rw [← hp]; rfl)
theorem fx_lcmp_1 {st : fL} {k : Nat → Nat → fL → Bool} (h : fx_lcmp st k = true) : ∃ y j t, st = .inr (.inr (.inl y)) :: .inr (.inr (.inr (8 + j))) :: t ∧ j ≤ 7 ∧ fl_lb y < 4294967296 ∧ k j (fl_lb y) t = true := by
  unfold fx_lcmp at h
  obtain ⟨y, t, e9, h9⟩ := fwl_f h
  clear h
  subst e9
  have h := h9
  clear h9
  cases t with
  | nil => cases h
  | cons v t =>
    cases v with
    | inl x => cases h
    | inr q =>
      cases q with
      | inl r => cases h
      | inr q =>
        cases q with
        | inl m => cases h
        | inr m =>
          have h : fx_long m (frc (fl_lb y) (fun c => fB (Nat.ble c 4294967295) (k (Nat.sub m 8) c t) false)) = true := h
          obtain ⟨h, h1, h2, -⟩ := fx_long_1 (ρ := fun _ => 0) (b := 0) h
          have h := frc_t (k := fun c => fB (Nat.ble c 4294967295) (k (Nat.sub m 8) c t) false) h
          obtain ⟨h3, h4⟩ := fB_1 h
          have h3 := Nat.le_of_ble_eq_true h3
          refine ⟨y, m - 8, t, ?_, by omega, by omega, h4⟩
          rw [show 8 + (m - 8) = m by omega]
theorem fl_lb_int (y : Nat) (h : fl_lb y < 4294967296) : (Int64.ofNat y).toInt = ((fl_lb y : Nat) : Int) - 2147483648 := by
  rw [fn_lint]
  unfold fl_lb at h ⊢
  have h : (y + 2147483648) % 18446744073709551616 < 4294967296 := h
  show _ = (((y + 2147483648) % 18446744073709551616 : Nat) : Int) - 2147483648
  split <;> omega
theorem fo_lcmp {x : fX} (he : fAt μ pc (.lcmp, a, b, n)) (hx : fSB μ lp D (pc + 1) x) : fSB μ lp D pc (o_lcmp x) :=
  fs_s he hx fun ρ b E lv st g al Hp c s h1 h2 h3 h => by
    rcases fw2l_1 h with ⟨u, v, t, e9, h9⟩ | h
    · clear h
      subst e9
      have h := h9
      clear h9
      refine ⟨E.1, lv, .inl (fl_cmp u v) :: t, g, al, Hp, c, s, h1, h2, h3, frc_t (k := fun z => x E lv (Sum.inl z :: t) g) h, ?_, rfl, rfl⟩
      show _ = some (pc + 1, al, Value.int (Int32.ofNat (fl_cmp u v)) :: t.map (fv ρ b), Hp, c, s)
      rw [← fn_lcmp]
      rfl
    · obtain ⟨y, k, t, e9, hk, hc, h9⟩ := fx_lcmp_1 h
      clear h
      subst e9
      have h := h9
      clear h9
      have e : (Sum.inr (Sum.inr (Sum.inl y)) :: Sum.inr (Sum.inr (Sum.inr (8 + k))) :: t : fL).map (fv ρ b) = .long (Int64.ofNat y) :: .long (ρ k).toInt64 :: t.map (fv ρ b) := by rw [← fv_symL (b := b) hk]; rfl
      have hop : ∀ q, mj_op (.lcmp, a, q, n) (pc, al, .long (Int64.ofNat y) :: .long (ρ k).toInt64 :: t.map (fv ρ b), Hp, c, s) = some (pc + 1, al, .int (lg_cmp (ρ k).toInt64 (Int64.ofNat y)) :: t.map (fv ρ b), Hp, c, s) := fun _ => rfl
      have hf := fbi_eq (ρ k)
      have hb := fbi_lt (ρ k)
      have hlg : lg_cmp (ρ k).toInt64 (Int64.ofNat y) = if fbi (ρ k) < fl_lb y then Int32.ofNat 4294967295 else if fbi (ρ k) < Nat.succ (fl_lb y) then Int32.ofNat 0 else Int32.ofNat 1 := by
        have hyy := fl_lb_int y hc
        have hA : (ρ k).toInt64 > Int64.ofNat y ↔ ¬ fbi (ρ k) < Nat.succ (fl_lb y) := by
          rw [gt_iff_lt, Int64.lt_iff_toInt_lt, Int32.toInt_toInt64, hyy]
          omega
        have hB : (ρ k).toInt64 = Int64.ofNat y ↔ fbi (ρ k) = fl_lb y := by
          rw [← Int64.toInt_inj, Int32.toInt_toInt64, hyy]
          omega
        unfold lg_cmp
        by_cases q1 : fbi (ρ k) < fl_lb y
        · rw [if_pos q1, if_neg (fun q => hA.mp q (by omega)), if_neg (fun q => by have := hB.mp q; omega)]
          rfl
        · rw [if_neg q1]
          by_cases q2 : fbi (ρ k) < Nat.succ (fl_lb y)
          · rw [if_pos q2, if_neg (fun q => hA.mp q q2), if_pos (hB.mpr (by omega))]
            rfl
          · rw [if_neg q2, if_pos (hA.mpr q2)]
            rfl
      rw [e]
      rcases fi_lt_1 hk h1 h with ⟨q1, iv', q2, q3⟩ | ⟨q1, iv', q2, q3⟩
      · refine ⟨iv', lv, .inl 4294967295 :: t, g, al, Hp, c, s, q2, h2, h3, q3, ?_, rfl, rfl⟩
        rw [if_pos q1] at hlg
        rw [hop, hlg]
        rfl
      · rw [if_neg q1] at hlg
        rcases fi_lt_1 hk q2 q3 with ⟨p1, iv2, p2, p3⟩ | ⟨p1, iv2, p2, p3⟩
        · refine ⟨iv2, lv, .inl 0 :: t, g, al, Hp, c, s, p2, h2, h3, p3, ?_, rfl, rfl⟩
          rw [if_pos p1] at hlg
          rw [hop, hlg]
          rfl
        · refine ⟨iv2, lv, .inl 1 :: t, g, al, Hp, c, s, p2, h2, h3, p3, ?_, rfl, rfl⟩
          rw [if_neg p1] at hlg
          rw [hop, hlg]
          rfl
end FBO
