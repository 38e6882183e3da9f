theorem fbi_lt (x : Int32) : fbi x < 4294967296 := by
  unfold fbi
  have := x.toInt_lt
  have h2 := x.le_toInt
  omega
theorem fbi_eq (x : Int32) : ((fbi x : Nat) : Int) = x.toInt + 2147483648 := by
  unfold fbi
  have h2 := x.le_toInt
  omega
theorem fbi_inv {x : Int32} {n : Nat} (h : fbi x = n) : x = Int32.ofNat (fi_b n) := by
  refine Int32.toInt_inj.mp ?_
  have h1 := fbi_eq x
  have h2 := fbi_lt x
  have h3 := fn_int (fi_b n)
  rw [h] at h1 h2
  rw [h3]
  unfold fi_b
  show _ = if (n + 2147483648) % 4294967296 % 4294967296 < 2147483648 then (((n + 2147483648) % 4294967296 % 4294967296 : Nat) : Int) else (((n + 2147483648) % 4294967296 % 4294967296 : Nat) : Int) - 4294967296
  split <;> omega
theorem fi_set_0 (k n : Nat) (iv : fI) (h : k ≤ 7) (j : Nat) (p : Nat × Nat) : j ≤ 7 → fi_get j (fi_set k p iv) = (if j = k ∧ k < iv.length then p else fi_get j iv) := by
  intro hj
  have hg : ∀ (iv : fI) (j : Nat), fi_get j iv = iv.getD j (0, 4294967295) := by
    intro iv
    induction iv with
    | nil => intro j; cases j <;> rfl
    | cons a t ih =>
      intro j
      cases j with
      | zero => rfl
      | succ j => exact ih j
  rw [hg, hg]
  unfold fi_set
  by_cases hjk : j = k
  · subst hjk
    by_cases hl : j < iv.length
    · rw [if_pos ⟨rfl, hl⟩, List.getD_eq_getElem?_getD, List.getElem?_set_self hl]
      rfl
    · rw [if_neg (fun q => hl q.2), List.set_eq_of_length_le (by omega)]
  · rw [if_neg (fun q => hjk q.1), List.getD_eq_getElem?_getD, List.getElem?_set_ne (by omega), ← List.getD_eq_getElem?_getD]
theorem fi_set_ok {ρ : Nat → Int32} {iv : fI} (h : fIv ρ iv) {k : Nat} {p : Nat × Nat} (hp : p.1 ≤ fbi (ρ k) ∧ fbi (ρ k) ≤ p.2) : fIv ρ (fi_set k p iv) := by
  refine ⟨fun j hj => ?_, h.2⟩
  by_cases hk : k ≤ 7
  · rw [fi_set_0 k 0 iv hk j p hj]
    by_cases hjk : j = k ∧ k < iv.length
    · rw [if_pos hjk, hjk.1]
      exact hp
    · rw [if_neg hjk]
      exact h.1 j hj
  · have hg : fi_get j (fi_set k p iv) = fi_get j iv := by
      have hg : ∀ (iv : fI) (j : Nat), fi_get j iv = iv.getD j (0, 4294967295) := by
        intro iv
        induction iv with
        | nil => intro j; cases j <;> rfl
        | cons a t ih =>
          intro j
          cases j with
          | zero => rfl
          | succ j => exact ih j
      rw [hg, hg]
      unfold fi_set
      rw [List.getD_eq_getElem?_getD, List.getElem?_set_ne (by omega), ← List.getD_eq_getElem?_getD]
    rw [hg]
    exact h.1 j hj
theorem fi_all_1 {lo : Nat} {k : Nat → Bool} : ∀ {n : Nat}, fi_all n lo k = true → ∀ j, j ≤ n → k (lo + j) = true
  | 0, h, j, hj => by
    have e : j = 0 := by omega
    subst e
    exact h
  | n + 1, h, j, hj => by
    have h : Bool.rec (motive := fun _ => Bool) false (k (lo + (n + 1))) (fi_all n lo k) = true := h
    cases hq : fi_all n lo k with
    | false => rw [hq] at h; cases h
    | true =>
      rw [hq] at h
      by_cases hjn : j = n + 1
      · subst hjn
        exact h
      · exact fi_all_1 hq j (by omega)
theorem frc_t {n : Nat} {k : Nat → Bool} (h : frc n k = true) : k n = true := h
/-- an unknown int is loaded -/
theorem fi_load_1 {ρ : Nat → Int32} {b : Nat} {k : Nat} {iv : fI} {K0 : fV → Bool} {K : fI → fV → Bool} (hk : k ≤ 7) (hiv : fIv ρ iv) (h : fi_load k iv K0 K = true) : (∃ v, K0 v = true ∧ fv ρ b v = .int (ρ k)) ∨ ∃ iv' v, K iv' v = true ∧ fIv ρ iv' ∧ fv ρ b v = .int (ρ k) := by
  unfold fi_load at h
  have hb := hiv.1 k hk
  generalize fi_get k iv = p at h hb
  obtain ⟨lo, hi⟩ := p
  have hb1 : lo ≤ fbi (ρ k) := hb.1
  have hb2 : fbi (ρ k) ≤ hi := hb.2
  have h : Bool.rec (motive := fun _ => Bool) (Bool.rec (motive := fun _ => Bool) (K0 (Sum.inr (Sum.inr (Sum.inr k)))) (fi_all (Nat.sub hi lo) lo (fun n => frc n (fun n => frc (fi_b n) (fun m => K (fi_set k (n, n) iv) (Sum.inl m))))) (fi_few k lo hi iv)) (frc (fi_b lo) (fun m => K0 (Sum.inl m))) (Nat.beq lo hi) = true := h
  generalize fi_few k lo hi iv = q at h
  cases he : Nat.beq lo hi with
  | true =>
    rw [he] at h
    have h : K0 (Sum.inl (fi_b lo)) = true := frc_t (k := fun m => K0 (Sum.inl m)) h
    have he := Nat.eq_of_beq_eq_true he
    have e := fbi_inv (x := ρ k) (n := lo) (by omega)
    exact Or.inl ⟨Sum.inl (fi_b lo), h, congrArg Value.int e.symm⟩
  | false =>
    rw [he] at h
    cases q with
    | false => exact Or.inl ⟨Sum.inr (Sum.inr (Sum.inr k)), h, fv_sym hk⟩
    | true =>
      have h2 := fi_all_1 (n := Nat.sub hi lo) (k := fun n => frc n (fun n => frc (fi_b n) (fun m => K (fi_set k (n, n) iv) (Sum.inl m)))) h (fbi (ρ k) - lo) (Nat.sub_le_sub_right hb2 lo)
      have e : lo + (fbi (ρ k) - lo) = fbi (ρ k) := by omega
      rw [e] at h2
      have e2 := fbi_inv (x := ρ k) (n := fbi (ρ k)) rfl
      have h3 : frc (fbi (ρ k)) (fun n => frc (fi_b n) (fun m => K (fi_set k (n, n) iv) (Sum.inl m))) = true := h2
      have h4 : frc (fi_b (fbi (ρ k))) (fun m => K (fi_set k (fbi (ρ k), fbi (ρ k)) iv) (Sum.inl m)) = true := frc_t (k := fun n => frc (fi_b n) (fun m => K (fi_set k (n, n) iv) (Sum.inl m))) h3
      have h5 : K (fi_set k (fbi (ρ k), fbi (ρ k)) iv) (Sum.inl (fi_b (fbi (ρ k)))) = true := frc_t (k := fun m => K (fi_set k (fbi (ρ k), fbi (ρ k)) iv) (Sum.inl m)) h4
      exact Or.inr ⟨_, _, h5, fi_set_ok hiv ⟨Nat.le_refl _, Nat.le_refl _⟩, congrArg Value.int e2.symm⟩
theorem fx_load_1 {ρ : Nat → Int32} {b : Nat} {r : Nat ⊕ (Nat ⊕ Nat)} {iv : fI} {K0 : fV → Bool} {K : fI → fV → Bool} (hiv : fIv ρ iv) (h : fx_load r iv K0 K = true) : ∃ k, k ≤ 7 ∧ r = .inr (.inr k) ∧ ((∃ v, K0 v = true ∧ fv ρ b v = .int (ρ k)) ∨ ∃ iv' v, K iv' v = true ∧ fIv ρ iv' ∧ fv ρ b v = .int (ρ k)) := by
  cases r with
  | inl r => cases h
  | inr q =>
    cases q with
    | inl n => cases h
    | inr k =>
      have h : Bool.rec (motive := fun _ => Bool) false (fi_load k iv K0 K) (Nat.ble k 7) = true := h
      cases hk : Nat.ble k 7 with
      | false => rw [hk] at h; cases h
      | true =>
        rw [hk] at h
        have hk := Nat.le_of_ble_eq_true hk
        exact ⟨k, hk, rfl, fi_load_1 hk hiv h⟩
theorem fi_lsx_int {lo : Nat} (h : lo < 4294967296) : (Int64.ofNat (fi_lsx lo)).toInt = (lo : Int) - 2147483648 := by
  rw [fn_lint]
  unfold fi_lsx
  show (if (lo + 18446744071562067968) % 18446744073709551616 % 18446744073709551616 < 9223372036854775808 then (((lo + 18446744071562067968) % 18446744073709551616 % 18446744073709551616 : Nat) : Int) else (((lo + 18446744071562067968) % 18446744073709551616 % 18446744073709551616 : Nat) : Int) - 18446744073709551616) = _
  split <;> omega
theorem fi_loadL_1 {ρ : Nat → Int32} {b : Nat} {k : Nat} {iv : fI} {K : fV → Bool} (hk : k ≤ 7) (hiv : fIv ρ iv) (h : fi_loadL k iv K = true) : ∃ v, K v = true ∧ fv ρ b v = .long (ρ k).toInt64 := by
  unfold fi_loadL at h
  have hb := hiv.1 k hk
  generalize fi_get k iv = p at h hb
  obtain ⟨lo, hi⟩ := p
  have hb1 : lo ≤ fbi (ρ k) := hb.1
  have hb2 : fbi (ρ k) ≤ hi := hb.2
  have h : Bool.rec (motive := fun _ => Bool) (K (Sum.inr (Sum.inr (Sum.inr (Nat.add 8 k))))) (frc (fi_lsx lo) (fun m => K (Sum.inr (Sum.inr (Sum.inl m))))) (Nat.beq hi lo) = true := h
  cases he : Nat.beq hi lo with
  | false =>
    rw [he] at h
    exact ⟨_, h, fv_symL hk⟩
  | true =>
    rw [he] at h
    have h : K (Sum.inr (Sum.inr (Sum.inl (fi_lsx lo)))) = true := frc_t (k := fun m => K (Sum.inr (Sum.inr (Sum.inl m)))) h
    have he := Nat.eq_of_beq_eq_true he
    refine ⟨_, h, ?_⟩
    have h1 := fbi_eq (ρ k)
    have h2 := fbi_lt (ρ k)
    have h3 : fbi (ρ k) = lo := by omega
    have e : Int64.ofNat (fi_lsx lo) = (ρ k).toInt64 := by
      refine Int64.toInt_inj.mp ?_
      rw [Int32.toInt_toInt64, fi_lsx_int (by omega)]
      omega
    exact congrArg Value.long e
theorem fx_loadL_1 {ρ : Nat → Int32} {b : Nat} {k : Nat} {iv : fI} {K : fV → Bool} (hiv : fIv ρ iv) (h : fx_loadL k iv K = true) : ∃ v, K v = true ∧ ∃ y, fv_o ρ b k = .long y ∧ fv ρ b v = .long y := by
  unfold fx_loadL at h
  obtain ⟨h1, h⟩ := fB_1 h
  obtain ⟨h2, h⟩ := fB_1 h
  have h1 := Nat.le_of_ble_eq_true h1
  have h2 := Nat.le_of_ble_eq_true h2
  obtain ⟨v, q1, q2⟩ := fi_loadL_1 (b := b) (show k - 8 ≤ 7 by omega) hiv h
  refine ⟨v, q1, _, ?_, q2⟩
  unfold fv_o
  rw [if_neg (by omega), if_pos (by omega)]
theorem mq_iload_n {k : Fin 4} {a b n pc : Nat} {al : List (Nat × Value)} {x : Int32} (h : mj_ld al k = some (.int x)) (st : List Value) (r : mjH × Nat × Nat) : mj_op (.iload_n k, a, b, n) (pc, al, st, r) = some (pc + 1, al, .int x :: st, r) := by
  unfold mj_op; dsimp only; rw [h]; rfl
theorem mq_iload {k a b n pc : Nat} {al : List (Nat × Value)} {x : Int32} (h : mj_ld al k = some (.int x)) (st : List Value) (r : mjH × Nat × Nat) : mj_op (.iload k, a, b, n) (pc, al, st, r) = some (pc + 2, al, .int x :: st, r) := by
  unfold mj_op; dsimp only; rw [h]; rfl
theorem mq_lload_n {k : Fin 4} {a b n pc : Nat} {al : List (Nat × Value)} {x : Int64} (h : mj_ld al k = some (.long x)) (st : List Value) (r : mjH × Nat × Nat) : mj_op (.lload_n k, a, b, n) (pc, al, st, r) = some (pc + 1, al, .long x :: st, r) := by
  unfold mj_op; dsimp only; rw [h]; rfl
theorem mq_lload {k a b n pc : Nat} {al : List (Nat × Value)} {x : Int64} (h : mj_ld al k = some (.long x)) (st : List Value) (r : mjH × Nat × Nat) : mj_op (.lload k, a, b, n) (pc, al, st, r) = some (pc + 2, al, .long x :: st, r) := by
  unfold mj_op; dsimp only; rw [h]; rfl
theorem mq_aload_n {k : Fin 4} {a b n pc : Nat} {al : List (Nat × Value)} {r0 : Nat} (h : mj_ld al k = some (fv_r r0)) (st : List Value) (r : mjH × Nat × Nat) : mj_op (.aload_n k, a, b, n) (pc, al, st, r) = some (pc + 1, al, fv_r r0 :: st, r) := by
  unfold mj_op; dsimp only; rw [h]; cases r0 <;> rfl
theorem mq_aload {k a b n pc : Nat} {al : List (Nat × Value)} {r0 : Nat} (h : mj_ld al k = some (fv_r r0)) (st : List Value) (r : mjH × Nat × Nat) : mj_op (.aload k, a, b, n) (pc, al, st, r) = some (pc + 2, al, fv_r r0 :: st, r) := by
  unfold mj_op; dsimp only; rw [h]; cases r0 <;> rfl
theorem mq_iinc {k a b n pc : Nat} {v : Int} {al : List (Nat × Value)} {x : Int32} (h : mj_ld al k = some (.int x)) (st : List Value) (r : mjH × Nat × Nat) : mj_op (.iinc k v, a, b, n) (pc, al, st, r) = some (pc + 3, mj_s1 k (.int (x + Int32.ofInt v)) al, st, r) := by
  unfold mj_op; dsimp only; rw [h]
theorem fv_ne {v : fV} (h : v ≠ .inr (.inr (.inr 99))) : v ≠ fF := h

