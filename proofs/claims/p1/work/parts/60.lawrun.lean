/-! THE LAW'S RUN: what the fast machine says of it -/
theorem mh_op_n {b L : Nat} {xs : Nat → Int32} {e : mjE} {f f' : mjF} (ho : mj_op e f = some f') : mh_op b L xs e f = none := by
  obtain ⟨ins, a, bb, n⟩ := e
  obtain ⟨pc, lv, st, r⟩ := f
  cases hm : mh_op b L xs (ins, a, bb, n) (pc, lv, st, r) with
  | none => rfl
  | some f2 =>
    exfalso
    unfold mh_op at hm
    split at hm
    · rename_i st' k e1
      have e1 : ins = _ := e1
      subst e1
      split at hm
      · rename_i x hl
        unfold mj_op at ho
        dsimp only at ho
        have hl : mj_ld lv k = some (.retAddr x) := hl
        rw [hl] at ho
        cases ho
      · cases hm
    · rename_i x st' e1 e2
      have e1 : ins = _ := e1
      have e2 : st = _ := e2
      subst e1 e2
      cases ho
    · rename_i i x st' e1 e2
      have e1 : ins = _ := e1
      have e2 : st = _ := e2
      subst e1 e2
      cases ho
    · cases hm
theorem mh_op_nn {b L : Nat} {xs : Nat → Int32} {e : mjE} {f : mjF} (hn : (∀ k, e.1 ≠ .aload_n k) ∧ e.1 ≠ .arraylength ∧ e.1 ≠ .iaload) : mh_op b L xs e f = none := by
  unfold mh_op
  split
  · rename_i st k h
    exact absurd h (hn.1 k)
  · rename_i h _
    exact absurd h hn.2.1
  · rename_i h _
    exact absurd h hn.2.2
  · rfl
theorem mh_op_s {ρ : Nat → Int32} {b L : Nat} {xs : Nat → Int32} {e : mjE} {f f' : mjF} (h7 : ρ 7 = Int32.ofNat L) (hL : L ≤ 5) (hx : ∀ j, j ≤ 4 → ρ j = xs j) (h : fsc_op ρ b e f = some f') : mh_op b L xs e f = some f' := by
  obtain ⟨ins, a, bb, n⟩ := e
  obtain ⟨pc, lv, st, r⟩ := f
  unfold fsc_op at h
  split at h
  · rename_i st' k e1
    have e1 : ins = _ := e1
    subst e1
    split at h
    · rename_i x hl
      split at h
      · rename_i hxb
        have hl : mj_ld lv k = some (.retAddr x) := hl
        unfold mh_op
        dsimp only
        rw [hl]
        exact h
      · cases h
    · cases h
  · rename_i x st' e1 e2
    have e1 : ins = _ := e1
    have e2 : st = _ := e2
    subst e1 e2
    split at h
    · rename_i hxb
      unfold mh_op
      dsimp only
      rw [if_pos hxb, ← h7]
      exact h
    · cases h
  · rename_i i x st' e1 e2
    have e1 : ins = _ := e1
    have e2 : st = _ := e2
    subst e1 e2
    split at h
    · rename_i hc
      obtain ⟨c1, c2, c3, c4⟩ := hc
      have hL5 : L = 5 := by
        rw [h7] at c2
        have := fn_inj.mp (show Int32.ofNat L = Int32.ofNat 5 from c2)
        omega
      unfold mh_op
      dsimp only
      rw [if_pos ⟨c1, fun q => q.elim c4 (by omega)⟩, ← hx _ c3]
      exact h
    · cases h
  · cases h
theorem fRun_law {ρ : Nat → Int32} {b L : Nat} {xs : Nat → Int32} (d : Nat) (h7 : ρ 7 = Int32.ofNat L) (hL : L ≤ 5) (hx : ∀ j, j ≤ 4 → ρ j = xs j) : fRun ρ b 329 d (fun m f => mh_run b L xs mj_P m d f) := by
  refine ⟨fun m f e f' R he ho h => ?_, fun m f e R he hn h => ?_, fun _ m f e f' R he ho h => ?_⟩
  · show mh_run b L xs mj_P (m + 1) d f = some R
    simp only [mh_run]
    rw [he]
    dsimp only
    rw [mh_op_n ho]
    exact (mq_nsp ho).trans h
  · show mh_run b L xs mj_P (m + 1) d f = some R
    simp only [mh_run]
    rw [he]
    dsimp only
    rw [mh_op_nn hn]
    exact h
  · show mh_run b L xs mj_P (m + 1) d f = some R
    simp only [mh_run]
    rw [he]
    dsimp only
    rw [mh_op_s h7 hL hx ho]
    exact h
/-- the end: 1, in the room -/
noncomputable def fK_1 : fK := fun _ r g => Sum.rec (motive := fun _ => Bool) (fun v => Option.rec (motive := fun _ => Bool) false (fun v => Sum.rec (motive := fun _ => Bool) (fun n => fB (Nat.beq n 1) (fB (Nat.ble g.2.2.1 600006) (Nat.ble g.2.2.2 7302024) false) false) (fun _ => false) v) v) (fun _ => false) r
noncomputable def ft_c {α : Type} (x : α) (l : List Nat) : fT α l := List.rec (motive := fun l => fT α l) x (fun _ _ t => (t, t)) l
noncomputable def g00 : fG := (ft_c ((0, 0, 0) : fC) fD, 0, 0, 0)
/-- the law, its ints in these bounds -/
noncomputable def f_law (iv : fI) : Bool := f_loop fC_329 fK_1 100000 0 iv [Sum.inr (Sum.inr (Sum.inr 20)), fF, fF, fF, fF, fF, fF, fF, fF] [] g00
theorem fK_1_1 {iv : fI} {r : fR} {g : fG} (h : fK_1 iv r g = true) : r = .inl (some (.inl 1)) ∧ g.2.2.1 ≤ 600006 ∧ g.2.2.2 ≤ 7302024 := by
  cases r with
  | inr x => cases h
  | inl v =>
    cases v with
    | none => cases h
    | some v =>
      cases v with
      | inr q => cases h
      | inl n =>
        obtain ⟨h1, h⟩ := fB_1 (show fB (Nat.beq n 1) (fB (Nat.ble g.2.2.1 600006) (Nat.ble g.2.2.2 7302024) false) false = true from h)
        obtain ⟨h2, h3⟩ := fB_1 h
        have h1 := Nat.eq_of_beq_eq_true h1
        subst h1
        exact ⟨rfl, Nat.le_of_ble_eq_true h2, Nat.le_of_ble_eq_true h3⟩
theorem f_law_ok {iv : fI} (h : f_law iv = true) {ρ : Nat → Int32} {b L : Nat} {xs : Nat → Int32} (hiv : fIv ρ iv) (h7 : ρ 7 = Int32.ofNat L) (hL : L ≤ 5) (hx : ∀ j, j ≤ 4 → ρ j = xs j) : ∃ n hr cr sr, cr ≤ 600006 ∧ sr ≤ 7302024 ∧ mh_run b L xs mj_P n 100 (0, [(0, .retAddr b)], [], [], 0, 0) = some (.inl (some (.int 1)), hr, cr, sr) := by
  have hl : fLR ρ b [Sum.inr (Sum.inr (Sum.inr 20)), fF, fF, fF, fF, fF, fF, fF, fF] [(0, .retAddr b)] := by
    intro j
    cases j with
    | zero => exact Or.inr (Or.inr rfl)
    | succ j =>
      refine Or.inl ?_
      exact fFil_cons (fFil_cons (fFil_cons (fFil_cons (fFil_cons (fFil_cons (fFil_cons (fFil_cons fFil_nil))))))) j
  have hh : fHR g00 [] := ⟨rfl, by decide, fun r hr => absurd hr (Nat.not_lt_zero r)⟩
  obtain ⟨n, R, iv', r, g', w1, w2, w3, w4, w5, w6, w7⟩ := fs_loop (b := b) (fRun_law 100 h7 hL hx) (show 7 ≤ 100 by decide) (fHs_ok fHs_329) 100000 0 0 rfl iv _ [] g00 [(0, .retAddr b)] [] 0 0 hiv hl hh h
  obtain ⟨k1, k2, k3⟩ := fK_1_1 w2
  subst k1
  obtain ⟨v, hr, cr, sr⟩ := R
  have w4 : v = .inl (some (.int 1)) := w4
  have w6 : cr + 0 = 0 + g'.2.2.1 := w6
  have w7 : sr + 0 = 0 + g'.2.2.2 := w7
  subst w4
  exact ⟨n, hr, cr, sr, by omega, by omega, w1 n (Nat.le_refl n)⟩
