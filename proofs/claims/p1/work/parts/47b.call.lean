/-! arguments -/
noncomputable def fl_w (v : fV) (t : fL) : fL := Bool.rec (motive := fun _ => fL) (v :: fF :: t) (v :: t) (fv_1 v)
noncomputable def fl_lay (fill : fL) : List fV → fL
  | [] => fill
  | v :: t => fl_w v (fl_lay fill t)
theorem fl_w_t {v : fV} {t : fL} (h : fv_1 v = true) : fl_w v t = v :: t := by
  unfold fl_w
  rw [h]
theorem fl_w_f {v : fV} {t : fL} (h : fv_1 v = false) : fl_w v t = v :: fF :: t := by
  unfold fl_w
  rw [h]
theorem fl_lay_app (fill : fL) (xs ys : List fV) : fl_lay (fl_lay fill ys) xs = fl_lay fill (xs ++ ys) := by
  induction xs with
  | nil => rfl
  | cons v t ih => exact congrArg (fl_w v) ih
/-- how much the arguments take -/
def fl_ds : List Bool → Nat
  | [] => 0
  | d :: ds => (match d with | true => 2 | false => 1) + fl_ds ds
theorem fl_args_1 (ds : List Bool) : ∀ {st acc : fL} {k : fL → fL → Bool}, fl_args ds st acc k = true → ∃ vs t, st = vs ++ t ∧ vs.length = ds.length ∧ k t (fl_lay acc vs.reverse) = true ∧ ∀ (ρ : Nat → Int32) (b : Nat), mj_cat (vs.map (fv ρ b)) = fl_ds ds := by
  induction ds with
  | nil => exact fun h => ⟨[], _, rfl, rfl, h, fun _ _ => rfl⟩
  | cons d ds ih =>
    intro st acc k h
    cases st with
    | nil => cases h
    | cons v t =>
      have hcat : ∀ (ρ : Nat → Int32) (b : Nat) (vs : List fV), mj_cat ((v :: vs).map (fv ρ b)) = (fv ρ b v).category + mj_cat (vs.map (fv ρ b)) := by
        intro ρ b vs
        show (((v :: vs).map (fv ρ b)).map fun v => v.category).sum = _
        rw [List.map_cons, List.map_cons, List.sum_cons]
        rfl
      cases d with
      | false =>
        obtain ⟨h1, h2⟩ := fB_1 (show fB (fv_1 v) (fl_args ds t (v :: acc) k) false = true from h)
        obtain ⟨vs, t2, e1, e2, e3, e4⟩ := ih h2
        subst e1
        refine ⟨v :: vs, t2, rfl, congrArg Nat.succ e2, ?_, fun ρ b => ?_⟩
        · rw [List.reverse_cons, ← fl_lay_app]
          have e : fl_lay acc [v] = v :: acc := fl_w_t h1
          rw [e]
          exact e3
        · rw [hcat, e4, fv_cat.1 h1]
          rfl
      | true =>
        obtain ⟨h1, h2⟩ := fB_2 (show fB (fv_1 v) false (fl_args ds t (v :: fF :: acc) k) = true from h)
        obtain ⟨vs, t2, e1, e2, e3, e4⟩ := ih h2
        subst e1
        refine ⟨v :: vs, t2, rfl, congrArg Nat.succ e2, ?_, fun ρ b => ?_⟩
        · rw [List.reverse_cons, ← fl_lay_app]
          have e : fl_lay acc [v] = v :: fF :: acc := fl_w_f h1
          rw [e]
          exact e3
        · rw [hcat, e4, fv_cat.2 h1]
          rfl
theorem fl_lay_at {ρ : Nat → Int32} {b : Nat} {fill : fL} (hf : ∀ j, fl_get j fill = fF) (as : List fV) : ∀ i j, fl_get j (fl_lay fill as) = fF ∨ mj_ld (lv_args i (as.map (fv ρ b))) (i + j) = some (fv ρ b (fl_get j (fl_lay fill as))) := by
  induction as with
  | nil => exact fun i j => Or.inl (hf j)
  | cons v t ih =>
    intro i j
    have e0 : lv_args i ((v :: t).map (fv ρ b)) = (i, fv ρ b v) :: lv_args (if (fv ρ b v).category = 2 then i + 2 else i + 1) (t.map (fv ρ b)) := rfl
    have e1 : fl_lay fill (v :: t) = fl_w v (fl_lay fill t) := rfl
    have hself : mj_ld ((i, fv ρ b v) :: lv_args (if (fv ρ b v).category = 2 then i + 2 else i + 1) (t.map (fv ρ b))) (i + 0) = some (fv ρ b v) := by
      unfold mj_ld
      rw [List.find?_cons_of_pos (by simp)]
    rw [e0, e1]
    cases h : fv_1 v with
    | true =>
      rw [fl_w_t h]
      cases j with
      | zero => exact Or.inr hself
      | succ j =>
        rw [fl_get_s]
        rcases ih (i + 1) j with q | q
        · exact Or.inl q
        · refine Or.inr ?_
          rw [fl_ld_cons (by omega), if_neg (by rw [fv_cat.1 h]; decide), ← q]
          congr 1
          omega
    | false =>
      rw [fl_w_f h]
      cases j with
      | zero => exact Or.inr hself
      | succ j =>
        cases j with
        | zero => exact Or.inl rfl
        | succ j =>
          rw [fl_get_s, fl_get_s]
          rcases ih (i + 2) j with q | q
          · exact Or.inl q
          · refine Or.inr ?_
            rw [fl_ld_cons (by omega), if_pos (fv_cat.2 h), ← q]
            congr 1
            omega
/-- what stands ready behind the arguments: nothing is said of it -/
def fFil (l : fL) : Prop := ∀ j, fl_get j l = fF
theorem fFil_nil : fFil [] := fun j => fl_get_nil j
theorem fFil_cons {l : fL} (h : fFil l) : fFil (fF :: l) := fun j => by
  cases j with
  | zero => rfl
  | succ j => exact h j
/-- the handlers at a place, by their exceptions -/
def fHd (μ : Nat) (lp : List Nat) (D pc : Nat) (hs : List (Nat × Nat × fX)) : Prop := ∀ a ∈ hs, ∃ q pcT e', (mj_P μ).2.2.2.2.find? (fun x => decide (x.1 ≤ pc ∧ pc < x.2.1 ∧ x.2.2.2 = a.1)) = some q ∧ mj_at (mj_P μ).2.2.2.1 q.2.2.1 = some e' ∧ ((∃ i : Fin 4, e'.1 = .astore_n i ∧ (i : Nat) = a.2.1 ∧ pcT = q.2.2.1 + 1) ∨ (e'.1 = .astore a.2.1 ∧ pcT = q.2.2.1 + 2)) ∧ fSB μ lp D pcT a.2.2
theorem ff_find_1 {x : Nat} {k : Nat → fX → Bool} : ∀ {hs : List (Nat × Nat × fX)}, ff_find hs x k = true → ∃ i tg, (x, i, tg) ∈ hs ∧ k i tg = true
  | [], h => by cases h
  | (y, i, tg) :: hs, h => by
    rcases fB_t (show fB (Nat.beq y x) (k i tg) (ff_find hs x k) = true from h) with ⟨h1, h2⟩ | ⟨h1, h2⟩
    · have h1 := Nat.eq_of_beq_eq_true h1
      subst h1
      exact ⟨i, tg, List.mem_cons_self .., h2⟩
    · obtain ⟨i, tg, h3, h4⟩ := ff_find_1 h2
      exact ⟨i, tg, List.mem_cons_of_mem _ h3, h4⟩
theorem mj_back_v {thr : Bool} {C : mjC} {hh : List (Nat × Nat × Nat × Nat)} {k : mjF → Option mjR} {f : mjF} {rest : List Value} {v : Option Value} {r : mjH × Nat × Nat} : mj_back thr C hh k f rest (some (.inl v, r)) = k (f.1 + 3, f.2.1, v.toList ++ rest, mj_add f r) := rfl
theorem mj_back_x {C : mjC} {hh : List (Nat × Nat × Nat × Nat)} {k : mjF → Option mjR} {f : mjF} {rest : List Value} {E : Nat} {r : mjH × Nat × Nat} (hh0 : hh.isEmpty = true) : mj_back true C hh k f rest (some (.inr E, r)) = some (.inr E, mj_add f r) := by
  unfold mj_back
  dsimp only
  rw [if_neg (by decide), if_pos hh0]
theorem mj_back_h {C : mjC} {hh : List (Nat × Nat × Nat × Nat)} {k : mjF → Option mjR} {f : mjF} {rest : List Value} {E : Nat} {r : mjH × Nat × Nat} {q : Nat × Nat × Nat × Nat} (hq : hh.find? (fun x => decide (x.1 ≤ f.1 ∧ f.1 < x.2.1 ∧ x.2.2.2 = E)) = some q) : mj_back true C hh k f rest (some (.inr E, r)) = mj_hand C k f q.2.2.1 (mj_add f r) := by
  have h0 : ¬ hh.isEmpty = true := by
    intro h
    rw [List.isEmpty_iff.mp h] at hq
    cases hq
  unfold mj_back
  dsimp only
  rw [if_neg (by decide), if_neg h0, hq]
theorem mj_hand_n {C : mjC} {k : mjF → Option mjR} {f : mjF} {t : Nat} {r : mjH × Nat × Nat} {e : mjE} {i : Fin 4} (h : mj_at C t = some e) (he : e.1 = .astore_n i) : mj_hand C k f t r = k (t + 1, mj_rm1 i f.2.1, [], r) := by
  unfold mj_hand
  rw [h]
  dsimp only
  rw [he]
theorem mj_hand_w {C : mjC} {k : mjF → Option mjR} {f : mjF} {t : Nat} {r : mjH × Nat × Nat} {e : mjE} {i : Nat} (h : mj_at C t = some e) (he : e.1 = .astore i) : mj_hand C k f t r = k (t + 2, mj_rm1 i f.2.1, [], r) := by
  unfold mj_hand
  rw [h]
  dsimp only
  rw [he]
theorem mj_inv_eq {P : Nat → mjM} {e : mjE} {μ : Nat} {k : mjF → Option mjR} {call : Nat → mjF → Option mjR} {f : mjF} {vs t : List Value} (h1 : (P e.2.2.1).2.1 = vs.length) (h2 : mj_cat t ≤ 8) (h3 : mj_cat vs.reverse ≤ mj_mx.getD e.2.2.1 0) :
    mj_inv P e μ k call f (vs ++ t) = mj_back (decide (e.2.1 ≤ 1) && (P e.2.2.1).2.2.2.2.isEmpty) (P μ).2.2.2.1 (P μ).2.2.2.2 k f t (call e.2.2.1 (0, lv_args 0 vs.reverse, [], f.2.2.2.1, 0, 0)) := by
  unfold mj_inv
  rw [h1, List.drop_left, List.take_left, if_neg]
  intro q
  rw [List.length_append] at q
  rcases q with q | q | q <;> omega
theorem mj_cat_rev (vs : List Value) : mj_cat vs.reverse = mj_cat vs := by
  unfold mj_cat
  rw [List.map_reverse, List.sum_reverse]
/-- a call's frame, from what the callee does -/
theorem fs_inv {X : Nat → mjF → Option mjR} {ρ : Nat → Int32} {b d μ D' : Nat} {K : fK} {D pc n : Nat} {jmp : fJ} {m : fM} {ds : List Bool} {fill : fL} {e : mjE} {iv : fI} {lv st : fL} {g : fG} {al : List (Nat × Value)} {Hp : mjH} {c s : Nat} {back : fE → fL → fL → fG → fR → Bool}
    (hX : fRun ρ b μ d X) (hD : D ≤ d) (hD' : D' + 1 ≤ D) (he : fAt μ pc e) (hn : fNs e.1) (hm : fSM e.2.2.1 D' m) (hfl : fFil fill)
    (h1 : (mj_P e.2.2.1).2.1 = ds.length) (h3 : fl_ds ds ≤ mj_mx.getD e.2.2.1 0)
    (hgo : ∀ k call, mj_go mj_P e μ k call (pc, al, st.map (fv ρ b), Hp, c, s) = mj_inv mj_P e μ k call (pc, al, st.map (fv ρ b), Hp, c, s) (st.map (fv ρ b)))
    (hiv : fIv ρ iv) (hh : fHR g Hp)
    (h : fl_args ds st fill (fun t as => fB (fl_len4 t) (m n (fun iv r g => back (iv, (n, (jmp, K))) lv t g r) iv as g) false) = true)
    (hb : ∀ iv' t g' r H' c1 s1, fIv ρ iv' → fHR g' H' → back (iv', (n, (jmp, K))) lv t g' r = true → c1 + g.2.2.1 = g'.2.2.1 → s1 + g.2.2.2 = g'.2.2.2 → ∃ n0 R iv2 r2 g2, (∀ m, n0 ≤ m → mj_back (decide (e.2.1 ≤ 1) && (mj_P e.2.2.1).2.2.2.2.isEmpty) (mj_P μ).2.2.2.1 (mj_P μ).2.2.2.2 (X m) (pc, al, st.map (fv ρ b), Hp, c, s) (t.map (fv ρ b)) (some (fr ρ b r, H', c1, s1)) = some R) ∧ K iv2 r2 g2 = true ∧ fIv ρ iv2 ∧ R.1 = fr ρ b r2 ∧ fHR g2 R.2.1 ∧ R.2.2.1 + g.2.2.1 = c + g2.2.2.1 ∧ R.2.2.2 + g.2.2.2 = s + g2.2.2.2) :
    fGd X ρ b K (pc, al, st.map (fv ρ b), Hp, c, s) g := by
  obtain ⟨vs, t, e1, e2, e3, e4⟩ := fl_args_1 ds h
  obtain ⟨q4, e3⟩ := fB_1 e3
  obtain ⟨d, rfl⟩ : ∃ q, d = q + 1 := ⟨d - 1, by omega⟩
  have hlr : fLR ρ b (fl_lay fill vs.reverse) (lv_args 0 (vs.reverse.map (fv ρ b))) := by
    intro j
    rcases fl_lay_at (ρ := ρ) (b := b) hfl vs.reverse 0 j with q | q
    · exact Or.inl q
    · exact Or.inr (Or.inr (by rw [Nat.zero_add] at q; exact q))
  obtain ⟨n1, R, iv1, r, g1, w1, w2, w3, w4, w5, w6, w7⟩ := hm ρ b d (by omega) n _ iv _ g _ Hp hiv hlr hh e3
  obtain ⟨v, H', c1, s1⟩ := R
  have w4 : v = fr ρ b r := w4
  have w5 : fHR g1 H' := w5
  have w6 : c1 + g.2.2.1 = 0 + g1.2.2.1 := w6
  have w7 : s1 + g.2.2.2 = 0 + g1.2.2.2 := w7
  obtain ⟨n0, R, iv2, r2, g2, z1, z2, z3, z4, z5, z6, z7⟩ := hb iv1 t g1 r H' c1 s1 w3 w5 w2 (by omega) (by omega)
  refine ⟨max n0 n1 + 1, R, iv2, r2, g2, fun m hm' => ?_, z2, z3, z4, z5, z6, z7⟩
  obtain ⟨m, rfl⟩ : ∃ q, m = q + 1 := ⟨m - 1, by omega⟩
  refine hX.2.1 m _ e R he hn ((hgo _ _).trans ?_)
  have e5 : st.map (fv ρ b) = vs.map (fv ρ b) ++ t.map (fv ρ b) := by rw [e1, List.map_append]
  have key := mj_inv_eq (P := mj_P) (e := e) (μ := μ) (k := X m) (call := fun μ' f' => mj_run mj_P m (d + 1) μ' f') (f := (pc, al, st.map (fv ρ b), Hp, c, s)) (vs := vs.map (fv ρ b)) (t := t.map (fv ρ b)) (by rw [h1, List.length_map, e2]) (fl_len4_1 q4) (by rw [mj_cat_rev, e4]; exact h3)
  rw [← e5] at key
  refine key.trans ?_
  have hcall : mj_run mj_P m (d + 1) e.2.2.1 (0, lv_args 0 (vs.map (fv ρ b)).reverse, [], Hp, 0, 0) = some (fr ρ b r, H', c1, s1) := by
    rw [← List.map_reverse, ← w4]
    exact w1 m (by omega)
  have z := z1 m (by omega)
  show mj_back _ _ _ _ _ _ (mj_run mj_P m (d + 1) e.2.2.1 (0, lv_args 0 (vs.map (fv ρ b)).reverse, [], Hp, 0, 0)) = some R
  rw [hcall]
  exact z
