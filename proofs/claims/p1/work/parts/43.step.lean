/-! DIGITS -/
theorem fmix_hi (j y p : Nat) (hp : 64 ≤ p) : (fmix j y).testBit p = false := by
  have h : fmix j y < 2 ^ 32 := Nat.mod_lt _ (by decide)
  have h2 : 2 ^ 32 ≤ 2 ^ p := Nat.pow_le_pow_right (by decide) (by omega)
  exact Nat.testBit_lt_two_pow (Nat.lt_of_lt_of_le h h2)
theorem fd_tb (D j p : Nat) : (fdig D j).testBit p = (decide (p < 32) && D.testBit (64 + 32 * j + p)) := by
  show ((D >>> (64 + 32 * j)) % 2 ^ 32).testBit p = _
  rw [Nat.testBit_mod_two_pow, Nat.testBit_shiftRight]
theorem fd_lt (D j : Nat) : fdig D j < 4294967296 := Nat.mod_lt _ (by decide)
theorem fd_put (D j v : Nat) : fput D j v = (D ^^^ ((fdig D j ^^^ v) <<< (64 + 32 * j))) ^^^ fmix j (fdig D j ^^^ v) := rfl
theorem fd_hi {v p : Nat} (hv : v < 4294967296) (hp : 32 ≤ p) : v.testBit p = false := by
  have h : 2 ^ 32 ≤ 2 ^ p := Nat.pow_le_pow_right (by decide) hp
  exact Nat.testBit_lt_two_pow (Nat.lt_of_lt_of_le (show v < 2 ^ 32 from hv) h)
theorem fd_same {D j v : Nat} (hv : v < 4294967296) : fdig (fput D j v) j = v := by
  refine Nat.eq_of_testBit_eq fun p => ?_
  rw [fd_tb, fd_put, Nat.testBit_xor, fmix_hi _ _ _ (by omega), Bool.xor_false]
  by_cases hp : p < 32
  · rw [decide_eq_true hp, Bool.true_and, Nat.testBit_xor, Nat.testBit_shiftLeft, decide_eq_true (by omega), Bool.true_and, Nat.add_sub_cancel_left, Nat.testBit_xor, fd_tb, decide_eq_true hp, Bool.true_and]
    cases D.testBit (64 + 32 * j + p) <;> cases v.testBit p <;> rfl
  · rw [decide_eq_false hp, Bool.false_and, fd_hi hv (by omega)]
theorem fd_else {D i j v : Nat} (hv : v < 4294967296) (hij : i ≠ j) : fdig (fput D j v) i = fdig D i := by
  refine Nat.eq_of_testBit_eq fun p => ?_
  rw [fd_tb, fd_tb, fd_put, Nat.testBit_xor, fmix_hi _ _ _ (by omega), Bool.xor_false]
  by_cases hp : p < 32
  · rw [decide_eq_true hp, Bool.true_and, Bool.true_and, Nat.testBit_xor, Nat.testBit_shiftLeft]
    by_cases hq : 64 + 32 * j ≤ 64 + 32 * i + p
    · have h2 : 32 ≤ 64 + 32 * i + p - (64 + 32 * j) := by omega
      rw [Nat.testBit_xor, fd_hi (fd_lt D j) h2, fd_hi hv h2]
      simp
    · rw [decide_eq_false hq]
      simp
  · rw [decide_eq_false hp, Bool.false_and, Bool.false_and]
theorem fdl_tb (D j p : Nat) : (fdigl D j).testBit p = (decide (p < 64) && D.testBit (64 + 64 * j + p)) := by
  show ((D >>> (64 + 64 * j)) % 2 ^ 64).testBit p = _
  rw [Nat.testBit_mod_two_pow, Nat.testBit_shiftRight]
theorem fdl_lt (D j : Nat) : fdigl D j < 18446744073709551616 := Nat.mod_lt _ (by decide)
theorem fdl_put (D j v : Nat) : fputl D j v = (D ^^^ ((fdigl D j ^^^ v) <<< (64 + 64 * j))) ^^^ fmix j (fdigl D j ^^^ v) := rfl
theorem fdl_hi {v p : Nat} (hv : v < 18446744073709551616) (hp : 64 ≤ p) : v.testBit p = false := by
  have h : 2 ^ 64 ≤ 2 ^ p := Nat.pow_le_pow_right (by decide) hp
  exact Nat.testBit_lt_two_pow (Nat.lt_of_lt_of_le (show v < 2 ^ 64 from hv) h)
theorem fdl_same {D j v : Nat} (hv : v < 18446744073709551616) : fdigl (fputl D j v) j = v := by
  refine Nat.eq_of_testBit_eq fun p => ?_
  rw [fdl_tb, fdl_put, Nat.testBit_xor, fmix_hi _ _ _ (by omega), Bool.xor_false]
  by_cases hp : p < 64
  · rw [decide_eq_true hp, Bool.true_and, Nat.testBit_xor, Nat.testBit_shiftLeft, decide_eq_true (by omega), Bool.true_and, Nat.add_sub_cancel_left, Nat.testBit_xor, fdl_tb, decide_eq_true hp, Bool.true_and]
    cases D.testBit (64 + 64 * j + p) <;> cases v.testBit p <;> rfl
  · rw [decide_eq_false hp, Bool.false_and, fdl_hi hv (by omega)]
theorem fdl_else {D i j v : Nat} (hv : v < 18446744073709551616) (hij : i ≠ j) : fdigl (fputl D j v) i = fdigl D i := by
  refine Nat.eq_of_testBit_eq fun p => ?_
  rw [fdl_tb, fdl_tb, fdl_put, Nat.testBit_xor, fmix_hi _ _ _ (by omega), Bool.xor_false]
  by_cases hp : p < 64
  · rw [decide_eq_true hp, Bool.true_and, Bool.true_and, Nat.testBit_xor, Nat.testBit_shiftLeft]
    by_cases hq : 64 + 64 * j ≤ 64 + 64 * i + p
    · have h2 : 64 ≤ 64 + 64 * i + p - (64 + 64 * j) := by omega
      rw [Nat.testBit_xor, fdl_hi (fdl_lt D j) h2, fdl_hi hv h2]
      simp
    · rw [decide_eq_false hq]
      simp
  · rw [decide_eq_false hp, Bool.false_and, Bool.false_and]
/-- what arraycopy makes of the digits -/
def fd_cpy (D D' m : Nat) : Nat := Nat.lor (Nat.mod D (Nat.pow 2 (Nat.add 64 (Nat.mul 32 m)))) (Nat.shiftLeft (Nat.shiftRight D' (Nat.add 64 (Nat.mul 32 m))) (Nat.add 64 (Nat.mul 32 m)))
theorem fd_cpy_at (D D' m i : Nat) : fdig (fd_cpy D D' m) i = if i < m then fdig D i else fdig D' i := by
  refine Nat.eq_of_testBit_eq fun p => ?_
  have e : fd_cpy D D' m = (D % 2 ^ (64 + 32 * m)) ||| ((D' >>> (64 + 32 * m)) <<< (64 + 32 * m)) := rfl
  rw [fd_tb, e, Nat.testBit_or, Nat.testBit_mod_two_pow, Nat.testBit_shiftLeft, Nat.testBit_shiftRight]
  by_cases hp : p < 32
  · by_cases hi : i < m
    · rw [if_pos hi, fd_tb, decide_eq_true (show 64 + 32 * i + p < 64 + 32 * m by omega), decide_eq_false (show ¬ 64 + 32 * i + p ≥ 64 + 32 * m by omega)]
      simp
    · rw [if_neg hi, fd_tb, decide_eq_false (show ¬ 64 + 32 * i + p < 64 + 32 * m by omega), decide_eq_true (show 64 + 32 * i + p ≥ 64 + 32 * m by omega)]
      have e2 : 64 + 32 * m + (64 + 32 * i + p - (64 + 32 * m)) = 64 + 32 * i + p := by omega
      rw [e2]
      simp
  · by_cases hi : i < m
    · rw [if_pos hi, fd_tb, decide_eq_false hp]
      simp
    · rw [if_neg hi, fd_tb, decide_eq_false hp]
      simp
/-! CELLS -/
theorem fdec_len (k n D : Nat) : (fdec k n D).length = n := by unfold fdec; rw [List.length_map, List.length_range]
theorem fdec_at {k n D j : Nat} (h : j < n) : (fdec k n D)[j]? = some (fel k D j) := by
  unfold fdec
  rw [List.getElem?_map, List.getElem?_range h]
  rfl
theorem fdec_set {k n D D' j : Nat} {v : Value} (hv : fel k D' j = v) (he : ∀ i, i ≠ j → fel k D' i = fel k D i) : (fdec k n D).set j v = fdec k n D' := by
  refine List.ext_getElem? fun i => ?_
  by_cases hi : i < n
  · rw [fdec_at hi]
    by_cases hij : i = j
    · subst hij
      rw [List.getElem?_set_self (by rw [fdec_len]; exact hi), hv]
    · rw [List.getElem?_set_ne (by omega), fdec_at hi, he i hij]
  · rw [List.getElem?_eq_none (by rw [List.length_set, fdec_len]; omega), List.getElem?_eq_none (by rw [fdec_len]; omega)]
theorem fHR_at {g : fG} {H : mjH} (h : fHR g H) {r a n D : Nat} (hr : r < g.2.1) (hc : ft_get fD g.1 r = (a, n, D)) (ha : a < 64) : H[r]? = some (a, fdec a n D) ∧ n ≤ 65536 ∧ (a < 8 → n = (mj_df a).length) := by
  obtain ⟨c, h1, h2, h3⟩ := h.2.2 r hr
  rw [hc] at h2 h3
  rw [if_pos (Or.inl ha)] at h3
  obtain ⟨h3, h4⟩ := h3
  subst h3
  exact ⟨h1, h2, h4⟩
theorem fset_1 {g : fG} {r a n D : Nat} {k : fG → Bool} (h : fset g r a n D k = true) (hr : r < 256) : ∃ T, k (T, g.2) = true ∧ ft_get fD T r = (a, n, D) ∧ ∀ j, j < 256 → j ≠ r → ft_get fD T j = ft_get fD g.1 j := by
  have h : ft_set fD g.1 r (a, n, D) (fun T => k (T, g.2)) = true := h
  exact ft_set_D hr h
theorem fHR_set {g : fG} {H : mjH} (h : fHR g H) {r : Nat} (hr : r < g.2.1) {c : fC} {o : mjO} (hc : fCR c o) {T : fT fC fD} (h1 : ft_get fD T r = c) (h2 : ∀ j, j < 256 → j ≠ r → ft_get fD T j = ft_get fD g.1 j) : fHR (T, g.2) (H.set r o) := by
  obtain ⟨e1, e2, e3⟩ := h
  refine ⟨by rw [List.length_set]; exact e1, e2, fun j hj => ?_⟩
  have hj : j < g.2.1 := hj
  by_cases hjr : j = r
  · subst hjr
    refine ⟨o, List.getElem?_set_self (by omega), ?_⟩
    show fCR (ft_get fD T j) o
    rw [h1]
    exact hc
  · obtain ⟨c', q1, q2⟩ := e3 j hj
    refine ⟨c', by rw [List.getElem?_set_ne (by omega)]; exact q1, ?_⟩
    show fCR (ft_get fD T j) c'
    rw [h2 j (by omega) hjr]
    exact q2
theorem fnew_1 {g : fG} {a n m : Nat} {k : Nat → fG → Bool} (h : fnew g a n m k = true) : g.2.1 < 256 ∧ ∃ T, k (g.2.1 + 1) (T, g.2.1 + 1, g.2.2.1 + 1, g.2.2.2 + m) = true ∧ ft_get fD T g.2.1 = (a, n, 0) ∧ ∀ j, j < 256 → j ≠ g.2.1 → ft_get fD T j = ft_get fD g.1 j := by
  obtain ⟨T, hl, c, s⟩ := g
  obtain ⟨h1, h2⟩ := fB_1 (show fB (Nat.ble hl 255) (ft_set fD T hl (a, n, 0) (fun T => k (hl + 1) (T, hl + 1, c + 1, s + m))) false = true from h)
  have h1 : hl < 256 := Nat.lt_succ_of_le (Nat.le_of_ble_eq_true h1)
  obtain ⟨T', q1, q2, q3⟩ := ft_set_D h1 h2
  exact ⟨h1, T', q1, q2, q3⟩
theorem fHR_new {g : fG} {H : mjH} (h : fHR g H) {c : fC} {o : mjO} (hc : fCR c o) {T : fT fC fD} {x : Nat × Nat} (hl : g.2.1 < 256) (h1 : ft_get fD T g.2.1 = c) (h2 : ∀ j, j < 256 → j ≠ g.2.1 → ft_get fD T j = ft_get fD g.1 j) : fHR (T, g.2.1 + 1, x) (H ++ [o]) := by
  obtain ⟨e1, e2, e3⟩ := h
  refine ⟨by rw [List.length_append, e1]; rfl, hl, fun j hj => ?_⟩
  have hj : j < g.2.1 + 1 := hj
  by_cases hjr : j = g.2.1
  · subst hjr
    refine ⟨o, by rw [List.getElem?_append_right (by omega), e1, Nat.sub_self]; rfl, ?_⟩
    show fCR (ft_get fD T g.2.1) o
    rw [h1]
    exact hc
  · obtain ⟨c', q1, q2⟩ := e3 j (by omega)
    refine ⟨c', by rw [List.getElem?_append_left (by omega)]; exact q1, ?_⟩
    show fCR (ft_get fD T j) c'
    rw [h2 j (by omega) hjr]
    exact q2
/-! RUNS -/
/-- from f (the fast machine at g) the frame comes to an end that K takes -/
def fGd (X : Nat → mjF → Option mjR) (ρ : Nat → Int32) (b : Nat) (K : fK) (f : mjF) (g : fG) : Prop := ∃ (n : Nat) (R : mjR) (iv : fI) (r : fR) (g' : fG), (∀ m, n ≤ m → X m f = some R) ∧ K iv r g' = true ∧ fIv ρ iv ∧ R.1 = fr ρ b r ∧ fHR g' R.2.1 ∧ R.2.2.1 + g.2.2.1 = f.2.2.2.2.1 + g'.2.2.1 ∧ R.2.2.2 + g.2.2.2 = f.2.2.2.2.2 + g'.2.2.2
def fS (X : Nat → mjF → Option mjR) (ρ : Nat → Int32) (b : Nat) (K : fK) (pc : Nat) (F : fI → fL → fL → fG → Bool) : Prop := ∀ iv lv st g al H c s, fIv ρ iv → fLR ρ b lv al → fHR g H → F iv lv st g = true → fGd X ρ b K (pc, al, st.map (fv ρ b), H, c, s) g
/-- the law's own steps, with the script: its reference is retAddr b, its ints are ρ 0 .. ρ 4, its length is ρ 7 -/
def fsc_op (ρ : Nat → Int32) (b : Nat) (e : mjE) (f : mjF) : Option mjF := match e.1, f.2.2.1 with
  | .aload_n k, st => match mj_ld f.2.1 k with
    | some (.retAddr x) => if x = b then mj_i f 1 (.retAddr x) st else none
    | _ => none
  | .arraylength, .retAddr x :: st => if x = b then mj_i f 1 (.int (ρ 7)) st else none
  | .iaload, .int i :: .retAddr x :: st => if x = b ∧ ρ 7 = 5 ∧ i.toNatClampNeg ≤ 4 ∧ ¬ i < 0 then mj_i f 1 (.int (ρ i.toNatClampNeg)) st else none
  | _, _ => none
/-- X runs frames of the method μ, calls being at most d deep -/
def fRun (ρ : Nat → Int32) (b μ d : Nat) (X : Nat → mjF → Option mjR) : Prop := (∀ m f e f' R, mj_at (mj_P μ).2.2.2.1 f.1 = some e → mj_op e f = some f' → X m f' = some R → X (m + 1) f = some R) ∧
  (∀ m f e R, mj_at (mj_P μ).2.2.2.1 f.1 = some e → ((∀ k, e.1 ≠ .aload_n k) ∧ e.1 ≠ .arraylength ∧ e.1 ≠ .iaload) → mj_go mj_P e μ (X m) (fun μ' f' => mj_run mj_P m d μ' f') f = some R → X (m + 1) f = some R) ∧
  (μ = 329 → ∀ m f e f' R, mj_at (mj_P μ).2.2.2.1 f.1 = some e → fsc_op ρ b e f = some f' → X m f' = some R → X (m + 1) f = some R)
def fAt (μ pc : Nat) (e : mjE) : Prop := mj_at (mj_P μ).2.2.2.1 pc = some e
/-- a block of the method μ from pc on does what the small machine does; lp: its loops' heads -/
def fSB (μ : Nat) (lp : List Nat) (D pc : Nat) (x : fX) : Prop := ∀ (ρ : Nat → Int32) (b d : Nat) (X : Nat → mjF → Option mjR) (K : fK) (n : Nat) (jmp : fJ), D ≤ d → fRun ρ b μ d X → (∀ i q, lp[i]? = some q → fS X ρ b K q (jmp i)) → fS X ρ b K pc (fun iv lv st g => x (iv, (n, (jmp, K))) lv st g)
/-- a method, called d deep -/
def fSM (μ D : Nat) (m : fM) : Prop := ∀ (ρ : Nat → Int32) (b d : Nat), D ≤ d → ∀ n K iv lv g al H, fIv ρ iv → fLR ρ b lv al → fHR g H → m n K iv lv g = true → fGd (fun m f => mj_run mj_P m (d + 1) μ f) ρ b K (0, al, [], H, 0, 0) g
section FST
variable {X : Nat → mjF → Option mjR} {ρ : Nat → Int32} {b d μ : Nat} {K : fK}
theorem fs_op (hX : fRun ρ b μ d X) {e : mjE} {f f' : mjF} {g g' : fG} (he : fAt μ f.1 e) (ho : mj_op e f = some f') (hc : f'.2.2.2.2.1 + g.2.2.1 = f.2.2.2.2.1 + g'.2.2.1) (hs : f'.2.2.2.2.2 + g.2.2.2 = f.2.2.2.2.2 + g'.2.2.2) (h : fGd X ρ b K f' g') : fGd X ρ b K f g := by
  obtain ⟨n, R, iv, r, g2, h1, h2, h3, h4, h5, h6, h7⟩ := h
  refine ⟨n + 1, R, iv, r, g2, fun m hm => ?_, h2, h3, h4, h5, by omega, by omega⟩
  obtain ⟨m, rfl⟩ : ∃ q, m = q + 1 := ⟨m - 1, by omega⟩
  exact hX.1 m f e f' R he ho (h1 m (by omega))
/-- a step by which the heap's counts stay -/
theorem fs_op0 (hX : fRun ρ b μ d X) {e : mjE} {f f' : mjF} {g g' : fG} (he : fAt μ f.1 e) (ho : mj_op e f = some f') (hc : f'.2.2.2.2 = f.2.2.2.2) (hg : g'.2.2 = g.2.2) (h : fGd X ρ b K f' g') : fGd X ρ b K f g :=
  fs_op hX he ho (by rw [hc, hg]) (by rw [hc, hg]) h
end FST
