/-! A MACHINE OF LOCALS AND STACK ALONE, whose values may be any: its runs are read off by rfl -/
abbrev mvS : Type := Nat × List (Nat × Value) × List Value
def mv_c2 (o : Option Value) : Bool := match o with
  | some w => w.category == 2
  | none => false
def mv_s1 (k : Nat) (v : Value) (L : List (Nat × Value)) : List (Nat × Value) := (k, v) :: L.filter (fun q => !(q.1 == k) && !(q.1 + 1 == k && mv_c2 (mj_ld L q.1)))
def mv_s2 (k : Nat) (v : Value) (L : List (Nat × Value)) : List (Nat × Value) := (k, v) :: L.filter (fun q => !(q.1 == k) && (!(q.1 == k + 1) && !(q.1 + 1 == k && mv_c2 (mj_ld L q.1))))
def mv_br (pc : Nat) (L : List (Nat × Value)) (off : Int) (st : List Value) (c : Prop) [Decidable c] : Option mvS := if c then some (mj_tg pc off, L, st) else some (pc + 3, L, st)
def mv_i (pc : Nat) (L : List (Nat × Value)) (n : Nat) (v : Value) (st : List Value) : Option mvS := some (pc + n, L, v :: st)
def mv_op (e : mjE) (pc : Nat) (L : List (Nat × Value)) (S : List Value) : Option mvS := match e.1, S with
  | .iconst k, st => mv_i pc L 1 (.int (Int32.ofInt k)) st
  | .bipush k, st => mv_i pc L 2 (.int (Int8.ofInt k).toInt32) st
  | .sipush k, st => mv_i pc L 3 (.int (Int16.ofInt k).toInt32) st
  | .lconst k, st => mv_i pc L 1 (.long (Int64.ofNat (k : Nat))) st
  | .ldc _, st => mv_i pc L 2 (.int (Int32.ofNat e.2.1)) st
  | .ldc2_w _, st => mv_i pc L 3 (.long (Int64.ofNat e.2.1)) st
  | .iload_n k, st => match mj_ld L k with
    | some (.int x) => mv_i pc L 1 (.int x) st
    | _ => none
  | .iload k, st => match mj_ld L k with
    | some (.int x) => mv_i pc L 2 (.int x) st
    | _ => none
  | .lload_n k, st => match mj_ld L k with
    | some (.long x) => mv_i pc L 1 (.long x) st
    | _ => none
  | .lload k, st => match mj_ld L k with
    | some (.long x) => mv_i pc L 2 (.long x) st
    | _ => none
  | .aload_n k, st => match mj_ld L k with
    | some (.ref x) => mv_i pc L 1 (.ref x) st
    | _ => none
  | .aload k, st => match mj_ld L k with
    | some (.ref x) => mv_i pc L 2 (.ref x) st
    | _ => none
  | .istore_n k, .int x :: st => some (pc + 1, mv_s1 k (.int x) L, st)
  | .istore k, .int x :: st => some (pc + 2, mv_s1 k (.int x) L, st)
  | .lstore_n k, .long x :: st => some (pc + 1, mv_s2 k (.long x) L, st)
  | .lstore k, .long x :: st => some (pc + 2, mv_s2 k (.long x) L, st)
  | .astore_n k, .ref x :: st => some (pc + 1, mv_s1 k (.ref x) L, st)
  | .astore k, .ref x :: st => some (pc + 2, mv_s1 k (.ref x) L, st)
  | .iinc k v, st => match mj_ld L k with
    | some (.int x) => some (pc + 3, mv_s1 k (.int (x + Int32.ofInt v)) L, st)
    | _ => none
  | .iadd, .int y :: .int x :: st => mv_i pc L 1 (.int (x + y)) st
  | .isub, .int y :: .int x :: st => mv_i pc L 1 (.int (x - y)) st
  | .imul, .int y :: .int x :: st => mv_i pc L 1 (.int (x * y)) st
  | .iand, .int y :: .int x :: st => mv_i pc L 1 (.int (x &&& y)) st
  | .ior, .int y :: .int x :: st => mv_i pc L 1 (.int (x ||| y)) st
  | .ixor, .int y :: .int x :: st => mv_i pc L 1 (.int (x ^^^ y)) st
  | .idiv, .int y :: .int x :: st => if y = 0 then none else mv_i pc L 1 (.int (x / y)) st
  | .irem, .int y :: .int x :: st => if y = 0 then none else mv_i pc L 1 (.int (x - x / y * y)) st
  | .ishl, .int y :: .int x :: st => mv_i pc L 1 (.int (x <<< (y &&& 31))) st
  | .ishr, .int y :: .int x :: st => mv_i pc L 1 (.int (x >>> (y &&& 31))) st
  | .iushr, .int y :: .int x :: st => mv_i pc L 1 (.int (x.toUInt32 >>> (y.toUInt32 &&& Int32.toUInt32 31)).toInt32) st
  | .ladd, .long y :: .long x :: st => mv_i pc L 1 (.long (x + y)) st
  | .lsub, .long y :: .long x :: st => mv_i pc L 1 (.long (x - y)) st
  | .lmul, .long y :: .long x :: st => mv_i pc L 1 (.long (x * y)) st
  | .lcmp, .long y :: .long x :: st => mv_i pc L 1 (.int (lg_cmp x y)) st
  | .i2l, .int x :: st => mv_i pc L 1 (.long x.toInt64) st
  | .l2i, .long x :: st => mv_i pc L 1 (.int x.toInt32) st
  | .goto off, st => some (mj_tg pc off, L, st)
  | .ifCond .eq off, .int x :: st => mv_br pc L off st (x = 0)
  | .ifCond .ne off, .int x :: st => mv_br pc L off st (¬ x = 0)
  | .ifCond .lt off, .int x :: st => mv_br pc L off st (x < 0)
  | .ifCond .ge off, .int x :: st => mv_br pc L off st (0 ≤ x)
  | .ifCond .gt off, .int x :: st => mv_br pc L off st (0 < x)
  | .ifCond .le off, .int x :: st => mv_br pc L off st (x ≤ 0)
  | .if_icmp .eq off, .int y :: .int x :: st => mv_br pc L off st (x = y)
  | .if_icmp .ne off, .int y :: .int x :: st => mv_br pc L off st (¬ x = y)
  | .if_icmp .lt off, .int y :: .int x :: st => mv_br pc L off st (x < y)
  | .if_icmp .ge off, .int y :: .int x :: st => mv_br pc L off st (y ≤ x)
  | .if_icmp .gt off, .int y :: .int x :: st => mv_br pc L off st (y < x)
  | .if_icmp .le off, .int y :: .int x :: st => mv_br pc L off st (x ≤ y)
  | _, _ => none
/-- what the list says of the locals is so -/
def mvL (L al : List (Nat × Value)) : Prop := ∀ i v, mj_ld L i = some v → mj_ld al i = some v
theorem mv_fil {p : Nat × Value → Bool} (hp : ∀ i v w, p (i, v) = p (i, w)) {L : List (Nat × Value)} {j : Nat} {v : Value} (h : mj_ld (L.filter p) j = some v) : mj_ld L j = some v ∧ p (j, v) = true := by
  induction L with
  | nil => cases h
  | cons q t ih =>
    obtain ⟨i, w⟩ := q
    by_cases hij : i = j
    · subst hij
      have e : mj_ld ((i, w) :: t) i = some w := by
        unfold mj_ld
        rw [List.find?_cons_of_pos (by simp)]
      by_cases hpq : p (i, w) = true
      · rw [List.filter_cons_of_pos hpq] at h
        have e2 : mj_ld ((i, w) :: t.filter p) i = some w := by
          unfold mj_ld
          rw [List.find?_cons_of_pos (by simp)]
        rw [e2] at h
        cases h
        exact ⟨e, hpq⟩
      · rw [List.filter_cons_of_neg hpq] at h
        exact absurd ((hp i w v).trans (ih h).2) hpq
    · have e : mj_ld ((i, w) :: t) j = mj_ld t j := fl_ld_cons hij
      rw [e]
      by_cases hpq : p (i, w) = true
      · rw [List.filter_cons_of_pos hpq, fl_ld_cons hij] at h
        exact ih h
      · rw [List.filter_cons_of_neg hpq] at h
        exact ih h
theorem mvL_nil {al : List (Nat × Value)} : mvL [] al := fun i v h => by cases h
theorem mvL_cons {L al : List (Nat × Value)} {i : Nat} {v : Value} (h : mj_ld al i = some v) (hl : mvL L al) : mvL ((i, v) :: L) al := by
  intro j w hj
  by_cases hij : i = j
  · subst hij
    have e : mj_ld ((i, v) :: L) i = some v := by
      unfold mj_ld
      rw [List.find?_cons_of_pos (by simp)]
    rw [e] at hj
    cases hj
    exact h
  · rw [fl_ld_cons hij] at hj
    exact hl j w hj
theorem mvL_s1 {L al : List (Nat × Value)} (h : mvL L al) (k : Nat) (v : Value) : mvL (mv_s1 k v L) (mj_s1 k v al) := by
  intro j w hj
  by_cases hjk : j = k
  · subst hjk
    have e : mj_ld (mv_s1 j v L) j = some v := by
      unfold mj_ld mv_s1
      rw [List.find?_cons_of_pos (by simp)]
    rw [e] at hj
    cases hj
    exact fl_s1_at _ _ _
  · unfold mv_s1 at hj
    rw [fl_ld_cons (by omega)] at hj
    obtain ⟨h1, h2⟩ := mv_fil (fun _ _ _ => rfl) hj
    unfold mj_s1
    rw [fl_ld_cons (by omega)]
    refine fl_find (h j w h1) ?_
    rw [h1] at h2
    simp only [mv_c2, Bool.and_eq_true, Bool.not_eq_true', Bool.and_eq_false_iff, beq_eq_false_iff_ne] at h2 ⊢
    exact h2
theorem mvL_s2 {L al : List (Nat × Value)} (h : mvL L al) (k : Nat) (v : Value) : mvL (mv_s2 k v L) (mj_s2 k v al) := by
  intro j w hj
  by_cases hjk : j = k
  · subst hjk
    have e : mj_ld (mv_s2 j v L) j = some v := by
      unfold mj_ld mv_s2
      rw [List.find?_cons_of_pos (by simp)]
    rw [e] at hj
    cases hj
    exact fl_s2_at _ _ _
  · unfold mv_s2 at hj
    rw [fl_ld_cons (by omega)] at hj
    obtain ⟨h1, h2⟩ := mv_fil (fun _ _ _ => rfl) hj
    unfold mj_s2
    rw [fl_ld_cons (by omega)]
    refine fl_find (h j w h1) ?_
    rw [h1] at h2
    simp only [mv_c2, Bool.and_eq_true, Bool.not_eq_true', Bool.and_eq_false_iff, beq_eq_false_iff_ne] at h2 ⊢
    exact h2
theorem mv_br_ok {pc : Nat} {L al : List (Nat × Value)} {off : Int} {st : List Value} {f' : mvS} {c : Prop} [Decidable c] (h : mv_br pc L off st c = some f') (hl : mvL L al) : ∃ al', mvL f'.2.1 al' ∧ ∀ (S : List Value) (r : mjH × Nat × Nat), mj_br (pc, al, S, r) 3 off st c = some (f'.1, al', f'.2.2, r) := by
  unfold mv_br at h
  split at h
  · rename_i hc
    cases h
    exact ⟨al, hl, fun S r => if_pos hc⟩
  · rename_i hc
    cases h
    exact ⟨al, hl, fun S r => if_neg hc⟩
theorem mq_iload_n' {k : Fin 4} {a b n pc : Nat} {al : List (Nat × Value)} {x : Nat} (h : mj_ld al k = some (.ref x)) (st : List Value) (r : mjH × Nat × Nat) : mj_op (.aload_n k, a, b, n) (pc, al, st, r) = some (pc + 1, al, .ref x :: st, r) := by
  unfold mj_op; dsimp only; rw [h]; rfl
theorem mq_iload' {k a b n pc : Nat} {al : List (Nat × Value)} {x : Nat} (h : mj_ld al k = some (.ref x)) (st : List Value) (r : mjH × Nat × Nat) : mj_op (.aload k, a, b, n) (pc, al, st, r) = some (pc + 2, al, .ref x :: st, r) := by
  unfold mj_op; dsimp only; rw [h]; rfl
set_option maxHeartbeats 4000000 in
theorem mv_ok {e : mjE} {pc : Nat} {L al : List (Nat × Value)} {st : List Value} {f' : mvS} (h : mv_op e pc L st = some f') (hl : mvL L al) : ∃ al', mvL f'.2.1 al' ∧ ∀ r, mj_op e (pc, al, st, r) = some (f'.1, al', f'.2.2, r) := by
  obtain ⟨ins, a, b, n⟩ := e
  unfold mv_op at h
  split at h
  all_goals first | (cases h; done) | (rename_i h1 h2; have h1 : ins = _ := h1; have h2 : st = _ := h2; subst h1 h2) | (rename_i h1; have h1 : ins = _ := h1; subst h1)
  all_goals first
    | (cases h; exact ⟨al, hl, fun _ => rfl⟩; done)
    | (cases h; exact ⟨_, mvL_s1 hl _ _, fun _ => rfl⟩; done)
    | (cases h; exact ⟨_, mvL_s2 hl _ _, fun _ => rfl⟩; done)
    | (obtain ⟨al', q1, q2⟩ := mv_br_ok h hl; exact ⟨al', q1, fun r => q2 _ r⟩; done)
    | (split at h
       · rename_i x hx
         cases h
         first
           | exact ⟨al, hl, fun r => mq_iload_n (hl _ _ hx) _ r⟩
           | exact ⟨al, hl, fun r => mq_iload (hl _ _ hx) _ r⟩
           | exact ⟨al, hl, fun r => mq_lload_n (hl _ _ hx) _ r⟩
           | exact ⟨al, hl, fun r => mq_lload (hl _ _ hx) _ r⟩
           | exact ⟨al, hl, fun r => mq_iload_n' (hl _ _ hx) _ r⟩
           | exact ⟨al, hl, fun r => mq_iload' (hl _ _ hx) _ r⟩
           | exact ⟨_, mvL_s1 hl _ _, fun r => mq_iinc (hl _ _ hx) _ r⟩
       · cases h
       done)
    | (split at h
       · cases h
       · rename_i hy
         cases h
         first
           | exact ⟨al, hl, fun r => mq_irem hy _ r⟩
           | exact ⟨al, hl, fun r => mq_idiv hy _ r⟩
       done)
def mv_run (C : mjC) : Nat → Nat → List (Nat × Value) → List Value → Option mvS
  | 0, pc, L, st => some (pc, L, st)
  | n + 1, pc, L, st => match mj_at C pc with
    | none => none
    | some e => match mv_op e pc L st with
      | none => none
      | some (pc', L', st') => mv_run C n pc' L' st'
/-- from f the frame comes to the end R -/
def fTo (X : Nat → mjF → Option mjR) (f : mjF) (R : mjR) : Prop := ∃ n, ∀ m, n ≤ m → X m f = some R
/-- from f the frame comes to f' -/
def fSt (X : Nat → mjF → Option mjR) (f f' : mjF) : Prop := ∀ R, fTo X f' R → fTo X f R
section FTO
variable {X : Nat → mjF → Option mjR} {ρ : Nat → Int32} {b d μ : Nat} {K : fK}
theorem fSt_refl {f : mjF} : fSt X f f := fun _ h => h
theorem fSt_trans {f f' f'' : mjF} (h1 : fSt X f f') (h2 : fSt X f' f'') : fSt X f f'' := fun R h => h1 R (h2 R h)
theorem fSt_op (hX : fRun ρ b μ d X) {e : mjE} {f f' : mjF} (he : fAt μ f.1 e) (ho : mj_op e f = some f') : fSt X f f' := by
  intro R ⟨n, h⟩
  refine ⟨n + 1, fun m hm => ?_⟩
  obtain ⟨m, rfl⟩ : ∃ q, m = q + 1 := ⟨m - 1, by omega⟩
  exact hX.1 m f e f' R he ho (h m (by omega))
theorem fSt_go (hX : fRun ρ b μ d X) {e : mjE} {f f' : mjF} (he : fAt μ f.1 e) (hn : fNs e.1) (ho : ∀ k call, mj_go mj_P e μ k call f = k f') : fSt X f f' := by
  intro R ⟨n, h⟩
  refine ⟨n + 1, fun m hm => ?_⟩
  obtain ⟨m, rfl⟩ : ∃ q, m = q + 1 := ⟨m - 1, by omega⟩
  exact hX.2.1 m f e R he hn ((ho _ _).trans (h m (by omega)))
theorem fTo_end (hX : fRun ρ b μ d X) {e : mjE} {f : mjF} {R : mjR} (he : fAt μ f.1 e) (hn : fNs e.1) (ho : ∀ k call, mj_go mj_P e μ k call f = some R) : fTo X f R := by
  refine ⟨1, fun m hm => ?_⟩
  obtain ⟨m, rfl⟩ : ∃ q, m = q + 1 := ⟨m - 1, by omega⟩
  exact hX.2.1 m f e R he hn (ho _ _)
theorem fSt_mv (hX : fRun ρ b μ d X) {C : mjC} (hC : (mj_P μ).2.2.2.1 = C) : ∀ (n : Nat) {pc : Nat} {L : List (Nat × Value)} {st : List Value} {f' : mvS} {al : List (Nat × Value)}, mv_run C n pc L st = some f' → mvL L al → ∃ al', mvL f'.2.1 al' ∧ ∀ r, fSt X (pc, al, st, r) (f'.1, al', f'.2.2, r)
  | 0, pc, L, st, f', al, h, hl => by
    cases h
    exact ⟨al, hl, fun r => fSt_refl⟩
  | n + 1, pc, L, st, f', al, h, hl => by
    unfold mv_run at h
    split at h
    · cases h
    · rename_i e he
      split at h
      · cases h
      · rename_i pc1 L1 st1 ho
        obtain ⟨al1, q1, q2⟩ := mv_ok ho hl
        obtain ⟨al2, q3, q4⟩ := fSt_mv hX hC n h q1
        refine ⟨al2, q3, fun r => fSt_trans (fSt_op hX (f := (pc, al, st, r)) (e := e) ?_ (q2 r)) (q4 r)⟩
        unfold fAt
        rw [hC]
        exact he
/-- a static call of a method that gives v back, its heap then being H' -/
theorem fSt_call (hX : fRun ρ b μ (d + 1) X) {k ea y nn pc : Nat} {al : List (Nat × Value)} {vs t : List Value} {H H' : mjH} {c s c1 s1 : Nat} {v : Option Value} (he : fAt μ pc (.invokestatic k, ea, y, nn)) (hea : ea ≠ 6) (h1 : (mj_P y).2.1 = vs.length) (h2 : mj_cat t ≤ 8) (h3 : mj_cat vs.reverse ≤ mj_mx.getD y 0)
    (h : fTo (fun m f => mj_run mj_P m (d + 1) y f) (0, lv_args 0 vs.reverse, [], H, 0, 0) (.inl v, H', c1, s1)) : fSt X (pc, al, vs ++ t, H, c, s) (pc + 3, al, v.toList ++ t, H', c + c1, s + s1) := by
  intro R ⟨n, hR⟩
  obtain ⟨n1, h⟩ := h
  refine ⟨max n n1 + 1, fun m hm => ?_⟩
  obtain ⟨m, rfl⟩ : ∃ q, m = q + 1 := ⟨m - 1, by omega⟩
  refine hX.2.1 m _ _ R he fNs_static ((mq_stat hea).trans ?_)
  refine (mj_inv_eq (P := mj_P) (e := (.invokestatic k, ea, y, nn)) (f := (pc, al, vs ++ t, H, c, s)) h1 h2 h3).trans ?_
  have e : mj_run mj_P m (d + 1) y (0, lv_args 0 vs.reverse, [], H, 0, 0) = some (.inl v, H', c1, s1) := h m (by omega)
  show mj_back _ _ _ _ _ _ (mj_run mj_P m (d + 1) y (0, lv_args 0 vs.reverse, [], H, 0, 0)) = some R
  rw [e]
  exact hR m (by omega)
theorem fSt_callV (hX : fRun ρ b μ (d + 1) X) {k ea y kd pc rr : Nat} {al : List (Nat × Value)} {vs t us : List Value} {H H' : mjH} {c s c1 s1 : Nat} {v : Option Value} (he : fAt μ pc (.invokevirtual k, ea, y, kd)) (hr : (vs ++ t)[(mj_P y).2.1 - 1]? = some (.ref rr)) (hk : H[rr]? = some (kd, us)) (h1 : (mj_P y).2.1 = vs.length) (h2 : mj_cat t ≤ 8) (h3 : mj_cat vs.reverse ≤ mj_mx.getD y 0)
    (h : fTo (fun m f => mj_run mj_P m (d + 1) y f) (0, lv_args 0 vs.reverse, [], H, 0, 0) (.inl v, H', c1, s1)) : fSt X (pc, al, vs ++ t, H, c, s) (pc + 3, al, v.toList ++ t, H', c + c1, s + s1) := by
  intro R ⟨n, hR⟩
  obtain ⟨n1, h⟩ := h
  refine ⟨max n n1 + 1, fun m hm => ?_⟩
  obtain ⟨m, rfl⟩ : ∃ q, m = q + 1 := ⟨m - 1, by omega⟩
  refine hX.2.1 m _ _ R he fNs_virtual ((mq_virt hr hk).trans ?_)
  refine (mj_inv_eq (P := mj_P) (e := (.invokevirtual k, ea, y, kd)) (f := (pc, al, vs ++ t, H, c, s)) h1 h2 h3).trans ?_
  have e : mj_run mj_P m (d + 1) y (0, lv_args 0 vs.reverse, [], H, 0, 0) = some (.inl v, H', c1, s1) := h m (by omega)
  show mj_back _ _ _ _ _ _ (mj_run mj_P m (d + 1) y (0, lv_args 0 vs.reverse, [], H, 0, 0)) = some R
  rw [e]
  exact hR m (by omega)
theorem fTo_iret (hX : fRun ρ b μ d X) {ty : FieldType} {v : Int32} {pc a bb n : Nat} {al : List (Nat × Value)} {r : mjH × Nat × Nat} (he : fAt μ pc (.ireturn, a, bb, n)) (hr : (mj_P μ).2.2.1 = some ty) (hn : narrow ty (.int v) = .int v) : fTo X (pc, al, [.int v], r) (.inl (some (.int v)), r) :=
  fTo_end hX (f := (pc, al, [.int v], r)) he fNs_iret fun k call => by
    unfold mj_go
    dsimp only
    rw [hr]
    exact if_pos hn
theorem fTo_op (hX : fRun ρ b μ d X) {e : mjE} {f f' : mjF} {R : mjR} (he : fAt μ f.1 e) (ho : mj_op e f = some f') (h : fTo X f' R) : fTo X f R := fSt_op hX he ho R h
theorem fTo_mv (hX : fRun ρ b μ d X) {C : mjC} (hC : (mj_P μ).2.2.2.1 = C) (n : Nat) {pc pc' : Nat} {L L' : List (Nat × Value)} {st st' : List Value} {al : List (Nat × Value)} {r : mjH × Nat × Nat} {R : mjR} (h : mv_run C n pc L st = some (pc', L', st')) (hl : mvL L al) (k : ∀ al', mvL L' al' → fTo X (pc', al', st', r) R) : fTo X (pc, al, st, r) R := by
  obtain ⟨al', q1, q2⟩ := fSt_mv hX hC n h hl
  exact q2 r R (k al' q1)
theorem fGd_mv (hX : fRun ρ b μ d X) {C : mjC} (hC : (mj_P μ).2.2.2.1 = C) (n : Nat) {pc pc' : Nat} {L L' : List (Nat × Value)} {st st' : List Value} {al : List (Nat × Value)} {r : mjH × Nat × Nat} {g : fG} (h : mv_run C n pc L st = some (pc', L', st')) (hl : mvL L al) (k : ∀ al', mvL L' al' → fGd X ρ b K (pc', al', st', r) g) : fGd X ρ b K (pc, al, st, r) g := by
  obtain ⟨al', q1, q2⟩ := fSt_mv hX hC n h hl
  obtain ⟨n0, R, iv, r2, g2, h1, h2, h3, h4, h5, h6, h7⟩ := k al' q1
  obtain ⟨n1, h8⟩ := q2 r R ⟨n0, h1⟩
  exact ⟨n1, R, iv, r2, g2, h8, h2, h3, h4, h5, h6, h7⟩
theorem fGd_st {f f' : mjF} {g g' : fG} (h : fSt X f f') (hc : f'.2.2.2.2.1 + g.2.2.1 = f.2.2.2.2.1 + g'.2.2.1) (hs : f'.2.2.2.2.2 + g.2.2.2 = f.2.2.2.2.2 + g'.2.2.2) (hg : fGd X ρ b K f' g') : fGd X ρ b K f g := by
  obtain ⟨n, R, iv, r, g2, h1, h2, h3, h4, h5, h6, h7⟩ := hg
  obtain ⟨n2, h8⟩ := h R ⟨n, h1⟩
  exact ⟨n2, R, iv, r, g2, h8, h2, h3, h4, h5, by omega, by omega⟩
theorem fGd_to {f : mjF} {g g' : fG} {R : mjR} {iv : fI} {r : fR} (h : fTo X f R) (hK : K iv r g' = true) (hiv : fIv ρ iv) (hr : R.1 = fr ρ b r) (hh : fHR g' R.2.1) (hc : R.2.2.1 + g.2.2.1 = f.2.2.2.2.1 + g'.2.2.1) (hs : R.2.2.2 + g.2.2.2 = f.2.2.2.2.2 + g'.2.2.2) : fGd X ρ b K f g := by
  obtain ⟨n, h⟩ := h
  exact ⟨n, R, iv, r, g', h, hK, hiv, hr, hh, hc, hs⟩
end FTO
