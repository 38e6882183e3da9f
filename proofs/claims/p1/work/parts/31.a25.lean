section MKG
variable {ρ : Nat → Int32}
variable {P : Nat → mjM} {e : mjE} {μ : Nat} {k k' : mjF → Option mjR} {call call' : Nat → mjF → Option mjR} {f : mjF} {R : mjR}
theorem mk_hand_ok {C : mjC} {t : Nat} {r : mjH × Nat × Nat} (hk : ∀ f', k f' = some R → k' (mk_f ρ f') = some (mk_r ρ R)) (hh : mj_hand C k f t r = some R) : mj_hand C k' (mk_f ρ f) t (r.1.map (mk_o ρ), r.2) = some (mk_r ρ R) := by
  unfold mj_hand at hh ⊢
  cases he : mj_at C t with
  | none => rw [he] at hh; cases hh
  | some e =>
    rw [he] at hh
    dsimp only at hh ⊢
    split at hh
    · rename_i i hi
      have h1 := hk _ hh
      dsimp only [mk_f] at h1 ⊢
      rw [mk_rm1] at h1
      exact h1
    · rename_i i hi
      have h1 := hk _ hh
      dsimp only [mk_f] at h1 ⊢
      rw [mk_rm1] at h1
      exact h1
    · cases hh
theorem mk_back_ok {thr : Bool} {C : mjC} {hh : List (Nat × Nat × Nat × Nat)} {rest : List Value} {res res' : Option mjR} (hk : ∀ f', k f' = some R → k' (mk_f ρ f') = some (mk_r ρ R)) (hr : ∀ q, res = some q → res' = some (mk_r ρ q))
    (hb : mj_back thr C hh k f rest res = some R) : mj_back thr C hh k' (mk_f ρ f) (rest.map (mk_v ρ)) res' = some (mk_r ρ R) := by
  cases res with
  | none => cases hb
  | some q =>
    rw [hr q rfl]
    obtain ⟨v, r⟩ := q
    cases v with
    | inl v =>
      have h1 : k (f.1 + 3, f.2.1, v.toList ++ rest, mj_add f r) = some R := hb
      have h2 := hk _ h1
      cases v with
      | none => exact h2
      | some v => exact h2
    | inr E =>
      unfold mj_back at hb ⊢
      dsimp only [mk_r, mk_s] at hb ⊢
      split at hb
      · cases hb
      · rename_i h1
        rw [if_neg h1]
        split at hb
        · rename_i h2
          rw [if_pos h2]
          cases hb
          rfl
        · rename_i h2
          rw [if_neg h2]
          split at hb
          · cases hb
          · rename_i x hx
            have hx' : hh.find? (fun x => decide (x.1 ≤ (mk_f ρ f).1 ∧ (mk_f ρ f).1 < x.2.1 ∧ x.2.2.2 = E)) = some x := hx
            rw [hx']
            exact mk_hand_ok hk hb
theorem mk_inv_ok {st : List Value} (hk : ∀ f', k f' = some R → k' (mk_f ρ f') = some (mk_r ρ R)) (hc : ∀ μ f' q, call μ f' = some q → call' μ (mk_f ρ f') = some (mk_r ρ q)) (h : mj_inv P e μ k call f st = some R) :
    mj_inv P e μ k' call' (mk_f ρ f) (st.map (mk_v ρ)) = some (mk_r ρ R) := by
  unfold mj_inv at h ⊢
  split at h
  · cases h
  · rename_i hn
    rw [if_neg]
    · rw [← List.map_drop]
      refine mk_back_ok hk (fun q hq => ?_) h
      have h2 := hc _ _ _ hq
      rw [← h2]
      dsimp only [mk_f]
      rw [mk_args, List.map_reverse, List.map_take]
      rfl
    · rw [← List.map_drop, ← List.map_take, ← List.map_reverse, mk_cat, mk_cat, List.length_map]
      exact hn
theorem mk_dflt {g g' : mjF} (h : mj_go P e μ k call g = (match mj_op e g with | none => none | some f'' => k f'')) (hg : mj_op e g = some g') : mj_go P e μ k call g = k g' := by
  rw [h, hg]
theorem mk_nsp {f' g g' : mjF} (ho : mj_op e f = some f') (hg : mj_op e g = some g') : mj_go P e μ k call g = k g' := by
  obtain ⟨ins, a, b, n⟩ := e
  unfold mj_op at ho
  split at ho
  all_goals first
    | (cases ho; done)
    | (rename_i h1 h2; have h1 : ins = _ := h1; subst h1; exact mk_dflt rfl hg)
    | (rename_i h1; have h1 : ins = _ := h1; subst h1; exact mk_dflt rfl hg)
theorem mk_go_ok (hk : ∀ f', k f' = some R → k' (mk_f ρ f') = some (mk_r ρ R)) (hc : ∀ μ f' q, call μ f' = some q → call' μ (mk_f ρ f') = some (mk_r ρ q)) (hg : mj_go P e μ k call f = some R) :
    mj_go P e μ k' call' (mk_f ρ f) = some (mk_r ρ R) := by
  obtain ⟨ins, a, b, n⟩ := e
  obtain ⟨pc, lv, st, h, cs, ss⟩ := f
  unfold mj_go at hg
  split at hg
  · rename_i h1 h2; have h1 : ins = _ := h1; have h2 : st = _ := h2; subst h1 h2
    split at hg
    · rename_i hq
      have hg := Option.some.inj hg
      subst hg
      exact if_pos hq
    · cases hg
  · rename_i h1 h2; have h1 : ins = _ := h1; have h2 : st = _ := h2; subst h1 h2
    split at hg
    · rename_i ty hty
      split at hg
      · rename_i hq
        have hg := Option.some.inj hg
        subst hg
        unfold mj_go
        dsimp only [mk_f, List.map, mk_v]
        rw [hty]
        exact if_pos hq
      · cases hg
    · cases hg
  · rename_i h1 h2; have h1 : ins = _ := h1; have h2 : st = _ := h2; subst h1 h2
    split at hg
    · rename_i hq
      have hg := Option.some.inj hg
      subst hg
      exact if_pos hq
    · cases hg
  · rename_i h1 h2; have h1 : ins = _ := h1; have h2 : st = _ := h2; subst h1 h2
    split at hg
    · rename_i hq
      have hg := Option.some.inj hg
      subst hg
      exact if_pos hq
    · cases hg
  · rename_i h1 h2; have h1 : ins = _ := h1; have h2 : st = _ := h2; subst h1 h2
    split at hg
    · rename_i hq
      have hg := Option.some.inj hg
      subst hg
      exact if_pos hq
    · cases hg
  · rename_i h1 h2; have h1 : ins = _ := h1; have h2 : st = _ := h2; subst h1 h2
    split at hg
    · rename_i hq
      have hg := Option.some.inj hg
      subst hg
      exact if_pos hq
    · cases hg
  · rename_i h1 h2; have h1 : ins = _ := h1; have h2 : st = _ := h2; subst h1 h2
    split at hg
    · rename_i hq
      have hg := Option.some.inj hg
      subst hg
      exact if_pos hq
    · cases hg
  · rename_i h1; have h1 : ins = _ := h1; subst h1
    split at hg
    · rename_i hq
      have h2 := mk_new (ρ := ρ) (f := (pc, lv, st, h, cs, ss)) (n := 3) (t := b) (N := n) (vs := mj_df b) (st := st) (mk_df b) rfl
      have h3 := hk _ hg
      unfold mj_go
      dsimp only
      rw [if_pos hq]
      dsimp only [mk_f] at h2 h3 ⊢
      rw [h2]
      exact h3
    · rename_i hq
      split at hg
      · rename_i hq2
        have hg := Option.some.inj hg
        subst hg
        unfold mj_go
        dsimp only [mk_f]
        rw [if_neg hq, if_pos ⟨hq2.1, by rw [mk_cat]; exact hq2.2⟩]
        dsimp only [mk_r, mk_s]
        rw [List.map_append]
        rfl
      · cases hg
  · rename_i h1; have h1 : ins = _ := h1; subst h1
    split at hg
    · rename_i hq
      split at hg
      · rename_i h2; have h2 : st = _ := h2; subst h2
        split at hg
        · cases hg
        · rename_i hcp
          split at hg
          · rename_i hq2
            have h3 := hk _ hg
            unfold mj_go
            dsimp only [mk_f, List.map, mk_v] at h3 ⊢
            rw [if_pos hq, mk_cpy hcp]
            dsimp only
            rw [if_pos (by rw [mk_cat]; exact hq2)]
            exact h3
          · cases hg
      · cases hg
    · rename_i hq
      have h2 := mk_inv_ok (ρ := ρ) hk hc hg
      unfold mj_go
      dsimp only
      rw [if_neg hq]
      exact h2
  · rename_i h1; have h1 : ins = _ := h1; subst h1
    split at hg
    · rename_i r hr
      split at hg
      · rename_i kd vs hkd
        split at hg
        · rename_i hq
          have h2 := mk_inv_ok (ρ := ρ) hk hc hg
          unfold mj_go
          dsimp only [mk_f] at h2 ⊢
          rw [mk_vs_at hr]
          dsimp only [mk_v]
          rw [mk_h_at hkd]
          dsimp only
          rw [if_pos hq]
          exact h2
        · cases hg
      · cases hg
    · cases hg
  · rename_i h1; have h1 : ins = _ := h1; subst h1
    split at hg
    · rename_i hq
      split at hg
      · rename_i h2; have h2 : st = _ := h2; subst h2
        split at hg
        · rename_i hq2
          have h3 := hk _ hg
          unfold mj_go
          dsimp only [mk_f, List.map, mk_v] at h3 ⊢
          rw [if_pos hq, if_pos (by rw [mk_cat]; exact hq2)]
          exact h3
        · cases hg
      · cases hg
    · rename_i hq
      split at hg
      · rename_i r hr
        have h2 := mk_inv_ok (ρ := ρ) hk hc hg
        unfold mj_go
        dsimp only [mk_f] at h2 ⊢
        rw [if_neg hq, mk_vs_at hr]
        exact h2
      · cases hg
  · split at hg
    · cases hg
    · rename_i f' hf'
      have h2 := hk _ hg
      rw [mk_nsp hf' (mk_op_ok (ρ := ρ) hf')]
      exact h2
end MKG
/-- of two ints by their bounds: is the one less -/
def mk_lt (x y : Int32 × Int32) : Option Bool := if x.2 < y.1 then some true else if y.2 ≤ x.1 then some false else none
def mk_eq (x y : Int32 × Int32) : Option Bool := if x.2 < y.1 ∨ y.2 < x.1 then some false else if x.1 = x.2 ∧ y.1 = y.2 ∧ x.1 = y.1 then some true else none
def mk_neg : Option Bool → Option Bool
  | some b => some (!b)
  | none => none
def mk_iv (iv : Nat → Int32 × Int32) : Value → Option (Int32 × Int32)
  | .int x => some (x, x)
  | .retAddr j => some (iv j)
  | _ => none
def mk_bt (f : mjF) (n : Nat) (off : Int) (st : List Value) : Option Bool → Option mjF
  | some true => some (mj_tg f.1 off, f.2.1, st, f.2.2.2)
  | some false => some (f.1 + n, f.2.1, st, f.2.2.2)
  | none => none
def mk_b2 (iv : Nat → Int32 × Int32) (g : Int32 × Int32 → Int32 × Int32 → Option Bool) (f : mjF) (off : Int) (x y : Value) (st : List Value) : Option mjF := match mk_iv iv x, mk_iv iv y with
  | some ix, some iy => mk_bt f 3 off st (g ix iy)
  | _, _ => none
/-- what is known of sums and the like: (which, one, other), what it is called -/
abbrev mkE : Type := List ((Nat × Value × Value) × Nat)
def mk_bi (ex : mkE) (op : Nat) (f : mjF) (x y : Value) (st : List Value) : Option mjF := match ex.find? (fun q => decide (q.1 = (op, x, y))) with
  | some q => mj_i f 1 (.retAddr q.2) st
  | none => none
def mk_ev (op : Nat) (x y : Int32) : Option Int32 := match op with
  | 0 => some (x + y)
  | 1 => some (x - y)
  | 2 => some (x * y)
  | 3 => some (x &&& y)
  | 4 => some (x ||| y)
  | 5 => some (x ^^^ y)
  | 6 => some (x <<< (y &&& 31))
  | 7 => some (x >>> (y &&& 31))
  | 8 => some (x.toUInt32 >>> (y.toUInt32 &&& Int32.toUInt32 31)).toInt32
  | 9 => if y = 0 then none else some (x / y)
  | 10 => if y = 0 then none else some (x - x / y * y)
  | _ => none
def mk_sp (iv : Nat → Int32 × Int32) (ex : mkE) (e : mjE) (f : mjF) : Option mjF := match e.1, f.2.2.1 with
  | .iload_n k, st => match mj_ld f.2.1 k with
    | some (.retAddr x) => mj_i f 1 (.retAddr x) st
    | _ => none
  | .iload k, st => match mj_ld f.2.1 k with
    | some (.retAddr x) => mj_i f 2 (.retAddr x) st
    | _ => none
  | .istore_n k, .retAddr x :: st => some (f.1 + 1, mj_s1 k (.retAddr x) f.2.1, st, f.2.2.2)
  | .istore k, .retAddr x :: st => some (f.1 + 2, mj_s1 k (.retAddr x) f.2.1, st, f.2.2.2)
  | .iastore, .retAddr x :: .int i :: .ref r :: st => mj_put 20 f (.retAddr x) i r st
  | .ifCond .eq off, .retAddr x :: st => mk_b2 iv mk_eq f off (.retAddr x) (.int 0) st
  | .ifCond .ne off, .retAddr x :: st => mk_b2 iv (fun p q => mk_neg (mk_eq p q)) f off (.retAddr x) (.int 0) st
  | .ifCond .lt off, .retAddr x :: st => mk_b2 iv mk_lt f off (.retAddr x) (.int 0) st
  | .ifCond .ge off, .retAddr x :: st => mk_b2 iv (fun p q => mk_neg (mk_lt p q)) f off (.retAddr x) (.int 0) st
  | .ifCond .gt off, .retAddr x :: st => mk_b2 iv mk_lt f off (.int 0) (.retAddr x) st
  | .ifCond .le off, .retAddr x :: st => mk_b2 iv (fun p q => mk_neg (mk_lt p q)) f off (.int 0) (.retAddr x) st
  | .if_icmp .eq off, y :: x :: st => mk_b2 iv mk_eq f off x y st
  | .if_icmp .ne off, y :: x :: st => mk_b2 iv (fun p q => mk_neg (mk_eq p q)) f off x y st
  | .if_icmp .lt off, y :: x :: st => mk_b2 iv mk_lt f off x y st
  | .if_icmp .ge off, y :: x :: st => mk_b2 iv (fun p q => mk_neg (mk_lt p q)) f off x y st
  | .if_icmp .gt off, y :: x :: st => mk_b2 iv mk_lt f off y x st
  | .if_icmp .le off, y :: x :: st => mk_b2 iv (fun p q => mk_neg (mk_lt p q)) f off y x st
  | .iadd, y :: x :: st => mk_bi ex 0 f x y st
  | .isub, y :: x :: st => mk_bi ex 1 f x y st
  | .imul, y :: x :: st => mk_bi ex 2 f x y st
  | .iand, y :: x :: st => mk_bi ex 3 f x y st
  | .ior, y :: x :: st => mk_bi ex 4 f x y st
  | .ixor, y :: x :: st => mk_bi ex 5 f x y st
  | .ishl, y :: x :: st => mk_bi ex 6 f x y st
  | .ishr, y :: x :: st => mk_bi ex 7 f x y st
  | .iushr, y :: x :: st => mk_bi ex 8 f x y st
  | .idiv, y :: x :: st => mk_bi ex 9 f x y st
  | .irem, y :: x :: st => mk_bi ex 10 f x y st
  | _, _ => none
/-- the ints that the names stand for keep the bounds, and are what is said of them -/
def mk_R (ρ : Nat → Int32) (iv : Nat → Int32 × Int32) (ex : mkE) : Prop := (∀ j, (iv j).1 ≤ ρ j ∧ ρ j ≤ (iv j).2) ∧ ∀ q ∈ ex, ∃ x y, mk_v ρ q.1.2.1 = .int x ∧ mk_v ρ q.1.2.2 = .int y ∧ mk_ev q.1.1 x y = some (ρ q.2)
section MKS
variable {ρ : Nat → Int32} {iv : Nat → Int32 × Int32} {ex : mkE}
variable {P : Nat → mjM} {e : mjE} {μ : Nat} {k k' : mjF → Option mjR} {call call' : Nat → mjF → Option mjR} {f f' : mjF} {R : mjR}
theorem mk_lt_ok {x y : Int32 × Int32} {a b : Int32} {t : Bool} (h1 : x.1 ≤ a) (h2 : a ≤ x.2) (h3 : y.1 ≤ b) (h4 : b ≤ y.2) (h : mk_lt x y = some t) : (t = true ∧ a < b) ∨ (t = false ∧ ¬ a < b) := by
  unfold mk_lt at h
  simp only [Int32.lt_iff_toInt_lt, Int32.le_iff_toInt_le] at *
  split at h
  · cases h; exact Or.inl ⟨rfl, by omega⟩
  · split at h
    · cases h; exact Or.inr ⟨rfl, by omega⟩
    · cases h
theorem mk_eq_ok {x y : Int32 × Int32} {a b : Int32} {t : Bool} (h1 : x.1 ≤ a) (h2 : a ≤ x.2) (h3 : y.1 ≤ b) (h4 : b ≤ y.2) (h : mk_eq x y = some t) : (t = true ∧ a = b) ∨ (t = false ∧ ¬ a = b) := by
  unfold mk_eq at h
  split at h
  · rename_i q
    cases h
    refine Or.inr ⟨rfl, fun e => ?_⟩
    subst e
    simp only [Int32.lt_iff_toInt_lt, Int32.le_iff_toInt_le] at *
    omega
  · split at h
    · rename_i q
      cases h
      refine Or.inl ⟨rfl, ?_⟩
      obtain ⟨q1, q2, q3⟩ := q
      rw [← q1] at h2
      rw [← q2, ← q3] at h4
      rw [← q3] at h3
      exact (Int32.le_antisymm h2 h1).trans (Int32.le_antisymm h4 h3).symm
    · cases h
theorem mk_iv_ok (hR : mk_R ρ iv ex) {v : Value} {i : Int32 × Int32} (h : mk_iv iv v = some i) : ∃ a, mk_v ρ v = .int a ∧ i.1 ≤ a ∧ a ≤ i.2 := by
  unfold mk_iv at h
  split at h
  · cases h; exact ⟨_, rfl, Int32.le_refl _, Int32.le_refl _⟩
  · cases h; exact ⟨_, rfl, (hR.1 _).1, (hR.1 _).2⟩
  · cases h
theorem mk_bt_ok {n : Nat} {off : Int} {st : List Value} {t : Bool} {C : Prop} [Decidable C] (h : mk_bt f n off st (some t) = some f') (hC : (t = true ∧ C) ∨ (t = false ∧ ¬ C)) : mj_br (mk_f ρ f) n off (st.map (mk_v ρ)) C = some (mk_f ρ f') := by
  unfold mj_br
  rcases hC with ⟨rfl, q⟩ | ⟨rfl, q⟩
  · cases h
    rw [if_pos q]
    rfl
  · cases h
    rw [if_neg q]
    rfl
theorem mk_neg_ok {o : Option Bool} {t : Bool} (h : mk_neg o = some t) : o = some (!t) := by
  unfold mk_neg at h
  split at h
  · cases h; rw [Bool.not_not]
  · cases h
theorem mk_b2_ok {g : Int32 × Int32 → Int32 × Int32 → Option Bool} {off : Int} {x y : Value} {st : List Value} (hR : mk_R ρ iv ex) (h : mk_b2 iv g f off x y st = some f') : ∃ a b ix iy t, mk_v ρ x = .int a ∧ mk_v ρ y = .int b ∧ ix.1 ≤ a ∧ a ≤ ix.2 ∧ iy.1 ≤ b ∧ b ≤ iy.2 ∧ g ix iy = some t ∧ mk_bt f 3 off st (some t) = some f' := by
  unfold mk_b2 at h
  split at h
  · rename_i ix iy hx hy
    obtain ⟨a, a1, a2, a3⟩ := mk_iv_ok hR hx
    obtain ⟨b, b1, b2, b3⟩ := mk_iv_ok hR hy
    cases hg : g ix iy with
    | none => rw [hg] at h; cases h
    | some t => rw [hg] at h; exact ⟨a, b, ix, iy, t, a1, b1, a2, a3, b2, b3, hg, h⟩
  · cases h
theorem mk_bi_ok {op : Nat} {x y : Value} {st : List Value} (hR : mk_R ρ iv ex) (h : mk_bi ex op f x y st = some f') : ∃ a b c, mk_v ρ x = .int a ∧ mk_v ρ y = .int b ∧ mk_ev op a b = some c ∧ mj_i (mk_f ρ f) 1 (.int c) (st.map (mk_v ρ)) = some (mk_f ρ f') := by
  unfold mk_bi at h
  split at h
  · rename_i q hq
    have h1 : q.1 = (op, x, y) := by simpa using List.find?_some hq
    obtain ⟨a, b, q1, q2, q3⟩ := hR.2 q (List.mem_of_find?_eq_some hq)
    rw [h1] at q1 q2 q3
    exact ⟨a, b, _, q1, q2, q3, mk_mi (ρ := ρ) h⟩
  · cases h
end MKS
section MKT
variable {ρ : Nat → Int32} {iv : Nat → Int32 × Int32} {ex : mkE}
variable {P : Nat → mjM} {e : mjE} {μ : Nat} {k k' : mjF → Option mjR} {call call' : Nat → mjF → Option mjR} {f f' : mjF} {R : mjR}
theorem mk_bt_at {g : mjF} {n : Nat} {off : Int} {st st' : List Value} {t : Bool} {C : Prop} [Decidable C] (h : mk_bt f n off st (some t) = some f') (hC : (t = true ∧ C) ∨ (t = false ∧ ¬ C)) (h1 : g.1 = f.1) (h2 : g.2.1 = f.2.1.map (mk_q ρ)) (h3 : g.2.2.2 = (mk_f ρ f).2.2.2) (h4 : st' = st.map (mk_v ρ)) : mj_br g n off st' C = some (mk_f ρ f') := by
  have q := mk_bt_ok (ρ := ρ) h hC
  unfold mj_br at q ⊢
  rw [h1, h2, h3, h4]
  exact q
theorem mk_ne_ok {x y : Int32 × Int32} {a b : Int32} {t : Bool} (h1 : x.1 ≤ a) (h2 : a ≤ x.2) (h3 : y.1 ≤ b) (h4 : b ≤ y.2) (h : mk_neg (mk_eq x y) = some t) : (t = true ∧ ¬ a = b) ∨ (t = false ∧ ¬ ¬ a = b) := by
  rcases mk_eq_ok h1 h2 h3 h4 (mk_neg_ok h) with ⟨q1, q2⟩ | ⟨q1, q2⟩
  · exact Or.inr ⟨by cases t <;> simp_all, fun q => q q2⟩
  · exact Or.inl ⟨by cases t <;> simp_all, q2⟩
theorem mk_ge_ok {x y : Int32 × Int32} {a b : Int32} {t : Bool} (h1 : x.1 ≤ a) (h2 : a ≤ x.2) (h3 : y.1 ≤ b) (h4 : b ≤ y.2) (h : mk_neg (mk_lt x y) = some t) : (t = true ∧ b ≤ a) ∨ (t = false ∧ ¬ b ≤ a) := by
  rcases mk_lt_ok h1 h2 h3 h4 (mk_neg_ok h) with ⟨q1, q2⟩ | ⟨q1, q2⟩
  · exact Or.inr ⟨by cases t <;> simp_all, by rw [Int32.lt_iff_toInt_lt] at q2; rw [Int32.le_iff_toInt_le]; omega⟩
  · exact Or.inl ⟨by cases t <;> simp_all, by rw [Int32.lt_iff_toInt_lt] at q2; rw [Int32.le_iff_toInt_le]; omega⟩
theorem mk_sp_op (hR : mk_R ρ iv ex) (h : mk_sp iv ex e f = some f') : mj_op e (mk_f ρ f) = some (mk_f ρ f') := by
  obtain ⟨ins, a, b, n⟩ := e
  obtain ⟨pc, lv, st, hp, cs, ss⟩ := f
  unfold mk_sp at h
  split at h
  all_goals first | (cases h; done) | (rename_i h1 h2; have h1 : ins = _ := h1; have h2 : st = _ := h2; subst h1 h2) | (rename_i h1; have h1 : ins = _ := h1; subst h1)
  · split at h
    · rename_i x hl
      have hl2 : mj_ld (lv.map (mk_q ρ)) _ = some (.int (ρ x)) := mk_ld (ρ := ρ) hl
      unfold mj_op
      dsimp only [mk_f]
      rw [hl2]
      exact mk_mi (ρ := ρ) h
    · cases h
  · split at h
    · rename_i x hl
      have hl2 : mj_ld (lv.map (mk_q ρ)) _ = some (.int (ρ x)) := mk_ld (ρ := ρ) hl
      unfold mj_op
      dsimp only [mk_f]
      rw [hl2]
      exact mk_mi (ρ := ρ) h
    · cases h
  · cases h; refine congrArg some ?_; dsimp only [mk_f]; rw [mk_s1]; rfl
  · cases h; refine congrArg some ?_; dsimp only [mk_f]; rw [mk_s1]; rfl
  · exact mk_put (ρ := ρ) h
  · obtain ⟨u, v, ix, iy, t, a1, b1, c1, c2, c3, c4, hg, hb⟩ := mk_b2_ok hR h
    cases a1; cases b1
    exact mk_bt_at (ρ := ρ) hb (mk_eq_ok c1 c2 c3 c4 hg) rfl rfl rfl rfl
  · obtain ⟨u, v, ix, iy, t, a1, b1, c1, c2, c3, c4, hg, hb⟩ := mk_b2_ok hR h
    cases a1; cases b1
    exact mk_bt_at (ρ := ρ) hb (mk_ne_ok c1 c2 c3 c4 hg) rfl rfl rfl rfl
  · obtain ⟨u, v, ix, iy, t, a1, b1, c1, c2, c3, c4, hg, hb⟩ := mk_b2_ok hR h
    cases a1; cases b1
    exact mk_bt_at (ρ := ρ) hb (mk_lt_ok c1 c2 c3 c4 hg) rfl rfl rfl rfl
  · obtain ⟨u, v, ix, iy, t, a1, b1, c1, c2, c3, c4, hg, hb⟩ := mk_b2_ok hR h
    cases a1; cases b1
    exact mk_bt_at (ρ := ρ) hb (mk_ge_ok c1 c2 c3 c4 hg) rfl rfl rfl rfl
  · obtain ⟨u, v, ix, iy, t, a1, b1, c1, c2, c3, c4, hg, hb⟩ := mk_b2_ok hR h
    cases a1; cases b1
    exact mk_bt_at (ρ := ρ) hb (mk_lt_ok c1 c2 c3 c4 hg) rfl rfl rfl rfl
  · obtain ⟨u, v, ix, iy, t, a1, b1, c1, c2, c3, c4, hg, hb⟩ := mk_b2_ok hR h
    cases a1; cases b1
    exact mk_bt_at (ρ := ρ) hb (mk_ge_ok c1 c2 c3 c4 hg) rfl rfl rfl rfl
  · obtain ⟨u, v, ix, iy, t, a1, b1, c1, c2, c3, c4, hg, hb⟩ := mk_b2_ok hR h
    unfold mj_op; dsimp only [mk_f, List.map]; rw [a1, b1]
    exact mk_bt_at (ρ := ρ) hb (mk_eq_ok c1 c2 c3 c4 hg) rfl rfl rfl rfl
  · obtain ⟨u, v, ix, iy, t, a1, b1, c1, c2, c3, c4, hg, hb⟩ := mk_b2_ok hR h
    unfold mj_op; dsimp only [mk_f, List.map]; rw [a1, b1]
    exact mk_bt_at (ρ := ρ) hb (mk_ne_ok c1 c2 c3 c4 hg) rfl rfl rfl rfl
  · obtain ⟨u, v, ix, iy, t, a1, b1, c1, c2, c3, c4, hg, hb⟩ := mk_b2_ok hR h
    unfold mj_op; dsimp only [mk_f, List.map]; rw [a1, b1]
    exact mk_bt_at (ρ := ρ) hb (mk_lt_ok c1 c2 c3 c4 hg) rfl rfl rfl rfl
  · obtain ⟨u, v, ix, iy, t, a1, b1, c1, c2, c3, c4, hg, hb⟩ := mk_b2_ok hR h
    unfold mj_op; dsimp only [mk_f, List.map]; rw [a1, b1]
    exact mk_bt_at (ρ := ρ) hb (mk_ge_ok c1 c2 c3 c4 hg) rfl rfl rfl rfl
  · obtain ⟨u, v, ix, iy, t, a1, b1, c1, c2, c3, c4, hg, hb⟩ := mk_b2_ok hR h
    unfold mj_op; dsimp only [mk_f, List.map]; rw [a1, b1]
    exact mk_bt_at (ρ := ρ) hb (mk_lt_ok c1 c2 c3 c4 hg) rfl rfl rfl rfl
  · obtain ⟨u, v, ix, iy, t, a1, b1, c1, c2, c3, c4, hg, hb⟩ := mk_b2_ok hR h
    unfold mj_op; dsimp only [mk_f, List.map]; rw [a1, b1]
    exact mk_bt_at (ρ := ρ) hb (mk_ge_ok c1 c2 c3 c4 hg) rfl rfl rfl rfl
  all_goals
    obtain ⟨u, v, w, a1, b1, hc, hi⟩ := mk_bi_ok hR h
    unfold mj_op; dsimp only [mk_f, List.map]; rw [a1, b1]
    first
      | (cases hc; exact hi)
      | (have hc : (if v = 0 then none else some (u / v)) = some w := hc
         split at hc
         · cases hc
         · rename_i q
           cases hc
           dsimp only
           rw [if_neg q]
           exact hi)
      | (have hc : (if v = 0 then none else some (u - u / v * v)) = some w := hc
         split at hc
         · cases hc
         · rename_i q
           cases hc
           dsimp only
           rw [if_neg q]
           exact hi)
theorem mk_sp_go {g g' : mjF} (h : mk_sp iv ex e f = some f') (hg : mj_op e g = some g') : mj_go P e μ k call g = k g' := by
  obtain ⟨ins, a, b, n⟩ := e
  unfold mk_sp at h
  split at h
  all_goals first
    | (cases h; done)
    | (rename_i h1 h2; have h1 : ins = _ := h1; subst h1; exact mk_dflt rfl hg)
    | (rename_i h1; have h1 : ins = _ := h1; subst h1; exact mk_dflt rfl hg)
/-- the symbolic machine's step -/
def mk_gos (iv : Nat → Int32 × Int32) (ex : mkE) (P : Nat → mjM) (e : mjE) (μ : Nat) (k : mjF → Option mjR) (call : Nat → mjF → Option mjR) (f : mjF) : Option mjR := match mk_sp iv ex e f with
  | some f' => k f'
  | none => match e.1, f.2.2.1 with
    | .ireturn, [.retAddr x] => if (P μ).2.2.1 = some .int then mj_ret (some (.retAddr x)) f else none
    | _, _ => mj_go P e μ k call f
def mk_run (iv : Nat → Int32 × Int32) (ex : mkE) (P : Nat → mjM) : Nat → Nat → Nat → mjF → Option mjR
  | 0, _, _, _ => none
  | _ + 1, 0, _, _ => none
  | n + 1, d + 1, μ, f => match mj_at (P μ).2.2.2.1 f.1 with
    | none => none
    | some e => mk_gos iv ex P e μ (fun f' => mk_run iv ex P n (d + 1) μ f') (fun μ' f' => mk_run iv ex P n d μ' f') f
theorem mk_gos_ok (hR : mk_R ρ iv ex) (hk : ∀ f', k f' = some R → k' (mk_f ρ f') = some (mk_r ρ R)) (hc : ∀ μ f' q, call μ f' = some q → call' μ (mk_f ρ f') = some (mk_r ρ q)) (hg : mk_gos iv ex P e μ k call f = some R) :
    mj_go P e μ k' call' (mk_f ρ f) = some (mk_r ρ R) := by
  unfold mk_gos at hg
  split at hg
  · rename_i f' h
    rw [mk_sp_go h (mk_sp_op (ρ := ρ) hR h)]
    exact hk _ hg
  · split at hg
    · rename_i h1 h2
      obtain ⟨ins, a, b, n⟩ := e
      obtain ⟨pc, lv, st, hp, cs, ss⟩ := f
      have h1 : ins = _ := h1
      have h2 : st = _ := h2
      subst h1 h2
      split at hg
      · rename_i hq
        have hg := Option.some.inj hg
        subst hg
        unfold mj_go
        dsimp only [mk_f, List.map, mk_v]
        rw [hq]
        exact if_pos rfl
      · cases hg
    · exact mk_go_ok (ρ := ρ) hk hc hg
/-- what the symbolic machine's run says holds of the small machine's, whatever the ints are -/
theorem mk_run_ok (hR : mk_R ρ iv ex) : ∀ (n d μ : Nat) (f : mjF) (R : mjR), mk_run iv ex P n d μ f = some R → mj_run P n d μ (mk_f ρ f) = some (mk_r ρ R)
  | 0, _, _, _, _, h => by cases h
  | n + 1, 0, _, _, _, h => by cases h
  | n + 1, d + 1, μ, f, R, h => by
    simp only [mk_run] at h
    simp only [mj_run]
    have h0 : (mk_f ρ f).1 = f.1 := rfl
    rw [h0]
    split at h
    · cases h
    · rename_i e he
      rw [he]
      exact mk_gos_ok (ρ := ρ) hR (fun f' hf' => mk_run_ok hR n (d + 1) μ f' R hf') (fun μ' f' q hq => mk_run_ok hR n d μ' f' q hq) h
end MKT
