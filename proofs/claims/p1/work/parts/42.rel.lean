/-! WHAT THE FAST MACHINE'S STATES STAND FOR -/
/-- an other value: unknown ints (0 to 7), these as longs (8 to 15), 0 as a float (16), the script (20), 0 as a double (24) -/
noncomputable def fv_o (ρ : Nat → Int32) (b : Nat) (k : Nat) : Value := if k ≤ 7 then .int (ρ k) else if k ≤ 15 then .long (ρ (k - 8)).toInt64 else if k = 16 then .float 0 else if k = 20 then .retAddr b else if k = 34 then .int 0 else if Nat.beq (Nat.land k 8) 0 = true then .null else .double 0
noncomputable def fv_r (r : Nat) : Value := Nat.rec (motive := fun _ => Value) .null (fun r _ => .ref r) r
noncomputable def fv (ρ : Nat → Int32) (b : Nat) (v : fV) : Value := Sum.rec (motive := fun _ => Value) (fun n => .int (Int32.ofNat n)) (fun q => Sum.rec (motive := fun _ => Value) (fun r => fv_r r) (fun q => Sum.rec (motive := fun _ => Value) (fun n => .long (Int64.ofNat n)) (fun k => fv_o ρ b k) q) q) v
/-- an int with the sign's bit turned, as a number -/
def fbi (x : Int32) : Nat := (x.toInt + 2147483648).toNat
/-- what the names that aren't the script's own ints stand for: its first int's low bits, its second one as a char, the letter of cause -/
def fNm (ρ : Nat → Int32) : Prop := ρ 5 = ρ 0 &&& 63 ∧ (ρ 5 = 47 → ρ 6 = ((ρ 1).toUInt32 % 65536).toInt32) ∧ (ρ 5 = 17 → ρ 6 = fcause (ρ 1) (ρ 2) (ρ 3))
def fIv (ρ : Nat → Int32) (iv : fI) : Prop := (∀ k, k ≤ 7 → (fi_get k iv).1 ≤ fbi (ρ k) ∧ fbi (ρ k) ≤ (fi_get k iv).2) ∧ fNm ρ
/-- of such a local it is said that it is an int, no more -/
def fZ : fV := Sum.inr (Sum.inr (Sum.inr 34))
def fLR (ρ : Nat → Int32) (b : Nat) (lv : fL) (al : List (Nat × Value)) : Prop := ∀ i, fl_get i lv = fF ∨ (fl_get i lv = fZ ∧ ∃ x, mj_ld al i = some (.int x)) ∨ mj_ld al i = some (fv ρ b (fl_get i lv))
/-- is a field, or an element, a reference -/
def ftr (k j : Nat) : Bool := if k < 8 then (match (mj_df k)[j]? with | some .null => true | _ => false) else decide (25 ≤ k)
noncomputable def fel (k D j : Nat) : Value := if k = 21 then .long (Int64.ofNat (fdigl D j)) else if k = 24 then .double 0 else if ftr k j = true then fv_r (fdig D j) else .int (Int32.ofNat (fdig D j))
noncomputable def fdec (k n D : Nat) : List Value := (List.range n).map (fel k D)
def fCR (c : fC) (o : mjO) : Prop := c.2.1 ≤ 65536 ∧ (if c.1 < 64 ∨ c.1 = 99 then o = (c.1, fdec c.1 c.2.1 c.2.2) ∧ (c.1 < 8 → c.2.1 = (mj_df c.1).length) else o.1 + 64 = c.1 ∧ o.2.length = c.2.1 ∧ o.2.all mj_isint = true)
def fHR (g : fG) (H : mjH) : Prop := H.length = g.2.1 ∧ g.2.1 ≤ 256 ∧ ∀ r, r < g.2.1 → ∃ c, H[r]? = some c ∧ fCR (ft_get fD g.1 r) c
noncomputable def fr (ρ : Nat → Int32) (b : Nat) : fR → Option Value ⊕ Nat
  | .inl v => .inl (v.map (fv ρ b))
  | .inr x => .inr x
/-! small steps back through the fast machine's words -/
theorem fB_t {c t e : Bool} (h : fB c t e = true) : (c = true ∧ t = true) ∨ (c = false ∧ e = true) := by
  cases c with
  | true => exact Or.inl ⟨rfl, h⟩
  | false => exact Or.inr ⟨rfl, h⟩
theorem fB_1 {c t : Bool} (h : fB c t false = true) : c = true ∧ t = true := by
  cases c with
  | true => exact ⟨rfl, h⟩
  | false => cases h
theorem fB_2 {c e : Bool} (h : fB c false e = true) : c = false ∧ e = true := by
  cases c with
  | true => cases h
  | false => exact ⟨rfl, h⟩
theorem frc_eq (n : Nat) (k : Nat → Bool) : frc n k = k n := rfl
theorem fw1_1 {st : fL} {fb : Bool} {k : Nat → fL → Bool} (h : fw1 st fb k = true) : (∃ x t, st = .inl x :: t ∧ k x t = true) ∨ (∃ r t, st = .inr r :: t ∧ fb = true) := by
  cases st with
  | nil => cases h
  | cons v t =>
    cases v with
    | inl x => exact Or.inl ⟨x, t, rfl, h⟩
    | inr r => exact Or.inr ⟨r, t, rfl, h⟩
theorem fw1_f {st : fL} {k : Nat → fL → Bool} (h : fw1 st false k = true) : ∃ x t, st = .inl x :: t ∧ k x t = true := by
  rcases fw1_1 h with h | ⟨_, _, _, h⟩
  · exact h
  · cases h
theorem fw2_1 {st : fL} {fb : Bool} {k : Nat → Nat → fL → Bool} (h : fw2 st fb k = true) : (∃ x y t, st = .inl y :: .inl x :: t ∧ k x y t = true) ∨ fb = true := by
  cases st with
  | nil => cases h
  | cons v t =>
    cases v with
    | inl y =>
      cases t with
      | nil => cases h
      | cons w t =>
        cases w with
        | inl x => exact Or.inl ⟨x, y, t, rfl, h⟩
        | inr r => exact Or.inr h
    | inr r => exact Or.inr h
theorem fw2_f {st : fL} {k : Nat → Nat → fL → Bool} (h : fw2 st false k = true) : ∃ x y t, st = .inl y :: .inl x :: t ∧ k x y t = true := by
  rcases fw2_1 h with h | h
  · exact h
  · cases h
theorem fwr_1 {st : fL} {k : Nat → fL → Bool} (h : fwr st k = true) : ∃ r t, st = .inr (.inl r) :: t ∧ k r t = true := by
  cases st with
  | nil => cases h
  | cons v t =>
    cases v with
    | inl y => cases h
    | inr q =>
      cases q with
      | inl r => exact ⟨r, t, rfl, h⟩
      | inr q => cases h
theorem fwc_1 {st : fL} {g : fG} {k : Nat → fL → Nat → Nat → Nat → Bool} (h : fwc st g k = true) : ∃ r t a n D, st = .inr (.inl (r + 1)) :: t ∧ r < g.2.1 ∧ ft_get fD g.1 r = (a, n, D) ∧ k r t a n D = true := by
  unfold fwc at h
  obtain ⟨r, t, e9, h9⟩ := fwr_1 h
  clear h
  subst e9
  have h := h9
  clear h9
  cases r with
  | zero => cases h
  | succ r =>
    have h : (Bool.rec (motive := fun _ => Bool) false (Prod.rec (motive := fun _ => Bool) (fun a b => Prod.rec (motive := fun _ => Bool) (fun n D => k r t a n D) b) (ft_get fD g.1 r)) (Nat.ble (Nat.succ r) g.2.1)) = true := h
    cases hb : Nat.ble (Nat.succ r) g.2.1 with
    | false => rw [hb] at h; cases h
    | true =>
      rw [hb] at h
      generalize hc : ft_get fD g.1 r = c at h
      obtain ⟨a, n, D⟩ := c
      exact ⟨r, t, a, n, D, rfl, Nat.le_of_ble_eq_true hb, hc, h⟩
theorem fwl_1 {st : fL} {fb : Bool} {k : Nat → fL → Bool} (h : fwl st fb k = true) : (∃ x t, st = .inr (.inr (.inl x)) :: t ∧ k x t = true) ∨ fb = true := by
  cases st with
  | nil => cases h
  | cons v t =>
    cases v with
    | inl y => cases h
    | inr q =>
      cases q with
      | inl r => cases h
      | inr q =>
        cases q with
        | inl x => exact Or.inl ⟨x, t, rfl, h⟩
        | inr x => exact Or.inr h
theorem fwl_f {st : fL} {k : Nat → fL → Bool} (h : fwl st false k = true) : ∃ x t, st = .inr (.inr (.inl x)) :: t ∧ k x t = true := by
  rcases fwl_1 h with h | h
  · exact h
  · cases h
theorem fw2l_1 {st : fL} {fb : Bool} {k : Nat → Nat → fL → Bool} (h : fw2l st fb k = true) : (∃ x y t, st = .inr (.inr (.inl y)) :: .inr (.inr (.inl x)) :: t ∧ k x y t = true) ∨ fb = true := by
  unfold fw2l at h
  obtain ⟨y, t, e9, h9⟩ := fwl_f h
  clear h
  subst e9
  have h := h9
  clear h9
  rcases fwl_1 h with ⟨x, t, e9, h9⟩ | h
  · clear h
    subst e9
    have h := h9
    clear h9
    exact Or.inl ⟨x, y, t, rfl, h⟩
  · exact Or.inr h
theorem fwd_1 {id : Nat} {st : fL} {k : fL → Bool} (h : fwd id st k = true) : ∃ t, st = .inr (.inr (.inr id)) :: t ∧ k t = true := by
  cases st with
  | nil => cases h
  | cons v t =>
    cases v with
    | inl y => cases h
    | inr q =>
      cases q with
      | inl r => cases h
      | inr q =>
        cases q with
        | inl x => cases h
        | inr x =>
          have h : fB (Nat.beq x id) (k t) false = true := h
          obtain ⟨h1, h2⟩ := fB_1 h
          have h1 := Nat.eq_of_beq_eq_true h1
          subst h1
          exact ⟨t, rfl, h2⟩
theorem fnil_1 {st : fL} {b : Bool} (h : fnil st b = true) : st = [] ∧ b = true := by
  cases st with
  | nil => exact ⟨rfl, h⟩
  | cons v t => cases h
theorem fv_cat {ρ : Nat → Int32} {b : Nat} {v : fV} : (fv_1 v = true → (fv ρ b v).category = 1) ∧ (fv_1 v = false → (fv ρ b v).category = 2) := by
  cases v with
  | inl n => exact ⟨fun _ => rfl, fun h => by cases h⟩
  | inr q =>
    cases q with
    | inl r =>
      refine ⟨fun _ => ?_, fun h => by cases h⟩
      cases r <;> rfl
    | inr q =>
      cases q with
      | inl n => exact ⟨fun h => by (cases h), fun _ => rfl⟩
      | inr k =>
        have e : fv ρ b (.inr (.inr (.inr k))) = fv_o ρ b k := rfl
        have e1 : fv_1 (.inr (.inr (.inr k))) = Nat.beq (Nat.land k 8) 0 := rfl
        rw [e, e1]
        unfold fv_o
        by_cases h7 : k ≤ 7
        · rw [if_pos h7]
          refine ⟨fun _ => rfl, fun h => ?_⟩
          have : ∀ k, k ≤ 7 → Nat.beq (Nat.land k 8) 0 = true := by decide
          rw [this k h7] at h
          cases h
        · rw [if_neg h7]
          by_cases h15 : k ≤ 15
          · rw [if_pos h15]
            refine ⟨fun h => ?_, fun _ => rfl⟩
            have : ∀ k, k ≤ 15 → 8 ≤ k → Nat.beq (Nat.land k 8) 0 = false := by decide
            rw [this k h15 (by omega)] at h
            cases h
          · rw [if_neg h15]
            by_cases h16 : k = 16
            · subst h16
              exact ⟨fun _ => rfl, fun h => by cases h⟩
            · rw [if_neg h16]
              by_cases h20 : k = 20
              · subst h20
                exact ⟨fun _ => rfl, fun h => by cases h⟩
              · rw [if_neg h20]
                by_cases h34 : k = 34
                · subst h34
                  exact ⟨fun _ => rfl, fun h => by cases h⟩
                · rw [if_neg h34]
                  by_cases hb : Nat.beq (Nat.land k 8) 0 = true
                  · rw [if_pos hb]
                    exact ⟨fun _ => rfl, fun h => by rw [hb] at h; cases h⟩
                  · rw [if_neg hb]
                    exact ⟨fun h => absurd h hb, fun _ => rfl⟩
theorem fv_cat_le (ρ : Nat → Int32) (b : Nat) (v : fV) : (fv ρ b v).category ≤ 2 := by
  cases h : fv_1 v with
  | true => rw [fv_cat.1 h]; decide
  | false => rw [fv_cat.2 h]; exact Nat.le_refl _
theorem fv_sym {ρ : Nat → Int32} {b k : Nat} (h : k ≤ 7) : fv ρ b (.inr (.inr (.inr k))) = .int (ρ k) := if_pos h
theorem fv_symL {ρ : Nat → Int32} {b k : Nat} (h : k ≤ 7) : fv ρ b (.inr (.inr (.inr (8 + k)))) = .long (ρ k).toInt64 := by
  show fv_o ρ b (8 + k) = _
  unfold fv_o
  rw [if_neg (by omega), if_pos (by omega), Nat.add_sub_cancel_left]
/-! trees -/
def ft_same (l : List Nat) (i j : Nat) : Bool := l.all fun m => Nat.beq (Nat.land i m) 0 == Nat.beq (Nat.land j m) 0
theorem ft_set_1 {α : Type} (l : List Nat) : ∀ (t : fT α l) (i : Nat) (x : α) (k : fT α l → Bool), ft_set l t i x k = true → ∃ t' : fT α l, k t' = true ∧ ∀ j, ft_get l t' j = if ft_same l i j = true then x else ft_get l t j := by
  induction l with
  | nil =>
    intro t i x k h
    exact ⟨x, h, fun j => rfl⟩
  | cons m l ih =>
    intro t i x k h
    obtain ⟨a, b⟩ := t
    have h : (Bool.rec (motive := fun _ => Bool) (ft_set l b i x (fun b' => k (a, b'))) (ft_set l a i x (fun a' => k (a', b))) (Nat.beq (Nat.land i m) 0)) = true := h
    have hg : ∀ (a b : fT α l) (j : Nat), ft_get (m :: l) (a, b) j = Bool.rec (motive := fun _ => α) (ft_get l b j) (ft_get l a j) (Nat.beq (Nat.land j m) 0) := fun _ _ _ => rfl
    have hs : ∀ j, ft_same (m :: l) i j = ((Nat.beq (Nat.land i m) 0 == Nat.beq (Nat.land j m) 0) && ft_same l i j) := fun j => rfl
    cases hc : Nat.beq (Nat.land i m) 0 with
    | false =>
      rw [hc] at h
      obtain ⟨b', h1, h2⟩ := ih b i x _ h
      refine ⟨(a, b'), h1, fun j => ?_⟩
      rw [hg, hg, hs, hc]
      cases Nat.beq (Nat.land j m) 0 with
      | false => exact h2 j
      | true => rfl
    | true =>
      rw [hc] at h
      obtain ⟨a', h1, h2⟩ := ih a i x _ h
      refine ⟨(a', b), h1, fun j => ?_⟩
      rw [hg, hg, hs, hc]
      cases Nat.beq (Nat.land j m) 0 with
      | false => rfl
      | true => exact h2 j
theorem ft_bit (i k : Nat) : Nat.beq (Nat.land i (2 ^ k)) 0 = !(i.testBit k) := by
  have e : ∀ j, (i &&& 2 ^ k).testBit j = (i.testBit j && decide (k = j)) := fun j => by rw [Nat.testBit_and, Nat.testBit_two_pow]
  have e0 : Nat.land i (2 ^ k) = i &&& 2 ^ k := rfl
  rw [e0]
  cases h : i.testBit k with
  | false =>
    refine Nat.beq_eq.mpr (Nat.eq_of_testBit_eq fun j => ?_)
    rw [e, Nat.zero_testBit]
    by_cases hj : k = j
    · rw [← hj, h]; rfl
    · rw [decide_eq_false hj, Bool.and_false]
  | true =>
    refine fn_beqf fun q => ?_
    have h2 := e k
    rw [q, Nat.zero_testBit, h, decide_eq_true rfl] at h2
    cases h2
theorem ft_sameD {i j : Nat} (hi : i < 256) (hj : j < 256) : ft_same fD i j = true ↔ i = j := by
  constructor
  · intro h
    simp only [ft_same, fD, List.all_cons, List.all_nil, Bool.and_true, Bool.and_eq_true, beq_iff_eq] at h
    obtain ⟨h7, h6, h5, h4, h3, h2, h1, h0⟩ := h
    have q : ∀ k, Nat.beq (Nat.land i (2 ^ k)) 0 = Nat.beq (Nat.land j (2 ^ k)) 0 → i.testBit k = j.testBit k := by
      intro k h
      rw [ft_bit, ft_bit] at h
      cases hi : i.testBit k <;> cases hj : j.testBit k <;> simp_all
    refine Nat.eq_of_testBit_eq fun k => ?_
    by_cases hk : k < 8
    · match k, hk with
      | 0, _ => exact q 0 h0
      | 1, _ => exact q 1 h1
      | 2, _ => exact q 2 h2
      | 3, _ => exact q 3 h3
      | 4, _ => exact q 4 h4
      | 5, _ => exact q 5 h5
      | 6, _ => exact q 6 h6
      | 7, _ => exact q 7 h7
      | k + 8, hk => omega
    · have e : (256 : Nat) = 2 ^ 8 := rfl
      have h8 : 2 ^ 8 ≤ 2 ^ k := Nat.pow_le_pow_right (by decide) (by omega)
      rw [Nat.testBit_lt_two_pow (Nat.lt_of_lt_of_le (e ▸ hi) h8), Nat.testBit_lt_two_pow (Nat.lt_of_lt_of_le (e ▸ hj) h8)]
  · rintro rfl
    simp [ft_same]
theorem ft_set_D {t : fT fC fD} {i : Nat} {x : fC} {k : fT fC fD → Bool} (hi : i < 256) (h : ft_set fD t i x k = true) : ∃ t', k t' = true ∧ ft_get fD t' i = x ∧ ∀ j, j < 256 → j ≠ i → ft_get fD t' j = ft_get fD t j := by
  obtain ⟨t', h1, h2⟩ := ft_set_1 fD t i x k h
  refine ⟨t', h1, ?_, fun j hj hn => ?_⟩
  · rw [h2, if_pos ((ft_sameD hi hi).mpr rfl)]
  · rw [h2, if_neg fun q => hn ((ft_sameD hi hj).mp q).symm]
/-! locals -/
theorem fl_get_nil (i : Nat) : fl_get i [] = fF := by cases i <;> rfl
theorem fl_get_0 (v : fV) (t : fL) : fl_get 0 (v :: t) = v := rfl
theorem fl_get_s (i : Nat) (v : fV) (t : fL) : fl_get (i + 1) (v :: t) = fl_get i t := rfl
theorem fl_set_1 (k : Nat) : ∀ (p v : fV) (lv : fL) (K : fL → Bool), fl_set k p v lv K = true → ∃ lv', K lv' = true ∧ (∀ j, fl_get j lv' = if j = k then v else fl_get j lv) ∧ (if k = 0 then fv_1 p = true else fv_1 (fl_get (k - 1) lv) = true) := by
  induction k with
  | zero =>
    intro p v lv K h
    cases lv with
    | nil => cases h
    | cons a t =>
      have h : Bool.rec (motive := fun _ => Bool) false (K (v :: t)) (fv_1 p) = true := h
      cases hp : fv_1 p with
      | false => rw [hp] at h; cases h
      | true =>
        rw [hp] at h
        refine ⟨v :: t, h, fun j => ?_, rfl⟩
        cases j with
        | zero => rfl
        | succ j => rfl
  | succ k ih =>
    intro p v lv K h
    cases lv with
    | nil => cases h
    | cons a t =>
      obtain ⟨t', h1, h2, h3⟩ := ih a v t _ h
      refine ⟨a :: t', h1, fun j => ?_, ?_⟩
      · cases j with
        | zero => rfl
        | succ j =>
          rw [fl_get_s, h2, fl_get_s]
          by_cases hj : j = k
          · rw [if_pos hj, if_pos (by omega)]
          · rw [if_neg hj, if_neg (by omega)]
      · rw [if_neg (by omega)]
        cases k with
        | zero => exact h3
        | succ k => exact h3
theorem fl_set2_1 (k : Nat) : ∀ (p v : fV) (lv : fL) (K : fL → Bool), fl_set2 k p v lv K = true → ∃ lv', K lv' = true ∧ (∀ j, fl_get j lv' = if j = k then v else if j = k + 1 then fF else fl_get j lv) ∧ (if k = 0 then fv_1 p = true else fv_1 (fl_get (k - 1) lv) = true) := by
  induction k with
  | zero =>
    intro p v lv K h
    cases lv with
    | nil => cases h
    | cons a t =>
      cases t with
      | nil => cases h
      | cons a2 t =>
        have h : Bool.rec (motive := fun _ => Bool) false (K (v :: fF :: t)) (fv_1 p) = true := h
        cases hp : fv_1 p with
        | false => rw [hp] at h; cases h
        | true =>
          rw [hp] at h
          refine ⟨v :: fF :: t, h, fun j => ?_, rfl⟩
          cases j with
          | zero => rfl
          | succ j =>
            cases j with
            | zero => rfl
            | succ j =>
              rw [if_neg (by omega), if_neg (by omega)]
              rfl
  | succ k ih =>
    intro p v lv K h
    cases lv with
    | nil => cases h
    | cons a t =>
      obtain ⟨t', h1, h2, h3⟩ := ih a v t _ h
      refine ⟨a :: t', h1, fun j => ?_, ?_⟩
      · cases j with
        | zero => rw [if_neg (by omega), if_neg (by omega)]; rfl
        | succ j =>
          rw [fl_get_s, h2, fl_get_s]
          by_cases hj : j = k
          · rw [if_pos hj, if_pos (by omega)]
          · rw [if_neg hj, if_neg (show ¬ j + 1 = k + 1 by omega)]
            by_cases hj : j = k + 1
            · rw [if_pos hj, if_pos (by omega)]
            · rw [if_neg hj, if_neg (by omega)]
      · rw [if_neg (by omega)]
        cases k with
        | zero => exact h3
        | succ k => exact h3
/-- what a filter of the locals that lets a place stay leaves there -/
theorem fl_find {p : Nat × Value → Bool} {j : Nat} {w : Value} : ∀ {al : List (Nat × Value)}, mj_ld al j = some w → p (j, w) = true → mj_ld (al.filter p) j = some w := by
  intro al
  unfold mj_ld
  induction al with
  | nil => intro h; cases h
  | cons q al ih =>
    intro h hp
    by_cases hq : (q.1 == j) = true
    · rw [List.find?_cons_of_pos (p := fun q : Nat × Value => q.1 == j) (a := q) hq] at h
      dsimp only at h
      have e : q = (j, w) := by
        obtain ⟨a, c⟩ := q
        have : a = j := by simpa using hq
        have h := Option.some.inj h
        dsimp only at h
        rw [this, h]
      rw [e] at hq ⊢
      rw [List.filter_cons_of_pos hp, List.find?_cons_of_pos (p := fun q : Nat × Value => q.1 == j) (a := (j, w)) hq]
    · rw [List.find?_cons_of_neg (p := fun q : Nat × Value => q.1 == j) (a := q) hq] at h
      by_cases hpq : p q = true
      · rw [List.filter_cons_of_pos hpq, List.find?_cons_of_neg (p := fun q : Nat × Value => q.1 == j) (a := q) hq]
        exact ih h hp
      · rw [List.filter_cons_of_neg hpq]
        exact ih h hp
theorem fl_s1_at (i : Nat) (v : Value) (al : List (Nat × Value)) : mj_ld (mj_s1 i v al) i = some v := by
  unfold mj_ld mj_s1
  rw [List.find?_cons_of_pos (by simp)]
theorem fl_s2_at (i : Nat) (v : Value) (al : List (Nat × Value)) : mj_ld (mj_s2 i v al) i = some v := by
  unfold mj_ld mj_s2
  rw [List.find?_cons_of_pos (by simp)]
theorem fl_ld_cons {i j : Nat} {v : Value} {al : List (Nat × Value)} (h : i ≠ j) : mj_ld ((i, v) :: al) j = mj_ld al j := by
  unfold mj_ld
  rw [List.find?_cons_of_neg (by simpa using h)]
theorem fl_s1 {ρ : Nat → Int32} {b k : Nat} {lv lv' : fL} {al : List (Nat × Value)} {v : fV} (hl : fLR ρ b lv al) (h2 : ∀ j, fl_get j lv' = if j = k then v else fl_get j lv) (h3 : if k = 0 then fv_1 fF = true else fv_1 (fl_get (k - 1) lv) = true) : fLR ρ b lv' (mj_s1 k (fv ρ b v) al) := by
  intro j
  rw [h2]
  by_cases hj : j = k
  · rw [if_pos hj, hj]
    exact Or.inr (Or.inr (fl_s1_at _ _ _))
  · rw [if_neg hj]
    rcases hl j with h | ⟨h, x, hx⟩ | h
    · exact Or.inl h
    · refine Or.inr (Or.inl ⟨h, x, ?_⟩)
      unfold mj_s1
      rw [fl_ld_cons (by omega)]
      refine fl_find hx ?_
      simp [Value.category]
      omega
    · refine Or.inr (Or.inr ?_)
      unfold mj_s1
      rw [fl_ld_cons (by omega)]
      refine fl_find h ?_
      simp only [Bool.and_eq_true, Bool.not_eq_true', Bool.and_eq_false_iff, beq_eq_false_iff_ne]
      refine ⟨hj, ?_⟩
      by_cases hk : j + 1 = k
      · refine Or.inr ?_
        rw [if_neg (by omega)] at h3
        have e : k - 1 = j := by omega
        rw [e] at h3
        rw [fv_cat.1 h3]
        decide
      · exact Or.inl hk
theorem fl_s2 {ρ : Nat → Int32} {b k : Nat} {lv lv' : fL} {al : List (Nat × Value)} {v : fV} (hl : fLR ρ b lv al) (h2 : ∀ j, fl_get j lv' = if j = k then v else if j = k + 1 then fF else fl_get j lv) (h3 : if k = 0 then fv_1 fF = true else fv_1 (fl_get (k - 1) lv) = true) : fLR ρ b lv' (mj_s2 k (fv ρ b v) al) := by
  intro j
  rw [h2]
  by_cases hj : j = k
  · rw [if_pos hj, hj]
    exact Or.inr (Or.inr (fl_s2_at _ _ _))
  · rw [if_neg hj]
    by_cases hj1 : j = k + 1
    · rw [if_pos hj1]
      exact Or.inl rfl
    · rw [if_neg hj1]
      rcases hl j with h | ⟨h, x, hx⟩ | h
      · exact Or.inl h
      · refine Or.inr (Or.inl ⟨h, x, ?_⟩)
        unfold mj_s2
        rw [fl_ld_cons (by omega)]
        refine fl_find hx ?_
        simp [Value.category]
        omega
      · refine Or.inr (Or.inr ?_)
        unfold mj_s2
        rw [fl_ld_cons (by omega)]
        refine fl_find h ?_
        simp only [Bool.and_eq_true, Bool.not_eq_true', Bool.and_eq_false_iff, beq_eq_false_iff_ne]
        refine ⟨hj, hj1, ?_⟩
        by_cases hk : j + 1 = k
        · refine Or.inr ?_
          rw [if_neg (by omega)] at h3
          have e : k - 1 = j := by omega
          rw [e] at h3
          rw [fv_cat.1 h3]
          decide
        · exact Or.inl hk
theorem fl_rm {ρ : Nat → Int32} {b k : Nat} {lv lv' : fL} {al : List (Nat × Value)} (hl : fLR ρ b lv al) (h2 : ∀ j, fl_get j lv' = if j = k then fF else fl_get j lv) (h3 : if k = 0 then fv_1 fF = true else fv_1 (fl_get (k - 1) lv) = true) : fLR ρ b lv' (mj_rm1 k al) := by
  intro j
  rw [h2]
  by_cases hj : j = k
  · rw [if_pos hj]
    exact Or.inl rfl
  · rw [if_neg hj]
    rcases hl j with h | ⟨h, x, hx⟩ | h
    · exact Or.inl h
    · refine Or.inr (Or.inl ⟨h, x, ?_⟩)
      unfold mj_rm1
      refine fl_find hx ?_
      simp [Value.category]
      omega
    · refine Or.inr (Or.inr ?_)
      unfold mj_rm1
      refine fl_find h ?_
      simp only [Bool.and_eq_true, Bool.not_eq_true', Bool.and_eq_false_iff, beq_eq_false_iff_ne]
      refine ⟨hj, ?_⟩
      by_cases hk : j + 1 = k
      · refine Or.inr ?_
        rw [if_neg (by omega)] at h3
        have e : k - 1 = j := by omega
        rw [e] at h3
        rw [fv_cat.1 h3]
        decide
      · exact Or.inl hk
/-- something is said of it -/
def fv_s (v : fV) : Prop := v ≠ fF ∧ v ≠ fZ
theorem fv_si (n : Nat) : fv_s (Sum.inl n) := ⟨(by intro q; cases q), (by intro q; cases q)⟩
theorem fv_sr (n : Nat) : fv_s (Sum.inr (Sum.inl n)) := ⟨(by intro q; cases q), (by intro q; cases q)⟩
theorem fv_sl (n : Nat) : fv_s (Sum.inr (Sum.inr (Sum.inl n))) := ⟨(by intro q; cases q), (by intro q; cases q)⟩
theorem fv_sk {n : Nat} (h : n ≤ 20) : fv_s (Sum.inr (Sum.inr (Sum.inr n))) := ⟨(by intro q; injection q with q; injection q with q; injection q with q; omega), (by intro q; injection q with q; injection q with q; injection q with q; omega)⟩
theorem fl_ld {ρ : Nat → Int32} {b k : Nat} {lv : fL} {al : List (Nat × Value)} (hl : fLR ρ b lv al) {v : fV} (h : fl_get k lv = v) (hn : fv_s v) : mj_ld al k = some (fv ρ b v) := by
  rcases hl k with q | ⟨q, -⟩ | q
  · exact absurd (h.symm.trans q) hn.1
  · exact absurd (h.symm.trans q) hn.2
  · rw [h] at q
    exact q
