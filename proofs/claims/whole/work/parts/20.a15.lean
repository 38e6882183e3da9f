/-- what a method ends with at a return -/
def mj_end (M : mjM) (e : mjE) (st : List Value) : Option (Option Value) := match e.1, st with
  | .return_, [] => if M.2.2.1 = none then some none else none
  | .ireturn, [.int v] => match M.2.2.1 with
    | some ty => if narrow ty (.int v) = .int v then some (some (.int v)) else none
    | none => none
  | .lreturn, [.long v] => if M.2.2.1 = some .long then some (some (.long v)) else none
  | .freturn, [.float v] => if M.2.2.1 = some .float then some (some (.float v)) else none
  | .dreturn, [.double v] => if M.2.2.1 = some .double then some (some (.double v)) else none
  | .areturn, [.ref v] => if mj_isref M.2.2.1 = true then some (some (.ref v)) else none
  | .areturn, [.null] => if mj_isref M.2.2.1 = true then some (some .null) else none
  | _, _ => none
theorem mj_cpy_len {h h1 : mjH} {b a : Nat} {sp dp n : Int32} (hc : mj_cpy h b sp a dp n = some h1) : ∃ v0 v1 : List Value, h[b]? = some (20, v0) ∧ h[a]? = some (20, v1) ∧ ¬ sp < 0 ∧ ¬ dp < 0 ∧ ¬ n < 0 ∧ sp.toNatClampNeg + n.toNatClampNeg ≤ v0.length ∧ dp.toNatClampNeg + n.toNatClampNeg ≤ v1.length ∧ ((v0.drop sp.toNatClampNeg).take n.toNatClampNeg).all mj_isint = true ∧
    h1 = h.set a (20, v1.take dp.toNatClampNeg ++ (v0.drop sp.toNatClampNeg).take n.toNatClampNeg ++ v1.drop (dp.toNatClampNeg + n.toNatClampNeg)) := by
  unfold mj_cpy at hc
  split at hc
  · rename_i v0 v1 e0 e1
    split at hc
    · cases hc
    · rename_i hq
      cases hc
      simp only [not_or] at hq
      exact ⟨v0, v1, e0, e1, hq.1, hq.2.1, hq.2.2.1, Nat.not_lt.mp hq.2.2.2.1, Nat.not_lt.mp hq.2.2.2.2.1, Decidable.not_not.mp hq.2.2.2.2.2, rfl⟩
  · cases hc
theorem mj_op_mono {e : mjE} {f f' : mjF} (ho : mj_op e f = some f') : f.2.2.2.2.1 ≤ f'.2.2.2.2.1 ∧ f.2.2.2.2.2 ≤ f'.2.2.2.2.2 := by
  unfold mj_op at ho
  simp only [mj_br, mj_get, mj_put, mj_i, mj_new] at ho
  split at ho
  all_goals (repeat' split at ho)
  all_goals first
    | (cases ho; done)
    | (obtain rfl := Option.some.inj ho; exact ⟨Nat.le_refl _, Nat.le_refl _⟩)
    | (obtain rfl := Option.some.inj ho; exact ⟨Nat.le_add_right _ _, Nat.le_add_right _ _⟩)
