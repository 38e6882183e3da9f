/-- what a method ends with at a return -/
def mj_end (M : mjM) (e : mjE) (st : List Value) : Option (Option Value) := match e.1, st with
  | .return_, [] => if M.2.2.1 = none then some none else none
  | .ireturn, [.int v] => match M.2.2.1 with
    | some ty => if narrow ty (.int v) = .int v then some (some (.int v)) else none
    | none => none
  | .lreturn, [.long v] => if M.2.2.1 = some .long then some (some (.long v)) else none
  | .freturn, [.float v] => if M.2.2.1 = some .float then some (some (.float v)) else none
  | .dreturn, [.double v] => if M.2.2.1 = some .double then some (some (.double v)) else none
  | .areturn, [.ref v] => if mj_isref M.2.2.1 = true then some (some (.ref v)) else none
  | .areturn, [.null] => if mj_isref M.2.2.1 = true then some (some .null) else none
  | _, _ => none
theorem mj_op_mono {e : mjE} {f f' : mjF} (ho : mj_op e f = some f') : f.2.2.2.2.1 ≤ f'.2.2.2.2.1 ∧ f.2.2.2.2.2 ≤ f'.2.2.2.2.2 := by
  unfold mj_op at ho
  simp only [mj_br, mj_get, mj_put, mj_i, mj_new] at ho
  split at ho
  all_goals (repeat' split at ho)
  all_goals first
    | (cases ho; done)
    | (obtain rfl := Option.some.inj ho; exact ⟨Nat.le_refl _, Nat.le_refl _⟩)
    | (obtain rfl := Option.some.inj ho; exact ⟨Nat.le_add_right _ _, Nat.le_add_right _ _⟩)
