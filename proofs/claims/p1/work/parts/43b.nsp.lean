theorem mq_dflt {P : Nat → mjM} {e : mjE} {μ : Nat} {k : mjF → Option mjR} {call : Nat → mjF → Option mjR} {g g' : mjF} (h : mj_go P e μ k call g = (match mj_op e g with | none => none | some f'' => k f'')) (hg : mj_op e g = some g') : mj_go P e μ k call g = k g' := by
  rw [h, hg]
theorem mq_nsp {P : Nat → mjM} {e : mjE} {μ : Nat} {k : mjF → Option mjR} {call : Nat → mjF → Option mjR} {f f' : mjF} (ho : mj_op e f = some f') : mj_go P e μ k call f = k f' := by
  have hg := ho
  obtain ⟨ins, a, b, n⟩ := e
  unfold mj_op at ho
  split at ho
  all_goals first
    | (cases ho; done)
    | (rename_i h1 h2; have h1 : ins = _ := h1; subst h1; exact mq_dflt rfl hg)
    | (rename_i h1; have h1 : ins = _ := h1; subst h1; exact mq_dflt rfl hg)
