/-- a run of the law that ends with 1, in the room -/
def mh_fin (r : Option mjR) : Bool := match r with
  | some (.inl (some (.int 1)), _, cr, sr) => decide (cr ≤ 603072) && decide (sr ≤ 7186538)
  | _ => false
theorem mh_fin_ok {r : Option mjR} (h : mh_fin r = true) : ∃ hr cr sr, cr ≤ 603072 ∧ sr ≤ 7186538 ∧ r = some (.inl (some (.int 1)), hr, cr, sr) := by
  unfold mh_fin at h
  split at h
  · simp only [Bool.and_eq_true, decide_eq_true_eq] at h
    exact ⟨_, _, _, h.1, h.2, rfl⟩
  · cases h
/-- two trials: a script that is too short; points(0) on a fresh object -/
theorem mh_try0 : mh_fin (mh_run 0 4 (fun _ => 0) mj_P 20000 100 (0, [(0, .retAddr 0)], [], [], 0, 0)) = true := by decide +kernel
theorem mh_try8 : mh_fin (mh_run 0 5 (fun j => ([8, 0, 0, 0, 0] : List Int32).getD j 0) mj_P 20000 100 (0, [(0, .retAddr 0)], [], [], 0, 0)) = true := by decide +kernel
