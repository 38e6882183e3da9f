/-- exceptions made in the class: the index of new, of <init>, and which -/
def mj_xt : List (Nat × Nat × Nat) := [(85, 87, 2), (106, 108, 3), (139, 141, 4), (244, 246, 1), (267, 269, 0), (361, 363, 5)]
/-- words of the tables that stay, but aren't among the good ones -/
def mj_isng (w : Cond) : Bool := match w with
  | .declares _ => true
  | .castable _ _ => true
  | _ => false
def mj_ngs : List Cond := lw_tbl.filter mj_isng
def mj_en (E : Nat) : String := mj_exc.getD E ""
def mj_xw (x : Nat × Nat × Nat) : List Cond := .classLink RX7 x.1 (mj_en x.2.2) :: .initialized (mj_en x.2.2) :: vx_at0 RX7 x.2.1 (mj_en x.2.2) ["java/lang/RuntimeException", "java/lang/Exception"]
def mj_xc (x : Nat × Nat × Nat) : Bool := (mj_xw x).all fun w => decide (w ∈ lw_tbl) && vx_ot w && (goodWord w || mj_isng w)
set_option maxRecDepth 100000 in
theorem mj_xt_0 : mj_xc (85, 87, 2) = true := by decide +kernel
set_option maxRecDepth 100000 in
theorem mj_xt_1 : mj_xc (106, 108, 3) = true := by decide +kernel
set_option maxRecDepth 100000 in
theorem mj_xt_2 : mj_xc (139, 141, 4) = true := by decide +kernel
set_option maxRecDepth 100000 in
theorem mj_xt_3 : mj_xc (244, 246, 1) = true := by decide +kernel
set_option maxRecDepth 100000 in
theorem mj_xt_4 : mj_xc (267, 269, 0) = true := by decide +kernel
set_option maxRecDepth 100000 in
theorem mj_xt_5 : mj_xc (361, 363, 5) = true := by decide +kernel
theorem mj_xt_fit {x : Nat × Nat × Nat} (h : x ∈ mj_xt) : mj_xc x = true ∧ Bundle.fit (mj_en x.2.2) = true ∧ mj_exc[x.2.2]? = some (mj_en x.2.2) := by
  simp only [mj_xt, List.mem_cons, List.not_mem_nil, or_false] at h
  rcases h with rfl | rfl | rfl | rfl | rfl | rfl
  · exact ⟨mj_xt_0, by decide +kernel, rfl⟩
  · exact ⟨mj_xt_1, by decide +kernel, rfl⟩
  · exact ⟨mj_xt_2, by decide +kernel, rfl⟩
  · exact ⟨mj_xt_3, by decide +kernel, rfl⟩
  · exact ⟨mj_xt_4, by decide +kernel, rfl⟩
  · exact ⟨mj_xt_5, by decide +kernel, rfl⟩
theorem mj_xt_names : ∀ n ∈ ["java/lang/RuntimeException", "java/lang/Exception"], Bundle.fit n = true := by decide +kernel
