theorem mj_fl_get {o idx ci k : Nat} (h : (mj_fl.any fun x => x.1.1 == o && x.1.2 == idx && x.2.1 == ci && x.2.2.1 == k) = true) : ci < 8 ∧ k < mj_N ci ∧ Cond.fieldLink (mj_own o) idx (mj_T ci k).1 (mj_T ci k).2.1 (mj_T ci k).2.2.1 ∈ gw := by
  obtain ⟨⟨⟨o', i'⟩, ci', k', p⟩, hx, hq⟩ := List.any_eq_true.mp h
  simp only [Bool.and_eq_true, beq_iff_eq] at hq
  obtain ⟨⟨⟨rfl, rfl⟩, rfl⟩, rfl⟩ := hq
  have h2 := List.all_eq_true.mp mj_fl_ok _ hx
  simp only [mj_flc, Bool.and_eq_true, decide_eq_true_eq] at h2
  exact ⟨h2.1.1, h2.1.2, gk_ok h2.2⟩
theorem mj_ly_get {ci : Nat} (h : ci < 8) : ∀ w ∈ u_ws (mj_C ci) (mj_T ci) (mj_N ci), w ∈ gw := by
  intro w hw
  obtain ⟨k, hk, rfl⟩ := List.mem_map.mp hw
  have h2 := List.all_eq_true.mp mj_ly_ok ci (List.mem_range.mpr h)
  exact gk_ok (List.all_eq_true.mp h2 k hk)
theorem mj_kl_get {o idx a : Nat} (h : (mj_kl.any fun x => x.1.1 == o && x.1.2 == idx && x.2.1 == 0 && x.2.2.1 == a) = true) : Cond.constant (mj_own o) idx (Int32.ofNat a) ∈ gw := by
  obtain ⟨⟨⟨o', i'⟩, t, v, p⟩, hx, hq⟩ := List.any_eq_true.mp h
  simp only [Bool.and_eq_true, beq_iff_eq] at hq
  obtain ⟨⟨⟨rfl, rfl⟩, rfl⟩, rfl⟩ := hq
  have h2 := List.all_eq_true.mp mj_kl_ok _ hx
  unfold mj_klc at h2
  rw [if_pos rfl] at h2
  exact gk_ok h2
theorem mj_kl_getL {o idx a : Nat} (h : (mj_kl.any fun x => x.1.1 == o && x.1.2 == idx && x.2.1 != 0 && x.2.2.1 == a) = true) : Cond.constantLong (mj_own o) idx (Int64.ofNat a) ∈ gw := by
  obtain ⟨⟨⟨o', i'⟩, t, v, p⟩, hx, hq⟩ := List.any_eq_true.mp h
  simp only [Bool.and_eq_true, beq_iff_eq, bne_iff_ne, ne_eq] at hq
  obtain ⟨⟨⟨rfl, rfl⟩, ht⟩, rfl⟩ := hq
  have h2 := List.all_eq_true.mp mj_kl_ok _ hx
  unfold mj_klc at h2
  rw [if_neg ht] at h2
  exact gk_ok h2
theorem mj_ac_get {t : ArrayType} (h : (mj_ac.any fun x => decide (x.1 = t)) = true) : Cond.arrayClass (newarray.typeOf t) ∈ gw := by
  obtain ⟨⟨t', p⟩, hx, hq⟩ := List.any_eq_true.mp h
  have hq : t' = t := of_decide_eq_true hq
  subst hq
  exact gk_ok (List.all_eq_true.mp mj_ac_ok _ hx)
theorem mj_al_get {o idx t : Nat} (h : (mj_al.any fun x => x.1.1 == o && x.1.2 == idx && x.2.1 == t) = true) : 25 ≤ t ∧ t < 30 ∧ Cond.classLink (mj_own o) idx (mj_an t) ∈ gw := by
  obtain ⟨⟨⟨o', i'⟩, t', p⟩, hx, hq⟩ := List.any_eq_true.mp h
  simp only [Bool.and_eq_true, beq_iff_eq] at hq
  obtain ⟨⟨rfl, rfl⟩, rfl⟩ := hq
  have h2 := List.all_eq_true.mp mj_al_ok _ hx
  simp only [mj_alc, Bool.and_eq_true, decide_eq_true_eq] at h2
  exact ⟨h2.1.1, h2.1.2, gk_ok h2.2⟩
theorem mj_cl_get {o idx ci : Nat} (h : (mj_cl_.any fun x => x.1.1 == o && x.1.2 == idx && x.2.1 == ci) = true) : ci < 8 ∧ Cond.classLink (mj_own o) idx (mj_C ci) ∈ gw ∧ Cond.instantiable (mj_C ci) (mj_N ci) ∈ gw ∧ Cond.initialized (mj_C ci) ∈ gw := by
  obtain ⟨⟨⟨o', i'⟩, ci', p, p2⟩, hx, hq⟩ := List.any_eq_true.mp h
  simp only [Bool.and_eq_true, beq_iff_eq] at hq
  obtain ⟨⟨rfl, rfl⟩, rfl⟩ := hq
  have h2 := List.all_eq_true.mp mj_cl_ok _ hx
  simp only [mj_clc, Bool.and_eq_true, decide_eq_true_eq] at h2
  exact ⟨h2.1.1.1, gk_ok h2.1.1.2, gk_ok h2.1.2, gk_ok h2.2⟩
theorem mj_ae_get {t k : Nat} (h : (mj_ae.any fun x => x.1 == t && x.2 == k) = true) : (∃ C T N, mj_cl[k]? = some (C, T, N) ∧ mj_ty t = .object C ∧ 20 ≤ t ∧ t < 30) ∨ (k = 20 ∧ t = 29) := by
  obtain ⟨⟨t', k'⟩, hx, hq⟩ := List.any_eq_true.mp h
  simp only [Bool.and_eq_true, beq_iff_eq] at hq
  obtain ⟨rfl, rfl⟩ := hq
  simp only [mj_ae, List.mem_cons, Prod.mk.injEq, List.not_mem_nil, or_false] at hx
  rcases hx with ⟨rfl, rfl⟩ | ⟨rfl, rfl⟩ | ⟨rfl, rfl⟩ | ⟨rfl, rfl⟩ | ⟨rfl, rfl⟩
  · exact Or.inl ⟨_, _, _, rfl, rfl, by decide, by decide⟩
  · exact Or.inl ⟨_, _, _, rfl, rfl, by decide, by decide⟩
  · exact Or.inl ⟨_, _, _, rfl, rfl, by decide, by decide⟩
  · exact Or.inl ⟨_, _, _, rfl, rfl, by decide, by decide⟩
  · exact Or.inr ⟨rfl, rfl⟩
theorem mj_fit_ok {ci k n z : Nat} {v : Value} (h1 : mj_fk ci k n = true) (h2 : mj_fit n v = true) : narrow (mj_tys ci k) (mj_v z v) = mj_v z v ∧ fits (mj_tys ci k) (mj_v z v) = true := by
  match n, h1 with
  | 0, h1 =>
    have h3 : mj_tys ci k = .int := of_decide_eq_true h1
    rw [h3]
    cases v <;> simp [mj_fit] at h2 ⊢
    exact ⟨rfl, rfl⟩
  | 1, h1 =>
    simp only [mj_fk] at h1
    split at h1
    · rename_i C hC
      rw [hC]
      cases v <;> simp [mj_fit] at h2 ⊢ <;> exact ⟨rfl, rfl⟩
    · rename_i C hC
      rw [hC]
      cases v <;> simp [mj_fit] at h2 ⊢ <;> exact ⟨rfl, rfl⟩
    · cases h1
  | n + 2, h1 => simp [mj_fk] at h1
theorem mj_an_ok {t : Nat} (h1 : 25 ≤ t) (h2 : t < 29) : mj_ty t = .object (mj_an t) ∧ FieldType.object (mj_an t) ∈ mj_AOs := by
  have : t = 25 ∨ t = 26 ∨ t = 27 ∨ t = 28 := by omega
  rcases this with rfl | rfl | rfl | rfl <;> exact ⟨rfl, by simp [mj_AOs, mj_an]⟩
