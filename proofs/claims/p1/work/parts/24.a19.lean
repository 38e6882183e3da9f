section MS
variable {p : Program} {l : Launch} {e : Env} {R : Room} {s : State} {m : MethodId} {args : Array Value} {below : List Frame} {meth : Method} {c : Code} {Q : State → Prop} {cc : ByteArray}
variable {D : va_G} {dA : Nat → ClassId} {z nL : Nat}
variable {o μ d : Nat} {ini : Bool} {en : mjE} {pc cs ss : Nat} {lv : List (Nat × Value)} {st : List Value} {h : mjH} {k : mjF → Option mjR} {call : Nat → mjF → Option mjR} {r : Option Value ⊕ Nat} {hr : mjH} {cr sr : Nat}
theorem mj_mu_of_ml {o idx kd μ : Nat} (hk : kd ≤ 2) (h : (mj_ml.any fun x => x.1.1 == o && x.1.2 == idx && x.2.1 == kd && x.2.2.1 == μ) = true) : μ ∈ mj_mu := by
  obtain ⟨p, hl⟩ := mj_ml_get h
  have : kd = 0 ∨ kd = 1 ∨ kd = 2 := by omega
  rcases this with rfl | rfl | rfl
  · simp only [mj_mlc, Bool.and_eq_true, decide_eq_true_eq] at hl; exact hl.1.2
  · simp only [mj_mlc, Bool.and_eq_true, decide_eq_true_eq] at hl; exact hl.1.2
  · simp only [mj_mlc, Bool.and_eq_true, decide_eq_true_eq] at hl; exact hl.1.2
theorem mj_mu_of_nl {o idx kd μ : Nat} (hk : kd = 3 ∨ kd = 4) (h : (mj_nl.any fun x => x.1.1 == o && x.1.2 == idx && x.2.1 == kd && x.2.2.1 == μ) = true) : μ ∈ mj_mu := by
  obtain ⟨p, -, hl⟩ := mj_nl_get h
  rcases hk with rfl | rfl
  · simp only [mj_nlc, Bool.and_eq_true, decide_eq_true_eq] at hl; exact hl.2.1.2
  · simp only [mj_nlc, Bool.and_eq_true, decide_eq_true_eq] at hl; exact hl.2.1.2
theorem mj_ml_ini {o idx μ : Nat} (h : (mj_ml.any fun x => x.1.1 == o && x.1.2 == idx && x.2.1 == 2 && x.2.2.1 == μ) = true) : (mj_m μ).1.name = "<init>" := by
  obtain ⟨p, hl⟩ := mj_ml_get h
  simp only [mj_mlc, Bool.and_eq_true, decide_eq_true_eq] at hl
  exact hl.1.1.2
theorem mj_nl_ini {o idx μ : Nat} (h : (mj_nl.any fun x => x.1.1 == o && x.1.2 == idx && x.2.1 == 4 && x.2.2.1 == μ) = true) : (mj_m μ).1.name = "<init>" := by
  obtain ⟨p, -, hl⟩ := mj_nl_get h
  simp only [mj_nlc, Bool.and_eq_true, decide_eq_true_eq] at hl
  exact hl.2.1.1.2
/-- what is called virtually, or by nest, has no table -/
def mj_hhc (x : (Nat × Nat) × Nat × Nat × Nat) : Bool := x.2.1 == 0 || x.2.1 == 5 || x.2.1 == 6 || (mj_m x.2.2.1).2.2.2.2.1.isEmpty
set_option maxRecDepth 100000 in
theorem mj_hh_ml : mj_ml.all mj_hhc = true := by decide +kernel
set_option maxRecDepth 100000 in
theorem mj_hh_nl : mj_nl.all mj_hhc = true := by decide +kernel
theorem mj_ml_hhV {o idx μ : Nat} (h : (mj_ml.any fun x => x.1.1 == o && x.1.2 == idx && x.2.1 == 1 && x.2.2.1 == μ) = true) : (mj_m μ).2.2.2.2.1 = [] := by
  obtain ⟨⟨⟨o', i'⟩, k', μ', p⟩, hx, hq⟩ := List.any_eq_true.mp h
  simp only [Bool.and_eq_true, beq_iff_eq] at hq
  obtain ⟨⟨⟨rfl, rfl⟩, rfl⟩, rfl⟩ := hq
  have h2 := List.all_eq_true.mp mj_hh_ml _ hx
  exact List.isEmpty_iff.mp h2
theorem mj_nl_hh {o idx μ : Nat} (h : (mj_nl.any fun x => x.1.1 == o && x.1.2 == idx && x.2.1 == 3 && x.2.2.1 == μ) = true) : (mj_m μ).2.2.2.2.1 = [] := by
  obtain ⟨⟨⟨o', i'⟩, k', μ', p⟩, hx, hq⟩ := List.any_eq_true.mp h
  simp only [Bool.and_eq_true, beq_iff_eq] at hq
  obtain ⟨⟨⟨rfl, rfl⟩, rfl⟩, rfl⟩ := hq
  have h2 := List.all_eq_true.mp mj_hh_nl _ hx
  exact List.isEmpty_iff.mp h2
set_option maxHeartbeats 4000000 in
/-- one step, a call with all that it does counted as one -/
theorem mj_go_ok (S : CallFix p m c cc nL s args gw (mj_own o)) (hini : ini = true → meth.name = "<init>") (hKK : mj_KK D dA z s)
    (hCk : ∀ pc' e', mj_at (mj_P μ).2.2.2.1 pc' = some e' → decode cc pc' = .ok (e'.1, mj_len e'.1) ∧ mj_cke o ini nL pc' e' = true)
    (hat : mj_at (mj_P μ).2.2.2.1 pc = some en) (hRf : d + 11 ≤ R.frames) (hRl : 100 * d + 400 ≤ R.locals) (hcr : cr ≤ R.cells) (hsr : sr ≤ R.slots)
    (hcall : ∀ μ' as res, call μ' (0, lv_args 0 as, [], h, 0, 0) = some res → μ' ∈ mj_mu → mj_cat as ≤ mj_mx.getD μ' 0 → mj_Met l D dA z μ' d as h res)
    (hinit : ∀ μ', μ' ∈ mj_mu → (mj_m μ').1.name = "<init>" → (mj_m μ').2.2.2.1 = none ∧ (mj_m μ').2.2.2.2.1 = [])
    (hk : ∀ f', k f' = some (r, hr, cr, sr) → f'.2.2.2.2.1 ≤ cr ∧ f'.2.2.2.2.2 ≤ sr ∧ mj_W p l e R s m args below meth c Q D dA z nL f')
    (hE : ∀ v, mj_end (mj_P μ) en st = some v → r = .inl v → hr = h → cr = cs → sr = ss → mj_W p l e R s m args below meth c Q D dA z nL (pc, lv, st, h, cs, ss))
    (hT : ∀ idx, en.1 = .new idx → en.2.1 ≠ 0 → (mj_P μ).2.2.2.2.isEmpty = true → mj_cat st ≤ 8 → r = .inr en.2.2.1 → hr = h ++ [(99, [])] → cr = cs + 1 → sr = ss + 6 → mj_W p l e R s m args below meth c Q D dA z nL (pc, lv, st, h, cs, ss))
    (hX : ∀ x, r = .inr x → (mj_P μ).2.2.2.2.isEmpty = true → ∀ (H1 : Heap) (locs1 : List Loc) (ls : Array Slot) (rest : List Value) (q : Addr) (E : String) (ce : Cell), mj_exc[x]? = some E → mj_P_ D dA z hr H1 → (∀ q : Nat, q < z → H1[q]? = s.heap[q]?) → (∀ q ∈ locs1, z ≤ q.base) → H1[q]? = some ce → ce.vm = .none → s.vm.findClass E = some ce.cls → vx_W p l e R s m args below meth c H1 locs1 cr sr Q (F0 m pc ls rest) q)
    (hH : ∀ x y E, (mj_P μ).2.2.2.2.find? (fun q => decide (q.1 ≤ pc ∧ pc < q.2.1 ∧ q.2.2.2 = x)) = some y → mj_exc[x]? = some E → ∀ (H1 : Heap) (locs1 : List Loc) (ls : Array Slot) (rest : List Value) (q : Addr) (ce : Cell) (c1 s1 : Nat), H1[q]? = some ce → ce.vm = .none → s.vm.findClass E = some ce.cls → W p l e R s m args below meth c H1 locs1 c1 s1 Q (F0 m y.2.2.1 ls [.ref q]) → vx_W p l e R s m args below meth c H1 locs1 c1 s1 Q (F0 m pc ls rest) q)
    (hg : mj_go mj_P en μ k call (pc, lv, st, h, cs, ss) = some (r, hr, cr, sr)) : mj_W p l e R s m args below meth c Q D dA z nL (pc, lv, st, h, cs, ss) := by
  obtain ⟨hd, hc⟩ := hCk _ _ hat
  obtain ⟨ins, a, b, n⟩ := en
  have hf : ∀ mc ms : Nat, cs + mc ≤ cr ∧ ss + ms ≤ sr → cs + mc ≤ R.cells ∧ ss + ms ≤ R.slots := fun mc ms q => ⟨Nat.le_trans q.1 hcr, Nat.le_trans q.2 hsr⟩
  unfold mj_go at hg
  split at hg
  · rename_i he hs
    have he : ins = _ := he
    have hs : st = _ := hs
    subst he hs
    split at hg
    · rename_i hq
      have hg := Option.some.inj hg
      simp only [mj_ret, Prod.mk.injEq] at hg
      obtain ⟨rfl, rfl, rfl, rfl⟩ := hg
      exact hE none (by simp only [mj_end]; rw [if_pos hq]) rfl rfl rfl rfl
    · cases hg
  · rename_i v he hs
    have he : ins = _ := he
    have hs : st = _ := hs
    subst he hs
    split at hg
    · rename_i ty hty
      split at hg
      · rename_i hq
        have hg := Option.some.inj hg
        simp only [mj_ret, Prod.mk.injEq] at hg
        obtain ⟨rfl, rfl, rfl, rfl⟩ := hg
        exact hE (some (.int v)) (by simp only [mj_end]; rw [hty]; simp only []; rw [if_pos hq]) rfl rfl rfl rfl
      · cases hg
    · cases hg
  · rename_i v he hs
    have he : ins = _ := he
    have hs : st = _ := hs
    subst he hs
    split at hg
    · rename_i hq
      have hg := Option.some.inj hg
      simp only [mj_ret, Prod.mk.injEq] at hg
      obtain ⟨rfl, rfl, rfl, rfl⟩ := hg
      exact hE (some (.long v)) (by simp only [mj_end]; rw [if_pos hq]) rfl rfl rfl rfl
    · cases hg
  · rename_i v he hs
    have he : ins = _ := he
    have hs : st = _ := hs
    subst he hs
    split at hg
    · rename_i hq
      have hg := Option.some.inj hg
      simp only [mj_ret, Prod.mk.injEq] at hg
      obtain ⟨rfl, rfl, rfl, rfl⟩ := hg
      exact hE (some (.float v)) (by simp only [mj_end]; rw [if_pos hq]) rfl rfl rfl rfl
    · cases hg
  · rename_i v he hs
    have he : ins = _ := he
    have hs : st = _ := hs
    subst he hs
    split at hg
    · rename_i hq
      have hg := Option.some.inj hg
      simp only [mj_ret, Prod.mk.injEq] at hg
      obtain ⟨rfl, rfl, rfl, rfl⟩ := hg
      exact hE (some (.double v)) (by simp only [mj_end]; rw [if_pos hq]) rfl rfl rfl rfl
    · cases hg
  · rename_i v he hs
    have he : ins = _ := he
    have hs : st = _ := hs
    subst he hs
    split at hg
    · rename_i hq
      have hg := Option.some.inj hg
      simp only [mj_ret, Prod.mk.injEq] at hg
      obtain ⟨rfl, rfl, rfl, rfl⟩ := hg
      exact hE (some (.ref v)) (by simp only [mj_end]; rw [if_pos hq]) rfl rfl rfl rfl
    · cases hg
  · rename_i he hs
    have he : ins = _ := he
    have hs : st = _ := hs
    subst he hs
    split at hg
    · rename_i hq
      have hg := Option.some.inj hg
      simp only [mj_ret, Prod.mk.injEq] at hg
      obtain ⟨rfl, rfl, rfl, rfl⟩ := hg
      exact hE (some .null) (by simp only [mj_end]; rw [if_pos hq]) rfl rfl rfl rfl
    · cases hg
  · rename_i idx he
    have he : ins = _ := he
    subst he
    split at hg
    · rename_i ha
      have ha : a = 0 := ha
      subst ha
      have hc : ((mj_cl_.any fun x => x.1.1 == o && x.1.2 == idx && x.2.1 == b) && decide (n = mj_N b)) = true := hc
      simp only [Bool.and_eq_true, decide_eq_true_eq] at hc
      obtain ⟨h8, l1, l2, l3⟩ := mj_cl_get hc.1
      have hn := hc.2
      subst hn
      obtain ⟨k1, k2, k3⟩ := hk _ hg
      obtain ⟨g1, g2⟩ := mj_df_ok h8
      exact mo_newo S.1 S.2.1 S.2.2.2.2 (mj_ly_get h8) _ (mj_tys_ok h8) S.2.2.2.1 (S.2.2.2.2 _ l1) (S.2.2.2.2 _ l2) (S.2.2.2.2 _ l3) hKK.1 (mj_cl_at h8) hd (g2 z) g1 (Nat.le_trans k1 hcr) (Nat.le_trans k2 hsr) k3
    · rename_i ha
      split at hg
      · rename_i hq
        have hg := Option.some.inj hg
        simp only [Prod.mk.injEq] at hg
        obtain ⟨g1, g2, g3, g4⟩ := hg
        exact hT idx rfl ha hq.1 hq.2 g1.symm g2.symm g3.symm g4.symm
      · cases hg
  · rename_i idx he
    have he : ins = _ := he
    subst he
    split at hg
    · rename_i ha
      have ha : a = 6 := ha
      subst ha
      split at hg
      · rename_i n0 dp a0 sp b0 st0 hs
        have hs : st = _ := hs
        subst hs
        split at hg
        · cases hg
        · rename_i h1 hh1
          split at hg
          · rename_i hcat
            exact mo_copy S hKK.1 hc hd hcat (Nat.le_trans (Nat.le_add_left 1 (d + 10)) hRf) (Nat.le_trans (Nat.le_trans (by decide) (Nat.le_add_left 400 (100 * d))) hRl) hh1 (hk _ hg).2.2
          · cases hg
      · cases hg
    · rename_i ha
      have ha : ¬ a = 6 := ha
      unfold mj_inv at hg
      split at hg
      · cases hg
      · rename_i hlc
        have hlen := fun q => hlc (Or.inl q)
        have hcat := fun q => hlc (Or.inr (Or.inl q))
        have hmx := Nat.not_lt.mp (fun q => hlc (Or.inr (Or.inr q)))
        by_cases h3 : a = 3
        · subst h3
          have hc : (mj_nl.any fun x => x.1.1 == o && x.1.2 == idx && x.2.1 == 3 && x.2.2.1 == b) = true := hc
          have hμ := mj_mu_of_nl (Or.inl rfl) hc
          refine mj_back_ok S hKK hCk hk hX hH (fun rr hh' hres => ?_) hg
          refine ⟨(((st.take (mj_P b).2.1).reverse).map (mj_v z)).toArray, fun hthr hcs H locs ls a1 a2 a4 => ?_⟩
          obtain ⟨v, rfl⟩ := hthr rfl
          by_cases hh : (mj_m b).2.2.2.2.1 = []
          · exact mj_runSN S hKK (hcall _ _ _ hres hμ hmx) hc rfl hlen hcat hh hRf hRl (hf _ _ hcs) hd a1 a2 a4
          · exact absurd ((mj_nl_hh hc)) hh
        · have hc : (if a = 3 then mj_nl.any fun x => x.1.1 == o && x.1.2 == idx && x.2.1 == 3 && x.2.2.1 == b else if a = 6 then mj_ml.any fun x => x.1.1 == o && x.1.2 == idx && x.2.1 == 6 else (mj_ml.any fun x => x.1.1 == o && x.1.2 == idx && x.2.1 == 0 && x.2.2.1 == b) && decide (a = 0)) = true := hc
          rw [if_neg h3, if_neg ha] at hc
          simp only [Bool.and_eq_true, decide_eq_true_eq] at hc
          obtain ⟨hl, ha0⟩ := hc
          subst ha0
          have hμ := mj_mu_of_ml (by decide) hl
          refine mj_back_ok S hKK hCk hk hX hH (fun rr hh' hres => ?_) hg
          refine ⟨(((st.take (mj_P b).2.1).reverse).map (mj_v z)).toArray, fun hthr hcs H locs ls a1 a2 a4 => ?_⟩
          refine mj_runS S hKK (hcall _ _ _ hres hμ hmx) hl rfl hlen hcat (fun hh => hthr ?_) hRf hRl (hf _ _ hcs) hd a1 a2 a4
          cases hq : (mj_P b).2.2.2.2.isEmpty with
          | true => exact absurd (mj_hh_of hμ hq) hh
          | false => simp only [hq, Bool.and_false]
  · rename_i idx he
    have he : ins = _ := he
    subst he
    have hc : ((mj_ml.any fun x => x.1.1 == o && x.1.2 == idx && x.2.1 == 1 && x.2.2.1 == b) && decide (a = 1) && decide (n < 8) && decide (mj_C n = (mj_m b).1.cls)) = true := hc
    simp only [Bool.and_eq_true, decide_eq_true_eq] at hc
    obtain ⟨⟨⟨hl, ha0⟩, h8⟩, hC⟩ := hc
    subst ha0
    have hμ := mj_mu_of_ml (by decide) hl
    split at hg
    · rename_i b0 hrec
      split at hg
      · rename_i kd vs hb0
        split at hg
        · rename_i hkd
          have hkd : kd = n := hkd
          subst hkd
          unfold mj_inv at hg
          split at hg
          · cases hg
          · rename_i hlc
            have hlen := fun q => hlc (Or.inl q)
            have hcat := fun q => hlc (Or.inr (Or.inl q))
            have hmx := Nat.not_lt.mp (fun q => hlc (Or.inr (Or.inr q)))
            refine mj_back_ok S hKK hCk hk hX hH (fun rr hh' hres => ?_) hg
            refine ⟨(((st.take (mj_P b).2.1).reverse).map (mj_v z)).toArray, fun hthr hcs H locs ls a1 a2 a4 => ?_⟩
            exact mj_runV S hKK (hcall _ _ _ hres hμ hmx) hl rfl hlen hcat (mj_ml_hhV hl) hrec hb0 h8 hC hRf hRl (hf _ _ hcs) hd a1 a2 a4
        · cases hg
      · cases hg
    · cases hg
  · rename_i idx he
    have he : ins = _ := he
    subst he
    split at hg
    · rename_i ha
      have ha : a = 5 := ha
      subst ha
      split at hg
      · rename_i b0 st0 hs
        have hs : st = _ := hs
        subst hs
        split at hg
        · rename_i hcat
          exact mo_objInit S hc hd hcat (Nat.le_trans (Nat.le_add_left 1 (d + 10)) hRf) (Nat.le_trans (Nat.le_trans (by decide) (Nat.le_add_left 400 (100 * d))) hRl) (hk _ hg).2.2
        · cases hg
      · cases hg
    · rename_i ha
      have ha : ¬ a = 5 := ha
      split at hg
      · rename_i b0 hrec
        unfold mj_inv at hg
        split at hg
        · cases hg
        · rename_i hlc
          have hlen := fun q => hlc (Or.inl q)
          have hcat := fun q => hlc (Or.inr (Or.inl q))
          have hmx := Nat.not_lt.mp (fun q => hlc (Or.inr (Or.inr q)))
          by_cases h4 : a = 4
          · subst h4
            have hc : (mj_nl.any fun x => x.1.1 == o && x.1.2 == idx && x.2.1 == 4 && x.2.2.1 == b) = true := hc
            have hμ := mj_mu_of_nl (Or.inr rfl) hc
            refine mj_back_ok S hKK hCk hk hX hH (fun rr hh' hres => ?_) hg
            refine ⟨(((st.take (mj_P b).2.1).reverse).map (mj_v z)).toArray, fun hthr hcs H locs ls a1 a2 a4 => ?_⟩
            obtain ⟨v, rfl⟩ := hthr rfl
            obtain ⟨i1, i2⟩ := hinit b hμ (mj_nl_ini hc)
            exact mj_runIN S hKK (hcall _ _ _ hres hμ hmx) hc rfl hlen hcat i2 i1 hrec hRf hRl (hf _ _ hcs) hd a1 a2 a4
          · have hc : (if a = 4 then mj_nl.any fun x => x.1.1 == o && x.1.2 == idx && x.2.1 == 4 && x.2.2.1 == b else if a = 5 then mj_ml.any fun x => x.1.1 == o && x.1.2 == idx && x.2.1 == 5 else (mj_ml.any fun x => x.1.1 == o && x.1.2 == idx && x.2.1 == 2 && x.2.2.1 == b) && decide (a = 2)) = true := hc
            rw [if_neg h4, if_neg ha] at hc
            simp only [Bool.and_eq_true, decide_eq_true_eq] at hc
            obtain ⟨hl, ha0⟩ := hc
            subst ha0
            have hμ := mj_mu_of_ml (by decide) hl
            refine mj_back_ok S hKK hCk hk hX hH (fun rr hh' hres => ?_) hg
            refine ⟨(((st.take (mj_P b).2.1).reverse).map (mj_v z)).toArray, fun hthr hcs H locs ls a1 a2 a4 => ?_⟩
            obtain ⟨v, rfl⟩ := hthr rfl
            obtain ⟨i1, i2⟩ := hinit b hμ (mj_ml_ini hl)
            exact mj_runI S hKK (hcall _ _ _ hres hμ hmx) hl rfl hlen hcat i2 i1 hrec hRf hRl (hf _ _ hcs) hd a1 a2 a4
      · cases hg
  · split at hg
    · cases hg
    · rename_i f' hf'
      obtain ⟨k1, k2, k3⟩ := hk _ hg
      exact mj_op_ok S.1 S.2.1 S.2.2.2.1 S.2.2.2.2 hini hKK.1 hd hc (Nat.le_trans k1 hcr) (Nat.le_trans k2 hsr) hf' k3
end MS
