def mj_isin (μ : Nat) : Bool := decide ((mj_m μ).1.name = "<init>")
/-- what is asked of each method, by program -/
def mj_cert (μ : Nat) : Bool := mj_ck (mj_P μ).1 (mj_m μ).2.1 (mj_isin μ) (mj_m μ).2.2.1 0 (mj_P μ).2.2.2.1 && mj_hk (mj_P μ).1 (mj_P μ).2.2.2.2 (mj_m μ).2.2.2.2.1 && decide (mj_mx.getD μ 0 = (mj_m μ).2.2.1) && (!(mj_isin μ) || (decide ((mj_m μ).2.2.2.1 = none) && (mj_m μ).2.2.2.2.1.isEmpty))
theorem mj_cert_get {μ : Nat} (h : mj_cert μ = true) : mj_ck (mj_P μ).1 (mj_m μ).2.1 (mj_isin μ) (mj_m μ).2.2.1 0 (mj_P μ).2.2.2.1 = true ∧ mj_hk (mj_P μ).1 (mj_P μ).2.2.2.2 (mj_m μ).2.2.2.2.1 = true ∧ mj_mx.getD μ 0 = (mj_m μ).2.2.1 ∧ (mj_isin μ = true → (mj_m μ).2.2.2.1 = none ∧ (mj_m μ).2.2.2.2.1 = []) := by
  simp only [mj_cert, Bool.and_eq_true, decide_eq_true_eq, Bool.or_eq_true, Bool.not_eq_true'] at h
  refine ⟨h.1.1.1, h.1.1.2, h.1.2, fun q => ?_⟩
  rcases h.2 with h2 | h2
  · rw [q] at h2; cases h2
  · exact ⟨h2.1, List.isEmpty_iff.mp h2.2⟩
theorem mj_sl_len (z : Nat) : ∀ as : List Value, (lg_sl (as.map (mj_v z))).length = mj_cat as
  | [] => rfl
  | v :: as => by
    have ih := mj_sl_len z as
    unfold lg_sl mj_cat at ih ⊢
    rw [List.map_cons, List.flatMap_cons, List.length_append, ih, List.map_cons, List.sum_cons, mj_v_cat]
    congr 1
    rcases lv_cat v with h | h <;> rw [h] <;> rfl
/-- what is known of a method's frame -/
def mj_Cx (p : Program) (l : Launch) (R : Room) (s : State) (m : MethodId) (args : Array Value) (meth : Method) (c : Code) (D : va_G) (dA : Nat → ClassId) (z μ d cr sr : Nat) : Prop :=
  CallFix p m c (mj_m μ).2.1 (mj_m μ).2.2.1 s args gw (mj_own (mj_P μ).1) ∧ meth.sig.returnType = (mj_P μ).2.2.1 ∧ meth.locks = false ∧ (mj_isin μ = true → meth.name = "<init>") ∧ c.exceptionTable.toList = tableOf (mj_m μ).2.2.2.2.1 ∧ mj_KK D dA z s ∧ d + 10 ≤ R.frames ∧ 100 * d + 300 ≤ R.locals ∧ cr ≤ R.cells ∧ sr ≤ R.slots
def mj_OK (l : Launch) (D : va_G) (dA : Nat → ClassId) (z n : Nat) : Prop := ∀ (d μ : Nat) (f : mjF) (r : Option Value ⊕ Nat) (hr : mjH) (cr sr : Nat), μ ∈ mj_mu → mj_run mj_P n d μ f = some (r, hr, cr, sr) →
  ∀ (p : Program) (e : Env) (R : Room) (s : State) (m : MethodId) (args : Array Value) (below : List Frame) (meth : Method) (c : Code), mj_Cx p l R s m args meth c D dA z μ d cr sr →
    mj_W p l e R s m args below meth c (vx_MQ below (mj_Q D dA z r hr) (mj_X D dA z r hr) args s cr sr (fun q => z ≤ q)) D dA z (mj_m μ).2.2.1 f
theorem mj_met_of {l : Launch} {D : va_G} {dA : Nat → ClassId} {z n d μ : Nat} {as : List Value} {h : mjH} {res : mjR} (hcert : ∀ μ ∈ mj_mu, mj_cert μ = true) (hOK : mj_OK l D dA z n) (hμ : μ ∈ mj_mu) (hcat : mj_cat as ≤ mj_mx.getD μ 0) (hrun : mj_run mj_P n d μ (0, lv_args 0 as, [], h, 0, 0) = some res) : mj_Met l D dA z μ d as h res := by
  obtain ⟨r, hr, cr, sr⟩ := res
  obtain ⟨g1, g2, g3, g4, g5, g6, g7⟩ := mj_mt_get hμ
  obtain ⟨k1, k2, k3, k4⟩ := mj_cert_get (hcert μ hμ)
  unfold mj_Met vx_Met
  refine MetFree.of_bodySF (code := (mj_m μ).2.1) (maxLocals := (mj_m μ).2.2.1) (ret := (mj_m μ).2.2.2.1) g6 ?_ ?_
  · intro args s m hpre hn
    have hw := atoms_spec (ws := mj_code (mj_m μ) :: gw) hpre _ List.mem_cons_self
    by_cases hh : (mj_m μ).2.2.2.2.1 = []
    · rw [mj_code_of (t := mj_m μ) hh] at hw
      obtain ⟨meth, c, h1, h2, h3, h4, h5, h6, -, -⟩ := Cond.code_spec hn hw
      exact ⟨meth, c, h1, h2, h3, h4, h5, h6⟩
    · rw [mj_code_with (t := mj_m μ) hh] at hw
      obtain ⟨m9, meth, c, hn9, h1, h2, h3, h4, -, h5, h6, -⟩ := Cond.codeWith_spec hw
      cases hn.symm.trans hn9
      exact ⟨meth, c, h1, h2, h3, h4, h5, h6⟩
  · intro p e s m args below meth c s₁ B hml hP _
    obtain ⟨rfl, hPm, hKK⟩ := hP
    have hh0 : s₁.heap = s.heap := by rw [B.state]; rfl
    have hts : ∀ w ∈ mj_code (mj_m μ) :: gw, w.before (as.map (mj_v z)).toArray s = true := atoms_spec (ws := mj_code (mj_m μ) :: gw) B.pre
    have htab : c.exceptionTable.toList = tableOf (mj_m μ).2.2.2.2.1 := by
      have hw := hts _ List.mem_cons_self
      by_cases hh : (mj_m μ).2.2.2.2.1 = []
      · rw [mj_code_of (t := mj_m μ) hh] at hw
        obtain ⟨meth9, c9, h1, h2, -, -, -, -, h7, -⟩ := Cond.code_spec B.named hw
        cases Option.some.inj (h1.symm.trans B.method)
        cases Option.some.inj (h2.symm.trans (Stand.of_body B).code)
        rw [Array.isEmpty_iff.mp h7, hh]
        rfl
      · rw [mj_code_with (t := mj_m μ) hh] at hw
        exact vx_table (p := p) (x := (mj_m μ).1) B hw
    have hown : s.vm.findClass (mj_own (mj_P μ).1) = some m.cls := by
      rw [← g4]
      exact findClass_of_methodNamed B.named
    have hcx : mj_Cx p l (mj_rm d cr sr) s m (as.map (mj_v z)).toArray meth c D dA z μ d cr sr :=
      ⟨⟨B.exec, B.bytes, hml, hown, fun w hw => hts w (List.mem_cons_of_mem _ hw)⟩, B.returns.trans g3.symm, B.notSynchronized, fun q => (name_of_methodNamed B.named B.method).1.trans (of_decide_eq_true q), htab, hKK, Nat.le_refl _, Nat.le_refl _, Nat.le_refl _, Nat.le_refl _⟩
    have hl := lv_entry (as.map (mj_v z)) (n := (mj_m μ).2.2.1) (by rw [mj_sl_len, ← k3]; exact hcat)
    have K := hOK d μ _ r hr cr sr hμ hrun p e (mj_rm d cr sr) s m _ below meth c hcx s.heap [] _ hPm (fun q _ => rfl) (fun q hq => nomatch hq) (by rw [mj_args_map]; exact hl)
    rw [lg_entry_eq]
    obtain ⟨t, a1, o, b1, b2, b3⟩ := K s₁ hh0 (Stand.of_body B)
    exact ⟨t, o, a1, b1, b2, b3⟩
theorem mj_all {l : Launch} (hl : l.stackTraces = false) {D : va_G} {dA : Nat → ClassId} {z : Nat} (hcert : ∀ μ ∈ mj_mu, mj_cert μ = true) : ∀ n, mj_OK l D dA z n
  | 0 => fun d μ f r hr cr sr hμ h => by cases h
  | n + 1 => fun d μ f r hr cr sr hμ h p e R s m args below meth c hcx => by
    have ih := mj_all hl (D := D) (dA := dA) (z := z) hcert n
    obtain ⟨k1, k2, k3, k4⟩ := mj_cert_get (hcert μ hμ)
    obtain ⟨S, hret, hlocks, hini, htab, hKK, hF, hL, hC, hS⟩ := id hcx
    cases d with
    | zero => cases h
    | succ d =>
      simp only [mj_run] at h
      split at h
      · cases h
      · rename_i en hen
        obtain ⟨pc, lv, st, hp, cs, ss⟩ := f
        have hCk : ∀ pc' e', mj_at (mj_P μ).2.2.2.1 pc' = some e' → (decode (mj_m μ).2.1 pc' = .ok (e'.1, mj_len e'.1) ∧ mj_cke (mj_P μ).1 (mj_isin μ) (mj_m μ).2.2.1 pc' e' = true) ∧ mj_ckx (mj_P μ).1 (mj_m μ).2.1 pc' e' = true := fun pc' e' q => mj_ck_ok k1 q
        refine mj_go_ok (o := (mj_P μ).1) (μ := μ) (d := d) (ini := mj_isin μ) (en := en) (cc := (mj_m μ).2.1) S hini hKK (fun pc' e' q => (hCk pc' e' q).1) hen (by omega) (by omega) hC hS ?_ ?_ ?_ ?_ ?_ ?_ ?_ h
        · exact fun μ' as res hq hμ' hcat => mj_met_of hcert ih hμ' hcat hq
        · exact fun μ' hμ' hn => (mj_cert_get (hcert μ' hμ')).2.2.2 (decide_eq_true hn)
        · intro f' hf'
          have hm := mj_run_mono n (d + 1) μ f' _ hf'
          exact ⟨hm.1, hm.2, ih (d + 1) μ f' r hr cr sr hμ hf' p e R s m args below meth c hcx⟩
        · intro v hv e1 e2 e3 e4
          subst e1 e2 e3 e4
          exact mj_ret_ok S.1 S.2.1 hret hlocks (hCk _ _ hen).1.1 hv
        · intro idx e0 ha hemp hcat e1 e2 e3 e4
          subst e1 e2 e3 e4
          obtain ⟨ins, a, b, nn⟩ := en
          have e0 : ins = _ := e0
          subst e0
          refine mj_thr_ok (o := (mj_P μ).1) S hl hKK hlocks (fun x hx => ?_) ha (hCk _ _ hen).2 (hCk _ _ hen).1.1 hcat (by omega) (by omega) hC hS
          rw [htab, mj_hh_of hμ hemp] at hx
          cases hx
        · intro x e1 hemp H1 locs1 ls rest q E ce hE hP hF1 hL1 hce hcv hcl
          refine vx_out (E := E) (ce := ce) (fun y hy => ?_) hlocks hce hcv hcl (fun t ht hA => ⟨⟨x, e1, hE⟩, by rw [ht]; exact hP, fun q hq => by rw [ht]; exact hF1 q hq⟩) hL1 (Nat.le_refl _) (Nat.le_refl _)
          rw [htab, mj_hh_of hμ hemp] at hy
          cases hy
        · intro x y E hf hE H1 locs1 ls rest q ce c1 s1 hce hcv hcl kk
          exact mj_hand_ok S hKK htab k2 hf hE hce hcv hcl kk
