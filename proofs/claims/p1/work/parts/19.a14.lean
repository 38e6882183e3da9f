/-! the five forms of call -/
theorem mj_ml_get {o idx kd μ : Nat} (h : (mj_ml.any fun x => x.1.1 == o && x.1.2 == idx && x.2.1 == kd && x.2.2.1 == μ) = true) : ∃ p, mj_mlc ((o, idx), kd, μ, p) = true := by
  obtain ⟨⟨⟨o', i'⟩, k', μ', p⟩, hx, hq⟩ := List.any_eq_true.mp h
  simp only [Bool.and_eq_true, beq_iff_eq] at hq
  obtain ⟨⟨⟨rfl, rfl⟩, rfl⟩, rfl⟩ := hq
  exact ⟨p, List.all_eq_true.mp mj_ml_ok _ hx⟩
theorem mj_nl_get {o idx kd μ : Nat} (h : (mj_nl.any fun x => x.1.1 == o && x.1.2 == idx && x.2.1 == kd && x.2.2.1 == μ) = true) : ∃ p, ((o, idx), kd, μ, p) ∈ mj_nl ∧ mj_nlc ((o, idx), kd, μ, p) = true := by
  obtain ⟨⟨⟨o', i'⟩, k', μ', p⟩, hx, hq⟩ := List.any_eq_true.mp h
  simp only [Bool.and_eq_true, beq_iff_eq] at hq
  obtain ⟨⟨⟨rfl, rfl⟩, rfl⟩, rfl⟩ := hq
  exact ⟨p, hx, List.all_eq_true.mp mj_nl_ok _ hx⟩
theorem mj_ml_sys {o idx kd : Nat} (h : (mj_ml.any fun x => x.1.1 == o && x.1.2 == idx && x.2.1 == kd) = true) : ∃ μ p, mj_mlc ((o, idx), kd, μ, p) = true := by
  obtain ⟨⟨⟨o', i'⟩, k', μ', p⟩, hx, hq⟩ := List.any_eq_true.mp h
  simp only [Bool.and_eq_true, beq_iff_eq] at hq
  obtain ⟨⟨rfl, rfl⟩, rfl⟩ := hq
  exact ⟨μ', p, List.all_eq_true.mp mj_ml_ok _ hx⟩
theorem mj_code_of {t : mjT} (h : t.2.2.2.2.1 = []) : mj_code t = .code t.1 t.2.1 t.2.2.1 t.2.2.2.1 := if_pos h
theorem mj_code_with {t : mjT} (h : t.2.2.2.2.1 ≠ []) : mj_code t = .codeWith t.1 t.2.1 t.2.2.1 t.2.2.2.1 t.2.2.2.2.1 := if_neg h
theorem mj_take_rec {st : List Value} {n : Nat} {v : Value} (hn : ¬ st.length < n) (h1 : 1 ≤ n) (h : st[n - 1]? = some v) : ∃ as', (st.take n).reverse = v :: as' ∧ as'.length + 1 = n ∧ as'.reverse ++ v :: st.drop n = st := by
  obtain ⟨k, rfl⟩ : ∃ k, n = k + 1 := ⟨n - 1, by omega⟩
  have h2 : st[k]? = some v := h
  have h3 : st.take (k + 1) = st.take k ++ [v] := by
    rw [List.take_add_one, h2]; rfl
  refine ⟨(st.take k).reverse, by rw [h3, List.reverse_append]; rfl, by rw [List.length_reverse, List.length_take]; omega, ?_⟩
  rw [List.reverse_reverse]
  have h4 := List.take_append_drop (k + 1) st
  rw [h3, List.append_assoc] at h4
  exact h4
theorem mj_cat_map (z : Nat) (st : List Value) : ((st.map (mj_v z)).map fun v => v.category).sum = mj_cat st := by
  unfold mj_cat
  rw [List.map_map]
  congr 1
  exact List.map_congr_left fun v _ => mj_v_cat z v
theorem mj_room_f {d F : Nat} (h : d + 11 ≤ F) : d + 10 + 1 ≤ F := h
set_option maxRecDepth 4000 in
theorem mj_room_l {x d L : Nat} (h : x ≤ 80) (h2 : 100 * d + 400 ≤ L) : 8 + (x + 11) + (100 * d + 300) ≤ L := by omega
section MD
variable {p : Program} {l : Launch} {e : Env} {R : Room} {s : State} {m : MethodId} {args : Array Value} {below : List Frame} {meth : Method} {c : Code} {Q : State → Prop} {cc : ByteArray}
variable {D : va_G} {dA : Nat → ClassId} {z nL : Nat}
variable {pc o idx μ d n : Nat} {lv : List (Nat × Value)} {st : List Value} {h : mjH} {cs ss : Nat} {r : Option Value ⊕ Nat} {w : mjH × Nat × Nat}
variable {H : Heap} {locs : List Loc} {ls : Array Slot}
/-- what all forms ask -/
theorem mj_preS (hK : mj_KK D dA z s) (a1 : mj_P_ D dA z h H) (a2 : ∀ q : Nat, q < z → H[q]? = s.heap[q]?) (as : List Value) : PreS s H (mj_Pre D dA z as h) (as.map (mj_v z)) :=
  ⟨mj_Pre.blind, fun U hU hW => ⟨rfl, by rw [hU]; exact a1, hK.moved hW (fun q hq => by rw [hU]; exact a2 q hq)⟩⟩
theorem mj_runS (S : CallFix p m c cc nL s args gw (mj_own o)) (hK : mj_KK D dA z s) (hM : mj_Met l D dA z μ d (st.take n).reverse h (r, w)) (hl : (mj_ml.any fun x => x.1.1 == o && x.1.2 == idx && x.2.1 == 0 && x.2.2.1 == μ) = true) (hn : (mj_P μ).2.1 = n) (hlen : ¬ st.length < n) (hcat : ¬ 8 < mj_cat (st.drop n))
    (hthr : (mj_m μ).2.2.2.2.1 ≠ [] → ∃ v, r = .inl v)
    (hRf : d + 11 ≤ R.frames) (hRl : 100 * d + 400 ≤ R.locals) (hf : cs + w.2.1 ≤ R.cells ∧ ss + w.2.2 ≤ R.slots) (hd : decode cc pc = .ok (.invokestatic idx, 3)) (a1 : mj_P_ D dA z h H) (a2 : ∀ q : Nat, q < z → H[q]? = s.heap[q]?) (hsz : ls.size = nL) :
    vx_Run p l e R s m args below meth c H locs cs ss w.2.1 w.2.2 (F0 m pc ls (st.map (mj_v z))) ((st.drop n).map (mj_v z)) (mj_Q D dA z r w.1 (((st.take n).reverse).map (mj_v z)).toArray) (mj_X D dA z r w.1) (fun q => z ≤ q) := by
  obtain ⟨pos, hl⟩ := mj_ml_get hl
  simp only [mj_mlc, Bool.and_eq_true, decide_eq_true_eq] at hl
  obtain ⟨⟨⟨h1, h2⟩, hμ⟩, h4⟩ := hl
  obtain ⟨g1, g2, g3, g4, g5, g6, g7⟩ := mj_mt_get hμ
  rw [hn] at h4
  have hG : GoodIn gw (va_wsS (mj_own o) idx (mj_m μ).1 (mj_code (mj_m μ) :: gw)) := mj_good hμ (fun w hw => by
    simp only [List.mem_cons, List.not_mem_nil, or_false] at hw
    rcases hw with rfl | rfl | rfl
    · exact gk_ok h1
    · exact gk_ok h2
    · exact g5)
  have hlen2 : ((st.take n).reverse.map (mj_v z)).length = n := by rw [List.length_map, List.length_reverse, List.length_take]; exact Nat.min_eq_left (Nat.not_lt.mp hlen)
  have hst : (F0 m pc ls (st.map (mj_v z))).stack = ((st.take n).reverse.map (mj_v z)).reverse ++ (st.drop n).map (mj_v z) := by
    show st.map (mj_v z) = _
    rw [← List.map_reverse, List.reverse_reverse, ← List.map_append, List.take_append_drop]
  have hW8 : (((st.drop n).map (mj_v z)).map fun v => v.category).sum ≤ 8 := by rw [mj_cat_map]; exact Nat.not_lt.mp hcat
  by_cases hh : (mj_m μ).2.2.2.2.1 = []
  · refine vx_runS S hM (va_cwS n S.2.2.2.2 hG (congrArg (· :: gw) (mj_code_of (t := mj_m μ) hh)) rfl rfl ⟨g7.1, g7.2, h4⟩ ⟨?_, ?_⟩) (mj_preS hK a1 a2 _) rfl hlen2 hsz hst (lv_room hW8) hd hf
    · exact mj_room_f hRf
    · exact mj_room_l g1 hRl
  · obtain ⟨v, rfl⟩ := hthr hh
    refine (vx_runSW (hh := (mj_m μ).2.2.2.2.1) S hM.met (vx_cwSW n S.2.2.2.2 hG (congrArg (· :: gw) (mj_code_with (t := mj_m μ) hh)) rfl rfl ⟨g7.1, g7.2, h4⟩ ⟨?_, ?_⟩) (mj_preS hK a1 a2 _) rfl hlen2 hsz hst (lv_room hW8) hd hf).vx
    · exact mj_room_f hRf
    · exact mj_room_l g1 hRl
theorem mj_runV (S : CallFix p m c cc nL s args gw (mj_own o)) (hK : mj_KK D dA z s) (hM : mj_Met l D dA z μ d (st.take n).reverse h (r, w)) (hl : (mj_ml.any fun x => x.1.1 == o && x.1.2 == idx && x.2.1 == 1 && x.2.2.1 == μ) = true) (hn : (mj_P μ).2.1 = n) (hlen : ¬ st.length < n) (hcat : ¬ 8 < mj_cat (st.drop n))
    (hh : (mj_m μ).2.2.2.2.1 = []) {b kd : Nat} {vs : List Value} (hrec : st[n - 1]? = some (.ref b)) (hb : h[b]? = some (kd, vs)) (hk8 : kd < 8) (hkc : mj_C kd = (mj_m μ).1.cls)
    (hRf : d + 11 ≤ R.frames) (hRl : 100 * d + 400 ≤ R.locals) (hf : cs + w.2.1 ≤ R.cells ∧ ss + w.2.2 ≤ R.slots) (hd : decode cc pc = .ok (.invokevirtual idx, 3)) (a1 : mj_P_ D dA z h H) (a2 : ∀ q : Nat, q < z → H[q]? = s.heap[q]?) (hsz : ls.size = nL) :
    vx_Run p l e R s m args below meth c H locs cs ss w.2.1 w.2.2 (F0 m pc ls (st.map (mj_v z))) ((st.drop n).map (mj_v z)) (mj_Q D dA z r w.1 (((st.take n).reverse).map (mj_v z)).toArray) (mj_X D dA z r w.1) (fun q => z ≤ q) := by
  obtain ⟨pos, hl⟩ := mj_ml_get hl
  simp only [mj_mlc, Bool.and_eq_true, decide_eq_true_eq] at hl
  obtain ⟨⟨⟨⟨h1, h2⟩, h3⟩, hμ⟩, h4⟩ := hl
  obtain ⟨g1, g2, g3, g4, g5, g6, g7⟩ := mj_mt_get hμ
  rw [hn] at h4
  have hn1 : 1 ≤ n := by
    cases hq : parseMethodDescriptor (mj_m μ).1.desc with
    | none => rw [hq] at h4; cases h4
    | some q => rw [hq] at h4; exact Option.some.inj h4 ▸ Nat.succ_le_succ (Nat.zero_le _)
  obtain ⟨as', e1, e2, e3⟩ := mj_take_rec hlen hn1 hrec
  have hG : GoodIn gw (wsV (mj_own o) idx (mj_m μ).1.cls (mj_m μ).1 (mj_code (mj_m μ) :: gw)) := mj_good hμ (fun w hw => by
    simp only [List.mem_cons, List.not_mem_nil, or_false] at hw
    rcases hw with rfl | rfl | rfl | rfl
    · exact gk_ok h1
    · exact gk_ok h2
    · exact gk_ok h3
    · exact g5)
  have hst : (F0 m pc ls (st.map (mj_v z))).stack = (as'.map (mj_v z)).reverse ++ .ref (z + b) :: (st.drop n).map (mj_v z) := by
    show st.map (mj_v z) = _
    have h9 := congrArg (List.map (mj_v z)) e3
    rw [List.map_append, List.map_reverse] at h9
    exact h9.symm
  have hW8 : (((st.drop n).map (mj_v z)).map fun v => v.category).sum ≤ 8 := by rw [mj_cat_map]; exact Nat.not_lt.mp hcat
  have hp := mj_preS hK a1 a2 (st.take n).reverse
  rw [e1] at hM hp ⊢
  obtain ⟨-, cell, q1, q2, q3, -⟩ := (a1.2 b _ hb).1 hk8
  have hfc := (hK.1.1.1 kd _ (mj_cl_at hk8)).2.1
  refine vx_runV S hM (cwV (as'.length) S.2.2.2.2 hG (congrArg (· :: gw) (mj_code_of (t := mj_m μ) hh)) rfl rfl ⟨rfl, g7.1, g7.2, ?_⟩ ⟨?_, ?_⟩) ⟨mj_Pre.blind, ⟨cell, q1, by rw [q3]; rfl, by rw [q2, ← hkc]; exact hfc⟩, hp.2⟩ rfl (by rw [List.length_map]) hsz hst (lv_room hW8) hd hf
  · cases hq : parseMethodDescriptor (mj_m μ).1.desc with
    | none => rw [hq] at h4; cases h4
    | some q => rw [hq] at h4; exact congrArg some (Nat.succ.inj ((Option.some.inj h4).trans e2.symm))
  · exact mj_room_f hRf
  · exact mj_room_l g1 hRl
theorem mj_runI (S : CallFix p m c cc nL s args gw (mj_own o)) (hK : mj_KK D dA z s) {v : Option Value} (hM : mj_Met l D dA z μ d (st.take n).reverse h (.inl v, w)) (hl : (mj_ml.any fun x => x.1.1 == o && x.1.2 == idx && x.2.1 == 2 && x.2.2.1 == μ) = true) (hn : (mj_P μ).2.1 = n) (hlen : ¬ st.length < n) (hcat : ¬ 8 < mj_cat (st.drop n))
    (hh : (mj_m μ).2.2.2.2.1 = []) (hret : (mj_m μ).2.2.2.1 = none) {b : Nat} (hrec : st[n - 1]? = some (.ref b))
    (hRf : d + 11 ≤ R.frames) (hRl : 100 * d + 400 ≤ R.locals) (hf : cs + w.2.1 ≤ R.cells ∧ ss + w.2.2 ≤ R.slots) (hd : decode cc pc = .ok (.invokespecial idx, 3)) (a1 : mj_P_ D dA z h H) (a2 : ∀ q : Nat, q < z → H[q]? = s.heap[q]?) (hsz : ls.size = nL) :
    vx_Run p l e R s m args below meth c H locs cs ss w.2.1 w.2.2 (F0 m pc ls (st.map (mj_v z))) ((st.drop n).map (mj_v z)) (mj_Q D dA z (.inl v) w.1 (((st.take n).reverse).map (mj_v z)).toArray) (mj_X D dA z (.inl v) w.1) (fun q => z ≤ q) := by
  obtain ⟨pos, hl⟩ := mj_ml_get hl
  simp only [mj_mlc, Bool.and_eq_true, decide_eq_true_eq] at hl
  obtain ⟨⟨⟨⟨h1, h2⟩, h3⟩, hμ⟩, h4⟩ := hl
  obtain ⟨g1, g2, g3, g4, g5, g6, g7⟩ := mj_mt_get hμ
  rw [hn] at h4
  have hn1 : 1 ≤ n := by
    cases hq : parseMethodDescriptor (mj_m μ).1.desc with
    | none => rw [hq] at h4; cases h4
    | some q => rw [hq] at h4; exact Option.some.inj h4 ▸ Nat.succ_le_succ (Nat.zero_le _)
  obtain ⟨as', e1, e2, e3⟩ := mj_take_rec hlen hn1 hrec
  have hG : GoodIn gw (mj_code (mj_m μ) :: gw) := mj_good (L := []) hμ (fun w hw => nomatch hw)
  have hst : (F0 m pc ls (st.map (mj_v z))).stack = (as'.map (mj_v z)).reverse ++ .ref (z + b) :: (st.drop n).map (mj_v z) := by
    show st.map (mj_v z) = _
    have h9 := congrArg (List.map (mj_v z)) e3
    rw [List.map_append, List.map_reverse] at h9
    exact h9.symm
  have hW8 : (((st.drop n).map (mj_v z)).map fun v => v.category).sum ≤ 8 := by rw [mj_cat_map]; exact Nat.not_lt.mp hcat
  have hp := mj_preS hK a1 a2 (st.take n).reverse
  rw [e1] at hM hp ⊢
  refine (va_runI S hM.met (cwI (as'.length) S.2.2.2.2 hG (congrArg (· :: gw) ((mj_code_of (t := mj_m μ) hh).trans (congrArg (Cond.code (mj_m μ).1 (mj_m μ).2.1 (mj_m μ).2.2.1) hret))) rfl rfl (S.2.2.2.2 _ g5) (S.2.2.2.2 _ (gk_ok h1)) (S.2.2.2.2 _ (gk_ok h2)) h3 ⟨g7.1, g7.2, ?_⟩ ⟨?_, ?_⟩) hp rfl (by rw [List.length_map]) hsz hst (lv_room hW8) hd hf).vx
  · cases hq : parseMethodDescriptor (mj_m μ).1.desc with
    | none => rw [hq] at h4; cases h4
    | some q => rw [hq] at h4; exact congrArg some (Nat.succ.inj ((Option.some.inj h4).trans e2.symm))
  · exact mj_room_f hRf
  · exact mj_room_l g1 hRl
theorem mj_runSN (S : CallFix p m c cc nL s args gw (mj_own o)) (hK : mj_KK D dA z s) {v : Option Value} (hM : mj_Met l D dA z μ d (st.take n).reverse h (.inl v, w)) (hl : (mj_nl.any fun x => x.1.1 == o && x.1.2 == idx && x.2.1 == 3 && x.2.2.1 == μ) = true) (hn : (mj_P μ).2.1 = n) (hlen : ¬ st.length < n) (hcat : ¬ 8 < mj_cat (st.drop n))
    (hh : (mj_m μ).2.2.2.2.1 = [])
    (hRf : d + 11 ≤ R.frames) (hRl : 100 * d + 400 ≤ R.locals) (hf : cs + w.2.1 ≤ R.cells ∧ ss + w.2.2 ≤ R.slots) (hd : decode cc pc = .ok (.invokestatic idx, 3)) (a1 : mj_P_ D dA z h H) (a2 : ∀ q : Nat, q < z → H[q]? = s.heap[q]?) (hsz : ls.size = nL) :
    vx_Run p l e R s m args below meth c H locs cs ss w.2.1 w.2.2 (F0 m pc ls (st.map (mj_v z))) ((st.drop n).map (mj_v z)) (mj_Q D dA z (.inl v) w.1 (((st.take n).reverse).map (mj_v z)).toArray) (mj_X D dA z (.inl v) w.1) (fun q => z ≤ q) := by
  obtain ⟨pos, hmem, hl⟩ := mj_nl_get hl
  have hnw := hK.2.1 _ hmem
  simp only [mj_nw] at hnw
  simp only [mj_nlc, Bool.and_eq_true, decide_eq_true_eq] at hl
  obtain ⟨-, ⟨h2, hμ⟩, h4⟩ := hl
  obtain ⟨g1, g2, g3, g4, g5, g6, g7⟩ := mj_mt_get hμ
  rw [hn] at h4
  have hG : GoodIn gw (mj_code (mj_m μ) :: gw) := mj_good (L := []) hμ (fun w hw => nomatch hw)
  have hlen2 : ((st.take n).reverse.map (mj_v z)).length = n := by rw [List.length_map, List.length_reverse, List.length_take]; exact Nat.min_eq_left (Nat.not_lt.mp hlen)
  have hst : (F0 m pc ls (st.map (mj_v z))).stack = ((st.take n).reverse.map (mj_v z)).reverse ++ (st.drop n).map (mj_v z) := by
    show st.map (mj_v z) = _
    rw [← List.map_reverse, List.reverse_reverse, ← List.map_append, List.take_append_drop]
  have hW8 : (((st.drop n).map (mj_v z)).map fun v => v.category).sum ≤ 8 := by rw [mj_cat_map]; exact Nat.not_lt.mp hcat
  refine (va_runSN (host := RX7) S hM.met ⟨va_cnB n S.2.2.2.2 hG (congrArg (· :: gw) (mj_code_of (t := mj_m μ) hh)) rfl rfl hnw (S.2.2.2.2 _ g5) ⟨g7.1, g7.2, h4⟩ ⟨?_, ?_⟩, S.2.2.2.2 _ (gk_ok h2), trivial⟩ (mj_preS hK a1 a2 _) rfl hlen2 hsz hst (lv_room hW8) hd hf).vx
  · exact mj_room_f hRf
  · exact mj_room_l g1 hRl
theorem mj_runIN (S : CallFix p m c cc nL s args gw (mj_own o)) (hK : mj_KK D dA z s) {v : Option Value} (hM : mj_Met l D dA z μ d (st.take n).reverse h (.inl v, w)) (hl : (mj_nl.any fun x => x.1.1 == o && x.1.2 == idx && x.2.1 == 4 && x.2.2.1 == μ) = true) (hn : (mj_P μ).2.1 = n) (hlen : ¬ st.length < n) (hcat : ¬ 8 < mj_cat (st.drop n))
    (hh : (mj_m μ).2.2.2.2.1 = []) (hret : (mj_m μ).2.2.2.1 = none) {b : Nat} (hrec : st[n - 1]? = some (.ref b))
    (hRf : d + 11 ≤ R.frames) (hRl : 100 * d + 400 ≤ R.locals) (hf : cs + w.2.1 ≤ R.cells ∧ ss + w.2.2 ≤ R.slots) (hd : decode cc pc = .ok (.invokespecial idx, 3)) (a1 : mj_P_ D dA z h H) (a2 : ∀ q : Nat, q < z → H[q]? = s.heap[q]?) (hsz : ls.size = nL) :
    vx_Run p l e R s m args below meth c H locs cs ss w.2.1 w.2.2 (F0 m pc ls (st.map (mj_v z))) ((st.drop n).map (mj_v z)) (mj_Q D dA z (.inl v) w.1 (((st.take n).reverse).map (mj_v z)).toArray) (mj_X D dA z (.inl v) w.1) (fun q => z ≤ q) := by
  obtain ⟨pos, hmem, hl⟩ := mj_nl_get hl
  have hnw := hK.2.1 _ hmem
  simp only [mj_nw] at hnw
  simp only [mj_nlc, Bool.and_eq_true, decide_eq_true_eq] at hl
  obtain ⟨-, ⟨⟨h2, h3⟩, hμ⟩, h4⟩ := hl
  obtain ⟨g1, g2, g3, g4, g5, g6, g7⟩ := mj_mt_get hμ
  rw [hn] at h4
  have hn1 : 1 ≤ n := by
    cases hq : parseMethodDescriptor (mj_m μ).1.desc with
    | none => rw [hq] at h4; cases h4
    | some q => rw [hq] at h4; exact Option.some.inj h4 ▸ Nat.succ_le_succ (Nat.zero_le _)
  obtain ⟨as', e1, e2, e3⟩ := mj_take_rec hlen hn1 hrec
  have hG : GoodIn gw (mj_code (mj_m μ) :: gw) := mj_good (L := []) hμ (fun w hw => nomatch hw)
  have hst : (F0 m pc ls (st.map (mj_v z))).stack = (as'.map (mj_v z)).reverse ++ .ref (z + b) :: (st.drop n).map (mj_v z) := by
    show st.map (mj_v z) = _
    have h9 := congrArg (List.map (mj_v z)) e3
    rw [List.map_append, List.map_reverse] at h9
    exact h9.symm
  have hW8 : (((st.drop n).map (mj_v z)).map fun v => v.category).sum ≤ 8 := by rw [mj_cat_map]; exact Nat.not_lt.mp hcat
  have hp := mj_preS hK a1 a2 (st.take n).reverse
  rw [e1] at hM hp ⊢
  refine (va_runIN (host := RX7) S hM.met ⟨va_cnB (as'.length) S.2.2.2.2 hG (congrArg (· :: gw) ((mj_code_of (t := mj_m μ) hh).trans (congrArg (Cond.code (mj_m μ).1 (mj_m μ).2.1 (mj_m μ).2.2.1) hret))) rfl rfl hnw (S.2.2.2.2 _ g5) ⟨g7.1, g7.2, ?_⟩ ⟨?_, ?_⟩, h3, S.2.2.2.2 _ (gk_ok h2)⟩ hp rfl (by rw [List.length_map]) hsz hst (lv_room hW8) hd hf).vx
  · cases hq : parseMethodDescriptor (mj_m μ).1.desc with
    | none => rw [hq] at h4; cases h4
    | some q => rw [hq] at h4; exact congrArg some (Nat.succ.inj ((Option.some.inj h4).trans e2.symm))
  · exact mj_room_f hRf
  · exact mj_room_l g1 hRl
end MD
