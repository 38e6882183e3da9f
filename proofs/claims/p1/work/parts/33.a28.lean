/-! WHAT HOLDS AT THE LAW'S ENTRY -/
theorem mj_inst_ok : (List.range 8).all (fun ci => mj_cl_.any fun x => x.2.1 == ci) = true := by decide +kernel
theorem mj_inst {ci : Nat} (h : ci < 8) : Cond.instantiable (mj_C ci) (mj_N ci) ∈ gw := by
  obtain ⟨⟨⟨o, i⟩, ci', q⟩, hx, he⟩ := List.any_eq_true.mp (List.all_eq_true.mp mj_inst_ok ci (List.mem_range.mpr h))
  have he : ci' = ci := by simpa using he
  subst he
  have h2 := List.all_eq_true.mp mj_cl_ok _ hx
  simp only [mj_clc, Bool.and_eq_true] at h2
  exact gk_ok h2.1.2
theorem mj_cl_at2 {c : Nat} {q : vw_C} (h : mj_cl[c]? = some q) : c < 8 ∧ q = (mj_C c, mj_T c, mj_N c) := by
  match c, h with
  | 0, h => cases h; exact ⟨by decide, rfl⟩
  | 1, h => cases h; exact ⟨by decide, rfl⟩
  | 2, h => cases h; exact ⟨by decide, rfl⟩
  | 3, h => cases h; exact ⟨by decide, rfl⟩
  | 4, h => cases h; exact ⟨by decide, rfl⟩
  | 5, h => cases h; exact ⟨by decide, rfl⟩
  | 6, h => cases h; exact ⟨by decide, rfl⟩
  | 7, h => cases h; exact ⟨by decide, rfl⟩
  | c + 8, h => simp [mj_cl] at h
theorem mj_arr1 {args : Array Value} {s : State} {ty : FieldType} (h : (Cond.arrayClass ty).before args s = true) : ∃ c, ArrOfT s c ty ∧ s.vm.findClass ("[" ++ ty.toString) = some c ∧ ∃ k, s.vm.classes[c]? = some k := by
  obtain ⟨c, k, comp, h1, h2, h3⟩ := Cond.arrayClass_spec h
  exact ⟨c, fun n z => ⟨(fun k h => by cases h), k, h2, comp, h3⟩, h1, k, h2⟩
theorem mj_arr2 {args : Array Value} {s : State} {C : String} (h : (Cond.arrayOver (.object C)).before args s = true) : ∃ c, ArrOfT s c (.object C) ∧ va_RA s c (.object C) := by
  obtain ⟨comp, c, k, h1, -, h3, h4, h5⟩ := Cond.arrayOver_spec h
  exact ⟨c, fun n z => ⟨(fun k h => by cases h), k, h3, comp, h4⟩, k, comp, h3, h4, h1, h5⟩
theorem mj_ofInt (x : Int32) : Int32.ofNat x.toBitVec.toNat = x := by
  apply Int32.toBitVec_inj.mp
  simp
theorem mj_arr3 {args : Array Value} {s : State} (h : (Cond.arrayOver (.array .int)).before args s = true) : ∃ c comp k, s.vm.findClass (FieldType.array .int).toString = some comp ∧ s.vm.classes[c]? = some k ∧ k.kind = .array comp (.array .int) ∧ s.vm.findClass ("[" ++ (FieldType.array .int).toString) = some c := by
  unfold Cond.before at h
  simp only [Cond.holds, Cond.value, beq_iff_eq] at h
  cases hf : s.vm.findClass (FieldType.array .int).toString with
  | none => simp [hf] at h
  | some comp =>
    simp only [hf, Option.bind_some, Option.bind_eq_some_iff, Option.map_eq_some_iff] at h
    obtain ⟨c, hi, k, hk, hq⟩ := h
    have hp := (Array.findIdx?_eq_some_iff_getElem.mp hi).2.1
    have hkk := (Array.getElem?_eq_some_iff.mp hk).2
    rw [hkk] at hp
    cases hd : k.kind with
    | array u ty =>
      rw [hd] at hp hq
      simp at hp hq
      exact ⟨c, comp, k, rfl, hk, by rw [hd, hp, hq.1], hq.2⟩
    | _ => rw [hd] at hq; simp at hq
def mj_start_ws : List Cond := [.arrayClass .int, .arrayClass .long, .arrayClass .char, .arrayClass .boolean, .arrayClass .double, .arrayOver (.object RX1), .arrayOver (.object RX3), .arrayOver (.object RX4), .arrayOver (.object RX5), .arrayOver (.array .int),
  .laysStatic Bundle.tN "UNASSIGNED_STACK" Bundle.steD, .laysStatic Bundle.tN "SUPPRESSED_SENTINEL" Bundle.listD, .initialized Bundle.tN]
theorem mj_start_in : mj_start_ws.all (fun w => decide (w ∈ lw_tbl)) = true := by decide +kernel
theorem mj_start_w {w : Cond} (h : w ∈ mj_start_ws) : w ∈ lw_tbl := of_decide_eq_true (List.all_eq_true.mp mj_start_in w h)
theorem mj_arrs {s : State} {b : Nat} (hts : ∀ w ∈ lw_tbl, w.before #[Value.ref b] s = true) : ∃ g : Nat → ClassId, (∀ k : Nat, 20 ≤ k → k < 30 → ArrOfT s (g k) (mj_ty k) ∧ va_RA s (g k) (mj_ty k)) ∧ (∃ kA kB : Class, s.vm.classes[g 29]? = some kA ∧ kA.kind = .array (g 20) (.array .int) ∧ s.vm.classes[g 20]? = some kB) := by
  have w : ∀ c ∈ mj_start_ws, c.before #[Value.ref b] s = true := fun c h => hts c (mj_start_w h)
  obtain ⟨c0, a0, b0, k0, e0⟩ := mj_arr1 (w (.arrayClass .int) (by simp [mj_start_ws]))
  obtain ⟨c1, a1, b1, -⟩ := mj_arr1 (w (.arrayClass .long) (by simp [mj_start_ws]))
  obtain ⟨c2, a2, b2, -⟩ := mj_arr1 (w (.arrayClass .char) (by simp [mj_start_ws]))
  obtain ⟨c3, a3, b3, -⟩ := mj_arr1 (w (.arrayClass .boolean) (by simp [mj_start_ws]))
  obtain ⟨c4, a4, b4, -⟩ := mj_arr1 (w (.arrayClass .double) (by simp [mj_start_ws]))
  obtain ⟨c5, a5, b5⟩ := mj_arr2 (w (.arrayOver (.object RX1)) (by simp [mj_start_ws]))
  obtain ⟨c6, a6, b6⟩ := mj_arr2 (w (.arrayOver (.object RX3)) (by simp [mj_start_ws]))
  obtain ⟨c7, a7, b7⟩ := mj_arr2 (w (.arrayOver (.object RX4)) (by simp [mj_start_ws]))
  obtain ⟨c8, a8, b8⟩ := mj_arr2 (w (.arrayOver (.object RX5)) (by simp [mj_start_ws]))
  obtain ⟨c9, comp, k9, f1, f2, f3, f4⟩ := mj_arr3 (w (.arrayOver (.array .int)) (by simp [mj_start_ws]))
  have hc : comp = c0 := Option.some.inj (f1.symm.trans b0)
  subst hc
  refine ⟨fun k => if k = 20 then comp else if k = 21 then c1 else if k = 22 then c2 else if k = 23 then c3 else if k = 24 then c4 else if k = 25 then c5 else if k = 26 then c6 else if k = 27 then c7 else if k = 28 then c8 else c9, fun k h1 h2 => ?_, k9, k0, f2, f3, e0⟩
  have : k = 20 ∨ k = 21 ∨ k = 22 ∨ k = 23 ∨ k = 24 ∨ k = 25 ∨ k = 26 ∨ k = 27 ∨ k = 28 ∨ k = 29 := by omega
  rcases this with rfl | rfl | rfl | rfl | rfl | rfl | rfl | rfl | rfl | rfl
  · exact ⟨a0, b0⟩
  · exact ⟨a1, b1⟩
  · exact ⟨a2, b2⟩
  · exact ⟨a3, b3⟩
  · exact ⟨a4, b4⟩
  · exact ⟨a5, b5⟩
  · exact ⟨a6, b6⟩
  · exact ⟨a7, b7⟩
  · exact ⟨a8, b8⟩
  · exact ⟨fun n z => ⟨(fun k h => by cases h), k9, f2, comp, f3⟩, f4⟩
theorem mj_cls {s : State} {b : Nat} (hts : ∀ w ∈ lw_tbl, w.before #[Value.ref b] s = true) : ∃ D : va_G, va_K D mj_cl [] s := by
  have h1 : ∀ ci : Nat, ∃ q : ClassId × (Nat → Nat), ci < 8 → u_Kn s (mj_C ci) (mj_T ci) (mj_N ci) q.1 q.2 := by
    intro ci
    by_cases h : ci < 8
    · obtain ⟨cC, iS, hk⟩ := u_known (n := mj_N ci) (fun w hw => hts w (List.mem_filter.mp hw).1) (mj_ly_get h) (hts _ (List.mem_filter.mp (mj_inst h)).1)
      exact ⟨(cC, iS), fun _ => hk⟩
    · exact ⟨(0, fun _ => 0), fun q => absurd q h⟩
  refine ⟨(fun c => (Classical.choose (h1 c)).1, fun c => (Classical.choose (h1 c)).2), fun c q hq => ?_, fun k q hk => by cases hk⟩
  obtain ⟨h8, rfl⟩ := mj_cl_at2 hq
  exact Classical.choose_spec (h1 c) h8
def mj_excs : List (String × String) := mj_exc.flatMap fun E => (mj_exc.filter fun E' => decide (E ≠ E')).map fun E' => (E, E')
theorem mj_nc_in : (mj_exc.all fun E => mj_exc.all fun E' => decide (E = E') || decide (Cond.not (.castable E E') ∈ flatC (Jvm.Cond.and given_1 narrow_1))) = true := by decide +kernel
theorem mj_st_in : decide (Cond.isRef (.static Bundle.tN "UNASSIGNED_STACK" Bundle.steD) ∈ flatC (Jvm.Cond.and given_1 narrow_1)) = true ∧ decide (Cond.isRef (.static Bundle.tN "SUPPRESSED_SENTINEL" Bundle.listD) ∈ flatC (Jvm.Cond.and given_1 narrow_1)) = true := by decide +kernel
/-- the law's entry: all that the small machine asks -/
theorem mj_start {p : Program} {s : State} {m : MethodId} {meth : Method} {c : Code} {b L : Nat} {xs : Nat → Int32} (C0 : lw_At p s m meth c b L xs) : ∃ (D : va_G) (dA : Nat → ClassId), mj_KK D dA s.heap.size s ∧ dA 40 = b ∧ dA 41 = L ∧ ∀ j, mj_sx dA j = xs j := by
  obtain ⟨hx, hb, hr, hml, hown, hts, hX, hbl, hlocks, hgv⟩ := C0
  obtain ⟨D, hD⟩ := mj_cls hts
  obtain ⟨g, hg1, hg2⟩ := mj_arrs hts
  have hsx : ∀ j, mj_sx (fun k => if k = 40 then b else if k = 41 then L else if k < 100 then g k else (xs (k - 100)).toBitVec.toNat) j = xs j := by
    intro j
    unfold mj_sx
    show Int32.ofNat (if 100 + j = 40 then b else if 100 + j = 41 then L else if 100 + j < 100 then g (100 + j) else (xs (100 + j - 100)).toBitVec.toNat) = xs j
    rw [if_neg (by omega), if_neg (by omega), if_neg (by omega), Nat.add_sub_cancel_left]
    exact mj_ofInt _
  have hgk : ∀ k : Nat, k < 30 → (if k = 40 then b else if k = 41 then L else if k < 100 then g k else (xs (k - 100)).toBitVec.toNat) = g k := by
    intro k hk
    rw [if_neg (by omega), if_neg (by omega), if_pos (by omega)]
  have w : ∀ c ∈ mj_start_ws, c.before #[Value.ref b] s = true := fun c h => hts c (mj_start_w h)
  refine ⟨D, fun k => if k = 40 then b else if k = 41 then L else if k < 100 then g k else (xs (k - 100)).toBitVec.toNat, ⟨⟨hD, ?_, ?_, ?_⟩, ?_, ?_, ?_, ?_, ?_, ?_, ?_⟩, rfl, rfl, hsx⟩
  · intro k h1 h2
    dsimp only
    rw [hgk k h2]
    exact hg1 k h1 h2
  · intro ty hty
    have : Cond.arrayOver ty ∈ mj_start_ws := by
      simp only [mj_AOs, List.mem_cons, List.not_mem_nil, or_false] at hty
      rcases hty with rfl | rfl | rfl | rfl | rfl <;> simp [mj_start_ws]
    exact w _ this
  · exact hg2
  · intro x hx
    have h2 := List.all_eq_true.mp mj_nl_ok x hx
    simp only [mj_nlc, Bool.and_eq_true, decide_eq_true_eq] at h2
    exact va_Nw.of rfl (hts _ (List.mem_of_getElem? h2.1))
  · exact vx_Zqof (w _ (by simp [mj_start_ws])) (w _ (by simp [mj_start_ws])) (flat_of_before _ hgv _ (of_decide_eq_true mj_st_in.1)) (fun a ha => Nat.not_le.mpr ha)
  · exact vx_Zqof (w _ (by simp [mj_start_ws])) (w _ (by simp [mj_start_ws])) (flat_of_before _ hgv _ (of_decide_eq_true mj_st_in.2)) (fun a ha => Nat.not_le.mpr ha)
  · intro w hw
    obtain ⟨h1, h2⟩ := List.mem_filter.mp hw
    refine va_Nw.of ?_ (hts w h1)
    unfold mj_isng at h2
    split at h2
    · rfl
    · rfl
    · cases h2
  · intro E hE E' hE' hn
    have h1 := List.all_eq_true.mp (List.all_eq_true.mp mj_nc_in E hE) E' hE'
    simp only [Bool.or_eq_true, decide_eq_true_eq] at h1
    rcases h1 with h1 | h1
    · exact absurd h1 hn
    · exact va_Nc.of (flat_of_before _ hgv _ h1)
  · exact hbl
  · obtain ⟨scr, h1, h2, h3, h4, h5⟩ := hX
    exact ⟨scr, h1, h2, h3, h4, fun j hj => by rw [hsx j]; exact h5 j hj⟩
/-- the law from its entry, if the small machine's run of it ends with 1 in the room -/
theorem mh_start {p : Program} {l : Launch} {e : Env} {s : State} {m : MethodId} {below : List Frame} {meth : Method} {c : Code} {b L : Nat} {xs : Nat → Int32} (hl : l.stackTraces = false) (hck : mj_ck 13 code false 9 0 (mj_P 329).2.2.2.1 = true) (C0 : lw_At p s m meth c b L xs)
    (hrun : ∀ ys : Nat → Int32, (∀ j, ys j = xs j) → ∃ n hr cr sr, cr ≤ 600006 ∧ sr ≤ 7302024 ∧ mh_run b L ys mj_P n 100 (0, [(0, .retAddr b)], [], [], 0, 0) = some (.inl (some (.int 1)), hr, cr, sr)) :
    W p l e room_1 s m #[Value.ref b] below meth c s.heap [] 0 0 (lw_Z below #[Value.ref b] s) (entryFrame m ([Value.ref b] : List Value).toArray 9) := by
  obtain ⟨D, dA, hKK, e1, e2, e3⟩ := mj_start C0
  obtain ⟨n, hr, cr, sr, h1, h2, h3⟩ := hrun (mj_sx dA) e3
  have hl' := lv_entry ([.ref b]) (n := 9) (Nat.le_of_ble_eq_true rfl)
  rw [lg_entry_eq]
  refine mh_ok (D := D) (dA := dA) hl hck C0 hKK h1 h2 rfl n (0, [(0, .retAddr b)], [], [], 0, 0) (by rw [e1, e2]; exact h3) s.heap [] _ ?_ (fun q _ => rfl) (fun q hq => nomatch hq) ?_
  · exact ⟨rfl, fun k o h => by cases h⟩
  · exact hl'
