section MV
variable {p : Program} {l : Launch} {e : Env} {R : Room} {s : State} {m : MethodId} {args : Array Value} {below : List Frame} {meth : Method} {c : Code} {Q : State → Prop} {cc : ByteArray}
variable {D : va_G} {dA : Nat → ClassId} {z nL : Nat}
variable {pc o idx : Nat} {lv : List (Nat × Value)} {st : List Value} {w : mjH × Nat × Nat}
theorem mj_sys5 : Cond.static arraycopyName ∈ gw ∧ Cond.native arraycopyName ∈ gw ∧ Cond.initialized "java/lang/System" ∈ gw ∧ Cond.instanceMethod objectInit ∈ gw ∧ Cond.code objectInit ⟨#[0xb1]⟩ 1 none ∈ gw := by
  have h := mj_sys
  simp only [Bool.and_eq_true] at h
  exact ⟨gk_ok h.1.1.1.1, gk_ok h.1.1.1.2, gk_ok h.1.1.2, gk_ok h.1.2, gk_ok h.2⟩
theorem mo_objInit (S : CallFix p m c cc nL s args gw (mj_own o)) (hl : (mj_ml.any fun x => x.1.1 == o && x.1.2 == idx && x.2.1 == 5) = true) (hd : decode cc pc = .ok (.invokespecial idx, 3)) {a : Nat} (hcat : mj_cat st ≤ 8) (hRf : 1 ≤ R.frames) (hRl : 20 ≤ R.locals)
    (kk : mj_W p l e R s m args below meth c Q D dA z nL (pc + 3, lv, st, w)) : mj_W p l e R s m args below meth c Q D dA z nL (pc, lv, .ref a :: st, w) := by
  intro H locs ls a1 a2 a3 a4
  obtain ⟨μ, pos, hl⟩ := mj_ml_sys hl
  have hl2 : Cond.methodLink (mj_own o) idx objectInit ∈ gw := gk_ok hl
  refine W.objInit S.1 S.2.1 S.2.2.2.1 (S.2.2.2.2 _ hl2) (S.2.2.2.2 _ mj_sys5.2.2.2.1) (S.2.2.2.2 _ mj_sys5.2.2.2.2) rfl (a4.1.trans S.2.2.1.symm) rfl hd hRf ?_ (kk H locs ls a1 a2 a3 a4)
  show 2 * 0 + ((st.map (mj_v z)).map fun v => v.category).sum + 12 ≤ R.locals
  rw [mj_cat_map]
  omega
theorem mj_nn (x : Int32) (hx : ¬ x < 0) : x.toInt = (x.toNatClampNeg : Int) := by
  have hz0 : (0 : Int) ≤ x.toInt := by
    have := Int32.not_lt.mp hx
    simpa using Int32.le_iff_toInt_le.mp this
  show x.toInt = ((x.toInt.toNat : Nat) : Int)
  omega
theorem mo_copy (S : CallFix p m c cc nL s args gw (mj_own o)) (hK : mj_K D dA s) (hl : (mj_ml.any fun x => x.1.1 == o && x.1.2 == idx && x.2.1 == 6) = true) (hd : decode cc pc = .ok (.invokestatic idx, 3)) {a b : Nat} {sp dp n : Int32} {h1 : mjH} (hcat : mj_cat st ≤ 8) (hRf : 1 ≤ R.frames) (hRl : 40 ≤ R.locals)
    (hc : mj_cpy w.1 b sp a dp n = some h1)
    (kk : mj_W p l e R s m args below meth c Q D dA z nL (pc + 3, lv, st, h1, w.2)) : mj_W p l e R s m args below meth c Q D dA z nL (pc, lv, .int n :: .int dp :: .ref a :: .int sp :: .ref b :: st, w) := by
  intro H locs ls a1 a2 a3 a4 T hT X
  obtain ⟨μ, pos, hl⟩ := mj_ml_sys hl
  have hl2 : Cond.methodLink (mj_own o) idx arraycopyName ∈ gw := gk_ok hl
  obtain ⟨v0, v1, e0, e1, b1, b2, b3, b4, b5, b6, rfl⟩ := mj_cpy_len hc
  have hc0 := mj_arr_at a1 e0 (by decide) (by decide)
  have hc1 := mj_arr_at a1 e1 (by decide) (by decide)
  obtain ⟨-, k0, hk0, cm0, hkk0⟩ := (hK.2.1 20 (by decide) (by decide)).1 v0.length (fun j => mj_v z (v0.getD j .null))
  have hint : ∀ i, i < n.toNatClampNeg → ∃ x : Int32, v0.getD (sp.toNatClampNeg + i) .null = .int x := by
    intro i hi
    have hlt : sp.toNatClampNeg + i < v0.length := by omega
    have h9 := List.all_eq_true.mp b6 (v0.getD (sp.toNatClampNeg + i) .null) (by
      refine List.mem_of_getElem? (i := i) ?_
      rw [List.getElem?_take, if_pos hi, List.getElem?_drop, List.getD, List.getElem?_eq_getElem hlt]
      rfl)
    unfold mj_isint at h9
    split at h9
    · rename_i x hx; exact ⟨x, hx⟩
    · cases h9
  obtain ⟨vm', X', step⟩ := X.arraycopy S.1 S.2.2.2.1 (S.2.2.2.2 _ hl2) (S.2.2.2.2 _ mj_sys5.2.1) (S.2.2.2.2 _ mj_sys5.1) (S.2.2.2.2 _ mj_sys5.2.2.1) (src := z + b) (dst := z + a) (cs := arrV (dA 20) v0.length (fun j => mj_v z (v0.getD j .null))) (cd := arrV (dA 20) v1.length (fun j => mj_v z (v1.getD j .null))) (srcPos := sp) (destPos := dp) (n := n) (by rw [hT]; exact hc0) (by rw [hT]; exact hc1)
    (fun _ h => by cases h) (fun _ h => by cases h) (fun h => by cases h) (fun h => by cases h) hk0 hk0 hkk0 hkk0 (by decide) b1 b2 b3
    (by rw [mj_nn sp b1, mj_nn n b3, arrV_size]; omega)
    (by rw [mj_nn dp b2, mj_nn n b3, arrV_size]; omega)
    (fun vm₁ _ i hi => by
      obtain ⟨x, hx⟩ := hint i hi
      have e9 : (arrV (dA 20) v0.length (fun j => mj_v z (v0.getD j .null))).slots.getD (sp.toNatClampNeg + i) .null = .int x := by
        rw [Array.getD_eq_getD_getElem?, arrV_read _ _ (by omega), hx]
        rfl
      rw [e9]
      exact ⟨rfl, trivial⟩)
    (g := F0 m pc ls ((.int n :: .int dp :: .ref a :: .int sp :: .ref b :: st : List Value).map (mj_v z))) rfl (a4.1.trans S.2.2.1.symm) (rest := st.map (mj_v z)) rfl (by rw [S.2.1]; exact hd) hRf (by
      show 2 * 0 + ((st.map (mj_v z)).map fun v => v.category).sum + (7 + 11) ≤ R.locals
      rw [mj_cat_map]
      omega)
  have e2 : copied (arrV (dA 20) v0.length (fun j => mj_v z (v0.getD j .null))) (arrV (dA 20) v1.length (fun j => mj_v z (v1.getD j .null))) sp dp n = arrV (dA 20) v1.length (fun j => va_cpy (fun j => mj_v z (v0.getD j .null)) (fun j => mj_v z (v1.getD j .null)) sp.toNatClampNeg dp.toNatClampNeg n.toNatClampNeg j) := va_copied (fun v : Value => v) (dA 20) (dA 20) _ _ b4
  rw [e2] at X' step
  have hlt : z + a < H.size := (Array.getElem?_eq_some_iff.mp hc1).1
  have hheap : ((T.setVm vm').setCell (z + a) (arrV (dA 20) v1.length (fun j => va_cpy (fun j => mj_v z (v0.getD j .null)) (fun j => mj_v z (v1.getD j .null)) sp.toNatClampNeg dp.toNatClampNeg n.toNatClampNeg j))).heap = H.setIfInBounds (z + a) (arrV (dA 20) v1.length (fun j => va_cpy (fun j => mj_v z (v0.getD j .null)) (fun j => mj_v z (v1.getD j .null)) sp.toNatClampNeg dp.toNatClampNeg n.toNatClampNeg j)) := by rw [← hT]; rfl
  generalize hH1 : H.setIfInBounds (z + a) (arrV (dA 20) v1.length (fun j => va_cpy (fun j => mj_v z (v0.getD j .null)) (fun j => mj_v z (v1.getD j .null)) sp.toNatClampNeg dp.toNatClampNeg n.toNatClampNeg j)) = H1 at hheap
  have z1 : H1.size = H.size := by rw [← hH1]; simp
  have oq : ∀ q : Nat, q ≠ z + a → H1[q]? = H[q]? := fun q hq => by rw [← hH1]; simp [Array.getElem?_setIfInBounds, Ne.symm hq]
  have e3 : H1[z + a]? = some (arrV (dA 20) v1.length (fun j => va_cpy (fun j => mj_v z (v0.getD j .null)) (fun j => mj_v z (v1.getD j .null)) sp.toNatClampNeg dp.toNatClampNeg n.toNatClampNeg j)) := by rw [← hH1]; simp [Array.getElem?_setIfInBounds, hlt]
  have hlen : (v1.take dp.toNatClampNeg ++ (v0.drop sp.toNatClampNeg).take n.toNatClampNeg ++ v1.drop (dp.toNatClampNeg + n.toNatClampNeg)).length = v1.length := by
    simp only [List.length_append, List.length_take, List.length_drop]; omega
  obtain ⟨t, g1, g2⟩ := kk H1 _ ls (a1.set z1 oq ⟨fun q => absurd q (by show ¬ 20 < 8; decide), fun _ _ => by
      rw [e3, hlen]
      refine congrArg some (arrV_congr fun q hq => ?_)
      unfold va_cpy
      split
      · rename_i hqq
        rw [List.getD, List.getElem?_append_left (by simp only [List.length_append, List.length_take, List.length_drop]; omega), List.getElem?_append_right (by simp only [List.length_take]; omega), List.getElem?_take, List.length_take, Nat.min_eq_left (by omega), if_pos (by omega), List.getElem?_drop]
        rfl
      · rename_i hqq
        simp only [List.getD_eq_getElem?_getD]
        by_cases h9 : q < dp.toNatClampNeg
        · rw [List.getElem?_append_left (by simp only [List.length_append, List.length_take, List.length_drop]; omega), List.getElem?_append_left (by simp only [List.length_take]; omega), List.getElem?_take, if_pos h9]
        · rw [List.getElem?_append_right (by simp only [List.length_append, List.length_take, List.length_drop]; omega), List.getElem?_drop]
          congr 3
          simp only [List.length_append, List.length_take, List.length_drop]
          omega⟩) (fun q hq => by rw [oq q (by omega)]; exact a2 q hq) (fun q hq => by
      rcases List.mem_append.mp hq with h | h
      · exact a3 q h
      · obtain ⟨y, -, hy⟩ := List.mem_map.mp h
        rw [← hy]
        exact Nat.le_add_right _ _) a4 _ hheap X'
  exact ⟨t, step t g1, g2⟩
end MV
