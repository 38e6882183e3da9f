theorem mj_cpy_len {h h1 : mjH} {b a : Nat} {sp dp n : Int32} (hc : mj_cpy h b sp a dp n = some h1) : ∃ v0 v1 : List Value, h[b]? = some (20, v0) ∧ h[a]? = some (20, v1) ∧ ¬ sp < 0 ∧ ¬ dp < 0 ∧ ¬ n < 0 ∧ sp.toNatClampNeg + n.toNatClampNeg ≤ v0.length ∧ dp.toNatClampNeg + n.toNatClampNeg ≤ v1.length ∧ ((v0.drop sp.toNatClampNeg).take n.toNatClampNeg).all mj_isint = true ∧
    h1 = h.set a (20, v1.take dp.toNatClampNeg ++ (v0.drop sp.toNatClampNeg).take n.toNatClampNeg ++ v1.drop (dp.toNatClampNeg + n.toNatClampNeg)) := by
  unfold mj_cpy at hc
  split at hc
  · rename_i v0 v1 e0 e1
    split at hc
    · cases hc
    · rename_i hq
      cases hc
      simp only [not_or] at hq
      exact ⟨v0, v1, e0, e1, hq.1, hq.2.1, hq.2.2.1, Nat.not_lt.mp hq.2.2.2.1, Nat.not_lt.mp hq.2.2.2.2.1, Decidable.not_not.mp hq.2.2.2.2.2, rfl⟩
  · cases hc
/-! THE SYMBOLIC SMALL MACHINE: a run over ints that are not known: 'retAddr k' stands for the int ρ k (no method of the law or the class makes one); a comparison goes on where the bounds iv decide it; ex: what a sum and the like of such ints is called -/
def mk_v (ρ : Nat → Int32) : Value → Value
  | .retAddr k => .int (ρ k)
  | v => v
def mk_q (ρ : Nat → Int32) (q : Nat × Value) : Nat × Value := (q.1, mk_v ρ q.2)
def mk_o (ρ : Nat → Int32) (o : mjO) : mjO := (o.1, o.2.map (mk_v ρ))
def mk_f (ρ : Nat → Int32) (f : mjF) : mjF := (f.1, f.2.1.map (mk_q ρ), f.2.2.1.map (mk_v ρ), f.2.2.2.1.map (mk_o ρ), f.2.2.2.2)
def mk_s (ρ : Nat → Int32) : Option Value ⊕ Nat → Option Value ⊕ Nat
  | .inl v => .inl (v.map (mk_v ρ))
  | .inr x => .inr x
def mk_r (ρ : Nat → Int32) (r : mjR) : mjR := (mk_s ρ r.1, r.2.1.map (mk_o ρ), r.2.2)
theorem mk_v_cat (ρ : Nat → Int32) (v : Value) : (mk_v ρ v).category = v.category := by cases v <;> rfl
section MKA
variable {ρ : Nat → Int32}
theorem mk_ld {lv : List (Nat × Value)} {i : Nat} {v : Value} (h : mj_ld lv i = some v) : mj_ld (lv.map (mk_q ρ)) i = some (mk_v ρ v) := by
  unfold mj_ld at h ⊢
  rw [List.find?_map]
  split at h
  · rename_i q hq
    cases h
    have h2 : lv.find? ((fun q : Nat × Value => q.1 == i) ∘ mk_q ρ) = some q := hq
    rw [h2]
    rfl
  · cases h
theorem mk_s1 (i : Nat) (v : Value) (lv : List (Nat × Value)) : (mj_s1 i v lv).map (mk_q ρ) = mj_s1 i (mk_v ρ v) (lv.map (mk_q ρ)) := by
  unfold mj_s1
  rw [List.map_cons, List.filter_map]
  congr 2
  refine List.filter_congr fun q _ => ?_
  simp only [Function.comp, mk_q, mk_v_cat]
theorem mk_s2 (i : Nat) (v : Value) (lv : List (Nat × Value)) : (mj_s2 i v lv).map (mk_q ρ) = mj_s2 i (mk_v ρ v) (lv.map (mk_q ρ)) := by
  unfold mj_s2
  rw [List.map_cons, List.filter_map]
  congr 2
  refine List.filter_congr fun q _ => ?_
  simp only [Function.comp, mk_q, mk_v_cat]
theorem mk_rm1 (i : Nat) (lv : List (Nat × Value)) : (mj_rm1 i lv).map (mk_q ρ) = mj_rm1 i (lv.map (mk_q ρ)) := by
  unfold mj_rm1
  rw [List.filter_map]
  congr 1
  refine List.filter_congr fun q _ => ?_
  simp only [Function.comp, mk_q, mk_v_cat]
theorem mk_cat (st : List Value) : mj_cat (st.map (mk_v ρ)) = mj_cat st := by
  unfold mj_cat
  rw [List.map_map]
  congr 1
  exact List.map_congr_left fun v _ => mk_v_cat ρ v
theorem mk_args (vs : List Value) : ∀ i, (lv_args i vs).map (mk_q ρ) = lv_args i (vs.map (mk_v ρ)) := by
  induction vs with
  | nil => intro i; rfl
  | cons v vs ih =>
    intro i
    simp only [lv_args, List.map_cons, mk_v_cat, ih]
    rfl
theorem mk_h_at {h : mjH} {r k : Nat} {vs : List Value} (hr : h[r]? = some (k, vs)) : (h.map (mk_o ρ))[r]? = some (k, vs.map (mk_v ρ)) := by
  rw [List.getElem?_map, hr]; rfl
theorem mk_vs_at {vs : List Value} {j : Nat} {v : Value} (hv : vs[j]? = some v) : (vs.map (mk_v ρ))[j]? = some (mk_v ρ v) := by
  rw [List.getElem?_map, hv]; rfl
theorem mk_h_set (h : mjH) (r k : Nat) (vs : List Value) : (h.set r (k, vs)).map (mk_o ρ) = (h.map (mk_o ρ)).set r (k, vs.map (mk_v ρ)) := by
  rw [List.map_set]; rfl
theorem mk_vs_set (vs : List Value) (j : Nat) (v : Value) : (vs.set j v).map (mk_v ρ) = (vs.map (mk_v ρ)).set j (mk_v ρ v) := List.map_set
theorem mk_mi {f f' : mjF} {n : Nat} {v : Value} {st : List Value} (h : mj_i f n v st = some f') : mj_i (mk_f ρ f) n (mk_v ρ v) (st.map (mk_v ρ)) = some (mk_f ρ f') := by
  cases h; rfl
theorem mk_ix {i : Int32} {vs : List Value} : mj_ix i (vs.map (mk_v ρ)) = mj_ix i vs := by
  unfold mj_ix
  rw [List.length_map]
theorem mk_get {t : Nat} {f f' : mjF} {i : Int32} {r : Nat} {st : List Value} (h : mj_get t f i r st = some f') : mj_get t (mk_f ρ f) i r (st.map (mk_v ρ)) = some (mk_f ρ f') := by
  obtain ⟨pc, lv, st0, hp, cs, ss⟩ := f
  unfold mj_get at h ⊢
  split at h
  · rename_i k vs hr
    have hr : hp[r]? = some (k, vs) := hr
    dsimp only [mk_f]
    rw [mk_h_at hr]
    dsimp only
    split at h
    · rename_i hk
      rw [if_pos hk, mk_ix]
      split at h
      · rename_i j hj
        split at h
        · rename_i v hv
          rw [mk_vs_at hv]
          exact mk_mi (ρ := ρ) h
        · cases h
      · cases h
    · cases h
  · cases h
theorem mk_put {t : Nat} {f f' : mjF} {v : Value} {i : Int32} {r : Nat} {st : List Value} (h : mj_put t f v i r st = some f') : mj_put t (mk_f ρ f) (mk_v ρ v) i r (st.map (mk_v ρ)) = some (mk_f ρ f') := by
  obtain ⟨pc, lv, st0, hp, cs, ss⟩ := f
  unfold mj_put at h ⊢
  split at h
  · rename_i k vs hr
    have hr : hp[r]? = some (k, vs) := hr
    dsimp only [mk_f]
    rw [mk_h_at hr]
    dsimp only
    split at h
    · rename_i hk
      rw [if_pos hk, mk_ix]
      split at h
      · rename_i j hj
        cases h
        dsimp only
        rw [← mk_vs_set, ← mk_h_set]
      · cases h
    · cases h
  · cases h
theorem mk_br {f f' : mjF} {n : Nat} {off : Int} {st : List Value} {C : Prop} [Decidable C] (h : mj_br f n off st C = some f') : mj_br (mk_f ρ f) n off (st.map (mk_v ρ)) C = some (mk_f ρ f') := by
  unfold mj_br at h ⊢
  split at h
  · cases h
    rw [if_pos ‹_›]
    rfl
  · cases h
    rw [if_neg ‹_›]
    rfl
theorem mk_new {f f' : mjF} {n t N : Nat} {vs st : List Value} (hv : vs.map (mk_v ρ) = vs) (h : mj_new f n t N vs st = some f') : mj_new (mk_f ρ f) n t N vs (st.map (mk_v ρ)) = some (mk_f ρ f') := by
  cases h
  unfold mj_new
  dsimp only [mk_f]
  rw [List.map_append, List.length_map]
  dsimp only [List.map, mk_o]
  rw [hv]
  rfl
theorem mk_df (ci : Nat) : (mj_df ci).map (mk_v ρ) = mj_df ci := by
  unfold mj_df
  split <;> rfl
theorem mk_fit {n : Nat} {v : Value} (h : mj_fit n v = true) : mk_v ρ v = v := by
  cases v with
  | retAddr k => exfalso; unfold mj_fit at h; split at h <;> simp_all
  | _ => rfl
theorem mk_arr {t : ArrayType} {k : Nat} {v : Value} (h : mj_arr t = some (k, v)) : mk_v ρ v = v := by
  unfold mj_arr at h
  split at h <;> cases h <;> rfl
theorem mk_isint {v : Value} (h : mj_isint v = true) : mk_v ρ v = v := by
  cases v with
  | int x => rfl
  | _ => cases h
theorem mk_cpy {h h1 : mjH} {b a : Nat} {sp dp n : Int32} (hc : mj_cpy h b sp a dp n = some h1) : mj_cpy (h.map (mk_o ρ)) b sp a dp n = some (h1.map (mk_o ρ)) := by
  obtain ⟨v0, v1, e0, e1, n1, n2, n3, n4, n5, n6, rfl⟩ := mj_cpy_len hc
  unfold mj_cpy
  rw [mk_h_at e0, mk_h_at e1]
  show (if sp < 0 ∨ dp < 0 ∨ n < 0 ∨ (v0.map (mk_v ρ)).length < sp.toNatClampNeg + n.toNatClampNeg ∨ (v1.map (mk_v ρ)).length < dp.toNatClampNeg + n.toNatClampNeg ∨ ¬ (((v0.map (mk_v ρ)).drop sp.toNatClampNeg).take n.toNatClampNeg).all mj_isint = true then none
    else some ((h.map (mk_o ρ)).set a (20, (v1.map (mk_v ρ)).take dp.toNatClampNeg ++ ((v0.map (mk_v ρ)).drop sp.toNatClampNeg).take n.toNatClampNeg ++ (v1.map (mk_v ρ)).drop (dp.toNatClampNeg + n.toNatClampNeg)))) = _
  have hs : ((v0.map (mk_v ρ)).drop sp.toNatClampNeg).take n.toNatClampNeg = (v0.drop sp.toNatClampNeg).take n.toNatClampNeg := by
    rw [← List.map_drop, ← List.map_take]
    conv => rhs; rw [← List.map_id ((v0.drop sp.toNatClampNeg).take n.toNatClampNeg)]
    exact List.map_congr_left fun v hv => mk_isint (List.all_eq_true.mp n6 v hv)
  rw [if_neg]
  · rw [mk_h_set]
    congr 3
    rw [List.map_append, List.map_append, List.map_take, List.map_drop, hs]
    congr 2
    conv => lhs; rw [← List.map_id ((v0.drop sp.toNatClampNeg).take n.toNatClampNeg)]
    exact (List.map_congr_left fun v hv => mk_isint (List.all_eq_true.mp n6 v hv)).symm
  · rw [hs]
    simp only [List.length_map, not_or, Decidable.not_not]
    exact ⟨n1, n2, n3, Nat.not_lt.mpr n4, Nat.not_lt.mpr n5, n6⟩
set_option maxHeartbeats 4000000 in
theorem mk_op_ok {e : mjE} {f f' : mjF} (ho : mj_op e f = some f') : mj_op e (mk_f ρ f) = some (mk_f ρ f') := by
  obtain ⟨ins, a, b, n⟩ := e
  obtain ⟨pc, lv, st, h, cs, ss⟩ := f
  unfold mj_op at ho
  split at ho
  all_goals first | (cases ho; done) | (rename_i h1 h2; have h1 : ins = _ := h1; have h2 : st = _ := h2; subst h1 h2) | (rename_i h1; have h1 : ins = _ := h1; subst h1)
  all_goals first
    | exact mk_mi (ρ := ρ) ho
    | exact mk_br (ρ := ρ) ho
    | exact mk_get (ρ := ρ) ho
    | exact mk_put (ρ := ρ) ho
    | (cases ho; rfl; done)
    | (cases ho; (first | (refine congrArg some ?_; dsimp only [mk_f]; rw [mk_s1]; rfl) | (refine congrArg some ?_; dsimp only [mk_f]; rw [mk_s2]; rfl)); done)
    | (split at ho
       · rename_i hl
         have hl2 := mk_ld (ρ := ρ) hl
         unfold mj_op
         dsimp only [mk_f]
         rw [hl2]
         exact mk_mi (ρ := ρ) ho
       · cases ho
       done)
    | (split at ho
       · rename_i hl
         have hl2 := mk_ld (ρ := ρ) hl
         unfold mj_op
         dsimp only [mk_f]
         rw [hl2]
         exact mk_mi (ρ := ρ) ho
       · rename_i hl
         have hl2 := mk_ld (ρ := ρ) hl
         unfold mj_op
         dsimp only [mk_f]
         rw [hl2]
         exact mk_mi (ρ := ρ) ho
       · cases ho
       done)
    | (split at ho
       · cases ho
       · rename_i hy
         unfold mj_op
         dsimp only [mk_f, List.map, mk_v]
         rw [if_neg hy]
         exact mk_mi (ρ := ρ) ho
       done)
    | skip
  · split at ho
    · rename_i x hl
      have hl2 := mk_ld (ρ := ρ) hl
      cases ho
      unfold mj_op
      dsimp only [mk_f]
      rw [hl2]
      exact congrArg (fun L => some (pc + 3, L, st.map (mk_v ρ), h.map (mk_o ρ), cs, ss)) (mk_s1 (ρ := ρ) _ (.int _) lv).symm
    · cases ho
  · split at ho
    · rename_i hc
      unfold mj_op
      dsimp only [mk_f, List.map]
      rw [if_pos ((mk_v_cat ρ _).trans hc)]
      exact mk_mi (ρ := ρ) ho
    · cases ho
  · split at ho
    · rename_i hc
      unfold mj_op
      dsimp only [mk_f, List.map]
      rw [if_pos ((mk_v_cat ρ _).trans hc)]
      exact mk_mi (ρ := ρ) ho
    · rename_i hc
      split at ho
      · rename_i hc2
        unfold mj_op
        dsimp only [mk_f, List.map]
        rw [if_neg (fun q => hc ((mk_v_cat ρ _).symm.trans q)), if_pos ((mk_v_cat ρ _).trans hc2)]
        cases ho
        rfl
      · cases ho
  · split at ho
    · rename_i hc
      unfold mj_op
      dsimp only [mk_f, List.map]
      rw [if_pos ((mk_v_cat ρ _).trans hc)]
      cases ho
      rfl
    · cases ho
  · split at ho
    · rename_i k vs hr
      have hr : h[_]? = some (k, vs) := hr
      split at ho
      · rename_i hk
        split at ho
        · rename_i v hv
          unfold mj_op
          dsimp only [mk_f, List.map, mk_v]
          rw [mk_h_at hr]
          dsimp only
          rw [if_pos hk, mk_vs_at hv]
          exact mk_mi (ρ := ρ) ho
        · cases ho
      · cases ho
    · cases ho
  · split at ho
    · rename_i k vs hr
      have hr : h[_]? = some (k, vs) := hr
      split at ho
      · rename_i hc
        cases ho
        unfold mj_op
        dsimp only [mk_f, List.map]
        rw [show mk_v ρ (Value.ref _) = Value.ref _ from rfl]
        dsimp only
        rw [mk_h_at hr]
        dsimp only
        rw [if_pos ⟨hc.1, by rw [List.length_map]; exact hc.2.1, by rw [mk_fit hc.2.2]; exact hc.2.2⟩, ← mk_vs_set, ← mk_h_set]
      · cases ho
    · cases ho
  · split at ho
    · rename_i k vs hr
      have hr : h[_]? = some (k, vs) := hr
      split at ho
      · rename_i hk
        unfold mj_op
        dsimp only [mk_f, List.map, mk_v]
        rw [mk_h_at hr]
        dsimp only
        rw [if_pos hk, List.length_map]
        exact mk_mi (ρ := ρ) ho
      · cases ho
    · cases ho
  · split at ho
    · rename_i k vs hr
      have hr : h[_]? = some (k, vs) := hr
      split at ho
      · rename_i hk
        unfold mj_op
        dsimp only [mk_f, List.map, mk_v]
        rw [mk_h_at hr]
        dsimp only
        rw [if_pos hk]
        exact mk_put (ρ := ρ) ho
      · cases ho
    · cases ho
  · split at ho
    · rename_i hc
      cases ho
      unfold mj_op
      dsimp only [mk_f, List.map, mk_v]
      rw [if_pos hc]
    · rename_i hc
      split at ho
      · rename_i off hoff
        cases ho
        unfold mj_op
        dsimp only [mk_f, List.map, mk_v]
        rw [if_neg hc, hoff]
      · cases ho
  · split at ho
    · rename_i k v hv
      split at ho
      · cases ho
      · rename_i hn
        unfold mj_op
        dsimp only [mk_f, List.map, mk_v]
        rw [hv]
        dsimp only
        rw [if_neg hn]
        exact mk_new (ρ := ρ) (by rw [List.map_replicate, mk_arr hv]) ho
    · cases ho
  · split at ho
    · cases ho
    · rename_i hn
      unfold mj_op
      dsimp only [mk_f, List.map, mk_v]
      rw [if_neg hn]
      exact mk_new (ρ := ρ) (by rw [List.map_replicate]; rfl) ho
end MKA
