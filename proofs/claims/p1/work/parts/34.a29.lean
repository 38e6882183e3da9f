/-! THE NAMES OF OLD CELLS CHANGED: retAddr k becomes retAddr (ρ k) -/
def mr_v (ρ : Nat → Nat) : Value → Value
  | .retAddr k => .retAddr (ρ k)
  | v => v
def mr_q (ρ : Nat → Nat) (q : Nat × Value) : Nat × Value := (q.1, mr_v ρ q.2)
def mr_o (ρ : Nat → Nat) (o : mjO) : mjO := (o.1, o.2.map (mr_v ρ))
def mr_f (ρ : Nat → Nat) (f : mjF) : mjF := (f.1, f.2.1.map (mr_q ρ), f.2.2.1.map (mr_v ρ), f.2.2.2.1.map (mr_o ρ), f.2.2.2.2)
def mr_s (ρ : Nat → Nat) : Option Value ⊕ Nat → Option Value ⊕ Nat
  | .inl v => .inl (v.map (mr_v ρ))
  | .inr x => .inr x
def mr_r (ρ : Nat → Nat) (r : mjR) : mjR := (mr_s ρ r.1, r.2.1.map (mr_o ρ), r.2.2)
theorem mr_v_cat (ρ : Nat → Nat) (v : Value) : (mr_v ρ v).category = v.category := by cases v <;> rfl
section MRA
variable {ρ : Nat → Nat}
theorem mr_ld {lv : List (Nat × Value)} {i : Nat} {v : Value} (h : mj_ld lv i = some v) : mj_ld (lv.map (mr_q ρ)) i = some (mr_v ρ v) := by
  unfold mj_ld at h ⊢
  rw [List.find?_map]
  split at h
  · rename_i q hq
    cases h
    have h2 : lv.find? ((fun q : Nat × Value => q.1 == i) ∘ mr_q ρ) = some q := hq
    rw [h2]
    rfl
  · cases h
theorem mr_s1 (i : Nat) (v : Value) (lv : List (Nat × Value)) : (mj_s1 i v lv).map (mr_q ρ) = mj_s1 i (mr_v ρ v) (lv.map (mr_q ρ)) := by
  unfold mj_s1
  rw [List.map_cons, List.filter_map]
  congr 2
  refine List.filter_congr fun q _ => ?_
  simp only [Function.comp, mr_q, mr_v_cat]
theorem mr_s2 (i : Nat) (v : Value) (lv : List (Nat × Value)) : (mj_s2 i v lv).map (mr_q ρ) = mj_s2 i (mr_v ρ v) (lv.map (mr_q ρ)) := by
  unfold mj_s2
  rw [List.map_cons, List.filter_map]
  congr 2
  refine List.filter_congr fun q _ => ?_
  simp only [Function.comp, mr_q, mr_v_cat]
theorem mr_rm1 (i : Nat) (lv : List (Nat × Value)) : (mj_rm1 i lv).map (mr_q ρ) = mj_rm1 i (lv.map (mr_q ρ)) := by
  unfold mj_rm1
  rw [List.filter_map]
  congr 1
  refine List.filter_congr fun q _ => ?_
  simp only [Function.comp, mr_q, mr_v_cat]
theorem mr_cat (st : List Value) : mj_cat (st.map (mr_v ρ)) = mj_cat st := by
  unfold mj_cat
  rw [List.map_map]
  congr 1
  exact List.map_congr_left fun v _ => mr_v_cat ρ v
theorem mr_args (vs : List Value) : ∀ i, (lv_args i vs).map (mr_q ρ) = lv_args i (vs.map (mr_v ρ)) := by
  induction vs with
  | nil => intro i; rfl
  | cons v vs ih =>
    intro i
    simp only [lv_args, List.map_cons, mr_v_cat, ih]
    rfl
theorem mr_h_at {h : mjH} {r k : Nat} {vs : List Value} (hr : h[r]? = some (k, vs)) : (h.map (mr_o ρ))[r]? = some (k, vs.map (mr_v ρ)) := by
  rw [List.getElem?_map, hr]; rfl
theorem mr_vs_at {vs : List Value} {j : Nat} {v : Value} (hv : vs[j]? = some v) : (vs.map (mr_v ρ))[j]? = some (mr_v ρ v) := by
  rw [List.getElem?_map, hv]; rfl
theorem mr_h_set (h : mjH) (r k : Nat) (vs : List Value) : (h.set r (k, vs)).map (mr_o ρ) = (h.map (mr_o ρ)).set r (k, vs.map (mr_v ρ)) := by
  rw [List.map_set]; rfl
theorem mr_vs_set (vs : List Value) (j : Nat) (v : Value) : (vs.set j v).map (mr_v ρ) = (vs.map (mr_v ρ)).set j (mr_v ρ v) := List.map_set
theorem mr_mi {f f' : mjF} {n : Nat} {v : Value} {st : List Value} (h : mj_i f n v st = some f') : mj_i (mr_f ρ f) n (mr_v ρ v) (st.map (mr_v ρ)) = some (mr_f ρ f') := by
  cases h; rfl
theorem mr_ix {i : Int32} {vs : List Value} : mj_ix i (vs.map (mr_v ρ)) = mj_ix i vs := by
  unfold mj_ix
  rw [List.length_map]
theorem mr_get {t : Nat} {f f' : mjF} {i : Int32} {r : Nat} {st : List Value} (h : mj_get t f i r st = some f') : mj_get t (mr_f ρ f) i r (st.map (mr_v ρ)) = some (mr_f ρ f') := by
  obtain ⟨pc, lv, st0, hp, cs, ss⟩ := f
  unfold mj_get at h ⊢
  split at h
  · rename_i k vs hr
    have hr : hp[r]? = some (k, vs) := hr
    dsimp only [mr_f]
    rw [mr_h_at hr]
    dsimp only
    split at h
    · rename_i hk
      rw [if_pos hk, mr_ix]
      split at h
      · rename_i j hj
        split at h
        · rename_i v hv
          rw [mr_vs_at hv]
          exact mr_mi (ρ := ρ) h
        · cases h
      · cases h
    · cases h
  · cases h
theorem mr_put {t : Nat} {f f' : mjF} {v : Value} {i : Int32} {r : Nat} {st : List Value} (h : mj_put t f v i r st = some f') : mj_put t (mr_f ρ f) (mr_v ρ v) i r (st.map (mr_v ρ)) = some (mr_f ρ f') := by
  obtain ⟨pc, lv, st0, hp, cs, ss⟩ := f
  unfold mj_put at h ⊢
  split at h
  · rename_i k vs hr
    have hr : hp[r]? = some (k, vs) := hr
    dsimp only [mr_f]
    rw [mr_h_at hr]
    dsimp only
    split at h
    · rename_i hk
      rw [if_pos hk, mr_ix]
      split at h
      · rename_i j hj
        cases h
        dsimp only
        rw [← mr_vs_set, ← mr_h_set]
      · cases h
    · cases h
  · cases h
theorem mr_br {f f' : mjF} {n : Nat} {off : Int} {st : List Value} {C : Prop} [Decidable C] (h : mj_br f n off st C = some f') : mj_br (mr_f ρ f) n off (st.map (mr_v ρ)) C = some (mr_f ρ f') := by
  unfold mj_br at h ⊢
  split at h
  · cases h
    rw [if_pos ‹_›]
    rfl
  · cases h
    rw [if_neg ‹_›]
    rfl
theorem mr_new {f f' : mjF} {n t N : Nat} {vs st : List Value} (hv : vs.map (mr_v ρ) = vs) (h : mj_new f n t N vs st = some f') : mj_new (mr_f ρ f) n t N vs (st.map (mr_v ρ)) = some (mr_f ρ f') := by
  cases h
  unfold mj_new
  dsimp only [mr_f]
  rw [List.map_append, List.length_map]
  dsimp only [List.map, mr_o]
  rw [hv]
  rfl
theorem mr_df (ci : Nat) : (mj_df ci).map (mr_v ρ) = mj_df ci := by
  unfold mj_df
  split <;> rfl
theorem mr_fit {n : Nat} {v : Value} (h : mj_fit n v = true) : mr_v ρ v = v := by
  cases v with
  | retAddr k => exfalso; unfold mj_fit at h; split at h <;> simp_all
  | _ => rfl
theorem mr_arr {t : ArrayType} {k : Nat} {v : Value} (h : mj_arr t = some (k, v)) : mr_v ρ v = v := by
  unfold mj_arr at h
  split at h <;> cases h <;> rfl
theorem mr_isint {v : Value} (h : mj_isint v = true) : mr_v ρ v = v := by
  cases v with
  | int x => rfl
  | _ => cases h
theorem mr_cpy {h h1 : mjH} {b a : Nat} {sp dp n : Int32} (hc : mj_cpy h b sp a dp n = some h1) : mj_cpy (h.map (mr_o ρ)) b sp a dp n = some (h1.map (mr_o ρ)) := by
  obtain ⟨v0, v1, e0, e1, n1, n2, n3, n4, n5, n6, rfl⟩ := mj_cpy_len hc
  unfold mj_cpy
  rw [mr_h_at e0, mr_h_at e1]
  show (if sp < 0 ∨ dp < 0 ∨ n < 0 ∨ (v0.map (mr_v ρ)).length < sp.toNatClampNeg + n.toNatClampNeg ∨ (v1.map (mr_v ρ)).length < dp.toNatClampNeg + n.toNatClampNeg ∨ ¬ (((v0.map (mr_v ρ)).drop sp.toNatClampNeg).take n.toNatClampNeg).all mj_isint = true then none
    else some ((h.map (mr_o ρ)).set a (20, (v1.map (mr_v ρ)).take dp.toNatClampNeg ++ ((v0.map (mr_v ρ)).drop sp.toNatClampNeg).take n.toNatClampNeg ++ (v1.map (mr_v ρ)).drop (dp.toNatClampNeg + n.toNatClampNeg)))) = _
  have hs : ((v0.map (mr_v ρ)).drop sp.toNatClampNeg).take n.toNatClampNeg = (v0.drop sp.toNatClampNeg).take n.toNatClampNeg := by
    rw [← List.map_drop, ← List.map_take]
    conv => rhs; rw [← List.map_id ((v0.drop sp.toNatClampNeg).take n.toNatClampNeg)]
    exact List.map_congr_left fun v hv => mr_isint (List.all_eq_true.mp n6 v hv)
  rw [if_neg]
  · rw [mr_h_set]
    congr 3
    rw [List.map_append, List.map_append, List.map_take, List.map_drop, hs]
    congr 2
    conv => lhs; rw [← List.map_id ((v0.drop sp.toNatClampNeg).take n.toNatClampNeg)]
    exact (List.map_congr_left fun v hv => mr_isint (List.all_eq_true.mp n6 v hv)).symm
  · rw [hs]
    simp only [List.length_map, not_or, Decidable.not_not]
    exact ⟨n1, n2, n3, Nat.not_lt.mpr n4, Nat.not_lt.mpr n5, n6⟩
set_option maxHeartbeats 4000000 in
theorem mr_op_ok {e : mjE} {f f' : mjF} (ho : mj_op e f = some f') : mj_op e (mr_f ρ f) = some (mr_f ρ f') := by
  obtain ⟨ins, a, b, n⟩ := e
  obtain ⟨pc, lv, st, h, cs, ss⟩ := f
  unfold mj_op at ho
  split at ho
  all_goals first | (cases ho; done) | (rename_i h1 h2; have h1 : ins = _ := h1; have h2 : st = _ := h2; subst h1 h2) | (rename_i h1; have h1 : ins = _ := h1; subst h1)
  all_goals first
    | exact mr_mi (ρ := ρ) ho
    | exact mr_br (ρ := ρ) ho
    | exact mr_get (ρ := ρ) ho
    | exact mr_put (ρ := ρ) ho
    | (cases ho; rfl; done)
    | (cases ho; (first | (refine congrArg some ?_; dsimp only [mr_f]; rw [mr_s1]; rfl) | (refine congrArg some ?_; dsimp only [mr_f]; rw [mr_s2]; rfl)); done)
    | (split at ho
       · rename_i hl
         have hl2 := mr_ld (ρ := ρ) hl
         unfold mj_op
         dsimp only [mr_f]
         rw [hl2]
         exact mr_mi (ρ := ρ) ho
       · cases ho
       done)
    | (split at ho
       · rename_i hl
         have hl2 := mr_ld (ρ := ρ) hl
         unfold mj_op
         dsimp only [mr_f]
         rw [hl2]
         exact mr_mi (ρ := ρ) ho
       · rename_i hl
         have hl2 := mr_ld (ρ := ρ) hl
         unfold mj_op
         dsimp only [mr_f]
         rw [hl2]
         exact mr_mi (ρ := ρ) ho
       · cases ho
       done)
    | (split at ho
       · cases ho
       · rename_i hy
         unfold mj_op
         dsimp only [mr_f, List.map, mr_v]
         rw [if_neg hy]
         exact mr_mi (ρ := ρ) ho
       done)
    | skip
  · split at ho
    · rename_i x hl
      have hl2 := mr_ld (ρ := ρ) hl
      cases ho
      unfold mj_op
      dsimp only [mr_f]
      rw [hl2]
      exact congrArg (fun L => some (pc + 3, L, st.map (mr_v ρ), h.map (mr_o ρ), cs, ss)) (mr_s1 (ρ := ρ) _ (.int _) lv).symm
    · cases ho
  · split at ho
    · rename_i hc
      unfold mj_op
      dsimp only [mr_f, List.map]
      rw [if_pos ((mr_v_cat ρ _).trans hc)]
      exact mr_mi (ρ := ρ) ho
    · cases ho
  · split at ho
    · rename_i hc
      unfold mj_op
      dsimp only [mr_f, List.map]
      rw [if_pos ((mr_v_cat ρ _).trans hc)]
      exact mr_mi (ρ := ρ) ho
    · rename_i hc
      split at ho
      · rename_i hc2
        unfold mj_op
        dsimp only [mr_f, List.map]
        rw [if_neg (fun q => hc ((mr_v_cat ρ _).symm.trans q)), if_pos ((mr_v_cat ρ _).trans hc2)]
        cases ho
        rfl
      · cases ho
  · split at ho
    · rename_i hc
      unfold mj_op
      dsimp only [mr_f, List.map]
      rw [if_pos ((mr_v_cat ρ _).trans hc)]
      cases ho
      rfl
    · cases ho
  · split at ho
    · rename_i k vs hr
      have hr : h[_]? = some (k, vs) := hr
      split at ho
      · rename_i hk
        split at ho
        · rename_i v hv
          unfold mj_op
          dsimp only [mr_f, List.map, mr_v]
          rw [mr_h_at hr]
          dsimp only
          rw [if_pos hk, mr_vs_at hv]
          exact mr_mi (ρ := ρ) ho
        · cases ho
      · cases ho
    · cases ho
  · split at ho
    · rename_i k vs hr
      have hr : h[_]? = some (k, vs) := hr
      split at ho
      · rename_i hc
        cases ho
        unfold mj_op
        dsimp only [mr_f, List.map]
        rw [show mr_v ρ (Value.ref _) = Value.ref _ from rfl]
        dsimp only
        rw [mr_h_at hr]
        dsimp only
        rw [if_pos ⟨hc.1, by rw [List.length_map]; exact hc.2.1, by rw [mr_fit hc.2.2]; exact hc.2.2⟩, ← mr_vs_set, ← mr_h_set]
      · cases ho
    · cases ho
  · split at ho
    · rename_i k vs hr
      have hr : h[_]? = some (k, vs) := hr
      split at ho
      · rename_i hk
        unfold mj_op
        dsimp only [mr_f, List.map, mr_v]
        rw [mr_h_at hr]
        dsimp only
        rw [if_pos hk, List.length_map]
        exact mr_mi (ρ := ρ) ho
      · cases ho
    · cases ho
  · split at ho
    · rename_i k vs hr
      have hr : h[_]? = some (k, vs) := hr
      split at ho
      · rename_i hk
        unfold mj_op
        dsimp only [mr_f, List.map, mr_v]
        rw [mr_h_at hr]
        dsimp only
        rw [if_pos hk]
        exact mr_put (ρ := ρ) ho
      · cases ho
    · cases ho
  · split at ho
    · rename_i hc
      cases ho
      unfold mj_op
      dsimp only [mr_f, List.map, mr_v]
      rw [if_pos hc]
    · rename_i hc
      split at ho
      · rename_i off hoff
        cases ho
        unfold mj_op
        dsimp only [mr_f, List.map, mr_v]
        rw [if_neg hc, hoff]
      · cases ho
  · split at ho
    · rename_i k v hv
      split at ho
      · cases ho
      · rename_i hn
        unfold mj_op
        dsimp only [mr_f, List.map, mr_v]
        rw [hv]
        dsimp only
        rw [if_neg hn]
        exact mr_new (ρ := ρ) (by rw [List.map_replicate, mr_arr hv]) ho
    · cases ho
  · split at ho
    · cases ho
    · rename_i hn
      unfold mj_op
      dsimp only [mr_f, List.map, mr_v]
      rw [if_neg hn]
      exact mr_new (ρ := ρ) (by rw [List.map_replicate]; rfl) ho
end MRA
section MRG
variable {ρ : Nat → Nat}
variable {P : Nat → mjM} {e : mjE} {μ : Nat} {k k' : mjF → Option mjR} {call call' : Nat → mjF → Option mjR} {f : mjF} {R : mjR}
theorem mr_hand_ok {C : mjC} {t : Nat} {r : mjH × Nat × Nat} (hk : ∀ f', k f' = some R → k' (mr_f ρ f') = some (mr_r ρ R)) (hh : mj_hand C k f t r = some R) : mj_hand C k' (mr_f ρ f) t (r.1.map (mr_o ρ), r.2) = some (mr_r ρ R) := by
  unfold mj_hand at hh ⊢
  cases he : mj_at C t with
  | none => rw [he] at hh; cases hh
  | some e =>
    rw [he] at hh
    dsimp only at hh ⊢
    split at hh
    · rename_i i hi
      have h1 := hk _ hh
      dsimp only [mr_f] at h1 ⊢
      rw [mr_rm1] at h1
      exact h1
    · rename_i i hi
      have h1 := hk _ hh
      dsimp only [mr_f] at h1 ⊢
      rw [mr_rm1] at h1
      exact h1
    · cases hh
theorem mr_back_ok {thr : Bool} {C : mjC} {hh : List (Nat × Nat × Nat × Nat)} {rest : List Value} {res res' : Option mjR} (hk : ∀ f', k f' = some R → k' (mr_f ρ f') = some (mr_r ρ R)) (hr : ∀ q, res = some q → res' = some (mr_r ρ q))
    (hb : mj_back thr C hh k f rest res = some R) : mj_back thr C hh k' (mr_f ρ f) (rest.map (mr_v ρ)) res' = some (mr_r ρ R) := by
  cases res with
  | none => cases hb
  | some q =>
    rw [hr q rfl]
    obtain ⟨v, r⟩ := q
    cases v with
    | inl v =>
      have h1 : k (f.1 + 3, f.2.1, v.toList ++ rest, mj_add f r) = some R := hb
      have h2 := hk _ h1
      cases v with
      | none => exact h2
      | some v => exact h2
    | inr E =>
      unfold mj_back at hb ⊢
      dsimp only [mr_r, mr_s] at hb ⊢
      split at hb
      · cases hb
      · rename_i h1
        rw [if_neg h1]
        split at hb
        · rename_i h2
          rw [if_pos h2]
          cases hb
          rfl
        · rename_i h2
          rw [if_neg h2]
          split at hb
          · cases hb
          · rename_i x hx
            have hx' : hh.find? (fun x => decide (x.1 ≤ (mr_f ρ f).1 ∧ (mr_f ρ f).1 < x.2.1 ∧ x.2.2.2 = E)) = some x := hx
            rw [hx']
            exact mr_hand_ok hk hb
theorem mr_inv_ok {st : List Value} (hk : ∀ f', k f' = some R → k' (mr_f ρ f') = some (mr_r ρ R)) (hc : ∀ μ f' q, call μ f' = some q → call' μ (mr_f ρ f') = some (mr_r ρ q)) (h : mj_inv P e μ k call f st = some R) :
    mj_inv P e μ k' call' (mr_f ρ f) (st.map (mr_v ρ)) = some (mr_r ρ R) := by
  unfold mj_inv at h ⊢
  split at h
  · cases h
  · rename_i hn
    rw [if_neg]
    · rw [← List.map_drop]
      refine mr_back_ok hk (fun q hq => ?_) h
      have h2 := hc _ _ _ hq
      rw [← h2]
      dsimp only [mr_f]
      rw [mr_args, List.map_reverse, List.map_take]
      rfl
    · rw [← List.map_drop, ← List.map_take, ← List.map_reverse, mr_cat, mr_cat, List.length_map]
      exact hn
theorem mr_dflt {g g' : mjF} (h : mj_go P e μ k call g = (match mj_op e g with | none => none | some f'' => k f'')) (hg : mj_op e g = some g') : mj_go P e μ k call g = k g' := by
  rw [h, hg]
theorem mr_nsp {f' g g' : mjF} (ho : mj_op e f = some f') (hg : mj_op e g = some g') : mj_go P e μ k call g = k g' := by
  obtain ⟨ins, a, b, n⟩ := e
  unfold mj_op at ho
  split at ho
  all_goals first
    | (cases ho; done)
    | (rename_i h1 h2; have h1 : ins = _ := h1; subst h1; exact mr_dflt rfl hg)
    | (rename_i h1; have h1 : ins = _ := h1; subst h1; exact mr_dflt rfl hg)
theorem mr_go_ok (hk : ∀ f', k f' = some R → k' (mr_f ρ f') = some (mr_r ρ R)) (hc : ∀ μ f' q, call μ f' = some q → call' μ (mr_f ρ f') = some (mr_r ρ q)) (hg : mj_go P e μ k call f = some R) :
    mj_go P e μ k' call' (mr_f ρ f) = some (mr_r ρ R) := by
  obtain ⟨ins, a, b, n⟩ := e
  obtain ⟨pc, lv, st, h, cs, ss⟩ := f
  unfold mj_go at hg
  split at hg
  · rename_i h1 h2; have h1 : ins = _ := h1; have h2 : st = _ := h2; subst h1 h2
    split at hg
    · rename_i hq
      have hg := Option.some.inj hg
      subst hg
      exact if_pos hq
    · cases hg
  · rename_i h1 h2; have h1 : ins = _ := h1; have h2 : st = _ := h2; subst h1 h2
    split at hg
    · rename_i ty hty
      split at hg
      · rename_i hq
        have hg := Option.some.inj hg
        subst hg
        unfold mj_go
        dsimp only [mr_f, List.map, mr_v]
        rw [hty]
        exact if_pos hq
      · cases hg
    · cases hg
  · rename_i h1 h2; have h1 : ins = _ := h1; have h2 : st = _ := h2; subst h1 h2
    split at hg
    · rename_i hq
      have hg := Option.some.inj hg
      subst hg
      exact if_pos hq
    · cases hg
  · rename_i h1 h2; have h1 : ins = _ := h1; have h2 : st = _ := h2; subst h1 h2
    split at hg
    · rename_i hq
      have hg := Option.some.inj hg
      subst hg
      exact if_pos hq
    · cases hg
  · rename_i h1 h2; have h1 : ins = _ := h1; have h2 : st = _ := h2; subst h1 h2
    split at hg
    · rename_i hq
      have hg := Option.some.inj hg
      subst hg
      exact if_pos hq
    · cases hg
  · rename_i h1 h2; have h1 : ins = _ := h1; have h2 : st = _ := h2; subst h1 h2
    split at hg
    · rename_i hq
      have hg := Option.some.inj hg
      subst hg
      exact if_pos hq
    · cases hg
  · rename_i h1 h2; have h1 : ins = _ := h1; have h2 : st = _ := h2; subst h1 h2
    split at hg
    · rename_i hq
      have hg := Option.some.inj hg
      subst hg
      exact if_pos hq
    · cases hg
  · rename_i h1; have h1 : ins = _ := h1; subst h1
    split at hg
    · rename_i hq
      have h2 := mr_new (ρ := ρ) (f := (pc, lv, st, h, cs, ss)) (n := 3) (t := b) (N := n) (vs := mj_df b) (st := st) (mr_df b) rfl
      have h3 := hk _ hg
      unfold mj_go
      dsimp only
      rw [if_pos hq]
      dsimp only [mr_f] at h2 h3 ⊢
      rw [h2]
      exact h3
    · rename_i hq
      split at hg
      · rename_i hq2
        have hg := Option.some.inj hg
        subst hg
        unfold mj_go
        dsimp only [mr_f]
        rw [if_neg hq, if_pos ⟨hq2.1, by rw [mr_cat]; exact hq2.2⟩]
        dsimp only [mr_r, mr_s]
        rw [List.map_append]
        rfl
      · cases hg
  · rename_i h1; have h1 : ins = _ := h1; subst h1
    split at hg
    · rename_i hq
      split at hg
      · rename_i h2; have h2 : st = _ := h2; subst h2
        split at hg
        · cases hg
        · rename_i hcp
          split at hg
          · rename_i hq2
            have h3 := hk _ hg
            unfold mj_go
            dsimp only [mr_f, List.map, mr_v] at h3 ⊢
            rw [if_pos hq, mr_cpy hcp]
            dsimp only
            rw [if_pos (by rw [mr_cat]; exact hq2)]
            exact h3
          · cases hg
      · cases hg
    · rename_i hq
      have h2 := mr_inv_ok (ρ := ρ) hk hc hg
      unfold mj_go
      dsimp only
      rw [if_neg hq]
      exact h2
  · rename_i h1; have h1 : ins = _ := h1; subst h1
    split at hg
    · rename_i r hr
      split at hg
      · rename_i kd vs hkd
        split at hg
        · rename_i hq
          have h2 := mr_inv_ok (ρ := ρ) hk hc hg
          unfold mj_go
          dsimp only [mr_f] at h2 ⊢
          rw [mr_vs_at hr]
          dsimp only [mr_v]
          rw [mr_h_at hkd]
          dsimp only
          rw [if_pos hq]
          exact h2
        · cases hg
      · cases hg
    · cases hg
  · rename_i h1; have h1 : ins = _ := h1; subst h1
    split at hg
    · rename_i hq
      split at hg
      · rename_i h2; have h2 : st = _ := h2; subst h2
        split at hg
        · rename_i hq2
          have h3 := hk _ hg
          unfold mj_go
          dsimp only [mr_f, List.map, mr_v] at h3 ⊢
          rw [if_pos hq, if_pos (by rw [mr_cat]; exact hq2)]
          exact h3
        · cases hg
      · cases hg
    · rename_i hq
      split at hg
      · rename_i r hr
        have h2 := mr_inv_ok (ρ := ρ) hk hc hg
        unfold mj_go
        dsimp only [mr_f] at h2 ⊢
        rw [if_neg hq, mr_vs_at hr]
        exact h2
      · cases hg
  · split at hg
    · cases hg
    · rename_i f' hf'
      have h2 := hk _ hg
      rw [mr_nsp hf' (mr_op_ok (ρ := ρ) hf')]
      exact h2
end MRG
section MRR
variable {ρ : Nat → Nat} {P : Nat → mjM}
theorem mr_run_ok : ∀ (n d μ : Nat) (f : mjF) (R : mjR), mj_run P n d μ f = some R → mj_run P n d μ (mr_f ρ f) = some (mr_r ρ R)
  | 0, _, _, _, _, h => by cases h
  | n + 1, 0, _, _, _, h => by cases h
  | n + 1, d + 1, μ, f, R, h => by
    simp only [mj_run] at h ⊢
    have h0 : (mr_f ρ f).1 = f.1 := rfl
    rw [h0]
    split at h
    · cases h
    · rename_i e he
      exact mr_go_ok (ρ := ρ) (fun f' hf' => mr_run_ok n (d + 1) μ f' R hf') (fun μ' f' q hq => mr_run_ok n d μ' f' q hq) h
theorem mh_op_map {b L : Nat} {xs : Nat → Int32} {e : mjE} {f f' : mjF} (h : mh_op 0 L xs e f = some f') : mh_op b L xs e (mr_f (fun _ => b) f) = some (mr_f (fun _ => b) f') := by
  obtain ⟨ins, a, b', n⟩ := e
  obtain ⟨pc, lv, st, hp, cs, ss⟩ := f
  unfold mh_op at h
  split at h
  · rename_i e1; have e1 : ins = _ := e1; subst e1
    split at h
    · rename_i x hl
      have hl2 := mr_ld (ρ := fun _ => b) hl
      unfold mh_op
      dsimp only [mr_f]
      rw [hl2]
      exact mr_mi (ρ := fun _ => b) h
    · cases h
  · rename_i e1 e2; have e1 : ins = _ := e1; have e2 : st = _ := e2; subst e1 e2
    split at h
    · unfold mh_op
      dsimp only [mr_f, List.map, mr_v]
      rw [if_pos rfl]
      exact mr_mi (ρ := fun _ => b) h
    · cases h
  · rename_i e1 e2; have e1 : ins = _ := e1; have e2 : st = _ := e2; subst e1 e2
    split at h
    · rename_i hq
      unfold mh_op
      dsimp only [mr_f, List.map, mr_v]
      rw [if_pos ⟨rfl, hq.2⟩]
      exact mr_mi (ρ := fun _ => b) h
    · cases h
  · cases h
theorem mh_none {b L : Nat} {xs : Nat → Int32} {e : mjE} {f : mjF} {μ : Nat} {k : mjF → Option mjR} {call : Nat → mjF → Option mjR} {R : mjR} (h : mj_go P e μ k call f = some R) : mh_op b L xs e (mr_f (fun _ => b) f) = none ∨ ∃ f', mh_op 0 L xs e f = some f' := by
  obtain ⟨ins, a, b', n⟩ := e
  obtain ⟨pc, lv, st, hp, cs, ss⟩ := f
  cases hq : mh_op b L xs (ins, a, b', n) (mr_f (fun _ => b) (pc, lv, st, hp, cs, ss)) with
  | none => exact Or.inl rfl
  | some g =>
    exfalso
    unfold mh_op at hq
    split at hq
    · rename_i kk e1
      have e1 : ins = _ := e1
      subst e1
      have h2 : (match mj_op (.aload_n kk, a, b', n) (pc, lv, st, hp, cs, ss) with | none => none | some f' => k f') = some R := h
      cases ho : mj_op (.aload_n kk, a, b', n) (pc, lv, st, hp, cs, ss) with
      | none => rw [ho] at h2; cases h2
      | some f' =>
        unfold mj_op at ho
        dsimp only at ho
        split at ho
        · rename_i x hl
          have hl2 : mj_ld (lv.map (mr_q (fun _ => b))) kk = some (.ref x) := mr_ld (ρ := fun _ => b) hl
          dsimp only [mr_f] at hq
          rw [hl2] at hq
          cases hq
        · rename_i hl
          have hl2 : mj_ld (lv.map (mr_q (fun _ => b))) kk = some .null := mr_ld (ρ := fun _ => b) hl
          dsimp only [mr_f] at hq
          rw [hl2] at hq
          cases hq
        · cases ho
    · rename_i x st' e1 e2
      have e1 : ins = _ := e1
      subst e1
      cases st with
      | nil => cases e2
      | cons v st =>
        cases v with
        | retAddr y => cases h
        | _ => cases e2
    · rename_i i x st' e1 e2
      have e1 : ins = _ := e1
      subst e1
      cases st with
      | nil => cases e2
      | cons v st =>
        cases v with
        | int y =>
          cases st with
          | nil => cases e2
          | cons w st =>
            cases w with
            | retAddr y => cases h
            | _ => cases e2
        | _ => cases e2
    · cases hq
theorem mh_map {b L : Nat} {xs : Nat → Int32} : ∀ (n d : Nat) (f : mjF) (R : mjR), mh_run 0 L xs P n d f = some R → mh_run b L xs P n d (mr_f (fun _ => b) f) = some (mr_r (fun _ => b) R)
  | 0, _, _, _, h => by cases h
  | n + 1, d, f, R, h => by
    simp only [mh_run] at h ⊢
    have h0 : (mr_f (fun _ => b) f).1 = f.1 := rfl
    rw [h0]
    split at h
    · cases h
    · rename_i e he
      split at h
      · rename_i f' hf'
        rw [mh_op_map hf']
        exact mh_map n d f' R h
      · rename_i hn
        rcases mh_none (b := b) (L := L) (xs := xs) h with q | ⟨f', q⟩
        · rw [q]
          exact mr_go_ok (ρ := fun _ => b) (fun f' hf' => mh_map n d f' R hf') (fun μ' f' q hq => mr_run_ok n d μ' f' q hq) h
        · rw [q] at hn
          cases hn
end MRR
