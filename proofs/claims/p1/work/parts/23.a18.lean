theorem mj_hh_of {μ : Nat} (hμ : μ ∈ mj_mu) (h : (mj_P μ).2.2.2.2.isEmpty = true) : (mj_m μ).2.2.2.2.1 = [] := by
  rw [(mj_mt_get hμ).2.1] at h
  exact List.isEmpty_iff.mp h
section MS
variable {p : Program} {l : Launch} {e : Env} {R : Room} {s : State} {m : MethodId} {args : Array Value} {below : List Frame} {meth : Method} {c : Code} {Q : State → Prop} {cc : ByteArray}
variable {D : va_G} {dA : Nat → ClassId} {z nL : Nat}
variable {o μ d : Nat} {ini : Bool} {en : mjE} {pc cs ss : Nat} {lv : List (Nat × Value)} {st : List Value} {h : mjH} {k : mjF → Option mjR} {call : Nat → mjF → Option mjR} {r : Option Value ⊕ Nat} {hr : mjH} {cr sr : Nat}
/-- behind a call -/
theorem mj_back_ok {thr : Bool} {rest : List Value} {res : Option mjR} (S : CallFix p m c cc nL s args gw (mj_own o)) (hKK : mj_KK D dA z s)
    (hCk : ∀ pc' e', mj_at (mj_P μ).2.2.2.1 pc' = some e' → decode cc pc' = .ok (e'.1, mj_len e'.1) ∧ mj_cke o ini nL pc' e' = true)
    (hk : ∀ f', k f' = some (r, hr, cr, sr) → f'.2.2.2.2.1 ≤ cr ∧ f'.2.2.2.2.2 ≤ sr ∧ mj_W p l e R s m args below meth c Q D dA z nL f')
    (hX : ∀ x, r = .inr x → (mj_P μ).2.2.2.2.isEmpty = true → ∀ (H1 : Heap) (locs1 : List Loc) (ls : Array Slot) (rest : List Value) (q : Addr) (E : String) (ce : Cell), mj_exc[x]? = some E → mj_P_ D dA z hr H1 → (∀ q : Nat, q < z → H1[q]? = s.heap[q]?) → (∀ q ∈ locs1, z ≤ q.base) → H1[q]? = some ce → ce.vm = .none → s.vm.findClass E = some ce.cls → vx_W p l e R s m args below meth c H1 locs1 cr sr Q (F0 m pc ls rest) q)
    (hH : ∀ x y E, (mj_P μ).2.2.2.2.find? (fun q => decide (q.1 ≤ pc ∧ pc < q.2.1 ∧ q.2.2.2 = x)) = some y → mj_exc[x]? = some E → ∀ (H1 : Heap) (locs1 : List Loc) (ls : Array Slot) (rest : List Value) (q : Addr) (ce : Cell) (c1 s1 : Nat), H1[q]? = some ce → ce.vm = .none → s.vm.findClass E = some ce.cls → W p l e R s m args below meth c H1 locs1 c1 s1 Q (F0 m y.2.2.1 ls [.ref q]) → vx_W p l e R s m args below meth c H1 locs1 c1 s1 Q (F0 m pc ls rest) q)
    (hrun : ∀ rr hh', res = some (rr, hh') → (∃ a : Array Value, (thr = false → ∃ v, rr = .inl v) → (cs + hh'.2.1 ≤ cr ∧ ss + hh'.2.2 ≤ sr) → ∀ (H : Heap) (locs : List Loc) (ls : Array Slot), mj_P_ D dA z h H → (∀ q : Nat, q < z → H[q]? = s.heap[q]?) → ls.size = nL →
      vx_Run p l e R s m args below meth c H locs cs ss hh'.2.1 hh'.2.2 (F0 m pc ls (st.map (mj_v z))) (rest.map (mj_v z)) (mj_Q D dA z rr hh'.1 a) (mj_X D dA z rr hh'.1) (fun q => z ≤ q)))
    (hb : mj_back thr (mj_P μ).2.2.2.1 (mj_P μ).2.2.2.2 k (pc, lv, st, h, cs, ss) rest res = some (r, hr, cr, sr)) : mj_W p l e R s m args below meth c Q D dA z nL (pc, lv, st, h, cs, ss) := by
  intro H locs ls a1 a2 a3 a4
  cases res with
  | none => cases hb
  | some res =>
    obtain ⟨rr, hh'⟩ := res
    obtain ⟨a, hrun⟩ := hrun rr hh' rfl
    cases rr with
    | inl v =>
      obtain ⟨k1, k2, k3⟩ := hk _ hb
      exact mj_after (hrun (fun _ => ⟨v, rfl⟩) ⟨k1, k2⟩ H locs ls a1 a2 a4.1) a2 a3 a4 k3
    | inr x =>
      simp only [mj_back] at hb
      split at hb
      · cases hb
      · rename_i hthr
        split at hb
        · rename_i hemp
          have hb := Option.some.inj hb
          simp only [Prod.mk.injEq, mj_add] at hb
          obtain ⟨rfl, rfl, rfl, rfl⟩ := hb
          exact mj_afterX (hrun (fun q => absurd q hthr) ⟨Nat.le_refl _, Nat.le_refl _⟩ H locs ls a1 a2 a4.1) a2 a3 (fun H1 locs1 q E ce hE hP hF hL hce hcv hcl => hX x rfl hemp H1 locs1 ls _ q E ce hE hP hF hL hce hcv hcl)
        · split at hb
          · cases hb
          · rename_i y hy
            unfold mj_hand at hb
            split at hb
            · cases hb
            · rename_i e' he'
              obtain ⟨hd', hc'⟩ := hCk _ _ he'
              split at hb
              · rename_i i hi
                obtain ⟨k1, k2, k3⟩ := hk _ hb
                refine mj_afterX (hrun (fun q => absurd q hthr) ⟨k1, k2⟩ H locs ls a1 a2 a4.1) a2 a3 (fun H1 locs1 q E ce hE hP hF hL hce hcv hcl => hH x y E hy hE H1 locs1 ls _ q ce _ _ hce hcv hcl ?_)
                rw [hi] at hd'
                have hlt : (i : Nat) < nL := by
                  unfold mj_cke at hc'
                  rw [hi] at hc'
                  exact of_decide_eq_true hc'
                refine lv_astore_n S.1 S.2.1 hd' rfl a4 hlt rfl (fun ls' h' => k3 H1 locs1 ls' hP hF hL ?_)
                refine ⟨h'.1, h'.2.1, fun q hq => h'.2.2 q (List.mem_cons_of_mem _ ?_)⟩
                unfold mj_rm1 at hq
                obtain ⟨q0, hq0, rfl⟩ := List.mem_map.mp hq
                obtain ⟨g1, g2⟩ := List.mem_filter.mp hq0
                refine List.mem_filter.mpr ⟨List.mem_map.mpr ⟨q0, g1, rfl⟩, ?_⟩
                simpa only [mj_q, mj_v_cat] using g2
              · rename_i i hi
                obtain ⟨k1, k2, k3⟩ := hk _ hb
                refine mj_afterX (hrun (fun q => absurd q hthr) ⟨k1, k2⟩ H locs ls a1 a2 a4.1) a2 a3 (fun H1 locs1 q E ce hE hP hF hL hce hcv hcl => hH x y E hy hE H1 locs1 ls _ q ce _ _ hce hcv hcl ?_)
                rw [hi] at hd'
                have hlt : i < nL := by
                  unfold mj_cke at hc'
                  rw [hi] at hc'
                  exact of_decide_eq_true hc'
                refine lv_astore S.1 S.2.1 hd' a4 hlt rfl (fun ls' h' => k3 H1 locs1 ls' hP hF hL ?_)
                refine ⟨h'.1, h'.2.1, fun q hq => h'.2.2 q (List.mem_cons_of_mem _ ?_)⟩
                unfold mj_rm1 at hq
                obtain ⟨q0, hq0, rfl⟩ := List.mem_map.mp hq
                obtain ⟨g1, g2⟩ := List.mem_filter.mp hq0
                refine List.mem_filter.mpr ⟨List.mem_map.mpr ⟨q0, g1, rfl⟩, ?_⟩
                simpa only [mj_q, mj_v_cat] using g2
              · cases hb
end MS
