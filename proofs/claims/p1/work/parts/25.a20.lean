theorem mj_back_mono {thr : Bool} {C : mjC} {hh : List (Nat × Nat × Nat × Nat)} {k : mjF → Option mjR} {f : mjF} {rest : List Value} {res : Option mjR} {R : mjR} (hk : ∀ f', k f' = some R → f'.2.2.2.2.1 ≤ R.2.2.1 ∧ f'.2.2.2.2.2 ≤ R.2.2.2) (hb : mj_back thr C hh k f rest res = some R) : f.2.2.2.2.1 ≤ R.2.2.1 ∧ f.2.2.2.2.2 ≤ R.2.2.2 := by
  cases res with
  | none => cases hb
  | some res =>
    obtain ⟨rr, r⟩ := res
    cases rr with
    | inl v =>
      have h := hk _ hb
      exact ⟨Nat.le_trans (Nat.le_add_right _ _) h.1, Nat.le_trans (Nat.le_add_right _ _) h.2⟩
    | inr x =>
      simp only [mj_back] at hb
      split at hb
      · cases hb
      · split at hb
        · have hb := Option.some.inj hb
          subst hb
          exact ⟨Nat.le_add_right _ _, Nat.le_add_right _ _⟩
        · split at hb
          · cases hb
          · unfold mj_hand at hb
            split at hb
            · cases hb
            · split at hb
              · have h := hk _ hb
                exact ⟨Nat.le_trans (Nat.le_add_right _ _) h.1, Nat.le_trans (Nat.le_add_right _ _) h.2⟩
              · have h := hk _ hb
                exact ⟨Nat.le_trans (Nat.le_add_right _ _) h.1, Nat.le_trans (Nat.le_add_right _ _) h.2⟩
              · cases hb
theorem mj_inv_mono {P : Nat → mjM} {en : mjE} {μ : Nat} {k : mjF → Option mjR} {call : Nat → mjF → Option mjR} {f : mjF} {st : List Value} {R : mjR} (hk : ∀ f', k f' = some R → f'.2.2.2.2.1 ≤ R.2.2.1 ∧ f'.2.2.2.2.2 ≤ R.2.2.2) (hg : mj_inv P en μ k call f st = some R) : f.2.2.2.2.1 ≤ R.2.2.1 ∧ f.2.2.2.2.2 ≤ R.2.2.2 := by
  unfold mj_inv at hg
  split at hg
  · cases hg
  · exact mj_back_mono hk hg
theorem mj_go_mono {P : Nat → mjM} {en : mjE} {μ : Nat} {k : mjF → Option mjR} {call : Nat → mjF → Option mjR} {f : mjF} {R : mjR} (hk : ∀ f', k f' = some R → f'.2.2.2.2.1 ≤ R.2.2.1 ∧ f'.2.2.2.2.2 ≤ R.2.2.2) (hg : mj_go P en μ k call f = some R) : f.2.2.2.2.1 ≤ R.2.2.1 ∧ f.2.2.2.2.2 ≤ R.2.2.2 := by
  unfold mj_go at hg
  simp only [mj_ret] at hg
  split at hg
  · split at hg
    · have hg := Option.some.inj hg; subst hg; exact ⟨Nat.le_refl _, Nat.le_refl _⟩
    · cases hg
  · split at hg
    · split at hg
      · have hg := Option.some.inj hg; subst hg; exact ⟨Nat.le_refl _, Nat.le_refl _⟩
      · cases hg
    · cases hg
  · split at hg
    · have hg := Option.some.inj hg; subst hg; exact ⟨Nat.le_refl _, Nat.le_refl _⟩
    · cases hg
  · split at hg
    · have hg := Option.some.inj hg; subst hg; exact ⟨Nat.le_refl _, Nat.le_refl _⟩
    · cases hg
  · split at hg
    · have hg := Option.some.inj hg; subst hg; exact ⟨Nat.le_refl _, Nat.le_refl _⟩
    · cases hg
  · split at hg
    · have hg := Option.some.inj hg; subst hg; exact ⟨Nat.le_refl _, Nat.le_refl _⟩
    · cases hg
  · split at hg
    · have hg := Option.some.inj hg; subst hg; exact ⟨Nat.le_refl _, Nat.le_refl _⟩
    · cases hg
  · split at hg
    · have h := hk _ hg
      exact ⟨Nat.le_trans (Nat.le_add_right _ _) h.1, Nat.le_trans (Nat.le_add_right _ _) h.2⟩
    · split at hg
      · have hg := Option.some.inj hg; subst hg; exact ⟨Nat.le_add_right _ _, Nat.le_add_right _ _⟩
      · cases hg
  · split at hg
    · split at hg
      · split at hg
        · cases hg
        · split at hg
          · have h := hk _ hg
            exact h
          · cases hg
      · cases hg
    · exact mj_inv_mono hk hg
  · split at hg
    · split at hg
      · split at hg
        · exact mj_inv_mono hk hg
        · cases hg
      · cases hg
    · cases hg
  · split at hg
    · split at hg
      · split at hg
        · have h := hk _ hg
          exact h
        · cases hg
      · cases hg
    · split at hg
      · exact mj_inv_mono hk hg
      · cases hg
  · split at hg
    · cases hg
    · rename_i f' hf'
      have h1 := mj_op_mono hf'
      have h2 := hk _ hg
      exact ⟨Nat.le_trans h1.1 h2.1, Nat.le_trans h1.2 h2.2⟩
theorem mj_run_mono {P : Nat → mjM} : ∀ (n d μ : Nat) (f : mjF) (R : mjR), mj_run P n d μ f = some R → f.2.2.2.2.1 ≤ R.2.2.1 ∧ f.2.2.2.2.2 ≤ R.2.2.2
  | 0, _, _, _, _, h => by cases h
  | n + 1, 0, _, _, _, h => by cases h
  | n + 1, d + 1, μ, f, R, h => by
    simp only [mj_run] at h
    split at h
    · cases h
    · exact mj_go_mono (fun f' hf' => mj_run_mono n (d + 1) μ f' R hf') h
theorem mj_isref_ok {t : Option FieldType} (h : mj_isref t = true) : ∃ rt, t = some rt ∧ ((∃ n, rt = .object n) ∨ ∃ t, rt = .array t) := by
  unfold mj_isref at h
  split at h
  · exact ⟨_, rfl, Or.inl ⟨_, rfl⟩⟩
  · exact ⟨_, rfl, Or.inr ⟨_, rfl⟩⟩
  · cases h
section ME
variable {p : Program} {l : Launch} {e : Env} {R : Room} {s : State} {m : MethodId} {args : Array Value} {below : List Frame} {meth : Method} {c : Code} {cc : ByteArray}
variable {D : va_G} {dA : Nat → ClassId} {z nL : Nat}
variable {o μ d : Nat} {en : mjE} {pc cs ss : Nat} {lv : List (Nat × Value)} {st : List Value} {h : mjH} {v : Option Value}
/-- a return -/
theorem mj_ret_ok (hx : p.tables.exec = Jvm.exec) (hb : c.code = cc) (hret : meth.sig.returnType = (mj_P μ).2.2.1) (hlocks : meth.locks = false)
    (hd : decode cc pc = .ok (en.1, mj_len en.1)) (he : mj_end (mj_P μ) en st = some v) {X : String → State → State → Prop} :
    mj_W p l e R s m args below meth c (vx_MQ below (mj_Q D dA z (.inl v) h) X args s cs ss (fun q => z ≤ q)) D dA z nL (pc, lv, st, h, cs, ss) := by
  obtain ⟨ins, a, b, n⟩ := en
  intro H locs ls a1 a2 a3 a4
  have hq : ∀ (t : State), t.heap = H → mj_Q D dA z (.inl v) h args s (.returned (v.map (mj_v z))) t := fun t ht => ⟨⟨v, rfl, rfl⟩, by rw [ht]; exact a1, fun q hq => by rw [ht]; exact a2 q hq⟩
  refine vx_ret ?_
  unfold mj_end at he
  split at he
  · rename_i h1
    have h1 : ins = _ := h1
    subst h1
    split at he
    · rename_i hn
      cases he
      exact W.vret hx hb (hret.trans hn) (fun t ht _ => hq t ht) a3 hd hlocks
    · cases he
  · rename_i x h1
    have h1 : ins = _ := h1
    subst h1
    split at he
    · rename_i ty hty
      split at he
      · rename_i hnar
        cases he
        exact W.zret hx hb (hret.trans hty) hnar (fun t ht _ => hq t ht) a3 hd hlocks
      · cases he
    · cases he
  · rename_i x h1
    have h1 : ins = _ := h1
    subst h1
    split at he
    · rename_i hn
      cases he
      exact W.lret hx hb (hret.trans hn) (fun t ht _ => hq t ht) a3 hd hlocks
    · cases he
  · rename_i x h1
    have h1 : ins = _ := h1
    subst h1
    split at he
    · rename_i hn
      cases he
      exact W.fret hx hb (hret.trans hn) (fun t ht _ => hq t ht) a3 hd hlocks
    · cases he
  · rename_i x h1
    have h1 : ins = _ := h1
    subst h1
    split at he
    · rename_i hn
      cases he
      exact W.dret hx hb (hret.trans hn) (fun t ht _ => hq t ht) a3 hd hlocks
    · cases he
  · rename_i x h1
    have h1 : ins = _ := h1
    subst h1
    split at he
    · rename_i hq9
      cases he
      obtain ⟨rt, g1, g2⟩ := mj_isref_ok hq9
      exact W.aret hx hb (hret.trans g1) g2 (Or.inr ⟨_, rfl⟩) (fun t ht _ => hq t ht) a3 hd hlocks
    · cases he
  · rename_i h1
    have h1 : ins = _ := h1
    subst h1
    split at he
    · rename_i hq9
      cases he
      obtain ⟨rt, g1, g2⟩ := mj_isref_ok hq9
      exact W.aret hx hb (hret.trans g1) g2 (Or.inl rfl) (fun t ht _ => hq t ht) a3 hd hlocks
    · cases he
  · cases he
/-- 'throw new E()' -/
theorem mj_thr_ok (S : CallFix p m c cc nL s args gw (mj_own o)) (hl : l.stackTraces = false) (hKK : mj_KK D dA z s) (hlocks : meth.locks = false) (hout : ∀ x ∈ c.exceptionTable.toList, False) {idx a b n : Nat} (ha : a ≠ 0) (hc : mj_ckx o cc pc (.new idx, a, b, n) = true) (hd : decode cc pc = .ok (.new idx, 3))
    (hcat : mj_cat st ≤ 8) (hRf : 6 ≤ R.frames) (hRl : 100 ≤ R.locals) (hcs : cs + 1 ≤ R.cells) (hss : ss + 6 ≤ R.slots) :
    mj_W p l e R s m args below meth c (vx_MQ below (mj_Q D dA z (.inr b) (h ++ [(99, [])])) (mj_X D dA z (.inr b) (h ++ [(99, [])])) args s (cs + 1) (ss + 6) (fun q => z ≤ q)) D dA z nL (pc, lv, st, h, cs, ss) := by
  intro H locs ls a1 a2 a3 a4 T hT X
  have hsz : s.heap.size ≤ H.size := by
    rw [← hT]
    exact X.same.2.1
  simp only [mj_ckx, if_neg ha, Bool.and_eq_true, decide_eq_true_eq] at hc
  obtain ⟨⟨⟨⟨rfl, hmem⟩, d3⟩, d4⟩, d7⟩ := hc
  obtain ⟨g1, g2, g3⟩ := mj_xt_fit hmem
  have hown7 : mj_own 7 = RX7 := rfl
  have hw : ∀ w ∈ mj_xw (idx, n, b), w.before args s = true ∧ vx_ot w = true := by
    intro w hw
    have h9 := List.all_eq_true.mp g1 w hw
    simp only [Bool.and_eq_true, decide_eq_true_eq, Bool.or_eq_true] at h9
    refine ⟨?_, h9.1.2⟩
    rcases h9.2 with q | q
    · exact S.2.2.2.2 w (List.mem_filter.mpr ⟨h9.1.1, q⟩)
    · have h5 := hKK.2.2.2.2.1 w (List.mem_filter.mpr ⟨h9.1.1, q⟩)
      unfold mj_isng at q
      split at q
      · exact va_Nw.use rfl h5
      · exact va_Nw.use rfl h5
      · cases q
  refine (mj_throw0 (own := RX7) (cls := mj_en b) (names := ["java/lang/RuntimeException", "java/lang/Exception"]) (ik := idx) (ic := n) (A := fun q : Nat => z ≤ q) S.1 S.2.1 hl S.2.2.2.1 g2 mj_xt_names (hw _ List.mem_cons_self).1 (hw _ (List.mem_cons_of_mem _ List.mem_cons_self)).1 (fun w hq => (hw w (List.mem_cons_of_mem _ (List.mem_cons_of_mem _ hq))).1) (fun w hq => (hw w hq).2)
    hKK.2.2.1 hKK.2.2.2.1 ⟨?_, fun q h1 h2 => a2 q (Nat.not_le.mp h2), a3⟩ (a4.1.trans S.2.2.1.symm) hd d3 d4 d7 (fun x hx => (hout x hx).elim) (Nat.lt_of_lt_of_le (by decide : (2 : Nat) + 3 < 6) hRf) ?_ hcs hss hlocks (fun t hA hz hq => ⟨⟨b, rfl, g3⟩, ?_, fun q hq2 => ?_⟩) a3 (Nat.le_refl _) (Nat.le_refl _)) T hT X
  · exact hsz
  · rw [mj_cat_map]
    show mj_cat st + (13 * (2 + 1) + 42) ≤ R.locals
    omega
  · exact a1.push hz hq ⟨fun q => absurd q (by show ¬ 99 < 8; decide), fun _ q => absurd q (by show ¬ 99 < 30; decide)⟩
  · rw [hq q (by rw [a1.1]; omega)]
    exact a2 q hq2
end ME
