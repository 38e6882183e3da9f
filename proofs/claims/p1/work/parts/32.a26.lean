/-! THE LAW'S BODY BY THE SMALL MACHINE, with the script: 'retAddr b' stands for it -/
def mh_op (b L : Nat) (xs : Nat → Int32) (e : mjE) (f : mjF) : Option mjF := match e.1, f.2.2.1 with
  | .aload_n k, st => match mj_ld f.2.1 k with
    | some (.retAddr x) => mj_i f 1 (.retAddr x) st
    | _ => none
  | .arraylength, .retAddr x :: st => if x = b then mj_i f 1 (.int (Int32.ofNat L)) st else none
  | .iaload, .int i :: .retAddr x :: st => if x = b ∧ ¬ (i < 0 ∨ L ≤ i.toNatClampNeg) then mj_i f 1 (.int (xs i.toNatClampNeg)) st else none
  | _, _ => none
def mh_run (b L : Nat) (xs : Nat → Int32) (P : Nat → mjM) : Nat → Nat → mjF → Option mjR
  | 0, _, _ => none
  | n + 1, d, f => match mj_at (P 329).2.2.2.1 f.1 with
    | none => none
    | some e => match mh_op b L xs e f with
      | some f' => mh_run b L xs P n d f'
      | none => mj_go P e 329 (fun f' => mh_run b L xs P n d f') (fun μ' f' => mj_run P n d μ' f') f
theorem mh_op_same {b L : Nat} {xs : Nat → Int32} {e : mjE} {f f' : mjF} (h : mh_op b L xs e f = some f') : f'.2.2.2.2 = f.2.2.2.2 := by
  unfold mh_op at h
  split at h
  · split at h
    · cases h; rfl
    · cases h
  · split at h
    · cases h; rfl
    · cases h
  · split at h
    · cases h; rfl
    · cases h
  · cases h
theorem mh_run_mono {b L : Nat} {xs : Nat → Int32} {P : Nat → mjM} : ∀ (n d : Nat) (f : mjF) (R : mjR), mh_run b L xs P n d f = some R → f.2.2.2.2.1 ≤ R.2.2.1 ∧ f.2.2.2.2.2 ≤ R.2.2.2
  | 0, _, _, _, h => by cases h
  | n + 1, d, f, R, h => by
    simp only [mh_run] at h
    split at h
    · cases h
    · split at h
      · rename_i f' hf'
        have h1 := mh_run_mono n d f' R h
        rw [mh_op_same hf'] at h1
        exact h1
      · exact mj_go_mono (fun f' hf' => mh_run_mono n d f' R hf') h
section MH2
variable {p : Program} {l : Launch} {e : Env} {R : Room} {s : State} {m : MethodId} {args : Array Value} {below : List Frame} {meth : Method} {c : Code} {Q : State → Prop} {cc : ByteArray}
variable {D : va_G} {dA : Nat → ClassId} {z nL : Nat}
variable {pc : Nat} {lv : List (Nat × Value)} {st : List Value} {r : mjH × Nat × Nat} {en : mjE} {f f' : mjF}
theorem mh_op_ok (hx : p.tables.exec = Jvm.exec) (hb : c.code = cc) (hKK : mj_KK D dA z s) (hd : decode cc f.1 = .ok (en.1, mj_len en.1)) (ho : mh_op (dA 40) (dA 41) (mj_sx dA) en f = some f') (k : mj_W p l e R s m args below meth c Q D dA z nL f') : mj_W p l e R s m args below meth c Q D dA z nL f := by
  obtain ⟨ins, a, b, n⟩ := en
  obtain ⟨pc, lv, st, h, cs, ss⟩ := f
  obtain ⟨h0, scr, h1, h2, h3, h4, h5⟩ := hKK.2.2.2.2.2.2
  unfold mh_op at ho
  split at ho
  · rename_i e1; have e1 : ins = _ := e1; subst e1
    split at ho
    · rename_i x hl
      cases ho
      exact fun H locs ls a1 a2 a3 a4 => lv_aload_n hx hb hd rfl (mj_ld_has a4 hl) (k H locs ls a1 a2 a3 a4)
    · cases ho
  · rename_i e1 e2; have e1 : ins = _ := e1; have e2 : st = _ := e2; subst e1 e2
    split at ho
    · rename_i hq
      subst hq
      cases ho
      exact fun H locs ls a1 a2 a3 a4 => W.alen (n := Int32.ofNat (dA 41)) hx hb (by rw [a2 _ h0]; exact h1) h2 (by rw [h4]) rfl rfl hd (k H locs ls a1 a2 a3 a4)
    · cases ho
  · rename_i e1 e2; have e1 : ins = _ := e1; have e2 : st = _ := e2; subst e1 e2
    split at ho
    · rename_i hq
      obtain ⟨rfl, hq⟩ := hq
      cases ho
      exact fun H locs ls a1 a2 a3 a4 => W.iald (v := .int (mj_sx dA _)) hx hb (by rw [a2 _ h0]; exact h1) h2 h3 (by rw [h4]; exact hq) (h5 _ (Nat.not_le.mp fun q => hq (Or.inr q))) rfl rfl hd (k H locs ls a1 a2 a3 a4)
    · cases ho
  · cases ho
end MH2
theorem mh_end {st : List Value} {en : mjE} (h : mj_end (mj_P 329) en st = some (some (.int 1))) : en.1 = .ireturn ∧ st = [.int 1] := by
  unfold mj_end at h
  split at h
  all_goals (try (split at h))
  all_goals (try (split at h))
  all_goals (try (cases h; done))
  all_goals (rename_i q1 q2 _ _ _; exact ⟨by assumption, by cases h; rfl⟩)
/-! THE CLAIM OUT OF ONE WALK OF THE LAW'S BODY. Your part is whole_start (and what it stands on); all else here is the same for every law, but numbers. -/
def R_law : String := "DesignsOfficeLaw"
def lw_P (b : Addr) (xs : List Int32) (args : Array Value) (s : State) : Prop := args = #[.ref b] ∧ s.IntsAt b xs ∧ xs.length ≤ 5 ∧ (Jvm.Cond.and given_1 narrow_1).before args s = true
/-- what a walk over the start with the record d0 says of its end, said of the start itself -/
theorem lw_closed {s t : State} {o : Outcome} {d0 : Drawn} {L : List Loc} {k n : Nat} (hd0 : s.drawn.sameBut d0 lw_cs) (hv : ∃ v, o = .returned v) (hW : (s.setDrawn d0).WarmedH t.vm) (hs : (s.setDrawn d0).sameButNew ({ t with vm := s.vm } : State) L k n) : State.butDraws s t lw_cs (fun t1 => Framed s o t1 L k n) := by
  have h2 : t.drawn = d0 := congrArg State.drawn hs.1
  refine ⟨⟨hv, hW, State.sameButNew.setDrawn hs s.drawn⟩, ?_, by decide⟩
  rw [h2]
  exact hd0
def lw_Q (_ : Array Value) (s : State) (o : Outcome) (t : State) : Prop := o = .returned (some (.int 1)) ∧ State.butDraws s t lw_cs (fun t1 => Framed s o t1 [] 600006 7302024)
def lw_Z (below : List Frame) (a : Array Value) (s : State) : State → Prop := fun t => ∃ o, t.status = .running ∧ Ended t below o ∧ lw_Q a s o t
/-- the law's own end, with 1 on the stack, nothing written that was there before, its room as the claim has it; d0: the record of draws at this point (at the entry s.drawn: begin with 'refine W.base ?_' and 'have hd0 := Drawn.sameBut.refl s.drawn lw_cs') -/
theorem lw_ret {p : Program} {l : Launch} {e : Env} {s : State} {m : MethodId} {below : List Frame} {meth : Method} {c : Code} {b : Nat} {d0 : Drawn} (hd0 : s.drawn.sameBut d0 lw_cs) (hx : p.tables.exec = Jvm.exec) (hb : c.code = code) (hr : meth.sig.returnType = ret) (hlocks : meth.locks = false) {pc : Nat} {H : Heap} {ls : Array Slot} (hdg : decode code pc = .ok (.ireturn, 1)) : W p l e room_1 (s.setDrawn d0) m #[Value.ref b] below meth c H [] 600006 7302024 (lw_Z below #[Value.ref b] s) (F0 m pc ls [.int 1]) := by
  intro T hT X
  obtain ⟨fs, hret, hrun, hended, hW, hframe⟩ := X.leave (v := some (.int 1)) (hlocks := hlocks) (fun h => by rw [hr] at h; cases h)
  have hmeth' : T.vm.method? m = some meth := X.method'
  refine ⟨T.setFrames fs, ?_, .returned (some (.int 1)), hrun, hended, rfl, lw_closed hd0 ⟨_, rfl⟩ hW hframe⟩
  jvm_step X.here [X.here.top, hx, hb, hdg, hmeth', hr, ret, narrow_b1]
  (try refine ⟨rfl, ?_⟩); (try refine ⟨rfl, ?_⟩)
  first | (intro acts; rw [hret _ acts rfl rfl rfl]) | rw [hret _ _ rfl rfl rfl]
  exact Steps.refl _
/-- what holds at the law's entry: the machine, the code, the tables' words (any of lw_tbl by 'hts w (by decide +kernel)'), the script of L ints xs at the cell b, what the Statement gives of the start (any of its parts by flat_of_before) -/
def lw_At (p : Program) (s : State) (m : MethodId) (meth : Method) (c : Code) (b L : Nat) (xs : Nat → Int32) : Prop :=
  p.tables.exec = Jvm.exec ∧ c.code = code ∧ meth.sig.returnType = ret ∧ c.maxLocals = 9 ∧ s.vm.findClass R_law = some m.cls ∧ (∀ w ∈ lw_tbl, w.before #[Value.ref b] s = true) ∧ va_X b L xs s s.heap ∧ b < s.heap.size ∧ meth.locks = false ∧ (Jvm.Cond.and given_1 narrow_1).before #[Value.ref b] s = true
theorem mh_PL : (mj_P 329).1 = 13 ∧ (mj_P 329).2.2.2.2 = [] := ⟨rfl, rfl⟩
/-- what the small machine says of the law's body holds of it -/
theorem mh_ok {p : Program} {l : Launch} {e : Env} {s : State} {m : MethodId} {below : List Frame} {meth : Method} {c : Code} {b L : Nat} {xs : Nat → Int32} {D : va_G} {dA : Nat → ClassId}
    (hl : l.stackTraces = false) (hck : mj_ck 13 code false 9 0 (mj_P 329).2.2.2.1 = true) (C0 : lw_At p s m meth c b L xs) (hKK : mj_KK D dA s.heap.size s) {hr : mjH} {cr sr : Nat} (hcr : cr ≤ 600006) (hsr : sr ≤ 7302024) {d : Nat} (hd : d = 100) :
    ∀ (n : Nat) (f : mjF), mh_run (dA 40) (dA 41) (mj_sx dA) mj_P n d f = some (.inl (some (.int 1)), hr, cr, sr) → mj_W p l e room_1 s m #[Value.ref b] below meth c (lw_Z below #[Value.ref b] s) D dA s.heap.size 9 f := by
  obtain ⟨hx, hb, hret, hml, hown, hts, hX, hbl, hlocks, hgv⟩ := id C0
  intro n
  induction n with
  | zero => intro f h; cases h
  | succ n ih =>
    intro f h
    have hmono := mh_run_mono (n + 1) d f _ h
    simp only [mh_run] at h
    split at h
    · cases h
    · rename_i en hen
      obtain ⟨pc, lv, st, hp, cs, ss⟩ := f
      have hCk : ∀ pc' e', mj_at (mj_P 329).2.2.2.1 pc' = some e' → decode code pc' = .ok (e'.1, mj_len e'.1) ∧ mj_cke 13 false 9 pc' e' = true := fun pc' e' q => (mj_ck_ok hck q).1
      split at h
      · rename_i f' hf'
        exact mh_op_ok hx hb hKK (hCk _ _ hen).1 hf' (ih f' h)
      · refine mj_go_ok (o := 13) (μ := 329) (d := d) (ini := false) (en := en) (cc := code) (r := .inl (some (.int 1))) (hr := hr) (cr := cr) (sr := sr) (k := fun f' => mh_run (dA 40) (dA 41) (mj_sx dA) mj_P n d f') (call := fun μ' f' => mj_run mj_P n d μ' f') ⟨hx, hb, hml, hown, fun w hw => hts w (List.mem_filter.mp hw).1⟩ (fun q => by cases q) hKK hCk hen (by rw [hd]; decide) (by rw [hd]; decide) hcr hsr ?_ ?_ ?_ ?_ ?_ ?_ ?_ h
        · exact fun μ' as res hq hμ' hcat => mj_met_of mj_certs (mj_all hl mj_certs n) hμ' hcat hq
        · exact fun μ' hμ' hn => (mj_cert_get (mj_certs μ' hμ')).2.2.2 (decide_eq_true hn)
        · intro f' hf'
          have hm := mh_run_mono n d f' _ hf'
          exact ⟨hm.1, hm.2, ih f' hf'⟩
        · intro v hv e1 e2 e3 e4
          cases e1
          obtain ⟨g1, g2⟩ := mh_end hv
          subst g2
          have hdg := (hCk _ _ hen).1
          rw [g1] at hdg
          intro H locs ls a1 a2 a3 a4
          refine va_forget a3 ?_
          refine W.widen (k := 600006) (n := 7302024) (Nat.le_trans hmono.1 hcr) (Nat.le_trans hmono.2 hsr) ?_
          refine W.base ?_
          exact lw_ret (Drawn.sameBut.refl s.drawn lw_cs) hx hb hret hlocks hdg
        · intro idx e0 ha hemp hcat e1
          cases e1
        · intro x e1
          cases e1
        · intro x y E hf
          rw [mh_PL.2] at hf
          cases hf
