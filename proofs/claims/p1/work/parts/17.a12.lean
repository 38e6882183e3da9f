theorem mj_ae_rng {t k : Nat} (h : (mj_ae.any fun x => x.1 == t && x.2 == k) = true) : 25 ≤ t ∧ t < 30 := by
  obtain ⟨⟨t', k'⟩, hx, hq⟩ := List.any_eq_true.mp h
  simp only [Bool.and_eq_true, beq_iff_eq] at hq
  obtain ⟨rfl, rfl⟩ := hq
  simp only [mj_ae, List.mem_cons, Prod.mk.injEq, List.not_mem_nil, or_false] at hx
  rcases hx with ⟨rfl, rfl⟩ | ⟨rfl, rfl⟩ | ⟨rfl, rfl⟩ | ⟨rfl, rfl⟩ | ⟨rfl, rfl⟩ <;> exact ⟨by decide, by decide⟩
section MQ
variable {p : Program} {l : Launch} {e : Env} {R : Room} {s : State} {m : MethodId} {args : Array Value} {below : List Frame} {meth : Method} {c : Code} {Q : State → Prop} {cc : ByteArray}
variable {D : va_G} {dA : Nat → ClassId} {z nL : Nat}
set_option maxHeartbeats 16000000 in
/-- a step of the small machine is one of the machine -/
theorem mj_op_ok {o : Nat} {ini : Bool} {ins : Instr} {a b n pc : Nat} {lv : List (Nat × Value)} {st : List Value} {w : mjH × Nat × Nat} {f' : mjF} (hx : p.tables.exec = Jvm.exec) (hb : c.code = cc) (hown : s.vm.findClass (mj_own o) = some m.cls) (hts : ∀ w ∈ gw, w.before args s = true) (hini : ini = true → meth.name = "<init>") (hK : mj_K D dA s)
    (hd : decode cc pc = .ok (ins, mj_len ins)) (hc : mj_cke o ini nL pc (ins, a, b, n) = true) (hcs : f'.2.2.2.2.1 ≤ R.cells) (hss : f'.2.2.2.2.2 ≤ R.slots) (ho : mj_op (ins, a, b, n) (pc, lv, st, w) = some f') (k : mj_W p l e R s m args below meth c Q D dA z nL f') : mj_W p l e R s m args below meth c Q D dA z nL (pc, lv, st, w) := by
  unfold mj_op at ho
  split at ho
  · rename_i kk he
    have he : ins = _ := he
    subst he
    obtain rfl := Option.some.inj ho
    exact mo_iconst hx hb hd k
  · rename_i kk he
    have he : ins = _ := he
    subst he
    obtain rfl := Option.some.inj ho
    exact mo_bipush hx hb hd k
  · rename_i kk he
    have he : ins = _ := he
    subst he
    obtain rfl := Option.some.inj ho
    exact mo_sipush hx hb hd k
  · rename_i kk he
    have he : ins = _ := he
    subst he
    obtain rfl := Option.some.inj ho
    exact mo_lconst hx hb hd k
  · rename_i  he
    have he : ins = _ := he
    subst he
    obtain rfl := Option.some.inj ho
    exact mo_fconst hx hb hd k
  · rename_i  he
    have he : ins = _ := he
    subst he
    obtain rfl := Option.some.inj ho
    exact mo_dconst hx hb hd k
  · rename_i idx he
    have he : ins = _ := he
    subst he
    obtain rfl := Option.some.inj ho
    exact fun H locs ls a1 a2 a3 a4 => lv_ldc hx hb hown (hts _ (mj_kl_get hc)) hd (k H locs ls a1 a2 a3 a4)
  · rename_i idx he
    have he : ins = _ := he
    subst he
    obtain rfl := Option.some.inj ho
    exact fun H locs ls a1 a2 a3 a4 => lv_ldcw hx hb hown (hts _ (mj_kl_get hc)) hd (k H locs ls a1 a2 a3 a4)
  · rename_i idx he
    have he : ins = _ := he
    subst he
    obtain rfl := Option.some.inj ho
    exact fun H locs ls a1 a2 a3 a4 => lv_ldc2 hx hb hown (hts _ (mj_kl_getL hc)) hd (k H locs ls a1 a2 a3 a4)
  · rename_i kk he
    have he : ins = _ := he
    subst he
    split at ho
    · obtain rfl := Option.some.inj ho
      exact mo_iload_n hx hb (by assumption) hd k
    · cases ho
  · rename_i kk he
    have he : ins = _ := he
    subst he
    split at ho
    · obtain rfl := Option.some.inj ho
      exact mo_iload hx hb (by assumption) hd k
    · cases ho
  · rename_i kk he
    have he : ins = _ := he
    subst he
    split at ho
    · obtain rfl := Option.some.inj ho
      exact mo_lload_n hx hb (by assumption) hd k
    · cases ho
  · rename_i kk he
    have he : ins = _ := he
    subst he
    split at ho
    · obtain rfl := Option.some.inj ho
      exact mo_lload hx hb (by assumption) hd k
    · cases ho
  · rename_i kk he
    have he : ins = _ := he
    subst he
    split at ho
    · obtain rfl := Option.some.inj ho
      exact mo_aload_n hx hb (by assumption) hd k
    · obtain rfl := Option.some.inj ho
      exact mo_aload_nN hx hb (by assumption) hd k
    · cases ho
  · rename_i kk he
    have he : ins = _ := he
    subst he
    split at ho
    · obtain rfl := Option.some.inj ho
      exact mo_aload hx hb (by assumption) hd k
    · obtain rfl := Option.some.inj ho
      exact mo_aloadN hx hb (by assumption) hd k
    · cases ho
  · rename_i kk x st2 he hs
    have he : ins = _ := he
    subst he
    have hs : st = _ := hs
    subst hs
    obtain rfl := Option.some.inj ho
    exact mo_istore_n hx hb (of_decide_eq_true hc) hd k
  · rename_i kk x st2 he hs
    have he : ins = _ := he
    subst he
    have hs : st = _ := hs
    subst hs
    obtain rfl := Option.some.inj ho
    exact mo_istore hx hb (of_decide_eq_true hc) hd k
  · rename_i kk x st2 he hs
    have he : ins = _ := he
    subst he
    have hs : st = _ := hs
    subst hs
    obtain rfl := Option.some.inj ho
    exact mo_lstore_n hx hb (of_decide_eq_true hc) hd k
  · rename_i kk x st2 he hs
    have he : ins = _ := he
    subst he
    have hs : st = _ := hs
    subst hs
    obtain rfl := Option.some.inj ho
    exact mo_lstore hx hb (of_decide_eq_true hc) hd k
  · rename_i kk x st2 he hs
    have he : ins = _ := he
    subst he
    have hs : st = _ := hs
    subst hs
    obtain rfl := Option.some.inj ho
    exact mo_fstore hx hb (of_decide_eq_true hc) hd k
  · rename_i kk x st2 he hs
    have he : ins = _ := he
    subst he
    have hs : st = _ := hs
    subst hs
    obtain rfl := Option.some.inj ho
    exact mo_dstore hx hb (of_decide_eq_true hc) hd k
  · rename_i kk x st2 he hs
    have he : ins = _ := he
    subst he
    have hs : st = _ := hs
    subst hs
    obtain rfl := Option.some.inj ho
    exact mo_astore_n hx hb (of_decide_eq_true hc) hd k
  · rename_i kk st2 he hs
    have he : ins = _ := he
    subst he
    have hs : st = _ := hs
    subst hs
    obtain rfl := Option.some.inj ho
    exact mo_astore_nN hx hb (of_decide_eq_true hc) hd k
  · rename_i kk x st2 he hs
    have he : ins = _ := he
    subst he
    have hs : st = _ := hs
    subst hs
    obtain rfl := Option.some.inj ho
    exact mo_astore hx hb (of_decide_eq_true hc) hd k
  · rename_i kk st2 he hs
    have he : ins = _ := he
    subst he
    have hs : st = _ := hs
    subst hs
    obtain rfl := Option.some.inj ho
    exact mo_astoreN hx hb (of_decide_eq_true hc) hd k
  · rename_i kk v he
    have he : ins = _ := he
    subst he
    split at ho
    · obtain rfl := Option.some.inj ho
      exact mo_iinc hx hb (by assumption) (of_decide_eq_true hc) hd k
    · cases ho
  · rename_i y x st2 he hs
    have he : ins = _ := he
    subst he
    have hs : st = _ := hs
    subst hs
    obtain rfl := Option.some.inj ho
    exact mo_iadd hx hb hd k
  · rename_i y x st2 he hs
    have he : ins = _ := he
    subst he
    have hs : st = _ := hs
    subst hs
    obtain rfl := Option.some.inj ho
    exact mo_isub hx hb hd k
  · rename_i y x st2 he hs
    have he : ins = _ := he
    subst he
    have hs : st = _ := hs
    subst hs
    obtain rfl := Option.some.inj ho
    exact mo_imul hx hb hd k
  · rename_i y x st2 he hs
    have he : ins = _ := he
    subst he
    have hs : st = _ := hs
    subst hs
    obtain rfl := Option.some.inj ho
    exact mo_iand hx hb hd k
  · rename_i y x st2 he hs
    have he : ins = _ := he
    subst he
    have hs : st = _ := hs
    subst hs
    obtain rfl := Option.some.inj ho
    exact mo_ior hx hb hd k
  · rename_i y x st2 he hs
    have he : ins = _ := he
    subst he
    have hs : st = _ := hs
    subst hs
    obtain rfl := Option.some.inj ho
    exact mo_ixor hx hb hd k
  · rename_i y x st2 he hs
    have he : ins = _ := he
    subst he
    have hs : st = _ := hs
    subst hs
    split at ho
    · cases ho
    · obtain rfl := Option.some.inj ho
      exact mo_idiv hx hb (by assumption) hd k
  · rename_i y x st2 he hs
    have he : ins = _ := he
    subst he
    have hs : st = _ := hs
    subst hs
    split at ho
    · cases ho
    · obtain rfl := Option.some.inj ho
      exact mo_irem hx hb (by assumption) hd k
  · rename_i x st2 he hs
    have he : ins = _ := he
    subst he
    have hs : st = _ := hs
    subst hs
    obtain rfl := Option.some.inj ho
    exact mo_ineg hx hb hd k
  · rename_i y x st2 he hs
    have he : ins = _ := he
    subst he
    have hs : st = _ := hs
    subst hs
    obtain rfl := Option.some.inj ho
    exact mo_ishl hx hb hd k
  · rename_i y x st2 he hs
    have he : ins = _ := he
    subst he
    have hs : st = _ := hs
    subst hs
    obtain rfl := Option.some.inj ho
    exact mo_ishr hx hb hd k
  · rename_i y x st2 he hs
    have he : ins = _ := he
    subst he
    have hs : st = _ := hs
    subst hs
    obtain rfl := Option.some.inj ho
    exact mo_iushr hx hb hd k
  · rename_i y x st2 he hs
    have he : ins = _ := he
    subst he
    have hs : st = _ := hs
    subst hs
    obtain rfl := Option.some.inj ho
    exact mo_ladd hx hb hd k
  · rename_i y x st2 he hs
    have he : ins = _ := he
    subst he
    have hs : st = _ := hs
    subst hs
    obtain rfl := Option.some.inj ho
    exact mo_lsub hx hb hd k
  · rename_i y x st2 he hs
    have he : ins = _ := he
    subst he
    have hs : st = _ := hs
    subst hs
    obtain rfl := Option.some.inj ho
    exact mo_lmul hx hb hd k
  · rename_i y x st2 he hs
    have he : ins = _ := he
    subst he
    have hs : st = _ := hs
    subst hs
    obtain rfl := Option.some.inj ho
    exact mo_land hx hb hd k
  · rename_i y x st2 he hs
    have he : ins = _ := he
    subst he
    have hs : st = _ := hs
    subst hs
    obtain rfl := Option.some.inj ho
    exact mo_lor hx hb hd k
  · rename_i y x st2 he hs
    have he : ins = _ := he
    subst he
    have hs : st = _ := hs
    subst hs
    obtain rfl := Option.some.inj ho
    exact mo_lxor hx hb hd k
  · rename_i y x st2 he hs
    have he : ins = _ := he
    subst he
    have hs : st = _ := hs
    subst hs
    split at ho
    · cases ho
    · obtain rfl := Option.some.inj ho
      exact mo_ldiv hx hb (by assumption) hd k
  · rename_i y x st2 he hs
    have he : ins = _ := he
    subst he
    have hs : st = _ := hs
    subst hs
    split at ho
    · cases ho
    · obtain rfl := Option.some.inj ho
      exact mo_lrem hx hb (by assumption) hd k
  · rename_i x st2 he hs
    have he : ins = _ := he
    subst he
    have hs : st = _ := hs
    subst hs
    obtain rfl := Option.some.inj ho
    exact mo_lneg hx hb hd k
  · rename_i y x st2 he hs
    have he : ins = _ := he
    subst he
    have hs : st = _ := hs
    subst hs
    obtain rfl := Option.some.inj ho
    exact mo_lshl hx hb hd k
  · rename_i y x st2 he hs
    have he : ins = _ := he
    subst he
    have hs : st = _ := hs
    subst hs
    obtain rfl := Option.some.inj ho
    exact mo_lushr hx hb hd k
  · rename_i y x st2 he hs
    have he : ins = _ := he
    subst he
    have hs : st = _ := hs
    subst hs
    obtain rfl := Option.some.inj ho
    exact mo_lcmp hx hb hd k
  · rename_i x st2 he hs
    have he : ins = _ := he
    subst he
    have hs : st = _ := hs
    subst hs
    obtain rfl := Option.some.inj ho
    exact mo_i2l hx hb hd k
  · rename_i x st2 he hs
    have he : ins = _ := he
    subst he
    have hs : st = _ := hs
    subst hs
    obtain rfl := Option.some.inj ho
    exact mo_l2i hx hb hd k
  · rename_i x st2 he hs
    have he : ins = _ := he
    subst he
    have hs : st = _ := hs
    subst hs
    obtain rfl := Option.some.inj ho
    exact mo_i2c hx hb hd k
  · rename_i v st2 he hs
    have he : ins = _ := he
    subst he
    have hs : st = _ := hs
    subst hs
    split at ho
    · obtain rfl := Option.some.inj ho
      exact mo_dup hx hb (by assumption) hd k
    · cases ho
  · rename_i v w st2 he hs
    have he : ins = _ := he
    subst he
    have hs : st = _ := hs
    subst hs
    split at ho
    · obtain rfl := Option.some.inj ho
      exact mo_dup2_2 hx hb (by assumption) hd k
    · split at ho
      · obtain rfl := Option.some.inj ho
        exact mo_dup2_11 hx hb ((lv_cat _).resolve_right (by assumption)) (by assumption) hd k
      · cases ho
  · rename_i v st2 he hs
    have he : ins = _ := he
    subst he
    have hs : st = _ := hs
    subst hs
    split at ho
    · obtain rfl := Option.some.inj ho
      exact mo_pop hx hb (by assumption) hd k
    · cases ho
  · rename_i off x st2 he hs
    have he : ins = _ := he
    subst he
    have hs : st = _ := hs
    subst hs
    rcases mj_br_ok ho with ⟨hC, rfl⟩ | ⟨hC, rfl⟩
    · exact mo_if_eq hx hb (of_decide_eq_true hc) hd (fun _ => k) (fun q => absurd hC q)
    · exact mo_if_eq hx hb (of_decide_eq_true hc) hd (fun q => absurd q hC) (fun _ => k)
  · rename_i off x st2 he hs
    have he : ins = _ := he
    subst he
    have hs : st = _ := hs
    subst hs
    rcases mj_br_ok ho with ⟨hC, rfl⟩ | ⟨hC, rfl⟩
    · exact mo_if_ne hx hb (of_decide_eq_true hc) hd (fun _ => k) (fun q => absurd hC q)
    · exact mo_if_ne hx hb (of_decide_eq_true hc) hd (fun q => absurd q hC) (fun _ => k)
  · rename_i off x st2 he hs
    have he : ins = _ := he
    subst he
    have hs : st = _ := hs
    subst hs
    rcases mj_br_ok ho with ⟨hC, rfl⟩ | ⟨hC, rfl⟩
    · exact mo_if_lt hx hb (of_decide_eq_true hc) hd (fun _ => k) (fun q => absurd hC q)
    · exact mo_if_lt hx hb (of_decide_eq_true hc) hd (fun q => absurd q hC) (fun _ => k)
  · rename_i off x st2 he hs
    have he : ins = _ := he
    subst he
    have hs : st = _ := hs
    subst hs
    rcases mj_br_ok ho with ⟨hC, rfl⟩ | ⟨hC, rfl⟩
    · exact mo_if_ge hx hb (of_decide_eq_true hc) hd (fun _ => k) (fun q => absurd hC q)
    · exact mo_if_ge hx hb (of_decide_eq_true hc) hd (fun q => absurd q hC) (fun _ => k)
  · rename_i off x st2 he hs
    have he : ins = _ := he
    subst he
    have hs : st = _ := hs
    subst hs
    rcases mj_br_ok ho with ⟨hC, rfl⟩ | ⟨hC, rfl⟩
    · exact mo_if_gt hx hb (of_decide_eq_true hc) hd (fun _ => k) (fun q => absurd hC q)
    · exact mo_if_gt hx hb (of_decide_eq_true hc) hd (fun q => absurd q hC) (fun _ => k)
  · rename_i off x st2 he hs
    have he : ins = _ := he
    subst he
    have hs : st = _ := hs
    subst hs
    rcases mj_br_ok ho with ⟨hC, rfl⟩ | ⟨hC, rfl⟩
    · exact mo_if_le hx hb (of_decide_eq_true hc) hd (fun _ => k) (fun q => absurd hC q)
    · exact mo_if_le hx hb (of_decide_eq_true hc) hd (fun q => absurd q hC) (fun _ => k)
  · rename_i off y x st2 he hs
    have he : ins = _ := he
    subst he
    have hs : st = _ := hs
    subst hs
    rcases mj_br_ok ho with ⟨hC, rfl⟩ | ⟨hC, rfl⟩
    · exact mo_icmp_eq hx hb (of_decide_eq_true hc) hd (fun _ => k) (fun q => absurd hC q)
    · exact mo_icmp_eq hx hb (of_decide_eq_true hc) hd (fun q => absurd q hC) (fun _ => k)
  · rename_i off y x st2 he hs
    have he : ins = _ := he
    subst he
    have hs : st = _ := hs
    subst hs
    rcases mj_br_ok ho with ⟨hC, rfl⟩ | ⟨hC, rfl⟩
    · exact mo_icmp_ne hx hb (of_decide_eq_true hc) hd (fun _ => k) (fun q => absurd hC q)
    · exact mo_icmp_ne hx hb (of_decide_eq_true hc) hd (fun q => absurd q hC) (fun _ => k)
  · rename_i off y x st2 he hs
    have he : ins = _ := he
    subst he
    have hs : st = _ := hs
    subst hs
    rcases mj_br_ok ho with ⟨hC, rfl⟩ | ⟨hC, rfl⟩
    · exact mo_icmp_lt hx hb (of_decide_eq_true hc) hd (fun _ => k) (fun q => absurd hC q)
    · exact mo_icmp_lt hx hb (of_decide_eq_true hc) hd (fun q => absurd q hC) (fun _ => k)
  · rename_i off y x st2 he hs
    have he : ins = _ := he
    subst he
    have hs : st = _ := hs
    subst hs
    rcases mj_br_ok ho with ⟨hC, rfl⟩ | ⟨hC, rfl⟩
    · exact mo_icmp_ge hx hb (of_decide_eq_true hc) hd (fun _ => k) (fun q => absurd hC q)
    · exact mo_icmp_ge hx hb (of_decide_eq_true hc) hd (fun q => absurd q hC) (fun _ => k)
  · rename_i off y x st2 he hs
    have he : ins = _ := he
    subst he
    have hs : st = _ := hs
    subst hs
    rcases mj_br_ok ho with ⟨hC, rfl⟩ | ⟨hC, rfl⟩
    · exact mo_icmp_gt hx hb (of_decide_eq_true hc) hd (fun _ => k) (fun q => absurd hC q)
    · exact mo_icmp_gt hx hb (of_decide_eq_true hc) hd (fun q => absurd q hC) (fun _ => k)
  · rename_i off y x st2 he hs
    have he : ins = _ := he
    subst he
    have hs : st = _ := hs
    subst hs
    rcases mj_br_ok ho with ⟨hC, rfl⟩ | ⟨hC, rfl⟩
    · exact mo_icmp_le hx hb (of_decide_eq_true hc) hd (fun _ => k) (fun q => absurd hC q)
    · exact mo_icmp_le hx hb (of_decide_eq_true hc) hd (fun q => absurd q hC) (fun _ => k)
  · rename_i off he
    have he : ins = _ := he
    subst he
    obtain rfl := Option.some.inj ho
    exact mo_goto hx hb (of_decide_eq_true hc) hd k
  · rename_i off st2 he hs
    have he : ins = _ := he
    subst he
    have hs : st = _ := hs
    subst hs
    obtain rfl := Option.some.inj ho
    exact mo_ifnullN hx hb (of_decide_eq_true hc) hd k
  · rename_i idx r_ st2 he hs
    have he : ins = _ := he
    subst he
    have hs : st = _ := hs
    subst hs
    obtain rfl := Option.some.inj ho
    exact mo_ifnull hx hb hd k
  · rename_i off r_ st2 he hs
    have he : ins = _ := he
    subst he
    have hs : st = _ := hs
    subst hs
    obtain rfl := Option.some.inj ho
    exact mo_ifnonnull hx hb (of_decide_eq_true hc) hd k
  · rename_i idx st2 he hs
    have he : ins = _ := he
    subst he
    have hs : st = _ := hs
    subst hs
    obtain rfl := Option.some.inj ho
    exact mo_ifnonnullN hx hb hd k
  · rename_i idx r st2 he hs
    have he : ins = _ := he
    subst he
    have hs : st = _ := hs
    subst hs
    obtain ⟨h8, hk, hl⟩ := mj_fl_get hc
    split at ho
    · rename_i kd vs hr
      split at ho
      · rename_i e1
        have e1 : kd = a := e1
        subst e1
        split at ho
        · rename_i v hv
          obtain rfl := Option.some.inj ho
          exact mo_getf hx hb hts (mj_ly_get h8) hown hK (mj_cl_at h8) hk (hts _ hl) hd hr hv k
        · cases ho
      · cases ho
    · cases ho
  · rename_i idx v r st2 he hs
    have he : ins = _ := he
    subst he
    have hs : st = _ := hs
    subst hs
    have hc : ((mj_fl.any fun x => x.1.1 == o && x.1.2 == idx && x.2.1 == a && x.2.2.1 == b) && (!(mj_T a b).2.2.2 || (ini && decide ((mj_T a b).1 = mj_own o))) && mj_fk a b n) = true := hc
    simp only [Bool.and_eq_true] at hc
    obtain ⟨h8, hk, hl⟩ := mj_fl_get hc.1.1
    split at ho
    · rename_i kd vs hr
      split at ho
      · rename_i e1
        have e1 : kd = a ∧ b < vs.length ∧ mj_fit n v = true := e1
        obtain ⟨rfl, e2, e3⟩ := e1
        obtain rfl := Option.some.inj ho
        obtain ⟨g1, g2⟩ := mj_fit_ok (z := z) hc.2 e3
        refine mo_putf hx hb hts (mj_ly_get h8) _ (mj_tys_ok h8) (mj_nm_ok h8) hown hK (mj_cl_at h8) hk (hts _ hl) hd ?_ hr g1 g2 k
        have h9 := hc.1.2
        simp only [Bool.or_eq_true, Bool.not_eq_true', Bool.and_eq_true, decide_eq_true_eq] at h9
        exact h9.imp id (fun q => ⟨hini q.1, q.2⟩)
      · cases ho
    · cases ho
  · rename_i r st2 he hs
    have he : ins = _ := he
    subst he
    have hs : st = _ := hs
    subst hs
    split at ho
    · rename_i kd vs hr
      split at ho
      · rename_i e1
        obtain rfl := Option.some.inj ho
        exact mo_alen hx hb hK hd hr e1.1 e1.2 k
      · cases ho
    · cases ho
  · rename_i i r st2 he hs
    have he : ins = _ := he
    subst he
    have hs : st = _ := hs
    subst hs
    exact mo_iald hx hb hK hd ho k
  · rename_i i r st2 he hs
    have he : ins = _ := he
    subst he
    have hs : st = _ := hs
    subst hs
    exact mo_lald hx hb hK hd ho k
  · rename_i i r st2 he hs
    have he : ins = _ := he
    subst he
    have hs : st = _ := hs
    subst hs
    exact mo_cald hx hb hK hd ho k
  · rename_i i r st2 he hs
    have he : ins = _ := he
    subst he
    have hs : st = _ := hs
    subst hs
    exact mo_zald hx hb hK hd ho k
  · rename_i i r st2 he hs
    have he : ins = _ := he
    subst he
    have hs : st = _ := hs
    subst hs
    exact mo_dald hx hb hK hd ho k
  · rename_i i r st2 he hs
    have he : ins = _ := he
    subst he
    have hs : st = _ := hs
    subst hs
    have hc : (decide (25 ≤ a) && decide (a < 30)) = true := hc
    simp only [Bool.and_eq_true, decide_eq_true_eq] at hc
    exact mo_aald hx hb hK hd hc.1 hc.2 ho k
  · rename_i x i r st2 he hs
    have he : ins = _ := he
    subst he
    have hs : st = _ := hs
    subst hs
    exact mo_iast hx hb hK hd ho k
  · rename_i x i r st2 he hs
    have he : ins = _ := he
    subst he
    have hs : st = _ := hs
    subst hs
    exact mo_last hx hb hK hd ho k
  · rename_i x i r st2 he hs
    have he : ins = _ := he
    subst he
    have hs : st = _ := hs
    subst hs
    exact mo_cast hx hb hK hd ho k
  · rename_i x i r st2 he hs
    have he : ins = _ := he
    subst he
    have hs : st = _ := hs
    subst hs
    exact mo_zast hx hb hK hd ho k
  · rename_i x i r st2 he hs
    have he : ins = _ := he
    subst he
    have hs : st = _ := hs
    subst hs
    exact mo_dast hx hb hK hd ho k
  · rename_i x i r st2 he hs
    have he : ins = _ := he
    subst he
    have hs : st = _ := hs
    subst hs
    split at ho
    · rename_i kd vs hr
      split at ho
      · rename_i e1
        have e1 : kd = b := e1
        subst e1
        exact mo_aast hx hb hK hd hr (mj_ae_get hc) ho k
      · cases ho
    · cases ho
  · rename_i i r st2 he hs
    have he : ins = _ := he
    subst he
    have hs : st = _ := hs
    subst hs
    have h9 := mj_ae_get hc
    have h10 : 25 ≤ a ∧ a < 30 := mj_ae_rng hc
    exact mo_aastN hx hb hK hd h10.1 h10.2 ho k
  · rename_i dflt lo0 hi0 offs x st2 he hs
    have he : ins = _ := he
    subst he
    have hs : st = _ := hs
    subst hs
    have hc : (decide (0 ≤ (pc : Int) + dflt) && offs.toList.all fun off => decide (0 ≤ (pc : Int) + off)) = true := hc
    simp only [Bool.and_eq_true, decide_eq_true_eq] at hc
    split at ho
    · rename_i h9
      obtain rfl := Option.some.inj ho
      exact fun H locs ls a1 a2 a3 a4 => lv_tableOut (tgt := mj_tg pc dflt) hx hb hd h9 (mj_tg_ok rfl hc.1) (k H locs ls a1 a2 a3 a4)
    · rename_i h9
      split at ho
      · rename_i off hoff
        obtain rfl := Option.some.inj ho
        have h0 : 0 ≤ (pc : Int) + off := by
          have := List.all_eq_true.mp hc.2 off (by rw [← Array.mem_def]; exact Array.mem_of_getElem? hoff)
          exact of_decide_eq_true this
        exact fun H locs ls a1 a2 a3 a4 => lv_tableIn (tgt := mj_tg pc off) hx hb hd (fun q => h9 (Or.inl q)) (fun q => h9 (Or.inr q)) hoff (mj_tg_ok rfl h0) (k H locs ls a1 a2 a3 a4)
      · cases ho
  · rename_i t x st2 he hs
    have he : ins = _ := he
    subst he
    have hs : st = _ := hs
    subst hs
    split at ho
    · rename_i kd v hv
      split at ho
      · cases ho
      · obtain rfl := Option.some.inj ho
        exact mo_newa hx hb hK (hts _ (mj_ac_get hc)) hd hv (by assumption) hcs hss k
    · cases ho
  · rename_i idx x st2 he hs
    have he : ins = _ := he
    subst he
    have hs : st = _ := hs
    subst hs
    obtain ⟨h1, h2, hl⟩ := mj_al_get hc
    have h1 : 25 ≤ a := h1
    have h2 : a < 30 := h2
    split at ho
    · cases ho
    · obtain rfl := Option.some.inj ho
      by_cases h29 : a < 29
      · obtain ⟨g1, g2⟩ := mj_an_ok h1 h29
        exact mo_anew hx hb hK hown (hts _ hl) g2 (Nat.le_trans (by decide) h1) h2 g1 hd (by assumption) hcs hss k
      · obtain rfl : a = 29 := by omega
        exact mo_anewA hx hb hK hown (hts _ hl) hd (by assumption) hcs hss k
  · cases ho
end MQ
