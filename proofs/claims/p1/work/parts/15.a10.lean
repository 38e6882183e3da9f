def mj_tys (ci : Nat) : Nat → FieldType := match ci with
  | 0 => tyX0
  | 1 => tyX1
  | 2 => tyX3
  | 3 => tyX4
  | 4 => tyX5
  | 5 => tyX6
  | 6 => tyX7
  | _ => tyX8
theorem mj_cl_at {ci : Nat} (h : ci < 8) : mj_cl[ci]? = some (mj_C ci, mj_T ci, mj_N ci) := by
  have : ci = 0 ∨ ci = 1 ∨ ci = 2 ∨ ci = 3 ∨ ci = 4 ∨ ci = 5 ∨ ci = 6 ∨ ci = 7 := by omega
  rcases this with rfl | rfl | rfl | rfl | rfl | rfl | rfl | rfl <;> rfl
theorem mj_tys_ok {ci : Nat} (h : ci < 8) : ∀ k, k < mj_N ci → parseFieldDescriptor (mj_T ci k).2.2.1 = some (mj_tys ci k) := by
  have : ci = 0 ∨ ci = 1 ∨ ci = 2 ∨ ci = 3 ∨ ci = 4 ∨ ci = 5 ∨ ci = 6 ∨ ci = 7 := by omega
  rcases this with rfl | rfl | rfl | rfl | rfl | rfl | rfl | rfl
  · exact tyX0_ok
  · exact tyX1_ok
  · exact tyX3_ok
  · exact tyX4_ok
  · exact tyX5_ok
  · exact tyX6_ok
  · exact tyX7_ok
  · exact tyX8_ok
theorem mj_nm_ok {ci : Nat} (h : ci < 8) : ∀ a, a < mj_N ci → ∀ b, b < mj_N ci → a ≠ b → (mj_T ci a).2.1 ≠ (mj_T ci b).2.1 := by
  have : ci = 0 ∨ ci = 1 ∨ ci = 2 ∨ ci = 3 ∨ ci = 4 ∨ ci = 5 ∨ ci = 6 ∨ ci = 7 := by omega
  rcases this with rfl | rfl | rfl | rfl | rfl | rfl | rfl | rfl
  · exact nmX0
  · exact nmX1
  · exact nmX3
  · exact nmX4
  · exact nmX5
  · exact nmX6
  · exact nmX7
  · exact nmX8
theorem mj_df_ok {ci : Nat} (h : ci < 8) : (mj_df ci).length = mj_N ci ∧ ∀ z j, j < mj_N ci → defaultValue (mj_tys ci j) = mj_v z ((mj_df ci).getD j .null) := by
  have : ci = 0 ∨ ci = 1 ∨ ci = 2 ∨ ci = 3 ∨ ci = 4 ∨ ci = 5 ∨ ci = 6 ∨ ci = 7 := by omega
  rcases this with rfl | rfl | rfl | rfl | rfl | rfl | rfl | rfl
  all_goals
    refine ⟨rfl, fun z j hj => ?_⟩
    simp only [mj_N] at hj
    first
      | (have h9 : j = 0 ∨ j = 1 := by omega
         rcases h9 with rfl | rfl <;> rfl)
      | (have h9 : j = 0 ∨ j = 1 ∨ j = 2 := by omega
         rcases h9 with rfl | rfl | rfl <;> rfl)
      | (have h9 : j = 0 ∨ j = 1 ∨ j = 2 ∨ j = 3 ∨ j = 4 := by omega
         rcases h9 with rfl | rfl | rfl | rfl | rfl <;> rfl)
      | (have h9 : j = 0 ∨ j = 1 ∨ j = 2 ∨ j = 3 ∨ j = 4 ∨ j = 5 := by omega
         rcases h9 with rfl | rfl | rfl | rfl | rfl | rfl <;> rfl)
      | (have h9 : j = 0 ∨ j = 1 ∨ j = 2 ∨ j = 3 ∨ j = 4 ∨ j = 5 ∨ j = 6 ∨ j = 7 ∨ j = 8 ∨ j = 9 ∨ j = 10 ∨ j = 11 ∨ j = 12 ∨ j = 13 := by omega
         rcases h9 with rfl | rfl | rfl | rfl | rfl | rfl | rfl | rfl | rfl | rfl | rfl | rfl | rfl | rfl <;> rfl)
/-- a field's kind: 0 an int, 1 a reference -/
def mj_fk (ci k n : Nat) : Bool := match n with
  | 0 => decide (mj_tys ci k = .int)
  | 1 => (match mj_tys ci k with
    | .object _ => true
    | .array _ => true
    | _ => false)
  | _ => false
/-- which objects go into which arrays of references -/
def mj_ae : List (Nat × Nat) := [(25, 1), (26, 2), (27, 3), (28, 4), (29, 20)]
/-! what is asked of a code table, by program -/
def mj_cke (o : Nat) (ini : Bool) (nL : Nat) (pc : Nat) (e : mjE) : Bool := match e.1 with
  | .ldc idx => mj_kl.any fun x => x.1.1 == o && x.1.2 == idx && x.2.1 == 0 && x.2.2.1 == e.2.1
  | .ldc_w idx => mj_kl.any fun x => x.1.1 == o && x.1.2 == idx && x.2.1 == 0 && x.2.2.1 == e.2.1
  | .ldc2_w idx => mj_kl.any fun x => x.1.1 == o && x.1.2 == idx && x.2.1 != 0 && x.2.2.1 == e.2.1
  | .istore_n k => decide ((k : Nat) < nL)
  | .istore k => decide (k < nL)
  | .fstore k => decide (k < nL)
  | .astore_n k => decide ((k : Nat) < nL)
  | .astore k => decide (k < nL)
  | .iinc k _ => decide (k < nL)
  | .lstore_n k => decide ((k : Nat) + 1 < nL)
  | .lstore k => decide (k + 1 < nL)
  | .dstore k => decide (k + 1 < nL)
  | .ifCond _ off => decide (0 ≤ (pc : Int) + off)
  | .if_icmp _ off => decide (0 ≤ (pc : Int) + off)
  | .goto off => decide (0 ≤ (pc : Int) + off)
  | .ifnull off => decide (0 ≤ (pc : Int) + off)
  | .ifnonnull off => decide (0 ≤ (pc : Int) + off)
  | .tableswitch d _ _ offs => decide (0 ≤ (pc : Int) + d) && offs.toList.all fun off => decide (0 ≤ (pc : Int) + off)
  | .getfield idx => mj_fl.any fun x => x.1.1 == o && x.1.2 == idx && x.2.1 == e.2.1 && x.2.2.1 == e.2.2.1
  | .putfield idx => (mj_fl.any fun x => x.1.1 == o && x.1.2 == idx && x.2.1 == e.2.1 && x.2.2.1 == e.2.2.1) && (!(mj_T e.2.1 e.2.2.1).2.2.2 || (ini && decide ((mj_T e.2.1 e.2.2.1).1 = mj_own o))) && mj_fk e.2.1 e.2.2.1 e.2.2.2
  | .newarray t => mj_ac.any fun x => decide (x.1 = t)
  | .anewarray idx => mj_al.any fun x => x.1.1 == o && x.1.2 == idx && x.2.1 == e.2.1
  | .aaload => decide (25 ≤ e.2.1) && decide (e.2.1 < 30)
  | .aastore => mj_ae.any fun x => x.1 == e.2.1 && x.2 == e.2.2.1
  | .new idx => if e.2.1 = 0 then (mj_cl_.any fun x => x.1.1 == o && x.1.2 == idx && x.2.1 == e.2.2.1) && decide (e.2.2.2 = mj_N e.2.2.1) else true
  | .invokestatic idx => if e.2.1 = 3 then mj_nl.any fun x => x.1.1 == o && x.1.2 == idx && x.2.1 == 3 && x.2.2.1 == e.2.2.1 else if e.2.1 = 6 then mj_ml.any fun x => x.1.1 == o && x.1.2 == idx && x.2.1 == 6 else (mj_ml.any fun x => x.1.1 == o && x.1.2 == idx && x.2.1 == 0 && x.2.2.1 == e.2.2.1) && decide (e.2.1 = 0)
  | .invokevirtual idx => (mj_ml.any fun x => x.1.1 == o && x.1.2 == idx && x.2.1 == 1 && x.2.2.1 == e.2.2.1) && decide (e.2.1 = 1) && decide (e.2.2.2 < 8) && decide (mj_C e.2.2.2 = (mj_m e.2.2.1).1.cls)
  | .invokespecial idx => if e.2.1 = 4 then mj_nl.any fun x => x.1.1 == o && x.1.2 == idx && x.2.1 == 4 && x.2.2.1 == e.2.2.1 else if e.2.1 = 5 then mj_ml.any fun x => x.1.1 == o && x.1.2 == idx && x.2.1 == 5 else (mj_ml.any fun x => x.1.1 == o && x.1.2 == idx && x.2.1 == 2 && x.2.2.1 == e.2.2.1) && decide (e.2.1 = 2)
  | _ => true
def mj_len : Instr → Nat
  | .bipush _ => 2
  | .sipush _ => 3
  | .ldc _ => 2
  | .ldc_w _ => 3
  | .ldc2_w _ => 3
  | .iload _ => 2
  | .lload _ => 2
  | .fload _ => 2
  | .dload _ => 2
  | .aload _ => 2
  | .istore _ => 2
  | .lstore _ => 2
  | .fstore _ => 2
  | .dstore _ => 2
  | .astore _ => 2
  | .iinc _ _ => 3
  | .ifCond _ _ => 3
  | .if_icmp _ _ => 3
  | .goto _ => 3
  | .ifnull _ => 3
  | .ifnonnull _ => 3
  | .getfield _ => 3
  | .putfield _ => 3
  | .getstatic _ => 3
  | .new _ => 3
  | .newarray _ => 2
  | .anewarray _ => 3
  | .invokestatic _ => 3
  | .invokevirtual _ => 3
  | .invokespecial _ => 3
  | .tableswitch _ _ _ _ => 236
  | _ => 1
/-- 'throw new E()' -/
def mj_ckx (o : Nat) (cc : ByteArray) (pc : Nat) (e : mjE) : Bool := match e.1 with
  | .new idx => if e.2.1 = 0 then true else decide (o = 7) && decide ((idx, e.2.2.2, e.2.2.1) ∈ mj_xt) && decide (decode cc (pc + 3) = .ok (.dup, 1)) && decide (decode cc (pc + 4) = .ok (.invokespecial e.2.2.2, 3)) && decide (decode cc (pc + 7) = .ok (.athrow, 1))
  | _ => true
def mj_ck1 (o : Nat) (cc : ByteArray) (ini : Bool) (nL pc : Nat) (q : Option mjE) : Bool := match q with
  | none => true
  | some e => decide (decode cc pc = .ok (e.1, mj_len e.1)) && mj_cke o ini nL pc e && mj_ckx o cc pc e
def mj_ckr (o : Nat) (cc : ByteArray) (ini : Bool) (nL : Nat) : Nat → List (Option mjE) → Bool
  | _, [] => true
  | pc, q :: l => mj_ck1 o cc ini nL pc q && mj_ckr o cc ini nL (pc + 1) l
def mj_ck (o : Nat) (cc : ByteArray) (ini : Bool) (nL : Nat) : Nat → mjC → Bool
  | _, [] => true
  | b, r :: l => (decide (r.length ≤ 16) && mj_ckr o cc ini nL (16 * b) r) && mj_ck o cc ini nL (b + 1) l
theorem mj_ckr_at {o : Nat} {cc : ByteArray} {ini : Bool} {nL : Nat} : ∀ (l : List (Option mjE)) (pc k : Nat), mj_ckr o cc ini nL pc l = true → mj_ck1 o cc ini nL (pc + k) (l.getD k none) = true
  | [], pc, k, _ => by simp [List.getD, mj_ck1]
  | q :: l, pc, 0, h => by
    simp only [mj_ckr, Bool.and_eq_true] at h
    exact h.1
  | q :: l, pc, k + 1, h => by
    simp only [mj_ckr, Bool.and_eq_true] at h
    have := mj_ckr_at l (pc + 1) k h.2
    rw [show pc + 1 + k = pc + (k + 1) by omega] at this
    simpa [List.getD] using this
theorem mj_ck_at {o : Nat} {cc : ByteArray} {ini : Bool} {nL : Nat} : ∀ (C : mjC) (b j : Nat), mj_ck o cc ini nL b C = true → ∀ k, k < 16 → mj_ck1 o cc ini nL (16 * (b + j) + k) ((C.getD j []).getD k none) = true
  | [], b, j, _, k, _ => by simp [List.getD, mj_ck1]
  | r :: l, b, 0, h, k, hk => by
    simp only [mj_ck, Bool.and_eq_true] at h
    exact mj_ckr_at r (16 * b) k h.1.2
  | r :: l, b, j + 1, h, k, hk => by
    simp only [mj_ck, Bool.and_eq_true] at h
    have := mj_ck_at l (b + 1) j h.2 k hk
    rw [show b + 1 + j = b + (j + 1) by omega] at this
    simpa [List.getD] using this
theorem mj_ck_ok {o : Nat} {cc : ByteArray} {ini : Bool} {nL pc : Nat} {C : mjC} {e : mjE} (h : mj_ck o cc ini nL 0 C = true) (hat : mj_at C pc = some e) : (decode cc pc = .ok (e.1, mj_len e.1) ∧ mj_cke o ini nL pc e = true) ∧ mj_ckx o cc pc e = true := by
  have h1 := mj_ck_at C 0 (pc / 16) h (pc % 16) (Nat.mod_lt _ (by decide))
  rw [show 16 * (0 + pc / 16) + pc % 16 = pc by omega] at h1
  unfold mj_at at hat
  rw [hat] at h1
  simp only [mj_ck1, Bool.and_eq_true, decide_eq_true_eq] at h1
  exact h1
