/-! unmet: the reference's settings as numbers -/
def un_plus (o a b : Nat) : Nat := if o = 4 ∨ o = 8 then Nat.xor a b else if o = 9 then 3 * ((a / 3 + b / 3) % 3) + (a % 3 + b % 3) % 3 else (a + b) % o
def un_bit (b k x : Nat) : Nat := if b / 2 ^ k % 2 = 1 then x else 0
def un_red (m k x : Nat) : Nat := Nat.xor m (un_bit m k x)
def un_by (o a b : Nat) : Nat := if o = 9 then 3 * ((a / 3 * (b % 3) + a % 3 * (b / 3)) % 3) + (a % 3 * (b % 3) + 2 * (a / 3) * (b / 3)) % 3 else if o = 4 then un_red (Nat.xor (un_bit b 0 a) (un_bit b 1 (2 * a))) 2 7 else if o = 8 then un_red (un_red (Nat.xor (Nat.xor (un_bit b 0 a) (un_bit b 1 (2 * a))) (un_bit b 2 (4 * a))) 4 22) 3 11 else a * b % o
def un_set (L r f : Nat) : Nat := if f = L then r / L else un_plus L (un_by L (r / L) f) (r % L)
def un_Ls : List Nat := [2, 3, 4, 5, 7, 8, 9]
/-- at a return of an int: which -/
def mv_ret (e : mjE) (st : List Value) : Option Int32 := match e.1 with
  | .ireturn => match st with
    | [.int v] => some v
    | _ => none
  | _ => none
/-- a method without calls, run to its end: what it gives back -/
def mv_end (C : mjC) : Nat → Nat → List (Nat × Value) → List Value → Option Int32
  | 0, _, _, _ => none
  | n + 1, pc, L, st => match mj_at C pc with
    | none => none
    | some e => match mv_ret e st with
      | some v => some v
      | none => match mv_op e pc L st with
        | none => none
        | some (pc', L', st') => mv_end C n pc' L' st'
theorem mv_ret_1 {e : mjE} {st : List Value} {v : Int32} (h : mv_ret e st = some v) : e.1 = .ireturn ∧ st = [.int v] := by
  unfold mv_ret at h
  split at h
  · rename_i e1
    split at h
    · cases h
      exact ⟨e1, rfl⟩
    · cases h
  · cases h
theorem mv_end_ok {X : Nat → mjF → Option mjR} {ρ : Nat → Int32} {b d μ : Nat} (hX : fRun ρ b μ d X) {C : mjC} (hC : (mj_P μ).2.2.2.1 = C) (hr : (mj_P μ).2.2.1 = some .int) : ∀ (n : Nat) {pc : Nat} {L : List (Nat × Value)} {st : List Value} {v : Int32} {al : List (Nat × Value)}, mv_end C n pc L st = some v → mvL L al → ∀ r, fTo X (pc, al, st, r) (.inl (some (.int v)), r)
  | 0, pc, L, st, v, al, h, hl, r => by cases h
  | n + 1, pc, L, st, v, al, h, hl, r => by
    unfold mv_end at h
    split at h
    · cases h
    · rename_i e he
      have he2 : fAt μ pc e := by
        unfold fAt
        rw [hC]
        exact he
      split at h
      · rename_i w e1
        cases h
        obtain ⟨e2, e3⟩ := mv_ret_1 e1
        obtain ⟨ins, a, bb, nn⟩ := e
        have e2 : ins = _ := e2
        subst e2 e3
        exact fTo_iret hX he2 hr rfl
      · split at h
        · cases h
        · rename_i pc1 L1 st1 ho
          obtain ⟨al1, q1, q2⟩ := mv_ok ho hl
          exact fTo_op hX (f := (pc, al, st, r)) (e := e) he2 (q2 r) (mv_end_ok hX hC hr n h q1 r)
def un_all (p : Nat → Nat → Nat → Bool) : Bool := un_Ls.all fun L => (List.range L).all fun a => (List.range L).all fun b => p L a b
theorem un_all_1 {p : Nat → Nat → Nat → Bool} (h : un_all p = true) {L a b : Nat} (hL : L ∈ un_Ls) (ha : a < L) (hb : b < L) : p L a b = true :=
  List.all_eq_true.mp (List.all_eq_true.mp (List.all_eq_true.mp h L hL) a (List.mem_range.mpr ha)) b (List.mem_range.mpr hb)
def un_L3 (a b c : Nat) : List (Nat × Value) := [(0, .int (Int32.ofNat a)), (1, .int (Int32.ofNat b)), (2, .int (Int32.ofNat c))]
def un_pp (L a b : Nat) : Bool := decide (mv_end mcX8_plus 60 0 (un_L3 L a b) [] = some (Int32.ofNat (un_plus L a b)))
def un_pb (L a b : Nat) : Bool := decide (mv_end mcX8_by 400 0 (un_L3 L a b) [] = some (Int32.ofNat (un_by L a b)) ∧ un_by L a b < L)
theorem un_ck_plus : un_all un_pp = true := by decide +kernel
theorem un_ck_by : un_all un_pb = true := by decide +kernel
theorem fA_258 {pc : Nat} {e : mjE} (h : mj_at mcX8_settingOf pc = some e) : fAt 258 pc e := h
theorem fA_260 {pc : Nat} {e : mjE} (h : mj_at mcX8_unmet pc = some e) : fAt 260 pc e := h
theorem plus_to (d : Nat) {L a b : Nat} (hL : L ∈ un_Ls) (ha : a < L) (hb : b < L) (H : mjH) : fTo (fun m f => mj_run mj_P m (d + 1) 186 f) (0, lv_args 0 [.int (Int32.ofNat L), .int (Int32.ofNat a), .int (Int32.ofNat b)], [], H, 0, 0) (.inl (some (.int (Int32.ofNat (un_plus L a b)))), H, 0, 0) := by
  have hX := fRun_meth (fun _ => 0) 0 186 d (by decide)
  have h : un_pp L a b = true := un_all_1 un_ck_plus hL ha hb
  have h := of_decide_eq_true h
  exact mv_end_ok hX (C := mcX8_plus) rfl rfl 60 h (fun i v h => h) _
theorem by_lt {L a b : Nat} (hL : L ∈ un_Ls) (ha : a < L) (hb : b < L) : un_by L a b < L := by
  have h : un_pb L a b = true := un_all_1 un_ck_by hL ha hb
  exact (of_decide_eq_true h).2
theorem by_to (d : Nat) {L a b : Nat} (hL : L ∈ un_Ls) (ha : a < L) (hb : b < L) (H : mjH) : fTo (fun m f => mj_run mj_P m (d + 1) 187 f) (0, lv_args 0 [.int (Int32.ofNat L), .int (Int32.ofNat a), .int (Int32.ofNat b)], [], H, 0, 0) (.inl (some (.int (Int32.ofNat (un_by L a b)))), H, 0, 0) := by
  have hX := fRun_meth (fun _ => 0) 0 187 d (by decide)
  have h : un_pb L a b = true := un_all_1 un_ck_by hL ha hb
  have h := (of_decide_eq_true h).1
  exact mv_end_ok hX (C := mcX8_by) rfl rfl 400 h (fun i v h => h) _
theorem un_div {r L : Nat} (hr : r < 2147483648) (hL : L < 2147483648) : Int32.ofNat r / Int32.ofNat L = Int32.ofNat (r / L) := by
  have e1 : Nat.mod r 4294967296 = r := Nat.mod_eq_of_lt (by omega)
  have e2 : Nat.mod L 4294967296 = L := Nat.mod_eq_of_lt (by omega)
  have h := fn_div (x := r) (y := L) (by rw [e1]; exact (fn_ng' r).mpr hr) (by rw [e2]; exact (fn_ng' L).mpr hL)
  rw [e1, e2] at h
  exact h
theorem un_mul {x y : Nat} : Int32.ofNat x * Int32.ofNat y = Int32.ofNat (x * y) := by
  rw [fn_mul]
  exact fn_mod _
theorem un_add {x y : Nat} : Int32.ofNat x + Int32.ofNat y = Int32.ofNat (x + y) := by
  rw [fn_add]
  exact fn_mod _
theorem un_rem {r L : Nat} (hr : r < 2147483648) : Int32.ofNat r - Int32.ofNat (r / L) * Int32.ofNat L = Int32.ofNat (r % L) := by
  rw [un_mul, fn_sub]
  refine fn_inj.mpr ?_
  have h := Nat.div_add_mod r L
  rw [Nat.mul_comm] at h
  generalize r / L * L = t at h ⊢
  generalize r % L = u at h ⊢
  show (r + 4294967296 - t % 4294967296) % 4294967296 % 4294967296 = u % 4294967296
  omega
theorem un_Lb {L : Nat} (h : L ∈ un_Ls) : 2 ≤ L ∧ L ≤ 9 := by
  have e : (un_Ls.all fun L => decide (2 ≤ L ∧ L ≤ 9)) = true := by decide +kernel
  exact of_decide_eq_true (List.all_eq_true.mp e L h)
theorem un_n0 {n : Nat} (h1 : 0 < n) (h2 : n < 4294967296) : ¬ Int32.ofNat n = 0 := fun q => by
  have := fn_inj.mp (q.trans (show (0 : Int32) = Int32.ofNat 0 from rfl))
  omega
theorem un_le {a b : Nat} (ha : a < 2147483648) (hb : b < 2147483648) : Int32.ofNat a ≤ Int32.ofNat b ↔ a ≤ b := by
  rw [Int32.le_iff_toInt_le, fn_int, fn_int, Nat.mod_eq_of_lt (show a < 4294967296 by omega), Nat.mod_eq_of_lt (show b < 4294967296 by omega), if_pos ha, if_pos hb]
  omega
theorem set_to (d : Nat) {L r f : Nat} (hL : L ∈ un_Ls) (hr : r < L * L) (hf : f ≤ L) (H : mjH) : fTo (fun m f => mj_run mj_P m (d + 1 + 1) 258 f) (0, lv_args 0 [.int (Int32.ofNat L), .int (Int32.ofNat r), .int (Int32.ofNat f)], [], H, 0, 0) (.inl (some (.int (Int32.ofNat (un_set L r f)))), H, 0, 0) := by
  have hX := fRun_meth (fun _ => 0) 0 258 (d + 1) (by decide)
  obtain ⟨b1, b2⟩ := un_Lb hL
  have hr81 : r < 81 := Nat.lt_of_lt_of_le hr (Nat.mul_le_mul b2 b2)
  have hn : ¬ Int32.ofNat L = 0 := un_n0 (by omega) (by omega)
  have hq : r / L < L := Nat.div_lt_of_lt_mul hr
  have hm : r % L < L := Nat.mod_lt _ (by omega)
  have ed := un_div (r := r) (L := L) (by omega) (by omega)
  have em := un_rem (r := r) (L := L) (by omega)
  refine fTo_mv hX (C := mcX8_settingOf) rfl 2 (pc := 0) (L := un_L3 L r f) (L' := un_L3 L r f) (pc' := 2) (st := []) (st' := [.int (Int32.ofNat L), .int (Int32.ofNat r)]) rfl (fun i v h => h) fun al hl => ?_
  refine fTo_op hX (e := (.idiv, 0, 0, 0)) (fA_258 (pc := 2) rfl) (mq_idiv hn _ _) ?_
  rw [ed]
  refine fTo_mv hX (C := mcX8_settingOf) rfl 3 (pc := 3) (L := un_L3 L r f) (st := [.int (Int32.ofNat (r / L))]) (pc' := 6) (L' := (3, .int (Int32.ofNat (r / L))) :: un_L3 L r f) (st' := [.int (Int32.ofNat L), .int (Int32.ofNat f)]) rfl hl fun al1 hl1 => ?_
  by_cases hfL : f = L
  · refine fTo_op hX (f' := (9, al1, [], H, 0, 0)) (e := (.if_icmp .ne 7, 0, 0, 0)) (fA_258 (pc := 6) rfl) (mq_ifn (fun q => q (by rw [hfL]))) ?_
    refine fTo_mv hX (C := mcX8_settingOf) rfl 2 (pc := 9) (L := (3, .int (Int32.ofNat (r / L))) :: un_L3 L r f) (st := []) (pc' := 26) (L' := (3, .int (Int32.ofNat (r / L))) :: un_L3 L r f) (st' := [.int (Int32.ofNat (r / L))]) rfl hl1 fun al2 hl2 => ?_
    have e : un_set L r f = r / L := if_pos hfL
    rw [e]
    exact fTo_iret hX (fA_258 (pc := 26) rfl) (show (mj_P 258).2.2.1 = some .int from rfl) rfl
  · have hfl : f < L := by omega
    refine fTo_op hX (f' := (13, al1, [], H, 0, 0)) (e := (.if_icmp .ne 7, 0, 0, 0)) (fA_258 (pc := 6) rfl) (mq_ify (fun q => hfL (by have := fn_inj.mp q; omega))) ?_
    refine fTo_mv hX (C := mcX8_settingOf) rfl 4 (pc := 13) (L := (3, .int (Int32.ofNat (r / L))) :: un_L3 L r f) (st := []) (pc' := 17) (L' := (3, .int (Int32.ofNat (r / L))) :: un_L3 L r f) (st' := [.int (Int32.ofNat f), .int (Int32.ofNat (r / L)), .int (Int32.ofNat L), .int (Int32.ofNat L)]) rfl hl1 fun al2 hl2 => ?_
    refine fSt_call hX (pc := 17) (al := al2) (vs := [.int (Int32.ofNat f), .int (Int32.ofNat (r / L)), .int (Int32.ofNat L)]) (t := [.int (Int32.ofNat L)]) (v := some (.int (Int32.ofNat (un_by L (r / L) f)))) (fA_258 (pc := 17) rfl) (by decide) (show (mj_P 187).2.1 = 3 from rfl) (show (1 : Nat) ≤ 8 by decide) (show (3 : Nat) ≤ mj_mx.getD 187 0 by decide) (by_to d hL hq hfl H) _ ?_
    refine fTo_mv hX (C := mcX8_settingOf) rfl 2 (pc := 20) (L := (3, .int (Int32.ofNat (r / L))) :: un_L3 L r f) (st := [.int (Int32.ofNat (un_by L (r / L) f)), .int (Int32.ofNat L)]) (pc' := 22) (L' := (3, .int (Int32.ofNat (r / L))) :: un_L3 L r f) (st' := [.int (Int32.ofNat L), .int (Int32.ofNat r), .int (Int32.ofNat (un_by L (r / L) f)), .int (Int32.ofNat L)]) rfl hl2 fun al3 hl3 => ?_
    refine fTo_op hX (e := (.irem, 0, 0, 0)) (fA_258 (pc := 22) rfl) (mq_irem hn _ _) ?_
    rw [ed, em]
    refine fSt_call hX (pc := 23) (al := al3) (vs := [.int (Int32.ofNat (r % L)), .int (Int32.ofNat (un_by L (r / L) f)), .int (Int32.ofNat L)]) (t := []) (v := some (.int (Int32.ofNat (un_plus L (un_by L (r / L) f) (r % L))))) (fA_258 (pc := 23) rfl) (by decide) (show (mj_P 186).2.1 = 3 from rfl) (show (0 : Nat) ≤ 8 by decide) (show (3 : Nat) ≤ mj_mx.getD 186 0 by decide) (plus_to d hL (by_lt hL hq hfl) hm H) _ ?_
    have e : un_set L r f = un_plus L (un_by L (r / L) f) (r % L) := if_neg hfL
    rw [e]
    exact fTo_iret hX (fA_258 (pc := 26) rfl) (show (mj_P 258).2.2.1 = some .int from rfl) rfl
