/-! unmet: the reference's settings as numbers -/
def un_plus (o a b : Nat) : Nat := if o = 4 ∨ o = 8 then Nat.xor a b else if o = 9 then 3 * ((a / 3 + b / 3) % 3) + (a % 3 + b % 3) % 3 else (a + b) % o
def un_bit (b k x : Nat) : Nat := if b / 2 ^ k % 2 = 1 then x else 0
def un_red (m k x : Nat) : Nat := Nat.xor m (un_bit m k x)
def un_by (o a b : Nat) : Nat := if o = 9 then 3 * ((a / 3 * (b % 3) + a % 3 * (b / 3)) % 3) + (a % 3 * (b % 3) + 2 * (a / 3) * (b / 3)) % 3 else if o = 4 then un_red (Nat.xor (un_bit b 0 a) (un_bit b 1 (2 * a))) 2 7 else if o = 8 then un_red (un_red (Nat.xor (Nat.xor (un_bit b 0 a) (un_bit b 1 (2 * a))) (un_bit b 2 (4 * a))) 4 22) 3 11 else a * b % o
def un_set (L r f : Nat) : Nat := if f = L then r / L else un_plus L (un_by L (r / L) f) (r % L)
def un_Ls : List Nat := [2, 3, 4, 5, 7, 8, 9]
/-- at a return of an int: which -/
def mv_ret (e : mjE) (st : List Value) : Option Int32 := match e.1 with
  | .ireturn => match st with
    | [.int v] => some v
    | _ => none
  | _ => none
/-- a method without calls, run to its end: what it gives back -/
def mv_end (C : mjC) : Nat → Nat → List (Nat × Value) → List Value → Option Int32
  | 0, _, _, _ => none
  | n + 1, pc, L, st => match mj_at C pc with
    | none => none
    | some e => match mv_ret e st with
      | some v => some v
      | none => match mv_op e pc L st with
        | none => none
        | some (pc', L', st') => mv_end C n pc' L' st'
theorem mv_ret_1 {e : mjE} {st : List Value} {v : Int32} (h : mv_ret e st = some v) : e.1 = .ireturn ∧ st = [.int v] := by
  unfold mv_ret at h
  split at h
  · rename_i e1
    split at h
    · cases h
      exact ⟨e1, rfl⟩
    · cases h
  · cases h
theorem mv_end_ok {X : Nat → mjF → Option mjR} {ρ : Nat → Int32} {b d μ : Nat} (hX : fRun ρ b μ d X) {C : mjC} (hC : (mj_P μ).2.2.2.1 = C) (hr : (mj_P μ).2.2.1 = some .int) : ∀ (n : Nat) {pc : Nat} {L : List (Nat × Value)} {st : List Value} {v : Int32} {al : List (Nat × Value)}, mv_end C n pc L st = some v → mvL L al → ∀ r, fTo X (pc, al, st, r) (.inl (some (.int v)), r)
  | 0, pc, L, st, v, al, h, hl, r => by cases h
  | n + 1, pc, L, st, v, al, h, hl, r => by
    unfold mv_end at h
    split at h
    · cases h
    · rename_i e he
      have he2 : fAt μ pc e := by
        unfold fAt
        rw [hC]
        exact he
      split at h
      · rename_i w e1
        cases h
        obtain ⟨e2, e3⟩ := mv_ret_1 e1
        obtain ⟨ins, a, bb, nn⟩ := e
        have e2 : ins = _ := e2
        subst e2 e3
        exact fTo_iret hX he2 hr rfl
      · split at h
        · cases h
        · rename_i pc1 L1 st1 ho
          obtain ⟨al1, q1, q2⟩ := mv_ok ho hl
          exact fTo_op hX (f := (pc, al, st, r)) (e := e) he2 (q2 r) (mv_end_ok hX hC hr n h q1 r)
