def mj_isref (t : Option FieldType) : Bool := match t with
  | some (.object _) => true
  | some (.array _) => true
  | _ => false
def mj_ret (v : Option Value) (f : mjF) : Option mjR := some (.inl v, f.2.2.2.1, f.2.2.2.2.1, f.2.2.2.2.2)
/-- behind a call: what it made is added -/
def mj_add (f : mjF) (r : mjH × Nat × Nat) : mjH × Nat × Nat := (r.1, f.2.2.2.2.1 + r.2.1, f.2.2.2.2.2 + r.2.2)
/-- the locals without one -/
def mj_rm1 (i : Nat) (lv : List (Nat × Value)) : List (Nat × Value) := lv.filter (fun q => !(q.1 == i) && !(q.1 + 1 == i && q.2.category == 2))
/-- at a handler: the exception is put away -/
def mj_hand (C : mjC) (k : mjF → Option mjR) (f : mjF) (t : Nat) (r : mjH × Nat × Nat) : Option mjR := match mj_at C t with
  | none => none
  | some e => match e.1 with
    | .astore_n i => k (t + 1, mj_rm1 i f.2.1, [], r)
    | .astore i => k (t + 2, mj_rm1 i f.2.1, [], r)
    | _ => none
def mj_back (thr : Bool) (C : mjC) (hh : List (Nat × Nat × Nat × Nat)) (k : mjF → Option mjR) (f : mjF) (rest : List Value) : Option mjR → Option mjR
  | none => none
  | some (.inl v, r) => k (f.1 + 3, f.2.1, v.toList ++ rest, mj_add f r)
  | some (.inr E, r) => if thr = false then none else if hh.isEmpty then some (.inr E, mj_add f r)
    else match hh.find? (fun x => decide (x.1 ≤ f.1 ∧ f.1 < x.2.1 ∧ x.2.2.2 = E)) with
      | none => none
      | some x => mj_hand C k f x.2.2.1 (mj_add f r)
/-- how many locals each method has -/
def mj_mx : List Nat := [1, 2, 3, 1, 3, 11, 5, 10, 4, 6, 1, 8, 1, 2, 2, 2, 2, 6, 1, 3, 4, 3, 5, 2, 3, 4, 5, 8, 5, 6, 1, 4, 6, 6, 6, 7, 3, 5, 5, 5, 6, 5, 3, 1, 3, 5, 6, 1, 1, 3, 2, 3, 2, 7, 2, 4, 3, 4, 5, 6, 1, 3, 3, 4, 2, 7, 4, 5, 6, 1, 7, 6, 5, 5, 1, 6, 3, 6, 5, 2, 3, 4, 4, 3, 3, 3, 3, 7, 2, 2, 3, 4, 5, 4, 4, 2, 2, 10, 5, 4, 8, 2, 3, 6, 3, 3, 5, 4, 7, 2, 5, 2, 5, 5, 3, 5, 3, 3, 5, 5, 2, 5, 4, 4, 5, 6, 4, 2, 2, 3, 2, 3, 4, 4, 2, 1, 1, 1, 3, 3, 3, 4, 2, 2, 2, 2, 4, 3, 3, 4, 4, 4, 4, 5, 4, 4, 3, 5, 6, 9, 3, 2, 3, 5, 2, 1, 2, 5, 2, 1, 1, 5, 6, 1, 1, 2, 2, 2, 4, 5, 2, 3, 3, 1, 2, 1, 3, 6, 4, 6, 7, 10, 3, 3, 9, 11, 3, 4, 20, 2, 2, 3, 3, 3, 4, 3, 4, 5, 5, 3, 5, 2, 12, 8, 10, 14, 8, 3, 3, 3, 2, 5, 6, 11, 3, 7, 6, 3, 5, 7, 6, 4, 10, 2, 4, 6, 2, 12, 6, 6, 7, 3, 13, 6, 10, 4, 4, 8, 6, 2, 11, 1, 5, 4, 3, 4, 4, 5, 4, 5, 13, 2, 2, 2, 8, 4, 1, 5, 6, 9, 1, 2, 1, 2, 3, 2, 2, 5, 5, 6, 5, 5, 5, 5, 6, 4, 4, 5, 5, 6, 6, 6, 4, 4, 6, 5, 5, 7, 4, 5, 6, 4, 4, 7, 6, 7, 4, 6, 4, 6, 5, 4, 5, 5, 5, 6, 6, 4, 5, 6, 6, 4, 6, 6, 4, 4, 3, 4, 4, 9]
def mj_cat (st : List Value) : Nat := (st.map fun v => v.category).sum
/-- a call: its arguments off the stack -/
def mj_inv (P : Nat → mjM) (e : mjE) (μ : Nat) (k : mjF → Option mjR) (call : Nat → mjF → Option mjR) (f : mjF) (st : List Value) : Option mjR :=
  if st.length < (P e.2.2.1).2.1 ∨ 8 < mj_cat (st.drop (P e.2.2.1).2.1) ∨ mj_mx.getD e.2.2.1 0 < mj_cat (st.take (P e.2.2.1).2.1).reverse then none
  else mj_back (decide (e.2.1 ≤ 1) && (P e.2.2.1).2.2.2.2.isEmpty) (P μ).2.2.2.1 (P μ).2.2.2.2 k f (st.drop (P e.2.2.1).2.1) (call e.2.2.1 (0, lv_args 0 (st.take (P e.2.2.1).2.1).reverse, [], f.2.2.2.1, 0, 0))
def mj_go (P : Nat → mjM) (e : mjE) (μ : Nat) (k : mjF → Option mjR) (call : Nat → mjF → Option mjR) (f : mjF) : Option mjR := match e.1, f.2.2.1 with
  | .return_, [] => if (P μ).2.2.1 = none then mj_ret none f else none
  | .ireturn, [.int v] => match (P μ).2.2.1 with
    | some ty => if narrow ty (.int v) = .int v then mj_ret (some (.int v)) f else none
    | none => none
  | .lreturn, [.long v] => if (P μ).2.2.1 = some .long then mj_ret (some (.long v)) f else none
  | .freturn, [.float v] => if (P μ).2.2.1 = some .float then mj_ret (some (.float v)) f else none
  | .dreturn, [.double v] => if (P μ).2.2.1 = some .double then mj_ret (some (.double v)) f else none
  | .areturn, [.ref v] => if mj_isref (P μ).2.2.1 = true then mj_ret (some (.ref v)) f else none
  | .areturn, [.null] => if mj_isref (P μ).2.2.1 = true then mj_ret (some .null) f else none
  | .new _, st => if e.2.1 = 0 then match mj_new f 3 e.2.2.1 e.2.2.2 (mj_df e.2.2.1) st with
      | none => none
      | some f' => k f'
    else if (P μ).2.2.2.2.isEmpty = true ∧ mj_cat st ≤ 8 then some (.inr e.2.2.1, f.2.2.2.1 ++ [(99, [])], f.2.2.2.2.1 + 1, f.2.2.2.2.2 + 6) else none
  | .invokestatic _, st => if e.2.1 = 6 then match st with
      | .int n :: .int dp :: .ref a :: .int sp :: .ref b :: st => match mj_cpy f.2.2.2.1 b sp a dp n with
        | none => none
        | some h => if mj_cat st ≤ 8 then k (f.1 + 3, f.2.1, st, h, f.2.2.2.2) else none
      | _ => none
    else mj_inv P e μ k call f st
  | .invokevirtual _, st => match st[(P e.2.2.1).2.1 - 1]? with
    | some (.ref r) => match f.2.2.2.1[r]? with
      | some (kd, _) => if kd = e.2.2.2 then mj_inv P e μ k call f st else none
      | none => none
    | _ => none
  | .invokespecial _, st => if e.2.1 = 5 then match st with
      | .ref _ :: st => if mj_cat st ≤ 8 then k (f.1 + 3, f.2.1, st, f.2.2.2) else none
      | _ => none
    else match st[(P e.2.2.1).2.1 - 1]? with
      | some (.ref _) => mj_inv P e μ k call f st
      | _ => none
  | _, _ => match mj_op e f with
    | none => none
    | some f' => k f'
def mj_run (P : Nat → mjM) : Nat → Nat → Nat → mjF → Option mjR
  | 0, _, _, _ => none
  | _ + 1, 0, _, _ => none
  | n + 1, d + 1, μ, f => match mj_at (P μ).2.2.2.1 f.1 with
    | none => none
    | some e => mj_go P e μ (fun f' => mj_run P n (d + 1) μ f') (fun μ' f' => mj_run P n d μ' f') f
