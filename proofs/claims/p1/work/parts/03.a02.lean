/-! A small machine: the method's frame and the cells made since the law's entry, references being numbers of cells. Its steps follow the machine's (mj_.. below), so that what is shown of it holds of the machine. -/
abbrev mjE : Type := Instr × Nat × Nat × Nat
abbrev mjC : Type := List (List (Option mjE))
def mj_at (C : mjC) (pc : Nat) : Option mjE := (C.getD (pc / 16) []).getD (pc % 16) none
abbrev mjO : Type := Nat × List Value
abbrev mjH : Type := List mjO
/-- pc, locals, stack, heap, cells, slots -/
abbrev mjF : Type := Nat × List (Nat × Value) × List Value × mjH × Nat × Nat
/-- what a method ends with: an answer or an exception's number; heap, cells, slots -/
abbrev mjR : Type := (Option Value ⊕ Nat) × mjH × Nat × Nat
def mj_ld (lv : List (Nat × Value)) (i : Nat) : Option Value := match lv.find? (fun q => q.1 == i) with
  | some q => some q.2
  | none => none
def mj_s1 (i : Nat) (v : Value) (lv : List (Nat × Value)) : List (Nat × Value) := (i, v) :: lv.filter (fun q => !(q.1 == i) && !(q.1 + 1 == i && q.2.category == 2))
def mj_s2 (i : Nat) (v : Value) (lv : List (Nat × Value)) : List (Nat × Value) := (i, v) :: lv.filter (fun q => !(q.1 == i) && (!(q.1 == i + 1) && !(q.1 + 1 == i && q.2.category == 2)))
def mj_tg (pc : Nat) (off : Int) : Nat := ((pc : Int) + off).toNat
/-- an array's element: kind, length, index -/
def mj_ix (i : Int32) (vs : List Value) : Option Nat := if i < 0 ∨ vs.length ≤ i.toNatClampNeg then none else some i.toNatClampNeg
def mj_i (f : mjF) (n : Nat) (v : Value) (st : List Value) : Option mjF := some (f.1 + n, f.2.1, v :: st, f.2.2.2)
def mj_get (t : Nat) (f : mjF) (i : Int32) (r : Nat) (st : List Value) : Option mjF := match f.2.2.2.1[r]? with
  | some (k, vs) => if k = t then match mj_ix i vs with
      | some j => match vs[j]? with
        | some v => mj_i f 1 v st
        | none => none
      | none => none
    else none
  | none => none
def mj_put (t : Nat) (f : mjF) (v : Value) (i : Int32) (r : Nat) (st : List Value) : Option mjF := match f.2.2.2.1[r]? with
  | some (k, vs) => if k = t then match mj_ix i vs with
      | some j => some (f.1 + 1, f.2.1, st, f.2.2.2.1.set r (k, vs.set j v), f.2.2.2.2)
      | none => none
    else none
  | none => none
def mj_br (f : mjF) (n : Nat) (off : Int) (st : List Value) (c : Prop) [Decidable c] : Option mjF := if c then some (mj_tg f.1 off, f.2.1, st, f.2.2.2) else some (f.1 + n, f.2.1, st, f.2.2.2)
def mj_new (f : mjF) (n t N : Nat) (vs st : List Value) : Option mjF := some (f.1 + n, f.2.1, .ref f.2.2.2.1.length :: st, f.2.2.2.1 ++ [(t, vs)], f.2.2.2.2.1 + 1, f.2.2.2.2.2 + N)
/-- what a field of a kind may hold: 0 an int, 1 a reference or null -/
def mj_fit (n : Nat) (v : Value) : Bool := match n, v with
  | 0, .int _ => true
  | 1, .ref _ => true
  | 1, .null => true
  | _, _ => false
def mj_arr : ArrayType → Option (Nat × Value)
  | .int => some (20, .int 0)
  | .long => some (21, .long 0)
  | .char => some (22, .int 0)
  | .boolean => some (23, .int 0)
  | .double => some (24, .double 0)
  | _ => none
/-- the steps that call nothing and end nothing -/
def mj_op (e : mjE) (f : mjF) : Option mjF := match e.1, f.2.2.1 with
  | .iconst k, st => mj_i f 1 (.int (Int32.ofInt k)) st
  | .bipush k, st => mj_i f 2 (.int (Int8.ofInt k).toInt32) st
  | .sipush k, st => mj_i f 3 (.int (Int16.ofInt k).toInt32) st
  | .lconst k, st => mj_i f 1 (.long (Int64.ofNat (k : Nat))) st
  | .fconst 0, st => mj_i f 1 (.float 0) st
  | .dconst 0, st => mj_i f 1 (.double 0) st
  | .ldc _, st => mj_i f 2 (.int (Int32.ofNat e.2.1)) st
  | .ldc_w _, st => mj_i f 3 (.int (Int32.ofNat e.2.1)) st
  | .ldc2_w _, st => mj_i f 3 (.long (Int64.ofNat e.2.1)) st
  | .iload_n k, st => match mj_ld f.2.1 k with
    | some (.int x) => mj_i f 1 (.int x) st
    | _ => none
  | .iload k, st => match mj_ld f.2.1 k with
    | some (.int x) => mj_i f 2 (.int x) st
    | _ => none
  | .lload_n k, st => match mj_ld f.2.1 k with
    | some (.long x) => mj_i f 1 (.long x) st
    | _ => none
  | .lload k, st => match mj_ld f.2.1 k with
    | some (.long x) => mj_i f 2 (.long x) st
    | _ => none
  | .aload_n k, st => match mj_ld f.2.1 k with
    | some (.ref x) => mj_i f 1 (.ref x) st
    | some .null => mj_i f 1 .null st
    | _ => none
  | .aload k, st => match mj_ld f.2.1 k with
    | some (.ref x) => mj_i f 2 (.ref x) st
    | some .null => mj_i f 2 .null st
    | _ => none
  | .istore_n k, .int x :: st => some (f.1 + 1, mj_s1 k (.int x) f.2.1, st, f.2.2.2)
  | .istore k, .int x :: st => some (f.1 + 2, mj_s1 k (.int x) f.2.1, st, f.2.2.2)
  | .lstore_n k, .long x :: st => some (f.1 + 1, mj_s2 k (.long x) f.2.1, st, f.2.2.2)
  | .lstore k, .long x :: st => some (f.1 + 2, mj_s2 k (.long x) f.2.1, st, f.2.2.2)
  | .fstore k, .float x :: st => some (f.1 + 2, mj_s1 k (.float x) f.2.1, st, f.2.2.2)
  | .dstore k, .double x :: st => some (f.1 + 2, mj_s2 k (.double x) f.2.1, st, f.2.2.2)
  | .astore_n k, .ref x :: st => some (f.1 + 1, mj_s1 k (.ref x) f.2.1, st, f.2.2.2)
  | .astore_n k, .null :: st => some (f.1 + 1, mj_s1 k .null f.2.1, st, f.2.2.2)
  | .astore k, .ref x :: st => some (f.1 + 2, mj_s1 k (.ref x) f.2.1, st, f.2.2.2)
  | .astore k, .null :: st => some (f.1 + 2, mj_s1 k .null f.2.1, st, f.2.2.2)
  | .iinc k v, st => match mj_ld f.2.1 k with
    | some (.int x) => some (f.1 + 3, mj_s1 k (.int (x + Int32.ofInt v)) f.2.1, st, f.2.2.2)
    | _ => none
  | .iadd, .int y :: .int x :: st => mj_i f 1 (.int (x + y)) st
  | .isub, .int y :: .int x :: st => mj_i f 1 (.int (x - y)) st
  | .imul, .int y :: .int x :: st => mj_i f 1 (.int (x * y)) st
  | .iand, .int y :: .int x :: st => mj_i f 1 (.int (x &&& y)) st
  | .ior, .int y :: .int x :: st => mj_i f 1 (.int (x ||| y)) st
  | .ixor, .int y :: .int x :: st => mj_i f 1 (.int (x ^^^ y)) st
  | .idiv, .int y :: .int x :: st => if y = 0 then none else mj_i f 1 (.int (x / y)) st
  | .irem, .int y :: .int x :: st => if y = 0 then none else mj_i f 1 (.int (x - x / y * y)) st
  | .ineg, .int x :: st => mj_i f 1 (.int (0 - x)) st
  | .ishl, .int y :: .int x :: st => mj_i f 1 (.int (x <<< (y &&& 31))) st
  | .ishr, .int y :: .int x :: st => mj_i f 1 (.int (x >>> (y &&& 31))) st
  | .iushr, .int y :: .int x :: st => mj_i f 1 (.int (x.toUInt32 >>> (y.toUInt32 &&& Int32.toUInt32 31)).toInt32) st
  | .ladd, .long y :: .long x :: st => mj_i f 1 (.long (x + y)) st
  | .lsub, .long y :: .long x :: st => mj_i f 1 (.long (x - y)) st
  | .lmul, .long y :: .long x :: st => mj_i f 1 (.long (x * y)) st
  | .land, .long y :: .long x :: st => mj_i f 1 (.long (x &&& y)) st
  | .lor, .long y :: .long x :: st => mj_i f 1 (.long (x ||| y)) st
  | .lxor, .long y :: .long x :: st => mj_i f 1 (.long (x ^^^ y)) st
  | .ldiv, .long y :: .long x :: st => if y = 0 then none else mj_i f 1 (.long (x / y)) st
  | .lrem, .long y :: .long x :: st => if y = 0 then none else mj_i f 1 (.long (x - x / y * y)) st
  | .lneg, .long x :: st => mj_i f 1 (.long (0 - x)) st
  | .lshl, .int y :: .long x :: st => mj_i f 1 (.long (x <<< (y.toInt64 &&& 63))) st
  | .lushr, .int y :: .long x :: st => mj_i f 1 (.long (x.toUInt64 >>> (y.toInt64.toUInt64 &&& Int64.toUInt64 63)).toInt64) st
  | .lcmp, .long y :: .long x :: st => mj_i f 1 (.int (lg_cmp x y)) st
  | .i2l, .int x :: st => mj_i f 1 (.long x.toInt64) st
  | .l2i, .long x :: st => mj_i f 1 (.int x.toInt32) st
  | .i2c, .int x :: st => mj_i f 1 (.int (x.toUInt32 % 65536).toInt32) st
  | .dup, v :: st => if v.category = 1 then mj_i f 1 v (v :: st) else none
  | .dup2, v :: w :: st => if v.category = 2 then mj_i f 1 v (v :: w :: st) else if w.category = 1 then some (f.1 + 1, f.2.1, v :: w :: v :: w :: st, f.2.2.2) else none
  | .pop, v :: st => if v.category = 1 then some (f.1 + 1, f.2.1, st, f.2.2.2) else none
  | .ifCond .eq off, .int x :: st => mj_br f 3 off st (x = 0)
  | .ifCond .ne off, .int x :: st => mj_br f 3 off st (¬ x = 0)
  | .ifCond .lt off, .int x :: st => mj_br f 3 off st (x < 0)
  | .ifCond .ge off, .int x :: st => mj_br f 3 off st (0 ≤ x)
  | .ifCond .gt off, .int x :: st => mj_br f 3 off st (0 < x)
  | .ifCond .le off, .int x :: st => mj_br f 3 off st (x ≤ 0)
  | .if_icmp .eq off, .int y :: .int x :: st => mj_br f 3 off st (x = y)
  | .if_icmp .ne off, .int y :: .int x :: st => mj_br f 3 off st (¬ x = y)
  | .if_icmp .lt off, .int y :: .int x :: st => mj_br f 3 off st (x < y)
  | .if_icmp .ge off, .int y :: .int x :: st => mj_br f 3 off st (y ≤ x)
  | .if_icmp .gt off, .int y :: .int x :: st => mj_br f 3 off st (y < x)
  | .if_icmp .le off, .int y :: .int x :: st => mj_br f 3 off st (x ≤ y)
  | .goto off, st => some (mj_tg f.1 off, f.2.1, st, f.2.2.2)
  | .ifnull off, .null :: st => some (mj_tg f.1 off, f.2.1, st, f.2.2.2)
  | .ifnull _, .ref _ :: st => some (f.1 + 3, f.2.1, st, f.2.2.2)
  | .ifnonnull off, .ref _ :: st => some (mj_tg f.1 off, f.2.1, st, f.2.2.2)
  | .ifnonnull _, .null :: st => some (f.1 + 3, f.2.1, st, f.2.2.2)
  | .getfield _, .ref r :: st => match f.2.2.2.1[r]? with
    | some (k, vs) => if k = e.2.1 then match vs[e.2.2.1]? with
        | some v => mj_i f 3 v st
        | none => none
      else none
    | none => none
  | .putfield _, v :: .ref r :: st => match f.2.2.2.1[r]? with
    | some (k, vs) => if k = e.2.1 ∧ e.2.2.1 < vs.length ∧ mj_fit e.2.2.2 v = true then some (f.1 + 3, f.2.1, st, f.2.2.2.1.set r (k, vs.set e.2.2.1 v), f.2.2.2.2) else none
    | none => none
  | .arraylength, .ref r :: st => match f.2.2.2.1[r]? with
    | some (k, vs) => if 20 ≤ k ∧ k < 30 then mj_i f 1 (.int (Int32.ofNat vs.length)) st else none
    | none => none
  | .iaload, .int i :: .ref r :: st => mj_get 20 f i r st
  | .laload, .int i :: .ref r :: st => mj_get 21 f i r st
  | .caload, .int i :: .ref r :: st => mj_get 22 f i r st
  | .baload, .int i :: .ref r :: st => mj_get 23 f i r st
  | .daload, .int i :: .ref r :: st => mj_get 24 f i r st
  | .aaload, .int i :: .ref r :: st => mj_get e.2.1 f i r st
  | .iastore, .int x :: .int i :: .ref r :: st => mj_put 20 f (.int x) i r st
  | .lastore, .long x :: .int i :: .ref r :: st => mj_put 21 f (.long x) i r st
  | .castore, .int x :: .int i :: .ref r :: st => mj_put 22 f (narrow .char (.int x)) i r st
  | .bastore, .int x :: .int i :: .ref r :: st => mj_put 23 f (narrow .boolean (.int x)) i r st
  | .dastore, .double x :: .int i :: .ref r :: st => mj_put 24 f (.double x) i r st
  | .aastore, .ref x :: .int i :: .ref r :: st => match f.2.2.2.1[x]? with
    | some (k, _) => if k = e.2.2.1 then mj_put e.2.1 f (.ref x) i r st else none
    | none => none
  | .aastore, .null :: .int i :: .ref r :: st => mj_put e.2.1 f .null i r st
  | .tableswitch dflt lo hi offs, .int x :: st => if x.toInt < lo ∨ hi < x.toInt then some (mj_tg f.1 dflt, f.2.1, st, f.2.2.2) else match offs[(x.toInt - lo).toNat]? with
    | some off => some (mj_tg f.1 off, f.2.1, st, f.2.2.2)
    | none => none
  | .newarray t, .int x :: st => match mj_arr t with
    | some (k, v) => if x < 0 ∨ 65536 < x.toNatClampNeg then none else mj_new f 2 k x.toNatClampNeg (List.replicate x.toNatClampNeg v) st
    | none => none
  | .anewarray _, .int x :: st => if x < 0 ∨ 65536 < x.toNatClampNeg then none else mj_new f 3 e.2.1 x.toNatClampNeg (List.replicate x.toNatClampNeg .null) st
  | _, _ => none
/-- the fields of a new object -/
def mj_df (ci : Nat) : List Value := match ci with
  | 0 => [.null, .null, .null, .null, .int 0, .int 0]
  | 1 => [.null, .int 0, .int 0]
  | 2 => [.null, .null, .null, .int 0, .int 0]
  | 3 => [.null, .int 0]
  | 4 => [.null, .int 0]
  | 5 => [.null, .null, .int 0]
  | 6 => [.null, .null, .null, .null, .null, .null, .null, .null, .null, .null, .int 0, .int 0, .null, .int 0]
  | _ => [.null, .null, .null, .null, .null, .null, .int 0, .null, .int 0, .int 0, .null, .int 0, .null, .int 0]
def mj_isint (v : Value) : Bool := match v with
  | .int _ => true
  | _ => false
/-- System.arraycopy of ints -/
def mj_cpy (h : mjH) (b : Nat) (sp : Int32) (a : Nat) (dp n : Int32) : Option mjH := match h[b]?, h[a]? with
  | some (20, v0), some (20, v1) => if sp < 0 ∨ dp < 0 ∨ n < 0 ∨ v0.length < sp.toNatClampNeg + n.toNatClampNeg ∨ v1.length < dp.toNatClampNeg + n.toNatClampNeg ∨ ¬ ((v0.drop sp.toNatClampNeg).take n.toNatClampNeg).all mj_isint = true then none
    else some (h.set a (20, v1.take dp.toNatClampNeg ++ (v0.drop sp.toNatClampNeg).take n.toNatClampNeg ++ v1.drop (dp.toNatClampNeg + n.toNatClampNeg)))
  | _, _ => none
/-- a method: its own class's number, how many arguments (the receiver too), the answer's type, its code, its handlers (from, to, where, exception) -/
abbrev mjM : Type := Nat × Nat × Option FieldType × mjC × List (Nat × Nat × Nat × Nat)
