/-! THE FAST MACHINE: the small machine once more, over numbers, in a form that the kernel evaluates quickly: a method is a function of this language; what it says of a run holds of the small machine (the rows behind) -/
abbrev fV : Type := Nat ⊕ (Nat ⊕ (Nat ⊕ Nat))
abbrev fL : Type := List fV
/-- bounds of the ints that are not known, both with the sign's bit turned -/
abbrev fI : Type := List (Nat × Nat)
/-- a cell: kind, length, contents as one number -/
abbrev fC : Type := Nat × Nat × Nat
abbrev fT (α : Type) (l : List Nat) : Type := List.rec (motive := fun _ => Type) α (fun _ _ t => t × t) l
abbrev fD : List Nat := [128, 64, 32, 16, 8, 4, 2, 1]
/-- heap: cells, how many; cells and slots made -/
abbrev fG : Type := fT fC fD × (Nat × Nat × Nat)
abbrev fR : Type := Option fV ⊕ Nat
abbrev fK : Type := fI → fR → fG → Bool
abbrev fJ : Type := Nat → fI → fL → fL → fG → Bool
/-- what stays in a frame: bounds, fuel, loops, end -/
abbrev fE : Type := fI × (Nat × (fJ × fK))
abbrev fX : Type := fE → fL → fL → fG → Bool
abbrev fM : Type := Nat → fK → fI → fL → fG → Bool
def fF : fV := Sum.inr (Sum.inr (Sum.inr 99))
noncomputable def ft_get {α : Type} (l : List Nat) : fT α l → Nat → α := List.rec (motive := fun l => fT α l → Nat → α) (fun x _ => x) (fun m l ih t i => Prod.rec (motive := fun _ => α) (fun a b => Bool.rec (motive := fun _ => α) (ih b i) (ih a i) (Nat.beq (Nat.land i m) 0)) (show fT α l × fT α l from t)) l
noncomputable def ft_set {α : Type} (l : List Nat) : fT α l → Nat → α → (fT α l → Bool) → Bool := List.rec (motive := fun l => fT α l → Nat → α → (fT α l → Bool) → Bool) (fun _ _ x k => k x) (fun m l ih t i x k => Prod.rec (motive := fun _ => Bool) (fun a b => Bool.rec (motive := fun _ => Bool) (ih b i x (fun b' => k (a, b'))) (ih a i x (fun a' => k (a', b))) (Nat.beq (Nat.land i m) 0)) (show fT α l × fT α l from t)) l
/-- the number, reckoned out -/
noncomputable def frc (n : Nat) (k : Nat → Bool) : Bool := Nat.rec (motive := fun _ => Bool) (k 0) (fun m _ => k m) (Nat.add n 1)
noncomputable def fl_get (k : Nat) : fL → fV := Nat.rec (motive := fun _ => fL → fV) (fun l => List.rec (motive := fun _ => fV) fF (fun a _ _ => a) l) (fun _ ih l => List.rec (motive := fun _ => fV) fF (fun _ t _ => ih t) l) k
/-- not a long, nor a double -/
noncomputable def fv_1 (v : fV) : Bool := Sum.rec (motive := fun _ => Bool) (fun _ => true) (fun r => Sum.rec (motive := fun _ => Bool) (fun _ => true) (fun q => Sum.rec (motive := fun _ => Bool) (fun _ => false) (fun k => Nat.beq (Nat.land k 8) 0) q) r) v
noncomputable def fl_set (k : Nat) : fV → fV → fL → (fL → Bool) → Bool := Nat.rec (motive := fun _ => fV → fV → fL → (fL → Bool) → Bool) (fun p v l K => List.rec (motive := fun _ => Bool) false (fun _ t _ => Bool.rec (motive := fun _ => Bool) false (K (v :: t)) (fv_1 p)) l) (fun _ ih _ v l K => List.rec (motive := fun _ => Bool) false (fun a t _ => ih a v t (fun t' => K (a :: t'))) l) k
noncomputable def fl_set2 (k : Nat) : fV → fV → fL → (fL → Bool) → Bool := Nat.rec (motive := fun _ => fV → fV → fL → (fL → Bool) → Bool) (fun p v l K => List.rec (motive := fun _ => Bool) false (fun _ t _ => List.rec (motive := fun _ => Bool) false (fun _ t _ => Bool.rec (motive := fun _ => Bool) false (K (v :: fF :: t)) (fv_1 p)) t) l) (fun _ ih _ v l K => List.rec (motive := fun _ => Bool) false (fun a t _ => ih a v t (fun t' => K (a :: t'))) l) k
noncomputable def fi_get (k : Nat) : fI → Nat × Nat := Nat.rec (motive := fun _ => fI → Nat × Nat) (fun l => List.rec (motive := fun _ => Nat × Nat) (0, 4294967295) (fun a _ _ => a) l) (fun _ ih l => List.rec (motive := fun _ => Nat × Nat) (0, 4294967295) (fun _ t _ => ih t) l) k
def fi_set (k : Nat) (p : Nat × Nat) (l : fI) : fI := l.set k p
noncomputable def fi_b (x : Nat) : Nat := Nat.mod (Nat.add x 2147483648) 4294967296
/-- one after the other: for lo, lo + 1 .. -/
noncomputable def fi_all (n lo : Nat) (k : Nat → Bool) : Bool := Nat.rec (motive := fun _ => Bool) (k lo) (fun m ih => Bool.rec (motive := fun _ => Bool) false (k (Nat.add lo (Nat.succ m))) ih) n
/-- few enough to be taken one by one (1 in the bounds' place 8 + k: never) -/
noncomputable def fi_few (k lo hi : Nat) (iv : fI) : Bool := Bool.rec (motive := fun _ => Bool) (Nat.ble hi (Nat.add lo 127)) false (Nat.beq (Prod.fst (fi_get (Nat.add 8 k) iv)) 1)
/-- an int that is not known is loaded: known now, or one of few, or left -/
noncomputable def fi_load (k : Nat) (iv : fI) (K0 : fV → Bool) (K : fI → fV → Bool) : Bool := Prod.rec (motive := fun _ => Bool) (fun lo hi => Bool.rec (motive := fun _ => Bool) (Bool.rec (motive := fun _ => Bool) (K0 (Sum.inr (Sum.inr (Sum.inr k)))) (fi_all (Nat.sub hi lo) lo (fun n => frc n (fun n => frc (fi_b n) (fun m => K (fi_set k (n, n) iv) (Sum.inl m))))) (fi_few k lo hi iv)) (frc (fi_b lo) (fun m => K0 (Sum.inl m))) (Nat.beq lo hi)) (fi_get k iv)
noncomputable def fx_load (r : Nat ⊕ (Nat ⊕ Nat)) (iv : fI) (K0 : fV → Bool) (K : fI → fV → Bool) : Bool := Sum.rec (motive := fun _ => Bool) (fun _ => false) (fun q => Sum.rec (motive := fun _ => Bool) (fun _ => false) (fun k => Bool.rec (motive := fun _ => Bool) false (fi_load k iv K0 K) (Nat.ble k 7)) q) r
noncomputable def fi_lt (k c : Nat) (iv : fI) (T E : fI → Bool) : Bool := Prod.rec (motive := fun _ => Bool) (fun lo hi => Bool.rec (motive := fun _ => Bool) (Bool.rec (motive := fun _ => Bool) (Bool.rec (motive := fun _ => Bool) false (E (fi_set k (c, hi) iv)) (T (fi_set k (lo, Nat.sub c 1) iv))) (E iv) (Nat.ble c lo)) (T iv) (Nat.ble (Nat.succ hi) c)) (fi_get k iv)
noncomputable def fi_eq (k c : Nat) (iv : fI) (T E : fI → Bool) : Bool := fi_lt k c iv E (fun iv => fi_lt k (Nat.succ c) iv T E)
noncomputable def fw1 (st : fL) (fb : Bool) (k : Nat → fL → Bool) : Bool := List.rec (motive := fun _ => Bool) false (fun x t _ => Sum.rec (motive := fun _ => Bool) (fun x => k x t) (fun _ => fb) x) st
noncomputable def fw2 (st : fL) (fb : Bool) (k : Nat → Nat → fL → Bool) : Bool := List.rec (motive := fun _ => Bool) false (fun y t _ => Sum.rec (motive := fun _ => Bool) (fun y => List.rec (motive := fun _ => Bool) false (fun x t _ => Sum.rec (motive := fun _ => Bool) (fun x => k x y t) (fun _ => fb) x) t) (fun _ => fb) y) st
noncomputable def fwr (st : fL) (k : Nat → fL → Bool) : Bool := List.rec (motive := fun _ => Bool) false (fun x t _ => Sum.rec (motive := fun _ => Bool) (fun _ => false) (fun q => Sum.rec (motive := fun _ => Bool) (fun r => k r t) (fun _ => false) q) x) st
/-- a reference that is not null: its cell -/
noncomputable def fwc (st : fL) (g : fG) (k : Nat → fL → Nat → Nat → Nat → Bool) : Bool := fwr st (fun r t => Nat.rec (motive := fun _ => Bool) false (fun r _ => Bool.rec (motive := fun _ => Bool) false (Prod.rec (motive := fun _ => Bool) (fun a b => Prod.rec (motive := fun _ => Bool) (fun n D => k r t a n D) b) (ft_get fD g.1 r)) (Nat.ble (Nat.succ r) g.2.1)) r)
/-- the digits stand from the 64-th bit on; below them a sum of all, of which nothing is asked: the kernel tells numbers apart by their low bits -/
noncomputable def fdig (D j : Nat) : Nat := Nat.mod (Nat.shiftRight D (Nat.add 64 (Nat.mul 32 j))) 4294967296
noncomputable def fmix (j y : Nat) : Nat := Nat.mod (Nat.mul (Nat.add (Nat.mul j 40503) y) 2654435761) 4294967296
noncomputable def fput (D j v : Nat) : Nat := Nat.xor (Nat.xor D (Nat.shiftLeft (Nat.xor (fdig D j) v) (Nat.add 64 (Nat.mul 32 j)))) (fmix j (Nat.xor (fdig D j) v))
noncomputable def fB (c : Bool) (t e : Bool) : Bool := Bool.rec (motive := fun _ => Bool) e t c
/-- with other bounds -/
noncomputable def fe_iv (E : fE) (iv : fI) : fE := (iv, Prod.snd E)
-- ops: what comes next first
noncomputable def o_push (v : fV) (nx : fX) : fX := fun E lv st g => nx E lv (v :: st) g
noncomputable def o_iload (k : Nat) (nx : fX) : fX := fun E lv st g => Sum.rec (motive := fun _ => Bool) (fun n => nx E lv (Sum.inl n :: st) g) (fun r => fx_load r (Prod.fst E) (fun v => nx E lv (v :: st) g) (fun iv v => nx (fe_iv E iv) lv (v :: st) g)) (fl_get k lv)
noncomputable def o_aload (k : Nat) (nx : fX) : fX := fun E lv st g => Sum.rec (motive := fun _ => Bool) (fun _ => false) (fun q => Sum.rec (motive := fun _ => Bool) (fun r => nx E lv (Sum.inr (Sum.inl r) :: st) g) (fun _ => false) q) (fl_get k lv)
noncomputable def fi_lsx (lo : Nat) : Nat := Nat.mod (Nat.add lo 18446744071562067968) 18446744073709551616
/-- an int that isn't known, as a long: known now, or left -/
noncomputable def fi_loadL (k : Nat) (iv : fI) (K : fV → Bool) : Bool := Prod.rec (motive := fun _ => Bool) (fun lo hi => Bool.rec (motive := fun _ => Bool) (K (Sum.inr (Sum.inr (Sum.inr (Nat.add 8 k))))) (frc (fi_lsx lo) (fun m => K (Sum.inr (Sum.inr (Sum.inl m))))) (Nat.beq hi lo)) (fi_get k iv)
noncomputable def fx_loadL (k : Nat) (iv : fI) (K : fV → Bool) : Bool := fB (Nat.ble k 15) (fB (Nat.ble 8 k) (fi_loadL (Nat.sub k 8) iv K) false) false
noncomputable def o_lload (k : Nat) (nx : fX) : fX := fun E lv st g => Sum.rec (motive := fun _ => Bool) (fun _ => false) (fun q => Sum.rec (motive := fun _ => Bool) (fun _ => false) (fun q => Sum.rec (motive := fun _ => Bool) (fun n => nx E lv (Sum.inr (Sum.inr (Sum.inl n)) :: st) g) (fun k => fx_loadL k (Prod.fst E) (fun v => nx E lv (v :: st) g)) q) q) (fl_get k lv)
noncomputable def fx_int (r : Nat ⊕ (Nat ⊕ Nat)) (k : Bool) : Bool := Sum.rec (motive := fun _ => Bool) (fun _ => false) (fun q => Sum.rec (motive := fun _ => Bool) (fun _ => false) (fun n => fB (Nat.ble n 7) k false) q) r
noncomputable def o_istore (k : Nat) (nx : fX) : fX := fun E lv st g => List.rec (motive := fun _ => Bool) false (fun v t _ => Sum.rec (motive := fun _ => Bool) (fun n => fl_set k fF (Sum.inl n) lv (fun lv => nx E lv t g)) (fun r => fx_int r (fl_set k fF (Sum.inr r) lv (fun lv => nx E lv t g))) v) st
noncomputable def o_astore (k : Nat) (nx : fX) : fX := fun E lv st g => fwr st (fun r t => fl_set k fF (Sum.inr (Sum.inl r)) lv (fun lv => nx E lv t g))
noncomputable def fx_long (k : Nat) (b : Bool) : Bool := fB (Nat.ble k 15) (fB (Nat.ble 8 k) b false) false
noncomputable def o_lstore (k : Nat) (nx : fX) : fX := fun E lv st g => List.rec (motive := fun _ => Bool) false (fun v t _ => Sum.rec (motive := fun _ => Bool) (fun _ => false) (fun q => Sum.rec (motive := fun _ => Bool) (fun _ => false) (fun q => Sum.rec (motive := fun _ => Bool) (fun n => fl_set2 k fF (Sum.inr (Sum.inr (Sum.inl n))) lv (fun lv => nx E lv t g)) (fun n => fx_long n (fl_set2 k fF (Sum.inr (Sum.inr (Sum.inr n))) lv (fun lv => nx E lv t g))) q) q) v) st
noncomputable def o_iinc (k c : Nat) (nx : fX) : fX := fun E lv st g => Sum.rec (motive := fun _ => Bool) (fun n => frc (Nat.mod (Nat.add n c) 4294967296) (fun m => fl_set k fF (Sum.inl m) lv (fun lv => nx E lv st g))) (fun _ => false) (fl_get k lv)
noncomputable def o_bin (f : Nat → Nat → Nat) (nx : fX) : fX := fun E lv st g => fw2 st false (fun x y t => frc (f x y) (fun z => nx E lv (Sum.inl z :: t) g))
noncomputable def fi_add (x y : Nat) : Nat := Nat.mod (Nat.add x y) 4294967296
noncomputable def fi_sub (x y : Nat) : Nat := Nat.mod (Nat.sub (Nat.add x 4294967296) (Nat.mod y 4294967296)) 4294967296
noncomputable def fi_mul (x y : Nat) : Nat := Nat.mod (Nat.mul x y) 4294967296
noncomputable def fi_shl (x y : Nat) : Nat := Nat.mod (Nat.shiftLeft x (Nat.mod y 32)) 4294967296
noncomputable def fi_ushr (x y : Nat) : Nat := Nat.shiftRight (Nat.mod x 4294967296) (Nat.mod y 32)
noncomputable def fi_ng (x : Nat) : Bool := Nat.ble 2147483648 x
noncomputable def fi_shr0 (x s : Nat) : Nat := Bool.rec (motive := fun _ => Nat) (Nat.shiftRight x s) (Nat.sub 4294967295 (Nat.shiftRight (Nat.sub 4294967295 x) s)) (fi_ng x)
noncomputable def fi_shr (x y : Nat) : Nat := fi_shr0 (Nat.mod x 4294967296) (Nat.mod y 32)
noncomputable def fi_abs (x : Nat) : Nat := Bool.rec (motive := fun _ => Nat) x (Nat.sub 4294967296 x) (fi_ng x)
noncomputable def fi_rem0 (x y : Nat) : Nat := Bool.rec (motive := fun _ => Nat) (Nat.mod x (fi_abs y)) (Nat.mod (Nat.sub 4294967296 (Nat.mod (Nat.sub 4294967296 x) (fi_abs y))) 4294967296) (fi_ng x)
noncomputable def fi_rem (x y : Nat) : Nat := fi_rem0 (Nat.mod x 4294967296) (Nat.mod y 4294967296)
noncomputable def o_irem (nx : fX) : fX := fun E lv st g => fw2 st false (fun x y t => fB (Nat.beq (Nat.mod y 4294967296) 0) false (frc (fi_rem x y) (fun z => nx E lv (Sum.inl z :: t) g)))
/-- division, both not negative -/
noncomputable def o_idiv (nx : fX) : fX := fun E lv st g => fw2 st false (fun x y t => frc (Nat.mod x 4294967296) (fun x => frc (Nat.mod y 4294967296) (fun y => fB (Nat.beq y 0) false (fB (fi_ng x) false (fB (fi_ng y) false (frc (Nat.div x y) (fun z => nx E lv (Sum.inl z :: t) g)))))))
noncomputable def fi_ltb (x y : Nat) : Bool := Nat.ble (Nat.succ (fi_b x)) (fi_b y)
/-- comparisons with what isn't known: it on the left, or on the right -/
noncomputable def fx_cmp (st : fL) (L : Nat → Nat → fL → Bool) (R : Nat → Nat → fL → Bool) : Bool := List.rec (motive := fun _ => Bool) false (fun y t _ => List.rec (motive := fun _ => Bool) false (fun x t _ => Sum.rec (motive := fun _ => Bool) (fun y => Sum.rec (motive := fun _ => Bool) (fun _ => false) (fun r => Sum.rec (motive := fun _ => Bool) (fun _ => false) (fun q => Sum.rec (motive := fun _ => Bool) (fun _ => false) (fun k => fB (Nat.ble k 7) (L k y t) false) q) r) x) (fun r => Sum.rec (motive := fun _ => Bool) (fun _ => false) (fun q => Sum.rec (motive := fun _ => Bool) (fun _ => false) (fun k => fB (Nat.ble k 7) (Sum.rec (motive := fun _ => Bool) (fun x => R x k t) (fun _ => false) x) false) q) r) y) t) st
/-- at a branch: where to if it is so, else next -/
noncomputable def fx_eq (st : fL) (E : fE) (T N : fE → fL → Bool) : Bool := fx_cmp st (fun k y t => fi_eq k (fi_b y) (Prod.fst E) (fun iv => T (fe_iv E iv) t) (fun iv => N (fe_iv E iv) t)) (fun x k t => fi_eq k (fi_b x) (Prod.fst E) (fun iv => T (fe_iv E iv) t) (fun iv => N (fe_iv E iv) t))
noncomputable def fx_lt (st : fL) (E : fE) (T N : fE → fL → Bool) : Bool := fx_cmp st (fun k y t => fi_lt k (fi_b y) (Prod.fst E) (fun iv => T (fe_iv E iv) t) (fun iv => N (fe_iv E iv) t)) (fun x k t => fi_lt k (Nat.succ (fi_b x)) (Prod.fst E) (fun iv => N (fe_iv E iv) t) (fun iv => T (fe_iv E iv) t))
noncomputable def fx_gt (st : fL) (E : fE) (T N : fE → fL → Bool) : Bool := fx_cmp st (fun k y t => fi_lt k (Nat.succ (fi_b y)) (Prod.fst E) (fun iv => N (fe_iv E iv) t) (fun iv => T (fe_iv E iv) t)) (fun x k t => fi_lt k (fi_b x) (Prod.fst E) (fun iv => T (fe_iv E iv) t) (fun iv => N (fe_iv E iv) t))
noncomputable def o_eq (tg nx : fX) : fX := fun E lv st g => fw2 st (fx_eq st E (fun E t => tg E lv t g) (fun E t => nx E lv t g)) (fun x y t => fB (Nat.beq (Nat.mod x 4294967296) (Nat.mod y 4294967296)) (tg E lv t g) (nx E lv t g))
noncomputable def o_lt (tg nx : fX) : fX := fun E lv st g => fw2 st (fx_lt st E (fun E t => tg E lv t g) (fun E t => nx E lv t g)) (fun x y t => fB (fi_ltb x y) (tg E lv t g) (nx E lv t g))
noncomputable def o_gt (tg nx : fX) : fX := fun E lv st g => fw2 st (fx_gt st E (fun E t => tg E lv t g) (fun E t => nx E lv t g)) (fun x y t => fB (fi_ltb y x) (tg E lv t g) (nx E lv t g))
noncomputable def o_ne (tg nx : fX) : fX := o_eq nx tg
noncomputable def o_ge (tg nx : fX) : fX := o_lt nx tg
noncomputable def o_le (tg nx : fX) : fX := o_gt nx tg
/-- 0 on the stack: a comparison with 0 is one of two -/
noncomputable def o_z (c : fX) : fX := fun E lv st g => c E lv (Sum.inl 0 :: st) g
/-- back to a loop's head, by its number -/
noncomputable def o_back (b : Nat) : fX := fun E lv st g => Prod.fst (Prod.snd (Prod.snd E)) b (Prod.fst E) lv st g
noncomputable def o_bad : fX := fun _ _ _ _ => false
noncomputable def o_ifnull (tg nx : fX) : fX := fun E lv st g => fwr st (fun r t => fB (Nat.beq r 0) (tg E lv t g) (nx E lv t g))
noncomputable def o_ifnonnull (tg nx : fX) : fX := o_ifnull nx tg
noncomputable def o_dup (nx : fX) : fX := fun E lv st g => List.rec (motive := fun _ => Bool) false (fun v t _ => fB (fv_1 v) (nx E lv (v :: v :: t) g) false) st
noncomputable def o_dup2 (nx : fX) : fX := fun E lv st g => List.rec (motive := fun _ => Bool) false (fun v t _ => List.rec (motive := fun _ => Bool) false (fun w t _ => fB (fv_1 v) (fB (fv_1 w) (nx E lv (v :: w :: v :: w :: t) g) false) false) t) st
noncomputable def o_pop (nx : fX) : fX := fun E lv st g => List.rec (motive := fun _ => Bool) false (fun v t _ => fB (fv_1 v) (nx E lv t g) false) st
noncomputable def o_geti (ci j : Nat) (nx : fX) : fX := fun E lv st g => fwc st g (fun _ t a _ D => fB (Nat.beq a ci) (frc (fdig D j) (fun v => nx E lv (Sum.inl v :: t) g)) false)
noncomputable def o_getr (ci j : Nat) (nx : fX) : fX := fun E lv st g => fwc st g (fun _ t a _ D => fB (Nat.beq a ci) (frc (fdig D j) (fun v => nx E lv (Sum.inr (Sum.inl v) :: t) g)) false)
noncomputable def fset (g : fG) (r a n D : Nat) (k : fG → Bool) : Bool := frc D (fun D => Prod.rec (motive := fun _ => Bool) (fun T0 q => Prod.rec (motive := fun _ => Bool) (fun hl q => Prod.rec (motive := fun _ => Bool) (fun c s => ft_set fD T0 r (a, n, D) (fun T => k (T, hl, c, s))) q) q) g)
noncomputable def o_puti (ci j : Nat) (nx : fX) : fX := fun E lv st g => fw1 st false (fun v t => fwc t g (fun r t a n D => fB (Nat.beq a ci) (fset g r a n (fput D j (Nat.mod v 4294967296)) (fun g => nx E lv t g)) false))
noncomputable def o_putr (ci j : Nat) (nx : fX) : fX := fun E lv st g => fwr st (fun v t => fB (Nat.ble v 65535) (fwc t g (fun r t a n D => fB (Nat.beq a ci) (fset g r a n (fput D j v) (fun g => nx E lv t g)) false)) false)
/-- an array's kind -/
noncomputable def fk_arr (a : Nat) : Bool := fB (Nat.ble 84 a) (Nat.ble a 93) (fB (Nat.ble 20 a) (Nat.ble a 29) false)
noncomputable def fk_or (a k : Nat) : Bool := fB (Nat.beq a k) true (Nat.beq a (Nat.add k 64))
noncomputable def o_alen (nx : fX) : fX := fun E lv st g => fwc st g (fun _ t a n _ => fB (fk_arr a) (nx E lv (Sum.inl n :: t) g) false)
noncomputable def o_ild (kd : Nat) (nx : fX) : fX := fun E lv st g => fw1 st false (fun i t => fwc t g (fun _ t a n D => fB (Nat.beq a kd) (fB (Nat.ble (Nat.succ i) n) (frc (fdig D i) (fun v => nx E lv (Sum.inl v :: t) g)) false) false))
noncomputable def o_ald (kd : Nat) (nx : fX) : fX := fun E lv st g => fw1 st false (fun i t => fwc t g (fun _ t a n D => fB (Nat.beq a kd) (fB (Nat.ble (Nat.succ i) n) (frc (fdig D i) (fun v => nx E lv (Sum.inr (Sum.inl v) :: t) g)) false) false))
noncomputable def o_ist (kd m : Nat) (nx : fX) : fX := fun E lv st g => fw2 st false (fun i v t => fwc t g (fun r t a n D => fB (Nat.beq a kd) (fB (Nat.ble (Nat.succ i) n) (fset g r a n (fput D i (Nat.mod v m)) (fun g => nx E lv t g)) false) false))
noncomputable def fx_ast (kd v : Nat) (t : fL) (g : fG) (k : fL → fG → Bool) : Bool := fw1 t false (fun i t => fwc t g (fun r t a n D => fB (Nat.beq a kd) (fB (Nat.ble (Nat.succ i) n) (fset g r a n (fput D i v) (fun g => k t g)) false) false))
/-- a reference, or null, into an array: its kind first -/
noncomputable def o_ast (kd kx : Nat) (nx : fX) : fX := fun E lv st g => fwr st (fun v t => fB (Nat.beq v 0) (fx_ast kd v t g (fun t g => nx E lv t g)) (fB (Nat.ble v 65535) (fwc st g (fun _ _ ax _ _ => fB (fk_or ax kx) (fx_ast kd v t g (fun t g => nx E lv t g)) false)) false))
noncomputable def fnew (g : fG) (a n m : Nat) (k : Nat → fG → Bool) : Bool := Prod.rec (motive := fun _ => Bool) (fun T q => Prod.rec (motive := fun _ => Bool) (fun hl q => Prod.rec (motive := fun _ => Bool) (fun c s => fB (Nat.ble hl 255) (frc (Nat.succ hl) (fun hl1 => frc (Nat.succ c) (fun c => frc (Nat.add s m) (fun s => ft_set fD T hl (a, n, 0) (fun T => k hl1 (T, hl1, c, s)))))) false) q) q) g
noncomputable def o_new (ci n : Nat) (nx : fX) : fX := fun E lv st g => fnew g ci n n (fun r g => nx E lv (Sum.inr (Sum.inl r) :: st) g)
noncomputable def o_newa (kd : Nat) (nx : fX) : fX := fun E lv st g => fw1 st false (fun x t => fB (Nat.ble x 65536) (fnew g kd x x (fun r g => nx E lv (Sum.inr (Sum.inl r) :: t) g)) false)
noncomputable def fl_len4 (st : fL) : Bool := Nat.ble (List.rec (motive := fun _ => Nat) 0 (fun _ _ n => Nat.succ n) st) 4
noncomputable def fe_K (E : fE) : fK := Prod.snd (Prod.snd (Prod.snd E))
noncomputable def o_throw (x : Nat) : fX := fun E _ st g => fB (fl_len4 st) (fnew g 99 0 6 (fun _ g => fe_K E (Prod.fst E) (Sum.inr x) g)) false
/-- arguments off the stack, the last first; which are longs; behind them what stands ready -/
noncomputable def fl_args (ds : List Bool) : fL → fL → (fL → fL → Bool) → Bool := List.rec (motive := fun _ => fL → fL → (fL → fL → Bool) → Bool) (fun st acc k => k st acc) (fun d _ ih st acc k => List.rec (motive := fun _ => Bool) false (fun v t _ => Bool.rec (motive := fun _ => Bool) (fB (fv_1 v) (ih t (v :: acc) k) false) (fB (fv_1 v) false (ih t (v :: fF :: acc) k)) d) st) ds
noncomputable def fback (nx : fX) (E : fE) (lv : fL) (t : fL) (g : fG) (x : Nat → Bool) (r : fR) : Bool := Sum.rec (motive := fun _ => Bool) (fun v => Option.rec (motive := fun _ => Bool) (nx E lv t g) (fun v => nx E lv (v :: t) g) v) x r
noncomputable def o_call (m : fM) (ds : List Bool) (fill : fL) (nx : fX) : fX := fun E lv st g => fl_args ds st fill (fun t as => fB (fl_len4 t) (m (Prod.fst (Prod.snd E)) (fun iv r g => fback nx (fe_iv E iv) lv t g (fun x => fe_K E iv (Sum.inr x) g) r) (Prod.fst E) as g) false)
noncomputable def ff_find (hs : List (Nat × Nat × fX)) (x : Nat) (k : Nat → fX → Bool) : Bool := List.rec (motive := fun _ => Bool) false (fun a _ ih => Prod.rec (motive := fun _ => Bool) (fun y q => Prod.rec (motive := fun _ => Bool) (fun i tg => fB (Nat.beq y x) (k i tg) ih) q) a) hs
noncomputable def o_callH (m : fM) (ds : List Bool) (fill : fL) (hs : List (Nat × Nat × fX)) (nx : fX) : fX := fun E lv st g => fl_args ds st fill (fun t as => fB (fl_len4 t) (m (Prod.fst (Prod.snd E)) (fun iv r g => fback nx (fe_iv E iv) lv t g (fun x => ff_find hs x (fun i tg => fl_set i fF fF lv (fun lv => tg (fe_iv E iv) lv [] g))) r) (Prod.fst E) as g) false)
/-- the receiver: the one behind the arguments -/
noncomputable def fl_nth (k : Nat) (st : fL) (c : Nat → Bool) : Bool := Sum.rec (motive := fun _ => Bool) (fun _ => false) (fun q => Sum.rec (motive := fun _ => Bool) (fun r => Nat.rec (motive := fun _ => Bool) false (fun r _ => c r) r) (fun _ => false) q) (fl_get k st)
noncomputable def o_recV (kd n : Nat) (call : fX) : fX := fun E lv st g => fl_nth n st (fun r => fB (Nat.ble (Nat.succ r) g.2.1) (fB (Nat.beq (Prod.fst (ft_get fD g.1 r)) kd) (call E lv st g) false) false)
noncomputable def o_recI (n : Nat) (call : fX) : fX := fun E lv st g => fl_nth n st (fun _ => call E lv st g)
noncomputable def o_objinit (nx : fX) : fX := fun E lv st g => fwr st (fun r t => fB (Nat.beq r 0) false (fB (fl_len4 t) (nx E lv t g) false))
noncomputable def fnil (st : fL) (b : Bool) : Bool := List.rec (motive := fun _ => Bool) b (fun _ _ _ => false) st
noncomputable def o_ret : fX := fun E _ st g => fnil st (fe_K E (Prod.fst E) (Sum.inl none) g)
noncomputable def o_iret (m : Nat) : fX := fun E _ st g => fw1 st false (fun v t => fnil t (fB (Nat.ble (Nat.succ v) m) (fe_K E (Prod.fst E) (Sum.inl (some (Sum.inl v))) g) false))
noncomputable def o_aret : fX := fun E _ st g => fwr st (fun r t => fnil t (fe_K E (Prod.fst E) (Sum.inl (some (Sum.inr (Sum.inl r)))) g))
noncomputable def fwl (st : fL) (fb : Bool) (k : Nat → fL → Bool) : Bool := List.rec (motive := fun _ => Bool) false (fun x t _ => Sum.rec (motive := fun _ => Bool) (fun _ => false) (fun q => Sum.rec (motive := fun _ => Bool) (fun _ => false) (fun q => Sum.rec (motive := fun _ => Bool) (fun n => k n t) (fun _ => fb) q) q) x) st
noncomputable def o_lret : fX := fun E _ st g => fwl st false (fun v t => fnil t (fe_K E (Prod.fst E) (Sum.inl (some (Sum.inr (Sum.inr (Sum.inl v))))) g))
/-- a double, or a float: 0 alone -/
noncomputable def fwd (id : Nat) (st : fL) (k : fL → Bool) : Bool := List.rec (motive := fun _ => Bool) false (fun x t _ => Sum.rec (motive := fun _ => Bool) (fun _ => false) (fun q => Sum.rec (motive := fun _ => Bool) (fun _ => false) (fun q => Sum.rec (motive := fun _ => Bool) (fun _ => false) (fun n => fB (Nat.beq n id) (k t) false) q) q) x) st
noncomputable def o_dret : fX := fun E _ st g => fwd 24 st (fun t => fnil t (fe_K E (Prod.fst E) (Sum.inl (some (Sum.inr (Sum.inr (Sum.inr 24))))) g))
noncomputable def o_fret : fX := fun E _ st g => fwd 16 st (fun t => fnil t (fe_K E (Prod.fst E) (Sum.inl (some (Sum.inr (Sum.inr (Sum.inr 16))))) g))
noncomputable def o_dstore (k : Nat) (nx : fX) : fX := fun E lv st g => fwd 24 st (fun t => fl_set2 k fF (Sum.inr (Sum.inr (Sum.inr 24))) lv (fun lv => nx E lv t g))
noncomputable def o_fstore (k : Nat) (nx : fX) : fX := fun E lv st g => fwd 16 st (fun t => fl_set k fF (Sum.inr (Sum.inr (Sum.inr 16))) lv (fun lv => nx E lv t g))
noncomputable def fw2l (st : fL) (fb : Bool) (k : Nat → Nat → fL → Bool) : Bool := fwl st false (fun y t => fwl t fb (fun x t => k x y t))
noncomputable def o_lbin (f : Nat → Nat → Nat) (nx : fX) : fX := fun E lv st g => fw2l st false (fun x y t => frc (f x y) (fun z => nx E lv (Sum.inr (Sum.inr (Sum.inl z)) :: t) g))
noncomputable def fl_add (x y : Nat) : Nat := Nat.mod (Nat.add x y) 18446744073709551616
noncomputable def fl_sub (x y : Nat) : Nat := Nat.mod (Nat.sub (Nat.add x 18446744073709551616) (Nat.mod y 18446744073709551616)) 18446744073709551616
noncomputable def fl_mul (x y : Nat) : Nat := Nat.mod (Nat.mul x y) 18446744073709551616
noncomputable def o_lshl (nx : fX) : fX := fun E lv st g => fw1 st false (fun y t => fwl t false (fun x t => frc (Nat.mod (Nat.shiftLeft x (Nat.mod y 64)) 18446744073709551616) (fun z => nx E lv (Sum.inr (Sum.inr (Sum.inl z)) :: t) g)))
noncomputable def fl_b (x : Nat) : Nat := Nat.mod (Nat.add x 9223372036854775808) 18446744073709551616
noncomputable def fl_cmp0 (u v : Nat) : Nat := Bool.rec (motive := fun _ => Nat) (Bool.rec (motive := fun _ => Nat) 1 0 (Nat.beq u v)) 4294967295 (Nat.ble (Nat.succ u) v)
noncomputable def fl_cmp (x y : Nat) : Nat := fl_cmp0 (fl_b x) (fl_b y)
noncomputable def fl_lb (y : Nat) : Nat := Nat.mod (Nat.add y 2147483648) 18446744073709551616
/-- what stands second, an int that isn't known as a long -/
noncomputable def fx_lcmp (st : fL) (k : Nat → Nat → fL → Bool) : Bool := fwl st false (fun y t => List.rec (motive := fun _ => Bool) false (fun x t _ => Sum.rec (motive := fun _ => Bool) (fun _ => false) (fun q => Sum.rec (motive := fun _ => Bool) (fun _ => false) (fun q => Sum.rec (motive := fun _ => Bool) (fun _ => false) (fun n => fx_long n (frc (fl_lb y) (fun c => fB (Nat.ble c 4294967295) (k (Nat.sub n 8) c t) false))) q) q) x) t)
noncomputable def o_lcmp (nx : fX) : fX := fun E lv st g => fw2l st (fx_lcmp st (fun k c t => fi_lt k c (Prod.fst E) (fun iv => nx (fe_iv E iv) lv (Sum.inl 4294967295 :: t) g) (fun iv => fi_lt k (Nat.succ c) iv (fun iv => nx (fe_iv E iv) lv (Sum.inl 0 :: t) g) (fun iv => nx (fe_iv E iv) lv (Sum.inl 1 :: t) g)))) (fun x y t => frc (fl_cmp x y) (fun z => nx E lv (Sum.inl z :: t) g))
noncomputable def fi_sx (x : Nat) : Nat := Bool.rec (motive := fun _ => Nat) x (Nat.add x 18446744069414584320) (fi_ng x)
noncomputable def o_i2l (nx : fX) : fX := fun E lv st g => List.rec (motive := fun _ => Bool) false (fun v t _ => Sum.rec (motive := fun _ => Bool) (fun x => frc (fi_sx (Nat.mod x 4294967296)) (fun z => nx E lv (Sum.inr (Sum.inr (Sum.inl z)) :: t) g)) (fun r => Sum.rec (motive := fun _ => Bool) (fun _ => false) (fun q => Sum.rec (motive := fun _ => Bool) (fun _ => false) (fun k => fB (Nat.ble k 7) (fi_loadL k (Prod.fst E) (fun v => nx E lv (v :: t) g)) false) q) r) v) st
noncomputable def o_l2i (nx : fX) : fX := fun E lv st g => fwl st false (fun x t => frc (Nat.mod x 4294967296) (fun z => nx E lv (Sum.inl z :: t) g))
noncomputable def fdigl (D j : Nat) : Nat := Nat.mod (Nat.shiftRight D (Nat.add 64 (Nat.mul 64 j))) 18446744073709551616
noncomputable def fputl (D j v : Nat) : Nat := Nat.xor (Nat.xor D (Nat.shiftLeft (Nat.xor (fdigl D j) v) (Nat.add 64 (Nat.mul 64 j)))) (fmix j (Nat.xor (fdigl D j) v))
noncomputable def o_lld (nx : fX) : fX := fun E lv st g => fw1 st false (fun i t => fwc t g (fun _ t a n D => fB (Nat.beq a 21) (fB (Nat.ble (Nat.succ i) n) (frc (fdigl D i) (fun v => nx E lv (Sum.inr (Sum.inr (Sum.inl v)) :: t) g)) false) false))
noncomputable def o_lst (nx : fX) : fX := fun E lv st g => fwl st false (fun v t => fw1 t false (fun i t => fwc t g (fun r t a n D => fB (Nat.beq a 21) (fB (Nat.ble (Nat.succ i) n) (fset g r a n (fputl D i (Nat.mod v 18446744073709551616)) (fun g => nx E lv t g)) false) false)))
/-- arraycopy from the first to the first; an array of which nothing is said (84) stays so -/
noncomputable def fcpy (a n D a' n' D' m : Nat) (k : Nat → Nat → Bool) : Bool := fB (Nat.ble m n) (fB (Nat.ble m n') (fB (Nat.beq a 20) (fB (Nat.beq a' 20) (frc (Nat.lor (Nat.mod D (Nat.pow 2 (Nat.add 64 (Nat.mul 32 m)))) (Nat.shiftLeft (Nat.shiftRight D' (Nat.add 64 (Nat.mul 32 m))) (Nat.add 64 (Nat.mul 32 m)))) (fun D => k 20 D)) false) (fB (Nat.beq a 84) (fB (Nat.beq a' 20) (k 84 0) false) false)) false) false
noncomputable def o_acopy (nx : fX) : fX := fun E lv st g => fw2 st false (fun dp m t => fB (Nat.beq dp 0) (fwc t g (fun r' t a' n' D' => fw1 t false (fun sp t => fB (Nat.beq sp 0) (fwc t g (fun _ t a n D => fB (fl_len4 t) (fcpy a n D a' n' D' m (fun a D => fset g r' a n' D (fun g => nx E lv t g))) false)) false))) false)
/-- a method: its loops' heads, the entry first -/
noncomputable def fx_nth (b : Nat) : List fX → fX := Nat.rec (motive := fun _ => List fX → fX) (fun l => List.rec (motive := fun _ => fX) o_bad (fun a _ _ => a) l) (fun _ ih l => List.rec (motive := fun _ => fX) o_bad (fun _ t _ => ih t) l) b
noncomputable def f_loop (C : List fX) (K : fK) (n : Nat) : fJ := Nat.rec (motive := fun _ => fJ) (fun _ _ _ _ _ => false) (fun n ih b iv lv st g => fx_nth b C (iv, (n, (ih, K))) lv st g) n
noncomputable def f_meth (C : List fX) : fM := fun n K iv lv g => f_loop C K n 0 iv lv [] g
