section MA
variable {p : Program} {l : Launch} {e : Env} {R : Room} {s : State} {m : MethodId} {args : Array Value} {below : List Frame} {meth : Method} {c : Code} {Q : State → Prop} {cc : ByteArray}
variable {D : va_G} {dA : Nat → ClassId} {z nL : Nat}
variable {own C : String} {index : Nat}
variable {pc : Nat} {lv : List (Nat × Value)} {st : List Value} {r : Nat} {w : mjH × Nat × Nat}
theorem mj_arr_ty {t : ArrayType} {k : Nat} {v : Value} (h : mj_arr t = some (k, v)) : mj_ty k = newarray.typeOf t ∧ defaultValue (newarray.typeOf t) = v ∧ 20 ≤ k ∧ k < 25 ∧ (∀ z, mj_v z v = v) ∧ componentBytes (newarray.typeOf t) ≤ 8 := by
  cases t <;> simp [mj_arr] at h <;> obtain ⟨rfl, rfl⟩ := h <;> refine ⟨rfl, rfl, by decide, by decide, fun _ => rfl, by decide⟩
theorem mo_newa (hx : p.tables.exec = Jvm.exec) (hb : c.code = cc) (hK : mj_K D dA s) {t : ArrayType} (harr : (Cond.arrayClass (newarray.typeOf t)).before args s = true) (hd : decode cc pc = .ok (.newarray t, 2)) {k : Nat} {v : Value} (ht : mj_arr t = some (k, v))
    {x : Int32} (hn : ¬ (x < 0 ∨ 65536 < x.toNatClampNeg)) (hcs : w.2.1 + 1 ≤ R.cells) (hss : w.2.2 + x.toNatClampNeg ≤ R.slots)
    (kk : mj_W p l e R s m args below meth c Q D dA z nL (pc + 2, lv, .ref w.1.length :: st, w.1 ++ [(k, List.replicate x.toNatClampNeg v)], w.2.1 + 1, w.2.2 + x.toNatClampNeg)) : mj_W p l e R s m args below meth c Q D dA z nL (pc, lv, .int x :: st, w) := by
  intro H locs ls a1 a2 a3 a4
  obtain ⟨e1, e2, h1, h2, e3, e4⟩ := mj_arr_ty ht
  have hx0 : ¬ x < 0 := fun q => hn (Or.inl q)
  have hx1 : x.toNatClampNeg ≤ 65536 := Nat.not_lt.mp fun q => hn (Or.inr q)
  refine va_newaK hx hb harr rfl hd rfl hx0 rfl (Nat.le_trans (Nat.mul_le_mul hx1 e4) (by decide)) hcs hss rfl fun H1 cA g1 z1 o1 hAr hNm => ?_
  have hA : cA = dA k := by
    have h9 := (hK.2.1 k h1 (by omega)).2
    rw [e1] at h9
    have : s.vm.findClass ("[" ++ (newarray.typeOf t).toString) = some (dA k) := by cases t <;> exact h9
    exact Option.some.inj (hNm.symm.trans this)
  rw [hA, e2] at g1
  exact mj_newarr a1 a2 a3 a4 h1 (by omega) (j := 2) (v := v) (by rw [e3]; exact g1) z1 o1 kk
theorem mo_anew (hx : p.tables.exec = Jvm.exec) (hb : c.code = cc) (hK : mj_K D dA s) (hown : s.vm.findClass own = some m.cls) (hclink : (Cond.classLink own index C).before args s = true) (hC : FieldType.object C ∈ mj_AOs) {k : Nat} (h1 : 20 ≤ k) (h2 : k < 30) (hk : mj_ty k = .object C) (hd : decode cc pc = .ok (.anewarray index, 3))
    {x : Int32} (hn : ¬ (x < 0 ∨ 65536 < x.toNatClampNeg)) (hcs : w.2.1 + 1 ≤ R.cells) (hss : w.2.2 + x.toNatClampNeg ≤ R.slots)
    (kk : mj_W p l e R s m args below meth c Q D dA z nL (pc + 3, lv, .ref w.1.length :: st, w.1 ++ [(k, List.replicate x.toNatClampNeg .null)], w.2.1 + 1, w.2.2 + x.toNatClampNeg)) : mj_W p l e R s m args below meth c Q D dA z nL (pc, lv, .int x :: st, w) := by
  intro H locs ls a1 a2 a3 a4
  have hx0 : ¬ x < 0 := fun q => hn (Or.inl q)
  have hx1 : x.toNatClampNeg ≤ 65536 := Nat.not_lt.mp fun q => hn (Or.inr q)
  refine W.anew hx hb hown hclink (hK.2.2.1 _ hC) rfl hd rfl hx0 (Nat.le_trans (Nat.mul_le_mul_right 4 hx1) (by decide)) hcs hss fun cA kA comp f1 f2 f3 f4 => ?_
  have hA : cA = dA k := by
    have h9 := (hK.2.1 k h1 h2).2
    rw [hk] at h9
    obtain ⟨kA', comp', -, -, -, g4⟩ := h9
    exact Option.some.inj (f1.symm.trans g4)
  subst hA
  exact mj_newarr a1 a2 a3 a4 h1 h2 (j := 3) (v := .null) (by rw [Array.getElem?_push_size, ← arrV_new]; rfl) (by rw [Array.size_push]) (fun q hq => by rw [Array.getElem?_push, if_neg (Nat.ne_of_lt hq)]) kk
theorem mo_anewA (hx : p.tables.exec = Jvm.exec) (hb : c.code = cc) (hK : mj_K D dA s) (hown : s.vm.findClass own = some m.cls) (hclink : (Cond.classLink own index "[I").before args s = true) (hd : decode cc pc = .ok (.anewarray index, 3))
    {x : Int32} (hn : ¬ (x < 0 ∨ 65536 < x.toNatClampNeg)) (hcs : w.2.1 + 1 ≤ R.cells) (hss : w.2.2 + x.toNatClampNeg ≤ R.slots)
    (kk : mj_W p l e R s m args below meth c Q D dA z nL (pc + 3, lv, .ref w.1.length :: st, w.1 ++ [(29, List.replicate x.toNatClampNeg .null)], w.2.1 + 1, w.2.2 + x.toNatClampNeg)) : mj_W p l e R s m args below meth c Q D dA z nL (pc, lv, .int x :: st, w) := by
  intro H locs ls a1 a2 a3 a4
  have hx0 : ¬ x < 0 := fun q => hn (Or.inl q)
  have hx1 : x.toNatClampNeg ≤ 65536 := Nat.not_lt.mp fun q => hn (Or.inr q)
  refine W.anewA (t := .int) hx hb hown hclink (hK.2.2.1 (.array .int) (by decide)) rfl hd rfl hx0 (Nat.le_trans (Nat.mul_le_mul_right 4 hx1) (by decide)) hcs hss fun cA kA comp f1 f2 f3 f4 => ?_
  have hA : cA = dA 29 := Option.some.inj (f1.symm.trans (hK.2.1 29 (by decide) (by decide)).2)
  subst hA
  exact mj_newarr a1 a2 a3 a4 (by decide) (by decide) (j := 3) (v := .null) (by rw [Array.getElem?_push_size, ← arrV_new]; rfl) (by rw [Array.size_push]) (fun q hq => by rw [Array.getElem?_push, if_neg (Nat.ne_of_lt hq)]) kk
/-- a reference put into an array of references -/
theorem mo_aast (hx : p.tables.exec = Jvm.exec) (hb : c.code = cc) (hK : mj_K D dA s) (hd : decode cc pc = .ok (.aastore, 1)) {t x k : Nat} {vs : List Value} {i : Int32} {f' : mjF} (hv : w.1[x]? = some (k, vs))
    (hkt : (∃ C T N, mj_cl[k]? = some (C, T, N) ∧ mj_ty t = .object C ∧ 20 ≤ t ∧ t < 30) ∨ (k = 20 ∧ t = 29)) (ho : mj_put t (pc, lv, .ref x :: .int i :: .ref r :: st, w) (.ref x) i r st = some f')
    (kk : mj_W p l e R s m args below meth c Q D dA z nL f') : mj_W p l e R s m args below meth c Q D dA z nL (pc, lv, .ref x :: .int i :: .ref r :: st, w) := by
  have ht : 20 ≤ t ∧ t < 30 := by
    rcases hkt with ⟨C, T, N, -, -, h1, h2⟩ | ⟨-, rfl⟩
    · exact ⟨h1, h2⟩
    · exact ⟨by decide, by decide⟩
  refine mo_put ht.1 ht.2 ho (fun {H locs ls cell} hc harr hfm hin goal hP => ?_) hK kk
  have h0 : ¬ i < 0 := fun q => hin (Or.inl q)
  have hlt : i.toNatClampNeg < cell.slots.size := Nat.not_le.mp fun q => hin (Or.inr q)
  obtain ⟨n, f, rfl⟩ := hfm
  rcases hkt with ⟨C, T, N, hcl, hty, h1, h2⟩ | ⟨rfl, rfl⟩
  · obtain ⟨eN, h8⟩ := mj_clN hcl
    obtain ⟨-, cellV, g1, g2, g3, -⟩ := (hP.2 x _ hv).1 h8
    have hcls := (hK.1.1 k _ hcl).2
    have h9 := (hK.2.1 t h1 h2).2
    rw [hty] at h9
    obtain ⟨kA, comp, k1, k2, k3, -⟩ := h9
    have hcomp : comp = D.1 k := Option.some.inj (k3.symm.trans hcls.1)
    subst hcomp
    obtain ⟨kC, hkC, -⟩ := hcls.2
    exact W.aast hx hb hc (fun q h => by cases h) (fun h => by cases h) k1 k2 rfl hkC ⟨h0, hlt⟩ g1 (fun q h => by rw [g3] at h; cases h) (by rw [g2]; exact hkC) (by rw [g2]; exact va_assign hcls) rfl rfl hd goal
  · obtain ⟨kA, kB, b1, b2, b3⟩ := hK.2.2.2
    have hcv := (hP.2 x _ hv).2 (show 20 ≤ 20 from Nat.le_refl _) (show 20 < 30 by decide)
    exact W.aast hx hb hc (fun q h => by cases h) (fun h => by cases h) b1 b2 rfl b3 ⟨h0, hlt⟩ hcv (fun q h => by cases h) b3 (Vm.assignable_self _ _) rfl rfl hd goal
theorem mj_aastN0 {T : State} {locs : List Loc} {cells slots : Nat} (X : Stand p l e R s m args below meth c T locs cells slots) (hexec : p.tables.exec = Jvm.exec) {a : Addr} {cell : Cell} {j : Int32} (hcell : T.heap[a]? = some cell) (harr : s.isArrayOf cell (.array .int)) (hknown : cell.vm ≠ .unknown)
    (hin : ¬ (j < 0 ∨ cell.slots.size ≤ j.toNatClampNeg))
    {g : JFrame} (hg : g.method = m) {rest : List Value} (hstack : g.stack = .null :: .int j :: .ref a :: rest) (hdg : decode c.code g.pc = .ok (.aastore, 1)) :
    Stand p l e R s m args below meth c (T.setCell a (cell.setSlot j.toNatClampNeg .null)) (locs ++ [⟨a, j.toNatClampNeg⟩]) cells slots ∧
      ∀ target, Steps p.tables e below ((T.setCell a (cell.setSlot j.toNatClampNeg .null)).setTop { g with pc := g.pc + 1, stack := rest }) target → Steps p.tables e below (T.setTop g) target := by
  have hT := State.isArrayOf_alike X.warmed.alike harr
  have hfit : T.fitsSlot cell.cls cell.vm j.toNatClampNeg .null = true := by
    obtain ⟨hobj, k, hk, comp, hkind⟩ := hT
    cases hvm : cell.vm <;> first | exact absurd hvm (hobj _) | simp [State.fitsSlot, State.slotType?, hk, hkind, fits]
  refine ⟨X.stored hcell _ _, fun target hrest => ?_⟩
  subst hg
  jvm_step X.here [hexec, hdg]
  refine aastore.wp_of_null (c := cell) (t := .array .int) X.here.top hstack hcell hT hin hknown (Nat.not_le.mp fun q => hin (Or.inr q)) hfit ?_
  intro acts
  rw [afterInstr_ok]
  exact hrest
theorem mj_WaastN {H : Heap} {locs : List Loc} {cells slots : Nat} (hexec : p.tables.exec = Jvm.exec) (hb : c.code = cc) {a : Addr} {cell : Cell} {j : Int32} (hcell : H[a]? = some cell) (harr : s.isArrayOf cell (.array .int)) (hknown : cell.vm ≠ .unknown) (hin : ¬ (j < 0 ∨ cell.slots.size ≤ j.toNatClampNeg))
    {g : JFrame} (hg : g.method = m) {rest : List Value} (hstack : g.stack = .null :: .int j :: .ref a :: rest) (hdg : decode cc g.pc = .ok (.aastore, 1))
    (kk : ∀ H' : Heap, H'[a]? = some (cell.setSlot j.toNatClampNeg .null) → H'.size = H.size → (∀ q, q ≠ a → H'[q]? = H[q]?) → W p l e R s m args below meth c H' (locs ++ [⟨a, j.toNatClampNeg⟩]) cells slots Q { g with pc := g.pc + 1, stack := rest }) :
    W p l e R s m args below meth c H locs cells slots Q g := by
  intro T hT X
  have hT' : T.heap[a]? = some cell := by rw [hT]; exact hcell
  obtain ⟨X', st⟩ := mj_aastN0 X hexec hT' harr hknown hin hg hstack (by rw [hb]; exact hdg)
  have hlt : a < T.heap.size := (Array.getElem?_eq_some_iff.mp hT').1
  obtain ⟨t', a1, b1⟩ := kk _ (heapAt_setCell_self _ hlt) (by rw [size_setCell, hT]) (fun q hq => by rw [heapAt_setCell_ne _ (Ne.symm hq), hT]) (T.setCell a (cell.setSlot j.toNatClampNeg .null)) rfl X'
  exact ⟨t', st t' a1, b1⟩
theorem mj_ty_ref {t : Nat} (h1 : 25 ≤ t) (h2 : t < 30) : (∃ C, mj_ty t = .object C) ∨ mj_ty t = .array .int := by
  have : t = 25 ∨ t = 26 ∨ t = 27 ∨ t = 28 ∨ t = 29 := by omega
  rcases this with rfl | rfl | rfl | rfl | rfl
  · exact Or.inl ⟨_, rfl⟩
  · exact Or.inl ⟨_, rfl⟩
  · exact Or.inl ⟨_, rfl⟩
  · exact Or.inl ⟨_, rfl⟩
  · exact Or.inr rfl
theorem mo_aastN (hx : p.tables.exec = Jvm.exec) (hb : c.code = cc) (hK : mj_K D dA s) (hd : decode cc pc = .ok (.aastore, 1)) {t : Nat} {i : Int32} {f' : mjF} (h1 : 25 ≤ t) (h2 : t < 30)
    (ho : mj_put t (pc, lv, .null :: .int i :: .ref r :: st, w) .null i r st = some f')
    (kk : mj_W p l e R s m args below meth c Q D dA z nL f') : mj_W p l e R s m args below meth c Q D dA z nL (pc, lv, .null :: .int i :: .ref r :: st, w) := by
  refine mo_put (by omega) h2 ho (fun {H locs ls cell} hc harr hfm hin goal hP => ?_) hK kk
  obtain ⟨n, f, rfl⟩ := hfm
  rcases mj_ty_ref h1 h2 with ⟨C, hC⟩ | hC
  · rw [hC] at harr
    exact va_WaastN (C := C) hx hb hc harr (fun h => by cases h) hin rfl rfl hd goal
  · rw [hC] at harr
    exact mj_WaastN hx hb hc harr (fun h => by cases h) hin rfl rfl hd goal
theorem mo_aald (hx : p.tables.exec = Jvm.exec) (hb : c.code = cc) (hK : mj_K D dA s) (hd : decode cc pc = .ok (.aaload, 1)) {t : Nat} {i : Int32} {f' : mjF} (h1 : 25 ≤ t) (h2 : t < 30)
    (ho : mj_get t (pc, lv, .int i :: .ref r :: st, w) i r st = some f')
    (kk : mj_W p l e R s m args below meth c Q D dA z nL f') : mj_W p l e R s m args below meth c Q D dA z nL (pc, lv, .int i :: .ref r :: st, w) :=
  mo_get (by omega) h2 ho (fun {H locs ls cell v} hc harr hkn hin hv k => W.aald hx hb hc harr (by rcases mj_ty_ref h1 h2 with ⟨C, hC⟩ | hC <;> rw [hC] <;> rfl) hkn hin hv rfl rfl hd k) hK kk
theorem mo_iald (hx : p.tables.exec = Jvm.exec) (hb : c.code = cc) (hK : mj_K D dA s) (hd : decode cc pc = .ok (.iaload, 1)) {i : Int32} {f' : mjF} (ho : mj_get 20 (pc, lv, .int i :: .ref r :: st, w) i r st = some f') (kk : mj_W p l e R s m args below meth c Q D dA z nL f') : mj_W p l e R s m args below meth c Q D dA z nL (pc, lv, .int i :: .ref r :: st, w) :=
  mo_get (by decide) (by decide) ho (fun {H locs ls cell v} hc harr hkn hin hv k => W.iald hx hb hc harr hkn hin hv rfl rfl hd k) hK kk
theorem mo_lald (hx : p.tables.exec = Jvm.exec) (hb : c.code = cc) (hK : mj_K D dA s) (hd : decode cc pc = .ok (.laload, 1)) {i : Int32} {f' : mjF} (ho : mj_get 21 (pc, lv, .int i :: .ref r :: st, w) i r st = some f') (kk : mj_W p l e R s m args below meth c Q D dA z nL f') : mj_W p l e R s m args below meth c Q D dA z nL (pc, lv, .int i :: .ref r :: st, w) :=
  mo_get (by decide) (by decide) ho (fun {H locs ls cell v} hc harr hkn hin hv k => W.lald hx hb hc harr hkn hin hv rfl rfl hd k) hK kk
theorem mo_cald (hx : p.tables.exec = Jvm.exec) (hb : c.code = cc) (hK : mj_K D dA s) (hd : decode cc pc = .ok (.caload, 1)) {i : Int32} {f' : mjF} (ho : mj_get 22 (pc, lv, .int i :: .ref r :: st, w) i r st = some f') (kk : mj_W p l e R s m args below meth c Q D dA z nL f') : mj_W p l e R s m args below meth c Q D dA z nL (pc, lv, .int i :: .ref r :: st, w) :=
  mo_get (by decide) (by decide) ho (fun {H locs ls cell v} hc harr hkn hin hv k => W.cald hx hb hc harr hkn hin hv rfl rfl hd k) hK kk
theorem mo_zald (hx : p.tables.exec = Jvm.exec) (hb : c.code = cc) (hK : mj_K D dA s) (hd : decode cc pc = .ok (.baload, 1)) {i : Int32} {f' : mjF} (ho : mj_get 23 (pc, lv, .int i :: .ref r :: st, w) i r st = some f') (kk : mj_W p l e R s m args below meth c Q D dA z nL f') : mj_W p l e R s m args below meth c Q D dA z nL (pc, lv, .int i :: .ref r :: st, w) :=
  mo_get (by decide) (by decide) ho (fun {H locs ls cell v} hc harr hkn hin hv k => W.zald hx hb hc harr hkn hin hv rfl rfl hd k) hK kk
theorem mo_dald (hx : p.tables.exec = Jvm.exec) (hb : c.code = cc) (hK : mj_K D dA s) (hd : decode cc pc = .ok (.daload, 1)) {i : Int32} {f' : mjF} (ho : mj_get 24 (pc, lv, .int i :: .ref r :: st, w) i r st = some f') (kk : mj_W p l e R s m args below meth c Q D dA z nL f') : mj_W p l e R s m args below meth c Q D dA z nL (pc, lv, .int i :: .ref r :: st, w) :=
  mo_get (by decide) (by decide) ho (fun {H locs ls cell v} hc harr hkn hin hv k => W.dald hx hb hc harr hkn hin hv rfl rfl hd k) hK kk
theorem mo_iast (hx : p.tables.exec = Jvm.exec) (hb : c.code = cc) (hK : mj_K D dA s) (hd : decode cc pc = .ok (.iastore, 1)) {i x : Int32} {f' : mjF} (ho : mj_put 20 (pc, lv, .int x :: .int i :: .ref r :: st, w) (.int x) i r st = some f') (kk : mj_W p l e R s m args below meth c Q D dA z nL f') : mj_W p l e R s m args below meth c Q D dA z nL (pc, lv, .int x :: .int i :: .ref r :: st, w) :=
  mo_put (by decide) (by decide) ho (fun {H locs ls cell} hc harr hfm hin goal hP => W.iast hx hb hc harr (by obtain ⟨n, f, rfl⟩ := hfm; exact fun h => by cases h) hin rfl rfl hd goal) hK kk
theorem mo_last (hx : p.tables.exec = Jvm.exec) (hb : c.code = cc) (hK : mj_K D dA s) (hd : decode cc pc = .ok (.lastore, 1)) {i : Int32} {x : Int64} {f' : mjF} (ho : mj_put 21 (pc, lv, .long x :: .int i :: .ref r :: st, w) (.long x) i r st = some f') (kk : mj_W p l e R s m args below meth c Q D dA z nL f') : mj_W p l e R s m args below meth c Q D dA z nL (pc, lv, .long x :: .int i :: .ref r :: st, w) :=
  mo_put (by decide) (by decide) ho (fun {H locs ls cell} hc harr hfm hin goal hP => W.last hx hb hc harr (by obtain ⟨n, f, rfl⟩ := hfm; exact fun h => by cases h) hin rfl rfl hd goal) hK kk
theorem mo_cast (hx : p.tables.exec = Jvm.exec) (hb : c.code = cc) (hK : mj_K D dA s) (hd : decode cc pc = .ok (.castore, 1)) {i x : Int32} {f' : mjF} (ho : mj_put 22 (pc, lv, .int x :: .int i :: .ref r :: st, w) (narrow .char (.int x)) i r st = some f') (kk : mj_W p l e R s m args below meth c Q D dA z nL f') : mj_W p l e R s m args below meth c Q D dA z nL (pc, lv, .int x :: .int i :: .ref r :: st, w) :=
  mo_put (by decide) (by decide) ho (fun {H locs ls cell} hc harr hfm hin goal hP => W.cast hx hb hc harr (by obtain ⟨n, f, rfl⟩ := hfm; exact fun h => by cases h) hin rfl rfl hd goal) hK kk
theorem mo_zast (hx : p.tables.exec = Jvm.exec) (hb : c.code = cc) (hK : mj_K D dA s) (hd : decode cc pc = .ok (.bastore, 1)) {i x : Int32} {f' : mjF} (ho : mj_put 23 (pc, lv, .int x :: .int i :: .ref r :: st, w) (narrow .boolean (.int x)) i r st = some f') (kk : mj_W p l e R s m args below meth c Q D dA z nL f') : mj_W p l e R s m args below meth c Q D dA z nL (pc, lv, .int x :: .int i :: .ref r :: st, w) :=
  mo_put (by decide) (by decide) ho (fun {H locs ls cell} hc harr hfm hin goal hP => W.zast hx hb hc harr (by obtain ⟨n, f, rfl⟩ := hfm; exact fun h => by cases h) hin rfl rfl hd goal) hK kk
theorem mo_dast (hx : p.tables.exec = Jvm.exec) (hb : c.code = cc) (hK : mj_K D dA s) (hd : decode cc pc = .ok (.dastore, 1)) {i : Int32} {x : UInt64} {f' : mjF} (ho : mj_put 24 (pc, lv, .double x :: .int i :: .ref r :: st, w) (.double x) i r st = some f') (kk : mj_W p l e R s m args below meth c Q D dA z nL f') : mj_W p l e R s m args below meth c Q D dA z nL (pc, lv, .double x :: .int i :: .ref r :: st, w) :=
  mo_put (by decide) (by decide) ho (fun {H locs ls cell} hc harr hfm hin goal hP => W.dast hx hb hc harr (by obtain ⟨n, f, rfl⟩ := hfm; exact fun h => by cases h) hin rfl rfl hd goal) hK kk
end MA
