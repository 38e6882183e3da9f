/-! THE SMALL MACHINE AND THE MACHINE -/
def mj_v (z : Nat) : Value → Value
  | .ref k => .ref (z + k)
  | .retAddr k => .ref k
  | v => v
def mj_q (z : Nat) (q : Nat × Value) : Nat × Value := (q.1, mj_v z q.2)
theorem mj_v_cat (z : Nat) (v : Value) : (mj_v z v).category = v.category := by cases v <;> rfl
abbrev mj_cl : List vw_C := [(RX0, TX0, 6), (RX1, TX1, 3), (RX3, TX3, 5), (RX4, TX4, 2), (RX5, TX5, 2), (RX6, TX6, 3), (RX7, TX7, 14), (RX8, TX8, 14)]
def mj_ty (k : Nat) : FieldType := match k with
  | 20 => .int
  | 21 => .long
  | 22 => .char
  | 23 => .boolean
  | 24 => .double
  | 25 => .object RX1
  | 26 => .object RX3
  | 27 => .object RX4
  | 28 => .object RX5
  | _ => .array .int
def mj_N (k : Nat) : Nat := match k with
  | 0 => 6
  | 1 => 3
  | 2 => 5
  | 3 => 2
  | 4 => 2
  | 5 => 3
  | _ => 14
/-- a cell of the machine, a cell of the small one -/
def mj_cell (D : va_G) (dA : Nat → ClassId) (z a : Nat) (o : mjO) (H : Heap) : Prop :=
  (o.1 < 8 → o.2.length = mj_N o.1 ∧ t_OB a (D.1 o.1) (mj_N o.1) (D.2 o.1) H (fun k => mj_v z (o.2.getD k .null))) ∧
  (20 ≤ o.1 → o.1 < 30 → H[a]? = some (arrV (dA o.1) o.2.length (fun j => mj_v z (o.2.getD j .null))))
theorem mj_cell.kept {D : va_G} {dA : Nat → ClassId} {z a : Nat} {o : mjO} {H H1 : Heap} (h : mj_cell D dA z a o H) (h1 : H1[a]? = H[a]?) : mj_cell D dA z a o H1 :=
  ⟨fun q => ⟨(h.1 q).1, (h.1 q).2.kept h1⟩, fun q r => by rw [h1]; exact h.2 q r⟩
def mj_P_ (D : va_G) (dA : Nat → ClassId) (z : Nat) (h : mjH) (H : Heap) : Prop := H.size = z + h.length ∧ ∀ (k : Nat) (o : mjO), h[k]? = some o → mj_cell D dA z (z + k) o H
theorem mj_P_.set {D : va_G} {dA : Nat → ClassId} {z r : Nat} {h : mjH} {o : mjO} {H H1 : Heap} (hP : mj_P_ D dA z h H) (hz : H1.size = H.size) (ho : ∀ q : Nat, q ≠ z + r → H1[q]? = H[q]?) (hn : mj_cell D dA z (z + r) o H1) : mj_P_ D dA z (h.set r o) H1 := by
  refine ⟨by rw [hz, hP.1, List.length_set], fun k o' hk => ?_⟩
  by_cases e : k = r
  · subst e
    have hl : k < h.length := by
      have := (List.getElem?_eq_some_iff.mp hk).1
      rwa [List.length_set] at this
    rw [List.getElem?_set_self hl] at hk
    cases hk
    exact hn
  · rw [List.getElem?_set_ne (Ne.symm e)] at hk
    exact (hP.2 k o' hk).kept (ho _ (by omega))
theorem mj_P_.push {D : va_G} {dA : Nat → ClassId} {z : Nat} {h : mjH} {o : mjO} {H H1 : Heap} (hP : mj_P_ D dA z h H) (hz : H1.size = H.size + 1) (ho : ∀ q : Nat, q < H.size → H1[q]? = H[q]?) (hn : mj_cell D dA z (z + h.length) o H1) : mj_P_ D dA z (h ++ [o]) H1 := by
  refine ⟨by rw [hz, hP.1, List.length_append]; rfl, fun k o' hk => ?_⟩
  by_cases e : k < h.length
  · rw [List.getElem?_append_left e] at hk
    exact (hP.2 k o' hk).kept (ho _ (by rw [hP.1]; omega))
  · rw [List.getElem?_append_right (by omega)] at hk
    have h1 : k - h.length < 1 := (List.getElem?_eq_some_iff.mp hk).1
    have h2 : k = h.length := by omega
    subst h2
    rw [Nat.sub_self] at hk
    cases hk
    exact hn
theorem mj_ld_has {ls : Array Slot} {nL z i : Nat} {lv : List (Nat × Value)} {v : Value} (h : lv_has ls nL (lv.map (mj_q z))) (hl : mj_ld lv i = some v) : ls[i]? = some (.val (mj_v z v)) := by
  unfold mj_ld at hl
  split at hl
  · rename_i q hq
    cases hl
    have h1 := List.mem_of_find?_eq_some hq
    have h2 : q.1 = i := by simpa using List.find?_some hq
    have h3 := h.2.2 (mj_q z q) (List.mem_map.mpr ⟨q, h1, rfl⟩)
    rw [← h2]
    exact h3
  · cases hl
theorem mj_s1_map (z i : Nat) (v : Value) (lv : List (Nat × Value)) : (mj_s1 i v lv).map (mj_q z) = (i, mj_v z v) :: (lv.map (mj_q z)).filter (fun q => !(q.1 == i) && !(q.1 + 1 == i && q.2.category == 2)) := by
  unfold mj_s1
  rw [List.map_cons, List.filter_map]
  congr 2
  refine List.filter_congr fun q _ => ?_
  simp only [Function.comp, mj_q, mj_v_cat]
theorem mj_s2_map (z i : Nat) (v : Value) (lv : List (Nat × Value)) : (mj_s2 i v lv).map (mj_q z) = (i, mj_v z v) :: (lv.map (mj_q z)).filter (fun q => !(q.1 == i) && (!(q.1 == i + 1) && !(q.1 + 1 == i && q.2.category == 2))) := by
  unfold mj_s2
  rw [List.map_cons, List.filter_map]
  congr 2
  refine List.filter_congr fun q _ => ?_
  simp only [Function.comp, mj_q, mj_v_cat]
theorem mj_args_map (z : Nat) (vs : List Value) : ∀ i, (lv_args i vs).map (mj_q z) = lv_args i (vs.map (mj_v z)) := by
  induction vs with
  | nil => intro i; rfl
  | cons v vs ih =>
    intro i
    simp only [lv_args, List.map_cons, mj_v_cat, ih]
    rfl
section MJ
variable {p : Program} {l : Launch} {e : Env} {R : Room} {s : State} {m : MethodId} {args : Array Value} {below : List Frame} {meth : Method} {c : Code} {Q : State → Prop}
variable {D : va_G} {dA : Nat → ClassId} {z nL : Nat}
/-- the machine goes on from every state that the small machine's stands for -/
def mj_W (p : Program) (l : Launch) (e : Env) (R : Room) (s : State) (m : MethodId) (args : Array Value) (below : List Frame) (meth : Method) (c : Code) (Q : State → Prop) (D : va_G) (dA : Nat → ClassId) (z nL : Nat) (f : mjF) : Prop :=
  ∀ (H : Heap) (locs : List Loc) (ls : Array Slot), mj_P_ D dA z f.2.2.2.1 H → (∀ q : Nat, q < z → H[q]? = s.heap[q]?) → (∀ q ∈ locs, z ≤ q.base) → lv_has ls nL (f.2.1.map (mj_q z)) →
    W p l e R s m args below meth c H locs f.2.2.2.2.1 f.2.2.2.2.2 Q (F0 m f.1 ls (f.2.2.1.map (mj_v z)))
theorem mj_tg_ok {pc t : Nat} {off : Int} (h : mj_tg pc off = t) (h0 : 0 ≤ (pc : Int) + off) : (pc : Int) + off = (t : Int) := by
  rw [← h]; unfold mj_tg; omega
/-- a branch -/
theorem mj_br_ok {f f' : mjF} {n : Nat} {off : Int} {st : List Value} {C : Prop} [Decidable C] (h : mj_br f n off st C = some f') : (C ∧ f' = (mj_tg f.1 off, f.2.1, st, f.2.2.2)) ∨ (¬ C ∧ f' = (f.1 + n, f.2.1, st, f.2.2.2)) := by
  unfold mj_br at h
  split at h
  · cases h; exact Or.inl ⟨‹_›, rfl⟩
  · cases h; exact Or.inr ⟨‹_›, rfl⟩
end MJ
