section MH
variable {p : Program} {l : Launch} {e : Env} {R : Room} {s : State} {m : MethodId} {args : Array Value} {below : List Frame} {meth : Method} {c : Code} {Q : State → Prop} {cc : ByteArray}
variable {D : va_G} {dA : Nat → ClassId} {z nL : Nat}
/-- the arrays of references that are made -/
def mj_AOs : List FieldType := [.object RX1, .object RX3, .object RX4, .object RX5, .array .int]
def mj_AO (ty : FieldType) (U : State) : Prop := (Cond.arrayOver ty).before #[] U = true
theorem mj_AO.moved {ty : FieldType} {u U : State} (hty : ty ∈ mj_AOs) (hvm : u.vm.Alike U.vm) (h : mj_AO ty u) : mj_AO ty U := by
  have g : ∀ C : String, mj_AO (.object C) u → mj_AO (.object C) U := fun C h => va_AO.moved (C := C) hvm h
  have g2 : mj_AO (.array .int) u → mj_AO (.array .int) U := fun h => over_moved hvm h
  simp only [mj_AOs, List.mem_cons, List.not_mem_nil, or_false] at hty
  rcases hty with rfl | rfl | rfl | rfl | rfl
  · exact g _ h
  · exact g _ h
  · exact g _ h
  · exact g _ h
  · exact g2 h
/-- what the tables say of the classes and arrays -/
def mj_K (D : va_G) (dA : Nat → ClassId) (U : State) : Prop := va_K D mj_cl [] U ∧ (∀ k : Nat, 20 ≤ k → k < 30 → ArrOfT U (dA k) (mj_ty k) ∧ va_RA U (dA k) (mj_ty k)) ∧ (∀ ty ∈ mj_AOs, mj_AO ty U) ∧
  (∃ kA kB : Class, U.vm.classes[dA 29]? = some kA ∧ kA.kind = .array (dA 20) (.array .int) ∧ U.vm.classes[dA 20]? = some kB)
theorem mj_K.moved {u U : State} (hvm : u.vm.Alike U.vm) (h : mj_K D dA u) : mj_K D dA U := by
  refine ⟨h.1.moved hvm, fun k h1 h2 => ⟨arrOfT_moved hvm (h.2.1 k h1 h2).1, (h.2.1 k h1 h2).2.moved hvm⟩, fun ty hty => (h.2.2.1 ty hty).moved hty hvm, ?_⟩
  obtain ⟨kA, kB, h1, h2, h3⟩ := h.2.2.2
  obtain ⟨k', hk', he⟩ := hvm.2.2 _ _ h1
  obtain ⟨k2, hk2, -⟩ := hvm.2.2 _ _ h3
  exact ⟨k', k2, hk', by rw [he]; exact h2, hk2⟩
theorem mj_ix_some {i : Int32} {vs : List Value} {j : Nat} (h : mj_ix i vs = some j) : ¬ (i < 0 ∨ vs.length ≤ i.toNatClampNeg) ∧ j = i.toNatClampNeg := by
  unfold mj_ix at h
  split at h
  · cases h
  · cases h; exact ⟨‹_›, rfl⟩
theorem mj_arr_at {h : mjH} {H : Heap} {r k : Nat} {vs : List Value} (hP : mj_P_ D dA z h H) (hr : h[r]? = some (k, vs)) (h1 : 20 ≤ k) (h2 : k < 30) : H[z + r]? = some (arrV (dA k) vs.length (fun j => mj_v z (vs.getD j .null))) := (hP.2 r _ hr).2 h1 h2
/-- an array's place read -/
theorem mo_get {t : Nat} (h1 : 20 ≤ t) (h2 : t < 30) {pc : Nat} {lv : List (Nat × Value)} {st : List Value} {i : Int32} {r : Nat} {r' : mjH × Nat × Nat} {f' : mjF}
    (ho : mj_get t (pc, lv, .int i :: .ref r :: st, r') i r st = some f')
    (row : ∀ {H : Heap} {locs : List Loc} {ls : Array Slot} {cell : Cell} {v : Value}, H[z + r]? = some cell → s.isArrayOf cell (mj_ty t) → cell.vm ≠ .unknown → ¬ (i < 0 ∨ cell.slots.size ≤ i.toNatClampNeg) → cell.slots[i.toNatClampNeg]? = some v →
      W p l e R s m args below meth c H locs r'.2.1 r'.2.2 Q (F0 m (pc + 1) ls (v :: st.map (mj_v z))) → W p l e R s m args below meth c H locs r'.2.1 r'.2.2 Q (F0 m pc ls (.int i :: .ref (z + r) :: st.map (mj_v z))))
    (hK : mj_K D dA s) (k : mj_W p l e R s m args below meth c Q D dA z nL f') : mj_W p l e R s m args below meth c Q D dA z nL (pc, lv, .int i :: .ref r :: st, r') := by
  intro H locs ls a1 a2 a3 a4
  unfold mj_get at ho
  split at ho
  · rename_i kd vs hr
    split at ho
    · rename_i e1
      subst e1
      split at ho
      · rename_i j hj
        obtain ⟨hin, rfl⟩ := mj_ix_some hj
        split at ho
        · rename_i v hv
          cases ho
          have hc := mj_arr_at a1 hr h1 h2
          have hlt : i.toNatClampNeg < vs.length := Nat.not_le.mp fun q => hin (Or.inr q)
          refine row hc ((hK.2.1 kd h1 h2).1 _ _) (fun q => by cases q) (by show ¬ (i < 0 ∨ (arrV _ _ _).slots.size ≤ _); rw [arrV_size]; exact hin) (v := mj_v z v) ?_ (k H locs ls a1 a2 a3 a4)
          show (arrV _ _ _).slots[_]? = _
          rw [arrV_read _ _ hlt]
          simp [List.getD, hv]
        · cases ho
      · cases ho
    · cases ho
  · cases ho
/-- an array's place written -/
theorem mo_put {t : Nat} (h1 : 20 ≤ t) (h2 : t < 30) {pc : Nat} {lv : List (Nat × Value)} {st : List Value} {i : Int32} {r : Nat} {w : Value} {S0 : List Value} {r' : mjH × Nat × Nat} {f' : mjF}
    (ho : mj_put t (pc, lv, S0, r') w i r st = some f')
    (row : ∀ {H : Heap} {locs : List Loc} {ls : Array Slot} {cell : Cell}, H[z + r]? = some cell → s.isArrayOf cell (mj_ty t) → (∃ (n : Nat) (f : Nat → Value), cell = arrV (dA t) n f) → ¬ (i < 0 ∨ cell.slots.size ≤ i.toNatClampNeg) →
      (∀ H' : Heap, H'[z + r]? = some (cell.setSlot i.toNatClampNeg (mj_v z w)) → H'.size = H.size → (∀ q, q ≠ z + r → H'[q]? = H[q]?) → W p l e R s m args below meth c H' (locs ++ [⟨z + r, i.toNatClampNeg⟩]) r'.2.1 r'.2.2 Q (F0 m (pc + 1) ls (st.map (mj_v z)))) →
      mj_P_ D dA z r'.1 H → W p l e R s m args below meth c H locs r'.2.1 r'.2.2 Q (F0 m pc ls (S0.map (mj_v z))))
    (hK : mj_K D dA s) (k : mj_W p l e R s m args below meth c Q D dA z nL f') : mj_W p l e R s m args below meth c Q D dA z nL (pc, lv, S0, r') := by
  intro H locs ls a1 a2 a3 a4
  unfold mj_put at ho
  split at ho
  · rename_i kd vs hr
    split at ho
    · rename_i e1
      subst e1
      split at ho
      · rename_i j hj
        obtain ⟨hin, rfl⟩ := mj_ix_some hj
        cases ho
        have hc := mj_arr_at a1 hr h1 h2
        have hlt : i.toNatClampNeg < vs.length := Nat.not_le.mp fun q => hin (Or.inr q)
        refine row hc ((hK.2.1 kd h1 h2).1 _ _) ⟨_, _, rfl⟩ (by show ¬ (i < 0 ∨ (arrV _ _ _).slots.size ≤ _); rw [arrV_size]; exact hin) (fun H' e z' oq => ?_) a1
        refine k H' _ ls (a1.set z' oq ⟨fun q => ?_, fun _ _ => ?_⟩) (fun q hq => by rw [oq q (by omega)]; exact a2 q hq) (fun q hq => ?_) a4
        · exact absurd q (by show ¬ kd < 8; omega)
        · show H'[_]? = some (arrV _ (vs.set i.toNatClampNeg w).length _)
          rw [e, arrV_store, List.length_set]
          congr 2
          funext q
          by_cases hq : q = i.toNatClampNeg
          · subst hq
            simp [updV, List.getD, hlt]
          · simp [updV, hq, List.getD, List.getElem?_set_ne (Ne.symm hq)]
        · rcases List.mem_append.mp hq with h | h
          · exact a3 q h
          · cases List.mem_singleton.mp h; exact Nat.le_add_right _ _
      · cases ho
    · cases ho
  · cases ho
end MH
