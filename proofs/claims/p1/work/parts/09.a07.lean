theorem arrV_congr {cA : ClassId} {n : Nat} {f g : Nat → Value} (h : ∀ q, q < n → f q = g q) : arrV cA n f = arrV cA n g := by
  unfold arrV
  have e : (fun j : Fin n => f j.val) = (fun j : Fin n => g j.val) := funext fun j => h j.val j.isLt
  rw [e]
section MG
variable {p : Program} {l : Launch} {e : Env} {R : Room} {s : State} {m : MethodId} {args : Array Value} {below : List Frame} {meth : Method} {c : Code} {Q : State → Prop} {cc : ByteArray}
variable {D : va_G} {dA : Nat → ClassId} {z nL : Nat}
theorem mj_clN {ci : Nat} {C : String} {T : u_T} {N : Nat} (hc : mj_cl[ci]? = some (C, T, N)) : N = mj_N ci ∧ ci < 8 := by
  match ci, hc with
  | 0, hc => cases hc; exact ⟨rfl, by decide⟩
  | 1, hc => cases hc; exact ⟨rfl, by decide⟩
  | 2, hc => cases hc; exact ⟨rfl, by decide⟩
  | 3, hc => cases hc; exact ⟨rfl, by decide⟩
  | 4, hc => cases hc; exact ⟨rfl, by decide⟩
  | 5, hc => cases hc; exact ⟨rfl, by decide⟩
  | 6, hc => cases hc; exact ⟨rfl, by decide⟩
  | 7, hc => cases hc; exact ⟨rfl, by decide⟩
  | k + 8, hc => simp [mj_cl] at hc
variable {own C : String} {T : u_T} {N ci index k : Nat} {Ts : List Cond}
variable {pc : Nat} {lv : List (Nat × Value)} {st : List Value} {r : Nat} {w : mjH × Nat × Nat}
theorem mo_getf (hx : p.tables.exec = Jvm.exec) (hb : c.code = cc) (hts : ∀ w ∈ Ts, w.before args s = true) (hin : ∀ w ∈ u_ws C T N, w ∈ Ts) (hown : s.vm.findClass own = some m.cls) (hK : mj_K D dA s) (hc : mj_cl[ci]? = some (C, T, N)) (hk : k < N)
    (hlink : (Cond.fieldLink own index (T k).1 (T k).2.1 (T k).2.2.1).before args s = true) (hd : decode cc pc = .ok (.getfield index, 3)) {vs : List Value} {v : Value} (hr : w.1[r]? = some (ci, vs)) (hv : vs[k]? = some v)
    (kk : mj_W p l e R s m args below meth c Q D dA z nL (pc + 3, lv, v :: st, w)) : mj_W p l e R s m args below meth c Q D dA z nL (pc, lv, .ref r :: st, w) := by
  intro H locs ls a1 a2 a3 a4
  obtain ⟨eN, h8⟩ := mj_clN hc
  subst eN
  obtain ⟨-, cell, q1, q2, q3, q4⟩ := (a1.2 r _ hr).1 h8
  obtain ⟨hS, hfc, kC, hkC, hkind⟩ := hK.1.1 ci _ hc
  obtain ⟨cf, kf, fi, f, hi, hsl⟩ := hS k hk
  refine W.getf hx hb hown hlink hi (u_facts hfc hkC (u_lays hts hin hk) hi).1 q1 (by rw [q3]; exact fun h => by cases h) (v := mj_v z v) ?_ rfl rfl hd (kk H locs ls a1 a2 a3 a4)
  rw [hsl, q4 k hk]
  simp [List.getD, hv]
theorem mj_obj_set {H H' : Heap} {h : mjH} {cell : Cell} {v : Value} {vs : List Value} {n : Nat} (a1 : mj_P_ D dA z h H) (h8 : ci < 8) (hlen : vs.length = mj_N ci) (hn : k < mj_N ci) (q2 : cell.cls = D.1 ci) (q3 : cell.vm = .none)
    (q4 : ∀ j, j < mj_N ci → cell.slots[D.2 ci j]? = some (mj_v z (vs.getD j .null))) (hap : ∀ x y, x < mj_N ci → y < mj_N ci → x ≠ y → D.2 ci x ≠ D.2 ci y)
    (e1 : H'[z + r]? = some (cell.setSlot (D.2 ci k) (mj_v z v))) (e2 : H'.size = H.size) (e3 : ∀ q : Nat, q ≠ z + r → H'[q]? = H[q]?) : mj_P_ D dA z (h.set r (ci, vs.set k v)) H' := by
  refine a1.set e2 e3 ⟨fun _ => ⟨by rw [List.length_set]; exact hlen, _, e1, q2, q3, fun j hj => ?_⟩, fun q _ => absurd q (by omega)⟩
  rw [t_set q4 hap hn (mj_v z v) j hj]
  congr 1
  by_cases e : j = k
  · subst e
    simp [updV, List.getD, show j < vs.length by omega]
  · simp [updV, e, List.getD, List.getElem?_set_ne (Ne.symm e)]
theorem mo_putf (hx : p.tables.exec = Jvm.exec) (hb : c.code = cc) (hts : ∀ w ∈ Ts, w.before args s = true) (hin : ∀ w ∈ u_ws C T N, w ∈ Ts) (ty0 : Nat → FieldType) (hty : ∀ k, k < N → parseFieldDescriptor (T k).2.2.1 = some (ty0 k)) (hnm : ∀ a, a < N → ∀ b, b < N → a ≠ b → (T a).2.1 ≠ (T b).2.1)
    (hown : s.vm.findClass own = some m.cls) (hK : mj_K D dA s) (hc : mj_cl[ci]? = some (C, T, N)) (hk : k < N)
    (hlink : (Cond.fieldLink own index (T k).1 (T k).2.1 (T k).2.2.1).before args s = true) (hd : decode cc pc = .ok (.putfield index, 3)) (hfin : (T k).2.2.2 = false ∨ (meth.name = "<init>" ∧ (T k).1 = own))
    {vs : List Value} {v : Value} (hr : w.1[r]? = some (ci, vs)) (hn : narrow (ty0 k) (mj_v z v) = mj_v z v) (hfit : fits (ty0 k) (mj_v z v) = true)
    (kk : mj_W p l e R s m args below meth c Q D dA z nL (pc + 3, lv, st, w.1.set r (ci, vs.set k v), w.2)) : mj_W p l e R s m args below meth c Q D dA z nL (pc, lv, v :: .ref r :: st, w) := by
  intro H locs ls a1 a2 a3 a4
  obtain ⟨eN, h8⟩ := mj_clN hc
  subst eN
  obtain ⟨hlen, cell, q1, q2, q3, q4⟩ := (a1.2 r _ hr).1 h8
  have hap := va_apart (own := own) hts hin ty0 hty hnm hK.1 hc
  obtain ⟨hS, hfc, kC, hkC, hkind⟩ := hK.1.1 ci _ hc
  obtain ⟨cf, kf, fi, f, hi, hsl⟩ := hS k hk
  have hlay := hts _ (hin _ (u_in_lay hk))
  have hst := (u_facts hfc hkC (u_lays hts hin hk) hi).1
  have hlt : f.slot < cell.slots.size := by rw [hsl]; exact k2_hasslot (q4 k hk)
  have goal : ∀ H' : Heap, H'[z + r]? = some (cell.setSlot f.slot (mj_v z v)) → H'.size = H.size → (∀ q, q ≠ z + r → H'[q]? = H[q]?) → W p l e R s m args below meth c H' (locs ++ [⟨z + r, f.slot⟩]) w.2.1 w.2.2 Q (F0 m (pc + 3) ls (st.map (mj_v z))) := by
    intro H' e1 e2 e3
    rw [hsl] at e1
    refine kk H' _ ls (mj_obj_set a1 h8 hlen hk q2 q3 q4 hap e1 e2 e3 (n := 0)) (fun q hq => by rw [e3 q (by omega)]; exact a2 q hq) (fun q hq => ?_) a4
    rcases List.mem_append.mp hq with h | h
    · exact a3 q h
    · cases List.mem_singleton.mp h; exact Nat.le_add_right _ _
  by_cases hf : (T k).2.2.2 = true
  · unfold u_lay at hlay
    rw [if_pos hf] at hlay
    have hin2 : meth.name = "<init>" ∧ (T k).1 = own := hfin.resolve_left (by rw [hf]; decide)
    have hcf : m.cls = cf := by
      obtain ⟨_, _, c', _, _, _, -, -, hf', -, -, -, hown2, -⟩ := Cond.laysFinal_spec hlay
      have e1 : c' = cf := by have := hi.symm.trans hf'; simp at this; exact this.1.symm
      rw [hin2.2] at hown2
      rw [← e1]; exact Option.some.inj (hown.symm.trans hown2)
    have h6 := u_fits hfc hkC hkind (Or.inr hlay) hi (hty k hk) hn hfit
    exact W.putFinK hx hb hown hlink hi hst hcf hin2.1 (by rw [q2]; exact h6) q1 q3 hlt rfl rfl hd goal
  · have hf' : (T k).2.2.2 = false := by cases h : (T k).2.2.2; rfl; exact absurd h hf
    unfold u_lay at hlay
    rw [if_neg (by rw [hf']; decide)] at hlay
    have h6 := u_store hfc hkC hkind hlay hi (hty k hk) hn hfit
    exact W.putK hx hb (f := f) ⟨hown, hlink, ⟨_, _, _, hi⟩, hst⟩ (by rw [q2]; exact h6) q1 q3 hlt rfl rfl hd goal
theorem mo_alen (hx : p.tables.exec = Jvm.exec) (hb : c.code = cc) (hK : mj_K D dA s) (hd : decode cc pc = .ok (.arraylength, 1)) {t : Nat} {vs : List Value} (hr : w.1[r]? = some (t, vs)) (h1 : 20 ≤ t) (h2 : t < 30)
    (kk : mj_W p l e R s m args below meth c Q D dA z nL (pc + 1, lv, .int (Int32.ofNat vs.length) :: st, w)) : mj_W p l e R s m args below meth c Q D dA z nL (pc, lv, .ref r :: st, w) := by
  intro H locs ls a1 a2 a3 a4
  refine W.alen hx hb (mj_arr_at a1 hr h1 h2) ((hK.2.1 t h1 h2).1 _ _) ?_ rfl rfl hd (kk H locs ls a1 a2 a3 a4)
  rw [arrV_size]
/-- a new object -/
theorem mo_newo (hx : p.tables.exec = Jvm.exec) (hb : c.code = cc) (hts : ∀ w ∈ Ts, w.before args s = true) (hin : ∀ w ∈ u_ws C T N, w ∈ Ts) (ty0 : Nat → FieldType) (hty : ∀ k, k < N → parseFieldDescriptor (T k).2.2.1 = some (ty0 k)) (hown : s.vm.findClass own = some m.cls)
    (hcl : (Cond.classLink own index C).before args s = true) (hinst : (Cond.instantiable C N).before args s = true) (hini : (Cond.initialized C).before args s = true) (hK : mj_K D dA s) (hc : mj_cl[ci]? = some (C, T, N)) (hd : decode cc pc = .ok (.new index, 3))
    (hfs : ∀ j, j < N → defaultValue (ty0 j) = mj_v z ((mj_df ci).getD j .null)) (hlen : (mj_df ci).length = N) (hcs : w.2.1 + 1 ≤ R.cells) (hss : w.2.2 + N ≤ R.slots)
    (kk : mj_W p l e R s m args below meth c Q D dA z nL (pc + 3, lv, .ref w.1.length :: st, w.1 ++ [(ci, mj_df ci)], w.2.1 + 1, w.2.2 + N)) : mj_W p l e R s m args below meth c Q D dA z nL (pc, lv, st, w) := by
  intro H locs ls a1 a2 a3 a4
  obtain ⟨eN, h8⟩ := mj_clN hc
  have hKn := hK.1.1 ci _ hc
  refine W.newcK hx hb hown hcl hinst hini rfl hd hcs hss hKn.2.1 rfl fun H1 kC hkC e1 z1 o1 => ?_
  have hOB := (u_born (T := T) (N := N) ty0 hts hin hKn hkC e1 hty).to hfs
  have hg := kk H1 locs ls (a1.push z1 o1 ⟨fun _ => ⟨by rw [hlen]; exact eN, by rw [← a1.1]; subst eN; exact hOB⟩, fun q _ => absurd q (by show ¬ 20 ≤ ci; omega)⟩) (fun q hq => by rw [o1 q (by rw [a1.1]; omega)]; exact a2 q hq) a3 a4
  rw [a1.1]
  exact hg
theorem mj_newarr {H1 H : Heap} {t n : Nat} {v : Value} {locs : List Loc} {ls : Array Slot} (a1 : mj_P_ D dA z w.1 H) (a2 : ∀ q : Nat, q < z → H[q]? = s.heap[q]?) (a3 : ∀ q ∈ locs, z ≤ q.base) (a4 : lv_has ls nL (lv.map (mj_q z))) (h1 : 20 ≤ t) (h2 : t < 30) {j : Nat}
    (e1 : H1[H.size]? = some (arrV (dA t) n (fun _ => mj_v z v))) (z1 : H1.size = H.size + 1) (o1 : ∀ q : Nat, q < H.size → H1[q]? = H[q]?)
    (kk : mj_W p l e R s m args below meth c Q D dA z nL (pc + j, lv, .ref w.1.length :: st, w.1 ++ [(t, List.replicate n v)], w.2.1 + 1, w.2.2 + n)) : W p l e R s m args below meth c H1 locs (w.2.1 + 1) (w.2.2 + n) Q (F0 m (pc + j) ls (.ref H.size :: st.map (mj_v z))) := by
  have hg := kk H1 locs ls (a1.push z1 o1 ⟨fun q => absurd q (by show ¬ t < 8; omega), fun _ _ => ?_⟩) (fun q hq => by rw [o1 q (by rw [a1.1]; omega)]; exact a2 q hq) a3 a4
  · rw [a1.1]
    exact hg
  · rw [← a1.1, e1, List.length_replicate]
    refine congrArg some (arrV_congr fun q hq => ?_)
    simp [List.getD, hq]
end MG
