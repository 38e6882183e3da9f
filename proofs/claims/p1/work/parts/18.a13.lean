/-! CONTRACTS: a method's run of the small machine is its run on the machine -/
def mj_r0 : List String := ["java/lang/RuntimeException", "java/lang/Exception"]
/-- the law's script: where it lies, how long it is, its ints (carried by dA's places from 40 on) -/
def mj_sx (dA : Nat → ClassId) (j : Nat) : Int32 := Int32.ofNat (dA (100 + j))
def mj_sc (dA : Nat → ClassId) (z : Nat) (U : State) : Prop := dA 40 < z ∧ va_X (dA 40) (dA 41) (mj_sx dA) U U.heap
/-- what the tables and the statics say, kept all the time -/
def mj_KK (D : va_G) (dA : Nat → ClassId) (z : Nat) (U : State) : Prop := mj_K D dA U ∧ (∀ x ∈ mj_nl, va_Nw (mj_nw x) U) ∧ vx_Zq Bundle.tN "UNASSIGNED_STACK" Bundle.steD (fun q : Nat => z ≤ q) U U.heap ∧ vx_Zq Bundle.tN "SUPPRESSED_SENTINEL" Bundle.listD (fun q : Nat => z ≤ q) U U.heap ∧
  (∀ w ∈ mj_ngs, va_Nw w U) ∧ (∀ E ∈ mj_exc, ∀ E' ∈ mj_exc, E ≠ E' → va_Nc E E' U) ∧ mj_sc dA z U
theorem mj_ng_moved {w : Cond} {s U : State} (hw : w ∈ mj_ngs) (hW : s.WarmedH U.vm) (h : va_Nw w s) : va_Nw w U := by
  have h2 := (List.mem_filter.mp hw).2
  unfold mj_isng at h2
  split at h2
  · exact h.warmD hW
  · exact h.warmC hW
  · cases h2
theorem mj_ng_same {w : Cond} {s U : State} (hw : w ∈ mj_ngs) (hv : s.vm = U.vm) (h : va_Nw w s) : va_Nw w U := by
  have h2 := (List.mem_filter.mp hw).2
  unfold mj_isng at h2
  split at h2
  · exact h.same rfl hv
  · exact h.same rfl hv
  · cases h2
theorem mj_KK.moved {D : va_G} {dA : Nat → ClassId} {z : Nat} {s U : State} (h : mj_KK D dA z s) (hW : s.WarmedH U.vm) (hh : ∀ q : Nat, q < z → U.heap[q]? = s.heap[q]?) : mj_KK D dA z U := by
  obtain ⟨h1, h2, h3, h4, h5, h6, h7⟩ := h
  refine ⟨h1.moved hW.alike, fun x hx => (h2 x hx).warmM hW, ?_, ?_, fun w hw => mj_ng_moved hw hW (h5 w hw), fun E hE E' hE' hn => (h6 E hE E' hE' hn).moved hW.alike, h7.1, (h7.2.kept (hh _ h7.1)).moved hW.alike⟩
  · exact vx_Zq.moved hW.alike (h3.kept (fun a _ hz => hh a (Nat.not_le.mp hz)))
  · exact vx_Zq.moved hW.alike (h4.kept (fun a _ hz => hh a (Nat.not_le.mp hz)))
theorem mj_KK.same {D : va_G} {dA : Nat → ClassId} {z : Nat} {s U : State} (h : mj_KK D dA z s) (hv : s.vm = U.vm) (hh : U.heap = s.heap) : mj_KK D dA z U := by
  have hA : s.vm.Alike U.vm := by rw [hv]; exact Vm.Alike.refl _
  obtain ⟨h1, h2, h3, h4, h5, h6, h7⟩ := h
  refine ⟨h1.moved hA, fun x hx => (h2 x hx).same rfl hv, ?_, ?_, fun w hw => mj_ng_same hw hv (h5 w hw), fun E hE E' hE' hn => (h6 E hE E' hE' hn).moved hA, h7.1, (h7.2.kept (by rw [hh])).moved hA⟩
  · rw [hh]; exact vx_Zq.moved hA h3
  · rw [hh]; exact vx_Zq.moved hA h4
def mj_Pre (D : va_G) (dA : Nat → ClassId) (z : Nat) (vs : List Value) (h : mjH) : Array Value → State → Prop := fun a U => a = (vs.map (mj_v z)).toArray ∧ mj_P_ D dA z h U.heap ∧ mj_KK D dA z U
def mj_Q (D : va_G) (dA : Nat → ClassId) (z : Nat) (r : Option Value ⊕ Nat) (h' : mjH) : Array Value → State → Outcome → State → Prop := fun _ st o t => (∃ v, r = .inl v ∧ o = .returned (v.map (mj_v z))) ∧ mj_P_ D dA z h' t.heap ∧ ∀ q : Nat, q < z → t.heap[q]? = st.heap[q]?
def mj_X (D : va_G) (dA : Nat → ClassId) (z : Nat) (r : Option Value ⊕ Nat) (h' : mjH) : String → State → State → Prop := fun E st t => (∃ x, r = .inr x ∧ mj_exc[x]? = some E) ∧ mj_P_ D dA z h' t.heap ∧ ∀ q : Nat, q < z → t.heap[q]? = st.heap[q]?
def mj_rm (d mc ms : Nat) : Room := { frames := d + 10, cells := mc, slots := ms, locals := 100 * d + 300 }
def mj_Met (l : Launch) (D : va_G) (dA : Nat → ClassId) (z μ d : Nat) (vs : List Value) (h : mjH) (r : mjR) : Prop :=
  vx_Met l (mj_m μ).1 (mj_code (mj_m μ) :: gw) (mj_rm d r.2.2.1 r.2.2.2) (mj_Pre D dA z vs h) (mj_Q D dA z r.1 r.2.1) (mj_X D dA z r.1 r.2.1) r.2.2.1 r.2.2.2 (fun q => z ≤ q)
theorem mj_Pre.blind {D : va_G} {dA : Nat → ClassId} {z : Nat} {vs : List Value} {h : mjH} : FrameBlind (mj_Pre D dA z vs h) := fun a U g mk q => ⟨q.1, q.2.1, q.2.2.same rfl rfl⟩
/-- one that doesn't throw -/
theorem mj_Met.met {l : Launch} {D : va_G} {dA : Nat → ClassId} {z μ d : Nat} {vs : List Value} {h : mjH} {v : Option Value} {h' : mjH × Nat × Nat} (hM : mj_Met l D dA z μ d vs h (.inl v, h')) :
    Met l (mj_m μ).1 (mj_code (mj_m μ) :: gw) (mj_rm d h'.2.1 h'.2.2) (mj_Pre D dA z vs h) (mj_Q D dA z (.inl v) h'.1) h'.2.1 h'.2.2 (fun q => z ≤ q) := by
  intro p e ha hc hk s m args below hf happ hP hK
  obtain ⟨n, o, h1, h2, h3, h4⟩ := hM p e ha hc hk s m args below hf happ hP hK
  refine ⟨n, o, h1, h2, h3, ?_⟩
  rcases h4 with h4 | ⟨q, -, E, ce, L, ⟨⟨x, hx, -⟩, -⟩, -⟩
  · exact h4
  · cases hx
theorem mj_gw_good : ∀ w ∈ gw, (w.onTables && w.keeps) = true ∨ ∃ ty, w = .arrayClass ty := fun w h => good_of_word (List.mem_filter.mp h).2
theorem mj_good {μ : Nat} {L : List Cond} (hμ : μ ∈ mj_mu) (hL : ∀ w ∈ L, w ∈ gw) : GoodIn gw (L ++ (mj_code (mj_m μ) :: gw)) := by
  intro w hw
  have : w ∈ gw := by
    rcases List.mem_append.mp hw with h | h
    · exact hL w h
    · rcases List.mem_cons.mp h with rfl | h
      · exact mj_cw hμ
      · exact h
  exact ⟨this, mj_gw_good w this⟩
theorem mj_mt_get {μ : Nat} (hμ : μ ∈ mj_mu) : (mj_m μ).2.2.1 ≤ 80 ∧ (mj_P μ).2.2.2.2.isEmpty = (mj_m μ).2.2.2.2.1.isEmpty ∧ (mj_P μ).2.2.1 = (mj_m μ).2.2.2.1 ∧ (mj_m μ).1.cls = mj_own (mj_P μ).1 ∧ Cond.initialized (mj_m μ).1.cls ∈ gw ∧ plainFor (mj_m μ).1 = true ∧ ((mj_m μ).1.cls ≠ "java/lang/invoke/MethodHandle" ∧ (mj_m μ).1.cls ≠ "java/lang/invoke/VarHandle") := by
  have h := List.all_eq_true.mp mj_mt_ok μ hμ
  simp only [mj_mtc, Bool.and_eq_true, decide_eq_true_eq] at h
  obtain ⟨⟨⟨⟨⟨⟨h1, h2⟩, h3⟩, h4⟩, h5⟩, h6⟩, h7⟩ := h
  exact ⟨h1, h2, h3, h4, gk_ok h5, h6, h7⟩
section MC
variable {p : Program} {l : Launch} {e : Env} {R : Room} {s : State} {m : MethodId} {args : Array Value} {below : List Frame} {meth : Method} {c : Code} {Q : State → Prop} {cc : ByteArray}
variable {D : va_G} {dA : Nat → ClassId} {z nL : Nat}
variable {pc : Nat} {lv : List (Nat × Value)} {st rest : List Value} {h h' : mjH} {cs ss mc ms : Nat}
theorem va_Run.vx {H : Heap} {locs : List Loc} {g : JFrame} {rest : List Value} {Qa : State → Outcome → State → Prop} {XC : String → State → State → Prop} {free : Addr → Prop} (h : va_Run p l e R s m args below meth c H locs cs ss mc ms g rest Qa free) : vx_Run p l e R s m args below meth c H locs cs ss mc ms g rest Qa XC free := fun T hT X => Or.inl (h T hT X)
theorem mj_after {H : Heap} {locs : List Loc} {ls : Array Slot} {st0 : List Value} {a : Array Value} {v : Option Value}
    (hr : vx_Run p l e R s m args below meth c H locs cs ss mc ms (F0 m pc ls st0) (rest.map (mj_v z)) (mj_Q D dA z (.inl v) h' a) (mj_X D dA z (.inl v) h') (fun q => z ≤ q))
    (a2 : ∀ q : Nat, q < z → H[q]? = s.heap[q]?) (a3 : ∀ q ∈ locs, z ≤ q.base) (a4 : lv_has ls nL (lv.map (mj_q z)))
    (k : mj_W p l e R s m args below meth c Q D dA z nL (pc + 3, lv, v.toList ++ rest, h', cs + mc, ss + ms)) : W p l e R s m args below meth c H locs cs ss Q (F0 m pc ls st0) := by
  intro T hT X
  rcases hr T hT X with ⟨v', st0', t, T', L, h0, X', hL, e1, e2, hq, st⟩ | ⟨q, st0', t, T', L, E, ce, h0, X', hL, e1, e2, hx, -⟩
  · obtain ⟨⟨w, hw, ho⟩, hP, hF⟩ := hq
    cases hw
    cases ho
    obtain ⟨t2, b1, b2⟩ := k T'.heap (locs ++ L) ls (by rw [e1]; exact hP) (fun q hq => by rw [e1, hF q hq, h0]; exact a2 q hq) (fun q hq => (List.mem_append.mp hq).elim (a3 q) (hL q)) a4 T' rfl X'
    refine ⟨t2, st t2 ?_, b2⟩
    cases v <;> exact b1
  · obtain ⟨⟨x, hx1, -⟩, -⟩ := hx
    cases hx1
theorem mj_afterX {H : Heap} {locs : List Loc} {ls : Array Slot} {st0 : List Value} {a : Array Value} {x : Nat}
    (hr : vx_Run p l e R s m args below meth c H locs cs ss mc ms (F0 m pc ls st0) (rest.map (mj_v z)) (mj_Q D dA z (.inr x) h' a) (mj_X D dA z (.inr x) h') (fun q => z ≤ q))
    (a2 : ∀ q : Nat, q < z → H[q]? = s.heap[q]?) (a3 : ∀ q ∈ locs, z ≤ q.base)
    (k : ∀ (H1 : Heap) (locs1 : List Loc) (q : Addr) (E : String) (ce : Cell), mj_exc[x]? = some E → mj_P_ D dA z h' H1 → (∀ q : Nat, q < z → H1[q]? = s.heap[q]?) → (∀ q ∈ locs1, z ≤ q.base) → H1[q]? = some ce → ce.vm = .none → s.vm.findClass E = some ce.cls →
      vx_W p l e R s m args below meth c H1 locs1 (cs + mc) (ss + ms) Q (F0 m pc ls (rest.map (mj_v z))) q) : W p l e R s m args below meth c H locs cs ss Q (F0 m pc ls st0) := by
  intro T hT X
  rcases hr T hT X with ⟨v', st0', t, T', L, h0, X', hL, e1, e2, hq, st⟩ | ⟨q, st0', t, T', L, E, ce, h0, X', hL, e1, e2, hx, hce, hcv, hcl, st⟩
  · obtain ⟨⟨w, hw, -⟩, -⟩ := hq
    cases hw
  · obtain ⟨⟨y, hy, hE⟩, hP, hF⟩ := hx
    cases hy
    obtain ⟨t2, b1, b2⟩ := k T'.heap (locs ++ L) q E ce hE (by rw [e1]; exact hP) (fun q hq => by rw [e1, hF q hq, h0]; exact a2 q hq) (fun q hq => (List.mem_append.mp hq).elim (a3 q) (hL q)) (by rw [e1]; exact hce) hcv hcl T' rfl X'
    exact ⟨t2, Steps.trans st b1, b2⟩
end MC
