/-- classes of handlers: (own class, index), which exception, place -/
def mj_hl : List ((Nat × Nat) × Nat × Nat) := [((13, 13), 0, 428), ((13, 15), 2, 508), ((13, 20), 1, 588), ((13, 22), 3, 589), ((13, 43), 4, 714), ((13, 185), 5, 1259)]
def mj_hlc (x : (Nat × Nat) × Nat × Nat) : Bool := decide (x.2.1 < 6) && gk x.2.2 (.classLink (mj_own x.1.1) x.1.2 (mj_en x.2.1))
set_option maxRecDepth 100000 in
theorem mj_hl_ok : mj_hl.all mj_hlc = true := by decide +kernel
/-- the small machine's table and the method's -/
def mj_hk (o : Nat) : List (Nat × Nat × Nat × Nat) → List (Nat × Nat × Nat × Nat) → Bool
  | [], [] => true
  | a :: l, b :: l' => decide (a.1 = b.1) && decide (a.2.1 = b.2.1) && decide (a.2.2.1 = b.2.2.1) && decide (b.2.2.2 ≠ 0) && (mj_hl.any fun x => x.1.1 == o && x.1.2 == b.2.2.2 && x.2.1 == a.2.2.2) && mj_hk o l l'
  | _, _ => false
theorem mj_hl_get {o i E : Nat} (h : (mj_hl.any fun x => x.1.1 == o && x.1.2 == i && x.2.1 == E) = true) : E < 6 ∧ Cond.classLink (mj_own o) i (mj_en E) ∈ gw := by
  obtain ⟨⟨⟨o', i'⟩, E', p⟩, hx, hq⟩ := List.any_eq_true.mp h
  simp only [Bool.and_eq_true, beq_iff_eq] at hq
  obtain ⟨⟨rfl, rfl⟩, rfl⟩ := hq
  have h2 := List.all_eq_true.mp mj_hl_ok _ hx
  simp only [mj_hlc, Bool.and_eq_true, decide_eq_true_eq] at h2
  exact ⟨h2.1, gk_ok h2.2⟩
/-- the row that catches, and those ahead of it that don't -/
theorem mj_hk_find {o pc x : Nat} {y : Nat × Nat × Nat × Nat} : ∀ (l l' : List (Nat × Nat × Nat × Nat)), mj_hk o l l' = true → l.find? (fun q => decide (q.1 ≤ pc ∧ pc < q.2.1 ∧ q.2.2.2 = x)) = some y →
    ∃ (pre : List (Nat × Nat × Nat × Nat)) (b : Nat × Nat × Nat × Nat) (suf : List (Nat × Nat × Nat × Nat)), l' = pre ++ b :: suf ∧ (∀ q ∈ pre, ¬ (q.1 ≤ pc ∧ pc < q.2.1) ∨ (q.2.2.2 ≠ 0 ∧ ∃ E, E ≠ x ∧ E < 6 ∧ Cond.classLink (mj_own o) q.2.2.2 (mj_en E) ∈ gw)) ∧
      b.1 ≤ pc ∧ pc < b.2.1 ∧ b.2.2.1 = y.2.2.1 ∧ b.2.2.2 ≠ 0 ∧ x < 6 ∧ Cond.classLink (mj_own o) b.2.2.2 (mj_en x) ∈ gw
  | [], l', _, hf => by simp at hf
  | a :: l, [], hk, _ => by simp [mj_hk] at hk
  | a :: l, b :: l', hk, hf => by
    simp only [mj_hk, Bool.and_eq_true, decide_eq_true_eq] at hk
    obtain ⟨⟨⟨⟨⟨h1, h2⟩, h3⟩, h4⟩, h5⟩, h6⟩ := hk
    obtain ⟨g1, g2⟩ := mj_hl_get h5
    rw [List.find?_cons] at hf
    split at hf
    · rename_i hq
      cases hf
      have hq := of_decide_eq_true hq
      obtain ⟨q1, q2, q3⟩ := hq
      refine ⟨[], b, l', rfl, fun q h => (nomatch h), by rw [← h1]; exact q1, by rw [← h2]; exact q2, h3.symm, h4, by rw [← q3]; exact g1, by rw [← q3]; exact g2⟩
    · rename_i hq
      have hq := of_decide_eq_false hq
      obtain ⟨pre, b', suf, e1, e2, e3⟩ := mj_hk_find l l' h6 hf
      refine ⟨b :: pre, b', suf, by rw [e1]; rfl, fun q h => ?_, e3⟩
      rcases List.mem_cons.mp h with rfl | h
      · by_cases hr : q.1 ≤ pc ∧ pc < q.2.1
        · exact Or.inr ⟨h4, a.2.2.2, fun e => hq ⟨by rw [h1]; exact hr.1, by rw [h2]; exact hr.2, e⟩, g1, g2⟩
        · exact Or.inl hr
      · exact e2 q h
theorem mj_exc_at {x : Nat} {E : String} (h : mj_exc[x]? = some E) : mj_en x = E ∧ E ∈ mj_exc ∧ x < 6 := by
  refine ⟨?_, List.mem_of_getElem? h, (List.getElem?_eq_some_iff.mp h).1⟩
  unfold mj_en
  rw [List.getD, h]
  rfl
theorem mj_exc_mem {x : Nat} (h : x < 6) : mj_en x ∈ mj_exc := by
  have : x = 0 ∨ x = 1 ∨ x = 2 ∨ x = 3 ∨ x = 4 ∨ x = 5 := by omega
  rcases this with rfl | rfl | rfl | rfl | rfl | rfl <;> simp [mj_en, mj_exc]
theorem mj_exc_inj {x y : Nat} (hx : x < 6) (hy : y < 6) (h : mj_en x = mj_en y) : x = y := by
  have h1 : x = 0 ∨ x = 1 ∨ x = 2 ∨ x = 3 ∨ x = 4 ∨ x = 5 := by omega
  have h2 : y = 0 ∨ y = 1 ∨ y = 2 ∨ y = 3 ∨ y = 4 ∨ y = 5 := by omega
  rcases h1 with rfl | rfl | rfl | rfl | rfl | rfl <;> rcases h2 with rfl | rfl | rfl | rfl | rfl | rfl <;> first | rfl | (exact absurd h (by decide))
set_option maxRecDepth 100000 in
theorem mj_castE : (List.range 6).all (fun x => decide (Cond.castable (mj_en x) (mj_en x) ∈ lw_tbl)) = true := by decide +kernel
section MU
variable {p : Program} {l : Launch} {e : Env} {R : Room} {s : State} {m : MethodId} {args : Array Value} {below : List Frame} {meth : Method} {c : Code} {Q : State → Prop} {cc : ByteArray}
variable {D : va_G} {dA : Nat → ClassId} {z nL : Nat}
/-- an exception caught -/
theorem mj_hand_ok {o pc x : Nat} {y : Nat × Nat × Nat × Nat} {l1 l' : List (Nat × Nat × Nat × Nat)} {E : String} (S : CallFix p m c cc nL s args gw (mj_own o)) (hKK : mj_KK D dA z s) (htab : c.exceptionTable.toList = tableOf l') (hk : mj_hk o l1 l' = true) (hf : l1.find? (fun q => decide (q.1 ≤ pc ∧ pc < q.2.1 ∧ q.2.2.2 = x)) = some y) (hE : mj_exc[x]? = some E)
    {H1 : Heap} {locs1 : List Loc} {ls : Array Slot} {rest : List Value} {q : Addr} {ce : Cell} {c1 s1 : Nat} (hce : H1[q]? = some ce) (hcv : ce.vm = .none) (hcl : s.vm.findClass E = some ce.cls)
    (kk : W p l e R s m args below meth c H1 locs1 c1 s1 Q (F0 m y.2.2.1 ls [.ref q])) : vx_W p l e R s m args below meth c H1 locs1 c1 s1 Q (F0 m pc ls rest) q := by
  obtain ⟨pre, b, suf, e1, e2, b1, b2, b3, b4, b5, b6⟩ := mj_hk_find l1 l' hk hf
  obtain ⟨rfl, hEm, hx6⟩ := mj_exc_at hE
  have hcast : (Cond.castable (mj_en x) (mj_en x)).before args s = true := by
    have h9 := List.all_eq_true.mp mj_castE x (List.mem_range.mpr hx6)
    have h8 : Cond.castable (mj_en x) (mj_en x) ∈ mj_ngs := List.mem_filter.mpr ⟨of_decide_eq_true h9, rfl⟩
    exact va_Nw.use rfl (hKK.2.2.2.2.1 _ h8)
  refine vx_catch S.2.2.2.1 (tableOf pre) ⟨b.1, b.2.1, b.2.2.1, b.2.2.2⟩ (tableOf suf) (by rw [htab, e1]; simp [tableOf]) (fun w hw => ?_) (by simp [covers, b1, b2]) b4 (S.2.2.2.2 _ b6) hcast hce hcv hcl (by rw [b3]; exact kk)
  obtain ⟨q9, hq9, rfl⟩ := List.mem_map.mp hw
  rcases e2 q9 hq9 with h | ⟨h0, E', hn, h6, hl⟩
  · left
    simp only [covers, Bool.and_eq_false_iff, decide_eq_false_iff_not]
    by_cases h9 : q9.1 ≤ pc
    · exact Or.inr (fun h8 => h ⟨h9, h8⟩)
    · exact Or.inl h9
  · right
    exact ⟨h0, mj_en E', S.2.2.2.2 _ hl, hKK.2.2.2.2.2.1 _ hEm _ (mj_exc_mem h6) (fun h => hn (mj_exc_inj hx6 h6 h).symm)⟩
end MU
