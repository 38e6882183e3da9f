/-! the law's own table is the law's bytes (long: the kernel walks the bytes from the start for each) -/
theorem mj_ck_cut {o : Nat} {cc : ByteArray} {ini : Bool} {nL : Nat} : ∀ (n b : Nat) (l : mjC), mj_ck o cc ini nL b (l.take n) = true → mj_ck o cc ini nL (b + n) (l.drop n) = true → mj_ck o cc ini nL b l = true
  | 0, b, l, _, h2 => h2
  | n + 1, b, [], _, _ => rfl
  | n + 1, b, r :: l, h1, h2 => by
    simp only [List.take_succ_cons, List.drop_succ_cons, mj_ck, Bool.and_eq_true] at h1 h2 ⊢
    exact ⟨h1.1, mj_ck_cut n (b + 1) l h1.2 (by rw [show b + 1 + n = b + (n + 1) by omega]; exact h2)⟩
theorem mj_ck_drop {o : Nat} {cc : ByteArray} {ini : Bool} {nL : Nat} {l : mjC} (n b : Nat) (h1 : mj_ck o cc ini nL b ((l.drop b).take n) = true) (h2 : mj_ck o cc ini nL (b + n) (l.drop (b + n)) = true) : mj_ck o cc ini nL b (l.drop b) = true :=
  mj_ck_cut n b _ h1 (by rw [List.drop_drop]; exact h2)
abbrev mh_C : mjC := (mj_P 329).2.2.2.1
set_option maxRecDepth 100000 in
theorem mh_ck_0 : mj_ck 13 code false 9 0 ((mh_C.drop 0).take 8) = true := by decide +kernel
set_option maxRecDepth 100000 in
theorem mh_ck_8 : mj_ck 13 code false 9 8 ((mh_C.drop 8).take 8) = true := by decide +kernel
set_option maxRecDepth 100000 in
theorem mh_ck_16 : mj_ck 13 code false 9 16 ((mh_C.drop 16).take 8) = true := by decide +kernel
set_option maxRecDepth 100000 in
theorem mh_ck_24 : mj_ck 13 code false 9 24 ((mh_C.drop 24).take 8) = true := by decide +kernel
set_option maxRecDepth 100000 in
theorem mh_ck_32 : mj_ck 13 code false 9 32 ((mh_C.drop 32).take 8) = true := by decide +kernel
set_option maxRecDepth 100000 in
theorem mh_ck_40 : mj_ck 13 code false 9 40 ((mh_C.drop 40).take 8) = true := by decide +kernel
set_option maxRecDepth 100000 in
theorem mh_ck_48 : mj_ck 13 code false 9 48 ((mh_C.drop 48).take 8) = true := by decide +kernel
set_option maxRecDepth 100000 in
theorem mh_ck_56 : mj_ck 13 code false 9 56 ((mh_C.drop 56).take 8) = true := by decide +kernel
set_option maxRecDepth 100000 in
theorem mh_ck_64 : mj_ck 13 code false 9 64 ((mh_C.drop 64).take 8) = true := by decide +kernel
set_option maxRecDepth 100000 in
theorem mh_ck_72 : mj_ck 13 code false 9 72 ((mh_C.drop 72).take 8) = true := by decide +kernel
set_option maxRecDepth 100000 in
theorem mh_ck_80 : mj_ck 13 code false 9 80 ((mh_C.drop 80).take 8) = true := by decide +kernel
set_option maxRecDepth 100000 in
theorem mh_ck_88 : mj_ck 13 code false 9 88 ((mh_C.drop 88).take 8) = true := by decide +kernel
set_option maxRecDepth 100000 in
theorem mh_ck_96 : mj_ck 13 code false 9 96 ((mh_C.drop 96).take 8) = true := by decide +kernel
set_option maxRecDepth 100000 in
theorem mh_ck_104 : mj_ck 13 code false 9 104 ((mh_C.drop 104).take 8) = true := by decide +kernel
set_option maxRecDepth 100000 in
theorem mh_ck_112 : mj_ck 13 code false 9 112 ((mh_C.drop 112).take 8) = true := by decide +kernel
set_option maxRecDepth 100000 in
theorem mh_ck_120 : mj_ck 13 code false 9 120 ((mh_C.drop 120).take 8) = true := by decide +kernel
