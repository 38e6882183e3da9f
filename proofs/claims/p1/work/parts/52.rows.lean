theorem fP_0 : mj_P 0 = (0, 1, none, mcX0_init, []) := rfl
theorem fa_0 {pc : Nat} {e : mjE} (h : mj_at mcX0_init pc = some e) : fAt 0 pc e := by unfold fAt; rw [fP_0]; exact h
theorem fr_0 : (mj_P 0).2.2.1 = none := by rw [fP_0]
theorem fna_0 : (mj_P 0).2.1 = 1 := by rw [fP_0]
theorem fx_0 : 1 ≤ mj_mx.getD 0 0 := by decide
theorem fh_0 : (mj_P 0).2.2.2.2.isEmpty = true := by rw [fP_0]; rfl
theorem fs_0_0 : fSB 0 [0] 0 0 f_0_0 := by
  unfold f_0_0
  refine fo_aload_n (k := 0) (fa_0 rfl) ?_
  refine fo_objinit (fa_0 rfl) ?_
  refine fo_aload_n (k := 0) (fa_0 rfl) ?_
  refine fo_bipush (fa_0 rfl) fk_b_40 ?_
  refine fo_newarray (fa_0 rfl) rfl (by decide) (by decide) fel_20 ?_
  refine fo_putr (fa_0 rfl) (by decide) rfl ?_
  refine fo_aload_n (k := 0) (fa_0 rfl) ?_
  refine fo_bipush (fa_0 rfl) fk_b_40 ?_
  refine fo_newarray (fa_0 rfl) rfl (by decide) (by decide) fel_21_0 ?_
  refine fo_putr (fa_0 rfl) (by decide) rfl ?_
  refine fo_aload_n (k := 0) (fa_0 rfl) ?_
  refine fo_bipush (fa_0 rfl) fk_b_31 ?_
  refine fo_newarray (fa_0 rfl) rfl (by decide) (by decide) fel_21_0 ?_
  refine fo_putr (fa_0 rfl) (by decide) rfl ?_
  refine fo_aload_n (k := 0) (fa_0 rfl) ?_
  refine fo_bipush (fa_0 rfl) fk_b_61 ?_
  refine fo_newarray (fa_0 rfl) rfl (by decide) (by decide) fel_21_0 ?_
  refine fo_putr (fa_0 rfl) (by decide) rfl ?_
  refine fo_aload_n (k := 0) (fa_0 rfl) ?_
  refine fo_iconst (fa_0 rfl) fk_c_0 ?_
  refine fo_puti (fa_0 rfl) (by decide) rfl ?_
  refine fo_aload_n (k := 0) (fa_0 rfl) ?_
  refine fo_iconst (fa_0 rfl) fk_c_0 ?_
  refine fo_puti (fa_0 rfl) (by decide) rfl ?_
  exact fo_ret (fa_0 rfl) fr_0
theorem fsm_0 : fSM 0 0 fm_0 := fs_methH (lp := [0]) (by decide) rfl ⟨fs_0_0, trivial⟩
theorem fP_1 : mj_P 1 = (0, 2, (some .long), mcX0_at, []) := rfl
theorem fa_1 {pc : Nat} {e : mjE} (h : mj_at mcX0_at pc = some e) : fAt 1 pc e := by unfold fAt; rw [fP_1]; exact h
theorem fr_1 : (mj_P 1).2.2.1 = (some .long) := by rw [fP_1]
theorem fna_1 : (mj_P 1).2.1 = 2 := by rw [fP_1]
theorem fx_1 : 2 ≤ mj_mx.getD 1 0 := by decide
theorem fh_1 : (mj_P 1).2.2.2.2.isEmpty = true := by rw [fP_1]; rfl
theorem fs_1_22 : fSB 1 [0] 0 22 f_1_22 := by
  unfold f_1_22
  exact fo_lret (fa_1 rfl) fr_1
theorem fs_1_16 : fSB 1 [0] 0 16 f_1_16 := by
  unfold f_1_16
  refine fo_aload_n (k := 0) (fa_1 rfl) ?_
  refine fo_getr (fa_1 rfl) (by decide) rfl ?_
  refine fo_iload_n (k := 1) (fa_1 rfl) ?_
  refine fo_laload (fa_1 rfl) ?_
  exact fs_1_22
theorem fs_1_12 : fSB 1 [0] 0 12 f_1_12 := by
  unfold f_1_12
  refine fo_lconst (fa_1 rfl) rfl ?_
  exact fo_goto (fa_1 rfl) (pcT := 22) rfl fs_1_22
theorem fs_1_0 : fSB 1 [0] 0 0 f_1_0 := by
  unfold f_1_0
  refine fo_iload_n (k := 1) (fa_1 rfl) ?_
  refine fo_if_lt (fa_1 rfl) (pcT := 12) rfl fs_1_12 ?_
  refine fo_iload_n (k := 1) (fa_1 rfl) ?_
  refine fo_aload_n (k := 0) (fa_1 rfl) ?_
  refine fo_geti (fa_1 rfl) (by decide) rfl ?_
  refine fo_icmp_lt (fa_1 rfl) (pcT := 16) rfl fs_1_16 ?_
  exact fs_1_12
theorem fsm_1 : fSM 1 0 fm_1 := fs_methH (lp := [0]) (by decide) rfl ⟨fs_1_0, trivial⟩
theorem fP_3 : mj_P 3 = (0, 1, (some .long), mcX0_allBlocks, []) := rfl
theorem fa_3 {pc : Nat} {e : mjE} (h : mj_at mcX0_allBlocks pc = some e) : fAt 3 pc e := by unfold fAt; rw [fP_3]; exact h
theorem fr_3 : (mj_P 3).2.2.1 = (some .long) := by rw [fP_3]
theorem fna_3 : (mj_P 3).2.1 = 1 := by rw [fP_3]
theorem fx_3 : 1 ≤ mj_mx.getD 3 0 := by decide
theorem fh_3 : (mj_P 3).2.2.2.2.isEmpty = true := by rw [fP_3]; rfl
theorem fs_3_0 : fSB 3 [0] 0 0 f_3_0 := by
  unfold f_3_0
  refine fo_lconst (fa_3 rfl) rfl ?_
  refine fo_aload_n (k := 0) (fa_3 rfl) ?_
  refine fo_geti (fa_3 rfl) (by decide) rfl ?_
  refine fo_lshl (fa_3 rfl) ?_
  refine fo_lconst (fa_3 rfl) rfl ?_
  refine fo_lsub (fa_3 rfl) ?_
  exact fo_lret (fa_3 rfl) fr_3
theorem fsm_3 : fSM 3 0 fm_3 := fs_methH (lp := [0]) (by decide) rfl ⟨fs_3_0, trivial⟩
theorem fP_166 : mj_P 166 = (7, 2, (some .boolean), mcX7_hasBit, []) := rfl
theorem fa_166 {pc : Nat} {e : mjE} (h : mj_at mcX7_hasBit pc = some e) : fAt 166 pc e := by unfold fAt; rw [fP_166]; exact h
theorem fr_166 : (mj_P 166).2.2.1 = (some .boolean) := by rw [fP_166]
theorem fna_166 : (mj_P 166).2.1 = 2 := by rw [fP_166]
theorem fx_166 : 2 ≤ mj_mx.getD 166 0 := by decide
theorem fh_166 : (mj_P 166).2.2.2.2.isEmpty = true := by rw [fP_166]; rfl
theorem fs_166_13 : fSB 166 [0] 0 13 f_166_13 := by
  unfold f_166_13
  exact fo_iret (fa_166 rfl) fr_166 fw_bool
theorem fs_166_12 : fSB 166 [0] 0 12 f_166_12 := by
  unfold f_166_12
  refine fo_iconst (fa_166 rfl) fk_c_0 ?_
  exact fs_166_13
theorem fs_166_0 : fSB 166 [0] 0 0 f_166_0 := by
  unfold f_166_0
  refine fo_iload_n (k := 0) (fa_166 rfl) ?_
  refine fo_iload_n (k := 1) (fa_166 rfl) ?_
  refine fo_iushr (fa_166 rfl) ?_
  refine fo_iconst (fa_166 rfl) fk_c_1 ?_
  refine fo_iand (fa_166 rfl) ?_
  refine fo_if_eq (fa_166 rfl) (pcT := 12) rfl fs_166_12 ?_
  refine fo_iconst (fa_166 rfl) fk_c_1 ?_
  exact fo_goto (fa_166 rfl) (pcT := 13) rfl fs_166_13
theorem fsm_166 : fSM 166 0 fm_166 := fs_methH (lp := [0]) (by decide) rfl ⟨fs_166_0, trivial⟩
theorem fP_4 : mj_P 4 = (0, 2, none, mcX0_noteBlock, []) := rfl
theorem fa_4 {pc : Nat} {e : mjE} (h : mj_at mcX0_noteBlock pc = some e) : fAt 4 pc e := by unfold fAt; rw [fP_4]; exact h
theorem fr_4 : (mj_P 4).2.2.1 = none := by rw [fP_4]
theorem fna_4 : (mj_P 4).2.1 = 2 := by rw [fP_4]
theorem fx_4 : 2 ≤ mj_mx.getD 4 0 := by decide
theorem fh_4 : (mj_P 4).2.2.2.2.isEmpty = true := by rw [fP_4]; rfl
theorem fs_4_83 : fSB 4 [0, 2, 41] 1 83 f_4_83 := by
  unfold f_4_83
  exact fo_ret (fa_4 rfl) fr_4
theorem fs_4_77 : fSB 4 [0, 2, 41] 1 77 f_4_77 := by
  unfold f_4_77
  refine fo_iinc (k := 2) (fa_4 rfl) fk_c_1 ?_
  exact fo_goto (fa_4 rfl) (pcT := 41) rfl (fo_back (q := 41) rfl)
theorem fs_4_41 : fSB 4 [0, 2, 41] 1 41 f_4_41 := by
  unfold f_4_41
  refine fo_iload_n (k := 2) (fa_4 rfl) ?_
  refine fo_aload_n (k := 0) (fa_4 rfl) ?_
  refine fo_geti (fa_4 rfl) (by decide) rfl ?_
  refine fo_icmp_ge (fa_4 rfl) (pcT := 83) rfl fs_4_83 ?_
  refine fo_aload_n (k := 0) (fa_4 rfl) ?_
  refine fo_getr (fa_4 rfl) (by decide) rfl ?_
  refine fo_iload_n (k := 2) (fa_4 rfl) ?_
  refine fo_iaload (fa_4 rfl) ?_
  refine fo_aload_n (k := 0) (fa_4 rfl) ?_
  refine fo_getr (fa_4 rfl) (by decide) rfl ?_
  refine fo_iload_n (k := 1) (fa_4 rfl) ?_
  refine fo_iaload (fa_4 rfl) ?_
  refine fo_iand (fa_4 rfl) ?_
  refine fo_if_eq (fa_4 rfl) (pcT := 77) rfl fs_4_77 ?_
  refine fo_aload_n (k := 0) (fa_4 rfl) ?_
  refine fo_getr (fa_4 rfl) (by decide) rfl ?_
  refine fo_iload_n (k := 1) (fa_4 rfl) ?_
  refine fo_dup2 (fa_4 rfl) ?_
  refine fo_laload (fa_4 rfl) ?_
  refine fo_lconst (fa_4 rfl) rfl ?_
  refine fo_iload_n (k := 2) (fa_4 rfl) ?_
  refine fo_lshl (fa_4 rfl) ?_
  exact fo_bad
theorem fs_4_39 : fSB 4 [0, 2, 41] 1 39 f_4_39 := by
  unfold f_4_39
  refine fo_iconst (fa_4 rfl) fk_c_0 ?_
  refine fo_istore_n (k := 2) (fa_4 rfl) ?_
  exact fs_4_41
theorem fs_4_33 : fSB 4 [0, 2, 41] 1 33 f_4_33 := by
  unfold f_4_33
  refine fo_iinc (k := 2) (fa_4 rfl) fk_c_1 ?_
  exact fo_goto (fa_4 rfl) (pcT := 2) rfl (fo_back (q := 2) rfl)
theorem fs_4_2 : fSB 4 [0, 2, 41] 1 2 f_4_2 := by
  unfold f_4_2
  refine fo_iload_n (k := 2) (fa_4 rfl) ?_
  refine fo_bipush (fa_4 rfl) fk_b_31 ?_
  refine fo_icmp_ge (fa_4 rfl) (pcT := 39) rfl fs_4_39 ?_
  refine fo_aload_n (k := 0) (fa_4 rfl) ?_
  refine fo_getr (fa_4 rfl) (by decide) rfl ?_
  refine fo_iload_n (k := 1) (fa_4 rfl) ?_
  refine fo_iaload (fa_4 rfl) ?_
  refine fo_iload_n (k := 2) (fa_4 rfl) ?_
  refine fo_static (by decide) (fo_callH (fa_4 rfl) fNs_static fsm_166 (by decide) fFil_0 fna_166 fx_166 (Or.inl rfl) fHd_nil ?_)
  refine fo_if_eq (fa_4 rfl) (pcT := 33) rfl fs_4_33 ?_
  refine fo_aload_n (k := 0) (fa_4 rfl) ?_
  refine fo_getr (fa_4 rfl) (by decide) rfl ?_
  refine fo_iload_n (k := 2) (fa_4 rfl) ?_
  refine fo_dup2 (fa_4 rfl) ?_
  refine fo_laload (fa_4 rfl) ?_
  refine fo_lconst (fa_4 rfl) rfl ?_
  refine fo_iload_n (k := 1) (fa_4 rfl) ?_
  refine fo_lshl (fa_4 rfl) ?_
  exact fo_bad
theorem fs_4_0 : fSB 4 [0, 2, 41] 1 0 f_4_0 := by
  unfold f_4_0
  refine fo_iconst (fa_4 rfl) fk_c_0 ?_
  refine fo_istore_n (k := 2) (fa_4 rfl) ?_
  exact fs_4_2
theorem fsm_4 : fSM 4 1 fm_4 := fs_methH (lp := [0, 2, 41]) (by decide) rfl ⟨fs_4_0, fs_4_2, fs_4_41, trivial⟩
theorem fP_6 : mj_P 6 = (0, 2, (some .long), mcX0_blocksLike, []) := rfl
theorem fa_6 {pc : Nat} {e : mjE} (h : mj_at mcX0_blocksLike pc = some e) : fAt 6 pc e := by unfold fAt; rw [fP_6]; exact h
theorem fr_6 : (mj_P 6).2.2.1 = (some .long) := by rw [fP_6]
theorem fna_6 : (mj_P 6).2.1 = 2 := by rw [fP_6]
theorem fx_6 : 2 ≤ mj_mx.getD 6 0 := by decide
theorem fh_6 : (mj_P 6).2.2.2.2.isEmpty = true := by rw [fP_6]; rfl
theorem fs_6_43 : fSB 6 [0, 5] 0 43 f_6_43 := by
  unfold f_6_43
  refine fo_lload_n (k := 2) (fa_6 rfl) ?_
  exact fo_lret (fa_6 rfl) fr_6
theorem fs_6_37 : fSB 6 [0, 5] 0 37 f_6_37 := by
  unfold f_6_37
  refine fo_iinc (k := 4) (fa_6 rfl) fk_c_1 ?_
  exact fo_goto (fa_6 rfl) (pcT := 5) rfl (fo_back (q := 5) rfl)
theorem fs_6_5 : fSB 6 [0, 5] 0 5 f_6_5 := by
  unfold f_6_5
  refine fo_iload (k := 4) (fa_6 rfl) ?_
  refine fo_aload_n (k := 0) (fa_6 rfl) ?_
  refine fo_geti (fa_6 rfl) (by decide) rfl ?_
  refine fo_icmp_ge (fa_6 rfl) (pcT := 43) rfl fs_6_43 ?_
  refine fo_aload_n (k := 0) (fa_6 rfl) ?_
  refine fo_getr (fa_6 rfl) (by decide) rfl ?_
  refine fo_iload (k := 4) (fa_6 rfl) ?_
  refine fo_iaload (fa_6 rfl) ?_
  refine fo_aload_n (k := 0) (fa_6 rfl) ?_
  refine fo_getr (fa_6 rfl) (by decide) rfl ?_
  refine fo_iload_n (k := 1) (fa_6 rfl) ?_
  refine fo_iaload (fa_6 rfl) ?_
  refine fo_icmp_ne (fa_6 rfl) (pcT := 37) rfl fs_6_37 ?_
  refine fo_lload_n (k := 2) (fa_6 rfl) ?_
  refine fo_lconst (fa_6 rfl) rfl ?_
  refine fo_iload (k := 4) (fa_6 rfl) ?_
  refine fo_lshl (fa_6 rfl) ?_
  exact fo_bad
theorem fs_6_0 : fSB 6 [0, 5] 0 0 f_6_0 := by
  unfold f_6_0
  refine fo_lconst (fa_6 rfl) rfl ?_
  refine fo_lstore_n (k := 2) (fa_6 rfl) ?_
  refine fo_iconst (fa_6 rfl) fk_c_0 ?_
  refine fo_istore (k := 4) (fa_6 rfl) ?_
  exact fs_6_5
theorem fsm_6 : fSM 6 0 fm_6 := fs_methH (lp := [0, 5]) (by decide) rfl ⟨fs_6_0, fs_6_5, trivial⟩
theorem fP_273 : mj_P 273 = (11, 1, (some .int), mcJ13_bitCount_95d88, []) := rfl
theorem fa_273 {pc : Nat} {e : mjE} (h : mj_at mcJ13_bitCount_95d88 pc = some e) : fAt 273 pc e := by unfold fAt; rw [fP_273]; exact h
theorem fr_273 : (mj_P 273).2.2.1 = (some .int) := by rw [fP_273]
theorem fna_273 : (mj_P 273).2.1 = 1 := by rw [fP_273]
theorem fx_273 : 2 ≤ mj_mx.getD 273 0 := by decide
theorem fh_273 : (mj_P 273).2.2.2.2.isEmpty = true := by rw [fP_273]; rfl
theorem fs_273_0 : fSB 273 [0] 0 0 f_273_0 := by
  unfold f_273_0
  refine fo_lload_n (k := 0) (fa_273 rfl) ?_
  refine fo_lload_n (k := 0) (fa_273 rfl) ?_
  refine fo_iconst (fa_273 rfl) fk_c_1 ?_
  exact fo_bad
theorem fsm_273 : fSM 273 0 fm_273 := fs_methH (lp := [0]) (by decide) rfl ⟨fs_273_0, trivial⟩
theorem fP_7 : mj_P 7 = (0, 3, (some .long), mcX0_fewestChoices, []) := rfl
theorem fa_7 {pc : Nat} {e : mjE} (h : mj_at mcX0_fewestChoices pc = some e) : fAt 7 pc e := by unfold fAt; rw [fP_7]; exact h
theorem fr_7 : (mj_P 7).2.2.1 = (some .long) := by rw [fP_7]
theorem fna_7 : (mj_P 7).2.1 = 3 := by rw [fP_7]
theorem fx_7 : 4 ≤ mj_mx.getD 7 0 := by decide
theorem fh_7 : (mj_P 7).2.2.2.2.isEmpty = true := by rw [fP_7]; rfl
theorem fs_7_64 : fSB 7 [0, 10] 1 64 f_7_64 := by
  unfold f_7_64
  refine fo_lload (k := 4) (fa_7 rfl) ?_
  exact fo_lret (fa_7 rfl) fr_7
theorem fs_7_58 : fSB 7 [0, 10] 1 58 f_7_58 := by
  unfold f_7_58
  refine fo_iinc (k := 7) (fa_7 rfl) fk_c_1 ?_
  exact fo_goto (fa_7 rfl) (pcT := 10) rfl (fo_back (q := 10) rfl)
theorem fs_7_10 : fSB 7 [0, 10] 1 10 f_7_10 := by
  unfold f_7_10
  refine fo_iload (k := 7) (fa_7 rfl) ?_
  refine fo_bipush (fa_7 rfl) fk_b_31 ?_
  refine fo_icmp_ge (fa_7 rfl) (pcT := 64) rfl fs_7_64 ?_
  refine fo_iload_n (k := 1) (fa_7 rfl) ?_
  refine fo_iload (k := 7) (fa_7 rfl) ?_
  refine fo_static (by decide) (fo_callH (fa_7 rfl) fNs_static fsm_166 (by decide) fFil_0 fna_166 fx_166 (Or.inl rfl) fHd_nil ?_)
  refine fo_if_eq (fa_7 rfl) (pcT := 58) rfl fs_7_58 ?_
  refine fo_aload_n (k := 0) (fa_7 rfl) ?_
  refine fo_getr (fa_7 rfl) (by decide) rfl ?_
  refine fo_iload (k := 7) (fa_7 rfl) ?_
  refine fo_laload (fa_7 rfl) ?_
  refine fo_lload_n (k := 2) (fa_7 rfl) ?_
  exact fo_bad
theorem fs_7_0 : fSB 7 [0, 10] 1 0 f_7_0 := by
  unfold f_7_0
  refine fo_lload_n (k := 2) (fa_7 rfl) ?_
  refine fo_lstore (k := 4) (fa_7 rfl) ?_
  refine fo_bipush (fa_7 rfl) fk_b_41 ?_
  refine fo_istore (k := 6) (fa_7 rfl) ?_
  refine fo_iconst (fa_7 rfl) fk_c_0 ?_
  refine fo_istore (k := 7) (fa_7 rfl) ?_
  exact fs_7_10
theorem fsm_7 : fSM 7 1 fm_7 := fs_methH (lp := [0, 10]) (by decide) rfl ⟨fs_7_0, fs_7_10, trivial⟩
theorem fP_9 : mj_P 9 = (0, 2, (some .boolean), mcX0_isAhead, []) := rfl
theorem fa_9 {pc : Nat} {e : mjE} (h : mj_at mcX0_isAhead pc = some e) : fAt 9 pc e := by unfold fAt; rw [fP_9]; exact h
theorem fr_9 : (mj_P 9).2.2.1 = (some .boolean) := by rw [fP_9]
theorem fna_9 : (mj_P 9).2.1 = 2 := by rw [fP_9]
theorem fx_9 : 4 ≤ mj_mx.getD 9 0 := by decide
theorem fh_9 : (mj_P 9).2.2.2.2.isEmpty = true := by rw [fP_9]; rfl
theorem fs_9_23 : fSB 9 [0] 0 23 f_9_23 := by
  unfold f_9_23
  exact fo_iret (fa_9 rfl) fr_9 fw_bool
theorem fs_9_22 : fSB 9 [0] 0 22 f_9_22 := by
  unfold f_9_22
  refine fo_iconst (fa_9 rfl) fk_c_0 ?_
  exact fs_9_23
theorem fs_9_0 : fSB 9 [0] 0 0 f_9_0 := by
  unfold f_9_0
  refine fo_lload_n (k := 0) (fa_9 rfl) ?_
  refine fo_lload_n (k := 2) (fa_9 rfl) ?_
  exact fo_bad
theorem fsm_9 : fSM 9 0 fm_9 := fs_methH (lp := [0]) (by decide) rfl ⟨fs_9_0, trivial⟩
theorem fP_8 : mj_P 8 = (0, 2, none, mcX0_enter, []) := rfl
theorem fa_8 {pc : Nat} {e : mjE} (h : mj_at mcX0_enter pc = some e) : fAt 8 pc e := by unfold fAt; rw [fP_8]; exact h
theorem fr_8 : (mj_P 8).2.2.1 = none := by rw [fP_8]
theorem fna_8 : (mj_P 8).2.1 = 2 := by rw [fP_8]
theorem fx_8 : 3 ≤ mj_mx.getD 8 0 := by decide
theorem fh_8 : (mj_P 8).2.2.2.2.isEmpty = true := by rw [fP_8]; rfl
theorem fs_8_61 : fSB 8 [0, 22] 1 61 f_8_61 := by
  unfold f_8_61
  refine fo_aload_n (k := 0) (fa_8 rfl) ?_
  refine fo_getr (fa_8 rfl) (by decide) rfl ?_
  refine fo_iload_n (k := 3) (fa_8 rfl) ?_
  refine fo_lload_n (k := 1) (fa_8 rfl) ?_
  refine fo_lastore (fa_8 rfl) ?_
  refine fo_aload_n (k := 0) (fa_8 rfl) ?_
  refine fo_dup (fa_8 rfl) ?_
  refine fo_geti (fa_8 rfl) (by decide) rfl ?_
  refine fo_iconst (fa_8 rfl) fk_c_1 ?_
  refine fo_iadd (fa_8 rfl) ?_
  refine fo_puti (fa_8 rfl) (by decide) rfl ?_
  exact fo_ret (fa_8 rfl) fr_8
theorem fs_8_22 : fSB 8 [0, 22] 1 22 f_8_22 := by
  unfold f_8_22
  refine fo_iload_n (k := 3) (fa_8 rfl) ?_
  refine fo_if_le (fa_8 rfl) (pcT := 61) rfl fs_8_61 ?_
  refine fo_lload_n (k := 1) (fa_8 rfl) ?_
  refine fo_aload_n (k := 0) (fa_8 rfl) ?_
  refine fo_getr (fa_8 rfl) (by decide) rfl ?_
  refine fo_iload_n (k := 3) (fa_8 rfl) ?_
  refine fo_iconst (fa_8 rfl) fk_c_1 ?_
  refine fo_isub (fa_8 rfl) ?_
  refine fo_laload (fa_8 rfl) ?_
  refine fo_static (by decide) (fo_call (fa_8 rfl) fNs_static fsm_9 (by decide) fFil_2 fna_9 fx_9 (by rw [fP_9]; rfl) fh_8 ?_)
  refine fo_if_eq (fa_8 rfl) (pcT := 61) rfl fs_8_61 ?_
  refine fo_aload_n (k := 0) (fa_8 rfl) ?_
  refine fo_getr (fa_8 rfl) (by decide) rfl ?_
  refine fo_iload_n (k := 3) (fa_8 rfl) ?_
  refine fo_aload_n (k := 0) (fa_8 rfl) ?_
  refine fo_getr (fa_8 rfl) (by decide) rfl ?_
  refine fo_iload_n (k := 3) (fa_8 rfl) ?_
  refine fo_iconst (fa_8 rfl) fk_c_1 ?_
  refine fo_isub (fa_8 rfl) ?_
  refine fo_laload (fa_8 rfl) ?_
  refine fo_lastore (fa_8 rfl) ?_
  refine fo_iinc (k := 3) (fa_8 rfl) fk_c_m1 ?_
  exact fo_goto (fa_8 rfl) (pcT := 22) rfl (fo_back (q := 22) rfl)
theorem fs_8_17 : fSB 8 [0, 22] 1 17 f_8_17 := by
  unfold f_8_17
  refine fo_aload_n (k := 0) (fa_8 rfl) ?_
  refine fo_geti (fa_8 rfl) (by decide) rfl ?_
  refine fo_istore_n (k := 3) (fa_8 rfl) ?_
  exact fs_8_22
theorem fs_8_16 : fSB 8 [0, 22] 1 16 f_8_16 := by
  unfold f_8_16
  exact fo_ret (fa_8 rfl) fr_8
theorem fs_8_0 : fSB 8 [0, 22] 1 0 f_8_0 := by
  unfold f_8_0
  refine fo_aload_n (k := 0) (fa_8 rfl) ?_
  refine fo_geti (fa_8 rfl) (by decide) rfl ?_
  refine fo_if_lt (fa_8 rfl) (pcT := 16) rfl fs_8_16 ?_
  refine fo_aload_n (k := 0) (fa_8 rfl) ?_
  refine fo_geti (fa_8 rfl) (by decide) rfl ?_
  refine fo_bipush (fa_8 rfl) fk_b_60 ?_
  refine fo_icmp_le (fa_8 rfl) (pcT := 17) rfl fs_8_17 ?_
  exact fs_8_16
theorem fsm_8 : fSM 8 1 fm_8 := fs_methH (lp := [0, 22]) (by decide) rfl ⟨fs_8_0, fs_8_22, trivial⟩
theorem fP_15 : mj_P 15 = (1, 2, (some .int), mcX1_at, []) := rfl
theorem fa_15 {pc : Nat} {e : mjE} (h : mj_at mcX1_at pc = some e) : fAt 15 pc e := by unfold fAt; rw [fP_15]; exact h
theorem fr_15 : (mj_P 15).2.2.1 = (some .int) := by rw [fP_15]
theorem fna_15 : (mj_P 15).2.1 = 2 := by rw [fP_15]
theorem fx_15 : 2 ≤ mj_mx.getD 15 0 := by decide
theorem fh_15 : (mj_P 15).2.2.2.2.isEmpty = true := by rw [fP_15]; rfl
theorem fs_15_22 : fSB 15 [0] 0 22 f_15_22 := by
  unfold f_15_22
  exact fo_iret (fa_15 rfl) fr_15 fw_int
theorem fs_15_16 : fSB 15 [0] 0 16 f_15_16 := by
  unfold f_15_16
  refine fo_aload_n (k := 0) (fa_15 rfl) ?_
  refine fo_getr (fa_15 rfl) (by decide) rfl ?_
  refine fo_iload_n (k := 1) (fa_15 rfl) ?_
  refine fo_iaload (fa_15 rfl) ?_
  exact fs_15_22
theorem fs_15_12 : fSB 15 [0] 0 12 f_15_12 := by
  unfold f_15_12
  refine fo_iconst (fa_15 rfl) fk_c_0 ?_
  exact fo_goto (fa_15 rfl) (pcT := 22) rfl fs_15_22
theorem fs_15_0 : fSB 15 [0] 0 0 f_15_0 := by
  unfold f_15_0
  refine fo_iload_n (k := 1) (fa_15 rfl) ?_
  refine fo_if_lt (fa_15 rfl) (pcT := 12) rfl fs_15_12 ?_
  refine fo_iload_n (k := 1) (fa_15 rfl) ?_
  refine fo_aload_n (k := 0) (fa_15 rfl) ?_
  refine fo_geti (fa_15 rfl) (by decide) rfl ?_
  refine fo_icmp_lt (fa_15 rfl) (pcT := 16) rfl fs_15_16 ?_
  exact fs_15_12
theorem fsm_15 : fSM 15 0 fm_15 := fs_methH (lp := [0]) (by decide) rfl ⟨fs_15_0, trivial⟩
theorem fP_165 : mj_P 165 = (7, 1, (some .int), mcX7_lowBits, []) := rfl
theorem fa_165 {pc : Nat} {e : mjE} (h : mj_at mcX7_lowBits pc = some e) : fAt 165 pc e := by unfold fAt; rw [fP_165]; exact h
theorem fr_165 : (mj_P 165).2.2.1 = (some .int) := by rw [fP_165]
theorem fna_165 : (mj_P 165).2.1 = 1 := by rw [fP_165]
theorem fx_165 : 1 ≤ mj_mx.getD 165 0 := by decide
theorem fh_165 : (mj_P 165).2.2.2.2.isEmpty = true := by rw [fP_165]; rfl
theorem fs_165_0 : fSB 165 [0] 0 0 f_165_0 := by
  unfold f_165_0
  refine fo_iconst (fa_165 rfl) fk_c_1 ?_
  refine fo_iload_n (k := 0) (fa_165 rfl) ?_
  refine fo_ishl (fa_165 rfl) ?_
  refine fo_iconst (fa_165 rfl) fk_c_1 ?_
  refine fo_isub (fa_165 rfl) ?_
  exact fo_iret (fa_165 rfl) fr_165 fw_int
theorem fsm_165 : fSM 165 0 fm_165 := fs_methH (lp := [0]) (by decide) rfl ⟨fs_165_0, trivial⟩
theorem fP_18 : mj_P 18 = (1, 1, (some .int), mcX1_allPoints, []) := rfl
theorem fa_18 {pc : Nat} {e : mjE} (h : mj_at mcX1_allPoints pc = some e) : fAt 18 pc e := by unfold fAt; rw [fP_18]; exact h
theorem fr_18 : (mj_P 18).2.2.1 = (some .int) := by rw [fP_18]
theorem fna_18 : (mj_P 18).2.1 = 1 := by rw [fP_18]
theorem fx_18 : 1 ≤ mj_mx.getD 18 0 := by decide
theorem fh_18 : (mj_P 18).2.2.2.2.isEmpty = true := by rw [fP_18]; rfl
theorem fs_18_0 : fSB 18 [0] 1 0 f_18_0 := by
  unfold f_18_0
  refine fo_aload_n (k := 0) (fa_18 rfl) ?_
  refine fo_geti (fa_18 rfl) (by decide) rfl ?_
  refine fo_static (by decide) (fo_callH (fa_18 rfl) fNs_static fsm_165 (by decide) fFil_0 fna_165 fx_165 (Or.inl rfl) fHd_nil ?_)
  exact fo_iret (fa_18 rfl) fr_18 fw_int
theorem fsm_18 : fSM 18 1 fm_18 := fs_methH (lp := [0]) (by decide) rfl ⟨fs_18_0, trivial⟩
theorem fP_276 : mj_P 276 = (12, 2, (some .int), mcJ9_min_7cf53, []) := rfl
theorem fa_276 {pc : Nat} {e : mjE} (h : mj_at mcJ9_min_7cf53 pc = some e) : fAt 276 pc e := by unfold fAt; rw [fP_276]; exact h
theorem fr_276 : (mj_P 276).2.2.1 = (some .int) := by rw [fP_276]
theorem fna_276 : (mj_P 276).2.1 = 2 := by rw [fP_276]
theorem fx_276 : 2 ≤ mj_mx.getD 276 0 := by decide
theorem fh_276 : (mj_P 276).2.2.2.2.isEmpty = true := by rw [fP_276]; rfl
theorem fs_276_10 : fSB 276 [0] 0 10 f_276_10 := by
  unfold f_276_10
  exact fo_iret (fa_276 rfl) fr_276 fw_int
theorem fs_276_9 : fSB 276 [0] 0 9 f_276_9 := by
  unfold f_276_9
  refine fo_iload_n (k := 1) (fa_276 rfl) ?_
  exact fs_276_10
theorem fs_276_0 : fSB 276 [0] 0 0 f_276_0 := by
  unfold f_276_0
  refine fo_iload_n (k := 0) (fa_276 rfl) ?_
  refine fo_iload_n (k := 1) (fa_276 rfl) ?_
  refine fo_icmp_gt (fa_276 rfl) (pcT := 9) rfl fs_276_9 ?_
  refine fo_iload_n (k := 0) (fa_276 rfl) ?_
  exact fo_goto (fa_276 rfl) (pcT := 10) rfl fs_276_10
theorem fsm_276 : fSM 276 0 fm_276 := fs_methH (lp := [0]) (by decide) rfl ⟨fs_276_0, trivial⟩
theorem fP_2 : mj_P 2 = (0, 2, none, mcX0_find, []) := rfl
theorem fa_2 {pc : Nat} {e : mjE} (h : mj_at mcX0_find pc = some e) : fAt 2 pc e := by unfold fAt; rw [fP_2]; exact h
theorem fr_2 : (mj_P 2).2.2.1 = none := by rw [fP_2]
theorem fna_2 : (mj_P 2).2.1 = 2 := by rw [fP_2]
theorem fx_2 : 2 ≤ mj_mx.getD 2 0 := by decide
theorem fh_2 : (mj_P 2).2.2.2.2.isEmpty = true := by rw [fP_2]; rfl
theorem fs_2_94 : fSB 2 [0, 20, 41, 75] 2 94 f_2_94 := by
  unfold f_2_94
  refine fo_aload_n (k := 0) (fa_2 rfl) ?_
  refine fo_aload_n (k := 1) (fa_2 rfl) ?_
  refine fo_virtual (by decide) fna_18 (fo_call (fa_2 rfl) fNs_virtual fsm_18 (by decide) fFil_0 fna_18 fx_18 (by rw [fP_18]; rfl) fh_2 ?_)
  refine fo_aload_n (k := 0) (fa_2 rfl) ?_
  refine fo_virtual (by decide) fna_3 (fo_call (fa_2 rfl) fNs_virtual fsm_3 (by decide) fFil_0 fna_3 fx_3 (by rw [fP_3]; rfl) fh_2 ?_)
  refine fo_lconst (fa_2 rfl) rfl ?_
  refine fo_iconst (fa_2 rfl) fk_c_0 ?_
  exact fo_bad
theorem fs_2_75 : fSB 2 [0, 20, 41, 75] 2 75 f_2_75 := by
  unfold f_2_75
  refine fo_iload_n (k := 2) (fa_2 rfl) ?_
  refine fo_aload_n (k := 0) (fa_2 rfl) ?_
  refine fo_geti (fa_2 rfl) (by decide) rfl ?_
  refine fo_icmp_ge (fa_2 rfl) (pcT := 94) rfl fs_2_94 ?_
  refine fo_aload_n (k := 0) (fa_2 rfl) ?_
  refine fo_iload_n (k := 2) (fa_2 rfl) ?_
  refine fo_virtual (by decide) fna_4 (fo_call (fa_2 rfl) fNs_virtual fsm_4 (by decide) fFil_1 fna_4 fx_4 (by rw [fP_4]; rfl) fh_2 ?_)
  refine fo_iinc (k := 2) (fa_2 rfl) fk_c_1 ?_
  exact fo_goto (fa_2 rfl) (pcT := 75) rfl (fo_back (q := 75) rfl)
theorem fs_2_73 : fSB 2 [0, 20, 41, 75] 2 73 f_2_73 := by
  unfold f_2_73
  refine fo_iconst (fa_2 rfl) fk_c_0 ?_
  refine fo_istore_n (k := 2) (fa_2 rfl) ?_
  exact fs_2_75
theorem fs_2_41 : fSB 2 [0, 20, 41, 75] 2 41 f_2_41 := by
  unfold f_2_41
  refine fo_iload_n (k := 2) (fa_2 rfl) ?_
  refine fo_aload_n (k := 0) (fa_2 rfl) ?_
  refine fo_geti (fa_2 rfl) (by decide) rfl ?_
  refine fo_icmp_ge (fa_2 rfl) (pcT := 73) rfl fs_2_73 ?_
  refine fo_aload_n (k := 0) (fa_2 rfl) ?_
  refine fo_getr (fa_2 rfl) (by decide) rfl ?_
  refine fo_iload_n (k := 2) (fa_2 rfl) ?_
  refine fo_aload_n (k := 1) (fa_2 rfl) ?_
  refine fo_iload_n (k := 2) (fa_2 rfl) ?_
  refine fo_virtual (by decide) fna_15 (fo_call (fa_2 rfl) fNs_virtual fsm_15 (by decide) fFil_0 fna_15 fx_15 (by rw [fP_15]; rfl) fh_2 ?_)
  refine fo_iastore (fa_2 rfl) ?_
  refine fo_aload_n (k := 0) (fa_2 rfl) ?_
  refine fo_getr (fa_2 rfl) (by decide) rfl ?_
  refine fo_iload_n (k := 2) (fa_2 rfl) ?_
  refine fo_lconst (fa_2 rfl) rfl ?_
  refine fo_lastore (fa_2 rfl) ?_
  refine fo_iinc (k := 2) (fa_2 rfl) fk_c_1 ?_
  exact fo_goto (fa_2 rfl) (pcT := 41) rfl (fo_back (q := 41) rfl)
theorem fs_2_39 : fSB 2 [0, 20, 41, 75] 2 39 f_2_39 := by
  unfold f_2_39
  refine fo_iconst (fa_2 rfl) fk_c_0 ?_
  refine fo_istore_n (k := 2) (fa_2 rfl) ?_
  exact fs_2_41
theorem fs_2_20 : fSB 2 [0, 20, 41, 75] 2 20 f_2_20 := by
  unfold f_2_20
  refine fo_iload_n (k := 2) (fa_2 rfl) ?_
  refine fo_bipush (fa_2 rfl) fk_b_31 ?_
  refine fo_icmp_ge (fa_2 rfl) (pcT := 39) rfl fs_2_39 ?_
  refine fo_aload_n (k := 0) (fa_2 rfl) ?_
  refine fo_getr (fa_2 rfl) (by decide) rfl ?_
  refine fo_iload_n (k := 2) (fa_2 rfl) ?_
  refine fo_lconst (fa_2 rfl) rfl ?_
  refine fo_lastore (fa_2 rfl) ?_
  refine fo_iinc (k := 2) (fa_2 rfl) fk_c_1 ?_
  exact fo_goto (fa_2 rfl) (pcT := 20) rfl (fo_back (q := 20) rfl)
theorem fs_2_0 : fSB 2 [0, 20, 41, 75] 2 0 f_2_0 := by
  unfold f_2_0
  refine fo_aload_n (k := 0) (fa_2 rfl) ?_
  refine fo_aload_n (k := 1) (fa_2 rfl) ?_
  refine fo_geti (fa_2 rfl) (by decide) rfl ?_
  refine fo_bipush (fa_2 rfl) fk_b_40 ?_
  refine fo_static (by decide) (fo_call (fa_2 rfl) fNs_static fsm_276 (by decide) fFil_0 fna_276 fx_276 (by rw [fP_276]; rfl) fh_2 ?_)
  refine fo_puti (fa_2 rfl) (by decide) rfl ?_
  refine fo_aload_n (k := 0) (fa_2 rfl) ?_
  refine fo_iconst (fa_2 rfl) fk_c_0 ?_
  refine fo_puti (fa_2 rfl) (by decide) rfl ?_
  refine fo_iconst (fa_2 rfl) fk_c_0 ?_
  refine fo_istore_n (k := 2) (fa_2 rfl) ?_
  exact fs_2_20
theorem fsm_2 : fSM 2 2 fm_2 := fs_methH (lp := [0, 20, 41, 75]) (by decide) rfl ⟨fs_2_0, fs_2_20, fs_2_41, fs_2_75, trivial⟩
theorem fP_10 : mj_P 10 = (0, 1, (some .boolean), mcX0_canPart, []) := rfl
theorem fa_10 {pc : Nat} {e : mjE} (h : mj_at mcX0_canPart pc = some e) : fAt 10 pc e := by unfold fAt; rw [fP_10]; exact h
theorem fr_10 : (mj_P 10).2.2.1 = (some .boolean) := by rw [fP_10]
theorem fna_10 : (mj_P 10).2.1 = 1 := by rw [fP_10]
theorem fx_10 : 1 ≤ mj_mx.getD 10 0 := by decide
theorem fh_10 : (mj_P 10).2.2.2.2.isEmpty = true := by rw [fP_10]; rfl
theorem fs_10_0 : fSB 10 [0] 1 0 f_10_0 := by
  unfold f_10_0
  refine fo_aload_n (k := 0) (fa_10 rfl) ?_
  refine fo_aload_n (k := 0) (fa_10 rfl) ?_
  refine fo_virtual (by decide) fna_3 (fo_call (fa_10 rfl) fNs_virtual fsm_3 (by decide) fFil_0 fna_3 fx_3 (by rw [fP_3]; rfl) fh_10 ?_)
  refine fo_iconst (fa_10 rfl) fk_c_0 ?_
  exact fo_bad
theorem fsm_10 : fSM 10 1 fm_10 := fs_methH (lp := [0]) (by decide) rfl ⟨fs_10_0, trivial⟩
theorem fP_12 : mj_P 12 = (1, 1, none, mcX1_init, []) := rfl
theorem fa_12 {pc : Nat} {e : mjE} (h : mj_at mcX1_init pc = some e) : fAt 12 pc e := by unfold fAt; rw [fP_12]; exact h
theorem fr_12 : (mj_P 12).2.2.1 = none := by rw [fP_12]
theorem fna_12 : (mj_P 12).2.1 = 1 := by rw [fP_12]
theorem fx_12 : 1 ≤ mj_mx.getD 12 0 := by decide
theorem fh_12 : (mj_P 12).2.2.2.2.isEmpty = true := by rw [fP_12]; rfl
theorem fs_12_0 : fSB 12 [0] 0 0 f_12_0 := by
  unfold f_12_0
  refine fo_aload_n (k := 0) (fa_12 rfl) ?_
  refine fo_objinit (fa_12 rfl) ?_
  refine fo_aload_n (k := 0) (fa_12 rfl) ?_
  refine fo_sipush (fa_12 rfl) fk_s_160 ?_
  refine fo_newarray (fa_12 rfl) rfl (by decide) (by decide) fel_20 ?_
  refine fo_putr (fa_12 rfl) (by decide) rfl ?_
  refine fo_aload_n (k := 0) (fa_12 rfl) ?_
  refine fo_iconst (fa_12 rfl) fk_c_0 ?_
  refine fo_puti (fa_12 rfl) (by decide) rfl ?_
  refine fo_aload_n (k := 0) (fa_12 rfl) ?_
  refine fo_iconst (fa_12 rfl) fk_c_0 ?_
  refine fo_puti (fa_12 rfl) (by decide) rfl ?_
  exact fo_ret (fa_12 rfl) fr_12
theorem fsm_12 : fSM 12 0 fm_12 := fs_methH (lp := [0]) (by decide) rfl ⟨fs_12_0, trivial⟩
theorem fP_13 : mj_P 13 = (1, 2, none, mcX1_begin, []) := rfl
theorem fa_13 {pc : Nat} {e : mjE} (h : mj_at mcX1_begin pc = some e) : fAt 13 pc e := by unfold fAt; rw [fP_13]; exact h
theorem fr_13 : (mj_P 13).2.2.1 = none := by rw [fP_13]
theorem fna_13 : (mj_P 13).2.1 = 2 := by rw [fP_13]
theorem fx_13 : 2 ≤ mj_mx.getD 13 0 := by decide
theorem fh_13 : (mj_P 13).2.2.2.2.isEmpty = true := by rw [fP_13]; rfl
theorem fs_13_0 : fSB 13 [0] 0 0 f_13_0 := by
  unfold f_13_0
  refine fo_aload_n (k := 0) (fa_13 rfl) ?_
  refine fo_iload_n (k := 1) (fa_13 rfl) ?_
  refine fo_puti (fa_13 rfl) (by decide) rfl ?_
  refine fo_aload_n (k := 0) (fa_13 rfl) ?_
  refine fo_iconst (fa_13 rfl) fk_c_0 ?_
  refine fo_puti (fa_13 rfl) (by decide) rfl ?_
  exact fo_ret (fa_13 rfl) fr_13
theorem fsm_13 : fSM 13 0 fm_13 := fs_methH (lp := [0]) (by decide) rfl ⟨fs_13_0, trivial⟩
theorem fP_14 : mj_P 14 = (1, 2, none, mcX1_add, []) := rfl
theorem fa_14 {pc : Nat} {e : mjE} (h : mj_at mcX1_add pc = some e) : fAt 14 pc e := by unfold fAt; rw [fP_14]; exact h
theorem fr_14 : (mj_P 14).2.2.1 = none := by rw [fP_14]
theorem fna_14 : (mj_P 14).2.1 = 2 := by rw [fP_14]
theorem fx_14 : 2 ≤ mj_mx.getD 14 0 := by decide
theorem fh_14 : (mj_P 14).2.2.2.2.isEmpty = true := by rw [fP_14]; rfl
theorem fs_14_37 : fSB 14 [0] 0 37 f_14_37 := by
  unfold f_14_37
  exact fo_ret (fa_14 rfl) fr_14
theorem fs_14_0 : fSB 14 [0] 0 0 f_14_0 := by
  unfold f_14_0
  refine fo_aload_n (k := 0) (fa_14 rfl) ?_
  refine fo_geti (fa_14 rfl) (by decide) rfl ?_
  refine fo_if_lt (fa_14 rfl) (pcT := 37) rfl fs_14_37 ?_
  refine fo_aload_n (k := 0) (fa_14 rfl) ?_
  refine fo_geti (fa_14 rfl) (by decide) rfl ?_
  refine fo_sipush (fa_14 rfl) fk_s_160 ?_
  refine fo_icmp_ge (fa_14 rfl) (pcT := 37) rfl fs_14_37 ?_
  refine fo_aload_n (k := 0) (fa_14 rfl) ?_
  refine fo_getr (fa_14 rfl) (by decide) rfl ?_
  refine fo_aload_n (k := 0) (fa_14 rfl) ?_
  refine fo_geti (fa_14 rfl) (by decide) rfl ?_
  refine fo_iload_n (k := 1) (fa_14 rfl) ?_
  refine fo_iastore (fa_14 rfl) ?_
  refine fo_aload_n (k := 0) (fa_14 rfl) ?_
  refine fo_dup (fa_14 rfl) ?_
  refine fo_geti (fa_14 rfl) (by decide) rfl ?_
  refine fo_iconst (fa_14 rfl) fk_c_1 ?_
  refine fo_iadd (fa_14 rfl) ?_
  refine fo_puti (fa_14 rfl) (by decide) rfl ?_
  exact fs_14_37
theorem fsm_14 : fSM 14 0 fm_14 := fs_methH (lp := [0]) (by decide) rfl ⟨fs_14_0, trivial⟩
theorem fP_16 : mj_P 16 = (1, 2, none, mcX1_take, []) := rfl
theorem fa_16 {pc : Nat} {e : mjE} (h : mj_at mcX1_take pc = some e) : fAt 16 pc e := by unfold fAt; rw [fP_16]; exact h
theorem fr_16 : (mj_P 16).2.2.1 = none := by rw [fP_16]
theorem fna_16 : (mj_P 16).2.1 = 2 := by rw [fP_16]
theorem fx_16 : 2 ≤ mj_mx.getD 16 0 := by decide
theorem fh_16 : (mj_P 16).2.2.2.2.isEmpty = true := by rw [fP_16]; rfl
theorem fs_16_0 : fSB 16 [0] 0 0 f_16_0 := by
  unfold f_16_0
  refine fo_aload_n (k := 0) (fa_16 rfl) ?_
  refine fo_aload_n (k := 1) (fa_16 rfl) ?_
  refine fo_geti (fa_16 rfl) (by decide) rfl ?_
  refine fo_puti (fa_16 rfl) (by decide) rfl ?_
  refine fo_aload_n (k := 0) (fa_16 rfl) ?_
  refine fo_aload_n (k := 1) (fa_16 rfl) ?_
  refine fo_geti (fa_16 rfl) (by decide) rfl ?_
  refine fo_puti (fa_16 rfl) (by decide) rfl ?_
  refine fo_aload_n (k := 1) (fa_16 rfl) ?_
  refine fo_getr (fa_16 rfl) (by decide) rfl ?_
  refine fo_iconst (fa_16 rfl) fk_c_0 ?_
  refine fo_aload_n (k := 0) (fa_16 rfl) ?_
  refine fo_getr (fa_16 rfl) (by decide) rfl ?_
  refine fo_iconst (fa_16 rfl) fk_c_0 ?_
  refine fo_aload_n (k := 1) (fa_16 rfl) ?_
  refine fo_geti (fa_16 rfl) (by decide) rfl ?_
  refine fo_acopy (fa_16 rfl) ?_
  exact fo_ret (fa_16 rfl) fr_16
theorem fsm_16 : fSM 16 0 fm_16 := fs_methH (lp := [0]) (by decide) rfl ⟨fs_16_0, trivial⟩
theorem fP_17 : mj_P 17 = (1, 2, (some .long), mcX1_addTo, []) := rfl
theorem fa_17 {pc : Nat} {e : mjE} (h : mj_at mcX1_addTo pc = some e) : fAt 17 pc e := by unfold fAt; rw [fP_17]; exact h
theorem fr_17 : (mj_P 17).2.2.1 = (some .long) := by rw [fP_17]
theorem fna_17 : (mj_P 17).2.1 = 2 := by rw [fP_17]
theorem fx_17 : 3 ≤ mj_mx.getD 17 0 := by decide
theorem fh_17 : (mj_P 17).2.2.2.2.isEmpty = true := by rw [fP_17]; rfl
theorem fs_17_44 : fSB 17 [0, 15] 1 44 f_17_44 := by
  unfold f_17_44
  refine fo_lload_n (k := 3) (fa_17 rfl) ?_
  exact fo_lret (fa_17 rfl) fr_17
theorem fs_17_15 : fSB 17 [0, 15] 1 15 f_17_15 := by
  unfold f_17_15
  refine fo_iload (k := 5) (fa_17 rfl) ?_
  refine fo_aload_n (k := 0) (fa_17 rfl) ?_
  refine fo_geti (fa_17 rfl) (by decide) rfl ?_
  refine fo_icmp_ge (fa_17 rfl) (pcT := 44) rfl fs_17_44 ?_
  refine fo_ldc2 (fa_17 rfl) ?_
  refine fo_lload_n (k := 3) (fa_17 rfl) ?_
  refine fo_lmul (fa_17 rfl) ?_
  refine fo_aload_n (k := 0) (fa_17 rfl) ?_
  refine fo_iload (k := 5) (fa_17 rfl) ?_
  refine fo_virtual (by decide) fna_15 (fo_call (fa_17 rfl) fNs_virtual fsm_15 (by decide) fFil_0 fna_15 fx_15 (by rw [fP_15]; rfl) fh_17 ?_)
  refine fo_i2l (fa_17 rfl) ?_
  refine fo_ladd (fa_17 rfl) ?_
  refine fo_lstore_n (k := 3) (fa_17 rfl) ?_
  refine fo_iinc (k := 5) (fa_17 rfl) fk_c_1 ?_
  exact fo_goto (fa_17 rfl) (pcT := 15) rfl (fo_back (q := 15) rfl)
theorem fs_17_0 : fSB 17 [0, 15] 1 0 f_17_0 := by
  unfold f_17_0
  refine fo_ldc2 (fa_17 rfl) ?_
  refine fo_lload_n (k := 1) (fa_17 rfl) ?_
  refine fo_lmul (fa_17 rfl) ?_
  refine fo_aload_n (k := 0) (fa_17 rfl) ?_
  refine fo_geti (fa_17 rfl) (by decide) rfl ?_
  refine fo_i2l (fa_17 rfl) ?_
  refine fo_ladd (fa_17 rfl) ?_
  refine fo_lstore_n (k := 3) (fa_17 rfl) ?_
  refine fo_iconst (fa_17 rfl) fk_c_0 ?_
  refine fo_istore (k := 5) (fa_17 rfl) ?_
  exact fs_17_15
theorem fsm_17 : fSM 17 1 fm_17 := fs_methH (lp := [0, 15]) (by decide) rfl ⟨fs_17_0, fs_17_15, trivial⟩
theorem fP_19 : mj_P 19 = (1, 1, (some .int), mcX1_unionOfBlocks, []) := rfl
theorem fa_19 {pc : Nat} {e : mjE} (h : mj_at mcX1_unionOfBlocks pc = some e) : fAt 19 pc e := by unfold fAt; rw [fP_19]; exact h
theorem fr_19 : (mj_P 19).2.2.1 = (some .int) := by rw [fP_19]
theorem fna_19 : (mj_P 19).2.1 = 1 := by rw [fP_19]
theorem fx_19 : 1 ≤ mj_mx.getD 19 0 := by decide
theorem fh_19 : (mj_P 19).2.2.2.2.isEmpty = true := by rw [fP_19]; rfl
theorem fs_19_26 : fSB 19 [0, 4] 1 26 f_19_26 := by
  unfold f_19_26
  refine fo_iload_n (k := 1) (fa_19 rfl) ?_
  exact fo_iret (fa_19 rfl) fr_19 fw_int
theorem fs_19_4 : fSB 19 [0, 4] 1 4 f_19_4 := by
  unfold f_19_4
  refine fo_iload_n (k := 2) (fa_19 rfl) ?_
  refine fo_aload_n (k := 0) (fa_19 rfl) ?_
  refine fo_geti (fa_19 rfl) (by decide) rfl ?_
  refine fo_icmp_ge (fa_19 rfl) (pcT := 26) rfl fs_19_26 ?_
  refine fo_iload_n (k := 1) (fa_19 rfl) ?_
  refine fo_aload_n (k := 0) (fa_19 rfl) ?_
  refine fo_iload_n (k := 2) (fa_19 rfl) ?_
  refine fo_virtual (by decide) fna_15 (fo_call (fa_19 rfl) fNs_virtual fsm_15 (by decide) fFil_0 fna_15 fx_15 (by rw [fP_15]; rfl) fh_19 ?_)
  refine fo_ior (fa_19 rfl) ?_
  refine fo_istore_n (k := 1) (fa_19 rfl) ?_
  refine fo_iinc (k := 2) (fa_19 rfl) fk_c_1 ?_
  exact fo_goto (fa_19 rfl) (pcT := 4) rfl (fo_back (q := 4) rfl)
theorem fs_19_0 : fSB 19 [0, 4] 1 0 f_19_0 := by
  unfold f_19_0
  refine fo_iconst (fa_19 rfl) fk_c_0 ?_
  refine fo_istore_n (k := 1) (fa_19 rfl) ?_
  refine fo_iconst (fa_19 rfl) fk_c_0 ?_
  refine fo_istore_n (k := 2) (fa_19 rfl) ?_
  exact fs_19_4
theorem fsm_19 : fSM 19 1 fm_19 := fs_methH (lp := [0, 4]) (by decide) rfl ⟨fs_19_0, fs_19_4, trivial⟩
theorem fP_20 : mj_P 20 = (1, 2, (some .int), mcX1_countWith, []) := rfl
theorem fa_20 {pc : Nat} {e : mjE} (h : mj_at mcX1_countWith pc = some e) : fAt 20 pc e := by unfold fAt; rw [fP_20]; exact h
theorem fr_20 : (mj_P 20).2.2.1 = (some .int) := by rw [fP_20]
theorem fna_20 : (mj_P 20).2.1 = 2 := by rw [fP_20]
theorem fx_20 : 2 ≤ mj_mx.getD 20 0 := by decide
theorem fh_20 : (mj_P 20).2.2.2.2.isEmpty = true := by rw [fP_20]; rfl
theorem fs_20_32 : fSB 20 [0, 4] 1 32 f_20_32 := by
  unfold f_20_32
  refine fo_iload_n (k := 2) (fa_20 rfl) ?_
  exact fo_iret (fa_20 rfl) fr_20 fw_int
theorem fs_20_26 : fSB 20 [0, 4] 1 26 f_20_26 := by
  unfold f_20_26
  refine fo_iinc (k := 3) (fa_20 rfl) fk_c_1 ?_
  exact fo_goto (fa_20 rfl) (pcT := 4) rfl (fo_back (q := 4) rfl)
theorem fs_20_4 : fSB 20 [0, 4] 1 4 f_20_4 := by
  unfold f_20_4
  refine fo_iload_n (k := 3) (fa_20 rfl) ?_
  refine fo_aload_n (k := 0) (fa_20 rfl) ?_
  refine fo_geti (fa_20 rfl) (by decide) rfl ?_
  refine fo_icmp_ge (fa_20 rfl) (pcT := 32) rfl fs_20_32 ?_
  refine fo_aload_n (k := 0) (fa_20 rfl) ?_
  refine fo_iload_n (k := 3) (fa_20 rfl) ?_
  refine fo_virtual (by decide) fna_15 (fo_call (fa_20 rfl) fNs_virtual fsm_15 (by decide) fFil_0 fna_15 fx_15 (by rw [fP_15]; rfl) fh_20 ?_)
  refine fo_iload_n (k := 1) (fa_20 rfl) ?_
  refine fo_iand (fa_20 rfl) ?_
  refine fo_iload_n (k := 1) (fa_20 rfl) ?_
  refine fo_icmp_ne (fa_20 rfl) (pcT := 26) rfl fs_20_26 ?_
  refine fo_iinc (k := 2) (fa_20 rfl) fk_c_1 ?_
  exact fs_20_26
theorem fs_20_0 : fSB 20 [0, 4] 1 0 f_20_0 := by
  unfold f_20_0
  refine fo_iconst (fa_20 rfl) fk_c_0 ?_
  refine fo_istore_n (k := 2) (fa_20 rfl) ?_
  refine fo_iconst (fa_20 rfl) fk_c_0 ?_
  refine fo_istore_n (k := 3) (fa_20 rfl) ?_
  exact fs_20_4
theorem fsm_20 : fSM 20 1 fm_20 := fs_methH (lp := [0, 4]) (by decide) rfl ⟨fs_20_0, fs_20_4, trivial⟩
theorem fP_272 : mj_P 272 = (10, 1, (some .int), mcJ6_bitCount_0f7a4, []) := rfl
theorem fa_272 {pc : Nat} {e : mjE} (h : mj_at mcJ6_bitCount_0f7a4 pc = some e) : fAt 272 pc e := by unfold fAt; rw [fP_272]; exact h
theorem fr_272 : (mj_P 272).2.2.1 = (some .int) := by rw [fP_272]
theorem fna_272 : (mj_P 272).2.1 = 1 := by rw [fP_272]
theorem fx_272 : 1 ≤ mj_mx.getD 272 0 := by decide
theorem fh_272 : (mj_P 272).2.2.2.2.isEmpty = true := by rw [fP_272]; rfl
theorem fs_272_0 : fSB 272 [0] 0 0 f_272_0 := by
  unfold f_272_0
  refine fo_iload_n (k := 0) (fa_272 rfl) ?_
  refine fo_iload_n (k := 0) (fa_272 rfl) ?_
  refine fo_iconst (fa_272 rfl) fk_c_1 ?_
  refine fo_iushr (fa_272 rfl) ?_
  refine fo_ldc_w (fa_272 rfl) ?_
  refine fo_iand (fa_272 rfl) ?_
  refine fo_isub (fa_272 rfl) ?_
  refine fo_istore_n (k := 0) (fa_272 rfl) ?_
  refine fo_iload_n (k := 0) (fa_272 rfl) ?_
  refine fo_ldc_w (fa_272 rfl) ?_
  refine fo_iand (fa_272 rfl) ?_
  refine fo_iload_n (k := 0) (fa_272 rfl) ?_
  refine fo_iconst (fa_272 rfl) fk_c_2 ?_
  refine fo_iushr (fa_272 rfl) ?_
  refine fo_ldc_w (fa_272 rfl) ?_
  refine fo_iand (fa_272 rfl) ?_
  refine fo_iadd (fa_272 rfl) ?_
  refine fo_istore_n (k := 0) (fa_272 rfl) ?_
  refine fo_iload_n (k := 0) (fa_272 rfl) ?_
  refine fo_iload_n (k := 0) (fa_272 rfl) ?_
  refine fo_iconst (fa_272 rfl) fk_c_4 ?_
  refine fo_iushr (fa_272 rfl) ?_
  refine fo_iadd (fa_272 rfl) ?_
  refine fo_ldc_w (fa_272 rfl) ?_
  refine fo_iand (fa_272 rfl) ?_
  refine fo_istore_n (k := 0) (fa_272 rfl) ?_
  refine fo_iload_n (k := 0) (fa_272 rfl) ?_
  refine fo_iload_n (k := 0) (fa_272 rfl) ?_
  refine fo_bipush (fa_272 rfl) fk_b_8 ?_
  refine fo_iushr (fa_272 rfl) ?_
  refine fo_iadd (fa_272 rfl) ?_
  refine fo_istore_n (k := 0) (fa_272 rfl) ?_
  refine fo_iload_n (k := 0) (fa_272 rfl) ?_
  refine fo_iload_n (k := 0) (fa_272 rfl) ?_
  refine fo_bipush (fa_272 rfl) fk_b_16 ?_
  refine fo_iushr (fa_272 rfl) ?_
  refine fo_iadd (fa_272 rfl) ?_
  refine fo_istore_n (k := 0) (fa_272 rfl) ?_
  refine fo_iload_n (k := 0) (fa_272 rfl) ?_
  refine fo_bipush (fa_272 rfl) fk_b_63 ?_
  refine fo_iand (fa_272 rfl) ?_
  exact fo_iret (fa_272 rfl) fr_272 fw_int
theorem fsm_272 : fSM 272 0 fm_272 := fs_methH (lp := [0]) (by decide) rfl ⟨fs_272_0, trivial⟩
theorem fP_21 : mj_P 21 = (1, 1, (some .int), mcX1_sumOfSizes, []) := rfl
theorem fa_21 {pc : Nat} {e : mjE} (h : mj_at mcX1_sumOfSizes pc = some e) : fAt 21 pc e := by unfold fAt; rw [fP_21]; exact h
theorem fr_21 : (mj_P 21).2.2.1 = (some .int) := by rw [fP_21]
theorem fna_21 : (mj_P 21).2.1 = 1 := by rw [fP_21]
theorem fx_21 : 1 ≤ mj_mx.getD 21 0 := by decide
theorem fh_21 : (mj_P 21).2.2.2.2.isEmpty = true := by rw [fP_21]; rfl
theorem fs_21_29 : fSB 21 [0, 4] 1 29 f_21_29 := by
  unfold f_21_29
  refine fo_iload_n (k := 1) (fa_21 rfl) ?_
  exact fo_iret (fa_21 rfl) fr_21 fw_int
theorem fs_21_4 : fSB 21 [0, 4] 1 4 f_21_4 := by
  unfold f_21_4
  refine fo_iload_n (k := 2) (fa_21 rfl) ?_
  refine fo_aload_n (k := 0) (fa_21 rfl) ?_
  refine fo_geti (fa_21 rfl) (by decide) rfl ?_
  refine fo_icmp_ge (fa_21 rfl) (pcT := 29) rfl fs_21_29 ?_
  refine fo_iload_n (k := 1) (fa_21 rfl) ?_
  refine fo_aload_n (k := 0) (fa_21 rfl) ?_
  refine fo_iload_n (k := 2) (fa_21 rfl) ?_
  refine fo_virtual (by decide) fna_15 (fo_call (fa_21 rfl) fNs_virtual fsm_15 (by decide) fFil_0 fna_15 fx_15 (by rw [fP_15]; rfl) fh_21 ?_)
  refine fo_static (by decide) (fo_call (fa_21 rfl) fNs_static fsm_272 (by decide) fFil_0 fna_272 fx_272 (by rw [fP_272]; rfl) fh_21 ?_)
  refine fo_iadd (fa_21 rfl) ?_
  refine fo_istore_n (k := 1) (fa_21 rfl) ?_
  refine fo_iinc (k := 2) (fa_21 rfl) fk_c_1 ?_
  exact fo_goto (fa_21 rfl) (pcT := 4) rfl (fo_back (q := 4) rfl)
theorem fs_21_0 : fSB 21 [0, 4] 1 0 f_21_0 := by
  unfold f_21_0
  refine fo_iconst (fa_21 rfl) fk_c_0 ?_
  refine fo_istore_n (k := 1) (fa_21 rfl) ?_
  refine fo_iconst (fa_21 rfl) fk_c_0 ?_
  refine fo_istore_n (k := 2) (fa_21 rfl) ?_
  exact fs_21_4
theorem fsm_21 : fSM 21 1 fm_21 := fs_methH (lp := [0, 4]) (by decide) rfl ⟨fs_21_0, fs_21_4, trivial⟩
theorem fP_22 : mj_P 22 = (1, 1, (some .int), mcX1_countMetPairs, []) := rfl
theorem fa_22 {pc : Nat} {e : mjE} (h : mj_at mcX1_countMetPairs pc = some e) : fAt 22 pc e := by unfold fAt; rw [fP_22]; exact h
theorem fr_22 : (mj_P 22).2.2.1 = (some .int) := by rw [fP_22]
theorem fna_22 : (mj_P 22).2.1 = 1 := by rw [fP_22]
theorem fx_22 : 1 ≤ mj_mx.getD 22 0 := by decide
theorem fh_22 : (mj_P 22).2.2.2.2.isEmpty = true := by rw [fP_22]; rfl
theorem fs_22_76 : fSB 22 [0, 4, 17] 1 76 f_22_76 := by
  unfold f_22_76
  refine fo_iload_n (k := 1) (fa_22 rfl) ?_
  exact fo_iret (fa_22 rfl) fr_22 fw_int
theorem fs_22_54 : fSB 22 [0, 4, 17] 1 54 f_22_54 := by
  unfold f_22_54
  refine fo_iload_n (k := 1) (fa_22 rfl) ?_
  refine fo_iload_n (k := 3) (fa_22 rfl) ?_
  refine fo_iload_n (k := 2) (fa_22 rfl) ?_
  refine fo_iconst (fa_22 rfl) fk_c_1 ?_
  refine fo_iadd (fa_22 rfl) ?_
  refine fo_static (by decide) (fo_callH (fa_22 rfl) fNs_static fsm_165 (by decide) fFil_0 fna_165 fx_165 (Or.inl rfl) fHd_nil ?_)
  refine fo_iconst (fa_22 rfl) fk_c_m1 ?_
  refine fo_ixor (fa_22 rfl) ?_
  refine fo_iand (fa_22 rfl) ?_
  refine fo_static (by decide) (fo_call (fa_22 rfl) fNs_static fsm_272 (by decide) fFil_0 fna_272 fx_272 (by rw [fP_272]; rfl) fh_22 ?_)
  refine fo_iadd (fa_22 rfl) ?_
  refine fo_istore_n (k := 1) (fa_22 rfl) ?_
  refine fo_iinc (k := 2) (fa_22 rfl) fk_c_1 ?_
  exact fo_goto (fa_22 rfl) (pcT := 4) rfl (fo_back (q := 4) rfl)
theorem fs_22_48 : fSB 22 [0, 4, 17] 1 48 f_22_48 := by
  unfold f_22_48
  refine fo_iinc (k := 4) (fa_22 rfl) fk_c_1 ?_
  exact fo_goto (fa_22 rfl) (pcT := 17) rfl (fo_back (q := 17) rfl)
theorem fs_22_17 : fSB 22 [0, 4, 17] 1 17 f_22_17 := by
  unfold f_22_17
  refine fo_iload (k := 4) (fa_22 rfl) ?_
  refine fo_aload_n (k := 0) (fa_22 rfl) ?_
  refine fo_geti (fa_22 rfl) (by decide) rfl ?_
  refine fo_icmp_ge (fa_22 rfl) (pcT := 54) rfl fs_22_54 ?_
  refine fo_aload_n (k := 0) (fa_22 rfl) ?_
  refine fo_iload (k := 4) (fa_22 rfl) ?_
  refine fo_virtual (by decide) fna_15 (fo_call (fa_22 rfl) fNs_virtual fsm_15 (by decide) fFil_0 fna_15 fx_15 (by rw [fP_15]; rfl) fh_22 ?_)
  refine fo_iload_n (k := 2) (fa_22 rfl) ?_
  refine fo_static (by decide) (fo_callH (fa_22 rfl) fNs_static fsm_166 (by decide) fFil_0 fna_166 fx_166 (Or.inl rfl) fHd_nil ?_)
  refine fo_if_eq (fa_22 rfl) (pcT := 48) rfl fs_22_48 ?_
  refine fo_iload_n (k := 3) (fa_22 rfl) ?_
  refine fo_aload_n (k := 0) (fa_22 rfl) ?_
  refine fo_iload (k := 4) (fa_22 rfl) ?_
  refine fo_virtual (by decide) fna_15 (fo_call (fa_22 rfl) fNs_virtual fsm_15 (by decide) fFil_0 fna_15 fx_15 (by rw [fP_15]; rfl) fh_22 ?_)
  refine fo_ior (fa_22 rfl) ?_
  refine fo_istore_n (k := 3) (fa_22 rfl) ?_
  exact fs_22_48
theorem fs_22_4 : fSB 22 [0, 4, 17] 1 4 f_22_4 := by
  unfold f_22_4
  refine fo_iload_n (k := 2) (fa_22 rfl) ?_
  refine fo_aload_n (k := 0) (fa_22 rfl) ?_
  refine fo_geti (fa_22 rfl) (by decide) rfl ?_
  refine fo_icmp_ge (fa_22 rfl) (pcT := 76) rfl fs_22_76 ?_
  refine fo_iconst (fa_22 rfl) fk_c_0 ?_
  refine fo_istore_n (k := 3) (fa_22 rfl) ?_
  refine fo_iconst (fa_22 rfl) fk_c_0 ?_
  refine fo_istore (k := 4) (fa_22 rfl) ?_
  exact fs_22_17
theorem fs_22_0 : fSB 22 [0, 4, 17] 1 0 f_22_0 := by
  unfold f_22_0
  refine fo_iconst (fa_22 rfl) fk_c_0 ?_
  refine fo_istore_n (k := 1) (fa_22 rfl) ?_
  refine fo_iconst (fa_22 rfl) fk_c_0 ?_
  refine fo_istore_n (k := 2) (fa_22 rfl) ?_
  exact fs_22_4
theorem fsm_22 : fSM 22 1 fm_22 := fs_methH (lp := [0, 4, 17]) (by decide) rfl ⟨fs_22_0, fs_22_4, fs_22_17, trivial⟩
theorem fP_23 : mj_P 23 = (1, 1, (some .boolean), mcX1_isOfTriples, []) := rfl
theorem fa_23 {pc : Nat} {e : mjE} (h : mj_at mcX1_isOfTriples pc = some e) : fAt 23 pc e := by unfold fAt; rw [fP_23]; exact h
theorem fr_23 : (mj_P 23).2.2.1 = (some .boolean) := by rw [fP_23]
theorem fna_23 : (mj_P 23).2.1 = 1 := by rw [fP_23]
theorem fx_23 : 1 ≤ mj_mx.getD 23 0 := by decide
theorem fh_23 : (mj_P 23).2.2.2.2.isEmpty = true := by rw [fP_23]; rfl
theorem fs_23_30 : fSB 23 [0, 2] 1 30 f_23_30 := by
  unfold f_23_30
  refine fo_iconst (fa_23 rfl) fk_c_1 ?_
  exact fo_iret (fa_23 rfl) fr_23 fw_bool
theorem fs_23_24 : fSB 23 [0, 2] 1 24 f_23_24 := by
  unfold f_23_24
  refine fo_iinc (k := 1) (fa_23 rfl) fk_c_1 ?_
  exact fo_goto (fa_23 rfl) (pcT := 2) rfl (fo_back (q := 2) rfl)
theorem fs_23_2 : fSB 23 [0, 2] 1 2 f_23_2 := by
  unfold f_23_2
  refine fo_iload_n (k := 1) (fa_23 rfl) ?_
  refine fo_aload_n (k := 0) (fa_23 rfl) ?_
  refine fo_geti (fa_23 rfl) (by decide) rfl ?_
  refine fo_icmp_ge (fa_23 rfl) (pcT := 30) rfl fs_23_30 ?_
  refine fo_aload_n (k := 0) (fa_23 rfl) ?_
  refine fo_iload_n (k := 1) (fa_23 rfl) ?_
  refine fo_virtual (by decide) fna_15 (fo_call (fa_23 rfl) fNs_virtual fsm_15 (by decide) fFil_0 fna_15 fx_15 (by rw [fP_15]; rfl) fh_23 ?_)
  refine fo_static (by decide) (fo_call (fa_23 rfl) fNs_static fsm_272 (by decide) fFil_0 fna_272 fx_272 (by rw [fP_272]; rfl) fh_23 ?_)
  refine fo_iconst (fa_23 rfl) fk_c_3 ?_
  refine fo_icmp_eq (fa_23 rfl) (pcT := 24) rfl fs_23_24 ?_
  refine fo_iconst (fa_23 rfl) fk_c_0 ?_
  exact fo_iret (fa_23 rfl) fr_23 fw_bool
theorem fs_23_0 : fSB 23 [0, 2] 1 0 f_23_0 := by
  unfold f_23_0
  refine fo_iconst (fa_23 rfl) fk_c_0 ?_
  refine fo_istore_n (k := 1) (fa_23 rfl) ?_
  exact fs_23_2
theorem fsm_23 : fSM 23 1 fm_23 := fs_methH (lp := [0, 2]) (by decide) rfl ⟨fs_23_0, fs_23_2, trivial⟩
theorem fP_25 : mj_P 25 = (1, 1, (some .int), mcX1_firstFault, []) := rfl
theorem fa_25 {pc : Nat} {e : mjE} (h : mj_at mcX1_firstFault pc = some e) : fAt 25 pc e := by unfold fAt; rw [fP_25]; exact h
theorem fr_25 : (mj_P 25).2.2.1 = (some .int) := by rw [fP_25]
theorem fna_25 : (mj_P 25).2.1 = 1 := by rw [fP_25]
theorem fx_25 : 1 ≤ mj_mx.getD 25 0 := by decide
theorem fh_25 : (mj_P 25).2.2.2.2.isEmpty = true := by rw [fP_25]; rfl
theorem fs_25_62 : fSB 25 [0, 8, 20] 2 62 f_25_62 := by
  unfold f_25_62
  refine fo_iconst (fa_25 rfl) fk_c_m1 ?_
  exact fo_iret (fa_25 rfl) fr_25 fw_int
theorem fs_25_56 : fSB 25 [0, 8, 20] 2 56 f_25_56 := by
  unfold f_25_56
  refine fo_iinc (k := 2) (fa_25 rfl) fk_c_1 ?_
  exact fo_goto (fa_25 rfl) (pcT := 8) rfl (fo_back (q := 8) rfl)
theorem fs_25_50 : fSB 25 [0, 8, 20] 2 50 f_25_50 := by
  unfold f_25_50
  refine fo_iinc (k := 3) (fa_25 rfl) fk_c_1 ?_
  exact fo_goto (fa_25 rfl) (pcT := 20) rfl (fo_back (q := 20) rfl)
theorem fs_25_20 : fSB 25 [0, 8, 20] 2 20 f_25_20 := by
  unfold f_25_20
  refine fo_iload_n (k := 3) (fa_25 rfl) ?_
  refine fo_aload_n (k := 0) (fa_25 rfl) ?_
  refine fo_geti (fa_25 rfl) (by decide) rfl ?_
  refine fo_icmp_ge (fa_25 rfl) (pcT := 56) rfl fs_25_56 ?_
  refine fo_aload_n (k := 0) (fa_25 rfl) ?_
  refine fo_iconst (fa_25 rfl) fk_c_1 ?_
  refine fo_iload_n (k := 2) (fa_25 rfl) ?_
  refine fo_ishl (fa_25 rfl) ?_
  refine fo_iconst (fa_25 rfl) fk_c_1 ?_
  refine fo_iload_n (k := 3) (fa_25 rfl) ?_
  refine fo_ishl (fa_25 rfl) ?_
  refine fo_ior (fa_25 rfl) ?_
  refine fo_virtual (by decide) fna_20 (fo_call (fa_25 rfl) fNs_virtual fsm_20 (by decide) fFil_2 fna_20 fx_20 (by rw [fP_20]; rfl) fh_25 ?_)
  refine fo_iload_n (k := 1) (fa_25 rfl) ?_
  refine fo_icmp_eq (fa_25 rfl) (pcT := 50) rfl fs_25_50 ?_
  refine fo_bipush (fa_25 rfl) fk_b_100 ?_
  refine fo_iload_n (k := 2) (fa_25 rfl) ?_
  refine fo_imul (fa_25 rfl) ?_
  refine fo_iload_n (k := 3) (fa_25 rfl) ?_
  refine fo_iadd (fa_25 rfl) ?_
  exact fo_iret (fa_25 rfl) fr_25 fw_int
theorem fs_25_8 : fSB 25 [0, 8, 20] 2 8 f_25_8 := by
  unfold f_25_8
  refine fo_iload_n (k := 2) (fa_25 rfl) ?_
  refine fo_aload_n (k := 0) (fa_25 rfl) ?_
  refine fo_geti (fa_25 rfl) (by decide) rfl ?_
  refine fo_icmp_ge (fa_25 rfl) (pcT := 62) rfl fs_25_62 ?_
  refine fo_iload_n (k := 2) (fa_25 rfl) ?_
  refine fo_iconst (fa_25 rfl) fk_c_1 ?_
  refine fo_iadd (fa_25 rfl) ?_
  refine fo_istore_n (k := 3) (fa_25 rfl) ?_
  exact fs_25_20
theorem fs_25_0 : fSB 25 [0, 8, 20] 2 0 f_25_0 := by
  unfold f_25_0
  refine fo_aload_n (k := 0) (fa_25 rfl) ?_
  refine fo_iconst (fa_25 rfl) fk_c_3 ?_
  refine fo_virtual (by decide) fna_20 (fo_call (fa_25 rfl) fNs_virtual fsm_20 (by decide) fFil_2 fna_20 fx_20 (by rw [fP_20]; rfl) fh_25 ?_)
  refine fo_istore_n (k := 1) (fa_25 rfl) ?_
  refine fo_iconst (fa_25 rfl) fk_c_0 ?_
  refine fo_istore_n (k := 2) (fa_25 rfl) ?_
  exact fs_25_8
theorem fsm_25 : fSM 25 2 fm_25 := fs_methH (lp := [0, 8, 20]) (by decide) rfl ⟨fs_25_0, fs_25_8, fs_25_20, trivial⟩
theorem fP_24 : mj_P 24 = (1, 1, (some .int), mcX1_evenPairs, []) := rfl
theorem fa_24 {pc : Nat} {e : mjE} (h : mj_at mcX1_evenPairs pc = some e) : fAt 24 pc e := by unfold fAt; rw [fP_24]; exact h
theorem fr_24 : (mj_P 24).2.2.1 = (some .int) := by rw [fP_24]
theorem fna_24 : (mj_P 24).2.1 = 1 := by rw [fP_24]
theorem fx_24 : 1 ≤ mj_mx.getD 24 0 := by decide
theorem fh_24 : (mj_P 24).2.2.2.2.isEmpty = true := by rw [fP_24]; rfl
theorem fs_24_70 : fSB 24 [0, 26] 3 70 f_24_70 := by
  unfold f_24_70
  exact fo_iret (fa_24 rfl) fr_24 fw_int
theorem fs_24_69 : fSB 24 [0, 26] 3 69 f_24_69 := by
  unfold f_24_69
  refine fo_iconst (fa_24 rfl) fk_c_0 ?_
  exact fs_24_70
theorem fs_24_54 : fSB 24 [0, 26] 3 54 f_24_54 := by
  unfold f_24_54
  refine fo_aload_n (k := 0) (fa_24 rfl) ?_
  refine fo_virtual (by decide) fna_25 (fo_call (fa_24 rfl) fNs_virtual fsm_25 (by decide) fFil_3 fna_25 fx_25 (by rw [fP_25]; rfl) fh_24 ?_)
  refine fo_if_ge (fa_24 rfl) (pcT := 69) rfl fs_24_69 ?_
  refine fo_aload_n (k := 0) (fa_24 rfl) ?_
  refine fo_iconst (fa_24 rfl) fk_c_3 ?_
  refine fo_virtual (by decide) fna_20 (fo_call (fa_24 rfl) fNs_virtual fsm_20 (by decide) fFil_2 fna_20 fx_20 (by rw [fP_20]; rfl) fh_24 ?_)
  exact fo_goto (fa_24 rfl) (pcT := 70) rfl fs_24_70
theorem fs_24_48 : fSB 24 [0, 26] 3 48 f_24_48 := by
  unfold f_24_48
  refine fo_iinc (k := 2) (fa_24 rfl) fk_c_1 ?_
  exact fo_goto (fa_24 rfl) (pcT := 26) rfl (fo_back (q := 26) rfl)
theorem fs_24_26 : fSB 24 [0, 26] 3 26 f_24_26 := by
  unfold f_24_26
  refine fo_iload_n (k := 2) (fa_24 rfl) ?_
  refine fo_aload_n (k := 0) (fa_24 rfl) ?_
  refine fo_geti (fa_24 rfl) (by decide) rfl ?_
  refine fo_icmp_ge (fa_24 rfl) (pcT := 54) rfl fs_24_54 ?_
  refine fo_aload_n (k := 0) (fa_24 rfl) ?_
  refine fo_iload_n (k := 2) (fa_24 rfl) ?_
  refine fo_virtual (by decide) fna_15 (fo_call (fa_24 rfl) fNs_virtual fsm_15 (by decide) fFil_0 fna_15 fx_15 (by rw [fP_15]; rfl) fh_24 ?_)
  refine fo_static (by decide) (fo_call (fa_24 rfl) fNs_static fsm_272 (by decide) fFil_0 fna_272 fx_272 (by rw [fP_272]; rfl) fh_24 ?_)
  refine fo_iload_n (k := 1) (fa_24 rfl) ?_
  refine fo_icmp_eq (fa_24 rfl) (pcT := 48) rfl fs_24_48 ?_
  refine fo_iconst (fa_24 rfl) fk_c_0 ?_
  exact fo_iret (fa_24 rfl) fr_24 fw_int
theorem fs_24_24 : fSB 24 [0, 26] 3 24 f_24_24 := by
  unfold f_24_24
  refine fo_iconst (fa_24 rfl) fk_c_1 ?_
  refine fo_istore_n (k := 2) (fa_24 rfl) ?_
  exact fs_24_26
theorem fs_24_22 : fSB 24 [0, 26] 3 22 f_24_22 := by
  unfold f_24_22
  refine fo_iconst (fa_24 rfl) fk_c_0 ?_
  exact fo_iret (fa_24 rfl) fr_24 fw_int
theorem fs_24_0 : fSB 24 [0, 26] 3 0 f_24_0 := by
  unfold f_24_0
  refine fo_aload_n (k := 0) (fa_24 rfl) ?_
  refine fo_iconst (fa_24 rfl) fk_c_0 ?_
  refine fo_virtual (by decide) fna_15 (fo_call (fa_24 rfl) fNs_virtual fsm_15 (by decide) fFil_0 fna_15 fx_15 (by rw [fP_15]; rfl) fh_24 ?_)
  refine fo_static (by decide) (fo_call (fa_24 rfl) fNs_static fsm_272 (by decide) fFil_0 fna_272 fx_272 (by rw [fP_272]; rfl) fh_24 ?_)
  refine fo_istore_n (k := 1) (fa_24 rfl) ?_
  refine fo_iload_n (k := 1) (fa_24 rfl) ?_
  refine fo_iconst (fa_24 rfl) fk_c_2 ?_
  refine fo_icmp_lt (fa_24 rfl) (pcT := 22) rfl fs_24_22 ?_
  refine fo_iload_n (k := 1) (fa_24 rfl) ?_
  refine fo_aload_n (k := 0) (fa_24 rfl) ?_
  refine fo_geti (fa_24 rfl) (by decide) rfl ?_
  refine fo_icmp_lt (fa_24 rfl) (pcT := 24) rfl fs_24_24 ?_
  exact fs_24_22
theorem fsm_24 : fSM 24 3 fm_24 := fs_methH (lp := [0, 26]) (by decide) rfl ⟨fs_24_0, fs_24_26, trivial⟩
theorem fP_26 : mj_P 26 = (1, 3, none, mcX1_makeShift, []) := rfl
theorem fa_26 {pc : Nat} {e : mjE} (h : mj_at mcX1_makeShift pc = some e) : fAt 26 pc e := by unfold fAt; rw [fP_26]; exact h
theorem fr_26 : (mj_P 26).2.2.1 = none := by rw [fP_26]
theorem fna_26 : (mj_P 26).2.1 = 3 := by rw [fP_26]
theorem fx_26 : 3 ≤ mj_mx.getD 26 0 := by decide
theorem fh_26 : (mj_P 26).2.2.2.2.isEmpty = true := by rw [fP_26]; rfl
theorem fs_26_42 : fSB 26 [0, 10] 1 42 f_26_42 := by
  unfold f_26_42
  exact fo_ret (fa_26 rfl) fr_26
theorem fs_26_10 : fSB 26 [0, 10] 1 10 f_26_10 := by
  unfold f_26_10
  refine fo_iload (k := 4) (fa_26 rfl) ?_
  refine fo_iload_n (k := 1) (fa_26 rfl) ?_
  refine fo_icmp_ge (fa_26 rfl) (pcT := 42) rfl fs_26_42 ?_
  refine fo_shA (by decide) ?_
  refine fo_iinc (k := 4) (fa_26 rfl) fk_c_1 ?_
  exact fo_goto (fa_26 rfl) (pcT := 10) rfl (fo_back (q := 10) rfl)
theorem fs_26_0 : fSB 26 [0, 10] 1 0 f_26_0 := by
  unfold f_26_0
  refine fo_aload_n (k := 0) (fa_26 rfl) ?_
  refine fo_iload_n (k := 1) (fa_26 rfl) ?_
  refine fo_virtual (by decide) fna_13 (fo_call (fa_26 rfl) fNs_virtual fsm_13 (by decide) fFil_0 fna_13 fx_13 (by rw [fP_13]; rfl) fh_26 ?_)
  refine fo_iload_n (k := 2) (fa_26 rfl) ?_
  refine fo_istore_n (k := 3) (fa_26 rfl) ?_
  refine fo_iconst (fa_26 rfl) fk_c_0 ?_
  refine fo_istore (k := 4) (fa_26 rfl) ?_
  refine fo_wkF ?_
  refine fo_wkI ?_
  exact fs_26_10
theorem fsm_26 : fSM 26 1 fm_26 := fs_methH (lp := [0, 10]) (by decide) rfl ⟨fs_26_0, fs_26_10, trivial⟩
theorem fP_274 : mj_P 274 = (12, 2, (some .int), mcJ9_floorMod_7cf53, []) := rfl
theorem fa_274 {pc : Nat} {e : mjE} (h : mj_at mcJ9_floorMod_7cf53 pc = some e) : fAt 274 pc e := by unfold fAt; rw [fP_274]; exact h
theorem fr_274 : (mj_P 274).2.2.1 = (some .int) := by rw [fP_274]
theorem fna_274 : (mj_P 274).2.1 = 2 := by rw [fP_274]
theorem fx_274 : 2 ≤ mj_mx.getD 274 0 := by decide
theorem fh_274 : (mj_P 274).2.2.2.2.isEmpty = true := by rw [fP_274]; rfl
theorem fs_274_18 : fSB 274 [0] 0 18 f_274_18 := by
  unfold f_274_18
  refine fo_iload_n (k := 2) (fa_274 rfl) ?_
  exact fo_iret (fa_274 rfl) fr_274 fw_int
theorem fs_274_0 : fSB 274 [0] 0 0 f_274_0 := by
  unfold f_274_0
  refine fo_iload_n (k := 0) (fa_274 rfl) ?_
  refine fo_iload_n (k := 1) (fa_274 rfl) ?_
  refine fo_irem (fa_274 rfl) ?_
  refine fo_istore_n (k := 2) (fa_274 rfl) ?_
  refine fo_iload_n (k := 0) (fa_274 rfl) ?_
  refine fo_iload_n (k := 1) (fa_274 rfl) ?_
  refine fo_ixor (fa_274 rfl) ?_
  refine fo_if_ge (fa_274 rfl) (pcT := 18) rfl fs_274_18 ?_
  refine fo_iload_n (k := 2) (fa_274 rfl) ?_
  refine fo_if_eq (fa_274 rfl) (pcT := 18) rfl fs_274_18 ?_
  refine fo_iload_n (k := 2) (fa_274 rfl) ?_
  refine fo_iload_n (k := 1) (fa_274 rfl) ?_
  refine fo_iadd (fa_274 rfl) ?_
  exact fo_iret (fa_274 rfl) fr_274 fw_int
theorem fsm_274 : fSM 274 0 fm_274 := fs_methH (lp := [0]) (by decide) rfl ⟨fs_274_0, trivial⟩
theorem fP_164 : mj_P 164 = (7, 2, (some .int), mcX7_modulo, []) := rfl
theorem fa_164 {pc : Nat} {e : mjE} (h : mj_at mcX7_modulo pc = some e) : fAt 164 pc e := by unfold fAt; rw [fP_164]; exact h
theorem fr_164 : (mj_P 164).2.2.1 = (some .int) := by rw [fP_164]
theorem fna_164 : (mj_P 164).2.1 = 2 := by rw [fP_164]
theorem fx_164 : 2 ≤ mj_mx.getD 164 0 := by decide
theorem fh_164 : (mj_P 164).2.2.2.2.isEmpty = true := by rw [fP_164]; rfl
theorem fs_164_14 : fSB 164 [0] 1 14 f_164_14 := by
  unfold f_164_14
  exact fo_iret (fa_164 rfl) fr_164 fw_int
theorem fs_164_9 : fSB 164 [0] 1 9 f_164_9 := by
  unfold f_164_9
  refine fo_iload_n (k := 0) (fa_164 rfl) ?_
  refine fo_iload_n (k := 1) (fa_164 rfl) ?_
  refine fo_static (by decide) (fo_call (fa_164 rfl) fNs_static fsm_274 (by decide) fFil_1 fna_274 fx_274 (by rw [fP_274]; rfl) fh_164 ?_)
  exact fs_164_14
theorem fs_164_0 : fSB 164 [0] 1 0 f_164_0 := by
  unfold f_164_0
  refine fo_iload_n (k := 1) (fa_164 rfl) ?_
  refine fo_iconst (fa_164 rfl) fk_c_1 ?_
  refine fo_icmp_ge (fa_164 rfl) (pcT := 9) rfl fs_164_9 ?_
  refine fo_iconst (fa_164 rfl) fk_c_0 ?_
  exact fo_goto (fa_164 rfl) (pcT := 14) rfl fs_164_14
theorem fsm_164 : fSM 164 1 fm_164 := fs_methH (lp := [0]) (by decide) rfl ⟨fs_164_0, trivial⟩
theorem fP_44 : mj_P 44 = (2, 3, (some .int), mcX2_sum, []) := rfl
theorem fa_44 {pc : Nat} {e : mjE} (h : mj_at mcX2_sum pc = some e) : fAt 44 pc e := by unfold fAt; rw [fP_44]; exact h
theorem fr_44 : (mj_P 44).2.2.1 = (some .int) := by rw [fP_44]
theorem fna_44 : (mj_P 44).2.1 = 3 := by rw [fP_44]
theorem fx_44 : 3 ≤ mj_mx.getD 44 0 := by decide
theorem fh_44 : (mj_P 44).2.2.2.2.isEmpty = true := by rw [fP_44]; rfl
theorem fs_44_43 : fSB 44 [0] 2 43 f_44_43 := by
  unfold f_44_43
  refine fo_iload_n (k := 1) (fa_44 rfl) ?_
  refine fo_iload_n (k := 2) (fa_44 rfl) ?_
  refine fo_iadd (fa_44 rfl) ?_
  refine fo_iload_n (k := 0) (fa_44 rfl) ?_
  refine fo_static (by decide) (fo_callH (fa_44 rfl) fNs_static fsm_164 (by decide) fFil_0 fna_164 fx_164 (Or.inl rfl) fHd_nil ?_)
  exact fo_iret (fa_44 rfl) fr_44 fw_int
theorem fs_44_15 : fSB 44 [0] 2 15 f_44_15 := by
  unfold f_44_15
  refine fo_iload_n (k := 0) (fa_44 rfl) ?_
  refine fo_bipush (fa_44 rfl) fk_b_9 ?_
  refine fo_icmp_ne (fa_44 rfl) (pcT := 43) rfl fs_44_43 ?_
  refine fo_iconst (fa_44 rfl) fk_c_3 ?_
  refine fo_iload_n (k := 1) (fa_44 rfl) ?_
  refine fo_iconst (fa_44 rfl) fk_c_3 ?_
  refine fo_idiv (fa_44 rfl) ?_
  refine fo_iload_n (k := 2) (fa_44 rfl) ?_
  refine fo_iconst (fa_44 rfl) fk_c_3 ?_
  refine fo_idiv (fa_44 rfl) ?_
  refine fo_iadd (fa_44 rfl) ?_
  refine fo_iconst (fa_44 rfl) fk_c_3 ?_
  refine fo_irem (fa_44 rfl) ?_
  refine fo_imul (fa_44 rfl) ?_
  refine fo_iload_n (k := 1) (fa_44 rfl) ?_
  refine fo_iconst (fa_44 rfl) fk_c_3 ?_
  refine fo_irem (fa_44 rfl) ?_
  refine fo_iload_n (k := 2) (fa_44 rfl) ?_
  refine fo_iconst (fa_44 rfl) fk_c_3 ?_
  refine fo_irem (fa_44 rfl) ?_
  refine fo_iadd (fa_44 rfl) ?_
  refine fo_iconst (fa_44 rfl) fk_c_3 ?_
  refine fo_irem (fa_44 rfl) ?_
  refine fo_iadd (fa_44 rfl) ?_
  exact fo_iret (fa_44 rfl) fr_44 fw_int
theorem fs_44_11 : fSB 44 [0] 2 11 f_44_11 := by
  unfold f_44_11
  refine fo_iload_n (k := 1) (fa_44 rfl) ?_
  refine fo_iload_n (k := 2) (fa_44 rfl) ?_
  refine fo_ixor (fa_44 rfl) ?_
  exact fo_iret (fa_44 rfl) fr_44 fw_int
theorem fs_44_0 : fSB 44 [0] 2 0 f_44_0 := by
  unfold f_44_0
  refine fo_iload_n (k := 0) (fa_44 rfl) ?_
  refine fo_iconst (fa_44 rfl) fk_c_4 ?_
  refine fo_icmp_eq (fa_44 rfl) (pcT := 11) rfl fs_44_11 ?_
  refine fo_iload_n (k := 0) (fa_44 rfl) ?_
  refine fo_bipush (fa_44 rfl) fk_b_8 ?_
  refine fo_icmp_ne (fa_44 rfl) (pcT := 15) rfl fs_44_15 ?_
  exact fs_44_11
theorem fsm_44 : fSM 44 2 fm_44 := fs_methH (lp := [0]) (by decide) rfl ⟨fs_44_0, trivial⟩
theorem fP_46 : mj_P 46 = (2, 4, (some .int), mcX2_timesByBits, []) := rfl
theorem fa_46 {pc : Nat} {e : mjE} (h : mj_at mcX2_timesByBits pc = some e) : fAt 46 pc e := by unfold fAt; rw [fP_46]; exact h
theorem fr_46 : (mj_P 46).2.2.1 = (some .int) := by rw [fP_46]
theorem fna_46 : (mj_P 46).2.1 = 4 := by rw [fP_46]
theorem fx_46 : 4 ≤ mj_mx.getD 46 0 := by decide
theorem fh_46 : (mj_P 46).2.2.2.2.isEmpty = true := by rw [fP_46]; rfl
theorem fs_46_76 : fSB 46 [0, 6, 43] 1 76 f_46_76 := by
  unfold f_46_76
  refine fo_iload (k := 4) (fa_46 rfl) ?_
  exact fo_iret (fa_46 rfl) fr_46 fw_int
theorem fs_46_70 : fSB 46 [0, 6, 43] 1 70 f_46_70 := by
  unfold f_46_70
  refine fo_iinc (k := 5) (fa_46 rfl) fk_c_m1 ?_
  exact fo_goto (fa_46 rfl) (pcT := 43) rfl (fo_back (q := 43) rfl)
theorem fs_46_43 : fSB 46 [0, 6, 43] 1 43 f_46_43 := by
  unfold f_46_43
  refine fo_iload (k := 5) (fa_46 rfl) ?_
  refine fo_iload_n (k := 2) (fa_46 rfl) ?_
  refine fo_icmp_lt (fa_46 rfl) (pcT := 76) rfl fs_46_76 ?_
  refine fo_iload (k := 4) (fa_46 rfl) ?_
  refine fo_iload (k := 5) (fa_46 rfl) ?_
  refine fo_static (by decide) (fo_callH (fa_46 rfl) fNs_static fsm_166 (by decide) fFil_0 fna_166 fx_166 (Or.inl rfl) fHd_nil ?_)
  refine fo_if_eq (fa_46 rfl) (pcT := 70) rfl fs_46_70 ?_
  refine fo_iload (k := 4) (fa_46 rfl) ?_
  refine fo_iload_n (k := 3) (fa_46 rfl) ?_
  refine fo_iload (k := 5) (fa_46 rfl) ?_
  refine fo_iload_n (k := 2) (fa_46 rfl) ?_
  refine fo_isub (fa_46 rfl) ?_
  refine fo_ishl (fa_46 rfl) ?_
  refine fo_ixor (fa_46 rfl) ?_
  refine fo_istore (k := 4) (fa_46 rfl) ?_
  exact fs_46_70
theorem fs_46_36 : fSB 46 [0, 6, 43] 1 36 f_46_36 := by
  unfold f_46_36
  refine fo_iconst (fa_46 rfl) fk_c_2 ?_
  refine fo_iload_n (k := 2) (fa_46 rfl) ?_
  refine fo_imul (fa_46 rfl) ?_
  refine fo_iconst (fa_46 rfl) fk_c_2 ?_
  refine fo_isub (fa_46 rfl) ?_
  refine fo_istore (k := 5) (fa_46 rfl) ?_
  exact fs_46_43
theorem fs_46_30 : fSB 46 [0, 6, 43] 1 30 f_46_30 := by
  unfold f_46_30
  refine fo_iinc (k := 5) (fa_46 rfl) fk_c_1 ?_
  exact fo_goto (fa_46 rfl) (pcT := 6) rfl (fo_back (q := 6) rfl)
theorem fs_46_6 : fSB 46 [0, 6, 43] 1 6 f_46_6 := by
  unfold f_46_6
  refine fo_iload (k := 5) (fa_46 rfl) ?_
  refine fo_iload_n (k := 2) (fa_46 rfl) ?_
  refine fo_icmp_ge (fa_46 rfl) (pcT := 36) rfl fs_46_36 ?_
  refine fo_iload_n (k := 1) (fa_46 rfl) ?_
  refine fo_iload (k := 5) (fa_46 rfl) ?_
  refine fo_static (by decide) (fo_callH (fa_46 rfl) fNs_static fsm_166 (by decide) fFil_0 fna_166 fx_166 (Or.inl rfl) fHd_nil ?_)
  refine fo_if_eq (fa_46 rfl) (pcT := 30) rfl fs_46_30 ?_
  refine fo_iload (k := 4) (fa_46 rfl) ?_
  refine fo_iload_n (k := 0) (fa_46 rfl) ?_
  refine fo_iload (k := 5) (fa_46 rfl) ?_
  refine fo_ishl (fa_46 rfl) ?_
  refine fo_ixor (fa_46 rfl) ?_
  refine fo_istore (k := 4) (fa_46 rfl) ?_
  exact fs_46_30
theorem fs_46_0 : fSB 46 [0, 6, 43] 1 0 f_46_0 := by
  unfold f_46_0
  refine fo_iconst (fa_46 rfl) fk_c_0 ?_
  refine fo_istore (k := 4) (fa_46 rfl) ?_
  refine fo_iconst (fa_46 rfl) fk_c_0 ?_
  refine fo_istore (k := 5) (fa_46 rfl) ?_
  exact fs_46_6
theorem fsm_46 : fSM 46 1 fm_46 := fs_methH (lp := [0, 6, 43]) (by decide) rfl ⟨fs_46_0, fs_46_6, fs_46_43, trivial⟩
theorem fP_45 : mj_P 45 = (2, 3, (some .int), mcX2_times, []) := rfl
theorem fa_45 {pc : Nat} {e : mjE} (h : mj_at mcX2_times pc = some e) : fAt 45 pc e := by unfold fAt; rw [fP_45]; exact h
theorem fr_45 : (mj_P 45).2.2.1 = (some .int) := by rw [fP_45]
theorem fna_45 : (mj_P 45).2.1 = 3 := by rw [fP_45]
theorem fx_45 : 3 ≤ mj_mx.getD 45 0 := by decide
theorem fh_45 : (mj_P 45).2.2.2.2.isEmpty = true := by rw [fP_45]; rfl
theorem fs_45_81 : fSB 45 [0] 2 81 f_45_81 := by
  unfold f_45_81
  refine fo_iload_n (k := 1) (fa_45 rfl) ?_
  refine fo_iload_n (k := 2) (fa_45 rfl) ?_
  refine fo_imul (fa_45 rfl) ?_
  refine fo_iload_n (k := 0) (fa_45 rfl) ?_
  refine fo_static (by decide) (fo_callH (fa_45 rfl) fNs_static fsm_164 (by decide) fFil_0 fna_164 fx_164 (Or.inl rfl) fHd_nil ?_)
  exact fo_iret (fa_45 rfl) fr_45 fw_int
theorem fs_45_29 : fSB 45 [0] 2 29 f_45_29 := by
  unfold f_45_29
  refine fo_iload_n (k := 0) (fa_45 rfl) ?_
  refine fo_bipush (fa_45 rfl) fk_b_9 ?_
  refine fo_icmp_ne (fa_45 rfl) (pcT := 81) rfl fs_45_81 ?_
  refine fo_iload_n (k := 1) (fa_45 rfl) ?_
  refine fo_iconst (fa_45 rfl) fk_c_3 ?_
  refine fo_idiv (fa_45 rfl) ?_
  refine fo_iload_n (k := 2) (fa_45 rfl) ?_
  refine fo_iconst (fa_45 rfl) fk_c_3 ?_
  refine fo_irem (fa_45 rfl) ?_
  refine fo_imul (fa_45 rfl) ?_
  refine fo_iload_n (k := 1) (fa_45 rfl) ?_
  refine fo_iconst (fa_45 rfl) fk_c_3 ?_
  refine fo_irem (fa_45 rfl) ?_
  refine fo_iload_n (k := 2) (fa_45 rfl) ?_
  refine fo_iconst (fa_45 rfl) fk_c_3 ?_
  refine fo_idiv (fa_45 rfl) ?_
  refine fo_imul (fa_45 rfl) ?_
  refine fo_iadd (fa_45 rfl) ?_
  refine fo_istore_n (k := 3) (fa_45 rfl) ?_
  refine fo_iload_n (k := 1) (fa_45 rfl) ?_
  refine fo_iconst (fa_45 rfl) fk_c_3 ?_
  refine fo_irem (fa_45 rfl) ?_
  refine fo_iload_n (k := 2) (fa_45 rfl) ?_
  refine fo_iconst (fa_45 rfl) fk_c_3 ?_
  refine fo_irem (fa_45 rfl) ?_
  refine fo_imul (fa_45 rfl) ?_
  refine fo_iconst (fa_45 rfl) fk_c_2 ?_
  refine fo_iload_n (k := 1) (fa_45 rfl) ?_
  refine fo_iconst (fa_45 rfl) fk_c_3 ?_
  refine fo_idiv (fa_45 rfl) ?_
  refine fo_imul (fa_45 rfl) ?_
  refine fo_iload_n (k := 2) (fa_45 rfl) ?_
  refine fo_iconst (fa_45 rfl) fk_c_3 ?_
  refine fo_idiv (fa_45 rfl) ?_
  refine fo_imul (fa_45 rfl) ?_
  refine fo_iadd (fa_45 rfl) ?_
  refine fo_istore (k := 4) (fa_45 rfl) ?_
  refine fo_iconst (fa_45 rfl) fk_c_3 ?_
  refine fo_iload_n (k := 3) (fa_45 rfl) ?_
  refine fo_iconst (fa_45 rfl) fk_c_3 ?_
  refine fo_irem (fa_45 rfl) ?_
  refine fo_imul (fa_45 rfl) ?_
  refine fo_iload (k := 4) (fa_45 rfl) ?_
  refine fo_iconst (fa_45 rfl) fk_c_3 ?_
  refine fo_irem (fa_45 rfl) ?_
  refine fo_iadd (fa_45 rfl) ?_
  exact fo_iret (fa_45 rfl) fr_45 fw_int
theorem fs_45_14 : fSB 45 [0] 2 14 f_45_14 := by
  unfold f_45_14
  refine fo_iload_n (k := 0) (fa_45 rfl) ?_
  refine fo_bipush (fa_45 rfl) fk_b_8 ?_
  refine fo_icmp_ne (fa_45 rfl) (pcT := 29) rfl fs_45_29 ?_
  refine fo_iload_n (k := 1) (fa_45 rfl) ?_
  refine fo_iload_n (k := 2) (fa_45 rfl) ?_
  refine fo_iconst (fa_45 rfl) fk_c_3 ?_
  refine fo_bipush (fa_45 rfl) fk_b_11 ?_
  refine fo_static (by decide) (fo_call (fa_45 rfl) fNs_static fsm_46 (by decide) fFil_2 fna_46 fx_46 (by rw [fP_46]; rfl) fh_45 ?_)
  exact fo_iret (fa_45 rfl) fr_45 fw_int
theorem fs_45_0 : fSB 45 [0] 2 0 f_45_0 := by
  unfold f_45_0
  refine fo_iload_n (k := 0) (fa_45 rfl) ?_
  refine fo_iconst (fa_45 rfl) fk_c_4 ?_
  refine fo_icmp_ne (fa_45 rfl) (pcT := 14) rfl fs_45_14 ?_
  refine fo_iload_n (k := 1) (fa_45 rfl) ?_
  refine fo_iload_n (k := 2) (fa_45 rfl) ?_
  refine fo_iconst (fa_45 rfl) fk_c_2 ?_
  refine fo_bipush (fa_45 rfl) fk_b_7 ?_
  refine fo_static (by decide) (fo_call (fa_45 rfl) fNs_static fsm_46 (by decide) fFil_2 fna_46 fx_46 (by rw [fP_46]; rfl) fh_45 ?_)
  exact fo_iret (fa_45 rfl) fr_45 fw_int
theorem fsm_45 : fSM 45 2 fm_45 := fs_methH (lp := [0]) (by decide) rfl ⟨fs_45_0, trivial⟩
theorem fP_27 : mj_P 27 = (1, 3, none, mcX1_makePlane, []) := rfl
theorem fa_27 {pc : Nat} {e : mjE} (h : mj_at mcX1_makePlane pc = some e) : fAt 27 pc e := by unfold fAt; rw [fP_27]; exact h
theorem fr_27 : (mj_P 27).2.2.1 = none := by rw [fP_27]
theorem fna_27 : (mj_P 27).2.1 = 3 := by rw [fP_27]
theorem fx_27 : 3 ≤ mj_mx.getD 27 0 := by decide
theorem fh_27 : (mj_P 27).2.2.2.2.isEmpty = true := by rw [fP_27]; rfl
theorem fs_27_177 : fSB 27 [0, 24, 33, 58, 117] 3 177 f_27_177 := by
  unfold f_27_177
  exact fo_ret (fa_27 rfl) fr_27
theorem fs_27_161 : fSB 27 [0, 24, 33, 58, 117] 3 161 f_27_161 := by
  unfold f_27_161
  refine fo_iload_n (k := 2) (fa_27 rfl) ?_
  refine fo_if_ne (fa_27 rfl) (pcT := 177) rfl fs_27_177 ?_
  refine fo_aload_n (k := 0) (fa_27 rfl) ?_
  refine fo_iload_n (k := 1) (fa_27 rfl) ?_
  refine fo_iconst (fa_27 rfl) fk_c_1 ?_
  refine fo_iadd (fa_27 rfl) ?_
  refine fo_static (by decide) (fo_callH (fa_27 rfl) fNs_static fsm_165 (by decide) fFil_0 fna_165 fx_165 (Or.inl rfl) fHd_nil ?_)
  refine fo_iload_n (k := 3) (fa_27 rfl) ?_
  refine fo_ishl (fa_27 rfl) ?_
  refine fo_virtual (by decide) fna_14 (fo_call (fa_27 rfl) fNs_virtual fsm_14 (by decide) fFil_0 fna_14 fx_14 (by rw [fP_14]; rfl) fh_27 ?_)
  exact fs_27_177
theorem fs_27_152 : fSB 27 [0, 24, 33, 58, 117] 3 152 f_27_152 := by
  unfold f_27_152
  refine fo_virtual (by decide) fna_14 (fo_call (fa_27 rfl) fNs_virtual fsm_14 (by decide) fFil_0 fna_14 fx_14 (by rw [fP_14]; rfl) fh_27 ?_)
  refine fo_iinc (k := 4) (fa_27 rfl) fk_c_1 ?_
  exact fo_goto (fa_27 rfl) (pcT := 117) rfl (fo_back (q := 117) rfl)
theorem fs_27_144 : fSB 27 [0, 24, 33, 58, 117] 3 144 f_27_144 := by
  unfold f_27_144
  refine fo_iload (k := 5) (fa_27 rfl) ?_
  refine fo_iconst (fa_27 rfl) fk_c_1 ?_
  refine fo_iload_n (k := 3) (fa_27 rfl) ?_
  refine fo_iload_n (k := 1) (fa_27 rfl) ?_
  refine fo_iadd (fa_27 rfl) ?_
  refine fo_ishl (fa_27 rfl) ?_
  refine fo_ior (fa_27 rfl) ?_
  exact fs_27_152
theorem fs_27_117 : fSB 27 [0, 24, 33, 58, 117] 3 117 f_27_117 := by
  unfold f_27_117
  refine fo_iload (k := 4) (fa_27 rfl) ?_
  refine fo_iload_n (k := 1) (fa_27 rfl) ?_
  refine fo_icmp_ge (fa_27 rfl) (pcT := 161) rfl fs_27_161 ?_
  refine fo_iload_n (k := 1) (fa_27 rfl) ?_
  refine fo_static (by decide) (fo_callH (fa_27 rfl) fNs_static fsm_165 (by decide) fFil_0 fna_165 fx_165 (Or.inl rfl) fHd_nil ?_)
  refine fo_iload_n (k := 1) (fa_27 rfl) ?_
  refine fo_iload (k := 4) (fa_27 rfl) ?_
  refine fo_imul (fa_27 rfl) ?_
  refine fo_ishl (fa_27 rfl) ?_
  refine fo_istore (k := 5) (fa_27 rfl) ?_
  refine fo_aload_n (k := 0) (fa_27 rfl) ?_
  refine fo_iload_n (k := 2) (fa_27 rfl) ?_
  refine fo_if_eq (fa_27 rfl) (pcT := 144) rfl fs_27_144 ?_
  refine fo_iload (k := 5) (fa_27 rfl) ?_
  exact fo_goto (fa_27 rfl) (pcT := 152) rfl fs_27_152
theorem fs_27_114 : fSB 27 [0, 24, 33, 58, 117] 3 114 f_27_114 := by
  unfold f_27_114
  refine fo_iconst (fa_27 rfl) fk_c_0 ?_
  refine fo_istore (k := 4) (fa_27 rfl) ?_
  exact fs_27_117
theorem fs_27_108 : fSB 27 [0, 24, 33, 58, 117] 3 108 f_27_108 := by
  unfold f_27_108
  refine fo_iinc (k := 4) (fa_27 rfl) fk_c_1 ?_
  exact fo_goto (fa_27 rfl) (pcT := 24) rfl (fo_back (q := 24) rfl)
theorem fs_27_96 : fSB 27 [0, 24, 33, 58, 117] 3 96 f_27_96 := by
  unfold f_27_96
  refine fo_aload_n (k := 0) (fa_27 rfl) ?_
  refine fo_iload (k := 6) (fa_27 rfl) ?_
  refine fo_virtual (by decide) fna_14 (fo_call (fa_27 rfl) fNs_virtual fsm_14 (by decide) fFil_0 fna_14 fx_14 (by rw [fP_14]; rfl) fh_27 ?_)
  refine fo_iinc (k := 5) (fa_27 rfl) fk_c_1 ?_
  exact fo_goto (fa_27 rfl) (pcT := 33) rfl (fo_back (q := 33) rfl)
theorem fs_27_58 : fSB 27 [0, 24, 33, 58, 117] 3 58 f_27_58 := by
  unfold f_27_58
  refine fo_iload (k := 7) (fa_27 rfl) ?_
  refine fo_iload_n (k := 1) (fa_27 rfl) ?_
  refine fo_icmp_ge (fa_27 rfl) (pcT := 96) rfl fs_27_96 ?_
  refine fo_iload (k := 6) (fa_27 rfl) ?_
  refine fo_iconst (fa_27 rfl) fk_c_1 ?_
  refine fo_iload_n (k := 1) (fa_27 rfl) ?_
  refine fo_iload (k := 7) (fa_27 rfl) ?_
  refine fo_imul (fa_27 rfl) ?_
  refine fo_iload_n (k := 1) (fa_27 rfl) ?_
  refine fo_iload_n (k := 1) (fa_27 rfl) ?_
  refine fo_iload (k := 4) (fa_27 rfl) ?_
  refine fo_iload (k := 7) (fa_27 rfl) ?_
  refine fo_static (by decide) (fo_call (fa_27 rfl) fNs_static fsm_45 (by decide) fFil_2 fna_45 fx_45 (by rw [fP_45]; rfl) fh_27 ?_)
  refine fo_iload (k := 5) (fa_27 rfl) ?_
  refine fo_static (by decide) (fo_call (fa_27 rfl) fNs_static fsm_44 (by decide) fFil_0 fna_44 fx_44 (by rw [fP_44]; rfl) fh_27 ?_)
  refine fo_iadd (fa_27 rfl) ?_
  refine fo_ishl (fa_27 rfl) ?_
  refine fo_ior (fa_27 rfl) ?_
  refine fo_istore (k := 6) (fa_27 rfl) ?_
  refine fo_iinc (k := 7) (fa_27 rfl) fk_c_1 ?_
  exact fo_goto (fa_27 rfl) (pcT := 58) rfl (fo_back (q := 58) rfl)
theorem fs_27_53 : fSB 27 [0, 24, 33, 58, 117] 3 53 f_27_53 := by
  unfold f_27_53
  refine fo_istore (k := 6) (fa_27 rfl) ?_
  refine fo_iconst (fa_27 rfl) fk_c_0 ?_
  refine fo_istore (k := 7) (fa_27 rfl) ?_
  exact fs_27_58
theorem fs_27_47 : fSB 27 [0, 24, 33, 58, 117] 3 47 f_27_47 := by
  unfold f_27_47
  refine fo_iconst (fa_27 rfl) fk_c_1 ?_
  refine fo_iload_n (k := 3) (fa_27 rfl) ?_
  refine fo_iload (k := 4) (fa_27 rfl) ?_
  refine fo_iadd (fa_27 rfl) ?_
  refine fo_ishl (fa_27 rfl) ?_
  exact fs_27_53
theorem fs_27_33 : fSB 27 [0, 24, 33, 58, 117] 3 33 f_27_33 := by
  unfold f_27_33
  refine fo_iload (k := 5) (fa_27 rfl) ?_
  refine fo_iload_n (k := 1) (fa_27 rfl) ?_
  refine fo_icmp_ge (fa_27 rfl) (pcT := 108) rfl fs_27_108 ?_
  refine fo_iload_n (k := 2) (fa_27 rfl) ?_
  refine fo_if_eq (fa_27 rfl) (pcT := 47) rfl fs_27_47 ?_
  refine fo_iconst (fa_27 rfl) fk_c_0 ?_
  exact fo_goto (fa_27 rfl) (pcT := 53) rfl fs_27_53
theorem fs_27_24 : fSB 27 [0, 24, 33, 58, 117] 3 24 f_27_24 := by
  unfold f_27_24
  refine fo_iload (k := 4) (fa_27 rfl) ?_
  refine fo_iload_n (k := 1) (fa_27 rfl) ?_
  refine fo_icmp_ge (fa_27 rfl) (pcT := 114) rfl fs_27_114 ?_
  refine fo_iconst (fa_27 rfl) fk_c_0 ?_
  refine fo_istore (k := 5) (fa_27 rfl) ?_
  exact fs_27_33
theorem fs_27_18 : fSB 27 [0, 24, 33, 58, 117] 3 18 f_27_18 := by
  unfold f_27_18
  refine fo_virtual (by decide) fna_13 (fo_call (fa_27 rfl) fNs_virtual fsm_13 (by decide) fFil_0 fna_13 fx_13 (by rw [fP_13]; rfl) fh_27 ?_)
  refine fo_iconst (fa_27 rfl) fk_c_0 ?_
  refine fo_istore (k := 4) (fa_27 rfl) ?_
  exact fs_27_24
theorem fs_27_13 : fSB 27 [0, 24, 33, 58, 117] 3 13 f_27_13 := by
  unfold f_27_13
  refine fo_iload_n (k := 3) (fa_27 rfl) ?_
  refine fo_iload_n (k := 1) (fa_27 rfl) ?_
  refine fo_iadd (fa_27 rfl) ?_
  refine fo_iconst (fa_27 rfl) fk_c_1 ?_
  refine fo_iadd (fa_27 rfl) ?_
  exact fs_27_18
theorem fs_27_0 : fSB 27 [0, 24, 33, 58, 117] 3 0 f_27_0 := by
  unfold f_27_0
  refine fo_iload_n (k := 1) (fa_27 rfl) ?_
  refine fo_iload_n (k := 1) (fa_27 rfl) ?_
  refine fo_imul (fa_27 rfl) ?_
  refine fo_istore_n (k := 3) (fa_27 rfl) ?_
  refine fo_aload_n (k := 0) (fa_27 rfl) ?_
  refine fo_iload_n (k := 2) (fa_27 rfl) ?_
  refine fo_if_eq (fa_27 rfl) (pcT := 13) rfl fs_27_13 ?_
  refine fo_iload_n (k := 3) (fa_27 rfl) ?_
  exact fo_goto (fa_27 rfl) (pcT := 18) rfl fs_27_18
theorem fsm_27 : fSM 27 3 fm_27 := fs_methH (lp := [0, 24, 33, 58, 117]) (by decide) rfl ⟨fs_27_0, fs_27_24, fs_27_33, fs_27_58, fs_27_117, trivial⟩
theorem fP_31 : mj_P 31 = (1, 3, none, mcX1_addColumns, []) := rfl
theorem fa_31 {pc : Nat} {e : mjE} (h : mj_at mcX1_addColumns pc = some e) : fAt 31 pc e := by unfold fAt; rw [fP_31]; exact h
theorem fr_31 : (mj_P 31).2.2.1 = none := by rw [fP_31]
theorem fna_31 : (mj_P 31).2.1 = 3 := by rw [fP_31]
theorem fx_31 : 3 ≤ mj_mx.getD 31 0 := by decide
theorem fh_31 : (mj_P 31).2.2.2.2.isEmpty = true := by rw [fP_31]; rfl
theorem fs_31_34 : fSB 31 [0, 2] 1 34 f_31_34 := by
  unfold f_31_34
  exact fo_ret (fa_31 rfl) fr_31
theorem fs_31_2 : fSB 31 [0, 2] 1 2 f_31_2 := by
  unfold f_31_2
  refine fo_iload_n (k := 3) (fa_31 rfl) ?_
  refine fo_iload_n (k := 2) (fa_31 rfl) ?_
  refine fo_icmp_ge (fa_31 rfl) (pcT := 34) rfl fs_31_34 ?_
  refine fo_aload_n (k := 0) (fa_31 rfl) ?_
  refine fo_iconst (fa_31 rfl) fk_c_1 ?_
  refine fo_iload_n (k := 3) (fa_31 rfl) ?_
  refine fo_ishl (fa_31 rfl) ?_
  refine fo_iconst (fa_31 rfl) fk_c_1 ?_
  refine fo_iload_n (k := 1) (fa_31 rfl) ?_
  refine fo_iload_n (k := 3) (fa_31 rfl) ?_
  refine fo_iadd (fa_31 rfl) ?_
  refine fo_ishl (fa_31 rfl) ?_
  refine fo_ior (fa_31 rfl) ?_
  refine fo_iconst (fa_31 rfl) fk_c_1 ?_
  refine fo_iconst (fa_31 rfl) fk_c_2 ?_
  refine fo_iload_n (k := 1) (fa_31 rfl) ?_
  refine fo_imul (fa_31 rfl) ?_
  refine fo_iload_n (k := 3) (fa_31 rfl) ?_
  refine fo_iadd (fa_31 rfl) ?_
  refine fo_ishl (fa_31 rfl) ?_
  refine fo_ior (fa_31 rfl) ?_
  refine fo_virtual (by decide) fna_14 (fo_call (fa_31 rfl) fNs_virtual fsm_14 (by decide) fFil_0 fna_14 fx_14 (by rw [fP_14]; rfl) fh_31 ?_)
  refine fo_iinc (k := 3) (fa_31 rfl) fk_c_1 ?_
  exact fo_goto (fa_31 rfl) (pcT := 2) rfl (fo_back (q := 2) rfl)
theorem fs_31_0 : fSB 31 [0, 2] 1 0 f_31_0 := by
  unfold f_31_0
  refine fo_iconst (fa_31 rfl) fk_c_0 ?_
  refine fo_istore_n (k := 3) (fa_31 rfl) ?_
  exact fs_31_2
theorem fsm_31 : fSM 31 1 fm_31 := fs_methH (lp := [0, 2]) (by decide) rfl ⟨fs_31_0, fs_31_2, trivial⟩
theorem fP_30 : mj_P 30 = (1, 1, (some .int), mcX1_following, []) := rfl
theorem fa_30 {pc : Nat} {e : mjE} (h : mj_at mcX1_following pc = some e) : fAt 30 pc e := by unfold fAt; rw [fP_30]; exact h
theorem fr_30 : (mj_P 30).2.2.1 = (some .int) := by rw [fP_30]
theorem fna_30 : (mj_P 30).2.1 = 1 := by rw [fP_30]
theorem fx_30 : 1 ≤ mj_mx.getD 30 0 := by decide
theorem fh_30 : (mj_P 30).2.2.2.2.isEmpty = true := by rw [fP_30]; rfl
theorem fs_30_12 : fSB 30 [0] 0 12 f_30_12 := by
  unfold f_30_12
  exact fo_iret (fa_30 rfl) fr_30 fw_int
theorem fs_30_11 : fSB 30 [0] 0 11 f_30_11 := by
  unfold f_30_11
  refine fo_iconst (fa_30 rfl) fk_c_0 ?_
  exact fs_30_12
theorem fs_30_0 : fSB 30 [0] 0 0 f_30_0 := by
  unfold f_30_0
  refine fo_iload_n (k := 0) (fa_30 rfl) ?_
  refine fo_iconst (fa_30 rfl) fk_c_2 ?_
  refine fo_icmp_ge (fa_30 rfl) (pcT := 11) rfl fs_30_11 ?_
  refine fo_iload_n (k := 0) (fa_30 rfl) ?_
  refine fo_iconst (fa_30 rfl) fk_c_1 ?_
  refine fo_iadd (fa_30 rfl) ?_
  exact fo_goto (fa_30 rfl) (pcT := 12) rfl fs_30_12
theorem fsm_30 : fSM 30 0 fm_30 := fs_methH (lp := [0]) (by decide) rfl ⟨fs_30_0, trivial⟩
theorem fP_32 : mj_P 32 = (1, 5, none, mcX1_addMixed, []) := rfl
theorem fa_32 {pc : Nat} {e : mjE} (h : mj_at mcX1_addMixed pc = some e) : fAt 32 pc e := by unfold fAt; rw [fP_32]; exact h
theorem fr_32 : (mj_P 32).2.2.1 = none := by rw [fP_32]
theorem fna_32 : (mj_P 32).2.1 = 5 := by rw [fP_32]
theorem fx_32 : 5 ≤ mj_mx.getD 32 0 := by decide
theorem fh_32 : (mj_P 32).2.2.2.2.isEmpty = true := by rw [fP_32]; rfl
theorem fs_32_49 : fSB 32 [0, 3] 1 49 f_32_49 := by
  unfold f_32_49
  exact fo_ret (fa_32 rfl) fr_32
theorem fs_32_3 : fSB 32 [0, 3] 1 3 f_32_3 := by
  unfold f_32_3
  refine fo_iload (k := 5) (fa_32 rfl) ?_
  refine fo_iconst (fa_32 rfl) fk_c_3 ?_
  refine fo_icmp_ge (fa_32 rfl) (pcT := 49) rfl fs_32_49 ?_
  refine fo_aload_n (k := 0) (fa_32 rfl) ?_
  refine fo_iconst (fa_32 rfl) fk_c_1 ?_
  refine fo_iload_n (k := 1) (fa_32 rfl) ?_
  refine fo_iload (k := 5) (fa_32 rfl) ?_
  refine fo_imul (fa_32 rfl) ?_
  refine fo_iload_n (k := 2) (fa_32 rfl) ?_
  refine fo_iadd (fa_32 rfl) ?_
  refine fo_ishl (fa_32 rfl) ?_
  refine fo_iconst (fa_32 rfl) fk_c_1 ?_
  refine fo_iload_n (k := 1) (fa_32 rfl) ?_
  refine fo_iload (k := 5) (fa_32 rfl) ?_
  refine fo_imul (fa_32 rfl) ?_
  refine fo_iload_n (k := 3) (fa_32 rfl) ?_
  refine fo_iadd (fa_32 rfl) ?_
  refine fo_ishl (fa_32 rfl) ?_
  refine fo_ior (fa_32 rfl) ?_
  refine fo_iconst (fa_32 rfl) fk_c_1 ?_
  refine fo_iload_n (k := 1) (fa_32 rfl) ?_
  refine fo_iload (k := 5) (fa_32 rfl) ?_
  refine fo_static (by decide) (fo_call (fa_32 rfl) fNs_static fsm_30 (by decide) fFil_0 fna_30 fx_30 (by rw [fP_30]; rfl) fh_32 ?_)
  refine fo_imul (fa_32 rfl) ?_
  refine fo_iload (k := 4) (fa_32 rfl) ?_
  refine fo_iadd (fa_32 rfl) ?_
  refine fo_ishl (fa_32 rfl) ?_
  refine fo_ior (fa_32 rfl) ?_
  refine fo_virtual (by decide) fna_14 (fo_call (fa_32 rfl) fNs_virtual fsm_14 (by decide) fFil_0 fna_14 fx_14 (by rw [fP_14]; rfl) fh_32 ?_)
  refine fo_iinc (k := 5) (fa_32 rfl) fk_c_1 ?_
  exact fo_goto (fa_32 rfl) (pcT := 3) rfl (fo_back (q := 3) rfl)
theorem fs_32_0 : fSB 32 [0, 3] 1 0 f_32_0 := by
  unfold f_32_0
  refine fo_iconst (fa_32 rfl) fk_c_0 ?_
  refine fo_istore (k := 5) (fa_32 rfl) ?_
  exact fs_32_3
theorem fsm_32 : fSM 32 1 fm_32 := fs_methH (lp := [0, 3]) (by decide) rfl ⟨fs_32_0, fs_32_3, trivial⟩
theorem fP_28 : mj_P 28 = (1, 2, none, mcX1_makeBose, []) := rfl
theorem fa_28 {pc : Nat} {e : mjE} (h : mj_at mcX1_makeBose pc = some e) : fAt 28 pc e := by unfold fAt; rw [fP_28]; exact h
theorem fr_28 : (mj_P 28).2.2.1 = none := by rw [fP_28]
theorem fna_28 : (mj_P 28).2.1 = 2 := by rw [fP_28]
theorem fx_28 : 2 ≤ mj_mx.getD 28 0 := by decide
theorem fh_28 : (mj_P 28).2.2.2.2.isEmpty = true := by rw [fP_28]; rfl
theorem fs_28_69 : fSB 28 [0, 21, 31] 2 69 f_28_69 := by
  unfold f_28_69
  exact fo_ret (fa_28 rfl) fr_28
theorem fs_28_63 : fSB 28 [0, 21, 31] 2 63 f_28_63 := by
  unfold f_28_63
  refine fo_iinc (k := 3) (fa_28 rfl) fk_c_1 ?_
  exact fo_goto (fa_28 rfl) (pcT := 21) rfl (fo_back (q := 21) rfl)
theorem fs_28_31 : fSB 28 [0, 21, 31] 2 31 f_28_31 := by
  unfold f_28_31
  refine fo_iload (k := 4) (fa_28 rfl) ?_
  refine fo_iload_n (k := 2) (fa_28 rfl) ?_
  refine fo_icmp_ge (fa_28 rfl) (pcT := 63) rfl fs_28_63 ?_
  refine fo_aload_n (k := 0) (fa_28 rfl) ?_
  refine fo_iload_n (k := 2) (fa_28 rfl) ?_
  refine fo_iload_n (k := 3) (fa_28 rfl) ?_
  refine fo_iload (k := 4) (fa_28 rfl) ?_
  refine fo_iload_n (k := 3) (fa_28 rfl) ?_
  refine fo_iload (k := 4) (fa_28 rfl) ?_
  refine fo_iadd (fa_28 rfl) ?_
  refine fo_iload_n (k := 1) (fa_28 rfl) ?_
  refine fo_iconst (fa_28 rfl) fk_c_1 ?_
  refine fo_iadd (fa_28 rfl) ?_
  refine fo_imul (fa_28 rfl) ?_
  refine fo_iload_n (k := 2) (fa_28 rfl) ?_
  refine fo_static (by decide) (fo_callH (fa_28 rfl) fNs_static fsm_164 (by decide) fFil_0 fna_164 fx_164 (Or.inl rfl) fHd_nil ?_)
  refine fo_virtual (by decide) fna_32 (fo_call (fa_28 rfl) fNs_virtual fsm_32 (by decide) fFil_1 fna_32 fx_32 (by rw [fP_32]; rfl) fh_28 ?_)
  refine fo_iinc (k := 4) (fa_28 rfl) fk_c_1 ?_
  exact fo_goto (fa_28 rfl) (pcT := 31) rfl (fo_back (q := 31) rfl)
theorem fs_28_21 : fSB 28 [0, 21, 31] 2 21 f_28_21 := by
  unfold f_28_21
  refine fo_iload_n (k := 3) (fa_28 rfl) ?_
  refine fo_iload_n (k := 2) (fa_28 rfl) ?_
  refine fo_icmp_ge (fa_28 rfl) (pcT := 69) rfl fs_28_69 ?_
  refine fo_iload_n (k := 3) (fa_28 rfl) ?_
  refine fo_iconst (fa_28 rfl) fk_c_1 ?_
  refine fo_iadd (fa_28 rfl) ?_
  refine fo_istore (k := 4) (fa_28 rfl) ?_
  exact fs_28_31
theorem fs_28_0 : fSB 28 [0, 21, 31] 2 0 f_28_0 := by
  unfold f_28_0
  refine fo_iconst (fa_28 rfl) fk_c_2 ?_
  refine fo_iload_n (k := 1) (fa_28 rfl) ?_
  refine fo_imul (fa_28 rfl) ?_
  refine fo_iconst (fa_28 rfl) fk_c_1 ?_
  refine fo_iadd (fa_28 rfl) ?_
  refine fo_istore_n (k := 2) (fa_28 rfl) ?_
  refine fo_aload_n (k := 0) (fa_28 rfl) ?_
  refine fo_iconst (fa_28 rfl) fk_c_3 ?_
  refine fo_iload_n (k := 2) (fa_28 rfl) ?_
  refine fo_imul (fa_28 rfl) ?_
  refine fo_virtual (by decide) fna_13 (fo_call (fa_28 rfl) fNs_virtual fsm_13 (by decide) fFil_0 fna_13 fx_13 (by rw [fP_13]; rfl) fh_28 ?_)
  refine fo_aload_n (k := 0) (fa_28 rfl) ?_
  refine fo_iload_n (k := 2) (fa_28 rfl) ?_
  refine fo_iload_n (k := 2) (fa_28 rfl) ?_
  refine fo_virtual (by decide) fna_31 (fo_call (fa_28 rfl) fNs_virtual fsm_31 (by decide) fFil_1 fna_31 fx_31 (by rw [fP_31]; rfl) fh_28 ?_)
  refine fo_iconst (fa_28 rfl) fk_c_0 ?_
  refine fo_istore_n (k := 3) (fa_28 rfl) ?_
  exact fs_28_21
theorem fsm_28 : fSM 28 2 fm_28 := fs_methH (lp := [0, 21, 31]) (by decide) rfl ⟨fs_28_0, fs_28_21, fs_28_31, trivial⟩
theorem fP_29 : mj_P 29 = (1, 2, none, mcX1_makeSkolem, []) := rfl
theorem fa_29 {pc : Nat} {e : mjE} (h : mj_at mcX1_makeSkolem pc = some e) : fAt 29 pc e := by unfold fAt; rw [fP_29]; exact h
theorem fr_29 : (mj_P 29).2.2.1 = none := by rw [fP_29]
theorem fna_29 : (mj_P 29).2.1 = 2 := by rw [fP_29]
theorem fx_29 : 2 ≤ mj_mx.getD 29 0 := by decide
theorem fh_29 : (mj_P 29).2.2.2.2.isEmpty = true := by rw [fP_29]; rfl
theorem fs_29_149 : fSB 29 [0, 21, 29, 81, 91] 2 149 f_29_149 := by
  unfold f_29_149
  exact fo_ret (fa_29 rfl) fr_29
theorem fs_29_143 : fSB 29 [0, 21, 29, 81, 91] 2 143 f_29_143 := by
  unfold f_29_143
  refine fo_iinc (k := 3) (fa_29 rfl) fk_c_1 ?_
  exact fo_goto (fa_29 rfl) (pcT := 81) rfl (fo_back (q := 81) rfl)
theorem fs_29_134 : fSB 29 [0, 21, 29, 81, 91] 2 134 f_29_134 := by
  unfold f_29_134
  refine fo_virtual (by decide) fna_32 (fo_call (fa_29 rfl) fNs_virtual fsm_32 (by decide) fFil_1 fna_32 fx_32 (by rw [fP_32]; rfl) fh_29 ?_)
  refine fo_iinc (k := 4) (fa_29 rfl) fk_c_1 ?_
  exact fo_goto (fa_29 rfl) (pcT := 91) rfl (fo_back (q := 91) rfl)
theorem fs_29_126 : fSB 29 [0, 21, 29, 81, 91] 2 126 f_29_126 := by
  unfold f_29_126
  refine fo_iload (k := 5) (fa_29 rfl) ?_
  refine fo_iload_n (k := 2) (fa_29 rfl) ?_
  refine fo_iadd (fa_29 rfl) ?_
  refine fo_iconst (fa_29 rfl) fk_c_1 ?_
  refine fo_isub (fa_29 rfl) ?_
  refine fo_iconst (fa_29 rfl) fk_c_2 ?_
  refine fo_idiv (fa_29 rfl) ?_
  exact fs_29_134
theorem fs_29_91 : fSB 29 [0, 21, 29, 81, 91] 2 91 f_29_91 := by
  unfold f_29_91
  refine fo_iload (k := 4) (fa_29 rfl) ?_
  refine fo_iload_n (k := 2) (fa_29 rfl) ?_
  refine fo_icmp_ge (fa_29 rfl) (pcT := 143) rfl fs_29_143 ?_
  refine fo_iload_n (k := 3) (fa_29 rfl) ?_
  refine fo_iload (k := 4) (fa_29 rfl) ?_
  refine fo_iadd (fa_29 rfl) ?_
  refine fo_iload_n (k := 2) (fa_29 rfl) ?_
  refine fo_static (by decide) (fo_callH (fa_29 rfl) fNs_static fsm_164 (by decide) fFil_0 fna_164 fx_164 (Or.inl rfl) fHd_nil ?_)
  refine fo_istore (k := 5) (fa_29 rfl) ?_
  refine fo_aload_n (k := 0) (fa_29 rfl) ?_
  refine fo_iload_n (k := 2) (fa_29 rfl) ?_
  refine fo_iload_n (k := 3) (fa_29 rfl) ?_
  refine fo_iload (k := 4) (fa_29 rfl) ?_
  refine fo_iload (k := 5) (fa_29 rfl) ?_
  refine fo_iconst (fa_29 rfl) fk_c_2 ?_
  refine fo_irem (fa_29 rfl) ?_
  refine fo_if_ne (fa_29 rfl) (pcT := 126) rfl fs_29_126 ?_
  refine fo_iload (k := 5) (fa_29 rfl) ?_
  refine fo_iconst (fa_29 rfl) fk_c_2 ?_
  refine fo_idiv (fa_29 rfl) ?_
  exact fo_goto (fa_29 rfl) (pcT := 134) rfl fs_29_134
theorem fs_29_81 : fSB 29 [0, 21, 29, 81, 91] 2 81 f_29_81 := by
  unfold f_29_81
  refine fo_iload_n (k := 3) (fa_29 rfl) ?_
  refine fo_iload_n (k := 2) (fa_29 rfl) ?_
  refine fo_icmp_ge (fa_29 rfl) (pcT := 149) rfl fs_29_149 ?_
  refine fo_iload_n (k := 3) (fa_29 rfl) ?_
  refine fo_iconst (fa_29 rfl) fk_c_1 ?_
  refine fo_iadd (fa_29 rfl) ?_
  refine fo_istore (k := 4) (fa_29 rfl) ?_
  exact fs_29_91
theorem fs_29_79 : fSB 29 [0, 21, 29, 81, 91] 2 79 f_29_79 := by
  unfold f_29_79
  refine fo_iconst (fa_29 rfl) fk_c_0 ?_
  refine fo_istore_n (k := 3) (fa_29 rfl) ?_
  exact fs_29_81
theorem fs_29_73 : fSB 29 [0, 21, 29, 81, 91] 2 73 f_29_73 := by
  unfold f_29_73
  refine fo_iinc (k := 3) (fa_29 rfl) fk_c_1 ?_
  exact fo_goto (fa_29 rfl) (pcT := 21) rfl (fo_back (q := 21) rfl)
theorem fs_29_29 : fSB 29 [0, 21, 29, 81, 91] 2 29 f_29_29 := by
  unfold f_29_29
  refine fo_iload (k := 4) (fa_29 rfl) ?_
  refine fo_iconst (fa_29 rfl) fk_c_3 ?_
  refine fo_icmp_ge (fa_29 rfl) (pcT := 73) rfl fs_29_73 ?_
  refine fo_aload_n (k := 0) (fa_29 rfl) ?_
  refine fo_iconst (fa_29 rfl) fk_c_1 ?_
  refine fo_iconst (fa_29 rfl) fk_c_3 ?_
  refine fo_iload_n (k := 2) (fa_29 rfl) ?_
  refine fo_imul (fa_29 rfl) ?_
  refine fo_ishl (fa_29 rfl) ?_
  refine fo_iconst (fa_29 rfl) fk_c_1 ?_
  refine fo_iload_n (k := 2) (fa_29 rfl) ?_
  refine fo_iload (k := 4) (fa_29 rfl) ?_
  refine fo_imul (fa_29 rfl) ?_
  refine fo_iload_n (k := 1) (fa_29 rfl) ?_
  refine fo_iadd (fa_29 rfl) ?_
  refine fo_iload_n (k := 3) (fa_29 rfl) ?_
  refine fo_iadd (fa_29 rfl) ?_
  refine fo_ishl (fa_29 rfl) ?_
  refine fo_ior (fa_29 rfl) ?_
  refine fo_iconst (fa_29 rfl) fk_c_1 ?_
  refine fo_iload_n (k := 2) (fa_29 rfl) ?_
  refine fo_iload (k := 4) (fa_29 rfl) ?_
  refine fo_static (by decide) (fo_call (fa_29 rfl) fNs_static fsm_30 (by decide) fFil_0 fna_30 fx_30 (by rw [fP_30]; rfl) fh_29 ?_)
  refine fo_imul (fa_29 rfl) ?_
  refine fo_iload_n (k := 3) (fa_29 rfl) ?_
  refine fo_iadd (fa_29 rfl) ?_
  refine fo_ishl (fa_29 rfl) ?_
  refine fo_ior (fa_29 rfl) ?_
  refine fo_virtual (by decide) fna_14 (fo_call (fa_29 rfl) fNs_virtual fsm_14 (by decide) fFil_0 fna_14 fx_14 (by rw [fP_14]; rfl) fh_29 ?_)
  refine fo_iinc (k := 4) (fa_29 rfl) fk_c_1 ?_
  exact fo_goto (fa_29 rfl) (pcT := 29) rfl (fo_back (q := 29) rfl)
theorem fs_29_21 : fSB 29 [0, 21, 29, 81, 91] 2 21 f_29_21 := by
  unfold f_29_21
  refine fo_iload_n (k := 3) (fa_29 rfl) ?_
  refine fo_iload_n (k := 1) (fa_29 rfl) ?_
  refine fo_icmp_ge (fa_29 rfl) (pcT := 79) rfl fs_29_79 ?_
  refine fo_iconst (fa_29 rfl) fk_c_0 ?_
  refine fo_istore (k := 4) (fa_29 rfl) ?_
  exact fs_29_29
theorem fs_29_0 : fSB 29 [0, 21, 29, 81, 91] 2 0 f_29_0 := by
  unfold f_29_0
  refine fo_iconst (fa_29 rfl) fk_c_2 ?_
  refine fo_iload_n (k := 1) (fa_29 rfl) ?_
  refine fo_imul (fa_29 rfl) ?_
  refine fo_istore_n (k := 2) (fa_29 rfl) ?_
  refine fo_aload_n (k := 0) (fa_29 rfl) ?_
  refine fo_iconst (fa_29 rfl) fk_c_3 ?_
  refine fo_iload_n (k := 2) (fa_29 rfl) ?_
  refine fo_imul (fa_29 rfl) ?_
  refine fo_iconst (fa_29 rfl) fk_c_1 ?_
  refine fo_iadd (fa_29 rfl) ?_
  refine fo_virtual (by decide) fna_13 (fo_call (fa_29 rfl) fNs_virtual fsm_13 (by decide) fFil_0 fna_13 fx_13 (by rw [fP_13]; rfl) fh_29 ?_)
  refine fo_aload_n (k := 0) (fa_29 rfl) ?_
  refine fo_iload_n (k := 2) (fa_29 rfl) ?_
  refine fo_iload_n (k := 1) (fa_29 rfl) ?_
  refine fo_virtual (by decide) fna_31 (fo_call (fa_29 rfl) fNs_virtual fsm_31 (by decide) fFil_1 fna_31 fx_31 (by rw [fP_31]; rfl) fh_29 ?_)
  refine fo_iconst (fa_29 rfl) fk_c_0 ?_
  refine fo_istore_n (k := 3) (fa_29 rfl) ?_
  exact fs_29_21
theorem fsm_29 : fSM 29 2 fm_29 := fs_methH (lp := [0, 21, 29, 81, 91]) (by decide) rfl ⟨fs_29_0, fs_29_21, fs_29_29, fs_29_81, fs_29_91, trivial⟩
theorem fP_34 : mj_P 34 = (1, 4, none, mcX1_addSpread, []) := rfl
theorem fa_34 {pc : Nat} {e : mjE} (h : mj_at mcX1_addSpread pc = some e) : fAt 34 pc e := by unfold fAt; rw [fP_34]; exact h
theorem fr_34 : (mj_P 34).2.2.1 = none := by rw [fP_34]
theorem fna_34 : (mj_P 34).2.1 = 4 := by rw [fP_34]
theorem fx_34 : 4 ≤ mj_mx.getD 34 0 := by decide
theorem fh_34 : (mj_P 34).2.2.2.2.isEmpty = true := by rw [fP_34]; rfl
theorem fs_34_41 : fSB 34 [0, 6] 1 41 f_34_41 := by
  unfold f_34_41
  refine fo_aload_n (k := 0) (fa_34 rfl) ?_
  refine fo_iload (k := 4) (fa_34 rfl) ?_
  refine fo_virtual (by decide) fna_14 (fo_call (fa_34 rfl) fNs_virtual fsm_14 (by decide) fFil_0 fna_14 fx_14 (by rw [fP_14]; rfl) fh_34 ?_)
  exact fo_ret (fa_34 rfl) fr_34
theorem fs_34_35 : fSB 34 [0, 6] 1 35 f_34_35 := by
  unfold f_34_35
  refine fo_iinc (k := 5) (fa_34 rfl) fk_c_1 ?_
  exact fo_goto (fa_34 rfl) (pcT := 6) rfl (fo_back (q := 6) rfl)
theorem fs_34_6 : fSB 34 [0, 6] 1 6 f_34_6 := by
  unfold f_34_6
  refine fo_iload (k := 5) (fa_34 rfl) ?_
  refine fo_bipush (fa_34 rfl) fk_b_31 ?_
  refine fo_icmp_ge (fa_34 rfl) (pcT := 41) rfl fs_34_41 ?_
  refine fo_iload_n (k := 1) (fa_34 rfl) ?_
  refine fo_iload (k := 5) (fa_34 rfl) ?_
  refine fo_static (by decide) (fo_callH (fa_34 rfl) fNs_static fsm_166 (by decide) fFil_0 fna_166 fx_166 (Or.inl rfl) fHd_nil ?_)
  refine fo_if_eq (fa_34 rfl) (pcT := 35) rfl fs_34_35 ?_
  refine fo_iload (k := 4) (fa_34 rfl) ?_
  refine fo_iconst (fa_34 rfl) fk_c_1 ?_
  refine fo_iload_n (k := 2) (fa_34 rfl) ?_
  refine fo_iload (k := 5) (fa_34 rfl) ?_
  refine fo_imul (fa_34 rfl) ?_
  refine fo_iload_n (k := 3) (fa_34 rfl) ?_
  refine fo_iadd (fa_34 rfl) ?_
  refine fo_ishl (fa_34 rfl) ?_
  refine fo_ior (fa_34 rfl) ?_
  refine fo_istore (k := 4) (fa_34 rfl) ?_
  exact fs_34_35
theorem fs_34_0 : fSB 34 [0, 6] 1 0 f_34_0 := by
  unfold f_34_0
  refine fo_iconst (fa_34 rfl) fk_c_0 ?_
  refine fo_istore (k := 4) (fa_34 rfl) ?_
  refine fo_iconst (fa_34 rfl) fk_c_0 ?_
  refine fo_istore (k := 5) (fa_34 rfl) ?_
  exact fs_34_6
theorem fsm_34 : fSM 34 1 fm_34 := fs_methH (lp := [0, 6]) (by decide) rfl ⟨fs_34_0, fs_34_6, trivial⟩
theorem fP_167 : mj_P 167 = (7, 2, (some .int), mcX7_placeOfBit, []) := rfl
theorem fa_167 {pc : Nat} {e : mjE} (h : mj_at mcX7_placeOfBit pc = some e) : fAt 167 pc e := by unfold fAt; rw [fP_167]; exact h
theorem fr_167 : (mj_P 167).2.2.1 = (some .int) := by rw [fP_167]
theorem fna_167 : (mj_P 167).2.1 = 2 := by rw [fP_167]
theorem fx_167 : 3 ≤ mj_mx.getD 167 0 := by decide
theorem fh_167 : (mj_P 167).2.2.2.2.isEmpty = true := by rw [fP_167]; rfl
theorem fs_167_39 : fSB 167 [0, 5] 0 39 f_167_39 := by
  unfold f_167_39
  refine fo_iconst (fa_167 rfl) fk_c_m1 ?_
  exact fo_iret (fa_167 rfl) fr_167 fw_int
theorem fs_167_33 : fSB 167 [0, 5] 0 33 f_167_33 := by
  unfold f_167_33
  refine fo_iinc (k := 4) (fa_167 rfl) fk_c_1 ?_
  exact fo_goto (fa_167 rfl) (pcT := 5) rfl (fo_back (q := 5) rfl)
theorem fs_167_30 : fSB 167 [0, 5] 0 30 f_167_30 := by
  unfold f_167_30
  refine fo_iinc (k := 3) (fa_167 rfl) fk_c_m1 ?_
  exact fs_167_33
theorem fs_167_5 : fSB 167 [0, 5] 0 5 f_167_5 := by
  unfold f_167_5
  refine fo_iload (k := 4) (fa_167 rfl) ?_
  refine fo_bipush (fa_167 rfl) fk_b_64 ?_
  refine fo_icmp_ge (fa_167 rfl) (pcT := 39) rfl fs_167_39 ?_
  refine fo_lload_n (k := 0) (fa_167 rfl) ?_
  refine fo_iload (k := 4) (fa_167 rfl) ?_
  exact fo_bad
theorem fs_167_0 : fSB 167 [0, 5] 0 0 f_167_0 := by
  unfold f_167_0
  refine fo_iload_n (k := 2) (fa_167 rfl) ?_
  refine fo_istore_n (k := 3) (fa_167 rfl) ?_
  refine fo_iconst (fa_167 rfl) fk_c_0 ?_
  refine fo_istore (k := 4) (fa_167 rfl) ?_
  exact fs_167_5
theorem fsm_167 : fSM 167 0 fm_167 := fs_methH (lp := [0, 5]) (by decide) rfl ⟨fs_167_0, fs_167_5, trivial⟩
theorem fP_35 : mj_P 35 = (1, 4, none, mcX1_addOrders, []) := rfl
theorem fa_35 {pc : Nat} {e : mjE} (h : mj_at mcX1_addOrders pc = some e) : fAt 35 pc e := by unfold fAt; rw [fP_35]; exact h
theorem fr_35 : (mj_P 35).2.2.1 = none := by rw [fP_35]
theorem fna_35 : (mj_P 35).2.1 = 4 := by rw [fP_35]
theorem fx_35 : 4 ≤ mj_mx.getD 35 0 := by decide
theorem fh_35 : (mj_P 35).2.2.2.2.isEmpty = true := by rw [fP_35]; rfl
theorem fs_35_75 : fSB 35 [0, 3, 20] 1 75 f_35_75 := by
  unfold f_35_75
  exact fo_ret (fa_35 rfl) fr_35
theorem fs_35_63 : fSB 35 [0, 3, 20] 1 63 f_35_63 := by
  unfold f_35_63
  refine fo_aload_n (k := 0) (fa_35 rfl) ?_
  refine fo_iload (k := 5) (fa_35 rfl) ?_
  refine fo_virtual (by decide) fna_14 (fo_call (fa_35 rfl) fNs_virtual fsm_14 (by decide) fFil_0 fna_14 fx_14 (by rw [fP_14]; rfl) fh_35 ?_)
  refine fo_iinc (k := 4) (fa_35 rfl) fk_c_3 ?_
  exact fo_goto (fa_35 rfl) (pcT := 3) rfl (fo_back (q := 3) rfl)
theorem fs_35_20 : fSB 35 [0, 3, 20] 1 20 f_35_20 := by
  unfold f_35_20
  refine fo_iload (k := 6) (fa_35 rfl) ?_
  refine fo_iconst (fa_35 rfl) fk_c_3 ?_
  refine fo_icmp_ge (fa_35 rfl) (pcT := 63) rfl fs_35_63 ?_
  refine fo_iload (k := 5) (fa_35 rfl) ?_
  refine fo_iconst (fa_35 rfl) fk_c_1 ?_
  refine fo_iload_n (k := 3) (fa_35 rfl) ?_
  refine fo_iload_n (k := 1) (fa_35 rfl) ?_
  refine fo_i2l (fa_35 rfl) ?_
  refine fo_iload (k := 6) (fa_35 rfl) ?_
  refine fo_static (by decide) (fo_callH (fa_35 rfl) fNs_static fsm_167 (by decide) fFil_2 fna_167 fx_167 (Or.inl rfl) fHd_nil ?_)
  refine fo_imul (fa_35 rfl) ?_
  refine fo_iload_n (k := 2) (fa_35 rfl) ?_
  refine fo_i2l (fa_35 rfl) ?_
  exact fo_bad
theorem fs_35_3 : fSB 35 [0, 3, 20] 1 3 f_35_3 := by
  unfold f_35_3
  refine fo_iload (k := 4) (fa_35 rfl) ?_
  refine fo_iconst (fa_35 rfl) fk_c_2 ?_
  refine fo_iadd (fa_35 rfl) ?_
  exact fo_bad
theorem fs_35_0 : fSB 35 [0, 3, 20] 1 0 f_35_0 := by
  unfold f_35_0
  refine fo_iconst (fa_35 rfl) fk_c_0 ?_
  refine fo_istore (k := 4) (fa_35 rfl) ?_
  exact fs_35_3
theorem fsm_35 : fSM 35 1 fm_35 := fs_methH (lp := [0, 3, 20]) (by decide) rfl ⟨fs_35_0, fs_35_3, fs_35_20, trivial⟩
theorem fP_33 : mj_P 33 = (1, 3, none, mcX1_makeProduct, []) := rfl
theorem fa_33 {pc : Nat} {e : mjE} (h : mj_at mcX1_makeProduct pc = some e) : fAt 33 pc e := by unfold fAt; rw [fP_33]; exact h
theorem fr_33 : (mj_P 33).2.2.1 = none := by rw [fP_33]
theorem fna_33 : (mj_P 33).2.1 = 3 := by rw [fP_33]
theorem fx_33 : 3 ≤ mj_mx.getD 33 0 := by decide
theorem fh_33 : (mj_P 33).2.2.2.2.isEmpty = true := by rw [fP_33]; rfl
theorem fs_33_165 : fSB 33 [0, 18, 30, 69, 78, 115, 127] 2 165 f_33_165 := by
  unfold f_33_165
  exact fo_ret (fa_33 rfl) fr_33
theorem fs_33_159 : fSB 33 [0, 18, 30, 69, 78, 115, 127] 2 159 f_33_159 := by
  unfold f_33_159
  refine fo_iinc (k := 4) (fa_33 rfl) fk_c_1 ?_
  exact fo_goto (fa_33 rfl) (pcT := 115) rfl (fo_back (q := 115) rfl)
theorem fs_33_127 : fSB 33 [0, 18, 30, 69, 78, 115, 127] 2 127 f_33_127 := by
  unfold f_33_127
  refine fo_iload (k := 5) (fa_33 rfl) ?_
  refine fo_aload_n (k := 2) (fa_33 rfl) ?_
  refine fo_geti (fa_33 rfl) (by decide) rfl ?_
  refine fo_icmp_ge (fa_33 rfl) (pcT := 159) rfl fs_33_159 ?_
  refine fo_aload_n (k := 0) (fa_33 rfl) ?_
  refine fo_aload_n (k := 1) (fa_33 rfl) ?_
  refine fo_iload (k := 4) (fa_33 rfl) ?_
  refine fo_virtual (by decide) fna_15 (fo_call (fa_33 rfl) fNs_virtual fsm_15 (by decide) fFil_0 fna_15 fx_15 (by rw [fP_15]; rfl) fh_33 ?_)
  refine fo_aload_n (k := 2) (fa_33 rfl) ?_
  refine fo_iload (k := 5) (fa_33 rfl) ?_
  refine fo_virtual (by decide) fna_15 (fo_call (fa_33 rfl) fNs_virtual fsm_15 (by decide) fFil_0 fna_15 fx_15 (by rw [fP_15]; rfl) fh_33 ?_)
  refine fo_iload_n (k := 3) (fa_33 rfl) ?_
  refine fo_virtual (by decide) fna_35 (fo_call (fa_33 rfl) fNs_virtual fsm_35 (by decide) fFil_3 fna_35 fx_35 (by rw [fP_35]; rfl) fh_33 ?_)
  refine fo_iinc (k := 5) (fa_33 rfl) fk_c_1 ?_
  exact fo_goto (fa_33 rfl) (pcT := 127) rfl (fo_back (q := 127) rfl)
theorem fs_33_115 : fSB 33 [0, 18, 30, 69, 78, 115, 127] 2 115 f_33_115 := by
  unfold f_33_115
  refine fo_iload (k := 4) (fa_33 rfl) ?_
  refine fo_aload_n (k := 1) (fa_33 rfl) ?_
  refine fo_geti (fa_33 rfl) (by decide) rfl ?_
  refine fo_icmp_ge (fa_33 rfl) (pcT := 165) rfl fs_33_165 ?_
  refine fo_iconst (fa_33 rfl) fk_c_0 ?_
  refine fo_istore (k := 5) (fa_33 rfl) ?_
  exact fs_33_127
theorem fs_33_112 : fSB 33 [0, 18, 30, 69, 78, 115, 127] 2 112 f_33_112 := by
  unfold f_33_112
  refine fo_iconst (fa_33 rfl) fk_c_0 ?_
  refine fo_istore (k := 4) (fa_33 rfl) ?_
  exact fs_33_115
theorem fs_33_106 : fSB 33 [0, 18, 30, 69, 78, 115, 127] 2 106 f_33_106 := by
  unfold f_33_106
  refine fo_iinc (k := 4) (fa_33 rfl) fk_c_1 ?_
  exact fo_goto (fa_33 rfl) (pcT := 69) rfl (fo_back (q := 69) rfl)
theorem fs_33_78 : fSB 33 [0, 18, 30, 69, 78, 115, 127] 2 78 f_33_78 := by
  unfold f_33_78
  refine fo_iload (k := 5) (fa_33 rfl) ?_
  refine fo_aload_n (k := 1) (fa_33 rfl) ?_
  refine fo_geti (fa_33 rfl) (by decide) rfl ?_
  refine fo_icmp_ge (fa_33 rfl) (pcT := 106) rfl fs_33_106 ?_
  refine fo_aload_n (k := 0) (fa_33 rfl) ?_
  refine fo_aload_n (k := 1) (fa_33 rfl) ?_
  refine fo_iload (k := 5) (fa_33 rfl) ?_
  refine fo_virtual (by decide) fna_15 (fo_call (fa_33 rfl) fNs_virtual fsm_15 (by decide) fFil_0 fna_15 fx_15 (by rw [fP_15]; rfl) fh_33 ?_)
  refine fo_iload_n (k := 3) (fa_33 rfl) ?_
  refine fo_iload (k := 4) (fa_33 rfl) ?_
  refine fo_virtual (by decide) fna_34 (fo_call (fa_33 rfl) fNs_virtual fsm_34 (by decide) fFil_2 fna_34 fx_34 (by rw [fP_34]; rfl) fh_33 ?_)
  refine fo_iinc (k := 5) (fa_33 rfl) fk_c_1 ?_
  exact fo_goto (fa_33 rfl) (pcT := 78) rfl (fo_back (q := 78) rfl)
theorem fs_33_69 : fSB 33 [0, 18, 30, 69, 78, 115, 127] 2 69 f_33_69 := by
  unfold f_33_69
  refine fo_iload (k := 4) (fa_33 rfl) ?_
  refine fo_iload_n (k := 3) (fa_33 rfl) ?_
  refine fo_icmp_ge (fa_33 rfl) (pcT := 112) rfl fs_33_112 ?_
  refine fo_iconst (fa_33 rfl) fk_c_0 ?_
  refine fo_istore (k := 5) (fa_33 rfl) ?_
  exact fs_33_78
theorem fs_33_66 : fSB 33 [0, 18, 30, 69, 78, 115, 127] 2 66 f_33_66 := by
  unfold f_33_66
  refine fo_iconst (fa_33 rfl) fk_c_0 ?_
  refine fo_istore (k := 4) (fa_33 rfl) ?_
  exact fs_33_69
theorem fs_33_60 : fSB 33 [0, 18, 30, 69, 78, 115, 127] 2 60 f_33_60 := by
  unfold f_33_60
  refine fo_iinc (k := 4) (fa_33 rfl) fk_c_1 ?_
  exact fo_goto (fa_33 rfl) (pcT := 18) rfl (fo_back (q := 18) rfl)
theorem fs_33_30 : fSB 33 [0, 18, 30, 69, 78, 115, 127] 2 30 f_33_30 := by
  unfold f_33_30
  refine fo_iload (k := 5) (fa_33 rfl) ?_
  refine fo_aload_n (k := 2) (fa_33 rfl) ?_
  refine fo_geti (fa_33 rfl) (by decide) rfl ?_
  refine fo_icmp_ge (fa_33 rfl) (pcT := 60) rfl fs_33_60 ?_
  refine fo_aload_n (k := 0) (fa_33 rfl) ?_
  refine fo_aload_n (k := 2) (fa_33 rfl) ?_
  refine fo_iload (k := 5) (fa_33 rfl) ?_
  refine fo_virtual (by decide) fna_15 (fo_call (fa_33 rfl) fNs_virtual fsm_15 (by decide) fFil_0 fna_15 fx_15 (by rw [fP_15]; rfl) fh_33 ?_)
  refine fo_iload_n (k := 3) (fa_33 rfl) ?_
  refine fo_iload (k := 4) (fa_33 rfl) ?_
  refine fo_imul (fa_33 rfl) ?_
  refine fo_ishl (fa_33 rfl) ?_
  refine fo_virtual (by decide) fna_14 (fo_call (fa_33 rfl) fNs_virtual fsm_14 (by decide) fFil_0 fna_14 fx_14 (by rw [fP_14]; rfl) fh_33 ?_)
  refine fo_iinc (k := 5) (fa_33 rfl) fk_c_1 ?_
  exact fo_goto (fa_33 rfl) (pcT := 30) rfl (fo_back (q := 30) rfl)
theorem fs_33_18 : fSB 33 [0, 18, 30, 69, 78, 115, 127] 2 18 f_33_18 := by
  unfold f_33_18
  refine fo_iload (k := 4) (fa_33 rfl) ?_
  refine fo_aload_n (k := 1) (fa_33 rfl) ?_
  refine fo_geti (fa_33 rfl) (by decide) rfl ?_
  refine fo_icmp_ge (fa_33 rfl) (pcT := 66) rfl fs_33_66 ?_
  refine fo_iconst (fa_33 rfl) fk_c_0 ?_
  refine fo_istore (k := 5) (fa_33 rfl) ?_
  exact fs_33_30
theorem fs_33_0 : fSB 33 [0, 18, 30, 69, 78, 115, 127] 2 0 f_33_0 := by
  unfold f_33_0
  refine fo_aload_n (k := 2) (fa_33 rfl) ?_
  refine fo_geti (fa_33 rfl) (by decide) rfl ?_
  refine fo_istore_n (k := 3) (fa_33 rfl) ?_
  refine fo_aload_n (k := 0) (fa_33 rfl) ?_
  refine fo_aload_n (k := 1) (fa_33 rfl) ?_
  refine fo_geti (fa_33 rfl) (by decide) rfl ?_
  refine fo_iload_n (k := 3) (fa_33 rfl) ?_
  refine fo_imul (fa_33 rfl) ?_
  refine fo_virtual (by decide) fna_13 (fo_call (fa_33 rfl) fNs_virtual fsm_13 (by decide) fFil_0 fna_13 fx_13 (by rw [fP_13]; rfl) fh_33 ?_)
  refine fo_iconst (fa_33 rfl) fk_c_0 ?_
  refine fo_istore (k := 4) (fa_33 rfl) ?_
  exact fs_33_18
theorem fsm_33 : fSM 33 2 fm_33 := fs_methH (lp := [0, 18, 30, 69, 78, 115, 127]) (by decide) rfl ⟨fs_33_0, fs_33_18, fs_33_30, fs_33_69, fs_33_78, fs_33_115, fs_33_127, trivial⟩
theorem fP_36 : mj_P 36 = (1, 2, none, mcX1_makeRest, []) := rfl
theorem fa_36 {pc : Nat} {e : mjE} (h : mj_at mcX1_makeRest pc = some e) : fAt 36 pc e := by unfold fAt; rw [fP_36]; exact h
theorem fr_36 : (mj_P 36).2.2.1 = none := by rw [fP_36]
theorem fna_36 : (mj_P 36).2.1 = 2 := by rw [fP_36]
theorem fx_36 : 2 ≤ mj_mx.getD 36 0 := by decide
theorem fh_36 : (mj_P 36).2.2.2.2.isEmpty = true := by rw [fP_36]; rfl
theorem fs_36_40 : fSB 36 [0, 10] 2 40 f_36_40 := by
  unfold f_36_40
  exact fo_ret (fa_36 rfl) fr_36
theorem fs_36_10 : fSB 36 [0, 10] 2 10 f_36_10 := by
  unfold f_36_10
  refine fo_iload_n (k := 2) (fa_36 rfl) ?_
  refine fo_aload_n (k := 1) (fa_36 rfl) ?_
  refine fo_geti (fa_36 rfl) (by decide) rfl ?_
  refine fo_icmp_ge (fa_36 rfl) (pcT := 40) rfl fs_36_40 ?_
  refine fo_aload_n (k := 0) (fa_36 rfl) ?_
  refine fo_aload_n (k := 1) (fa_36 rfl) ?_
  refine fo_virtual (by decide) fna_18 (fo_call (fa_36 rfl) fNs_virtual fsm_18 (by decide) fFil_0 fna_18 fx_18 (by rw [fP_18]; rfl) fh_36 ?_)
  refine fo_aload_n (k := 1) (fa_36 rfl) ?_
  refine fo_iload_n (k := 2) (fa_36 rfl) ?_
  refine fo_virtual (by decide) fna_15 (fo_call (fa_36 rfl) fNs_virtual fsm_15 (by decide) fFil_0 fna_15 fx_15 (by rw [fP_15]; rfl) fh_36 ?_)
  refine fo_iconst (fa_36 rfl) fk_c_m1 ?_
  refine fo_ixor (fa_36 rfl) ?_
  refine fo_iand (fa_36 rfl) ?_
  refine fo_virtual (by decide) fna_14 (fo_call (fa_36 rfl) fNs_virtual fsm_14 (by decide) fFil_0 fna_14 fx_14 (by rw [fP_14]; rfl) fh_36 ?_)
  refine fo_iinc (k := 2) (fa_36 rfl) fk_c_1 ?_
  exact fo_goto (fa_36 rfl) (pcT := 10) rfl (fo_back (q := 10) rfl)
theorem fs_36_0 : fSB 36 [0, 10] 2 0 f_36_0 := by
  unfold f_36_0
  refine fo_aload_n (k := 0) (fa_36 rfl) ?_
  refine fo_aload_n (k := 1) (fa_36 rfl) ?_
  refine fo_geti (fa_36 rfl) (by decide) rfl ?_
  refine fo_virtual (by decide) fna_13 (fo_call (fa_36 rfl) fNs_virtual fsm_13 (by decide) fFil_0 fna_13 fx_13 (by rw [fP_13]; rfl) fh_36 ?_)
  refine fo_iconst (fa_36 rfl) fk_c_0 ?_
  refine fo_istore_n (k := 2) (fa_36 rfl) ?_
  exact fs_36_10
theorem fsm_36 : fSM 36 2 fm_36 := fs_methH (lp := [0, 10]) (by decide) rfl ⟨fs_36_0, fs_36_10, trivial⟩
theorem fP_37 : mj_P 37 = (1, 2, none, mcX1_makeDual, []) := rfl
theorem fa_37 {pc : Nat} {e : mjE} (h : mj_at mcX1_makeDual pc = some e) : fAt 37 pc e := by unfold fAt; rw [fP_37]; exact h
theorem fr_37 : (mj_P 37).2.2.1 = none := by rw [fP_37]
theorem fna_37 : (mj_P 37).2.1 = 2 := by rw [fP_37]
theorem fx_37 : 2 ≤ mj_mx.getD 37 0 := by decide
theorem fh_37 : (mj_P 37).2.2.2.2.isEmpty = true := by rw [fP_37]; rfl
theorem fs_37_69 : fSB 37 [0, 10, 23] 1 69 f_37_69 := by
  unfold f_37_69
  exact fo_ret (fa_37 rfl) fr_37
theorem fs_37_58 : fSB 37 [0, 10, 23] 1 58 f_37_58 := by
  unfold f_37_58
  refine fo_aload_n (k := 0) (fa_37 rfl) ?_
  refine fo_iload_n (k := 3) (fa_37 rfl) ?_
  refine fo_virtual (by decide) fna_14 (fo_call (fa_37 rfl) fNs_virtual fsm_14 (by decide) fFil_0 fna_14 fx_14 (by rw [fP_14]; rfl) fh_37 ?_)
  refine fo_iinc (k := 2) (fa_37 rfl) fk_c_1 ?_
  exact fo_goto (fa_37 rfl) (pcT := 10) rfl (fo_back (q := 10) rfl)
theorem fs_37_52 : fSB 37 [0, 10, 23] 1 52 f_37_52 := by
  unfold f_37_52
  refine fo_iinc (k := 4) (fa_37 rfl) fk_c_1 ?_
  exact fo_goto (fa_37 rfl) (pcT := 23) rfl (fo_back (q := 23) rfl)
theorem fs_37_23 : fSB 37 [0, 10, 23] 1 23 f_37_23 := by
  unfold f_37_23
  refine fo_iload (k := 4) (fa_37 rfl) ?_
  refine fo_aload_n (k := 1) (fa_37 rfl) ?_
  refine fo_geti (fa_37 rfl) (by decide) rfl ?_
  refine fo_icmp_ge (fa_37 rfl) (pcT := 58) rfl fs_37_58 ?_
  refine fo_aload_n (k := 1) (fa_37 rfl) ?_
  refine fo_iload (k := 4) (fa_37 rfl) ?_
  refine fo_virtual (by decide) fna_15 (fo_call (fa_37 rfl) fNs_virtual fsm_15 (by decide) fFil_0 fna_15 fx_15 (by rw [fP_15]; rfl) fh_37 ?_)
  refine fo_iload_n (k := 2) (fa_37 rfl) ?_
  refine fo_static (by decide) (fo_callH (fa_37 rfl) fNs_static fsm_166 (by decide) fFil_0 fna_166 fx_166 (Or.inl rfl) fHd_nil ?_)
  refine fo_if_eq (fa_37 rfl) (pcT := 52) rfl fs_37_52 ?_
  refine fo_iload_n (k := 3) (fa_37 rfl) ?_
  refine fo_iconst (fa_37 rfl) fk_c_1 ?_
  refine fo_iload (k := 4) (fa_37 rfl) ?_
  refine fo_ishl (fa_37 rfl) ?_
  refine fo_ior (fa_37 rfl) ?_
  refine fo_istore_n (k := 3) (fa_37 rfl) ?_
  exact fs_37_52
theorem fs_37_10 : fSB 37 [0, 10, 23] 1 10 f_37_10 := by
  unfold f_37_10
  refine fo_iload_n (k := 2) (fa_37 rfl) ?_
  refine fo_aload_n (k := 1) (fa_37 rfl) ?_
  refine fo_geti (fa_37 rfl) (by decide) rfl ?_
  refine fo_icmp_ge (fa_37 rfl) (pcT := 69) rfl fs_37_69 ?_
  refine fo_iconst (fa_37 rfl) fk_c_0 ?_
  refine fo_istore_n (k := 3) (fa_37 rfl) ?_
  refine fo_iconst (fa_37 rfl) fk_c_0 ?_
  refine fo_istore (k := 4) (fa_37 rfl) ?_
  exact fs_37_23
theorem fs_37_0 : fSB 37 [0, 10, 23] 1 0 f_37_0 := by
  unfold f_37_0
  refine fo_aload_n (k := 0) (fa_37 rfl) ?_
  refine fo_aload_n (k := 1) (fa_37 rfl) ?_
  refine fo_geti (fa_37 rfl) (by decide) rfl ?_
  refine fo_virtual (by decide) fna_13 (fo_call (fa_37 rfl) fNs_virtual fsm_13 (by decide) fFil_0 fna_13 fx_13 (by rw [fP_13]; rfl) fh_37 ?_)
  refine fo_iconst (fa_37 rfl) fk_c_0 ?_
  refine fo_istore_n (k := 2) (fa_37 rfl) ?_
  exact fs_37_10
theorem fsm_37 : fSM 37 1 fm_37 := fs_methH (lp := [0, 10, 23]) (by decide) rfl ⟨fs_37_0, fs_37_10, fs_37_23, trivial⟩
theorem fP_39 : mj_P 39 = (1, 2, (some .int), mcX1_numberedAnew, []) := rfl
theorem fa_39 {pc : Nat} {e : mjE} (h : mj_at mcX1_numberedAnew pc = some e) : fAt 39 pc e := by unfold fAt; rw [fP_39]; exact h
theorem fr_39 : (mj_P 39).2.2.1 = (some .int) := by rw [fP_39]
theorem fna_39 : (mj_P 39).2.1 = 2 := by rw [fP_39]
theorem fx_39 : 2 ≤ mj_mx.getD 39 0 := by decide
theorem fh_39 : (mj_P 39).2.2.2.2.isEmpty = true := by rw [fP_39]; rfl
theorem fs_39_47 : fSB 39 [0, 7] 1 47 f_39_47 := by
  unfold f_39_47
  refine fo_iload_n (k := 2) (fa_39 rfl) ?_
  exact fo_iret (fa_39 rfl) fr_39 fw_int
theorem fs_39_41 : fSB 39 [0, 7] 1 41 f_39_41 := by
  unfold f_39_41
  refine fo_iinc (k := 4) (fa_39 rfl) fk_c_1 ?_
  exact fo_goto (fa_39 rfl) (pcT := 7) rfl (fo_back (q := 7) rfl)
theorem fs_39_38 : fSB 39 [0, 7] 1 38 f_39_38 := by
  unfold f_39_38
  refine fo_iinc (k := 3) (fa_39 rfl) fk_c_1 ?_
  exact fs_39_41
theorem fs_39_7 : fSB 39 [0, 7] 1 7 f_39_7 := by
  unfold f_39_7
  refine fo_iload (k := 4) (fa_39 rfl) ?_
  refine fo_bipush (fa_39 rfl) fk_b_31 ?_
  refine fo_icmp_ge (fa_39 rfl) (pcT := 47) rfl fs_39_47 ?_
  refine fo_iload_n (k := 1) (fa_39 rfl) ?_
  refine fo_iload (k := 4) (fa_39 rfl) ?_
  refine fo_static (by decide) (fo_callH (fa_39 rfl) fNs_static fsm_166 (by decide) fFil_0 fna_166 fx_166 (Or.inl rfl) fHd_nil ?_)
  refine fo_if_eq (fa_39 rfl) (pcT := 41) rfl fs_39_41 ?_
  refine fo_iload_n (k := 0) (fa_39 rfl) ?_
  refine fo_iload (k := 4) (fa_39 rfl) ?_
  refine fo_static (by decide) (fo_callH (fa_39 rfl) fNs_static fsm_166 (by decide) fFil_0 fna_166 fx_166 (Or.inl rfl) fHd_nil ?_)
  refine fo_if_eq (fa_39 rfl) (pcT := 38) rfl fs_39_38 ?_
  refine fo_iload_n (k := 2) (fa_39 rfl) ?_
  refine fo_iconst (fa_39 rfl) fk_c_1 ?_
  refine fo_iload_n (k := 3) (fa_39 rfl) ?_
  refine fo_ishl (fa_39 rfl) ?_
  refine fo_ior (fa_39 rfl) ?_
  refine fo_istore_n (k := 2) (fa_39 rfl) ?_
  exact fs_39_38
theorem fs_39_0 : fSB 39 [0, 7] 1 0 f_39_0 := by
  unfold f_39_0
  refine fo_iconst (fa_39 rfl) fk_c_0 ?_
  refine fo_istore_n (k := 2) (fa_39 rfl) ?_
  refine fo_iconst (fa_39 rfl) fk_c_0 ?_
  refine fo_istore_n (k := 3) (fa_39 rfl) ?_
  refine fo_iconst (fa_39 rfl) fk_c_0 ?_
  refine fo_istore (k := 4) (fa_39 rfl) ?_
  exact fs_39_7
theorem fsm_39 : fSM 39 1 fm_39 := fs_methH (lp := [0, 7]) (by decide) rfl ⟨fs_39_0, fs_39_7, trivial⟩
theorem fP_38 : mj_P 38 = (1, 4, none, mcX1_makePart, []) := rfl
theorem fa_38 {pc : Nat} {e : mjE} (h : mj_at mcX1_makePart pc = some e) : fAt 38 pc e := by unfold fAt; rw [fP_38]; exact h
theorem fr_38 : (mj_P 38).2.2.1 = none := by rw [fP_38]
theorem fna_38 : (mj_P 38).2.1 = 4 := by rw [fP_38]
theorem fx_38 : 4 ≤ mj_mx.getD 38 0 := by decide
theorem fh_38 : (mj_P 38).2.2.2.2.isEmpty = true := by rw [fP_38]; rfl
theorem fs_38_57 : fSB 38 [0, 11] 2 57 f_38_57 := by
  unfold f_38_57
  exact fo_ret (fa_38 rfl) fr_38
theorem fs_38_51 : fSB 38 [0, 11] 2 51 f_38_51 := by
  unfold f_38_51
  refine fo_iinc (k := 4) (fa_38 rfl) fk_c_1 ?_
  exact fo_goto (fa_38 rfl) (pcT := 11) rfl (fo_back (q := 11) rfl)
theorem fs_38_11 : fSB 38 [0, 11] 2 11 f_38_11 := by
  unfold f_38_11
  refine fo_iload (k := 4) (fa_38 rfl) ?_
  refine fo_aload_n (k := 1) (fa_38 rfl) ?_
  refine fo_geti (fa_38 rfl) (by decide) rfl ?_
  refine fo_icmp_ge (fa_38 rfl) (pcT := 57) rfl fs_38_57 ?_
  refine fo_iload (k := 4) (fa_38 rfl) ?_
  refine fo_iload_n (k := 2) (fa_38 rfl) ?_
  refine fo_icmp_eq (fa_38 rfl) (pcT := 51) rfl fs_38_51 ?_
  refine fo_aload_n (k := 1) (fa_38 rfl) ?_
  refine fo_iload (k := 4) (fa_38 rfl) ?_
  refine fo_virtual (by decide) fna_15 (fo_call (fa_38 rfl) fNs_virtual fsm_15 (by decide) fFil_0 fna_15 fx_15 (by rw [fP_15]; rfl) fh_38 ?_)
  refine fo_iload_n (k := 3) (fa_38 rfl) ?_
  refine fo_iand (fa_38 rfl) ?_
  refine fo_if_eq (fa_38 rfl) (pcT := 51) rfl fs_38_51 ?_
  refine fo_aload_n (k := 0) (fa_38 rfl) ?_
  refine fo_aload_n (k := 1) (fa_38 rfl) ?_
  refine fo_iload (k := 4) (fa_38 rfl) ?_
  refine fo_virtual (by decide) fna_15 (fo_call (fa_38 rfl) fNs_virtual fsm_15 (by decide) fFil_0 fna_15 fx_15 (by rw [fP_15]; rfl) fh_38 ?_)
  refine fo_iload_n (k := 3) (fa_38 rfl) ?_
  refine fo_static (by decide) (fo_call (fa_38 rfl) fNs_static fsm_39 (by decide) fFil_3 fna_39 fx_39 (by rw [fP_39]; rfl) fh_38 ?_)
  refine fo_virtual (by decide) fna_14 (fo_call (fa_38 rfl) fNs_virtual fsm_14 (by decide) fFil_0 fna_14 fx_14 (by rw [fP_14]; rfl) fh_38 ?_)
  exact fs_38_51
theorem fs_38_0 : fSB 38 [0, 11] 2 0 f_38_0 := by
  unfold f_38_0
  refine fo_aload_n (k := 0) (fa_38 rfl) ?_
  refine fo_iload_n (k := 3) (fa_38 rfl) ?_
  refine fo_static (by decide) (fo_call (fa_38 rfl) fNs_static fsm_272 (by decide) fFil_0 fna_272 fx_272 (by rw [fP_272]; rfl) fh_38 ?_)
  refine fo_virtual (by decide) fna_13 (fo_call (fa_38 rfl) fNs_virtual fsm_13 (by decide) fFil_0 fna_13 fx_13 (by rw [fP_13]; rfl) fh_38 ?_)
  refine fo_iconst (fa_38 rfl) fk_c_0 ?_
  refine fo_istore (k := 4) (fa_38 rfl) ?_
  exact fs_38_11
theorem fsm_38 : fSM 38 2 fm_38 := fs_methH (lp := [0, 11]) (by decide) rfl ⟨fs_38_0, fs_38_11, trivial⟩
theorem fP_61 : mj_P 61 = (5, 3, (some .boolean), mcX5_hasPlace, []) := rfl
theorem fa_61 {pc : Nat} {e : mjE} (h : mj_at mcX5_hasPlace pc = some e) : fAt 61 pc e := by unfold fAt; rw [fP_61]; exact h
theorem fr_61 : (mj_P 61).2.2.1 = (some .boolean) := by rw [fP_61]
theorem fna_61 : (mj_P 61).2.1 = 3 := by rw [fP_61]
theorem fx_61 : 3 ≤ mj_mx.getD 61 0 := by decide
theorem fh_61 : (mj_P 61).2.2.2.2.isEmpty = true := by rw [fP_61]; rfl
theorem fs_61_29 : fSB 61 [0] 0 29 f_61_29 := by
  unfold f_61_29
  exact fo_iret (fa_61 rfl) fr_61 fw_bool
theorem fs_61_28 : fSB 61 [0] 0 28 f_61_28 := by
  unfold f_61_28
  refine fo_iconst (fa_61 rfl) fk_c_0 ?_
  exact fs_61_29
theorem fs_61_0 : fSB 61 [0] 0 0 f_61_0 := by
  unfold f_61_0
  refine fo_iload_n (k := 1) (fa_61 rfl) ?_
  refine fo_if_lt (fa_61 rfl) (pcT := 28) rfl fs_61_28 ?_
  refine fo_iload_n (k := 1) (fa_61 rfl) ?_
  refine fo_aload_n (k := 0) (fa_61 rfl) ?_
  refine fo_geti (fa_61 rfl) (by decide) rfl ?_
  refine fo_icmp_ge (fa_61 rfl) (pcT := 28) rfl fs_61_28 ?_
  refine fo_iload_n (k := 2) (fa_61 rfl) ?_
  refine fo_if_lt (fa_61 rfl) (pcT := 28) rfl fs_61_28 ?_
  refine fo_iload_n (k := 2) (fa_61 rfl) ?_
  refine fo_aload_n (k := 0) (fa_61 rfl) ?_
  refine fo_geti (fa_61 rfl) (by decide) rfl ?_
  refine fo_icmp_ge (fa_61 rfl) (pcT := 28) rfl fs_61_28 ?_
  refine fo_iconst (fa_61 rfl) fk_c_1 ?_
  exact fo_goto (fa_61 rfl) (pcT := 29) rfl fs_61_29
theorem fsm_61 : fSM 61 0 fm_61 := fs_methH (lp := [0]) (by decide) rfl ⟨fs_61_0, trivial⟩
theorem fP_62 : mj_P 62 = (5, 3, (some .int), mcX5_at, []) := rfl
theorem fa_62 {pc : Nat} {e : mjE} (h : mj_at mcX5_at pc = some e) : fAt 62 pc e := by unfold fAt; rw [fP_62]; exact h
theorem fr_62 : (mj_P 62).2.2.1 = (some .int) := by rw [fP_62]
theorem fna_62 : (mj_P 62).2.1 = 3 := by rw [fP_62]
theorem fx_62 : 3 ≤ mj_mx.getD 62 0 := by decide
theorem fh_62 : (mj_P 62).2.2.2.2.isEmpty = true := by rw [fP_62]; rfl
theorem fs_62_24 : fSB 62 [0] 1 24 f_62_24 := by
  unfold f_62_24
  exact fo_iret (fa_62 rfl) fr_62 fw_int
theorem fs_62_23 : fSB 62 [0] 1 23 f_62_23 := by
  unfold f_62_23
  refine fo_iconst (fa_62 rfl) fk_c_0 ?_
  exact fs_62_24
theorem fs_62_0 : fSB 62 [0] 1 0 f_62_0 := by
  unfold f_62_0
  refine fo_aload_n (k := 0) (fa_62 rfl) ?_
  refine fo_iload_n (k := 1) (fa_62 rfl) ?_
  refine fo_iload_n (k := 2) (fa_62 rfl) ?_
  refine fo_virtual (by decide) fna_61 (fo_call (fa_62 rfl) fNs_virtual fsm_61 (by decide) fFil_0 fna_61 fx_61 (by rw [fP_61]; rfl) fh_62 ?_)
  refine fo_if_eq (fa_62 rfl) (pcT := 23) rfl fs_62_23 ?_
  refine fo_aload_n (k := 0) (fa_62 rfl) ?_
  refine fo_getr (fa_62 rfl) (by decide) rfl ?_
  refine fo_bipush (fa_62 rfl) fk_b_9 ?_
  refine fo_iload_n (k := 1) (fa_62 rfl) ?_
  refine fo_imul (fa_62 rfl) ?_
  refine fo_iload_n (k := 2) (fa_62 rfl) ?_
  refine fo_iadd (fa_62 rfl) ?_
  refine fo_iaload (fa_62 rfl) ?_
  exact fo_goto (fa_62 rfl) (pcT := 24) rfl fs_62_24
theorem fsm_62 : fSM 62 1 fm_62 := fs_methH (lp := [0]) (by decide) rfl ⟨fs_62_0, trivial⟩
theorem fP_40 : mj_P 40 = (1, 2, none, mcX1_addSigns, []) := rfl
theorem fa_40 {pc : Nat} {e : mjE} (h : mj_at mcX1_addSigns pc = some e) : fAt 40 pc e := by unfold fAt; rw [fP_40]; exact h
theorem fr_40 : (mj_P 40).2.2.1 = none := by rw [fP_40]
theorem fna_40 : (mj_P 40).2.1 = 2 := by rw [fP_40]
theorem fx_40 : 2 ≤ mj_mx.getD 40 0 := by decide
theorem fh_40 : (mj_P 40).2.2.2.2.isEmpty = true := by rw [fP_40]; rfl
theorem fs_40_86 : fSB 40 [0, 2, 15, 27] 2 86 f_40_86 := by
  unfold f_40_86
  exact fo_ret (fa_40 rfl) fr_40
theorem fs_40_75 : fSB 40 [0, 2, 15, 27] 2 75 f_40_75 := by
  unfold f_40_75
  refine fo_aload_n (k := 0) (fa_40 rfl) ?_
  refine fo_iload_n (k := 3) (fa_40 rfl) ?_
  refine fo_virtual (by decide) fna_14 (fo_call (fa_40 rfl) fNs_virtual fsm_14 (by decide) fFil_0 fna_14 fx_14 (by rw [fP_14]; rfl) fh_40 ?_)
  refine fo_iinc (k := 2) (fa_40 rfl) fk_c_1 ?_
  exact fo_goto (fa_40 rfl) (pcT := 2) rfl (fo_back (q := 2) rfl)
theorem fs_40_69 : fSB 40 [0, 2, 15, 27] 2 69 f_40_69 := by
  unfold f_40_69
  refine fo_iinc (k := 4) (fa_40 rfl) fk_c_1 ?_
  exact fo_goto (fa_40 rfl) (pcT := 15) rfl (fo_back (q := 15) rfl)
theorem fs_40_63 : fSB 40 [0, 2, 15, 27] 2 63 f_40_63 := by
  unfold f_40_63
  refine fo_iinc (k := 5) (fa_40 rfl) fk_c_1 ?_
  exact fo_goto (fa_40 rfl) (pcT := 27) rfl (fo_back (q := 27) rfl)
theorem fs_40_27 : fSB 40 [0, 2, 15, 27] 2 27 f_40_27 := by
  unfold f_40_27
  refine fo_iload (k := 5) (fa_40 rfl) ?_
  refine fo_aload_n (k := 1) (fa_40 rfl) ?_
  refine fo_geti (fa_40 rfl) (by decide) rfl ?_
  refine fo_icmp_ge (fa_40 rfl) (pcT := 69) rfl fs_40_69 ?_
  refine fo_aload_n (k := 1) (fa_40 rfl) ?_
  refine fo_iload (k := 4) (fa_40 rfl) ?_
  refine fo_iload (k := 5) (fa_40 rfl) ?_
  refine fo_virtual (by decide) fna_62 (fo_call (fa_40 rfl) fNs_virtual fsm_62 (by decide) fFil_0 fna_62 fx_62 (by rw [fP_62]; rfl) fh_40 ?_)
  refine fo_iload_n (k := 2) (fa_40 rfl) ?_
  refine fo_icmp_ne (fa_40 rfl) (pcT := 63) rfl fs_40_63 ?_
  refine fo_iload_n (k := 3) (fa_40 rfl) ?_
  refine fo_iconst (fa_40 rfl) fk_c_1 ?_
  refine fo_aload_n (k := 1) (fa_40 rfl) ?_
  refine fo_geti (fa_40 rfl) (by decide) rfl ?_
  refine fo_iload (k := 4) (fa_40 rfl) ?_
  refine fo_imul (fa_40 rfl) ?_
  refine fo_iload (k := 5) (fa_40 rfl) ?_
  refine fo_iadd (fa_40 rfl) ?_
  refine fo_ishl (fa_40 rfl) ?_
  refine fo_ior (fa_40 rfl) ?_
  refine fo_istore_n (k := 3) (fa_40 rfl) ?_
  exact fs_40_63
theorem fs_40_15 : fSB 40 [0, 2, 15, 27] 2 15 f_40_15 := by
  unfold f_40_15
  refine fo_iload (k := 4) (fa_40 rfl) ?_
  refine fo_aload_n (k := 1) (fa_40 rfl) ?_
  refine fo_geti (fa_40 rfl) (by decide) rfl ?_
  refine fo_icmp_ge (fa_40 rfl) (pcT := 75) rfl fs_40_75 ?_
  refine fo_iconst (fa_40 rfl) fk_c_0 ?_
  refine fo_istore (k := 5) (fa_40 rfl) ?_
  exact fs_40_27
theorem fs_40_2 : fSB 40 [0, 2, 15, 27] 2 2 f_40_2 := by
  unfold f_40_2
  refine fo_iload_n (k := 2) (fa_40 rfl) ?_
  refine fo_aload_n (k := 1) (fa_40 rfl) ?_
  refine fo_geti (fa_40 rfl) (by decide) rfl ?_
  refine fo_icmp_ge (fa_40 rfl) (pcT := 86) rfl fs_40_86 ?_
  refine fo_iconst (fa_40 rfl) fk_c_0 ?_
  refine fo_istore_n (k := 3) (fa_40 rfl) ?_
  refine fo_iconst (fa_40 rfl) fk_c_0 ?_
  refine fo_istore (k := 4) (fa_40 rfl) ?_
  exact fs_40_15
theorem fs_40_0 : fSB 40 [0, 2, 15, 27] 2 0 f_40_0 := by
  unfold f_40_0
  refine fo_iconst (fa_40 rfl) fk_c_0 ?_
  refine fo_istore_n (k := 2) (fa_40 rfl) ?_
  exact fs_40_2
theorem fsm_40 : fSM 40 2 fm_40 := fs_methH (lp := [0, 2, 15, 27]) (by decide) rfl ⟨fs_40_0, fs_40_2, fs_40_15, fs_40_27, trivial⟩
theorem fP_41 : mj_P 41 = (1, 2, none, mcX1_addRowsAndColumns, []) := rfl
theorem fa_41 {pc : Nat} {e : mjE} (h : mj_at mcX1_addRowsAndColumns pc = some e) : fAt 41 pc e := by unfold fAt; rw [fP_41]; exact h
theorem fr_41 : (mj_P 41).2.2.1 = none := by rw [fP_41]
theorem fna_41 : (mj_P 41).2.1 = 2 := by rw [fP_41]
theorem fx_41 : 2 ≤ mj_mx.getD 41 0 := by decide
theorem fh_41 : (mj_P 41).2.2.2.2.isEmpty = true := by rw [fP_41]; rfl
theorem fs_41_71 : fSB 41 [0, 2, 27, 37] 1 71 f_41_71 := by
  unfold f_41_71
  exact fo_ret (fa_41 rfl) fr_41
theorem fs_41_60 : fSB 41 [0, 2, 27, 37] 1 60 f_41_60 := by
  unfold f_41_60
  refine fo_aload_n (k := 0) (fa_41 rfl) ?_
  refine fo_iload_n (k := 3) (fa_41 rfl) ?_
  refine fo_virtual (by decide) fna_14 (fo_call (fa_41 rfl) fNs_virtual fsm_14 (by decide) fFil_0 fna_14 fx_14 (by rw [fP_14]; rfl) fh_41 ?_)
  refine fo_iinc (k := 2) (fa_41 rfl) fk_c_1 ?_
  exact fo_goto (fa_41 rfl) (pcT := 27) rfl (fo_back (q := 27) rfl)
theorem fs_41_37 : fSB 41 [0, 2, 27, 37] 1 37 f_41_37 := by
  unfold f_41_37
  refine fo_iload (k := 4) (fa_41 rfl) ?_
  refine fo_iload_n (k := 1) (fa_41 rfl) ?_
  refine fo_icmp_ge (fa_41 rfl) (pcT := 60) rfl fs_41_60 ?_
  refine fo_iload_n (k := 3) (fa_41 rfl) ?_
  refine fo_iconst (fa_41 rfl) fk_c_1 ?_
  refine fo_iload_n (k := 1) (fa_41 rfl) ?_
  refine fo_iload (k := 4) (fa_41 rfl) ?_
  refine fo_imul (fa_41 rfl) ?_
  refine fo_iload_n (k := 2) (fa_41 rfl) ?_
  refine fo_iadd (fa_41 rfl) ?_
  refine fo_ishl (fa_41 rfl) ?_
  refine fo_ior (fa_41 rfl) ?_
  refine fo_istore_n (k := 3) (fa_41 rfl) ?_
  refine fo_iinc (k := 4) (fa_41 rfl) fk_c_1 ?_
  exact fo_goto (fa_41 rfl) (pcT := 37) rfl (fo_back (q := 37) rfl)
theorem fs_41_27 : fSB 41 [0, 2, 27, 37] 1 27 f_41_27 := by
  unfold f_41_27
  refine fo_iload_n (k := 2) (fa_41 rfl) ?_
  refine fo_iload_n (k := 1) (fa_41 rfl) ?_
  refine fo_icmp_ge (fa_41 rfl) (pcT := 71) rfl fs_41_71 ?_
  refine fo_iconst (fa_41 rfl) fk_c_0 ?_
  refine fo_istore_n (k := 3) (fa_41 rfl) ?_
  refine fo_iconst (fa_41 rfl) fk_c_0 ?_
  refine fo_istore (k := 4) (fa_41 rfl) ?_
  exact fs_41_37
theorem fs_41_25 : fSB 41 [0, 2, 27, 37] 1 25 f_41_25 := by
  unfold f_41_25
  refine fo_iconst (fa_41 rfl) fk_c_0 ?_
  refine fo_istore_n (k := 2) (fa_41 rfl) ?_
  exact fs_41_27
theorem fs_41_2 : fSB 41 [0, 2, 27, 37] 1 2 f_41_2 := by
  unfold f_41_2
  refine fo_iload_n (k := 2) (fa_41 rfl) ?_
  refine fo_iload_n (k := 1) (fa_41 rfl) ?_
  refine fo_icmp_ge (fa_41 rfl) (pcT := 25) rfl fs_41_25 ?_
  refine fo_aload_n (k := 0) (fa_41 rfl) ?_
  refine fo_iload_n (k := 1) (fa_41 rfl) ?_
  refine fo_static (by decide) (fo_callH (fa_41 rfl) fNs_static fsm_165 (by decide) fFil_0 fna_165 fx_165 (Or.inl rfl) fHd_nil ?_)
  refine fo_iload_n (k := 1) (fa_41 rfl) ?_
  refine fo_iload_n (k := 2) (fa_41 rfl) ?_
  refine fo_imul (fa_41 rfl) ?_
  refine fo_ishl (fa_41 rfl) ?_
  refine fo_virtual (by decide) fna_14 (fo_call (fa_41 rfl) fNs_virtual fsm_14 (by decide) fFil_0 fna_14 fx_14 (by rw [fP_14]; rfl) fh_41 ?_)
  refine fo_iinc (k := 2) (fa_41 rfl) fk_c_1 ?_
  exact fo_goto (fa_41 rfl) (pcT := 2) rfl (fo_back (q := 2) rfl)
theorem fs_41_0 : fSB 41 [0, 2, 27, 37] 1 0 f_41_0 := by
  unfold f_41_0
  refine fo_iconst (fa_41 rfl) fk_c_0 ?_
  refine fo_istore_n (k := 2) (fa_41 rfl) ?_
  exact fs_41_2
theorem fsm_41 : fSM 41 1 fm_41 := fs_methH (lp := [0, 2, 27, 37]) (by decide) rfl ⟨fs_41_0, fs_41_2, fs_41_27, fs_41_37, trivial⟩
theorem fP_50 : mj_P 50 = (4, 2, (some .int), mcX4_onesOf, []) := rfl
theorem fa_50 {pc : Nat} {e : mjE} (h : mj_at mcX4_onesOf pc = some e) : fAt 50 pc e := by unfold fAt; rw [fP_50]; exact h
theorem fr_50 : (mj_P 50).2.2.1 = (some .int) := by rw [fP_50]
theorem fna_50 : (mj_P 50).2.1 = 2 := by rw [fP_50]
theorem fx_50 : 2 ≤ mj_mx.getD 50 0 := by decide
theorem fh_50 : (mj_P 50).2.2.2.2.isEmpty = true := by rw [fP_50]; rfl
theorem fs_50_22 : fSB 50 [0] 0 22 f_50_22 := by
  unfold f_50_22
  exact fo_iret (fa_50 rfl) fr_50 fw_int
theorem fs_50_16 : fSB 50 [0] 0 16 f_50_16 := by
  unfold f_50_16
  refine fo_aload_n (k := 0) (fa_50 rfl) ?_
  refine fo_getr (fa_50 rfl) (by decide) rfl ?_
  refine fo_iload_n (k := 1) (fa_50 rfl) ?_
  refine fo_iaload (fa_50 rfl) ?_
  exact fs_50_22
theorem fs_50_12 : fSB 50 [0] 0 12 f_50_12 := by
  unfold f_50_12
  refine fo_iconst (fa_50 rfl) fk_c_0 ?_
  exact fo_goto (fa_50 rfl) (pcT := 22) rfl fs_50_22
theorem fs_50_0 : fSB 50 [0] 0 0 f_50_0 := by
  unfold f_50_0
  refine fo_iload_n (k := 1) (fa_50 rfl) ?_
  refine fo_if_lt (fa_50 rfl) (pcT := 12) rfl fs_50_12 ?_
  refine fo_iload_n (k := 1) (fa_50 rfl) ?_
  refine fo_aload_n (k := 0) (fa_50 rfl) ?_
  refine fo_geti (fa_50 rfl) (by decide) rfl ?_
  refine fo_icmp_lt (fa_50 rfl) (pcT := 16) rfl fs_50_16 ?_
  exact fs_50_12
theorem fsm_50 : fSM 50 0 fm_50 := fs_methH (lp := [0]) (by decide) rfl ⟨fs_50_0, trivial⟩
theorem fP_57 : mj_P 57 = (4, 2, (some .int), mcX4_likeFirst, []) := rfl
theorem fa_57 {pc : Nat} {e : mjE} (h : mj_at mcX4_likeFirst pc = some e) : fAt 57 pc e := by unfold fAt; rw [fP_57]; exact h
theorem fr_57 : (mj_P 57).2.2.1 = (some .int) := by rw [fP_57]
theorem fna_57 : (mj_P 57).2.1 = 2 := by rw [fP_57]
theorem fx_57 : 2 ≤ mj_mx.getD 57 0 := by decide
theorem fh_57 : (mj_P 57).2.2.2.2.isEmpty = true := by rw [fP_57]; rfl
theorem fs_57_29 : fSB 57 [0] 1 29 f_57_29 := by
  unfold f_57_29
  refine fo_istore_n (k := 3) (fa_57 rfl) ?_
  refine fo_iload_n (k := 3) (fa_57 rfl) ?_
  refine fo_iconst (fa_57 rfl) fk_c_1 ?_
  refine fo_iushr (fa_57 rfl) ?_
  exact fo_iret (fa_57 rfl) fr_57 fw_int
theorem fs_57_18 : fSB 57 [0] 1 18 f_57_18 := by
  unfold f_57_18
  refine fo_iload_n (k := 2) (fa_57 rfl) ?_
  refine fo_iconst (fa_57 rfl) fk_c_m1 ?_
  refine fo_ixor (fa_57 rfl) ?_
  refine fo_aload_n (k := 0) (fa_57 rfl) ?_
  refine fo_geti (fa_57 rfl) (by decide) rfl ?_
  refine fo_static (by decide) (fo_callH (fa_57 rfl) fNs_static fsm_165 (by decide) fFil_0 fna_165 fx_165 (Or.inl rfl) fHd_nil ?_)
  refine fo_iand (fa_57 rfl) ?_
  exact fs_57_29
theorem fs_57_0 : fSB 57 [0] 1 0 f_57_0 := by
  unfold f_57_0
  refine fo_aload_n (k := 0) (fa_57 rfl) ?_
  refine fo_iload_n (k := 1) (fa_57 rfl) ?_
  refine fo_virtual (by decide) fna_50 (fo_call (fa_57 rfl) fNs_virtual fsm_50 (by decide) fFil_0 fna_50 fx_50 (by rw [fP_50]; rfl) fh_57 ?_)
  refine fo_istore_n (k := 2) (fa_57 rfl) ?_
  refine fo_iload_n (k := 2) (fa_57 rfl) ?_
  refine fo_iconst (fa_57 rfl) fk_c_0 ?_
  refine fo_static (by decide) (fo_callH (fa_57 rfl) fNs_static fsm_166 (by decide) fFil_0 fna_166 fx_166 (Or.inl rfl) fHd_nil ?_)
  refine fo_if_eq (fa_57 rfl) (pcT := 18) rfl fs_57_18 ?_
  refine fo_iload_n (k := 2) (fa_57 rfl) ?_
  exact fo_goto (fa_57 rfl) (pcT := 29) rfl fs_57_29
theorem fsm_57 : fSM 57 1 fm_57 := fs_methH (lp := [0]) (by decide) rfl ⟨fs_57_0, trivial⟩
theorem fP_42 : mj_P 42 = (1, 2, none, mcX1_makeOfRows, []) := rfl
theorem fa_42 {pc : Nat} {e : mjE} (h : mj_at mcX1_makeOfRows pc = some e) : fAt 42 pc e := by unfold fAt; rw [fP_42]; exact h
theorem fr_42 : (mj_P 42).2.2.1 = none := by rw [fP_42]
theorem fna_42 : (mj_P 42).2.1 = 2 := by rw [fP_42]
theorem fx_42 : 2 ≤ mj_mx.getD 42 0 := by decide
theorem fh_42 : (mj_P 42).2.2.2.2.isEmpty = true := by rw [fP_42]; rfl
theorem fs_42_35 : fSB 42 [0, 12] 2 35 f_42_35 := by
  unfold f_42_35
  exact fo_ret (fa_42 rfl) fr_42
theorem fs_42_12 : fSB 42 [0, 12] 2 12 f_42_12 := by
  unfold f_42_12
  refine fo_iload_n (k := 2) (fa_42 rfl) ?_
  refine fo_aload_n (k := 1) (fa_42 rfl) ?_
  refine fo_geti (fa_42 rfl) (by decide) rfl ?_
  refine fo_icmp_ge (fa_42 rfl) (pcT := 35) rfl fs_42_35 ?_
  refine fo_aload_n (k := 0) (fa_42 rfl) ?_
  refine fo_aload_n (k := 1) (fa_42 rfl) ?_
  refine fo_iload_n (k := 2) (fa_42 rfl) ?_
  refine fo_virtual (by decide) fna_57 (fo_call (fa_42 rfl) fNs_virtual fsm_57 (by decide) fFil_2 fna_57 fx_57 (by rw [fP_57]; rfl) fh_42 ?_)
  refine fo_virtual (by decide) fna_14 (fo_call (fa_42 rfl) fNs_virtual fsm_14 (by decide) fFil_0 fna_14 fx_14 (by rw [fP_14]; rfl) fh_42 ?_)
  refine fo_iinc (k := 2) (fa_42 rfl) fk_c_1 ?_
  exact fo_goto (fa_42 rfl) (pcT := 12) rfl (fo_back (q := 12) rfl)
theorem fs_42_0 : fSB 42 [0, 12] 2 0 f_42_0 := by
  unfold f_42_0
  refine fo_aload_n (k := 0) (fa_42 rfl) ?_
  refine fo_aload_n (k := 1) (fa_42 rfl) ?_
  refine fo_geti (fa_42 rfl) (by decide) rfl ?_
  refine fo_iconst (fa_42 rfl) fk_c_1 ?_
  refine fo_isub (fa_42 rfl) ?_
  refine fo_virtual (by decide) fna_13 (fo_call (fa_42 rfl) fNs_virtual fsm_13 (by decide) fFil_0 fna_13 fx_13 (by rw [fP_13]; rfl) fh_42 ?_)
  refine fo_iconst (fa_42 rfl) fk_c_1 ?_
  refine fo_istore_n (k := 2) (fa_42 rfl) ?_
  exact fs_42_12
theorem fsm_42 : fSM 42 2 fm_42 := fs_methH (lp := [0, 12]) (by decide) rfl ⟨fs_42_0, fs_42_12, trivial⟩
theorem fP_43 : mj_P 43 = (2, 1, (some .boolean), mcX2_hasOrder, []) := rfl
theorem fa_43 {pc : Nat} {e : mjE} (h : mj_at mcX2_hasOrder pc = some e) : fAt 43 pc e := by unfold fAt; rw [fP_43]; exact h
theorem fr_43 : (mj_P 43).2.2.1 = (some .boolean) := by rw [fP_43]
theorem fna_43 : (mj_P 43).2.1 = 1 := by rw [fP_43]
theorem fx_43 : 1 ≤ mj_mx.getD 43 0 := by decide
theorem fh_43 : (mj_P 43).2.2.2.2.isEmpty = true := by rw [fP_43]; rfl
theorem fs_43_22 : fSB 43 [0] 0 22 f_43_22 := by
  unfold f_43_22
  exact fo_iret (fa_43 rfl) fr_43 fw_bool
theorem fs_43_21 : fSB 43 [0] 0 21 f_43_21 := by
  unfold f_43_21
  refine fo_iconst (fa_43 rfl) fk_c_0 ?_
  exact fs_43_22
theorem fs_43_0 : fSB 43 [0] 0 0 f_43_0 := by
  unfold f_43_0
  refine fo_iload_n (k := 0) (fa_43 rfl) ?_
  refine fo_iconst (fa_43 rfl) fk_c_2 ?_
  refine fo_icmp_lt (fa_43 rfl) (pcT := 21) rfl fs_43_21 ?_
  refine fo_iload_n (k := 0) (fa_43 rfl) ?_
  refine fo_bipush (fa_43 rfl) fk_b_9 ?_
  refine fo_icmp_gt (fa_43 rfl) (pcT := 21) rfl fs_43_21 ?_
  refine fo_iload_n (k := 0) (fa_43 rfl) ?_
  refine fo_bipush (fa_43 rfl) fk_b_6 ?_
  refine fo_icmp_eq (fa_43 rfl) (pcT := 21) rfl fs_43_21 ?_
  refine fo_iconst (fa_43 rfl) fk_c_1 ?_
  exact fo_goto (fa_43 rfl) (pcT := 22) rfl fs_43_22
theorem fsm_43 : fSM 43 0 fm_43 := fs_methH (lp := [0]) (by decide) rfl ⟨fs_43_0, trivial⟩
theorem fP_48 : mj_P 48 = (4, 1, none, mcX4_init, []) := rfl
theorem fa_48 {pc : Nat} {e : mjE} (h : mj_at mcX4_init pc = some e) : fAt 48 pc e := by unfold fAt; rw [fP_48]; exact h
theorem fr_48 : (mj_P 48).2.2.1 = none := by rw [fP_48]
theorem fna_48 : (mj_P 48).2.1 = 1 := by rw [fP_48]
theorem fx_48 : 1 ≤ mj_mx.getD 48 0 := by decide
theorem fh_48 : (mj_P 48).2.2.2.2.isEmpty = true := by rw [fP_48]; rfl
theorem fs_48_0 : fSB 48 [0] 0 0 f_48_0 := by
  unfold f_48_0
  refine fo_aload_n (k := 0) (fa_48 rfl) ?_
  refine fo_objinit (fa_48 rfl) ?_
  refine fo_aload_n (k := 0) (fa_48 rfl) ?_
  refine fo_bipush (fa_48 rfl) fk_b_24 ?_
  refine fo_newarray (fa_48 rfl) rfl (by decide) (by decide) fel_20 ?_
  refine fo_putr (fa_48 rfl) (by decide) rfl ?_
  refine fo_aload_n (k := 0) (fa_48 rfl) ?_
  refine fo_iconst (fa_48 rfl) fk_c_0 ?_
  refine fo_puti (fa_48 rfl) (by decide) rfl ?_
  exact fo_ret (fa_48 rfl) fr_48
theorem fsm_48 : fSM 48 0 fm_48 := fs_methH (lp := [0]) (by decide) rfl ⟨fs_48_0, trivial⟩
theorem fP_60 : mj_P 60 = (5, 1, none, mcX5_init, []) := rfl
theorem fa_60 {pc : Nat} {e : mjE} (h : mj_at mcX5_init pc = some e) : fAt 60 pc e := by unfold fAt; rw [fP_60]; exact h
theorem fr_60 : (mj_P 60).2.2.1 = none := by rw [fP_60]
theorem fna_60 : (mj_P 60).2.1 = 1 := by rw [fP_60]
theorem fx_60 : 1 ≤ mj_mx.getD 60 0 := by decide
theorem fh_60 : (mj_P 60).2.2.2.2.isEmpty = true := by rw [fP_60]; rfl
theorem fs_60_0 : fSB 60 [0] 0 0 f_60_0 := by
  unfold f_60_0
  refine fo_aload_n (k := 0) (fa_60 rfl) ?_
  refine fo_objinit (fa_60 rfl) ?_
  refine fo_aload_n (k := 0) (fa_60 rfl) ?_
  refine fo_bipush (fa_60 rfl) fk_b_81 ?_
  refine fo_newarray (fa_60 rfl) rfl (by decide) (by decide) fel_20 ?_
  refine fo_putr (fa_60 rfl) (by decide) rfl ?_
  refine fo_aload_n (k := 0) (fa_60 rfl) ?_
  refine fo_iconst (fa_60 rfl) fk_c_0 ?_
  refine fo_puti (fa_60 rfl) (by decide) rfl ?_
  exact fo_ret (fa_60 rfl) fr_60
theorem fsm_60 : fSM 60 0 fm_60 := fs_methH (lp := [0]) (by decide) rfl ⟨fs_60_0, trivial⟩
theorem fP_47 : mj_P 47 = (3, 1, none, mcX3_init, []) := rfl
theorem fa_47 {pc : Nat} {e : mjE} (h : mj_at mcX3_init pc = some e) : fAt 47 pc e := by unfold fAt; rw [fP_47]; exact h
theorem fr_47 : (mj_P 47).2.2.1 = none := by rw [fP_47]
theorem fna_47 : (mj_P 47).2.1 = 1 := by rw [fP_47]
theorem fx_47 : 1 ≤ mj_mx.getD 47 0 := by decide
theorem fh_47 : (mj_P 47).2.2.2.2.isEmpty = true := by rw [fP_47]; rfl
theorem fs_47_0 : fSB 47 [0] 1 0 f_47_0 := by
  unfold f_47_0
  refine fo_aload_n (k := 0) (fa_47 rfl) ?_
  refine fo_objinit (fa_47 rfl) ?_
  refine fo_aload_n (k := 0) (fa_47 rfl) ?_
  refine fo_new (fa_47 rfl) fd_1 (by decide) rfl (by decide) ?_
  refine fo_dup (fa_47 rfl) ?_
  refine fo_special (by decide) fna_12 (fo_callH (fa_47 rfl) fNs_special fsm_12 (by decide) fFil_0 fna_12 fx_12 (Or.inl rfl) fHd_nil ?_)
  refine fo_putr (fa_47 rfl) (by decide) rfl ?_
  refine fo_aload_n (k := 0) (fa_47 rfl) ?_
  refine fo_new (fa_47 rfl) fd_4 (by decide) rfl (by decide) ?_
  refine fo_dup (fa_47 rfl) ?_
  refine fo_special (by decide) fna_60 (fo_callH (fa_47 rfl) fNs_special fsm_60 (by decide) fFil_0 fna_60 fx_60 (Or.inl rfl) fHd_nil ?_)
  refine fo_putr (fa_47 rfl) (by decide) rfl ?_
  refine fo_aload_n (k := 0) (fa_47 rfl) ?_
  refine fo_new (fa_47 rfl) fd_3 (by decide) rfl (by decide) ?_
  refine fo_dup (fa_47 rfl) ?_
  refine fo_special (by decide) fna_48 (fo_callH (fa_47 rfl) fNs_special fsm_48 (by decide) fFil_0 fna_48 fx_48 (Or.inl rfl) fHd_nil ?_)
  refine fo_putr (fa_47 rfl) (by decide) rfl ?_
  refine fo_aload_n (k := 0) (fa_47 rfl) ?_
  refine fo_iconst (fa_47 rfl) fk_c_0 ?_
  refine fo_puti (fa_47 rfl) (by decide) rfl ?_
  refine fo_aload_n (k := 0) (fa_47 rfl) ?_
  refine fo_iconst (fa_47 rfl) fk_c_0 ?_
  refine fo_puti (fa_47 rfl) (by decide) rfl ?_
  exact fo_ret (fa_47 rfl) fr_47
theorem fsm_47 : fSM 47 1 fm_47 := fs_methH (lp := [0]) (by decide) rfl ⟨fs_47_0, trivial⟩
theorem fP_49 : mj_P 49 = (4, 3, (some .int), mcX4_signAt, []) := rfl
theorem fa_49 {pc : Nat} {e : mjE} (h : mj_at mcX4_signAt pc = some e) : fAt 49 pc e := by unfold fAt; rw [fP_49]; exact h
theorem fr_49 : (mj_P 49).2.2.1 = (some .int) := by rw [fP_49]
theorem fna_49 : (mj_P 49).2.1 = 3 := by rw [fP_49]
theorem fx_49 : 3 ≤ mj_mx.getD 49 0 := by decide
theorem fh_49 : (mj_P 49).2.2.2.2.isEmpty = true := by rw [fP_49]; rfl
theorem fs_49_17 : fSB 49 [0] 1 17 f_49_17 := by
  unfold f_49_17
  exact fo_iret (fa_49 rfl) fr_49 fw_int
theorem fs_49_16 : fSB 49 [0] 1 16 f_49_16 := by
  unfold f_49_16
  refine fo_iconst (fa_49 rfl) fk_c_m1 ?_
  exact fs_49_17
theorem fs_49_0 : fSB 49 [0] 1 0 f_49_0 := by
  unfold f_49_0
  refine fo_aload_n (k := 0) (fa_49 rfl) ?_
  refine fo_iload_n (k := 1) (fa_49 rfl) ?_
  refine fo_virtual (by decide) fna_50 (fo_call (fa_49 rfl) fNs_virtual fsm_50 (by decide) fFil_0 fna_50 fx_50 (by rw [fP_50]; rfl) fh_49 ?_)
  refine fo_iload_n (k := 2) (fa_49 rfl) ?_
  refine fo_static (by decide) (fo_callH (fa_49 rfl) fNs_static fsm_166 (by decide) fFil_0 fna_166 fx_166 (Or.inl rfl) fHd_nil ?_)
  refine fo_if_eq (fa_49 rfl) (pcT := 16) rfl fs_49_16 ?_
  refine fo_iconst (fa_49 rfl) fk_c_1 ?_
  exact fo_goto (fa_49 rfl) (pcT := 17) rfl fs_49_17
theorem fsm_49 : fSM 49 1 fm_49 := fs_methH (lp := [0]) (by decide) rfl ⟨fs_49_0, trivial⟩
theorem fP_51 : mj_P 51 = (4, 3, none, mcX4_setRow, []) := rfl
theorem fa_51 {pc : Nat} {e : mjE} (h : mj_at mcX4_setRow pc = some e) : fAt 51 pc e := by unfold fAt; rw [fP_51]; exact h
theorem fr_51 : (mj_P 51).2.2.1 = none := by rw [fP_51]
theorem fna_51 : (mj_P 51).2.1 = 3 := by rw [fP_51]
theorem fx_51 : 3 ≤ mj_mx.getD 51 0 := by decide
theorem fh_51 : (mj_P 51).2.2.2.2.isEmpty = true := by rw [fP_51]; rfl
theorem fs_51_19 : fSB 51 [0] 0 19 f_51_19 := by
  unfold f_51_19
  exact fo_ret (fa_51 rfl) fr_51
theorem fs_51_0 : fSB 51 [0] 0 0 f_51_0 := by
  unfold f_51_0
  refine fo_iload_n (k := 1) (fa_51 rfl) ?_
  refine fo_if_lt (fa_51 rfl) (pcT := 19) rfl fs_51_19 ?_
  refine fo_iload_n (k := 1) (fa_51 rfl) ?_
  refine fo_aload_n (k := 0) (fa_51 rfl) ?_
  refine fo_geti (fa_51 rfl) (by decide) rfl ?_
  refine fo_icmp_ge (fa_51 rfl) (pcT := 19) rfl fs_51_19 ?_
  refine fo_aload_n (k := 0) (fa_51 rfl) ?_
  refine fo_getr (fa_51 rfl) (by decide) rfl ?_
  refine fo_iload_n (k := 1) (fa_51 rfl) ?_
  refine fo_iload_n (k := 2) (fa_51 rfl) ?_
  refine fo_iastore (fa_51 rfl) ?_
  exact fs_51_19
theorem fsm_51 : fSM 51 0 fm_51 := fs_methH (lp := [0]) (by decide) rfl ⟨fs_51_0, trivial⟩
theorem fP_52 : mj_P 52 = (4, 2, none, mcX4_take, []) := rfl
theorem fa_52 {pc : Nat} {e : mjE} (h : mj_at mcX4_take pc = some e) : fAt 52 pc e := by unfold fAt; rw [fP_52]; exact h
theorem fr_52 : (mj_P 52).2.2.1 = none := by rw [fP_52]
theorem fna_52 : (mj_P 52).2.1 = 2 := by rw [fP_52]
theorem fx_52 : 2 ≤ mj_mx.getD 52 0 := by decide
theorem fh_52 : (mj_P 52).2.2.2.2.isEmpty = true := by rw [fP_52]; rfl
theorem fs_52_0 : fSB 52 [0] 0 0 f_52_0 := by
  unfold f_52_0
  refine fo_aload_n (k := 0) (fa_52 rfl) ?_
  refine fo_aload_n (k := 1) (fa_52 rfl) ?_
  refine fo_geti (fa_52 rfl) (by decide) rfl ?_
  refine fo_puti (fa_52 rfl) (by decide) rfl ?_
  refine fo_aload_n (k := 1) (fa_52 rfl) ?_
  refine fo_getr (fa_52 rfl) (by decide) rfl ?_
  refine fo_iconst (fa_52 rfl) fk_c_0 ?_
  refine fo_aload_n (k := 0) (fa_52 rfl) ?_
  refine fo_getr (fa_52 rfl) (by decide) rfl ?_
  refine fo_iconst (fa_52 rfl) fk_c_0 ?_
  refine fo_bipush (fa_52 rfl) fk_b_24 ?_
  refine fo_acopy (fa_52 rfl) ?_
  exact fo_ret (fa_52 rfl) fr_52
theorem fsm_52 : fSM 52 0 fm_52 := fs_methH (lp := [0]) (by decide) rfl ⟨fs_52_0, trivial⟩
theorem fP_53 : mj_P 53 = (4, 2, (some .long), mcX4_addTo, []) := rfl
theorem fa_53 {pc : Nat} {e : mjE} (h : mj_at mcX4_addTo pc = some e) : fAt 53 pc e := by unfold fAt; rw [fP_53]; exact h
theorem fr_53 : (mj_P 53).2.2.1 = (some .long) := by rw [fP_53]
theorem fna_53 : (mj_P 53).2.1 = 2 := by rw [fP_53]
theorem fx_53 : 3 ≤ mj_mx.getD 53 0 := by decide
theorem fh_53 : (mj_P 53).2.2.2.2.isEmpty = true := by rw [fP_53]; rfl
theorem fs_53_64 : fSB 53 [0, 15, 27] 2 64 f_53_64 := by
  unfold f_53_64
  refine fo_lload_n (k := 3) (fa_53 rfl) ?_
  exact fo_lret (fa_53 rfl) fr_53
theorem fs_53_58 : fSB 53 [0, 15, 27] 2 58 f_53_58 := by
  unfold f_53_58
  refine fo_iinc (k := 5) (fa_53 rfl) fk_c_1 ?_
  exact fo_goto (fa_53 rfl) (pcT := 15) rfl (fo_back (q := 15) rfl)
theorem fs_53_27 : fSB 53 [0, 15, 27] 2 27 f_53_27 := by
  unfold f_53_27
  refine fo_iload (k := 6) (fa_53 rfl) ?_
  refine fo_aload_n (k := 0) (fa_53 rfl) ?_
  refine fo_geti (fa_53 rfl) (by decide) rfl ?_
  refine fo_icmp_ge (fa_53 rfl) (pcT := 58) rfl fs_53_58 ?_
  refine fo_ldc2 (fa_53 rfl) ?_
  refine fo_lload_n (k := 3) (fa_53 rfl) ?_
  refine fo_lmul (fa_53 rfl) ?_
  refine fo_aload_n (k := 0) (fa_53 rfl) ?_
  refine fo_iload (k := 5) (fa_53 rfl) ?_
  refine fo_iload (k := 6) (fa_53 rfl) ?_
  refine fo_virtual (by decide) fna_49 (fo_call (fa_53 rfl) fNs_virtual fsm_49 (by decide) fFil_0 fna_49 fx_49 (by rw [fP_49]; rfl) fh_53 ?_)
  refine fo_i2l (fa_53 rfl) ?_
  refine fo_ladd (fa_53 rfl) ?_
  refine fo_lstore_n (k := 3) (fa_53 rfl) ?_
  refine fo_iinc (k := 6) (fa_53 rfl) fk_c_1 ?_
  exact fo_goto (fa_53 rfl) (pcT := 27) rfl (fo_back (q := 27) rfl)
theorem fs_53_15 : fSB 53 [0, 15, 27] 2 15 f_53_15 := by
  unfold f_53_15
  refine fo_iload (k := 5) (fa_53 rfl) ?_
  refine fo_aload_n (k := 0) (fa_53 rfl) ?_
  refine fo_geti (fa_53 rfl) (by decide) rfl ?_
  refine fo_icmp_ge (fa_53 rfl) (pcT := 64) rfl fs_53_64 ?_
  refine fo_iconst (fa_53 rfl) fk_c_0 ?_
  refine fo_istore (k := 6) (fa_53 rfl) ?_
  exact fs_53_27
theorem fs_53_0 : fSB 53 [0, 15, 27] 2 0 f_53_0 := by
  unfold f_53_0
  refine fo_ldc2 (fa_53 rfl) ?_
  refine fo_lload_n (k := 1) (fa_53 rfl) ?_
  refine fo_lmul (fa_53 rfl) ?_
  refine fo_aload_n (k := 0) (fa_53 rfl) ?_
  refine fo_geti (fa_53 rfl) (by decide) rfl ?_
  refine fo_i2l (fa_53 rfl) ?_
  refine fo_ladd (fa_53 rfl) ?_
  refine fo_lstore_n (k := 3) (fa_53 rfl) ?_
  refine fo_iconst (fa_53 rfl) fk_c_0 ?_
  refine fo_istore (k := 5) (fa_53 rfl) ?_
  exact fs_53_15
theorem fsm_53 : fSM 53 2 fm_53 := fs_methH (lp := [0, 15, 27]) (by decide) rfl ⟨fs_53_0, fs_53_15, fs_53_27, trivial⟩
theorem fP_54 : mj_P 54 = (4, 2, (some .int), mcX4_changeRow, []) := rfl
theorem fa_54 {pc : Nat} {e : mjE} (h : mj_at mcX4_changeRow pc = some e) : fAt 54 pc e := by unfold fAt; rw [fP_54]; exact h
theorem fr_54 : (mj_P 54).2.2.1 = (some .int) := by rw [fP_54]
theorem fna_54 : (mj_P 54).2.1 = 2 := by rw [fP_54]
theorem fx_54 : 2 ≤ mj_mx.getD 54 0 := by decide
theorem fh_54 : (mj_P 54).2.2.2.2.isEmpty = true := by rw [fP_54]; rfl
theorem fs_54_0 : fSB 54 [0] 1 0 f_54_0 := by
  unfold f_54_0
  refine fo_aload_n (k := 0) (fa_54 rfl) ?_
  refine fo_iload_n (k := 1) (fa_54 rfl) ?_
  refine fo_aload_n (k := 0) (fa_54 rfl) ?_
  refine fo_iload_n (k := 1) (fa_54 rfl) ?_
  refine fo_virtual (by decide) fna_50 (fo_call (fa_54 rfl) fNs_virtual fsm_50 (by decide) fFil_0 fna_50 fx_50 (by rw [fP_50]; rfl) fh_54 ?_)
  refine fo_aload_n (k := 0) (fa_54 rfl) ?_
  refine fo_geti (fa_54 rfl) (by decide) rfl ?_
  refine fo_static (by decide) (fo_callH (fa_54 rfl) fNs_static fsm_165 (by decide) fFil_0 fna_165 fx_165 (Or.inl rfl) fHd_nil ?_)
  refine fo_ixor (fa_54 rfl) ?_
  refine fo_virtual (by decide) fna_51 (fo_call (fa_54 rfl) fNs_virtual fsm_51 (by decide) fFil_0 fna_51 fx_51 (by rw [fP_51]; rfl) fh_54 ?_)
  refine fo_aload_n (k := 0) (fa_54 rfl) ?_
  refine fo_iload_n (k := 1) (fa_54 rfl) ?_
  refine fo_virtual (by decide) fna_50 (fo_call (fa_54 rfl) fNs_virtual fsm_50 (by decide) fFil_0 fna_50 fx_50 (by rw [fP_50]; rfl) fh_54 ?_)
  refine fo_static (by decide) (fo_call (fa_54 rfl) fNs_static fsm_272 (by decide) fFil_0 fna_272 fx_272 (by rw [fP_272]; rfl) fh_54 ?_)
  exact fo_iret (fa_54 rfl) fr_54 fw_int
theorem fsm_54 : fSM 54 1 fm_54 := fs_methH (lp := [0]) (by decide) rfl ⟨fs_54_0, trivial⟩
theorem fP_55 : mj_P 55 = (4, 2, (some .int), mcX4_changeColumn, []) := rfl
theorem fa_55 {pc : Nat} {e : mjE} (h : mj_at mcX4_changeColumn pc = some e) : fAt 55 pc e := by unfold fAt; rw [fP_55]; exact h
theorem fr_55 : (mj_P 55).2.2.1 = (some .int) := by rw [fP_55]
theorem fna_55 : (mj_P 55).2.1 = 2 := by rw [fP_55]
theorem fx_55 : 2 ≤ mj_mx.getD 55 0 := by decide
theorem fh_55 : (mj_P 55).2.2.2.2.isEmpty = true := by rw [fP_55]; rfl
theorem fs_55_47 : fSB 55 [0, 4] 1 47 f_55_47 := by
  unfold f_55_47
  refine fo_iload_n (k := 2) (fa_55 rfl) ?_
  exact fo_iret (fa_55 rfl) fr_55 fw_int
theorem fs_55_41 : fSB 55 [0, 4] 1 41 f_55_41 := by
  unfold f_55_41
  refine fo_iinc (k := 3) (fa_55 rfl) fk_c_1 ?_
  exact fo_goto (fa_55 rfl) (pcT := 4) rfl (fo_back (q := 4) rfl)
theorem fs_55_4 : fSB 55 [0, 4] 1 4 f_55_4 := by
  unfold f_55_4
  refine fo_iload_n (k := 3) (fa_55 rfl) ?_
  refine fo_aload_n (k := 0) (fa_55 rfl) ?_
  refine fo_geti (fa_55 rfl) (by decide) rfl ?_
  refine fo_icmp_ge (fa_55 rfl) (pcT := 47) rfl fs_55_47 ?_
  refine fo_aload_n (k := 0) (fa_55 rfl) ?_
  refine fo_iload_n (k := 3) (fa_55 rfl) ?_
  refine fo_aload_n (k := 0) (fa_55 rfl) ?_
  refine fo_iload_n (k := 3) (fa_55 rfl) ?_
  refine fo_virtual (by decide) fna_50 (fo_call (fa_55 rfl) fNs_virtual fsm_50 (by decide) fFil_0 fna_50 fx_50 (by rw [fP_50]; rfl) fh_55 ?_)
  refine fo_iconst (fa_55 rfl) fk_c_1 ?_
  refine fo_iload_n (k := 1) (fa_55 rfl) ?_
  refine fo_ishl (fa_55 rfl) ?_
  refine fo_ixor (fa_55 rfl) ?_
  refine fo_virtual (by decide) fna_51 (fo_call (fa_55 rfl) fNs_virtual fsm_51 (by decide) fFil_0 fna_51 fx_51 (by rw [fP_51]; rfl) fh_55 ?_)
  refine fo_aload_n (k := 0) (fa_55 rfl) ?_
  refine fo_iload_n (k := 3) (fa_55 rfl) ?_
  refine fo_virtual (by decide) fna_50 (fo_call (fa_55 rfl) fNs_virtual fsm_50 (by decide) fFil_0 fna_50 fx_50 (by rw [fP_50]; rfl) fh_55 ?_)
  refine fo_iload_n (k := 1) (fa_55 rfl) ?_
  refine fo_static (by decide) (fo_callH (fa_55 rfl) fNs_static fsm_166 (by decide) fFil_0 fna_166 fx_166 (Or.inl rfl) fHd_nil ?_)
  refine fo_if_eq (fa_55 rfl) (pcT := 41) rfl fs_55_41 ?_
  refine fo_iinc (k := 2) (fa_55 rfl) fk_c_1 ?_
  exact fs_55_41
theorem fs_55_0 : fSB 55 [0, 4] 1 0 f_55_0 := by
  unfold f_55_0
  refine fo_iconst (fa_55 rfl) fk_c_0 ?_
  refine fo_istore_n (k := 2) (fa_55 rfl) ?_
  refine fo_iconst (fa_55 rfl) fk_c_0 ?_
  refine fo_istore_n (k := 3) (fa_55 rfl) ?_
  exact fs_55_4
theorem fsm_55 : fSM 55 1 fm_55 := fs_methH (lp := [0, 4]) (by decide) rfl ⟨fs_55_0, fs_55_4, trivial⟩
theorem fP_56 : mj_P 56 = (4, 1, (some .boolean), mcX4_areAllApart, []) := rfl
theorem fa_56 {pc : Nat} {e : mjE} (h : mj_at mcX4_areAllApart pc = some e) : fAt 56 pc e := by unfold fAt; rw [fP_56]; exact h
theorem fr_56 : (mj_P 56).2.2.1 = (some .boolean) := by rw [fP_56]
theorem fna_56 : (mj_P 56).2.1 = 1 := by rw [fP_56]
theorem fx_56 : 1 ≤ mj_mx.getD 56 0 := by decide
theorem fh_56 : (mj_P 56).2.2.2.2.isEmpty = true := by rw [fP_56]; rfl
theorem fs_56_54 : fSB 56 [0, 2, 12] 1 54 f_56_54 := by
  unfold f_56_54
  refine fo_iconst (fa_56 rfl) fk_c_1 ?_
  exact fo_iret (fa_56 rfl) fr_56 fw_bool
theorem fs_56_48 : fSB 56 [0, 2, 12] 1 48 f_56_48 := by
  unfold f_56_48
  refine fo_iinc (k := 1) (fa_56 rfl) fk_c_1 ?_
  exact fo_goto (fa_56 rfl) (pcT := 2) rfl (fo_back (q := 2) rfl)
theorem fs_56_42 : fSB 56 [0, 2, 12] 1 42 f_56_42 := by
  unfold f_56_42
  refine fo_iinc (k := 2) (fa_56 rfl) fk_c_1 ?_
  exact fo_goto (fa_56 rfl) (pcT := 12) rfl (fo_back (q := 12) rfl)
theorem fs_56_12 : fSB 56 [0, 2, 12] 1 12 f_56_12 := by
  unfold f_56_12
  refine fo_iload_n (k := 2) (fa_56 rfl) ?_
  refine fo_iload_n (k := 1) (fa_56 rfl) ?_
  refine fo_icmp_ge (fa_56 rfl) (pcT := 48) rfl fs_56_48 ?_
  refine fo_iconst (fa_56 rfl) fk_c_2 ?_
  refine fo_aload_n (k := 0) (fa_56 rfl) ?_
  refine fo_iload_n (k := 1) (fa_56 rfl) ?_
  refine fo_virtual (by decide) fna_50 (fo_call (fa_56 rfl) fNs_virtual fsm_50 (by decide) fFil_0 fna_50 fx_50 (by rw [fP_50]; rfl) fh_56 ?_)
  refine fo_aload_n (k := 0) (fa_56 rfl) ?_
  refine fo_iload_n (k := 2) (fa_56 rfl) ?_
  refine fo_virtual (by decide) fna_50 (fo_call (fa_56 rfl) fNs_virtual fsm_50 (by decide) fFil_0 fna_50 fx_50 (by rw [fP_50]; rfl) fh_56 ?_)
  refine fo_ixor (fa_56 rfl) ?_
  refine fo_static (by decide) (fo_call (fa_56 rfl) fNs_static fsm_272 (by decide) fFil_0 fna_272 fx_272 (by rw [fP_272]; rfl) fh_56 ?_)
  refine fo_imul (fa_56 rfl) ?_
  refine fo_aload_n (k := 0) (fa_56 rfl) ?_
  refine fo_geti (fa_56 rfl) (by decide) rfl ?_
  refine fo_icmp_eq (fa_56 rfl) (pcT := 42) rfl fs_56_42 ?_
  refine fo_iconst (fa_56 rfl) fk_c_0 ?_
  exact fo_iret (fa_56 rfl) fr_56 fw_bool
theorem fs_56_2 : fSB 56 [0, 2, 12] 1 2 f_56_2 := by
  unfold f_56_2
  refine fo_iload_n (k := 1) (fa_56 rfl) ?_
  refine fo_aload_n (k := 0) (fa_56 rfl) ?_
  refine fo_geti (fa_56 rfl) (by decide) rfl ?_
  refine fo_icmp_ge (fa_56 rfl) (pcT := 54) rfl fs_56_54 ?_
  refine fo_iconst (fa_56 rfl) fk_c_0 ?_
  refine fo_istore_n (k := 2) (fa_56 rfl) ?_
  exact fs_56_12
theorem fs_56_0 : fSB 56 [0, 2, 12] 1 0 f_56_0 := by
  unfold f_56_0
  refine fo_iconst (fa_56 rfl) fk_c_0 ?_
  refine fo_istore_n (k := 1) (fa_56 rfl) ?_
  exact fs_56_2
theorem fsm_56 : fSM 56 1 fm_56 := fs_methH (lp := [0, 2, 12]) (by decide) rfl ⟨fs_56_0, fs_56_2, fs_56_12, trivial⟩
theorem fP_58 : mj_P 58 = (4, 2, none, mcX4_makeDoubled, []) := rfl
theorem fa_58 {pc : Nat} {e : mjE} (h : mj_at mcX4_makeDoubled pc = some e) : fAt 58 pc e := by unfold fAt; rw [fP_58]; exact h
theorem fr_58 : (mj_P 58).2.2.1 = none := by rw [fP_58]
theorem fna_58 : (mj_P 58).2.1 = 2 := by rw [fP_58]
theorem fx_58 : 2 ≤ mj_mx.getD 58 0 := by decide
theorem fh_58 : (mj_P 58).2.2.2.2.isEmpty = true := by rw [fP_58]; rfl
theorem fs_58_68 : fSB 58 [0, 9, 22] 1 68 f_58_68 := by
  unfold f_58_68
  exact fo_ret (fa_58 rfl) fr_58
theorem fs_58_56 : fSB 58 [0, 9, 22] 1 56 f_58_56 := by
  unfold f_58_56
  refine fo_aload_n (k := 0) (fa_58 rfl) ?_
  refine fo_iload_n (k := 2) (fa_58 rfl) ?_
  refine fo_iload_n (k := 3) (fa_58 rfl) ?_
  refine fo_virtual (by decide) fna_51 (fo_call (fa_58 rfl) fNs_virtual fsm_51 (by decide) fFil_0 fna_51 fx_51 (by rw [fP_51]; rfl) fh_58 ?_)
  refine fo_iinc (k := 2) (fa_58 rfl) fk_c_1 ?_
  exact fo_goto (fa_58 rfl) (pcT := 9) rfl (fo_back (q := 9) rfl)
theorem fs_58_50 : fSB 58 [0, 9, 22] 1 50 f_58_50 := by
  unfold f_58_50
  refine fo_iinc (k := 4) (fa_58 rfl) fk_c_1 ?_
  exact fo_goto (fa_58 rfl) (pcT := 22) rfl (fo_back (q := 22) rfl)
theorem fs_58_22 : fSB 58 [0, 9, 22] 1 22 f_58_22 := by
  unfold f_58_22
  refine fo_iload (k := 4) (fa_58 rfl) ?_
  refine fo_aload_n (k := 0) (fa_58 rfl) ?_
  refine fo_geti (fa_58 rfl) (by decide) rfl ?_
  refine fo_icmp_ge (fa_58 rfl) (pcT := 56) rfl fs_58_56 ?_
  refine fo_iload_n (k := 2) (fa_58 rfl) ?_
  refine fo_iload (k := 4) (fa_58 rfl) ?_
  refine fo_iand (fa_58 rfl) ?_
  refine fo_static (by decide) (fo_call (fa_58 rfl) fNs_static fsm_272 (by decide) fFil_0 fna_272 fx_272 (by rw [fP_272]; rfl) fh_58 ?_)
  refine fo_iconst (fa_58 rfl) fk_c_2 ?_
  refine fo_irem (fa_58 rfl) ?_
  refine fo_if_ne (fa_58 rfl) (pcT := 50) rfl fs_58_50 ?_
  refine fo_iload_n (k := 3) (fa_58 rfl) ?_
  refine fo_iconst (fa_58 rfl) fk_c_1 ?_
  refine fo_iload (k := 4) (fa_58 rfl) ?_
  refine fo_ishl (fa_58 rfl) ?_
  refine fo_ior (fa_58 rfl) ?_
  refine fo_istore_n (k := 3) (fa_58 rfl) ?_
  exact fs_58_50
theorem fs_58_9 : fSB 58 [0, 9, 22] 1 9 f_58_9 := by
  unfold f_58_9
  refine fo_iload_n (k := 2) (fa_58 rfl) ?_
  refine fo_aload_n (k := 0) (fa_58 rfl) ?_
  refine fo_geti (fa_58 rfl) (by decide) rfl ?_
  refine fo_icmp_ge (fa_58 rfl) (pcT := 68) rfl fs_58_68 ?_
  refine fo_iconst (fa_58 rfl) fk_c_0 ?_
  refine fo_istore_n (k := 3) (fa_58 rfl) ?_
  refine fo_iconst (fa_58 rfl) fk_c_0 ?_
  refine fo_istore (k := 4) (fa_58 rfl) ?_
  exact fs_58_22
theorem fs_58_0 : fSB 58 [0, 9, 22] 1 0 f_58_0 := by
  unfold f_58_0
  refine fo_aload_n (k := 0) (fa_58 rfl) ?_
  refine fo_iconst (fa_58 rfl) fk_c_1 ?_
  refine fo_iload_n (k := 1) (fa_58 rfl) ?_
  refine fo_ishl (fa_58 rfl) ?_
  refine fo_puti (fa_58 rfl) (by decide) rfl ?_
  refine fo_iconst (fa_58 rfl) fk_c_0 ?_
  refine fo_istore_n (k := 2) (fa_58 rfl) ?_
  exact fs_58_9
theorem fsm_58 : fSM 58 1 fm_58 := fs_methH (lp := [0, 9, 22]) (by decide) rfl ⟨fs_58_0, fs_58_9, fs_58_22, trivial⟩
