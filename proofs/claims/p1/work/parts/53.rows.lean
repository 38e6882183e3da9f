theorem fP_59 : mj_P 59 = (4, 2, none, mcX4_makePrimes, []) := rfl
theorem fa_59 {pc : Nat} {e : mjE} (h : mj_at mcX4_makePrimes pc = some e) : fAt 59 pc e := by unfold fAt; rw [fP_59]; exact h
theorem fr_59 : (mj_P 59).2.2.1 = none := by rw [fP_59]
theorem fna_59 : (mj_P 59).2.1 = 2 := by rw [fP_59]
theorem fx_59 : 2 ≤ mj_mx.getD 59 0 := by decide
theorem fh_59 : (mj_P 59).2.2.2.2.isEmpty = true := by rw [fP_59]; rfl
theorem fs_59_116 : fSB 59 [0, 23, 48, 59] 2 116 f_59_116 := by
  unfold f_59_116
  exact fo_ret (fa_59 rfl) fr_59
theorem fs_59_101 : fSB 59 [0, 23, 48, 59] 2 101 f_59_101 := by
  unfold f_59_101
  refine fo_aload_n (k := 0) (fa_59 rfl) ?_
  refine fo_iload_n (k := 3) (fa_59 rfl) ?_
  refine fo_iconst (fa_59 rfl) fk_c_1 ?_
  refine fo_iadd (fa_59 rfl) ?_
  refine fo_iload (k := 4) (fa_59 rfl) ?_
  refine fo_virtual (by decide) fna_51 (fo_call (fa_59 rfl) fNs_virtual fsm_51 (by decide) fFil_0 fna_51 fx_51 (by rw [fP_51]; rfl) fh_59 ?_)
  refine fo_iinc (k := 3) (fa_59 rfl) fk_c_1 ?_
  exact fo_goto (fa_59 rfl) (pcT := 48) rfl (fo_back (q := 48) rfl)
theorem fs_59_95 : fSB 59 [0, 23, 48, 59] 2 95 f_59_95 := by
  unfold f_59_95
  refine fo_iinc (k := 5) (fa_59 rfl) fk_c_1 ?_
  exact fo_goto (fa_59 rfl) (pcT := 59) rfl (fo_back (q := 59) rfl)
theorem fs_59_59 : fSB 59 [0, 23, 48, 59] 2 59 f_59_59 := by
  unfold f_59_59
  refine fo_iload (k := 5) (fa_59 rfl) ?_
  refine fo_iload_n (k := 1) (fa_59 rfl) ?_
  refine fo_icmp_ge (fa_59 rfl) (pcT := 101) rfl fs_59_101 ?_
  refine fo_iload (k := 5) (fa_59 rfl) ?_
  refine fo_iload_n (k := 3) (fa_59 rfl) ?_
  refine fo_icmp_eq (fa_59 rfl) (pcT := 95) rfl fs_59_95 ?_
  refine fo_iload_n (k := 2) (fa_59 rfl) ?_
  refine fo_iload (k := 5) (fa_59 rfl) ?_
  refine fo_iload_n (k := 3) (fa_59 rfl) ?_
  refine fo_isub (fa_59 rfl) ?_
  refine fo_iload_n (k := 1) (fa_59 rfl) ?_
  refine fo_static (by decide) (fo_callH (fa_59 rfl) fNs_static fsm_164 (by decide) fFil_0 fna_164 fx_164 (Or.inl rfl) fHd_nil ?_)
  refine fo_static (by decide) (fo_callH (fa_59 rfl) fNs_static fsm_166 (by decide) fFil_0 fna_166 fx_166 (Or.inl rfl) fHd_nil ?_)
  refine fo_if_ne (fa_59 rfl) (pcT := 95) rfl fs_59_95 ?_
  refine fo_iload (k := 4) (fa_59 rfl) ?_
  refine fo_iconst (fa_59 rfl) fk_c_2 ?_
  refine fo_iload (k := 5) (fa_59 rfl) ?_
  refine fo_ishl (fa_59 rfl) ?_
  refine fo_ior (fa_59 rfl) ?_
  refine fo_istore (k := 4) (fa_59 rfl) ?_
  exact fs_59_95
theorem fs_59_48 : fSB 59 [0, 23, 48, 59] 2 48 f_59_48 := by
  unfold f_59_48
  refine fo_iload_n (k := 3) (fa_59 rfl) ?_
  refine fo_iload_n (k := 1) (fa_59 rfl) ?_
  refine fo_icmp_ge (fa_59 rfl) (pcT := 116) rfl fs_59_116 ?_
  refine fo_iconst (fa_59 rfl) fk_c_1 ?_
  refine fo_istore (k := 4) (fa_59 rfl) ?_
  refine fo_iconst (fa_59 rfl) fk_c_0 ?_
  refine fo_istore (k := 5) (fa_59 rfl) ?_
  exact fs_59_59
theorem fs_59_46 : fSB 59 [0, 23, 48, 59] 2 46 f_59_46 := by
  unfold f_59_46
  refine fo_iconst (fa_59 rfl) fk_c_0 ?_
  refine fo_istore_n (k := 3) (fa_59 rfl) ?_
  exact fs_59_48
theorem fs_59_23 : fSB 59 [0, 23, 48, 59] 2 23 f_59_23 := by
  unfold f_59_23
  refine fo_iload_n (k := 3) (fa_59 rfl) ?_
  refine fo_iload_n (k := 1) (fa_59 rfl) ?_
  refine fo_icmp_ge (fa_59 rfl) (pcT := 46) rfl fs_59_46 ?_
  refine fo_iload_n (k := 2) (fa_59 rfl) ?_
  refine fo_iconst (fa_59 rfl) fk_c_1 ?_
  refine fo_iload_n (k := 3) (fa_59 rfl) ?_
  refine fo_iload_n (k := 3) (fa_59 rfl) ?_
  refine fo_imul (fa_59 rfl) ?_
  refine fo_iload_n (k := 1) (fa_59 rfl) ?_
  refine fo_static (by decide) (fo_callH (fa_59 rfl) fNs_static fsm_164 (by decide) fFil_0 fna_164 fx_164 (Or.inl rfl) fHd_nil ?_)
  refine fo_ishl (fa_59 rfl) ?_
  refine fo_ior (fa_59 rfl) ?_
  refine fo_istore_n (k := 2) (fa_59 rfl) ?_
  refine fo_iinc (k := 3) (fa_59 rfl) fk_c_1 ?_
  exact fo_goto (fa_59 rfl) (pcT := 23) rfl (fo_back (q := 23) rfl)
theorem fs_59_0 : fSB 59 [0, 23, 48, 59] 2 0 f_59_0 := by
  unfold f_59_0
  refine fo_aload_n (k := 0) (fa_59 rfl) ?_
  refine fo_iload_n (k := 1) (fa_59 rfl) ?_
  refine fo_iconst (fa_59 rfl) fk_c_1 ?_
  refine fo_iadd (fa_59 rfl) ?_
  refine fo_puti (fa_59 rfl) (by decide) rfl ?_
  refine fo_aload_n (k := 0) (fa_59 rfl) ?_
  refine fo_iconst (fa_59 rfl) fk_c_0 ?_
  refine fo_aload_n (k := 0) (fa_59 rfl) ?_
  refine fo_geti (fa_59 rfl) (by decide) rfl ?_
  refine fo_static (by decide) (fo_callH (fa_59 rfl) fNs_static fsm_165 (by decide) fFil_0 fna_165 fx_165 (Or.inl rfl) fHd_nil ?_)
  refine fo_virtual (by decide) fna_51 (fo_call (fa_59 rfl) fNs_virtual fsm_51 (by decide) fFil_0 fna_51 fx_51 (by rw [fP_51]; rfl) fh_59 ?_)
  refine fo_iconst (fa_59 rfl) fk_c_0 ?_
  refine fo_istore_n (k := 2) (fa_59 rfl) ?_
  refine fo_iconst (fa_59 rfl) fk_c_1 ?_
  refine fo_istore_n (k := 3) (fa_59 rfl) ?_
  exact fs_59_23
theorem fsm_59 : fSM 59 2 fm_59 := fs_methH (lp := [0, 23, 48, 59]) (by decide) rfl ⟨fs_59_0, fs_59_23, fs_59_48, fs_59_59, trivial⟩
theorem fP_63 : mj_P 63 = (5, 4, none, mcX5_put, []) := rfl
theorem fa_63 {pc : Nat} {e : mjE} (h : mj_at mcX5_put pc = some e) : fAt 63 pc e := by unfold fAt; rw [fP_63]; exact h
theorem fr_63 : (mj_P 63).2.2.1 = none := by rw [fP_63]
theorem fna_63 : (mj_P 63).2.1 = 4 := by rw [fP_63]
theorem fx_63 : 4 ≤ mj_mx.getD 63 0 := by decide
theorem fh_63 : (mj_P 63).2.2.2.2.isEmpty = true := by rw [fP_63]; rfl
theorem fs_63_21 : fSB 63 [0] 1 21 f_63_21 := by
  unfold f_63_21
  exact fo_ret (fa_63 rfl) fr_63
theorem fs_63_0 : fSB 63 [0] 1 0 f_63_0 := by
  unfold f_63_0
  refine fo_aload_n (k := 0) (fa_63 rfl) ?_
  refine fo_iload_n (k := 1) (fa_63 rfl) ?_
  refine fo_iload_n (k := 2) (fa_63 rfl) ?_
  refine fo_virtual (by decide) fna_61 (fo_call (fa_63 rfl) fNs_virtual fsm_61 (by decide) fFil_0 fna_61 fx_61 (by rw [fP_61]; rfl) fh_63 ?_)
  refine fo_if_eq (fa_63 rfl) (pcT := 21) rfl fs_63_21 ?_
  refine fo_aload_n (k := 0) (fa_63 rfl) ?_
  refine fo_getr (fa_63 rfl) (by decide) rfl ?_
  refine fo_bipush (fa_63 rfl) fk_b_9 ?_
  refine fo_iload_n (k := 1) (fa_63 rfl) ?_
  refine fo_imul (fa_63 rfl) ?_
  refine fo_iload_n (k := 2) (fa_63 rfl) ?_
  refine fo_iadd (fa_63 rfl) ?_
  refine fo_iload_n (k := 3) (fa_63 rfl) ?_
  refine fo_iastore (fa_63 rfl) ?_
  exact fs_63_21
theorem fsm_63 : fSM 63 1 fm_63 := fs_methH (lp := [0]) (by decide) rfl ⟨fs_63_0, trivial⟩
theorem fP_64 : mj_P 64 = (5, 2, none, mcX5_take, []) := rfl
theorem fa_64 {pc : Nat} {e : mjE} (h : mj_at mcX5_take pc = some e) : fAt 64 pc e := by unfold fAt; rw [fP_64]; exact h
theorem fr_64 : (mj_P 64).2.2.1 = none := by rw [fP_64]
theorem fna_64 : (mj_P 64).2.1 = 2 := by rw [fP_64]
theorem fx_64 : 2 ≤ mj_mx.getD 64 0 := by decide
theorem fh_64 : (mj_P 64).2.2.2.2.isEmpty = true := by rw [fP_64]; rfl
theorem fs_64_0 : fSB 64 [0] 0 0 f_64_0 := by
  unfold f_64_0
  refine fo_aload_n (k := 0) (fa_64 rfl) ?_
  refine fo_aload_n (k := 1) (fa_64 rfl) ?_
  refine fo_geti (fa_64 rfl) (by decide) rfl ?_
  refine fo_puti (fa_64 rfl) (by decide) rfl ?_
  refine fo_aload_n (k := 1) (fa_64 rfl) ?_
  refine fo_getr (fa_64 rfl) (by decide) rfl ?_
  refine fo_iconst (fa_64 rfl) fk_c_0 ?_
  refine fo_aload_n (k := 0) (fa_64 rfl) ?_
  refine fo_getr (fa_64 rfl) (by decide) rfl ?_
  refine fo_iconst (fa_64 rfl) fk_c_0 ?_
  refine fo_bipush (fa_64 rfl) fk_b_81 ?_
  refine fo_acopy (fa_64 rfl) ?_
  exact fo_ret (fa_64 rfl) fr_64
theorem fsm_64 : fSM 64 0 fm_64 := fs_methH (lp := [0]) (by decide) rfl ⟨fs_64_0, trivial⟩
theorem fP_65 : mj_P 65 = (5, 2, (some .long), mcX5_addTo, []) := rfl
theorem fa_65 {pc : Nat} {e : mjE} (h : mj_at mcX5_addTo pc = some e) : fAt 65 pc e := by unfold fAt; rw [fP_65]; exact h
theorem fr_65 : (mj_P 65).2.2.1 = (some .long) := by rw [fP_65]
theorem fna_65 : (mj_P 65).2.1 = 2 := by rw [fP_65]
theorem fx_65 : 3 ≤ mj_mx.getD 65 0 := by decide
theorem fh_65 : (mj_P 65).2.2.2.2.isEmpty = true := by rw [fP_65]; rfl
theorem fs_65_64 : fSB 65 [0, 15, 27] 2 64 f_65_64 := by
  unfold f_65_64
  refine fo_lload_n (k := 3) (fa_65 rfl) ?_
  exact fo_lret (fa_65 rfl) fr_65
theorem fs_65_58 : fSB 65 [0, 15, 27] 2 58 f_65_58 := by
  unfold f_65_58
  refine fo_iinc (k := 5) (fa_65 rfl) fk_c_1 ?_
  exact fo_goto (fa_65 rfl) (pcT := 15) rfl (fo_back (q := 15) rfl)
theorem fs_65_27 : fSB 65 [0, 15, 27] 2 27 f_65_27 := by
  unfold f_65_27
  refine fo_iload (k := 6) (fa_65 rfl) ?_
  refine fo_aload_n (k := 0) (fa_65 rfl) ?_
  refine fo_geti (fa_65 rfl) (by decide) rfl ?_
  refine fo_icmp_ge (fa_65 rfl) (pcT := 58) rfl fs_65_58 ?_
  refine fo_ldc2 (fa_65 rfl) ?_
  refine fo_lload_n (k := 3) (fa_65 rfl) ?_
  refine fo_lmul (fa_65 rfl) ?_
  refine fo_aload_n (k := 0) (fa_65 rfl) ?_
  refine fo_iload (k := 5) (fa_65 rfl) ?_
  refine fo_iload (k := 6) (fa_65 rfl) ?_
  refine fo_virtual (by decide) fna_62 (fo_call (fa_65 rfl) fNs_virtual fsm_62 (by decide) fFil_0 fna_62 fx_62 (by rw [fP_62]; rfl) fh_65 ?_)
  refine fo_i2l (fa_65 rfl) ?_
  refine fo_ladd (fa_65 rfl) ?_
  refine fo_lstore_n (k := 3) (fa_65 rfl) ?_
  refine fo_iinc (k := 6) (fa_65 rfl) fk_c_1 ?_
  exact fo_goto (fa_65 rfl) (pcT := 27) rfl (fo_back (q := 27) rfl)
theorem fs_65_15 : fSB 65 [0, 15, 27] 2 15 f_65_15 := by
  unfold f_65_15
  refine fo_iload (k := 5) (fa_65 rfl) ?_
  refine fo_aload_n (k := 0) (fa_65 rfl) ?_
  refine fo_geti (fa_65 rfl) (by decide) rfl ?_
  refine fo_icmp_ge (fa_65 rfl) (pcT := 64) rfl fs_65_64 ?_
  refine fo_iconst (fa_65 rfl) fk_c_0 ?_
  refine fo_istore (k := 6) (fa_65 rfl) ?_
  exact fs_65_27
theorem fs_65_0 : fSB 65 [0, 15, 27] 2 0 f_65_0 := by
  unfold f_65_0
  refine fo_ldc2 (fa_65 rfl) ?_
  refine fo_lload_n (k := 1) (fa_65 rfl) ?_
  refine fo_lmul (fa_65 rfl) ?_
  refine fo_aload_n (k := 0) (fa_65 rfl) ?_
  refine fo_geti (fa_65 rfl) (by decide) rfl ?_
  refine fo_i2l (fa_65 rfl) ?_
  refine fo_ladd (fa_65 rfl) ?_
  refine fo_lstore_n (k := 3) (fa_65 rfl) ?_
  refine fo_iconst (fa_65 rfl) fk_c_0 ?_
  refine fo_istore (k := 5) (fa_65 rfl) ?_
  exact fs_65_15
theorem fsm_65 : fSM 65 2 fm_65 := fs_methH (lp := [0, 15, 27]) (by decide) rfl ⟨fs_65_0, fs_65_15, fs_65_27, trivial⟩
theorem fP_66 : mj_P 66 = (5, 1, (some .int), mcX5_countSigns, []) := rfl
theorem fa_66 {pc : Nat} {e : mjE} (h : mj_at mcX5_countSigns pc = some e) : fAt 66 pc e := by unfold fAt; rw [fP_66]; exact h
theorem fr_66 : (mj_P 66).2.2.1 = (some .int) := by rw [fP_66]
theorem fna_66 : (mj_P 66).2.1 = 1 := by rw [fP_66]
theorem fx_66 : 1 ≤ mj_mx.getD 66 0 := by decide
theorem fh_66 : (mj_P 66).2.2.2.2.isEmpty = true := by rw [fP_66]; rfl
theorem fs_66_45 : fSB 66 [0, 4, 14] 2 45 f_66_45 := by
  unfold f_66_45
  refine fo_iload_n (k := 1) (fa_66 rfl) ?_
  refine fo_static (by decide) (fo_call (fa_66 rfl) fNs_static fsm_272 (by decide) fFil_0 fna_272 fx_272 (by rw [fP_272]; rfl) fh_66 ?_)
  exact fo_iret (fa_66 rfl) fr_66 fw_int
theorem fs_66_39 : fSB 66 [0, 4, 14] 2 39 f_66_39 := by
  unfold f_66_39
  refine fo_iinc (k := 2) (fa_66 rfl) fk_c_1 ?_
  exact fo_goto (fa_66 rfl) (pcT := 4) rfl (fo_back (q := 4) rfl)
theorem fs_66_14 : fSB 66 [0, 4, 14] 2 14 f_66_14 := by
  unfold f_66_14
  refine fo_iload_n (k := 3) (fa_66 rfl) ?_
  refine fo_aload_n (k := 0) (fa_66 rfl) ?_
  refine fo_geti (fa_66 rfl) (by decide) rfl ?_
  refine fo_icmp_ge (fa_66 rfl) (pcT := 39) rfl fs_66_39 ?_
  refine fo_iload_n (k := 1) (fa_66 rfl) ?_
  refine fo_iconst (fa_66 rfl) fk_c_1 ?_
  refine fo_aload_n (k := 0) (fa_66 rfl) ?_
  refine fo_iload_n (k := 2) (fa_66 rfl) ?_
  refine fo_iload_n (k := 3) (fa_66 rfl) ?_
  refine fo_virtual (by decide) fna_62 (fo_call (fa_66 rfl) fNs_virtual fsm_62 (by decide) fFil_0 fna_62 fx_62 (by rw [fP_62]; rfl) fh_66 ?_)
  refine fo_ishl (fa_66 rfl) ?_
  refine fo_ior (fa_66 rfl) ?_
  refine fo_istore_n (k := 1) (fa_66 rfl) ?_
  refine fo_iinc (k := 3) (fa_66 rfl) fk_c_1 ?_
  exact fo_goto (fa_66 rfl) (pcT := 14) rfl (fo_back (q := 14) rfl)
theorem fs_66_4 : fSB 66 [0, 4, 14] 2 4 f_66_4 := by
  unfold f_66_4
  refine fo_iload_n (k := 2) (fa_66 rfl) ?_
  refine fo_aload_n (k := 0) (fa_66 rfl) ?_
  refine fo_geti (fa_66 rfl) (by decide) rfl ?_
  refine fo_icmp_ge (fa_66 rfl) (pcT := 45) rfl fs_66_45 ?_
  refine fo_iconst (fa_66 rfl) fk_c_0 ?_
  refine fo_istore_n (k := 3) (fa_66 rfl) ?_
  exact fs_66_14
theorem fs_66_0 : fSB 66 [0, 4, 14] 2 0 f_66_0 := by
  unfold f_66_0
  refine fo_iconst (fa_66 rfl) fk_c_0 ?_
  refine fo_istore_n (k := 1) (fa_66 rfl) ?_
  refine fo_iconst (fa_66 rfl) fk_c_0 ?_
  refine fo_istore_n (k := 2) (fa_66 rfl) ?_
  exact fs_66_4
theorem fsm_66 : fSM 66 2 fm_66 := fs_methH (lp := [0, 4, 14]) (by decide) rfl ⟨fs_66_0, fs_66_4, fs_66_14, trivial⟩
theorem fP_67 : mj_P 67 = (5, 1, (some .boolean), mcX5_hasEachSignOnce, []) := rfl
theorem fa_67 {pc : Nat} {e : mjE} (h : mj_at mcX5_hasEachSignOnce pc = some e) : fAt 67 pc e := by unfold fAt; rw [fP_67]; exact h
theorem fr_67 : (mj_P 67).2.2.1 = (some .boolean) := by rw [fP_67]
theorem fna_67 : (mj_P 67).2.1 = 1 := by rw [fP_67]
theorem fx_67 : 1 ≤ mj_mx.getD 67 0 := by decide
theorem fh_67 : (mj_P 67).2.2.2.2.isEmpty = true := by rw [fP_67]; rfl
theorem fs_67_86 : fSB 67 [0, 2, 17] 2 86 f_67_86 := by
  unfold f_67_86
  refine fo_iconst (fa_67 rfl) fk_c_1 ?_
  exact fo_iret (fa_67 rfl) fr_67 fw_bool
theorem fs_67_80 : fSB 67 [0, 2, 17] 2 80 f_67_80 := by
  unfold f_67_80
  refine fo_iinc (k := 1) (fa_67 rfl) fk_c_1 ?_
  exact fo_goto (fa_67 rfl) (pcT := 2) rfl (fo_back (q := 2) rfl)
theorem fs_67_78 : fSB 67 [0, 2, 17] 2 78 f_67_78 := by
  unfold f_67_78
  refine fo_iconst (fa_67 rfl) fk_c_0 ?_
  exact fo_iret (fa_67 rfl) fr_67 fw_bool
theorem fs_67_56 : fSB 67 [0, 2, 17] 2 56 f_67_56 := by
  unfold f_67_56
  refine fo_iload_n (k := 2) (fa_67 rfl) ?_
  refine fo_aload_n (k := 0) (fa_67 rfl) ?_
  refine fo_geti (fa_67 rfl) (by decide) rfl ?_
  refine fo_static (by decide) (fo_callH (fa_67 rfl) fNs_static fsm_165 (by decide) fFil_0 fna_165 fx_165 (Or.inl rfl) fHd_nil ?_)
  refine fo_icmp_ne (fa_67 rfl) (pcT := 78) rfl fs_67_78 ?_
  refine fo_iload_n (k := 3) (fa_67 rfl) ?_
  refine fo_aload_n (k := 0) (fa_67 rfl) ?_
  refine fo_geti (fa_67 rfl) (by decide) rfl ?_
  refine fo_static (by decide) (fo_callH (fa_67 rfl) fNs_static fsm_165 (by decide) fFil_0 fna_165 fx_165 (Or.inl rfl) fHd_nil ?_)
  refine fo_icmp_eq (fa_67 rfl) (pcT := 80) rfl fs_67_80 ?_
  exact fs_67_78
theorem fs_67_17 : fSB 67 [0, 2, 17] 2 17 f_67_17 := by
  unfold f_67_17
  refine fo_iload (k := 4) (fa_67 rfl) ?_
  refine fo_aload_n (k := 0) (fa_67 rfl) ?_
  refine fo_geti (fa_67 rfl) (by decide) rfl ?_
  refine fo_icmp_ge (fa_67 rfl) (pcT := 56) rfl fs_67_56 ?_
  refine fo_iload_n (k := 2) (fa_67 rfl) ?_
  refine fo_iconst (fa_67 rfl) fk_c_1 ?_
  refine fo_aload_n (k := 0) (fa_67 rfl) ?_
  refine fo_iload_n (k := 1) (fa_67 rfl) ?_
  refine fo_iload (k := 4) (fa_67 rfl) ?_
  refine fo_virtual (by decide) fna_62 (fo_call (fa_67 rfl) fNs_virtual fsm_62 (by decide) fFil_0 fna_62 fx_62 (by rw [fP_62]; rfl) fh_67 ?_)
  refine fo_ishl (fa_67 rfl) ?_
  refine fo_ior (fa_67 rfl) ?_
  refine fo_istore_n (k := 2) (fa_67 rfl) ?_
  refine fo_iload_n (k := 3) (fa_67 rfl) ?_
  refine fo_iconst (fa_67 rfl) fk_c_1 ?_
  refine fo_aload_n (k := 0) (fa_67 rfl) ?_
  refine fo_iload (k := 4) (fa_67 rfl) ?_
  refine fo_iload_n (k := 1) (fa_67 rfl) ?_
  refine fo_virtual (by decide) fna_62 (fo_call (fa_67 rfl) fNs_virtual fsm_62 (by decide) fFil_0 fna_62 fx_62 (by rw [fP_62]; rfl) fh_67 ?_)
  refine fo_ishl (fa_67 rfl) ?_
  refine fo_ior (fa_67 rfl) ?_
  refine fo_istore_n (k := 3) (fa_67 rfl) ?_
  refine fo_iinc (k := 4) (fa_67 rfl) fk_c_1 ?_
  exact fo_goto (fa_67 rfl) (pcT := 17) rfl (fo_back (q := 17) rfl)
theorem fs_67_2 : fSB 67 [0, 2, 17] 2 2 f_67_2 := by
  unfold f_67_2
  refine fo_iload_n (k := 1) (fa_67 rfl) ?_
  refine fo_aload_n (k := 0) (fa_67 rfl) ?_
  refine fo_geti (fa_67 rfl) (by decide) rfl ?_
  refine fo_icmp_ge (fa_67 rfl) (pcT := 86) rfl fs_67_86 ?_
  refine fo_iconst (fa_67 rfl) fk_c_0 ?_
  refine fo_istore_n (k := 2) (fa_67 rfl) ?_
  refine fo_iconst (fa_67 rfl) fk_c_0 ?_
  refine fo_istore_n (k := 3) (fa_67 rfl) ?_
  refine fo_iconst (fa_67 rfl) fk_c_0 ?_
  refine fo_istore (k := 4) (fa_67 rfl) ?_
  exact fs_67_17
theorem fs_67_0 : fSB 67 [0, 2, 17] 2 0 f_67_0 := by
  unfold f_67_0
  refine fo_iconst (fa_67 rfl) fk_c_0 ?_
  refine fo_istore_n (k := 1) (fa_67 rfl) ?_
  exact fs_67_2
theorem fsm_67 : fSM 67 2 fm_67 := fs_methH (lp := [0, 2, 17]) (by decide) rfl ⟨fs_67_0, fs_67_2, fs_67_17, trivial⟩
theorem fP_68 : mj_P 68 = (5, 2, (some .boolean), mcX5_isApartFrom, []) := rfl
theorem fa_68 {pc : Nat} {e : mjE} (h : mj_at mcX5_isApartFrom pc = some e) : fAt 68 pc e := by unfold fAt; rw [fP_68]; exact h
theorem fr_68 : (mj_P 68).2.2.1 = (some .boolean) := by rw [fP_68]
theorem fna_68 : (mj_P 68).2.1 = 2 := by rw [fP_68]
theorem fx_68 : 2 ≤ mj_mx.getD 68 0 := by decide
theorem fh_68 : (mj_P 68).2.2.2.2.isEmpty = true := by rw [fP_68]; rfl
theorem fs_68_105 : fSB 68 [0, 15, 28, 40] 2 105 f_68_105 := by
  unfold f_68_105
  refine fo_iconst (fa_68 rfl) fk_c_1 ?_
  exact fo_iret (fa_68 rfl) fr_68 fw_bool
theorem fs_68_99 : fSB 68 [0, 15, 28, 40] 2 99 f_68_99 := by
  unfold f_68_99
  refine fo_iinc (k := 2) (fa_68 rfl) fk_c_1 ?_
  exact fo_goto (fa_68 rfl) (pcT := 15) rfl (fo_back (q := 15) rfl)
theorem fs_68_86 : fSB 68 [0, 15, 28, 40] 2 86 f_68_86 := by
  unfold f_68_86
  refine fo_iload_n (k := 3) (fa_68 rfl) ?_
  refine fo_aload_n (k := 0) (fa_68 rfl) ?_
  refine fo_geti (fa_68 rfl) (by decide) rfl ?_
  refine fo_static (by decide) (fo_callH (fa_68 rfl) fNs_static fsm_165 (by decide) fFil_0 fna_165 fx_165 (Or.inl rfl) fHd_nil ?_)
  refine fo_icmp_eq (fa_68 rfl) (pcT := 99) rfl fs_68_99 ?_
  refine fo_iconst (fa_68 rfl) fk_c_0 ?_
  exact fo_iret (fa_68 rfl) fr_68 fw_bool
theorem fs_68_80 : fSB 68 [0, 15, 28, 40] 2 80 f_68_80 := by
  unfold f_68_80
  refine fo_iinc (k := 4) (fa_68 rfl) fk_c_1 ?_
  exact fo_goto (fa_68 rfl) (pcT := 28) rfl (fo_back (q := 28) rfl)
theorem fs_68_74 : fSB 68 [0, 15, 28, 40] 2 74 f_68_74 := by
  unfold f_68_74
  refine fo_iinc (k := 5) (fa_68 rfl) fk_c_1 ?_
  exact fo_goto (fa_68 rfl) (pcT := 40) rfl (fo_back (q := 40) rfl)
theorem fs_68_40 : fSB 68 [0, 15, 28, 40] 2 40 f_68_40 := by
  unfold f_68_40
  refine fo_iload (k := 5) (fa_68 rfl) ?_
  refine fo_aload_n (k := 0) (fa_68 rfl) ?_
  refine fo_geti (fa_68 rfl) (by decide) rfl ?_
  refine fo_icmp_ge (fa_68 rfl) (pcT := 80) rfl fs_68_80 ?_
  refine fo_aload_n (k := 0) (fa_68 rfl) ?_
  refine fo_iload (k := 4) (fa_68 rfl) ?_
  refine fo_iload (k := 5) (fa_68 rfl) ?_
  refine fo_virtual (by decide) fna_62 (fo_call (fa_68 rfl) fNs_virtual fsm_62 (by decide) fFil_0 fna_62 fx_62 (by rw [fP_62]; rfl) fh_68 ?_)
  refine fo_iload_n (k := 2) (fa_68 rfl) ?_
  refine fo_icmp_ne (fa_68 rfl) (pcT := 74) rfl fs_68_74 ?_
  refine fo_iload_n (k := 3) (fa_68 rfl) ?_
  refine fo_iconst (fa_68 rfl) fk_c_1 ?_
  refine fo_aload_n (k := 1) (fa_68 rfl) ?_
  refine fo_iload (k := 4) (fa_68 rfl) ?_
  refine fo_iload (k := 5) (fa_68 rfl) ?_
  refine fo_virtual (by decide) fna_62 (fo_call (fa_68 rfl) fNs_virtual fsm_62 (by decide) fFil_0 fna_62 fx_62 (by rw [fP_62]; rfl) fh_68 ?_)
  refine fo_ishl (fa_68 rfl) ?_
  refine fo_ior (fa_68 rfl) ?_
  refine fo_istore_n (k := 3) (fa_68 rfl) ?_
  exact fs_68_74
theorem fs_68_28 : fSB 68 [0, 15, 28, 40] 2 28 f_68_28 := by
  unfold f_68_28
  refine fo_iload (k := 4) (fa_68 rfl) ?_
  refine fo_aload_n (k := 0) (fa_68 rfl) ?_
  refine fo_geti (fa_68 rfl) (by decide) rfl ?_
  refine fo_icmp_ge (fa_68 rfl) (pcT := 86) rfl fs_68_86 ?_
  refine fo_iconst (fa_68 rfl) fk_c_0 ?_
  refine fo_istore (k := 5) (fa_68 rfl) ?_
  exact fs_68_40
theorem fs_68_15 : fSB 68 [0, 15, 28, 40] 2 15 f_68_15 := by
  unfold f_68_15
  refine fo_iload_n (k := 2) (fa_68 rfl) ?_
  refine fo_aload_n (k := 0) (fa_68 rfl) ?_
  refine fo_geti (fa_68 rfl) (by decide) rfl ?_
  refine fo_icmp_ge (fa_68 rfl) (pcT := 105) rfl fs_68_105 ?_
  refine fo_iconst (fa_68 rfl) fk_c_0 ?_
  refine fo_istore_n (k := 3) (fa_68 rfl) ?_
  refine fo_iconst (fa_68 rfl) fk_c_0 ?_
  refine fo_istore (k := 4) (fa_68 rfl) ?_
  exact fs_68_28
theorem fs_68_13 : fSB 68 [0, 15, 28, 40] 2 13 f_68_13 := by
  unfold f_68_13
  refine fo_iconst (fa_68 rfl) fk_c_0 ?_
  refine fo_istore_n (k := 2) (fa_68 rfl) ?_
  exact fs_68_15
theorem fs_68_0 : fSB 68 [0, 15, 28, 40] 2 0 f_68_0 := by
  unfold f_68_0
  refine fo_aload_n (k := 0) (fa_68 rfl) ?_
  refine fo_geti (fa_68 rfl) (by decide) rfl ?_
  refine fo_aload_n (k := 1) (fa_68 rfl) ?_
  refine fo_geti (fa_68 rfl) (by decide) rfl ?_
  refine fo_icmp_eq (fa_68 rfl) (pcT := 13) rfl fs_68_13 ?_
  refine fo_iconst (fa_68 rfl) fk_c_0 ?_
  exact fo_iret (fa_68 rfl) fr_68 fw_bool
theorem fsm_68 : fSM 68 2 fm_68 := fs_methH (lp := [0, 15, 28, 40]) (by decide) rfl ⟨fs_68_0, fs_68_15, fs_68_28, fs_68_40, trivial⟩
theorem fP_69 : mj_P 69 = (5, 1, (some .int), mcX5_countAllTransversals, []) := rfl
theorem fa_69 {pc : Nat} {e : mjE} (h : mj_at mcX5_countAllTransversals pc = some e) : fAt 69 pc e := by unfold fAt; rw [fP_69]; exact h
theorem fr_69 : (mj_P 69).2.2.1 = (some .int) := by rw [fP_69]
theorem fna_69 : (mj_P 69).2.1 = 1 := by rw [fP_69]
theorem fx_69 : 1 ≤ mj_mx.getD 69 0 := by decide
theorem fh_69 : (mj_P 69).2.2.2.2.isEmpty = true := by rw [fP_69]; rfl
theorem fs_69_0 : fSB 69 [0] 0 0 f_69_0 := by
  unfold f_69_0
  refine fo_aload_n (k := 0) (fa_69 rfl) ?_
  refine fo_iconst (fa_69 rfl) fk_c_0 ?_
  refine fo_iconst (fa_69 rfl) fk_c_0 ?_
  refine fo_iconst (fa_69 rfl) fk_c_0 ?_
  exact fo_bad
theorem fsm_69 : fSM 69 0 fm_69 := fs_methH (lp := [0]) (by decide) rfl ⟨fs_69_0, trivial⟩
theorem fP_71 : mj_P 71 = (5, 4, none, mcX5_makeShifts, []) := rfl
theorem fa_71 {pc : Nat} {e : mjE} (h : mj_at mcX5_makeShifts pc = some e) : fAt 71 pc e := by unfold fAt; rw [fP_71]; exact h
theorem fr_71 : (mj_P 71).2.2.1 = none := by rw [fP_71]
theorem fna_71 : (mj_P 71).2.1 = 4 := by rw [fP_71]
theorem fx_71 : 4 ≤ mj_mx.getD 71 0 := by decide
theorem fh_71 : (mj_P 71).2.2.2.2.isEmpty = true := by rw [fP_71]; rfl
theorem fs_71_56 : fSB 71 [0, 8, 17] 2 56 f_71_56 := by
  unfold f_71_56
  exact fo_ret (fa_71 rfl) fr_71
theorem fs_71_50 : fSB 71 [0, 8, 17] 2 50 f_71_50 := by
  unfold f_71_50
  refine fo_iinc (k := 4) (fa_71 rfl) fk_c_1 ?_
  exact fo_goto (fa_71 rfl) (pcT := 8) rfl (fo_back (q := 8) rfl)
theorem fs_71_17 : fSB 71 [0, 8, 17] 2 17 f_71_17 := by
  unfold f_71_17
  refine fo_iload (k := 5) (fa_71 rfl) ?_
  refine fo_iload_n (k := 1) (fa_71 rfl) ?_
  refine fo_icmp_ge (fa_71 rfl) (pcT := 50) rfl fs_71_50 ?_
  refine fo_aload_n (k := 0) (fa_71 rfl) ?_
  refine fo_iload (k := 4) (fa_71 rfl) ?_
  refine fo_iload (k := 5) (fa_71 rfl) ?_
  refine fo_iload_n (k := 2) (fa_71 rfl) ?_
  refine fo_iload (k := 4) (fa_71 rfl) ?_
  refine fo_imul (fa_71 rfl) ?_
  refine fo_iload_n (k := 3) (fa_71 rfl) ?_
  refine fo_iload (k := 5) (fa_71 rfl) ?_
  refine fo_imul (fa_71 rfl) ?_
  refine fo_iadd (fa_71 rfl) ?_
  refine fo_iload_n (k := 1) (fa_71 rfl) ?_
  refine fo_static (by decide) (fo_callH (fa_71 rfl) fNs_static fsm_164 (by decide) fFil_0 fna_164 fx_164 (Or.inl rfl) fHd_nil ?_)
  refine fo_virtual (by decide) fna_63 (fo_call (fa_71 rfl) fNs_virtual fsm_63 (by decide) fFil_0 fna_63 fx_63 (by rw [fP_63]; rfl) fh_71 ?_)
  refine fo_iinc (k := 5) (fa_71 rfl) fk_c_1 ?_
  exact fo_goto (fa_71 rfl) (pcT := 17) rfl (fo_back (q := 17) rfl)
theorem fs_71_8 : fSB 71 [0, 8, 17] 2 8 f_71_8 := by
  unfold f_71_8
  refine fo_iload (k := 4) (fa_71 rfl) ?_
  refine fo_iload_n (k := 1) (fa_71 rfl) ?_
  refine fo_icmp_ge (fa_71 rfl) (pcT := 56) rfl fs_71_56 ?_
  refine fo_iconst (fa_71 rfl) fk_c_0 ?_
  refine fo_istore (k := 5) (fa_71 rfl) ?_
  exact fs_71_17
theorem fs_71_0 : fSB 71 [0, 8, 17] 2 0 f_71_0 := by
  unfold f_71_0
  refine fo_aload_n (k := 0) (fa_71 rfl) ?_
  refine fo_iload_n (k := 1) (fa_71 rfl) ?_
  refine fo_puti (fa_71 rfl) (by decide) rfl ?_
  refine fo_iconst (fa_71 rfl) fk_c_0 ?_
  refine fo_istore (k := 4) (fa_71 rfl) ?_
  exact fs_71_8
theorem fsm_71 : fSM 71 2 fm_71 := fs_methH (lp := [0, 8, 17]) (by decide) rfl ⟨fs_71_0, fs_71_8, fs_71_17, trivial⟩
theorem fP_72 : mj_P 72 = (5, 3, none, mcX5_makeField, []) := rfl
theorem fa_72 {pc : Nat} {e : mjE} (h : mj_at mcX5_makeField pc = some e) : fAt 72 pc e := by unfold fAt; rw [fP_72]; exact h
theorem fr_72 : (mj_P 72).2.2.1 = none := by rw [fP_72]
theorem fna_72 : (mj_P 72).2.1 = 3 := by rw [fP_72]
theorem fx_72 : 3 ≤ mj_mx.getD 72 0 := by decide
theorem fh_72 : (mj_P 72).2.2.2.2.isEmpty = true := by rw [fP_72]; rfl
theorem fs_72_52 : fSB 72 [0, 7, 15] 3 52 f_72_52 := by
  unfold f_72_52
  exact fo_ret (fa_72 rfl) fr_72
theorem fs_72_46 : fSB 72 [0, 7, 15] 3 46 f_72_46 := by
  unfold f_72_46
  refine fo_iinc (k := 3) (fa_72 rfl) fk_c_1 ?_
  exact fo_goto (fa_72 rfl) (pcT := 7) rfl (fo_back (q := 7) rfl)
theorem fs_72_15 : fSB 72 [0, 7, 15] 3 15 f_72_15 := by
  unfold f_72_15
  refine fo_iload (k := 4) (fa_72 rfl) ?_
  refine fo_iload_n (k := 1) (fa_72 rfl) ?_
  refine fo_icmp_ge (fa_72 rfl) (pcT := 46) rfl fs_72_46 ?_
  refine fo_aload_n (k := 0) (fa_72 rfl) ?_
  refine fo_iload_n (k := 3) (fa_72 rfl) ?_
  refine fo_iload (k := 4) (fa_72 rfl) ?_
  refine fo_iload_n (k := 1) (fa_72 rfl) ?_
  refine fo_iload_n (k := 1) (fa_72 rfl) ?_
  refine fo_iload_n (k := 3) (fa_72 rfl) ?_
  refine fo_iload_n (k := 2) (fa_72 rfl) ?_
  refine fo_static (by decide) (fo_call (fa_72 rfl) fNs_static fsm_45 (by decide) fFil_2 fna_45 fx_45 (by rw [fP_45]; rfl) fh_72 ?_)
  refine fo_iload (k := 4) (fa_72 rfl) ?_
  refine fo_static (by decide) (fo_call (fa_72 rfl) fNs_static fsm_44 (by decide) fFil_0 fna_44 fx_44 (by rw [fP_44]; rfl) fh_72 ?_)
  refine fo_virtual (by decide) fna_63 (fo_call (fa_72 rfl) fNs_virtual fsm_63 (by decide) fFil_0 fna_63 fx_63 (by rw [fP_63]; rfl) fh_72 ?_)
  refine fo_iinc (k := 4) (fa_72 rfl) fk_c_1 ?_
  exact fo_goto (fa_72 rfl) (pcT := 15) rfl (fo_back (q := 15) rfl)
theorem fs_72_7 : fSB 72 [0, 7, 15] 3 7 f_72_7 := by
  unfold f_72_7
  refine fo_iload_n (k := 3) (fa_72 rfl) ?_
  refine fo_iload_n (k := 1) (fa_72 rfl) ?_
  refine fo_icmp_ge (fa_72 rfl) (pcT := 52) rfl fs_72_52 ?_
  refine fo_iconst (fa_72 rfl) fk_c_0 ?_
  refine fo_istore (k := 4) (fa_72 rfl) ?_
  exact fs_72_15
theorem fs_72_0 : fSB 72 [0, 7, 15] 3 0 f_72_0 := by
  unfold f_72_0
  refine fo_aload_n (k := 0) (fa_72 rfl) ?_
  refine fo_iload_n (k := 1) (fa_72 rfl) ?_
  refine fo_puti (fa_72 rfl) (by decide) rfl ?_
  refine fo_iconst (fa_72 rfl) fk_c_0 ?_
  refine fo_istore_n (k := 3) (fa_72 rfl) ?_
  exact fs_72_7
theorem fsm_72 : fSM 72 3 fm_72 := fs_methH (lp := [0, 7, 15]) (by decide) rfl ⟨fs_72_0, fs_72_7, fs_72_15, trivial⟩
theorem fP_73 : mj_P 73 = (5, 3, none, mcX5_makeTurned, []) := rfl
theorem fa_73 {pc : Nat} {e : mjE} (h : mj_at mcX5_makeTurned pc = some e) : fAt 73 pc e := by unfold fAt; rw [fP_73]; exact h
theorem fr_73 : (mj_P 73).2.2.1 = none := by rw [fP_73]
theorem fna_73 : (mj_P 73).2.1 = 3 := by rw [fP_73]
theorem fx_73 : 3 ≤ mj_mx.getD 73 0 := by decide
theorem fh_73 : (mj_P 73).2.2.2.2.isEmpty = true := by rw [fP_73]; rfl
theorem fs_73_77 : fSB 73 [0, 10, 21] 2 77 f_73_77 := by
  unfold f_73_77
  exact fo_ret (fa_73 rfl) fr_73
theorem fs_73_71 : fSB 73 [0, 10, 21] 2 71 f_73_71 := by
  unfold f_73_71
  refine fo_iinc (k := 3) (fa_73 rfl) fk_c_1 ?_
  exact fo_goto (fa_73 rfl) (pcT := 10) rfl (fo_back (q := 10) rfl)
theorem fs_73_65 : fSB 73 [0, 10, 21] 2 65 f_73_65 := by
  unfold f_73_65
  refine fo_iinc (k := 4) (fa_73 rfl) fk_c_1 ?_
  exact fo_goto (fa_73 rfl) (pcT := 21) rfl (fo_back (q := 21) rfl)
theorem fs_73_51 : fSB 73 [0, 10, 21] 2 51 f_73_51 := by
  unfold f_73_51
  refine fo_aload_n (k := 0) (fa_73 rfl) ?_
  refine fo_iload (k := 4) (fa_73 rfl) ?_
  refine fo_iload_n (k := 3) (fa_73 rfl) ?_
  refine fo_aload_n (k := 1) (fa_73 rfl) ?_
  refine fo_iload_n (k := 3) (fa_73 rfl) ?_
  refine fo_iload (k := 4) (fa_73 rfl) ?_
  refine fo_virtual (by decide) fna_62 (fo_call (fa_73 rfl) fNs_virtual fsm_62 (by decide) fFil_0 fna_62 fx_62 (by rw [fP_62]; rfl) fh_73 ?_)
  refine fo_virtual (by decide) fna_63 (fo_call (fa_73 rfl) fNs_virtual fsm_63 (by decide) fFil_0 fna_63 fx_63 (by rw [fP_63]; rfl) fh_73 ?_)
  exact fs_73_65
theorem fs_73_21 : fSB 73 [0, 10, 21] 2 21 f_73_21 := by
  unfold f_73_21
  refine fo_iload (k := 4) (fa_73 rfl) ?_
  refine fo_aload_n (k := 1) (fa_73 rfl) ?_
  refine fo_geti (fa_73 rfl) (by decide) rfl ?_
  refine fo_icmp_ge (fa_73 rfl) (pcT := 71) rfl fs_73_71 ?_
  refine fo_iload_n (k := 2) (fa_73 rfl) ?_
  refine fo_if_eq (fa_73 rfl) (pcT := 51) rfl fs_73_51 ?_
  refine fo_aload_n (k := 0) (fa_73 rfl) ?_
  refine fo_iload_n (k := 3) (fa_73 rfl) ?_
  refine fo_aload_n (k := 1) (fa_73 rfl) ?_
  refine fo_iload_n (k := 3) (fa_73 rfl) ?_
  refine fo_iload (k := 4) (fa_73 rfl) ?_
  refine fo_virtual (by decide) fna_62 (fo_call (fa_73 rfl) fNs_virtual fsm_62 (by decide) fFil_0 fna_62 fx_62 (by rw [fP_62]; rfl) fh_73 ?_)
  refine fo_iload (k := 4) (fa_73 rfl) ?_
  refine fo_virtual (by decide) fna_63 (fo_call (fa_73 rfl) fNs_virtual fsm_63 (by decide) fFil_0 fna_63 fx_63 (by rw [fP_63]; rfl) fh_73 ?_)
  exact fo_goto (fa_73 rfl) (pcT := 65) rfl fs_73_65
theorem fs_73_10 : fSB 73 [0, 10, 21] 2 10 f_73_10 := by
  unfold f_73_10
  refine fo_iload_n (k := 3) (fa_73 rfl) ?_
  refine fo_aload_n (k := 1) (fa_73 rfl) ?_
  refine fo_geti (fa_73 rfl) (by decide) rfl ?_
  refine fo_icmp_ge (fa_73 rfl) (pcT := 77) rfl fs_73_77 ?_
  refine fo_iconst (fa_73 rfl) fk_c_0 ?_
  refine fo_istore (k := 4) (fa_73 rfl) ?_
  exact fs_73_21
theorem fs_73_0 : fSB 73 [0, 10, 21] 2 0 f_73_0 := by
  unfold f_73_0
  refine fo_aload_n (k := 0) (fa_73 rfl) ?_
  refine fo_aload_n (k := 1) (fa_73 rfl) ?_
  refine fo_geti (fa_73 rfl) (by decide) rfl ?_
  refine fo_puti (fa_73 rfl) (by decide) rfl ?_
  refine fo_iconst (fa_73 rfl) fk_c_0 ?_
  refine fo_istore_n (k := 3) (fa_73 rfl) ?_
  exact fs_73_10
theorem fsm_73 : fSM 73 2 fm_73 := fs_methH (lp := [0, 10, 21]) (by decide) rfl ⟨fs_73_0, fs_73_10, fs_73_21, trivial⟩
theorem fP_74 : mj_P 74 = (6, 1, none, mcX6_init, []) := rfl
theorem fa_74 {pc : Nat} {e : mjE} (h : mj_at mcX6_init pc = some e) : fAt 74 pc e := by unfold fAt; rw [fP_74]; exact h
theorem fr_74 : (mj_P 74).2.2.1 = none := by rw [fP_74]
theorem fna_74 : (mj_P 74).2.1 = 1 := by rw [fP_74]
theorem fx_74 : 1 ≤ mj_mx.getD 74 0 := by decide
theorem fh_74 : (mj_P 74).2.2.2.2.isEmpty = true := by rw [fP_74]; rfl
theorem fs_74_0 : fSB 74 [0] 0 0 f_74_0 := by
  unfold f_74_0
  refine fo_aload_n (k := 0) (fa_74 rfl) ?_
  refine fo_objinit (fa_74 rfl) ?_
  refine fo_aload_n (k := 0) (fa_74 rfl) ?_
  refine fo_sipush (fa_74 rfl) fk_s_128 ?_
  refine fo_newarray (fa_74 rfl) rfl (by decide) (by decide) fel_20 ?_
  refine fo_putr (fa_74 rfl) (by decide) rfl ?_
  refine fo_aload_n (k := 0) (fa_74 rfl) ?_
  refine fo_sipush (fa_74 rfl) fk_s_128 ?_
  refine fo_newarray (fa_74 rfl) rfl (by decide) (by decide) fel_20 ?_
  refine fo_putr (fa_74 rfl) (by decide) rfl ?_
  refine fo_aload_n (k := 0) (fa_74 rfl) ?_
  refine fo_iconst (fa_74 rfl) fk_c_0 ?_
  refine fo_puti (fa_74 rfl) (by decide) rfl ?_
  exact fo_ret (fa_74 rfl) fr_74
theorem fsm_74 : fSM 74 0 fm_74 := fs_methH (lp := [0]) (by decide) rfl ⟨fs_74_0, trivial⟩
theorem fP_76 : mj_P 76 = (6, 2, none, mcX6_countBlocks, []) := rfl
theorem fa_76 {pc : Nat} {e : mjE} (h : mj_at mcX6_countBlocks pc = some e) : fAt 76 pc e := by unfold fAt; rw [fP_76]; exact h
theorem fr_76 : (mj_P 76).2.2.1 = none := by rw [fP_76]
theorem fna_76 : (mj_P 76).2.1 = 2 := by rw [fP_76]
theorem fx_76 : 2 ≤ mj_mx.getD 76 0 := by decide
theorem fh_76 : (mj_P 76).2.2.2.2.isEmpty = true := by rw [fP_76]; rfl
theorem fs_76_71 : fSB 76 [0, 15, 37] 1 71 f_76_71 := by
  unfold f_76_71
  exact fo_ret (fa_76 rfl) fr_76
theorem fs_76_37 : fSB 76 [0, 15, 37] 1 37 f_76_37 := by
  unfold f_76_37
  refine fo_iload_n (k := 2) (fa_76 rfl) ?_
  refine fo_aload_n (k := 1) (fa_76 rfl) ?_
  refine fo_geti (fa_76 rfl) (by decide) rfl ?_
  refine fo_icmp_ge (fa_76 rfl) (pcT := 71) rfl fs_76_71 ?_
  refine fo_aload_n (k := 0) (fa_76 rfl) ?_
  refine fo_getr (fa_76 rfl) (by decide) rfl ?_
  refine fo_aload_n (k := 1) (fa_76 rfl) ?_
  refine fo_iload_n (k := 2) (fa_76 rfl) ?_
  refine fo_virtual (by decide) fna_15 (fo_call (fa_76 rfl) fNs_virtual fsm_15 (by decide) fFil_0 fna_15 fx_15 (by rw [fP_15]; rfl) fh_76 ?_)
  refine fo_bipush (fa_76 rfl) fk_b_7 ?_
  refine fo_static (by decide) (fo_callH (fa_76 rfl) fNs_static fsm_165 (by decide) fFil_0 fna_165 fx_165 (Or.inl rfl) fHd_nil ?_)
  refine fo_iand (fa_76 rfl) ?_
  refine fo_dup2 (fa_76 rfl) ?_
  refine fo_iaload (fa_76 rfl) ?_
  refine fo_iconst (fa_76 rfl) fk_c_1 ?_
  refine fo_iadd (fa_76 rfl) ?_
  refine fo_iastore (fa_76 rfl) ?_
  refine fo_iinc (k := 2) (fa_76 rfl) fk_c_1 ?_
  exact fo_goto (fa_76 rfl) (pcT := 37) rfl (fo_back (q := 37) rfl)
theorem fs_76_35 : fSB 76 [0, 15, 37] 1 35 f_76_35 := by
  unfold f_76_35
  refine fo_iconst (fa_76 rfl) fk_c_0 ?_
  refine fo_istore_n (k := 2) (fa_76 rfl) ?_
  exact fs_76_37
theorem fs_76_15 : fSB 76 [0, 15, 37] 1 15 f_76_15 := by
  unfold f_76_15
  refine fo_iload_n (k := 2) (fa_76 rfl) ?_
  refine fo_sipush (fa_76 rfl) fk_s_128 ?_
  refine fo_icmp_ge (fa_76 rfl) (pcT := 35) rfl fs_76_35 ?_
  refine fo_aload_n (k := 0) (fa_76 rfl) ?_
  refine fo_getr (fa_76 rfl) (by decide) rfl ?_
  refine fo_iload_n (k := 2) (fa_76 rfl) ?_
  refine fo_iconst (fa_76 rfl) fk_c_0 ?_
  refine fo_iastore (fa_76 rfl) ?_
  refine fo_iinc (k := 2) (fa_76 rfl) fk_c_1 ?_
  exact fo_goto (fa_76 rfl) (pcT := 15) rfl (fo_back (q := 15) rfl)
theorem fs_76_0 : fSB 76 [0, 15, 37] 1 0 f_76_0 := by
  unfold f_76_0
  refine fo_aload_n (k := 0) (fa_76 rfl) ?_
  refine fo_aload_n (k := 1) (fa_76 rfl) ?_
  refine fo_geti (fa_76 rfl) (by decide) rfl ?_
  refine fo_bipush (fa_76 rfl) fk_b_7 ?_
  refine fo_static (by decide) (fo_call (fa_76 rfl) fNs_static fsm_276 (by decide) fFil_0 fna_276 fx_276 (by rw [fP_276]; rfl) fh_76 ?_)
  refine fo_puti (fa_76 rfl) (by decide) rfl ?_
  refine fo_iconst (fa_76 rfl) fk_c_0 ?_
  refine fo_istore_n (k := 2) (fa_76 rfl) ?_
  exact fs_76_15
theorem fsm_76 : fSM 76 1 fm_76 := fs_methH (lp := [0, 15, 37]) (by decide) rfl ⟨fs_76_0, fs_76_15, fs_76_37, trivial⟩
theorem fP_78 : mj_P 78 = (6, 3, (some .boolean), mcX6_staysWith, []) := rfl
theorem fa_78 {pc : Nat} {e : mjE} (h : mj_at mcX6_staysWith pc = some e) : fAt 78 pc e := by unfold fAt; rw [fP_78]; exact h
theorem fr_78 : (mj_P 78).2.2.1 = (some .boolean) := by rw [fP_78]
theorem fna_78 : (mj_P 78).2.1 = 3 := by rw [fP_78]
theorem fx_78 : 3 ≤ mj_mx.getD 78 0 := by decide
theorem fh_78 : (mj_P 78).2.2.2.2.isEmpty = true := by rw [fP_78]; rfl
theorem fs_78_61 : fSB 78 [0, 2] 0 61 f_78_61 := by
  unfold f_78_61
  refine fo_iconst (fa_78 rfl) fk_c_1 ?_
  exact fo_iret (fa_78 rfl) fr_78 fw_bool
theorem fs_78_43 : fSB 78 [0, 2] 0 43 f_78_43 := by
  unfold f_78_43
  refine fo_aload_n (k := 0) (fa_78 rfl) ?_
  refine fo_getr (fa_78 rfl) (by decide) rfl ?_
  refine fo_iload_n (k := 3) (fa_78 rfl) ?_
  refine fo_iconst (fa_78 rfl) fk_c_1 ?_
  refine fo_iload_n (k := 1) (fa_78 rfl) ?_
  refine fo_ishl (fa_78 rfl) ?_
  refine fo_ior (fa_78 rfl) ?_
  refine fo_iload (k := 4) (fa_78 rfl) ?_
  refine fo_iastore (fa_78 rfl) ?_
  refine fo_iinc (k := 3) (fa_78 rfl) fk_c_1 ?_
  exact fo_goto (fa_78 rfl) (pcT := 2) rfl (fo_back (q := 2) rfl)
theorem fs_78_2 : fSB 78 [0, 2] 0 2 f_78_2 := by
  unfold f_78_2
  refine fo_iload_n (k := 3) (fa_78 rfl) ?_
  refine fo_iconst (fa_78 rfl) fk_c_1 ?_
  refine fo_iload_n (k := 1) (fa_78 rfl) ?_
  refine fo_ishl (fa_78 rfl) ?_
  refine fo_icmp_ge (fa_78 rfl) (pcT := 61) rfl fs_78_61 ?_
  refine fo_aload_n (k := 0) (fa_78 rfl) ?_
  refine fo_getr (fa_78 rfl) (by decide) rfl ?_
  refine fo_iload_n (k := 3) (fa_78 rfl) ?_
  refine fo_iaload (fa_78 rfl) ?_
  refine fo_iconst (fa_78 rfl) fk_c_1 ?_
  refine fo_iload_n (k := 2) (fa_78 rfl) ?_
  refine fo_ishl (fa_78 rfl) ?_
  refine fo_ior (fa_78 rfl) ?_
  refine fo_istore (k := 4) (fa_78 rfl) ?_
  refine fo_aload_n (k := 0) (fa_78 rfl) ?_
  refine fo_getr (fa_78 rfl) (by decide) rfl ?_
  refine fo_iload_n (k := 3) (fa_78 rfl) ?_
  refine fo_iconst (fa_78 rfl) fk_c_1 ?_
  refine fo_iload_n (k := 1) (fa_78 rfl) ?_
  refine fo_ishl (fa_78 rfl) ?_
  refine fo_ior (fa_78 rfl) ?_
  refine fo_iaload (fa_78 rfl) ?_
  refine fo_aload_n (k := 0) (fa_78 rfl) ?_
  refine fo_getr (fa_78 rfl) (by decide) rfl ?_
  refine fo_iload (k := 4) (fa_78 rfl) ?_
  refine fo_iaload (fa_78 rfl) ?_
  refine fo_icmp_eq (fa_78 rfl) (pcT := 43) rfl fs_78_43 ?_
  refine fo_iconst (fa_78 rfl) fk_c_0 ?_
  exact fo_iret (fa_78 rfl) fr_78 fw_bool
theorem fs_78_0 : fSB 78 [0, 2] 0 0 f_78_0 := by
  unfold f_78_0
  refine fo_iconst (fa_78 rfl) fk_c_0 ?_
  refine fo_istore_n (k := 3) (fa_78 rfl) ?_
  exact fs_78_2
theorem fsm_78 : fSM 78 0 fm_78 := fs_methH (lp := [0, 2]) (by decide) rfl ⟨fs_78_0, fs_78_2, trivial⟩
theorem fP_75 : mj_P 75 = (6, 2, (some .int), mcX6_countWays, []) := rfl
theorem fa_75 {pc : Nat} {e : mjE} (h : mj_at mcX6_countWays pc = some e) : fAt 75 pc e := by unfold fAt; rw [fP_75]; exact h
theorem fr_75 : (mj_P 75).2.2.1 = (some .int) := by rw [fP_75]
theorem fna_75 : (mj_P 75).2.1 = 2 := by rw [fP_75]
theorem fx_75 : 2 ≤ mj_mx.getD 75 0 := by decide
theorem fh_75 : (mj_P 75).2.2.2.2.isEmpty = true := by rw [fP_75]; rfl
theorem fs_75_92 : fSB 75 [0, 9, 20, 49] 2 92 f_75_92 := by
  unfold f_75_92
  refine fo_iload_n (k := 2) (fa_75 rfl) ?_
  exact fo_iret (fa_75 rfl) fr_75 fw_int
theorem fs_75_81 : fSB 75 [0, 9, 20, 49] 2 81 f_75_81 := by
  unfold f_75_81
  refine fo_iload_n (k := 2) (fa_75 rfl) ?_
  refine fo_iload (k := 4) (fa_75 rfl) ?_
  refine fo_imul (fa_75 rfl) ?_
  refine fo_istore_n (k := 2) (fa_75 rfl) ?_
  refine fo_iinc (k := 3) (fa_75 rfl) fk_c_1 ?_
  exact fo_goto (fa_75 rfl) (pcT := 9) rfl (fo_back (q := 9) rfl)
theorem fs_75_75 : fSB 75 [0, 9, 20, 49] 2 75 f_75_75 := by
  unfold f_75_75
  refine fo_iinc (k := 5) (fa_75 rfl) fk_c_1 ?_
  exact fo_goto (fa_75 rfl) (pcT := 49) rfl (fo_back (q := 49) rfl)
theorem fs_75_49 : fSB 75 [0, 9, 20, 49] 2 49 f_75_49 := by
  unfold f_75_49
  refine fo_iload (k := 5) (fa_75 rfl) ?_
  refine fo_aload_n (k := 0) (fa_75 rfl) ?_
  refine fo_geti (fa_75 rfl) (by decide) rfl ?_
  refine fo_icmp_ge (fa_75 rfl) (pcT := 81) rfl fs_75_81 ?_
  refine fo_aload_n (k := 0) (fa_75 rfl) ?_
  refine fo_iload_n (k := 3) (fa_75 rfl) ?_
  refine fo_iload (k := 5) (fa_75 rfl) ?_
  refine fo_iload_n (k := 3) (fa_75 rfl) ?_
  refine fo_static (by decide) (fo_callH (fa_75 rfl) fNs_static fsm_165 (by decide) fFil_0 fna_165 fx_165 (Or.inl rfl) fHd_nil ?_)
  exact fo_bad
theorem fs_75_43 : fSB 75 [0, 9, 20, 49] 2 43 f_75_43 := by
  unfold f_75_43
  refine fo_iconst (fa_75 rfl) fk_c_0 ?_
  refine fo_istore (k := 4) (fa_75 rfl) ?_
  refine fo_iload_n (k := 3) (fa_75 rfl) ?_
  refine fo_istore (k := 5) (fa_75 rfl) ?_
  exact fs_75_49
theorem fs_75_20 : fSB 75 [0, 9, 20, 49] 2 20 f_75_20 := by
  unfold f_75_20
  refine fo_iload (k := 4) (fa_75 rfl) ?_
  refine fo_iconst (fa_75 rfl) fk_c_1 ?_
  refine fo_iload_n (k := 3) (fa_75 rfl) ?_
  refine fo_ishl (fa_75 rfl) ?_
  refine fo_icmp_ge (fa_75 rfl) (pcT := 43) rfl fs_75_43 ?_
  refine fo_aload_n (k := 0) (fa_75 rfl) ?_
  refine fo_getr (fa_75 rfl) (by decide) rfl ?_
  refine fo_iload (k := 4) (fa_75 rfl) ?_
  refine fo_iload (k := 4) (fa_75 rfl) ?_
  refine fo_iastore (fa_75 rfl) ?_
  refine fo_iinc (k := 4) (fa_75 rfl) fk_c_1 ?_
  exact fo_goto (fa_75 rfl) (pcT := 20) rfl (fo_back (q := 20) rfl)
theorem fs_75_9 : fSB 75 [0, 9, 20, 49] 2 9 f_75_9 := by
  unfold f_75_9
  refine fo_iload_n (k := 3) (fa_75 rfl) ?_
  refine fo_aload_n (k := 0) (fa_75 rfl) ?_
  refine fo_geti (fa_75 rfl) (by decide) rfl ?_
  refine fo_icmp_ge (fa_75 rfl) (pcT := 92) rfl fs_75_92 ?_
  refine fo_iconst (fa_75 rfl) fk_c_0 ?_
  refine fo_istore (k := 4) (fa_75 rfl) ?_
  exact fs_75_20
theorem fs_75_0 : fSB 75 [0, 9, 20, 49] 2 0 f_75_0 := by
  unfold f_75_0
  refine fo_aload_n (k := 0) (fa_75 rfl) ?_
  refine fo_aload_n (k := 1) (fa_75 rfl) ?_
  refine fo_virtual (by decide) fna_76 (fo_call (fa_75 rfl) fNs_virtual fsm_76 (by decide) fFil_1 fna_76 fx_76 (by rw [fP_76]; rfl) fh_75 ?_)
  refine fo_iconst (fa_75 rfl) fk_c_1 ?_
  refine fo_istore_n (k := 2) (fa_75 rfl) ?_
  refine fo_iconst (fa_75 rfl) fk_c_0 ?_
  refine fo_istore_n (k := 3) (fa_75 rfl) ?_
  exact fs_75_9
theorem fsm_75 : fSM 75 2 fm_75 := fs_methH (lp := [0, 9, 20, 49]) (by decide) rfl ⟨fs_75_0, fs_75_9, fs_75_20, fs_75_49, trivial⟩
theorem fP_79 : mj_P 79 = (7, 1, none, mcX7_init, []) := rfl
theorem fa_79 {pc : Nat} {e : mjE} (h : mj_at mcX7_init pc = some e) : fAt 79 pc e := by unfold fAt; rw [fP_79]; exact h
theorem fr_79 : (mj_P 79).2.2.1 = none := by rw [fP_79]
theorem fna_79 : (mj_P 79).2.1 = 1 := by rw [fP_79]
theorem fx_79 : 1 ≤ mj_mx.getD 79 0 := by decide
theorem fh_79 : (mj_P 79).2.2.2.2.isEmpty = true := by rw [fP_79]; rfl
theorem fs_79_232 : fSB 79 [0, 127, 154, 181, 207] 2 232 f_79_232 := by
  unfold f_79_232
  exact fo_ret (fa_79 rfl) fr_79
theorem fs_79_207 : fSB 79 [0, 127, 154, 181, 207] 2 207 f_79_207 := by
  unfold f_79_207
  refine fo_iload_n (k := 1) (fa_79 rfl) ?_
  refine fo_bipush (fa_79 rfl) fk_b_8 ?_
  refine fo_icmp_ge (fa_79 rfl) (pcT := 232) rfl fs_79_232 ?_
  refine fo_aload_n (k := 0) (fa_79 rfl) ?_
  refine fo_getr (fa_79 rfl) (by decide) rfl ?_
  refine fo_iload_n (k := 1) (fa_79 rfl) ?_
  refine fo_new (fa_79 rfl) fd_2 (by decide) rfl (by decide) ?_
  refine fo_dup (fa_79 rfl) ?_
  refine fo_special (by decide) fna_47 (fo_callH (fa_79 rfl) fNs_special fsm_47 (by decide) fFil_0 fna_47 fx_47 (Or.inl rfl) fHd_nil ?_)
  refine fo_aastore (fa_79 rfl) (by decide) (by decide) (by decide) ?_
  refine fo_iinc (k := 1) (fa_79 rfl) fk_c_1 ?_
  exact fo_goto (fa_79 rfl) (pcT := 207) rfl (fo_back (q := 207) rfl)
theorem fs_79_205 : fSB 79 [0, 127, 154, 181, 207] 2 205 f_79_205 := by
  unfold f_79_205
  refine fo_iconst (fa_79 rfl) fk_c_0 ?_
  refine fo_istore_n (k := 1) (fa_79 rfl) ?_
  exact fs_79_207
theorem fs_79_181 : fSB 79 [0, 127, 154, 181, 207] 2 181 f_79_181 := by
  unfold f_79_181
  refine fo_iload_n (k := 1) (fa_79 rfl) ?_
  refine fo_iconst (fa_79 rfl) fk_c_3 ?_
  refine fo_icmp_ge (fa_79 rfl) (pcT := 205) rfl fs_79_205 ?_
  refine fo_aload_n (k := 0) (fa_79 rfl) ?_
  refine fo_getr (fa_79 rfl) (by decide) rfl ?_
  refine fo_iload_n (k := 1) (fa_79 rfl) ?_
  refine fo_new (fa_79 rfl) fd_3 (by decide) rfl (by decide) ?_
  refine fo_dup (fa_79 rfl) ?_
  refine fo_special (by decide) fna_48 (fo_callH (fa_79 rfl) fNs_special fsm_48 (by decide) fFil_0 fna_48 fx_48 (Or.inl rfl) fHd_nil ?_)
  refine fo_aastore (fa_79 rfl) (by decide) (by decide) (by decide) ?_
  refine fo_iinc (k := 1) (fa_79 rfl) fk_c_1 ?_
  exact fo_goto (fa_79 rfl) (pcT := 181) rfl (fo_back (q := 181) rfl)
theorem fs_79_179 : fSB 79 [0, 127, 154, 181, 207] 2 179 f_79_179 := by
  unfold f_79_179
  refine fo_iconst (fa_79 rfl) fk_c_0 ?_
  refine fo_istore_n (k := 1) (fa_79 rfl) ?_
  exact fs_79_181
theorem fs_79_154 : fSB 79 [0, 127, 154, 181, 207] 2 154 f_79_154 := by
  unfold f_79_154
  refine fo_iload_n (k := 1) (fa_79 rfl) ?_
  refine fo_bipush (fa_79 rfl) fk_b_6 ?_
  refine fo_icmp_ge (fa_79 rfl) (pcT := 179) rfl fs_79_179 ?_
  refine fo_aload_n (k := 0) (fa_79 rfl) ?_
  refine fo_getr (fa_79 rfl) (by decide) rfl ?_
  refine fo_iload_n (k := 1) (fa_79 rfl) ?_
  refine fo_new (fa_79 rfl) fd_4 (by decide) rfl (by decide) ?_
  refine fo_dup (fa_79 rfl) ?_
  refine fo_special (by decide) fna_60 (fo_callH (fa_79 rfl) fNs_special fsm_60 (by decide) fFil_0 fna_60 fx_60 (Or.inl rfl) fHd_nil ?_)
  refine fo_aastore (fa_79 rfl) (by decide) (by decide) (by decide) ?_
  refine fo_iinc (k := 1) (fa_79 rfl) fk_c_1 ?_
  exact fo_goto (fa_79 rfl) (pcT := 154) rfl (fo_back (q := 154) rfl)
theorem fs_79_152 : fSB 79 [0, 127, 154, 181, 207] 2 152 f_79_152 := by
  unfold f_79_152
  refine fo_iconst (fa_79 rfl) fk_c_0 ?_
  refine fo_istore_n (k := 1) (fa_79 rfl) ?_
  exact fs_79_154
theorem fs_79_127 : fSB 79 [0, 127, 154, 181, 207] 2 127 f_79_127 := by
  unfold f_79_127
  refine fo_iload_n (k := 1) (fa_79 rfl) ?_
  refine fo_bipush (fa_79 rfl) fk_b_6 ?_
  refine fo_icmp_ge (fa_79 rfl) (pcT := 152) rfl fs_79_152 ?_
  refine fo_aload_n (k := 0) (fa_79 rfl) ?_
  refine fo_getr (fa_79 rfl) (by decide) rfl ?_
  refine fo_iload_n (k := 1) (fa_79 rfl) ?_
  refine fo_new (fa_79 rfl) fd_1 (by decide) rfl (by decide) ?_
  refine fo_dup (fa_79 rfl) ?_
  refine fo_special (by decide) fna_12 (fo_callH (fa_79 rfl) fNs_special fsm_12 (by decide) fFil_0 fna_12 fx_12 (Or.inl rfl) fHd_nil ?_)
  refine fo_aastore (fa_79 rfl) (by decide) (by decide) (by decide) ?_
  refine fo_iinc (k := 1) (fa_79 rfl) fk_c_1 ?_
  exact fo_goto (fa_79 rfl) (pcT := 127) rfl (fo_back (q := 127) rfl)
theorem fs_79_0 : fSB 79 [0, 127, 154, 181, 207] 2 0 f_79_0 := by
  unfold f_79_0
  refine fo_aload_n (k := 0) (fa_79 rfl) ?_
  refine fo_objinit (fa_79 rfl) ?_
  refine fo_aload_n (k := 0) (fa_79 rfl) ?_
  refine fo_bipush (fa_79 rfl) fk_b_6 ?_
  refine fo_anewarray (fa_79 rfl) (by decide) (by decide) ?_
  refine fo_putr (fa_79 rfl) (by decide) rfl ?_
  refine fo_aload_n (k := 0) (fa_79 rfl) ?_
  refine fo_bipush (fa_79 rfl) fk_b_6 ?_
  refine fo_anewarray (fa_79 rfl) (by decide) (by decide) ?_
  refine fo_putr (fa_79 rfl) (by decide) rfl ?_
  refine fo_aload_n (k := 0) (fa_79 rfl) ?_
  refine fo_iconst (fa_79 rfl) fk_c_3 ?_
  refine fo_anewarray (fa_79 rfl) (by decide) (by decide) ?_
  refine fo_putr (fa_79 rfl) (by decide) rfl ?_
  refine fo_aload_n (k := 0) (fa_79 rfl) ?_
  refine fo_new (fa_79 rfl) fd_1 (by decide) rfl (by decide) ?_
  refine fo_dup (fa_79 rfl) ?_
  refine fo_special (by decide) fna_12 (fo_callH (fa_79 rfl) fNs_special fsm_12 (by decide) fFil_0 fna_12 fx_12 (Or.inl rfl) fHd_nil ?_)
  refine fo_putr (fa_79 rfl) (by decide) rfl ?_
  refine fo_aload_n (k := 0) (fa_79 rfl) ?_
  refine fo_new (fa_79 rfl) fd_4 (by decide) rfl (by decide) ?_
  refine fo_dup (fa_79 rfl) ?_
  refine fo_special (by decide) fna_60 (fo_callH (fa_79 rfl) fNs_special fsm_60 (by decide) fFil_0 fna_60 fx_60 (Or.inl rfl) fHd_nil ?_)
  refine fo_putr (fa_79 rfl) (by decide) rfl ?_
  refine fo_aload_n (k := 0) (fa_79 rfl) ?_
  refine fo_new (fa_79 rfl) fd_3 (by decide) rfl (by decide) ?_
  refine fo_dup (fa_79 rfl) ?_
  refine fo_special (by decide) fna_48 (fo_callH (fa_79 rfl) fNs_special fsm_48 (by decide) fFil_0 fna_48 fx_48 (Or.inl rfl) fHd_nil ?_)
  refine fo_putr (fa_79 rfl) (by decide) rfl ?_
  refine fo_aload_n (k := 0) (fa_79 rfl) ?_
  refine fo_new (fa_79 rfl) fd_0 (by decide) rfl (by decide) ?_
  refine fo_dup (fa_79 rfl) ?_
  refine fo_special (by decide) fna_0 (fo_callH (fa_79 rfl) fNs_special fsm_0 (by decide) fFil_0 fna_0 fx_0 (Or.inl rfl) fHd_nil ?_)
  refine fo_putr (fa_79 rfl) (by decide) rfl ?_
  refine fo_aload_n (k := 0) (fa_79 rfl) ?_
  refine fo_new (fa_79 rfl) fd_5 (by decide) rfl (by decide) ?_
  refine fo_dup (fa_79 rfl) ?_
  refine fo_special (by decide) fna_74 (fo_callH (fa_79 rfl) fNs_special fsm_74 (by decide) fFil_0 fna_74 fx_74 (Or.inl rfl) fHd_nil ?_)
  refine fo_putr (fa_79 rfl) (by decide) rfl ?_
  refine fo_aload_n (k := 0) (fa_79 rfl) ?_
  refine fo_bipush (fa_79 rfl) fk_b_6 ?_
  refine fo_newarray (fa_79 rfl) rfl (by decide) (by decide) fel_20 ?_
  refine fo_putr (fa_79 rfl) (by decide) rfl ?_
  refine fo_aload_n (k := 0) (fa_79 rfl) ?_
  refine fo_bipush (fa_79 rfl) fk_b_8 ?_
  refine fo_anewarray (fa_79 rfl) (by decide) (by decide) ?_
  refine fo_putr (fa_79 rfl) (by decide) rfl ?_
  refine fo_aload_n (k := 0) (fa_79 rfl) ?_
  refine fo_iconst (fa_79 rfl) fk_c_0 ?_
  refine fo_puti (fa_79 rfl) (by decide) rfl ?_
  refine fo_aload_n (k := 0) (fa_79 rfl) ?_
  refine fo_iconst (fa_79 rfl) fk_c_0 ?_
  refine fo_puti (fa_79 rfl) (by decide) rfl ?_
  refine fo_aload_n (k := 0) (fa_79 rfl) ?_
  refine fo_bipush (fa_79 rfl) fk_b_120 ?_
  refine fo_newarray (fa_79 rfl) rfl (by decide) (by decide) fel_22 ?_
  refine fo_putr (fa_79 rfl) (by decide) rfl ?_
  refine fo_aload_n (k := 0) (fa_79 rfl) ?_
  refine fo_iconst (fa_79 rfl) fk_c_0 ?_
  refine fo_puti (fa_79 rfl) (by decide) rfl ?_
  refine fo_iconst (fa_79 rfl) fk_c_0 ?_
  refine fo_istore_n (k := 1) (fa_79 rfl) ?_
  exact fs_79_127
theorem fsm_79 : fSM 79 2 fm_79 := fs_methH (lp := [0, 127, 154, 181, 207]) (by decide) rfl ⟨fs_79_0, fs_79_127, fs_79_154, fs_79_181, fs_79_207, trivial⟩
theorem fP_135 : mj_P 135 = (7, 1, none, mcX7_checkDesignSlot, []) := rfl
theorem fa_135 {pc : Nat} {e : mjE} (h : mj_at mcX7_checkDesignSlot pc = some e) : fAt 135 pc e := by unfold fAt; rw [fP_135]; exact h
theorem fr_135 : (mj_P 135).2.2.1 = none := by rw [fP_135]
theorem fna_135 : (mj_P 135).2.1 = 1 := by rw [fP_135]
theorem fx_135 : 1 ≤ mj_mx.getD 135 0 := by decide
theorem fh_135 : (mj_P 135).2.2.2.2.isEmpty = true := by rw [fP_135]; rfl
theorem fs_135_18 : fSB 135 [0] 0 18 f_135_18 := by
  unfold f_135_18
  exact fo_ret (fa_135 rfl) fr_135
theorem fs_135_10 : fSB 135 [0] 0 10 f_135_10 := by
  unfold f_135_10
  exact fo_throw (fa_135 rfl) fh_135
theorem fs_135_0 : fSB 135 [0] 0 0 f_135_0 := by
  unfold f_135_0
  refine fo_iload_n (k := 0) (fa_135 rfl) ?_
  refine fo_if_lt (fa_135 rfl) (pcT := 10) rfl fs_135_10 ?_
  refine fo_iload_n (k := 0) (fa_135 rfl) ?_
  refine fo_bipush (fa_135 rfl) fk_b_6 ?_
  refine fo_icmp_lt (fa_135 rfl) (pcT := 18) rfl fs_135_18 ?_
  exact fs_135_10
theorem fsm_135 : fSM 135 0 fm_135 := fs_methH (lp := [0]) (by decide) rfl ⟨fs_135_0, trivial⟩
theorem fP_146 : mj_P 146 = (7, 3, none, mcX7_keep, []) := rfl
theorem fa_146 {pc : Nat} {e : mjE} (h : mj_at mcX7_keep pc = some e) : fAt 146 pc e := by unfold fAt; rw [fP_146]; exact h
theorem fr_146 : (mj_P 146).2.2.1 = none := by rw [fP_146]
theorem fna_146 : (mj_P 146).2.1 = 3 := by rw [fP_146]
theorem fx_146 : 3 ≤ mj_mx.getD 146 0 := by decide
theorem fh_146 : (mj_P 146).2.2.2.2.isEmpty = true := by rw [fP_146]; rfl
theorem fs_146_79 : fSB 146 [0] 1 79 f_146_79 := by
  unfold f_146_79
  refine fo_aload_n (k := 0) (fa_146 rfl) ?_
  refine fo_dup (fa_146 rfl) ?_
  refine fo_geti (fa_146 rfl) (by decide) rfl ?_
  refine fo_iconst (fa_146 rfl) fk_c_1 ?_
  refine fo_iadd (fa_146 rfl) ?_
  refine fo_puti (fa_146 rfl) (by decide) rfl ?_
  refine fo_aload_n (k := 0) (fa_146 rfl) ?_
  refine fo_aload_n (k := 0) (fa_146 rfl) ?_
  refine fo_geti (fa_146 rfl) (by decide) rfl ?_
  refine fo_iconst (fa_146 rfl) fk_c_1 ?_
  refine fo_iadd (fa_146 rfl) ?_
  refine fo_bipush (fa_146 rfl) fk_b_8 ?_
  refine fo_static (by decide) (fo_call (fa_146 rfl) fNs_static fsm_276 (by decide) fFil_0 fna_276 fx_276 (by rw [fP_276]; rfl) fh_146 ?_)
  refine fo_puti (fa_146 rfl) (by decide) rfl ?_
  exact fo_ret (fa_146 rfl) fr_146
theorem fs_146_66 : fSB 146 [0] 1 66 f_146_66 := by
  unfold f_146_66
  refine fo_aload_n (k := 3) (fa_146 rfl) ?_
  refine fo_getr (fa_146 rfl) (by decide) rfl ?_
  refine fo_aload_n (k := 0) (fa_146 rfl) ?_
  refine fo_getr (fa_146 rfl) (by decide) rfl ?_
  refine fo_iload_n (k := 2) (fa_146 rfl) ?_
  refine fo_aaload (fa_146 rfl) (by decide) (by decide) ?_
  refine fo_virtual (by decide) fna_52 (fo_call (fa_146 rfl) fNs_virtual fsm_52 (by decide) fFil_0 fna_52 fx_52 (by rw [fP_52]; rfl) fh_146 ?_)
  exact fs_146_79
theorem fs_146_45 : fSB 146 [0] 1 45 f_146_45 := by
  unfold f_146_45
  refine fo_iload_n (k := 1) (fa_146 rfl) ?_
  refine fo_iconst (fa_146 rfl) fk_c_1 ?_
  refine fo_icmp_ne (fa_146 rfl) (pcT := 66) rfl fs_146_66 ?_
  refine fo_aload_n (k := 3) (fa_146 rfl) ?_
  refine fo_getr (fa_146 rfl) (by decide) rfl ?_
  refine fo_aload_n (k := 0) (fa_146 rfl) ?_
  refine fo_getr (fa_146 rfl) (by decide) rfl ?_
  refine fo_iload_n (k := 2) (fa_146 rfl) ?_
  refine fo_aaload (fa_146 rfl) (by decide) (by decide) ?_
  refine fo_virtual (by decide) fna_64 (fo_call (fa_146 rfl) fNs_virtual fsm_64 (by decide) fFil_0 fna_64 fx_64 (by rw [fP_64]; rfl) fh_146 ?_)
  exact fo_goto (fa_146 rfl) (pcT := 79) rfl fs_146_79
theorem fs_146_0 : fSB 146 [0] 1 0 f_146_0 := by
  unfold f_146_0
  refine fo_aload_n (k := 0) (fa_146 rfl) ?_
  refine fo_getr (fa_146 rfl) (by decide) rfl ?_
  refine fo_aload_n (k := 0) (fa_146 rfl) ?_
  refine fo_geti (fa_146 rfl) (by decide) rfl ?_
  refine fo_bipush (fa_146 rfl) fk_b_8 ?_
  refine fo_static (by decide) (fo_call (fa_146 rfl) fNs_static fsm_274 (by decide) fFil_1 fna_274 fx_274 (by rw [fP_274]; rfl) fh_146 ?_)
  refine fo_aaload (fa_146 rfl) (by decide) (by decide) ?_
  refine fo_astore_n (k := 3) (fa_146 rfl) ?_
  refine fo_aload_n (k := 3) (fa_146 rfl) ?_
  refine fo_iload_n (k := 1) (fa_146 rfl) ?_
  refine fo_puti (fa_146 rfl) (by decide) rfl ?_
  refine fo_aload_n (k := 3) (fa_146 rfl) ?_
  refine fo_iload_n (k := 2) (fa_146 rfl) ?_
  refine fo_puti (fa_146 rfl) (by decide) rfl ?_
  refine fo_iload_n (k := 1) (fa_146 rfl) ?_
  refine fo_if_ne (fa_146 rfl) (pcT := 45) rfl fs_146_45 ?_
  refine fo_aload_n (k := 3) (fa_146 rfl) ?_
  refine fo_getr (fa_146 rfl) (by decide) rfl ?_
  refine fo_aload_n (k := 0) (fa_146 rfl) ?_
  refine fo_getr (fa_146 rfl) (by decide) rfl ?_
  refine fo_iload_n (k := 2) (fa_146 rfl) ?_
  refine fo_aaload (fa_146 rfl) (by decide) (by decide) ?_
  refine fo_virtual (by decide) fna_16 (fo_call (fa_146 rfl) fNs_virtual fsm_16 (by decide) fFil_0 fna_16 fx_16 (by rw [fP_16]; rfl) fh_146 ?_)
  exact fo_goto (fa_146 rfl) (pcT := 79) rfl fs_146_79
theorem fsm_146 : fSM 146 1 fm_146 := fs_methH (lp := [0]) (by decide) rfl ⟨fs_146_0, trivial⟩
theorem fP_143 : mj_P 143 = (7, 2, (some .int), mcX7_becomeDesign, []) := rfl
theorem fa_143 {pc : Nat} {e : mjE} (h : mj_at mcX7_becomeDesign pc = some e) : fAt 143 pc e := by unfold fAt; rw [fP_143]; exact h
theorem fr_143 : (mj_P 143).2.2.1 = (some .int) := by rw [fP_143]
theorem fna_143 : (mj_P 143).2.1 = 2 := by rw [fP_143]
theorem fx_143 : 2 ≤ mj_mx.getD 143 0 := by decide
theorem fh_143 : (mj_P 143).2.2.2.2.isEmpty = true := by rw [fP_143]; rfl
theorem fs_143_0 : fSB 143 [0] 2 0 f_143_0 := by
  unfold f_143_0
  refine fo_aload_n (k := 0) (fa_143 rfl) ?_
  refine fo_iconst (fa_143 rfl) fk_c_0 ?_
  refine fo_iload_n (k := 1) (fa_143 rfl) ?_
  refine fo_virtual (by decide) fna_146 (fo_call (fa_143 rfl) fNs_virtual fsm_146 (by decide) fFil_1 fna_146 fx_146 (by rw [fP_146]; rfl) fh_143 ?_)
  refine fo_aload_n (k := 0) (fa_143 rfl) ?_
  refine fo_getr (fa_143 rfl) (by decide) rfl ?_
  refine fo_iload_n (k := 1) (fa_143 rfl) ?_
  refine fo_aaload (fa_143 rfl) (by decide) (by decide) ?_
  refine fo_aload_n (k := 0) (fa_143 rfl) ?_
  refine fo_getr (fa_143 rfl) (by decide) rfl ?_
  refine fo_virtual (by decide) fna_16 (fo_call (fa_143 rfl) fNs_virtual fsm_16 (by decide) fFil_0 fna_16 fx_16 (by rw [fP_16]; rfl) fh_143 ?_)
  refine fo_aload_n (k := 0) (fa_143 rfl) ?_
  refine fo_getr (fa_143 rfl) (by decide) rfl ?_
  refine fo_geti (fa_143 rfl) (by decide) rfl ?_
  exact fo_iret (fa_143 rfl) fr_143 fw_int
theorem fsm_143 : fSM 143 2 fm_143 := fs_methH (lp := [0]) (by decide) rfl ⟨fs_143_0, trivial⟩
theorem fP_80 : mj_P 80 = (7, 3, (some .int), mcX7_blank, []) := rfl
theorem fa_80 {pc : Nat} {e : mjE} (h : mj_at mcX7_blank pc = some e) : fAt 80 pc e := by unfold fAt; rw [fP_80]; exact h
theorem fr_80 : (mj_P 80).2.2.1 = (some .int) := by rw [fP_80]
theorem fna_80 : (mj_P 80).2.1 = 3 := by rw [fP_80]
theorem fx_80 : 3 ≤ mj_mx.getD 80 0 := by decide
theorem fh_80 : (mj_P 80).2.2.2.2.isEmpty = true := by rw [fP_80]; rfl
theorem fs_80_23 : fSB 80 [0] 3 23 f_80_23 := by
  unfold f_80_23
  refine fo_aload_n (k := 0) (fa_80 rfl) ?_
  refine fo_getr (fa_80 rfl) (by decide) rfl ?_
  refine fo_iload_n (k := 2) (fa_80 rfl) ?_
  refine fo_virtual (by decide) fna_13 (fo_call (fa_80 rfl) fNs_virtual fsm_13 (by decide) fFil_0 fna_13 fx_13 (by rw [fP_13]; rfl) fh_80 ?_)
  refine fo_aload_n (k := 0) (fa_80 rfl) ?_
  refine fo_iload_n (k := 1) (fa_80 rfl) ?_
  refine fo_virtual (by decide) fna_143 (fo_call (fa_80 rfl) fNs_virtual fsm_143 (by decide) fFil_0 fna_143 fx_143 (by rw [fP_143]; rfl) fh_80 ?_)
  refine fo_pop (fa_80 rfl) ?_
  refine fo_iload_n (k := 2) (fa_80 rfl) ?_
  exact fo_iret (fa_80 rfl) fr_80 fw_int
theorem fs_80_15 : fSB 80 [0] 3 15 f_80_15 := by
  unfold f_80_15
  exact fo_throw (fa_80 rfl) fh_80
theorem fs_80_0 : fSB 80 [0] 3 0 f_80_0 := by
  unfold f_80_0
  refine fo_iload_n (k := 1) (fa_80 rfl) ?_
  refine fo_static (by decide) (fo_call (fa_80 rfl) fNs_static fsm_135 (by decide) fFil_0 fna_135 fx_135 (by rw [fP_135]; rfl) fh_80 ?_)
  refine fo_iload_n (k := 2) (fa_80 rfl) ?_
  refine fo_iconst (fa_80 rfl) fk_c_1 ?_
  refine fo_icmp_lt (fa_80 rfl) (pcT := 15) rfl fs_80_15 ?_
  refine fo_iload_n (k := 2) (fa_80 rfl) ?_
  refine fo_bipush (fa_80 rfl) fk_b_31 ?_
  refine fo_icmp_le (fa_80 rfl) (pcT := 23) rfl fs_80_23 ?_
  exact fs_80_15
theorem fsm_80 : fSM 80 3 fm_80 := fs_methH (lp := [0]) (by decide) rfl ⟨fs_80_0, trivial⟩
theorem fP_138 : mj_P 138 = (7, 2, (some (.object "DesignsOffice$Design")), mcX7_heldDesign, []) := rfl
theorem fa_138 {pc : Nat} {e : mjE} (h : mj_at mcX7_heldDesign pc = some e) : fAt 138 pc e := by unfold fAt; rw [fP_138]; exact h
theorem fr_138 : (mj_P 138).2.2.1 = (some (.object "DesignsOffice$Design")) := by rw [fP_138]
theorem fna_138 : (mj_P 138).2.1 = 2 := by rw [fP_138]
theorem fx_138 : 2 ≤ mj_mx.getD 138 0 := by decide
theorem fh_138 : (mj_P 138).2.2.2.2.isEmpty = true := by rw [fP_138]; rfl
theorem fs_138_26 : fSB 138 [0] 1 26 f_138_26 := by
  unfold f_138_26
  refine fo_aload_n (k := 2) (fa_138 rfl) ?_
  exact fo_aret (fa_138 rfl) (by rw [fr_138]; rfl)
theorem fs_138_0 : fSB 138 [0] 1 0 f_138_0 := by
  unfold f_138_0
  refine fo_iload_n (k := 1) (fa_138 rfl) ?_
  refine fo_static (by decide) (fo_call (fa_138 rfl) fNs_static fsm_135 (by decide) fFil_0 fna_135 fx_135 (by rw [fP_135]; rfl) fh_138 ?_)
  refine fo_aload_n (k := 0) (fa_138 rfl) ?_
  refine fo_getr (fa_138 rfl) (by decide) rfl ?_
  refine fo_iload_n (k := 1) (fa_138 rfl) ?_
  refine fo_aaload (fa_138 rfl) (by decide) (by decide) ?_
  refine fo_astore_n (k := 2) (fa_138 rfl) ?_
  refine fo_aload_n (k := 2) (fa_138 rfl) ?_
  refine fo_geti (fa_138 rfl) (by decide) rfl ?_
  refine fo_if_ne (fa_138 rfl) (pcT := 26) rfl fs_138_26 ?_
  exact fo_throw (fa_138 rfl) fh_138
theorem fsm_138 : fSM 138 1 fm_138 := fs_methH (lp := [0]) (by decide) rfl ⟨fs_138_0, trivial⟩
theorem fP_81 : mj_P 81 = (7, 3, (some .int), mcX7_block, []) := rfl
theorem fa_81 {pc : Nat} {e : mjE} (h : mj_at mcX7_block pc = some e) : fAt 81 pc e := by unfold fAt; rw [fP_81]; exact h
theorem fr_81 : (mj_P 81).2.2.1 = (some .int) := by rw [fP_81]
theorem fna_81 : (mj_P 81).2.1 = 3 := by rw [fP_81]
theorem fx_81 : 3 ≤ mj_mx.getD 81 0 := by decide
theorem fh_81 : (mj_P 81).2.2.2.2.isEmpty = true := by rw [fP_81]; rfl
theorem fs_81_47 : fSB 81 [0] 2 47 f_81_47 := by
  unfold f_81_47
  refine fo_aload_n (k := 0) (fa_81 rfl) ?_
  refine fo_iconst (fa_81 rfl) fk_c_0 ?_
  refine fo_iload_n (k := 1) (fa_81 rfl) ?_
  refine fo_virtual (by decide) fna_146 (fo_call (fa_81 rfl) fNs_virtual fsm_146 (by decide) fFil_1 fna_146 fx_146 (by rw [fP_146]; rfl) fh_81 ?_)
  refine fo_aload_n (k := 3) (fa_81 rfl) ?_
  refine fo_iload_n (k := 2) (fa_81 rfl) ?_
  refine fo_virtual (by decide) fna_14 (fo_call (fa_81 rfl) fNs_virtual fsm_14 (by decide) fFil_0 fna_14 fx_14 (by rw [fP_14]; rfl) fh_81 ?_)
  refine fo_aload_n (k := 3) (fa_81 rfl) ?_
  refine fo_geti (fa_81 rfl) (by decide) rfl ?_
  refine fo_iconst (fa_81 rfl) fk_c_1 ?_
  refine fo_isub (fa_81 rfl) ?_
  exact fo_iret (fa_81 rfl) fr_81 fw_int
theorem fs_81_29 : fSB 81 [0] 2 29 f_81_29 := by
  unfold f_81_29
  refine fo_aload_n (k := 3) (fa_81 rfl) ?_
  refine fo_geti (fa_81 rfl) (by decide) rfl ?_
  refine fo_sipush (fa_81 rfl) fk_s_160 ?_
  refine fo_icmp_lt (fa_81 rfl) (pcT := 47) rfl fs_81_47 ?_
  exact fo_throw (fa_81 rfl) fh_81
theorem fs_81_21 : fSB 81 [0] 2 21 f_81_21 := by
  unfold f_81_21
  exact fo_throw (fa_81 rfl) fh_81
theorem fs_81_0 : fSB 81 [0] 2 0 f_81_0 := by
  unfold f_81_0
  refine fo_aload_n (k := 0) (fa_81 rfl) ?_
  refine fo_iload_n (k := 1) (fa_81 rfl) ?_
  refine fo_virtual (by decide) fna_138 (fo_call (fa_81 rfl) fNs_virtual fsm_138 (by decide) fFil_1 fna_138 fx_138 (by rw [fP_138]; rfl) fh_81 ?_)
  refine fo_astore_n (k := 3) (fa_81 rfl) ?_
  refine fo_iload_n (k := 2) (fa_81 rfl) ?_
  refine fo_if_eq (fa_81 rfl) (pcT := 21) rfl fs_81_21 ?_
  refine fo_iload_n (k := 2) (fa_81 rfl) ?_
  refine fo_aload_n (k := 3) (fa_81 rfl) ?_
  refine fo_virtual (by decide) fna_18 (fo_call (fa_81 rfl) fNs_virtual fsm_18 (by decide) fFil_0 fna_18 fx_18 (by rw [fP_18]; rfl) fh_81 ?_)
  refine fo_iconst (fa_81 rfl) fk_c_m1 ?_
  refine fo_ixor (fa_81 rfl) ?_
  refine fo_iand (fa_81 rfl) ?_
  refine fo_if_eq (fa_81 rfl) (pcT := 29) rfl fs_81_29 ?_
  exact fs_81_21
theorem fsm_81 : fSM 81 2 fm_81 := fs_methH (lp := [0]) (by decide) rfl ⟨fs_81_0, trivial⟩
theorem fP_82 : mj_P 82 = (7, 4, (some .int), mcX7_shift, []) := rfl
theorem fa_82 {pc : Nat} {e : mjE} (h : mj_at mcX7_shift pc = some e) : fAt 82 pc e := by unfold fAt; rw [fP_82]; exact h
theorem fr_82 : (mj_P 82).2.2.1 = (some .int) := by rw [fP_82]
theorem fna_82 : (mj_P 82).2.1 = 4 := by rw [fP_82]
theorem fx_82 : 4 ≤ mj_mx.getD 82 0 := by decide
theorem fh_82 : (mj_P 82).2.2.2.2.isEmpty = true := by rw [fP_82]; rfl
theorem fs_82_38 : fSB 82 [0] 3 38 f_82_38 := by
  unfold f_82_38
  refine fo_aload_n (k := 0) (fa_82 rfl) ?_
  refine fo_getr (fa_82 rfl) (by decide) rfl ?_
  refine fo_iload_n (k := 2) (fa_82 rfl) ?_
  refine fo_iload_n (k := 3) (fa_82 rfl) ?_
  refine fo_virtual (by decide) fna_26 (fo_call (fa_82 rfl) fNs_virtual fsm_26 (by decide) fFil_2 fna_26 fx_26 (by rw [fP_26]; rfl) fh_82 ?_)
  refine fo_aload_n (k := 0) (fa_82 rfl) ?_
  refine fo_iload_n (k := 1) (fa_82 rfl) ?_
  refine fo_virtual (by decide) fna_143 (fo_call (fa_82 rfl) fNs_virtual fsm_143 (by decide) fFil_0 fna_143 fx_143 (by rw [fP_143]; rfl) fh_82 ?_)
  exact fo_iret (fa_82 rfl) fr_82 fw_int
theorem fs_82_30 : fSB 82 [0] 3 30 f_82_30 := by
  unfold f_82_30
  exact fo_throw (fa_82 rfl) fh_82
theorem fs_82_0 : fSB 82 [0] 3 0 f_82_0 := by
  unfold f_82_0
  refine fo_iload_n (k := 1) (fa_82 rfl) ?_
  refine fo_static (by decide) (fo_call (fa_82 rfl) fNs_static fsm_135 (by decide) fFil_0 fna_135 fx_135 (by rw [fP_135]; rfl) fh_82 ?_)
  refine fo_iload_n (k := 2) (fa_82 rfl) ?_
  refine fo_iconst (fa_82 rfl) fk_c_1 ?_
  refine fo_icmp_lt (fa_82 rfl) (pcT := 30) rfl fs_82_30 ?_
  refine fo_iload_n (k := 2) (fa_82 rfl) ?_
  refine fo_bipush (fa_82 rfl) fk_b_31 ?_
  refine fo_icmp_gt (fa_82 rfl) (pcT := 30) rfl fs_82_30 ?_
  refine fo_iload_n (k := 3) (fa_82 rfl) ?_
  refine fo_if_eq (fa_82 rfl) (pcT := 30) rfl fs_82_30 ?_
  refine fo_iload_n (k := 3) (fa_82 rfl) ?_
  refine fo_iload_n (k := 2) (fa_82 rfl) ?_
  refine fo_static (by decide) (fo_call (fa_82 rfl) fNs_static fsm_165 (by decide) fFil_0 fna_165 fx_165 (by rw [fP_165]; rfl) fh_82 ?_)
  refine fo_iconst (fa_82 rfl) fk_c_m1 ?_
  refine fo_ixor (fa_82 rfl) ?_
  refine fo_andz_eq (fa_82 rfl) (fa_82 rfl) (pcZ := 38) rfl fs_82_38 ?_
  exact fs_82_30
theorem fsm_82 : fSM 82 3 fm_82 := fs_methH (lp := [0]) (by decide) rfl ⟨fs_82_0, trivial⟩
theorem fP_83 : mj_P 83 = (7, 3, (some .int), mcX7_affine, []) := rfl
theorem fa_83 {pc : Nat} {e : mjE} (h : mj_at mcX7_affine pc = some e) : fAt 83 pc e := by unfold fAt; rw [fP_83]; exact h
theorem fr_83 : (mj_P 83).2.2.1 = (some .int) := by rw [fP_83]
theorem fna_83 : (mj_P 83).2.1 = 3 := by rw [fP_83]
theorem fx_83 : 3 ≤ mj_mx.getD 83 0 := by decide
theorem fh_83 : (mj_P 83).2.2.2.2.isEmpty = true := by rw [fP_83]; rfl
theorem fs_83_22 : fSB 83 [0] 4 22 f_83_22 := by
  unfold f_83_22
  refine fo_aload_n (k := 0) (fa_83 rfl) ?_
  refine fo_getr (fa_83 rfl) (by decide) rfl ?_
  refine fo_iload_n (k := 2) (fa_83 rfl) ?_
  refine fo_iconst (fa_83 rfl) fk_c_1 ?_
  refine fo_virtual (by decide) fna_27 (fo_call (fa_83 rfl) fNs_virtual fsm_27 (by decide) fFil_5 fna_27 fx_27 (by rw [fP_27]; rfl) fh_83 ?_)
  refine fo_aload_n (k := 0) (fa_83 rfl) ?_
  refine fo_iload_n (k := 1) (fa_83 rfl) ?_
  refine fo_virtual (by decide) fna_143 (fo_call (fa_83 rfl) fNs_virtual fsm_143 (by decide) fFil_0 fna_143 fx_143 (by rw [fP_143]; rfl) fh_83 ?_)
  exact fo_iret (fa_83 rfl) fr_83 fw_int
theorem fs_83_14 : fSB 83 [0] 4 14 f_83_14 := by
  unfold f_83_14
  exact fo_throw (fa_83 rfl) fh_83
theorem fs_83_0 : fSB 83 [0] 4 0 f_83_0 := by
  unfold f_83_0
  refine fo_iload_n (k := 1) (fa_83 rfl) ?_
  refine fo_static (by decide) (fo_call (fa_83 rfl) fNs_static fsm_135 (by decide) fFil_0 fna_135 fx_135 (by rw [fP_135]; rfl) fh_83 ?_)
  refine fo_iload_n (k := 2) (fa_83 rfl) ?_
  refine fo_iconst (fa_83 rfl) fk_c_2 ?_
  refine fo_icmp_lt (fa_83 rfl) (pcT := 14) rfl fs_83_14 ?_
  refine fo_iload_n (k := 2) (fa_83 rfl) ?_
  refine fo_iconst (fa_83 rfl) fk_c_5 ?_
  refine fo_icmp_le (fa_83 rfl) (pcT := 22) rfl fs_83_22 ?_
  exact fs_83_14
theorem fsm_83 : fSM 83 4 fm_83 := fs_methH (lp := [0]) (by decide) rfl ⟨fs_83_0, trivial⟩
theorem fP_84 : mj_P 84 = (7, 3, (some .int), mcX7_projective, []) := rfl
theorem fa_84 {pc : Nat} {e : mjE} (h : mj_at mcX7_projective pc = some e) : fAt 84 pc e := by unfold fAt; rw [fP_84]; exact h
theorem fr_84 : (mj_P 84).2.2.1 = (some .int) := by rw [fP_84]
theorem fna_84 : (mj_P 84).2.1 = 3 := by rw [fP_84]
theorem fx_84 : 3 ≤ mj_mx.getD 84 0 := by decide
theorem fh_84 : (mj_P 84).2.2.2.2.isEmpty = true := by rw [fP_84]; rfl
theorem fs_84_22 : fSB 84 [0] 4 22 f_84_22 := by
  unfold f_84_22
  refine fo_aload_n (k := 0) (fa_84 rfl) ?_
  refine fo_getr (fa_84 rfl) (by decide) rfl ?_
  refine fo_iload_n (k := 2) (fa_84 rfl) ?_
  refine fo_iconst (fa_84 rfl) fk_c_0 ?_
  refine fo_virtual (by decide) fna_27 (fo_call (fa_84 rfl) fNs_virtual fsm_27 (by decide) fFil_5 fna_27 fx_27 (by rw [fP_27]; rfl) fh_84 ?_)
  refine fo_aload_n (k := 0) (fa_84 rfl) ?_
  refine fo_iload_n (k := 1) (fa_84 rfl) ?_
  refine fo_virtual (by decide) fna_143 (fo_call (fa_84 rfl) fNs_virtual fsm_143 (by decide) fFil_0 fna_143 fx_143 (by rw [fP_143]; rfl) fh_84 ?_)
  exact fo_iret (fa_84 rfl) fr_84 fw_int
theorem fs_84_14 : fSB 84 [0] 4 14 f_84_14 := by
  unfold f_84_14
  exact fo_throw (fa_84 rfl) fh_84
theorem fs_84_0 : fSB 84 [0] 4 0 f_84_0 := by
  unfold f_84_0
  refine fo_iload_n (k := 1) (fa_84 rfl) ?_
  refine fo_static (by decide) (fo_call (fa_84 rfl) fNs_static fsm_135 (by decide) fFil_0 fna_135 fx_135 (by rw [fP_135]; rfl) fh_84 ?_)
  refine fo_iload_n (k := 2) (fa_84 rfl) ?_
  refine fo_iconst (fa_84 rfl) fk_c_2 ?_
  refine fo_icmp_lt (fa_84 rfl) (pcT := 14) rfl fs_84_14 ?_
  refine fo_iload_n (k := 2) (fa_84 rfl) ?_
  refine fo_iconst (fa_84 rfl) fk_c_5 ?_
  refine fo_icmp_le (fa_84 rfl) (pcT := 22) rfl fs_84_22 ?_
  exact fs_84_14
theorem fsm_84 : fSM 84 4 fm_84 := fs_methH (lp := [0]) (by decide) rfl ⟨fs_84_0, trivial⟩
theorem fP_85 : mj_P 85 = (7, 3, (some .int), mcX7_bose, []) := rfl
theorem fa_85 {pc : Nat} {e : mjE} (h : mj_at mcX7_bose pc = some e) : fAt 85 pc e := by unfold fAt; rw [fP_85]; exact h
theorem fr_85 : (mj_P 85).2.2.1 = (some .int) := by rw [fP_85]
theorem fna_85 : (mj_P 85).2.1 = 3 := by rw [fP_85]
theorem fx_85 : 3 ≤ mj_mx.getD 85 0 := by decide
theorem fh_85 : (mj_P 85).2.2.2.2.isEmpty = true := by rw [fP_85]; rfl
theorem fs_85_21 : fSB 85 [0] 3 21 f_85_21 := by
  unfold f_85_21
  refine fo_aload_n (k := 0) (fa_85 rfl) ?_
  refine fo_getr (fa_85 rfl) (by decide) rfl ?_
  refine fo_iload_n (k := 2) (fa_85 rfl) ?_
  refine fo_virtual (by decide) fna_28 (fo_call (fa_85 rfl) fNs_virtual fsm_28 (by decide) fFil_3 fna_28 fx_28 (by rw [fP_28]; rfl) fh_85 ?_)
  refine fo_aload_n (k := 0) (fa_85 rfl) ?_
  refine fo_iload_n (k := 1) (fa_85 rfl) ?_
  refine fo_virtual (by decide) fna_143 (fo_call (fa_85 rfl) fNs_virtual fsm_143 (by decide) fFil_0 fna_143 fx_143 (by rw [fP_143]; rfl) fh_85 ?_)
  exact fo_iret (fa_85 rfl) fr_85 fw_int
theorem fs_85_13 : fSB 85 [0] 3 13 f_85_13 := by
  unfold f_85_13
  exact fo_throw (fa_85 rfl) fh_85
theorem fs_85_0 : fSB 85 [0] 3 0 f_85_0 := by
  unfold f_85_0
  refine fo_iload_n (k := 1) (fa_85 rfl) ?_
  refine fo_static (by decide) (fo_call (fa_85 rfl) fNs_static fsm_135 (by decide) fFil_0 fna_135 fx_135 (by rw [fP_135]; rfl) fh_85 ?_)
  refine fo_iload_n (k := 2) (fa_85 rfl) ?_
  refine fo_if_lt (fa_85 rfl) (pcT := 13) rfl fs_85_13 ?_
  refine fo_iload_n (k := 2) (fa_85 rfl) ?_
  refine fo_iconst (fa_85 rfl) fk_c_4 ?_
  refine fo_icmp_le (fa_85 rfl) (pcT := 21) rfl fs_85_21 ?_
  exact fs_85_13
theorem fsm_85 : fSM 85 3 fm_85 := fs_methH (lp := [0]) (by decide) rfl ⟨fs_85_0, trivial⟩
theorem fP_86 : mj_P 86 = (7, 3, (some .int), mcX7_skolem, []) := rfl
theorem fa_86 {pc : Nat} {e : mjE} (h : mj_at mcX7_skolem pc = some e) : fAt 86 pc e := by unfold fAt; rw [fP_86]; exact h
theorem fr_86 : (mj_P 86).2.2.1 = (some .int) := by rw [fP_86]
theorem fna_86 : (mj_P 86).2.1 = 3 := by rw [fP_86]
theorem fx_86 : 3 ≤ mj_mx.getD 86 0 := by decide
theorem fh_86 : (mj_P 86).2.2.2.2.isEmpty = true := by rw [fP_86]; rfl
theorem fs_86_22 : fSB 86 [0] 3 22 f_86_22 := by
  unfold f_86_22
  refine fo_aload_n (k := 0) (fa_86 rfl) ?_
  refine fo_getr (fa_86 rfl) (by decide) rfl ?_
  refine fo_iload_n (k := 2) (fa_86 rfl) ?_
  refine fo_virtual (by decide) fna_29 (fo_call (fa_86 rfl) fNs_virtual fsm_29 (by decide) fFil_4 fna_29 fx_29 (by rw [fP_29]; rfl) fh_86 ?_)
  refine fo_aload_n (k := 0) (fa_86 rfl) ?_
  refine fo_iload_n (k := 1) (fa_86 rfl) ?_
  refine fo_virtual (by decide) fna_143 (fo_call (fa_86 rfl) fNs_virtual fsm_143 (by decide) fFil_0 fna_143 fx_143 (by rw [fP_143]; rfl) fh_86 ?_)
  exact fo_iret (fa_86 rfl) fr_86 fw_int
theorem fs_86_14 : fSB 86 [0] 3 14 f_86_14 := by
  unfold f_86_14
  exact fo_throw (fa_86 rfl) fh_86
theorem fs_86_0 : fSB 86 [0] 3 0 f_86_0 := by
  unfold f_86_0
  refine fo_iload_n (k := 1) (fa_86 rfl) ?_
  refine fo_static (by decide) (fo_call (fa_86 rfl) fNs_static fsm_135 (by decide) fFil_0 fna_135 fx_135 (by rw [fP_135]; rfl) fh_86 ?_)
  refine fo_iload_n (k := 2) (fa_86 rfl) ?_
  refine fo_iconst (fa_86 rfl) fk_c_1 ?_
  refine fo_icmp_lt (fa_86 rfl) (pcT := 14) rfl fs_86_14 ?_
  refine fo_iload_n (k := 2) (fa_86 rfl) ?_
  refine fo_iconst (fa_86 rfl) fk_c_5 ?_
  refine fo_icmp_le (fa_86 rfl) (pcT := 22) rfl fs_86_22 ?_
  exact fs_86_14
theorem fsm_86 : fSM 86 3 fm_86 := fs_methH (lp := [0]) (by decide) rfl ⟨fs_86_0, trivial⟩
theorem fP_87 : mj_P 87 = (7, 4, (some .int), mcX7_product, []) := rfl
theorem fa_87 {pc : Nat} {e : mjE} (h : mj_at mcX7_product pc = some e) : fAt 87 pc e := by unfold fAt; rw [fP_87]; exact h
theorem fr_87 : (mj_P 87).2.2.1 = (some .int) := by rw [fP_87]
theorem fna_87 : (mj_P 87).2.1 = 4 := by rw [fP_87]
theorem fx_87 : 4 ≤ mj_mx.getD 87 0 := by decide
theorem fh_87 : (mj_P 87).2.2.2.2.isEmpty = true := by rw [fP_87]; rfl
theorem fs_87_114 : fSB 87 [0] 3 114 f_87_114 := by
  unfold f_87_114
  refine fo_aload_n (k := 0) (fa_87 rfl) ?_
  refine fo_getr (fa_87 rfl) (by decide) rfl ?_
  refine fo_aload (k := 4) (fa_87 rfl) ?_
  refine fo_aload (k := 5) (fa_87 rfl) ?_
  refine fo_virtual (by decide) fna_33 (fo_call (fa_87 rfl) fNs_virtual fsm_33 (by decide) fFil_3 fna_33 fx_33 (by rw [fP_33]; rfl) fh_87 ?_)
  refine fo_aload_n (k := 0) (fa_87 rfl) ?_
  refine fo_iload_n (k := 3) (fa_87 rfl) ?_
  refine fo_virtual (by decide) fna_143 (fo_call (fa_87 rfl) fNs_virtual fsm_143 (by decide) fFil_0 fna_143 fx_143 (by rw [fP_143]; rfl) fh_87 ?_)
  exact fo_iret (fa_87 rfl) fr_87 fw_int
theorem fs_87_106 : fSB 87 [0] 3 106 f_87_106 := by
  unfold f_87_106
  exact fo_throw (fa_87 rfl) fh_87
theorem fs_87_0 : fSB 87 [0] 3 0 f_87_0 := by
  unfold f_87_0
  refine fo_iload_n (k := 1) (fa_87 rfl) ?_
  refine fo_static (by decide) (fo_call (fa_87 rfl) fNs_static fsm_135 (by decide) fFil_0 fna_135 fx_135 (by rw [fP_135]; rfl) fh_87 ?_)
  refine fo_iload_n (k := 2) (fa_87 rfl) ?_
  refine fo_static (by decide) (fo_call (fa_87 rfl) fNs_static fsm_135 (by decide) fFil_0 fna_135 fx_135 (by rw [fP_135]; rfl) fh_87 ?_)
  refine fo_iload_n (k := 3) (fa_87 rfl) ?_
  refine fo_static (by decide) (fo_call (fa_87 rfl) fNs_static fsm_135 (by decide) fFil_0 fna_135 fx_135 (by rw [fP_135]; rfl) fh_87 ?_)
  refine fo_aload_n (k := 0) (fa_87 rfl) ?_
  refine fo_iload_n (k := 1) (fa_87 rfl) ?_
  refine fo_virtual (by decide) fna_138 (fo_call (fa_87 rfl) fNs_virtual fsm_138 (by decide) fFil_1 fna_138 fx_138 (by rw [fP_138]; rfl) fh_87 ?_)
  refine fo_astore (k := 4) (fa_87 rfl) ?_
  refine fo_aload_n (k := 0) (fa_87 rfl) ?_
  refine fo_iload_n (k := 2) (fa_87 rfl) ?_
  refine fo_virtual (by decide) fna_138 (fo_call (fa_87 rfl) fNs_virtual fsm_138 (by decide) fFil_1 fna_138 fx_138 (by rw [fP_138]; rfl) fh_87 ?_)
  refine fo_astore (k := 5) (fa_87 rfl) ?_
  refine fo_aload (k := 4) (fa_87 rfl) ?_
  refine fo_geti (fa_87 rfl) (by decide) rfl ?_
  refine fo_aload (k := 5) (fa_87 rfl) ?_
  refine fo_geti (fa_87 rfl) (by decide) rfl ?_
  refine fo_imul (fa_87 rfl) ?_
  refine fo_aload (k := 5) (fa_87 rfl) ?_
  refine fo_geti (fa_87 rfl) (by decide) rfl ?_
  refine fo_aload (k := 4) (fa_87 rfl) ?_
  refine fo_geti (fa_87 rfl) (by decide) rfl ?_
  refine fo_imul (fa_87 rfl) ?_
  refine fo_iadd (fa_87 rfl) ?_
  refine fo_bipush (fa_87 rfl) fk_b_6 ?_
  refine fo_aload (k := 4) (fa_87 rfl) ?_
  refine fo_geti (fa_87 rfl) (by decide) rfl ?_
  refine fo_imul (fa_87 rfl) ?_
  refine fo_aload (k := 5) (fa_87 rfl) ?_
  refine fo_geti (fa_87 rfl) (by decide) rfl ?_
  refine fo_imul (fa_87 rfl) ?_
  refine fo_iadd (fa_87 rfl) ?_
  refine fo_istore (k := 6) (fa_87 rfl) ?_
  refine fo_aload (k := 4) (fa_87 rfl) ?_
  refine fo_virtual (by decide) fna_23 (fo_call (fa_87 rfl) fNs_virtual fsm_23 (by decide) fFil_1 fna_23 fx_23 (by rw [fP_23]; rfl) fh_87 ?_)
  refine fo_if_eq (fa_87 rfl) (pcT := 106) rfl fs_87_106 ?_
  refine fo_aload (k := 5) (fa_87 rfl) ?_
  refine fo_virtual (by decide) fna_23 (fo_call (fa_87 rfl) fNs_virtual fsm_23 (by decide) fFil_1 fna_23 fx_23 (by rw [fP_23]; rfl) fh_87 ?_)
  refine fo_if_eq (fa_87 rfl) (pcT := 106) rfl fs_87_106 ?_
  refine fo_aload (k := 4) (fa_87 rfl) ?_
  refine fo_geti (fa_87 rfl) (by decide) rfl ?_
  refine fo_aload (k := 5) (fa_87 rfl) ?_
  refine fo_geti (fa_87 rfl) (by decide) rfl ?_
  refine fo_imul (fa_87 rfl) ?_
  refine fo_bipush (fa_87 rfl) fk_b_31 ?_
  refine fo_icmp_gt (fa_87 rfl) (pcT := 106) rfl fs_87_106 ?_
  refine fo_iload (k := 6) (fa_87 rfl) ?_
  refine fo_sipush (fa_87 rfl) fk_s_160 ?_
  refine fo_icmp_le (fa_87 rfl) (pcT := 114) rfl fs_87_114 ?_
  exact fs_87_106
theorem fsm_87 : fSM 87 3 fm_87 := fs_methH (lp := [0]) (by decide) rfl ⟨fs_87_0, trivial⟩
theorem fP_88 : mj_P 88 = (7, 2, (some .int), mcX7_points, []) := rfl
theorem fa_88 {pc : Nat} {e : mjE} (h : mj_at mcX7_points pc = some e) : fAt 88 pc e := by unfold fAt; rw [fP_88]; exact h
theorem fr_88 : (mj_P 88).2.2.1 = (some .int) := by rw [fP_88]
theorem fna_88 : (mj_P 88).2.1 = 2 := by rw [fP_88]
theorem fx_88 : 2 ≤ mj_mx.getD 88 0 := by decide
theorem fh_88 : (mj_P 88).2.2.2.2.isEmpty = true := by rw [fP_88]; rfl
theorem fs_88_0 : fSB 88 [0] 2 0 f_88_0 := by
  unfold f_88_0
  refine fo_aload_n (k := 0) (fa_88 rfl) ?_
  refine fo_iload_n (k := 1) (fa_88 rfl) ?_
  refine fo_virtual (by decide) fna_138 (fo_call (fa_88 rfl) fNs_virtual fsm_138 (by decide) fFil_1 fna_138 fx_138 (by rw [fP_138]; rfl) fh_88 ?_)
  refine fo_geti (fa_88 rfl) (by decide) rfl ?_
  exact fo_iret (fa_88 rfl) fr_88 fw_int
theorem fsm_88 : fSM 88 2 fm_88 := fs_methH (lp := [0]) (by decide) rfl ⟨fs_88_0, trivial⟩
theorem fP_89 : mj_P 89 = (7, 2, (some .int), mcX7_blocks, []) := rfl
theorem fa_89 {pc : Nat} {e : mjE} (h : mj_at mcX7_blocks pc = some e) : fAt 89 pc e := by unfold fAt; rw [fP_89]; exact h
theorem fr_89 : (mj_P 89).2.2.1 = (some .int) := by rw [fP_89]
theorem fna_89 : (mj_P 89).2.1 = 2 := by rw [fP_89]
theorem fx_89 : 2 ≤ mj_mx.getD 89 0 := by decide
theorem fh_89 : (mj_P 89).2.2.2.2.isEmpty = true := by rw [fP_89]; rfl
theorem fs_89_0 : fSB 89 [0] 2 0 f_89_0 := by
  unfold f_89_0
  refine fo_aload_n (k := 0) (fa_89 rfl) ?_
  refine fo_iload_n (k := 1) (fa_89 rfl) ?_
  refine fo_virtual (by decide) fna_138 (fo_call (fa_89 rfl) fNs_virtual fsm_138 (by decide) fFil_1 fna_138 fx_138 (by rw [fP_138]; rfl) fh_89 ?_)
  refine fo_geti (fa_89 rfl) (by decide) rfl ?_
  exact fo_iret (fa_89 rfl) fr_89 fw_int
theorem fsm_89 : fSM 89 2 fm_89 := fs_methH (lp := [0]) (by decide) rfl ⟨fs_89_0, trivial⟩
theorem fP_141 : mj_P 141 = (7, 3, (some .int), mcX7_heldBlock, []) := rfl
theorem fa_141 {pc : Nat} {e : mjE} (h : mj_at mcX7_heldBlock pc = some e) : fAt 141 pc e := by unfold fAt; rw [fP_141]; exact h
theorem fr_141 : (mj_P 141).2.2.1 = (some .int) := by rw [fP_141]
theorem fna_141 : (mj_P 141).2.1 = 3 := by rw [fP_141]
theorem fx_141 : 3 ≤ mj_mx.getD 141 0 := by decide
theorem fh_141 : (mj_P 141).2.2.2.2.isEmpty = true := by rw [fP_141]; rfl
theorem fs_141_26 : fSB 141 [0] 2 26 f_141_26 := by
  unfold f_141_26
  refine fo_aload_n (k := 3) (fa_141 rfl) ?_
  refine fo_iload_n (k := 2) (fa_141 rfl) ?_
  refine fo_virtual (by decide) fna_15 (fo_call (fa_141 rfl) fNs_virtual fsm_15 (by decide) fFil_0 fna_15 fx_15 (by rw [fP_15]; rfl) fh_141 ?_)
  exact fo_iret (fa_141 rfl) fr_141 fw_int
theorem fs_141_18 : fSB 141 [0] 2 18 f_141_18 := by
  unfold f_141_18
  exact fo_throw (fa_141 rfl) fh_141
theorem fs_141_0 : fSB 141 [0] 2 0 f_141_0 := by
  unfold f_141_0
  refine fo_aload_n (k := 0) (fa_141 rfl) ?_
  refine fo_iload_n (k := 1) (fa_141 rfl) ?_
  refine fo_virtual (by decide) fna_138 (fo_call (fa_141 rfl) fNs_virtual fsm_138 (by decide) fFil_1 fna_138 fx_138 (by rw [fP_138]; rfl) fh_141 ?_)
  refine fo_astore_n (k := 3) (fa_141 rfl) ?_
  refine fo_iload_n (k := 2) (fa_141 rfl) ?_
  refine fo_if_lt (fa_141 rfl) (pcT := 18) rfl fs_141_18 ?_
  refine fo_iload_n (k := 2) (fa_141 rfl) ?_
  refine fo_aload_n (k := 3) (fa_141 rfl) ?_
  refine fo_geti (fa_141 rfl) (by decide) rfl ?_
  refine fo_icmp_lt (fa_141 rfl) (pcT := 26) rfl fs_141_26 ?_
  exact fs_141_18
theorem fsm_141 : fSM 141 2 fm_141 := fs_methH (lp := [0]) (by decide) rfl ⟨fs_141_0, trivial⟩
theorem fP_90 : mj_P 90 = (7, 3, (some .int), mcX7_bitsOf, []) := rfl
theorem fa_90 {pc : Nat} {e : mjE} (h : mj_at mcX7_bitsOf pc = some e) : fAt 90 pc e := by unfold fAt; rw [fP_90]; exact h
theorem fr_90 : (mj_P 90).2.2.1 = (some .int) := by rw [fP_90]
theorem fna_90 : (mj_P 90).2.1 = 3 := by rw [fP_90]
theorem fx_90 : 3 ≤ mj_mx.getD 90 0 := by decide
theorem fh_90 : (mj_P 90).2.2.2.2.isEmpty = true := by rw [fP_90]; rfl
theorem fs_90_0 : fSB 90 [0] 3 0 f_90_0 := by
  unfold f_90_0
  refine fo_aload_n (k := 0) (fa_90 rfl) ?_
  refine fo_iload_n (k := 1) (fa_90 rfl) ?_
  refine fo_iload_n (k := 2) (fa_90 rfl) ?_
  refine fo_virtual (by decide) fna_141 (fo_call (fa_90 rfl) fNs_virtual fsm_141 (by decide) fFil_1 fna_141 fx_141 (by rw [fP_141]; rfl) fh_90 ?_)
  exact fo_iret (fa_90 rfl) fr_90 fw_int
theorem fsm_90 : fSM 90 3 fm_90 := fs_methH (lp := [0]) (by decide) rfl ⟨fs_90_0, trivial⟩
theorem fP_142 : mj_P 142 = (7, 2, (some .int), mcX7_bitOfPoint, []) := rfl
theorem fa_142 {pc : Nat} {e : mjE} (h : mj_at mcX7_bitOfPoint pc = some e) : fAt 142 pc e := by unfold fAt; rw [fP_142]; exact h
theorem fr_142 : (mj_P 142).2.2.1 = (some .int) := by rw [fP_142]
theorem fna_142 : (mj_P 142).2.1 = 2 := by rw [fP_142]
theorem fx_142 : 2 ≤ mj_mx.getD 142 0 := by decide
theorem fh_142 : (mj_P 142).2.2.2.2.isEmpty = true := by rw [fP_142]; rfl
theorem fs_142_20 : fSB 142 [0] 0 20 f_142_20 := by
  unfold f_142_20
  refine fo_iconst (fa_142 rfl) fk_c_1 ?_
  refine fo_iload_n (k := 1) (fa_142 rfl) ?_
  refine fo_ishl (fa_142 rfl) ?_
  exact fo_iret (fa_142 rfl) fr_142 fw_int
theorem fs_142_12 : fSB 142 [0] 0 12 f_142_12 := by
  unfold f_142_12
  exact fo_throw (fa_142 rfl) fh_142
theorem fs_142_0 : fSB 142 [0] 0 0 f_142_0 := by
  unfold f_142_0
  refine fo_iload_n (k := 1) (fa_142 rfl) ?_
  refine fo_if_lt (fa_142 rfl) (pcT := 12) rfl fs_142_12 ?_
  refine fo_iload_n (k := 1) (fa_142 rfl) ?_
  refine fo_aload_n (k := 0) (fa_142 rfl) ?_
  refine fo_geti (fa_142 rfl) (by decide) rfl ?_
  refine fo_icmp_lt (fa_142 rfl) (pcT := 20) rfl fs_142_20 ?_
  exact fs_142_12
theorem fsm_142 : fSM 142 0 fm_142 := fs_methH (lp := [0]) (by decide) rfl ⟨fs_142_0, trivial⟩
theorem fP_91 : mj_P 91 = (7, 3, (some .int), mcX7_often, []) := rfl
theorem fa_91 {pc : Nat} {e : mjE} (h : mj_at mcX7_often pc = some e) : fAt 91 pc e := by unfold fAt; rw [fP_91]; exact h
theorem fr_91 : (mj_P 91).2.2.1 = (some .int) := by rw [fP_91]
theorem fna_91 : (mj_P 91).2.1 = 3 := by rw [fP_91]
theorem fx_91 : 3 ≤ mj_mx.getD 91 0 := by decide
theorem fh_91 : (mj_P 91).2.2.2.2.isEmpty = true := by rw [fP_91]; rfl
theorem fs_91_0 : fSB 91 [0] 2 0 f_91_0 := by
  unfold f_91_0
  refine fo_aload_n (k := 0) (fa_91 rfl) ?_
  refine fo_iload_n (k := 1) (fa_91 rfl) ?_
  refine fo_virtual (by decide) fna_138 (fo_call (fa_91 rfl) fNs_virtual fsm_138 (by decide) fFil_1 fna_138 fx_138 (by rw [fP_138]; rfl) fh_91 ?_)
  refine fo_astore_n (k := 3) (fa_91 rfl) ?_
  refine fo_aload_n (k := 3) (fa_91 rfl) ?_
  refine fo_aload_n (k := 3) (fa_91 rfl) ?_
  refine fo_iload_n (k := 2) (fa_91 rfl) ?_
  refine fo_static (by decide) (fo_call (fa_91 rfl) fNs_static fsm_142 (by decide) fFil_0 fna_142 fx_142 (by rw [fP_142]; rfl) fh_91 ?_)
  refine fo_virtual (by decide) fna_20 (fo_call (fa_91 rfl) fNs_virtual fsm_20 (by decide) fFil_2 fna_20 fx_20 (by rw [fP_20]; rfl) fh_91 ?_)
  exact fo_iret (fa_91 rfl) fr_91 fw_int
theorem fsm_91 : fSM 91 2 fm_91 := fs_methH (lp := [0]) (by decide) rfl ⟨fs_91_0, trivial⟩
theorem fP_92 : mj_P 92 = (7, 4, (some .int), mcX7_pairs, []) := rfl
theorem fa_92 {pc : Nat} {e : mjE} (h : mj_at mcX7_pairs pc = some e) : fAt 92 pc e := by unfold fAt; rw [fP_92]; exact h
theorem fr_92 : (mj_P 92).2.2.1 = (some .int) := by rw [fP_92]
theorem fna_92 : (mj_P 92).2.1 = 4 := by rw [fP_92]
theorem fx_92 : 4 ≤ mj_mx.getD 92 0 := by decide
theorem fh_92 : (mj_P 92).2.2.2.2.isEmpty = true := by rw [fP_92]; rfl
theorem fs_92_0 : fSB 92 [0] 2 0 f_92_0 := by
  unfold f_92_0
  refine fo_aload_n (k := 0) (fa_92 rfl) ?_
  refine fo_iload_n (k := 1) (fa_92 rfl) ?_
  refine fo_virtual (by decide) fna_138 (fo_call (fa_92 rfl) fNs_virtual fsm_138 (by decide) fFil_1 fna_138 fx_138 (by rw [fP_138]; rfl) fh_92 ?_)
  refine fo_astore (k := 4) (fa_92 rfl) ?_
  refine fo_aload (k := 4) (fa_92 rfl) ?_
  refine fo_aload (k := 4) (fa_92 rfl) ?_
  refine fo_iload_n (k := 2) (fa_92 rfl) ?_
  refine fo_static (by decide) (fo_call (fa_92 rfl) fNs_static fsm_142 (by decide) fFil_0 fna_142 fx_142 (by rw [fP_142]; rfl) fh_92 ?_)
  refine fo_aload (k := 4) (fa_92 rfl) ?_
  refine fo_iload_n (k := 3) (fa_92 rfl) ?_
  refine fo_static (by decide) (fo_call (fa_92 rfl) fNs_static fsm_142 (by decide) fFil_0 fna_142 fx_142 (by rw [fP_142]; rfl) fh_92 ?_)
  refine fo_ior (fa_92 rfl) ?_
  refine fo_virtual (by decide) fna_20 (fo_call (fa_92 rfl) fNs_virtual fsm_20 (by decide) fFil_2 fna_20 fx_20 (by rw [fP_20]; rfl) fh_92 ?_)
  exact fo_iret (fa_92 rfl) fr_92 fw_int
theorem fsm_92 : fSM 92 2 fm_92 := fs_methH (lp := [0]) (by decide) rfl ⟨fs_92_0, trivial⟩
theorem fP_93 : mj_P 93 = (7, 4, (some .int), mcX7_meets, []) := rfl
theorem fa_93 {pc : Nat} {e : mjE} (h : mj_at mcX7_meets pc = some e) : fAt 93 pc e := by unfold fAt; rw [fP_93]; exact h
theorem fr_93 : (mj_P 93).2.2.1 = (some .int) := by rw [fP_93]
theorem fna_93 : (mj_P 93).2.1 = 4 := by rw [fP_93]
theorem fx_93 : 4 ≤ mj_mx.getD 93 0 := by decide
theorem fh_93 : (mj_P 93).2.2.2.2.isEmpty = true := by rw [fP_93]; rfl
theorem fs_93_0 : fSB 93 [0] 3 0 f_93_0 := by
  unfold f_93_0
  refine fo_aload_n (k := 0) (fa_93 rfl) ?_
  refine fo_iload_n (k := 1) (fa_93 rfl) ?_
  refine fo_iload_n (k := 2) (fa_93 rfl) ?_
  refine fo_virtual (by decide) fna_141 (fo_call (fa_93 rfl) fNs_virtual fsm_141 (by decide) fFil_1 fna_141 fx_141 (by rw [fP_141]; rfl) fh_93 ?_)
  refine fo_aload_n (k := 0) (fa_93 rfl) ?_
  refine fo_iload_n (k := 1) (fa_93 rfl) ?_
  refine fo_iload_n (k := 3) (fa_93 rfl) ?_
  refine fo_virtual (by decide) fna_141 (fo_call (fa_93 rfl) fNs_virtual fsm_141 (by decide) fFil_1 fna_141 fx_141 (by rw [fP_141]; rfl) fh_93 ?_)
  refine fo_iand (fa_93 rfl) ?_
  refine fo_static (by decide) (fo_call (fa_93 rfl) fNs_static fsm_272 (by decide) fFil_0 fna_272 fx_272 (by rw [fP_272]; rfl) fh_93 ?_)
  exact fo_iret (fa_93 rfl) fr_93 fw_int
theorem fsm_93 : fSM 93 3 fm_93 := fs_methH (lp := [0]) (by decide) rfl ⟨fs_93_0, trivial⟩
theorem fP_94 : mj_P 94 = (7, 4, (some .int), mcX7_distance, []) := rfl
theorem fa_94 {pc : Nat} {e : mjE} (h : mj_at mcX7_distance pc = some e) : fAt 94 pc e := by unfold fAt; rw [fP_94]; exact h
theorem fr_94 : (mj_P 94).2.2.1 = (some .int) := by rw [fP_94]
theorem fna_94 : (mj_P 94).2.1 = 4 := by rw [fP_94]
theorem fx_94 : 4 ≤ mj_mx.getD 94 0 := by decide
theorem fh_94 : (mj_P 94).2.2.2.2.isEmpty = true := by rw [fP_94]; rfl
theorem fs_94_0 : fSB 94 [0] 3 0 f_94_0 := by
  unfold f_94_0
  refine fo_aload_n (k := 0) (fa_94 rfl) ?_
  refine fo_iload_n (k := 1) (fa_94 rfl) ?_
  refine fo_iload_n (k := 2) (fa_94 rfl) ?_
  refine fo_virtual (by decide) fna_141 (fo_call (fa_94 rfl) fNs_virtual fsm_141 (by decide) fFil_1 fna_141 fx_141 (by rw [fP_141]; rfl) fh_94 ?_)
  refine fo_aload_n (k := 0) (fa_94 rfl) ?_
  refine fo_iload_n (k := 1) (fa_94 rfl) ?_
  refine fo_iload_n (k := 3) (fa_94 rfl) ?_
  refine fo_virtual (by decide) fna_141 (fo_call (fa_94 rfl) fNs_virtual fsm_141 (by decide) fFil_1 fna_141 fx_141 (by rw [fP_141]; rfl) fh_94 ?_)
  refine fo_ixor (fa_94 rfl) ?_
  refine fo_static (by decide) (fo_call (fa_94 rfl) fNs_static fsm_272 (by decide) fFil_0 fna_272 fx_272 (by rw [fP_272]; rfl) fh_94 ?_)
  exact fo_iret (fa_94 rfl) fr_94 fw_int
theorem fsm_94 : fSM 94 3 fm_94 := fs_methH (lp := [0]) (by decide) rfl ⟨fs_94_0, trivial⟩
theorem fP_95 : mj_P 95 = (7, 2, (some .boolean), mcX7_isEven, []) := rfl
theorem fa_95 {pc : Nat} {e : mjE} (h : mj_at mcX7_isEven pc = some e) : fAt 95 pc e := by unfold fAt; rw [fP_95]; exact h
theorem fr_95 : (mj_P 95).2.2.1 = (some .boolean) := by rw [fP_95]
theorem fna_95 : (mj_P 95).2.1 = 2 := by rw [fP_95]
theorem fx_95 : 2 ≤ mj_mx.getD 95 0 := by decide
theorem fh_95 : (mj_P 95).2.2.2.2.isEmpty = true := by rw [fP_95]; rfl
theorem fs_95_16 : fSB 95 [0] 4 16 f_95_16 := by
  unfold f_95_16
  exact fo_iret (fa_95 rfl) fr_95 fw_bool
theorem fs_95_15 : fSB 95 [0] 4 15 f_95_15 := by
  unfold f_95_15
  refine fo_iconst (fa_95 rfl) fk_c_0 ?_
  exact fs_95_16
theorem fs_95_0 : fSB 95 [0] 4 0 f_95_0 := by
  unfold f_95_0
  refine fo_aload_n (k := 0) (fa_95 rfl) ?_
  refine fo_iload_n (k := 1) (fa_95 rfl) ?_
  refine fo_virtual (by decide) fna_138 (fo_call (fa_95 rfl) fNs_virtual fsm_138 (by decide) fFil_1 fna_138 fx_138 (by rw [fP_138]; rfl) fh_95 ?_)
  refine fo_virtual (by decide) fna_24 (fo_call (fa_95 rfl) fNs_virtual fsm_24 (by decide) fFil_2 fna_24 fx_24 (by rw [fP_24]; rfl) fh_95 ?_)
  refine fo_if_le (fa_95 rfl) (pcT := 15) rfl fs_95_15 ?_
  refine fo_iconst (fa_95 rfl) fk_c_1 ?_
  exact fo_goto (fa_95 rfl) (pcT := 16) rfl fs_95_16
theorem fsm_95 : fSM 95 4 fm_95 := fs_methH (lp := [0]) (by decide) rfl ⟨fs_95_0, trivial⟩
theorem fP_96 : mj_P 96 = (7, 2, (some .int), mcX7_fault, []) := rfl
theorem fa_96 {pc : Nat} {e : mjE} (h : mj_at mcX7_fault pc = some e) : fAt 96 pc e := by unfold fAt; rw [fP_96]; exact h
theorem fr_96 : (mj_P 96).2.2.1 = (some .int) := by rw [fP_96]
theorem fna_96 : (mj_P 96).2.1 = 2 := by rw [fP_96]
theorem fx_96 : 2 ≤ mj_mx.getD 96 0 := by decide
theorem fh_96 : (mj_P 96).2.2.2.2.isEmpty = true := by rw [fP_96]; rfl
theorem fs_96_0 : fSB 96 [0] 3 0 f_96_0 := by
  unfold f_96_0
  refine fo_aload_n (k := 0) (fa_96 rfl) ?_
  refine fo_iload_n (k := 1) (fa_96 rfl) ?_
  refine fo_virtual (by decide) fna_138 (fo_call (fa_96 rfl) fNs_virtual fsm_138 (by decide) fFil_1 fna_138 fx_138 (by rw [fP_138]; rfl) fh_96 ?_)
  refine fo_virtual (by decide) fna_25 (fo_call (fa_96 rfl) fNs_virtual fsm_25 (by decide) fFil_3 fna_25 fx_25 (by rw [fP_25]; rfl) fh_96 ?_)
  exact fo_iret (fa_96 rfl) fr_96 fw_int
theorem fsm_96 : fSM 96 3 fm_96 := fs_methH (lp := [0]) (by decide) rfl ⟨fs_96_0, trivial⟩
theorem fP_168 : mj_P 168 = (7, 1, (some .boolean), mcX7_isSquareNumber, []) := rfl
theorem fa_168 {pc : Nat} {e : mjE} (h : mj_at mcX7_isSquareNumber pc = some e) : fAt 168 pc e := by unfold fAt; rw [fP_168]; exact h
theorem fr_168 : (mj_P 168).2.2.1 = (some .boolean) := by rw [fP_168]
theorem fna_168 : (mj_P 168).2.1 = 1 := by rw [fP_168]
theorem fx_168 : 1 ≤ mj_mx.getD 168 0 := by decide
theorem fh_168 : (mj_P 168).2.2.2.2.isEmpty = true := by rw [fP_168]; rfl
theorem fs_168_41 : fSB 168 [0, 2] 0 41 f_168_41 := by
  unfold f_168_41
  exact fo_iret (fa_168 rfl) fr_168 fw_bool
theorem fs_168_40 : fSB 168 [0, 2] 0 40 f_168_40 := by
  unfold f_168_40
  refine fo_iconst (fa_168 rfl) fk_c_0 ?_
  exact fs_168_41
theorem fs_168_25 : fSB 168 [0, 2] 0 25 f_168_25 := by
  unfold f_168_25
  refine fo_iload_n (k := 1) (fa_168 rfl) ?_
  refine fo_i2l (fa_168 rfl) ?_
  refine fo_iload_n (k := 1) (fa_168 rfl) ?_
  refine fo_i2l (fa_168 rfl) ?_
  refine fo_lmul (fa_168 rfl) ?_
  refine fo_iload_n (k := 0) (fa_168 rfl) ?_
  refine fo_i2l (fa_168 rfl) ?_
  refine fo_lcmp (fa_168 rfl) ?_
  refine fo_if_ne (fa_168 rfl) (pcT := 40) rfl fs_168_40 ?_
  refine fo_iconst (fa_168 rfl) fk_c_1 ?_
  exact fo_goto (fa_168 rfl) (pcT := 41) rfl fs_168_41
theorem fs_168_2 : fSB 168 [0, 2] 0 2 f_168_2 := by
  unfold f_168_2
  refine fo_iload_n (k := 1) (fa_168 rfl) ?_
  refine fo_ldc (fa_168 rfl) ?_
  refine fo_icmp_gt (fa_168 rfl) (pcT := 25) rfl fs_168_25 ?_
  refine fo_iload_n (k := 1) (fa_168 rfl) ?_
  refine fo_i2l (fa_168 rfl) ?_
  refine fo_iload_n (k := 1) (fa_168 rfl) ?_
  refine fo_i2l (fa_168 rfl) ?_
  refine fo_lmul (fa_168 rfl) ?_
  refine fo_iload_n (k := 0) (fa_168 rfl) ?_
  refine fo_i2l (fa_168 rfl) ?_
  refine fo_lcmp (fa_168 rfl) ?_
  refine fo_if_ge (fa_168 rfl) (pcT := 25) rfl fs_168_25 ?_
  refine fo_iinc (k := 1) (fa_168 rfl) fk_c_1 ?_
  exact fo_goto (fa_168 rfl) (pcT := 2) rfl (fo_back (q := 2) rfl)
theorem fs_168_0 : fSB 168 [0, 2] 0 0 f_168_0 := by
  unfold f_168_0
  refine fo_iconst (fa_168 rfl) fk_c_0 ?_
  refine fo_istore_n (k := 1) (fa_168 rfl) ?_
  exact fs_168_2
theorem fsm_168 : fSM 168 0 fm_168 := fs_methH (lp := [0, 2]) (by decide) rfl ⟨fs_168_0, fs_168_2, trivial⟩
theorem fP_97 : mj_P 97 = (7, 4, (some .char), mcX7_cause, []) := rfl
theorem fna_97 : (mj_P 97).2.1 = 4 := by rw [fP_97]
theorem fx_97 : 4 ≤ mj_mx.getD 97 0 := by decide
theorem fsm_97 : fSM 97 1 fm_97 := fsm_cs_c
theorem fP_98 : mj_P 98 = (7, 3, (some .int), mcX7_rest, []) := rfl
theorem fa_98 {pc : Nat} {e : mjE} (h : mj_at mcX7_rest pc = some e) : fAt 98 pc e := by unfold fAt; rw [fP_98]; exact h
theorem fr_98 : (mj_P 98).2.2.1 = (some .int) := by rw [fP_98]
theorem fna_98 : (mj_P 98).2.1 = 3 := by rw [fP_98]
theorem fx_98 : 3 ≤ mj_mx.getD 98 0 := by decide
theorem fh_98 : (mj_P 98).2.2.2.2.isEmpty = true := by rw [fP_98]; rfl
theorem fs_98_53 : fSB 98 [0, 17] 3 53 f_98_53 := by
  unfold f_98_53
  refine fo_aload_n (k := 0) (fa_98 rfl) ?_
  refine fo_getr (fa_98 rfl) (by decide) rfl ?_
  refine fo_aload_n (k := 3) (fa_98 rfl) ?_
  refine fo_virtual (by decide) fna_36 (fo_call (fa_98 rfl) fNs_virtual fsm_36 (by decide) fFil_1 fna_36 fx_36 (by rw [fP_36]; rfl) fh_98 ?_)
  refine fo_aload_n (k := 0) (fa_98 rfl) ?_
  refine fo_iload_n (k := 2) (fa_98 rfl) ?_
  refine fo_virtual (by decide) fna_143 (fo_call (fa_98 rfl) fNs_virtual fsm_143 (by decide) fFil_0 fna_143 fx_143 (by rw [fP_143]; rfl) fh_98 ?_)
  exact fo_iret (fa_98 rfl) fr_98 fw_int
theorem fs_98_47 : fSB 98 [0, 17] 3 47 f_98_47 := by
  unfold f_98_47
  refine fo_iinc (k := 4) (fa_98 rfl) fk_c_1 ?_
  exact fo_goto (fa_98 rfl) (pcT := 17) rfl (fo_back (q := 17) rfl)
theorem fs_98_17 : fSB 98 [0, 17] 3 17 f_98_17 := by
  unfold f_98_17
  refine fo_iload (k := 4) (fa_98 rfl) ?_
  refine fo_aload_n (k := 3) (fa_98 rfl) ?_
  refine fo_geti (fa_98 rfl) (by decide) rfl ?_
  refine fo_icmp_ge (fa_98 rfl) (pcT := 53) rfl fs_98_53 ?_
  refine fo_aload_n (k := 3) (fa_98 rfl) ?_
  refine fo_iload (k := 4) (fa_98 rfl) ?_
  refine fo_virtual (by decide) fna_15 (fo_call (fa_98 rfl) fNs_virtual fsm_15 (by decide) fFil_0 fna_15 fx_15 (by rw [fP_15]; rfl) fh_98 ?_)
  refine fo_aload_n (k := 3) (fa_98 rfl) ?_
  refine fo_virtual (by decide) fna_18 (fo_call (fa_98 rfl) fNs_virtual fsm_18 (by decide) fFil_0 fna_18 fx_18 (by rw [fP_18]; rfl) fh_98 ?_)
  refine fo_icmp_ne (fa_98 rfl) (pcT := 47) rfl fs_98_47 ?_
  exact fo_throw (fa_98 rfl) fh_98
theorem fs_98_0 : fSB 98 [0, 17] 3 0 f_98_0 := by
  unfold f_98_0
  refine fo_iload_n (k := 1) (fa_98 rfl) ?_
  refine fo_static (by decide) (fo_call (fa_98 rfl) fNs_static fsm_135 (by decide) fFil_0 fna_135 fx_135 (by rw [fP_135]; rfl) fh_98 ?_)
  refine fo_iload_n (k := 2) (fa_98 rfl) ?_
  refine fo_static (by decide) (fo_call (fa_98 rfl) fNs_static fsm_135 (by decide) fFil_0 fna_135 fx_135 (by rw [fP_135]; rfl) fh_98 ?_)
  refine fo_aload_n (k := 0) (fa_98 rfl) ?_
  refine fo_iload_n (k := 1) (fa_98 rfl) ?_
  refine fo_virtual (by decide) fna_138 (fo_call (fa_98 rfl) fNs_virtual fsm_138 (by decide) fFil_1 fna_138 fx_138 (by rw [fP_138]; rfl) fh_98 ?_)
  refine fo_astore_n (k := 3) (fa_98 rfl) ?_
  refine fo_iconst (fa_98 rfl) fk_c_0 ?_
  refine fo_istore (k := 4) (fa_98 rfl) ?_
  exact fs_98_17
theorem fsm_98 : fSM 98 3 fm_98 := fs_methH (lp := [0, 17]) (by decide) rfl ⟨fs_98_0, fs_98_17, trivial⟩
theorem fP_99 : mj_P 99 = (7, 3, (some .int), mcX7_dual, []) := rfl
theorem fa_99 {pc : Nat} {e : mjE} (h : mj_at mcX7_dual pc = some e) : fAt 99 pc e := by unfold fAt; rw [fP_99]; exact h
theorem fr_99 : (mj_P 99).2.2.1 = (some .int) := by rw [fP_99]
theorem fna_99 : (mj_P 99).2.1 = 3 := by rw [fP_99]
theorem fx_99 : 3 ≤ mj_mx.getD 99 0 := by decide
theorem fh_99 : (mj_P 99).2.2.2.2.isEmpty = true := by rw [fP_99]; rfl
theorem fs_99_50 : fSB 99 [0] 3 50 f_99_50 := by
  unfold f_99_50
  refine fo_aload_n (k := 0) (fa_99 rfl) ?_
  refine fo_getr (fa_99 rfl) (by decide) rfl ?_
  refine fo_aload_n (k := 3) (fa_99 rfl) ?_
  refine fo_virtual (by decide) fna_37 (fo_call (fa_99 rfl) fNs_virtual fsm_37 (by decide) fFil_3 fna_37 fx_37 (by rw [fP_37]; rfl) fh_99 ?_)
  refine fo_aload_n (k := 0) (fa_99 rfl) ?_
  refine fo_iload_n (k := 2) (fa_99 rfl) ?_
  refine fo_virtual (by decide) fna_143 (fo_call (fa_99 rfl) fNs_virtual fsm_143 (by decide) fFil_0 fna_143 fx_143 (by rw [fP_143]; rfl) fh_99 ?_)
  refine fo_pop (fa_99 rfl) ?_
  refine fo_aload_n (k := 0) (fa_99 rfl) ?_
  refine fo_getr (fa_99 rfl) (by decide) rfl ?_
  refine fo_geti (fa_99 rfl) (by decide) rfl ?_
  exact fo_iret (fa_99 rfl) fr_99 fw_int
theorem fs_99_42 : fSB 99 [0] 3 42 f_99_42 := by
  unfold f_99_42
  exact fo_throw (fa_99 rfl) fh_99
theorem fs_99_0 : fSB 99 [0] 3 0 f_99_0 := by
  unfold f_99_0
  refine fo_iload_n (k := 1) (fa_99 rfl) ?_
  refine fo_static (by decide) (fo_call (fa_99 rfl) fNs_static fsm_135 (by decide) fFil_0 fna_135 fx_135 (by rw [fP_135]; rfl) fh_99 ?_)
  refine fo_iload_n (k := 2) (fa_99 rfl) ?_
  refine fo_static (by decide) (fo_call (fa_99 rfl) fNs_static fsm_135 (by decide) fFil_0 fna_135 fx_135 (by rw [fP_135]; rfl) fh_99 ?_)
  refine fo_aload_n (k := 0) (fa_99 rfl) ?_
  refine fo_iload_n (k := 1) (fa_99 rfl) ?_
  refine fo_virtual (by decide) fna_138 (fo_call (fa_99 rfl) fNs_virtual fsm_138 (by decide) fFil_1 fna_138 fx_138 (by rw [fP_138]; rfl) fh_99 ?_)
  refine fo_astore_n (k := 3) (fa_99 rfl) ?_
  refine fo_aload_n (k := 3) (fa_99 rfl) ?_
  refine fo_geti (fa_99 rfl) (by decide) rfl ?_
  refine fo_iconst (fa_99 rfl) fk_c_1 ?_
  refine fo_icmp_lt (fa_99 rfl) (pcT := 42) rfl fs_99_42 ?_
  refine fo_aload_n (k := 3) (fa_99 rfl) ?_
  refine fo_geti (fa_99 rfl) (by decide) rfl ?_
  refine fo_bipush (fa_99 rfl) fk_b_31 ?_
  refine fo_icmp_gt (fa_99 rfl) (pcT := 42) rfl fs_99_42 ?_
  refine fo_aload_n (k := 3) (fa_99 rfl) ?_
  refine fo_virtual (by decide) fna_19 (fo_call (fa_99 rfl) fNs_virtual fsm_19 (by decide) fFil_2 fna_19 fx_19 (by rw [fP_19]; rfl) fh_99 ?_)
  refine fo_aload_n (k := 3) (fa_99 rfl) ?_
  refine fo_virtual (by decide) fna_18 (fo_call (fa_99 rfl) fNs_virtual fsm_18 (by decide) fFil_0 fna_18 fx_18 (by rw [fP_18]; rfl) fh_99 ?_)
  refine fo_icmp_eq (fa_99 rfl) (pcT := 50) rfl fs_99_50 ?_
  exact fs_99_42
theorem fsm_99 : fSM 99 3 fm_99 := fs_methH (lp := [0]) (by decide) rfl ⟨fs_99_0, trivial⟩
theorem fP_100 : mj_P 100 = (7, 5, (some .int), mcX7_part, []) := rfl
theorem fa_100 {pc : Nat} {e : mjE} (h : mj_at mcX7_part pc = some e) : fAt 100 pc e := by unfold fAt; rw [fP_100]; exact h
theorem fr_100 : (mj_P 100).2.2.1 = (some .int) := by rw [fP_100]
theorem fna_100 : (mj_P 100).2.1 = 5 := by rw [fP_100]
theorem fx_100 : 5 ≤ mj_mx.getD 100 0 := by decide
theorem fh_100 : (mj_P 100).2.2.2.2.isEmpty = true := by rw [fP_100]; rfl
theorem fs_100_58 : fSB 100 [0] 3 58 f_100_58 := by
  unfold f_100_58
  refine fo_aload_n (k := 0) (fa_100 rfl) ?_
  refine fo_getr (fa_100 rfl) (by decide) rfl ?_
  refine fo_aload (k := 6) (fa_100 rfl) ?_
  refine fo_iload_n (k := 2) (fa_100 rfl) ?_
  refine fo_iload (k := 7) (fa_100 rfl) ?_
  refine fo_virtual (by decide) fna_38 (fo_call (fa_100 rfl) fNs_virtual fsm_38 (by decide) fFil_1 fna_38 fx_38 (by rw [fP_38]; rfl) fh_100 ?_)
  refine fo_aload_n (k := 0) (fa_100 rfl) ?_
  refine fo_iload (k := 4) (fa_100 rfl) ?_
  refine fo_virtual (by decide) fna_143 (fo_call (fa_100 rfl) fNs_virtual fsm_143 (by decide) fFil_0 fna_143 fx_143 (by rw [fP_143]; rfl) fh_100 ?_)
  exact fo_iret (fa_100 rfl) fr_100 fw_int
theorem fs_100_43 : fSB 100 [0] 3 43 f_100_43 := by
  unfold f_100_43
  refine fo_istore (k := 7) (fa_100 rfl) ?_
  refine fo_iload (k := 7) (fa_100 rfl) ?_
  refine fo_if_ne (fa_100 rfl) (pcT := 58) rfl fs_100_58 ?_
  exact fo_throw (fa_100 rfl) fh_100
theorem fs_100_33 : fSB 100 [0] 3 33 f_100_33 := by
  unfold f_100_33
  refine fo_aload (k := 6) (fa_100 rfl) ?_
  refine fo_virtual (by decide) fna_18 (fo_call (fa_100 rfl) fNs_virtual fsm_18 (by decide) fFil_0 fna_18 fx_18 (by rw [fP_18]; rfl) fh_100 ?_)
  refine fo_iload (k := 5) (fa_100 rfl) ?_
  refine fo_iconst (fa_100 rfl) fk_c_m1 ?_
  refine fo_ixor (fa_100 rfl) ?_
  refine fo_iand (fa_100 rfl) ?_
  exact fs_100_43
theorem fs_100_0 : fSB 100 [0] 3 0 f_100_0 := by
  unfold f_100_0
  refine fo_iload_n (k := 1) (fa_100 rfl) ?_
  refine fo_static (by decide) (fo_call (fa_100 rfl) fNs_static fsm_135 (by decide) fFil_0 fna_135 fx_135 (by rw [fP_135]; rfl) fh_100 ?_)
  refine fo_iload (k := 4) (fa_100 rfl) ?_
  refine fo_static (by decide) (fo_call (fa_100 rfl) fNs_static fsm_135 (by decide) fFil_0 fna_135 fx_135 (by rw [fP_135]; rfl) fh_100 ?_)
  refine fo_aload_n (k := 0) (fa_100 rfl) ?_
  refine fo_iload_n (k := 1) (fa_100 rfl) ?_
  refine fo_iload_n (k := 2) (fa_100 rfl) ?_
  refine fo_virtual (by decide) fna_141 (fo_call (fa_100 rfl) fNs_virtual fsm_141 (by decide) fFil_1 fna_141 fx_141 (by rw [fP_141]; rfl) fh_100 ?_)
  refine fo_istore (k := 5) (fa_100 rfl) ?_
  refine fo_aload_n (k := 0) (fa_100 rfl) ?_
  refine fo_iload_n (k := 1) (fa_100 rfl) ?_
  refine fo_virtual (by decide) fna_138 (fo_call (fa_100 rfl) fNs_virtual fsm_138 (by decide) fFil_1 fna_138 fx_138 (by rw [fP_138]; rfl) fh_100 ?_)
  refine fo_astore (k := 6) (fa_100 rfl) ?_
  refine fo_iload_n (k := 3) (fa_100 rfl) ?_
  refine fo_if_eq (fa_100 rfl) (pcT := 33) rfl fs_100_33 ?_
  refine fo_iload (k := 5) (fa_100 rfl) ?_
  exact fo_goto (fa_100 rfl) (pcT := 43) rfl fs_100_43
theorem fsm_100 : fSM 100 3 fm_100 := fs_methH (lp := [0]) (by decide) rfl ⟨fs_100_0, trivial⟩
theorem fP_147 : mj_P 147 = (7, 3, none, mcX7_findCovers, []) := rfl
theorem fa_147 {pc : Nat} {e : mjE} (h : mj_at mcX7_findCovers pc = some e) : fAt 147 pc e := by unfold fAt; rw [fP_147]; exact h
theorem fr_147 : (mj_P 147).2.2.1 = none := by rw [fP_147]
theorem fna_147 : (mj_P 147).2.1 = 3 := by rw [fP_147]
theorem fx_147 : 3 ≤ mj_mx.getD 147 0 := by decide
theorem fh_147 : (mj_P 147).2.2.2.2.isEmpty = true := by rw [fP_147]; rfl
theorem fs_147_44 : fSB 147 [0] 3 44 f_147_44 := by
  unfold f_147_44
  exact fo_ret (fa_147 rfl) fr_147
theorem fs_147_16 : fSB 147 [0] 3 16 f_147_16 := by
  unfold f_147_16
  refine fo_aload_n (k := 0) (fa_147 rfl) ?_
  refine fo_getr (fa_147 rfl) (by decide) rfl ?_
  refine fo_aload_n (k := 1) (fa_147 rfl) ?_
  refine fo_virtual (by decide) fna_2 (fo_call (fa_147 rfl) fNs_virtual fsm_2 (by decide) fFil_1 fna_2 fx_2 (by rw [fP_2]; rfl) fh_147 ?_)
  refine fo_aload_n (k := 0) (fa_147 rfl) ?_
  refine fo_getr (fa_147 rfl) (by decide) rfl ?_
  refine fo_geti (fa_147 rfl) (by decide) rfl ?_
  refine fo_bipush (fa_147 rfl) fk_b_60 ?_
  refine fo_icmp_le (fa_147 rfl) (pcT := 44) rfl fs_147_44 ?_
  exact fo_throw (fa_147 rfl) fh_147
theorem fs_147_0 : fSB 147 [0] 3 0 f_147_0 := by
  unfold f_147_0
  refine fo_aload_n (k := 1) (fa_147 rfl) ?_
  refine fo_geti (fa_147 rfl) (by decide) rfl ?_
  refine fo_iload_n (k := 2) (fa_147 rfl) ?_
  refine fo_icmp_le (fa_147 rfl) (pcT := 16) rfl fs_147_16 ?_
  exact fo_throw (fa_147 rfl) fh_147
theorem fsm_147 : fSM 147 3 fm_147 := fs_methH (lp := [0]) (by decide) rfl ⟨fs_147_0, trivial⟩
theorem fP_101 : mj_P 101 = (7, 2, (some .int), mcX7_covers, []) := rfl
theorem fa_101 {pc : Nat} {e : mjE} (h : mj_at mcX7_covers pc = some e) : fAt 101 pc e := by unfold fAt; rw [fP_101]; exact h
theorem fr_101 : (mj_P 101).2.2.1 = (some .int) := by rw [fP_101]
theorem fna_101 : (mj_P 101).2.1 = 2 := by rw [fP_101]
theorem fx_101 : 2 ≤ mj_mx.getD 101 0 := by decide
theorem fh_101 : (mj_P 101).2.2.2.2.isEmpty = true := by rw [fP_101]; rfl
theorem fs_101_0 : fSB 101 [0] 4 0 f_101_0 := by
  unfold f_101_0
  refine fo_aload_n (k := 0) (fa_101 rfl) ?_
  refine fo_aload_n (k := 0) (fa_101 rfl) ?_
  refine fo_iload_n (k := 1) (fa_101 rfl) ?_
  refine fo_virtual (by decide) fna_138 (fo_call (fa_101 rfl) fNs_virtual fsm_138 (by decide) fFil_1 fna_138 fx_138 (by rw [fP_138]; rfl) fh_101 ?_)
  refine fo_bipush (fa_101 rfl) fk_b_40 ?_
  refine fo_virtual (by decide) fna_147 (fo_call (fa_101 rfl) fNs_virtual fsm_147 (by decide) fFil_0 fna_147 fx_147 (by rw [fP_147]; rfl) fh_101 ?_)
  refine fo_aload_n (k := 0) (fa_101 rfl) ?_
  refine fo_getr (fa_101 rfl) (by decide) rfl ?_
  refine fo_geti (fa_101 rfl) (by decide) rfl ?_
  exact fo_iret (fa_101 rfl) fr_101 fw_int
theorem fsm_101 : fSM 101 4 fm_101 := fs_methH (lp := [0]) (by decide) rfl ⟨fs_101_0, trivial⟩
theorem fP_148 : mj_P 148 = (7, 3, (some .long), mcX7_coverOf, []) := rfl
theorem fa_148 {pc : Nat} {e : mjE} (h : mj_at mcX7_coverOf pc = some e) : fAt 148 pc e := by unfold fAt; rw [fP_148]; exact h
theorem fr_148 : (mj_P 148).2.2.1 = (some .long) := by rw [fP_148]
theorem fna_148 : (mj_P 148).2.1 = 3 := by rw [fP_148]
theorem fx_148 : 3 ≤ mj_mx.getD 148 0 := by decide
theorem fh_148 : (mj_P 148).2.2.2.2.isEmpty = true := by rw [fP_148]; rfl
theorem fs_148_34 : fSB 148 [0] 4 34 f_148_34 := by
  unfold f_148_34
  refine fo_aload_n (k := 0) (fa_148 rfl) ?_
  refine fo_getr (fa_148 rfl) (by decide) rfl ?_
  refine fo_iload_n (k := 2) (fa_148 rfl) ?_
  refine fo_virtual (by decide) fna_1 (fo_call (fa_148 rfl) fNs_virtual fsm_1 (by decide) fFil_0 fna_1 fx_1 (by rw [fP_1]; rfl) fh_148 ?_)
  exact fo_lret (fa_148 rfl) fr_148
theorem fs_148_26 : fSB 148 [0] 4 26 f_148_26 := by
  unfold f_148_26
  exact fo_throw (fa_148 rfl) fh_148
theorem fs_148_0 : fSB 148 [0] 4 0 f_148_0 := by
  unfold f_148_0
  refine fo_aload_n (k := 0) (fa_148 rfl) ?_
  refine fo_aload_n (k := 0) (fa_148 rfl) ?_
  refine fo_iload_n (k := 1) (fa_148 rfl) ?_
  refine fo_virtual (by decide) fna_138 (fo_call (fa_148 rfl) fNs_virtual fsm_138 (by decide) fFil_1 fna_138 fx_138 (by rw [fP_138]; rfl) fh_148 ?_)
  refine fo_bipush (fa_148 rfl) fk_b_40 ?_
  refine fo_virtual (by decide) fna_147 (fo_call (fa_148 rfl) fNs_virtual fsm_147 (by decide) fFil_0 fna_147 fx_147 (by rw [fP_147]; rfl) fh_148 ?_)
  refine fo_iload_n (k := 2) (fa_148 rfl) ?_
  refine fo_if_lt (fa_148 rfl) (pcT := 26) rfl fs_148_26 ?_
  refine fo_iload_n (k := 2) (fa_148 rfl) ?_
  refine fo_aload_n (k := 0) (fa_148 rfl) ?_
  refine fo_getr (fa_148 rfl) (by decide) rfl ?_
  refine fo_geti (fa_148 rfl) (by decide) rfl ?_
  refine fo_icmp_lt (fa_148 rfl) (pcT := 34) rfl fs_148_34 ?_
  exact fs_148_26
theorem fsm_148 : fSM 148 4 fm_148 := fs_methH (lp := [0]) (by decide) rfl ⟨fs_148_0, trivial⟩
theorem fP_102 : mj_P 102 = (7, 3, (some .int), mcX7_coverSize, []) := rfl
theorem fa_102 {pc : Nat} {e : mjE} (h : mj_at mcX7_coverSize pc = some e) : fAt 102 pc e := by unfold fAt; rw [fP_102]; exact h
theorem fr_102 : (mj_P 102).2.2.1 = (some .int) := by rw [fP_102]
theorem fna_102 : (mj_P 102).2.1 = 3 := by rw [fP_102]
theorem fx_102 : 3 ≤ mj_mx.getD 102 0 := by decide
theorem fh_102 : (mj_P 102).2.2.2.2.isEmpty = true := by rw [fP_102]; rfl
theorem fs_102_0 : fSB 102 [0] 5 0 f_102_0 := by
  unfold f_102_0
  refine fo_aload_n (k := 0) (fa_102 rfl) ?_
  refine fo_iload_n (k := 1) (fa_102 rfl) ?_
  refine fo_iload_n (k := 2) (fa_102 rfl) ?_
  refine fo_virtual (by decide) fna_148 (fo_call (fa_102 rfl) fNs_virtual fsm_148 (by decide) fFil_0 fna_148 fx_148 (by rw [fP_148]; rfl) fh_102 ?_)
  refine fo_static (by decide) (fo_call (fa_102 rfl) fNs_static fsm_273 (by decide) fFil_0 fna_273 fx_273 (by rw [fP_273]; rfl) fh_102 ?_)
  exact fo_iret (fa_102 rfl) fr_102 fw_int
theorem fsm_102 : fSM 102 5 fm_102 := fs_methH (lp := [0]) (by decide) rfl ⟨fs_102_0, trivial⟩
theorem fP_103 : mj_P 103 = (7, 4, (some .int), mcX7_coverAt, []) := rfl
theorem fa_103 {pc : Nat} {e : mjE} (h : mj_at mcX7_coverAt pc = some e) : fAt 103 pc e := by unfold fAt; rw [fP_103]; exact h
theorem fr_103 : (mj_P 103).2.2.1 = (some .int) := by rw [fP_103]
theorem fna_103 : (mj_P 103).2.1 = 4 := by rw [fP_103]
theorem fx_103 : 4 ≤ mj_mx.getD 103 0 := by decide
theorem fh_103 : (mj_P 103).2.2.2.2.isEmpty = true := by rw [fP_103]; rfl
theorem fs_103_29 : fSB 103 [0] 5 29 f_103_29 := by
  unfold f_103_29
  refine fo_lload (k := 4) (fa_103 rfl) ?_
  refine fo_iload_n (k := 3) (fa_103 rfl) ?_
  refine fo_static (by decide) (fo_call (fa_103 rfl) fNs_static fsm_167 (by decide) fFil_2 fna_167 fx_167 (by rw [fP_167]; rfl) fh_103 ?_)
  exact fo_iret (fa_103 rfl) fr_103 fw_int
theorem fs_103_21 : fSB 103 [0] 5 21 f_103_21 := by
  unfold f_103_21
  exact fo_throw (fa_103 rfl) fh_103
theorem fs_103_0 : fSB 103 [0] 5 0 f_103_0 := by
  unfold f_103_0
  refine fo_aload_n (k := 0) (fa_103 rfl) ?_
  refine fo_iload_n (k := 1) (fa_103 rfl) ?_
  refine fo_iload_n (k := 2) (fa_103 rfl) ?_
  refine fo_virtual (by decide) fna_148 (fo_call (fa_103 rfl) fNs_virtual fsm_148 (by decide) fFil_0 fna_148 fx_148 (by rw [fP_148]; rfl) fh_103 ?_)
  refine fo_lstore (k := 4) (fa_103 rfl) ?_
  refine fo_iload_n (k := 3) (fa_103 rfl) ?_
  refine fo_if_lt (fa_103 rfl) (pcT := 21) rfl fs_103_21 ?_
  refine fo_iload_n (k := 3) (fa_103 rfl) ?_
  refine fo_lload (k := 4) (fa_103 rfl) ?_
  refine fo_static (by decide) (fo_call (fa_103 rfl) fNs_static fsm_273 (by decide) fFil_0 fna_273 fx_273 (by rw [fP_273]; rfl) fh_103 ?_)
  refine fo_icmp_lt (fa_103 rfl) (pcT := 29) rfl fs_103_29 ?_
  exact fs_103_21
theorem fsm_103 : fSM 103 5 fm_103 := fs_methH (lp := [0]) (by decide) rfl ⟨fs_103_0, trivial⟩
theorem fP_104 : mj_P 104 = (7, 2, (some .boolean), mcX7_isParted, []) := rfl
theorem fa_104 {pc : Nat} {e : mjE} (h : mj_at mcX7_isParted pc = some e) : fAt 104 pc e := by unfold fAt; rw [fP_104]; exact h
theorem fr_104 : (mj_P 104).2.2.1 = (some .boolean) := by rw [fP_104]
theorem fna_104 : (mj_P 104).2.1 = 2 := by rw [fP_104]
theorem fx_104 : 2 ≤ mj_mx.getD 104 0 := by decide
theorem fh_104 : (mj_P 104).2.2.2.2.isEmpty = true := by rw [fP_104]; rfl
theorem fs_104_0 : fSB 104 [0] 4 0 f_104_0 := by
  unfold f_104_0
  refine fo_aload_n (k := 0) (fa_104 rfl) ?_
  refine fo_iload_n (k := 1) (fa_104 rfl) ?_
  refine fo_virtual (by decide) fna_138 (fo_call (fa_104 rfl) fNs_virtual fsm_138 (by decide) fFil_1 fna_138 fx_138 (by rw [fP_138]; rfl) fh_104 ?_)
  refine fo_astore_n (k := 2) (fa_104 rfl) ?_
  refine fo_aload_n (k := 0) (fa_104 rfl) ?_
  refine fo_aload_n (k := 2) (fa_104 rfl) ?_
  refine fo_bipush (fa_104 rfl) fk_b_14 ?_
  refine fo_virtual (by decide) fna_147 (fo_call (fa_104 rfl) fNs_virtual fsm_147 (by decide) fFil_0 fna_147 fx_147 (by rw [fP_147]; rfl) fh_104 ?_)
  refine fo_aload_n (k := 0) (fa_104 rfl) ?_
  refine fo_getr (fa_104 rfl) (by decide) rfl ?_
  refine fo_virtual (by decide) fna_10 (fo_call (fa_104 rfl) fNs_virtual fsm_10 (by decide) fFil_0 fna_10 fx_10 (by rw [fP_10]; rfl) fh_104 ?_)
  exact fo_iret (fa_104 rfl) fr_104 fw_bool
theorem fsm_104 : fSM 104 4 fm_104 := fs_methH (lp := [0]) (by decide) rfl ⟨fs_104_0, trivial⟩
theorem fP_105 : mj_P 105 = (7, 2, (some .int), mcX7_ways, []) := rfl
theorem fa_105 {pc : Nat} {e : mjE} (h : mj_at mcX7_ways pc = some e) : fAt 105 pc e := by unfold fAt; rw [fP_105]; exact h
theorem fr_105 : (mj_P 105).2.2.1 = (some .int) := by rw [fP_105]
theorem fna_105 : (mj_P 105).2.1 = 2 := by rw [fP_105]
theorem fx_105 : 2 ≤ mj_mx.getD 105 0 := by decide
theorem fh_105 : (mj_P 105).2.2.2.2.isEmpty = true := by rw [fP_105]; rfl
theorem fs_105_23 : fSB 105 [0] 3 23 f_105_23 := by
  unfold f_105_23
  refine fo_aload_n (k := 0) (fa_105 rfl) ?_
  refine fo_getr (fa_105 rfl) (by decide) rfl ?_
  refine fo_aload_n (k := 2) (fa_105 rfl) ?_
  refine fo_virtual (by decide) fna_75 (fo_call (fa_105 rfl) fNs_virtual fsm_75 (by decide) fFil_4 fna_75 fx_75 (by rw [fP_75]; rfl) fh_105 ?_)
  exact fo_iret (fa_105 rfl) fr_105 fw_int
theorem fs_105_0 : fSB 105 [0] 3 0 f_105_0 := by
  unfold f_105_0
  refine fo_aload_n (k := 0) (fa_105 rfl) ?_
  refine fo_iload_n (k := 1) (fa_105 rfl) ?_
  refine fo_virtual (by decide) fna_138 (fo_call (fa_105 rfl) fNs_virtual fsm_138 (by decide) fFil_1 fna_138 fx_138 (by rw [fP_138]; rfl) fh_105 ?_)
  refine fo_astore_n (k := 2) (fa_105 rfl) ?_
  refine fo_aload_n (k := 2) (fa_105 rfl) ?_
  refine fo_geti (fa_105 rfl) (by decide) rfl ?_
  refine fo_bipush (fa_105 rfl) fk_b_7 ?_
  refine fo_icmp_le (fa_105 rfl) (pcT := 23) rfl fs_105_23 ?_
  exact fo_throw (fa_105 rfl) fh_105
theorem fsm_105 : fSM 105 3 fm_105 := fs_methH (lp := [0]) (by decide) rfl ⟨fs_105_0, trivial⟩
theorem fP_136 : mj_P 136 = (7, 1, none, mcX7_checkTableSlot, []) := rfl
theorem fa_136 {pc : Nat} {e : mjE} (h : mj_at mcX7_checkTableSlot pc = some e) : fAt 136 pc e := by unfold fAt; rw [fP_136]; exact h
theorem fr_136 : (mj_P 136).2.2.1 = none := by rw [fP_136]
theorem fna_136 : (mj_P 136).2.1 = 1 := by rw [fP_136]
theorem fx_136 : 1 ≤ mj_mx.getD 136 0 := by decide
theorem fh_136 : (mj_P 136).2.2.2.2.isEmpty = true := by rw [fP_136]; rfl
theorem fs_136_18 : fSB 136 [0] 0 18 f_136_18 := by
  unfold f_136_18
  exact fo_ret (fa_136 rfl) fr_136
theorem fs_136_10 : fSB 136 [0] 0 10 f_136_10 := by
  unfold f_136_10
  exact fo_throw (fa_136 rfl) fh_136
theorem fs_136_0 : fSB 136 [0] 0 0 f_136_0 := by
  unfold f_136_0
  refine fo_iload_n (k := 0) (fa_136 rfl) ?_
  refine fo_if_lt (fa_136 rfl) (pcT := 10) rfl fs_136_10 ?_
  refine fo_iload_n (k := 0) (fa_136 rfl) ?_
  refine fo_bipush (fa_136 rfl) fk_b_6 ?_
  refine fo_icmp_lt (fa_136 rfl) (pcT := 18) rfl fs_136_18 ?_
  exact fs_136_10
theorem fsm_136 : fSM 136 0 fm_136 := fs_methH (lp := [0]) (by decide) rfl ⟨fs_136_0, trivial⟩
theorem fP_144 : mj_P 144 = (7, 2, none, mcX7_becomeTable, []) := rfl
theorem fa_144 {pc : Nat} {e : mjE} (h : mj_at mcX7_becomeTable pc = some e) : fAt 144 pc e := by unfold fAt; rw [fP_144]; exact h
theorem fr_144 : (mj_P 144).2.2.1 = none := by rw [fP_144]
theorem fna_144 : (mj_P 144).2.1 = 2 := by rw [fP_144]
theorem fx_144 : 2 ≤ mj_mx.getD 144 0 := by decide
theorem fh_144 : (mj_P 144).2.2.2.2.isEmpty = true := by rw [fP_144]; rfl
theorem fs_144_0 : fSB 144 [0] 2 0 f_144_0 := by
  unfold f_144_0
  refine fo_aload_n (k := 0) (fa_144 rfl) ?_
  refine fo_iconst (fa_144 rfl) fk_c_1 ?_
  refine fo_iload_n (k := 1) (fa_144 rfl) ?_
  refine fo_virtual (by decide) fna_146 (fo_call (fa_144 rfl) fNs_virtual fsm_146 (by decide) fFil_1 fna_146 fx_146 (by rw [fP_146]; rfl) fh_144 ?_)
  refine fo_aload_n (k := 0) (fa_144 rfl) ?_
  refine fo_getr (fa_144 rfl) (by decide) rfl ?_
  refine fo_iload_n (k := 1) (fa_144 rfl) ?_
  refine fo_aaload (fa_144 rfl) (by decide) (by decide) ?_
  refine fo_aload_n (k := 0) (fa_144 rfl) ?_
  refine fo_getr (fa_144 rfl) (by decide) rfl ?_
  refine fo_virtual (by decide) fna_64 (fo_call (fa_144 rfl) fNs_virtual fsm_64 (by decide) fFil_0 fna_64 fx_64 (by rw [fP_64]; rfl) fh_144 ?_)
  exact fo_ret (fa_144 rfl) fr_144
theorem fsm_144 : fSM 144 2 fm_144 := fs_methH (lp := [0]) (by decide) rfl ⟨fs_144_0, trivial⟩
theorem fP_106 : mj_P 106 = (7, 5, (some .int), mcX7_shifts, []) := rfl
theorem fa_106 {pc : Nat} {e : mjE} (h : mj_at mcX7_shifts pc = some e) : fAt 106 pc e := by unfold fAt; rw [fP_106]; exact h
theorem fr_106 : (mj_P 106).2.2.1 = (some .int) := by rw [fP_106]
theorem fna_106 : (mj_P 106).2.1 = 5 := by rw [fP_106]
theorem fx_106 : 5 ≤ mj_mx.getD 106 0 := by decide
theorem fh_106 : (mj_P 106).2.2.2.2.isEmpty = true := by rw [fP_106]; rfl
theorem fs_106_43 : fSB 106 [0] 3 43 f_106_43 := by
  unfold f_106_43
  refine fo_aload_n (k := 0) (fa_106 rfl) ?_
  refine fo_getr (fa_106 rfl) (by decide) rfl ?_
  refine fo_iload_n (k := 2) (fa_106 rfl) ?_
  refine fo_iload_n (k := 3) (fa_106 rfl) ?_
  refine fo_iload (k := 4) (fa_106 rfl) ?_
  refine fo_virtual (by decide) fna_71 (fo_call (fa_106 rfl) fNs_virtual fsm_71 (by decide) fFil_2 fna_71 fx_71 (by rw [fP_71]; rfl) fh_106 ?_)
  refine fo_aload_n (k := 0) (fa_106 rfl) ?_
  refine fo_iload_n (k := 1) (fa_106 rfl) ?_
  refine fo_virtual (by decide) fna_144 (fo_call (fa_106 rfl) fNs_virtual fsm_144 (by decide) fFil_0 fna_144 fx_144 (by rw [fP_144]; rfl) fh_106 ?_)
  refine fo_aload_n (k := 0) (fa_106 rfl) ?_
  refine fo_getr (fa_106 rfl) (by decide) rfl ?_
  refine fo_virtual (by decide) fna_66 (fo_call (fa_106 rfl) fNs_virtual fsm_66 (by decide) fFil_3 fna_66 fx_66 (by rw [fP_66]; rfl) fh_106 ?_)
  exact fo_iret (fa_106 rfl) fr_106 fw_int
theorem fs_106_35 : fSB 106 [0] 3 35 f_106_35 := by
  unfold f_106_35
  exact fo_throw (fa_106 rfl) fh_106
theorem fs_106_0 : fSB 106 [0] 3 0 f_106_0 := by
  unfold f_106_0
  refine fo_iload_n (k := 1) (fa_106 rfl) ?_
  refine fo_static (by decide) (fo_call (fa_106 rfl) fNs_static fsm_136 (by decide) fFil_0 fna_136 fx_136 (by rw [fP_136]; rfl) fh_106 ?_)
  refine fo_iload_n (k := 2) (fa_106 rfl) ?_
  refine fo_iconst (fa_106 rfl) fk_c_2 ?_
  refine fo_icmp_lt (fa_106 rfl) (pcT := 35) rfl fs_106_35 ?_
  refine fo_iload_n (k := 2) (fa_106 rfl) ?_
  refine fo_bipush (fa_106 rfl) fk_b_9 ?_
  refine fo_icmp_gt (fa_106 rfl) (pcT := 35) rfl fs_106_35 ?_
  refine fo_iload_n (k := 3) (fa_106 rfl) ?_
  refine fo_if_lt (fa_106 rfl) (pcT := 35) rfl fs_106_35 ?_
  refine fo_iload_n (k := 3) (fa_106 rfl) ?_
  refine fo_iload_n (k := 2) (fa_106 rfl) ?_
  refine fo_icmp_ge (fa_106 rfl) (pcT := 35) rfl fs_106_35 ?_
  refine fo_iload (k := 4) (fa_106 rfl) ?_
  refine fo_if_lt (fa_106 rfl) (pcT := 35) rfl fs_106_35 ?_
  refine fo_iload (k := 4) (fa_106 rfl) ?_
  refine fo_iload_n (k := 2) (fa_106 rfl) ?_
  refine fo_icmp_lt (fa_106 rfl) (pcT := 43) rfl fs_106_43 ?_
  exact fs_106_35
theorem fsm_106 : fSM 106 3 fm_106 := fs_methH (lp := [0]) (by decide) rfl ⟨fs_106_0, trivial⟩
theorem fP_107 : mj_P 107 = (7, 4, (some .int), mcX7_field, []) := rfl
theorem fa_107 {pc : Nat} {e : mjE} (h : mj_at mcX7_field pc = some e) : fAt 107 pc e := by unfold fAt; rw [fP_107]; exact h
theorem fr_107 : (mj_P 107).2.2.1 = (some .int) := by rw [fP_107]
theorem fna_107 : (mj_P 107).2.1 = 4 := by rw [fP_107]
theorem fx_107 : 4 ≤ mj_mx.getD 107 0 := by decide
theorem fh_107 : (mj_P 107).2.2.2.2.isEmpty = true := by rw [fP_107]; rfl
theorem fs_107_28 : fSB 107 [0] 4 28 f_107_28 := by
  unfold f_107_28
  refine fo_aload_n (k := 0) (fa_107 rfl) ?_
  refine fo_getr (fa_107 rfl) (by decide) rfl ?_
  refine fo_iload_n (k := 2) (fa_107 rfl) ?_
  refine fo_iload_n (k := 3) (fa_107 rfl) ?_
  refine fo_virtual (by decide) fna_72 (fo_call (fa_107 rfl) fNs_virtual fsm_72 (by decide) fFil_2 fna_72 fx_72 (by rw [fP_72]; rfl) fh_107 ?_)
  refine fo_aload_n (k := 0) (fa_107 rfl) ?_
  refine fo_iload_n (k := 1) (fa_107 rfl) ?_
  refine fo_virtual (by decide) fna_144 (fo_call (fa_107 rfl) fNs_virtual fsm_144 (by decide) fFil_0 fna_144 fx_144 (by rw [fP_144]; rfl) fh_107 ?_)
  refine fo_aload_n (k := 0) (fa_107 rfl) ?_
  refine fo_getr (fa_107 rfl) (by decide) rfl ?_
  refine fo_virtual (by decide) fna_66 (fo_call (fa_107 rfl) fNs_virtual fsm_66 (by decide) fFil_3 fna_66 fx_66 (by rw [fP_66]; rfl) fh_107 ?_)
  exact fo_iret (fa_107 rfl) fr_107 fw_int
theorem fs_107_20 : fSB 107 [0] 4 20 f_107_20 := by
  unfold f_107_20
  exact fo_throw (fa_107 rfl) fh_107
theorem fs_107_0 : fSB 107 [0] 4 0 f_107_0 := by
  unfold f_107_0
  refine fo_iload_n (k := 1) (fa_107 rfl) ?_
  refine fo_static (by decide) (fo_call (fa_107 rfl) fNs_static fsm_136 (by decide) fFil_0 fna_136 fx_136 (by rw [fP_136]; rfl) fh_107 ?_)
  refine fo_iload_n (k := 2) (fa_107 rfl) ?_
  refine fo_static (by decide) (fo_call (fa_107 rfl) fNs_static fsm_43 (by decide) fFil_0 fna_43 fx_43 (by rw [fP_43]; rfl) fh_107 ?_)
  refine fo_if_eq (fa_107 rfl) (pcT := 20) rfl fs_107_20 ?_
  refine fo_iload_n (k := 3) (fa_107 rfl) ?_
  refine fo_if_lt (fa_107 rfl) (pcT := 20) rfl fs_107_20 ?_
  refine fo_iload_n (k := 3) (fa_107 rfl) ?_
  refine fo_iload_n (k := 2) (fa_107 rfl) ?_
  refine fo_icmp_lt (fa_107 rfl) (pcT := 28) rfl fs_107_28 ?_
  exact fs_107_20
theorem fsm_107 : fSM 107 4 fm_107 := fs_methH (lp := [0]) (by decide) rfl ⟨fs_107_0, trivial⟩
theorem fP_139 : mj_P 139 = (7, 2, (some (.object "DesignsOffice$Table")), mcX7_heldTable, []) := rfl
theorem fa_139 {pc : Nat} {e : mjE} (h : mj_at mcX7_heldTable pc = some e) : fAt 139 pc e := by unfold fAt; rw [fP_139]; exact h
theorem fr_139 : (mj_P 139).2.2.1 = (some (.object "DesignsOffice$Table")) := by rw [fP_139]
theorem fna_139 : (mj_P 139).2.1 = 2 := by rw [fP_139]
theorem fx_139 : 2 ≤ mj_mx.getD 139 0 := by decide
theorem fh_139 : (mj_P 139).2.2.2.2.isEmpty = true := by rw [fP_139]; rfl
theorem fs_139_26 : fSB 139 [0] 1 26 f_139_26 := by
  unfold f_139_26
  refine fo_aload_n (k := 2) (fa_139 rfl) ?_
  exact fo_aret (fa_139 rfl) (by rw [fr_139]; rfl)
theorem fs_139_0 : fSB 139 [0] 1 0 f_139_0 := by
  unfold f_139_0
  refine fo_iload_n (k := 1) (fa_139 rfl) ?_
  refine fo_static (by decide) (fo_call (fa_139 rfl) fNs_static fsm_136 (by decide) fFil_0 fna_136 fx_136 (by rw [fP_136]; rfl) fh_139 ?_)
  refine fo_aload_n (k := 0) (fa_139 rfl) ?_
  refine fo_getr (fa_139 rfl) (by decide) rfl ?_
  refine fo_iload_n (k := 1) (fa_139 rfl) ?_
  refine fo_aaload (fa_139 rfl) (by decide) (by decide) ?_
  refine fo_astore_n (k := 2) (fa_139 rfl) ?_
  refine fo_aload_n (k := 2) (fa_139 rfl) ?_
  refine fo_geti (fa_139 rfl) (by decide) rfl ?_
  refine fo_if_ne (fa_139 rfl) (pcT := 26) rfl fs_139_26 ?_
  exact fo_throw (fa_139 rfl) fh_139
theorem fsm_139 : fSM 139 1 fm_139 := fs_methH (lp := [0]) (by decide) rfl ⟨fs_139_0, trivial⟩
theorem fP_108 : mj_P 108 = (7, 5, (some .int), mcX7_setCell, []) := rfl
theorem fa_108 {pc : Nat} {e : mjE} (h : mj_at mcX7_setCell pc = some e) : fAt 108 pc e := by unfold fAt; rw [fP_108]; exact h
theorem fr_108 : (mj_P 108).2.2.1 = (some .int) := by rw [fP_108]
theorem fna_108 : (mj_P 108).2.1 = 5 := by rw [fP_108]
theorem fx_108 : 5 ≤ mj_mx.getD 108 0 := by decide
theorem fh_108 : (mj_P 108).2.2.2.2.isEmpty = true := by rw [fP_108]; rfl
theorem fs_108_48 : fSB 108 [0] 2 48 f_108_48 := by
  unfold f_108_48
  refine fo_aload (k := 5) (fa_108 rfl) ?_
  refine fo_iload_n (k := 2) (fa_108 rfl) ?_
  refine fo_iload_n (k := 3) (fa_108 rfl) ?_
  refine fo_virtual (by decide) fna_62 (fo_call (fa_108 rfl) fNs_virtual fsm_62 (by decide) fFil_0 fna_62 fx_62 (by rw [fP_62]; rfl) fh_108 ?_)
  refine fo_istore (k := 6) (fa_108 rfl) ?_
  refine fo_aload_n (k := 0) (fa_108 rfl) ?_
  refine fo_iconst (fa_108 rfl) fk_c_1 ?_
  refine fo_iload_n (k := 1) (fa_108 rfl) ?_
  refine fo_virtual (by decide) fna_146 (fo_call (fa_108 rfl) fNs_virtual fsm_146 (by decide) fFil_1 fna_146 fx_146 (by rw [fP_146]; rfl) fh_108 ?_)
  refine fo_aload (k := 5) (fa_108 rfl) ?_
  refine fo_iload_n (k := 2) (fa_108 rfl) ?_
  refine fo_iload_n (k := 3) (fa_108 rfl) ?_
  refine fo_iload (k := 4) (fa_108 rfl) ?_
  refine fo_virtual (by decide) fna_63 (fo_call (fa_108 rfl) fNs_virtual fsm_63 (by decide) fFil_0 fna_63 fx_63 (by rw [fP_63]; rfl) fh_108 ?_)
  refine fo_iload (k := 6) (fa_108 rfl) ?_
  exact fo_iret (fa_108 rfl) fr_108 fw_int
theorem fs_108_40 : fSB 108 [0] 2 40 f_108_40 := by
  unfold f_108_40
  exact fo_throw (fa_108 rfl) fh_108
theorem fs_108_25 : fSB 108 [0] 2 25 f_108_25 := by
  unfold f_108_25
  refine fo_iload (k := 4) (fa_108 rfl) ?_
  refine fo_if_lt (fa_108 rfl) (pcT := 40) rfl fs_108_40 ?_
  refine fo_iload (k := 4) (fa_108 rfl) ?_
  refine fo_aload (k := 5) (fa_108 rfl) ?_
  refine fo_geti (fa_108 rfl) (by decide) rfl ?_
  refine fo_icmp_lt (fa_108 rfl) (pcT := 48) rfl fs_108_48 ?_
  exact fs_108_40
theorem fs_108_0 : fSB 108 [0] 2 0 f_108_0 := by
  unfold f_108_0
  refine fo_aload_n (k := 0) (fa_108 rfl) ?_
  refine fo_iload_n (k := 1) (fa_108 rfl) ?_
  refine fo_virtual (by decide) fna_139 (fo_call (fa_108 rfl) fNs_virtual fsm_139 (by decide) fFil_1 fna_139 fx_139 (by rw [fP_139]; rfl) fh_108 ?_)
  refine fo_astore (k := 5) (fa_108 rfl) ?_
  refine fo_aload (k := 5) (fa_108 rfl) ?_
  refine fo_iload_n (k := 2) (fa_108 rfl) ?_
  refine fo_iload_n (k := 3) (fa_108 rfl) ?_
  refine fo_virtual (by decide) fna_61 (fo_call (fa_108 rfl) fNs_virtual fsm_61 (by decide) fFil_0 fna_61 fx_61 (by rw [fP_61]; rfl) fh_108 ?_)
  refine fo_if_ne (fa_108 rfl) (pcT := 25) rfl fs_108_25 ?_
  exact fo_throw (fa_108 rfl) fh_108
theorem fsm_108 : fSM 108 2 fm_108 := fs_methH (lp := [0]) (by decide) rfl ⟨fs_108_0, trivial⟩
theorem fP_109 : mj_P 109 = (7, 2, (some .int), mcX7_order, []) := rfl
theorem fa_109 {pc : Nat} {e : mjE} (h : mj_at mcX7_order pc = some e) : fAt 109 pc e := by unfold fAt; rw [fP_109]; exact h
theorem fr_109 : (mj_P 109).2.2.1 = (some .int) := by rw [fP_109]
theorem fna_109 : (mj_P 109).2.1 = 2 := by rw [fP_109]
theorem fx_109 : 2 ≤ mj_mx.getD 109 0 := by decide
theorem fh_109 : (mj_P 109).2.2.2.2.isEmpty = true := by rw [fP_109]; rfl
theorem fs_109_0 : fSB 109 [0] 2 0 f_109_0 := by
  unfold f_109_0
  refine fo_aload_n (k := 0) (fa_109 rfl) ?_
  refine fo_iload_n (k := 1) (fa_109 rfl) ?_
  refine fo_virtual (by decide) fna_139 (fo_call (fa_109 rfl) fNs_virtual fsm_139 (by decide) fFil_1 fna_139 fx_139 (by rw [fP_139]; rfl) fh_109 ?_)
  refine fo_geti (fa_109 rfl) (by decide) rfl ?_
  exact fo_iret (fa_109 rfl) fr_109 fw_int
theorem fsm_109 : fSM 109 2 fm_109 := fs_methH (lp := [0]) (by decide) rfl ⟨fs_109_0, trivial⟩
theorem fP_110 : mj_P 110 = (7, 4, (some .int), mcX7_cell, []) := rfl
theorem fa_110 {pc : Nat} {e : mjE} (h : mj_at mcX7_cell pc = some e) : fAt 110 pc e := by unfold fAt; rw [fP_110]; exact h
theorem fr_110 : (mj_P 110).2.2.1 = (some .int) := by rw [fP_110]
theorem fna_110 : (mj_P 110).2.1 = 4 := by rw [fP_110]
theorem fx_110 : 4 ≤ mj_mx.getD 110 0 := by decide
theorem fh_110 : (mj_P 110).2.2.2.2.isEmpty = true := by rw [fP_110]; rfl
theorem fs_110_25 : fSB 110 [0] 2 25 f_110_25 := by
  unfold f_110_25
  refine fo_aload (k := 4) (fa_110 rfl) ?_
  refine fo_iload_n (k := 2) (fa_110 rfl) ?_
  refine fo_iload_n (k := 3) (fa_110 rfl) ?_
  refine fo_virtual (by decide) fna_62 (fo_call (fa_110 rfl) fNs_virtual fsm_62 (by decide) fFil_0 fna_62 fx_62 (by rw [fP_62]; rfl) fh_110 ?_)
  exact fo_iret (fa_110 rfl) fr_110 fw_int
theorem fs_110_0 : fSB 110 [0] 2 0 f_110_0 := by
  unfold f_110_0
  refine fo_aload_n (k := 0) (fa_110 rfl) ?_
  refine fo_iload_n (k := 1) (fa_110 rfl) ?_
  refine fo_virtual (by decide) fna_139 (fo_call (fa_110 rfl) fNs_virtual fsm_139 (by decide) fFil_1 fna_139 fx_139 (by rw [fP_139]; rfl) fh_110 ?_)
  refine fo_astore (k := 4) (fa_110 rfl) ?_
  refine fo_aload (k := 4) (fa_110 rfl) ?_
  refine fo_iload_n (k := 2) (fa_110 rfl) ?_
  refine fo_iload_n (k := 3) (fa_110 rfl) ?_
  refine fo_virtual (by decide) fna_61 (fo_call (fa_110 rfl) fNs_virtual fsm_61 (by decide) fFil_0 fna_61 fx_61 (by rw [fP_61]; rfl) fh_110 ?_)
  refine fo_if_ne (fa_110 rfl) (pcT := 25) rfl fs_110_25 ?_
  exact fo_throw (fa_110 rfl) fh_110
theorem fsm_110 : fSM 110 2 fm_110 := fs_methH (lp := [0]) (by decide) rfl ⟨fs_110_0, trivial⟩
theorem fP_111 : mj_P 111 = (7, 2, (some .boolean), mcX7_isSquare, []) := rfl
theorem fa_111 {pc : Nat} {e : mjE} (h : mj_at mcX7_isSquare pc = some e) : fAt 111 pc e := by unfold fAt; rw [fP_111]; exact h
theorem fr_111 : (mj_P 111).2.2.1 = (some .boolean) := by rw [fP_111]
theorem fna_111 : (mj_P 111).2.1 = 2 := by rw [fP_111]
theorem fx_111 : 2 ≤ mj_mx.getD 111 0 := by decide
theorem fh_111 : (mj_P 111).2.2.2.2.isEmpty = true := by rw [fP_111]; rfl
theorem fs_111_0 : fSB 111 [0] 3 0 f_111_0 := by
  unfold f_111_0
  refine fo_aload_n (k := 0) (fa_111 rfl) ?_
  refine fo_iload_n (k := 1) (fa_111 rfl) ?_
  refine fo_virtual (by decide) fna_139 (fo_call (fa_111 rfl) fNs_virtual fsm_139 (by decide) fFil_1 fna_139 fx_139 (by rw [fP_139]; rfl) fh_111 ?_)
  refine fo_virtual (by decide) fna_67 (fo_call (fa_111 rfl) fNs_virtual fsm_67 (by decide) fFil_4 fna_67 fx_67 (by rw [fP_67]; rfl) fh_111 ?_)
  exact fo_iret (fa_111 rfl) fr_111 fw_bool
theorem fsm_111 : fSM 111 3 fm_111 := fs_methH (lp := [0]) (by decide) rfl ⟨fs_111_0, trivial⟩
theorem fP_112 : mj_P 112 = (7, 4, (some .int), mcX7_turn, []) := rfl
theorem fa_112 {pc : Nat} {e : mjE} (h : mj_at mcX7_turn pc = some e) : fAt 112 pc e := by unfold fAt; rw [fP_112]; exact h
theorem fr_112 : (mj_P 112).2.2.1 = (some .int) := by rw [fP_112]
theorem fna_112 : (mj_P 112).2.1 = 4 := by rw [fP_112]
theorem fx_112 : 4 ≤ mj_mx.getD 112 0 := by decide
theorem fh_112 : (mj_P 112).2.2.2.2.isEmpty = true := by rw [fP_112]; rfl
theorem fs_112_35 : fSB 112 [0] 3 35 f_112_35 := by
  unfold f_112_35
  refine fo_aload_n (k := 0) (fa_112 rfl) ?_
  refine fo_getr (fa_112 rfl) (by decide) rfl ?_
  refine fo_aload (k := 4) (fa_112 rfl) ?_
  refine fo_iload_n (k := 2) (fa_112 rfl) ?_
  refine fo_virtual (by decide) fna_73 (fo_call (fa_112 rfl) fNs_virtual fsm_73 (by decide) fFil_2 fna_73 fx_73 (by rw [fP_73]; rfl) fh_112 ?_)
  refine fo_aload_n (k := 0) (fa_112 rfl) ?_
  refine fo_iload_n (k := 3) (fa_112 rfl) ?_
  refine fo_virtual (by decide) fna_144 (fo_call (fa_112 rfl) fNs_virtual fsm_144 (by decide) fFil_0 fna_144 fx_144 (by rw [fP_144]; rfl) fh_112 ?_)
  refine fo_aload_n (k := 0) (fa_112 rfl) ?_
  refine fo_getr (fa_112 rfl) (by decide) rfl ?_
  refine fo_iconst (fa_112 rfl) fk_c_0 ?_
  refine fo_iconst (fa_112 rfl) fk_c_0 ?_
  refine fo_virtual (by decide) fna_62 (fo_call (fa_112 rfl) fNs_virtual fsm_62 (by decide) fFil_0 fna_62 fx_62 (by rw [fP_62]; rfl) fh_112 ?_)
  exact fo_iret (fa_112 rfl) fr_112 fw_int
theorem fs_112_0 : fSB 112 [0] 3 0 f_112_0 := by
  unfold f_112_0
  refine fo_iload_n (k := 1) (fa_112 rfl) ?_
  refine fo_static (by decide) (fo_call (fa_112 rfl) fNs_static fsm_136 (by decide) fFil_0 fna_136 fx_136 (by rw [fP_136]; rfl) fh_112 ?_)
  refine fo_iload_n (k := 3) (fa_112 rfl) ?_
  refine fo_static (by decide) (fo_call (fa_112 rfl) fNs_static fsm_136 (by decide) fFil_0 fna_136 fx_136 (by rw [fP_136]; rfl) fh_112 ?_)
  refine fo_aload_n (k := 0) (fa_112 rfl) ?_
  refine fo_iload_n (k := 1) (fa_112 rfl) ?_
  refine fo_virtual (by decide) fna_139 (fo_call (fa_112 rfl) fNs_virtual fsm_139 (by decide) fFil_1 fna_139 fx_139 (by rw [fP_139]; rfl) fh_112 ?_)
  refine fo_astore (k := 4) (fa_112 rfl) ?_
  refine fo_iload_n (k := 2) (fa_112 rfl) ?_
  refine fo_if_eq (fa_112 rfl) (pcT := 35) rfl fs_112_35 ?_
  refine fo_aload (k := 4) (fa_112 rfl) ?_
  refine fo_virtual (by decide) fna_67 (fo_call (fa_112 rfl) fNs_virtual fsm_67 (by decide) fFil_4 fna_67 fx_67 (by rw [fP_67]; rfl) fh_112 ?_)
  refine fo_if_ne (fa_112 rfl) (pcT := 35) rfl fs_112_35 ?_
  exact fo_throw (fa_112 rfl) fh_112
theorem fsm_112 : fSM 112 3 fm_112 := fs_methH (lp := [0]) (by decide) rfl ⟨fs_112_0, trivial⟩
theorem fP_113 : mj_P 113 = (7, 3, (some .boolean), mcX7_areApart, []) := rfl
theorem fa_113 {pc : Nat} {e : mjE} (h : mj_at mcX7_areApart pc = some e) : fAt 113 pc e := by unfold fAt; rw [fP_113]; exact h
theorem fr_113 : (mj_P 113).2.2.1 = (some .boolean) := by rw [fP_113]
theorem fna_113 : (mj_P 113).2.1 = 3 := by rw [fP_113]
theorem fx_113 : 3 ≤ mj_mx.getD 113 0 := by decide
theorem fh_113 : (mj_P 113).2.2.2.2.isEmpty = true := by rw [fP_113]; rfl
theorem fs_113_56 : fSB 113 [0] 3 56 f_113_56 := by
  unfold f_113_56
  refine fo_aload_n (k := 3) (fa_113 rfl) ?_
  refine fo_aload (k := 4) (fa_113 rfl) ?_
  refine fo_virtual (by decide) fna_68 (fo_call (fa_113 rfl) fNs_virtual fsm_68 (by decide) fFil_4 fna_68 fx_68 (by rw [fP_68]; rfl) fh_113 ?_)
  exact fo_iret (fa_113 rfl) fr_113 fw_bool
theorem fs_113_48 : fSB 113 [0] 3 48 f_113_48 := by
  unfold f_113_48
  exact fo_throw (fa_113 rfl) fh_113
theorem fs_113_0 : fSB 113 [0] 3 0 f_113_0 := by
  unfold f_113_0
  refine fo_iload_n (k := 1) (fa_113 rfl) ?_
  refine fo_static (by decide) (fo_call (fa_113 rfl) fNs_static fsm_136 (by decide) fFil_0 fna_136 fx_136 (by rw [fP_136]; rfl) fh_113 ?_)
  refine fo_iload_n (k := 2) (fa_113 rfl) ?_
  refine fo_static (by decide) (fo_call (fa_113 rfl) fNs_static fsm_136 (by decide) fFil_0 fna_136 fx_136 (by rw [fP_136]; rfl) fh_113 ?_)
  refine fo_aload_n (k := 0) (fa_113 rfl) ?_
  refine fo_iload_n (k := 1) (fa_113 rfl) ?_
  refine fo_virtual (by decide) fna_139 (fo_call (fa_113 rfl) fNs_virtual fsm_139 (by decide) fFil_1 fna_139 fx_139 (by rw [fP_139]; rfl) fh_113 ?_)
  refine fo_astore_n (k := 3) (fa_113 rfl) ?_
  refine fo_aload_n (k := 0) (fa_113 rfl) ?_
  refine fo_iload_n (k := 2) (fa_113 rfl) ?_
  refine fo_virtual (by decide) fna_139 (fo_call (fa_113 rfl) fNs_virtual fsm_139 (by decide) fFil_1 fna_139 fx_139 (by rw [fP_139]; rfl) fh_113 ?_)
  refine fo_astore (k := 4) (fa_113 rfl) ?_
  refine fo_aload_n (k := 3) (fa_113 rfl) ?_
  refine fo_virtual (by decide) fna_67 (fo_call (fa_113 rfl) fNs_virtual fsm_67 (by decide) fFil_4 fna_67 fx_67 (by rw [fP_67]; rfl) fh_113 ?_)
  refine fo_if_eq (fa_113 rfl) (pcT := 48) rfl fs_113_48 ?_
  refine fo_aload (k := 4) (fa_113 rfl) ?_
  refine fo_virtual (by decide) fna_67 (fo_call (fa_113 rfl) fNs_virtual fsm_67 (by decide) fFil_4 fna_67 fx_67 (by rw [fP_67]; rfl) fh_113 ?_)
  refine fo_if_eq (fa_113 rfl) (pcT := 48) rfl fs_113_48 ?_
  refine fo_aload_n (k := 3) (fa_113 rfl) ?_
  refine fo_geti (fa_113 rfl) (by decide) rfl ?_
  refine fo_aload (k := 4) (fa_113 rfl) ?_
  refine fo_geti (fa_113 rfl) (by decide) rfl ?_
  refine fo_icmp_eq (fa_113 rfl) (pcT := 56) rfl fs_113_56 ?_
  exact fs_113_48
theorem fsm_113 : fSM 113 3 fm_113 := fs_methH (lp := [0]) (by decide) rfl ⟨fs_113_0, trivial⟩
theorem fP_114 : mj_P 114 = (7, 2, (some .int), mcX7_transversals, []) := rfl
theorem fa_114 {pc : Nat} {e : mjE} (h : mj_at mcX7_transversals pc = some e) : fAt 114 pc e := by unfold fAt; rw [fP_114]; exact h
theorem fr_114 : (mj_P 114).2.2.1 = (some .int) := by rw [fP_114]
theorem fna_114 : (mj_P 114).2.1 = 2 := by rw [fP_114]
theorem fx_114 : 2 ≤ mj_mx.getD 114 0 := by decide
theorem fh_114 : (mj_P 114).2.2.2.2.isEmpty = true := by rw [fP_114]; rfl
theorem fs_114_30 : fSB 114 [0] 3 30 f_114_30 := by
  unfold f_114_30
  refine fo_aload_n (k := 2) (fa_114 rfl) ?_
  refine fo_virtual (by decide) fna_69 (fo_call (fa_114 rfl) fNs_virtual fsm_69 (by decide) fFil_0 fna_69 fx_69 (by rw [fP_69]; rfl) fh_114 ?_)
  exact fo_iret (fa_114 rfl) fr_114 fw_int
theorem fs_114_22 : fSB 114 [0] 3 22 f_114_22 := by
  unfold f_114_22
  exact fo_throw (fa_114 rfl) fh_114
theorem fs_114_0 : fSB 114 [0] 3 0 f_114_0 := by
  unfold f_114_0
  refine fo_aload_n (k := 0) (fa_114 rfl) ?_
  refine fo_iload_n (k := 1) (fa_114 rfl) ?_
  refine fo_virtual (by decide) fna_139 (fo_call (fa_114 rfl) fNs_virtual fsm_139 (by decide) fFil_1 fna_139 fx_139 (by rw [fP_139]; rfl) fh_114 ?_)
  refine fo_astore_n (k := 2) (fa_114 rfl) ?_
  refine fo_aload_n (k := 2) (fa_114 rfl) ?_
  refine fo_geti (fa_114 rfl) (by decide) rfl ?_
  refine fo_bipush (fa_114 rfl) fk_b_7 ?_
  refine fo_icmp_gt (fa_114 rfl) (pcT := 22) rfl fs_114_22 ?_
  refine fo_aload_n (k := 2) (fa_114 rfl) ?_
  refine fo_virtual (by decide) fna_67 (fo_call (fa_114 rfl) fNs_virtual fsm_67 (by decide) fFil_4 fna_67 fx_67 (by rw [fP_67]; rfl) fh_114 ?_)
  refine fo_if_ne (fa_114 rfl) (pcT := 30) rfl fs_114_30 ?_
  exact fs_114_22
theorem fsm_114 : fSM 114 3 fm_114 := fs_methH (lp := [0]) (by decide) rfl ⟨fs_114_0, trivial⟩
theorem fP_149 : mj_P 149 = (7, 2, (some .boolean), mcX7_areAllApart, []) := rfl
theorem fa_149 {pc : Nat} {e : mjE} (h : mj_at mcX7_areAllApart pc = some e) : fAt 149 pc e := by unfold fAt; rw [fP_149]; exact h
theorem fr_149 : (mj_P 149).2.2.1 = (some .boolean) := by rw [fP_149]
theorem fna_149 : (mj_P 149).2.1 = 2 := by rw [fP_149]
theorem fx_149 : 2 ≤ mj_mx.getD 149 0 := by decide
theorem fh_149 : (mj_P 149).2.2.2.2.isEmpty = true := by rw [fP_149]; rfl
theorem fs_149_99 : fSB 149 [0, 2, 38, 46] 3 99 f_149_99 := by
  unfold f_149_99
  refine fo_iconst (fa_149 rfl) fk_c_1 ?_
  exact fo_iret (fa_149 rfl) fr_149 fw_bool
theorem fs_149_93 : fSB 149 [0, 2, 38, 46] 3 93 f_149_93 := by
  unfold f_149_93
  refine fo_iinc (k := 2) (fa_149 rfl) fk_c_1 ?_
  exact fo_goto (fa_149 rfl) (pcT := 38) rfl (fo_back (q := 38) rfl)
theorem fs_149_87 : fSB 149 [0, 2, 38, 46] 3 87 f_149_87 := by
  unfold f_149_87
  refine fo_iinc (k := 3) (fa_149 rfl) fk_c_1 ?_
  exact fo_goto (fa_149 rfl) (pcT := 46) rfl (fo_back (q := 46) rfl)
theorem fs_149_46 : fSB 149 [0, 2, 38, 46] 3 46 f_149_46 := by
  unfold f_149_46
  refine fo_iload_n (k := 3) (fa_149 rfl) ?_
  refine fo_iload_n (k := 2) (fa_149 rfl) ?_
  refine fo_icmp_ge (fa_149 rfl) (pcT := 93) rfl fs_149_93 ?_
  refine fo_iload_n (k := 1) (fa_149 rfl) ?_
  refine fo_iload_n (k := 2) (fa_149 rfl) ?_
  refine fo_static (by decide) (fo_call (fa_149 rfl) fNs_static fsm_166 (by decide) fFil_0 fna_166 fx_166 (by rw [fP_166]; rfl) fh_149 ?_)
  refine fo_if_eq (fa_149 rfl) (pcT := 87) rfl fs_149_87 ?_
  refine fo_iload_n (k := 1) (fa_149 rfl) ?_
  refine fo_iload_n (k := 3) (fa_149 rfl) ?_
  refine fo_static (by decide) (fo_call (fa_149 rfl) fNs_static fsm_166 (by decide) fFil_0 fna_166 fx_166 (by rw [fP_166]; rfl) fh_149 ?_)
  refine fo_if_eq (fa_149 rfl) (pcT := 87) rfl fs_149_87 ?_
  refine fo_aload_n (k := 0) (fa_149 rfl) ?_
  refine fo_getr (fa_149 rfl) (by decide) rfl ?_
  refine fo_iload_n (k := 2) (fa_149 rfl) ?_
  refine fo_aaload (fa_149 rfl) (by decide) (by decide) ?_
  refine fo_aload_n (k := 0) (fa_149 rfl) ?_
  refine fo_getr (fa_149 rfl) (by decide) rfl ?_
  refine fo_iload_n (k := 3) (fa_149 rfl) ?_
  refine fo_aaload (fa_149 rfl) (by decide) (by decide) ?_
  refine fo_virtual (by decide) fna_68 (fo_call (fa_149 rfl) fNs_virtual fsm_68 (by decide) fFil_4 fna_68 fx_68 (by rw [fP_68]; rfl) fh_149 ?_)
  refine fo_if_ne (fa_149 rfl) (pcT := 87) rfl fs_149_87 ?_
  refine fo_iconst (fa_149 rfl) fk_c_0 ?_
  exact fo_iret (fa_149 rfl) fr_149 fw_bool
theorem fs_149_38 : fSB 149 [0, 2, 38, 46] 3 38 f_149_38 := by
  unfold f_149_38
  refine fo_iload_n (k := 2) (fa_149 rfl) ?_
  refine fo_bipush (fa_149 rfl) fk_b_6 ?_
  refine fo_icmp_ge (fa_149 rfl) (pcT := 99) rfl fs_149_99 ?_
  refine fo_iconst (fa_149 rfl) fk_c_0 ?_
  refine fo_istore_n (k := 3) (fa_149 rfl) ?_
  exact fs_149_46
theorem fs_149_36 : fSB 149 [0, 2, 38, 46] 3 36 f_149_36 := by
  unfold f_149_36
  refine fo_iconst (fa_149 rfl) fk_c_0 ?_
  refine fo_istore_n (k := 2) (fa_149 rfl) ?_
  exact fs_149_38
theorem fs_149_30 : fSB 149 [0, 2, 38, 46] 3 30 f_149_30 := by
  unfold f_149_30
  refine fo_iinc (k := 2) (fa_149 rfl) fk_c_1 ?_
  exact fo_goto (fa_149 rfl) (pcT := 2) rfl (fo_back (q := 2) rfl)
theorem fs_149_2 : fSB 149 [0, 2, 38, 46] 3 2 f_149_2 := by
  unfold f_149_2
  refine fo_iload_n (k := 2) (fa_149 rfl) ?_
  refine fo_bipush (fa_149 rfl) fk_b_6 ?_
  refine fo_icmp_ge (fa_149 rfl) (pcT := 36) rfl fs_149_36 ?_
  refine fo_iload_n (k := 1) (fa_149 rfl) ?_
  refine fo_iload_n (k := 2) (fa_149 rfl) ?_
  refine fo_static (by decide) (fo_call (fa_149 rfl) fNs_static fsm_166 (by decide) fFil_0 fna_166 fx_166 (by rw [fP_166]; rfl) fh_149 ?_)
  refine fo_if_eq (fa_149 rfl) (pcT := 30) rfl fs_149_30 ?_
  refine fo_aload_n (k := 0) (fa_149 rfl) ?_
  refine fo_getr (fa_149 rfl) (by decide) rfl ?_
  refine fo_iload_n (k := 2) (fa_149 rfl) ?_
  refine fo_aaload (fa_149 rfl) (by decide) (by decide) ?_
  refine fo_virtual (by decide) fna_67 (fo_call (fa_149 rfl) fNs_virtual fsm_67 (by decide) fFil_4 fna_67 fx_67 (by rw [fP_67]; rfl) fh_149 ?_)
  refine fo_if_ne (fa_149 rfl) (pcT := 30) rfl fs_149_30 ?_
  refine fo_iconst (fa_149 rfl) fk_c_0 ?_
  exact fo_iret (fa_149 rfl) fr_149 fw_bool
theorem fs_149_0 : fSB 149 [0, 2, 38, 46] 3 0 f_149_0 := by
  unfold f_149_0
  refine fo_iconst (fa_149 rfl) fk_c_0 ?_
  refine fo_istore_n (k := 2) (fa_149 rfl) ?_
  exact fs_149_2
theorem fsm_149 : fSM 149 3 fm_149 := fs_methH (lp := [0, 2, 38, 46]) (by decide) rfl ⟨fs_149_0, fs_149_2, fs_149_38, fs_149_46, trivial⟩
theorem fP_150 : mj_P 150 = (7, 3, none, mcX7_makePlaneOfSquares, []) := rfl
theorem fa_150 {pc : Nat} {e : mjE} (h : mj_at mcX7_makePlaneOfSquares pc = some e) : fAt 150 pc e := by unfold fAt; rw [fP_150]; exact h
theorem fr_150 : (mj_P 150).2.2.1 = none := by rw [fP_150]
theorem fna_150 : (mj_P 150).2.1 = 3 := by rw [fP_150]
theorem fx_150 : 3 ≤ mj_mx.getD 150 0 := by decide
theorem fh_150 : (mj_P 150).2.2.2.2.isEmpty = true := by rw [fP_150]; rfl
theorem fs_150_45 : fSB 150 [0, 12] 3 45 f_150_45 := by
  unfold f_150_45
  refine fo_aload_n (k := 0) (fa_150 rfl) ?_
  refine fo_getr (fa_150 rfl) (by decide) rfl ?_
  refine fo_iload_n (k := 2) (fa_150 rfl) ?_
  refine fo_virtual (by decide) fna_41 (fo_call (fa_150 rfl) fNs_virtual fsm_41 (by decide) fFil_3 fna_41 fx_41 (by rw [fP_41]; rfl) fh_150 ?_)
  exact fo_ret (fa_150 rfl) fr_150
theorem fs_150_39 : fSB 150 [0, 12] 3 39 f_150_39 := by
  unfold f_150_39
  refine fo_iinc (k := 3) (fa_150 rfl) fk_c_1 ?_
  exact fo_goto (fa_150 rfl) (pcT := 12) rfl (fo_back (q := 12) rfl)
theorem fs_150_12 : fSB 150 [0, 12] 3 12 f_150_12 := by
  unfold f_150_12
  refine fo_iload_n (k := 3) (fa_150 rfl) ?_
  refine fo_bipush (fa_150 rfl) fk_b_6 ?_
  refine fo_icmp_ge (fa_150 rfl) (pcT := 45) rfl fs_150_45 ?_
  refine fo_iload_n (k := 1) (fa_150 rfl) ?_
  refine fo_iload_n (k := 3) (fa_150 rfl) ?_
  refine fo_static (by decide) (fo_call (fa_150 rfl) fNs_static fsm_166 (by decide) fFil_0 fna_166 fx_166 (by rw [fP_166]; rfl) fh_150 ?_)
  refine fo_if_eq (fa_150 rfl) (pcT := 39) rfl fs_150_39 ?_
  refine fo_aload_n (k := 0) (fa_150 rfl) ?_
  refine fo_getr (fa_150 rfl) (by decide) rfl ?_
  refine fo_aload_n (k := 0) (fa_150 rfl) ?_
  refine fo_getr (fa_150 rfl) (by decide) rfl ?_
  refine fo_iload_n (k := 3) (fa_150 rfl) ?_
  refine fo_aaload (fa_150 rfl) (by decide) (by decide) ?_
  refine fo_virtual (by decide) fna_40 (fo_call (fa_150 rfl) fNs_virtual fsm_40 (by decide) fFil_4 fna_40 fx_40 (by rw [fP_40]; rfl) fh_150 ?_)
  exact fs_150_39
theorem fs_150_0 : fSB 150 [0, 12] 3 0 f_150_0 := by
  unfold f_150_0
  refine fo_aload_n (k := 0) (fa_150 rfl) ?_
  refine fo_getr (fa_150 rfl) (by decide) rfl ?_
  refine fo_iload_n (k := 2) (fa_150 rfl) ?_
  refine fo_iload_n (k := 2) (fa_150 rfl) ?_
  refine fo_imul (fa_150 rfl) ?_
  refine fo_virtual (by decide) fna_13 (fo_call (fa_150 rfl) fNs_virtual fsm_13 (by decide) fFil_0 fna_13 fx_13 (by rw [fP_13]; rfl) fh_150 ?_)
  refine fo_iconst (fa_150 rfl) fk_c_0 ?_
  refine fo_istore_n (k := 3) (fa_150 rfl) ?_
  exact fs_150_12
theorem fsm_150 : fSM 150 3 fm_150 := fs_methH (lp := [0, 12]) (by decide) rfl ⟨fs_150_0, fs_150_12, trivial⟩
theorem fP_115 : mj_P 115 = (7, 3, (some .int), mcX7_planeOf, []) := rfl
theorem fa_115 {pc : Nat} {e : mjE} (h : mj_at mcX7_planeOf pc = some e) : fAt 115 pc e := by unfold fAt; rw [fP_115]; exact h
theorem fr_115 : (mj_P 115).2.2.1 = (some .int) := by rw [fP_115]
theorem fna_115 : (mj_P 115).2.1 = 3 := by rw [fP_115]
theorem fx_115 : 3 ≤ mj_mx.getD 115 0 := by decide
theorem fh_115 : (mj_P 115).2.2.2.2.isEmpty = true := by rw [fP_115]; rfl
theorem fs_115_104 : fSB 115 [0, 41] 4 104 f_115_104 := by
  unfold f_115_104
  refine fo_aload_n (k := 0) (fa_115 rfl) ?_
  refine fo_iload_n (k := 1) (fa_115 rfl) ?_
  refine fo_iload_n (k := 3) (fa_115 rfl) ?_
  refine fo_virtual (by decide) fna_150 (fo_call (fa_115 rfl) fNs_virtual fsm_150 (by decide) fFil_1 fna_150 fx_150 (by rw [fP_150]; rfl) fh_115 ?_)
  refine fo_aload_n (k := 0) (fa_115 rfl) ?_
  refine fo_iload_n (k := 2) (fa_115 rfl) ?_
  refine fo_virtual (by decide) fna_143 (fo_call (fa_115 rfl) fNs_virtual fsm_143 (by decide) fFil_0 fna_143 fx_143 (by rw [fP_143]; rfl) fh_115 ?_)
  exact fo_iret (fa_115 rfl) fr_115 fw_int
theorem fs_115_96 : fSB 115 [0, 41] 4 96 f_115_96 := by
  unfold f_115_96
  exact fo_throw (fa_115 rfl) fh_115
theorem fs_115_73 : fSB 115 [0, 41] 4 73 f_115_73 := by
  unfold f_115_73
  refine fo_iload_n (k := 3) (fa_115 rfl) ?_
  refine fo_iconst (fa_115 rfl) fk_c_5 ?_
  refine fo_icmp_gt (fa_115 rfl) (pcT := 96) rfl fs_115_96 ?_
  refine fo_iload_n (k := 1) (fa_115 rfl) ?_
  refine fo_static (by decide) (fo_call (fa_115 rfl) fNs_static fsm_272 (by decide) fFil_0 fna_272 fx_272 (by rw [fP_272]; rfl) fh_115 ?_)
  refine fo_iload_n (k := 3) (fa_115 rfl) ?_
  refine fo_iconst (fa_115 rfl) fk_c_1 ?_
  refine fo_isub (fa_115 rfl) ?_
  refine fo_icmp_ne (fa_115 rfl) (pcT := 96) rfl fs_115_96 ?_
  refine fo_aload_n (k := 0) (fa_115 rfl) ?_
  refine fo_iload_n (k := 1) (fa_115 rfl) ?_
  refine fo_virtual (by decide) fna_149 (fo_call (fa_115 rfl) fNs_virtual fsm_149 (by decide) fFil_2 fna_149 fx_149 (by rw [fP_149]; rfl) fh_115 ?_)
  refine fo_if_ne (fa_115 rfl) (pcT := 104) rfl fs_115_104 ?_
  exact fs_115_96
theorem fs_115_67 : fSB 115 [0, 41] 4 67 f_115_67 := by
  unfold f_115_67
  refine fo_iinc (k := 4) (fa_115 rfl) fk_c_1 ?_
  exact fo_goto (fa_115 rfl) (pcT := 41) rfl (fo_back (q := 41) rfl)
theorem fs_115_41 : fSB 115 [0, 41] 4 41 f_115_41 := by
  unfold f_115_41
  refine fo_iload (k := 4) (fa_115 rfl) ?_
  refine fo_bipush (fa_115 rfl) fk_b_6 ?_
  refine fo_icmp_ge (fa_115 rfl) (pcT := 73) rfl fs_115_73 ?_
  refine fo_iload_n (k := 1) (fa_115 rfl) ?_
  refine fo_iload (k := 4) (fa_115 rfl) ?_
  refine fo_static (by decide) (fo_call (fa_115 rfl) fNs_static fsm_166 (by decide) fFil_0 fna_166 fx_166 (by rw [fP_166]; rfl) fh_115 ?_)
  refine fo_if_eq (fa_115 rfl) (pcT := 67) rfl fs_115_67 ?_
  refine fo_aload_n (k := 0) (fa_115 rfl) ?_
  refine fo_iload (k := 4) (fa_115 rfl) ?_
  refine fo_virtual (by decide) fna_139 (fo_call (fa_115 rfl) fNs_virtual fsm_139 (by decide) fFil_1 fna_139 fx_139 (by rw [fP_139]; rfl) fh_115 ?_)
  refine fo_geti (fa_115 rfl) (by decide) rfl ?_
  refine fo_istore_n (k := 3) (fa_115 rfl) ?_
  exact fs_115_67
theorem fs_115_36 : fSB 115 [0, 41] 4 36 f_115_36 := by
  unfold f_115_36
  refine fo_iconst (fa_115 rfl) fk_c_0 ?_
  refine fo_istore_n (k := 3) (fa_115 rfl) ?_
  refine fo_iconst (fa_115 rfl) fk_c_0 ?_
  refine fo_istore (k := 4) (fa_115 rfl) ?_
  exact fs_115_41
theorem fs_115_24 : fSB 115 [0, 41] 4 24 f_115_24 := by
  unfold f_115_24
  refine fo_iload_n (k := 1) (fa_115 rfl) ?_
  refine fo_if_ne (fa_115 rfl) (pcT := 36) rfl fs_115_36 ?_
  exact fo_throw (fa_115 rfl) fh_115
theorem fs_115_0 : fSB 115 [0, 41] 4 0 f_115_0 := by
  unfold f_115_0
  refine fo_iload_n (k := 2) (fa_115 rfl) ?_
  refine fo_static (by decide) (fo_call (fa_115 rfl) fNs_static fsm_135 (by decide) fFil_0 fna_135 fx_135 (by rw [fP_135]; rfl) fh_115 ?_)
  refine fo_iload_n (k := 1) (fa_115 rfl) ?_
  refine fo_bipush (fa_115 rfl) fk_b_6 ?_
  refine fo_static (by decide) (fo_call (fa_115 rfl) fNs_static fsm_165 (by decide) fFil_0 fna_165 fx_165 (by rw [fP_165]; rfl) fh_115 ?_)
  refine fo_iconst (fa_115 rfl) fk_c_m1 ?_
  refine fo_ixor (fa_115 rfl) ?_
  refine fo_andz_eq (fa_115 rfl) (fa_115 rfl) (pcZ := 24) rfl fs_115_24 ?_
  exact fo_throw (fa_115 rfl) fh_115
theorem fsm_115 : fSM 115 4 fm_115 := fs_methH (lp := [0, 41]) (by decide) rfl ⟨fs_115_0, fs_115_41, trivial⟩
theorem fP_137 : mj_P 137 = (7, 1, none, mcX7_checkRowsSlot, []) := rfl
theorem fa_137 {pc : Nat} {e : mjE} (h : mj_at mcX7_checkRowsSlot pc = some e) : fAt 137 pc e := by unfold fAt; rw [fP_137]; exact h
theorem fr_137 : (mj_P 137).2.2.1 = none := by rw [fP_137]
theorem fna_137 : (mj_P 137).2.1 = 1 := by rw [fP_137]
theorem fx_137 : 1 ≤ mj_mx.getD 137 0 := by decide
theorem fh_137 : (mj_P 137).2.2.2.2.isEmpty = true := by rw [fP_137]; rfl
theorem fs_137_17 : fSB 137 [0] 0 17 f_137_17 := by
  unfold f_137_17
  exact fo_ret (fa_137 rfl) fr_137
theorem fs_137_9 : fSB 137 [0] 0 9 f_137_9 := by
  unfold f_137_9
  exact fo_throw (fa_137 rfl) fh_137
theorem fs_137_0 : fSB 137 [0] 0 0 f_137_0 := by
  unfold f_137_0
  refine fo_iload_n (k := 0) (fa_137 rfl) ?_
  refine fo_if_lt (fa_137 rfl) (pcT := 9) rfl fs_137_9 ?_
  refine fo_iload_n (k := 0) (fa_137 rfl) ?_
  refine fo_iconst (fa_137 rfl) fk_c_3 ?_
  refine fo_icmp_lt (fa_137 rfl) (pcT := 17) rfl fs_137_17 ?_
  exact fs_137_9
theorem fsm_137 : fSM 137 0 fm_137 := fs_methH (lp := [0]) (by decide) rfl ⟨fs_137_0, trivial⟩
theorem fP_145 : mj_P 145 = (7, 2, (some .int), mcX7_becomeRows, []) := rfl
theorem fa_145 {pc : Nat} {e : mjE} (h : mj_at mcX7_becomeRows pc = some e) : fAt 145 pc e := by unfold fAt; rw [fP_145]; exact h
theorem fr_145 : (mj_P 145).2.2.1 = (some .int) := by rw [fP_145]
theorem fna_145 : (mj_P 145).2.1 = 2 := by rw [fP_145]
theorem fx_145 : 2 ≤ mj_mx.getD 145 0 := by decide
theorem fh_145 : (mj_P 145).2.2.2.2.isEmpty = true := by rw [fP_145]; rfl
theorem fs_145_0 : fSB 145 [0] 2 0 f_145_0 := by
  unfold f_145_0
  refine fo_aload_n (k := 0) (fa_145 rfl) ?_
  refine fo_iconst (fa_145 rfl) fk_c_2 ?_
  refine fo_iload_n (k := 1) (fa_145 rfl) ?_
  refine fo_virtual (by decide) fna_146 (fo_call (fa_145 rfl) fNs_virtual fsm_146 (by decide) fFil_1 fna_146 fx_146 (by rw [fP_146]; rfl) fh_145 ?_)
  refine fo_aload_n (k := 0) (fa_145 rfl) ?_
  refine fo_getr (fa_145 rfl) (by decide) rfl ?_
  refine fo_iload_n (k := 1) (fa_145 rfl) ?_
  refine fo_aaload (fa_145 rfl) (by decide) (by decide) ?_
  refine fo_aload_n (k := 0) (fa_145 rfl) ?_
  refine fo_getr (fa_145 rfl) (by decide) rfl ?_
  refine fo_virtual (by decide) fna_52 (fo_call (fa_145 rfl) fNs_virtual fsm_52 (by decide) fFil_0 fna_52 fx_52 (by rw [fP_52]; rfl) fh_145 ?_)
  refine fo_aload_n (k := 0) (fa_145 rfl) ?_
  refine fo_getr (fa_145 rfl) (by decide) rfl ?_
  refine fo_geti (fa_145 rfl) (by decide) rfl ?_
  exact fo_iret (fa_145 rfl) fr_145 fw_int
theorem fsm_145 : fSM 145 2 fm_145 := fs_methH (lp := [0]) (by decide) rfl ⟨fs_145_0, trivial⟩
theorem fP_116 : mj_P 116 = (7, 3, (some .int), mcX7_doubled, []) := rfl
theorem fa_116 {pc : Nat} {e : mjE} (h : mj_at mcX7_doubled pc = some e) : fAt 116 pc e := by unfold fAt; rw [fP_116]; exact h
theorem fr_116 : (mj_P 116).2.2.1 = (some .int) := by rw [fP_116]
theorem fna_116 : (mj_P 116).2.1 = 3 := by rw [fP_116]
theorem fx_116 : 3 ≤ mj_mx.getD 116 0 := by decide
theorem fh_116 : (mj_P 116).2.2.2.2.isEmpty = true := by rw [fP_116]; rfl
theorem fs_116_21 : fSB 116 [0] 3 21 f_116_21 := by
  unfold f_116_21
  refine fo_aload_n (k := 0) (fa_116 rfl) ?_
  refine fo_getr (fa_116 rfl) (by decide) rfl ?_
  refine fo_iload_n (k := 2) (fa_116 rfl) ?_
  refine fo_virtual (by decide) fna_58 (fo_call (fa_116 rfl) fNs_virtual fsm_58 (by decide) fFil_3 fna_58 fx_58 (by rw [fP_58]; rfl) fh_116 ?_)
  refine fo_aload_n (k := 0) (fa_116 rfl) ?_
  refine fo_iload_n (k := 1) (fa_116 rfl) ?_
  refine fo_virtual (by decide) fna_145 (fo_call (fa_116 rfl) fNs_virtual fsm_145 (by decide) fFil_0 fna_145 fx_145 (by rw [fP_145]; rfl) fh_116 ?_)
  exact fo_iret (fa_116 rfl) fr_116 fw_int
theorem fs_116_13 : fSB 116 [0] 3 13 f_116_13 := by
  unfold f_116_13
  exact fo_throw (fa_116 rfl) fh_116
theorem fs_116_0 : fSB 116 [0] 3 0 f_116_0 := by
  unfold f_116_0
  refine fo_iload_n (k := 1) (fa_116 rfl) ?_
  refine fo_static (by decide) (fo_call (fa_116 rfl) fNs_static fsm_137 (by decide) fFil_0 fna_137 fx_137 (by rw [fP_137]; rfl) fh_116 ?_)
  refine fo_iload_n (k := 2) (fa_116 rfl) ?_
  refine fo_if_lt (fa_116 rfl) (pcT := 13) rfl fs_116_13 ?_
  refine fo_iload_n (k := 2) (fa_116 rfl) ?_
  refine fo_iconst (fa_116 rfl) fk_c_4 ?_
  refine fo_icmp_le (fa_116 rfl) (pcT := 21) rfl fs_116_21 ?_
  exact fs_116_13
theorem fsm_116 : fSM 116 3 fm_116 := fs_methH (lp := [0]) (by decide) rfl ⟨fs_116_0, trivial⟩
