theorem fP_192 : mj_P 192 = (8, 3, (some .int), mcX8_affine, []) := rfl
theorem fa_192 {pc : Nat} {e : mjE} (h : mj_at mcX8_affine pc = some e) : fAt 192 pc e := by unfold fAt; rw [fP_192]; exact h
theorem fr_192 : (mj_P 192).2.2.1 = (some .int) := by rw [fP_192]
theorem fna_192 : (mj_P 192).2.1 = 3 := by rw [fP_192]
theorem fx_192 : 3 ≤ mj_mx.getD 192 0 := by decide
theorem fh_192 : (mj_P 192).2.2.2.2.isEmpty = true := by rw [fP_192]; rfl
theorem fs_192_54 : fSB 192 [0] 3 54 f_192_54 := by
  unfold f_192_54
  exact fo_iret (fa_192 rfl) fr_192 fw_int
theorem fs_192_44 : fSB 192 [0] 3 44 f_192_44 := by
  unfold f_192_44
  refine fo_aload_n (k := 0) (fa_192 rfl) ?_
  refine fo_iload_n (k := 1) (fa_192 rfl) ?_
  refine fo_iload_n (k := 2) (fa_192 rfl) ?_
  refine fo_iconst (fa_192 rfl) fk_c_0 ?_
  refine fo_static (by decide) (fo_call (fa_192 rfl) fNs_static fsm_191 (by decide) fFil_8 fna_191 fx_191 (by rw [fP_191]; rfl) fh_192 ?_)
  refine fo_virtual (by decide) fna_181 (fo_call (fa_192 rfl) fNs_virtual fsm_181 (by decide) fFil_0 fna_181 fx_181 (by rw [fP_181]; rfl) fh_192 ?_)
  exact fs_192_54
theorem fs_192_32 : fSB 192 [0] 3 32 f_192_32 := by
  unfold f_192_32
  refine fo_iconst (fa_192 rfl) fk_c_0 ?_
  refine fo_iconst (fa_192 rfl) fk_c_0 ?_
  refine fo_virtual (by decide) fna_171 (fo_call (fa_192 rfl) fNs_virtual fsm_171 (by decide) fFil_0 fna_171 fx_171 (by rw [fP_171]; rfl) fh_192 ?_)
  refine fo_if_eq (fa_192 rfl) (pcT := 44) rfl fs_192_44 ?_
  refine fo_iconst (fa_192 rfl) fk_c_0 ?_
  exact fo_goto (fa_192 rfl) (pcT := 54) rfl fs_192_54
theorem fs_192_31 : fSB 192 [0] 3 31 f_192_31 := by
  unfold f_192_31
  refine fo_iconst (fa_192 rfl) fk_c_0 ?_
  exact fs_192_32
theorem fs_192_13 : fSB 192 [0] 3 13 f_192_13 := by
  unfold f_192_13
  refine fo_iload_n (k := 2) (fa_192 rfl) ?_
  refine fo_i2l (fa_192 rfl) ?_
  refine fo_ldc2 (fa_192 rfl) ?_
  refine fo_ldc2 (fa_192 rfl) ?_
  refine fo_static (by decide) (fo_call (fa_192 rfl) fNs_static fsm_172 (by decide) fFil_0 fna_172 fx_172 (by rw [fP_172]; rfl) fh_192 ?_)
  refine fo_if_ne (fa_192 rfl) (pcT := 31) rfl fs_192_31 ?_
  refine fo_iconst (fa_192 rfl) fk_c_1 ?_
  exact fo_goto (fa_192 rfl) (pcT := 32) rfl fs_192_32
theorem fs_192_12 : fSB 192 [0] 3 12 f_192_12 := by
  unfold f_192_12
  refine fo_iconst (fa_192 rfl) fk_c_0 ?_
  exact fs_192_13
theorem fs_192_0 : fSB 192 [0] 3 0 f_192_0 := by
  unfold f_192_0
  refine fo_aload_n (k := 0) (fa_192 rfl) ?_
  refine fo_iload_n (k := 1) (fa_192 rfl) ?_
  refine fo_static (by decide) (fo_call (fa_192 rfl) fNs_static fsm_173 (by decide) fFil_0 fna_173 fx_173 (by rw [fP_173]; rfl) fh_192 ?_)
  refine fo_if_ne (fa_192 rfl) (pcT := 12) rfl fs_192_12 ?_
  refine fo_iconst (fa_192 rfl) fk_c_1 ?_
  exact fo_goto (fa_192 rfl) (pcT := 13) rfl fs_192_13
theorem fsm_192 : fSM 192 3 fm_192 := fs_methH (lp := [0]) (by decide) rfl ⟨fs_192_0, trivial⟩
theorem fP_193 : mj_P 193 = (8, 3, (some .int), mcX8_projective, []) := rfl
theorem fa_193 {pc : Nat} {e : mjE} (h : mj_at mcX8_projective pc = some e) : fAt 193 pc e := by unfold fAt; rw [fP_193]; exact h
theorem fr_193 : (mj_P 193).2.2.1 = (some .int) := by rw [fP_193]
theorem fna_193 : (mj_P 193).2.1 = 3 := by rw [fP_193]
theorem fx_193 : 3 ≤ mj_mx.getD 193 0 := by decide
theorem fh_193 : (mj_P 193).2.2.2.2.isEmpty = true := by rw [fP_193]; rfl
theorem fs_193_54 : fSB 193 [0] 3 54 f_193_54 := by
  unfold f_193_54
  exact fo_iret (fa_193 rfl) fr_193 fw_int
theorem fs_193_44 : fSB 193 [0] 3 44 f_193_44 := by
  unfold f_193_44
  refine fo_aload_n (k := 0) (fa_193 rfl) ?_
  refine fo_iload_n (k := 1) (fa_193 rfl) ?_
  refine fo_iload_n (k := 2) (fa_193 rfl) ?_
  refine fo_iconst (fa_193 rfl) fk_c_1 ?_
  refine fo_static (by decide) (fo_call (fa_193 rfl) fNs_static fsm_191 (by decide) fFil_8 fna_191 fx_191 (by rw [fP_191]; rfl) fh_193 ?_)
  refine fo_virtual (by decide) fna_181 (fo_call (fa_193 rfl) fNs_virtual fsm_181 (by decide) fFil_0 fna_181 fx_181 (by rw [fP_181]; rfl) fh_193 ?_)
  exact fs_193_54
theorem fs_193_32 : fSB 193 [0] 3 32 f_193_32 := by
  unfold f_193_32
  refine fo_iconst (fa_193 rfl) fk_c_0 ?_
  refine fo_iconst (fa_193 rfl) fk_c_0 ?_
  refine fo_virtual (by decide) fna_171 (fo_call (fa_193 rfl) fNs_virtual fsm_171 (by decide) fFil_0 fna_171 fx_171 (by rw [fP_171]; rfl) fh_193 ?_)
  refine fo_if_eq (fa_193 rfl) (pcT := 44) rfl fs_193_44 ?_
  refine fo_iconst (fa_193 rfl) fk_c_0 ?_
  exact fo_goto (fa_193 rfl) (pcT := 54) rfl fs_193_54
theorem fs_193_31 : fSB 193 [0] 3 31 f_193_31 := by
  unfold f_193_31
  refine fo_iconst (fa_193 rfl) fk_c_0 ?_
  exact fs_193_32
theorem fs_193_13 : fSB 193 [0] 3 13 f_193_13 := by
  unfold f_193_13
  refine fo_iload_n (k := 2) (fa_193 rfl) ?_
  refine fo_i2l (fa_193 rfl) ?_
  refine fo_ldc2 (fa_193 rfl) ?_
  refine fo_ldc2 (fa_193 rfl) ?_
  refine fo_static (by decide) (fo_call (fa_193 rfl) fNs_static fsm_172 (by decide) fFil_0 fna_172 fx_172 (by rw [fP_172]; rfl) fh_193 ?_)
  refine fo_if_ne (fa_193 rfl) (pcT := 31) rfl fs_193_31 ?_
  refine fo_iconst (fa_193 rfl) fk_c_1 ?_
  exact fo_goto (fa_193 rfl) (pcT := 32) rfl fs_193_32
theorem fs_193_12 : fSB 193 [0] 3 12 f_193_12 := by
  unfold f_193_12
  refine fo_iconst (fa_193 rfl) fk_c_0 ?_
  exact fs_193_13
theorem fs_193_0 : fSB 193 [0] 3 0 f_193_0 := by
  unfold f_193_0
  refine fo_aload_n (k := 0) (fa_193 rfl) ?_
  refine fo_iload_n (k := 1) (fa_193 rfl) ?_
  refine fo_static (by decide) (fo_call (fa_193 rfl) fNs_static fsm_173 (by decide) fFil_0 fna_173 fx_173 (by rw [fP_173]; rfl) fh_193 ?_)
  refine fo_if_ne (fa_193 rfl) (pcT := 12) rfl fs_193_12 ?_
  refine fo_iconst (fa_193 rfl) fk_c_1 ?_
  exact fo_goto (fa_193 rfl) (pcT := 13) rfl fs_193_13
theorem fsm_193 : fSM 193 3 fm_193 := fs_methH (lp := [0]) (by decide) rfl ⟨fs_193_0, trivial⟩
theorem fP_194 : mj_P 194 = (8, 3, (some .int), mcX8_bose, []) := rfl
theorem fa_194 {pc : Nat} {e : mjE} (h : mj_at mcX8_bose pc = some e) : fAt 194 pc e := by unfold fAt; rw [fP_194]; exact h
theorem fr_194 : (mj_P 194).2.2.1 = (some .int) := by rw [fP_194]
theorem fna_194 : (mj_P 194).2.1 = 3 := by rw [fP_194]
theorem fx_194 : 3 ≤ mj_mx.getD 194 0 := by decide
theorem fh_194 : (mj_P 194).2.2.2.2.isEmpty = true := by rw [fP_194]; rfl
theorem fs_194_214 : fSB 194 [0, 76, 119, 131, 140] 3 214 f_194_214 := by
  unfold f_194_214
  refine fo_aload_n (k := 0) (fa_194 rfl) ?_
  refine fo_iload_n (k := 1) (fa_194 rfl) ?_
  refine fo_aload (k := 4) (fa_194 rfl) ?_
  refine fo_virtual (by decide) fna_181 (fo_call (fa_194 rfl) fNs_virtual fsm_181 (by decide) fFil_0 fna_181 fx_181 (by rw [fP_181]; rfl) fh_194 ?_)
  exact fo_iret (fa_194 rfl) fr_194 fw_int
theorem fs_194_208 : fSB 194 [0, 76, 119, 131, 140] 3 208 f_194_208 := by
  unfold f_194_208
  refine fo_iinc (k := 6) (fa_194 rfl) fk_c_1 ?_
  exact fo_goto (fa_194 rfl) (pcT := 119) rfl (fo_back (q := 119) rfl)
theorem fs_194_202 : fSB 194 [0, 76, 119, 131, 140] 3 202 f_194_202 := by
  unfold f_194_202
  refine fo_iinc (k := 7) (fa_194 rfl) fk_c_1 ?_
  exact fo_goto (fa_194 rfl) (pcT := 131) rfl (fo_back (q := 131) rfl)
theorem fs_194_140 : fSB 194 [0, 76, 119, 131, 140] 3 140 f_194_140 := by
  unfold f_194_140
  refine fo_iload (k := 8) (fa_194 rfl) ?_
  refine fo_iconst (fa_194 rfl) fk_c_3 ?_
  refine fo_icmp_ge (fa_194 rfl) (pcT := 202) rfl fs_194_202 ?_
  refine fo_aload (k := 4) (fa_194 rfl) ?_
  refine fo_iload (k := 5) (fa_194 rfl) ?_
  refine fo_iconst (fa_194 rfl) fk_c_1 ?_
  refine fo_iload_n (k := 3) (fa_194 rfl) ?_
  refine fo_iload (k := 8) (fa_194 rfl) ?_
  refine fo_imul (fa_194 rfl) ?_
  refine fo_iload (k := 6) (fa_194 rfl) ?_
  refine fo_iadd (fa_194 rfl) ?_
  refine fo_ishl (fa_194 rfl) ?_
  refine fo_iconst (fa_194 rfl) fk_c_1 ?_
  refine fo_iload_n (k := 3) (fa_194 rfl) ?_
  refine fo_iload (k := 8) (fa_194 rfl) ?_
  refine fo_imul (fa_194 rfl) ?_
  refine fo_iload (k := 7) (fa_194 rfl) ?_
  refine fo_iadd (fa_194 rfl) ?_
  refine fo_ishl (fa_194 rfl) ?_
  refine fo_ior (fa_194 rfl) ?_
  refine fo_iconst (fa_194 rfl) fk_c_1 ?_
  refine fo_iload_n (k := 3) (fa_194 rfl) ?_
  refine fo_iload (k := 8) (fa_194 rfl) ?_
  refine fo_iconst (fa_194 rfl) fk_c_1 ?_
  refine fo_iadd (fa_194 rfl) ?_
  refine fo_iconst (fa_194 rfl) fk_c_3 ?_
  refine fo_irem (fa_194 rfl) ?_
  refine fo_imul (fa_194 rfl) ?_
  refine fo_iload (k := 6) (fa_194 rfl) ?_
  refine fo_iload (k := 7) (fa_194 rfl) ?_
  refine fo_iadd (fa_194 rfl) ?_
  refine fo_iload_n (k := 2) (fa_194 rfl) ?_
  refine fo_iconst (fa_194 rfl) fk_c_1 ?_
  refine fo_iadd (fa_194 rfl) ?_
  refine fo_imul (fa_194 rfl) ?_
  refine fo_iload_n (k := 3) (fa_194 rfl) ?_
  refine fo_irem (fa_194 rfl) ?_
  refine fo_iadd (fa_194 rfl) ?_
  refine fo_ishl (fa_194 rfl) ?_
  refine fo_ior (fa_194 rfl) ?_
  refine fo_iastore (fa_194 rfl) ?_
  refine fo_iinc (k := 5) (fa_194 rfl) fk_c_1 ?_
  refine fo_iinc (k := 8) (fa_194 rfl) fk_c_1 ?_
  exact fo_goto (fa_194 rfl) (pcT := 140) rfl (fo_back (q := 140) rfl)
theorem fs_194_131 : fSB 194 [0, 76, 119, 131, 140] 3 131 f_194_131 := by
  unfold f_194_131
  refine fo_iload (k := 7) (fa_194 rfl) ?_
  refine fo_iload_n (k := 3) (fa_194 rfl) ?_
  refine fo_icmp_ge (fa_194 rfl) (pcT := 208) rfl fs_194_208 ?_
  refine fo_iconst (fa_194 rfl) fk_c_0 ?_
  refine fo_istore (k := 8) (fa_194 rfl) ?_
  exact fs_194_140
theorem fs_194_119 : fSB 194 [0, 76, 119, 131, 140] 3 119 f_194_119 := by
  unfold f_194_119
  refine fo_iload (k := 6) (fa_194 rfl) ?_
  refine fo_iload_n (k := 3) (fa_194 rfl) ?_
  refine fo_icmp_ge (fa_194 rfl) (pcT := 214) rfl fs_194_214 ?_
  refine fo_iload (k := 6) (fa_194 rfl) ?_
  refine fo_iconst (fa_194 rfl) fk_c_1 ?_
  refine fo_iadd (fa_194 rfl) ?_
  refine fo_istore (k := 7) (fa_194 rfl) ?_
  exact fs_194_131
theorem fs_194_116 : fSB 194 [0, 76, 119, 131, 140] 3 116 f_194_116 := by
  unfold f_194_116
  refine fo_iconst (fa_194 rfl) fk_c_0 ?_
  refine fo_istore (k := 6) (fa_194 rfl) ?_
  exact fs_194_119
theorem fs_194_76 : fSB 194 [0, 76, 119, 131, 140] 3 76 f_194_76 := by
  unfold f_194_76
  refine fo_iload (k := 6) (fa_194 rfl) ?_
  refine fo_iload_n (k := 3) (fa_194 rfl) ?_
  refine fo_icmp_ge (fa_194 rfl) (pcT := 116) rfl fs_194_116 ?_
  refine fo_aload (k := 4) (fa_194 rfl) ?_
  refine fo_iload (k := 5) (fa_194 rfl) ?_
  refine fo_iconst (fa_194 rfl) fk_c_1 ?_
  refine fo_iload (k := 6) (fa_194 rfl) ?_
  refine fo_ishl (fa_194 rfl) ?_
  refine fo_iconst (fa_194 rfl) fk_c_1 ?_
  refine fo_iload_n (k := 3) (fa_194 rfl) ?_
  refine fo_iload (k := 6) (fa_194 rfl) ?_
  refine fo_iadd (fa_194 rfl) ?_
  refine fo_ishl (fa_194 rfl) ?_
  refine fo_ior (fa_194 rfl) ?_
  refine fo_iconst (fa_194 rfl) fk_c_1 ?_
  refine fo_iconst (fa_194 rfl) fk_c_2 ?_
  refine fo_iload_n (k := 3) (fa_194 rfl) ?_
  refine fo_imul (fa_194 rfl) ?_
  refine fo_iload (k := 6) (fa_194 rfl) ?_
  refine fo_iadd (fa_194 rfl) ?_
  refine fo_ishl (fa_194 rfl) ?_
  refine fo_ior (fa_194 rfl) ?_
  refine fo_iastore (fa_194 rfl) ?_
  refine fo_iinc (k := 5) (fa_194 rfl) fk_c_1 ?_
  refine fo_iinc (k := 6) (fa_194 rfl) fk_c_1 ?_
  exact fo_goto (fa_194 rfl) (pcT := 76) rfl (fo_back (q := 76) rfl)
theorem fs_194_40 : fSB 194 [0, 76, 119, 131, 140] 3 40 f_194_40 := by
  unfold f_194_40
  refine fo_iconst (fa_194 rfl) fk_c_2 ?_
  refine fo_iload_n (k := 2) (fa_194 rfl) ?_
  refine fo_imul (fa_194 rfl) ?_
  refine fo_iconst (fa_194 rfl) fk_c_1 ?_
  refine fo_iadd (fa_194 rfl) ?_
  refine fo_istore_n (k := 3) (fa_194 rfl) ?_
  refine fo_iconst (fa_194 rfl) fk_c_1 ?_
  refine fo_iload_n (k := 3) (fa_194 rfl) ?_
  refine fo_iadd (fa_194 rfl) ?_
  refine fo_iconst (fa_194 rfl) fk_c_3 ?_
  refine fo_iload_n (k := 3) (fa_194 rfl) ?_
  refine fo_imul (fa_194 rfl) ?_
  refine fo_iload_n (k := 3) (fa_194 rfl) ?_
  refine fo_iconst (fa_194 rfl) fk_c_1 ?_
  refine fo_isub (fa_194 rfl) ?_
  refine fo_imul (fa_194 rfl) ?_
  refine fo_iconst (fa_194 rfl) fk_c_2 ?_
  refine fo_idiv (fa_194 rfl) ?_
  refine fo_iadd (fa_194 rfl) ?_
  refine fo_newarray (fa_194 rfl) rfl (by decide) (by decide) fel_20 ?_
  refine fo_astore (k := 4) (fa_194 rfl) ?_
  refine fo_aload (k := 4) (fa_194 rfl) ?_
  refine fo_iconst (fa_194 rfl) fk_c_0 ?_
  refine fo_iconst (fa_194 rfl) fk_c_3 ?_
  refine fo_iload_n (k := 3) (fa_194 rfl) ?_
  refine fo_imul (fa_194 rfl) ?_
  refine fo_iastore (fa_194 rfl) ?_
  refine fo_iconst (fa_194 rfl) fk_c_1 ?_
  refine fo_istore (k := 5) (fa_194 rfl) ?_
  refine fo_iconst (fa_194 rfl) fk_c_0 ?_
  refine fo_istore (k := 6) (fa_194 rfl) ?_
  exact fs_194_76
theorem fs_194_30 : fSB 194 [0, 76, 119, 131, 140] 3 30 f_194_30 := by
  unfold f_194_30
  refine fo_iconst (fa_194 rfl) fk_c_0 ?_
  refine fo_iconst (fa_194 rfl) fk_c_0 ?_
  refine fo_virtual (by decide) fna_171 (fo_call (fa_194 rfl) fNs_virtual fsm_171 (by decide) fFil_0 fna_171 fx_171 (by rw [fP_171]; rfl) fh_194 ?_)
  refine fo_if_eq (fa_194 rfl) (pcT := 40) rfl fs_194_40 ?_
  refine fo_iconst (fa_194 rfl) fk_c_0 ?_
  exact fo_iret (fa_194 rfl) fr_194 fw_int
theorem fs_194_29 : fSB 194 [0, 76, 119, 131, 140] 3 29 f_194_29 := by
  unfold f_194_29
  refine fo_iconst (fa_194 rfl) fk_c_0 ?_
  exact fs_194_30
theorem fs_194_13 : fSB 194 [0, 76, 119, 131, 140] 3 13 f_194_13 := by
  unfold f_194_13
  refine fo_iload_n (k := 2) (fa_194 rfl) ?_
  refine fo_i2l (fa_194 rfl) ?_
  refine fo_lconst (fa_194 rfl) rfl ?_
  refine fo_ldc2 (fa_194 rfl) ?_
  refine fo_static (by decide) (fo_call (fa_194 rfl) fNs_static fsm_172 (by decide) fFil_0 fna_172 fx_172 (by rw [fP_172]; rfl) fh_194 ?_)
  refine fo_if_ne (fa_194 rfl) (pcT := 29) rfl fs_194_29 ?_
  refine fo_iconst (fa_194 rfl) fk_c_1 ?_
  exact fo_goto (fa_194 rfl) (pcT := 30) rfl fs_194_30
theorem fs_194_12 : fSB 194 [0, 76, 119, 131, 140] 3 12 f_194_12 := by
  unfold f_194_12
  refine fo_iconst (fa_194 rfl) fk_c_0 ?_
  exact fs_194_13
theorem fs_194_0 : fSB 194 [0, 76, 119, 131, 140] 3 0 f_194_0 := by
  unfold f_194_0
  refine fo_aload_n (k := 0) (fa_194 rfl) ?_
  refine fo_iload_n (k := 1) (fa_194 rfl) ?_
  refine fo_static (by decide) (fo_call (fa_194 rfl) fNs_static fsm_173 (by decide) fFil_0 fna_173 fx_173 (by rw [fP_173]; rfl) fh_194 ?_)
  refine fo_if_ne (fa_194 rfl) (pcT := 12) rfl fs_194_12 ?_
  refine fo_iconst (fa_194 rfl) fk_c_1 ?_
  exact fo_goto (fa_194 rfl) (pcT := 13) rfl fs_194_13
theorem fsm_194 : fSM 194 3 fm_194 := fs_methH (lp := [0, 76, 119, 131, 140]) (by decide) rfl ⟨fs_194_0, fs_194_76, fs_194_119, fs_194_131, fs_194_140, trivial⟩
theorem fP_195 : mj_P 195 = (8, 3, (some .int), mcX8_skolem, []) := rfl
theorem fa_195 {pc : Nat} {e : mjE} (h : mj_at mcX8_skolem pc = some e) : fAt 195 pc e := by unfold fAt; rw [fP_195]; exact h
theorem fr_195 : (mj_P 195).2.2.1 = (some .int) := by rw [fP_195]
theorem fna_195 : (mj_P 195).2.1 = 3 := by rw [fP_195]
theorem fx_195 : 3 ≤ mj_mx.getD 195 0 := by decide
theorem fh_195 : (mj_P 195).2.2.2.2.isEmpty = true := by rw [fP_195]; rfl
theorem fs_195_311 : fSB 195 [0, 79, 122, 131, 192, 204, 246] 3 311 f_195_311 := by
  unfold f_195_311
  refine fo_aload_n (k := 0) (fa_195 rfl) ?_
  refine fo_iload_n (k := 1) (fa_195 rfl) ?_
  refine fo_aload (k := 4) (fa_195 rfl) ?_
  refine fo_virtual (by decide) fna_181 (fo_call (fa_195 rfl) fNs_virtual fsm_181 (by decide) fFil_0 fna_181 fx_181 (by rw [fP_181]; rfl) fh_195 ?_)
  exact fo_iret (fa_195 rfl) fr_195 fw_int
theorem fs_195_305 : fSB 195 [0, 79, 122, 131, 192, 204, 246] 3 305 f_195_305 := by
  unfold f_195_305
  refine fo_iinc (k := 6) (fa_195 rfl) fk_c_1 ?_
  exact fo_goto (fa_195 rfl) (pcT := 192) rfl (fo_back (q := 192) rfl)
theorem fs_195_299 : fSB 195 [0, 79, 122, 131, 192, 204, 246] 3 299 f_195_299 := by
  unfold f_195_299
  refine fo_iinc (k := 7) (fa_195 rfl) fk_c_1 ?_
  exact fo_goto (fa_195 rfl) (pcT := 204) rfl (fo_back (q := 204) rfl)
theorem fs_195_246 : fSB 195 [0, 79, 122, 131, 192, 204, 246] 3 246 f_195_246 := by
  unfold f_195_246
  refine fo_iload (k := 10) (fa_195 rfl) ?_
  refine fo_iconst (fa_195 rfl) fk_c_3 ?_
  refine fo_icmp_ge (fa_195 rfl) (pcT := 299) rfl fs_195_299 ?_
  refine fo_aload (k := 4) (fa_195 rfl) ?_
  refine fo_iload (k := 5) (fa_195 rfl) ?_
  refine fo_iconst (fa_195 rfl) fk_c_1 ?_
  refine fo_iload_n (k := 3) (fa_195 rfl) ?_
  refine fo_iload (k := 10) (fa_195 rfl) ?_
  refine fo_imul (fa_195 rfl) ?_
  refine fo_iload (k := 6) (fa_195 rfl) ?_
  refine fo_iadd (fa_195 rfl) ?_
  refine fo_ishl (fa_195 rfl) ?_
  refine fo_iconst (fa_195 rfl) fk_c_1 ?_
  refine fo_iload_n (k := 3) (fa_195 rfl) ?_
  refine fo_iload (k := 10) (fa_195 rfl) ?_
  refine fo_imul (fa_195 rfl) ?_
  refine fo_iload (k := 7) (fa_195 rfl) ?_
  refine fo_iadd (fa_195 rfl) ?_
  refine fo_ishl (fa_195 rfl) ?_
  refine fo_ior (fa_195 rfl) ?_
  refine fo_iconst (fa_195 rfl) fk_c_1 ?_
  refine fo_iload_n (k := 3) (fa_195 rfl) ?_
  refine fo_iload (k := 10) (fa_195 rfl) ?_
  refine fo_iconst (fa_195 rfl) fk_c_1 ?_
  refine fo_iadd (fa_195 rfl) ?_
  refine fo_iconst (fa_195 rfl) fk_c_3 ?_
  refine fo_irem (fa_195 rfl) ?_
  refine fo_imul (fa_195 rfl) ?_
  refine fo_iload (k := 9) (fa_195 rfl) ?_
  refine fo_iadd (fa_195 rfl) ?_
  refine fo_ishl (fa_195 rfl) ?_
  refine fo_ior (fa_195 rfl) ?_
  refine fo_iastore (fa_195 rfl) ?_
  refine fo_iinc (k := 5) (fa_195 rfl) fk_c_1 ?_
  refine fo_iinc (k := 10) (fa_195 rfl) fk_c_1 ?_
  exact fo_goto (fa_195 rfl) (pcT := 246) rfl (fo_back (q := 246) rfl)
theorem fs_195_241 : fSB 195 [0, 79, 122, 131, 192, 204, 246] 3 241 f_195_241 := by
  unfold f_195_241
  refine fo_istore (k := 9) (fa_195 rfl) ?_
  refine fo_iconst (fa_195 rfl) fk_c_0 ?_
  refine fo_istore (k := 10) (fa_195 rfl) ?_
  exact fs_195_246
theorem fs_195_233 : fSB 195 [0, 79, 122, 131, 192, 204, 246] 3 233 f_195_233 := by
  unfold f_195_233
  refine fo_iload (k := 8) (fa_195 rfl) ?_
  refine fo_iload_n (k := 3) (fa_195 rfl) ?_
  refine fo_iadd (fa_195 rfl) ?_
  refine fo_iconst (fa_195 rfl) fk_c_1 ?_
  refine fo_isub (fa_195 rfl) ?_
  refine fo_iconst (fa_195 rfl) fk_c_2 ?_
  refine fo_idiv (fa_195 rfl) ?_
  exact fs_195_241
theorem fs_195_204 : fSB 195 [0, 79, 122, 131, 192, 204, 246] 3 204 f_195_204 := by
  unfold f_195_204
  refine fo_iload (k := 7) (fa_195 rfl) ?_
  refine fo_iload_n (k := 3) (fa_195 rfl) ?_
  refine fo_icmp_ge (fa_195 rfl) (pcT := 305) rfl fs_195_305 ?_
  refine fo_iload (k := 6) (fa_195 rfl) ?_
  refine fo_iload (k := 7) (fa_195 rfl) ?_
  refine fo_iadd (fa_195 rfl) ?_
  refine fo_iload_n (k := 3) (fa_195 rfl) ?_
  refine fo_irem (fa_195 rfl) ?_
  refine fo_istore (k := 8) (fa_195 rfl) ?_
  refine fo_iload (k := 8) (fa_195 rfl) ?_
  refine fo_iconst (fa_195 rfl) fk_c_2 ?_
  refine fo_irem (fa_195 rfl) ?_
  refine fo_if_ne (fa_195 rfl) (pcT := 233) rfl fs_195_233 ?_
  refine fo_iload (k := 8) (fa_195 rfl) ?_
  refine fo_iconst (fa_195 rfl) fk_c_2 ?_
  refine fo_idiv (fa_195 rfl) ?_
  exact fo_goto (fa_195 rfl) (pcT := 241) rfl fs_195_241
theorem fs_195_192 : fSB 195 [0, 79, 122, 131, 192, 204, 246] 3 192 f_195_192 := by
  unfold f_195_192
  refine fo_iload (k := 6) (fa_195 rfl) ?_
  refine fo_iload_n (k := 3) (fa_195 rfl) ?_
  refine fo_icmp_ge (fa_195 rfl) (pcT := 311) rfl fs_195_311 ?_
  refine fo_iload (k := 6) (fa_195 rfl) ?_
  refine fo_iconst (fa_195 rfl) fk_c_1 ?_
  refine fo_iadd (fa_195 rfl) ?_
  refine fo_istore (k := 7) (fa_195 rfl) ?_
  exact fs_195_204
theorem fs_195_189 : fSB 195 [0, 79, 122, 131, 192, 204, 246] 3 189 f_195_189 := by
  unfold f_195_189
  refine fo_iconst (fa_195 rfl) fk_c_0 ?_
  refine fo_istore (k := 6) (fa_195 rfl) ?_
  exact fs_195_192
theorem fs_195_183 : fSB 195 [0, 79, 122, 131, 192, 204, 246] 3 183 f_195_183 := by
  unfold f_195_183
  refine fo_iinc (k := 6) (fa_195 rfl) fk_c_1 ?_
  exact fo_goto (fa_195 rfl) (pcT := 122) rfl (fo_back (q := 122) rfl)
theorem fs_195_131 : fSB 195 [0, 79, 122, 131, 192, 204, 246] 3 131 f_195_131 := by
  unfold f_195_131
  refine fo_iload (k := 7) (fa_195 rfl) ?_
  refine fo_iconst (fa_195 rfl) fk_c_3 ?_
  refine fo_icmp_ge (fa_195 rfl) (pcT := 183) rfl fs_195_183 ?_
  refine fo_aload (k := 4) (fa_195 rfl) ?_
  refine fo_iload (k := 5) (fa_195 rfl) ?_
  refine fo_iconst (fa_195 rfl) fk_c_1 ?_
  refine fo_bipush (fa_195 rfl) fk_b_6 ?_
  refine fo_iload_n (k := 2) (fa_195 rfl) ?_
  refine fo_imul (fa_195 rfl) ?_
  refine fo_ishl (fa_195 rfl) ?_
  refine fo_iconst (fa_195 rfl) fk_c_1 ?_
  refine fo_iload_n (k := 3) (fa_195 rfl) ?_
  refine fo_iload (k := 7) (fa_195 rfl) ?_
  refine fo_imul (fa_195 rfl) ?_
  refine fo_iload_n (k := 2) (fa_195 rfl) ?_
  refine fo_iadd (fa_195 rfl) ?_
  refine fo_iload (k := 6) (fa_195 rfl) ?_
  refine fo_iadd (fa_195 rfl) ?_
  refine fo_ishl (fa_195 rfl) ?_
  refine fo_ior (fa_195 rfl) ?_
  refine fo_iconst (fa_195 rfl) fk_c_1 ?_
  refine fo_iload_n (k := 3) (fa_195 rfl) ?_
  refine fo_iload (k := 7) (fa_195 rfl) ?_
  refine fo_iconst (fa_195 rfl) fk_c_1 ?_
  refine fo_iadd (fa_195 rfl) ?_
  refine fo_iconst (fa_195 rfl) fk_c_3 ?_
  refine fo_irem (fa_195 rfl) ?_
  refine fo_imul (fa_195 rfl) ?_
  refine fo_iload (k := 6) (fa_195 rfl) ?_
  refine fo_iadd (fa_195 rfl) ?_
  refine fo_ishl (fa_195 rfl) ?_
  refine fo_ior (fa_195 rfl) ?_
  refine fo_iastore (fa_195 rfl) ?_
  refine fo_iinc (k := 5) (fa_195 rfl) fk_c_1 ?_
  refine fo_iinc (k := 7) (fa_195 rfl) fk_c_1 ?_
  exact fo_goto (fa_195 rfl) (pcT := 131) rfl (fo_back (q := 131) rfl)
theorem fs_195_122 : fSB 195 [0, 79, 122, 131, 192, 204, 246] 3 122 f_195_122 := by
  unfold f_195_122
  refine fo_iload (k := 6) (fa_195 rfl) ?_
  refine fo_iload_n (k := 2) (fa_195 rfl) ?_
  refine fo_icmp_ge (fa_195 rfl) (pcT := 189) rfl fs_195_189 ?_
  refine fo_iconst (fa_195 rfl) fk_c_0 ?_
  refine fo_istore (k := 7) (fa_195 rfl) ?_
  exact fs_195_131
theorem fs_195_119 : fSB 195 [0, 79, 122, 131, 192, 204, 246] 3 119 f_195_119 := by
  unfold f_195_119
  refine fo_iconst (fa_195 rfl) fk_c_0 ?_
  refine fo_istore (k := 6) (fa_195 rfl) ?_
  exact fs_195_122
theorem fs_195_79 : fSB 195 [0, 79, 122, 131, 192, 204, 246] 3 79 f_195_79 := by
  unfold f_195_79
  refine fo_iload (k := 6) (fa_195 rfl) ?_
  refine fo_iload_n (k := 2) (fa_195 rfl) ?_
  refine fo_icmp_ge (fa_195 rfl) (pcT := 119) rfl fs_195_119 ?_
  refine fo_aload (k := 4) (fa_195 rfl) ?_
  refine fo_iload (k := 5) (fa_195 rfl) ?_
  refine fo_iconst (fa_195 rfl) fk_c_1 ?_
  refine fo_iload (k := 6) (fa_195 rfl) ?_
  refine fo_ishl (fa_195 rfl) ?_
  refine fo_iconst (fa_195 rfl) fk_c_1 ?_
  refine fo_iload_n (k := 3) (fa_195 rfl) ?_
  refine fo_iload (k := 6) (fa_195 rfl) ?_
  refine fo_iadd (fa_195 rfl) ?_
  refine fo_ishl (fa_195 rfl) ?_
  refine fo_ior (fa_195 rfl) ?_
  refine fo_iconst (fa_195 rfl) fk_c_1 ?_
  refine fo_iconst (fa_195 rfl) fk_c_2 ?_
  refine fo_iload_n (k := 3) (fa_195 rfl) ?_
  refine fo_imul (fa_195 rfl) ?_
  refine fo_iload (k := 6) (fa_195 rfl) ?_
  refine fo_iadd (fa_195 rfl) ?_
  refine fo_ishl (fa_195 rfl) ?_
  refine fo_ior (fa_195 rfl) ?_
  refine fo_iastore (fa_195 rfl) ?_
  refine fo_iinc (k := 5) (fa_195 rfl) fk_c_1 ?_
  refine fo_iinc (k := 6) (fa_195 rfl) fk_c_1 ?_
  exact fo_goto (fa_195 rfl) (pcT := 79) rfl (fo_back (q := 79) rfl)
theorem fs_195_40 : fSB 195 [0, 79, 122, 131, 192, 204, 246] 3 40 f_195_40 := by
  unfold f_195_40
  refine fo_iconst (fa_195 rfl) fk_c_2 ?_
  refine fo_iload_n (k := 2) (fa_195 rfl) ?_
  refine fo_imul (fa_195 rfl) ?_
  refine fo_istore_n (k := 3) (fa_195 rfl) ?_
  refine fo_iconst (fa_195 rfl) fk_c_1 ?_
  refine fo_iconst (fa_195 rfl) fk_c_4 ?_
  refine fo_iload_n (k := 2) (fa_195 rfl) ?_
  refine fo_imul (fa_195 rfl) ?_
  refine fo_iadd (fa_195 rfl) ?_
  refine fo_iconst (fa_195 rfl) fk_c_3 ?_
  refine fo_iload_n (k := 3) (fa_195 rfl) ?_
  refine fo_imul (fa_195 rfl) ?_
  refine fo_iload_n (k := 3) (fa_195 rfl) ?_
  refine fo_iconst (fa_195 rfl) fk_c_1 ?_
  refine fo_isub (fa_195 rfl) ?_
  refine fo_imul (fa_195 rfl) ?_
  refine fo_iconst (fa_195 rfl) fk_c_2 ?_
  refine fo_idiv (fa_195 rfl) ?_
  refine fo_iadd (fa_195 rfl) ?_
  refine fo_newarray (fa_195 rfl) rfl (by decide) (by decide) fel_20 ?_
  refine fo_astore (k := 4) (fa_195 rfl) ?_
  refine fo_aload (k := 4) (fa_195 rfl) ?_
  refine fo_iconst (fa_195 rfl) fk_c_0 ?_
  refine fo_bipush (fa_195 rfl) fk_b_6 ?_
  refine fo_iload_n (k := 2) (fa_195 rfl) ?_
  refine fo_imul (fa_195 rfl) ?_
  refine fo_iconst (fa_195 rfl) fk_c_1 ?_
  refine fo_iadd (fa_195 rfl) ?_
  refine fo_iastore (fa_195 rfl) ?_
  refine fo_iconst (fa_195 rfl) fk_c_1 ?_
  refine fo_istore (k := 5) (fa_195 rfl) ?_
  refine fo_iconst (fa_195 rfl) fk_c_0 ?_
  refine fo_istore (k := 6) (fa_195 rfl) ?_
  exact fs_195_79
theorem fs_195_30 : fSB 195 [0, 79, 122, 131, 192, 204, 246] 3 30 f_195_30 := by
  unfold f_195_30
  refine fo_iconst (fa_195 rfl) fk_c_0 ?_
  refine fo_iconst (fa_195 rfl) fk_c_0 ?_
  refine fo_virtual (by decide) fna_171 (fo_call (fa_195 rfl) fNs_virtual fsm_171 (by decide) fFil_0 fna_171 fx_171 (by rw [fP_171]; rfl) fh_195 ?_)
  refine fo_if_eq (fa_195 rfl) (pcT := 40) rfl fs_195_40 ?_
  refine fo_iconst (fa_195 rfl) fk_c_0 ?_
  exact fo_iret (fa_195 rfl) fr_195 fw_int
theorem fs_195_29 : fSB 195 [0, 79, 122, 131, 192, 204, 246] 3 29 f_195_29 := by
  unfold f_195_29
  refine fo_iconst (fa_195 rfl) fk_c_0 ?_
  exact fs_195_30
theorem fs_195_13 : fSB 195 [0, 79, 122, 131, 192, 204, 246] 3 13 f_195_13 := by
  unfold f_195_13
  refine fo_iload_n (k := 2) (fa_195 rfl) ?_
  refine fo_i2l (fa_195 rfl) ?_
  refine fo_lconst (fa_195 rfl) rfl ?_
  refine fo_ldc2 (fa_195 rfl) ?_
  refine fo_static (by decide) (fo_call (fa_195 rfl) fNs_static fsm_172 (by decide) fFil_0 fna_172 fx_172 (by rw [fP_172]; rfl) fh_195 ?_)
  refine fo_if_ne (fa_195 rfl) (pcT := 29) rfl fs_195_29 ?_
  refine fo_iconst (fa_195 rfl) fk_c_1 ?_
  exact fo_goto (fa_195 rfl) (pcT := 30) rfl fs_195_30
theorem fs_195_12 : fSB 195 [0, 79, 122, 131, 192, 204, 246] 3 12 f_195_12 := by
  unfold f_195_12
  refine fo_iconst (fa_195 rfl) fk_c_0 ?_
  exact fs_195_13
theorem fs_195_0 : fSB 195 [0, 79, 122, 131, 192, 204, 246] 3 0 f_195_0 := by
  unfold f_195_0
  refine fo_aload_n (k := 0) (fa_195 rfl) ?_
  refine fo_iload_n (k := 1) (fa_195 rfl) ?_
  refine fo_static (by decide) (fo_call (fa_195 rfl) fNs_static fsm_173 (by decide) fFil_0 fna_173 fx_173 (by rw [fP_173]; rfl) fh_195 ?_)
  refine fo_if_ne (fa_195 rfl) (pcT := 12) rfl fs_195_12 ?_
  refine fo_iconst (fa_195 rfl) fk_c_1 ?_
  exact fo_goto (fa_195 rfl) (pcT := 13) rfl fs_195_13
theorem fsm_195 : fSM 195 3 fm_195 := fs_methH (lp := [0, 79, 122, 131, 192, 204, 246]) (by decide) rfl ⟨fs_195_0, fs_195_79, fs_195_122, fs_195_131, fs_195_192, fs_195_204, fs_195_246, trivial⟩
theorem fP_196 : mj_P 196 = (8, 1, (some .boolean), mcX8_areTriples, []) := rfl
theorem fa_196 {pc : Nat} {e : mjE} (h : mj_at mcX8_areTriples pc = some e) : fAt 196 pc e := by unfold fAt; rw [fP_196]; exact h
theorem fr_196 : (mj_P 196).2.2.1 = (some .boolean) := by rw [fP_196]
theorem fna_196 : (mj_P 196).2.1 = 1 := by rw [fP_196]
theorem fx_196 : 1 ≤ mj_mx.getD 196 0 := by decide
theorem fh_196 : (mj_P 196).2.2.2.2.isEmpty = true := by rw [fP_196]; rfl
theorem fs_196_36 : fSB 196 [0, 4] 1 36 f_196_36 := by
  unfold f_196_36
  refine fo_iload_n (k := 1) (fa_196 rfl) ?_
  exact fo_iret (fa_196 rfl) fr_196 fw_bool
theorem fs_196_29 : fSB 196 [0, 4] 1 29 f_196_29 := by
  unfold f_196_29
  refine fo_istore_n (k := 1) (fa_196 rfl) ?_
  refine fo_iinc (k := 2) (fa_196 rfl) fk_c_1 ?_
  exact fo_goto (fa_196 rfl) (pcT := 4) rfl (fo_back (q := 4) rfl)
theorem fs_196_28 : fSB 196 [0, 4] 1 28 f_196_28 := by
  unfold f_196_28
  refine fo_iconst (fa_196 rfl) fk_c_0 ?_
  exact fs_196_29
theorem fs_196_4 : fSB 196 [0, 4] 1 4 f_196_4 := by
  unfold f_196_4
  refine fo_iload_n (k := 2) (fa_196 rfl) ?_
  refine fo_aload_n (k := 0) (fa_196 rfl) ?_
  refine fo_alen (fa_196 rfl) ?_
  refine fo_icmp_ge (fa_196 rfl) (pcT := 36) rfl fs_196_36 ?_
  refine fo_iload_n (k := 1) (fa_196 rfl) ?_
  refine fo_if_eq (fa_196 rfl) (pcT := 28) rfl fs_196_28 ?_
  refine fo_aload_n (k := 0) (fa_196 rfl) ?_
  refine fo_iload_n (k := 2) (fa_196 rfl) ?_
  refine fo_iaload (fa_196 rfl) ?_
  refine fo_static (by decide) (fo_call (fa_196 rfl) fNs_static fsm_182 (by decide) fFil_2 fna_182 fx_182 (by rw [fP_182]; rfl) fh_196 ?_)
  refine fo_iconst (fa_196 rfl) fk_c_3 ?_
  refine fo_icmp_ne (fa_196 rfl) (pcT := 28) rfl fs_196_28 ?_
  refine fo_iconst (fa_196 rfl) fk_c_1 ?_
  exact fo_goto (fa_196 rfl) (pcT := 29) rfl fs_196_29
theorem fs_196_0 : fSB 196 [0, 4] 1 0 f_196_0 := by
  unfold f_196_0
  refine fo_iconst (fa_196 rfl) fk_c_1 ?_
  refine fo_istore_n (k := 1) (fa_196 rfl) ?_
  refine fo_iconst (fa_196 rfl) fk_c_1 ?_
  refine fo_istore_n (k := 2) (fa_196 rfl) ?_
  exact fs_196_4
theorem fsm_196 : fSM 196 1 fm_196 := fs_methH (lp := [0, 4]) (by decide) rfl ⟨fs_196_0, fs_196_4, trivial⟩
theorem fP_197 : mj_P 197 = (8, 2, (some .int), mcX8_pointOf, []) := rfl
theorem fa_197 {pc : Nat} {e : mjE} (h : mj_at mcX8_pointOf pc = some e) : fAt 197 pc e := by unfold fAt; rw [fP_197]; exact h
theorem fr_197 : (mj_P 197).2.2.1 = (some .int) := by rw [fP_197]
theorem fna_197 : (mj_P 197).2.1 = 2 := by rw [fP_197]
theorem fx_197 : 2 ≤ mj_mx.getD 197 0 := by decide
theorem fh_197 : (mj_P 197).2.2.2.2.isEmpty = true := by rw [fP_197]; rfl
theorem fs_197_30 : fSB 197 [0, 4] 0 30 f_197_30 := by
  unfold f_197_30
  refine fo_iload_n (k := 3) (fa_197 rfl) ?_
  exact fo_iret (fa_197 rfl) fr_197 fw_int
theorem fs_197_16 : fSB 197 [0, 4] 0 16 f_197_16 := by
  unfold f_197_16
  refine fo_iload_n (k := 2) (fa_197 rfl) ?_
  refine fo_iload_n (k := 0) (fa_197 rfl) ?_
  refine fo_iload_n (k := 3) (fa_197 rfl) ?_
  refine fo_ishr (fa_197 rfl) ?_
  refine fo_iconst (fa_197 rfl) fk_c_1 ?_
  refine fo_iand (fa_197 rfl) ?_
  refine fo_isub (fa_197 rfl) ?_
  refine fo_istore_n (k := 2) (fa_197 rfl) ?_
  refine fo_iinc (k := 3) (fa_197 rfl) fk_c_1 ?_
  exact fo_goto (fa_197 rfl) (pcT := 4) rfl (fo_back (q := 4) rfl)
theorem fs_197_4 : fSB 197 [0, 4] 0 4 f_197_4 := by
  unfold f_197_4
  refine fo_iload_n (k := 0) (fa_197 rfl) ?_
  refine fo_iload_n (k := 3) (fa_197 rfl) ?_
  refine fo_ishr (fa_197 rfl) ?_
  refine fo_iconst (fa_197 rfl) fk_c_1 ?_
  refine fo_iand (fa_197 rfl) ?_
  refine fo_if_eq (fa_197 rfl) (pcT := 16) rfl fs_197_16 ?_
  refine fo_iload_n (k := 2) (fa_197 rfl) ?_
  refine fo_if_le (fa_197 rfl) (pcT := 30) rfl fs_197_30 ?_
  exact fs_197_16
theorem fs_197_0 : fSB 197 [0, 4] 0 0 f_197_0 := by
  unfold f_197_0
  refine fo_iload_n (k := 1) (fa_197 rfl) ?_
  refine fo_istore_n (k := 2) (fa_197 rfl) ?_
  refine fo_iconst (fa_197 rfl) fk_c_0 ?_
  refine fo_istore_n (k := 3) (fa_197 rfl) ?_
  exact fs_197_4
theorem fsm_197 : fSM 197 0 fm_197 := fs_methH (lp := [0, 4]) (by decide) rfl ⟨fs_197_0, fs_197_4, trivial⟩
theorem fP_198 : mj_P 198 = (8, 4, (some .int), mcX8_product, []) := rfl
theorem fa_198 {pc : Nat} {e : mjE} (h : mj_at mcX8_product pc = some e) : fAt 198 pc e := by unfold fAt; rw [fP_198]; exact h
theorem fr_198 : (mj_P 198).2.2.1 = (some .int) := by rw [fP_198]
theorem fna_198 : (mj_P 198).2.1 = 4 := by rw [fP_198]
theorem fx_198 : 4 ≤ mj_mx.getD 198 0 := by decide
theorem fh_198 : (mj_P 198).2.2.2.2.isEmpty = true := by rw [fP_198]; rfl
theorem fs_198_634 : fSB 198 [0, 285, 295, 340, 350, 360, 420, 430, 440] 3 634 f_198_634 := by
  unfold f_198_634
  refine fo_aload_n (k := 0) (fa_198 rfl) ?_
  refine fo_iload_n (k := 3) (fa_198 rfl) ?_
  refine fo_aload (k := 12) (fa_198 rfl) ?_
  refine fo_virtual (by decide) fna_181 (fo_call (fa_198 rfl) fNs_virtual fsm_181 (by decide) fFil_0 fna_181 fx_181 (by rw [fP_181]; rfl) fh_198 ?_)
  exact fo_iret (fa_198 rfl) fr_198 fw_int
theorem fs_198_628 : fSB 198 [0, 285, 295, 340, 350, 360, 420, 430, 440] 3 628 f_198_628 := by
  unfold f_198_628
  refine fo_iinc (k := 14) (fa_198 rfl) fk_c_1 ?_
  exact fo_goto (fa_198 rfl) (pcT := 420) rfl (fo_back (q := 420) rfl)
theorem fs_198_622 : fSB 198 [0, 285, 295, 340, 350, 360, 420, 430, 440] 3 622 f_198_622 := by
  unfold f_198_622
  refine fo_iinc (k := 15) (fa_198 rfl) fk_c_1 ?_
  exact fo_goto (fa_198 rfl) (pcT := 430) rfl (fo_back (q := 430) rfl)
theorem fs_198_482 : fSB 198 [0, 285, 295, 340, 350, 360, 420, 430, 440] 3 482 f_198_482 := by
  unfold f_198_482
  refine fo_istore (k := 18) (fa_198 rfl) ?_
  refine fo_iconst (fa_198 rfl) fk_c_3 ?_
  refine fo_iload (k := 17) (fa_198 rfl) ?_
  refine fo_isub (fa_198 rfl) ?_
  refine fo_iload (k := 18) (fa_198 rfl) ?_
  refine fo_isub (fa_198 rfl) ?_
  refine fo_istore (k := 19) (fa_198 rfl) ?_
  refine fo_aload (k := 12) (fa_198 rfl) ?_
  refine fo_iload (k := 13) (fa_198 rfl) ?_
  refine fo_iconst (fa_198 rfl) fk_c_1 ?_
  refine fo_iload (k := 8) (fa_198 rfl) ?_
  refine fo_aload_n (k := 0) (fa_198 rfl) ?_
  refine fo_getr (fa_198 rfl) (by decide) rfl ?_
  refine fo_iload_n (k := 1) (fa_198 rfl) ?_
  refine fo_aaload (fa_198 rfl) (by decide) (by decide) ?_
  refine fo_iload (k := 14) (fa_198 rfl) ?_
  refine fo_iaload (fa_198 rfl) ?_
  refine fo_iconst (fa_198 rfl) fk_c_0 ?_
  refine fo_static (by decide) (fo_call (fa_198 rfl) fNs_static fsm_197 (by decide) fFil_2 fna_197 fx_197 (by rw [fP_197]; rfl) fh_198 ?_)
  refine fo_imul (fa_198 rfl) ?_
  refine fo_aload_n (k := 0) (fa_198 rfl) ?_
  refine fo_getr (fa_198 rfl) (by decide) rfl ?_
  refine fo_iload_n (k := 2) (fa_198 rfl) ?_
  refine fo_aaload (fa_198 rfl) (by decide) (by decide) ?_
  refine fo_iload (k := 15) (fa_198 rfl) ?_
  refine fo_iaload (fa_198 rfl) ?_
  refine fo_iload (k := 17) (fa_198 rfl) ?_
  refine fo_static (by decide) (fo_call (fa_198 rfl) fNs_static fsm_197 (by decide) fFil_2 fna_197 fx_197 (by rw [fP_197]; rfl) fh_198 ?_)
  refine fo_iadd (fa_198 rfl) ?_
  refine fo_ishl (fa_198 rfl) ?_
  refine fo_iastore (fa_198 rfl) ?_
  refine fo_aload (k := 12) (fa_198 rfl) ?_
  refine fo_iload (k := 13) (fa_198 rfl) ?_
  refine fo_dup2 (fa_198 rfl) ?_
  refine fo_iaload (fa_198 rfl) ?_
  refine fo_iconst (fa_198 rfl) fk_c_1 ?_
  refine fo_iload (k := 8) (fa_198 rfl) ?_
  refine fo_aload_n (k := 0) (fa_198 rfl) ?_
  refine fo_getr (fa_198 rfl) (by decide) rfl ?_
  refine fo_iload_n (k := 1) (fa_198 rfl) ?_
  refine fo_aaload (fa_198 rfl) (by decide) (by decide) ?_
  refine fo_iload (k := 14) (fa_198 rfl) ?_
  refine fo_iaload (fa_198 rfl) ?_
  refine fo_iconst (fa_198 rfl) fk_c_1 ?_
  refine fo_static (by decide) (fo_call (fa_198 rfl) fNs_static fsm_197 (by decide) fFil_2 fna_197 fx_197 (by rw [fP_197]; rfl) fh_198 ?_)
  refine fo_imul (fa_198 rfl) ?_
  refine fo_aload_n (k := 0) (fa_198 rfl) ?_
  refine fo_getr (fa_198 rfl) (by decide) rfl ?_
  refine fo_iload_n (k := 2) (fa_198 rfl) ?_
  refine fo_aaload (fa_198 rfl) (by decide) (by decide) ?_
  refine fo_iload (k := 15) (fa_198 rfl) ?_
  refine fo_iaload (fa_198 rfl) ?_
  refine fo_iload (k := 18) (fa_198 rfl) ?_
  refine fo_static (by decide) (fo_call (fa_198 rfl) fNs_static fsm_197 (by decide) fFil_2 fna_197 fx_197 (by rw [fP_197]; rfl) fh_198 ?_)
  refine fo_iadd (fa_198 rfl) ?_
  refine fo_ishl (fa_198 rfl) ?_
  refine fo_ior (fa_198 rfl) ?_
  refine fo_iastore (fa_198 rfl) ?_
  refine fo_aload (k := 12) (fa_198 rfl) ?_
  refine fo_iload (k := 13) (fa_198 rfl) ?_
  refine fo_dup2 (fa_198 rfl) ?_
  refine fo_iaload (fa_198 rfl) ?_
  refine fo_iconst (fa_198 rfl) fk_c_1 ?_
  refine fo_iload (k := 8) (fa_198 rfl) ?_
  refine fo_aload_n (k := 0) (fa_198 rfl) ?_
  refine fo_getr (fa_198 rfl) (by decide) rfl ?_
  refine fo_iload_n (k := 1) (fa_198 rfl) ?_
  refine fo_aaload (fa_198 rfl) (by decide) (by decide) ?_
  refine fo_iload (k := 14) (fa_198 rfl) ?_
  refine fo_iaload (fa_198 rfl) ?_
  refine fo_iconst (fa_198 rfl) fk_c_2 ?_
  refine fo_static (by decide) (fo_call (fa_198 rfl) fNs_static fsm_197 (by decide) fFil_2 fna_197 fx_197 (by rw [fP_197]; rfl) fh_198 ?_)
  refine fo_imul (fa_198 rfl) ?_
  refine fo_aload_n (k := 0) (fa_198 rfl) ?_
  refine fo_getr (fa_198 rfl) (by decide) rfl ?_
  refine fo_iload_n (k := 2) (fa_198 rfl) ?_
  refine fo_aaload (fa_198 rfl) (by decide) (by decide) ?_
  refine fo_iload (k := 15) (fa_198 rfl) ?_
  refine fo_iaload (fa_198 rfl) ?_
  refine fo_iload (k := 19) (fa_198 rfl) ?_
  refine fo_static (by decide) (fo_call (fa_198 rfl) fNs_static fsm_197 (by decide) fFil_2 fna_197 fx_197 (by rw [fP_197]; rfl) fh_198 ?_)
  refine fo_iadd (fa_198 rfl) ?_
  refine fo_ishl (fa_198 rfl) ?_
  refine fo_ior (fa_198 rfl) ?_
  refine fo_iastore (fa_198 rfl) ?_
  refine fo_iinc (k := 13) (fa_198 rfl) fk_c_1 ?_
  refine fo_iinc (k := 16) (fa_198 rfl) fk_c_1 ?_
  exact fo_goto (fa_198 rfl) (pcT := 440) rfl (fo_back (q := 440) rfl)
theorem fs_198_478 : fSB 198 [0, 285, 295, 340, 350, 360, 420, 430, 440] 3 478 f_198_478 := by
  unfold f_198_478
  refine fo_iconst (fa_198 rfl) fk_c_3 ?_
  refine fo_iload (k := 17) (fa_198 rfl) ?_
  refine fo_isub (fa_198 rfl) ?_
  exact fs_198_482
theorem fs_198_467 : fSB 198 [0, 285, 295, 340, 350, 360, 420, 430, 440] 3 467 f_198_467 := by
  unfold f_198_467
  refine fo_iload (k := 16) (fa_198 rfl) ?_
  refine fo_iconst (fa_198 rfl) fk_c_2 ?_
  refine fo_irem (fa_198 rfl) ?_
  refine fo_if_ne (fa_198 rfl) (pcT := 478) rfl fs_198_478 ?_
  refine fo_iconst (fa_198 rfl) fk_c_0 ?_
  exact fo_goto (fa_198 rfl) (pcT := 482) rfl fs_198_482
theorem fs_198_440 : fSB 198 [0, 285, 295, 340, 350, 360, 420, 430, 440] 3 440 f_198_440 := by
  unfold f_198_440
  refine fo_iload (k := 16) (fa_198 rfl) ?_
  refine fo_bipush (fa_198 rfl) fk_b_6 ?_
  refine fo_icmp_ge (fa_198 rfl) (pcT := 622) rfl fs_198_622 ?_
  refine fo_iload (k := 16) (fa_198 rfl) ?_
  refine fo_iconst (fa_198 rfl) fk_c_2 ?_
  refine fo_idiv (fa_198 rfl) ?_
  refine fo_istore (k := 17) (fa_198 rfl) ?_
  refine fo_iload (k := 17) (fa_198 rfl) ?_
  refine fo_if_ne (fa_198 rfl) (pcT := 467) rfl fs_198_467 ?_
  refine fo_iconst (fa_198 rfl) fk_c_1 ?_
  refine fo_iload (k := 16) (fa_198 rfl) ?_
  refine fo_iconst (fa_198 rfl) fk_c_2 ?_
  refine fo_irem (fa_198 rfl) ?_
  refine fo_iadd (fa_198 rfl) ?_
  exact fo_goto (fa_198 rfl) (pcT := 482) rfl fs_198_482
theorem fs_198_430 : fSB 198 [0, 285, 295, 340, 350, 360, 420, 430, 440] 3 430 f_198_430 := by
  unfold f_198_430
  refine fo_iload (k := 15) (fa_198 rfl) ?_
  refine fo_iload (k := 10) (fa_198 rfl) ?_
  refine fo_icmp_gt (fa_198 rfl) (pcT := 628) rfl fs_198_628 ?_
  refine fo_iconst (fa_198 rfl) fk_c_0 ?_
  refine fo_istore (k := 16) (fa_198 rfl) ?_
  exact fs_198_440
theorem fs_198_420 : fSB 198 [0, 285, 295, 340, 350, 360, 420, 430, 440] 3 420 f_198_420 := by
  unfold f_198_420
  refine fo_iload (k := 14) (fa_198 rfl) ?_
  refine fo_iload (k := 9) (fa_198 rfl) ?_
  refine fo_icmp_gt (fa_198 rfl) (pcT := 634) rfl fs_198_634 ?_
  refine fo_iconst (fa_198 rfl) fk_c_1 ?_
  refine fo_istore (k := 15) (fa_198 rfl) ?_
  exact fs_198_430
theorem fs_198_417 : fSB 198 [0, 285, 295, 340, 350, 360, 420, 430, 440] 3 417 f_198_417 := by
  unfold f_198_417
  refine fo_iconst (fa_198 rfl) fk_c_1 ?_
  refine fo_istore (k := 14) (fa_198 rfl) ?_
  exact fs_198_420
theorem fs_198_411 : fSB 198 [0, 285, 295, 340, 350, 360, 420, 430, 440] 3 411 f_198_411 := by
  unfold f_198_411
  refine fo_iinc (k := 14) (fa_198 rfl) fk_c_1 ?_
  exact fo_goto (fa_198 rfl) (pcT := 340) rfl (fo_back (q := 340) rfl)
theorem fs_198_402 : fSB 198 [0, 285, 295, 340, 350, 360, 420, 430, 440] 3 402 f_198_402 := by
  unfold f_198_402
  refine fo_iinc (k := 13) (fa_198 rfl) fk_c_1 ?_
  refine fo_iinc (k := 15) (fa_198 rfl) fk_c_1 ?_
  exact fo_goto (fa_198 rfl) (pcT := 350) rfl (fo_back (q := 350) rfl)
theorem fs_198_360 : fSB 198 [0, 285, 295, 340, 350, 360, 420, 430, 440] 3 360 f_198_360 := by
  unfold f_198_360
  refine fo_iload (k := 16) (fa_198 rfl) ?_
  refine fo_iconst (fa_198 rfl) fk_c_3 ?_
  refine fo_icmp_ge (fa_198 rfl) (pcT := 402) rfl fs_198_402 ?_
  refine fo_aload (k := 12) (fa_198 rfl) ?_
  refine fo_iload (k := 13) (fa_198 rfl) ?_
  refine fo_dup2 (fa_198 rfl) ?_
  refine fo_iaload (fa_198 rfl) ?_
  refine fo_iconst (fa_198 rfl) fk_c_1 ?_
  refine fo_iload (k := 8) (fa_198 rfl) ?_
  refine fo_aload_n (k := 0) (fa_198 rfl) ?_
  refine fo_getr (fa_198 rfl) (by decide) rfl ?_
  refine fo_iload_n (k := 1) (fa_198 rfl) ?_
  refine fo_aaload (fa_198 rfl) (by decide) (by decide) ?_
  refine fo_iload (k := 15) (fa_198 rfl) ?_
  refine fo_iaload (fa_198 rfl) ?_
  refine fo_iload (k := 16) (fa_198 rfl) ?_
  refine fo_static (by decide) (fo_call (fa_198 rfl) fNs_static fsm_197 (by decide) fFil_2 fna_197 fx_197 (by rw [fP_197]; rfl) fh_198 ?_)
  refine fo_imul (fa_198 rfl) ?_
  refine fo_iload (k := 14) (fa_198 rfl) ?_
  refine fo_iadd (fa_198 rfl) ?_
  refine fo_ishl (fa_198 rfl) ?_
  refine fo_ior (fa_198 rfl) ?_
  refine fo_iastore (fa_198 rfl) ?_
  refine fo_iinc (k := 16) (fa_198 rfl) fk_c_1 ?_
  exact fo_goto (fa_198 rfl) (pcT := 360) rfl (fo_back (q := 360) rfl)
theorem fs_198_350 : fSB 198 [0, 285, 295, 340, 350, 360, 420, 430, 440] 3 350 f_198_350 := by
  unfold f_198_350
  refine fo_iload (k := 15) (fa_198 rfl) ?_
  refine fo_iload (k := 9) (fa_198 rfl) ?_
  refine fo_icmp_gt (fa_198 rfl) (pcT := 411) rfl fs_198_411 ?_
  refine fo_iconst (fa_198 rfl) fk_c_0 ?_
  refine fo_istore (k := 16) (fa_198 rfl) ?_
  exact fs_198_360
theorem fs_198_340 : fSB 198 [0, 285, 295, 340, 350, 360, 420, 430, 440] 3 340 f_198_340 := by
  unfold f_198_340
  refine fo_iload (k := 14) (fa_198 rfl) ?_
  refine fo_iload (k := 8) (fa_198 rfl) ?_
  refine fo_icmp_ge (fa_198 rfl) (pcT := 417) rfl fs_198_417 ?_
  refine fo_iconst (fa_198 rfl) fk_c_1 ?_
  refine fo_istore (k := 15) (fa_198 rfl) ?_
  exact fs_198_350
theorem fs_198_337 : fSB 198 [0, 285, 295, 340, 350, 360, 420, 430, 440] 3 337 f_198_337 := by
  unfold f_198_337
  refine fo_iconst (fa_198 rfl) fk_c_0 ?_
  refine fo_istore (k := 14) (fa_198 rfl) ?_
  exact fs_198_340
theorem fs_198_331 : fSB 198 [0, 285, 295, 340, 350, 360, 420, 430, 440] 3 331 f_198_331 := by
  unfold f_198_331
  refine fo_iinc (k := 14) (fa_198 rfl) fk_c_1 ?_
  exact fo_goto (fa_198 rfl) (pcT := 285) rfl (fo_back (q := 285) rfl)
theorem fs_198_295 : fSB 198 [0, 285, 295, 340, 350, 360, 420, 430, 440] 3 295 f_198_295 := by
  unfold f_198_295
  refine fo_iload (k := 15) (fa_198 rfl) ?_
  refine fo_iload (k := 10) (fa_198 rfl) ?_
  refine fo_icmp_gt (fa_198 rfl) (pcT := 331) rfl fs_198_331 ?_
  refine fo_aload (k := 12) (fa_198 rfl) ?_
  refine fo_iload (k := 13) (fa_198 rfl) ?_
  refine fo_aload_n (k := 0) (fa_198 rfl) ?_
  refine fo_getr (fa_198 rfl) (by decide) rfl ?_
  refine fo_iload_n (k := 2) (fa_198 rfl) ?_
  refine fo_aaload (fa_198 rfl) (by decide) (by decide) ?_
  refine fo_iload (k := 15) (fa_198 rfl) ?_
  refine fo_iaload (fa_198 rfl) ?_
  refine fo_iload (k := 8) (fa_198 rfl) ?_
  refine fo_iload (k := 14) (fa_198 rfl) ?_
  refine fo_imul (fa_198 rfl) ?_
  refine fo_ishl (fa_198 rfl) ?_
  refine fo_iastore (fa_198 rfl) ?_
  refine fo_iinc (k := 13) (fa_198 rfl) fk_c_1 ?_
  refine fo_iinc (k := 15) (fa_198 rfl) fk_c_1 ?_
  exact fo_goto (fa_198 rfl) (pcT := 295) rfl (fo_back (q := 295) rfl)
theorem fs_198_285 : fSB 198 [0, 285, 295, 340, 350, 360, 420, 430, 440] 3 285 f_198_285 := by
  unfold f_198_285
  refine fo_iload (k := 14) (fa_198 rfl) ?_
  refine fo_iload (k := 7) (fa_198 rfl) ?_
  refine fo_icmp_ge (fa_198 rfl) (pcT := 337) rfl fs_198_337 ?_
  refine fo_iconst (fa_198 rfl) fk_c_1 ?_
  refine fo_istore (k := 15) (fa_198 rfl) ?_
  exact fs_198_295
theorem fs_198_262 : fSB 198 [0, 285, 295, 340, 350, 360, 420, 430, 440] 3 262 f_198_262 := by
  unfold f_198_262
  refine fo_iload (k := 11) (fa_198 rfl) ?_
  refine fo_iconst (fa_198 rfl) fk_c_1 ?_
  refine fo_iadd (fa_198 rfl) ?_
  refine fo_newarray (fa_198 rfl) rfl (by decide) (by decide) fel_20 ?_
  refine fo_astore (k := 12) (fa_198 rfl) ?_
  refine fo_aload (k := 12) (fa_198 rfl) ?_
  refine fo_iconst (fa_198 rfl) fk_c_0 ?_
  refine fo_iload (k := 7) (fa_198 rfl) ?_
  refine fo_iload (k := 8) (fa_198 rfl) ?_
  refine fo_imul (fa_198 rfl) ?_
  refine fo_iastore (fa_198 rfl) ?_
  refine fo_iconst (fa_198 rfl) fk_c_1 ?_
  refine fo_istore (k := 13) (fa_198 rfl) ?_
  refine fo_iconst (fa_198 rfl) fk_c_0 ?_
  refine fo_istore (k := 14) (fa_198 rfl) ?_
  exact fs_198_285
theorem fs_198_253 : fSB 198 [0, 285, 295, 340, 350, 360, 420, 430, 440] 3 253 f_198_253 := by
  unfold f_198_253
  refine fo_iconst (fa_198 rfl) fk_c_0 ?_
  refine fo_virtual (by decide) fna_171 (fo_call (fa_198 rfl) fNs_virtual fsm_171 (by decide) fFil_0 fna_171 fx_171 (by rw [fP_171]; rfl) fh_198 ?_)
  refine fo_if_eq (fa_198 rfl) (pcT := 262) rfl fs_198_262 ?_
  refine fo_iconst (fa_198 rfl) fk_c_0 ?_
  exact fo_iret (fa_198 rfl) fr_198 fw_int
theorem fs_198_252 : fSB 198 [0, 285, 295, 340, 350, 360, 420, 430, 440] 3 252 f_198_252 := by
  unfold f_198_252
  refine fo_iconst (fa_198 rfl) fk_c_0 ?_
  exact fs_198_253
theorem fs_198_248 : fSB 198 [0, 285, 295, 340, 350, 360, 420, 430, 440] 3 248 f_198_248 := by
  unfold f_198_248
  refine fo_iconst (fa_198 rfl) fk_c_1 ?_
  exact fo_goto (fa_198 rfl) (pcT := 253) rfl fs_198_253
theorem fs_198_235 : fSB 198 [0, 285, 295, 340, 350, 360, 420, 430, 440] 3 235 f_198_235 := by
  unfold f_198_235
  refine fo_iload (k := 6) (fa_198 rfl) ?_
  refine fo_if_eq (fa_198 rfl) (pcT := 248) rfl fs_198_248 ?_
  refine fo_iload (k := 11) (fa_198 rfl) ?_
  refine fo_sipush (fa_198 rfl) fk_s_160 ?_
  refine fo_icmp_le (fa_198 rfl) (pcT := 252) rfl fs_198_252 ?_
  exact fs_198_248
theorem fs_198_234 : fSB 198 [0, 285, 295, 340, 350, 360, 420, 430, 440] 3 234 f_198_234 := by
  unfold f_198_234
  refine fo_iconst (fa_198 rfl) fk_c_0 ?_
  exact fs_198_235
theorem fs_198_225 : fSB 198 [0, 285, 295, 340, 350, 360, 420, 430, 440] 3 225 f_198_225 := by
  unfold f_198_225
  refine fo_iload (k := 5) (fa_198 rfl) ?_
  refine fo_if_ne (fa_198 rfl) (pcT := 234) rfl fs_198_234 ?_
  refine fo_iconst (fa_198 rfl) fk_c_1 ?_
  exact fo_goto (fa_198 rfl) (pcT := 235) rfl fs_198_235
theorem fs_198_224 : fSB 198 [0, 285, 295, 340, 350, 360, 420, 430, 440] 3 224 f_198_224 := by
  unfold f_198_224
  refine fo_iconst (fa_198 rfl) fk_c_0 ?_
  exact fs_198_225
theorem fs_198_190 : fSB 198 [0, 285, 295, 340, 350, 360, 420, 430, 440] 3 190 f_198_190 := by
  unfold f_198_190
  refine fo_istore (k := 10) (fa_198 rfl) ?_
  refine fo_iload (k := 7) (fa_198 rfl) ?_
  refine fo_iload (k := 10) (fa_198 rfl) ?_
  refine fo_imul (fa_198 rfl) ?_
  refine fo_iload (k := 8) (fa_198 rfl) ?_
  refine fo_iload (k := 9) (fa_198 rfl) ?_
  refine fo_imul (fa_198 rfl) ?_
  refine fo_iadd (fa_198 rfl) ?_
  refine fo_bipush (fa_198 rfl) fk_b_6 ?_
  refine fo_iload (k := 9) (fa_198 rfl) ?_
  refine fo_imul (fa_198 rfl) ?_
  refine fo_iload (k := 10) (fa_198 rfl) ?_
  refine fo_imul (fa_198 rfl) ?_
  refine fo_iadd (fa_198 rfl) ?_
  refine fo_istore (k := 11) (fa_198 rfl) ?_
  refine fo_aload_n (k := 0) (fa_198 rfl) ?_
  refine fo_iload (k := 4) (fa_198 rfl) ?_
  refine fo_if_ne (fa_198 rfl) (pcT := 224) rfl fs_198_224 ?_
  refine fo_iconst (fa_198 rfl) fk_c_1 ?_
  exact fo_goto (fa_198 rfl) (pcT := 225) rfl fs_198_225
theorem fs_198_189 : fSB 198 [0, 285, 295, 340, 350, 360, 420, 430, 440] 3 189 f_198_189 := by
  unfold f_198_189
  refine fo_iconst (fa_198 rfl) fk_c_0 ?_
  exact fs_198_190
theorem fs_198_170 : fSB 198 [0, 285, 295, 340, 350, 360, 420, 430, 440] 3 170 f_198_170 := by
  unfold f_198_170
  refine fo_istore (k := 9) (fa_198 rfl) ?_
  refine fo_iload (k := 6) (fa_198 rfl) ?_
  refine fo_if_eq (fa_198 rfl) (pcT := 189) rfl fs_198_189 ?_
  refine fo_aload_n (k := 0) (fa_198 rfl) ?_
  refine fo_getr (fa_198 rfl) (by decide) rfl ?_
  refine fo_iload_n (k := 2) (fa_198 rfl) ?_
  refine fo_aaload (fa_198 rfl) (by decide) (by decide) ?_
  refine fo_alen (fa_198 rfl) ?_
  refine fo_iconst (fa_198 rfl) fk_c_1 ?_
  refine fo_isub (fa_198 rfl) ?_
  exact fo_goto (fa_198 rfl) (pcT := 190) rfl fs_198_190
theorem fs_198_169 : fSB 198 [0, 285, 295, 340, 350, 360, 420, 430, 440] 3 169 f_198_169 := by
  unfold f_198_169
  refine fo_iconst (fa_198 rfl) fk_c_0 ?_
  exact fs_198_170
theorem fs_198_150 : fSB 198 [0, 285, 295, 340, 350, 360, 420, 430, 440] 3 150 f_198_150 := by
  unfold f_198_150
  refine fo_istore (k := 8) (fa_198 rfl) ?_
  refine fo_iload (k := 6) (fa_198 rfl) ?_
  refine fo_if_eq (fa_198 rfl) (pcT := 169) rfl fs_198_169 ?_
  refine fo_aload_n (k := 0) (fa_198 rfl) ?_
  refine fo_getr (fa_198 rfl) (by decide) rfl ?_
  refine fo_iload_n (k := 1) (fa_198 rfl) ?_
  refine fo_aaload (fa_198 rfl) (by decide) (by decide) ?_
  refine fo_alen (fa_198 rfl) ?_
  refine fo_iconst (fa_198 rfl) fk_c_1 ?_
  refine fo_isub (fa_198 rfl) ?_
  exact fo_goto (fa_198 rfl) (pcT := 170) rfl fs_198_170
theorem fs_198_149 : fSB 198 [0, 285, 295, 340, 350, 360, 420, 430, 440] 3 149 f_198_149 := by
  unfold f_198_149
  refine fo_iconst (fa_198 rfl) fk_c_0 ?_
  exact fs_198_150
theorem fs_198_131 : fSB 198 [0, 285, 295, 340, 350, 360, 420, 430, 440] 3 131 f_198_131 := by
  unfold f_198_131
  refine fo_istore (k := 7) (fa_198 rfl) ?_
  refine fo_iload (k := 6) (fa_198 rfl) ?_
  refine fo_if_eq (fa_198 rfl) (pcT := 149) rfl fs_198_149 ?_
  refine fo_aload_n (k := 0) (fa_198 rfl) ?_
  refine fo_getr (fa_198 rfl) (by decide) rfl ?_
  refine fo_iload_n (k := 2) (fa_198 rfl) ?_
  refine fo_aaload (fa_198 rfl) (by decide) (by decide) ?_
  refine fo_iconst (fa_198 rfl) fk_c_0 ?_
  refine fo_iaload (fa_198 rfl) ?_
  exact fo_goto (fa_198 rfl) (pcT := 150) rfl fs_198_150
theorem fs_198_130 : fSB 198 [0, 285, 295, 340, 350, 360, 420, 430, 440] 3 130 f_198_130 := by
  unfold f_198_130
  refine fo_iconst (fa_198 rfl) fk_c_0 ?_
  exact fs_198_131
theorem fs_198_112 : fSB 198 [0, 285, 295, 340, 350, 360, 420, 430, 440] 3 112 f_198_112 := by
  unfold f_198_112
  refine fo_istore (k := 6) (fa_198 rfl) ?_
  refine fo_iload (k := 6) (fa_198 rfl) ?_
  refine fo_if_eq (fa_198 rfl) (pcT := 130) rfl fs_198_130 ?_
  refine fo_aload_n (k := 0) (fa_198 rfl) ?_
  refine fo_getr (fa_198 rfl) (by decide) rfl ?_
  refine fo_iload_n (k := 1) (fa_198 rfl) ?_
  refine fo_aaload (fa_198 rfl) (by decide) (by decide) ?_
  refine fo_iconst (fa_198 rfl) fk_c_0 ?_
  refine fo_iaload (fa_198 rfl) ?_
  exact fo_goto (fa_198 rfl) (pcT := 131) rfl fs_198_131
theorem fs_198_111 : fSB 198 [0, 285, 295, 340, 350, 360, 420, 430, 440] 3 111 f_198_111 := by
  unfold f_198_111
  refine fo_iconst (fa_198 rfl) fk_c_0 ?_
  exact fs_198_112
theorem fs_198_54 : fSB 198 [0, 285, 295, 340, 350, 360, 420, 430, 440] 3 54 f_198_54 := by
  unfold f_198_54
  refine fo_istore (k := 5) (fa_198 rfl) ?_
  refine fo_iload (k := 5) (fa_198 rfl) ?_
  refine fo_if_eq (fa_198 rfl) (pcT := 111) rfl fs_198_111 ?_
  refine fo_aload_n (k := 0) (fa_198 rfl) ?_
  refine fo_getr (fa_198 rfl) (by decide) rfl ?_
  refine fo_iload_n (k := 1) (fa_198 rfl) ?_
  refine fo_aaload (fa_198 rfl) (by decide) (by decide) ?_
  refine fo_static (by decide) (fo_call (fa_198 rfl) fNs_static fsm_196 (by decide) fFil_2 fna_196 fx_196 (by rw [fP_196]; rfl) fh_198 ?_)
  refine fo_if_eq (fa_198 rfl) (pcT := 111) rfl fs_198_111 ?_
  refine fo_aload_n (k := 0) (fa_198 rfl) ?_
  refine fo_getr (fa_198 rfl) (by decide) rfl ?_
  refine fo_iload_n (k := 2) (fa_198 rfl) ?_
  refine fo_aaload (fa_198 rfl) (by decide) (by decide) ?_
  refine fo_static (by decide) (fo_call (fa_198 rfl) fNs_static fsm_196 (by decide) fFil_2 fna_196 fx_196 (by rw [fP_196]; rfl) fh_198 ?_)
  refine fo_if_eq (fa_198 rfl) (pcT := 111) rfl fs_198_111 ?_
  refine fo_aload_n (k := 0) (fa_198 rfl) ?_
  refine fo_getr (fa_198 rfl) (by decide) rfl ?_
  refine fo_iload_n (k := 1) (fa_198 rfl) ?_
  refine fo_aaload (fa_198 rfl) (by decide) (by decide) ?_
  refine fo_iconst (fa_198 rfl) fk_c_0 ?_
  refine fo_iaload (fa_198 rfl) ?_
  refine fo_aload_n (k := 0) (fa_198 rfl) ?_
  refine fo_getr (fa_198 rfl) (by decide) rfl ?_
  refine fo_iload_n (k := 2) (fa_198 rfl) ?_
  refine fo_aaload (fa_198 rfl) (by decide) (by decide) ?_
  refine fo_iconst (fa_198 rfl) fk_c_0 ?_
  refine fo_iaload (fa_198 rfl) ?_
  refine fo_imul (fa_198 rfl) ?_
  refine fo_bipush (fa_198 rfl) fk_b_31 ?_
  refine fo_icmp_gt (fa_198 rfl) (pcT := 111) rfl fs_198_111 ?_
  refine fo_iconst (fa_198 rfl) fk_c_1 ?_
  exact fo_goto (fa_198 rfl) (pcT := 112) rfl fs_198_112
theorem fs_198_53 : fSB 198 [0, 285, 295, 340, 350, 360, 420, 430, 440] 3 53 f_198_53 := by
  unfold f_198_53
  refine fo_iconst (fa_198 rfl) fk_c_0 ?_
  exact fs_198_54
theorem fs_198_26 : fSB 198 [0, 285, 295, 340, 350, 360, 420, 430, 440] 3 26 f_198_26 := by
  unfold f_198_26
  refine fo_istore (k := 4) (fa_198 rfl) ?_
  refine fo_iload (k := 4) (fa_198 rfl) ?_
  refine fo_if_eq (fa_198 rfl) (pcT := 53) rfl fs_198_53 ?_
  refine fo_aload_n (k := 0) (fa_198 rfl) ?_
  refine fo_iload_n (k := 1) (fa_198 rfl) ?_
  refine fo_virtual (by decide) fna_175 (fo_call (fa_198 rfl) fNs_virtual fsm_175 (by decide) fFil_0 fna_175 fx_175 (by rw [fP_175]; rfl) fh_198 ?_)
  refine fo_if_eq (fa_198 rfl) (pcT := 53) rfl fs_198_53 ?_
  refine fo_aload_n (k := 0) (fa_198 rfl) ?_
  refine fo_iload_n (k := 2) (fa_198 rfl) ?_
  refine fo_virtual (by decide) fna_175 (fo_call (fa_198 rfl) fNs_virtual fsm_175 (by decide) fFil_0 fna_175 fx_175 (by rw [fP_175]; rfl) fh_198 ?_)
  refine fo_if_eq (fa_198 rfl) (pcT := 53) rfl fs_198_53 ?_
  refine fo_iconst (fa_198 rfl) fk_c_1 ?_
  exact fo_goto (fa_198 rfl) (pcT := 54) rfl fs_198_54
theorem fs_198_25 : fSB 198 [0, 285, 295, 340, 350, 360, 420, 430, 440] 3 25 f_198_25 := by
  unfold f_198_25
  refine fo_iconst (fa_198 rfl) fk_c_0 ?_
  exact fs_198_26
theorem fs_198_0 : fSB 198 [0, 285, 295, 340, 350, 360, 420, 430, 440] 3 0 f_198_0 := by
  unfold f_198_0
  refine fo_iload_n (k := 1) (fa_198 rfl) ?_
  refine fo_static (by decide) (fo_call (fa_198 rfl) fNs_static fsm_173 (by decide) fFil_0 fna_173 fx_173 (by rw [fP_173]; rfl) fh_198 ?_)
  refine fo_if_eq (fa_198 rfl) (pcT := 25) rfl fs_198_25 ?_
  refine fo_iload_n (k := 2) (fa_198 rfl) ?_
  refine fo_static (by decide) (fo_call (fa_198 rfl) fNs_static fsm_173 (by decide) fFil_0 fna_173 fx_173 (by rw [fP_173]; rfl) fh_198 ?_)
  refine fo_if_eq (fa_198 rfl) (pcT := 25) rfl fs_198_25 ?_
  refine fo_iload_n (k := 3) (fa_198 rfl) ?_
  refine fo_static (by decide) (fo_call (fa_198 rfl) fNs_static fsm_173 (by decide) fFil_0 fna_173 fx_173 (by rw [fP_173]; rfl) fh_198 ?_)
  refine fo_if_eq (fa_198 rfl) (pcT := 25) rfl fs_198_25 ?_
  refine fo_iconst (fa_198 rfl) fk_c_1 ?_
  exact fo_goto (fa_198 rfl) (pcT := 26) rfl fs_198_26
theorem fsm_198 : fSM 198 3 fm_198 := fs_methH (lp := [0, 285, 295, 340, 350, 360, 420, 430, 440]) (by decide) rfl ⟨fs_198_0, fs_198_285, fs_198_295, fs_198_340, fs_198_350, fs_198_360, fs_198_420, fs_198_430, fs_198_440, trivial⟩
theorem fP_199 : mj_P 199 = (8, 2, (some .int), mcX8_points, []) := rfl
theorem fa_199 {pc : Nat} {e : mjE} (h : mj_at mcX8_points pc = some e) : fAt 199 pc e := by unfold fAt; rw [fP_199]; exact h
theorem fr_199 : (mj_P 199).2.2.1 = (some .int) := by rw [fP_199]
theorem fna_199 : (mj_P 199).2.1 = 2 := by rw [fP_199]
theorem fx_199 : 2 ≤ mj_mx.getD 199 0 := by decide
theorem fh_199 : (mj_P 199).2.2.2.2.isEmpty = true := by rw [fP_199]; rfl
theorem fs_199_46 : fSB 199 [0] 3 46 f_199_46 := by
  unfold f_199_46
  exact fo_iret (fa_199 rfl) fr_199 fw_int
theorem fs_199_38 : fSB 199 [0] 3 38 f_199_38 := by
  unfold f_199_38
  refine fo_aload_n (k := 0) (fa_199 rfl) ?_
  refine fo_getr (fa_199 rfl) (by decide) rfl ?_
  refine fo_iload_n (k := 1) (fa_199 rfl) ?_
  refine fo_aaload (fa_199 rfl) (by decide) (by decide) ?_
  refine fo_iconst (fa_199 rfl) fk_c_0 ?_
  refine fo_iaload (fa_199 rfl) ?_
  exact fs_199_46
theorem fs_199_26 : fSB 199 [0] 3 26 f_199_26 := by
  unfold f_199_26
  refine fo_iconst (fa_199 rfl) fk_c_0 ?_
  refine fo_iconst (fa_199 rfl) fk_c_0 ?_
  refine fo_virtual (by decide) fna_171 (fo_call (fa_199 rfl) fNs_virtual fsm_171 (by decide) fFil_0 fna_171 fx_171 (by rw [fP_171]; rfl) fh_199 ?_)
  refine fo_if_eq (fa_199 rfl) (pcT := 38) rfl fs_199_38 ?_
  refine fo_iconst (fa_199 rfl) fk_c_0 ?_
  exact fo_goto (fa_199 rfl) (pcT := 46) rfl fs_199_46
theorem fs_199_25 : fSB 199 [0] 3 25 f_199_25 := by
  unfold f_199_25
  refine fo_iconst (fa_199 rfl) fk_c_0 ?_
  exact fs_199_26
theorem fs_199_13 : fSB 199 [0] 3 13 f_199_13 := by
  unfold f_199_13
  refine fo_aload_n (k := 0) (fa_199 rfl) ?_
  refine fo_iload_n (k := 1) (fa_199 rfl) ?_
  refine fo_virtual (by decide) fna_175 (fo_call (fa_199 rfl) fNs_virtual fsm_175 (by decide) fFil_0 fna_175 fx_175 (by rw [fP_175]; rfl) fh_199 ?_)
  refine fo_if_ne (fa_199 rfl) (pcT := 25) rfl fs_199_25 ?_
  refine fo_iconst (fa_199 rfl) fk_c_1 ?_
  exact fo_goto (fa_199 rfl) (pcT := 26) rfl fs_199_26
theorem fs_199_12 : fSB 199 [0] 3 12 f_199_12 := by
  unfold f_199_12
  refine fo_iconst (fa_199 rfl) fk_c_0 ?_
  exact fs_199_13
theorem fs_199_0 : fSB 199 [0] 3 0 f_199_0 := by
  unfold f_199_0
  refine fo_aload_n (k := 0) (fa_199 rfl) ?_
  refine fo_iload_n (k := 1) (fa_199 rfl) ?_
  refine fo_static (by decide) (fo_call (fa_199 rfl) fNs_static fsm_173 (by decide) fFil_0 fna_173 fx_173 (by rw [fP_173]; rfl) fh_199 ?_)
  refine fo_if_ne (fa_199 rfl) (pcT := 12) rfl fs_199_12 ?_
  refine fo_iconst (fa_199 rfl) fk_c_1 ?_
  exact fo_goto (fa_199 rfl) (pcT := 13) rfl fs_199_13
theorem fsm_199 : fSM 199 3 fm_199 := fs_methH (lp := [0]) (by decide) rfl ⟨fs_199_0, trivial⟩
theorem fP_200 : mj_P 200 = (8, 2, (some .int), mcX8_blocks, []) := rfl
theorem fa_200 {pc : Nat} {e : mjE} (h : mj_at mcX8_blocks pc = some e) : fAt 200 pc e := by unfold fAt; rw [fP_200]; exact h
theorem fr_200 : (mj_P 200).2.2.1 = (some .int) := by rw [fP_200]
theorem fna_200 : (mj_P 200).2.1 = 2 := by rw [fP_200]
theorem fx_200 : 2 ≤ mj_mx.getD 200 0 := by decide
theorem fh_200 : (mj_P 200).2.2.2.2.isEmpty = true := by rw [fP_200]; rfl
theorem fs_200_47 : fSB 200 [0] 3 47 f_200_47 := by
  unfold f_200_47
  exact fo_iret (fa_200 rfl) fr_200 fw_int
theorem fs_200_38 : fSB 200 [0] 3 38 f_200_38 := by
  unfold f_200_38
  refine fo_aload_n (k := 0) (fa_200 rfl) ?_
  refine fo_getr (fa_200 rfl) (by decide) rfl ?_
  refine fo_iload_n (k := 1) (fa_200 rfl) ?_
  refine fo_aaload (fa_200 rfl) (by decide) (by decide) ?_
  refine fo_alen (fa_200 rfl) ?_
  refine fo_iconst (fa_200 rfl) fk_c_1 ?_
  refine fo_isub (fa_200 rfl) ?_
  exact fs_200_47
theorem fs_200_26 : fSB 200 [0] 3 26 f_200_26 := by
  unfold f_200_26
  refine fo_iconst (fa_200 rfl) fk_c_0 ?_
  refine fo_iconst (fa_200 rfl) fk_c_0 ?_
  refine fo_virtual (by decide) fna_171 (fo_call (fa_200 rfl) fNs_virtual fsm_171 (by decide) fFil_0 fna_171 fx_171 (by rw [fP_171]; rfl) fh_200 ?_)
  refine fo_if_eq (fa_200 rfl) (pcT := 38) rfl fs_200_38 ?_
  refine fo_iconst (fa_200 rfl) fk_c_0 ?_
  exact fo_goto (fa_200 rfl) (pcT := 47) rfl fs_200_47
theorem fs_200_25 : fSB 200 [0] 3 25 f_200_25 := by
  unfold f_200_25
  refine fo_iconst (fa_200 rfl) fk_c_0 ?_
  exact fs_200_26
theorem fs_200_13 : fSB 200 [0] 3 13 f_200_13 := by
  unfold f_200_13
  refine fo_aload_n (k := 0) (fa_200 rfl) ?_
  refine fo_iload_n (k := 1) (fa_200 rfl) ?_
  refine fo_virtual (by decide) fna_175 (fo_call (fa_200 rfl) fNs_virtual fsm_175 (by decide) fFil_0 fna_175 fx_175 (by rw [fP_175]; rfl) fh_200 ?_)
  refine fo_if_ne (fa_200 rfl) (pcT := 25) rfl fs_200_25 ?_
  refine fo_iconst (fa_200 rfl) fk_c_1 ?_
  exact fo_goto (fa_200 rfl) (pcT := 26) rfl fs_200_26
theorem fs_200_12 : fSB 200 [0] 3 12 f_200_12 := by
  unfold f_200_12
  refine fo_iconst (fa_200 rfl) fk_c_0 ?_
  exact fs_200_13
theorem fs_200_0 : fSB 200 [0] 3 0 f_200_0 := by
  unfold f_200_0
  refine fo_aload_n (k := 0) (fa_200 rfl) ?_
  refine fo_iload_n (k := 1) (fa_200 rfl) ?_
  refine fo_static (by decide) (fo_call (fa_200 rfl) fNs_static fsm_173 (by decide) fFil_0 fna_173 fx_173 (by rw [fP_173]; rfl) fh_200 ?_)
  refine fo_if_ne (fa_200 rfl) (pcT := 12) rfl fs_200_12 ?_
  refine fo_iconst (fa_200 rfl) fk_c_1 ?_
  exact fo_goto (fa_200 rfl) (pcT := 13) rfl fs_200_13
theorem fsm_200 : fSM 200 3 fm_200 := fs_methH (lp := [0]) (by decide) rfl ⟨fs_200_0, trivial⟩
theorem fP_201 : mj_P 201 = (8, 3, (some .boolean), mcX8_hasBlock, []) := rfl
theorem fa_201 {pc : Nat} {e : mjE} (h : mj_at mcX8_hasBlock pc = some e) : fAt 201 pc e := by unfold fAt; rw [fP_201]; exact h
theorem fr_201 : (mj_P 201).2.2.1 = (some .boolean) := by rw [fP_201]
theorem fna_201 : (mj_P 201).2.1 = 3 := by rw [fP_201]
theorem fx_201 : 3 ≤ mj_mx.getD 201 0 := by decide
theorem fh_201 : (mj_P 201).2.2.2.2.isEmpty = true := by rw [fP_201]; rfl
theorem fs_201_32 : fSB 201 [0] 3 32 f_201_32 := by
  unfold f_201_32
  exact fo_iret (fa_201 rfl) fr_201 fw_bool
theorem fs_201_31 : fSB 201 [0] 3 31 f_201_31 := by
  unfold f_201_31
  refine fo_iconst (fa_201 rfl) fk_c_0 ?_
  exact fs_201_32
theorem fs_201_0 : fSB 201 [0] 3 0 f_201_0 := by
  unfold f_201_0
  refine fo_aload_n (k := 0) (fa_201 rfl) ?_
  refine fo_iload_n (k := 1) (fa_201 rfl) ?_
  refine fo_virtual (by decide) fna_175 (fo_call (fa_201 rfl) fNs_virtual fsm_175 (by decide) fFil_0 fna_175 fx_175 (by rw [fP_175]; rfl) fh_201 ?_)
  refine fo_if_eq (fa_201 rfl) (pcT := 31) rfl fs_201_31 ?_
  refine fo_iload_n (k := 2) (fa_201 rfl) ?_
  refine fo_i2l (fa_201 rfl) ?_
  refine fo_lconst (fa_201 rfl) rfl ?_
  refine fo_aload_n (k := 0) (fa_201 rfl) ?_
  refine fo_getr (fa_201 rfl) (by decide) rfl ?_
  refine fo_iload_n (k := 1) (fa_201 rfl) ?_
  refine fo_aaload (fa_201 rfl) (by decide) (by decide) ?_
  refine fo_alen (fa_201 rfl) ?_
  refine fo_iconst (fa_201 rfl) fk_c_2 ?_
  refine fo_isub (fa_201 rfl) ?_
  refine fo_i2l (fa_201 rfl) ?_
  refine fo_static (by decide) (fo_call (fa_201 rfl) fNs_static fsm_172 (by decide) fFil_0 fna_172 fx_172 (by rw [fP_172]; rfl) fh_201 ?_)
  refine fo_if_eq (fa_201 rfl) (pcT := 31) rfl fs_201_31 ?_
  refine fo_iconst (fa_201 rfl) fk_c_1 ?_
  exact fo_goto (fa_201 rfl) (pcT := 32) rfl fs_201_32
theorem fsm_201 : fSM 201 3 fm_201 := fs_methH (lp := [0]) (by decide) rfl ⟨fs_201_0, trivial⟩
theorem fP_202 : mj_P 202 = (8, 3, (some .boolean), mcX8_hasPoint, []) := rfl
theorem fa_202 {pc : Nat} {e : mjE} (h : mj_at mcX8_hasPoint pc = some e) : fAt 202 pc e := by unfold fAt; rw [fP_202]; exact h
theorem fr_202 : (mj_P 202).2.2.1 = (some .boolean) := by rw [fP_202]
theorem fna_202 : (mj_P 202).2.1 = 3 := by rw [fP_202]
theorem fx_202 : 3 ≤ mj_mx.getD 202 0 := by decide
theorem fh_202 : (mj_P 202).2.2.2.2.isEmpty = true := by rw [fP_202]; rfl
theorem fs_202_33 : fSB 202 [0] 3 33 f_202_33 := by
  unfold f_202_33
  exact fo_iret (fa_202 rfl) fr_202 fw_bool
theorem fs_202_32 : fSB 202 [0] 3 32 f_202_32 := by
  unfold f_202_32
  refine fo_iconst (fa_202 rfl) fk_c_0 ?_
  exact fs_202_33
theorem fs_202_0 : fSB 202 [0] 3 0 f_202_0 := by
  unfold f_202_0
  refine fo_aload_n (k := 0) (fa_202 rfl) ?_
  refine fo_iload_n (k := 1) (fa_202 rfl) ?_
  refine fo_virtual (by decide) fna_175 (fo_call (fa_202 rfl) fNs_virtual fsm_175 (by decide) fFil_0 fna_175 fx_175 (by rw [fP_175]; rfl) fh_202 ?_)
  refine fo_if_eq (fa_202 rfl) (pcT := 32) rfl fs_202_32 ?_
  refine fo_iload_n (k := 2) (fa_202 rfl) ?_
  refine fo_i2l (fa_202 rfl) ?_
  refine fo_lconst (fa_202 rfl) rfl ?_
  refine fo_aload_n (k := 0) (fa_202 rfl) ?_
  refine fo_getr (fa_202 rfl) (by decide) rfl ?_
  refine fo_iload_n (k := 1) (fa_202 rfl) ?_
  refine fo_aaload (fa_202 rfl) (by decide) (by decide) ?_
  refine fo_iconst (fa_202 rfl) fk_c_0 ?_
  refine fo_iaload (fa_202 rfl) ?_
  refine fo_iconst (fa_202 rfl) fk_c_1 ?_
  refine fo_isub (fa_202 rfl) ?_
  refine fo_i2l (fa_202 rfl) ?_
  refine fo_static (by decide) (fo_call (fa_202 rfl) fNs_static fsm_172 (by decide) fFil_0 fna_172 fx_172 (by rw [fP_172]; rfl) fh_202 ?_)
  refine fo_if_eq (fa_202 rfl) (pcT := 32) rfl fs_202_32 ?_
  refine fo_iconst (fa_202 rfl) fk_c_1 ?_
  exact fo_goto (fa_202 rfl) (pcT := 33) rfl fs_202_33
theorem fsm_202 : fSM 202 3 fm_202 := fs_methH (lp := [0]) (by decide) rfl ⟨fs_202_0, trivial⟩
theorem fP_203 : mj_P 203 = (8, 3, (some .int), mcX8_bitsOf, []) := rfl
theorem fa_203 {pc : Nat} {e : mjE} (h : mj_at mcX8_bitsOf pc = some e) : fAt 203 pc e := by unfold fAt; rw [fP_203]; exact h
theorem fr_203 : (mj_P 203).2.2.1 = (some .int) := by rw [fP_203]
theorem fna_203 : (mj_P 203).2.1 = 3 := by rw [fP_203]
theorem fx_203 : 3 ≤ mj_mx.getD 203 0 := by decide
theorem fh_203 : (mj_P 203).2.2.2.2.isEmpty = true := by rw [fP_203]; rfl
theorem fs_203_49 : fSB 203 [0] 4 49 f_203_49 := by
  unfold f_203_49
  exact fo_iret (fa_203 rfl) fr_203 fw_int
theorem fs_203_39 : fSB 203 [0] 4 39 f_203_39 := by
  unfold f_203_39
  refine fo_aload_n (k := 0) (fa_203 rfl) ?_
  refine fo_getr (fa_203 rfl) (by decide) rfl ?_
  refine fo_iload_n (k := 1) (fa_203 rfl) ?_
  refine fo_aaload (fa_203 rfl) (by decide) (by decide) ?_
  refine fo_iconst (fa_203 rfl) fk_c_1 ?_
  refine fo_iload_n (k := 2) (fa_203 rfl) ?_
  refine fo_iadd (fa_203 rfl) ?_
  refine fo_iaload (fa_203 rfl) ?_
  exact fs_203_49
theorem fs_203_27 : fSB 203 [0] 4 27 f_203_27 := by
  unfold f_203_27
  refine fo_iconst (fa_203 rfl) fk_c_0 ?_
  refine fo_iconst (fa_203 rfl) fk_c_0 ?_
  refine fo_virtual (by decide) fna_171 (fo_call (fa_203 rfl) fNs_virtual fsm_171 (by decide) fFil_0 fna_171 fx_171 (by rw [fP_171]; rfl) fh_203 ?_)
  refine fo_if_eq (fa_203 rfl) (pcT := 39) rfl fs_203_39 ?_
  refine fo_iconst (fa_203 rfl) fk_c_0 ?_
  exact fo_goto (fa_203 rfl) (pcT := 49) rfl fs_203_49
theorem fs_203_26 : fSB 203 [0] 4 26 f_203_26 := by
  unfold f_203_26
  refine fo_iconst (fa_203 rfl) fk_c_0 ?_
  exact fs_203_27
theorem fs_203_13 : fSB 203 [0] 4 13 f_203_13 := by
  unfold f_203_13
  refine fo_aload_n (k := 0) (fa_203 rfl) ?_
  refine fo_iload_n (k := 1) (fa_203 rfl) ?_
  refine fo_iload_n (k := 2) (fa_203 rfl) ?_
  refine fo_virtual (by decide) fna_201 (fo_call (fa_203 rfl) fNs_virtual fsm_201 (by decide) fFil_0 fna_201 fx_201 (by rw [fP_201]; rfl) fh_203 ?_)
  refine fo_if_ne (fa_203 rfl) (pcT := 26) rfl fs_203_26 ?_
  refine fo_iconst (fa_203 rfl) fk_c_1 ?_
  exact fo_goto (fa_203 rfl) (pcT := 27) rfl fs_203_27
theorem fs_203_12 : fSB 203 [0] 4 12 f_203_12 := by
  unfold f_203_12
  refine fo_iconst (fa_203 rfl) fk_c_0 ?_
  exact fs_203_13
theorem fs_203_0 : fSB 203 [0] 4 0 f_203_0 := by
  unfold f_203_0
  refine fo_aload_n (k := 0) (fa_203 rfl) ?_
  refine fo_iload_n (k := 1) (fa_203 rfl) ?_
  refine fo_static (by decide) (fo_call (fa_203 rfl) fNs_static fsm_173 (by decide) fFil_0 fna_173 fx_173 (by rw [fP_173]; rfl) fh_203 ?_)
  refine fo_if_ne (fa_203 rfl) (pcT := 12) rfl fs_203_12 ?_
  refine fo_iconst (fa_203 rfl) fk_c_1 ?_
  exact fo_goto (fa_203 rfl) (pcT := 13) rfl fs_203_13
theorem fsm_203 : fSM 203 4 fm_203 := fs_methH (lp := [0]) (by decide) rfl ⟨fs_203_0, trivial⟩
theorem fP_204 : mj_P 204 = (8, 2, (some .int), mcX8_with, []) := rfl
theorem fa_204 {pc : Nat} {e : mjE} (h : mj_at mcX8_with pc = some e) : fAt 204 pc e := by unfold fAt; rw [fP_204]; exact h
theorem fr_204 : (mj_P 204).2.2.1 = (some .int) := by rw [fP_204]
theorem fna_204 : (mj_P 204).2.1 = 2 := by rw [fP_204]
theorem fx_204 : 2 ≤ mj_mx.getD 204 0 := by decide
theorem fh_204 : (mj_P 204).2.2.2.2.isEmpty = true := by rw [fP_204]; rfl
theorem fs_204_33 : fSB 204 [0, 4] 0 33 f_204_33 := by
  unfold f_204_33
  refine fo_iload_n (k := 2) (fa_204 rfl) ?_
  exact fo_iret (fa_204 rfl) fr_204 fw_int
theorem fs_204_25 : fSB 204 [0, 4] 0 25 f_204_25 := by
  unfold f_204_25
  refine fo_iadd (fa_204 rfl) ?_
  refine fo_istore_n (k := 2) (fa_204 rfl) ?_
  refine fo_iinc (k := 3) (fa_204 rfl) fk_c_1 ?_
  exact fo_goto (fa_204 rfl) (pcT := 4) rfl (fo_back (q := 4) rfl)
theorem fs_204_24 : fSB 204 [0, 4] 0 24 f_204_24 := by
  unfold f_204_24
  refine fo_iconst (fa_204 rfl) fk_c_0 ?_
  exact fs_204_25
theorem fs_204_4 : fSB 204 [0, 4] 0 4 f_204_4 := by
  unfold f_204_4
  refine fo_iload_n (k := 3) (fa_204 rfl) ?_
  refine fo_aload_n (k := 0) (fa_204 rfl) ?_
  refine fo_alen (fa_204 rfl) ?_
  refine fo_icmp_ge (fa_204 rfl) (pcT := 33) rfl fs_204_33 ?_
  refine fo_iload_n (k := 2) (fa_204 rfl) ?_
  refine fo_aload_n (k := 0) (fa_204 rfl) ?_
  refine fo_iload_n (k := 3) (fa_204 rfl) ?_
  refine fo_iaload (fa_204 rfl) ?_
  refine fo_iload_n (k := 1) (fa_204 rfl) ?_
  refine fo_iand (fa_204 rfl) ?_
  refine fo_iload_n (k := 1) (fa_204 rfl) ?_
  refine fo_icmp_ne (fa_204 rfl) (pcT := 24) rfl fs_204_24 ?_
  refine fo_iconst (fa_204 rfl) fk_c_1 ?_
  exact fo_goto (fa_204 rfl) (pcT := 25) rfl fs_204_25
theorem fs_204_0 : fSB 204 [0, 4] 0 0 f_204_0 := by
  unfold f_204_0
  refine fo_iconst (fa_204 rfl) fk_c_0 ?_
  refine fo_istore_n (k := 2) (fa_204 rfl) ?_
  refine fo_iconst (fa_204 rfl) fk_c_1 ?_
  refine fo_istore_n (k := 3) (fa_204 rfl) ?_
  exact fs_204_4
theorem fsm_204 : fSM 204 0 fm_204 := fs_methH (lp := [0, 4]) (by decide) rfl ⟨fs_204_0, fs_204_4, trivial⟩
theorem fP_205 : mj_P 205 = (8, 3, (some .int), mcX8_often, []) := rfl
theorem fa_205 {pc : Nat} {e : mjE} (h : mj_at mcX8_often pc = some e) : fAt 205 pc e := by unfold fAt; rw [fP_205]; exact h
theorem fr_205 : (mj_P 205).2.2.1 = (some .int) := by rw [fP_205]
theorem fna_205 : (mj_P 205).2.1 = 3 := by rw [fP_205]
theorem fx_205 : 3 ≤ mj_mx.getD 205 0 := by decide
theorem fh_205 : (mj_P 205).2.2.2.2.isEmpty = true := by rw [fP_205]; rfl
theorem fs_205_51 : fSB 205 [0] 4 51 f_205_51 := by
  unfold f_205_51
  exact fo_iret (fa_205 rfl) fr_205 fw_int
theorem fs_205_39 : fSB 205 [0] 4 39 f_205_39 := by
  unfold f_205_39
  refine fo_aload_n (k := 0) (fa_205 rfl) ?_
  refine fo_getr (fa_205 rfl) (by decide) rfl ?_
  refine fo_iload_n (k := 1) (fa_205 rfl) ?_
  refine fo_aaload (fa_205 rfl) (by decide) (by decide) ?_
  refine fo_iconst (fa_205 rfl) fk_c_1 ?_
  refine fo_iload_n (k := 2) (fa_205 rfl) ?_
  refine fo_ishl (fa_205 rfl) ?_
  refine fo_static (by decide) (fo_call (fa_205 rfl) fNs_static fsm_204 (by decide) fFil_2 fna_204 fx_204 (by rw [fP_204]; rfl) fh_205 ?_)
  exact fs_205_51
theorem fs_205_27 : fSB 205 [0] 4 27 f_205_27 := by
  unfold f_205_27
  refine fo_iconst (fa_205 rfl) fk_c_0 ?_
  refine fo_iconst (fa_205 rfl) fk_c_0 ?_
  refine fo_virtual (by decide) fna_171 (fo_call (fa_205 rfl) fNs_virtual fsm_171 (by decide) fFil_0 fna_171 fx_171 (by rw [fP_171]; rfl) fh_205 ?_)
  refine fo_if_eq (fa_205 rfl) (pcT := 39) rfl fs_205_39 ?_
  refine fo_iconst (fa_205 rfl) fk_c_0 ?_
  exact fo_goto (fa_205 rfl) (pcT := 51) rfl fs_205_51
theorem fs_205_26 : fSB 205 [0] 4 26 f_205_26 := by
  unfold f_205_26
  refine fo_iconst (fa_205 rfl) fk_c_0 ?_
  exact fs_205_27
theorem fs_205_13 : fSB 205 [0] 4 13 f_205_13 := by
  unfold f_205_13
  refine fo_aload_n (k := 0) (fa_205 rfl) ?_
  refine fo_iload_n (k := 1) (fa_205 rfl) ?_
  refine fo_iload_n (k := 2) (fa_205 rfl) ?_
  refine fo_virtual (by decide) fna_202 (fo_call (fa_205 rfl) fNs_virtual fsm_202 (by decide) fFil_0 fna_202 fx_202 (by rw [fP_202]; rfl) fh_205 ?_)
  refine fo_if_ne (fa_205 rfl) (pcT := 26) rfl fs_205_26 ?_
  refine fo_iconst (fa_205 rfl) fk_c_1 ?_
  exact fo_goto (fa_205 rfl) (pcT := 27) rfl fs_205_27
theorem fs_205_12 : fSB 205 [0] 4 12 f_205_12 := by
  unfold f_205_12
  refine fo_iconst (fa_205 rfl) fk_c_0 ?_
  exact fs_205_13
theorem fs_205_0 : fSB 205 [0] 4 0 f_205_0 := by
  unfold f_205_0
  refine fo_aload_n (k := 0) (fa_205 rfl) ?_
  refine fo_iload_n (k := 1) (fa_205 rfl) ?_
  refine fo_static (by decide) (fo_call (fa_205 rfl) fNs_static fsm_173 (by decide) fFil_0 fna_173 fx_173 (by rw [fP_173]; rfl) fh_205 ?_)
  refine fo_if_ne (fa_205 rfl) (pcT := 12) rfl fs_205_12 ?_
  refine fo_iconst (fa_205 rfl) fk_c_1 ?_
  exact fo_goto (fa_205 rfl) (pcT := 13) rfl fs_205_13
theorem fsm_205 : fSM 205 4 fm_205 := fs_methH (lp := [0]) (by decide) rfl ⟨fs_205_0, trivial⟩
theorem fP_206 : mj_P 206 = (8, 4, (some .int), mcX8_pairs, []) := rfl
theorem fa_206 {pc : Nat} {e : mjE} (h : mj_at mcX8_pairs pc = some e) : fAt 206 pc e := by unfold fAt; rw [fP_206]; exact h
theorem fr_206 : (mj_P 206).2.2.1 = (some .int) := by rw [fP_206]
theorem fna_206 : (mj_P 206).2.1 = 4 := by rw [fP_206]
theorem fx_206 : 4 ≤ mj_mx.getD 206 0 := by decide
theorem fh_206 : (mj_P 206).2.2.2.2.isEmpty = true := by rw [fP_206]; rfl
theorem fs_206_64 : fSB 206 [0] 4 64 f_206_64 := by
  unfold f_206_64
  exact fo_iret (fa_206 rfl) fr_206 fw_int
theorem fs_206_48 : fSB 206 [0] 4 48 f_206_48 := by
  unfold f_206_48
  refine fo_aload_n (k := 0) (fa_206 rfl) ?_
  refine fo_getr (fa_206 rfl) (by decide) rfl ?_
  refine fo_iload_n (k := 1) (fa_206 rfl) ?_
  refine fo_aaload (fa_206 rfl) (by decide) (by decide) ?_
  refine fo_iconst (fa_206 rfl) fk_c_1 ?_
  refine fo_iload_n (k := 2) (fa_206 rfl) ?_
  refine fo_ishl (fa_206 rfl) ?_
  refine fo_iconst (fa_206 rfl) fk_c_1 ?_
  refine fo_iload_n (k := 3) (fa_206 rfl) ?_
  refine fo_ishl (fa_206 rfl) ?_
  refine fo_ior (fa_206 rfl) ?_
  refine fo_static (by decide) (fo_call (fa_206 rfl) fNs_static fsm_204 (by decide) fFil_2 fna_204 fx_204 (by rw [fP_204]; rfl) fh_206 ?_)
  exact fs_206_64
theorem fs_206_36 : fSB 206 [0] 4 36 f_206_36 := by
  unfold f_206_36
  refine fo_iconst (fa_206 rfl) fk_c_0 ?_
  refine fo_iconst (fa_206 rfl) fk_c_0 ?_
  refine fo_virtual (by decide) fna_171 (fo_call (fa_206 rfl) fNs_virtual fsm_171 (by decide) fFil_0 fna_171 fx_171 (by rw [fP_171]; rfl) fh_206 ?_)
  refine fo_if_eq (fa_206 rfl) (pcT := 48) rfl fs_206_48 ?_
  refine fo_iconst (fa_206 rfl) fk_c_0 ?_
  exact fo_goto (fa_206 rfl) (pcT := 64) rfl fs_206_64
theorem fs_206_35 : fSB 206 [0] 4 35 f_206_35 := by
  unfold f_206_35
  refine fo_iconst (fa_206 rfl) fk_c_0 ?_
  exact fs_206_36
theorem fs_206_31 : fSB 206 [0] 4 31 f_206_31 := by
  unfold f_206_31
  refine fo_iconst (fa_206 rfl) fk_c_1 ?_
  exact fo_goto (fa_206 rfl) (pcT := 36) rfl fs_206_36
theorem fs_206_13 : fSB 206 [0] 4 13 f_206_13 := by
  unfold f_206_13
  refine fo_aload_n (k := 0) (fa_206 rfl) ?_
  refine fo_iload_n (k := 1) (fa_206 rfl) ?_
  refine fo_iload_n (k := 2) (fa_206 rfl) ?_
  refine fo_virtual (by decide) fna_202 (fo_call (fa_206 rfl) fNs_virtual fsm_202 (by decide) fFil_0 fna_202 fx_202 (by rw [fP_202]; rfl) fh_206 ?_)
  refine fo_if_eq (fa_206 rfl) (pcT := 31) rfl fs_206_31 ?_
  refine fo_aload_n (k := 0) (fa_206 rfl) ?_
  refine fo_iload_n (k := 1) (fa_206 rfl) ?_
  refine fo_iload_n (k := 3) (fa_206 rfl) ?_
  refine fo_virtual (by decide) fna_202 (fo_call (fa_206 rfl) fNs_virtual fsm_202 (by decide) fFil_0 fna_202 fx_202 (by rw [fP_202]; rfl) fh_206 ?_)
  refine fo_if_ne (fa_206 rfl) (pcT := 35) rfl fs_206_35 ?_
  exact fs_206_31
theorem fs_206_12 : fSB 206 [0] 4 12 f_206_12 := by
  unfold f_206_12
  refine fo_iconst (fa_206 rfl) fk_c_0 ?_
  exact fs_206_13
theorem fs_206_0 : fSB 206 [0] 4 0 f_206_0 := by
  unfold f_206_0
  refine fo_aload_n (k := 0) (fa_206 rfl) ?_
  refine fo_iload_n (k := 1) (fa_206 rfl) ?_
  refine fo_static (by decide) (fo_call (fa_206 rfl) fNs_static fsm_173 (by decide) fFil_0 fna_173 fx_173 (by rw [fP_173]; rfl) fh_206 ?_)
  refine fo_if_ne (fa_206 rfl) (pcT := 12) rfl fs_206_12 ?_
  refine fo_iconst (fa_206 rfl) fk_c_1 ?_
  exact fo_goto (fa_206 rfl) (pcT := 13) rfl fs_206_13
theorem fsm_206 : fSM 206 4 fm_206 := fs_methH (lp := [0]) (by decide) rfl ⟨fs_206_0, trivial⟩
theorem fP_207 : mj_P 207 = (8, 4, (some .int), mcX8_meets, []) := rfl
theorem fa_207 {pc : Nat} {e : mjE} (h : mj_at mcX8_meets pc = some e) : fAt 207 pc e := by unfold fAt; rw [fP_207]; exact h
theorem fr_207 : (mj_P 207).2.2.1 = (some .int) := by rw [fP_207]
theorem fna_207 : (mj_P 207).2.1 = 4 := by rw [fP_207]
theorem fx_207 : 4 ≤ mj_mx.getD 207 0 := by decide
theorem fh_207 : (mj_P 207).2.2.2.2.isEmpty = true := by rw [fP_207]; rfl
theorem fs_207_84 : fSB 207 [0] 4 84 f_207_84 := by
  unfold f_207_84
  exact fo_iret (fa_207 rfl) fr_207 fw_int
theorem fs_207_60 : fSB 207 [0] 4 60 f_207_60 := by
  unfold f_207_60
  refine fo_aload_n (k := 0) (fa_207 rfl) ?_
  refine fo_getr (fa_207 rfl) (by decide) rfl ?_
  refine fo_iload_n (k := 1) (fa_207 rfl) ?_
  refine fo_aaload (fa_207 rfl) (by decide) (by decide) ?_
  refine fo_iconst (fa_207 rfl) fk_c_1 ?_
  refine fo_iload_n (k := 2) (fa_207 rfl) ?_
  refine fo_iadd (fa_207 rfl) ?_
  refine fo_iaload (fa_207 rfl) ?_
  refine fo_aload_n (k := 0) (fa_207 rfl) ?_
  refine fo_getr (fa_207 rfl) (by decide) rfl ?_
  refine fo_iload_n (k := 1) (fa_207 rfl) ?_
  refine fo_aaload (fa_207 rfl) (by decide) (by decide) ?_
  refine fo_iconst (fa_207 rfl) fk_c_1 ?_
  refine fo_iload_n (k := 3) (fa_207 rfl) ?_
  refine fo_iadd (fa_207 rfl) ?_
  refine fo_iaload (fa_207 rfl) ?_
  refine fo_iand (fa_207 rfl) ?_
  refine fo_static (by decide) (fo_call (fa_207 rfl) fNs_static fsm_182 (by decide) fFil_2 fna_182 fx_182 (by rw [fP_182]; rfl) fh_207 ?_)
  exact fs_207_84
theorem fs_207_48 : fSB 207 [0] 4 48 f_207_48 := by
  unfold f_207_48
  refine fo_iconst (fa_207 rfl) fk_c_0 ?_
  refine fo_iconst (fa_207 rfl) fk_c_0 ?_
  refine fo_virtual (by decide) fna_171 (fo_call (fa_207 rfl) fNs_virtual fsm_171 (by decide) fFil_0 fna_171 fx_171 (by rw [fP_171]; rfl) fh_207 ?_)
  refine fo_if_eq (fa_207 rfl) (pcT := 60) rfl fs_207_60 ?_
  refine fo_iconst (fa_207 rfl) fk_c_0 ?_
  exact fo_goto (fa_207 rfl) (pcT := 84) rfl fs_207_84
theorem fs_207_47 : fSB 207 [0] 4 47 f_207_47 := by
  unfold f_207_47
  refine fo_iconst (fa_207 rfl) fk_c_0 ?_
  exact fs_207_48
theorem fs_207_38 : fSB 207 [0] 4 38 f_207_38 := by
  unfold f_207_38
  refine fo_iload (k := 4) (fa_207 rfl) ?_
  refine fo_if_ne (fa_207 rfl) (pcT := 47) rfl fs_207_47 ?_
  refine fo_iconst (fa_207 rfl) fk_c_1 ?_
  exact fo_goto (fa_207 rfl) (pcT := 48) rfl fs_207_48
theorem fs_207_37 : fSB 207 [0] 4 37 f_207_37 := by
  unfold f_207_37
  refine fo_iconst (fa_207 rfl) fk_c_0 ?_
  exact fs_207_38
theorem fs_207_23 : fSB 207 [0] 4 23 f_207_23 := by
  unfold f_207_23
  refine fo_istore (k := 4) (fa_207 rfl) ?_
  refine fo_aload_n (k := 0) (fa_207 rfl) ?_
  refine fo_iload_n (k := 1) (fa_207 rfl) ?_
  refine fo_static (by decide) (fo_call (fa_207 rfl) fNs_static fsm_173 (by decide) fFil_0 fna_173 fx_173 (by rw [fP_173]; rfl) fh_207 ?_)
  refine fo_if_ne (fa_207 rfl) (pcT := 37) rfl fs_207_37 ?_
  refine fo_iconst (fa_207 rfl) fk_c_1 ?_
  exact fo_goto (fa_207 rfl) (pcT := 38) rfl fs_207_38
theorem fs_207_22 : fSB 207 [0] 4 22 f_207_22 := by
  unfold f_207_22
  refine fo_iconst (fa_207 rfl) fk_c_0 ?_
  exact fs_207_23
theorem fs_207_0 : fSB 207 [0] 4 0 f_207_0 := by
  unfold f_207_0
  refine fo_aload_n (k := 0) (fa_207 rfl) ?_
  refine fo_iload_n (k := 1) (fa_207 rfl) ?_
  refine fo_iload_n (k := 2) (fa_207 rfl) ?_
  refine fo_virtual (by decide) fna_201 (fo_call (fa_207 rfl) fNs_virtual fsm_201 (by decide) fFil_0 fna_201 fx_201 (by rw [fP_201]; rfl) fh_207 ?_)
  refine fo_if_eq (fa_207 rfl) (pcT := 22) rfl fs_207_22 ?_
  refine fo_aload_n (k := 0) (fa_207 rfl) ?_
  refine fo_iload_n (k := 1) (fa_207 rfl) ?_
  refine fo_iload_n (k := 3) (fa_207 rfl) ?_
  refine fo_virtual (by decide) fna_201 (fo_call (fa_207 rfl) fNs_virtual fsm_201 (by decide) fFil_0 fna_201 fx_201 (by rw [fP_201]; rfl) fh_207 ?_)
  refine fo_if_eq (fa_207 rfl) (pcT := 22) rfl fs_207_22 ?_
  refine fo_iconst (fa_207 rfl) fk_c_1 ?_
  exact fo_goto (fa_207 rfl) (pcT := 23) rfl fs_207_23
theorem fsm_207 : fSM 207 4 fm_207 := fs_methH (lp := [0]) (by decide) rfl ⟨fs_207_0, trivial⟩
theorem fP_208 : mj_P 208 = (8, 4, (some .int), mcX8_distance, []) := rfl
theorem fa_208 {pc : Nat} {e : mjE} (h : mj_at mcX8_distance pc = some e) : fAt 208 pc e := by unfold fAt; rw [fP_208]; exact h
theorem fr_208 : (mj_P 208).2.2.1 = (some .int) := by rw [fP_208]
theorem fna_208 : (mj_P 208).2.1 = 4 := by rw [fP_208]
theorem fx_208 : 4 ≤ mj_mx.getD 208 0 := by decide
theorem fh_208 : (mj_P 208).2.2.2.2.isEmpty = true := by rw [fP_208]; rfl
theorem fs_208_84 : fSB 208 [0] 4 84 f_208_84 := by
  unfold f_208_84
  exact fo_iret (fa_208 rfl) fr_208 fw_int
theorem fs_208_60 : fSB 208 [0] 4 60 f_208_60 := by
  unfold f_208_60
  refine fo_aload_n (k := 0) (fa_208 rfl) ?_
  refine fo_getr (fa_208 rfl) (by decide) rfl ?_
  refine fo_iload_n (k := 1) (fa_208 rfl) ?_
  refine fo_aaload (fa_208 rfl) (by decide) (by decide) ?_
  refine fo_iconst (fa_208 rfl) fk_c_1 ?_
  refine fo_iload_n (k := 2) (fa_208 rfl) ?_
  refine fo_iadd (fa_208 rfl) ?_
  refine fo_iaload (fa_208 rfl) ?_
  refine fo_aload_n (k := 0) (fa_208 rfl) ?_
  refine fo_getr (fa_208 rfl) (by decide) rfl ?_
  refine fo_iload_n (k := 1) (fa_208 rfl) ?_
  refine fo_aaload (fa_208 rfl) (by decide) (by decide) ?_
  refine fo_iconst (fa_208 rfl) fk_c_1 ?_
  refine fo_iload_n (k := 3) (fa_208 rfl) ?_
  refine fo_iadd (fa_208 rfl) ?_
  refine fo_iaload (fa_208 rfl) ?_
  refine fo_ixor (fa_208 rfl) ?_
  refine fo_static (by decide) (fo_call (fa_208 rfl) fNs_static fsm_182 (by decide) fFil_2 fna_182 fx_182 (by rw [fP_182]; rfl) fh_208 ?_)
  exact fs_208_84
theorem fs_208_48 : fSB 208 [0] 4 48 f_208_48 := by
  unfold f_208_48
  refine fo_iconst (fa_208 rfl) fk_c_0 ?_
  refine fo_iconst (fa_208 rfl) fk_c_0 ?_
  refine fo_virtual (by decide) fna_171 (fo_call (fa_208 rfl) fNs_virtual fsm_171 (by decide) fFil_0 fna_171 fx_171 (by rw [fP_171]; rfl) fh_208 ?_)
  refine fo_if_eq (fa_208 rfl) (pcT := 60) rfl fs_208_60 ?_
  refine fo_iconst (fa_208 rfl) fk_c_0 ?_
  exact fo_goto (fa_208 rfl) (pcT := 84) rfl fs_208_84
theorem fs_208_47 : fSB 208 [0] 4 47 f_208_47 := by
  unfold f_208_47
  refine fo_iconst (fa_208 rfl) fk_c_0 ?_
  exact fs_208_48
theorem fs_208_38 : fSB 208 [0] 4 38 f_208_38 := by
  unfold f_208_38
  refine fo_iload (k := 4) (fa_208 rfl) ?_
  refine fo_if_ne (fa_208 rfl) (pcT := 47) rfl fs_208_47 ?_
  refine fo_iconst (fa_208 rfl) fk_c_1 ?_
  exact fo_goto (fa_208 rfl) (pcT := 48) rfl fs_208_48
theorem fs_208_37 : fSB 208 [0] 4 37 f_208_37 := by
  unfold f_208_37
  refine fo_iconst (fa_208 rfl) fk_c_0 ?_
  exact fs_208_38
theorem fs_208_23 : fSB 208 [0] 4 23 f_208_23 := by
  unfold f_208_23
  refine fo_istore (k := 4) (fa_208 rfl) ?_
  refine fo_aload_n (k := 0) (fa_208 rfl) ?_
  refine fo_iload_n (k := 1) (fa_208 rfl) ?_
  refine fo_static (by decide) (fo_call (fa_208 rfl) fNs_static fsm_173 (by decide) fFil_0 fna_173 fx_173 (by rw [fP_173]; rfl) fh_208 ?_)
  refine fo_if_ne (fa_208 rfl) (pcT := 37) rfl fs_208_37 ?_
  refine fo_iconst (fa_208 rfl) fk_c_1 ?_
  exact fo_goto (fa_208 rfl) (pcT := 38) rfl fs_208_38
theorem fs_208_22 : fSB 208 [0] 4 22 f_208_22 := by
  unfold f_208_22
  refine fo_iconst (fa_208 rfl) fk_c_0 ?_
  exact fs_208_23
theorem fs_208_0 : fSB 208 [0] 4 0 f_208_0 := by
  unfold f_208_0
  refine fo_aload_n (k := 0) (fa_208 rfl) ?_
  refine fo_iload_n (k := 1) (fa_208 rfl) ?_
  refine fo_iload_n (k := 2) (fa_208 rfl) ?_
  refine fo_virtual (by decide) fna_201 (fo_call (fa_208 rfl) fNs_virtual fsm_201 (by decide) fFil_0 fna_201 fx_201 (by rw [fP_201]; rfl) fh_208 ?_)
  refine fo_if_eq (fa_208 rfl) (pcT := 22) rfl fs_208_22 ?_
  refine fo_aload_n (k := 0) (fa_208 rfl) ?_
  refine fo_iload_n (k := 1) (fa_208 rfl) ?_
  refine fo_iload_n (k := 3) (fa_208 rfl) ?_
  refine fo_virtual (by decide) fna_201 (fo_call (fa_208 rfl) fNs_virtual fsm_201 (by decide) fFil_0 fna_201 fx_201 (by rw [fP_201]; rfl) fh_208 ?_)
  refine fo_if_eq (fa_208 rfl) (pcT := 22) rfl fs_208_22 ?_
  refine fo_iconst (fa_208 rfl) fk_c_1 ?_
  exact fo_goto (fa_208 rfl) (pcT := 23) rfl fs_208_23
theorem fsm_208 : fSM 208 4 fm_208 := fs_methH (lp := [0]) (by decide) rfl ⟨fs_208_0, trivial⟩
theorem fP_209 : mj_P 209 = (8, 1, (some .int), mcX8_faultOf, []) := rfl
theorem fa_209 {pc : Nat} {e : mjE} (h : mj_at mcX8_faultOf pc = some e) : fAt 209 pc e := by unfold fAt; rw [fP_209]; exact h
theorem fr_209 : (mj_P 209).2.2.1 = (some .int) := by rw [fP_209]
theorem fna_209 : (mj_P 209).2.1 = 1 := by rw [fP_209]
theorem fx_209 : 1 ≤ mj_mx.getD 209 0 := by decide
theorem fh_209 : (mj_P 209).2.2.2.2.isEmpty = true := by rw [fP_209]; rfl
theorem fs_209_58 : fSB 209 [0, 2, 13] 1 58 f_209_58 := by
  unfold f_209_58
  refine fo_iconst (fa_209 rfl) fk_c_m1 ?_
  exact fo_iret (fa_209 rfl) fr_209 fw_int
theorem fs_209_52 : fSB 209 [0, 2, 13] 1 52 f_209_52 := by
  unfold f_209_52
  refine fo_iinc (k := 1) (fa_209 rfl) fk_c_1 ?_
  exact fo_goto (fa_209 rfl) (pcT := 2) rfl (fo_back (q := 2) rfl)
theorem fs_209_46 : fSB 209 [0, 2, 13] 1 46 f_209_46 := by
  unfold f_209_46
  refine fo_iinc (k := 2) (fa_209 rfl) fk_c_1 ?_
  exact fo_goto (fa_209 rfl) (pcT := 13) rfl (fo_back (q := 13) rfl)
theorem fs_209_13 : fSB 209 [0, 2, 13] 1 13 f_209_13 := by
  unfold f_209_13
  refine fo_iload_n (k := 2) (fa_209 rfl) ?_
  refine fo_aload_n (k := 0) (fa_209 rfl) ?_
  refine fo_iconst (fa_209 rfl) fk_c_0 ?_
  refine fo_iaload (fa_209 rfl) ?_
  refine fo_icmp_ge (fa_209 rfl) (pcT := 52) rfl fs_209_52 ?_
  refine fo_aload_n (k := 0) (fa_209 rfl) ?_
  refine fo_iconst (fa_209 rfl) fk_c_1 ?_
  refine fo_iload_n (k := 1) (fa_209 rfl) ?_
  refine fo_ishl (fa_209 rfl) ?_
  refine fo_iconst (fa_209 rfl) fk_c_1 ?_
  refine fo_iload_n (k := 2) (fa_209 rfl) ?_
  refine fo_ishl (fa_209 rfl) ?_
  refine fo_ior (fa_209 rfl) ?_
  refine fo_static (by decide) (fo_call (fa_209 rfl) fNs_static fsm_204 (by decide) fFil_2 fna_204 fx_204 (by rw [fP_204]; rfl) fh_209 ?_)
  refine fo_aload_n (k := 0) (fa_209 rfl) ?_
  refine fo_iconst (fa_209 rfl) fk_c_3 ?_
  refine fo_static (by decide) (fo_call (fa_209 rfl) fNs_static fsm_204 (by decide) fFil_2 fna_204 fx_204 (by rw [fP_204]; rfl) fh_209 ?_)
  refine fo_icmp_eq (fa_209 rfl) (pcT := 46) rfl fs_209_46 ?_
  refine fo_bipush (fa_209 rfl) fk_b_100 ?_
  refine fo_iload_n (k := 1) (fa_209 rfl) ?_
  refine fo_imul (fa_209 rfl) ?_
  refine fo_iload_n (k := 2) (fa_209 rfl) ?_
  refine fo_iadd (fa_209 rfl) ?_
  exact fo_iret (fa_209 rfl) fr_209 fw_int
theorem fs_209_2 : fSB 209 [0, 2, 13] 1 2 f_209_2 := by
  unfold f_209_2
  refine fo_iload_n (k := 1) (fa_209 rfl) ?_
  refine fo_aload_n (k := 0) (fa_209 rfl) ?_
  refine fo_iconst (fa_209 rfl) fk_c_0 ?_
  refine fo_iaload (fa_209 rfl) ?_
  refine fo_icmp_ge (fa_209 rfl) (pcT := 58) rfl fs_209_58 ?_
  refine fo_iload_n (k := 1) (fa_209 rfl) ?_
  refine fo_iconst (fa_209 rfl) fk_c_1 ?_
  refine fo_iadd (fa_209 rfl) ?_
  refine fo_istore_n (k := 2) (fa_209 rfl) ?_
  exact fs_209_13
theorem fs_209_0 : fSB 209 [0, 2, 13] 1 0 f_209_0 := by
  unfold f_209_0
  refine fo_iconst (fa_209 rfl) fk_c_0 ?_
  refine fo_istore_n (k := 1) (fa_209 rfl) ?_
  exact fs_209_2
theorem fsm_209 : fSM 209 1 fm_209 := fs_methH (lp := [0, 2, 13]) (by decide) rfl ⟨fs_209_0, fs_209_2, fs_209_13, trivial⟩
theorem fP_210 : mj_P 210 = (8, 2, (some .boolean), mcX8_isEven, []) := rfl
theorem fa_210 {pc : Nat} {e : mjE} (h : mj_at mcX8_isEven pc = some e) : fAt 210 pc e := by unfold fAt; rw [fP_210]; exact h
theorem fr_210 : (mj_P 210).2.2.1 = (some .boolean) := by rw [fP_210]
theorem fna_210 : (mj_P 210).2.1 = 2 := by rw [fP_210]
theorem fx_210 : 2 ≤ mj_mx.getD 210 0 := by decide
theorem fh_210 : (mj_P 210).2.2.2.2.isEmpty = true := by rw [fP_210]; rfl
theorem fs_210_143 : fSB 210 [0, 81] 3 143 f_210_143 := by
  unfold f_210_143
  refine fo_iload_n (k := 3) (fa_210 rfl) ?_
  exact fo_iret (fa_210 rfl) fr_210 fw_bool
theorem fs_210_136 : fSB 210 [0, 81] 3 136 f_210_136 := by
  unfold f_210_136
  refine fo_istore_n (k := 3) (fa_210 rfl) ?_
  refine fo_iinc (k := 4) (fa_210 rfl) fk_c_1 ?_
  exact fo_goto (fa_210 rfl) (pcT := 81) rfl (fo_back (q := 81) rfl)
theorem fs_210_135 : fSB 210 [0, 81] 3 135 f_210_135 := by
  unfold f_210_135
  refine fo_iconst (fa_210 rfl) fk_c_0 ?_
  exact fs_210_136
theorem fs_210_81 : fSB 210 [0, 81] 3 81 f_210_81 := by
  unfold f_210_81
  refine fo_iload (k := 4) (fa_210 rfl) ?_
  refine fo_aload_n (k := 2) (fa_210 rfl) ?_
  refine fo_alen (fa_210 rfl) ?_
  refine fo_icmp_ge (fa_210 rfl) (pcT := 143) rfl fs_210_143 ?_
  refine fo_iload_n (k := 3) (fa_210 rfl) ?_
  refine fo_if_eq (fa_210 rfl) (pcT := 143) rfl fs_210_143 ?_
  refine fo_aload_n (k := 2) (fa_210 rfl) ?_
  refine fo_iload (k := 4) (fa_210 rfl) ?_
  refine fo_iaload (fa_210 rfl) ?_
  refine fo_static (by decide) (fo_call (fa_210 rfl) fNs_static fsm_182 (by decide) fFil_2 fna_182 fx_182 (by rw [fP_182]; rfl) fh_210 ?_)
  refine fo_aload_n (k := 2) (fa_210 rfl) ?_
  refine fo_iconst (fa_210 rfl) fk_c_1 ?_
  refine fo_iaload (fa_210 rfl) ?_
  refine fo_static (by decide) (fo_call (fa_210 rfl) fNs_static fsm_182 (by decide) fFil_2 fna_182 fx_182 (by rw [fP_182]; rfl) fh_210 ?_)
  refine fo_icmp_ne (fa_210 rfl) (pcT := 135) rfl fs_210_135 ?_
  refine fo_aload_n (k := 2) (fa_210 rfl) ?_
  refine fo_iload (k := 4) (fa_210 rfl) ?_
  refine fo_iaload (fa_210 rfl) ?_
  refine fo_static (by decide) (fo_call (fa_210 rfl) fNs_static fsm_182 (by decide) fFil_2 fna_182 fx_182 (by rw [fP_182]; rfl) fh_210 ?_)
  refine fo_i2l (fa_210 rfl) ?_
  refine fo_ldc2 (fa_210 rfl) ?_
  refine fo_aload_n (k := 2) (fa_210 rfl) ?_
  refine fo_iconst (fa_210 rfl) fk_c_0 ?_
  refine fo_iaload (fa_210 rfl) ?_
  refine fo_iconst (fa_210 rfl) fk_c_1 ?_
  refine fo_isub (fa_210 rfl) ?_
  refine fo_i2l (fa_210 rfl) ?_
  refine fo_static (by decide) (fo_call (fa_210 rfl) fNs_static fsm_172 (by decide) fFil_0 fna_172 fx_172 (by rw [fP_172]; rfl) fh_210 ?_)
  refine fo_if_eq (fa_210 rfl) (pcT := 135) rfl fs_210_135 ?_
  refine fo_iconst (fa_210 rfl) fk_c_1 ?_
  exact fo_goto (fa_210 rfl) (pcT := 136) rfl fs_210_136
theorem fs_210_77 : fSB 210 [0, 81] 3 77 f_210_77 := by
  unfold f_210_77
  refine fo_istore_n (k := 3) (fa_210 rfl) ?_
  refine fo_iconst (fa_210 rfl) fk_c_1 ?_
  refine fo_istore (k := 4) (fa_210 rfl) ?_
  exact fs_210_81
theorem fs_210_76 : fSB 210 [0, 81] 3 76 f_210_76 := by
  unfold f_210_76
  refine fo_iconst (fa_210 rfl) fk_c_0 ?_
  exact fs_210_77
theorem fs_210_36 : fSB 210 [0, 81] 3 36 f_210_36 := by
  unfold f_210_36
  refine fo_aload_n (k := 0) (fa_210 rfl) ?_
  refine fo_getr (fa_210 rfl) (by decide) rfl ?_
  refine fo_iload_n (k := 1) (fa_210 rfl) ?_
  refine fo_aaload (fa_210 rfl) (by decide) (by decide) ?_
  refine fo_astore_n (k := 2) (fa_210 rfl) ?_
  refine fo_aload_n (k := 2) (fa_210 rfl) ?_
  refine fo_iconst (fa_210 rfl) fk_c_0 ?_
  refine fo_iaload (fa_210 rfl) ?_
  refine fo_iconst (fa_210 rfl) fk_c_1 ?_
  refine fo_icmp_le (fa_210 rfl) (pcT := 76) rfl fs_210_76 ?_
  refine fo_aload_n (k := 2) (fa_210 rfl) ?_
  refine fo_alen (fa_210 rfl) ?_
  refine fo_iconst (fa_210 rfl) fk_c_1 ?_
  refine fo_icmp_le (fa_210 rfl) (pcT := 76) rfl fs_210_76 ?_
  refine fo_aload_n (k := 2) (fa_210 rfl) ?_
  refine fo_static (by decide) (fo_call (fa_210 rfl) fNs_static fsm_209 (by decide) fFil_2 fna_209 fx_209 (by rw [fP_209]; rfl) fh_210 ?_)
  refine fo_iconst (fa_210 rfl) fk_c_m1 ?_
  refine fo_icmp_ne (fa_210 rfl) (pcT := 76) rfl fs_210_76 ?_
  refine fo_aload_n (k := 2) (fa_210 rfl) ?_
  refine fo_iconst (fa_210 rfl) fk_c_3 ?_
  refine fo_static (by decide) (fo_call (fa_210 rfl) fNs_static fsm_204 (by decide) fFil_2 fna_204 fx_204 (by rw [fP_204]; rfl) fh_210 ?_)
  refine fo_if_le (fa_210 rfl) (pcT := 76) rfl fs_210_76 ?_
  refine fo_iconst (fa_210 rfl) fk_c_1 ?_
  exact fo_goto (fa_210 rfl) (pcT := 77) rfl fs_210_77
theorem fs_210_26 : fSB 210 [0, 81] 3 26 f_210_26 := by
  unfold f_210_26
  refine fo_iconst (fa_210 rfl) fk_c_0 ?_
  refine fo_iconst (fa_210 rfl) fk_c_0 ?_
  refine fo_virtual (by decide) fna_171 (fo_call (fa_210 rfl) fNs_virtual fsm_171 (by decide) fFil_0 fna_171 fx_171 (by rw [fP_171]; rfl) fh_210 ?_)
  refine fo_if_eq (fa_210 rfl) (pcT := 36) rfl fs_210_36 ?_
  refine fo_iconst (fa_210 rfl) fk_c_0 ?_
  exact fo_iret (fa_210 rfl) fr_210 fw_bool
theorem fs_210_25 : fSB 210 [0, 81] 3 25 f_210_25 := by
  unfold f_210_25
  refine fo_iconst (fa_210 rfl) fk_c_0 ?_
  exact fs_210_26
theorem fs_210_13 : fSB 210 [0, 81] 3 13 f_210_13 := by
  unfold f_210_13
  refine fo_aload_n (k := 0) (fa_210 rfl) ?_
  refine fo_iload_n (k := 1) (fa_210 rfl) ?_
  refine fo_virtual (by decide) fna_175 (fo_call (fa_210 rfl) fNs_virtual fsm_175 (by decide) fFil_0 fna_175 fx_175 (by rw [fP_175]; rfl) fh_210 ?_)
  refine fo_if_ne (fa_210 rfl) (pcT := 25) rfl fs_210_25 ?_
  refine fo_iconst (fa_210 rfl) fk_c_1 ?_
  exact fo_goto (fa_210 rfl) (pcT := 26) rfl fs_210_26
theorem fs_210_12 : fSB 210 [0, 81] 3 12 f_210_12 := by
  unfold f_210_12
  refine fo_iconst (fa_210 rfl) fk_c_0 ?_
  exact fs_210_13
theorem fs_210_0 : fSB 210 [0, 81] 3 0 f_210_0 := by
  unfold f_210_0
  refine fo_aload_n (k := 0) (fa_210 rfl) ?_
  refine fo_iload_n (k := 1) (fa_210 rfl) ?_
  refine fo_static (by decide) (fo_call (fa_210 rfl) fNs_static fsm_173 (by decide) fFil_0 fna_173 fx_173 (by rw [fP_173]; rfl) fh_210 ?_)
  refine fo_if_ne (fa_210 rfl) (pcT := 12) rfl fs_210_12 ?_
  refine fo_iconst (fa_210 rfl) fk_c_1 ?_
  exact fo_goto (fa_210 rfl) (pcT := 13) rfl fs_210_13
theorem fsm_210 : fSM 210 3 fm_210 := fs_methH (lp := [0, 81]) (by decide) rfl ⟨fs_210_0, fs_210_81, trivial⟩
theorem fP_211 : mj_P 211 = (8, 2, (some .int), mcX8_fault, []) := rfl
theorem fa_211 {pc : Nat} {e : mjE} (h : mj_at mcX8_fault pc = some e) : fAt 211 pc e := by unfold fAt; rw [fP_211]; exact h
theorem fr_211 : (mj_P 211).2.2.1 = (some .int) := by rw [fP_211]
theorem fna_211 : (mj_P 211).2.1 = 2 := by rw [fP_211]
theorem fx_211 : 2 ≤ mj_mx.getD 211 0 := by decide
theorem fh_211 : (mj_P 211).2.2.2.2.isEmpty = true := by rw [fP_211]; rfl
theorem fs_211_47 : fSB 211 [0] 3 47 f_211_47 := by
  unfold f_211_47
  exact fo_iret (fa_211 rfl) fr_211 fw_int
theorem fs_211_38 : fSB 211 [0] 3 38 f_211_38 := by
  unfold f_211_38
  refine fo_aload_n (k := 0) (fa_211 rfl) ?_
  refine fo_getr (fa_211 rfl) (by decide) rfl ?_
  refine fo_iload_n (k := 1) (fa_211 rfl) ?_
  refine fo_aaload (fa_211 rfl) (by decide) (by decide) ?_
  refine fo_static (by decide) (fo_call (fa_211 rfl) fNs_static fsm_209 (by decide) fFil_2 fna_209 fx_209 (by rw [fP_209]; rfl) fh_211 ?_)
  exact fs_211_47
theorem fs_211_26 : fSB 211 [0] 3 26 f_211_26 := by
  unfold f_211_26
  refine fo_iconst (fa_211 rfl) fk_c_0 ?_
  refine fo_iconst (fa_211 rfl) fk_c_0 ?_
  refine fo_virtual (by decide) fna_171 (fo_call (fa_211 rfl) fNs_virtual fsm_171 (by decide) fFil_0 fna_171 fx_171 (by rw [fP_171]; rfl) fh_211 ?_)
  refine fo_if_eq (fa_211 rfl) (pcT := 38) rfl fs_211_38 ?_
  refine fo_iconst (fa_211 rfl) fk_c_0 ?_
  exact fo_goto (fa_211 rfl) (pcT := 47) rfl fs_211_47
theorem fs_211_25 : fSB 211 [0] 3 25 f_211_25 := by
  unfold f_211_25
  refine fo_iconst (fa_211 rfl) fk_c_0 ?_
  exact fs_211_26
theorem fs_211_13 : fSB 211 [0] 3 13 f_211_13 := by
  unfold f_211_13
  refine fo_aload_n (k := 0) (fa_211 rfl) ?_
  refine fo_iload_n (k := 1) (fa_211 rfl) ?_
  refine fo_virtual (by decide) fna_175 (fo_call (fa_211 rfl) fNs_virtual fsm_175 (by decide) fFil_0 fna_175 fx_175 (by rw [fP_175]; rfl) fh_211 ?_)
  refine fo_if_ne (fa_211 rfl) (pcT := 25) rfl fs_211_25 ?_
  refine fo_iconst (fa_211 rfl) fk_c_1 ?_
  exact fo_goto (fa_211 rfl) (pcT := 26) rfl fs_211_26
theorem fs_211_12 : fSB 211 [0] 3 12 f_211_12 := by
  unfold f_211_12
  refine fo_iconst (fa_211 rfl) fk_c_0 ?_
  exact fs_211_13
theorem fs_211_0 : fSB 211 [0] 3 0 f_211_0 := by
  unfold f_211_0
  refine fo_aload_n (k := 0) (fa_211 rfl) ?_
  refine fo_iload_n (k := 1) (fa_211 rfl) ?_
  refine fo_static (by decide) (fo_call (fa_211 rfl) fNs_static fsm_173 (by decide) fFil_0 fna_173 fx_173 (by rw [fP_173]; rfl) fh_211 ?_)
  refine fo_if_ne (fa_211 rfl) (pcT := 12) rfl fs_211_12 ?_
  refine fo_iconst (fa_211 rfl) fk_c_1 ?_
  exact fo_goto (fa_211 rfl) (pcT := 13) rfl fs_211_13
theorem fsm_211 : fSM 211 3 fm_211 := fs_methH (lp := [0]) (by decide) rfl ⟨fs_211_0, trivial⟩
theorem fP_212 : mj_P 212 = (8, 4, (some .char), mcX8_cause, []) := rfl
theorem fna_212 : (mj_P 212).2.1 = 4 := by rw [fP_212]
theorem fx_212 : 4 ≤ mj_mx.getD 212 0 := by decide
theorem fsm_212 : fSM 212 1 fm_212 := fsm_cs_m
theorem fP_213 : mj_P 213 = (8, 3, (some .int), mcX8_rest, []) := rfl
theorem fa_213 {pc : Nat} {e : mjE} (h : mj_at mcX8_rest pc = some e) : fAt 213 pc e := by unfold fAt; rw [fP_213]; exact h
theorem fr_213 : (mj_P 213).2.2.1 = (some .int) := by rw [fP_213]
theorem fna_213 : (mj_P 213).2.1 = 3 := by rw [fP_213]
theorem fx_213 : 3 ≤ mj_mx.getD 213 0 := by decide
theorem fh_213 : (mj_P 213).2.2.2.2.isEmpty = true := by rw [fP_213]; rfl
theorem fs_213_158 : fSB 213 [0, 126] 3 158 f_213_158 := by
  unfold f_213_158
  refine fo_aload_n (k := 0) (fa_213 rfl) ?_
  refine fo_iload_n (k := 2) (fa_213 rfl) ?_
  refine fo_aload (k := 6) (fa_213 rfl) ?_
  refine fo_virtual (by decide) fna_181 (fo_call (fa_213 rfl) fNs_virtual fsm_181 (by decide) fFil_0 fna_181 fx_181 (by rw [fP_181]; rfl) fh_213 ?_)
  exact fo_iret (fa_213 rfl) fr_213 fw_int
theorem fs_213_126 : fSB 213 [0, 126] 3 126 f_213_126 := by
  unfold f_213_126
  refine fo_iload (k := 7) (fa_213 rfl) ?_
  refine fo_aload (k := 6) (fa_213 rfl) ?_
  refine fo_alen (fa_213 rfl) ?_
  refine fo_icmp_ge (fa_213 rfl) (pcT := 158) rfl fs_213_158 ?_
  refine fo_aload (k := 6) (fa_213 rfl) ?_
  refine fo_iload (k := 7) (fa_213 rfl) ?_
  refine fo_aload (k := 6) (fa_213 rfl) ?_
  refine fo_iconst (fa_213 rfl) fk_c_0 ?_
  refine fo_iaload (fa_213 rfl) ?_
  refine fo_static (by decide) (fo_call (fa_213 rfl) fNs_static fsm_183 (by decide) fFil_0 fna_183 fx_183 (by rw [fP_183]; rfl) fh_213 ?_)
  refine fo_aload (k := 6) (fa_213 rfl) ?_
  refine fo_iload (k := 7) (fa_213 rfl) ?_
  refine fo_iaload (fa_213 rfl) ?_
  refine fo_ixor (fa_213 rfl) ?_
  refine fo_iastore (fa_213 rfl) ?_
  refine fo_iinc (k := 7) (fa_213 rfl) fk_c_1 ?_
  exact fo_goto (fa_213 rfl) (pcT := 126) rfl (fo_back (q := 126) rfl)
theorem fs_213_105 : fSB 213 [0, 126] 3 105 f_213_105 := by
  unfold f_213_105
  refine fo_aload_n (k := 0) (fa_213 rfl) ?_
  refine fo_getr (fa_213 rfl) (by decide) rfl ?_
  refine fo_iload_n (k := 1) (fa_213 rfl) ?_
  refine fo_aaload (fa_213 rfl) (by decide) (by decide) ?_
  refine fo_aload_n (k := 0) (fa_213 rfl) ?_
  refine fo_getr (fa_213 rfl) (by decide) rfl ?_
  refine fo_iload_n (k := 1) (fa_213 rfl) ?_
  refine fo_aaload (fa_213 rfl) (by decide) (by decide) ?_
  refine fo_alen (fa_213 rfl) ?_
  refine fo_static (by decide) (fo_call (fa_213 rfl) fNs_static fsm_178 (by decide) fFil_2 fna_178 fx_178 (by rw [fP_178]; rfl) fh_213 ?_)
  refine fo_astore (k := 6) (fa_213 rfl) ?_
  refine fo_iconst (fa_213 rfl) fk_c_1 ?_
  refine fo_istore (k := 7) (fa_213 rfl) ?_
  exact fs_213_126
theorem fs_213_94 : fSB 213 [0, 126] 3 94 f_213_94 := by
  unfold f_213_94
  refine fo_iload (k := 5) (fa_213 rfl) ?_
  refine fo_iconst (fa_213 rfl) fk_c_0 ?_
  refine fo_virtual (by decide) fna_171 (fo_call (fa_213 rfl) fNs_virtual fsm_171 (by decide) fFil_0 fna_171 fx_171 (by rw [fP_171]; rfl) fh_213 ?_)
  refine fo_if_eq (fa_213 rfl) (pcT := 105) rfl fs_213_105 ?_
  refine fo_iconst (fa_213 rfl) fk_c_0 ?_
  exact fo_iret (fa_213 rfl) fr_213 fw_int
theorem fs_213_93 : fSB 213 [0, 126] 3 93 f_213_93 := by
  unfold f_213_93
  refine fo_iconst (fa_213 rfl) fk_c_0 ?_
  exact fs_213_94
theorem fs_213_84 : fSB 213 [0, 126] 3 84 f_213_84 := by
  unfold f_213_84
  refine fo_iload (k := 4) (fa_213 rfl) ?_
  refine fo_if_ne (fa_213 rfl) (pcT := 93) rfl fs_213_93 ?_
  refine fo_iconst (fa_213 rfl) fk_c_1 ?_
  exact fo_goto (fa_213 rfl) (pcT := 94) rfl fs_213_94
theorem fs_213_83 : fSB 213 [0, 126] 3 83 f_213_83 := by
  unfold f_213_83
  refine fo_iconst (fa_213 rfl) fk_c_0 ?_
  exact fs_213_84
theorem fs_213_72 : fSB 213 [0, 126] 3 72 f_213_72 := by
  unfold f_213_72
  refine fo_istore (k := 5) (fa_213 rfl) ?_
  refine fo_aload_n (k := 0) (fa_213 rfl) ?_
  refine fo_iload_n (k := 3) (fa_213 rfl) ?_
  refine fo_if_ne (fa_213 rfl) (pcT := 83) rfl fs_213_83 ?_
  refine fo_iconst (fa_213 rfl) fk_c_1 ?_
  exact fo_goto (fa_213 rfl) (pcT := 84) rfl fs_213_84
theorem fs_213_71 : fSB 213 [0, 126] 3 71 f_213_71 := by
  unfold f_213_71
  refine fo_iconst (fa_213 rfl) fk_c_0 ?_
  exact fs_213_72
theorem fs_213_37 : fSB 213 [0, 126] 3 37 f_213_37 := by
  unfold f_213_37
  refine fo_istore (k := 4) (fa_213 rfl) ?_
  refine fo_iload (k := 4) (fa_213 rfl) ?_
  refine fo_if_eq (fa_213 rfl) (pcT := 71) rfl fs_213_71 ?_
  refine fo_aload_n (k := 0) (fa_213 rfl) ?_
  refine fo_getr (fa_213 rfl) (by decide) rfl ?_
  refine fo_iload_n (k := 1) (fa_213 rfl) ?_
  refine fo_aaload (fa_213 rfl) (by decide) (by decide) ?_
  refine fo_aload_n (k := 0) (fa_213 rfl) ?_
  refine fo_getr (fa_213 rfl) (by decide) rfl ?_
  refine fo_iload_n (k := 1) (fa_213 rfl) ?_
  refine fo_aaload (fa_213 rfl) (by decide) (by decide) ?_
  refine fo_iconst (fa_213 rfl) fk_c_0 ?_
  refine fo_iaload (fa_213 rfl) ?_
  refine fo_static (by decide) (fo_call (fa_213 rfl) fNs_static fsm_183 (by decide) fFil_0 fna_183 fx_183 (by rw [fP_183]; rfl) fh_213 ?_)
  refine fo_static (by decide) (fo_call (fa_213 rfl) fNs_static fsm_204 (by decide) fFil_2 fna_204 fx_204 (by rw [fP_204]; rfl) fh_213 ?_)
  refine fo_if_le (fa_213 rfl) (pcT := 71) rfl fs_213_71 ?_
  refine fo_iconst (fa_213 rfl) fk_c_1 ?_
  exact fo_goto (fa_213 rfl) (pcT := 72) rfl fs_213_72
theorem fs_213_36 : fSB 213 [0, 126] 3 36 f_213_36 := by
  unfold f_213_36
  refine fo_iconst (fa_213 rfl) fk_c_0 ?_
  exact fs_213_37
theorem fs_213_19 : fSB 213 [0, 126] 3 19 f_213_19 := by
  unfold f_213_19
  refine fo_istore_n (k := 3) (fa_213 rfl) ?_
  refine fo_iload_n (k := 3) (fa_213 rfl) ?_
  refine fo_if_eq (fa_213 rfl) (pcT := 36) rfl fs_213_36 ?_
  refine fo_aload_n (k := 0) (fa_213 rfl) ?_
  refine fo_iload_n (k := 1) (fa_213 rfl) ?_
  refine fo_virtual (by decide) fna_175 (fo_call (fa_213 rfl) fNs_virtual fsm_175 (by decide) fFil_0 fna_175 fx_175 (by rw [fP_175]; rfl) fh_213 ?_)
  refine fo_if_eq (fa_213 rfl) (pcT := 36) rfl fs_213_36 ?_
  refine fo_iconst (fa_213 rfl) fk_c_1 ?_
  exact fo_goto (fa_213 rfl) (pcT := 37) rfl fs_213_37
theorem fs_213_18 : fSB 213 [0, 126] 3 18 f_213_18 := by
  unfold f_213_18
  refine fo_iconst (fa_213 rfl) fk_c_0 ?_
  exact fs_213_19
theorem fs_213_0 : fSB 213 [0, 126] 3 0 f_213_0 := by
  unfold f_213_0
  refine fo_iload_n (k := 1) (fa_213 rfl) ?_
  refine fo_static (by decide) (fo_call (fa_213 rfl) fNs_static fsm_173 (by decide) fFil_0 fna_173 fx_173 (by rw [fP_173]; rfl) fh_213 ?_)
  refine fo_if_eq (fa_213 rfl) (pcT := 18) rfl fs_213_18 ?_
  refine fo_iload_n (k := 2) (fa_213 rfl) ?_
  refine fo_static (by decide) (fo_call (fa_213 rfl) fNs_static fsm_173 (by decide) fFil_0 fna_173 fx_173 (by rw [fP_173]; rfl) fh_213 ?_)
  refine fo_if_eq (fa_213 rfl) (pcT := 18) rfl fs_213_18 ?_
  refine fo_iconst (fa_213 rfl) fk_c_1 ?_
  exact fo_goto (fa_213 rfl) (pcT := 19) rfl fs_213_19
theorem fsm_213 : fSM 213 3 fm_213 := fs_methH (lp := [0, 126]) (by decide) rfl ⟨fs_213_0, fs_213_126, trivial⟩
theorem fP_214 : mj_P 214 = (8, 3, (some .int), mcX8_dual, []) := rfl
theorem fa_214 {pc : Nat} {e : mjE} (h : mj_at mcX8_dual pc = some e) : fAt 214 pc e := by unfold fAt; rw [fP_214]; exact h
theorem fr_214 : (mj_P 214).2.2.1 = (some .int) := by rw [fP_214]
theorem fna_214 : (mj_P 214).2.1 = 3 := by rw [fP_214]
theorem fx_214 : 3 ≤ mj_mx.getD 214 0 := by decide
theorem fh_214 : (mj_P 214).2.2.2.2.isEmpty = true := by rw [fP_214]; rfl
theorem fs_214_256 : fSB 214 [0, 74, 190, 202] 3 256 f_214_256 := by
  unfold f_214_256
  refine fo_aload_n (k := 0) (fa_214 rfl) ?_
  refine fo_iload_n (k := 2) (fa_214 rfl) ?_
  refine fo_aload (k := 7) (fa_214 rfl) ?_
  refine fo_virtual (by decide) fna_181 (fo_call (fa_214 rfl) fNs_virtual fsm_181 (by decide) fFil_0 fna_181 fx_181 (by rw [fP_181]; rfl) fh_214 ?_)
  refine fo_istore (k := 8) (fa_214 rfl) ?_
  refine fo_aload (k := 7) (fa_214 rfl) ?_
  refine fo_iconst (fa_214 rfl) fk_c_0 ?_
  refine fo_iaload (fa_214 rfl) ?_
  exact fo_iret (fa_214 rfl) fr_214 fw_int
theorem fs_214_250 : fSB 214 [0, 74, 190, 202] 3 250 f_214_250 := by
  unfold f_214_250
  refine fo_iinc (k := 8) (fa_214 rfl) fk_c_1 ?_
  exact fo_goto (fa_214 rfl) (pcT := 190) rfl (fo_back (q := 190) rfl)
theorem fs_214_242 : fSB 214 [0, 74, 190, 202] 3 242 f_214_242 := by
  unfold f_214_242
  refine fo_ior (fa_214 rfl) ?_
  refine fo_iastore (fa_214 rfl) ?_
  refine fo_iinc (k := 9) (fa_214 rfl) fk_c_1 ?_
  exact fo_goto (fa_214 rfl) (pcT := 202) rfl (fo_back (q := 202) rfl)
theorem fs_214_241 : fSB 214 [0, 74, 190, 202] 3 241 f_214_241 := by
  unfold f_214_241
  refine fo_iconst (fa_214 rfl) fk_c_0 ?_
  exact fs_214_242
theorem fs_214_202 : fSB 214 [0, 74, 190, 202] 3 202 f_214_202 := by
  unfold f_214_202
  refine fo_iload (k := 9) (fa_214 rfl) ?_
  refine fo_aload (k := 6) (fa_214 rfl) ?_
  refine fo_alen (fa_214 rfl) ?_
  refine fo_icmp_ge (fa_214 rfl) (pcT := 250) rfl fs_214_250 ?_
  refine fo_aload (k := 7) (fa_214 rfl) ?_
  refine fo_iconst (fa_214 rfl) fk_c_1 ?_
  refine fo_iload (k := 8) (fa_214 rfl) ?_
  refine fo_iadd (fa_214 rfl) ?_
  refine fo_dup2 (fa_214 rfl) ?_
  refine fo_iaload (fa_214 rfl) ?_
  refine fo_aload (k := 6) (fa_214 rfl) ?_
  refine fo_iload (k := 9) (fa_214 rfl) ?_
  refine fo_iaload (fa_214 rfl) ?_
  refine fo_iload (k := 8) (fa_214 rfl) ?_
  refine fo_ishr (fa_214 rfl) ?_
  refine fo_iconst (fa_214 rfl) fk_c_1 ?_
  refine fo_iand (fa_214 rfl) ?_
  refine fo_iconst (fa_214 rfl) fk_c_1 ?_
  refine fo_icmp_ne (fa_214 rfl) (pcT := 241) rfl fs_214_241 ?_
  refine fo_iconst (fa_214 rfl) fk_c_1 ?_
  refine fo_iload (k := 9) (fa_214 rfl) ?_
  refine fo_iconst (fa_214 rfl) fk_c_1 ?_
  refine fo_isub (fa_214 rfl) ?_
  refine fo_ishl (fa_214 rfl) ?_
  exact fo_goto (fa_214 rfl) (pcT := 242) rfl fs_214_242
theorem fs_214_190 : fSB 214 [0, 74, 190, 202] 3 190 f_214_190 := by
  unfold f_214_190
  refine fo_iload (k := 8) (fa_214 rfl) ?_
  refine fo_aload (k := 6) (fa_214 rfl) ?_
  refine fo_iconst (fa_214 rfl) fk_c_0 ?_
  refine fo_iaload (fa_214 rfl) ?_
  refine fo_icmp_ge (fa_214 rfl) (pcT := 256) rfl fs_214_256 ?_
  refine fo_iconst (fa_214 rfl) fk_c_1 ?_
  refine fo_istore (k := 9) (fa_214 rfl) ?_
  exact fs_214_202
theorem fs_214_160 : fSB 214 [0, 74, 190, 202] 3 160 f_214_160 := by
  unfold f_214_160
  refine fo_aload_n (k := 0) (fa_214 rfl) ?_
  refine fo_getr (fa_214 rfl) (by decide) rfl ?_
  refine fo_iload_n (k := 1) (fa_214 rfl) ?_
  refine fo_aaload (fa_214 rfl) (by decide) (by decide) ?_
  refine fo_astore (k := 6) (fa_214 rfl) ?_
  refine fo_aload (k := 6) (fa_214 rfl) ?_
  refine fo_iconst (fa_214 rfl) fk_c_0 ?_
  refine fo_iaload (fa_214 rfl) ?_
  refine fo_iconst (fa_214 rfl) fk_c_1 ?_
  refine fo_iadd (fa_214 rfl) ?_
  refine fo_newarray (fa_214 rfl) rfl (by decide) (by decide) fel_20 ?_
  refine fo_astore (k := 7) (fa_214 rfl) ?_
  refine fo_aload (k := 7) (fa_214 rfl) ?_
  refine fo_iconst (fa_214 rfl) fk_c_0 ?_
  refine fo_aload (k := 6) (fa_214 rfl) ?_
  refine fo_alen (fa_214 rfl) ?_
  refine fo_iconst (fa_214 rfl) fk_c_1 ?_
  refine fo_isub (fa_214 rfl) ?_
  refine fo_iastore (fa_214 rfl) ?_
  refine fo_iconst (fa_214 rfl) fk_c_0 ?_
  refine fo_istore (k := 8) (fa_214 rfl) ?_
  exact fs_214_190
theorem fs_214_151 : fSB 214 [0, 74, 190, 202] 3 151 f_214_151 := by
  unfold f_214_151
  refine fo_iconst (fa_214 rfl) fk_c_0 ?_
  refine fo_virtual (by decide) fna_171 (fo_call (fa_214 rfl) fNs_virtual fsm_171 (by decide) fFil_0 fna_171 fx_171 (by rw [fP_171]; rfl) fh_214 ?_)
  refine fo_if_eq (fa_214 rfl) (pcT := 160) rfl fs_214_160 ?_
  refine fo_iconst (fa_214 rfl) fk_c_0 ?_
  exact fo_iret (fa_214 rfl) fr_214 fw_int
theorem fs_214_150 : fSB 214 [0, 74, 190, 202] 3 150 f_214_150 := by
  unfold f_214_150
  refine fo_iconst (fa_214 rfl) fk_c_0 ?_
  exact fs_214_151
theorem fs_214_141 : fSB 214 [0, 74, 190, 202] 3 141 f_214_141 := by
  unfold f_214_141
  refine fo_iload (k := 5) (fa_214 rfl) ?_
  refine fo_if_ne (fa_214 rfl) (pcT := 150) rfl fs_214_150 ?_
  refine fo_iconst (fa_214 rfl) fk_c_1 ?_
  exact fo_goto (fa_214 rfl) (pcT := 151) rfl fs_214_151
theorem fs_214_140 : fSB 214 [0, 74, 190, 202] 3 140 f_214_140 := by
  unfold f_214_140
  refine fo_iconst (fa_214 rfl) fk_c_0 ?_
  exact fs_214_141
theorem fs_214_131 : fSB 214 [0, 74, 190, 202] 3 131 f_214_131 := by
  unfold f_214_131
  refine fo_iload (k := 4) (fa_214 rfl) ?_
  refine fo_if_ne (fa_214 rfl) (pcT := 140) rfl fs_214_140 ?_
  refine fo_iconst (fa_214 rfl) fk_c_1 ?_
  exact fo_goto (fa_214 rfl) (pcT := 141) rfl fs_214_141
theorem fs_214_130 : fSB 214 [0, 74, 190, 202] 3 130 f_214_130 := by
  unfold f_214_130
  refine fo_iconst (fa_214 rfl) fk_c_0 ?_
  exact fs_214_131
theorem fs_214_121 : fSB 214 [0, 74, 190, 202] 3 121 f_214_121 := by
  unfold f_214_121
  refine fo_aload_n (k := 0) (fa_214 rfl) ?_
  refine fo_iload_n (k := 3) (fa_214 rfl) ?_
  refine fo_if_ne (fa_214 rfl) (pcT := 130) rfl fs_214_130 ?_
  refine fo_iconst (fa_214 rfl) fk_c_1 ?_
  exact fo_goto (fa_214 rfl) (pcT := 131) rfl fs_214_131
theorem fs_214_113 : fSB 214 [0, 74, 190, 202] 3 113 f_214_113 := by
  unfold f_214_113
  refine fo_istore (k := 5) (fa_214 rfl) ?_
  refine fo_iinc (k := 6) (fa_214 rfl) fk_c_1 ?_
  exact fo_goto (fa_214 rfl) (pcT := 74) rfl (fo_back (q := 74) rfl)
theorem fs_214_112 : fSB 214 [0, 74, 190, 202] 3 112 f_214_112 := by
  unfold f_214_112
  refine fo_iconst (fa_214 rfl) fk_c_0 ?_
  exact fs_214_113
theorem fs_214_74 : fSB 214 [0, 74, 190, 202] 3 74 f_214_74 := by
  unfold f_214_74
  refine fo_iload (k := 5) (fa_214 rfl) ?_
  refine fo_if_eq (fa_214 rfl) (pcT := 121) rfl fs_214_121 ?_
  refine fo_iload (k := 6) (fa_214 rfl) ?_
  refine fo_aload_n (k := 0) (fa_214 rfl) ?_
  refine fo_getr (fa_214 rfl) (by decide) rfl ?_
  refine fo_iload_n (k := 1) (fa_214 rfl) ?_
  refine fo_aaload (fa_214 rfl) (by decide) (by decide) ?_
  refine fo_iconst (fa_214 rfl) fk_c_0 ?_
  refine fo_iaload (fa_214 rfl) ?_
  refine fo_icmp_ge (fa_214 rfl) (pcT := 121) rfl fs_214_121 ?_
  refine fo_aload_n (k := 0) (fa_214 rfl) ?_
  refine fo_getr (fa_214 rfl) (by decide) rfl ?_
  refine fo_iload_n (k := 1) (fa_214 rfl) ?_
  refine fo_aaload (fa_214 rfl) (by decide) (by decide) ?_
  refine fo_iconst (fa_214 rfl) fk_c_1 ?_
  refine fo_iload (k := 6) (fa_214 rfl) ?_
  refine fo_ishl (fa_214 rfl) ?_
  refine fo_static (by decide) (fo_call (fa_214 rfl) fNs_static fsm_204 (by decide) fFil_2 fna_204 fx_204 (by rw [fP_204]; rfl) fh_214 ?_)
  refine fo_if_le (fa_214 rfl) (pcT := 112) rfl fs_214_112 ?_
  refine fo_iconst (fa_214 rfl) fk_c_1 ?_
  exact fo_goto (fa_214 rfl) (pcT := 113) rfl fs_214_113
theorem fs_214_69 : fSB 214 [0, 74, 190, 202] 3 69 f_214_69 := by
  unfold f_214_69
  refine fo_istore (k := 5) (fa_214 rfl) ?_
  refine fo_iconst (fa_214 rfl) fk_c_0 ?_
  refine fo_istore (k := 6) (fa_214 rfl) ?_
  exact fs_214_74
theorem fs_214_68 : fSB 214 [0, 74, 190, 202] 3 68 f_214_68 := by
  unfold f_214_68
  refine fo_iconst (fa_214 rfl) fk_c_0 ?_
  exact fs_214_69
theorem fs_214_37 : fSB 214 [0, 74, 190, 202] 3 37 f_214_37 := by
  unfold f_214_37
  refine fo_istore (k := 4) (fa_214 rfl) ?_
  refine fo_iload (k := 4) (fa_214 rfl) ?_
  refine fo_if_eq (fa_214 rfl) (pcT := 68) rfl fs_214_68 ?_
  refine fo_aload_n (k := 0) (fa_214 rfl) ?_
  refine fo_getr (fa_214 rfl) (by decide) rfl ?_
  refine fo_iload_n (k := 1) (fa_214 rfl) ?_
  refine fo_aaload (fa_214 rfl) (by decide) (by decide) ?_
  refine fo_alen (fa_214 rfl) ?_
  refine fo_iconst (fa_214 rfl) fk_c_1 ?_
  refine fo_isub (fa_214 rfl) ?_
  refine fo_i2l (fa_214 rfl) ?_
  refine fo_lconst (fa_214 rfl) rfl ?_
  refine fo_ldc2 (fa_214 rfl) ?_
  refine fo_static (by decide) (fo_call (fa_214 rfl) fNs_static fsm_172 (by decide) fFil_0 fna_172 fx_172 (by rw [fP_172]; rfl) fh_214 ?_)
  refine fo_if_eq (fa_214 rfl) (pcT := 68) rfl fs_214_68 ?_
  refine fo_iconst (fa_214 rfl) fk_c_1 ?_
  exact fo_goto (fa_214 rfl) (pcT := 69) rfl fs_214_69
theorem fs_214_36 : fSB 214 [0, 74, 190, 202] 3 36 f_214_36 := by
  unfold f_214_36
  refine fo_iconst (fa_214 rfl) fk_c_0 ?_
  exact fs_214_37
theorem fs_214_19 : fSB 214 [0, 74, 190, 202] 3 19 f_214_19 := by
  unfold f_214_19
  refine fo_istore_n (k := 3) (fa_214 rfl) ?_
  refine fo_iload_n (k := 3) (fa_214 rfl) ?_
  refine fo_if_eq (fa_214 rfl) (pcT := 36) rfl fs_214_36 ?_
  refine fo_aload_n (k := 0) (fa_214 rfl) ?_
  refine fo_iload_n (k := 1) (fa_214 rfl) ?_
  refine fo_virtual (by decide) fna_175 (fo_call (fa_214 rfl) fNs_virtual fsm_175 (by decide) fFil_0 fna_175 fx_175 (by rw [fP_175]; rfl) fh_214 ?_)
  refine fo_if_eq (fa_214 rfl) (pcT := 36) rfl fs_214_36 ?_
  refine fo_iconst (fa_214 rfl) fk_c_1 ?_
  exact fo_goto (fa_214 rfl) (pcT := 37) rfl fs_214_37
theorem fs_214_18 : fSB 214 [0, 74, 190, 202] 3 18 f_214_18 := by
  unfold f_214_18
  refine fo_iconst (fa_214 rfl) fk_c_0 ?_
  exact fs_214_19
theorem fs_214_0 : fSB 214 [0, 74, 190, 202] 3 0 f_214_0 := by
  unfold f_214_0
  refine fo_iload_n (k := 1) (fa_214 rfl) ?_
  refine fo_static (by decide) (fo_call (fa_214 rfl) fNs_static fsm_173 (by decide) fFil_0 fna_173 fx_173 (by rw [fP_173]; rfl) fh_214 ?_)
  refine fo_if_eq (fa_214 rfl) (pcT := 18) rfl fs_214_18 ?_
  refine fo_iload_n (k := 2) (fa_214 rfl) ?_
  refine fo_static (by decide) (fo_call (fa_214 rfl) fNs_static fsm_173 (by decide) fFil_0 fna_173 fx_173 (by rw [fP_173]; rfl) fh_214 ?_)
  refine fo_if_eq (fa_214 rfl) (pcT := 18) rfl fs_214_18 ?_
  refine fo_iconst (fa_214 rfl) fk_c_1 ?_
  exact fo_goto (fa_214 rfl) (pcT := 19) rfl fs_214_19
theorem fsm_214 : fSM 214 3 fm_214 := fs_methH (lp := [0, 74, 190, 202]) (by decide) rfl ⟨fs_214_0, fs_214_74, fs_214_190, fs_214_202, trivial⟩
theorem fP_215 : mj_P 215 = (8, 5, (some .int), mcX8_part, []) := rfl
theorem fa_215 {pc : Nat} {e : mjE} (h : mj_at mcX8_part pc = some e) : fAt 215 pc e := by unfold fAt; rw [fP_215]; exact h
theorem fr_215 : (mj_P 215).2.2.1 = (some .int) := by rw [fP_215]
theorem fna_215 : (mj_P 215).2.1 = 5 := by rw [fP_215]
theorem fx_215 : 5 ≤ mj_mx.getD 215 0 := by decide
theorem fh_215 : (mj_P 215).2.2.2.2.isEmpty = true := by rw [fP_215]; rfl
theorem fs_215_255 : fSB 215 [0, 163, 196] 4 255 f_215_255 := by
  unfold f_215_255
  refine fo_aload_n (k := 0) (fa_215 rfl) ?_
  refine fo_iload (k := 4) (fa_215 rfl) ?_
  refine fo_aload (k := 9) (fa_215 rfl) ?_
  refine fo_iload (k := 10) (fa_215 rfl) ?_
  refine fo_static (by decide) (fo_call (fa_215 rfl) fNs_static fsm_178 (by decide) fFil_2 fna_178 fx_178 (by rw [fP_178]; rfl) fh_215 ?_)
  refine fo_virtual (by decide) fna_181 (fo_call (fa_215 rfl) fNs_virtual fsm_181 (by decide) fFil_0 fna_181 fx_181 (by rw [fP_181]; rfl) fh_215 ?_)
  exact fo_iret (fa_215 rfl) fr_215 fw_int
theorem fs_215_249 : fSB 215 [0, 163, 196] 4 249 f_215_249 := by
  unfold f_215_249
  refine fo_iinc (k := 11) (fa_215 rfl) fk_c_1 ?_
  exact fo_goto (fa_215 rfl) (pcT := 163) rfl (fo_back (q := 163) rfl)
theorem fs_215_246 : fSB 215 [0, 163, 196] 4 246 f_215_246 := by
  unfold f_215_246
  refine fo_iinc (k := 10) (fa_215 rfl) fk_c_1 ?_
  exact fs_215_249
theorem fs_215_240 : fSB 215 [0, 163, 196] 4 240 f_215_240 := by
  unfold f_215_240
  refine fo_iinc (k := 13) (fa_215 rfl) fk_c_1 ?_
  exact fo_goto (fa_215 rfl) (pcT := 196) rfl (fo_back (q := 196) rfl)
theorem fs_215_196 : fSB 215 [0, 163, 196] 4 196 f_215_196 := by
  unfold f_215_196
  refine fo_iload (k := 13) (fa_215 rfl) ?_
  refine fo_aload (k := 8) (fa_215 rfl) ?_
  refine fo_iconst (fa_215 rfl) fk_c_0 ?_
  refine fo_iaload (fa_215 rfl) ?_
  refine fo_icmp_ge (fa_215 rfl) (pcT := 246) rfl fs_215_246 ?_
  refine fo_iload (k := 7) (fa_215 rfl) ?_
  refine fo_iload (k := 13) (fa_215 rfl) ?_
  refine fo_ishr (fa_215 rfl) ?_
  refine fo_iconst (fa_215 rfl) fk_c_1 ?_
  refine fo_iand (fa_215 rfl) ?_
  refine fo_iconst (fa_215 rfl) fk_c_1 ?_
  refine fo_icmp_ne (fa_215 rfl) (pcT := 240) rfl fs_215_240 ?_
  refine fo_aload (k := 9) (fa_215 rfl) ?_
  refine fo_iload (k := 10) (fa_215 rfl) ?_
  refine fo_dup2 (fa_215 rfl) ?_
  refine fo_iaload (fa_215 rfl) ?_
  refine fo_aload (k := 8) (fa_215 rfl) ?_
  refine fo_iload (k := 11) (fa_215 rfl) ?_
  refine fo_iaload (fa_215 rfl) ?_
  refine fo_iload (k := 13) (fa_215 rfl) ?_
  refine fo_ishr (fa_215 rfl) ?_
  refine fo_iconst (fa_215 rfl) fk_c_1 ?_
  refine fo_iand (fa_215 rfl) ?_
  refine fo_iload (k := 12) (fa_215 rfl) ?_
  refine fo_ishl (fa_215 rfl) ?_
  refine fo_ior (fa_215 rfl) ?_
  refine fo_iastore (fa_215 rfl) ?_
  refine fo_iinc (k := 12) (fa_215 rfl) fk_c_1 ?_
  exact fs_215_240
theorem fs_215_163 : fSB 215 [0, 163, 196] 4 163 f_215_163 := by
  unfold f_215_163
  refine fo_iload (k := 11) (fa_215 rfl) ?_
  refine fo_aload (k := 8) (fa_215 rfl) ?_
  refine fo_alen (fa_215 rfl) ?_
  refine fo_icmp_ge (fa_215 rfl) (pcT := 255) rfl fs_215_255 ?_
  refine fo_iload (k := 11) (fa_215 rfl) ?_
  refine fo_iconst (fa_215 rfl) fk_c_1 ?_
  refine fo_iload_n (k := 2) (fa_215 rfl) ?_
  refine fo_iadd (fa_215 rfl) ?_
  refine fo_icmp_eq (fa_215 rfl) (pcT := 249) rfl fs_215_249 ?_
  refine fo_aload (k := 8) (fa_215 rfl) ?_
  refine fo_iload (k := 11) (fa_215 rfl) ?_
  refine fo_iaload (fa_215 rfl) ?_
  refine fo_iload (k := 7) (fa_215 rfl) ?_
  refine fo_iand (fa_215 rfl) ?_
  refine fo_if_eq (fa_215 rfl) (pcT := 249) rfl fs_215_249 ?_
  refine fo_iconst (fa_215 rfl) fk_c_0 ?_
  refine fo_istore (k := 12) (fa_215 rfl) ?_
  refine fo_iconst (fa_215 rfl) fk_c_0 ?_
  refine fo_istore (k := 13) (fa_215 rfl) ?_
  exact fs_215_196
theorem fs_215_133 : fSB 215 [0, 163, 196] 4 133 f_215_133 := by
  unfold f_215_133
  refine fo_aload_n (k := 0) (fa_215 rfl) ?_
  refine fo_getr (fa_215 rfl) (by decide) rfl ?_
  refine fo_iload_n (k := 1) (fa_215 rfl) ?_
  refine fo_aaload (fa_215 rfl) (by decide) (by decide) ?_
  refine fo_astore (k := 8) (fa_215 rfl) ?_
  refine fo_aload (k := 8) (fa_215 rfl) ?_
  refine fo_alen (fa_215 rfl) ?_
  refine fo_newarray (fa_215 rfl) rfl (by decide) (by decide) fel_20 ?_
  refine fo_astore (k := 9) (fa_215 rfl) ?_
  refine fo_aload (k := 9) (fa_215 rfl) ?_
  refine fo_iconst (fa_215 rfl) fk_c_0 ?_
  refine fo_iload (k := 7) (fa_215 rfl) ?_
  refine fo_static (by decide) (fo_call (fa_215 rfl) fNs_static fsm_182 (by decide) fFil_2 fna_182 fx_182 (by rw [fP_182]; rfl) fh_215 ?_)
  refine fo_iastore (fa_215 rfl) ?_
  refine fo_iconst (fa_215 rfl) fk_c_1 ?_
  refine fo_istore (k := 10) (fa_215 rfl) ?_
  refine fo_iconst (fa_215 rfl) fk_c_1 ?_
  refine fo_istore (k := 11) (fa_215 rfl) ?_
  exact fs_215_163
theorem fs_215_124 : fSB 215 [0, 163, 196] 4 124 f_215_124 := by
  unfold f_215_124
  refine fo_iconst (fa_215 rfl) fk_c_0 ?_
  refine fo_virtual (by decide) fna_171 (fo_call (fa_215 rfl) fNs_virtual fsm_171 (by decide) fFil_0 fna_171 fx_171 (by rw [fP_171]; rfl) fh_215 ?_)
  refine fo_if_eq (fa_215 rfl) (pcT := 133) rfl fs_215_133 ?_
  refine fo_iconst (fa_215 rfl) fk_c_0 ?_
  exact fo_iret (fa_215 rfl) fr_215 fw_int
theorem fs_215_123 : fSB 215 [0, 163, 196] 4 123 f_215_123 := by
  unfold f_215_123
  refine fo_iconst (fa_215 rfl) fk_c_0 ?_
  exact fs_215_124
theorem fs_215_114 : fSB 215 [0, 163, 196] 4 114 f_215_114 := by
  unfold f_215_114
  refine fo_iload (k := 7) (fa_215 rfl) ?_
  refine fo_if_ne (fa_215 rfl) (pcT := 123) rfl fs_215_123 ?_
  refine fo_iconst (fa_215 rfl) fk_c_1 ?_
  exact fo_goto (fa_215 rfl) (pcT := 124) rfl fs_215_124
theorem fs_215_113 : fSB 215 [0, 163, 196] 4 113 f_215_113 := by
  unfold f_215_113
  refine fo_iconst (fa_215 rfl) fk_c_0 ?_
  exact fs_215_114
theorem fs_215_104 : fSB 215 [0, 163, 196] 4 104 f_215_104 := by
  unfold f_215_104
  refine fo_iload (k := 6) (fa_215 rfl) ?_
  refine fo_if_ne (fa_215 rfl) (pcT := 113) rfl fs_215_113 ?_
  refine fo_iconst (fa_215 rfl) fk_c_1 ?_
  exact fo_goto (fa_215 rfl) (pcT := 114) rfl fs_215_114
theorem fs_215_103 : fSB 215 [0, 163, 196] 4 103 f_215_103 := by
  unfold f_215_103
  refine fo_iconst (fa_215 rfl) fk_c_0 ?_
  exact fs_215_104
theorem fs_215_91 : fSB 215 [0, 163, 196] 4 91 f_215_91 := by
  unfold f_215_91
  refine fo_istore (k := 7) (fa_215 rfl) ?_
  refine fo_aload_n (k := 0) (fa_215 rfl) ?_
  refine fo_iload (k := 5) (fa_215 rfl) ?_
  refine fo_if_ne (fa_215 rfl) (pcT := 103) rfl fs_215_103 ?_
  refine fo_iconst (fa_215 rfl) fk_c_1 ?_
  exact fo_goto (fa_215 rfl) (pcT := 104) rfl fs_215_104
theorem fs_215_69 : fSB 215 [0, 163, 196] 4 69 f_215_69 := by
  unfold f_215_69
  refine fo_aload_n (k := 0) (fa_215 rfl) ?_
  refine fo_getr (fa_215 rfl) (by decide) rfl ?_
  refine fo_iload_n (k := 1) (fa_215 rfl) ?_
  refine fo_aaload (fa_215 rfl) (by decide) (by decide) ?_
  refine fo_iconst (fa_215 rfl) fk_c_0 ?_
  refine fo_iaload (fa_215 rfl) ?_
  refine fo_static (by decide) (fo_call (fa_215 rfl) fNs_static fsm_183 (by decide) fFil_0 fna_183 fx_183 (by rw [fP_183]; rfl) fh_215 ?_)
  refine fo_aload_n (k := 0) (fa_215 rfl) ?_
  refine fo_getr (fa_215 rfl) (by decide) rfl ?_
  refine fo_iload_n (k := 1) (fa_215 rfl) ?_
  refine fo_aaload (fa_215 rfl) (by decide) (by decide) ?_
  refine fo_iconst (fa_215 rfl) fk_c_1 ?_
  refine fo_iload_n (k := 2) (fa_215 rfl) ?_
  refine fo_iadd (fa_215 rfl) ?_
  refine fo_iaload (fa_215 rfl) ?_
  refine fo_ixor (fa_215 rfl) ?_
  exact fs_215_91
theorem fs_215_52 : fSB 215 [0, 163, 196] 4 52 f_215_52 := by
  unfold f_215_52
  refine fo_iload_n (k := 3) (fa_215 rfl) ?_
  refine fo_if_eq (fa_215 rfl) (pcT := 69) rfl fs_215_69 ?_
  refine fo_aload_n (k := 0) (fa_215 rfl) ?_
  refine fo_getr (fa_215 rfl) (by decide) rfl ?_
  refine fo_iload_n (k := 1) (fa_215 rfl) ?_
  refine fo_aaload (fa_215 rfl) (by decide) (by decide) ?_
  refine fo_iconst (fa_215 rfl) fk_c_1 ?_
  refine fo_iload_n (k := 2) (fa_215 rfl) ?_
  refine fo_iadd (fa_215 rfl) ?_
  refine fo_iaload (fa_215 rfl) ?_
  exact fo_goto (fa_215 rfl) (pcT := 91) rfl fs_215_91
theorem fs_215_41 : fSB 215 [0, 163, 196] 4 41 f_215_41 := by
  unfold f_215_41
  refine fo_istore (k := 6) (fa_215 rfl) ?_
  refine fo_iload (k := 6) (fa_215 rfl) ?_
  refine fo_if_ne (fa_215 rfl) (pcT := 52) rfl fs_215_52 ?_
  refine fo_iconst (fa_215 rfl) fk_c_0 ?_
  exact fo_goto (fa_215 rfl) (pcT := 91) rfl fs_215_91
theorem fs_215_40 : fSB 215 [0, 163, 196] 4 40 f_215_40 := by
  unfold f_215_40
  refine fo_iconst (fa_215 rfl) fk_c_0 ?_
  exact fs_215_41
theorem fs_215_20 : fSB 215 [0, 163, 196] 4 20 f_215_20 := by
  unfold f_215_20
  refine fo_istore (k := 5) (fa_215 rfl) ?_
  refine fo_iload (k := 5) (fa_215 rfl) ?_
  refine fo_if_eq (fa_215 rfl) (pcT := 40) rfl fs_215_40 ?_
  refine fo_aload_n (k := 0) (fa_215 rfl) ?_
  refine fo_iload_n (k := 1) (fa_215 rfl) ?_
  refine fo_iload_n (k := 2) (fa_215 rfl) ?_
  refine fo_virtual (by decide) fna_201 (fo_call (fa_215 rfl) fNs_virtual fsm_201 (by decide) fFil_0 fna_201 fx_201 (by rw [fP_201]; rfl) fh_215 ?_)
  refine fo_if_eq (fa_215 rfl) (pcT := 40) rfl fs_215_40 ?_
  refine fo_iconst (fa_215 rfl) fk_c_1 ?_
  exact fo_goto (fa_215 rfl) (pcT := 41) rfl fs_215_41
theorem fs_215_19 : fSB 215 [0, 163, 196] 4 19 f_215_19 := by
  unfold f_215_19
  refine fo_iconst (fa_215 rfl) fk_c_0 ?_
  exact fs_215_20
theorem fs_215_0 : fSB 215 [0, 163, 196] 4 0 f_215_0 := by
  unfold f_215_0
  refine fo_iload_n (k := 1) (fa_215 rfl) ?_
  refine fo_static (by decide) (fo_call (fa_215 rfl) fNs_static fsm_173 (by decide) fFil_0 fna_173 fx_173 (by rw [fP_173]; rfl) fh_215 ?_)
  refine fo_if_eq (fa_215 rfl) (pcT := 19) rfl fs_215_19 ?_
  refine fo_iload (k := 4) (fa_215 rfl) ?_
  refine fo_static (by decide) (fo_call (fa_215 rfl) fNs_static fsm_173 (by decide) fFil_0 fna_173 fx_173 (by rw [fP_173]; rfl) fh_215 ?_)
  refine fo_if_eq (fa_215 rfl) (pcT := 19) rfl fs_215_19 ?_
  refine fo_iconst (fa_215 rfl) fk_c_1 ?_
  exact fo_goto (fa_215 rfl) (pcT := 20) rfl fs_215_20
theorem fsm_215 : fSM 215 4 fm_215 := fs_methH (lp := [0, 163, 196]) (by decide) rfl ⟨fs_215_0, fs_215_163, fs_215_196, trivial⟩
theorem fP_217 : mj_P 217 = (8, 2, (some .boolean), mcX8_isAhead, []) := rfl
theorem fa_217 {pc : Nat} {e : mjE} (h : mj_at mcX8_isAhead pc = some e) : fAt 217 pc e := by unfold fAt; rw [fP_217]; exact h
theorem fr_217 : (mj_P 217).2.2.1 = (some .boolean) := by rw [fP_217]
theorem fna_217 : (mj_P 217).2.1 = 2 := by rw [fP_217]
theorem fx_217 : 2 ≤ mj_mx.getD 217 0 := by decide
theorem fh_217 : (mj_P 217).2.2.2.2.isEmpty = true := by rw [fP_217]; rfl
theorem fs_217_55 : fSB 217 [0, 2] 0 55 f_217_55 := by
  unfold f_217_55
  exact fo_iret (fa_217 rfl) fr_217 fw_bool
theorem fs_217_54 : fSB 217 [0, 2] 0 54 f_217_54 := by
  unfold f_217_54
  refine fo_iconst (fa_217 rfl) fk_c_0 ?_
  exact fs_217_55
theorem fs_217_29 : fSB 217 [0, 2] 0 29 f_217_29 := by
  unfold f_217_29
  refine fo_iload_n (k := 2) (fa_217 rfl) ?_
  refine fo_aload_n (k := 0) (fa_217 rfl) ?_
  refine fo_alen (fa_217 rfl) ?_
  refine fo_icmp_ge (fa_217 rfl) (pcT := 54) rfl fs_217_54 ?_
  refine fo_iload_n (k := 2) (fa_217 rfl) ?_
  refine fo_aload_n (k := 1) (fa_217 rfl) ?_
  refine fo_alen (fa_217 rfl) ?_
  refine fo_icmp_ge (fa_217 rfl) (pcT := 54) rfl fs_217_54 ?_
  refine fo_aload_n (k := 0) (fa_217 rfl) ?_
  refine fo_iload_n (k := 2) (fa_217 rfl) ?_
  refine fo_iaload (fa_217 rfl) ?_
  refine fo_aload_n (k := 1) (fa_217 rfl) ?_
  refine fo_iload_n (k := 2) (fa_217 rfl) ?_
  refine fo_iaload (fa_217 rfl) ?_
  refine fo_icmp_ge (fa_217 rfl) (pcT := 54) rfl fs_217_54 ?_
  refine fo_iconst (fa_217 rfl) fk_c_1 ?_
  exact fo_goto (fa_217 rfl) (pcT := 55) rfl fs_217_55
theorem fs_217_2 : fSB 217 [0, 2] 0 2 f_217_2 := by
  unfold f_217_2
  refine fo_iload_n (k := 2) (fa_217 rfl) ?_
  refine fo_aload_n (k := 0) (fa_217 rfl) ?_
  refine fo_alen (fa_217 rfl) ?_
  refine fo_icmp_ge (fa_217 rfl) (pcT := 29) rfl fs_217_29 ?_
  refine fo_iload_n (k := 2) (fa_217 rfl) ?_
  refine fo_aload_n (k := 1) (fa_217 rfl) ?_
  refine fo_alen (fa_217 rfl) ?_
  refine fo_icmp_ge (fa_217 rfl) (pcT := 29) rfl fs_217_29 ?_
  refine fo_aload_n (k := 0) (fa_217 rfl) ?_
  refine fo_iload_n (k := 2) (fa_217 rfl) ?_
  refine fo_iaload (fa_217 rfl) ?_
  refine fo_aload_n (k := 1) (fa_217 rfl) ?_
  refine fo_iload_n (k := 2) (fa_217 rfl) ?_
  refine fo_iaload (fa_217 rfl) ?_
  refine fo_icmp_ne (fa_217 rfl) (pcT := 29) rfl fs_217_29 ?_
  refine fo_iinc (k := 2) (fa_217 rfl) fk_c_1 ?_
  exact fo_goto (fa_217 rfl) (pcT := 2) rfl (fo_back (q := 2) rfl)
theorem fs_217_0 : fSB 217 [0, 2] 0 0 f_217_0 := by
  unfold f_217_0
  refine fo_iconst (fa_217 rfl) fk_c_0 ?_
  refine fo_istore_n (k := 2) (fa_217 rfl) ?_
  exact fs_217_2
theorem fsm_217 : fSM 217 0 fm_217 := fs_methH (lp := [0, 2]) (by decide) rfl ⟨fs_217_0, fs_217_2, trivial⟩
theorem fP_218 : mj_P 218 = (8, 2, none, mcX8_finds, []) := rfl
theorem fa_218 {pc : Nat} {e : mjE} (h : mj_at mcX8_finds pc = some e) : fAt 218 pc e := by unfold fAt; rw [fP_218]; exact h
theorem fr_218 : (mj_P 218).2.2.1 = none := by rw [fP_218]
theorem fna_218 : (mj_P 218).2.1 = 2 := by rw [fP_218]
theorem fx_218 : 2 ≤ mj_mx.getD 218 0 := by decide
theorem fh_218 : (mj_P 218).2.2.2.2.isEmpty = true := by rw [fP_218]; rfl
theorem fs_218_70 : fSB 218 [0, 14] 1 70 f_218_70 := by
  unfold f_218_70
  exact fo_ret (fa_218 rfl) fr_218
theorem fs_218_53 : fSB 218 [0, 14] 1 53 f_218_53 := by
  unfold f_218_53
  refine fo_aload_n (k := 0) (fa_218 rfl) ?_
  refine fo_getr (fa_218 rfl) (by decide) rfl ?_
  refine fo_iload_n (k := 2) (fa_218 rfl) ?_
  refine fo_aload_n (k := 1) (fa_218 rfl) ?_
  refine fo_aastore (fa_218 rfl) (by decide) (by decide) (by decide) ?_
  refine fo_aload_n (k := 0) (fa_218 rfl) ?_
  refine fo_dup (fa_218 rfl) ?_
  refine fo_geti (fa_218 rfl) (by decide) rfl ?_
  refine fo_iconst (fa_218 rfl) fk_c_1 ?_
  refine fo_iadd (fa_218 rfl) ?_
  refine fo_puti (fa_218 rfl) (by decide) rfl ?_
  exact fs_218_70
theorem fs_218_14 : fSB 218 [0, 14] 1 14 f_218_14 := by
  unfold f_218_14
  refine fo_iload_n (k := 2) (fa_218 rfl) ?_
  refine fo_if_le (fa_218 rfl) (pcT := 53) rfl fs_218_53 ?_
  refine fo_aload_n (k := 1) (fa_218 rfl) ?_
  refine fo_aload_n (k := 0) (fa_218 rfl) ?_
  refine fo_getr (fa_218 rfl) (by decide) rfl ?_
  refine fo_iload_n (k := 2) (fa_218 rfl) ?_
  refine fo_iconst (fa_218 rfl) fk_c_1 ?_
  refine fo_isub (fa_218 rfl) ?_
  refine fo_aaload (fa_218 rfl) (by decide) (by decide) ?_
  refine fo_static (by decide) (fo_call (fa_218 rfl) fNs_static fsm_217 (by decide) fFil_1 fna_217 fx_217 (by rw [fP_217]; rfl) fh_218 ?_)
  refine fo_if_eq (fa_218 rfl) (pcT := 53) rfl fs_218_53 ?_
  refine fo_aload_n (k := 0) (fa_218 rfl) ?_
  refine fo_getr (fa_218 rfl) (by decide) rfl ?_
  refine fo_iload_n (k := 2) (fa_218 rfl) ?_
  refine fo_aload_n (k := 0) (fa_218 rfl) ?_
  refine fo_getr (fa_218 rfl) (by decide) rfl ?_
  refine fo_iload_n (k := 2) (fa_218 rfl) ?_
  refine fo_iconst (fa_218 rfl) fk_c_1 ?_
  refine fo_isub (fa_218 rfl) ?_
  refine fo_aaload (fa_218 rfl) (by decide) (by decide) ?_
  refine fo_aastore (fa_218 rfl) (by decide) (by decide) (by decide) ?_
  refine fo_iinc (k := 2) (fa_218 rfl) fk_c_m1 ?_
  exact fo_goto (fa_218 rfl) (pcT := 14) rfl (fo_back (q := 14) rfl)
theorem fs_218_0 : fSB 218 [0, 14] 1 0 f_218_0 := by
  unfold f_218_0
  refine fo_aload_n (k := 0) (fa_218 rfl) ?_
  refine fo_geti (fa_218 rfl) (by decide) rfl ?_
  refine fo_bipush (fa_218 rfl) fk_b_60 ?_
  refine fo_icmp_gt (fa_218 rfl) (pcT := 70) rfl fs_218_70 ?_
  refine fo_aload_n (k := 0) (fa_218 rfl) ?_
  refine fo_geti (fa_218 rfl) (by decide) rfl ?_
  refine fo_istore_n (k := 2) (fa_218 rfl) ?_
  exact fs_218_14
theorem fsm_218 : fSM 218 1 fm_218 := fs_methH (lp := [0, 14]) (by decide) rfl ⟨fs_218_0, fs_218_14, trivial⟩
theorem fP_219 : mj_P 219 = (8, 3, (some .boolean), mcX8_isTooMuch, []) := rfl
theorem fa_219 {pc : Nat} {e : mjE} (h : mj_at mcX8_isTooMuch pc = some e) : fAt 219 pc e := by unfold fAt; rw [fP_219]; exact h
theorem fr_219 : (mj_P 219).2.2.1 = (some .boolean) := by rw [fP_219]
theorem fna_219 : (mj_P 219).2.1 = 3 := by rw [fP_219]
theorem fx_219 : 3 ≤ mj_mx.getD 219 0 := by decide
theorem fh_219 : (mj_P 219).2.2.2.2.isEmpty = true := by rw [fP_219]; rfl
theorem fs_219_48 : fSB 219 [0] 0 48 f_219_48 := by
  unfold f_219_48
  exact fo_iret (fa_219 rfl) fr_219 fw_bool
theorem fs_219_47 : fSB 219 [0] 0 47 f_219_47 := by
  unfold f_219_47
  refine fo_iconst (fa_219 rfl) fk_c_0 ?_
  exact fs_219_48
theorem fs_219_20 : fSB 219 [0] 0 20 f_219_20 := by
  unfold f_219_20
  refine fo_aload_n (k := 0) (fa_219 rfl) ?_
  refine fo_aload_n (k := 0) (fa_219 rfl) ?_
  refine fo_getr (fa_219 rfl) (by decide) rfl ?_
  refine fo_iload_n (k := 1) (fa_219 rfl) ?_
  refine fo_aaload (fa_219 rfl) (by decide) (by decide) ?_
  refine fo_iconst (fa_219 rfl) fk_c_0 ?_
  refine fo_iconst (fa_219 rfl) fk_c_0 ?_
  refine fo_newarray (fa_219 rfl) rfl (by decide) (by decide) fel_20 ?_
  exact fo_bad
theorem fs_219_0 : fSB 219 [0] 0 0 f_219_0 := by
  unfold f_219_0
  refine fo_aload_n (k := 0) (fa_219 rfl) ?_
  refine fo_iconst (fa_219 rfl) fk_c_0 ?_
  refine fo_puti (fa_219 rfl) (by decide) rfl ?_
  refine fo_aload_n (k := 0) (fa_219 rfl) ?_
  refine fo_getr (fa_219 rfl) (by decide) rfl ?_
  refine fo_iload_n (k := 1) (fa_219 rfl) ?_
  refine fo_aaload (fa_219 rfl) (by decide) (by decide) ?_
  refine fo_alen (fa_219 rfl) ?_
  refine fo_iconst (fa_219 rfl) fk_c_1 ?_
  refine fo_isub (fa_219 rfl) ?_
  refine fo_iload_n (k := 2) (fa_219 rfl) ?_
  refine fo_icmp_le (fa_219 rfl) (pcT := 20) rfl fs_219_20 ?_
  refine fo_iconst (fa_219 rfl) fk_c_1 ?_
  exact fo_iret (fa_219 rfl) fr_219 fw_bool
theorem fsm_219 : fSM 219 0 fm_219 := fs_methH (lp := [0]) (by decide) rfl ⟨fs_219_0, trivial⟩
theorem fP_220 : mj_P 220 = (8, 2, (some .int), mcX8_covers, []) := rfl
theorem fa_220 {pc : Nat} {e : mjE} (h : mj_at mcX8_covers pc = some e) : fAt 220 pc e := by unfold fAt; rw [fP_220]; exact h
theorem fr_220 : (mj_P 220).2.2.1 = (some .int) := by rw [fP_220]
theorem fna_220 : (mj_P 220).2.1 = 2 := by rw [fP_220]
theorem fx_220 : 2 ≤ mj_mx.getD 220 0 := by decide
theorem fh_220 : (mj_P 220).2.2.2.2.isEmpty = true := by rw [fP_220]; rfl
theorem fs_220_64 : fSB 220 [0] 3 64 f_220_64 := by
  unfold f_220_64
  exact fo_iret (fa_220 rfl) fr_220 fw_int
theorem fs_220_60 : fSB 220 [0] 3 60 f_220_60 := by
  unfold f_220_60
  refine fo_aload_n (k := 0) (fa_220 rfl) ?_
  refine fo_geti (fa_220 rfl) (by decide) rfl ?_
  exact fs_220_64
theorem fs_220_49 : fSB 220 [0] 3 49 f_220_49 := by
  unfold f_220_49
  refine fo_iconst (fa_220 rfl) fk_c_0 ?_
  refine fo_virtual (by decide) fna_171 (fo_call (fa_220 rfl) fNs_virtual fsm_171 (by decide) fFil_0 fna_171 fx_171 (by rw [fP_171]; rfl) fh_220 ?_)
  refine fo_if_eq (fa_220 rfl) (pcT := 60) rfl fs_220_60 ?_
  refine fo_iconst (fa_220 rfl) fk_c_0 ?_
  exact fo_goto (fa_220 rfl) (pcT := 64) rfl fs_220_64
theorem fs_220_48 : fSB 220 [0] 3 48 f_220_48 := by
  unfold f_220_48
  refine fo_iconst (fa_220 rfl) fk_c_0 ?_
  exact fs_220_49
theorem fs_220_26 : fSB 220 [0] 3 26 f_220_26 := by
  unfold f_220_26
  refine fo_aload_n (k := 0) (fa_220 rfl) ?_
  refine fo_iload_n (k := 1) (fa_220 rfl) ?_
  refine fo_virtual (by decide) fna_175 (fo_call (fa_220 rfl) fNs_virtual fsm_175 (by decide) fFil_0 fna_175 fx_175 (by rw [fP_175]; rfl) fh_220 ?_)
  refine fo_if_eq (fa_220 rfl) (pcT := 48) rfl fs_220_48 ?_
  refine fo_aload_n (k := 0) (fa_220 rfl) ?_
  refine fo_iload_n (k := 1) (fa_220 rfl) ?_
  refine fo_bipush (fa_220 rfl) fk_b_40 ?_
  refine fo_virtual (by decide) fna_219 (fo_call (fa_220 rfl) fNs_virtual fsm_219 (by decide) fFil_0 fna_219 fx_219 (by rw [fP_219]; rfl) fh_220 ?_)
  refine fo_if_eq (fa_220 rfl) (pcT := 48) rfl fs_220_48 ?_
  refine fo_iconst (fa_220 rfl) fk_c_1 ?_
  exact fo_goto (fa_220 rfl) (pcT := 49) rfl fs_220_49
theorem fs_220_25 : fSB 220 [0] 3 25 f_220_25 := by
  unfold f_220_25
  refine fo_iconst (fa_220 rfl) fk_c_0 ?_
  exact fs_220_26
theorem fs_220_13 : fSB 220 [0] 3 13 f_220_13 := by
  unfold f_220_13
  refine fo_aload_n (k := 0) (fa_220 rfl) ?_
  refine fo_iload_n (k := 1) (fa_220 rfl) ?_
  refine fo_virtual (by decide) fna_175 (fo_call (fa_220 rfl) fNs_virtual fsm_175 (by decide) fFil_0 fna_175 fx_175 (by rw [fP_175]; rfl) fh_220 ?_)
  refine fo_if_ne (fa_220 rfl) (pcT := 25) rfl fs_220_25 ?_
  refine fo_iconst (fa_220 rfl) fk_c_1 ?_
  exact fo_goto (fa_220 rfl) (pcT := 26) rfl fs_220_26
theorem fs_220_12 : fSB 220 [0] 3 12 f_220_12 := by
  unfold f_220_12
  refine fo_iconst (fa_220 rfl) fk_c_0 ?_
  exact fs_220_13
theorem fs_220_0 : fSB 220 [0] 3 0 f_220_0 := by
  unfold f_220_0
  refine fo_aload_n (k := 0) (fa_220 rfl) ?_
  refine fo_iload_n (k := 1) (fa_220 rfl) ?_
  refine fo_static (by decide) (fo_call (fa_220 rfl) fNs_static fsm_173 (by decide) fFil_0 fna_173 fx_173 (by rw [fP_173]; rfl) fh_220 ?_)
  refine fo_if_ne (fa_220 rfl) (pcT := 12) rfl fs_220_12 ?_
  refine fo_iconst (fa_220 rfl) fk_c_1 ?_
  exact fo_goto (fa_220 rfl) (pcT := 13) rfl fs_220_13
theorem fsm_220 : fSM 220 3 fm_220 := fs_methH (lp := [0]) (by decide) rfl ⟨fs_220_0, trivial⟩
theorem fP_221 : mj_P 221 = (8, 3, (some .int), mcX8_coverSize, []) := rfl
theorem fa_221 {pc : Nat} {e : mjE} (h : mj_at mcX8_coverSize pc = some e) : fAt 221 pc e := by unfold fAt; rw [fP_221]; exact h
theorem fr_221 : (mj_P 221).2.2.1 = (some .int) := by rw [fP_221]
theorem fna_221 : (mj_P 221).2.1 = 3 := by rw [fP_221]
theorem fx_221 : 3 ≤ mj_mx.getD 221 0 := by decide
theorem fh_221 : (mj_P 221).2.2.2.2.isEmpty = true := by rw [fP_221]; rfl
theorem fs_221_101 : fSB 221 [0] 3 101 f_221_101 := by
  unfold f_221_101
  exact fo_iret (fa_221 rfl) fr_221 fw_int
theorem fs_221_94 : fSB 221 [0] 3 94 f_221_94 := by
  unfold f_221_94
  refine fo_aload_n (k := 0) (fa_221 rfl) ?_
  refine fo_getr (fa_221 rfl) (by decide) rfl ?_
  refine fo_iload_n (k := 2) (fa_221 rfl) ?_
  refine fo_aaload (fa_221 rfl) (by decide) (by decide) ?_
  refine fo_alen (fa_221 rfl) ?_
  exact fs_221_101
theorem fs_221_81 : fSB 221 [0] 3 81 f_221_81 := by
  unfold f_221_81
  refine fo_iload_n (k := 3) (fa_221 rfl) ?_
  refine fo_iload (k := 4) (fa_221 rfl) ?_
  refine fo_virtual (by decide) fna_171 (fo_call (fa_221 rfl) fNs_virtual fsm_171 (by decide) fFil_0 fna_171 fx_171 (by rw [fP_171]; rfl) fh_221 ?_)
  refine fo_if_eq (fa_221 rfl) (pcT := 94) rfl fs_221_94 ?_
  refine fo_iconst (fa_221 rfl) fk_c_0 ?_
  exact fo_goto (fa_221 rfl) (pcT := 101) rfl fs_221_101
theorem fs_221_80 : fSB 221 [0] 3 80 f_221_80 := by
  unfold f_221_80
  refine fo_iconst (fa_221 rfl) fk_c_0 ?_
  exact fs_221_81
theorem fs_221_68 : fSB 221 [0] 3 68 f_221_68 := by
  unfold f_221_68
  refine fo_aload_n (k := 0) (fa_221 rfl) ?_
  refine fo_iload_n (k := 1) (fa_221 rfl) ?_
  refine fo_virtual (by decide) fna_175 (fo_call (fa_221 rfl) fNs_virtual fsm_175 (by decide) fFil_0 fna_175 fx_175 (by rw [fP_175]; rfl) fh_221 ?_)
  refine fo_if_ne (fa_221 rfl) (pcT := 80) rfl fs_221_80 ?_
  refine fo_iconst (fa_221 rfl) fk_c_1 ?_
  exact fo_goto (fa_221 rfl) (pcT := 81) rfl fs_221_81
theorem fs_221_67 : fSB 221 [0] 3 67 f_221_67 := by
  unfold f_221_67
  refine fo_iconst (fa_221 rfl) fk_c_0 ?_
  exact fs_221_68
theorem fs_221_53 : fSB 221 [0] 3 53 f_221_53 := by
  unfold f_221_53
  refine fo_istore (k := 4) (fa_221 rfl) ?_
  refine fo_aload_n (k := 0) (fa_221 rfl) ?_
  refine fo_iload_n (k := 1) (fa_221 rfl) ?_
  refine fo_static (by decide) (fo_call (fa_221 rfl) fNs_static fsm_173 (by decide) fFil_0 fna_173 fx_173 (by rw [fP_173]; rfl) fh_221 ?_)
  refine fo_if_ne (fa_221 rfl) (pcT := 67) rfl fs_221_67 ?_
  refine fo_iconst (fa_221 rfl) fk_c_1 ?_
  exact fo_goto (fa_221 rfl) (pcT := 68) rfl fs_221_68
theorem fs_221_52 : fSB 221 [0] 3 52 f_221_52 := by
  unfold f_221_52
  refine fo_iconst (fa_221 rfl) fk_c_0 ?_
  exact fs_221_53
theorem fs_221_23 : fSB 221 [0] 3 23 f_221_23 := by
  unfold f_221_23
  refine fo_istore_n (k := 3) (fa_221 rfl) ?_
  refine fo_aload_n (k := 0) (fa_221 rfl) ?_
  refine fo_iload_n (k := 1) (fa_221 rfl) ?_
  refine fo_virtual (by decide) fna_175 (fo_call (fa_221 rfl) fNs_virtual fsm_175 (by decide) fFil_0 fna_175 fx_175 (by rw [fP_175]; rfl) fh_221 ?_)
  refine fo_if_eq (fa_221 rfl) (pcT := 52) rfl fs_221_52 ?_
  refine fo_iload_n (k := 2) (fa_221 rfl) ?_
  refine fo_i2l (fa_221 rfl) ?_
  refine fo_lconst (fa_221 rfl) rfl ?_
  refine fo_aload_n (k := 0) (fa_221 rfl) ?_
  refine fo_geti (fa_221 rfl) (by decide) rfl ?_
  refine fo_iconst (fa_221 rfl) fk_c_1 ?_
  refine fo_isub (fa_221 rfl) ?_
  refine fo_i2l (fa_221 rfl) ?_
  refine fo_static (by decide) (fo_call (fa_221 rfl) fNs_static fsm_172 (by decide) fFil_0 fna_172 fx_172 (by rw [fP_172]; rfl) fh_221 ?_)
  refine fo_if_ne (fa_221 rfl) (pcT := 52) rfl fs_221_52 ?_
  refine fo_iconst (fa_221 rfl) fk_c_1 ?_
  exact fo_goto (fa_221 rfl) (pcT := 53) rfl fs_221_53
theorem fs_221_22 : fSB 221 [0] 3 22 f_221_22 := by
  unfold f_221_22
  refine fo_iconst (fa_221 rfl) fk_c_0 ?_
  exact fs_221_23
theorem fs_221_0 : fSB 221 [0] 3 0 f_221_0 := by
  unfold f_221_0
  refine fo_aload_n (k := 0) (fa_221 rfl) ?_
  refine fo_iload_n (k := 1) (fa_221 rfl) ?_
  refine fo_virtual (by decide) fna_175 (fo_call (fa_221 rfl) fNs_virtual fsm_175 (by decide) fFil_0 fna_175 fx_175 (by rw [fP_175]; rfl) fh_221 ?_)
  refine fo_if_eq (fa_221 rfl) (pcT := 22) rfl fs_221_22 ?_
  refine fo_aload_n (k := 0) (fa_221 rfl) ?_
  refine fo_iload_n (k := 1) (fa_221 rfl) ?_
  refine fo_bipush (fa_221 rfl) fk_b_40 ?_
  refine fo_virtual (by decide) fna_219 (fo_call (fa_221 rfl) fNs_virtual fsm_219 (by decide) fFil_0 fna_219 fx_219 (by rw [fP_219]; rfl) fh_221 ?_)
  refine fo_if_eq (fa_221 rfl) (pcT := 22) rfl fs_221_22 ?_
  refine fo_iconst (fa_221 rfl) fk_c_1 ?_
  exact fo_goto (fa_221 rfl) (pcT := 23) rfl fs_221_23
theorem fsm_221 : fSM 221 3 fm_221 := fs_methH (lp := [0]) (by decide) rfl ⟨fs_221_0, trivial⟩
theorem fP_222 : mj_P 222 = (8, 4, (some .int), mcX8_coverAt, []) := rfl
theorem fa_222 {pc : Nat} {e : mjE} (h : mj_at mcX8_coverAt pc = some e) : fAt 222 pc e := by unfold fAt; rw [fP_222]; exact h
theorem fr_222 : (mj_P 222).2.2.1 = (some .int) := by rw [fP_222]
theorem fna_222 : (mj_P 222).2.1 = 4 := by rw [fP_222]
theorem fx_222 : 4 ≤ mj_mx.getD 222 0 := by decide
theorem fh_222 : (mj_P 222).2.2.2.2.isEmpty = true := by rw [fP_222]; rfl
theorem fs_222_136 : fSB 222 [0] 3 136 f_222_136 := by
  unfold f_222_136
  exact fo_iret (fa_222 rfl) fr_222 fw_int
theorem fs_222_128 : fSB 222 [0] 3 128 f_222_128 := by
  unfold f_222_128
  refine fo_aload_n (k := 0) (fa_222 rfl) ?_
  refine fo_getr (fa_222 rfl) (by decide) rfl ?_
  refine fo_iload_n (k := 2) (fa_222 rfl) ?_
  refine fo_aaload (fa_222 rfl) (by decide) (by decide) ?_
  refine fo_iload_n (k := 3) (fa_222 rfl) ?_
  refine fo_iaload (fa_222 rfl) ?_
  exact fs_222_136
theorem fs_222_118 : fSB 222 [0] 3 118 f_222_118 := by
  unfold f_222_118
  refine fo_virtual (by decide) fna_171 (fo_call (fa_222 rfl) fNs_virtual fsm_171 (by decide) fFil_0 fna_171 fx_171 (by rw [fP_171]; rfl) fh_222 ?_)
  refine fo_if_eq (fa_222 rfl) (pcT := 128) rfl fs_222_128 ?_
  refine fo_iconst (fa_222 rfl) fk_c_0 ?_
  exact fo_goto (fa_222 rfl) (pcT := 136) rfl fs_222_136
theorem fs_222_117 : fSB 222 [0] 3 117 f_222_117 := by
  unfold f_222_117
  refine fo_iconst (fa_222 rfl) fk_c_0 ?_
  exact fs_222_118
theorem fs_222_106 : fSB 222 [0] 3 106 f_222_106 := by
  unfold f_222_106
  refine fo_iload (k := 4) (fa_222 rfl) ?_
  refine fo_iload (k := 5) (fa_222 rfl) ?_
  refine fo_if_ne (fa_222 rfl) (pcT := 117) rfl fs_222_117 ?_
  refine fo_iconst (fa_222 rfl) fk_c_1 ?_
  exact fo_goto (fa_222 rfl) (pcT := 118) rfl fs_222_118
theorem fs_222_105 : fSB 222 [0] 3 105 f_222_105 := by
  unfold f_222_105
  refine fo_iconst (fa_222 rfl) fk_c_0 ?_
  exact fs_222_106
theorem fs_222_93 : fSB 222 [0] 3 93 f_222_93 := by
  unfold f_222_93
  refine fo_aload_n (k := 0) (fa_222 rfl) ?_
  refine fo_iload_n (k := 1) (fa_222 rfl) ?_
  refine fo_virtual (by decide) fna_175 (fo_call (fa_222 rfl) fNs_virtual fsm_175 (by decide) fFil_0 fna_175 fx_175 (by rw [fP_175]; rfl) fh_222 ?_)
  refine fo_if_ne (fa_222 rfl) (pcT := 105) rfl fs_222_105 ?_
  refine fo_iconst (fa_222 rfl) fk_c_1 ?_
  exact fo_goto (fa_222 rfl) (pcT := 106) rfl fs_222_106
theorem fs_222_92 : fSB 222 [0] 3 92 f_222_92 := by
  unfold f_222_92
  refine fo_iconst (fa_222 rfl) fk_c_0 ?_
  exact fs_222_93
theorem fs_222_78 : fSB 222 [0] 3 78 f_222_78 := by
  unfold f_222_78
  refine fo_istore (k := 5) (fa_222 rfl) ?_
  refine fo_aload_n (k := 0) (fa_222 rfl) ?_
  refine fo_iload_n (k := 1) (fa_222 rfl) ?_
  refine fo_static (by decide) (fo_call (fa_222 rfl) fNs_static fsm_173 (by decide) fFil_0 fna_173 fx_173 (by rw [fP_173]; rfl) fh_222 ?_)
  refine fo_if_ne (fa_222 rfl) (pcT := 92) rfl fs_222_92 ?_
  refine fo_iconst (fa_222 rfl) fk_c_1 ?_
  exact fo_goto (fa_222 rfl) (pcT := 93) rfl fs_222_93
theorem fs_222_77 : fSB 222 [0] 3 77 f_222_77 := by
  unfold f_222_77
  refine fo_iconst (fa_222 rfl) fk_c_0 ?_
  exact fs_222_78
theorem fs_222_23 : fSB 222 [0] 3 23 f_222_23 := by
  unfold f_222_23
  refine fo_istore (k := 4) (fa_222 rfl) ?_
  refine fo_aload_n (k := 0) (fa_222 rfl) ?_
  refine fo_iload_n (k := 1) (fa_222 rfl) ?_
  refine fo_virtual (by decide) fna_175 (fo_call (fa_222 rfl) fNs_virtual fsm_175 (by decide) fFil_0 fna_175 fx_175 (by rw [fP_175]; rfl) fh_222 ?_)
  refine fo_if_eq (fa_222 rfl) (pcT := 77) rfl fs_222_77 ?_
  refine fo_iload (k := 4) (fa_222 rfl) ?_
  refine fo_if_ne (fa_222 rfl) (pcT := 77) rfl fs_222_77 ?_
  refine fo_iload_n (k := 2) (fa_222 rfl) ?_
  refine fo_i2l (fa_222 rfl) ?_
  refine fo_lconst (fa_222 rfl) rfl ?_
  refine fo_aload_n (k := 0) (fa_222 rfl) ?_
  refine fo_geti (fa_222 rfl) (by decide) rfl ?_
  refine fo_iconst (fa_222 rfl) fk_c_1 ?_
  refine fo_isub (fa_222 rfl) ?_
  refine fo_i2l (fa_222 rfl) ?_
  refine fo_static (by decide) (fo_call (fa_222 rfl) fNs_static fsm_172 (by decide) fFil_0 fna_172 fx_172 (by rw [fP_172]; rfl) fh_222 ?_)
  refine fo_if_eq (fa_222 rfl) (pcT := 77) rfl fs_222_77 ?_
  refine fo_iload_n (k := 3) (fa_222 rfl) ?_
  refine fo_i2l (fa_222 rfl) ?_
  refine fo_lconst (fa_222 rfl) rfl ?_
  refine fo_aload_n (k := 0) (fa_222 rfl) ?_
  refine fo_getr (fa_222 rfl) (by decide) rfl ?_
  refine fo_iload_n (k := 2) (fa_222 rfl) ?_
  refine fo_aaload (fa_222 rfl) (by decide) (by decide) ?_
  refine fo_alen (fa_222 rfl) ?_
  refine fo_iconst (fa_222 rfl) fk_c_1 ?_
  refine fo_isub (fa_222 rfl) ?_
  refine fo_i2l (fa_222 rfl) ?_
  refine fo_static (by decide) (fo_call (fa_222 rfl) fNs_static fsm_172 (by decide) fFil_0 fna_172 fx_172 (by rw [fP_172]; rfl) fh_222 ?_)
  refine fo_if_eq (fa_222 rfl) (pcT := 77) rfl fs_222_77 ?_
  refine fo_iconst (fa_222 rfl) fk_c_1 ?_
  exact fo_goto (fa_222 rfl) (pcT := 78) rfl fs_222_78
theorem fs_222_22 : fSB 222 [0] 3 22 f_222_22 := by
  unfold f_222_22
  refine fo_iconst (fa_222 rfl) fk_c_0 ?_
  exact fs_222_23
theorem fs_222_0 : fSB 222 [0] 3 0 f_222_0 := by
  unfold f_222_0
  refine fo_aload_n (k := 0) (fa_222 rfl) ?_
  refine fo_iload_n (k := 1) (fa_222 rfl) ?_
  refine fo_virtual (by decide) fna_175 (fo_call (fa_222 rfl) fNs_virtual fsm_175 (by decide) fFil_0 fna_175 fx_175 (by rw [fP_175]; rfl) fh_222 ?_)
  refine fo_if_eq (fa_222 rfl) (pcT := 22) rfl fs_222_22 ?_
  refine fo_aload_n (k := 0) (fa_222 rfl) ?_
  refine fo_iload_n (k := 1) (fa_222 rfl) ?_
  refine fo_bipush (fa_222 rfl) fk_b_40 ?_
  refine fo_virtual (by decide) fna_219 (fo_call (fa_222 rfl) fNs_virtual fsm_219 (by decide) fFil_0 fna_219 fx_219 (by rw [fP_219]; rfl) fh_222 ?_)
  refine fo_if_eq (fa_222 rfl) (pcT := 22) rfl fs_222_22 ?_
  refine fo_iconst (fa_222 rfl) fk_c_1 ?_
  exact fo_goto (fa_222 rfl) (pcT := 23) rfl fs_222_23
theorem fsm_222 : fSM 222 3 fm_222 := fs_methH (lp := [0]) (by decide) rfl ⟨fs_222_0, trivial⟩
theorem fP_224 : mj_P 224 = (8, 2, (some .boolean), mcX8_isParted, []) := rfl
theorem fa_224 {pc : Nat} {e : mjE} (h : mj_at mcX8_isParted pc = some e) : fAt 224 pc e := by unfold fAt; rw [fP_224]; exact h
theorem fr_224 : (mj_P 224).2.2.1 = (some .boolean) := by rw [fP_224]
theorem fna_224 : (mj_P 224).2.1 = 2 := by rw [fP_224]
theorem fx_224 : 2 ≤ mj_mx.getD 224 0 := by decide
theorem fh_224 : (mj_P 224).2.2.2.2.isEmpty = true := by rw [fP_224]; rfl
theorem fs_224_80 : fSB 224 [0] 3 80 f_224_80 := by
  unfold f_224_80
  exact fo_iret (fa_224 rfl) fr_224 fw_bool
theorem fs_224_79 : fSB 224 [0] 3 79 f_224_79 := by
  unfold f_224_79
  refine fo_iconst (fa_224 rfl) fk_c_0 ?_
  exact fs_224_80
theorem fs_224_50 : fSB 224 [0] 3 50 f_224_50 := by
  unfold f_224_50
  refine fo_iload_n (k := 2) (fa_224 rfl) ?_
  refine fo_iconst (fa_224 rfl) fk_c_0 ?_
  refine fo_virtual (by decide) fna_171 (fo_call (fa_224 rfl) fNs_virtual fsm_171 (by decide) fFil_0 fna_171 fx_171 (by rw [fP_171]; rfl) fh_224 ?_)
  refine fo_if_ne (fa_224 rfl) (pcT := 79) rfl fs_224_79 ?_
  refine fo_aload_n (k := 0) (fa_224 rfl) ?_
  refine fo_aload_n (k := 0) (fa_224 rfl) ?_
  refine fo_getr (fa_224 rfl) (by decide) rfl ?_
  refine fo_iload_n (k := 1) (fa_224 rfl) ?_
  refine fo_aaload (fa_224 rfl) (by decide) (by decide) ?_
  refine fo_alen (fa_224 rfl) ?_
  refine fo_iconst (fa_224 rfl) fk_c_1 ?_
  refine fo_isub (fa_224 rfl) ?_
  refine fo_iconst (fa_224 rfl) fk_c_0 ?_
  exact fo_bad
theorem fs_224_49 : fSB 224 [0] 3 49 f_224_49 := by
  unfold f_224_49
  refine fo_iconst (fa_224 rfl) fk_c_0 ?_
  exact fs_224_50
theorem fs_224_37 : fSB 224 [0] 3 37 f_224_37 := by
  unfold f_224_37
  refine fo_aload_n (k := 0) (fa_224 rfl) ?_
  refine fo_iload_n (k := 1) (fa_224 rfl) ?_
  refine fo_virtual (by decide) fna_175 (fo_call (fa_224 rfl) fNs_virtual fsm_175 (by decide) fFil_0 fna_175 fx_175 (by rw [fP_175]; rfl) fh_224 ?_)
  refine fo_if_ne (fa_224 rfl) (pcT := 49) rfl fs_224_49 ?_
  refine fo_iconst (fa_224 rfl) fk_c_1 ?_
  exact fo_goto (fa_224 rfl) (pcT := 50) rfl fs_224_50
theorem fs_224_36 : fSB 224 [0] 3 36 f_224_36 := by
  unfold f_224_36
  refine fo_iconst (fa_224 rfl) fk_c_0 ?_
  exact fs_224_37
theorem fs_224_23 : fSB 224 [0] 3 23 f_224_23 := by
  unfold f_224_23
  refine fo_istore_n (k := 2) (fa_224 rfl) ?_
  refine fo_aload_n (k := 0) (fa_224 rfl) ?_
  refine fo_iload_n (k := 1) (fa_224 rfl) ?_
  refine fo_static (by decide) (fo_call (fa_224 rfl) fNs_static fsm_173 (by decide) fFil_0 fna_173 fx_173 (by rw [fP_173]; rfl) fh_224 ?_)
  refine fo_if_ne (fa_224 rfl) (pcT := 36) rfl fs_224_36 ?_
  refine fo_iconst (fa_224 rfl) fk_c_1 ?_
  exact fo_goto (fa_224 rfl) (pcT := 37) rfl fs_224_37
theorem fs_224_22 : fSB 224 [0] 3 22 f_224_22 := by
  unfold f_224_22
  refine fo_iconst (fa_224 rfl) fk_c_0 ?_
  exact fs_224_23
theorem fs_224_0 : fSB 224 [0] 3 0 f_224_0 := by
  unfold f_224_0
  refine fo_aload_n (k := 0) (fa_224 rfl) ?_
  refine fo_iload_n (k := 1) (fa_224 rfl) ?_
  refine fo_virtual (by decide) fna_175 (fo_call (fa_224 rfl) fNs_virtual fsm_175 (by decide) fFil_0 fna_175 fx_175 (by rw [fP_175]; rfl) fh_224 ?_)
  refine fo_if_eq (fa_224 rfl) (pcT := 22) rfl fs_224_22 ?_
  refine fo_aload_n (k := 0) (fa_224 rfl) ?_
  refine fo_iload_n (k := 1) (fa_224 rfl) ?_
  refine fo_bipush (fa_224 rfl) fk_b_14 ?_
  refine fo_virtual (by decide) fna_219 (fo_call (fa_224 rfl) fNs_virtual fsm_219 (by decide) fFil_0 fna_219 fx_219 (by rw [fP_219]; rfl) fh_224 ?_)
  refine fo_if_eq (fa_224 rfl) (pcT := 22) rfl fs_224_22 ?_
  refine fo_iconst (fa_224 rfl) fk_c_1 ?_
  exact fo_goto (fa_224 rfl) (pcT := 23) rfl fs_224_23
theorem fsm_224 : fSM 224 3 fm_224 := fs_methH (lp := [0]) (by decide) rfl ⟨fs_224_0, trivial⟩
