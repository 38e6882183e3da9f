theorem fP_260 : mj_P 260 = (8, 4, (some .int), mcX8_unmet, []) := rfl
theorem fa_260 {pc : Nat} {e : mjE} (h : mj_at mcX8_unmet pc = some e) : fAt 260 pc e := by unfold fAt; rw [fP_260]; exact h
theorem fr_260 : (mj_P 260).2.2.1 = (some .int) := by rw [fP_260]
theorem fna_260 : (mj_P 260).2.1 = 4 := by rw [fP_260]
theorem fx_260 : 4 ≤ mj_mx.getD 260 0 := by decide
theorem fh_260 : (mj_P 260).2.2.2.2.isEmpty = true := by rw [fP_260]; rfl
theorem fs_260_190 : fSB 260 [0, 70, 79, 96, 143] 2 190 f_260_190 := by
  unfold f_260_190
  refine fo_iload (k := 5) (fa_260 rfl) ?_
  exact fo_iret (fa_260 rfl) fr_260 fw_int
theorem fs_260_184 : fSB 260 [0, 70, 79, 96, 143] 2 184 f_260_184 := by
  unfold f_260_184
  refine fo_iinc (k := 6) (fa_260 rfl) fk_c_1 ?_
  exact fo_goto (fa_260 rfl) (pcT := 70) rfl (fo_back (q := 70) rfl)
theorem fs_260_178 : fSB 260 [0, 70, 79, 96, 143] 2 178 f_260_178 := by
  unfold f_260_178
  refine fo_iinc (k := 7) (fa_260 rfl) fk_c_1 ?_
  exact fo_goto (fa_260 rfl) (pcT := 79) rfl (fo_back (q := 79) rfl)
theorem fs_260_169 : fSB 260 [0, 70, 79, 96, 143] 2 169 f_260_169 := by
  unfold f_260_169
  refine fo_iadd (fa_260 rfl) ?_
  refine fo_istore (k := 5) (fa_260 rfl) ?_
  refine fo_iinc (k := 11) (fa_260 rfl) fk_c_1 ?_
  exact fo_goto (fa_260 rfl) (pcT := 143) rfl (fo_back (q := 143) rfl)
theorem fs_260_168 : fSB 260 [0, 70, 79, 96, 143] 2 168 f_260_168 := by
  unfold f_260_168
  refine fo_iconst (fa_260 rfl) fk_c_1 ?_
  exact fs_260_169
theorem fs_260_143 : fSB 260 [0, 70, 79, 96, 143] 2 143 f_260_143 := by
  unfold f_260_143
  refine fo_iload (k := 11) (fa_260 rfl) ?_
  refine fo_iload (k := 10) (fa_260 rfl) ?_
  refine fo_icmp_ge (fa_260 rfl) (pcT := 178) rfl fs_260_178 ?_
  refine fo_aload (k := 9) (fa_260 rfl) ?_
  refine fo_iload (k := 11) (fa_260 rfl) ?_
  refine fo_baload (fa_260 rfl) ?_
  refine fo_istore (k := 12) (fa_260 rfl) ?_
  refine fo_iload (k := 5) (fa_260 rfl) ?_
  refine fo_iload (k := 12) (fa_260 rfl) ?_
  refine fo_if_eq (fa_260 rfl) (pcT := 168) rfl fs_260_168 ?_
  refine fo_iconst (fa_260 rfl) fk_c_0 ?_
  exact fo_goto (fa_260 rfl) (pcT := 169) rfl fs_260_169
theorem fs_260_131 : fSB 260 [0, 70, 79, 96, 143] 2 131 f_260_131 := by
  unfold f_260_131
  refine fo_aload (k := 8) (fa_260 rfl) ?_
  refine fo_astore (k := 9) (fa_260 rfl) ?_
  refine fo_aload (k := 9) (fa_260 rfl) ?_
  refine fo_alen (fa_260 rfl) ?_
  refine fo_istore (k := 10) (fa_260 rfl) ?_
  refine fo_iconst (fa_260 rfl) fk_c_0 ?_
  refine fo_istore (k := 11) (fa_260 rfl) ?_
  exact fs_260_143
theorem fs_260_96 : fSB 260 [0, 70, 79, 96, 143] 2 96 f_260_96 := by
  unfold f_260_96
  refine fo_iload (k := 9) (fa_260 rfl) ?_
  refine fo_iload_n (k := 3) (fa_260 rfl) ?_
  refine fo_icmp_ge (fa_260 rfl) (pcT := 131) rfl fs_260_131 ?_
  refine fo_aload (k := 8) (fa_260 rfl) ?_
  refine fo_iload_n (k := 1) (fa_260 rfl) ?_
  refine fo_iload_n (k := 1) (fa_260 rfl) ?_
  refine fo_iload (k := 9) (fa_260 rfl) ?_
  refine fo_iload (k := 6) (fa_260 rfl) ?_
  refine fo_static (by decide) (fo_call (fa_260 rfl) fNs_static fsm_258 (by decide) fFil_1 fna_258 fx_258 (by rw [fP_258]; rfl) fh_260 ?_)
  refine fo_imul (fa_260 rfl) ?_
  refine fo_iload_n (k := 1) (fa_260 rfl) ?_
  refine fo_iload (k := 9) (fa_260 rfl) ?_
  refine fo_iload (k := 7) (fa_260 rfl) ?_
  refine fo_static (by decide) (fo_call (fa_260 rfl) fNs_static fsm_258 (by decide) fFil_1 fna_258 fx_258 (by rw [fP_258]; rfl) fh_260 ?_)
  refine fo_iadd (fa_260 rfl) ?_
  refine fo_iconst (fa_260 rfl) fk_c_1 ?_
  refine fo_bastore (fa_260 rfl) ?_
  refine fo_iinc (k := 9) (fa_260 rfl) fk_c_1 ?_
  exact fo_goto (fa_260 rfl) (pcT := 96) rfl (fo_back (q := 96) rfl)
theorem fs_260_79 : fSB 260 [0, 70, 79, 96, 143] 2 79 f_260_79 := by
  unfold f_260_79
  refine fo_iload (k := 7) (fa_260 rfl) ?_
  refine fo_iload (k := 6) (fa_260 rfl) ?_
  refine fo_icmp_ge (fa_260 rfl) (pcT := 184) rfl fs_260_184 ?_
  refine fo_unm (by decide) ?_
  exact fs_260_178
theorem fs_260_70 : fSB 260 [0, 70, 79, 96, 143] 2 70 f_260_70 := by
  unfold f_260_70
  refine fo_iload (k := 6) (fa_260 rfl) ?_
  refine fo_iload_n (k := 2) (fa_260 rfl) ?_
  refine fo_icmp_ge (fa_260 rfl) (pcT := 190) rfl fs_260_190 ?_
  refine fo_iconst (fa_260 rfl) fk_c_0 ?_
  refine fo_istore (k := 7) (fa_260 rfl) ?_
  exact fs_260_79
theorem fs_260_64 : fSB 260 [0, 70, 79, 96, 143] 2 64 f_260_64 := by
  unfold f_260_64
  refine fo_lit ?_
  refine fo_lit ?_
  refine fo_lit ?_
  refine fo_iconst (fa_260 rfl) fk_c_0 ?_
  refine fo_istore (k := 5) (fa_260 rfl) ?_
  refine fo_iconst (fa_260 rfl) fk_c_0 ?_
  refine fo_istore (k := 6) (fa_260 rfl) ?_
  exact fs_260_70
theorem fs_260_53 : fSB 260 [0, 70, 79, 96, 143] 2 53 f_260_53 := by
  unfold f_260_53
  refine fo_iconst (fa_260 rfl) fk_c_0 ?_
  refine fo_iconst (fa_260 rfl) fk_c_0 ?_
  refine fo_iconst (fa_260 rfl) fk_c_0 ?_
  refine fo_virtual (by decide) fna_171 (fo_call (fa_260 rfl) fNs_virtual fsm_171 (by decide) fFil_0 fna_171 fx_171 (by rw [fP_171]; rfl) fh_260 ?_)
  refine fo_if_eq (fa_260 rfl) (pcT := 64) rfl fs_260_64 ?_
  refine fo_iconst (fa_260 rfl) fk_c_0 ?_
  exact fo_iret (fa_260 rfl) fr_260 fw_int
theorem fs_260_52 : fSB 260 [0, 70, 79, 96, 143] 2 52 f_260_52 := by
  unfold f_260_52
  refine fo_iconst (fa_260 rfl) fk_c_0 ?_
  exact fs_260_53
theorem fs_260_40 : fSB 260 [0, 70, 79, 96, 143] 2 40 f_260_40 := by
  unfold f_260_40
  refine fo_istore (k := 4) (fa_260 rfl) ?_
  refine fo_aload_n (k := 0) (fa_260 rfl) ?_
  refine fo_iload (k := 4) (fa_260 rfl) ?_
  refine fo_if_ne (fa_260 rfl) (pcT := 52) rfl fs_260_52 ?_
  refine fo_iconst (fa_260 rfl) fk_c_1 ?_
  exact fo_goto (fa_260 rfl) (pcT := 53) rfl fs_260_53
theorem fs_260_39 : fSB 260 [0, 70, 79, 96, 143] 2 39 f_260_39 := by
  unfold f_260_39
  refine fo_iconst (fa_260 rfl) fk_c_0 ?_
  exact fs_260_40
theorem fs_260_0 : fSB 260 [0, 70, 79, 96, 143] 2 0 f_260_0 := by
  unfold f_260_0
  refine fo_iload_n (k := 1) (fa_260 rfl) ?_
  refine fo_static (by decide) (fo_call (fa_260 rfl) fNs_static fsm_185 (by decide) fFil_0 fna_185 fx_185 (by rw [fP_185]; rfl) fh_260 ?_)
  refine fo_if_eq (fa_260 rfl) (pcT := 39) rfl fs_260_39 ?_
  refine fo_iload_n (k := 2) (fa_260 rfl) ?_
  refine fo_i2l (fa_260 rfl) ?_
  refine fo_ldc2 (fa_260 rfl) ?_
  refine fo_iload_n (k := 1) (fa_260 rfl) ?_
  refine fo_iconst (fa_260 rfl) fk_c_1 ?_
  refine fo_iadd (fa_260 rfl) ?_
  refine fo_i2l (fa_260 rfl) ?_
  refine fo_static (by decide) (fo_call (fa_260 rfl) fNs_static fsm_172 (by decide) fFil_0 fna_172 fx_172 (by rw [fP_172]; rfl) fh_260 ?_)
  refine fo_if_eq (fa_260 rfl) (pcT := 39) rfl fs_260_39 ?_
  refine fo_iload_n (k := 3) (fa_260 rfl) ?_
  refine fo_i2l (fa_260 rfl) ?_
  refine fo_lconst (fa_260 rfl) rfl ?_
  refine fo_iload_n (k := 1) (fa_260 rfl) ?_
  refine fo_iload_n (k := 1) (fa_260 rfl) ?_
  refine fo_imul (fa_260 rfl) ?_
  refine fo_i2l (fa_260 rfl) ?_
  refine fo_static (by decide) (fo_call (fa_260 rfl) fNs_static fsm_172 (by decide) fFil_0 fna_172 fx_172 (by rw [fP_172]; rfl) fh_260 ?_)
  refine fo_if_eq (fa_260 rfl) (pcT := 39) rfl fs_260_39 ?_
  refine fo_iconst (fa_260 rfl) fk_c_1 ?_
  exact fo_goto (fa_260 rfl) (pcT := 40) rfl fs_260_40
theorem fsm_260 : fSM 260 2 fm_260 := fs_methH (lp := [0, 70, 79, 96, 143]) (by decide) rfl ⟨fs_260_0, fs_260_70, fs_260_79, fs_260_96, fs_260_143, trivial⟩
theorem fP_261 : mj_P 261 = (8, 2, (some .int), mcX8_type, []) := rfl
theorem fa_261 {pc : Nat} {e : mjE} (h : mj_at mcX8_type pc = some e) : fAt 261 pc e := by unfold fAt; rw [fP_261]; exact h
theorem fr_261 : (mj_P 261).2.2.1 = (some .int) := by rw [fP_261]
theorem fna_261 : (mj_P 261).2.1 = 2 := by rw [fP_261]
theorem fx_261 : 2 ≤ mj_mx.getD 261 0 := by decide
theorem fh_261 : (mj_P 261).2.2.2.2.isEmpty = true := by rw [fP_261]; rfl
theorem fs_261_44 : fSB 261 [0] 1 44 f_261_44 := by
  unfold f_261_44
  refine fo_aload_n (k := 0) (fa_261 rfl) ?_
  refine fo_getr (fa_261 rfl) (by decide) rfl ?_
  refine fo_aload_n (k := 0) (fa_261 rfl) ?_
  refine fo_geti (fa_261 rfl) (by decide) rfl ?_
  refine fo_iload_n (k := 1) (fa_261 rfl) ?_
  refine fo_castore (fa_261 rfl) ?_
  refine fo_aload_n (k := 0) (fa_261 rfl) ?_
  refine fo_dup (fa_261 rfl) ?_
  refine fo_geti (fa_261 rfl) (by decide) rfl ?_
  refine fo_iconst (fa_261 rfl) fk_c_1 ?_
  refine fo_iadd (fa_261 rfl) ?_
  refine fo_puti (fa_261 rfl) (by decide) rfl ?_
  refine fo_aload_n (k := 0) (fa_261 rfl) ?_
  refine fo_geti (fa_261 rfl) (by decide) rfl ?_
  exact fo_iret (fa_261 rfl) fr_261 fw_int
theorem fs_261_34 : fSB 261 [0] 1 34 f_261_34 := by
  unfold f_261_34
  refine fo_iconst (fa_261 rfl) fk_c_0 ?_
  refine fo_iconst (fa_261 rfl) fk_c_0 ?_
  refine fo_virtual (by decide) fna_171 (fo_call (fa_261 rfl) fNs_virtual fsm_171 (by decide) fFil_0 fna_171 fx_171 (by rw [fP_171]; rfl) fh_261 ?_)
  refine fo_if_eq (fa_261 rfl) (pcT := 44) rfl fs_261_44 ?_
  refine fo_iconst (fa_261 rfl) fk_c_0 ?_
  exact fo_iret (fa_261 rfl) fr_261 fw_int
theorem fs_261_33 : fSB 261 [0] 1 33 f_261_33 := by
  unfold f_261_33
  refine fo_iconst (fa_261 rfl) fk_c_0 ?_
  exact fs_261_34
theorem fs_261_20 : fSB 261 [0] 1 20 f_261_20 := by
  unfold f_261_20
  refine fo_aload_n (k := 0) (fa_261 rfl) ?_
  refine fo_geti (fa_261 rfl) (by decide) rfl ?_
  refine fo_bipush (fa_261 rfl) fk_b_120 ?_
  refine fo_icmp_ne (fa_261 rfl) (pcT := 33) rfl fs_261_33 ?_
  refine fo_iconst (fa_261 rfl) fk_c_1 ?_
  exact fo_goto (fa_261 rfl) (pcT := 34) rfl fs_261_34
theorem fs_261_19 : fSB 261 [0] 1 19 f_261_19 := by
  unfold f_261_19
  refine fo_iconst (fa_261 rfl) fk_c_0 ?_
  exact fs_261_20
theorem fs_261_0 : fSB 261 [0] 1 0 f_261_0 := by
  unfold f_261_0
  refine fo_aload_n (k := 0) (fa_261 rfl) ?_
  refine fo_iload_n (k := 1) (fa_261 rfl) ?_
  refine fo_i2l (fa_261 rfl) ?_
  refine fo_ldc2 (fa_261 rfl) ?_
  refine fo_ldc2 (fa_261 rfl) ?_
  refine fo_static (by decide) (fo_call (fa_261 rfl) fNs_static fsm_172 (by decide) fFil_0 fna_172 fx_172 (by rw [fP_172]; rfl) fh_261 ?_)
  refine fo_if_ne (fa_261 rfl) (pcT := 19) rfl fs_261_19 ?_
  refine fo_iconst (fa_261 rfl) fk_c_1 ?_
  exact fo_goto (fa_261 rfl) (pcT := 20) rfl fs_261_20
theorem fsm_261 : fSM 261 1 fm_261 := fs_methH (lp := [0]) (by decide) rfl ⟨fs_261_0, trivial⟩
theorem fP_262 : mj_P 262 = (8, 1, (some .int), mcX8_erase, []) := rfl
theorem fa_262 {pc : Nat} {e : mjE} (h : mj_at mcX8_erase pc = some e) : fAt 262 pc e := by unfold fAt; rw [fP_262]; exact h
theorem fr_262 : (mj_P 262).2.2.1 = (some .int) := by rw [fP_262]
theorem fna_262 : (mj_P 262).2.1 = 1 := by rw [fP_262]
theorem fx_262 : 1 ≤ mj_mx.getD 262 0 := by decide
theorem fh_262 : (mj_P 262).2.2.2.2.isEmpty = true := by rw [fP_262]; rfl
theorem fs_262_0 : fSB 262 [0] 0 0 f_262_0 := by
  unfold f_262_0
  refine fo_aload_n (k := 0) (fa_262 rfl) ?_
  refine fo_iconst (fa_262 rfl) fk_c_0 ?_
  refine fo_puti (fa_262 rfl) (by decide) rfl ?_
  refine fo_aload_n (k := 0) (fa_262 rfl) ?_
  refine fo_geti (fa_262 rfl) (by decide) rfl ?_
  refine fo_istore_n (k := 1) (fa_262 rfl) ?_
  refine fo_aload_n (k := 0) (fa_262 rfl) ?_
  refine fo_iconst (fa_262 rfl) fk_c_0 ?_
  refine fo_puti (fa_262 rfl) (by decide) rfl ?_
  refine fo_iload_n (k := 1) (fa_262 rfl) ?_
  exact fo_iret (fa_262 rfl) fr_262 fw_int
theorem fsm_262 : fSM 262 0 fm_262 := fs_methH (lp := [0]) (by decide) rfl ⟨fs_262_0, trivial⟩
theorem fP_263 : mj_P 263 = (8, 1, (some .int), mcX8_number, []) := rfl
theorem fa_263 {pc : Nat} {e : mjE} (h : mj_at mcX8_number pc = some e) : fAt 263 pc e := by unfold fAt; rw [fP_263]; exact h
theorem fr_263 : (mj_P 263).2.2.1 = (some .int) := by rw [fP_263]
theorem fna_263 : (mj_P 263).2.1 = 1 := by rw [fP_263]
theorem fx_263 : 1 ≤ mj_mx.getD 263 0 := by decide
theorem fh_263 : (mj_P 263).2.2.2.2.isEmpty = true := by rw [fP_263]; rfl
theorem fs_263_75 : fSB 263 [0, 2] 1 75 f_263_75 := by
  unfold f_263_75
  refine fo_iload_n (k := 1) (fa_263 rfl) ?_
  exact fo_iret (fa_263 rfl) fr_263 fw_int
theorem fs_263_2 : fSB 263 [0, 2] 1 2 f_263_2 := by
  unfold f_263_2
  refine fo_aload_n (k := 0) (fa_263 rfl) ?_
  refine fo_geti (fa_263 rfl) (by decide) rfl ?_
  refine fo_aload_n (k := 0) (fa_263 rfl) ?_
  refine fo_geti (fa_263 rfl) (by decide) rfl ?_
  refine fo_icmp_ge (fa_263 rfl) (pcT := 75) rfl fs_263_75 ?_
  refine fo_aload_n (k := 0) (fa_263 rfl) ?_
  refine fo_getr (fa_263 rfl) (by decide) rfl ?_
  refine fo_aload_n (k := 0) (fa_263 rfl) ?_
  refine fo_geti (fa_263 rfl) (by decide) rfl ?_
  refine fo_caload (fa_263 rfl) ?_
  refine fo_i2l (fa_263 rfl) ?_
  refine fo_ldc2 (fa_263 rfl) ?_
  refine fo_ldc2 (fa_263 rfl) ?_
  refine fo_static (by decide) (fo_call (fa_263 rfl) fNs_static fsm_172 (by decide) fFil_0 fna_172 fx_172 (by rw [fP_172]; rfl) fh_263 ?_)
  refine fo_if_eq (fa_263 rfl) (pcT := 75) rfl fs_263_75 ?_
  refine fo_ldc (fa_263 rfl) ?_
  refine fo_bipush (fa_263 rfl) fk_b_10 ?_
  refine fo_iconst (fa_263 rfl) fk_c_0 ?_
  refine fo_iload_n (k := 1) (fa_263 rfl) ?_
  refine fo_static (by decide) (fo_call (fa_263 rfl) fNs_static fsm_275 (by decide) fFil_0 fna_275 fx_275 (by rw [fP_275]; rfl) fh_263 ?_)
  refine fo_imul (fa_263 rfl) ?_
  refine fo_aload_n (k := 0) (fa_263 rfl) ?_
  refine fo_getr (fa_263 rfl) (by decide) rfl ?_
  refine fo_aload_n (k := 0) (fa_263 rfl) ?_
  refine fo_geti (fa_263 rfl) (by decide) rfl ?_
  refine fo_caload (fa_263 rfl) ?_
  refine fo_iadd (fa_263 rfl) ?_
  refine fo_bipush (fa_263 rfl) fk_b_48 ?_
  refine fo_isub (fa_263 rfl) ?_
  refine fo_static (by decide) (fo_call (fa_263 rfl) fNs_static fsm_276 (by decide) fFil_0 fna_276 fx_276 (by rw [fP_276]; rfl) fh_263 ?_)
  refine fo_istore_n (k := 1) (fa_263 rfl) ?_
  refine fo_aload_n (k := 0) (fa_263 rfl) ?_
  refine fo_dup (fa_263 rfl) ?_
  refine fo_geti (fa_263 rfl) (by decide) rfl ?_
  refine fo_iconst (fa_263 rfl) fk_c_1 ?_
  refine fo_iadd (fa_263 rfl) ?_
  refine fo_puti (fa_263 rfl) (by decide) rfl ?_
  exact fo_goto (fa_263 rfl) (pcT := 2) rfl (fo_back (q := 2) rfl)
theorem fs_263_0 : fSB 263 [0, 2] 1 0 f_263_0 := by
  unfold f_263_0
  refine fo_iconst (fa_263 rfl) fk_c_m1 ?_
  refine fo_istore_n (k := 1) (fa_263 rfl) ?_
  exact fs_263_2
theorem fsm_263 : fSM 263 1 fm_263 := fs_methH (lp := [0, 2]) (by decide) rfl ⟨fs_263_0, fs_263_2, trivial⟩
theorem fP_264 : mj_P 264 = (8, 2, (some .int), mcX8_reads, []) := rfl
theorem fa_264 {pc : Nat} {e : mjE} (h : mj_at mcX8_reads pc = some e) : fAt 264 pc e := by unfold fAt; rw [fP_264]; exact h
theorem fr_264 : (mj_P 264).2.2.1 = (some .int) := by rw [fP_264]
theorem fna_264 : (mj_P 264).2.1 = 2 := by rw [fP_264]
theorem fx_264 : 2 ≤ mj_mx.getD 264 0 := by decide
theorem fh_264 : (mj_P 264).2.2.2.2.isEmpty = true := by rw [fP_264]; rfl
theorem fs_264_183 : fSB 264 [0, 33] 2 183 f_264_183 := by
  unfold f_264_183
  refine fo_iload_n (k := 2) (fa_264 rfl) ?_
  exact fo_iret (fa_264 rfl) fr_264 fw_int
theorem fs_264_168 : fSB 264 [0, 33] 2 168 f_264_168 := by
  unfold f_264_168
  refine fo_aload_n (k := 1) (fa_264 rfl) ?_
  refine fo_iload_n (k := 2) (fa_264 rfl) ?_
  refine fo_iconst (fa_264 rfl) fk_c_1 ?_
  refine fo_isub (fa_264 rfl) ?_
  refine fo_dup2 (fa_264 rfl) ?_
  refine fo_iaload (fa_264 rfl) ?_
  refine fo_iconst (fa_264 rfl) fk_c_1 ?_
  refine fo_iload (k := 7) (fa_264 rfl) ?_
  refine fo_ishl (fa_264 rfl) ?_
  refine fo_ior (fa_264 rfl) ?_
  refine fo_iastore (fa_264 rfl) ?_
  exact fo_goto (fa_264 rfl) (pcT := 33) rfl (fo_back (q := 33) rfl)
theorem fs_264_163 : fSB 264 [0, 33] 2 163 f_264_163 := by
  unfold f_264_163
  refine fo_iconst (fa_264 rfl) fk_c_m1 ?_
  refine fo_iload (k := 6) (fa_264 rfl) ?_
  refine fo_isub (fa_264 rfl) ?_
  exact fo_iret (fa_264 rfl) fr_264 fw_int
theorem fs_264_106 : fSB 264 [0, 33] 2 106 f_264_106 := by
  unfold f_264_106
  refine fo_iadd (fa_264 rfl) ?_
  refine fo_istore_n (k := 2) (fa_264 rfl) ?_
  refine fo_bipush (fa_264 rfl) fk_b_59 ?_
  refine fo_istore_n (k := 3) (fa_264 rfl) ?_
  refine fo_aload_n (k := 0) (fa_264 rfl) ?_
  refine fo_dup (fa_264 rfl) ?_
  refine fo_geti (fa_264 rfl) (by decide) rfl ?_
  refine fo_iconst (fa_264 rfl) fk_c_1 ?_
  refine fo_iadd (fa_264 rfl) ?_
  refine fo_puti (fa_264 rfl) (by decide) rfl ?_
  refine fo_aload_n (k := 0) (fa_264 rfl) ?_
  refine fo_geti (fa_264 rfl) (by decide) rfl ?_
  refine fo_istore (k := 6) (fa_264 rfl) ?_
  refine fo_aload_n (k := 0) (fa_264 rfl) ?_
  refine fo_virtual (by decide) fna_263 (fo_call (fa_264 rfl) fNs_virtual fsm_263 (by decide) fFil_1 fna_263 fx_263 (by rw [fP_263]; rfl) fh_264 ?_)
  refine fo_istore (k := 7) (fa_264 rfl) ?_
  refine fo_iload (k := 7) (fa_264 rfl) ?_
  refine fo_i2l (fa_264 rfl) ?_
  refine fo_lconst (fa_264 rfl) rfl ?_
  refine fo_aload_n (k := 1) (fa_264 rfl) ?_
  refine fo_iconst (fa_264 rfl) fk_c_0 ?_
  refine fo_iaload (fa_264 rfl) ?_
  refine fo_iconst (fa_264 rfl) fk_c_1 ?_
  refine fo_isub (fa_264 rfl) ?_
  refine fo_i2l (fa_264 rfl) ?_
  refine fo_static (by decide) (fo_call (fa_264 rfl) fNs_static fsm_172 (by decide) fFil_0 fna_172 fx_172 (by rw [fP_172]; rfl) fh_264 ?_)
  refine fo_if_eq (fa_264 rfl) (pcT := 163) rfl fs_264_163 ?_
  refine fo_aload_n (k := 1) (fa_264 rfl) ?_
  refine fo_iload_n (k := 2) (fa_264 rfl) ?_
  refine fo_iconst (fa_264 rfl) fk_c_1 ?_
  refine fo_isub (fa_264 rfl) ?_
  refine fo_iaload (fa_264 rfl) ?_
  refine fo_iload (k := 7) (fa_264 rfl) ?_
  refine fo_ishr (fa_264 rfl) ?_
  refine fo_iconst (fa_264 rfl) fk_c_1 ?_
  refine fo_iand (fa_264 rfl) ?_
  refine fo_iconst (fa_264 rfl) fk_c_1 ?_
  refine fo_icmp_ne (fa_264 rfl) (pcT := 168) rfl fs_264_168 ?_
  exact fs_264_163
theorem fs_264_105 : fSB 264 [0, 33] 2 105 f_264_105 := by
  unfold f_264_105
  refine fo_iconst (fa_264 rfl) fk_c_1 ?_
  exact fs_264_106
theorem fs_264_93 : fSB 264 [0, 33] 2 93 f_264_93 := by
  unfold f_264_93
  refine fo_iload_n (k := 2) (fa_264 rfl) ?_
  refine fo_iload (k := 4) (fa_264 rfl) ?_
  refine fo_bipush (fa_264 rfl) fk_b_44 ?_
  refine fo_icmp_ne (fa_264 rfl) (pcT := 105) rfl fs_264_105 ?_
  refine fo_iconst (fa_264 rfl) fk_c_0 ?_
  exact fo_goto (fa_264 rfl) (pcT := 106) rfl fs_264_106
theorem fs_264_79 : fSB 264 [0, 33] 2 79 f_264_79 := by
  unfold f_264_79
  refine fo_istore (k := 5) (fa_264 rfl) ?_
  refine fo_iload (k := 5) (fa_264 rfl) ?_
  refine fo_if_ne (fa_264 rfl) (pcT := 93) rfl fs_264_93 ?_
  refine fo_iconst (fa_264 rfl) fk_c_m1 ?_
  refine fo_aload_n (k := 0) (fa_264 rfl) ?_
  refine fo_geti (fa_264 rfl) (by decide) rfl ?_
  refine fo_isub (fa_264 rfl) ?_
  exact fo_iret (fa_264 rfl) fr_264 fw_int
theorem fs_264_78 : fSB 264 [0, 33] 2 78 f_264_78 := by
  unfold f_264_78
  refine fo_iconst (fa_264 rfl) fk_c_0 ?_
  exact fs_264_79
theorem fs_264_74 : fSB 264 [0, 33] 2 74 f_264_74 := by
  unfold f_264_74
  refine fo_iconst (fa_264 rfl) fk_c_1 ?_
  exact fo_goto (fa_264 rfl) (pcT := 79) rfl fs_264_79
theorem fs_264_33 : fSB 264 [0, 33] 2 33 f_264_33 := by
  unfold f_264_33
  refine fo_aload_n (k := 0) (fa_264 rfl) ?_
  refine fo_geti (fa_264 rfl) (by decide) rfl ?_
  refine fo_aload_n (k := 0) (fa_264 rfl) ?_
  refine fo_geti (fa_264 rfl) (by decide) rfl ?_
  refine fo_icmp_ge (fa_264 rfl) (pcT := 183) rfl fs_264_183 ?_
  refine fo_aload_n (k := 0) (fa_264 rfl) ?_
  refine fo_getr (fa_264 rfl) (by decide) rfl ?_
  refine fo_aload_n (k := 0) (fa_264 rfl) ?_
  refine fo_geti (fa_264 rfl) (by decide) rfl ?_
  refine fo_caload (fa_264 rfl) ?_
  refine fo_istore (k := 4) (fa_264 rfl) ?_
  refine fo_iload (k := 4) (fa_264 rfl) ?_
  refine fo_iload_n (k := 3) (fa_264 rfl) ?_
  refine fo_icmp_eq (fa_264 rfl) (pcT := 74) rfl fs_264_74 ?_
  refine fo_iload_n (k := 3) (fa_264 rfl) ?_
  refine fo_bipush (fa_264 rfl) fk_b_59 ?_
  refine fo_icmp_ne (fa_264 rfl) (pcT := 78) rfl fs_264_78 ?_
  refine fo_iload (k := 4) (fa_264 rfl) ?_
  refine fo_bipush (fa_264 rfl) fk_b_44 ?_
  refine fo_icmp_ne (fa_264 rfl) (pcT := 78) rfl fs_264_78 ?_
  exact fs_264_74
theorem fs_264_28 : fSB 264 [0, 33] 2 28 f_264_28 := by
  unfold f_264_28
  refine fo_iconst (fa_264 rfl) fk_c_1 ?_
  refine fo_istore_n (k := 2) (fa_264 rfl) ?_
  refine fo_bipush (fa_264 rfl) fk_b_58 ?_
  refine fo_istore_n (k := 3) (fa_264 rfl) ?_
  exact fs_264_33
theorem fs_264_0 : fSB 264 [0, 33] 2 0 f_264_0 := by
  unfold f_264_0
  refine fo_aload_n (k := 0) (fa_264 rfl) ?_
  refine fo_iconst (fa_264 rfl) fk_c_0 ?_
  refine fo_puti (fa_264 rfl) (by decide) rfl ?_
  refine fo_aload_n (k := 1) (fa_264 rfl) ?_
  refine fo_iconst (fa_264 rfl) fk_c_0 ?_
  refine fo_aload_n (k := 0) (fa_264 rfl) ?_
  refine fo_virtual (by decide) fna_263 (fo_call (fa_264 rfl) fNs_virtual fsm_263 (by decide) fFil_1 fna_263 fx_263 (by rw [fP_263]; rfl) fh_264 ?_)
  refine fo_iastore (fa_264 rfl) ?_
  refine fo_aload_n (k := 1) (fa_264 rfl) ?_
  refine fo_iconst (fa_264 rfl) fk_c_0 ?_
  refine fo_iaload (fa_264 rfl) ?_
  refine fo_i2l (fa_264 rfl) ?_
  refine fo_lconst (fa_264 rfl) rfl ?_
  refine fo_ldc2 (fa_264 rfl) ?_
  refine fo_static (by decide) (fo_call (fa_264 rfl) fNs_static fsm_172 (by decide) fFil_0 fna_172 fx_172 (by rw [fP_172]; rfl) fh_264 ?_)
  refine fo_if_ne (fa_264 rfl) (pcT := 28) rfl fs_264_28 ?_
  refine fo_iconst (fa_264 rfl) fk_c_m1 ?_
  exact fo_iret (fa_264 rfl) fr_264 fw_int
theorem fsm_264 : fSM 264 2 fm_264 := fs_methH (lp := [0, 33]) (by decide) rfl ⟨fs_264_0, fs_264_33, trivial⟩
theorem fP_265 : mj_P 265 = (8, 2, (some .int), mcX8_read, []) := rfl
theorem fa_265 {pc : Nat} {e : mjE} (h : mj_at mcX8_read pc = some e) : fAt 265 pc e := by unfold fAt; rw [fP_265]; exact h
theorem fr_265 : (mj_P 265).2.2.1 = (some .int) := by rw [fP_265]
theorem fna_265 : (mj_P 265).2.1 = 2 := by rw [fP_265]
theorem fx_265 : 2 ≤ mj_mx.getD 265 0 := by decide
theorem fh_265 : (mj_P 265).2.2.2.2.isEmpty = true := by rw [fP_265]; rfl
theorem fs_265_58 : fSB 265 [0] 3 58 f_265_58 := by
  unfold f_265_58
  exact fo_iret (fa_265 rfl) fr_265 fw_int
theorem fs_265_48 : fSB 265 [0] 3 48 f_265_48 := by
  unfold f_265_48
  refine fo_aload_n (k := 0) (fa_265 rfl) ?_
  refine fo_iload_n (k := 1) (fa_265 rfl) ?_
  refine fo_aload_n (k := 2) (fa_265 rfl) ?_
  refine fo_iload_n (k := 3) (fa_265 rfl) ?_
  refine fo_static (by decide) (fo_call (fa_265 rfl) fNs_static fsm_178 (by decide) fFil_2 fna_178 fx_178 (by rw [fP_178]; rfl) fh_265 ?_)
  refine fo_virtual (by decide) fna_181 (fo_call (fa_265 rfl) fNs_virtual fsm_181 (by decide) fFil_0 fna_181 fx_181 (by rw [fP_181]; rfl) fh_265 ?_)
  exact fs_265_58
theorem fs_265_24 : fSB 265 [0] 3 24 f_265_24 := by
  unfold f_265_24
  refine fo_bipush (fa_265 rfl) fk_b_120 ?_
  refine fo_newarray (fa_265 rfl) rfl (by decide) (by decide) fel_20 ?_
  refine fo_astore_n (k := 2) (fa_265 rfl) ?_
  refine fo_aload_n (k := 0) (fa_265 rfl) ?_
  refine fo_aload_n (k := 2) (fa_265 rfl) ?_
  refine fo_virtual (by decide) fna_264 (fo_call (fa_265 rfl) fNs_virtual fsm_264 (by decide) fFil_6 fna_264 fx_264 (by rw [fP_264]; rfl) fh_265 ?_)
  refine fo_istore_n (k := 3) (fa_265 rfl) ?_
  refine fo_aload_n (k := 0) (fa_265 rfl) ?_
  refine fo_iconst (fa_265 rfl) fk_c_0 ?_
  refine fo_puti (fa_265 rfl) (by decide) rfl ?_
  refine fo_iload_n (k := 3) (fa_265 rfl) ?_
  refine fo_if_ge (fa_265 rfl) (pcT := 48) rfl fs_265_48 ?_
  refine fo_iload_n (k := 3) (fa_265 rfl) ?_
  exact fo_goto (fa_265 rfl) (pcT := 58) rfl fs_265_58
theorem fs_265_13 : fSB 265 [0] 3 13 f_265_13 := by
  unfold f_265_13
  refine fo_iconst (fa_265 rfl) fk_c_0 ?_
  refine fo_iconst (fa_265 rfl) fk_c_0 ?_
  refine fo_iconst (fa_265 rfl) fk_c_0 ?_
  refine fo_virtual (by decide) fna_171 (fo_call (fa_265 rfl) fNs_virtual fsm_171 (by decide) fFil_0 fna_171 fx_171 (by rw [fP_171]; rfl) fh_265 ?_)
  refine fo_if_eq (fa_265 rfl) (pcT := 24) rfl fs_265_24 ?_
  refine fo_iconst (fa_265 rfl) fk_c_0 ?_
  exact fo_iret (fa_265 rfl) fr_265 fw_int
theorem fs_265_12 : fSB 265 [0] 3 12 f_265_12 := by
  unfold f_265_12
  refine fo_iconst (fa_265 rfl) fk_c_0 ?_
  exact fs_265_13
theorem fs_265_0 : fSB 265 [0] 3 0 f_265_0 := by
  unfold f_265_0
  refine fo_aload_n (k := 0) (fa_265 rfl) ?_
  refine fo_iload_n (k := 1) (fa_265 rfl) ?_
  refine fo_static (by decide) (fo_call (fa_265 rfl) fNs_static fsm_173 (by decide) fFil_0 fna_173 fx_173 (by rw [fP_173]; rfl) fh_265 ?_)
  refine fo_if_ne (fa_265 rfl) (pcT := 12) rfl fs_265_12 ?_
  refine fo_iconst (fa_265 rfl) fk_c_1 ?_
  exact fo_goto (fa_265 rfl) (pcT := 13) rfl fs_265_13
theorem fsm_265 : fSM 265 3 fm_265 := fs_methH (lp := [0]) (by decide) rfl ⟨fs_265_0, trivial⟩
theorem fP_266 : mj_P 266 = (8, 1, (some .int), mcX8_undo, []) := rfl
theorem fa_266 {pc : Nat} {e : mjE} (h : mj_at mcX8_undo pc = some e) : fAt 266 pc e := by unfold fAt; rw [fP_266]; exact h
theorem fr_266 : (mj_P 266).2.2.1 = (some .int) := by rw [fP_266]
theorem fna_266 : (mj_P 266).2.1 = 1 := by rw [fP_266]
theorem fx_266 : 1 ≤ mj_mx.getD 266 0 := by decide
theorem fh_266 : (mj_P 266).2.2.2.2.isEmpty = true := by rw [fP_266]; rfl
theorem fs_266_24 : fSB 266 [0] 1 24 f_266_24 := by
  unfold f_266_24
  refine fo_aload_n (k := 0) (fa_266 rfl) ?_
  refine fo_dup (fa_266 rfl) ?_
  refine fo_geti (fa_266 rfl) (by decide) rfl ?_
  refine fo_iconst (fa_266 rfl) fk_c_1 ?_
  refine fo_isub (fa_266 rfl) ?_
  refine fo_puti (fa_266 rfl) (by decide) rfl ?_
  refine fo_aload_n (k := 0) (fa_266 rfl) ?_
  refine fo_aload_n (k := 0) (fa_266 rfl) ?_
  refine fo_getr (fa_266 rfl) (by decide) rfl ?_
  refine fo_aload_n (k := 0) (fa_266 rfl) ?_
  refine fo_geti (fa_266 rfl) (by decide) rfl ?_
  refine fo_iaload (fa_266 rfl) ?_
  refine fo_virtual (by decide) fna_180 (fo_call (fa_266 rfl) fNs_virtual fsm_180 (by decide) fFil_0 fna_180 fx_180 (by rw [fP_180]; rfl) fh_266 ?_)
  refine fo_aload_n (k := 0) (fa_266 rfl) ?_
  refine fo_getr (fa_266 rfl) (by decide) rfl ?_
  refine fo_aload_n (k := 0) (fa_266 rfl) ?_
  refine fo_geti (fa_266 rfl) (by decide) rfl ?_
  refine fo_iaload (fa_266 rfl) ?_
  refine fo_aload_n (k := 0) (fa_266 rfl) ?_
  refine fo_getr (fa_266 rfl) (by decide) rfl ?_
  refine fo_aload_n (k := 0) (fa_266 rfl) ?_
  refine fo_geti (fa_266 rfl) (by decide) rfl ?_
  refine fo_aaload (fa_266 rfl) (by decide) (by decide) ?_
  refine fo_aastore (fa_266 rfl) (by decide) (by decide) (by decide) ?_
  refine fo_aload_n (k := 0) (fa_266 rfl) ?_
  refine fo_geti (fa_266 rfl) (by decide) rfl ?_
  exact fo_iret (fa_266 rfl) fr_266 fw_int
theorem fs_266_13 : fSB 266 [0] 1 13 f_266_13 := by
  unfold f_266_13
  refine fo_iconst (fa_266 rfl) fk_c_0 ?_
  refine fo_iconst (fa_266 rfl) fk_c_0 ?_
  refine fo_iconst (fa_266 rfl) fk_c_0 ?_
  refine fo_virtual (by decide) fna_171 (fo_call (fa_266 rfl) fNs_virtual fsm_171 (by decide) fFil_0 fna_171 fx_171 (by rw [fP_171]; rfl) fh_266 ?_)
  refine fo_if_eq (fa_266 rfl) (pcT := 24) rfl fs_266_24 ?_
  refine fo_iconst (fa_266 rfl) fk_c_0 ?_
  exact fo_iret (fa_266 rfl) fr_266 fw_int
theorem fs_266_12 : fSB 266 [0] 1 12 f_266_12 := by
  unfold f_266_12
  refine fo_iconst (fa_266 rfl) fk_c_0 ?_
  exact fs_266_13
theorem fs_266_0 : fSB 266 [0] 1 0 f_266_0 := by
  unfold f_266_0
  refine fo_aload_n (k := 0) (fa_266 rfl) ?_
  refine fo_aload_n (k := 0) (fa_266 rfl) ?_
  refine fo_geti (fa_266 rfl) (by decide) rfl ?_
  refine fo_if_ne (fa_266 rfl) (pcT := 12) rfl fs_266_12 ?_
  refine fo_iconst (fa_266 rfl) fk_c_1 ?_
  exact fo_goto (fa_266 rfl) (pcT := 13) rfl fs_266_13
theorem fsm_266 : fSM 266 1 fm_266 := fs_methH (lp := [0]) (by decide) rfl ⟨fs_266_0, trivial⟩
theorem fP_267 : mj_P 267 = (8, 2, (some .double), mcX8_meanSize, []) := rfl
theorem fa_267 {pc : Nat} {e : mjE} (h : mj_at mcX8_meanSize pc = some e) : fAt 267 pc e := by unfold fAt; rw [fP_267]; exact h
theorem fr_267 : (mj_P 267).2.2.1 = (some .double) := by rw [fP_267]
theorem fna_267 : (mj_P 267).2.1 = 2 := by rw [fP_267]
theorem fx_267 : 2 ≤ mj_mx.getD 267 0 := by decide
theorem fh_267 : (mj_P 267).2.2.2.2.isEmpty = true := by rw [fP_267]; rfl
theorem fs_267_114 : fSB 267 [0, 11] 3 114 f_267_114 := by
  unfold f_267_114
  exact fo_dret (fa_267 rfl) fr_267
theorem fs_267_101 : fSB 267 [0, 11] 3 101 f_267_101 := by
  unfold f_267_101
  refine fo_iload_n (k := 3) (fa_267 rfl) ?_
  exact fo_bad
theorem fs_267_90 : fSB 267 [0, 11] 3 90 f_267_90 := by
  unfold f_267_90
  refine fo_iconst (fa_267 rfl) fk_c_0 ?_
  refine fo_virtual (by decide) fna_171 (fo_call (fa_267 rfl) fNs_virtual fsm_171 (by decide) fFil_0 fna_171 fx_171 (by rw [fP_171]; rfl) fh_267 ?_)
  refine fo_if_eq (fa_267 rfl) (pcT := 101) rfl fs_267_101 ?_
  refine fo_dconst (fa_267 rfl) ?_
  exact fo_goto (fa_267 rfl) (pcT := 114) rfl fs_267_114
theorem fs_267_89 : fSB 267 [0, 11] 3 89 f_267_89 := by
  unfold f_267_89
  refine fo_iconst (fa_267 rfl) fk_c_0 ?_
  exact fs_267_90
theorem fs_267_70 : fSB 267 [0, 11] 3 70 f_267_70 := by
  unfold f_267_70
  refine fo_iload_n (k := 2) (fa_267 rfl) ?_
  refine fo_if_eq (fa_267 rfl) (pcT := 89) rfl fs_267_89 ?_
  refine fo_aload_n (k := 0) (fa_267 rfl) ?_
  refine fo_getr (fa_267 rfl) (by decide) rfl ?_
  refine fo_iload_n (k := 1) (fa_267 rfl) ?_
  refine fo_aaload (fa_267 rfl) (by decide) (by decide) ?_
  refine fo_alen (fa_267 rfl) ?_
  refine fo_iconst (fa_267 rfl) fk_c_1 ?_
  refine fo_icmp_ne (fa_267 rfl) (pcT := 89) rfl fs_267_89 ?_
  refine fo_iconst (fa_267 rfl) fk_c_1 ?_
  exact fo_goto (fa_267 rfl) (pcT := 90) rfl fs_267_90
theorem fs_267_69 : fSB 267 [0, 11] 3 69 f_267_69 := by
  unfold f_267_69
  refine fo_iconst (fa_267 rfl) fk_c_0 ?_
  exact fs_267_70
theorem fs_267_61 : fSB 267 [0, 11] 3 61 f_267_61 := by
  unfold f_267_61
  refine fo_iload_n (k := 2) (fa_267 rfl) ?_
  refine fo_if_ne (fa_267 rfl) (pcT := 69) rfl fs_267_69 ?_
  refine fo_iconst (fa_267 rfl) fk_c_1 ?_
  exact fo_goto (fa_267 rfl) (pcT := 70) rfl fs_267_70
theorem fs_267_60 : fSB 267 [0, 11] 3 60 f_267_60 := by
  unfold f_267_60
  refine fo_iconst (fa_267 rfl) fk_c_0 ?_
  exact fs_267_61
theorem fs_267_48 : fSB 267 [0, 11] 3 48 f_267_48 := by
  unfold f_267_48
  refine fo_aload_n (k := 0) (fa_267 rfl) ?_
  refine fo_iload_n (k := 1) (fa_267 rfl) ?_
  refine fo_static (by decide) (fo_call (fa_267 rfl) fNs_static fsm_173 (by decide) fFil_0 fna_173 fx_173 (by rw [fP_173]; rfl) fh_267 ?_)
  refine fo_if_ne (fa_267 rfl) (pcT := 60) rfl fs_267_60 ?_
  refine fo_iconst (fa_267 rfl) fk_c_1 ?_
  exact fo_goto (fa_267 rfl) (pcT := 61) rfl fs_267_61
theorem fs_267_11 : fSB 267 [0, 11] 3 11 f_267_11 := by
  unfold f_267_11
  refine fo_iload_n (k := 2) (fa_267 rfl) ?_
  refine fo_if_eq (fa_267 rfl) (pcT := 48) rfl fs_267_48 ?_
  refine fo_iload (k := 4) (fa_267 rfl) ?_
  refine fo_aload_n (k := 0) (fa_267 rfl) ?_
  refine fo_getr (fa_267 rfl) (by decide) rfl ?_
  refine fo_iload_n (k := 1) (fa_267 rfl) ?_
  refine fo_aaload (fa_267 rfl) (by decide) (by decide) ?_
  refine fo_alen (fa_267 rfl) ?_
  refine fo_icmp_ge (fa_267 rfl) (pcT := 48) rfl fs_267_48 ?_
  refine fo_iload_n (k := 3) (fa_267 rfl) ?_
  refine fo_aload_n (k := 0) (fa_267 rfl) ?_
  refine fo_getr (fa_267 rfl) (by decide) rfl ?_
  refine fo_iload_n (k := 1) (fa_267 rfl) ?_
  refine fo_aaload (fa_267 rfl) (by decide) (by decide) ?_
  refine fo_iload (k := 4) (fa_267 rfl) ?_
  refine fo_iaload (fa_267 rfl) ?_
  refine fo_static (by decide) (fo_call (fa_267 rfl) fNs_static fsm_182 (by decide) fFil_2 fna_182 fx_182 (by rw [fP_182]; rfl) fh_267 ?_)
  refine fo_iadd (fa_267 rfl) ?_
  refine fo_istore_n (k := 3) (fa_267 rfl) ?_
  refine fo_iinc (k := 4) (fa_267 rfl) fk_c_1 ?_
  exact fo_goto (fa_267 rfl) (pcT := 11) rfl (fo_back (q := 11) rfl)
theorem fs_267_0 : fSB 267 [0, 11] 3 0 f_267_0 := by
  unfold f_267_0
  refine fo_aload_n (k := 0) (fa_267 rfl) ?_
  refine fo_iload_n (k := 1) (fa_267 rfl) ?_
  refine fo_virtual (by decide) fna_175 (fo_call (fa_267 rfl) fNs_virtual fsm_175 (by decide) fFil_0 fna_175 fx_175 (by rw [fP_175]; rfl) fh_267 ?_)
  refine fo_istore_n (k := 2) (fa_267 rfl) ?_
  refine fo_iconst (fa_267 rfl) fk_c_0 ?_
  refine fo_istore_n (k := 3) (fa_267 rfl) ?_
  refine fo_iconst (fa_267 rfl) fk_c_1 ?_
  refine fo_istore (k := 4) (fa_267 rfl) ?_
  exact fs_267_11
theorem fsm_267 : fSM 267 3 fm_267 := fs_methH (lp := [0, 11]) (by decide) rfl ⟨fs_267_0, fs_267_11, trivial⟩
theorem fP_268 : mj_P 268 = (8, 2, (some .float), mcX8_pairShare, []) := rfl
theorem fa_268 {pc : Nat} {e : mjE} (h : mj_at mcX8_pairShare pc = some e) : fAt 268 pc e := by unfold fAt; rw [fP_268]; exact h
theorem fr_268 : (mj_P 268).2.2.1 = (some .float) := by rw [fP_268]
theorem fna_268 : (mj_P 268).2.1 = 2 := by rw [fP_268]
theorem fx_268 : 2 ≤ mj_mx.getD 268 0 := by decide
theorem fh_268 : (mj_P 268).2.2.2.2.isEmpty = true := by rw [fP_268]; rfl
theorem fs_268_158 : fSB 268 [0, 11, 31] 3 158 f_268_158 := by
  unfold f_268_158
  exact fo_fret (fa_268 rfl) fr_268
theorem fs_268_133 : fSB 268 [0, 11, 31] 3 133 f_268_133 := by
  unfold f_268_133
  refine fo_iload_n (k := 3) (fa_268 rfl) ?_
  exact fo_bad
theorem fs_268_122 : fSB 268 [0, 11, 31] 3 122 f_268_122 := by
  unfold f_268_122
  refine fo_iconst (fa_268 rfl) fk_c_0 ?_
  refine fo_virtual (by decide) fna_171 (fo_call (fa_268 rfl) fNs_virtual fsm_171 (by decide) fFil_0 fna_171 fx_171 (by rw [fP_171]; rfl) fh_268 ?_)
  refine fo_if_eq (fa_268 rfl) (pcT := 133) rfl fs_268_133 ?_
  refine fo_fconst (fa_268 rfl) ?_
  exact fo_goto (fa_268 rfl) (pcT := 158) rfl fs_268_158
theorem fs_268_121 : fSB 268 [0, 11, 31] 3 121 f_268_121 := by
  unfold f_268_121
  refine fo_iconst (fa_268 rfl) fk_c_0 ?_
  exact fs_268_122
theorem fs_268_101 : fSB 268 [0, 11, 31] 3 101 f_268_101 := by
  unfold f_268_101
  refine fo_iload_n (k := 2) (fa_268 rfl) ?_
  refine fo_if_eq (fa_268 rfl) (pcT := 121) rfl fs_268_121 ?_
  refine fo_aload_n (k := 0) (fa_268 rfl) ?_
  refine fo_getr (fa_268 rfl) (by decide) rfl ?_
  refine fo_iload_n (k := 1) (fa_268 rfl) ?_
  refine fo_aaload (fa_268 rfl) (by decide) (by decide) ?_
  refine fo_iconst (fa_268 rfl) fk_c_0 ?_
  refine fo_iaload (fa_268 rfl) ?_
  refine fo_iconst (fa_268 rfl) fk_c_1 ?_
  refine fo_icmp_ne (fa_268 rfl) (pcT := 121) rfl fs_268_121 ?_
  refine fo_iconst (fa_268 rfl) fk_c_1 ?_
  exact fo_goto (fa_268 rfl) (pcT := 122) rfl fs_268_122
theorem fs_268_100 : fSB 268 [0, 11, 31] 3 100 f_268_100 := by
  unfold f_268_100
  refine fo_iconst (fa_268 rfl) fk_c_0 ?_
  exact fs_268_101
theorem fs_268_92 : fSB 268 [0, 11, 31] 3 92 f_268_92 := by
  unfold f_268_92
  refine fo_iload_n (k := 2) (fa_268 rfl) ?_
  refine fo_if_ne (fa_268 rfl) (pcT := 100) rfl fs_268_100 ?_
  refine fo_iconst (fa_268 rfl) fk_c_1 ?_
  exact fo_goto (fa_268 rfl) (pcT := 101) rfl fs_268_101
theorem fs_268_91 : fSB 268 [0, 11, 31] 3 91 f_268_91 := by
  unfold f_268_91
  refine fo_iconst (fa_268 rfl) fk_c_0 ?_
  exact fs_268_92
theorem fs_268_79 : fSB 268 [0, 11, 31] 3 79 f_268_79 := by
  unfold f_268_79
  refine fo_aload_n (k := 0) (fa_268 rfl) ?_
  refine fo_iload_n (k := 1) (fa_268 rfl) ?_
  refine fo_static (by decide) (fo_call (fa_268 rfl) fNs_static fsm_173 (by decide) fFil_0 fna_173 fx_173 (by rw [fP_173]; rfl) fh_268 ?_)
  refine fo_if_ne (fa_268 rfl) (pcT := 91) rfl fs_268_91 ?_
  refine fo_iconst (fa_268 rfl) fk_c_1 ?_
  exact fo_goto (fa_268 rfl) (pcT := 92) rfl fs_268_92
theorem fs_268_73 : fSB 268 [0, 11, 31] 3 73 f_268_73 := by
  unfold f_268_73
  refine fo_iinc (k := 4) (fa_268 rfl) fk_c_1 ?_
  exact fo_goto (fa_268 rfl) (pcT := 11) rfl (fo_back (q := 11) rfl)
theorem fs_268_65 : fSB 268 [0, 11, 31] 3 65 f_268_65 := by
  unfold f_268_65
  refine fo_iadd (fa_268 rfl) ?_
  refine fo_istore_n (k := 3) (fa_268 rfl) ?_
  refine fo_iinc (k := 5) (fa_268 rfl) fk_c_1 ?_
  exact fo_goto (fa_268 rfl) (pcT := 31) rfl (fo_back (q := 31) rfl)
theorem fs_268_64 : fSB 268 [0, 11, 31] 3 64 f_268_64 := by
  unfold f_268_64
  refine fo_iconst (fa_268 rfl) fk_c_0 ?_
  exact fs_268_65
theorem fs_268_31 : fSB 268 [0, 11, 31] 3 31 f_268_31 := by
  unfold f_268_31
  refine fo_iload (k := 5) (fa_268 rfl) ?_
  refine fo_iload (k := 4) (fa_268 rfl) ?_
  refine fo_icmp_ge (fa_268 rfl) (pcT := 73) rfl fs_268_73 ?_
  refine fo_iload_n (k := 3) (fa_268 rfl) ?_
  refine fo_aload_n (k := 0) (fa_268 rfl) ?_
  refine fo_getr (fa_268 rfl) (by decide) rfl ?_
  refine fo_iload_n (k := 1) (fa_268 rfl) ?_
  refine fo_aaload (fa_268 rfl) (by decide) (by decide) ?_
  refine fo_iconst (fa_268 rfl) fk_c_1 ?_
  refine fo_iload (k := 4) (fa_268 rfl) ?_
  refine fo_ishl (fa_268 rfl) ?_
  refine fo_iconst (fa_268 rfl) fk_c_1 ?_
  refine fo_iload (k := 5) (fa_268 rfl) ?_
  refine fo_ishl (fa_268 rfl) ?_
  refine fo_ior (fa_268 rfl) ?_
  refine fo_static (by decide) (fo_call (fa_268 rfl) fNs_static fsm_204 (by decide) fFil_2 fna_204 fx_204 (by rw [fP_204]; rfl) fh_268 ?_)
  refine fo_if_le (fa_268 rfl) (pcT := 64) rfl fs_268_64 ?_
  refine fo_iconst (fa_268 rfl) fk_c_1 ?_
  exact fo_goto (fa_268 rfl) (pcT := 65) rfl fs_268_65
theorem fs_268_11 : fSB 268 [0, 11, 31] 3 11 f_268_11 := by
  unfold f_268_11
  refine fo_iload_n (k := 2) (fa_268 rfl) ?_
  refine fo_if_eq (fa_268 rfl) (pcT := 79) rfl fs_268_79 ?_
  refine fo_iload (k := 4) (fa_268 rfl) ?_
  refine fo_aload_n (k := 0) (fa_268 rfl) ?_
  refine fo_getr (fa_268 rfl) (by decide) rfl ?_
  refine fo_iload_n (k := 1) (fa_268 rfl) ?_
  refine fo_aaload (fa_268 rfl) (by decide) (by decide) ?_
  refine fo_iconst (fa_268 rfl) fk_c_0 ?_
  refine fo_iaload (fa_268 rfl) ?_
  refine fo_icmp_ge (fa_268 rfl) (pcT := 79) rfl fs_268_79 ?_
  refine fo_iconst (fa_268 rfl) fk_c_0 ?_
  refine fo_istore (k := 5) (fa_268 rfl) ?_
  exact fs_268_31
theorem fs_268_0 : fSB 268 [0, 11, 31] 3 0 f_268_0 := by
  unfold f_268_0
  refine fo_aload_n (k := 0) (fa_268 rfl) ?_
  refine fo_iload_n (k := 1) (fa_268 rfl) ?_
  refine fo_virtual (by decide) fna_175 (fo_call (fa_268 rfl) fNs_virtual fsm_175 (by decide) fFil_0 fna_175 fx_175 (by rw [fP_175]; rfl) fh_268 ?_)
  refine fo_istore_n (k := 2) (fa_268 rfl) ?_
  refine fo_iconst (fa_268 rfl) fk_c_0 ?_
  refine fo_istore_n (k := 3) (fa_268 rfl) ?_
  refine fo_iconst (fa_268 rfl) fk_c_0 ?_
  refine fo_istore (k := 4) (fa_268 rfl) ?_
  exact fs_268_11
theorem fsm_268 : fSM 268 3 fm_268 := fs_methH (lp := [0, 11, 31]) (by decide) rfl ⟨fs_268_0, fs_268_11, fs_268_31, trivial⟩
theorem fP_269 : mj_P 269 = (8, 1, (some .long), mcX8_checksum, []) := rfl
theorem fa_269 {pc : Nat} {e : mjE} (h : mj_at mcX8_checksum pc = some e) : fAt 269 pc e := by unfold fAt; rw [fP_269]; exact h
theorem fr_269 : (mj_P 269).2.2.1 = (some .long) := by rw [fP_269]
theorem fna_269 : (mj_P 269).2.1 = 1 := by rw [fP_269]
theorem fx_269 : 1 ≤ mj_mx.getD 269 0 := by decide
theorem fh_269 : (mj_P 269).2.2.2.2.isEmpty = true := by rw [fP_269]; rfl
theorem fs_269_143 : fSB 269 [0, 11, 31, 69, 115] 1 143 f_269_143 := by
  unfold f_269_143
  refine fo_lload_n (k := 1) (fa_269 rfl) ?_
  exact fo_lret (fa_269 rfl) fr_269
theorem fs_269_115 : fSB 269 [0, 11, 31, 69, 115] 1 115 f_269_115 := by
  unfold f_269_115
  refine fo_iload_n (k := 3) (fa_269 rfl) ?_
  refine fo_aload_n (k := 0) (fa_269 rfl) ?_
  refine fo_geti (fa_269 rfl) (by decide) rfl ?_
  refine fo_icmp_ge (fa_269 rfl) (pcT := 143) rfl fs_269_143 ?_
  refine fo_ldc2 (fa_269 rfl) ?_
  refine fo_lload_n (k := 1) (fa_269 rfl) ?_
  refine fo_lmul (fa_269 rfl) ?_
  refine fo_aload_n (k := 0) (fa_269 rfl) ?_
  refine fo_getr (fa_269 rfl) (by decide) rfl ?_
  refine fo_iload_n (k := 3) (fa_269 rfl) ?_
  refine fo_caload (fa_269 rfl) ?_
  refine fo_i2l (fa_269 rfl) ?_
  refine fo_ladd (fa_269 rfl) ?_
  refine fo_lstore_n (k := 1) (fa_269 rfl) ?_
  refine fo_iinc (k := 3) (fa_269 rfl) fk_c_1 ?_
  exact fo_goto (fa_269 rfl) (pcT := 115) rfl (fo_back (q := 115) rfl)
theorem fs_269_113 : fSB 269 [0, 11, 31, 69, 115] 1 113 f_269_113 := by
  unfold f_269_113
  refine fo_iconst (fa_269 rfl) fk_c_0 ?_
  refine fo_istore_n (k := 3) (fa_269 rfl) ?_
  exact fs_269_115
theorem fs_269_107 : fSB 269 [0, 11, 31, 69, 115] 1 107 f_269_107 := by
  unfold f_269_107
  refine fo_iinc (k := 3) (fa_269 rfl) fk_c_1 ?_
  exact fo_goto (fa_269 rfl) (pcT := 11) rfl (fo_back (q := 11) rfl)
theorem fs_269_101 : fSB 269 [0, 11, 31, 69, 115] 1 101 f_269_101 := by
  unfold f_269_101
  refine fo_iinc (k := 6) (fa_269 rfl) fk_c_1 ?_
  exact fo_goto (fa_269 rfl) (pcT := 31) rfl (fo_back (q := 31) rfl)
theorem fs_269_69 : fSB 269 [0, 11, 31, 69, 115] 1 69 f_269_69 := by
  unfold f_269_69
  refine fo_aload (k := 7) (fa_269 rfl) ?_
  refine fo_ifnull (fa_269 rfl) (pcT := 101) rfl fs_269_101 ?_
  refine fo_iload (k := 8) (fa_269 rfl) ?_
  refine fo_aload (k := 7) (fa_269 rfl) ?_
  refine fo_alen (fa_269 rfl) ?_
  refine fo_icmp_ge (fa_269 rfl) (pcT := 101) rfl fs_269_101 ?_
  refine fo_ldc2 (fa_269 rfl) ?_
  refine fo_lload_n (k := 1) (fa_269 rfl) ?_
  refine fo_lmul (fa_269 rfl) ?_
  refine fo_aload (k := 7) (fa_269 rfl) ?_
  refine fo_iload (k := 8) (fa_269 rfl) ?_
  refine fo_iaload (fa_269 rfl) ?_
  refine fo_i2l (fa_269 rfl) ?_
  refine fo_ladd (fa_269 rfl) ?_
  refine fo_lstore_n (k := 1) (fa_269 rfl) ?_
  refine fo_iinc (k := 8) (fa_269 rfl) fk_c_1 ?_
  exact fo_goto (fa_269 rfl) (pcT := 69) rfl (fo_back (q := 69) rfl)
theorem fs_269_63 : fSB 269 [0, 11, 31, 69, 115] 1 63 f_269_63 := by
  unfold f_269_63
  refine fo_i2l (fa_269 rfl) ?_
  refine fo_ladd (fa_269 rfl) ?_
  refine fo_lstore_n (k := 1) (fa_269 rfl) ?_
  refine fo_iconst (fa_269 rfl) fk_c_1 ?_
  refine fo_istore (k := 8) (fa_269 rfl) ?_
  exact fs_269_69
theorem fs_269_59 : fSB 269 [0, 11, 31, 69, 115] 1 59 f_269_59 := by
  unfold f_269_59
  refine fo_aload (k := 7) (fa_269 rfl) ?_
  refine fo_iconst (fa_269 rfl) fk_c_0 ?_
  refine fo_iaload (fa_269 rfl) ?_
  exact fs_269_63
theorem fs_269_31 : fSB 269 [0, 11, 31, 69, 115] 1 31 f_269_31 := by
  unfold f_269_31
  refine fo_iload (k := 6) (fa_269 rfl) ?_
  refine fo_iload (k := 5) (fa_269 rfl) ?_
  refine fo_icmp_ge (fa_269 rfl) (pcT := 107) rfl fs_269_107 ?_
  refine fo_aload (k := 4) (fa_269 rfl) ?_
  refine fo_iload (k := 6) (fa_269 rfl) ?_
  refine fo_aaload (fa_269 rfl) (by decide) (by decide) ?_
  refine fo_astore (k := 7) (fa_269 rfl) ?_
  refine fo_ldc2 (fa_269 rfl) ?_
  refine fo_lload_n (k := 1) (fa_269 rfl) ?_
  refine fo_lmul (fa_269 rfl) ?_
  refine fo_aload (k := 7) (fa_269 rfl) ?_
  refine fo_ifnonnull (fa_269 rfl) (pcT := 59) rfl fs_269_59 ?_
  refine fo_iconst (fa_269 rfl) fk_c_0 ?_
  exact fo_goto (fa_269 rfl) (pcT := 63) rfl fs_269_63
theorem fs_269_11 : fSB 269 [0, 11, 31, 69, 115] 1 11 f_269_11 := by
  unfold f_269_11
  refine fo_iload_n (k := 3) (fa_269 rfl) ?_
  refine fo_iconst (fa_269 rfl) fk_c_3 ?_
  refine fo_icmp_ge (fa_269 rfl) (pcT := 113) rfl fs_269_113 ?_
  refine fo_aload_n (k := 0) (fa_269 rfl) ?_
  refine fo_iload_n (k := 3) (fa_269 rfl) ?_
  refine fo_virtual (by decide) fna_180 (fo_call (fa_269 rfl) fNs_virtual fsm_180 (by decide) fFil_0 fna_180 fx_180 (by rw [fP_180]; rfl) fh_269 ?_)
  refine fo_astore (k := 4) (fa_269 rfl) ?_
  refine fo_aload (k := 4) (fa_269 rfl) ?_
  refine fo_alen (fa_269 rfl) ?_
  refine fo_istore (k := 5) (fa_269 rfl) ?_
  refine fo_iconst (fa_269 rfl) fk_c_0 ?_
  refine fo_istore (k := 6) (fa_269 rfl) ?_
  exact fs_269_31
theorem fs_269_0 : fSB 269 [0, 11, 31, 69, 115] 1 0 f_269_0 := by
  unfold f_269_0
  refine fo_aload_n (k := 0) (fa_269 rfl) ?_
  refine fo_iconst (fa_269 rfl) fk_c_0 ?_
  refine fo_puti (fa_269 rfl) (by decide) rfl ?_
  refine fo_ldc2 (fa_269 rfl) ?_
  refine fo_lstore_n (k := 1) (fa_269 rfl) ?_
  refine fo_iconst (fa_269 rfl) fk_c_0 ?_
  refine fo_istore_n (k := 3) (fa_269 rfl) ?_
  exact fs_269_11
theorem fsm_269 : fSM 269 1 fm_269 := fs_methH (lp := [0, 11, 31, 69, 115]) (by decide) rfl ⟨fs_269_0, fs_269_11, fs_269_31, fs_269_69, fs_269_115, trivial⟩
theorem fP_270 : mj_P 270 = (8, 1, (some .boolean), mcX8_isTrue, []) := rfl
theorem fa_270 {pc : Nat} {e : mjE} (h : mj_at mcX8_isTrue pc = some e) : fAt 270 pc e := by unfold fAt; rw [fP_270]; exact h
theorem fr_270 : (mj_P 270).2.2.1 = (some .boolean) := by rw [fP_270]
theorem fna_270 : (mj_P 270).2.1 = 1 := by rw [fP_270]
theorem fx_270 : 1 ≤ mj_mx.getD 270 0 := by decide
theorem fh_270 : (mj_P 270).2.2.2.2.isEmpty = true := by rw [fP_270]; rfl
theorem fs_270_0 : fSB 270 [0] 0 0 f_270_0 := by
  unfold f_270_0
  refine fo_aload_n (k := 0) (fa_270 rfl) ?_
  refine fo_iconst (fa_270 rfl) fk_c_0 ?_
  refine fo_puti (fa_270 rfl) (by decide) rfl ?_
  refine fo_iconst (fa_270 rfl) fk_c_1 ?_
  exact fo_iret (fa_270 rfl) fr_270 fw_bool
theorem fsm_270 : fSM 270 0 fm_270 := fs_methH (lp := [0]) (by decide) rfl ⟨fs_270_0, trivial⟩
theorem fP_277 : mj_P 277 = (13, 4, (some .int), mcL_blank, [(0, 10, 13, 0), (0, 10, 17, 2)]) := rfl
theorem fa_277 {pc : Nat} {e : mjE} (h : mj_at mcL_blank pc = some e) : fAt 277 pc e := by unfold fAt; rw [fP_277]; exact h
theorem fr_277 : (mj_P 277).2.2.1 = (some .int) := by rw [fP_277]
theorem fna_277 : (mj_P 277).2.1 = 4 := by rw [fP_277]
theorem fx_277 : 4 ≤ mj_mx.getD 277 0 := by decide
theorem fs_277_21 : fSB 277 [0] 4 21 f_277_21 := by
  unfold f_277_21
  refine fo_iconst (fa_277 rfl) fk_c_0 ?_
  exact fo_iret (fa_277 rfl) fr_277 fw_int
theorem fs_277_19 : fSB 277 [0] 4 19 f_277_19 := by
  unfold f_277_19
  refine fo_iconst (fa_277 rfl) fk_c_2 ?_
  exact fo_iret (fa_277 rfl) fr_277 fw_int
theorem fs_277_15 : fSB 277 [0] 4 15 f_277_15 := by
  unfold f_277_15
  refine fo_iconst (fa_277 rfl) fk_c_1 ?_
  exact fo_iret (fa_277 rfl) fr_277 fw_int
theorem fs_277_0 : fSB 277 [0] 4 0 f_277_0 := by
  unfold f_277_0
  refine fo_aload_n (k := 3) (fa_277 rfl) ?_
  refine fo_iconst (fa_277 rfl) fk_c_0 ?_
  refine fo_aload_n (k := 0) (fa_277 rfl) ?_
  refine fo_iload_n (k := 1) (fa_277 rfl) ?_
  refine fo_iload_n (k := 2) (fa_277 rfl) ?_
  refine fo_virtual (by decide) fna_80 (fo_callH (fa_277 rfl) fNs_virtual fsm_80 (by decide) fFil_0 fna_80 fx_80 (Or.inr (by rw [fP_80]; rfl)) (fHd_w (pc := 5) (E := 0) (q := (0, 10, 13, 0)) (by rw [fP_277]; rfl) (by rw [fP_277]; rfl) rfl fs_277_15 (fHd_w (pc := 5) (E := 2) (q := (0, 10, 17, 2)) (by rw [fP_277]; rfl) (by rw [fP_277]; rfl) rfl fs_277_19 fHd_nil)) ?_)
  refine fo_i2l (fa_277 rfl) ?_
  refine fo_lastore (fa_277 rfl) ?_
  exact fo_goto (fa_277 rfl) (pcT := 21) rfl fs_277_21
theorem fsm_277 : fSM 277 4 fm_277 := fs_methH (lp := [0]) (by decide) rfl ⟨fs_277_0, trivial⟩
theorem fP_278 : mj_P 278 = (13, 4, (some .int), mcL_block, [(0, 10, 13, 0), (0, 10, 17, 1), (0, 10, 21, 2), (0, 10, 25, 3)]) := rfl
theorem fa_278 {pc : Nat} {e : mjE} (h : mj_at mcL_block pc = some e) : fAt 278 pc e := by unfold fAt; rw [fP_278]; exact h
theorem fr_278 : (mj_P 278).2.2.1 = (some .int) := by rw [fP_278]
theorem fna_278 : (mj_P 278).2.1 = 4 := by rw [fP_278]
theorem fx_278 : 4 ≤ mj_mx.getD 278 0 := by decide
theorem fs_278_29 : fSB 278 [0] 3 29 f_278_29 := by
  unfold f_278_29
  refine fo_iconst (fa_278 rfl) fk_c_0 ?_
  exact fo_iret (fa_278 rfl) fr_278 fw_int
theorem fs_278_27 : fSB 278 [0] 3 27 f_278_27 := by
  unfold f_278_27
  refine fo_iconst (fa_278 rfl) fk_c_4 ?_
  exact fo_iret (fa_278 rfl) fr_278 fw_int
theorem fs_278_23 : fSB 278 [0] 3 23 f_278_23 := by
  unfold f_278_23
  refine fo_iconst (fa_278 rfl) fk_c_3 ?_
  exact fo_iret (fa_278 rfl) fr_278 fw_int
theorem fs_278_19 : fSB 278 [0] 3 19 f_278_19 := by
  unfold f_278_19
  refine fo_iconst (fa_278 rfl) fk_c_2 ?_
  exact fo_iret (fa_278 rfl) fr_278 fw_int
theorem fs_278_15 : fSB 278 [0] 3 15 f_278_15 := by
  unfold f_278_15
  refine fo_iconst (fa_278 rfl) fk_c_1 ?_
  exact fo_iret (fa_278 rfl) fr_278 fw_int
theorem fs_278_0 : fSB 278 [0] 3 0 f_278_0 := by
  unfold f_278_0
  refine fo_aload_n (k := 3) (fa_278 rfl) ?_
  refine fo_iconst (fa_278 rfl) fk_c_0 ?_
  refine fo_aload_n (k := 0) (fa_278 rfl) ?_
  refine fo_iload_n (k := 1) (fa_278 rfl) ?_
  refine fo_iload_n (k := 2) (fa_278 rfl) ?_
  refine fo_virtual (by decide) fna_81 (fo_callH (fa_278 rfl) fNs_virtual fsm_81 (by decide) fFil_1 fna_81 fx_81 (Or.inr (by rw [fP_81]; rfl)) (fHd_w (pc := 5) (E := 0) (q := (0, 10, 13, 0)) (by rw [fP_278]; rfl) (by rw [fP_278]; rfl) rfl fs_278_15 (fHd_w (pc := 5) (E := 1) (q := (0, 10, 17, 1)) (by rw [fP_278]; rfl) (by rw [fP_278]; rfl) rfl fs_278_19 (fHd_w (pc := 5) (E := 2) (q := (0, 10, 21, 2)) (by rw [fP_278]; rfl) (by rw [fP_278]; rfl) rfl fs_278_23 (fHd_w (pc := 5) (E := 3) (q := (0, 10, 25, 3)) (by rw [fP_278]; rfl) (by rw [fP_278]; rfl) rfl fs_278_27 fHd_nil)))) ?_)
  refine fo_i2l (fa_278 rfl) ?_
  refine fo_lastore (fa_278 rfl) ?_
  exact fo_goto (fa_278 rfl) (pcT := 29) rfl fs_278_29
theorem fsm_278 : fSM 278 3 fm_278 := fs_methH (lp := [0]) (by decide) rfl ⟨fs_278_0, trivial⟩
theorem fP_279 : mj_P 279 = (13, 5, (some .int), mcL_shift, [(0, 12, 15, 0), (0, 12, 19, 2)]) := rfl
theorem fa_279 {pc : Nat} {e : mjE} (h : mj_at mcL_shift pc = some e) : fAt 279 pc e := by unfold fAt; rw [fP_279]; exact h
theorem fr_279 : (mj_P 279).2.2.1 = (some .int) := by rw [fP_279]
theorem fna_279 : (mj_P 279).2.1 = 5 := by rw [fP_279]
theorem fx_279 : 5 ≤ mj_mx.getD 279 0 := by decide
theorem fs_279_23 : fSB 279 [0] 4 23 f_279_23 := by
  unfold f_279_23
  refine fo_iconst (fa_279 rfl) fk_c_0 ?_
  exact fo_iret (fa_279 rfl) fr_279 fw_int
theorem fs_279_21 : fSB 279 [0] 4 21 f_279_21 := by
  unfold f_279_21
  refine fo_iconst (fa_279 rfl) fk_c_2 ?_
  exact fo_iret (fa_279 rfl) fr_279 fw_int
theorem fs_279_17 : fSB 279 [0] 4 17 f_279_17 := by
  unfold f_279_17
  refine fo_iconst (fa_279 rfl) fk_c_1 ?_
  exact fo_iret (fa_279 rfl) fr_279 fw_int
theorem fs_279_0 : fSB 279 [0] 4 0 f_279_0 := by
  unfold f_279_0
  refine fo_aload (k := 4) (fa_279 rfl) ?_
  refine fo_iconst (fa_279 rfl) fk_c_0 ?_
  refine fo_aload_n (k := 0) (fa_279 rfl) ?_
  refine fo_iload_n (k := 1) (fa_279 rfl) ?_
  refine fo_iload_n (k := 2) (fa_279 rfl) ?_
  refine fo_iload_n (k := 3) (fa_279 rfl) ?_
  refine fo_virtual (by decide) fna_82 (fo_callH (fa_279 rfl) fNs_virtual fsm_82 (by decide) fFil_0 fna_82 fx_82 (Or.inr (by rw [fP_82]; rfl)) (fHd_w (pc := 7) (E := 0) (q := (0, 12, 15, 0)) (by rw [fP_279]; rfl) (by rw [fP_279]; rfl) rfl fs_279_17 (fHd_w (pc := 7) (E := 2) (q := (0, 12, 19, 2)) (by rw [fP_279]; rfl) (by rw [fP_279]; rfl) rfl fs_279_21 fHd_nil)) ?_)
  refine fo_i2l (fa_279 rfl) ?_
  refine fo_lastore (fa_279 rfl) ?_
  exact fo_goto (fa_279 rfl) (pcT := 23) rfl fs_279_23
theorem fsm_279 : fSM 279 4 fm_279 := fs_methH (lp := [0]) (by decide) rfl ⟨fs_279_0, trivial⟩
theorem fP_280 : mj_P 280 = (13, 4, (some .int), mcL_affine, [(0, 10, 13, 0), (0, 10, 17, 2)]) := rfl
theorem fa_280 {pc : Nat} {e : mjE} (h : mj_at mcL_affine pc = some e) : fAt 280 pc e := by unfold fAt; rw [fP_280]; exact h
theorem fr_280 : (mj_P 280).2.2.1 = (some .int) := by rw [fP_280]
theorem fna_280 : (mj_P 280).2.1 = 4 := by rw [fP_280]
theorem fx_280 : 4 ≤ mj_mx.getD 280 0 := by decide
theorem fs_280_21 : fSB 280 [0] 5 21 f_280_21 := by
  unfold f_280_21
  refine fo_iconst (fa_280 rfl) fk_c_0 ?_
  exact fo_iret (fa_280 rfl) fr_280 fw_int
theorem fs_280_19 : fSB 280 [0] 5 19 f_280_19 := by
  unfold f_280_19
  refine fo_iconst (fa_280 rfl) fk_c_2 ?_
  exact fo_iret (fa_280 rfl) fr_280 fw_int
theorem fs_280_15 : fSB 280 [0] 5 15 f_280_15 := by
  unfold f_280_15
  refine fo_iconst (fa_280 rfl) fk_c_1 ?_
  exact fo_iret (fa_280 rfl) fr_280 fw_int
theorem fs_280_0 : fSB 280 [0] 5 0 f_280_0 := by
  unfold f_280_0
  refine fo_aload_n (k := 3) (fa_280 rfl) ?_
  refine fo_iconst (fa_280 rfl) fk_c_0 ?_
  refine fo_aload_n (k := 0) (fa_280 rfl) ?_
  refine fo_iload_n (k := 1) (fa_280 rfl) ?_
  refine fo_iload_n (k := 2) (fa_280 rfl) ?_
  refine fo_virtual (by decide) fna_83 (fo_callH (fa_280 rfl) fNs_virtual fsm_83 (by decide) fFil_0 fna_83 fx_83 (Or.inr (by rw [fP_83]; rfl)) (fHd_w (pc := 5) (E := 0) (q := (0, 10, 13, 0)) (by rw [fP_280]; rfl) (by rw [fP_280]; rfl) rfl fs_280_15 (fHd_w (pc := 5) (E := 2) (q := (0, 10, 17, 2)) (by rw [fP_280]; rfl) (by rw [fP_280]; rfl) rfl fs_280_19 fHd_nil)) ?_)
  refine fo_i2l (fa_280 rfl) ?_
  refine fo_lastore (fa_280 rfl) ?_
  exact fo_goto (fa_280 rfl) (pcT := 21) rfl fs_280_21
theorem fsm_280 : fSM 280 5 fm_280 := fs_methH (lp := [0]) (by decide) rfl ⟨fs_280_0, trivial⟩
theorem fP_281 : mj_P 281 = (13, 4, (some .int), mcL_projective, [(0, 10, 13, 0), (0, 10, 17, 2)]) := rfl
theorem fa_281 {pc : Nat} {e : mjE} (h : mj_at mcL_projective pc = some e) : fAt 281 pc e := by unfold fAt; rw [fP_281]; exact h
theorem fr_281 : (mj_P 281).2.2.1 = (some .int) := by rw [fP_281]
theorem fna_281 : (mj_P 281).2.1 = 4 := by rw [fP_281]
theorem fx_281 : 4 ≤ mj_mx.getD 281 0 := by decide
theorem fs_281_21 : fSB 281 [0] 5 21 f_281_21 := by
  unfold f_281_21
  refine fo_iconst (fa_281 rfl) fk_c_0 ?_
  exact fo_iret (fa_281 rfl) fr_281 fw_int
theorem fs_281_19 : fSB 281 [0] 5 19 f_281_19 := by
  unfold f_281_19
  refine fo_iconst (fa_281 rfl) fk_c_2 ?_
  exact fo_iret (fa_281 rfl) fr_281 fw_int
theorem fs_281_15 : fSB 281 [0] 5 15 f_281_15 := by
  unfold f_281_15
  refine fo_iconst (fa_281 rfl) fk_c_1 ?_
  exact fo_iret (fa_281 rfl) fr_281 fw_int
theorem fs_281_0 : fSB 281 [0] 5 0 f_281_0 := by
  unfold f_281_0
  refine fo_aload_n (k := 3) (fa_281 rfl) ?_
  refine fo_iconst (fa_281 rfl) fk_c_0 ?_
  refine fo_aload_n (k := 0) (fa_281 rfl) ?_
  refine fo_iload_n (k := 1) (fa_281 rfl) ?_
  refine fo_iload_n (k := 2) (fa_281 rfl) ?_
  refine fo_virtual (by decide) fna_84 (fo_callH (fa_281 rfl) fNs_virtual fsm_84 (by decide) fFil_0 fna_84 fx_84 (Or.inr (by rw [fP_84]; rfl)) (fHd_w (pc := 5) (E := 0) (q := (0, 10, 13, 0)) (by rw [fP_281]; rfl) (by rw [fP_281]; rfl) rfl fs_281_15 (fHd_w (pc := 5) (E := 2) (q := (0, 10, 17, 2)) (by rw [fP_281]; rfl) (by rw [fP_281]; rfl) rfl fs_281_19 fHd_nil)) ?_)
  refine fo_i2l (fa_281 rfl) ?_
  refine fo_lastore (fa_281 rfl) ?_
  exact fo_goto (fa_281 rfl) (pcT := 21) rfl fs_281_21
theorem fsm_281 : fSM 281 5 fm_281 := fs_methH (lp := [0]) (by decide) rfl ⟨fs_281_0, trivial⟩
theorem fP_282 : mj_P 282 = (13, 4, (some .int), mcL_bose, [(0, 10, 13, 0), (0, 10, 17, 2)]) := rfl
theorem fa_282 {pc : Nat} {e : mjE} (h : mj_at mcL_bose pc = some e) : fAt 282 pc e := by unfold fAt; rw [fP_282]; exact h
theorem fr_282 : (mj_P 282).2.2.1 = (some .int) := by rw [fP_282]
theorem fna_282 : (mj_P 282).2.1 = 4 := by rw [fP_282]
theorem fx_282 : 4 ≤ mj_mx.getD 282 0 := by decide
theorem fs_282_21 : fSB 282 [0] 4 21 f_282_21 := by
  unfold f_282_21
  refine fo_iconst (fa_282 rfl) fk_c_0 ?_
  exact fo_iret (fa_282 rfl) fr_282 fw_int
theorem fs_282_19 : fSB 282 [0] 4 19 f_282_19 := by
  unfold f_282_19
  refine fo_iconst (fa_282 rfl) fk_c_2 ?_
  exact fo_iret (fa_282 rfl) fr_282 fw_int
theorem fs_282_15 : fSB 282 [0] 4 15 f_282_15 := by
  unfold f_282_15
  refine fo_iconst (fa_282 rfl) fk_c_1 ?_
  exact fo_iret (fa_282 rfl) fr_282 fw_int
theorem fs_282_0 : fSB 282 [0] 4 0 f_282_0 := by
  unfold f_282_0
  refine fo_aload_n (k := 3) (fa_282 rfl) ?_
  refine fo_iconst (fa_282 rfl) fk_c_0 ?_
  refine fo_aload_n (k := 0) (fa_282 rfl) ?_
  refine fo_iload_n (k := 1) (fa_282 rfl) ?_
  refine fo_iload_n (k := 2) (fa_282 rfl) ?_
  refine fo_virtual (by decide) fna_85 (fo_callH (fa_282 rfl) fNs_virtual fsm_85 (by decide) fFil_0 fna_85 fx_85 (Or.inr (by rw [fP_85]; rfl)) (fHd_w (pc := 5) (E := 0) (q := (0, 10, 13, 0)) (by rw [fP_282]; rfl) (by rw [fP_282]; rfl) rfl fs_282_15 (fHd_w (pc := 5) (E := 2) (q := (0, 10, 17, 2)) (by rw [fP_282]; rfl) (by rw [fP_282]; rfl) rfl fs_282_19 fHd_nil)) ?_)
  refine fo_i2l (fa_282 rfl) ?_
  refine fo_lastore (fa_282 rfl) ?_
  exact fo_goto (fa_282 rfl) (pcT := 21) rfl fs_282_21
theorem fsm_282 : fSM 282 4 fm_282 := fs_methH (lp := [0]) (by decide) rfl ⟨fs_282_0, trivial⟩
theorem fP_283 : mj_P 283 = (13, 4, (some .int), mcL_skolem, [(0, 10, 13, 0), (0, 10, 17, 2)]) := rfl
theorem fa_283 {pc : Nat} {e : mjE} (h : mj_at mcL_skolem pc = some e) : fAt 283 pc e := by unfold fAt; rw [fP_283]; exact h
theorem fr_283 : (mj_P 283).2.2.1 = (some .int) := by rw [fP_283]
theorem fna_283 : (mj_P 283).2.1 = 4 := by rw [fP_283]
theorem fx_283 : 4 ≤ mj_mx.getD 283 0 := by decide
theorem fs_283_21 : fSB 283 [0] 4 21 f_283_21 := by
  unfold f_283_21
  refine fo_iconst (fa_283 rfl) fk_c_0 ?_
  exact fo_iret (fa_283 rfl) fr_283 fw_int
theorem fs_283_19 : fSB 283 [0] 4 19 f_283_19 := by
  unfold f_283_19
  refine fo_iconst (fa_283 rfl) fk_c_2 ?_
  exact fo_iret (fa_283 rfl) fr_283 fw_int
theorem fs_283_15 : fSB 283 [0] 4 15 f_283_15 := by
  unfold f_283_15
  refine fo_iconst (fa_283 rfl) fk_c_1 ?_
  exact fo_iret (fa_283 rfl) fr_283 fw_int
theorem fs_283_0 : fSB 283 [0] 4 0 f_283_0 := by
  unfold f_283_0
  refine fo_aload_n (k := 3) (fa_283 rfl) ?_
  refine fo_iconst (fa_283 rfl) fk_c_0 ?_
  refine fo_aload_n (k := 0) (fa_283 rfl) ?_
  refine fo_iload_n (k := 1) (fa_283 rfl) ?_
  refine fo_iload_n (k := 2) (fa_283 rfl) ?_
  refine fo_virtual (by decide) fna_86 (fo_callH (fa_283 rfl) fNs_virtual fsm_86 (by decide) fFil_0 fna_86 fx_86 (Or.inr (by rw [fP_86]; rfl)) (fHd_w (pc := 5) (E := 0) (q := (0, 10, 13, 0)) (by rw [fP_283]; rfl) (by rw [fP_283]; rfl) rfl fs_283_15 (fHd_w (pc := 5) (E := 2) (q := (0, 10, 17, 2)) (by rw [fP_283]; rfl) (by rw [fP_283]; rfl) rfl fs_283_19 fHd_nil)) ?_)
  refine fo_i2l (fa_283 rfl) ?_
  refine fo_lastore (fa_283 rfl) ?_
  exact fo_goto (fa_283 rfl) (pcT := 21) rfl fs_283_21
theorem fsm_283 : fSM 283 4 fm_283 := fs_methH (lp := [0]) (by decide) rfl ⟨fs_283_0, trivial⟩
theorem fP_284 : mj_P 284 = (13, 5, (some .int), mcL_product, [(0, 12, 15, 0), (0, 12, 19, 1), (0, 12, 23, 4)]) := rfl
theorem fa_284 {pc : Nat} {e : mjE} (h : mj_at mcL_product pc = some e) : fAt 284 pc e := by unfold fAt; rw [fP_284]; exact h
theorem fr_284 : (mj_P 284).2.2.1 = (some .int) := by rw [fP_284]
theorem fna_284 : (mj_P 284).2.1 = 5 := by rw [fP_284]
theorem fx_284 : 5 ≤ mj_mx.getD 284 0 := by decide
theorem fs_284_27 : fSB 284 [0] 4 27 f_284_27 := by
  unfold f_284_27
  refine fo_iconst (fa_284 rfl) fk_c_0 ?_
  exact fo_iret (fa_284 rfl) fr_284 fw_int
theorem fs_284_25 : fSB 284 [0] 4 25 f_284_25 := by
  unfold f_284_25
  refine fo_iconst (fa_284 rfl) fk_c_3 ?_
  exact fo_iret (fa_284 rfl) fr_284 fw_int
theorem fs_284_21 : fSB 284 [0] 4 21 f_284_21 := by
  unfold f_284_21
  refine fo_iconst (fa_284 rfl) fk_c_2 ?_
  exact fo_iret (fa_284 rfl) fr_284 fw_int
theorem fs_284_17 : fSB 284 [0] 4 17 f_284_17 := by
  unfold f_284_17
  refine fo_iconst (fa_284 rfl) fk_c_1 ?_
  exact fo_iret (fa_284 rfl) fr_284 fw_int
theorem fs_284_0 : fSB 284 [0] 4 0 f_284_0 := by
  unfold f_284_0
  refine fo_aload (k := 4) (fa_284 rfl) ?_
  refine fo_iconst (fa_284 rfl) fk_c_0 ?_
  refine fo_aload_n (k := 0) (fa_284 rfl) ?_
  refine fo_iload_n (k := 1) (fa_284 rfl) ?_
  refine fo_iload_n (k := 2) (fa_284 rfl) ?_
  refine fo_iload_n (k := 3) (fa_284 rfl) ?_
  refine fo_virtual (by decide) fna_87 (fo_callH (fa_284 rfl) fNs_virtual fsm_87 (by decide) fFil_3 fna_87 fx_87 (Or.inr (by rw [fP_87]; rfl)) (fHd_w (pc := 7) (E := 0) (q := (0, 12, 15, 0)) (by rw [fP_284]; rfl) (by rw [fP_284]; rfl) rfl fs_284_17 (fHd_w (pc := 7) (E := 1) (q := (0, 12, 19, 1)) (by rw [fP_284]; rfl) (by rw [fP_284]; rfl) rfl fs_284_21 (fHd_w (pc := 7) (E := 4) (q := (0, 12, 23, 4)) (by rw [fP_284]; rfl) (by rw [fP_284]; rfl) rfl fs_284_25 fHd_nil))) ?_)
  refine fo_i2l (fa_284 rfl) ?_
  refine fo_lastore (fa_284 rfl) ?_
  exact fo_goto (fa_284 rfl) (pcT := 27) rfl fs_284_27
theorem fsm_284 : fSM 284 4 fm_284 := fs_methH (lp := [0]) (by decide) rfl ⟨fs_284_0, trivial⟩
theorem fP_285 : mj_P 285 = (13, 3, (some .int), mcL_points, [(0, 9, 12, 0), (0, 9, 15, 1)]) := rfl
theorem fa_285 {pc : Nat} {e : mjE} (h : mj_at mcL_points pc = some e) : fAt 285 pc e := by unfold fAt; rw [fP_285]; exact h
theorem fr_285 : (mj_P 285).2.2.1 = (some .int) := by rw [fP_285]
theorem fna_285 : (mj_P 285).2.1 = 3 := by rw [fP_285]
theorem fx_285 : 3 ≤ mj_mx.getD 285 0 := by decide
theorem fs_285_18 : fSB 285 [0] 3 18 f_285_18 := by
  unfold f_285_18
  refine fo_iconst (fa_285 rfl) fk_c_0 ?_
  exact fo_iret (fa_285 rfl) fr_285 fw_int
theorem fs_285_16 : fSB 285 [0] 3 16 f_285_16 := by
  unfold f_285_16
  refine fo_iconst (fa_285 rfl) fk_c_2 ?_
  exact fo_iret (fa_285 rfl) fr_285 fw_int
theorem fs_285_13 : fSB 285 [0] 3 13 f_285_13 := by
  unfold f_285_13
  refine fo_iconst (fa_285 rfl) fk_c_1 ?_
  exact fo_iret (fa_285 rfl) fr_285 fw_int
theorem fs_285_0 : fSB 285 [0] 3 0 f_285_0 := by
  unfold f_285_0
  refine fo_aload_n (k := 2) (fa_285 rfl) ?_
  refine fo_iconst (fa_285 rfl) fk_c_0 ?_
  refine fo_aload_n (k := 0) (fa_285 rfl) ?_
  refine fo_iload_n (k := 1) (fa_285 rfl) ?_
  refine fo_virtual (by decide) fna_88 (fo_callH (fa_285 rfl) fNs_virtual fsm_88 (by decide) fFil_0 fna_88 fx_88 (Or.inr (by rw [fP_88]; rfl)) (fHd_n (pc := 4) (E := 0) (q := (0, 9, 12, 0)) (by rw [fP_285]; rfl) (by rw [fP_285]; rfl) rfl fs_285_13 (fHd_n (pc := 4) (E := 1) (q := (0, 9, 15, 1)) (by rw [fP_285]; rfl) (by rw [fP_285]; rfl) rfl fs_285_16 fHd_nil)) ?_)
  refine fo_i2l (fa_285 rfl) ?_
  refine fo_lastore (fa_285 rfl) ?_
  exact fo_goto (fa_285 rfl) (pcT := 18) rfl fs_285_18
theorem fsm_285 : fSM 285 3 fm_285 := fs_methH (lp := [0]) (by decide) rfl ⟨fs_285_0, trivial⟩
theorem fP_286 : mj_P 286 = (13, 3, (some .int), mcL_blocks, [(0, 9, 12, 0), (0, 9, 15, 1)]) := rfl
theorem fa_286 {pc : Nat} {e : mjE} (h : mj_at mcL_blocks pc = some e) : fAt 286 pc e := by unfold fAt; rw [fP_286]; exact h
theorem fr_286 : (mj_P 286).2.2.1 = (some .int) := by rw [fP_286]
theorem fna_286 : (mj_P 286).2.1 = 3 := by rw [fP_286]
theorem fx_286 : 3 ≤ mj_mx.getD 286 0 := by decide
theorem fs_286_18 : fSB 286 [0] 3 18 f_286_18 := by
  unfold f_286_18
  refine fo_iconst (fa_286 rfl) fk_c_0 ?_
  exact fo_iret (fa_286 rfl) fr_286 fw_int
theorem fs_286_16 : fSB 286 [0] 3 16 f_286_16 := by
  unfold f_286_16
  refine fo_iconst (fa_286 rfl) fk_c_2 ?_
  exact fo_iret (fa_286 rfl) fr_286 fw_int
theorem fs_286_13 : fSB 286 [0] 3 13 f_286_13 := by
  unfold f_286_13
  refine fo_iconst (fa_286 rfl) fk_c_1 ?_
  exact fo_iret (fa_286 rfl) fr_286 fw_int
theorem fs_286_0 : fSB 286 [0] 3 0 f_286_0 := by
  unfold f_286_0
  refine fo_aload_n (k := 2) (fa_286 rfl) ?_
  refine fo_iconst (fa_286 rfl) fk_c_0 ?_
  refine fo_aload_n (k := 0) (fa_286 rfl) ?_
  refine fo_iload_n (k := 1) (fa_286 rfl) ?_
  refine fo_virtual (by decide) fna_89 (fo_callH (fa_286 rfl) fNs_virtual fsm_89 (by decide) fFil_0 fna_89 fx_89 (Or.inr (by rw [fP_89]; rfl)) (fHd_n (pc := 4) (E := 0) (q := (0, 9, 12, 0)) (by rw [fP_286]; rfl) (by rw [fP_286]; rfl) rfl fs_286_13 (fHd_n (pc := 4) (E := 1) (q := (0, 9, 15, 1)) (by rw [fP_286]; rfl) (by rw [fP_286]; rfl) rfl fs_286_16 fHd_nil)) ?_)
  refine fo_i2l (fa_286 rfl) ?_
  refine fo_lastore (fa_286 rfl) ?_
  exact fo_goto (fa_286 rfl) (pcT := 18) rfl fs_286_18
theorem fsm_286 : fSM 286 3 fm_286 := fs_methH (lp := [0]) (by decide) rfl ⟨fs_286_0, trivial⟩
theorem fP_287 : mj_P 287 = (13, 4, (some .int), mcL_bitsOf, [(0, 10, 13, 0), (0, 10, 17, 1)]) := rfl
theorem fa_287 {pc : Nat} {e : mjE} (h : mj_at mcL_bitsOf pc = some e) : fAt 287 pc e := by unfold fAt; rw [fP_287]; exact h
theorem fr_287 : (mj_P 287).2.2.1 = (some .int) := by rw [fP_287]
theorem fna_287 : (mj_P 287).2.1 = 4 := by rw [fP_287]
theorem fx_287 : 4 ≤ mj_mx.getD 287 0 := by decide
theorem fs_287_21 : fSB 287 [0] 4 21 f_287_21 := by
  unfold f_287_21
  refine fo_iconst (fa_287 rfl) fk_c_0 ?_
  exact fo_iret (fa_287 rfl) fr_287 fw_int
theorem fs_287_19 : fSB 287 [0] 4 19 f_287_19 := by
  unfold f_287_19
  refine fo_iconst (fa_287 rfl) fk_c_2 ?_
  exact fo_iret (fa_287 rfl) fr_287 fw_int
theorem fs_287_15 : fSB 287 [0] 4 15 f_287_15 := by
  unfold f_287_15
  refine fo_iconst (fa_287 rfl) fk_c_1 ?_
  exact fo_iret (fa_287 rfl) fr_287 fw_int
theorem fs_287_0 : fSB 287 [0] 4 0 f_287_0 := by
  unfold f_287_0
  refine fo_aload_n (k := 3) (fa_287 rfl) ?_
  refine fo_iconst (fa_287 rfl) fk_c_0 ?_
  refine fo_aload_n (k := 0) (fa_287 rfl) ?_
  refine fo_iload_n (k := 1) (fa_287 rfl) ?_
  refine fo_iload_n (k := 2) (fa_287 rfl) ?_
  refine fo_virtual (by decide) fna_90 (fo_callH (fa_287 rfl) fNs_virtual fsm_90 (by decide) fFil_0 fna_90 fx_90 (Or.inr (by rw [fP_90]; rfl)) (fHd_w (pc := 5) (E := 0) (q := (0, 10, 13, 0)) (by rw [fP_287]; rfl) (by rw [fP_287]; rfl) rfl fs_287_15 (fHd_w (pc := 5) (E := 1) (q := (0, 10, 17, 1)) (by rw [fP_287]; rfl) (by rw [fP_287]; rfl) rfl fs_287_19 fHd_nil)) ?_)
  refine fo_i2l (fa_287 rfl) ?_
  refine fo_lastore (fa_287 rfl) ?_
  exact fo_goto (fa_287 rfl) (pcT := 21) rfl fs_287_21
theorem fsm_287 : fSM 287 4 fm_287 := fs_methH (lp := [0]) (by decide) rfl ⟨fs_287_0, trivial⟩
theorem fP_288 : mj_P 288 = (13, 4, (some .int), mcL_often, [(0, 10, 13, 0), (0, 10, 17, 1)]) := rfl
theorem fa_288 {pc : Nat} {e : mjE} (h : mj_at mcL_often pc = some e) : fAt 288 pc e := by unfold fAt; rw [fP_288]; exact h
theorem fr_288 : (mj_P 288).2.2.1 = (some .int) := by rw [fP_288]
theorem fna_288 : (mj_P 288).2.1 = 4 := by rw [fP_288]
theorem fx_288 : 4 ≤ mj_mx.getD 288 0 := by decide
theorem fs_288_21 : fSB 288 [0] 3 21 f_288_21 := by
  unfold f_288_21
  refine fo_iconst (fa_288 rfl) fk_c_0 ?_
  exact fo_iret (fa_288 rfl) fr_288 fw_int
theorem fs_288_19 : fSB 288 [0] 3 19 f_288_19 := by
  unfold f_288_19
  refine fo_iconst (fa_288 rfl) fk_c_2 ?_
  exact fo_iret (fa_288 rfl) fr_288 fw_int
theorem fs_288_15 : fSB 288 [0] 3 15 f_288_15 := by
  unfold f_288_15
  refine fo_iconst (fa_288 rfl) fk_c_1 ?_
  exact fo_iret (fa_288 rfl) fr_288 fw_int
theorem fs_288_0 : fSB 288 [0] 3 0 f_288_0 := by
  unfold f_288_0
  refine fo_aload_n (k := 3) (fa_288 rfl) ?_
  refine fo_iconst (fa_288 rfl) fk_c_0 ?_
  refine fo_aload_n (k := 0) (fa_288 rfl) ?_
  refine fo_iload_n (k := 1) (fa_288 rfl) ?_
  refine fo_iload_n (k := 2) (fa_288 rfl) ?_
  refine fo_virtual (by decide) fna_91 (fo_callH (fa_288 rfl) fNs_virtual fsm_91 (by decide) fFil_1 fna_91 fx_91 (Or.inr (by rw [fP_91]; rfl)) (fHd_w (pc := 5) (E := 0) (q := (0, 10, 13, 0)) (by rw [fP_288]; rfl) (by rw [fP_288]; rfl) rfl fs_288_15 (fHd_w (pc := 5) (E := 1) (q := (0, 10, 17, 1)) (by rw [fP_288]; rfl) (by rw [fP_288]; rfl) rfl fs_288_19 fHd_nil)) ?_)
  refine fo_i2l (fa_288 rfl) ?_
  refine fo_lastore (fa_288 rfl) ?_
  exact fo_goto (fa_288 rfl) (pcT := 21) rfl fs_288_21
theorem fsm_288 : fSM 288 3 fm_288 := fs_methH (lp := [0]) (by decide) rfl ⟨fs_288_0, trivial⟩
theorem fP_289 : mj_P 289 = (13, 5, (some .int), mcL_pairs, [(0, 12, 15, 0), (0, 12, 19, 1)]) := rfl
theorem fa_289 {pc : Nat} {e : mjE} (h : mj_at mcL_pairs pc = some e) : fAt 289 pc e := by unfold fAt; rw [fP_289]; exact h
theorem fr_289 : (mj_P 289).2.2.1 = (some .int) := by rw [fP_289]
theorem fna_289 : (mj_P 289).2.1 = 5 := by rw [fP_289]
theorem fx_289 : 5 ≤ mj_mx.getD 289 0 := by decide
theorem fs_289_23 : fSB 289 [0] 3 23 f_289_23 := by
  unfold f_289_23
  refine fo_iconst (fa_289 rfl) fk_c_0 ?_
  exact fo_iret (fa_289 rfl) fr_289 fw_int
theorem fs_289_21 : fSB 289 [0] 3 21 f_289_21 := by
  unfold f_289_21
  refine fo_iconst (fa_289 rfl) fk_c_2 ?_
  exact fo_iret (fa_289 rfl) fr_289 fw_int
theorem fs_289_17 : fSB 289 [0] 3 17 f_289_17 := by
  unfold f_289_17
  refine fo_iconst (fa_289 rfl) fk_c_1 ?_
  exact fo_iret (fa_289 rfl) fr_289 fw_int
theorem fs_289_0 : fSB 289 [0] 3 0 f_289_0 := by
  unfold f_289_0
  refine fo_aload (k := 4) (fa_289 rfl) ?_
  refine fo_iconst (fa_289 rfl) fk_c_0 ?_
  refine fo_aload_n (k := 0) (fa_289 rfl) ?_
  refine fo_iload_n (k := 1) (fa_289 rfl) ?_
  refine fo_iload_n (k := 2) (fa_289 rfl) ?_
  refine fo_iload_n (k := 3) (fa_289 rfl) ?_
  refine fo_virtual (by decide) fna_92 (fo_callH (fa_289 rfl) fNs_virtual fsm_92 (by decide) fFil_1 fna_92 fx_92 (Or.inr (by rw [fP_92]; rfl)) (fHd_w (pc := 7) (E := 0) (q := (0, 12, 15, 0)) (by rw [fP_289]; rfl) (by rw [fP_289]; rfl) rfl fs_289_17 (fHd_w (pc := 7) (E := 1) (q := (0, 12, 19, 1)) (by rw [fP_289]; rfl) (by rw [fP_289]; rfl) rfl fs_289_21 fHd_nil)) ?_)
  refine fo_i2l (fa_289 rfl) ?_
  refine fo_lastore (fa_289 rfl) ?_
  exact fo_goto (fa_289 rfl) (pcT := 23) rfl fs_289_23
theorem fsm_289 : fSM 289 3 fm_289 := fs_methH (lp := [0]) (by decide) rfl ⟨fs_289_0, trivial⟩
theorem fP_290 : mj_P 290 = (13, 5, (some .int), mcL_meets, [(0, 12, 15, 0), (0, 12, 19, 1)]) := rfl
theorem fa_290 {pc : Nat} {e : mjE} (h : mj_at mcL_meets pc = some e) : fAt 290 pc e := by unfold fAt; rw [fP_290]; exact h
theorem fr_290 : (mj_P 290).2.2.1 = (some .int) := by rw [fP_290]
theorem fna_290 : (mj_P 290).2.1 = 5 := by rw [fP_290]
theorem fx_290 : 5 ≤ mj_mx.getD 290 0 := by decide
theorem fs_290_23 : fSB 290 [0] 4 23 f_290_23 := by
  unfold f_290_23
  refine fo_iconst (fa_290 rfl) fk_c_0 ?_
  exact fo_iret (fa_290 rfl) fr_290 fw_int
theorem fs_290_21 : fSB 290 [0] 4 21 f_290_21 := by
  unfold f_290_21
  refine fo_iconst (fa_290 rfl) fk_c_2 ?_
  exact fo_iret (fa_290 rfl) fr_290 fw_int
theorem fs_290_17 : fSB 290 [0] 4 17 f_290_17 := by
  unfold f_290_17
  refine fo_iconst (fa_290 rfl) fk_c_1 ?_
  exact fo_iret (fa_290 rfl) fr_290 fw_int
theorem fs_290_0 : fSB 290 [0] 4 0 f_290_0 := by
  unfold f_290_0
  refine fo_aload (k := 4) (fa_290 rfl) ?_
  refine fo_iconst (fa_290 rfl) fk_c_0 ?_
  refine fo_aload_n (k := 0) (fa_290 rfl) ?_
  refine fo_iload_n (k := 1) (fa_290 rfl) ?_
  refine fo_iload_n (k := 2) (fa_290 rfl) ?_
  refine fo_iload_n (k := 3) (fa_290 rfl) ?_
  refine fo_virtual (by decide) fna_93 (fo_callH (fa_290 rfl) fNs_virtual fsm_93 (by decide) fFil_0 fna_93 fx_93 (Or.inr (by rw [fP_93]; rfl)) (fHd_w (pc := 7) (E := 0) (q := (0, 12, 15, 0)) (by rw [fP_290]; rfl) (by rw [fP_290]; rfl) rfl fs_290_17 (fHd_w (pc := 7) (E := 1) (q := (0, 12, 19, 1)) (by rw [fP_290]; rfl) (by rw [fP_290]; rfl) rfl fs_290_21 fHd_nil)) ?_)
  refine fo_i2l (fa_290 rfl) ?_
  refine fo_lastore (fa_290 rfl) ?_
  exact fo_goto (fa_290 rfl) (pcT := 23) rfl fs_290_23
theorem fsm_290 : fSM 290 4 fm_290 := fs_methH (lp := [0]) (by decide) rfl ⟨fs_290_0, trivial⟩
theorem fP_291 : mj_P 291 = (13, 5, (some .int), mcL_distance, [(0, 12, 15, 0), (0, 12, 19, 1)]) := rfl
theorem fa_291 {pc : Nat} {e : mjE} (h : mj_at mcL_distance pc = some e) : fAt 291 pc e := by unfold fAt; rw [fP_291]; exact h
theorem fr_291 : (mj_P 291).2.2.1 = (some .int) := by rw [fP_291]
theorem fna_291 : (mj_P 291).2.1 = 5 := by rw [fP_291]
theorem fx_291 : 5 ≤ mj_mx.getD 291 0 := by decide
theorem fs_291_23 : fSB 291 [0] 4 23 f_291_23 := by
  unfold f_291_23
  refine fo_iconst (fa_291 rfl) fk_c_0 ?_
  exact fo_iret (fa_291 rfl) fr_291 fw_int
theorem fs_291_21 : fSB 291 [0] 4 21 f_291_21 := by
  unfold f_291_21
  refine fo_iconst (fa_291 rfl) fk_c_2 ?_
  exact fo_iret (fa_291 rfl) fr_291 fw_int
theorem fs_291_17 : fSB 291 [0] 4 17 f_291_17 := by
  unfold f_291_17
  refine fo_iconst (fa_291 rfl) fk_c_1 ?_
  exact fo_iret (fa_291 rfl) fr_291 fw_int
theorem fs_291_0 : fSB 291 [0] 4 0 f_291_0 := by
  unfold f_291_0
  refine fo_aload (k := 4) (fa_291 rfl) ?_
  refine fo_iconst (fa_291 rfl) fk_c_0 ?_
  refine fo_aload_n (k := 0) (fa_291 rfl) ?_
  refine fo_iload_n (k := 1) (fa_291 rfl) ?_
  refine fo_iload_n (k := 2) (fa_291 rfl) ?_
  refine fo_iload_n (k := 3) (fa_291 rfl) ?_
  refine fo_virtual (by decide) fna_94 (fo_callH (fa_291 rfl) fNs_virtual fsm_94 (by decide) fFil_0 fna_94 fx_94 (Or.inr (by rw [fP_94]; rfl)) (fHd_w (pc := 7) (E := 0) (q := (0, 12, 15, 0)) (by rw [fP_291]; rfl) (by rw [fP_291]; rfl) rfl fs_291_17 (fHd_w (pc := 7) (E := 1) (q := (0, 12, 19, 1)) (by rw [fP_291]; rfl) (by rw [fP_291]; rfl) rfl fs_291_21 fHd_nil)) ?_)
  refine fo_i2l (fa_291 rfl) ?_
  refine fo_lastore (fa_291 rfl) ?_
  exact fo_goto (fa_291 rfl) (pcT := 23) rfl fs_291_23
theorem fsm_291 : fSM 291 4 fm_291 := fs_methH (lp := [0]) (by decide) rfl ⟨fs_291_0, trivial⟩
theorem fP_292 : mj_P 292 = (13, 3, (some .int), mcL_isEven, [(0, 16, 19, 0), (0, 16, 22, 1)]) := rfl
theorem fa_292 {pc : Nat} {e : mjE} (h : mj_at mcL_isEven pc = some e) : fAt 292 pc e := by unfold fAt; rw [fP_292]; exact h
theorem fr_292 : (mj_P 292).2.2.1 = (some .int) := by rw [fP_292]
theorem fna_292 : (mj_P 292).2.1 = 3 := by rw [fP_292]
theorem fx_292 : 3 ≤ mj_mx.getD 292 0 := by decide
theorem fs_292_25 : fSB 292 [0] 5 25 f_292_25 := by
  unfold f_292_25
  refine fo_iconst (fa_292 rfl) fk_c_0 ?_
  exact fo_iret (fa_292 rfl) fr_292 fw_int
theorem fs_292_23 : fSB 292 [0] 5 23 f_292_23 := by
  unfold f_292_23
  refine fo_iconst (fa_292 rfl) fk_c_2 ?_
  exact fo_iret (fa_292 rfl) fr_292 fw_int
theorem fs_292_20 : fSB 292 [0] 5 20 f_292_20 := by
  unfold f_292_20
  refine fo_iconst (fa_292 rfl) fk_c_1 ?_
  exact fo_iret (fa_292 rfl) fr_292 fw_int
theorem fs_292_15 : fSB 292 [0] 5 15 f_292_15 := by
  unfold f_292_15
  refine fo_lastore (fa_292 rfl) ?_
  exact fo_goto (fa_292 rfl) (pcT := 25) rfl fs_292_25
theorem fs_292_14 : fSB 292 [0] 5 14 f_292_14 := by
  unfold f_292_14
  refine fo_lconst (fa_292 rfl) rfl ?_
  exact fs_292_15
theorem fs_292_0 : fSB 292 [0] 5 0 f_292_0 := by
  unfold f_292_0
  refine fo_aload_n (k := 2) (fa_292 rfl) ?_
  refine fo_iconst (fa_292 rfl) fk_c_0 ?_
  refine fo_aload_n (k := 0) (fa_292 rfl) ?_
  refine fo_iload_n (k := 1) (fa_292 rfl) ?_
  refine fo_virtual (by decide) fna_95 (fo_callH (fa_292 rfl) fNs_virtual fsm_95 (by decide) fFil_0 fna_95 fx_95 (Or.inr (by rw [fP_95]; rfl)) (fHd_n (pc := 4) (E := 0) (q := (0, 16, 19, 0)) (by rw [fP_292]; rfl) (by rw [fP_292]; rfl) rfl fs_292_20 (fHd_n (pc := 4) (E := 1) (q := (0, 16, 22, 1)) (by rw [fP_292]; rfl) (by rw [fP_292]; rfl) rfl fs_292_23 fHd_nil)) ?_)
  refine fo_if_eq (fa_292 rfl) (pcT := 14) rfl fs_292_14 ?_
  refine fo_lconst (fa_292 rfl) rfl ?_
  exact fo_goto (fa_292 rfl) (pcT := 15) rfl fs_292_15
theorem fsm_292 : fSM 292 5 fm_292 := fs_methH (lp := [0]) (by decide) rfl ⟨fs_292_0, trivial⟩
theorem fP_293 : mj_P 293 = (13, 3, (some .int), mcL_fault, [(0, 9, 12, 0), (0, 9, 15, 1)]) := rfl
theorem fa_293 {pc : Nat} {e : mjE} (h : mj_at mcL_fault pc = some e) : fAt 293 pc e := by unfold fAt; rw [fP_293]; exact h
theorem fr_293 : (mj_P 293).2.2.1 = (some .int) := by rw [fP_293]
theorem fna_293 : (mj_P 293).2.1 = 3 := by rw [fP_293]
theorem fx_293 : 3 ≤ mj_mx.getD 293 0 := by decide
theorem fs_293_18 : fSB 293 [0] 4 18 f_293_18 := by
  unfold f_293_18
  refine fo_iconst (fa_293 rfl) fk_c_0 ?_
  exact fo_iret (fa_293 rfl) fr_293 fw_int
theorem fs_293_16 : fSB 293 [0] 4 16 f_293_16 := by
  unfold f_293_16
  refine fo_iconst (fa_293 rfl) fk_c_2 ?_
  exact fo_iret (fa_293 rfl) fr_293 fw_int
theorem fs_293_13 : fSB 293 [0] 4 13 f_293_13 := by
  unfold f_293_13
  refine fo_iconst (fa_293 rfl) fk_c_1 ?_
  exact fo_iret (fa_293 rfl) fr_293 fw_int
theorem fs_293_0 : fSB 293 [0] 4 0 f_293_0 := by
  unfold f_293_0
  refine fo_aload_n (k := 2) (fa_293 rfl) ?_
  refine fo_iconst (fa_293 rfl) fk_c_0 ?_
  refine fo_aload_n (k := 0) (fa_293 rfl) ?_
  refine fo_iload_n (k := 1) (fa_293 rfl) ?_
  refine fo_virtual (by decide) fna_96 (fo_callH (fa_293 rfl) fNs_virtual fsm_96 (by decide) fFil_0 fna_96 fx_96 (Or.inr (by rw [fP_96]; rfl)) (fHd_n (pc := 4) (E := 0) (q := (0, 9, 12, 0)) (by rw [fP_293]; rfl) (by rw [fP_293]; rfl) rfl fs_293_13 (fHd_n (pc := 4) (E := 1) (q := (0, 9, 15, 1)) (by rw [fP_293]; rfl) (by rw [fP_293]; rfl) rfl fs_293_16 fHd_nil)) ?_)
  refine fo_i2l (fa_293 rfl) ?_
  refine fo_lastore (fa_293 rfl) ?_
  exact fo_goto (fa_293 rfl) (pcT := 18) rfl fs_293_18
theorem fsm_293 : fSM 293 4 fm_293 := fs_methH (lp := [0]) (by decide) rfl ⟨fs_293_0, trivial⟩
theorem fP_294 : mj_P 294 = (13, 5, (some .int), mcL_cause, [(0, 12, 15, 2)]) := rfl
theorem fa_294 {pc : Nat} {e : mjE} (h : mj_at mcL_cause pc = some e) : fAt 294 pc e := by unfold fAt; rw [fP_294]; exact h
theorem fr_294 : (mj_P 294).2.2.1 = (some .int) := by rw [fP_294]
theorem fna_294 : (mj_P 294).2.1 = 5 := by rw [fP_294]
theorem fx_294 : 5 ≤ mj_mx.getD 294 0 := by decide
theorem fs_294_19 : fSB 294 [0] 2 19 f_294_19 := by
  unfold f_294_19
  refine fo_iconst (fa_294 rfl) fk_c_0 ?_
  exact fo_iret (fa_294 rfl) fr_294 fw_int
theorem fs_294_17 : fSB 294 [0] 2 17 f_294_17 := by
  unfold f_294_17
  refine fo_iconst (fa_294 rfl) fk_c_1 ?_
  exact fo_iret (fa_294 rfl) fr_294 fw_int
theorem fs_294_0 : fSB 294 [0] 2 0 f_294_0 := by
  unfold f_294_0
  refine fo_aload (k := 4) (fa_294 rfl) ?_
  refine fo_iconst (fa_294 rfl) fk_c_0 ?_
  refine fo_aload_n (k := 0) (fa_294 rfl) ?_
  refine fo_iload_n (k := 1) (fa_294 rfl) ?_
  refine fo_iload_n (k := 2) (fa_294 rfl) ?_
  refine fo_iload_n (k := 3) (fa_294 rfl) ?_
  refine fo_virtual (by decide) fna_97 (fo_callH (fa_294 rfl) fNs_virtual fsm_97 (by decide) fFil_6 fna_97 fx_97 (Or.inr (by rw [fP_97]; rfl)) (fHd_w (pc := 7) (E := 2) (q := (0, 12, 15, 2)) (by rw [fP_294]; rfl) (by rw [fP_294]; rfl) rfl fs_294_17 fHd_nil) ?_)
  refine fo_i2l (fa_294 rfl) ?_
  refine fo_lastore (fa_294 rfl) ?_
  exact fo_goto (fa_294 rfl) (pcT := 19) rfl fs_294_19
theorem fsm_294 : fSM 294 2 fm_294 := fs_methH (lp := [0]) (by decide) rfl ⟨fs_294_0, trivial⟩
theorem fP_295 : mj_P 295 = (13, 4, (some .int), mcL_rest, [(0, 10, 13, 0), (0, 10, 17, 1), (0, 10, 21, 4)]) := rfl
theorem fa_295 {pc : Nat} {e : mjE} (h : mj_at mcL_rest pc = some e) : fAt 295 pc e := by unfold fAt; rw [fP_295]; exact h
theorem fr_295 : (mj_P 295).2.2.1 = (some .int) := by rw [fP_295]
theorem fna_295 : (mj_P 295).2.1 = 4 := by rw [fP_295]
theorem fx_295 : 4 ≤ mj_mx.getD 295 0 := by decide
theorem fs_295_25 : fSB 295 [0] 4 25 f_295_25 := by
  unfold f_295_25
  refine fo_iconst (fa_295 rfl) fk_c_0 ?_
  exact fo_iret (fa_295 rfl) fr_295 fw_int
theorem fs_295_23 : fSB 295 [0] 4 23 f_295_23 := by
  unfold f_295_23
  refine fo_iconst (fa_295 rfl) fk_c_3 ?_
  exact fo_iret (fa_295 rfl) fr_295 fw_int
theorem fs_295_19 : fSB 295 [0] 4 19 f_295_19 := by
  unfold f_295_19
  refine fo_iconst (fa_295 rfl) fk_c_2 ?_
  exact fo_iret (fa_295 rfl) fr_295 fw_int
theorem fs_295_15 : fSB 295 [0] 4 15 f_295_15 := by
  unfold f_295_15
  refine fo_iconst (fa_295 rfl) fk_c_1 ?_
  exact fo_iret (fa_295 rfl) fr_295 fw_int
theorem fs_295_0 : fSB 295 [0] 4 0 f_295_0 := by
  unfold f_295_0
  refine fo_aload_n (k := 3) (fa_295 rfl) ?_
  refine fo_iconst (fa_295 rfl) fk_c_0 ?_
  refine fo_aload_n (k := 0) (fa_295 rfl) ?_
  refine fo_iload_n (k := 1) (fa_295 rfl) ?_
  refine fo_iload_n (k := 2) (fa_295 rfl) ?_
  refine fo_virtual (by decide) fna_98 (fo_callH (fa_295 rfl) fNs_virtual fsm_98 (by decide) fFil_2 fna_98 fx_98 (Or.inr (by rw [fP_98]; rfl)) (fHd_w (pc := 5) (E := 0) (q := (0, 10, 13, 0)) (by rw [fP_295]; rfl) (by rw [fP_295]; rfl) rfl fs_295_15 (fHd_w (pc := 5) (E := 1) (q := (0, 10, 17, 1)) (by rw [fP_295]; rfl) (by rw [fP_295]; rfl) rfl fs_295_19 (fHd_w (pc := 5) (E := 4) (q := (0, 10, 21, 4)) (by rw [fP_295]; rfl) (by rw [fP_295]; rfl) rfl fs_295_23 fHd_nil))) ?_)
  refine fo_i2l (fa_295 rfl) ?_
  refine fo_lastore (fa_295 rfl) ?_
  exact fo_goto (fa_295 rfl) (pcT := 25) rfl fs_295_25
theorem fsm_295 : fSM 295 4 fm_295 := fs_methH (lp := [0]) (by decide) rfl ⟨fs_295_0, trivial⟩
theorem fP_296 : mj_P 296 = (13, 4, (some .int), mcL_dual, [(0, 10, 13, 0), (0, 10, 17, 1), (0, 10, 21, 4)]) := rfl
theorem fa_296 {pc : Nat} {e : mjE} (h : mj_at mcL_dual pc = some e) : fAt 296 pc e := by unfold fAt; rw [fP_296]; exact h
theorem fr_296 : (mj_P 296).2.2.1 = (some .int) := by rw [fP_296]
theorem fna_296 : (mj_P 296).2.1 = 4 := by rw [fP_296]
theorem fx_296 : 4 ≤ mj_mx.getD 296 0 := by decide
theorem fs_296_25 : fSB 296 [0] 4 25 f_296_25 := by
  unfold f_296_25
  refine fo_iconst (fa_296 rfl) fk_c_0 ?_
  exact fo_iret (fa_296 rfl) fr_296 fw_int
theorem fs_296_23 : fSB 296 [0] 4 23 f_296_23 := by
  unfold f_296_23
  refine fo_iconst (fa_296 rfl) fk_c_3 ?_
  exact fo_iret (fa_296 rfl) fr_296 fw_int
theorem fs_296_19 : fSB 296 [0] 4 19 f_296_19 := by
  unfold f_296_19
  refine fo_iconst (fa_296 rfl) fk_c_2 ?_
  exact fo_iret (fa_296 rfl) fr_296 fw_int
theorem fs_296_15 : fSB 296 [0] 4 15 f_296_15 := by
  unfold f_296_15
  refine fo_iconst (fa_296 rfl) fk_c_1 ?_
  exact fo_iret (fa_296 rfl) fr_296 fw_int
theorem fs_296_0 : fSB 296 [0] 4 0 f_296_0 := by
  unfold f_296_0
  refine fo_aload_n (k := 3) (fa_296 rfl) ?_
  refine fo_iconst (fa_296 rfl) fk_c_0 ?_
  refine fo_aload_n (k := 0) (fa_296 rfl) ?_
  refine fo_iload_n (k := 1) (fa_296 rfl) ?_
  refine fo_iload_n (k := 2) (fa_296 rfl) ?_
  refine fo_virtual (by decide) fna_99 (fo_callH (fa_296 rfl) fNs_virtual fsm_99 (by decide) fFil_1 fna_99 fx_99 (Or.inr (by rw [fP_99]; rfl)) (fHd_w (pc := 5) (E := 0) (q := (0, 10, 13, 0)) (by rw [fP_296]; rfl) (by rw [fP_296]; rfl) rfl fs_296_15 (fHd_w (pc := 5) (E := 1) (q := (0, 10, 17, 1)) (by rw [fP_296]; rfl) (by rw [fP_296]; rfl) rfl fs_296_19 (fHd_w (pc := 5) (E := 4) (q := (0, 10, 21, 4)) (by rw [fP_296]; rfl) (by rw [fP_296]; rfl) rfl fs_296_23 fHd_nil))) ?_)
  refine fo_i2l (fa_296 rfl) ?_
  refine fo_lastore (fa_296 rfl) ?_
  exact fo_goto (fa_296 rfl) (pcT := 25) rfl fs_296_25
theorem fsm_296 : fSM 296 4 fm_296 := fs_methH (lp := [0]) (by decide) rfl ⟨fs_296_0, trivial⟩
theorem fP_297 : mj_P 297 = (13, 6, (some .int), mcL_part, [(0, 14, 17, 0), (0, 14, 21, 1), (0, 14, 25, 4)]) := rfl
theorem fa_297 {pc : Nat} {e : mjE} (h : mj_at mcL_part pc = some e) : fAt 297 pc e := by unfold fAt; rw [fP_297]; exact h
theorem fr_297 : (mj_P 297).2.2.1 = (some .int) := by rw [fP_297]
theorem fna_297 : (mj_P 297).2.1 = 6 := by rw [fP_297]
theorem fx_297 : 6 ≤ mj_mx.getD 297 0 := by decide
theorem fs_297_29 : fSB 297 [0] 4 29 f_297_29 := by
  unfold f_297_29
  refine fo_iconst (fa_297 rfl) fk_c_0 ?_
  exact fo_iret (fa_297 rfl) fr_297 fw_int
theorem fs_297_27 : fSB 297 [0] 4 27 f_297_27 := by
  unfold f_297_27
  refine fo_iconst (fa_297 rfl) fk_c_3 ?_
  exact fo_iret (fa_297 rfl) fr_297 fw_int
theorem fs_297_23 : fSB 297 [0] 4 23 f_297_23 := by
  unfold f_297_23
  refine fo_iconst (fa_297 rfl) fk_c_2 ?_
  exact fo_iret (fa_297 rfl) fr_297 fw_int
theorem fs_297_19 : fSB 297 [0] 4 19 f_297_19 := by
  unfold f_297_19
  refine fo_iconst (fa_297 rfl) fk_c_1 ?_
  exact fo_iret (fa_297 rfl) fr_297 fw_int
theorem fs_297_0 : fSB 297 [0] 4 0 f_297_0 := by
  unfold f_297_0
  refine fo_aload (k := 5) (fa_297 rfl) ?_
  refine fo_iconst (fa_297 rfl) fk_c_0 ?_
  refine fo_aload_n (k := 0) (fa_297 rfl) ?_
  refine fo_iload_n (k := 1) (fa_297 rfl) ?_
  refine fo_iload_n (k := 2) (fa_297 rfl) ?_
  refine fo_iload_n (k := 3) (fa_297 rfl) ?_
  refine fo_iload (k := 4) (fa_297 rfl) ?_
  refine fo_virtual (by decide) fna_100 (fo_callH (fa_297 rfl) fNs_virtual fsm_100 (by decide) fFil_3 fna_100 fx_100 (Or.inr (by rw [fP_100]; rfl)) (fHd_w (pc := 9) (E := 0) (q := (0, 14, 17, 0)) (by rw [fP_297]; rfl) (by rw [fP_297]; rfl) rfl fs_297_19 (fHd_w (pc := 9) (E := 1) (q := (0, 14, 21, 1)) (by rw [fP_297]; rfl) (by rw [fP_297]; rfl) rfl fs_297_23 (fHd_w (pc := 9) (E := 4) (q := (0, 14, 25, 4)) (by rw [fP_297]; rfl) (by rw [fP_297]; rfl) rfl fs_297_27 fHd_nil))) ?_)
  refine fo_i2l (fa_297 rfl) ?_
  refine fo_lastore (fa_297 rfl) ?_
  exact fo_goto (fa_297 rfl) (pcT := 29) rfl fs_297_29
theorem fsm_297 : fSM 297 4 fm_297 := fs_methH (lp := [0]) (by decide) rfl ⟨fs_297_0, trivial⟩
theorem fP_298 : mj_P 298 = (13, 3, (some .int), mcL_covers, [(0, 9, 12, 0), (0, 9, 15, 1), (0, 9, 18, 4)]) := rfl
theorem fa_298 {pc : Nat} {e : mjE} (h : mj_at mcL_covers pc = some e) : fAt 298 pc e := by unfold fAt; rw [fP_298]; exact h
theorem fr_298 : (mj_P 298).2.2.1 = (some .int) := by rw [fP_298]
theorem fna_298 : (mj_P 298).2.1 = 3 := by rw [fP_298]
theorem fx_298 : 3 ≤ mj_mx.getD 298 0 := by decide
theorem fs_298_21 : fSB 298 [0] 5 21 f_298_21 := by
  unfold f_298_21
  refine fo_iconst (fa_298 rfl) fk_c_0 ?_
  exact fo_iret (fa_298 rfl) fr_298 fw_int
theorem fs_298_19 : fSB 298 [0] 5 19 f_298_19 := by
  unfold f_298_19
  refine fo_iconst (fa_298 rfl) fk_c_3 ?_
  exact fo_iret (fa_298 rfl) fr_298 fw_int
theorem fs_298_16 : fSB 298 [0] 5 16 f_298_16 := by
  unfold f_298_16
  refine fo_iconst (fa_298 rfl) fk_c_2 ?_
  exact fo_iret (fa_298 rfl) fr_298 fw_int
theorem fs_298_13 : fSB 298 [0] 5 13 f_298_13 := by
  unfold f_298_13
  refine fo_iconst (fa_298 rfl) fk_c_1 ?_
  exact fo_iret (fa_298 rfl) fr_298 fw_int
theorem fs_298_0 : fSB 298 [0] 5 0 f_298_0 := by
  unfold f_298_0
  refine fo_aload_n (k := 2) (fa_298 rfl) ?_
  refine fo_iconst (fa_298 rfl) fk_c_0 ?_
  refine fo_aload_n (k := 0) (fa_298 rfl) ?_
  refine fo_iload_n (k := 1) (fa_298 rfl) ?_
  refine fo_virtual (by decide) fna_101 (fo_callH (fa_298 rfl) fNs_virtual fsm_101 (by decide) fFil_0 fna_101 fx_101 (Or.inr (by rw [fP_101]; rfl)) (fHd_n (pc := 4) (E := 0) (q := (0, 9, 12, 0)) (by rw [fP_298]; rfl) (by rw [fP_298]; rfl) rfl fs_298_13 (fHd_n (pc := 4) (E := 1) (q := (0, 9, 15, 1)) (by rw [fP_298]; rfl) (by rw [fP_298]; rfl) rfl fs_298_16 (fHd_n (pc := 4) (E := 4) (q := (0, 9, 18, 4)) (by rw [fP_298]; rfl) (by rw [fP_298]; rfl) rfl fs_298_19 fHd_nil))) ?_)
  refine fo_i2l (fa_298 rfl) ?_
  refine fo_lastore (fa_298 rfl) ?_
  exact fo_goto (fa_298 rfl) (pcT := 21) rfl fs_298_21
theorem fsm_298 : fSM 298 5 fm_298 := fs_methH (lp := [0]) (by decide) rfl ⟨fs_298_0, trivial⟩
theorem fP_299 : mj_P 299 = (13, 4, (some .int), mcL_coverSize, [(0, 10, 13, 0), (0, 10, 17, 1), (0, 10, 21, 4), (0, 10, 25, 2)]) := rfl
theorem fa_299 {pc : Nat} {e : mjE} (h : mj_at mcL_coverSize pc = some e) : fAt 299 pc e := by unfold fAt; rw [fP_299]; exact h
theorem fr_299 : (mj_P 299).2.2.1 = (some .int) := by rw [fP_299]
theorem fna_299 : (mj_P 299).2.1 = 4 := by rw [fP_299]
theorem fx_299 : 4 ≤ mj_mx.getD 299 0 := by decide
theorem fs_299_29 : fSB 299 [0] 6 29 f_299_29 := by
  unfold f_299_29
  refine fo_iconst (fa_299 rfl) fk_c_0 ?_
  exact fo_iret (fa_299 rfl) fr_299 fw_int
theorem fs_299_27 : fSB 299 [0] 6 27 f_299_27 := by
  unfold f_299_27
  refine fo_iconst (fa_299 rfl) fk_c_4 ?_
  exact fo_iret (fa_299 rfl) fr_299 fw_int
theorem fs_299_23 : fSB 299 [0] 6 23 f_299_23 := by
  unfold f_299_23
  refine fo_iconst (fa_299 rfl) fk_c_3 ?_
  exact fo_iret (fa_299 rfl) fr_299 fw_int
theorem fs_299_19 : fSB 299 [0] 6 19 f_299_19 := by
  unfold f_299_19
  refine fo_iconst (fa_299 rfl) fk_c_2 ?_
  exact fo_iret (fa_299 rfl) fr_299 fw_int
theorem fs_299_15 : fSB 299 [0] 6 15 f_299_15 := by
  unfold f_299_15
  refine fo_iconst (fa_299 rfl) fk_c_1 ?_
  exact fo_iret (fa_299 rfl) fr_299 fw_int
theorem fs_299_0 : fSB 299 [0] 6 0 f_299_0 := by
  unfold f_299_0
  refine fo_aload_n (k := 3) (fa_299 rfl) ?_
  refine fo_iconst (fa_299 rfl) fk_c_0 ?_
  refine fo_aload_n (k := 0) (fa_299 rfl) ?_
  refine fo_iload_n (k := 1) (fa_299 rfl) ?_
  refine fo_iload_n (k := 2) (fa_299 rfl) ?_
  refine fo_virtual (by decide) fna_102 (fo_callH (fa_299 rfl) fNs_virtual fsm_102 (by decide) fFil_0 fna_102 fx_102 (Or.inr (by rw [fP_102]; rfl)) (fHd_w (pc := 5) (E := 0) (q := (0, 10, 13, 0)) (by rw [fP_299]; rfl) (by rw [fP_299]; rfl) rfl fs_299_15 (fHd_w (pc := 5) (E := 1) (q := (0, 10, 17, 1)) (by rw [fP_299]; rfl) (by rw [fP_299]; rfl) rfl fs_299_19 (fHd_w (pc := 5) (E := 4) (q := (0, 10, 21, 4)) (by rw [fP_299]; rfl) (by rw [fP_299]; rfl) rfl fs_299_23 (fHd_w (pc := 5) (E := 2) (q := (0, 10, 25, 2)) (by rw [fP_299]; rfl) (by rw [fP_299]; rfl) rfl fs_299_27 fHd_nil)))) ?_)
  refine fo_i2l (fa_299 rfl) ?_
  refine fo_lastore (fa_299 rfl) ?_
  exact fo_goto (fa_299 rfl) (pcT := 29) rfl fs_299_29
theorem fsm_299 : fSM 299 6 fm_299 := fs_methH (lp := [0]) (by decide) rfl ⟨fs_299_0, trivial⟩
theorem fP_300 : mj_P 300 = (13, 5, (some .int), mcL_coverAt, [(0, 12, 15, 0), (0, 12, 19, 1), (0, 12, 23, 4), (0, 12, 27, 2)]) := rfl
theorem fa_300 {pc : Nat} {e : mjE} (h : mj_at mcL_coverAt pc = some e) : fAt 300 pc e := by unfold fAt; rw [fP_300]; exact h
theorem fr_300 : (mj_P 300).2.2.1 = (some .int) := by rw [fP_300]
theorem fna_300 : (mj_P 300).2.1 = 5 := by rw [fP_300]
theorem fx_300 : 5 ≤ mj_mx.getD 300 0 := by decide
theorem fs_300_31 : fSB 300 [0] 6 31 f_300_31 := by
  unfold f_300_31
  refine fo_iconst (fa_300 rfl) fk_c_0 ?_
  exact fo_iret (fa_300 rfl) fr_300 fw_int
theorem fs_300_29 : fSB 300 [0] 6 29 f_300_29 := by
  unfold f_300_29
  refine fo_iconst (fa_300 rfl) fk_c_4 ?_
  exact fo_iret (fa_300 rfl) fr_300 fw_int
theorem fs_300_25 : fSB 300 [0] 6 25 f_300_25 := by
  unfold f_300_25
  refine fo_iconst (fa_300 rfl) fk_c_3 ?_
  exact fo_iret (fa_300 rfl) fr_300 fw_int
theorem fs_300_21 : fSB 300 [0] 6 21 f_300_21 := by
  unfold f_300_21
  refine fo_iconst (fa_300 rfl) fk_c_2 ?_
  exact fo_iret (fa_300 rfl) fr_300 fw_int
theorem fs_300_17 : fSB 300 [0] 6 17 f_300_17 := by
  unfold f_300_17
  refine fo_iconst (fa_300 rfl) fk_c_1 ?_
  exact fo_iret (fa_300 rfl) fr_300 fw_int
theorem fs_300_0 : fSB 300 [0] 6 0 f_300_0 := by
  unfold f_300_0
  refine fo_aload (k := 4) (fa_300 rfl) ?_
  refine fo_iconst (fa_300 rfl) fk_c_0 ?_
  refine fo_aload_n (k := 0) (fa_300 rfl) ?_
  refine fo_iload_n (k := 1) (fa_300 rfl) ?_
  refine fo_iload_n (k := 2) (fa_300 rfl) ?_
  refine fo_iload_n (k := 3) (fa_300 rfl) ?_
  refine fo_virtual (by decide) fna_103 (fo_callH (fa_300 rfl) fNs_virtual fsm_103 (by decide) fFil_2 fna_103 fx_103 (Or.inr (by rw [fP_103]; rfl)) (fHd_w (pc := 7) (E := 0) (q := (0, 12, 15, 0)) (by rw [fP_300]; rfl) (by rw [fP_300]; rfl) rfl fs_300_17 (fHd_w (pc := 7) (E := 1) (q := (0, 12, 19, 1)) (by rw [fP_300]; rfl) (by rw [fP_300]; rfl) rfl fs_300_21 (fHd_w (pc := 7) (E := 4) (q := (0, 12, 23, 4)) (by rw [fP_300]; rfl) (by rw [fP_300]; rfl) rfl fs_300_25 (fHd_w (pc := 7) (E := 2) (q := (0, 12, 27, 2)) (by rw [fP_300]; rfl) (by rw [fP_300]; rfl) rfl fs_300_29 fHd_nil)))) ?_)
  refine fo_i2l (fa_300 rfl) ?_
  refine fo_lastore (fa_300 rfl) ?_
  exact fo_goto (fa_300 rfl) (pcT := 31) rfl fs_300_31
theorem fsm_300 : fSM 300 6 fm_300 := fs_methH (lp := [0]) (by decide) rfl ⟨fs_300_0, trivial⟩
theorem fP_301 : mj_P 301 = (13, 3, (some .int), mcL_isParted, [(0, 16, 19, 0), (0, 16, 22, 1), (0, 16, 25, 4)]) := rfl
theorem fa_301 {pc : Nat} {e : mjE} (h : mj_at mcL_isParted pc = some e) : fAt 301 pc e := by unfold fAt; rw [fP_301]; exact h
theorem fr_301 : (mj_P 301).2.2.1 = (some .int) := by rw [fP_301]
theorem fna_301 : (mj_P 301).2.1 = 3 := by rw [fP_301]
theorem fx_301 : 3 ≤ mj_mx.getD 301 0 := by decide
theorem fs_301_28 : fSB 301 [0] 5 28 f_301_28 := by
  unfold f_301_28
  refine fo_iconst (fa_301 rfl) fk_c_0 ?_
  exact fo_iret (fa_301 rfl) fr_301 fw_int
theorem fs_301_26 : fSB 301 [0] 5 26 f_301_26 := by
  unfold f_301_26
  refine fo_iconst (fa_301 rfl) fk_c_3 ?_
  exact fo_iret (fa_301 rfl) fr_301 fw_int
theorem fs_301_23 : fSB 301 [0] 5 23 f_301_23 := by
  unfold f_301_23
  refine fo_iconst (fa_301 rfl) fk_c_2 ?_
  exact fo_iret (fa_301 rfl) fr_301 fw_int
theorem fs_301_20 : fSB 301 [0] 5 20 f_301_20 := by
  unfold f_301_20
  refine fo_iconst (fa_301 rfl) fk_c_1 ?_
  exact fo_iret (fa_301 rfl) fr_301 fw_int
theorem fs_301_15 : fSB 301 [0] 5 15 f_301_15 := by
  unfold f_301_15
  refine fo_lastore (fa_301 rfl) ?_
  exact fo_goto (fa_301 rfl) (pcT := 28) rfl fs_301_28
theorem fs_301_14 : fSB 301 [0] 5 14 f_301_14 := by
  unfold f_301_14
  refine fo_lconst (fa_301 rfl) rfl ?_
  exact fs_301_15
theorem fs_301_0 : fSB 301 [0] 5 0 f_301_0 := by
  unfold f_301_0
  refine fo_aload_n (k := 2) (fa_301 rfl) ?_
  refine fo_iconst (fa_301 rfl) fk_c_0 ?_
  refine fo_aload_n (k := 0) (fa_301 rfl) ?_
  refine fo_iload_n (k := 1) (fa_301 rfl) ?_
  refine fo_virtual (by decide) fna_104 (fo_callH (fa_301 rfl) fNs_virtual fsm_104 (by decide) fFil_1 fna_104 fx_104 (Or.inr (by rw [fP_104]; rfl)) (fHd_n (pc := 4) (E := 0) (q := (0, 16, 19, 0)) (by rw [fP_301]; rfl) (by rw [fP_301]; rfl) rfl fs_301_20 (fHd_n (pc := 4) (E := 1) (q := (0, 16, 22, 1)) (by rw [fP_301]; rfl) (by rw [fP_301]; rfl) rfl fs_301_23 (fHd_n (pc := 4) (E := 4) (q := (0, 16, 25, 4)) (by rw [fP_301]; rfl) (by rw [fP_301]; rfl) rfl fs_301_26 fHd_nil))) ?_)
  refine fo_if_eq (fa_301 rfl) (pcT := 14) rfl fs_301_14 ?_
  refine fo_lconst (fa_301 rfl) rfl ?_
  exact fo_goto (fa_301 rfl) (pcT := 15) rfl fs_301_15
theorem fsm_301 : fSM 301 5 fm_301 := fs_methH (lp := [0]) (by decide) rfl ⟨fs_301_0, trivial⟩
theorem fP_302 : mj_P 302 = (13, 3, (some .int), mcL_ways, [(0, 9, 12, 0), (0, 9, 15, 1), (0, 9, 18, 4)]) := rfl
theorem fa_302 {pc : Nat} {e : mjE} (h : mj_at mcL_ways pc = some e) : fAt 302 pc e := by unfold fAt; rw [fP_302]; exact h
theorem fr_302 : (mj_P 302).2.2.1 = (some .int) := by rw [fP_302]
theorem fna_302 : (mj_P 302).2.1 = 3 := by rw [fP_302]
theorem fx_302 : 3 ≤ mj_mx.getD 302 0 := by decide
theorem fs_302_21 : fSB 302 [0] 4 21 f_302_21 := by
  unfold f_302_21
  refine fo_iconst (fa_302 rfl) fk_c_0 ?_
  exact fo_iret (fa_302 rfl) fr_302 fw_int
theorem fs_302_19 : fSB 302 [0] 4 19 f_302_19 := by
  unfold f_302_19
  refine fo_iconst (fa_302 rfl) fk_c_3 ?_
  exact fo_iret (fa_302 rfl) fr_302 fw_int
theorem fs_302_16 : fSB 302 [0] 4 16 f_302_16 := by
  unfold f_302_16
  refine fo_iconst (fa_302 rfl) fk_c_2 ?_
  exact fo_iret (fa_302 rfl) fr_302 fw_int
theorem fs_302_13 : fSB 302 [0] 4 13 f_302_13 := by
  unfold f_302_13
  refine fo_iconst (fa_302 rfl) fk_c_1 ?_
  exact fo_iret (fa_302 rfl) fr_302 fw_int
theorem fs_302_0 : fSB 302 [0] 4 0 f_302_0 := by
  unfold f_302_0
  refine fo_aload_n (k := 2) (fa_302 rfl) ?_
  refine fo_iconst (fa_302 rfl) fk_c_0 ?_
  refine fo_aload_n (k := 0) (fa_302 rfl) ?_
  refine fo_iload_n (k := 1) (fa_302 rfl) ?_
  refine fo_virtual (by decide) fna_105 (fo_callH (fa_302 rfl) fNs_virtual fsm_105 (by decide) fFil_1 fna_105 fx_105 (Or.inr (by rw [fP_105]; rfl)) (fHd_n (pc := 4) (E := 0) (q := (0, 9, 12, 0)) (by rw [fP_302]; rfl) (by rw [fP_302]; rfl) rfl fs_302_13 (fHd_n (pc := 4) (E := 1) (q := (0, 9, 15, 1)) (by rw [fP_302]; rfl) (by rw [fP_302]; rfl) rfl fs_302_16 (fHd_n (pc := 4) (E := 4) (q := (0, 9, 18, 4)) (by rw [fP_302]; rfl) (by rw [fP_302]; rfl) rfl fs_302_19 fHd_nil))) ?_)
  refine fo_i2l (fa_302 rfl) ?_
  refine fo_lastore (fa_302 rfl) ?_
  exact fo_goto (fa_302 rfl) (pcT := 21) rfl fs_302_21
theorem fsm_302 : fSM 302 4 fm_302 := fs_methH (lp := [0]) (by decide) rfl ⟨fs_302_0, trivial⟩
theorem fP_303 : mj_P 303 = (13, 6, (some .int), mcL_shifts, [(0, 14, 17, 0), (0, 14, 21, 2)]) := rfl
theorem fa_303 {pc : Nat} {e : mjE} (h : mj_at mcL_shifts pc = some e) : fAt 303 pc e := by unfold fAt; rw [fP_303]; exact h
theorem fr_303 : (mj_P 303).2.2.1 = (some .int) := by rw [fP_303]
theorem fna_303 : (mj_P 303).2.1 = 6 := by rw [fP_303]
theorem fx_303 : 6 ≤ mj_mx.getD 303 0 := by decide
theorem fs_303_25 : fSB 303 [0] 4 25 f_303_25 := by
  unfold f_303_25
  refine fo_iconst (fa_303 rfl) fk_c_0 ?_
  exact fo_iret (fa_303 rfl) fr_303 fw_int
theorem fs_303_23 : fSB 303 [0] 4 23 f_303_23 := by
  unfold f_303_23
  refine fo_iconst (fa_303 rfl) fk_c_2 ?_
  exact fo_iret (fa_303 rfl) fr_303 fw_int
theorem fs_303_19 : fSB 303 [0] 4 19 f_303_19 := by
  unfold f_303_19
  refine fo_iconst (fa_303 rfl) fk_c_1 ?_
  exact fo_iret (fa_303 rfl) fr_303 fw_int
theorem fs_303_0 : fSB 303 [0] 4 0 f_303_0 := by
  unfold f_303_0
  refine fo_aload (k := 5) (fa_303 rfl) ?_
  refine fo_iconst (fa_303 rfl) fk_c_0 ?_
  refine fo_aload_n (k := 0) (fa_303 rfl) ?_
  refine fo_iload_n (k := 1) (fa_303 rfl) ?_
  refine fo_iload_n (k := 2) (fa_303 rfl) ?_
  refine fo_iload_n (k := 3) (fa_303 rfl) ?_
  refine fo_iload (k := 4) (fa_303 rfl) ?_
  refine fo_virtual (by decide) fna_106 (fo_callH (fa_303 rfl) fNs_virtual fsm_106 (by decide) fFil_0 fna_106 fx_106 (Or.inr (by rw [fP_106]; rfl)) (fHd_w (pc := 9) (E := 0) (q := (0, 14, 17, 0)) (by rw [fP_303]; rfl) (by rw [fP_303]; rfl) rfl fs_303_19 (fHd_w (pc := 9) (E := 2) (q := (0, 14, 21, 2)) (by rw [fP_303]; rfl) (by rw [fP_303]; rfl) rfl fs_303_23 fHd_nil)) ?_)
  refine fo_i2l (fa_303 rfl) ?_
  refine fo_lastore (fa_303 rfl) ?_
  exact fo_goto (fa_303 rfl) (pcT := 25) rfl fs_303_25
theorem fsm_303 : fSM 303 4 fm_303 := fs_methH (lp := [0]) (by decide) rfl ⟨fs_303_0, trivial⟩
theorem fP_304 : mj_P 304 = (13, 5, (some .int), mcL_field, [(0, 12, 15, 0), (0, 12, 19, 2)]) := rfl
theorem fa_304 {pc : Nat} {e : mjE} (h : mj_at mcL_field pc = some e) : fAt 304 pc e := by unfold fAt; rw [fP_304]; exact h
theorem fr_304 : (mj_P 304).2.2.1 = (some .int) := by rw [fP_304]
theorem fna_304 : (mj_P 304).2.1 = 5 := by rw [fP_304]
theorem fx_304 : 5 ≤ mj_mx.getD 304 0 := by decide
theorem fs_304_23 : fSB 304 [0] 5 23 f_304_23 := by
  unfold f_304_23
  refine fo_iconst (fa_304 rfl) fk_c_0 ?_
  exact fo_iret (fa_304 rfl) fr_304 fw_int
theorem fs_304_21 : fSB 304 [0] 5 21 f_304_21 := by
  unfold f_304_21
  refine fo_iconst (fa_304 rfl) fk_c_2 ?_
  exact fo_iret (fa_304 rfl) fr_304 fw_int
theorem fs_304_17 : fSB 304 [0] 5 17 f_304_17 := by
  unfold f_304_17
  refine fo_iconst (fa_304 rfl) fk_c_1 ?_
  exact fo_iret (fa_304 rfl) fr_304 fw_int
theorem fs_304_0 : fSB 304 [0] 5 0 f_304_0 := by
  unfold f_304_0
  refine fo_aload (k := 4) (fa_304 rfl) ?_
  refine fo_iconst (fa_304 rfl) fk_c_0 ?_
  refine fo_aload_n (k := 0) (fa_304 rfl) ?_
  refine fo_iload_n (k := 1) (fa_304 rfl) ?_
  refine fo_iload_n (k := 2) (fa_304 rfl) ?_
  refine fo_iload_n (k := 3) (fa_304 rfl) ?_
  refine fo_virtual (by decide) fna_107 (fo_callH (fa_304 rfl) fNs_virtual fsm_107 (by decide) fFil_0 fna_107 fx_107 (Or.inr (by rw [fP_107]; rfl)) (fHd_w (pc := 7) (E := 0) (q := (0, 12, 15, 0)) (by rw [fP_304]; rfl) (by rw [fP_304]; rfl) rfl fs_304_17 (fHd_w (pc := 7) (E := 2) (q := (0, 12, 19, 2)) (by rw [fP_304]; rfl) (by rw [fP_304]; rfl) rfl fs_304_21 fHd_nil)) ?_)
  refine fo_i2l (fa_304 rfl) ?_
  refine fo_lastore (fa_304 rfl) ?_
  exact fo_goto (fa_304 rfl) (pcT := 23) rfl fs_304_23
theorem fsm_304 : fSM 304 5 fm_304 := fs_methH (lp := [0]) (by decide) rfl ⟨fs_304_0, trivial⟩
theorem fP_305 : mj_P 305 = (13, 6, (some .int), mcL_setCell, [(0, 14, 17, 0), (0, 14, 21, 1), (0, 14, 25, 2)]) := rfl
theorem fa_305 {pc : Nat} {e : mjE} (h : mj_at mcL_setCell pc = some e) : fAt 305 pc e := by unfold fAt; rw [fP_305]; exact h
theorem fr_305 : (mj_P 305).2.2.1 = (some .int) := by rw [fP_305]
theorem fna_305 : (mj_P 305).2.1 = 6 := by rw [fP_305]
theorem fx_305 : 6 ≤ mj_mx.getD 305 0 := by decide
theorem fs_305_29 : fSB 305 [0] 3 29 f_305_29 := by
  unfold f_305_29
  refine fo_iconst (fa_305 rfl) fk_c_0 ?_
  exact fo_iret (fa_305 rfl) fr_305 fw_int
theorem fs_305_27 : fSB 305 [0] 3 27 f_305_27 := by
  unfold f_305_27
  refine fo_iconst (fa_305 rfl) fk_c_3 ?_
  exact fo_iret (fa_305 rfl) fr_305 fw_int
theorem fs_305_23 : fSB 305 [0] 3 23 f_305_23 := by
  unfold f_305_23
  refine fo_iconst (fa_305 rfl) fk_c_2 ?_
  exact fo_iret (fa_305 rfl) fr_305 fw_int
theorem fs_305_19 : fSB 305 [0] 3 19 f_305_19 := by
  unfold f_305_19
  refine fo_iconst (fa_305 rfl) fk_c_1 ?_
  exact fo_iret (fa_305 rfl) fr_305 fw_int
theorem fs_305_0 : fSB 305 [0] 3 0 f_305_0 := by
  unfold f_305_0
  refine fo_aload (k := 5) (fa_305 rfl) ?_
  refine fo_iconst (fa_305 rfl) fk_c_0 ?_
  refine fo_aload_n (k := 0) (fa_305 rfl) ?_
  refine fo_iload_n (k := 1) (fa_305 rfl) ?_
  refine fo_iload_n (k := 2) (fa_305 rfl) ?_
  refine fo_iload_n (k := 3) (fa_305 rfl) ?_
  refine fo_iload (k := 4) (fa_305 rfl) ?_
  refine fo_virtual (by decide) fna_108 (fo_callH (fa_305 rfl) fNs_virtual fsm_108 (by decide) fFil_2 fna_108 fx_108 (Or.inr (by rw [fP_108]; rfl)) (fHd_w (pc := 9) (E := 0) (q := (0, 14, 17, 0)) (by rw [fP_305]; rfl) (by rw [fP_305]; rfl) rfl fs_305_19 (fHd_w (pc := 9) (E := 1) (q := (0, 14, 21, 1)) (by rw [fP_305]; rfl) (by rw [fP_305]; rfl) rfl fs_305_23 (fHd_w (pc := 9) (E := 2) (q := (0, 14, 25, 2)) (by rw [fP_305]; rfl) (by rw [fP_305]; rfl) rfl fs_305_27 fHd_nil))) ?_)
  refine fo_i2l (fa_305 rfl) ?_
  refine fo_lastore (fa_305 rfl) ?_
  exact fo_goto (fa_305 rfl) (pcT := 29) rfl fs_305_29
theorem fsm_305 : fSM 305 3 fm_305 := fs_methH (lp := [0]) (by decide) rfl ⟨fs_305_0, trivial⟩
theorem fP_306 : mj_P 306 = (13, 3, (some .int), mcL_order, [(0, 9, 12, 0), (0, 9, 15, 1)]) := rfl
theorem fa_306 {pc : Nat} {e : mjE} (h : mj_at mcL_order pc = some e) : fAt 306 pc e := by unfold fAt; rw [fP_306]; exact h
theorem fr_306 : (mj_P 306).2.2.1 = (some .int) := by rw [fP_306]
theorem fna_306 : (mj_P 306).2.1 = 3 := by rw [fP_306]
theorem fx_306 : 3 ≤ mj_mx.getD 306 0 := by decide
theorem fs_306_18 : fSB 306 [0] 3 18 f_306_18 := by
  unfold f_306_18
  refine fo_iconst (fa_306 rfl) fk_c_0 ?_
  exact fo_iret (fa_306 rfl) fr_306 fw_int
theorem fs_306_16 : fSB 306 [0] 3 16 f_306_16 := by
  unfold f_306_16
  refine fo_iconst (fa_306 rfl) fk_c_2 ?_
  exact fo_iret (fa_306 rfl) fr_306 fw_int
theorem fs_306_13 : fSB 306 [0] 3 13 f_306_13 := by
  unfold f_306_13
  refine fo_iconst (fa_306 rfl) fk_c_1 ?_
  exact fo_iret (fa_306 rfl) fr_306 fw_int
theorem fs_306_0 : fSB 306 [0] 3 0 f_306_0 := by
  unfold f_306_0
  refine fo_aload_n (k := 2) (fa_306 rfl) ?_
  refine fo_iconst (fa_306 rfl) fk_c_0 ?_
  refine fo_aload_n (k := 0) (fa_306 rfl) ?_
  refine fo_iload_n (k := 1) (fa_306 rfl) ?_
  refine fo_virtual (by decide) fna_109 (fo_callH (fa_306 rfl) fNs_virtual fsm_109 (by decide) fFil_0 fna_109 fx_109 (Or.inr (by rw [fP_109]; rfl)) (fHd_n (pc := 4) (E := 0) (q := (0, 9, 12, 0)) (by rw [fP_306]; rfl) (by rw [fP_306]; rfl) rfl fs_306_13 (fHd_n (pc := 4) (E := 1) (q := (0, 9, 15, 1)) (by rw [fP_306]; rfl) (by rw [fP_306]; rfl) rfl fs_306_16 fHd_nil)) ?_)
  refine fo_i2l (fa_306 rfl) ?_
  refine fo_lastore (fa_306 rfl) ?_
  exact fo_goto (fa_306 rfl) (pcT := 18) rfl fs_306_18
theorem fsm_306 : fSM 306 3 fm_306 := fs_methH (lp := [0]) (by decide) rfl ⟨fs_306_0, trivial⟩
theorem fP_307 : mj_P 307 = (13, 5, (some .int), mcL_cell, [(0, 12, 15, 0), (0, 12, 19, 1)]) := rfl
theorem fa_307 {pc : Nat} {e : mjE} (h : mj_at mcL_cell pc = some e) : fAt 307 pc e := by unfold fAt; rw [fP_307]; exact h
theorem fr_307 : (mj_P 307).2.2.1 = (some .int) := by rw [fP_307]
theorem fna_307 : (mj_P 307).2.1 = 5 := by rw [fP_307]
theorem fx_307 : 5 ≤ mj_mx.getD 307 0 := by decide
theorem fs_307_23 : fSB 307 [0] 3 23 f_307_23 := by
  unfold f_307_23
  refine fo_iconst (fa_307 rfl) fk_c_0 ?_
  exact fo_iret (fa_307 rfl) fr_307 fw_int
theorem fs_307_21 : fSB 307 [0] 3 21 f_307_21 := by
  unfold f_307_21
  refine fo_iconst (fa_307 rfl) fk_c_2 ?_
  exact fo_iret (fa_307 rfl) fr_307 fw_int
theorem fs_307_17 : fSB 307 [0] 3 17 f_307_17 := by
  unfold f_307_17
  refine fo_iconst (fa_307 rfl) fk_c_1 ?_
  exact fo_iret (fa_307 rfl) fr_307 fw_int
theorem fs_307_0 : fSB 307 [0] 3 0 f_307_0 := by
  unfold f_307_0
  refine fo_aload (k := 4) (fa_307 rfl) ?_
  refine fo_iconst (fa_307 rfl) fk_c_0 ?_
  refine fo_aload_n (k := 0) (fa_307 rfl) ?_
  refine fo_iload_n (k := 1) (fa_307 rfl) ?_
  refine fo_iload_n (k := 2) (fa_307 rfl) ?_
  refine fo_iload_n (k := 3) (fa_307 rfl) ?_
  refine fo_virtual (by decide) fna_110 (fo_callH (fa_307 rfl) fNs_virtual fsm_110 (by decide) fFil_1 fna_110 fx_110 (Or.inr (by rw [fP_110]; rfl)) (fHd_w (pc := 7) (E := 0) (q := (0, 12, 15, 0)) (by rw [fP_307]; rfl) (by rw [fP_307]; rfl) rfl fs_307_17 (fHd_w (pc := 7) (E := 1) (q := (0, 12, 19, 1)) (by rw [fP_307]; rfl) (by rw [fP_307]; rfl) rfl fs_307_21 fHd_nil)) ?_)
  refine fo_i2l (fa_307 rfl) ?_
  refine fo_lastore (fa_307 rfl) ?_
  exact fo_goto (fa_307 rfl) (pcT := 23) rfl fs_307_23
theorem fsm_307 : fSM 307 3 fm_307 := fs_methH (lp := [0]) (by decide) rfl ⟨fs_307_0, trivial⟩
theorem fP_308 : mj_P 308 = (13, 3, (some .int), mcL_isSquare, [(0, 16, 19, 0), (0, 16, 22, 1)]) := rfl
theorem fa_308 {pc : Nat} {e : mjE} (h : mj_at mcL_isSquare pc = some e) : fAt 308 pc e := by unfold fAt; rw [fP_308]; exact h
theorem fr_308 : (mj_P 308).2.2.1 = (some .int) := by rw [fP_308]
theorem fna_308 : (mj_P 308).2.1 = 3 := by rw [fP_308]
theorem fx_308 : 3 ≤ mj_mx.getD 308 0 := by decide
theorem fs_308_25 : fSB 308 [0] 4 25 f_308_25 := by
  unfold f_308_25
  refine fo_iconst (fa_308 rfl) fk_c_0 ?_
  exact fo_iret (fa_308 rfl) fr_308 fw_int
theorem fs_308_23 : fSB 308 [0] 4 23 f_308_23 := by
  unfold f_308_23
  refine fo_iconst (fa_308 rfl) fk_c_2 ?_
  exact fo_iret (fa_308 rfl) fr_308 fw_int
theorem fs_308_20 : fSB 308 [0] 4 20 f_308_20 := by
  unfold f_308_20
  refine fo_iconst (fa_308 rfl) fk_c_1 ?_
  exact fo_iret (fa_308 rfl) fr_308 fw_int
theorem fs_308_15 : fSB 308 [0] 4 15 f_308_15 := by
  unfold f_308_15
  refine fo_lastore (fa_308 rfl) ?_
  exact fo_goto (fa_308 rfl) (pcT := 25) rfl fs_308_25
theorem fs_308_14 : fSB 308 [0] 4 14 f_308_14 := by
  unfold f_308_14
  refine fo_lconst (fa_308 rfl) rfl ?_
  exact fs_308_15
theorem fs_308_0 : fSB 308 [0] 4 0 f_308_0 := by
  unfold f_308_0
  refine fo_aload_n (k := 2) (fa_308 rfl) ?_
  refine fo_iconst (fa_308 rfl) fk_c_0 ?_
  refine fo_aload_n (k := 0) (fa_308 rfl) ?_
  refine fo_iload_n (k := 1) (fa_308 rfl) ?_
  refine fo_virtual (by decide) fna_111 (fo_callH (fa_308 rfl) fNs_virtual fsm_111 (by decide) fFil_0 fna_111 fx_111 (Or.inr (by rw [fP_111]; rfl)) (fHd_n (pc := 4) (E := 0) (q := (0, 16, 19, 0)) (by rw [fP_308]; rfl) (by rw [fP_308]; rfl) rfl fs_308_20 (fHd_n (pc := 4) (E := 1) (q := (0, 16, 22, 1)) (by rw [fP_308]; rfl) (by rw [fP_308]; rfl) rfl fs_308_23 fHd_nil)) ?_)
  refine fo_if_eq (fa_308 rfl) (pcT := 14) rfl fs_308_14 ?_
  refine fo_lconst (fa_308 rfl) rfl ?_
  exact fo_goto (fa_308 rfl) (pcT := 15) rfl fs_308_15
theorem fsm_308 : fSM 308 4 fm_308 := fs_methH (lp := [0]) (by decide) rfl ⟨fs_308_0, trivial⟩
theorem fP_309 : mj_P 309 = (13, 5, (some .int), mcL_turn, [(0, 12, 15, 0), (0, 12, 19, 1), (0, 12, 23, 4)]) := rfl
theorem fa_309 {pc : Nat} {e : mjE} (h : mj_at mcL_turn pc = some e) : fAt 309 pc e := by unfold fAt; rw [fP_309]; exact h
theorem fr_309 : (mj_P 309).2.2.1 = (some .int) := by rw [fP_309]
theorem fna_309 : (mj_P 309).2.1 = 5 := by rw [fP_309]
theorem fx_309 : 5 ≤ mj_mx.getD 309 0 := by decide
theorem fs_309_27 : fSB 309 [0] 4 27 f_309_27 := by
  unfold f_309_27
  refine fo_iconst (fa_309 rfl) fk_c_0 ?_
  exact fo_iret (fa_309 rfl) fr_309 fw_int
theorem fs_309_25 : fSB 309 [0] 4 25 f_309_25 := by
  unfold f_309_25
  refine fo_iconst (fa_309 rfl) fk_c_3 ?_
  exact fo_iret (fa_309 rfl) fr_309 fw_int
theorem fs_309_21 : fSB 309 [0] 4 21 f_309_21 := by
  unfold f_309_21
  refine fo_iconst (fa_309 rfl) fk_c_2 ?_
  exact fo_iret (fa_309 rfl) fr_309 fw_int
theorem fs_309_17 : fSB 309 [0] 4 17 f_309_17 := by
  unfold f_309_17
  refine fo_iconst (fa_309 rfl) fk_c_1 ?_
  exact fo_iret (fa_309 rfl) fr_309 fw_int
theorem fs_309_0 : fSB 309 [0] 4 0 f_309_0 := by
  unfold f_309_0
  refine fo_aload (k := 4) (fa_309 rfl) ?_
  refine fo_iconst (fa_309 rfl) fk_c_0 ?_
  refine fo_aload_n (k := 0) (fa_309 rfl) ?_
  refine fo_iload_n (k := 1) (fa_309 rfl) ?_
  refine fo_iload_n (k := 2) (fa_309 rfl) ?_
  refine fo_iload_n (k := 3) (fa_309 rfl) ?_
  refine fo_virtual (by decide) fna_112 (fo_callH (fa_309 rfl) fNs_virtual fsm_112 (by decide) fFil_1 fna_112 fx_112 (Or.inr (by rw [fP_112]; rfl)) (fHd_w (pc := 7) (E := 0) (q := (0, 12, 15, 0)) (by rw [fP_309]; rfl) (by rw [fP_309]; rfl) rfl fs_309_17 (fHd_w (pc := 7) (E := 1) (q := (0, 12, 19, 1)) (by rw [fP_309]; rfl) (by rw [fP_309]; rfl) rfl fs_309_21 (fHd_w (pc := 7) (E := 4) (q := (0, 12, 23, 4)) (by rw [fP_309]; rfl) (by rw [fP_309]; rfl) rfl fs_309_25 fHd_nil))) ?_)
  refine fo_i2l (fa_309 rfl) ?_
  refine fo_lastore (fa_309 rfl) ?_
  exact fo_goto (fa_309 rfl) (pcT := 27) rfl fs_309_27
theorem fsm_309 : fSM 309 4 fm_309 := fs_methH (lp := [0]) (by decide) rfl ⟨fs_309_0, trivial⟩
theorem fP_310 : mj_P 310 = (13, 4, (some .int), mcL_areApart, [(0, 17, 20, 0), (0, 17, 24, 1), (0, 17, 28, 4)]) := rfl
theorem fa_310 {pc : Nat} {e : mjE} (h : mj_at mcL_areApart pc = some e) : fAt 310 pc e := by unfold fAt; rw [fP_310]; exact h
theorem fr_310 : (mj_P 310).2.2.1 = (some .int) := by rw [fP_310]
theorem fna_310 : (mj_P 310).2.1 = 4 := by rw [fP_310]
theorem fx_310 : 4 ≤ mj_mx.getD 310 0 := by decide
theorem fs_310_32 : fSB 310 [0] 4 32 f_310_32 := by
  unfold f_310_32
  refine fo_iconst (fa_310 rfl) fk_c_0 ?_
  exact fo_iret (fa_310 rfl) fr_310 fw_int
theorem fs_310_30 : fSB 310 [0] 4 30 f_310_30 := by
  unfold f_310_30
  refine fo_iconst (fa_310 rfl) fk_c_3 ?_
  exact fo_iret (fa_310 rfl) fr_310 fw_int
theorem fs_310_26 : fSB 310 [0] 4 26 f_310_26 := by
  unfold f_310_26
  refine fo_iconst (fa_310 rfl) fk_c_2 ?_
  exact fo_iret (fa_310 rfl) fr_310 fw_int
theorem fs_310_22 : fSB 310 [0] 4 22 f_310_22 := by
  unfold f_310_22
  refine fo_iconst (fa_310 rfl) fk_c_1 ?_
  exact fo_iret (fa_310 rfl) fr_310 fw_int
theorem fs_310_16 : fSB 310 [0] 4 16 f_310_16 := by
  unfold f_310_16
  refine fo_lastore (fa_310 rfl) ?_
  exact fo_goto (fa_310 rfl) (pcT := 32) rfl fs_310_32
theorem fs_310_15 : fSB 310 [0] 4 15 f_310_15 := by
  unfold f_310_15
  refine fo_lconst (fa_310 rfl) rfl ?_
  exact fs_310_16
theorem fs_310_0 : fSB 310 [0] 4 0 f_310_0 := by
  unfold f_310_0
  refine fo_aload_n (k := 3) (fa_310 rfl) ?_
  refine fo_iconst (fa_310 rfl) fk_c_0 ?_
  refine fo_aload_n (k := 0) (fa_310 rfl) ?_
  refine fo_iload_n (k := 1) (fa_310 rfl) ?_
  refine fo_iload_n (k := 2) (fa_310 rfl) ?_
  refine fo_virtual (by decide) fna_113 (fo_callH (fa_310 rfl) fNs_virtual fsm_113 (by decide) fFil_2 fna_113 fx_113 (Or.inr (by rw [fP_113]; rfl)) (fHd_w (pc := 5) (E := 0) (q := (0, 17, 20, 0)) (by rw [fP_310]; rfl) (by rw [fP_310]; rfl) rfl fs_310_22 (fHd_w (pc := 5) (E := 1) (q := (0, 17, 24, 1)) (by rw [fP_310]; rfl) (by rw [fP_310]; rfl) rfl fs_310_26 (fHd_w (pc := 5) (E := 4) (q := (0, 17, 28, 4)) (by rw [fP_310]; rfl) (by rw [fP_310]; rfl) rfl fs_310_30 fHd_nil))) ?_)
  refine fo_if_eq (fa_310 rfl) (pcT := 15) rfl fs_310_15 ?_
  refine fo_lconst (fa_310 rfl) rfl ?_
  exact fo_goto (fa_310 rfl) (pcT := 16) rfl fs_310_16
theorem fsm_310 : fSM 310 4 fm_310 := fs_methH (lp := [0]) (by decide) rfl ⟨fs_310_0, trivial⟩
theorem fP_311 : mj_P 311 = (13, 3, (some .int), mcL_transversals, [(0, 9, 12, 0), (0, 9, 15, 1), (0, 9, 18, 4)]) := rfl
theorem fa_311 {pc : Nat} {e : mjE} (h : mj_at mcL_transversals pc = some e) : fAt 311 pc e := by unfold fAt; rw [fP_311]; exact h
theorem fr_311 : (mj_P 311).2.2.1 = (some .int) := by rw [fP_311]
theorem fna_311 : (mj_P 311).2.1 = 3 := by rw [fP_311]
theorem fx_311 : 3 ≤ mj_mx.getD 311 0 := by decide
theorem fs_311_21 : fSB 311 [0] 4 21 f_311_21 := by
  unfold f_311_21
  refine fo_iconst (fa_311 rfl) fk_c_0 ?_
  exact fo_iret (fa_311 rfl) fr_311 fw_int
theorem fs_311_19 : fSB 311 [0] 4 19 f_311_19 := by
  unfold f_311_19
  refine fo_iconst (fa_311 rfl) fk_c_3 ?_
  exact fo_iret (fa_311 rfl) fr_311 fw_int
theorem fs_311_16 : fSB 311 [0] 4 16 f_311_16 := by
  unfold f_311_16
  refine fo_iconst (fa_311 rfl) fk_c_2 ?_
  exact fo_iret (fa_311 rfl) fr_311 fw_int
theorem fs_311_13 : fSB 311 [0] 4 13 f_311_13 := by
  unfold f_311_13
  refine fo_iconst (fa_311 rfl) fk_c_1 ?_
  exact fo_iret (fa_311 rfl) fr_311 fw_int
theorem fs_311_0 : fSB 311 [0] 4 0 f_311_0 := by
  unfold f_311_0
  refine fo_aload_n (k := 2) (fa_311 rfl) ?_
  refine fo_iconst (fa_311 rfl) fk_c_0 ?_
  refine fo_aload_n (k := 0) (fa_311 rfl) ?_
  refine fo_iload_n (k := 1) (fa_311 rfl) ?_
  refine fo_virtual (by decide) fna_114 (fo_callH (fa_311 rfl) fNs_virtual fsm_114 (by decide) fFil_1 fna_114 fx_114 (Or.inr (by rw [fP_114]; rfl)) (fHd_n (pc := 4) (E := 0) (q := (0, 9, 12, 0)) (by rw [fP_311]; rfl) (by rw [fP_311]; rfl) rfl fs_311_13 (fHd_n (pc := 4) (E := 1) (q := (0, 9, 15, 1)) (by rw [fP_311]; rfl) (by rw [fP_311]; rfl) rfl fs_311_16 (fHd_n (pc := 4) (E := 4) (q := (0, 9, 18, 4)) (by rw [fP_311]; rfl) (by rw [fP_311]; rfl) rfl fs_311_19 fHd_nil))) ?_)
  refine fo_i2l (fa_311 rfl) ?_
  refine fo_lastore (fa_311 rfl) ?_
  exact fo_goto (fa_311 rfl) (pcT := 21) rfl fs_311_21
theorem fsm_311 : fSM 311 4 fm_311 := fs_methH (lp := [0]) (by decide) rfl ⟨fs_311_0, trivial⟩
theorem fP_312 : mj_P 312 = (13, 4, (some .int), mcL_planeOf, [(0, 10, 13, 0), (0, 10, 17, 1), (0, 10, 21, 4)]) := rfl
theorem fa_312 {pc : Nat} {e : mjE} (h : mj_at mcL_planeOf pc = some e) : fAt 312 pc e := by unfold fAt; rw [fP_312]; exact h
theorem fr_312 : (mj_P 312).2.2.1 = (some .int) := by rw [fP_312]
theorem fna_312 : (mj_P 312).2.1 = 4 := by rw [fP_312]
theorem fx_312 : 4 ≤ mj_mx.getD 312 0 := by decide
theorem fs_312_25 : fSB 312 [0] 5 25 f_312_25 := by
  unfold f_312_25
  refine fo_iconst (fa_312 rfl) fk_c_0 ?_
  exact fo_iret (fa_312 rfl) fr_312 fw_int
theorem fs_312_23 : fSB 312 [0] 5 23 f_312_23 := by
  unfold f_312_23
  refine fo_iconst (fa_312 rfl) fk_c_3 ?_
  exact fo_iret (fa_312 rfl) fr_312 fw_int
theorem fs_312_19 : fSB 312 [0] 5 19 f_312_19 := by
  unfold f_312_19
  refine fo_iconst (fa_312 rfl) fk_c_2 ?_
  exact fo_iret (fa_312 rfl) fr_312 fw_int
theorem fs_312_15 : fSB 312 [0] 5 15 f_312_15 := by
  unfold f_312_15
  refine fo_iconst (fa_312 rfl) fk_c_1 ?_
  exact fo_iret (fa_312 rfl) fr_312 fw_int
theorem fs_312_0 : fSB 312 [0] 5 0 f_312_0 := by
  unfold f_312_0
  refine fo_aload_n (k := 3) (fa_312 rfl) ?_
  refine fo_iconst (fa_312 rfl) fk_c_0 ?_
  refine fo_aload_n (k := 0) (fa_312 rfl) ?_
  refine fo_iload_n (k := 1) (fa_312 rfl) ?_
  refine fo_iload_n (k := 2) (fa_312 rfl) ?_
  refine fo_virtual (by decide) fna_115 (fo_callH (fa_312 rfl) fNs_virtual fsm_115 (by decide) fFil_2 fna_115 fx_115 (Or.inr (by rw [fP_115]; rfl)) (fHd_w (pc := 5) (E := 0) (q := (0, 10, 13, 0)) (by rw [fP_312]; rfl) (by rw [fP_312]; rfl) rfl fs_312_15 (fHd_w (pc := 5) (E := 1) (q := (0, 10, 17, 1)) (by rw [fP_312]; rfl) (by rw [fP_312]; rfl) rfl fs_312_19 (fHd_w (pc := 5) (E := 4) (q := (0, 10, 21, 4)) (by rw [fP_312]; rfl) (by rw [fP_312]; rfl) rfl fs_312_23 fHd_nil))) ?_)
  refine fo_i2l (fa_312 rfl) ?_
  refine fo_lastore (fa_312 rfl) ?_
  exact fo_goto (fa_312 rfl) (pcT := 25) rfl fs_312_25
theorem fsm_312 : fSM 312 5 fm_312 := fs_methH (lp := [0]) (by decide) rfl ⟨fs_312_0, trivial⟩
theorem fP_313 : mj_P 313 = (13, 4, (some .int), mcL_doubled, [(0, 10, 13, 0), (0, 10, 17, 2)]) := rfl
theorem fa_313 {pc : Nat} {e : mjE} (h : mj_at mcL_doubled pc = some e) : fAt 313 pc e := by unfold fAt; rw [fP_313]; exact h
theorem fr_313 : (mj_P 313).2.2.1 = (some .int) := by rw [fP_313]
theorem fna_313 : (mj_P 313).2.1 = 4 := by rw [fP_313]
theorem fx_313 : 4 ≤ mj_mx.getD 313 0 := by decide
theorem fs_313_21 : fSB 313 [0] 4 21 f_313_21 := by
  unfold f_313_21
  refine fo_iconst (fa_313 rfl) fk_c_0 ?_
  exact fo_iret (fa_313 rfl) fr_313 fw_int
theorem fs_313_19 : fSB 313 [0] 4 19 f_313_19 := by
  unfold f_313_19
  refine fo_iconst (fa_313 rfl) fk_c_2 ?_
  exact fo_iret (fa_313 rfl) fr_313 fw_int
theorem fs_313_15 : fSB 313 [0] 4 15 f_313_15 := by
  unfold f_313_15
  refine fo_iconst (fa_313 rfl) fk_c_1 ?_
  exact fo_iret (fa_313 rfl) fr_313 fw_int
theorem fs_313_0 : fSB 313 [0] 4 0 f_313_0 := by
  unfold f_313_0
  refine fo_aload_n (k := 3) (fa_313 rfl) ?_
  refine fo_iconst (fa_313 rfl) fk_c_0 ?_
  refine fo_aload_n (k := 0) (fa_313 rfl) ?_
  refine fo_iload_n (k := 1) (fa_313 rfl) ?_
  refine fo_iload_n (k := 2) (fa_313 rfl) ?_
  refine fo_virtual (by decide) fna_116 (fo_callH (fa_313 rfl) fNs_virtual fsm_116 (by decide) fFil_0 fna_116 fx_116 (Or.inr (by rw [fP_116]; rfl)) (fHd_w (pc := 5) (E := 0) (q := (0, 10, 13, 0)) (by rw [fP_313]; rfl) (by rw [fP_313]; rfl) rfl fs_313_15 (fHd_w (pc := 5) (E := 2) (q := (0, 10, 17, 2)) (by rw [fP_313]; rfl) (by rw [fP_313]; rfl) rfl fs_313_19 fHd_nil)) ?_)
  refine fo_i2l (fa_313 rfl) ?_
  refine fo_lastore (fa_313 rfl) ?_
  exact fo_goto (fa_313 rfl) (pcT := 21) rfl fs_313_21
theorem fsm_313 : fSM 313 4 fm_313 := fs_methH (lp := [0]) (by decide) rfl ⟨fs_313_0, trivial⟩
theorem fP_314 : mj_P 314 = (13, 4, (some .int), mcL_primes, [(0, 10, 13, 0), (0, 10, 17, 2)]) := rfl
theorem fa_314 {pc : Nat} {e : mjE} (h : mj_at mcL_primes pc = some e) : fAt 314 pc e := by unfold fAt; rw [fP_314]; exact h
theorem fr_314 : (mj_P 314).2.2.1 = (some .int) := by rw [fP_314]
theorem fna_314 : (mj_P 314).2.1 = 4 := by rw [fP_314]
theorem fx_314 : 4 ≤ mj_mx.getD 314 0 := by decide
theorem fs_314_21 : fSB 314 [0] 4 21 f_314_21 := by
  unfold f_314_21
  refine fo_iconst (fa_314 rfl) fk_c_0 ?_
  exact fo_iret (fa_314 rfl) fr_314 fw_int
theorem fs_314_19 : fSB 314 [0] 4 19 f_314_19 := by
  unfold f_314_19
  refine fo_iconst (fa_314 rfl) fk_c_2 ?_
  exact fo_iret (fa_314 rfl) fr_314 fw_int
theorem fs_314_15 : fSB 314 [0] 4 15 f_314_15 := by
  unfold f_314_15
  refine fo_iconst (fa_314 rfl) fk_c_1 ?_
  exact fo_iret (fa_314 rfl) fr_314 fw_int
theorem fs_314_0 : fSB 314 [0] 4 0 f_314_0 := by
  unfold f_314_0
  refine fo_aload_n (k := 3) (fa_314 rfl) ?_
  refine fo_iconst (fa_314 rfl) fk_c_0 ?_
  refine fo_aload_n (k := 0) (fa_314 rfl) ?_
  refine fo_iload_n (k := 1) (fa_314 rfl) ?_
  refine fo_iload_n (k := 2) (fa_314 rfl) ?_
  refine fo_virtual (by decide) fna_117 (fo_callH (fa_314 rfl) fNs_virtual fsm_117 (by decide) fFil_0 fna_117 fx_117 (Or.inr (by rw [fP_117]; rfl)) (fHd_w (pc := 5) (E := 0) (q := (0, 10, 13, 0)) (by rw [fP_314]; rfl) (by rw [fP_314]; rfl) rfl fs_314_15 (fHd_w (pc := 5) (E := 2) (q := (0, 10, 17, 2)) (by rw [fP_314]; rfl) (by rw [fP_314]; rfl) rfl fs_314_19 fHd_nil)) ?_)
  refine fo_i2l (fa_314 rfl) ?_
  refine fo_lastore (fa_314 rfl) ?_
  exact fo_goto (fa_314 rfl) (pcT := 21) rfl fs_314_21
theorem fsm_314 : fSM 314 4 fm_314 := fs_methH (lp := [0]) (by decide) rfl ⟨fs_314_0, trivial⟩
theorem fP_315 : mj_P 315 = (13, 5, (some .int), mcL_sign, [(0, 12, 15, 0), (0, 12, 19, 1)]) := rfl
theorem fa_315 {pc : Nat} {e : mjE} (h : mj_at mcL_sign pc = some e) : fAt 315 pc e := by unfold fAt; rw [fP_315]; exact h
theorem fr_315 : (mj_P 315).2.2.1 = (some .int) := by rw [fP_315]
theorem fna_315 : (mj_P 315).2.1 = 5 := by rw [fP_315]
theorem fx_315 : 5 ≤ mj_mx.getD 315 0 := by decide
theorem fs_315_23 : fSB 315 [0] 3 23 f_315_23 := by
  unfold f_315_23
  refine fo_iconst (fa_315 rfl) fk_c_0 ?_
  exact fo_iret (fa_315 rfl) fr_315 fw_int
theorem fs_315_21 : fSB 315 [0] 3 21 f_315_21 := by
  unfold f_315_21
  refine fo_iconst (fa_315 rfl) fk_c_2 ?_
  exact fo_iret (fa_315 rfl) fr_315 fw_int
theorem fs_315_17 : fSB 315 [0] 3 17 f_315_17 := by
  unfold f_315_17
  refine fo_iconst (fa_315 rfl) fk_c_1 ?_
  exact fo_iret (fa_315 rfl) fr_315 fw_int
theorem fs_315_0 : fSB 315 [0] 3 0 f_315_0 := by
  unfold f_315_0
  refine fo_aload (k := 4) (fa_315 rfl) ?_
  refine fo_iconst (fa_315 rfl) fk_c_0 ?_
  refine fo_aload_n (k := 0) (fa_315 rfl) ?_
  refine fo_iload_n (k := 1) (fa_315 rfl) ?_
  refine fo_iload_n (k := 2) (fa_315 rfl) ?_
  refine fo_iload_n (k := 3) (fa_315 rfl) ?_
  refine fo_virtual (by decide) fna_118 (fo_callH (fa_315 rfl) fNs_virtual fsm_118 (by decide) fFil_1 fna_118 fx_118 (Or.inr (by rw [fP_118]; rfl)) (fHd_w (pc := 7) (E := 0) (q := (0, 12, 15, 0)) (by rw [fP_315]; rfl) (by rw [fP_315]; rfl) rfl fs_315_17 (fHd_w (pc := 7) (E := 1) (q := (0, 12, 19, 1)) (by rw [fP_315]; rfl) (by rw [fP_315]; rfl) rfl fs_315_21 fHd_nil)) ?_)
  refine fo_i2l (fa_315 rfl) ?_
  refine fo_lastore (fa_315 rfl) ?_
  exact fo_goto (fa_315 rfl) (pcT := 23) rfl fs_315_23
theorem fsm_315 : fSM 315 3 fm_315 := fs_methH (lp := [0]) (by decide) rfl ⟨fs_315_0, trivial⟩
theorem fP_316 : mj_P 316 = (13, 5, (some .int), mcL_flip, [(0, 12, 15, 0), (0, 12, 19, 1)]) := rfl
theorem fa_316 {pc : Nat} {e : mjE} (h : mj_at mcL_flip pc = some e) : fAt 316 pc e := by unfold fAt; rw [fP_316]; exact h
theorem fr_316 : (mj_P 316).2.2.1 = (some .int) := by rw [fP_316]
theorem fna_316 : (mj_P 316).2.1 = 5 := by rw [fP_316]
theorem fx_316 : 5 ≤ mj_mx.getD 316 0 := by decide
theorem fs_316_23 : fSB 316 [0] 3 23 f_316_23 := by
  unfold f_316_23
  refine fo_iconst (fa_316 rfl) fk_c_0 ?_
  exact fo_iret (fa_316 rfl) fr_316 fw_int
theorem fs_316_21 : fSB 316 [0] 3 21 f_316_21 := by
  unfold f_316_21
  refine fo_iconst (fa_316 rfl) fk_c_2 ?_
  exact fo_iret (fa_316 rfl) fr_316 fw_int
theorem fs_316_17 : fSB 316 [0] 3 17 f_316_17 := by
  unfold f_316_17
  refine fo_iconst (fa_316 rfl) fk_c_1 ?_
  exact fo_iret (fa_316 rfl) fr_316 fw_int
theorem fs_316_0 : fSB 316 [0] 3 0 f_316_0 := by
  unfold f_316_0
  refine fo_aload (k := 4) (fa_316 rfl) ?_
  refine fo_iconst (fa_316 rfl) fk_c_0 ?_
  refine fo_aload_n (k := 0) (fa_316 rfl) ?_
  refine fo_iload_n (k := 1) (fa_316 rfl) ?_
  refine fo_iload_n (k := 2) (fa_316 rfl) ?_
  refine fo_iload_n (k := 3) (fa_316 rfl) ?_
  refine fo_virtual (by decide) fna_119 (fo_callH (fa_316 rfl) fNs_virtual fsm_119 (by decide) fFil_1 fna_119 fx_119 (Or.inr (by rw [fP_119]; rfl)) (fHd_w (pc := 7) (E := 0) (q := (0, 12, 15, 0)) (by rw [fP_316]; rfl) (by rw [fP_316]; rfl) rfl fs_316_17 (fHd_w (pc := 7) (E := 1) (q := (0, 12, 19, 1)) (by rw [fP_316]; rfl) (by rw [fP_316]; rfl) rfl fs_316_21 fHd_nil)) ?_)
  refine fo_i2l (fa_316 rfl) ?_
  refine fo_lastore (fa_316 rfl) ?_
  exact fo_goto (fa_316 rfl) (pcT := 23) rfl fs_316_23
theorem fsm_316 : fSM 316 3 fm_316 := fs_methH (lp := [0]) (by decide) rfl ⟨fs_316_0, trivial⟩
theorem fP_317 : mj_P 317 = (13, 3, (some .int), mcL_areRowsApart, [(0, 16, 19, 0), (0, 16, 22, 1)]) := rfl
theorem fa_317 {pc : Nat} {e : mjE} (h : mj_at mcL_areRowsApart pc = some e) : fAt 317 pc e := by unfold fAt; rw [fP_317]; exact h
theorem fr_317 : (mj_P 317).2.2.1 = (some .int) := by rw [fP_317]
theorem fna_317 : (mj_P 317).2.1 = 3 := by rw [fP_317]
theorem fx_317 : 3 ≤ mj_mx.getD 317 0 := by decide
theorem fs_317_25 : fSB 317 [0] 3 25 f_317_25 := by
  unfold f_317_25
  refine fo_iconst (fa_317 rfl) fk_c_0 ?_
  exact fo_iret (fa_317 rfl) fr_317 fw_int
theorem fs_317_23 : fSB 317 [0] 3 23 f_317_23 := by
  unfold f_317_23
  refine fo_iconst (fa_317 rfl) fk_c_2 ?_
  exact fo_iret (fa_317 rfl) fr_317 fw_int
theorem fs_317_20 : fSB 317 [0] 3 20 f_317_20 := by
  unfold f_317_20
  refine fo_iconst (fa_317 rfl) fk_c_1 ?_
  exact fo_iret (fa_317 rfl) fr_317 fw_int
theorem fs_317_15 : fSB 317 [0] 3 15 f_317_15 := by
  unfold f_317_15
  refine fo_lastore (fa_317 rfl) ?_
  exact fo_goto (fa_317 rfl) (pcT := 25) rfl fs_317_25
theorem fs_317_14 : fSB 317 [0] 3 14 f_317_14 := by
  unfold f_317_14
  refine fo_lconst (fa_317 rfl) rfl ?_
  exact fs_317_15
theorem fs_317_0 : fSB 317 [0] 3 0 f_317_0 := by
  unfold f_317_0
  refine fo_aload_n (k := 2) (fa_317 rfl) ?_
  refine fo_iconst (fa_317 rfl) fk_c_0 ?_
  refine fo_aload_n (k := 0) (fa_317 rfl) ?_
  refine fo_iload_n (k := 1) (fa_317 rfl) ?_
  refine fo_virtual (by decide) fna_120 (fo_callH (fa_317 rfl) fNs_virtual fsm_120 (by decide) fFil_0 fna_120 fx_120 (Or.inr (by rw [fP_120]; rfl)) (fHd_n (pc := 4) (E := 0) (q := (0, 16, 19, 0)) (by rw [fP_317]; rfl) (by rw [fP_317]; rfl) rfl fs_317_20 (fHd_n (pc := 4) (E := 1) (q := (0, 16, 22, 1)) (by rw [fP_317]; rfl) (by rw [fP_317]; rfl) rfl fs_317_23 fHd_nil)) ?_)
  refine fo_if_eq (fa_317 rfl) (pcT := 14) rfl fs_317_14 ?_
  refine fo_lconst (fa_317 rfl) rfl ?_
  exact fo_goto (fa_317 rfl) (pcT := 15) rfl fs_317_15
theorem fsm_317 : fSM 317 3 fm_317 := fs_methH (lp := [0]) (by decide) rfl ⟨fs_317_0, trivial⟩
theorem fP_318 : mj_P 318 = (13, 4, (some .int), mcL_designOf, [(0, 10, 13, 0), (0, 10, 17, 1), (0, 10, 21, 4)]) := rfl
theorem fa_318 {pc : Nat} {e : mjE} (h : mj_at mcL_designOf pc = some e) : fAt 318 pc e := by unfold fAt; rw [fP_318]; exact h
theorem fr_318 : (mj_P 318).2.2.1 = (some .int) := by rw [fP_318]
theorem fna_318 : (mj_P 318).2.1 = 4 := by rw [fP_318]
theorem fx_318 : 4 ≤ mj_mx.getD 318 0 := by decide
theorem fs_318_25 : fSB 318 [0] 4 25 f_318_25 := by
  unfold f_318_25
  refine fo_iconst (fa_318 rfl) fk_c_0 ?_
  exact fo_iret (fa_318 rfl) fr_318 fw_int
theorem fs_318_23 : fSB 318 [0] 4 23 f_318_23 := by
  unfold f_318_23
  refine fo_iconst (fa_318 rfl) fk_c_3 ?_
  exact fo_iret (fa_318 rfl) fr_318 fw_int
theorem fs_318_19 : fSB 318 [0] 4 19 f_318_19 := by
  unfold f_318_19
  refine fo_iconst (fa_318 rfl) fk_c_2 ?_
  exact fo_iret (fa_318 rfl) fr_318 fw_int
theorem fs_318_15 : fSB 318 [0] 4 15 f_318_15 := by
  unfold f_318_15
  refine fo_iconst (fa_318 rfl) fk_c_1 ?_
  exact fo_iret (fa_318 rfl) fr_318 fw_int
theorem fs_318_0 : fSB 318 [0] 4 0 f_318_0 := by
  unfold f_318_0
  refine fo_aload_n (k := 3) (fa_318 rfl) ?_
  refine fo_iconst (fa_318 rfl) fk_c_0 ?_
  refine fo_aload_n (k := 0) (fa_318 rfl) ?_
  refine fo_iload_n (k := 1) (fa_318 rfl) ?_
  refine fo_iload_n (k := 2) (fa_318 rfl) ?_
  refine fo_virtual (by decide) fna_121 (fo_callH (fa_318 rfl) fNs_virtual fsm_121 (by decide) fFil_2 fna_121 fx_121 (Or.inr (by rw [fP_121]; rfl)) (fHd_w (pc := 5) (E := 0) (q := (0, 10, 13, 0)) (by rw [fP_318]; rfl) (by rw [fP_318]; rfl) rfl fs_318_15 (fHd_w (pc := 5) (E := 1) (q := (0, 10, 17, 1)) (by rw [fP_318]; rfl) (by rw [fP_318]; rfl) rfl fs_318_19 (fHd_w (pc := 5) (E := 4) (q := (0, 10, 21, 4)) (by rw [fP_318]; rfl) (by rw [fP_318]; rfl) rfl fs_318_23 fHd_nil))) ?_)
  refine fo_i2l (fa_318 rfl) ?_
  refine fo_lastore (fa_318 rfl) ?_
  exact fo_goto (fa_318 rfl) (pcT := 25) rfl fs_318_25
theorem fsm_318 : fSM 318 4 fm_318 := fs_methH (lp := [0]) (by decide) rfl ⟨fs_318_0, trivial⟩
theorem fP_319 : mj_P 319 = (13, 5, (some .int), mcL_plays, [(0, 12, 15, 2)]) := rfl
theorem fa_319 {pc : Nat} {e : mjE} (h : mj_at mcL_plays pc = some e) : fAt 319 pc e := by unfold fAt; rw [fP_319]; exact h
theorem fr_319 : (mj_P 319).2.2.1 = (some .int) := by rw [fP_319]
theorem fna_319 : (mj_P 319).2.1 = 5 := by rw [fP_319]
theorem fx_319 : 5 ≤ mj_mx.getD 319 0 := by decide
theorem fs_319_19 : fSB 319 [0] 4 19 f_319_19 := by
  unfold f_319_19
  refine fo_iconst (fa_319 rfl) fk_c_0 ?_
  exact fo_iret (fa_319 rfl) fr_319 fw_int
theorem fs_319_17 : fSB 319 [0] 4 17 f_319_17 := by
  unfold f_319_17
  refine fo_iconst (fa_319 rfl) fk_c_1 ?_
  exact fo_iret (fa_319 rfl) fr_319 fw_int
theorem fs_319_0 : fSB 319 [0] 4 0 f_319_0 := by
  unfold f_319_0
  refine fo_aload (k := 4) (fa_319 rfl) ?_
  refine fo_iconst (fa_319 rfl) fk_c_0 ?_
  refine fo_aload_n (k := 0) (fa_319 rfl) ?_
  refine fo_iload_n (k := 1) (fa_319 rfl) ?_
  refine fo_iload_n (k := 2) (fa_319 rfl) ?_
  refine fo_iload_n (k := 3) (fa_319 rfl) ?_
  refine fo_virtual (by decide) fna_122 (fo_callH (fa_319 rfl) fNs_virtual fsm_122 (by decide) fFil_0 fna_122 fx_122 (Or.inr (by rw [fP_122]; rfl)) (fHd_w (pc := 7) (E := 2) (q := (0, 12, 15, 2)) (by rw [fP_319]; rfl) (by rw [fP_319]; rfl) rfl fs_319_17 fHd_nil) ?_)
  refine fo_i2l (fa_319 rfl) ?_
  refine fo_lastore (fa_319 rfl) ?_
  exact fo_goto (fa_319 rfl) (pcT := 19) rfl fs_319_19
theorem fsm_319 : fSM 319 4 fm_319 := fs_methH (lp := [0]) (by decide) rfl ⟨fs_319_0, trivial⟩
theorem fP_320 : mj_P 320 = (13, 5, (some .int), mcL_isHome, [(0, 19, 22, 2)]) := rfl
theorem fa_320 {pc : Nat} {e : mjE} (h : mj_at mcL_isHome pc = some e) : fAt 320 pc e := by unfold fAt; rw [fP_320]; exact h
theorem fr_320 : (mj_P 320).2.2.1 = (some .int) := by rw [fP_320]
theorem fna_320 : (mj_P 320).2.1 = 5 := by rw [fP_320]
theorem fx_320 : 5 ≤ mj_mx.getD 320 0 := by decide
theorem fs_320_26 : fSB 320 [0] 5 26 f_320_26 := by
  unfold f_320_26
  refine fo_iconst (fa_320 rfl) fk_c_0 ?_
  exact fo_iret (fa_320 rfl) fr_320 fw_int
theorem fs_320_24 : fSB 320 [0] 5 24 f_320_24 := by
  unfold f_320_24
  refine fo_iconst (fa_320 rfl) fk_c_1 ?_
  exact fo_iret (fa_320 rfl) fr_320 fw_int
theorem fs_320_18 : fSB 320 [0] 5 18 f_320_18 := by
  unfold f_320_18
  refine fo_lastore (fa_320 rfl) ?_
  exact fo_goto (fa_320 rfl) (pcT := 26) rfl fs_320_26
theorem fs_320_17 : fSB 320 [0] 5 17 f_320_17 := by
  unfold f_320_17
  refine fo_lconst (fa_320 rfl) rfl ?_
  exact fs_320_18
theorem fs_320_0 : fSB 320 [0] 5 0 f_320_0 := by
  unfold f_320_0
  refine fo_aload (k := 4) (fa_320 rfl) ?_
  refine fo_iconst (fa_320 rfl) fk_c_0 ?_
  refine fo_aload_n (k := 0) (fa_320 rfl) ?_
  refine fo_iload_n (k := 1) (fa_320 rfl) ?_
  refine fo_iload_n (k := 2) (fa_320 rfl) ?_
  refine fo_iload_n (k := 3) (fa_320 rfl) ?_
  refine fo_virtual (by decide) fna_123 (fo_callH (fa_320 rfl) fNs_virtual fsm_123 (by decide) fFil_0 fna_123 fx_123 (Or.inr (by rw [fP_123]; rfl)) (fHd_w (pc := 7) (E := 2) (q := (0, 19, 22, 2)) (by rw [fP_320]; rfl) (by rw [fP_320]; rfl) rfl fs_320_24 fHd_nil) ?_)
  refine fo_if_eq (fa_320 rfl) (pcT := 17) rfl fs_320_17 ?_
  refine fo_lconst (fa_320 rfl) rfl ?_
  exact fo_goto (fa_320 rfl) (pcT := 18) rfl fs_320_18
theorem fsm_320 : fSM 320 5 fm_320 := fs_methH (lp := [0]) (by decide) rfl ⟨fs_320_0, trivial⟩
theorem fP_321 : mj_P 321 = (13, 3, (some .int), mcL_breaks, [(0, 9, 12, 2)]) := rfl
theorem fa_321 {pc : Nat} {e : mjE} (h : mj_at mcL_breaks pc = some e) : fAt 321 pc e := by unfold fAt; rw [fP_321]; exact h
theorem fr_321 : (mj_P 321).2.2.1 = (some .int) := by rw [fP_321]
theorem fna_321 : (mj_P 321).2.1 = 3 := by rw [fP_321]
theorem fx_321 : 3 ≤ mj_mx.getD 321 0 := by decide
theorem fs_321_15 : fSB 321 [0] 5 15 f_321_15 := by
  unfold f_321_15
  refine fo_iconst (fa_321 rfl) fk_c_0 ?_
  exact fo_iret (fa_321 rfl) fr_321 fw_int
theorem fs_321_13 : fSB 321 [0] 5 13 f_321_13 := by
  unfold f_321_13
  refine fo_iconst (fa_321 rfl) fk_c_1 ?_
  exact fo_iret (fa_321 rfl) fr_321 fw_int
theorem fs_321_0 : fSB 321 [0] 5 0 f_321_0 := by
  unfold f_321_0
  refine fo_aload_n (k := 2) (fa_321 rfl) ?_
  refine fo_iconst (fa_321 rfl) fk_c_0 ?_
  refine fo_aload_n (k := 0) (fa_321 rfl) ?_
  refine fo_iload_n (k := 1) (fa_321 rfl) ?_
  refine fo_virtual (by decide) fna_124 (fo_callH (fa_321 rfl) fNs_virtual fsm_124 (by decide) fFil_3 fna_124 fx_124 (Or.inr (by rw [fP_124]; rfl)) (fHd_n (pc := 4) (E := 2) (q := (0, 9, 12, 2)) (by rw [fP_321]; rfl) (by rw [fP_321]; rfl) rfl fs_321_13 fHd_nil) ?_)
  refine fo_i2l (fa_321 rfl) ?_
  refine fo_lastore (fa_321 rfl) ?_
  exact fo_goto (fa_321 rfl) (pcT := 15) rfl fs_321_15
theorem fsm_321 : fSM 321 5 fm_321 := fs_methH (lp := [0]) (by decide) rfl ⟨fs_321_0, trivial⟩
theorem fP_322 : mj_P 322 = (13, 5, (some .int), mcL_setting, [(0, 12, 15, 2)]) := rfl
theorem fa_322 {pc : Nat} {e : mjE} (h : mj_at mcL_setting pc = some e) : fAt 322 pc e := by unfold fAt; rw [fP_322]; exact h
theorem fr_322 : (mj_P 322).2.2.1 = (some .int) := by rw [fP_322]
theorem fna_322 : (mj_P 322).2.1 = 5 := by rw [fP_322]
theorem fx_322 : 5 ≤ mj_mx.getD 322 0 := by decide
theorem fs_322_19 : fSB 322 [0] 4 19 f_322_19 := by
  unfold f_322_19
  refine fo_iconst (fa_322 rfl) fk_c_0 ?_
  exact fo_iret (fa_322 rfl) fr_322 fw_int
theorem fs_322_17 : fSB 322 [0] 4 17 f_322_17 := by
  unfold f_322_17
  refine fo_iconst (fa_322 rfl) fk_c_1 ?_
  exact fo_iret (fa_322 rfl) fr_322 fw_int
theorem fs_322_0 : fSB 322 [0] 4 0 f_322_0 := by
  unfold f_322_0
  refine fo_aload (k := 4) (fa_322 rfl) ?_
  refine fo_iconst (fa_322 rfl) fk_c_0 ?_
  refine fo_aload_n (k := 0) (fa_322 rfl) ?_
  refine fo_iload_n (k := 1) (fa_322 rfl) ?_
  refine fo_iload_n (k := 2) (fa_322 rfl) ?_
  refine fo_iload_n (k := 3) (fa_322 rfl) ?_
  refine fo_virtual (by decide) fna_125 (fo_callH (fa_322 rfl) fNs_virtual fsm_125 (by decide) fFil_2 fna_125 fx_125 (Or.inr (by rw [fP_125]; rfl)) (fHd_w (pc := 7) (E := 2) (q := (0, 12, 15, 2)) (by rw [fP_322]; rfl) (by rw [fP_322]; rfl) rfl fs_322_17 fHd_nil) ?_)
  refine fo_i2l (fa_322 rfl) ?_
  refine fo_lastore (fa_322 rfl) ?_
  exact fo_goto (fa_322 rfl) (pcT := 19) rfl fs_322_19
theorem fsm_322 : fSM 322 4 fm_322 := fs_methH (lp := [0]) (by decide) rfl ⟨fs_322_0, trivial⟩
theorem fP_323 : mj_P 323 = (13, 5, (some .int), mcL_unmet, [(0, 12, 15, 2)]) := rfl
theorem fa_323 {pc : Nat} {e : mjE} (h : mj_at mcL_unmet pc = some e) : fAt 323 pc e := by unfold fAt; rw [fP_323]; exact h
theorem fr_323 : (mj_P 323).2.2.1 = (some .int) := by rw [fP_323]
theorem fna_323 : (mj_P 323).2.1 = 5 := by rw [fP_323]
theorem fx_323 : 5 ≤ mj_mx.getD 323 0 := by decide
theorem fs_323_19 : fSB 323 [0] 2 19 f_323_19 := by
  unfold f_323_19
  refine fo_iconst (fa_323 rfl) fk_c_0 ?_
  exact fo_iret (fa_323 rfl) fr_323 fw_int
theorem fs_323_17 : fSB 323 [0] 2 17 f_323_17 := by
  unfold f_323_17
  refine fo_iconst (fa_323 rfl) fk_c_1 ?_
  exact fo_iret (fa_323 rfl) fr_323 fw_int
theorem fs_323_0 : fSB 323 [0] 2 0 f_323_0 := by
  unfold f_323_0
  refine fo_aload (k := 4) (fa_323 rfl) ?_
  refine fo_iconst (fa_323 rfl) fk_c_0 ?_
  refine fo_aload_n (k := 0) (fa_323 rfl) ?_
  refine fo_iload_n (k := 1) (fa_323 rfl) ?_
  refine fo_iload_n (k := 2) (fa_323 rfl) ?_
  refine fo_iload_n (k := 3) (fa_323 rfl) ?_
  refine fo_virtual (by decide) fna_126 (fo_callH (fa_323 rfl) fNs_virtual fsm_126 (by decide) fFil_0 fna_126 fx_126 (Or.inr (by rw [fP_126]; rfl)) (fHd_w (pc := 7) (E := 2) (q := (0, 12, 15, 2)) (by rw [fP_323]; rfl) (by rw [fP_323]; rfl) rfl fs_323_17 fHd_nil) ?_)
  refine fo_i2l (fa_323 rfl) ?_
  refine fo_lastore (fa_323 rfl) ?_
  exact fo_goto (fa_323 rfl) (pcT := 19) rfl fs_323_19
theorem fsm_323 : fSM 323 2 fm_323 := fs_methH (lp := [0]) (by decide) rfl ⟨fs_323_0, trivial⟩
theorem fP_324 : mj_P 324 = (13, 3, (some .int), mcL_type, [(0, 9, 12, 2), (0, 9, 15, 3)]) := rfl
theorem fa_324 {pc : Nat} {e : mjE} (h : mj_at mcL_type pc = some e) : fAt 324 pc e := by unfold fAt; rw [fP_324]; exact h
theorem fr_324 : (mj_P 324).2.2.1 = (some .int) := by rw [fP_324]
theorem fna_324 : (mj_P 324).2.1 = 3 := by rw [fP_324]
theorem fx_324 : 3 ≤ mj_mx.getD 324 0 := by decide
theorem fs_324_18 : fSB 324 [0] 1 18 f_324_18 := by
  unfold f_324_18
  refine fo_iconst (fa_324 rfl) fk_c_0 ?_
  exact fo_iret (fa_324 rfl) fr_324 fw_int
theorem fs_324_16 : fSB 324 [0] 1 16 f_324_16 := by
  unfold f_324_16
  refine fo_iconst (fa_324 rfl) fk_c_2 ?_
  exact fo_iret (fa_324 rfl) fr_324 fw_int
theorem fs_324_13 : fSB 324 [0] 1 13 f_324_13 := by
  unfold f_324_13
  refine fo_iconst (fa_324 rfl) fk_c_1 ?_
  exact fo_iret (fa_324 rfl) fr_324 fw_int
theorem fs_324_0 : fSB 324 [0] 1 0 f_324_0 := by
  unfold f_324_0
  refine fo_aload_n (k := 2) (fa_324 rfl) ?_
  refine fo_iconst (fa_324 rfl) fk_c_0 ?_
  refine fo_aload_n (k := 0) (fa_324 rfl) ?_
  refine fo_iload_n (k := 1) (fa_324 rfl) ?_
  refine fo_virtual (by decide) fna_127 (fo_callH (fa_324 rfl) fNs_virtual fsm_127 (by decide) fFil_0 fna_127 fx_127 (Or.inr (by rw [fP_127]; rfl)) (fHd_n (pc := 4) (E := 2) (q := (0, 9, 12, 2)) (by rw [fP_324]; rfl) (by rw [fP_324]; rfl) rfl fs_324_13 (fHd_n (pc := 4) (E := 3) (q := (0, 9, 15, 3)) (by rw [fP_324]; rfl) (by rw [fP_324]; rfl) rfl fs_324_16 fHd_nil)) ?_)
  refine fo_i2l (fa_324 rfl) ?_
  refine fo_lastore (fa_324 rfl) ?_
  exact fo_goto (fa_324 rfl) (pcT := 18) rfl fs_324_18
theorem fsm_324 : fSM 324 1 fm_324 := fs_methH (lp := [0]) (by decide) rfl ⟨fs_324_0, trivial⟩
theorem fP_325 : mj_P 325 = (13, 3, (some .int), mcL_read, [(0, 9, 12, 0)]) := rfl
theorem fa_325 {pc : Nat} {e : mjE} (h : mj_at mcL_read pc = some e) : fAt 325 pc e := by unfold fAt; rw [fP_325]; exact h
theorem fr_325 : (mj_P 325).2.2.1 = (some .int) := by rw [fP_325]
theorem fna_325 : (mj_P 325).2.1 = 3 := by rw [fP_325]
theorem fx_325 : 3 ≤ mj_mx.getD 325 0 := by decide
theorem fs_325_15 : fSB 325 [0] 4 15 f_325_15 := by
  unfold f_325_15
  refine fo_iconst (fa_325 rfl) fk_c_0 ?_
  exact fo_iret (fa_325 rfl) fr_325 fw_int
theorem fs_325_13 : fSB 325 [0] 4 13 f_325_13 := by
  unfold f_325_13
  refine fo_iconst (fa_325 rfl) fk_c_1 ?_
  exact fo_iret (fa_325 rfl) fr_325 fw_int
theorem fs_325_0 : fSB 325 [0] 4 0 f_325_0 := by
  unfold f_325_0
  refine fo_aload_n (k := 2) (fa_325 rfl) ?_
  refine fo_iconst (fa_325 rfl) fk_c_0 ?_
  refine fo_aload_n (k := 0) (fa_325 rfl) ?_
  refine fo_iload_n (k := 1) (fa_325 rfl) ?_
  refine fo_virtual (by decide) fna_129 (fo_callH (fa_325 rfl) fNs_virtual fsm_129 (by decide) fFil_1 fna_129 fx_129 (Or.inr (by rw [fP_129]; rfl)) (fHd_n (pc := 4) (E := 0) (q := (0, 9, 12, 0)) (by rw [fP_325]; rfl) (by rw [fP_325]; rfl) rfl fs_325_13 fHd_nil) ?_)
  refine fo_i2l (fa_325 rfl) ?_
  refine fo_lastore (fa_325 rfl) ?_
  exact fo_goto (fa_325 rfl) (pcT := 15) rfl fs_325_15
theorem fsm_325 : fSM 325 4 fm_325 := fs_methH (lp := [0]) (by decide) rfl ⟨fs_325_0, trivial⟩
theorem fP_326 : mj_P 326 = (13, 2, (some .int), mcL_undo, [(0, 8, 11, 1)]) := rfl
theorem fa_326 {pc : Nat} {e : mjE} (h : mj_at mcL_undo pc = some e) : fAt 326 pc e := by unfold fAt; rw [fP_326]; exact h
theorem fr_326 : (mj_P 326).2.2.1 = (some .int) := by rw [fP_326]
theorem fna_326 : (mj_P 326).2.1 = 2 := by rw [fP_326]
theorem fx_326 : 2 ≤ mj_mx.getD 326 0 := by decide
theorem fs_326_14 : fSB 326 [0] 2 14 f_326_14 := by
  unfold f_326_14
  refine fo_iconst (fa_326 rfl) fk_c_0 ?_
  exact fo_iret (fa_326 rfl) fr_326 fw_int
theorem fs_326_12 : fSB 326 [0] 2 12 f_326_12 := by
  unfold f_326_12
  refine fo_iconst (fa_326 rfl) fk_c_1 ?_
  exact fo_iret (fa_326 rfl) fr_326 fw_int
theorem fs_326_0 : fSB 326 [0] 2 0 f_326_0 := by
  unfold f_326_0
  refine fo_aload_n (k := 1) (fa_326 rfl) ?_
  refine fo_iconst (fa_326 rfl) fk_c_0 ?_
  refine fo_aload_n (k := 0) (fa_326 rfl) ?_
  refine fo_virtual (by decide) fna_130 (fo_callH (fa_326 rfl) fNs_virtual fsm_130 (by decide) fFil_1 fna_130 fx_130 (Or.inr (by rw [fP_130]; rfl)) (fHd_n (pc := 3) (E := 1) (q := (0, 8, 11, 1)) (by rw [fP_326]; rfl) (by rw [fP_326]; rfl) rfl fs_326_12 fHd_nil) ?_)
  refine fo_i2l (fa_326 rfl) ?_
  refine fo_lastore (fa_326 rfl) ?_
  exact fo_goto (fa_326 rfl) (pcT := 14) rfl fs_326_14
theorem fsm_326 : fSM 326 2 fm_326 := fs_methH (lp := [0]) (by decide) rfl ⟨fs_326_0, trivial⟩
theorem fP_327 : mj_P 327 = (13, 3, (some .int), mcL_meanSize, [(0, 8, 11, 0), (0, 8, 14, 1), (0, 8, 17, 5)]) := rfl
theorem fa_327 {pc : Nat} {e : mjE} (h : mj_at mcL_meanSize pc = some e) : fAt 327 pc e := by unfold fAt; rw [fP_327]; exact h
theorem fr_327 : (mj_P 327).2.2.1 = (some .int) := by rw [fP_327]
theorem fna_327 : (mj_P 327).2.1 = 3 := by rw [fP_327]
theorem fx_327 : 3 ≤ mj_mx.getD 327 0 := by decide
theorem fs_327_20 : fSB 327 [0] 3 20 f_327_20 := by
  unfold f_327_20
  refine fo_iconst (fa_327 rfl) fk_c_0 ?_
  exact fo_iret (fa_327 rfl) fr_327 fw_int
theorem fs_327_18 : fSB 327 [0] 3 18 f_327_18 := by
  unfold f_327_18
  refine fo_iconst (fa_327 rfl) fk_c_3 ?_
  exact fo_iret (fa_327 rfl) fr_327 fw_int
theorem fs_327_15 : fSB 327 [0] 3 15 f_327_15 := by
  unfold f_327_15
  refine fo_iconst (fa_327 rfl) fk_c_2 ?_
  exact fo_iret (fa_327 rfl) fr_327 fw_int
theorem fs_327_12 : fSB 327 [0] 3 12 f_327_12 := by
  unfold f_327_12
  refine fo_iconst (fa_327 rfl) fk_c_1 ?_
  exact fo_iret (fa_327 rfl) fr_327 fw_int
theorem fs_327_0 : fSB 327 [0] 3 0 f_327_0 := by
  unfold f_327_0
  refine fo_aload_n (k := 2) (fa_327 rfl) ?_
  refine fo_iconst (fa_327 rfl) fk_c_0 ?_
  refine fo_aload_n (k := 0) (fa_327 rfl) ?_
  refine fo_iload_n (k := 1) (fa_327 rfl) ?_
  refine fo_virtual (by decide) fna_131 (fo_callH (fa_327 rfl) fNs_virtual fsm_131 (by decide) fFil_1 fna_131 fx_131 (Or.inr (by rw [fP_131]; rfl)) (fHd_n (pc := 4) (E := 0) (q := (0, 8, 11, 0)) (by rw [fP_327]; rfl) (by rw [fP_327]; rfl) rfl fs_327_12 (fHd_n (pc := 4) (E := 1) (q := (0, 8, 14, 1)) (by rw [fP_327]; rfl) (by rw [fP_327]; rfl) rfl fs_327_15 (fHd_n (pc := 4) (E := 5) (q := (0, 8, 17, 5)) (by rw [fP_327]; rfl) (by rw [fP_327]; rfl) rfl fs_327_18 fHd_nil))) ?_)
  exact fo_bad
theorem fsm_327 : fSM 327 3 fm_327 := fs_methH (lp := [0]) (by decide) rfl ⟨fs_327_0, trivial⟩
theorem fP_328 : mj_P 328 = (13, 3, (some .int), mcL_pairShare, [(0, 9, 12, 0), (0, 9, 15, 1), (0, 9, 18, 5)]) := rfl
theorem fa_328 {pc : Nat} {e : mjE} (h : mj_at mcL_pairShare pc = some e) : fAt 328 pc e := by unfold fAt; rw [fP_328]; exact h
theorem fr_328 : (mj_P 328).2.2.1 = (some .int) := by rw [fP_328]
theorem fna_328 : (mj_P 328).2.1 = 3 := by rw [fP_328]
theorem fx_328 : 3 ≤ mj_mx.getD 328 0 := by decide
theorem fs_328_21 : fSB 328 [0] 3 21 f_328_21 := by
  unfold f_328_21
  refine fo_iconst (fa_328 rfl) fk_c_0 ?_
  exact fo_iret (fa_328 rfl) fr_328 fw_int
theorem fs_328_19 : fSB 328 [0] 3 19 f_328_19 := by
  unfold f_328_19
  refine fo_iconst (fa_328 rfl) fk_c_3 ?_
  exact fo_iret (fa_328 rfl) fr_328 fw_int
theorem fs_328_16 : fSB 328 [0] 3 16 f_328_16 := by
  unfold f_328_16
  refine fo_iconst (fa_328 rfl) fk_c_2 ?_
  exact fo_iret (fa_328 rfl) fr_328 fw_int
theorem fs_328_13 : fSB 328 [0] 3 13 f_328_13 := by
  unfold f_328_13
  refine fo_iconst (fa_328 rfl) fk_c_1 ?_
  exact fo_iret (fa_328 rfl) fr_328 fw_int
theorem fs_328_0 : fSB 328 [0] 3 0 f_328_0 := by
  unfold f_328_0
  refine fo_aload_n (k := 2) (fa_328 rfl) ?_
  refine fo_iconst (fa_328 rfl) fk_c_0 ?_
  refine fo_aload_n (k := 0) (fa_328 rfl) ?_
  refine fo_iload_n (k := 1) (fa_328 rfl) ?_
  refine fo_virtual (by decide) fna_132 (fo_callH (fa_328 rfl) fNs_virtual fsm_132 (by decide) fFil_2 fna_132 fx_132 (Or.inr (by rw [fP_132]; rfl)) (fHd_n (pc := 4) (E := 0) (q := (0, 9, 12, 0)) (by rw [fP_328]; rfl) (by rw [fP_328]; rfl) rfl fs_328_13 (fHd_n (pc := 4) (E := 1) (q := (0, 9, 15, 1)) (by rw [fP_328]; rfl) (by rw [fP_328]; rfl) rfl fs_328_16 (fHd_n (pc := 4) (E := 5) (q := (0, 9, 18, 5)) (by rw [fP_328]; rfl) (by rw [fP_328]; rfl) rfl fs_328_19 fHd_nil))) ?_)
  exact fo_bad
theorem fsm_328 : fSM 328 3 fm_328 := fs_methH (lp := [0]) (by decide) rfl ⟨fs_328_0, trivial⟩
