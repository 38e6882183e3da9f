theorem fP_226 : mj_P 226 = (8, 3, (some .boolean), mcX8_stay, []) := rfl
theorem fa_226 {pc : Nat} {e : mjE} (h : mj_at mcX8_stay pc = some e) : fAt 226 pc e := by unfold fAt; rw [fP_226]; exact h
theorem fr_226 : (mj_P 226).2.2.1 = (some .boolean) := by rw [fP_226]
theorem fna_226 : (mj_P 226).2.1 = 3 := by rw [fP_226]
theorem fx_226 : 3 ≤ mj_mx.getD 226 0 := by decide
theorem fh_226 : (mj_P 226).2.2.2.2.isEmpty = true := by rw [fP_226]; rfl
theorem fs_226_122 : fSB 226 [0, 2, 14, 80] 0 122 f_226_122 := by
  unfold f_226_122
  refine fo_iload_n (k := 3) (fa_226 rfl) ?_
  exact fo_iret (fa_226 rfl) fr_226 fw_bool
theorem fs_226_107 : fSB 226 [0, 2, 14, 80] 0 107 f_226_107 := by
  unfold f_226_107
  refine fo_istore_n (k := 3) (fa_226 rfl) ?_
  refine fo_aload_n (k := 0) (fa_226 rfl) ?_
  refine fo_getr (fa_226 rfl) (by decide) rfl ?_
  refine fo_iload (k := 4) (fa_226 rfl) ?_
  refine fo_iconst (fa_226 rfl) fk_c_0 ?_
  refine fo_iastore (fa_226 rfl) ?_
  refine fo_iinc (k := 4) (fa_226 rfl) fk_c_1 ?_
  exact fo_goto (fa_226 rfl) (pcT := 80) rfl (fo_back (q := 80) rfl)
theorem fs_226_106 : fSB 226 [0, 2, 14, 80] 0 106 f_226_106 := by
  unfold f_226_106
  refine fo_iconst (fa_226 rfl) fk_c_0 ?_
  exact fs_226_107
theorem fs_226_80 : fSB 226 [0, 2, 14, 80] 0 80 f_226_80 := by
  unfold f_226_80
  refine fo_iload (k := 4) (fa_226 rfl) ?_
  refine fo_sipush (fa_226 rfl) fk_s_128 ?_
  refine fo_icmp_ge (fa_226 rfl) (pcT := 122) rfl fs_226_122 ?_
  refine fo_iload_n (k := 3) (fa_226 rfl) ?_
  refine fo_if_eq (fa_226 rfl) (pcT := 106) rfl fs_226_106 ?_
  refine fo_aload_n (k := 0) (fa_226 rfl) ?_
  refine fo_getr (fa_226 rfl) (by decide) rfl ?_
  refine fo_iload (k := 4) (fa_226 rfl) ?_
  refine fo_iaload (fa_226 rfl) ?_
  refine fo_if_ne (fa_226 rfl) (pcT := 106) rfl fs_226_106 ?_
  refine fo_iconst (fa_226 rfl) fk_c_1 ?_
  exact fo_goto (fa_226 rfl) (pcT := 107) rfl fs_226_107
theorem fs_226_75 : fSB 226 [0, 2, 14, 80] 0 75 f_226_75 := by
  unfold f_226_75
  refine fo_iconst (fa_226 rfl) fk_c_1 ?_
  refine fo_istore_n (k := 3) (fa_226 rfl) ?_
  refine fo_iconst (fa_226 rfl) fk_c_0 ?_
  refine fo_istore (k := 4) (fa_226 rfl) ?_
  exact fs_226_80
theorem fs_226_46 : fSB 226 [0, 2, 14, 80] 0 46 f_226_46 := by
  unfold f_226_46
  refine fo_aload_n (k := 0) (fa_226 rfl) ?_
  refine fo_getr (fa_226 rfl) (by decide) rfl ?_
  refine fo_iload (k := 4) (fa_226 rfl) ?_
  refine fo_dup2 (fa_226 rfl) ?_
  refine fo_iaload (fa_226 rfl) ?_
  refine fo_iconst (fa_226 rfl) fk_c_1 ?_
  refine fo_iadd (fa_226 rfl) ?_
  refine fo_iastore (fa_226 rfl) ?_
  refine fo_aload_n (k := 0) (fa_226 rfl) ?_
  refine fo_getr (fa_226 rfl) (by decide) rfl ?_
  refine fo_aload_n (k := 1) (fa_226 rfl) ?_
  refine fo_iload_n (k := 3) (fa_226 rfl) ?_
  refine fo_iaload (fa_226 rfl) ?_
  refine fo_dup2 (fa_226 rfl) ?_
  refine fo_iaload (fa_226 rfl) ?_
  refine fo_iconst (fa_226 rfl) fk_c_1 ?_
  refine fo_isub (fa_226 rfl) ?_
  refine fo_iastore (fa_226 rfl) ?_
  refine fo_iinc (k := 3) (fa_226 rfl) fk_c_1 ?_
  exact fo_goto (fa_226 rfl) (pcT := 2) rfl (fo_back (q := 2) rfl)
theorem fs_226_14 : fSB 226 [0, 2, 14, 80] 0 14 f_226_14 := by
  unfold f_226_14
  refine fo_iload (k := 5) (fa_226 rfl) ?_
  refine fo_aload_n (k := 1) (fa_226 rfl) ?_
  refine fo_iconst (fa_226 rfl) fk_c_0 ?_
  refine fo_iaload (fa_226 rfl) ?_
  refine fo_icmp_ge (fa_226 rfl) (pcT := 46) rfl fs_226_46 ?_
  refine fo_iload (k := 4) (fa_226 rfl) ?_
  refine fo_aload_n (k := 1) (fa_226 rfl) ?_
  refine fo_iload_n (k := 3) (fa_226 rfl) ?_
  refine fo_iaload (fa_226 rfl) ?_
  refine fo_iload (k := 5) (fa_226 rfl) ?_
  refine fo_ishr (fa_226 rfl) ?_
  refine fo_iconst (fa_226 rfl) fk_c_1 ?_
  refine fo_iand (fa_226 rfl) ?_
  refine fo_aload_n (k := 2) (fa_226 rfl) ?_
  refine fo_iload (k := 5) (fa_226 rfl) ?_
  refine fo_iaload (fa_226 rfl) ?_
  refine fo_ishl (fa_226 rfl) ?_
  refine fo_ior (fa_226 rfl) ?_
  refine fo_istore (k := 4) (fa_226 rfl) ?_
  refine fo_iinc (k := 5) (fa_226 rfl) fk_c_1 ?_
  exact fo_goto (fa_226 rfl) (pcT := 14) rfl (fo_back (q := 14) rfl)
theorem fs_226_2 : fSB 226 [0, 2, 14, 80] 0 2 f_226_2 := by
  unfold f_226_2
  refine fo_iload_n (k := 3) (fa_226 rfl) ?_
  refine fo_aload_n (k := 1) (fa_226 rfl) ?_
  refine fo_alen (fa_226 rfl) ?_
  refine fo_icmp_ge (fa_226 rfl) (pcT := 75) rfl fs_226_75 ?_
  refine fo_iconst (fa_226 rfl) fk_c_0 ?_
  refine fo_istore (k := 4) (fa_226 rfl) ?_
  refine fo_iconst (fa_226 rfl) fk_c_0 ?_
  refine fo_istore (k := 5) (fa_226 rfl) ?_
  exact fs_226_14
theorem fs_226_0 : fSB 226 [0, 2, 14, 80] 0 0 f_226_0 := by
  unfold f_226_0
  refine fo_iconst (fa_226 rfl) fk_c_1 ?_
  refine fo_istore_n (k := 3) (fa_226 rfl) ?_
  exact fs_226_2
theorem fsm_226 : fSM 226 0 fm_226 := fs_methH (lp := [0, 2, 14, 80]) (by decide) rfl ⟨fs_226_0, fs_226_2, fs_226_14, fs_226_80, trivial⟩
theorem fP_227 : mj_P 227 = (8, 2, (some .int), mcX8_ways, []) := rfl
theorem fa_227 {pc : Nat} {e : mjE} (h : mj_at mcX8_ways pc = some e) : fAt 227 pc e := by unfold fAt; rw [fP_227]; exact h
theorem fr_227 : (mj_P 227).2.2.1 = (some .int) := by rw [fP_227]
theorem fna_227 : (mj_P 227).2.1 = 2 := by rw [fP_227]
theorem fx_227 : 2 ≤ mj_mx.getD 227 0 := by decide
theorem fh_227 : (mj_P 227).2.2.2.2.isEmpty = true := by rw [fP_227]; rfl
theorem fs_227_77 : fSB 227 [0] 3 77 f_227_77 := by
  unfold f_227_77
  exact fo_iret (fa_227 rfl) fr_227 fw_int
theorem fs_227_61 : fSB 227 [0] 3 61 f_227_61 := by
  unfold f_227_61
  refine fo_aload_n (k := 0) (fa_227 rfl) ?_
  refine fo_aload_n (k := 0) (fa_227 rfl) ?_
  refine fo_getr (fa_227 rfl) (by decide) rfl ?_
  refine fo_iload_n (k := 1) (fa_227 rfl) ?_
  refine fo_aaload (fa_227 rfl) (by decide) (by decide) ?_
  refine fo_bipush (fa_227 rfl) fk_b_7 ?_
  refine fo_newarray (fa_227 rfl) rfl (by decide) (by decide) fel_20 ?_
  refine fo_iconst (fa_227 rfl) fk_c_0 ?_
  refine fo_iconst (fa_227 rfl) fk_c_0 ?_
  exact fo_bad
theorem fs_227_50 : fSB 227 [0] 3 50 f_227_50 := by
  unfold f_227_50
  refine fo_iconst (fa_227 rfl) fk_c_0 ?_
  refine fo_virtual (by decide) fna_171 (fo_call (fa_227 rfl) fNs_virtual fsm_171 (by decide) fFil_0 fna_171 fx_171 (by rw [fP_171]; rfl) fh_227 ?_)
  refine fo_if_eq (fa_227 rfl) (pcT := 61) rfl fs_227_61 ?_
  refine fo_iconst (fa_227 rfl) fk_c_0 ?_
  exact fo_goto (fa_227 rfl) (pcT := 77) rfl fs_227_77
theorem fs_227_49 : fSB 227 [0] 3 49 f_227_49 := by
  unfold f_227_49
  refine fo_iconst (fa_227 rfl) fk_c_0 ?_
  exact fs_227_50
theorem fs_227_28 : fSB 227 [0] 3 28 f_227_28 := by
  unfold f_227_28
  refine fo_iload_n (k := 2) (fa_227 rfl) ?_
  refine fo_if_eq (fa_227 rfl) (pcT := 49) rfl fs_227_49 ?_
  refine fo_aload_n (k := 0) (fa_227 rfl) ?_
  refine fo_getr (fa_227 rfl) (by decide) rfl ?_
  refine fo_iload_n (k := 1) (fa_227 rfl) ?_
  refine fo_aaload (fa_227 rfl) (by decide) (by decide) ?_
  refine fo_iconst (fa_227 rfl) fk_c_0 ?_
  refine fo_iaload (fa_227 rfl) ?_
  refine fo_bipush (fa_227 rfl) fk_b_7 ?_
  refine fo_icmp_le (fa_227 rfl) (pcT := 49) rfl fs_227_49 ?_
  refine fo_iconst (fa_227 rfl) fk_c_1 ?_
  exact fo_goto (fa_227 rfl) (pcT := 50) rfl fs_227_50
theorem fs_227_27 : fSB 227 [0] 3 27 f_227_27 := by
  unfold f_227_27
  refine fo_iconst (fa_227 rfl) fk_c_0 ?_
  exact fs_227_28
theorem fs_227_19 : fSB 227 [0] 3 19 f_227_19 := by
  unfold f_227_19
  refine fo_iload_n (k := 2) (fa_227 rfl) ?_
  refine fo_if_ne (fa_227 rfl) (pcT := 27) rfl fs_227_27 ?_
  refine fo_iconst (fa_227 rfl) fk_c_1 ?_
  exact fo_goto (fa_227 rfl) (pcT := 28) rfl fs_227_28
theorem fs_227_18 : fSB 227 [0] 3 18 f_227_18 := by
  unfold f_227_18
  refine fo_iconst (fa_227 rfl) fk_c_0 ?_
  exact fs_227_19
theorem fs_227_0 : fSB 227 [0] 3 0 f_227_0 := by
  unfold f_227_0
  refine fo_aload_n (k := 0) (fa_227 rfl) ?_
  refine fo_iload_n (k := 1) (fa_227 rfl) ?_
  refine fo_virtual (by decide) fna_175 (fo_call (fa_227 rfl) fNs_virtual fsm_175 (by decide) fFil_0 fna_175 fx_175 (by rw [fP_175]; rfl) fh_227 ?_)
  refine fo_istore_n (k := 2) (fa_227 rfl) ?_
  refine fo_aload_n (k := 0) (fa_227 rfl) ?_
  refine fo_iload_n (k := 1) (fa_227 rfl) ?_
  refine fo_static (by decide) (fo_call (fa_227 rfl) fNs_static fsm_173 (by decide) fFil_0 fna_173 fx_173 (by rw [fP_173]; rfl) fh_227 ?_)
  refine fo_if_ne (fa_227 rfl) (pcT := 18) rfl fs_227_18 ?_
  refine fo_iconst (fa_227 rfl) fk_c_1 ?_
  exact fo_goto (fa_227 rfl) (pcT := 19) rfl fs_227_19
theorem fsm_227 : fSM 227 3 fm_227 := fs_methH (lp := [0]) (by decide) rfl ⟨fs_227_0, trivial⟩
theorem fP_228 : mj_P 228 = (8, 3, (some .int), mcX8_becomesTable, []) := rfl
theorem fa_228 {pc : Nat} {e : mjE} (h : mj_at mcX8_becomesTable pc = some e) : fAt 228 pc e := by unfold fAt; rw [fP_228]; exact h
theorem fr_228 : (mj_P 228).2.2.1 = (some .int) := by rw [fP_228]
theorem fna_228 : (mj_P 228).2.1 = 3 := by rw [fP_228]
theorem fx_228 : 3 ≤ mj_mx.getD 228 0 := by decide
theorem fh_228 : (mj_P 228).2.2.2.2.isEmpty = true := by rw [fP_228]; rfl
theorem fs_228_34 : fSB 228 [0, 12] 2 34 f_228_34 := by
  unfold f_228_34
  refine fo_iload_n (k := 3) (fa_228 rfl) ?_
  refine fo_static (by decide) (fo_call (fa_228 rfl) fNs_static fsm_182 (by decide) fFil_2 fna_182 fx_182 (by rw [fP_182]; rfl) fh_228 ?_)
  exact fo_iret (fa_228 rfl) fr_228 fw_int
theorem fs_228_12 : fSB 228 [0, 12] 2 12 f_228_12 := by
  unfold f_228_12
  refine fo_iload (k := 4) (fa_228 rfl) ?_
  refine fo_aload_n (k := 2) (fa_228 rfl) ?_
  refine fo_alen (fa_228 rfl) ?_
  refine fo_icmp_ge (fa_228 rfl) (pcT := 34) rfl fs_228_34 ?_
  refine fo_iload_n (k := 3) (fa_228 rfl) ?_
  refine fo_iconst (fa_228 rfl) fk_c_1 ?_
  refine fo_aload_n (k := 2) (fa_228 rfl) ?_
  refine fo_iload (k := 4) (fa_228 rfl) ?_
  refine fo_iaload (fa_228 rfl) ?_
  refine fo_ishl (fa_228 rfl) ?_
  refine fo_ior (fa_228 rfl) ?_
  refine fo_istore_n (k := 3) (fa_228 rfl) ?_
  refine fo_iinc (k := 4) (fa_228 rfl) fk_c_1 ?_
  exact fo_goto (fa_228 rfl) (pcT := 12) rfl (fo_back (q := 12) rfl)
theorem fs_228_0 : fSB 228 [0, 12] 2 0 f_228_0 := by
  unfold f_228_0
  refine fo_aload_n (k := 0) (fa_228 rfl) ?_
  refine fo_iconst (fa_228 rfl) fk_c_1 ?_
  refine fo_iload_n (k := 1) (fa_228 rfl) ?_
  refine fo_aload_n (k := 2) (fa_228 rfl) ?_
  refine fo_virtual (by decide) fna_179 (fo_call (fa_228 rfl) fNs_virtual fsm_179 (by decide) fFil_1 fna_179 fx_179 (by rw [fP_179]; rfl) fh_228 ?_)
  refine fo_iconst (fa_228 rfl) fk_c_0 ?_
  refine fo_istore_n (k := 3) (fa_228 rfl) ?_
  refine fo_iconst (fa_228 rfl) fk_c_1 ?_
  refine fo_istore (k := 4) (fa_228 rfl) ?_
  exact fs_228_12
theorem fsm_228 : fSM 228 2 fm_228 := fs_methH (lp := [0, 12]) (by decide) rfl ⟨fs_228_0, fs_228_12, trivial⟩
theorem fP_229 : mj_P 229 = (8, 5, (some .int), mcX8_shifts, []) := rfl
theorem fa_229 {pc : Nat} {e : mjE} (h : mj_at mcX8_shifts pc = some e) : fAt 229 pc e := by unfold fAt; rw [fP_229]; exact h
theorem fr_229 : (mj_P 229).2.2.1 = (some .int) := by rw [fP_229]
theorem fna_229 : (mj_P 229).2.1 = 5 := by rw [fP_229]
theorem fx_229 : 5 ≤ mj_mx.getD 229 0 := by decide
theorem fh_229 : (mj_P 229).2.2.2.2.isEmpty = true := by rw [fP_229]; rfl
theorem fs_229_123 : fSB 229 [0, 86] 3 123 f_229_123 := by
  unfold f_229_123
  refine fo_aload_n (k := 0) (fa_229 rfl) ?_
  refine fo_iload_n (k := 1) (fa_229 rfl) ?_
  refine fo_aload (k := 5) (fa_229 rfl) ?_
  refine fo_virtual (by decide) fna_228 (fo_call (fa_229 rfl) fNs_virtual fsm_228 (by decide) fFil_2 fna_228 fx_228 (by rw [fP_228]; rfl) fh_229 ?_)
  exact fo_iret (fa_229 rfl) fr_229 fw_int
theorem fs_229_86 : fSB 229 [0, 86] 3 86 f_229_86 := by
  unfold f_229_86
  refine fo_iload (k := 6) (fa_229 rfl) ?_
  refine fo_iload_n (k := 2) (fa_229 rfl) ?_
  refine fo_iload_n (k := 2) (fa_229 rfl) ?_
  refine fo_imul (fa_229 rfl) ?_
  refine fo_icmp_ge (fa_229 rfl) (pcT := 123) rfl fs_229_123 ?_
  refine fo_aload (k := 5) (fa_229 rfl) ?_
  refine fo_iconst (fa_229 rfl) fk_c_1 ?_
  refine fo_iload (k := 6) (fa_229 rfl) ?_
  refine fo_iadd (fa_229 rfl) ?_
  refine fo_iload (k := 6) (fa_229 rfl) ?_
  refine fo_iload_n (k := 2) (fa_229 rfl) ?_
  refine fo_idiv (fa_229 rfl) ?_
  refine fo_iload_n (k := 3) (fa_229 rfl) ?_
  refine fo_imul (fa_229 rfl) ?_
  refine fo_iload (k := 6) (fa_229 rfl) ?_
  refine fo_iload_n (k := 2) (fa_229 rfl) ?_
  refine fo_irem (fa_229 rfl) ?_
  refine fo_iload (k := 4) (fa_229 rfl) ?_
  refine fo_imul (fa_229 rfl) ?_
  refine fo_iadd (fa_229 rfl) ?_
  refine fo_iload_n (k := 2) (fa_229 rfl) ?_
  refine fo_irem (fa_229 rfl) ?_
  refine fo_iastore (fa_229 rfl) ?_
  refine fo_iinc (k := 6) (fa_229 rfl) fk_c_1 ?_
  exact fo_goto (fa_229 rfl) (pcT := 86) rfl (fo_back (q := 86) rfl)
theorem fs_229_69 : fSB 229 [0, 86] 3 69 f_229_69 := by
  unfold f_229_69
  refine fo_iconst (fa_229 rfl) fk_c_1 ?_
  refine fo_iload_n (k := 2) (fa_229 rfl) ?_
  refine fo_iload_n (k := 2) (fa_229 rfl) ?_
  refine fo_imul (fa_229 rfl) ?_
  refine fo_iadd (fa_229 rfl) ?_
  refine fo_newarray (fa_229 rfl) rfl (by decide) (by decide) fel_20 ?_
  refine fo_astore (k := 5) (fa_229 rfl) ?_
  refine fo_aload (k := 5) (fa_229 rfl) ?_
  refine fo_iconst (fa_229 rfl) fk_c_0 ?_
  refine fo_iload_n (k := 2) (fa_229 rfl) ?_
  refine fo_iastore (fa_229 rfl) ?_
  refine fo_iconst (fa_229 rfl) fk_c_0 ?_
  refine fo_istore (k := 6) (fa_229 rfl) ?_
  exact fs_229_86
theorem fs_229_59 : fSB 229 [0, 86] 3 59 f_229_59 := by
  unfold f_229_59
  refine fo_iconst (fa_229 rfl) fk_c_0 ?_
  refine fo_iconst (fa_229 rfl) fk_c_0 ?_
  refine fo_virtual (by decide) fna_171 (fo_call (fa_229 rfl) fNs_virtual fsm_171 (by decide) fFil_0 fna_171 fx_171 (by rw [fP_171]; rfl) fh_229 ?_)
  refine fo_if_eq (fa_229 rfl) (pcT := 69) rfl fs_229_69 ?_
  refine fo_iconst (fa_229 rfl) fk_c_0 ?_
  exact fo_iret (fa_229 rfl) fr_229 fw_int
theorem fs_229_58 : fSB 229 [0, 86] 3 58 f_229_58 := by
  unfold f_229_58
  refine fo_iconst (fa_229 rfl) fk_c_0 ?_
  exact fs_229_59
theorem fs_229_54 : fSB 229 [0, 86] 3 54 f_229_54 := by
  unfold f_229_54
  refine fo_iconst (fa_229 rfl) fk_c_1 ?_
  exact fo_goto (fa_229 rfl) (pcT := 59) rfl fs_229_59
theorem fs_229_13 : fSB 229 [0, 86] 3 13 f_229_13 := by
  unfold f_229_13
  refine fo_iload_n (k := 2) (fa_229 rfl) ?_
  refine fo_i2l (fa_229 rfl) ?_
  refine fo_ldc2 (fa_229 rfl) ?_
  refine fo_ldc2 (fa_229 rfl) ?_
  refine fo_static (by decide) (fo_call (fa_229 rfl) fNs_static fsm_172 (by decide) fFil_0 fna_172 fx_172 (by rw [fP_172]; rfl) fh_229 ?_)
  refine fo_if_eq (fa_229 rfl) (pcT := 54) rfl fs_229_54 ?_
  refine fo_iload_n (k := 3) (fa_229 rfl) ?_
  refine fo_i2l (fa_229 rfl) ?_
  refine fo_lconst (fa_229 rfl) rfl ?_
  refine fo_iload_n (k := 2) (fa_229 rfl) ?_
  refine fo_iconst (fa_229 rfl) fk_c_1 ?_
  refine fo_isub (fa_229 rfl) ?_
  refine fo_i2l (fa_229 rfl) ?_
  refine fo_static (by decide) (fo_call (fa_229 rfl) fNs_static fsm_172 (by decide) fFil_0 fna_172 fx_172 (by rw [fP_172]; rfl) fh_229 ?_)
  refine fo_if_eq (fa_229 rfl) (pcT := 54) rfl fs_229_54 ?_
  refine fo_iload (k := 4) (fa_229 rfl) ?_
  refine fo_i2l (fa_229 rfl) ?_
  refine fo_lconst (fa_229 rfl) rfl ?_
  refine fo_iload_n (k := 2) (fa_229 rfl) ?_
  refine fo_iconst (fa_229 rfl) fk_c_1 ?_
  refine fo_isub (fa_229 rfl) ?_
  refine fo_i2l (fa_229 rfl) ?_
  refine fo_static (by decide) (fo_call (fa_229 rfl) fNs_static fsm_172 (by decide) fFil_0 fna_172 fx_172 (by rw [fP_172]; rfl) fh_229 ?_)
  refine fo_if_ne (fa_229 rfl) (pcT := 58) rfl fs_229_58 ?_
  exact fs_229_54
theorem fs_229_12 : fSB 229 [0, 86] 3 12 f_229_12 := by
  unfold f_229_12
  refine fo_iconst (fa_229 rfl) fk_c_0 ?_
  exact fs_229_13
theorem fs_229_0 : fSB 229 [0, 86] 3 0 f_229_0 := by
  unfold f_229_0
  refine fo_aload_n (k := 0) (fa_229 rfl) ?_
  refine fo_iload_n (k := 1) (fa_229 rfl) ?_
  refine fo_static (by decide) (fo_call (fa_229 rfl) fNs_static fsm_173 (by decide) fFil_0 fna_173 fx_173 (by rw [fP_173]; rfl) fh_229 ?_)
  refine fo_if_ne (fa_229 rfl) (pcT := 12) rfl fs_229_12 ?_
  refine fo_iconst (fa_229 rfl) fk_c_1 ?_
  exact fo_goto (fa_229 rfl) (pcT := 13) rfl fs_229_13
theorem fsm_229 : fSM 229 3 fm_229 := fs_methH (lp := [0, 86]) (by decide) rfl ⟨fs_229_0, fs_229_86, trivial⟩
theorem fP_230 : mj_P 230 = (8, 4, (some .int), mcX8_field, []) := rfl
theorem fa_230 {pc : Nat} {e : mjE} (h : mj_at mcX8_field pc = some e) : fAt 230 pc e := by unfold fAt; rw [fP_230]; exact h
theorem fr_230 : (mj_P 230).2.2.1 = (some .int) := by rw [fP_230]
theorem fna_230 : (mj_P 230).2.1 = 4 := by rw [fP_230]
theorem fx_230 : 4 ≤ mj_mx.getD 230 0 := by decide
theorem fh_230 : (mj_P 230).2.2.2.2.isEmpty = true := by rw [fP_230]; rfl
theorem fs_230_103 : fSB 230 [0, 65] 3 103 f_230_103 := by
  unfold f_230_103
  refine fo_aload_n (k := 0) (fa_230 rfl) ?_
  refine fo_iload_n (k := 1) (fa_230 rfl) ?_
  refine fo_aload (k := 4) (fa_230 rfl) ?_
  refine fo_virtual (by decide) fna_228 (fo_call (fa_230 rfl) fNs_virtual fsm_228 (by decide) fFil_2 fna_228 fx_228 (by rw [fP_228]; rfl) fh_230 ?_)
  exact fo_iret (fa_230 rfl) fr_230 fw_int
theorem fs_230_65 : fSB 230 [0, 65] 3 65 f_230_65 := by
  unfold f_230_65
  refine fo_iload (k := 5) (fa_230 rfl) ?_
  refine fo_iload_n (k := 2) (fa_230 rfl) ?_
  refine fo_iload_n (k := 2) (fa_230 rfl) ?_
  refine fo_imul (fa_230 rfl) ?_
  refine fo_icmp_ge (fa_230 rfl) (pcT := 103) rfl fs_230_103 ?_
  refine fo_aload (k := 4) (fa_230 rfl) ?_
  refine fo_iconst (fa_230 rfl) fk_c_1 ?_
  refine fo_iload (k := 5) (fa_230 rfl) ?_
  refine fo_iadd (fa_230 rfl) ?_
  refine fo_iload_n (k := 2) (fa_230 rfl) ?_
  refine fo_iload_n (k := 2) (fa_230 rfl) ?_
  refine fo_iload (k := 5) (fa_230 rfl) ?_
  refine fo_iload_n (k := 2) (fa_230 rfl) ?_
  refine fo_idiv (fa_230 rfl) ?_
  refine fo_iload_n (k := 3) (fa_230 rfl) ?_
  refine fo_static (by decide) (fo_call (fa_230 rfl) fNs_static fsm_187 (by decide) fFil_3 fna_187 fx_187 (by rw [fP_187]; rfl) fh_230 ?_)
  refine fo_iload (k := 5) (fa_230 rfl) ?_
  refine fo_iload_n (k := 2) (fa_230 rfl) ?_
  refine fo_irem (fa_230 rfl) ?_
  refine fo_static (by decide) (fo_call (fa_230 rfl) fNs_static fsm_186 (by decide) fFil_0 fna_186 fx_186 (by rw [fP_186]; rfl) fh_230 ?_)
  refine fo_iastore (fa_230 rfl) ?_
  refine fo_iinc (k := 5) (fa_230 rfl) fk_c_1 ?_
  exact fo_goto (fa_230 rfl) (pcT := 65) rfl (fo_back (q := 65) rfl)
theorem fs_230_48 : fSB 230 [0, 65] 3 48 f_230_48 := by
  unfold f_230_48
  refine fo_iconst (fa_230 rfl) fk_c_1 ?_
  refine fo_iload_n (k := 2) (fa_230 rfl) ?_
  refine fo_iload_n (k := 2) (fa_230 rfl) ?_
  refine fo_imul (fa_230 rfl) ?_
  refine fo_iadd (fa_230 rfl) ?_
  refine fo_newarray (fa_230 rfl) rfl (by decide) (by decide) fel_20 ?_
  refine fo_astore (k := 4) (fa_230 rfl) ?_
  refine fo_aload (k := 4) (fa_230 rfl) ?_
  refine fo_iconst (fa_230 rfl) fk_c_0 ?_
  refine fo_iload_n (k := 2) (fa_230 rfl) ?_
  refine fo_iastore (fa_230 rfl) ?_
  refine fo_iconst (fa_230 rfl) fk_c_0 ?_
  refine fo_istore (k := 5) (fa_230 rfl) ?_
  exact fs_230_65
theorem fs_230_38 : fSB 230 [0, 65] 3 38 f_230_38 := by
  unfold f_230_38
  refine fo_iconst (fa_230 rfl) fk_c_0 ?_
  refine fo_iconst (fa_230 rfl) fk_c_0 ?_
  refine fo_virtual (by decide) fna_171 (fo_call (fa_230 rfl) fNs_virtual fsm_171 (by decide) fFil_0 fna_171 fx_171 (by rw [fP_171]; rfl) fh_230 ?_)
  refine fo_if_eq (fa_230 rfl) (pcT := 48) rfl fs_230_48 ?_
  refine fo_iconst (fa_230 rfl) fk_c_0 ?_
  exact fo_iret (fa_230 rfl) fr_230 fw_int
theorem fs_230_37 : fSB 230 [0, 65] 3 37 f_230_37 := by
  unfold f_230_37
  refine fo_iconst (fa_230 rfl) fk_c_0 ?_
  exact fs_230_38
theorem fs_230_33 : fSB 230 [0, 65] 3 33 f_230_33 := by
  unfold f_230_33
  refine fo_iconst (fa_230 rfl) fk_c_1 ?_
  exact fo_goto (fa_230 rfl) (pcT := 38) rfl fs_230_38
theorem fs_230_13 : fSB 230 [0, 65] 3 13 f_230_13 := by
  unfold f_230_13
  refine fo_iload_n (k := 2) (fa_230 rfl) ?_
  refine fo_static (by decide) (fo_call (fa_230 rfl) fNs_static fsm_185 (by decide) fFil_0 fna_185 fx_185 (by rw [fP_185]; rfl) fh_230 ?_)
  refine fo_if_eq (fa_230 rfl) (pcT := 33) rfl fs_230_33 ?_
  refine fo_iload_n (k := 3) (fa_230 rfl) ?_
  refine fo_i2l (fa_230 rfl) ?_
  refine fo_lconst (fa_230 rfl) rfl ?_
  refine fo_iload_n (k := 2) (fa_230 rfl) ?_
  refine fo_iconst (fa_230 rfl) fk_c_1 ?_
  refine fo_isub (fa_230 rfl) ?_
  refine fo_i2l (fa_230 rfl) ?_
  refine fo_static (by decide) (fo_call (fa_230 rfl) fNs_static fsm_172 (by decide) fFil_0 fna_172 fx_172 (by rw [fP_172]; rfl) fh_230 ?_)
  refine fo_if_ne (fa_230 rfl) (pcT := 37) rfl fs_230_37 ?_
  exact fs_230_33
theorem fs_230_12 : fSB 230 [0, 65] 3 12 f_230_12 := by
  unfold f_230_12
  refine fo_iconst (fa_230 rfl) fk_c_0 ?_
  exact fs_230_13
theorem fs_230_0 : fSB 230 [0, 65] 3 0 f_230_0 := by
  unfold f_230_0
  refine fo_aload_n (k := 0) (fa_230 rfl) ?_
  refine fo_iload_n (k := 1) (fa_230 rfl) ?_
  refine fo_static (by decide) (fo_call (fa_230 rfl) fNs_static fsm_173 (by decide) fFil_0 fna_173 fx_173 (by rw [fP_173]; rfl) fh_230 ?_)
  refine fo_if_ne (fa_230 rfl) (pcT := 12) rfl fs_230_12 ?_
  refine fo_iconst (fa_230 rfl) fk_c_1 ?_
  exact fo_goto (fa_230 rfl) (pcT := 13) rfl fs_230_13
theorem fsm_230 : fSM 230 3 fm_230 := fs_methH (lp := [0, 65]) (by decide) rfl ⟨fs_230_0, fs_230_65, trivial⟩
theorem fP_231 : mj_P 231 = (8, 4, (some .boolean), mcX8_hasCell, []) := rfl
theorem fa_231 {pc : Nat} {e : mjE} (h : mj_at mcX8_hasCell pc = some e) : fAt 231 pc e := by unfold fAt; rw [fP_231]; exact h
theorem fr_231 : (mj_P 231).2.2.1 = (some .boolean) := by rw [fP_231]
theorem fna_231 : (mj_P 231).2.1 = 4 := by rw [fP_231]
theorem fx_231 : 4 ≤ mj_mx.getD 231 0 := by decide
theorem fh_231 : (mj_P 231).2.2.2.2.isEmpty = true := by rw [fP_231]; rfl
theorem fs_231_53 : fSB 231 [0] 3 53 f_231_53 := by
  unfold f_231_53
  exact fo_iret (fa_231 rfl) fr_231 fw_bool
theorem fs_231_52 : fSB 231 [0] 3 52 f_231_52 := by
  unfold f_231_52
  refine fo_iconst (fa_231 rfl) fk_c_0 ?_
  exact fs_231_53
theorem fs_231_0 : fSB 231 [0] 3 0 f_231_0 := by
  unfold f_231_0
  refine fo_aload_n (k := 0) (fa_231 rfl) ?_
  refine fo_iload_n (k := 1) (fa_231 rfl) ?_
  refine fo_virtual (by decide) fna_176 (fo_call (fa_231 rfl) fNs_virtual fsm_176 (by decide) fFil_0 fna_176 fx_176 (by rw [fP_176]; rfl) fh_231 ?_)
  refine fo_if_eq (fa_231 rfl) (pcT := 52) rfl fs_231_52 ?_
  refine fo_iload_n (k := 2) (fa_231 rfl) ?_
  refine fo_i2l (fa_231 rfl) ?_
  refine fo_lconst (fa_231 rfl) rfl ?_
  refine fo_aload_n (k := 0) (fa_231 rfl) ?_
  refine fo_getr (fa_231 rfl) (by decide) rfl ?_
  refine fo_iload_n (k := 1) (fa_231 rfl) ?_
  refine fo_aaload (fa_231 rfl) (by decide) (by decide) ?_
  refine fo_iconst (fa_231 rfl) fk_c_0 ?_
  refine fo_iaload (fa_231 rfl) ?_
  refine fo_iconst (fa_231 rfl) fk_c_1 ?_
  refine fo_isub (fa_231 rfl) ?_
  refine fo_i2l (fa_231 rfl) ?_
  refine fo_static (by decide) (fo_call (fa_231 rfl) fNs_static fsm_172 (by decide) fFil_0 fna_172 fx_172 (by rw [fP_172]; rfl) fh_231 ?_)
  refine fo_if_eq (fa_231 rfl) (pcT := 52) rfl fs_231_52 ?_
  refine fo_iload_n (k := 3) (fa_231 rfl) ?_
  refine fo_i2l (fa_231 rfl) ?_
  refine fo_lconst (fa_231 rfl) rfl ?_
  refine fo_aload_n (k := 0) (fa_231 rfl) ?_
  refine fo_getr (fa_231 rfl) (by decide) rfl ?_
  refine fo_iload_n (k := 1) (fa_231 rfl) ?_
  refine fo_aaload (fa_231 rfl) (by decide) (by decide) ?_
  refine fo_iconst (fa_231 rfl) fk_c_0 ?_
  refine fo_iaload (fa_231 rfl) ?_
  refine fo_iconst (fa_231 rfl) fk_c_1 ?_
  refine fo_isub (fa_231 rfl) ?_
  refine fo_i2l (fa_231 rfl) ?_
  refine fo_static (by decide) (fo_call (fa_231 rfl) fNs_static fsm_172 (by decide) fFil_0 fna_172 fx_172 (by rw [fP_172]; rfl) fh_231 ?_)
  refine fo_if_eq (fa_231 rfl) (pcT := 52) rfl fs_231_52 ?_
  refine fo_iconst (fa_231 rfl) fk_c_1 ?_
  exact fo_goto (fa_231 rfl) (pcT := 53) rfl fs_231_53
theorem fsm_231 : fSM 231 3 fm_231 := fs_methH (lp := [0]) (by decide) rfl ⟨fs_231_0, trivial⟩
theorem fP_232 : mj_P 232 = (8, 5, (some .int), mcX8_setCell, []) := rfl
theorem fa_232 {pc : Nat} {e : mjE} (h : mj_at mcX8_setCell pc = some e) : fAt 232 pc e := by unfold fAt; rw [fP_232]; exact h
theorem fr_232 : (mj_P 232).2.2.1 = (some .int) := by rw [fP_232]
theorem fna_232 : (mj_P 232).2.1 = 5 := by rw [fP_232]
theorem fx_232 : 5 ≤ mj_mx.getD 232 0 := by decide
theorem fh_232 : (mj_P 232).2.2.2.2.isEmpty = true := by rw [fP_232]; rfl
theorem fs_232_72 : fSB 232 [0] 4 72 f_232_72 := by
  unfold f_232_72
  refine fo_aload_n (k := 0) (fa_232 rfl) ?_
  refine fo_getr (fa_232 rfl) (by decide) rfl ?_
  refine fo_iload_n (k := 1) (fa_232 rfl) ?_
  refine fo_aaload (fa_232 rfl) (by decide) (by decide) ?_
  refine fo_aload_n (k := 0) (fa_232 rfl) ?_
  refine fo_getr (fa_232 rfl) (by decide) rfl ?_
  refine fo_iload_n (k := 1) (fa_232 rfl) ?_
  refine fo_aaload (fa_232 rfl) (by decide) (by decide) ?_
  refine fo_alen (fa_232 rfl) ?_
  refine fo_static (by decide) (fo_call (fa_232 rfl) fNs_static fsm_178 (by decide) fFil_2 fna_178 fx_178 (by rw [fP_178]; rfl) fh_232 ?_)
  refine fo_astore (k := 6) (fa_232 rfl) ?_
  refine fo_iconst (fa_232 rfl) fk_c_1 ?_
  refine fo_aload (k := 6) (fa_232 rfl) ?_
  refine fo_iconst (fa_232 rfl) fk_c_0 ?_
  refine fo_iaload (fa_232 rfl) ?_
  refine fo_iload_n (k := 2) (fa_232 rfl) ?_
  refine fo_imul (fa_232 rfl) ?_
  refine fo_iadd (fa_232 rfl) ?_
  refine fo_iload_n (k := 3) (fa_232 rfl) ?_
  refine fo_iadd (fa_232 rfl) ?_
  refine fo_istore (k := 7) (fa_232 rfl) ?_
  refine fo_aload (k := 6) (fa_232 rfl) ?_
  refine fo_iload (k := 7) (fa_232 rfl) ?_
  refine fo_iaload (fa_232 rfl) ?_
  refine fo_istore (k := 8) (fa_232 rfl) ?_
  refine fo_aload (k := 6) (fa_232 rfl) ?_
  refine fo_iload (k := 7) (fa_232 rfl) ?_
  refine fo_iload (k := 4) (fa_232 rfl) ?_
  refine fo_iastore (fa_232 rfl) ?_
  refine fo_aload_n (k := 0) (fa_232 rfl) ?_
  refine fo_iload_n (k := 1) (fa_232 rfl) ?_
  refine fo_aload (k := 6) (fa_232 rfl) ?_
  refine fo_virtual (by decide) fna_228 (fo_call (fa_232 rfl) fNs_virtual fsm_228 (by decide) fFil_2 fna_228 fx_228 (by rw [fP_228]; rfl) fh_232 ?_)
  refine fo_istore (k := 9) (fa_232 rfl) ?_
  refine fo_iload (k := 8) (fa_232 rfl) ?_
  exact fo_iret (fa_232 rfl) fr_232 fw_int
theorem fs_232_63 : fSB 232 [0] 4 63 f_232_63 := by
  unfold f_232_63
  refine fo_iconst (fa_232 rfl) fk_c_0 ?_
  refine fo_virtual (by decide) fna_171 (fo_call (fa_232 rfl) fNs_virtual fsm_171 (by decide) fFil_0 fna_171 fx_171 (by rw [fP_171]; rfl) fh_232 ?_)
  refine fo_if_eq (fa_232 rfl) (pcT := 72) rfl fs_232_72 ?_
  refine fo_iconst (fa_232 rfl) fk_c_0 ?_
  exact fo_iret (fa_232 rfl) fr_232 fw_int
theorem fs_232_62 : fSB 232 [0] 4 62 f_232_62 := by
  unfold f_232_62
  refine fo_iconst (fa_232 rfl) fk_c_0 ?_
  exact fs_232_63
theorem fs_232_32 : fSB 232 [0] 4 32 f_232_32 := by
  unfold f_232_32
  refine fo_iload (k := 5) (fa_232 rfl) ?_
  refine fo_if_eq (fa_232 rfl) (pcT := 62) rfl fs_232_62 ?_
  refine fo_iload (k := 4) (fa_232 rfl) ?_
  refine fo_i2l (fa_232 rfl) ?_
  refine fo_lconst (fa_232 rfl) rfl ?_
  refine fo_aload_n (k := 0) (fa_232 rfl) ?_
  refine fo_getr (fa_232 rfl) (by decide) rfl ?_
  refine fo_iload_n (k := 1) (fa_232 rfl) ?_
  refine fo_aaload (fa_232 rfl) (by decide) (by decide) ?_
  refine fo_iconst (fa_232 rfl) fk_c_0 ?_
  refine fo_iaload (fa_232 rfl) ?_
  refine fo_iconst (fa_232 rfl) fk_c_1 ?_
  refine fo_isub (fa_232 rfl) ?_
  refine fo_i2l (fa_232 rfl) ?_
  refine fo_static (by decide) (fo_call (fa_232 rfl) fNs_static fsm_172 (by decide) fFil_0 fna_172 fx_172 (by rw [fP_172]; rfl) fh_232 ?_)
  refine fo_if_ne (fa_232 rfl) (pcT := 62) rfl fs_232_62 ?_
  refine fo_iconst (fa_232 rfl) fk_c_1 ?_
  exact fo_goto (fa_232 rfl) (pcT := 63) rfl fs_232_63
theorem fs_232_31 : fSB 232 [0] 4 31 f_232_31 := by
  unfold f_232_31
  refine fo_iconst (fa_232 rfl) fk_c_0 ?_
  exact fs_232_32
theorem fs_232_22 : fSB 232 [0] 4 22 f_232_22 := by
  unfold f_232_22
  refine fo_iload (k := 5) (fa_232 rfl) ?_
  refine fo_if_ne (fa_232 rfl) (pcT := 31) rfl fs_232_31 ?_
  refine fo_iconst (fa_232 rfl) fk_c_1 ?_
  exact fo_goto (fa_232 rfl) (pcT := 32) rfl fs_232_32
theorem fs_232_21 : fSB 232 [0] 4 21 f_232_21 := by
  unfold f_232_21
  refine fo_iconst (fa_232 rfl) fk_c_0 ?_
  exact fs_232_22
theorem fs_232_0 : fSB 232 [0] 4 0 f_232_0 := by
  unfold f_232_0
  refine fo_aload_n (k := 0) (fa_232 rfl) ?_
  refine fo_iload_n (k := 1) (fa_232 rfl) ?_
  refine fo_iload_n (k := 2) (fa_232 rfl) ?_
  refine fo_iload_n (k := 3) (fa_232 rfl) ?_
  refine fo_virtual (by decide) fna_231 (fo_call (fa_232 rfl) fNs_virtual fsm_231 (by decide) fFil_0 fna_231 fx_231 (by rw [fP_231]; rfl) fh_232 ?_)
  refine fo_istore (k := 5) (fa_232 rfl) ?_
  refine fo_aload_n (k := 0) (fa_232 rfl) ?_
  refine fo_iload_n (k := 1) (fa_232 rfl) ?_
  refine fo_static (by decide) (fo_call (fa_232 rfl) fNs_static fsm_173 (by decide) fFil_0 fna_173 fx_173 (by rw [fP_173]; rfl) fh_232 ?_)
  refine fo_if_ne (fa_232 rfl) (pcT := 21) rfl fs_232_21 ?_
  refine fo_iconst (fa_232 rfl) fk_c_1 ?_
  exact fo_goto (fa_232 rfl) (pcT := 22) rfl fs_232_22
theorem fsm_232 : fSM 232 4 fm_232 := fs_methH (lp := [0]) (by decide) rfl ⟨fs_232_0, trivial⟩
theorem fP_233 : mj_P 233 = (8, 2, (some .int), mcX8_order, []) := rfl
theorem fa_233 {pc : Nat} {e : mjE} (h : mj_at mcX8_order pc = some e) : fAt 233 pc e := by unfold fAt; rw [fP_233]; exact h
theorem fr_233 : (mj_P 233).2.2.1 = (some .int) := by rw [fP_233]
theorem fna_233 : (mj_P 233).2.1 = 2 := by rw [fP_233]
theorem fx_233 : 2 ≤ mj_mx.getD 233 0 := by decide
theorem fh_233 : (mj_P 233).2.2.2.2.isEmpty = true := by rw [fP_233]; rfl
theorem fs_233_46 : fSB 233 [0] 3 46 f_233_46 := by
  unfold f_233_46
  exact fo_iret (fa_233 rfl) fr_233 fw_int
theorem fs_233_38 : fSB 233 [0] 3 38 f_233_38 := by
  unfold f_233_38
  refine fo_aload_n (k := 0) (fa_233 rfl) ?_
  refine fo_getr (fa_233 rfl) (by decide) rfl ?_
  refine fo_iload_n (k := 1) (fa_233 rfl) ?_
  refine fo_aaload (fa_233 rfl) (by decide) (by decide) ?_
  refine fo_iconst (fa_233 rfl) fk_c_0 ?_
  refine fo_iaload (fa_233 rfl) ?_
  exact fs_233_46
theorem fs_233_26 : fSB 233 [0] 3 26 f_233_26 := by
  unfold f_233_26
  refine fo_iconst (fa_233 rfl) fk_c_0 ?_
  refine fo_iconst (fa_233 rfl) fk_c_0 ?_
  refine fo_virtual (by decide) fna_171 (fo_call (fa_233 rfl) fNs_virtual fsm_171 (by decide) fFil_0 fna_171 fx_171 (by rw [fP_171]; rfl) fh_233 ?_)
  refine fo_if_eq (fa_233 rfl) (pcT := 38) rfl fs_233_38 ?_
  refine fo_iconst (fa_233 rfl) fk_c_0 ?_
  exact fo_goto (fa_233 rfl) (pcT := 46) rfl fs_233_46
theorem fs_233_25 : fSB 233 [0] 3 25 f_233_25 := by
  unfold f_233_25
  refine fo_iconst (fa_233 rfl) fk_c_0 ?_
  exact fs_233_26
theorem fs_233_13 : fSB 233 [0] 3 13 f_233_13 := by
  unfold f_233_13
  refine fo_aload_n (k := 0) (fa_233 rfl) ?_
  refine fo_iload_n (k := 1) (fa_233 rfl) ?_
  refine fo_virtual (by decide) fna_176 (fo_call (fa_233 rfl) fNs_virtual fsm_176 (by decide) fFil_0 fna_176 fx_176 (by rw [fP_176]; rfl) fh_233 ?_)
  refine fo_if_ne (fa_233 rfl) (pcT := 25) rfl fs_233_25 ?_
  refine fo_iconst (fa_233 rfl) fk_c_1 ?_
  exact fo_goto (fa_233 rfl) (pcT := 26) rfl fs_233_26
theorem fs_233_12 : fSB 233 [0] 3 12 f_233_12 := by
  unfold f_233_12
  refine fo_iconst (fa_233 rfl) fk_c_0 ?_
  exact fs_233_13
theorem fs_233_0 : fSB 233 [0] 3 0 f_233_0 := by
  unfold f_233_0
  refine fo_aload_n (k := 0) (fa_233 rfl) ?_
  refine fo_iload_n (k := 1) (fa_233 rfl) ?_
  refine fo_static (by decide) (fo_call (fa_233 rfl) fNs_static fsm_173 (by decide) fFil_0 fna_173 fx_173 (by rw [fP_173]; rfl) fh_233 ?_)
  refine fo_if_ne (fa_233 rfl) (pcT := 12) rfl fs_233_12 ?_
  refine fo_iconst (fa_233 rfl) fk_c_1 ?_
  exact fo_goto (fa_233 rfl) (pcT := 13) rfl fs_233_13
theorem fsm_233 : fSM 233 3 fm_233 := fs_methH (lp := [0]) (by decide) rfl ⟨fs_233_0, trivial⟩
theorem fP_234 : mj_P 234 = (8, 4, (some .int), mcX8_cell, []) := rfl
theorem fa_234 {pc : Nat} {e : mjE} (h : mj_at mcX8_cell pc = some e) : fAt 234 pc e := by unfold fAt; rw [fP_234]; exact h
theorem fr_234 : (mj_P 234).2.2.1 = (some .int) := by rw [fP_234]
theorem fna_234 : (mj_P 234).2.1 = 4 := by rw [fP_234]
theorem fx_234 : 4 ≤ mj_mx.getD 234 0 := by decide
theorem fh_234 : (mj_P 234).2.2.2.2.isEmpty = true := by rw [fP_234]; rfl
theorem fs_234_61 : fSB 234 [0] 4 61 f_234_61 := by
  unfold f_234_61
  exact fo_iret (fa_234 rfl) fr_234 fw_int
theorem fs_234_40 : fSB 234 [0] 4 40 f_234_40 := by
  unfold f_234_40
  refine fo_aload_n (k := 0) (fa_234 rfl) ?_
  refine fo_getr (fa_234 rfl) (by decide) rfl ?_
  refine fo_iload_n (k := 1) (fa_234 rfl) ?_
  refine fo_aaload (fa_234 rfl) (by decide) (by decide) ?_
  refine fo_iconst (fa_234 rfl) fk_c_1 ?_
  refine fo_aload_n (k := 0) (fa_234 rfl) ?_
  refine fo_getr (fa_234 rfl) (by decide) rfl ?_
  refine fo_iload_n (k := 1) (fa_234 rfl) ?_
  refine fo_aaload (fa_234 rfl) (by decide) (by decide) ?_
  refine fo_iconst (fa_234 rfl) fk_c_0 ?_
  refine fo_iaload (fa_234 rfl) ?_
  refine fo_iload_n (k := 2) (fa_234 rfl) ?_
  refine fo_imul (fa_234 rfl) ?_
  refine fo_iadd (fa_234 rfl) ?_
  refine fo_iload_n (k := 3) (fa_234 rfl) ?_
  refine fo_iadd (fa_234 rfl) ?_
  refine fo_iaload (fa_234 rfl) ?_
  exact fs_234_61
theorem fs_234_28 : fSB 234 [0] 4 28 f_234_28 := by
  unfold f_234_28
  refine fo_iconst (fa_234 rfl) fk_c_0 ?_
  refine fo_iconst (fa_234 rfl) fk_c_0 ?_
  refine fo_virtual (by decide) fna_171 (fo_call (fa_234 rfl) fNs_virtual fsm_171 (by decide) fFil_0 fna_171 fx_171 (by rw [fP_171]; rfl) fh_234 ?_)
  refine fo_if_eq (fa_234 rfl) (pcT := 40) rfl fs_234_40 ?_
  refine fo_iconst (fa_234 rfl) fk_c_0 ?_
  exact fo_goto (fa_234 rfl) (pcT := 61) rfl fs_234_61
theorem fs_234_27 : fSB 234 [0] 4 27 f_234_27 := by
  unfold f_234_27
  refine fo_iconst (fa_234 rfl) fk_c_0 ?_
  exact fs_234_28
theorem fs_234_13 : fSB 234 [0] 4 13 f_234_13 := by
  unfold f_234_13
  refine fo_aload_n (k := 0) (fa_234 rfl) ?_
  refine fo_iload_n (k := 1) (fa_234 rfl) ?_
  refine fo_iload_n (k := 2) (fa_234 rfl) ?_
  refine fo_iload_n (k := 3) (fa_234 rfl) ?_
  refine fo_virtual (by decide) fna_231 (fo_call (fa_234 rfl) fNs_virtual fsm_231 (by decide) fFil_0 fna_231 fx_231 (by rw [fP_231]; rfl) fh_234 ?_)
  refine fo_if_ne (fa_234 rfl) (pcT := 27) rfl fs_234_27 ?_
  refine fo_iconst (fa_234 rfl) fk_c_1 ?_
  exact fo_goto (fa_234 rfl) (pcT := 28) rfl fs_234_28
theorem fs_234_12 : fSB 234 [0] 4 12 f_234_12 := by
  unfold f_234_12
  refine fo_iconst (fa_234 rfl) fk_c_0 ?_
  exact fs_234_13
theorem fs_234_0 : fSB 234 [0] 4 0 f_234_0 := by
  unfold f_234_0
  refine fo_aload_n (k := 0) (fa_234 rfl) ?_
  refine fo_iload_n (k := 1) (fa_234 rfl) ?_
  refine fo_static (by decide) (fo_call (fa_234 rfl) fNs_static fsm_173 (by decide) fFil_0 fna_173 fx_173 (by rw [fP_173]; rfl) fh_234 ?_)
  refine fo_if_ne (fa_234 rfl) (pcT := 12) rfl fs_234_12 ?_
  refine fo_iconst (fa_234 rfl) fk_c_1 ?_
  exact fo_goto (fa_234 rfl) (pcT := 13) rfl fs_234_13
theorem fsm_234 : fSM 234 4 fm_234 := fs_methH (lp := [0]) (by decide) rfl ⟨fs_234_0, trivial⟩
theorem fP_235 : mj_P 235 = (8, 1, (some .boolean), mcX8_isSquare, []) := rfl
theorem fa_235 {pc : Nat} {e : mjE} (h : mj_at mcX8_isSquare pc = some e) : fAt 235 pc e := by unfold fAt; rw [fP_235]; exact h
theorem fr_235 : (mj_P 235).2.2.1 = (some .boolean) := by rw [fP_235]
theorem fna_235 : (mj_P 235).2.1 = 1 := by rw [fP_235]
theorem fx_235 : 1 ≤ mj_mx.getD 235 0 := by decide
theorem fh_235 : (mj_P 235).2.2.2.2.isEmpty = true := by rw [fP_235]; rfl
theorem fs_235_106 : fSB 235 [0, 4, 19] 1 106 f_235_106 := by
  unfold f_235_106
  refine fo_iload_n (k := 1) (fa_235 rfl) ?_
  exact fo_iret (fa_235 rfl) fr_235 fw_bool
theorem fs_235_99 : fSB 235 [0, 4, 19] 1 99 f_235_99 := by
  unfold f_235_99
  refine fo_istore_n (k := 1) (fa_235 rfl) ?_
  refine fo_iinc (k := 2) (fa_235 rfl) fk_c_1 ?_
  exact fo_goto (fa_235 rfl) (pcT := 4) rfl (fo_back (q := 4) rfl)
theorem fs_235_98 : fSB 235 [0, 4, 19] 1 98 f_235_98 := by
  unfold f_235_98
  refine fo_iconst (fa_235 rfl) fk_c_0 ?_
  exact fs_235_99
theorem fs_235_69 : fSB 235 [0, 4, 19] 1 69 f_235_69 := by
  unfold f_235_69
  refine fo_iload_n (k := 1) (fa_235 rfl) ?_
  refine fo_if_eq (fa_235 rfl) (pcT := 98) rfl fs_235_98 ?_
  refine fo_iload_n (k := 3) (fa_235 rfl) ?_
  refine fo_aload_n (k := 0) (fa_235 rfl) ?_
  refine fo_iconst (fa_235 rfl) fk_c_0 ?_
  refine fo_iaload (fa_235 rfl) ?_
  refine fo_static (by decide) (fo_call (fa_235 rfl) fNs_static fsm_183 (by decide) fFil_0 fna_183 fx_183 (by rw [fP_183]; rfl) fh_235 ?_)
  refine fo_icmp_ne (fa_235 rfl) (pcT := 98) rfl fs_235_98 ?_
  refine fo_iload (k := 4) (fa_235 rfl) ?_
  refine fo_aload_n (k := 0) (fa_235 rfl) ?_
  refine fo_iconst (fa_235 rfl) fk_c_0 ?_
  refine fo_iaload (fa_235 rfl) ?_
  refine fo_static (by decide) (fo_call (fa_235 rfl) fNs_static fsm_183 (by decide) fFil_0 fna_183 fx_183 (by rw [fP_183]; rfl) fh_235 ?_)
  refine fo_icmp_ne (fa_235 rfl) (pcT := 98) rfl fs_235_98 ?_
  refine fo_iconst (fa_235 rfl) fk_c_1 ?_
  exact fo_goto (fa_235 rfl) (pcT := 99) rfl fs_235_99
theorem fs_235_19 : fSB 235 [0, 4, 19] 1 19 f_235_19 := by
  unfold f_235_19
  refine fo_iload (k := 5) (fa_235 rfl) ?_
  refine fo_aload_n (k := 0) (fa_235 rfl) ?_
  refine fo_iconst (fa_235 rfl) fk_c_0 ?_
  refine fo_iaload (fa_235 rfl) ?_
  refine fo_icmp_ge (fa_235 rfl) (pcT := 69) rfl fs_235_69 ?_
  refine fo_iload_n (k := 3) (fa_235 rfl) ?_
  refine fo_iconst (fa_235 rfl) fk_c_1 ?_
  refine fo_aload_n (k := 0) (fa_235 rfl) ?_
  refine fo_iconst (fa_235 rfl) fk_c_1 ?_
  refine fo_aload_n (k := 0) (fa_235 rfl) ?_
  refine fo_iconst (fa_235 rfl) fk_c_0 ?_
  refine fo_iaload (fa_235 rfl) ?_
  refine fo_iload_n (k := 2) (fa_235 rfl) ?_
  refine fo_imul (fa_235 rfl) ?_
  refine fo_iadd (fa_235 rfl) ?_
  refine fo_iload (k := 5) (fa_235 rfl) ?_
  refine fo_iadd (fa_235 rfl) ?_
  refine fo_iaload (fa_235 rfl) ?_
  refine fo_ishl (fa_235 rfl) ?_
  refine fo_ior (fa_235 rfl) ?_
  refine fo_istore_n (k := 3) (fa_235 rfl) ?_
  refine fo_iload (k := 4) (fa_235 rfl) ?_
  refine fo_iconst (fa_235 rfl) fk_c_1 ?_
  refine fo_aload_n (k := 0) (fa_235 rfl) ?_
  refine fo_iconst (fa_235 rfl) fk_c_1 ?_
  refine fo_aload_n (k := 0) (fa_235 rfl) ?_
  refine fo_iconst (fa_235 rfl) fk_c_0 ?_
  refine fo_iaload (fa_235 rfl) ?_
  refine fo_iload (k := 5) (fa_235 rfl) ?_
  refine fo_imul (fa_235 rfl) ?_
  refine fo_iadd (fa_235 rfl) ?_
  refine fo_iload_n (k := 2) (fa_235 rfl) ?_
  refine fo_iadd (fa_235 rfl) ?_
  refine fo_iaload (fa_235 rfl) ?_
  refine fo_ishl (fa_235 rfl) ?_
  refine fo_ior (fa_235 rfl) ?_
  refine fo_istore (k := 4) (fa_235 rfl) ?_
  refine fo_iinc (k := 5) (fa_235 rfl) fk_c_1 ?_
  exact fo_goto (fa_235 rfl) (pcT := 19) rfl (fo_back (q := 19) rfl)
theorem fs_235_4 : fSB 235 [0, 4, 19] 1 4 f_235_4 := by
  unfold f_235_4
  refine fo_iload_n (k := 2) (fa_235 rfl) ?_
  refine fo_aload_n (k := 0) (fa_235 rfl) ?_
  refine fo_iconst (fa_235 rfl) fk_c_0 ?_
  refine fo_iaload (fa_235 rfl) ?_
  refine fo_icmp_ge (fa_235 rfl) (pcT := 106) rfl fs_235_106 ?_
  refine fo_iconst (fa_235 rfl) fk_c_0 ?_
  refine fo_istore_n (k := 3) (fa_235 rfl) ?_
  refine fo_iconst (fa_235 rfl) fk_c_0 ?_
  refine fo_istore (k := 4) (fa_235 rfl) ?_
  refine fo_iconst (fa_235 rfl) fk_c_0 ?_
  refine fo_istore (k := 5) (fa_235 rfl) ?_
  exact fs_235_19
theorem fs_235_0 : fSB 235 [0, 4, 19] 1 0 f_235_0 := by
  unfold f_235_0
  refine fo_iconst (fa_235 rfl) fk_c_1 ?_
  refine fo_istore_n (k := 1) (fa_235 rfl) ?_
  refine fo_iconst (fa_235 rfl) fk_c_0 ?_
  refine fo_istore_n (k := 2) (fa_235 rfl) ?_
  exact fs_235_4
theorem fsm_235 : fSM 235 1 fm_235 := fs_methH (lp := [0, 4, 19]) (by decide) rfl ⟨fs_235_0, fs_235_4, fs_235_19, trivial⟩
theorem fP_236 : mj_P 236 = (8, 2, (some .boolean), mcX8_isSquare_, []) := rfl
theorem fa_236 {pc : Nat} {e : mjE} (h : mj_at mcX8_isSquare_ pc = some e) : fAt 236 pc e := by unfold fAt; rw [fP_236]; exact h
theorem fr_236 : (mj_P 236).2.2.1 = (some .boolean) := by rw [fP_236]
theorem fna_236 : (mj_P 236).2.1 = 2 := by rw [fP_236]
theorem fx_236 : 2 ≤ mj_mx.getD 236 0 := by decide
theorem fh_236 : (mj_P 236).2.2.2.2.isEmpty = true := by rw [fP_236]; rfl
theorem fs_236_51 : fSB 236 [0] 3 51 f_236_51 := by
  unfold f_236_51
  exact fo_iret (fa_236 rfl) fr_236 fw_bool
theorem fs_236_50 : fSB 236 [0] 3 50 f_236_50 := by
  unfold f_236_50
  refine fo_iconst (fa_236 rfl) fk_c_0 ?_
  exact fs_236_51
theorem fs_236_26 : fSB 236 [0] 3 26 f_236_26 := by
  unfold f_236_26
  refine fo_iconst (fa_236 rfl) fk_c_0 ?_
  refine fo_iconst (fa_236 rfl) fk_c_0 ?_
  refine fo_virtual (by decide) fna_171 (fo_call (fa_236 rfl) fNs_virtual fsm_171 (by decide) fFil_0 fna_171 fx_171 (by rw [fP_171]; rfl) fh_236 ?_)
  refine fo_if_ne (fa_236 rfl) (pcT := 50) rfl fs_236_50 ?_
  refine fo_aload_n (k := 0) (fa_236 rfl) ?_
  refine fo_getr (fa_236 rfl) (by decide) rfl ?_
  refine fo_iload_n (k := 1) (fa_236 rfl) ?_
  refine fo_aaload (fa_236 rfl) (by decide) (by decide) ?_
  refine fo_static (by decide) (fo_call (fa_236 rfl) fNs_static fsm_235 (by decide) fFil_5 fna_235 fx_235 (by rw [fP_235]; rfl) fh_236 ?_)
  refine fo_if_eq (fa_236 rfl) (pcT := 50) rfl fs_236_50 ?_
  refine fo_iconst (fa_236 rfl) fk_c_1 ?_
  exact fo_goto (fa_236 rfl) (pcT := 51) rfl fs_236_51
theorem fs_236_25 : fSB 236 [0] 3 25 f_236_25 := by
  unfold f_236_25
  refine fo_iconst (fa_236 rfl) fk_c_0 ?_
  exact fs_236_26
theorem fs_236_13 : fSB 236 [0] 3 13 f_236_13 := by
  unfold f_236_13
  refine fo_aload_n (k := 0) (fa_236 rfl) ?_
  refine fo_iload_n (k := 1) (fa_236 rfl) ?_
  refine fo_virtual (by decide) fna_176 (fo_call (fa_236 rfl) fNs_virtual fsm_176 (by decide) fFil_0 fna_176 fx_176 (by rw [fP_176]; rfl) fh_236 ?_)
  refine fo_if_ne (fa_236 rfl) (pcT := 25) rfl fs_236_25 ?_
  refine fo_iconst (fa_236 rfl) fk_c_1 ?_
  exact fo_goto (fa_236 rfl) (pcT := 26) rfl fs_236_26
theorem fs_236_12 : fSB 236 [0] 3 12 f_236_12 := by
  unfold f_236_12
  refine fo_iconst (fa_236 rfl) fk_c_0 ?_
  exact fs_236_13
theorem fs_236_0 : fSB 236 [0] 3 0 f_236_0 := by
  unfold f_236_0
  refine fo_aload_n (k := 0) (fa_236 rfl) ?_
  refine fo_iload_n (k := 1) (fa_236 rfl) ?_
  refine fo_static (by decide) (fo_call (fa_236 rfl) fNs_static fsm_173 (by decide) fFil_0 fna_173 fx_173 (by rw [fP_173]; rfl) fh_236 ?_)
  refine fo_if_ne (fa_236 rfl) (pcT := 12) rfl fs_236_12 ?_
  refine fo_iconst (fa_236 rfl) fk_c_1 ?_
  exact fo_goto (fa_236 rfl) (pcT := 13) rfl fs_236_13
theorem fsm_236 : fSM 236 3 fm_236 := fs_methH (lp := [0]) (by decide) rfl ⟨fs_236_0, trivial⟩
theorem fP_237 : mj_P 237 = (8, 4, (some .int), mcX8_turn, []) := rfl
theorem fa_237 {pc : Nat} {e : mjE} (h : mj_at mcX8_turn pc = some e) : fAt 237 pc e := by unfold fAt; rw [fP_237]; exact h
theorem fr_237 : (mj_P 237).2.2.1 = (some .int) := by rw [fP_237]
theorem fna_237 : (mj_P 237).2.1 = 4 := by rw [fP_237]
theorem fx_237 : 4 ≤ mj_mx.getD 237 0 := by decide
theorem fh_237 : (mj_P 237).2.2.2.2.isEmpty = true := by rw [fP_237]; rfl
theorem fs_237_204 : fSB 237 [0, 127] 3 204 f_237_204 := by
  unfold f_237_204
  refine fo_aload_n (k := 0) (fa_237 rfl) ?_
  refine fo_iload_n (k := 3) (fa_237 rfl) ?_
  refine fo_aload (k := 7) (fa_237 rfl) ?_
  refine fo_virtual (by decide) fna_228 (fo_call (fa_237 rfl) fNs_virtual fsm_228 (by decide) fFil_2 fna_228 fx_228 (by rw [fP_228]; rfl) fh_237 ?_)
  refine fo_istore (k := 9) (fa_237 rfl) ?_
  refine fo_aload (k := 7) (fa_237 rfl) ?_
  refine fo_iconst (fa_237 rfl) fk_c_1 ?_
  refine fo_iaload (fa_237 rfl) ?_
  exact fo_iret (fa_237 rfl) fr_237 fw_int
theorem fs_237_198 : fSB 237 [0, 127] 3 198 f_237_198 := by
  unfold f_237_198
  refine fo_iinc (k := 9) (fa_237 rfl) fk_c_1 ?_
  exact fo_goto (fa_237 rfl) (pcT := 127) rfl (fo_back (q := 127) rfl)
theorem fs_237_178 : fSB 237 [0, 127] 3 178 f_237_178 := by
  unfold f_237_178
  refine fo_aload (k := 7) (fa_237 rfl) ?_
  refine fo_iconst (fa_237 rfl) fk_c_1 ?_
  refine fo_iload (k := 8) (fa_237 rfl) ?_
  refine fo_iload (k := 11) (fa_237 rfl) ?_
  refine fo_imul (fa_237 rfl) ?_
  refine fo_iadd (fa_237 rfl) ?_
  refine fo_iload (k := 10) (fa_237 rfl) ?_
  refine fo_iadd (fa_237 rfl) ?_
  refine fo_aload (k := 6) (fa_237 rfl) ?_
  refine fo_iconst (fa_237 rfl) fk_c_1 ?_
  refine fo_iload (k := 9) (fa_237 rfl) ?_
  refine fo_iadd (fa_237 rfl) ?_
  refine fo_iaload (fa_237 rfl) ?_
  refine fo_iastore (fa_237 rfl) ?_
  exact fs_237_198
theorem fs_237_127 : fSB 237 [0, 127] 3 127 f_237_127 := by
  unfold f_237_127
  refine fo_iload (k := 9) (fa_237 rfl) ?_
  refine fo_iload (k := 8) (fa_237 rfl) ?_
  refine fo_iload (k := 8) (fa_237 rfl) ?_
  refine fo_imul (fa_237 rfl) ?_
  refine fo_icmp_ge (fa_237 rfl) (pcT := 204) rfl fs_237_204 ?_
  refine fo_iload (k := 9) (fa_237 rfl) ?_
  refine fo_iload (k := 8) (fa_237 rfl) ?_
  refine fo_idiv (fa_237 rfl) ?_
  refine fo_istore (k := 10) (fa_237 rfl) ?_
  refine fo_iload (k := 9) (fa_237 rfl) ?_
  refine fo_iload (k := 8) (fa_237 rfl) ?_
  refine fo_irem (fa_237 rfl) ?_
  refine fo_istore (k := 11) (fa_237 rfl) ?_
  refine fo_iload_n (k := 2) (fa_237 rfl) ?_
  refine fo_if_eq (fa_237 rfl) (pcT := 178) rfl fs_237_178 ?_
  refine fo_aload (k := 7) (fa_237 rfl) ?_
  refine fo_iconst (fa_237 rfl) fk_c_1 ?_
  refine fo_iload (k := 8) (fa_237 rfl) ?_
  refine fo_iload (k := 10) (fa_237 rfl) ?_
  refine fo_imul (fa_237 rfl) ?_
  refine fo_iadd (fa_237 rfl) ?_
  refine fo_aload (k := 6) (fa_237 rfl) ?_
  refine fo_iconst (fa_237 rfl) fk_c_1 ?_
  refine fo_iload (k := 9) (fa_237 rfl) ?_
  refine fo_iadd (fa_237 rfl) ?_
  refine fo_iaload (fa_237 rfl) ?_
  refine fo_iadd (fa_237 rfl) ?_
  refine fo_iload (k := 11) (fa_237 rfl) ?_
  refine fo_iastore (fa_237 rfl) ?_
  exact fo_goto (fa_237 rfl) (pcT := 198) rfl fs_237_198
theorem fs_237_97 : fSB 237 [0, 127] 3 97 f_237_97 := by
  unfold f_237_97
  refine fo_aload_n (k := 0) (fa_237 rfl) ?_
  refine fo_getr (fa_237 rfl) (by decide) rfl ?_
  refine fo_iload_n (k := 1) (fa_237 rfl) ?_
  refine fo_aaload (fa_237 rfl) (by decide) (by decide) ?_
  refine fo_astore (k := 6) (fa_237 rfl) ?_
  refine fo_aload (k := 6) (fa_237 rfl) ?_
  refine fo_alen (fa_237 rfl) ?_
  refine fo_newarray (fa_237 rfl) rfl (by decide) (by decide) fel_20 ?_
  refine fo_astore (k := 7) (fa_237 rfl) ?_
  refine fo_aload (k := 6) (fa_237 rfl) ?_
  refine fo_iconst (fa_237 rfl) fk_c_0 ?_
  refine fo_iaload (fa_237 rfl) ?_
  refine fo_istore (k := 8) (fa_237 rfl) ?_
  refine fo_aload (k := 7) (fa_237 rfl) ?_
  refine fo_iconst (fa_237 rfl) fk_c_0 ?_
  refine fo_iload (k := 8) (fa_237 rfl) ?_
  refine fo_iastore (fa_237 rfl) ?_
  refine fo_iconst (fa_237 rfl) fk_c_0 ?_
  refine fo_istore (k := 9) (fa_237 rfl) ?_
  exact fs_237_127
theorem fs_237_88 : fSB 237 [0, 127] 3 88 f_237_88 := by
  unfold f_237_88
  refine fo_iconst (fa_237 rfl) fk_c_0 ?_
  refine fo_virtual (by decide) fna_171 (fo_call (fa_237 rfl) fNs_virtual fsm_171 (by decide) fFil_0 fna_171 fx_171 (by rw [fP_171]; rfl) fh_237 ?_)
  refine fo_if_eq (fa_237 rfl) (pcT := 97) rfl fs_237_97 ?_
  refine fo_iconst (fa_237 rfl) fk_c_0 ?_
  exact fo_iret (fa_237 rfl) fr_237 fw_int
theorem fs_237_87 : fSB 237 [0, 127] 3 87 f_237_87 := by
  unfold f_237_87
  refine fo_iconst (fa_237 rfl) fk_c_0 ?_
  exact fs_237_88
theorem fs_237_62 : fSB 237 [0, 127] 3 62 f_237_62 := by
  unfold f_237_62
  refine fo_iload (k := 5) (fa_237 rfl) ?_
  refine fo_if_eq (fa_237 rfl) (pcT := 87) rfl fs_237_87 ?_
  refine fo_iload_n (k := 2) (fa_237 rfl) ?_
  refine fo_if_eq (fa_237 rfl) (pcT := 87) rfl fs_237_87 ?_
  refine fo_aload_n (k := 0) (fa_237 rfl) ?_
  refine fo_getr (fa_237 rfl) (by decide) rfl ?_
  refine fo_iload_n (k := 1) (fa_237 rfl) ?_
  refine fo_aaload (fa_237 rfl) (by decide) (by decide) ?_
  refine fo_static (by decide) (fo_call (fa_237 rfl) fNs_static fsm_235 (by decide) fFil_5 fna_235 fx_235 (by rw [fP_235]; rfl) fh_237 ?_)
  refine fo_if_ne (fa_237 rfl) (pcT := 87) rfl fs_237_87 ?_
  refine fo_iconst (fa_237 rfl) fk_c_1 ?_
  exact fo_goto (fa_237 rfl) (pcT := 88) rfl fs_237_88
theorem fs_237_61 : fSB 237 [0, 127] 3 61 f_237_61 := by
  unfold f_237_61
  refine fo_iconst (fa_237 rfl) fk_c_0 ?_
  exact fs_237_62
theorem fs_237_52 : fSB 237 [0, 127] 3 52 f_237_52 := by
  unfold f_237_52
  refine fo_iload (k := 5) (fa_237 rfl) ?_
  refine fo_if_ne (fa_237 rfl) (pcT := 61) rfl fs_237_61 ?_
  refine fo_iconst (fa_237 rfl) fk_c_1 ?_
  exact fo_goto (fa_237 rfl) (pcT := 62) rfl fs_237_62
theorem fs_237_51 : fSB 237 [0, 127] 3 51 f_237_51 := by
  unfold f_237_51
  refine fo_iconst (fa_237 rfl) fk_c_0 ?_
  exact fs_237_52
theorem fs_237_39 : fSB 237 [0, 127] 3 39 f_237_39 := by
  unfold f_237_39
  refine fo_istore (k := 5) (fa_237 rfl) ?_
  refine fo_aload_n (k := 0) (fa_237 rfl) ?_
  refine fo_iload (k := 4) (fa_237 rfl) ?_
  refine fo_if_ne (fa_237 rfl) (pcT := 51) rfl fs_237_51 ?_
  refine fo_iconst (fa_237 rfl) fk_c_1 ?_
  exact fo_goto (fa_237 rfl) (pcT := 52) rfl fs_237_52
theorem fs_237_38 : fSB 237 [0, 127] 3 38 f_237_38 := by
  unfold f_237_38
  refine fo_iconst (fa_237 rfl) fk_c_0 ?_
  exact fs_237_39
theorem fs_237_19 : fSB 237 [0, 127] 3 19 f_237_19 := by
  unfold f_237_19
  refine fo_istore (k := 4) (fa_237 rfl) ?_
  refine fo_iload (k := 4) (fa_237 rfl) ?_
  refine fo_if_eq (fa_237 rfl) (pcT := 38) rfl fs_237_38 ?_
  refine fo_aload_n (k := 0) (fa_237 rfl) ?_
  refine fo_iload_n (k := 1) (fa_237 rfl) ?_
  refine fo_virtual (by decide) fna_176 (fo_call (fa_237 rfl) fNs_virtual fsm_176 (by decide) fFil_0 fna_176 fx_176 (by rw [fP_176]; rfl) fh_237 ?_)
  refine fo_if_eq (fa_237 rfl) (pcT := 38) rfl fs_237_38 ?_
  refine fo_iconst (fa_237 rfl) fk_c_1 ?_
  exact fo_goto (fa_237 rfl) (pcT := 39) rfl fs_237_39
theorem fs_237_18 : fSB 237 [0, 127] 3 18 f_237_18 := by
  unfold f_237_18
  refine fo_iconst (fa_237 rfl) fk_c_0 ?_
  exact fs_237_19
theorem fs_237_0 : fSB 237 [0, 127] 3 0 f_237_0 := by
  unfold f_237_0
  refine fo_iload_n (k := 1) (fa_237 rfl) ?_
  refine fo_static (by decide) (fo_call (fa_237 rfl) fNs_static fsm_173 (by decide) fFil_0 fna_173 fx_173 (by rw [fP_173]; rfl) fh_237 ?_)
  refine fo_if_eq (fa_237 rfl) (pcT := 18) rfl fs_237_18 ?_
  refine fo_iload_n (k := 3) (fa_237 rfl) ?_
  refine fo_static (by decide) (fo_call (fa_237 rfl) fNs_static fsm_173 (by decide) fFil_0 fna_173 fx_173 (by rw [fP_173]; rfl) fh_237 ?_)
  refine fo_if_eq (fa_237 rfl) (pcT := 18) rfl fs_237_18 ?_
  refine fo_iconst (fa_237 rfl) fk_c_1 ?_
  exact fo_goto (fa_237 rfl) (pcT := 19) rfl fs_237_19
theorem fsm_237 : fSM 237 3 fm_237 := fs_methH (lp := [0, 127]) (by decide) rfl ⟨fs_237_0, fs_237_127, trivial⟩
theorem fP_238 : mj_P 238 = (8, 2, (some .boolean), mcX8_areApart, []) := rfl
theorem fa_238 {pc : Nat} {e : mjE} (h : mj_at mcX8_areApart pc = some e) : fAt 238 pc e := by unfold fAt; rw [fP_238]; exact h
theorem fr_238 : (mj_P 238).2.2.1 = (some .boolean) := by rw [fP_238]
theorem fna_238 : (mj_P 238).2.1 = 2 := by rw [fP_238]
theorem fx_238 : 2 ≤ mj_mx.getD 238 0 := by decide
theorem fh_238 : (mj_P 238).2.2.2.2.isEmpty = true := by rw [fP_238]; rfl
theorem fs_238_60 : fSB 238 [0, 10] 0 60 f_238_60 := by
  unfold f_238_60
  refine fo_iload_n (k := 3) (fa_238 rfl) ?_
  exact fo_iret (fa_238 rfl) fr_238 fw_bool
theorem fs_238_48 : fSB 238 [0, 10] 0 48 f_238_48 := by
  unfold f_238_48
  refine fo_istore_n (k := 3) (fa_238 rfl) ?_
  refine fo_aload_n (k := 2) (fa_238 rfl) ?_
  refine fo_iload (k := 5) (fa_238 rfl) ?_
  refine fo_iconst (fa_238 rfl) fk_c_1 ?_
  refine fo_bastore (fa_238 rfl) ?_
  refine fo_iinc (k := 4) (fa_238 rfl) fk_c_1 ?_
  exact fo_goto (fa_238 rfl) (pcT := 10) rfl (fo_back (q := 10) rfl)
theorem fs_238_47 : fSB 238 [0, 10] 0 47 f_238_47 := by
  unfold f_238_47
  refine fo_iconst (fa_238 rfl) fk_c_0 ?_
  exact fs_238_48
theorem fs_238_10 : fSB 238 [0, 10] 0 10 f_238_10 := by
  unfold f_238_10
  refine fo_iload (k := 4) (fa_238 rfl) ?_
  refine fo_aload_n (k := 0) (fa_238 rfl) ?_
  refine fo_alen (fa_238 rfl) ?_
  refine fo_icmp_ge (fa_238 rfl) (pcT := 60) rfl fs_238_60 ?_
  refine fo_aload_n (k := 0) (fa_238 rfl) ?_
  refine fo_iconst (fa_238 rfl) fk_c_0 ?_
  refine fo_iaload (fa_238 rfl) ?_
  refine fo_aload_n (k := 0) (fa_238 rfl) ?_
  refine fo_iload (k := 4) (fa_238 rfl) ?_
  refine fo_iaload (fa_238 rfl) ?_
  refine fo_imul (fa_238 rfl) ?_
  refine fo_aload_n (k := 1) (fa_238 rfl) ?_
  refine fo_iload (k := 4) (fa_238 rfl) ?_
  refine fo_iaload (fa_238 rfl) ?_
  refine fo_iadd (fa_238 rfl) ?_
  refine fo_istore (k := 5) (fa_238 rfl) ?_
  refine fo_iload_n (k := 3) (fa_238 rfl) ?_
  refine fo_if_eq (fa_238 rfl) (pcT := 47) rfl fs_238_47 ?_
  refine fo_aload_n (k := 2) (fa_238 rfl) ?_
  refine fo_iload (k := 5) (fa_238 rfl) ?_
  refine fo_baload (fa_238 rfl) ?_
  refine fo_if_ne (fa_238 rfl) (pcT := 47) rfl fs_238_47 ?_
  refine fo_iconst (fa_238 rfl) fk_c_1 ?_
  exact fo_goto (fa_238 rfl) (pcT := 48) rfl fs_238_48
theorem fs_238_0 : fSB 238 [0, 10] 0 0 f_238_0 := by
  unfold f_238_0
  refine fo_bipush (fa_238 rfl) fk_b_81 ?_
  refine fo_newarray (fa_238 rfl) rfl (by decide) (by decide) fel_23 ?_
  refine fo_astore_n (k := 2) (fa_238 rfl) ?_
  refine fo_iconst (fa_238 rfl) fk_c_1 ?_
  refine fo_istore_n (k := 3) (fa_238 rfl) ?_
  refine fo_iconst (fa_238 rfl) fk_c_1 ?_
  refine fo_istore (k := 4) (fa_238 rfl) ?_
  exact fs_238_10
theorem fsm_238 : fSM 238 0 fm_238 := fs_methH (lp := [0, 10]) (by decide) rfl ⟨fs_238_0, fs_238_10, trivial⟩
theorem fP_239 : mj_P 239 = (8, 3, (some .boolean), mcX8_areApart_, []) := rfl
theorem fa_239 {pc : Nat} {e : mjE} (h : mj_at mcX8_areApart_ pc = some e) : fAt 239 pc e := by unfold fAt; rw [fP_239]; exact h
theorem fr_239 : (mj_P 239).2.2.1 = (some .boolean) := by rw [fP_239]
theorem fna_239 : (mj_P 239).2.1 = 3 := by rw [fP_239]
theorem fx_239 : 3 ≤ mj_mx.getD 239 0 := by decide
theorem fh_239 : (mj_P 239).2.2.2.2.isEmpty = true := by rw [fP_239]; rfl
theorem fs_239_162 : fSB 239 [0] 3 162 f_239_162 := by
  unfold f_239_162
  exact fo_iret (fa_239 rfl) fr_239 fw_bool
theorem fs_239_161 : fSB 239 [0] 3 161 f_239_161 := by
  unfold f_239_161
  refine fo_iconst (fa_239 rfl) fk_c_0 ?_
  exact fs_239_162
theorem fs_239_132 : fSB 239 [0] 3 132 f_239_132 := by
  unfold f_239_132
  refine fo_iconst (fa_239 rfl) fk_c_0 ?_
  refine fo_virtual (by decide) fna_171 (fo_call (fa_239 rfl) fNs_virtual fsm_171 (by decide) fFil_0 fna_171 fx_171 (by rw [fP_171]; rfl) fh_239 ?_)
  refine fo_if_ne (fa_239 rfl) (pcT := 161) rfl fs_239_161 ?_
  refine fo_aload_n (k := 0) (fa_239 rfl) ?_
  refine fo_getr (fa_239 rfl) (by decide) rfl ?_
  refine fo_iload_n (k := 1) (fa_239 rfl) ?_
  refine fo_aaload (fa_239 rfl) (by decide) (by decide) ?_
  refine fo_aload_n (k := 0) (fa_239 rfl) ?_
  refine fo_getr (fa_239 rfl) (by decide) rfl ?_
  refine fo_iload_n (k := 2) (fa_239 rfl) ?_
  refine fo_aaload (fa_239 rfl) (by decide) (by decide) ?_
  refine fo_static (by decide) (fo_call (fa_239 rfl) fNs_static fsm_238 (by decide) fFil_4 fna_238 fx_238 (by rw [fP_238]; rfl) fh_239 ?_)
  refine fo_if_eq (fa_239 rfl) (pcT := 161) rfl fs_239_161 ?_
  refine fo_iconst (fa_239 rfl) fk_c_1 ?_
  exact fo_goto (fa_239 rfl) (pcT := 162) rfl fs_239_162
theorem fs_239_131 : fSB 239 [0] 3 131 f_239_131 := by
  unfold f_239_131
  refine fo_iconst (fa_239 rfl) fk_c_0 ?_
  exact fs_239_132
theorem fs_239_122 : fSB 239 [0] 3 122 f_239_122 := by
  unfold f_239_122
  refine fo_iload (k := 5) (fa_239 rfl) ?_
  refine fo_if_ne (fa_239 rfl) (pcT := 131) rfl fs_239_131 ?_
  refine fo_iconst (fa_239 rfl) fk_c_1 ?_
  exact fo_goto (fa_239 rfl) (pcT := 132) rfl fs_239_132
theorem fs_239_121 : fSB 239 [0] 3 121 f_239_121 := by
  unfold f_239_121
  refine fo_iconst (fa_239 rfl) fk_c_0 ?_
  exact fs_239_122
theorem fs_239_112 : fSB 239 [0] 3 112 f_239_112 := by
  unfold f_239_112
  refine fo_iload (k := 4) (fa_239 rfl) ?_
  refine fo_if_ne (fa_239 rfl) (pcT := 121) rfl fs_239_121 ?_
  refine fo_iconst (fa_239 rfl) fk_c_1 ?_
  exact fo_goto (fa_239 rfl) (pcT := 122) rfl fs_239_122
theorem fs_239_111 : fSB 239 [0] 3 111 f_239_111 := by
  unfold f_239_111
  refine fo_iconst (fa_239 rfl) fk_c_0 ?_
  exact fs_239_112
theorem fs_239_100 : fSB 239 [0] 3 100 f_239_100 := by
  unfold f_239_100
  refine fo_istore (k := 5) (fa_239 rfl) ?_
  refine fo_aload_n (k := 0) (fa_239 rfl) ?_
  refine fo_iload_n (k := 3) (fa_239 rfl) ?_
  refine fo_if_ne (fa_239 rfl) (pcT := 111) rfl fs_239_111 ?_
  refine fo_iconst (fa_239 rfl) fk_c_1 ?_
  exact fo_goto (fa_239 rfl) (pcT := 112) rfl fs_239_112
theorem fs_239_99 : fSB 239 [0] 3 99 f_239_99 := by
  unfold f_239_99
  refine fo_iconst (fa_239 rfl) fk_c_0 ?_
  exact fs_239_100
theorem fs_239_45 : fSB 239 [0] 3 45 f_239_45 := by
  unfold f_239_45
  refine fo_istore (k := 4) (fa_239 rfl) ?_
  refine fo_iload (k := 4) (fa_239 rfl) ?_
  refine fo_if_eq (fa_239 rfl) (pcT := 99) rfl fs_239_99 ?_
  refine fo_aload_n (k := 0) (fa_239 rfl) ?_
  refine fo_getr (fa_239 rfl) (by decide) rfl ?_
  refine fo_iload_n (k := 1) (fa_239 rfl) ?_
  refine fo_aaload (fa_239 rfl) (by decide) (by decide) ?_
  refine fo_static (by decide) (fo_call (fa_239 rfl) fNs_static fsm_235 (by decide) fFil_5 fna_235 fx_235 (by rw [fP_235]; rfl) fh_239 ?_)
  refine fo_if_eq (fa_239 rfl) (pcT := 99) rfl fs_239_99 ?_
  refine fo_aload_n (k := 0) (fa_239 rfl) ?_
  refine fo_getr (fa_239 rfl) (by decide) rfl ?_
  refine fo_iload_n (k := 2) (fa_239 rfl) ?_
  refine fo_aaload (fa_239 rfl) (by decide) (by decide) ?_
  refine fo_static (by decide) (fo_call (fa_239 rfl) fNs_static fsm_235 (by decide) fFil_5 fna_235 fx_235 (by rw [fP_235]; rfl) fh_239 ?_)
  refine fo_if_eq (fa_239 rfl) (pcT := 99) rfl fs_239_99 ?_
  refine fo_aload_n (k := 0) (fa_239 rfl) ?_
  refine fo_getr (fa_239 rfl) (by decide) rfl ?_
  refine fo_iload_n (k := 1) (fa_239 rfl) ?_
  refine fo_aaload (fa_239 rfl) (by decide) (by decide) ?_
  refine fo_iconst (fa_239 rfl) fk_c_0 ?_
  refine fo_iaload (fa_239 rfl) ?_
  refine fo_aload_n (k := 0) (fa_239 rfl) ?_
  refine fo_getr (fa_239 rfl) (by decide) rfl ?_
  refine fo_iload_n (k := 2) (fa_239 rfl) ?_
  refine fo_aaload (fa_239 rfl) (by decide) (by decide) ?_
  refine fo_iconst (fa_239 rfl) fk_c_0 ?_
  refine fo_iaload (fa_239 rfl) ?_
  refine fo_icmp_ne (fa_239 rfl) (pcT := 99) rfl fs_239_99 ?_
  refine fo_iconst (fa_239 rfl) fk_c_1 ?_
  exact fo_goto (fa_239 rfl) (pcT := 100) rfl fs_239_100
theorem fs_239_44 : fSB 239 [0] 3 44 f_239_44 := by
  unfold f_239_44
  refine fo_iconst (fa_239 rfl) fk_c_0 ?_
  exact fs_239_45
theorem fs_239_19 : fSB 239 [0] 3 19 f_239_19 := by
  unfold f_239_19
  refine fo_istore_n (k := 3) (fa_239 rfl) ?_
  refine fo_iload_n (k := 3) (fa_239 rfl) ?_
  refine fo_if_eq (fa_239 rfl) (pcT := 44) rfl fs_239_44 ?_
  refine fo_aload_n (k := 0) (fa_239 rfl) ?_
  refine fo_iload_n (k := 1) (fa_239 rfl) ?_
  refine fo_virtual (by decide) fna_176 (fo_call (fa_239 rfl) fNs_virtual fsm_176 (by decide) fFil_0 fna_176 fx_176 (by rw [fP_176]; rfl) fh_239 ?_)
  refine fo_if_eq (fa_239 rfl) (pcT := 44) rfl fs_239_44 ?_
  refine fo_aload_n (k := 0) (fa_239 rfl) ?_
  refine fo_iload_n (k := 2) (fa_239 rfl) ?_
  refine fo_virtual (by decide) fna_176 (fo_call (fa_239 rfl) fNs_virtual fsm_176 (by decide) fFil_0 fna_176 fx_176 (by rw [fP_176]; rfl) fh_239 ?_)
  refine fo_if_eq (fa_239 rfl) (pcT := 44) rfl fs_239_44 ?_
  refine fo_iconst (fa_239 rfl) fk_c_1 ?_
  exact fo_goto (fa_239 rfl) (pcT := 45) rfl fs_239_45
theorem fs_239_18 : fSB 239 [0] 3 18 f_239_18 := by
  unfold f_239_18
  refine fo_iconst (fa_239 rfl) fk_c_0 ?_
  exact fs_239_19
theorem fs_239_0 : fSB 239 [0] 3 0 f_239_0 := by
  unfold f_239_0
  refine fo_iload_n (k := 1) (fa_239 rfl) ?_
  refine fo_static (by decide) (fo_call (fa_239 rfl) fNs_static fsm_173 (by decide) fFil_0 fna_173 fx_173 (by rw [fP_173]; rfl) fh_239 ?_)
  refine fo_if_eq (fa_239 rfl) (pcT := 18) rfl fs_239_18 ?_
  refine fo_iload_n (k := 2) (fa_239 rfl) ?_
  refine fo_static (by decide) (fo_call (fa_239 rfl) fNs_static fsm_173 (by decide) fFil_0 fna_173 fx_173 (by rw [fP_173]; rfl) fh_239 ?_)
  refine fo_if_eq (fa_239 rfl) (pcT := 18) rfl fs_239_18 ?_
  refine fo_iconst (fa_239 rfl) fk_c_1 ?_
  exact fo_goto (fa_239 rfl) (pcT := 19) rfl fs_239_19
theorem fsm_239 : fSM 239 3 fm_239 := fs_methH (lp := [0]) (by decide) rfl ⟨fs_239_0, trivial⟩
theorem fP_241 : mj_P 241 = (8, 2, (some .int), mcX8_transversals, []) := rfl
theorem fa_241 {pc : Nat} {e : mjE} (h : mj_at mcX8_transversals pc = some e) : fAt 241 pc e := by unfold fAt; rw [fP_241]; exact h
theorem fr_241 : (mj_P 241).2.2.1 = (some .int) := by rw [fP_241]
theorem fna_241 : (mj_P 241).2.1 = 2 := by rw [fP_241]
theorem fx_241 : 2 ≤ mj_mx.getD 241 0 := by decide
theorem fh_241 : (mj_P 241).2.2.2.2.isEmpty = true := by rw [fP_241]; rfl
theorem fs_241_85 : fSB 241 [0] 3 85 f_241_85 := by
  unfold f_241_85
  exact fo_iret (fa_241 rfl) fr_241 fw_int
theorem fs_241_73 : fSB 241 [0] 3 73 f_241_73 := by
  unfold f_241_73
  refine fo_aload_n (k := 0) (fa_241 rfl) ?_
  refine fo_getr (fa_241 rfl) (by decide) rfl ?_
  refine fo_iload_n (k := 1) (fa_241 rfl) ?_
  refine fo_aaload (fa_241 rfl) (by decide) (by decide) ?_
  refine fo_iconst (fa_241 rfl) fk_c_0 ?_
  refine fo_iconst (fa_241 rfl) fk_c_0 ?_
  refine fo_iconst (fa_241 rfl) fk_c_0 ?_
  exact fo_bad
theorem fs_241_62 : fSB 241 [0] 3 62 f_241_62 := by
  unfold f_241_62
  refine fo_iconst (fa_241 rfl) fk_c_0 ?_
  refine fo_virtual (by decide) fna_171 (fo_call (fa_241 rfl) fNs_virtual fsm_171 (by decide) fFil_0 fna_171 fx_171 (by rw [fP_171]; rfl) fh_241 ?_)
  refine fo_if_eq (fa_241 rfl) (pcT := 73) rfl fs_241_73 ?_
  refine fo_iconst (fa_241 rfl) fk_c_0 ?_
  exact fo_goto (fa_241 rfl) (pcT := 85) rfl fs_241_85
theorem fs_241_61 : fSB 241 [0] 3 61 f_241_61 := by
  unfold f_241_61
  refine fo_iconst (fa_241 rfl) fk_c_0 ?_
  exact fs_241_62
theorem fs_241_57 : fSB 241 [0] 3 57 f_241_57 := by
  unfold f_241_57
  refine fo_iconst (fa_241 rfl) fk_c_1 ?_
  exact fo_goto (fa_241 rfl) (pcT := 62) rfl fs_241_62
theorem fs_241_28 : fSB 241 [0] 3 28 f_241_28 := by
  unfold f_241_28
  refine fo_iload_n (k := 2) (fa_241 rfl) ?_
  refine fo_if_eq (fa_241 rfl) (pcT := 61) rfl fs_241_61 ?_
  refine fo_aload_n (k := 0) (fa_241 rfl) ?_
  refine fo_getr (fa_241 rfl) (by decide) rfl ?_
  refine fo_iload_n (k := 1) (fa_241 rfl) ?_
  refine fo_aaload (fa_241 rfl) (by decide) (by decide) ?_
  refine fo_static (by decide) (fo_call (fa_241 rfl) fNs_static fsm_235 (by decide) fFil_5 fna_235 fx_235 (by rw [fP_235]; rfl) fh_241 ?_)
  refine fo_if_eq (fa_241 rfl) (pcT := 57) rfl fs_241_57 ?_
  refine fo_aload_n (k := 0) (fa_241 rfl) ?_
  refine fo_getr (fa_241 rfl) (by decide) rfl ?_
  refine fo_iload_n (k := 1) (fa_241 rfl) ?_
  refine fo_aaload (fa_241 rfl) (by decide) (by decide) ?_
  refine fo_iconst (fa_241 rfl) fk_c_0 ?_
  refine fo_iaload (fa_241 rfl) ?_
  refine fo_bipush (fa_241 rfl) fk_b_7 ?_
  refine fo_icmp_le (fa_241 rfl) (pcT := 61) rfl fs_241_61 ?_
  exact fs_241_57
theorem fs_241_27 : fSB 241 [0] 3 27 f_241_27 := by
  unfold f_241_27
  refine fo_iconst (fa_241 rfl) fk_c_0 ?_
  exact fs_241_28
theorem fs_241_19 : fSB 241 [0] 3 19 f_241_19 := by
  unfold f_241_19
  refine fo_iload_n (k := 2) (fa_241 rfl) ?_
  refine fo_if_ne (fa_241 rfl) (pcT := 27) rfl fs_241_27 ?_
  refine fo_iconst (fa_241 rfl) fk_c_1 ?_
  exact fo_goto (fa_241 rfl) (pcT := 28) rfl fs_241_28
theorem fs_241_18 : fSB 241 [0] 3 18 f_241_18 := by
  unfold f_241_18
  refine fo_iconst (fa_241 rfl) fk_c_0 ?_
  exact fs_241_19
theorem fs_241_0 : fSB 241 [0] 3 0 f_241_0 := by
  unfold f_241_0
  refine fo_aload_n (k := 0) (fa_241 rfl) ?_
  refine fo_iload_n (k := 1) (fa_241 rfl) ?_
  refine fo_virtual (by decide) fna_176 (fo_call (fa_241 rfl) fNs_virtual fsm_176 (by decide) fFil_0 fna_176 fx_176 (by rw [fP_176]; rfl) fh_241 ?_)
  refine fo_istore_n (k := 2) (fa_241 rfl) ?_
  refine fo_aload_n (k := 0) (fa_241 rfl) ?_
  refine fo_iload_n (k := 1) (fa_241 rfl) ?_
  refine fo_static (by decide) (fo_call (fa_241 rfl) fNs_static fsm_173 (by decide) fFil_0 fna_173 fx_173 (by rw [fP_173]; rfl) fh_241 ?_)
  refine fo_if_ne (fa_241 rfl) (pcT := 18) rfl fs_241_18 ?_
  refine fo_iconst (fa_241 rfl) fk_c_1 ?_
  exact fo_goto (fa_241 rfl) (pcT := 19) rfl fs_241_19
theorem fsm_241 : fSM 241 3 fm_241 := fs_methH (lp := [0]) (by decide) rfl ⟨fs_241_0, trivial⟩
theorem fP_242 : mj_P 242 = (8, 3, (some .int), mcX8_planeOf, []) := rfl
theorem fa_242 {pc : Nat} {e : mjE} (h : mj_at mcX8_planeOf pc = some e) : fAt 242 pc e := by unfold fAt; rw [fP_242]; exact h
theorem fr_242 : (mj_P 242).2.2.1 = (some .int) := by rw [fP_242]
theorem fna_242 : (mj_P 242).2.1 = 3 := by rw [fP_242]
theorem fx_242 : 3 ≤ mj_mx.getD 242 0 := by decide
theorem fh_242 : (mj_P 242).2.2.2.2.isEmpty = true := by rw [fP_242]; rfl
theorem fs_242_476 : fSB 242 [0, 49, 142, 216, 344, 364, 421] 3 476 f_242_476 := by
  unfold f_242_476
  refine fo_aload_n (k := 0) (fa_242 rfl) ?_
  refine fo_iload_n (k := 2) (fa_242 rfl) ?_
  refine fo_aload (k := 9) (fa_242 rfl) ?_
  refine fo_virtual (by decide) fna_181 (fo_call (fa_242 rfl) fNs_virtual fsm_181 (by decide) fFil_0 fna_181 fx_181 (by rw [fP_181]; rfl) fh_242 ?_)
  exact fo_iret (fa_242 rfl) fr_242 fw_int
theorem fs_242_421 : fSB 242 [0, 49, 142, 216, 344, 364, 421] 3 421 f_242_421 := by
  unfold f_242_421
  refine fo_iload (k := 11) (fa_242 rfl) ?_
  refine fo_iload (k := 8) (fa_242 rfl) ?_
  refine fo_iload (k := 8) (fa_242 rfl) ?_
  refine fo_imul (fa_242 rfl) ?_
  refine fo_icmp_ge (fa_242 rfl) (pcT := 476) rfl fs_242_476 ?_
  refine fo_aload (k := 9) (fa_242 rfl) ?_
  refine fo_iload (k := 10) (fa_242 rfl) ?_
  refine fo_iload (k := 11) (fa_242 rfl) ?_
  refine fo_iload (k := 8) (fa_242 rfl) ?_
  refine fo_idiv (fa_242 rfl) ?_
  refine fo_iadd (fa_242 rfl) ?_
  refine fo_dup2 (fa_242 rfl) ?_
  refine fo_iaload (fa_242 rfl) ?_
  refine fo_iconst (fa_242 rfl) fk_c_1 ?_
  refine fo_iload (k := 11) (fa_242 rfl) ?_
  refine fo_ishl (fa_242 rfl) ?_
  refine fo_ior (fa_242 rfl) ?_
  refine fo_iastore (fa_242 rfl) ?_
  refine fo_aload (k := 9) (fa_242 rfl) ?_
  refine fo_iload (k := 10) (fa_242 rfl) ?_
  refine fo_iload (k := 8) (fa_242 rfl) ?_
  refine fo_iadd (fa_242 rfl) ?_
  refine fo_iload (k := 11) (fa_242 rfl) ?_
  refine fo_iload (k := 8) (fa_242 rfl) ?_
  refine fo_irem (fa_242 rfl) ?_
  refine fo_iadd (fa_242 rfl) ?_
  refine fo_dup2 (fa_242 rfl) ?_
  refine fo_iaload (fa_242 rfl) ?_
  refine fo_iconst (fa_242 rfl) fk_c_1 ?_
  refine fo_iload (k := 11) (fa_242 rfl) ?_
  refine fo_ishl (fa_242 rfl) ?_
  refine fo_ior (fa_242 rfl) ?_
  refine fo_iastore (fa_242 rfl) ?_
  refine fo_iinc (k := 11) (fa_242 rfl) fk_c_1 ?_
  exact fo_goto (fa_242 rfl) (pcT := 421) rfl (fo_back (q := 421) rfl)
theorem fs_242_418 : fSB 242 [0, 49, 142, 216, 344, 364, 421] 3 418 f_242_418 := by
  unfold f_242_418
  refine fo_iconst (fa_242 rfl) fk_c_0 ?_
  refine fo_istore (k := 11) (fa_242 rfl) ?_
  exact fs_242_421
theorem fs_242_412 : fSB 242 [0, 49, 142, 216, 344, 364, 421] 3 412 f_242_412 := by
  unfold f_242_412
  refine fo_iinc (k := 11) (fa_242 rfl) fk_c_1 ?_
  exact fo_goto (fa_242 rfl) (pcT := 344) rfl (fo_back (q := 344) rfl)
theorem fs_242_405 : fSB 242 [0, 49, 142, 216, 344, 364, 421] 3 405 f_242_405 := by
  unfold f_242_405
  refine fo_iload (k := 10) (fa_242 rfl) ?_
  refine fo_iload (k := 8) (fa_242 rfl) ?_
  refine fo_iadd (fa_242 rfl) ?_
  refine fo_istore (k := 10) (fa_242 rfl) ?_
  exact fs_242_412
theorem fs_242_364 : fSB 242 [0, 49, 142, 216, 344, 364, 421] 3 364 f_242_364 := by
  unfold f_242_364
  refine fo_iload (k := 12) (fa_242 rfl) ?_
  refine fo_iload (k := 8) (fa_242 rfl) ?_
  refine fo_iload (k := 8) (fa_242 rfl) ?_
  refine fo_imul (fa_242 rfl) ?_
  refine fo_icmp_ge (fa_242 rfl) (pcT := 405) rfl fs_242_405 ?_
  refine fo_aload (k := 9) (fa_242 rfl) ?_
  refine fo_iload (k := 10) (fa_242 rfl) ?_
  refine fo_aload_n (k := 0) (fa_242 rfl) ?_
  refine fo_getr (fa_242 rfl) (by decide) rfl ?_
  refine fo_iload (k := 11) (fa_242 rfl) ?_
  refine fo_aaload (fa_242 rfl) (by decide) (by decide) ?_
  refine fo_iconst (fa_242 rfl) fk_c_1 ?_
  refine fo_iload (k := 12) (fa_242 rfl) ?_
  refine fo_iadd (fa_242 rfl) ?_
  refine fo_iaload (fa_242 rfl) ?_
  refine fo_iadd (fa_242 rfl) ?_
  refine fo_dup2 (fa_242 rfl) ?_
  refine fo_iaload (fa_242 rfl) ?_
  refine fo_iconst (fa_242 rfl) fk_c_1 ?_
  refine fo_iload (k := 12) (fa_242 rfl) ?_
  refine fo_ishl (fa_242 rfl) ?_
  refine fo_ior (fa_242 rfl) ?_
  refine fo_iastore (fa_242 rfl) ?_
  refine fo_iinc (k := 12) (fa_242 rfl) fk_c_1 ?_
  exact fo_goto (fa_242 rfl) (pcT := 364) rfl (fo_back (q := 364) rfl)
theorem fs_242_344 : fSB 242 [0, 49, 142, 216, 344, 364, 421] 3 344 f_242_344 := by
  unfold f_242_344
  refine fo_iload (k := 11) (fa_242 rfl) ?_
  refine fo_bipush (fa_242 rfl) fk_b_6 ?_
  refine fo_icmp_ge (fa_242 rfl) (pcT := 418) rfl fs_242_418 ?_
  refine fo_iload_n (k := 1) (fa_242 rfl) ?_
  refine fo_iload (k := 11) (fa_242 rfl) ?_
  refine fo_ishr (fa_242 rfl) ?_
  refine fo_iconst (fa_242 rfl) fk_c_1 ?_
  refine fo_iand (fa_242 rfl) ?_
  refine fo_iconst (fa_242 rfl) fk_c_1 ?_
  refine fo_icmp_ne (fa_242 rfl) (pcT := 412) rfl fs_242_412 ?_
  refine fo_iconst (fa_242 rfl) fk_c_0 ?_
  refine fo_istore (k := 12) (fa_242 rfl) ?_
  exact fs_242_364
theorem fs_242_315 : fSB 242 [0, 49, 142, 216, 344, 364, 421] 3 315 f_242_315 := by
  unfold f_242_315
  refine fo_iconst (fa_242 rfl) fk_c_1 ?_
  refine fo_iload (k := 8) (fa_242 rfl) ?_
  refine fo_iload (k := 8) (fa_242 rfl) ?_
  refine fo_imul (fa_242 rfl) ?_
  refine fo_iadd (fa_242 rfl) ?_
  refine fo_iload (k := 8) (fa_242 rfl) ?_
  refine fo_iadd (fa_242 rfl) ?_
  refine fo_newarray (fa_242 rfl) rfl (by decide) (by decide) fel_20 ?_
  refine fo_astore (k := 9) (fa_242 rfl) ?_
  refine fo_aload (k := 9) (fa_242 rfl) ?_
  refine fo_iconst (fa_242 rfl) fk_c_0 ?_
  refine fo_iload (k := 8) (fa_242 rfl) ?_
  refine fo_iload (k := 8) (fa_242 rfl) ?_
  refine fo_imul (fa_242 rfl) ?_
  refine fo_iastore (fa_242 rfl) ?_
  refine fo_iconst (fa_242 rfl) fk_c_1 ?_
  refine fo_istore (k := 10) (fa_242 rfl) ?_
  refine fo_iconst (fa_242 rfl) fk_c_0 ?_
  refine fo_istore (k := 11) (fa_242 rfl) ?_
  exact fs_242_344
theorem fs_242_306 : fSB 242 [0, 49, 142, 216, 344, 364, 421] 3 306 f_242_306 := by
  unfold f_242_306
  refine fo_iconst (fa_242 rfl) fk_c_0 ?_
  refine fo_virtual (by decide) fna_171 (fo_call (fa_242 rfl) fNs_virtual fsm_171 (by decide) fFil_0 fna_171 fx_171 (by rw [fP_171]; rfl) fh_242 ?_)
  refine fo_if_eq (fa_242 rfl) (pcT := 315) rfl fs_242_315 ?_
  refine fo_iconst (fa_242 rfl) fk_c_0 ?_
  exact fo_iret (fa_242 rfl) fr_242 fw_int
theorem fs_242_305 : fSB 242 [0, 49, 142, 216, 344, 364, 421] 3 305 f_242_305 := by
  unfold f_242_305
  refine fo_iconst (fa_242 rfl) fk_c_0 ?_
  exact fs_242_306
theorem fs_242_296 : fSB 242 [0, 49, 142, 216, 344, 364, 421] 3 296 f_242_296 := by
  unfold f_242_296
  refine fo_iload (k := 7) (fa_242 rfl) ?_
  refine fo_if_ne (fa_242 rfl) (pcT := 305) rfl fs_242_305 ?_
  refine fo_iconst (fa_242 rfl) fk_c_1 ?_
  exact fo_goto (fa_242 rfl) (pcT := 306) rfl fs_242_306
theorem fs_242_295 : fSB 242 [0, 49, 142, 216, 344, 364, 421] 3 295 f_242_295 := by
  unfold f_242_295
  refine fo_iconst (fa_242 rfl) fk_c_0 ?_
  exact fs_242_296
theorem fs_242_286 : fSB 242 [0, 49, 142, 216, 344, 364, 421] 3 286 f_242_286 := by
  unfold f_242_286
  refine fo_iload (k := 4) (fa_242 rfl) ?_
  refine fo_if_ne (fa_242 rfl) (pcT := 295) rfl fs_242_295 ?_
  refine fo_iconst (fa_242 rfl) fk_c_1 ?_
  exact fo_goto (fa_242 rfl) (pcT := 296) rfl fs_242_296
theorem fs_242_285 : fSB 242 [0, 49, 142, 216, 344, 364, 421] 3 285 f_242_285 := by
  unfold f_242_285
  refine fo_iconst (fa_242 rfl) fk_c_0 ?_
  exact fs_242_286
theorem fs_242_276 : fSB 242 [0, 49, 142, 216, 344, 364, 421] 3 276 f_242_276 := by
  unfold f_242_276
  refine fo_aload_n (k := 0) (fa_242 rfl) ?_
  refine fo_iload_n (k := 3) (fa_242 rfl) ?_
  refine fo_if_ne (fa_242 rfl) (pcT := 285) rfl fs_242_285 ?_
  refine fo_iconst (fa_242 rfl) fk_c_1 ?_
  exact fo_goto (fa_242 rfl) (pcT := 286) rfl fs_242_286
theorem fs_242_270 : fSB 242 [0, 49, 142, 216, 344, 364, 421] 3 270 f_242_270 := by
  unfold f_242_270
  refine fo_iinc (k := 9) (fa_242 rfl) fk_c_1 ?_
  exact fo_goto (fa_242 rfl) (pcT := 142) rfl (fo_back (q := 142) rfl)
theorem fs_242_262 : fSB 242 [0, 49, 142, 216, 344, 364, 421] 3 262 f_242_262 := by
  unfold f_242_262
  refine fo_istore (k := 7) (fa_242 rfl) ?_
  refine fo_iinc (k := 10) (fa_242 rfl) fk_c_1 ?_
  exact fo_goto (fa_242 rfl) (pcT := 216) rfl (fo_back (q := 216) rfl)
theorem fs_242_261 : fSB 242 [0, 49, 142, 216, 344, 364, 421] 3 261 f_242_261 := by
  unfold f_242_261
  refine fo_iconst (fa_242 rfl) fk_c_0 ?_
  exact fs_242_262
theorem fs_242_257 : fSB 242 [0, 49, 142, 216, 344, 364, 421] 3 257 f_242_257 := by
  unfold f_242_257
  refine fo_iconst (fa_242 rfl) fk_c_1 ?_
  exact fo_goto (fa_242 rfl) (pcT := 262) rfl fs_242_262
theorem fs_242_216 : fSB 242 [0, 49, 142, 216, 344, 364, 421] 3 216 f_242_216 := by
  unfold f_242_216
  refine fo_iload (k := 10) (fa_242 rfl) ?_
  refine fo_iload (k := 9) (fa_242 rfl) ?_
  refine fo_icmp_ge (fa_242 rfl) (pcT := 270) rfl fs_242_270 ?_
  refine fo_iload (k := 7) (fa_242 rfl) ?_
  refine fo_if_eq (fa_242 rfl) (pcT := 270) rfl fs_242_270 ?_
  refine fo_iload_n (k := 1) (fa_242 rfl) ?_
  refine fo_iload (k := 10) (fa_242 rfl) ?_
  refine fo_ishr (fa_242 rfl) ?_
  refine fo_iconst (fa_242 rfl) fk_c_1 ?_
  refine fo_iand (fa_242 rfl) ?_
  refine fo_if_eq (fa_242 rfl) (pcT := 257) rfl fs_242_257 ?_
  refine fo_aload_n (k := 0) (fa_242 rfl) ?_
  refine fo_getr (fa_242 rfl) (by decide) rfl ?_
  refine fo_iload (k := 10) (fa_242 rfl) ?_
  refine fo_aaload (fa_242 rfl) (by decide) (by decide) ?_
  refine fo_aload_n (k := 0) (fa_242 rfl) ?_
  refine fo_getr (fa_242 rfl) (by decide) rfl ?_
  refine fo_iload (k := 9) (fa_242 rfl) ?_
  refine fo_aaload (fa_242 rfl) (by decide) (by decide) ?_
  refine fo_static (by decide) (fo_call (fa_242 rfl) fNs_static fsm_238 (by decide) fFil_4 fna_238 fx_238 (by rw [fP_238]; rfl) fh_242 ?_)
  refine fo_if_eq (fa_242 rfl) (pcT := 261) rfl fs_242_261 ?_
  exact fs_242_257
theorem fs_242_211 : fSB 242 [0, 49, 142, 216, 344, 364, 421] 3 211 f_242_211 := by
  unfold f_242_211
  refine fo_istore (k := 7) (fa_242 rfl) ?_
  refine fo_iconst (fa_242 rfl) fk_c_0 ?_
  refine fo_istore (k := 10) (fa_242 rfl) ?_
  exact fs_242_216
theorem fs_242_210 : fSB 242 [0, 49, 142, 216, 344, 364, 421] 3 210 f_242_210 := by
  unfold f_242_210
  refine fo_iconst (fa_242 rfl) fk_c_0 ?_
  exact fs_242_211
theorem fs_242_142 : fSB 242 [0, 49, 142, 216, 344, 364, 421] 3 142 f_242_142 := by
  unfold f_242_142
  refine fo_iload (k := 9) (fa_242 rfl) ?_
  refine fo_bipush (fa_242 rfl) fk_b_6 ?_
  refine fo_icmp_ge (fa_242 rfl) (pcT := 276) rfl fs_242_276 ?_
  refine fo_iload (k := 7) (fa_242 rfl) ?_
  refine fo_if_eq (fa_242 rfl) (pcT := 276) rfl fs_242_276 ?_
  refine fo_iload_n (k := 1) (fa_242 rfl) ?_
  refine fo_iload (k := 9) (fa_242 rfl) ?_
  refine fo_ishr (fa_242 rfl) ?_
  refine fo_iconst (fa_242 rfl) fk_c_1 ?_
  refine fo_iand (fa_242 rfl) ?_
  refine fo_iconst (fa_242 rfl) fk_c_1 ?_
  refine fo_icmp_ne (fa_242 rfl) (pcT := 270) rfl fs_242_270 ?_
  refine fo_aload_n (k := 0) (fa_242 rfl) ?_
  refine fo_getr (fa_242 rfl) (by decide) rfl ?_
  refine fo_iload (k := 9) (fa_242 rfl) ?_
  refine fo_aaload (fa_242 rfl) (by decide) (by decide) ?_
  refine fo_static (by decide) (fo_call (fa_242 rfl) fNs_static fsm_235 (by decide) fFil_5 fna_235 fx_235 (by rw [fP_235]; rfl) fh_242 ?_)
  refine fo_if_eq (fa_242 rfl) (pcT := 210) rfl fs_242_210 ?_
  refine fo_aload_n (k := 0) (fa_242 rfl) ?_
  refine fo_getr (fa_242 rfl) (by decide) rfl ?_
  refine fo_iload (k := 9) (fa_242 rfl) ?_
  refine fo_aaload (fa_242 rfl) (by decide) (by decide) ?_
  refine fo_iconst (fa_242 rfl) fk_c_0 ?_
  refine fo_iaload (fa_242 rfl) ?_
  refine fo_iload (k := 8) (fa_242 rfl) ?_
  refine fo_icmp_ne (fa_242 rfl) (pcT := 210) rfl fs_242_210 ?_
  refine fo_iload (k := 8) (fa_242 rfl) ?_
  refine fo_iconst (fa_242 rfl) fk_c_5 ?_
  refine fo_icmp_gt (fa_242 rfl) (pcT := 210) rfl fs_242_210 ?_
  refine fo_iload (k := 5) (fa_242 rfl) ?_
  refine fo_iload (k := 8) (fa_242 rfl) ?_
  refine fo_iconst (fa_242 rfl) fk_c_1 ?_
  refine fo_isub (fa_242 rfl) ?_
  refine fo_icmp_ne (fa_242 rfl) (pcT := 210) rfl fs_242_210 ?_
  refine fo_iconst (fa_242 rfl) fk_c_1 ?_
  exact fo_goto (fa_242 rfl) (pcT := 211) rfl fs_242_211
theorem fs_242_137 : fSB 242 [0, 49, 142, 216, 344, 364, 421] 3 137 f_242_137 := by
  unfold f_242_137
  refine fo_istore (k := 8) (fa_242 rfl) ?_
  refine fo_iconst (fa_242 rfl) fk_c_0 ?_
  refine fo_istore (k := 9) (fa_242 rfl) ?_
  exact fs_242_142
theorem fs_242_136 : fSB 242 [0, 49, 142, 216, 344, 364, 421] 3 136 f_242_136 := by
  unfold f_242_136
  refine fo_iconst (fa_242 rfl) fk_c_0 ?_
  exact fs_242_137
theorem fs_242_115 : fSB 242 [0, 49, 142, 216, 344, 364, 421] 3 115 f_242_115 := by
  unfold f_242_115
  refine fo_iload (k := 4) (fa_242 rfl) ?_
  refine fo_istore (k := 7) (fa_242 rfl) ?_
  refine fo_iload (k := 4) (fa_242 rfl) ?_
  refine fo_if_eq (fa_242 rfl) (pcT := 136) rfl fs_242_136 ?_
  refine fo_aload_n (k := 0) (fa_242 rfl) ?_
  refine fo_getr (fa_242 rfl) (by decide) rfl ?_
  refine fo_iload (k := 6) (fa_242 rfl) ?_
  refine fo_aaload (fa_242 rfl) (by decide) (by decide) ?_
  refine fo_iconst (fa_242 rfl) fk_c_0 ?_
  refine fo_iaload (fa_242 rfl) ?_
  exact fo_goto (fa_242 rfl) (pcT := 137) rfl fs_242_137
theorem fs_242_109 : fSB 242 [0, 49, 142, 216, 344, 364, 421] 3 109 f_242_109 := by
  unfold f_242_109
  refine fo_iinc (k := 7) (fa_242 rfl) fk_c_1 ?_
  exact fo_goto (fa_242 rfl) (pcT := 49) rfl (fo_back (q := 49) rfl)
theorem fs_242_104 : fSB 242 [0, 49, 142, 216, 344, 364, 421] 3 104 f_242_104 := by
  unfold f_242_104
  refine fo_istore (k := 6) (fa_242 rfl) ?_
  refine fo_iinc (k := 5) (fa_242 rfl) fk_c_1 ?_
  exact fs_242_109
theorem fs_242_102 : fSB 242 [0, 49, 142, 216, 344, 364, 421] 3 102 f_242_102 := by
  unfold f_242_102
  refine fo_iload (k := 6) (fa_242 rfl) ?_
  exact fs_242_104
theorem fs_242_89 : fSB 242 [0, 49, 142, 216, 344, 364, 421] 3 89 f_242_89 := by
  unfold f_242_89
  refine fo_istore (k := 4) (fa_242 rfl) ?_
  refine fo_iload (k := 6) (fa_242 rfl) ?_
  refine fo_iconst (fa_242 rfl) fk_c_m1 ?_
  refine fo_icmp_ne (fa_242 rfl) (pcT := 102) rfl fs_242_102 ?_
  refine fo_iload (k := 7) (fa_242 rfl) ?_
  exact fo_goto (fa_242 rfl) (pcT := 104) rfl fs_242_104
theorem fs_242_88 : fSB 242 [0, 49, 142, 216, 344, 364, 421] 3 88 f_242_88 := by
  unfold f_242_88
  refine fo_iconst (fa_242 rfl) fk_c_0 ?_
  exact fs_242_89
theorem fs_242_49 : fSB 242 [0, 49, 142, 216, 344, 364, 421] 3 49 f_242_49 := by
  unfold f_242_49
  refine fo_iload (k := 7) (fa_242 rfl) ?_
  refine fo_bipush (fa_242 rfl) fk_b_6 ?_
  refine fo_icmp_ge (fa_242 rfl) (pcT := 115) rfl fs_242_115 ?_
  refine fo_iload_n (k := 3) (fa_242 rfl) ?_
  refine fo_if_eq (fa_242 rfl) (pcT := 115) rfl fs_242_115 ?_
  refine fo_iload_n (k := 1) (fa_242 rfl) ?_
  refine fo_iload (k := 7) (fa_242 rfl) ?_
  refine fo_ishr (fa_242 rfl) ?_
  refine fo_iconst (fa_242 rfl) fk_c_1 ?_
  refine fo_iand (fa_242 rfl) ?_
  refine fo_iconst (fa_242 rfl) fk_c_1 ?_
  refine fo_icmp_ne (fa_242 rfl) (pcT := 109) rfl fs_242_109 ?_
  refine fo_iload (k := 4) (fa_242 rfl) ?_
  refine fo_if_eq (fa_242 rfl) (pcT := 88) rfl fs_242_88 ?_
  refine fo_aload_n (k := 0) (fa_242 rfl) ?_
  refine fo_iload (k := 7) (fa_242 rfl) ?_
  refine fo_virtual (by decide) fna_176 (fo_call (fa_242 rfl) fNs_virtual fsm_176 (by decide) fFil_0 fna_176 fx_176 (by rw [fP_176]; rfl) fh_242 ?_)
  refine fo_if_eq (fa_242 rfl) (pcT := 88) rfl fs_242_88 ?_
  refine fo_iconst (fa_242 rfl) fk_c_1 ?_
  exact fo_goto (fa_242 rfl) (pcT := 89) rfl fs_242_89
theorem fs_242_38 : fSB 242 [0, 49, 142, 216, 344, 364, 421] 3 38 f_242_38 := by
  unfold f_242_38
  refine fo_istore (k := 4) (fa_242 rfl) ?_
  refine fo_iconst (fa_242 rfl) fk_c_0 ?_
  refine fo_istore (k := 5) (fa_242 rfl) ?_
  refine fo_iconst (fa_242 rfl) fk_c_m1 ?_
  refine fo_istore (k := 6) (fa_242 rfl) ?_
  refine fo_iconst (fa_242 rfl) fk_c_0 ?_
  refine fo_istore (k := 7) (fa_242 rfl) ?_
  exact fs_242_49
theorem fs_242_37 : fSB 242 [0, 49, 142, 216, 344, 364, 421] 3 37 f_242_37 := by
  unfold f_242_37
  refine fo_iconst (fa_242 rfl) fk_c_0 ?_
  exact fs_242_38
theorem fs_242_24 : fSB 242 [0, 49, 142, 216, 344, 364, 421] 3 24 f_242_24 := by
  unfold f_242_24
  refine fo_istore_n (k := 3) (fa_242 rfl) ?_
  refine fo_iload_n (k := 3) (fa_242 rfl) ?_
  refine fo_if_eq (fa_242 rfl) (pcT := 37) rfl fs_242_37 ?_
  refine fo_iload_n (k := 1) (fa_242 rfl) ?_
  refine fo_if_le (fa_242 rfl) (pcT := 37) rfl fs_242_37 ?_
  refine fo_iconst (fa_242 rfl) fk_c_1 ?_
  exact fo_goto (fa_242 rfl) (pcT := 38) rfl fs_242_38
theorem fs_242_23 : fSB 242 [0, 49, 142, 216, 344, 364, 421] 3 23 f_242_23 := by
  unfold f_242_23
  refine fo_iconst (fa_242 rfl) fk_c_0 ?_
  exact fs_242_24
theorem fs_242_0 : fSB 242 [0, 49, 142, 216, 344, 364, 421] 3 0 f_242_0 := by
  unfold f_242_0
  refine fo_iload_n (k := 1) (fa_242 rfl) ?_
  refine fo_i2l (fa_242 rfl) ?_
  refine fo_lconst (fa_242 rfl) rfl ?_
  refine fo_ldc2 (fa_242 rfl) ?_
  refine fo_static (by decide) (fo_call (fa_242 rfl) fNs_static fsm_172 (by decide) fFil_0 fna_172 fx_172 (by rw [fP_172]; rfl) fh_242 ?_)
  refine fo_if_eq (fa_242 rfl) (pcT := 23) rfl fs_242_23 ?_
  refine fo_iload_n (k := 2) (fa_242 rfl) ?_
  refine fo_static (by decide) (fo_call (fa_242 rfl) fNs_static fsm_173 (by decide) fFil_0 fna_173 fx_173 (by rw [fP_173]; rfl) fh_242 ?_)
  refine fo_if_eq (fa_242 rfl) (pcT := 23) rfl fs_242_23 ?_
  refine fo_iconst (fa_242 rfl) fk_c_1 ?_
  exact fo_goto (fa_242 rfl) (pcT := 24) rfl fs_242_24
theorem fsm_242 : fSM 242 3 fm_242 := fs_methH (lp := [0, 49, 142, 216, 344, 364, 421]) (by decide) rfl ⟨fs_242_0, fs_242_49, fs_242_142, fs_242_216, fs_242_344, fs_242_364, fs_242_421, trivial⟩
theorem fP_243 : mj_P 243 = (8, 3, (some .int), mcX8_doubled, []) := rfl
theorem fa_243 {pc : Nat} {e : mjE} (h : mj_at mcX8_doubled pc = some e) : fAt 243 pc e := by unfold fAt; rw [fP_243]; exact h
theorem fr_243 : (mj_P 243).2.2.1 = (some .int) := by rw [fP_243]
theorem fna_243 : (mj_P 243).2.1 = 3 := by rw [fP_243]
theorem fx_243 : 3 ≤ mj_mx.getD 243 0 := by decide
theorem fh_243 : (mj_P 243).2.2.2.2.isEmpty = true := by rw [fP_243]; rfl
theorem fs_243_104 : fSB 243 [0, 61] 2 104 f_243_104 := by
  unfold f_243_104
  refine fo_aload_n (k := 0) (fa_243 rfl) ?_
  refine fo_iconst (fa_243 rfl) fk_c_2 ?_
  refine fo_iload_n (k := 1) (fa_243 rfl) ?_
  refine fo_aload (k := 4) (fa_243 rfl) ?_
  refine fo_virtual (by decide) fna_179 (fo_call (fa_243 rfl) fNs_virtual fsm_179 (by decide) fFil_1 fna_179 fx_179 (by rw [fP_179]; rfl) fh_243 ?_)
  refine fo_iload_n (k := 3) (fa_243 rfl) ?_
  exact fo_iret (fa_243 rfl) fr_243 fw_int
theorem fs_243_97 : fSB 243 [0, 61] 2 97 f_243_97 := by
  unfold f_243_97
  refine fo_iastore (fa_243 rfl) ?_
  refine fo_iinc (k := 5) (fa_243 rfl) fk_c_1 ?_
  exact fo_goto (fa_243 rfl) (pcT := 61) rfl (fo_back (q := 61) rfl)
theorem fs_243_96 : fSB 243 [0, 61] 2 96 f_243_96 := by
  unfold f_243_96
  refine fo_iconst (fa_243 rfl) fk_c_m1 ?_
  exact fs_243_97
theorem fs_243_61 : fSB 243 [0, 61] 2 61 f_243_61 := by
  unfold f_243_61
  refine fo_iload (k := 5) (fa_243 rfl) ?_
  refine fo_iload_n (k := 3) (fa_243 rfl) ?_
  refine fo_iload_n (k := 3) (fa_243 rfl) ?_
  refine fo_imul (fa_243 rfl) ?_
  refine fo_icmp_ge (fa_243 rfl) (pcT := 104) rfl fs_243_104 ?_
  refine fo_aload (k := 4) (fa_243 rfl) ?_
  refine fo_iconst (fa_243 rfl) fk_c_1 ?_
  refine fo_iload (k := 5) (fa_243 rfl) ?_
  refine fo_iadd (fa_243 rfl) ?_
  refine fo_iload (k := 5) (fa_243 rfl) ?_
  refine fo_iload_n (k := 3) (fa_243 rfl) ?_
  refine fo_idiv (fa_243 rfl) ?_
  refine fo_iload (k := 5) (fa_243 rfl) ?_
  refine fo_iload_n (k := 3) (fa_243 rfl) ?_
  refine fo_irem (fa_243 rfl) ?_
  refine fo_iand (fa_243 rfl) ?_
  refine fo_static (by decide) (fo_call (fa_243 rfl) fNs_static fsm_182 (by decide) fFil_2 fna_182 fx_182 (by rw [fP_182]; rfl) fh_243 ?_)
  refine fo_iconst (fa_243 rfl) fk_c_2 ?_
  refine fo_irem (fa_243 rfl) ?_
  refine fo_if_ne (fa_243 rfl) (pcT := 96) rfl fs_243_96 ?_
  refine fo_iconst (fa_243 rfl) fk_c_1 ?_
  exact fo_goto (fa_243 rfl) (pcT := 97) rfl fs_243_97
theorem fs_243_40 : fSB 243 [0, 61] 2 40 f_243_40 := by
  unfold f_243_40
  refine fo_iconst (fa_243 rfl) fk_c_1 ?_
  refine fo_iload_n (k := 2) (fa_243 rfl) ?_
  refine fo_ishl (fa_243 rfl) ?_
  refine fo_istore_n (k := 3) (fa_243 rfl) ?_
  refine fo_iconst (fa_243 rfl) fk_c_1 ?_
  refine fo_iload_n (k := 3) (fa_243 rfl) ?_
  refine fo_iload_n (k := 3) (fa_243 rfl) ?_
  refine fo_imul (fa_243 rfl) ?_
  refine fo_iadd (fa_243 rfl) ?_
  refine fo_newarray (fa_243 rfl) rfl (by decide) (by decide) fel_20 ?_
  refine fo_astore (k := 4) (fa_243 rfl) ?_
  refine fo_aload (k := 4) (fa_243 rfl) ?_
  refine fo_iconst (fa_243 rfl) fk_c_0 ?_
  refine fo_iload_n (k := 3) (fa_243 rfl) ?_
  refine fo_iastore (fa_243 rfl) ?_
  refine fo_iconst (fa_243 rfl) fk_c_0 ?_
  refine fo_istore (k := 5) (fa_243 rfl) ?_
  exact fs_243_61
theorem fs_243_30 : fSB 243 [0, 61] 2 30 f_243_30 := by
  unfold f_243_30
  refine fo_iconst (fa_243 rfl) fk_c_0 ?_
  refine fo_iconst (fa_243 rfl) fk_c_0 ?_
  refine fo_virtual (by decide) fna_171 (fo_call (fa_243 rfl) fNs_virtual fsm_171 (by decide) fFil_0 fna_171 fx_171 (by rw [fP_171]; rfl) fh_243 ?_)
  refine fo_if_eq (fa_243 rfl) (pcT := 40) rfl fs_243_40 ?_
  refine fo_iconst (fa_243 rfl) fk_c_0 ?_
  exact fo_iret (fa_243 rfl) fr_243 fw_int
theorem fs_243_29 : fSB 243 [0, 61] 2 29 f_243_29 := by
  unfold f_243_29
  refine fo_iconst (fa_243 rfl) fk_c_0 ?_
  exact fs_243_30
theorem fs_243_13 : fSB 243 [0, 61] 2 13 f_243_13 := by
  unfold f_243_13
  refine fo_iload_n (k := 2) (fa_243 rfl) ?_
  refine fo_i2l (fa_243 rfl) ?_
  refine fo_lconst (fa_243 rfl) rfl ?_
  refine fo_ldc2 (fa_243 rfl) ?_
  refine fo_static (by decide) (fo_call (fa_243 rfl) fNs_static fsm_172 (by decide) fFil_0 fna_172 fx_172 (by rw [fP_172]; rfl) fh_243 ?_)
  refine fo_if_ne (fa_243 rfl) (pcT := 29) rfl fs_243_29 ?_
  refine fo_iconst (fa_243 rfl) fk_c_1 ?_
  exact fo_goto (fa_243 rfl) (pcT := 30) rfl fs_243_30
theorem fs_243_12 : fSB 243 [0, 61] 2 12 f_243_12 := by
  unfold f_243_12
  refine fo_iconst (fa_243 rfl) fk_c_0 ?_
  exact fs_243_13
theorem fs_243_0 : fSB 243 [0, 61] 2 0 f_243_0 := by
  unfold f_243_0
  refine fo_aload_n (k := 0) (fa_243 rfl) ?_
  refine fo_iload_n (k := 1) (fa_243 rfl) ?_
  refine fo_static (by decide) (fo_call (fa_243 rfl) fNs_static fsm_174 (by decide) fFil_0 fna_174 fx_174 (by rw [fP_174]; rfl) fh_243 ?_)
  refine fo_if_ne (fa_243 rfl) (pcT := 12) rfl fs_243_12 ?_
  refine fo_iconst (fa_243 rfl) fk_c_1 ?_
  exact fo_goto (fa_243 rfl) (pcT := 13) rfl fs_243_13
theorem fsm_243 : fSM 243 2 fm_243 := fs_methH (lp := [0, 61]) (by decide) rfl ⟨fs_243_0, fs_243_61, trivial⟩
theorem fP_244 : mj_P 244 = (8, 3, (some .int), mcX8_primes, []) := rfl
theorem fa_244 {pc : Nat} {e : mjE} (h : mj_at mcX8_primes pc = some e) : fAt 244 pc e := by unfold fAt; rw [fP_244]; exact h
theorem fr_244 : (mj_P 244).2.2.1 = (some .int) := by rw [fP_244]
theorem fna_244 : (mj_P 244).2.1 = 3 := by rw [fP_244]
theorem fx_244 : 3 ≤ mj_mx.getD 244 0 := by decide
theorem fh_244 : (mj_P 244).2.2.2.2.isEmpty = true := by rw [fP_244]; rfl
theorem fs_244_205 : fSB 244 [0, 75, 123] 2 205 f_244_205 := by
  unfold f_244_205
  refine fo_aload_n (k := 0) (fa_244 rfl) ?_
  refine fo_iconst (fa_244 rfl) fk_c_2 ?_
  refine fo_iload_n (k := 1) (fa_244 rfl) ?_
  refine fo_aload (k := 6) (fa_244 rfl) ?_
  refine fo_virtual (by decide) fna_179 (fo_call (fa_244 rfl) fNs_virtual fsm_179 (by decide) fFil_1 fna_179 fx_179 (by rw [fP_179]; rfl) fh_244 ?_)
  refine fo_iload (k := 5) (fa_244 rfl) ?_
  exact fo_iret (fa_244 rfl) fr_244 fw_int
theorem fs_244_198 : fSB 244 [0, 75, 123] 2 198 f_244_198 := by
  unfold f_244_198
  refine fo_iastore (fa_244 rfl) ?_
  refine fo_iinc (k := 7) (fa_244 rfl) fk_c_1 ?_
  exact fo_goto (fa_244 rfl) (pcT := 123) rfl (fo_back (q := 123) rfl)
theorem fs_244_197 : fSB 244 [0, 75, 123] 2 197 f_244_197 := by
  unfold f_244_197
  refine fo_iconst (fa_244 rfl) fk_c_1 ?_
  exact fs_244_198
theorem fs_244_193 : fSB 244 [0, 75, 123] 2 193 f_244_193 := by
  unfold f_244_193
  refine fo_iconst (fa_244 rfl) fk_c_m1 ?_
  exact fo_goto (fa_244 rfl) (pcT := 198) rfl fs_244_198
theorem fs_244_171 : fSB 244 [0, 75, 123] 2 171 f_244_171 := by
  unfold f_244_171
  refine fo_iload (k := 8) (fa_244 rfl) ?_
  refine fo_iload (k := 9) (fa_244 rfl) ?_
  refine fo_icmp_eq (fa_244 rfl) (pcT := 193) rfl fs_244_193 ?_
  refine fo_aload (k := 4) (fa_244 rfl) ?_
  refine fo_iload (k := 9) (fa_244 rfl) ?_
  refine fo_iload (k := 8) (fa_244 rfl) ?_
  refine fo_isub (fa_244 rfl) ?_
  refine fo_iload_n (k := 2) (fa_244 rfl) ?_
  refine fo_iadd (fa_244 rfl) ?_
  refine fo_iload_n (k := 2) (fa_244 rfl) ?_
  refine fo_irem (fa_244 rfl) ?_
  refine fo_baload (fa_244 rfl) ?_
  refine fo_if_eq (fa_244 rfl) (pcT := 197) rfl fs_244_197 ?_
  exact fs_244_193
theorem fs_244_167 : fSB 244 [0, 75, 123] 2 167 f_244_167 := by
  unfold f_244_167
  refine fo_iconst (fa_244 rfl) fk_c_1 ?_
  exact fo_goto (fa_244 rfl) (pcT := 198) rfl fs_244_198
theorem fs_244_123 : fSB 244 [0, 75, 123] 2 123 f_244_123 := by
  unfold f_244_123
  refine fo_iload (k := 7) (fa_244 rfl) ?_
  refine fo_iload (k := 5) (fa_244 rfl) ?_
  refine fo_iload (k := 5) (fa_244 rfl) ?_
  refine fo_imul (fa_244 rfl) ?_
  refine fo_icmp_ge (fa_244 rfl) (pcT := 205) rfl fs_244_205 ?_
  refine fo_iload (k := 7) (fa_244 rfl) ?_
  refine fo_iload (k := 5) (fa_244 rfl) ?_
  refine fo_idiv (fa_244 rfl) ?_
  refine fo_iconst (fa_244 rfl) fk_c_1 ?_
  refine fo_isub (fa_244 rfl) ?_
  refine fo_istore (k := 8) (fa_244 rfl) ?_
  refine fo_iload (k := 7) (fa_244 rfl) ?_
  refine fo_iload (k := 5) (fa_244 rfl) ?_
  refine fo_irem (fa_244 rfl) ?_
  refine fo_iconst (fa_244 rfl) fk_c_1 ?_
  refine fo_isub (fa_244 rfl) ?_
  refine fo_istore (k := 9) (fa_244 rfl) ?_
  refine fo_aload (k := 6) (fa_244 rfl) ?_
  refine fo_iconst (fa_244 rfl) fk_c_1 ?_
  refine fo_iload (k := 7) (fa_244 rfl) ?_
  refine fo_iadd (fa_244 rfl) ?_
  refine fo_iload (k := 8) (fa_244 rfl) ?_
  refine fo_if_lt (fa_244 rfl) (pcT := 167) rfl fs_244_167 ?_
  refine fo_iload (k := 9) (fa_244 rfl) ?_
  refine fo_if_ge (fa_244 rfl) (pcT := 171) rfl fs_244_171 ?_
  exact fs_244_167
theorem fs_244_98 : fSB 244 [0, 75, 123] 2 98 f_244_98 := by
  unfold f_244_98
  refine fo_iload_n (k := 2) (fa_244 rfl) ?_
  refine fo_iconst (fa_244 rfl) fk_c_1 ?_
  refine fo_iadd (fa_244 rfl) ?_
  refine fo_istore (k := 5) (fa_244 rfl) ?_
  refine fo_iconst (fa_244 rfl) fk_c_1 ?_
  refine fo_iload (k := 5) (fa_244 rfl) ?_
  refine fo_iload (k := 5) (fa_244 rfl) ?_
  refine fo_imul (fa_244 rfl) ?_
  refine fo_iadd (fa_244 rfl) ?_
  refine fo_newarray (fa_244 rfl) rfl (by decide) (by decide) fel_20 ?_
  refine fo_astore (k := 6) (fa_244 rfl) ?_
  refine fo_aload (k := 6) (fa_244 rfl) ?_
  refine fo_iconst (fa_244 rfl) fk_c_0 ?_
  refine fo_iload (k := 5) (fa_244 rfl) ?_
  refine fo_iastore (fa_244 rfl) ?_
  refine fo_iconst (fa_244 rfl) fk_c_0 ?_
  refine fo_istore (k := 7) (fa_244 rfl) ?_
  exact fs_244_123
theorem fs_244_75 : fSB 244 [0, 75, 123] 2 75 f_244_75 := by
  unfold f_244_75
  refine fo_iload (k := 5) (fa_244 rfl) ?_
  refine fo_iload_n (k := 2) (fa_244 rfl) ?_
  refine fo_icmp_ge (fa_244 rfl) (pcT := 98) rfl fs_244_98 ?_
  refine fo_aload (k := 4) (fa_244 rfl) ?_
  refine fo_iload (k := 5) (fa_244 rfl) ?_
  refine fo_iload (k := 5) (fa_244 rfl) ?_
  refine fo_imul (fa_244 rfl) ?_
  refine fo_iload_n (k := 2) (fa_244 rfl) ?_
  refine fo_irem (fa_244 rfl) ?_
  refine fo_iconst (fa_244 rfl) fk_c_1 ?_
  refine fo_bastore (fa_244 rfl) ?_
  refine fo_iinc (k := 5) (fa_244 rfl) fk_c_1 ?_
  exact fo_goto (fa_244 rfl) (pcT := 75) rfl (fo_back (q := 75) rfl)
theorem fs_244_67 : fSB 244 [0, 75, 123] 2 67 f_244_67 := by
  unfold f_244_67
  refine fo_iload_n (k := 2) (fa_244 rfl) ?_
  refine fo_newarray (fa_244 rfl) rfl (by decide) (by decide) fel_23 ?_
  refine fo_astore (k := 4) (fa_244 rfl) ?_
  refine fo_iconst (fa_244 rfl) fk_c_1 ?_
  refine fo_istore (k := 5) (fa_244 rfl) ?_
  exact fs_244_75
theorem fs_244_57 : fSB 244 [0, 75, 123] 2 57 f_244_57 := by
  unfold f_244_57
  refine fo_iconst (fa_244 rfl) fk_c_0 ?_
  refine fo_iconst (fa_244 rfl) fk_c_0 ?_
  refine fo_virtual (by decide) fna_171 (fo_call (fa_244 rfl) fNs_virtual fsm_171 (by decide) fFil_0 fna_171 fx_171 (by rw [fP_171]; rfl) fh_244 ?_)
  refine fo_if_eq (fa_244 rfl) (pcT := 67) rfl fs_244_67 ?_
  refine fo_iconst (fa_244 rfl) fk_c_0 ?_
  exact fo_iret (fa_244 rfl) fr_244 fw_int
theorem fs_244_56 : fSB 244 [0, 75, 123] 2 56 f_244_56 := by
  unfold f_244_56
  refine fo_iconst (fa_244 rfl) fk_c_0 ?_
  exact fs_244_57
theorem fs_244_48 : fSB 244 [0, 75, 123] 2 48 f_244_48 := by
  unfold f_244_48
  refine fo_iload_n (k := 3) (fa_244 rfl) ?_
  refine fo_if_ne (fa_244 rfl) (pcT := 56) rfl fs_244_56 ?_
  refine fo_iconst (fa_244 rfl) fk_c_1 ?_
  exact fo_goto (fa_244 rfl) (pcT := 57) rfl fs_244_57
theorem fs_244_47 : fSB 244 [0, 75, 123] 2 47 f_244_47 := by
  unfold f_244_47
  refine fo_iconst (fa_244 rfl) fk_c_0 ?_
  exact fs_244_48
theorem fs_244_34 : fSB 244 [0, 75, 123] 2 34 f_244_34 := by
  unfold f_244_34
  refine fo_istore_n (k := 3) (fa_244 rfl) ?_
  refine fo_aload_n (k := 0) (fa_244 rfl) ?_
  refine fo_iload_n (k := 1) (fa_244 rfl) ?_
  refine fo_static (by decide) (fo_call (fa_244 rfl) fNs_static fsm_174 (by decide) fFil_0 fna_174 fx_174 (by rw [fP_174]; rfl) fh_244 ?_)
  refine fo_if_ne (fa_244 rfl) (pcT := 47) rfl fs_244_47 ?_
  refine fo_iconst (fa_244 rfl) fk_c_1 ?_
  exact fo_goto (fa_244 rfl) (pcT := 48) rfl fs_244_48
theorem fs_244_33 : fSB 244 [0, 75, 123] 2 33 f_244_33 := by
  unfold f_244_33
  refine fo_iconst (fa_244 rfl) fk_c_0 ?_
  exact fs_244_34
theorem fs_244_29 : fSB 244 [0, 75, 123] 2 29 f_244_29 := by
  unfold f_244_29
  refine fo_iconst (fa_244 rfl) fk_c_1 ?_
  exact fo_goto (fa_244 rfl) (pcT := 34) rfl fs_244_34
theorem fs_244_0 : fSB 244 [0, 75, 123] 2 0 f_244_0 := by
  unfold f_244_0
  refine fo_iload_n (k := 2) (fa_244 rfl) ?_
  refine fo_iconst (fa_244 rfl) fk_c_3 ?_
  refine fo_icmp_eq (fa_244 rfl) (pcT := 29) rfl fs_244_29 ?_
  refine fo_iload_n (k := 2) (fa_244 rfl) ?_
  refine fo_bipush (fa_244 rfl) fk_b_7 ?_
  refine fo_icmp_eq (fa_244 rfl) (pcT := 29) rfl fs_244_29 ?_
  refine fo_iload_n (k := 2) (fa_244 rfl) ?_
  refine fo_bipush (fa_244 rfl) fk_b_11 ?_
  refine fo_icmp_eq (fa_244 rfl) (pcT := 29) rfl fs_244_29 ?_
  refine fo_iload_n (k := 2) (fa_244 rfl) ?_
  refine fo_bipush (fa_244 rfl) fk_b_19 ?_
  refine fo_icmp_eq (fa_244 rfl) (pcT := 29) rfl fs_244_29 ?_
  refine fo_iload_n (k := 2) (fa_244 rfl) ?_
  refine fo_bipush (fa_244 rfl) fk_b_23 ?_
  refine fo_icmp_ne (fa_244 rfl) (pcT := 33) rfl fs_244_33 ?_
  exact fs_244_29
theorem fsm_244 : fSM 244 2 fm_244 := fs_methH (lp := [0, 75, 123]) (by decide) rfl ⟨fs_244_0, fs_244_75, fs_244_123, trivial⟩
theorem fP_245 : mj_P 245 = (8, 4, (some .boolean), mcX8_hasSign, []) := rfl
theorem fa_245 {pc : Nat} {e : mjE} (h : mj_at mcX8_hasSign pc = some e) : fAt 245 pc e := by unfold fAt; rw [fP_245]; exact h
theorem fr_245 : (mj_P 245).2.2.1 = (some .boolean) := by rw [fP_245]
theorem fna_245 : (mj_P 245).2.1 = 4 := by rw [fP_245]
theorem fx_245 : 4 ≤ mj_mx.getD 245 0 := by decide
theorem fh_245 : (mj_P 245).2.2.2.2.isEmpty = true := by rw [fP_245]; rfl
theorem fs_245_53 : fSB 245 [0] 3 53 f_245_53 := by
  unfold f_245_53
  exact fo_iret (fa_245 rfl) fr_245 fw_bool
theorem fs_245_52 : fSB 245 [0] 3 52 f_245_52 := by
  unfold f_245_52
  refine fo_iconst (fa_245 rfl) fk_c_0 ?_
  exact fs_245_53
theorem fs_245_0 : fSB 245 [0] 3 0 f_245_0 := by
  unfold f_245_0
  refine fo_aload_n (k := 0) (fa_245 rfl) ?_
  refine fo_iload_n (k := 1) (fa_245 rfl) ?_
  refine fo_virtual (by decide) fna_177 (fo_call (fa_245 rfl) fNs_virtual fsm_177 (by decide) fFil_0 fna_177 fx_177 (by rw [fP_177]; rfl) fh_245 ?_)
  refine fo_if_eq (fa_245 rfl) (pcT := 52) rfl fs_245_52 ?_
  refine fo_iload_n (k := 2) (fa_245 rfl) ?_
  refine fo_i2l (fa_245 rfl) ?_
  refine fo_lconst (fa_245 rfl) rfl ?_
  refine fo_aload_n (k := 0) (fa_245 rfl) ?_
  refine fo_getr (fa_245 rfl) (by decide) rfl ?_
  refine fo_iload_n (k := 1) (fa_245 rfl) ?_
  refine fo_aaload (fa_245 rfl) (by decide) (by decide) ?_
  refine fo_iconst (fa_245 rfl) fk_c_0 ?_
  refine fo_iaload (fa_245 rfl) ?_
  refine fo_iconst (fa_245 rfl) fk_c_1 ?_
  refine fo_isub (fa_245 rfl) ?_
  refine fo_i2l (fa_245 rfl) ?_
  refine fo_static (by decide) (fo_call (fa_245 rfl) fNs_static fsm_172 (by decide) fFil_0 fna_172 fx_172 (by rw [fP_172]; rfl) fh_245 ?_)
  refine fo_if_eq (fa_245 rfl) (pcT := 52) rfl fs_245_52 ?_
  refine fo_iload_n (k := 3) (fa_245 rfl) ?_
  refine fo_i2l (fa_245 rfl) ?_
  refine fo_lconst (fa_245 rfl) rfl ?_
  refine fo_aload_n (k := 0) (fa_245 rfl) ?_
  refine fo_getr (fa_245 rfl) (by decide) rfl ?_
  refine fo_iload_n (k := 1) (fa_245 rfl) ?_
  refine fo_aaload (fa_245 rfl) (by decide) (by decide) ?_
  refine fo_iconst (fa_245 rfl) fk_c_0 ?_
  refine fo_iaload (fa_245 rfl) ?_
  refine fo_iconst (fa_245 rfl) fk_c_1 ?_
  refine fo_isub (fa_245 rfl) ?_
  refine fo_i2l (fa_245 rfl) ?_
  refine fo_static (by decide) (fo_call (fa_245 rfl) fNs_static fsm_172 (by decide) fFil_0 fna_172 fx_172 (by rw [fP_172]; rfl) fh_245 ?_)
  refine fo_if_eq (fa_245 rfl) (pcT := 52) rfl fs_245_52 ?_
  refine fo_iconst (fa_245 rfl) fk_c_1 ?_
  exact fo_goto (fa_245 rfl) (pcT := 53) rfl fs_245_53
theorem fsm_245 : fSM 245 3 fm_245 := fs_methH (lp := [0]) (by decide) rfl ⟨fs_245_0, trivial⟩
theorem fP_246 : mj_P 246 = (8, 4, (some .int), mcX8_sign, []) := rfl
theorem fa_246 {pc : Nat} {e : mjE} (h : mj_at mcX8_sign pc = some e) : fAt 246 pc e := by unfold fAt; rw [fP_246]; exact h
theorem fr_246 : (mj_P 246).2.2.1 = (some .int) := by rw [fP_246]
theorem fna_246 : (mj_P 246).2.1 = 4 := by rw [fP_246]
theorem fx_246 : 4 ≤ mj_mx.getD 246 0 := by decide
theorem fh_246 : (mj_P 246).2.2.2.2.isEmpty = true := by rw [fP_246]; rfl
theorem fs_246_61 : fSB 246 [0] 4 61 f_246_61 := by
  unfold f_246_61
  exact fo_iret (fa_246 rfl) fr_246 fw_int
theorem fs_246_40 : fSB 246 [0] 4 40 f_246_40 := by
  unfold f_246_40
  refine fo_aload_n (k := 0) (fa_246 rfl) ?_
  refine fo_getr (fa_246 rfl) (by decide) rfl ?_
  refine fo_iload_n (k := 1) (fa_246 rfl) ?_
  refine fo_aaload (fa_246 rfl) (by decide) (by decide) ?_
  refine fo_iconst (fa_246 rfl) fk_c_1 ?_
  refine fo_aload_n (k := 0) (fa_246 rfl) ?_
  refine fo_getr (fa_246 rfl) (by decide) rfl ?_
  refine fo_iload_n (k := 1) (fa_246 rfl) ?_
  refine fo_aaload (fa_246 rfl) (by decide) (by decide) ?_
  refine fo_iconst (fa_246 rfl) fk_c_0 ?_
  refine fo_iaload (fa_246 rfl) ?_
  refine fo_iload_n (k := 2) (fa_246 rfl) ?_
  refine fo_imul (fa_246 rfl) ?_
  refine fo_iadd (fa_246 rfl) ?_
  refine fo_iload_n (k := 3) (fa_246 rfl) ?_
  refine fo_iadd (fa_246 rfl) ?_
  refine fo_iaload (fa_246 rfl) ?_
  exact fs_246_61
theorem fs_246_28 : fSB 246 [0] 4 28 f_246_28 := by
  unfold f_246_28
  refine fo_iconst (fa_246 rfl) fk_c_0 ?_
  refine fo_iconst (fa_246 rfl) fk_c_0 ?_
  refine fo_virtual (by decide) fna_171 (fo_call (fa_246 rfl) fNs_virtual fsm_171 (by decide) fFil_0 fna_171 fx_171 (by rw [fP_171]; rfl) fh_246 ?_)
  refine fo_if_eq (fa_246 rfl) (pcT := 40) rfl fs_246_40 ?_
  refine fo_iconst (fa_246 rfl) fk_c_0 ?_
  exact fo_goto (fa_246 rfl) (pcT := 61) rfl fs_246_61
theorem fs_246_27 : fSB 246 [0] 4 27 f_246_27 := by
  unfold f_246_27
  refine fo_iconst (fa_246 rfl) fk_c_0 ?_
  exact fs_246_28
theorem fs_246_13 : fSB 246 [0] 4 13 f_246_13 := by
  unfold f_246_13
  refine fo_aload_n (k := 0) (fa_246 rfl) ?_
  refine fo_iload_n (k := 1) (fa_246 rfl) ?_
  refine fo_iload_n (k := 2) (fa_246 rfl) ?_
  refine fo_iload_n (k := 3) (fa_246 rfl) ?_
  refine fo_virtual (by decide) fna_245 (fo_call (fa_246 rfl) fNs_virtual fsm_245 (by decide) fFil_0 fna_245 fx_245 (by rw [fP_245]; rfl) fh_246 ?_)
  refine fo_if_ne (fa_246 rfl) (pcT := 27) rfl fs_246_27 ?_
  refine fo_iconst (fa_246 rfl) fk_c_1 ?_
  exact fo_goto (fa_246 rfl) (pcT := 28) rfl fs_246_28
theorem fs_246_12 : fSB 246 [0] 4 12 f_246_12 := by
  unfold f_246_12
  refine fo_iconst (fa_246 rfl) fk_c_0 ?_
  exact fs_246_13
theorem fs_246_0 : fSB 246 [0] 4 0 f_246_0 := by
  unfold f_246_0
  refine fo_aload_n (k := 0) (fa_246 rfl) ?_
  refine fo_iload_n (k := 1) (fa_246 rfl) ?_
  refine fo_static (by decide) (fo_call (fa_246 rfl) fNs_static fsm_174 (by decide) fFil_0 fna_174 fx_174 (by rw [fP_174]; rfl) fh_246 ?_)
  refine fo_if_ne (fa_246 rfl) (pcT := 12) rfl fs_246_12 ?_
  refine fo_iconst (fa_246 rfl) fk_c_1 ?_
  exact fo_goto (fa_246 rfl) (pcT := 13) rfl fs_246_13
theorem fsm_246 : fSM 246 4 fm_246 := fs_methH (lp := [0]) (by decide) rfl ⟨fs_246_0, trivial⟩
theorem fP_247 : mj_P 247 = (8, 4, (some .int), mcX8_flip, []) := rfl
theorem fa_247 {pc : Nat} {e : mjE} (h : mj_at mcX8_flip pc = some e) : fAt 247 pc e := by unfold fAt; rw [fP_247]; exact h
theorem fr_247 : (mj_P 247).2.2.1 = (some .int) := by rw [fP_247]
theorem fna_247 : (mj_P 247).2.1 = 4 := by rw [fP_247]
theorem fx_247 : 4 ≤ mj_mx.getD 247 0 := by decide
theorem fh_247 : (mj_P 247).2.2.2.2.isEmpty = true := by rw [fP_247]; rfl
theorem fs_247_136 : fSB 247 [0, 62] 4 136 f_247_136 := by
  unfold f_247_136
  refine fo_aload_n (k := 0) (fa_247 rfl) ?_
  refine fo_iconst (fa_247 rfl) fk_c_2 ?_
  refine fo_iload_n (k := 1) (fa_247 rfl) ?_
  refine fo_aload (k := 4) (fa_247 rfl) ?_
  refine fo_virtual (by decide) fna_179 (fo_call (fa_247 rfl) fNs_virtual fsm_179 (by decide) fFil_1 fna_179 fx_179 (by rw [fP_179]; rfl) fh_247 ?_)
  refine fo_iload (k := 5) (fa_247 rfl) ?_
  exact fo_iret (fa_247 rfl) fr_247 fw_int
theorem fs_247_127 : fSB 247 [0, 62] 4 127 f_247_127 := by
  unfold f_247_127
  refine fo_iadd (fa_247 rfl) ?_
  refine fo_istore (k := 5) (fa_247 rfl) ?_
  refine fo_iinc (k := 6) (fa_247 rfl) fk_c_1 ?_
  exact fo_goto (fa_247 rfl) (pcT := 62) rfl (fo_back (q := 62) rfl)
theorem fs_247_126 : fSB 247 [0, 62] 4 126 f_247_126 := by
  unfold f_247_126
  refine fo_iconst (fa_247 rfl) fk_c_0 ?_
  exact fs_247_127
theorem fs_247_97 : fSB 247 [0, 62] 4 97 f_247_97 := by
  unfold f_247_97
  refine fo_iadd (fa_247 rfl) ?_
  refine fo_istore (k := 7) (fa_247 rfl) ?_
  refine fo_aload (k := 4) (fa_247 rfl) ?_
  refine fo_iload (k := 7) (fa_247 rfl) ?_
  refine fo_aload (k := 4) (fa_247 rfl) ?_
  refine fo_iload (k := 7) (fa_247 rfl) ?_
  refine fo_iaload (fa_247 rfl) ?_
  exact fo_bad
theorem fs_247_88 : fSB 247 [0, 62] 4 88 f_247_88 := by
  unfold f_247_88
  refine fo_aload (k := 4) (fa_247 rfl) ?_
  refine fo_iconst (fa_247 rfl) fk_c_0 ?_
  refine fo_iaload (fa_247 rfl) ?_
  refine fo_iload (k := 6) (fa_247 rfl) ?_
  refine fo_imul (fa_247 rfl) ?_
  refine fo_iload_n (k := 3) (fa_247 rfl) ?_
  refine fo_iadd (fa_247 rfl) ?_
  exact fs_247_97
theorem fs_247_62 : fSB 247 [0, 62] 4 62 f_247_62 := by
  unfold f_247_62
  refine fo_iload (k := 6) (fa_247 rfl) ?_
  refine fo_aload (k := 4) (fa_247 rfl) ?_
  refine fo_iconst (fa_247 rfl) fk_c_0 ?_
  refine fo_iaload (fa_247 rfl) ?_
  refine fo_icmp_ge (fa_247 rfl) (pcT := 136) rfl fs_247_136 ?_
  refine fo_iconst (fa_247 rfl) fk_c_1 ?_
  refine fo_iload_n (k := 2) (fa_247 rfl) ?_
  refine fo_if_eq (fa_247 rfl) (pcT := 88) rfl fs_247_88 ?_
  refine fo_aload (k := 4) (fa_247 rfl) ?_
  refine fo_iconst (fa_247 rfl) fk_c_0 ?_
  refine fo_iaload (fa_247 rfl) ?_
  refine fo_iload_n (k := 3) (fa_247 rfl) ?_
  refine fo_imul (fa_247 rfl) ?_
  refine fo_iload (k := 6) (fa_247 rfl) ?_
  refine fo_iadd (fa_247 rfl) ?_
  exact fo_goto (fa_247 rfl) (pcT := 97) rfl fs_247_97
theorem fs_247_38 : fSB 247 [0, 62] 4 38 f_247_38 := by
  unfold f_247_38
  refine fo_aload_n (k := 0) (fa_247 rfl) ?_
  refine fo_getr (fa_247 rfl) (by decide) rfl ?_
  refine fo_iload_n (k := 1) (fa_247 rfl) ?_
  refine fo_aaload (fa_247 rfl) (by decide) (by decide) ?_
  refine fo_aload_n (k := 0) (fa_247 rfl) ?_
  refine fo_getr (fa_247 rfl) (by decide) rfl ?_
  refine fo_iload_n (k := 1) (fa_247 rfl) ?_
  refine fo_aaload (fa_247 rfl) (by decide) (by decide) ?_
  refine fo_alen (fa_247 rfl) ?_
  refine fo_static (by decide) (fo_call (fa_247 rfl) fNs_static fsm_178 (by decide) fFil_2 fna_178 fx_178 (by rw [fP_178]; rfl) fh_247 ?_)
  refine fo_astore (k := 4) (fa_247 rfl) ?_
  refine fo_iconst (fa_247 rfl) fk_c_0 ?_
  refine fo_istore (k := 5) (fa_247 rfl) ?_
  refine fo_iconst (fa_247 rfl) fk_c_0 ?_
  refine fo_istore (k := 6) (fa_247 rfl) ?_
  exact fs_247_62
theorem fs_247_28 : fSB 247 [0, 62] 4 28 f_247_28 := by
  unfold f_247_28
  refine fo_iconst (fa_247 rfl) fk_c_0 ?_
  refine fo_iconst (fa_247 rfl) fk_c_0 ?_
  refine fo_virtual (by decide) fna_171 (fo_call (fa_247 rfl) fNs_virtual fsm_171 (by decide) fFil_0 fna_171 fx_171 (by rw [fP_171]; rfl) fh_247 ?_)
  refine fo_if_eq (fa_247 rfl) (pcT := 38) rfl fs_247_38 ?_
  refine fo_iconst (fa_247 rfl) fk_c_0 ?_
  exact fo_iret (fa_247 rfl) fr_247 fw_int
theorem fs_247_27 : fSB 247 [0, 62] 4 27 f_247_27 := by
  unfold f_247_27
  refine fo_iconst (fa_247 rfl) fk_c_0 ?_
  exact fs_247_28
theorem fs_247_13 : fSB 247 [0, 62] 4 13 f_247_13 := by
  unfold f_247_13
  refine fo_aload_n (k := 0) (fa_247 rfl) ?_
  refine fo_iload_n (k := 1) (fa_247 rfl) ?_
  refine fo_iload_n (k := 3) (fa_247 rfl) ?_
  refine fo_iload_n (k := 3) (fa_247 rfl) ?_
  refine fo_virtual (by decide) fna_245 (fo_call (fa_247 rfl) fNs_virtual fsm_245 (by decide) fFil_0 fna_245 fx_245 (by rw [fP_245]; rfl) fh_247 ?_)
  refine fo_if_ne (fa_247 rfl) (pcT := 27) rfl fs_247_27 ?_
  refine fo_iconst (fa_247 rfl) fk_c_1 ?_
  exact fo_goto (fa_247 rfl) (pcT := 28) rfl fs_247_28
theorem fs_247_12 : fSB 247 [0, 62] 4 12 f_247_12 := by
  unfold f_247_12
  refine fo_iconst (fa_247 rfl) fk_c_0 ?_
  exact fs_247_13
theorem fs_247_0 : fSB 247 [0, 62] 4 0 f_247_0 := by
  unfold f_247_0
  refine fo_aload_n (k := 0) (fa_247 rfl) ?_
  refine fo_iload_n (k := 1) (fa_247 rfl) ?_
  refine fo_static (by decide) (fo_call (fa_247 rfl) fNs_static fsm_174 (by decide) fFil_0 fna_174 fx_174 (by rw [fP_174]; rfl) fh_247 ?_)
  refine fo_if_ne (fa_247 rfl) (pcT := 12) rfl fs_247_12 ?_
  refine fo_iconst (fa_247 rfl) fk_c_1 ?_
  exact fo_goto (fa_247 rfl) (pcT := 13) rfl fs_247_13
theorem fsm_247 : fSM 247 4 fm_247 := fs_methH (lp := [0, 62]) (by decide) rfl ⟨fs_247_0, fs_247_62, trivial⟩
theorem fP_248 : mj_P 248 = (8, 1, (some .boolean), mcX8_areRowsApart, []) := rfl
theorem fa_248 {pc : Nat} {e : mjE} (h : mj_at mcX8_areRowsApart pc = some e) : fAt 248 pc e := by unfold fAt; rw [fP_248]; exact h
theorem fr_248 : (mj_P 248).2.2.1 = (some .boolean) := by rw [fP_248]
theorem fna_248 : (mj_P 248).2.1 = 1 := by rw [fP_248]
theorem fx_248 : 1 ≤ mj_mx.getD 248 0 := by decide
theorem fh_248 : (mj_P 248).2.2.2.2.isEmpty = true := by rw [fP_248]; rfl
theorem fs_248_95 : fSB 248 [0, 4, 13, 24] 0 95 f_248_95 := by
  unfold f_248_95
  refine fo_iload_n (k := 1) (fa_248 rfl) ?_
  exact fo_iret (fa_248 rfl) fr_248 fw_bool
theorem fs_248_89 : fSB 248 [0, 4, 13, 24] 0 89 f_248_89 := by
  unfold f_248_89
  refine fo_iinc (k := 2) (fa_248 rfl) fk_c_1 ?_
  exact fo_goto (fa_248 rfl) (pcT := 4) rfl (fo_back (q := 4) rfl)
theorem fs_248_82 : fSB 248 [0, 4, 13, 24] 0 82 f_248_82 := by
  unfold f_248_82
  refine fo_istore_n (k := 1) (fa_248 rfl) ?_
  refine fo_iinc (k := 3) (fa_248 rfl) fk_c_1 ?_
  exact fo_goto (fa_248 rfl) (pcT := 13) rfl (fo_back (q := 13) rfl)
theorem fs_248_81 : fSB 248 [0, 4, 13, 24] 0 81 f_248_81 := by
  unfold f_248_81
  refine fo_iconst (fa_248 rfl) fk_c_0 ?_
  exact fs_248_82
theorem fs_248_68 : fSB 248 [0, 4, 13, 24] 0 68 f_248_68 := by
  unfold f_248_68
  refine fo_iload_n (k := 1) (fa_248 rfl) ?_
  refine fo_if_eq (fa_248 rfl) (pcT := 81) rfl fs_248_81 ?_
  refine fo_iload (k := 4) (fa_248 rfl) ?_
  refine fo_if_ne (fa_248 rfl) (pcT := 81) rfl fs_248_81 ?_
  refine fo_iconst (fa_248 rfl) fk_c_1 ?_
  exact fo_goto (fa_248 rfl) (pcT := 82) rfl fs_248_82
theorem fs_248_24 : fSB 248 [0, 4, 13, 24] 0 24 f_248_24 := by
  unfold f_248_24
  refine fo_iload (k := 5) (fa_248 rfl) ?_
  refine fo_aload_n (k := 0) (fa_248 rfl) ?_
  refine fo_iconst (fa_248 rfl) fk_c_0 ?_
  refine fo_iaload (fa_248 rfl) ?_
  refine fo_icmp_ge (fa_248 rfl) (pcT := 68) rfl fs_248_68 ?_
  refine fo_iload (k := 4) (fa_248 rfl) ?_
  refine fo_aload_n (k := 0) (fa_248 rfl) ?_
  refine fo_iconst (fa_248 rfl) fk_c_1 ?_
  refine fo_aload_n (k := 0) (fa_248 rfl) ?_
  refine fo_iconst (fa_248 rfl) fk_c_0 ?_
  refine fo_iaload (fa_248 rfl) ?_
  refine fo_iload_n (k := 2) (fa_248 rfl) ?_
  refine fo_imul (fa_248 rfl) ?_
  refine fo_iadd (fa_248 rfl) ?_
  refine fo_iload (k := 5) (fa_248 rfl) ?_
  refine fo_iadd (fa_248 rfl) ?_
  refine fo_iaload (fa_248 rfl) ?_
  refine fo_aload_n (k := 0) (fa_248 rfl) ?_
  refine fo_iconst (fa_248 rfl) fk_c_1 ?_
  refine fo_aload_n (k := 0) (fa_248 rfl) ?_
  refine fo_iconst (fa_248 rfl) fk_c_0 ?_
  refine fo_iaload (fa_248 rfl) ?_
  refine fo_iload_n (k := 3) (fa_248 rfl) ?_
  refine fo_imul (fa_248 rfl) ?_
  refine fo_iadd (fa_248 rfl) ?_
  refine fo_iload (k := 5) (fa_248 rfl) ?_
  refine fo_iadd (fa_248 rfl) ?_
  refine fo_iaload (fa_248 rfl) ?_
  refine fo_imul (fa_248 rfl) ?_
  refine fo_iadd (fa_248 rfl) ?_
  refine fo_istore (k := 4) (fa_248 rfl) ?_
  refine fo_iinc (k := 5) (fa_248 rfl) fk_c_1 ?_
  exact fo_goto (fa_248 rfl) (pcT := 24) rfl (fo_back (q := 24) rfl)
theorem fs_248_13 : fSB 248 [0, 4, 13, 24] 0 13 f_248_13 := by
  unfold f_248_13
  refine fo_iload_n (k := 3) (fa_248 rfl) ?_
  refine fo_iload_n (k := 2) (fa_248 rfl) ?_
  refine fo_icmp_ge (fa_248 rfl) (pcT := 89) rfl fs_248_89 ?_
  refine fo_iconst (fa_248 rfl) fk_c_0 ?_
  refine fo_istore (k := 4) (fa_248 rfl) ?_
  refine fo_iconst (fa_248 rfl) fk_c_0 ?_
  refine fo_istore (k := 5) (fa_248 rfl) ?_
  exact fs_248_24
theorem fs_248_4 : fSB 248 [0, 4, 13, 24] 0 4 f_248_4 := by
  unfold f_248_4
  refine fo_iload_n (k := 2) (fa_248 rfl) ?_
  refine fo_aload_n (k := 0) (fa_248 rfl) ?_
  refine fo_iconst (fa_248 rfl) fk_c_0 ?_
  refine fo_iaload (fa_248 rfl) ?_
  refine fo_icmp_ge (fa_248 rfl) (pcT := 95) rfl fs_248_95 ?_
  refine fo_iconst (fa_248 rfl) fk_c_0 ?_
  refine fo_istore_n (k := 3) (fa_248 rfl) ?_
  exact fs_248_13
theorem fs_248_0 : fSB 248 [0, 4, 13, 24] 0 0 f_248_0 := by
  unfold f_248_0
  refine fo_iconst (fa_248 rfl) fk_c_1 ?_
  refine fo_istore_n (k := 1) (fa_248 rfl) ?_
  refine fo_iconst (fa_248 rfl) fk_c_0 ?_
  refine fo_istore_n (k := 2) (fa_248 rfl) ?_
  exact fs_248_4
theorem fsm_248 : fSM 248 0 fm_248 := fs_methH (lp := [0, 4, 13, 24]) (by decide) rfl ⟨fs_248_0, fs_248_4, fs_248_13, fs_248_24, trivial⟩
theorem fP_249 : mj_P 249 = (8, 2, (some .boolean), mcX8_areRowsApart_, []) := rfl
theorem fa_249 {pc : Nat} {e : mjE} (h : mj_at mcX8_areRowsApart_ pc = some e) : fAt 249 pc e := by unfold fAt; rw [fP_249]; exact h
theorem fr_249 : (mj_P 249).2.2.1 = (some .boolean) := by rw [fP_249]
theorem fna_249 : (mj_P 249).2.1 = 2 := by rw [fP_249]
theorem fx_249 : 2 ≤ mj_mx.getD 249 0 := by decide
theorem fh_249 : (mj_P 249).2.2.2.2.isEmpty = true := by rw [fP_249]; rfl
theorem fs_249_51 : fSB 249 [0] 3 51 f_249_51 := by
  unfold f_249_51
  exact fo_iret (fa_249 rfl) fr_249 fw_bool
theorem fs_249_50 : fSB 249 [0] 3 50 f_249_50 := by
  unfold f_249_50
  refine fo_iconst (fa_249 rfl) fk_c_0 ?_
  exact fs_249_51
theorem fs_249_26 : fSB 249 [0] 3 26 f_249_26 := by
  unfold f_249_26
  refine fo_iconst (fa_249 rfl) fk_c_0 ?_
  refine fo_iconst (fa_249 rfl) fk_c_0 ?_
  refine fo_virtual (by decide) fna_171 (fo_call (fa_249 rfl) fNs_virtual fsm_171 (by decide) fFil_0 fna_171 fx_171 (by rw [fP_171]; rfl) fh_249 ?_)
  refine fo_if_ne (fa_249 rfl) (pcT := 50) rfl fs_249_50 ?_
  refine fo_aload_n (k := 0) (fa_249 rfl) ?_
  refine fo_getr (fa_249 rfl) (by decide) rfl ?_
  refine fo_iload_n (k := 1) (fa_249 rfl) ?_
  refine fo_aaload (fa_249 rfl) (by decide) (by decide) ?_
  refine fo_static (by decide) (fo_call (fa_249 rfl) fNs_static fsm_248 (by decide) fFil_5 fna_248 fx_248 (by rw [fP_248]; rfl) fh_249 ?_)
  refine fo_if_eq (fa_249 rfl) (pcT := 50) rfl fs_249_50 ?_
  refine fo_iconst (fa_249 rfl) fk_c_1 ?_
  exact fo_goto (fa_249 rfl) (pcT := 51) rfl fs_249_51
theorem fs_249_25 : fSB 249 [0] 3 25 f_249_25 := by
  unfold f_249_25
  refine fo_iconst (fa_249 rfl) fk_c_0 ?_
  exact fs_249_26
theorem fs_249_13 : fSB 249 [0] 3 13 f_249_13 := by
  unfold f_249_13
  refine fo_aload_n (k := 0) (fa_249 rfl) ?_
  refine fo_iload_n (k := 1) (fa_249 rfl) ?_
  refine fo_virtual (by decide) fna_177 (fo_call (fa_249 rfl) fNs_virtual fsm_177 (by decide) fFil_0 fna_177 fx_177 (by rw [fP_177]; rfl) fh_249 ?_)
  refine fo_if_ne (fa_249 rfl) (pcT := 25) rfl fs_249_25 ?_
  refine fo_iconst (fa_249 rfl) fk_c_1 ?_
  exact fo_goto (fa_249 rfl) (pcT := 26) rfl fs_249_26
theorem fs_249_12 : fSB 249 [0] 3 12 f_249_12 := by
  unfold f_249_12
  refine fo_iconst (fa_249 rfl) fk_c_0 ?_
  exact fs_249_13
theorem fs_249_0 : fSB 249 [0] 3 0 f_249_0 := by
  unfold f_249_0
  refine fo_aload_n (k := 0) (fa_249 rfl) ?_
  refine fo_iload_n (k := 1) (fa_249 rfl) ?_
  refine fo_static (by decide) (fo_call (fa_249 rfl) fNs_static fsm_174 (by decide) fFil_0 fna_174 fx_174 (by rw [fP_174]; rfl) fh_249 ?_)
  refine fo_if_ne (fa_249 rfl) (pcT := 12) rfl fs_249_12 ?_
  refine fo_iconst (fa_249 rfl) fk_c_1 ?_
  exact fo_goto (fa_249 rfl) (pcT := 13) rfl fs_249_13
theorem fsm_249 : fSM 249 3 fm_249 := fs_methH (lp := [0]) (by decide) rfl ⟨fs_249_0, trivial⟩
theorem fP_275 : mj_P 275 = (12, 2, (some .int), mcJ9_max_7cf53, []) := rfl
theorem fa_275 {pc : Nat} {e : mjE} (h : mj_at mcJ9_max_7cf53 pc = some e) : fAt 275 pc e := by unfold fAt; rw [fP_275]; exact h
theorem fr_275 : (mj_P 275).2.2.1 = (some .int) := by rw [fP_275]
theorem fna_275 : (mj_P 275).2.1 = 2 := by rw [fP_275]
theorem fx_275 : 2 ≤ mj_mx.getD 275 0 := by decide
theorem fh_275 : (mj_P 275).2.2.2.2.isEmpty = true := by rw [fP_275]; rfl
theorem fs_275_10 : fSB 275 [0] 0 10 f_275_10 := by
  unfold f_275_10
  exact fo_iret (fa_275 rfl) fr_275 fw_int
theorem fs_275_9 : fSB 275 [0] 0 9 f_275_9 := by
  unfold f_275_9
  refine fo_iload_n (k := 1) (fa_275 rfl) ?_
  exact fs_275_10
theorem fs_275_0 : fSB 275 [0] 0 0 f_275_0 := by
  unfold f_275_0
  refine fo_iload_n (k := 0) (fa_275 rfl) ?_
  refine fo_iload_n (k := 1) (fa_275 rfl) ?_
  refine fo_icmp_lt (fa_275 rfl) (pcT := 9) rfl fs_275_9 ?_
  refine fo_iload_n (k := 0) (fa_275 rfl) ?_
  exact fo_goto (fa_275 rfl) (pcT := 10) rfl fs_275_10
theorem fsm_275 : fSM 275 0 fm_275 := fs_methH (lp := [0]) (by decide) rfl ⟨fs_275_0, trivial⟩
theorem fP_250 : mj_P 250 = (8, 3, (some .int), mcX8_designOf, []) := rfl
theorem fa_250 {pc : Nat} {e : mjE} (h : mj_at mcX8_designOf pc = some e) : fAt 250 pc e := by unfold fAt; rw [fP_250]; exact h
theorem fr_250 : (mj_P 250).2.2.1 = (some .int) := by rw [fP_250]
theorem fna_250 : (mj_P 250).2.1 = 3 := by rw [fP_250]
theorem fx_250 : 3 ≤ mj_mx.getD 250 0 := by decide
theorem fh_250 : (mj_P 250).2.2.2.2.isEmpty = true := by rw [fP_250]; rfl
theorem fs_250_245 : fSB 250 [0, 92, 118] 3 245 f_250_245 := by
  unfold f_250_245
  exact fo_iret (fa_250 rfl) fr_250 fw_int
theorem fs_250_238 : fSB 250 [0, 92, 118] 3 238 f_250_238 := by
  unfold f_250_238
  refine fo_aload_n (k := 0) (fa_250 rfl) ?_
  refine fo_iload_n (k := 2) (fa_250 rfl) ?_
  refine fo_aload (k := 6) (fa_250 rfl) ?_
  refine fo_virtual (by decide) fna_181 (fo_call (fa_250 rfl) fNs_virtual fsm_181 (by decide) fFil_0 fna_181 fx_181 (by rw [fP_181]; rfl) fh_250 ?_)
  exact fs_250_245
theorem fs_250_227 : fSB 250 [0, 92, 118] 3 227 f_250_227 := by
  unfold f_250_227
  refine fo_iconst (fa_250 rfl) fk_c_0 ?_
  refine fo_virtual (by decide) fna_171 (fo_call (fa_250 rfl) fNs_virtual fsm_171 (by decide) fFil_0 fna_171 fx_171 (by rw [fP_171]; rfl) fh_250 ?_)
  refine fo_if_eq (fa_250 rfl) (pcT := 238) rfl fs_250_238 ?_
  refine fo_iconst (fa_250 rfl) fk_c_0 ?_
  exact fo_goto (fa_250 rfl) (pcT := 245) rfl fs_250_245
theorem fs_250_226 : fSB 250 [0, 92, 118] 3 226 f_250_226 := by
  unfold f_250_226
  refine fo_iconst (fa_250 rfl) fk_c_0 ?_
  exact fs_250_227
theorem fs_250_217 : fSB 250 [0, 92, 118] 3 217 f_250_217 := by
  unfold f_250_217
  refine fo_iload (k := 7) (fa_250 rfl) ?_
  refine fo_if_ne (fa_250 rfl) (pcT := 226) rfl fs_250_226 ?_
  refine fo_iconst (fa_250 rfl) fk_c_1 ?_
  exact fo_goto (fa_250 rfl) (pcT := 227) rfl fs_250_227
theorem fs_250_216 : fSB 250 [0, 92, 118] 3 216 f_250_216 := by
  unfold f_250_216
  refine fo_iconst (fa_250 rfl) fk_c_0 ?_
  exact fs_250_217
theorem fs_250_207 : fSB 250 [0, 92, 118] 3 207 f_250_207 := by
  unfold f_250_207
  refine fo_iload (k := 4) (fa_250 rfl) ?_
  refine fo_if_ne (fa_250 rfl) (pcT := 216) rfl fs_250_216 ?_
  refine fo_iconst (fa_250 rfl) fk_c_1 ?_
  exact fo_goto (fa_250 rfl) (pcT := 217) rfl fs_250_217
theorem fs_250_206 : fSB 250 [0, 92, 118] 3 206 f_250_206 := by
  unfold f_250_206
  refine fo_iconst (fa_250 rfl) fk_c_0 ?_
  exact fs_250_207
theorem fs_250_197 : fSB 250 [0, 92, 118] 3 197 f_250_197 := by
  unfold f_250_197
  refine fo_aload_n (k := 0) (fa_250 rfl) ?_
  refine fo_iload_n (k := 3) (fa_250 rfl) ?_
  refine fo_if_ne (fa_250 rfl) (pcT := 206) rfl fs_250_206 ?_
  refine fo_iconst (fa_250 rfl) fk_c_1 ?_
  exact fo_goto (fa_250 rfl) (pcT := 207) rfl fs_250_207
theorem fs_250_189 : fSB 250 [0, 92, 118] 3 189 f_250_189 := by
  unfold f_250_189
  refine fo_istore (k := 7) (fa_250 rfl) ?_
  refine fo_iinc (k := 8) (fa_250 rfl) fk_c_1 ?_
  exact fo_goto (fa_250 rfl) (pcT := 92) rfl (fo_back (q := 92) rfl)
theorem fs_250_188 : fSB 250 [0, 92, 118] 3 188 f_250_188 := by
  unfold f_250_188
  refine fo_iconst (fa_250 rfl) fk_c_0 ?_
  exact fs_250_189
theorem fs_250_171 : fSB 250 [0, 92, 118] 3 171 f_250_171 := by
  unfold f_250_171
  refine fo_iload (k := 7) (fa_250 rfl) ?_
  refine fo_if_eq (fa_250 rfl) (pcT := 188) rfl fs_250_188 ?_
  refine fo_aload (k := 6) (fa_250 rfl) ?_
  refine fo_iload (k := 8) (fa_250 rfl) ?_
  refine fo_iaload (fa_250 rfl) ?_
  refine fo_if_eq (fa_250 rfl) (pcT := 188) rfl fs_250_188 ?_
  refine fo_iconst (fa_250 rfl) fk_c_1 ?_
  exact fo_goto (fa_250 rfl) (pcT := 189) rfl fs_250_189
theorem fs_250_163 : fSB 250 [0, 92, 118] 3 163 f_250_163 := by
  unfold f_250_163
  refine fo_ior (fa_250 rfl) ?_
  refine fo_iastore (fa_250 rfl) ?_
  refine fo_iinc (k := 10) (fa_250 rfl) fk_c_1 ?_
  exact fo_goto (fa_250 rfl) (pcT := 118) rfl (fo_back (q := 118) rfl)
theorem fs_250_162 : fSB 250 [0, 92, 118] 3 162 f_250_162 := by
  unfold f_250_162
  refine fo_iconst (fa_250 rfl) fk_c_0 ?_
  exact fs_250_163
theorem fs_250_118 : fSB 250 [0, 92, 118] 3 118 f_250_118 := by
  unfold f_250_118
  refine fo_iload (k := 10) (fa_250 rfl) ?_
  refine fo_iload (k := 5) (fa_250 rfl) ?_
  refine fo_icmp_ge (fa_250 rfl) (pcT := 171) rfl fs_250_171 ?_
  refine fo_aload (k := 6) (fa_250 rfl) ?_
  refine fo_iload (k := 8) (fa_250 rfl) ?_
  refine fo_dup2 (fa_250 rfl) ?_
  refine fo_iaload (fa_250 rfl) ?_
  refine fo_aload_n (k := 0) (fa_250 rfl) ?_
  refine fo_getr (fa_250 rfl) (by decide) rfl ?_
  refine fo_iload_n (k := 1) (fa_250 rfl) ?_
  refine fo_aaload (fa_250 rfl) (by decide) (by decide) ?_
  refine fo_iconst (fa_250 rfl) fk_c_1 ?_
  refine fo_iload (k := 5) (fa_250 rfl) ?_
  refine fo_iload (k := 8) (fa_250 rfl) ?_
  refine fo_imul (fa_250 rfl) ?_
  refine fo_iadd (fa_250 rfl) ?_
  refine fo_iload (k := 10) (fa_250 rfl) ?_
  refine fo_iadd (fa_250 rfl) ?_
  refine fo_iaload (fa_250 rfl) ?_
  refine fo_iload (k := 9) (fa_250 rfl) ?_
  refine fo_icmp_ne (fa_250 rfl) (pcT := 162) rfl fs_250_162 ?_
  refine fo_iconst (fa_250 rfl) fk_c_1 ?_
  refine fo_iload (k := 10) (fa_250 rfl) ?_
  refine fo_iconst (fa_250 rfl) fk_c_1 ?_
  refine fo_isub (fa_250 rfl) ?_
  refine fo_ishl (fa_250 rfl) ?_
  exact fo_goto (fa_250 rfl) (pcT := 163) rfl fs_250_163
theorem fs_250_92 : fSB 250 [0, 92, 118] 3 92 f_250_92 := by
  unfold f_250_92
  refine fo_iload (k := 8) (fa_250 rfl) ?_
  refine fo_iload (k := 5) (fa_250 rfl) ?_
  refine fo_icmp_ge (fa_250 rfl) (pcT := 197) rfl fs_250_197 ?_
  refine fo_aload_n (k := 0) (fa_250 rfl) ?_
  refine fo_getr (fa_250 rfl) (by decide) rfl ?_
  refine fo_iload_n (k := 1) (fa_250 rfl) ?_
  refine fo_aaload (fa_250 rfl) (by decide) (by decide) ?_
  refine fo_iconst (fa_250 rfl) fk_c_1 ?_
  refine fo_iload (k := 5) (fa_250 rfl) ?_
  refine fo_iload (k := 8) (fa_250 rfl) ?_
  refine fo_imul (fa_250 rfl) ?_
  refine fo_iadd (fa_250 rfl) ?_
  refine fo_iaload (fa_250 rfl) ?_
  refine fo_istore (k := 9) (fa_250 rfl) ?_
  refine fo_iconst (fa_250 rfl) fk_c_1 ?_
  refine fo_istore (k := 10) (fa_250 rfl) ?_
  exact fs_250_118
theorem fs_250_87 : fSB 250 [0, 92, 118] 3 87 f_250_87 := by
  unfold f_250_87
  refine fo_istore (k := 7) (fa_250 rfl) ?_
  refine fo_iconst (fa_250 rfl) fk_c_1 ?_
  refine fo_istore (k := 8) (fa_250 rfl) ?_
  exact fs_250_92
theorem fs_250_86 : fSB 250 [0, 92, 118] 3 86 f_250_86 := by
  unfold f_250_86
  refine fo_iconst (fa_250 rfl) fk_c_0 ?_
  exact fs_250_87
theorem fs_250_56 : fSB 250 [0, 92, 118] 3 56 f_250_56 := by
  unfold f_250_56
  refine fo_istore (k := 5) (fa_250 rfl) ?_
  refine fo_iconst (fa_250 rfl) fk_c_1 ?_
  refine fo_iload (k := 5) (fa_250 rfl) ?_
  refine fo_static (by decide) (fo_call (fa_250 rfl) fNs_static fsm_275 (by decide) fFil_0 fna_275 fx_275 (by rw [fP_275]; rfl) fh_250 ?_)
  refine fo_newarray (fa_250 rfl) rfl (by decide) (by decide) fel_20 ?_
  refine fo_astore (k := 6) (fa_250 rfl) ?_
  refine fo_aload (k := 6) (fa_250 rfl) ?_
  refine fo_iconst (fa_250 rfl) fk_c_0 ?_
  refine fo_iload (k := 5) (fa_250 rfl) ?_
  refine fo_iconst (fa_250 rfl) fk_c_1 ?_
  refine fo_isub (fa_250 rfl) ?_
  refine fo_iastore (fa_250 rfl) ?_
  refine fo_iload (k := 5) (fa_250 rfl) ?_
  refine fo_iconst (fa_250 rfl) fk_c_4 ?_
  refine fo_icmp_lt (fa_250 rfl) (pcT := 86) rfl fs_250_86 ?_
  refine fo_iconst (fa_250 rfl) fk_c_1 ?_
  exact fo_goto (fa_250 rfl) (pcT := 87) rfl fs_250_87
theorem fs_250_55 : fSB 250 [0, 92, 118] 3 55 f_250_55 := by
  unfold f_250_55
  refine fo_iconst (fa_250 rfl) fk_c_0 ?_
  exact fs_250_56
theorem fs_250_37 : fSB 250 [0, 92, 118] 3 37 f_250_37 := by
  unfold f_250_37
  refine fo_istore (k := 4) (fa_250 rfl) ?_
  refine fo_iload (k := 4) (fa_250 rfl) ?_
  refine fo_if_eq (fa_250 rfl) (pcT := 55) rfl fs_250_55 ?_
  refine fo_aload_n (k := 0) (fa_250 rfl) ?_
  refine fo_getr (fa_250 rfl) (by decide) rfl ?_
  refine fo_iload_n (k := 1) (fa_250 rfl) ?_
  refine fo_aaload (fa_250 rfl) (by decide) (by decide) ?_
  refine fo_iconst (fa_250 rfl) fk_c_0 ?_
  refine fo_iaload (fa_250 rfl) ?_
  exact fo_goto (fa_250 rfl) (pcT := 56) rfl fs_250_56
theorem fs_250_36 : fSB 250 [0, 92, 118] 3 36 f_250_36 := by
  unfold f_250_36
  refine fo_iconst (fa_250 rfl) fk_c_0 ?_
  exact fs_250_37
theorem fs_250_19 : fSB 250 [0, 92, 118] 3 19 f_250_19 := by
  unfold f_250_19
  refine fo_istore_n (k := 3) (fa_250 rfl) ?_
  refine fo_iload_n (k := 3) (fa_250 rfl) ?_
  refine fo_if_eq (fa_250 rfl) (pcT := 36) rfl fs_250_36 ?_
  refine fo_aload_n (k := 0) (fa_250 rfl) ?_
  refine fo_iload_n (k := 1) (fa_250 rfl) ?_
  refine fo_virtual (by decide) fna_177 (fo_call (fa_250 rfl) fNs_virtual fsm_177 (by decide) fFil_0 fna_177 fx_177 (by rw [fP_177]; rfl) fh_250 ?_)
  refine fo_if_eq (fa_250 rfl) (pcT := 36) rfl fs_250_36 ?_
  refine fo_iconst (fa_250 rfl) fk_c_1 ?_
  exact fo_goto (fa_250 rfl) (pcT := 37) rfl fs_250_37
theorem fs_250_18 : fSB 250 [0, 92, 118] 3 18 f_250_18 := by
  unfold f_250_18
  refine fo_iconst (fa_250 rfl) fk_c_0 ?_
  exact fs_250_19
theorem fs_250_0 : fSB 250 [0, 92, 118] 3 0 f_250_0 := by
  unfold f_250_0
  refine fo_iload_n (k := 1) (fa_250 rfl) ?_
  refine fo_static (by decide) (fo_call (fa_250 rfl) fNs_static fsm_174 (by decide) fFil_0 fna_174 fx_174 (by rw [fP_174]; rfl) fh_250 ?_)
  refine fo_if_eq (fa_250 rfl) (pcT := 18) rfl fs_250_18 ?_
  refine fo_iload_n (k := 2) (fa_250 rfl) ?_
  refine fo_static (by decide) (fo_call (fa_250 rfl) fNs_static fsm_173 (by decide) fFil_0 fna_173 fx_173 (by rw [fP_173]; rfl) fh_250 ?_)
  refine fo_if_eq (fa_250 rfl) (pcT := 18) rfl fs_250_18 ?_
  refine fo_iconst (fa_250 rfl) fk_c_1 ?_
  exact fo_goto (fa_250 rfl) (pcT := 19) rfl fs_250_19
theorem fsm_250 : fSM 250 3 fm_250 := fs_methH (lp := [0, 92, 118]) (by decide) rfl ⟨fs_250_0, fs_250_92, fs_250_118, trivial⟩
theorem fP_251 : mj_P 251 = (8, 1, (some .boolean), mcX8_areTeams, []) := rfl
theorem fa_251 {pc : Nat} {e : mjE} (h : mj_at mcX8_areTeams pc = some e) : fAt 251 pc e := by unfold fAt; rw [fP_251]; exact h
theorem fr_251 : (mj_P 251).2.2.1 = (some .boolean) := by rw [fP_251]
theorem fna_251 : (mj_P 251).2.1 = 1 := by rw [fP_251]
theorem fx_251 : 1 ≤ mj_mx.getD 251 0 := by decide
theorem fh_251 : (mj_P 251).2.2.2.2.isEmpty = true := by rw [fP_251]; rfl
theorem fs_251_25 : fSB 251 [0] 1 25 f_251_25 := by
  unfold f_251_25
  exact fo_iret (fa_251 rfl) fr_251 fw_bool
theorem fs_251_24 : fSB 251 [0] 1 24 f_251_24 := by
  unfold f_251_24
  refine fo_iconst (fa_251 rfl) fk_c_0 ?_
  exact fs_251_25
theorem fs_251_0 : fSB 251 [0] 1 0 f_251_0 := by
  unfold f_251_0
  refine fo_iload_n (k := 0) (fa_251 rfl) ?_
  refine fo_i2l (fa_251 rfl) ?_
  refine fo_ldc2 (fa_251 rfl) ?_
  refine fo_ldc2 (fa_251 rfl) ?_
  refine fo_static (by decide) (fo_call (fa_251 rfl) fNs_static fsm_172 (by decide) fFil_0 fna_172 fx_172 (by rw [fP_172]; rfl) fh_251 ?_)
  refine fo_if_eq (fa_251 rfl) (pcT := 24) rfl fs_251_24 ?_
  refine fo_iload_n (k := 0) (fa_251 rfl) ?_
  refine fo_iconst (fa_251 rfl) fk_c_2 ?_
  refine fo_irem (fa_251 rfl) ?_
  refine fo_if_ne (fa_251 rfl) (pcT := 24) rfl fs_251_24 ?_
  refine fo_iconst (fa_251 rfl) fk_c_1 ?_
  exact fo_goto (fa_251 rfl) (pcT := 25) rfl fs_251_25
theorem fsm_251 : fSM 251 1 fm_251 := fs_methH (lp := [0]) (by decide) rfl ⟨fs_251_0, trivial⟩
theorem fP_252 : mj_P 252 = (8, 3, (some .int), mcX8_against, []) := rfl
theorem fa_252 {pc : Nat} {e : mjE} (h : mj_at mcX8_against pc = some e) : fAt 252 pc e := by unfold fAt; rw [fP_252]; exact h
theorem fr_252 : (mj_P 252).2.2.1 = (some .int) := by rw [fP_252]
theorem fna_252 : (mj_P 252).2.1 = 3 := by rw [fP_252]
theorem fx_252 : 3 ≤ mj_mx.getD 252 0 := by decide
theorem fh_252 : (mj_P 252).2.2.2.2.isEmpty = true := by rw [fP_252]; rfl
theorem fs_252_54 : fSB 252 [0, 12] 0 54 f_252_54 := by
  unfold f_252_54
  exact fo_iret (fa_252 rfl) fr_252 fw_int
theorem fs_252_52 : fSB 252 [0, 12] 0 52 f_252_52 := by
  unfold f_252_52
  refine fo_iload (k := 4) (fa_252 rfl) ?_
  exact fs_252_54
theorem fs_252_31 : fSB 252 [0, 12] 0 31 f_252_31 := by
  unfold f_252_31
  refine fo_iload_n (k := 1) (fa_252 rfl) ?_
  refine fo_iload_n (k := 2) (fa_252 rfl) ?_
  refine fo_isub (fa_252 rfl) ?_
  refine fo_iload_n (k := 3) (fa_252 rfl) ?_
  refine fo_irem (fa_252 rfl) ?_
  refine fo_iload_n (k := 3) (fa_252 rfl) ?_
  refine fo_iadd (fa_252 rfl) ?_
  refine fo_iload_n (k := 3) (fa_252 rfl) ?_
  refine fo_irem (fa_252 rfl) ?_
  refine fo_istore (k := 4) (fa_252 rfl) ?_
  refine fo_iload (k := 4) (fa_252 rfl) ?_
  refine fo_iload_n (k := 2) (fa_252 rfl) ?_
  refine fo_icmp_ne (fa_252 rfl) (pcT := 52) rfl fs_252_52 ?_
  refine fo_iload_n (k := 3) (fa_252 rfl) ?_
  exact fo_goto (fa_252 rfl) (pcT := 54) rfl fs_252_54
theorem fs_252_28 : fSB 252 [0, 12] 0 28 f_252_28 := by
  unfold f_252_28
  refine fo_iload (k := 4) (fa_252 rfl) ?_
  exact fo_iret (fa_252 rfl) fr_252 fw_int
theorem fs_252_12 : fSB 252 [0, 12] 0 12 f_252_12 := by
  unfold f_252_12
  refine fo_iconst (fa_252 rfl) fk_c_2 ?_
  refine fo_iload (k := 4) (fa_252 rfl) ?_
  refine fo_imul (fa_252 rfl) ?_
  refine fo_iload_n (k := 3) (fa_252 rfl) ?_
  refine fo_irem (fa_252 rfl) ?_
  refine fo_iload_n (k := 1) (fa_252 rfl) ?_
  refine fo_icmp_eq (fa_252 rfl) (pcT := 28) rfl fs_252_28 ?_
  refine fo_iinc (k := 4) (fa_252 rfl) fk_c_1 ?_
  exact fo_goto (fa_252 rfl) (pcT := 12) rfl (fo_back (q := 12) rfl)
theorem fs_252_0 : fSB 252 [0, 12] 0 0 f_252_0 := by
  unfold f_252_0
  refine fo_iload_n (k := 0) (fa_252 rfl) ?_
  refine fo_iconst (fa_252 rfl) fk_c_1 ?_
  refine fo_isub (fa_252 rfl) ?_
  refine fo_istore_n (k := 3) (fa_252 rfl) ?_
  refine fo_iload_n (k := 2) (fa_252 rfl) ?_
  refine fo_iload_n (k := 3) (fa_252 rfl) ?_
  refine fo_icmp_ne (fa_252 rfl) (pcT := 31) rfl fs_252_31 ?_
  refine fo_iconst (fa_252 rfl) fk_c_0 ?_
  refine fo_istore (k := 4) (fa_252 rfl) ?_
  exact fs_252_12
theorem fsm_252 : fSM 252 0 fm_252 := fs_methH (lp := [0, 12]) (by decide) rfl ⟨fs_252_0, fs_252_12, trivial⟩
theorem fP_253 : mj_P 253 = (8, 3, (some .boolean), mcX8_home, []) := rfl
theorem fa_253 {pc : Nat} {e : mjE} (h : mj_at mcX8_home pc = some e) : fAt 253 pc e := by unfold fAt; rw [fP_253]; exact h
theorem fr_253 : (mj_P 253).2.2.1 = (some .boolean) := by rw [fP_253]
theorem fna_253 : (mj_P 253).2.1 = 3 := by rw [fP_253]
theorem fx_253 : 3 ≤ mj_mx.getD 253 0 := by decide
theorem fh_253 : (mj_P 253).2.2.2.2.isEmpty = true := by rw [fP_253]; rfl
theorem fs_253_84 : fSB 253 [0] 1 84 f_253_84 := by
  unfold f_253_84
  exact fo_iret (fa_253 rfl) fr_253 fw_bool
theorem fs_253_83 : fSB 253 [0] 1 83 f_253_83 := by
  unfold f_253_83
  refine fo_iconst (fa_253 rfl) fk_c_0 ?_
  exact fs_253_84
theorem fs_253_76 : fSB 253 [0] 1 76 f_253_76 := by
  unfold f_253_76
  refine fo_icmp_ne (fa_253 rfl) (pcT := 83) rfl fs_253_83 ?_
  refine fo_iconst (fa_253 rfl) fk_c_1 ?_
  exact fo_goto (fa_253 rfl) (pcT := 84) rfl fs_253_84
theorem fs_253_75 : fSB 253 [0] 1 75 f_253_75 := by
  unfold f_253_75
  refine fo_iconst (fa_253 rfl) fk_c_0 ?_
  exact fs_253_76
theorem fs_253_66 : fSB 253 [0] 1 66 f_253_66 := by
  unfold f_253_66
  refine fo_iload_n (k := 2) (fa_253 rfl) ?_
  refine fo_iload_n (k := 3) (fa_253 rfl) ?_
  refine fo_icmp_ge (fa_253 rfl) (pcT := 75) rfl fs_253_75 ?_
  refine fo_iconst (fa_253 rfl) fk_c_1 ?_
  exact fo_goto (fa_253 rfl) (pcT := 76) rfl fs_253_76
theorem fs_253_65 : fSB 253 [0] 1 65 f_253_65 := by
  unfold f_253_65
  refine fo_iconst (fa_253 rfl) fk_c_0 ?_
  exact fs_253_66
theorem fs_253_53 : fSB 253 [0] 1 53 f_253_53 := by
  unfold f_253_53
  refine fo_iload_n (k := 2) (fa_253 rfl) ?_
  refine fo_iload_n (k := 3) (fa_253 rfl) ?_
  refine fo_isub (fa_253 rfl) ?_
  refine fo_iconst (fa_253 rfl) fk_c_2 ?_
  refine fo_irem (fa_253 rfl) ?_
  refine fo_if_eq (fa_253 rfl) (pcT := 65) rfl fs_253_65 ?_
  refine fo_iconst (fa_253 rfl) fk_c_1 ?_
  exact fo_goto (fa_253 rfl) (pcT := 66) rfl fs_253_66
theorem fs_253_52 : fSB 253 [0] 1 52 f_253_52 := by
  unfold f_253_52
  exact fo_iret (fa_253 rfl) fr_253 fw_bool
theorem fs_253_51 : fSB 253 [0] 1 51 f_253_51 := by
  unfold f_253_51
  refine fo_iconst (fa_253 rfl) fk_c_0 ?_
  exact fs_253_52
theorem fs_253_44 : fSB 253 [0] 1 44 f_253_44 := by
  unfold f_253_44
  refine fo_icmp_ne (fa_253 rfl) (pcT := 51) rfl fs_253_51 ?_
  refine fo_iconst (fa_253 rfl) fk_c_1 ?_
  exact fo_goto (fa_253 rfl) (pcT := 52) rfl fs_253_52
theorem fs_253_43 : fSB 253 [0] 1 43 f_253_43 := by
  unfold f_253_43
  refine fo_iconst (fa_253 rfl) fk_c_0 ?_
  exact fs_253_44
theorem fs_253_32 : fSB 253 [0] 1 32 f_253_32 := by
  unfold f_253_32
  refine fo_iload_n (k := 2) (fa_253 rfl) ?_
  refine fo_iload_n (k := 0) (fa_253 rfl) ?_
  refine fo_iconst (fa_253 rfl) fk_c_1 ?_
  refine fo_isub (fa_253 rfl) ?_
  refine fo_icmp_ne (fa_253 rfl) (pcT := 43) rfl fs_253_43 ?_
  refine fo_iconst (fa_253 rfl) fk_c_1 ?_
  exact fo_goto (fa_253 rfl) (pcT := 44) rfl fs_253_44
theorem fs_253_31 : fSB 253 [0] 1 31 f_253_31 := by
  unfold f_253_31
  refine fo_iconst (fa_253 rfl) fk_c_0 ?_
  exact fs_253_32
theorem fs_253_21 : fSB 253 [0] 1 21 f_253_21 := by
  unfold f_253_21
  refine fo_iload_n (k := 1) (fa_253 rfl) ?_
  refine fo_iconst (fa_253 rfl) fk_c_2 ?_
  refine fo_irem (fa_253 rfl) ?_
  refine fo_if_ne (fa_253 rfl) (pcT := 31) rfl fs_253_31 ?_
  refine fo_iconst (fa_253 rfl) fk_c_1 ?_
  exact fo_goto (fa_253 rfl) (pcT := 32) rfl fs_253_32
theorem fs_253_0 : fSB 253 [0] 1 0 f_253_0 := by
  unfold f_253_0
  refine fo_iload_n (k := 0) (fa_253 rfl) ?_
  refine fo_iload_n (k := 1) (fa_253 rfl) ?_
  refine fo_iload_n (k := 2) (fa_253 rfl) ?_
  refine fo_static (by decide) (fo_call (fa_253 rfl) fNs_static fsm_252 (by decide) fFil_2 fna_252 fx_252 (by rw [fP_252]; rfl) fh_253 ?_)
  refine fo_istore_n (k := 3) (fa_253 rfl) ?_
  refine fo_iload_n (k := 2) (fa_253 rfl) ?_
  refine fo_iload_n (k := 0) (fa_253 rfl) ?_
  refine fo_iconst (fa_253 rfl) fk_c_1 ?_
  refine fo_isub (fa_253 rfl) ?_
  refine fo_icmp_eq (fa_253 rfl) (pcT := 21) rfl fs_253_21 ?_
  refine fo_iload_n (k := 3) (fa_253 rfl) ?_
  refine fo_iload_n (k := 0) (fa_253 rfl) ?_
  refine fo_iconst (fa_253 rfl) fk_c_1 ?_
  refine fo_isub (fa_253 rfl) ?_
  refine fo_icmp_ne (fa_253 rfl) (pcT := 53) rfl fs_253_53 ?_
  exact fs_253_21
theorem fsm_253 : fSM 253 1 fm_253 := fs_methH (lp := [0]) (by decide) rfl ⟨fs_253_0, trivial⟩
theorem fP_254 : mj_P 254 = (8, 3, (some .boolean), mcX8_isGame, []) := rfl
theorem fa_254 {pc : Nat} {e : mjE} (h : mj_at mcX8_isGame pc = some e) : fAt 254 pc e := by unfold fAt; rw [fP_254]; exact h
theorem fr_254 : (mj_P 254).2.2.1 = (some .boolean) := by rw [fP_254]
theorem fna_254 : (mj_P 254).2.1 = 3 := by rw [fP_254]
theorem fx_254 : 3 ≤ mj_mx.getD 254 0 := by decide
theorem fh_254 : (mj_P 254).2.2.2.2.isEmpty = true := by rw [fP_254]; rfl
theorem fs_254_38 : fSB 254 [0] 2 38 f_254_38 := by
  unfold f_254_38
  exact fo_iret (fa_254 rfl) fr_254 fw_bool
theorem fs_254_37 : fSB 254 [0] 2 37 f_254_37 := by
  unfold f_254_37
  refine fo_iconst (fa_254 rfl) fk_c_0 ?_
  exact fs_254_38
theorem fs_254_0 : fSB 254 [0] 2 0 f_254_0 := by
  unfold f_254_0
  refine fo_iload_n (k := 0) (fa_254 rfl) ?_
  refine fo_static (by decide) (fo_call (fa_254 rfl) fNs_static fsm_251 (by decide) fFil_0 fna_251 fx_251 (by rw [fP_251]; rfl) fh_254 ?_)
  refine fo_if_eq (fa_254 rfl) (pcT := 37) rfl fs_254_37 ?_
  refine fo_iload_n (k := 1) (fa_254 rfl) ?_
  refine fo_i2l (fa_254 rfl) ?_
  refine fo_lconst (fa_254 rfl) rfl ?_
  refine fo_iload_n (k := 0) (fa_254 rfl) ?_
  refine fo_iconst (fa_254 rfl) fk_c_2 ?_
  refine fo_isub (fa_254 rfl) ?_
  refine fo_i2l (fa_254 rfl) ?_
  refine fo_static (by decide) (fo_call (fa_254 rfl) fNs_static fsm_172 (by decide) fFil_0 fna_172 fx_172 (by rw [fP_172]; rfl) fh_254 ?_)
  refine fo_if_eq (fa_254 rfl) (pcT := 37) rfl fs_254_37 ?_
  refine fo_iload_n (k := 2) (fa_254 rfl) ?_
  refine fo_i2l (fa_254 rfl) ?_
  refine fo_lconst (fa_254 rfl) rfl ?_
  refine fo_iload_n (k := 0) (fa_254 rfl) ?_
  refine fo_iconst (fa_254 rfl) fk_c_1 ?_
  refine fo_isub (fa_254 rfl) ?_
  refine fo_i2l (fa_254 rfl) ?_
  refine fo_static (by decide) (fo_call (fa_254 rfl) fNs_static fsm_172 (by decide) fFil_0 fna_172 fx_172 (by rw [fP_172]; rfl) fh_254 ?_)
  refine fo_if_eq (fa_254 rfl) (pcT := 37) rfl fs_254_37 ?_
  refine fo_iconst (fa_254 rfl) fk_c_1 ?_
  exact fo_goto (fa_254 rfl) (pcT := 38) rfl fs_254_38
theorem fsm_254 : fSM 254 2 fm_254 := fs_methH (lp := [0]) (by decide) rfl ⟨fs_254_0, trivial⟩
theorem fP_255 : mj_P 255 = (8, 4, (some .int), mcX8_plays, []) := rfl
theorem fa_255 {pc : Nat} {e : mjE} (h : mj_at mcX8_plays pc = some e) : fAt 255 pc e := by unfold fAt; rw [fP_255]; exact h
theorem fr_255 : (mj_P 255).2.2.1 = (some .int) := by rw [fP_255]
theorem fna_255 : (mj_P 255).2.1 = 4 := by rw [fP_255]
theorem fx_255 : 4 ≤ mj_mx.getD 255 0 := by decide
theorem fh_255 : (mj_P 255).2.2.2.2.isEmpty = true := by rw [fP_255]; rfl
theorem fs_255_34 : fSB 255 [0] 3 34 f_255_34 := by
  unfold f_255_34
  exact fo_iret (fa_255 rfl) fr_255 fw_int
theorem fs_255_28 : fSB 255 [0] 3 28 f_255_28 := by
  unfold f_255_28
  refine fo_iload_n (k := 1) (fa_255 rfl) ?_
  refine fo_iload_n (k := 2) (fa_255 rfl) ?_
  refine fo_iload_n (k := 3) (fa_255 rfl) ?_
  refine fo_static (by decide) (fo_call (fa_255 rfl) fNs_static fsm_252 (by decide) fFil_2 fna_252 fx_252 (by rw [fP_252]; rfl) fh_255 ?_)
  exact fs_255_34
theorem fs_255_15 : fSB 255 [0] 3 15 f_255_15 := by
  unfold f_255_15
  refine fo_iconst (fa_255 rfl) fk_c_0 ?_
  refine fo_iconst (fa_255 rfl) fk_c_0 ?_
  refine fo_iconst (fa_255 rfl) fk_c_0 ?_
  refine fo_virtual (by decide) fna_171 (fo_call (fa_255 rfl) fNs_virtual fsm_171 (by decide) fFil_0 fna_171 fx_171 (by rw [fP_171]; rfl) fh_255 ?_)
  refine fo_if_eq (fa_255 rfl) (pcT := 28) rfl fs_255_28 ?_
  refine fo_iconst (fa_255 rfl) fk_c_0 ?_
  exact fo_goto (fa_255 rfl) (pcT := 34) rfl fs_255_34
theorem fs_255_14 : fSB 255 [0] 3 14 f_255_14 := by
  unfold f_255_14
  refine fo_iconst (fa_255 rfl) fk_c_0 ?_
  exact fs_255_15
theorem fs_255_0 : fSB 255 [0] 3 0 f_255_0 := by
  unfold f_255_0
  refine fo_aload_n (k := 0) (fa_255 rfl) ?_
  refine fo_iload_n (k := 1) (fa_255 rfl) ?_
  refine fo_iload_n (k := 2) (fa_255 rfl) ?_
  refine fo_iload_n (k := 3) (fa_255 rfl) ?_
  refine fo_static (by decide) (fo_call (fa_255 rfl) fNs_static fsm_254 (by decide) fFil_0 fna_254 fx_254 (by rw [fP_254]; rfl) fh_255 ?_)
  refine fo_if_ne (fa_255 rfl) (pcT := 14) rfl fs_255_14 ?_
  refine fo_iconst (fa_255 rfl) fk_c_1 ?_
  exact fo_goto (fa_255 rfl) (pcT := 15) rfl fs_255_15
theorem fsm_255 : fSM 255 3 fm_255 := fs_methH (lp := [0]) (by decide) rfl ⟨fs_255_0, trivial⟩
theorem fP_256 : mj_P 256 = (8, 4, (some .boolean), mcX8_isHome, []) := rfl
theorem fa_256 {pc : Nat} {e : mjE} (h : mj_at mcX8_isHome pc = some e) : fAt 256 pc e := by unfold fAt; rw [fP_256]; exact h
theorem fr_256 : (mj_P 256).2.2.1 = (some .boolean) := by rw [fP_256]
theorem fna_256 : (mj_P 256).2.1 = 4 := by rw [fP_256]
theorem fx_256 : 4 ≤ mj_mx.getD 256 0 := by decide
theorem fh_256 : (mj_P 256).2.2.2.2.isEmpty = true := by rw [fP_256]; rfl
theorem fs_256_38 : fSB 256 [0] 3 38 f_256_38 := by
  unfold f_256_38
  exact fo_iret (fa_256 rfl) fr_256 fw_bool
theorem fs_256_37 : fSB 256 [0] 3 37 f_256_37 := by
  unfold f_256_37
  refine fo_iconst (fa_256 rfl) fk_c_0 ?_
  exact fs_256_38
theorem fs_256_15 : fSB 256 [0] 3 15 f_256_15 := by
  unfold f_256_15
  refine fo_iconst (fa_256 rfl) fk_c_0 ?_
  refine fo_iconst (fa_256 rfl) fk_c_0 ?_
  refine fo_iconst (fa_256 rfl) fk_c_0 ?_
  refine fo_virtual (by decide) fna_171 (fo_call (fa_256 rfl) fNs_virtual fsm_171 (by decide) fFil_0 fna_171 fx_171 (by rw [fP_171]; rfl) fh_256 ?_)
  refine fo_if_ne (fa_256 rfl) (pcT := 37) rfl fs_256_37 ?_
  refine fo_iload_n (k := 1) (fa_256 rfl) ?_
  refine fo_iload_n (k := 2) (fa_256 rfl) ?_
  refine fo_iload_n (k := 3) (fa_256 rfl) ?_
  refine fo_static (by decide) (fo_call (fa_256 rfl) fNs_static fsm_253 (by decide) fFil_1 fna_253 fx_253 (by rw [fP_253]; rfl) fh_256 ?_)
  refine fo_if_eq (fa_256 rfl) (pcT := 37) rfl fs_256_37 ?_
  refine fo_iconst (fa_256 rfl) fk_c_1 ?_
  exact fo_goto (fa_256 rfl) (pcT := 38) rfl fs_256_38
theorem fs_256_14 : fSB 256 [0] 3 14 f_256_14 := by
  unfold f_256_14
  refine fo_iconst (fa_256 rfl) fk_c_0 ?_
  exact fs_256_15
theorem fs_256_0 : fSB 256 [0] 3 0 f_256_0 := by
  unfold f_256_0
  refine fo_aload_n (k := 0) (fa_256 rfl) ?_
  refine fo_iload_n (k := 1) (fa_256 rfl) ?_
  refine fo_iload_n (k := 2) (fa_256 rfl) ?_
  refine fo_iload_n (k := 3) (fa_256 rfl) ?_
  refine fo_static (by decide) (fo_call (fa_256 rfl) fNs_static fsm_254 (by decide) fFil_0 fna_254 fx_254 (by rw [fP_254]; rfl) fh_256 ?_)
  refine fo_if_ne (fa_256 rfl) (pcT := 14) rfl fs_256_14 ?_
  refine fo_iconst (fa_256 rfl) fk_c_1 ?_
  exact fo_goto (fa_256 rfl) (pcT := 15) rfl fs_256_15
theorem fsm_256 : fSM 256 3 fm_256 := fs_methH (lp := [0]) (by decide) rfl ⟨fs_256_0, trivial⟩
theorem fP_257 : mj_P 257 = (8, 2, (some .int), mcX8_breaks, []) := rfl
theorem fa_257 {pc : Nat} {e : mjE} (h : mj_at mcX8_breaks pc = some e) : fAt 257 pc e := by unfold fAt; rw [fP_257]; exact h
theorem fr_257 : (mj_P 257).2.2.1 = (some .int) := by rw [fP_257]
theorem fna_257 : (mj_P 257).2.1 = 2 := by rw [fP_257]
theorem fx_257 : 2 ≤ mj_mx.getD 257 0 := by decide
theorem fh_257 : (mj_P 257).2.2.2.2.isEmpty = true := by rw [fP_257]; rfl
theorem fs_257_83 : fSB 257 [0, 28, 36] 2 83 f_257_83 := by
  unfold f_257_83
  refine fo_iload_n (k := 2) (fa_257 rfl) ?_
  exact fo_iret (fa_257 rfl) fr_257 fw_int
theorem fs_257_77 : fSB 257 [0, 28, 36] 2 77 f_257_77 := by
  unfold f_257_77
  refine fo_iinc (k := 3) (fa_257 rfl) fk_c_1 ?_
  exact fo_goto (fa_257 rfl) (pcT := 28) rfl (fo_back (q := 28) rfl)
theorem fs_257_69 : fSB 257 [0, 28, 36] 2 69 f_257_69 := by
  unfold f_257_69
  refine fo_iadd (fa_257 rfl) ?_
  refine fo_istore_n (k := 2) (fa_257 rfl) ?_
  refine fo_iinc (k := 4) (fa_257 rfl) fk_c_1 ?_
  exact fo_goto (fa_257 rfl) (pcT := 36) rfl (fo_back (q := 36) rfl)
theorem fs_257_68 : fSB 257 [0, 28, 36] 2 68 f_257_68 := by
  unfold f_257_68
  refine fo_iconst (fa_257 rfl) fk_c_0 ?_
  exact fs_257_69
theorem fs_257_36 : fSB 257 [0, 28, 36] 2 36 f_257_36 := by
  unfold f_257_36
  refine fo_iload (k := 4) (fa_257 rfl) ?_
  refine fo_iload_n (k := 1) (fa_257 rfl) ?_
  refine fo_iconst (fa_257 rfl) fk_c_1 ?_
  refine fo_isub (fa_257 rfl) ?_
  refine fo_icmp_ge (fa_257 rfl) (pcT := 77) rfl fs_257_77 ?_
  refine fo_iload_n (k := 2) (fa_257 rfl) ?_
  refine fo_iload_n (k := 1) (fa_257 rfl) ?_
  refine fo_iload (k := 4) (fa_257 rfl) ?_
  refine fo_iload_n (k := 3) (fa_257 rfl) ?_
  refine fo_static (by decide) (fo_call (fa_257 rfl) fNs_static fsm_253 (by decide) fFil_1 fna_253 fx_253 (by rw [fP_253]; rfl) fh_257 ?_)
  refine fo_iload_n (k := 1) (fa_257 rfl) ?_
  refine fo_iload (k := 4) (fa_257 rfl) ?_
  refine fo_iconst (fa_257 rfl) fk_c_1 ?_
  refine fo_isub (fa_257 rfl) ?_
  refine fo_iload_n (k := 3) (fa_257 rfl) ?_
  refine fo_static (by decide) (fo_call (fa_257 rfl) fNs_static fsm_253 (by decide) fFil_1 fna_253 fx_253 (by rw [fP_253]; rfl) fh_257 ?_)
  refine fo_icmp_ne (fa_257 rfl) (pcT := 68) rfl fs_257_68 ?_
  refine fo_iconst (fa_257 rfl) fk_c_1 ?_
  exact fo_goto (fa_257 rfl) (pcT := 69) rfl fs_257_69
theorem fs_257_28 : fSB 257 [0, 28, 36] 2 28 f_257_28 := by
  unfold f_257_28
  refine fo_iload_n (k := 3) (fa_257 rfl) ?_
  refine fo_iload_n (k := 1) (fa_257 rfl) ?_
  refine fo_icmp_ge (fa_257 rfl) (pcT := 83) rfl fs_257_83 ?_
  refine fo_iconst (fa_257 rfl) fk_c_1 ?_
  refine fo_istore (k := 4) (fa_257 rfl) ?_
  exact fs_257_36
theorem fs_257_24 : fSB 257 [0, 28, 36] 2 24 f_257_24 := by
  unfold f_257_24
  refine fo_iconst (fa_257 rfl) fk_c_0 ?_
  refine fo_istore_n (k := 2) (fa_257 rfl) ?_
  refine fo_iconst (fa_257 rfl) fk_c_0 ?_
  refine fo_istore_n (k := 3) (fa_257 rfl) ?_
  exact fs_257_28
theorem fs_257_13 : fSB 257 [0, 28, 36] 2 13 f_257_13 := by
  unfold f_257_13
  refine fo_iconst (fa_257 rfl) fk_c_0 ?_
  refine fo_iconst (fa_257 rfl) fk_c_0 ?_
  refine fo_iconst (fa_257 rfl) fk_c_0 ?_
  refine fo_virtual (by decide) fna_171 (fo_call (fa_257 rfl) fNs_virtual fsm_171 (by decide) fFil_0 fna_171 fx_171 (by rw [fP_171]; rfl) fh_257 ?_)
  refine fo_if_eq (fa_257 rfl) (pcT := 24) rfl fs_257_24 ?_
  refine fo_iconst (fa_257 rfl) fk_c_0 ?_
  exact fo_iret (fa_257 rfl) fr_257 fw_int
theorem fs_257_12 : fSB 257 [0, 28, 36] 2 12 f_257_12 := by
  unfold f_257_12
  refine fo_iconst (fa_257 rfl) fk_c_0 ?_
  exact fs_257_13
theorem fs_257_0 : fSB 257 [0, 28, 36] 2 0 f_257_0 := by
  unfold f_257_0
  refine fo_aload_n (k := 0) (fa_257 rfl) ?_
  refine fo_iload_n (k := 1) (fa_257 rfl) ?_
  refine fo_static (by decide) (fo_call (fa_257 rfl) fNs_static fsm_251 (by decide) fFil_0 fna_251 fx_251 (by rw [fP_251]; rfl) fh_257 ?_)
  refine fo_if_ne (fa_257 rfl) (pcT := 12) rfl fs_257_12 ?_
  refine fo_iconst (fa_257 rfl) fk_c_1 ?_
  exact fo_goto (fa_257 rfl) (pcT := 13) rfl fs_257_13
theorem fsm_257 : fSM 257 2 fm_257 := fs_methH (lp := [0, 28, 36]) (by decide) rfl ⟨fs_257_0, fs_257_28, fs_257_36, trivial⟩
theorem fP_258 : mj_P 258 = (8, 3, (some .int), mcX8_settingOf, []) := rfl
theorem fa_258 {pc : Nat} {e : mjE} (h : mj_at mcX8_settingOf pc = some e) : fAt 258 pc e := by unfold fAt; rw [fP_258]; exact h
theorem fr_258 : (mj_P 258).2.2.1 = (some .int) := by rw [fP_258]
theorem fna_258 : (mj_P 258).2.1 = 3 := by rw [fP_258]
theorem fx_258 : 3 ≤ mj_mx.getD 258 0 := by decide
theorem fh_258 : (mj_P 258).2.2.2.2.isEmpty = true := by rw [fP_258]; rfl
theorem fs_258_26 : fSB 258 [0] 1 26 f_258_26 := by
  unfold f_258_26
  exact fo_iret (fa_258 rfl) fr_258 fw_int
theorem fs_258_13 : fSB 258 [0] 1 13 f_258_13 := by
  unfold f_258_13
  refine fo_iload_n (k := 0) (fa_258 rfl) ?_
  refine fo_iload_n (k := 0) (fa_258 rfl) ?_
  refine fo_iload_n (k := 3) (fa_258 rfl) ?_
  refine fo_iload_n (k := 2) (fa_258 rfl) ?_
  refine fo_static (by decide) (fo_call (fa_258 rfl) fNs_static fsm_187 (by decide) fFil_3 fna_187 fx_187 (by rw [fP_187]; rfl) fh_258 ?_)
  refine fo_iload_n (k := 1) (fa_258 rfl) ?_
  refine fo_iload_n (k := 0) (fa_258 rfl) ?_
  refine fo_irem (fa_258 rfl) ?_
  refine fo_static (by decide) (fo_call (fa_258 rfl) fNs_static fsm_186 (by decide) fFil_0 fna_186 fx_186 (by rw [fP_186]; rfl) fh_258 ?_)
  exact fs_258_26
theorem fs_258_0 : fSB 258 [0] 1 0 f_258_0 := by
  unfold f_258_0
  refine fo_iload_n (k := 1) (fa_258 rfl) ?_
  refine fo_iload_n (k := 0) (fa_258 rfl) ?_
  refine fo_idiv (fa_258 rfl) ?_
  refine fo_istore_n (k := 3) (fa_258 rfl) ?_
  refine fo_iload_n (k := 2) (fa_258 rfl) ?_
  refine fo_iload_n (k := 0) (fa_258 rfl) ?_
  refine fo_icmp_ne (fa_258 rfl) (pcT := 13) rfl fs_258_13 ?_
  refine fo_iload_n (k := 3) (fa_258 rfl) ?_
  exact fo_goto (fa_258 rfl) (pcT := 26) rfl fs_258_26
theorem fsm_258 : fSM 258 1 fm_258 := fs_methH (lp := [0]) (by decide) rfl ⟨fs_258_0, trivial⟩
theorem fP_259 : mj_P 259 = (8, 4, (some .int), mcX8_setting, []) := rfl
theorem fa_259 {pc : Nat} {e : mjE} (h : mj_at mcX8_setting pc = some e) : fAt 259 pc e := by unfold fAt; rw [fP_259]; exact h
theorem fr_259 : (mj_P 259).2.2.1 = (some .int) := by rw [fP_259]
theorem fna_259 : (mj_P 259).2.1 = 4 := by rw [fP_259]
theorem fx_259 : 4 ≤ mj_mx.getD 259 0 := by decide
theorem fh_259 : (mj_P 259).2.2.2.2.isEmpty = true := by rw [fP_259]; rfl
theorem fs_259_70 : fSB 259 [0] 2 70 f_259_70 := by
  unfold f_259_70
  exact fo_iret (fa_259 rfl) fr_259 fw_int
theorem fs_259_64 : fSB 259 [0] 2 64 f_259_64 := by
  unfold f_259_64
  refine fo_iload_n (k := 1) (fa_259 rfl) ?_
  refine fo_iload_n (k := 2) (fa_259 rfl) ?_
  refine fo_iload_n (k := 3) (fa_259 rfl) ?_
  refine fo_static (by decide) (fo_call (fa_259 rfl) fNs_static fsm_258 (by decide) fFil_1 fna_258 fx_258 (by rw [fP_258]; rfl) fh_259 ?_)
  exact fs_259_70
theorem fs_259_51 : fSB 259 [0] 2 51 f_259_51 := by
  unfold f_259_51
  refine fo_iconst (fa_259 rfl) fk_c_0 ?_
  refine fo_iconst (fa_259 rfl) fk_c_0 ?_
  refine fo_iconst (fa_259 rfl) fk_c_0 ?_
  refine fo_virtual (by decide) fna_171 (fo_call (fa_259 rfl) fNs_virtual fsm_171 (by decide) fFil_0 fna_171 fx_171 (by rw [fP_171]; rfl) fh_259 ?_)
  refine fo_if_eq (fa_259 rfl) (pcT := 64) rfl fs_259_64 ?_
  refine fo_iconst (fa_259 rfl) fk_c_0 ?_
  exact fo_goto (fa_259 rfl) (pcT := 70) rfl fs_259_70
theorem fs_259_50 : fSB 259 [0] 2 50 f_259_50 := by
  unfold f_259_50
  refine fo_iconst (fa_259 rfl) fk_c_0 ?_
  exact fs_259_51
theorem fs_259_38 : fSB 259 [0] 2 38 f_259_38 := by
  unfold f_259_38
  refine fo_istore (k := 4) (fa_259 rfl) ?_
  refine fo_aload_n (k := 0) (fa_259 rfl) ?_
  refine fo_iload (k := 4) (fa_259 rfl) ?_
  refine fo_if_ne (fa_259 rfl) (pcT := 50) rfl fs_259_50 ?_
  refine fo_iconst (fa_259 rfl) fk_c_1 ?_
  exact fo_goto (fa_259 rfl) (pcT := 51) rfl fs_259_51
theorem fs_259_37 : fSB 259 [0] 2 37 f_259_37 := by
  unfold f_259_37
  refine fo_iconst (fa_259 rfl) fk_c_0 ?_
  exact fs_259_38
theorem fs_259_0 : fSB 259 [0] 2 0 f_259_0 := by
  unfold f_259_0
  refine fo_iload_n (k := 1) (fa_259 rfl) ?_
  refine fo_static (by decide) (fo_call (fa_259 rfl) fNs_static fsm_185 (by decide) fFil_0 fna_185 fx_185 (by rw [fP_185]; rfl) fh_259 ?_)
  refine fo_if_eq (fa_259 rfl) (pcT := 37) rfl fs_259_37 ?_
  refine fo_iload_n (k := 2) (fa_259 rfl) ?_
  refine fo_i2l (fa_259 rfl) ?_
  refine fo_lconst (fa_259 rfl) rfl ?_
  refine fo_iload_n (k := 1) (fa_259 rfl) ?_
  refine fo_iload_n (k := 1) (fa_259 rfl) ?_
  refine fo_imul (fa_259 rfl) ?_
  refine fo_iconst (fa_259 rfl) fk_c_1 ?_
  refine fo_isub (fa_259 rfl) ?_
  refine fo_i2l (fa_259 rfl) ?_
  refine fo_static (by decide) (fo_call (fa_259 rfl) fNs_static fsm_172 (by decide) fFil_0 fna_172 fx_172 (by rw [fP_172]; rfl) fh_259 ?_)
  refine fo_if_eq (fa_259 rfl) (pcT := 37) rfl fs_259_37 ?_
  refine fo_iload_n (k := 3) (fa_259 rfl) ?_
  refine fo_i2l (fa_259 rfl) ?_
  refine fo_lconst (fa_259 rfl) rfl ?_
  refine fo_iload_n (k := 1) (fa_259 rfl) ?_
  refine fo_i2l (fa_259 rfl) ?_
  refine fo_static (by decide) (fo_call (fa_259 rfl) fNs_static fsm_172 (by decide) fFil_0 fna_172 fx_172 (by rw [fP_172]; rfl) fh_259 ?_)
  refine fo_if_eq (fa_259 rfl) (pcT := 37) rfl fs_259_37 ?_
  refine fo_iconst (fa_259 rfl) fk_c_1 ?_
  exact fo_goto (fa_259 rfl) (pcT := 38) rfl fs_259_38
theorem fsm_259 : fSM 259 2 fm_259 := fs_methH (lp := [0]) (by decide) rfl ⟨fs_259_0, trivial⟩
